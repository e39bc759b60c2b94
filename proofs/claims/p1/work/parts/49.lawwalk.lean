def am_sg (a b : Int32) : Int64 := (a.toInt64 <<< ((32 : Int32).toInt64 &&& 63)) ||| (b.toInt64 &&& 4294967295)
theorem lw_end {d L i : Nat} {h : am_H} {xs : Nat → Int32} {P : Option Value → am_H → Prop} (hL : L ≤ 2560) (hi : i ≤ L) (hlt : L < i + 5) (h0 : h.2.2 0 = .inl (1, L, .inl xs)) (hP : P (some (.int 1)) h) : am_wp d 226 18 (am_lvL i) [] h P := by
  refine am_s rfl rfl ?_
  refine am_s rfl rfl ?_
  refine am_al rfl (Nat.zero_le _) h0 (by decide) ?_
  refine am_s rfl rfl ?_
  refine am_s rfl rfl ?_
  refine am_bt rfl rfl (decide_eq_true ?_) ?_
  · show nI L - nI 5 < nI i
    rw [Int32.lt_iff_toInt_lt, pk_sub_toInt (by omega) (by omega), nI_toInt (by omega)]
    omega
  refine am_s rfl rfl ?_
  exact am_r rfl rfl hP
theorem lw_next {d i : Nat} {h : am_H} {P : Option Value → am_H → Prop} (k : am_wp d 226 18 (am_lvL (i + 5)) [] h P) : am_wp d 226 828 (am_lvL i) [] h P := by
  refine am_s (pc' := 831) (lv' := am_lvL (i + 5)) (st' := []) (h' := h) rfl ?_ ?_
  · show some (Sum.inl (831, (3, Value.int (nI i + nI 5)) :: [(2, .ref 168), (1, .ref 1), (0, .ref 0)], [], h)) = _
    rw [nI_add]
    rfl
  refine am_s rfl rfl ?_
  exact k
theorem lw_head {d L i : Nat} {h : am_H} {xs : Nat → Int32} {P : Option Value → am_H → Prop} (hL : L ≤ 2560) (hi : i + 5 ≤ L) (h0 : h.2.2 0 = .inl (1, L, .inl xs)) (k : am_wp d 226 32 (am_lvL i) [.int (xs i &&& 31)] h P) : am_wp d 226 18 (am_lvL i) [] h P := by
  refine am_s rfl rfl ?_
  refine am_s rfl rfl ?_
  refine am_al rfl (Nat.zero_le _) h0 (by decide) ?_
  refine am_s rfl rfl ?_
  refine am_s rfl rfl ?_
  refine am_bf rfl rfl (decide_eq_false ?_) ?_
  · show ¬ nI L - nI 5 < nI i
    rw [Int32.lt_iff_toInt_lt, pk_sub_toInt (by omega) (by omega), nI_toInt (by omega)]
    omega
  refine am_s rfl rfl ?_
  refine am_s rfl rfl ?_
  refine am_sc rfl h0 rfl (by omega) hL ?_
  refine am_s rfl rfl ?_
  refine am_s rfl rfl ?_
  exact k
theorem lw_case0 {L i : Nat} {h : am_H} {xs : Nat → Int32} {P : Option Value → am_H → Prop} (hL : L ≤ 2560) (hi : i + 5 ≤ L) (h0 : h.2.2 0 = .inl (1, L, .inl xs)) (hp : am_pairI h 122 160 [.int (xs (i + 1))] (fun h2 => am_wp 30 226 828 (am_lvL i) [] h2 P)) : am_wp 30 226 160 (am_lvL i) [] h P := by
  obtain ⟨⟨fs1, h1c⟩, h1n, hx⟩ := hp
  refine am_s rfl rfl ?_
  refine am_s rfl rfl ?_
  refine am_s rfl rfl ?_
  refine am_s rfl rfl ?_
  refine am_s rfl rfl ?_
  refine am_sc rfl h0 (nI_add i 1) (by omega) hL ?_
  refine am_cv (As := [.int (xs (i + 1))]) (rest := []) rfl (Or.inl rfl) rfl rfl (Nat.le_of_ble_eq_true rfl) rfl ⟨by omega, h1n⟩ h1c (am_wp_le hx) ?_
  rintro rv h1 ⟨⟨x, rfl, ⟨fs2, h2c⟩, h2n, hm⟩, hle⟩
  have h01 : h1.2.2 0 = .inl (1, L, .inl xs) := hle.2.2.trans h0
  refine am_s rfl rfl ?_
  refine am_s rfl rfl ?_
  refine am_s rfl rfl ?_
  refine am_s rfl rfl ?_
  refine am_s rfl rfl ?_
  refine am_sc rfl h01 (nI_add i 1) (by omega) hL ?_
  refine am_cv (As := [.int (xs (i + 1))]) (rest := [.int x]) rfl (Or.inl rfl) rfl rfl (Nat.le_of_ble_eq_true rfl) rfl ⟨by omega, h2n⟩ h2c hm ?_
  rintro rv h2 ⟨rfl, hN⟩
  exact am_bt rfl rfl (decide_eq_true rfl) hN
theorem lw_case1 {L i : Nat} {h : am_H} {xs : Nat → Int32} {P : Option Value → am_H → Prop} (hL : L ≤ 2560) (hi : i + 5 ≤ L) (h0 : h.2.2 0 = .inl (1, L, .inl xs)) (hp : am_pairI h 123 161 [.long (am_sg (xs (i + 1)) (xs (i + 2))), .int (xs (i + 3))] (fun h2 => am_wp 30 226 828 (am_lvL i) [] h2 P)) : am_wp 30 226 183 (am_lvL i) [] h P := by
  obtain ⟨⟨fs1, h1c⟩, h1n, hx⟩ := hp
  refine am_s rfl rfl ?_
  refine am_s rfl rfl ?_
  refine am_s rfl rfl ?_
  refine am_s rfl rfl ?_
  refine am_s rfl rfl ?_
  refine am_sc rfl h0 (nI_add i 1) (by omega) hL ?_
  refine am_s rfl rfl ?_
  refine am_s rfl rfl ?_
  refine am_s rfl rfl ?_
  refine am_s rfl rfl ?_
  refine am_s rfl rfl ?_
  refine am_s rfl rfl ?_
  refine am_s rfl rfl ?_
  refine am_sc rfl h0 (nI_add i 2) (by omega) hL ?_
  refine am_s rfl rfl ?_
  refine am_s rfl rfl ?_
  refine am_s rfl rfl ?_
  refine am_s rfl rfl ?_
  refine am_s rfl rfl ?_
  refine am_s rfl rfl ?_
  refine am_s rfl rfl ?_
  refine am_s rfl rfl ?_
  refine am_sc rfl h0 (nI_add i 3) (by omega) hL ?_
  refine am_cv (As := [.long (am_sg (xs (i + 1)) (xs (i + 2))), .int (xs (i + 3))]) (rest := []) rfl (Or.inl rfl) rfl rfl (Nat.le_of_ble_eq_true rfl) rfl ⟨by omega, h1n⟩ h1c (am_wp_le hx) ?_
  rintro rv h1 ⟨⟨x, rfl, ⟨fs2, h2c⟩, h2n, hm⟩, hle⟩
  have h01 : h1.2.2 0 = .inl (1, L, .inl xs) := hle.2.2.trans h0
  refine am_s rfl rfl ?_
  refine am_s rfl rfl ?_
  refine am_s rfl rfl ?_
  refine am_s rfl rfl ?_
  refine am_s rfl rfl ?_
  refine am_sc rfl h01 (nI_add i 1) (by omega) hL ?_
  refine am_s rfl rfl ?_
  refine am_s rfl rfl ?_
  refine am_s rfl rfl ?_
  refine am_s rfl rfl ?_
  refine am_s rfl rfl ?_
  refine am_s rfl rfl ?_
  refine am_s rfl rfl ?_
  refine am_sc rfl h01 (nI_add i 2) (by omega) hL ?_
  refine am_s rfl rfl ?_
  refine am_s rfl rfl ?_
  refine am_s rfl rfl ?_
  refine am_s rfl rfl ?_
  refine am_s rfl rfl ?_
  refine am_s rfl rfl ?_
  refine am_s rfl rfl ?_
  refine am_s rfl rfl ?_
  refine am_sc rfl h01 (nI_add i 3) (by omega) hL ?_
  refine am_cv (As := [.long (am_sg (xs (i + 1)) (xs (i + 2))), .int (xs (i + 3))]) (rest := [.int x]) rfl (Or.inl rfl) rfl rfl (Nat.le_of_ble_eq_true rfl) rfl ⟨by omega, h2n⟩ h2c hm ?_
  rintro rv h2 ⟨rfl, hN⟩
  exact am_bt rfl rfl (decide_eq_true rfl) hN
theorem lw_case2 {L i : Nat} {h : am_H} {xs : Nat → Int32} {P : Option Value → am_H → Prop} (hL : L ≤ 2560) (hi : i + 5 ≤ L) (h0 : h.2.2 0 = .inl (1, L, .inl xs)) (hp : am_pairI h 124 162 [] (fun h2 => am_wp 30 226 828 (am_lvL i) [] h2 P)) : am_wp 30 226 246 (am_lvL i) [] h P := by
  obtain ⟨⟨fs1, h1c⟩, h1n, hx⟩ := hp
  refine am_s rfl rfl ?_
  refine am_cv (As := []) (rest := []) rfl (Or.inl rfl) rfl rfl (Nat.le_of_ble_eq_true rfl) rfl ⟨by omega, h1n⟩ h1c (am_wp_le hx) ?_
  rintro rv h1 ⟨⟨x, rfl, ⟨fs2, h2c⟩, h2n, hm⟩, hle⟩
  have h01 : h1.2.2 0 = .inl (1, L, .inl xs) := hle.2.2.trans h0
  refine am_s rfl rfl ?_
  refine am_cv (As := []) (rest := [.int x]) rfl (Or.inl rfl) rfl rfl (Nat.le_of_ble_eq_true rfl) rfl ⟨by omega, h2n⟩ h2c hm ?_
  rintro rv h2 ⟨rfl, hN⟩
  exact am_bt rfl rfl (decide_eq_true rfl) hN
theorem lw_case3 {L i : Nat} {h : am_H} {xs : Nat → Int32} {P : Option Value → am_H → Prop} (hL : L ≤ 2560) (hi : i + 5 ≤ L) (h0 : h.2.2 0 = .inl (1, L, .inl xs)) (hp : am_pairI h 125 172 [] (fun h2 => am_wp 30 226 828 (am_lvL i) [] h2 P)) : am_wp 30 226 259 (am_lvL i) [] h P := by
  obtain ⟨⟨fs1, h1c⟩, h1n, hx⟩ := hp
  refine am_s rfl rfl ?_
  refine am_cv (As := []) (rest := []) rfl (Or.inl rfl) rfl rfl (Nat.le_of_ble_eq_true rfl) rfl ⟨by omega, h1n⟩ h1c (am_wp_le hx) ?_
  rintro rv h1 ⟨⟨x, rfl, ⟨fs2, h2c⟩, h2n, hm⟩, hle⟩
  have h01 : h1.2.2 0 = .inl (1, L, .inl xs) := hle.2.2.trans h0
  refine am_s rfl rfl ?_
  refine am_cv (As := []) (rest := [.int x]) rfl (Or.inl rfl) rfl rfl (Nat.le_of_ble_eq_true rfl) rfl ⟨by omega, h2n⟩ h2c hm ?_
  rintro rv h2 ⟨rfl, hN⟩
  exact am_bt rfl rfl (decide_eq_true rfl) hN
theorem lw_case4 {L i : Nat} {h : am_H} {xs : Nat → Int32} {P : Option Value → am_H → Prop} (hL : L ≤ 2560) (hi : i + 5 ≤ L) (h0 : h.2.2 0 = .inl (1, L, .inl xs)) (hp : am_pairI h 126 173 [] (fun h2 => am_wp 30 226 828 (am_lvL i) [] h2 P)) : am_wp 30 226 272 (am_lvL i) [] h P := by
  obtain ⟨⟨fs1, h1c⟩, h1n, hx⟩ := hp
  refine am_s rfl rfl ?_
  refine am_cv (As := []) (rest := []) rfl (Or.inl rfl) rfl rfl (Nat.le_of_ble_eq_true rfl) rfl ⟨by omega, h1n⟩ h1c (am_wp_le hx) ?_
  rintro rv h1 ⟨⟨x, rfl, ⟨fs2, h2c⟩, h2n, hm⟩, hle⟩
  have h01 : h1.2.2 0 = .inl (1, L, .inl xs) := hle.2.2.trans h0
  refine am_s rfl rfl ?_
  refine am_cv (As := []) (rest := [.int x]) rfl (Or.inl rfl) rfl rfl (Nat.le_of_ble_eq_true rfl) rfl ⟨by omega, h2n⟩ h2c hm ?_
  rintro rv h2 ⟨rfl, hN⟩
  exact am_bt rfl rfl (decide_eq_true rfl) hN
theorem lw_case5 {L i : Nat} {h : am_H} {xs : Nat → Int32} {P : Option Value → am_H → Prop} (hL : L ≤ 2560) (hi : i + 5 ≤ L) (h0 : h.2.2 0 = .inl (1, L, .inl xs)) (hp : am_pairI h 127 174 [.int (xs (i + 1))] (fun h2 => am_wp 30 226 828 (am_lvL i) [] h2 P)) : am_wp 30 226 285 (am_lvL i) [] h P := by
  obtain ⟨⟨fs1, h1c⟩, h1n, hx⟩ := hp
  refine am_s rfl rfl ?_
  refine am_s rfl rfl ?_
  refine am_s rfl rfl ?_
  refine am_s rfl rfl ?_
  refine am_s rfl rfl ?_
  refine am_sc rfl h0 (nI_add i 1) (by omega) hL ?_
  refine am_cv (As := [.int (xs (i + 1))]) (rest := []) rfl (Or.inl rfl) rfl rfl (Nat.le_of_ble_eq_true rfl) rfl ⟨by omega, h1n⟩ h1c (am_wp_le hx) ?_
  rintro rv h1 ⟨⟨x, rfl, ⟨fs2, h2c⟩, h2n, hm⟩, hle⟩
  have h01 : h1.2.2 0 = .inl (1, L, .inl xs) := hle.2.2.trans h0
  refine am_s rfl rfl ?_
  refine am_s rfl rfl ?_
  refine am_s rfl rfl ?_
  refine am_s rfl rfl ?_
  refine am_s rfl rfl ?_
  refine am_sc rfl h01 (nI_add i 1) (by omega) hL ?_
  refine am_cv (As := [.int (xs (i + 1))]) (rest := [.int x]) rfl (Or.inl rfl) rfl rfl (Nat.le_of_ble_eq_true rfl) rfl ⟨by omega, h2n⟩ h2c hm ?_
  rintro rv h2 ⟨rfl, hN⟩
  exact am_bt rfl rfl (decide_eq_true rfl) hN
theorem lw_case6 {L i : Nat} {h : am_H} {xs : Nat → Int32} {P : Option Value → am_H → Prop} (hL : L ≤ 2560) (hi : i + 5 ≤ L) (h0 : h.2.2 0 = .inl (1, L, .inl xs)) (hp : am_pairI h 128 175 [.int (xs (i + 1)), .int (xs (i + 2)), .int (xs (i + 3)), .int (if xs (i + 4) = 0 then 0 else 1)] (fun h2 => am_wp 30 226 828 (am_lvL i) [] h2 P)) : am_wp 30 226 308 (am_lvL i) [] h P := by
  obtain ⟨⟨fs1, h1c⟩, h1n, hx⟩ := hp
  by_cases hz : xs (i + 4) = 0
  · rw [if_pos hz] at hx
    refine am_s rfl rfl ?_
    refine am_s rfl rfl ?_
    refine am_s rfl rfl ?_
    refine am_s rfl rfl ?_
    refine am_s rfl rfl ?_
    refine am_sc rfl h0 (nI_add i 1) (by omega) hL ?_
    refine am_s rfl rfl ?_
    refine am_s rfl rfl ?_
    refine am_s rfl rfl ?_
    refine am_s rfl rfl ?_
    refine am_sc rfl h0 (nI_add i 2) (by omega) hL ?_
    refine am_s rfl rfl ?_
    refine am_s rfl rfl ?_
    refine am_s rfl rfl ?_
    refine am_s rfl rfl ?_
    refine am_sc rfl h0 (nI_add i 3) (by omega) hL ?_
    refine am_s rfl rfl ?_
    refine am_s rfl rfl ?_
    refine am_s rfl rfl ?_
    refine am_s rfl rfl ?_
    refine am_sc rfl h0 (nI_add i 4) (by omega) hL ?_
    refine am_bt rfl rfl (decide_eq_true hz) ?_
    refine am_s rfl rfl ?_
    refine am_cv (As := [.int (xs (i + 1)), .int (xs (i + 2)), .int (xs (i + 3)), .int 0]) (rest := []) rfl (Or.inl rfl) rfl rfl (Nat.le_of_ble_eq_true rfl) rfl ⟨by omega, h1n⟩ h1c (am_wp_le hx) ?_
    rintro rv h1 ⟨⟨x, rfl, ⟨fs2, h2c⟩, h2n, hm⟩, hle⟩
    have h01 : h1.2.2 0 = .inl (1, L, .inl xs) := hle.2.2.trans h0
    refine am_s rfl rfl ?_
    refine am_s rfl rfl ?_
    refine am_s rfl rfl ?_
    refine am_s rfl rfl ?_
    refine am_s rfl rfl ?_
    refine am_sc rfl h01 (nI_add i 1) (by omega) hL ?_
    refine am_s rfl rfl ?_
    refine am_s rfl rfl ?_
    refine am_s rfl rfl ?_
    refine am_s rfl rfl ?_
    refine am_sc rfl h01 (nI_add i 2) (by omega) hL ?_
    refine am_s rfl rfl ?_
    refine am_s rfl rfl ?_
    refine am_s rfl rfl ?_
    refine am_s rfl rfl ?_
    refine am_sc rfl h01 (nI_add i 3) (by omega) hL ?_
    refine am_s rfl rfl ?_
    refine am_s rfl rfl ?_
    refine am_s rfl rfl ?_
    refine am_s rfl rfl ?_
    refine am_sc rfl h01 (nI_add i 4) (by omega) hL ?_
    refine am_bt rfl rfl (decide_eq_true hz) ?_
    refine am_s rfl rfl ?_
    refine am_cv (As := [.int (xs (i + 1)), .int (xs (i + 2)), .int (xs (i + 3)), .int 0]) (rest := [.int x]) rfl (Or.inl rfl) rfl rfl (Nat.le_of_ble_eq_true rfl) rfl ⟨by omega, h2n⟩ h2c hm ?_
    rintro rv h2 ⟨rfl, hN⟩
    exact am_bt rfl rfl (decide_eq_true rfl) hN
  · rw [if_neg hz] at hx
    refine am_s rfl rfl ?_
    refine am_s rfl rfl ?_
    refine am_s rfl rfl ?_
    refine am_s rfl rfl ?_
    refine am_s rfl rfl ?_
    refine am_sc rfl h0 (nI_add i 1) (by omega) hL ?_
    refine am_s rfl rfl ?_
    refine am_s rfl rfl ?_
    refine am_s rfl rfl ?_
    refine am_s rfl rfl ?_
    refine am_sc rfl h0 (nI_add i 2) (by omega) hL ?_
    refine am_s rfl rfl ?_
    refine am_s rfl rfl ?_
    refine am_s rfl rfl ?_
    refine am_s rfl rfl ?_
    refine am_sc rfl h0 (nI_add i 3) (by omega) hL ?_
    refine am_s rfl rfl ?_
    refine am_s rfl rfl ?_
    refine am_s rfl rfl ?_
    refine am_s rfl rfl ?_
    refine am_sc rfl h0 (nI_add i 4) (by omega) hL ?_
    refine am_bf rfl rfl (decide_eq_false hz) ?_
    refine am_s rfl rfl ?_
    refine am_s rfl rfl ?_
    refine am_cv (As := [.int (xs (i + 1)), .int (xs (i + 2)), .int (xs (i + 3)), .int 1]) (rest := []) rfl (Or.inl rfl) rfl rfl (Nat.le_of_ble_eq_true rfl) rfl ⟨by omega, h1n⟩ h1c (am_wp_le hx) ?_
    rintro rv h1 ⟨⟨x, rfl, ⟨fs2, h2c⟩, h2n, hm⟩, hle⟩
    have h01 : h1.2.2 0 = .inl (1, L, .inl xs) := hle.2.2.trans h0
    refine am_s rfl rfl ?_
    refine am_s rfl rfl ?_
    refine am_s rfl rfl ?_
    refine am_s rfl rfl ?_
    refine am_s rfl rfl ?_
    refine am_sc rfl h01 (nI_add i 1) (by omega) hL ?_
    refine am_s rfl rfl ?_
    refine am_s rfl rfl ?_
    refine am_s rfl rfl ?_
    refine am_s rfl rfl ?_
    refine am_sc rfl h01 (nI_add i 2) (by omega) hL ?_
    refine am_s rfl rfl ?_
    refine am_s rfl rfl ?_
    refine am_s rfl rfl ?_
    refine am_s rfl rfl ?_
    refine am_sc rfl h01 (nI_add i 3) (by omega) hL ?_
    refine am_s rfl rfl ?_
    refine am_s rfl rfl ?_
    refine am_s rfl rfl ?_
    refine am_s rfl rfl ?_
    refine am_sc rfl h01 (nI_add i 4) (by omega) hL ?_
    refine am_bf rfl rfl (decide_eq_false hz) ?_
    refine am_s rfl rfl ?_
    refine am_s rfl rfl ?_
    refine am_cv (As := [.int (xs (i + 1)), .int (xs (i + 2)), .int (xs (i + 3)), .int 1]) (rest := [.int x]) rfl (Or.inl rfl) rfl rfl (Nat.le_of_ble_eq_true rfl) rfl ⟨by omega, h2n⟩ h2c hm ?_
    rintro rv h2 ⟨rfl, hN⟩
    exact am_bt rfl rfl (decide_eq_true rfl) hN
theorem lw_case7 {L i : Nat} {h : am_H} {xs : Nat → Int32} {P : Option Value → am_H → Prop} (hL : L ≤ 2560) (hi : i + 5 ≤ L) (h0 : h.2.2 0 = .inl (1, L, .inl xs)) (hp : am_pairI h 129 176 [.int (xs (i + 1)), .int (xs (i + 2))] (fun h2 => am_wp 30 226 828 (am_lvL i) [] h2 P)) : am_wp 30 226 377 (am_lvL i) [] h P := by
  obtain ⟨⟨fs1, h1c⟩, h1n, hx⟩ := hp
  refine am_s rfl rfl ?_
  refine am_s rfl rfl ?_
  refine am_s rfl rfl ?_
  refine am_s rfl rfl ?_
  refine am_s rfl rfl ?_
  refine am_sc rfl h0 (nI_add i 1) (by omega) hL ?_
  refine am_s rfl rfl ?_
  refine am_s rfl rfl ?_
  refine am_s rfl rfl ?_
  refine am_s rfl rfl ?_
  refine am_sc rfl h0 (nI_add i 2) (by omega) hL ?_
  refine am_cv (As := [.int (xs (i + 1)), .int (xs (i + 2))]) (rest := []) rfl (Or.inl rfl) rfl rfl (Nat.le_of_ble_eq_true rfl) rfl ⟨by omega, h1n⟩ h1c (am_wp_le hx) ?_
  rintro rv h1 ⟨⟨x, rfl, ⟨fs2, h2c⟩, h2n, hm⟩, hle⟩
  have h01 : h1.2.2 0 = .inl (1, L, .inl xs) := hle.2.2.trans h0
  refine am_s rfl rfl ?_
  refine am_s rfl rfl ?_
  refine am_s rfl rfl ?_
  refine am_s rfl rfl ?_
  refine am_s rfl rfl ?_
  refine am_sc rfl h01 (nI_add i 1) (by omega) hL ?_
  refine am_s rfl rfl ?_
  refine am_s rfl rfl ?_
  refine am_s rfl rfl ?_
  refine am_s rfl rfl ?_
  refine am_sc rfl h01 (nI_add i 2) (by omega) hL ?_
  refine am_cv (As := [.int (xs (i + 1)), .int (xs (i + 2))]) (rest := [.int x]) rfl (Or.inl rfl) rfl rfl (Nat.le_of_ble_eq_true rfl) rfl ⟨by omega, h2n⟩ h2c hm ?_
  rintro rv h2 ⟨rfl, hN⟩
  exact am_bt rfl rfl (decide_eq_true rfl) hN
theorem lw_case8 {L i : Nat} {h : am_H} {xs : Nat → Int32} {P : Option Value → am_H → Prop} (hL : L ≤ 2560) (hi : i + 5 ≤ L) (h0 : h.2.2 0 = .inl (1, L, .inl xs)) (hp : am_pairI h 130 177 [] (fun h2 => am_wp 30 226 828 (am_lvL i) [] h2 P)) : am_wp 30 226 410 (am_lvL i) [] h P := by
  obtain ⟨⟨fs1, h1c⟩, h1n, hx⟩ := hp
  refine am_s rfl rfl ?_
  refine am_cv (As := []) (rest := []) rfl (Or.inl rfl) rfl rfl (Nat.le_of_ble_eq_true rfl) rfl ⟨by omega, h1n⟩ h1c (am_wp_le hx) ?_
  rintro rv h1 ⟨⟨x, rfl, ⟨fs2, h2c⟩, h2n, hm⟩, hle⟩
  have h01 : h1.2.2 0 = .inl (1, L, .inl xs) := hle.2.2.trans h0
  refine am_s rfl rfl ?_
  refine am_cv (As := []) (rest := [.int x]) rfl (Or.inl rfl) rfl rfl (Nat.le_of_ble_eq_true rfl) rfl ⟨by omega, h2n⟩ h2c hm ?_
  rintro rv h2 ⟨rfl, hN⟩
  exact am_bt rfl rfl (decide_eq_true rfl) hN
theorem lw_case9 {L i : Nat} {h : am_H} {xs : Nat → Int32} {P : Option Value → am_H → Prop} (hL : L ≤ 2560) (hi : i + 5 ≤ L) (h0 : h.2.2 0 = .inl (1, L, .inl xs)) (hp : am_pairI h 131 180 [.int (xs (i + 1))] (fun h2 => am_wp 30 226 828 (am_lvL i) [] h2 P)) : am_wp 30 226 423 (am_lvL i) [] h P := by
  obtain ⟨⟨fs1, h1c⟩, h1n, hx⟩ := hp
  refine am_s rfl rfl ?_
  refine am_s rfl rfl ?_
  refine am_s rfl rfl ?_
  refine am_s rfl rfl ?_
  refine am_s rfl rfl ?_
  refine am_sc rfl h0 (nI_add i 1) (by omega) hL ?_
  refine am_cv (As := [.int (xs (i + 1))]) (rest := []) rfl (Or.inl rfl) rfl rfl (Nat.le_of_ble_eq_true rfl) rfl ⟨by omega, h1n⟩ h1c (am_wp_le hx) ?_
  rintro rv h1 ⟨⟨x, rfl, ⟨fs2, h2c⟩, h2n, hm⟩, hle⟩
  have h01 : h1.2.2 0 = .inl (1, L, .inl xs) := hle.2.2.trans h0
  refine am_s rfl rfl ?_
  refine am_s rfl rfl ?_
  refine am_s rfl rfl ?_
  refine am_s rfl rfl ?_
  refine am_s rfl rfl ?_
  refine am_sc rfl h01 (nI_add i 1) (by omega) hL ?_
  refine am_cv (As := [.int (xs (i + 1))]) (rest := [.int x]) rfl (Or.inl rfl) rfl rfl (Nat.le_of_ble_eq_true rfl) rfl ⟨by omega, h2n⟩ h2c hm ?_
  rintro rv h2 ⟨rfl, hN⟩
  exact am_bt rfl rfl (decide_eq_true rfl) hN
theorem lw_case10 {L i : Nat} {h : am_H} {xs : Nat → Int32} {P : Option Value → am_H → Prop} (hL : L ≤ 2560) (hi : i + 5 ≤ L) (h0 : h.2.2 0 = .inl (1, L, .inl xs)) (hp : am_pairJ h 132 185 [] (fun h2 => am_wp 30 226 828 (am_lvL i) [] h2 P)) : am_wp 30 226 446 (am_lvL i) [] h P := by
  obtain ⟨⟨fs1, h1c⟩, h1n, hx⟩ := hp
  refine am_s rfl rfl ?_
  refine am_cv (As := []) (rest := []) rfl (Or.inl rfl) rfl rfl (Nat.le_of_ble_eq_true rfl) rfl ⟨by omega, h1n⟩ h1c (am_wp_le hx) ?_
  rintro rv h1 ⟨⟨x, rfl, ⟨fs2, h2c⟩, h2n, hm⟩, hle⟩
  have h01 : h1.2.2 0 = .inl (1, L, .inl xs) := hle.2.2.trans h0
  refine am_s rfl rfl ?_
  refine am_cv (As := []) (rest := [.long x]) rfl (Or.inl rfl) rfl rfl (Nat.le_of_ble_eq_true rfl) rfl ⟨by omega, h2n⟩ h2c hm ?_
  rintro rv h2 ⟨rfl, hN⟩
  refine am_s rfl rfl ?_
  refine am_bt rfl rfl (decide_eq_true (by unfold lg_cmp; simp)) hN
theorem lw_case11 {L i : Nat} {h : am_H} {xs : Nat → Int32} {P : Option Value → am_H → Prop} (hL : L ≤ 2560) (hi : i + 5 ≤ L) (h0 : h.2.2 0 = .inl (1, L, .inl xs)) (hp : am_pairI h 133 186 [.int (xs (i + 1))] (fun h2 => am_wp 30 226 828 (am_lvL i) [] h2 P)) : am_wp 30 226 460 (am_lvL i) [] h P := by
  obtain ⟨⟨fs1, h1c⟩, h1n, hx⟩ := hp
  refine am_s rfl rfl ?_
  refine am_s rfl rfl ?_
  refine am_s rfl rfl ?_
  refine am_s rfl rfl ?_
  refine am_s rfl rfl ?_
  refine am_sc rfl h0 (nI_add i 1) (by omega) hL ?_
  refine am_cv (As := [.int (xs (i + 1))]) (rest := []) rfl (Or.inl rfl) rfl rfl (Nat.le_of_ble_eq_true rfl) rfl ⟨by omega, h1n⟩ h1c (am_wp_le hx) ?_
  rintro rv h1 ⟨⟨x, rfl, ⟨fs2, h2c⟩, h2n, hm⟩, hle⟩
  have h01 : h1.2.2 0 = .inl (1, L, .inl xs) := hle.2.2.trans h0
  refine am_s rfl rfl ?_
  refine am_s rfl rfl ?_
  refine am_s rfl rfl ?_
  refine am_s rfl rfl ?_
  refine am_s rfl rfl ?_
  refine am_sc rfl h01 (nI_add i 1) (by omega) hL ?_
  refine am_cv (As := [.int (xs (i + 1))]) (rest := [.int x]) rfl (Or.inl rfl) rfl rfl (Nat.le_of_ble_eq_true rfl) rfl ⟨by omega, h2n⟩ h2c hm ?_
  rintro rv h2 ⟨rfl, hN⟩
  exact am_bt rfl rfl (decide_eq_true rfl) hN
theorem lw_case12 {L i : Nat} {h : am_H} {xs : Nat → Int32} {P : Option Value → am_H → Prop} (hL : L ≤ 2560) (hi : i + 5 ≤ L) (h0 : h.2.2 0 = .inl (1, L, .inl xs)) (hp : am_pairI h 134 188 [.int (xs (i + 1))] (fun h2 => am_wp 30 226 828 (am_lvL i) [] h2 P)) : am_wp 30 226 483 (am_lvL i) [] h P := by
  obtain ⟨⟨fs1, h1c⟩, h1n, hx⟩ := hp
  refine am_s rfl rfl ?_
  refine am_s rfl rfl ?_
  refine am_s rfl rfl ?_
  refine am_s rfl rfl ?_
  refine am_s rfl rfl ?_
  refine am_sc rfl h0 (nI_add i 1) (by omega) hL ?_
  refine am_cv (As := [.int (xs (i + 1))]) (rest := []) rfl (Or.inl rfl) rfl rfl (Nat.le_of_ble_eq_true rfl) rfl ⟨by omega, h1n⟩ h1c (am_wp_le hx) ?_
  rintro rv h1 ⟨⟨x, rfl, ⟨fs2, h2c⟩, h2n, hm⟩, hle⟩
  have h01 : h1.2.2 0 = .inl (1, L, .inl xs) := hle.2.2.trans h0
  refine am_s rfl rfl ?_
  refine am_s rfl rfl ?_
  refine am_s rfl rfl ?_
  refine am_s rfl rfl ?_
  refine am_s rfl rfl ?_
  refine am_sc rfl h01 (nI_add i 1) (by omega) hL ?_
  refine am_cv (As := [.int (xs (i + 1))]) (rest := [.int x]) rfl (Or.inl rfl) rfl rfl (Nat.le_of_ble_eq_true rfl) rfl ⟨by omega, h2n⟩ h2c hm ?_
  rintro rv h2 ⟨rfl, hN⟩
  exact am_bt rfl rfl (decide_eq_true rfl) hN
theorem lw_case13 {L i : Nat} {h : am_H} {xs : Nat → Int32} {P : Option Value → am_H → Prop} (hL : L ≤ 2560) (hi : i + 5 ≤ L) (h0 : h.2.2 0 = .inl (1, L, .inl xs)) (hp : am_pairI h 135 189 [.int (xs (i + 1))] (fun h2 => am_wp 30 226 828 (am_lvL i) [] h2 P)) : am_wp 30 226 506 (am_lvL i) [] h P := by
  obtain ⟨⟨fs1, h1c⟩, h1n, hx⟩ := hp
  refine am_s rfl rfl ?_
  refine am_s rfl rfl ?_
  refine am_s rfl rfl ?_
  refine am_s rfl rfl ?_
  refine am_s rfl rfl ?_
  refine am_sc rfl h0 (nI_add i 1) (by omega) hL ?_
  refine am_cv (As := [.int (xs (i + 1))]) (rest := []) rfl (Or.inl rfl) rfl rfl (Nat.le_of_ble_eq_true rfl) rfl ⟨by omega, h1n⟩ h1c (am_wp_le hx) ?_
  rintro rv h1 ⟨⟨x, rfl, ⟨fs2, h2c⟩, h2n, hm⟩, hle⟩
  have h01 : h1.2.2 0 = .inl (1, L, .inl xs) := hle.2.2.trans h0
  refine am_s rfl rfl ?_
  refine am_s rfl rfl ?_
  refine am_s rfl rfl ?_
  refine am_s rfl rfl ?_
  refine am_s rfl rfl ?_
  refine am_sc rfl h01 (nI_add i 1) (by omega) hL ?_
  refine am_cv (As := [.int (xs (i + 1))]) (rest := [.int x]) rfl (Or.inl rfl) rfl rfl (Nat.le_of_ble_eq_true rfl) rfl ⟨by omega, h2n⟩ h2c hm ?_
  rintro rv h2 ⟨rfl, hN⟩
  exact am_bt rfl rfl (decide_eq_true rfl) hN
theorem lw_case14 {L i : Nat} {h : am_H} {xs : Nat → Int32} {P : Option Value → am_H → Prop} (hL : L ≤ 2560) (hi : i + 5 ≤ L) (h0 : h.2.2 0 = .inl (1, L, .inl xs)) (hp : am_pairJ h 136 191 [] (fun h2 => am_wp 30 226 828 (am_lvL i) [] h2 P)) : am_wp 30 226 529 (am_lvL i) [] h P := by
  obtain ⟨⟨fs1, h1c⟩, h1n, hx⟩ := hp
  refine am_s rfl rfl ?_
  refine am_cv (As := []) (rest := []) rfl (Or.inl rfl) rfl rfl (Nat.le_of_ble_eq_true rfl) rfl ⟨by omega, h1n⟩ h1c (am_wp_le hx) ?_
  rintro rv h1 ⟨⟨x, rfl, ⟨fs2, h2c⟩, h2n, hm⟩, hle⟩
  have h01 : h1.2.2 0 = .inl (1, L, .inl xs) := hle.2.2.trans h0
  refine am_s rfl rfl ?_
  refine am_cv (As := []) (rest := [.long x]) rfl (Or.inl rfl) rfl rfl (Nat.le_of_ble_eq_true rfl) rfl ⟨by omega, h2n⟩ h2c hm ?_
  rintro rv h2 ⟨rfl, hN⟩
  refine am_s rfl rfl ?_
  refine am_bt rfl rfl (decide_eq_true (by unfold lg_cmp; simp)) hN
theorem lw_case15 {L i : Nat} {h : am_H} {xs : Nat → Int32} {P : Option Value → am_H → Prop} (hL : L ≤ 2560) (hi : i + 5 ≤ L) (h0 : h.2.2 0 = .inl (1, L, .inl xs)) (hp : am_pairI h 137 192 [.int (xs (i + 1))] (fun h2 => am_wp 30 226 828 (am_lvL i) [] h2 P)) : am_wp 30 226 543 (am_lvL i) [] h P := by
  obtain ⟨⟨fs1, h1c⟩, h1n, hx⟩ := hp
  refine am_s rfl rfl ?_
  refine am_s rfl rfl ?_
  refine am_s rfl rfl ?_
  refine am_s rfl rfl ?_
  refine am_s rfl rfl ?_
  refine am_sc rfl h0 (nI_add i 1) (by omega) hL ?_
  refine am_cv (As := [.int (xs (i + 1))]) (rest := []) rfl (Or.inl rfl) rfl rfl (Nat.le_of_ble_eq_true rfl) rfl ⟨by omega, h1n⟩ h1c (am_wp_le hx) ?_
  rintro rv h1 ⟨⟨x, rfl, ⟨fs2, h2c⟩, h2n, hm⟩, hle⟩
  have h01 : h1.2.2 0 = .inl (1, L, .inl xs) := hle.2.2.trans h0
  refine am_s rfl rfl ?_
  refine am_s rfl rfl ?_
  refine am_s rfl rfl ?_
  refine am_s rfl rfl ?_
  refine am_s rfl rfl ?_
  refine am_sc rfl h01 (nI_add i 1) (by omega) hL ?_
  refine am_cv (As := [.int (xs (i + 1))]) (rest := [.int x]) rfl (Or.inl rfl) rfl rfl (Nat.le_of_ble_eq_true rfl) rfl ⟨by omega, h2n⟩ h2c hm ?_
  rintro rv h2 ⟨rfl, hN⟩
  exact am_bt rfl rfl (decide_eq_true rfl) hN
theorem lw_case16 {L i : Nat} {h : am_H} {xs : Nat → Int32} {P : Option Value → am_H → Prop} (hL : L ≤ 2560) (hi : i + 5 ≤ L) (h0 : h.2.2 0 = .inl (1, L, .inl xs)) (hp : am_pairJ h 138 193 [] (fun h2 => am_wp 30 226 828 (am_lvL i) [] h2 P)) : am_wp 30 226 566 (am_lvL i) [] h P := by
  obtain ⟨⟨fs1, h1c⟩, h1n, hx⟩ := hp
  refine am_s rfl rfl ?_
  refine am_cv (As := []) (rest := []) rfl (Or.inl rfl) rfl rfl (Nat.le_of_ble_eq_true rfl) rfl ⟨by omega, h1n⟩ h1c (am_wp_le hx) ?_
  rintro rv h1 ⟨⟨x, rfl, ⟨fs2, h2c⟩, h2n, hm⟩, hle⟩
  have h01 : h1.2.2 0 = .inl (1, L, .inl xs) := hle.2.2.trans h0
  refine am_s rfl rfl ?_
  refine am_cv (As := []) (rest := [.long x]) rfl (Or.inl rfl) rfl rfl (Nat.le_of_ble_eq_true rfl) rfl ⟨by omega, h2n⟩ h2c hm ?_
  rintro rv h2 ⟨rfl, hN⟩
  refine am_s rfl rfl ?_
  refine am_bt rfl rfl (decide_eq_true (by unfold lg_cmp; simp)) hN
theorem lw_case17 {L i : Nat} {h : am_H} {xs : Nat → Int32} {P : Option Value → am_H → Prop} (hL : L ≤ 2560) (hi : i + 5 ≤ L) (h0 : h.2.2 0 = .inl (1, L, .inl xs)) (hp : am_pairI h 139 196 [] (fun h2 => am_wp 30 226 828 (am_lvL i) [] h2 P)) : am_wp 30 226 580 (am_lvL i) [] h P := by
  obtain ⟨⟨fs1, h1c⟩, h1n, hx⟩ := hp
  refine am_s rfl rfl ?_
  refine am_cv (As := []) (rest := []) rfl (Or.inl rfl) rfl rfl (Nat.le_of_ble_eq_true rfl) rfl ⟨by omega, h1n⟩ h1c (am_wp_le hx) ?_
  rintro rv h1 ⟨⟨x, rfl, ⟨fs2, h2c⟩, h2n, hm⟩, hle⟩
  have h01 : h1.2.2 0 = .inl (1, L, .inl xs) := hle.2.2.trans h0
  refine am_s rfl rfl ?_
  refine am_cv (As := []) (rest := [.int x]) rfl (Or.inl rfl) rfl rfl (Nat.le_of_ble_eq_true rfl) rfl ⟨by omega, h2n⟩ h2c hm ?_
  rintro rv h2 ⟨rfl, hN⟩
  exact am_bt rfl rfl (decide_eq_true rfl) hN
theorem lw_case18 {L i : Nat} {h : am_H} {xs : Nat → Int32} {P : Option Value → am_H → Prop} (hL : L ≤ 2560) (hi : i + 5 ≤ L) (h0 : h.2.2 0 = .inl (1, L, .inl xs)) (hp : am_pairI h 140 197 [.int (xs (i + 1))] (fun h2 => am_wp 30 226 828 (am_lvL i) [] h2 P)) : am_wp 30 226 593 (am_lvL i) [] h P := by
  obtain ⟨⟨fs1, h1c⟩, h1n, hx⟩ := hp
  refine am_s rfl rfl ?_
  refine am_s rfl rfl ?_
  refine am_s rfl rfl ?_
  refine am_s rfl rfl ?_
  refine am_s rfl rfl ?_
  refine am_sc rfl h0 (nI_add i 1) (by omega) hL ?_
  refine am_cv (As := [.int (xs (i + 1))]) (rest := []) rfl (Or.inl rfl) rfl rfl (Nat.le_of_ble_eq_true rfl) rfl ⟨by omega, h1n⟩ h1c (am_wp_le hx) ?_
  rintro rv h1 ⟨⟨x, rfl, ⟨fs2, h2c⟩, h2n, hm⟩, hle⟩
  have h01 : h1.2.2 0 = .inl (1, L, .inl xs) := hle.2.2.trans h0
  refine am_s rfl rfl ?_
  refine am_s rfl rfl ?_
  refine am_s rfl rfl ?_
  refine am_s rfl rfl ?_
  refine am_s rfl rfl ?_
  refine am_sc rfl h01 (nI_add i 1) (by omega) hL ?_
  refine am_cv (As := [.int (xs (i + 1))]) (rest := [.int x]) rfl (Or.inl rfl) rfl rfl (Nat.le_of_ble_eq_true rfl) rfl ⟨by omega, h2n⟩ h2c hm ?_
  rintro rv h2 ⟨rfl, hN⟩
  exact am_bt rfl rfl (decide_eq_true rfl) hN
theorem lw_case19 {L i : Nat} {h : am_H} {xs : Nat → Int32} {P : Option Value → am_H → Prop} (hL : L ≤ 2560) (hi : i + 5 ≤ L) (h0 : h.2.2 0 = .inl (1, L, .inl xs)) (hp : am_pairJ h 141 204 [.int (xs (i + 1)), .int (xs (i + 2))] (fun h2 => am_wp 30 226 828 (am_lvL i) [] h2 P)) : am_wp 30 226 616 (am_lvL i) [] h P := by
  obtain ⟨⟨fs1, h1c⟩, h1n, hx⟩ := hp
  refine am_s rfl rfl ?_
  refine am_s rfl rfl ?_
  refine am_s rfl rfl ?_
  refine am_s rfl rfl ?_
  refine am_s rfl rfl ?_
  refine am_sc rfl h0 (nI_add i 1) (by omega) hL ?_
  refine am_s rfl rfl ?_
  refine am_s rfl rfl ?_
  refine am_s rfl rfl ?_
  refine am_s rfl rfl ?_
  refine am_sc rfl h0 (nI_add i 2) (by omega) hL ?_
  refine am_cv (As := [.int (xs (i + 1)), .int (xs (i + 2))]) (rest := []) rfl (Or.inl rfl) rfl rfl (Nat.le_of_ble_eq_true rfl) rfl ⟨by omega, h1n⟩ h1c (am_wp_le hx) ?_
  rintro rv h1 ⟨⟨x, rfl, ⟨fs2, h2c⟩, h2n, hm⟩, hle⟩
  have h01 : h1.2.2 0 = .inl (1, L, .inl xs) := hle.2.2.trans h0
  refine am_s rfl rfl ?_
  refine am_s rfl rfl ?_
  refine am_s rfl rfl ?_
  refine am_s rfl rfl ?_
  refine am_s rfl rfl ?_
  refine am_sc rfl h01 (nI_add i 1) (by omega) hL ?_
  refine am_s rfl rfl ?_
  refine am_s rfl rfl ?_
  refine am_s rfl rfl ?_
  refine am_s rfl rfl ?_
  refine am_sc rfl h01 (nI_add i 2) (by omega) hL ?_
  refine am_cv (As := [.int (xs (i + 1)), .int (xs (i + 2))]) (rest := [.long x]) rfl (Or.inl rfl) rfl rfl (Nat.le_of_ble_eq_true rfl) rfl ⟨by omega, h2n⟩ h2c hm ?_
  rintro rv h2 ⟨rfl, hN⟩
  refine am_s rfl rfl ?_
  refine am_bt rfl rfl (decide_eq_true (by unfold lg_cmp; simp)) hN
theorem lw_case20 {L i : Nat} {h : am_H} {xs : Nat → Int32} {P : Option Value → am_H → Prop} (hL : L ≤ 2560) (hi : i + 5 ≤ L) (h0 : h.2.2 0 = .inl (1, L, .inl xs)) (hp : am_pairI h 142 205 [.int (xs (i + 1))] (fun h2 => am_wp 30 226 828 (am_lvL i) [] h2 P)) : am_wp 30 226 650 (am_lvL i) [] h P := by
  obtain ⟨⟨fs1, h1c⟩, h1n, hx⟩ := hp
  refine am_s rfl rfl ?_
  refine am_s rfl rfl ?_
  refine am_s rfl rfl ?_
  refine am_s rfl rfl ?_
  refine am_s rfl rfl ?_
  refine am_sc rfl h0 (nI_add i 1) (by omega) hL ?_
  refine am_cv (As := [.int (xs (i + 1))]) (rest := []) rfl (Or.inl rfl) rfl rfl (Nat.le_of_ble_eq_true rfl) rfl ⟨by omega, h1n⟩ h1c (am_wp_le hx) ?_
  rintro rv h1 ⟨⟨x, rfl, ⟨fs2, h2c⟩, h2n, hm⟩, hle⟩
  have h01 : h1.2.2 0 = .inl (1, L, .inl xs) := hle.2.2.trans h0
  refine am_s rfl rfl ?_
  refine am_s rfl rfl ?_
  refine am_s rfl rfl ?_
  refine am_s rfl rfl ?_
  refine am_s rfl rfl ?_
  refine am_sc rfl h01 (nI_add i 1) (by omega) hL ?_
  refine am_cv (As := [.int (xs (i + 1))]) (rest := [.int x]) rfl (Or.inl rfl) rfl rfl (Nat.le_of_ble_eq_true rfl) rfl ⟨by omega, h2n⟩ h2c hm ?_
  rintro rv h2 ⟨rfl, hN⟩
  exact am_bt rfl rfl (decide_eq_true rfl) hN
theorem lw_case21 {L i : Nat} {h : am_H} {xs : Nat → Int32} {P : Option Value → am_H → Prop} (hL : L ≤ 2560) (hi : i + 5 ≤ L) (h0 : h.2.2 0 = .inl (1, L, .inl xs)) (hp : am_pairI h 143 206 [.int (xs (i + 1))] (fun h2 => am_wp 30 226 828 (am_lvL i) [] h2 P)) : am_wp 30 226 673 (am_lvL i) [] h P := by
  obtain ⟨⟨fs1, h1c⟩, h1n, hx⟩ := hp
  refine am_s rfl rfl ?_
  refine am_s rfl rfl ?_
  refine am_s rfl rfl ?_
  refine am_s rfl rfl ?_
  refine am_s rfl rfl ?_
  refine am_sc rfl h0 (nI_add i 1) (by omega) hL ?_
  refine am_cv (As := [.int (xs (i + 1))]) (rest := []) rfl (Or.inl rfl) rfl rfl (Nat.le_of_ble_eq_true rfl) rfl ⟨by omega, h1n⟩ h1c (am_wp_le hx) ?_
  rintro rv h1 ⟨⟨x, rfl, ⟨fs2, h2c⟩, h2n, hm⟩, hle⟩
  have h01 : h1.2.2 0 = .inl (1, L, .inl xs) := hle.2.2.trans h0
  refine am_s rfl rfl ?_
  refine am_s rfl rfl ?_
  refine am_s rfl rfl ?_
  refine am_s rfl rfl ?_
  refine am_s rfl rfl ?_
  refine am_sc rfl h01 (nI_add i 1) (by omega) hL ?_
  refine am_cv (As := [.int (xs (i + 1))]) (rest := [.int x]) rfl (Or.inl rfl) rfl rfl (Nat.le_of_ble_eq_true rfl) rfl ⟨by omega, h2n⟩ h2c hm ?_
  rintro rv h2 ⟨rfl, hN⟩
  exact am_bt rfl rfl (decide_eq_true rfl) hN
theorem lw_case22 {L i : Nat} {h : am_H} {xs : Nat → Int32} {P : Option Value → am_H → Prop} (hL : L ≤ 2560) (hi : i + 5 ≤ L) (h0 : h.2.2 0 = .inl (1, L, .inl xs)) (hp : am_pairJ h 144 207 [] (fun h2 => am_wp 30 226 828 (am_lvL i) [] h2 P)) : am_wp 30 226 696 (am_lvL i) [] h P := by
  obtain ⟨⟨fs1, h1c⟩, h1n, hx⟩ := hp
  refine am_s rfl rfl ?_
  refine am_cv (As := []) (rest := []) rfl (Or.inl rfl) rfl rfl (Nat.le_of_ble_eq_true rfl) rfl ⟨by omega, h1n⟩ h1c (am_wp_le hx) ?_
  rintro rv h1 ⟨⟨x, rfl, ⟨fs2, h2c⟩, h2n, hm⟩, hle⟩
  have h01 : h1.2.2 0 = .inl (1, L, .inl xs) := hle.2.2.trans h0
  refine am_s rfl rfl ?_
  refine am_cv (As := []) (rest := [.long x]) rfl (Or.inl rfl) rfl rfl (Nat.le_of_ble_eq_true rfl) rfl ⟨by omega, h2n⟩ h2c hm ?_
  rintro rv h2 ⟨rfl, hN⟩
  refine am_s rfl rfl ?_
  refine am_bt rfl rfl (decide_eq_true (by unfold lg_cmp; simp)) hN
theorem lw_case23 {L i : Nat} {h : am_H} {xs : Nat → Int32} {P : Option Value → am_H → Prop} (hL : L ≤ 2560) (hi : i + 5 ≤ L) (h0 : h.2.2 0 = .inl (1, L, .inl xs)) (hp : am_pairI h 145 212 [.int (xs (i + 1)), .int (xs (i + 2))] (fun h2 => am_wp 30 226 828 (am_lvL i) [] h2 P)) : am_wp 30 226 710 (am_lvL i) [] h P := by
  obtain ⟨⟨fs1, h1c⟩, h1n, hx⟩ := hp
  refine am_s rfl rfl ?_
  refine am_s rfl rfl ?_
  refine am_s rfl rfl ?_
  refine am_s rfl rfl ?_
  refine am_s rfl rfl ?_
  refine am_sc rfl h0 (nI_add i 1) (by omega) hL ?_
  refine am_s rfl rfl ?_
  refine am_s rfl rfl ?_
  refine am_s rfl rfl ?_
  refine am_s rfl rfl ?_
  refine am_sc rfl h0 (nI_add i 2) (by omega) hL ?_
  refine am_cv (As := [.int (xs (i + 1)), .int (xs (i + 2))]) (rest := []) rfl (Or.inl rfl) rfl rfl (Nat.le_of_ble_eq_true rfl) rfl ⟨by omega, h1n⟩ h1c (am_wp_le hx) ?_
  rintro rv h1 ⟨⟨x, rfl, ⟨fs2, h2c⟩, h2n, hm⟩, hle⟩
  have h01 : h1.2.2 0 = .inl (1, L, .inl xs) := hle.2.2.trans h0
  refine am_s rfl rfl ?_
  refine am_s rfl rfl ?_
  refine am_s rfl rfl ?_
  refine am_s rfl rfl ?_
  refine am_s rfl rfl ?_
  refine am_sc rfl h01 (nI_add i 1) (by omega) hL ?_
  refine am_s rfl rfl ?_
  refine am_s rfl rfl ?_
  refine am_s rfl rfl ?_
  refine am_s rfl rfl ?_
  refine am_sc rfl h01 (nI_add i 2) (by omega) hL ?_
  refine am_cv (As := [.int (xs (i + 1)), .int (xs (i + 2))]) (rest := [.int x]) rfl (Or.inl rfl) rfl rfl (Nat.le_of_ble_eq_true rfl) rfl ⟨by omega, h2n⟩ h2c hm ?_
  rintro rv h2 ⟨rfl, hN⟩
  exact am_bt rfl rfl (decide_eq_true rfl) hN
theorem lw_case24 {L i : Nat} {h : am_H} {xs : Nat → Int32} {P : Option Value → am_H → Prop} (hL : L ≤ 2560) (hi : i + 5 ≤ L) (h0 : h.2.2 0 = .inl (1, L, .inl xs)) (hp : am_pairJ h 146 213 [] (fun h2 => am_wp 30 226 828 (am_lvL i) [] h2 P)) : am_wp 30 226 743 (am_lvL i) [] h P := by
  obtain ⟨⟨fs1, h1c⟩, h1n, hx⟩ := hp
  refine am_s rfl rfl ?_
  refine am_cv (As := []) (rest := []) rfl (Or.inl rfl) rfl rfl (Nat.le_of_ble_eq_true rfl) rfl ⟨by omega, h1n⟩ h1c (am_wp_le hx) ?_
  rintro rv h1 ⟨⟨x, rfl, ⟨fs2, h2c⟩, h2n, hm⟩, hle⟩
  have h01 : h1.2.2 0 = .inl (1, L, .inl xs) := hle.2.2.trans h0
  refine am_s rfl rfl ?_
  refine am_cv (As := []) (rest := [.long x]) rfl (Or.inl rfl) rfl rfl (Nat.le_of_ble_eq_true rfl) rfl ⟨by omega, h2n⟩ h2c hm ?_
  rintro rv h2 ⟨rfl, hN⟩
  refine am_s rfl rfl ?_
  refine am_bt rfl rfl (decide_eq_true (by unfold lg_cmp; simp)) hN
theorem lw_case25 {L i : Nat} {h : am_H} {xs : Nat → Int32} {P : Option Value → am_H → Prop} (hL : L ≤ 2560) (hi : i + 5 ≤ L) (h0 : h.2.2 0 = .inl (1, L, .inl xs)) (hp : am_pairJ h 147 215 [.int (xs (i + 1)), .int (xs (i + 2))] (fun h2 => am_wp 30 226 828 (am_lvL i) [] h2 P)) : am_wp 30 226 757 (am_lvL i) [] h P := by
  obtain ⟨⟨fs1, h1c⟩, h1n, hx⟩ := hp
  refine am_s rfl rfl ?_
  refine am_s rfl rfl ?_
  refine am_s rfl rfl ?_
  refine am_s rfl rfl ?_
  refine am_s rfl rfl ?_
  refine am_sc rfl h0 (nI_add i 1) (by omega) hL ?_
  refine am_s rfl rfl ?_
  refine am_s rfl rfl ?_
  refine am_s rfl rfl ?_
  refine am_s rfl rfl ?_
  refine am_sc rfl h0 (nI_add i 2) (by omega) hL ?_
  refine am_cv (As := [.int (xs (i + 1)), .int (xs (i + 2))]) (rest := []) rfl (Or.inl rfl) rfl rfl (Nat.le_of_ble_eq_true rfl) rfl ⟨by omega, h1n⟩ h1c (am_wp_le hx) ?_
  rintro rv h1 ⟨⟨x, rfl, ⟨fs2, h2c⟩, h2n, hm⟩, hle⟩
  have h01 : h1.2.2 0 = .inl (1, L, .inl xs) := hle.2.2.trans h0
  refine am_s rfl rfl ?_
  refine am_s rfl rfl ?_
  refine am_s rfl rfl ?_
  refine am_s rfl rfl ?_
  refine am_s rfl rfl ?_
  refine am_sc rfl h01 (nI_add i 1) (by omega) hL ?_
  refine am_s rfl rfl ?_
  refine am_s rfl rfl ?_
  refine am_s rfl rfl ?_
  refine am_s rfl rfl ?_
  refine am_sc rfl h01 (nI_add i 2) (by omega) hL ?_
  refine am_cv (As := [.int (xs (i + 1)), .int (xs (i + 2))]) (rest := [.long x]) rfl (Or.inl rfl) rfl rfl (Nat.le_of_ble_eq_true rfl) rfl ⟨by omega, h2n⟩ h2c hm ?_
  rintro rv h2 ⟨rfl, hN⟩
  refine am_s rfl rfl ?_
  refine am_bt rfl rfl (decide_eq_true (by unfold lg_cmp; simp)) hN
theorem lw_case26 {L i : Nat} {h : am_H} {xs : Nat → Int32} {P : Option Value → am_H → Prop} (hL : L ≤ 2560) (hi : i + 5 ≤ L) (h0 : h.2.2 0 = .inl (1, L, .inl xs)) (hp : am_pairJ h 148 216 [.int (xs (i + 1))] (fun h2 => am_wp 30 226 828 (am_lvL i) [] h2 P)) : am_wp 30 226 791 (am_lvL i) [] h P := by
  obtain ⟨⟨fs1, h1c⟩, h1n, hx⟩ := hp
  refine am_s rfl rfl ?_
  refine am_s rfl rfl ?_
  refine am_s rfl rfl ?_
  refine am_s rfl rfl ?_
  refine am_s rfl rfl ?_
  refine am_sc rfl h0 (nI_add i 1) (by omega) hL ?_
  refine am_cv (As := [.int (xs (i + 1))]) (rest := []) rfl (Or.inl rfl) rfl rfl (Nat.le_of_ble_eq_true rfl) rfl ⟨by omega, h1n⟩ h1c (am_wp_le hx) ?_
  rintro rv h1 ⟨⟨x, rfl, ⟨fs2, h2c⟩, h2n, hm⟩, hle⟩
  have h01 : h1.2.2 0 = .inl (1, L, .inl xs) := hle.2.2.trans h0
  refine am_s rfl rfl ?_
  refine am_s rfl rfl ?_
  refine am_s rfl rfl ?_
  refine am_s rfl rfl ?_
  refine am_s rfl rfl ?_
  refine am_sc rfl h01 (nI_add i 1) (by omega) hL ?_
  refine am_cv (As := [.int (xs (i + 1))]) (rest := [.long x]) rfl (Or.inl rfl) rfl rfl (Nat.le_of_ble_eq_true rfl) rfl ⟨by omega, h2n⟩ h2c hm ?_
  rintro rv h2 ⟨rfl, hN⟩
  refine am_s rfl rfl ?_
  refine am_bt rfl rfl (decide_eq_true (by unfold lg_cmp; simp)) hN
theorem lw_case27 {L i : Nat} {h : am_H} {xs : Nat → Int32} {P : Option Value → am_H → Prop} (hL : L ≤ 2560) (hi : i + 5 ≤ L) (h0 : h.2.2 0 = .inl (1, L, .inl xs)) (hp : am_pairI h 149 217 [] (fun h2 => am_wp 30 226 828 (am_lvL i) [] h2 P)) : am_wp 30 226 815 (am_lvL i) [] h P := by
  obtain ⟨⟨fs1, h1c⟩, h1n, hx⟩ := hp
  refine am_s rfl rfl ?_
  refine am_cv (As := []) (rest := []) rfl (Or.inl rfl) rfl rfl (Nat.le_of_ble_eq_true rfl) rfl ⟨by omega, h1n⟩ h1c (am_wp_le hx) ?_
  rintro rv h1 ⟨⟨x, rfl, ⟨fs2, h2c⟩, h2n, hm⟩, hle⟩
  have h01 : h1.2.2 0 = .inl (1, L, .inl xs) := hle.2.2.trans h0
  refine am_s rfl rfl ?_
  refine am_cv (As := []) (rest := [.int x]) rfl (Or.inl rfl) rfl rfl (Nat.le_of_ble_eq_true rfl) rfl ⟨by omega, h2n⟩ h2c hm ?_
  rintro rv h2 ⟨rfl, hN⟩
  exact am_bt rfl rfl (decide_eq_true rfl) hN
