theorem t_hungX {d : Nat} {E : am_Ev} {s : am_S} {c : Int} (g : am_Eg E) (hn : 1 ≤ s 25 0 ∧ s 25 0 ≤ 20) (hr_c : am_R c) (hf : s 48 0 = 0 ∨ s 48 0 = 1) : am_wp (d + 1) 133 0 (lv_args 0 [.ref 1, .int (iI c)]) [] (am_hp E s) (fun rv h => rv = some (.int (iI (if 0 ≤ c ∧ c < s 25 0 then (if s 48 0 = 0 then -103 else s 50 c) else -101))) ∧ h = am_hp E s) := by
  obtain ⟨r1_c, r2_c⟩ := hr_c
  have hr_c : am_R c := ⟨r1_c, r2_c⟩
  refine am_s rfl rfl ?_
  refine am_s rfl rfl ?_
  refine s_cv [_] [] rfl g (Or.inl rfl) rfl rfl (Nat.le_of_ble_eq_true rfl) rfl rfl (t_cityX g (c := c) hr_c hn) ?_
  rintro rv h1 ⟨rfl, rfl⟩
  by_cases hc_c : 0 ≤ c ∧ c < s 25 0
  · rw [show (if 0 ≤ c ∧ c < s 25 0 then (1 : Int) else 0) = 1 from if_pos hc_c]
    refine s_zne rfl ⟨by omega, by omega⟩ (fun c2 => ?_) (fun c2 => absurd c2 (by omega))
    refine am_s rfl rfl ?_
    refine s_gr rfl g rfl rfl ?_
    refine s_gi (x := 0) rfl g rfl rfl rfl ?_
    refine s_zeq rfl (by rcases hf with z | z <;> exact ⟨by omega, by omega⟩) (fun c3 => ?_) (fun c3 => ?_)
    · refine s_k (-103) rfl rfl ?_
      refine am_r rfl rfl ⟨congrArg (fun z => some (Value.int (iI z))) ?_, rfl⟩
      (repeat' split) <;> first | rfl | (exfalso; omega)
    · refine am_s rfl rfl ?_
      refine s_gr rfl g rfl rfl ?_
      refine s_gr rfl g rfl rfl ?_
      refine s_gr rfl g rfl rfl ?_
      refine am_s rfl rfl ?_
      refine s_ia rfl g rfl ⟨by omega, by omega⟩ (by decide) ?_
      refine am_s rfl rfl ?_
      refine am_r rfl rfl ⟨congrArg (fun z => some (Value.int (iI z))) ?_, rfl⟩
      (repeat' split) <;> first | rfl | (exfalso; omega)
  · rw [show (if 0 ≤ c ∧ c < s 25 0 then (1 : Int) else 0) = 0 from if_neg hc_c]
    refine s_zne rfl ⟨by omega, by omega⟩ (fun c2 => absurd c2 (by omega)) (fun c2 => ?_)
    refine s_k (-101) rfl rfl ?_
    refine am_r rfl rfl ⟨congrArg (fun z => some (Value.int (iI z))) ?_, rfl⟩
    (repeat' split) <;> first | rfl | (exfalso; omega)
theorem t_hungM0 {d : Nat} {E : am_Ev} {s : am_S} {c : Int} (g : am_Eg E) (hn : 1 ≤ s 168 1 ∧ s 168 1 ≤ 20) (hr_c : am_R c) (hf : s 168 14 = 0 ∨ s 168 14 = 1) : am_wp (d + 1) 186 5 (lv_args 0 [.ref 168, .int (iI c)]) [] (am_hp E s) (fun rv h => rv = some (.int (iI (if 0 ≤ c ∧ c < s 168 1 then (if s 168 14 = 0 then -103 else s 192 c) else -101))) ∧ h = am_hp E s) := by
  obtain ⟨r1_c, r2_c⟩ := hr_c
  have hr_c : am_R c := ⟨r1_c, r2_c⟩
  refine am_s rfl rfl ?_
  refine am_s rfl rfl ?_
  refine s_cv [_] [] rfl g (Or.inl rfl) rfl rfl (Nat.le_of_ble_eq_true rfl) rfl rfl (t_cityM g (c := c) hr_c hn) ?_
  rintro rv h1 ⟨rfl, rfl⟩
  by_cases hc_c : 0 ≤ c ∧ c < s 168 1
  · rw [show (if 0 ≤ c ∧ c < s 168 1 then (1 : Int) else 0) = 1 from if_pos hc_c]
    refine s_zne rfl ⟨by omega, by omega⟩ (fun c2 => ?_) (fun c2 => absurd c2 (by omega))
    refine am_s rfl rfl ?_
    refine s_gi (x := 14) rfl g rfl rfl rfl ?_
    refine s_zne rfl (by rcases hf with z | z <;> exact ⟨by omega, by omega⟩) (fun c3 => ?_) (fun c3 => ?_)
    · refine am_s rfl rfl ?_
      refine s_gr rfl g rfl rfl ?_
      refine am_s rfl rfl ?_
      refine s_ia rfl g rfl ⟨by omega, by omega⟩ (by decide) ?_
      refine am_r rfl rfl ⟨congrArg (fun z => some (Value.int (iI z))) ?_, rfl⟩
      (repeat' split) <;> first | rfl | (exfalso; omega)
    · refine s_k (-103) rfl rfl ?_
      refine am_s rfl rfl ?_
      refine am_r rfl rfl ⟨congrArg (fun z => some (Value.int (iI z))) ?_, rfl⟩
      (repeat' split) <;> first | rfl | (exfalso; omega)
  · rw [show (if 0 ≤ c ∧ c < s 168 1 then (1 : Int) else 0) = 0 from if_neg hc_c]
    refine s_zne rfl ⟨by omega, by omega⟩ (fun c2 => absurd c2 (by omega)) (fun c2 => ?_)
    refine s_k (-101) rfl rfl ?_
    refine am_s rfl rfl ?_
    refine am_r rfl rfl ⟨congrArg (fun z => some (Value.int (iI z))) ?_, rfl⟩
    (repeat' split) <;> first | rfl | (exfalso; omega)
theorem t_hungM {d : Nat} {E : am_Ev} {s : am_S} {c : Int} (g : am_Eg E) (hn : 1 ≤ s 168 1 ∧ s 168 1 ≤ 20) (hr_c : am_R c) (hf : s 168 14 = 0 ∨ s 168 14 = 1) : am_wp (d + 1) 186 0 (lv_args 0 [.ref 168, .int (iI c)]) [] (am_hp E s) (fun rv h => rv = some (.int (iI (if 0 ≤ c ∧ c < s 168 1 then (if s 168 14 = 0 then -103 else s 192 c) else -101))) ∧ h = am_hp E (am_w s 168 0 0)) := by
  refine am_s rfl rfl ?_
  refine s_k 0 rfl rfl ?_
  refine s_pi (x := 0) rfl g rfl rfl rfl rfl ?_
  exact t_hungM0 (s := am_w s 168 0 0) g hn hr_c hf
theorem t_partnerX {d : Nat} {E : am_Ev} {s : am_S} {c : Int} (g : am_Eg E) (hn : 1 ≤ s 25 0 ∧ s 25 0 ≤ 20) (hr_c : am_R c) (hf : s 58 0 = 0 ∨ s 58 0 = 1) : am_wp (d + 1) 137 0 (lv_args 0 [.ref 1, .int (iI c)]) [] (am_hp E s) (fun rv h => rv = some (.int (iI (if 0 ≤ c ∧ c < s 25 0 then (if s 58 0 = 0 then -103 else s 60 c) else -101))) ∧ h = am_hp E s) := by
  obtain ⟨r1_c, r2_c⟩ := hr_c
  have hr_c : am_R c := ⟨r1_c, r2_c⟩
  refine am_s rfl rfl ?_
  refine am_s rfl rfl ?_
  refine s_cv [_] [] rfl g (Or.inl rfl) rfl rfl (Nat.le_of_ble_eq_true rfl) rfl rfl (t_cityX g (c := c) hr_c hn) ?_
  rintro rv h1 ⟨rfl, rfl⟩
  by_cases hc_c : 0 ≤ c ∧ c < s 25 0
  · rw [show (if 0 ≤ c ∧ c < s 25 0 then (1 : Int) else 0) = 1 from if_pos hc_c]
    refine s_zne rfl ⟨by omega, by omega⟩ (fun c2 => ?_) (fun c2 => absurd c2 (by omega))
    refine am_s rfl rfl ?_
    refine s_gr rfl g rfl rfl ?_
    refine s_gi (x := 0) rfl g rfl rfl rfl ?_
    refine s_zeq rfl (by rcases hf with z | z <;> exact ⟨by omega, by omega⟩) (fun c3 => ?_) (fun c3 => ?_)
    · refine s_k (-103) rfl rfl ?_
      refine am_r rfl rfl ⟨congrArg (fun z => some (Value.int (iI z))) ?_, rfl⟩
      (repeat' split) <;> first | rfl | (exfalso; omega)
    · refine am_s rfl rfl ?_
      refine s_gr rfl g rfl rfl ?_
      refine s_gr rfl g rfl rfl ?_
      refine am_s rfl rfl ?_
      refine s_ia rfl g rfl ⟨by omega, by omega⟩ (by decide) ?_
      refine am_s rfl rfl ?_
      refine am_r rfl rfl ⟨congrArg (fun z => some (Value.int (iI z))) ?_, rfl⟩
      (repeat' split) <;> first | rfl | (exfalso; omega)
  · rw [show (if 0 ≤ c ∧ c < s 25 0 then (1 : Int) else 0) = 0 from if_neg hc_c]
    refine s_zne rfl ⟨by omega, by omega⟩ (fun c2 => absurd c2 (by omega)) (fun c2 => ?_)
    refine s_k (-101) rfl rfl ?_
    refine am_r rfl rfl ⟨congrArg (fun z => some (Value.int (iI z))) ?_, rfl⟩
    (repeat' split) <;> first | rfl | (exfalso; omega)
theorem t_partnerM0 {d : Nat} {E : am_Ev} {s : am_S} {c : Int} (g : am_Eg E) (hn : 1 ≤ s 168 1 ∧ s 168 1 ≤ 20) (hr_c : am_R c) (hf : s 168 18 = 0 ∨ s 168 18 = 1) : am_wp (d + 1) 192 5 (lv_args 0 [.ref 168, .int (iI c)]) [] (am_hp E s) (fun rv h => rv = some (.int (iI (if 0 ≤ c ∧ c < s 168 1 then (if s 168 18 = 0 then -103 else s 178 c) else -101))) ∧ h = am_hp E s) := by
  obtain ⟨r1_c, r2_c⟩ := hr_c
  have hr_c : am_R c := ⟨r1_c, r2_c⟩
  refine am_s rfl rfl ?_
  refine am_s rfl rfl ?_
  refine s_cv [_] [] rfl g (Or.inl rfl) rfl rfl (Nat.le_of_ble_eq_true rfl) rfl rfl (t_cityM g (c := c) hr_c hn) ?_
  rintro rv h1 ⟨rfl, rfl⟩
  by_cases hc_c : 0 ≤ c ∧ c < s 168 1
  · rw [show (if 0 ≤ c ∧ c < s 168 1 then (1 : Int) else 0) = 1 from if_pos hc_c]
    refine s_zne rfl ⟨by omega, by omega⟩ (fun c2 => ?_) (fun c2 => absurd c2 (by omega))
    refine am_s rfl rfl ?_
    refine s_gi (x := 18) rfl g rfl rfl rfl ?_
    refine s_zne rfl (by rcases hf with z | z <;> exact ⟨by omega, by omega⟩) (fun c3 => ?_) (fun c3 => ?_)
    · refine am_s rfl rfl ?_
      refine s_gr rfl g rfl rfl ?_
      refine am_s rfl rfl ?_
      refine s_ia rfl g rfl ⟨by omega, by omega⟩ (by decide) ?_
      refine am_r rfl rfl ⟨congrArg (fun z => some (Value.int (iI z))) ?_, rfl⟩
      (repeat' split) <;> first | rfl | (exfalso; omega)
    · refine s_k (-103) rfl rfl ?_
      refine am_s rfl rfl ?_
      refine am_r rfl rfl ⟨congrArg (fun z => some (Value.int (iI z))) ?_, rfl⟩
      (repeat' split) <;> first | rfl | (exfalso; omega)
  · rw [show (if 0 ≤ c ∧ c < s 168 1 then (1 : Int) else 0) = 0 from if_neg hc_c]
    refine s_zne rfl ⟨by omega, by omega⟩ (fun c2 => absurd c2 (by omega)) (fun c2 => ?_)
    refine s_k (-101) rfl rfl ?_
    refine am_s rfl rfl ?_
    refine am_r rfl rfl ⟨congrArg (fun z => some (Value.int (iI z))) ?_, rfl⟩
    (repeat' split) <;> first | rfl | (exfalso; omega)
theorem t_partnerM {d : Nat} {E : am_Ev} {s : am_S} {c : Int} (g : am_Eg E) (hn : 1 ≤ s 168 1 ∧ s 168 1 ≤ 20) (hr_c : am_R c) (hf : s 168 18 = 0 ∨ s 168 18 = 1) : am_wp (d + 1) 192 0 (lv_args 0 [.ref 168, .int (iI c)]) [] (am_hp E s) (fun rv h => rv = some (.int (iI (if 0 ≤ c ∧ c < s 168 1 then (if s 168 18 = 0 then -103 else s 178 c) else -101))) ∧ h = am_hp E (am_w s 168 0 0)) := by
  refine am_s rfl rfl ?_
  refine s_k 0 rfl rfl ?_
  refine s_pi (x := 0) rfl g rfl rfl rfl rfl ?_
  exact t_partnerM0 (s := am_w s 168 0 0) g hn hr_c hf
theorem t_penaltyX {d : Nat} {E : am_Ev} {s : am_S} {c : Int} (g : am_Eg E) (hn : 1 ≤ s 25 0 ∧ s 25 0 ≤ 20) (hr_c : am_R c)  : am_wp (d + 1) 148 0 (lv_args 0 [.ref 1, .int (iI c)]) [] (am_hp E s) (fun rv h => rv = some (.long (lI (if 0 ≤ c ∧ c < s 25 0 then s 161 c else 0))) ∧ h = am_hp E s) := by
  obtain ⟨r1_c, r2_c⟩ := hr_c
  have hr_c : am_R c := ⟨r1_c, r2_c⟩
  refine am_s rfl rfl ?_
  refine am_s rfl rfl ?_
  refine s_cv [_] [] rfl g (Or.inl rfl) rfl rfl (Nat.le_of_ble_eq_true rfl) rfl rfl (t_cityX g (c := c) hr_c hn) ?_
  rintro rv h1 ⟨rfl, rfl⟩
  by_cases hc_c : 0 ≤ c ∧ c < s 25 0
  · rw [show (if 0 ≤ c ∧ c < s 25 0 then (1 : Int) else 0) = 1 from if_pos hc_c]
    refine s_zeq rfl ⟨by omega, by omega⟩ (fun c2 => absurd c2 (by omega)) (fun c2 => ?_)
    refine am_s rfl rfl ?_
    refine s_gr rfl g rfl rfl ?_
    refine s_gr rfl g rfl rfl ?_
    refine am_s rfl rfl ?_
    refine s_la rfl g rfl ⟨by omega, by omega⟩ (by decide) ?_
    refine am_s rfl rfl ?_
    refine am_r rfl rfl ⟨congrArg (fun z => some (Value.long (lI z))) ?_, rfl⟩
    (repeat' split) <;> first | rfl | (exfalso; omega)
  · rw [show (if 0 ≤ c ∧ c < s 25 0 then (1 : Int) else 0) = 0 from if_neg hc_c]
    refine s_zeq rfl ⟨by omega, by omega⟩ (fun c2 => ?_) (fun c2 => absurd c2 (by omega))
    refine s_kl 0 rfl rfl ?_
    refine am_r rfl rfl ⟨congrArg (fun z => some (Value.long (lI z))) ?_, rfl⟩
    (repeat' split) <;> first | rfl | (exfalso; omega)
theorem t_penaltyM0 {d : Nat} {E : am_Ev} {s : am_S} {c : Int} (g : am_Eg E) (hn : 1 ≤ s 168 1 ∧ s 168 1 ≤ 20) (hr_c : am_R c)  : am_wp (d + 1) 216 5 (lv_args 0 [.ref 168, .int (iI c)]) [] (am_hp E s) (fun rv h => rv = some (.long (lI (if 0 ≤ c ∧ c < s 168 1 then s 191 c else 0))) ∧ h = am_hp E s) := by
  obtain ⟨r1_c, r2_c⟩ := hr_c
  have hr_c : am_R c := ⟨r1_c, r2_c⟩
  refine am_s rfl rfl ?_
  refine am_s rfl rfl ?_
  refine s_cv [_] [] rfl g (Or.inl rfl) rfl rfl (Nat.le_of_ble_eq_true rfl) rfl rfl (t_cityM g (c := c) hr_c hn) ?_
  rintro rv h1 ⟨rfl, rfl⟩
  by_cases hc_c : 0 ≤ c ∧ c < s 168 1
  · rw [show (if 0 ≤ c ∧ c < s 168 1 then (1 : Int) else 0) = 1 from if_pos hc_c]
    refine s_zeq rfl ⟨by omega, by omega⟩ (fun c2 => absurd c2 (by omega)) (fun c2 => ?_)
    refine am_s rfl rfl ?_
    refine s_gr rfl g rfl rfl ?_
    refine am_s rfl rfl ?_
    refine s_la rfl g rfl ⟨by omega, by omega⟩ (by decide) ?_
    refine am_s rfl rfl ?_
    refine am_r rfl rfl ⟨congrArg (fun z => some (Value.long (lI z))) ?_, rfl⟩
    (repeat' split) <;> first | rfl | (exfalso; omega)
  · rw [show (if 0 ≤ c ∧ c < s 168 1 then (1 : Int) else 0) = 0 from if_neg hc_c]
    refine s_zeq rfl ⟨by omega, by omega⟩ (fun c2 => ?_) (fun c2 => absurd c2 (by omega))
    refine s_kl 0 rfl rfl ?_
    refine am_r rfl rfl ⟨congrArg (fun z => some (Value.long (lI z))) ?_, rfl⟩
    (repeat' split) <;> first | rfl | (exfalso; omega)
theorem t_penaltyM {d : Nat} {E : am_Ev} {s : am_S} {c : Int} (g : am_Eg E) (hn : 1 ≤ s 168 1 ∧ s 168 1 ≤ 20) (hr_c : am_R c)  : am_wp (d + 1) 216 0 (lv_args 0 [.ref 168, .int (iI c)]) [] (am_hp E s) (fun rv h => rv = some (.long (lI (if 0 ≤ c ∧ c < s 168 1 then s 191 c else 0))) ∧ h = am_hp E (am_w s 168 0 0)) := by
  refine am_s rfl rfl ?_
  refine s_k 0 rfl rfl ?_
  refine s_pi (x := 0) rfl g rfl rfl rfl rfl ?_
  exact t_penaltyM0 (s := am_w s 168 0 0) g hn hr_c 
theorem t_pricesX {d : Nat} {E : am_Ev} {s : am_S} (g : am_Eg E) (hn : 1 ≤ s 25 0 ∧ s 25 0 ≤ 20)  (hf : s 58 0 = 0 ∨ s 58 0 = 1) : am_wp (d) 138 0 (lv_args 0 [.ref 1]) [] (am_hp E s) (fun rv h => rv = some (.long (lI (if s 58 0 = 0 then -103 else s 58 2))) ∧ h = am_hp E s) := by
  refine am_s rfl rfl ?_
  refine s_gr rfl g rfl rfl ?_
  refine s_gi (x := 0) rfl g rfl rfl rfl ?_
  refine s_zeq rfl (by rcases hf with z | z <;> exact ⟨by omega, by omega⟩) (fun c1 => ?_) (fun c1 => ?_)
  · refine s_kl (-103) rfl rfl ?_
    refine am_r rfl rfl ⟨congrArg (fun z => some (Value.long (lI z))) ?_, rfl⟩
    (repeat' split) <;> first | rfl | (exfalso; omega)
  · refine am_s rfl rfl ?_
    refine s_gr rfl g rfl rfl ?_
    refine s_gl (x := 2) rfl g rfl rfl rfl ?_
    refine am_s rfl rfl ?_
    refine am_r rfl rfl ⟨congrArg (fun z => some (Value.long (lI z))) ?_, rfl⟩
    (repeat' split) <;> first | rfl | (exfalso; omega)
theorem t_pricesM0 {d : Nat} {E : am_Ev} {s : am_S} (g : am_Eg E) (hn : 1 ≤ s 168 1 ∧ s 168 1 ≤ 20)  (hf : s 168 18 = 0 ∨ s 168 18 = 1) : am_wp (d) 193 5 (lv_args 0 [.ref 168]) [] (am_hp E s) (fun rv h => rv = some (.long (lI (if s 168 18 = 0 then -103 else 2 * s 168 22))) ∧ h = am_hp E s) := by
  refine am_s rfl rfl ?_
  refine s_gi (x := 18) rfl g rfl rfl rfl ?_
  refine s_zeq rfl (by rcases hf with z | z <;> exact ⟨by omega, by omega⟩) (fun c1 => ?_) (fun c1 => ?_)
  · refine s_kl (-103) rfl rfl ?_
    refine am_r rfl rfl ⟨congrArg (fun z => some (Value.long (lI z))) ?_, rfl⟩
    (repeat' split) <;> first | rfl | (exfalso; omega)
  · refine s_kl 2 rfl rfl ?_
    refine am_s rfl rfl ?_
    refine s_gl (x := 22) rfl g rfl rfl rfl ?_
    refine s_lmul rfl ?_
    refine am_s rfl rfl ?_
    refine am_r rfl rfl ⟨congrArg (fun z => some (Value.long (lI z))) ?_, rfl⟩
    (repeat' split) <;> first | rfl | (exfalso; omega)
theorem t_pricesM {d : Nat} {E : am_Ev} {s : am_S} (g : am_Eg E) (hn : 1 ≤ s 168 1 ∧ s 168 1 ≤ 20)  (hf : s 168 18 = 0 ∨ s 168 18 = 1) : am_wp (d) 193 0 (lv_args 0 [.ref 168]) [] (am_hp E s) (fun rv h => rv = some (.long (lI (if s 168 18 = 0 then -103 else 2 * s 168 22))) ∧ h = am_hp E (am_w s 168 0 0)) := by
  refine am_s rfl rfl ?_
  refine s_k 0 rfl rfl ?_
  refine s_pi (x := 0) rfl g rfl rfl rfl rfl ?_
  exact t_pricesM0 (s := am_w s 168 0 0) g hn  hf
theorem t_citiesX {d : Nat} {E : am_Ev} {s : am_S} (g : am_Eg E) (hn : 1 ≤ s 25 0 ∧ s 25 0 ≤ 20)   : am_wp (d) 130 0 (lv_args 0 [.ref 1]) [] (am_hp E s) (fun rv h => rv = some (.int (iI (s 25 0))) ∧ h = am_hp E s) := by
  refine am_s rfl rfl ?_
  refine s_gr rfl g rfl rfl ?_
  refine s_gi (x := 0) rfl g rfl rfl rfl ?_
  refine am_r rfl rfl ⟨congrArg (fun z => some (Value.int (iI z))) ?_, rfl⟩
  (repeat' split) <;> first | rfl | (exfalso; omega)
theorem t_citiesM0 {d : Nat} {E : am_Ev} {s : am_S} (g : am_Eg E) (hn : 1 ≤ s 168 1 ∧ s 168 1 ≤ 20)   : am_wp (d) 177 5 (lv_args 0 [.ref 168]) [] (am_hp E s) (fun rv h => rv = some (.int (iI (s 168 1))) ∧ h = am_hp E s) := by
  refine am_s rfl rfl ?_
  refine s_gi (x := 1) rfl g rfl rfl rfl ?_
  refine am_r rfl rfl ⟨congrArg (fun z => some (Value.int (iI z))) ?_, rfl⟩
  (repeat' split) <;> first | rfl | (exfalso; omega)
theorem t_citiesM {d : Nat} {E : am_Ev} {s : am_S} (g : am_Eg E) (hn : 1 ≤ s 168 1 ∧ s 168 1 ≤ 20)   : am_wp (d) 177 0 (lv_args 0 [.ref 168]) [] (am_hp E s) (fun rv h => rv = some (.int (iI (s 168 1))) ∧ h = am_hp E (am_w s 168 0 0)) := by
  refine am_s rfl rfl ?_
  refine s_k 0 rfl rfl ?_
  refine s_pi (x := 0) rfl g rfl rfl rfl rfl ?_
  exact t_citiesM0 (s := am_w s 168 0 0) g hn  
theorem t_distanceX {d : Nat} {E : am_Ev} {s : am_S} {a b : Int} (g : am_Eg E) (hn : 1 ≤ s 25 0 ∧ s 25 0 ≤ 20) (hr_a : am_R a) (hr_b : am_R b)  : am_wp (d + 1) 129 0 (lv_args 0 [.ref 1, .int (iI a), .int (iI b)]) [] (am_hp E s) (fun rv h => rv = some (.int (iI (if (0 ≤ a ∧ a < s 25 0) ∧ (0 ≤ b ∧ b < s 25 0) then mx s a b else -101))) ∧ h = am_hp E s) := by
  obtain ⟨r1_a, r2_a⟩ := hr_a
  have hr_a : am_R a := ⟨r1_a, r2_a⟩
  obtain ⟨r1_b, r2_b⟩ := hr_b
  have hr_b : am_R b := ⟨r1_b, r2_b⟩
  refine am_s rfl rfl ?_
  refine am_s rfl rfl ?_
  refine s_cv [_] [] rfl g (Or.inl rfl) rfl rfl (Nat.le_of_ble_eq_true rfl) rfl rfl (t_cityX g (c := a) hr_a hn) ?_
  rintro rv h1 ⟨rfl, rfl⟩
  by_cases hc_a : 0 ≤ a ∧ a < s 25 0
  · rw [show (if 0 ≤ a ∧ a < s 25 0 then (1 : Int) else 0) = 1 from if_pos hc_a]
    refine s_zeq rfl ⟨by omega, by omega⟩ (fun c2 => absurd c2 (by omega)) (fun c2 => ?_)
    refine am_s rfl rfl ?_
    refine am_s rfl rfl ?_
    refine s_cv [_] [] rfl g (Or.inl rfl) rfl rfl (Nat.le_of_ble_eq_true rfl) rfl rfl (t_cityX g (c := b) hr_b hn) ?_
    rintro rv h1 ⟨rfl, rfl⟩
    by_cases hc_b : 0 ≤ b ∧ b < s 25 0
    · rw [show (if 0 ≤ b ∧ b < s 25 0 then (1 : Int) else 0) = 1 from if_pos hc_b]
      refine s_zeq rfl ⟨by omega, by omega⟩ (fun c4 => absurd c4 (by omega)) (fun c4 => ?_)
      refine am_s rfl rfl ?_
      refine s_gr rfl g rfl rfl ?_
      refine s_gr rfl g rfl rfl ?_
      refine am_s rfl rfl ?_
      refine s_aa rfl g rfl ⟨by omega, by omega⟩ (by decide) ?_
      refine am_s rfl rfl ?_
      refine s_ia rfl g (lo_26 (by omega) (by omega)) ⟨by omega, by omega⟩ (by decide) ?_
      refine am_s rfl rfl ?_
      refine am_r rfl rfl ⟨congrArg (fun z => some (Value.int (iI z))) ?_, rfl⟩
      (repeat' split) <;> first | rfl | (exfalso; omega)
    · rw [show (if 0 ≤ b ∧ b < s 25 0 then (1 : Int) else 0) = 0 from if_neg hc_b]
      refine s_zeq rfl ⟨by omega, by omega⟩ (fun c4 => ?_) (fun c4 => absurd c4 (by omega))
      refine s_k (-101) rfl rfl ?_
      refine am_r rfl rfl ⟨congrArg (fun z => some (Value.int (iI z))) ?_, rfl⟩
      (repeat' split) <;> first | rfl | (exfalso; omega)
  · rw [show (if 0 ≤ a ∧ a < s 25 0 then (1 : Int) else 0) = 0 from if_neg hc_a]
    refine s_zeq rfl ⟨by omega, by omega⟩ (fun c2 => ?_) (fun c2 => absurd c2 (by omega))
    refine s_k (-101) rfl rfl ?_
    refine am_r rfl rfl ⟨congrArg (fun z => some (Value.int (iI z))) ?_, rfl⟩
    (repeat' split) <;> first | rfl | (exfalso; omega)
theorem t_distanceM0 {d : Nat} {E : am_Ev} {s : am_S} {a b : Int} (g : am_Eg E) (hn : 1 ≤ s 168 1 ∧ s 168 1 ≤ 20) (hr_a : am_R a) (hr_b : am_R b)  : am_wp (d + 1) 176 5 (lv_args 0 [.ref 168, .int (iI a), .int (iI b)]) [] (am_hp E s) (fun rv h => rv = some (.int (iI (if (0 ≤ a ∧ a < s 168 1) ∧ (0 ≤ b ∧ b < s 168 1) then my s a b else -101))) ∧ h = am_hp E s) := by
  obtain ⟨r1_a, r2_a⟩ := hr_a
  have hr_a : am_R a := ⟨r1_a, r2_a⟩
  obtain ⟨r1_b, r2_b⟩ := hr_b
  have hr_b : am_R b := ⟨r1_b, r2_b⟩
  refine am_s rfl rfl ?_
  refine am_s rfl rfl ?_
  refine s_cv [_] [] rfl g (Or.inl rfl) rfl rfl (Nat.le_of_ble_eq_true rfl) rfl rfl (t_cityM g (c := a) hr_a hn) ?_
  rintro rv h1 ⟨rfl, rfl⟩
  by_cases hc_a : 0 ≤ a ∧ a < s 168 1
  · rw [show (if 0 ≤ a ∧ a < s 168 1 then (1 : Int) else 0) = 1 from if_pos hc_a]
    refine s_zeq rfl ⟨by omega, by omega⟩ (fun c2 => absurd c2 (by omega)) (fun c2 => ?_)
    refine am_s rfl rfl ?_
    refine am_s rfl rfl ?_
    refine s_cv [_] [] rfl g (Or.inl rfl) rfl rfl (Nat.le_of_ble_eq_true rfl) rfl rfl (t_cityM g (c := b) hr_b hn) ?_
    rintro rv h1 ⟨rfl, rfl⟩
    by_cases hc_b : 0 ≤ b ∧ b < s 168 1
    · rw [show (if 0 ≤ b ∧ b < s 168 1 then (1 : Int) else 0) = 1 from if_pos hc_b]
      refine s_zeq rfl ⟨by omega, by omega⟩ (fun c4 => absurd c4 (by omega)) (fun c4 => ?_)
      refine am_s rfl rfl ?_
      refine am_s rfl rfl ?_
      refine am_s rfl rfl ?_
      refine s_cv [_, _] [] rfl g (Or.inl rfl) rfl rfl (Nat.le_of_ble_eq_true rfl) rfl rfl (t_far g ⟨by omega, by omega⟩ ⟨by omega, by omega⟩) ?_
      rintro rv h1 ⟨rfl, rfl⟩
      refine am_s rfl rfl ?_
      refine am_r rfl rfl ⟨congrArg (fun z => some (Value.int (iI z))) ?_, rfl⟩
      (repeat' split) <;> first | rfl | (exfalso; omega)
    · rw [show (if 0 ≤ b ∧ b < s 168 1 then (1 : Int) else 0) = 0 from if_neg hc_b]
      refine s_zeq rfl ⟨by omega, by omega⟩ (fun c4 => ?_) (fun c4 => absurd c4 (by omega))
      refine s_k (-101) rfl rfl ?_
      refine am_r rfl rfl ⟨congrArg (fun z => some (Value.int (iI z))) ?_, rfl⟩
      (repeat' split) <;> first | rfl | (exfalso; omega)
  · rw [show (if 0 ≤ a ∧ a < s 168 1 then (1 : Int) else 0) = 0 from if_neg hc_a]
    refine s_zeq rfl ⟨by omega, by omega⟩ (fun c2 => ?_) (fun c2 => absurd c2 (by omega))
    refine s_k (-101) rfl rfl ?_
    refine am_r rfl rfl ⟨congrArg (fun z => some (Value.int (iI z))) ?_, rfl⟩
    (repeat' split) <;> first | rfl | (exfalso; omega)
theorem t_distanceM {d : Nat} {E : am_Ev} {s : am_S} {a b : Int} (g : am_Eg E) (hn : 1 ≤ s 168 1 ∧ s 168 1 ≤ 20) (hr_a : am_R a) (hr_b : am_R b)  : am_wp (d + 1) 176 0 (lv_args 0 [.ref 168, .int (iI a), .int (iI b)]) [] (am_hp E s) (fun rv h => rv = some (.int (iI (if (0 ≤ a ∧ a < s 168 1) ∧ (0 ≤ b ∧ b < s 168 1) then my s a b else -101))) ∧ h = am_hp E (am_w s 168 0 0)) := by
  refine am_s rfl rfl ?_
  refine s_k 0 rfl rfl ?_
  refine s_pi (x := 0) rfl g rfl rfl rfl rfl ?_
  exact t_distanceM0 (s := am_w s 168 0 0) g hn hr_a hr_b 
theorem t_stopX {d : Nat} {E : am_Ev} {s : am_S} {c : Int} (g : am_Eg E) (hn : 1 ≤ s 25 0 ∧ s 25 0 ≤ 20) (hr_c : am_R c) (hf : s 151 0 = 0 ∨ s 151 0 = 1) (hc : 0 ≤ s 151 1 ∧ s 151 1 ≤ 20) : am_wp (d) 142 0 (lv_args 0 [.ref 1, .int (iI c)]) [] (am_hp E s) (fun rv h => rv = some (.int (iI (if s 151 0 = 0 then -1 else if 0 ≤ c ∧ c < s 151 1 then s 152 c else -1))) ∧ h = am_hp E s) := by
  obtain ⟨r1_c, r2_c⟩ := hr_c
  have hr_c : am_R c := ⟨r1_c, r2_c⟩
  refine am_s rfl rfl ?_
  refine s_gr rfl g rfl rfl ?_
  refine s_gi (x := 0) rfl g rfl rfl rfl ?_
  refine s_zeq rfl (by rcases hf with z | z <;> exact ⟨by omega, by omega⟩) (fun c1 => ?_) (fun c1 => ?_)
  · refine s_k (-1) rfl rfl ?_
    refine am_r rfl rfl ⟨congrArg (fun z => some (Value.int (iI z))) ?_, rfl⟩
    (repeat' split) <;> first | rfl | (exfalso; omega)
  · refine am_s rfl rfl ?_
    refine s_zlt rfl ⟨by omega, by omega⟩ (fun c2 => ?_) (fun c2 => ?_)
    · refine s_k (-1) rfl rfl ?_
      refine am_r rfl rfl ⟨congrArg (fun z => some (Value.int (iI z))) ?_, rfl⟩
      (repeat' split) <;> first | rfl | (exfalso; omega)
    · refine am_s rfl rfl ?_
      refine am_s rfl rfl ?_
      refine s_gr rfl g rfl rfl ?_
      refine s_gi (x := 1) rfl g rfl rfl rfl ?_
      refine s_cge rfl ⟨by omega, by omega⟩ ⟨by omega, by omega⟩ (fun c3 => ?_) (fun c3 => ?_)
      · refine s_k (-1) rfl rfl ?_
        refine am_r rfl rfl ⟨congrArg (fun z => some (Value.int (iI z))) ?_, rfl⟩
        (repeat' split) <;> first | rfl | (exfalso; omega)
      · refine am_s rfl rfl ?_
        refine s_gr rfl g rfl rfl ?_
        refine s_gr rfl g rfl rfl ?_
        refine am_s rfl rfl ?_
        refine s_ia rfl g rfl ⟨by omega, by omega⟩ (by decide) ?_
        refine am_s rfl rfl ?_
        refine am_r rfl rfl ⟨congrArg (fun z => some (Value.int (iI z))) ?_, rfl⟩
        (repeat' split) <;> first | rfl | (exfalso; omega)
theorem t_stopM0 {d : Nat} {E : am_Ev} {s : am_S} {c : Int} (g : am_Eg E) (hn : 1 ≤ s 168 1 ∧ s 168 1 ≤ 20) (hr_c : am_R c) (hf : s 168 29 = 0 ∨ s 168 29 = 1) : am_wp (d + 1) 205 5 (lv_args 0 [.ref 168, .int (iI c)]) [] (am_hp E s) (fun rv h => rv = some (.int (iI (if s 168 29 = 0 then -1 else if 0 ≤ c ∧ c < s 168 1 then s 183 c else -1))) ∧ h = am_hp E s) := by
  obtain ⟨r1_c, r2_c⟩ := hr_c
  have hr_c : am_R c := ⟨r1_c, r2_c⟩
  refine am_s rfl rfl ?_
  refine s_gi (x := 29) rfl g rfl rfl rfl ?_
  refine s_zeq rfl (by rcases hf with z | z <;> exact ⟨by omega, by omega⟩) (fun c1 => ?_) (fun c1 => ?_)
  · refine s_k (-1) rfl rfl ?_
    refine am_r rfl rfl ⟨congrArg (fun z => some (Value.int (iI z))) ?_, rfl⟩
    (repeat' split) <;> first | rfl | (exfalso; omega)
  · refine am_s rfl rfl ?_
    refine am_s rfl rfl ?_
    refine s_cv [_] [] rfl g (Or.inl rfl) rfl rfl (Nat.le_of_ble_eq_true rfl) rfl rfl (t_cityM g (c := c) hr_c hn) ?_
    rintro rv h1 ⟨rfl, rfl⟩
    by_cases hc_c : 0 ≤ c ∧ c < s 168 1
    · rw [show (if 0 ≤ c ∧ c < s 168 1 then (1 : Int) else 0) = 1 from if_pos hc_c]
      refine s_zeq rfl ⟨by omega, by omega⟩ (fun c3 => absurd c3 (by omega)) (fun c3 => ?_)
      refine am_s rfl rfl ?_
      refine s_gr rfl g rfl rfl ?_
      refine am_s rfl rfl ?_
      refine s_ia rfl g rfl ⟨by omega, by omega⟩ (by decide) ?_
      refine am_s rfl rfl ?_
      refine am_r rfl rfl ⟨congrArg (fun z => some (Value.int (iI z))) ?_, rfl⟩
      (repeat' split) <;> first | rfl | (exfalso; omega)
    · rw [show (if 0 ≤ c ∧ c < s 168 1 then (1 : Int) else 0) = 0 from if_neg hc_c]
      refine s_zeq rfl ⟨by omega, by omega⟩ (fun c3 => ?_) (fun c3 => absurd c3 (by omega))
      refine s_k (-1) rfl rfl ?_
      refine am_r rfl rfl ⟨congrArg (fun z => some (Value.int (iI z))) ?_, rfl⟩
      (repeat' split) <;> first | rfl | (exfalso; omega)
theorem t_stopM {d : Nat} {E : am_Ev} {s : am_S} {c : Int} (g : am_Eg E) (hn : 1 ≤ s 168 1 ∧ s 168 1 ≤ 20) (hr_c : am_R c) (hf : s 168 29 = 0 ∨ s 168 29 = 1) : am_wp (d + 1) 205 0 (lv_args 0 [.ref 168, .int (iI c)]) [] (am_hp E s) (fun rv h => rv = some (.int (iI (if s 168 29 = 0 then -1 else if 0 ≤ c ∧ c < s 168 1 then s 183 c else -1))) ∧ h = am_hp E (am_w s 168 0 0)) := by
  refine am_s rfl rfl ?_
  refine s_k 0 rfl rfl ?_
  refine s_pi (x := 0) rfl g rfl rfl rfl rfl ?_
  exact t_stopM0 (s := am_w s 168 0 0) g hn hr_c hf
theorem t_oddX {d : Nat} {E : am_Ev} {s : am_S} {c : Int} (g : am_Eg E) (hn : 1 ≤ s 25 0 ∧ s 25 0 ≤ 20) (hr_c : am_R c) (hf : s 48 0 = 0 ∨ s 48 0 = 1) (hc : 0 ≤ s 48 2 ∧ s 48 2 ≤ 20) : am_wp (d) 135 0 (lv_args 0 [.ref 1, .int (iI c)]) [] (am_hp E s) (fun rv h => rv = some (.int (iI (if s 48 0 = 0 then -103 else if 0 ≤ c ∧ c < s 48 2 then s 55 c else -1))) ∧ h = am_hp E s) := by
  obtain ⟨r1_c, r2_c⟩ := hr_c
  have hr_c : am_R c := ⟨r1_c, r2_c⟩
  refine am_s rfl rfl ?_
  refine s_gr rfl g rfl rfl ?_
  refine s_gi (x := 0) rfl g rfl rfl rfl ?_
  refine s_zne rfl (by rcases hf with z | z <;> exact ⟨by omega, by omega⟩) (fun c1 => ?_) (fun c1 => ?_)
  · refine am_s rfl rfl ?_
    refine s_zlt rfl ⟨by omega, by omega⟩ (fun c2 => ?_) (fun c2 => ?_)
    · refine s_k (-1) rfl rfl ?_
      refine am_r rfl rfl ⟨congrArg (fun z => some (Value.int (iI z))) ?_, rfl⟩
      (repeat' split) <;> first | rfl | (exfalso; omega)
    · refine am_s rfl rfl ?_
      refine am_s rfl rfl ?_
      refine s_gr rfl g rfl rfl ?_
      refine s_gi (x := 2) rfl g rfl rfl rfl ?_
      refine s_cge rfl ⟨by omega, by omega⟩ ⟨by omega, by omega⟩ (fun c3 => ?_) (fun c3 => ?_)
      · refine s_k (-1) rfl rfl ?_
        refine am_r rfl rfl ⟨congrArg (fun z => some (Value.int (iI z))) ?_, rfl⟩
        (repeat' split) <;> first | rfl | (exfalso; omega)
      · refine am_s rfl rfl ?_
        refine s_gr rfl g rfl rfl ?_
        refine s_gr rfl g rfl rfl ?_
        refine am_s rfl rfl ?_
        refine s_ia rfl g rfl ⟨by omega, by omega⟩ (by decide) ?_
        refine am_s rfl rfl ?_
        refine am_r rfl rfl ⟨congrArg (fun z => some (Value.int (iI z))) ?_, rfl⟩
        (repeat' split) <;> first | rfl | (exfalso; omega)
  · refine s_k (-103) rfl rfl ?_
    refine am_r rfl rfl ⟨congrArg (fun z => some (Value.int (iI z))) ?_, rfl⟩
    (repeat' split) <;> first | rfl | (exfalso; omega)
theorem t_oddM0 {d : Nat} {E : am_Ev} {s : am_S} {c : Int} (g : am_Eg E) (hn : 1 ≤ s 168 1 ∧ s 168 1 ≤ 20) (hr_c : am_R c) (hf : s 168 14 = 0 ∨ s 168 14 = 1) (hc : 0 ≤ s 168 20 ∧ s 168 20 ≤ 20) : am_wp (d + 1) 189 5 (lv_args 0 [.ref 168, .int (iI c)]) [] (am_hp E s) (fun rv h => rv = some (.int (iI (if s 168 14 = 0 then -103 else if 0 ≤ c ∧ c < s 168 20 then s 177 c else -1))) ∧ h = am_hp E s) := by
  obtain ⟨r1_c, r2_c⟩ := hr_c
  have hr_c : am_R c := ⟨r1_c, r2_c⟩
  refine am_s rfl rfl ?_
  refine s_gi (x := 14) rfl g rfl rfl rfl ?_
  refine s_zne rfl (by rcases hf with z | z <;> exact ⟨by omega, by omega⟩) (fun c1 => ?_) (fun c1 => ?_)
  · refine am_s rfl rfl ?_
    refine s_i2l rfl ⟨by omega, by omega⟩ ?_
    refine s_kl 0 rfl rfl ?_
    refine am_s rfl rfl ?_
    refine s_gi (x := 20) rfl g rfl rfl rfl ?_
    refine s_k 1 rfl rfl ?_
    refine s_isub rfl ?_
    refine s_i2l rfl ⟨by omega, by omega⟩ ?_
    refine am_cs (As := [_, _, _]) (rest := []) rfl (Or.inl rfl) rfl rfl (Nat.le_of_ble_eq_true rfl) rfl (t_within ⟨by omega, by omega⟩ ⟨by omega, by omega⟩ ⟨by omega, by omega⟩) ?_
    rintro rv h1 ⟨rfl, rfl⟩
    by_cases hw : 0 ≤ c ∧ c ≤ s 168 20 - 1
    · rw [show (if 0 ≤ c ∧ c ≤ s 168 20 - 1 then (1 : Int) else 0) = 1 from if_pos hw]
      refine s_zeq rfl ⟨by omega, by omega⟩ (fun c3 => absurd c3 (by omega)) (fun c3 => ?_)
      refine am_s rfl rfl ?_
      refine s_gr rfl g rfl rfl ?_
      refine am_s rfl rfl ?_
      refine s_ia rfl g rfl ⟨by omega, by omega⟩ (by decide) ?_
      refine am_s rfl rfl ?_
      refine am_r rfl rfl ⟨congrArg (fun z => some (Value.int (iI z))) ?_, rfl⟩
      (repeat' split) <;> first | rfl | (exfalso; omega)
    · rw [show (if 0 ≤ c ∧ c ≤ s 168 20 - 1 then (1 : Int) else 0) = 0 from if_neg hw]
      refine s_zeq rfl ⟨by omega, by omega⟩ (fun c3 => ?_) (fun c3 => absurd c3 (by omega))
      refine s_k (-1) rfl rfl ?_
      refine am_r rfl rfl ⟨congrArg (fun z => some (Value.int (iI z))) ?_, rfl⟩
      (repeat' split) <;> first | rfl | (exfalso; omega)
  · refine s_k (-103) rfl rfl ?_
    refine am_s rfl rfl ?_
    refine am_r rfl rfl ⟨congrArg (fun z => some (Value.int (iI z))) ?_, rfl⟩
    (repeat' split) <;> first | rfl | (exfalso; omega)
theorem t_oddM {d : Nat} {E : am_Ev} {s : am_S} {c : Int} (g : am_Eg E) (hn : 1 ≤ s 168 1 ∧ s 168 1 ≤ 20) (hr_c : am_R c) (hf : s 168 14 = 0 ∨ s 168 14 = 1) (hc : 0 ≤ s 168 20 ∧ s 168 20 ≤ 20) : am_wp (d + 1) 189 0 (lv_args 0 [.ref 168, .int (iI c)]) [] (am_hp E s) (fun rv h => rv = some (.int (iI (if s 168 14 = 0 then -103 else if 0 ≤ c ∧ c < s 168 20 then s 177 c else -1))) ∧ h = am_hp E (am_w s 168 0 0)) := by
  refine am_s rfl rfl ?_
  refine s_k 0 rfl rfl ?_
  refine s_pi (x := 0) rfl g rfl rfl rfl rfl ?_
  exact t_oddM0 (s := am_w s 168 0 0) g hn hr_c hf hc
theorem t_cornerM0 {d : Nat} {E : am_Ev} {s : am_S} {c : Int} (g : am_Eg E) (hn : 1 ≤ s 168 1 ∧ s 168 1 ≤ 20) (hr_c : am_R c) (hf : s 168 24 = 0 ∨ s 168 24 = 1) (hc : 0 ≤ s 168 26 ∧ s 168 26 ≤ 40) : am_wp (d + 1) 197 5 (lv_args 0 [.ref 168, .int (iI c)]) [] (am_hp E s) (fun rv h => rv = some (.int (iI (if s 168 24 = 0 then -103 else if 0 ≤ c ∧ c < s 168 26 then s 180 c else -1))) ∧ h = am_hp E s) := by
  obtain ⟨r1_c, r2_c⟩ := hr_c
  have hr_c : am_R c := ⟨r1_c, r2_c⟩
  refine am_s rfl rfl ?_
  refine s_gi (x := 24) rfl g rfl rfl rfl ?_
  refine s_zne rfl (by rcases hf with z | z <;> exact ⟨by omega, by omega⟩) (fun c1 => ?_) (fun c1 => ?_)
  · refine am_s rfl rfl ?_
    refine s_i2l rfl ⟨by omega, by omega⟩ ?_
    refine s_kl 0 rfl rfl ?_
    refine am_s rfl rfl ?_
    refine s_gi (x := 26) rfl g rfl rfl rfl ?_
    refine s_k 1 rfl rfl ?_
    refine s_isub rfl ?_
    refine s_i2l rfl ⟨by omega, by omega⟩ ?_
    refine am_cs (As := [_, _, _]) (rest := []) rfl (Or.inl rfl) rfl rfl (Nat.le_of_ble_eq_true rfl) rfl (t_within ⟨by omega, by omega⟩ ⟨by omega, by omega⟩ ⟨by omega, by omega⟩) ?_
    rintro rv h1 ⟨rfl, rfl⟩
    by_cases hw : 0 ≤ c ∧ c ≤ s 168 26 - 1
    · rw [show (if 0 ≤ c ∧ c ≤ s 168 26 - 1 then (1 : Int) else 0) = 1 from if_pos hw]
      refine s_zeq rfl ⟨by omega, by omega⟩ (fun c3 => absurd c3 (by omega)) (fun c3 => ?_)
      refine am_s rfl rfl ?_
      refine s_gr rfl g rfl rfl ?_
      refine am_s rfl rfl ?_
      refine s_ia rfl g rfl ⟨by omega, by omega⟩ (by decide) ?_
      refine am_s rfl rfl ?_
      refine am_r rfl rfl ⟨congrArg (fun z => some (Value.int (iI z))) ?_, rfl⟩
      (repeat' split) <;> first | rfl | (exfalso; omega)
    · rw [show (if 0 ≤ c ∧ c ≤ s 168 26 - 1 then (1 : Int) else 0) = 0 from if_neg hw]
      refine s_zeq rfl ⟨by omega, by omega⟩ (fun c3 => ?_) (fun c3 => absurd c3 (by omega))
      refine s_k (-1) rfl rfl ?_
      refine am_r rfl rfl ⟨congrArg (fun z => some (Value.int (iI z))) ?_, rfl⟩
      (repeat' split) <;> first | rfl | (exfalso; omega)
  · refine s_k (-103) rfl rfl ?_
    refine am_s rfl rfl ?_
    refine am_r rfl rfl ⟨congrArg (fun z => some (Value.int (iI z))) ?_, rfl⟩
    (repeat' split) <;> first | rfl | (exfalso; omega)
theorem t_cornerM {d : Nat} {E : am_Ev} {s : am_S} {c : Int} (g : am_Eg E) (hn : 1 ≤ s 168 1 ∧ s 168 1 ≤ 20) (hr_c : am_R c) (hf : s 168 24 = 0 ∨ s 168 24 = 1) (hc : 0 ≤ s 168 26 ∧ s 168 26 ≤ 40) : am_wp (d + 1) 197 0 (lv_args 0 [.ref 168, .int (iI c)]) [] (am_hp E s) (fun rv h => rv = some (.int (iI (if s 168 24 = 0 then -103 else if 0 ≤ c ∧ c < s 168 26 then s 180 c else -1))) ∧ h = am_hp E (am_w s 168 0 0)) := by
  refine am_s rfl rfl ?_
  refine s_k 0 rfl rfl ?_
  refine s_pi (x := 0) rfl g rfl rfl rfl rfl ?_
  exact t_cornerM0 (s := am_w s 168 0 0) g hn hr_c hf hc
theorem t_cornerAt {d : Nat} {E : am_Ev} {s : am_S} {i : Int} (g : am_Eg E) (hs : s 127 1 ≤ 40) (hi : 0 ≤ i ∧ i < s 127 1) : am_wp d 117 0 (lv_args 0 [.ref 127, .int (iI i)]) [] (am_hp E s) (fun rv h => rv = some (.int (iI (s 128 (s 127 1 - 1 - i)))) ∧ h = am_hp E s) := by
  refine am_s rfl rfl ?_
  refine s_gr rfl g rfl rfl ?_
  refine am_s rfl rfl ?_
  refine s_gi (x := 1) rfl g rfl rfl rfl ?_
  refine s_k 1 rfl rfl ?_
  refine s_isub rfl ?_
  refine am_s rfl rfl ?_
  refine s_isub rfl ?_
  refine s_ia rfl g rfl ⟨by omega, by omega⟩ (by decide) ?_
  exact am_r rfl rfl ⟨rfl, rfl⟩
theorem t_cornerX {d : Nat} {E : am_Ev} {s : am_S} {c : Int} (g : am_Eg E) (hn : 1 ≤ s 25 0 ∧ s 25 0 ≤ 20) (hr_c : am_R c) (hf : s 127 0 = 0 ∨ s 127 0 = 1) (hc : 0 ≤ s 127 1 ∧ s 127 1 ≤ 40) : am_wp (d + 1) 140 0 (lv_args 0 [.ref 1, .int (iI c)]) [] (am_hp E s) (fun rv h => rv = some (.int (iI (if s 127 0 = 0 then -103 else if 0 ≤ c ∧ c < s 127 1 then s 128 (s 127 1 - 1 - c) else -1))) ∧ h = am_hp E s) := by
  obtain ⟨r1_c, r2_c⟩ := hr_c
  have hr_c : am_R c := ⟨r1_c, r2_c⟩
  refine am_s rfl rfl ?_
  refine s_gr rfl g rfl rfl ?_
  refine s_gi (x := 0) rfl g rfl rfl rfl ?_
  refine s_zne rfl (by rcases hf with z | z <;> exact ⟨by omega, by omega⟩) (fun c1 => ?_) (fun c1 => ?_)
  · refine am_s rfl rfl ?_
    refine s_zlt rfl ⟨by omega, by omega⟩ (fun c2 => ?_) (fun c2 => ?_)
    · refine s_k (-1) rfl rfl ?_
      refine am_r rfl rfl ⟨congrArg (fun z => some (Value.int (iI z))) ?_, rfl⟩
      (repeat' split) <;> first | rfl | (exfalso; omega)
    · refine am_s rfl rfl ?_
      refine am_s rfl rfl ?_
      refine s_gr rfl g rfl rfl ?_
      refine s_gi (x := 1) rfl g rfl rfl rfl ?_
      refine s_cge rfl ⟨by omega, by omega⟩ ⟨by omega, by omega⟩ (fun c3 => ?_) (fun c3 => ?_)
      · refine s_k (-1) rfl rfl ?_
        refine am_r rfl rfl ⟨congrArg (fun z => some (Value.int (iI z))) ?_, rfl⟩
        (repeat' split) <;> first | rfl | (exfalso; omega)
      · refine am_s rfl rfl ?_
        refine s_gr rfl g rfl rfl ?_
        refine am_s rfl rfl ?_
        refine s_cv [_] [] rfl g (Or.inl rfl) rfl rfl (Nat.le_of_ble_eq_true rfl) rfl rfl (t_cornerAt g (by omega) ⟨by omega, by omega⟩) ?_
        rintro rv h1 ⟨rfl, rfl⟩
        refine am_s rfl rfl ?_
        refine am_r rfl rfl ⟨congrArg (fun z => some (Value.int (iI z))) ?_, rfl⟩
        (repeat' split) <;> first | rfl | (exfalso; omega)
  · refine s_k (-103) rfl rfl ?_
    refine am_r rfl rfl ⟨congrArg (fun z => some (Value.int (iI z))) ?_, rfl⟩
    (repeat' split) <;> first | rfl | (exfalso; omega)
