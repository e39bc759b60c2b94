theorem am_q_better1 {h : am_H} {N : am_H → Prop} {a b : Int32} (F : am_F h) (hN : N h) (hl : a < 0) : am_pairI h 145 212 [.int a, .int b] N := by
  obtain ⟨hn, f1, f25, f48, f58, f127, f151, f168⟩ := F
  refine ⟨⟨_, f1⟩, Nat.le_trans (by decide) hn, ?_⟩
  refine am_s rfl rfl ?_
  refine am_bt rfl rfl (decide_eq_true hl) ?_
  refine am_s rfl rfl ?_
  refine am_r rfl rfl ⟨(-102), rfl, ⟨_, f168⟩, Nat.le_trans (by decide) hn, ?_⟩
  refine am_s rfl rfl ?_
  refine am_s rfl rfl ?_
  refine am_pfS rfl ⟨by decide, Nat.le_trans (by decide) hn⟩ f168 rfl rfl ?_
  refine am_s rfl rfl ?_
  refine am_s rfl rfl ?_
  refine am_s rfl rfl ?_
  refine am_s rfl rfl ?_
  refine am_cs (As := [.long (a : Int32).toInt64, .long (0 : Int32).toInt64, .long (2 : Int32).toInt64]) (rest := []) rfl (Or.inl rfl) rfl rfl (Nat.le_of_ble_eq_true rfl) rfl (am_within _ _ _ _ _) ?_
  rintro rv h' ⟨e8, rfl⟩
  rw [(if_neg (fun z => absurd hl (Int32.not_lt.mpr z.1)))] at e8
  rw [e8]
  refine am_bt rfl rfl (by decide) ?_
  refine am_s rfl rfl ?_
  exact am_r rfl rfl ⟨rfl, hN⟩
theorem am_q_better2 {h : am_H} {N : am_H → Prop} {a b : Int32} (F : am_F h) (hN : N h) (hg : 2 < a) : am_pairI h 145 212 [.int a, .int b] N := by
  obtain ⟨hn, f1, f25, f48, f58, f127, f151, f168⟩ := F
  refine ⟨⟨_, f1⟩, Nat.le_trans (by decide) hn, ?_⟩
  refine am_s rfl rfl ?_
  refine am_bf rfl rfl (decide_eq_false (fun z => absurd (Int32.lt_trans hg z) (by decide))) ?_
  refine am_s rfl rfl ?_
  refine am_s rfl rfl ?_
  refine am_bt rfl rfl (decide_eq_true hg) ?_
  refine am_s rfl rfl ?_
  refine am_r rfl rfl ⟨(-102), rfl, ⟨_, f168⟩, Nat.le_trans (by decide) hn, ?_⟩
  refine am_s rfl rfl ?_
  refine am_s rfl rfl ?_
  refine am_pfS rfl ⟨by decide, Nat.le_trans (by decide) hn⟩ f168 rfl rfl ?_
  refine am_s rfl rfl ?_
  refine am_s rfl rfl ?_
  refine am_s rfl rfl ?_
  refine am_s rfl rfl ?_
  refine am_cs (As := [.long (a : Int32).toInt64, .long (0 : Int32).toInt64, .long (2 : Int32).toInt64]) (rest := []) rfl (Or.inl rfl) rfl rfl (Nat.le_of_ble_eq_true rfl) rfl (am_within _ _ _ _ _) ?_
  rintro rv h' ⟨e8, rfl⟩
  rw [(if_neg (fun z => absurd hg (Int32.not_lt.mpr z.2)))] at e8
  rw [e8]
  refine am_bt rfl rfl (by decide) ?_
  refine am_s rfl rfl ?_
  exact am_r rfl rfl ⟨rfl, hN⟩
theorem am_q_better3 {h : am_H} {N : am_H → Prop} {a b : Int32} (F : am_F h) (hN : N h) (hi : 0 ≤ a ∧ a ≤ 2) (hl : b < 1) : am_pairI h 145 212 [.int a, .int b] N := by
  obtain ⟨hn, f1, f25, f48, f58, f127, f151, f168⟩ := F
  refine ⟨⟨_, f1⟩, Nat.le_trans (by decide) hn, ?_⟩
  refine am_s rfl rfl ?_
  refine am_bf rfl rfl (decide_eq_false (Int32.not_lt.mpr hi.1)) ?_
  refine am_s rfl rfl ?_
  refine am_s rfl rfl ?_
  refine am_bf rfl rfl (decide_eq_false (Int32.not_lt.mpr hi.2)) ?_
  refine am_s rfl rfl ?_
  refine am_s rfl rfl ?_
  refine am_bt rfl rfl (decide_eq_true hl) ?_
  refine am_s rfl rfl ?_
  refine am_r rfl rfl ⟨(-102), rfl, ⟨_, f168⟩, Nat.le_trans (by decide) hn, ?_⟩
  refine am_s rfl rfl ?_
  refine am_s rfl rfl ?_
  refine am_pfS rfl ⟨by decide, Nat.le_trans (by decide) hn⟩ f168 rfl rfl ?_
  refine am_s rfl rfl ?_
  refine am_s rfl rfl ?_
  refine am_s rfl rfl ?_
  refine am_s rfl rfl ?_
  refine am_cs (As := [.long (a : Int32).toInt64, .long (0 : Int32).toInt64, .long (2 : Int32).toInt64]) (rest := []) rfl (Or.inl rfl) rfl rfl (Nat.le_of_ble_eq_true rfl) rfl (am_within _ _ _ _ _) ?_
  rintro rv h' ⟨e8, rfl⟩
  rw [(if_pos hi)] at e8
  rw [e8]
  refine am_bf rfl rfl (by decide) ?_
  refine am_s rfl rfl ?_
  refine am_s rfl rfl ?_
  refine am_s rfl rfl ?_
  refine am_s rfl rfl ?_
  refine am_cs (As := [.long (b : Int32).toInt64, .long (1 : Int32).toInt64, .long (300 : Int32).toInt64]) (rest := []) rfl (Or.inl rfl) rfl rfl (Nat.le_of_ble_eq_true rfl) rfl (am_within _ _ _ _ _) ?_
  rintro rv h' ⟨e8, rfl⟩
  rw [(if_neg (fun z => absurd hl (Int32.not_lt.mpr z.1)))] at e8
  rw [e8]
  refine am_bf rfl rfl (by decide) ?_
  refine am_s rfl rfl ?_
  exact am_r rfl rfl ⟨rfl, hN⟩
theorem am_q_better4 {h : am_H} {N : am_H → Prop} {a b : Int32} (F : am_F h) (hN : N h) (hi : 0 ≤ a ∧ a ≤ 2) (hg : 300 < b) : am_pairI h 145 212 [.int a, .int b] N := by
  obtain ⟨hn, f1, f25, f48, f58, f127, f151, f168⟩ := F
  refine ⟨⟨_, f1⟩, Nat.le_trans (by decide) hn, ?_⟩
  refine am_s rfl rfl ?_
  refine am_bf rfl rfl (decide_eq_false (Int32.not_lt.mpr hi.1)) ?_
  refine am_s rfl rfl ?_
  refine am_s rfl rfl ?_
  refine am_bf rfl rfl (decide_eq_false (Int32.not_lt.mpr hi.2)) ?_
  refine am_s rfl rfl ?_
  refine am_s rfl rfl ?_
  refine am_bf rfl rfl (decide_eq_false (fun z => absurd (Int32.lt_trans hg z) (by decide))) ?_
  refine am_s rfl rfl ?_
  refine am_s rfl rfl ?_
  refine am_bf rfl rfl (decide_eq_false (Int32.not_le.mpr hg)) ?_
  refine am_s rfl rfl ?_
  refine am_r rfl rfl ⟨(-102), rfl, ⟨_, f168⟩, Nat.le_trans (by decide) hn, ?_⟩
  refine am_s rfl rfl ?_
  refine am_s rfl rfl ?_
  refine am_pfS rfl ⟨by decide, Nat.le_trans (by decide) hn⟩ f168 rfl rfl ?_
  refine am_s rfl rfl ?_
  refine am_s rfl rfl ?_
  refine am_s rfl rfl ?_
  refine am_s rfl rfl ?_
  refine am_cs (As := [.long (a : Int32).toInt64, .long (0 : Int32).toInt64, .long (2 : Int32).toInt64]) (rest := []) rfl (Or.inl rfl) rfl rfl (Nat.le_of_ble_eq_true rfl) rfl (am_within _ _ _ _ _) ?_
  rintro rv h' ⟨e8, rfl⟩
  rw [(if_pos hi)] at e8
  rw [e8]
  refine am_bf rfl rfl (by decide) ?_
  refine am_s rfl rfl ?_
  refine am_s rfl rfl ?_
  refine am_s rfl rfl ?_
  refine am_s rfl rfl ?_
  refine am_cs (As := [.long (b : Int32).toInt64, .long (1 : Int32).toInt64, .long (300 : Int32).toInt64]) (rest := []) rfl (Or.inl rfl) rfl rfl (Nat.le_of_ble_eq_true rfl) rfl (am_within _ _ _ _ _) ?_
  rintro rv h' ⟨e8, rfl⟩
  rw [(if_neg (fun z => absurd hg (Int32.not_lt.mpr z.2)))] at e8
  rw [e8]
  refine am_bf rfl rfl (by decide) ?_
  refine am_s rfl rfl ?_
  exact am_r rfl rfl ⟨rfl, hN⟩
theorem am_q_better5 {h : am_H} {N : am_H → Prop} {a b : Int32} (F : am_F h) (hN : N h) (hi : 0 ≤ a ∧ a ≤ 2) (hj : 1 ≤ b ∧ b ≤ 300) : am_pairI h 145 212 [.int a, .int b] N := by
  obtain ⟨hn, f1, f25, f48, f58, f127, f151, f168⟩ := F
  refine ⟨⟨_, f1⟩, Nat.le_trans (by decide) hn, ?_⟩
  refine am_s rfl rfl ?_
  refine am_bf rfl rfl (decide_eq_false (Int32.not_lt.mpr hi.1)) ?_
  refine am_s rfl rfl ?_
  refine am_s rfl rfl ?_
  refine am_bf rfl rfl (decide_eq_false (Int32.not_lt.mpr hi.2)) ?_
  refine am_s rfl rfl ?_
  refine am_s rfl rfl ?_
  refine am_bf rfl rfl (decide_eq_false (Int32.not_lt.mpr hj.1)) ?_
  refine am_s rfl rfl ?_
  refine am_s rfl rfl ?_
  refine am_bt rfl rfl (decide_eq_true hj.2) ?_
  refine am_s rfl rfl ?_
  refine am_gf rfl ⟨by decide, Nat.le_trans (by decide) hn⟩ f1 rfl ?_
  refine am_gf rfl ⟨by decide, Nat.le_trans (by decide) hn⟩ f151 rfl ?_
  refine am_bt rfl rfl (by decide) ?_
  refine am_s rfl rfl ?_
  refine am_r rfl rfl ⟨(-103), rfl, ⟨_, f168⟩, Nat.le_trans (by decide) hn, ?_⟩
  refine am_s rfl rfl ?_
  refine am_s rfl rfl ?_
  refine am_pfS rfl ⟨by decide, Nat.le_trans (by decide) hn⟩ f168 rfl rfl ?_
  refine am_s rfl rfl ?_
  refine am_s rfl rfl ?_
  refine am_s rfl rfl ?_
  refine am_s rfl rfl ?_
  refine am_cs (As := [.long (a : Int32).toInt64, .long (0 : Int32).toInt64, .long (2 : Int32).toInt64]) (rest := []) rfl (Or.inl rfl) rfl rfl (Nat.le_of_ble_eq_true rfl) rfl (am_within _ _ _ _ _) ?_
  rintro rv h' ⟨e8, rfl⟩
  rw [(if_pos hi)] at e8
  rw [e8]
  refine am_bf rfl rfl (by decide) ?_
  refine am_s rfl rfl ?_
  refine am_s rfl rfl ?_
  refine am_s rfl rfl ?_
  refine am_s rfl rfl ?_
  refine am_cs (As := [.long (b : Int32).toInt64, .long (1 : Int32).toInt64, .long (300 : Int32).toInt64]) (rest := []) rfl (Or.inl rfl) rfl rfl (Nat.le_of_ble_eq_true rfl) rfl (am_within _ _ _ _ _) ?_
  rintro rv h' ⟨e8, rfl⟩
  rw [(if_pos hj)] at e8
  rw [e8]
  refine am_bt rfl rfl (by decide) ?_
  refine am_s rfl rfl ?_
  refine am_gf rfl ⟨by decide, Nat.le_trans (by decide) hn⟩ f168 rfl ?_
  refine am_bf rfl rfl (by decide) ?_
  refine am_s rfl rfl ?_
  exact am_r rfl rfl ⟨rfl, hN⟩
theorem am_q_bound1 {h : am_H} {N : am_H → Prop} {a b : Int32} (F : am_F h) (hN : N h) (hl : a < 1) : am_pairJ h 147 215 [.int a, .int b] N := by
  obtain ⟨hn, f1, f25, f48, f58, f127, f151, f168⟩ := F
  refine ⟨⟨_, f1⟩, Nat.le_trans (by decide) hn, ?_⟩
  refine am_s rfl rfl ?_
  refine am_s rfl rfl ?_
  refine am_bt rfl rfl (decide_eq_true hl) ?_
  refine am_s rfl rfl ?_
  refine am_r rfl rfl ⟨(-102), rfl, ⟨_, f168⟩, Nat.le_trans (by decide) hn, ?_⟩
  refine am_s rfl rfl ?_
  refine am_s rfl rfl ?_
  refine am_pfS rfl ⟨by decide, Nat.le_trans (by decide) hn⟩ f168 rfl rfl ?_
  refine am_s rfl rfl ?_
  refine am_s rfl rfl ?_
  refine am_s rfl rfl ?_
  refine am_s rfl rfl ?_
  refine am_cs (As := [.long (a : Int32).toInt64, .long (1 : Int32).toInt64, .long (100 : Int32).toInt64]) (rest := []) rfl (Or.inl rfl) rfl rfl (Nat.le_of_ble_eq_true rfl) rfl (am_within _ _ _ _ _) ?_
  rintro rv h' ⟨e8, rfl⟩
  rw [(if_neg (fun z => absurd hl (Int32.not_lt.mpr z.1)))] at e8
  rw [e8]
  refine am_bt rfl rfl (by decide) ?_
  refine am_s rfl rfl ?_
  exact am_r rfl rfl ⟨rfl, hN⟩
theorem am_q_bound2 {h : am_H} {N : am_H → Prop} {a b : Int32} (F : am_F h) (hN : N h) (hg : 100 < a) : am_pairJ h 147 215 [.int a, .int b] N := by
  obtain ⟨hn, f1, f25, f48, f58, f127, f151, f168⟩ := F
  refine ⟨⟨_, f1⟩, Nat.le_trans (by decide) hn, ?_⟩
  refine am_s rfl rfl ?_
  refine am_s rfl rfl ?_
  refine am_bf rfl rfl (decide_eq_false (fun z => absurd (Int32.lt_trans hg z) (by decide))) ?_
  refine am_s rfl rfl ?_
  refine am_s rfl rfl ?_
  refine am_bt rfl rfl (decide_eq_true hg) ?_
  refine am_s rfl rfl ?_
  refine am_r rfl rfl ⟨(-102), rfl, ⟨_, f168⟩, Nat.le_trans (by decide) hn, ?_⟩
  refine am_s rfl rfl ?_
  refine am_s rfl rfl ?_
  refine am_pfS rfl ⟨by decide, Nat.le_trans (by decide) hn⟩ f168 rfl rfl ?_
  refine am_s rfl rfl ?_
  refine am_s rfl rfl ?_
  refine am_s rfl rfl ?_
  refine am_s rfl rfl ?_
  refine am_cs (As := [.long (a : Int32).toInt64, .long (1 : Int32).toInt64, .long (100 : Int32).toInt64]) (rest := []) rfl (Or.inl rfl) rfl rfl (Nat.le_of_ble_eq_true rfl) rfl (am_within _ _ _ _ _) ?_
  rintro rv h' ⟨e8, rfl⟩
  rw [(if_neg (fun z => absurd hg (Int32.not_lt.mpr z.2)))] at e8
  rw [e8]
  refine am_bt rfl rfl (by decide) ?_
  refine am_s rfl rfl ?_
  exact am_r rfl rfl ⟨rfl, hN⟩
theorem am_q_bound3 {h : am_H} {N : am_H → Prop} {a b : Int32} (F : am_F h) (hN : N h) (hi : 1 ≤ a ∧ a ≤ 100) (hl : b < 0) : am_pairJ h 147 215 [.int a, .int b] N := by
  obtain ⟨hn, f1, f25, f48, f58, f127, f151, f168⟩ := F
  refine ⟨⟨_, f1⟩, Nat.le_trans (by decide) hn, ?_⟩
  refine am_s rfl rfl ?_
  refine am_s rfl rfl ?_
  refine am_bf rfl rfl (decide_eq_false (Int32.not_lt.mpr hi.1)) ?_
  refine am_s rfl rfl ?_
  refine am_s rfl rfl ?_
  refine am_bf rfl rfl (decide_eq_false (Int32.not_lt.mpr hi.2)) ?_
  refine am_s rfl rfl ?_
  refine am_bt rfl rfl (decide_eq_true hl) ?_
  refine am_s rfl rfl ?_
  refine am_r rfl rfl ⟨(-102), rfl, ⟨_, f168⟩, Nat.le_trans (by decide) hn, ?_⟩
  refine am_s rfl rfl ?_
  refine am_s rfl rfl ?_
  refine am_pfS rfl ⟨by decide, Nat.le_trans (by decide) hn⟩ f168 rfl rfl ?_
  refine am_s rfl rfl ?_
  refine am_s rfl rfl ?_
  refine am_s rfl rfl ?_
  refine am_s rfl rfl ?_
  refine am_cs (As := [.long (a : Int32).toInt64, .long (1 : Int32).toInt64, .long (100 : Int32).toInt64]) (rest := []) rfl (Or.inl rfl) rfl rfl (Nat.le_of_ble_eq_true rfl) rfl (am_within _ _ _ _ _) ?_
  rintro rv h' ⟨e8, rfl⟩
  rw [(if_pos hi)] at e8
  rw [e8]
  refine am_bf rfl rfl (by decide) ?_
  refine am_s rfl rfl ?_
  refine am_s rfl rfl ?_
  refine am_s rfl rfl ?_
  refine am_s rfl rfl ?_
  refine am_cs (As := [.long (b : Int32).toInt64, .long (0 : Int32).toInt64, .long (1000000 : Int32).toInt64]) (rest := []) rfl (Or.inl rfl) rfl rfl (Nat.le_of_ble_eq_true rfl) rfl (am_within _ _ _ _ _) ?_
  rintro rv h' ⟨e8, rfl⟩
  rw [(if_neg (fun z => absurd hl (Int32.not_lt.mpr z.1)))] at e8
  rw [e8]
  refine am_bf rfl rfl (by decide) ?_
  refine am_s rfl rfl ?_
  exact am_r rfl rfl ⟨rfl, hN⟩
theorem am_q_bound4 {h : am_H} {N : am_H → Prop} {a b : Int32} (F : am_F h) (hN : N h) (hi : 1 ≤ a ∧ a ≤ 100) (hg : 1000000 < b) : am_pairJ h 147 215 [.int a, .int b] N := by
  obtain ⟨hn, f1, f25, f48, f58, f127, f151, f168⟩ := F
  refine ⟨⟨_, f1⟩, Nat.le_trans (by decide) hn, ?_⟩
  refine am_s rfl rfl ?_
  refine am_s rfl rfl ?_
  refine am_bf rfl rfl (decide_eq_false (Int32.not_lt.mpr hi.1)) ?_
  refine am_s rfl rfl ?_
  refine am_s rfl rfl ?_
  refine am_bf rfl rfl (decide_eq_false (Int32.not_lt.mpr hi.2)) ?_
  refine am_s rfl rfl ?_
  refine am_bf rfl rfl (decide_eq_false (fun z => absurd (Int32.lt_trans hg z) (by decide))) ?_
  refine am_s rfl rfl ?_
  refine am_s rfl rfl ?_
  refine am_bf rfl rfl (decide_eq_false (Int32.not_le.mpr hg)) ?_
  refine am_s rfl rfl ?_
  refine am_r rfl rfl ⟨(-102), rfl, ⟨_, f168⟩, Nat.le_trans (by decide) hn, ?_⟩
  refine am_s rfl rfl ?_
  refine am_s rfl rfl ?_
  refine am_pfS rfl ⟨by decide, Nat.le_trans (by decide) hn⟩ f168 rfl rfl ?_
  refine am_s rfl rfl ?_
  refine am_s rfl rfl ?_
  refine am_s rfl rfl ?_
  refine am_s rfl rfl ?_
  refine am_cs (As := [.long (a : Int32).toInt64, .long (1 : Int32).toInt64, .long (100 : Int32).toInt64]) (rest := []) rfl (Or.inl rfl) rfl rfl (Nat.le_of_ble_eq_true rfl) rfl (am_within _ _ _ _ _) ?_
  rintro rv h' ⟨e8, rfl⟩
  rw [(if_pos hi)] at e8
  rw [e8]
  refine am_bf rfl rfl (by decide) ?_
  refine am_s rfl rfl ?_
  refine am_s rfl rfl ?_
  refine am_s rfl rfl ?_
  refine am_s rfl rfl ?_
  refine am_cs (As := [.long (b : Int32).toInt64, .long (0 : Int32).toInt64, .long (1000000 : Int32).toInt64]) (rest := []) rfl (Or.inl rfl) rfl rfl (Nat.le_of_ble_eq_true rfl) rfl (am_within _ _ _ _ _) ?_
  rintro rv h' ⟨e8, rfl⟩
  rw [(if_neg (fun z => absurd hg (Int32.not_lt.mpr z.2)))] at e8
  rw [e8]
  refine am_bf rfl rfl (by decide) ?_
  refine am_s rfl rfl ?_
  exact am_r rfl rfl ⟨rfl, hN⟩
