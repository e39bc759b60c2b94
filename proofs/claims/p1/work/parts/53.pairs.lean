theorem am_q_drop {h : am_H} {N : am_H → Prop} {a : Int32} (F : am_F h) (hN : N h) (ha : ¬ a = 0) : am_pairI h 127 174 [.int a] N := by
  obtain ⟨hn, f1, f25, f48, f58, f127, f151, f168⟩ := F
  refine ⟨⟨_, f1⟩, Nat.le_trans (by decide) hn, ?_⟩
  refine am_s rfl rfl ?_
  refine am_s rfl rfl ?_
  refine am_cv (As := [.int a]) (rest := []) rfl (Or.inl rfl) rfl rfl (Nat.le_of_ble_eq_true rfl) rfl ⟨by decide, Nat.le_trans (by decide) hn⟩ f1 (am_isCityX (n := 0) ⟨Nat.le_trans (by decide) hn, by decide, Nat.le_trans (by decide) hn⟩ f1 rfl f25 rfl) ?_
  rintro rv h' ⟨e8, rfl⟩
  rw [(if_neg (am_city1 ha))] at e8
  rw [e8]
  refine am_bf rfl rfl (by decide) ?_
  refine am_s rfl rfl ?_
  refine am_r rfl rfl ⟨(-101), rfl, ⟨_, f168⟩, Nat.le_trans (by decide) hn, ?_⟩
  refine am_s rfl rfl ?_
  refine am_s rfl rfl ?_
  refine am_pfS rfl ⟨by decide, Nat.le_trans (by decide) hn⟩ f168 rfl rfl ?_
  refine am_s rfl rfl ?_
  refine am_s rfl rfl ?_
  refine am_cv (As := [.int a]) (rest := []) rfl (Or.inl rfl) rfl rfl (Nat.le_of_ble_eq_true rfl) rfl ⟨by decide, Nat.le_trans (by decide) hn⟩ f168 (am_isCityM (Nat.le_trans (by decide) hn) f168 rfl) ?_
  rintro rv h' ⟨e8, rfl⟩
  rw [(if_neg (am_city1 ha))] at e8
  rw [e8]
  refine am_bf rfl rfl (by decide) ?_
  refine am_s rfl rfl ?_
  exact am_r rfl rfl ⟨rfl, hN⟩
theorem am_q_hung {h : am_H} {N : am_H → Prop} {a : Int32} (F : am_F h) (hN : N h) (ha : ¬ a = 0) : am_pairI h 133 186 [.int a] N := by
  obtain ⟨hn, f1, f25, f48, f58, f127, f151, f168⟩ := F
  refine ⟨⟨_, f1⟩, Nat.le_trans (by decide) hn, ?_⟩
  refine am_s rfl rfl ?_
  refine am_s rfl rfl ?_
  refine am_cv (As := [.int a]) (rest := []) rfl (Or.inl rfl) rfl rfl (Nat.le_of_ble_eq_true rfl) rfl ⟨by decide, Nat.le_trans (by decide) hn⟩ f1 (am_isCityX (n := 0) ⟨Nat.le_trans (by decide) hn, by decide, Nat.le_trans (by decide) hn⟩ f1 rfl f25 rfl) ?_
  rintro rv h' ⟨e8, rfl⟩
  rw [(if_neg (am_city1 ha))] at e8
  rw [e8]
  refine am_bf rfl rfl (by decide) ?_
  refine am_s rfl rfl ?_
  refine am_r rfl rfl ⟨(-101), rfl, ⟨_, f168⟩, Nat.le_trans (by decide) hn, ?_⟩
  refine am_s rfl rfl ?_
  refine am_s rfl rfl ?_
  refine am_pfS rfl ⟨by decide, Nat.le_trans (by decide) hn⟩ f168 rfl rfl ?_
  refine am_s rfl rfl ?_
  refine am_s rfl rfl ?_
  refine am_cv (As := [.int a]) (rest := []) rfl (Or.inl rfl) rfl rfl (Nat.le_of_ble_eq_true rfl) rfl ⟨by decide, Nat.le_trans (by decide) hn⟩ f168 (am_isCityM (Nat.le_trans (by decide) hn) f168 rfl) ?_
  rintro rv h' ⟨e8, rfl⟩
  rw [(if_neg (am_city1 ha))] at e8
  rw [e8]
  refine am_bf rfl rfl (by decide) ?_
  refine am_s rfl rfl ?_
  refine am_s rfl rfl ?_
  exact am_r rfl rfl ⟨rfl, hN⟩
theorem am_q_cut {h : am_H} {N : am_H → Prop} {a : Int32} (F : am_F h) (hN : N h) (ha : ¬ a = 0) : am_pairI h 134 188 [.int a] N := by
  obtain ⟨hn, f1, f25, f48, f58, f127, f151, f168⟩ := F
  refine ⟨⟨_, f1⟩, Nat.le_trans (by decide) hn, ?_⟩
  refine am_s rfl rfl ?_
  refine am_s rfl rfl ?_
  refine am_cv (As := [.int a]) (rest := []) rfl (Or.inl rfl) rfl rfl (Nat.le_of_ble_eq_true rfl) rfl ⟨by decide, Nat.le_trans (by decide) hn⟩ f1 (am_isCityX (n := 0) ⟨Nat.le_trans (by decide) hn, by decide, Nat.le_trans (by decide) hn⟩ f1 rfl f25 rfl) ?_
  rintro rv h' ⟨e8, rfl⟩
  rw [(if_neg (am_city1 ha))] at e8
  rw [e8]
  refine am_bf rfl rfl (by decide) ?_
  refine am_s rfl rfl ?_
  refine am_r rfl rfl ⟨(-101), rfl, ⟨_, f168⟩, Nat.le_trans (by decide) hn, ?_⟩
  refine am_s rfl rfl ?_
  refine am_s rfl rfl ?_
  refine am_pfS rfl ⟨by decide, Nat.le_trans (by decide) hn⟩ f168 rfl rfl ?_
  refine am_s rfl rfl ?_
  refine am_s rfl rfl ?_
  refine am_cv (As := [.int a]) (rest := []) rfl (Or.inl rfl) rfl rfl (Nat.le_of_ble_eq_true rfl) rfl ⟨by decide, Nat.le_trans (by decide) hn⟩ f168 (am_isCityM (Nat.le_trans (by decide) hn) f168 rfl) ?_
  rintro rv h' ⟨e8, rfl⟩
  rw [(if_neg (am_city1 ha))] at e8
  rw [e8]
  refine am_bf rfl rfl (by decide) ?_
  refine am_s rfl rfl ?_
  exact am_r rfl rfl ⟨rfl, hN⟩
theorem am_q_partner {h : am_H} {N : am_H → Prop} {a : Int32} (F : am_F h) (hN : N h) (ha : ¬ a = 0) : am_pairI h 137 192 [.int a] N := by
  obtain ⟨hn, f1, f25, f48, f58, f127, f151, f168⟩ := F
  refine ⟨⟨_, f1⟩, Nat.le_trans (by decide) hn, ?_⟩
  refine am_s rfl rfl ?_
  refine am_s rfl rfl ?_
  refine am_cv (As := [.int a]) (rest := []) rfl (Or.inl rfl) rfl rfl (Nat.le_of_ble_eq_true rfl) rfl ⟨by decide, Nat.le_trans (by decide) hn⟩ f1 (am_isCityX (n := 0) ⟨Nat.le_trans (by decide) hn, by decide, Nat.le_trans (by decide) hn⟩ f1 rfl f25 rfl) ?_
  rintro rv h' ⟨e8, rfl⟩
  rw [(if_neg (am_city1 ha))] at e8
  rw [e8]
  refine am_bf rfl rfl (by decide) ?_
  refine am_s rfl rfl ?_
  refine am_r rfl rfl ⟨(-101), rfl, ⟨_, f168⟩, Nat.le_trans (by decide) hn, ?_⟩
  refine am_s rfl rfl ?_
  refine am_s rfl rfl ?_
  refine am_pfS rfl ⟨by decide, Nat.le_trans (by decide) hn⟩ f168 rfl rfl ?_
  refine am_s rfl rfl ?_
  refine am_s rfl rfl ?_
  refine am_cv (As := [.int a]) (rest := []) rfl (Or.inl rfl) rfl rfl (Nat.le_of_ble_eq_true rfl) rfl ⟨by decide, Nat.le_trans (by decide) hn⟩ f168 (am_isCityM (Nat.le_trans (by decide) hn) f168 rfl) ?_
  rintro rv h' ⟨e8, rfl⟩
  rw [(if_neg (am_city1 ha))] at e8
  rw [e8]
  refine am_bf rfl rfl (by decide) ?_
  refine am_s rfl rfl ?_
  refine am_s rfl rfl ?_
  exact am_r rfl rfl ⟨rfl, hN⟩
theorem am_q_place {h : am_H} {N : am_H → Prop} {a : Int32} (F : am_F h) (hN : N h) (ha : ¬ a = 0) : am_pairI h 143 206 [.int a] N := by
  obtain ⟨hn, f1, f25, f48, f58, f127, f151, f168⟩ := F
  refine ⟨⟨_, f1⟩, Nat.le_trans (by decide) hn, ?_⟩
  refine am_s rfl rfl ?_
  refine am_s rfl rfl ?_
  refine am_cv (As := [.int a]) (rest := []) rfl (Or.inl rfl) rfl rfl (Nat.le_of_ble_eq_true rfl) rfl ⟨by decide, Nat.le_trans (by decide) hn⟩ f1 (am_isCityX (n := 0) ⟨Nat.le_trans (by decide) hn, by decide, Nat.le_trans (by decide) hn⟩ f1 rfl f25 rfl) ?_
  rintro rv h' ⟨e8, rfl⟩
  rw [(if_neg (am_city1 ha))] at e8
  rw [e8]
  refine am_bf rfl rfl (by decide) ?_
  refine am_s rfl rfl ?_
  refine am_r rfl rfl ⟨(-101), rfl, ⟨_, f168⟩, Nat.le_trans (by decide) hn, ?_⟩
  refine am_s rfl rfl ?_
  refine am_s rfl rfl ?_
  refine am_pfS rfl ⟨by decide, Nat.le_trans (by decide) hn⟩ f168 rfl rfl ?_
  refine am_s rfl rfl ?_
  refine am_s rfl rfl ?_
  refine am_cv (As := [.int a]) (rest := []) rfl (Or.inl rfl) rfl rfl (Nat.le_of_ble_eq_true rfl) rfl ⟨by decide, Nat.le_trans (by decide) hn⟩ f168 (am_isCityM (Nat.le_trans (by decide) hn) f168 rfl) ?_
  rintro rv h' ⟨e8, rfl⟩
  rw [(if_neg (am_city1 ha))] at e8
  rw [e8]
  refine am_bf rfl rfl (by decide) ?_
  refine am_s rfl rfl ?_
  exact am_r rfl rfl ⟨rfl, hN⟩
theorem am_q_penalty {h : am_H} {N : am_H → Prop} {a : Int32} (F : am_F h) (hN : N h) (ha : ¬ a = 0) : am_pairJ h 148 216 [.int a] N := by
  obtain ⟨hn, f1, f25, f48, f58, f127, f151, f168⟩ := F
  refine ⟨⟨_, f1⟩, Nat.le_trans (by decide) hn, ?_⟩
  refine am_s rfl rfl ?_
  refine am_s rfl rfl ?_
  refine am_cv (As := [.int a]) (rest := []) rfl (Or.inl rfl) rfl rfl (Nat.le_of_ble_eq_true rfl) rfl ⟨by decide, Nat.le_trans (by decide) hn⟩ f1 (am_isCityX (n := 0) ⟨Nat.le_trans (by decide) hn, by decide, Nat.le_trans (by decide) hn⟩ f1 rfl f25 rfl) ?_
  rintro rv h' ⟨e8, rfl⟩
  rw [(if_neg (am_city1 ha))] at e8
  rw [e8]
  refine am_bt rfl rfl (by decide) ?_
  refine am_s rfl rfl ?_
  refine am_r rfl rfl ⟨0, rfl, ⟨_, f168⟩, Nat.le_trans (by decide) hn, ?_⟩
  refine am_s rfl rfl ?_
  refine am_s rfl rfl ?_
  refine am_pfS rfl ⟨by decide, Nat.le_trans (by decide) hn⟩ f168 rfl rfl ?_
  refine am_s rfl rfl ?_
  refine am_s rfl rfl ?_
  refine am_cv (As := [.int a]) (rest := []) rfl (Or.inl rfl) rfl rfl (Nat.le_of_ble_eq_true rfl) rfl ⟨by decide, Nat.le_trans (by decide) hn⟩ f168 (am_isCityM (Nat.le_trans (by decide) hn) f168 rfl) ?_
  rintro rv h' ⟨e8, rfl⟩
  rw [(if_neg (am_city1 ha))] at e8
  rw [e8]
  refine am_bt rfl rfl (by decide) ?_
  refine am_s rfl rfl ?_
  exact am_r rfl rfl ⟨rfl, hN⟩
theorem am_q_dist1 {h : am_H} {N : am_H → Prop} {a b : Int32} (F : am_F h) (hN : N h) (ha : ¬ a = 0) : am_pairI h 129 176 [.int a, .int b] N := by
  obtain ⟨hn, f1, f25, f48, f58, f127, f151, f168⟩ := F
  refine ⟨⟨_, f1⟩, Nat.le_trans (by decide) hn, ?_⟩
  refine am_s rfl rfl ?_
  refine am_s rfl rfl ?_
  refine am_cv (As := [.int a]) (rest := []) rfl (Or.inl rfl) rfl rfl (Nat.le_of_ble_eq_true rfl) rfl ⟨by decide, Nat.le_trans (by decide) hn⟩ f1 (am_isCityX (n := 0) ⟨Nat.le_trans (by decide) hn, by decide, Nat.le_trans (by decide) hn⟩ f1 rfl f25 rfl) ?_
  rintro rv h' ⟨e8, rfl⟩
  rw [(if_neg (am_city1 ha))] at e8
  rw [e8]
  refine am_bt rfl rfl (by decide) ?_
  refine am_s rfl rfl ?_
  refine am_r rfl rfl ⟨(-101), rfl, ⟨_, f168⟩, Nat.le_trans (by decide) hn, ?_⟩
  refine am_s rfl rfl ?_
  refine am_s rfl rfl ?_
  refine am_pfS rfl ⟨by decide, Nat.le_trans (by decide) hn⟩ f168 rfl rfl ?_
  refine am_s rfl rfl ?_
  refine am_s rfl rfl ?_
  refine am_cv (As := [.int a]) (rest := []) rfl (Or.inl rfl) rfl rfl (Nat.le_of_ble_eq_true rfl) rfl ⟨by decide, Nat.le_trans (by decide) hn⟩ f168 (am_isCityM (Nat.le_trans (by decide) hn) f168 rfl) ?_
  rintro rv h' ⟨e8, rfl⟩
  rw [(if_neg (am_city1 ha))] at e8
  rw [e8]
  refine am_bt rfl rfl (by decide) ?_
  refine am_s rfl rfl ?_
  exact am_r rfl rfl ⟨rfl, hN⟩
theorem am_q_dist2 {h : am_H} {N : am_H → Prop} {b : Int32} (F : am_F h) (hN : N h) (hb : ¬ b = 0) : am_pairI h 129 176 [.int 0, .int b] N := by
  obtain ⟨hn, f1, f25, f48, f58, f127, f151, f168⟩ := F
  refine ⟨⟨_, f1⟩, Nat.le_trans (by decide) hn, ?_⟩
  refine am_s rfl rfl ?_
  refine am_s rfl rfl ?_
  refine am_cv (As := [.int 0]) (rest := []) rfl (Or.inl rfl) rfl rfl (Nat.le_of_ble_eq_true rfl) rfl ⟨by decide, Nat.le_trans (by decide) hn⟩ f1 (am_isCityX (n := 0) ⟨Nat.le_trans (by decide) hn, by decide, Nat.le_trans (by decide) hn⟩ f1 rfl f25 rfl) ?_
  rintro rv h' ⟨e8, rfl⟩
  rw [(if_pos (by decide))] at e8
  rw [e8]
  refine am_bf rfl rfl (by decide) ?_
  refine am_s rfl rfl ?_
  refine am_s rfl rfl ?_
  refine am_cv (As := [.int b]) (rest := []) rfl (Or.inl rfl) rfl rfl (Nat.le_of_ble_eq_true rfl) rfl ⟨by decide, Nat.le_trans (by decide) hn⟩ f1 (am_isCityX (n := 0) ⟨Nat.le_trans (by decide) hn, by decide, Nat.le_trans (by decide) hn⟩ f1 rfl f25 rfl) ?_
  rintro rv h' ⟨e8, rfl⟩
  rw [(if_neg (am_city1 hb))] at e8
  rw [e8]
  refine am_bt rfl rfl (by decide) ?_
  refine am_s rfl rfl ?_
  refine am_r rfl rfl ⟨(-101), rfl, ⟨_, f168⟩, Nat.le_trans (by decide) hn, ?_⟩
  refine am_s rfl rfl ?_
  refine am_s rfl rfl ?_
  refine am_pfS rfl ⟨by decide, Nat.le_trans (by decide) hn⟩ f168 rfl rfl ?_
  refine am_s rfl rfl ?_
  refine am_s rfl rfl ?_
  refine am_cv (As := [.int 0]) (rest := []) rfl (Or.inl rfl) rfl rfl (Nat.le_of_ble_eq_true rfl) rfl ⟨by decide, Nat.le_trans (by decide) hn⟩ f168 (am_isCityM (Nat.le_trans (by decide) hn) f168 rfl) ?_
  rintro rv h' ⟨e8, rfl⟩
  rw [(if_pos (by decide))] at e8
  rw [e8]
  refine am_bf rfl rfl (by decide) ?_
  refine am_s rfl rfl ?_
  refine am_s rfl rfl ?_
  refine am_cv (As := [.int b]) (rest := []) rfl (Or.inl rfl) rfl rfl (Nat.le_of_ble_eq_true rfl) rfl ⟨by decide, Nat.le_trans (by decide) hn⟩ f168 (am_isCityM (Nat.le_trans (by decide) hn) f168 rfl) ?_
  rintro rv h' ⟨e8, rfl⟩
  rw [(if_neg (am_city1 hb))] at e8
  rw [e8]
  refine am_bt rfl rfl (by decide) ?_
  refine am_s rfl rfl ?_
  exact am_r rfl rfl ⟨rfl, hN⟩
theorem am_q_odd {h : am_H} {N : am_H → Prop} {a : Int32} (F : am_F h) (hN : N h) : am_pairI h 135 189 [.int a] N := by
  obtain ⟨hn, f1, f25, f48, f58, f127, f151, f168⟩ := F
  refine ⟨⟨_, f1⟩, Nat.le_trans (by decide) hn, ?_⟩
  refine am_s rfl rfl ?_
  refine am_gf rfl ⟨by decide, Nat.le_trans (by decide) hn⟩ f1 rfl ?_
  refine am_gf rfl ⟨by decide, Nat.le_trans (by decide) hn⟩ f48 rfl ?_
  refine am_bf rfl rfl (by decide) ?_
  refine am_s rfl rfl ?_
  refine am_r rfl rfl ⟨(-103), rfl, ⟨_, f168⟩, Nat.le_trans (by decide) hn, ?_⟩
  refine am_s rfl rfl ?_
  refine am_s rfl rfl ?_
  refine am_pfS rfl ⟨by decide, Nat.le_trans (by decide) hn⟩ f168 rfl rfl ?_
  refine am_s rfl rfl ?_
  refine am_gf rfl ⟨by decide, Nat.le_trans (by decide) hn⟩ f168 rfl ?_
  refine am_bf rfl rfl (by decide) ?_
  refine am_s rfl rfl ?_
  refine am_s rfl rfl ?_
  exact am_r rfl rfl ⟨rfl, hN⟩
theorem am_q_corner {h : am_H} {N : am_H → Prop} {a : Int32} (F : am_F h) (hN : N h) : am_pairI h 140 197 [.int a] N := by
  obtain ⟨hn, f1, f25, f48, f58, f127, f151, f168⟩ := F
  refine ⟨⟨_, f1⟩, Nat.le_trans (by decide) hn, ?_⟩
  refine am_s rfl rfl ?_
  refine am_gf rfl ⟨by decide, Nat.le_trans (by decide) hn⟩ f1 rfl ?_
  refine am_gf rfl ⟨by decide, Nat.le_trans (by decide) hn⟩ f127 rfl ?_
  refine am_bf rfl rfl (by decide) ?_
  refine am_s rfl rfl ?_
  refine am_r rfl rfl ⟨(-103), rfl, ⟨_, f168⟩, Nat.le_trans (by decide) hn, ?_⟩
  refine am_s rfl rfl ?_
  refine am_s rfl rfl ?_
  refine am_pfS rfl ⟨by decide, Nat.le_trans (by decide) hn⟩ f168 rfl rfl ?_
  refine am_s rfl rfl ?_
  refine am_gf rfl ⟨by decide, Nat.le_trans (by decide) hn⟩ f168 rfl ?_
  refine am_bf rfl rfl (by decide) ?_
  refine am_s rfl rfl ?_
  refine am_s rfl rfl ?_
  exact am_r rfl rfl ⟨rfl, hN⟩
theorem am_q_stop {h : am_H} {N : am_H → Prop} {a : Int32} (F : am_F h) (hN : N h) : am_pairI h 142 205 [.int a] N := by
  obtain ⟨hn, f1, f25, f48, f58, f127, f151, f168⟩ := F
  refine ⟨⟨_, f1⟩, Nat.le_trans (by decide) hn, ?_⟩
  refine am_s rfl rfl ?_
  refine am_gf rfl ⟨by decide, Nat.le_trans (by decide) hn⟩ f1 rfl ?_
  refine am_gf rfl ⟨by decide, Nat.le_trans (by decide) hn⟩ f151 rfl ?_
  refine am_bt rfl rfl (by decide) ?_
  refine am_s rfl rfl ?_
  refine am_r rfl rfl ⟨(-1), rfl, ⟨_, f168⟩, Nat.le_trans (by decide) hn, ?_⟩
  refine am_s rfl rfl ?_
  refine am_s rfl rfl ?_
  refine am_pfS rfl ⟨by decide, Nat.le_trans (by decide) hn⟩ f168 rfl rfl ?_
  refine am_s rfl rfl ?_
  refine am_gf rfl ⟨by decide, Nat.le_trans (by decide) hn⟩ f168 rfl ?_
  refine am_bt rfl rfl (by decide) ?_
  refine am_s rfl rfl ?_
  exact am_r rfl rfl ⟨rfl, hN⟩
theorem am_q_set1 {h : am_H} {N : am_H → Prop} {a b c e : Int32} (F : am_F h) (hN : N h) (ha : ¬ a = 0) : am_pairI h 128 175 [.int a, .int b, .int c, .int e] N := by
  obtain ⟨hn, f1, f25, f48, f58, f127, f151, f168⟩ := F
  refine ⟨⟨_, f1⟩, Nat.le_trans (by decide) hn, ?_⟩
  refine am_s rfl rfl ?_
  refine am_s rfl rfl ?_
  refine am_cv (As := [.int a]) (rest := []) rfl (Or.inl rfl) rfl rfl (Nat.le_of_ble_eq_true rfl) rfl ⟨by decide, Nat.le_trans (by decide) hn⟩ f1 (am_isCityX (n := 0) ⟨Nat.le_trans (by decide) hn, by decide, Nat.le_trans (by decide) hn⟩ f1 rfl f25 rfl) ?_
  rintro rv h' ⟨e8, rfl⟩
  rw [(if_neg (am_city1 ha))] at e8
  rw [e8]
  refine am_bt rfl rfl (by decide) ?_
  refine am_s rfl rfl ?_
  refine am_r rfl rfl ⟨(-101), rfl, ⟨_, f168⟩, Nat.le_trans (by decide) hn, ?_⟩
  refine am_s rfl rfl ?_
  refine am_s rfl rfl ?_
  refine am_pfS rfl ⟨by decide, Nat.le_trans (by decide) hn⟩ f168 rfl rfl ?_
  refine am_s rfl rfl ?_
  refine am_s rfl rfl ?_
  refine am_cv (As := [.int a]) (rest := []) rfl (Or.inl rfl) rfl rfl (Nat.le_of_ble_eq_true rfl) rfl ⟨by decide, Nat.le_trans (by decide) hn⟩ f168 (am_isCityM (Nat.le_trans (by decide) hn) f168 rfl) ?_
  rintro rv h' ⟨e8, rfl⟩
  rw [(if_neg (am_city1 ha))] at e8
  rw [e8]
  refine am_bt rfl rfl (by decide) ?_
  refine am_s rfl rfl ?_
  exact am_r rfl rfl ⟨rfl, hN⟩
theorem am_q_set2 {h : am_H} {N : am_H → Prop} {b c e : Int32} (F : am_F h) (hN : N h) (hb : ¬ b = 0) : am_pairI h 128 175 [.int 0, .int b, .int c, .int e] N := by
  obtain ⟨hn, f1, f25, f48, f58, f127, f151, f168⟩ := F
  refine ⟨⟨_, f1⟩, Nat.le_trans (by decide) hn, ?_⟩
  refine am_s rfl rfl ?_
  refine am_s rfl rfl ?_
  refine am_cv (As := [.int 0]) (rest := []) rfl (Or.inl rfl) rfl rfl (Nat.le_of_ble_eq_true rfl) rfl ⟨by decide, Nat.le_trans (by decide) hn⟩ f1 (am_isCityX (n := 0) ⟨Nat.le_trans (by decide) hn, by decide, Nat.le_trans (by decide) hn⟩ f1 rfl f25 rfl) ?_
  rintro rv h' ⟨e8, rfl⟩
  rw [(if_pos (by decide))] at e8
  rw [e8]
  refine am_bf rfl rfl (by decide) ?_
  refine am_s rfl rfl ?_
  refine am_s rfl rfl ?_
  refine am_cv (As := [.int b]) (rest := []) rfl (Or.inl rfl) rfl rfl (Nat.le_of_ble_eq_true rfl) rfl ⟨by decide, Nat.le_trans (by decide) hn⟩ f1 (am_isCityX (n := 0) ⟨Nat.le_trans (by decide) hn, by decide, Nat.le_trans (by decide) hn⟩ f1 rfl f25 rfl) ?_
  rintro rv h' ⟨e8, rfl⟩
  rw [(if_neg (am_city1 hb))] at e8
  rw [e8]
  refine am_bf rfl rfl (by decide) ?_
  refine am_s rfl rfl ?_
  refine am_r rfl rfl ⟨(-101), rfl, ⟨_, f168⟩, Nat.le_trans (by decide) hn, ?_⟩
  refine am_s rfl rfl ?_
  refine am_s rfl rfl ?_
  refine am_pfS rfl ⟨by decide, Nat.le_trans (by decide) hn⟩ f168 rfl rfl ?_
  refine am_s rfl rfl ?_
  refine am_s rfl rfl ?_
  refine am_cv (As := [.int 0]) (rest := []) rfl (Or.inl rfl) rfl rfl (Nat.le_of_ble_eq_true rfl) rfl ⟨by decide, Nat.le_trans (by decide) hn⟩ f168 (am_isCityM (Nat.le_trans (by decide) hn) f168 rfl) ?_
  rintro rv h' ⟨e8, rfl⟩
  rw [(if_pos (by decide))] at e8
  rw [e8]
  refine am_bf rfl rfl (by decide) ?_
  refine am_s rfl rfl ?_
  refine am_s rfl rfl ?_
  refine am_cv (As := [.int b]) (rest := []) rfl (Or.inl rfl) rfl rfl (Nat.le_of_ble_eq_true rfl) rfl ⟨by decide, Nat.le_trans (by decide) hn⟩ f168 (am_isCityM (Nat.le_trans (by decide) hn) f168 rfl) ?_
  rintro rv h' ⟨e8, rfl⟩
  rw [(if_neg (am_city1 hb))] at e8
  rw [e8]
  refine am_bf rfl rfl (by decide) ?_
  refine am_s rfl rfl ?_
  exact am_r rfl rfl ⟨rfl, hN⟩
theorem am_q_set3 {h : am_H} {N : am_H → Prop} {c e : Int32} (F : am_F h) (hN : N h) (hc : c < 0) : am_pairI h 128 175 [.int 0, .int 0, .int c, .int e] N := by
  obtain ⟨hn, f1, f25, f48, f58, f127, f151, f168⟩ := F
  refine ⟨⟨_, f1⟩, Nat.le_trans (by decide) hn, ?_⟩
  refine am_s rfl rfl ?_
  refine am_s rfl rfl ?_
  refine am_cv (As := [.int 0]) (rest := []) rfl (Or.inl rfl) rfl rfl (Nat.le_of_ble_eq_true rfl) rfl ⟨by decide, Nat.le_trans (by decide) hn⟩ f1 (am_isCityX (n := 0) ⟨Nat.le_trans (by decide) hn, by decide, Nat.le_trans (by decide) hn⟩ f1 rfl f25 rfl) ?_
  rintro rv h' ⟨e8, rfl⟩
  rw [(if_pos (by decide))] at e8
  rw [e8]
  refine am_bf rfl rfl (by decide) ?_
  refine am_s rfl rfl ?_
  refine am_s rfl rfl ?_
  refine am_cv (As := [.int 0]) (rest := []) rfl (Or.inl rfl) rfl rfl (Nat.le_of_ble_eq_true rfl) rfl ⟨by decide, Nat.le_trans (by decide) hn⟩ f1 (am_isCityX (n := 0) ⟨Nat.le_trans (by decide) hn, by decide, Nat.le_trans (by decide) hn⟩ f1 rfl f25 rfl) ?_
  rintro rv h' ⟨e8, rfl⟩
  rw [(if_pos (by decide))] at e8
  rw [e8]
  refine am_bt rfl rfl (by decide) ?_
  refine am_s rfl rfl ?_
  refine am_bf rfl rfl (decide_eq_false (Int32.not_le.mpr hc)) ?_
  refine am_s rfl rfl ?_
  refine am_r rfl rfl ⟨(-102), rfl, ⟨_, f168⟩, Nat.le_trans (by decide) hn, ?_⟩
  refine am_s rfl rfl ?_
  refine am_s rfl rfl ?_
  refine am_pfS rfl ⟨by decide, Nat.le_trans (by decide) hn⟩ f168 rfl rfl ?_
  refine am_s rfl rfl ?_
  refine am_s rfl rfl ?_
  refine am_cv (As := [.int 0]) (rest := []) rfl (Or.inl rfl) rfl rfl (Nat.le_of_ble_eq_true rfl) rfl ⟨by decide, Nat.le_trans (by decide) hn⟩ f168 (am_isCityM (Nat.le_trans (by decide) hn) f168 rfl) ?_
  rintro rv h' ⟨e8, rfl⟩
  rw [(if_pos (by decide))] at e8
  rw [e8]
  refine am_bf rfl rfl (by decide) ?_
  refine am_s rfl rfl ?_
  refine am_s rfl rfl ?_
  refine am_cv (As := [.int 0]) (rest := []) rfl (Or.inl rfl) rfl rfl (Nat.le_of_ble_eq_true rfl) rfl ⟨by decide, Nat.le_trans (by decide) hn⟩ f168 (am_isCityM (Nat.le_trans (by decide) hn) f168 rfl) ?_
  rintro rv h' ⟨e8, rfl⟩
  rw [(if_pos (by decide))] at e8
  rw [e8]
  refine am_bt rfl rfl (by decide) ?_
  refine am_s rfl rfl ?_
  refine am_bf rfl rfl (decide_eq_false (Int32.not_le.mpr hc)) ?_
  refine am_s rfl rfl ?_
  exact am_r rfl rfl ⟨rfl, hN⟩
theorem am_q_beginL {h : am_H} {N : am_H → Prop} {a : Int32} (F : am_F h) (hN : N h) (hl : a < 1) : am_pairI h 122 160 [.int a] N := by
  obtain ⟨hn, f1, f25, f48, f58, f127, f151, f168⟩ := F
  refine ⟨⟨_, f1⟩, Nat.le_trans (by decide) hn, ?_⟩
  refine am_s rfl rfl ?_
  refine am_s rfl rfl ?_
  refine am_bt rfl rfl (decide_eq_true hl) ?_
  refine am_s rfl rfl ?_
  refine am_r rfl rfl ⟨(-102), rfl, ⟨_, f168⟩, Nat.le_trans (by decide) hn, ?_⟩
  refine am_s rfl rfl ?_
  refine am_s rfl rfl ?_
  refine am_pfS rfl ⟨by decide, Nat.le_trans (by decide) hn⟩ f168 rfl rfl ?_
  refine am_s rfl rfl ?_
  refine am_s rfl rfl ?_
  refine am_s rfl rfl ?_
  refine am_s rfl rfl ?_
  refine am_cs (As := [.long (a : Int32).toInt64, .long (1 : Int32).toInt64, .long (20 : Int32).toInt64]) (rest := []) rfl (Or.inl rfl) rfl rfl (Nat.le_of_ble_eq_true rfl) rfl (am_within _ _ _ _ _) ?_
  rintro rv h' ⟨e8, rfl⟩
  rw [(if_neg (fun z => absurd hl (Int32.not_lt.mpr z.1)))] at e8
  rw [e8]
  refine am_bf rfl rfl (by decide) ?_
  refine am_s rfl rfl ?_
  exact am_r rfl rfl ⟨rfl, hN⟩
theorem am_q_beginG {h : am_H} {N : am_H → Prop} {a : Int32} (F : am_F h) (hN : N h) (hg : 20 < a) : am_pairI h 122 160 [.int a] N := by
  obtain ⟨hn, f1, f25, f48, f58, f127, f151, f168⟩ := F
  refine ⟨⟨_, f1⟩, Nat.le_trans (by decide) hn, ?_⟩
  refine am_s rfl rfl ?_
  refine am_s rfl rfl ?_
  refine am_bf rfl rfl (decide_eq_false (fun z => absurd (Int32.lt_trans hg z) (by decide))) ?_
  refine am_s rfl rfl ?_
  refine am_s rfl rfl ?_
  refine am_bf rfl rfl (decide_eq_false (Int32.not_le.mpr hg)) ?_
  refine am_s rfl rfl ?_
  refine am_r rfl rfl ⟨(-102), rfl, ⟨_, f168⟩, Nat.le_trans (by decide) hn, ?_⟩
  refine am_s rfl rfl ?_
  refine am_s rfl rfl ?_
  refine am_pfS rfl ⟨by decide, Nat.le_trans (by decide) hn⟩ f168 rfl rfl ?_
  refine am_s rfl rfl ?_
  refine am_s rfl rfl ?_
  refine am_s rfl rfl ?_
  refine am_s rfl rfl ?_
  refine am_cs (As := [.long (a : Int32).toInt64, .long (1 : Int32).toInt64, .long (20 : Int32).toInt64]) (rest := []) rfl (Or.inl rfl) rfl rfl (Nat.le_of_ble_eq_true rfl) rfl (am_within _ _ _ _ _) ?_
  rintro rv h' ⟨e8, rfl⟩
  rw [(if_neg (fun z => absurd hg (Int32.not_lt.mpr z.2)))] at e8
  rw [e8]
  refine am_bf rfl rfl (by decide) ?_
  refine am_s rfl rfl ?_
  exact am_r rfl rfl ⟨rfl, hN⟩
theorem am_q_flawL {h : am_H} {N : am_H → Prop} {a : Int32} (F : am_F h) (hN : N h) (hl : a < 0) : am_pairI h 131 180 [.int a] N := by
  obtain ⟨hn, f1, f25, f48, f58, f127, f151, f168⟩ := F
  refine ⟨⟨_, f1⟩, Nat.le_trans (by decide) hn, ?_⟩
  refine am_s rfl rfl ?_
  refine am_bt rfl rfl (decide_eq_true hl) ?_
  refine am_s rfl rfl ?_
  refine am_s rfl rfl ?_
  refine am_r rfl rfl ⟨(-102), rfl, ⟨_, f168⟩, Nat.le_trans (by decide) hn, ?_⟩
  refine am_s rfl rfl ?_
  refine am_s rfl rfl ?_
  refine am_pfS rfl ⟨by decide, Nat.le_trans (by decide) hn⟩ f168 rfl rfl ?_
  refine am_s rfl rfl ?_
  refine am_s rfl rfl ?_
  refine am_s rfl rfl ?_
  refine am_s rfl rfl ?_
  refine am_cs (As := [.long (a : Int32).toInt64, .long (0 : Int32).toInt64, .long (3 : Int32).toInt64]) (rest := []) rfl (Or.inl rfl) rfl rfl (Nat.le_of_ble_eq_true rfl) rfl (am_within _ _ _ _ _) ?_
  rintro rv h' ⟨e8, rfl⟩
  rw [(if_neg (fun z => absurd hl (Int32.not_lt.mpr z.1)))] at e8
  rw [e8]
  refine am_bf rfl rfl (by decide) ?_
  refine am_s rfl rfl ?_
  exact am_r rfl rfl ⟨rfl, hN⟩
theorem am_q_flawG {h : am_H} {N : am_H → Prop} {a : Int32} (F : am_F h) (hN : N h) (hg : 3 < a) : am_pairI h 131 180 [.int a] N := by
  obtain ⟨hn, f1, f25, f48, f58, f127, f151, f168⟩ := F
  refine ⟨⟨_, f1⟩, Nat.le_trans (by decide) hn, ?_⟩
  refine am_s rfl rfl ?_
  refine am_bf rfl rfl (decide_eq_false (fun z => absurd (Int32.lt_trans hg z) (by decide))) ?_
  refine am_s rfl rfl ?_
  refine am_s rfl rfl ?_
  refine am_bf rfl rfl (decide_eq_false (Int32.not_le.mpr hg)) ?_
  refine am_s rfl rfl ?_
  refine am_s rfl rfl ?_
  refine am_r rfl rfl ⟨(-102), rfl, ⟨_, f168⟩, Nat.le_trans (by decide) hn, ?_⟩
  refine am_s rfl rfl ?_
  refine am_s rfl rfl ?_
  refine am_pfS rfl ⟨by decide, Nat.le_trans (by decide) hn⟩ f168 rfl rfl ?_
  refine am_s rfl rfl ?_
  refine am_s rfl rfl ?_
  refine am_s rfl rfl ?_
  refine am_s rfl rfl ?_
  refine am_cs (As := [.long (a : Int32).toInt64, .long (0 : Int32).toInt64, .long (3 : Int32).toInt64]) (rest := []) rfl (Or.inl rfl) rfl rfl (Nat.le_of_ble_eq_true rfl) rfl (am_within _ _ _ _ _) ?_
  rintro rv h' ⟨e8, rfl⟩
  rw [(if_neg (fun z => absurd hg (Int32.not_lt.mpr z.2)))] at e8
  rw [e8]
  refine am_bf rfl rfl (by decide) ?_
  refine am_s rfl rfl ?_
  exact am_r rfl rfl ⟨rfl, hN⟩
theorem am_q_buildL {h : am_H} {N : am_H → Prop} {a b : Int32} (F : am_F h) (hN : N h) (hl : a < 0) : am_pairJ h 141 204 [.int a, .int b] N := by
  obtain ⟨hn, f1, f25, f48, f58, f127, f151, f168⟩ := F
  refine ⟨⟨_, f1⟩, Nat.le_trans (by decide) hn, ?_⟩
  refine am_s rfl rfl ?_
  refine am_bt rfl rfl (decide_eq_true hl) ?_
  refine am_s rfl rfl ?_
  refine am_r rfl rfl ⟨(-102), rfl, ⟨_, f168⟩, Nat.le_trans (by decide) hn, ?_⟩
  refine am_s rfl rfl ?_
  refine am_s rfl rfl ?_
  refine am_pfS rfl ⟨by decide, Nat.le_trans (by decide) hn⟩ f168 rfl rfl ?_
  refine am_s rfl rfl ?_
  refine am_s rfl rfl ?_
  refine am_s rfl rfl ?_
  refine am_s rfl rfl ?_
  refine am_cs (As := [.long (a : Int32).toInt64, .long (0 : Int32).toInt64, .long (3 : Int32).toInt64]) (rest := []) rfl (Or.inl rfl) rfl rfl (Nat.le_of_ble_eq_true rfl) rfl (am_within _ _ _ _ _) ?_
  rintro rv h' ⟨e8, rfl⟩
  rw [(if_neg (fun z => absurd hl (Int32.not_lt.mpr z.1)))] at e8
  rw [e8]
  refine am_bf rfl rfl (by decide) ?_
  refine am_s rfl rfl ?_
  exact am_r rfl rfl ⟨rfl, hN⟩
theorem am_q_buildG {h : am_H} {N : am_H → Prop} {a b : Int32} (F : am_F h) (hN : N h) (hg : 3 < a) : am_pairJ h 141 204 [.int a, .int b] N := by
  obtain ⟨hn, f1, f25, f48, f58, f127, f151, f168⟩ := F
  refine ⟨⟨_, f1⟩, Nat.le_trans (by decide) hn, ?_⟩
  refine am_s rfl rfl ?_
  refine am_bf rfl rfl (decide_eq_false (fun z => absurd (Int32.lt_trans hg z) (by decide))) ?_
  refine am_s rfl rfl ?_
  refine am_s rfl rfl ?_
  refine am_bf rfl rfl (decide_eq_false (Int32.not_le.mpr hg)) ?_
  refine am_s rfl rfl ?_
  refine am_r rfl rfl ⟨(-102), rfl, ⟨_, f168⟩, Nat.le_trans (by decide) hn, ?_⟩
  refine am_s rfl rfl ?_
  refine am_s rfl rfl ?_
  refine am_pfS rfl ⟨by decide, Nat.le_trans (by decide) hn⟩ f168 rfl rfl ?_
  refine am_s rfl rfl ?_
  refine am_s rfl rfl ?_
  refine am_s rfl rfl ?_
  refine am_s rfl rfl ?_
  refine am_cs (As := [.long (a : Int32).toInt64, .long (0 : Int32).toInt64, .long (3 : Int32).toInt64]) (rest := []) rfl (Or.inl rfl) rfl rfl (Nat.le_of_ble_eq_true rfl) rfl (am_within _ _ _ _ _) ?_
  rintro rv h' ⟨e8, rfl⟩
  rw [(if_neg (fun z => absurd hg (Int32.not_lt.mpr z.2)))] at e8
  rw [e8]
  refine am_bf rfl rfl (by decide) ?_
  refine am_s rfl rfl ?_
  exact am_r rfl rfl ⟨rfl, hN⟩
theorem am_q_build1 {h : am_H} {N : am_H → Prop} {b : Int32} (F : am_F h) (hN : N h) (hb : ¬ b = 0) : am_pairJ h 141 204 [.int 1, .int b] N := by
  obtain ⟨hn, f1, f25, f48, f58, f127, f151, f168⟩ := F
  refine ⟨⟨_, f1⟩, Nat.le_trans (by decide) hn, ?_⟩
  refine am_s rfl rfl ?_
  refine am_bf rfl rfl (by decide) ?_
  refine am_s rfl rfl ?_
  refine am_s rfl rfl ?_
  refine am_bt rfl rfl (by decide) ?_
  refine am_s rfl rfl ?_
  refine am_s rfl rfl ?_
  refine am_bt rfl rfl (by decide) ?_
  refine am_s rfl rfl ?_
  refine am_s rfl rfl ?_
  refine am_cv (As := [.int b]) (rest := []) rfl (Or.inl rfl) rfl rfl (Nat.le_of_ble_eq_true rfl) rfl ⟨by decide, Nat.le_trans (by decide) hn⟩ f1 (am_isCityX (n := 0) ⟨Nat.le_trans (by decide) hn, by decide, Nat.le_trans (by decide) hn⟩ f1 rfl f25 rfl) ?_
  rintro rv h' ⟨e8, rfl⟩
  rw [(if_neg (am_city1 hb))] at e8
  rw [e8]
  refine am_bf rfl rfl (by decide) ?_
  refine am_s rfl rfl ?_
  refine am_r rfl rfl ⟨(-101), rfl, ⟨_, f168⟩, Nat.le_trans (by decide) hn, ?_⟩
  refine am_s rfl rfl ?_
  refine am_s rfl rfl ?_
  refine am_pfS rfl ⟨by decide, Nat.le_trans (by decide) hn⟩ f168 rfl rfl ?_
  refine am_s rfl rfl ?_
  refine am_s rfl rfl ?_
  refine am_s rfl rfl ?_
  refine am_s rfl rfl ?_
  refine am_cs (As := [.long (1 : Int32).toInt64, .long (0 : Int32).toInt64, .long (3 : Int32).toInt64]) (rest := []) rfl (Or.inl rfl) rfl rfl (Nat.le_of_ble_eq_true rfl) rfl (am_within _ _ _ _ _) ?_
  rintro rv h' ⟨e8, rfl⟩
  rw [(if_pos (by decide))] at e8
  rw [e8]
  refine am_bt rfl rfl (by decide) ?_
  refine am_s rfl rfl ?_
  refine am_s rfl rfl ?_
  refine am_bt rfl rfl (by decide) ?_
  refine am_s rfl rfl ?_
  refine am_s rfl rfl ?_
  refine am_cv (As := [.int b]) (rest := []) rfl (Or.inl rfl) rfl rfl (Nat.le_of_ble_eq_true rfl) rfl ⟨by decide, Nat.le_trans (by decide) hn⟩ f168 (am_isCityM (Nat.le_trans (by decide) hn) f168 rfl) ?_
  rintro rv h' ⟨e8, rfl⟩
  rw [(if_neg (am_city1 hb))] at e8
  rw [e8]
  refine am_bf rfl rfl (by decide) ?_
  refine am_s rfl rfl ?_
  exact am_r rfl rfl ⟨rfl, hN⟩
theorem am_q_build2 {h : am_H} {N : am_H → Prop} {b : Int32} (F : am_F h) (hN : N h) (hb : ¬ b = 0) : am_pairJ h 141 204 [.int 2, .int b] N := by
  obtain ⟨hn, f1, f25, f48, f58, f127, f151, f168⟩ := F
  refine ⟨⟨_, f1⟩, Nat.le_trans (by decide) hn, ?_⟩
  refine am_s rfl rfl ?_
  refine am_bf rfl rfl (by decide) ?_
  refine am_s rfl rfl ?_
  refine am_s rfl rfl ?_
  refine am_bt rfl rfl (by decide) ?_
  refine am_s rfl rfl ?_
  refine am_s rfl rfl ?_
  refine am_bf rfl rfl (by decide) ?_
  refine am_s rfl rfl ?_
  refine am_s rfl rfl ?_
  refine am_bf rfl rfl (by decide) ?_
  refine am_s rfl rfl ?_
  refine am_s rfl rfl ?_
  refine am_cv (As := [.int b]) (rest := []) rfl (Or.inl rfl) rfl rfl (Nat.le_of_ble_eq_true rfl) rfl ⟨by decide, Nat.le_trans (by decide) hn⟩ f1 (am_isCityX (n := 0) ⟨Nat.le_trans (by decide) hn, by decide, Nat.le_trans (by decide) hn⟩ f1 rfl f25 rfl) ?_
  rintro rv h' ⟨e8, rfl⟩
  rw [(if_neg (am_city1 hb))] at e8
  rw [e8]
  refine am_bf rfl rfl (by decide) ?_
  refine am_s rfl rfl ?_
  refine am_r rfl rfl ⟨(-101), rfl, ⟨_, f168⟩, Nat.le_trans (by decide) hn, ?_⟩
  refine am_s rfl rfl ?_
  refine am_s rfl rfl ?_
  refine am_pfS rfl ⟨by decide, Nat.le_trans (by decide) hn⟩ f168 rfl rfl ?_
  refine am_s rfl rfl ?_
  refine am_s rfl rfl ?_
  refine am_s rfl rfl ?_
  refine am_s rfl rfl ?_
  refine am_cs (As := [.long (2 : Int32).toInt64, .long (0 : Int32).toInt64, .long (3 : Int32).toInt64]) (rest := []) rfl (Or.inl rfl) rfl rfl (Nat.le_of_ble_eq_true rfl) rfl (am_within _ _ _ _ _) ?_
  rintro rv h' ⟨e8, rfl⟩
  rw [(if_pos (by decide))] at e8
  rw [e8]
  refine am_bt rfl rfl (by decide) ?_
  refine am_s rfl rfl ?_
  refine am_s rfl rfl ?_
  refine am_bf rfl rfl (by decide) ?_
  refine am_s rfl rfl ?_
  refine am_s rfl rfl ?_
  refine am_bf rfl rfl (by decide) ?_
  refine am_s rfl rfl ?_
  refine am_s rfl rfl ?_
  refine am_cv (As := [.int b]) (rest := []) rfl (Or.inl rfl) rfl rfl (Nat.le_of_ble_eq_true rfl) rfl ⟨by decide, Nat.le_trans (by decide) hn⟩ f168 (am_isCityM (Nat.le_trans (by decide) hn) f168 rfl) ?_
  rintro rv h' ⟨e8, rfl⟩
  rw [(if_neg (am_city1 hb))] at e8
  rw [e8]
  refine am_bf rfl rfl (by decide) ?_
  refine am_s rfl rfl ?_
  exact am_r rfl rfl ⟨rfl, hN⟩
