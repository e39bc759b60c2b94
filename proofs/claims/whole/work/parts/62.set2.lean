theorem am_setX {G : Nat → am_E} {h hF : am_H} {c e : Int32} {f : Nat → Int32} (F : am_Fb (am_cut h 27) = true) (F26 : am_ar (am_cut h 27) 26 20 27 = true) (rF : am_wp 28 151 0 (lv_args 0 [.ref 1]) [] (am_cut h 27) (fun rv h' => rv = none ∧ h' = hF)) (hc : 0 ≤ c) : am_wp 29 128 0 (lv_args 0 [.ref 1, .int 0, .int 0, .int c, .int e]) [] (am_mH (am_G1 G 27 20 f) (am_cut h 27)) (fun rv h' => rv = some (.int (f 0)) ∧ ∃ g, h' = am_mH (am_G1 G 27 20 g) hF) := by
  obtain ⟨hn, f1, f25, f48, f58, f127, f151, f168⟩ := am_Fb_spec (am_G1 G 27 20 f) F
  obtain ⟨fr, f26, fr0⟩ := am_ar_spec (am_G1 G 27 20 f) F26
  refine am_s rfl rfl ?_
  refine am_s rfl rfl ?_
  refine am_cv (As := [.int 0]) (rest := []) rfl (Or.inl rfl) rfl rfl (Nat.le_of_ble_eq_true rfl) rfl ⟨by decide, Nat.le_trans (by decide) hn⟩ f1 (am_isCityX (n := 0) ⟨Nat.le_trans (by decide) hn, by decide, Nat.le_trans (by decide) hn⟩ f1 rfl f25 rfl) ?_
  rintro rv h' ⟨e8, rfl⟩
  rw [(if_pos (by decide))] at e8
  rw [e8]
  refine am_bf rfl rfl (by decide) ?_
  refine am_s rfl rfl ?_
  refine am_s rfl rfl ?_
  refine am_cv (As := [.int 0]) (rest := []) rfl (Or.inl rfl) rfl rfl (Nat.le_of_ble_eq_true rfl) rfl ⟨by decide, Nat.le_trans (by decide) hn⟩ f1 (am_isCityX (n := 0) ⟨Nat.le_trans (by decide) hn, by decide, Nat.le_trans (by decide) hn⟩ f1 rfl f25 rfl) ?_
  rintro rv h' ⟨e8, rfl⟩
  rw [(if_pos (by decide))] at e8
  rw [e8]
  refine am_bt rfl rfl (by decide) ?_
  refine am_s rfl rfl ?_
  refine am_bt rfl rfl (decide_eq_true hc) ?_
  refine am_s rfl rfl ?_
  refine am_gf rfl ⟨by decide, Nat.le_trans (by decide) hn⟩ f1 rfl ?_
  refine am_gf rfl ⟨by decide, Nat.le_trans (by decide) hn⟩ f25 rfl ?_
  refine am_s rfl rfl ?_
  refine am_aal rfl (Nat.le_trans (by decide) hn) f26 (by decide) fr0 ?_
  refine am_s rfl rfl ?_
  refine am_il rfl (Nat.le_trans (by decide) hn) (am_G1_at G h 27 20 f) (by decide) ?_
  refine am_s rfl rfl ?_
  refine am_s rfl rfl ?_
  refine am_gf rfl ⟨by decide, Nat.le_trans (by decide) hn⟩ f1 rfl ?_
  refine am_s rfl rfl ?_
  refine am_s rfl rfl ?_
  refine am_s rfl rfl ?_
  refine am_cv (As := [.int 0, .int 0, .int c]) (rest := []) rfl (Or.inl rfl) rfl rfl (Nat.le_of_ble_eq_true rfl) rfl ⟨by decide, Nat.le_trans (by decide) hn⟩ f25 (am_tell0 F F26) ?_
  rintro rv h' ⟨e8, g, e10⟩
  rw [e8, e10]
  obtain ⟨hn, f1, f25, f48, f58, f127, f151, f168⟩ := am_Fb_spec (am_G1 G 27 20 g) F
  refine am_s rfl rfl ?_
  by_cases hb1 : e = 0
  · refine am_bt rfl rfl (decide_eq_true hb1) ?_
    refine am_s rfl rfl ?_
    refine am_cv (As := []) (rest := []) rfl (Or.inl rfl) rfl rfl (Nat.le_of_ble_eq_true rfl) rfl ⟨by decide, Nat.le_trans (by decide) hn⟩ f1 (am_wp_frame _ rF) ?_
    rintro rv h' ⟨h9, ⟨e8, e9⟩, e10⟩
    rw [e9] at e10
    rw [e8, e10]
    refine am_s rfl rfl ?_
    exact am_r rfl rfl ⟨rfl, _, rfl⟩
  · refine am_bf rfl rfl (decide_eq_false hb1) ?_
    refine am_s rfl rfl ?_
    refine am_gf rfl ⟨by decide, Nat.le_trans (by decide) hn⟩ f1 rfl ?_
    refine am_s rfl rfl ?_
    refine am_s rfl rfl ?_
    refine am_s rfl rfl ?_
    refine am_cv (As := [.int 0, .int 0, .int c]) (rest := []) rfl (Or.inl rfl) rfl rfl (Nat.le_of_ble_eq_true rfl) rfl ⟨by decide, Nat.le_trans (by decide) hn⟩ f25 (am_tell0 F F26) ?_
    rintro rv h' ⟨e8, g, e10⟩
    rw [e8, e10]
    obtain ⟨hn, f1, f25, f48, f58, f127, f151, f168⟩ := am_Fb_spec (am_G1 G 27 20 g) F
    refine am_s rfl rfl ?_
    refine am_cv (As := []) (rest := []) rfl (Or.inl rfl) rfl rfl (Nat.le_of_ble_eq_true rfl) rfl ⟨by decide, Nat.le_trans (by decide) hn⟩ f1 (am_wp_frame _ rF) ?_
    rintro rv h' ⟨h9, ⟨e8, e9⟩, e10⟩
    rw [e9] at e10
    rw [e8, e10]
    refine am_s rfl rfl ?_
    exact am_r rfl rfl ⟨rfl, _, rfl⟩
theorem am_far0 {d : Nat} {G : Nat → am_E} {h : am_H} {f : Nat → Int32} (hn : 193 ≤ (am_mH (am_G1 G 169 400 f) (am_cut h 169)).1) (f168 : (am_mH (am_G1 G 169 400 f) (am_cut h 169)).2.2 168 = .inr (12, [.int 0, .int 1, .ref 169, .ref 170, .ref 171, .int 0, .int 1, .int 0, .int 0, .int 0, .ref 172, .ref 173, .int 0, .ref 174, .int 0, .ref 175, .long 0, .ref 176, .int 0, .ref 177, .int 0, .ref 178, .long 0, .ref 179, .int 0, .ref 180, .int 0, .ref 181, .ref 182, .int 0, .ref 183, .ref 184, .ref 185, .ref 186, .ref 187, .ref 188, .ref 189, .ref 190, .ref 191, .ref 192, .ref 193])) : am_wp d 158 0 (lv_args 0 [.ref 168, .int 0, .int 0]) [] (am_mH (am_G1 G 169 400 f) (am_cut h 169)) (fun rv h' => rv = some (.int (f 0)) ∧ h' = am_mH (am_G1 G 169 400 f) (am_cut h 169)) := by
  refine am_s rfl rfl ?_
  refine am_gf rfl ⟨by decide, Nat.le_trans (by decide) hn⟩ f168 rfl ?_
  refine am_s rfl rfl ?_
  refine am_s rfl rfl ?_
  refine am_s rfl rfl ?_
  refine am_s rfl rfl ?_
  refine am_s rfl rfl ?_
  refine am_il rfl (Nat.le_trans (by decide) hn) (am_G1_at G h 169 400 f) (by decide) ?_
  exact am_r rfl rfl ⟨rfl, rfl⟩
theorem am_hq {d i pc : Nat} {lv : am_L} {st : List Value} {h h2 : am_H} {P : Option Value → am_H → Prop} (e : h = h2) (k : am_wp d i pc lv st h2 P) : am_wp d i pc lv st h P := by
  rw [e]
  exact k
theorem am_iasG {d i pc a n : Nat} {lv : am_L} {r : List Value} {h : am_H} {G : Nat → am_E} {P : Option Value → am_H → Prop} {aux : List Nat} {f : Nat → Int32} {x v : Int32} (h1 : am_fetch i pc = some (.iastore, 1, aux)) (hle : 1 ≤ a ∧ a ≤ h.1) (hx : am_idx x n = true) (k9 : ∀ g, am_wp d i (pc + 1) lv r (am_mH (am_G1 G a n g) (am_cut h a)) P) : am_wp d i pc lv (.int v :: .int x :: .ref a :: r) (am_mH (am_G1 G a n f) (am_cut h a)) P := by
  refine am_ias h1 hle (am_G1_at G h a n f) hx ?_
  exact am_hq (am_G1_up G h a n _ _) (k9 _)
theorem am_setM {G : Nat → am_E} {h hG : am_H} {c e : Int32} {f : Nat → Int32} (hn : 193 ≤ h.1) (F168 : am_ob (am_cut h 169) 168 (12, [.int 0, .int 1, .ref 169, .ref 170, .ref 171, .int 0, .int 1, .int 0, .int 0, .int 0, .ref 172, .ref 173, .int 0, .ref 174, .int 0, .ref 175, .long 0, .ref 176, .int 0, .ref 177, .int 0, .ref 178, .long 0, .ref 179, .int 0, .ref 180, .int 0, .ref 181, .ref 182, .int 0, .ref 183, .ref 184, .ref 185, .ref 186, .ref 187, .ref 188, .ref 189, .ref 190, .ref 191, .ref 192, .ref 193]) = true) (rG : am_wp 28 159 0 (lv_args 0 [.ref 168]) [] (am_cut h 169) (fun rv h' => rv = none ∧ h' = hG)) (hc : 0 ≤ c) : am_wp 29 175 0 (lv_args 0 [.ref 168, .int 0, .int 0, .int c, .int e]) [] (am_mH (am_G1 G 169 400 f) (am_cut h 169)) (fun rv h' => rv = some (.int (f 0)) ∧ h'.1 = hG.1 ∧ h'.2.1 = hG.2.1) := by
  have f168 := am_ob_spec (am_G1 G 169 400 f) F168
  refine am_s rfl rfl ?_
  refine am_s rfl rfl ?_
  refine am_pfS rfl ⟨by decide, Nat.le_trans (by decide) hn⟩ f168 rfl rfl ?_
  refine am_s rfl rfl ?_
  refine am_s rfl rfl ?_
  refine am_cv (As := [.int 0]) (rest := []) rfl (Or.inl rfl) rfl rfl (Nat.le_of_ble_eq_true rfl) rfl ⟨by decide, Nat.le_trans (by decide) hn⟩ f168 (am_isCityM (Nat.le_trans (by decide) hn) f168 rfl) ?_
  rintro rv h' ⟨e8, rfl⟩
  rw [(if_pos (by decide))] at e8
  rw [e8]
  refine am_bf rfl rfl (by decide) ?_
  refine am_s rfl rfl ?_
  refine am_s rfl rfl ?_
  refine am_cv (As := [.int 0]) (rest := []) rfl (Or.inl rfl) rfl rfl (Nat.le_of_ble_eq_true rfl) rfl ⟨by decide, Nat.le_trans (by decide) hn⟩ f168 (am_isCityM (Nat.le_trans (by decide) hn) f168 rfl) ?_
  rintro rv h' ⟨e8, rfl⟩
  rw [(if_pos (by decide))] at e8
  rw [e8]
  refine am_bt rfl rfl (by decide) ?_
  refine am_s rfl rfl ?_
  refine am_bt rfl rfl (decide_eq_true hc) ?_
  refine am_s rfl rfl ?_
  refine am_s rfl rfl ?_
  refine am_s rfl rfl ?_
  refine am_cv (As := [.int 0, .int 0]) (rest := []) rfl (Or.inl rfl) rfl rfl (Nat.le_of_ble_eq_true rfl) rfl ⟨by decide, Nat.le_trans (by decide) hn⟩ f168 (am_far0 hn f168) ?_
  rintro rv h' ⟨e8, e10⟩
  rw [e8, e10]
  refine am_s rfl rfl ?_
  refine am_s rfl rfl ?_
  refine am_gf rfl ⟨by decide, Nat.le_trans (by decide) hn⟩ f168 rfl ?_
  refine am_s rfl rfl ?_
  refine am_s rfl rfl ?_
  refine am_s rfl rfl ?_
  refine am_s rfl rfl ?_
  refine am_s rfl rfl ?_
  refine am_s rfl rfl ?_
  refine am_iasG rfl ⟨by decide, Nat.le_trans (by decide) hn⟩ (by decide) (fun g => ?_)
  have f168 := am_ob_spec (am_G1 G 169 400 g) F168
  refine am_s rfl rfl ?_
  by_cases hb1 : e = 0
  · refine am_bt rfl rfl (decide_eq_true hb1) ?_
    refine am_s rfl rfl ?_
    refine am_cv (As := []) (rest := []) rfl (Or.inl rfl) rfl rfl (Nat.le_of_ble_eq_true rfl) rfl ⟨by decide, Nat.le_trans (by decide) hn⟩ f168 (am_wp_frame _ rG) ?_
    rintro rv h' ⟨h9, ⟨e8, e9⟩, e10⟩
    rw [e9] at e10
    rw [e8, e10]
    refine am_s rfl rfl ?_
    exact am_r rfl rfl ⟨rfl, rfl, rfl⟩
  · refine am_bf rfl rfl (decide_eq_false hb1) ?_
    refine am_s rfl rfl ?_
    refine am_gf rfl ⟨by decide, Nat.le_trans (by decide) hn⟩ f168 rfl ?_
    refine am_s rfl rfl ?_
    refine am_s rfl rfl ?_
    refine am_s rfl rfl ?_
    refine am_s rfl rfl ?_
    refine am_s rfl rfl ?_
    refine am_s rfl rfl ?_
    refine am_iasG rfl ⟨by decide, Nat.le_trans (by decide) hn⟩ (by decide) (fun g => ?_)
    have f168 := am_ob_spec (am_G1 G 169 400 g) F168
    refine am_s rfl rfl ?_
    refine am_cv (As := []) (rest := []) rfl (Or.inl rfl) rfl rfl (Nat.le_of_ble_eq_true rfl) rfl ⟨by decide, Nat.le_trans (by decide) hn⟩ f168 (am_wp_frame _ rG) ?_
    rintro rv h' ⟨h9, ⟨e8, e9⟩, e10⟩
    rw [e9] at e10
    rw [e8, e10]
    refine am_s rfl rfl ?_
    exact am_r rfl rfl ⟨rfl, rfl, rfl⟩
def am_hF : am_H := am_out (am_exec 3000 20 151 0 (lv_args 0 [.ref 1]) [] (am_cut am_hC 27))
def am_hG : am_H := am_out (am_exec 3000 20 159 0 (lv_args 0 [.ref 168]) [] (am_cut am_hF 169))
set_option maxRecDepth 100000 in
theorem am_hF_ok : am_rvO (am_exec 3000 20 151 0 (lv_args 0 [.ref 1]) [] (am_cut am_hC 27)) = some none := by decide +kernel
set_option maxRecDepth 100000 in
theorem am_hG_ok : am_rvO (am_exec 3000 20 159 0 (lv_args 0 [.ref 168]) [] (am_cut am_hF 169)) = some none := by decide +kernel
theorem am_hF_run : am_wp 28 151 0 (lv_args 0 [.ref 1]) [] (am_cut am_hC 27) (fun rv h' => rv = none ∧ h' = am_hF) := am_wp_deep (d := 20) (by decide) ⟨3000, none, am_hF, am_closed am_hF_ok, rfl, rfl⟩
theorem am_hG_run : am_wp 28 159 0 (lv_args 0 [.ref 168]) [] (am_cut am_hF 169) (fun rv h' => rv = none ∧ h' = am_hG) := am_wp_deep (d := 20) (by decide) ⟨3000, none, am_hG, am_closed am_hG_ok, rfl, rfl⟩
def am_setB (hC hF hG : am_H) : Bool := am_isC hC 1 11 && decide (1 ≤ hC.1) && am_Fb (am_cut hC 27) && am_ar (am_cut hC 27) 26 20 27 && am_ai hC 27 20 && decide (193 ≤ hF.1) && am_ob hF 168 (12, [.int 0, .int 1, .ref 169, .ref 170, .ref 171, .int 0, .int 1, .int 0, .int 0, .int 0, .ref 172, .ref 173, .int 0, .ref 174, .int 0, .ref 175, .long 0, .ref 176, .int 0, .ref 177, .int 0, .ref 178, .long 0, .ref 179, .int 0, .ref 180, .int 0, .ref 181, .ref 182, .int 0, .ref 183, .ref 184, .ref 185, .ref 186, .ref 187, .ref 188, .ref 189, .ref 190, .ref 191, .ref 192, .ref 193]) && am_ob (am_cut hF 169) 168 (12, [.int 0, .int 1, .ref 169, .ref 170, .ref 171, .int 0, .int 1, .int 0, .int 0, .int 0, .ref 172, .ref 173, .int 0, .ref 174, .int 0, .ref 175, .long 0, .ref 176, .int 0, .ref 177, .int 0, .ref 178, .long 0, .ref 179, .int 0, .ref 180, .int 0, .ref 181, .ref 182, .int 0, .ref 183, .ref 184, .ref 185, .ref 186, .ref 187, .ref 188, .ref 189, .ref 190, .ref 191, .ref 192, .ref 193]) && am_ai hF 169 400 && decide (hG.1 ≤ 600000) && decide (hG.2.1 ≤ 7000000)
set_option maxRecDepth 100000 in
theorem am_setB_ok : am_setB am_hC am_hF am_hG = true := by decide +kernel
theorem am_q_set40 {G : Nat → am_E} {hC hF hG : am_H} {c e : Int32} (B : am_setB hC hF hG = true) (rF : am_wp 28 151 0 (lv_args 0 [.ref 1]) [] (am_cut hC 27) (fun rv h' => rv = none ∧ h' = hF)) (rG : am_wp 28 159 0 (lv_args 0 [.ref 168]) [] (am_cut hF 169) (fun rv h' => rv = none ∧ h' = hG)) (hc : 0 ≤ c) : am_pairI (am_mH G hC) 128 175 [.int 0, .int 0, .int c, .int e] am_N1 := by
  unfold am_setB at B
  simp only [Bool.and_eq_true, decide_eq_true_eq] at B
  obtain ⟨⟨⟨⟨⟨⟨⟨⟨⟨⟨c1, c2⟩, c3⟩, c4⟩, c5⟩, c6⟩, c7⟩, c8⟩, c9⟩, c10⟩, c11⟩ := B
  obtain ⟨f, hf, f0⟩ := am_ai_spec c5
  obtain ⟨g, hg, g0⟩ := am_ai_spec c9
  refine ⟨am_isC_spec G c1, c2, ?_⟩
  rw [am_G1_of hf]
  refine am_wp_mono (am_setX c3 c4 rF hc) ?_
  rintro rv h1 ⟨e1, f2, e2⟩
  rw [f0] at e1
  refine ⟨0, e1, ?_, ?_, ?_⟩
  · rw [e2]
    exact ⟨_, am_ob_spec _ c7⟩
  · rw [e2]
    exact Nat.le_trans (by decide) c6
  · rw [e2, am_G1_of hg]
    refine am_wp_mono (am_setM c6 c8 rG hc) ?_
    rintro rw2 h2 ⟨e3, e4, e5⟩
    rw [g0] at e3
    exact ⟨e3, by rw [e4]; exact c10, by rw [e5]; exact c11⟩
theorem am_q_set4 {G : Nat → am_E} {c e : Int32} (hc : 0 ≤ c) : am_pairI (am_mH G am_hC) 128 175 [.int 0, .int 0, .int c, .int e] am_N1 := am_q_set40 am_setB_ok am_hF_run am_hG_run hc
