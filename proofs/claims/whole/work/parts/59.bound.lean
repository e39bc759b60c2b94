def am_ob (h : am_H) (a : Nat) (q : Nat × List Value) : Bool := match h.2.2 a with
  | .inr z => decide (z = q)
  | _ => false
theorem am_ob_spec {h : am_H} {a : Nat} {q : Nat × List Value} (G : Nat → am_E) (hk : am_ob h a q = true) : (am_mH G h).2.2 a = .inr q := by
  unfold am_ob at hk
  split at hk
  · rename_i z he
    have e := of_decide_eq_true hk
    subst e
    rw [← he]
    exact am_mg_of (by rw [he]; rfl)
  · cases hk
def am_Fb (h : am_H) : Bool := decide (193 ≤ h.1) && am_ob h 1 (11, [.ref 2, .ref 25, .ref 48, .ref 58, .ref 127, .ref 151, .ref 153, .ref 158, .ref 160]) && am_ob h 25 (4, [.int 1, .ref 26, .int 0, .ref 47]) && am_ob h 48 (9, [.int 0, .long 0, .int 0, .ref 49, .ref 54, .ref 55, .ref 56, .ref 57]) && am_ob h 58 (5, [.int 0, .long 0, .long 0, .int 0, .ref 59, .ref 60, .ref 61, .ref 62]) && am_ob h 127 (10, [.int 0, .int 1, .ref 128, .ref 129, .ref 130]) && am_ob h 151 (8, [.int 0, .int 0, .ref 152]) && am_ob h 168 (12, [.int 0, .int 1, .ref 169, .ref 170, .ref 171, .int 0, .int 1, .int 0, .int 0, .int 0, .ref 172, .ref 173, .int 0, .ref 174, .int 0, .ref 175, .long 0, .ref 176, .int 0, .ref 177, .int 0, .ref 178, .long 0, .ref 179, .int 0, .ref 180, .int 0, .ref 181, .ref 182, .int 0, .ref 183, .ref 184, .ref 185, .ref 186, .ref 187, .ref 188, .ref 189, .ref 190, .ref 191, .ref 192, .ref 193])
theorem am_Fb_spec {h : am_H} (G : Nat → am_E) (hk : am_Fb h = true) : am_F (am_mH G h) := by
  unfold am_Fb at hk
  simp only [Bool.and_eq_true, decide_eq_true_eq] at hk
  obtain ⟨⟨⟨⟨⟨⟨⟨h0, h1⟩, h2⟩, h3⟩, h4⟩, h5⟩, h6⟩, h7⟩ := hk
  exact ⟨h0, am_ob_spec G h1, am_ob_spec G h2, am_ob_spec G h3, am_ob_spec G h4, am_ob_spec G h5, am_ob_spec G h6, am_ob_spec G h7⟩
set_option maxRecDepth 100000 in
theorem am_Fb_hC : am_Fb am_hC = true := by decide +kernel
theorem am_F_hC (G : Nat → am_E) : am_F (am_mH G am_hC) := am_Fb_spec G am_Fb_hC
def am_hD : am_H := am_out (am_exec 3000 20 65 0 (lv_args 0 [.ref 25]) [] am_hC)
def am_hE : am_H := am_out (am_exec 3000 20 181 0 (lv_args 0 [.ref 168]) [] am_hD)
set_option maxRecDepth 100000 in
theorem am_hD_ok : am_rvO (am_exec 3000 20 65 0 (lv_args 0 [.ref 25]) [] am_hC) = some (some (.int 1)) := by decide +kernel
set_option maxRecDepth 100000 in
theorem am_hE_ok : am_rvO (am_exec 3000 20 181 0 (lv_args 0 [.ref 168]) [] am_hD) = some (some (.int 1)) := by decide +kernel
def am_FDb (h : am_H) : Bool := decide (h.1 = 193) && decide (h.2.1 ≤ 7000000) && am_ob h 1 (11, [.ref 2, .ref 25, .ref 48, .ref 58, .ref 127, .ref 151, .ref 153, .ref 158, .ref 160]) && am_ob h 25 (4, [.int 1, .ref 26, .int 1, .ref 47]) && am_ob h 160 (0, [.ref 161, .ref 162, .ref 163]) && am_ob h 168 (12, [.int 0, .int 1, .ref 169, .ref 170, .ref 171, .int 0, .int 1, .int 0, .int 0, .int 0, .ref 172, .ref 173, .int 0, .ref 174, .int 0, .ref 175, .long 0, .ref 176, .int 0, .ref 177, .int 0, .ref 178, .long 0, .ref 179, .int 0, .ref 180, .int 0, .ref 181, .ref 182, .int 0, .ref 183, .ref 184, .ref 185, .ref 186, .ref 187, .ref 188, .ref 189, .ref 190, .ref 191, .ref 192, .ref 193])
set_option maxRecDepth 100000 in
theorem am_hD_F : am_FDb am_hD = true := by decide +kernel
def am_FEb (h : am_H) : Bool := decide (h.1 = 193) && decide (h.2.1 ≤ 7000000) && am_ob h 168 (12, [.int 0, .int 1, .ref 169, .ref 170, .ref 171, .int 0, .int 1, .int 0, .int 0, .int 0, .ref 172, .ref 173, .int 0, .ref 174, .int 0, .ref 175, .long 0, .ref 176, .int 0, .ref 177, .int 0, .ref 178, .long 0, .ref 179, .int 0, .ref 180, .int 0, .ref 181, .ref 182, .int 0, .ref 183, .ref 184, .ref 185, .ref 186, .ref 187, .ref 188, .ref 189, .ref 190, .ref 191, .ref 192, .ref 193])
set_option maxRecDepth 100000 in
theorem am_hE_F : am_FEb am_hE = true := by decide +kernel
theorem am_climb1 {d : Nat} {h : am_H} {a b : Int32} (hn : 160 ≤ h.1) (e25 : h.2.2 25 = .inr (4, [.int 1, .ref 26, .int 1, .ref 47])) : am_wp d 2 0 (lv_args 0 [.ref 160, .ref 25, .int a, .int b]) [] h (fun rv h' => rv = some (.long 0) ∧ h' = h) := by
  refine am_s rfl rfl ?_
  refine am_gf rfl ⟨by decide, Nat.le_trans (by decide) hn⟩ e25 rfl ?_
  refine am_s rfl rfl ?_
  refine am_bf rfl rfl (by decide) ?_
  refine am_s rfl rfl ?_
  refine am_gf rfl ⟨by decide, Nat.le_trans (by decide) hn⟩ e25 rfl ?_
  refine am_s rfl rfl ?_
  refine am_bf rfl rfl (by decide) ?_
  refine am_s rfl rfl ?_
  refine am_s rfl rfl ?_
  exact am_r rfl rfl ⟨rfl, rfl⟩
theorem am_q_bound50 {G : Nat → am_E} {hC hD hE : am_H} {a b : Int32} (F : am_F (am_mH G hC)) (rD : am_wp 28 65 0 (lv_args 0 [.ref 25]) [] hC (fun rv h' => rv = some (.int 1) ∧ h' = hD)) (rE : am_wp 28 181 0 (lv_args 0 [.ref 168]) [] hD (fun rv h' => rv = some (.int 1) ∧ h' = hE)) (FD : 193 ≤ (am_mH G hD).1 ∧ (am_mH G hD).2.1 ≤ 7000000 ∧ (am_mH G hD).2.2 1 = .inr (11, [.ref 2, .ref 25, .ref 48, .ref 58, .ref 127, .ref 151, .ref 153, .ref 158, .ref 160]) ∧ (am_mH G hD).2.2 25 = .inr (4, [.int 1, .ref 26, .int 1, .ref 47]) ∧ (am_mH G hD).2.2 160 = .inr (0, [.ref 161, .ref 162, .ref 163]) ∧ (am_mH G hD).2.2 168 = .inr (12, [.int 0, .int 1, .ref 169, .ref 170, .ref 171, .int 0, .int 1, .int 0, .int 0, .int 0, .ref 172, .ref 173, .int 0, .ref 174, .int 0, .ref 175, .long 0, .ref 176, .int 0, .ref 177, .int 0, .ref 178, .long 0, .ref 179, .int 0, .ref 180, .int 0, .ref 181, .ref 182, .int 0, .ref 183, .ref 184, .ref 185, .ref 186, .ref 187, .ref 188, .ref 189, .ref 190, .ref 191, .ref 192, .ref 193])) (hE1 : (am_mH G hE).1 = 193) (FE : 193 ≤ (am_mH G hE).1 ∧ (am_mH G hE).2.1 ≤ 7000000 ∧ (am_mH G hE).2.2 168 = .inr (12, [.int 0, .int 1, .ref 169, .ref 170, .ref 171, .int 0, .int 1, .int 0, .int 0, .int 0, .ref 172, .ref 173, .int 0, .ref 174, .int 0, .ref 175, .long 0, .ref 176, .int 0, .ref 177, .int 0, .ref 178, .long 0, .ref 179, .int 0, .ref 180, .int 0, .ref 181, .ref 182, .int 0, .ref 183, .ref 184, .ref 185, .ref 186, .ref 187, .ref 188, .ref 189, .ref 190, .ref 191, .ref 192, .ref 193])) (hi : 1 ≤ a ∧ a ≤ 100) (hj : 0 ≤ b ∧ b ≤ 1000000) : am_pairJ (am_mH G hC) 147 215 [.int a, .int b] am_N1 := by
  obtain ⟨hn, f1, f25, f48, f58, f127, f151, f168⟩ := F
  refine ⟨⟨_, f1⟩, Nat.le_trans (by decide) hn, ?_⟩
  refine am_s rfl rfl ?_
  refine am_s rfl rfl ?_
  refine am_bf rfl rfl (decide_eq_false (Int32.not_lt.mpr hi.1)) ?_
  refine am_s rfl rfl ?_
  refine am_s rfl rfl ?_
  refine am_bf rfl rfl (decide_eq_false (Int32.not_lt.mpr hi.2)) ?_
  refine am_s rfl rfl ?_
  refine am_bf rfl rfl (decide_eq_false (Int32.not_lt.mpr hj.1)) ?_
  refine am_s rfl rfl ?_
  refine am_s rfl rfl ?_
  refine am_bt rfl rfl (decide_eq_true hj.2) ?_
  refine am_s rfl rfl ?_
  refine am_gf rfl ⟨by decide, Nat.le_trans (by decide) hn⟩ f1 rfl ?_
  refine am_cv (As := []) (rest := []) rfl (Or.inl rfl) rfl rfl (Nat.le_of_ble_eq_true rfl) rfl ⟨by decide, Nat.le_trans (by decide) hn⟩ f25 (am_wp_frame G rD) ?_
  rintro rv h' ⟨h9, ⟨e8, e9⟩, e10⟩
  rw [e9] at e10
  rw [e8, e10]
  clear hn f1 f25 f48 f58 f127 f151 f168
  obtain ⟨hn, -, f1, f25, f160, f168⟩ := FD
  refine am_bf rfl rfl (by decide) ?_
  refine am_s rfl rfl ?_
  refine am_gf rfl ⟨by decide, Nat.le_trans (by decide) hn⟩ f1 rfl ?_
  refine am_s rfl rfl ?_
  refine am_gf rfl ⟨by decide, Nat.le_trans (by decide) hn⟩ f1 rfl ?_
  refine am_s rfl rfl ?_
  refine am_s rfl rfl ?_
  refine am_cv (As := [.ref 25, .int a, .int b]) (rest := []) rfl (Or.inl rfl) rfl rfl (Nat.le_of_ble_eq_true rfl) rfl ⟨by decide, Nat.le_trans (by decide) hn⟩ f160 (am_climb1 (Nat.le_trans (by decide) hn) f25) ?_
  rintro rv h' ⟨e8, rfl⟩
  rw [e8]
  refine am_s rfl rfl ?_
  refine am_r rfl rfl ⟨0, rfl, ⟨_, f168⟩, Nat.le_trans (by decide) hn, ?_⟩
  refine am_s rfl rfl ?_
  refine am_s rfl rfl ?_
  refine am_pfS rfl ⟨by decide, Nat.le_trans (by decide) hn⟩ f168 rfl rfl ?_
  refine am_s rfl rfl ?_
  refine am_s rfl rfl ?_
  refine am_s rfl rfl ?_
  refine am_s rfl rfl ?_
  refine am_cs (As := [.long (a : Int32).toInt64, .long (1 : Int32).toInt64, .long (100 : Int32).toInt64]) (rest := []) rfl (Or.inl rfl) rfl rfl (Nat.le_of_ble_eq_true rfl) rfl (am_within _ _ _ _ _) ?_
  rintro rv h' ⟨e8, rfl⟩
  rw [(if_pos hi)] at e8
  rw [e8]
  refine am_bf rfl rfl (by decide) ?_
  refine am_s rfl rfl ?_
  refine am_s rfl rfl ?_
  refine am_s rfl rfl ?_
  refine am_s rfl rfl ?_
  refine am_cs (As := [.long (b : Int32).toInt64, .long (0 : Int32).toInt64, .long (1000000 : Int32).toInt64]) (rest := []) rfl (Or.inl rfl) rfl rfl (Nat.le_of_ble_eq_true rfl) rfl (am_within _ _ _ _ _) ?_
  rintro rv h' ⟨e8, rfl⟩
  rw [(if_pos hj)] at e8
  rw [e8]
  refine am_bt rfl rfl (by decide) ?_
  refine am_s rfl rfl ?_
  refine am_cv (As := []) (rest := []) rfl (Or.inl rfl) rfl rfl (Nat.le_of_ble_eq_true rfl) rfl ⟨by decide, Nat.le_trans (by decide) hn⟩ f168 (am_wp_frame G rE) ?_
  rintro rv h' ⟨h9, ⟨e8, e9⟩, e10⟩
  rw [e9] at e10
  rw [e8, e10]
  clear hn f1 f25 f160 f168
  obtain ⟨hn, hs, f168⟩ := FE
  refine am_bt rfl rfl (by decide) ?_
  refine am_s rfl rfl ?_
  refine am_gf rfl ⟨by decide, Nat.le_trans (by decide) hn⟩ f168 rfl ?_
  refine am_s rfl rfl ?_
  refine am_bf rfl rfl (by decide) ?_
  refine am_s rfl rfl ?_
  refine am_gf rfl ⟨by decide, Nat.le_trans (by decide) hn⟩ f168 rfl ?_
  refine am_s rfl rfl ?_
  refine am_bf rfl rfl (by decide) ?_
  refine am_s rfl rfl ?_
  refine am_s rfl rfl ?_
  exact am_r rfl rfl ⟨rfl, Nat.le_trans (Nat.le_of_eq hE1) (by decide), hs⟩
theorem am_hD_run : am_wp 28 65 0 (lv_args 0 [.ref 25]) [] am_hC (fun rv h' => rv = some (.int 1) ∧ h' = am_hD) := am_wp_deep (d := 20) (by decide) ⟨3000, some (.int 1), am_hD, am_closed am_hD_ok, rfl, rfl⟩
theorem am_hE_run : am_wp 28 181 0 (lv_args 0 [.ref 168]) [] am_hD (fun rv h' => rv = some (.int 1) ∧ h' = am_hE) := am_wp_deep (d := 20) (by decide) ⟨3000, some (.int 1), am_hE, am_closed am_hE_ok, rfl, rfl⟩
theorem am_q_bound51 {G : Nat → am_E} {hC hD hE : am_H} {a b : Int32} (F : am_Fb hC = true) (rD : am_wp 28 65 0 (lv_args 0 [.ref 25]) [] hC (fun rv h' => rv = some (.int 1) ∧ h' = hD)) (rE : am_wp 28 181 0 (lv_args 0 [.ref 168]) [] hD (fun rv h' => rv = some (.int 1) ∧ h' = hE)) (h1 : am_FDb hD = true) (h2 : am_FEb hE = true) (hi : 1 ≤ a ∧ a ≤ 100) (hj : 0 ≤ b ∧ b ≤ 1000000) : am_pairJ (am_mH G hC) 147 215 [.int a, .int b] am_N1 := by
  unfold am_FDb at h1
  simp only [Bool.and_eq_true, decide_eq_true_eq] at h1
  obtain ⟨⟨⟨⟨⟨c1, c2⟩, c3⟩, c4⟩, c5⟩, c6⟩ := h1
  unfold am_FEb at h2
  simp only [Bool.and_eq_true, decide_eq_true_eq] at h2
  obtain ⟨⟨d1, d2⟩, d3⟩ := h2
  exact am_q_bound50 (am_Fb_spec G F) rD rE ⟨Nat.le_of_eq c1.symm, c2, am_ob_spec G c3, am_ob_spec G c4, am_ob_spec G c5, am_ob_spec G c6⟩ d1 ⟨Nat.le_of_eq d1.symm, d2, am_ob_spec G d3⟩ hi hj
theorem am_q_bound5 {G : Nat → am_E} {a b : Int32} (hi : 1 ≤ a ∧ a ≤ 100) (hj : 0 ≤ b ∧ b ≤ 1000000) : am_pairJ (am_mH G am_hC) 147 215 [.int a, .int b] am_N1 := am_q_bound51 am_Fb_hC am_hD_run am_hE_run am_hD_F am_hE_F hi hj
