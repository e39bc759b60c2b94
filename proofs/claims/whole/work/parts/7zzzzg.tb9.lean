/-! the class reads its text -/
theorem t_parse15 {d : Nat} {E : am_Ev} {s : am_S} {PP : Option Value → am_H → Prop} (g : am_Eg E) (gd : am_Ed E) {T : Int → Int} {z : Int} (hx : txH E s T z) (hp : s 2 2 = 0) (hf : s 2 3 = -1) (hu : s 2 4 = -1) (hPP : ∀ s', (∀ a, a ≠ 2 → ¬ (5 ≤ a ∧ a ≤ 24) → s' a = s a) → s' 2 1 = s 2 1 → (txG (tA4 T z) → s' 2 5 = tFm T z ∧ s' 2 6 = tN T z ∧ ∀ r i : Nat, r < tR (tFm T z) (tN T z) → i < tW (tFm T z) (tN T z) r → s' (4 + 1 + r) i = tV T z r i) → PP (some (.int (iI (tRes (tA4 T z))))) (am_hp E s')) : am_wp (d + 4) 86 15 (lv_args 0 [.ref 2]) [] (am_hp E s) PP := by
  have z0 := hx.zl
  have o1 := hx.o.1
  have o2 := hx.o.2.1
  have o3 := hx.o.2.2
  unfold xt at o1 o2 o3
  simp only [txS.p, txS.f, txS.u] at o1 o2 o3
  have ez := hx.ez
  have sg2 := gd.s2
  have j61 : ∀ s5, xt s5 = tA4 T z → (∀ a, a ≠ 2 → ¬ (5 ≤ a ∧ a ≤ 24) → s5 a = s a) → s5 2 1 = s 2 1 → (txG (tA4 T z) → s5 2 5 = tFm T z ∧ s5 2 6 = tN T z ∧ ∀ r i : Nat, r < tR (tFm T z) (tN T z) → i < tW (tFm T z) (tN T z) r → s5 (4 + 1 + r) i = tV T z r i) → am_wp (d + 4) 86 61 [(0, .ref 2)] [] (am_hp E s5) PP := by
    intro s5 e5 k1 k2 k3
    have o5 : txO z (xt s5) := by
      rw [e5]
      unfold tA4
      split
      · exact tEn_o (tRs_o (tA3_o z0.1) _)
      · exact tA3_o z0.1
    have of5 : -1 ≤ s5 2 3 ∧ s5 2 3 ≤ z := o5.2.1
    refine am_s rfl rfl ?_
    refine s_gi (x := 3) rfl g rfl rfl rfl ?_
    refine s_k (-1) rfl rfl ?_
    refine s_ceq rfl ⟨by omega, by omega⟩ ⟨by omega, by omega⟩ (fun c1 => ?_) (fun c1 => ?_)
    · refine am_s rfl rfl ?_
      refine s_gi (x := 4) rfl g rfl rfl rfl ?_
      have er : tRes (tA4 T z) = s5 2 4 := by
        unfold tRes
        rw [← e5, if_neg (show ¬ 0 ≤ (xt s5).f by show ¬ 0 ≤ s5 2 3; omega)]
        rfl
      rw [← er]
      exact am_r rfl rfl (hPP s5 k1 k2 k3)
    · refine am_s rfl rfl ?_
      refine s_gi (x := 3) rfl g rfl rfl rfl ?_
      refine am_s rfl rfl ?_
      have er : tRes (tA4 T z) = s5 2 3 := by
        unfold tRes
        rw [← e5, if_pos (show 0 ≤ (xt s5).f by show 0 ≤ s5 2 3; omega)]
        rfl
      rw [← er]
      exact am_r rfl rfl (hPP s5 k1 k2 k3)
  refine am_s rfl rfl ?_
  refine s_cv [] [] rfl g (Or.inl rfl) rfl rfl (Nat.le_of_ble_eq_true rfl) rfl rfl (t_takeForm (d := d + 2) (PP := fun rv h => rv = none ∧ ∃ s1, h = am_hp E s1 ∧ ((∀ a, a ≠ 2 → s1 a = s a) ∧ ∀ y, y ≠ 2 → y ≠ 3 → y ≠ 4 → y ≠ 5 → s1 2 y = s 2 y) ∧ s1 2 5 = tFm T z ∧ xt s1 = tA1 T z) g gd hx hp hf hu (fun s1 a b c => ⟨rfl, s1, rfl, a, b, c⟩)) ?_
  rintro rv h9 ⟨rfl, s1, rfl, hF1, q5, e1⟩
  have hx1 : txH E s1 T z := ⟨(hF1.2 1 (by decide) (by decide) (by decide) (by decide)).trans hx.ez, hx.zl, fun y a b => by rw [hF1.1 _ (lo_ne gd.s0 (show am_lo 2 = _ from rfl))]; exact hx.et y a b, hx.tr, by rw [e1]; exact tA1_o z0.1⟩
  refine am_s rfl rfl ?_
  refine am_s rfl rfl ?_
  refine s_kl 1 rfl rfl ?_
  refine s_kl 20 rfl rfl ?_
  refine s_cv [_, _] [_] rfl g (Or.inl rfl) rfl rfl (Nat.le_of_ble_eq_true rfl) rfl rfl (t_takeNumber (d := d + 1) (s := s1) (lo := 1) (hi := 20) (PP := fun rv h => ∃ s9 x, h = am_hp E s9 ∧ rv = some (.int (iI x)) ∧ txFr s1 s9 ∧ xt s9 = tNm T z 1 20 (xt s1) ∧ (txG (xt s9) → x = tNv T z (xt s1))) g gd hx1 ⟨by decide, by decide⟩ ⟨by decide, by decide⟩ (fun s9 x a b c e => ⟨s9, x, rfl, rfl, a, b, e⟩)) ?_
  rintro rv h9 ⟨s2, x, rfl, rfl, hF2, e2, hv2⟩
  rw [e1] at e2 hv2
  have o2' : txO z (xt s2) := by rw [e2]; exact tNm_o (tA1_o z0.1)
  have hx2 := txH_f gd hx1 hF2 o2'
  refine s_pi (x := 6) rfl g rfl rfl rfl rfl ?_
  refine am_s rfl rfl ?_
  refine s_k 58 rfl rfl ?_
  have ew : xt (am_w s2 2 6 x) = xt s2 := by unfold xt; rw [am_w_x (by decide), am_w_x (by decide), am_w_x (by decide)]
  have hx2w : txH E (am_w s2 2 6 x) T z := ⟨by rw [am_w_x (by decide)]; exact hx2.ez, hx2.zl, fun y a b => by rw [am_w_row (lo_ne gd.s0 (show am_lo 2 = _ from rfl))]; exact hx2.et y a b, hx2.tr, by rw [ew]; exact o2'⟩
  refine s_cv [_] [] rfl g (Or.inl rfl) rfl rfl (Nat.le_of_ble_eq_true rfl) rfl rfl (t_takeSign (d := d + 2) (s := am_w s2 2 6 x) (PP := fun rv h => rv = none ∧ ∃ s9, h = am_hp E s9 ∧ txFr (am_w s2 2 6 x) s9 ∧ xt s9 = tTk T z 58 (xt (am_w s2 2 6 x))) g gd hx2w (by decide) (fun s9 a b => ⟨rfl, s9, rfl, a, b⟩)) ?_
  rintro rv h9 ⟨rfl, s3, rfl, hF3, e3⟩
  rw [ew, e2] at e3
  replace e3 : xt s3 = tA3 T z := e3
  have o3' : txO z (xt s3) := by rw [e3]; exact tA3_o z0.1
  have hx3 := txH_f gd hx2w hF3 o3'
  have of3 : -1 ≤ s3 2 3 ∧ s3 2 3 ≤ z := o3'.2.1
  have ou3 : -1 ≤ s3 2 4 ∧ s3 2 4 ≤ z := o3'.2.2
  have k1 : ∀ a, a ≠ 2 → s3 a = s a := fun a ha => by rw [hF3.1 a ha, am_w_row ha, hF2.1 a ha, hF1.1 a ha]
  have q35 : s3 2 5 = tFm T z := by rw [hF3.2 5 (by decide) (by decide) (by decide), am_w_x (by decide), hF2.2 5 (by decide) (by decide) (by decide)]; exact q5
  have q36 : s3 2 6 = x := by rw [hF3.2 6 (by decide) (by decide) (by decide), am_w_eq]
  have q31 : s3 2 1 = s 2 1 := by rw [hx3.ez, ez]
  refine am_s rfl rfl ?_
  refine s_gi (x := 3) rfl g rfl rfl rfl ?_
  refine s_k (-1) rfl rfl ?_
  refine s_cne rfl ⟨by omega, by omega⟩ ⟨by omega, by omega⟩ (fun c1 => ?_) (fun c1 => ?_)
  · have ng : ¬ txG (tA3 T z) := fun y => by
      rw [← e3] at y
      have y1 : s3 2 3 < 0 := y.1
      have y2 : s3 2 4 < 0 := y.2
      omega
    have e4 : tA4 T z = tA3 T z := by unfold tA4; rw [if_neg ng]
    exact j61 s3 (by rw [e3, e4]) (fun a a1 _ => k1 a a1) q31 (fun y => absurd (by rw [e4] at y; exact y) ng)
  · refine am_s rfl rfl ?_
    refine s_gi (x := 4) rfl g rfl rfl rfl ?_
    refine s_k (-1) rfl rfl ?_
    refine s_cne rfl ⟨by omega, by omega⟩ ⟨by omega, by omega⟩ (fun c2 => ?_) (fun c2 => ?_)
    · have ng : ¬ txG (tA3 T z) := fun y => by
        rw [← e3] at y
        have y1 : s3 2 3 < 0 := y.1
        have y2 : s3 2 4 < 0 := y.2
        omega
      have e4 : tA4 T z = tA3 T z := by unfold tA4; rw [if_neg ng]
      exact j61 s3 (by rw [e3, e4]) (fun a a1 _ => k1 a a1) q31 (fun y => absurd (by rw [e4] at y; exact y) ng)
    · refine am_s rfl rfl ?_
      have g3 : txG (xt s3) := ⟨by show s3 2 3 < 0; omega, by show s3 2 4 < 0; omega⟩
      have g3a : txG (tA3 T z) := by rw [← e3]; exact g3
      have ok3 := tA3_g z0.1 g3a
      have ex : x = tN T z := hv2 (by rw [e2]; exact tTk_g (show txG (tTk T z 58 (tA2 T z)) from g3a))
      rw [ex] at q36
      refine s_cv [] [] rfl g (Or.inl rfl) rfl rfl (Nat.le_of_ble_eq_true rfl) rfl rfl (t_takeRows (d := d) (s := s3) (PP := fun rv h => rv = none ∧ ∃ s9, h = am_hp E s9 ∧ rwFr s3 s9 ∧ xt s9 = tRA T z ∧ (txG (xt s9) → ∀ r i : Nat, r < tR (tFm T z) (tN T z) → i < tW (tFm T z) (tN T z) r → s9 (4 + 1 + r) i = tV T z r i)) g gd hx3 (by rw [q35]; exact ok3.1) (by rw [q36]; exact ok3.2) (by rw [q35, q36, e3]; exact fun s9 a b c => ⟨rfl, s9, rfl, a, b, c⟩)) ?_
      rintro rv h9 ⟨rfl, s4, rfl, hF4, e4, hv4⟩
      have hx4 := txH_rw gd hx3 hF4 (by rw [e4]; exact tRs_o (tA3_o z0.1) _)
      refine am_s rfl rfl ?_
      refine s_cv [] [] rfl g (Or.inl rfl) rfl rfl (Nat.le_of_ble_eq_true rfl) rfl rfl (t_takeEnd (d := d + 2) (s := s4) (PP := fun rv h => rv = none ∧ ∃ s9, h = am_hp E s9 ∧ txFr s4 s9 ∧ xt s9 = tEn T z (xt s4)) g gd hx4 (fun s9 a b => ⟨rfl, s9, rfl, a, b⟩)) ?_
      rintro rv h9 ⟨rfl, s5, rfl, hF5, e5⟩
      refine j61 s5 ?_ (fun a a1 a2 => by rw [hF5.1 a a1, hF4.1 a a1 a2]; exact k1 a a1) (by rw [hF5.2 1 (by decide) (by decide) (by decide), hF4.2 1 (by decide) (by decide) (by decide)]; exact q31) (fun y => ⟨by rw [hF5.2 5 (by decide) (by decide) (by decide), hF4.2 5 (by decide) (by decide) (by decide)]; exact q35, by rw [hF5.2 6 (by decide) (by decide) (by decide), hF4.2 6 (by decide) (by decide) (by decide)]; exact q36, fun r i hr hi => by rw [hF5.1 _ (by omega)]; exact hv4 (by rw [e4]; exact (tA4_g z0.1 y).2) r i hr hi⟩)
      unfold tA4
      rw [if_pos g3a, e5, e4]
theorem t_parse {d : Nat} {E : am_Ev} {s : am_S} {PP : Option Value → am_H → Prop} (g : am_Eg E) (gd : am_Ed E) {T : Int → Int} {z : Int} (ez : s 2 1 = z) (zl : 0 ≤ z ∧ z ≤ E.2.2.1.2) (et : ∀ y, 0 ≤ y → y < z → s E.2.2.1.1 y = T y) (tr : ∀ y, 0 ≤ y → y < z → 32 ≤ T y ∧ T y ≤ 126) (hPP : ∀ s', (∀ a, a ≠ 2 → ¬ (5 ≤ a ∧ a ≤ 24) → s' a = s a) → s' 2 1 = s 2 1 → (txG (tA4 T z) → s' 2 5 = tFm T z ∧ s' 2 6 = tN T z ∧ ∀ r i : Nat, r < tR (tFm T z) (tN T z) → i < tW (tFm T z) (tN T z) r → s' (4 + 1 + r) i = tV T z r i) → PP (some (.int (iI (tRes (tA4 T z))))) (am_hp E s')) : am_wp (d + 4) 86 0 (lv_args 0 [.ref 2]) [] (am_hp E s) PP := by
  refine am_s rfl rfl ?_
  refine s_k 0 rfl rfl ?_
  refine s_pi (x := 2) rfl g rfl rfl rfl rfl ?_
  refine am_s rfl rfl ?_
  refine s_k (-1) rfl rfl ?_
  refine s_pi (x := 3) rfl g rfl rfl rfl rfl ?_
  refine am_s rfl rfl ?_
  refine s_k (-1) rfl rfl ?_
  refine s_pi (x := 4) rfl g rfl rfl rfl rfl ?_
  have a2 : (am_w (am_w (am_w s 2 2 0) 2 3 (-1)) 2 4 (-1)) 2 2 = 0 := by rw [am_w_x (by decide), am_w_x (by decide), am_w_eq]
  have a3 : (am_w (am_w (am_w s 2 2 0) 2 3 (-1)) 2 4 (-1)) 2 3 = -1 := by rw [am_w_x (by decide), am_w_eq]
  have a4 : (am_w (am_w (am_w s 2 2 0) 2 3 (-1)) 2 4 (-1)) 2 4 = -1 := by rw [am_w_eq]
  have a1 : (am_w (am_w (am_w s 2 2 0) 2 3 (-1)) 2 4 (-1)) 2 1 = s 2 1 := by rw [am_w_x (by decide), am_w_x (by decide), am_w_x (by decide)]
  have af : ∀ a, a ≠ 2 → (am_w (am_w (am_w s 2 2 0) 2 3 (-1)) 2 4 (-1)) a = s a := fun a ha => by rw [am_w_row ha, am_w_row ha, am_w_row ha]
  refine t_parse15 (d := d) (s := (am_w (am_w (am_w s 2 2 0) 2 3 (-1)) 2 4 (-1))) (T := T) (z := z) g gd ⟨by rw [a1]; exact ez, zl, fun y a b => by rw [af _ (lo_ne gd.s0 (show am_lo 2 = _ from rfl))]; exact et y a b, tr, ?_⟩ a2 a3 a4 (fun s' k1 k2 k3 => hPP s' (fun a b c => by rw [k1 a b c, af a b]) (by rw [k2, a1]) k3)
  unfold xt
  rw [a2, a3, a4]
  exact ⟨⟨by show (0 : Int) ≤ 0; omega, zl.1⟩, ⟨by show (-1 : Int) ≤ -1; omega, by show (-1 : Int) ≤ z; omega⟩, by show (-1 : Int) ≤ -1; omega, by show (-1 : Int) ≤ z; omega⟩
