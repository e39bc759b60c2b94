/-! read of the other one -/
theorem t_rA15 {d : Nat} {E : am_Ev} {s : am_S} {PP : Option Value → am_H → Prop} (g : am_Eg E) {T : Int → Int} {z : Int} (hx : tyH s T z) (hp : s 168 7 = 0) (hf : s 168 8 = -1) (hu : s 168 9 = -1) (hPP : ∀ s1, am_Fm [170, 172, 173] [6, 7, 8, 9] s s1 → txE (tA4 T z) (yt s1) → txO z (yt s1) → (txG (tA4 T z) → s1 168 6 = tN T z ∧ dOK (tFm T z) (tN T z) (tV T z) (fun a b => s1 170 (20 * a + b))) → PP none (am_hp E s1)) : am_wp (d + 3) 171 15 (lv_args 0 [.ref 168]) [] (am_hp E s) PP := by
  have z0 := hx.zl
  have o1 := hx.o.1
  have o2 := hx.o.2.1
  have o3 := hx.o.2.2
  unfold yt at o1 o2 o3
  simp only [txS.p, txS.f, txS.u] at o1 o2 o3
  have ez := hx.ez
  have j53 : ∀ s1, am_Fm [170, 172, 173] [6, 7, 8, 9] s s1 → (⟨s1 168 7 + 1, s1 168 8, s1 168 9⟩ : txS) = tA1 T z → am_wp (d + 3) 171 53 [(1, .int (iI (tFm T z))), (0, .ref 168)] [] (am_hp E s1) PP := by
    intro s1 hF1 e1
    refine am_s rfl rfl ?_
    refine am_s rfl rfl ?_
    refine s_gi (x := 7) rfl g rfl rfl rfl ?_
    refine s_k 1 rfl rfl ?_
    refine s_iadd rfl ?_
    refine s_pi (x := 7) rfl g rfl rfl rfl rfl ?_
    refine am_s rfl rfl ?_
    refine s_kl 1 rfl rfl ?_
    refine s_kl 20 rfl rfl ?_
    have eyw : yt (am_w s1 168 7 (s1 168 7 + 1)) = tA1 T z := by rw [yt_w7]; exact e1
    have hFw : am_Fm [170, 172, 173] [6, 7, 8, 9] s (am_w s1 168 7 (s1 168 7 + 1)) := Fm_w hF1 (by decide)
    have hxw := tyH_f hx hFw (by decide) (by decide) (by rw [eyw]; exact tA1_o z0.1)
    refine s_cv [_, _] [] rfl g (Or.inl rfl) rfl rfl (Nat.le_of_ble_eq_true rfl) rfl rfl (t_numM (s := (am_w s1 168 7 (s1 168 7 + 1))) (lo := 1) (hi := 20) (PP := fun rv h => ∃ s9 v, h = am_hp E s9 ∧ rv = some (.long (lI v)) ∧ am_Fm [] [7, 8, 9] (am_w s1 168 7 (s1 168 7 + 1)) s9 ∧ txE (tNm T z 1 20 (yt (am_w s1 168 7 (s1 168 7 + 1)))) (yt s9) ∧ txO z (yt s9) ∧ ((yt s9).f < 0 → v = tNv T z (yt (am_w s1 168 7 (s1 168 7 + 1))))) g hxw ⟨by decide, by decide⟩ ⟨by decide, by decide⟩ (fun s9 v a b c e f => ⟨s9, v, rfl, rfl, a, b, c, f⟩)) ?_
    rintro rv h9 ⟨s3, v, rfl, rfl, hF3, e3, ox3, hv3⟩
    rw [eyw] at e3 hv3
    have hFs3 : am_Fm [170, 172, 173] [6, 7, 8, 9] s s3 := Fm_t hFw (Fm_m hF3 (by simp) (by decide))
    have hx3 := tyH_f hx hFs3 (by decide) (by decide) ox3
    refine am_s rfl rfl ?_
    refine am_s rfl rfl ?_
    refine s_k 58 rfl rfl ?_
    refine s_cv [_] [] rfl g (Or.inl rfl) rfl rfl (Nat.le_of_ble_eq_true rfl) rfl rfl (t_takeM (s := s3) (PP := fun rv h => rv = none ∧ ∃ s9, h = am_hp E s9 ∧ am_Fm [] [7, 8, 9] s3 s9 ∧ yt s9 = tTk T z 58 (yt s3)) g hx3 (by decide) (fun s9 a b => ⟨rfl, s9, rfl, a, b⟩)) ?_
    rintro rv h9 ⟨rfl, s4, rfl, hF4, e4⟩
    have ox4 : txO z (yt s4) := by rw [e4]; exact tTk_o ox3
    have E4 : txE (tA3 T z) (yt s4) := by rw [e4]; exact tTk_E e3
    have hFs4 : am_Fm [170, 172, 173] [6, 7, 8, 9] s s4 := Fm_t hFs3 (Fm_m hF4 (by simp) (by decide))
    have hx4 := tyH_f hx hFs4 (by decide) (by decide) ox4
    have q8 : -1 ≤ s4 168 8 ∧ s4 168 8 ≤ z := ox4.2.1
    have q9 : -1 ≤ s4 168 9 ∧ s4 168 9 ≤ z := ox4.2.2
    refine am_s rfl rfl ?_
    refine s_gi (x := 8) rfl g rfl rfl rfl ?_
    refine s_zge rfl ⟨by omega, by omega⟩ (fun c1 => ?_) (fun c1 => ?_)
    · have ng : ¬ txG (tA3 T z) := fun y => by
        have e := txE_q E4 y.1
        rw [e] at y
        have y1 : s4 168 8 < 0 := y.1
        have y2 : s4 168 9 < 0 := y.2
        omega
      have eA4 : tA4 T z = tA3 T z := by unfold tA4; rw [if_neg ng]
      exact am_r rfl rfl (hPP s4 hFs4 (by rw [eA4]; exact E4) ox4 (fun y => absurd (by rw [eA4] at y; exact y) ng))
    · refine am_s rfl rfl ?_
      refine s_gi (x := 9) rfl g rfl rfl rfl ?_
      refine s_zlt rfl ⟨by omega, by omega⟩ (fun c2 => ?_) (fun c2 => ?_)
      · have f4 : (tA3 T z).f < 0 := by rw [E4.2.1]; show s4 168 8 < 0; omega
        have e4q := txE_q E4 f4
        have g3 : txG (tA3 T z) := by rw [e4q]; exact ⟨by show s4 168 8 < 0; omega, by show s4 168 9 < 0; omega⟩
        have ev : v = tN T z := hv3 (tTk_f (by rw [← e4]; show s4 168 8 < 0; omega))
        refine am_lv [(2, _), (1, _), (0, _)] rfl rfl ⟨rfl, rfl, rfl, trivial⟩ ?_
        exact t_rA93 (d := d) (s := s4) g hx4 g3 e4q.symm ev (fun s9 a b c e => hPP s9 (Fm_t hFs4 a) b c e)
      · have ng : ¬ txG (tA3 T z) := fun y => by
          have e := txE_q E4 y.1
          rw [e] at y
          have y1 : s4 168 8 < 0 := y.1
          have y2 : s4 168 9 < 0 := y.2
          omega
        have eA4 : tA4 T z = tA3 T z := by unfold tA4; rw [if_neg ng]
        exact am_r rfl rfl (hPP s4 hFs4 (by rw [eA4]; exact E4) ox4 (fun y => absurd (by rw [eA4] at y; exact y) ng))
  refine am_s rfl rfl ?_
  refine s_cv [] [] rfl g (Or.inl rfl) rfl rfl (Nat.le_of_ble_eq_true rfl) rfl rfl (t_look (PP := fun rv h => ∃ s1, rv = some (.int (iI (if tSk T z (s 168 7) < z then T (tSk T z (s 168 7)) else -1))) ∧ h = am_hp E s1 ∧ am_Fm [] [7, 8, 9] s s1 ∧ yt s1 = ⟨tSk T z (s 168 7), s 168 8, s 168 9⟩) g hx (fun s1 a b => ⟨s1, rfl, rfl, a, b⟩)) ?_
  rintro rv h9 ⟨s1, rfl, rfl, hF, e1⟩
  have p1 : s1 168 7 = tSk T z (s 168 7) := congrArg txS.p e1
  have f1 : s1 168 8 = s 168 8 := congrArg txS.f e1
  have u1 : s1 168 9 = s 168 9 := congrArg txS.u e1
  have r1 := tSk_r (T := T) (z := z) (p := s 168 7) (by omega)
  have br : -1 ≤ (if tSk T z (s 168 7) < z then T (tSk T z (s 168 7)) else -1) ∧ (if tSk T z (s 168 7) < z then T (tSk T z (s 168 7)) else -1) ≤ 126 := by
    split
    · have := hx.tr (tSk T z (s 168 7)) (by omega) (by assumption); omega
    · omega
  have eF : (if tSk T z (s 168 7) < z then T (tSk T z (s 168 7)) else -1) = tFm T z := by rw [hp]; rfl
  rw [eF] at br ⊢
  refine am_s rfl rfl ?_
  refine am_s rfl rfl ?_
  refine s_k 61 rfl rfl ?_
  refine s_ceq rfl ⟨by omega, by omega⟩ ⟨by omega, by omega⟩ (fun c1 => ?_) (fun c1 => ?_)
  · have kf : tFk (tFm T z) := by unfold tFk; omega
    refine am_lv [(1, _), (0, _)] rfl rfl ⟨rfl, rfl, trivial⟩ ?_
    have eA1 : tA1 T z = ⟨tSk T z 0 + 1, -1, -1⟩ := by unfold tA1; rw [if_pos kf]
    exact j53 s1 (Fm_m hF (by simp) (by decide)) (by rw [p1, eA1, f1, u1, hp, hf, hu])
  · refine am_s rfl rfl ?_
    refine s_k 94 rfl rfl ?_
    refine s_ceq rfl ⟨by omega, by omega⟩ ⟨by omega, by omega⟩ (fun c2 => ?_) (fun c2 => ?_)
    · have kf : tFk (tFm T z) := by unfold tFk; omega
      refine am_lv [(1, _), (0, _)] rfl rfl ⟨rfl, rfl, trivial⟩ ?_
      have eA1 : tA1 T z = ⟨tSk T z 0 + 1, -1, -1⟩ := by unfold tA1; rw [if_pos kf]
      exact j53 s1 (Fm_m hF (by simp) (by decide)) (by rw [p1, eA1, f1, u1, hp, hf, hu])
    · refine am_s rfl rfl ?_
      refine s_k 43 rfl rfl ?_
      refine s_ceq rfl ⟨by omega, by omega⟩ ⟨by omega, by omega⟩ (fun c3 => ?_) (fun c3 => ?_)
      · have kf : tFk (tFm T z) := by unfold tFk; omega
        refine am_lv [(1, _), (0, _)] rfl rfl ⟨rfl, rfl, trivial⟩ ?_
        have eA1 : tA1 T z = ⟨tSk T z 0 + 1, -1, -1⟩ := by unfold tA1; rw [if_pos kf]
        exact j53 s1 (Fm_m hF (by simp) (by decide)) (by rw [p1, eA1, f1, u1, hp, hf, hu])
      · refine am_s rfl rfl ?_
        refine s_k 42 rfl rfl ?_
        refine s_ceq rfl ⟨by omega, by omega⟩ ⟨by omega, by omega⟩ (fun c4 => ?_) (fun c4 => ?_)
        · have kf : tFk (tFm T z) := by unfold tFk; omega
          refine am_lv [(1, _), (0, _)] rfl rfl ⟨rfl, rfl, trivial⟩ ?_
          have eA1 : tA1 T z = ⟨tSk T z 0 + 1, -1, -1⟩ := by unfold tA1; rw [if_pos kf]
          exact j53 s1 (Fm_m hF (by simp) (by decide)) (by rw [p1, eA1, f1, u1, hp, hf, hu])
        · refine am_s rfl rfl ?_
          refine am_s rfl rfl ?_
          refine s_gi (x := 7) rfl g rfl rfl rfl ?_
          refine s_pi (x := 8) rfl g rfl rfl rfl rfl ?_
          have nf : ¬ tFk (tFm T z) := by unfold tFk; omega
          have eA1 : tA1 T z = ⟨tSk T z 0, tSk T z 0, -1⟩ := by unfold tA1; rw [if_neg nf]
          have f0 : 0 ≤ (tA1 T z).f := by rw [eA1]; show 0 ≤ tSk T z 0; rw [← hp]; omega
          have eA3 : tA3 T z = tA1 T z := by unfold tA3 tA2; rw [tNm_s f0, tTk_s f0]
          have ng : ¬ txG (tA3 T z) := fun y => by
            have := y.1
            rw [eA3] at this
            omega
          have eA4 : tA4 T z = tA1 T z := by unfold tA4; rw [if_neg ng, eA3]
          have ey : yt (am_w s1 168 8 (s1 168 7)) = tA1 T z := by rw [yt_w8, eA1, p1, u1, hp, hu]
          exact am_r rfl rfl (hPP _ (Fm_w (Fm_m hF (by simp) (by decide)) (by decide)) (by rw [eA4, ey]; exact txE_r _) (by rw [ey]; exact tA1_o z0.1) (fun y => absurd (by rw [eA4] at y; rw [eA3]; exact y) ng))
theorem t_readAll {d : Nat} {E : am_Ev} {s : am_S} {PP : Option Value → am_H → Prop} (g : am_Eg E) {T : Int → Int} {z : Int} (ez : s 168 5 = z) (zl : 0 ≤ z ∧ z ≤ 5000) (et : ∀ y, 0 ≤ y → y < z → s 171 y = T y) (tr : ∀ y, 0 ≤ y → y < z → 32 ≤ T y ∧ T y ≤ 126) (hPP : ∀ s1, am_Fm [170, 172, 173] [6, 7, 8, 9] s s1 → txE (tA4 T z) (yt s1) → txO z (yt s1) → (txG (tA4 T z) → s1 168 6 = tN T z ∧ dOK (tFm T z) (tN T z) (tV T z) (fun a b => s1 170 (20 * a + b))) → PP none (am_hp E s1)) : am_wp (d + 3) 171 0 (lv_args 0 [.ref 168]) [] (am_hp E s) PP := by
  refine am_s rfl rfl ?_
  refine s_k 0 rfl rfl ?_
  refine s_pi (x := 7) rfl g rfl rfl rfl rfl ?_
  refine am_s rfl rfl ?_
  refine s_k (-1) rfl rfl ?_
  refine s_pi (x := 8) rfl g rfl rfl rfl rfl ?_
  refine am_s rfl rfl ?_
  refine s_k (-1) rfl rfl ?_
  refine s_pi (x := 9) rfl g rfl rfl rfl rfl ?_
  have a7 : (am_w (am_w (am_w s 168 7 0) 168 8 (-1)) 168 9 (-1)) 168 7 = 0 := by rw [am_w_x (by decide), am_w_x (by decide), am_w_eq]
  have a8 : (am_w (am_w (am_w s 168 7 0) 168 8 (-1)) 168 9 (-1)) 168 8 = -1 := by rw [am_w_x (by decide), am_w_eq]
  have a9 : (am_w (am_w (am_w s 168 7 0) 168 8 (-1)) 168 9 (-1)) 168 9 = -1 := by rw [am_w_eq]
  have a5 : (am_w (am_w (am_w s 168 7 0) 168 8 (-1)) 168 9 (-1)) 168 5 = s 168 5 := by rw [am_w_x (by decide), am_w_x (by decide), am_w_x (by decide)]
  have hF : am_Fm [170, 172, 173] [6, 7, 8, 9] s (am_w (am_w (am_w s 168 7 0) 168 8 (-1)) 168 9 (-1)) := Fm_w (Fm_w (Fm_w (am_Fm_r _ _ _) (by decide)) (by decide)) (by decide)
  refine t_rA15 (d := d) (s := (am_w (am_w (am_w s 168 7 0) 168 8 (-1)) 168 9 (-1))) (T := T) (z := z) g ⟨by rw [a5]; exact ez, zl, fun y a b => by rw [hF.1 171 (by decide)]; exact et y a b, tr, ?_⟩ a7 a8 a9 (fun s9 a b c e => hPP s9 (Fm_t hF a) b c e)
  unfold yt
  rw [a7, a8, a9]
  exact ⟨⟨by show (0 : Int) ≤ 0; omega, zl.1⟩, ⟨by show (-1 : Int) ≤ -1; omega, by show (-1 : Int) ≤ z; omega⟩, by show (-1 : Int) ≤ -1; omega, by show (-1 : Int) ≤ z; omega⟩
theorem dOK_c {fm n : Int} {V : Nat → Nat → Int} {M M2 : Int → Int → Int} (hn : n ≤ 20) (e : ∀ a b : Nat, (a : Int) < 20 → (b : Int) < 20 → M2 a b = M a b) (h : dOK fm n V M) : dOK fm n V M2 := by
  refine ⟨fun f a b a1 b1 => ?_, fun f a a1 => ?_, fun f a b ab b1 => ?_, fun f a b ab b1 => ?_, fun f a b ab b1 => ?_⟩
  · rw [e a b (by omega) (by omega)]; exact h.eq f a b a1 b1
  · rw [e a a (by omega) (by omega)]; exact h.ze f a a1
  · rw [e a b (by omega) (by omega), e b a (by omega) (by omega)]; exact h.up f a b ab b1
  · rw [e a b (by omega) (by omega), e b a (by omega) (by omega)]; exact h.pl f a b ab b1
  · rw [e a b (by omega) (by omega), e b a (by omega) (by omega)]; exact h.rt f a b ab b1
theorem t_readM5 {d : Nat} {E : am_Ev} {s : am_S} {PP : Option Value → am_H → Prop} (g : am_Eg E) {T : Int → Int} {z : Int} (ez : s 168 5 = z) (zl : 0 ≤ z ∧ z ≤ 5000) (et : ∀ y, 0 ≤ y → y < z → s 171 y = T y) (tr : ∀ y, 0 ≤ y → y < z → 32 ≤ T y ∧ T y ≤ 126) (h0 : ¬ txG (tA4 T z) → ∀ s1, am_Fm [170, 172, 173] [5, 6, 7, 8, 9] s s1 → s1 168 5 = 0 → PP (some (.int (iI (-1000 - tRes (tA4 T z))))) (am_hp E s1)) (h1 : txG (tA4 T z) → ∀ s2, am_Fm [169, 170, 172, 173] [1, 5, 6, 7, 8, 9] s s2 → s2 168 1 = tN T z → s2 168 5 = 0 → dOK (tFm T z) (tN T z) (tV T z) (my s2) → PP (some (.int (iI (tN T z)))) (am_hp E (s_chg s2))) : am_wp (d + 4) 172 5 (lv_args 0 [.ref 168]) [] (am_hp E s) PP := by
  refine am_s rfl rfl ?_
  refine s_cv [] [] rfl g (Or.inl rfl) rfl rfl (Nat.le_of_ble_eq_true rfl) rfl rfl (t_readAll (d := d) (PP := fun rv h => rv = none ∧ ∃ s1, h = am_hp E s1 ∧ am_Fm [170, 172, 173] [6, 7, 8, 9] s s1 ∧ txE (tA4 T z) (yt s1) ∧ txO z (yt s1) ∧ (txG (tA4 T z) → s1 168 6 = tN T z ∧ dOK (tFm T z) (tN T z) (tV T z) (fun a b => s1 170 (20 * a + b)))) g ez zl et tr (fun s1 a b c e => ⟨rfl, s1, rfl, a, b, c, e⟩)) ?_
  rintro rv h9 ⟨rfl, s1, rfl, hF1, e1, ox1, hd1⟩
  have q8 : -1 ≤ s1 168 8 ∧ s1 168 8 ≤ z := ox1.2.1
  have q9 : -1 ≤ s1 168 9 ∧ s1 168 9 ≤ z := ox1.2.2
  refine am_s rfl rfl ?_
  refine s_k 0 rfl rfl ?_
  refine s_pi (x := 5) rfl g rfl rfl rfl rfl ?_
  refine am_s rfl rfl ?_
  refine s_gi (x := 8) rfl g rfl rfl rfl ?_
  refine s_zge rfl ⟨by simp only [am_w_x (show (8 : Int) ≠ 5 by decide)]; omega, by simp only [am_w_x (show (8 : Int) ≠ 5 by decide)]; omega⟩ (fun c1 => ?_) (fun c1 => ?_)
  · refine s_k (-1000) rfl rfl ?_
    refine am_s rfl rfl ?_
    refine s_gi (x := 8) rfl g rfl rfl rfl ?_
    refine s_zlt rfl ⟨by simp only [am_w_x (show (8 : Int) ≠ 5 by decide)]; omega, by simp only [am_w_x (show (8 : Int) ≠ 5 by decide)]; omega⟩ (fun c2 => ?_) (fun c2 => ?_)
    · refine am_s rfl rfl ?_
      refine s_gi (x := 9) rfl g rfl rfl rfl ?_
      refine s_isub rfl ?_
      have w8 : (am_w s1 168 5 0) 168 8 = s1 168 8 := am_w_x (by decide)
      have w9 : (am_w s1 168 5 0) 168 9 = s1 168 9 := am_w_x (by decide)
      have er : tRes (tA4 T z) = s1 168 9 := by
        rw [tRes_E e1]
        unfold tRes
        exact if_neg (show ¬ 0 ≤ (yt s1).f by show ¬ 0 ≤ s1 168 8; omega)
      have ng : ¬ txG (tA4 T z) := fun y => by
        have e := txE_q e1 y.1
        rw [e] at y
        have y1 : s1 168 8 < 0 := y.1
        have y2 : s1 168 9 < 0 := y.2
        omega
      rw [w9, ← er]
      exact am_r rfl rfl (h0 ng _ (Fm_w (Fm_m hF1 (fun _ y => y) (by decide)) (by decide)) (am_w_eq _ _ _ _))
    · refine am_s rfl rfl ?_
      refine s_gi (x := 8) rfl g rfl rfl rfl ?_
      refine am_s rfl rfl ?_
      refine s_isub rfl ?_
      have w8 : (am_w s1 168 5 0) 168 8 = s1 168 8 := am_w_x (by decide)
      have w9 : (am_w s1 168 5 0) 168 9 = s1 168 9 := am_w_x (by decide)
      have er : tRes (tA4 T z) = s1 168 8 := by
        rw [tRes_E e1]
        unfold tRes
        exact if_pos (show 0 ≤ (yt s1).f by show 0 ≤ s1 168 8; omega)
      have ng : ¬ txG (tA4 T z) := fun y => by
        have e := txE_q e1 y.1
        rw [e] at y
        have y1 : s1 168 8 < 0 := y.1
        have y2 : s1 168 9 < 0 := y.2
        omega
      rw [w8, ← er]
      exact am_r rfl rfl (h0 ng _ (Fm_w (Fm_m hF1 (fun _ y => y) (by decide)) (by decide)) (am_w_eq _ _ _ _))
  · refine am_s rfl rfl ?_
    refine s_gi (x := 9) rfl g rfl rfl rfl ?_
    refine s_zlt rfl ⟨by simp only [am_w_x (show (9 : Int) ≠ 5 by decide)]; omega, by simp only [am_w_x (show (9 : Int) ≠ 5 by decide)]; omega⟩ (fun c3 => ?_) (fun c3 => ?_)
    · refine am_s rfl rfl ?_
      refine am_s rfl rfl ?_
      refine s_gi (x := 6) rfl g rfl rfl rfl ?_
      refine s_pi (x := 1) rfl g rfl rfl rfl rfl ?_
      refine s_k 0 rfl rfl ?_
      refine am_s rfl rfl ?_
      have k8 : s1 168 8 < 0 := by have : (am_w s1 168 5 0) 168 8 = s1 168 8 := am_w_x (by decide); omega
      have k9 : s1 168 9 < 0 := by have : (am_w s1 168 5 0) 168 9 = s1 168 9 := am_w_x (by decide); omega
      have f4 : (tA4 T z).f < 0 := by rw [e1.2.1]; exact k8
      have g4 : txG (tA4 T z) := by rw [txE_q e1 f4]; exact ⟨k8, k9⟩
      obtain ⟨d6, dd⟩ := hd1 g4
      have okk := tA3_g zl.1 (tA4_g zl.1 g4).1
      have e6 : (am_w s1 168 5 0) 168 6 = tN T z := by rw [am_w_x (by decide)]; exact d6
      rw [e6]
      generalize hs2 : am_w (am_w s1 168 5 0) 168 1 (tN T z) = s2
      have hF2 : am_Fm [170, 172, 173] [1, 5, 6, 7, 8, 9] s s2 := by rw [← hs2]; exact Fm_w (Fm_w (Fm_m hF1 (fun _ y => y) (by decide)) (by decide)) (by decide)
      have n2 : s2 168 1 = tN T z := by rw [← hs2, am_w_eq]
      have t2 : s2 168 5 = 0 := by rw [← hs2, am_w_x (by decide), am_w_eq]
      have r2 : s2 170 = s1 170 := by rw [← hs2, am_w_row (by decide), am_w_row (by decide)]
      refine am_lv [(1, .int (iI (((0 : Nat) : Int) : Int))), (0, .ref 168)] rfl rfl ⟨rfl, rfl, trivial⟩ ?_
      refine s_loop (X := Unit) (fun k _ s3 => am_Fr [169] s2 s3 ∧ ∀ y, 0 ≤ y → y < (k : Int) → s3 169 y = s2 170 y) (fun k _ => [(1, .int (iI (k : Int))), (0, .ref 168)]) (lo := 0) (hi := 400) (x := ()) (by decide) ⟨fun _ _ => rfl, fun y y0 y1 => by omega⟩ ?_ ?_
      · rintro k - s3 hk0 hk1 ⟨hF3, hz3⟩ kk
        try simp only at kk ⊢
        refine am_s rfl rfl ?_
        refine s_k 400 rfl rfl ?_
        refine s_cge rfl ⟨by omega, by omega⟩ ⟨by omega, by omega⟩ (fun c1 => absurd c1 (by omega)) (fun c1 => ?_)
        refine am_s rfl rfl ?_
        refine s_gr rfl g rfl rfl ?_
        refine am_s rfl rfl ?_
        refine am_s rfl rfl ?_
        refine s_gr rfl g rfl rfl ?_
        refine am_s rfl rfl ?_
        refine s_ia rfl g rfl ⟨by omega, by omega⟩ (by decide) ?_
        refine s_is rfl g rfl ⟨by omega, by omega⟩ (by decide) ?_
        refine s_inc rfl rfl ?_
        refine am_s rfl rfl ?_
        have ek2 : (k : Int) + 1 = ((k + 1 : Nat) : Int) := by omega
        rw [ek2]
        refine am_lv [(1, _), (0, _)] rfl rfl ⟨rfl, rfl, trivial⟩ ?_
        refine kk () _ ⟨fun b hb => by rw [am_w_row (fun z => hb (by simp [z]))]; exact hF3 b hb, fun y y0 y1 => ?_⟩
        by_cases e : y = (k : Int)
        · rw [e, am_w_eq, hF3 170 (by decide)]
        · rw [am_w_x e]; exact hz3 y y0 (by omega)
      · rintro - s3 ⟨hF3, hz3⟩
        try simp only
        refine am_s rfl rfl ?_
        refine s_k 400 rfl rfl ?_
        refine s_cge rfl ⟨by omega, by omega⟩ ⟨by omega, by omega⟩ (fun c1 => ?_) (fun c1 => absurd c1 (by omega))
        refine am_s rfl rfl ?_
        refine s_cv [] [] rfl g (Or.inl rfl) rfl rfl (Nat.le_of_ble_eq_true rfl) rfl rfl (t_change (s := s3) g) ?_
        rintro rv h9 ⟨rfl, rfl⟩
        have en : (s_chg s3) 168 1 = tN T z := by
          show s3 168 1 = tN T z
          rw [hF3 168 (by decide)]; exact n2
        refine am_s rfl rfl ?_
        refine s_gi (x := 1) rfl g rfl rfl rfl ?_
        rw [en]
        refine am_r rfl rfl (h1 g4 s3 ⟨fun b hb => ?_, fun y hy => ?_⟩ (by rw [hF3 168 (by decide)]; exact n2) (by rw [hF3 168 (by decide)]; exact t2) ?_)
        · rw [hF3 b (fun z => hb (by simp at z; simp [z]))]; exact hF2.1 b (fun z => hb (by simp at z ⊢; omega))
        · rw [hF3 168 (by decide)]; exact hF2.2 y hy
        · have em : ∀ a b : Nat, (a : Int) < 20 → (b : Int) < 20 → my s3 a b = s1 170 (20 * (a : Int) + (b : Int)) := fun a b a1 b1 => by
            show s3 169 (20 * (a : Int) + (b : Int)) = _
            rw [hz3 _ (by omega) (by omega), r2]
          exact dOK_c okk.2.2 em dd
    · refine s_k (-1000) rfl rfl ?_
      refine am_s rfl rfl ?_
      refine s_gi (x := 8) rfl g rfl rfl rfl ?_
      refine s_zlt rfl ⟨by simp only [am_w_x (show (8 : Int) ≠ 5 by decide)]; omega, by simp only [am_w_x (show (8 : Int) ≠ 5 by decide)]; omega⟩ (fun c4 => ?_) (fun c4 => ?_)
      · refine am_s rfl rfl ?_
        refine s_gi (x := 9) rfl g rfl rfl rfl ?_
        refine s_isub rfl ?_
        have w8 : (am_w s1 168 5 0) 168 8 = s1 168 8 := am_w_x (by decide)
        have w9 : (am_w s1 168 5 0) 168 9 = s1 168 9 := am_w_x (by decide)
        have er : tRes (tA4 T z) = s1 168 9 := by
          rw [tRes_E e1]
          unfold tRes
          exact if_neg (show ¬ 0 ≤ (yt s1).f by show ¬ 0 ≤ s1 168 8; omega)
        have ng : ¬ txG (tA4 T z) := fun y => by
          have e := txE_q e1 y.1
          rw [e] at y
          have y1 : s1 168 8 < 0 := y.1
          have y2 : s1 168 9 < 0 := y.2
          omega
        rw [w9, ← er]
        exact am_r rfl rfl (h0 ng _ (Fm_w (Fm_m hF1 (fun _ y => y) (by decide)) (by decide)) (am_w_eq _ _ _ _))
      · refine am_s rfl rfl ?_
        refine s_gi (x := 8) rfl g rfl rfl rfl ?_
        refine am_s rfl rfl ?_
        refine s_isub rfl ?_
        have w8 : (am_w s1 168 5 0) 168 8 = s1 168 8 := am_w_x (by decide)
        have w9 : (am_w s1 168 5 0) 168 9 = s1 168 9 := am_w_x (by decide)
        have er : tRes (tA4 T z) = s1 168 8 := by
          rw [tRes_E e1]
          unfold tRes
          exact if_pos (show 0 ≤ (yt s1).f by show 0 ≤ s1 168 8; omega)
        have ng : ¬ txG (tA4 T z) := fun y => by
          have e := txE_q e1 y.1
          rw [e] at y
          have y1 : s1 168 8 < 0 := y.1
          have y2 : s1 168 9 < 0 := y.2
          omega
        rw [w8, ← er]
        exact am_r rfl rfl (h0 ng _ (Fm_w (Fm_m hF1 (fun _ y => y) (by decide)) (by decide)) (am_w_eq _ _ _ _))
theorem t_readM {d : Nat} {E : am_Ev} {s : am_S} {PP : Option Value → am_H → Prop} (g : am_Eg E) {T : Int → Int} {z : Int} (ez : s 168 5 = z) (zl : 0 ≤ z ∧ z ≤ 5000) (et : ∀ y, 0 ≤ y → y < z → s 171 y = T y) (tr : ∀ y, 0 ≤ y → y < z → 32 ≤ T y ∧ T y ≤ 126) (h0 : ¬ txG (tA4 T z) → ∀ s1, am_Fm [170, 172, 173] [5, 6, 7, 8, 9] (am_w s 168 0 0) s1 → s1 168 5 = 0 → PP (some (.int (iI (-1000 - tRes (tA4 T z))))) (am_hp E s1)) (h1 : txG (tA4 T z) → ∀ s2, am_Fm [169, 170, 172, 173] [1, 5, 6, 7, 8, 9] (am_w s 168 0 0) s2 → s2 168 1 = tN T z → s2 168 5 = 0 → dOK (tFm T z) (tN T z) (tV T z) (my s2) → PP (some (.int (iI (tN T z)))) (am_hp E (s_chg s2))) : am_wp (d + 4) 172 0 (lv_args 0 [.ref 168]) [] (am_hp E s) PP := by
  refine am_s rfl rfl ?_
  refine s_k 0 rfl rfl ?_
  refine s_pi (x := 0) rfl g rfl rfl rfl rfl ?_
  exact t_readM5 (d := d) (s := am_w s 168 0 0) g (by rw [am_w_x (by decide)]; exact ez) zl (fun y a b => by rw [am_w_row (by decide)]; exact et y a b) tr h0 h1
