/-! the matcher: a way is matched anew -/
theorem bFI_way {S : bS} (h : bStr S) (hN : bNd S) {Ex P : Int → Prop} {here there tt : Int} {m b r : Int → Int} (hI : bFI S Ex P here there tt m b r) : b (S.top here) = S.base (S.top here) ∧ m (b (S.top here)) = S.mate (S.base (S.top here)) := by
  obtain ⟨h0, h1, hm⟩ := hI.hh
  have ho : bOut S (S.top here) := ⟨here, h0, h1, rfl, hm⟩
  have hnp : ¬ P (S.top here) := fun z => hI.dj _ z (bOn_r (by have := bOut_0 h ho; omega))
  obtain ⟨t1, t2, t3, t4⟩ := b_bt h hN h0 h1
  have eb := (hI.fb (S.top here) ⟨_, t1⟩ (fun w hw => by rw [b_ttop h h0 h1 hw]; exact hnp)).1
  exact ⟨eb, by rw [eb]; exact hI.fm _ t2 t3 (by rw [t4]; exact hnp)⟩
def mFI (s s' : am_S) (Ex P P' : Int → Prop) (here0 here there tt : Int) : Prop := am_Fr [85, 88, 93] s s' ∧ bFI (mS s) Ex P' here there tt (s' 85) (s' 88) (rbf s') ∧ (∀ y, P y → P' y) ∧ ∀ y, P' y → P y ∨ bOn (mS s) (s 86 here0) y
def mFE (s s' : am_S) (Ex P P' : Int → Prop) (here0 tt : Int) : Prop := am_Fr [85, 88, 93] s s' ∧ bFE (mS s) Ex P' tt (s' 85) (s' 88) (rbf s') ∧ (∀ y, P y → P' y) ∧ (∀ y, P' y → P y ∨ bOn (mS s) (s 86 here0) y) ∧ ∃ z, (0 ≤ z ∧ z < s 62 0) ∧ s 85 z = -1 ∧ P' (s 86 z) ∧ ¬ P (s 86 z)
set_option maxHeartbeats 8000000 in
theorem t_flipWay {d : Nat} {E : am_Ev} {s s0 : am_S} {rk : Int → Int} {Ex P : Int → Prop} {a b tt : Int} {PP : Option Value → am_H → Prop} (g : am_Eg E) (h : mB s rk) (hL : bLk (mS s)) (hC : bSym (mS s)) (hF0 : am_Fr [85, 88, 93] s s0) (hI0 : bFI (mS s) Ex P a b tt (s0 85) (s0 88) (rbf s0)) (hPP : ∀ P' s', mFE s s' Ex P P' a tt → PP none (am_hp E s')) : am_wp (d + 10 + 1 + 1) 52 0 (lv_args 0 [.ref 62, .int (iI a), .int (iI b)]) [] (am_hp E s0) PP := by
  obtain ⟨a0, a1, am⟩ := hI0.hh
  have oa : bOut (mS s) (s 86 a) := ⟨a, a0, a1, rfl, am⟩
  refine am_s rfl rfl ?_
  refine am_s rfl rfl ?_
  refine am_s rfl rfl ?_
  refine am_s rfl rfl ?_
  refine s_k 0 rfl rfl ?_
  refine am_s rfl rfl ?_
  refine am_lv [(5, .int (iI (((0 : Nat) : Int) : Int))), (4, .int (iI (a, b).2)), (3, .int (iI (a, b).1)), (0, .ref 62)] rfl rfl ⟨rfl, rfl, rfl, rfl, trivial⟩ ?_
  refine s_loop (X := Int × Int) (fun k y s' => ∃ P', mFI s s' Ex P P' a y.1 y.2 tt ∧ (mS s).top y.1 = bAbn (mS s) (s 86 a) (k)) (fun k y => [(5, .int (iI (k : Int))), (4, .int (iI y.2)), (3, .int (iI y.1)), (0, .ref 62)]) (hi := 30) (x := (a, b)) (by omega) ⟨P, ⟨hF0, hI0, fun _ z => z, fun _ z => Or.inl z⟩, rfl⟩ ?_ ?_
  · rintro k y s1 hk0 hk1 ⟨P', ⟨hF1, hI, hP1, hP2⟩, hk⟩ kk
    simp only at kk ⊢
    obtain ⟨y0, y1, ym⟩ := hI.hh
    have oy : bOut (mS s) (s 86 y.1) := ⟨y.1, y0, y1, rfl, ym⟩
    have ob := bOut_0 h.st oy
    obtain ⟨a1, a2, a3, a4⟩ := mB_out h oy
    have e85 : s1 85 = s1 85 := rfl
    have e86 : s1 86 = s 86 := hF1 86 (by decide)
    have E1 := mS_bmv hF1
    have w1 : ∀ x, 0 ≤ x → x < 30 → 0 ≤ s1 87 x ∧ s1 87 x < 1048576 := by rw [hF1 87 (by decide)]; exact h.w1
    obtain ⟨wy1, wy2⟩ := bFI_way h.st h.nd hI
    have wy1 : s1 88 (s 86 y.1) = s 88 (s 86 y.1) := wy1
    have wy2 : s1 85 (s1 88 (s 86 y.1)) = s 85 (s 88 (s 86 y.1)) := wy2
    rw [wy1] at wy2
    have n0 := h.st.n0
    have n1 : (mS s).n = s 62 0 := rfl
    have y1b : y.1 < s 62 0 := y1
    have ne : bAbn (mS s) (s 86 a) (k) ≠ -1 := by rw [← hk]; show s 86 y.1 ≠ -1; omega
    refine am_s rfl rfl ?_
    refine s_k 30 rfl rfl ?_
    refine s_cge rfl ⟨by omega, by omega⟩ ⟨by omega, by omega⟩ (fun c1 => absurd c1 (by omega)) (fun c1 => ?_)
    refine am_s rfl rfl ?_
    refine s_gr rfl g rfl rfl ?_
    refine am_s rfl rfl ?_
    refine s_ia rfl g rfl ⟨by omega, by omega⟩ (by decide) ?_
    rw [e86]
    refine am_s rfl rfl ?_
    refine am_s rfl rfl ?_
    refine s_gr rfl g rfl rfl ?_
    refine am_s rfl rfl ?_
    refine s_gr rfl g rfl rfl ?_
    refine am_s rfl rfl ?_
    refine s_ia rfl g rfl ⟨by omega, by omega⟩ (by decide) ?_
    rw [wy1]
    refine s_ia rfl g rfl ⟨by omega, by omega⟩ (by decide) ?_
    rw [wy2]
    refine am_s rfl rfl ?_
    refine am_s rfl rfl ?_
    refine am_s rfl rfl ?_
    refine am_s rfl rfl ?_
    refine s_k 0 rfl rfl ?_
    have hU1 : bU (mS s) (s 86 y.1) := ⟨y.1, h.st.th _ y0 y1⟩
    have hH1 := h.st.th _ y0 y1
    have sz1 := bsz_20 (x := s 86 y.1) h.st
    refine s_cv [_, _, _] [] rfl g (Or.inl rfl) rfl rfl (Nat.le_of_ble_eq_true rfl) rfl rfl (t_moveBase g 10 (d := d) (s := s1) (x := s 86 y.1) (v := y.1) (dp := 0) (by rw [E1]; exact bmv_str h.st _ _ _) w1 (by rw [E1]; exact hU1) (show (mS s1).H (s 86 y.1) y.1 from by rw [E1]; exact hH1) (by rw [E1]; exact fun q hq _ => hI.nd q hq) (by rw [E1]; exact (show bsz (mS s) (s 86 y.1) ≤ _ by omega)) (by omega) (by omega)) ?_
    rintro rv h1 ⟨rfl, s2, rfl, hF2, hB2⟩
    have hB2 : bMB (mS s) (s 86 y.1) y.1 (s1 85) (s1 88) (rbf s1) (s2 85) (s2 88) (rbf s2) := by rw [E1] at hB2; exact hB2
    have hF12 := am_Fr_u hF1 hF2
    refine am_s rfl rfl ?_
    refine s_gr rfl g rfl rfl ?_
    refine am_s rfl rfl ?_
    refine am_s rfl rfl ?_
    refine s_is rfl g rfl ⟨by omega, by omega⟩ (by decide) ?_
    generalize hs3 : am_w s2 85 y.1 y.2 = s3
    have e385 : s3 85 = bup (s2 85) y.1 y.2 := by
      rw [← hs3]; funext q; unfold bup am_w; simp
    have e388 : s3 88 = s2 88 := by rw [← hs3, am_w_row (by decide)]
    have e393 : rbf s3 = rbf s2 := by unfold rbf; rw [← hs3, am_w_row (by decide)]
    have hF13 : am_Fr [85, 88, 93] s s3 := by rw [← hs3]; exact am_Fr_W hF12 (by decide)
    have E3 := mS_bmv hF13
    have w3 : ∀ x, 0 ≤ x → x < 30 → 0 ≤ s3 87 x ∧ s3 87 x < 1048576 := by rw [hF13 87 (by decide)]; exact h.w1
    have e386 : s3 86 = s 86 := hF13 86 (by decide)
    have e390 : s3 90 = s 90 := hF13 90 (by decide)
    have e391 : s3 91 = s 91 := hF13 91 (by decide)
    obtain ⟨-, nd3, -⟩ := b_flip1 h.st h.nd h.ma h.tr hL hC hI hB2
    skip
    refine am_s rfl rfl ?_
    refine s_k (-1) rfl rfl ?_
    refine s_cne rfl ⟨by omega, by omega⟩ ⟨by omega, by omega⟩ (fun c2 => ?_) (fun c2 => ?_)
    · have hne : s 85 (s 88 (s 86 y.1)) ≠ -1 := by omega
      obtain ⟨u, u0, u1, eu, -, -, -, -, iH, f0, f1, fo, -, -, ab⟩ := b_up h.st h.nd h.ma h.tr oy hne
      have eu : s 85 (s 88 (s 86 y.1)) = u := eu
      have tu : 0 ≤ s 86 u ∧ s 86 u < 30 := b_top0 h.st u0 u1
      have u1b : u < s 62 0 := u1
      have ri := h.st.hr _ _ iH
      have i1 : 0 ≤ s 91 (s 86 u) := ri.2.2.1
      have i2 : s 91 (s 86 u) < s 62 0 := ri.2.2.2
      have f0b : 0 ≤ s 90 (s 86 u) := f0
      have f1b : s 90 (s 86 u) < s 62 0 := f1
      rw [eu]
      refine am_s rfl rfl ?_
      refine s_gr rfl g rfl rfl ?_
      refine am_s rfl rfl ?_
      refine s_ia rfl g rfl ⟨by omega, by omega⟩ (by decide) ?_
      rw [e386]
      refine am_s rfl rfl ?_
      refine am_s rfl rfl ?_
      refine s_gr rfl g rfl rfl ?_
      refine am_s rfl rfl ?_
      refine s_ia rfl g rfl ⟨by omega, by omega⟩ (by decide) ?_
      rw [e391]
      refine am_s rfl rfl ?_
      refine am_s rfl rfl ?_
      refine s_gr rfl g rfl rfl ?_
      refine am_s rfl rfl ?_
      refine s_ia rfl g rfl ⟨by omega, by omega⟩ (by decide) ?_
      rw [e390]
      refine am_s rfl rfl ?_
      refine am_s rfl rfl ?_
      refine am_s rfl rfl ?_
      refine am_s rfl rfl ?_
      refine s_k 0 rfl rfl ?_
      refine s_cv [_, _, _] [] rfl g (Or.inl rfl) rfl rfl (Nat.le_of_ble_eq_true rfl) rfl rfl (t_moveBase g 10 (d := d) (s := s3) (x := s 86 u) (v := s 91 (s 86 u)) (dp := 0) (by rw [E3]; exact bmv_str h.st _ _ _) w3 (by rw [E3]; exact ⟨u, h.st.th u u0 u1⟩) (show (mS s3).H (s 86 u) (s 91 (s 86 u)) from by rw [E3]; exact iH) (by rw [E3, e385, e388, e393]; exact fun q hq _ => nd3 q hq) (by rw [E3]; exact (show bsz (mS s) (s 86 u) ≤ _ by have := bsz_20 (x := s 86 u) h.st; omega)) (by omega) (by omega)) ?_
      rintro rv h1 ⟨rfl, s4, rfl, hF4, hB4⟩
      have hB4 : bMB (mS s) (s 86 u) (s 91 (s 86 u)) (bup (s2 85) y.1 y.2) (s2 88) (rbf s2) (s4 85) (s4 88) (rbf s4) := by rw [E3, e385, e388, e393] at hB4; exact hB4
      refine am_s rfl rfl ?_
      refine s_gr rfl g rfl rfl ?_
      refine am_s rfl rfl ?_
      refine am_s rfl rfl ?_
      refine s_is rfl g rfl ⟨by omega, by omega⟩ (by decide) ?_
      refine s_inc rfl rfl ?_
      refine am_s rfl rfl ?_
      refine am_lv [(5, .int (iI (((k + 1 : Nat) : Int) : Int))), (4, .int (iI (s 90 (s 86 u), s 91 (s 86 u)).2)), (3, .int (iI (s 90 (s 86 u), s 91 (s 86 u)).1)), (0, .ref 62)] rfl rfl ⟨rfl, rfl, rfl, rfl, trivial⟩ ?_
      obtain ⟨z1, z2⟩ := b_flip2 h.st h.nd h.ma h.tr hL hC hI hB2 eu (by omega) hB4
      refine kk (s 90 (s 86 u), s 91 (s 86 u)) _ ⟨fun q => (P' q ∨ q = (mS s).top y.1) ∨ q = (mS s).top u, ⟨am_Fr_W (am_Fr_u hF13 hF4) (by decide), ?_, fun q hq => Or.inl (Or.inl (hP1 q hq)), fun q hq => ?_⟩, ?_⟩
      · have e5 : am_w s4 85 (s 91 (s 86 u)) (s 90 (s 86 u)) 85 = bup (s4 85) (s 91 (s 86 u)) (s 90 (s 86 u)) := by
          funext q; unfold bup am_w; simp
        have e6 : rbf (am_w s4 85 (s 91 (s 86 u)) (s 90 (s 86 u))) = rbf s4 := by unfold rbf; rw [am_w_row (by decide)]
        rw [e5, e6, am_w_row (by decide)]
        exact z1
      · rcases hq with (hq | hq) | hq
        · exact hP2 q hq
        · exact Or.inr ⟨k, ne, Or.inl (by rw [hq]; exact hk)⟩
        · refine Or.inr ⟨k, ne, Or.inr ?_⟩
          rw [← hk]
          refine ⟨hne, ?_⟩
          rw [hq]; show s 86 u = s 86 (s 85 (s 88 (s 86 y.1))); rw [eu]
      · show (mS s).top (s 90 (s 86 u)) = bAbn (mS s) (s 86 a) (k + 1)
        have e7 : bAbn (mS s) (s 86 a) (k + 1) = bAb (mS s) (bAbn (mS s) (s 86 a) (k)) := if_neg ne
        rw [e7, ← hk]; exact z2
    · have z := b_flip3 h.st h.nd h.ma h.tr hL hC hI hB2 (show s 85 (s 88 (s 86 y.1)) = -1 by omega)
      refine am_r rfl rfl (hPP (fun q => P' q ∨ q = (mS s).top y.1) s3 ⟨hF13, by rw [e385, e388, e393]; exact z, fun q hq => Or.inl (hP1 q hq), fun q hq => ?_, s 88 (s 86 y.1), ?_, ?_, ?_, ?_⟩)
      · rcases hq with hq | hq
        · exact hP2 q hq
        · exact Or.inr ⟨k, ne, Or.inl (by rw [hq]; exact hk)⟩
      · have q := b_bt h.st h.nd y0 y1
        exact ⟨q.2.1, q.2.2.1⟩
      · omega
      · exact Or.inr (b_bt h.st h.nd y0 y1).2.2.2
      · have q : s 86 (s 88 (s 86 y.1)) = s 86 y.1 := (b_bt h.st h.nd y0 y1).2.2.2
        rw [q]
        exact fun z => hI.dj _ (hP1 _ z) (bOn_r (by show s 86 y.1 ≠ -1; omega))
  · rintro y s1 ⟨P', ⟨hF1, hI, hP1, hP2⟩, hk⟩
    exfalso
    obtain ⟨y0, y1, ym⟩ := hI.hh
    have oy : bOut (mS s) (s 86 y.1) := ⟨y.1, y0, y1, rfl, ym⟩
    have ob := bOut_0 h.st oy
    have := b_abn_20 h.st h.nd h.ma h.tr oa (k := 30) (by rw [← hk]; show s 86 y.1 ≠ -1; omega)
    omega
