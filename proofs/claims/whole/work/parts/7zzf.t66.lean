/-! the matcher: a node's base is moved -/
def rbf (s : am_S) : Int → Int := fun b => s 93 (b - 20)
theorem mS_bmv {s s' : am_S} (hF : am_Fr [85, 88, 93] s s') : mS s' = bmv (mS s) (s' 85) (s' 88) (rbf s') := by
  rw [mS_ext (s := s) (s' := s') (by rw [hF 62 (by decide)]) (fun q hq => hF q (fun z => by unfold mFx at hq; simp at z; omega)), hF 84 (by decide), hF 89 (by decide), hF 90 (by decide), hF 91 (by decide)]
  rfl
def mMB (s s' : am_S) (x v : Int) : Prop := am_Fr [85, 88, 93] s s' ∧ bMB (mS s) x v (s 85) (s 88) (rbf s) (s' 85) (s' 88) (rbf s')
set_option maxHeartbeats 8000000 in
theorem t_moveBase {E : am_Ev} (g : am_Eg E) : ∀ (k : Nat) {d : Nat} {s : am_S} {x v dp : Int}, bStr (mS s) → (∀ x, 0 ≤ x → x < 30 → 0 ≤ s 87 x ∧ s 87 x < 1048576) → bU (mS s) x → mH s x v → bOK (mS s) x → bsz (mS s) x ≤ 2 * (k : Int) + 1 → 0 ≤ dp → dp + (k : Int) ≤ 10 → am_wp (d + k + 1) 53 0 (lv_args 0 [.ref 62, .int (iI x), .int (iI v), .int (iI dp)]) [] (am_hp E s) (fun rv h => rv = none ∧ ∃ s', h = am_hp E s' ∧ mMB s s' x v)
  | 0, d, s, x, v, dp, st, w1, hU, hv, ok, sz, dp0, dpk => by
    have rx := st.hr _ _ hv
    have hbx := (b_base st x hU ok)
    have rbx := st.hr _ _ hbx
    have rb1 : 0 ≤ s 88 x := rbx.2.2.1
    have rb2 : s 88 x < s 62 0 := rbx.2.2.2
    have n0 := st.n0
    have n1 : (mS s).n = s 62 0 := rfl
    have rv1 : 0 ≤ v := hv.1.2.2.1
    have rv2 : v < 20 := hv.1.2.2.2
    have x20 : x < 20 := by
      rcases Int.lt_or_le x 20 with z | z
      · exact z
      · have m := st.rm x z hU
        have a1 := bsz_c st z hU (i := 0) (by omega) (by omega)
        have a2 := bsz_1 st (st.rc x z hU 0 (by omega) (by omega))
        omega
    refine am_s rfl rfl ?_
    refine s_k 20 rfl rfl ?_
    refine s_clt rfl ⟨by omega, by omega⟩ ⟨by omega, by omega⟩ (fun c1 => ?_) (fun c1 => absurd c1 (by omega))
    exact am_r rfl rfl ⟨rfl, s, rfl, am_Fr_r _ _, bMB_0 ok (by show s 88 x = v; have z : s 88 x = x := (ok x hU b_refl).1 (by omega); have z2 := ((st.hs x v (by omega)).mp hv).1; omega)⟩
  | k + 1, d, s, x, v, dp, st, w1, hU, hv, ok, sz, dp0, dpk => by
    show am_wp (d + k + 1 + 1) 53 0 _ _ _ _
    have rx := st.hr _ _ hv
    have hbx := (b_base st x hU ok)
    have rbx := st.hr _ _ hbx
    have rb1 : 0 ≤ s 88 x := rbx.2.2.1
    have rb2 : s 88 x < s 62 0 := rbx.2.2.2
    have n0 := st.n0
    have n1 : (mS s).n = s 62 0 := rfl
    have rv1 : 0 ≤ v := hv.1.2.2.1
    have rv2 : v < 20 := hv.1.2.2.2
    refine am_s rfl rfl ?_
    refine s_k 20 rfl rfl ?_
    refine s_clt rfl ⟨by omega, by omega⟩ ⟨by omega, by omega⟩ (fun c1 => ?_) (fun c1 => ?_)
    · exact am_r rfl rfl ⟨rfl, s, rfl, am_Fr_r _ _, bMB_0 ok (by show s 88 x = v; have z : s 88 x = x := (ok x hU b_refl).1 (by omega); have z2 := ((st.hs x v (by omega)).mp hv).1; omega)⟩
    · refine am_s rfl rfl ?_
      refine s_gr rfl g rfl rfl ?_
      refine am_s rfl rfl ?_
      refine s_ia rfl g rfl ⟨by omega, by omega⟩ (by decide) ?_
      refine am_s rfl rfl ?_
      refine s_ceq rfl ⟨by omega, by omega⟩ ⟨by omega, by omega⟩ (fun c2 => ?_) (fun c2 => ?_)
      · exact am_r rfl rfl ⟨rfl, s, rfl, am_Fr_r _ _, bMB_0 ok (by show s 88 x = v; omega)⟩
      · refine am_s rfl rfl ?_
        refine s_k 10 rfl rfl ?_
        refine s_cle rfl ⟨by omega, by omega⟩ ⟨by omega, by omega⟩ (fun c3 => ?_) (fun c3 => ?_)
        · have x20 : 20 ≤ x := by omega
          have hR : (mS s).rg x = s (94 + 1 + (x - 20).toNat) := mrow_in (by omega) (by omega)
          have hLF : (mS s).lf x = s (105 + 1 + (x - 20).toNat) := mrow_in (by omega) (by omega)
          have hLI : (mS s).li x = s (116 + 1 + (x - 20).toNat) := mrow_in (by omega) (by omega)
          have mm : 3 ≤ s 92 (x - 20) ∧ s 92 (x - 20) ≤ 20 ∧ s 92 (x - 20) % 2 = 1 := st.rm x x20 hU
          have hg2 : ∀ i, 0 ≤ i → i < s 92 (x - 20) → (0 ≤ s (94 + 1 + (x - 20).toNat) i ∧ s (94 + 1 + (x - 20).toNat) i < 30) ∧ 0 ≤ s 87 (s (94 + 1 + (x - 20).toNat) i) ∧ s 87 (s (94 + 1 + (x - 20).toNat) i) < 1048576 := fun i i0 i1 => by
            obtain ⟨v, hv⟩ := st.rc x x20 hU i i0 i1
            have r := st.hr _ _ hv
            rw [hR] at r
            exact ⟨⟨r.1, r.2.1⟩, w1 _ r.1 r.2.1⟩
          have hj : ∃ i, 0 ≤ i ∧ i < s 92 (x - 20) ∧ bt (s 87 (s (94 + 1 + (x - 20).toNat) i)) v = 1 := by
            obtain ⟨i, i0, i1, z⟩ := (st.rh x v x20 hU).mp hv
            rw [hR] at z
            exact ⟨i, i0, i1, z.2⟩
          obtain ⟨M, en⟩ : ∃ M : Nat, s 92 (x - 20) = 1 + 2 * (M : Int) := ⟨((s 92 (x - 20)) / 2).toNat, by omega⟩
          refine am_s rfl rfl ?_
          refine s_k 20 rfl rfl ?_
          refine s_isub rfl ?_
          refine am_s rfl rfl ?_
          refine am_s rfl rfl ?_
          refine s_gr rfl g rfl rfl ?_
          refine am_s rfl rfl ?_
          refine s_ia rfl g rfl ⟨by omega, by omega⟩ (by decide) ?_
          refine am_s rfl rfl ?_
          refine am_s rfl rfl ?_
          refine am_s rfl rfl ?_
          refine am_s rfl rfl ?_
          refine s_cv [_, _] [] rfl g (Or.inl rfl) rfl rfl (Nat.le_of_ble_eq_true rfl) rfl rfl (t_placeInRing (PP := fun rv h => ∃ f : Int, rv = some (.int (iI f)) ∧ h = am_hp E s ∧ 0 ≤ f ∧ f < s 92 (x - 20) ∧ bt (s 87 (s (94 + 1 + (x - 20).toNat) f)) v = 1) g ⟨by omega, by omega⟩ ⟨hv.1.2.2.1, hv.1.2.2.2⟩ ⟨by omega, by omega⟩ hg2 hj (fun e a b c => ⟨e, rfl, rfl, a, b, c⟩)) ?_
          rintro rv h1 ⟨f, rfl, rfl, f0, f1, fe⟩
          refine am_s rfl rfl ?_
          refine s_k 1 rfl rfl ?_
          refine am_s rfl rfl ?_
          refine am_lv [(7, .int (iI (1 + 2 * ((0 : Nat) : Int)))), (6, .int (iI f)), (5, .int (iI (s 92 (x - 20)))), (4, .int (iI (x - 20))), (3, .int (iI dp)), (2, .int (iI v)), (1, .int (iI x)), (0, .ref 62)] rfl rfl ⟨rfl, rfl, rfl, rfl, rfl, rfl, rfl, rfl, trivial⟩ ?_
          refine s_loop (X := Unit) (fun j _ s' => am_Fr [85, 88, 93] s s' ∧ bMI (mS s) x f (1 + 2 * (j : Int)) (s 85) (s 88) (rbf s) (s' 85) (s' 88) (rbf s')) (fun j _ => [(7, .int (iI (1 + 2 * (j : Int)))), (6, .int (iI f)), (5, .int (iI (s 92 (x - 20)))), (4, .int (iI (x - 20))), (3, .int (iI dp)), (2, .int (iI v)), (1, .int (iI x)), (0, .ref 62)]) (hi := M) (x := ()) (Nat.zero_le M) ⟨am_Fr_r _ _, bMI_0 st x20 hU ok⟩ ?_ ?_
          · rintro j - s1 hj0 hj1 ⟨hF1, hI1⟩ kk
            simp only at kk ⊢
            have w1r := wr_rng (m := s 92 (x - 20)) (i := f + (1 + 2 * (j : Int))) (by omega) (by omega)
            have w2r := wr_rng (m := s 92 (x - 20)) (i := f + (1 + 2 * (j : Int)) + 1) (by omega) (by omega)
            have lk := st.lk x _ x20 hU w1r.1 w1r.2
            have ew : wr (s 92 (x - 20)) (wr (s 92 (x - 20)) (f + (1 + 2 * (j : Int))) + 1) = wr (s 92 (x - 20)) (f + (1 + 2 * (j : Int)) + 1) := by unfold wr; (repeat' split) <;> omega
            have hU1 := st.rc x x20 hU _ w1r.1 w1r.2
            have hU2 := st.rc x x20 hU _ w2r.1 w2r.2
            have hS1 := bsz_c st x20 hU w1r.1 w1r.2
            have hS2 := bsz_c st x20 hU w2r.1 w2r.2
            rw [show wr ((mS s).rs x) (wr (s 92 (x - 20)) (f + (1 + 2 * (j : Int))) + 1) = wr (s 92 (x - 20)) (f + (1 + 2 * (j : Int)) + 1) from ew] at lk
            rw [hR, hLF, hLI] at lk
            rw [hR] at hU1 hU2 hS1 hS2
            have hH1 := lk.1
            have hH2 := lk.2
            have rF := st.hr _ _ hH1
            have rI := st.hr _ _ hH2
            have hS1 : bsz (mS s) (s (94 + 1 + (x - 20).toNat) (wr (s 92 (x - 20)) (f + (1 + 2 * (j : Int))))) ≤ 2 * (k : Int) + 1 := by omega
            have hS2 : bsz (mS s) (s (94 + 1 + (x - 20).toNat) (wr (s 92 (x - 20)) (f + (1 + 2 * (j : Int)) + 1))) ≤ 2 * (k : Int) + 1 := by omega
            have jj : am_wp (d + k + 1 + 1) 53 83 [(8, .int (iI (wr (s 92 (x - 20)) (f + (1 + 2 * (j : Int)))))), (7, .int (iI (1 + 2 * (j : Int)))), (6, .int (iI f)), (5, .int (iI (s 92 (x - 20)))), (4, .int (iI (x - 20))), (3, .int (iI dp)), (2, .int (iI v)), (1, .int (iI x)), (0, .ref 62)] [] (am_hp E s1) (fun rv h => rv = none ∧ ∃ s', h = am_hp E s' ∧ mMB s s' x v) := by
              have eR_s1 : s1 (94 + 1 + (x - 20).toNat) = s (94 + 1 + (x - 20).toNat) := hF1 _ (fun z => by simp at z; omega)
              have eF_s1 : s1 (105 + 1 + (x - 20).toNat) = s (105 + 1 + (x - 20).toNat) := hF1 _ (fun z => by simp at z; omega)
              have eI_s1 : s1 (116 + 1 + (x - 20).toNat) = s (116 + 1 + (x - 20).toNat) := hF1 _ (fun z => by simp at z; omega)
              have E_s1 : mS s1 = bmv (mS s) (s1 85) (s1 88) (rbf s1) := mS_bmv hF1
              have w_s1 : ∀ x, 0 ≤ x → x < 30 → 0 ≤ s1 87 x ∧ s1 87 x < 1048576 := by rw [hF1 87 (by decide)]; exact w1
              refine am_s rfl rfl ?_
              refine s_gr rfl g rfl rfl ?_
              refine am_s rfl rfl ?_
              refine s_aa rfl g rfl ⟨by omega, by omega⟩ (by decide) ?_
              refine am_s rfl rfl ?_
              refine s_ia rfl g (lo_105 (by omega) (by omega)) ⟨by omega, by omega⟩ (by decide) ?_
              rw [eF_s1]
              refine am_s rfl rfl ?_
              refine am_s rfl rfl ?_
              refine s_gr rfl g rfl rfl ?_
              refine am_s rfl rfl ?_
              refine s_aa rfl g rfl ⟨by omega, by omega⟩ (by decide) ?_
              refine am_s rfl rfl ?_
              refine s_ia rfl g (lo_116 (by omega) (by omega)) ⟨by omega, by omega⟩ (by decide) ?_
              rw [eI_s1]
              refine am_s rfl rfl ?_
              refine am_s rfl rfl ?_
              refine am_s rfl rfl ?_
              refine s_gr rfl g rfl rfl ?_
              refine am_s rfl rfl ?_
              refine s_aa rfl g rfl ⟨by omega, by omega⟩ (by decide) ?_
              refine am_s rfl rfl ?_
              refine s_ia rfl g (lo_94 (by omega) (by omega)) ⟨by omega, by omega⟩ (by decide) ?_
              refine am_s rfl rfl ?_
              refine am_s rfl rfl ?_
              refine s_k 1 rfl rfl ?_
              refine s_iadd rfl ?_
              have eR_s1 : s1 (94 + 1 + (x - 20).toNat) = s (94 + 1 + (x - 20).toNat) := hF1 _ (fun z => by simp at z; omega)
              have eF_s1 : s1 (105 + 1 + (x - 20).toNat) = s (105 + 1 + (x - 20).toNat) := hF1 _ (fun z => by simp at z; omega)
              have eI_s1 : s1 (116 + 1 + (x - 20).toNat) = s (116 + 1 + (x - 20).toNat) := hF1 _ (fun z => by simp at z; omega)
              have E_s1 : mS s1 = bmv (mS s) (s1 85) (s1 88) (rbf s1) := mS_bmv hF1
              have w_s1 : ∀ x, 0 ≤ x → x < 30 → 0 ≤ s1 87 x ∧ s1 87 x < 1048576 := by rw [hF1 87 (by decide)]; exact w1
              have hc1 := hI1.1 (wr (s 92 (x - 20)) (f + (1 + 2 * (j : Int)))) w1r.1 w1r.2
              rw [hR] at hc1
              rw [eR_s1]
              refine s_cv [_, _, _] [] rfl g (Or.inl rfl) rfl rfl (Nat.le_of_ble_eq_true rfl) rfl rfl (t_moveBase g k (d := d) (s := s1) (x := s (94 + 1 + (x - 20).toNat) (wr (s 92 (x - 20)) (f + (1 + 2 * (j : Int))))) (v := s (105 + 1 + (x - 20).toNat) (wr (s 92 (x - 20)) (f + (1 + 2 * (j : Int))))) (dp := dp + 1) (by rw [E_s1]; exact bmv_str st _ _ _) w_s1 (by rw [E_s1]; exact hU1) (show (mS s1).H (s (94 + 1 + (x - 20).toNat) (wr (s 92 (x - 20)) (f + (1 + 2 * (j : Int))))) (s (105 + 1 + (x - 20).toNat) (wr (s 92 (x - 20)) (f + (1 + 2 * (j : Int))))) from by rw [E_s1]; exact hH1) (by rw [E_s1]; exact hc1) (by rw [E_s1]; exact hS1) (by omega) (by omega)) ?_
              rintro rv h1 ⟨rfl, s2, rfl, hF2, hB2⟩
              have hF12 := am_Fr_u hF1 hF2
              have hB2 : bMB (mS s) (s (94 + 1 + (x - 20).toNat) (wr (s 92 (x - 20)) (f + (1 + 2 * (j : Int))))) (s (105 + 1 + (x - 20).toNat) (wr (s 92 (x - 20)) (f + (1 + 2 * (j : Int))))) (s1 85) (s1 88) (rbf s1) (s2 85) (s2 88) (rbf s2) := by rw [E_s1] at hB2; exact hB2
              have eR_s2 : s2 (94 + 1 + (x - 20).toNat) = s (94 + 1 + (x - 20).toNat) := hF12 _ (fun z => by simp at z; omega)
              have eF_s2 : s2 (105 + 1 + (x - 20).toNat) = s (105 + 1 + (x - 20).toNat) := hF12 _ (fun z => by simp at z; omega)
              have eI_s2 : s2 (116 + 1 + (x - 20).toNat) = s (116 + 1 + (x - 20).toNat) := hF12 _ (fun z => by simp at z; omega)
              have E_s2 : mS s2 = bmv (mS s) (s2 85) (s2 88) (rbf s2) := mS_bmv hF12
              have w_s2 : ∀ x, 0 ≤ x → x < 30 → 0 ≤ s2 87 x ∧ s2 87 x < 1048576 := by rw [hF12 87 (by decide)]; exact w1
              have hc2 := (bMI_c st x20 hU w1r.1 w1r.2 hI1.1 (by rw [hR]; exact hB2)).1 (wr (s 92 (x - 20)) (f + (1 + 2 * (j : Int)) + 1)) w2r.1 w2r.2
              rw [hR] at hc2
              have jk : am_wp (d + k + 1 + 1) 53 151 [(10, .int (iI (s (116 + 1 + (x - 20).toNat) (wr (s 92 (x - 20)) (f + (1 + 2 * (j : Int))))))), (9, .int (iI (s (105 + 1 + (x - 20).toNat) (wr (s 92 (x - 20)) (f + (1 + 2 * (j : Int))))))), (7, .int (iI (1 + 2 * (j : Int)))), (6, .int (iI f)), (5, .int (iI (s 92 (x - 20)))), (4, .int (iI (x - 20))), (3, .int (iI dp)), (2, .int (iI v)), (1, .int (iI x)), (0, .ref 62)] [.int (iI (wr (s 92 (x - 20)) (f + (1 + 2 * (j : Int)) + 1))), .ref (94 + 1 + (x - 20).toNat), .ref 62] (am_hp E s2) (fun rv h => rv = none ∧ ∃ s', h = am_hp E s' ∧ mMB s s' x v) := by
                refine s_ia rfl g (lo_94 (by omega) (by omega)) ⟨by omega, by omega⟩ (by decide) ?_
                refine am_s rfl rfl ?_
                refine am_s rfl rfl ?_
                refine s_k 1 rfl rfl ?_
                refine s_iadd rfl ?_
                rw [eR_s2]
                refine s_cv [_, _, _] [] rfl g (Or.inl rfl) rfl rfl (Nat.le_of_ble_eq_true rfl) rfl rfl (t_moveBase g k (d := d) (s := s2) (x := s (94 + 1 + (x - 20).toNat) (wr (s 92 (x - 20)) (f + (1 + 2 * (j : Int)) + 1))) (v := s (116 + 1 + (x - 20).toNat) (wr (s 92 (x - 20)) (f + (1 + 2 * (j : Int))))) (dp := dp + 1) (by rw [E_s2]; exact bmv_str st _ _ _) w_s2 (by rw [E_s2]; exact hU2) (show (mS s2).H (s (94 + 1 + (x - 20).toNat) (wr (s 92 (x - 20)) (f + (1 + 2 * (j : Int)) + 1))) (s (116 + 1 + (x - 20).toNat) (wr (s 92 (x - 20)) (f + (1 + 2 * (j : Int))))) from by rw [E_s2]; exact hH2) (by rw [E_s2]; exact hc2) (by rw [E_s2]; exact hS2) (by omega) (by omega)) ?_
                rintro rv h1 ⟨rfl, s3, rfl, hF3, hB3⟩
                have hF13 := am_Fr_u hF12 hF3
                have hB3 : bMB (mS s) (s (94 + 1 + (x - 20).toNat) (wr (s 92 (x - 20)) (f + (1 + 2 * (j : Int)) + 1))) (s (116 + 1 + (x - 20).toNat) (wr (s 92 (x - 20)) (f + (1 + 2 * (j : Int))))) (s2 85) (s2 88) (rbf s2) (s3 85) (s3 88) (rbf s3) := by rw [E_s2] at hB3; exact hB3
                refine am_s rfl rfl ?_
                refine s_gr rfl g rfl rfl ?_
                refine am_s rfl rfl ?_
                refine am_s rfl rfl ?_
                refine s_is rfl g rfl ⟨by omega, by omega⟩ (by decide) ?_
                refine am_s rfl rfl ?_
                refine s_gr rfl g rfl rfl ?_
                refine am_s rfl rfl ?_
                refine am_s rfl rfl ?_
                refine s_is rfl g rfl ⟨by omega, by omega⟩ (by decide) ?_
                refine s_inc rfl rfl ?_
                refine am_s rfl rfl ?_
                rw [show 1 + 2 * (j : Int) + 2 = 1 + 2 * ((j + 1 : Nat) : Int) by omega]
                refine am_lv [(7, _), (6, _), (5, _), (4, _), (3, _), (2, _), (1, _), (0, _)] rfl rfl ⟨rfl, rfl, rfl, rfl, rfl, rfl, rfl, rfl, trivial⟩ ?_
                refine kk () _ ⟨am_Fr_W (am_Fr_W hF13 (by decide)) (by decide), ?_⟩
                have z := bMI_s st x20 hU f0 f1 (k := (1 + 2 * (j : Int))) (by omega) (by show (1 + 2 * (j : Int)) + 1 < s 92 (x - 20); omega) (by omega) hI1 (by rw [hR, hLF]; exact hB2) (by rw [hR, hLI]; exact hB3)
                rw [hLF, hLI, show (1 + 2 * (j : Int)) + 2 = 1 + 2 * ((j + 1 : Nat) : Int) by omega] at z
                have e85 : am_w (am_w s3 85 (s (105 + 1 + (x - 20).toNat) (wr (s 92 (x - 20)) (f + (1 + 2 * (j : Int))))) (s (116 + 1 + (x - 20).toNat) (wr (s 92 (x - 20)) (f + (1 + 2 * (j : Int)))))) 85 (s (116 + 1 + (x - 20).toNat) (wr (s 92 (x - 20)) (f + (1 + 2 * (j : Int))))) (s (105 + 1 + (x - 20).toNat) (wr (s 92 (x - 20)) (f + (1 + 2 * (j : Int))))) 85 = bup (bup (s3 85) (s (105 + 1 + (x - 20).toNat) (wr (s 92 (x - 20)) (f + (1 + 2 * (j : Int))))) (s (116 + 1 + (x - 20).toNat) (wr (s 92 (x - 20)) (f + (1 + 2 * (j : Int)))))) (s (116 + 1 + (x - 20).toNat) (wr (s 92 (x - 20)) (f + (1 + 2 * (j : Int))))) (s (105 + 1 + (x - 20).toNat) (wr (s 92 (x - 20)) (f + (1 + 2 * (j : Int))))) := by
                  funext y
                  unfold bup am_w
                  simp
                rw [e85, am_w_row (by decide), am_w_row (by decide)]
                have er : rbf (am_w (am_w s3 85 (s (105 + 1 + (x - 20).toNat) (wr (s 92 (x - 20)) (f + (1 + 2 * (j : Int))))) (s (116 + 1 + (x - 20).toNat) (wr (s 92 (x - 20)) (f + (1 + 2 * (j : Int)))))) 85 (s (116 + 1 + (x - 20).toNat) (wr (s 92 (x - 20)) (f + (1 + 2 * (j : Int))))) (s (105 + 1 + (x - 20).toNat) (wr (s 92 (x - 20)) (f + (1 + 2 * (j : Int)))))) = rbf s3 := by
                  unfold rbf
                  rw [am_w_row (by decide), am_w_row (by decide)]
                rw [er]
                exact z
              refine am_s rfl rfl ?_
              refine am_s rfl rfl ?_
              refine s_gr rfl g rfl rfl ?_
              refine am_s rfl rfl ?_
              refine s_aa rfl g rfl ⟨by omega, by omega⟩ (by decide) ?_
              refine am_s rfl rfl ?_
              refine s_k 1 rfl rfl ?_
              refine s_iadd rfl ?_
              refine am_s rfl rfl ?_
              refine s_cge rfl ⟨by omega, by omega⟩ ⟨by omega, by omega⟩ (fun c1 => ?_) (fun c1 => ?_)
              · refine s_k 0 rfl rfl ?_
                have e2 : 0 = wr (s 92 (x - 20)) (f + (1 + 2 * (j : Int)) + 1) := by rw [← ew]; unfold wr at *; (repeat' split) <;> omega
                rw [e2]
                refine am_lv [(10, _), (9, _), (7, _), (6, _), (5, _), (4, _), (3, _), (2, _), (1, _), (0, _)] rfl rfl ⟨rfl, rfl, rfl, rfl, rfl, rfl, rfl, rfl, rfl, rfl, trivial⟩ ?_
                exact jk
              · refine am_s rfl rfl ?_
                refine s_k 1 rfl rfl ?_
                refine s_iadd rfl ?_
                refine am_s rfl rfl ?_
                have e2 : wr (s 92 (x - 20)) (f + (1 + 2 * (j : Int))) + 1 = wr (s 92 (x - 20)) (f + (1 + 2 * (j : Int)) + 1) := by rw [← ew]; unfold wr at *; (repeat' split) <;> omega
                rw [e2]
                refine am_lv [(10, _), (9, _), (7, _), (6, _), (5, _), (4, _), (3, _), (2, _), (1, _), (0, _)] rfl rfl ⟨rfl, rfl, rfl, rfl, rfl, rfl, rfl, rfl, rfl, rfl, trivial⟩ ?_
                exact jk
            refine am_s rfl rfl ?_
            refine s_k 1 rfl rfl ?_
            refine s_iadd rfl ?_
            refine am_s rfl rfl ?_
            refine s_cge rfl ⟨by omega, by omega⟩ ⟨by omega, by omega⟩ (fun c1 => absurd c1 (by omega)) (fun c1 => ?_)
            refine am_s rfl rfl ?_
            refine am_s rfl rfl ?_
            refine s_iadd rfl ?_
            refine am_s rfl rfl ?_
            refine am_s rfl rfl ?_
            refine s_iadd rfl ?_
            refine am_s rfl rfl ?_
            refine s_cge rfl ⟨by omega, by omega⟩ ⟨by omega, by omega⟩ (fun c2 => ?_) (fun c2 => ?_)
            · refine am_s rfl rfl ?_
              refine s_isub rfl ?_
              refine am_s rfl rfl ?_
              have e8 : wr (s 92 (x - 20)) (f + (1 + 2 * (j : Int))) = f + (1 + 2 * (j : Int)) - s 92 (x - 20) := by unfold wr; split <;> omega
              refine am_lv [(8, .int (iI (wr (s 92 (x - 20)) (f + (1 + 2 * (j : Int)))))), (7, .int (iI (1 + 2 * (j : Int)))), (6, .int (iI f)), (5, .int (iI (s 92 (x - 20)))), (4, .int (iI (x - 20))), (3, .int (iI dp)), (2, .int (iI v)), (1, .int (iI x)), (0, .ref 62)] rfl rfl ⟨by rw [e8]; rfl, rfl, rfl, rfl, rfl, rfl, rfl, rfl, rfl, trivial⟩ ?_
              exact jj
            · refine s_k 0 rfl rfl ?_
              refine am_s rfl rfl ?_
              refine s_isub rfl ?_
              refine am_s rfl rfl ?_
              have e8 : wr (s 92 (x - 20)) (f + (1 + 2 * (j : Int))) = f + (1 + 2 * (j : Int)) - 0 := by unfold wr; split <;> omega
              refine am_lv [(8, .int (iI (wr (s 92 (x - 20)) (f + (1 + 2 * (j : Int)))))), (7, .int (iI (1 + 2 * (j : Int)))), (6, .int (iI f)), (5, .int (iI (s 92 (x - 20)))), (4, .int (iI (x - 20))), (3, .int (iI dp)), (2, .int (iI v)), (1, .int (iI x)), (0, .ref 62)] rfl rfl ⟨by rw [e8]; rfl, rfl, rfl, rfl, rfl, rfl, rfl, rfl, rfl, trivial⟩ ?_
              exact jj
          · rintro - s1 ⟨hF1, hI1⟩
            simp only
            have hUf := st.rc x x20 hU f f0 f1
            have hSf := bsz_c st x20 hU f0 f1
            rw [hR] at hUf hSf
            have hSf : bsz (mS s) (s (94 + 1 + (x - 20).toNat) f) ≤ 2 * (k : Int) + 1 := by omega
            have gf := hg2 f f0 f1
            have hHf : (mS s).H (s (94 + 1 + (x - 20).toNat) f) v := ⟨⟨gf.1.1, gf.1.2, hv.1.2.2.1, hv.1.2.2.2⟩, fe⟩
            refine am_s rfl rfl ?_
            refine s_k 1 rfl rfl ?_
            refine s_iadd rfl ?_
            refine am_s rfl rfl ?_
            refine s_cge rfl ⟨by omega, by omega⟩ ⟨by omega, by omega⟩ (fun c1 => ?_) (fun c1 => absurd c1 (by omega))
            refine am_s rfl rfl ?_
            refine am_s rfl rfl ?_
            refine s_gr rfl g rfl rfl ?_
            refine am_s rfl rfl ?_
            refine s_aa rfl g rfl ⟨by omega, by omega⟩ (by decide) ?_
            refine am_s rfl rfl ?_
            refine s_ia rfl g (lo_94 (by omega) (by omega)) ⟨by omega, by omega⟩ (by decide) ?_
            refine am_s rfl rfl ?_
            refine am_s rfl rfl ?_
            refine s_k 1 rfl rfl ?_
            refine s_iadd rfl ?_
            have eR_s1 : s1 (94 + 1 + (x - 20).toNat) = s (94 + 1 + (x - 20).toNat) := hF1 _ (fun z => by simp at z; omega)
            have eF_s1 : s1 (105 + 1 + (x - 20).toNat) = s (105 + 1 + (x - 20).toNat) := hF1 _ (fun z => by simp at z; omega)
            have eI_s1 : s1 (116 + 1 + (x - 20).toNat) = s (116 + 1 + (x - 20).toNat) := hF1 _ (fun z => by simp at z; omega)
            have E_s1 : mS s1 = bmv (mS s) (s1 85) (s1 88) (rbf s1) := mS_bmv hF1
            have w_s1 : ∀ x, 0 ≤ x → x < 30 → 0 ≤ s1 87 x ∧ s1 87 x < 1048576 := by rw [hF1 87 (by decide)]; exact w1
            have hc1 := hI1.1 f f0 f1
            rw [hR] at hc1
            rw [eR_s1]
            refine s_cv [_, _, _] [] rfl g (Or.inl rfl) rfl rfl (Nat.le_of_ble_eq_true rfl) rfl rfl (t_moveBase g k (d := d) (s := s1) (x := s (94 + 1 + (x - 20).toNat) f) (v := v) (dp := dp + 1) (by rw [E_s1]; exact bmv_str st _ _ _) w_s1 (by rw [E_s1]; exact hUf) (show (mS s1).H (s (94 + 1 + (x - 20).toNat) f) (v) from by rw [E_s1]; exact hHf) (by rw [E_s1]; exact hc1) (by rw [E_s1]; exact hSf) (by omega) (by omega)) ?_
            rintro rv h1 ⟨rfl, s2, rfl, hF2, hB2⟩
            have hB2 : bMB (mS s) (s (94 + 1 + (x - 20).toNat) f) v (s1 85) (s1 88) (rbf s1) (s2 85) (s2 88) (rbf s2) := by rw [E_s1] at hB2; exact hB2
            refine am_s rfl rfl ?_
            refine s_gr rfl g rfl rfl ?_
            refine am_s rfl rfl ?_
            refine am_s rfl rfl ?_
            refine s_is rfl g rfl ⟨by omega, by omega⟩ (by decide) ?_
            refine am_s rfl rfl ?_
            refine s_gr rfl g rfl rfl ?_
            refine am_s rfl rfl ?_
            refine am_s rfl rfl ?_
            refine s_is rfl g rfl ⟨by omega, by omega⟩ (by decide) ?_
            refine am_r rfl rfl ⟨rfl, _, rfl, am_Fr_W (am_Fr_W (am_Fr_u hF1 hF2) (by decide)) (by decide), ?_⟩
            have z := bMI_e st x20 hU f0 f1 (by rw [show (mS s).rs x = 1 + 2 * (M : Int) from en]; exact hI1) (by rw [hR]; exact hB2)
            have e88 : am_w (am_w s2 93 (x - 20) f) 88 x v 88 = bup (s2 88) x v := by
              funext y
              unfold bup am_w
              simp
            have er : rbf (am_w (am_w s2 93 (x - 20) f) 88 x v) = bup (rbf s2) x f := by
              funext y
              unfold rbf bup am_w
              by_cases c : y = x
              · simp [c]
              · rw [if_neg (by omega), if_neg (by omega), if_neg c]
            rw [am_w_row (a := 88) (by decide), am_w_row (a := 93) (by decide), e88, er]
            exact z
        · exfalso; omega
