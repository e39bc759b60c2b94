/-! the matcher: a blossom is taken apart -/
theorem mS_tab {s s' : am_S} (hF : am_Fr [86, 87, 89, 90, 91] s s') : (mS s').n = (mS s).n ∧ (mS s').C = (mS s).C ∧ (mS s').p = (mS s).p ∧ (mS s').mate = (mS s).mate ∧ (mS s').base = (mS s).base ∧ (mS s').rs = (mS s).rs ∧ (mS s').rb = (mS s).rb ∧ (mS s').rg = (mS s).rg ∧ (mS s').lf = (mS s).lf ∧ (mS s').li = (mS s).li := by
  have e : ∀ a, a ≠ 86 → a ≠ 87 → a ≠ 89 → a ≠ 90 → a ≠ 91 → s' a = s a := fun a h1 h2 h3 h4 h5 => hF a (fun z => by simp at z; omega)
  have e1 : mrow s' 63 20 = mrow s 63 20 := mrow_c (fun v v0 v1 => e _ (by omega) (by omega) (by omega) (by omega) (by omega))
  have e2 : mrow s' 94 10 = mrow s 94 10 := mrow_c (fun v v0 v1 => e _ (by omega) (by omega) (by omega) (by omega) (by omega))
  have e3 : mrow s' 105 10 = mrow s 105 10 := mrow_c (fun v v0 v1 => e _ (by omega) (by omega) (by omega) (by omega) (by omega))
  have e4 : mrow s' 116 10 = mrow s 116 10 := mrow_c (fun v v0 v1 => e _ (by omega) (by omega) (by omega) (by omega) (by omega))
  unfold mS
  dsimp only [bS.n, bS.C, bS.p, bS.mate, bS.top, bS.base, bS.mr, bS.fr, bS.io, bS.H, bS.rs, bS.rb, bS.rg, bS.lf, bS.li]
  rw [e 62 (by omega) (by omega) (by omega) (by omega) (by omega), e 84 (by omega) (by omega) (by omega) (by omega) (by omega), e 85 (by omega) (by omega) (by omega) (by omega) (by omega), e 88 (by omega) (by omega) (by omega) (by omega) (by omega), e 92 (by omega) (by omega) (by omega) (by omega) (by omega), e 93 (by omega) (by omega) (by omega) (by omega) (by omega), e1, e2, e3, e4]
  exact ⟨rfl, rfl, rfl, rfl, rfl, rfl, rfl, rfl, rfl, rfl⟩
theorem mDs_mk {s s' : am_S} {b S : Int} {q F I : Int → Int} (hb : 20 ≤ b ∧ b < 30) (h : bStr (mS s)) (hU : bU (mS s) b) (hF : am_Fr [86, 87, 89, 90, 91] s s') (h87 : ∀ y, s' 87 y = if y = b then 0 else s 87 y) (t1 : ∀ i v, 0 ≤ i → i < s 92 (b - 20) → 0 ≤ v → v < s 62 0 → bt (s 87 (s (94 + 1 + (b - 20).toNat) i)) v = 1 → s' 86 v = s (94 + 1 + (b - 20).toNat) i) (t2 : ∀ v, (∀ i, 0 ≤ i → i < s 92 (b - 20) → ¬ (0 ≤ v ∧ v < s 62 0 ∧ bt (s 87 (s (94 + 1 + (b - 20).toNat) i)) v = 1)) → s' 86 v = s 86 v) (m1 : ∀ j, 0 ≤ j → j ≤ S → s' 89 (s (94 + 1 + (b - 20).toNat) (q j)) = if j % 2 = 0 then 2 else 1) (m0 : ∀ i, 0 ≤ i → i < s 92 (b - 20) → (∀ j, 0 ≤ j → j ≤ S → q j ≠ i) → s' 89 (s (94 + 1 + (b - 20).toNat) i) = 0) (my : ∀ y, (∀ i, 0 ≤ i → i < s 92 (b - 20) → s (94 + 1 + (b - 20).toNat) i ≠ y) → s' 89 y = s 89 y ∧ s' 90 y = s 90 y ∧ s' 91 y = s 91 y) (f0 : s' 90 (s (94 + 1 + (b - 20).toNat) (q 0)) = s 90 b ∧ s' 91 (s (94 + 1 + (b - 20).toNat) (q 0)) = s 91 b) (f2 : ∀ j, 2 ≤ j → j ≤ S → j % 2 = 0 → s' 90 (s (94 + 1 + (b - 20).toNat) (q j)) = F j ∧ s' 91 (s (94 + 1 + (b - 20).toNat) (q j)) = I j) : bDs (mS s) (mS s') b S q F I := by
  obtain ⟨e1, e2, e3, e4, e5, e6, e7, e8, e9, e10⟩ := mS_tab hF
  have hR : (mS s).rg b = s (94 + 1 + (b - 20).toNat) := mrow_in (by omega) (by omega)
  refine ⟨e1, e2, e3, e4, e5, e6, e7, e8, e9, e10, fun v hv => ?_, fun y v hy => ?_, fun i v i0 i1 hv => ?_, fun v v0 v1 hv => ?_, fun j j0 j1 => ?_, fun i i0 i1 hj => ?_, fun y hy => ?_, ?_, fun j j0 j1 je => ?_, fun y hy => ?_⟩
  · have z := hv.2
    rw [h87 b, if_pos rfl] at z
    unfold bt at z
    rw [show ((0 : Int)).toNat = 0 from rfl, Nat.zero_testBit] at z
    exact absurd z (by decide)
  · show mH s' y v ↔ mH s y v
    unfold mH
    rw [h87 y, if_neg hy]
  · have r := h.hr _ _ hv
    rw [hR] at hv ⊢
    exact t1 i v i0 i1 r.2.2.1 r.2.2.2 hv.2
  · refine t2 v (fun i i0 i1 z => hv ((h.rh b v hb.1 hU).mpr ⟨i, i0, i1, ?_⟩))
    obtain ⟨u, hu⟩ := h.rc b hb.1 hU i i0 i1
    have r := h.hr _ _ hu
    have n0 := h.n0
    have n1 : (mS s).n = s 62 0 := rfl
    rw [hR] at r ⊢
    exact ⟨⟨r.1, r.2.1, z.1, by omega⟩, z.2.2⟩
  · rw [hR]; exact m1 j j0 j1
  · rw [hR]; exact m0 i i0 i1 hj
  · rw [hR] at hy; exact (my y hy).1
  · rw [hR]; exact f0
  · rw [hR]; exact f2 j j0 j1 je
  · rw [hR] at hy; exact (my y hy).2
set_option maxHeartbeats 8000000 in
theorem t_dissolve {d : Nat} {E : am_Ev} {s : am_S} {rk : Int → Int} {b t : Int} {PP : Option Value → am_H → Prop} (g : am_Eg E) (h : mB s rk) (hDu : bDu (mS s) t) (b0 : 20 ≤ b) (b1 : b < 30) (hU : bU (mS s) b) (hio : mH s b (s 91 b)) (hPP : ∀ s' e S q F I, 0 ≤ e → e < s 92 (b - 20) → bt (s 87 (s (94 + 1 + (b - 20).toNat) (e))) (s 91 b) = 1 → bDw (mS s) b e S q F I → bDs (mS s) (mS s') b S q F I → am_Fr [86, 87, 89, 90, 91] s s' → (∀ y, s' 87 y = if y = b then 0 else s 87 y) → (∀ x, 0 ≤ x → x < 30 → 0 ≤ s' 89 x ∧ s' 89 x ≤ 2) → PP none (am_hp E s')) : am_wp (d + 2) 49 0 (lv_args 0 [.ref 62, .int (iI b)]) [] (am_hp E s) PP := by
  have n0 := h.st.n0
  have n1 : (mS s).n = s 62 0 := rfl
  have hR : (mS s).rg b = s (94 + 1 + (b - 20).toNat) := mrow_in (by omega) (by omega)
  have mm : 3 ≤ s 92 (b - 20) ∧ s 92 (b - 20) ≤ 20 ∧ s 92 (b - 20) % 2 = 1 := h.st.rm b b0 hU
  have io : 0 ≤ s 91 b ∧ s 91 b < 20 := ⟨hio.1.2.2.1, hio.1.2.2.2⟩
  have rbr : 0 ≤ s 93 (b - 20) ∧ s 93 (b - 20) < s 92 (b - 20) := by
    obtain ⟨z1, z2, -⟩ := (h.nd b hU).2 b0
    exact ⟨z1, z2⟩
  have hg2 : ∀ i, 0 ≤ i → i < s 92 (b - 20) → (0 ≤ s (94 + 1 + (b - 20).toNat) (i) ∧ s (94 + 1 + (b - 20).toNat) (i) < 30) ∧ 0 ≤ s 87 (s (94 + 1 + (b - 20).toNat) (i)) ∧ s 87 (s (94 + 1 + (b - 20).toNat) (i)) < 1048576 := fun i i0 i1 => by
    obtain ⟨v, hv⟩ := h.st.rc b b0 hU i i0 i1
    have r := h.st.hr _ _ hv
    rw [hR] at r
    exact ⟨⟨r.1, r.2.1⟩, h.w1 _ r.1 r.2.1⟩
  have hj : ∃ i, 0 ≤ i ∧ i < s 92 (b - 20) ∧ bt (s 87 (s (94 + 1 + (b - 20).toNat) (i))) (s 91 b) = 1 := by
    obtain ⟨i, i0, i1, z⟩ := (h.st.rh b (s 91 b) b0 hU).mp hio
    rw [hR] at z
    exact ⟨i, i0, i1, z.2⟩
  have hdj : ∀ i j v, 0 ≤ i → i < s 92 (b - 20) → 0 ≤ j → j < s 92 (b - 20) → 0 ≤ v → v < s 62 0 → bt (s 87 (s (94 + 1 + (b - 20).toNat) (i))) v = 1 → bt (s 87 (s (94 + 1 + (b - 20).toNat) (j))) v = 1 → i = j := fun i j v i0 i1 j0 j1 v0 v1 z1 z2 => by
    have r1 := (hg2 i i0 i1).1
    have r2 := (hg2 j j0 j1).1
    refine b_rd h.st b0 hU i0 i1 j0 j1 (v := v) ?_ ?_
    · rw [hR]; exact ⟨⟨r1.1, r1.2, v0, by omega⟩, z1⟩
    · rw [hR]; exact ⟨⟨r2.1, r2.2, v0, by omega⟩, z2⟩
  have hin : ∀ i j, 0 ≤ i → i < s 92 (b - 20) → 0 ≤ j → j < s 92 (b - 20) → s (94 + 1 + (b - 20).toNat) (i) = s (94 + 1 + (b - 20).toNat) (j) → i = j := fun i j i0 i1 j0 j1 z => by
    obtain ⟨v, hv⟩ := h.st.rc b b0 hU i i0 i1
    have hv2 : (mS s).H ((mS s).rg b j) v := by rw [hR] at hv ⊢; rw [← z]; exact hv
    exact b_rd h.st b0 hU i0 i1 j0 j1 hv hv2
  have hLF : (mS s).lf b = s (105 + 1 + (b - 20).toNat) := mrow_in (by omega) (by omega)
  have hLI : (mS s).li b = s (116 + 1 + (b - 20).toNat) := mrow_in (by omega) (by omega)
  obtain ⟨n, en⟩ : ∃ n : Nat, s 92 (b - 20) = n := ⟨(s 92 (b - 20)).toNat, by omega⟩
  refine am_s rfl rfl ?_
  refine s_k 20 rfl rfl ?_
  refine s_isub rfl ?_
  refine am_s rfl rfl ?_
  refine am_s rfl rfl ?_
  refine s_gr rfl g rfl rfl ?_
  refine am_s rfl rfl ?_
  refine s_ia rfl g rfl ⟨by omega, by omega⟩ (by decide) ?_
  refine am_s rfl rfl ?_
  refine am_s rfl rfl ?_
  refine am_s rfl rfl ?_
  refine am_s rfl rfl ?_
  refine s_gr rfl g rfl rfl ?_
  refine am_s rfl rfl ?_
  refine s_ia rfl g rfl ⟨by omega, by omega⟩ (by decide) ?_
  refine s_cv [_, _] [] rfl g (Or.inl rfl) rfl rfl (Nat.le_of_ble_eq_true rfl) rfl rfl (t_placeInRing (PP := fun rv h => ∃ e : Int, rv = some (.int (iI e)) ∧ h = am_hp E s ∧ 0 ≤ e ∧ e < s 92 (b - 20) ∧ bt (s 87 (s (94 + 1 + (b - 20).toNat) (e))) (s 91 b) = 1) g ⟨by omega, by omega⟩ io ⟨by omega, by omega⟩ hg2 hj (fun e a b c => ⟨e, rfl, rfl, a, b, c⟩)) ?_
  rintro rv h1 ⟨e, rfl, rfl, e0, e1, ee⟩
  refine am_s rfl rfl ?_
  refine s_k 0 rfl rfl ?_
  refine am_s rfl rfl ?_
  refine am_lv [(5, .int (iI (((0 : Nat) : Int) : Int))), (4, .int (iI e)), (3, .int (iI (s 92 (b - 20)))), (2, .int (iI (b - 20))), (1, .int (iI b)), (0, .ref 62)] rfl rfl ⟨rfl, rfl, rfl, rfl, rfl, rfl, trivial⟩ ?_
  refine s_loop (X := Unit) (fun k _ s' => am_Fr [86, 89] s s' ∧ (∀ i, 0 ≤ i → i < (k : Int) → s' 89 (s (94 + 1 + (b - 20).toNat) (i)) = 0) ∧ (∀ y, (∀ i, 0 ≤ i → i < (k : Int) → s (94 + 1 + (b - 20).toNat) (i) ≠ y) → s' 89 y = s 89 y) ∧ (∀ i v, 0 ≤ i → i < (k : Int) → 0 ≤ v → v < s 62 0 → bt (s 87 (s (94 + 1 + (b - 20).toNat) (i))) v = 1 → s' 86 v = s (94 + 1 + (b - 20).toNat) (i)) ∧ ∀ v, (∀ i, 0 ≤ i → i < (k : Int) → ¬ (0 ≤ v ∧ v < s 62 0 ∧ bt (s 87 (s (94 + 1 + (b - 20).toNat) (i))) v = 1)) → s' 86 v = s 86 v) (fun k _ => [(5, .int (iI (k : Int))), (4, .int (iI e)), (3, .int (iI (s 92 (b - 20)))), (2, .int (iI (b - 20))), (1, .int (iI b)), (0, .ref 62)]) (hi := n) (x := ()) (Nat.zero_le n) ⟨am_Fr_r _ _, fun i i0 i1 => by omega, fun y _ => rfl, fun i v i0 i1 => by omega, fun v _ => rfl⟩ ?_ ?_
  · rintro k - s1 hk0 hk1 ⟨hF1, hA, hB, hC, hD⟩ kk
    simp only at kk ⊢
    have eR : s1 (94 + 1 + (b - 20).toNat) = s (94 + 1 + (b - 20).toNat) := hF1 _ (fun z => by simp at z; omega)
    have gk := hg2 k (by omega) (by omega)
    refine am_s rfl rfl ?_
    refine am_s rfl rfl ?_
    refine s_cge rfl ⟨by omega, by omega⟩ ⟨by omega, by omega⟩ (fun c1 => absurd c1 (by omega)) (fun c1 => ?_)
    refine am_s rfl rfl ?_
    refine s_gr rfl g rfl rfl ?_
    refine am_s rfl rfl ?_
    refine s_gr rfl g rfl rfl ?_
    refine am_s rfl rfl ?_
    refine s_aa rfl g rfl ⟨by omega, by omega⟩ (by decide) ?_
    refine am_s rfl rfl ?_
    refine s_ia rfl g (lo_94 (by omega) (by omega)) ⟨by omega, by omega⟩ (by decide) ?_
    rw [eR]
    refine s_k 0 rfl rfl ?_
    refine s_is rfl g rfl ⟨by omega, by omega⟩ (by decide) ?_
    refine am_s rfl rfl ?_
    refine am_s rfl rfl ?_
    refine s_gr rfl g rfl rfl ?_
    refine am_s rfl rfl ?_
    refine s_aa rfl g rfl ⟨by omega, by omega⟩ (by decide) ?_
    refine am_s rfl rfl ?_
    refine s_ia rfl g (lo_94 (by omega) (by omega)) ⟨by omega, by omega⟩ (by decide) ?_
    generalize hs2 : am_w s1 89 (s (94 + 1 + (b - 20).toNat) (k)) 0 = s2
    have q87 : s2 87 = s 87 := by rw [← hs2, am_w_row (by decide), hF1 87 (by decide)]
    have q62 : s2 62 = s 62 := by rw [← hs2, am_w_row (by decide), hF1 62 (by decide)]
    have q86 : s2 86 = s1 86 := by rw [← hs2, am_w_row (by decide)]
    have q89 : ∀ y, s2 89 y = if y = s (94 + 1 + (b - 20).toNat) (k) then 0 else s1 89 y := fun y => by
      rw [← hs2]
      by_cases c : y = s (94 + 1 + (b - 20).toNat) (k)
      · rw [c, am_w_eq, if_pos rfl]
      · rw [am_w_x c, if_neg c]
    have qF : am_Fr [86, 89] s s2 := by rw [← hs2]; exact am_Fr_W hF1 (by decide)
    rw [qF (94 + 1 + (b - 20).toNat) (fun z => by simp at z; omega)]
    refine s_cv [_] [] rfl g (Or.inl rfl) rfl rfl (Nat.le_of_ble_eq_true rfl) rfl rfl (t_putOnTop (s := s2) g (by rw [q62]; exact n0) gk.1 (by rw [q87]; exact gk.2)) ?_
    rintro rv h1 ⟨rfl, s3, rfl, hF3, ht3⟩
    rw [q87, q62, q86] at ht3
    refine s_inc rfl rfl ?_
    refine am_s rfl rfl ?_
    refine am_lv [(5, _), (4, _), (3, _), (2, _), (1, _), (0, _)] rfl rfl ⟨rfl, rfl, rfl, rfl, rfl, rfl, trivial⟩ ?_
    have z89 : s3 89 = s2 89 := hF3 89 (by decide)
    refine kk () _ ⟨am_Fr_u qF (am_Fr_m hF3 (by decide)), fun i i0 i1 => ?_, fun y hy => ?_, fun i v i0 i1 v0 v1 hv => ?_, fun v hv => ?_⟩
    · rw [z89, q89]
      by_cases c : s (94 + 1 + (b - 20).toNat) (i) = s (94 + 1 + (b - 20).toNat) (k)
      · rw [if_pos c]
      · rw [if_neg c]; exact hA i i0 (by
          rcases Int.lt_or_le i k with z | z
          · exact z
          · exact absurd (by rw [show i = (k : Int) by omega]) c)
    · rw [z89, q89, if_neg (fun z => hy k (by omega) (by omega) z.symm)]; exact hB y (fun i i0 i1 => hy i i0 (by omega))
    · rw [ht3 v]
      by_cases c : i = (k : Int)
      · rw [c] at hv ⊢; rw [if_pos ⟨v0, v1, hv⟩]
      · rw [if_neg (fun z => c (hdj i k v i0 (by omega) (by omega) (by omega) v0 v1 hv z.2.2))]; exact hC i v i0 (by omega) v0 v1 hv
    · rw [ht3 v, if_neg (hv k (by omega) (by omega))]; exact hD v (fun i i0 i1 => hv i i0 (by omega))
  · rintro - s1 ⟨hF1, hA, hB, hC, hD⟩
    simp only
    rw [← en] at hA hB hC hD
    have eR : s1 (94 + 1 + (b - 20).toNat) = s (94 + 1 + (b - 20).toNat) := hF1 _ (fun z => by simp at z; omega)
    have e90 : s1 90 = s 90 := hF1 90 (by decide)
    have e91 : s1 91 = s 91 := hF1 91 (by decide)
    have ge := hg2 e e0 e1
    refine am_s rfl rfl ?_
    refine am_s rfl rfl ?_
    refine s_cge rfl ⟨by omega, by omega⟩ ⟨by omega, by omega⟩ (fun c1 => ?_) (fun c1 => absurd c1 (by omega))
    refine am_s rfl rfl ?_
    refine am_s rfl rfl ?_
    refine s_gr rfl g rfl rfl ?_
    refine am_s rfl rfl ?_
    refine s_aa rfl g rfl ⟨by omega, by omega⟩ (by decide) ?_
    refine am_s rfl rfl ?_
    refine s_ia rfl g (lo_94 (by omega) (by omega)) ⟨by omega, by omega⟩ (by decide) ?_
    refine am_s rfl rfl ?_
    refine s_gr rfl g rfl rfl ?_
    refine am_s rfl rfl ?_
    refine s_ia rfl g rfl ⟨by omega, by omega⟩ (by decide) ?_
    refine am_s rfl rfl ?_
    refine s_gr rfl g rfl rfl ?_
    refine am_s rfl rfl ?_
    refine s_ia rfl g rfl ⟨by omega, by omega⟩ (by decide) ?_
    rw [e91, e90, eR]
    refine s_cv [_, _, _] [] rfl g (Or.inl rfl) rfl rfl (Nat.le_of_ble_eq_true rfl) rfl rfl (t_annexIn (s := s1) g ge.1) ?_
    rintro rv h1 ⟨rfl, rfl⟩
    generalize hs2 : am_w (am_w (am_w s1 89 (s (94 + 1 + (b - 20).toNat) (e)) 2) 90 (s (94 + 1 + (b - 20).toNat) (e)) (s 90 b)) 91 (s (94 + 1 + (b - 20).toNat) (e)) (s 91 b) = s2
    have hF2 : am_Fr [89, 90, 91] s1 s2 := by
      rw [← hs2]
      exact am_Fr_W (am_Fr_W (am_Fr_w (by decide)) (by decide)) (by decide)
    have hF12 : am_Fr [86, 89, 90, 91] s s2 := am_Fr_u (am_Fr_m hF1 (by decide)) (am_Fr_m hF2 (by decide))
    have w89 : ∀ y, s2 89 y = if y = s (94 + 1 + (b - 20).toNat) (e) then 2 else s1 89 y := fun y => by
      rw [← hs2, am_w_row (by decide), am_w_row (by decide)]
      by_cases c : y = s (94 + 1 + (b - 20).toNat) (e)
      · rw [c, am_w_eq, if_pos rfl]
      · rw [am_w_x c, if_neg c]
    have w90 : ∀ y, s2 90 y = if y = s (94 + 1 + (b - 20).toNat) (e) then s 90 b else s 90 y := fun y => by
      rw [← hs2, am_w_row (by decide)]
      by_cases c : y = s (94 + 1 + (b - 20).toNat) (e)
      · rw [c, am_w_eq, if_pos rfl]
      · rw [am_w_x c, if_neg c, am_w_row (by decide), e90]
    have w91 : ∀ y, s2 91 y = if y = s (94 + 1 + (b - 20).toNat) (e) then s 91 b else s 91 y := fun y => by
      rw [← hs2]
      by_cases c : y = s (94 + 1 + (b - 20).toNat) (e)
      · rw [c, am_w_eq, if_pos rfl]
      · rw [am_w_x c, if_neg c, am_w_row (by decide), am_w_row (by decide), e91]
    have r92 : s2 92 = s 92 := hF12 92 (by decide)
    have r93 : s2 93 = s 93 := hF12 93 (by decide)
    have rR : s2 (94 + 1 + (b - 20).toNat) = s (94 + 1 + (b - 20).toNat) := hF12 _ (fun z => by simp at z; omega)
    have rF : s2 (105 + 1 + (b - 20).toNat) = s (105 + 1 + (b - 20).toNat) := hF12 _ (fun z => by simp at z; omega)
    have rI : s2 (116 + 1 + (b - 20).toNat) = s (116 + 1 + (b - 20).toNat) := hF12 _ (fun z => by simp at z; omega)
    have c93 : s2 93 (b - 20) = s 93 (b - 20) := by rw [r93]
    have jj : am_wp (d + 2) 49 121 [(5, .int (iI (e - s 93 (b - 20) + (if e < s 93 (b - 20) then s 92 (b - 20) else 0)))), (4, .int (iI e)), (3, .int (iI (s 92 (b - 20)))), (2, .int (iI (b - 20))), (1, .int (iI b)), (0, .ref 62)] [] (am_hp E s2) PP := by
      have hb0 : 0 ≤ e - s 93 (b - 20) + (if e < s 93 (b - 20) then s 92 (b - 20) else 0) ∧ e - s 93 (b - 20) + (if e < s 93 (b - 20) then s 92 (b - 20) else 0) < s 92 (b - 20) := by split <;> omega
      generalize hBB : e - s 93 (b - 20) + (if e < s 93 (b - 20) then s 92 (b - 20) else 0) = B at *
      refine am_s rfl rfl ?_
      refine s_k 2 rfl rfl ?_
      refine s_irem rfl ⟨by omega, by omega⟩ ⟨by omega, by omega⟩ ?_
      refine s_zne rfl ⟨by omega, by omega⟩ (fun c1 => ?_) (fun c1 => ?_)
      · refine am_s rfl rfl ?_
        refine am_s rfl rfl ?_
        refine am_s rfl rfl ?_
        refine am_s rfl rfl ?_
        refine am_s rfl rfl ?_
        refine s_isub rfl ?_
        obtain ⟨K, eK⟩ : ∃ K : Nat, s 92 (b - 20) - B = 2 * (K : Int) := ⟨((s 92 (b - 20) - B) / 2).toNat, by omega⟩
        rw [eK]
        refine s_cv [_, _, _] [] rfl g (Or.inl rfl) rfl rfl (Nat.le_of_ble_eq_true rfl) rfl rfl (t_keepWayOn (s := s2) (K := K) g ⟨by omega, by omega⟩ (by rw [r92]; exact ⟨e0, e1⟩) (by rw [r92]; omega) (by rw [r92]; omega) (by rw [r92, rR]; exact fun i i0 i1 => (hg2 i i0 i1).1) (by rw [r92, rR]; exact hin)) ?_
        rintro rv h1 ⟨rfl, s3, rfl, hF3, hM3, hV3, hO3⟩
        simp only [r92, rR, rF, rI] at hM3 hV3 hO3
        refine am_s rfl rfl ?_
        refine s_gr rfl g rfl rfl ?_
        refine am_s rfl rfl ?_
        refine s_k 0 rfl rfl ?_
        refine s_is rfl g rfl ⟨by omega, by omega⟩ (by decide) ?_
        have qr : ∀ j, 0 ≤ j → j ≤ (2 * (K : Int)) → 0 ≤ qO (s 92 (b - 20)) e j ∧ qO (s 92 (b - 20)) e j < s 92 (b - 20) := fun j j0 j1 => by unfold qO; split <;> omega
        have qd : ∀ j, 1 ≤ j → j ≤ (2 * (K : Int)) → s (94 + 1 + (b - 20).toNat) (qO (s 92 (b - 20)) e j) ≠ s (94 + 1 + (b - 20).toNat) (qO (s 92 (b - 20)) e 0) := fun j j0 j1 z => by
          have z2 := hin _ _ (qr j (by omega) j1).1 (qr j (by omega) j1).2 (qr 0 (by omega) (by omega)).1 (qr 0 (by omega) (by omega)).2 z
          unfold qO at z2
          (repeat' split at z2) <;> omega
        have q0 : qO (s 92 (b - 20)) e 0 = e := by unfold qO; split <;> omega
        generalize hs4 : am_w s3 87 b 0 = s4
        have hF4 : am_Fr [87] s3 s4 := by rw [← hs4]; exact am_Fr_w (by decide)
        have e4 : ∀ a, a ≠ 87 → s4 a = s3 a := fun a z => hF4 a (fun y => z (List.mem_singleton.mp y))
        have hFa : am_Fr [86, 87, 89, 90, 91] s s4 := am_Fr_u (am_Fr_m hF12 (by decide)) (am_Fr_u (am_Fr_m hF3 (by decide)) (am_Fr_m hF4 (by decide)))
        have z86 : s4 86 = s1 86 := by rw [e4 86 (by decide), hF3 86 (by decide), hF2 86 (by decide)]
        have h87 : ∀ y, s4 87 y = if y = b then 0 else s 87 y := fun y => by
          rw [← hs4]
          by_cases c : y = b
          · rw [c, am_w_eq, if_pos rfl]
          · rw [am_w_x c, if_neg c, hF3 87 (by decide), hF2 87 (by decide), hF1 87 (by decide)]
        have ds : bDs (mS s) (mS s4) b (2 * (K : Int)) (qO (s 92 (b - 20)) e) (fun j => s (105 + 1 + (b - 20).toNat) (qO (s 92 (b - 20)) e (j - 1))) (fun j => s (116 + 1 + (b - 20).toNat) (qO (s 92 (b - 20)) e (j - 1))) := by
          refine mDs_mk ⟨b0, b1⟩ h.st hU hFa h87 (by rw [z86]; exact hC) (by rw [z86]; exact hD) (fun j j0 j1 => ?_) (fun i i0 i1 hj => ?_) (fun y hy => ?_) ?_ (fun j j0 j1 je => ?_)
          · rw [e4 89 (by decide)]
            by_cases c : j = 0
            · rw [c, (hO3 _ (fun l l0 l1 => qd l l0 l1)).1, w89, q0, if_pos rfl, if_pos (by decide)]
            · exact hM3 j (by omega) j1
          · rw [e4 89 (by decide), (hO3 _ (fun l l0 l1 z => hj l (by omega) l1 (hin _ _ (qr l (by omega) l1).1 (qr l (by omega) l1).2 i0 i1 z))).1, w89, if_neg (fun z => hj 0 (by omega) (by omega) (by rw [q0]; exact (hin _ _ i0 i1 e0 e1 z).symm))]; exact hA i i0 i1
          · have z := hO3 y (fun l l0 l1 => hy _ (qr l (by omega) l1).1 (qr l (by omega) l1).2)
            rw [e4 89 (by decide), e4 90 (by decide), e4 91 (by decide), z.1, z.2.1, z.2.2, w89, w90, w91, if_neg (fun c => hy e e0 e1 c.symm), if_neg (fun c => hy e e0 e1 c.symm), if_neg (fun c => hy e e0 e1 c.symm)]
            exact ⟨hB y hy, rfl, rfl⟩
          · have z := hO3 (s (94 + 1 + (b - 20).toNat) (qO (s 92 (b - 20)) e 0)) (fun l l0 l1 => qd l l0 l1)
            rw [e4 90 (by decide), e4 91 (by decide), z.2.1, z.2.2, w90, w91, q0, if_pos rfl, if_pos rfl]; exact ⟨rfl, rfl⟩
          · rw [e4 90 (by decide), e4 91 (by decide)]; exact hV3 j j0 j1 je
        have wb := b_won h.st h.nd hDu b0 hU e0 e1 (by show (e - s 93 (b - 20) + (if e < s 93 (b - 20) then s 92 (b - 20) else 0)) % 2 ≠ 0; rw [hBB]; omega)
        rw [hLI, hLF, show (mS s).rs b - (e - (mS s).rb b + (if e < (mS s).rb b then (mS s).rs b else 0)) = 2 * (K : Int) from by show s 92 (b - 20) - (e - s 93 (b - 20) + (if e < s 93 (b - 20) then s 92 (b - 20) else 0)) = 2 * (K : Int); rw [hBB]; exact eK] at wb
        refine am_r rfl rfl (hPP s4 e (2 * (K : Int)) (qO (s 92 (b - 20)) e) (fun j => s (105 + 1 + (b - 20).toNat) (qO (s 92 (b - 20)) e (j - 1))) (fun j => s (116 + 1 + (b - 20).toNat) (qO (s 92 (b - 20)) e (j - 1))) e0 e1 ee wb ds hFa h87 (fun x x0 x1 => ?_))
        rw [e4 89 (by decide)]
        by_cases c : ∃ j, 1 ≤ j ∧ j ≤ (2 * (K : Int)) ∧ s (94 + 1 + (b - 20).toNat) (qO (s 92 (b - 20)) e j) = x
        · obtain ⟨j, j0, j1, rfl⟩ := c
          rw [hM3 j j0 j1]; split <;> omega
        · rw [(hO3 x (fun j j0 j1 z => c ⟨j, j0, j1, z⟩)).1, w89]
          split
          · omega
          · by_cases c2 : ∃ i, 0 ≤ i ∧ i < s 92 (b - 20) ∧ s (94 + 1 + (b - 20).toNat) (i) = x
            · obtain ⟨i, i0, i1, rfl⟩ := c2
              rw [hA i i0 i1]; omega
            · rw [hB x (fun i i0 i1 z => c2 ⟨i, i0, i1, z⟩)]; exact h.w2 x x0 x1
      · refine am_s rfl rfl ?_
        refine am_s rfl rfl ?_
        refine am_s rfl rfl ?_
        refine am_s rfl rfl ?_
        obtain ⟨K, eK⟩ : ∃ K : Nat, B = 2 * (K : Int) := ⟨((B) / 2).toNat, by omega⟩
        rw [eK]
        refine s_cv [_, _, _] [] rfl g (Or.inl rfl) rfl rfl (Nat.le_of_ble_eq_true rfl) rfl rfl (t_keepWayBack (s := s2) (K := K) g ⟨by omega, by omega⟩ (by rw [r92]; exact ⟨e0, e1⟩) (by rw [r92]; omega) (by rw [r92]; omega) (by rw [r92, rR]; exact fun i i0 i1 => (hg2 i i0 i1).1) (by rw [r92, rR]; exact hin)) ?_
        rintro rv h1 ⟨rfl, s3, rfl, hF3, hM3, hV3, hO3⟩
        simp only [r92, rR, rF, rI] at hM3 hV3 hO3
        refine am_s rfl rfl ?_
        refine am_s rfl rfl ?_
        refine s_gr rfl g rfl rfl ?_
        refine am_s rfl rfl ?_
        refine s_k 0 rfl rfl ?_
        refine s_is rfl g rfl ⟨by omega, by omega⟩ (by decide) ?_
        have qr : ∀ j, 0 ≤ j → j ≤ (2 * (K : Int)) → 0 ≤ qB (s 92 (b - 20)) e j ∧ qB (s 92 (b - 20)) e j < s 92 (b - 20) := fun j j0 j1 => by unfold qB; split <;> omega
        have qd : ∀ j, 1 ≤ j → j ≤ (2 * (K : Int)) → s (94 + 1 + (b - 20).toNat) (qB (s 92 (b - 20)) e j) ≠ s (94 + 1 + (b - 20).toNat) (qB (s 92 (b - 20)) e 0) := fun j j0 j1 z => by
          have z2 := hin _ _ (qr j (by omega) j1).1 (qr j (by omega) j1).2 (qr 0 (by omega) (by omega)).1 (qr 0 (by omega) (by omega)).2 z
          unfold qB at z2
          (repeat' split at z2) <;> omega
        have q0 : qB (s 92 (b - 20)) e 0 = e := by unfold qB; split <;> omega
        generalize hs4 : am_w s3 87 b 0 = s4
        have hF4 : am_Fr [87] s3 s4 := by rw [← hs4]; exact am_Fr_w (by decide)
        have e4 : ∀ a, a ≠ 87 → s4 a = s3 a := fun a z => hF4 a (fun y => z (List.mem_singleton.mp y))
        have hFa : am_Fr [86, 87, 89, 90, 91] s s4 := am_Fr_u (am_Fr_m hF12 (by decide)) (am_Fr_u (am_Fr_m hF3 (by decide)) (am_Fr_m hF4 (by decide)))
        have z86 : s4 86 = s1 86 := by rw [e4 86 (by decide), hF3 86 (by decide), hF2 86 (by decide)]
        have h87 : ∀ y, s4 87 y = if y = b then 0 else s 87 y := fun y => by
          rw [← hs4]
          by_cases c : y = b
          · rw [c, am_w_eq, if_pos rfl]
          · rw [am_w_x c, if_neg c, hF3 87 (by decide), hF2 87 (by decide), hF1 87 (by decide)]
        have ds : bDs (mS s) (mS s4) b (2 * (K : Int)) (qB (s 92 (b - 20)) e) (fun j => s (116 + 1 + (b - 20).toNat) (qB (s 92 (b - 20)) e j)) (fun j => s (105 + 1 + (b - 20).toNat) (qB (s 92 (b - 20)) e j)) := by
          refine mDs_mk ⟨b0, b1⟩ h.st hU hFa h87 (by rw [z86]; exact hC) (by rw [z86]; exact hD) (fun j j0 j1 => ?_) (fun i i0 i1 hj => ?_) (fun y hy => ?_) ?_ (fun j j0 j1 je => ?_)
          · rw [e4 89 (by decide)]
            by_cases c : j = 0
            · rw [c, (hO3 _ (fun l l0 l1 => qd l l0 l1)).1, w89, q0, if_pos rfl, if_pos (by decide)]
            · exact hM3 j (by omega) j1
          · rw [e4 89 (by decide), (hO3 _ (fun l l0 l1 z => hj l (by omega) l1 (hin _ _ (qr l (by omega) l1).1 (qr l (by omega) l1).2 i0 i1 z))).1, w89, if_neg (fun z => hj 0 (by omega) (by omega) (by rw [q0]; exact (hin _ _ i0 i1 e0 e1 z).symm))]; exact hA i i0 i1
          · have z := hO3 y (fun l l0 l1 => hy _ (qr l (by omega) l1).1 (qr l (by omega) l1).2)
            rw [e4 89 (by decide), e4 90 (by decide), e4 91 (by decide), z.1, z.2.1, z.2.2, w89, w90, w91, if_neg (fun c => hy e e0 e1 c.symm), if_neg (fun c => hy e e0 e1 c.symm), if_neg (fun c => hy e e0 e1 c.symm)]
            exact ⟨hB y hy, rfl, rfl⟩
          · have z := hO3 (s (94 + 1 + (b - 20).toNat) (qB (s 92 (b - 20)) e 0)) (fun l l0 l1 => qd l l0 l1)
            rw [e4 90 (by decide), e4 91 (by decide), z.2.1, z.2.2, w90, w91, q0, if_pos rfl, if_pos rfl]; exact ⟨rfl, rfl⟩
          · rw [e4 90 (by decide), e4 91 (by decide)]; exact hV3 j j0 j1 je
        have wb := b_wback h.st h.nd hDu b0 hU e0 e1 (by show (e - s 93 (b - 20) + (if e < s 93 (b - 20) then s 92 (b - 20) else 0)) % 2 = 0; rw [hBB]; omega)
        rw [hLI, hLF, show e - (mS s).rb b + (if e < (mS s).rb b then (mS s).rs b else 0) = 2 * (K : Int) from hBB.trans eK] at wb
        refine am_r rfl rfl (hPP s4 e (2 * (K : Int)) (qB (s 92 (b - 20)) e) (fun j => s (116 + 1 + (b - 20).toNat) (qB (s 92 (b - 20)) e j)) (fun j => s (105 + 1 + (b - 20).toNat) (qB (s 92 (b - 20)) e j)) e0 e1 ee wb ds hFa h87 (fun x x0 x1 => ?_))
        rw [e4 89 (by decide)]
        by_cases c : ∃ j, 1 ≤ j ∧ j ≤ (2 * (K : Int)) ∧ s (94 + 1 + (b - 20).toNat) (qB (s 92 (b - 20)) e j) = x
        · obtain ⟨j, j0, j1, rfl⟩ := c
          rw [hM3 j j0 j1]; split <;> omega
        · rw [(hO3 x (fun j j0 j1 z => c ⟨j, j0, j1, z⟩)).1, w89]
          split
          · omega
          · by_cases c2 : ∃ i, 0 ≤ i ∧ i < s 92 (b - 20) ∧ s (94 + 1 + (b - 20).toNat) (i) = x
            · obtain ⟨i, i0, i1, rfl⟩ := c2
              rw [hA i i0 i1]; omega
            · rw [hB x (fun i i0 i1 z => c2 ⟨i, i0, i1, z⟩)]; exact h.w2 x x0 x1
    refine am_s rfl rfl ?_
    refine am_s rfl rfl ?_
    refine s_gr rfl g rfl rfl ?_
    refine am_s rfl rfl ?_
    refine s_ia rfl g rfl ⟨by omega, by omega⟩ (by decide) ?_
    refine s_isub rfl ?_
    refine am_s rfl rfl ?_
    refine am_s rfl rfl ?_
    refine s_gr rfl g rfl rfl ?_
    refine am_s rfl rfl ?_
    refine s_ia rfl g rfl ⟨by omega, by omega⟩ (by decide) ?_
    refine s_cge rfl ⟨by omega, by omega⟩ ⟨by omega, by omega⟩ (fun c2 => ?_) (fun c2 => ?_)
    · refine s_k 0 rfl rfl ?_
      refine s_iadd rfl ?_
      refine am_s rfl rfl ?_
      have e5 : e - s 93 (b - 20) + (if e < s 93 (b - 20) then s 92 (b - 20) else 0) = e - s2 93 (b - 20) + 0 := by split <;> omega
      refine am_lv [(5, .int (iI (e - s 93 (b - 20) + (if e < s 93 (b - 20) then s 92 (b - 20) else 0)))), (4, .int (iI e)), (3, .int (iI (s 92 (b - 20)))), (2, .int (iI (b - 20))), (1, .int (iI b)), (0, .ref 62)] rfl rfl ⟨by rw [e5]; rfl, rfl, rfl, rfl, rfl, rfl, trivial⟩ ?_
      exact jj
    · refine am_s rfl rfl ?_
      refine am_s rfl rfl ?_
      refine s_iadd rfl ?_
      refine am_s rfl rfl ?_
      have e5 : e - s 93 (b - 20) + (if e < s 93 (b - 20) then s 92 (b - 20) else 0) = e - s2 93 (b - 20) + s 92 (b - 20) := by split <;> omega
      refine am_lv [(5, .int (iI (e - s 93 (b - 20) + (if e < s 93 (b - 20) then s 92 (b - 20) else 0)))), (4, .int (iI e)), (3, .int (iI (s 92 (b - 20)))), (2, .int (iI (b - 20))), (1, .int (iI b)), (0, .ref 62)] rfl rfl ⟨by rw [e5]; rfl, rfl, rfl, rfl, rfl, rfl, trivial⟩ ?_
      exact jj
