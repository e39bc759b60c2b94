/-! the matcher solves -/
theorem bnf_c {s s' : am_S} (h0 : s' 62 0 = s 62 0) (h : s' 85 = s 85) : bnf (mS s') = bnf (mS s) := by
  unfold bnf
  show mt_s (fun k => if s' 85 (k : Int) = -1 then (1 : Int) else 0) (s' 62 0).toNat = mt_s (fun k => if s 85 (k : Int) = -1 then (1 : Int) else 0) (s 62 0).toNat
  rw [h0, h]
theorem mQ_pre {s : am_S} {t : Int} (h : mQ s t) : ∀ x, 0 ≤ x → x < 30 → s 87 x ≠ 0 → ((0 ≤ s 88 x ∧ s 88 x < 20) ∧ (0 ≤ s 86 (s 88 x) ∧ s 86 (s 88 x) < 30)) ∧ -1 ≤ s 85 (s 88 x) ∧ s 85 (s 88 x) < 20 := fun x x0 x1 hx => by
  have b := mB_base h.st h.nd h.w1 x0 x1 hx
  have m := mB_mate h.st h.ma b.1.1 b.2.2
  exact ⟨⟨b.1, b.2.1⟩, m.1, m.2.1⟩
theorem bpt_50 {S : bS} (h : bStr S) : 0 ≤ bpt S ∧ bpt S ≤ 50 := by
  have a := bno_20 h
  have b := bnb_10 (S := S)
  unfold bpt
  omega
set_option maxHeartbeats 8000000 in
theorem t_solve {d : Nat} {E : am_Ev} {s : am_S} {n : Int} {PP : Option Value → am_H → Prop} (g : am_Eg E) (hn : 0 ≤ n ∧ n ≤ 20) (he : n % 2 = 0) (hC : mC (am_w s 62 0 n)) (hPP : ∀ s' t, mQ s' t → (0 < n → (∀ M, (∀ v w, 0 ≤ v → v < n → 0 ≤ w → w < n → v ≠ w → (mS (am_w s 62 0 n)).C v w ≤ M) → 2 * t ≤ M)) → (∀ v, 0 ≤ v → v < n → s' 85 v ≠ -1) → mFr (am_w s 62 0 n) s' → PP none (am_hp E s')) : am_wp (d + 12 + 1) 26 0 (lv_args 0 [.ref 62, .int (iI n)]) [] (am_hp E s) PP := by
  obtain ⟨N, eN⟩ : ∃ N : Nat, n = 2 * (N : Int) := ⟨(n / 2).toNat, by omega⟩
  refine am_s rfl rfl ?_
  refine am_s rfl rfl ?_
  refine s_pi (x := 0) rfl g rfl rfl rfl rfl ?_
  refine am_s rfl rfl ?_
  refine s_cv [] [] rfl g (Or.inl rfl) rfl rfl (Nat.le_of_ble_eq_true rfl) rfl rfl (t_startOver (PP := fun rv h => rv = none ∧ ∃ s' t, h = am_hp E s' ∧ mQ s' t ∧ bnf (mS s') = n ∧ mFr (am_w s 62 0 n) s') g hC (fun f s' a1 a2 a3 a4 a5 => ⟨rfl, s', f / 2, rfl, (mQ_start hC a1 a2 a3 a4 a5).1, by have := (mQ_start hC a1 a2 a3 a4 a5).2; rw [am_w_eq] at this; exact this, ⟨fun q hq => a3 q (fun z => by simp at z; omega), by rw [a3 62 (by decide)]⟩⟩)) ?_
  rintro rv h1 ⟨rfl, s1, t1, rfl, hQ1, hn1, hF1⟩
  refine s_k 0 rfl rfl ?_
  refine am_s rfl rfl ?_
  refine am_lv [(2, .int (iI (((0 : Nat) : Int) : Int))), (0, .ref 62)] rfl rfl ⟨rfl, rfl, trivial⟩ ?_
  refine s_loop (X := Unit) (fun k _ s' => ∃ t, mQ s' t ∧ mFr (am_w s 62 0 n) s' ∧ bnf (mS s') = n - 2 * (k : Int) ∧ (0 < k → (∀ M, (∀ v w, 0 ≤ v → v < n → 0 ≤ w → w < n → v ≠ w → (mS (am_w s 62 0 n)).C v w ≤ M) → 2 * t ≤ M))) (fun k _ => [(2, .int (iI (k : Int))), (0, .ref 62)]) (hi := N) (x := ()) (Nat.zero_le N) ⟨t1, hQ1, hF1, by omega, fun z => absurd z (Nat.lt_irrefl 0)⟩ ?_ ?_
  · rintro k - s1 hk0 hk1 ⟨t, hQ, hF, hnf, -⟩ kk
    simp only at kk ⊢
    have e62 : s1 62 0 = n := by rw [hF.2, am_w_eq]
    have j61 : ∀ (s3 : am_S) (rk3 : Int → Int) (t3 : Int), mI s3 rk3 t3 → mFr (am_w s 62 0 n) s3 → bnf (mS s3) = n - 2 * (k : Int) → mJn s3 → am_wp (d + 12 + 1) 26 61 [(2, .int (iI (k : Int))), (0, .ref 62)] [] (am_hp E s3) PP := by
      intro s3 rk3 t3 hI hF3 nf3 hJ
      refine am_s rfl rfl ?_
      refine am_s rfl rfl ?_
      refine s_gi (x := 2) rfl g rfl rfl rfl ?_
      refine am_s rfl rfl ?_
      refine s_gi (x := 3) rfl g rfl rfl rfl ?_
      obtain ⟨ha, hb, hma, hmb, hab, hs, hap⟩ := id hJ
      have oa : bOut (mS s3) (s3 86 (s3 62 2)) := ⟨s3 62 2, ha.1, ha.2, rfl, hma⟩
      have ob : bOut (mS s3) (s3 86 (s3 62 3)) := ⟨s3 62 3, hb.1, hb.2, rfl, hmb⟩
      refine s_cv [_, _] [] rfl g (Or.inl rfl) rfl rfl (Nat.le_of_ble_eq_true rfl) rfl rfl (t_flipWay (s := s3) (s0 := s3) (Ex := fun w => w = s3 62 2) (P := fun _ => False) (tt := s3 62 3) (PP := fun rv h => rv = none ∧ ∃ P' s', h = am_hp E s' ∧ mFE s3 s' (fun w => w = s3 62 2) (fun _ => False) P' (s3 62 2) (s3 62 3)) g hI.b hI.du.lk hI.du.sy (am_Fr_r _ _) (bFI_0 hI.b.nd ha.1 ha.2 hma) (fun P' s' z => ⟨rfl, P', s', rfl, z⟩)) ?_
      rintro rv h1 ⟨rfl, P1, s4, rfl, hE4⟩
      have f4 := hE4.1
      have e462 : s4 62 = s3 62 := f4 62 (by decide)
      refine am_s rfl rfl ?_
      refine am_s rfl rfl ?_
      refine s_gi (x := 3) rfl g rfl rfl rfl ?_
      rw [show s4 62 3 = s3 62 3 by rw [e462]]
      refine am_s rfl rfl ?_
      refine s_gi (x := 2) rfl g rfl rfl rfl ?_
      rw [show s4 62 2 = s3 62 2 by rw [e462]]
      have dj : ∀ y, P1 y → ¬ bOn (mS s3) (s3 86 (s3 62 3)) y := fun y hy z => by
        rcases hE4.2.2.2.1 y hy with q | q
        · exact q
        · exact b_apart hI.b.st hI.b.nd hI.b.ma hI.b.tr oa ob hap q z
      refine s_cv [_, _] [] rfl g (Or.inl rfl) rfl rfl (Nat.le_of_ble_eq_true rfl) rfl rfl (t_flipWay (s := s3) (s0 := s4) (Ex := fun _ => False) (P := P1) (tt := 0) (PP := fun rv h => rv = none ∧ ∃ P' s', h = am_hp E s' ∧ mFE s3 s' (fun _ => False) P1 P' (s3 62 3) 0) g hI.b hI.du.lk hI.du.sy f4 (bFI_1 hE4.2.1 hI.b.st ha.1 ha.2 hb.1 hb.2 hmb dj hs) (fun P' s' z => ⟨rfl, P', s', rfl, z⟩)) ?_
      rintro rv h1 ⟨rfl, P2, s5, rfl, hE5⟩
      obtain ⟨hQ5, fr5, nf5⟩ := mQ_join hI hJ hE4 hE5
      refine s_inc rfl rfl ?_
      refine am_s rfl rfl ?_
      refine am_lv [(2, _), (0, _)] rfl rfl ⟨rfl, rfl, trivial⟩ ?_
      refine kk () _ ⟨t3, hQ5, mFr_t hF3 fr5, by omega, fun _ M hM => ?_⟩
      obtain ⟨x, y, hx, hy, hxy, fx, fy⟩ := bnf_two (S := mS s3) (by omega)
      have e3n : s3 62 0 = n := by rw [hF3.2, am_w_eq]
      exact (b_bnd (M := M) hI.b.st hI.b.nd hI.b.ma hI.b.tr hI.du (by rw [mFr_C hF3]; show ∀ v w, 0 ≤ v → v < s3 62 0 → 0 ≤ w → w < s3 62 0 → v ≠ w → _ ≤ M; rw [e3n]; exact hM) hx.1 hx.2 hy.1 hy.2 hxy fx fy).2.1
    refine am_s rfl rfl ?_
    refine am_s rfl rfl ?_
    refine s_gi (x := 0) rfl g rfl rfl rfl ?_
    refine s_k 2 rfl rfl ?_
    refine s_idiv rfl ⟨by omega, by omega⟩ ⟨by omega, by omega⟩ ?_
    refine s_cge rfl ⟨by omega, by omega⟩ ⟨by omega, by omega⟩ (fun c1 => absurd c1 (by omega)) (fun c1 => ?_)
    refine am_s rfl rfl ?_
    refine s_cv [] [] rfl g (Or.inl rfl) rfl rfl (Nat.le_of_ble_eq_true rfl) rfl rfl (t_markRoots (s := s1) g hQ.w1 (mQ_pre hQ)) ?_
    rintro rv h1 ⟨rfl, s2, rfl, hF2, hk2⟩
    obtain ⟨hI2, fr2, e85⟩ := mI_roots hQ hF2 hk2
    have nf2 := bnf_c fr2.2 e85
    refine s_k 0 rfl rfl ?_
    refine am_s rfl rfl ?_
    refine s_k 0 rfl rfl ?_
    refine am_s rfl rfl ?_
    have e620 : s2 62 0 = n := by rw [fr2.2]; exact e62
    refine am_lv [(4, .int (iI (((0 : Nat) : Int) : Int))), (3, .int (iI 0)), (2, .int (iI (k : Int))), (0, .ref 62)] rfl rfl ⟨rfl, rfl, rfl, rfl, trivial⟩ ?_
    refine s_loop (X := Int) (fun i j s' => (j = 0 ∨ j = 1) ∧ ∃ rk3 t3, mI s' rk3 t3 ∧ mFr (am_w s 62 0 n) s' ∧ bnf (mS s') = n - 2 * (k : Int) ∧ (j = 0 → bpt (mS s') + (i : Int) ≤ 50) ∧ (j = 1 → mJn s')) (fun i j => [(4, .int (iI (i : Int))), (3, .int (iI j)), (2, .int (iI (k : Int))), (0, .ref 62)]) (hi := 10000) (x := 0) (by omega) ⟨Or.inl rfl, _, t, hI2, mFr_t hF fr2, by omega, fun _ => by have := bpt_50 hI2.b.st; omega, fun z => absurd z (by decide)⟩ ?_ ?_
    · rintro i j s3 hi0 hi1 ⟨hj, rk3, t3, hI, hF3, hnf3, hpt, hJ3⟩ kk2
      simp only at kk2 ⊢
      refine am_s rfl rfl ?_
      refine s_k 10000 rfl rfl ?_
      refine s_cge rfl ⟨by omega, by omega⟩ ⟨by omega, by omega⟩ (fun c1 => absurd c1 (by omega)) (fun c1 => ?_)
      refine am_s rfl rfl ?_
      refine s_zne rfl ⟨by omega, by omega⟩ (fun c2 => ?_) (fun c2 => ?_)
      · refine am_lv [(2, _), (0, _)] rfl rfl ⟨rfl, rfl, trivial⟩ ?_
        exact j61 s3 rk3 t3 hI hF3 hnf3 (hJ3 (by omega))
      · refine am_s rfl rfl ?_
        obtain ⟨x, y, hx, hy, hxy, fx, fy⟩ := bnf_two (S := mS s3) (by omega)
        obtain ⟨pA, pB⟩ := mI_pre hI hx hy hxy fx fy
        have hT3 : ∀ w, 0 ≤ w → w < s3 62 0 → 0 ≤ s3 86 w ∧ s3 86 w < 30 := fun w w0 w1 => b_top0 hI.b.st w0 w1
        have hb3 : ∀ x, 0 ≤ x → x < 30 → s3 87 x ≠ 0 → (0 ≤ s3 88 x ∧ s3 88 x < 20) ∧ (0 ≤ s3 86 (s3 88 x) ∧ s3 86 (s3 88 x) < 30) := fun x x0 x1 hx => (mQ_pre (mI_Q hI) x x0 x1 hx).1
        refine s_cv [] [] rfl g (Or.inl rfl) rfl rfl (Nat.le_of_ble_eq_true rfl) rfl rfl (t_findStep (s := s3) g hI.b.st.n0 hI.b.w1 hb3 hT3 hI.b.w2 (fun b b0 b1 _ hT => pB b b0 b1 hT) (fun v v0 v1 _ w w0 w1 hR => pA v v0 v1 w w0 w1 hR.1)) ?_
        rintro rv h1 ⟨rfl, s4, rfl, hd4, hd5⟩
        refine am_s rfl rfl ?_
        have f4 := hd4.1
        have e40 : s4 62 0 = s3 62 0 := hd4.2.1 0 (by decide) (by decide) (by decide)
        have q4 := hd4.2.2.1
        refine s_cv [] [] rfl g (Or.inl rfl) rfl rfl (Nat.le_of_ble_eq_true rfl) rfl rfl (t_shiftPrices (s := s4) g (by rw [e40]; exact hI.b.st.n0) (by rw [f4 87 (by decide)]; exact hI.b.w1) (by rw [f4 87 (by decide), f4 88 (by decide), f4 86 (by decide)]; exact hb3) (by rw [e40, f4 86 (by decide)]; exact hT3) (by rw [f4 89 (by decide)]; exact hI.b.w2) ⟨by omega, by omega⟩) ?_
        rintro rv h1 ⟨rfl, s5, rfl, hF5, hA5, hB5⟩
        obtain ⟨hI5, hev5, fr5, e585, pt5⟩ := mI_step hI hx hy hxy fx fy hd4 hd5 hF5 hA5 hB5
        have nf5 := bnf_c fr5.2 e585
        refine am_s rfl rfl ?_
        refine s_cv [] [] rfl g (Or.inl rfl) rfl rfl (Nat.le_of_ble_eq_true rfl) rfl rfl (t_goOn (PP := fun rv h => ∃ (r : Int) (s' : am_S), rv = some (.int (iI r)) ∧ h = am_hp E s' ∧ ((r = 0 ∧ mGo s5 s' (t3 + s4 62 1)) ∨ (r = 1 ∧ s' = s5 ∧ mJn s5))) g hI5 hev5 (fun s' z => ⟨0, s', rfl, rfl, Or.inl ⟨rfl, z⟩⟩) (fun z => ⟨1, s5, rfl, rfl, Or.inr ⟨rfl, rfl, z⟩⟩)) ?_
        rintro rv h1 ⟨r, s6, rfl, rfl, hr⟩
        refine am_s rfl rfl ?_
        refine s_inc rfl rfl ?_
        refine am_s rfl rfl ?_
        have e5 : mFr (am_w s 62 0 n) s5 := mFr_t hF3 fr5
        rcases hr with ⟨rfl, ⟨rk6, hI6⟩, pt6, fr6, e685⟩ | ⟨rfl, rfl, hJ6⟩
        · refine am_lv [(4, _), (3, _), (2, _), (0, _)] rfl rfl ⟨rfl, rfl, rfl, rfl, trivial⟩ ?_
          have nf6 := bnf_c fr6.2 e685
          refine kk2 0 _ ⟨Or.inl rfl, rk6, _, hI6, mFr_t e5 fr6, by omega, fun _ => ?_, fun z => absurd z (by decide)⟩
          have := hpt (by omega)
          omega
        · refine am_lv [(4, _), (3, _), (2, _), (0, _)] rfl rfl ⟨rfl, rfl, rfl, rfl, trivial⟩ ?_
          exact kk2 1 _ ⟨Or.inr rfl, rk3, _, hI5, e5, by omega, fun z => absurd z (by decide), fun _ => hJ6⟩
    · rintro j s3 ⟨hj, rk3, t3, hI, hF3, hnf3, hpt, hJ3⟩
      simp only
      refine am_s rfl rfl ?_
      refine s_k 10000 rfl rfl ?_
      refine s_cge rfl ⟨by omega, by omega⟩ ⟨by omega, by omega⟩ (fun c1 => ?_) (fun c1 => absurd c1 (by omega))
      have := bpt_50 hI.b.st
      refine am_lv [(2, _), (0, _)] rfl rfl ⟨rfl, rfl, trivial⟩ ?_
      exact j61 s3 rk3 t3 hI hF3 hnf3 (hJ3 (by
        rcases hj with z | z
        · have := hpt z; omega
        · exact z))
  · rintro - s1 ⟨t, hQ, hF, hnf, htb⟩
    simp only
    have e62 : s1 62 0 = n := by rw [hF.2, am_w_eq]
    refine am_s rfl rfl ?_
    refine am_s rfl rfl ?_
    refine s_gi (x := 0) rfl g rfl rfl rfl ?_
    refine s_k 2 rfl rfl ?_
    refine s_idiv rfl ⟨by omega, by omega⟩ ⟨by omega, by omega⟩ ?_
    refine s_cge rfl ⟨by omega, by omega⟩ ⟨by omega, by omega⟩ (fun c1 => ?_) (fun c1 => absurd c1 (by omega))
    exact am_r rfl rfl (hPP s1 t hQ (fun z => htb (by omega)) (fun v v0 v1 => bnf_all (S := mS s1) (by omega) v v0 (show v < s1 62 0 by omega)) hF)
