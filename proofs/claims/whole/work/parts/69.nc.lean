/-! PURE: the even way through a blossom -/
theorem b_dscnt {S S2 : bS} {u b s : Int} {q F I : Int → Int} (h : bStr S) (b0 : 20 ≤ b) (u0 : 0 ≤ u) (u1 : u < S.n) (hu : S.top u = b) (hE : bDs S S2 b s q F I) (hC : bCnt S) : bCnt S2 := by
  classical
  obtain ⟨h2, U2⟩ := b_dsstr h b0 u0 u1 hu hE
  have hB : S.H b u := by rw [← hu]; exact h.th u u0 u1
  have hU : bU S b := ⟨u, hB⟩
  have mm := h.rm b b0 hU
  have b1 := (h.hr _ _ hB).2.1
  have bt : ∀ v, S.H b v → S.top v = b := fun v hv => by rw [← hu]; rw [← hu] at hv; exact b_ttop h u0 u1 hv
  have e := mt_s_one (f := fun k => if bU S2 (20 + (k : Int)) then S2.rs (20 + (k : Int)) - 1 else 0) (g := fun k => if bU S (20 + (k : Int)) then S.rs (20 + (k : Int)) - 1 else 0) (j := (b - 20).toNat) (n := 10) (by omega) (fun k hk ne => by
    have y := U2 (20 + (k : Int))
    rw [hE.rs]
    by_cases c : bU S (20 + (k : Int))
    · rw [if_pos c, if_pos (y.mpr ⟨c, by omega⟩)]
    · rw [if_neg c, if_neg (fun w => c (y.mp w).1)])
  rw [show 20 + (((b - 20).toNat : Nat) : Int) = b by omega, if_pos hU, if_neg (fun w => ((U2 b).mp w).2 rfl)] at e
  obtain ⟨M, hM⟩ : ∃ M : Nat, S.rs b = M := ⟨(S.rs b).toNat, by omega⟩
  have gi := b_img (N := 30) (f := fun i => S.rg b i) M (fun i i0 i1 => by
    obtain ⟨v, hv⟩ := h.rc b b0 hU i i0 (by omega)
    have r := h.hr _ _ hv
    exact ⟨r.1, r.2.1⟩) (fun i j i0 ij j1 z => by
    obtain ⟨v, hv⟩ := h.rc b b0 hU i i0 (by omega)
    have hj : S.H (S.rg b j) v := by rw [← show S.rg b i = S.rg b j from z]; exact hv
    exact h.rd b v i j b0 hU i0 ij (by omega) hv hj)
  have e2 : mt_s (fun k => (if bTp S2 (k : Int) then (1 : Int) else 0) + (if k = b.toNat then (1 : Int) else 0)) 30 = mt_s (fun k => (if bTp S (k : Int) then (1 : Int) else 0) + (if ∃ i, 0 ≤ i ∧ i < (M : Int) ∧ S.rg b i = (k : Int) then (1 : Int) else 0)) 30 := by
    refine mt_s_congr (fun k hk => ?_)
    have nt : ∀ i, 0 ≤ i → i < S.rs b → ¬ bTp S (S.rg b i) := fun i i0 i1 ⟨v, v0, v1, ev⟩ => by
      have z := h.th v v0 v1
      rw [ev] at z
      have y := bt v (b_csub h b0 hU i0 i1 v z)
      rw [ev] at y
      exact b_nsub h b0 hU i0 i1 (by rw [y]; exact b_refl)
    by_cases cx : k = b.toNat
    · have ek : ((k : Nat) : Int) = b := by omega
      rw [ek, if_pos cx, if_pos (c := bTp S b) ⟨u, u0, u1, hu⟩, if_neg (c := bTp S2 b) (fun ⟨v, v0, v1, ev⟩ => by
        have z := h2.th v v0 v1
        rw [ev] at z
        exact hE.hb v z), if_neg (fun ⟨i, i0, i1, ei⟩ => b_nsub h b0 hU i0 (by omega) (by rw [ei]; exact b_refl))]
      omega
    · have nk : ((k : Nat) : Int) ≠ b := by omega
      rw [if_neg cx]
      by_cases cr : ∃ i, 0 ≤ i ∧ i < (M : Int) ∧ S.rg b i = (k : Int)
      · obtain ⟨i, i0, i1, ei⟩ := cr
        obtain ⟨v, hv⟩ := h.rc b b0 hU i i0 (by omega)
        have r := h.hr _ _ hv
        rw [if_pos (c := ∃ i, 0 ≤ i ∧ i < (M : Int) ∧ S.rg b i = (k : Int)) ⟨i, i0, i1, ei⟩, if_pos (c := bTp S2 (k : Int)) ⟨v, r.2.2.1, by rw [hE.n]; exact r.2.2.2, by rw [hE.t1 i v i0 (by omega) hv]; exact ei⟩, if_neg (c := bTp S (k : Int)) (by rw [← ei]; exact nt i i0 (by omega))]
        omega
      · rw [if_neg cr]
        by_cases ct : bTp S (k : Int)
        · obtain ⟨v, v0, v1, ev⟩ := ct
          rw [if_pos (c := bTp S (k : Int)) ⟨v, v0, v1, ev⟩, if_pos (c := bTp S2 (k : Int)) ⟨v, v0, by rw [hE.n]; exact v1, by
            rw [hE.t2 v v0 v1 (fun z => nk (by rw [← ev]; exact bt v z))]; exact ev⟩]
        · rw [if_neg ct, if_neg (c := bTp S2 (k : Int)) (fun ⟨v, v0, v1, ev⟩ => by
            rw [hE.n] at v1
            by_cases c : S.H b v
            · obtain ⟨i, i0, i1, hi⟩ := (h.rh b v b0 hU).mp c
              rw [hE.t1 i v i0 i1 hi] at ev
              exact cr ⟨i, i0, by omega, ev⟩
            · rw [hE.t2 v v0 v1 c] at ev
              exact ct ⟨v, v0, v1, ev⟩)]
  rw [mt_s_add, mt_s_add, gi, b_one (by omega)] at e2
  unfold bCnt bcr bnt at hC ⊢
  rw [hE.n, e]
  omega
/-- from the entry back to the base -/
theorem b_wback {S : bS} {t b e : Int} (h : bStr S) (hN : bNd S) (hD : bDu S t) (b0 : 20 ≤ b) (hU : bU S b) (e0 : 0 ≤ e) (e1 : e < S.rs b) (hbk : (e - S.rb b + (if e < S.rb b then S.rs b else 0)) % 2 = 0) : bDw S b e (e - S.rb b + (if e < S.rb b then S.rs b else 0)) (fun j => e - j + (if e - j < 0 then S.rs b else 0)) (fun j => S.li b (e - j + (if e - j < 0 then S.rs b else 0))) (fun j => S.lf b (e - j + (if e - j < 0 then S.rs b else 0))) := by
  have m := h.rm b b0 hU
  obtain ⟨r0, r1, eb, hk⟩ := (hN b hU).2 b0
  generalize hs : e - S.rb b + (if e < S.rb b then S.rs b else 0) = s at *
  have s0 : 0 ≤ s ∧ s < S.rs b := by split at hs <;> omega
  have qw : ∀ j, 0 ≤ j → j ≤ s → e - j + (if e - j < 0 then S.rs b else 0) = wr (S.rs b) (S.rb b + (s - j)) := fun j j0 j1 => by
    unfold wr; (repeat' split) <;> split at hs <;> omega
  refine ⟨⟨s0.1, hbk, s0.2⟩, fun j j0 j1 => ?_, fun i j i0 ij j1 => ?_, ?_, ?_, fun j j0 j1 je => ?_, fun j j0 j1 je => ?_, fun i i0 i1 hn => ?_⟩
  · show 0 ≤ e - j + (if e - j < 0 then S.rs b else 0) ∧ e - j + (if e - j < 0 then S.rs b else 0) < S.rs b
    rw [qw j j0 j1]; exact wr_rng (by omega) (by omega)
  · show e - i + (if e - i < 0 then S.rs b else 0) ≠ e - j + (if e - j < 0 then S.rs b else 0)
    (repeat' split) <;> omega
  · show e - 0 + (if e - 0 < 0 then S.rs b else 0) = e
    rw [if_neg (by omega)]; omega
  · show e - s + (if e - s < 0 then S.rs b else 0) = S.rb b
    rw [qw s s0.1 (by omega)]; unfold wr; split <;> omega
  · show S.H (S.rg b (e - (j - 1) + (if e - (j - 1) < 0 then S.rs b else 0))) (S.li b (e - j + (if e - j < 0 then S.rs b else 0))) ∧ S.H (S.rg b (e - j + (if e - j < 0 then S.rs b else 0))) (S.lf b (e - j + (if e - j < 0 then S.rs b else 0))) ∧ bsl S (S.li b (e - j + (if e - j < 0 then S.rs b else 0))) (S.lf b (e - j + (if e - j < 0 then S.rs b else 0))) = 0
    rw [qw j (by omega) j1, qw (j - 1) (by omega) (by omega)]
    have w := wr_rng (m := S.rs b) (i := S.rb b + (s - j)) (by omega) (by omega)
    have l := h.lk b _ b0 hU w.1 w.2
    have ew : wr (S.rs b) (wr (S.rs b) (S.rb b + (s - j)) + 1) = wr (S.rs b) (S.rb b + (s - (j - 1))) := by
      unfold wr; (repeat' split) <;> omega
    rw [ew] at l
    have ra := h.hr _ _ l.1
    have rb := h.hr _ _ l.2
    exact ⟨l.2, l.1, (bsl_comm hD.sy rb.2.2.1 rb.2.2.2 ra.2.2.1 ra.2.2.2).trans (hD.lk b _ b0 hU w.1 w.2)⟩
  · show S.mate (S.base (S.rg b (e - j + (if e - j < 0 then S.rs b else 0)))) = S.base (S.rg b (e - (j + 1) + (if e - (j + 1) < 0 then S.rs b else 0))) ∧ S.mate (S.base (S.rg b (e - (j + 1) + (if e - (j + 1) < 0 then S.rs b else 0)))) = S.base (S.rg b (e - j + (if e - j < 0 then S.rs b else 0)))
    rw [qw j j0 (by omega), qw (j + 1) (by omega) (by omega)]
    obtain ⟨k1, k2, k3, k4⟩ := hk (s - (j + 1)) (by omega) (by omega) (by omega)
    rw [show S.rb b + (s - (j + 1)) + 1 = S.rb b + (s - j) by omega] at k2
    rw [k1, k2]
    exact ⟨k4, k3⟩
  · have ir : i ≠ S.rb b := fun z => hn s s0.1 (by omega) (by
      show e - s + (if e - s < 0 then S.rs b else 0) = i
      rw [qw s s0.1 (by omega), z]; unfold wr; split <;> omega)
    obtain ⟨k, k0, k1, ek⟩ := b_pos r0 r1 i0 i1 ir
    have ks : s < k := by
      rcases Int.lt_or_le s k with c | c
      · exact c
      · exact absurd (show e - (s - k) + (if e - (s - k) < 0 then S.rs b else 0) = i by rw [qw (s - k) (by omega) (by omega), ek]; congr 1; omega) (hn (s - k) (by omega) (by omega))
    have nw : ∀ k2, s < k2 → k2 < S.rs b → ∀ j, 0 ≤ j → j ≤ s → e - j + (if e - j < 0 then S.rs b else 0) ≠ wr (S.rs b) (S.rb b + k2) := fun k2 c1 c2 j j0 j1 => by
      rw [qw j j0 j1]; unfold wr; (repeat' split) <;> omega
    by_cases odd : k % 2 = 1
    · obtain ⟨a1, a2, a3, a4⟩ := hk k (by omega) (by omega) odd
      have w := wr_rng (m := S.rs b) (i := S.rb b + k + 1) (by omega) (by omega)
      refine ⟨_, w.1, w.2, fun j j0 j1 => by rw [show S.rb b + k + 1 = S.rb b + (k + 1) by omega]; exact nw (k + 1) (by omega) (by omega) j j0 j1, ?_⟩
      rw [ek, a1, a3, a2]
    · obtain ⟨a1, a2, a3, a4⟩ := hk (k - 1) (by omega) (by omega) (by omega)
      have w := wr_rng (m := S.rs b) (i := S.rb b + (k - 1)) (by omega) (by omega)
      refine ⟨_, w.1, w.2, fun j j0 j1 => nw (k - 1) (by omega) (by omega) j j0 j1, ?_⟩
      rw [show S.rb b + (k - 1) + 1 = S.rb b + k by omega, ← ek] at a2
      rw [a2, a4, a1]
/-- from the entry on to the base -/
theorem b_won {S : bS} {t b e : Int} (h : bStr S) (hN : bNd S) (hD : bDu S t) (b0 : 20 ≤ b) (hU : bU S b) (e0 : 0 ≤ e) (e1 : e < S.rs b) (hbk : (e - S.rb b + (if e < S.rb b then S.rs b else 0)) % 2 ≠ 0) : bDw S b e (S.rs b - (e - S.rb b + (if e < S.rb b then S.rs b else 0))) (fun j => e + j - (if e + j < S.rs b then 0 else S.rs b)) (fun j => S.lf b (e + (j - 1) - (if e + (j - 1) < S.rs b then 0 else S.rs b))) (fun j => S.li b (e + (j - 1) - (if e + (j - 1) < S.rs b then 0 else S.rs b))) := by
  have m := h.rm b b0 hU
  obtain ⟨r0, r1, eb, hk⟩ := (hN b hU).2 b0
  generalize hs : e - S.rb b + (if e < S.rb b then S.rs b else 0) = s at *
  have s0 : 1 ≤ s ∧ s < S.rs b := by split at hs <;> omega
  have qw : ∀ j, 0 ≤ j → j ≤ S.rs b - s → e + j - (if e + j < S.rs b then 0 else S.rs b) = if j = S.rs b - s then S.rb b else wr (S.rs b) (S.rb b + (s + j)) := fun j j0 j1 => by
    unfold wr; (repeat' split) <;> split at hs <;> omega
  refine ⟨⟨by omega, by omega, by omega⟩, fun j j0 j1 => ?_, fun i j i0 ij j1 => ?_, ?_, ?_, fun j j0 j1 je => ?_, fun j j0 j1 je => ?_, fun i i0 i1 hn => ?_⟩
  · show 0 ≤ e + j - (if e + j < S.rs b then 0 else S.rs b) ∧ e + j - (if e + j < S.rs b then 0 else S.rs b) < S.rs b
    split <;> omega
  · show e + i - (if e + i < S.rs b then 0 else S.rs b) ≠ e + j - (if e + j < S.rs b then 0 else S.rs b)
    (repeat' split) <;> omega
  · show e + 0 - (if e + 0 < S.rs b then 0 else S.rs b) = e
    rw [if_pos (by omega)]; omega
  · show e + (S.rs b - s) - (if e + (S.rs b - s) < S.rs b then 0 else S.rs b) = S.rb b
    rw [qw _ (by omega) (by omega), if_pos rfl]
  · show S.H (S.rg b (e + (j - 1) - (if e + (j - 1) < S.rs b then 0 else S.rs b))) (S.lf b (e + (j - 1) - (if e + (j - 1) < S.rs b then 0 else S.rs b))) ∧ S.H (S.rg b (e + j - (if e + j < S.rs b then 0 else S.rs b))) (S.li b (e + (j - 1) - (if e + (j - 1) < S.rs b then 0 else S.rs b))) ∧ bsl S (S.lf b (e + (j - 1) - (if e + (j - 1) < S.rs b then 0 else S.rs b))) (S.li b (e + (j - 1) - (if e + (j - 1) < S.rs b then 0 else S.rs b))) = 0
    have w : 0 ≤ e + (j - 1) - (if e + (j - 1) < S.rs b then 0 else S.rs b) ∧ e + (j - 1) - (if e + (j - 1) < S.rs b then 0 else S.rs b) < S.rs b := by split <;> omega
    have l := h.lk b _ b0 hU w.1 w.2
    have ew : wr (S.rs b) (e + (j - 1) - (if e + (j - 1) < S.rs b then 0 else S.rs b) + 1) = e + j - (if e + j < S.rs b then 0 else S.rs b) := by
      unfold wr; (repeat' split) <;> omega
    rw [ew] at l
    exact ⟨l.1, l.2, hD.lk b _ b0 hU w.1 w.2⟩
  · show S.mate (S.base (S.rg b (e + j - (if e + j < S.rs b then 0 else S.rs b)))) = S.base (S.rg b (e + (j + 1) - (if e + (j + 1) < S.rs b then 0 else S.rs b))) ∧ S.mate (S.base (S.rg b (e + (j + 1) - (if e + (j + 1) < S.rs b then 0 else S.rs b)))) = S.base (S.rg b (e + j - (if e + j < S.rs b then 0 else S.rs b)))
    rw [qw j j0 (by omega), qw (j + 1) (by omega) (by omega), if_neg (by omega), if_neg (by omega)]
    obtain ⟨k1, k2, k3, k4⟩ := hk (s + j) (by omega) (by omega) (by omega)
    rw [show S.rb b + (s + j) + 1 = S.rb b + (s + (j + 1)) by omega] at k2
    rw [k1, k2]
    exact ⟨k3, k4⟩
  · have ir : i ≠ S.rb b := fun z => hn (S.rs b - s) (by omega) (by omega) (by
      show e + (S.rs b - s) - (if e + (S.rs b - s) < S.rs b then 0 else S.rs b) = i
      rw [qw _ (by omega) (by omega), if_pos rfl, z])
    obtain ⟨k, k0, k1, ek⟩ := b_pos r0 r1 i0 i1 ir
    have ks : k < s := by
      rcases Int.lt_or_le k s with c | c
      · exact c
      · exact absurd (show e + (k - s) - (if e + (k - s) < S.rs b then 0 else S.rs b) = i by rw [qw (k - s) (by omega) (by omega), if_neg (by omega), ek]; congr 1; omega) (hn (k - s) (by omega) (by omega))
    have nw : ∀ k2, 1 ≤ k2 → k2 < s → ∀ j, 0 ≤ j → j ≤ S.rs b - s → e + j - (if e + j < S.rs b then 0 else S.rs b) ≠ wr (S.rs b) (S.rb b + k2) := fun k2 c1 c2 j j0 j1 => by
      rw [qw j j0 j1]; unfold wr; (repeat' split) <;> omega
    by_cases odd : k % 2 = 1
    · obtain ⟨a1, a2, a3, a4⟩ := hk k (by omega) (by omega) odd
      have w := wr_rng (m := S.rs b) (i := S.rb b + k + 1) (by omega) (by omega)
      refine ⟨_, w.1, w.2, fun j j0 j1 => by rw [show S.rb b + k + 1 = S.rb b + (k + 1) by omega]; exact nw (k + 1) (by omega) (by omega) j j0 j1, ?_⟩
      rw [ek, a1, a3, a2]
    · obtain ⟨a1, a2, a3, a4⟩ := hk (k - 1) (by omega) (by omega) (by omega)
      have w := wr_rng (m := S.rs b) (i := S.rb b + (k - 1)) (by omega) (by omega)
      refine ⟨_, w.1, w.2, fun j j0 j1 => nw (k - 1) (by omega) (by omega) j j0 j1, ?_⟩
      rw [show S.rb b + (k - 1) + 1 = S.rb b + k by omega, ← ek] at a2
      rw [a2, a4, a1]
