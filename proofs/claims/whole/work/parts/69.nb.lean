/-! PURE: a blossom is taken apart -/
abbrev bDw (S : bS) (b e s : Int) (q F I : Int → Int) : Prop := Nonempty (PProd (0 ≤ s ∧ s % 2 = 0 ∧ s < S.rs b) (PProd (∀ j, 0 ≤ j → j ≤ s → 0 ≤ q j ∧ q j < S.rs b) (PProd (∀ i j, 0 ≤ i → i < j → j ≤ s → q i ≠ q j) (PProd (q 0 = e) (PProd (q s = S.rb b) (PProd (∀ j, 2 ≤ j → j ≤ s → j % 2 = 0 → S.H (S.rg b (q (j - 1))) (F j) ∧ S.H (S.rg b (q j)) (I j) ∧ bsl S (F j) (I j) = 0) (PProd (∀ j, 0 ≤ j → j < s → j % 2 = 0 → S.mate (S.base (S.rg b (q j))) = S.base (S.rg b (q (j + 1))) ∧ S.mate (S.base (S.rg b (q (j + 1)))) = S.base (S.rg b (q j))) (∀ i, 0 ≤ i → i < S.rs b → (∀ j, 0 ≤ j → j ≤ s → q j ≠ i) → ∃ k, 0 ≤ k ∧ k < S.rs b ∧ (∀ j, 0 ≤ j → j ≤ s → q j ≠ k) ∧ S.mate (S.base (S.rg b i)) = S.base (S.rg b k)))))))))
theorem bDw.s0 {S : bS} {b e s : Int} {q F I : Int → Int} (h_ : bDw S b e s q F I) : 0 ≤ s ∧ s % 2 = 0 ∧ s < S.rs b := h_.elim (fun x_ => x_.1)
theorem bDw.qr {S : bS} {b e s : Int} {q F I : Int → Int} (h_ : bDw S b e s q F I) : ∀ j, 0 ≤ j → j ≤ s → 0 ≤ q j ∧ q j < S.rs b := h_.elim (fun x_ => x_.2.1)
theorem bDw.qi {S : bS} {b e s : Int} {q F I : Int → Int} (h_ : bDw S b e s q F I) : ∀ i j, 0 ≤ i → i < j → j ≤ s → q i ≠ q j := h_.elim (fun x_ => x_.2.2.1)
theorem bDw.q0 {S : bS} {b e s : Int} {q F I : Int → Int} (h_ : bDw S b e s q F I) : q 0 = e := h_.elim (fun x_ => x_.2.2.2.1)
theorem bDw.qs {S : bS} {b e s : Int} {q F I : Int → Int} (h_ : bDw S b e s q F I) : q s = S.rb b := h_.elim (fun x_ => x_.2.2.2.2.1)
theorem bDw.fl {S : bS} {b e s : Int} {q F I : Int → Int} (h_ : bDw S b e s q F I) : ∀ j, 2 ≤ j → j ≤ s → j % 2 = 0 → S.H (S.rg b (q (j - 1))) (F j) ∧ S.H (S.rg b (q j)) (I j) ∧ bsl S (F j) (I j) = 0 := h_.elim (fun x_ => x_.2.2.2.2.2.1)
theorem bDw.mt {S : bS} {b e s : Int} {q F I : Int → Int} (h_ : bDw S b e s q F I) : ∀ j, 0 ≤ j → j < s → j % 2 = 0 → S.mate (S.base (S.rg b (q j))) = S.base (S.rg b (q (j + 1))) ∧ S.mate (S.base (S.rg b (q (j + 1)))) = S.base (S.rg b (q j)) := h_.elim (fun x_ => x_.2.2.2.2.2.2.1)
theorem bDw.id {S : bS} {b e s : Int} {q F I : Int → Int} (h_ : bDw S b e s q F I) : ∀ i, 0 ≤ i → i < S.rs b → (∀ j, 0 ≤ j → j ≤ s → q j ≠ i) → ∃ k, 0 ≤ k ∧ k < S.rs b ∧ (∀ j, 0 ≤ j → j ≤ s → q j ≠ k) ∧ S.mate (S.base (S.rg b i)) = S.base (S.rg b k) := h_.elim (fun x_ => x_.2.2.2.2.2.2.2)
abbrev bDs (S S2 : bS) (b s : Int) (q F I : Int → Int) : Prop := Nonempty (PProd (S2.n = S.n) (PProd (S2.C = S.C) (PProd (S2.p = S.p) (PProd (S2.mate = S.mate) (PProd (S2.base = S.base) (PProd (S2.rs = S.rs) (PProd (S2.rb = S.rb) (PProd (S2.rg = S.rg) (PProd (S2.lf = S.lf) (PProd (S2.li = S.li) (PProd (∀ v, ¬ S2.H b v) (PProd (∀ y v, y ≠ b → (S2.H y v ↔ S.H y v)) (PProd (∀ i v, 0 ≤ i → i < S.rs b → S.H (S.rg b i) v → S2.top v = S.rg b i) (PProd (∀ v, 0 ≤ v → v < S.n → ¬ S.H b v → S2.top v = S.top v) (PProd (∀ j, 0 ≤ j → j ≤ s → S2.mr (S.rg b (q j)) = if j % 2 = 0 then 2 else 1) (PProd (∀ i, 0 ≤ i → i < S.rs b → (∀ j, 0 ≤ j → j ≤ s → q j ≠ i) → S2.mr (S.rg b i) = 0) (PProd (∀ y, (∀ i, 0 ≤ i → i < S.rs b → S.rg b i ≠ y) → S2.mr y = S.mr y) (PProd (S2.fr (S.rg b (q 0)) = S.fr b ∧ S2.io (S.rg b (q 0)) = S.io b) (PProd (∀ j, 2 ≤ j → j ≤ s → j % 2 = 0 → S2.fr (S.rg b (q j)) = F j ∧ S2.io (S.rg b (q j)) = I j) (∀ y, (∀ i, 0 ≤ i → i < S.rs b → S.rg b i ≠ y) → S2.fr y = S.fr y ∧ S2.io y = S.io y))))))))))))))))))))
theorem bDs.n {S S2 : bS} {b s : Int} {q F I : Int → Int} (h_ : bDs S S2 b s q F I) : S2.n = S.n := h_.elim (fun x_ => x_.1)
theorem bDs.C {S S2 : bS} {b s : Int} {q F I : Int → Int} (h_ : bDs S S2 b s q F I) : S2.C = S.C := h_.elim (fun x_ => x_.2.1)
theorem bDs.p {S S2 : bS} {b s : Int} {q F I : Int → Int} (h_ : bDs S S2 b s q F I) : S2.p = S.p := h_.elim (fun x_ => x_.2.2.1)
theorem bDs.ma {S S2 : bS} {b s : Int} {q F I : Int → Int} (h_ : bDs S S2 b s q F I) : S2.mate = S.mate := h_.elim (fun x_ => x_.2.2.2.1)
theorem bDs.ba {S S2 : bS} {b s : Int} {q F I : Int → Int} (h_ : bDs S S2 b s q F I) : S2.base = S.base := h_.elim (fun x_ => x_.2.2.2.2.1)
theorem bDs.rs {S S2 : bS} {b s : Int} {q F I : Int → Int} (h_ : bDs S S2 b s q F I) : S2.rs = S.rs := h_.elim (fun x_ => x_.2.2.2.2.2.1)
theorem bDs.rb {S S2 : bS} {b s : Int} {q F I : Int → Int} (h_ : bDs S S2 b s q F I) : S2.rb = S.rb := h_.elim (fun x_ => x_.2.2.2.2.2.2.1)
theorem bDs.rg {S S2 : bS} {b s : Int} {q F I : Int → Int} (h_ : bDs S S2 b s q F I) : S2.rg = S.rg := h_.elim (fun x_ => x_.2.2.2.2.2.2.2.1)
theorem bDs.lf {S S2 : bS} {b s : Int} {q F I : Int → Int} (h_ : bDs S S2 b s q F I) : S2.lf = S.lf := h_.elim (fun x_ => x_.2.2.2.2.2.2.2.2.1)
theorem bDs.li {S S2 : bS} {b s : Int} {q F I : Int → Int} (h_ : bDs S S2 b s q F I) : S2.li = S.li := h_.elim (fun x_ => x_.2.2.2.2.2.2.2.2.2.1)
theorem bDs.hb {S S2 : bS} {b s : Int} {q F I : Int → Int} (h_ : bDs S S2 b s q F I) : ∀ v, ¬ S2.H b v := h_.elim (fun x_ => x_.2.2.2.2.2.2.2.2.2.2.1)
theorem bDs.hy {S S2 : bS} {b s : Int} {q F I : Int → Int} (h_ : bDs S S2 b s q F I) : ∀ y v, y ≠ b → (S2.H y v ↔ S.H y v) := h_.elim (fun x_ => x_.2.2.2.2.2.2.2.2.2.2.2.1)
theorem bDs.t1 {S S2 : bS} {b s : Int} {q F I : Int → Int} (h_ : bDs S S2 b s q F I) : ∀ i v, 0 ≤ i → i < S.rs b → S.H (S.rg b i) v → S2.top v = S.rg b i := h_.elim (fun x_ => x_.2.2.2.2.2.2.2.2.2.2.2.2.1)
theorem bDs.t2 {S S2 : bS} {b s : Int} {q F I : Int → Int} (h_ : bDs S S2 b s q F I) : ∀ v, 0 ≤ v → v < S.n → ¬ S.H b v → S2.top v = S.top v := h_.elim (fun x_ => x_.2.2.2.2.2.2.2.2.2.2.2.2.2.1)
theorem bDs.m1 {S S2 : bS} {b s : Int} {q F I : Int → Int} (h_ : bDs S S2 b s q F I) : ∀ j, 0 ≤ j → j ≤ s → S2.mr (S.rg b (q j)) = if j % 2 = 0 then 2 else 1 := h_.elim (fun x_ => x_.2.2.2.2.2.2.2.2.2.2.2.2.2.2.1)
theorem bDs.m0 {S S2 : bS} {b s : Int} {q F I : Int → Int} (h_ : bDs S S2 b s q F I) : ∀ i, 0 ≤ i → i < S.rs b → (∀ j, 0 ≤ j → j ≤ s → q j ≠ i) → S2.mr (S.rg b i) = 0 := h_.elim (fun x_ => x_.2.2.2.2.2.2.2.2.2.2.2.2.2.2.2.1)
theorem bDs.my {S S2 : bS} {b s : Int} {q F I : Int → Int} (h_ : bDs S S2 b s q F I) : ∀ y, (∀ i, 0 ≤ i → i < S.rs b → S.rg b i ≠ y) → S2.mr y = S.mr y := h_.elim (fun x_ => x_.2.2.2.2.2.2.2.2.2.2.2.2.2.2.2.2.1)
theorem bDs.f0 {S S2 : bS} {b s : Int} {q F I : Int → Int} (h_ : bDs S S2 b s q F I) : S2.fr (S.rg b (q 0)) = S.fr b ∧ S2.io (S.rg b (q 0)) = S.io b := h_.elim (fun x_ => x_.2.2.2.2.2.2.2.2.2.2.2.2.2.2.2.2.2.1)
theorem bDs.f2 {S S2 : bS} {b s : Int} {q F I : Int → Int} (h_ : bDs S S2 b s q F I) : ∀ j, 2 ≤ j → j ≤ s → j % 2 = 0 → S2.fr (S.rg b (q j)) = F j ∧ S2.io (S.rg b (q j)) = I j := h_.elim (fun x_ => x_.2.2.2.2.2.2.2.2.2.2.2.2.2.2.2.2.2.2.1)
theorem bDs.fy {S S2 : bS} {b s : Int} {q F I : Int → Int} (h_ : bDs S S2 b s q F I) : ∀ y, (∀ i, 0 ≤ i → i < S.rs b → S.rg b i ≠ y) → S2.fr y = S.fr y ∧ S2.io y = S.io y := h_.elim (fun x_ => x_.2.2.2.2.2.2.2.2.2.2.2.2.2.2.2.2.2.2.2)
theorem b_dsstr {S S2 : bS} {u b s : Int} {q F I : Int → Int} (h : bStr S) (b0 : 20 ≤ b) (u0 : 0 ≤ u) (u1 : u < S.n) (hu : S.top u = b) (hE : bDs S S2 b s q F I) : bStr S2 ∧ (∀ y, bU S2 y ↔ bU S y ∧ y ≠ b) := by
  have hB : S.H b u := by rw [← hu]; exact h.th u u0 u1
  have hU : bU S b := ⟨u, hB⟩
  have bt : ∀ v, S.H b v → S.top v = b := fun v hv => by rw [← hu]; rw [← hu] at hv; exact b_ttop h u0 u1 hv
  have U2 : ∀ y, bU S2 y ↔ bU S y ∧ y ≠ b := fun y => ⟨fun ⟨v, hv⟩ => by
    have c : y ≠ b := fun e => by rw [e] at hv; exact hE.hb v hv
    exact ⟨⟨v, (hE.hy y v c).mp hv⟩, c⟩, fun ⟨⟨v, hv⟩, c⟩ => ⟨v, (hE.hy y v c).mpr hv⟩⟩
  have nb : ∀ y v, S2.H y v → y ≠ b := fun y v hv e => by rw [e] at hv; exact hE.hb v hv
  have o : ∀ y v, S2.H y v → S.H y v := fun y v hv => (hE.hy y v (nb y v hv)).mp hv
  -- a ring's node is not the one that is taken apart
  have ch : ∀ y i, 20 ≤ y → bU S y → 0 ≤ i → i < S.rs y → S.rg y i ≠ b := fun y i y0 hy i0 i1 e => by
    have s1 := b_csub h y0 hy i0 i1
    rw [e] at s1
    have s2 := b_tsub h (s1 u hB)
    rw [hu] at s2
    have := b_anti h hU hy s1 s2
    subst this
    exact b_nsub h y0 hy i0 i1 (by rw [e]; exact b_refl)
  refine ⟨⟨by rw [hE.n]; exact h.n0, fun y v hv => by rw [hE.n]; exact h.hr y v (o y v hv), fun y v hy => by rw [hE.hy y v (by omega), hE.n]; exact h.hs y v hy, fun y y0 hy => by rw [hE.rs]; exact h.rm y y0 ((U2 y).mp hy).1, fun y y0 hy i i0 i1 => ?_, fun y v y0 hy => ?_, fun y v i j y0 hy i0 ij j1 hi hj => ?_, fun y i y0 hy i0 i1 => ?_, fun v v0 v1 => ?_, fun y v w hv hw => ?_, fun y z hy z0 hz ne hs => ?_⟩, U2⟩
  · rw [hE.rs] at i1
    rw [hE.rg]
    have hy := ((U2 y).mp hy).1
    exact (U2 _).mpr ⟨h.rc y y0 hy i i0 i1, ch y i y0 hy i0 i1⟩
  · obtain ⟨hy, c⟩ := (U2 y).mp hy
    rw [hE.hy y v c, hE.rs, hE.rg, h.rh y v y0 hy]
    exact ⟨fun ⟨i, i0, i1, z⟩ => ⟨i, i0, i1, (hE.hy _ v (ch y i y0 hy i0 i1)).mpr z⟩, fun ⟨i, i0, i1, z⟩ => ⟨i, i0, i1, o _ v z⟩⟩
  · rw [hE.rs] at j1
    rw [hE.rg] at hi hj
    exact h.rd y v i j y0 ((U2 y).mp hy).1 i0 ij j1 (o _ v hi) (o _ v hj)
  · rw [hE.rs] at i1
    obtain ⟨hy, c⟩ := (U2 y).mp hy
    have mm := h.rm y y0 hy
    have w2 := wr_rng (m := S.rs y) (i := i + 1) (by omega) (by omega)
    rw [hE.rs, hE.rg, hE.lf, hE.li, hE.hy _ _ (ch y i y0 hy i0 i1), hE.hy _ _ (ch y _ y0 hy w2.1 w2.2)]
    exact h.lk y i y0 hy i0 i1
  · rw [hE.n] at v1
    by_cases c : S.H b v
    · obtain ⟨i, i0, i1, hi⟩ := (h.rh b v b0 hU).mp c
      rw [hE.t1 i v i0 i1 hi]
      exact (hE.hy _ v (ch b i b0 hU i0 i1)).mpr hi
    · rw [hE.t2 v v0 v1 c]
      have z := h.th v v0 v1
      exact (hE.hy _ v (fun e => c (by rw [e] at z; exact z))).mpr z
  · have cy := nb y v hv
    have hv := o y v hv
    have hw := o y w hw
    have rv := h.hr y v hv
    have rw_ := h.hr y w hw
    have e := h.tt y v w hv hw
    by_cases c : S.H b v
    · have hs := b_tsub h hv
      rw [bt v c] at hs
      obtain ⟨i, i0, i1, hi⟩ := h.lm y b ⟨v, hv⟩ b0 hU cy hs
      rw [hE.t1 i v i0 i1 (hi v hv), hE.t1 i w i0 i1 (hi w hw)]
    · rw [hE.t2 v rv.2.2.1 rv.2.2.2 c, hE.t2 w rw_.2.2.1 rw_.2.2.2 (fun z => ?_)]
      · exact e
      · rw [bt w z] at e
        have q := h.th v rv.2.2.1 rv.2.2.2
        rw [e] at q
        exact c q
  · obtain ⟨hy, cy⟩ := (U2 y).mp hy
    obtain ⟨hz, cz⟩ := (U2 z).mp hz
    obtain ⟨i, i0, i1, hi⟩ := h.lm y z hy z0 hz ne (fun v hv => o z v (hs v ((hE.hy y v cy).mpr hv)))
    refine ⟨i, i0, by rw [hE.rs]; exact i1, fun v hv => ?_⟩
    rw [hE.rg]
    exact (hE.hy _ v (ch z i z0 hz i0 i1)).mpr (hi v (o y v hv))
theorem b_dissolve {S S2 : bS} {rk : Int → Int} {t u b e s : Int} {q F I : Int → Int} (h : bStr S) (hN : bNd S) (hM : bMat S) (hT : bTree S rk) (hD : bDu S t) (hP : bPar S t) (b0 : 20 ≤ b) (u0 : 0 ≤ u) (u1 : u < S.n) (hu : S.top u = b) (hm2 : S.mr b = 2) (hp : S.p b = 0) (he : S.H (S.rg b e) (S.io b)) (hw : bDw S b e s q F I) (hE : bDs S S2 b s q F I) : bNd S2 ∧ bMat S2 ∧ (∃ rk2, bTree S2 rk2) ∧ bDu S2 t ∧ bPar S2 t ∧ bpt S2 + 1 ≤ bpt S := by
  classical
  obtain ⟨h2, U2⟩ := b_dsstr h b0 u0 u1 hu hE
  have hB : S.H b u := by rw [← hu]; exact h.th u u0 u1
  have hU : bU S b := ⟨u, hB⟩
  have mm := h.rm b b0 hU
  have s0 := hw.s0
  have bt : ∀ v, S.H b v → S.top v = b := fun v hv => by rw [← hu]; rw [← hu] at hv; exact b_ttop h u0 u1 hv
  have tb : ∀ v, 0 ≤ v → v < S.n → S.top v ≠ b → ¬ S.H b v := fun v v0 v1 c z => c (bt v z)
  have sl : ∀ v w, bsl S2 v w = bsl S v w := fun v w => by
    unfold bsl bZ
    rw [hE.C, hE.p, mt_s_congr (g := fun k => if S.H (20 + (k : Int)) v ∧ S.H (20 + (k : Int)) w then S.p (20 + (k : Int)) else 0) (fun k _ => ?_)]
    by_cases c : 20 + (k : Int) = b
    · rw [c, hp, if_neg (c := S2.H b v ∧ S2.H b w) (fun z => hE.hb v z.1)]
      split <;> rfl
    · have e1 := hE.hy _ v c
      have e2 := hE.hy _ w c
      by_cases cc : S.H (20 + (k : Int)) v ∧ S.H (20 + (k : Int)) w
      · rw [if_pos cc, if_pos ⟨e1.mpr cc.1, e2.mpr cc.2⟩]
      · rw [if_neg cc, if_neg (fun z => cc ⟨e1.mp z.1, e2.mp z.2⟩)]
  have bs : ∀ i, 0 ≤ i → i < S.rs b → S.H (S.rg b i) (S.base (S.rg b i)) := fun i i0 i1 => b_base h _ (h.rc b b0 hU i i0 i1) (bNd_ok hN _)
  have bs0 : ∀ i, 0 ≤ i → i < S.rs b → 0 ≤ S.base (S.rg b i) := fun i i0 i1 => (h.hr _ _ (bs i i0 i1)).2.2.1
  have tB : ∀ i, 0 ≤ i → i < S.rs b → S2.top (S.base (S.rg b i)) = S.rg b i := fun i i0 i1 => hE.t1 i _ i0 i1 (bs i i0 i1)
  have rne : ∀ v, 0 ≤ v → v < S.n → S.top v ≠ b → ∀ i, 0 ≤ i → i < S.rs b → S.rg b i ≠ S.top v := fun v v0 v1 c i i0 i1 z => by
    have y := h.th v v0 v1
    rw [← z] at y
    exact c (bt v (b_csub h b0 hU i0 i1 v y))
  have rbne : ∀ i, 0 ≤ i → i < S.rs b → S.rg b i ≠ b := fun i i0 i1 z => b_nsub h b0 hU i0 i1 (by rw [z]; exact b_refl)
  have T2 : ∀ v, 0 ≤ v → v < S.n → S.top v ≠ b → S2.top v = S.top v := fun v v0 v1 c => hE.t2 v v0 v1 (tb v v0 v1 c)
  have M2 : ∀ v, 0 ≤ v → v < S.n → S.top v ≠ b → S2.mr (S.top v) = S.mr (S.top v) := fun v v0 v1 c => hE.my _ (rne v v0 v1 c)
  have rinj : ∀ i j, 0 ≤ i → i < S.rs b → 0 ≤ j → j < S.rs b → S.rg b i = S.rg b j → i = j := fun i j i0 i1 j0 j1 z => b_rd h b0 hU i0 i1 j0 j1 (bs i i0 i1) (by rw [← z]; exact bs i i0 i1)
  have qinj : ∀ i j, 0 ≤ i → i ≤ s → 0 ≤ j → j ≤ s → q i = q j → i = j := fun i j i0 i1 j0 j1 z => by
    rcases Int.lt_trichotomy i j with c | c | c
    · exact absurd z (hw.qi i j i0 c j1)
    · exact c
    · exact absurd z.symm (hw.qi j i j0 c i1)
  let rk2 : Int → Int := fun y => if z : ∃ j, 0 ≤ j ∧ j ≤ s ∧ S.rg b (q j) = y then 32 * rk b + Classical.choose z else 32 * rk y
  have K1 : ∀ j, 0 ≤ j → j ≤ s → rk2 (S.rg b (q j)) = 32 * rk b + j := fun j j0 j1 => by
    have z : ∃ i, 0 ≤ i ∧ i ≤ s ∧ S.rg b (q i) = S.rg b (q j) := ⟨j, j0, j1, rfl⟩
    have e : rk2 (S.rg b (q j)) = 32 * rk b + Classical.choose z := dif_pos z
    obtain ⟨c0, c1, c2⟩ := Classical.choose_spec z
    have a := hw.qr _ c0 c1
    have b := hw.qr j j0 j1
    have := qinj _ j c0 c1 j0 j1 (rinj _ _ a.1 a.2 b.1 b.2 c2)
    rw [e, this]
  have K2 : ∀ v, 0 ≤ v → v < S.n → S.top v ≠ b → rk2 (S.top v) = 32 * rk (S.top v) := fun v v0 v1 c => dif_neg (fun ⟨j, j0, j1, z⟩ => rne v v0 v1 c _ (hw.qr j j0 j1).1 (hw.qr j j0 j1).2 z)
  have tu : ∀ v, S.top v = b ↔ S.top v = b := fun _ => Iff.rfl
  obtain ⟨n1, n2, n3, n4, n5, n6, n7, n8⟩ := hT.inn u u0 u1 (by rw [hu]; exact hm2)
  rw [hu] at n1 n2 n3 n4 n5 n6 n7 n8
  have eb : S.base b = S.base (S.rg b (q s)) := by rw [hw.qs]; exact ((hN b hU).2 b0).2.2.1
  have nfb : S.top (S.fr b) ≠ b := fun z => by rw [z, hm2] at n6; omega
  refine ⟨fun y hy => ?_, fun v v0 v1 => ?_, ⟨rk2, ⟨fun v v0 v1 hm hne => ?_, fun v v0 v1 hm => ?_, fun v v0 v1 hm1 hm3 => ?_⟩⟩, ⟨?_, fun v w v0 v1 w0 w1 ne => ?_, fun y y0 hy => ?_, ?_, fun y i y0 hy i0 i1 => ?_, fun y v w hv hw => ?_, hD.t0, fun v v0 v1 => ?_, fun v v0 v1 hf => ?_⟩, fun v v0 v1 hm => ?_, ?_⟩
  · have z := hN y ((U2 y).mp hy).1
    unfold bLB at z ⊢
    rw [hE.ba, hE.rb, hE.rs, hE.rg, hE.lf, hE.li, hE.ma]
    exact z
  · rw [hE.n] at v1 ⊢
    rw [hE.ma, sl]; exact hM v v0 v1
  · rw [hE.n] at v1
    rw [hE.ba, hE.ma] at hne ⊢
    by_cases c : S.H b v
    · obtain ⟨i, i0, i1, hi⟩ := (h.rh b v b0 hU).mp c
      rw [hE.t1 i v i0 i1 hi] at hm hne ⊢
      by_cases cw : ∃ j, 0 ≤ j ∧ j ≤ s ∧ q j = i
      · obtain ⟨j, j0, j1, ej⟩ := cw
        subst ej
        rw [hE.m1 j j0 j1] at hm
        have jo : ¬ j % 2 = 0 := fun z => by rw [if_pos z] at hm; omega
        have z := (hw.mt (j - 1) (by omega) (by omega) (by omega)).2
        have r := hw.qr (j - 1) (by omega) (by omega)
        rw [show j - 1 + 1 = j by omega] at z
        rw [z, tB _ r.1 r.2, hE.m1 (j - 1) (by omega) (by omega), if_pos (by omega), K1 (j - 1) (by omega) (by omega), K1 j j0 j1]
        exact ⟨rfl, by omega⟩
      · rw [hE.m0 i i0 i1 (fun j j0 j1 z => cw ⟨j, j0, j1, z⟩)] at hm; omega
    · have cb : S.top v ≠ b := fun z => c (by rw [← z]; exact h.th v v0 v1)
      rw [T2 v v0 v1 cb] at hm hne ⊢
      rw [M2 v v0 v1 cb] at hm
      obtain ⟨z1, z2⟩ := hT.out v v0 v1 hm hne
      obtain ⟨q1, q2, q3, q4, q5⟩ := b_mt h hN hM v0 v1 hne
      rw [K2 v v0 v1 cb]
      by_cases cu : S.top (S.mate (S.base (S.top v))) = b
      · have r := hw.qr s (by omega) (by omega)
        rw [cu, eb] at q4
        rw [← q4, tB _ r.1 r.2, hE.m1 s (by omega) (by omega), if_pos (by omega), K1 s (by omega) (by omega)]
        rw [cu] at z2
        exact ⟨rfl, by omega⟩
      · rw [T2 _ q1 q2 cu, M2 _ q1 q2 cu, K2 _ q1 q2 cu]
        exact ⟨z1, by omega⟩
  · rw [hE.n] at v1 ⊢
    rw [hE.ba, hE.ma]
    by_cases c : S.H b v
    · obtain ⟨i, i0, i1, hi⟩ := (h.rh b v b0 hU).mp c
      rw [hE.t1 i v i0 i1 hi] at hm ⊢
      by_cases cw : ∃ j, 0 ≤ j ∧ j ≤ s ∧ q j = i
      · obtain ⟨j, j0, j1, ej⟩ := cw
        subst ej
        rw [hE.m1 j j0 j1] at hm
        have je : j % 2 = 0 := by
          by_cases z : j % 2 = 0
          · exact z
          · rw [if_neg z] at hm; omega
        have mate : S.mate (S.base (S.rg b (q j))) ≠ -1 ∧ S2.mr (S2.top (S.mate (S.base (S.rg b (q j))))) = 1 := by
          by_cases cs : j = s
          · rw [cs, ← eb]
            obtain ⟨w1, w2, w3, w4, w5⟩ := b_mt h hN hM u0 u1 (by rw [hu]; exact n1)
            rw [hu] at w1 w2 w3
            rw [T2 _ w1 w2 w3, M2 _ w1 w2 w3]
            exact ⟨n1, n2⟩
          · have z := (hw.mt j j0 (by omega) je).1
            have r := hw.qr (j + 1) (by omega) (by omega)
            rw [z, tB _ r.1 r.2, hE.m1 (j + 1) (by omega) (by omega), if_neg (by omega)]
            exact ⟨by have := bs0 _ r.1 r.2; omega, rfl⟩
        refine ⟨mate.1, mate.2, ?_⟩
        rw [hE.hy _ _ (rbne _ i0 i1), K1 j j0 j1, sl]
        by_cases cj : j = 0
        · subst cj
          rw [hE.f0.1, hE.f0.2, T2 _ n4 n5 nfb, M2 _ n4 n5 nfb, K2 _ n4 n5 nfb]
          exact ⟨by rw [hw.q0]; exact he, n4, n5, n6, by omega, n8⟩
        · obtain ⟨z1, z2⟩ := hE.f2 j (by omega) j1 je
          obtain ⟨y1, y2, y3⟩ := hw.fl j (by omega) j1 je
          have r := hw.qr (j - 1) (by omega) (by omega)
          have rf := h.hr _ _ y1
          rw [z1, z2, hE.t1 _ _ r.1 r.2 y1, hE.m1 (j - 1) (by omega) (by omega), if_neg (by omega), K1 (j - 1) (by omega) (by omega)]
          exact ⟨y2, rf.2.2.1, rf.2.2.2, rfl, by omega, y3⟩
      · rw [hE.m0 i i0 i1 (fun j j0 j1 z => cw ⟨j, j0, j1, z⟩)] at hm; omega
    · have cb : S.top v ≠ b := fun z => c (by rw [← z]; exact h.th v v0 v1)
      rw [T2 v v0 v1 cb] at hm ⊢
      rw [M2 v v0 v1 cb] at hm
      obtain ⟨z1, z2, z3, z4, z5, z6, z7, z8⟩ := hT.inn v v0 v1 hm
      obtain ⟨q1, q2, q3, q4, q5⟩ := b_mt h hN hM v0 v1 z1
      have cu : S.top (S.mate (S.base (S.top v))) ≠ b := fun z => by rw [z, hm2] at z2; omega
      have cf : S.top (S.fr (S.top v)) ≠ b := fun z => by rw [z, hm2] at z6; omega
      rw [(hE.fy _ (rne v v0 v1 cb)).1, (hE.fy _ (rne v v0 v1 cb)).2, T2 _ q1 q2 cu, M2 _ q1 q2 cu, T2 _ z4 z5 cf, M2 _ z4 z5 cf, K2 _ z4 z5 cf, K2 v v0 v1 cb, hE.hy _ _ cb, sl]
      exact ⟨z1, z2, z3, z4, z5, z6, by omega, z8⟩
  · rw [hE.n] at v1
    rw [hE.ba, hE.ma]
    by_cases c : S.H b v
    · obtain ⟨i, i0, i1, hi⟩ := (h.rh b v b0 hU).mp c
      rw [hE.t1 i v i0 i1 hi] at hm1 hm3 ⊢
      by_cases cw : ∃ j, 0 ≤ j ∧ j ≤ s ∧ q j = i
      · exfalso
        obtain ⟨j, j0, j1, ej⟩ := cw
        subst ej
        rw [hE.m1 j j0 j1] at hm1 hm3
        split at hm1
        · rename_i z; rw [if_pos z] at hm3; exact hm3 rfl
        · exact hm1 rfl
      · have nw : ∀ j, 0 ≤ j → j ≤ s → q j ≠ i := fun j j0 j1 z => cw ⟨j, j0, j1, z⟩
        obtain ⟨k, k0, k1, nk, ek⟩ := hw.id i i0 i1 nw
        rw [ek, tB k k0 k1, hE.m0 k k0 k1 nk, hE.m0 i i0 i1 nw]
        exact ⟨rfl, by have := bs0 k k0 k1; omega, rfl⟩
    · have cb : S.top v ≠ b := fun z => c (by rw [← z]; exact h.th v v0 v1)
      rw [T2 v v0 v1 cb] at hm1 hm3 ⊢
      rw [M2 v v0 v1 cb] at hm1 hm3 ⊢
      obtain ⟨z1, z2, z3⟩ := hT.idl v v0 v1 hm1 hm3
      obtain ⟨q1, q2, q3, q4, q5⟩ := b_mt h hN hM v0 v1 z2
      have cu : S.top (S.mate (S.base (S.top v))) ≠ b := fun z => by rw [z, hm2] at z3; omega
      rw [T2 _ q1 q2 cu, M2 _ q1 q2 cu]
      exact ⟨z1, z2, z3⟩
  · intro v w v0 v1 w0 w1
    rw [hE.n] at v1 w1
    rw [hE.C]; exact hD.sy v w v0 v1 w0 w1
  · rw [hE.n] at v1 w1
    rw [sl]; exact hD.sl v w v0 v1 w0 w1 ne
  · rw [hE.p]; exact hD.z0 y y0 ((U2 y).mp hy).1
  · rw [hE.n, hE.C]; exact hD.ev
  · rw [hE.rs] at i1
    rw [hE.lf, hE.li, sl]
    exact hD.lk y i y0 ((U2 y).mp hy).1 i0 i1
  · have c : y ≠ b := fun z => by rw [z] at hv; exact hE.hb v hv
    rw [hE.p]; exact hD.pa y v w ((hE.hy y v c).mp hv) ((hE.hy y w c).mp hw)
  · rw [hE.n] at v1
    rw [hE.p]; exact hD.tm v v0 v1
  · rw [hE.n] at v1
    rw [hE.ma] at hf
    rw [hE.p]; exact hD.tf v v0 v1 hf
  · rw [hE.n] at v1
    rw [hE.p]
    by_cases cb : S.top v = b
    · exact hP v v0 v1 (by rw [cb, hm2]; decide)
    · rw [T2 v v0 v1 cb, M2 v v0 v1 cb] at hm
      exact hP v v0 v1 hm
  · have z := bno_le (S := S) (S2 := S2) hE.n (fun v v0 v1 hv => by
      have cb : S.top v ≠ b := fun z => by rw [z, hm2] at hv; omega
      rw [T2 v v0 v1 cb, M2 v v0 v1 cb]; exact hv)
    have b1 := (h.hr _ _ hB).2.1
    have e := mt_s_one (f := fun k => if bU S2 (20 + (k : Int)) then (1 : Int) else 0) (g := fun k => if bU S (20 + (k : Int)) then (1 : Int) else 0) (j := (b - 20).toNat) (n := 10) (by omega) (fun k hk ne => by
      have y := U2 (20 + (k : Int))
      by_cases c : bU S (20 + (k : Int))
      · rw [if_pos c, if_pos (y.mpr ⟨c, by omega⟩)]
      · rw [if_neg c, if_neg (fun w => c (y.mp w).1)])
    rw [show 20 + (((b - 20).toNat : Nat) : Int) = b by omega, if_pos hU, if_neg (fun w => ((U2 b).mp w).2 rfl)] at e
    have e2 : bnb S2 = bnb S - 1 := by
      unfold bnb
      rw [e]; omega
    unfold bpt
    omega
