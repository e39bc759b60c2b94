/-! PURE: the way is matched anew -/
theorem bmv_sl {S : bS} {m b r : Int → Int} {v w : Int} : bsl (bmv S m b r) v w = bsl S v w := rfl
/-- a top's base is moved to v, and v is matched with t -/
theorem b_fl {S : bS} (h : bStr S) (hL : bLk S) (hC : bSym S) {m b r m1 b1 r1 : Int → Int} {v t : Int} (v0 : 0 ≤ v) (v1 : v < S.n) (hN : ∀ y, bU S y → bLB (bmv S m b r) y) (hB : bMB S (S.top v) v m b r m1 b1 r1) : (∀ y, bU S y → bLB (bmv S (bup m1 v t) b1 r1) y) ∧ (∀ w, 0 ≤ w → w < S.n → S.top w ≠ S.top v → bup m1 v t w = m w) ∧ (∀ y, bU S y → (∀ w, S.H y w → S.top w ≠ S.top v) → b1 y = b y ∧ r1 y = r y) ∧ (∀ w, 0 ≤ w → w < S.n → S.top w = S.top v → w ≠ v → 0 ≤ bup m1 v t w ∧ bup m1 v t w < S.n ∧ bup m1 v t w ≠ w ∧ bup m1 v t (bup m1 v t w) = w ∧ bsl S w (bup m1 v t w) = 0 ∧ S.top (bup m1 v t w) = S.top v) := by
  have hx : bU S (S.top v) := ⟨v, h.th v v0 v1⟩
  obtain ⟨g1, g2, g3, g4⟩ := hB
  have o2 := bmv_mate (t := t) h hx g1
  rw [g2] at o2
  have hv := h.th v v0 v1
  refine ⟨fun y hy => ?_, fun w w0 w1 hw => ?_, fun y hy hw => ?_, fun w w0 w1 hw ne => ?_⟩
  · by_cases c : bSub S y (S.top v)
    · exact o2 y hy c
    · have dis : ∀ w, S.H y w → ¬ S.H (S.top v) w := fun w hw z => c (by
        have e := b_tsub h hw
        rw [b_ttop h v0 v1 z] at e
        exact e)
      refine bmv_LB h hy (fun w hw => ?_) (fun z hz hs => ?_) ?_ (hN y hy)
      · rw [bup_n (fun e => ?_)]
        · exact g3 w (dis w hw)
        · rw [e] at hw; exact dis v hw hv
      · refine (g4 z (fun q => ?_)).1
        obtain ⟨w, hw⟩ := hz
        exact dis w (hs w hw) (q.2 w hw)
      · exact (g4 y (fun q => c q.2)).2
  · rw [bup_n (fun e => hw (by rw [e]))]
    exact g3 w (fun z => hw (b_ttop h v0 v1 z))
  · refine g4 y (fun q => ?_)
    obtain ⟨w, hw2⟩ := hy
    exact hw w hw2 (b_ttop h v0 v1 (q.2 w hw2))
  · have hH : S.H (S.top v) w := by rw [← hw]; exact h.th w w0 w1
    have z := b_within (S := bmv S (bup m1 v t) b1 r1) (Q := fun a c => (0 ≤ a ∧ a < S.n ∧ 0 ≤ c ∧ c < S.n) ∧ bsl S a c = 0) (bmv_str h _ _ _) (fun a c q => ⟨⟨q.1.2.2.1, q.1.2.2.2, q.1.1, q.1.2.1⟩, (bsl_comm hC q.1.2.2.1 q.1.2.2.2 q.1.1 q.1.2.1).trans q.2⟩) (S.top v) hx o2 (fun c i c0 cU cs i0 i1 => by
      have l := h.lk c i c0 cU i0 i1
      have r1 := h.hr _ _ l.1
      have r2 := h.hr _ _ l.2
      exact ⟨⟨r1.2.2.1, r1.2.2.2, r2.2.2.1, r2.2.2.2⟩, hL c i c0 cU i0 i1⟩) w hH (by show w ≠ b1 (S.top v); rw [g2]; exact ne)
    obtain ⟨z1, z2, z3, z4, z5⟩ := z
    have r := h.hr _ _ z1
    exact ⟨r.2.2.1, r.2.2.2, z3, z2, z5.2, b_ttop h v0 v1 z1⟩
def bGd (S : bS) (P : Int → Prop) (m : Int → Int) (w : Int) : Prop := 0 ≤ m w ∧ m w < S.n ∧ m w ≠ w ∧ m (m w) = w ∧ bsl S w (m w) = 0 ∧ P (S.top (m w))
/-- while a way is matched anew: P: the tops that are done; Ex: whom another way will match -/
abbrev bFI (S : bS) (Ex P : Int → Prop) (here there tt : Int) (m b r : Int → Int) : Prop := Nonempty (PProd (∀ y, bU S y → bLB (bmv S m b r) y) (PProd (∀ w, 0 ≤ w → w < S.n → ¬ P (S.top w) → m w = S.mate w) (PProd (∀ y, bU S y → (∀ w, S.H y w → ¬ P (S.top w)) → b y = S.base y ∧ r y = S.rb y) (PProd (0 ≤ here ∧ here < S.n ∧ S.mr (S.top here) = 1) (PProd (∀ y, P y → ¬ bOn S (S.top here) y) (PProd (∀ w, 0 ≤ w → w < S.n → P (S.top w) → ¬ Ex w → w ≠ there → bGd S P m w ∧ m w ≠ there) (PProd ((Ex here ∧ (∀ y, ¬ P y) ∧ there = tt) ∨ (¬ Ex here ∧ 0 ≤ there ∧ there < S.n ∧ P (S.top there) ∧ m there = here ∧ bsl S there here = 0)) (PProd (∀ w, Ex w → P (S.top w) → m w = tt) (PProd (∀ w, Ex w → (0 ≤ w ∧ w < S.n) ∧ (P (S.top w) ∨ w = here)) (∀ y, P y → S.mate (S.base y) = -1 ∨ P (S.top (S.mate (S.base y)))))))))))))
theorem bFI.nd {S : bS} {Ex P : Int → Prop} {here there tt : Int} {m b r : Int → Int} (h_ : bFI S Ex P here there tt m b r) : ∀ y, bU S y → bLB (bmv S m b r) y := h_.elim (fun x_ => x_.1)
theorem bFI.fm {S : bS} {Ex P : Int → Prop} {here there tt : Int} {m b r : Int → Int} (h_ : bFI S Ex P here there tt m b r) : ∀ w, 0 ≤ w → w < S.n → ¬ P (S.top w) → m w = S.mate w := h_.elim (fun x_ => x_.2.1)
theorem bFI.fb {S : bS} {Ex P : Int → Prop} {here there tt : Int} {m b r : Int → Int} (h_ : bFI S Ex P here there tt m b r) : ∀ y, bU S y → (∀ w, S.H y w → ¬ P (S.top w)) → b y = S.base y ∧ r y = S.rb y := h_.elim (fun x_ => x_.2.2.1)
theorem bFI.hh {S : bS} {Ex P : Int → Prop} {here there tt : Int} {m b r : Int → Int} (h_ : bFI S Ex P here there tt m b r) : 0 ≤ here ∧ here < S.n ∧ S.mr (S.top here) = 1 := h_.elim (fun x_ => x_.2.2.2.1)
theorem bFI.dj {S : bS} {Ex P : Int → Prop} {here there tt : Int} {m b r : Int → Int} (h_ : bFI S Ex P here there tt m b r) : ∀ y, P y → ¬ bOn S (S.top here) y := h_.elim (fun x_ => x_.2.2.2.2.1)
theorem bFI.gd {S : bS} {Ex P : Int → Prop} {here there tt : Int} {m b r : Int → Int} (h_ : bFI S Ex P here there tt m b r) : ∀ w, 0 ≤ w → w < S.n → P (S.top w) → ¬ Ex w → w ≠ there → bGd S P m w ∧ m w ≠ there := h_.elim (fun x_ => x_.2.2.2.2.2.1)
theorem bFI.th {S : bS} {Ex P : Int → Prop} {here there tt : Int} {m b r : Int → Int} (h_ : bFI S Ex P here there tt m b r) : (Ex here ∧ (∀ y, ¬ P y) ∧ there = tt) ∨ (¬ Ex here ∧ 0 ≤ there ∧ there < S.n ∧ P (S.top there) ∧ m there = here ∧ bsl S there here = 0) := h_.elim (fun x_ => x_.2.2.2.2.2.2.1)
theorem bFI.ex {S : bS} {Ex P : Int → Prop} {here there tt : Int} {m b r : Int → Int} (h_ : bFI S Ex P here there tt m b r) : ∀ w, Ex w → P (S.top w) → m w = tt := h_.elim (fun x_ => x_.2.2.2.2.2.2.2.1)
theorem bFI.ew {S : bS} {Ex P : Int → Prop} {here there tt : Int} {m b r : Int → Int} (h_ : bFI S Ex P here there tt m b r) : ∀ w, Ex w → (0 ≤ w ∧ w < S.n) ∧ (P (S.top w) ∨ w = here) := h_.elim (fun x_ => x_.2.2.2.2.2.2.2.2.1)
theorem bFI.cl {S : bS} {Ex P : Int → Prop} {here there tt : Int} {m b r : Int → Int} (h_ : bFI S Ex P here there tt m b r) : ∀ y, P y → S.mate (S.base y) = -1 ∨ P (S.top (S.mate (S.base y))) := h_.elim (fun x_ => x_.2.2.2.2.2.2.2.2.2)
theorem b_flip1 {S : bS} {rk : Int → Int} (h : bStr S) (hN : bNd S) (hM : bMat S) (hT : bTree S rk) (hL : bLk S) (hC : bSym S) {Ex P : Int → Prop} {here there tt : Int} {m b r m1 b1 r1 : Int → Int} (hI : bFI S Ex P here there tt m b r) (hB : bMB S (S.top here) here m b r m1 b1 r1) : m (b (S.top here)) = S.mate (S.base (S.top here)) ∧ (∀ y, bU S y → bLB (bmv S (bup m1 here there) b1 r1) y) ∧ (∀ w, 0 ≤ w → w < S.n → ¬ (P (S.top w) ∨ S.top w = S.top here) → bup m1 here there w = S.mate w) ∧ (∀ y, bU S y → (∀ w, S.H y w → ¬ (P (S.top w) ∨ S.top w = S.top here)) → b1 y = S.base y ∧ r1 y = S.rb y) ∧ (∀ w, 0 ≤ w → w < S.n → (P (S.top w) ∨ S.top w = S.top here) → ¬ Ex w → bGd S (fun y => P y ∨ y = S.top here) (bup m1 here there) w) ∧ (∀ w, Ex w → bup m1 here there w = tt) := by
  obtain ⟨h0, h1, hm⟩ := hI.hh
  have ho : bOut S (S.top here) := ⟨here, h0, h1, rfl, hm⟩
  have hnp : ¬ P (S.top here) := fun z => hI.dj _ z (bOn_r (by have := bOut_0 h ho; omega))
  obtain ⟨f1, f2, f3, f4⟩ := b_fl (t := there) h hL hC h0 h1 hI.nd hB
  obtain ⟨t1, t2, t3, t4⟩ := b_bt h hN h0 h1
  have eb := (hI.fb (S.top here) ⟨_, t1⟩ (fun w hw => by rw [b_ttop h h0 h1 hw]; exact hnp)).1
  refine ⟨by rw [eb]; exact hI.fm _ t2 t3 (by rw [t4]; exact hnp), f1, fun w w0 w1 hw => ?_, fun y hy hw => ?_, fun w w0 w1 hw he => ?_, fun w hE => ?_⟩
  · rw [f2 w w0 w1 (fun z => hw (Or.inr z))]
    exact hI.fm w w0 w1 (fun z => hw (Or.inl z))
  · have z1 := f3 y hy (fun w hw2 z => hw w hw2 (Or.inr z))
    have z2 := hI.fb y hy (fun w hw2 z => hw w hw2 (Or.inl z))
    exact ⟨z1.1.trans z2.1, z1.2.trans z2.2⟩
  · by_cases c : S.top w = S.top here
    · by_cases c2 : w = here
      · rw [c2] at he ⊢
        rcases hI.th with z | ⟨-, z0, z1, z2, z3, z4⟩
        · exact absurd z.1 he
        · have nt : S.top there ≠ S.top here := fun z => hnp (by rw [← z]; exact z2)
          have nh : there ≠ here := fun z => nt (by rw [z])
          refine ⟨?_, ?_, ?_, ?_, ?_, ?_⟩ <;> rw [bup_e]
          · exact z0
          · exact z1
          · exact nh
          · rw [f2 there z0 z1 nt]; exact z3
          · rw [bsl_comm hC h0 h1 z0 z1]; exact z4
          · exact Or.inl z2
      · obtain ⟨q1, q2, q3, q4, q5, q6⟩ := f4 w w0 w1 c c2
        exact ⟨q1, q2, q3, q4, q5, Or.inr q6⟩
    · have hP : P (S.top w) := hw.resolve_right c
      have ew := f2 w w0 w1 c
      by_cases c2 : w = there
      · rw [c2] at ew c hP he ⊢
        rcases hI.th with z | ⟨-, z0, z1, z2, z3, z4⟩
        · exact absurd hP (z.2.1 _)
        · rw [z3] at ew
          refine ⟨?_, ?_, ?_, ?_, ?_, ?_⟩ <;> rw [ew]
          · exact h0
          · exact h1
          · intro z; rw [← z] at c; exact c rfl
          · exact bup_e
          · exact z4
          · exact Or.inr rfl
      · obtain ⟨⟨q1, q2, q3, q4, q5, q6⟩, q7⟩ := hI.gd w w0 w1 hP he c2
        have nt : S.top (m w) ≠ S.top here := fun z => hnp (by rw [← z]; exact q6)
        refine ⟨?_, ?_, ?_, ?_, ?_, ?_⟩ <;> rw [ew]
        · exact q1
        · exact q2
        · exact q3
        · rw [f2 (m w) q1 q2 nt]; exact q4
        · exact q5
        · exact Or.inl q6
  · obtain ⟨⟨w0, w1⟩, hPw⟩ := hI.ew w hE
    rcases hPw with z | z
    · have c : S.top w ≠ S.top here := fun e => hnp (by rw [← e]; exact z)
      rw [f2 w w0 w1 c]
      exact hI.ex w hE z
    · rw [z, bup_e]
      rw [z] at hE
      rcases hI.th with q | q
      · exact q.2.2
      · exact absurd hE q.1
/-- the step to the next outer node -/
theorem b_flip2 {S : bS} {rk : Int → Int} (h : bStr S) (hN : bNd S) (hM : bMat S) (hT : bTree S rk) (hL : bLk S) (hC : bSym S) {Ex P : Int → Prop} {here there tt u : Int} {m b r m1 b1 r1 m3 b3 r3 : Int → Int} (hI : bFI S Ex P here there tt m b r) (hB : bMB S (S.top here) here m b r m1 b1 r1) (hu : S.mate (S.base (S.top here)) = u) (hu1 : u ≠ -1) (hB2 : bMB S (S.top u) (S.io (S.top u)) (bup m1 here there) b1 r1 m3 b3 r3) : bFI S Ex (fun y => (P y ∨ y = S.top here) ∨ y = S.top u) (S.fr (S.top u)) (S.io (S.top u)) tt (bup m3 (S.io (S.top u)) (S.fr (S.top u))) b3 r3 ∧ S.top (S.fr (S.top u)) = bAb S (S.top here) := by
  obtain ⟨-, g1, g2, g3, g4, g5⟩ := b_flip1 h hN hM hT hL hC hI hB
  obtain ⟨h0, h1, hm⟩ := hI.hh
  have ho : bOut S (S.top here) := ⟨here, h0, h1, rfl, hm⟩
  have o0 : S.top here ≠ -1 := by have := bOut_0 h ho; omega
  obtain ⟨u', u0, u1, e, bu, mu, -, k1, iH, f0, f1, fo, k2, sl, ab⟩ := b_up h hN hM hT ho (by rw [hu]; exact hu1)
  obtain rfl : u' = u := e.symm.trans hu
  have ir := h.hr _ _ iH
  have ti : S.top (S.io (S.top u')) = S.top u' := b_ttop h u0 u1 iH
  rw [← ti] at hB2
  obtain ⟨q1, q2, q3, q4⟩ := b_fl (t := S.fr (S.top u')) h hL hC ir.2.2.1 ir.2.2.2 g1 (by rw [ti]; rw [ti] at hB2; exact hB2)
  rw [ti] at q2 q3 q4
  have nio : S.top u' ≠ S.top here := fun z => by rw [z] at k1; omega
  have niP : ¬ P (S.top u') := fun z => hI.dj _ z (by rw [← hu]; exact bOn_i o0 (by rw [hu]; exact hu1))
  have ni1 : ¬ (P (S.top u') ∨ S.top u' = S.top here) := fun z => z.elim niP nio
  have nf : S.top (S.fr (S.top u')) ≠ S.top u' := fun z => by rw [z] at k2; omega
  have nfo : S.top (S.fr (S.top u')) ≠ S.top here := fun z => by rw [z] at k2; omega
  have nfP : ¬ P (S.top (S.fr (S.top u'))) := fun z => hI.dj _ z (bOn_u o0 (by rw [ab]; exact bOn_r (by have := bOut_0 h fo; omega)))
  refine ⟨⟨q1, fun w w0 w1 hw => ?_, fun y hy hw => ?_, ⟨f0, f1, by obtain ⟨_, -, -, -, z⟩ := fo; exact z⟩, fun y hy hon => ?_, fun w w0 w1 hP hE hne => ?_, Or.inr ⟨fun z => ?_, ir.2.2.1, ir.2.2.2, Or.inr ti, bup_e, (bsl_comm hC ir.2.2.1 ir.2.2.2 f0 f1).trans sl⟩, fun w hE hP => ?_, fun w hE => ?_, fun y hy => ?_⟩, ab.symm⟩
  · rw [q2 w w0 w1 (fun z => hw (Or.inr z))]
    exact g2 w w0 w1 (fun z => hw (Or.inl z))
  · have z1 := q3 y hy (fun w hw2 z => hw w hw2 (Or.inr z))
    have z2 := g3 y hy (fun w hw2 z => hw w hw2 (Or.inl z))
    exact ⟨z1.1.trans z2.1, z1.2.trans z2.2⟩
  · have z := bOn_rk h hN hM hT fo hon
    rcases hy with (hy | hy) | hy
    · exact hI.dj y hy (bOn_u o0 (by rw [ab]; exact hon))
    · rw [hy] at z; omega
    · rw [hy] at z; omega
  · by_cases c : S.top w = S.top u'
    · obtain ⟨a1, a2, a3, a4, a5, a6⟩ := q4 w w0 w1 c hne
      refine ⟨⟨a1, a2, a3, a4, a5, Or.inr a6⟩, fun z => ?_⟩
      rw [z, bup_e] at a4
      rw [← a4] at c
      exact nf c
    · obtain ⟨a1, a2, a3, a4, a5, a6⟩ := g4 w w0 w1 (hP.resolve_right c) hE
      have ew := q2 w w0 w1 c
      have nt : S.top (bup m1 here there w) ≠ S.top u' := fun z => ni1 (by rw [← z]; exact a6)
      refine ⟨⟨?_, ?_, ?_, ?_, ?_, ?_⟩, fun z => ?_⟩
      · rw [ew]; exact a1
      · rw [ew]; exact a2
      · rw [ew]; exact a3
      · rw [ew, q2 _ a1 a2 nt]; exact a4
      · rw [ew]; exact a5
      · rw [ew]; exact Or.inl a6
      · rw [ew] at z
        rw [z] at nt
        exact nt ti
  · rcases (hI.ew _ z).2 with q | q
    · exact nfP q
    · exact nfo (by rw [q])
  · obtain ⟨⟨w0, w1⟩, z⟩ := hI.ew w hE
    have nt : S.top w ≠ S.top u' := fun e => by
      rcases z with z | z
      · exact niP (by rw [← e]; exact z)
      · exact nio (by rw [← e, z])
    rw [q2 w w0 w1 nt]
    exact g5 w hE
  · obtain ⟨w01, z⟩ := hI.ew w hE
    refine ⟨w01, Or.inl ?_⟩
    rcases z with z | z
    · exact Or.inl (Or.inl z)
    · exact Or.inl (Or.inr (by rw [z]))
  · rcases hy with (hy | hy) | hy
    · rcases hI.cl y hy with z | z
      · exact Or.inl z
      · exact Or.inr (Or.inl (Or.inl z))
    · rw [hy]
      exact Or.inr (Or.inr (by rw [hu]))
    · rw [hy, bu, mu]
      exact Or.inr (Or.inl (Or.inr (b_bt h hN h0 h1).2.2.2))
/-- before the first way -/
theorem bFI_0 {S : bS} (hN : bNd S) {a t : Int} (a0 : 0 ≤ a) (a1 : a < S.n) (hm : S.mr (S.top a) = 1) : bFI S (fun w => w = a) (fun _ => False) a t t S.mate S.base S.rb :=
  ⟨hN, fun _ _ _ _ => rfl, fun _ _ _ => ⟨rfl, rfl⟩, ⟨a0, a1, hm⟩, fun _ z => z.elim, fun _ _ _ z => z.elim, Or.inl ⟨rfl, fun _ z => z, rfl⟩, fun _ _ z => z.elim, fun w hw => ⟨by rw [hw]; exact ⟨a0, a1⟩, Or.inr hw⟩, fun _ z => z.elim⟩
