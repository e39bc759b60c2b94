/-! PURE: two trees are joined -/
/-- where a way has come to its root -/
abbrev bFE (S : bS) (Ex P : Int → Prop) (tt : Int) (m b r : Int → Int) : Prop := Nonempty (PProd (∀ y, bU S y → bLB (bmv S m b r) y) (PProd (∀ w, 0 ≤ w → w < S.n → ¬ P (S.top w) → m w = S.mate w) (PProd (∀ y, bU S y → (∀ w, S.H y w → ¬ P (S.top w)) → b y = S.base y ∧ r y = S.rb y) (PProd (∀ w, 0 ≤ w → w < S.n → P (S.top w) → ¬ Ex w → bGd S P m w) (PProd (∀ w, Ex w → m w = tt) (PProd (∀ w, Ex w → P (S.top w)) (∀ y, P y → S.mate (S.base y) = -1 ∨ P (S.top (S.mate (S.base y))))))))))
theorem bFE.nd {S : bS} {Ex P : Int → Prop} {tt : Int} {m b r : Int → Int} (h_ : bFE S Ex P tt m b r) : ∀ y, bU S y → bLB (bmv S m b r) y := h_.elim (fun x_ => x_.1)
theorem bFE.fm {S : bS} {Ex P : Int → Prop} {tt : Int} {m b r : Int → Int} (h_ : bFE S Ex P tt m b r) : ∀ w, 0 ≤ w → w < S.n → ¬ P (S.top w) → m w = S.mate w := h_.elim (fun x_ => x_.2.1)
theorem bFE.fb {S : bS} {Ex P : Int → Prop} {tt : Int} {m b r : Int → Int} (h_ : bFE S Ex P tt m b r) : ∀ y, bU S y → (∀ w, S.H y w → ¬ P (S.top w)) → b y = S.base y ∧ r y = S.rb y := h_.elim (fun x_ => x_.2.2.1)
theorem bFE.gd {S : bS} {Ex P : Int → Prop} {tt : Int} {m b r : Int → Int} (h_ : bFE S Ex P tt m b r) : ∀ w, 0 ≤ w → w < S.n → P (S.top w) → ¬ Ex w → bGd S P m w := h_.elim (fun x_ => x_.2.2.2.1)
theorem bFE.ex {S : bS} {Ex P : Int → Prop} {tt : Int} {m b r : Int → Int} (h_ : bFE S Ex P tt m b r) : ∀ w, Ex w → m w = tt := h_.elim (fun x_ => x_.2.2.2.2.1)
theorem bFE.ew {S : bS} {Ex P : Int → Prop} {tt : Int} {m b r : Int → Int} (h_ : bFE S Ex P tt m b r) : ∀ w, Ex w → P (S.top w) := h_.elim (fun x_ => x_.2.2.2.2.2.1)
theorem bFE.cl {S : bS} {Ex P : Int → Prop} {tt : Int} {m b r : Int → Int} (h_ : bFE S Ex P tt m b r) : ∀ y, P y → S.mate (S.base y) = -1 ∨ P (S.top (S.mate (S.base y))) := h_.elim (fun x_ => x_.2.2.2.2.2.2)
theorem b_flip3 {S : bS} {rk : Int → Int} (h : bStr S) (hN : bNd S) (hM : bMat S) (hT : bTree S rk) (hL : bLk S) (hC : bSym S) {Ex P : Int → Prop} {here there tt : Int} {m b r m1 b1 r1 : Int → Int} (hI : bFI S Ex P here there tt m b r) (hB : bMB S (S.top here) here m b r m1 b1 r1) (hu : S.mate (S.base (S.top here)) = -1) : bFE S Ex (fun y => P y ∨ y = S.top here) tt (bup m1 here there) b1 r1 := by
  obtain ⟨-, g1, g2, g3, g4, g5⟩ := b_flip1 h hN hM hT hL hC hI hB
  refine ⟨g1, g2, g3, g4, g5, fun w hE => ?_, fun y hy => ?_⟩
  · rcases (hI.ew w hE).2 with z | z
    · exact Or.inl z
    · exact Or.inr (by rw [z])
  · rcases hy with z | z
    · rcases hI.cl y z with q | q
      · exact Or.inl q
      · exact Or.inr (Or.inl q)
    · rw [z]; exact Or.inl hu
/-- the second way begins -/
theorem bFI_1 {S : bS} {P : Int → Prop} {a c : Int} {m b r : Int → Int} (hE : bFE S (fun w => w = a) P c m b r) (h : bStr S) (a0 : 0 ≤ a) (a1 : a < S.n) (c0 : 0 ≤ c) (c1 : c < S.n) (hm : S.mr (S.top c) = 1) (hd : ∀ y, P y → ¬ bOn S (S.top c) y) (hs : bsl S a c = 0) : bFI S (fun _ => False) P c a 0 m b r := by
  have nc : ¬ P (S.top c) := fun z => hd _ z (bOn_r (by have := b_top0 h c0 c1; omega))
  refine ⟨hE.nd, hE.fm, hE.fb, ⟨c0, c1, hm⟩, hd, fun w w0 w1 hP _ hne => ?_, Or.inr ⟨id, a0, a1, hE.ew a rfl, hE.ex a rfl, hs⟩, fun _ z => z.elim, fun _ z => z.elim, hE.cl⟩
  have g := hE.gd w w0 w1 hP hne
  refine ⟨g, fun z => ?_⟩
  have e := g.2.2.2.1
  rw [z, hE.ex a rfl] at e
  rw [← e] at hP
  exact nc hP
/-- a way's own nodes, where the other way is none of it -/
theorem b_apart {S : bS} {rk : Int → Int} (h : bStr S) (hN : bNd S) (hM : bMat S) (hT : bTree S rk) {x y z : Int} (hx : bOut S x) (hy : bOut S y) (hd : ∀ i j : Nat, bAbn S x i ≠ -1 → bAbn S x i ≠ bAbn S y j) (h1 : bOn S x z) (h2 : bOn S y z) : False := by
  obtain ⟨i, i0, zi⟩ := h1
  obtain ⟨j, j0, zj⟩ := h2
  obtain ⟨oi, -⟩ := b_abn h hN hM hT hx i i0
  obtain ⟨oj, -⟩ := b_abn h hN hM hT hy j j0
  rcases zi with rfl | ⟨mi, rfl⟩
  · rcases zj with e | ⟨mj, e⟩
    · exact hd i j i0 e
    · obtain ⟨u, -, -, eu, -, -, m2, -⟩ := b_up h hN hM hT oj mj
      rw [eu] at e
      rw [← e] at m2
      obtain ⟨_, -, -, -, q⟩ := oi
      omega
  · obtain ⟨u, -, -, eu, -, -, m2, -, -, -, -, fo, -, -, ab⟩ := b_up h hN hM hT oi mi
    rw [eu] at zj
    rcases zj with e | ⟨mj, e⟩
    · rw [e] at m2
      obtain ⟨_, -, -, -, q⟩ := oj
      omega
    · obtain ⟨u2, -, -, eu2, -, -, -, -, -, -, -, fo2, -, -, ab2⟩ := b_up h hN hM hT oj mj
      rw [eu2] at e
      have s1 : bAbn S x (i + 1) = S.top (S.fr (S.top u)) := (if_neg i0).trans ab
      have s2 : bAbn S y (j + 1) = S.top (S.fr (S.top u2)) := (if_neg j0).trans ab2
      refine hd (i + 1) (j + 1) (by rw [s1]; have := bOut_0 h fo; omega) ?_
      rw [s1, s2, e]
/-- how many are free -/
noncomputable def bnf (S : bS) : Int := mt_s (fun k => if S.mate (k : Int) = -1 then 1 else 0) S.n.toNat
/-- both ways are matched anew: a matching of two more -/
theorem b_join {S : bS} (h : bStr S) (hN : bNd S) (hM : bMat S) {P : Int → Prop} {m b r : Int → Int} (hE : bFE S (fun _ => False) P 0 m b r) : bNd (bmv S m b r) ∧ bMat (bmv S m b r) := by
  refine ⟨hE.nd, fun w w0 w1 => ?_⟩
  show m w = -1 ∨ (0 ≤ m w ∧ m w < S.n ∧ m w ≠ w ∧ m (m w) = w ∧ bsl S w (m w) = 0)
  by_cases c : P (S.top w)
  · have g := hE.gd w w0 w1 c id
    exact Or.inr ⟨g.1, g.2.1, g.2.2.1, g.2.2.2.1, g.2.2.2.2.1⟩
  · rw [hE.fm w w0 w1 c]
    rcases hM w w0 w1 with z | ⟨a1, a2, a3, a4, a5⟩
    · exact Or.inl z
    · refine Or.inr ⟨a1, a2, a3, ?_, a5⟩
      rw [hE.fm _ a1 a2 (fun z => ?_)]
      · exact a4
      · have hw := h.th w w0 w1
        by_cases cb : w = S.base (S.top w)
        · have ne : S.mate (S.base (S.top w)) ≠ -1 := by rw [← cb]; omega
          obtain ⟨-, -, -, q, -⟩ := b_mt h hN hM w0 w1 ne
          rw [← cb] at q
          rcases hE.cl _ z with y | y
          · rw [q, a4] at y; omega
          · rw [q, a4] at y; exact c y
        · have q := (b_win h hN hw cb).1
          rw [b_ttop h w0 w1 q] at z
          exact c z
theorem b_nf2 {S : bS} {m b r : Int → Int} {x y : Int} (hm : ∀ w, 0 ≤ w → w < S.n → m w = -1 → S.mate w = -1) (x0 : 0 ≤ x) (x1 : x < S.n) (y0 : 0 ≤ y) (y1 : y < S.n) (hxy : x ≠ y) (fx : S.mate x = -1) (fy : S.mate y = -1) (gx : m x ≠ -1) (gy : m y ≠ -1) : bnf (bmv S m b r) + 2 ≤ bnf S := by
  classical
  have hh : mt_s (fun k => (if m (k : Int) = -1 then (1 : Int) else 0) + ((if k = x.toNat then 1 else 0) + (if k = y.toNat then 1 else 0))) S.n.toNat ≤ mt_s (fun k => if S.mate (k : Int) = -1 then (1 : Int) else 0) S.n.toNat := by
    refine mt_s_le (fun k hk => ?_)
    by_cases c : k = x.toNat
    · have e : ((k : Nat) : Int) = x := by omega
      rw [e, if_neg gx, if_pos c, if_pos fx, if_neg (by omega)]; omega
    · by_cases c2 : k = y.toNat
      · have e : ((k : Nat) : Int) = y := by omega
        rw [e, if_neg gy, if_neg c, if_pos fy, if_pos c2]; omega
      · rw [if_neg c, if_neg c2]
        by_cases c3 : m (k : Int) = -1
        · rw [if_pos c3, if_pos (hm _ (by omega) (by omega) c3)]; omega
        · rw [if_neg c3]; split <;> omega
  rw [mt_s_add, mt_s_add, b_one (by omega), b_one (by omega)] at hh
  unfold bnf
  have e : mt_s (fun k => if (bmv S m b r).mate (k : Int) = -1 then (1 : Int) else 0) (bmv S m b r).n.toNat = mt_s (fun k => if m (k : Int) = -1 then (1 : Int) else 0) S.n.toNat := rfl
  rw [e]
  omega
