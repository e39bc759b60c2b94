/-! PURE: two ways that meet make a ring -/
abbrev bWy (S : bS) (a b : Int) (kd ku : Nat) (g f o : Int → Int) : Prop := Nonempty (PProd (g 0 = bAbn S (S.top a) kd) (PProd (∀ j : Nat, j < kd → g (2 * ((kd : Int) - j)) = bAbn S (S.top a) j ∧ g (2 * ((kd : Int) - j) - 1) = S.top (S.mate (S.base (bAbn S (S.top a) j))) ∧ f (2 * ((kd : Int) - j) - 1) = S.mate (S.base (bAbn S (S.top a) j)) ∧ o (2 * ((kd : Int) - j) - 1) = S.base (bAbn S (S.top a) j) ∧ f (2 * ((kd : Int) - j) - 2) = S.fr (S.top (S.mate (S.base (bAbn S (S.top a) j)))) ∧ o (2 * ((kd : Int) - j) - 2) = S.io (S.top (S.mate (S.base (bAbn S (S.top a) j))))) (PProd (f (2 * (kd : Int)) = a ∧ o (2 * (kd : Int)) = b) (∀ j : Nat, j < ku → g (2 * (kd : Int) + 1 + 2 * j) = bAbn S (S.top b) j ∧ g (2 * (kd : Int) + 2 + 2 * j) = S.top (S.mate (S.base (bAbn S (S.top b) j))) ∧ f (2 * (kd : Int) + 1 + 2 * j) = S.base (bAbn S (S.top b) j) ∧ o (2 * (kd : Int) + 1 + 2 * j) = S.mate (S.base (bAbn S (S.top b) j)) ∧ f (2 * (kd : Int) + 2 + 2 * j) = S.io (S.top (S.mate (S.base (bAbn S (S.top b) j)))) ∧ o (2 * (kd : Int) + 2 + 2 * j) = S.fr (S.top (S.mate (S.base (bAbn S (S.top b) j))))))))
theorem bWy.g0 {S : bS} {a b : Int} {kd ku : Nat} {g f o : Int → Int} (h_ : bWy S a b kd ku g f o) : g 0 = bAbn S (S.top a) kd := h_.elim (fun x_ => x_.1)
theorem bWy.d {S : bS} {a b : Int} {kd ku : Nat} {g f o : Int → Int} (h_ : bWy S a b kd ku g f o) : ∀ j : Nat, j < kd → g (2 * ((kd : Int) - j)) = bAbn S (S.top a) j ∧ g (2 * ((kd : Int) - j) - 1) = S.top (S.mate (S.base (bAbn S (S.top a) j))) ∧ f (2 * ((kd : Int) - j) - 1) = S.mate (S.base (bAbn S (S.top a) j)) ∧ o (2 * ((kd : Int) - j) - 1) = S.base (bAbn S (S.top a) j) ∧ f (2 * ((kd : Int) - j) - 2) = S.fr (S.top (S.mate (S.base (bAbn S (S.top a) j)))) ∧ o (2 * ((kd : Int) - j) - 2) = S.io (S.top (S.mate (S.base (bAbn S (S.top a) j)))) := h_.elim (fun x_ => x_.2.1)
theorem bWy.ab {S : bS} {a b : Int} {kd ku : Nat} {g f o : Int → Int} (h_ : bWy S a b kd ku g f o) : f (2 * (kd : Int)) = a ∧ o (2 * (kd : Int)) = b := h_.elim (fun x_ => x_.2.2.1)
theorem bWy.u {S : bS} {a b : Int} {kd ku : Nat} {g f o : Int → Int} (h_ : bWy S a b kd ku g f o) : ∀ j : Nat, j < ku → g (2 * (kd : Int) + 1 + 2 * j) = bAbn S (S.top b) j ∧ g (2 * (kd : Int) + 2 + 2 * j) = S.top (S.mate (S.base (bAbn S (S.top b) j))) ∧ f (2 * (kd : Int) + 1 + 2 * j) = S.base (bAbn S (S.top b) j) ∧ o (2 * (kd : Int) + 1 + 2 * j) = S.mate (S.base (bAbn S (S.top b) j)) ∧ f (2 * (kd : Int) + 2 + 2 * j) = S.io (S.top (S.mate (S.base (bAbn S (S.top b) j)))) ∧ o (2 * (kd : Int) + 2 + 2 * j) = S.fr (S.top (S.mate (S.base (bAbn S (S.top b) j)))) := h_.elim (fun x_ => x_.2.2.2)
/-- one step of a way that goes on -/
theorem b_stp {S : bS} {rk : Int → Int} (h : bStr S) (hN : bNd S) (hM : bMat S) (hT : bTree S rk) {x : Int} (hx : bOut S x) {j : Nat} (hj : bAbn S x (j + 1) ≠ -1) : ∃ u, 0 ≤ u ∧ u < S.n ∧ 0 ≤ S.base (bAbn S x j) ∧ S.base (bAbn S x j) < S.n ∧ S.mate (S.base (bAbn S x j)) = u ∧ S.base (S.top u) = u ∧ S.mate u = S.base (bAbn S x j) ∧ S.mr (S.top u) = 2 ∧ rk (S.top u) < rk (bAbn S x j) ∧ S.H (S.top u) (S.io (S.top u)) ∧ 0 ≤ S.fr (S.top u) ∧ S.fr (S.top u) < S.n ∧ rk (bAbn S x (j + 1)) < rk (S.top u) ∧ bsl S (S.fr (S.top u)) (S.io (S.top u)) = 0 ∧ bAbn S x (j + 1) = S.top (S.fr (S.top u)) ∧ S.H (bAbn S x j) (S.base (bAbn S x j)) ∧ S.top (S.base (bAbn S x j)) = bAbn S x j ∧ S.H (S.top u) u ∧ S.H (bAbn S x (j + 1)) (S.fr (S.top u)) ∧ bsl S (S.base (bAbn S x j)) u = 0 ∧ bOut S (bAbn S x j) := by
  have cj := bAbn_le hj (Nat.le_succ j)
  have e : bAbn S x (j + 1) = bAb S (bAbn S x j) := if_neg cj
  obtain ⟨oj, -⟩ := b_abn h hN hM hT hx j cj
  have hne : S.mate (S.base (bAbn S x j)) ≠ -1 := fun z => by
    rw [e] at hj
    unfold bAb at hj; rw [if_pos z] at hj; exact hj rfl
  obtain ⟨u, u0, u1, u2, u3, u4, u5, u6, u7, u8, u9, u10, u11, u12, u13⟩ := b_up h hN hM hT oj hne
  have oj0 := oj
  obtain ⟨v, v0, v1, ev, -⟩ := oj
  have z := b_bt h hN v0 v1
  rw [ev] at z
  refine ⟨u, u0, u1, z.2.1, z.2.2.1, u2, u3, u4, u5, u6, u7, u8, u9, by rw [e, u13]; exact u11, u12, by rw [e, u13], z.1, z.2.2.2, h.th u u0 u1, by rw [e, u13]; exact h.th _ u8 u9, ?_, oj0⟩
  rcases hM _ z.2.1 z.2.2.1 with q | q
  · exact absurd q hne
  · rw [u2] at q; exact q.2.2.2.2
theorem b_ring {S : bS} {rk : Int → Int} {a b : Int} {kd ku : Nat} {g f o : Int → Int} (h : bStr S) (hN : bNd S) (hM : bMat S) (hT : bTree S rk) (hC : bSym S) (a0 : 0 ≤ a) (a1 : a < S.n) (b0 : 0 ≤ b) (b1 : b < S.n) (ha : S.mr (S.top a) = 1) (hb : S.mr (S.top b) = 1) (hab : S.top a ≠ S.top b) (hs : bsl S a b = 0) (hm : bAbn S (S.top a) kd ≠ -1) (hme : bAbn S (S.top b) ku = bAbn S (S.top a) kd) (hfi : ∀ i j : Nat, i ≤ kd → j < ku → bAbn S (S.top a) i ≠ bAbn S (S.top b) j) (hw : bWy S a b kd ku g f o) : bCy S rk (2 * (kd : Int) + 1 + 2 * ku) g f o := by
  have oa : bOut S (S.top a) := ⟨a, a0, a1, rfl, ha⟩
  have ob : bOut S (S.top b) := ⟨b, b0, b1, rfl, hb⟩
  have hm' : bAbn S (S.top b) ku ≠ -1 := by rw [hme]; exact hm
  have sa : ∀ j : Nat, j < kd → bAbn S (S.top a) (j + 1) ≠ -1 := fun j hj => bAbn_le hm (by omega)
  have sb : ∀ j : Nat, j < ku → bAbn S (S.top b) (j + 1) ≠ -1 := fun j hj => bAbn_le hm' (by omega)
  have oA : ∀ j : Nat, j ≤ kd → bOut S (bAbn S (S.top a) j) := fun j hj => (b_abn h hN hM hT oa j (bAbn_le hm hj)).1
  have oB : ∀ j : Nat, j ≤ ku → bOut S (bAbn S (S.top b) j) := fun j hj => (b_abn h hN hM hT ob j (bAbn_le hm' hj)).1
  -- the outer nodes, by number
  let W : Nat → Int := fun d => if d ≤ kd then bAbn S (S.top a) (kd - d) else bAbn S (S.top b) (d - kd - 1)
  have W1 : ∀ d, d ≤ kd → W d = bAbn S (S.top a) (kd - d) := fun d hd => if_pos hd
  have W2 : ∀ d, kd < d → W d = bAbn S (S.top b) (d - kd - 1) := fun d hd => if_neg (by omega)
  have Winj : ∀ d e, d < e → e ≤ kd + ku → W d ≠ W e := fun d e hde he z => by
    by_cases c1 : e ≤ kd
    · rw [W1 d (by omega), W1 e c1] at z
      have l := b_abn_lt h hN hM hT oa (j := kd - e) (k := kd - d) (by omega) (bAbn_le hm (by omega))
      rw [z] at l; omega
    · by_cases c2 : d ≤ kd
      · rw [W1 d c2, W2 e (by omega)] at z
        exact hfi _ _ (by omega) (by omega) z
      · rw [W2 d (by omega), W2 e (by omega)] at z
        have l := b_abn_lt h hN hM hT ob (j := d - kd - 1) (k := e - kd - 1) (by omega) (bAbn_le hm' (by omega))
        rw [z] at l; omega
  have Wout : ∀ d, d ≤ kd + ku → bOut S (W d) := fun d hd => by
    by_cases c : d ≤ kd
    · rw [W1 d c]; exact oA _ (by omega)
    · rw [W2 d (by omega)]; exact oB _ (by omega)
  have rM : ∀ d, d ≤ kd + ku → rk (bAbn S (S.top a) kd) ≤ rk (W d) := fun d hd => by
    by_cases c : d ≤ kd
    · rw [W1 d c]
      by_cases c0 : d = 0
      · rw [c0]; exact Int.le_refl _
      · have := b_abn_lt h hN hM hT oa (j := kd - d) (k := kd) (by omega) hm
        omega
    · rw [W2 d (by omega), ← hme]
      have := b_abn_lt h hN hM hT ob (j := d - kd - 1) (k := ku) (by omega) hm'
      omega
  -- the inner node that hangs below each but the first
  have Win : ∀ d, 1 ≤ d → d ≤ kd + ku → ∃ u, 0 ≤ u ∧ u < S.n ∧ S.mate (S.base (W d)) = u ∧ S.base (S.top u) = u ∧ S.mate u = S.base (W d) ∧ S.mr (S.top u) = 2 ∧ S.top (S.base (W d)) = W d ∧ rk (bAbn S (S.top a) kd) ≤ rk (S.top u) := fun d hd1 hd => by
    by_cases c : d ≤ kd
    · rw [W1 d c]
      obtain ⟨u, u0, u1, -, -, u2, u3, u4, u5, -, -, -, -, u6, -, -, -, u7, -⟩ := b_stp h hN hM hT oa (sa (kd - d) (by omega))
      have q := rM (d - 1) (by omega)
      rw [W1 _ (by omega), show kd - (d - 1) = kd - d + 1 by omega] at q
      exact ⟨u, u0, u1, u2, u3, u4, u5, u7, by omega⟩
    · rw [W2 d (by omega)]
      obtain ⟨u, u0, u1, -, -, u2, u3, u4, u5, -, -, -, -, u6, -, -, -, u7, -⟩ := b_stp h hN hM hT ob (sb (d - kd - 1) (by omega))
      have q : rk (bAbn S (S.top a) kd) ≤ rk (bAbn S (S.top b) (d - kd - 1 + 1)) := by
        by_cases ce : d = kd + ku
        · rw [show d - kd - 1 + 1 = ku by omega, hme]; exact Int.le_refl _
        · have q := rM (d + 1) (by omega)
          rw [W2 _ (by omega), show d + 1 - kd - 1 = d - kd - 1 + 1 by omega] at q
          exact q
      exact ⟨u, u0, u1, u2, u3, u4, u5, u7, by omega⟩
  -- what stands at each place
  have cs : ∀ i, 0 ≤ i → i < 2 * (kd : Int) + 1 + 2 * ku → ∃ d : Nat, d ≤ kd + ku ∧ ((g i = W d ∧ i = if d ≤ kd then 2 * (d : Int) else 2 * (d : Int) - 1) ∨ (1 ≤ d ∧ g i = S.top (S.mate (S.base (W d))) ∧ i = if d ≤ kd then 2 * (d : Int) - 1 else 2 * (d : Int))) := fun i i0 i1 => by
    by_cases c0 : i = 0
    · exact ⟨0, by omega, Or.inl ⟨by rw [c0, hw.g0, W1 0 (by omega)]; rfl, by rw [if_pos (by omega), c0]; rfl⟩⟩
    · by_cases c : i ≤ 2 * (kd : Int)
      · by_cases odd : i % 2 = 1
        · obtain ⟨d, hd⟩ : ∃ d : Nat, i = 2 * (d : Int) - 1 := ⟨((i + 1) / 2).toNat, by omega⟩
          have z := hw.d (kd - d) (by omega)
          refine ⟨d, by omega, Or.inr ⟨by omega, ?_, by rw [if_pos (by omega)]; exact hd⟩⟩
          rw [W1 d (by omega), ← z.2.1, show 2 * ((kd : Int) - ((kd - d : Nat) : Int)) - 1 = i by omega]
        · obtain ⟨d, hd⟩ : ∃ d : Nat, i = 2 * (d : Int) := ⟨(i / 2).toNat, by omega⟩
          have z := hw.d (kd - d) (by omega)
          refine ⟨d, by omega, Or.inl ⟨?_, by rw [if_pos (by omega)]; exact hd⟩⟩
          rw [W1 d (by omega), ← z.1, show 2 * ((kd : Int) - ((kd - d : Nat) : Int)) = i by omega]
      · by_cases odd : i % 2 = 1
        · obtain ⟨d, hd⟩ : ∃ d : Nat, i = 2 * (d : Int) - 1 := ⟨((i + 1) / 2).toNat, by omega⟩
          have z := hw.u (d - kd - 1) (by omega)
          refine ⟨d, by omega, Or.inl ⟨?_, by rw [if_neg (by omega)]; exact hd⟩⟩
          rw [W2 d (by omega), ← z.1, show 2 * (kd : Int) + 1 + 2 * ((d - kd - 1 : Nat) : Int) = i by omega]
        · obtain ⟨d, hd⟩ : ∃ d : Nat, i = 2 * (d : Int) := ⟨(i / 2).toNat, by omega⟩
          have z := hw.u (d - kd - 1) (by omega)
          refine ⟨d, by omega, Or.inr ⟨by omega, ?_, by rw [if_neg (by omega)]; exact hd⟩⟩
          rw [W2 d (by omega), ← z.2.1, show 2 * (kd : Int) + 2 + 2 * ((d - kd - 1 : Nat) : Int) = i by omega]
  have kk : 1 ≤ kd + ku := by
    rcases Nat.eq_zero_or_pos (kd + ku) with z | z
    · exfalso
      have e1 : kd = 0 := by omega
      have e2 : ku = 0 := by omega
      rw [e1, e2] at hme
      exact hab hme.symm
    · exact z
  have tp : ∀ i, 0 ≤ i → i < 2 * (kd : Int) + 1 + 2 * ku → bTp S (g i) := fun i i0 i1 => by
    obtain ⟨d, hd, z⟩ := cs i i0 i1
    rcases z with ⟨z, -⟩ | ⟨d1, z, -⟩
    · obtain ⟨v, v0, v1, e, -⟩ := Wout d hd
      exact ⟨v, v0, v1, by rw [z]; exact e⟩
    · obtain ⟨u, u0, u1, e, -⟩ := Win d d1 hd
      exact ⟨u, u0, u1, by rw [z, e]⟩
  have mi : ∀ i, 0 ≤ i → i < 2 * (kd : Int) + 1 + 2 * ku → S.mr (g i) = 1 ∨ S.mr (g i) = 2 := fun i i0 i1 => by
    obtain ⟨d, hd, z⟩ := cs i i0 i1
    rcases z with ⟨z, -⟩ | ⟨d1, z, -⟩
    · obtain ⟨v, v0, v1, -, e⟩ := Wout d hd
      exact Or.inl (by rw [z]; exact e)
    · obtain ⟨u, u0, u1, e, -, -, e2, -⟩ := Win d d1 hd
      exact Or.inr (by rw [z, e]; exact e2)
  have ri : ∀ i, 0 ≤ i → i < 2 * (kd : Int) + 1 + 2 * ku → rk (g 0) ≤ rk (g i) := fun i i0 i1 => by
    rw [hw.g0]
    obtain ⟨d, hd, z⟩ := cs i i0 i1
    rcases z with ⟨z, -⟩ | ⟨d1, z, -⟩
    · rw [z]; exact rM d hd
    · obtain ⟨u, u0, u1, e, -, -, -, -, e2⟩ := Win d d1 hd
      rw [z, e]; exact e2
  have dj : ∀ i j, 0 ≤ i → i < j → j < 2 * (kd : Int) + 1 + 2 * ku → g i ≠ g j := fun i j i0 ij j1 e => by
    obtain ⟨d, hd, z⟩ := cs i i0 (by omega)
    obtain ⟨c, hc, y⟩ := cs j (by omega) j1
    have key : W d = W c → d = c := fun z => by
      rcases Nat.lt_trichotomy d c with q | q | q
      · exact absurd z (Winj d c q hc)
      · exact q
      · exact absurd z.symm (Winj c d q hd)
    rcases z with ⟨z, zi⟩ | ⟨d1, z, zi⟩ <;> rcases y with ⟨y, yi⟩ | ⟨c1, y, yi⟩
    · have := key (by rw [← z, ← y]; exact e)
      subst this
      omega
    · obtain ⟨v, v0, v1, -, q⟩ := Wout d hd
      obtain ⟨u, u0, u1, e1, -, -, e2, -⟩ := Win c c1 hc
      rw [e, y, e1] at z
      rw [← z] at q; omega
    · obtain ⟨v, v0, v1, -, q⟩ := Wout c hc
      obtain ⟨u, u0, u1, e1, -, -, e2, -⟩ := Win d d1 hd
      rw [← e, z, e1] at y
      rw [← y] at q; omega
    · obtain ⟨u, u0, u1, e1, e2, e3, -, e4, -⟩ := Win d d1 hd
      obtain ⟨w, w0, w1, f1, f2, f3, -, f4, -⟩ := Win c c1 hc
      rw [z, y, e1, f1] at e
      have uw : u = w := by rw [← e2, e, f2]
      subst uw
      have := key (by rw [← e4, ← f4, ← e3, ← f3])
      subst this
      omega
  refine ⟨⟨by omega, ?_, by omega⟩, tp, dj, fun i i0 i1 => ?_, fun k k0 k1 ko => ?_, mi, by rw [hw.g0]; obtain ⟨_, -, -, -, q⟩ := oA kd (Nat.le_refl _); exact q, ri, ?_, fun hne i i0 i1 e => ?_⟩
  · have n0 := h.n0
    have z := b_pig 20 (2 * kd + 1 + 2 * ku) (fun i => S.base (g (i : Int))) (fun i hi => by
      obtain ⟨v, v0, v1, e⟩ := tp i (by omega) (by omega)
      have q := b_bt h hN v0 v1
      rw [e] at q
      exact ⟨q.2.1, by omega⟩) (fun i j hij hj e => by
      obtain ⟨v, v0, v1, ev⟩ := tp i (by omega) (by omega)
      obtain ⟨w, w0, w1, ew⟩ := tp j (by omega) (by omega)
      have q1 := (b_bt h hN v0 v1).2.2.2
      have q2 := (b_bt h hN w0 w1).2.2.2
      rw [ev] at q1
      rw [ew] at q2
      rw [show S.base (g (i : Int)) = S.base (g (j : Int)) from e, q2] at q1
      exact dj i j (by omega) (by omega) (by omega) q1.symm)
    omega
  · by_cases c : i < 2 * (kd : Int)
    · have ew : wr (2 * (kd : Int) + 1 + 2 * ku) (i + 1) = i + 1 := by unfold wr; split <;> omega
      rw [ew]
      by_cases odd : i % 2 = 1
      · obtain ⟨j, hj, ej⟩ : ∃ j : Nat, j < kd ∧ 2 * ((kd : Int) - j) - 1 = i := ⟨((2 * (kd : Int) - 1 - i) / 2).toNat, by omega, by omega⟩
        obtain ⟨z1, z2, z3, z4, -, -⟩ := hw.d j hj
        obtain ⟨u, u0, u1, b0', b1', u2, u3, u4, -, -, -, -, -, -, -, -, q1, q2, q3, q4, q5, -⟩ := b_stp h hN hM hT oa (sa j hj)
        rw [ej] at z2 z3 z4
        rw [show 2 * ((kd : Int) - j) = i + 1 by omega] at z1
        rw [z1, z2, z3, z4, u2]
        exact ⟨q3, q1, (bsl_comm hC u0 u1 b0' b1').trans q5⟩
      · obtain ⟨j, hj, ej⟩ : ∃ j : Nat, j < kd ∧ 2 * ((kd : Int) - j) - 2 = i := ⟨((2 * (kd : Int) - 2 - i) / 2).toNat, by omega, by omega⟩
        obtain ⟨-, z2, -, -, z5, z6⟩ := hw.d j hj
        obtain ⟨u, u0, u1, b0', b1', u2, u3, u4, -, -, iH, -, -, -, sl, -, q1, q2, q3, q4, q5, -⟩ := b_stp h hN hM hT oa (sa j hj)
        rw [ej] at z5 z6
        rw [show 2 * ((kd : Int) - j) - 1 = i + 1 by omega] at z2
        have gi : g i = bAbn S (S.top a) (j + 1) := by
          by_cases c0 : j + 1 = kd
          · rw [c0, ← hw.g0, show i = 0 by omega]
          · have z := (hw.d (j + 1) (by omega)).1
            rw [← z, show 2 * ((kd : Int) - ((j + 1 : Nat) : Int)) = i by omega]
        rw [gi, z2, z5, z6, u2]
        exact ⟨q4, iH, sl⟩
    · by_cases c2 : i = 2 * (kd : Int)
      · rw [c2, hw.ab.1, hw.ab.2]
        have gi : g (2 * (kd : Int)) = S.top a := by
          by_cases c0 : kd = 0
          · have z := hw.g0
            rw [c0] at z ⊢
            exact z
          · have z := (hw.d 0 (by omega)).1
            rw [show 2 * ((kd : Int) - ((0 : Nat) : Int)) = 2 * (kd : Int) by omega] at z
            exact z
        have gj : g (wr (2 * (kd : Int) + 1 + 2 * ku) (2 * (kd : Int) + 1)) = S.top b := by
          by_cases c0 : ku = 0
          · have e : wr (2 * (kd : Int) + 1 + 2 * ku) (2 * (kd : Int) + 1) = 0 := by unfold wr; split <;> omega
            rw [e, hw.g0, ← hme, c0]; rfl
          · have e : wr (2 * (kd : Int) + 1 + 2 * ku) (2 * (kd : Int) + 1) = 2 * (kd : Int) + 1 := by unfold wr; split <;> omega
            have z := (hw.u 0 (by omega)).1
            rw [show 2 * (kd : Int) + 1 + 2 * ((0 : Nat) : Int) = 2 * (kd : Int) + 1 by omega] at z
            rw [e, z]; rfl
        rw [gi, gj]
        exact ⟨h.th a a0 a1, h.th b b0 b1, hs⟩
      · by_cases odd : i % 2 = 1
        · obtain ⟨j, hj, ej⟩ : ∃ j : Nat, j < ku ∧ 2 * (kd : Int) + 1 + 2 * j = i := ⟨((i - 1 - 2 * (kd : Int)) / 2).toNat, by omega, by omega⟩
          have ew : wr (2 * (kd : Int) + 1 + 2 * ku) (i + 1) = i + 1 := by unfold wr; split <;> omega
          obtain ⟨z1, z2, z3, z4, -, -⟩ := hw.u j hj
          obtain ⟨u, u0, u1, b0', b1', u2, u3, u4, -, -, -, -, -, -, -, -, q1, q2, q3, q4, q5, -⟩ := b_stp h hN hM hT ob (sb j hj)
          rw [ej] at z1 z3 z4
          rw [show 2 * (kd : Int) + 2 + 2 * j = i + 1 by omega] at z2
          rw [ew, z1, z2, z3, z4, u2]
          exact ⟨q1, q3, q5⟩
        · obtain ⟨j, hj, ej⟩ : ∃ j : Nat, j < ku ∧ 2 * (kd : Int) + 2 + 2 * j = i := ⟨((i - 2 - 2 * (kd : Int)) / 2).toNat, by omega, by omega⟩
          obtain ⟨-, z2, -, -, z5, z6⟩ := hw.u j hj
          obtain ⟨u, u0, u1, b0', b1', u2, u3, u4, -, -, iH, f0, f1, -, sl, -, q1, q2, q3, q4, q5, -⟩ := b_stp h hN hM hT ob (sb j hj)
          rw [ej] at z2 z5 z6
          have gj : g (wr (2 * (kd : Int) + 1 + 2 * ku) (i + 1)) = bAbn S (S.top b) (j + 1) := by
            by_cases c0 : j + 1 = ku
            · have e : wr (2 * (kd : Int) + 1 + 2 * ku) (i + 1) = 0 := by unfold wr; split <;> omega
              rw [e, hw.g0, c0]; exact hme.symm
            · have e : wr (2 * (kd : Int) + 1 + 2 * ku) (i + 1) = i + 1 := by unfold wr; split <;> omega
              have z := (hw.u (j + 1) (by omega)).1
              rw [e, ← z, show 2 * (kd : Int) + 1 + 2 * ((j + 1 : Nat) : Int) = i + 1 by omega]
          rw [gj, z2, z5, z6, u2]
          have ri := h.hr _ _ iH
          exact ⟨iH, q4, (bsl_comm hC ri.2.2.1 ri.2.2.2 f0 f1).trans sl⟩
  · by_cases c : k < 2 * (kd : Int)
    · obtain ⟨j, hj, ej⟩ : ∃ j : Nat, j < kd ∧ 2 * ((kd : Int) - j) - 1 = k := ⟨((2 * (kd : Int) - 1 - k) / 2).toNat, by omega, by omega⟩
      obtain ⟨z1, z2, z3, z4, -, -⟩ := hw.d j hj
      obtain ⟨u, u0, u1, b0', b1', u2, u3, u4, -⟩ := b_stp h hN hM hT oa (sa j hj)
      rw [ej] at z2 z3 z4
      rw [show 2 * ((kd : Int) - j) = k + 1 by omega] at z1
      rw [z1, z2, z3, z4, u2]
      exact ⟨u3, rfl, u4, rfl⟩
    · obtain ⟨j, hj, ej⟩ : ∃ j : Nat, j < ku ∧ 2 * (kd : Int) + 1 + 2 * j = k := ⟨((k - 1 - 2 * (kd : Int)) / 2).toNat, by omega, by omega⟩
      obtain ⟨z1, z2, z3, z4, -, -⟩ := hw.u j hj
      obtain ⟨u, u0, u1, b0', b1', u2, u3, u4, -⟩ := b_stp h hN hM hT ob (sb j hj)
      rw [ej] at z1 z3 z4
      rw [show 2 * (kd : Int) + 2 + 2 * j = k + 1 by omega] at z2
      rw [z1, z2, z3, z4, u2]
      exact ⟨rfl, u3, rfl, u4⟩
  · by_cases c : 1 ≤ kd
    · obtain ⟨-, z2, -⟩ := hw.d (kd - 1) (by omega)
      obtain ⟨u, -, -, -, -, u2, -, -, u5, -⟩ := b_stp h hN hM hT oa (sa (kd - 1) (by omega))
      refine ⟨1, by omega, by omega, ?_⟩
      rw [show 2 * ((kd : Int) - ((kd - 1 : Nat) : Int)) - 1 = 1 by omega, u2] at z2
      rw [z2]; exact u5
    · obtain ⟨-, z2, -⟩ := hw.u 0 (by omega)
      obtain ⟨u, -, -, -, -, u2, -, -, u5, -⟩ := b_stp h hN hM hT ob (sb 0 (by omega))
      refine ⟨2 * (kd : Int) + 2 + 2 * ((0 : Nat) : Int), by omega, by omega, ?_⟩
      rw [z2, u2]; exact u5
  · have q := ri i i0 i1
    have oM := oA kd (Nat.le_refl _)
    rw [← hw.g0] at oM
    obtain ⟨u, -, -, u2, -, -, -, u6, -⟩ := b_up h hN hM hT oM hne
    rw [← e, u2] at q
    omega
