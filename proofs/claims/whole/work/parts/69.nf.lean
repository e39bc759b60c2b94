/-! PURE: how many are free -/
theorem bnf_all {S : bS} (h0 : bnf S = 0) : ∀ v, 0 ≤ v → v < S.n → S.mate v ≠ -1 := fun v v0 v1 hf => by
  classical
  have hh : mt_s (fun k => if k = v.toNat then (1 : Int) else 0) S.n.toNat ≤ bnf S := mt_s_le (fun k hk => by
    by_cases c : k = v.toNat
    · rw [if_pos c, if_pos (by rw [show ((k : Nat) : Int) = v by omega]; exact hf)]; omega
    · rw [if_neg c]; split <;> omega)
  rw [b_one (by omega)] at hh
  omega
theorem bnf_two {S : bS} (h2 : 2 ≤ bnf S) : ∃ x y, (0 ≤ x ∧ x < S.n) ∧ (0 ≤ y ∧ y < S.n) ∧ x ≠ y ∧ S.mate x = -1 ∧ S.mate y = -1 := by
  classical
  have ex : ∃ x, (0 ≤ x ∧ x < S.n) ∧ S.mate x = -1 := by
    by_cases c : ∃ x, (0 ≤ x ∧ x < S.n) ∧ S.mate x = -1
    · exact c
    · exfalso
      have hh : bnf S ≤ mt_s (fun _ => 0) S.n.toNat := mt_s_le (fun k hk => by
        rw [if_neg (fun z => c ⟨(k : Int), ⟨by omega, by omega⟩, z⟩)]; omega)
      rw [mt_s_zero] at hh
      omega
  obtain ⟨x, x0, hx⟩ := ex
  by_cases c : ∃ y, (0 ≤ y ∧ y < S.n) ∧ x ≠ y ∧ S.mate y = -1
  · obtain ⟨y, y0, y1, y2⟩ := c
    exact ⟨x, y, x0, y0, y1, hx, y2⟩
  · exfalso
    have hh : bnf S ≤ mt_s (fun k => if k = x.toNat then (1 : Int) else 0) S.n.toNat := mt_s_le (fun k hk => by
      by_cases cc : k = x.toNat
      · rw [if_pos cc]; split <;> omega
      · rw [if_neg cc, if_neg (fun z => c ⟨(k : Int), ⟨by omega, by omega⟩, by omega, z⟩)]; omega)
    rw [b_one (by omega)] at hh
    omega
theorem bnf_n {S : bS} (h : bStr S) (hf : ∀ v, 0 ≤ v → v < S.n → S.mate v = -1) : bnf S = S.n := by
  classical
  have n0 := h.n0
  have c : ∀ q : Nat, mt_s (fun _ => 1) q = q := fun q => by
    induction q with
    | zero => rfl
    | succ q ih => show mt_s _ q + 1 = _; rw [ih]; omega
  unfold bnf
  rw [mt_s_congr (g := fun _ => 1) (fun k hk => if_pos (hf k (by omega) (by omega))), c]
  omega
theorem bnf_2e {S : bS} {m b r : Int → Int} {x y : Int} (x0 : 0 ≤ x) (x1 : x < S.n) (y0 : 0 ≤ y) (y1 : y < S.n) (hxy : x ≠ y) (fx : S.mate x = -1) (fy : S.mate y = -1) (hm : ∀ w, 0 ≤ w → w < S.n → (m w = -1 ↔ S.mate w = -1 ∧ w ≠ x ∧ w ≠ y)) : bnf (bmv S m b r) + 2 = bnf S := by
  classical
  have e2 : mt_s (fun k => (if m (k : Int) = -1 then (1 : Int) else 0) + ((if k = x.toNat then 1 else 0) + (if k = y.toNat then 1 else 0))) S.n.toNat = mt_s (fun k => if S.mate (k : Int) = -1 then (1 : Int) else 0) S.n.toNat := by
    refine mt_s_congr (fun k hk => ?_)
    have q := hm k (by omega) (by omega)
    by_cases c : k = x.toNat
    · have e : ((k : Nat) : Int) = x := by omega
      rw [if_pos c, if_neg (c := k = y.toNat) (by omega), if_neg (fun z => (q.mp z).2.1 e), if_pos (by rw [e]; exact fx)]; omega
    · by_cases c2 : k = y.toNat
      · have e : ((k : Nat) : Int) = y := by omega
        rw [if_neg c, if_pos c2, if_neg (fun z => (q.mp z).2.2 e), if_pos (by rw [e]; exact fy)]; omega
      · rw [if_neg c, if_neg c2]
        by_cases c3 : S.mate (k : Int) = -1
        · rw [if_pos c3, if_pos (q.mpr ⟨c3, by omega, by omega⟩)]; omega
        · rw [if_neg c3, if_neg (fun z => c3 (q.mp z).1)]; omega
  rw [mt_s_add, mt_s_add, b_one (by omega), b_one (by omega)] at e2
  have e : bnf (bmv S m b r) = mt_s (fun k => if m (k : Int) = -1 then (1 : Int) else 0) S.n.toNat := rfl
  have e3 : bnf S = mt_s (fun k => if S.mate (k : Int) = -1 then (1 : Int) else 0) S.n.toNat := rfl
  omega
/-- a way has one end -/
theorem b_end1 {S : bS} {rk : Int → Int} (h : bStr S) (hN : bNd S) (hM : bMat S) (hT : bTree S rk) {x v w : Int} (hx : bOut S x) (v0 : 0 ≤ v) (v1 : v < S.n) (w0 : 0 ≤ w) (w1 : w < S.n) (fv : S.mate v = -1) (fw : S.mate w = -1) (hv : bOn S x (S.top v)) (hw : bOn S x (S.top w)) : v = w := by
  have key : ∀ u, 0 ≤ u → u < S.n → S.mate u = -1 → bOn S x (S.top u) → ∃ k : Nat, bAbn S x k ≠ -1 ∧ S.top u = bAbn S x k ∧ bAbn S x (k + 1) = -1 := fun u u0 u1 fu hu => by
    have e := (b_free h hN hT u0 u1 fu).1
    have e2 := (b_free h hN hT u0 u1 fu).2
    obtain ⟨k, hk, z⟩ := hu
    obtain ⟨ok, -⟩ := b_abn h hN hM hT hx k hk
    rcases z with z | ⟨z1, z2⟩
    · refine ⟨k, hk, z, ?_⟩
      show (if bAbn S x k = -1 then -1 else bAb S (bAbn S x k)) = -1
      rw [if_neg hk, ← z]
      exact if_pos (by rw [e]; exact fu)
    · exfalso
      obtain ⟨q, -, -, q2, -, -, q5, -⟩ := b_up h hN hM hT ok z1
      rw [q2] at z2
      rw [z2, q5] at e2
      omega
  obtain ⟨i, i0, i1, i2⟩ := key v v0 v1 fv hv
  obtain ⟨j, j0, j1, j2⟩ := key w w0 w1 fw hw
  have ij : i = j := by
    rcases Nat.lt_trichotomy i j with c | c | c
    · exact absurd i2 (bAbn_le j0 c)
    · exact c
    · exact absurd j2 (bAbn_le i0 c)
  rw [← (b_free h hN hT v0 v1 fv).1, ← (b_free h hN hT w0 w1 fw).1, i1, j1, ij]
