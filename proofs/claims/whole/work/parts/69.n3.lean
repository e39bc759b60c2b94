/-! PURE: tight pairs, the trees' ways, and how a way is matched anew -/
noncomputable def bZ (S : bS) (v w : Int) : Int := mt_s (fun k => @ite Int (S.H (20 + (k : Int)) v ∧ S.H (20 + (k : Int)) w) (@instDecidableAnd _ _ (Classical.propDecidable _) (Classical.propDecidable _)) (S.p (20 + (k : Int))) 0) 10
noncomputable def bsl (S : bS) (v w : Int) : Int := S.C v w - S.p v - S.p w + bZ S v w
theorem bZ_comm {S : bS} (v w : Int) : bZ S v w = bZ S w v := by
  classical
  unfold bZ
  exact mt_s_congr (fun k _ => by
    by_cases c : S.H (20 + (k : Int)) v ∧ S.H (20 + (k : Int)) w
    · rw [if_pos c, if_pos ⟨c.2, c.1⟩]
    · rw [if_neg c, if_neg (fun z => c ⟨z.2, z.1⟩)])
def bSym (S : bS) : Prop := ∀ v w, 0 ≤ v → v < S.n → 0 ≤ w → w < S.n → S.C v w = S.C w v
theorem bsl_comm {S : bS} (hC : bSym S) {v w : Int} (v0 : 0 ≤ v) (v1 : v < S.n) (w0 : 0 ≤ w) (w1 : w < S.n) : bsl S v w = bsl S w v := by
  unfold bsl
  rw [hC v w v0 v1 w0 w1, bZ_comm v w]; omega
/-- all links are tight -/
def bLk (S : bS) : Prop := ∀ b i, 20 ≤ b → bU S b → 0 ≤ i → i < S.rs b → bsl S (S.lf b i) (S.li b i) = 0
def bNd (S : bS) : Prop := ∀ y, bU S y → bLB S y
theorem bNd_ok {S : bS} (h : bNd S) (x : Int) : bOK S x := fun y hy _ => h y hy
/-- a matching, not of all, by tight pairs -/
def bMat (S : bS) : Prop := ∀ v, 0 ≤ v → v < S.n → S.mate v = -1 ∨ (0 ≤ S.mate v ∧ S.mate v < S.n ∧ S.mate v ≠ v ∧ S.mate (S.mate v) = v ∧ bsl S v (S.mate v) = 0)
theorem b_bt {S : bS} (h : bStr S) (hN : bNd S) {v : Int} (v0 : 0 ≤ v) (v1 : v < S.n) : S.H (S.top v) (S.base (S.top v)) ∧ 0 ≤ S.base (S.top v) ∧ S.base (S.top v) < S.n ∧ S.top (S.base (S.top v)) = S.top v := by
  have z := b_base h (S.top v) ⟨v, h.th v v0 v1⟩ (bNd_ok hN _)
  exact ⟨z, (h.hr _ _ z).2.2.1, (h.hr _ _ z).2.2.2, b_ttop h v0 v1 z⟩
theorem b_win {S : bS} (h : bStr S) (hN : bNd S) {x w : Int} (hw : S.H x w) (hne : w ≠ S.base x) : S.H x (S.mate w) ∧ S.mate (S.mate w) = w ∧ S.mate w ≠ w ∧ S.mate w ≠ S.base x := by
  have z := b_within (Q := fun _ _ => True) h (fun _ _ _ => trivial) x ⟨w, hw⟩ (bNd_ok hN _) (fun _ _ _ _ _ _ _ => trivial) w hw hne
  exact ⟨z.1, z.2.1, z.2.2.1, z.2.2.2.1⟩
/-- a top's base is matched with another top's base -/
theorem b_mt {S : bS} (h : bStr S) (hN : bNd S) (hM : bMat S) {v : Int} (v0 : 0 ≤ v) (v1 : v < S.n) (hne : S.mate (S.base (S.top v)) ≠ -1) : 0 ≤ S.mate (S.base (S.top v)) ∧ S.mate (S.base (S.top v)) < S.n ∧ S.top (S.mate (S.base (S.top v))) ≠ S.top v ∧ S.base (S.top (S.mate (S.base (S.top v)))) = S.mate (S.base (S.top v)) ∧ S.mate (S.mate (S.base (S.top v))) = S.base (S.top v) := by
  obtain ⟨b1, b2, b3, b4⟩ := b_bt h hN v0 v1
  rcases hM _ b2 b3 with z | ⟨m0, m1, m2, m3, -⟩
  · exact absurd z hne
  · have tw := h.th _ m0 m1
    have tne : S.top (S.mate (S.base (S.top v))) ≠ S.top v := fun e => by
      rw [e] at tw
      exact (b_win h hN tw m2).2.2.2 m3
    refine ⟨m0, m1, tne, ?_, m3⟩
    by_cases c : S.mate (S.base (S.top v)) = S.base (S.top (S.mate (S.base (S.top v))))
    · exact c.symm
    · exfalso
      have z := (b_win h hN tw c).1
      rw [m3] at z
      have e := b_ttop h m0 m1 z
      rw [b4] at e
      exact tne e.symm
/-- trees from the roots: marks (0 idle, 1 outer, 2 inner) and a rank that grows -/
abbrev bTree (S : bS) (rk : Int → Int) : Prop := Nonempty (PProd (∀ v, 0 ≤ v → v < S.n → S.mr (S.top v) = 1 → S.mate (S.base (S.top v)) ≠ -1 → S.mr (S.top (S.mate (S.base (S.top v)))) = 2 ∧ rk (S.top (S.mate (S.base (S.top v)))) < rk (S.top v)) (PProd (∀ v, 0 ≤ v → v < S.n → S.mr (S.top v) = 2 → S.mate (S.base (S.top v)) ≠ -1 ∧ S.mr (S.top (S.mate (S.base (S.top v)))) = 1 ∧ S.H (S.top v) (S.io (S.top v)) ∧ 0 ≤ S.fr (S.top v) ∧ S.fr (S.top v) < S.n ∧ S.mr (S.top (S.fr (S.top v))) = 1 ∧ rk (S.top (S.fr (S.top v))) < rk (S.top v) ∧ bsl S (S.fr (S.top v)) (S.io (S.top v)) = 0) (∀ v, 0 ≤ v → v < S.n → S.mr (S.top v) ≠ 1 → S.mr (S.top v) ≠ 2 → S.mr (S.top v) = 0 ∧ S.mate (S.base (S.top v)) ≠ -1 ∧ S.mr (S.top (S.mate (S.base (S.top v)))) = 0)))
theorem bTree.out {S : bS} {rk : Int → Int} (h_ : bTree S rk) : ∀ v, 0 ≤ v → v < S.n → S.mr (S.top v) = 1 → S.mate (S.base (S.top v)) ≠ -1 → S.mr (S.top (S.mate (S.base (S.top v)))) = 2 ∧ rk (S.top (S.mate (S.base (S.top v)))) < rk (S.top v) := h_.elim (fun x_ => x_.1)
theorem bTree.inn {S : bS} {rk : Int → Int} (h_ : bTree S rk) : ∀ v, 0 ≤ v → v < S.n → S.mr (S.top v) = 2 → S.mate (S.base (S.top v)) ≠ -1 ∧ S.mr (S.top (S.mate (S.base (S.top v)))) = 1 ∧ S.H (S.top v) (S.io (S.top v)) ∧ 0 ≤ S.fr (S.top v) ∧ S.fr (S.top v) < S.n ∧ S.mr (S.top (S.fr (S.top v))) = 1 ∧ rk (S.top (S.fr (S.top v))) < rk (S.top v) ∧ bsl S (S.fr (S.top v)) (S.io (S.top v)) = 0 := h_.elim (fun x_ => x_.2.1)
theorem bTree.idl {S : bS} {rk : Int → Int} (h_ : bTree S rk) : ∀ v, 0 ≤ v → v < S.n → S.mr (S.top v) ≠ 1 → S.mr (S.top v) ≠ 2 → S.mr (S.top v) = 0 ∧ S.mate (S.base (S.top v)) ≠ -1 ∧ S.mr (S.top (S.mate (S.base (S.top v)))) = 0 := h_.elim (fun x_ => x_.2.2)
/-- the next outer node on the way -/
def bAb (S : bS) (x : Int) : Int := if S.mate (S.base x) = -1 then -1 else S.top (S.fr (S.top (S.mate (S.base x))))
def bAbn (S : bS) (x : Int) : Nat → Int
  | 0 => x
  | k + 1 => if bAbn S x k = -1 then -1 else bAb S (bAbn S x k)
def bOut (S : bS) (x : Int) : Prop := ∃ v, 0 ≤ v ∧ v < S.n ∧ S.top v = x ∧ S.mr x = 1
theorem b_top0 {S : bS} (h : bStr S) {v : Int} (v0 : 0 ≤ v) (v1 : v < S.n) : 0 ≤ S.top v ∧ S.top v < 30 := by
  have z := h.hr _ _ (h.th v v0 v1)
  exact ⟨z.1, z.2.1⟩
theorem bOut_0 {S : bS} (h : bStr S) {x : Int} (hx : bOut S x) : 0 ≤ x ∧ x < 30 := by
  obtain ⟨v, v0, v1, e, -⟩ := hx
  rw [← e]; exact b_top0 h v0 v1
/-- one step up: the inner node between -/
theorem b_up {S : bS} {rk : Int → Int} (h : bStr S) (hN : bNd S) (hM : bMat S) (hT : bTree S rk) {x : Int} (hx : bOut S x) (hne : S.mate (S.base x) ≠ -1) : ∃ u, 0 ≤ u ∧ u < S.n ∧ S.mate (S.base x) = u ∧ S.base (S.top u) = u ∧ S.mate u = S.base x ∧ S.mr (S.top u) = 2 ∧ rk (S.top u) < rk x ∧ S.H (S.top u) (S.io (S.top u)) ∧ 0 ≤ S.fr (S.top u) ∧ S.fr (S.top u) < S.n ∧ bOut S (S.top (S.fr (S.top u))) ∧ rk (S.top (S.fr (S.top u))) < rk (S.top u) ∧ bsl S (S.fr (S.top u)) (S.io (S.top u)) = 0 ∧ bAb S x = S.top (S.fr (S.top u)) := by
  obtain ⟨v, v0, v1, e, hm⟩ := hx
  subst e
  obtain ⟨m0, m1, m2, m3, m4⟩ := b_mt h hN hM v0 v1 hne
  obtain ⟨o1, o2⟩ := hT.out v v0 v1 hm hne
  obtain ⟨i1, i2, i3, i4, i5, i6, i7, i8⟩ := hT.inn _ m0 m1 o1
  exact ⟨_, m0, m1, rfl, m3, m4, o1, o2, i3, i4, i5, ⟨_, i4, i5, rfl, i6⟩, i7, i8, if_neg hne⟩
theorem b_abn {S : bS} {rk : Int → Int} (h : bStr S) (hN : bNd S) (hM : bMat S) (hT : bTree S rk) {x : Int} (hx : bOut S x) : ∀ k : Nat, bAbn S x k ≠ -1 → bOut S (bAbn S x k) ∧ rk (bAbn S x k) + k ≤ rk x
  | 0, _ => ⟨hx, by show rk x + 0 ≤ rk x; omega⟩
  | k + 1, hk => by
    have e : bAbn S x (k + 1) = if bAbn S x k = -1 then -1 else bAb S (bAbn S x k) := rfl
    by_cases c : bAbn S x k = -1
    · rw [e, if_pos c] at hk; exact absurd rfl hk
    · obtain ⟨h1, h2⟩ := b_abn h hN hM hT hx k c
      rw [e, if_neg c] at hk ⊢
      have hne : S.mate (S.base (bAbn S x k)) ≠ -1 := fun z => by
        unfold bAb at hk; rw [if_pos z] at hk; exact hk rfl
      obtain ⟨u, -, -, -, -, -, -, a1, -, -, -, a2, a3, -, a4⟩ := b_up h hN hM hT h1 hne
      rw [a4]
      exact ⟨a2, by omega⟩
theorem bAbn_le {S : bS} {x : Int} {k : Nat} (hk : bAbn S x k ≠ -1) : ∀ {j : Nat}, j ≤ k → bAbn S x j ≠ -1 := by
  induction k with
  | zero => exact fun hj => by rw [Nat.le_zero.mp hj]; exact hk
  | succ k ih =>
    intro j hj
    have : bAbn S x k ≠ -1 := fun z => hk (by show (if bAbn S x k = -1 then -1 else _) = -1; rw [if_pos z])
    rcases Nat.lt_or_ge j (k + 1) with c | c
    · exact ih this (by omega)
    · rw [show j = k + 1 by omega]; exact hk
theorem bAbn_add {S : bS} {x : Int} (j : Nat) : ∀ k : Nat, bAbn S x (j + k) = if bAbn S x j = -1 then -1 else bAbn S (bAbn S x j) k
  | 0 => by
    show bAbn S x j = if bAbn S x j = -1 then -1 else bAbn S x j
    split
    · assumption
    · rfl
  | k + 1 => by
    show (if bAbn S x (j + k) = -1 then -1 else bAb S (bAbn S x (j + k))) = if bAbn S x j = -1 then -1 else (if bAbn S (bAbn S x j) k = -1 then -1 else bAb S (bAbn S (bAbn S x j) k))
    rw [bAbn_add j k]
    by_cases c : bAbn S x j = -1
    · rw [if_pos c, if_pos c, if_pos rfl]
    · rw [if_neg c, if_neg c]
/-- the way's nodes are different ones -/
theorem b_abn_lt {S : bS} {rk : Int → Int} (h : bStr S) (hN : bNd S) (hM : bMat S) (hT : bTree S rk) {x : Int} (hx : bOut S x) {j k : Nat} (hjk : j < k) (hk : bAbn S x k ≠ -1) : rk (bAbn S x k) < rk (bAbn S x j) := by
  have cj := bAbn_le hk (Nat.le_of_lt hjk)
  obtain ⟨d, rfl⟩ : ∃ d, k = j + d := ⟨k - j, by omega⟩
  rw [bAbn_add, if_neg cj] at hk ⊢
  have z := (b_abn h hN hM hT (b_abn h hN hM hT hx j cj).1 d hk).2
  omega
/-- no more pigeons than holes -/
theorem b_pig : ∀ (N k : Nat) (f : Nat → Int), (∀ i, i < k → 0 ≤ f i ∧ f i < N) → (∀ i j, i < j → j < k → f i ≠ f j) → k ≤ N
  | 0, k, f, hr, _ => by
    rcases Nat.eq_zero_or_pos k with c | c
    · omega
    · have := hr 0 c; omega
  | N + 1, k, f, hr, hi => by
    by_cases c : ∃ i, i < k ∧ f i = N
    · obtain ⟨i0, h1, h2⟩ := c
      have z := b_pig N (k - 1) (fun i => f (if i < i0 then i else i + 1)) (fun i hik => by
        show 0 ≤ f (if i < i0 then i else i + 1) ∧ f (if i < i0 then i else i + 1) < N
        split
        · rename_i ci
          have a := hr i (by omega)
          have b := hi i i0 ci h1
          omega
        · rename_i ci
          have a := hr (i + 1) (by omega)
          have b := hi i0 (i + 1) (by omega) (by omega)
          omega) (fun i j hij hjk => by
        show f (if i < i0 then i else i + 1) ≠ f (if j < i0 then j else j + 1)
        split <;> split
        · exact hi _ _ hij (by omega)
        · exact hi _ _ (by omega) (by omega)
        · omega
        · exact hi _ _ (by omega) (by omega))
      omega
    · have z := b_pig N k f (fun i hik => by
        have a := hr i hik
        have b : f i ≠ N := fun z => c ⟨i, hik, z⟩
        omega) hi
      omega
theorem b_abn_20 {S : bS} {rk : Int → Int} (h : bStr S) (hN : bNd S) (hM : bMat S) (hT : bTree S rk) {x : Int} (hx : bOut S x) {k : Nat} (hk : bAbn S x k ≠ -1) : k < 20 := by
  have n0 := h.n0
  have z := b_pig 20 (k + 1) (fun i => S.base (bAbn S x i)) (fun i hi => by
    obtain ⟨⟨v, v0, v1, e, -⟩, -⟩ := b_abn h hN hM hT hx i (bAbn_le hk (by omega))
    have z := b_bt h hN v0 v1
    rw [e] at z
    exact ⟨z.2.1, by omega⟩) (fun i j hij hj e => by
    have cj := bAbn_le hk (j := j) (by omega)
    have l := b_abn_lt h hN hM hT hx hij cj
    obtain ⟨⟨v, v0, v1, ev, -⟩, -⟩ := b_abn h hN hM hT hx i (bAbn_le hk (by omega))
    obtain ⟨⟨w, w0, w1, ew, -⟩, -⟩ := b_abn h hN hM hT hx j cj
    have z1 := (b_bt h hN v0 v1).2.2.2
    have z2 := (b_bt h hN w0 w1).2.2.2
    rw [ev] at z1
    rw [ew] at z2
    rw [show S.base (bAbn S x i) = S.base (bAbn S x j) from e, z2] at z1
    rw [z1] at l
    omega)
  omega
/-- the nodes of a way -/
def bOn (S : bS) (x y : Int) : Prop := ∃ k : Nat, bAbn S x k ≠ -1 ∧ (y = bAbn S x k ∨ (S.mate (S.base (bAbn S x k)) ≠ -1 ∧ y = S.top (S.mate (S.base (bAbn S x k)))))
theorem bOn_r {S : bS} {x : Int} (hx : x ≠ -1) : bOn S x x := ⟨0, hx, Or.inl rfl⟩
theorem bOn_i {S : bS} {x : Int} (hx : x ≠ -1) (hm : S.mate (S.base x) ≠ -1) : bOn S x (S.top (S.mate (S.base x))) := ⟨0, hx, Or.inr ⟨hm, rfl⟩⟩
theorem bOn_u {S : bS} {x y : Int} (hx : x ≠ -1) (h : bOn S (bAb S x) y) : bOn S x y := by
  obtain ⟨k, hk, z⟩ := h
  have e : bAbn S x (1 + k) = bAbn S (bAb S x) k := by
    rw [bAbn_add]
    have e1 : bAbn S x 1 = bAb S x := if_neg hx
    rw [e1]
    by_cases c : bAb S x = -1
    · exfalso
      rw [c] at hk
      have : ∀ j : Nat, bAbn S (-1) j = -1 := fun j => by
        induction j with
        | zero => rfl
        | succ j ih => show (if bAbn S (-1) j = -1 then -1 else _) = -1; rw [if_pos ih]
      exact hk (this k)
    · rw [if_neg c]
  exact ⟨1 + k, by rw [e]; exact hk, by rw [e]; exact z⟩
theorem bOn_rk {S : bS} {rk : Int → Int} (h : bStr S) (hN : bNd S) (hM : bMat S) (hT : bTree S rk) {x y : Int} (hx : bOut S x) (hy : bOn S x y) : rk y ≤ rk x := by
  obtain ⟨k, hk, z⟩ := hy
  obtain ⟨h1, h2⟩ := b_abn h hN hM hT hx k hk
  rcases z with rfl | ⟨hm, rfl⟩
  · omega
  · obtain ⟨u, -, -, e, -, -, -, a1, -⟩ := b_up h hN hM hT h1 hm
    rw [e]; omega
