/-! PURE: the round: ways that are open, and the walk over them -/
def wl (n : Int) (O : Int → Int → Int) (c b : Int) : Prop := (b = -1 ∧ ∀ x, 0 ≤ x → x < n → ¬ 0 < O c x) ∨ (0 ≤ b ∧ b < n ∧ 0 < O c b ∧ ∀ x, 0 ≤ x → x < b → ¬ 0 < O c x)
theorem wl_uniq {n : Int} {O : Int → Int → Int} {c a b : Int} (ha : wl n O c a) (hb : wl n O c b) : a = b := by
  rcases ha with ⟨a1, a2⟩ | ⟨a1, a2, a3, a4⟩ <;> rcases hb with ⟨b1, b2⟩ | ⟨b1, b2, b3, b4⟩
  · omega
  · exact absurd b3 (a2 b b1 b2)
  · exact absurd a3 (b2 a a1 a2)
  · rcases Int.lt_trichotomy a b with z | z | z
    · exact absurd a3 (b4 a a1 z)
    · exact z
    · exact absurd b3 (a4 b b1 z)
theorem wl_ex (n : Int) (O : Int → Int → Int) (c : Int) : ∃ b, wl n O c b := by
  have go : ∀ k : Nat, (∀ x, 0 ≤ x → x < (k : Int) → ¬ 0 < O c x) ∨ ∃ b, 0 ≤ b ∧ b < (k : Int) ∧ 0 < O c b ∧ ∀ x, 0 ≤ x → x < b → ¬ 0 < O c x := by
    intro k
    induction k with
    | zero => exact Or.inl (fun x x0 x1 => by omega)
    | succ k ih =>
      rcases ih with h | ⟨b, b0, b1, b2, b3⟩
      · by_cases z : 0 < O c k
        · exact Or.inr ⟨k, by omega, by omega, z, h⟩
        · refine Or.inl (fun x x0 x1 => ?_)
          by_cases e : x = (k : Int)
          · rw [e]; exact z
          · exact h x x0 (by omega)
      · exact Or.inr ⟨b, b0, by omega, b2, b3⟩
  rcases go n.toNat with h | ⟨b, b0, b1, b2, b3⟩
  · exact ⟨-1, Or.inl ⟨rfl, fun x x0 x1 => h x x0 (by omega)⟩⟩
  · exact ⟨b, Or.inr ⟨b0, by omega, b2, b3⟩⟩
abbrev wS : Type := (Int → Int → Int) × (Int → Int) × (Int) × (List Int)
abbrev wS.O (x_ : wS) : Int → Int → Int := x_.1
abbrev wS.R (x_ : wS) : Int → Int := x_.2.1
abbrev wS.h (x_ : wS) : Int := x_.2.2.1
abbrev wS.L (x_ : wS) : List Int := x_.2.2.2
/-- a way is used up -/
def wu (O : Int → Int → Int) (c x : Int) : Int → Int → Int := fun p q => O p q - (if p = c ∧ q = x then 1 else 0) - (if p = x ∧ q = c then 1 else 0)
def wk1 (n : Int) (a b : wS) : Prop := ∃ x, wl n a.O (a.R a.h) x ∧ ((x = -1 ∧ b = ⟨a.O, a.R, a.h - 1, a.R a.h :: a.L⟩) ∨ (x ≠ -1 ∧ b = ⟨wu a.O (a.R a.h) x, fun y => if y = a.h + 1 then x else a.R y, a.h + 1, a.L⟩))
def wkn (n : Int) (a : wS) : Nat → wS → Prop
  | 0, b => b = a
  | k + 1, b => ∃ m, wkn n a k m ∧ 0 ≤ m.h ∧ wk1 n m b
theorem wk1_uniq {n : Int} {a b c : wS} (h : wk1 n a b) (h2 : wk1 n a c) : b = c := by
  obtain ⟨x, hx, hb⟩ := h
  obtain ⟨y, hy, hc⟩ := h2
  have e := wl_uniq hx hy
  subst e
  rcases hb with ⟨z, hb⟩ | ⟨z, hb⟩ <;> rcases hc with ⟨w, hc⟩ | ⟨w, hc⟩
  · rw [hb, hc]
  · exact absurd z w
  · exact absurd w z
  · rw [hb, hc]
theorem wkn_uniq {n : Int} {a : wS} : ∀ {k : Nat} {b c : wS}, wkn n a k b → wkn n a k c → b = c
  | 0, b, c, h, h2 => (show b = a from h).trans (show c = a from h2).symm
  | k + 1, b, c, ⟨m, h, _, h1⟩, ⟨m2, h2, _, h3⟩ => by
    have e := wkn_uniq h h2
    subst e
    exact wk1_uniq h1 h3
theorem wkn_le {n : Int} {a : wS} : ∀ {l : Nat} {b : wS} {k : Nat}, wkn n a l b → k < l → ∃ m, wkn n a k m ∧ 0 ≤ m.h
  | 0, _, _, _, h => absurd h (Nat.not_lt_zero _)
  | l + 1, b, k, ⟨m, h, h0, _⟩, hk => if c : k = l then ⟨m, by rw [c]; exact h, h0⟩ else wkn_le h (by omega)
/-- the walk has one end -/
theorem wkn_end {n : Int} {a b c : wS} {k l : Nat} (hb : wkn n a k b) (hc : wkn n a l c) (b0 : b.h < 0) (c0 : c.h < 0) : k = l ∧ b = c := by
  rcases Nat.lt_trichotomy k l with z | z | z
  · obtain ⟨m, h1, h2⟩ := wkn_le hc z
    rw [wkn_uniq h1 hb] at h2
    omega
  · subst z
    exact ⟨rfl, wkn_uniq hb hc⟩
  · obtain ⟨m, h1, h2⟩ := wkn_le hb z
    rw [wkn_uniq h1 hc] at h2
    omega
/-- how many ways, twice -/
def wt (n : Nat) (O : Int → Int → Int) : Int := mt_s (fun p => mt_s (fun q => O p q) n) n
theorem wt_one {n : Nat} {c x : Nat} (hc : c < n) (hx : x < n) : mt_s (fun p : Nat => mt_s (fun q : Nat => if (p : Int) = (c : Int) ∧ (q : Int) = (x : Int) then (1 : Int) else 0) n) n = 1 := by
  have e := mt_s_one (f := fun p : Nat => mt_s (fun q : Nat => if (p : Int) = (c : Int) ∧ (q : Int) = (x : Int) then (1 : Int) else 0) n) (g := fun _ => 0) (j := c) (n := n) hc (fun i _ hi => by
    rw [mt_s_congr (g := fun _ => 0) (fun q _ => if_neg (by omega)), mt_s_zero])
  rw [e, mt_s_zero]
  have e2 := mt_s_one (f := fun q : Nat => if (c : Int) = (c : Int) ∧ (q : Int) = (x : Int) then (1 : Int) else 0) (g := fun _ => 0) (j := x) (n := n) hx (fun i _ hi => if_neg (by omega))
  rw [e2, mt_s_zero]
  simp
theorem wt_wu {n : Nat} {O : Int → Int → Int} {c x : Int} (c0 : 0 ≤ c) (c1 : c < n) (x0 : 0 ≤ x) (x1 : x < n) : wt n (wu O c x) = wt n O - 2 := by
  obtain ⟨a, rfl⟩ : ∃ a : Nat, c = a := ⟨c.toNat, by omega⟩
  obtain ⟨b, rfl⟩ : ∃ b : Nat, x = b := ⟨x.toNat, by omega⟩
  have e : wt n (wu O a b) = mt_s (fun p : Nat => mt_s (fun q : Nat => O p q) n - mt_s (fun q : Nat => if (p : Int) = (a : Int) ∧ (q : Int) = (b : Int) then (1 : Int) else 0) n - mt_s (fun q : Nat => if (p : Int) = (b : Int) ∧ (q : Int) = (a : Int) then (1 : Int) else 0) n) n := by
    unfold wt
    refine mt_s_congr (fun p hp => ?_)
    rw [← mt_s_sub, ← mt_s_sub]
    rfl
  rw [e, mt_s_sub, mt_s_sub, wt_one (by omega) (by omega), wt_one (by omega) (by omega)]
  unfold wt
  omega
/-- what stands on the walk -/
abbrev wI (n : Nat) (T : Int) (k : Nat) (b : wS) : Prop := Nonempty (PProd (∀ p q, 0 ≤ p → p < (n : Int) → 0 ≤ q → q < (n : Int) → 0 ≤ b.O p q) (PProd (∀ p q, 0 ≤ p → p < (n : Int) → 0 ≤ q → q < (n : Int) → b.O p q = b.O q p) (PProd (∀ p, 0 ≤ p → p < (n : Int) → b.O p p = 0) (PProd (∀ i, 0 ≤ i → i ≤ b.h → 0 ≤ b.R i ∧ b.R i < (n : Int)) (PProd (∀ x, x ∈ b.L → 0 ≤ x ∧ x < (n : Int)) (∃ u : Nat, wt n b.O = T - 2 * (u : Int) ∧ b.h = (u : Int) - (b.L.length : Int) ∧ (k : Int) = (u : Int) + (b.L.length : Int)))))))
theorem wI.nn {n : Nat} {T : Int} {k : Nat} {b : wS} (h_ : wI n T k b) : ∀ p q, 0 ≤ p → p < (n : Int) → 0 ≤ q → q < (n : Int) → 0 ≤ b.O p q := h_.elim (fun x_ => x_.1)
theorem wI.sy {n : Nat} {T : Int} {k : Nat} {b : wS} (h_ : wI n T k b) : ∀ p q, 0 ≤ p → p < (n : Int) → 0 ≤ q → q < (n : Int) → b.O p q = b.O q p := h_.elim (fun x_ => x_.2.1)
theorem wI.dg {n : Nat} {T : Int} {k : Nat} {b : wS} (h_ : wI n T k b) : ∀ p, 0 ≤ p → p < (n : Int) → b.O p p = 0 := h_.elim (fun x_ => x_.2.2.1)
theorem wI.r {n : Nat} {T : Int} {k : Nat} {b : wS} (h_ : wI n T k b) : ∀ i, 0 ≤ i → i ≤ b.h → 0 ≤ b.R i ∧ b.R i < (n : Int) := h_.elim (fun x_ => x_.2.2.2.1)
theorem wI.l {n : Nat} {T : Int} {k : Nat} {b : wS} (h_ : wI n T k b) : ∀ x, x ∈ b.L → 0 ≤ x ∧ x < (n : Int) := h_.elim (fun x_ => x_.2.2.2.2.1)
theorem wI.ct {n : Nat} {T : Int} {k : Nat} {b : wS} (h_ : wI n T k b) : ∃ u : Nat, wt n b.O = T - 2 * (u : Int) ∧ b.h = (u : Int) - (b.L.length : Int) ∧ (k : Int) = (u : Int) + (b.L.length : Int) := h_.elim (fun x_ => x_.2.2.2.2.2)
theorem wt_nn {n : Nat} {O : Int → Int → Int} (h : ∀ p q, 0 ≤ p → p < (n : Int) → 0 ≤ q → q < (n : Int) → 0 ≤ O p q) : 0 ≤ wt n O := by
  have hh : mt_s (fun _ => 0) n ≤ wt n O := mt_s_le (fun p hp => by
    have h2 : mt_s (fun _ => 0) n ≤ mt_s (fun q : Nat => O p q) n := mt_s_le (fun q hq => h p q (by omega) (by omega) (by omega) (by omega))
    rw [mt_s_zero] at h2
    exact h2)
  rw [mt_s_zero] at hh
  exact hh
theorem wI_b {n : Nat} {T : Int} {k : Nat} {b : wS} (h : wI n T k b) (hT : T ≤ 78) : b.h ≤ 39 ∧ (0 ≤ b.h → (b.L.length : Int) ≤ 39 ∧ k ≤ 78) := by
  obtain ⟨u, u1, u2, u3⟩ := h.ct
  have := wt_nn h.nn
  omega
theorem wI_s {n : Nat} {T : Int} {k : Nat} {a b : wS} (h : wI n T k a) (h0 : 0 ≤ a.h) (hs : wk1 n a b) : wI n T (k + 1) b := by
  obtain ⟨u, u1, u2, u3⟩ := h.ct
  obtain ⟨x, hx, hb⟩ := hs
  have rc := h.r a.h h0 (Int.le_refl _)
  rcases hb with ⟨z, rfl⟩ | ⟨z, rfl⟩
  · refine ⟨h.nn, h.sy, h.dg, fun i i0 i1 => h.r i i0 (by have i1 : i ≤ a.h - 1 := i1; omega), fun y hy => ?_, u, u1, ?_, ?_⟩
    · have hy : y ∈ a.R a.h :: a.L := hy
      rcases List.mem_cons.mp hy with e | e
      · rw [e]; exact rc
      · exact h.l y e
    · show a.h - 1 = (u : Int) - ((a.L.length + 1 : Nat) : Int)
      omega
    · show ((k + 1 : Nat) : Int) = (u : Int) + ((a.L.length + 1 : Nat) : Int)
      omega
  · rcases hx with ⟨x1, -⟩ | ⟨x0, x1, x2, -⟩
    · exact absurd x1 z
    · have ne : a.R a.h ≠ x := fun e => by
        rw [e, h.dg x x0 x1] at x2; omega
      have sy := h.sy _ _ rc.1 rc.2 x0 x1
      refine ⟨fun p q p0 p1 q0 q1 => ?_, fun p q p0 p1 q0 q1 => ?_, fun p p0 p1 => ?_, fun i i0 i1 => ?_, h.l, u + 1, ?_, ?_, ?_⟩
      · have e := h.nn p q p0 p1 q0 q1
        show 0 ≤ a.O p q - (if p = a.R a.h ∧ q = x then 1 else 0) - (if p = x ∧ q = a.R a.h then 1 else 0)
        by_cases c1 : p = a.R a.h ∧ q = x
        · rw [if_pos c1, if_neg (fun y => ne (c1.1.symm.trans y.1)), c1.1, c1.2]; omega
        · rw [if_neg c1]
          by_cases c2 : p = x ∧ q = a.R a.h
          · rw [if_pos c2, c2.1, c2.2, ← sy]; omega
          · rw [if_neg c2]; omega
      · have e := h.sy p q p0 p1 q0 q1
        show a.O p q - (if p = a.R a.h ∧ q = x then 1 else 0) - (if p = x ∧ q = a.R a.h then 1 else 0) = a.O q p - (if q = a.R a.h ∧ p = x then 1 else 0) - (if q = x ∧ p = a.R a.h then 1 else 0)
        (repeat' split) <;> omega
      · have e := h.dg p p0 p1
        show a.O p p - (if p = a.R a.h ∧ p = x then 1 else 0) - (if p = x ∧ p = a.R a.h then 1 else 0) = 0
        rw [if_neg (fun y => ne (y.1.symm.trans y.2)), if_neg (fun y => ne (y.2.symm.trans y.1))]; omega
      · show 0 ≤ (if i = a.h + 1 then x else a.R i) ∧ (if i = a.h + 1 then x else a.R i) < (n : Int)
        have i1 : i ≤ a.h + 1 := i1
        split
        · exact ⟨x0, x1⟩
        · exact h.r i i0 (by omega)
      · show wt n (wu a.O (a.R a.h) x) = _
        rw [wt_wu rc.1 rc.2 x0 x1]; omega
      · show a.h + 1 = ((u + 1 : Nat) : Int) - (a.L.length : Int)
        omega
      · show ((k + 1 : Nat) : Int) = ((u + 1 : Nat) : Int) + (a.L.length : Int)
        omega
theorem wI_n {n : Nat} {T : Int} {a : wS} (h : wI n T 0 a) : ∀ {k : Nat} {b : wS}, wkn n a k b → wI n T k b
  | 0, b, e => by rw [show b = a from e]; exact h
  | k + 1, b, ⟨m, h1, h0, h2⟩ => wI_s (wI_n h h1) h0 h2
/-! the ways that are open at the beginning -/
def w2f (c x p q : Int) : Int := (if p = c ∧ q = x then 1 else 0) + (if p = x ∧ q = c then 1 else 0)
def wOt (hu : Int → Int) (k : Nat) (p q : Int) : Int := mt_s (fun c => if c = 0 then 0 else w2f c (hu c) p q) k
def wOp (pa : Int → Int) (k : Nat) (p q : Int) : Int := mt_s (fun c => if (c : Int) < pa c then w2f c (pa c) p q else 0) k
def wO0 (hu pa : Int → Int) (n : Nat) (p q : Int) : Int := wOt hu n p q + wOp pa n p q
theorem w2f_sy {c x p q : Int} : w2f c x p q = w2f c x q p := by
  unfold w2f
  (repeat' split) <;> omega
theorem w2f_t {n : Nat} {c x : Int} (c0 : 0 ≤ c) (c1 : c < n) (x0 : 0 ≤ x) (x1 : x < n) : wt n (w2f c x) = 2 := by
  have e := wt_wu (n := n) (O := fun _ _ => 0) c0 c1 x0 x1
  have z : wt n (fun _ _ => 0) = 0 := by
    unfold wt
    rw [mt_s_congr (g := fun _ => 0) (fun p _ => mt_s_zero n), mt_s_zero]
  have y : wt n (wu (fun _ _ => 0) c x) = 0 - wt n (w2f c x) := by
    have f : ∀ p q, wu (fun _ _ => 0) c x p q = 0 - w2f c x p q := fun p q => by
      show (0 : Int) - (if p = c ∧ q = x then 1 else 0) - (if p = x ∧ q = c then 1 else 0) = 0 - ((if p = c ∧ q = x then 1 else 0) + (if p = x ∧ q = c then 1 else 0))
      omega
    unfold wt
    rw [mt_s_congr (g := fun p : Nat => (fun _ => (0 : Int)) p - mt_s (fun q : Nat => w2f c x p q) n) (fun p _ => by
      rw [mt_s_congr (g := fun q : Nat => (fun _ => (0 : Int)) q - w2f c x p q) (fun q _ => f p q), mt_s_sub, mt_s_zero]), mt_s_sub, mt_s_zero]
  omega
theorem wt_add {n : Nat} (A B : Int → Int → Int) : wt n (fun p q => A p q + B p q) = wt n A + wt n B := by
  unfold wt
  rw [← mt_s_add]
  exact mt_s_congr (fun p _ => mt_s_add _ _ n)
theorem wt_z {n : Nat} : wt n (fun _ _ => 0) = 0 := by
  unfold wt
  rw [mt_s_congr (g := fun _ => 0) (fun p _ => mt_s_zero n), mt_s_zero]
theorem wOt_t {hu : Int → Int} {n : Nat} (hr : ∀ c, 1 ≤ c → c < (n : Int) → 0 ≤ hu c ∧ hu c < n) : ∀ k : Nat, k ≤ n → wt n (wOt hu k) ≤ 2 * (k : Int) ∧ (1 ≤ k → wt n (wOt hu k) ≤ 2 * (k : Int) - 2)
  | 0, _ => by
    have e : wt n (wOt hu 0) = 0 := wt_z
    rw [e]; omega
  | k + 1, hk => by
    have ih := wOt_t hr k (by omega)
    have e : wt n (wOt hu (k + 1)) = wt n (wOt hu k) + wt n (fun p q => if k = 0 then 0 else w2f k (hu k) p q) := wt_add _ _
    by_cases c : k = 0
    · subst c
      have z : wt n (fun p q => if (0 : Nat) = 0 then (0 : Int) else w2f ((0 : Nat) : Int) (hu ((0 : Nat) : Int)) p q) = 0 := by
        rw [show (fun p q => if (0 : Nat) = 0 then (0 : Int) else w2f ((0 : Nat) : Int) (hu ((0 : Nat) : Int)) p q) = fun _ _ => 0 from funext fun p => funext fun q => if_pos rfl]
        exact wt_z
      have y : wt n (wOt hu 0) = 0 := wt_z
      omega
    · have r := hr k (by omega) (by omega)
      have z : wt n (fun p q => if k = 0 then (0 : Int) else w2f (k : Int) (hu (k : Int)) p q) = 2 := by
        rw [show (fun p q => if k = 0 then (0 : Int) else w2f (k : Int) (hu (k : Int)) p q) = w2f (k : Int) (hu (k : Int)) from funext fun p => funext fun q => if_neg c]
        exact w2f_t (by omega) (by omega) r.1 r.2
      omega
theorem wOp_t {pa : Int → Int} {n : Nat} (hr : ∀ c, 0 ≤ c → c < (n : Int) → pa c < n) : ∀ k : Nat, k ≤ n → wt n (wOp pa k) ≤ 2 * (k : Int)
  | 0, _ => by
    have e : wt n (wOp pa 0) = 0 := wt_z
    rw [e]; omega
  | k + 1, hk => by
    have ih := wOp_t hr k (by omega)
    have e : wt n (wOp pa (k + 1)) = wt n (wOp pa k) + wt n (fun p q => if (k : Int) < pa k then w2f k (pa k) p q else 0) := wt_add _ _
    by_cases c : (k : Int) < pa k
    · have r := hr k (by omega) (by omega)
      have z : wt n (fun p q => if (k : Int) < pa k then w2f (k : Int) (pa (k : Int)) p q else (0 : Int)) = 2 := by
        rw [show (fun p q => if (k : Int) < pa k then w2f (k : Int) (pa (k : Int)) p q else (0 : Int)) = w2f (k : Int) (pa (k : Int)) from funext fun p => funext fun q => if_pos c]
        exact w2f_t (by omega) (by omega) (by omega) r
      omega
    · have z : wt n (fun p q => if (k : Int) < pa k then w2f (k : Int) (pa (k : Int)) p q else (0 : Int)) = 0 := by
        rw [show (fun p q => if (k : Int) < pa k then w2f (k : Int) (pa (k : Int)) p q else (0 : Int)) = fun _ _ => 0 from funext fun p => funext fun q => if_neg c]
        exact wt_z
      omega
def w0 (hu pa : Int → Int) (n : Nat) : wS := ⟨wO0 hu pa n, fun _ => 0, 0, []⟩
theorem wI_0 {hu pa : Int → Int} {n : Nat} (n1 : 1 ≤ n) (n2 : n ≤ 20) (hr : ∀ c, 1 ≤ c → c < (n : Int) → (0 ≤ hu c ∧ hu c < n) ∧ hu c ≠ c) (hp : ∀ c, 0 ≤ c → c < (n : Int) → pa c < n) : wI n (wt n (wO0 hu pa n)) 0 (w0 hu pa n) ∧ wt n (wO0 hu pa n) ≤ 78 := by
  have w2 : ∀ c x p q : Int, 0 ≤ w2f c x p q := fun c x p q => by unfold w2f; (repeat' split) <;> omega
  have wd : ∀ c x p : Int, c ≠ x → w2f c x p p = 0 := fun c x p h => by
    unfold w2f
    rw [if_neg (by omega), if_neg (by omega)]; rfl
  refine ⟨⟨fun p q _ _ _ _ => ?_, fun p q _ _ _ _ => ?_, fun p _ _ => ?_, fun i i0 i1 => ⟨Int.le_refl 0, by show (0 : Int) < n; omega⟩, fun x hx => absurd hx (List.not_mem_nil), 0, (show wt n (wO0 hu pa n) = wt n (wO0 hu pa n) - 2 * ((0 : Nat) : Int) by omega), rfl, rfl⟩, ?_⟩
  · show 0 ≤ wOt hu n p q + wOp pa n p q
    have a : mt_s (fun _ => 0) n ≤ wOt hu n p q := mt_s_le (fun c _ => by split; omega; exact w2 _ _ _ _)
    have b : mt_s (fun _ => 0) n ≤ wOp pa n p q := mt_s_le (fun c _ => by split; exact w2 _ _ _ _; omega)
    rw [mt_s_zero] at a b
    omega
  · show wOt hu n p q + wOp pa n p q = wOt hu n q p + wOp pa n q p
    have a : wOt hu n p q = wOt hu n q p := mt_s_congr (fun c _ => by rw [w2f_sy])
    have b : wOp pa n p q = wOp pa n q p := mt_s_congr (fun c _ => by rw [w2f_sy])
    rw [a, b]
  · show wOt hu n p p + wOp pa n p p = 0
    have a : wOt hu n p p = mt_s (fun _ => 0) n := mt_s_congr (fun c hc => by
      by_cases z : c = 0
      · rw [if_pos z]
      · rw [if_neg z]; exact wd _ _ _ (fun e => (hr c (by omega) (by omega)).2 e.symm))
    have b : wOp pa n p p = mt_s (fun _ => 0) n := mt_s_congr (fun c hc => by
      by_cases z : (c : Int) < pa c
      · rw [if_pos z]; exact wd _ _ _ (by omega)
      · rw [if_neg z])
    rw [a, b, mt_s_zero]; rfl
  · have a := (wOt_t (hu := hu) (n := n) (fun c c0 c1 => (hr c c0 c1).1) n (Nat.le_refl n)).2 n1
    have b := wOp_t hp n (Nat.le_refl n)
    have e : wt n (wO0 hu pa n) = wt n (wOt hu n) + wt n (wOp pa n) := wt_add _ _
    omega
