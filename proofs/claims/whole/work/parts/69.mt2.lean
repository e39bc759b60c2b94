/-! matchings of a set, least ones, the first least one -/
def mt_pmS (k : Nat) (S : Nat → Bool) (p : Nat → Nat) : Prop := ∀ i, i < k → S i = true → p i < k ∧ S (p i) = true ∧ p i ≠ i ∧ p (p i) = i
def mt_co (w : Nat → Nat → Int) (k : Nat) (S : Nat → Bool) (p : Nat → Nat) : Int := mt_s (fun i => if S i = true ∧ i < p i then w i (p i) else 0) k
/-- S without a and b -/
def mt_wo (S : Nat → Bool) (a b : Nat) : Nat → Bool := fun i => S i && decide (i ≠ a) && decide (i ≠ b)
theorem mt_wo_t {S : Nat → Bool} {a b i : Nat} : mt_wo S a b i = true ↔ S i = true ∧ i ≠ a ∧ i ≠ b := by
  unfold mt_wo
  simp only [Bool.and_eq_true, decide_eq_true_eq, and_assoc]
theorem mt_pmS_wo {k : Nat} {S : Nat → Bool} {p : Nat → Nat} {a : Nat} (h : mt_pmS k S p) (ha : a < k) (hS : S a = true) : mt_pmS k (mt_wo S a (p a)) p := by
  intro i hi hs
  obtain ⟨s1, s2, s3⟩ := mt_wo_t.mp hs
  obtain ⟨b1, b2, b3, b4⟩ := h i hi s1
  obtain ⟨a1, a2, a3, a4⟩ := h a ha hS
  refine ⟨b1, mt_wo_t.mpr ⟨b2, fun e => s3 (by rw [← b4, e]), fun e => ?_⟩, b3, b4⟩
  have := congrArg p e
  rw [b4, a4] at this
  exact s2 this
/-- the pair a, b and a matching of the rest -/
def mt_jn (p : Nat → Nat) (a b : Nat) : Nat → Nat := fun i => if i = a then b else if i = b then a else p i
theorem mt_jn_pm {k : Nat} {S : Nat → Bool} {p : Nat → Nat} {a b : Nat} (h : mt_pmS k (mt_wo S a b) p) (ha : a < k) (hb : b < k) (hSa : S a = true) (hSb : S b = true) (hab : a ≠ b) : mt_pmS k S (mt_jn p a b) := by
  intro i hi hs
  unfold mt_jn
  by_cases e1 : i = a
  · subst e1
    rw [if_pos rfl, if_neg (fun e => hab e.symm), if_pos rfl]
    exact ⟨hb, hSb, fun e => hab e.symm, rfl⟩
  · by_cases e2 : i = b
    · subst e2
      rw [if_neg e1, if_pos rfl, if_pos rfl]
      exact ⟨ha, hSa, hab, rfl⟩
    · rw [if_neg e1, if_neg e2]
      obtain ⟨b1, b2, b3, b4⟩ := h i hi (mt_wo_t.mpr ⟨hs, e1, e2⟩)
      obtain ⟨c1, c2, c3⟩ := mt_wo_t.mp b2
      rw [if_neg c2, if_neg c3]
      exact ⟨b1, c1, b3, b4⟩
theorem mt_s_two {f g : Nat → Int} {a b n : Nat} (ha : a < n) (hb : b < n) (hab : a ≠ b) (h : ∀ i, i < n → i ≠ a → i ≠ b → f i = g i) : mt_s f n = mt_s g n + (f a - g a) + (f b - g b) := by
  have h1 := mt_s_one (f := f) (g := fun i => if i = a then g i else f i) ha (fun i hi hne => by simp only [if_neg hne])
  have h2 := mt_s_one (f := fun i => if i = a then g i else f i) (g := g) hb (fun i hi hne => by
    by_cases e : i = a
    · simp only [if_pos e]
    · simp only [if_neg e]
      exact h i hi e hne)
  rw [h1, h2]
  simp only [if_true, if_neg (fun e => hab e.symm : ¬ b = a)]
  omega
/-- the cost of a matching: its pair at a, and the rest -/
theorem mt_co_wo {w : Nat → Nat → Int} {k : Nat} {S : Nat → Bool} {p : Nat → Nat} {a : Nat} (h : mt_pmS k S p) (ha : a < k) (hS : S a = true) (hlt : a < p a) : mt_co w k S p = w a (p a) + mt_co w k (mt_wo S a (p a)) p := by
  obtain ⟨a1, a2, a3, a4⟩ := h a ha hS
  unfold mt_co
  rw [mt_s_two (f := fun i => if S i = true ∧ i < p i then w i (p i) else 0) (g := fun i => if mt_wo S a (p a) i = true ∧ i < p i then w i (p i) else 0) ha a1 (fun e => a3 e.symm) (fun i hi e1 e2 => by
    by_cases e : S i = true ∧ i < p i
    · rw [if_pos e, if_pos ⟨mt_wo_t.mpr ⟨e.1, e1, e2⟩, e.2⟩]
    · rw [if_neg e, if_neg (fun z => e ⟨(mt_wo_t.mp z.1).1, z.2⟩)])]
  rw [if_pos ⟨hS, hlt⟩, if_neg (fun z => (mt_wo_t.mp z.1).2.1 rfl), if_neg (fun z : S (p a) = true ∧ p a < p (p a) => by
    have := z.2
    rw [a4] at this
    omega), if_neg (fun z => (mt_wo_t.mp z.1).2.2 rfl)]
  omega
theorem mt_co_congr {w : Nat → Nat → Int} {k : Nat} {S : Nat → Bool} {p q : Nat → Nat} (h : ∀ i, i < k → S i = true → p i = q i) : mt_co w k S p = mt_co w k S q := by
  refine mt_s_congr (fun i hi => ?_)
  by_cases e : S i = true
  · rw [h i hi e]
  · rw [if_neg (fun z => e z.1), if_neg (fun z => e z.1)]
theorem mt_pmS_congr {k : Nat} {S : Nat → Bool} {p q : Nat → Nat} (h : ∀ i, i < k → S i = true → p i = q i) (hp : mt_pmS k S p) : mt_pmS k S q := by
  intro i hi hs
  obtain ⟨b1, b2, b3, b4⟩ := hp i hi hs
  rw [← h i hi hs, ← h (p i) b1 b2]
  exact ⟨b1, b2, b3, b4⟩
/-- v is the least cost of the matchings of S -/
def mt_opt (w : Nat → Nat → Int) (k : Nat) (S : Nat → Bool) (p : Nat → Nat) : Prop := mt_pmS k S p ∧ ∀ q, mt_pmS k S q → mt_co w k S p ≤ mt_co w k S q
/-- the first one of the least ones -/
def mt_lex (w : Nat → Nat → Int) (k : Nat) (S : Nat → Bool) (p : Nat → Nat) : Prop := mt_opt w k S p ∧ ∀ q, mt_opt w k S q → ∀ i, i < k → S i = true → (∀ j, j < i → S j = true → q j = p j) → p i ≤ q i
theorem mt_lex_uniq {w : Nat → Nat → Int} {k : Nat} {S : Nat → Bool} {p q : Nat → Nat} (hp : mt_lex w k S p) (hq : mt_lex w k S q) : ∀ i, i < k → S i = true → p i = q i := by
  intro i
  induction i using Nat.strongRecOn with
  | ind i ih =>
    intro hi hs
    have h1 := hp.2 q hq.1 i hi hs (fun j hj hsj => (ih j hj (by omega) hsj).symm)
    have h2 := hq.2 p hp.1 i hi hs (fun j hj hsj => ih j hj (by omega) hsj)
    omega
/-- a least one, but for its pair at a, is a least one of the rest -/
theorem mt_opt_wo {w : Nat → Nat → Int} {k : Nat} {S : Nat → Bool} {p : Nat → Nat} {a : Nat} (h : mt_opt w k S p) (ha : a < k) (hS : S a = true) (hlt : a < p a) : mt_opt w k (mt_wo S a (p a)) p := by
  obtain ⟨a1, a2, a3, a4⟩ := h.1 a ha hS
  refine ⟨mt_pmS_wo h.1 ha hS, fun q hq => ?_⟩
  have hj := mt_jn_pm hq ha a1 hS a2 (fun e => a3 e.symm)
  have h1 := h.2 _ hj
  have ea : mt_jn q a (p a) a = p a := if_pos rfl
  rw [mt_co_wo h.1 ha hS hlt, mt_co_wo hj ha hS (by rw [ea]; exact hlt), ea] at h1
  have h2 : mt_co w k (mt_wo S a (p a)) (mt_jn q a (p a)) = mt_co w k (mt_wo S a (p a)) q := mt_co_congr (fun i hi hs => by
    obtain ⟨c1, c2, c3⟩ := mt_wo_t.mp hs
    unfold mt_jn
    rw [if_neg c2, if_neg c3])
  omega
/-- the first pair, and the first least one of the rest -/
theorem mt_lex_jn {w : Nat → Nat → Int} {k : Nat} {S : Nat → Bool} {p : Nat → Nat} {a : Nat} (ha : a < k) (hS : S a = true) (hmin : ∀ i, i < a → S i = true → False) (ho : mt_opt w k S p) (hb : ∀ q, mt_opt w k S q → p a ≤ q a) (hr : mt_lex w k (mt_wo S a (p a)) p) : mt_lex w k S p := by
  refine ⟨ho, fun q hq i hi hs hj => ?_⟩
  obtain ⟨a1, a2, a3, a4⟩ := ho.1 a ha hS
  have hlt : a < p a := by
    rcases Nat.lt_or_ge a (p a) with h | h
    · exact h
    · exact absurd (hmin (p a) (by omega) a2) id
  by_cases e1 : i = a
  · subst e1
    exact hb q hq
  · have hai : a < i := by
      rcases Nat.lt_or_ge a i with h | h
      · exact h
      · exact absurd (hmin i (by omega) hs) id
    have ea := hj a hai hS
    obtain ⟨q1, q2, q3, q4⟩ := hq.1 a ha hS
    by_cases e2 : i = p a
    · subst e2
      have : q (p a) = a := by
        rw [← ea]
        exact q4
      omega
    · have hqw := mt_opt_wo hq ha hS (by rw [ea]; exact hlt)
      rw [ea] at hqw
      exact hr.2 q hqw i hi (mt_wo_t.mpr ⟨hs, e1, e2⟩) (fun j h1 h2 => hj j h1 (mt_wo_t.mp h2).1)
