/-! sums, involutions, and what prices say of matchings -/
def mt_s (f : Nat → Int) : Nat → Int
  | 0 => 0
  | n + 1 => mt_s f n + f n
theorem mt_s_congr {f g : Nat → Int} : ∀ {n : Nat}, (∀ i, i < n → f i = g i) → mt_s f n = mt_s g n
  | 0, _ => rfl
  | n + 1, h => by
    show mt_s f n + f n = mt_s g n + g n
    rw [mt_s_congr (fun i hi => h i (by omega)), h n (by omega)]
theorem mt_s_le {f g : Nat → Int} : ∀ {n : Nat}, (∀ i, i < n → f i ≤ g i) → mt_s f n ≤ mt_s g n
  | 0, _ => Int.le_refl 0
  | n + 1, h => by
    show mt_s f n + f n ≤ mt_s g n + g n
    have h1 := mt_s_le (f := f) (g := g) (n := n) (fun i hi => h i (by omega))
    have h2 := h n (by omega)
    omega
theorem mt_s_add (f g : Nat → Int) : ∀ n : Nat, mt_s (fun i => f i + g i) n = mt_s f n + mt_s g n
  | 0 => rfl
  | n + 1 => by
    show mt_s (fun i => f i + g i) n + (f n + g n) = (mt_s f n + f n) + (mt_s g n + g n)
    rw [mt_s_add f g n]
    omega
theorem mt_s_sub (f g : Nat → Int) : ∀ n : Nat, mt_s (fun i => f i - g i) n = mt_s f n - mt_s g n
  | 0 => rfl
  | n + 1 => by
    show mt_s (fun i => f i - g i) n + (f n - g n) = (mt_s f n + f n) - (mt_s g n + g n)
    rw [mt_s_sub f g n]
    omega
theorem mt_s_mul (c : Int) (f : Nat → Int) : ∀ n : Nat, mt_s (fun i => c * f i) n = c * mt_s f n
  | 0 => (Int.mul_zero c).symm
  | n + 1 => by
    show mt_s (fun i => c * f i) n + c * f n = c * (mt_s f n + f n)
    rw [mt_s_mul c f n, Int.mul_add]
theorem mt_s_zero : ∀ n : Nat, mt_s (fun _ => 0) n = 0
  | 0 => rfl
  | n + 1 => by
    show mt_s (fun _ => 0) n + 0 = 0
    rw [mt_s_zero n]
    rfl
theorem mt_s_swap (f : Nat → Nat → Int) : ∀ n m : Nat, mt_s (fun i => mt_s (fun k => f i k) m) n = mt_s (fun k => mt_s (fun i => f i k) n) m
  | 0, m => (mt_s_zero m).symm
  | n + 1, m => by
    show mt_s (fun i => mt_s (fun k => f i k) m) n + mt_s (fun k => f n k) m = mt_s (fun k => mt_s (fun i => f i k) n + f n k) m
    rw [mt_s_swap f n m, mt_s_add]
/-- two that differ at one place alone -/
theorem mt_s_one {f g : Nat → Int} {j : Nat} : ∀ {n : Nat}, j < n → (∀ i, i < n → i ≠ j → f i = g i) → mt_s f n = mt_s g n + (f j - g j)
  | 0, h, _ => absurd h (Nat.not_lt_zero j)
  | n + 1, h, e => by
    show mt_s f n + f n = mt_s g n + g n + (f j - g j)
    by_cases hj : j = n
    · subst hj
      rw [mt_s_congr (fun i hi => e i (by omega) (by omega))]
      omega
    · rw [mt_s_one (by omega : j < n) (fun i hi hne => e i (by omega) hne), e n (by omega) (fun z => hj z.symm)]
      omega
def mt_inv (n : Nat) (q : Nat → Nat) : Prop := ∀ i, i < n → q i < n ∧ q (q i) = i
theorem mt_perm (g : Nat → Int) : ∀ (n : Nat) (q : Nat → Nat), mt_inv n q → mt_s (fun i => g (q i)) n = mt_s g n
  | 0, _, _ => rfl
  | n + 1, q, h => by
    have hn := h n (by omega)
    by_cases e : q n = n
    · show mt_s (fun i => g (q i)) n + g (q n) = mt_s g n + g n
      rw [mt_perm g n q, e]
      intro i hi
      have h1 := h i (by omega)
      refine ⟨?_, h1.2⟩
      have : q i ≠ n := fun z => by
        have := h1.2
        rw [z, e] at this
        omega
      omega
    · have hj : q n < n := by omega
      show mt_s (fun i => g (q i)) n + g (q n) = mt_s g n + g n
      have h2 := mt_perm g n (fun i => if i = q n then q n else q i) (fun i hi => by
        by_cases ei : i = q n
        · simp only [ei, if_true]
          exact ⟨hj, trivial⟩
        · have h1 := h i (by omega)
          have a1 : q i ≠ n := fun z => ei (by rw [← h1.2, z])
          have a2 : q i ≠ q n := fun z => by
            have := congrArg q z
            rw [h1.2, hn.2] at this
            omega
          simp only [if_neg ei, if_neg a2]
          exact ⟨by omega, h1.2⟩)
      rw [mt_s_one (f := fun i => g (q i)) (g := fun i => g (if i = q n then q n else q i)) hj (fun i hi hne => by simp only [if_neg hne]), h2]
      simp only [if_true, hn.2]
      omega
def mt_b (b : Bool) : Int := if b then 1 else 0
theorem mt_even : ∀ (n : Nat) (q : Nat → Nat) (S : Nat → Bool), (∀ i, i < n → S i = true → q i < n ∧ S (q i) = true ∧ q i ≠ i ∧ q (q i) = i) → ∃ k : Int, mt_s (fun i => mt_b (S i)) n = 2 * k
  | 0, _, _, _ => ⟨0, rfl⟩
  | n + 1, q, S, h => by
    show ∃ k : Int, mt_s (fun i => mt_b (S i)) n + mt_b (S n) = 2 * k
    by_cases e : S n = true
    · obtain ⟨a1, a2, a3, a4⟩ := h n (by omega) e
      have hj : q n < n := by omega
      obtain ⟨k, hk⟩ := mt_even n q (fun i => S i && decide (i ≠ q n)) (fun i hi hs => by
        simp only [Bool.and_eq_true, decide_eq_true_eq] at hs ⊢
        obtain ⟨b1, b2, b3, b4⟩ := h i (by omega) hs.1
        have c1 : q i ≠ n := fun z => hs.2 (by rw [← b4, z])
        have c2 : q i ≠ q n := fun z => by
          have := congrArg q z
          rw [b4, a4] at this
          omega
        exact ⟨by omega, ⟨b2, c2⟩, b3, b4⟩)
      refine ⟨k + 1, ?_⟩
      rw [mt_s_one (f := fun i => mt_b (S i)) (g := fun i => mt_b (S i && decide (i ≠ q n))) hj (fun i hi hne => by simp [hne]), hk, e, a2]
      simp [mt_b]
      omega
    · obtain ⟨k, hk⟩ := mt_even n q S (fun i hi hs => by
        obtain ⟨b1, b2, b3, b4⟩ := h i (by omega) hs
        have c1 : q i ≠ n := fun z => e (by rw [← z]; exact b2)
        exact ⟨by omega, b2, b3, b4⟩)
      refine ⟨k, ?_⟩
      rw [hk]
      simp [mt_b, e]
/-- a matching of all 0 .. n - 1 -/
def mt_pm (n : Nat) (q : Nat → Nat) : Prop := ∀ i, i < n → q i < n ∧ q i ≠ i ∧ q (q i) = i
theorem mt_pm_inv {n : Nat} {q : Nat → Nat} (h : mt_pm n q) : mt_inv n q := fun i hi => ⟨(h i hi).1, (h i hi).2.2⟩
def mt_in (mem : Nat → Nat → Bool) (n : Nat) (q : Nat → Nat) (k : Nat) : Int := mt_s (fun i => mt_b (mem k i && mem k (q i))) n
def mt_sz (mem : Nat → Nat → Bool) (n k : Nat) : Int := mt_s (fun i => mt_b (mem k i)) n
theorem mt_in_even {mem : Nat → Nat → Bool} {n : Nat} {q : Nat → Nat} (h : mt_pm n q) (k : Nat) : ∃ r : Int, mt_in mem n q k = 2 * r :=
  mt_even n q (fun i => mem k i && mem k (q i)) (fun i hi hs => by
    obtain ⟨a1, a2, a3⟩ := h i hi
    simp only [Bool.and_eq_true] at hs ⊢
    exact ⟨a1, ⟨hs.2, by rw [a3]; exact hs.1⟩, a2, a3⟩)
theorem mt_in_le {mem : Nat → Nat → Bool} {n : Nat} {q : Nat → Nat} (k : Nat) : mt_in mem n q k ≤ mt_sz mem n k :=
  mt_s_le (fun i _ => by
    cases mem k i <;> cases mem k (q i) <;> decide)
/-- the prices around two -/
def mt_z (mem : Nat → Nat → Bool) (z : Nat → Int) (K a b : Nat) : Int := mt_s (fun k => z k * mt_b (mem k a && mem k b)) K
theorem mt_sum_z {mem : Nat → Nat → Bool} {z : Nat → Int} {K n : Nat} {q : Nat → Nat} : mt_s (fun i => mt_z mem z K i (q i)) n = mt_s (fun k => z k * mt_in mem n q k) K := by
  unfold mt_z
  rw [mt_s_swap]
  refine mt_s_congr (fun k _ => ?_)
  rw [mt_s_mul]
  rfl
/-- no matching costs less than the prices say -/
theorem mt_dual {c : Nat → Nat → Int} {u z : Nat → Int} {mem : Nat → Nat → Bool} {K n : Nat} {q : Nat → Nat} (hq : mt_pm n q) (hz : ∀ k, k < K → 0 ≤ z k) (ho : ∀ k, k < K → z k ≠ 0 → ∃ r : Int, mt_sz mem n k = 2 * r + 1) (hf : ∀ a b, a < n → b < n → a ≠ b → u a + u b - mt_z mem z K a b ≤ c a b) :
    2 * mt_s u n - mt_s (fun k => z k * (mt_sz mem n k - 1)) K ≤ mt_s (fun i => c i (q i)) n := by
  have h1 : mt_s (fun i => u i + u (q i) - mt_z mem z K i (q i)) n ≤ mt_s (fun i => c i (q i)) n := mt_s_le (fun i hi => hf i (q i) hi (hq i hi).1 (fun e => (hq i hi).2.1 e.symm))
  rw [mt_s_sub, mt_s_add, mt_perm u n q (mt_pm_inv hq), mt_sum_z] at h1
  have h2 : mt_s (fun k => z k * mt_in mem n q k) K ≤ mt_s (fun k => z k * (mt_sz mem n k - 1)) K := mt_s_le (fun k hk => by
    by_cases e : z k = 0
    · rw [e]
      omega
    · obtain ⟨r, hr⟩ := ho k hk e
      obtain ⟨s, hs⟩ := mt_in_even (mem := mem) hq k
      have h3 := mt_in_le (mem := mem) (n := n) (q := q) k
      exact Int.mul_le_mul_of_nonneg_left (by omega) (hz k hk))
  omega
/-- one whose pairs are tight, and that fills the rings, costs just that -/
theorem mt_tight {c : Nat → Nat → Int} {u z : Nat → Int} {mem : Nat → Nat → Bool} {K n : Nat} {p : Nat → Nat} (hp : mt_pm n p) (hi : ∀ k, k < K → z k ≠ 0 → mt_in mem n p k = mt_sz mem n k - 1) (ht : ∀ a, a < n → c a (p a) = u a + u (p a) - mt_z mem z K a (p a)) :
    mt_s (fun i => c i (p i)) n = 2 * mt_s u n - mt_s (fun k => z k * (mt_sz mem n k - 1)) K := by
  rw [mt_s_congr ht, mt_s_sub, mt_s_add, mt_perm u n p (mt_pm_inv hp), mt_sum_z]
  have h2 : mt_s (fun k => z k * mt_in mem n p k) K = mt_s (fun k => z k * (mt_sz mem n k - 1)) K := mt_s_congr (fun k hk => by
    by_cases e : z k = 0
    · rw [e, Int.zero_mul, Int.zero_mul]
    · rw [hi k hk e])
  omega
