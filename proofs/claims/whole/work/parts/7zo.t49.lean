/-! PURE: the length of a tour after a move, the k stops as they are -/
theorem tl_mvf {n k i p : Nat} {D : Int → Int → Int} {t : Int → Int} (hk : 1 ≤ k) (hi : 1 ≤ i) (hn : i + k ≤ n) (hp : p + k < n) : tl n D (mvf k i p 0 t) n = tl n D t n - msv n D t k i + (D (t (wo n k i p)) (t i) + D (t ((i : Int) + k - 1)) (t (wo n k i ((p : Int) + 1))) - D (t (wo n k i p)) (t (wo n k i ((p : Int) + 1)))) := by
  have gA : ∀ x : Int, x ≤ p → mvf k i p 0 t x = rsf k i t x := fun x hx => if_pos hx
  have gB : ∀ x : Int, (p : Int) < x → x ≤ p + k → mvf k i p 0 t x = t (i + (x - p - 1)) := fun x h1 h2 => by
    unfold mvf
    rw [if_neg (by omega), if_pos h2, if_pos rfl]
  have gC : ∀ x : Int, (p : Int) + k < x → mvf k i p 0 t x = rsf k i t (x - k) := fun x h => by
    unfold mvf
    rw [if_neg (by omega), if_neg (by omega)]
  have w0 : rsf k i t p = t (wo n k i p) := by
    unfold wo nx0 rsf
    (repeat' split) <;> first | (exfalso; omega) | rfl
  have w1 : rsf k i t (nxt ((n - k : Nat) : Int) p) = t (wo n k i ((p : Int) + 1)) := by
    unfold wo nx0 rsf nxt
    (repeat' split) <;> first | (exfalso; omega) | rfl | (congr 1; omega)
  have q1 : ∀ m : Nat, m ≤ p → tl n D (mvf k i p 0 t) m = tl ((n - k : Nat) : Int) D (rsf k i t) m := by
    intro m
    induction m with
    | zero => intro _; rfl
    | succ m ih =>
      intro h
      rw [tl_s, tl_s, ih (by omega), nxt_s (by omega), nxt_s (by omega), gA _ (by omega), gA _ (by omega)]
  have q2 : ∀ r : Nat, r + 1 ≤ k → tl n D (mvf k i p 0 t) (p + 1 + r) = tl ((n - k : Nat) : Int) D (rsf k i t) p + D (t (wo n k i p)) (t i) + (tl n D t (i + r) - tl n D t i) := by
    intro r
    induction r with
    | zero =>
      intro h
      rw [show p + 1 + 0 = p + 1 from rfl, tl_s, q1 p (Nat.le_refl p), nxt_s (by omega), gA _ (by omega), gB _ (by omega) (by omega), w0, show (i : Int) + ((p : Int) + 1 - p - 1) = i by omega, show i + 0 = i from rfl]
      omega
    | succ r ih =>
      intro h
      rw [show p + 1 + (r + 1) = (p + 1 + r) + 1 from rfl, tl_s, ih (by omega), nxt_s (by omega), gB _ (by omega) (by omega), gB _ (by omega) (by omega), show i + (r + 1) = (i + r) + 1 from rfl, tl_s n D t, nxt_s (y := ((i + r : Nat) : Int)) (by omega), show (i : Int) + (((p + 1 + r : Nat) : Int) - p - 1) = ((i + r : Nat) : Int) by omega, show (i : Int) + (((p + 1 + r : Nat) : Int) + 1 - p - 1) = ((i + r : Nat) : Int) + 1 by omega]
      omega
  have q3 : ∀ r : Nat, p + 1 + r + k ≤ n → tl n D (mvf k i p 0 t) (p + 1 + k + r) = tl ((n - k : Nat) : Int) D (rsf k i t) p + D (t (wo n k i p)) (t i) + (tl n D t (i + (k - 1)) - tl n D t i) + D (t ((i : Int) + k - 1)) (t (wo n k i ((p : Int) + 1))) + (tl ((n - k : Nat) : Int) D (rsf k i t) (p + 1 + r) - tl ((n - k : Nat) : Int) D (rsf k i t) (p + 1)) := by
    intro r
    induction r with
    | zero =>
      intro h
      have e := q2 (k - 1) (by omega)
      rw [show p + 1 + (k - 1) = p + k by omega] at e
      have e2 : mvf k i p 0 t (nxt n ((p + k : Nat) : Int)) = rsf k i t (nxt ((n - k : Nat) : Int) p) := by
        by_cases z : p + k + 1 < n
        · rw [nxt_s (by omega), nxt_s (by omega), gC _ (by omega), show ((p + k : Nat) : Int) + 1 - k = p + 1 by omega]
        · rw [show nxt n ((p + k : Nat) : Int) = 0 from if_neg (by omega), show nxt ((n - k : Nat) : Int) p = 0 from if_neg (by omega), gA _ (by omega)]
      rw [show p + 1 + k + 0 = (p + k) + 1 by omega, tl_s, e, e2, w1, gB _ (by omega) (by omega), show (i : Int) + (((p + k : Nat) : Int) - p - 1) = i + k - 1 by omega, show p + 1 + 0 = p + 1 from rfl]
      omega
    | succ r ih =>
      intro h
      have e := ih (by omega)
      have e2 : mvf k i p 0 t (nxt n ((p + 1 + k + r : Nat) : Int)) = rsf k i t (nxt ((n - k : Nat) : Int) ((p + 1 + r : Nat) : Int)) := by
        by_cases z : p + 1 + k + r + 1 < n
        · rw [nxt_s (by omega), nxt_s (by omega), gC _ (by omega), show ((p + 1 + k + r : Nat) : Int) + 1 - k = ((p + 1 + r : Nat) : Int) + 1 by omega]
        · rw [show nxt n ((p + 1 + k + r : Nat) : Int) = 0 from if_neg (by omega), show nxt ((n - k : Nat) : Int) ((p + 1 + r : Nat) : Int) = 0 from if_neg (by omega), gA _ (by omega)]
      rw [show p + 1 + k + (r + 1) = (p + 1 + k + r) + 1 from rfl, tl_s, e, e2, gC _ (by omega), show ((p + 1 + k + r : Nat) : Int) - k = ((p + 1 + r : Nat) : Int) by omega, show p + 1 + (r + 1) = (p + 1 + r) + 1 from rfl, tl_s ((n - k : Nat) : Int) D (rsf k i t) (p + 1 + r)]
      omega
  have f1 := q3 (n - k - p - 1) (by omega)
  rw [show p + 1 + k + (n - k - p - 1) = n by omega, show p + 1 + (n - k - p - 1) = n - k by omega, tl_s _ _ _ p, w0, w1] at f1
  have f2 := tl_rest (D := D) (t := t) hk hi hn (n - k - i) (by omega)
  rw [show i + (n - k - i) = n - k by omega, show n - k + k = n by omega] at f2
  obtain ⟨j, rfl⟩ : ∃ j : Nat, i = j + 1 := ⟨i - 1, by omega⟩
  have f3 : tl n D t (j + 1 + k) = tl n D t (j + 1 + (k - 1)) + D (t (((j + 1 : Nat) : Int) + k - 1)) (t (nx0 n (((j + 1 : Nat) : Int) + k))) := by
    rw [show j + 1 + k = (j + 1 + (k - 1)) + 1 by omega, tl_s, show ((j + 1 + (k - 1) : Nat) : Int) = ((j + 1 : Nat) : Int) + k - 1 by omega]
    congr 3
    unfold nxt nx0
    (repeat' split) <;> omega
  have f4 : tl n D t (j + 1) = tl n D t j + D (t j) (t ((j + 1 : Nat) : Int)) := by
    rw [tl_s, nxt_s (by omega)]
    rfl
  rw [show j + 1 - 1 = j from rfl, show ((j + 1 : Nat) : Int) - 1 = j by omega] at f2
  unfold msv
  rw [show ((j + 1 : Nat) : Int) - 1 = j by omega]
  omega
