/-! PURE: the length of what is left when k stops are taken out -/
theorem tl_rest {n k i : Nat} {D : Int → Int → Int} {t : Int → Int} (hk : 1 ≤ k) (hi : 1 ≤ i) (hn : i + k ≤ n) : ∀ r : Nat, i + r + k ≤ n → tl ((n - k : Nat) : Int) D (rsf k i t) (i + r) = tl n D t (i + r + k) - tl n D t (i + k) + tl n D t (i - 1) + D (t ((i : Int) - 1)) (t (nx0 n ((i : Int) + k))) := by
  have p1 : ∀ m : Nat, m + 1 ≤ i → tl ((n - k : Nat) : Int) D (rsf k i t) m = tl n D t m := by
    intro m
    induction m with
    | zero => intro _; rfl
    | succ m ih =>
      intro h
      rw [tl_s, tl_s, ih (by omega), nxt_s (by omega), nxt_s (by omega), show rsf k i t m = t m from if_pos (by omega), show rsf k i t ((m : Int) + 1) = t ((m : Int) + 1) from if_pos (by omega)]
  intro r
  induction r with
  | zero =>
    intro h
    obtain ⟨j, rfl⟩ : ∃ j : Nat, i = j + 1 := ⟨i - 1, by omega⟩
    have e : rsf k ((j + 1 : Nat) : Int) t (nxt ((n - k : Nat) : Int) j) = t (nx0 n (((j + 1 : Nat) : Int) + k)) := by
      unfold nxt nx0 rsf
      (repeat' split) <;> first | (exfalso; omega) | rfl | (congr 1; omega)
    rw [show j + 1 + 0 = j + 1 from rfl, tl_s, p1 j (by omega), e, show rsf k ((j + 1 : Nat) : Int) t j = t j from if_pos (by omega), show j + 1 - 1 = j from rfl, show ((j + 1 : Nat) : Int) - 1 = j by omega]
    omega
  | succ r ih =>
    intro h
    have e1 := ih (by omega)
    have e2 : rsf k i t (nxt ((n - k : Nat) : Int) ((i + r : Nat) : Int)) = t (nxt n ((i + r + k : Nat) : Int)) := by
      unfold nxt rsf
      (repeat' split) <;> first | (exfalso; omega) | rfl | (congr 1; omega)
    rw [show i + (r + 1) = (i + r) + 1 from rfl, tl_s, e1, e2, show (i + r) + 1 + k = (i + r + k) + 1 by omega, tl_s n D t, show rsf k i t ((i + r : Nat) : Int) = t (((i + r : Nat) : Int) + k) from if_neg (by omega), show (((i + r : Nat) : Int) + k) = ((i + r + k : Nat) : Int) by omega]
    omega
