/-! PURE: a turn's length -/
theorem nxt_s {n y : Int} (h : y + 1 < n) : nxt n y = y + 1 := if_pos h
theorem rvf_o {a b y : Int} {t : Int → Int} (h : ¬ (a ≤ y ∧ y ≤ b)) : rvf a b t y = t y := if_neg h
theorem rvf_i {a b y : Int} {t : Int → Int} (h : a ≤ y ∧ y ≤ b) : rvf a b t y = t (a + b - y) := if_pos h
theorem tl_rv {n : Nat} {D : Int → Int → Int} {t : Int → Int} (hS : ∀ a b, 0 ≤ a → a < (n : Int) → 0 ≤ b → b < (n : Int) → D a b = D b a) (ht : st_ok n t) (i j : Nat) (hij : i < j) (hj : j < n) : tl n D (rvf ((i : Int) + 1) j t) n = tl n D t n + (D (t i) (t j) + D (t ((i : Int) + 1)) (t (nxt n j))) - (D (t i) (t ((i : Int) + 1)) + D (t j) (t (nxt n j))) := by
  have hz : 0 ≤ nxt n j ∧ nxt n j < n ∧ (nxt n j = 0 ∨ nxt n j = (j : Int) + 1) := by
    unfold nxt
    split <;> omega
  have p1 : ∀ m : Nat, m ≤ i → tl n D (rvf ((i : Int) + 1) j t) m = tl n D t m := by
    intro m
    induction m with
    | zero => intro _; rfl
    | succ m ih =>
      intro h
      rw [tl_s, tl_s, ih (by omega), nxt_s (by omega), rvf_o (by omega), rvf_o (by omega)]
  have p2 : ∀ r : Nat, i + 1 + r ≤ j → tl n D (rvf ((i : Int) + 1) j t) (i + 1 + r) = tl n D t i + D (t i) (t j) + (tl n D t j - tl n D t (j - r)) := by
    intro r
    induction r with
    | zero =>
      intro h
      rw [show i + 1 + 0 = i + 1 from rfl, tl_s, p1 i (Nat.le_refl i), nxt_s (by omega), rvf_o (by omega), rvf_i (by omega), show (i : Int) + 1 + j - (i + 1) = j by omega, show j - 0 = j from rfl]
      omega
    | succ r ih =>
      intro h
      obtain ⟨y, ey⟩ : ∃ y : Nat, j - r = y + 1 := ⟨j - r - 1, by omega⟩
      have e1 := ih (by omega)
      rw [ey, tl_s, nxt_s (by omega)] at e1
      rw [show i + 1 + (r + 1) = (i + 1 + r) + 1 from rfl, tl_s, e1, nxt_s (by omega), rvf_i (by omega), rvf_i (by omega), show (i : Int) + 1 + j - ((i + 1 + r : Nat) : Int) = (y : Int) + 1 by omega, show (i : Int) + 1 + j - (((i + 1 + r : Nat) : Int) + 1) = (y : Int) by omega, show j - (r + 1) = y by omega]
      have a1 := ht y (by omega) (by omega)
      have a2 := ht ((y : Int) + 1) (by omega) (by omega)
      rw [hS (t ((y : Int) + 1)) (t y) a2.1 a2.2 a1.1 a1.2]
      omega
  have p3 : ∀ r : Nat, j + 1 + r ≤ n → tl n D (rvf ((i : Int) + 1) j t) (j + 1 + r) = tl n D t (j + 1 + r) + (D (t i) (t j) + D (t ((i : Int) + 1)) (t (nxt n j))) - (D (t i) (t ((i : Int) + 1)) + D (t j) (t (nxt n j))) := by
    intro r
    induction r with
    | zero =>
      intro h
      have e := p2 (j - i - 1) (by omega)
      rw [show i + 1 + (j - i - 1) = j by omega, show j - (j - i - 1) = i + 1 by omega, tl_s n D t i, nxt_s (by omega)] at e
      rw [show j + 1 + 0 = j + 1 from rfl, tl_s, tl_s, e, rvf_i (by omega), rvf_o (y := nxt n j) (by omega), show (i : Int) + 1 + j - j = i + 1 by omega]
      omega
    | succ r ih =>
      intro h
      have e := ih (by omega)
      have hw : 0 ≤ nxt n ((j + 1 + r : Nat) : Int) ∧ (nxt n ((j + 1 + r : Nat) : Int) = 0 ∨ nxt n ((j + 1 + r : Nat) : Int) > j) := by
        unfold nxt
        split <;> omega
      rw [show j + 1 + (r + 1) = (j + 1 + r) + 1 from rfl, tl_s, tl_s, e, rvf_o (by omega), rvf_o (y := nxt n ((j + 1 + r : Nat) : Int)) (by omega)]
      omega
  have e := p3 (n - j - 1) (by omega)
  rw [show j + 1 + (n - j - 1) = n by omega] at e
  exact e
/-- a turn pays where the whole tour gets shorter -/
theorem ty_tp {n : Nat} {D : Int → Int → Int} {t : Int → Int} (hS : ∀ a b, 0 ≤ a → a < (n : Int) → 0 ≤ b → b < (n : Int) → D a b = D b a) (ht : st_ok n t) (i j : Int) (hi : 0 ≤ i) (hij : i < j) (hj : j < (n : Int)) : ty n D t (tl n D t (n : Int).toNat) i j ↔ tp n D t i j := by
  obtain ⟨a, rfl⟩ : ∃ a : Nat, i = a := ⟨i.toNat, by omega⟩
  obtain ⟨b, rfl⟩ : ∃ b : Nat, j = b := ⟨j.toNat, by omega⟩
  unfold ty tp
  rw [Int.toNat_natCast, tl_rv hS ht a b (by omega) (by omega)]
  omega
