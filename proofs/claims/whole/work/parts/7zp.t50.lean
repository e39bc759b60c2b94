/-! PURE: a move pays where the whole tour gets shorter -/
theorem wo_out {n k i p : Int} (hi : 1 ≤ i) (hk : 1 ≤ k) (hp : 0 ≤ p) : ¬ (i ≤ wo n k i p ∧ wo n k i p ≤ i + k - 1) := by
  unfold wo nx0
  (repeat' split) <;> omega
theorem nx0_out {n k i : Int} (hi : 1 ≤ i) (hk : 1 ≤ k) : ¬ (i ≤ nx0 n (i + k) ∧ nx0 n (i + k) ≤ i + k - 1) := by
  unfold nx0
  split <;> omega
theorem tl_ext {n : Int} {D : Int → Int → Int} {t t2 : Int → Int} (e : ∀ x, t x = t2 x) (k : Nat) : tl n D t k = tl n D t2 k := by
  rw [show t = t2 from funext e]
theorem mY_mp {n : Nat} {D : Int → Int → Int} {t : Int → Int} (hS : ∀ a b, 0 ≤ a → a < (n : Int) → 0 ≤ b → b < (n : Int) → D a b = D b a) (ht : st_ok n t) (k i p : Int) (hk : 1 ≤ k) (hi : 1 ≤ i) (hn : i + k ≤ n) (hp : 0 ≤ p) (hpn : p < n - k) : (mY n D t (tl n D t (n : Int).toNat) k i p 0 ↔ mp n D t k i p) ∧ (mY n D t (tl n D t (n : Int).toNat) k i p 1 ↔ mq n D t k i p) := by
  obtain ⟨K, rfl⟩ : ∃ a : Nat, k = a := ⟨k.toNat, by omega⟩
  obtain ⟨I, rfl⟩ : ∃ a : Nat, i = a := ⟨i.toNat, by omega⟩
  obtain ⟨Q, rfl⟩ : ∃ a : Nat, p = a := ⟨p.toNat, by omega⟩
  constructor
  · unfold mY mp
    rw [Int.toNat_natCast, tl_mvf (by omega) (by omega) (by omega) (by omega)]
    omega
  · obtain ⟨j, rfl⟩ : ∃ j : Nat, I = j + 1 := ⟨I - 1, by omega⟩
    have h1 : rv ((j + 1 : Nat) : Int) (((j + 1 : Nat) : Int) + K - 1) t (rvf ((j : Int) + 1) ((j + K : Nat) : Int) t) := fun y => by
      unfold rvf
      rw [show ((j + 1 : Nat) : Int) = (j : Int) + 1 by omega, show ((j + K : Nat) : Int) = (j : Int) + 1 + K - 1 by omega]
    have e1 := tl_rv hS ht j (j + K) (by omega) (by omega)
    have e2 := tl_mvf (D := D) (t := rvf ((j : Int) + 1) ((j + K : Nat) : Int) t) (n := n) (k := K) (i := j + 1) (p := Q) (by omega) (by omega) (by omega) (by omega)
    have e3 : nxt n ((j + K : Nat) : Int) = nx0 n (((j + 1 : Nat) : Int) + K) := by
      unfold nxt nx0
      (repeat' split) <;> omega
    have o1 := wo_out (n := n) (k := K) (i := ((j + 1 : Nat) : Int)) (p := Q) hi hk hp
    have o2 := wo_out (n := n) (k := K) (i := ((j + 1 : Nat) : Int)) (p := (Q : Int) + 1) hi hk (by omega)
    have o3 := nx0_out (n := n) (k := K) (i := ((j + 1 : Nat) : Int)) hi hk
    rw [e3] at e1
    rw [tl_ext (mvf_rv hk h1) n, e1] at e2
    unfold msv at e2
    rw [rvf_o (y := wo n K ((j + 1 : Nat) : Int) Q) (by omega), rvf_o (y := wo n K ((j + 1 : Nat) : Int) ((Q : Int) + 1)) (by omega), rvf_o (y := nx0 n (((j + 1 : Nat) : Int) + K)) (by omega), rvf_o (y := ((j + 1 : Nat) : Int) - 1) (by omega), rvf_i (y := ((j + 1 : Nat) : Int)) (by omega), rvf_i (y := ((j + 1 : Nat) : Int) + K - 1) (by omega)] at e2
    unfold mY mq msv
    rw [Int.toNat_natCast, e2]
    rw [show (j : Int) + 1 + ((j + K : Nat) : Int) - ((j + 1 : Nat) : Int) = ((j + 1 : Nat) : Int) + K - 1 by omega, show (j : Int) + 1 + ((j + K : Nat) : Int) - (((j + 1 : Nat) : Int) + K - 1) = ((j + 1 : Nat) : Int) by omega, show ((j + 1 : Nat) : Int) - 1 = (j : Int) by omega, show ((j + K : Nat) : Int) = ((j + 1 : Nat) : Int) + K - 1 by omega, show (j : Int) + 1 = ((j + 1 : Nat) : Int) by omega]
    omega
