/-! sets as bits -/
def bt (a v : Int) : Int := if a.toNat.testBit v.toNat = true then 1 else 0
def bor (a b : Int) : Int := ((a.toNat ||| b.toNat : Nat) : Int)
def p2 (v : Int) : Int := ((2 ^ v.toNat : Nat) : Int)
theorem iI_bv {a : Int} (h : 0 ≤ a ∧ a < 2147483648) : (iI a).toBitVec.toNat = a.toNat := by
  obtain ⟨k, rfl⟩ := Int.eq_ofNat_of_zero_le h.1
  show (BitVec.ofInt 32 (k : Int)).toNat = _
  rw [BitVec.toNat_ofInt, Int.toNat_natCast]
  omega
theorem bor_lt {a b : Int} (ha : 0 ≤ a ∧ a < 2147483648) (hb : 0 ≤ b ∧ b < 2147483648) : 0 ≤ bor a b ∧ bor a b < 2147483648 := by
  have h : a.toNat ||| b.toNat < 2 ^ 31 := Nat.or_lt_two_pow (by omega) (by omega)
  unfold bor
  omega
theorem iI_or {a b : Int} (ha : 0 ≤ a ∧ a < 2147483648) (hb : 0 ≤ b ∧ b < 2147483648) : iI a ||| iI b = iI (bor a b) := by
  apply Int32.toBitVec_inj.mp
  apply BitVec.eq_of_toNat_eq
  rw [Int32.toBitVec_or, BitVec.toNat_or, iI_bv ha, iI_bv hb, iI_bv (bor_lt ha hb)]
  unfold bor
  rw [Int.toNat_natCast]
theorem iI_shl1 {v : Int} (h : 0 ≤ v ∧ v ≤ 30) : iI 1 <<< (iI v &&& 31) = iI (p2 v) := by
  obtain ⟨k, rfl⟩ := Int.eq_ofNat_of_zero_le h.1
  have hk : k ≤ 30 := by omega
  rcases (show k = 0 ∨ k = 1 ∨ k = 2 ∨ k = 3 ∨ k = 4 ∨ k = 5 ∨ k = 6 ∨ k = 7 ∨ k = 8 ∨ k = 9 ∨ k = 10 ∨ k = 11 ∨ k = 12 ∨ k = 13 ∨ k = 14 ∨ k = 15 ∨ k = 16 ∨ k = 17 ∨ k = 18 ∨ k = 19 ∨ k = 20 ∨ k = 21 ∨ k = 22 ∨ k = 23 ∨ k = 24 ∨ k = 25 ∨ k = 26 ∨ k = 27 ∨ k = 28 ∨ k = 29 ∨ k = 30 by omega) with rfl | rfl | rfl | rfl | rfl | rfl | rfl | rfl | rfl | rfl | rfl | rfl | rfl | rfl | rfl | rfl | rfl | rfl | rfl | rfl | rfl | rfl | rfl | rfl | rfl | rfl | rfl | rfl | rfl | rfl | rfl <;> decide
theorem iI_bit {a v : Int} (ha : 0 ≤ a ∧ a < 2147483648) (h : 0 ≤ v ∧ v ≤ 30) : (iI a >>> (iI v &&& 31)) &&& 1 = iI (bt a v) := by
  obtain ⟨k, rfl⟩ := Int.eq_ofNat_of_zero_le h.1
  have hk : k ≤ 30 := by omega
  have e1 : (iI a >>> (iI (k : Int) &&& 31)).toBitVec = (iI a).toBitVec.sshiftRight k := by
    rw [Int32.toBitVec_shiftRight]
    rcases (show k = 0 ∨ k = 1 ∨ k = 2 ∨ k = 3 ∨ k = 4 ∨ k = 5 ∨ k = 6 ∨ k = 7 ∨ k = 8 ∨ k = 9 ∨ k = 10 ∨ k = 11 ∨ k = 12 ∨ k = 13 ∨ k = 14 ∨ k = 15 ∨ k = 16 ∨ k = 17 ∨ k = 18 ∨ k = 19 ∨ k = 20 ∨ k = 21 ∨ k = 22 ∨ k = 23 ∨ k = 24 ∨ k = 25 ∨ k = 26 ∨ k = 27 ∨ k = 28 ∨ k = 29 ∨ k = 30 by omega) with rfl | rfl | rfl | rfl | rfl | rfl | rfl | rfl | rfl | rfl | rfl | rfl | rfl | rfl | rfl | rfl | rfl | rfl | rfl | rfl | rfl | rfl | rfl | rfl | rfl | rfl | rfl | rfl | rfl | rfl | rfl <;> rfl
  apply Int32.toBitVec_inj.mp
  rw [Int32.toBitVec_and, e1]
  apply BitVec.eq_of_getLsbD_eq
  intro i hi
  have hb : (iI a).toBitVec.getLsbD k = a.toNat.testBit k := by
    rw [BitVec.getLsbD, iI_bv ha]
  rw [BitVec.getLsbD_and, BitVec.getLsbD_sshiftRight]
  have f1 : (Int32.toBitVec 1).getLsbD i = decide (i = 0) := by
    revert i
    decide
  rw [f1]
  unfold bt
  rw [Int.toNat_natCast]
  by_cases e : i = 0
  · subst e
    rw [Nat.add_zero, if_pos (by omega), hb]
    cases a.toNat.testBit k <;> rfl
  · have : (iI (if a.toNat.testBit k = true then 1 else 0)).toBitVec.getLsbD i = false := by
      cases a.toNat.testBit k
      · show (Int32.toBitVec 0).getLsbD i = false
        revert i
        decide
      · show (Int32.toBitVec 1).getLsbD i = false
        rw [f1]
        simp [e]
    rw [this]
    simp [e]
section SBI
variable {d i pc : Nat} {lv : am_L} {st r : List Value} {P : Option Value → am_H → Prop} {h : am_H} {aux aux2 aux3 : List Nat}
theorem s_ior {a b : Int} (h1 : am_fetch i pc = some (.ior, 1, aux)) (ha : 0 ≤ a ∧ a < 2147483648) (hb : 0 ≤ b ∧ b < 2147483648) (k9 : am_wp d i (pc + 1) lv (.int (iI (bor a b)) :: r) h P) : am_wp d i pc lv (.int (iI b) :: .int (iI a) :: r) h P := am_s (st' := .int (iI (bor a b)) :: r) h1 (by rw [← iI_or ha hb]; rfl) k9
theorem s_shl1 {v : Int} (h1 : am_fetch i pc = some (.ishl, 1, aux)) (hv : 0 ≤ v ∧ v ≤ 30) (k9 : am_wp d i (pc + 1) lv (.int (iI (p2 v)) :: r) h P) : am_wp d i pc lv (.int (iI v) :: .int (iI 1) :: r) h P := am_s (st' := .int (iI (p2 v)) :: r) h1 (by rw [← iI_shl1 hv]; rfl) k9
theorem s_bit {a v : Int} (h1 : am_fetch i pc = some (.ishr, 1, aux)) (h2 : am_fetch i (pc + 1) = some (.iconst 1, 1, aux2)) (h3 : am_fetch i (pc + 1 + 1) = some (.iand, 1, aux3)) (ha : 0 ≤ a ∧ a < 2147483648) (hv : 0 ≤ v ∧ v ≤ 30) (k9 : am_wp d i (pc + 1 + 1 + 1) lv (.int (iI (bt a v)) :: r) h P) : am_wp d i pc lv (.int (iI v) :: .int (iI a) :: r) h P := by
  refine am_s (st' := .int (iI a >>> (iI v &&& 31)) :: r) h1 rfl ?_
  refine am_s (st' := .int 1 :: .int (iI a >>> (iI v &&& 31)) :: r) h2 rfl ?_
  refine am_s (st' := .int (iI (bt a v)) :: r) h3 (by rw [← iI_bit ha hv]; rfl) k9
end SBI
theorem bt_01 (a v : Int) : bt a v = 0 ∨ bt a v = 1 := by
  unfold bt
  split
  · exact Or.inr rfl
  · exact Or.inl rfl
theorem bt_bor {a b v : Int} : bt (bor a b) v = 1 ↔ bt a v = 1 ∨ bt b v = 1 := by
  unfold bt bor
  rw [Int.toNat_natCast, Nat.testBit_or]
  cases a.toNat.testBit v.toNat <;> cases b.toNat.testBit v.toNat <;> simp
theorem bt_p2 {v w : Int} (hv : 0 ≤ v) (hw : 0 ≤ w) : bt (p2 v) w = 1 ↔ w = v := by
  unfold bt p2
  rw [Int.toNat_natCast, Nat.testBit_two_pow]
  by_cases e : v.toNat = w.toNat
  · have : w = v := by omega
    simp [this]
  · have : ¬ w = v := by omega
    simp [e, this]
theorem p2_lt {v : Int} (hv : 0 ≤ v ∧ v ≤ 30) : 0 ≤ p2 v ∧ p2 v < 2147483648 := by
  unfold p2
  have h1 : 2 ^ v.toNat < 2 ^ 31 := Nat.pow_lt_pow_right (by decide) (by omega)
  generalize 2 ^ v.toNat = z at h1 ⊢
  omega
