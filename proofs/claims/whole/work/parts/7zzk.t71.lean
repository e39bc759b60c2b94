/-! bits: how many -/
theorem iI_andN {a b : Nat} (ha : a < 2147483648) (hb : b < 2147483648) : iI (a : Int) &&& iI (b : Int) = iI ((a &&& b : Nat) : Int) := by
  have h : a &&& b < 2147483648 := Nat.lt_of_le_of_lt Nat.and_le_left ha
  apply Int32.toBitVec_inj.mp
  apply BitVec.eq_of_toNat_eq
  rw [Int32.toBitVec_and, BitVec.toNat_and, iI_bv ⟨by omega, by omega⟩, iI_bv ⟨by omega, by omega⟩, iI_bv ⟨by omega, by omega⟩, Int.toNat_natCast, Int.toNat_natCast, Int.toNat_natCast]
theorem iI_ushrN {a k : Nat} (ha : a < 2147483648) (hk : ((iI (k : Int)).toUInt32 &&& Int32.toUInt32 31).toNat % 32 = k) : ((iI (a : Int)).toUInt32 >>> ((iI (k : Int)).toUInt32 &&& Int32.toUInt32 31)).toInt32 = iI ((a / 2 ^ k : Nat) : Int) := by
  have h : a / 2 ^ k < 2147483648 := Nat.lt_of_le_of_lt (Nat.div_le_self _ _) ha
  apply Int32.toBitVec_inj.mp
  apply BitVec.eq_of_toNat_eq
  show ((iI (a : Int)).toUInt32 >>> ((iI (k : Int)).toUInt32 &&& Int32.toUInt32 31)).toNat = _
  have e : (iI (a : Int)).toUInt32.toNat = a := by
    show (iI (a : Int)).toBitVec.toNat = a
    rw [iI_bv ⟨by omega, by omega⟩, Int.toNat_natCast]
  rw [UInt32.toNat_shiftRight, hk, Nat.shiftRight_eq_div_pow, e]
  generalize a / 2 ^ k = q at h ⊢
  rw [iI_bv ⟨by omega, by omega⟩, Int.toNat_natCast]
section SBJ
variable {d i pc : Nat} {lv : am_L} {st r : List Value} {P : Option Value → am_H → Prop} {h : am_H} {aux : List Nat}
theorem s_andN {a b : Nat} (h1 : am_fetch i pc = some (.iand, 1, aux)) (ha : a < 2147483648) (hb : b < 2147483648) (k9 : am_wp d i (pc + 1) lv (.int (iI ((a &&& b : Nat) : Int)) :: r) h P) : am_wp d i pc lv (.int (iI (b : Int)) :: .int (iI (a : Int)) :: r) h P := am_s (st' := .int (iI ((a &&& b : Nat) : Int)) :: r) h1 (by rw [← iI_andN ha hb]; rfl) k9
theorem s_ushrN {a : Nat} (k : Nat) (h1 : am_fetch i pc = some (.iushr, 1, aux)) (ha : a < 2147483648) (hk : ((iI (k : Int)).toUInt32 &&& Int32.toUInt32 31).toNat % 32 = k) (k9 : am_wp d i (pc + 1) lv (.int (iI ((a / 2 ^ k : Nat) : Int)) :: r) h P) : am_wp d i pc lv (.int (iI (k : Int)) :: .int (iI (a : Int)) :: r) h P := am_s (st' := .int (iI ((a / 2 ^ k : Nat) : Int)) :: r) h1 (by rw [← iI_ushrN ha hk]; rfl) k9
end SBJ
theorem t_bitCount {d : Nat} {h : am_H} {x : Nat} (hx : x < 1048576) : am_wp d 218 0 (lv_args 0 [.int (iI (x : Int))]) [] h (fun rv h2 => rv = some (.int (iI (pcx x : Int))) ∧ h2 = h) := by
  refine am_s rfl rfl ?_
  refine am_s rfl rfl ?_
  refine s_k ((1 : Nat) : Int) rfl rfl ?_
  refine s_ushrN 1 rfl (by omega) (by decide) ?_
  refine s_k ((1431655765 : Nat) : Int) rfl rfl ?_
  refine s_andN rfl (by omega) (by decide) ?_
  have l1 : (x / 2 ^ 1 &&& 1431655765) ≤ x / 2 ^ 1 := Nat.and_le_left
  refine s_isub rfl ?_
  rw [show (x : Int) - ((x / 2 ^ 1 &&& 1431655765 : Nat) : Int) = ((x - (x / 2 ^ 1 &&& 1431655765) : Nat) : Int) by omega]
  generalize e1 : x - (x / 2 ^ 1 &&& 1431655765) = y1
  have b1 : y1 < 1048576 := by omega
  refine am_s rfl rfl ?_
  refine am_s rfl rfl ?_
  refine s_k ((858993459 : Nat) : Int) rfl rfl ?_
  refine s_andN rfl (by omega) (by decide) ?_
  refine am_s rfl rfl ?_
  refine s_k ((2 : Nat) : Int) rfl rfl ?_
  refine s_ushrN 2 rfl (by omega) (by decide) ?_
  refine s_k ((858993459 : Nat) : Int) rfl rfl ?_
  refine s_andN rfl (by omega) (by decide) ?_
  have l2 : (y1 &&& 858993459) ≤ y1 := Nat.and_le_left
  have l3 : (y1 / 2 ^ 2 &&& 858993459) ≤ y1 / 2 ^ 2 := Nat.and_le_left
  refine s_iadd rfl ?_
  rw [← Int.natCast_add]
  generalize e2 : (y1 &&& 858993459) + (y1 / 2 ^ 2 &&& 858993459) = y2
  have b2 : y2 < 4000000 := by omega
  refine am_s rfl rfl ?_
  refine am_s rfl rfl ?_
  refine am_s rfl rfl ?_
  refine s_k ((4 : Nat) : Int) rfl rfl ?_
  refine s_ushrN 4 rfl (by omega) (by decide) ?_
  refine s_iadd rfl ?_
  rw [← Int.natCast_add]
  refine s_k ((252645135 : Nat) : Int) rfl rfl ?_
  refine s_andN rfl (by omega) (by decide) ?_
  have l4 : (y2 + y2 / 2 ^ 4 &&& 252645135) ≤ y2 + y2 / 2 ^ 4 := Nat.and_le_left
  generalize e3 : (y2 + y2 / 2 ^ 4 &&& 252645135) = y3
  have b3 : y3 < 8000000 := by omega
  refine am_s rfl rfl ?_
  refine am_s rfl rfl ?_
  refine am_s rfl rfl ?_
  refine s_k ((8 : Nat) : Int) rfl rfl ?_
  refine s_ushrN 8 rfl (by omega) (by decide) ?_
  refine s_iadd rfl ?_
  rw [← Int.natCast_add]
  generalize e4 : y3 + y3 / 2 ^ 8 = y4
  have b4 : y4 < 16000000 := by omega
  refine am_s rfl rfl ?_
  refine am_s rfl rfl ?_
  refine am_s rfl rfl ?_
  refine s_k ((16 : Nat) : Int) rfl rfl ?_
  refine s_ushrN 16 rfl (by omega) (by decide) ?_
  refine s_iadd rfl ?_
  rw [← Int.natCast_add]
  generalize e5 : y4 + y4 / 2 ^ 16 = y5
  have b5 : y5 < 32000000 := by omega
  refine am_s rfl rfl ?_
  refine am_s rfl rfl ?_
  refine s_k ((63 : Nat) : Int) rfl rfl ?_
  refine s_andN rfl (by omega) (by decide) ?_
  refine am_r rfl rfl ⟨?_, rfl⟩
  have e : pcx x = (y5 &&& 63) := by
    rw [← e5, ← e4, ← e3, ← e2, ← e1]; rfl
  rw [e]
