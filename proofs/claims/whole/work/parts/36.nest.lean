/-! no call of Math's is by way of a nest -/
def am_mth (j : Nat) : Bool := decide (219 ≤ j) && decide (j ≤ 222)
def am_n4 (e : am_I) : Bool := match e with
  | (.invokestatic _, _, [4, j, _, _, _, _, _]) => !am_mth j
  | _ => true
def am_n4m (i : Nat) : Bool := match am_code[i]?, am_size[i]? with
  | some f, some n => (List.range n).all (fun pc => match f pc with
    | some e => am_n4 e
    | none => true)
  | _, _ => true
set_option maxRecDepth 100000 in
theorem am_n4_0 : (List.range' 0 20).all am_n4m = true := by decide +kernel
set_option maxRecDepth 100000 in
theorem am_n4_1 : (List.range' 20 20).all am_n4m = true := by decide +kernel
set_option maxRecDepth 100000 in
theorem am_n4_2 : (List.range' 40 20).all am_n4m = true := by decide +kernel
set_option maxRecDepth 100000 in
theorem am_n4_3 : (List.range' 60 20).all am_n4m = true := by decide +kernel
set_option maxRecDepth 100000 in
theorem am_n4_4 : (List.range' 80 20).all am_n4m = true := by decide +kernel
set_option maxRecDepth 100000 in
theorem am_n4_5 : (List.range' 100 20).all am_n4m = true := by decide +kernel
set_option maxRecDepth 100000 in
theorem am_n4_6 : (List.range' 120 20).all am_n4m = true := by decide +kernel
set_option maxRecDepth 100000 in
theorem am_n4_7 : (List.range' 140 20).all am_n4m = true := by decide +kernel
set_option maxRecDepth 100000 in
theorem am_n4_8 : (List.range' 160 20).all am_n4m = true := by decide +kernel
set_option maxRecDepth 100000 in
theorem am_n4_9 : (List.range' 180 20).all am_n4m = true := by decide +kernel
set_option maxRecDepth 100000 in
theorem am_n4_10 : (List.range' 200 20).all am_n4m = true := by decide +kernel
set_option maxRecDepth 100000 in
theorem am_n4_11 : (List.range' 220 7).all am_n4m = true := by decide +kernel
theorem am_n4A : ∀ i, am_n4m i = true := by
  intro i
  rcases Nat.lt_or_ge i 20 with h0 | h0
  · exact List.all_eq_true.mp am_n4_0 i (List.mem_range'_1.mpr ⟨by omega, by omega⟩)
  rcases Nat.lt_or_ge i 40 with h1 | h1
  · exact List.all_eq_true.mp am_n4_1 i (List.mem_range'_1.mpr ⟨by omega, by omega⟩)
  rcases Nat.lt_or_ge i 60 with h2 | h2
  · exact List.all_eq_true.mp am_n4_2 i (List.mem_range'_1.mpr ⟨by omega, by omega⟩)
  rcases Nat.lt_or_ge i 80 with h3 | h3
  · exact List.all_eq_true.mp am_n4_3 i (List.mem_range'_1.mpr ⟨by omega, by omega⟩)
  rcases Nat.lt_or_ge i 100 with h4 | h4
  · exact List.all_eq_true.mp am_n4_4 i (List.mem_range'_1.mpr ⟨by omega, by omega⟩)
  rcases Nat.lt_or_ge i 120 with h5 | h5
  · exact List.all_eq_true.mp am_n4_5 i (List.mem_range'_1.mpr ⟨by omega, by omega⟩)
  rcases Nat.lt_or_ge i 140 with h6 | h6
  · exact List.all_eq_true.mp am_n4_6 i (List.mem_range'_1.mpr ⟨by omega, by omega⟩)
  rcases Nat.lt_or_ge i 160 with h7 | h7
  · exact List.all_eq_true.mp am_n4_7 i (List.mem_range'_1.mpr ⟨by omega, by omega⟩)
  rcases Nat.lt_or_ge i 180 with h8 | h8
  · exact List.all_eq_true.mp am_n4_8 i (List.mem_range'_1.mpr ⟨by omega, by omega⟩)
  rcases Nat.lt_or_ge i 200 with h9 | h9
  · exact List.all_eq_true.mp am_n4_9 i (List.mem_range'_1.mpr ⟨by omega, by omega⟩)
  rcases Nat.lt_or_ge i 220 with h10 | h10
  · exact List.all_eq_true.mp am_n4_10 i (List.mem_range'_1.mpr ⟨by omega, by omega⟩)
  rcases Nat.lt_or_ge i 227 with h11 | h11
  · exact List.all_eq_true.mp am_n4_11 i (List.mem_range'_1.mpr ⟨by omega, by omega⟩)
  unfold am_n4m
  have hl : am_code.length = 227 := rfl
  rw [List.getElem?_eq_none (by omega)]
theorem am_n4F {i pc : Nat} {e : am_I} (h : am_fetch i pc = some e) : am_n4 e = true := by
  unfold am_fetch at h
  cases hc : am_code[i]? with
  | none => rw [hc] at h; cases h
  | some f =>
    cases hz : am_size[i]? with
    | none => rw [hc, hz] at h; cases h
    | some n =>
      rw [hc, hz] at h
      simp only at h
      by_cases hp : pc < n
      · rw [if_pos hp] at h
        have hk := am_n4A i
        unfold am_n4m at hk
        rw [hc, hz] at hk
        have := List.all_eq_true.mp hk pc (List.mem_range.mpr hp)
        rw [h] at this
        exact this
      · rw [if_neg hp] at h; cases h
set_option maxRecDepth 100000 in
theorem am_plainB : am_meth.zipIdx.all (fun z => plainName z.1.1.cls || am_mth z.2) = true := by decide +kernel
theorem am_plainA : ∀ (j : Nat) (q : am_M), am_meth[j]? = some q → plainName q.1.cls = true ∨ am_mth j = true := fun j q h => by
  have := List.all_eq_true.mp am_plainB (q, j) (List.mk_mem_zipIdx_iff_getElem?.mpr h)
  rw [Bool.or_eq_true] at this
  exact this
set_option maxRecDepth 100000 in
theorem am_clB : vwCl.all (fun r => decide (r.1 ≠ "java/lang/Math")) = true := by decide +kernel
