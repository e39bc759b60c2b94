theorem am_chkL : ∀ i, i < 227 → am_chk i = true := by
  intro i hi
  have g : ∀ a b, (List.range' a b).all am_chk = true → a ≤ i → i < a + b → am_chk i = true := fun a b h h1 h2 => List.all_eq_true.mp h i (List.mem_range'_1.mpr ⟨h1, h2⟩)
  rcases Nat.lt_or_ge i 20 with h0 | h0
  · exact g 0 20 am_chk_0 (by omega) (by omega)
  rcases Nat.lt_or_ge i 40 with h1 | h1
  · exact g 20 20 am_chk_1 (by omega) (by omega)
  rcases Nat.lt_or_ge i 60 with h2 | h2
  · exact g 40 20 am_chk_2 (by omega) (by omega)
  rcases Nat.lt_or_ge i 80 with h3 | h3
  · exact g 60 20 am_chk_3 (by omega) (by omega)
  rcases Nat.lt_or_ge i 100 with h4 | h4
  · exact g 80 20 am_chk_4 (by omega) (by omega)
  rcases Nat.lt_or_ge i 120 with h5 | h5
  · exact g 100 20 am_chk_5 (by omega) (by omega)
  rcases Nat.lt_or_ge i 140 with h6 | h6
  · exact g 120 20 am_chk_6 (by omega) (by omega)
  rcases Nat.lt_or_ge i 160 with h7 | h7
  · exact g 140 20 am_chk_7 (by omega) (by omega)
  rcases Nat.lt_or_ge i 180 with h8 | h8
  · exact g 160 20 am_chk_8 (by omega) (by omega)
  rcases Nat.lt_or_ge i 200 with h9 | h9
  · exact g 180 20 am_chk_9 (by omega) (by omega)
  rcases Nat.lt_or_ge i 220 with h10 | h10
  · exact g 200 20 am_chk_10 (by omega) (by omega)
  rcases Nat.lt_or_ge i 227 with h11 | h11
  · exact g 220 7 am_chk_11 (by omega) (by omega)
  omega
theorem am_allOk : am_AllOk := by
  intro i pc e q h hq
  unfold am_fetch at h
  cases hc : am_code[i]? with
  | none => rw [hc] at h; cases h
  | some f =>
    cases hz : am_size[i]? with
    | none => rw [hc, hz] at h; cases h
    | some n =>
      rw [hc, hz] at h
      simp only at h
      by_cases hp : pc < n
      · rw [if_pos hp] at h
        have hl : i < 227 := (List.getElem?_eq_some_iff.mp hz).1
        have hk := am_chkL i hl
        unfold am_chk at hk
        rw [hq, hc, hz] at hk
        have := List.all_eq_true.mp hk pc (List.mem_range.mpr hp)
        rw [h] at this
        exact this
      · rw [if_neg hp] at h; cases h
set_option maxRecDepth 100000 in
theorem am_plainB : am_meth.all (fun q => plainName q.1.cls) = true := by decide +kernel
theorem am_plainA : ∀ (j : Nat) (q : am_M), am_meth[j]? = some q → plainName q.1.cls = true := fun j q h => List.all_eq_true.mp am_plainB q (List.mem_of_getElem? h)
