theorem am_pairI_mono {h : am_H} {jx jm : Nat} {as : List Value} {N N2 : am_H → Prop} (k : am_pairI h jx jm as N) (hN : ∀ h2, am_le h h2 → N h2 → N2 h2) : am_pairI h jx jm as N2 := by
  obtain ⟨h1, h2, h3⟩ := k
  refine ⟨h1, h2, am_wp_mono (am_wp_le h3) ?_⟩
  rintro rv g1 ⟨⟨x, e1, e2, e3, e4⟩, hle⟩
  refine ⟨x, e1, e2, e3, am_wp_mono (am_wp_le e4) ?_⟩
  rintro rw2 g2 ⟨⟨e5, e6⟩, hle2⟩
  exact ⟨e5, hN _ (am_le_tr hle hle2) e6⟩
theorem am_pairJ_mono {h : am_H} {jx jm : Nat} {as : List Value} {N N2 : am_H → Prop} (k : am_pairJ h jx jm as N) (hN : ∀ h2, am_le h h2 → N h2 → N2 h2) : am_pairJ h jx jm as N2 := by
  obtain ⟨h1, h2, h3⟩ := k
  refine ⟨h1, h2, am_wp_mono (am_wp_le h3) ?_⟩
  rintro rv g1 ⟨⟨x, e1, e2, e3, e4⟩, hle⟩
  refine ⟨x, e1, e2, e3, am_wp_mono (am_wp_le e4) ?_⟩
  rintro rw2 g2 ⟨⟨e5, e6⟩, hle2⟩
  exact ⟨e5, hN _ (am_le_tr hle hle2) e6⟩
/-- what every call must keep: both answer alike, and the invariant goes on -/
def lw_Keeps (Inv : Nat → am_H → Prop) (n : Nat) : Prop := ∀ (h : am_H) (a b c e : Int32), Inv n h →
  am_pairI h 122 160 [.int a] (Inv (n + 1)) ∧
  am_pairI h 123 161 [.long (am_sg a b), .int c] (Inv (n + 1)) ∧
  am_pairI h 124 162 [] (Inv (n + 1)) ∧
  am_pairI h 125 172 [] (Inv (n + 1)) ∧
  am_pairI h 126 173 [] (Inv (n + 1)) ∧
  am_pairI h 127 174 [.int a] (Inv (n + 1)) ∧
  am_pairI h 128 175 [.int a, .int b, .int c, .int (if e = 0 then 0 else 1)] (Inv (n + 1)) ∧
  am_pairI h 129 176 [.int a, .int b] (Inv (n + 1)) ∧
  am_pairI h 130 177 [] (Inv (n + 1)) ∧
  am_pairI h 131 180 [.int a] (Inv (n + 1)) ∧
  am_pairJ h 132 185 [] (Inv (n + 1)) ∧
  am_pairI h 133 186 [.int a] (Inv (n + 1)) ∧
  am_pairI h 134 188 [.int a] (Inv (n + 1)) ∧
  am_pairI h 135 189 [.int a] (Inv (n + 1)) ∧
  am_pairJ h 136 191 [] (Inv (n + 1)) ∧
  am_pairI h 137 192 [.int a] (Inv (n + 1)) ∧
  am_pairJ h 138 193 [] (Inv (n + 1)) ∧
  am_pairI h 139 196 [] (Inv (n + 1)) ∧
  am_pairI h 140 197 [.int a] (Inv (n + 1)) ∧
  am_pairJ h 141 204 [.int a, .int b] (Inv (n + 1)) ∧
  am_pairI h 142 205 [.int a] (Inv (n + 1)) ∧
  am_pairI h 143 206 [.int a] (Inv (n + 1)) ∧
  am_pairJ h 144 207 [] (Inv (n + 1)) ∧
  am_pairI h 145 212 [.int a, .int b] (Inv (n + 1)) ∧
  am_pairJ h 146 213 [] (Inv (n + 1)) ∧
  am_pairJ h 147 215 [.int a, .int b] (Inv (n + 1)) ∧
  am_pairJ h 148 216 [.int a] (Inv (n + 1)) ∧
  am_pairI h 149 217 [] (Inv (n + 1)) ∧ Inv (n + 1) h
theorem lw_loop {Inv : Nat → am_H → Prop} {L : Nat} {xs : Nat → Int32} {P : Option Value → am_H → Prop} (hL : L ≤ 2560) (hk : ∀ n, 5 * n + 5 ≤ L → lw_Keeps Inv n) (hP : ∀ n h, 5 * n ≤ L → Inv n h → P (some (.int 1)) h) : ∀ (m n : Nat) (h : am_H), L < 5 * n + 5 * m + 5 → 5 * n ≤ L → Inv n h → h.2.2 0 = .inl (1, L, .inl xs) → am_wp 30 226 18 (am_lvL (5 * n)) [] h P := by
  intro m
  induction m with
  | zero =>
    intro n h h1 h2 hI h0
    exact lw_end hL h2 (by omega) h0 (hP n h h2 hI)
  | succ m ih =>
    intro n h h1 h2 hI h0
    by_cases hlt : L < 5 * n + 5
    · exact lw_end hL h2 (by omega) h0 (hP n h h2 hI)
    · have hi : 5 * n + 5 ≤ L := by omega
      have kp := hk n hi h (xs (5 * n + 1)) (xs (5 * n + 2)) (xs (5 * n + 3)) (xs (5 * n + 4)) hI
      have go : ∀ h2, am_le h h2 → Inv (n + 1) h2 → am_wp 30 226 828 (am_lvL (5 * n)) [] h2 P := by
        intro g hle hg
        refine lw_next ?_
        exact ih (n + 1) g (by omega) (by omega) hg (hle.2.2.trans h0)
      refine lw_head hL hi h0 ?_
      obtain ⟨j, hj, ej⟩ := pk_andE (xs (5 * n)) (m := 31) 5 (by decide)
      rw [ej]
      obtain ⟨q0, q1, q2, q3, q4, q5, q6, q7, q8, q9, q10, q11, q12, q13, q14, q15, q16, q17, q18, q19, q20, q21, q22, q23, q24, q25, q26, q27, qE⟩ := kp
      match j, hj with
      | 0, _ => exact am_s rfl rfl (lw_case0 hL hi h0 (am_pairI_mono q0 go))
      | 1, _ => exact am_s rfl rfl (lw_case1 hL hi h0 (am_pairI_mono q1 go))
      | 2, _ => exact am_s rfl rfl (lw_case2 hL hi h0 (am_pairI_mono q2 go))
      | 3, _ => exact am_s rfl rfl (lw_case3 hL hi h0 (am_pairI_mono q3 go))
      | 4, _ => exact am_s rfl rfl (lw_case4 hL hi h0 (am_pairI_mono q4 go))
      | 5, _ => exact am_s rfl rfl (lw_case5 hL hi h0 (am_pairI_mono q5 go))
      | 6, _ => exact am_s rfl rfl (lw_case6 hL hi h0 (am_pairI_mono q6 go))
      | 7, _ => exact am_s rfl rfl (lw_case7 hL hi h0 (am_pairI_mono q7 go))
      | 8, _ => exact am_s rfl rfl (lw_case8 hL hi h0 (am_pairI_mono q8 go))
      | 9, _ => exact am_s rfl rfl (lw_case9 hL hi h0 (am_pairI_mono q9 go))
      | 10, _ => exact am_s rfl rfl (lw_case10 hL hi h0 (am_pairJ_mono q10 go))
      | 11, _ => exact am_s rfl rfl (lw_case11 hL hi h0 (am_pairI_mono q11 go))
      | 12, _ => exact am_s rfl rfl (lw_case12 hL hi h0 (am_pairI_mono q12 go))
      | 13, _ => exact am_s rfl rfl (lw_case13 hL hi h0 (am_pairI_mono q13 go))
      | 14, _ => exact am_s rfl rfl (lw_case14 hL hi h0 (am_pairJ_mono q14 go))
      | 15, _ => exact am_s rfl rfl (lw_case15 hL hi h0 (am_pairI_mono q15 go))
      | 16, _ => exact am_s rfl rfl (lw_case16 hL hi h0 (am_pairJ_mono q16 go))
      | 17, _ => exact am_s rfl rfl (lw_case17 hL hi h0 (am_pairI_mono q17 go))
      | 18, _ => exact am_s rfl rfl (lw_case18 hL hi h0 (am_pairI_mono q18 go))
      | 19, _ => exact am_s rfl rfl (lw_case19 hL hi h0 (am_pairJ_mono q19 go))
      | 20, _ => exact am_s rfl rfl (lw_case20 hL hi h0 (am_pairI_mono q20 go))
      | 21, _ => exact am_s rfl rfl (lw_case21 hL hi h0 (am_pairI_mono q21 go))
      | 22, _ => exact am_s rfl rfl (lw_case22 hL hi h0 (am_pairJ_mono q22 go))
      | 23, _ => exact am_s rfl rfl (lw_case23 hL hi h0 (am_pairI_mono q23 go))
      | 24, _ => exact am_s rfl rfl (lw_case24 hL hi h0 (am_pairJ_mono q24 go))
      | 25, _ => exact am_s rfl rfl (lw_case25 hL hi h0 (am_pairJ_mono q25 go))
      | 26, _ => exact am_s rfl rfl (lw_case26 hL hi h0 (am_pairJ_mono q26 go))
      | 27, _ => exact am_s rfl rfl (lw_case27 hL hi h0 (am_pairI_mono q27 go))
      | 28, _ => exact am_s rfl rfl (go h (am_le_rf h) qE)
      | 29, _ => exact am_s rfl rfl (go h (am_le_rf h) qE)
      | 30, _ => exact am_s rfl rfl (go h (am_le_rf h) qE)
      | 31, _ => exact am_s rfl rfl (go h (am_le_rf h) qE)
      | j + 32, hj => exact absurd hj (by omega)
