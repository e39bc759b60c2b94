/-! every first call on new objects -/
theorem am_kI {h : am_H} {G : Nat → am_E} {jx jm : Nat} {as : List Value} (hk : am_prI h jx jm (am_l1 as) (am_l2 as) = true) : am_pairI (am_mH G h) jx jm as am_N1 := am_prI_pair (tx := []) (tm := []) (List.append_nil _).symm (List.append_nil _).symm hk
theorem am_kJ {h : am_H} {G : Nat → am_E} {jx jm : Nat} {as : List Value} (hk : am_prJ h jx jm (am_l1 as) (am_l2 as) = true) : am_pairJ (am_mH G h) jx jm as am_N1 := am_prJ_pair (tx := []) (tm := []) (List.append_nil _).symm (List.append_nil _).symm hk
theorem am_kJ2 {h : am_H} {G : Nat → am_E} {jx jm : Nat} {a b : Int32} (hk : am_prJ h jx jm (am_l1 [.int a]) (am_l2 [.int a]) = true) : am_pairJ (am_mH G h) jx jm [.int a, .int b] am_N1 := am_prJ_pair (tx := [(2, .int b)]) (tm := [(2, .int b)]) rfl rfl hk
theorem am_N_of {h : am_H} (G : Nat → am_E) (a : h.1 = 193) (b : decide (h.2.1 ≤ 2000000) = true) : am_N1 (am_mH G h) := ⟨by show h.1 ≤ 600000; omega, Nat.le_trans (of_decide_eq_true b) (by decide)⟩
theorem am_N_hC (G : Nat → am_E) : am_N1 (am_mH G am_hC) := am_N_of G am_hC_n am_hC_s
theorem am_p_clear {G : Nat → am_E} : am_pairI (am_mH G am_hC) 124 162 [] am_N1 := am_kI am_k_clear
theorem am_p_read {G : Nat → am_E} : am_pairI (am_mH G am_hC) 125 172 [] am_N1 := am_kI am_k_read
theorem am_p_add {G : Nat → am_E} : am_pairI (am_mH G am_hC) 126 173 [] am_N1 := am_kI am_k_add
theorem am_p_cities {G : Nat → am_E} : am_pairI (am_mH G am_hC) 130 177 [] am_N1 := am_kI am_k_cities
theorem am_p_tree {G : Nat → am_E} : am_pairJ (am_mH G am_hC) 132 185 [] am_N1 := am_kJ am_k_tree
theorem am_p_match {G : Nat → am_E} : am_pairJ (am_mH G am_hC) 136 191 [] am_N1 := am_kJ am_k_match
theorem am_p_prices {G : Nat → am_E} : am_pairJ (am_mH G am_hC) 138 193 [] am_N1 := am_kJ am_k_prices
theorem am_p_round {G : Nat → am_E} : am_pairI (am_mH G am_hC) 139 196 [] am_N1 := am_kI am_k_round
theorem am_p_length {G : Nat → am_E} : am_pairJ (am_mH G am_hC) 144 207 [] am_N1 := am_kJ am_k_length
theorem am_p_best {G : Nat → am_E} : am_pairJ (am_mH G am_hC) 146 213 [] am_N1 := am_kJ am_k_best
theorem am_p_forgive {G : Nat → am_E} : am_pairI (am_mH G am_hC) 149 217 [] am_N1 := am_kI am_k_forgive
theorem am_p_drop {G : Nat → am_E} {a : Int32} : am_pairI (am_mH G am_hC) 127 174 [.int a] am_N1 := by
  by_cases ha : a = 0
  · subst ha
    exact am_kI am_k_drop
  · exact am_q_drop (am_F_hC G) (am_N_hC G) ha
theorem am_p_hung {G : Nat → am_E} {a : Int32} : am_pairI (am_mH G am_hC) 133 186 [.int a] am_N1 := by
  by_cases ha : a = 0
  · subst ha
    exact am_kI am_k_hung
  · exact am_q_hung (am_F_hC G) (am_N_hC G) ha
theorem am_p_cut {G : Nat → am_E} {a : Int32} : am_pairI (am_mH G am_hC) 134 188 [.int a] am_N1 := by
  by_cases ha : a = 0
  · subst ha
    exact am_kI am_k_cut
  · exact am_q_cut (am_F_hC G) (am_N_hC G) ha
theorem am_p_partner {G : Nat → am_E} {a : Int32} : am_pairI (am_mH G am_hC) 137 192 [.int a] am_N1 := by
  by_cases ha : a = 0
  · subst ha
    exact am_kI am_k_partner
  · exact am_q_partner (am_F_hC G) (am_N_hC G) ha
theorem am_p_place {G : Nat → am_E} {a : Int32} : am_pairI (am_mH G am_hC) 143 206 [.int a] am_N1 := by
  by_cases ha : a = 0
  · subst ha
    exact am_kI am_k_place
  · exact am_q_place (am_F_hC G) (am_N_hC G) ha
theorem am_p_penalty {G : Nat → am_E} {a : Int32} : am_pairJ (am_mH G am_hC) 148 216 [.int a] am_N1 := by
  by_cases ha : a = 0
  · subst ha
    exact am_kJ am_k_penalty
  · exact am_q_penalty (am_F_hC G) (am_N_hC G) ha
theorem am_p_odd {G : Nat → am_E} {a : Int32} : am_pairI (am_mH G am_hC) 135 189 [.int a] am_N1 := am_q_odd (am_F_hC G) (am_N_hC G)
theorem am_p_corner {G : Nat → am_E} {a : Int32} : am_pairI (am_mH G am_hC) 140 197 [.int a] am_N1 := am_q_corner (am_F_hC G) (am_N_hC G)
theorem am_p_stop {G : Nat → am_E} {a : Int32} : am_pairI (am_mH G am_hC) 142 205 [.int a] am_N1 := am_q_stop (am_F_hC G) (am_N_hC G)
theorem am_p_dist {G : Nat → am_E} {a b : Int32} : am_pairI (am_mH G am_hC) 129 176 [.int a, .int b] am_N1 := by
  by_cases ha : a = 0
  · subst ha
    by_cases hb : b = 0
    · subst hb
      exact am_kI am_k_dist
    · exact am_q_dist2 (am_F_hC G) (am_N_hC G) hb
  · exact am_q_dist1 (am_F_hC G) (am_N_hC G) ha
theorem am_p_set {G : Nat → am_E} {a b c e : Int32} : am_pairI (am_mH G am_hC) 128 175 [.int a, .int b, .int c, .int e] am_N1 := by
  by_cases ha : a = 0
  · subst ha
    by_cases hb : b = 0
    · subst hb
      by_cases hc : c < 0
      · exact am_q_set3 (am_F_hC G) (am_N_hC G) hc
      · exact am_q_set4 (Int32.not_lt.mp hc)
    · exact am_q_set2 (am_F_hC G) (am_N_hC G) hb
  · exact am_q_set1 (am_F_hC G) (am_N_hC G) ha
theorem am_p_begin {G : Nat → am_E} {a : Int32} : am_pairI (am_mH G am_hC) 122 160 [.int a] am_N1 := by
  by_cases hl : a < 1
  · exact am_q_beginL (am_F_hC G) (am_N_hC G) hl
  by_cases hg : 20 < a
  · exact am_q_beginG (am_F_hC G) (am_N_hC G) hg
  obtain ⟨j, hj, rfl⟩ := nI_of2 (x := a) (M := 20) (n := 20) (by decide) (fun z => hl (Int32.lt_trans z (by decide))) (Int32.not_lt.mp hg)
  rcases (show j = 0 ∨ j = 1 ∨ j = 2 ∨ j = 3 ∨ j = 4 ∨ j = 5 ∨ j = 6 ∨ j = 7 ∨ j = 8 ∨ j = 9 ∨ j = 10 ∨ j = 11 ∨ j = 12 ∨ j = 13 ∨ j = 14 ∨ j = 15 ∨ j = 16 ∨ j = 17 ∨ j = 18 ∨ j = 19 ∨ j = 20 by omega) with rfl | rfl | rfl | rfl | rfl | rfl | rfl | rfl | rfl | rfl | rfl | rfl | rfl | rfl | rfl | rfl | rfl | rfl | rfl | rfl | rfl
  · exact absurd (by decide) hl
  · exact am_kI am_k_begin1
  · exact am_kI am_k_begin2
  · exact am_kI am_k_begin3
  · exact am_kI am_k_begin4
  · exact am_kI am_k_begin5
  · exact am_kI am_k_begin6
  · exact am_kI am_k_begin7
  · exact am_kI am_k_begin8
  · exact am_kI am_k_begin9
  · exact am_kI am_k_begin10
  · exact am_kI am_k_begin11
  · exact am_kI am_k_begin12
  · exact am_kI am_k_begin13
  · exact am_kI am_k_begin14
  · exact am_kI am_k_begin15
  · exact am_kI am_k_begin16
  · exact am_kI am_k_begin17
  · exact am_kI am_k_begin18
  · exact am_kI am_k_begin19
  · exact am_kI am_k_begin20
theorem am_p_flaw {G : Nat → am_E} {a : Int32} : am_pairI (am_mH G am_hC) 131 180 [.int a] am_N1 := by
  by_cases hl : a < 0
  · exact am_q_flawL (am_F_hC G) (am_N_hC G) hl
  by_cases hg : 3 < a
  · exact am_q_flawG (am_F_hC G) (am_N_hC G) hg
  obtain ⟨j, hj, rfl⟩ := nI_of2 (x := a) (M := 3) (n := 3) (by decide) (fun z => hl (z)) (Int32.not_lt.mp hg)
  rcases (show j = 0 ∨ j = 1 ∨ j = 2 ∨ j = 3 by omega) with rfl | rfl | rfl | rfl
  · exact am_kI am_k_flaw0
  · exact am_kI am_k_flaw1
  · exact am_kI am_k_flaw2
  · exact am_kI am_k_flaw3
theorem am_p_build {G : Nat → am_E} {a b : Int32} : am_pairJ (am_mH G am_hC) 141 204 [.int a, .int b] am_N1 := by
  by_cases hl : a < 0
  · exact am_q_buildL (am_F_hC G) (am_N_hC G) hl
  by_cases hg : 3 < a
  · exact am_q_buildG (am_F_hC G) (am_N_hC G) hg
  obtain ⟨j, hj, rfl⟩ := nI_of2 (x := a) (M := 3) (n := 3) (by decide) (fun z => hl (z)) (Int32.not_lt.mp hg)
  rcases (show j = 0 ∨ j = 1 ∨ j = 2 ∨ j = 3 by omega) with rfl | rfl | rfl | rfl
  · exact am_kJ2 am_k_build0
  · by_cases hb : b = 0
    · subst hb
      exact am_kJ am_k_build1
    · exact am_q_build1 (am_F_hC G) (am_N_hC G) hb
  · by_cases hb : b = 0
    · subst hb
      exact am_kJ am_k_build2
    · exact am_q_build2 (am_F_hC G) (am_N_hC G) hb
  · exact am_kJ2 am_k_build3
theorem am_p_better {G : Nat → am_E} {a b : Int32} : am_pairI (am_mH G am_hC) 145 212 [.int a, .int b] am_N1 := by
  by_cases hl : a < 0
  · exact am_q_better1 (am_F_hC G) (am_N_hC G) hl
  by_cases hg : 2 < a
  · exact am_q_better2 (am_F_hC G) (am_N_hC G) hg
  have hi : 0 ≤ a ∧ a ≤ 2 := ⟨Int32.not_lt.mp hl, Int32.not_lt.mp hg⟩
  by_cases hl2 : b < 1
  · exact am_q_better3 (am_F_hC G) (am_N_hC G) hi hl2
  by_cases hg2 : 300 < b
  · exact am_q_better4 (am_F_hC G) (am_N_hC G) hi hg2
  exact am_q_better5 (am_F_hC G) (am_N_hC G) hi ⟨Int32.not_lt.mp hl2, Int32.not_lt.mp hg2⟩
theorem am_p_bound {G : Nat → am_E} {a b : Int32} : am_pairJ (am_mH G am_hC) 147 215 [.int a, .int b] am_N1 := by
  by_cases hl : a < 1
  · exact am_q_bound1 (am_F_hC G) (am_N_hC G) hl
  by_cases hg : 100 < a
  · exact am_q_bound2 (am_F_hC G) (am_N_hC G) hg
  have hi : 1 ≤ a ∧ a ≤ 100 := ⟨Int32.not_lt.mp hl, Int32.not_lt.mp hg⟩
  by_cases hl2 : b < 0
  · exact am_q_bound3 (am_F_hC G) (am_N_hC G) hi hl2
  by_cases hg2 : 1000000 < b
  · exact am_q_bound4 (am_F_hC G) (am_N_hC G) hi hg2
  exact am_q_bound5 hi ⟨Int32.not_lt.mp hl2, Int32.not_lt.mp hg2⟩
def am_Iv (G : Nat → am_E) : Nat → am_H → Prop
  | 0 => fun h => h = am_mH G am_hC
  | _ + 1 => am_N1
theorem lw_keeps1 {G : Nat → am_E} : lw_Keeps (am_Iv G) 0 := by
  intro h a b c e hI
  have hI2 : h = am_mH G am_hC := hI
  subst hI2
  have hN : am_Iv G (0 + 1) = am_N1 := rfl
  rw [hN]
  exact ⟨am_p_begin, am_q_type, am_p_clear, am_p_read, am_p_add, am_p_drop, am_p_set, am_p_dist, am_p_cities, am_p_flaw, am_p_tree, am_p_hung, am_p_cut, am_q_odd (am_F_hC G) (am_N_hC G), am_p_match, am_p_partner, am_p_prices, am_p_round, am_p_corner, am_p_build, am_p_stop, am_p_place, am_p_length, am_p_better, am_p_best, am_p_bound, am_p_penalty, am_p_forgive, am_N_hC G⟩
theorem am_mg_dm {a G : Nat → am_E} {k : Nat} (h : am_isDm (a k) = true) : am_mg a G k = G k := by
  unfold am_mg
  rw [if_pos h]
set_option maxRecDepth 100000 in
theorem am_hC_0 : am_isDm (am_hC.2.2 0) = true := by decide +kernel
theorem am_sc0 {h : am_H} {G : Nat → am_E} (k : am_isDm (h.2.2 0) = true) : (am_mH G h).2.2 0 = G 0 := am_mg_dm k
