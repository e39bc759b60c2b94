theorem am_pfS {d i pc : Nat} {lv : am_L} {r : List Value} {h : am_H} {P : Option Value → am_H → Prop} {idx ci k p1 p2 a : Nat} {fs : List Value} {v : Value} (h1 : am_fetch i pc = some (.putfield idx, 3, [ci, k, p1, p2])) (hle : 1 ≤ a ∧ a ≤ h.1) (ha : h.2.2 a = .inr (ci, fs)) (hv : fs[k]? = some v) (hf : am_fit (am_fty ci k) v = true) (k9 : am_wp d i (pc + 3) lv r h P) : am_wp d i pc lv (v :: .ref a :: r) h P := by
  refine am_pf h1 hle ha (List.getElem?_eq_some_iff.mp hv).1 hf ?_
  have e1 : fs.set k v = fs := by
    obtain ⟨hk, e⟩ := List.getElem?_eq_some_iff.mp hv
    subst e
    exact List.set_getElem_self hk
  have e2 : am_up h.2.2 a (.inr (ci, fs.set k v)) = h.2.2 := by
    rw [e1]
    funext j
    unfold am_up
    by_cases e : j = a
    · rw [if_pos e, e, ha]
    · rw [if_neg e]
  rw [e2]
  exact k9
theorem am_cs {d i pc : Nat} {lv : am_L} {st : List Value} {h : am_H} {P P1 : Option Value → am_H → Prop} {idx k j n p1 p2 p3 p4 : Nat} {As rest : List Value} (h1 : am_fetch i pc = some (.invokestatic idx, 3, [k, j, n, p1, p2, p3, p4])) (hk : k = 3 ∨ k = 4) (h3 : st = As.reverse ++ rest) (h4 : As.length = n) (h5 : am_cat rest ≤ 8) (h6 : am_fitsL j As = true)
    (k1 : am_wp d j 0 (lv_args 0 As) [] h P1) (k2 : ∀ (rv : Option Value) (h' : am_H), P1 rv h' → am_wp (d + 1) i (pc + 3) lv (rv.toList ++ rest) h' P) : am_wp (d + 1) i pc lv st h P := by
  refine am_c h1 ?_ k1 k2
  have e1 : am_do i pc (.invokestatic idx, 3, [k, j, n, p1, p2, p3, p4]) lv st h = am_call j n (fun _ => true) st := by
    rcases hk with rfl | rfl <;> rfl
  rw [e1]
  unfold am_call
  have e2 : (st.take n).reverse = As := by
    rw [h3, List.take_append_of_le_length (by simp [h4]), List.take_of_length_le (by simp [h4]), List.reverse_reverse]
  have e3 : st.drop n = rest := by
    rw [h3, List.drop_append_of_le_length (by simp [h4]), List.drop_of_length_le (by simp [h4])]
    rfl
  have e4 : n ≤ st.length := by rw [h3]; simp [h4]
  rw [e2, e3, if_pos ⟨e4, h5, h6, rfl⟩]
theorem am_lg_lt (x y : Int64) : lg_cmp x y < 0 ↔ x < y := by
  unfold lg_cmp
  by_cases h1 : x > y
  · rw [if_pos h1]
    exact ⟨fun z => absurd z (by decide), fun z => absurd (Int64.lt_trans h1 z) (Int64.lt_irrefl)⟩
  · rw [if_neg h1]
    by_cases h2 : x = y
    · rw [if_pos h2, h2]
      exact ⟨fun z => absurd z (by decide), fun z => absurd z (Int64.lt_irrefl)⟩
    · rw [if_neg h2]
      refine ⟨fun _ => ?_, fun _ => by decide⟩
      rcases Int64.lt_or_eq_of_le (Int64.not_lt.mp h1) with h | h
      · exact h
      · exact absurd h h2
theorem am_lg_gt (x y : Int64) : 0 < lg_cmp x y ↔ y < x := by
  unfold lg_cmp
  by_cases h1 : x > y
  · rw [if_pos h1]
    exact ⟨fun _ => h1, fun _ => by decide⟩
  · rw [if_neg h1]
    by_cases h2 : x = y
    · rw [if_pos h2]
      exact ⟨fun z => absurd z (by decide), fun z => absurd z h1⟩
    · rw [if_neg h2]
      exact ⟨fun z => absurd z (by decide), fun z => absurd z h1⟩
theorem am_i64_lt (a b : Int32) : a.toInt64 < b.toInt64 ↔ a < b := by
  rw [Int64.lt_iff_toInt_lt, Int32.lt_iff_toInt_lt, Int32.toInt_toInt64, Int32.toInt_toInt64]
theorem am_within (d : Nat) (a lo hi : Int32) (h : am_H) : am_wp d 157 0 (lv_args 0 [.long a.toInt64, .long lo.toInt64, .long hi.toInt64]) [] h (fun rv h' => rv = some (.int (if lo ≤ a ∧ a ≤ hi then 1 else 0)) ∧ h' = h) := by
  refine am_s rfl rfl ?_
  refine am_s rfl rfl ?_
  refine am_s rfl rfl ?_
  by_cases h1 : a < lo
  · refine am_bt rfl rfl (decide_eq_true ((am_lg_lt _ _).mpr ((am_i64_lt _ _).mpr h1))) ?_
    refine am_s rfl rfl ?_
    refine am_r rfl rfl ⟨?_, rfl⟩
    rw [if_neg (fun z => absurd h1 (Int32.not_lt.mpr z.1))]
    rfl
  · refine am_bf rfl rfl (decide_eq_false (fun z => h1 ((am_i64_lt _ _).mp ((am_lg_lt _ _).mp z)))) ?_
    refine am_s rfl rfl ?_
    refine am_s rfl rfl ?_
    refine am_s rfl rfl ?_
    by_cases h2 : hi < a
    · refine am_bt rfl rfl (decide_eq_true ((am_lg_gt _ _).mpr ((am_i64_lt _ _).mpr h2))) ?_
      refine am_s rfl rfl ?_
      refine am_r rfl rfl ⟨?_, rfl⟩
      rw [if_neg (fun z => absurd h2 (Int32.not_lt.mpr z.2))]
      rfl
    · refine am_bf rfl rfl (decide_eq_false (fun z => h2 ((am_i64_lt _ _).mp ((am_lg_gt _ _).mp z)))) ?_
      refine am_s rfl rfl ?_
      refine am_s rfl rfl ?_
      refine am_r rfl rfl ⟨?_, rfl⟩
      rw [if_pos ⟨Int32.not_lt.mp h1, Int32.not_lt.mp h2⟩]
      rfl
/-- what stands in the heap when both objects are new -/
def am_F (h : am_H) : Prop := 193 ≤ h.1 ∧ h.2.2 1 = .inr (11, [.ref 2, .ref 25, .ref 48, .ref 58, .ref 127, .ref 151, .ref 153, .ref 158, .ref 160]) ∧ h.2.2 25 = .inr (4, [.int 1, .ref 26, .int 0, .ref 47]) ∧ h.2.2 48 = .inr (9, [.int 0, .long 0, .int 0, .ref 49, .ref 54, .ref 55, .ref 56, .ref 57]) ∧ h.2.2 58 = .inr (5, [.int 0, .long 0, .long 0, .int 0, .ref 59, .ref 60, .ref 61, .ref 62]) ∧ h.2.2 127 = .inr (10, [.int 0, .int 1, .ref 128, .ref 129, .ref 130]) ∧ h.2.2 151 = .inr (8, [.int 0, .int 0, .ref 152]) ∧ h.2.2 168 = .inr (12, [.int 0, .int 1, .ref 169, .ref 170, .ref 171, .int 0, .int 1, .int 0, .int 0, .int 0, .ref 172, .ref 173, .int 0, .ref 174, .int 0, .ref 175, .long 0, .ref 176, .int 0, .ref 177, .int 0, .ref 178, .long 0, .ref 179, .int 0, .ref 180, .int 0, .ref 181, .ref 182, .int 0, .ref 183, .ref 184, .ref 185, .ref 186, .ref 187, .ref 188, .ref 189, .ref 190, .ref 191, .ref 192, .ref 193])
theorem am_isCityX {d n : Nat} {h : am_H} {c cn : Int32} {fs ms : List Value} {q : Nat} (hn : 1 ≤ h.1 ∧ 1 ≤ q ∧ q ≤ h.1) (e1 : h.2.2 1 = .inr (11, fs)) (e2 : fs[1]? = some (.ref q)) (e3 : h.2.2 q = .inr (4, ms)) (e4 : ms[0]? = some (.int cn)) : am_wp d 150 0 (lv_args 0 [.ref 1, .int c]) [] h (fun rv h' => rv = some (.int (if 0 ≤ c ∧ c < cn then 1 else 0)) ∧ h' = h) := by
  refine am_s rfl rfl ?_
  by_cases h1 : c < 0
  · refine am_bt rfl rfl (decide_eq_true h1) ?_
    refine am_s rfl rfl ?_
    refine am_r rfl rfl ⟨?_, rfl⟩
    rw [if_neg (fun z => absurd h1 (Int32.not_lt.mpr z.1))]
    rfl
  · refine am_bf rfl rfl (decide_eq_false h1) ?_
    refine am_s rfl rfl ?_
    refine am_s rfl rfl ?_
    refine am_gf rfl ⟨Nat.le_refl 1, hn.1⟩ e1 e2 ?_
    refine am_gf rfl hn.2 e3 e4 ?_
    by_cases h2 : cn ≤ c
    · refine am_bt rfl rfl (decide_eq_true h2) ?_
      refine am_s rfl rfl ?_
      refine am_r rfl rfl ⟨?_, rfl⟩
      rw [if_neg (fun z => absurd z.2 (Int32.not_lt.mpr h2))]
      rfl
    · refine am_bf rfl rfl (decide_eq_false h2) ?_
      refine am_s rfl rfl ?_
      refine am_s rfl rfl ?_
      refine am_r rfl rfl ⟨?_, rfl⟩
      rw [if_pos ⟨Int32.not_lt.mp h1, Int32.not_le.mp h2⟩]
      rfl
theorem am_isCityM {d : Nat} {h : am_H} {c cn : Int32} {fs : List Value} (hn : 168 ≤ h.1) (e1 : h.2.2 168 = .inr (12, fs)) (e2 : fs[1]? = some (.int cn)) : am_wp d 156 0 (lv_args 0 [.ref 168, .int c]) [] h (fun rv h' => rv = some (.int (if 0 ≤ c ∧ c < cn then 1 else 0)) ∧ h' = h) := by
  refine am_s rfl rfl ?_
  by_cases h1 : c < 0
  · refine am_bt rfl rfl (decide_eq_true h1) ?_
    refine am_s rfl rfl ?_
    refine am_r rfl rfl ⟨?_, rfl⟩
    rw [if_neg (fun z => absurd h1 (Int32.not_lt.mpr z.1))]
    rfl
  · refine am_bf rfl rfl (decide_eq_false h1) ?_
    refine am_s rfl rfl ?_
    refine am_s rfl rfl ?_
    refine am_gf rfl ⟨by decide, hn⟩ e1 e2 ?_
    by_cases h2 : cn ≤ c
    · refine am_bt rfl rfl (decide_eq_true h2) ?_
      refine am_s rfl rfl ?_
      refine am_r rfl rfl ⟨?_, rfl⟩
      rw [if_neg (fun z => absurd z.2 (Int32.not_lt.mpr h2))]
      rfl
    · refine am_bf rfl rfl (decide_eq_false h2) ?_
      refine am_s rfl rfl ?_
      refine am_s rfl rfl ?_
      refine am_r rfl rfl ⟨?_, rfl⟩
      rw [if_pos ⟨Int32.not_lt.mp h1, Int32.not_le.mp h2⟩]
      rfl
theorem am_city1 {c : Int32} (h : ¬ c = 0) : ¬ (0 ≤ c ∧ c < 1) := by
  rintro ⟨h1, h2⟩
  apply h
  rw [Int32.le_iff_toInt_le] at h1
  rw [Int32.lt_iff_toInt_lt] at h2
  have e0 : (0 : Int32).toInt = 0 := by decide
  have e1 : (1 : Int32).toInt = 1 := by decide
  apply Int32.toInt_inj.mp
  omega
