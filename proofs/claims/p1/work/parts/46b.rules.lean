section AMRU
variable {d i pc : Nat} {lv : am_L} {st r : List Value} {h : am_H} {P P1 : Option Value → am_H → Prop}
theorem am_gf {idx ci k p1 p2 a : Nat} {fs : List Value} {v : Value} (h1 : am_fetch i pc = some (.getfield idx, 3, [ci, k, p1, p2])) (hle : 1 ≤ a ∧ a ≤ h.1) (ha : h.2.2 a = .inr (ci, fs)) (hv : fs[k]? = some v) (k9 : am_wp d i (pc + 3) lv (v :: r) h P) : am_wp d i pc lv (.ref a :: r) h P := by
  refine am_s h1 ?_ k9
  show am_d16 pc (.getfield idx, 3, [ci, k, p1, p2]) lv (.ref a :: r) h = _
  unfold am_d16
  simp only [if_pos hle, ha, hv, Option.map_some, if_true]
theorem am_pf {idx ci k p1 p2 a : Nat} {fs : List Value} {v : Value} (h1 : am_fetch i pc = some (.putfield idx, 3, [ci, k, p1, p2])) (hle : 1 ≤ a ∧ a ≤ h.1) (ha : h.2.2 a = .inr (ci, fs)) (hk : k < fs.length) (hf : am_fit (am_fty ci k) v = true) (k9 : am_wp d i (pc + 3) lv r (h.1, h.2.1, am_up h.2.2 a (.inr (ci, fs.set k v))) P) : am_wp d i pc lv (v :: .ref a :: r) h P := by
  refine am_s h1 ?_ k9
  show am_d17 pc (.putfield idx, 3, [ci, k, p1, p2]) lv (v :: .ref a :: r) h = _
  unfold am_d17
  simp only [if_pos hle, ha]
  rw [if_pos ⟨trivial, hk, hf⟩]
theorem am_il {aux : List Nat} {a n : Nat} {f : Nat → Int32} {x : Int32} (h1 : am_fetch i pc = some (.iaload, 1, aux)) (hle : a ≤ h.1) (ha : h.2.2 a = .inl (1, n, .inl f)) (hx : am_idx x n = true) (k9 : am_wp d i (pc + 1) lv (.int (f x.toNatClampNeg) :: r) h P) : am_wp d i pc lv (.int x :: .ref a :: r) h P := by
  refine am_s h1 ?_ k9
  show am_d13 pc (.iaload, 1, aux) lv (.int x :: .ref a :: r) h = _
  unfold am_d13
  simp only [if_pos hle, ha, am_ald, hx, if_true, Option.map_some]
theorem am_al {aux : List Nat} {a n t : Nat} {dt : (Nat → Int32) ⊕ (Nat → Int64) ⊕ (Nat → UInt32) ⊕ (Nat → UInt64) ⊕ (Nat → Option Nat)} (h1 : am_fetch i pc = some (.arraylength, 1, aux)) (hle : a ≤ h.1) (ha : h.2.2 a = .inl (t, n, dt)) (ht : t < 6) (k9 : am_wp d i (pc + 1) lv (.int (nI n) :: r) h P) : am_wp d i pc lv (.ref a :: r) h P := by
  refine am_s h1 ?_ k9
  show am_d15 pc (.arraylength, 1, aux) lv (.ref a :: r) h = _
  unfold am_d15
  simp only [if_pos hle, ha, am_len, if_pos ht, Option.map_some]
  rfl
/-- a call of a method of an object: e's numbers name it -/
theorem am_cv {idx k j n p1 p2 p3 p4 p5 ci a : Nat} {As rest fs : List Value} (h1 : am_fetch i pc = some (.invokevirtual idx, 3, [k, j, n, p1, p2, p3, p4, p5, ci])) (hk : k = 1 ∨ k = 2) (h3 : st = (.ref a :: As).reverse ++ rest) (h4 : As.length = n) (h5 : am_cat rest ≤ 8) (h6 : am_fitsL j (.ref a :: As) = true) (hle : 1 ≤ a ∧ a ≤ h.1) (ha : h.2.2 a = .inr (ci, fs))
    (k1 : am_wp d j 0 (lv_args 0 (.ref a :: As)) [] h P1) (k2 : ∀ (rv : Option Value) (h' : am_H), P1 rv h' → am_wp (d + 1) i (pc + 3) lv (rv.toList ++ rest) h' P) : am_wp (d + 1) i pc lv st h P := by
  refine am_c h1 ?_ k1 k2
  have e1 : am_do i pc (.invokevirtual idx, 3, [k, j, n, p1, p2, p3, p4, p5, ci]) lv st h = am_call j (n + 1) (am_recv h ci) st := by
    rcases hk with rfl | rfl <;> rfl
  rw [e1]
  unfold am_call
  have e2 : (st.take (n + 1)).reverse = .ref a :: As := by
    rw [h3, List.take_append_of_le_length (by simp [h4]), List.take_of_length_le (by simp [h4]), List.reverse_reverse]
  have e3 : st.drop (n + 1) = rest := by
    rw [h3, List.drop_append_of_le_length (by simp [h4]), List.drop_of_length_le (by simp [h4])]
    rfl
  have e4 : n + 1 ≤ st.length := by rw [h3]; simp [h4]
  have e5 : am_recv h ci (.ref a :: As) = true := by
    show (decide (1 ≤ a ∧ a ≤ h.1) && (match h.2.2 a with
      | .inr (c, _) => decide (c = ci)
      | _ => false)) = true
    rw [ha]
    simp [hle]
  rw [e2, e3, if_pos ⟨e4, h5, h6, e5⟩]
theorem am_wp_le (k : am_wp d i pc lv st h P) : am_wp d i pc lv st h (fun rv h' => P rv h' ∧ am_le h h') := by
  obtain ⟨f, rv, h', hx, hp⟩ := k
  exact ⟨f, rv, h', hx, hp, am_exec_mono _ _ _ _ _ _ _ _ _ hx⟩
end AMRU
theorem am_ix_nI {i k L : Nat} (h : i + k < L) (hL : L ≤ 2560) : am_idx (nI (i + k)) L = true := by
  have h1 := vp_in_nI h (by omega)
  unfold vp_in at h1
  unfold am_idx
  simpa using h1
theorem am_sc {d i pc k L : Nat} {lv : am_L} {r : List Value} {h : am_H} {P : Option Value → am_H → Prop} {aux : List Nat} {xs : Nat → Int32} {x : Int32} (h1 : am_fetch i pc = some (.iaload, 1, aux)) (ha : h.2.2 0 = .inl (1, L, .inl xs)) (hx : x = nI k) (hk : k < L) (hL : L ≤ 2560) (k9 : am_wp d i (pc + 1) lv (.int (xs k) :: r) h P) : am_wp d i pc lv (.int x :: .ref 0 :: r) h P := by
  subst hx
  refine am_il h1 (Nat.zero_le _) ha (am_ix_nI (i := k) (k := 0) hk hL) ?_
  rw [nI_clamp (by omega)]
  exact k9
/-- both answer alike, one behind the other -/
def am_pairI (h : am_H) (jx jm : Nat) (as : List Value) (N : am_H → Prop) : Prop :=
  (∃ fs, h.2.2 1 = .inr (11, fs)) ∧ 1 ≤ h.1 ∧ am_wp 29 jx 0 (lv_args 0 (.ref 1 :: as)) [] h (fun rv h1 => ∃ x : Int32, rv = some (.int x) ∧ (∃ fs, h1.2.2 168 = .inr (12, fs)) ∧ 168 ≤ h1.1 ∧ am_wp 29 jm 0 (lv_args 0 (.ref 168 :: as)) [] h1 (fun rw h2 => rw = some (.int x) ∧ N h2))
def am_pairJ (h : am_H) (jx jm : Nat) (as : List Value) (N : am_H → Prop) : Prop :=
  (∃ fs, h.2.2 1 = .inr (11, fs)) ∧ 1 ≤ h.1 ∧ am_wp 29 jx 0 (lv_args 0 (.ref 1 :: as)) [] h (fun rv h1 => ∃ x : Int64, rv = some (.long x) ∧ (∃ fs, h1.2.2 168 = .inr (12, fs)) ∧ 168 ≤ h1.1 ∧ am_wp 29 jm 0 (lv_args 0 (.ref 168 :: as)) [] h1 (fun rw h2 => rw = some (.long x) ∧ N h2))
def am_lvL (i : Nat) : am_L := [(3, .int (nI i)), (2, .ref 168), (1, .ref 1), (0, .ref 0)]
