/-! THE RULES, over numbers -/
theorem s_ob {E : am_Ev} {s : am_S} {a ci : Nat} {ks : List (Nat × Nat)} (ha : am_lo a = some (.inr (ci, ks))) : (am_hp E s).2.2 a = .inr (ci, am_fs E (s a) ks 0) := by
  show am_cl E s a = _
  unfold am_cl
  rw [ha]
theorem s_le {E : am_Ev} {s : am_S} {a : Nat} {y : am_Ly} (g : am_Eg E) (ha : am_lo a = some y) : 1 ≤ a ∧ a ≤ (am_hp E s).1 := ⟨(am_lo_le ha).1, Nat.le_trans (am_lo_le ha).2 g.1⟩
theorem s_ai {E : am_Ev} {s : am_S} {a n : Nat} (ha : am_lo a = some (.inl (1, n))) : (am_hp E s).2.2 a = .inl (1, n, .inl (am_ia (s a))) := by
  show am_cl E s a = _
  unfold am_cl
  rw [ha]
  rfl
theorem s_az {E : am_Ev} {s : am_S} {a n : Nat} (ha : am_lo a = some (.inl (3, n))) : (am_hp E s).2.2 a = .inl (3, n, .inl (am_ia (s a))) := by
  show am_cl E s a = _
  unfold am_cl
  rw [ha]
  rfl
theorem s_ab {E : am_Ev} {s : am_S} {a n : Nat} (ha : am_lo a = some (.inl (0, n))) : (am_hp E s).2.2 a = .inl (0, n, .inl (am_ia (s a))) := by
  show am_cl E s a = _
  unfold am_cl
  rw [ha]
  rfl
theorem s_aj {E : am_Ev} {s : am_S} {a n : Nat} (ha : am_lo a = some (.inl (2, n))) : (am_hp E s).2.2 a = .inl (2, n, .inr (.inl (am_ja (s a)))) := by
  show am_cl E s a = _
  unfold am_cl
  rw [ha]
  rfl
theorem s_ar {E : am_Ev} {s : am_S} {a n : Nat} (ha : am_lo a = some (.inl (4, n))) : (am_hp E s).2.2 a = .inl (4, n, .inr (.inr (.inr (.inr (E.2.1 a))))) := by
  show am_cl E s a = _
  unfold am_cl
  rw [ha]
  rfl
theorem s_ar5 {E : am_Ev} {s : am_S} {a n : Nat} (ha : am_lo a = some (.inl (5, n))) : (am_hp E s).2.2 a = .inl (5, n, .inr (.inr (.inr (.inr (E.2.1 a))))) := by
  show am_cl E s a = _
  unfold am_cl
  rw [ha]
  rfl
theorem s_up {E : am_Ev} {s : am_S} {a : Nat} {x v : Int} {c : am_E} (h : (am_hp E (am_w s a x v)).2.2 a = c) : ((am_hp E s).1, (am_hp E s).2.1, am_up (am_hp E s).2.2 a c) = am_hp E (am_w s a x v) := by
  show (E.2.2.2.2.1, E.2.2.2.2.2, am_up (am_cl E s) a c) = (E.2.2.2.2.1, E.2.2.2.2.2, am_cl E (am_w s a x v))
  rw [am_cl_up h]
section SRU
variable {d i pc : Nat} {lv : am_L} {st r : List Value} {P : Option Value → am_H → Prop} {E : am_Ev} {s : am_S} {h : am_H} {aux : List Nat}
/-- an int field -/
theorem s_gi {idx ci k p1 p2 a z : Nat} {ks : List (Nat × Nat)} {x : Int} (h1 : am_fetch i pc = some (.getfield idx, 3, [ci, k, p1, p2])) (g : am_Eg E) (ha : am_lo a = some (.inr (ci, ks))) (hk : ks[k]? = some (1, z)) (hx : (k : Int) = x) (k9 : am_wp d i (pc + 3) lv (.int (iI (s a x)) :: r) (am_hp E s) P) : am_wp d i pc lv (.ref a :: r) (am_hp E s) P := by
  refine am_gf h1 (s_le g ha) (s_ob ha) (am_fs_get hk) ?_
  rw [Nat.zero_add, hx]
  exact k9
/-- a long field -/
theorem s_gl {idx ci k p1 p2 a z : Nat} {ks : List (Nat × Nat)} {x : Int} (h1 : am_fetch i pc = some (.getfield idx, 3, [ci, k, p1, p2])) (g : am_Eg E) (ha : am_lo a = some (.inr (ci, ks))) (hk : ks[k]? = some (2, z)) (hx : (k : Int) = x) (k9 : am_wp d i (pc + 3) lv (.long (lI (s a x)) :: r) (am_hp E s) P) : am_wp d i pc lv (.ref a :: r) (am_hp E s) P := by
  refine am_gf h1 (s_le g ha) (s_ob ha) (am_fs_get hk) ?_
  rw [Nat.zero_add, hx]
  exact k9
/-- a field that is an address -/
theorem s_gr {idx ci k p1 p2 a z : Nat} {ks : List (Nat × Nat)} (h1 : am_fetch i pc = some (.getfield idx, 3, [ci, k, p1, p2])) (g : am_Eg E) (ha : am_lo a = some (.inr (ci, ks))) (hk : ks[k]? = some (4, z)) (k9 : am_wp d i (pc + 3) lv (.ref z :: r) (am_hp E s) P) : am_wp d i pc lv (.ref a :: r) (am_hp E s) P :=
  am_gf h1 (s_le g ha) (s_ob ha) (am_fs_get hk) k9
theorem s_g5 {idx ci k p1 p2 a z : Nat} {ks : List (Nat × Nat)} (h1 : am_fetch i pc = some (.getfield idx, 3, [ci, k, p1, p2])) (g : am_Eg E) (ha : am_lo a = some (.inr (ci, ks))) (hk : ks[k]? = some (5, z)) (k9 : am_wp d i (pc + 3) lv (.ref E.2.2.1.1 :: r) (am_hp E s) P) : am_wp d i pc lv (.ref a :: r) (am_hp E s) P :=
  am_gf h1 (s_le g ha) (s_ob ha) (am_fs_get hk) k9
theorem s_g6 {idx ci k p1 p2 a z : Nat} {ks : List (Nat × Nat)} (h1 : am_fetch i pc = some (.getfield idx, 3, [ci, k, p1, p2])) (g : am_Eg E) (ha : am_lo a = some (.inr (ci, ks))) (hk : ks[k]? = some (6, z)) (k9 : am_wp d i (pc + 3) lv (.ref E.2.2.2.1.1 :: r) (am_hp E s) P) : am_wp d i pc lv (.ref a :: r) (am_hp E s) P :=
  am_gf h1 (s_le g ha) (s_ob ha) (am_fs_get hk) k9
theorem s_pi {idx ci k p1 p2 a z : Nat} {ks : List (Nat × Nat)} {v x : Int} (h1 : am_fetch i pc = some (.putfield idx, 3, [ci, k, p1, p2])) (g : am_Eg E) (ha : am_lo a = some (.inr (ci, ks))) (hk : ks[k]? = some (1, z)) (hf : am_fit (am_fty ci k) (.int (iI v)) = true) (hx : (k : Int) = x) (k9 : am_wp d i (pc + 3) lv r (am_hp E (am_w s a x v)) P) : am_wp d i pc lv (.int (iI v) :: .ref a :: r) (am_hp E s) P := by
  subst hx
  refine am_pf h1 (s_le g ha) (s_ob ha) (by rw [am_fs_len]; exact (List.getElem?_eq_some_iff.mp hk).1) hf ?_
  have e := s_up (E := E) (s := s) (a := a) (x := k) (v := v) (c := .inr (ci, (am_fs E (s a) ks 0).set k (.int (iI v)))) (by
    rw [s_ob ha, ← am_fs_set (g := s a) (g2 := am_w s a k v a) hk (fun j hj => am_w_x (by omega)), Nat.zero_add, am_w_eq]
    rfl)
  rw [e]
  exact k9
theorem s_pl {idx ci k p1 p2 a z : Nat} {ks : List (Nat × Nat)} {v x : Int} (h1 : am_fetch i pc = some (.putfield idx, 3, [ci, k, p1, p2])) (g : am_Eg E) (ha : am_lo a = some (.inr (ci, ks))) (hk : ks[k]? = some (2, z)) (hf : am_fit (am_fty ci k) (.long (lI v)) = true) (hx : (k : Int) = x) (k9 : am_wp d i (pc + 3) lv r (am_hp E (am_w s a x v)) P) : am_wp d i pc lv (.long (lI v) :: .ref a :: r) (am_hp E s) P := by
  subst hx
  refine am_pf h1 (s_le g ha) (s_ob ha) (by rw [am_fs_len]; exact (List.getElem?_eq_some_iff.mp hk).1) hf ?_
  have e := s_up (E := E) (s := s) (a := a) (x := k) (v := v) (c := .inr (ci, (am_fs E (s a) ks 0).set k (.long (lI v)))) (by
    rw [s_ob ha, ← am_fs_set (g := s a) (g2 := am_w s a k v a) hk (fun j hj => am_w_x (by omega)), Nat.zero_add, am_w_eq]
    rfl)
  rw [e]
  exact k9
theorem am_ia_at {g : Int → Int} {x : Int} (h : 0 ≤ x) : am_ia g x.toNat = iI (g x) := by
  unfold am_ia
  rw [Int.toNat_of_nonneg h]
theorem am_ja_at {g : Int → Int} {x : Int} (h : 0 ≤ x) : am_ja g x.toNat = lI (g x) := by
  unfold am_ja
  rw [Int.toNat_of_nonneg h]
theorem am_lo_n {a t n : Nat} (ha : am_lo a = some (.inl (t, n))) (hn : n ≤ 2000000) : n < 2147483648 := by omega
/-- a place of an int array -/
theorem s_ia {a n : Nat} {x : Int} (h1 : am_fetch i pc = some (.iaload, 1, aux)) (g : am_Eg E) (ha : am_lo a = some (.inl (1, n))) (hx : 0 ≤ x ∧ x < n) (hn : n ≤ 2000000) (k9 : am_wp d i (pc + 1) lv (.int (iI (s a x)) :: r) (am_hp E s) P) : am_wp d i pc lv (.int (iI x) :: .ref a :: r) (am_hp E s) P := by
  refine am_s (st' := .int (iI (s a x)) :: r) h1 ?_ k9
  show am_d13 pc (.iaload, 1, aux) lv (.int (iI x) :: .ref a :: r) (am_hp E s) = _
  unfold am_d13
  simp only [if_pos (s_le (s := s) g ha).2, s_ai ha, am_ald, iI_idx hx.1 hx.2 (by omega), if_true, Option.map_some, iI_clamp hx.1 (by omega), am_ia_at hx.1]
theorem s_ba {a n : Nat} {x : Int} (h1 : am_fetch i pc = some (.baload, 1, aux)) (g : am_Eg E) (ha : am_lo a = some (.inl (3, n))) (hx : 0 ≤ x ∧ x < n) (hn : n ≤ 2000000) (k9 : am_wp d i (pc + 1) lv (.int (iI (s a x)) :: r) (am_hp E s) P) : am_wp d i pc lv (.int (iI x) :: .ref a :: r) (am_hp E s) P := by
  refine am_s (st' := .int (iI (s a x)) :: r) h1 ?_ k9
  show am_d13 pc (.baload, 1, aux) lv (.int (iI x) :: .ref a :: r) (am_hp E s) = _
  unfold am_d13
  simp only [if_pos (s_le (s := s) g ha).2, s_az ha, am_ald, iI_idx hx.1 hx.2 (by omega), if_true, Option.map_some, iI_clamp hx.1 (by omega), am_ia_at hx.1]
theorem s_b0 {a n : Nat} {x : Int} (h1 : am_fetch i pc = some (.baload, 1, aux)) (g : am_Eg E) (ha : am_lo a = some (.inl (0, n))) (hx : 0 ≤ x ∧ x < n) (hn : n ≤ 2000000) (k9 : am_wp d i (pc + 1) lv (.int (iI (s a x)) :: r) (am_hp E s) P) : am_wp d i pc lv (.int (iI x) :: .ref a :: r) (am_hp E s) P := by
  refine am_s (st' := .int (iI (s a x)) :: r) h1 ?_ k9
  show am_d13 pc (.baload, 1, aux) lv (.int (iI x) :: .ref a :: r) (am_hp E s) = _
  unfold am_d13
  simp only [if_pos (s_le (s := s) g ha).2, s_ab ha, am_ald, iI_idx hx.1 hx.2 (by omega), if_true, Option.map_some, iI_clamp hx.1 (by omega), am_ia_at hx.1]
theorem s_la {a n : Nat} {x : Int} (h1 : am_fetch i pc = some (.laload, 1, aux)) (g : am_Eg E) (ha : am_lo a = some (.inl (2, n))) (hx : 0 ≤ x ∧ x < n) (hn : n ≤ 2000000) (k9 : am_wp d i (pc + 1) lv (.long (lI (s a x)) :: r) (am_hp E s) P) : am_wp d i pc lv (.int (iI x) :: .ref a :: r) (am_hp E s) P := by
  refine am_s (st' := .long (lI (s a x)) :: r) h1 ?_ k9
  show am_d13 pc (.laload, 1, aux) lv (.int (iI x) :: .ref a :: r) (am_hp E s) = _
  unfold am_d13
  simp only [if_pos (s_le (s := s) g ha).2, s_aj ha, am_ald, iI_idx hx.1 hx.2 (by omega), if_true, Option.map_some, iI_clamp hx.1 (by omega), am_ja_at hx.1]
/-- a row of rows -/
theorem s_aa {a n : Nat} {x : Int} (h1 : am_fetch i pc = some (.aaload, 1, aux)) (g : am_Eg E) (ha : am_lo a = some (.inl (4, n))) (hx : 0 ≤ x ∧ x < n) (hn : n ≤ 2000000) (k9 : am_wp d i (pc + 1) lv (.ref (a + 1 + x.toNat) :: r) (am_hp E s) P) : am_wp d i pc lv (.int (iI x) :: .ref a :: r) (am_hp E s) P := by
  refine am_s (st' := .ref (a + 1 + x.toNat) :: r) h1 ?_ k9
  show am_d13 pc (.aaload, 1, aux) lv (.int (iI x) :: .ref a :: r) (am_hp E s) = _
  unfold am_d13
  simp only [if_pos (s_le (s := s) g ha).2, s_ar ha, am_ald, iI_idx hx.1 hx.2 (by omega), if_true, Option.map_some, iI_clamp hx.1 (by omega), g.2.1 a n ha x.toNat (by omega)]
theorem s_aa5 {a n : Nat} {x : Int} (h1 : am_fetch i pc = some (.aaload, 1, aux)) (g : am_Eg E) (ha : am_lo a = some (.inl (5, n))) (hx : 0 ≤ x ∧ x < n) (hn : n ≤ 2000000) (k9 : am_wp d i (pc + 1) lv (.ref (a + 1 + x.toNat) :: r) (am_hp E s) P) : am_wp d i pc lv (.int (iI x) :: .ref a :: r) (am_hp E s) P := by
  refine am_s (st' := .ref (a + 1 + x.toNat) :: r) h1 ?_ k9
  show am_d13 pc (.aaload, 1, aux) lv (.int (iI x) :: .ref a :: r) (am_hp E s) = _
  unfold am_d13
  simp only [if_pos (s_le (s := s) g ha).2, s_ar5 ha, am_ald, iI_idx hx.1 hx.2 (by omega), if_true, Option.map_some, iI_clamp hx.1 (by omega), g.2.2 a n ha x.toNat (by omega)]
theorem s_wi {a n : Nat} {x v : Int} (ha : am_lo a = some (.inl (1, n))) (hx : 0 ≤ x) : (am_hp E (am_w s a x v)).2.2 a = .inl (1, n, .inl (upd (am_ia (s a)) x.toNat (iI v))) := by
  rw [s_ai ha, am_ia_upd, am_w_fun, Int.toNat_of_nonneg hx]
theorem s_wz {a n : Nat} {x v : Int} (ha : am_lo a = some (.inl (3, n))) (hx : 0 ≤ x) : (am_hp E (am_w s a x v)).2.2 a = .inl (3, n, .inl (upd (am_ia (s a)) x.toNat (iI v))) := by
  rw [s_az ha, am_ia_upd, am_w_fun, Int.toNat_of_nonneg hx]
theorem am_ja_upd {g : Int → Int} {k : Nat} {v : Int} : vp_updL (am_ja g) k (lI v) = am_ja (fun y => if y = (k : Int) then v else g y) := by
  funext i
  unfold vp_updL am_ja
  by_cases e : i = k
  · subst e; simp
  · simp [e, Int.ofNat_inj]
theorem s_wj {a n : Nat} {x v : Int} (ha : am_lo a = some (.inl (2, n))) (hx : 0 ≤ x) : (am_hp E (am_w s a x v)).2.2 a = .inl (2, n, .inr (.inl (vp_updL (am_ja (s a)) x.toNat (lI v)))) := by
  rw [s_aj ha, am_ja_upd, am_w_fun, Int.toNat_of_nonneg hx]
theorem s_is {a n : Nat} {x v : Int} (h1 : am_fetch i pc = some (.iastore, 1, aux)) (g : am_Eg E) (ha : am_lo a = some (.inl (1, n))) (hx : 0 ≤ x ∧ x < n) (hn : n ≤ 2000000) (k9 : am_wp d i (pc + 1) lv r (am_hp E (am_w s a x v)) P) : am_wp d i pc lv (.int (iI v) :: .int (iI x) :: .ref a :: r) (am_hp E s) P := by
  refine am_s (st' := r) (h' := am_hp E (am_w s a x v)) h1 ?_ k9
  show am_d14 pc (.iastore, 1, aux) lv (.int (iI v) :: .int (iI x) :: .ref a :: r) (am_hp E s) = _
  unfold am_d14
  simp only [if_pos (s_le (s := s) g ha), s_ai ha, am_ast, iI_idx hx.1 hx.2 (by omega), if_true, Option.map_some, iI_clamp hx.1 (by omega), s_up (s_wi ha hx.1)]
theorem s_ls {a n : Nat} {x v : Int} (h1 : am_fetch i pc = some (.lastore, 1, aux)) (g : am_Eg E) (ha : am_lo a = some (.inl (2, n))) (hx : 0 ≤ x ∧ x < n) (hn : n ≤ 2000000) (k9 : am_wp d i (pc + 1) lv r (am_hp E (am_w s a x v)) P) : am_wp d i pc lv (.long (lI v) :: .int (iI x) :: .ref a :: r) (am_hp E s) P := by
  refine am_s (st' := r) (h' := am_hp E (am_w s a x v)) h1 ?_ k9
  show am_d14 pc (.lastore, 1, aux) lv (.long (lI v) :: .int (iI x) :: .ref a :: r) (am_hp E s) = _
  unfold am_d14
  simp only [if_pos (s_le (s := s) g ha), s_aj ha, am_ast, iI_idx hx.1 hx.2 (by omega), if_true, Option.map_some, iI_clamp hx.1 (by omega), s_up (s_wj ha hx.1)]
theorem s_bs {a n : Nat} {x v : Int} (h1 : am_fetch i pc = some (.bastore, 1, aux)) (g : am_Eg E) (ha : am_lo a = some (.inl (3, n))) (hx : 0 ≤ x ∧ x < n) (hn : n ≤ 2000000) (hv : v = 0 ∨ v = 1) (k9 : am_wp d i (pc + 1) lv r (am_hp E (am_w s a x v)) P) : am_wp d i pc lv (.int (iI v) :: .int (iI x) :: .ref a :: r) (am_hp E s) P := by
  refine am_s (st' := r) (h' := am_hp E (am_w s a x v)) h1 ?_ k9
  show am_d14 pc (.bastore, 1, aux) lv (.int (iI v) :: .int (iI x) :: .ref a :: r) (am_hp E s) = _
  have e : vp_nar .boolean (iI v) = iI v := by rcases hv with rfl | rfl <;> decide
  unfold am_d14
  simp only [if_pos (s_le (s := s) g ha), s_az ha, am_ast, iI_idx hx.1 hx.2 (by omega), if_true, Option.map_some, iI_clamp hx.1 (by omega), e, s_up (s_wz ha hx.1)]
theorem s_R0 : am_R 0 := ⟨by decide, by decide⟩
/-! numbers -/
theorem s_iadd {a b : Int} (h1 : am_fetch i pc = some (.iadd, 1, aux)) (k9 : am_wp d i (pc + 1) lv (.int (iI (a + b)) :: r) h P) : am_wp d i pc lv (.int (iI b) :: .int (iI a) :: r) h P := am_s (st' := .int (iI (a + b)) :: r) h1 (by rw [← iI_add]; rfl) k9
theorem s_isub {a b : Int} (h1 : am_fetch i pc = some (.isub, 1, aux)) (k9 : am_wp d i (pc + 1) lv (.int (iI (a - b)) :: r) h P) : am_wp d i pc lv (.int (iI b) :: .int (iI a) :: r) h P := am_s (st' := .int (iI (a - b)) :: r) h1 (by rw [← iI_sub]; rfl) k9
theorem s_imul {a b : Int} (h1 : am_fetch i pc = some (.imul, 1, aux)) (k9 : am_wp d i (pc + 1) lv (.int (iI (a * b)) :: r) h P) : am_wp d i pc lv (.int (iI b) :: .int (iI a) :: r) h P := am_s (st' := .int (iI (a * b)) :: r) h1 (by rw [← iI_mul]; rfl) k9
theorem s_ineg {a : Int} (h1 : am_fetch i pc = some (.ineg, 1, aux)) (k9 : am_wp d i (pc + 1) lv (.int (iI (-a)) :: r) h P) : am_wp d i pc lv (.int (iI a) :: r) h P := am_s (st' := .int (iI (-a)) :: r) h1 (by rw [← iI_neg]; rfl) k9
theorem s_ladd {a b : Int} (h1 : am_fetch i pc = some (.ladd, 1, aux)) (k9 : am_wp d i (pc + 1) lv (.long (lI (a + b)) :: r) h P) : am_wp d i pc lv (.long (lI b) :: .long (lI a) :: r) h P := am_s (st' := .long (lI (a + b)) :: r) h1 (by rw [← lI_add]; rfl) k9
theorem s_lsub {a b : Int} (h1 : am_fetch i pc = some (.lsub, 1, aux)) (k9 : am_wp d i (pc + 1) lv (.long (lI (a - b)) :: r) h P) : am_wp d i pc lv (.long (lI b) :: .long (lI a) :: r) h P := am_s (st' := .long (lI (a - b)) :: r) h1 (by rw [← lI_sub]; rfl) k9
theorem s_lmul {a b : Int} (h1 : am_fetch i pc = some (.lmul, 1, aux)) (k9 : am_wp d i (pc + 1) lv (.long (lI (a * b)) :: r) h P) : am_wp d i pc lv (.long (lI b) :: .long (lI a) :: r) h P := am_s (st' := .long (lI (a * b)) :: r) h1 (by rw [← lI_mul]; rfl) k9
theorem s_i2l {a : Int} (h1 : am_fetch i pc = some (.i2l, 1, aux)) (ha : am_R a) (k9 : am_wp d i (pc + 1) lv (.long (lI a) :: r) h P) : am_wp d i pc lv (.int (iI a) :: r) h P := am_s (st' := .long (lI a) :: r) h1 (by rw [← iI_l ha]; rfl) k9
theorem s_inc {k : Nat} {n x : Int} (h1 : am_fetch i pc = some (.iinc k n, 3, aux)) (hl : am_ld lv k = some (.int (iI x))) (k9 : am_wp d i (pc + 3) (am_st1 lv k (.int (iI (x + n)))) st h P) : am_wp d i pc lv st h P := by
  refine am_s (lv' := am_st1 lv k (.int (iI (x + n)))) h1 ?_ k9
  show am_d11 pc (.iinc k n, 3, aux) lv st h = _
  unfold am_d11
  simp only [hl]
  rw [← iI_add]
  rfl
/-- a number pushed -/
theorem s_k (k : Int) {e : am_I} (h1 : am_fetch i pc = some e) (h2 : am_do i pc e lv st h = some (.inl (pc + e.2.1, lv, .int (iI k) :: st, h))) (k9 : am_wp d i (pc + e.2.1) lv (.int (iI k) :: st) h P) : am_wp d i pc lv st h P := am_s h1 h2 k9
theorem s_kl (k : Int) {e : am_I} (h1 : am_fetch i pc = some e) (h2 : am_do i pc e lv st h = some (.inl (pc + e.2.1, lv, .long (lI k) :: st, h))) (k9 : am_wp d i (pc + e.2.1) lv (.long (lI k) :: st) h P) : am_wp d i pc lv st h P := am_s h1 h2 k9
theorem s_ceq {a b off : Int} (h1 : am_fetch i pc = some (.if_icmp .eq off, 3, aux)) (ha : am_R a) (hb : am_R b) (k1 : a = b → am_wp d i (am_go pc off) lv r h P) (k2 : ¬ (a = b) → am_wp d i (pc + 3) lv r h P) : am_wp d i pc lv (.int (iI b) :: .int (iI a) :: r) h P := by
  by_cases hc : a = b
  · exact am_bt h1 rfl (decide_eq_true ((iI_eq ha hb).mpr hc)) (k1 hc)
  · exact am_bf h1 rfl (decide_eq_false (fun z => hc ((iI_eq ha hb).mp z))) (k2 hc)
theorem s_cne {a b off : Int} (h1 : am_fetch i pc = some (.if_icmp .ne off, 3, aux)) (ha : am_R a) (hb : am_R b) (k1 : ¬ a = b → am_wp d i (am_go pc off) lv r h P) (k2 : ¬ (¬ a = b) → am_wp d i (pc + 3) lv r h P) : am_wp d i pc lv (.int (iI b) :: .int (iI a) :: r) h P := by
  by_cases hc : ¬ a = b
  · exact am_bt h1 rfl (decide_eq_true (fun z => hc ((iI_eq ha hb).mp z))) (k1 hc)
  · exact am_bf h1 rfl (decide_eq_false (fun z => z ((iI_eq ha hb).mpr (Decidable.of_not_not hc)))) (k2 hc)
theorem s_clt {a b off : Int} (h1 : am_fetch i pc = some (.if_icmp .lt off, 3, aux)) (ha : am_R a) (hb : am_R b) (k1 : a < b → am_wp d i (am_go pc off) lv r h P) (k2 : ¬ (a < b) → am_wp d i (pc + 3) lv r h P) : am_wp d i pc lv (.int (iI b) :: .int (iI a) :: r) h P := by
  by_cases hc : a < b
  · exact am_bt h1 rfl (decide_eq_true ((iI_lt ha hb).mpr hc)) (k1 hc)
  · exact am_bf h1 rfl (decide_eq_false (fun z => hc ((iI_lt ha hb).mp z))) (k2 hc)
theorem s_cge {a b off : Int} (h1 : am_fetch i pc = some (.if_icmp .ge off, 3, aux)) (ha : am_R a) (hb : am_R b) (k1 : b ≤ a → am_wp d i (am_go pc off) lv r h P) (k2 : ¬ (b ≤ a) → am_wp d i (pc + 3) lv r h P) : am_wp d i pc lv (.int (iI b) :: .int (iI a) :: r) h P := by
  by_cases hc : b ≤ a
  · exact am_bt h1 rfl (decide_eq_true ((iI_le hb ha).mpr hc)) (k1 hc)
  · exact am_bf h1 rfl (decide_eq_false (fun z => hc ((iI_le hb ha).mp z))) (k2 hc)
theorem s_cgt {a b off : Int} (h1 : am_fetch i pc = some (.if_icmp .gt off, 3, aux)) (ha : am_R a) (hb : am_R b) (k1 : b < a → am_wp d i (am_go pc off) lv r h P) (k2 : ¬ (b < a) → am_wp d i (pc + 3) lv r h P) : am_wp d i pc lv (.int (iI b) :: .int (iI a) :: r) h P := by
  by_cases hc : b < a
  · exact am_bt h1 rfl (decide_eq_true ((iI_lt hb ha).mpr hc)) (k1 hc)
  · exact am_bf h1 rfl (decide_eq_false (fun z => hc ((iI_lt hb ha).mp z))) (k2 hc)
theorem s_cle {a b off : Int} (h1 : am_fetch i pc = some (.if_icmp .le off, 3, aux)) (ha : am_R a) (hb : am_R b) (k1 : a ≤ b → am_wp d i (am_go pc off) lv r h P) (k2 : ¬ (a ≤ b) → am_wp d i (pc + 3) lv r h P) : am_wp d i pc lv (.int (iI b) :: .int (iI a) :: r) h P := by
  by_cases hc : a ≤ b
  · exact am_bt h1 rfl (decide_eq_true ((iI_le ha hb).mpr hc)) (k1 hc)
  · exact am_bf h1 rfl (decide_eq_false (fun z => hc ((iI_le ha hb).mp z))) (k2 hc)
theorem s_zeq {a off : Int} (h1 : am_fetch i pc = some (.ifCond .eq off, 3, aux)) (ha : am_R a) (k1 : a = 0 → am_wp d i (am_go pc off) lv r h P) (k2 : ¬ (a = 0) → am_wp d i (pc + 3) lv r h P) : am_wp d i pc lv (.int (iI a) :: r) h P := by
  by_cases hc : a = 0
  · exact am_bt h1 rfl (decide_eq_true ((iI_eq ha s_R0).mpr hc)) (k1 hc)
  · exact am_bf h1 rfl (decide_eq_false (fun z => hc ((iI_eq ha s_R0).mp z))) (k2 hc)
theorem s_zne {a off : Int} (h1 : am_fetch i pc = some (.ifCond .ne off, 3, aux)) (ha : am_R a) (k1 : ¬ a = 0 → am_wp d i (am_go pc off) lv r h P) (k2 : ¬ (¬ a = 0) → am_wp d i (pc + 3) lv r h P) : am_wp d i pc lv (.int (iI a) :: r) h P := by
  by_cases hc : ¬ a = 0
  · exact am_bt h1 rfl (decide_eq_true (fun z => hc ((iI_eq ha s_R0).mp z))) (k1 hc)
  · exact am_bf h1 rfl (decide_eq_false (fun z => z ((iI_eq ha s_R0).mpr (Decidable.of_not_not hc)))) (k2 hc)
theorem s_zlt {a off : Int} (h1 : am_fetch i pc = some (.ifCond .lt off, 3, aux)) (ha : am_R a) (k1 : a < 0 → am_wp d i (am_go pc off) lv r h P) (k2 : ¬ (a < 0) → am_wp d i (pc + 3) lv r h P) : am_wp d i pc lv (.int (iI a) :: r) h P := by
  by_cases hc : a < 0
  · exact am_bt h1 rfl (decide_eq_true ((iI_lt ha s_R0).mpr hc)) (k1 hc)
  · exact am_bf h1 rfl (decide_eq_false (fun z => hc ((iI_lt ha s_R0).mp z))) (k2 hc)
theorem s_zge {a off : Int} (h1 : am_fetch i pc = some (.ifCond .ge off, 3, aux)) (ha : am_R a) (k1 : 0 ≤ a → am_wp d i (am_go pc off) lv r h P) (k2 : ¬ (0 ≤ a) → am_wp d i (pc + 3) lv r h P) : am_wp d i pc lv (.int (iI a) :: r) h P := by
  by_cases hc : 0 ≤ a
  · exact am_bt h1 rfl (decide_eq_true ((iI_le s_R0 ha).mpr hc)) (k1 hc)
  · exact am_bf h1 rfl (decide_eq_false (fun z => hc ((iI_le s_R0 ha).mp z))) (k2 hc)
theorem s_zgt {a off : Int} (h1 : am_fetch i pc = some (.ifCond .gt off, 3, aux)) (ha : am_R a) (k1 : 0 < a → am_wp d i (am_go pc off) lv r h P) (k2 : ¬ (0 < a) → am_wp d i (pc + 3) lv r h P) : am_wp d i pc lv (.int (iI a) :: r) h P := by
  by_cases hc : 0 < a
  · exact am_bt h1 rfl (decide_eq_true ((iI_lt s_R0 ha).mpr hc)) (k1 hc)
  · exact am_bf h1 rfl (decide_eq_false (fun z => hc ((iI_lt s_R0 ha).mp z))) (k2 hc)
theorem s_zle {a off : Int} (h1 : am_fetch i pc = some (.ifCond .le off, 3, aux)) (ha : am_R a) (k1 : a ≤ 0 → am_wp d i (am_go pc off) lv r h P) (k2 : ¬ (a ≤ 0) → am_wp d i (pc + 3) lv r h P) : am_wp d i pc lv (.int (iI a) :: r) h P := by
  by_cases hc : a ≤ 0
  · exact am_bt h1 rfl (decide_eq_true ((iI_le ha s_R0).mpr hc)) (k1 hc)
  · exact am_bf h1 rfl (decide_eq_false (fun z => hc ((iI_le ha s_R0).mp z))) (k2 hc)
theorem am_lg_eq (x y : Int64) : lg_cmp x y = 0 ↔ x = y := by
  unfold lg_cmp
  by_cases h1 : x > y
  · rw [if_pos h1]
    exact ⟨fun z => absurd z (by decide), fun z => absurd h1 (by rw [z]; exact Int64.lt_irrefl)⟩
  · rw [if_neg h1]
    by_cases h2 : x = y
    · rw [if_pos h2]
      exact ⟨fun _ => h2, fun _ => rfl⟩
    · rw [if_neg h2]
      exact ⟨fun z => absurd z (by decide), fun z => absurd z h2⟩
theorem am_lg_ge (x y : Int64) : 0 ≤ lg_cmp x y ↔ ¬ x < y := by
  rw [← am_lg_lt]
  exact ⟨fun z => Int32.not_lt.mpr z, fun z => Int32.not_lt.mp z⟩
theorem am_lg_le (x y : Int64) : lg_cmp x y ≤ 0 ↔ ¬ y < x := by
  rw [← am_lg_gt]
  exact ⟨fun z => Int32.not_lt.mpr z, fun z => Int32.not_lt.mp z⟩
theorem s_jeq {a b off : Int} {aux2 : List Nat} (h0 : am_fetch i pc = some (.lcmp, 1, aux2)) (h1 : am_fetch i (pc + 1) = some (.ifCond .eq off, 3, aux)) (ha : am_Q a) (hb : am_Q b) (k1 : a = b → am_wp d i (am_go (pc + 1) off) lv r h P) (k2 : ¬ (a = b) → am_wp d i (pc + 1 + 3) lv r h P) : am_wp d i pc lv (.long (lI b) :: .long (lI a) :: r) h P := by
  refine am_s (st' := .int (lg_cmp (lI a) (lI b)) :: r) h0 rfl ?_
  by_cases hc : a = b
  · exact am_bt h1 rfl (decide_eq_true ((am_lg_eq _ _).mpr ((lI_eq ha hb).mpr hc))) (k1 hc)
  · exact am_bf h1 rfl (decide_eq_false (fun z => hc ((lI_eq ha hb).mp ((am_lg_eq _ _).mp z)))) (k2 hc)
theorem s_jlt {a b off : Int} {aux2 : List Nat} (h0 : am_fetch i pc = some (.lcmp, 1, aux2)) (h1 : am_fetch i (pc + 1) = some (.ifCond .lt off, 3, aux)) (ha : am_Q a) (hb : am_Q b) (k1 : a < b → am_wp d i (am_go (pc + 1) off) lv r h P) (k2 : ¬ (a < b) → am_wp d i (pc + 1 + 3) lv r h P) : am_wp d i pc lv (.long (lI b) :: .long (lI a) :: r) h P := by
  refine am_s (st' := .int (lg_cmp (lI a) (lI b)) :: r) h0 rfl ?_
  by_cases hc : a < b
  · exact am_bt h1 rfl (decide_eq_true ((am_lg_lt _ _).mpr ((lI_lt ha hb).mpr hc))) (k1 hc)
  · exact am_bf h1 rfl (decide_eq_false (fun z => hc ((lI_lt ha hb).mp ((am_lg_lt _ _).mp z)))) (k2 hc)
theorem s_jgt {a b off : Int} {aux2 : List Nat} (h0 : am_fetch i pc = some (.lcmp, 1, aux2)) (h1 : am_fetch i (pc + 1) = some (.ifCond .gt off, 3, aux)) (ha : am_Q a) (hb : am_Q b) (k1 : b < a → am_wp d i (am_go (pc + 1) off) lv r h P) (k2 : ¬ (b < a) → am_wp d i (pc + 1 + 3) lv r h P) : am_wp d i pc lv (.long (lI b) :: .long (lI a) :: r) h P := by
  refine am_s (st' := .int (lg_cmp (lI a) (lI b)) :: r) h0 rfl ?_
  by_cases hc : b < a
  · exact am_bt h1 rfl (decide_eq_true ((am_lg_gt _ _).mpr ((lI_lt hb ha).mpr hc))) (k1 hc)
  · exact am_bf h1 rfl (decide_eq_false (fun z => hc ((lI_lt hb ha).mp ((am_lg_gt _ _).mp z)))) (k2 hc)
theorem s_jge {a b off : Int} {aux2 : List Nat} (h0 : am_fetch i pc = some (.lcmp, 1, aux2)) (h1 : am_fetch i (pc + 1) = some (.ifCond .ge off, 3, aux)) (ha : am_Q a) (hb : am_Q b) (k1 : b ≤ a → am_wp d i (am_go (pc + 1) off) lv r h P) (k2 : ¬ (b ≤ a) → am_wp d i (pc + 1 + 3) lv r h P) : am_wp d i pc lv (.long (lI b) :: .long (lI a) :: r) h P := by
  refine am_s (st' := .int (lg_cmp (lI a) (lI b)) :: r) h0 rfl ?_
  by_cases hc : b ≤ a
  · exact am_bt h1 rfl (decide_eq_true ((am_lg_ge _ _).mpr (fun z => Int.not_lt.mpr hc ((lI_lt ha hb).mp z)))) (k1 hc)
  · exact am_bf h1 rfl (decide_eq_false (fun z => hc (Int.not_lt.mp (fun y => (am_lg_ge _ _).mp z ((lI_lt ha hb).mpr y))))) (k2 hc)
theorem s_jle {a b off : Int} {aux2 : List Nat} (h0 : am_fetch i pc = some (.lcmp, 1, aux2)) (h1 : am_fetch i (pc + 1) = some (.ifCond .le off, 3, aux)) (ha : am_Q a) (hb : am_Q b) (k1 : a ≤ b → am_wp d i (am_go (pc + 1) off) lv r h P) (k2 : ¬ (a ≤ b) → am_wp d i (pc + 1 + 3) lv r h P) : am_wp d i pc lv (.long (lI b) :: .long (lI a) :: r) h P := by
  refine am_s (st' := .int (lg_cmp (lI a) (lI b)) :: r) h0 rfl ?_
  by_cases hc : a ≤ b
  · exact am_bt h1 rfl (decide_eq_true ((am_lg_le _ _).mpr (fun z => Int.not_lt.mpr hc ((lI_lt hb ha).mp z)))) (k1 hc)
  · exact am_bf h1 rfl (decide_eq_false (fun z => hc (Int.not_lt.mp (fun y => (am_lg_le _ _).mp z ((lI_lt hb ha).mpr y))))) (k2 hc)
theorem s_jne {a b off : Int} {aux2 : List Nat} (h0 : am_fetch i pc = some (.lcmp, 1, aux2)) (h1 : am_fetch i (pc + 1) = some (.ifCond .ne off, 3, aux)) (ha : am_Q a) (hb : am_Q b) (k1 : ¬ a = b → am_wp d i (am_go (pc + 1) off) lv r h P) (k2 : ¬ ¬ a = b → am_wp d i (pc + 1 + 3) lv r h P) : am_wp d i pc lv (.long (lI b) :: .long (lI a) :: r) h P := by
  refine am_s (st' := .int (lg_cmp (lI a) (lI b)) :: r) h0 rfl ?_
  by_cases hc : ¬ a = b
  · exact am_bt h1 rfl (decide_eq_true (fun z => hc ((lI_eq ha hb).mp ((am_lg_eq _ _).mp z)))) (k1 hc)
  · exact am_bf h1 rfl (decide_eq_false (fun z => z ((am_lg_eq _ _).mpr ((lI_eq ha hb).mpr (Decidable.of_not_not hc))))) (k2 hc)
/-- a loop whose states are told -/
theorem s_for {d j pc : Nat} {P : Option Value → am_H → Prop} {lvf : Nat → am_L} {hf : Nat → am_H} {lo hi : Nat} (hle : lo ≤ hi) (step : ∀ k, lo ≤ k → k < hi → am_wp d j pc (lvf (k + 1)) [] (hf (k + 1)) P → am_wp d j pc (lvf k) [] (hf k) P) (fin : am_wp d j pc (lvf hi) [] (hf hi) P) : am_wp d j pc (lvf lo) [] (hf lo) P := by
  obtain ⟨m, hm⟩ : ∃ m, hi = lo + m := ⟨hi - lo, by omega⟩
  have key : ∀ q, q ≤ m → am_wp d j pc (lvf (lo + (m - q))) [] (hf (lo + (m - q))) P := by
    intro q
    induction q with
    | zero =>
      intro _
      rw [Nat.sub_zero, ← hm]
      exact fin
    | succ q ih =>
      intro hq
      refine step _ (by omega) (by omega) ?_
      have := ih (by omega)
      rw [show lo + (m - (q + 1)) + 1 = lo + (m - q) by omega]
      exact this
  have := key m (Nat.le_refl m)
  rw [Nat.sub_self, Nat.add_zero] at this
  exact this
end SRU
