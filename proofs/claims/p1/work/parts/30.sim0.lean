/-! how the small machine's values and cells lie in the heap: cell k + 1 at base + k, 0 is the script at b0 -/
def am_t (b0 base : Nat) : Nat → Nat
  | 0 => b0
  | k + 1 => base + k
def am_v (t : Nat → Nat) : Value → Value
  | .ref k => .ref (t k)
  | v => v
def am_e (t : Nat → Nat) (cy : Nat → ClassId) : am_E → va_E
  | .inl (g, n, .inl f) => .inl (cy g, n, .inl f)
  | .inl (g, n, .inr (.inl f)) => .inl (cy g, n, .inr (.inl f))
  | .inl (g, n, .inr (.inr (.inl f))) => .inl (cy g, n, .inr (.inr (.inl f)))
  | .inl (g, n, .inr (.inr (.inr (.inl f)))) => .inl (cy g, n, .inr (.inr (.inr (.inl f))))
  | .inl (g, n, .inr (.inr (.inr (.inr f)))) => .inl (cy g, n, .inr (.inr (.inr (.inr (fun i => (f i).map t)))))
  | .inr (ci, fs) => .inr (ci, fs.map (am_v t))
def am_sm (t : Nat → Nat) (st : List Value) : List Value := st.map (am_v t)
def am_lm (t : Nat → Nat) (lv : am_L) : am_L := lv.map (fun q => (q.1, am_v t q.2))
theorem am_v_cat (t : Nat → Nat) (v : Value) : (am_v t v).category = v.category := by cases v <;> rfl
theorem am_sm_cat (t : Nat → Nat) (st : List Value) : am_cat (am_sm t st) = am_cat st := by
  unfold am_cat am_sm
  rw [List.map_map]
  congr 1
  apply List.map_congr_left
  intro v _
  exact am_v_cat t v
def am_tys (cy : Nat → ClassId) : List (ClassId × FieldType) := [(cy 0, .byte), (cy 1, .int), (cy 2, .long), (cy 3, .boolean), (cy 4, .array .int), (cy 5, .array .long)]
theorem am_tys_at (cy : Nat → ClassId) {k : Nat} (h : k < 6) : (am_tys cy)[k]? = some (cy k, am_ty k) := by
  match k, h with
  | 0, _ => rfl
  | 1, _ => rfl
  | 2, _ => rfl
  | 3, _ => rfl
  | 4, _ => rfl
  | 5, _ => rfl
def am_nw : Jvm.Cond → Bool
  | .methodLinkNest _ _ _ _ => true
  | .fieldLinkNest _ _ _ _ _ _ => true
  | .arrayOver (.array _) => true
  | _ => false
abbrev am_M : Type := MethodName × ByteArray × Nat × Option FieldType
/-- where a method of the table stands: its machine, its words, the kinds of cells -/
def am_Cx (p : Program) (s : State) (m : MethodId) (args : Array Value) (meth : Method) (c : Code) (D : va_G) (cy : Nat → ClassId) (b0 base : Nat) (q : am_M) : Prop :=
  p.tables.exec = Jvm.exec ∧ c.code = q.2.1 ∧ c.maxLocals = q.2.2.1 ∧ meth.sig.returnType = q.2.2.2 ∧ (q.1.name = "<init>" → meth.name = "<init>") ∧ meth.locks = false ∧ s.vm.findClass q.1.cls = some m.cls ∧ (∀ w ∈ lw_tbl, goodWord w = true → w.before args s = true) ∧ (∀ w ∈ lw_tbl, am_nw w = true → w.before args s = true) ∧ va_K D vwCl (am_tys cy) s ∧ b0 < base
/-- the heap holds the cells; below base nothing was written since s -/
def am_At (D : va_G) (cy : Nat → ClassId) (b0 base : Nat) (s : State) (h : am_H) (H : Heap) (locs : List Loc) : Prop :=
  H.size = base + h.1 ∧ (∀ k, k < h.1 → va_at D vwCl (base + k, am_e (am_t b0 base) cy (h.2.2 (k + 1))) H) ∧ (∃ (L : Nat) (xs : Nat → Int32), h.2.2 0 = .inl (1, L, .inl xs) ∧ va_X b0 L xs s H) ∧ (∀ q, q < base → H[q]? = s.heap[q]?) ∧ ∀ l ∈ locs, base ≤ l.base
theorem am_wd_spec {pos : Nat} {w : Jvm.Cond} (h : am_wd pos w = true) : w ∈ lw_tbl ∧ goodWord w = true := by
  unfold am_wd at h
  rw [Bool.and_eq_true] at h
  exact ⟨List.mem_of_getElem? (of_decide_eq_true h.1), h.2⟩
theorem am_ld_mem {lv : am_L} {i : Nat} {v : Value} (h : am_ld lv i = some v) : (i, v) ∈ lv := by
  unfold am_ld at h
  cases hf : lv.find? (fun q => q.1 == i) with
  | none => rw [hf] at h; cases h
  | some q =>
    rw [hf] at h
    have h1 := List.find?_some hf
    have h2 := List.mem_of_find?_eq_some hf
    have h3 : q.1 = i := by simpa using h1
    have h4 : q.2 = v := by simpa using h
    rw [← h3, ← h4]
    exact h2
theorem am_ld_has {t : Nat → Nat} {ls : Array Slot} {nL : Nat} {lv : am_L} {i : Nat} {v : Value} (hl : lv_has ls nL (am_lm t lv)) (h : am_ld lv i = some v) : ls[i]? = some (.val (am_v t v)) :=
  hl.2.2 (i, am_v t v) (List.mem_map.mpr ⟨(i, v), am_ld_mem h, rfl⟩)
theorem am_st1_map (t : Nat → Nat) (lv : am_L) (i : Nat) (v : Value) : (i, am_v t v) :: (am_lm t lv).filter (fun q => !(q.1 == i) && !(q.1 + 1 == i && q.2.category == 2)) = am_lm t (am_st1 lv i v) := by
  unfold am_st1 am_lm
  rw [List.map_cons, List.filter_map]
  congr 2
  apply List.filter_congr
  intro q _
  simp [Function.comp, am_v_cat]
theorem am_st2_map (t : Nat → Nat) (lv : am_L) (i : Nat) (v : Value) : (i, am_v t v) :: (am_lm t lv).filter (fun q => !(q.1 == i) && (!(q.1 == i + 1) && !(q.1 + 1 == i && q.2.category == 2))) = am_lm t (am_st2 lv i v) := by
  unfold am_st2 am_lm
  rw [List.map_cons, List.filter_map]
  congr 2
  apply List.filter_congr
  intro q _
  simp [Function.comp, am_v_cat]
theorem am_lm_at {t : Nat → Nat} {lv : am_L} {i : Nat} {v : Value} (h : am_ld lv i = some v) : ∃ k : Nat, (am_lm t lv)[k]? = some (i, am_v t v) :=
  List.getElem?_of_mem (List.mem_map.mpr ⟨(i, v), am_ld_mem h, rfl⟩)
theorem am_lm_args (t : Nat → Nat) (as : List Value) : ∀ k, lv_args k (am_sm t as) = am_lm t (lv_args k as) := by
  induction as with
  | nil => intro k; rfl
  | cons v vs ih =>
    intro k
    show (k, am_v t v) :: lv_args (if (am_v t v).category = 2 then k + 2 else k + 1) (am_sm t vs) = _
    rw [am_v_cat, ih]
    rfl
