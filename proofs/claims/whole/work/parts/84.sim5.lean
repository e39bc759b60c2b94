def am_isArr (comp : ClassId) (x : Class) : Bool := match x.kind with
  | .array component _ => component == comp
  | _ => false
def am_arrK (ty : FieldType) (ok : Bool) (k : Class) : Bool := match k.kind with
  | .array _ t => decide (t = ty) && ok
  | _ => false
theorem am_AO_eq (t : FieldType) (B : Array Value) (U : State) : (Cond.arrayOver (.array t)).before B U = (((U.vm.findClass (FieldType.array t).toString).bind fun comp => (U.vm.classes.findIdx? (am_isArr comp)).bind fun c => (U.vm.classes[c]?).map (am_arrK (.array t) (decide (U.vm.findClass ("[" ++ (FieldType.array t).toString) = some c)))) == some true) := rfl
theorem am_AO_moved {t : FieldType} {u U : State} (hvm : u.vm.Alike U.vm) {A B : Array Value} (h : (Cond.arrayOver (.array t)).before A u = true) : (Cond.arrayOver (.array t)).before B U = true := by
  have hfi : ∀ comp : ClassId, U.vm.classes.findIdx? (am_isArr comp) = u.vm.classes.findIdx? (am_isArr comp) := by
    intro comp
    have e1 : U.vm.bare.classes.findIdx? (am_isArr comp) = U.vm.classes.findIdx? (am_isArr comp) := va_idx_bare U.vm comp
    have e2 : u.vm.bare.classes.findIdx? (am_isArr comp) = u.vm.classes.findIdx? (am_isArr comp) := va_idx_bare u.vm comp
    rw [← e1, ← e2]
    first | rw [hvm.bare_eq] | rw [← hvm.bare_eq]
  rw [am_AO_eq] at h ⊢
  rw [hvm.findClass]
  cases hc : u.vm.findClass (FieldType.array t).toString with
  | none => rw [hc] at h; simp at h
  | some comp =>
    rw [hc] at h
    simp only [Option.bind_some] at h ⊢
    rw [hfi comp]
    cases hfx : u.vm.classes.findIdx? (am_isArr comp) with
    | none => rw [hfx] at h; simp at h
    | some c =>
      rw [hfx] at h
      simp only [Option.bind_some] at h ⊢
      cases hk : u.vm.classes[c]? with
      | none => rw [hk] at h; simp at h
      | some k =>
        rw [hk] at h
        obtain ⟨k', hk', he⟩ := hvm.2.2 _ _ hk
        rw [hk', hvm.findClass]
        have e4 : am_arrK (.array t) (decide (u.vm.findClass ("[" ++ (FieldType.array t).toString) = some c)) k' = am_arrK (.array t) (decide (u.vm.findClass ("[" ++ (FieldType.array t).toString) = some c)) k := by
          unfold am_arrK
          rw [he]
        simp only [Option.map_some] at h ⊢
        rw [e4]
        exact h
section AMW5
variable {p : Program} {l : Launch} {en : Env} {R : Room} {s : State} {m : MethodId} {args : Array Value} {below : List Frame} {meth : Method} {c : Code} {H : Heap} {locs : List Loc} {cells slots : Nat} {Q : State → Prop}
variable {D : va_G} {cy : Nat → ClassId} {b0 base pc : Nat} {q : am_M} {ls : Array Slot} {lv : am_L} {rest : List Value} {e : am_I} {st : List Value} {h : am_H} {pc' : Nat} {lv' : am_L} {st' : List Value} {h' : am_H}
theorem am_wcopy (C : am_Cx p s m args meth c D cy b0 base q) (X : am_At D cy b0 base s h H locs) (hlz : ls.size = q.2.2.1) {idx p1 p2 p3 p4 : Nat} (hdg : decode q.2.1 pc = .ok (.invokestatic idx, 3)) (hok : am_is q.1.cls idx [7, p1, p2, p3, p4] = true)
    {k0 k1 : Nat} (hk0 : k0 < h.1) (hk1 : k1 < h.1) {sp dp n : Int32} {c' : am_E} (hcp : am_cp (h.2.2 (k0 + 1)) (h.2.2 (k1 + 1)) sp dp n = some c') (hcat : am_cat rest ≤ 8) (hfr : 1 ≤ R.frames) (hlc : 60 ≤ R.locals)
    (kk : ∀ (H' : Heap) (locs' : List Loc), am_At D cy b0 base s (h.1, h.2.1, am_up h.2.2 (k1 + 1) c') H' locs' → W p l en R s m args below meth c H' locs' cells slots Q (F0 m (pc + 3) ls rest)) : W p l en R s m args below meth c H locs cells slots Q (F0 m pc ls (.int n :: .int dp :: .ref (base + k1) :: .int sp :: .ref (base + k0) :: rest)) := by
  obtain ⟨hx, hb, hml, hr, hnm, hlk, hown, hts, hnw, hK, hbb⟩ := C
  have hok : (am_wd p1 (.methodLink q.1.cls idx arraycopyName) && am_wd p2 (.native arraycopyName) && am_wd p3 (.static arraycopyName) && am_wd p4 (.initialized "java/lang/System")) = true := hok
  simp only [Bool.and_eq_true] at hok
  obtain ⟨⟨⟨o1, o2⟩, o3⟩, o4⟩ := hok
  obtain ⟨w1, v1⟩ := am_wd_spec o1
  obtain ⟨w2, v2⟩ := am_wd_spec o2
  obtain ⟨w3, v3⟩ := am_wd_spec o3
  obtain ⟨w4, v4⟩ := am_wd_spec o4
  have ha0 := X.2.1 k0 hk0
  have ha1 := X.2.1 k1 hk1
  generalize h.2.2 (k0 + 1) = e0 at ha0 hcp
  generalize h.2.2 (k1 + 1) = e1 at ha1 hcp
  unfold am_cp at hcp
  split at hcp
  · rename_i t0 n0 f t1 n1 g
    split at hcp
    · rename_i hc
      obtain ⟨ht, ht1, h1, h2, h3, h4, h5, hft⟩ := hc
      subst ht
      cases hcp
      have nn : ∀ z : Int32, ¬ z < 0 → z.toInt = (z.toNatClampNeg : Int) := by
        intro z hz
        have hz0 : (0 : Int) ≤ z.toInt := by
          have := Int32.not_lt.mp hz
          simpa using Int32.le_iff_toInt_le.mp this
        show z.toInt = ((z.toInt.toNat : Nat) : Int)
        omega
      intro T hT Xs
      have hc0 : H[base + k0]? = some (vp_cell (cy t0) (n0, .inl f)) := ha0
      have hc1 : H[base + k1]? = some (vp_cell (cy t0) (n1, .inl g)) := ha1
      have ht6 : t0 < 6 := by omega
      obtain ⟨-, ka0, hka0, cm0, hkk0⟩ := (hK.2 t0 _ (am_tys_at cy ht6)).1 n0 (fun j => .int (f j))
      obtain ⟨-, ka1, hka1, cm1, hkk1⟩ := (hK.2 t0 _ (am_tys_at cy ht6)).1 n1 (fun j => .int (g j))
      have hprim : refKind (am_ty t0) = false := by
        match t0, ht1 with
        | 0, _ => rfl
        | 1, _ => rfl
      obtain ⟨vm', X', step⟩ := Xs.arraycopy hx hown (hts _ w1 v1) (hts _ w2 v2) (hts _ w3 v3) (hts _ w4 v4) (src := base + k0) (dst := base + k1) (cs := vp_cell (cy t0) (n0, .inl f)) (cd := vp_cell (cy t0) (n1, .inl g)) (srcPos := sp) (destPos := dp) (n := n) (by rw [hT]; exact hc0) (by rw [hT]; exact hc1)
        (fun _ z => by cases z) (fun _ z => by cases z) (fun z => by cases z) (fun z => by cases z) hka0 hka1 hkk0 hkk1 (by simp [hprim]) h1 h2 h3
        (by rw [nn sp h1, nn n h3]; show ¬ _ > ((arrV (cy t0) n0 (fun j => .int (f j))).slots.size : Int); rw [arrV_size]; omega)
        (by rw [nn dp h2, nn n h3]; show ¬ _ > ((arrV (cy t0) n1 (fun j => .int (g j))).slots.size : Int); rw [arrV_size]; omega)
        (fun vm₁ _ i hi => by
          have e : (vp_cell (cy t0) (n0, .inl f)).slots.getD (sp.toNatClampNeg + i) .null = .int (f (sp.toNatClampNeg + i)) := by
            show (arrV (cy t0) n0 (fun j => .int (f j))).slots.getD _ _ = _
            rw [Array.getD_eq_getD_getElem?, arrV_read _ _ (by omega)]
            rfl
          refine ⟨?_, ?_⟩
          · rw [e]
            exact List.all_eq_true.mp hft i (List.mem_range.mpr hi)
          · rw [e]
            exact trivial)
        (g := F0 m pc ls (.int n :: .int dp :: .ref (base + k1) :: .int sp :: .ref (base + k0) :: rest)) rfl (by rw [hml]; exact hlz) (rest := rest) rfl (by rw [hb]; exact hdg) hfr (by show 2 * 0 + am_cat rest + (7 + 11) ≤ _; omega)
      have e1 : copied (vp_cell (cy t0) (n0, .inl f)) (vp_cell (cy t0) (n1, .inl g)) sp dp n = vp_cell (cy t0) (n1, .inl (va_cpy f g sp.toNatClampNeg dp.toNatClampNeg n.toNatClampNeg)) := va_copied (fun z => .int z) (cy t0) (cy t0) f g h4
      rw [e1] at X' step
      generalize hv : vp_cell (cy t0) (n1, .inl (va_cpy f g sp.toNatClampNeg dp.toNatClampNeg n.toNatClampNeg)) = cv at X' step
      have hl : base + k1 < H.size := (Array.getElem?_eq_some_iff.mp hc1).1
      have hheap : ((T.setVm vm').setCell (base + k1) cv).heap = H.setIfInBounds (base + k1) cv := by rw [← hT]; rfl
      have oq : ∀ q : Nat, q ≠ base + k1 → (H.setIfInBounds (base + k1) cv)[q]? = H[q]? := fun q hq => by simp [Array.getElem?_setIfInBounds, Ne.symm hq]
      have hst := am_At_set (i := 0) (c' := .inl (t0, n1, .inl (va_cpy f g sp.toNatClampNeg dp.toNatClampNeg n.toNatClampNeg))) hbb X (show va_at D vwCl (base + k1, _) (H.setIfInBounds (base + k1) cv) from by
        show (H.setIfInBounds (base + k1) cv)[base + k1]? = some _
        rw [← hv]
        simp [Array.getElem?_setIfInBounds, hl]) (by simp) oq
      obtain ⟨t, a1, b1⟩ := kk _ (locs ++ ((vp_cell (cy t0) (n0, .inl f)).stretch sp.toNatClampNeg n.toNatClampNeg).zipIdx.map fun q => ⟨base + k1, dp.toNatClampNeg + q.2⟩) ⟨hst.1, hst.2.1, hst.2.2.1, hst.2.2.2.1, fun z hz => by
        rcases List.mem_append.mp hz with hz | hz
        · exact X.2.2.2.2 z hz
        · obtain ⟨y, -, hy⟩ := List.mem_map.mp hz
          rw [← hy]
          exact Nat.le_add_right base k1⟩ _ hheap X'
      exact ⟨t, step t a1, b1⟩
    · cases hcp
  · cases hcp
theorem am_w21 (C : am_Cx p s m args meth c D cy b0 base q) (X : am_At D cy b0 base s h H locs) (hlz : ls.size = q.2.2.1) (hk9 : am_kind e.1 = 21) (hdg : decode q.2.1 pc = .ok (e.1, e.2.1)) (hln : am_ln e.1 = e.2.1) (hok : am_okA q pc e = true) (hp : am_d21 pc e lv st h = some (.inl (pc', lv', st', h'))) (hfr : 1 ≤ R.frames) (hlc : 60 ≤ R.locals)
    (kk : ∀ (H' : Heap) (locs' : List Loc), lv' = lv → h'.1 = h.1 → h'.2.1 = h.2.1 → am_At D cy b0 base s h' H' locs' → W p l en R s m args below meth c H' locs' cells slots Q (F0 m pc' ls (am_sm (am_t b0 base) st'))) : W p l en R s m args below meth c H locs cells slots Q (F0 m pc ls (am_sm (am_t b0 base) st)) := by
  obtain ⟨ins, len, aux⟩ := e
  simp only at hdg hln hk9
  subst hln
  have nocall : ∀ {j n : Nat} {ok : List Value → Bool} {st : List Value}, am_call j n ok st = some (.inl (pc', lv', st', h')) → False := by
    intro j n ok st hz
    unfold am_call at hz
    split at hz <;> cases hz
  unfold am_d21 at hp
  simp only at hp
  split at hp
  · rename_i p1 p2 p3
    split at hp
    · rename_i a r
      split at hp
      · rename_i hcat
        cases hp
        have k1 := kk H locs rfl rfl rfl X
        obtain ⟨hx, hb, hml, hr, hnm, hlk, hown, hts, hnw, hK, hbb⟩ := C
        cases ins <;> try (simp [am_kind] at hk9; done)
        case invokespecial idx =>
          have hok : (am_wd p1 (.methodLink q.1.cls idx objectInit) && am_wd p2 (.instanceMethod objectInit) && am_wd p3 (.code objectInit ⟨#[0xb1]⟩ 1 none)) = true := hok
          simp only [Bool.and_eq_true] at hok
          obtain ⟨⟨o1, o2⟩, o3⟩ := hok
          obtain ⟨w1, v1⟩ := am_wd_spec o1
          obtain ⟨w2, v2⟩ := am_wd_spec o2
          obtain ⟨w3, v3⟩ := am_wd_spec o3
          have hcat2 := am_sm_cat (am_t b0 base) st'
          refine W.objInit hx hb hown (hts _ w1 v1) (hts _ w2 v2) (hts _ w3 v3) rfl (by rw [hml]; exact hlz) rfl hdg hfr (by show 2 * 0 + am_cat (am_sm (am_t b0 base) st') + 12 ≤ _; omega) ?_
          exact k1
        case invokestatic idx => exact absurd hok (by simp [am_okA, am_is])
        case invokevirtual idx => exact absurd hok (by simp [am_okA, am_iv])
      · cases hp
    · cases hp
  · rename_i p1 p2 p3 p4
    split at hp
    · rename_i n dp a sp a0 r
      split at hp
      · rename_i hc
        obtain ⟨c1, c2, c3, c4, hcat⟩ := hc
        match a, a0, c1, c2, c3, c4, hp with
        | a + 1, a0 + 1, c1, c2, c3, c4, hp =>
          cases hcp : am_cp (h.2.2 (a0 + 1)) (h.2.2 (a + 1)) sp dp n with
          | none => rw [hcp] at hp; cases hp
          | some c' =>
            rw [hcp] at hp
            cases hp
            cases ins <;> try (simp [am_kind] at hk9; done)
            case invokestatic idx =>
              exact am_wcopy C X hlz hdg hok c2 c4 hcp (by show am_cat (am_sm _ _) ≤ 8; rw [am_sm_cat]; exact hcat) hfr hlc (fun H' locs' hX => kk H' locs' rfl rfl rfl hX)
            case invokespecial idx => exact absurd hok (by simp [am_okA, am_ix])
            case invokevirtual idx => exact absurd hok (by simp [am_okA, am_iv])
      · cases hp
    · cases hp
  · exact absurd hp (fun z => nocall z)
  · exact absurd hp (fun z => nocall z)
  · exact absurd hp (fun z => nocall z)
  · exact absurd hp (fun z => nocall z)
  · cases hp
end AMW5
