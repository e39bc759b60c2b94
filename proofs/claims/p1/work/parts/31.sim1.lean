theorem am_isI_spec {o : Option Value} {v : Value} (h : am_isI o = some v) : ∃ x, o = some (.int x) ∧ v = .int x := by
  match o, h with
  | some (.int x), h => exact ⟨x, rfl, (Option.some.inj h).symm⟩
theorem am_isJ_spec {o : Option Value} {v : Value} (h : am_isJ o = some v) : ∃ x, o = some (.long x) ∧ v = .long x := by
  match o, h with
  | some (.long x), h => exact ⟨x, rfl, (Option.some.inj h).symm⟩
theorem am_isA_spec {o : Option Value} {v : Value} (h : am_isA o = some v) : ∃ x, o = some (.ref x) ∧ v = .ref x := by
  match o, h with
  | some (.ref x), h => exact ⟨x, rfl, (Option.some.inj h).symm⟩
theorem am_go_ok {pc : Nat} {off : Int} (h : 0 ≤ (pc : Int) + off) : (pc : Int) + off = (am_go pc off : Int) := by
  unfold am_go
  omega
section AMW
variable {p : Program} {l : Launch} {en : Env} {R : Room} {s : State} {m : MethodId} {args : Array Value} {below : List Frame} {meth : Method} {c : Code} {H : Heap} {locs : List Loc} {cells slots : Nat} {Q : State → Prop}
variable {D : va_G} {cy : Nat → ClassId} {b0 base pc : Nat} {q : am_M} {ls : Array Slot} {lv : am_L} {rest : List Value} {e : am_I}
theorem am_w0 (C : am_Cx p s m args meth c D cy b0 base q) (hdg : decode q.2.1 pc = .ok (e.1, e.2.1)) (hln : am_ln e.1 = e.2.1) (hok : am_okA q pc e = true) (hl : lv_has ls q.2.2.1 (am_lm (am_t b0 base) lv)) {v : Value} (hp : am_push e.1 e.2.2 lv = some v)
    (kk : W p l en R s m args below meth c H locs cells slots Q (F0 m (pc + e.2.1) ls (am_v (am_t b0 base) v :: rest))) : W p l en R s m args below meth c H locs cells slots Q (F0 m pc ls rest) := by
  obtain ⟨ins, len, aux⟩ := e
  obtain ⟨hx, hb, hml, hr, hnm, hlk, hown, hts, hnw, hK, hbb⟩ := C
  simp only at hdg hln hok hp kk
  subst hln
  cases ins <;> try (simp [am_push] at hp; done)
  case iconst k => cases hp; exact lv_iconst hx hb hdg rfl kk
  case bipush k => cases hp; exact lv_bipush hx hb hdg rfl kk
  case sipush k => cases hp; exact lv_sipush hx hb hdg rfl kk
  case lconst k => cases hp; exact lv_lconst hx hb hdg rfl kk
  case ldc k =>
    match aux, hp, hok with
    | [pos, w], hp, hok => cases hp; exact lv_ldc hx hb hown (hts _ (am_wd_spec hok).1 (am_wd_spec hok).2) hdg kk
  case ldc_w k =>
    match aux, hp, hok with
    | [pos, w], hp, hok => cases hp; exact lv_ldcw hx hb hown (hts _ (am_wd_spec hok).1 (am_wd_spec hok).2) hdg kk
  case ldc2_w k =>
    match aux, hp, hok with
    | [pos, w], hp, hok => cases hp; exact lv_ldc2 hx hb hown (hts _ (am_wd_spec hok).1 (am_wd_spec hok).2) hdg kk
  case iload k =>
    obtain ⟨x, h1, rfl⟩ := am_isI_spec hp
    exact lv_iload hx hb hdg (am_ld_has hl h1) kk
  case iload_n k =>
    obtain ⟨x, h1, rfl⟩ := am_isI_spec hp
    exact lv_iload_n hx hb hdg rfl (am_ld_has hl h1) kk
  case lload k =>
    obtain ⟨x, h1, rfl⟩ := am_isJ_spec hp
    exact lv_lload hx hb hdg (am_ld_has hl h1) kk
  case lload_n k =>
    obtain ⟨x, h1, rfl⟩ := am_isJ_spec hp
    exact lv_lload_n hx hb hdg rfl (am_ld_has hl h1) kk
  case aload k =>
    obtain ⟨x, h1, rfl⟩ := am_isA_spec hp
    exact lv_aload hx hb hdg (am_ld_has hl h1) kk
  case aload_n k =>
    obtain ⟨x, h1, rfl⟩ := am_isA_spec hp
    exact lv_aload_n hx hb hdg rfl (am_ld_has hl h1) kk
theorem am_w1 (C : am_Cx p s m args meth c D cy b0 base q) (hdg : decode q.2.1 pc = .ok (e.1, e.2.1)) (hln : am_ln e.1 = e.2.1) (hok : am_okA q pc e = true) (hl : lv_has ls q.2.2.1 (am_lm (am_t b0 base) lv)) {st : List Value} {h : am_H} {nx : am_N} (hp : am_d1 pc e lv st h = some nx)
    (kk : ∀ (ls' : Array Slot) (pc' : Nat) (lv' : am_L) (st' : List Value), nx = .inl (pc', lv', st', h) → lv_has ls' q.2.2.1 (am_lm (am_t b0 base) lv') → W p l en R s m args below meth c H locs cells slots Q (F0 m pc' ls' (am_sm (am_t b0 base) st'))) : W p l en R s m args below meth c H locs cells slots Q (F0 m pc ls (am_sm (am_t b0 base) st)) := by
  obtain ⟨ins, len, aux⟩ := e
  obtain ⟨hx, hb, hml, hr, hnm, hlk, hown, hts, hnw, hK, hbb⟩ := C
  simp only at hdg hln hok hp kk
  subst hln
  unfold am_d1 at hp
  simp only at hp
  split at hp
  · rename_i k x r hs
    cases hp
    cases ins <;> try (simp [am_isStore] at hs; done)
    case istore i => cases hs; exact lv_istore hx hb hdg hl (of_decide_eq_true hok) (am_st1_map _ lv _ (.int x)) (fun ls' hl' => kk ls' _ _ _ rfl hl')
    case istore_n i => cases hs; exact lv_istore_n hx hb hdg rfl hl (of_decide_eq_true hok) (am_st1_map _ lv _ (.int x)) (fun ls' hl' => kk ls' _ _ _ rfl hl')
  · rename_i k x r hs
    cases hp
    cases ins <;> try (simp [am_isStore] at hs; done)
    case lstore i => cases hs; exact lv_lstore hx hb hdg hl (of_decide_eq_true hok) (am_st2_map _ lv _ (.long x)) (fun ls' hl' => kk ls' _ _ _ rfl hl')
    case lstore_n i => cases hs; exact lv_lstore_n hx hb hdg rfl hl (of_decide_eq_true hok) (am_st2_map _ lv _ (.long x)) (fun ls' hl' => kk ls' _ _ _ rfl hl')
  · rename_i k x r hs
    cases hp
    cases ins <;> try (simp [am_isStore] at hs; done)
    case astore i => cases hs; exact lv_astore hx hb hdg hl (of_decide_eq_true hok) (am_st1_map _ lv _ (.ref x)) (fun ls' hl' => kk ls' _ _ _ rfl hl')
    case astore_n i => cases hs; exact lv_astore_n hx hb hdg rfl hl (of_decide_eq_true hok) (am_st1_map _ lv _ (.ref x)) (fun ls' hl' => kk ls' _ _ _ rfl hl')
  · cases hp
theorem am_w2 (C : am_Cx p s m args meth c D cy b0 base q) (hdg : decode q.2.1 pc = .ok (e.1, e.2.1)) (hln : am_ln e.1 = e.2.1) {x y z : Int32} (hp : am_ii e.1 x y = some z)
    (kk : W p l en R s m args below meth c H locs cells slots Q (F0 m (pc + e.2.1) ls (.int z :: rest))) : W p l en R s m args below meth c H locs cells slots Q (F0 m pc ls (.int y :: .int x :: rest)) := by
  obtain ⟨ins, len, aux⟩ := e
  obtain ⟨hx, hb, hml, hr, hnm, hlk, hown, hts, hnw, hK, hbb⟩ := C
  simp only at hdg hln hp kk
  subst hln
  cases ins <;> try (simp [am_ii] at hp; done)
  case iadd => cases hp; exact lv_iadd hx hb hdg kk
  case isub => cases hp; exact lv_isub hx hb hdg kk
  case imul => cases hp; exact lv_imul hx hb hdg kk
  case iand => cases hp; exact lv_iand hx hb hdg kk
  case ior => cases hp; exact lv_ior hx hb hdg kk
  case ixor => cases hp; exact lv_ixor hx hb hdg kk
  case ishl => cases hp; exact lv_ishl hx hb hdg kk
  case ishr => cases hp; exact lv_ishr hx hb hdg kk
  case iushr => cases hp; exact lv_iushr hx hb hdg rfl kk
  case idiv =>
    simp only [am_ii] at hp
    split at hp
    · cases hp
    · rename_i hne
      cases hp; exact lv_idiv hx hb hdg hne kk
  case irem =>
    simp only [am_ii] at hp
    split at hp
    · cases hp
    · rename_i hne
      cases hp; exact lv_irem hx hb hdg hne kk
theorem am_w3 (C : am_Cx p s m args meth c D cy b0 base q) (hdg : decode q.2.1 pc = .ok (e.1, e.2.1)) (hln : am_ln e.1 = e.2.1) {x y : Int64} {z : Value} (hp : am_jj e.1 x y = some z)
    (kk : W p l en R s m args below meth c H locs cells slots Q (F0 m (pc + e.2.1) ls (am_v (am_t b0 base) z :: rest))) : W p l en R s m args below meth c H locs cells slots Q (F0 m pc ls (.long y :: .long x :: rest)) := by
  obtain ⟨ins, len, aux⟩ := e
  obtain ⟨hx, hb, hml, hr, hnm, hlk, hown, hts, hnw, hK, hbb⟩ := C
  simp only at hdg hln hp kk
  subst hln
  cases ins <;> try (simp [am_jj] at hp; done)
  case ladd => cases hp; exact lv_ladd hx hb hdg kk
  case lsub => cases hp; exact lv_lsub hx hb hdg kk
  case lmul => cases hp; exact lv_lmul hx hb hdg kk
  case land => cases hp; exact lv_land hx hb hdg kk
  case lor => cases hp; exact lv_lor hx hb hdg kk
  case lxor => cases hp; exact lv_lxor hx hb hdg kk
  case lcmp => cases hp; exact W.lcmp hx hb hdg kk
  case ldiv =>
    simp only [am_jj] at hp
    split at hp
    · cases hp
    · rename_i hne
      cases hp; exact lv_ldiv hx hb hdg hne kk
  case lrem =>
    simp only [am_jj] at hp
    split at hp
    · cases hp
    · rename_i hne
      cases hp; exact lv_lrem hx hb hdg hne kk
theorem am_w4 (C : am_Cx p s m args meth c D cy b0 base q) (hdg : decode q.2.1 pc = .ok (e.1, e.2.1)) (hln : am_ln e.1 = e.2.1) {x z : Int64} {y : Int32} (hp : am_ji e.1 x y = some z)
    (kk : W p l en R s m args below meth c H locs cells slots Q (F0 m (pc + e.2.1) ls (.long z :: rest))) : W p l en R s m args below meth c H locs cells slots Q (F0 m pc ls (.int y :: .long x :: rest)) := by
  obtain ⟨ins, len, aux⟩ := e
  obtain ⟨hx, hb, hml, hr, hnm, hlk, hown, hts, hnw, hK, hbb⟩ := C
  simp only at hdg hln hp kk
  subst hln
  cases ins <;> try (simp [am_ji] at hp; done)
  case lshl => cases hp; exact lv_lshl hx hb hdg rfl kk
  case lshr => cases hp; exact lv_lshr hx hb hdg rfl kk
  case lushr => cases hp; exact lv_lushr hx hb hdg rfl kk
theorem am_w5 (C : am_Cx p s m args meth c D cy b0 base q) (hdg : decode q.2.1 pc = .ok (e.1, e.2.1)) (hln : am_ln e.1 = e.2.1) {x : Int32} {z : Value} (hp : am_i1 e.1 x = some z)
    (kk : W p l en R s m args below meth c H locs cells slots Q (F0 m (pc + e.2.1) ls (am_v (am_t b0 base) z :: rest))) : W p l en R s m args below meth c H locs cells slots Q (F0 m pc ls (.int x :: rest)) := by
  obtain ⟨ins, len, aux⟩ := e
  obtain ⟨hx, hb, hml, hr, hnm, hlk, hown, hts, hnw, hK, hbb⟩ := C
  simp only at hdg hln hp kk
  subst hln
  cases ins <;> try (simp [am_i1] at hp; done)
  case ineg => cases hp; exact lv_ineg hx hb hdg kk
  case i2l => cases hp; exact lv_i2l hx hb hdg rfl kk
  case i2b => cases hp; exact lv_i2b hx hb hdg rfl kk
  case i2s => cases hp; exact lv_i2s hx hb hdg rfl kk
  case i2c => cases hp; exact lv_i2c hx hb hdg rfl kk
theorem am_w6 (C : am_Cx p s m args meth c D cy b0 base q) (hdg : decode q.2.1 pc = .ok (e.1, e.2.1)) (hln : am_ln e.1 = e.2.1) {x : Int64} {z : Value} (hp : am_j1 e.1 x = some z)
    (kk : W p l en R s m args below meth c H locs cells slots Q (F0 m (pc + e.2.1) ls (am_v (am_t b0 base) z :: rest))) : W p l en R s m args below meth c H locs cells slots Q (F0 m pc ls (.long x :: rest)) := by
  obtain ⟨ins, len, aux⟩ := e
  obtain ⟨hx, hb, hml, hr, hnm, hlk, hown, hts, hnw, hK, hbb⟩ := C
  simp only at hdg hln hp kk
  subst hln
  cases ins <;> try (simp [am_j1] at hp; done)
  case lneg => cases hp; exact lv_lneg hx hb hdg kk
  case l2i => cases hp; exact lv_l2i hx hb hdg rfl kk
end AMW
