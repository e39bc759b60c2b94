theorem am_P1 {D : va_G} {cl : List vw_C} {x : Nat × va_E} {H : Heap} (h : va_at D cl x H) : va_P D cl [x] H := fun k q hq => by
  match k, hq with
  | 0, hq => cases hq; exact h
theorem am_idx_in {i : Int32} {n : Nat} (h : am_idx i n = true) : vp_in i n := by
  unfold am_idx at h
  unfold vp_in
  simpa using h
section AMW2
variable {p : Program} {l : Launch} {en : Env} {R : Room} {s : State} {m : MethodId} {args : Array Value} {below : List Frame} {meth : Method} {c : Code} {H : Heap} {locs : List Loc} {cells slots : Nat} {Q : State → Prop}
variable {D : va_G} {cy : Nat → ClassId} {b0 base pc : Nat} {q : am_M} {ls : Array Slot} {lv : am_L} {rest : List Value} {e : am_I} {st : List Value} {h : am_H} {nx : am_N}
theorem am_w7 (C : am_Cx p s m args meth c D cy b0 base q) (hdg : decode q.2.1 pc = .ok (e.1, e.2.1)) (hln : am_ln e.1 = e.2.1) (hok : am_okA q pc e = true) (hl : lv_has ls q.2.2.1 (am_lm (am_t b0 base) lv)) (hp : am_d7 pc e lv st h = some nx)
    (kk : ∀ (ls' : Array Slot) (pc' : Nat) (lv' : am_L) (st' : List Value), nx = .inl (pc', lv', st', h) → lv_has ls' q.2.2.1 (am_lm (am_t b0 base) lv') → W p l en R s m args below meth c H locs cells slots Q (F0 m pc' ls' (am_sm (am_t b0 base) st'))) : W p l en R s m args below meth c H locs cells slots Q (F0 m pc ls (am_sm (am_t b0 base) st)) := by
  obtain ⟨ins, len, aux⟩ := e
  obtain ⟨hx, hb, hml, hr, hnm, hlk, hown, hts, hnw, hK, hbb⟩ := C
  simp only at hdg hln hok
  subst hln
  unfold am_d7 at hp
  simp only at hp
  split at hp
  · rename_i cd off x r
    cases hp
    have k1 := kk ls _ _ _ rfl hl
    have h0 := am_go_ok (of_decide_eq_true hok)
    cases cd
    · refine lv_if_eq hx hb hdg h0 (fun hc => ?_) (fun hc => ?_)
      · rw [if_pos (show am_c1 .eq x = true from decide_eq_true hc)] at k1; exact k1
      · rw [if_neg (show ¬ am_c1 .eq x = true from fun z => hc (of_decide_eq_true z))] at k1; exact k1
    · refine lv_if_ne hx hb hdg h0 (fun hc => ?_) (fun hc => ?_)
      · rw [if_pos (show am_c1 .ne x = true from decide_eq_true hc)] at k1; exact k1
      · rw [if_neg (show ¬ am_c1 .ne x = true from fun z => (of_decide_eq_true z) hc)] at k1; exact k1
    · refine lv_if_lt hx hb hdg h0 (fun hc => ?_) (fun hc => ?_)
      · rw [if_pos (show am_c1 .lt x = true from decide_eq_true hc)] at k1; exact k1
      · rw [if_neg (show ¬ am_c1 .lt x = true from fun z => hc (of_decide_eq_true z))] at k1; exact k1
    · refine lv_if_ge hx hb hdg h0 (fun hc => ?_) (fun hc => ?_)
      · rw [if_pos (show am_c1 .ge x = true from decide_eq_true hc)] at k1; exact k1
      · rw [if_neg (show ¬ am_c1 .ge x = true from fun z => hc (of_decide_eq_true z))] at k1; exact k1
    · refine lv_if_gt hx hb hdg h0 (fun hc => ?_) (fun hc => ?_)
      · rw [if_pos (show am_c1 .gt x = true from decide_eq_true hc)] at k1; exact k1
      · rw [if_neg (show ¬ am_c1 .gt x = true from fun z => hc (of_decide_eq_true z))] at k1; exact k1
    · refine lv_if_le hx hb hdg h0 (fun hc => ?_) (fun hc => ?_)
      · rw [if_pos (show am_c1 .le x = true from decide_eq_true hc)] at k1; exact k1
      · rw [if_neg (show ¬ am_c1 .le x = true from fun z => hc (of_decide_eq_true z))] at k1; exact k1
  · cases hp
theorem am_w8 (C : am_Cx p s m args meth c D cy b0 base q) (hdg : decode q.2.1 pc = .ok (e.1, e.2.1)) (hln : am_ln e.1 = e.2.1) (hok : am_okA q pc e = true) (hl : lv_has ls q.2.2.1 (am_lm (am_t b0 base) lv)) (hp : am_d8 pc e lv st h = some nx)
    (kk : ∀ (ls' : Array Slot) (pc' : Nat) (lv' : am_L) (st' : List Value), nx = .inl (pc', lv', st', h) → lv_has ls' q.2.2.1 (am_lm (am_t b0 base) lv') → W p l en R s m args below meth c H locs cells slots Q (F0 m pc' ls' (am_sm (am_t b0 base) st'))) : W p l en R s m args below meth c H locs cells slots Q (F0 m pc ls (am_sm (am_t b0 base) st)) := by
  obtain ⟨ins, len, aux⟩ := e
  obtain ⟨hx, hb, hml, hr, hnm, hlk, hown, hts, hnw, hK, hbb⟩ := C
  simp only at hdg hln hok
  subst hln
  unfold am_d8 at hp
  simp only at hp
  split at hp
  · rename_i cd off y x r
    cases hp
    have k1 := kk ls _ _ _ rfl hl
    have h0 := am_go_ok (of_decide_eq_true hok)
    cases cd
    · refine lv_icmp_eq hx hb hdg h0 (fun hc => ?_) (fun hc => ?_)
      · rw [if_pos (show am_c2 .eq x y = true from decide_eq_true hc)] at k1; exact k1
      · rw [if_neg (show ¬ am_c2 .eq x y = true from fun z => hc (of_decide_eq_true z))] at k1; exact k1
    · refine lv_icmp_ne hx hb hdg h0 (fun hc => ?_) (fun hc => ?_)
      · rw [if_pos (show am_c2 .ne x y = true from decide_eq_true hc)] at k1; exact k1
      · rw [if_neg (show ¬ am_c2 .ne x y = true from fun z => (of_decide_eq_true z) hc)] at k1; exact k1
    · refine lv_icmp_lt hx hb hdg h0 (fun hc => ?_) (fun hc => ?_)
      · rw [if_pos (show am_c2 .lt x y = true from decide_eq_true hc)] at k1; exact k1
      · rw [if_neg (show ¬ am_c2 .lt x y = true from fun z => hc (of_decide_eq_true z))] at k1; exact k1
    · refine lv_icmp_ge hx hb hdg h0 (fun hc => ?_) (fun hc => ?_)
      · rw [if_pos (show am_c2 .ge x y = true from decide_eq_true hc)] at k1; exact k1
      · rw [if_neg (show ¬ am_c2 .ge x y = true from fun z => hc (of_decide_eq_true z))] at k1; exact k1
    · refine lv_icmp_gt hx hb hdg h0 (fun hc => ?_) (fun hc => ?_)
      · rw [if_pos (show am_c2 .gt x y = true from decide_eq_true hc)] at k1; exact k1
      · rw [if_neg (show ¬ am_c2 .gt x y = true from fun z => hc (of_decide_eq_true z))] at k1; exact k1
    · refine lv_icmp_le hx hb hdg h0 (fun hc => ?_) (fun hc => ?_)
      · rw [if_pos (show am_c2 .le x y = true from decide_eq_true hc)] at k1; exact k1
      · rw [if_neg (show ¬ am_c2 .le x y = true from fun z => hc (of_decide_eq_true z))] at k1; exact k1
  · cases hp
theorem am_w9 (C : am_Cx p s m args meth c D cy b0 base q) (hdg : decode q.2.1 pc = .ok (e.1, e.2.1)) (hln : am_ln e.1 = e.2.1) (hok : am_okA q pc e = true) (hl : lv_has ls q.2.2.1 (am_lm (am_t b0 base) lv)) (hp : am_d9 pc e lv st h = some nx)
    (kk : ∀ (ls' : Array Slot) (pc' : Nat) (lv' : am_L) (st' : List Value), nx = .inl (pc', lv', st', h) → lv_has ls' q.2.2.1 (am_lm (am_t b0 base) lv') → W p l en R s m args below meth c H locs cells slots Q (F0 m pc' ls' (am_sm (am_t b0 base) st'))) : W p l en R s m args below meth c H locs cells slots Q (F0 m pc ls (am_sm (am_t b0 base) st)) := by
  obtain ⟨ins, len, aux⟩ := e
  obtain ⟨hx, hb, hml, hr, hnm, hlk, hown, hts, hnw, hK, hbb⟩ := C
  simp only at hdg hln hok
  subst hln
  unfold am_d9 at hp
  simp only at hp
  split at hp
  · cases hp
    exact lv_goto hx hb hdg (am_go_ok (of_decide_eq_true hok)) (kk ls _ _ _ rfl hl)
  · cases hp
theorem am_w10 (C : am_Cx p s m args meth c D cy b0 base q) (hdg : decode q.2.1 pc = .ok (e.1, e.2.1)) (hok : am_okA q pc e = true) (hl : lv_has ls q.2.2.1 (am_lm (am_t b0 base) lv)) (hp : am_d10 pc e lv st h = some nx)
    (kk : ∀ (ls' : Array Slot) (pc' : Nat) (lv' : am_L) (st' : List Value), nx = .inl (pc', lv', st', h) → lv_has ls' q.2.2.1 (am_lm (am_t b0 base) lv') → W p l en R s m args below meth c H locs cells slots Q (F0 m pc' ls' (am_sm (am_t b0 base) st'))) : W p l en R s m args below meth c H locs cells slots Q (F0 m pc ls (am_sm (am_t b0 base) st)) := by
  obtain ⟨ins, len, aux⟩ := e
  obtain ⟨hx, hb, hml, hr, hnm, hlk, hown, hts, hnw, hK, hbb⟩ := C
  simp only at hdg hok
  unfold am_d10 at hp
  simp only at hp
  split at hp
  · rename_i d lo hi offs x r
    have hok : (decide (0 ≤ (pc : Int) + d) && offs.toList.all (fun o => decide (0 ≤ (pc : Int) + o))) = true := hok
    rw [Bool.and_eq_true] at hok
    split at hp
    · rename_i ho
      cases hp
      exact lv_tableOut hx hb hdg ho (am_go_ok (of_decide_eq_true hok.1)) (kk ls _ _ _ rfl hl)
    · rename_i ho
      split at hp
      · rename_i o hoo
        cases hp
        have h3 := of_decide_eq_true (List.all_eq_true.mp hok.2 o (List.mem_of_getElem? hoo))
        exact lv_tableIn hx hb hdg (fun z => ho (Or.inl z)) (fun z => ho (Or.inr z)) (by rw [← Array.getElem?_toList]; exact hoo) (am_go_ok h3) (kk ls _ _ _ rfl hl)
      · cases hp
  · cases hp
theorem am_w11 (C : am_Cx p s m args meth c D cy b0 base q) (hdg : decode q.2.1 pc = .ok (e.1, e.2.1)) (hln : am_ln e.1 = e.2.1) (hok : am_okA q pc e = true) (hl : lv_has ls q.2.2.1 (am_lm (am_t b0 base) lv)) (hp : am_d11 pc e lv st h = some nx)
    (kk : ∀ (ls' : Array Slot) (pc' : Nat) (lv' : am_L) (st' : List Value), nx = .inl (pc', lv', st', h) → lv_has ls' q.2.2.1 (am_lm (am_t b0 base) lv') → W p l en R s m args below meth c H locs cells slots Q (F0 m pc' ls' (am_sm (am_t b0 base) st'))) : W p l en R s m args below meth c H locs cells slots Q (F0 m pc ls (am_sm (am_t b0 base) st)) := by
  obtain ⟨ins, len, aux⟩ := e
  obtain ⟨hx, hb, hml, hr, hnm, hlk, hown, hts, hnw, hK, hbb⟩ := C
  simp only at hdg hln hok
  subst hln
  unfold am_d11 at hp
  simp only at hp
  split at hp
  · rename_i k n
    split at hp
    · rename_i x hld
      cases hp
      obtain ⟨j, hj⟩ := am_lm_at (t := am_t b0 base) hld
      exact lv_iinc hx hb hdg hl hj rfl (of_decide_eq_true hok) (am_st1_map _ lv _ (.int (x + Int32.ofInt n))) (fun ls' hl' => kk ls' _ _ _ rfl hl')
    · cases hp
  · cases hp
theorem am_w12 (C : am_Cx p s m args meth c D cy b0 base q) (hdg : decode q.2.1 pc = .ok (e.1, e.2.1)) (hln : am_ln e.1 = e.2.1) (hl : lv_has ls q.2.2.1 (am_lm (am_t b0 base) lv)) (hp : am_d12 pc e lv st h = some nx)
    (kk : ∀ (ls' : Array Slot) (pc' : Nat) (lv' : am_L) (st' : List Value), nx = .inl (pc', lv', st', h) → lv_has ls' q.2.2.1 (am_lm (am_t b0 base) lv') → W p l en R s m args below meth c H locs cells slots Q (F0 m pc' ls' (am_sm (am_t b0 base) st'))) : W p l en R s m args below meth c H locs cells slots Q (F0 m pc ls (am_sm (am_t b0 base) st)) := by
  obtain ⟨ins, len, aux⟩ := e
  obtain ⟨hx, hb, hml, hr, hnm, hlk, hown, hts, hnw, hK, hbb⟩ := C
  simp only at hdg hln
  subst hln
  unfold am_d12 at hp
  simp only at hp
  split at hp
  · split at hp
    · rename_i hc
      cases hp
      exact lv_dup hx hb hdg (by rw [am_v_cat]; exact hc) (kk ls _ _ _ rfl hl)
    · cases hp
  · split at hp
    · rename_i hc
      cases hp
      exact lv_pop hx hb hdg (by rw [am_v_cat]; exact hc) (kk ls _ _ _ rfl hl)
    · cases hp
  · split at hp
    · rename_i hc
      cases hp
      exact lv_pop2_2 hx hb hdg (by rw [am_v_cat]; exact hc) (kk ls _ _ _ rfl hl)
    · cases hp
  · split at hp
    · rename_i hc
      cases hp
      exact lv_dup2_11 hx hb hdg (by rw [am_v_cat]; exact hc.1) (by rw [am_v_cat]; exact hc.2) (kk ls _ _ _ rfl hl)
    · cases hp
  · cases hp
theorem am_w13 (C : am_Cx p s m args meth c D cy b0 base q) (X : am_At D cy b0 base s h H locs) (hdg : decode q.2.1 pc = .ok (e.1, e.2.1)) (hln : am_ln e.1 = e.2.1) (hl : lv_has ls q.2.2.1 (am_lm (am_t b0 base) lv)) (hp : am_d13 pc e lv st h = some nx)
    (kk : ∀ (ls' : Array Slot) (pc' : Nat) (lv' : am_L) (st' : List Value), nx = .inl (pc', lv', st', h) → lv_has ls' q.2.2.1 (am_lm (am_t b0 base) lv') → W p l en R s m args below meth c H locs cells slots Q (F0 m pc' ls' (am_sm (am_t b0 base) st'))) : W p l en R s m args below meth c H locs cells slots Q (F0 m pc ls (am_sm (am_t b0 base) st)) := by
  obtain ⟨ins, len, aux⟩ := e
  obtain ⟨hx, hb, hml, hr, hnm, hlk, hown, hts, hnw, hK, hbb⟩ := C
  obtain ⟨hsz, hcl, ⟨L, xs, h0, scr, x1, x2, x3, x4, x5⟩, hold, hloc⟩ := X
  simp only at hdg hln
  subst hln
  unfold am_d13 at hp
  simp only at hp
  split at hp
  · rename_i i a r
    split at hp
    · rename_i hle
      cases hv : am_ald ins (h.2.2 a) i with
      | none => rw [hv] at hp; cases hp
      | some v =>
        rw [hv] at hp
        cases hp
        have k1 := kk ls _ _ _ rfl hl
        match a, hle, hv with
        | 0, hle, hv =>
          rw [h0] at hv
          cases ins <;> try (simp [am_ald] at hv; done)
          simp only [am_ald] at hv
          split at hv
          · rename_i hi
            cases hv
            have hin := am_idx_in hi
            have hlt : i.toNatClampNeg < L := Nat.not_le.mp fun z => hin (Or.inr z)
            exact W.iald hx hb x1 x2 x3 (by rw [x4]; exact hin) (x5 _ hlt) rfl rfl hdg k1
          · cases hv
        | a + 1, hle, hv =>
          have hat := hcl a hle
          generalize h.2.2 (a + 1) = cc at hat hv
          have hP := am_P1 hat
          unfold am_ald at hv
          split at hv
          · split at hv
            · rename_i hi
              cases hv
              exact va_iald hx hb hK hP 0 1 rfl rfl (am_idx_in hi) hdg k1
            · cases hv
          · split at hv
            · rename_i hi
              cases hv
              exact va_bald hx hb hK hP 0 0 rfl rfl (am_idx_in hi) hdg k1
            · cases hv
          · split at hv
            · rename_i hi
              cases hv
              exact va_zald hx hb hK hP 0 3 rfl rfl (am_idx_in hi) hdg k1
            · cases hv
          · split at hv
            · rename_i hi
              cases hv
              exact va_lald hx hb hK hP 0 2 rfl rfl (am_idx_in hi) hdg k1
            · cases hv
          · rename_i n f hz9
            split at hv
            · rename_i hi
              have hin := am_idx_in hi
              have hlt : i.toNatClampNeg < n := Nat.not_le.mp fun z => hin (Or.inr z)
              cases hf : f i.toNatClampNeg with
              | none => rw [hf] at hv; cases hv
              | some y =>
                rw [hf] at hv
                cases hv
                exact W.aald (v := .ref (am_t b0 base y)) (ty := .array .int) hx hb (hP 0 _ rfl) ((hK.2 4 _ rfl).1 n (fun j => va_rf ((f j).map (am_t b0 base)))) rfl (fun z => by cases z) (by show ¬ (i < 0 ∨ (arrV _ _ _).slots.size ≤ _); rw [arrV_size]; exact hin) (by show (arrV _ _ _).slots[_]? = _; rw [arrV_read _ _ hlt]; show some (va_rf ((f i.toNatClampNeg).map (am_t b0 base))) = _; rw [hf]; rfl) rfl rfl hdg k1
            · cases hv
          · rename_i n f hz9
            split at hv
            · rename_i hi
              have hin := am_idx_in hi
              have hlt : i.toNatClampNeg < n := Nat.not_le.mp fun z => hin (Or.inr z)
              cases hf : f i.toNatClampNeg with
              | none => rw [hf] at hv; cases hv
              | some y =>
                rw [hf] at hv
                cases hv
                exact W.aald (v := .ref (am_t b0 base y)) (ty := .array .long) hx hb (hP 0 _ rfl) ((hK.2 5 _ rfl).1 n (fun j => va_rf ((f j).map (am_t b0 base)))) rfl (fun z => by cases z) (by show ¬ (i < 0 ∨ (arrV _ _ _).slots.size ≤ _); rw [arrV_size]; exact hin) (by show (arrV _ _ _).slots[_]? = _; rw [arrV_read _ _ hlt]; show some (va_rf ((f i.toNatClampNeg).map (am_t b0 base))) = _; rw [hf]; rfl) rfl rfl hdg k1
            · cases hv
          · cases hv
    · cases hp
  · cases hp
end AMW2
