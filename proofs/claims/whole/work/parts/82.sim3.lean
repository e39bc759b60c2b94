theorem am_At_set {D : va_G} {cy : Nat → ClassId} {b0 base : Nat} {s : State} {h : am_H} {H H1 : Heap} {locs : List Loc} {k i : Nat} {c' : am_E} (hbb : b0 < base) (X : am_At D cy b0 base s h H locs) (hat : va_at D vwCl (base + k, am_e (am_t b0 base) cy c') H1) (hz : H1.size = H.size) (ho : ∀ q, q ≠ base + k → H1[q]? = H[q]?) :
    am_At D cy b0 base s (h.1, h.2.1, am_up h.2.2 (k + 1) c') H1 (locs ++ [⟨base + k, i⟩]) := by
  obtain ⟨hsz, hcl, ⟨L, xs, h0, hX⟩, hold, hloc⟩ := X
  refine ⟨by rw [hz]; exact hsz, fun j hj => ?_, ⟨L, xs, ?_, hX.kept (ho b0 (by omega))⟩, fun q hq => ?_, fun l hl => ?_⟩
  · by_cases e : j = k
    · subst e
      show va_at D vwCl (base + j, am_e _ _ (if j + 1 = j + 1 then c' else _)) H1
      rw [if_pos rfl]
      exact hat
    · show va_at D vwCl (base + j, am_e _ _ (if j + 1 = k + 1 then c' else _)) H1
      rw [if_neg (by omega)]
      exact (hcl j hj).kept (ho (base + j) (by omega))
  · show (if 0 = k + 1 then c' else h.2.2 0) = _
    rw [if_neg (by omega)]
    exact h0
  · rw [ho q (by omega)]
    exact hold q hq
  · rcases List.mem_append.mp hl with hl | hl
    · exact hloc l hl
    · rw [List.mem_singleton.mp hl]
      exact Nat.le_add_right base k
theorem am_fit_spec {ty : FieldType} {v : Value} (t : Nat → Nat) (h : am_fit ty v = true) : narrow ty (am_v t v) = am_v t v ∧ fits ty (am_v t v) = true := by
  cases ty <;> cases v <;> first | (cases h; done) | exact ⟨rfl, rfl⟩ | skip
  rename_i x
  have h1 : x = 0 ∨ x = 1 := by simpa [am_fit] using h
  rcases h1 with rfl | rfl
  · exact ⟨by show narrow FieldType.boolean (.int 0) = .int 0; decide, by show fits FieldType.boolean (.int 0) = true; decide⟩
  · exact ⟨by show narrow FieldType.boolean (.int 1) = .int 1; decide, by show fits FieldType.boolean (.int 1) = true; decide⟩
section AMW3
variable {p : Program} {l : Launch} {en : Env} {R : Room} {s : State} {m : MethodId} {args : Array Value} {below : List Frame} {meth : Method} {c : Code} {H : Heap} {locs : List Loc} {cells slots : Nat} {Q : State → Prop}
variable {D : va_G} {cy : Nat → ClassId} {b0 base pc : Nat} {q : am_M} {ls : Array Slot} {lv : am_L} {rest : List Value} {e : am_I} {st : List Value} {h : am_H} {nx : am_N}
theorem am_w14 (C : am_Cx p s m args meth c D cy b0 base q) (X : am_At D cy b0 base s h H locs) (hdg : decode q.2.1 pc = .ok (e.1, e.2.1)) (hln : am_ln e.1 = e.2.1) (hp : am_d14 pc e lv st h = some nx)
    (kk : ∀ (H' : Heap) (locs' : List Loc) (pc' : Nat) (st' : List Value) (h' : am_H), nx = .inl (pc', lv, st', h') → h'.1 = h.1 → h'.2.1 = h.2.1 → am_At D cy b0 base s h' H' locs' → W p l en R s m args below meth c H' locs' cells slots Q (F0 m pc' ls (am_sm (am_t b0 base) st'))) : W p l en R s m args below meth c H locs cells slots Q (F0 m pc ls (am_sm (am_t b0 base) st)) := by
  obtain ⟨ins, len, aux⟩ := e
  obtain ⟨hx, hb, hml, hr, hnm, hlk, hown, hts, hnw, hK, hbb⟩ := C
  have X0 := X
  obtain ⟨hsz, hcl, hsc, hold, hloc⟩ := X
  simp only at hdg hln
  subst hln
  unfold am_d14 at hp
  simp only at hp
  split at hp
  · rename_i v i a r
    split at hp
    · rename_i hle
      match a, hle with
      | a + 1, hle =>
        cases hv : am_ast ins (h.2.2 (a + 1)) i v with
        | none => rw [hv] at hp; cases hp
        | some c' =>
          rw [hv] at hp
          cases hp
          have hat := hcl a hle.2
          generalize hcc : h.2.2 (a + 1) = cc at hat hv
          unfold am_ast at hv
          split at hv
          · rename_i n f x
            split at hv
            · rename_i hi
              cases hv
              refine W.iast hx hb hat ((hK.2 1 _ rfl).1 n (fun j => .int (f j))) (fun z => by cases z) (by show ¬ (i < 0 ∨ (arrV _ _ _).slots.size ≤ _); rw [arrV_size]; exact am_idx_in hi) rfl rfl hdg fun H1 e z oq => ?_
              refine kk H1 _ _ _ _ rfl rfl rfl (am_At_set hbb X0 ?_ z oq)
              show H1[_]? = some (vp_cell _ _)
              rw [e, vp_cell_i, vp_cell_i, arrV_store]
              congr 2
              funext j
              by_cases hj : j = i.toNatClampNeg
              · subst hj
                simp [updV, upd]
              · simp [updV, upd, hj]
            · cases hv
          · rename_i n f x
            split at hv
            · rename_i hi
              cases hv
              refine W.bast hx hb hat ((hK.2 0 _ rfl).1 n (fun j => .int (f j))) (fun z => by cases z) (by show ¬ (i < 0 ∨ (arrV _ _ _).slots.size ≤ _); rw [arrV_size]; exact am_idx_in hi) rfl rfl hdg fun H1 e z oq => ?_
              refine kk H1 _ _ _ _ rfl rfl rfl (am_At_set hbb X0 ?_ z oq)
              show H1[_]? = some (vp_cell _ _)
              rw [e, vp_cell_i, vp_cell_i, arrV_store]
              congr 2
              funext j
              by_cases hj : j = i.toNatClampNeg
              · subst hj
                simp [updV, upd, vp_nar]
                try rfl
              · simp [updV, upd, hj]
            · cases hv
          · rename_i n f x
            split at hv
            · rename_i hi
              cases hv
              refine W.zast hx hb hat ((hK.2 3 _ rfl).1 n (fun j => .int (f j))) (fun z => by cases z) (by show ¬ (i < 0 ∨ (arrV _ _ _).slots.size ≤ _); rw [arrV_size]; exact am_idx_in hi) rfl rfl hdg fun H1 e z oq => ?_
              refine kk H1 _ _ _ _ rfl rfl rfl (am_At_set hbb X0 ?_ z oq)
              show H1[_]? = some (vp_cell _ _)
              rw [e, vp_cell_i, vp_cell_i, arrV_store]
              congr 2
              funext j
              by_cases hj : j = i.toNatClampNeg
              · subst hj
                simp [updV, upd, vp_nar]
                try rfl
              · simp [updV, upd, hj]
            · cases hv
          · rename_i n f x
            split at hv
            · rename_i hi
              cases hv
              refine W.last hx hb hat ((hK.2 2 _ rfl).1 n (fun j => .long (f j))) (fun z => by cases z) (by show ¬ (i < 0 ∨ (arrV _ _ _).slots.size ≤ _); rw [arrV_size]; exact am_idx_in hi) rfl rfl hdg fun H1 e z oq => ?_
              refine kk H1 _ _ _ _ rfl rfl rfl (am_At_set hbb X0 ?_ z oq)
              show H1[_]? = some (vp_cell _ _)
              rw [e, vp_cell_l, vp_cell_l, arrV_store]
              congr 2
              funext j
              by_cases hj : j = i.toNatClampNeg
              · subst hj
                simp [updV, vp_updL]
              · simp [updV, vp_updL, hj]
            · cases hv
          · cases hv
    · cases hp
  · cases hp
theorem am_w15 (C : am_Cx p s m args meth c D cy b0 base q) (X : am_At D cy b0 base s h H locs) (hdg : decode q.2.1 pc = .ok (.arraylength, 1)) (hl : lv_has ls q.2.2.1 (am_lm (am_t b0 base) lv)) (hp : am_d15 pc e lv st h = some nx)
    (kk : ∀ (ls' : Array Slot) (pc' : Nat) (lv' : am_L) (st' : List Value), nx = .inl (pc', lv', st', h) → lv_has ls' q.2.2.1 (am_lm (am_t b0 base) lv') → W p l en R s m args below meth c H locs cells slots Q (F0 m pc' ls' (am_sm (am_t b0 base) st'))) : W p l en R s m args below meth c H locs cells slots Q (F0 m pc ls (am_sm (am_t b0 base) st)) := by
  obtain ⟨hx, hb, hml, hr, hnm, hlk, hown, hts, hnw, hK, hbb⟩ := C
  obtain ⟨hsz, hcl, ⟨L, xs, h0, scr, x1, x2, x3, x4, x5⟩, hold, hloc⟩ := X
  unfold am_d15 at hp
  split at hp
  · rename_i a r
    split at hp
    · rename_i hle
      cases hv : am_len (h.2.2 a) with
      | none => rw [hv] at hp; cases hp
      | some n =>
        rw [hv] at hp
        cases hp
        have k1 := kk ls _ _ _ rfl hl
        match a, hle, hv with
        | 0, hle, hv =>
          rw [h0] at hv
          cases hv
          exact W.alen (n := Int32.ofNat L) hx hb x1 x2 (by rw [x4]) rfl rfl hdg k1
        | a + 1, hle, hv =>
          have hat := hcl a hle
          generalize h.2.2 (a + 1) = cc at hat hv
          have hP := am_P1 hat
          unfold am_len at hv
          split at hv
          · rename_i t n2 dt
            split at hv
            · rename_i ht
              cases hv
              obtain f | f | f | f | f := dt
              · exact va_alen hx hb hK hP 0 t rfl (am_tys_at cy ht) rfl hdg k1
              · exact va_alen hx hb hK hP 0 t rfl (am_tys_at cy ht) rfl hdg k1
              · exact va_alen hx hb hK hP 0 t rfl (am_tys_at cy ht) rfl hdg k1
              · exact va_alen hx hb hK hP 0 t rfl (am_tys_at cy ht) rfl hdg k1
              · exact va_alen hx hb hK hP 0 t rfl (am_tys_at cy ht) rfl hdg k1
            · cases hv
          · cases hv
    · cases hp
  · cases hp
theorem am_w16 (C : am_Cx p s m args meth c D cy b0 base q) (X : am_At D cy b0 base s h H locs) {idx : Nat} (hi1 : e.1 = .getfield idx) (hdg : decode q.2.1 pc = .ok (.getfield idx, 3)) (hok : am_okA q pc e = true) (hl : lv_has ls q.2.2.1 (am_lm (am_t b0 base) lv)) (hp : am_d16 pc e lv st h = some nx)
    (kk : ∀ (ls' : Array Slot) (pc' : Nat) (lv' : am_L) (st' : List Value), nx = .inl (pc', lv', st', h) → lv_has ls' q.2.2.1 (am_lm (am_t b0 base) lv') → W p l en R s m args below meth c H locs cells slots Q (F0 m pc' ls' (am_sm (am_t b0 base) st'))) : W p l en R s m args below meth c H locs cells slots Q (F0 m pc ls (am_sm (am_t b0 base) st)) := by
  obtain ⟨ins, len, aux⟩ := e
  simp only at hi1
  subst hi1
  obtain ⟨hx, hb, hml, hr, hnm, hlk, hown, hts, hnw, hK, hbb⟩ := C
  obtain ⟨hsz, hcl, -, hold, hloc⟩ := X
  have hok : am_fl q.1.cls idx aux = true := hok
  unfold am_d16 at hp
  simp only at hp
  split at hp
  · rename_i ci k p1 nest a r z9
    split at hp
    · rename_i hle
      match a, hle with
      | a + 1, hle =>
        have hat := hcl a hle.2
        generalize h.2.2 (a + 1) = cc at hat hp
        split at hp
        · rename_i ci2 fs
          split at hp
          · rename_i hcc
            subst hcc
            cases hv : fs[k]? with
            | none => rw [hv] at hp; cases hp
            | some v =>
              rw [hv] at hp
              cases hp
              have k1 := kk ls _ _ _ rfl hl
              have hP := am_P1 hat
              unfold am_fl at hok
              simp only at hok
              split at hok
              · rename_i rr hrr
                obtain ⟨C', T', N'⟩ := rr
                obtain ⟨hw, hty, hnn⟩ := am_cls hrr
                rw [Bool.and_eq_true] at hok
                have hk := of_decide_eq_true hok.1
                have hok2 := hok.2
                have hvv : (fs.map (am_v (am_t b0 base)))[k]? = some (am_v (am_t b0 base) v) := by rw [List.getElem?_map, hv]; rfl
                split at hok2
                · obtain ⟨w1, w2⟩ := am_wd_spec hok2
                  exact va_get (Ts := u_ws C' T' N') hx hb (fun w z => hts w (hw w z).1 (hw w z).2) (fun _ z => z) hown hK hP 0 rfl hrr k hk (hts _ w1 w2) (fun _ z => z) hvv hdg k1
                · have w1 := List.mem_of_getElem? (of_decide_eq_true hok2)
                  exact va_getN (Ts := u_ws C' T' N') hx hb (fun w z => hts w (hw w z).1 (hw w z).2) (fun _ z => z) hown hK hP 0 rfl hrr k hk (hnw _ w1 rfl) (fun _ z => z) hvv hdg k1
              · cases hok
          · cases hp
        · cases hp
    · cases hp
  · cases hp
theorem am_w17 (C : am_Cx p s m args meth c D cy b0 base q) (X : am_At D cy b0 base s h H locs) {idx : Nat} (hi1 : e.1 = .putfield idx) (hdg : decode q.2.1 pc = .ok (.putfield idx, 3)) (hok : am_okA q pc e = true) (hp : am_d17 pc e lv st h = some nx)
    (kk : ∀ (H' : Heap) (locs' : List Loc) (pc' : Nat) (st' : List Value) (h' : am_H), nx = .inl (pc', lv, st', h') → h'.1 = h.1 → h'.2.1 = h.2.1 → am_At D cy b0 base s h' H' locs' → W p l en R s m args below meth c H' locs' cells slots Q (F0 m pc' ls (am_sm (am_t b0 base) st'))) : W p l en R s m args below meth c H locs cells slots Q (F0 m pc ls (am_sm (am_t b0 base) st)) := by
  obtain ⟨ins, len, aux⟩ := e
  simp only at hi1
  subst hi1
  obtain ⟨hx, hb, hml, hr, hnm, hlk, hown, hts, hnw, hK, hbb⟩ := C
  have X0 := X
  obtain ⟨hsz, hcl, -, hold, hloc⟩ := X
  have hok : (am_fl q.1.cls idx aux && am_ff q.1.cls q.1.name aux) = true := hok
  rw [Bool.and_eq_true] at hok
  obtain ⟨hok, hok3⟩ := hok
  unfold am_d17 at hp
  simp only at hp
  split at hp
  · rename_i ci k p1 nest v a r z9
    split at hp
    · rename_i hle
      match a, hle with
      | a + 1, hle =>
        have hat := hcl a hle.2
        generalize h.2.2 (a + 1) = cc at hat hp
        split at hp
        · rename_i ci2 fs
          split at hp
          · rename_i hcc
            obtain ⟨hcc, hlt, hft⟩ := hcc
            subst hcc
            cases hp
            have k1 := fun H1 lc hX => kk H1 lc _ _ _ rfl rfl rfl hX
            unfold am_fl at hok
            unfold am_ff at hok3
            simp only at hok hok3
            split at hok
            · rename_i rr hrr
              rw [hrr] at hok3
              obtain ⟨C', T', N'⟩ := rr
              simp only at hok3
              obtain ⟨hw, hty, hnn⟩ := am_cls hrr
              rw [Bool.and_eq_true] at hok
              have hk := of_decide_eq_true hok.1
              have hok2 := hok.2
              obtain ⟨hn, hfit⟩ := am_fit_spec (am_t b0 base) hft
              have hts1 : ∀ w ∈ u_ws C' T' N', w.before args s = true := fun w z => hts w (hw w z).1 (hw w z).2
              have hin : ∀ w ∈ u_ws C' T' N', w ∈ u_ws C' T' N' := fun _ z => z
              have hd := hty k hk
              have hap := va_apart (own := q.1.cls) hts1 hin (am_fty ci2) hty hnn hK hrr
              obtain ⟨r9, h1, cell, q1, q2, q3, q4⟩ := hat
              have hr : r9 = (C', T', N') := Option.some.inj (h1.symm.trans hrr)
              subst hr
              obtain ⟨hS, hfc, kC, hkC, hkind⟩ := hK.1 ci2 _ hrr
              obtain ⟨cf, kf, fi, f, hi, hsl⟩ := hS k hk
              have hlay := hts1 _ (u_in_lay hk)
              unfold u_lay at hlay
              have hst := (u_facts hfc hkC (u_lays hts1 hin hk) hi).1
              have hset : ∀ H' : Heap, H'[base + a]? = some (cell.setSlot (D.2 ci2 k) (am_v (am_t b0 base) v)) → va_at D vwCl (base + a, am_e (am_t b0 base) cy (.inr (ci2, fs.set k v))) H' := by
                intro H' e1
                refine ⟨_, hrr, ?_⟩
                show t_OB _ _ _ _ _ (vp_V ((fs.set k v).map (am_v (am_t b0 base))))
                rw [List.map_set]
                exact t_OB.to (V := updV (vp_V (fs.map (am_v (am_t b0 base)))) k (am_v (am_t b0 base) v)) ⟨_, e1, q2, q3, t_set q4 hap hk _⟩ (fun j _ => vp_updV_set (by rw [List.length_map]; exact hlt) _ j)
              by_cases hfin : (T' k).2.2.2 = true
              · rw [if_pos hfin] at hlay
                rw [hfin] at hok3
                simp only [Bool.not_true, Bool.false_or, Bool.and_eq_true] at hok3
                obtain ⟨⟨o1, o2⟩, o3⟩ := hok3
                have o1 := of_decide_eq_true o1
                have hdecl := of_decide_eq_true o2
                have o3 := of_decide_eq_true o3
                rw [if_pos o3] at hok2
                obtain ⟨w1, w2⟩ := am_wd_spec hok2
                have hcf : m.cls = cf := by
                  obtain ⟨_, _, c', _, _, _, -, -, hf', -, -, -, hown2, -⟩ := Cond.laysFinal_spec hlay
                  have e1 : c' = cf := by have := hi.symm.trans hf'; simp at this; exact this.1.symm
                  rw [hdecl] at hown2
                  rw [← e1]; exact Option.some.inj (hown.symm.trans hown2)
                have h6 := u_fits hfc hkC hkind (Or.inr hlay) hi hd hn hfit
                refine W.putFinK hx hb hown (hts _ w1 w2) hi hst hcf (hnm o1) (by rw [q2]; exact h6) q1 q3 (by rw [hsl]; exact k2_hasslot (q4 k hk)) rfl rfl hdg fun H' e1 e2 e3 => ?_
                rw [hsl] at e1 ⊢
                exact k1 H' _ (am_At_set hbb X0 (hset H' e1) e2 e3)
              · have hfin : (T' k).2.2.2 = false := by simpa using hfin
                rw [if_neg (by rw [hfin]; decide)] at hlay
                have h6 := u_store hfc hkC hkind hlay hi hd hn hfit
                split at hok2
                · obtain ⟨w1, w2⟩ := am_wd_spec hok2
                  refine W.putK hx hb (f := f) ⟨hown, hts _ w1 w2, ⟨_, _, _, hi⟩, hst⟩ (by rw [q2]; exact h6) q1 q3 (by rw [hsl]; exact k2_hasslot (q4 k hk)) rfl rfl hdg fun H' e1 e2 e3 => ?_
                  rw [hsl] at e1 ⊢
                  exact k1 H' _ (am_At_set hbb X0 (hset H' e1) e2 e3)
                · have w1 := List.mem_of_getElem? (of_decide_eq_true hok2)
                  refine va_WputK hx hb (f := f) hown (hnw _ w1 rfl) hi hst (by rw [q2]; exact h6) q1 q3 (by rw [hsl]; exact k2_hasslot (q4 k hk)) rfl rfl hdg fun H' e1 e2 e3 => ?_
                  rw [hsl] at e1 ⊢
                  exact k1 H' _ (am_At_set hbb X0 (hset H' e1) e2 e3)
            · cases hok
          · cases hp
        · cases hp
    · cases hp
  · cases hp
end AMW3
