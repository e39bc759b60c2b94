theorem am_At_push {D : va_G} {cy : Nat → ClassId} {b0 base : Nat} {s : State} {h : am_H} {H H1 : Heap} {locs : List Loc} {sl : Nat} {c' : am_E} (hbb : b0 < base) (X : am_At D cy b0 base s h H locs) (hat : va_at D vwCl (base + h.1, am_e (am_t b0 base) cy c') H1) (hz : H1.size = H.size + 1) (ho : ∀ q, q < H.size → H1[q]? = H[q]?) :
    am_At D cy b0 base s (h.1 + 1, sl, am_up h.2.2 (h.1 + 1) c') H1 locs := by
  obtain ⟨hsz, hcl, ⟨L, xs, h0, hX⟩, hold, hloc⟩ := X
  refine ⟨by show H1.size = base + (h.1 + 1); omega, fun j hj => ?_, ⟨L, xs, ?_, hX.kept (ho b0 (by omega))⟩, fun q hq => ?_, hloc⟩
  · have hj : j < h.1 + 1 := hj
    by_cases e : j = h.1
    · subst e
      show va_at D vwCl (base + h.1, am_e _ _ (if h.1 + 1 = h.1 + 1 then c' else _)) H1
      rw [if_pos rfl]
      exact hat
    · show va_at D vwCl (base + j, am_e _ _ (if j + 1 = h.1 + 1 then c' else _)) H1
      rw [if_neg (by omega)]
      exact (hcl j (by omega)).kept (ho (base + j) (by omega))
  · show (if 0 = h.1 + 1 then c' else h.2.2 0) = _
    rw [if_neg (by omega)]
    exact h0
  · rw [ho q (by omega)]
    exact hold q hq
theorem am_v_def (t : Nat → Nat) (ty : FieldType) : am_v t (defaultValue ty) = defaultValue ty := by cases ty <;> rfl
theorem am_ra {s : State} {D : va_G} {cy : Nat → ClassId} (hK : va_K D vwCl (am_tys cy) s) {t : Nat} (ht : t < 6) {cA : ClassId} (h : s.vm.findClass ("[" ++ (am_ty t).toString) = some cA) : cA = cy t := by
  have h1 := (hK.2 t _ (am_tys_at cy ht)).2
  have h2 : s.vm.findClass ("[" ++ (am_ty t).toString) = some (cy t) := by
    match t, ht, h1 with
    | 0, _, h1 => exact h1
    | 1, _, h1 => exact h1
    | 2, _, h1 => exact h1
    | 3, _, h1 => exact h1
    | 4, _, h1 => exact h1
    | 5, _, h1 => exact h1
  exact Option.some.inj (h.symm.trans h2)
section AMW4
variable {p : Program} {l : Launch} {en : Env} {R : Room} {s : State} {m : MethodId} {args : Array Value} {below : List Frame} {meth : Method} {c : Code} {H : Heap} {locs : List Loc} {cells slots : Nat} {Q : State → Prop}
variable {D : va_G} {cy : Nat → ClassId} {b0 base pc : Nat} {q : am_M} {ls : Array Slot} {lv : am_L} {rest : List Value} {e : am_I} {st : List Value} {h : am_H} {pc' : Nat} {lv' : am_L} {st' : List Value} {h' : am_H}
theorem am_w18 (C : am_Cx p s m args meth c D cy b0 base q) (X : am_At D cy b0 base s h H locs) {idx : Nat} (hi1 : e.1 = .new idx) (hdg : decode q.2.1 pc = .ok (.new idx, 3)) (hok : am_okA q pc e = true) (hp : am_d18 pc e lv st h = some (.inl (pc', lv', st', h')))
    (hrc : cells + (h'.1 - h.1) ≤ R.cells) (hrs : slots + (h'.2.1 - h.2.1) ≤ R.slots)
    (kk : ∀ (H' : Heap), lv' = lv → am_At D cy b0 base s h' H' locs → W p l en R s m args below meth c H' locs (cells + (h'.1 - h.1)) (slots + (h'.2.1 - h.2.1)) Q (F0 m pc' ls (am_sm (am_t b0 base) st'))) : W p l en R s m args below meth c H locs cells slots Q (F0 m pc ls (am_sm (am_t b0 base) st)) := by
  obtain ⟨ins, len, aux⟩ := e
  simp only at hi1
  subst hi1
  obtain ⟨hx, hb, hml, hr, hnm, hlk, hown, hts, hnw, hK, hbb⟩ := C
  unfold am_d18 at hp
  simp only at hp
  match aux, hp, hok with
  | [ci, p1, p2, p3], hp, hok =>
    have hok : (match vwCl[ci]? with
      | some r => am_wd p1 (.classLink q.1.cls idx r.1) && am_wd p2 (.instantiable r.1 r.2.2) && am_wd p3 (.initialized r.1)
      | none => false) = true := hok
    simp only at hp
    cases hr9 : vwCl[ci]? with
    | none => rw [hr9] at hok; cases hok
    | some r9 =>
      obtain ⟨C', T', N'⟩ := r9
      rw [hr9] at hok hp
      simp only at hok hp
      cases hp
      simp only [Bool.and_eq_true] at hok
      obtain ⟨⟨o1, o2⟩, o3⟩ := hok
      obtain ⟨w1, v1⟩ := am_wd_spec o1
      obtain ⟨w2, v2⟩ := am_wd_spec o2
      obtain ⟨w3, v3⟩ := am_wd_spec o3
      obtain ⟨hw, hty, hnn⟩ := am_cls hr9
      have e1 : h.1 + 1 - h.1 = 1 := by omega
      have e2 : h.2.1 + N' - h.2.1 = N' := by omega
      simp only [e1, e2] at hrc hrs kk
      have hKn := hK.1 ci _ hr9
      have hsz := X.1
      refine W.newcK hx hb hown (hts _ w1 v1) (hts _ w2 v2) (hts _ w3 v3) rfl hdg hrc hrs hKn.2.1 rfl fun H1 kC hkC e3 z1 o4 => ?_
      have k1 := kk H1 trivial (am_At_push hbb X ?_ z1 o4)
      · have e5 : H.size = base + h.1 := hsz
        show W p l en R s m args below meth c H1 locs (cells + 1) (slots + N') Q (F0 m (pc + 3) ls (.ref H.size :: am_sm (am_t b0 base) st))
        rw [e5]
        exact k1
      · rw [hsz] at e3
        refine ⟨_, hr9, (u_born (ws := u_ws C' T' N') (am_fty ci) (fun w z => hts w (hw w z).1 (hw w z).2) (fun _ z => z) hKn hkC e3 hty).to fun j hj => ?_⟩
        show defaultValue (am_fty ci j) = vp_V (((List.range N').map (fun j => defaultValue (am_fty ci j))).map (am_v (am_t b0 base))) j
        unfold vp_V
        rw [List.map_map, List.getD_eq_getElem?_getD, List.getElem?_map, List.getElem?_range hj]
        show _ = am_v _ _
        rw [am_v_def]
theorem am_w19 (C : am_Cx p s m args meth c D cy b0 base q) (X : am_At D cy b0 base s h H locs) {at_ : ArrayType} (hi1 : e.1 = .newarray at_) (hdg : decode q.2.1 pc = .ok (.newarray at_, 2)) (hok : am_okA q pc e = true) (hp : am_d19 pc e lv st h = some (.inl (pc', lv', st', h')))
    (hrc : cells + (h'.1 - h.1) ≤ R.cells) (hrs : slots + (h'.2.1 - h.2.1) ≤ R.slots)
    (kk : ∀ (H' : Heap), lv' = lv → am_At D cy b0 base s h' H' locs → W p l en R s m args below meth c H' locs (cells + (h'.1 - h.1)) (slots + (h'.2.1 - h.2.1)) Q (F0 m pc' ls (am_sm (am_t b0 base) st'))) : W p l en R s m args below meth c H locs cells slots Q (F0 m pc ls (am_sm (am_t b0 base) st)) := by
  obtain ⟨ins, len, aux⟩ := e
  simp only at hi1
  subst hi1
  obtain ⟨hx, hb, hml, hr, hnm, hlk, hown, hts, hnw, hK, hbb⟩ := C
  unfold am_d19 at hp
  match aux, hok with
  | [p1], hok =>
    obtain ⟨w1, v1⟩ := am_wd_spec (show am_wd p1 (.arrayClass (newarray.typeOf at_)) = true from hok)
    match st, hp with
    | .int n :: r, hp =>
      simp only at hp
      have hsz := X.1
      have go : ∀ (t : Nat) (ht : t < 6) (ma : Nat → vp_A), newarray.typeOf at_ = am_ty t → (∀ (N : Nat) (cA : ClassId), arrV cA N (fun _ => defaultValue (am_ty t)) = vp_cell cA (ma N)) → (∀ N, am_e (am_t b0 base) cy (.inl (t, ma N)) = .inl (cy t, ma N)) →
          (if ¬ n < 0 ∧ n.toNatClampNeg * componentBytes (am_ty t) ≤ 536870912 then some (Sum.inl (pc + 2, lv, Value.ref (h.1 + 1) :: r, (h.1 + 1, h.2.1 + n.toNatClampNeg, am_up h.2.2 (h.1 + 1) (.inl (t, ma n.toNatClampNeg))))) else none) = some (Sum.inl (pc', lv', st', h') : am_N) → W p l en R s m args below meth c H locs cells slots Q (F0 m pc ls (am_sm (am_t b0 base) (.int n :: r))) := by
        intro t ht ma hty hcell hem hif
        split at hif
        · rename_i hc
          cases hif
          have e1 : h.1 + 1 - h.1 = 1 := by omega
          have e2 : h.2.1 + n.toNatClampNeg - h.2.1 = n.toNatClampNeg := by omega
          simp only [e1, e2] at hrc hrs kk
          refine va_newaK hx hb (hts _ w1 v1) rfl hdg rfl hc.1 rfl (by rw [hty]; exact hc.2) hrc hrs rfl fun H1 cA e3 z1 o1 hAr hNm => ?_
          have k1 := kk H1 trivial (am_At_push hbb X ?_ z1 o1)
          · have e5 : H.size = base + h.1 := hsz
            show W p l en R s m args below meth c H1 locs (cells + 1) (slots + n.toNatClampNeg) Q (F0 m (pc + 2) ls (.ref H.size :: am_sm (am_t b0 base) r))
            rw [e5]
            exact k1
          · rw [hem]
            rw [hty] at hNm e3
            have ec := am_ra hK ht hNm
            show H1[base + h.1]? = some (vp_cell (cy t) (ma n.toNatClampNeg))
            rw [← ec, ← hcell, ← hsz]
            exact e3
        · cases hif
      cases at_ <;> simp only [am_tag] at hp <;> first | (cases hp; done) | skip
      · exact go 3 (by decide) (fun n => (n, .inl (fun _ => 0))) rfl (fun _ _ => rfl) (fun _ => rfl) hp
      · exact go 0 (by decide) (fun n => (n, .inl (fun _ => 0))) rfl (fun _ _ => rfl) (fun _ => rfl) hp
      · exact go 1 (by decide) (fun n => (n, .inl (fun _ => 0))) rfl (fun _ _ => rfl) (fun _ => rfl) hp
      · exact go 2 (by decide) (fun n => (n, .inr (.inl (fun _ => 0)))) rfl (fun _ _ => rfl) (fun _ => rfl) hp
end AMW4
