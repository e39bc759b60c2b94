section AMW9
variable {p : Program} {l : Launch} {en : Env} {R : Room} {s : State} {m : MethodId} {args : Array Value} {below : List Frame} {meth : Method} {c : Code} {H : Heap} {locs : List Loc} {cells slots : Nat} {Q : State → Prop}
variable {D : va_G} {cy : Nat → ClassId} {b0 base pc : Nat} {q : am_M} {ls : Array Slot} {lv : am_L} {e : am_I} {st : List Value} {h : am_H}
theorem am_wret {i : Nat} {rv : Option Value} {Qc : Array Value → State → Outcome → State → Prop} {free : Addr → Prop} (C : am_Cx p s m args meth c D cy b0 base q) (hi : am_meth[i]? = some q) (hf : am_okB q pc e = true) (hp : am_d22 i e st = some (.inr (.inr rv)))
    (hq : ∀ t : State, t.heap = H → s.WarmedH t.vm → Qc args s (.returned (rv.map (am_v (am_t b0 base)))) t) (hfr : ∀ z ∈ locs, free z.base) : W p l en R s m args below meth c H locs cells slots (MQ below Qc args s cells slots free) (F0 m pc ls (am_sm (am_t b0 base) st)) := by
  obtain ⟨hx, hb, hml, hr, hnm, hlk, hown, hts, hnw, hK, hbb⟩ := C
  unfold am_okB at hf
  simp only [Bool.and_eq_true, decide_eq_true_eq, Bool.or_eq_true, beq_iff_eq] at hf
  obtain ⟨⟨hdg, hln0⟩, hok⟩ := hf
  have hrt : am_rt i = q.2.2.2 := by unfold am_rt; rw [hi]
  rw [← hrt] at hr
  unfold am_d22 at hp
  obtain ⟨ins, len, aux⟩ := e
  simp only at hdg hln0 hp
  have hln : am_kind ins ≠ 10 → am_ln ins = len := fun hz => hln0.resolve_left (am_ln_nz hz)
  split at hp
  · have h1 := hln (by decide)
    subst h1
    split at hp
    · rename_i ty hty
      split at hp
      · rename_i hfit
        cases hp
        exact W.zret (ty := ty) hx hb (hr.trans hty) (am_fit_spec (am_t b0 base) hfit).1 hq hfr hdg hlk
      · cases hp
    · cases hp
  · have h1 := hln (by decide)
    subst h1
    split at hp
    · rename_i hty
      cases hp
      exact W.lret hx hb (hr.trans hty) hq hfr hdg hlk
    · cases hp
  · have h1 := hln (by decide)
    subst h1
    split at hp
    · rename_i hty
      cases hp
      exact W.aret hx hb (hr.trans hty) (Or.inr ⟨_, rfl⟩) (Or.inr ⟨_, rfl⟩) hq hfr hdg hlk
    · cases hp
  · have h1 := hln (by decide)
    subst h1
    split at hp
    · rename_i hty
      cases hp
      exact W.vret hx hb (hr.trans hty) hq hfr hdg hlk
    · cases hp
  · cases hp
end AMW9
def am_AllOk : Prop := ∀ (i pc : Nat) (e : am_I) (q : am_M), am_fetch i pc = some e → am_meth[i]? = some q → am_okB q pc e = true
/-- what the small machine's run says of the real one, from any place of a method on -/
def am_Sim (f : Nat) : Prop := ∀ (d i pc : Nat) (lv : am_L) (st : List Value) (h : am_H) (rv : Option Value) (h' : am_H), am_exec f d i pc lv st h = some (rv, h') →
  ∀ (p : Program) (l : Launch) (en : Env) (R : Room) (s : State) (m : MethodId) (args : Array Value) (below : List Frame) (meth : Method) (c : Code) (H : Heap) (locs : List Loc) (cells slots : Nat) (Q : State → Prop) (D : va_G) (cy : Nat → ClassId) (b0 base : Nat) (q : am_M) (ls : Array Slot),
  am_meth[i]? = some q → am_Cx p s m args meth c D cy b0 base q → am_At D cy b0 base s h H locs → lv_has ls q.2.2.1 (am_lm (am_t b0 base) lv) → d + 1 ≤ R.frames → 64 * (d + 1) ≤ R.locals → cells + (h'.1 - h.1) ≤ R.cells → slots + (h'.2.1 - h.2.1) ≤ R.slots →
  (∀ (H' : Heap) (locs' : List Loc) (ls' : Array Slot) (pc' : Nat) (e : am_I) (st' : List Value), am_fetch i pc' = some e → am_d22 i e st' = some (.inr (.inr rv)) → am_At D cy b0 base s h' H' locs' → W p l en R s m args below meth c H' locs' (cells + (h'.1 - h.1)) (slots + (h'.2.1 - h.2.1)) Q (F0 m pc' ls' (am_sm (am_t b0 base) st'))) →
  W p l en R s m args below meth c H locs cells slots Q (F0 m pc ls (am_sm (am_t b0 base) st))
theorem am_metOf (hall : am_AllOk) {f : Nat} (ih : am_Sim f) {l : Launch} {D : va_G} {cy : Nat → ClassId} {b0 base d j : Nat} {qj : am_M} {as : List Value} {h : am_H} {rv : Option Value} {h' : am_H} (hbb : b0 < base) (hj : am_meth[j]? = some qj) (hpl : plainName qj.1.cls = true) (hfit : am_fitsL j as = true) (hp : am_exec f d j 0 (lv_args 0 as) [] h = some (rv, h')) : am_Met l D cy b0 base d qj as h rv h' := by
  refine Met.ofW (cc := qj.2.1) (maxL := qj.2.2.1) (ret := qj.2.2.2) hpl rfl ?_
  intro p e s m args below meth c s₁ B hml hv
  obtain ⟨rfl, hX, hK, hN⟩ := hv
  have hx := B.exec
  have hb := B.bytes
  have hr := B.returns
  have hts := atoms_spec (ws := am_ws qj) B.pre
  have hown : s.vm.findClass qj.1.cls = some m.cls := findClass_of_methodNamed B.named
  have hlocks := B.notSynchronized
  have hin : meth.name = qj.1.name := (name_of_methodNamed B.named B.method).1
  have C : am_Cx p s m (am_sm (am_t b0 base) as).toArray meth c D cy b0 base qj := ⟨hx, hb, hml, hr, fun z => hin.trans z, hlocks, hown, fun w w1 w2 => hts w (List.mem_cons_of_mem _ (List.mem_filter.mpr ⟨w1, w2⟩)), fun w w1 w2 => am_nw_vm w2 rfl (hN w w1 w2), hK, hbb⟩
  have hln : (lg_sl (am_sm (am_t b0 base) as)).length ≤ qj.2.2.1 := by
    rw [am_sl_len]
    unfold am_fitsL at hfit
    rw [hj] at hfit
    exact of_decide_eq_true hfit
  have hl := lv_entry (am_sm (am_t b0 base) as) (n := qj.2.2.1) hln
  rw [lg_entry_eq]
  generalize (lg_sl (am_sm (am_t b0 base) as) ++ List.replicate (qj.2.2.1 - (lg_sl (am_sm (am_t b0 base) as)).length) Slot.unset).toArray = ls at hl ⊢
  rw [am_lm_args] at hl
  refine ih d j 0 (lv_args 0 as) [] h rv h' hp p l e _ s m _ below meth c s.heap [] 0 0 _ D cy b0 base qj ls hj C hX hl (Nat.le_refl _) (Nat.le_refl _) (by rw [Nat.zero_add]; exact Nat.le_refl _) (by rw [Nat.zero_add]; exact Nat.le_refl _) ?_
  intro H' locs' ls' pc' e' st' hf hd hX'
  rw [Nat.zero_add, Nat.zero_add]
  exact am_wret C hj (hall _ _ _ _ hf hj) hd (fun t ht hW => ⟨rfl, by rw [ht]; exact ⟨hX'.1, hX'.2.1, hX'.2.2.1, hX'.2.2.2.1, fun _ z => absurd z List.not_mem_nil⟩⟩) hX'.2.2.2.2
theorem am_sim (hall : am_AllOk) (hcw : am_CodeOk) (hpl : ∀ (j : Nat) (q : am_M), am_meth[j]? = some q → plainName q.1.cls = true ∨ am_mth j = true) : ∀ f, am_Sim f := by
  intro f
  induction f with
  | zero => intro d i pc lv st h rv h' hp; cases hp
  | succ f ih =>
    intro d i pc lv st h rv h' hp p l en R s m args below meth c H locs cells slots Q D cy b0 base q ls hi C X hl hfr hlc hrc hrs kk
    unfold am_exec at hp
    split at hp
    · cases hp
    · rename_i e he
      have hok := hall _ _ _ _ he hi
      split at hp
      · cases hp
      · rename_i pc1 lv1 st1 h1 hd
        have m1 := am_do_mono hd
        have m2 := am_exec_mono _ _ _ _ _ _ _ _ _ hp
        have a1 := m1.1
        have a2 := m2.1
        have b1 := m1.2.1
        have b2 := m2.2.1
        refine am_step C X hl hok hd (by omega) (by omega) (by omega) (by omega) fun H' locs' ls' hX' hl' => ?_
        refine ih d i pc1 lv1 st1 h1 rv h' hp p l en R s m args below meth c H' locs' _ _ Q D cy b0 base q ls' hi C hX' hl' hfr hlc (by omega) (by omega) ?_
        intro H2 locs2 ls2 pc2 e2 st2 f2 d2 x2
        have k1 := kk H2 locs2 ls2 pc2 e2 st2 f2 d2 x2
        rw [show cells + (h1.1 - h.1) + (h'.1 - h1.1) = cells + (h'.1 - h.1) by omega, show slots + (h1.2.1 - h.2.1) + (h'.2.1 - h1.2.1) = slots + (h'.2.1 - h.2.1) by omega]
        exact k1
      · rename_i rv1 hd
        cases hp
        have k1 := kk H locs ls pc e st he (am_do_ret hd) X
        rw [Nat.sub_self, Nat.sub_self] at k1
        exact k1
      · rename_i j as rest hd
        split at hp
        · cases hp
        · rename_i d1
          split at hp
          · cases hp
          · rename_i rv1 h1 hc
            obtain ⟨hk9, hd21, hfit⟩ := am_do_call hd
            have m1 := am_exec_mono _ _ _ _ _ _ _ _ _ hc
            have m2 := am_exec_mono _ _ _ _ _ _ _ _ _ hp
            have a1 := m1.1
            have a2 := m2.1
            have b1 := m1.2.1
            have b2 := m2.2.1
            have hok2 := hok
            unfold am_okB at hok2
            simp only [Bool.and_eq_true, decide_eq_true_eq, Bool.or_eq_true, beq_iff_eq] at hok2
            obtain ⟨⟨hdg, hln0⟩, hokA⟩ := hok2
            have hln : am_ln e.1 = e.2.1 := hln0.resolve_left (am_ln_nz (by rw [hk9]; decide))
            have hbb : b0 < base := C.2.2.2.2.2.2.2.2.2.2
            have cont : ∀ (H' : Heap) (locs' : List Loc), am_At D cy b0 base s h1 H' locs' → W p l en R s m args below meth c H' locs' (cells + (h1.1 - h.1)) (slots + (h1.2.1 - h.2.1)) Q (F0 m (pc + 3) ls (am_sm (am_t b0 base) (rv1.toList ++ rest))) := by
              intro H' locs' hX'
              refine ih (d1 + 1) i (pc + 3) lv (rv1.toList ++ rest) h1 rv h' hp p l en R s m args below meth c H' locs' _ _ Q D cy b0 base q ls hi C hX' hl hfr hlc (by omega) (by omega) ?_
              intro H2 locs2 ls2 pc2 e2 st2 f2 d2 x2
              have k1 := kk H2 locs2 ls2 pc2 e2 st2 f2 d2 x2
              rw [show cells + (h1.1 - h.1) + (h'.1 - h1.1) = cells + (h'.1 - h.1) by omega, show slots + (h1.2.1 - h.2.1) + (h'.2.1 - h1.2.1) = slots + (h'.2.1 - h.2.1) by omega]
              exact k1
            by_cases hmt : am_mth j = true
            · refine am_wmath C hl.1 hk9 hdg hln hokA (am_n4F he) hd21 hmt (by omega) (by omega) hc (by omega) (by omega) hcw ?_
              intro eh
              have k9 := cont H locs (by rw [eh]; exact X)
              rw [eh, Nat.sub_self, Nat.sub_self] at k9
              exact k9
            · exact am_wcall (d := d1) C X hl.1 hk9 hdg hln hokA hd21 (by omega) (by omega) (by omega) (by omega) m1.2.2 (fun qj hj => am_metOf hall ih hbb hj ((hpl _ _ hj).resolve_right hmt) hfit hc) hcw cont
