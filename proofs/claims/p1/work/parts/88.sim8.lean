theorem am_ln_nz {ins : Instr} (h : am_kind ins ≠ 10) : am_ln ins ≠ 0 := by
  cases ins <;> simp [am_ln, am_kind] at h ⊢
section AMW8
variable {p : Program} {l : Launch} {en : Env} {R : Room} {s : State} {m : MethodId} {args : Array Value} {below : List Frame} {meth : Method} {c : Code} {H : Heap} {locs : List Loc} {cells slots : Nat} {Q : State → Prop}
variable {D : va_G} {cy : Nat → ClassId} {b0 base pc : Nat} {q : am_M} {ls : Array Slot} {lv : am_L} {rest : List Value} {e : am_I} {st : List Value} {h : am_H} {pc' : Nat} {lv' : am_L} {st' : List Value} {h' : am_H}
theorem am_step {i : Nat} (C : am_Cx p s m args meth c D cy b0 base q) (X : am_At D cy b0 base s h H locs) (hl : lv_has ls q.2.2.1 (am_lm (am_t b0 base) lv)) (hf : am_okB q pc e = true) (hp : am_do i pc e lv st h = some (.inl (pc', lv', st', h')))
    (hfr : 1 ≤ R.frames) (hlc : 60 ≤ R.locals) (hrc : cells + (h'.1 - h.1) ≤ R.cells) (hrs : slots + (h'.2.1 - h.2.1) ≤ R.slots)
    (kk : ∀ (H' : Heap) (locs' : List Loc) (ls' : Array Slot), am_At D cy b0 base s h' H' locs' → lv_has ls' q.2.2.1 (am_lm (am_t b0 base) lv') → W p l en R s m args below meth c H' locs' (cells + (h'.1 - h.1)) (slots + (h'.2.1 - h.2.1)) Q (F0 m pc' ls' (am_sm (am_t b0 base) st'))) : W p l en R s m args below meth c H locs cells slots Q (F0 m pc ls (am_sm (am_t b0 base) st)) := by
  have hlz : ls.size = q.2.2.1 := hl.1
  unfold am_okB at hf
  simp only [Bool.and_eq_true, decide_eq_true_eq, Bool.or_eq_true, beq_iff_eq] at hf
  obtain ⟨⟨hdg, hln0⟩, hok⟩ := hf
  have hln : am_kind e.1 ≠ 10 → am_ln e.1 = e.2.1 := fun hz => hln0.resolve_left (am_ln_nz hz)
  have same : h' = h → ∀ (ls' : Array Slot), lv_has ls' q.2.2.1 (am_lm (am_t b0 base) lv') → W p l en R s m args below meth c H locs cells slots Q (F0 m pc' ls' (am_sm (am_t b0 base) st')) := by
    intro hh ls' hl'
    subst hh
    have k1 := kk H locs ls' X hl'
    rw [Nat.sub_self, Nat.sub_self] at k1
    exact k1
  have pure : h' = h → ∀ (ls' : Array Slot) (pc2 : Nat) (lv2 : am_L) (st2 : List Value), (Sum.inl (pc', lv', st', h') : am_N) = .inl (pc2, lv2, st2, h) → lv_has ls' q.2.2.1 (am_lm (am_t b0 base) lv2) → W p l en R s m args below meth c H locs cells slots Q (F0 m pc2 ls' (am_sm (am_t b0 base) st2)) := by
    intro hh ls' pc2 lv2 st2 he hl'
    cases he
    exact same rfl ls' hl'
  have put : am_le h h' → h'.1 = h.1 → h'.2.1 = h.2.1 → lv' = lv → ∀ (H' : Heap) (locs' : List Loc), am_At D cy b0 base s h' H' locs' → W p l en R s m args below meth c H' locs' cells slots Q (F0 m pc' ls (am_sm (am_t b0 base) st')) := by
    intro _ h1 h2 h3 H' locs' hX
    subst h3
    have k1 := kk H' locs' ls hX hl
    rw [h1, h2, Nat.sub_self, Nat.sub_self] at k1
    exact k1
  unfold am_do at hp
  split at hp
  · rename_i hk
    have hh := am_m0 hp
    obtain ⟨v, hv, he⟩ := Option.map_eq_some_iff.mp hp
    cases he
    exact am_w0 C hdg (hln (by rw [hk]; decide)) hok hl hv (same rfl ls hl)
  · rename_i hk
    exact am_w1 C hdg (hln (by rw [hk]; decide)) hok hl hp (pure (am_m1 hp))
  · rename_i hk
    have hh := am_m2 hp
    unfold am_d2 at hp
    split at hp
    · obtain ⟨v, hv, he⟩ := Option.map_eq_some_iff.mp hp
      cases he
      exact am_w2 C hdg (hln (by rw [hk]; decide)) hv (same rfl ls hl)
    · cases hp
  · rename_i hk
    have hh := am_m3 hp
    unfold am_d3 at hp
    split at hp
    · obtain ⟨v, hv, he⟩ := Option.map_eq_some_iff.mp hp
      cases he
      exact am_w3 C hdg (hln (by rw [hk]; decide)) hv (same rfl ls hl)
    · cases hp
  · rename_i hk
    have hh := am_m4 hp
    unfold am_d4 at hp
    split at hp
    · obtain ⟨v, hv, he⟩ := Option.map_eq_some_iff.mp hp
      cases he
      exact am_w4 C hdg (hln (by rw [hk]; decide)) hv (same rfl ls hl)
    · cases hp
  · rename_i hk
    have hh := am_m5 hp
    unfold am_d5 at hp
    split at hp
    · obtain ⟨v, hv, he⟩ := Option.map_eq_some_iff.mp hp
      cases he
      exact am_w5 C hdg (hln (by rw [hk]; decide)) hv (same rfl ls hl)
    · cases hp
  · rename_i hk
    have hh := am_m6 hp
    unfold am_d6 at hp
    split at hp
    · obtain ⟨v, hv, he⟩ := Option.map_eq_some_iff.mp hp
      cases he
      exact am_w6 C hdg (hln (by rw [hk]; decide)) hv (same rfl ls hl)
    · cases hp
  · rename_i hk
    exact am_w7 C hdg (hln (by rw [hk]; decide)) hok hl hp (pure (am_m7 hp))
  · rename_i hk
    exact am_w8 C hdg (hln (by rw [hk]; decide)) hok hl hp (pure (am_m8 hp))
  · rename_i hk
    exact am_w9 C hdg (hln (by rw [hk]; decide)) hok hl hp (pure (am_m9 hp))
  · exact am_w10 C hdg hok hl hp (pure (am_m10 hp))
  · rename_i hk
    exact am_w11 C hdg (hln (by rw [hk]; decide)) hok hl hp (pure (am_m11 hp))
  · rename_i hk
    exact am_w12 C hdg (hln (by rw [hk]; decide)) hl hp (pure (am_m12 hp))
  · rename_i hk
    exact am_w13 C X hdg (hln (by rw [hk]; decide)) hl hp (pure (am_m13 hp))
  · rename_i hk
    have hm := am_m14 hp
    refine am_w14 C X hdg (hln (by rw [hk]; decide)) hp fun H' locs' pc2 st2 h2 he e1 e2 hX => ?_
    cases he
    exact put hm.1 e1 e2 rfl H' locs' hX
  · rename_i hk
    have h1 := hln (by rw [hk]; decide)
    obtain ⟨ins, len, aux⟩ := e
    simp only at hdg h1 hk
    cases ins <;> try (simp [am_kind] at hk; done)
    case arraylength =>
      subst h1
      exact am_w15 C X hdg hl hp (pure (am_m15 hp))
  · rename_i hk
    have h1 := hln (by rw [hk]; decide)
    have hm := am_m16 hp
    obtain ⟨ins, len, aux⟩ := e
    simp only at hdg h1 hk
    cases ins <;> try (simp [am_kind] at hk; done)
    case getfield idx =>
      subst h1
      exact am_w16 C X rfl hdg hok hl hp (pure hm)
  · rename_i hk
    have h1 := hln (by rw [hk]; decide)
    have hm := am_m17 hp
    obtain ⟨ins, len, aux⟩ := e
    simp only at hdg h1 hk
    cases ins <;> try (simp [am_kind] at hk; done)
    case putfield idx =>
      subst h1
      refine am_w17 C X rfl hdg hok hp fun H' locs' pc2 st2 h2 he e1 e2 hX => ?_
      cases he
      exact put hm.1 e1 e2 rfl H' locs' hX
  · rename_i hk
    have h1 := hln (by rw [hk]; decide)
    obtain ⟨ins, len, aux⟩ := e
    simp only at hdg h1 hk
    cases ins <;> try (simp [am_kind] at hk; done)
    case new idx =>
      subst h1
      refine am_w18 C X rfl hdg hok hp hrc hrs fun H' e9 hX => ?_
      subst e9
      exact kk H' locs ls hX hl
  · rename_i hk
    have h1 := hln (by rw [hk]; decide)
    obtain ⟨ins, len, aux⟩ := e
    simp only at hdg h1 hk
    cases ins <;> try (simp [am_kind] at hk; done)
    case newarray idx =>
      subst h1
      refine am_w19 C X rfl hdg hok hp hrc hrs fun H' e9 hX => ?_
      subst e9
      exact kk H' locs ls hX hl
  · rename_i hk
    have h1 := hln (by rw [hk]; decide)
    obtain ⟨ins, len, aux⟩ := e
    simp only at hdg h1 hk
    cases ins <;> try (simp [am_kind] at hk; done)
    case multianewarray idx dm =>
      subst h1
      refine am_w20 C X rfl hdg hok hp hrc hrs fun H' e9 hX => ?_
      subst e9
      exact kk H' locs ls hX hl
  · rename_i hk
    have hm := am_m21 hp
    refine am_w21 C X hlz hk hdg (hln (by rw [hk]; decide)) hok hp hfr hlc fun H' locs' e9 e1 e2 hX => ?_
    subst e9
    exact put hm.1 e1 e2 rfl H' locs' hX
  · exact (am_m22 hp).elim
  · cases hp
end AMW8
