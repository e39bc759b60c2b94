theorem am_sl_len (t : Nat → Nat) (as : List Value) : (lg_sl (am_sm t as)).length = am_cat as := by
  unfold lg_sl am_sm am_cat
  induction as with
  | nil => rfl
  | cons v vs ih =>
    simp only [List.map_cons, List.flatMap_cons, List.length_append, List.sum_cons, ih, am_v_cat]
    congr 1
    by_cases hc : v.category = 2
    · simp [hc]
    · have : v.category = 1 := by cases v <;> first | rfl | (exfalso; exact hc rfl)
      simp [this]
theorem am_do_call {i pc : Nat} {e : am_I} {lv : am_L} {st : List Value} {h : am_H} {j : Nat} {as rest : List Value} (hp : am_do i pc e lv st h = some (.inr (.inl (j, as, rest)))) : am_kind e.1 = 21 ∧ am_d21 pc e lv st h = some (.inr (.inl (j, as, rest))) ∧ am_fitsL j as = true := by
  unfold am_do at hp
  have nm : ∀ {o : Option Value} {f : Value → am_N}, (∀ v, f v ≠ .inr (.inl (j, as, rest))) → o.map f = some (.inr (.inl (j, as, rest))) → False := by
    intro o f hf hz
    obtain ⟨v, -, hv⟩ := Option.map_eq_some_iff.mp hz
    exact hf v hv
  split at hp
  · unfold am_d0 at hp; exact (nm (fun v hv => by cases hv) hp).elim
  · unfold am_d1 at hp
    split at hp <;> cases hp
  · unfold am_d2 at hp
    split at hp
    · obtain ⟨v, -, hv⟩ := Option.map_eq_some_iff.mp hp
      cases hv
    · cases hp
  · unfold am_d3 at hp
    split at hp
    · obtain ⟨v, -, hv⟩ := Option.map_eq_some_iff.mp hp
      cases hv
    · cases hp
  · unfold am_d4 at hp
    split at hp
    · obtain ⟨v, -, hv⟩ := Option.map_eq_some_iff.mp hp
      cases hv
    · cases hp
  · unfold am_d5 at hp
    split at hp
    · obtain ⟨v, -, hv⟩ := Option.map_eq_some_iff.mp hp
      cases hv
    · cases hp
  · unfold am_d6 at hp
    split at hp
    · obtain ⟨v, -, hv⟩ := Option.map_eq_some_iff.mp hp
      cases hv
    · cases hp
  · unfold am_d7 at hp
    split at hp <;> cases hp
  · unfold am_d8 at hp
    split at hp <;> cases hp
  · unfold am_d9 at hp
    split at hp <;> cases hp
  · unfold am_d10 at hp
    split at hp
    · split at hp
      · cases hp
      · split at hp <;> cases hp
    · cases hp
  · unfold am_d11 at hp
    split at hp
    · split at hp <;> cases hp
    · cases hp
  · unfold am_d12 at hp
    split at hp <;> first | (cases hp; done) | (split at hp <;> cases hp)
  · unfold am_d13 at hp
    split at hp
    · split at hp
      · obtain ⟨v, -, hv⟩ := Option.map_eq_some_iff.mp hp
        cases hv
      · cases hp
    · cases hp
  · unfold am_d14 at hp
    split at hp
    · split at hp
      · obtain ⟨v, -, hv⟩ := Option.map_eq_some_iff.mp hp
        cases hv
      · cases hp
    · cases hp
  · unfold am_d15 at hp
    split at hp
    · split at hp
      · obtain ⟨v, -, hv⟩ := Option.map_eq_some_iff.mp hp
        cases hv
      · cases hp
    · cases hp
  · unfold am_d16 at hp
    split at hp
    · split at hp
      · split at hp
        · split at hp
          · obtain ⟨v, -, hv⟩ := Option.map_eq_some_iff.mp hp
            cases hv
          · cases hp
        · cases hp
      · cases hp
    · cases hp
  · unfold am_d17 at hp
    split at hp
    · split at hp
      · split at hp
        · split at hp <;> cases hp
        · cases hp
      · cases hp
    · cases hp
  · unfold am_d18 at hp
    split at hp
    · split at hp <;> cases hp
    · cases hp
  · unfold am_d19 at hp
    split at hp
    · split at hp
      · split at hp <;> cases hp
      · cases hp
    · cases hp
  · unfold am_d20 at hp
    split at hp
    · split at hp <;> cases hp
    · split at hp <;> cases hp
    · cases hp
  · rename_i hk
    refine ⟨hk, hp, ?_⟩
    unfold am_d21 at hp
    split at hp
    · split at hp
      · split at hp <;> cases hp
      · cases hp
    · split at hp
      · split at hp
        · obtain ⟨v, -, hv⟩ := Option.map_eq_some_iff.mp hp
          cases hv
        · cases hp
      · cases hp
    · obtain ⟨rfl, -, -, -, -, hz⟩ := am_call_spec hp
      exact hz
    · obtain ⟨rfl, -, -, -, -, hz⟩ := am_call_spec hp
      exact hz
    · obtain ⟨rfl, -, -, -, -, hz⟩ := am_call_spec hp
      exact hz
    · obtain ⟨rfl, -, -, -, -, hz⟩ := am_call_spec hp
      exact hz
    · cases hp
  · unfold am_d22 at hp
    split at hp
    · split at hp
      · split at hp <;> cases hp
      · cases hp
    · split at hp <;> cases hp
    · split at hp <;> cases hp
    · split at hp <;> cases hp
    · cases hp
  · cases hp
theorem am_do_ret {i pc : Nat} {e : am_I} {lv : am_L} {st : List Value} {h : am_H} {rv : Option Value} (hp : am_do i pc e lv st h = some (.inr (.inr rv))) : am_d22 i e st = some (.inr (.inr rv)) := by
  unfold am_do at hp
  split at hp
  · unfold am_d0 at hp
    obtain ⟨v, -, hv⟩ := Option.map_eq_some_iff.mp hp
    cases hv
  · unfold am_d1 at hp
    split at hp <;> cases hp
  · unfold am_d2 at hp
    split at hp
    · obtain ⟨v, -, hv⟩ := Option.map_eq_some_iff.mp hp
      cases hv
    · cases hp
  · unfold am_d3 at hp
    split at hp
    · obtain ⟨v, -, hv⟩ := Option.map_eq_some_iff.mp hp
      cases hv
    · cases hp
  · unfold am_d4 at hp
    split at hp
    · obtain ⟨v, -, hv⟩ := Option.map_eq_some_iff.mp hp
      cases hv
    · cases hp
  · unfold am_d5 at hp
    split at hp
    · obtain ⟨v, -, hv⟩ := Option.map_eq_some_iff.mp hp
      cases hv
    · cases hp
  · unfold am_d6 at hp
    split at hp
    · obtain ⟨v, -, hv⟩ := Option.map_eq_some_iff.mp hp
      cases hv
    · cases hp
  · unfold am_d7 at hp
    split at hp <;> cases hp
  · unfold am_d8 at hp
    split at hp <;> cases hp
  · unfold am_d9 at hp
    split at hp <;> cases hp
  · unfold am_d10 at hp
    split at hp
    · split at hp
      · cases hp
      · split at hp <;> cases hp
    · cases hp
  · unfold am_d11 at hp
    split at hp
    · split at hp <;> cases hp
    · cases hp
  · unfold am_d12 at hp
    split at hp <;> first | (cases hp; done) | (split at hp <;> cases hp)
  · unfold am_d13 at hp
    split at hp
    · split at hp
      · obtain ⟨v, -, hv⟩ := Option.map_eq_some_iff.mp hp
        cases hv
      · cases hp
    · cases hp
  · unfold am_d14 at hp
    split at hp
    · split at hp
      · obtain ⟨v, -, hv⟩ := Option.map_eq_some_iff.mp hp
        cases hv
      · cases hp
    · cases hp
  · unfold am_d15 at hp
    split at hp
    · split at hp
      · obtain ⟨v, -, hv⟩ := Option.map_eq_some_iff.mp hp
        cases hv
      · cases hp
    · cases hp
  · unfold am_d16 at hp
    split at hp
    · split at hp
      · split at hp
        · split at hp
          · obtain ⟨v, -, hv⟩ := Option.map_eq_some_iff.mp hp
            cases hv
          · cases hp
        · cases hp
      · cases hp
    · cases hp
  · unfold am_d17 at hp
    split at hp
    · split at hp
      · split at hp
        · split at hp <;> cases hp
        · cases hp
      · cases hp
    · cases hp
  · unfold am_d18 at hp
    split at hp
    · split at hp <;> cases hp
    · cases hp
  · unfold am_d19 at hp
    split at hp
    · split at hp
      · split at hp <;> cases hp
      · cases hp
    · cases hp
  · unfold am_d20 at hp
    split at hp
    · split at hp <;> cases hp
    · split at hp <;> cases hp
    · cases hp
  · have nocall : ∀ {j n : Nat} {ok : List Value → Bool} {st : List Value}, am_call j n ok st = some (.inr (.inr rv)) → False := by
      intro j n ok st hz
      unfold am_call at hz
      split at hz <;> cases hz
    unfold am_d21 at hp
    split at hp
    · split at hp
      · split at hp <;> cases hp
      · cases hp
    · split at hp
      · split at hp
        · obtain ⟨v, -, hv⟩ := Option.map_eq_some_iff.mp hp
          cases hv
        · cases hp
      · cases hp
    · exact (nocall hp).elim
    · exact (nocall hp).elim
    · exact (nocall hp).elim
    · exact (nocall hp).elim
    · cases hp
  · exact hp
  · cases hp
