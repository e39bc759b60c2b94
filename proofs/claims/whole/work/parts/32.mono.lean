def am_le (h h' : am_H) : Prop := h.1 ≤ h'.1 ∧ h.2.1 ≤ h'.2.1 ∧ h'.2.2 0 = h.2.2 0
theorem am_le_rf (h : am_H) : am_le h h := ⟨Nat.le_refl _, Nat.le_refl _, rfl⟩
theorem am_le_tr {a b c : am_H} (h1 : am_le a b) (h2 : am_le b c) : am_le a c := ⟨Nat.le_trans h1.1 h2.1, Nat.le_trans h1.2.1 h2.2.1, h2.2.2.trans h1.2.2⟩
theorem am_le_up {h : am_H} {a : Nat} {c : am_E} (ha : 1 ≤ a) : am_le h (h.1, h.2.1, am_up h.2.2 a c) := ⟨Nat.le_refl _, Nat.le_refl _, if_neg (by omega)⟩
theorem am_le_new {h : am_H} {a n sl : Nat} {c : am_E} (ha : 1 ≤ a) (h1 : h.1 ≤ n) (h2 : h.2.1 ≤ sl) : am_le h (n, sl, am_up h.2.2 a c) := ⟨h1, h2, if_neg (by omega)⟩
section AMM
variable {pc : Nat} {e : am_I} {lv : am_L} {st : List Value} {h : am_H} {pc' : Nat} {lv' : am_L} {st' : List Value} {h' : am_H}
theorem am_m0 (hp : am_d0 pc e lv st h = some (.inl (pc', lv', st', h'))) : h' = h := by
  obtain ⟨v, -, hv⟩ := Option.map_eq_some_iff.mp hp
  cases hv; rfl
theorem am_m1 (hp : am_d1 pc e lv st h = some (.inl (pc', lv', st', h'))) : h' = h := by
  unfold am_d1 at hp
  split at hp <;> cases hp <;> rfl
theorem am_m2 (hp : am_d2 pc e lv st h = some (.inl (pc', lv', st', h'))) : h' = h := by
  unfold am_d2 at hp
  split at hp
  · obtain ⟨v, -, hv⟩ := Option.map_eq_some_iff.mp hp
    cases hv; rfl
  · cases hp
theorem am_m3 (hp : am_d3 pc e lv st h = some (.inl (pc', lv', st', h'))) : h' = h := by
  unfold am_d3 at hp
  split at hp
  · obtain ⟨v, -, hv⟩ := Option.map_eq_some_iff.mp hp
    cases hv; rfl
  · cases hp
theorem am_m4 (hp : am_d4 pc e lv st h = some (.inl (pc', lv', st', h'))) : h' = h := by
  unfold am_d4 at hp
  split at hp
  · obtain ⟨v, -, hv⟩ := Option.map_eq_some_iff.mp hp
    cases hv; rfl
  · cases hp
theorem am_m5 (hp : am_d5 pc e lv st h = some (.inl (pc', lv', st', h'))) : h' = h := by
  unfold am_d5 at hp
  split at hp
  · obtain ⟨v, -, hv⟩ := Option.map_eq_some_iff.mp hp
    cases hv; rfl
  · cases hp
theorem am_m6 (hp : am_d6 pc e lv st h = some (.inl (pc', lv', st', h'))) : h' = h := by
  unfold am_d6 at hp
  split at hp
  · obtain ⟨v, -, hv⟩ := Option.map_eq_some_iff.mp hp
    cases hv; rfl
  · cases hp
theorem am_m7 (hp : am_d7 pc e lv st h = some (.inl (pc', lv', st', h'))) : h' = h := by
  unfold am_d7 at hp
  split at hp <;> cases hp <;> rfl
theorem am_m8 (hp : am_d8 pc e lv st h = some (.inl (pc', lv', st', h'))) : h' = h := by
  unfold am_d8 at hp
  split at hp <;> cases hp <;> rfl
theorem am_m9 (hp : am_d9 pc e lv st h = some (.inl (pc', lv', st', h'))) : h' = h := by
  unfold am_d9 at hp
  split at hp <;> cases hp <;> rfl
theorem am_m10 (hp : am_d10 pc e lv st h = some (.inl (pc', lv', st', h'))) : h' = h := by
  unfold am_d10 at hp
  split at hp
  · split at hp
    · cases hp; rfl
    · split at hp <;> cases hp <;> rfl
  · cases hp
theorem am_m11 (hp : am_d11 pc e lv st h = some (.inl (pc', lv', st', h'))) : h' = h := by
  unfold am_d11 at hp
  split at hp
  · split at hp <;> cases hp <;> rfl
  · cases hp
theorem am_m12 (hp : am_d12 pc e lv st h = some (.inl (pc', lv', st', h'))) : h' = h := by
  unfold am_d12 at hp
  split at hp <;> first | (cases hp; done) | (split at hp <;> cases hp <;> rfl)
theorem am_m13 (hp : am_d13 pc e lv st h = some (.inl (pc', lv', st', h'))) : h' = h := by
  unfold am_d13 at hp
  split at hp
  · split at hp
    · obtain ⟨v, -, hv⟩ := Option.map_eq_some_iff.mp hp
      cases hv; rfl
    · cases hp
  · cases hp
theorem am_m14 (hp : am_d14 pc e lv st h = some (.inl (pc', lv', st', h'))) : am_le h h' ∧ lv' = lv := by
  unfold am_d14 at hp
  split at hp
  · split at hp
    · rename_i hc
      obtain ⟨v, -, hv⟩ := Option.map_eq_some_iff.mp hp
      cases hv
      exact ⟨am_le_up hc.1, rfl⟩
    · cases hp
  · cases hp
theorem am_m15 (hp : am_d15 pc e lv st h = some (.inl (pc', lv', st', h'))) : h' = h := by
  unfold am_d15 at hp
  split at hp
  · split at hp
    · obtain ⟨v, -, hv⟩ := Option.map_eq_some_iff.mp hp
      cases hv; rfl
    · cases hp
  · cases hp
theorem am_m16 (hp : am_d16 pc e lv st h = some (.inl (pc', lv', st', h'))) : h' = h := by
  unfold am_d16 at hp
  split at hp
  · split at hp
    · split at hp
      · split at hp
        · obtain ⟨v, -, hv⟩ := Option.map_eq_some_iff.mp hp
          cases hv; rfl
        · cases hp
      · cases hp
    · cases hp
  · cases hp
theorem am_m17 (hp : am_d17 pc e lv st h = some (.inl (pc', lv', st', h'))) : am_le h h' ∧ lv' = lv := by
  unfold am_d17 at hp
  split at hp
  · split at hp
    · rename_i hc
      split at hp
      · split at hp
        · cases hp
          exact ⟨am_le_up hc.1, rfl⟩
        · cases hp
      · cases hp
    · cases hp
  · cases hp
theorem am_m18 (hp : am_d18 pc e lv st h = some (.inl (pc', lv', st', h'))) : am_le h h' ∧ lv' = lv := by
  unfold am_d18 at hp
  split at hp
  · split at hp
    · cases hp
      exact ⟨am_le_new (by omega) (by omega) (by omega), rfl⟩
    · cases hp
  · cases hp
theorem am_m19 (hp : am_d19 pc e lv st h = some (.inl (pc', lv', st', h'))) : am_le h h' ∧ lv' = lv := by
  unfold am_d19 at hp
  split at hp
  · split at hp
    · split at hp
      · cases hp
        exact ⟨am_le_new (by omega) (by omega) (by omega), rfl⟩
      · cases hp
    · cases hp
  · cases hp
theorem am_m20 (hp : am_d20 pc e lv st h = some (.inl (pc', lv', st', h'))) : am_le h h' ∧ lv' = lv := by
  have g : ∀ (a n t : Nat) (row : vp_A) (tr : Nat), 1 ≤ a → am_rows h.2.2 a n t row tr 0 = h.2.2 0 := by
    intro a n t row tr ha
    unfold am_rows
    rw [if_neg (by omega), if_neg (by omega)]
  unfold am_d20 at hp
  split at hp
  · split at hp
    · cases hp
      exact ⟨⟨by show h.1 ≤ h.1 + 1 + _; omega, by show h.2.1 ≤ h.2.1 + _ + _; omega, by dsimp only; exact g _ _ _ _ _ (Nat.le_add_left 1 h.1)⟩, rfl⟩
    · cases hp
  · split at hp
    · cases hp
      exact ⟨⟨by show h.1 ≤ h.1 + 1 + _; omega, by show h.2.1 ≤ h.2.1 + _ + _; omega, by dsimp only; exact g _ _ _ _ _ (Nat.le_add_left 1 h.1)⟩, rfl⟩
    · cases hp
  · cases hp
theorem am_m21 (hp : am_d21 pc e lv st h = some (.inl (pc', lv', st', h'))) : am_le h h' ∧ lv' = lv := by
  have nocall : ∀ {j n : Nat} {ok : List Value → Bool} {st : List Value}, am_call j n ok st = some (.inl (pc', lv', st', h')) → False := by
    intro j n ok st hz
    unfold am_call at hz
    split at hz <;> cases hz
  unfold am_d21 at hp
  split at hp
  · split at hp
    · split at hp
      · cases hp; exact ⟨am_le_rf _, rfl⟩
      · cases hp
    · cases hp
  · split at hp
    · split at hp
      · rename_i hc
        obtain ⟨v, -, hv⟩ := Option.map_eq_some_iff.mp hp
        cases hv
        exact ⟨am_le_up hc.2.2.1, rfl⟩
      · cases hp
    · cases hp
  · exact (nocall hp).elim
  · exact (nocall hp).elim
  · exact (nocall hp).elim
  · exact (nocall hp).elim
  · cases hp
theorem am_m22 {i : Nat} (hp : am_d22 i e st = some (.inl (pc', lv', st', h'))) : False := by
  unfold am_d22 at hp
  split at hp
  · split at hp
    · split at hp <;> cases hp
    · cases hp
  · split at hp <;> cases hp
  · split at hp <;> cases hp
  · split at hp <;> cases hp
  · cases hp
theorem am_do_mono {i : Nat} (hp : am_do i pc e lv st h = some (.inl (pc', lv', st', h'))) : am_le h h' := by
  unfold am_do at hp
  split at hp
  · rw [am_m0 hp]; exact am_le_rf _
  · rw [am_m1 hp]; exact am_le_rf _
  · rw [am_m2 hp]; exact am_le_rf _
  · rw [am_m3 hp]; exact am_le_rf _
  · rw [am_m4 hp]; exact am_le_rf _
  · rw [am_m5 hp]; exact am_le_rf _
  · rw [am_m6 hp]; exact am_le_rf _
  · rw [am_m7 hp]; exact am_le_rf _
  · rw [am_m8 hp]; exact am_le_rf _
  · rw [am_m9 hp]; exact am_le_rf _
  · rw [am_m10 hp]; exact am_le_rf _
  · rw [am_m11 hp]; exact am_le_rf _
  · rw [am_m12 hp]; exact am_le_rf _
  · rw [am_m13 hp]; exact am_le_rf _
  · exact (am_m14 hp).1
  · rw [am_m15 hp]; exact am_le_rf _
  · rw [am_m16 hp]; exact am_le_rf _
  · exact (am_m17 hp).1
  · exact (am_m18 hp).1
  · exact (am_m19 hp).1
  · exact (am_m20 hp).1
  · exact (am_m21 hp).1
  · exact (am_m22 hp).elim
  · cases hp
end AMM
theorem am_exec_mono : ∀ (f d i pc : Nat) (lv : am_L) (st : List Value) (h : am_H) (rv : Option Value) (h' : am_H), am_exec f d i pc lv st h = some (rv, h') → am_le h h' := by
  intro f
  induction f with
  | zero => intro d i pc lv st h rv h' hp; cases hp
  | succ f ih =>
    intro d i pc lv st h rv h' hp
    unfold am_exec at hp
    split at hp
    · cases hp
    · rename_i e he
      split at hp
      · cases hp
      · rename_i pc1 lv1 st1 h1 hd
        exact am_le_tr (am_do_mono hd) (ih _ _ _ _ _ _ _ _ hp)
      · cases hp; exact am_le_rf _
      · rename_i j as rest hd
        split at hp
        · cases hp
        · rename_i d1
          split at hp
          · cases hp
          · rename_i rv1 h1 hc
            exact am_le_tr (ih _ _ _ _ _ _ _ _ hc) (ih _ _ _ _ _ _ _ _ hp)
