/-! more may be kept in a method's places than it uses -/
theorem am_ld_app {lv t : am_L} {k : Nat} {v : Value} (h : am_ld lv k = some v) : am_ld (lv ++ t) k = some v := by
  unfold am_ld at h ⊢
  rw [List.find?_append]
  cases hf : lv.find? (fun q => q.1 == k) with
  | none => rw [hf] at h; cases h
  | some q => rw [hf] at h; exact h
theorem am_isI_app {lv t : am_L} {k : Nat} {v : Value} (h : am_isI (am_ld lv k) = some v) : am_isI (am_ld (lv ++ t) k) = some v := by
  obtain ⟨x, h1, rfl⟩ := am_isI_spec h
  rw [am_ld_app h1]; rfl
theorem am_isJ_app {lv t : am_L} {k : Nat} {v : Value} (h : am_isJ (am_ld lv k) = some v) : am_isJ (am_ld (lv ++ t) k) = some v := by
  obtain ⟨x, h1, rfl⟩ := am_isJ_spec h
  rw [am_ld_app h1]; rfl
theorem am_isA_app {lv t : am_L} {k : Nat} {v : Value} (h : am_isA (am_ld lv k) = some v) : am_isA (am_ld (lv ++ t) k) = some v := by
  obtain ⟨x, h1, rfl⟩ := am_isA_spec h
  rw [am_ld_app h1]; rfl
theorem am_push_app {ins : Instr} {aux : List Nat} {lv t : am_L} {v : Value} (h : am_push ins aux lv = some v) : am_push ins aux (lv ++ t) = some v := by
  cases ins <;> first | exact h | exact am_isI_app h | exact am_isJ_app h | exact am_isA_app h
theorem am_st1_app (lv t : am_L) (k : Nat) (v : Value) : ∃ t2, am_st1 (lv ++ t) k v = am_st1 lv k v ++ t2 := by
  unfold am_st1
  rw [List.filter_append]
  exact ⟨_, rfl⟩
theorem am_st2_app (lv t : am_L) (k : Nat) (v : Value) : ∃ t2, am_st2 (lv ++ t) k v = am_st2 lv k v ++ t2 := by
  unfold am_st2
  rw [List.filter_append]
  exact ⟨_, rfl⟩
def am_xN (t : am_L) : am_N → am_N
  | .inl (pc, lv, st, h) => .inl (pc, lv ++ t, st, h)
  | .inr x => .inr x
theorem am_ext_do {i pc : Nat} {e : am_I} {lv : am_L} {st : List Value} {h : am_H} {nx : am_N} (t : am_L) (hp : am_do i pc e lv st h = some nx) : ∃ t2, am_do i pc e (lv ++ t) st h = some (am_xN t2 nx) := by
  unfold am_do at hp ⊢
  split at hp
  · unfold am_d0 at hp ⊢
    obtain ⟨v, hv, hn⟩ := Option.map_eq_some_iff.mp hp
    exact ⟨t, by rw [am_push_app hv, ← hn]; rfl⟩
  · unfold am_d1 at hp ⊢
    split at hp
    · rename_i k x r hs
      obtain ⟨t2, h2⟩ := am_st1_app lv t k (.int x)
      cases hp
      exact ⟨t2, by show some (Sum.inl (pc + e.2.1, am_st1 (lv ++ t) k (.int x), r, h)) = _; rw [h2]; rfl⟩
    · rename_i k x r hs
      obtain ⟨t2, h2⟩ := am_st2_app lv t k (.long x)
      cases hp
      exact ⟨t2, by show some (Sum.inl (pc + e.2.1, am_st2 (lv ++ t) k (.long x), r, h)) = _; rw [h2]; rfl⟩
    · rename_i k x r hs
      obtain ⟨t2, h2⟩ := am_st1_app lv t k (.ref x)
      cases hp
      exact ⟨t2, by show some (Sum.inl (pc + e.2.1, am_st1 (lv ++ t) k (.ref x), r, h)) = _; rw [h2]; rfl⟩
    · cases hp
  · refine ⟨t, ?_⟩
    have g : am_d2 pc e (lv ++ t) st h = (am_d2 pc e lv st h).map (am_xN t) := by
      unfold am_d2
      split
      · generalize am_ii _ _ _ = z; cases z <;> rfl
      · rfl
    rw [g, hp]; rfl
  · refine ⟨t, ?_⟩
    have g : am_d3 pc e (lv ++ t) st h = (am_d3 pc e lv st h).map (am_xN t) := by
      unfold am_d3
      split
      · generalize am_jj _ _ _ = z; cases z <;> rfl
      · rfl
    rw [g, hp]; rfl
  · refine ⟨t, ?_⟩
    have g : am_d4 pc e (lv ++ t) st h = (am_d4 pc e lv st h).map (am_xN t) := by
      unfold am_d4
      split
      · generalize am_ji _ _ _ = z; cases z <;> rfl
      · rfl
    rw [g, hp]; rfl
  · refine ⟨t, ?_⟩
    have g : am_d5 pc e (lv ++ t) st h = (am_d5 pc e lv st h).map (am_xN t) := by
      unfold am_d5
      split
      · generalize am_i1 _ _ = z; cases z <;> rfl
      · rfl
    rw [g, hp]; rfl
  · refine ⟨t, ?_⟩
    have g : am_d6 pc e (lv ++ t) st h = (am_d6 pc e lv st h).map (am_xN t) := by
      unfold am_d6
      split
      · generalize am_j1 _ _ = z; cases z <;> rfl
      · rfl
    rw [g, hp]; rfl
  · refine ⟨t, ?_⟩
    have g : am_d7 pc e (lv ++ t) st h = (am_d7 pc e lv st h).map (am_xN t) := by
      unfold am_d7
      split <;> rfl
    rw [g, hp]; rfl
  · refine ⟨t, ?_⟩
    have g : am_d8 pc e (lv ++ t) st h = (am_d8 pc e lv st h).map (am_xN t) := by
      unfold am_d8
      split <;> rfl
    rw [g, hp]; rfl
  · refine ⟨t, ?_⟩
    have g : am_d9 pc e (lv ++ t) st h = (am_d9 pc e lv st h).map (am_xN t) := by
      unfold am_d9
      split <;> rfl
    rw [g, hp]; rfl
  · refine ⟨t, ?_⟩
    have g : am_d10 pc e (lv ++ t) st h = (am_d10 pc e lv st h).map (am_xN t) := by
      unfold am_d10
      split
      · split
        · rfl
        · split <;> rfl
      · rfl
    rw [g, hp]; rfl
  · unfold am_d11 at hp ⊢
    cases hi : e.1 <;> rw [hi] at hp <;> first | (cases hp; done) | skip
    rename_i k n
    simp only at hp ⊢
    cases hl : am_ld lv k with
    | none => rw [hl] at hp; cases hp
    | some v =>
      rw [hl] at hp
      rw [am_ld_app hl]
      cases v <;> first | (cases hp; done) | skip
      rename_i x
      obtain ⟨t2, h2⟩ := am_st1_app lv t k (.int (x + Int32.ofInt n))
      cases hp
      exact ⟨t2, by show some (Sum.inl (pc + 3, am_st1 (lv ++ t) k (.int (x + Int32.ofInt n)), st, h)) = _; rw [h2]; rfl⟩
  · refine ⟨t, ?_⟩
    have g : am_d12 pc e (lv ++ t) st h = (am_d12 pc e lv st h).map (am_xN t) := by
      unfold am_d12
      split <;> first | rfl | (split <;> rfl)
    rw [g, hp]; rfl
  · refine ⟨t, ?_⟩
    have g : am_d13 pc e (lv ++ t) st h = (am_d13 pc e lv st h).map (am_xN t) := by
      unfold am_d13
      split
      · split
        · generalize am_ald _ _ _ = z; cases z <;> rfl
        · rfl
      · rfl
    rw [g, hp]; rfl
  · refine ⟨t, ?_⟩
    have g : am_d14 pc e (lv ++ t) st h = (am_d14 pc e lv st h).map (am_xN t) := by
      unfold am_d14
      split
      · split
        · generalize am_ast _ _ _ _ = z; cases z <;> rfl
        · rfl
      · rfl
    rw [g, hp]; rfl
  · refine ⟨t, ?_⟩
    have g : am_d15 pc e (lv ++ t) st h = (am_d15 pc e lv st h).map (am_xN t) := by
      unfold am_d15
      split
      · split
        · generalize am_len _ = z; cases z <;> rfl
        · rfl
      · rfl
    rw [g, hp]; rfl
  · refine ⟨t, ?_⟩
    have g : am_d16 pc e (lv ++ t) st h = (am_d16 pc e lv st h).map (am_xN t) := by
      unfold am_d16
      split
      · split
        · split
          · split
            · rw [Option.map_map]; rfl
            · rfl
          · rfl
        · rfl
      · rfl
    rw [g, hp]; rfl
  · refine ⟨t, ?_⟩
    have g : am_d17 pc e (lv ++ t) st h = (am_d17 pc e lv st h).map (am_xN t) := by
      unfold am_d17
      split
      · split
        · split
          · split <;> rfl
          · rfl
        · rfl
      · rfl
    rw [g, hp]; rfl
  · refine ⟨t, ?_⟩
    have g : am_d18 pc e (lv ++ t) st h = (am_d18 pc e lv st h).map (am_xN t) := by
      unfold am_d18
      split
      · split <;> rfl
      · rfl
    rw [g, hp]; rfl
  · refine ⟨t, ?_⟩
    have g : am_d19 pc e (lv ++ t) st h = (am_d19 pc e lv st h).map (am_xN t) := by
      unfold am_d19
      split
      · split
        · split <;> rfl
        · rfl
      · rfl
    rw [g, hp]; rfl
  · refine ⟨t, ?_⟩
    have g : am_d20 pc e (lv ++ t) st h = (am_d20 pc e lv st h).map (am_xN t) := by
      unfold am_d20
      split
      · split <;> rfl
      · split <;> rfl
      · rfl
    rw [g, hp]; rfl
  · refine ⟨t, ?_⟩
    have gc : ∀ (j n : Nat) (ok : List Value → Bool) (s2 : List Value), (am_call j n ok s2).map (am_xN t) = am_call j n ok s2 := by
      intro j n ok s2
      unfold am_call
      split <;> rfl
    have g : am_d21 pc e (lv ++ t) st h = (am_d21 pc e lv st h).map (am_xN t) := by
      unfold am_d21
      split
      · split
        · split <;> rfl
        · rfl
      · split
        · split
          · generalize am_cp _ _ _ _ _ = z; cases z <;> rfl
          · rfl
        · rfl
      · rw [gc]
      · rw [gc]
      · rw [gc]
      · rw [gc]
      · rfl
    rw [g, hp]; rfl
  · refine ⟨t, ?_⟩
    have g : (am_d22 i e st).map (am_xN t) = am_d22 i e st := by
      unfold am_d22
      split
      · split
        · split <;> rfl
        · rfl
      · split <;> rfl
      · split <;> rfl
      · split <;> rfl
      · rfl
    rw [← g, hp]; rfl
  · cases hp
theorem am_ext : ∀ (f d i pc : Nat) (lv t : am_L) (st : List Value) (h : am_H) (r : Option Value × am_H), am_exec f d i pc lv st h = some r → am_exec f d i pc (lv ++ t) st h = some r := by
  intro f
  induction f with
  | zero => intro d i pc lv t st h r hp; cases hp
  | succ f ih =>
    intro d i pc lv t st h r hp
    unfold am_exec at hp ⊢
    split at hp
    · cases hp
    · rename_i e he
      split at hp
      · cases hp
      · rename_i pc1 lv1 st1 h1 hd
        obtain ⟨t2, h2⟩ := am_ext_do t hd
        simp only [h2, am_xN]
        exact ih _ _ _ _ _ _ _ _ hp
      · rename_i rv1 hd
        obtain ⟨t2, h2⟩ := am_ext_do t hd
        simp only [h2, am_xN]
        exact hp
      · rename_i j as rest hd
        obtain ⟨t2, h2⟩ := am_ext_do t hd
        simp only [h2, am_xN]
        split at hp
        · cases hp
        · rename_i d1
          split at hp
          · cases hp
          · rename_i rv1 h1 hc
            try simp only [hc]
            exact ih _ _ _ _ _ _ _ _ hp
