/-! a method's places: their order, and those that it does not use, do no harm -/
def am_yN (lv : am_L) : am_N → am_N
  | .inl (pc, _, st, h) => .inl (pc, lv, st, h)
  | .inr x => .inr x
theorem am_y2 (pc : Nat) (e : am_I) (st : List Value) (h : am_H) (lv : am_L) : am_d2 pc e lv st h = (am_d2 pc e [] st h).map (am_yN lv) := by
  unfold am_d2
  split
  · generalize am_ii _ _ _ = z; cases z <;> rfl
  · rfl
theorem am_y3 (pc : Nat) (e : am_I) (st : List Value) (h : am_H) (lv : am_L) : am_d3 pc e lv st h = (am_d3 pc e [] st h).map (am_yN lv) := by
  unfold am_d3
  split
  · generalize am_jj _ _ _ = z; cases z <;> rfl
  · rfl
theorem am_y4 (pc : Nat) (e : am_I) (st : List Value) (h : am_H) (lv : am_L) : am_d4 pc e lv st h = (am_d4 pc e [] st h).map (am_yN lv) := by
  unfold am_d4
  split
  · generalize am_ji _ _ _ = z; cases z <;> rfl
  · rfl
theorem am_y5 (pc : Nat) (e : am_I) (st : List Value) (h : am_H) (lv : am_L) : am_d5 pc e lv st h = (am_d5 pc e [] st h).map (am_yN lv) := by
  unfold am_d5
  split
  · generalize am_i1 _ _ = z; cases z <;> rfl
  · rfl
theorem am_y6 (pc : Nat) (e : am_I) (st : List Value) (h : am_H) (lv : am_L) : am_d6 pc e lv st h = (am_d6 pc e [] st h).map (am_yN lv) := by
  unfold am_d6
  split
  · generalize am_j1 _ _ = z; cases z <;> rfl
  · rfl
theorem am_y7 (pc : Nat) (e : am_I) (st : List Value) (h : am_H) (lv : am_L) : am_d7 pc e lv st h = (am_d7 pc e [] st h).map (am_yN lv) := by
  unfold am_d7
  split <;> rfl
theorem am_y8 (pc : Nat) (e : am_I) (st : List Value) (h : am_H) (lv : am_L) : am_d8 pc e lv st h = (am_d8 pc e [] st h).map (am_yN lv) := by
  unfold am_d8
  split <;> rfl
theorem am_y9 (pc : Nat) (e : am_I) (st : List Value) (h : am_H) (lv : am_L) : am_d9 pc e lv st h = (am_d9 pc e [] st h).map (am_yN lv) := by
  unfold am_d9
  split <;> rfl
theorem am_y10 (pc : Nat) (e : am_I) (st : List Value) (h : am_H) (lv : am_L) : am_d10 pc e lv st h = (am_d10 pc e [] st h).map (am_yN lv) := by
  unfold am_d10
  split
  · split
    · rfl
    · split <;> rfl
  · rfl
theorem am_y12 (pc : Nat) (e : am_I) (st : List Value) (h : am_H) (lv : am_L) : am_d12 pc e lv st h = (am_d12 pc e [] st h).map (am_yN lv) := by
  unfold am_d12
  split <;> first | rfl | (split <;> rfl)
theorem am_y13 (pc : Nat) (e : am_I) (st : List Value) (h : am_H) (lv : am_L) : am_d13 pc e lv st h = (am_d13 pc e [] st h).map (am_yN lv) := by
  unfold am_d13
  split
  · split
    · generalize am_ald _ _ _ = z; cases z <;> rfl
    · rfl
  · rfl
theorem am_y14 (pc : Nat) (e : am_I) (st : List Value) (h : am_H) (lv : am_L) : am_d14 pc e lv st h = (am_d14 pc e [] st h).map (am_yN lv) := by
  unfold am_d14
  split
  · split
    · generalize am_ast _ _ _ _ = z; cases z <;> rfl
    · rfl
  · rfl
theorem am_y15 (pc : Nat) (e : am_I) (st : List Value) (h : am_H) (lv : am_L) : am_d15 pc e lv st h = (am_d15 pc e [] st h).map (am_yN lv) := by
  unfold am_d15
  split
  · split
    · generalize am_len _ = z; cases z <;> rfl
    · rfl
  · rfl
theorem am_y16 (pc : Nat) (e : am_I) (st : List Value) (h : am_H) (lv : am_L) : am_d16 pc e lv st h = (am_d16 pc e [] st h).map (am_yN lv) := by
  unfold am_d16
  split
  · split
    · split
      · split
        · rw [Option.map_map]; rfl
        · rfl
      · rfl
    · rfl
  · rfl
theorem am_y17 (pc : Nat) (e : am_I) (st : List Value) (h : am_H) (lv : am_L) : am_d17 pc e lv st h = (am_d17 pc e [] st h).map (am_yN lv) := by
  unfold am_d17
  split
  · split
    · split
      · split <;> rfl
      · rfl
    · rfl
  · rfl
theorem am_y18 (pc : Nat) (e : am_I) (st : List Value) (h : am_H) (lv : am_L) : am_d18 pc e lv st h = (am_d18 pc e [] st h).map (am_yN lv) := by
  unfold am_d18
  split
  · split <;> rfl
  · rfl
theorem am_y19 (pc : Nat) (e : am_I) (st : List Value) (h : am_H) (lv : am_L) : am_d19 pc e lv st h = (am_d19 pc e [] st h).map (am_yN lv) := by
  unfold am_d19
  split
  · split
    · split <;> rfl
    · rfl
  · rfl
theorem am_y20 (pc : Nat) (e : am_I) (st : List Value) (h : am_H) (lv : am_L) : am_d20 pc e lv st h = (am_d20 pc e [] st h).map (am_yN lv) := by
  unfold am_d20
  split
  · split <;> rfl
  · split <;> rfl
  · rfl
theorem am_y21 (pc : Nat) (e : am_I) (st : List Value) (h : am_H) (lv : am_L) : am_d21 pc e lv st h = (am_d21 pc e [] st h).map (am_yN lv) := by
  have gc : ∀ (j n : Nat) (ok : List Value → Bool) (s2 : List Value), (am_call j n ok s2).map (am_yN lv) = am_call j n ok s2 := by
    intro j n ok s2
    unfold am_call
    split <;> rfl
  unfold am_d21
  split
  · split
    · split <;> rfl
    · rfl
  · split
    · split
      · generalize am_cp _ _ _ _ _ = z; cases z <;> rfl
      · rfl
    · rfl
  · rw [gc]
  · rw [gc]
  · rw [gc]
  · rw [gc]
  · rfl
def am_nd (lv : am_L) : Prop := (lv.map (fun q => q.1)).Nodup
def am_Rl (lv lv' : am_L) : Prop := am_nd lv ∧ am_nd lv' ∧ ∀ k v, am_ld lv k = some v → am_ld lv' k = some v
theorem am_ldm {lv : am_L} (hn : am_nd lv) {k : Nat} {v : Value} : am_ld lv k = some v ↔ (k, v) ∈ lv := by
  unfold am_nd at hn
  induction lv with
  | nil => constructor <;> intro h <;> cases h
  | cons q t ih =>
    obtain ⟨j, w⟩ := q
    rw [List.map_cons, List.nodup_cons] at hn
    have e : am_ld ((j, w) :: t) k = if j = k then some w else am_ld t k := by
      unfold am_ld
      rw [List.find?_cons]
      by_cases hj : j = k
      · subst hj; simp
      · have hb : (j == k) = false := by simpa using hj
        rw [if_neg hj]
        simp only [hb]
    rw [e]
    by_cases hj : j = k
    · subst hj
      rw [if_pos rfl]
      constructor
      · intro h
        cases h
        exact List.mem_cons_self
      · intro h
        rcases List.mem_cons.mp h with h | h
        · cases h; rfl
        · exact absurd (List.mem_map.mpr ⟨_, h, rfl⟩) hn.1
    · rw [if_neg hj, ih hn.2]
      constructor
      · intro h
        exact List.mem_cons_of_mem _ h
      · intro h
        rcases List.mem_cons.mp h with h | h
        · cases h
          exact absurd rfl hj
        · exact h
theorem am_nd_st {lv : am_L} {k : Nat} {v : Value} {f : Nat × Value → Bool} (hn : am_nd lv) (hf : ∀ q, f q = true → q.1 ≠ k) : am_nd ((k, v) :: lv.filter f) := by
  unfold am_nd at hn ⊢
  rw [List.map_cons, List.nodup_cons]
  constructor
  · intro h
    obtain ⟨q, h1, h2⟩ := List.mem_map.mp h
    exact hf q (List.mem_filter.mp h1).2 h2
  · exact List.Nodup.sublist (List.Sublist.map _ List.filter_sublist) hn
theorem am_Rl_st {lv lv' : am_L} {k : Nat} {v : Value} {f : Nat × Value → Bool} (h : am_Rl lv lv') (hf : ∀ q, f q = true → q.1 ≠ k) : am_Rl ((k, v) :: lv.filter f) ((k, v) :: lv'.filter f) := by
  obtain ⟨h1, h2, h3⟩ := h
  refine ⟨am_nd_st h1 hf, am_nd_st h2 hf, fun j w hj => ?_⟩
  rw [am_ldm (am_nd_st h1 hf)] at hj
  rw [am_ldm (am_nd_st h2 hf)]
  rcases List.mem_cons.mp hj with e | e
  · rw [e]
    exact List.mem_cons_self
  · obtain ⟨m1, m2⟩ := List.mem_filter.mp e
    exact List.mem_cons_of_mem _ (List.mem_filter.mpr ⟨(am_ldm h2).mp (h3 j w ((am_ldm h1).mpr m1)), m2⟩)
theorem am_Rl_1 {lv lv' : am_L} (h : am_Rl lv lv') (k : Nat) (v : Value) : am_Rl (am_st1 lv k v) (am_st1 lv' k v) := am_Rl_st h (fun q hq e => by
  subst e
  simp at hq)
theorem am_Rl_2 {lv lv' : am_L} (h : am_Rl lv lv') (k : Nat) (v : Value) : am_Rl (am_st2 lv k v) (am_st2 lv' k v) := am_Rl_st h (fun q hq e => by
  subst e
  simp at hq)
def am_RN : am_N → am_N → Prop
  | .inl (pc, lv, st, h), .inl (pc', lv', st', h') => pc = pc' ∧ st = st' ∧ h = h' ∧ am_Rl lv lv'
  | .inr x, .inr y => x = y
  | _, _ => False
theorem am_pass {F : am_L → Option am_N} (g : ∀ lv, F lv = (F []).map (am_yN lv)) {lv lv' : am_L} {nx : am_N} (hR : am_Rl lv lv') (hp : F lv = some nx) : ∃ nx', F lv' = some nx' ∧ am_RN nx nx' := by
  rw [g lv] at hp
  obtain ⟨n0, h1, h2⟩ := Option.map_eq_some_iff.mp hp
  refine ⟨am_yN lv' n0, by rw [g lv', h1]; rfl, ?_⟩
  subst h2
  match n0 with
  | .inl (pc, l0, st, h) => exact ⟨rfl, rfl, rfl, hR⟩
  | .inr x => exact rfl
theorem am_isI_R {lv lv' : am_L} (h : am_Rl lv lv') {k : Nat} {v : Value} (hv : am_isI (am_ld lv k) = some v) : am_isI (am_ld lv' k) = some v := by
  obtain ⟨x, h1, rfl⟩ := am_isI_spec hv
  rw [h.2.2 _ _ h1]; rfl
theorem am_isJ_R {lv lv' : am_L} (h : am_Rl lv lv') {k : Nat} {v : Value} (hv : am_isJ (am_ld lv k) = some v) : am_isJ (am_ld lv' k) = some v := by
  obtain ⟨x, h1, rfl⟩ := am_isJ_spec hv
  rw [h.2.2 _ _ h1]; rfl
theorem am_isA_R {lv lv' : am_L} (h : am_Rl lv lv') {k : Nat} {v : Value} (hv : am_isA (am_ld lv k) = some v) : am_isA (am_ld lv' k) = some v := by
  obtain ⟨x, h1, rfl⟩ := am_isA_spec hv
  rw [h.2.2 _ _ h1]; rfl
theorem am_push_R {ins : Instr} {aux : List Nat} {lv lv' : am_L} {v : Value} (hR : am_Rl lv lv') (h : am_push ins aux lv = some v) : am_push ins aux lv' = some v := by
  cases ins <;> first | exact h | exact am_isI_R hR h | exact am_isJ_R hR h | exact am_isA_R hR h
theorem am_R_do {i pc : Nat} {e : am_I} {lv lv' : am_L} {st : List Value} {h : am_H} {nx : am_N} (hR : am_Rl lv lv') (hp : am_do i pc e lv st h = some nx) : ∃ nx', am_do i pc e lv' st h = some nx' ∧ am_RN nx nx' := by
  unfold am_do at hp ⊢
  split at hp
  · unfold am_d0 at hp ⊢
    obtain ⟨v, hv, hn⟩ := Option.map_eq_some_iff.mp hp
    subst hn
    exact ⟨.inl (pc + e.2.1, lv', v :: st, h), by rw [am_push_R hR hv]; rfl, rfl, rfl, rfl, hR⟩
  · unfold am_d1 at hp ⊢
    split at hp
    · rename_i k x r hs
      cases hp
      exact ⟨_, rfl, rfl, rfl, rfl, am_Rl_1 hR k _⟩
    · rename_i k x r hs
      cases hp
      exact ⟨_, rfl, rfl, rfl, rfl, am_Rl_2 hR k _⟩
    · rename_i k x r hs
      cases hp
      exact ⟨_, rfl, rfl, rfl, rfl, am_Rl_1 hR k _⟩
    · cases hp
  · exact am_pass (am_y2 pc e st h) hR hp
  · exact am_pass (am_y3 pc e st h) hR hp
  · exact am_pass (am_y4 pc e st h) hR hp
  · exact am_pass (am_y5 pc e st h) hR hp
  · exact am_pass (am_y6 pc e st h) hR hp
  · exact am_pass (am_y7 pc e st h) hR hp
  · exact am_pass (am_y8 pc e st h) hR hp
  · exact am_pass (am_y9 pc e st h) hR hp
  · exact am_pass (am_y10 pc e st h) hR hp
  · unfold am_d11 at hp ⊢
    cases hi : e.1 <;> rw [hi] at hp <;> first | (cases hp; done) | skip
    rename_i k n
    simp only at hp ⊢
    cases hl : am_ld lv k with
    | none => rw [hl] at hp; cases hp
    | some v =>
      rw [hl] at hp
      rw [hR.2.2 _ _ hl]
      cases v <;> first | (cases hp; done) | skip
      rename_i x
      cases hp
      exact ⟨_, rfl, rfl, rfl, rfl, am_Rl_1 hR k _⟩
  · exact am_pass (am_y12 pc e st h) hR hp
  · exact am_pass (am_y13 pc e st h) hR hp
  · exact am_pass (am_y14 pc e st h) hR hp
  · exact am_pass (am_y15 pc e st h) hR hp
  · exact am_pass (am_y16 pc e st h) hR hp
  · exact am_pass (am_y17 pc e st h) hR hp
  · exact am_pass (am_y18 pc e st h) hR hp
  · exact am_pass (am_y19 pc e st h) hR hp
  · exact am_pass (am_y20 pc e st h) hR hp
  · exact am_pass (am_y21 pc e st h) hR hp
  · refine ⟨nx, hp, ?_⟩
    unfold am_d22 at hp
    have key : ∃ x, nx = .inr x := by
      split at hp
      · split at hp
        · split at hp <;> first | (cases hp; exact ⟨_, rfl⟩) | cases hp
        · cases hp
      · split at hp <;> first | (cases hp; exact ⟨_, rfl⟩) | cases hp
      · split at hp <;> first | (cases hp; exact ⟨_, rfl⟩) | cases hp
      · split at hp <;> first | (cases hp; exact ⟨_, rfl⟩) | cases hp
      · cases hp
    obtain ⟨x, rfl⟩ := key
    exact rfl
  · cases hp
theorem am_loc : ∀ (f d i pc : Nat) (lv lv' : am_L) (st : List Value) (h : am_H) (r : Option Value × am_H), am_Rl lv lv' → am_exec f d i pc lv st h = some r → am_exec f d i pc lv' st h = some r := by
  intro f
  induction f with
  | zero => intro d i pc lv lv' st h r hR hp; cases hp
  | succ f ih =>
    intro d i pc lv lv' st h r hR hp
    unfold am_exec at hp ⊢
    split at hp
    · cases hp
    · rename_i e he
      split at hp
      · cases hp
      · rename_i pc1 lv1 st1 h1 hd
        obtain ⟨nx', h2, h3⟩ := am_R_do hR hd
        match nx', h3 with
        | .inl (pc2, lv2, st2, h9), h3 =>
          obtain ⟨rfl, rfl, rfl, hR2⟩ := h3
          simp only [h2]
          exact ih _ _ _ _ _ _ _ _ hR2 hp
      · rename_i rv1 hd
        obtain ⟨nx', h2, h3⟩ := am_R_do hR hd
        match nx', h3 with
        | .inr x, h3 =>
          have h3 : _ = x := h3
          subst h3
          simp only [h2]
          exact hp
      · rename_i j as rest hd
        obtain ⟨nx', h2, h3⟩ := am_R_do hR hd
        match nx', h3 with
        | .inr x, h3 =>
          have h3 : _ = x := h3
          subst h3
          simp only [h2]
          split at hp
          · cases hp
          · rename_i d1
            split at hp
            · cases hp
            · rename_i rv1 h1 hc
              try simp only [hc]
              exact ih _ _ _ _ _ _ _ _ hR hp
def am_sb : am_L → am_L → Prop
  | [], _ => True
  | q :: t, lv => am_ld lv q.1 = some q.2 ∧ am_sb t lv
def am_ndb (lv : am_L) : Bool := match lv with
  | [] => true
  | q :: t => t.all (fun z => !(z.1 == q.1)) && am_ndb t
theorem am_ndb_nd : ∀ {lv : am_L}, am_ndb lv = true → am_nd lv
  | [], _ => List.nodup_nil
  | q :: t, h => by
    unfold am_ndb at h
    rw [Bool.and_eq_true] at h
    unfold am_nd
    rw [List.map_cons, List.nodup_cons]
    refine ⟨fun z => ?_, am_ndb_nd h.2⟩
    obtain ⟨y, h1, h2⟩ := List.mem_map.mp z
    have := List.all_eq_true.mp h.1 y h1
    simp at this
    exact this h2
theorem am_sb_mem : ∀ {l2 lv : am_L}, am_sb l2 lv → ∀ q ∈ l2, am_ld lv q.1 = some q.2
  | [], _, _, q, hq => absurd hq List.not_mem_nil
  | z :: t, lv, h, q, hq => by
    rcases List.mem_cons.mp hq with e | e
    · rw [e]; exact h.1
    · exact am_sb_mem h.2 q e
/-- the places that are used, in any order -/
theorem am_lv {d i pc : Nat} {lv : am_L} {st : List Value} {h : am_H} {P : Option Value → am_H → Prop} (lv2 : am_L) (h1 : am_ndb lv = true) (h2 : am_ndb lv2 = true) (h3 : am_sb lv2 lv) (k : am_wp d i pc lv2 st h P) : am_wp d i pc lv st h P := by
  obtain ⟨f, rv, h', hx, hp⟩ := k
  exact ⟨f, rv, h', am_loc f d i pc lv2 lv st h _ ⟨am_ndb_nd h2, am_ndb_nd h1, fun k v hv => am_sb_mem h3 (k, v) ((am_ldm (am_ndb_nd h2)).mp hv)⟩ hx, hp⟩
