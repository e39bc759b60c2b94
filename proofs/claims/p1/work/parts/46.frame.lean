/-! THE FRAME RULE of the small machine: cells that no instruction can use may be anything -/
def am_isDm : am_E → Bool
  | .inl (t, _) => decide (6 ≤ t)
  | .inr _ => false
def am_dm : am_E := .inl (6, 0, .inl (fun _ => 0))
def am_mg (a G : Nat → am_E) : Nat → am_E := fun k => if am_isDm (a k) = true then G k else a k
def am_mH (G : Nat → am_E) (h : am_H) : am_H := (h.1, h.2.1, am_mg h.2.2 G)
def am_mN (G : Nat → am_E) : am_N → am_N
  | .inl (pc, lv, st, h) => .inl (pc, lv, st, am_mH G h)
  | .inr x => .inr x
theorem am_mg_of {a G : Nat → am_E} {k : Nat} (h : am_isDm (a k) = false) : am_mg a G k = a k := by
  unfold am_mg
  rw [h]
  rfl
theorem am_mg_up {a G : Nat → am_E} {k : Nat} {c : am_E} (h : am_isDm c = false) : am_mg (am_up a k c) G = am_up (am_mg a G) k c := by
  funext j
  unfold am_mg am_up
  by_cases e : j = k
  · simp [e, h]
  · simp [e]
theorem am_ald_dm {ins : Instr} {c : am_E} {i : Int32} {v : Value} (h : am_ald ins c i = some v) : am_isDm c = false := by
  unfold am_ald at h
  split at h <;> first | rfl | cases h
theorem am_ast_dm {ins : Instr} {c : am_E} {i : Int32} {v : Value} {c' : am_E} (h : am_ast ins c i v = some c') : am_isDm c = false ∧ am_isDm c' = false := by
  unfold am_ast at h
  split at h
  · split at h <;> cases h; exact ⟨rfl, rfl⟩
  · split at h <;> cases h; exact ⟨rfl, rfl⟩
  · split at h <;> cases h; exact ⟨rfl, rfl⟩
  · split at h <;> cases h; exact ⟨rfl, rfl⟩
  · cases h
theorem am_len_dm {c : am_E} {n : Nat} (h : am_len c = some n) : am_isDm c = false := by
  unfold am_len at h
  split at h
  · rename_i t n2 dt
    split at h
    · rename_i ht
      show decide (6 ≤ t) = false
      exact decide_eq_false (by omega)
    · cases h
  · cases h
theorem am_cp_dm {c0 c1 : am_E} {sp dp n : Int32} {c' : am_E} (h : am_cp c0 c1 sp dp n = some c') : am_isDm c0 = false ∧ am_isDm c1 = false ∧ am_isDm c' = false := by
  unfold am_cp at h
  split at h
  · rename_i t0 n0 f t1 n1 g
    split at h
    · rename_i hc
      cases h
      have h1 := hc.1
      have h2 := hc.2.1
      refine ⟨?_, ?_, ?_⟩
      · show decide (6 ≤ t0) = false
        exact decide_eq_false (by omega)
      · show decide (6 ≤ t1) = false
        exact decide_eq_false (by omega)
      · show decide (6 ≤ t1) = false
        exact decide_eq_false (by omega)
    · cases h
  · cases h
theorem am_recv_mg {h : am_H} {G : Nat → am_E} {ci : Nat} {as : List Value} (hr : am_recv h ci as = true) : am_recv (am_mH G h) ci as = true := by
  unfold am_recv at hr ⊢
  split at hr
  · rename_i a r
    rw [Bool.and_eq_true] at hr ⊢
    refine ⟨hr.1, ?_⟩
    have h2 := hr.2
    show (match am_mg h.2.2 G a with
      | .inr (c, _) => decide (c = ci)
      | _ => false) = true
    split at h2
    · rename_i c fs hc
      rw [am_mg_of (by rw [hc]; rfl), hc]
      exact h2
    · cases h2
  · cases hr
theorem am_call_mono {j n : Nat} {ok ok2 : List Value → Bool} {st : List Value} {nx : am_N} (hk : ∀ as, ok as = true → ok2 as = true) (h : am_call j n ok st = some nx) : am_call j n ok2 st = some nx := by
  unfold am_call at h ⊢
  split at h
  · rename_i hc
    rw [if_pos ⟨hc.1, hc.2.1, hc.2.2.1, hk _ hc.2.2.2⟩]
    exact h
  · cases h
theorem am_call_mN {G : Nat → am_E} {j n : Nat} {ok : List Value → Bool} {st : List Value} {nx : am_N} (h : am_call j n ok st = some nx) : am_mN G nx = nx := by
  unfold am_call at h
  split at h <;> cases h
  rfl
section AMF
variable {pc : Nat} {e : am_I} {lv : am_L} {st : List Value} {h : am_H} {nx : am_N} {G : Nat → am_E}
theorem am_fr13 (hp : am_d13 pc e lv st h = some nx) : am_d13 pc e lv st (am_mH G h) = some (am_mN G nx) := by
  unfold am_d13 at hp ⊢
  split at hp
  · rename_i i a r
    split at hp
    · rename_i hle
      obtain ⟨v, hv, hn⟩ := Option.map_eq_some_iff.mp hp
      have e1 : (am_mH G h).2.2 a = h.2.2 a := am_mg_of (am_ald_dm hv)
      have e2 : a ≤ (am_mH G h).1 := hle
      simp only [if_pos e2, e1, hv, Option.map_some]
      rw [← hn]
      rfl
    · cases hp
  · cases hp
theorem am_fr14 (hp : am_d14 pc e lv st h = some nx) : am_d14 pc e lv st (am_mH G h) = some (am_mN G nx) := by
  unfold am_d14 at hp ⊢
  split at hp
  · rename_i v i a r
    split at hp
    · rename_i hle
      obtain ⟨c, hv, hn⟩ := Option.map_eq_some_iff.mp hp
      have e1 : (am_mH G h).2.2 a = h.2.2 a := am_mg_of (am_ast_dm hv).1
      have e2 : 1 ≤ a ∧ a ≤ (am_mH G h).1 := hle
      simp only [if_pos e2, e1, hv, Option.map_some]
      rw [← hn]
      show some (Sum.inl (pc + 1, lv, r, (h.1, h.2.1, am_up (am_mg h.2.2 G) a c))) = some (Sum.inl (pc + 1, lv, r, (h.1, h.2.1, am_mg (am_up h.2.2 a c) G)))
      rw [am_mg_up (am_ast_dm hv).2]
    · cases hp
  · cases hp
theorem am_fr15 (hp : am_d15 pc e lv st h = some nx) : am_d15 pc e lv st (am_mH G h) = some (am_mN G nx) := by
  unfold am_d15 at hp ⊢
  split at hp
  · rename_i a r
    split at hp
    · rename_i hle
      obtain ⟨v, hv, hn⟩ := Option.map_eq_some_iff.mp hp
      have e1 : (am_mH G h).2.2 a = h.2.2 a := am_mg_of (am_len_dm hv)
      have e2 : a ≤ (am_mH G h).1 := hle
      simp only [if_pos e2, e1, hv, Option.map_some]
      rw [← hn]
      rfl
    · cases hp
  · cases hp
theorem am_fr16 (hp : am_d16 pc e lv st h = some nx) : am_d16 pc e lv st (am_mH G h) = some (am_mN G nx) := by
  unfold am_d16 at hp ⊢
  split at hp
  · rename_i ci k x1 x2 a r haux
    split at hp
    · rename_i hle
      split at hp
      · rename_i c fs hc
        split at hp
        · rename_i hcc
          obtain ⟨v, hv, hn⟩ := Option.map_eq_some_iff.mp hp
          have e1 : (am_mH G h).2.2 a = .inr (c, fs) := by rw [← hc]; exact am_mg_of (by rw [hc]; rfl)
          have e2 : 1 ≤ a ∧ a ≤ (am_mH G h).1 := hle
          simp only [if_pos e2, e1, if_pos hcc, hv, Option.map_some]
          rw [← hn]
          rfl
        · cases hp
      · cases hp
    · cases hp
  · cases hp
theorem am_fr17 (hp : am_d17 pc e lv st h = some nx) : am_d17 pc e lv st (am_mH G h) = some (am_mN G nx) := by
  unfold am_d17 at hp ⊢
  split at hp
  · rename_i ci k x1 x2 v a r haux
    split at hp
    · rename_i hle
      split at hp
      · rename_i c fs hc
        split at hp
        · rename_i hcc
          have e1 : (am_mH G h).2.2 a = .inr (c, fs) := by rw [← hc]; exact am_mg_of (by rw [hc]; rfl)
          have e2 : 1 ≤ a ∧ a ≤ (am_mH G h).1 := hle
          simp only [if_pos e2, e1, if_pos hcc]
          cases hp
          show some (Sum.inl (pc + 3, lv, r, (h.1, h.2.1, am_up (am_mg h.2.2 G) a (.inr (c, fs.set k v))))) = some (Sum.inl (pc + 3, lv, r, (h.1, h.2.1, am_mg (am_up h.2.2 a (.inr (c, fs.set k v))) G)))
          rw [am_mg_up rfl]
        · cases hp
      · cases hp
    · cases hp
  · cases hp
theorem am_fr18 (hp : am_d18 pc e lv st h = some nx) : am_d18 pc e lv st (am_mH G h) = some (am_mN G nx) := by
  unfold am_d18 at hp ⊢
  cases haux : e.2.2 with
  | nil => rw [haux] at hp; cases hp
  | cons ci tl =>
    rw [haux] at hp
    simp only at hp ⊢
    cases hr : vwCl[ci]? with
    | none => rw [hr] at hp; cases hp
    | some r =>
      rw [hr] at hp
      cases hp
      show some (Sum.inl (pc + 3, lv, Value.ref (h.1 + 1) :: st, (h.1 + 1, h.2.1 + _, am_up (am_mg h.2.2 G) _ _))) = some (Sum.inl (pc + 3, lv, Value.ref (h.1 + 1) :: st, (h.1 + 1, h.2.1 + _, am_mg (am_up h.2.2 _ _) G)))
      rw [am_mg_up rfl]
      rfl
theorem am_tag_dm {at_ : ArrayType} {t : Nat} {ma : Nat → vp_A} (h : am_tag at_ = some (t, ma)) : t < 6 := by
  cases at_ <;> simp [am_tag] at h <;> omega
theorem am_fr19 (hp : am_d19 pc e lv st h = some nx) : am_d19 pc e lv st (am_mH G h) = some (am_mN G nx) := by
  unfold am_d19 at hp ⊢
  split at hp
  · split at hp
    · rename_i t ma ht
      split at hp
      · rename_i hc
        simp only [ht, if_pos hc]
        cases hp
        show some (Sum.inl (pc + 2, lv, Value.ref (h.1 + 1) :: _, (h.1 + 1, h.2.1 + _, am_up (am_mg h.2.2 G) _ _))) = some (Sum.inl (pc + 2, lv, Value.ref (h.1 + 1) :: _, (h.1 + 1, h.2.1 + _, am_mg (am_up h.2.2 _ _) G)))
        rw [am_mg_up (by show decide (6 ≤ t) = false; exact decide_eq_false (by have := am_tag_dm ht; omega))]
        rfl
      · cases hp
    · cases hp
  · cases hp
theorem am_rows_mg {a : Nat → am_E} {k n t : Nat} {row : vp_A} {tr : Nat} (ht : t < 6) (htr : tr < 6) : am_mg (am_rows a k n t row tr) G = am_rows (am_mg a G) k n t row tr := by
  funext j
  have h1 : ∀ x : vp_A, am_isDm (.inl (t, x)) = false := fun x => decide_eq_false (by omega)
  have h2 : ∀ x : vp_A, am_isDm (.inl (tr, x)) = false := fun x => decide_eq_false (by omega)
  unfold am_mg am_rows
  by_cases e : j = k
  · simp [e, h1]
  · by_cases e2 : k < j ∧ j ≤ k + n
    · simp [e, e2, h2]
    · simp [e, e2]
theorem am_fr20 (hp : am_d20 pc e lv st h = some nx) : am_d20 pc e lv st (am_mH G h) = some (am_mN G nx) := by
  unfold am_d20 at hp ⊢
  split at hp
  · split at hp
    · rename_i hc
      simp only [if_pos hc]
      cases hp
      show some (Sum.inl (pc + 4, lv, Value.ref (h.1 + 1) :: _, (_, _, am_rows (am_mg h.2.2 G) _ _ _ _ _))) = some (Sum.inl (pc + 4, lv, Value.ref (h.1 + 1) :: _, (_, _, am_mg (am_rows h.2.2 _ _ _ _ _) G)))
      rw [am_rows_mg (by decide) (by decide)]
      rfl
    · cases hp
  · split at hp
    · rename_i hc
      simp only [if_pos hc]
      cases hp
      show some (Sum.inl (pc + 4, lv, Value.ref (h.1 + 1) :: _, (_, _, am_rows (am_mg h.2.2 G) _ _ _ _ _))) = some (Sum.inl (pc + 4, lv, Value.ref (h.1 + 1) :: _, (_, _, am_mg (am_rows h.2.2 _ _ _ _ _) G)))
      rw [am_rows_mg (by decide) (by decide)]
      rfl
    · cases hp
  · cases hp
theorem am_fr21 (hp : am_d21 pc e lv st h = some nx) : am_d21 pc e lv st (am_mH G h) = some (am_mN G nx) := by
  unfold am_d21 at hp ⊢
  split at hp
  · split at hp
    · split at hp
      · rename_i hc
        simp only [if_pos hc]
        cases hp
        rfl
      · cases hp
    · cases hp
  · split at hp
    · rename_i n dp a sp a0 r
      split at hp
      · rename_i hc
        obtain ⟨c, hv, hn⟩ := Option.map_eq_some_iff.mp hp
        obtain ⟨d1, d2, d3⟩ := am_cp_dm hv
        have e1 : (am_mH G h).2.2 a = h.2.2 a := am_mg_of d2
        have e0 : (am_mH G h).2.2 a0 = h.2.2 a0 := am_mg_of d1
        have e2 : 1 ≤ a0 ∧ a0 ≤ (am_mH G h).1 ∧ 1 ≤ a ∧ a ≤ (am_mH G h).1 ∧ am_cat r ≤ 8 := hc
        simp only [if_pos e2, e1, e0, hv, Option.map_some]
        rw [← hn]
        show some (Sum.inl (pc + 3, lv, r, (h.1, h.2.1, am_up (am_mg h.2.2 G) a c))) = some (Sum.inl (pc + 3, lv, r, (h.1, h.2.1, am_mg (am_up h.2.2 a c) G)))
        rw [am_mg_up d3]
      · cases hp
    · cases hp
  · rw [am_call_mN hp]
    exact am_call_mono (fun as z => am_recv_mg z) hp
  · rw [am_call_mN hp]
    exact hp
  · rw [am_call_mN hp]
    exact hp
  · rw [am_call_mN hp]
    exact hp
  · cases hp
theorem am_p10 : am_d10 pc e lv st (am_mH G h) = (am_d10 pc e lv st h).map (am_mN G) := by
  unfold am_d10
  split
  · split
    · rfl
    · split <;> rfl
  · rfl
theorem am_p11 : am_d11 pc e lv st (am_mH G h) = (am_d11 pc e lv st h).map (am_mN G) := by
  unfold am_d11
  split
  · split <;> rfl
  · rfl
end AMF
theorem am_fr_do {i pc : Nat} {e : am_I} {lv : am_L} {st : List Value} {h : am_H} {nx : am_N} (G : Nat → am_E) (hp : am_do i pc e lv st h = some nx) : am_do i pc e lv st (am_mH G h) = some (am_mN G nx) := by
  unfold am_do at hp ⊢
  split at hp
  · unfold am_d0 at hp ⊢
    obtain ⟨v, hv, hn⟩ := Option.map_eq_some_iff.mp hp
    rw [hv, ← hn]; rfl
  · unfold am_d1 at hp ⊢
    split at hp <;> cases hp <;> rfl
  · unfold am_d2 at hp ⊢
    split at hp
    · obtain ⟨v, hv, hn⟩ := Option.map_eq_some_iff.mp hp
      simp only [hv, ← hn]; rfl
    · cases hp
  · unfold am_d3 at hp ⊢
    split at hp
    · obtain ⟨v, hv, hn⟩ := Option.map_eq_some_iff.mp hp
      simp only [hv, ← hn]; rfl
    · cases hp
  · unfold am_d4 at hp ⊢
    split at hp
    · obtain ⟨v, hv, hn⟩ := Option.map_eq_some_iff.mp hp
      simp only [hv, ← hn]; rfl
    · cases hp
  · unfold am_d5 at hp ⊢
    split at hp
    · obtain ⟨v, hv, hn⟩ := Option.map_eq_some_iff.mp hp
      simp only [hv, ← hn]; rfl
    · cases hp
  · unfold am_d6 at hp ⊢
    split at hp
    · obtain ⟨v, hv, hn⟩ := Option.map_eq_some_iff.mp hp
      simp only [hv, ← hn]; rfl
    · cases hp
  · unfold am_d7 at hp ⊢
    split at hp <;> cases hp <;> rfl
  · unfold am_d8 at hp ⊢
    split at hp <;> cases hp <;> rfl
  · unfold am_d9 at hp ⊢
    split at hp <;> cases hp <;> rfl
  · rw [am_p10, hp]; rfl
  · rw [am_p11, hp]; rfl
  · unfold am_d12 at hp ⊢
    split at hp
    · split at hp
      · rename_i hc
        simp only [if_pos hc]
        cases hp; rfl
      · cases hp
    · split at hp
      · rename_i hc
        simp only [if_pos hc]
        cases hp; rfl
      · cases hp
    · split at hp
      · rename_i hc
        simp only [if_pos hc]
        cases hp; rfl
      · cases hp
    · split at hp
      · rename_i hc
        simp only [if_pos hc]
        cases hp; rfl
      · cases hp
    · cases hp
  · exact am_fr13 hp
  · exact am_fr14 hp
  · exact am_fr15 hp
  · exact am_fr16 hp
  · exact am_fr17 hp
  · exact am_fr18 hp
  · exact am_fr19 hp
  · exact am_fr20 hp
  · exact am_fr21 hp
  · unfold am_d22 at hp ⊢
    split at hp
    · split at hp
      · split at hp
        · rename_i hty hc
          simp only [hty, if_pos hc]
          cases hp; rfl
        · cases hp
      · cases hp
    · split at hp
      · rename_i hc
        simp only [if_pos hc]
        cases hp; rfl
      · cases hp
    · split at hp
      · rename_i hc
        simp only [if_pos hc]
        cases hp; rfl
      · cases hp
    · split at hp
      · rename_i hc
        simp only [if_pos hc]
        cases hp; rfl
      · cases hp
    · cases hp
  · cases hp
theorem am_frame (G : Nat → am_E) : ∀ (f d i pc : Nat) (lv : am_L) (st : List Value) (h : am_H) (rv : Option Value) (h' : am_H), am_exec f d i pc lv st h = some (rv, h') → am_exec f d i pc lv st (am_mH G h) = some (rv, am_mH G h') := by
  intro f
  induction f with
  | zero => intro d i pc lv st h rv h' hp; cases hp
  | succ f ih =>
    intro d i pc lv st h rv h' hp
    unfold am_exec at hp ⊢
    split at hp
    · cases hp
    · rename_i e he
      split at hp
      · cases hp
      · rename_i pc1 lv1 st1 h1 hd
        simp only [am_fr_do G hd, am_mN]
        exact ih _ _ _ _ _ _ _ _ hp
      · rename_i rv1 hd
        simp only [am_fr_do G hd, am_mN]
        cases hp
        rfl
      · rename_i j as rest hd
        simp only [am_fr_do G hd, am_mN]
        split at hp
        · cases hp
        · rename_i d1
          split at hp
          · cases hp
          · rename_i rv1 h1 hc
            simp only [ih _ _ _ _ _ _ _ _ hc]
            exact ih _ _ _ _ _ _ _ _ hp
theorem am_wp_frame (G : Nat → am_E) {d i pc : Nat} {lv : am_L} {st : List Value} {h : am_H} {P : Option Value → am_H → Prop} (k : am_wp d i pc lv st h P) : am_wp d i pc lv st (am_mH G h) (fun rv h' => ∃ h9, P rv h9 ∧ h' = am_mH G h9) := by
  obtain ⟨f, rv, h', hx, hp⟩ := k
  exact ⟨f, rv, am_mH G h', am_frame G _ _ _ _ _ _ _ _ _ hx, h', hp, rfl⟩
