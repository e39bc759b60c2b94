/-! RUNS OF THE SMALL MACHINE, as a predicate: it ends, with an answer and cells as P says -/
theorem am_exec_fuel : ∀ (f g d i pc : Nat) (lv : am_L) (st : List Value) (h : am_H) (r : Option Value × am_H), f ≤ g → am_exec f d i pc lv st h = some r → am_exec g d i pc lv st h = some r := by
  intro f
  induction f with
  | zero => intro g d i pc lv st h r _ hp; cases hp
  | succ f ih =>
    intro g d i pc lv st h r hg hp
    match g, hg with
    | g + 1, hg =>
      have hg : f ≤ g := Nat.le_of_succ_le_succ hg
      unfold am_exec at hp ⊢
      split at hp
      · cases hp
      · rename_i e he
        split at hp
        · cases hp
        · exact ih g _ _ _ _ _ _ _ hg hp
        · exact hp
        · split at hp
          · cases hp
          · split at hp
            · cases hp
            · rename_i hc
              simp only [ih g _ _ _ _ _ _ _ hg hc]
              exact ih g _ _ _ _ _ _ _ hg hp
theorem am_exec_deep : ∀ (f d d2 i pc : Nat) (lv : am_L) (st : List Value) (h : am_H) (r : Option Value × am_H), d ≤ d2 → am_exec f d i pc lv st h = some r → am_exec f d2 i pc lv st h = some r := by
  intro f
  induction f with
  | zero => intro d d2 i pc lv st h r _ hp; cases hp
  | succ f ih =>
    intro d d2 i pc lv st h r hd hp
    unfold am_exec at hp ⊢
    split at hp
    · cases hp
    · rename_i e he
      split at hp
      · cases hp
      · exact ih _ _ _ _ _ _ _ _ hd hp
      · exact hp
      · split at hp
        · cases hp
        · rename_i d1
          match d2, hd with
          | d2 + 1, hd =>
            split at hp
            · cases hp
            · rename_i hc
              simp only [ih _ d2 _ _ _ _ _ _ (Nat.le_of_succ_le_succ hd) hc]
              exact ih _ _ _ _ _ _ _ _ hd hp
def am_wp (d i pc : Nat) (lv : am_L) (st : List Value) (h : am_H) (P : Option Value → am_H → Prop) : Prop := ∃ (f : Nat) (rv : Option Value) (h' : am_H), am_exec f d i pc lv st h = some (rv, h') ∧ P rv h'
theorem am_s {d i pc : Nat} {lv : am_L} {st : List Value} {h : am_H} {P : Option Value → am_H → Prop} {e : am_I} {pc' : Nat} {lv' : am_L} {st' : List Value} {h' : am_H} (h1 : am_fetch i pc = some e) (h2 : am_do i pc e lv st h = some (.inl (pc', lv', st', h'))) (k : am_wp d i pc' lv' st' h' P) : am_wp d i pc lv st h P := by
  obtain ⟨f, rv, h9, hx, hP⟩ := k
  exact ⟨f + 1, rv, h9, by unfold am_exec; rw [h1]; simp only [h2]; exact hx, hP⟩
theorem am_r {d i pc : Nat} {lv : am_L} {st : List Value} {h : am_H} {P : Option Value → am_H → Prop} {e : am_I} {rv : Option Value} (h1 : am_fetch i pc = some e) (h2 : am_do i pc e lv st h = some (.inr (.inr rv))) (hP : P rv h) : am_wp d i pc lv st h P :=
  ⟨1, rv, h, by unfold am_exec; rw [h1]; simp only [h2], hP⟩
theorem am_c {d i pc : Nat} {lv : am_L} {st : List Value} {h : am_H} {P P1 : Option Value → am_H → Prop} {e : am_I} {j : Nat} {as rest : List Value} (h1 : am_fetch i pc = some e) (h2 : am_do i pc e lv st h = some (.inr (.inl (j, as, rest)))) (k1 : am_wp d j 0 (lv_args 0 as) [] h P1) (k : ∀ (rv : Option Value) (h' : am_H), P1 rv h' → am_wp (d + 1) i (pc + 3) lv (rv.toList ++ rest) h' P) : am_wp (d + 1) i pc lv st h P := by
  obtain ⟨f1, rv1, h9, hx1, hP1⟩ := k1
  obtain ⟨f2, rv2, h8, hx2, hP2⟩ := k rv1 h9 hP1
  have e1 := am_exec_fuel f1 (f1 + f2) _ _ _ _ _ _ _ (by omega) hx1
  have e2 := am_exec_fuel f2 (f1 + f2) _ _ _ _ _ _ _ (by omega) hx2
  exact ⟨f1 + f2 + 1, rv2, h8, by unfold am_exec; rw [h1]; simp only [h2, e1]; exact e2, hP2⟩
theorem am_wp_mono {d i pc : Nat} {lv : am_L} {st : List Value} {h : am_H} {P P2 : Option Value → am_H → Prop} (k : am_wp d i pc lv st h P) (hP : ∀ rv h', P rv h' → P2 rv h') : am_wp d i pc lv st h P2 := by
  obtain ⟨f, rv, h', hx, hp⟩ := k
  exact ⟨f, rv, h', hx, hP rv h' hp⟩
theorem am_wp_deep {d d2 i pc : Nat} {lv : am_L} {st : List Value} {h : am_H} {P : Option Value → am_H → Prop} (hd : d ≤ d2) (k : am_wp d i pc lv st h P) : am_wp d2 i pc lv st h P := by
  obtain ⟨f, rv, h', hx, hp⟩ := k
  exact ⟨f, rv, h', am_exec_deep _ _ _ _ _ _ _ _ _ hd hx, hp⟩
theorem am_bt {d i pc : Nat} {lv : am_L} {st : List Value} {h : am_H} {P : Option Value → am_H → Prop} {e : am_I} {b : Bool} {t u : Nat} {lv' : am_L} {st' : List Value} {h' : am_H} (h1 : am_fetch i pc = some e) (h2 : am_do i pc e lv st h = some (.inl (if b = true then t else u, lv', st', h'))) (hb : b = true) (k : am_wp d i t lv' st' h' P) : am_wp d i pc lv st h P := by
  refine am_s h1 h2 ?_
  rw [if_pos hb]
  exact k
theorem am_bf {d i pc : Nat} {lv : am_L} {st : List Value} {h : am_H} {P : Option Value → am_H → Prop} {e : am_I} {b : Bool} {t u : Nat} {lv' : am_L} {st' : List Value} {h' : am_H} (h1 : am_fetch i pc = some e) (h2 : am_do i pc e lv st h = some (.inl (if b = true then t else u, lv', st', h'))) (hb : b = false) (k : am_wp d i u lv' st' h' P) : am_wp d i pc lv st h P := by
  refine am_s h1 h2 ?_
  rw [if_neg (by rw [hb]; decide)]
  exact k
