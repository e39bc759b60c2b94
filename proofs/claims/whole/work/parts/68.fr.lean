/-! what a call leaves as it was; loops by what holds at their head -/
def am_Fr (L : List Nat) (s s' : am_S) : Prop := ∀ b, b ∉ L → s' b = s b
theorem am_Fr_r (L : List Nat) (s : am_S) : am_Fr L s s := fun _ _ => rfl
theorem am_Fr_t {L M : List Nat} {s s1 s2 : am_S} (h1 : am_Fr L s s1) (h2 : am_Fr M s1 s2) : am_Fr (L ++ M) s s2 := fun b hb => (h2 b (fun z => hb (List.mem_append_right _ z))).trans (h1 b (fun z => hb (List.mem_append_left _ z)))
theorem am_Fr_m {L M : List Nat} {s s1 : am_S} (h1 : am_Fr L s s1) (h : ∀ b, b ∈ L → b ∈ M) : am_Fr M s s1 := fun b hb => h1 b (fun z => hb (h b z))
theorem am_Fr_u {L : List Nat} {s s1 s2 : am_S} (h1 : am_Fr L s s1) (h2 : am_Fr L s1 s2) : am_Fr L s s2 := fun b hb => (h2 b hb).trans (h1 b hb)
theorem am_Fr_w {L : List Nat} {s : am_S} {a : Nat} {x v : Int} (h : a ∈ L) : am_Fr L s (am_w s a x v) := fun b hb => am_w_row (fun z => hb (z ▸ h))
theorem am_Fr_W {L : List Nat} {s s1 : am_S} {a : Nat} {x v : Int} (h1 : am_Fr L s s1) (h : a ∈ L) : am_Fr L s (am_w s1 a x v) := am_Fr_u h1 (am_Fr_w h)
theorem s_loop {X : Type} {d j pc : Nat} {E : am_Ev} {P : Option Value → am_H → Prop} (Inv : Nat → X → am_S → Prop) (lvf : Nat → X → am_L) {lo hi : Nat} {x : X} {s : am_S} (hle : lo ≤ hi) (h0 : Inv lo x s) (step : ∀ (k : Nat) (x : X) (s : am_S), lo ≤ k → k < hi → Inv k x s → (∀ (x' : X) (s' : am_S), Inv (k + 1) x' s' → am_wp d j pc (lvf (k + 1) x') [] (am_hp E s') P) → am_wp d j pc (lvf k x) [] (am_hp E s) P) (fin : ∀ (x : X) (s : am_S), Inv hi x s → am_wp d j pc (lvf hi x) [] (am_hp E s) P) : am_wp d j pc (lvf lo x) [] (am_hp E s) P := by
  obtain ⟨m, hm⟩ : ∃ m, hi = lo + m := ⟨hi - lo, by omega⟩
  have key : ∀ q, q ≤ m → ∀ x s, Inv (lo + (m - q)) x s → am_wp d j pc (lvf (lo + (m - q)) x) [] (am_hp E s) P := by
    intro q
    induction q with
    | zero =>
      intro _ x s hI
      rw [Nat.sub_zero, ← hm] at hI ⊢
      exact fin x s hI
    | succ q ih =>
      intro hq x s hI
      refine step _ x s (by omega) (by omega) hI ?_
      intro x' s' hI'
      have := ih (by omega) x' s'
      rw [show lo + (m - (q + 1)) + 1 = lo + (m - q) by omega] at hI' ⊢
      exact this hI'
  have := key m (Nat.le_refl m) x s
  rw [Nat.sub_self, Nat.add_zero] at this
  exact this h0
/-- a loop that a number bounds -/
theorem s_while {X : Type} {d j pc : Nat} {E : am_Ev} {P : Option Value → am_H → Prop} (Inv : X → am_S → Prop) (ms : X → am_S → Nat) (lvf : X → am_L) (step : ∀ (x : X) (s : am_S), Inv x s → (∀ (x' : X) (s' : am_S), Inv x' s' → ms x' s' < ms x s → am_wp d j pc (lvf x') [] (am_hp E s') P) → am_wp d j pc (lvf x) [] (am_hp E s) P) {x : X} {s : am_S} (h0 : Inv x s) : am_wp d j pc (lvf x) [] (am_hp E s) P := by
  have key : ∀ q x s, ms x s = q → Inv x s → am_wp d j pc (lvf x) [] (am_hp E s) P := by
    intro q
    induction q using Nat.strongRecOn with
    | ind q ih =>
      intro x s e hI
      exact step x s hI (fun x' s' hI' hlt => ih (ms x' s') (by omega) x' s' rfl hI')
  exact key _ x s rfl h0
theorem s_len {d i pc : Nat} {lv : am_L} {r : List Value} {P : Option Value → am_H → Prop} {E : am_Ev} {s : am_S} {aux : List Nat} {a n t : Nat} (h1 : am_fetch i pc = some (.arraylength, 1, aux)) (g : am_Eg E) (ha : am_lo a = some (.inl (t, n))) (ht : t < 6) (k9 : am_wp d i (pc + 1) lv (.int (iI (n : Int)) :: r) (am_hp E s) P) : am_wp d i pc lv (.ref a :: r) (am_hp E s) P := by
  refine am_s (st' := .int (iI (n : Int)) :: r) h1 ?_ k9
  show am_d15 pc (.arraylength, 1, aux) lv (.ref a :: r) (am_hp E s) = _
  have e : am_len ((am_hp E s).2.2 a) = some n := by
    show am_len (am_cl E s a) = _
    unfold am_cl
    rw [ha]
    simp only
    rcases (show t = 0 ∨ t = 1 ∨ t = 2 ∨ t = 3 ∨ t = 4 ∨ t = 5 by omega) with rfl | rfl | rfl | rfl | rfl | rfl <;> rfl
  unfold am_d15
  simp only [if_pos (s_le (s := s) g ha).2, e, Option.map_some, iI_nat]
theorem iI_of (a : Int32) : a = iI a.toInt := (Int32.ofInt_toInt a).symm
theorem iI_r (a : Int32) : am_R a.toInt := ⟨by have := Int32.le_toInt a; omega, by have := Int32.toInt_lt a; omega⟩
/-- a call of an object's method -/
theorem s_cv {d i pc : Nat} {lv : am_L} {st : List Value} {P P1 : Option Value → am_H → Prop} {E : am_Ev} {s : am_S} {idx k j n p1 p2 p3 p4 p5 ci a : Nat} {ks : List (Nat × Nat)} (As rest : List Value) (h1 : am_fetch i pc = some (.invokevirtual idx, 3, [k, j, n, p1, p2, p3, p4, p5, ci])) (g : am_Eg E) (hk : k = 1 ∨ k = 2) (h3 : st = (.ref a :: As).reverse ++ rest) (h4 : As.length = n) (h5 : am_cat rest ≤ 8) (h6 : am_fitsL j (.ref a :: As) = true) (ha : am_lo a = some (.inr (ci, ks)))
    (k1 : am_wp d j 0 (lv_args 0 (.ref a :: As)) [] (am_hp E s) P1) (k2 : ∀ (rv : Option Value) (h' : am_H), P1 rv h' → am_wp (d + 1) i (pc + 3) lv (rv.toList ++ rest) h' P) : am_wp (d + 1) i pc lv st (am_hp E s) P := am_cv h1 hk h3 h4 h5 h6 (s_le g ha) (s_ob ha) k1 k2
