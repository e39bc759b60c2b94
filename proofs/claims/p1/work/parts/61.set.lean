theorem am_aal {d i pc a n y : Nat} {lv : am_L} {r : List Value} {h : am_H} {P : Option Value → am_H → Prop} {aux : List Nat} {f : Nat → Option Nat} {x : Int32} (h1 : am_fetch i pc = some (.aaload, 1, aux)) (hle : a ≤ h.1) (ha : h.2.2 a = .inl (4, n, .inr (.inr (.inr (.inr f))))) (hx : am_idx x n = true) (hf : f x.toNatClampNeg = some y) (k9 : am_wp d i (pc + 1) lv (.ref y :: r) h P) : am_wp d i pc lv (.int x :: .ref a :: r) h P := by
  refine am_s h1 ?_ k9
  show am_d13 pc (.aaload, 1, aux) lv (.int x :: .ref a :: r) h = _
  unfold am_d13
  simp only [if_pos hle, ha, am_ald, hx, hf, if_true, Option.map_some]
theorem am_ias {d i pc a n : Nat} {lv : am_L} {r : List Value} {h : am_H} {P : Option Value → am_H → Prop} {aux : List Nat} {f : Nat → Int32} {x v : Int32} (h1 : am_fetch i pc = some (.iastore, 1, aux)) (hle : 1 ≤ a ∧ a ≤ h.1) (ha : h.2.2 a = .inl (1, n, .inl f)) (hx : am_idx x n = true) (k9 : am_wp d i (pc + 1) lv r (h.1, h.2.1, am_up h.2.2 a (.inl (1, n, .inl (upd f x.toNatClampNeg v)))) P) : am_wp d i pc lv (.int v :: .int x :: .ref a :: r) h P := by
  refine am_s h1 ?_ k9
  show am_d14 pc (.iastore, 1, aux) lv (.int v :: .int x :: .ref a :: r) h = _
  unfold am_d14
  simp only [if_pos hle, ha, am_ast, hx, if_true, Option.map_some]
def am_G1 (G : Nat → am_E) (a n : Nat) (f : Nat → Int32) : Nat → am_E := fun k => if k = a then .inl (1, n, .inl f) else G k
def am_cut (h : am_H) (a : Nat) : am_H := (h.1, h.2.1, am_up h.2.2 a am_dm)
theorem am_G1_at (G : Nat → am_E) (h : am_H) (a n : Nat) (f : Nat → Int32) : (am_mH (am_G1 G a n f) (am_cut h a)).2.2 a = .inl (1, n, .inl f) := by
  show (if am_isDm (if a = a then am_dm else h.2.2 a) = true then (if a = a then _ else _) else _) = _
  rw [if_pos rfl, if_pos rfl, if_pos (by rfl)]
theorem am_G1_up (G : Nat → am_E) (h : am_H) (a n : Nat) (f g : Nat → Int32) : ((am_cut h a).1, (am_cut h a).2.1, am_up (am_mH (am_G1 G a n f) (am_cut h a)).2.2 a (.inl (1, n, .inl g))) = am_mH (am_G1 G a n g) (am_cut h a) := by
  refine congrArg (fun z => (h.1, h.2.1, z)) (funext fun k => ?_)
  show (if k = a then _ else (if am_isDm (if k = a then am_dm else h.2.2 k) = true then (if k = a then _ else G k) else (if k = a then am_dm else h.2.2 k))) = (if am_isDm (if k = a then am_dm else h.2.2 k) = true then (if k = a then _ else G k) else (if k = a then am_dm else h.2.2 k))
  by_cases e : k = a
  · simp [e, am_isDm, am_dm]
  · simp [e]
theorem am_G1_of {G : Nat → am_E} {h : am_H} {a n : Nat} {f : Nat → Int32} (ha : h.2.2 a = .inl (1, n, .inl f)) : am_mH G h = am_mH (am_G1 G a n f) (am_cut h a) := by
  refine congrArg (fun z => (h.1, h.2.1, z)) (funext fun k => ?_)
  show (if am_isDm (h.2.2 k) = true then G k else h.2.2 k) = (if am_isDm (if k = a then am_dm else h.2.2 k) = true then (if k = a then _ else G k) else (if k = a then am_dm else h.2.2 k))
  by_cases e : k = a
  · subst e
    simp [ha, am_isDm, am_dm]
  · simp [e]
def am_ai (h : am_H) (a n : Nat) : Bool := match h.2.2 a with
  | .inl (1, k, .inl f) => decide (k = n) && decide (f 0 = 0)
  | _ => false
theorem am_ai_spec {h : am_H} {a n : Nat} (hk : am_ai h a n = true) : ∃ f : Nat → Int32, h.2.2 a = .inl (1, n, .inl f) ∧ f 0 = 0 := by
  unfold am_ai at hk
  split at hk
  · rename_i k f he
    simp only [Bool.and_eq_true, decide_eq_true_eq] at hk
    obtain ⟨rfl, e2⟩ := hk
    exact ⟨f, he, e2⟩
  · cases hk
def am_ar (h : am_H) (a n y : Nat) : Bool := match h.2.2 a with
  | .inl (4, k, .inr (.inr (.inr (.inr f)))) => decide (k = n) && decide (f 0 = some y)
  | _ => false
theorem am_ar_spec {h : am_H} {a n y : Nat} (G : Nat → am_E) (hk : am_ar h a n y = true) : ∃ f : Nat → Option Nat, (am_mH G h).2.2 a = .inl (4, n, .inr (.inr (.inr (.inr f)))) ∧ f 0 = some y := by
  unfold am_ar at hk
  split at hk
  · rename_i k f he
    simp only [Bool.and_eq_true, decide_eq_true_eq] at hk
    obtain ⟨rfl, e2⟩ := hk
    exact ⟨f, by rw [← he]; exact am_mg_of (by rw [he]; rfl), e2⟩
  · cases hk
theorem am_tell0 {d : Nat} {G : Nat → am_E} {h : am_H} {c : Int32} {f : Nat → Int32} (F : am_Fb (am_cut h 27) = true) (F26 : am_ar (am_cut h 27) 26 20 27 = true) : am_wp d 58 0 (lv_args 0 [.ref 25, .int 0, .int 0, .int c]) [] (am_mH (am_G1 G 27 20 f) (am_cut h 27)) (fun rv h' => rv = none ∧ ∃ g, h' = am_mH (am_G1 G 27 20 g) (am_cut h 27)) := by
  obtain ⟨hn, f1, f25, f48, f58, f127, f151, f168⟩ := am_Fb_spec (am_G1 G 27 20 f) F
  obtain ⟨fr, f26, fr0⟩ := am_ar_spec (am_G1 G 27 20 f) F26
  refine am_s rfl rfl ?_
  refine am_gf rfl ⟨by decide, Nat.le_trans (by decide) hn⟩ f25 rfl ?_
  refine am_s rfl rfl ?_
  refine am_aal rfl (Nat.le_trans (by decide) hn) f26 (by decide) fr0 ?_
  refine am_s rfl rfl ?_
  refine am_s rfl rfl ?_
  refine am_ias rfl ⟨by decide, Nat.le_trans (by decide) hn⟩ (am_G1_at G h 27 20 f) (by decide) ?_
  have e := am_G1_up G h 27 20 f (upd f (0 : Int32).toNatClampNeg c)
  show am_wp d 58 9 _ _ ((am_cut h 27).1, (am_cut h 27).2.1, am_up (am_mH (am_G1 G 27 20 f) (am_cut h 27)).2.2 27 (.inl (1, 20, .inl (upd f (0 : Int32).toNatClampNeg c)))) _
  rw [e]
  obtain ⟨hn2, -, g25, -⟩ := am_Fb_spec (am_G1 G 27 20 (upd f (0 : Int32).toNatClampNeg c)) F
  refine am_s rfl rfl ?_
  refine am_s rfl rfl ?_
  refine am_pfS rfl ⟨by decide, Nat.le_trans (by decide) hn2⟩ g25 rfl rfl ?_
  exact am_r rfl rfl ⟨rfl, _, rfl⟩
