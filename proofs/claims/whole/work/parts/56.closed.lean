def am_N1 (h : am_H) : Prop := h.1 ≤ 600000 ∧ h.2.1 ≤ 7000000
def am_isC (h : am_H) (a c : Nat) : Bool := match h.2.2 a with
  | .inr (k, _) => decide (k = c)
  | _ => false
theorem am_isC_spec {h : am_H} {a c : Nat} (G : Nat → am_E) (hk : am_isC h a c = true) : ∃ fs, (am_mH G h).2.2 a = .inr (c, fs) := by
  unfold am_isC at hk
  split at hk
  · rename_i k fs he
    have e := of_decide_eq_true hk
    subst e
    exact ⟨fs, by rw [← he]; exact am_mg_of (by rw [he]; rfl)⟩
  · cases hk
def am_prI (h : am_H) (jx jm : Nat) (lvx lvm : am_L) : Bool := am_isC h 1 11 && decide (1 ≤ h.1) && match am_exec 30000 20 jx 0 lvx [] h with
  | some (some (.int v), h1) => am_isC h1 168 12 && decide (168 ≤ h1.1) && (match am_exec 30000 20 jm 0 lvm [] h1 with
    | some (some (.int w), h2) => decide (v = w) && decide (h2.1 ≤ 600000) && decide (h2.2.1 ≤ 7000000)
    | _ => false)
  | _ => false
def am_prJ (h : am_H) (jx jm : Nat) (lvx lvm : am_L) : Bool := am_isC h 1 11 && decide (1 ≤ h.1) && match am_exec 30000 20 jx 0 lvx [] h with
  | some (some (.long v), h1) => am_isC h1 168 12 && decide (168 ≤ h1.1) && (match am_exec 30000 20 jm 0 lvm [] h1 with
    | some (some (.long w), h2) => decide (v = w) && decide (h2.1 ≤ 600000) && decide (h2.2.1 ≤ 7000000)
    | _ => false)
  | _ => false
theorem am_prI_pair {h : am_H} {G : Nat → am_E} {jx jm : Nat} {as : List Value} {lvx lvm tx tm : am_L} (ex : lv_args 0 (.ref 1 :: as) = lvx ++ tx) (em : lv_args 0 (.ref 168 :: as) = lvm ++ tm) (hk : am_prI h jx jm lvx lvm = true) : am_pairI (am_mH G h) jx jm as am_N1 := by
  unfold am_prI at hk
  simp only [Bool.and_eq_true, decide_eq_true_eq] at hk
  obtain ⟨⟨c1, c2⟩, hk⟩ := hk
  refine ⟨am_isC_spec G c1, c2, ?_⟩
  split at hk
  · rename_i v h1 e1
    simp only [Bool.and_eq_true, decide_eq_true_eq] at hk
    obtain ⟨⟨c3, c4⟩, hk⟩ := hk
    split at hk
    · rename_i w h2 e2
      simp only [Bool.and_eq_true, decide_eq_true_eq] at hk
      obtain ⟨⟨c5, c6⟩, c7⟩ := hk
      subst c5
      rw [ex]
      refine am_wp_deep (d := 20) (by decide) ⟨30000, _, _, am_frame G _ _ _ _ _ _ _ _ _ (am_ext _ _ _ _ _ tx _ _ _ e1), v, rfl, am_isC_spec G c3, c4, ?_⟩
      rw [em]
      exact am_wp_deep (d := 20) (by decide) ⟨30000, _, _, am_frame G _ _ _ _ _ _ _ _ _ (am_ext _ _ _ _ _ tm _ _ _ e2), rfl, c6, c7⟩
    · cases hk
  · cases hk
theorem am_prJ_pair {h : am_H} {G : Nat → am_E} {jx jm : Nat} {as : List Value} {lvx lvm tx tm : am_L} (ex : lv_args 0 (.ref 1 :: as) = lvx ++ tx) (em : lv_args 0 (.ref 168 :: as) = lvm ++ tm) (hk : am_prJ h jx jm lvx lvm = true) : am_pairJ (am_mH G h) jx jm as am_N1 := by
  unfold am_prJ at hk
  simp only [Bool.and_eq_true, decide_eq_true_eq] at hk
  obtain ⟨⟨c1, c2⟩, hk⟩ := hk
  refine ⟨am_isC_spec G c1, c2, ?_⟩
  split at hk
  · rename_i v h1 e1
    simp only [Bool.and_eq_true, decide_eq_true_eq] at hk
    obtain ⟨⟨c3, c4⟩, hk⟩ := hk
    split at hk
    · rename_i w h2 e2
      simp only [Bool.and_eq_true, decide_eq_true_eq] at hk
      obtain ⟨⟨c5, c6⟩, c7⟩ := hk
      subst c5
      rw [ex]
      refine am_wp_deep (d := 20) (by decide) ⟨30000, _, _, am_frame G _ _ _ _ _ _ _ _ _ (am_ext _ _ _ _ _ tx _ _ _ e1), v, rfl, am_isC_spec G c3, c4, ?_⟩
      rw [em]
      exact am_wp_deep (d := 20) (by decide) ⟨30000, _, _, am_frame G _ _ _ _ _ _ _ _ _ (am_ext _ _ _ _ _ tm _ _ _ e2), rfl, c6, c7⟩
    · cases hk
  · cases hk
def am_l1 (as : List Value) : am_L := lv_args 0 (.ref 1 :: as)
def am_l2 (as : List Value) : am_L := lv_args 0 (.ref 168 :: as)
