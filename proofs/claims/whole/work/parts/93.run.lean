theorem am_run_of {L : Nat} {xs : Nat → Int32} (k : am_wp 30 am_lawI 0 [(0, .ref 0)] [] (0, 0, fun _ => .inl (1, L, .inl xs)) (fun rv h' => rv = some (.int 1) ∧ h'.1 ≤ 600000 ∧ h'.2.1 ≤ 7000000)) : am_Run L xs := by
  obtain ⟨f, rv, h', hx, h1, h2, h3⟩ := k
  subst h1
  exact ⟨f, 30, h', hx, h2, h3, by decide⟩
theorem am_mg_dm {a G : Nat → am_E} {k : Nat} (h : am_isDm (a k) = true) : am_mg a G k = G k := by
  unfold am_mg
  rw [if_pos h]
set_option maxRecDepth 100000 in
theorem am_hC_0 : am_isDm (am_hC.2.2 0) = true := by decide +kernel
theorem am_sc0 {h : am_H} {G : Nat → am_E} (k : am_isDm (h.2.2 0) = true) : (am_mH G h).2.2 0 = G 0 := am_mg_dm k
theorem whole_run {L : Nat} {xs : Nat → Int32} (hL : L ≤ 2560) : am_Run L xs := by
  refine am_run_of (lw_made (S := .inl (1, L, .inl xs)) ?_)
  refine lw_loop (Inv := wInv) hL ?_ ?_ 513 0 _ (by omega) (by omega) (wInv_start _) (am_sc0 am_hC_0)
  · intro n hn
    exact w_keeps (by omega)
  · intro n h hn hI
    exact ⟨rfl, w_room (by omega) hI⟩
