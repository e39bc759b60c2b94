theorem am_run_of {L : Nat} {xs : Nat → Int32} (k : am_wp 30 am_lawI 0 [(0, .ref 0)] [] (0, 0, fun _ => .inl (1, L, .inl xs)) (fun rv h' => rv = some (.int 1) ∧ h'.1 ≤ 600000 ∧ h'.2.1 ≤ 7000000)) : am_Run L xs := by
  obtain ⟨f, rv, h', hx, h1, h2, h3⟩ := k
  subst h1
  exact ⟨f, 30, h', hx, h2, h3, by decide⟩
theorem p1_run {L : Nat} {xs : Nat → Int32} (hL : L ≤ 5) : am_Run L xs := by
  refine am_run_of (lw_made (S := .inl (1, L, .inl xs)) ?_)
  refine lw_loop (Inv := am_Iv (fun _ => .inl (1, L, .inl xs))) (by omega) ?_ ?_ 1 0 _ (by omega) (by omega) rfl (am_sc0 am_hC_0)
  · intro n hn
    have e : n = 0 := by omega
    subst e
    exact lw_keeps1
  · intro n h hn hI
    match n, hI with
    | 0, hI =>
      have e : h = am_mH (fun _ => .inl (1, L, .inl xs)) am_hC := hI
      rw [e]
      exact ⟨rfl, am_N_hC _⟩
    | n + 1, hI => exact ⟨rfl, hI⟩
