theorem am_run_of {L : Nat} {xs : Nat → Int32} (k : am_wp 30 am_lawI 0 [(0, .ref 0)] [] (0, 0, fun _ => .inl (1, L, .inl xs)) (fun rv h' => rv = some (.int 1) ∧ h'.1 ≤ 600000 ∧ h'.2.1 ≤ 7000000)) : am_Run L xs := by
  obtain ⟨f, rv, h', hx, h1, h2, h3⟩ := k
  subst h1
  exact ⟨f, 30, h', hx, h2, h3, by decide⟩
