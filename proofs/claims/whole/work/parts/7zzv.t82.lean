/-! PURE: the odd ones: where they lie, and that they are even in number -/
theorem oc_ex (D : Int → Int) : ∀ {n : Nat} {i : Int}, 0 ≤ i → i < oc D n → ∃ m : Nat, m < n ∧ D m % 2 = 1 ∧ oc D m = i
  | 0, i, h0, h1 => absurd h1 (by show ¬ i < 0; omega)
  | n + 1, i, h0, h1 => by
    have h1 : i < oc D n + D n % 2 := h1
    by_cases c : i < oc D n
    · obtain ⟨m, m1, m2, m3⟩ := oc_ex D h0 c
      exact ⟨m, by omega, m2, m3⟩
    · exact ⟨n, by omega, by omega, by omega⟩
theorem od_ra {D od : Int → Int} {n : Nat} (h : od_is D n od) {i : Int} (h0 : 0 ≤ i) (h1 : i < oc D n) : 0 ≤ od i ∧ od i < n := by
  obtain ⟨m, m1, m2, m3⟩ := oc_ex D h0 h1
  have := h m m1 m2
  rw [m3] at this
  omega
theorem oc_mo (D : Int → Int) {k m : Nat} (h : k ≤ m) : oc D k ≤ oc D m := by
  induction m with
  | zero => rw [Nat.le_zero.mp h]; exact Int.le_refl _
  | succ m ih =>
    show oc D k ≤ oc D m + D m % 2
    by_cases c : k = m + 1
    · rw [c]; exact Int.le_refl _
    · have := ih (by omega); omega
theorem od_up {D od : Int → Int} {n : Nat} (h : od_is D n od) {i j : Int} (h0 : 0 ≤ i) (hij : i < j) (h1 : j < oc D n) : od i < od j := by
  obtain ⟨a, a1, a2, a3⟩ := oc_ex D (n := n) (i := i) h0 (by omega)
  obtain ⟨b, b1, b2, b3⟩ := oc_ex D (n := n) (i := j) (by omega) h1
  have ea := h a a1 a2
  have eb := h b b1 b2
  rw [a3] at ea
  rw [b3] at eb
  rcases Nat.lt_or_ge a b with c | c
  · omega
  · have := oc_mo D c; omega
theorem oc_par (D : Int → Int) : ∀ n : Nat, (mt_s (fun c => D c) n - oc D n) % 2 = 0
  | 0 => rfl
  | n + 1 => by
    have := oc_par D n
    show (mt_s (fun c => D c) n + D n - (oc D n + D n % 2)) % 2 = 0
    omega
theorem mt_s_1 {v n : Nat} (h : v < n) : mt_s (fun k => if (k : Int) = (v : Int) then 1 else 0) n = 1 := by
  have e := mt_s_one (f := fun k : Nat => if (k : Int) = (v : Int) then (1 : Int) else 0) (g := fun _ => 0) (j := v) (n := n) h (fun i _ hi => if_neg (by omega))
  rw [e, mt_s_zero]
  simp
theorem dgf_par {hu : Int → Int} {n : Nat} (hr : ∀ c, 1 ≤ c → c < (n : Int) → 0 ≤ hu c ∧ hu c < n) : ∀ m : Nat, m ≤ n → mt_s (fun c => dgf hu m c) n % 2 = 0
  | 0, _ => by
    have e : mt_s (fun c => dgf hu 0 c) n = mt_s (fun _ => 0) n := mt_s_congr (fun _ _ => rfl)
    rw [e, mt_s_zero]; rfl
  | m + 1, hm => by
    have ih := dgf_par hr m (by omega)
    by_cases c : m = 0
    · subst c
      rw [mt_s_congr (g := fun _ => 0) (fun c _ => by show 0 + (if 0 = 0 then (0 : Int) else _) = 0; rw [if_pos rfl]; rfl), mt_s_zero]; rfl
    · have r := hr m (by omega) (by omega)
      have e : mt_s (fun x => dgf hu (m + 1) x) n = mt_s (fun x => dgf hu m x + ((if (x : Int) = (m : Int) then 1 else 0) + (if (x : Int) = hu m then 1 else 0))) n := mt_s_congr (fun x _ => dgf_s c x)
      rw [e]
      obtain ⟨k, ek⟩ : ∃ k : Nat, hu m = k := ⟨(hu m).toNat, by omega⟩
      rw [mt_s_add, mt_s_add, ek, mt_s_1 (by omega), mt_s_1 (by omega)]
      omega
theorem oc_even {hu : Int → Int} {n : Nat} (hr : ∀ c, 1 ≤ c → c < (n : Int) → 0 ≤ hu c ∧ hu c < n) : oc (dgf hu n) n % 2 = 0 := by
  have a := oc_par (dgf hu n) n
  have b := dgf_par hr n (Nat.le_refl n)
  omega
