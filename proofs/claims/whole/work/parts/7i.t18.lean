/-! always to the nearest one that is left -/
def nr_at (n : Int) (D : Int → Int → Int) (u : Int → Prop) (c m v : Int) : Prop := (v = -1 ∧ ∀ b, 0 ≤ b → b < m → ¬ u b) ∨ ((0 ≤ v ∧ v < m) ∧ u v ∧ ∀ b, 0 ≤ b → b < m → u b → D c v < D c b ∨ D c v = D c b ∧ v ≤ b)
theorem nr_skip {n : Int} {D : Int → Int → Int} {u : Int → Prop} {c m v : Int} (h : nr_at n D u c m v) (hm : ¬ u m) : nr_at n D u c (m + 1) v := by
  rcases h with ⟨h1, h2⟩ | ⟨h1, h2, h3⟩
  · refine Or.inl ⟨h1, fun b b0 b1 => ?_⟩
    by_cases e : b = m
    · rw [e]; exact hm
    · exact h2 b b0 (by omega)
  · refine Or.inr ⟨by omega, h2, fun b b0 b1 hb => ?_⟩
    by_cases e : b = m
    · exact absurd (e ▸ hb) hm
    · exact h3 b b0 (by omega) hb
theorem nr_keep {n : Int} {D : Int → Int → Int} {u : Int → Prop} {c m v : Int} (h : nr_at n D u c m v) (hv : v ≠ -1) (hd : D c v ≤ D c m) : nr_at n D u c (m + 1) v := by
  rcases h with ⟨h1, h2⟩ | ⟨h1, h2, h3⟩
  · exact absurd h1 hv
  · refine Or.inr ⟨by omega, h2, fun b b0 b1 hb => ?_⟩
    by_cases e : b = m
    · rw [e]; omega
    · exact h3 b b0 (by omega) hb
theorem nr_take {n : Int} {D : Int → Int → Int} {u : Int → Prop} {c m v : Int} (h : nr_at n D u c m v) (hm : 0 ≤ m) (hu : u m) (hd : v = -1 ∨ D c m < D c v) : nr_at n D u c (m + 1) m := by
  refine Or.inr ⟨by omega, hu, fun b b0 b1 hb => ?_⟩
  by_cases e : b = m
  · rw [e]; exact Or.inr ⟨rfl, Int.le_refl _⟩
  · rcases h with ⟨h1, h2⟩ | ⟨h1, h2, h3⟩
    · exact absurd hb (h2 b b0 (by omega))
    · have := h3 b b0 (by omega) hb
      omega
/-- the tour to the nearest: k stops of it -/
def nt_ok (n : Int) (D : Int → Int → Int) (st : Int) (t : Int → Int) (k : Int) : Prop := t 0 = st ∧ (∀ i, 0 ≤ i → i < k → 0 ≤ t i ∧ t i < n) ∧ (∀ i j, 0 ≤ i → i < j → j < k → t i ≠ t j) ∧ ∀ i, 0 < i → i < k → ∀ b, 0 ≤ b → b < n → (∀ j, 0 ≤ j → j < i → t j ≠ b) → D (t (i - 1)) (t i) < D (t (i - 1)) b ∨ D (t (i - 1)) (t i) = D (t (i - 1)) b ∧ t i ≤ b
theorem nt_uniq {n : Int} {D D2 : Int → Int → Int} {st : Int} {t t2 : Int → Int} {k : Int} (hD : ∀ a b, 0 ≤ a → a < n → 0 ≤ b → b < n → D a b = D2 a b) (h : nt_ok n D st t k) (h2 : nt_ok n D2 st t2 k) : ∀ i : Nat, (i : Int) < k → t i = t2 i := by
  intro i
  induction i using Nat.strongRecOn with
  | ind i ih =>
    intro hi
    obtain ⟨a1, a2, a3, a4⟩ := h
    obtain ⟨b1, b2, b3, b4⟩ := h2
    by_cases e : i = 0
    · subst e
      exact a1.trans b1.symm
    · have ihj : ∀ j : Int, 0 ≤ j → j < i → t j = t2 j := fun j j0 j1 => by
        obtain ⟨q, rfl⟩ := Int.eq_ofNat_of_zero_le j0
        exact ih q (by omega) (by omega)
      have r1 := a2 i (by omega) hi
      have r2 := b2 i (by omega) hi
      have r0 := a2 ((i : Int) - 1) (by omega) (by omega)
      have x1 := a4 i (by omega) hi (t2 i) r2.1 r2.2 (fun j j0 j1 e2 => b3 j i j0 j1 hi (by rw [← ihj j j0 j1]; exact e2))
      have x2 := b4 i (by omega) hi (t i) r1.1 r1.2 (fun j j0 j1 e2 => a3 j i j0 j1 hi (by rw [ihj j j0 j1]; exact e2))
      have e0 := ihj ((i : Int) - 1) (by omega) (by omega)
      rw [← e0] at x2
      rw [← hD _ _ r0.1 r0.2 r1.1 r1.2, ← hD _ _ r0.1 r0.2 r2.1 r2.2] at x2
      omega
theorem t_useNone {d : Nat} {E : am_Ev} {s : am_S} (g : am_Eg E) : am_wp d 8 0 (lv_args 0 [.ref 153]) [] (am_hp E s) (fun rv h => rv = none ∧ ∃ s', h = am_hp E s' ∧ am_Fr [154] s s' ∧ ∀ y, 0 ≤ y → y < 20 → s' 154 y = 0) := by
  refine s_k 0 rfl rfl ?_
  refine am_s rfl rfl ?_
  refine am_lv [(1, .int (iI (((0 : Nat) : Int) : Int))), (0, .ref 153)] rfl rfl ⟨rfl, rfl, trivial⟩ ?_
  refine s_loop (X := Unit) (fun k _ s' => am_Fr [154] s s' ∧ ∀ y, 0 ≤ y → y < (k : Int) → s' 154 y = 0) (fun k _ => [(1, .int (iI (k : Int))), (0, .ref 153)]) (hi := 20) (x := ()) (by decide) ⟨am_Fr_r _ _, fun y y0 y1 => absurd y1 (by omega)⟩ ?_ ?_
  · rintro k - s1 hk0 hk ⟨hF, hV⟩ kk
    simp only at kk ⊢
    refine am_s rfl rfl ?_
    refine s_k 20 rfl rfl ?_
    refine s_cge rfl ⟨by omega, by omega⟩ ⟨by omega, by omega⟩ (fun c1 => absurd c1 (by omega)) (fun c1 => ?_)
    refine am_s rfl rfl ?_
    refine s_gr rfl g rfl rfl ?_
    refine am_s rfl rfl ?_
    refine s_k 0 rfl rfl ?_
    refine s_bs rfl g rfl ⟨by omega, by omega⟩ (by decide) (Or.inl rfl) ?_
    refine s_inc rfl rfl ?_
    refine am_s rfl rfl ?_
    refine am_lv [(1, _), (0, _)] rfl rfl ⟨rfl, rfl, trivial⟩ ?_
    refine kk () _ ⟨am_Fr_W hF (by decide), fun y y0 y1 => ?_⟩
    by_cases e : y = (k : Int)
    · rw [e, am_w_eq]
    · rw [am_w_x e]; exact hV y y0 (by omega)
  · rintro - s1 ⟨hF, hV⟩
    simp only
    refine am_s rfl rfl ?_
    refine s_k 20 rfl rfl ?_
    refine s_cge rfl ⟨by omega, by omega⟩ ⟨by omega, by omega⟩ (fun c1 => ?_) (fun c1 => absurd c1 (by omega))
    exact am_r rfl rfl ⟨rfl, s1, rfl, hF, hV⟩
theorem t_nearest {d : Nat} {E : am_Ev} {s : am_S} {c : Int} (g : am_Eg E) (hm : mx_ok s) (hc : 0 ≤ c ∧ c < s 25 0) (hu : ∀ y, 0 ≤ y → y < s 25 0 → s 154 y = 0 ∨ s 154 y = 1) : am_wp d 11 0 (lv_args 0 [.ref 153, .ref 25, .int (iI c)]) [] (am_hp E s) (fun rv h => h = am_hp E s ∧ ∃ v, rv = some (.int (iI v)) ∧ nr_at (s 25 0) (mx s) (fun b => s 154 b = 0) c (s 25 0) v) := by
  obtain ⟨n1, n2, hD⟩ := hm
  obtain ⟨n, en⟩ : ∃ n : Nat, s 25 0 = n := ⟨(s 25 0).toNat, by omega⟩
  refine am_s rfl rfl ?_
  refine s_gr rfl g rfl rfl ?_
  refine am_s rfl rfl ?_
  refine s_aa rfl g rfl ⟨by omega, by omega⟩ (by decide) ?_
  refine am_s rfl rfl ?_
  refine s_k (-1) rfl rfl ?_
  refine am_s rfl rfl ?_
  refine s_k 0 rfl rfl ?_
  refine am_s rfl rfl ?_
  refine am_lv [(5, .int (iI (((0 : Nat) : Int) : Int))), (4, .int (iI (-1))), (3, .ref (26 + 1 + c.toNat)), (2, .int (iI c)), (1, .ref 25), (0, .ref 153)] rfl rfl ⟨rfl, rfl, rfl, rfl, rfl, rfl, trivial⟩ ?_
  refine s_loop (X := Int) (fun m v s' => s = s' ∧ nr_at n (mx s) (fun b => s 154 b = 0) c m v) (fun m v => [(5, .int (iI (m : Int))), (4, .int (iI v)), (3, .ref (26 + 1 + c.toNat)), (2, .int (iI c)), (1, .ref 25), (0, .ref 153)]) (hi := n) (x := -1) (Nat.zero_le n) ⟨rfl, Or.inl ⟨rfl, fun b b0 b1 => absurd b1 (by omega)⟩⟩ ?_ ?_
  · rintro m v s1 hm0 hm ⟨rfl, hQ⟩ kk
    have hvr : v = -1 ∨ 0 ≤ v ∧ v < (m : Int) := by
      rcases hQ with ⟨z, -⟩ | ⟨z, -⟩
      · exact Or.inl z
      · exact Or.inr z
    have hum := hu m (by omega) (by omega)
    simp only at kk ⊢
    refine am_s rfl rfl ?_
    refine am_s rfl rfl ?_
    refine s_gi (x := 0) rfl g rfl rfl rfl ?_
    refine s_cge rfl ⟨by omega, by omega⟩ ⟨by omega, by omega⟩ (fun c1 => absurd c1 (by omega)) (fun c1 => ?_)
    refine am_s rfl rfl ?_
    refine s_gr rfl g rfl rfl ?_
    refine am_s rfl rfl ?_
    refine s_ba rfl g rfl ⟨by omega, by omega⟩ (by decide) ?_
    refine s_zne rfl ⟨by omega, by omega⟩ (fun c2 => ?_) (fun c2 => ?_)
    · refine s_inc rfl rfl ?_
      refine am_s rfl rfl ?_
      refine am_lv [(5, _), (4, _), (3, _), (2, _), (1, _), (0, _)] rfl rfl ⟨rfl, rfl, rfl, rfl, rfl, rfl, trivial⟩ ?_
      exact kk v s ⟨rfl, nr_skip hQ (by show ¬ s 154 m = 0; exact c2)⟩
    · refine am_s rfl rfl ?_
      refine s_k (-1) rfl rfl ?_
      refine s_ceq rfl ⟨by omega, by omega⟩ ⟨by omega, by omega⟩ (fun c3 => ?_) (fun c3 => ?_)
      · refine am_s rfl rfl ?_
        refine am_s rfl rfl ?_
        refine s_inc rfl rfl ?_
        refine am_s rfl rfl ?_
        refine am_lv [(5, _), (4, _), (3, _), (2, _), (1, _), (0, _)] rfl rfl ⟨rfl, rfl, rfl, rfl, rfl, rfl, trivial⟩ ?_
        exact kk m s ⟨rfl, nr_take hQ (by omega) (by show s 154 m = 0; omega) (Or.inl c3)⟩
      · refine am_s rfl rfl ?_
        refine am_s rfl rfl ?_
        refine s_ia rfl g (lo_26 (by omega) (by omega)) ⟨by omega, by omega⟩ (by decide) ?_
        refine am_s rfl rfl ?_
        refine am_s rfl rfl ?_
        refine s_ia rfl g (lo_26 (by omega) (by omega)) ⟨by omega, by omega⟩ (by decide) ?_
        refine s_cge rfl (by have := hD c m (by omega) (by omega) (by omega) (by omega); unfold mx at this; exact ⟨by omega, by omega⟩) (by have := hD c v (by omega) (by omega) (by omega) (by omega); unfold mx at this; exact ⟨by omega, by omega⟩) (fun c4 => ?_) (fun c4 => ?_)
        · refine s_inc rfl rfl ?_
          refine am_s rfl rfl ?_
          refine am_lv [(5, _), (4, _), (3, _), (2, _), (1, _), (0, _)] rfl rfl ⟨rfl, rfl, rfl, rfl, rfl, rfl, trivial⟩ ?_
          exact kk v s ⟨rfl, nr_keep hQ c3 (by unfold mx; exact c4)⟩
        · refine am_s rfl rfl ?_
          refine am_s rfl rfl ?_
          refine s_inc rfl rfl ?_
          refine am_s rfl rfl ?_
          refine am_lv [(5, _), (4, _), (3, _), (2, _), (1, _), (0, _)] rfl rfl ⟨rfl, rfl, rfl, rfl, rfl, rfl, trivial⟩ ?_
          exact kk m s ⟨rfl, nr_take hQ (by omega) (by show s 154 m = 0; omega) (Or.inr (by unfold mx; omega))⟩
  · rintro v s1 ⟨rfl, hQ⟩
    simp only
    refine am_s rfl rfl ?_
    refine am_s rfl rfl ?_
    refine s_gi (x := 0) rfl g rfl rfl rfl ?_
    refine s_cge rfl ⟨by omega, by omega⟩ ⟨by omega, by omega⟩ (fun c1 => ?_) (fun c1 => absurd c1 (by omega))
    refine am_s rfl rfl ?_
    exact am_r rfl rfl ⟨rfl, v, rfl, by rw [en]; exact hQ⟩
