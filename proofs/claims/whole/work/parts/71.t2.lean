theorem lo_4 {x : Int} (h0 : 0 ≤ x) (h1 : x < 20) : am_lo (4 + 1 + x.toNat) = some (.inl (1, 20)) := by
  obtain ⟨k, rfl⟩ := Int.eq_ofNat_of_zero_le h0
  rw [Int.toNat_natCast]
  have hk : k < 20 := by omega
  rcases (show k = 0 ∨ k = 1 ∨ k = 2 ∨ k = 3 ∨ k = 4 ∨ k = 5 ∨ k = 6 ∨ k = 7 ∨ k = 8 ∨ k = 9 ∨ k = 10 ∨ k = 11 ∨ k = 12 ∨ k = 13 ∨ k = 14 ∨ k = 15 ∨ k = 16 ∨ k = 17 ∨ k = 18 ∨ k = 19 by omega) with rfl | rfl | rfl | rfl | rfl | rfl | rfl | rfl | rfl | rfl | rfl | rfl | rfl | rfl | rfl | rfl | rfl | rfl | rfl | rfl <;> rfl
theorem lo_26 {x : Int} (h0 : 0 ≤ x) (h1 : x < 20) : am_lo (26 + 1 + x.toNat) = some (.inl (1, 20)) := by
  obtain ⟨k, rfl⟩ := Int.eq_ofNat_of_zero_le h0
  rw [Int.toNat_natCast]
  have hk : k < 20 := by omega
  rcases (show k = 0 ∨ k = 1 ∨ k = 2 ∨ k = 3 ∨ k = 4 ∨ k = 5 ∨ k = 6 ∨ k = 7 ∨ k = 8 ∨ k = 9 ∨ k = 10 ∨ k = 11 ∨ k = 12 ∨ k = 13 ∨ k = 14 ∨ k = 15 ∨ k = 16 ∨ k = 17 ∨ k = 18 ∨ k = 19 by omega) with rfl | rfl | rfl | rfl | rfl | rfl | rfl | rfl | rfl | rfl | rfl | rfl | rfl | rfl | rfl | rfl | rfl | rfl | rfl | rfl <;> rfl
theorem lo_63 {x : Int} (h0 : 0 ≤ x) (h1 : x < 20) : am_lo (63 + 1 + x.toNat) = some (.inl (2, 20)) := by
  obtain ⟨k, rfl⟩ := Int.eq_ofNat_of_zero_le h0
  rw [Int.toNat_natCast]
  have hk : k < 20 := by omega
  rcases (show k = 0 ∨ k = 1 ∨ k = 2 ∨ k = 3 ∨ k = 4 ∨ k = 5 ∨ k = 6 ∨ k = 7 ∨ k = 8 ∨ k = 9 ∨ k = 10 ∨ k = 11 ∨ k = 12 ∨ k = 13 ∨ k = 14 ∨ k = 15 ∨ k = 16 ∨ k = 17 ∨ k = 18 ∨ k = 19 by omega) with rfl | rfl | rfl | rfl | rfl | rfl | rfl | rfl | rfl | rfl | rfl | rfl | rfl | rfl | rfl | rfl | rfl | rfl | rfl | rfl <;> rfl
theorem lo_94 {x : Int} (h0 : 0 ≤ x) (h1 : x < 10) : am_lo (94 + 1 + x.toNat) = some (.inl (1, 20)) := by
  obtain ⟨k, rfl⟩ := Int.eq_ofNat_of_zero_le h0
  rw [Int.toNat_natCast]
  have hk : k < 10 := by omega
  rcases (show k = 0 ∨ k = 1 ∨ k = 2 ∨ k = 3 ∨ k = 4 ∨ k = 5 ∨ k = 6 ∨ k = 7 ∨ k = 8 ∨ k = 9 by omega) with rfl | rfl | rfl | rfl | rfl | rfl | rfl | rfl | rfl | rfl <;> rfl
theorem lo_105 {x : Int} (h0 : 0 ≤ x) (h1 : x < 10) : am_lo (105 + 1 + x.toNat) = some (.inl (1, 20)) := by
  obtain ⟨k, rfl⟩ := Int.eq_ofNat_of_zero_le h0
  rw [Int.toNat_natCast]
  have hk : k < 10 := by omega
  rcases (show k = 0 ∨ k = 1 ∨ k = 2 ∨ k = 3 ∨ k = 4 ∨ k = 5 ∨ k = 6 ∨ k = 7 ∨ k = 8 ∨ k = 9 by omega) with rfl | rfl | rfl | rfl | rfl | rfl | rfl | rfl | rfl | rfl <;> rfl
theorem lo_116 {x : Int} (h0 : 0 ≤ x) (h1 : x < 10) : am_lo (116 + 1 + x.toNat) = some (.inl (1, 20)) := by
  obtain ⟨k, rfl⟩ := Int.eq_ofNat_of_zero_le h0
  rw [Int.toNat_natCast]
  have hk : k < 10 := by omega
  rcases (show k = 0 ∨ k = 1 ∨ k = 2 ∨ k = 3 ∨ k = 4 ∨ k = 5 ∨ k = 6 ∨ k = 7 ∨ k = 8 ∨ k = 9 by omega) with rfl | rfl | rfl | rfl | rfl | rfl | rfl | rfl | rfl | rfl <;> rfl
theorem lo_130 {x : Int} (h0 : 0 ≤ x) (h1 : x < 20) : am_lo (130 + 1 + x.toNat) = some (.inl (1, 20)) := by
  obtain ⟨k, rfl⟩ := Int.eq_ofNat_of_zero_le h0
  rw [Int.toNat_natCast]
  have hk : k < 20 := by omega
  rcases (show k = 0 ∨ k = 1 ∨ k = 2 ∨ k = 3 ∨ k = 4 ∨ k = 5 ∨ k = 6 ∨ k = 7 ∨ k = 8 ∨ k = 9 ∨ k = 10 ∨ k = 11 ∨ k = 12 ∨ k = 13 ∨ k = 14 ∨ k = 15 ∨ k = 16 ∨ k = 17 ∨ k = 18 ∨ k = 19 by omega) with rfl | rfl | rfl | rfl | rfl | rfl | rfl | rfl | rfl | rfl | rfl | rfl | rfl | rfl | rfl | rfl | rfl | rfl | rfl | rfl <;> rfl
theorem t_fillI {d a n : Nat} {E : am_Ev} {s : am_S} {v : Int} (g : am_Eg E) (ha : am_lo a = some (.inl (1, n))) (hn : n ≤ 2000000) : am_wp d 224 0 (lv_args 0 [.ref a, .int (iI v)]) [] (am_hp E s) (fun rv h => rv = none ∧ ∃ s', h = am_hp E s' ∧ am_Fr [a] s s' ∧ ∀ y, 0 ≤ y → y < (n : Int) → s' a y = v) := by
  refine s_k 0 rfl rfl ?_
  refine am_s rfl rfl ?_
  refine am_s rfl rfl ?_
  refine s_len rfl g ha (by decide) ?_
  refine am_s rfl rfl ?_
  refine am_lv [(2, .int (iI ((0 : Nat) : Int))), (3, .int (iI (n : Int))), (1, .int (iI v)), (0, .ref a)] rfl rfl ⟨rfl, rfl, rfl, rfl, trivial⟩ ?_
  refine s_loop (X := Unit) (fun k _ s' => am_Fr [a] s s' ∧ ∀ y, 0 ≤ y → y < (k : Int) → s' a y = v) (fun k _ => [(2, .int (iI (k : Int))), (3, .int (iI (n : Int))), (1, .int (iI v)), (0, .ref a)]) (hi := n) (x := ()) (Nat.zero_le n) ⟨am_Fr_r _ _, fun y h0 h1 => absurd h1 (by omega)⟩ ?_ ?_
  · rintro k - s1 hk0 hk ⟨hF, hV⟩ kk
    simp only at kk ⊢
    refine am_s rfl rfl ?_
    refine am_s rfl rfl ?_
    refine s_cge rfl ⟨by omega, by omega⟩ ⟨by omega, by omega⟩ (fun c1 => absurd c1 (by omega)) (fun c1 => ?_)
    refine am_s rfl rfl ?_
    refine am_s rfl rfl ?_
    refine am_s rfl rfl ?_
    refine s_is rfl g ha ⟨by omega, by omega⟩ hn ?_
    refine s_inc rfl rfl ?_
    refine am_s rfl rfl ?_
    refine am_lv [(2, _), (3, _), (1, _), (0, _)] rfl rfl ⟨rfl, rfl, rfl, rfl, trivial⟩ ?_
    refine kk () _ ⟨am_Fr_W hF (List.mem_singleton.mpr rfl), fun y h0 h1 => ?_⟩
    by_cases e : y = (k : Int)
    · rw [e, am_w_eq]
    · rw [am_w_x e]
      exact hV y h0 (by omega)
  · rintro - s1 ⟨hF, hV⟩
    simp only
    refine am_s rfl rfl ?_
    refine am_s rfl rfl ?_
    refine s_cge rfl ⟨by omega, by omega⟩ ⟨by omega, by omega⟩ (fun c1 => ?_) (fun c1 => absurd c1 (by omega))
    exact am_r rfl rfl ⟨rfl, s1, rfl, hF, hV⟩
theorem t_fillJ {d a n : Nat} {E : am_Ev} {s : am_S} {v : Int} (g : am_Eg E) (ha : am_lo a = some (.inl (2, n))) (hn : n ≤ 2000000) : am_wp d 223 0 (lv_args 0 [.ref a, .long (lI v)]) [] (am_hp E s) (fun rv h => rv = none ∧ ∃ s', h = am_hp E s' ∧ am_Fr [a] s s' ∧ ∀ y, 0 ≤ y → y < (n : Int) → s' a y = v) := by
  refine s_k 0 rfl rfl ?_
  refine am_s rfl rfl ?_
  refine am_s rfl rfl ?_
  refine s_len rfl g ha (by decide) ?_
  refine am_s rfl rfl ?_
  refine am_lv [(3, .int (iI ((0 : Nat) : Int))), (4, .int (iI (n : Int))), (1, .long (lI v)), (0, .ref a)] rfl rfl ⟨rfl, rfl, rfl, rfl, trivial⟩ ?_
  refine s_loop (X := Unit) (fun k _ s' => am_Fr [a] s s' ∧ ∀ y, 0 ≤ y → y < (k : Int) → s' a y = v) (fun k _ => [(3, .int (iI (k : Int))), (4, .int (iI (n : Int))), (1, .long (lI v)), (0, .ref a)]) (hi := n) (x := ()) (Nat.zero_le n) ⟨am_Fr_r _ _, fun y h0 h1 => absurd h1 (by omega)⟩ ?_ ?_
  · rintro k - s1 hk0 hk ⟨hF, hV⟩ kk
    simp only at kk ⊢
    refine am_s rfl rfl ?_
    refine am_s rfl rfl ?_
    refine s_cge rfl ⟨by omega, by omega⟩ ⟨by omega, by omega⟩ (fun c1 => absurd c1 (by omega)) (fun c1 => ?_)
    refine am_s rfl rfl ?_
    refine am_s rfl rfl ?_
    refine am_s rfl rfl ?_
    refine s_ls rfl g ha ⟨by omega, by omega⟩ hn ?_
    refine s_inc rfl rfl ?_
    refine am_s rfl rfl ?_
    refine am_lv [(3, _), (4, _), (1, _), (0, _)] rfl rfl ⟨rfl, rfl, rfl, rfl, trivial⟩ ?_
    refine kk () _ ⟨am_Fr_W hF (List.mem_singleton.mpr rfl), fun y h0 h1 => ?_⟩
    by_cases e : y = (k : Int)
    · rw [e, am_w_eq]
    · rw [am_w_x e]
      exact hV y h0 (by omega)
  · rintro - s1 ⟨hF, hV⟩
    simp only
    refine am_s rfl rfl ?_
    refine am_s rfl rfl ?_
    refine s_cge rfl ⟨by omega, by omega⟩ ⟨by omega, by omega⟩ (fun c1 => ?_) (fun c1 => absurd c1 (by omega))
    exact am_r rfl rfl ⟨rfl, s1, rfl, hF, hV⟩
