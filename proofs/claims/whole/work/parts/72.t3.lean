theorem t_tell {d : Nat} {E : am_Ev} {s : am_S} {a b v : Int} (g : am_Eg E) (ha : 0 ≤ a ∧ a < 20) (hb : 0 ≤ b ∧ b < 20) : am_wp d 58 0 (lv_args 0 [.ref 25, .int (iI a), .int (iI b), .int (iI v)]) [] (am_hp E s) (fun rv h => rv = none ∧ h = am_hp E (am_w (am_w s (26 + 1 + a.toNat) b v) 25 2 0)) := by
  refine am_s rfl rfl ?_
  refine s_gr rfl g rfl rfl ?_
  refine am_s rfl rfl ?_
  refine s_aa rfl g rfl ⟨by omega, by omega⟩ (by decide) ?_
  refine am_s rfl rfl ?_
  refine am_s rfl rfl ?_
  refine s_is rfl g (lo_26 (by omega) (by omega)) ⟨by omega, by omega⟩ (by decide) ?_
  refine am_s rfl rfl ?_
  refine s_k 0 rfl rfl ?_
  refine s_pi (x := 2) rfl g rfl rfl rfl rfl ?_
  exact am_r rfl rfl ⟨rfl, rfl⟩
theorem t_mreset {d n : Nat} {E : am_Ev} {s : am_S} (g : am_Eg E) (hn : n ≤ 20) : am_wp (d + 1) 57 0 (lv_args 0 [.ref 25, .int (iI (n : Int))]) [] (am_hp E s) (fun rv h => rv = none ∧ ∃ s', h = am_hp E s' ∧ am_Fr (25 :: List.range' 27 20) s s' ∧ s' 25 0 = n ∧ s' 25 1 = s 25 1 ∧ s' 25 2 = 0 ∧ s' 25 3 = s 25 3 ∧ ∀ a y, 0 ≤ a → a < (n : Int) → 0 ≤ y → y < 20 → s' (26 + 1 + a.toNat) y = 0) := by
  refine am_s rfl rfl ?_
  refine am_s rfl rfl ?_
  refine s_pi (x := 0) rfl g rfl rfl rfl rfl ?_
  refine am_s rfl rfl ?_
  refine s_k 0 rfl rfl ?_
  refine s_pi (x := 2) rfl g rfl rfl rfl rfl ?_
  refine s_k 0 rfl rfl ?_
  refine am_s rfl rfl ?_
  refine am_lv [(2, .int (iI ((0 : Nat) : Int))), (1, .int (iI (n : Int))), (0, .ref 25)] rfl rfl ⟨rfl, rfl, rfl, trivial⟩ ?_
  refine s_loop (X := Unit) (fun k _ s' => am_Fr (25 :: List.range' 27 20) s s' ∧ s' 25 0 = n ∧ s' 25 1 = s 25 1 ∧ s' 25 2 = 0 ∧ s' 25 3 = s 25 3 ∧ ∀ a y, 0 ≤ a → a < (k : Int) → 0 ≤ y → y < 20 → s' (26 + 1 + a.toNat) y = 0) (fun k _ => [(2, .int (iI (k : Int))), (1, .int (iI (n : Int))), (0, .ref 25)]) (hi := n) (x := ()) (Nat.zero_le n) ⟨am_Fr_W (am_Fr_w (by decide)) (by decide), rfl, rfl, rfl, rfl, fun a y h0 h1 => absurd h1 (by omega)⟩ ?_ ?_
  · rintro k - s1 hk0 hk ⟨hF, h2, h3, h4, h5, h6⟩ kk
    simp only at kk ⊢
    refine am_s rfl rfl ?_
    refine am_s rfl rfl ?_
    refine s_cge rfl ⟨by omega, by omega⟩ ⟨by omega, by omega⟩ (fun c1 => absurd c1 (by omega)) (fun c1 => ?_)
    refine am_s rfl rfl ?_
    refine s_gr rfl g rfl rfl ?_
    refine am_s rfl rfl ?_
    refine s_aa rfl g rfl ⟨by omega, by omega⟩ (by decide) ?_
    refine s_k 0 rfl rfl ?_
    refine am_cs (As := [_, _]) (rest := []) rfl (Or.inl rfl) rfl rfl (Nat.le_of_ble_eq_true rfl) rfl (t_fillI (n := 20) g (lo_26 (by omega) (by omega)) (by decide)) ?_
    rintro rv h1 ⟨rfl, s2, rfl, hF1, hV1⟩
    refine s_inc rfl rfl ?_
    refine am_s rfl rfl ?_
    refine am_lv [(2, _), (1, _), (0, _)] rfl rfl ⟨rfl, rfl, rfl, trivial⟩ ?_
    have hne : (25 : Nat) ∉ [26 + 1 + (k : Int).toNat] := fun z => by
      have := List.mem_singleton.mp z
      omega
    have e25 := hF1 25 hne
    refine kk () s2 ⟨am_Fr_u hF (am_Fr_m hF1 (fun b hb => ?_)), by rw [e25]; exact h2, by rw [e25]; exact h3, by rw [e25]; exact h4, by rw [e25]; exact h5, fun a y a0 a1 y0 y1 => ?_⟩
    · rw [List.mem_singleton.mp hb]
      exact List.mem_cons_of_mem _ (List.mem_range'_1.mpr ⟨by omega, by omega⟩)
    · by_cases e : a = (k : Int)
      · rw [e]
        exact hV1 y y0 y1
      · rw [hF1 _ (fun z => by have := List.mem_singleton.mp z; omega)]
        exact h6 a y a0 (by omega) y0 y1
  · rintro - s1 ⟨hF, h2, h3, h4, h5, h6⟩
    simp only
    refine am_s rfl rfl ?_
    refine am_s rfl rfl ?_
    refine s_cge rfl ⟨by omega, by omega⟩ ⟨by omega, by omega⟩ (fun c1 => ?_) (fun c1 => absurd c1 (by omega))
    exact am_r rfl rfl ⟨rfl, s1, rfl, hF, h2, h3, h4, h5, h6⟩
def s_forget (s : am_S) : am_S := s_zr (am_w (am_w (am_w (am_w s 48 0 0) 58 0 0) 127 0 0) 151 0 0) 161 20
theorem t_forget {d : Nat} {E : am_Ev} {s : am_S} (g : am_Eg E) (hQ : ∀ y, 0 ≤ y → y < 20 → am_Q (s 161 y)) : am_wp (d + 1) 151 0 (lv_args 0 [.ref 1]) [] (am_hp E s) (fun rv h => rv = none ∧ h = am_hp E (s_forget s)) := by
  refine am_s rfl rfl ?_
  refine s_gr rfl g rfl rfl ?_
  refine s_k 0 rfl rfl ?_
  refine s_pi (x := 0) rfl g rfl rfl rfl rfl ?_
  refine am_s rfl rfl ?_
  refine s_gr rfl g rfl rfl ?_
  refine s_k 0 rfl rfl ?_
  refine s_pi (x := 0) rfl g rfl rfl rfl rfl ?_
  refine am_s rfl rfl ?_
  refine s_gr rfl g rfl rfl ?_
  refine s_k 0 rfl rfl ?_
  refine s_pi (x := 0) rfl g rfl rfl rfl rfl ?_
  refine am_s rfl rfl ?_
  refine s_gr rfl g rfl rfl ?_
  refine s_k 0 rfl rfl ?_
  refine s_pi (x := 0) rfl g rfl rfl rfl rfl ?_
  refine am_s rfl rfl ?_
  have hQ1 : ∀ y, 0 ≤ y → y < 20 → am_Q ((am_w (am_w (am_w (am_w s 48 0 0) 58 0 0) 127 0 0) 151 0 0) 161 y) := hQ
  refine s_gr rfl g rfl rfl ?_
  refine s_cv [] [] rfl g (Or.inl rfl) rfl rfl (Nat.le_of_ble_eq_true rfl) rfl rfl (t_reset g hQ1) ?_
  rintro rv h1 ⟨e1, e2⟩
  rw [e1, e2]
  refine am_s rfl rfl ?_
  exact am_r rfl rfl ⟨rfl, rfl⟩
