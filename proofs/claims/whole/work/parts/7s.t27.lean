theorem mx_w {s : am_S} {a b v x y : Int} (ha : 0 ≤ a) (hx : 0 ≤ x) : mx (am_w s (26 + 1 + a.toNat) b v) x y = if x = a ∧ y = b then v else mx s x y := by
  unfold mx am_w
  by_cases e : x = a ∧ y = b
  · rw [if_pos ⟨by rw [e.1], e.2⟩, if_pos e]
  · rw [if_neg (fun z => e ⟨by omega, z.2⟩), if_neg e]
theorem mx_w25 {s : am_S} {k v x y : Int} (hx : 0 ≤ x) : mx (am_w s 25 k v) x y = mx s x y := by
  unfold mx
  rw [am_w_a (by omega)]
theorem row_mem {a : Int} (h0 : 0 ≤ a) (h1 : a < 20) : 26 + 1 + a.toNat ∈ (25 :: List.range' 27 20) := List.mem_cons_of_mem _ (List.mem_range'_1.mpr ⟨by omega, by omega⟩)
theorem my_w {s : am_S} {a b v x y : Int} (hb : 0 ≤ b ∧ b < 20) (hy : 0 ≤ y ∧ y < 20) : my (am_w s 169 (20 * a + b) v) x y = if x = a ∧ y = b then v else my s x y := by
  unfold my am_w
  by_cases e : x = a ∧ y = b
  · rw [if_pos ⟨rfl, by rw [e.1, e.2]⟩, if_pos e]
  · rw [if_neg (fun z => e (by omega)), if_neg e]
theorem t_mgrow {d : Nat} {E : am_Ev} {s : am_S} (g : am_Eg E) (hn : 1 ≤ s 25 0 ∧ s 25 0 < 20) : am_wp (d + 1) 59 0 (lv_args 0 [.ref 25]) [] (am_hp E s) (fun rv h => rv = none ∧ ∃ s', h = am_hp E s' ∧ am_Fr (25 :: List.range' 27 20) s s' ∧ s' 25 0 = s 25 0 + 1 ∧ s' 25 2 = 0 ∧ ∀ a y, 0 ≤ a → a < 20 → 0 ≤ y → y < 20 → mx s' a y = if (a = s 25 0 ∧ y ≤ s 25 0) ∨ (y = s 25 0 ∧ a ≤ s 25 0) then 0 else mx s a y) := by
  obtain ⟨n, en⟩ : ∃ n : Nat, s 25 0 = n := ⟨(s 25 0).toNat, by omega⟩
  refine am_s rfl rfl ?_
  refine s_gi (x := 0) rfl g rfl rfl rfl ?_
  refine am_s rfl rfl ?_
  refine s_k 0 rfl rfl ?_
  refine am_s rfl rfl ?_
  rw [en]
  refine am_lv [(2, .int (iI (((0 : Nat) : Int) : Int))), (1, .int (iI (n : Int))), (0, .ref 25)] rfl rfl ⟨rfl, rfl, rfl, trivial⟩ ?_
  refine s_loop (X := Unit) (fun k _ s' => am_Fr (25 :: List.range' 27 20) s s' ∧ s' 25 0 = n ∧ ((0 : Int) < k → s' 25 2 = 0) ∧ ∀ a y, 0 ≤ a → a < 20 → 0 ≤ y → y < 20 → mx s' a y = if (a = n ∧ y < (k : Int)) ∨ (y = n ∧ a < (k : Int)) then 0 else mx s a y) (fun k _ => [(2, .int (iI (k : Int))), (1, .int (iI (n : Int))), (0, .ref 25)]) (hi := n + 1) (x := ()) (Nat.zero_le _) ⟨am_Fr_r _ _, en, fun z => absurd z (by omega), fun a y a0 a1 y0 y1 => by rw [if_neg (by omega)]⟩ ?_ ?_
  · rintro k - s1 hk0 hk ⟨hF, h2, h3, h4⟩ kk
    simp only at kk ⊢
    refine am_s rfl rfl ?_
    refine am_s rfl rfl ?_
    refine s_cgt rfl ⟨by omega, by omega⟩ ⟨by omega, by omega⟩ (fun c1 => absurd c1 (by omega)) (fun c1 => ?_)
    refine am_s rfl rfl ?_
    refine am_s rfl rfl ?_
    refine am_s rfl rfl ?_
    refine s_k 0 rfl rfl ?_
    refine s_cv [_, _, _] [] rfl g (Or.inl rfl) rfl rfl (Nat.le_of_ble_eq_true rfl) rfl rfl (t_tell g ⟨by omega, by omega⟩ ⟨by omega, by omega⟩) ?_
    rintro rv h1 ⟨rfl, rfl⟩
    refine am_s rfl rfl ?_
    refine am_s rfl rfl ?_
    refine am_s rfl rfl ?_
    refine s_k 0 rfl rfl ?_
    refine s_cv [_, _, _] [] rfl g (Or.inl rfl) rfl rfl (Nat.le_of_ble_eq_true rfl) rfl rfl (t_tell g ⟨by omega, by omega⟩ ⟨by omega, by omega⟩) ?_
    rintro rv h1 ⟨rfl, rfl⟩
    refine s_inc rfl rfl ?_
    refine am_s rfl rfl ?_
    refine am_lv [(2, _), (1, _), (0, _)] rfl rfl ⟨rfl, rfl, rfl, trivial⟩ ?_
    refine kk () _ ⟨am_Fr_W (am_Fr_W (am_Fr_W (am_Fr_W hF (row_mem (by omega) (by omega))) (by decide)) (row_mem (by omega) (by omega))) (by decide), ?_, fun _ => am_w_eq _ _ _ _, fun a y a0 a1 y0 y1 => ?_⟩
    · rw [am_w_x (by decide), am_w_a (by omega), am_w_x (by decide), am_w_a (by omega)]; exact h2
    · rw [mx_w25 a0, mx_w (by omega) a0, mx_w25 a0, mx_w (by omega) a0, h4 a y a0 a1 y0 y1]
      (repeat' split) <;> first | rfl | (exfalso; omega)
  · rintro - s1 ⟨hF, h2, h3, h4⟩
    simp only
    refine am_s rfl rfl ?_
    refine am_s rfl rfl ?_
    refine s_cgt rfl ⟨by omega, by omega⟩ ⟨by omega, by omega⟩ (fun c1 => ?_) (fun c1 => absurd c1 (by omega))
    refine am_s rfl rfl ?_
    refine am_s rfl rfl ?_
    refine s_gi (x := 0) rfl g rfl rfl rfl ?_
    refine s_k 1 rfl rfl ?_
    refine s_iadd rfl ?_
    refine s_pi (x := 0) rfl g rfl rfl rfl rfl ?_
    refine am_r rfl rfl ⟨rfl, _, rfl, am_Fr_W hF (by decide), ?_, ?_, fun a y a0 a1 y0 y1 => ?_⟩
    · rw [am_w_eq, h2]
    · rw [am_w_x (by decide)]; exact h3 (by omega)
    · rw [mx_w25 a0, h4 a y a0 a1 y0 y1]
      (repeat' split) <;> first | rfl | (exfalso; omega)
theorem t_addX {d : Nat} {E : am_Ev} {s : am_S} (g : am_Eg E) (hn : 1 ≤ s 25 0 ∧ s 25 0 ≤ 20) (hQ : ∀ y, 0 ≤ y → y < 20 → am_Q (s 161 y)) : am_wp (d + 2) 126 0 (lv_args 0 [.ref 1]) [] (am_hp E s) (fun rv h => (s 25 0 = 20 ∧ rv = some (.int (iI (-104))) ∧ h = am_hp E s) ∨ (s 25 0 < 20 ∧ rv = some (.int (iI (s 25 0))) ∧ ∃ s', h = am_hp E (s_forget s') ∧ am_Fr (25 :: List.range' 27 20) s s' ∧ s' 25 0 = s 25 0 + 1 ∧ s' 25 2 = 0 ∧ ∀ a y, 0 ≤ a → a < 20 → 0 ≤ y → y < 20 → mx s' a y = if (a = s 25 0 ∧ y ≤ s 25 0) ∨ (y = s 25 0 ∧ a ≤ s 25 0) then 0 else mx s a y)) := by
  refine am_s rfl rfl ?_
  refine s_gr rfl g rfl rfl ?_
  refine s_gi (x := 0) rfl g rfl rfl rfl ?_
  refine s_k 20 rfl rfl ?_
  refine s_cne rfl ⟨by omega, by omega⟩ ⟨by omega, by omega⟩ (fun c1 => ?_) (fun c1 => ?_)
  · refine am_s rfl rfl ?_
    refine s_gr rfl g rfl rfl ?_
    refine s_cv [] [] rfl g (Or.inl rfl) rfl rfl (Nat.le_of_ble_eq_true rfl) rfl rfl (t_mgrow g ⟨by omega, by omega⟩) ?_
    rintro rv h1 ⟨rfl, s1, rfl, hF, h2, h3, h4⟩
    refine am_s rfl rfl ?_
    refine s_cv [] [] rfl g (Or.inl rfl) rfl rfl (Nat.le_of_ble_eq_true rfl) rfl rfl (t_forget g (fun y y0 y1 => by rw [hF 161 (by decide)]; exact hQ y y0 y1)) ?_
    rintro rv h1 ⟨rfl, rfl⟩
    refine am_s rfl rfl ?_
    refine s_gr rfl g rfl rfl ?_
    refine s_gi (x := 0) rfl g rfl rfl rfl ?_
    refine s_k 1 rfl rfl ?_
    refine s_isub rfl ?_
    first | exact am_r rfl rfl (Or.inl ⟨by omega, rfl, rfl⟩) | exact am_r rfl rfl (Or.inr ⟨by omega, by rw [show s_forget s1 25 0 - 1 = s 25 0 by rw [show s_forget s1 25 0 = s1 25 0 from rfl, h2]; omega], s1, rfl, hF, h2, h3, h4⟩)
  · refine s_k (-104) rfl rfl ?_
    first | exact am_r rfl rfl (Or.inl ⟨by omega, rfl, rfl⟩) | exact am_r rfl rfl (Or.inr ⟨by omega, by rw [show s_forget s1 25 0 - 1 = s 25 0 by rw [show s_forget s1 25 0 = s1 25 0 from rfl, h2]; omega], s1, rfl, hF, h2, h3, h4⟩)
theorem t_addM0 {d : Nat} {E : am_Ev} {s : am_S} (g : am_Eg E) (hn : 1 ≤ s 168 1 ∧ s 168 1 ≤ 20) : am_wp (d + 1) 173 5 (lv_args 0 [.ref 168]) [] (am_hp E s) (fun rv h => (s 168 1 = 20 ∧ rv = some (.int (iI (-104))) ∧ h = am_hp E s) ∨ (s 168 1 < 20 ∧ rv = some (.int (iI (s 168 1))) ∧ ∃ s', h = am_hp E (s_chg s') ∧ am_Fm [169] [1] s s' ∧ s' 168 1 = s 168 1 + 1 ∧ ∀ a y, 0 ≤ a → a < 20 → 0 ≤ y → y < 20 → my s' a y = if (a = s 168 1 ∧ y ≤ s 168 1) ∨ (y = s 168 1 ∧ a ≤ s 168 1) then 0 else my s a y)) := by
  obtain ⟨n, en⟩ : ∃ n : Nat, s 168 1 = n := ⟨(s 168 1).toNat, by omega⟩
  refine am_s rfl rfl ?_
  refine s_gi (x := 1) rfl g rfl rfl rfl ?_
  refine s_k 20 rfl rfl ?_
  refine s_cne rfl ⟨by omega, by omega⟩ ⟨by omega, by omega⟩ (fun c1 => ?_) (fun c1 => ?_)
  · refine s_k 0 rfl rfl ?_
    refine am_s rfl rfl ?_
    refine am_lv [(1, .int (iI (((0 : Nat) : Int) : Int))), (0, .ref 168)] rfl rfl ⟨rfl, rfl, trivial⟩ ?_
    refine s_loop (X := Unit) (fun k _ s' => am_Fr [169] s s' ∧ ∀ a y, 0 ≤ a → a < 20 → 0 ≤ y → y < 20 → my s' a y = if (a = n ∧ y < (k : Int)) ∨ (y = n ∧ a < (k : Int)) then 0 else my s a y) (fun k _ => [(1, .int (iI (k : Int))), (0, .ref 168)]) (hi := n + 1) (x := ()) (Nat.zero_le _) ⟨am_Fr_r _ _, fun a y a0 a1 y0 y1 => by rw [if_neg (by omega)]⟩ ?_ ?_
    · rintro k - s1 hk0 hk ⟨hF, h4⟩ kk
      have eN : s1 168 1 = n := by rw [hF 168 (by decide)]; exact en
      simp only at kk ⊢
      refine am_s rfl rfl ?_
      refine am_s rfl rfl ?_
      refine s_gi (x := 1) rfl g rfl rfl rfl ?_
      refine s_cgt rfl ⟨by omega, by omega⟩ ⟨by omega, by omega⟩ (fun c1 => absurd c1 (by omega)) (fun c1 => ?_)
      refine am_s rfl rfl ?_
      refine s_gr rfl g rfl rfl ?_
      refine s_k 20 rfl rfl ?_
      refine am_s rfl rfl ?_
      refine s_gi (x := 1) rfl g rfl rfl rfl ?_
      refine s_imul rfl ?_
      refine am_s rfl rfl ?_
      refine s_iadd rfl ?_
      refine s_k 0 rfl rfl ?_
      refine s_is rfl g rfl ⟨by omega, by omega⟩ (by decide) ?_
      refine am_s rfl rfl ?_
      refine s_gr rfl g rfl rfl ?_
      refine s_k 20 rfl rfl ?_
      refine am_s rfl rfl ?_
      refine s_imul rfl ?_
      refine am_s rfl rfl ?_
      refine s_gi (x := 1) rfl g rfl rfl rfl ?_
      refine s_iadd rfl ?_
      refine s_k 0 rfl rfl ?_
      refine s_is rfl g rfl ⟨by rw [am_w_a (by decide)]; omega, by rw [am_w_a (by decide)]; omega⟩ (by decide) ?_
      refine s_inc rfl rfl ?_
      refine am_s rfl rfl ?_
      refine am_lv [(1, _), (0, _)] rfl rfl ⟨rfl, rfl, trivial⟩ ?_
      refine kk () _ ⟨am_Fr_W (am_Fr_W hF (by decide)) (by decide), fun a y a0 a1 y0 y1 => ?_⟩
      rw [am_w_a (by decide), eN, my_w ⟨by omega, by omega⟩ ⟨y0, y1⟩, my_w ⟨by omega, by omega⟩ ⟨y0, y1⟩, h4 a y a0 a1 y0 y1]
      (repeat' split) <;> first | rfl | (exfalso; omega)
    · rintro - s1 ⟨hF, h4⟩
      have eN : s1 168 1 = n := by rw [hF 168 (by decide)]; exact en
      simp only
      refine am_s rfl rfl ?_
      refine am_s rfl rfl ?_
      refine s_gi (x := 1) rfl g rfl rfl rfl ?_
      refine s_cgt rfl ⟨by omega, by omega⟩ ⟨by omega, by omega⟩ (fun c1 => ?_) (fun c1 => absurd c1 (by omega))
      refine am_s rfl rfl ?_
      refine am_s rfl rfl ?_
      refine s_gi (x := 1) rfl g rfl rfl rfl ?_
      refine s_k 1 rfl rfl ?_
      refine s_iadd rfl ?_
      refine s_pi (x := 1) rfl g rfl rfl rfl rfl ?_
      refine am_s rfl rfl ?_
      refine s_cv [] [] rfl g (Or.inl rfl) rfl rfl (Nat.le_of_ble_eq_true rfl) rfl rfl (t_change g) ?_
      rintro rv h1 ⟨rfl, rfl⟩
      refine am_s rfl rfl ?_
      refine s_gi (x := 1) rfl g rfl rfl rfl ?_
      refine s_k 1 rfl rfl ?_
      refine s_isub rfl ?_
      refine am_r rfl rfl (Or.inr ⟨by omega, ?_, _, rfl, ⟨am_Fr_W (am_Fr_m hF (by decide)) (by decide), fun z hz => ?_⟩, ?_, fun a y a0 a1 y0 y1 => ?_⟩)
      · show some (Value.int (iI (am_w s1 168 1 (s1 168 1 + 1) 168 1 - 1))) = _
        rw [am_w_eq, eN, en, show (n : Int) + 1 - 1 = n by omega]
      · rw [am_w_x (fun e => hz (by rw [e]; decide)), hF 168 (by decide)]
      · rw [am_w_eq, eN, en]
      · rw [show my (am_w s1 168 1 (s1 168 1 + 1)) a y = my s1 a y from am_w_a (by decide), h4 a y a0 a1 y0 y1, en]
        (repeat' split) <;> first | rfl | (exfalso; omega)
  · refine s_k (-104) rfl rfl ?_
    exact am_r rfl rfl (Or.inl ⟨by omega, rfl, rfl⟩)
theorem t_addM {d : Nat} {E : am_Ev} {s : am_S} (g : am_Eg E) (hn : 1 ≤ s 168 1 ∧ s 168 1 ≤ 20) : am_wp (d + 1) 173 0 (lv_args 0 [.ref 168]) [] (am_hp E s) (fun rv h => (s 168 1 = 20 ∧ rv = some (.int (iI (-104))) ∧ h = am_hp E (am_w s 168 0 0)) ∨ (s 168 1 < 20 ∧ rv = some (.int (iI (s 168 1))) ∧ ∃ s', h = am_hp E (s_chg s') ∧ am_Fm [169] [1] (am_w s 168 0 0) s' ∧ s' 168 1 = s 168 1 + 1 ∧ ∀ a y, 0 ≤ a → a < 20 → 0 ≤ y → y < 20 → my s' a y = if (a = s 168 1 ∧ y ≤ s 168 1) ∨ (y = s 168 1 ∧ a ≤ s 168 1) then 0 else my s a y)) := by
  refine am_s rfl rfl ?_
  refine s_k 0 rfl rfl ?_
  refine s_pi (x := 0) rfl g rfl rfl rfl rfl ?_
  exact t_addM0 (s := am_w s 168 0 0) g hn
