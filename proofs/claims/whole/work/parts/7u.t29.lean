theorem t_dropM0 {d : Nat} {E : am_Ev} {s : am_S} {c : Int} (g : am_Eg E) (hn : 1 ≤ s 168 1 ∧ s 168 1 ≤ 20) (hr_c : am_R c) : am_wp (d + 1) 174 5 (lv_args 0 [.ref 168, .int (iI c)]) [] (am_hp E s) (fun rv h => (¬ (0 ≤ c ∧ c < s 168 1) ∧ rv = some (.int (iI (-101))) ∧ h = am_hp E s) ∨ ((0 ≤ c ∧ c < s 168 1) ∧ s 168 1 = 1 ∧ rv = some (.int (iI (-103))) ∧ h = am_hp E s) ∨ ((0 ≤ c ∧ c < s 168 1) ∧ 1 < s 168 1 ∧ rv = some (.int (iI (s 168 1 - 1))) ∧ ∃ s', h = am_hp E (s_chg s') ∧ am_Fm [169, 170] [1] s s' ∧ s' 168 1 = s 168 1 - 1 ∧ ∀ x y, 0 ≤ x → x < s 168 1 - 1 → 0 ≤ y → y < s 168 1 - 1 → my s' x y = my s (sk c x) (sk c y))) := by
  refine am_s rfl rfl ?_
  refine am_s rfl rfl ?_
  refine s_cv [_] [] rfl g (Or.inl rfl) rfl rfl (Nat.le_of_ble_eq_true rfl) rfl rfl (t_cityM g (c := c) hr_c hn) ?_
  rintro rv h1 ⟨rfl, rfl⟩
  by_cases hc_c : 0 ≤ c ∧ c < s 168 1
  · rw [show (if 0 ≤ c ∧ c < s 168 1 then (1 : Int) else 0) = 1 from if_pos hc_c]
    refine s_zne rfl ⟨by omega, by omega⟩ (fun c2 => ?_) (fun c2 => absurd c2 (by omega))
    refine am_s rfl rfl ?_
    refine s_gi (x := 1) rfl g rfl rfl rfl ?_
    refine s_k 1 rfl rfl ?_
    refine s_cne rfl ⟨by omega, by omega⟩ ⟨by omega, by omega⟩ (fun c3 => ?_) (fun c3 => ?_)
    · refine s_k 0 rfl rfl ?_
      refine am_s rfl rfl ?_
      obtain ⟨n, en⟩ : ∃ n : Nat, s 168 1 = n := ⟨(s 168 1).toNat, by omega⟩
      refine am_lv [(2, .int (iI (((0 : Nat) : Int) : Int))), (1, .int (iI c)), (0, .ref 168)] rfl rfl ⟨rfl, rfl, rfl, trivial⟩ ?_
      refine s_loop (X := Unit) (fun A _ s' => am_Fr [170] s s' ∧ ∀ x y, 0 ≤ x → x < (A : Int) → 0 ≤ y → y < (n : Int) - 1 → s' 170 (20 * x + y) = my s (sk c x) (sk c y)) (fun A _ => [(2, .int (iI (A : Int))), (1, .int (iI c)), (0, .ref 168)]) (hi := n - 1) (x := ()) (Nat.zero_le _) ⟨am_Fr_r _ _, fun x y x0 x1 => absurd x1 (by omega)⟩ ?_ ?_
      · rintro A - s1 hA0 hA ⟨hF, hV⟩ kk
        have eN : s1 168 1 = n := by rw [hF 168 (by decide)]; exact en
        simp only at kk ⊢
        refine am_s rfl rfl ?_
        refine am_s rfl rfl ?_
        refine s_gi (x := 1) rfl g rfl rfl rfl ?_
        refine s_k 1 rfl rfl ?_
        refine s_isub rfl ?_
        refine s_cge rfl ⟨by omega, by omega⟩ ⟨by omega, by omega⟩ (fun c1 => absurd c1 (by omega)) (fun c1 => ?_)
        refine s_k 0 rfl rfl ?_
        refine am_s rfl rfl ?_
        refine am_lv [(3, .int (iI (((0 : Nat) : Int) : Int))), (2, .int (iI (A : Int))), (1, .int (iI c)), (0, .ref 168)] rfl rfl ⟨rfl, rfl, rfl, rfl, trivial⟩ ?_
        refine s_loop (X := Unit) (fun B _ s' => am_Fr [170] s s' ∧ ∀ x y, 0 ≤ x → 0 ≤ y → y < (n : Int) - 1 → (x < (A : Int) ∨ x = A ∧ y < (B : Int)) → s' 170 (20 * x + y) = my s (sk c x) (sk c y)) (fun B _ => [(3, .int (iI (B : Int))), (2, .int (iI (A : Int))), (1, .int (iI c)), (0, .ref 168)]) (hi := n - 1) (x := ()) (Nat.zero_le _) ⟨hF, fun x y x0 y0 y1 hs => hV x y x0 (by omega) y0 y1⟩ ?_ ?_
        · rintro B - s2 hB0 hB ⟨hF2, hV2⟩ k2
          have eN2 : s2 168 1 = n := by rw [hF2 168 (by decide)]; exact en
          have emy : ∀ x y, my s2 x y = my s x y := fun x y => by unfold my; rw [hF2 169 (by decide)]
          simp only at k2 ⊢
          refine am_s rfl rfl ?_
          refine am_s rfl rfl ?_
          refine s_gi (x := 1) rfl g rfl rfl rfl ?_
          refine s_k 1 rfl rfl ?_
          refine s_isub rfl ?_
          refine s_cge rfl ⟨by omega, by omega⟩ ⟨by omega, by omega⟩ (fun c21 => absurd c21 (by omega)) (fun c21 => ?_)
          refine am_s rfl rfl ?_
          refine s_gr rfl g rfl rfl ?_
          refine s_k 20 rfl rfl ?_
          refine am_s rfl rfl ?_
          refine s_imul rfl ?_
          refine am_s rfl rfl ?_
          refine s_iadd rfl ?_
          refine am_s rfl rfl ?_
          refine am_s rfl rfl ?_
          refine am_s rfl rfl ?_
          refine s_cge rfl ⟨by omega, by omega⟩ ⟨by omega, by omega⟩ (fun c22 => ?_) (fun c22 => ?_)
          · refine am_s rfl rfl ?_
            refine s_k 1 rfl rfl ?_
            refine s_iadd rfl ?_
            refine am_s rfl rfl ?_
            refine am_s rfl rfl ?_
            refine s_cge rfl ⟨by omega, by omega⟩ ⟨by omega, by omega⟩ (fun c23 => ?_) (fun c23 => ?_)
            · refine am_s rfl rfl ?_
              refine s_k 1 rfl rfl ?_
              refine s_iadd rfl ?_
              refine s_cv [_, _] [_, _] rfl g (Or.inl rfl) rfl rfl (Nat.le_of_ble_eq_true rfl) rfl rfl (t_far g ⟨by omega, by omega⟩ ⟨by omega, by omega⟩) ?_
              rintro rv h1 ⟨rfl, rfl⟩
              refine s_is rfl g rfl ⟨by omega, by omega⟩ (by decide) ?_
              refine s_inc rfl rfl ?_
              refine am_s rfl rfl ?_
              refine am_lv [(3, _), (2, _), (1, _), (0, _)] rfl rfl ⟨rfl, rfl, rfl, rfl, trivial⟩ ?_
              refine k2 () _ ⟨am_Fr_W hF2 (by decide), fun x y x0 y0 y1 hs => ?_⟩
              by_cases e : x = (A : Int) ∧ y = (B : Int)
              · rw [e.1, e.2, am_w_eq, emy, show sk c A = (A : Int) + 1 from if_neg (by omega), show sk c B = (B : Int) + 1 from if_neg (by omega)]
              · rw [am_w_x (by omega)]; exact hV2 x y x0 y0 y1 (by omega)
            · refine am_s rfl rfl ?_
              refine am_s rfl rfl ?_
              refine s_cv [_, _] [_, _] rfl g (Or.inl rfl) rfl rfl (Nat.le_of_ble_eq_true rfl) rfl rfl (t_far g ⟨by omega, by omega⟩ ⟨by omega, by omega⟩) ?_
              rintro rv h1 ⟨rfl, rfl⟩
              refine s_is rfl g rfl ⟨by omega, by omega⟩ (by decide) ?_
              refine s_inc rfl rfl ?_
              refine am_s rfl rfl ?_
              refine am_lv [(3, _), (2, _), (1, _), (0, _)] rfl rfl ⟨rfl, rfl, rfl, rfl, trivial⟩ ?_
              refine k2 () _ ⟨am_Fr_W hF2 (by decide), fun x y x0 y0 y1 hs => ?_⟩
              by_cases e : x = (A : Int) ∧ y = (B : Int)
              · rw [e.1, e.2, am_w_eq, emy, show sk c A = (A : Int) + 1 from if_neg (by omega), show sk c B = (B : Int) from if_pos (by omega)]
              · rw [am_w_x (by omega)]; exact hV2 x y x0 y0 y1 (by omega)
          · refine am_s rfl rfl ?_
            refine am_s rfl rfl ?_
            refine am_s rfl rfl ?_
            refine am_s rfl rfl ?_
            refine s_cge rfl ⟨by omega, by omega⟩ ⟨by omega, by omega⟩ (fun c24 => ?_) (fun c24 => ?_)
            · refine am_s rfl rfl ?_
              refine s_k 1 rfl rfl ?_
              refine s_iadd rfl ?_
              refine s_cv [_, _] [_, _] rfl g (Or.inl rfl) rfl rfl (Nat.le_of_ble_eq_true rfl) rfl rfl (t_far g ⟨by omega, by omega⟩ ⟨by omega, by omega⟩) ?_
              rintro rv h1 ⟨rfl, rfl⟩
              refine s_is rfl g rfl ⟨by omega, by omega⟩ (by decide) ?_
              refine s_inc rfl rfl ?_
              refine am_s rfl rfl ?_
              refine am_lv [(3, _), (2, _), (1, _), (0, _)] rfl rfl ⟨rfl, rfl, rfl, rfl, trivial⟩ ?_
              refine k2 () _ ⟨am_Fr_W hF2 (by decide), fun x y x0 y0 y1 hs => ?_⟩
              by_cases e : x = (A : Int) ∧ y = (B : Int)
              · rw [e.1, e.2, am_w_eq, emy, show sk c A = (A : Int) from if_pos (by omega), show sk c B = (B : Int) + 1 from if_neg (by omega)]
              · rw [am_w_x (by omega)]; exact hV2 x y x0 y0 y1 (by omega)
            · refine am_s rfl rfl ?_
              refine am_s rfl rfl ?_
              refine s_cv [_, _] [_, _] rfl g (Or.inl rfl) rfl rfl (Nat.le_of_ble_eq_true rfl) rfl rfl (t_far g ⟨by omega, by omega⟩ ⟨by omega, by omega⟩) ?_
              rintro rv h1 ⟨rfl, rfl⟩
              refine s_is rfl g rfl ⟨by omega, by omega⟩ (by decide) ?_
              refine s_inc rfl rfl ?_
              refine am_s rfl rfl ?_
              refine am_lv [(3, _), (2, _), (1, _), (0, _)] rfl rfl ⟨rfl, rfl, rfl, rfl, trivial⟩ ?_
              refine k2 () _ ⟨am_Fr_W hF2 (by decide), fun x y x0 y0 y1 hs => ?_⟩
              by_cases e : x = (A : Int) ∧ y = (B : Int)
              · rw [e.1, e.2, am_w_eq, emy, show sk c A = (A : Int) from if_pos (by omega), show sk c B = (B : Int) from if_pos (by omega)]
              · rw [am_w_x (by omega)]; exact hV2 x y x0 y0 y1 (by omega)
        · rintro - s2 ⟨hF2, hV2⟩
          have eN2 : s2 168 1 = n := by rw [hF2 168 (by decide)]; exact en
          have emy : ∀ x y, my s2 x y = my s x y := fun x y => by unfold my; rw [hF2 169 (by decide)]
          simp only
          refine am_s rfl rfl ?_
          refine am_s rfl rfl ?_
          refine s_gi (x := 1) rfl g rfl rfl rfl ?_
          refine s_k 1 rfl rfl ?_
          refine s_isub rfl ?_
          refine s_cge rfl ⟨by omega, by omega⟩ ⟨by omega, by omega⟩ (fun c1 => ?_) (fun c1 => absurd c1 (by omega))
          refine s_inc rfl rfl ?_
          refine am_s rfl rfl ?_
          refine am_lv [(2, _), (1, _), (0, _)] rfl rfl ⟨rfl, rfl, rfl, trivial⟩ ?_
          exact kk () _ ⟨hF2, fun x y x0 x1 y0 y1 => hV2 x y x0 y0 y1 (by omega)⟩
      · rintro - s1 ⟨hF, hV⟩
        have eN : s1 168 1 = n := by rw [hF 168 (by decide)]; exact en
        simp only
        refine am_s rfl rfl ?_
        refine am_s rfl rfl ?_
        refine s_gi (x := 1) rfl g rfl rfl rfl ?_
        refine s_k 1 rfl rfl ?_
        refine s_isub rfl ?_
        refine s_cge rfl ⟨by omega, by omega⟩ ⟨by omega, by omega⟩ (fun c1 => ?_) (fun c1 => absurd c1 (by omega))
        refine am_s rfl rfl ?_
        refine am_s rfl rfl ?_
        refine s_gi (x := 1) rfl g rfl rfl rfl ?_
        refine s_k 1 rfl rfl ?_
        refine s_isub rfl ?_
        refine s_pi (x := 1) rfl g rfl rfl rfl rfl ?_
        refine s_k 0 rfl rfl ?_
        refine am_s rfl rfl ?_
        have eN1 : (am_w s1 168 1 (s1 168 1 - 1)) 168 1 = (n : Int) - 1 := by rw [am_w_eq, eN]
        have e170 : (am_w s1 168 1 (s1 168 1 - 1)) 170 = s1 170 := am_w_row (by decide)
        have f0 : am_Fm [169, 170] [1] s (am_w s1 168 1 (s1 168 1 - 1)) := am_Fm_f ⟨am_Fr_m hF (by decide), fun y _ => by rw [hF 168 (by decide)]⟩ (by decide)
        refine am_lv [(2, .int (iI (((0 : Nat) : Int) : Int))), (1, .int (iI c)), (0, .ref 168)] rfl rfl ⟨rfl, rfl, rfl, trivial⟩ ?_
        refine s_loop (X := Unit) (fun A _ s' => am_Fm [169, 170] [1] s s' ∧ s' 168 1 = (n : Int) - 1 ∧ s' 170 = s1 170 ∧ ∀ x y, 0 ≤ x → x < (A : Int) → 0 ≤ y → y < (n : Int) - 1 → my s' x y = my s (sk c x) (sk c y)) (fun A _ => [(2, .int (iI (A : Int))), (1, .int (iI c)), (0, .ref 168)]) (hi := n - 1) (x := ()) (Nat.zero_le _) ⟨f0, eN1, e170, fun x y x0 x1 => absurd x1 (by omega)⟩ ?_ ?_
        · rintro A - s2 hA0 hA ⟨g1, g2, g3, g4⟩ kk
          simp only at kk ⊢
          refine am_s rfl rfl ?_
          refine am_s rfl rfl ?_
          refine s_gi (x := 1) rfl g rfl rfl rfl ?_
          refine s_cge rfl ⟨by omega, by omega⟩ ⟨by omega, by omega⟩ (fun c1 => absurd c1 (by omega)) (fun c1 => ?_)
          refine s_k 0 rfl rfl ?_
          refine am_s rfl rfl ?_
          refine am_lv [(3, .int (iI (((0 : Nat) : Int) : Int))), (2, .int (iI (A : Int))), (1, .int (iI c)), (0, .ref 168)] rfl rfl ⟨rfl, rfl, rfl, rfl, trivial⟩ ?_
          refine s_loop (X := Unit) (fun B _ s' => am_Fm [169, 170] [1] s s' ∧ s' 168 1 = (n : Int) - 1 ∧ s' 170 = s1 170 ∧ ∀ x y, 0 ≤ x → 0 ≤ y → y < (n : Int) - 1 → (x < (A : Int) ∨ x = A ∧ y < (B : Int)) → my s' x y = my s (sk c x) (sk c y)) (fun B _ => [(3, .int (iI (B : Int))), (2, .int (iI (A : Int))), (1, .int (iI c)), (0, .ref 168)]) (hi := n - 1) (x := ()) (Nat.zero_le _) ⟨g1, g2, g3, fun x y x0 y0 y1 hs => g4 x y x0 (by omega) y0 y1⟩ ?_ ?_
          · rintro B - s3 hB0 hB ⟨j1, j2, j3, j4⟩ k2
            simp only at k2 ⊢
            refine am_s rfl rfl ?_
            refine am_s rfl rfl ?_
            refine s_gi (x := 1) rfl g rfl rfl rfl ?_
            refine s_cge rfl ⟨by omega, by omega⟩ ⟨by omega, by omega⟩ (fun c1 => absurd c1 (by omega)) (fun c1 => ?_)
            refine am_s rfl rfl ?_
            refine s_gr rfl g rfl rfl ?_
            refine s_k 20 rfl rfl ?_
            refine am_s rfl rfl ?_
            refine s_imul rfl ?_
            refine am_s rfl rfl ?_
            refine s_iadd rfl ?_
            refine am_s rfl rfl ?_
            refine s_gr rfl g rfl rfl ?_
            refine s_k 20 rfl rfl ?_
            refine am_s rfl rfl ?_
            refine s_imul rfl ?_
            refine am_s rfl rfl ?_
            refine s_iadd rfl ?_
            refine s_ia rfl g rfl ⟨by omega, by omega⟩ (by decide) ?_
            refine s_is rfl g rfl ⟨by omega, by omega⟩ (by decide) ?_
            refine s_inc rfl rfl ?_
            refine am_s rfl rfl ?_
            refine am_lv [(3, _), (2, _), (1, _), (0, _)] rfl rfl ⟨rfl, rfl, rfl, rfl, trivial⟩ ?_
            refine k2 () _ ⟨am_Fm_c j1 (by decide) (by decide), by rw [am_w_a (by decide)]; exact j2, by rw [am_w_row (by decide)]; exact j3, fun x y x0 y0 y1 hs => ?_⟩
            rw [my_w ⟨by omega, by omega⟩ ⟨y0, by omega⟩]
            by_cases e : x = (A : Int) ∧ y = (B : Int)
            · rw [if_pos e, j3, e.1, e.2]; exact hV A B (by omega) (by omega) (by omega) (by omega)
            · rw [if_neg e]; exact j4 x y x0 y0 y1 (by omega)
          · rintro - s3 ⟨j1, j2, j3, j4⟩
            simp only
            refine am_s rfl rfl ?_
            refine am_s rfl rfl ?_
            refine s_gi (x := 1) rfl g rfl rfl rfl ?_
            refine s_cge rfl ⟨by omega, by omega⟩ ⟨by omega, by omega⟩ (fun c1 => ?_) (fun c1 => absurd c1 (by omega))
            refine s_inc rfl rfl ?_
            refine am_s rfl rfl ?_
            refine am_lv [(2, _), (1, _), (0, _)] rfl rfl ⟨rfl, rfl, rfl, trivial⟩ ?_
            exact kk () _ ⟨j1, j2, j3, fun x y x0 x1 y0 y1 => j4 x y x0 y0 y1 (by omega)⟩
        · rintro - s2 ⟨g1, g2, g3, g4⟩
          simp only
          refine am_s rfl rfl ?_
          refine am_s rfl rfl ?_
          refine s_gi (x := 1) rfl g rfl rfl rfl ?_
          refine s_cge rfl ⟨by omega, by omega⟩ ⟨by omega, by omega⟩ (fun c1 => ?_) (fun c1 => absurd c1 (by omega))
          refine am_s rfl rfl ?_
          refine s_cv [] [] rfl g (Or.inl rfl) rfl rfl (Nat.le_of_ble_eq_true rfl) rfl rfl (t_change g) ?_
          rintro rv h1 ⟨rfl, rfl⟩
          refine am_s rfl rfl ?_
          refine s_gi (x := 1) rfl g rfl rfl rfl ?_
          refine am_r rfl rfl (Or.inr (Or.inr ⟨hc_c, by omega, ?_, s2, rfl, g1, by rw [g2, en], fun x y x0 x1 y0 y1 => g4 x y x0 (by omega) y0 (by omega)⟩))
          rw [show s_chg s2 168 1 = s2 168 1 from rfl, g2, en]
    · refine s_k (-103) rfl rfl ?_
      first | exact am_r rfl rfl (Or.inl ⟨hc_c, rfl, rfl⟩) | exact am_r rfl rfl (Or.inr (Or.inl ⟨hc_c, by omega, rfl, rfl⟩))
  · rw [show (if 0 ≤ c ∧ c < s 168 1 then (1 : Int) else 0) = 0 from if_neg hc_c]
    refine s_zne rfl ⟨by omega, by omega⟩ (fun c2 => absurd c2 (by omega)) (fun c2 => ?_)
    refine s_k (-101) rfl rfl ?_
    first | exact am_r rfl rfl (Or.inl ⟨hc_c, rfl, rfl⟩) | exact am_r rfl rfl (Or.inr (Or.inl ⟨hc_c, by omega, rfl, rfl⟩))
theorem t_dropM {d : Nat} {E : am_Ev} {s : am_S} {c : Int} (g : am_Eg E) (hn : 1 ≤ s 168 1 ∧ s 168 1 ≤ 20) (hr_c : am_R c) : am_wp (d + 1) 174 0 (lv_args 0 [.ref 168, .int (iI c)]) [] (am_hp E s) (fun rv h => (¬ (0 ≤ c ∧ c < s 168 1) ∧ rv = some (.int (iI (-101))) ∧ h = am_hp E (am_w s 168 0 0)) ∨ ((0 ≤ c ∧ c < s 168 1) ∧ s 168 1 = 1 ∧ rv = some (.int (iI (-103))) ∧ h = am_hp E (am_w s 168 0 0)) ∨ ((0 ≤ c ∧ c < s 168 1) ∧ 1 < s 168 1 ∧ rv = some (.int (iI (s 168 1 - 1))) ∧ ∃ s', h = am_hp E (s_chg s') ∧ am_Fm [169, 170] [1] (am_w s 168 0 0) s' ∧ s' 168 1 = s 168 1 - 1 ∧ ∀ x y, 0 ≤ x → x < s 168 1 - 1 → 0 ≤ y → y < s 168 1 - 1 → my s' x y = my s (sk c x) (sk c y))) := by
  refine am_s rfl rfl ?_
  refine s_k 0 rfl rfl ?_
  refine s_pi (x := 0) rfl g rfl rfl rfl rfl ?_
  exact t_dropM0 (s := am_w s 168 0 0) g hn hr_c
