theorem mx_cy {s : am_S} {p a sp dp m x y : Int} (hp : 0 ≤ p) (ha : 0 ≤ a) (hx : 0 ≤ x) : mx (am_cy s (26 + 1 + p.toNat) (26 + 1 + a.toNat) sp dp m) x y = if x = a ∧ dp ≤ y ∧ y < dp + m then mx s p (y - dp + sp) else mx s x y := by
  unfold mx am_cy
  by_cases e : x = a ∧ dp ≤ y ∧ y < dp + m
  · rw [if_pos ⟨by rw [e.1], e.2⟩, if_pos e]
  · rw [if_neg (fun z => e ⟨by omega, z.2⟩), if_neg e]
/-- without city c -/
def sk (c x : Int) : Int := if x < c then x else x + 1
theorem t_remove {d : Nat} {E : am_Ev} {s : am_S} {c : Int} (g : am_Eg E) (hn : 1 < s 25 0 ∧ s 25 0 ≤ 20) (hc : 0 ≤ c ∧ c < s 25 0) : am_wp d 60 0 (lv_args 0 [.ref 25, .int (iI c)]) [] (am_hp E s) (fun rv h => rv = none ∧ ∃ s', h = am_hp E s' ∧ am_Fr (25 :: List.range' 27 20) s s' ∧ s' 25 0 = s 25 0 - 1 ∧ s' 25 2 = 0 ∧ ∀ a y, 0 ≤ a → a < s 25 0 - 1 → 0 ≤ y → y < s 25 0 - 1 → mx s' a y = mx s (sk c a) (sk c y)) := by
  obtain ⟨n, en⟩ : ∃ n : Nat, s 25 0 = n := ⟨(s 25 0).toNat, by omega⟩
  refine s_k 0 rfl rfl ?_
  refine am_s rfl rfl ?_
  refine am_lv [(2, .int (iI (((0 : Nat) : Int) : Int))), (1, .int (iI c)), (0, .ref 25)] rfl rfl ⟨rfl, rfl, rfl, trivial⟩ ?_
  refine s_loop (X := Unit) (fun k _ s' => am_Fr (25 :: List.range' 27 20) s s' ∧ s' 25 = s 25 ∧ ∀ a y, 0 ≤ a → a < 20 → 0 ≤ y → y < 20 → mx s' a y = if a < (k : Int) ∧ c ≤ y ∧ y < (n : Int) - 1 then mx s a (y + 1) else mx s a y) (fun k _ => [(2, .int (iI (k : Int))), (1, .int (iI c)), (0, .ref 25)]) (hi := n) (x := ()) (Nat.zero_le _) ⟨am_Fr_r _ _, rfl, fun a y a0 a1 y0 y1 => by rw [if_neg (by omega)]⟩ ?_ ?_
  · rintro k - s1 hk0 hk ⟨hF, h2, h4⟩ kk
    have e25 : s1 25 0 = n := by rw [h2]; exact en
    simp only at kk ⊢
    refine am_s rfl rfl ?_
    refine am_s rfl rfl ?_
    refine s_gi (x := 0) rfl g rfl rfl rfl ?_
    refine s_cge rfl ⟨by omega, by omega⟩ ⟨by omega, by omega⟩ (fun c1 => absurd c1 (by omega)) (fun c1 => ?_)
    refine am_s rfl rfl ?_
    refine s_gr rfl g rfl rfl ?_
    refine am_s rfl rfl ?_
    refine s_aa rfl g rfl ⟨by omega, by omega⟩ (by decide) ?_
    refine am_s rfl rfl ?_
    refine s_k 1 rfl rfl ?_
    refine s_iadd rfl ?_
    refine am_s rfl rfl ?_
    refine s_gr rfl g rfl rfl ?_
    refine am_s rfl rfl ?_
    refine s_aa rfl g rfl ⟨by omega, by omega⟩ (by decide) ?_
    refine am_s rfl rfl ?_
    refine am_s rfl rfl ?_
    refine s_gi (x := 0) rfl g rfl rfl rfl ?_
    refine s_k 1 rfl rfl ?_
    refine s_isub rfl ?_
    refine am_s rfl rfl ?_
    refine s_isub rfl ?_
    refine s_acp rfl g (lo_26 (by omega) (by omega)) (lo_26 (by omega) (by omega)) (by omega) (by omega) (by omega) (by omega) (by omega) ⟨by decide, by decide⟩ (Nat.le_of_ble_eq_true rfl) ?_
    refine s_inc rfl rfl ?_
    refine am_s rfl rfl ?_
    refine am_lv [(2, _), (1, _), (0, _)] rfl rfl ⟨rfl, rfl, rfl, trivial⟩ ?_
    refine kk () _ ⟨am_Fr_u hF (am_Fr_m am_cy_fr (fun b hb => by rw [List.mem_singleton.mp hb]; exact row_mem (by omega) (by omega))), (am_cy_fr 25 (fun z => by have := List.mem_singleton.mp z; omega)).trans h2, fun a y a0 a1 y0 y1 => ?_⟩
    rw [mx_cy (by omega) (by omega) a0]
    by_cases e : a = (k : Int) ∧ c ≤ y ∧ y < c + (s1 25 0 - 1 - c)
    · rw [if_pos e, if_pos (by omega), h4 k _ (by omega) (by omega) (by omega) (by omega), if_neg (by omega), e.1]
      congr 1
      omega
    · rw [if_neg e, h4 a y a0 a1 y0 y1]
      by_cases e2 : a < (k : Int) ∧ c ≤ y ∧ y < (n : Int) - 1
      · rw [if_pos e2, if_pos (by omega)]
      · rw [if_neg e2, if_neg (by omega)]
  · rintro - s1 ⟨hF, h2, h4⟩
    have e25 : s1 25 0 = n := by rw [h2]; exact en
    simp only
    refine am_s rfl rfl ?_
    refine am_s rfl rfl ?_
    refine s_gi (x := 0) rfl g rfl rfl rfl ?_
    refine s_cge rfl ⟨by omega, by omega⟩ ⟨by omega, by omega⟩ (fun c1 => ?_) (fun c1 => absurd c1 (by omega))
    refine am_s rfl rfl ?_
    refine am_s rfl rfl ?_
    obtain ⟨c0, ec0⟩ : ∃ c0 : Nat, c = c0 := ⟨c.toNat, by omega⟩
    refine am_lv [(2, .int (iI (((c0 : Nat) : Int) : Int))), (1, .int (iI c)), (0, .ref 25)] rfl rfl ⟨by rw [← ec0]; rfl, rfl, rfl, trivial⟩ ?_
    refine s_loop (X := Unit) (fun k _ s' => am_Fr (25 :: List.range' 27 20) s s' ∧ s' 25 = s 25 ∧ ∀ a y, 0 ≤ a → a < 20 → 0 ≤ y → y < 20 → mx s' a y = if c ≤ a ∧ a < (k : Int) ∧ y < (n : Int) then mx s1 (a + 1) y else mx s1 a y) (fun k _ => [(2, .int (iI (k : Int))), (1, .int (iI c)), (0, .ref 25)]) (lo := c0) (hi := n - 1) (x := ()) (by omega) ⟨hF, h2, fun a y a0 a1 y0 y1 => by rw [if_neg (by omega)]⟩ ?_ ?_
    · rintro k - s2 hk0 hk ⟨g1, g2, g4⟩ k2
      have e25b : s2 25 0 = n := by rw [g2]; exact en
      simp only at k2 ⊢
      refine am_s rfl rfl ?_
      refine s_k 1 rfl rfl ?_
      refine s_iadd rfl ?_
      refine am_s rfl rfl ?_
      refine s_gi (x := 0) rfl g rfl rfl rfl ?_
      refine s_cge rfl ⟨by omega, by omega⟩ ⟨by omega, by omega⟩ (fun c1 => absurd c1 (by omega)) (fun c1 => ?_)
      refine am_s rfl rfl ?_
      refine s_gr rfl g rfl rfl ?_
      refine am_s rfl rfl ?_
      refine s_k 1 rfl rfl ?_
      refine s_iadd rfl ?_
      refine s_aa rfl g rfl ⟨by omega, by omega⟩ (by decide) ?_
      refine s_k 0 rfl rfl ?_
      refine am_s rfl rfl ?_
      refine s_gr rfl g rfl rfl ?_
      refine am_s rfl rfl ?_
      refine s_aa rfl g rfl ⟨by omega, by omega⟩ (by decide) ?_
      refine s_k 0 rfl rfl ?_
      refine am_s rfl rfl ?_
      refine s_gi (x := 0) rfl g rfl rfl rfl ?_
      refine s_acp rfl g (lo_26 (by omega) (by omega)) (lo_26 (by omega) (by omega)) (by omega) (by omega) (by omega) (by omega) (by omega) ⟨by decide, by decide⟩ (Nat.le_of_ble_eq_true rfl) ?_
      refine s_inc rfl rfl ?_
      refine am_s rfl rfl ?_
      refine am_lv [(2, _), (1, _), (0, _)] rfl rfl ⟨rfl, rfl, rfl, trivial⟩ ?_
      refine k2 () _ ⟨am_Fr_u g1 (am_Fr_m am_cy_fr (fun b hb => by rw [List.mem_singleton.mp hb]; exact row_mem (by omega) (by omega))), (am_cy_fr 25 (fun z => by have := List.mem_singleton.mp z; omega)).trans g2, fun a y a0 a1 y0 y1 => ?_⟩
      rw [mx_cy (by omega) (by omega) a0]
      by_cases e : a = (k : Int) ∧ 0 ≤ y ∧ y < 0 + s2 25 0
      · rw [if_pos e, if_pos (by omega), g4 _ _ (by omega) (by omega) (by omega) (by omega), if_neg (by omega), e.1]
        congr 1
        omega
      · rw [if_neg e, g4 a y a0 a1 y0 y1]
        by_cases e2 : c ≤ a ∧ a < (k : Int) ∧ y < (n : Int)
        · rw [if_pos e2, if_pos (by omega)]
        · rw [if_neg e2, if_neg (by omega)]
    · rintro - s2 ⟨g1, g2, g4⟩
      have e25b : s2 25 0 = n := by rw [g2]; exact en
      simp only
      refine am_s rfl rfl ?_
      refine s_k 1 rfl rfl ?_
      refine s_iadd rfl ?_
      refine am_s rfl rfl ?_
      refine s_gi (x := 0) rfl g rfl rfl rfl ?_
      refine s_cge rfl ⟨by omega, by omega⟩ ⟨by omega, by omega⟩ (fun c1 => ?_) (fun c1 => absurd c1 (by omega))
      refine am_s rfl rfl ?_
      refine am_s rfl rfl ?_
      refine s_gi (x := 0) rfl g rfl rfl rfl ?_
      refine s_k 1 rfl rfl ?_
      refine s_isub rfl ?_
      refine s_pi (x := 0) rfl g rfl rfl rfl rfl ?_
      refine am_s rfl rfl ?_
      refine s_k 0 rfl rfl ?_
      refine s_pi (x := 2) rfl g rfl rfl rfl rfl ?_
      refine am_r rfl rfl ⟨rfl, _, rfl, am_Fr_W (am_Fr_W g1 (by decide)) (by decide), ?_, am_w_eq _ _ _ _, fun a y a0 a1 y0 y1 => ?_⟩
      · rw [am_w_x (by decide), am_w_eq, e25b, en]
      · rw [mx_w25 a0, mx_w25 a0, g4 a y a0 (by omega) y0 (by omega)]
        unfold sk
        by_cases ea : a < c
        · rw [if_neg (by omega), if_pos ea, h4 a y a0 (by omega) y0 (by omega)]
          by_cases ey : y < c
          · rw [if_neg (by omega), if_pos ey]
          · rw [if_pos (by omega), if_neg ey]
        · rw [if_pos (by omega), if_neg ea, h4 (a + 1) y (by omega) (by omega) y0 (by omega)]
          by_cases ey : y < c
          · rw [if_neg (by omega), if_pos ey]
          · rw [if_pos (by omega), if_neg ey]
theorem t_dropX {d : Nat} {E : am_Ev} {s : am_S} {c : Int} (g : am_Eg E) (hn : 1 ≤ s 25 0 ∧ s 25 0 ≤ 20) (hr_c : am_R c) (hQ : ∀ y, 0 ≤ y → y < 20 → am_Q (s 161 y)) : am_wp (d + 2) 127 0 (lv_args 0 [.ref 1, .int (iI c)]) [] (am_hp E s) (fun rv h => (¬ (0 ≤ c ∧ c < s 25 0) ∧ rv = some (.int (iI (-101))) ∧ h = am_hp E s) ∨ ((0 ≤ c ∧ c < s 25 0) ∧ s 25 0 = 1 ∧ rv = some (.int (iI (-103))) ∧ h = am_hp E s) ∨ ((0 ≤ c ∧ c < s 25 0) ∧ 1 < s 25 0 ∧ rv = some (.int (iI (s 25 0 - 1))) ∧ ∃ s', h = am_hp E (s_forget s') ∧ am_Fr (25 :: List.range' 27 20) s s' ∧ s' 25 0 = s 25 0 - 1 ∧ s' 25 2 = 0 ∧ ∀ a y, 0 ≤ a → a < s 25 0 - 1 → 0 ≤ y → y < s 25 0 - 1 → mx s' a y = mx s (sk c a) (sk c y))) := by
  refine am_s rfl rfl ?_
  refine am_s rfl rfl ?_
  refine s_cv [_] [] rfl g (Or.inl rfl) rfl rfl (Nat.le_of_ble_eq_true rfl) rfl rfl (t_cityX g (c := c) hr_c hn) ?_
  rintro rv h1 ⟨rfl, rfl⟩
  by_cases hc_c : 0 ≤ c ∧ c < s 25 0
  · rw [show (if 0 ≤ c ∧ c < s 25 0 then (1 : Int) else 0) = 1 from if_pos hc_c]
    refine s_zne rfl ⟨by omega, by omega⟩ (fun c2 => ?_) (fun c2 => absurd c2 (by omega))
    refine am_s rfl rfl ?_
    refine s_gr rfl g rfl rfl ?_
    refine s_gi (x := 0) rfl g rfl rfl rfl ?_
    refine s_k 1 rfl rfl ?_
    refine s_cne rfl ⟨by omega, by omega⟩ ⟨by omega, by omega⟩ (fun c3 => ?_) (fun c3 => ?_)
    · refine am_s rfl rfl ?_
      refine s_gr rfl g rfl rfl ?_
      refine am_s rfl rfl ?_
      refine s_cv [_] [] rfl g (Or.inl rfl) rfl rfl (Nat.le_of_ble_eq_true rfl) rfl rfl (t_remove g ⟨by omega, by omega⟩ hc_c) ?_
      rintro rv h1 ⟨rfl, s1, rfl, hF, h2, h3, h4⟩
      refine am_s rfl rfl ?_
      refine s_cv [] [] rfl g (Or.inl rfl) rfl rfl (Nat.le_of_ble_eq_true rfl) rfl rfl (t_forget g (fun y y0 y1 => by rw [hF 161 (by decide)]; exact hQ y y0 y1)) ?_
      rintro rv h1 ⟨rfl, rfl⟩
      refine am_s rfl rfl ?_
      refine s_gr rfl g rfl rfl ?_
      refine s_gi (x := 0) rfl g rfl rfl rfl ?_
      first | exact am_r rfl rfl (Or.inl ⟨hc_c, rfl, rfl⟩) | exact am_r rfl rfl (Or.inr (Or.inl ⟨hc_c, by omega, rfl, rfl⟩)) | exact am_r rfl rfl (Or.inr (Or.inr ⟨hc_c, by omega, by rw [show s_forget s1 25 0 = s1 25 0 from rfl, h2], s1, rfl, hF, h2, h3, h4⟩))
    · refine s_k (-103) rfl rfl ?_
      first | exact am_r rfl rfl (Or.inl ⟨hc_c, rfl, rfl⟩) | exact am_r rfl rfl (Or.inr (Or.inl ⟨hc_c, by omega, rfl, rfl⟩)) | exact am_r rfl rfl (Or.inr (Or.inr ⟨hc_c, by omega, by rw [show s_forget s1 25 0 = s1 25 0 from rfl, h2], s1, rfl, hF, h2, h3, h4⟩))
  · rw [show (if 0 ≤ c ∧ c < s 25 0 then (1 : Int) else 0) = 0 from if_neg hc_c]
    refine s_zne rfl ⟨by omega, by omega⟩ (fun c2 => absurd c2 (by omega)) (fun c2 => ?_)
    refine s_k (-101) rfl rfl ?_
    first | exact am_r rfl rfl (Or.inl ⟨hc_c, rfl, rfl⟩) | exact am_r rfl rfl (Or.inr (Or.inl ⟨hc_c, by omega, rfl, rfl⟩)) | exact am_r rfl rfl (Or.inr (Or.inr ⟨hc_c, by omega, by rw [show s_forget s1 25 0 = s1 25 0 from rfl, h2], s1, rfl, hF, h2, h3, h4⟩))
