theorem t_need0 {d : Nat} {E : am_Ev} {s : am_S} (g : am_Eg E) (hm : mx_ok s) (hp : pn_ok s 54) (hf : s 48 0 = 0 ∨ s 48 0 = 1) : am_wp (d + 3) 152 0 (lv_args 0 [.ref 1, .int (iI 0)]) [] (am_hp E s) (fun rv h => rv = none ∧ ((s 48 0 = 1 ∧ h = am_hp E s) ∨ (s 48 0 = 0 ∧ ∃ s', h = am_hp E s' ∧ am_Fr [48, 50, 51, 52, 53, 55, 56, 57] s s' ∧ s' 48 0 = 1 ∧ tr_is (s 25 0) (fx s 54) (s' 48 1) (s' 48 2) (s' 50) (s' 55) (s' 56)))) := by
  refine am_s rfl rfl ?_
  refine s_gr rfl g rfl rfl ?_
  refine s_gi (x := 0) rfl g rfl rfl rfl ?_
  refine s_zne rfl (by rcases hf with z | z <;> exact ⟨by omega, by omega⟩) (fun c1 => ?_) (fun c1 => ?_)
  · refine am_s rfl rfl ?_
    refine s_k 1 rfl rfl ?_
    refine s_clt rfl ⟨by decide, by decide⟩ ⟨by decide, by decide⟩ (fun c2 => ?_) (fun c2 => absurd c2 (by omega))
    refine am_s rfl rfl ?_
    refine s_k 2 rfl rfl ?_
    refine s_clt rfl ⟨by decide, by decide⟩ ⟨by decide, by decide⟩ (fun c3 => ?_) (fun c3 => absurd c3 (by omega))
    first | exact am_r rfl rfl ⟨rfl, Or.inl ⟨by omega, rfl⟩⟩ | exact am_r rfl rfl ⟨rfl, Or.inr ⟨by omega, s1, rfl, hF, m1, m2⟩⟩
  · refine am_s rfl rfl ?_
    refine s_gr rfl g rfl rfl ?_
    refine am_s rfl rfl ?_
    refine s_gr rfl g rfl rfl ?_
    refine s_cv [_] [] rfl g (Or.inl rfl) rfl rfl (Nat.le_of_ble_eq_true rfl) rfl rfl (t_treeMake g hm hp) ?_
    rintro rv h1 ⟨rfl, s1, rfl, hF, m1, m2⟩
    refine am_s rfl rfl ?_
    refine s_k 1 rfl rfl ?_
    refine s_clt rfl ⟨by decide, by decide⟩ ⟨by decide, by decide⟩ (fun c4 => ?_) (fun c4 => absurd c4 (by omega))
    refine am_s rfl rfl ?_
    refine s_k 2 rfl rfl ?_
    refine s_clt rfl ⟨by decide, by decide⟩ ⟨by decide, by decide⟩ (fun c5 => ?_) (fun c5 => absurd c5 (by omega))
    first | exact am_r rfl rfl ⟨rfl, Or.inl ⟨by omega, rfl⟩⟩ | exact am_r rfl rfl ⟨rfl, Or.inr ⟨by omega, s1, rfl, hF, m1, m2⟩⟩
def tr_X (E : am_Ev) (s : am_S) (rv : Option Value) (h : am_H) : Prop := ∃ s1, lk_to s s1 ∧ ((s1 47 0 ≠ 0 ∧ rv = some (.long (lI (-103))) ∧ h = am_hp E s1) ∨ (s1 47 0 = 0 ∧ s1 48 0 = 1 ∧ rv = some (.long (lI (s1 48 1))) ∧ h = am_hp E s1) ∨ (s1 47 0 = 0 ∧ s1 48 0 = 0 ∧ ∃ s2, am_Fr [48, 50, 51, 52, 53, 55, 56, 57] s1 s2 ∧ s2 48 0 = 1 ∧ tr_is (s1 25 0) (fx s1 54) (s2 48 1) (s2 48 2) (s2 50) (s2 55) (s2 56) ∧ rv = some (.long (lI (s2 48 1))) ∧ h = am_hp E s2))
theorem mx_lk {s s1 : am_S} (h : lk_to s s1) (x y : Int) (x0 : 0 ≤ x) (x1 : x < 20) : mx s1 x y = mx s x y := by
  unfold mx
  rw [h.1 (26 + 1 + x.toNat) (fun z => by simp at z; omega)]
theorem mx_ok_lk {s s1 : am_S} (hm : mx_ok s) (h : lk_to s s1) : mx_ok s1 := ⟨by rw [h.2.1]; exact hm.1, by rw [h.2.1]; exact hm.2.1, fun a b a0 a1 b0 b1 => by
  rw [h.2.1] at a1 b1
  have := hm.2.1
  rw [mx_lk h a b a0 (by omega)]
  exact hm.2.2 a b a0 a1 b0 b1⟩
theorem t_treeX {d : Nat} {E : am_Ev} {s : am_S} (g : am_Eg E) (hm : mx_ok s) (hl : lk_ok s) (hp : pn_ok s 54) (hf : s 48 0 = 0 ∨ s 48 0 = 1) : am_wp (d + 4) 132 0 (lv_args 0 [.ref 1]) [] (am_hp E s) (tr_X E s) := by
  refine am_s rfl rfl ?_
  refine s_gr rfl g rfl rfl ?_
  refine s_cv [] [] rfl g (Or.inl rfl) rfl rfl (Nat.le_of_ble_eq_true rfl) rfl rfl (t_isSound g hm hl) ?_
  rintro rv h1 ⟨s1, rfl, hk, hh⟩
  rcases hh with ⟨hz, rfl⟩ | ⟨hz, rfl⟩
  · refine s_zne rfl ⟨by omega, by omega⟩ (fun c1 => ?_) (fun c1 => absurd c1 (by omega))
    refine am_s rfl rfl ?_
    refine s_k 0 rfl rfl ?_
    have e48 : s1 48 = s 48 := hk.1 48 (by decide)
    refine s_cv [_] [] rfl g (Or.inl rfl) rfl rfl (Nat.le_of_ble_eq_true rfl) rfl rfl (t_need0 g (mx_ok_lk hm hk) (fun c c0 c1 => by rw [hk.1 54 (by decide)]; exact hp c c0 c1) (by rw [e48]; exact hf)) ?_
    rintro rv h1 ⟨rfl, hh⟩
    rcases hh with ⟨z1, rfl⟩ | ⟨z1, s2, rfl, z2, z3, z4⟩
    · refine am_s rfl rfl ?_
      refine s_gr rfl g rfl rfl ?_
      refine s_gl (x := 1) rfl g rfl rfl rfl ?_
      exact am_r rfl rfl ⟨s1, hk, Or.inr (Or.inl ⟨hz, z1, rfl, rfl⟩)⟩
    · refine am_s rfl rfl ?_
      refine s_gr rfl g rfl rfl ?_
      refine s_gl (x := 1) rfl g rfl rfl rfl ?_
      exact am_r rfl rfl ⟨s1, hk, Or.inr (Or.inr ⟨hz, z1, s2, z2, z3, z4, rfl, rfl⟩)⟩
  · refine s_zne rfl ⟨by omega, by omega⟩ (fun c1 => absurd c1 (by omega)) (fun c1 => ?_)
    refine s_kl (-103) rfl rfl ?_
    exact am_r rfl rfl ⟨s1, hk, Or.inl ⟨hz, rfl, rfl⟩⟩
def se_X (s : am_S) (a b v e : Int) : am_S := if e = 0 then s_forget (am_w (am_w s (26 + 1 + a.toNat) b v) 25 2 0) else s_forget (am_w (am_w (am_w (am_w s (26 + 1 + a.toNat) b v) 25 2 0) (26 + 1 + b.toNat) a v) 25 2 0)
def se_M (s : am_S) (a b v e : Int) : am_S := if e = 0 then s_chg (am_w s 169 (20 * a + b) v) else s_chg (am_w (am_w s 169 (20 * a + b) v) 169 (20 * b + a) v)
theorem t_setX {d : Nat} {E : am_Ev} {s : am_S} {a b v e : Int} (g : am_Eg E) (hn : 1 ≤ s 25 0 ∧ s 25 0 ≤ 20) (hr_a : am_R a) (hr_b : am_R b) (hr_v : am_R v) (he : e = 0 ∨ e = 1) (hQ : ∀ y, 0 ≤ y → y < 20 → am_Q (s 161 y)) : am_wp (d + 2) 128 0 (lv_args 0 [.ref 1, .int (iI a), .int (iI b), .int (iI v), .int (iI e)]) [] (am_hp E s) (fun rv h => (¬ ((0 ≤ a ∧ a < s 25 0) ∧ (0 ≤ b ∧ b < s 25 0)) ∧ rv = some (.int (iI (-101))) ∧ h = am_hp E s) ∨ (((0 ≤ a ∧ a < s 25 0) ∧ (0 ≤ b ∧ b < s 25 0)) ∧ v < 0 ∧ rv = some (.int (iI (-102))) ∧ h = am_hp E s) ∨ (((0 ≤ a ∧ a < s 25 0) ∧ (0 ≤ b ∧ b < s 25 0)) ∧ 0 ≤ v ∧ rv = some (.int (iI (mx s a b))) ∧ h = am_hp E (se_X s a b v e))) := by
  obtain ⟨r1, r2⟩ := hr_v
  refine am_s rfl rfl ?_
  refine am_s rfl rfl ?_
  refine s_cv [_] [] rfl g (Or.inl rfl) rfl rfl (Nat.le_of_ble_eq_true rfl) rfl rfl (t_cityX g (c := a) hr_a hn) ?_
  rintro rv h1 ⟨rfl, rfl⟩
  by_cases hc_a : 0 ≤ a ∧ a < s 25 0
  · rw [show (if 0 ≤ a ∧ a < s 25 0 then (1 : Int) else 0) = 1 from if_pos hc_a]
    refine s_zeq rfl ⟨by omega, by omega⟩ (fun c2 => absurd c2 (by omega)) (fun c2 => ?_)
    refine am_s rfl rfl ?_
    refine am_s rfl rfl ?_
    refine s_cv [_] [] rfl g (Or.inl rfl) rfl rfl (Nat.le_of_ble_eq_true rfl) rfl rfl (t_cityX g (c := b) hr_b hn) ?_
    rintro rv h1 ⟨rfl, rfl⟩
    by_cases hc_b : 0 ≤ b ∧ b < s 25 0
    · rw [show (if 0 ≤ b ∧ b < s 25 0 then (1 : Int) else 0) = 1 from if_pos hc_b]
      refine s_zne rfl ⟨by omega, by omega⟩ (fun c4 => ?_) (fun c4 => absurd c4 (by omega))
      refine am_s rfl rfl ?_
      refine s_zge rfl ⟨by omega, by omega⟩ (fun c5 => ?_) (fun c5 => ?_)
      · refine am_s rfl rfl ?_
        refine s_gr rfl g rfl rfl ?_
        refine s_gr rfl g rfl rfl ?_
        refine am_s rfl rfl ?_
        refine s_aa rfl g rfl ⟨by omega, by omega⟩ (by decide) ?_
        refine am_s rfl rfl ?_
        refine s_ia rfl g (lo_26 (by omega) (by omega)) ⟨by omega, by omega⟩ (by decide) ?_
        refine am_s rfl rfl ?_
        refine am_s rfl rfl ?_
        refine s_gr rfl g rfl rfl ?_
        refine am_s rfl rfl ?_
        refine am_s rfl rfl ?_
        refine am_s rfl rfl ?_
        refine s_cv [_, _, _] [] rfl g (Or.inl rfl) rfl rfl (Nat.le_of_ble_eq_true rfl) rfl rfl (t_tell g ⟨by omega, by omega⟩ ⟨by omega, by omega⟩) ?_
        rintro rv h1 ⟨rfl, rfl⟩
        refine am_s rfl rfl ?_
        refine s_zeq rfl (by rcases he with z | z <;> exact ⟨by omega, by omega⟩) (fun c6 => ?_) (fun c6 => ?_)
        · refine am_s rfl rfl ?_
          refine s_cv [] [] rfl g (Or.inl rfl) rfl rfl (Nat.le_of_ble_eq_true rfl) rfl rfl (t_forget g (fun y y0 y1 => by first | (rw [am_w_a (by decide), am_w_a (by omega), am_w_a (by decide), am_w_a (by omega)]; exact hQ y y0 y1) | (rw [am_w_a (by decide), am_w_a (by omega)]; exact hQ y y0 y1))) ?_
          rintro rv h1 ⟨rfl, rfl⟩
          refine am_s rfl rfl ?_
          first | exact am_r rfl rfl (Or.inl ⟨by omega, rfl, rfl⟩) | exact am_r rfl rfl (Or.inr (Or.inl ⟨by omega, by omega, rfl, rfl⟩)) | exact am_r rfl rfl (Or.inr (Or.inr ⟨by omega, by omega, rfl, by rw [show se_X s a b v e = _ from if_pos (by omega)]⟩)) | exact am_r rfl rfl (Or.inr (Or.inr ⟨by omega, by omega, rfl, by rw [show se_X s a b v e = _ from if_neg (by omega)]⟩))
        · refine am_s rfl rfl ?_
          refine s_gr rfl g rfl rfl ?_
          refine am_s rfl rfl ?_
          refine am_s rfl rfl ?_
          refine am_s rfl rfl ?_
          refine s_cv [_, _, _] [] rfl g (Or.inl rfl) rfl rfl (Nat.le_of_ble_eq_true rfl) rfl rfl (t_tell g ⟨by omega, by omega⟩ ⟨by omega, by omega⟩) ?_
          rintro rv h1 ⟨rfl, rfl⟩
          refine am_s rfl rfl ?_
          refine s_cv [] [] rfl g (Or.inl rfl) rfl rfl (Nat.le_of_ble_eq_true rfl) rfl rfl (t_forget g (fun y y0 y1 => by first | (rw [am_w_a (by decide), am_w_a (by omega), am_w_a (by decide), am_w_a (by omega)]; exact hQ y y0 y1) | (rw [am_w_a (by decide), am_w_a (by omega)]; exact hQ y y0 y1))) ?_
          rintro rv h1 ⟨rfl, rfl⟩
          refine am_s rfl rfl ?_
          first | exact am_r rfl rfl (Or.inl ⟨by omega, rfl, rfl⟩) | exact am_r rfl rfl (Or.inr (Or.inl ⟨by omega, by omega, rfl, rfl⟩)) | exact am_r rfl rfl (Or.inr (Or.inr ⟨by omega, by omega, rfl, by rw [show se_X s a b v e = _ from if_pos (by omega)]⟩)) | exact am_r rfl rfl (Or.inr (Or.inr ⟨by omega, by omega, rfl, by rw [show se_X s a b v e = _ from if_neg (by omega)]⟩))
      · refine s_k (-102) rfl rfl ?_
        first | exact am_r rfl rfl (Or.inl ⟨by omega, rfl, rfl⟩) | exact am_r rfl rfl (Or.inr (Or.inl ⟨by omega, by omega, rfl, rfl⟩)) | exact am_r rfl rfl (Or.inr (Or.inr ⟨by omega, by omega, rfl, by rw [show se_X s a b v e = _ from if_pos (by omega)]⟩)) | exact am_r rfl rfl (Or.inr (Or.inr ⟨by omega, by omega, rfl, by rw [show se_X s a b v e = _ from if_neg (by omega)]⟩))
    · rw [show (if 0 ≤ b ∧ b < s 25 0 then (1 : Int) else 0) = 0 from if_neg hc_b]
      refine s_zne rfl ⟨by omega, by omega⟩ (fun c4 => absurd c4 (by omega)) (fun c4 => ?_)
      refine s_k (-101) rfl rfl ?_
      first | exact am_r rfl rfl (Or.inl ⟨by omega, rfl, rfl⟩) | exact am_r rfl rfl (Or.inr (Or.inl ⟨by omega, by omega, rfl, rfl⟩)) | exact am_r rfl rfl (Or.inr (Or.inr ⟨by omega, by omega, rfl, by rw [show se_X s a b v e = _ from if_pos (by omega)]⟩)) | exact am_r rfl rfl (Or.inr (Or.inr ⟨by omega, by omega, rfl, by rw [show se_X s a b v e = _ from if_neg (by omega)]⟩))
  · rw [show (if 0 ≤ a ∧ a < s 25 0 then (1 : Int) else 0) = 0 from if_neg hc_a]
    refine s_zeq rfl ⟨by omega, by omega⟩ (fun c2 => ?_) (fun c2 => absurd c2 (by omega))
    refine s_k (-101) rfl rfl ?_
    first | exact am_r rfl rfl (Or.inl ⟨by omega, rfl, rfl⟩) | exact am_r rfl rfl (Or.inr (Or.inl ⟨by omega, by omega, rfl, rfl⟩)) | exact am_r rfl rfl (Or.inr (Or.inr ⟨by omega, by omega, rfl, by rw [show se_X s a b v e = _ from if_pos (by omega)]⟩)) | exact am_r rfl rfl (Or.inr (Or.inr ⟨by omega, by omega, rfl, by rw [show se_X s a b v e = _ from if_neg (by omega)]⟩))
theorem t_setM0 {d : Nat} {E : am_Ev} {s : am_S} {a b v e : Int} (g : am_Eg E) (hn : 1 ≤ s 168 1 ∧ s 168 1 ≤ 20) (hr_a : am_R a) (hr_b : am_R b) (hr_v : am_R v) (he : e = 0 ∨ e = 1) : am_wp (d + 1) 175 5 (lv_args 0 [.ref 168, .int (iI a), .int (iI b), .int (iI v), .int (iI e)]) [] (am_hp E s) (fun rv h => (¬ ((0 ≤ a ∧ a < s 168 1) ∧ (0 ≤ b ∧ b < s 168 1)) ∧ rv = some (.int (iI (-101))) ∧ h = am_hp E s) ∨ (((0 ≤ a ∧ a < s 168 1) ∧ (0 ≤ b ∧ b < s 168 1)) ∧ v < 0 ∧ rv = some (.int (iI (-102))) ∧ h = am_hp E s) ∨ (((0 ≤ a ∧ a < s 168 1) ∧ (0 ≤ b ∧ b < s 168 1)) ∧ 0 ≤ v ∧ rv = some (.int (iI (my s a b))) ∧ h = am_hp E (se_M s a b v e))) := by
  obtain ⟨r1, r2⟩ := hr_v
  refine am_s rfl rfl ?_
  refine am_s rfl rfl ?_
  refine s_cv [_] [] rfl g (Or.inl rfl) rfl rfl (Nat.le_of_ble_eq_true rfl) rfl rfl (t_cityM g (c := a) hr_a hn) ?_
  rintro rv h1 ⟨rfl, rfl⟩
  by_cases hc_a : 0 ≤ a ∧ a < s 168 1
  · rw [show (if 0 ≤ a ∧ a < s 168 1 then (1 : Int) else 0) = 1 from if_pos hc_a]
    refine s_zeq rfl ⟨by omega, by omega⟩ (fun c2 => absurd c2 (by omega)) (fun c2 => ?_)
    refine am_s rfl rfl ?_
    refine am_s rfl rfl ?_
    refine s_cv [_] [] rfl g (Or.inl rfl) rfl rfl (Nat.le_of_ble_eq_true rfl) rfl rfl (t_cityM g (c := b) hr_b hn) ?_
    rintro rv h1 ⟨rfl, rfl⟩
    by_cases hc_b : 0 ≤ b ∧ b < s 168 1
    · rw [show (if 0 ≤ b ∧ b < s 168 1 then (1 : Int) else 0) = 1 from if_pos hc_b]
      refine s_zne rfl ⟨by omega, by omega⟩ (fun c4 => ?_) (fun c4 => absurd c4 (by omega))
      refine am_s rfl rfl ?_
      refine s_zge rfl ⟨by omega, by omega⟩ (fun c5 => ?_) (fun c5 => ?_)
      · refine am_s rfl rfl ?_
        refine am_s rfl rfl ?_
        refine am_s rfl rfl ?_
        refine s_cv [_, _] [] rfl g (Or.inl rfl) rfl rfl (Nat.le_of_ble_eq_true rfl) rfl rfl (t_far g ⟨by omega, by omega⟩ ⟨by omega, by omega⟩) ?_
        rintro rv h1 ⟨rfl, rfl⟩
        refine am_s rfl rfl ?_
        refine am_s rfl rfl ?_
        refine s_gr rfl g rfl rfl ?_
        refine s_k 20 rfl rfl ?_
        refine am_s rfl rfl ?_
        refine s_imul rfl ?_
        refine am_s rfl rfl ?_
        refine s_iadd rfl ?_
        refine am_s rfl rfl ?_
        refine s_is rfl g rfl ⟨by omega, by omega⟩ (by decide) ?_
        refine am_s rfl rfl ?_
        refine s_zeq rfl (by rcases he with z | z <;> exact ⟨by omega, by omega⟩) (fun c6 => ?_) (fun c6 => ?_)
        · refine am_s rfl rfl ?_
          refine s_cv [] [] rfl g (Or.inl rfl) rfl rfl (Nat.le_of_ble_eq_true rfl) rfl rfl (t_change g) ?_
          rintro rv h1 ⟨rfl, rfl⟩
          refine am_s rfl rfl ?_
          first | exact am_r rfl rfl (Or.inl ⟨by omega, rfl, rfl⟩) | exact am_r rfl rfl (Or.inr (Or.inl ⟨by omega, by omega, rfl, rfl⟩)) | exact am_r rfl rfl (Or.inr (Or.inr ⟨by omega, by omega, rfl, by rw [show se_M s a b v e = _ from if_pos (by omega)]⟩)) | exact am_r rfl rfl (Or.inr (Or.inr ⟨by omega, by omega, rfl, by rw [show se_M s a b v e = _ from if_neg (by omega)]⟩))
        · refine am_s rfl rfl ?_
          refine s_gr rfl g rfl rfl ?_
          refine s_k 20 rfl rfl ?_
          refine am_s rfl rfl ?_
          refine s_imul rfl ?_
          refine am_s rfl rfl ?_
          refine s_iadd rfl ?_
          refine am_s rfl rfl ?_
          refine s_is rfl g rfl ⟨by omega, by omega⟩ (by decide) ?_
          refine am_s rfl rfl ?_
          refine s_cv [] [] rfl g (Or.inl rfl) rfl rfl (Nat.le_of_ble_eq_true rfl) rfl rfl (t_change g) ?_
          rintro rv h1 ⟨rfl, rfl⟩
          refine am_s rfl rfl ?_
          first | exact am_r rfl rfl (Or.inl ⟨by omega, rfl, rfl⟩) | exact am_r rfl rfl (Or.inr (Or.inl ⟨by omega, by omega, rfl, rfl⟩)) | exact am_r rfl rfl (Or.inr (Or.inr ⟨by omega, by omega, rfl, by rw [show se_M s a b v e = _ from if_pos (by omega)]⟩)) | exact am_r rfl rfl (Or.inr (Or.inr ⟨by omega, by omega, rfl, by rw [show se_M s a b v e = _ from if_neg (by omega)]⟩))
      · refine s_k (-102) rfl rfl ?_
        first | exact am_r rfl rfl (Or.inl ⟨by omega, rfl, rfl⟩) | exact am_r rfl rfl (Or.inr (Or.inl ⟨by omega, by omega, rfl, rfl⟩)) | exact am_r rfl rfl (Or.inr (Or.inr ⟨by omega, by omega, rfl, by rw [show se_M s a b v e = _ from if_pos (by omega)]⟩)) | exact am_r rfl rfl (Or.inr (Or.inr ⟨by omega, by omega, rfl, by rw [show se_M s a b v e = _ from if_neg (by omega)]⟩))
    · rw [show (if 0 ≤ b ∧ b < s 168 1 then (1 : Int) else 0) = 0 from if_neg hc_b]
      refine s_zne rfl ⟨by omega, by omega⟩ (fun c4 => absurd c4 (by omega)) (fun c4 => ?_)
      refine s_k (-101) rfl rfl ?_
      first | exact am_r rfl rfl (Or.inl ⟨by omega, rfl, rfl⟩) | exact am_r rfl rfl (Or.inr (Or.inl ⟨by omega, by omega, rfl, rfl⟩)) | exact am_r rfl rfl (Or.inr (Or.inr ⟨by omega, by omega, rfl, by rw [show se_M s a b v e = _ from if_pos (by omega)]⟩)) | exact am_r rfl rfl (Or.inr (Or.inr ⟨by omega, by omega, rfl, by rw [show se_M s a b v e = _ from if_neg (by omega)]⟩))
  · rw [show (if 0 ≤ a ∧ a < s 168 1 then (1 : Int) else 0) = 0 from if_neg hc_a]
    refine s_zeq rfl ⟨by omega, by omega⟩ (fun c2 => ?_) (fun c2 => absurd c2 (by omega))
    refine s_k (-101) rfl rfl ?_
    first | exact am_r rfl rfl (Or.inl ⟨by omega, rfl, rfl⟩) | exact am_r rfl rfl (Or.inr (Or.inl ⟨by omega, by omega, rfl, rfl⟩)) | exact am_r rfl rfl (Or.inr (Or.inr ⟨by omega, by omega, rfl, by rw [show se_M s a b v e = _ from if_pos (by omega)]⟩)) | exact am_r rfl rfl (Or.inr (Or.inr ⟨by omega, by omega, rfl, by rw [show se_M s a b v e = _ from if_neg (by omega)]⟩))
theorem t_setM {d : Nat} {E : am_Ev} {s : am_S} {a b v e : Int} (g : am_Eg E) (hn : 1 ≤ s 168 1 ∧ s 168 1 ≤ 20) (hr_a : am_R a) (hr_b : am_R b) (hr_v : am_R v) (he : e = 0 ∨ e = 1) : am_wp (d + 1) 175 0 (lv_args 0 [.ref 168, .int (iI a), .int (iI b), .int (iI v), .int (iI e)]) [] (am_hp E s) (fun rv h => (¬ ((0 ≤ a ∧ a < s 168 1) ∧ (0 ≤ b ∧ b < s 168 1)) ∧ rv = some (.int (iI (-101))) ∧ h = am_hp E (am_w s 168 0 0)) ∨ (((0 ≤ a ∧ a < s 168 1) ∧ (0 ≤ b ∧ b < s 168 1)) ∧ v < 0 ∧ rv = some (.int (iI (-102))) ∧ h = am_hp E (am_w s 168 0 0)) ∨ (((0 ≤ a ∧ a < s 168 1) ∧ (0 ≤ b ∧ b < s 168 1)) ∧ 0 ≤ v ∧ rv = some (.int (iI (my s a b))) ∧ h = am_hp E (se_M (am_w s 168 0 0) a b v e))) := by
  refine am_s rfl rfl ?_
  refine s_k 0 rfl rfl ?_
  refine s_pi (x := 0) rfl g rfl rfl rfl rfl ?_
  exact t_setM0 (s := am_w s 168 0 0) g hn hr_a hr_b hr_v he
