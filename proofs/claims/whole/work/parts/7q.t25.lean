def s_chg (s : am_S) : am_S := s_zr (am_w (am_w (am_w (am_w s 168 14 0) 168 18 0) 168 24 0) 168 29 0) 191 20
theorem t_change {d : Nat} {E : am_Ev} {s : am_S} (g : am_Eg E) : am_wp d 159 0 (lv_args 0 [.ref 168]) [] (am_hp E s) (fun rv h => rv = none ∧ h = am_hp E (s_chg s)) := by
  refine am_s rfl rfl ?_
  refine s_k 0 rfl rfl ?_
  refine s_pi (x := 14) rfl g rfl rfl rfl rfl ?_
  refine am_s rfl rfl ?_
  refine s_k 0 rfl rfl ?_
  refine s_pi (x := 18) rfl g rfl rfl rfl rfl ?_
  refine am_s rfl rfl ?_
  refine s_k 0 rfl rfl ?_
  refine s_pi (x := 24) rfl g rfl rfl rfl rfl ?_
  refine am_s rfl rfl ?_
  refine s_k 0 rfl rfl ?_
  refine s_pi (x := 29) rfl g rfl rfl rfl rfl ?_
  refine s_k 0 rfl rfl ?_
  refine am_s rfl rfl ?_
  refine am_lv [(1, .int (iI (((0 : Nat) : Int) : Int))), (0, .ref 168)] rfl rfl ⟨rfl, rfl, trivial⟩ ?_
  rw [show am_hp E (am_w (am_w (am_w (am_w s 168 14 0) 168 18 0) 168 24 0) 168 29 0) = am_hp E (s_zr (am_w (am_w (am_w (am_w s 168 14 0) 168 18 0) 168 24 0) 168 29 0) 191 ((0 : Nat) : Int)) by rw [show ((0 : Nat) : Int) = 0 from rfl, s_zr_0]]
  refine s_for (lvf := fun k => [(1, .int (iI (k : Int))), (0, .ref 168)]) (hf := fun k => am_hp E (s_zr (am_w (am_w (am_w (am_w s 168 14 0) 168 18 0) 168 24 0) 168 29 0) 191 (k : Int))) (lo := 0) (hi := 20) (by decide) ?_ ?_
  · intro k hk0 hk kk
    simp only at kk ⊢
    refine am_s rfl rfl ?_
    refine s_k 20 rfl rfl ?_
    refine s_cge rfl ⟨by omega, by omega⟩ ⟨by omega, by omega⟩ (fun c1 => absurd c1 (by omega)) (fun c1 => ?_)
    refine am_s rfl rfl ?_
    refine s_gr rfl g rfl rfl ?_
    refine am_s rfl rfl ?_
    refine s_kl 0 rfl rfl ?_
    refine s_ls rfl g rfl ⟨by omega, by omega⟩ (by decide) ?_
    refine s_inc rfl rfl ?_
    refine am_s rfl rfl ?_
    refine am_lv [(1, _), (0, _)] rfl rfl ⟨rfl, rfl, trivial⟩ ?_
    rw [s_zr_w _ 191 (Int.natCast_nonneg k)]
    exact kk
  · simp only
    refine am_s rfl rfl ?_
    refine s_k 20 rfl rfl ?_
    refine s_cge rfl ⟨by omega, by omega⟩ ⟨by omega, by omega⟩ (fun c1 => ?_) (fun c1 => absurd c1 (by omega))
    exact am_r rfl rfl ⟨rfl, rfl⟩
theorem t_beginM0 {d : Nat} {E : am_Ev} {s : am_S} {c : Int} (g : am_Eg E) (hc : am_R c) : am_wp (d + 1) 160 5 (lv_args 0 [.ref 168, .int (iI c)]) [] (am_hp E s) (fun rv h => (¬ (1 ≤ c ∧ c ≤ 20) ∧ rv = some (.int (iI (-102))) ∧ h = am_hp E s) ∨ ((1 ≤ c ∧ c ≤ 20) ∧ rv = some (.int (iI c)) ∧ h = am_hp E (s_chg (s_zr (am_w s 168 1 c) 169 400)))) := by
  obtain ⟨r1, r2⟩ := hc
  refine am_s rfl rfl ?_
  refine s_i2l rfl ⟨by omega, by omega⟩ ?_
  refine s_kl 1 rfl rfl ?_
  refine s_kl 20 rfl rfl ?_
  refine am_cs (As := [_, _, _]) (rest := []) rfl (Or.inl rfl) rfl rfl (Nat.le_of_ble_eq_true rfl) rfl (t_within ⟨by omega, by omega⟩ ⟨by decide, by decide⟩ ⟨by decide, by decide⟩) ?_
  rintro rv h1 ⟨rfl, rfl⟩
  by_cases hw : 1 ≤ c ∧ c ≤ 20
  · rw [show (if 1 ≤ c ∧ c ≤ 20 then (1 : Int) else 0) = 1 from if_pos hw]
    refine s_zne rfl ⟨by omega, by omega⟩ (fun c2 => ?_) (fun c2 => absurd c2 (by omega))
    refine am_s rfl rfl ?_
    refine am_s rfl rfl ?_
    refine s_pi (x := 1) rfl g rfl rfl rfl rfl ?_
    refine s_k 0 rfl rfl ?_
    refine am_s rfl rfl ?_
    refine am_lv [(2, .int (iI (((0 : Nat) : Int) : Int))), (1, .int (iI c)), (0, .ref 168)] rfl rfl ⟨rfl, rfl, rfl, trivial⟩ ?_
    rw [show am_hp E (am_w s 168 1 c) = am_hp E (s_zr (am_w s 168 1 c) 169 ((0 : Nat) : Int)) by rw [show ((0 : Nat) : Int) = 0 from rfl, s_zr_0]]
    refine s_for (lvf := fun k => [(2, .int (iI (k : Int))), (1, .int (iI c)), (0, .ref 168)]) (hf := fun k => am_hp E (s_zr (am_w s 168 1 c) 169 (k : Int))) (lo := 0) (hi := 400) (by decide) ?_ ?_
    · intro k hk0 hk kk
      simp only at kk ⊢
      refine am_s rfl rfl ?_
      refine s_k 400 rfl rfl ?_
      refine s_cge rfl ⟨by omega, by omega⟩ ⟨by omega, by omega⟩ (fun c1 => absurd c1 (by omega)) (fun c1 => ?_)
      refine am_s rfl rfl ?_
      refine s_gr rfl g rfl rfl ?_
      refine am_s rfl rfl ?_
      refine s_k 0 rfl rfl ?_
      refine s_is rfl g rfl ⟨by omega, by omega⟩ (by decide) ?_
      refine s_inc rfl rfl ?_
      refine am_s rfl rfl ?_
      refine am_lv [(2, _), (1, _), (0, _)] rfl rfl ⟨rfl, rfl, rfl, trivial⟩ ?_
      rw [s_zr_w _ 169 (Int.natCast_nonneg k)]
      exact kk
    · simp only
      refine am_s rfl rfl ?_
      refine s_k 400 rfl rfl ?_
      refine s_cge rfl ⟨by omega, by omega⟩ ⟨by omega, by omega⟩ (fun c1 => ?_) (fun c1 => absurd c1 (by omega))
      refine am_s rfl rfl ?_
      refine s_cv [] [] rfl g (Or.inl rfl) rfl rfl (Nat.le_of_ble_eq_true rfl) rfl rfl (t_change g) ?_
      rintro rv h1 ⟨rfl, rfl⟩
      refine am_s rfl rfl ?_
      refine s_gi (x := 1) rfl g rfl rfl rfl ?_
      exact am_r rfl rfl (Or.inr ⟨hw, rfl, rfl⟩)
  · rw [show (if 1 ≤ c ∧ c ≤ 20 then (1 : Int) else 0) = 0 from if_neg hw]
    refine s_zne rfl ⟨by omega, by omega⟩ (fun c2 => absurd c2 (by omega)) (fun c2 => ?_)
    refine s_k (-102) rfl rfl ?_
    exact am_r rfl rfl (Or.inl ⟨hw, rfl, rfl⟩)
theorem t_beginM {d : Nat} {E : am_Ev} {s : am_S} {c : Int} (g : am_Eg E) (hc : am_R c) : am_wp (d + 1) 160 0 (lv_args 0 [.ref 168, .int (iI c)]) [] (am_hp E s) (fun rv h => (¬ (1 ≤ c ∧ c ≤ 20) ∧ rv = some (.int (iI (-102))) ∧ h = am_hp E (am_w s 168 0 0)) ∨ ((1 ≤ c ∧ c ≤ 20) ∧ rv = some (.int (iI c)) ∧ h = am_hp E (s_chg (s_zr (am_w (am_w s 168 0 0) 168 1 c) 169 400)))) := by
  refine am_s rfl rfl ?_
  refine s_k 0 rfl rfl ?_
  refine s_pi (x := 0) rfl g rfl rfl rfl rfl ?_
  exact t_beginM0 (s := am_w s 168 0 0) g hc
theorem t_beginX {d : Nat} {E : am_Ev} {s : am_S} {c : Int} (g : am_Eg E) (hc : am_R c) (hQ : ∀ y, 0 ≤ y → y < 20 → am_Q (s 161 y)) : am_wp (d + 2) 122 0 (lv_args 0 [.ref 1, .int (iI c)]) [] (am_hp E s) (fun rv h => (¬ (1 ≤ c ∧ c ≤ 20) ∧ rv = some (.int (iI (-102))) ∧ h = am_hp E s) ∨ ((1 ≤ c ∧ c ≤ 20) ∧ rv = some (.int (iI c)) ∧ ∃ s1, h = am_hp E (s_forget s1) ∧ am_Fr (25 :: List.range' 27 20) s s1 ∧ s1 25 0 = c ∧ s1 25 2 = 0 ∧ ∀ a y, 0 ≤ a → a < c → 0 ≤ y → y < 20 → s1 (26 + 1 + a.toNat) y = 0)) := by
  obtain ⟨r1, r2⟩ := hc
  refine am_s rfl rfl ?_
  refine s_k 1 rfl rfl ?_
  refine s_clt rfl ⟨by omega, by omega⟩ ⟨by omega, by omega⟩ (fun c1 => ?_) (fun c1 => ?_)
  · refine s_k (-102) rfl rfl ?_
    first | exact am_r rfl rfl (Or.inl ⟨by omega, rfl, rfl⟩) | exact am_r rfl rfl (Or.inr ⟨by omega, rfl, s1, rfl, hF, h2, h4, h6⟩)
  · refine am_s rfl rfl ?_
    refine s_k 20 rfl rfl ?_
    refine s_cle rfl ⟨by omega, by omega⟩ ⟨by omega, by omega⟩ (fun c2 => ?_) (fun c2 => ?_)
    · refine am_s rfl rfl ?_
      refine s_gr rfl g rfl rfl ?_
      refine am_s rfl rfl ?_
      obtain ⟨n, ec⟩ : ∃ n : Nat, c = n := ⟨c.toNat, by omega⟩
      subst ec
      refine s_cv [_] [] rfl g (Or.inl rfl) rfl rfl (Nat.le_of_ble_eq_true rfl) rfl rfl (t_mreset g (n := n) (by omega)) ?_
      rintro rv h1 ⟨rfl, s1, rfl, hF, h2, h3, h4, h5, h6⟩
      refine am_s rfl rfl ?_
      refine s_cv [] [] rfl g (Or.inl rfl) rfl rfl (Nat.le_of_ble_eq_true rfl) rfl rfl (t_forget g (fun y y0 y1 => by rw [hF 161 (by decide)]; exact hQ y y0 y1)) ?_
      rintro rv h1 ⟨rfl, rfl⟩
      refine am_s rfl rfl ?_
      first | exact am_r rfl rfl (Or.inl ⟨by omega, rfl, rfl⟩) | exact am_r rfl rfl (Or.inr ⟨by omega, rfl, s1, rfl, hF, h2, h4, h6⟩)
    · refine s_k (-102) rfl rfl ?_
      first | exact am_r rfl rfl (Or.inl ⟨by omega, rfl, rfl⟩) | exact am_r rfl rfl (Or.inr ⟨by omega, rfl, s1, rfl, hF, h2, h4, h6⟩)
theorem t_soundM {d : Nat} {E : am_Ev} {s : am_S} (g : am_Eg E) (hm : my_ok s) : am_wp (d + 2) 181 0 (lv_args 0 [.ref 168]) [] (am_hp E s) (fun rv h => ∃ s', h = am_hp E s' ∧ am_Fm [174] [12] s s' ∧ fl_is (s 168 1) (my s) (s' 168 12) (s' 174 0) (s' 174 1) (s' 174 2) ∧ (s' 168 12 = 0 ∧ rv = some (.int (iI 1)) ∨ s' 168 12 ≠ 0 ∧ rv = some (.int (iI 0)))) := by
  refine am_s rfl rfl ?_
  refine s_cv [] [] rfl g (Or.inl rfl) rfl rfl (Nat.le_of_ble_eq_true rfl) rfl rfl (t_findFlaw g hm) ?_
  rintro rv h1 ⟨rfl, s1, rfl, hF, hfl⟩
  have hkr : 0 ≤ s1 168 12 ∧ s1 168 12 ≤ 3 := by
    rcases hfl with h | h | h | h <;> (have := h.1; omega)
  refine am_s rfl rfl ?_
  refine s_gi (x := 12) rfl g rfl rfl rfl ?_
  refine s_zne rfl ⟨by omega, by omega⟩ (fun c1 => ?_) (fun c1 => ?_)
  · refine s_k 0 rfl rfl ?_
    first | exact am_r rfl rfl ⟨s1, rfl, hF, hfl, Or.inl ⟨by omega, rfl⟩⟩ | exact am_r rfl rfl ⟨s1, rfl, hF, hfl, Or.inr ⟨by omega, rfl⟩⟩
  · refine s_k 1 rfl rfl ?_
    refine am_s rfl rfl ?_
    first | exact am_r rfl rfl ⟨s1, rfl, hF, hfl, Or.inl ⟨by omega, rfl⟩⟩ | exact am_r rfl rfl ⟨s1, rfl, hF, hfl, Or.inr ⟨by omega, rfl⟩⟩
theorem t_flawM0 {d : Nat} {E : am_Ev} {s : am_S} {w : Int} (g : am_Eg E) (hm : my_ok s) (hw0 : am_R w) : am_wp (d + 2) 180 5 (lv_args 0 [.ref 168, .int (iI w)]) [] (am_hp E s) (fun rv h => (¬ (0 ≤ w ∧ w ≤ 3) ∧ rv = some (.int (iI (-102))) ∧ h = am_hp E s) ∨ ((0 ≤ w ∧ w ≤ 3) ∧ ∃ s', h = am_hp E s' ∧ am_Fm [174] [12] s s' ∧ fl_is (s 168 1) (my s) (s' 168 12) (s' 174 0) (s' 174 1) (s' 174 2) ∧ rv = some (.int (iI (if w = 0 then s' 168 12 else s' 174 (w - 1)))))) := by
  obtain ⟨r1, r2⟩ := hw0
  refine am_s rfl rfl ?_
  refine s_i2l rfl ⟨by omega, by omega⟩ ?_
  refine s_kl 0 rfl rfl ?_
  refine s_kl 3 rfl rfl ?_
  refine am_cs (As := [_, _, _]) (rest := []) rfl (Or.inl rfl) rfl rfl (Nat.le_of_ble_eq_true rfl) rfl (t_within ⟨by omega, by omega⟩ ⟨by decide, by decide⟩ ⟨by decide, by decide⟩) ?_
  rintro rv h1 ⟨rfl, rfl⟩
  by_cases hw : 0 ≤ w ∧ w ≤ 3
  · rw [show (if 0 ≤ w ∧ w ≤ 3 then (1 : Int) else 0) = 1 from if_pos hw]
    refine s_zne rfl ⟨by omega, by omega⟩ (fun c2 => ?_) (fun c2 => absurd c2 (by omega))
    refine am_s rfl rfl ?_
    refine s_cv [] [] rfl g (Or.inl rfl) rfl rfl (Nat.le_of_ble_eq_true rfl) rfl rfl (t_findFlaw g hm) ?_
    rintro rv h1 ⟨rfl, s1, rfl, hF, hfl⟩
    have hkr : 0 ≤ s1 168 12 ∧ s1 168 12 ≤ 3 := by
      rcases hfl with h | h | h | h <;> (have := h.1; omega)
    refine am_s rfl rfl ?_
    refine s_zne rfl ⟨by omega, by omega⟩ (fun c3 => ?_) (fun c3 => ?_)
    · refine am_s rfl rfl ?_
      refine s_gr rfl g rfl rfl ?_
      refine am_s rfl rfl ?_
      refine s_k 1 rfl rfl ?_
      refine s_isub rfl ?_
      refine s_ia rfl g rfl ⟨by omega, by omega⟩ (by decide) ?_
      first | exact am_r rfl rfl (Or.inl ⟨hw, rfl, rfl⟩) | exact am_r rfl rfl (Or.inr ⟨hw, s1, rfl, hF, hfl, by rw [if_pos (by omega)]⟩) | exact am_r rfl rfl (Or.inr ⟨hw, s1, rfl, hF, hfl, by rw [if_neg (by omega)]⟩)
    · refine am_s rfl rfl ?_
      refine s_gi (x := 12) rfl g rfl rfl rfl ?_
      refine am_s rfl rfl ?_
      first | exact am_r rfl rfl (Or.inl ⟨hw, rfl, rfl⟩) | exact am_r rfl rfl (Or.inr ⟨hw, s1, rfl, hF, hfl, by rw [if_pos (by omega)]⟩) | exact am_r rfl rfl (Or.inr ⟨hw, s1, rfl, hF, hfl, by rw [if_neg (by omega)]⟩)
  · rw [show (if 0 ≤ w ∧ w ≤ 3 then (1 : Int) else 0) = 0 from if_neg hw]
    refine s_zne rfl ⟨by omega, by omega⟩ (fun c2 => absurd c2 (by omega)) (fun c2 => ?_)
    refine s_k (-102) rfl rfl ?_
    first | exact am_r rfl rfl (Or.inl ⟨hw, rfl, rfl⟩) | exact am_r rfl rfl (Or.inr ⟨hw, s1, rfl, hF, hfl, by rw [if_pos (by omega)]⟩) | exact am_r rfl rfl (Or.inr ⟨hw, s1, rfl, hF, hfl, by rw [if_neg (by omega)]⟩)
theorem t_flawM {d : Nat} {E : am_Ev} {s : am_S} {w : Int} (g : am_Eg E) (hm : my_ok s) (hw0 : am_R w) : am_wp (d + 2) 180 0 (lv_args 0 [.ref 168, .int (iI w)]) [] (am_hp E s) (fun rv h => (¬ (0 ≤ w ∧ w ≤ 3) ∧ rv = some (.int (iI (-102))) ∧ h = am_hp E (am_w s 168 0 0)) ∨ ((0 ≤ w ∧ w ≤ 3) ∧ ∃ s', h = am_hp E s' ∧ am_Fm [174] [12] (am_w s 168 0 0) s' ∧ fl_is (s 168 1) (my s) (s' 168 12) (s' 174 0) (s' 174 1) (s' 174 2) ∧ rv = some (.int (iI (if w = 0 then s' 168 12 else s' 174 (w - 1)))))) := by
  refine am_s rfl rfl ?_
  refine s_k 0 rfl rfl ?_
  refine s_pi (x := 0) rfl g rfl rfl rfl rfl ?_
  exact t_flawM0 (s := am_w s 168 0 0) g hm hw0
theorem t_flawX {d : Nat} {E : am_Ev} {s : am_S} {w : Int} (g : am_Eg E) (hm : mx_ok s) (hl : lk_ok s) (hw0 : am_R w) : am_wp (d + 3) 131 0 (lv_args 0 [.ref 1, .int (iI w)]) [] (am_hp E s) (fun rv h => (¬ (0 ≤ w ∧ w ≤ 3) ∧ rv = some (.int (iI (-102))) ∧ h = am_hp E s) ∨ ((0 ≤ w ∧ w ≤ 3) ∧ ∃ s', h = am_hp E s' ∧ lk_to s s' ∧ rv = some (.int (iI (s' 47 w))))) := by
  obtain ⟨r1, r2⟩ := hw0
  refine am_s rfl rfl ?_
  refine s_zlt rfl ⟨by omega, by omega⟩ (fun c1 => ?_) (fun c1 => ?_)
  · refine s_k (-102) rfl rfl ?_
    refine am_s rfl rfl ?_
    first | exact am_r rfl rfl (Or.inl ⟨by omega, rfl, rfl⟩) | exact am_r rfl rfl (Or.inr ⟨by omega, s1, rfl, hk, rfl⟩)
  · refine am_s rfl rfl ?_
    refine s_k 3 rfl rfl ?_
    refine s_cle rfl ⟨by omega, by omega⟩ ⟨by omega, by omega⟩ (fun c2 => ?_) (fun c2 => ?_)
    · refine am_s rfl rfl ?_
      refine s_gr rfl g rfl rfl ?_
      refine am_s rfl rfl ?_
      refine s_cv [_] [] rfl g (Or.inl rfl) rfl rfl (Nat.le_of_ble_eq_true rfl) rfl rfl (t_flawPart g hm hl (w := w) ⟨by omega, by omega⟩) ?_
      rintro rv h1 ⟨s1, rfl, rfl, hk⟩
      first | exact am_r rfl rfl (Or.inl ⟨by omega, rfl, rfl⟩) | exact am_r rfl rfl (Or.inr ⟨by omega, s1, rfl, hk, rfl⟩)
    · refine s_k (-102) rfl rfl ?_
      refine am_s rfl rfl ?_
      first | exact am_r rfl rfl (Or.inl ⟨by omega, rfl, rfl⟩) | exact am_r rfl rfl (Or.inr ⟨by omega, s1, rfl, hk, rfl⟩)
def tr_M (E : am_Ev) (s : am_S) (rv : Option Value) (h : am_H) : Prop := (∃ s1, am_Fm [174] [12] s s1 ∧ fl_is (s 168 1) (my s) (s1 168 12) (s1 174 0) (s1 174 1) (s1 174 2) ∧ s1 168 12 ≠ 0 ∧ rv = some (.long (lI (-103))) ∧ h = am_hp E s1) ∨ (∃ al s1 s2, am_Fm [174] [12] s s1 ∧ fl_is (s 168 1) (my s) (s1 168 12) (s1 174 0) (s1 174 1) (s1 174 2) ∧ s1 168 12 = 0 ∧ am_Fm [186, 175, 192, 176, 177] [14, 16, 20] s1 s2 ∧ gw_ok (s1 168 1) 0 (fm s1 0) ((s1 168 1 - 0).toNat - 1) (fun c => 0 ≤ c) (s2 192) al ∧ s2 168 14 = 1 ∧ s2 168 16 = al ∧ s2 168 20 = oc (dgf (s2 192) (s1 168 1).toNat) (s1 168 1).toNat ∧ od_is (dgf (s2 192) (s1 168 1).toNat) (s1 168 1).toNat (s2 177) ∧ (-200000000000000000 ≤ al ∧ al ≤ 200000000000000000) ∧ rv = some (.long (lI al)) ∧ h = am_hp E s2)
theorem t_treeM0 {d : Nat} {E : am_Ev} {s : am_S} (g : am_Eg E) (hm : my_ok s) (hp : pn_ok s 191) : am_wp (d + 4) 185 5 (lv_args 0 [.ref 168]) [] (am_hp E s) (tr_M E s) := by
  refine am_s rfl rfl ?_
  refine s_cv [] [] rfl g (Or.inl rfl) rfl rfl (Nat.le_of_ble_eq_true rfl) rfl rfl (t_soundM g hm) ?_
  rintro rv h1 ⟨s1, rfl, hF, hfl, hh⟩
  rcases hh with ⟨hk, rfl⟩ | ⟨hk, rfl⟩
  · refine s_zne rfl ⟨by omega, by omega⟩ (fun c1 => ?_) (fun c1 => absurd c1 (by omega))
    refine am_s rfl rfl ?_
    have hm2 : my_ok s1 := ⟨by rw [hF.2 1 (by decide)]; exact hm.1, by rw [hF.2 1 (by decide)]; exact hm.2.1, fun a b a0 a1 b0 b1 => by
      rw [hF.2 1 (by decide)] at a1 b1
      have := hm.2.2 a b a0 a1 b0 b1
      unfold my at this ⊢
      rw [hF.1 169 (by decide)]
      exact this⟩
    refine s_cv [] [] rfl g (Or.inl rfl) rfl rfl (Nat.le_of_ble_eq_true rfl) rfl rfl (t_makeTree g hm2 (fun c c0 c1 => by rw [hF.1 191 (by decide)]; exact hp c c0 c1)) ?_
    rintro rv h1 ⟨rfl, al, s2, rfl, hF2, m1, m2, m3, m4, m5, m6⟩
    refine am_s rfl rfl ?_
    refine s_gl (x := 16) rfl g rfl rfl rfl ?_
    exact am_r rfl rfl (Or.inr ⟨al, s1, s2, hF, hfl, hk, hF2, m1, m2, m3, m4, m5, m6, by rw [← m3], rfl⟩)
  · refine s_zne rfl ⟨by omega, by omega⟩ (fun c1 => absurd c1 (by omega)) (fun c1 => ?_)
    refine s_kl (-103) rfl rfl ?_
    exact am_r rfl rfl (Or.inl ⟨s1, hF, hfl, hk, rfl, rfl⟩)
theorem t_treeM {d : Nat} {E : am_Ev} {s : am_S} (g : am_Eg E) (hm : my_ok s) (hp : pn_ok s 191) : am_wp (d + 4) 185 0 (lv_args 0 [.ref 168]) [] (am_hp E s) (tr_M E (am_w s 168 0 0)) := by
  refine am_s rfl rfl ?_
  refine s_k 0 rfl rfl ?_
  refine s_pi (x := 0) rfl g rfl rfl rfl rfl ?_
  exact t_treeM0 (s := am_w s 168 0 0) g hm hp
