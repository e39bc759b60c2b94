/-! the class takes a sign, a number, the form -/
theorem skip_o {s : am_S} {T : Int → Int} {z : Int} (h : txO z (xt s)) : txO z ⟨tSk T z (s 2 2), s 2 3, s 2 4⟩ := by
  have r := tSk_r (T := T) h.1.2
  have q := h.1
  exact ⟨⟨by show 0 ≤ tSk T z (xt s).p; omega, r.2⟩, h.2⟩
theorem t_takeSign {d : Nat} {E : am_Ev} {s : am_S} {c : Int} {PP : Option Value → am_H → Prop} (g : am_Eg E) (gd : am_Ed E) {T : Int → Int} {z : Int} (hx : txH E s T z) (hc : 0 ≤ c ∧ c ≤ 127) (hPP : ∀ s1, txFr s s1 → xt s1 = tTk T z c (xt s) → PP none (am_hp E s1)) : am_wp (d + 1) 91 0 (lv_args 0 [.ref 2, .int (iI c)]) [] (am_hp E s) PP := by
  have z0 := hx.zl
  have o1 := hx.o.1
  have o2 := hx.o.2.1
  have o3 := hx.o.2.2
  unfold xt at o1 o2 o3
  simp only [txS.p, txS.f, txS.u] at o1 o2 o3
  have ez := hx.ez
  have sg2 := gd.s2
  refine am_s rfl rfl ?_
  refine s_gi (x := 3) rfl g rfl rfl rfl ?_
  refine s_k (-1) rfl rfl ?_
  refine s_ceq rfl ⟨by omega, by omega⟩ ⟨by omega, by omega⟩ (fun c1 => ?_) (fun c1 => ?_)
  · refine am_s rfl rfl ?_
    refine s_cv [] [] rfl g (Or.inl rfl) rfl rfl (Nat.le_of_ble_eq_true rfl) rfl rfl (t_skip (PP := fun rv h => rv = none ∧ ∃ s1, h = am_hp E s1 ∧ txFr s s1 ∧ xt s1 = ⟨tSk T z (s 2 2), s 2 3, s 2 4⟩) g gd hx (fun s1 a b => ⟨rfl, s1, rfl, a, b⟩)) ?_
    rintro rv h9 ⟨rfl, s1, rfl, hF, e1⟩
    have hx1 := txH_f gd hx hF (by rw [e1]; exact skip_o hx.o)
    have p1 : s1 2 2 = tSk T z (s 2 2) := congrArg txS.p e1
    have f1 : s1 2 3 = s 2 3 := congrArg txS.f e1
    have u1 : s1 2 4 = s 2 4 := congrArg txS.u e1
    have r1 := tSk_r (T := T) (z := z) (p := s 2 2) (by omega)
    have ez1 := hx1.ez
    refine am_s rfl rfl ?_
    refine s_cv [] [] rfl g (Or.inl rfl) rfl rfl (Nat.le_of_ble_eq_true rfl) rfl rfl (t_here (PP := fun rv h => rv = some (.int (iI (if s1 2 2 < z then T (s1 2 2) else -1))) ∧ h = am_hp E s1) g gd hx1 ⟨rfl, rfl⟩) ?_
    rintro rv h9 ⟨rfl, rfl⟩
    rw [p1]
    have br : -1 ≤ (if tSk T z (s 2 2) < z then T (tSk T z (s 2 2)) else -1) ∧ (if tSk T z (s 2 2) < z then T (tSk T z (s 2 2)) else -1) ≤ 126 := by
      split
      · have := hx.tr (tSk T z (s 2 2)) (by omega) (by assumption); omega
      · omega
    refine am_s rfl rfl ?_
    refine s_cne rfl ⟨by omega, by omega⟩ ⟨by omega, by omega⟩ (fun c2 => ?_) (fun c2 => ?_)
    · refine am_s rfl rfl ?_
      refine am_s rfl rfl ?_
      refine s_gi (x := 2) rfl g rfl rfl rfl ?_
      refine s_pi (x := 3) rfl g rfl rfl rfl rfl ?_
      refine am_r rfl rfl (hPP _ (txFr_w hF (Or.inr (Or.inl rfl))) ?_)
      unfold tTk
      rw [if_neg (show ¬ 0 ≤ (xt s).f by show ¬ 0 ≤ s 2 3; omega), if_neg (fun y => ?_)]
      · unfold xt
        rw [am_w_x (by decide), am_w_eq, am_w_x (by decide), p1, u1]
      · have y1 : tSk T z (s 2 2) < z := y.1
        have y2 : T (tSk T z (s 2 2)) = c := y.2
        rw [if_pos y1] at *; omega
    · refine am_s rfl rfl ?_
      refine am_s rfl rfl ?_
      refine s_gi (x := 2) rfl g rfl rfl rfl ?_
      refine s_k 1 rfl rfl ?_
      refine s_iadd rfl ?_
      refine s_pi (x := 2) rfl g rfl rfl rfl rfl ?_
      refine am_s rfl rfl ?_
      refine am_r rfl rfl (hPP _ (txFr_w hF (Or.inl rfl)) ?_)
      have y1 : tSk T z (s 2 2) < z := by
        by_cases y : tSk T z (s 2 2) < z
        · exact y
        · rw [if_neg y] at *; omega
      unfold tTk
      rw [if_neg (show ¬ 0 ≤ (xt s).f by show ¬ 0 ≤ s 2 3; omega), if_pos ⟨y1, by show T (tSk T z (s 2 2)) = c; rw [if_pos y1] at *; omega⟩]
      unfold xt
      rw [am_w_eq, am_w_x (by decide), am_w_x (by decide), p1, f1, u1]
  · exact am_r rfl rfl (hPP s (txFr_r s) (tTk_s (show 0 ≤ (xt s).f by show 0 ≤ s 2 3; omega)).symm)
theorem t_takeForm {d : Nat} {E : am_Ev} {s : am_S} {PP : Option Value → am_H → Prop} (g : am_Eg E) (gd : am_Ed E) {T : Int → Int} {z : Int} (hx : txH E s T z) (hp : s 2 2 = 0) (hf : s 2 3 = -1) (hu : s 2 4 = -1) (hPP : ∀ s1, ((∀ a, a ≠ 2 → s1 a = s a) ∧ ∀ y, y ≠ 2 → y ≠ 3 → y ≠ 4 → y ≠ 5 → s1 2 y = s 2 y) → s1 2 5 = tFm T z → xt s1 = tA1 T z → PP none (am_hp E s1)) : am_wp (d + 1) 90 0 (lv_args 0 [.ref 2]) [] (am_hp E s) PP := by
  have z0 := hx.zl
  have o1 := hx.o.1
  have o2 := hx.o.2.1
  have o3 := hx.o.2.2
  unfold xt at o1 o2 o3
  simp only [txS.p, txS.f, txS.u] at o1 o2 o3
  have ez := hx.ez
  have sg2 := gd.s2
  refine am_s rfl rfl ?_
  refine s_cv [] [] rfl g (Or.inl rfl) rfl rfl (Nat.le_of_ble_eq_true rfl) rfl rfl (t_skip (PP := fun rv h => rv = none ∧ ∃ s1, h = am_hp E s1 ∧ txFr s s1 ∧ xt s1 = ⟨tSk T z (s 2 2), s 2 3, s 2 4⟩) g gd hx (fun s1 a b => ⟨rfl, s1, rfl, a, b⟩)) ?_
  rintro rv h9 ⟨rfl, s1, rfl, hF, e1⟩
  have hx1 := txH_f gd hx hF (by rw [e1]; exact skip_o hx.o)
  have p1 : s1 2 2 = tSk T z (s 2 2) := congrArg txS.p e1
  have f1 : s1 2 3 = s 2 3 := congrArg txS.f e1
  have u1 : s1 2 4 = s 2 4 := congrArg txS.u e1
  have r1 := tSk_r (T := T) (z := z) (p := s 2 2) (by omega)
  have ez1 := hx1.ez
  refine am_s rfl rfl ?_
  refine am_s rfl rfl ?_
  refine s_cv [] [_] rfl g (Or.inl rfl) rfl rfl (Nat.le_of_ble_eq_true rfl) rfl rfl (t_here (PP := fun rv h => rv = some (.int (iI (if s1 2 2 < z then T (s1 2 2) else -1))) ∧ h = am_hp E s1) g gd hx1 ⟨rfl, rfl⟩) ?_
  rintro rv h9 ⟨rfl, rfl⟩
  rw [p1]
  have br : -1 ≤ (if tSk T z (s 2 2) < z then T (tSk T z (s 2 2)) else -1) ∧ (if tSk T z (s 2 2) < z then T (tSk T z (s 2 2)) else -1) ≤ 126 := by
    split
    · have := hx.tr (tSk T z (s 2 2)) (by omega) (by assumption); omega
    · omega
  refine s_pi (x := 5) rfl g rfl rfl rfl rfl ?_
  have eF : (if tSk T z (s 2 2) < z then T (tSk T z (s 2 2)) else -1) = tFm T z := by rw [hp]; rfl
  rw [eF] at br ⊢
  refine am_s rfl rfl ?_
  refine s_gi (x := 5) rfl g rfl rfl rfl ?_
  refine s_k 61 rfl rfl ?_
  refine s_ceq rfl ⟨by first | omega | (simp only [am_w_eq]; omega), by first | omega | (simp only [am_w_eq]; omega)⟩ ⟨by first | omega | (simp only [am_w_eq]; omega), by first | omega | (simp only [am_w_eq]; omega)⟩ (fun c1 => ?_) (fun c1 => ?_)
  · refine am_s rfl rfl ?_
    refine am_s rfl rfl ?_
    refine s_gi (x := 2) rfl g rfl rfl rfl ?_
    refine s_k 1 rfl rfl ?_
    refine s_iadd rfl ?_
    refine s_pi (x := 2) rfl g rfl rfl rfl rfl ?_
    refine am_s rfl rfl ?_
    refine am_r rfl rfl (hPP _ ⟨fun a ha => by rw [am_w_row ha, am_w_row ha]; exact hF.1 a ha, fun y a b c e => by rw [am_w_x (by omega), am_w_x (by omega)]; exact hF.2 y a b c⟩ (by rw [am_w_x (by decide), am_w_eq]) ?_)
    unfold tA1
    rw [if_pos (show tFk (tFm T z) by unfold tFk; simp only [am_w_eq] at *; omega)]
    unfold xt
    rw [am_w_eq, am_w_x (by decide), am_w_x (by decide), am_w_x (by decide), am_w_x (by decide), am_w_x (by decide), p1, f1, u1, hp, hf, hu]
  · refine am_s rfl rfl ?_
    refine s_gi (x := 5) rfl g rfl rfl rfl ?_
    refine s_k 94 rfl rfl ?_
    refine s_ceq rfl ⟨by first | omega | (simp only [am_w_eq]; omega), by first | omega | (simp only [am_w_eq]; omega)⟩ ⟨by first | omega | (simp only [am_w_eq]; omega), by first | omega | (simp only [am_w_eq]; omega)⟩ (fun c2 => ?_) (fun c2 => ?_)
    · refine am_s rfl rfl ?_
      refine am_s rfl rfl ?_
      refine s_gi (x := 2) rfl g rfl rfl rfl ?_
      refine s_k 1 rfl rfl ?_
      refine s_iadd rfl ?_
      refine s_pi (x := 2) rfl g rfl rfl rfl rfl ?_
      refine am_s rfl rfl ?_
      refine am_r rfl rfl (hPP _ ⟨fun a ha => by rw [am_w_row ha, am_w_row ha]; exact hF.1 a ha, fun y a b c e => by rw [am_w_x (by omega), am_w_x (by omega)]; exact hF.2 y a b c⟩ (by rw [am_w_x (by decide), am_w_eq]) ?_)
      unfold tA1
      rw [if_pos (show tFk (tFm T z) by unfold tFk; simp only [am_w_eq] at *; omega)]
      unfold xt
      rw [am_w_eq, am_w_x (by decide), am_w_x (by decide), am_w_x (by decide), am_w_x (by decide), am_w_x (by decide), p1, f1, u1, hp, hf, hu]
    · refine am_s rfl rfl ?_
      refine s_gi (x := 5) rfl g rfl rfl rfl ?_
      refine s_k 43 rfl rfl ?_
      refine s_ceq rfl ⟨by first | omega | (simp only [am_w_eq]; omega), by first | omega | (simp only [am_w_eq]; omega)⟩ ⟨by first | omega | (simp only [am_w_eq]; omega), by first | omega | (simp only [am_w_eq]; omega)⟩ (fun c3 => ?_) (fun c3 => ?_)
      · refine am_s rfl rfl ?_
        refine am_s rfl rfl ?_
        refine s_gi (x := 2) rfl g rfl rfl rfl ?_
        refine s_k 1 rfl rfl ?_
        refine s_iadd rfl ?_
        refine s_pi (x := 2) rfl g rfl rfl rfl rfl ?_
        refine am_s rfl rfl ?_
        refine am_r rfl rfl (hPP _ ⟨fun a ha => by rw [am_w_row ha, am_w_row ha]; exact hF.1 a ha, fun y a b c e => by rw [am_w_x (by omega), am_w_x (by omega)]; exact hF.2 y a b c⟩ (by rw [am_w_x (by decide), am_w_eq]) ?_)
        unfold tA1
        rw [if_pos (show tFk (tFm T z) by unfold tFk; simp only [am_w_eq] at *; omega)]
        unfold xt
        rw [am_w_eq, am_w_x (by decide), am_w_x (by decide), am_w_x (by decide), am_w_x (by decide), am_w_x (by decide), p1, f1, u1, hp, hf, hu]
      · refine am_s rfl rfl ?_
        refine s_gi (x := 5) rfl g rfl rfl rfl ?_
        refine s_k 42 rfl rfl ?_
        refine s_cne rfl ⟨by first | omega | (simp only [am_w_eq]; omega), by first | omega | (simp only [am_w_eq]; omega)⟩ ⟨by first | omega | (simp only [am_w_eq]; omega), by first | omega | (simp only [am_w_eq]; omega)⟩ (fun c4 => ?_) (fun c4 => ?_)
        · refine am_s rfl rfl ?_
          refine am_s rfl rfl ?_
          refine s_gi (x := 2) rfl g rfl rfl rfl ?_
          refine s_pi (x := 3) rfl g rfl rfl rfl rfl ?_
          refine am_r rfl rfl (hPP _ ⟨fun a ha => by rw [am_w_row ha, am_w_row ha]; exact hF.1 a ha, fun y a b c e => by rw [am_w_x (by omega), am_w_x (by omega)]; exact hF.2 y a b c⟩ (by rw [am_w_x (by decide), am_w_eq]) ?_)
          unfold tA1
          rw [if_neg (show ¬ tFk (tFm T z) by unfold tFk; simp only [am_w_eq] at *; omega)]
          unfold xt
          rw [am_w_x (by decide), am_w_x (by decide), am_w_eq, am_w_x (by decide), am_w_x (by decide), p1, u1, hp, hu]
        · refine am_s rfl rfl ?_
          refine am_s rfl rfl ?_
          refine s_gi (x := 2) rfl g rfl rfl rfl ?_
          refine s_k 1 rfl rfl ?_
          refine s_iadd rfl ?_
          refine s_pi (x := 2) rfl g rfl rfl rfl rfl ?_
          refine am_s rfl rfl ?_
          refine am_r rfl rfl (hPP _ ⟨fun a ha => by rw [am_w_row ha, am_w_row ha]; exact hF.1 a ha, fun y a b c e => by rw [am_w_x (by omega), am_w_x (by omega)]; exact hF.2 y a b c⟩ (by rw [am_w_x (by decide), am_w_eq]) ?_)
          unfold tA1
          rw [if_pos (show tFk (tFm T z) by unfold tFk; simp only [am_w_eq] at *; omega)]
          unfold xt
          rw [am_w_eq, am_w_x (by decide), am_w_x (by decide), am_w_x (by decide), am_w_x (by decide), am_w_x (by decide), p1, f1, u1, hp, hf, hu]
