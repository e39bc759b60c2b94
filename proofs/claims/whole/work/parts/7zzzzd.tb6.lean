/-! the class takes a number -/
theorem t_num72 {d : Nat} {E : am_Ev} {s : am_S} {lo hi v : Int} {s2 : am_S} {PP : Option Value → am_H → Prop} (g : am_Eg E) (gd : am_Ed E) {T : Int → Int} {z : Int} (hx : txH E s T z) (hl : 0 ≤ lo ∧ lo ≤ 100) (hh : 0 ≤ hi ∧ hi ≤ 2147483647) (hf : s 2 3 = -1) (hF2 : txFr s s2) (e3 : s2 2 3 = s 2 3) (e4 : s2 2 4 = s 2 4) (eD : tNd T z (xt s) = (s2 2 2, v)) (hv : v < 100000000000) (hPP : ∀ s3 x, txFr s s3 → xt s3 = tNm T z lo hi (xt s) → 0 ≤ x ∧ x ≤ 2147483647 → (txG (xt s3) → x = tNv T z (xt s)) → PP (some (.int (iI x))) (am_hp E s3)) : am_wp (d + 2) 92 72 [(6, .long (lI v)), (5, .int (iI (tSk T z (s 2 2)))), (3, .long (lI hi)), (1, .long (lI lo)), (0, .ref 2)] [] (am_hp E s2) PP := by
  have z0 := hx.zl
  have o1 := hx.o.1
  have o2 := hx.o.2.1
  have o3 := hx.o.2.2
  unfold xt at o1 o2 o3
  simp only [txS.p, txS.f, txS.u] at o1 o2 o3
  have ez := hx.ez
  have sg2 := gd.s2
  have eD1 : (tNd T z (xt s)).1 = s2 2 2 := by rw [eD]
  have eV : tNv T z (xt s) = v := by unfold tNv; rw [eD]
  have nd := tNd_r (T := T) hx.o
  rw [eD1, eV] at nd
  have nd1 : s 2 2 ≤ tSk T z (s 2 2) ∧ tSk T z (s 2 2) ≤ s2 2 2 ∧ s2 2 2 ≤ z ∧ 0 ≤ v := nd
  have hx2 := txH_f gd hx hF2 (show txO z (xt s2) from ⟨by show 0 ≤ s2 2 2 ∧ s2 2 2 ≤ z; omega, by show (-1 ≤ s2 2 3 ∧ s2 2 3 ≤ z); omega, by show (-1 ≤ s2 2 4 ∧ s2 2 4 ≤ z); omega⟩)
  refine am_s rfl rfl ?_
  refine s_gi (x := 2) rfl g rfl rfl rfl ?_
  refine am_s rfl rfl ?_
  refine s_ceq rfl ⟨by omega, by omega⟩ ⟨by omega, by omega⟩ (fun c1 => ?_) (fun c1 => ?_)
  · refine am_s rfl rfl ?_
    refine am_s rfl rfl ?_
    refine s_gi (x := 2) rfl g rfl rfl rfl ?_
    refine s_pi (x := 3) rfl g rfl rfl rfl rfl ?_
    refine s_k 0 rfl rfl ?_
    have hNf : tNf T z (xt s) := Or.inl (by rw [eD1]; show s2 2 2 = tSk T z (s 2 2); omega)
    exact am_r rfl rfl (by
      refine hPP _ 0 (txFr_w hF2 (Or.inr (Or.inl rfl))) ?_ ⟨by decide, by decide⟩ (fun y => ?_)
      · unfold tNm
        rw [if_neg (show ¬ 0 ≤ (xt s).f by show ¬ 0 ≤ s 2 3; omega), if_pos hNf, eD1]
        unfold xt
        rw [am_w_x (by decide), am_w_eq, am_w_x (by decide), e4]
      · have y1 := y.1
        unfold xt at y1
        rw [am_w_eq] at y1
        have : s2 2 2 < 0 := y1
        omega
      )
  · refine am_s rfl rfl ?_
    refine s_cv [] [] rfl g (Or.inl rfl) rfl rfl (Nat.le_of_ble_eq_true rfl) rfl rfl (t_atDigit (PP := fun rv h => h = am_hp E s2 ∧ (((s2 2 2 < z ∧ 48 ≤ T (s2 2 2) ∧ T (s2 2 2) ≤ 57) ∧ rv = some (.int (iI 1))) ∨ (¬ (s2 2 2 < z ∧ 48 ≤ T (s2 2 2) ∧ T (s2 2 2) ≤ 57) ∧ rv = some (.int (iI 0))))) g gd hx2 (fun a => ⟨rfl, Or.inl ⟨a, rfl⟩⟩) (fun a => ⟨rfl, Or.inr ⟨a, rfl⟩⟩)) ?_
    rintro rv h9 ⟨rfl, hd⟩
    rcases hd with ⟨hd, rfl⟩ | ⟨hd, rfl⟩
    · refine s_zeq rfl ⟨by omega, by omega⟩ (fun c1 => absurd c1 (by omega)) (fun c1 => ?_)
      refine am_s rfl rfl ?_
      refine am_s rfl rfl ?_
      refine s_gi (x := 2) rfl g rfl rfl rfl ?_
      refine s_pi (x := 3) rfl g rfl rfl rfl rfl ?_
      refine s_k 0 rfl rfl ?_
      have hNf : tNf T z (xt s) := Or.inr (by rw [eD1]; exact hd)
      exact am_r rfl rfl (by
        refine hPP _ 0 (txFr_w hF2 (Or.inr (Or.inl rfl))) ?_ ⟨by decide, by decide⟩ (fun y => ?_)
        · unfold tNm
          rw [if_neg (show ¬ 0 ≤ (xt s).f by show ¬ 0 ≤ s 2 3; omega), if_pos hNf, eD1]
          unfold xt
          rw [am_w_x (by decide), am_w_eq, am_w_x (by decide), e4]
        · have y1 := y.1
          unfold xt at y1
          rw [am_w_eq] at y1
          have : s2 2 2 < 0 := y1
          omega
        )
    · refine s_zeq rfl ⟨by omega, by omega⟩ (fun c1 => ?_) (fun c1 => absurd c1 (by omega))
      have hNf : ¬ tNf T z (xt s) := fun y => by
        unfold tNf at y
        rw [eD1] at y
        rcases y with y | y
        · have y : s2 2 2 = tSk T z (s 2 2) := y
          omega
        · exact hd y
      refine am_s rfl rfl ?_
      refine am_s rfl rfl ?_
      refine s_jlt rfl rfl ⟨by omega, by omega⟩ ⟨by omega, by omega⟩ (fun c2 => ?_) (fun c2 => ?_)
      · refine am_s rfl rfl ?_
        refine s_gi (x := 4) rfl g rfl rfl rfl ?_
        refine s_k (-1) rfl rfl ?_
        refine s_cne rfl ⟨by omega, by omega⟩ ⟨by omega, by omega⟩ (fun c3 => ?_) (fun c3 => ?_)
        · refine s_k 0 rfl rfl ?_
          refine am_r rfl rfl (hPP s2 0 hF2 ?_ ⟨by decide, by decide⟩ (fun y => ?_))
          · unfold tNm
            rw [if_neg (show ¬ 0 ≤ (xt s).f by show ¬ 0 ≤ s 2 3; omega), if_neg hNf, if_pos (Or.inr (show 0 ≤ (xt s).u by show 0 ≤ s 2 4; omega)), eD1]
            unfold xt
            rw [e3, e4]
          · have y2 : s2 2 4 < 0 := y.2
            omega
        · refine am_s rfl rfl ?_
          refine am_s rfl rfl ?_
          refine s_pi (x := 4) rfl g rfl rfl rfl rfl ?_
          refine s_k 0 rfl rfl ?_
          refine am_r rfl rfl (hPP _ 0 (txFr_w hF2 (Or.inr (Or.inr rfl))) ?_ ⟨by decide, by decide⟩ (fun y => ?_))
          · unfold tNm
            rw [if_neg (show ¬ 0 ≤ (xt s).f by show ¬ 0 ≤ s 2 3; omega), if_neg hNf, if_neg (show ¬ ((lo ≤ tNv T z (xt s) ∧ tNv T z (xt s) ≤ hi) ∨ 0 ≤ (xt s).u) by show ¬ ((lo ≤ tNv T z (xt s) ∧ tNv T z (xt s) ≤ hi) ∨ 0 ≤ s 2 4); rw [eV]; omega), eD1]
            unfold xt
            rw [am_w_x (by decide), am_w_x (by decide), am_w_eq, e3]
          · have y2 := y.2
            unfold xt at y2
            rw [am_w_eq] at y2
            have : tSk T z (s 2 2) < 0 := y2
            omega
      · refine am_s rfl rfl ?_
        refine am_s rfl rfl ?_
        refine s_jgt rfl rfl ⟨by omega, by omega⟩ ⟨by omega, by omega⟩ (fun c4 => ?_) (fun c4 => ?_)
        · refine am_s rfl rfl ?_
          refine s_gi (x := 4) rfl g rfl rfl rfl ?_
          refine s_k (-1) rfl rfl ?_
          refine s_cne rfl ⟨by omega, by omega⟩ ⟨by omega, by omega⟩ (fun c5 => ?_) (fun c5 => ?_)
          · refine s_k 0 rfl rfl ?_
            refine am_r rfl rfl (hPP s2 0 hF2 ?_ ⟨by decide, by decide⟩ (fun y => ?_))
            · unfold tNm
              rw [if_neg (show ¬ 0 ≤ (xt s).f by show ¬ 0 ≤ s 2 3; omega), if_neg hNf, if_pos (Or.inr (show 0 ≤ (xt s).u by show 0 ≤ s 2 4; omega)), eD1]
              unfold xt
              rw [e3, e4]
            · have y2 : s2 2 4 < 0 := y.2
              omega
          · refine am_s rfl rfl ?_
            refine am_s rfl rfl ?_
            refine s_pi (x := 4) rfl g rfl rfl rfl rfl ?_
            refine s_k 0 rfl rfl ?_
            refine am_r rfl rfl (hPP _ 0 (txFr_w hF2 (Or.inr (Or.inr rfl))) ?_ ⟨by decide, by decide⟩ (fun y => ?_))
            · unfold tNm
              rw [if_neg (show ¬ 0 ≤ (xt s).f by show ¬ 0 ≤ s 2 3; omega), if_neg hNf, if_neg (show ¬ ((lo ≤ tNv T z (xt s) ∧ tNv T z (xt s) ≤ hi) ∨ 0 ≤ (xt s).u) by show ¬ ((lo ≤ tNv T z (xt s) ∧ tNv T z (xt s) ≤ hi) ∨ 0 ≤ s 2 4); rw [eV]; omega), eD1]
              unfold xt
              rw [am_w_x (by decide), am_w_x (by decide), am_w_eq, e3]
            · have y2 := y.2
              unfold xt at y2
              rw [am_w_eq] at y2
              have : tSk T z (s 2 2) < 0 := y2
              omega
        · refine am_s rfl rfl ?_
          refine s_l2i rfl ?_
          have v1 : v < 2147483648 := by omega
          refine am_r rfl rfl (hPP s2 v hF2 ?_ ⟨by omega, by omega⟩ (fun _ => eV.symm))
          unfold tNm
          rw [if_neg (show ¬ 0 ≤ (xt s).f by show ¬ 0 ≤ s 2 3; omega), if_neg hNf, if_pos (Or.inl (by rw [eV]; omega)), eD1]
          unfold xt
          rw [e3, e4]
theorem t_takeNumber {d : Nat} {E : am_Ev} {s : am_S} {lo hi : Int} {PP : Option Value → am_H → Prop} (g : am_Eg E) (gd : am_Ed E) {T : Int → Int} {z : Int} (hx : txH E s T z) (hl : 0 ≤ lo ∧ lo ≤ 100) (hh : 0 ≤ hi ∧ hi ≤ 2147483647) (hPP : ∀ s3 x, txFr s s3 → xt s3 = tNm T z lo hi (xt s) → 0 ≤ x ∧ x ≤ 2147483647 → (txG (xt s3) → x = tNv T z (xt s)) → PP (some (.int (iI x))) (am_hp E s3)) : am_wp (d + 2) 92 0 (lv_args 0 [.ref 2, .long (lI lo), .long (lI hi)]) [] (am_hp E s) PP := by
  have z0 := hx.zl
  have o1 := hx.o.1
  have o2 := hx.o.2.1
  have o3 := hx.o.2.2
  unfold xt at o1 o2 o3
  simp only [txS.p, txS.f, txS.u] at o1 o2 o3
  have ez := hx.ez
  have sg2 := gd.s2
  refine am_s rfl rfl ?_
  refine s_gi (x := 3) rfl g rfl rfl rfl ?_
  refine s_k (-1) rfl rfl ?_
  refine s_ceq rfl ⟨by omega, by omega⟩ ⟨by omega, by omega⟩ (fun c1 => ?_) (fun c1 => ?_)
  · have hf : s 2 3 = -1 := c1
    refine am_s rfl rfl ?_
    refine s_cv [] [] rfl g (Or.inl rfl) rfl rfl (Nat.le_of_ble_eq_true rfl) rfl rfl (t_skip (PP := fun rv h => rv = none ∧ ∃ s1, h = am_hp E s1 ∧ txFr s s1 ∧ xt s1 = ⟨tSk T z (s 2 2), s 2 3, s 2 4⟩) g gd hx (fun s1 a b => ⟨rfl, s1, rfl, a, b⟩)) ?_
    rintro rv h9 ⟨rfl, s1, rfl, hF, e1⟩
    have hx1 := txH_f gd hx hF (by rw [e1]; exact skip_o hx.o)
    have p1 : s1 2 2 = tSk T z (s 2 2) := congrArg txS.p e1
    have f1 : s1 2 3 = s 2 3 := congrArg txS.f e1
    have u1 : s1 2 4 = s 2 4 := congrArg txS.u e1
    have r1 := tSk_r (T := T) (z := z) (p := s 2 2) (by omega)
    have ez1 := hx1.ez
    refine am_s rfl rfl ?_
    refine s_gi (x := 2) rfl g rfl rfl rfl ?_
    refine am_s rfl rfl ?_
    refine s_kl 0 rfl rfl ?_
    refine am_s rfl rfl ?_
    rw [p1]
    refine am_lv [(6, .long (lI 0)), (5, .int (iI (tSk T z (s 2 2)))), (3, .long (lI hi)), (1, .long (lI lo)), (0, .ref 2)] rfl rfl ⟨rfl, rfl, rfl, rfl, rfl, trivial⟩ ?_
    refine s_while (X := Int) (fun v s2 => txFr s s2 ∧ s2 2 3 = s 2 3 ∧ s2 2 4 = s 2 4 ∧ (tSk T z (s 2 2) ≤ s2 2 2 ∧ s2 2 2 ≤ z ∧ s2 2 2 - tSk T z (s 2 2) ≤ 10) ∧ (0 ≤ v ∧ v < (10 ^ (s2 2 2 - tSk T z (s 2 2)).toNat : Nat)) ∧ tDg T z (10 - (s2 2 2 - tSk T z (s 2 2))).toNat (s2 2 2) v = tNd T z (xt s)) (fun v s2 => (z - s2 2 2).toNat) (fun v => [(6, .long (lI v)), (5, .int (iI (tSk T z (s 2 2)))), (3, .long (lI hi)), (1, .long (lI lo)), (0, .ref 2)]) ?_ (x := 0) ⟨hF, f1, u1, by omega, ⟨by omega, by rw [p1, show (tSk T z (s 2 2) - tSk T z (s 2 2)).toNat = 0 by omega]; decide⟩, by rw [p1, show (10 - (tSk T z (s 2 2) - tSk T z (s 2 2))).toNat = 10 by omega]; rfl⟩
    · rintro v s2 ⟨hF2, e3, e4, hr, hv, hd2⟩ kk
      try simp only at kk ⊢
      have hx2 := txH_f gd hx hF2 (show txO z (xt s2) from ⟨by show 0 ≤ s2 2 2 ∧ s2 2 2 ≤ z; omega, by show (-1 ≤ s2 2 3 ∧ s2 2 3 ≤ z); omega, by show (-1 ≤ s2 2 4 ∧ s2 2 4 ≤ z); omega⟩)
      have pw : (10 ^ (s2 2 2 - tSk T z (s 2 2)).toNat : Nat) ≤ 10 ^ 10 := Nat.pow_le_pow_right (by decide) (by omega)
      have pw2 : (10 ^ 10 : Nat) = 10000000000 := by decide
      generalize hw : (10 ^ (s2 2 2 - tSk T z (s 2 2)).toNat : Nat) = w0 at hv pw
      refine am_s rfl rfl ?_
      refine s_cv [] [] rfl g (Or.inl rfl) rfl rfl (Nat.le_of_ble_eq_true rfl) rfl rfl (t_atDigit (PP := fun rv h => h = am_hp E s2 ∧ (((s2 2 2 < z ∧ 48 ≤ T (s2 2 2) ∧ T (s2 2 2) ≤ 57) ∧ rv = some (.int (iI 1))) ∨ (¬ (s2 2 2 < z ∧ 48 ≤ T (s2 2 2) ∧ T (s2 2 2) ≤ 57) ∧ rv = some (.int (iI 0))))) g gd hx2 (fun a => ⟨rfl, Or.inl ⟨a, rfl⟩⟩) (fun a => ⟨rfl, Or.inr ⟨a, rfl⟩⟩)) ?_
      rintro rv h9 ⟨rfl, hd⟩
      rcases hd with ⟨hd, rfl⟩ | ⟨hd, rfl⟩
      · refine s_zeq rfl ⟨by omega, by omega⟩ (fun c1 => absurd c1 (by omega)) (fun c1 => ?_)
        refine am_s rfl rfl ?_
        refine s_gi (x := 2) rfl g rfl rfl rfl ?_
        refine am_s rfl rfl ?_
        refine s_isub rfl ?_
        refine s_k 10 rfl rfl ?_
        refine s_cge rfl ⟨by omega, by omega⟩ ⟨by omega, by omega⟩ (fun c2 => ?_) (fun c2 => ?_)
        · refine am_lv [(6, _), (5, _), (3, _), (1, _), (0, _)] rfl rfl ⟨rfl, rfl, rfl, rfl, rfl, trivial⟩ ?_
          exact t_num72 (d := d) g gd hx hl hh hf hF2 e3 e4 (by rw [← hd2, show (10 - (s2 2 2 - tSk T z (s 2 2))).toNat = 0 by omega]; rfl) (by omega) hPP
        · refine am_s rfl rfl ?_
          refine s_kl 10 rfl rfl ?_
          refine s_lmul rfl ?_
          refine am_s rfl rfl ?_
          refine s_cv [] [_] rfl g (Or.inl rfl) rfl rfl (Nat.le_of_ble_eq_true rfl) rfl rfl (t_here (PP := fun rv h => rv = some (.int (iI (if s2 2 2 < z then T (s2 2 2) else -1))) ∧ h = am_hp E s2) g gd hx2 ⟨rfl, rfl⟩) ?_
          rintro rv h9 ⟨rfl, rfl⟩
          rw [if_pos hd.1]
          refine s_k 48 rfl rfl ?_
          refine s_isub rfl ?_
          refine s_i2l rfl ⟨by omega, by omega⟩ ?_
          refine s_ladd rfl ?_
          refine am_s rfl rfl ?_
          refine am_s rfl rfl ?_
          refine am_s rfl rfl ?_
          refine s_gi (x := 2) rfl g rfl rfl rfl ?_
          refine s_k 1 rfl rfl ?_
          refine s_iadd rfl ?_
          refine s_pi (x := 2) rfl g rfl rfl rfl rfl ?_
          refine am_s rfl rfl ?_
          refine am_lv [(6, _), (5, _), (3, _), (1, _), (0, _)] rfl rfl ⟨rfl, rfl, rfl, rfl, rfl, trivial⟩ ?_
          refine kk _ _ ⟨txFr_w hF2 (Or.inl rfl), by rw [am_w_x (by decide)]; exact e3, by rw [am_w_x (by decide)]; exact e4, by rw [am_w_eq]; omega, ⟨by omega, ?_⟩, ?_⟩ (by rw [am_w_eq]; omega)
          · rw [am_w_eq, show (s2 2 2 + 1 - tSk T z (s 2 2)).toNat = (s2 2 2 - tSk T z (s 2 2)).toNat + 1 by omega, Nat.pow_succ, hw]
            omega
          · rw [am_w_eq, ← hd2]
            obtain ⟨k, hk⟩ : ∃ k, (10 - (s2 2 2 - tSk T z (s 2 2))).toNat = k + 1 := ⟨(10 - (s2 2 2 - tSk T z (s 2 2))).toNat - 1, by omega⟩
            rw [show (10 - (s2 2 2 + 1 - tSk T z (s 2 2))).toNat = k by omega, hk]
            conv => rhs; unfold tDg
            rw [if_pos hd, show v * 10 + (T (s2 2 2) - 48) = 10 * v + (T (s2 2 2) - 48) by omega]
      · refine s_zeq rfl ⟨by omega, by omega⟩ (fun c1 => ?_) (fun c1 => absurd c1 (by omega))
        refine am_lv [(6, _), (5, _), (3, _), (1, _), (0, _)] rfl rfl ⟨rfl, rfl, rfl, rfl, rfl, trivial⟩ ?_
        exact t_num72 (d := d) g gd hx hl hh hf hF2 e3 e4 (by
            rw [← hd2]
            cases (10 - (s2 2 2 - tSk T z (s 2 2))).toNat with
            | zero => rfl
            | succ k => unfold tDg; rw [if_neg hd]) (by omega) hPP
  · refine s_k 0 rfl rfl ?_
    exact am_r rfl rfl (hPP s 0 (txFr_r s) (tNm_s (show 0 ≤ (xt s).f by show 0 ≤ s 2 3; omega)).symm ⟨by decide, by decide⟩ (fun y => absurd y.1 (by show ¬ s 2 3 < 0; omega)))
