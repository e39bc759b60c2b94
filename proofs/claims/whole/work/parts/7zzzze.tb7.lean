/-! the class takes rows -/
theorem tFk_r {f : Int} (h : tFk f) : 0 ≤ f ∧ f ≤ 127 := by unfold tFk at h; omega
theorem tW_le {fm n : Int} {r : Nat} (hn : 1 ≤ n ∧ n ≤ 20) : tW fm n r ≤ 20 := by
  unfold tW
  split
  · omega
  · split <;> omega
theorem tR_le {fm n : Int} (hn : 1 ≤ n ∧ n ≤ 20) : tR fm n ≤ 20 := by
  unfold tR
  split <;> omega
theorem t_widthOf {d : Nat} {E : am_Ev} {s : am_S} {r : Nat} {PP : Option Value → am_H → Prop} (g : am_Eg E) (hf : tFk (s 2 5)) (hn : 1 ≤ s 2 6 ∧ s 2 6 ≤ 20) (hr : r < tR (s 2 5) (s 2 6)) (hPP : PP (some (.int (iI ((tW (s 2 5) (s 2 6) r : Nat) : Int)))) (am_hp E s)) : am_wp d 96 0 (lv_args 0 [.ref 2, .int (iI (r : Int))]) [] (am_hp E s) PP := by
  have hf2 := tFk_r hf
  refine am_s rfl rfl ?_
  refine s_gi (x := 5) rfl g rfl rfl rfl ?_
  refine s_k 61 rfl rfl ?_
  refine s_cne rfl ⟨by omega, by omega⟩ ⟨by omega, by omega⟩ (fun c1 => ?_) (fun c1 => ?_)
  · refine am_s rfl rfl ?_
    refine s_gi (x := 5) rfl g rfl rfl rfl ?_
    refine s_k 94 rfl rfl ?_
    refine s_cne rfl ⟨by omega, by omega⟩ ⟨by omega, by omega⟩ (fun c2 => ?_) (fun c2 => ?_)
    · refine s_k 2 rfl rfl ?_
      rw [show tW (s 2 5) (s 2 6) r = 2 by unfold tW; rw [if_neg (by omega), if_neg (by omega)]] at hPP
      exact am_r rfl rfl hPP
    · refine am_s rfl rfl ?_
      refine s_gi (x := 6) rfl g rfl rfl rfl ?_
      refine s_k 1 rfl rfl ?_
      refine s_isub rfl ?_
      refine am_s rfl rfl ?_
      refine s_isub rfl ?_
      refine am_s rfl rfl ?_
      have eR : tR (s 2 5) (s 2 6) = (s 2 6 - 1).toNat := by unfold tR; rw [if_pos (by omega)]
      have eW : tW (s 2 5) (s 2 6) r = (s 2 6 - 1 - (r : Int)).toNat := by unfold tW; rw [if_neg (by omega), if_pos (by omega)]
      rw [eW, show (((s 2 6 - 1 - (r : Int)).toNat : Nat) : Int) = s 2 6 - 1 - (r : Int) by omega] at hPP
      exact am_r rfl rfl hPP
  · refine am_s rfl rfl ?_
    refine s_gi (x := 6) rfl g rfl rfl rfl ?_
    have eW : tW (s 2 5) (s 2 6) r = (s 2 6).toNat := by unfold tW; rw [if_pos (by omega)]
    rw [eW, show (((s 2 6).toNat : Nat) : Int) = s 2 6 by omega] at hPP
    exact am_r rfl rfl hPP
theorem t_isMatrix {d : Nat} {E : am_Ev} {s : am_S} {PP : Option Value → am_H → Prop} (g : am_Eg E) (hf : tFk (s 2 5)) (h1 : tHi (s 2 5) = 2147483647 → PP (some (.int (iI 1))) (am_hp E s)) (h0 : tHi (s 2 5) = 1000000 → PP (some (.int (iI 0))) (am_hp E s)) : am_wp d 95 0 (lv_args 0 [.ref 2]) [] (am_hp E s) PP := by
  have hf2 := tFk_r hf
  refine am_s rfl rfl ?_
  refine s_gi (x := 5) rfl g rfl rfl rfl ?_
  refine s_k 61 rfl rfl ?_
  refine s_ceq rfl ⟨by omega, by omega⟩ ⟨by omega, by omega⟩ (fun c1 => ?_) (fun c1 => ?_)
  · refine s_k 1 rfl rfl ?_
    refine am_s rfl rfl ?_
    exact am_r rfl rfl (h1 (by unfold tHi; rw [if_pos (by omega)]))
  · refine am_s rfl rfl ?_
    refine s_gi (x := 5) rfl g rfl rfl rfl ?_
    refine s_k 94 rfl rfl ?_
    refine s_cne rfl ⟨by omega, by omega⟩ ⟨by omega, by omega⟩ (fun c2 => ?_) (fun c2 => ?_)
    · refine s_k 0 rfl rfl ?_
      exact am_r rfl rfl (h0 (by unfold tHi; rw [if_neg (by omega)]))
    · refine s_k 1 rfl rfl ?_
      refine am_s rfl rfl ?_
      exact am_r rfl rfl (h1 (by unfold tHi; rw [if_pos (by omega)]))
theorem t_takeEnd {d : Nat} {E : am_Ev} {s : am_S} {PP : Option Value → am_H → Prop} (g : am_Eg E) (gd : am_Ed E) {T : Int → Int} {z : Int} (hx : txH E s T z) (hPP : ∀ s1, txFr s s1 → xt s1 = tEn T z (xt s) → PP none (am_hp E s1)) : am_wp (d + 1) 94 0 (lv_args 0 [.ref 2]) [] (am_hp E s) PP := by
  have z0 := hx.zl
  have o1 := hx.o.1
  have o2 := hx.o.2.1
  have o3 := hx.o.2.2
  unfold xt at o1 o2 o3
  simp only [txS.p, txS.f, txS.u] at o1 o2 o3
  have ez := hx.ez
  have sg2 := gd.s2
  refine am_s rfl rfl ?_
  refine s_gi (x := 3) rfl g rfl rfl rfl ?_
  refine s_k (-1) rfl rfl ?_
  refine s_cne rfl ⟨by omega, by omega⟩ ⟨by omega, by omega⟩ (fun c1 => ?_) (fun c1 => ?_)
  · exact am_r rfl rfl (hPP s (txFr_r s) (if_pos (show 0 ≤ (xt s).f by show 0 ≤ s 2 3; omega)).symm)
  · refine am_s rfl rfl ?_
    refine s_cv [] [] rfl g (Or.inl rfl) rfl rfl (Nat.le_of_ble_eq_true rfl) rfl rfl (t_skip (PP := fun rv h => rv = none ∧ ∃ s1, h = am_hp E s1 ∧ txFr s s1 ∧ xt s1 = ⟨tSk T z (s 2 2), s 2 3, s 2 4⟩) g gd hx (fun s1 a b => ⟨rfl, s1, rfl, a, b⟩)) ?_
    rintro rv h9 ⟨rfl, s1, rfl, hF, e1⟩
    have hx1 := txH_f gd hx hF (by rw [e1]; exact skip_o hx.o)
    have p1 : s1 2 2 = tSk T z (s 2 2) := congrArg txS.p e1
    have f1 : s1 2 3 = s 2 3 := congrArg txS.f e1
    have u1 : s1 2 4 = s 2 4 := congrArg txS.u e1
    have r1 := tSk_r (T := T) (z := z) (p := s 2 2) (by omega)
    have ez1 := hx1.ez
    refine am_s rfl rfl ?_
    refine am_s rfl rfl ?_
    refine s_gi (x := 2) rfl g rfl rfl rfl ?_
    refine am_s rfl rfl ?_
    refine s_gi (x := 1) rfl g rfl rfl rfl ?_
    refine s_cge rfl ⟨by omega, by omega⟩ ⟨by omega, by omega⟩ (fun c2 => ?_) (fun c2 => ?_)
    · refine s_k (-1) rfl rfl ?_
      refine s_pi (x := 3) rfl g rfl rfl rfl rfl ?_
      refine am_r rfl rfl (hPP _ (txFr_w hF (Or.inr (Or.inl rfl))) ?_)
      unfold tEn
      rw [if_neg (show ¬ 0 ≤ (xt s).f by show ¬ 0 ≤ s 2 3; omega), if_neg (show ¬ tSk T z (xt s).p < z by show ¬ tSk T z (s 2 2) < z; omega)]
      unfold xt
      rw [am_w_x (by decide), am_w_eq, am_w_x (by decide), p1, u1]
      show ((_, (-1 : Int), _) : txS) = ((_, s 2 3, _) : txS)
      rw [show s 2 3 = -1 by omega]
    · refine am_s rfl rfl ?_
      refine s_gi (x := 2) rfl g rfl rfl rfl ?_
      refine am_s rfl rfl ?_
      refine s_pi (x := 3) rfl g rfl rfl rfl rfl ?_
      refine am_r rfl rfl (hPP _ (txFr_w hF (Or.inr (Or.inl rfl))) ?_)
      unfold tEn
      rw [if_neg (show ¬ 0 ≤ (xt s).f by show ¬ 0 ≤ s 2 3; omega), if_pos (show tSk T z (xt s).p < z by show tSk T z (s 2 2) < z; omega)]
      unfold xt
      rw [am_w_x (by decide), am_w_eq, am_w_x (by decide), p1, u1]
