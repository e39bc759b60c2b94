/-! the matcher: its state and the nodes; ways up -/
theorem mrow_in {s : am_S} {a : Nat} {m v : Int} (h0 : 0 ≤ v) (h1 : v < m) : mrow s a m v = s (a + 1 + v.toNat) := if_pos ⟨h0, h1⟩
theorem mrow_c {s s' : am_S} {a : Nat} {m : Int} (h : ∀ v, 0 ≤ v → v < m → s' (a + 1 + v.toNat) = s (a + 1 + v.toNat)) : mrow s' a m = mrow s a m := by
  funext v
  unfold mrow
  split
  · rename_i c; exact h v c.1 c.2
  · rfl
/-- the places that are no prices, marks, mates or bases -/
def mFx (a : Nat) : Prop := (64 ≤ a ∧ a ≤ 83) ∨ (86 ≤ a ∧ a ≤ 87) ∨ a = 92 ∨ (95 ≤ a ∧ a ≤ 104) ∨ (106 ≤ a ∧ a ≤ 115) ∨ (117 ≤ a ∧ a ≤ 126)
theorem mS_ext {s s' : am_S} (h0 : s' 62 0 = s 62 0) (hF : ∀ a, mFx a → s' a = s a) : mS s' = (⟨(mS s).n, (mS s).C, s' 84, s' 85, (mS s).top, s' 88, s' 89, s' 90, s' 91, (mS s).H, (mS s).rs, fun b => s' 93 (b - 20), (mS s).rg, (mS s).lf, (mS s).li⟩ : bS) := by
  have e1 : mrow s' 63 20 = mrow s 63 20 := mrow_c (fun v v0 v1 => hF _ (Or.inl ⟨by omega, by omega⟩))
  have e2 : mrow s' 94 10 = mrow s 94 10 := mrow_c (fun v v0 v1 => hF _ (Or.inr (Or.inr (Or.inr (Or.inl ⟨by omega, by omega⟩)))))
  have e3 : mrow s' 105 10 = mrow s 105 10 := mrow_c (fun v v0 v1 => hF _ (Or.inr (Or.inr (Or.inr (Or.inr (Or.inl ⟨by omega, by omega⟩))))))
  have e4 : mrow s' 116 10 = mrow s 116 10 := mrow_c (fun v v0 v1 => hF _ (Or.inr (Or.inr (Or.inr (Or.inr (Or.inr ⟨by omega, by omega⟩))))))
  have e5 : s' 86 = s 86 := hF _ (Or.inr (Or.inl ⟨by omega, by omega⟩))
  have e6 : s' 87 = s 87 := hF _ (Or.inr (Or.inl ⟨by omega, by omega⟩))
  have e7 : s' 92 = s 92 := hF _ (Or.inr (Or.inr (Or.inl rfl)))
  have e8 : mH s' = mH s := by
    funext x v
    unfold mH
    rw [e6]
  unfold mS
  rw [h0, e1, e2, e3, e4, e5, e7, e8]
/-- what stands while the matcher works -/
abbrev mB (s : am_S) (rk : Int → Int) : Prop := Nonempty (PProd (bStr (mS s)) (PProd (bNd (mS s)) (PProd (bMat (mS s)) (PProd (bTree (mS s) rk) (PProd (∀ x, 0 ≤ x → x < 30 → 0 ≤ s 87 x ∧ s 87 x < 1048576) (∀ x, 0 ≤ x → x < 30 → 0 ≤ s 89 x ∧ s 89 x ≤ 2))))))
theorem mB.st {s : am_S} {rk : Int → Int} (h_ : mB s rk) : bStr (mS s) := h_.elim (fun x_ => x_.1)
theorem mB.nd {s : am_S} {rk : Int → Int} (h_ : mB s rk) : bNd (mS s) := h_.elim (fun x_ => x_.2.1)
theorem mB.ma {s : am_S} {rk : Int → Int} (h_ : mB s rk) : bMat (mS s) := h_.elim (fun x_ => x_.2.2.1)
theorem mB.tr {s : am_S} {rk : Int → Int} (h_ : mB s rk) : bTree (mS s) rk := h_.elim (fun x_ => x_.2.2.2.1)
theorem mB.w1 {s : am_S} {rk : Int → Int} (h_ : mB s rk) : ∀ x, 0 ≤ x → x < 30 → 0 ≤ s 87 x ∧ s 87 x < 1048576 := h_.elim (fun x_ => x_.2.2.2.2.1)
theorem mB.w2 {s : am_S} {rk : Int → Int} (h_ : mB s rk) : ∀ x, 0 ≤ x → x < 30 → 0 ≤ s 89 x ∧ s 89 x ≤ 2 := h_.elim (fun x_ => x_.2.2.2.2.2)
theorem mB_mate {s : am_S} (hs : bStr (mS s)) (hm : bMat (mS s)) {v : Int} (v0 : 0 ≤ v) (v1 : v < s 62 0) : -1 ≤ s 85 v ∧ s 85 v < 20 ∧ s 85 v < s 62 0 := by
  have n0 := hs.n0
  have n1 : (mS s).n = s 62 0 := rfl
  rcases hm v v0 v1 with z | ⟨a1, a2, -⟩
  · have z : s 85 v = -1 := z
    omega
  · have a1 : 0 ≤ s 85 v := a1
    have a2 : s 85 v < s 62 0 := a2
    omega
theorem mB_base {s : am_S} (hs : bStr (mS s)) (hn : bNd (mS s)) (hw : ∀ x, 0 ≤ x → x < 30 → 0 ≤ s 87 x ∧ s 87 x < 1048576) {x : Int} (x0 : 0 ≤ x) (x1 : x < 30) (hx : s 87 x ≠ 0) : (0 ≤ s 88 x ∧ s 88 x < 20) ∧ (0 ≤ s 86 (s 88 x) ∧ s 86 (s 88 x) < 30) ∧ s 88 x < s 62 0 := by
  have hu := (mU_iff ⟨x0, x1⟩ (hw x x0 x1)).mpr hx
  have z := b_base hs x hu (bNd_ok hn x)
  have r := hs.hr _ _ z
  have t := b_top0 hs r.2.2.1 r.2.2.2
  have n0 := hs.n0
  have r3 : 0 ≤ s 88 x := r.2.2.1
  have r4 : s 88 x < s 62 0 := r.2.2.2
  have n1 : (mS s).n = s 62 0 := rfl
  exact ⟨⟨r3, by omega⟩, t, r4⟩
theorem mB_out {s : am_S} {rk : Int → Int} (h : mB s rk) {x : Int} (hx : bOut (mS s) x) : (0 ≤ x ∧ x < 30) ∧ (0 ≤ s 88 x ∧ s 88 x < 20) ∧ (-1 ≤ s 85 (s 88 x) ∧ s 85 (s 88 x) < 20) ∧ (s 85 (s 88 x) ≠ -1 → (0 ≤ s 86 (s 85 (s 88 x)) ∧ s 86 (s 85 (s 88 x)) < 30) ∧ (0 ≤ s 90 (s 86 (s 85 (s 88 x))) ∧ s 90 (s 86 (s 85 (s 88 x))) < 20) ∧ (0 ≤ s 91 (s 86 (s 85 (s 88 x))) ∧ s 91 (s 86 (s 85 (s 88 x))) < 20)) := by
  have n0 := h.st.n0
  have n1 : (mS s).n = s 62 0 := rfl
  have x0 := bOut_0 h.st hx
  obtain ⟨v, v0, v1, e, hm⟩ := hx
  have z := b_bt h.st h.nd v0 v1
  rw [e] at z
  have z1 : 0 ≤ s 88 x := z.2.1
  have z2 : s 88 x < s 62 0 := z.2.2.1
  have m := mB_mate h.st h.ma z1 z2
  refine ⟨x0, ⟨z1, by omega⟩, ⟨m.1, m.2.1⟩, fun ne => ?_⟩
  obtain ⟨u, u0, u1, u2, -, -, -, -, u7, u8, u9, -⟩ := b_up h.st h.nd h.ma h.tr ⟨v, v0, v1, e, hm⟩ ne
  have u2 : s 85 (s 88 x) = u := u2
  have t := b_top0 h.st u0 u1
  have r := h.st.hr _ _ u7
  have a1 : 0 ≤ s 90 (s 86 u) := u8
  have a2 : s 90 (s 86 u) < s 62 0 := u9
  have a3 : 0 ≤ s 91 (s 86 u) := r.2.2.1
  have a4 : s 91 (s 86 u) < s 62 0 := r.2.2.2
  have t1 : 0 ≤ s 86 u ∧ s 86 u < 30 := t
  rw [u2]
  exact ⟨t1, ⟨a1, by omega⟩, a3, by omega⟩
theorem t_ab {d : Nat} {E : am_Ev} {s : am_S} {rk : Int → Int} {x : Int} (g : am_Eg E) (h : mB s rk) (hx : bOut (mS s) x) : am_wp d 40 0 (lv_args 0 [.ref 62, .int (iI x)]) [] (am_hp E s) (fun rv h => rv = some (.int (iI (bAb (mS s) x))) ∧ h = am_hp E s) := by
  obtain ⟨a1, a2, a3, a4⟩ := mB_out h hx
  exact t_above g a1 a2 a3 (fun z => ⟨(a4 z).1, (a4 z).2.1⟩)
theorem t_annex {d : Nat} {E : am_Ev} {s : am_S} {a b : Int} (g : am_Eg E) (hb : 0 ≤ b ∧ b < 20) (h1 : 0 ≤ s 86 b ∧ s 86 b < 30) (h2 : 0 ≤ s 88 (s 86 b) ∧ s 88 (s 86 b) < 20) (h3 : 0 ≤ s 85 (s 88 (s 86 b)) ∧ s 85 (s 88 (s 86 b)) < 20) (h4 : 0 ≤ s 86 (s 85 (s 88 (s 86 b))) ∧ s 86 (s 85 (s 88 (s 86 b))) < 30) : am_wp (d + 1) 38 0 (lv_args 0 [.ref 62, .int (iI a), .int (iI b)]) [] (am_hp E s) (fun rv h => rv = none ∧ h = am_hp E (am_w (am_w (am_w (am_w s 89 (s 86 b) 2) 90 (s 86 b) a) 91 (s 86 b) b) 89 (s 86 (s 85 (s 88 (s 86 b)))) 1)) := by
  refine am_s rfl rfl ?_
  refine s_gr rfl g rfl rfl ?_
  refine am_s rfl rfl ?_
  refine s_ia rfl g rfl ⟨by omega, by omega⟩ (by decide) ?_
  refine am_s rfl rfl ?_
  refine am_s rfl rfl ?_
  refine am_s rfl rfl ?_
  refine am_s rfl rfl ?_
  refine am_s rfl rfl ?_
  refine s_cv [_, _, _] [] rfl g (Or.inl rfl) rfl rfl (Nat.le_of_ble_eq_true rfl) rfl rfl (t_annexIn g ⟨by omega, by omega⟩) ?_
  rintro rv h1 ⟨rfl, rfl⟩
  generalize hW : am_w (am_w (am_w s 89 (s 86 b) 2) 90 (s 86 b) a) 91 (s 86 b) b = W
  have e85 : W 85 = s 85 := by rw [← hW, am_w_row (by decide), am_w_row (by decide), am_w_row (by decide)]
  have e86 : W 86 = s 86 := by rw [← hW, am_w_row (by decide), am_w_row (by decide), am_w_row (by decide)]
  have e88 : W 88 = s 88 := by rw [← hW, am_w_row (by decide), am_w_row (by decide), am_w_row (by decide)]
  have q1 : W 88 (s 86 b) = s 88 (s 86 b) := by rw [e88]
  have q2 : W 85 (W 88 (s 86 b)) = s 85 (s 88 (s 86 b)) := by rw [e88, e85]
  have q3 : W 86 (W 85 (W 88 (s 86 b))) = s 86 (s 85 (s 88 (s 86 b))) := by rw [e88, e85, e86]
  refine am_s rfl rfl ?_
  refine s_gr rfl g rfl rfl ?_
  refine am_s rfl rfl ?_
  refine s_gr rfl g rfl rfl ?_
  refine am_s rfl rfl ?_
  refine s_gr rfl g rfl rfl ?_
  refine am_s rfl rfl ?_
  refine s_gr rfl g rfl rfl ?_
  refine am_s rfl rfl ?_
  refine s_ia rfl g rfl ⟨by omega, by omega⟩ (by decide) ?_
  refine s_ia rfl g rfl ⟨by omega, by omega⟩ (by decide) ?_
  refine s_ia rfl g rfl ⟨by omega, by omega⟩ (by decide) ?_
  refine s_k 1 rfl rfl ?_
  refine s_is rfl g rfl ⟨by omega, by omega⟩ (by decide) ?_
  exact am_r rfl rfl ⟨rfl, by rw [q3]⟩
