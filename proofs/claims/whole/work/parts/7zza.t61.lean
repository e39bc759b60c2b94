/-! the matcher: a ring becomes a blossom -/
theorem mS_brr {s s' : am_S} {r : Int} (hr : 0 ≤ r ∧ r < 10) (hF : am_Fr [92, 93, 94 + 1 + r.toNat, 105 + 1 + r.toNat, 116 + 1 + r.toNat] s s') : mS s' = brr (mS s) (fun b => s' 92 (b - 20)) (fun b => s' 93 (b - 20)) (fun b => mrow s' 94 10 (b - 20)) (fun b => mrow s' 105 10 (b - 20)) (fun b => mrow s' 116 10 (b - 20)) := by
  have e : ∀ a, a ≠ 92 → a ≠ 93 → a ≠ 94 + 1 + r.toNat → a ≠ 105 + 1 + r.toNat → a ≠ 116 + 1 + r.toNat → s' a = s a := fun a h1 h2 h3 h4 h5 => hF a (fun z => by simp at z; omega)
  have e1 : mrow s' 63 20 = mrow s 63 20 := mrow_c (fun v v0 v1 => e _ (by omega) (by omega) (by omega) (by omega) (by omega))
  have e87 : s' 87 = s 87 := e 87 (by omega) (by omega) (by omega) (by omega) (by omega)
  have e8 : mH s' = mH s := by
    funext x v
    unfold mH
    rw [e87]
  unfold mS brr
  dsimp only [bS.n, bS.C, bS.p, bS.mate, bS.top, bS.base, bS.mr, bS.fr, bS.io, bS.H, bS.rs, bS.rb, bS.rg, bS.lf, bS.li]
  rw [e 62 (by omega) (by omega) (by omega) (by omega) (by omega), e 84 (by omega) (by omega) (by omega) (by omega) (by omega), e 85 (by omega) (by omega) (by omega) (by omega) (by omega), e 86 (by omega) (by omega) (by omega) (by omega) (by omega), e 88 (by omega) (by omega) (by omega) (by omega) (by omega), e 89 (by omega) (by omega) (by omega) (by omega) (by omega), e 90 (by omega) (by omega) (by omega) (by omega) (by omega), e 91 (by omega) (by omega) (by omega) (by omega) (by omega), e1, e8]
theorem mB_un {s s' : am_S} {rk : Int → Int} {r : Int} (h : mB s rk) (hr : 0 ≤ r ∧ r < 10) (hu : s 87 (r + 20) = 0) (hF : am_Fr [92, 93, 94 + 1 + r.toNat, 105 + 1 + r.toNat, 116 + 1 + r.toNat] s s') (h92 : ∀ y, y ≠ r → s' 92 y = s 92 y) (h93 : ∀ y, y ≠ r → s' 93 y = s 93 y) : mB s' rk ∧ (∀ x k, bAbn (mS s') x k = bAbn (mS s) x k) ∧ ∀ x, bOut (mS s') x ↔ bOut (mS s) x := by
  have nu : ¬ bU (mS s) (r + 20) := fun z => (mU_iff ⟨by omega, by omega⟩ (h.w1 _ (by omega) (by omega))).mp z hu
  have E := mS_brr hr hF
  have row : ∀ (a : Nat), (a = 94 ∨ a = 105 ∨ a = 116) → ∀ y, y ≠ r + 20 → mrow s' a 10 (y - 20) = mrow s a 10 (y - 20) := fun a ha y hy => by
    unfold mrow
    split
    · rename_i c
      exact hF _ (fun z => by simp at z; omega)
    · rfl
  have a1 := brr_str (a := fun b => s' 92 (b - 20)) (b := fun b => s' 93 (b - 20)) (c := fun b => mrow s' 94 10 (b - 20)) (d := fun b => mrow s' 105 10 (b - 20)) (e := fun b => mrow s' 116 10 (b - 20)) h.st nu (fun y hy => h92 _ (by omega)) (row 94 (Or.inl rfl)) (row 105 (Or.inr (Or.inl rfl))) (row 116 (Or.inr (Or.inr rfl)))
  have a2 := brr_nd (a := fun b => s' 92 (b - 20)) (b := fun b => s' 93 (b - 20)) (c := fun b => mrow s' 94 10 (b - 20)) (d := fun b => mrow s' 105 10 (b - 20)) (e := fun b => mrow s' 116 10 (b - 20)) h.nd nu (fun y hy => h92 _ (by omega)) (fun y hy => h93 _ (by omega)) (row 94 (Or.inl rfl)) (row 105 (Or.inr (Or.inl rfl))) (row 116 (Or.inr (Or.inr rfl)))
  rw [← E] at a1 a2
  have e87 : s' 87 = s 87 := hF 87 (fun z => by simp at z; omega)
  have e89 : s' 89 = s 89 := hF 89 (fun z => by simp at z; omega)
  refine ⟨⟨a1, a2, by rw [E]; exact h.ma, by rw [E]; exact ⟨h.tr.out, h.tr.inn, h.tr.idl⟩, by rw [e87]; exact h.w1, by rw [e89]; exact h.w2⟩, fun x k => ?_, fun x => ?_⟩
  · exact bAbn_c (by rw [E]; rfl) (by rw [E]; rfl) (by rw [E]; rfl) (by rw [E]; rfl) x k
  · rw [E]; exact Iff.rfl
theorem bor_20 {a b : Int} (ha : 0 ≤ a ∧ a < 1048576) (hb : 0 ≤ b ∧ b < 1048576) : 0 ≤ bor a b ∧ bor a b < 1048576 := by
  unfold bor
  have := Nat.or_lt_two_pow (x := a.toNat) (y := b.toNat) (n := 20) (by omega) (by omega)
  omega
abbrev mEn (s s' : am_S) (x m mt : Int) : Prop := Nonempty (PProd (am_Fr [84, 86, 87, 88, 89, 92, 93, 94 + 1 + (x - 20).toNat, 105 + 1 + (x - 20).toNat, 116 + 1 + (x - 20).toNat] s s') (PProd (∀ y, s' 84 y = if y = x then 0 else s 84 y) (PProd (∀ y, s' 89 y = if y = x then 1 else s 89 y) (PProd (∀ y, s' 88 y = if y = x then s 88 mt else s 88 y) (PProd (∀ y, s' 92 y = if y = x - 20 then m else s 92 y) (PProd (∀ y, s' 93 y = if y = x - 20 then 0 else s 93 y) (PProd (∀ y, y ≠ x → s' 87 y = s 87 y) (PProd (0 ≤ s' 87 x ∧ s' 87 x < 1048576) (PProd (∀ v, 0 ≤ v → v < 20 → (bt (s' 87 x) v = 1 ↔ ∃ i, 0 ≤ i ∧ i < m ∧ bt (s 87 (s' (94 + 1 + (x - 20).toNat) i)) v = 1)) (∀ v, s' 86 v = if 0 ≤ v ∧ v < s 62 0 ∧ bt (s' 87 x) v = 1 then x else s 86 v))))))))))
theorem mEn.fr {s s' : am_S} {x m mt : Int} (h_ : mEn s s' x m mt) : am_Fr [84, 86, 87, 88, 89, 92, 93, 94 + 1 + (x - 20).toNat, 105 + 1 + (x - 20).toNat, 116 + 1 + (x - 20).toNat] s s' := h_.elim (fun x_ => x_.1)
theorem mEn.p {s s' : am_S} {x m mt : Int} (h_ : mEn s s' x m mt) : ∀ y, s' 84 y = if y = x then 0 else s 84 y := h_.elim (fun x_ => x_.2.1)
theorem mEn.k {s s' : am_S} {x m mt : Int} (h_ : mEn s s' x m mt) : ∀ y, s' 89 y = if y = x then 1 else s 89 y := h_.elim (fun x_ => x_.2.2.1)
theorem mEn.b {s s' : am_S} {x m mt : Int} (h_ : mEn s s' x m mt) : ∀ y, s' 88 y = if y = x then s 88 mt else s 88 y := h_.elim (fun x_ => x_.2.2.2.1)
theorem mEn.z {s s' : am_S} {x m mt : Int} (h_ : mEn s s' x m mt) : ∀ y, s' 92 y = if y = x - 20 then m else s 92 y := h_.elim (fun x_ => x_.2.2.2.2.1)
theorem mEn.zb {s s' : am_S} {x m mt : Int} (h_ : mEn s s' x m mt) : ∀ y, s' 93 y = if y = x - 20 then 0 else s 93 y := h_.elim (fun x_ => x_.2.2.2.2.2.1)
theorem mEn.w {s s' : am_S} {x m mt : Int} (h_ : mEn s s' x m mt) : ∀ y, y ≠ x → s' 87 y = s 87 y := h_.elim (fun x_ => x_.2.2.2.2.2.2.1)
theorem mEn.wr {s s' : am_S} {x m mt : Int} (h_ : mEn s s' x m mt) : 0 ≤ s' 87 x ∧ s' 87 x < 1048576 := h_.elim (fun x_ => x_.2.2.2.2.2.2.2.1)
theorem mEn.wx {s s' : am_S} {x m mt : Int} (h_ : mEn s s' x m mt) : ∀ v, 0 ≤ v → v < 20 → (bt (s' 87 x) v = 1 ↔ ∃ i, 0 ≤ i ∧ i < m ∧ bt (s 87 (s' (94 + 1 + (x - 20).toNat) i)) v = 1) := h_.elim (fun x_ => x_.2.2.2.2.2.2.2.2.1)
theorem mEn.t {s s' : am_S} {x m mt : Int} (h_ : mEn s s' x m mt) : ∀ v, s' 86 v = if 0 ≤ v ∧ v < s 62 0 ∧ bt (s' 87 x) v = 1 then x else s 86 v := h_.elim (fun x_ => x_.2.2.2.2.2.2.2.2.2)
set_option maxHeartbeats 8000000 in
theorem t_enclose {d : Nat} {E : am_Ev} {s : am_S} {rk : Int → Int} {a b : Int} {kd ku : Nat} {PP : Option Value → am_H → Prop} (g : am_Eg E) (h : mB s rk) (hC : bSym (mS s)) (hy : ∃ y, 20 ≤ y ∧ y < 30 ∧ s 87 y = 0) (ha : 0 ≤ a ∧ a < s 62 0) (hb : 0 ≤ b ∧ b < s 62 0) (hma : s 89 (s 86 a) = 1) (hmb : s 89 (s 86 b) = 1) (hab : s 86 a ≠ s 86 b) (hs : bsl (mS s) a b = 0) (hm : bAbn (mS s) (s 86 a) (kd) ≠ -1) (hme : bAbn (mS s) (s 86 b) (ku) = bAbn (mS s) (s 86 a) (kd)) (hfi : ∀ i j : Nat, i ≤ kd → j < ku → bAbn (mS s) (s 86 a) (i) ≠ bAbn (mS s) (s 86 b) (j)) (hPP : ∀ x s', 20 ≤ x → x < 30 → s 87 x = 0 → mEn s s' x (2 * (kd : Int) + 1 + 2 * ku) (bAbn (mS s) (s 86 a) (kd)) → bWy (mS s) a b kd ku (s' (94 + 1 + (x - 20).toNat)) (s' (105 + 1 + (x - 20).toNat)) (s' (116 + 1 + (x - 20).toNat)) → PP none (am_hp E s')) : am_wp (d + 2) 43 0 (lv_args 0 [.ref 62, .int (iI a), .int (iI b), .int (iI (bAbn (mS s) (s 86 a) (kd)))]) [] (am_hp E s) PP := by
  have n0 := h.st.n0
  have n1 : (mS s).n = s 62 0 := rfl
  have oa : bOut (mS s) (s 86 a) := ⟨a, ha.1, ha.2, rfl, hma⟩
  have ob : bOut (mS s) (s 86 b) := ⟨b, hb.1, hb.2, rfl, hmb⟩
  obtain ⟨g0, f0, o0, wy0⟩ := bWy_ex (mS s) a b kd ku
  have m3 := (b_ring h.st h.nd h.ma h.tr hC ha.1 ha.2 hb.1 hb.2 hma hmb hab hs hm hme hfi wy0).m3
  have mt0 := bOut_0 h.st (b_abn h.st h.nd h.ma h.tr oa kd hm).1
  have ta := b_top0 h.st ha.1 ha.2
  have tb := b_top0 h.st hb.1 hb.2
  obtain ⟨n, en⟩ : ∃ n : Nat, (2 * (kd : Int) + 1 + 2 * ku) = n := ⟨2 * kd + 1 + 2 * ku, by omega⟩
  refine am_s rfl rfl ?_
  refine s_cv [] [] rfl g (Or.inl rfl) rfl rfl (Nat.le_of_ble_eq_true rfl) rfl rfl (t_unusedBlossom (PP := fun rv h => ∃ x : Int, rv = some (.int (iI x)) ∧ h = am_hp E s ∧ 20 ≤ x ∧ x < 30 ∧ s 87 x = 0) g h.w1 hy (fun x a b c => ⟨x, rfl, rfl, a, b, c⟩)) ?_
  rintro rv h1 ⟨x, rfl, rfl, x0, x1, xu⟩
  refine am_s rfl rfl ?_
  refine am_s rfl rfl ?_
  refine s_k 20 rfl rfl ?_
  refine s_isub rfl ?_
  refine am_s rfl rfl ?_
  refine am_s rfl rfl ?_
  refine am_s rfl rfl ?_
  refine s_gr rfl g rfl rfl ?_
  refine am_s rfl rfl ?_
  refine s_ia rfl g rfl ⟨by omega, by omega⟩ (by decide) ?_
  refine am_s rfl rfl ?_
  refine s_cv [_, _] [] rfl g (Or.inl rfl) rfl rfl (Nat.le_of_ble_eq_true rfl) rfl rfl (t_stepsBelow g h oa rfl hm (by omega)) ?_
  rintro rv h1 ⟨rfl, rfl⟩
  refine am_s rfl rfl ?_
  refine am_s rfl rfl ?_
  refine am_s rfl rfl ?_
  refine s_gr rfl g rfl rfl ?_
  refine am_s rfl rfl ?_
  refine s_ia rfl g rfl ⟨by omega, by omega⟩ (by decide) ?_
  refine am_s rfl rfl ?_
  refine s_cv [_, _] [] rfl g (Or.inl rfl) rfl rfl (Nat.le_of_ble_eq_true rfl) rfl rfl (t_stepsBelow g h ob hme (by rw [hme]; exact hm) (by omega)) ?_
  rintro rv h1 ⟨rfl, rfl⟩
  refine am_s rfl rfl ?_
  refine am_s rfl rfl ?_
  refine s_gr rfl g rfl rfl ?_
  refine am_s rfl rfl ?_
  refine s_aa rfl g rfl ⟨by omega, by omega⟩ (by decide) ?_
  refine s_k 0 rfl rfl ?_
  refine am_s rfl rfl ?_
  refine s_is rfl g (lo_94 (by omega) (by omega)) ⟨by omega, by omega⟩ (by decide) ?_
  refine am_s rfl rfl ?_
  refine s_gr rfl g rfl rfl ?_
  refine am_s rfl rfl ?_
  refine am_s rfl rfl ?_
  refine s_k 1 rfl rfl ?_
  refine s_iadd rfl ?_
  refine am_s rfl rfl ?_
  refine s_iadd rfl ?_
  refine s_is rfl g rfl ⟨by omega, by omega⟩ (by decide) ?_
  refine am_s rfl rfl ?_
  refine s_gr rfl g rfl rfl ?_
  refine am_s rfl rfl ?_
  refine s_k 0 rfl rfl ?_
  refine s_is rfl g rfl ⟨by omega, by omega⟩ (by decide) ?_
  generalize hs1 : am_w (am_w (am_w s (94 + 1 + (x - 20).toNat) 0 (bAbn (mS s) (s 86 a) (kd))) 92 (x - 20) (2 * (kd : Int) + 1 + 2 * (ku : Int))) 93 (x - 20) 0 = s1
  have hF1 : am_Fr [92, 93, 94 + 1 + (x - 20).toNat, 105 + 1 + (x - 20).toNat, 116 + 1 + (x - 20).toNat] s s1 := by
    rw [← hs1]
    exact am_Fr_W (am_Fr_W (am_Fr_w (by simp)) (by simp)) (by simp)
  have v92 : ∀ y, s1 92 y = if y = x - 20 then (2 * (kd : Int) + 1 + 2 * ku) else s 92 y := fun y => by
    rw [← hs1, am_w_row (by decide)]
    by_cases c : y = x - 20
    · rw [c, am_w_eq, if_pos rfl]
    · rw [am_w_x c, am_w_row (by omega), if_neg c]
  have v93 : ∀ y, s1 93 y = if y = x - 20 then 0 else s 93 y := fun y => by
    rw [← hs1]
    by_cases c : y = x - 20
    · rw [c, am_w_eq, if_pos rfl]
    · rw [am_w_x c, am_w_row (by decide), am_w_row (by omega), if_neg c]
  have v0 : s1 (94 + 1 + (x - 20).toNat) 0 = (bAbn (mS s) (s 86 a) (kd)) := by
    rw [← hs1, am_w_row (by omega), am_w_row (by omega), am_w_eq]
  obtain ⟨b1, ab1, ou1⟩ := mB_un (r := x - 20) h ⟨by omega, by omega⟩ (by rw [show x - 20 + 20 = x by omega]; exact xu) hF1 (fun y hy => by rw [v92 y, if_neg hy]) (fun y hy => by rw [v93 y, if_neg hy])
  have e86 : s1 86 = s 86 := hF1 86 (fun z => by simp at z; omega)
  refine am_s rfl rfl ?_
  refine am_s rfl rfl ?_
  refine am_s rfl rfl ?_
  refine s_gr rfl g rfl rfl ?_
  refine am_s rfl rfl ?_
  refine s_ia rfl g rfl ⟨by omega, by omega⟩ (by decide) ?_
  rw [e86]
  refine am_s rfl rfl ?_
  refine s_cv [_, _, _] [] rfl g (Or.inl rfl) rfl rfl (Nat.le_of_ble_eq_true rfl) rfl rfl (t_fillDown (s := s1) (kd := kd) g ⟨by omega, by omega⟩ b1 ((ou1 _).mpr oa) (by rw [ab1]; exact hm) (by omega)) ?_
  rintro rv h1 ⟨rfl, s2, rfl, hF2, hd2, hk2, hk3⟩
  simp only [ab1] at hd2
  have q2 : ∀ q, q ≠ 94 + 1 + (x - 20).toNat → q ≠ 105 + 1 + (x - 20).toNat → q ≠ 116 + 1 + (x - 20).toNat → s2 q = s1 q := fun q z1 z2 z3 => hF2 q (fun z => by simp at z; omega)
  refine am_s rfl rfl ?_
  refine s_gr rfl g rfl rfl ?_
  refine am_s rfl rfl ?_
  refine s_aa rfl g rfl ⟨by omega, by omega⟩ (by decide) ?_
  refine am_s rfl rfl ?_
  refine am_s rfl rfl ?_
  refine s_is rfl g (lo_105 (by omega) (by omega)) ⟨by omega, by omega⟩ (by decide) ?_
  refine am_s rfl rfl ?_
  refine s_gr rfl g rfl rfl ?_
  refine am_s rfl rfl ?_
  refine s_aa rfl g rfl ⟨by omega, by omega⟩ (by decide) ?_
  refine am_s rfl rfl ?_
  refine am_s rfl rfl ?_
  refine s_is rfl g (lo_116 (by omega) (by omega)) ⟨by omega, by omega⟩ (by decide) ?_
  generalize hs3 : am_w (am_w s2 (105 + 1 + (x - 20).toNat) (2 * (kd : Int)) a) (116 + 1 + (x - 20).toNat) (2 * (kd : Int)) b = s3
  have hF3 : am_Fr [94 + 1 + (x - 20).toNat, 105 + 1 + (x - 20).toNat, 116 + 1 + (x - 20).toNat] s2 s3 := by
    rw [← hs3]
    exact am_Fr_W (am_Fr_w (by simp)) (by simp)
  have hF13 : am_Fr [92, 93, 94 + 1 + (x - 20).toNat, 105 + 1 + (x - 20).toNat, 116 + 1 + (x - 20).toNat] s s3 := am_Fr_u hF1 (am_Fr_m (am_Fr_u hF2 hF3) (fun q hq => by simp at hq ⊢; omega))
  have e92 : s3 92 = s1 92 := (hF3 92 (fun z => by simp at z; omega)).trans (q2 92 (by omega) (by omega) (by omega))
  have e93 : s3 93 = s1 93 := (hF3 93 (fun z => by simp at z; omega)).trans (q2 93 (by omega) (by omega) (by omega))
  have r3 : s3 (94 + 1 + (x - 20).toNat) = s2 (94 + 1 + (x - 20).toNat) := by
    rw [← hs3, am_w_row (by omega), am_w_row (by omega)]
  have f3 : ∀ y, s3 (105 + 1 + (x - 20).toNat) y = if y = 2 * (kd : Int) then a else s2 (105 + 1 + (x - 20).toNat) y := fun y => by
    rw [← hs3, am_w_row (by omega)]
    by_cases c : y = 2 * (kd : Int)
    · rw [c, am_w_eq, if_pos rfl]
    · rw [am_w_x c, if_neg c]
  have i3 : ∀ y, s3 (116 + 1 + (x - 20).toNat) y = if y = 2 * (kd : Int) then b else s2 (116 + 1 + (x - 20).toNat) y := fun y => by
    rw [← hs3]
    by_cases c : y = 2 * (kd : Int)
    · rw [c, am_w_eq, if_pos rfl]
    · rw [am_w_x c, if_neg c, am_w_row (by omega)]
  obtain ⟨b3, ab3, ou3⟩ := mB_un (r := x - 20) h ⟨by omega, by omega⟩ (by rw [show x - 20 + 20 = x by omega]; exact xu) hF13 (fun y hy => by rw [e92, v92 y, if_neg hy]) (fun y hy => by rw [e93, v93 y, if_neg hy])
  have e863 : s3 86 = s 86 := hF13 86 (fun z => by simp at z; omega)
  refine am_s rfl rfl ?_
  refine am_s rfl rfl ?_
  refine am_s rfl rfl ?_
  refine s_gr rfl g rfl rfl ?_
  refine am_s rfl rfl ?_
  refine s_ia rfl g rfl ⟨by omega, by omega⟩ (by decide) ?_
  rw [e863]
  refine am_s rfl rfl ?_
  refine s_k 1 rfl rfl ?_
  refine s_iadd rfl ?_
  refine s_cv [_, _, _] [] rfl g (Or.inl rfl) rfl rfl (Nat.le_of_ble_eq_true rfl) rfl rfl (t_fillUp (s := s3) (kd := ku) (st := 2 * (kd : Int) + 1) g ⟨by omega, by omega⟩ b3 ((ou3 _).mpr ob) (by rw [ab3, hme]; exact hm) ⟨by omega, by omega⟩ (by rw [e92, v92 (x - 20), if_pos rfl])) ?_
  rintro rv h1 ⟨rfl, s4, rfl, hF4, hd4, hk4⟩
  simp only [ab3] at hd4
  have hF14 : am_Fr [92, 93, 94 + 1 + (x - 20).toNat, 105 + 1 + (x - 20).toNat, 116 + 1 + (x - 20).toNat] s s4 := am_Fr_u hF13 (am_Fr_m hF4 (fun q hq => by simp at hq ⊢; omega))
  have q1 : ∀ q, q ≠ 92 → q ≠ 93 → q ≠ 94 + 1 + (x - 20).toNat → q ≠ 105 + 1 + (x - 20).toNat → q ≠ 116 + 1 + (x - 20).toNat → s1 q = s q := fun q z0 z1 z2 z3 z4 => hF1 q (fun z => by simp at z; omega)
  have q3 : ∀ q, q ≠ 92 → q ≠ 93 → q ≠ 94 + 1 + (x - 20).toNat → q ≠ 105 + 1 + (x - 20).toNat → q ≠ 116 + 1 + (x - 20).toNat → s3 q = s q := fun q z0 z1 z2 z3 z4 => hF13 q (fun z => by simp at z; omega)
  rw [q1 85 (by omega) (by omega) (by omega) (by omega) (by omega), q1 86 (by omega) (by omega) (by omega) (by omega) (by omega), q1 88 (by omega) (by omega) (by omega) (by omega) (by omega), q1 90 (by omega) (by omega) (by omega) (by omega) (by omega), q1 91 (by omega) (by omega) (by omega) (by omega) (by omega)] at hd2
  rw [q3 85 (by omega) (by omega) (by omega) (by omega) (by omega), q3 86 (by omega) (by omega) (by omega) (by omega) (by omega), q3 88 (by omega) (by omega) (by omega) (by omega) (by omega), q3 90 (by omega) (by omega) (by omega) (by omega) (by omega), q3 91 (by omega) (by omega) (by omega) (by omega) (by omega)] at hd4
  have wy : bWy (mS s) a b kd ku (s4 (94 + 1 + (x - 20).toNat)) (s4 (105 + 1 + (x - 20).toNat)) (s4 (116 + 1 + (x - 20).toNat)) := by
    refine ⟨?_, fun j hj => ?_, ⟨?_, ?_⟩, fun j hj => ?_⟩
    · rw [(hk4 0 (by omega)).1, r3, hk2 0 (by omega)]; exact v0
    · obtain ⟨z1, z2, z3, z4, z5, z6⟩ := hd2 j hj
      refine ⟨?_, ?_, ?_, ?_, ?_, ?_⟩
      · rw [(hk4 _ (by omega)).1, r3]; exact z1
      · rw [(hk4 _ (by omega)).1, r3]; exact z2
      · rw [(hk4 _ (by omega)).2.1, f3, if_neg (by omega)]; exact z3
      · rw [(hk4 _ (by omega)).2.2, i3, if_neg (by omega)]; exact z4
      · rw [(hk4 _ (by omega)).2.1, f3, if_neg (by omega)]; exact z5
      · rw [(hk4 _ (by omega)).2.2, i3, if_neg (by omega)]; exact z6
    · rw [(hk4 _ (by omega)).2.1, f3, if_pos rfl]
    · rw [(hk4 _ (by omega)).2.2, i3, if_pos rfl]
    · obtain ⟨z1, z2, z3, z4, z5, z6⟩ := hd4 j hj
      exact ⟨z1, z2, z3, z4, z5, z6⟩
  have cy := b_ring h.st h.nd h.ma h.tr hC ha.1 ha.2 hb.1 hb.2 hma hmb hab hs hm hme hfi wy
  have gr : ∀ i, 0 ≤ i → i < (2 * (kd : Int) + 1 + 2 * ku) → 0 ≤ s4 (94 + 1 + (x - 20).toNat) i ∧ s4 (94 + 1 + (x - 20).toNat) i < 30 := fun i i0 i1 => by
    obtain ⟨v, v0, v1, e⟩ := cy.tp i i0 i1
    rw [← e]; exact b_top0 h.st v0 v1
  refine am_s rfl rfl ?_
  refine s_gr rfl g rfl rfl ?_
  refine am_s rfl rfl ?_
  refine s_k 1 rfl rfl ?_
  refine s_is rfl g rfl ⟨by omega, by omega⟩ (by decide) ?_
  refine am_s rfl rfl ?_
  refine s_gr rfl g rfl rfl ?_
  refine am_s rfl rfl ?_
  refine am_s rfl rfl ?_
  refine s_gr rfl g rfl rfl ?_
  refine am_s rfl rfl ?_
  refine s_ia rfl g rfl ⟨by omega, by omega⟩ (by decide) ?_
  refine s_is rfl g rfl ⟨by omega, by omega⟩ (by decide) ?_
  refine am_s rfl rfl ?_
  refine s_gr rfl g rfl rfl ?_
  refine am_s rfl rfl ?_
  refine s_kl 0 rfl rfl ?_
  refine s_ls rfl g rfl ⟨by omega, by omega⟩ (by decide) ?_
  refine s_k 0 rfl rfl ?_
  refine am_s rfl rfl ?_
  generalize hs5 : am_w (am_w (am_w s4 89 x 1) 88 x (am_w s4 89 x 1 88 (bAbn (mS s) (s 86 a) (kd)))) 84 x 0 = s5
  have hF5 : am_Fr [84, 88, 89] s4 s5 := by
    rw [← hs5]
    exact am_Fr_W (am_Fr_W (am_Fr_w (by decide)) (by decide)) (by decide)
  have q4 : ∀ q, q ≠ 92 → q ≠ 93 → q ≠ 94 + 1 + (x - 20).toNat → q ≠ 105 + 1 + (x - 20).toNat → q ≠ 116 + 1 + (x - 20).toNat → s4 q = s q := fun q z0 z1 z2 z3 z4 => hF14 q (fun z => by simp at z; omega)
  have v84 : ∀ y, s5 84 y = if y = x then 0 else s 84 y := fun y => by
    rw [← hs5]
    by_cases c : y = x
    · rw [c, am_w_eq, if_pos rfl]
    · rw [am_w_x c, am_w_row (by decide), am_w_row (by decide), if_neg c, q4 84 (by omega) (by omega) (by omega) (by omega) (by omega)]
  have v88 : ∀ y, s5 88 y = if y = x then s 88 (bAbn (mS s) (s 86 a) (kd)) else s 88 y := fun y => by
    rw [← hs5, am_w_row (by decide)]
    by_cases c : y = x
    · rw [c, am_w_eq, if_pos rfl, am_w_row (by decide), q4 88 (by omega) (by omega) (by omega) (by omega) (by omega)]
    · rw [am_w_x c, am_w_row (by decide), if_neg c, q4 88 (by omega) (by omega) (by omega) (by omega) (by omega)]
  have v89 : ∀ y, s5 89 y = if y = x then 1 else s 89 y := fun y => by
    rw [← hs5, am_w_row (by decide), am_w_row (by decide)]
    by_cases c : y = x
    · rw [c, am_w_eq, if_pos rfl]
    · rw [am_w_x c, if_neg c, q4 89 (by omega) (by omega) (by omega) (by omega) (by omega)]
  have e5 : ∀ q, q ≠ 84 → q ≠ 88 → q ≠ 89 → s5 q = s4 q := fun q z1 z2 z3 => hF5 q (fun z => by simp at z; omega)
  have e587 : s5 87 = s 87 := (e5 87 (by omega) (by omega) (by omega)).trans (q4 87 (by omega) (by omega) (by omega) (by omega) (by omega))
  have e592 : s5 92 (x - 20) = (2 * (kd : Int) + 1 + 2 * ku) := by
    rw [e5 92 (by omega) (by omega) (by omega), hF4 92 (fun z => by simp at z; omega), e92, v92, if_pos rfl]
  have e5R : s5 (94 + 1 + (x - 20).toNat) = s4 (94 + 1 + (x - 20).toNat) := e5 _ (by omega) (by omega) (by omega)
  refine am_lv [(8, .int (iI (((0 : Nat) : Int) : Int))), (5, .int (iI (x - 20))), (4, .int (iI x)), (0, .ref 62)] rfl rfl ⟨rfl, rfl, rfl, rfl, trivial⟩ ?_
  refine s_loop (X := Unit) (fun k _ s' => am_Fr [87] s5 s' ∧ (∀ y, y ≠ x → s' 87 y = s 87 y) ∧ (0 ≤ s' 87 x ∧ s' 87 x < 1048576) ∧ ∀ v, 0 ≤ v → v < 20 → (bt (s' 87 x) v = 1 ↔ ∃ i, 0 ≤ i ∧ i < (k : Int) ∧ bt (s 87 (s4 (94 + 1 + (x - 20).toNat) i)) v = 1)) (fun k _ => [(8, .int (iI (k : Int))), (5, .int (iI (x - 20))), (4, .int (iI x)), (0, .ref 62)]) (hi := n) (x := ()) (Nat.zero_le n) ⟨am_Fr_r _ _, fun y _ => by rw [e587], by rw [e587, xu]; exact ⟨by decide, by decide⟩, fun v _ _ => ⟨fun z => by rw [e587, xu] at z; unfold bt at z; rw [show ((0 : Int)).toNat = 0 from rfl, Nat.zero_testBit] at z; exact absurd z (by decide), fun ⟨i, i0, i1, _⟩ => by omega⟩⟩ ?_ ?_
  · rintro k - s6 hk0 hk1 ⟨hF6, hy6, hr6, hb6⟩ kk
    simp only at kk ⊢
    have e6 : s6 92 (x - 20) = (2 * (kd : Int) + 1 + 2 * ku) := by rw [hF6 92 (by decide)]; exact e592
    have e6R : s6 (94 + 1 + (x - 20).toNat) k = s4 (94 + 1 + (x - 20).toNat) k := by rw [hF6 _ (fun z => by simp at z; omega), e5R]
    have gk := gr k (by omega) (by omega)
    have ub : s 87 (s4 (94 + 1 + (x - 20).toNat) k) ≠ 0 := by
      obtain ⟨v, v0, v1, e⟩ := cy.tp k (by omega) (by omega)
      exact (mU_iff gk (h.w1 _ gk.1 gk.2)).mp ⟨v, by rw [← e]; exact h.st.th v v0 v1⟩
    have nx : s4 (94 + 1 + (x - 20).toNat) k ≠ x := fun z => ub (by rw [z]; exact xu)
    have wk := h.w1 _ gk.1 gk.2
    have e6k : s6 87 (s6 (94 + 1 + (x - 20).toNat) k) = s 87 (s4 (94 + 1 + (x - 20).toNat) k) := by rw [e6R]; exact hy6 _ nx
    refine am_s rfl rfl ?_
    refine am_s rfl rfl ?_
    refine s_gr rfl g rfl rfl ?_
    refine am_s rfl rfl ?_
    refine s_ia rfl g rfl ⟨by omega, by omega⟩ (by decide) ?_
    refine s_cge rfl ⟨by omega, by omega⟩ ⟨by omega, by omega⟩ (fun c1 => absurd c1 (by omega)) (fun c1 => ?_)
    refine am_s rfl rfl ?_
    refine s_gr rfl g rfl rfl ?_
    refine am_s rfl rfl ?_
    refine am_s rfl rfl ?_
    refine s_ia rfl g rfl ⟨by omega, by omega⟩ (by decide) ?_
    refine am_s rfl rfl ?_
    refine s_gr rfl g rfl rfl ?_
    refine am_s rfl rfl ?_
    refine s_gr rfl g rfl rfl ?_
    refine am_s rfl rfl ?_
    refine s_aa rfl g rfl ⟨by omega, by omega⟩ (by decide) ?_
    refine am_s rfl rfl ?_
    refine s_ia rfl g (lo_94 (by omega) (by omega)) ⟨by omega, by omega⟩ (by decide) ?_
    refine s_ia rfl g rfl ⟨by omega, by omega⟩ (by decide) ?_
    rw [e6k]
    refine s_ior rfl ⟨by omega, by omega⟩ ⟨by omega, by omega⟩ ?_
    refine s_is rfl g rfl ⟨by omega, by omega⟩ (by decide) ?_
    refine s_inc rfl rfl ?_
    refine am_s rfl rfl ?_
    refine am_lv [(8, _), (5, _), (4, _), (0, _)] rfl rfl ⟨rfl, rfl, rfl, rfl, trivial⟩ ?_
    refine kk () _ ⟨am_Fr_W hF6 (by decide), fun y hy => ?_, ?_, fun v v0 v1 => ?_⟩
    · rw [am_w_x hy]; exact hy6 y hy
    · rw [am_w_eq]; exact bor_20 hr6 wk
    · rw [am_w_eq, bt_bor, hb6 v v0 v1]
      refine ⟨fun z => ?_, fun ⟨i, i0, i1, z⟩ => ?_⟩
      · rcases z with ⟨i, i0, i1, z⟩ | z
        · exact ⟨i, i0, by omega, z⟩
        · exact ⟨k, by omega, by omega, z⟩
      · by_cases e : i = (k : Int)
        · rw [e] at z; exact Or.inr z
        · exact Or.inl ⟨i, i0, by omega, z⟩
  · rintro - s6 ⟨hF6, hy6, hr6, hb6⟩
    simp only
    have e62 : s6 62 0 = s 62 0 := by rw [hF6 62 (by decide), e5 62 (by omega) (by omega) (by omega), q4 62 (by omega) (by omega) (by omega) (by omega) (by omega)]
    have e6m : s6 92 (x - 20) = (2 * (kd : Int) + 1 + 2 * ku) := by rw [hF6 92 (by decide)]; exact e592
    refine am_s rfl rfl ?_
    refine am_s rfl rfl ?_
    refine s_gr rfl g rfl rfl ?_
    refine am_s rfl rfl ?_
    refine s_ia rfl g rfl ⟨by omega, by omega⟩ (by decide) ?_
    refine s_cge rfl ⟨by omega, by omega⟩ ⟨by omega, by omega⟩ (fun c1 => ?_) (fun c1 => absurd c1 (by omega))
    refine am_s rfl rfl ?_
    refine am_s rfl rfl ?_
    refine s_cv [_] [] rfl g (Or.inl rfl) rfl rfl (Nat.le_of_ble_eq_true rfl) rfl rfl (t_putOnTop (s := s6) g (by rw [e62]; exact h.st.n0) ⟨by omega, by omega⟩ hr6) ?_
    rintro rv h1 ⟨rfl, s7, rfl, hF7, ht7⟩
    have hF56 : am_Fr [84, 87, 88, 89] s4 s6 := am_Fr_u (am_Fr_m hF5 (by decide)) (am_Fr_m hF6 (by decide))
    have e7 : ∀ q, q ≠ 86 → s7 q = s6 q := fun q z => hF7 q (fun y => z (List.mem_singleton.mp y))
    have e6 : ∀ q, q ≠ 87 → s6 q = s5 q := fun q z => hF6 q (fun y => z (List.mem_singleton.mp y))
    have e7R : s7 (94 + 1 + (x - 20).toNat) = s4 (94 + 1 + (x - 20).toNat) := by rw [e7 _ (by omega), e6 _ (by omega), e5R]
    have e7F : s7 (105 + 1 + (x - 20).toNat) = s4 (105 + 1 + (x - 20).toNat) := by rw [e7 _ (by omega), e6 _ (by omega), e5 _ (by omega) (by omega) (by omega)]
    have e7I : s7 (116 + 1 + (x - 20).toNat) = s4 (116 + 1 + (x - 20).toNat) := by rw [e7 _ (by omega), e6 _ (by omega), e5 _ (by omega) (by omega) (by omega)]
    refine am_r rfl rfl (hPP x s7 x0 x1 xu ⟨?_, fun y => ?_, fun y => ?_, fun y => ?_, fun y => ?_, fun y => ?_, fun y hy => ?_, ?_, fun v v0 v1 => ?_, fun v => ?_⟩ (by rw [e7R, e7F, e7I]; exact wy))
    · exact am_Fr_u (am_Fr_m hF14 (fun q hq => by simp at hq ⊢; omega)) (am_Fr_u (am_Fr_m hF56 (fun q hq => by simp at hq ⊢; omega)) (am_Fr_m hF7 (fun q hq => by simp at hq ⊢; omega)))
    · rw [e7 84 (by omega), e6 84 (by omega)]; exact v84 y
    · rw [e7 89 (by omega), e6 89 (by omega)]; exact v89 y
    · rw [e7 88 (by omega), e6 88 (by omega)]; exact v88 y
    · rw [e7 92 (by omega), e6 92 (by omega), e5 92 (by omega) (by omega) (by omega), hF4 92 (fun z => by simp at z; omega), e92]; exact v92 y
    · rw [e7 93 (by omega), e6 93 (by omega), e5 93 (by omega) (by omega) (by omega), hF4 93 (fun z => by simp at z; omega), e93]; exact v93 y
    · rw [e7 87 (by omega)]; exact hy6 y hy
    · rw [e7 87 (by omega)]; exact hr6
    · rw [e7 87 (by omega), e7R, hb6 v v0 v1, en]
    · rw [e7 87 (by omega), ht7 v, e62, e6 86 (by omega), e5 86 (by omega) (by omega) (by omega), q4 86 (by omega) (by omega) (by omega) (by omega) (by omega)]
