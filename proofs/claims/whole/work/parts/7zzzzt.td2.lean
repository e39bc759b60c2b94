/-! WHAT STANDS BETWEEN CALLS: both together -/
abbrev iE (n : Nat) (E : am_Ev) : Prop := Nonempty (PProd (am_Eg E) (PProd (am_Ed E) (PProd (E.2.2.2.2.1 ≤ 193 + n) (PProd (E.2.2.2.2.2 ≤ 1075271 + 10240 * n) (8 ≤ E.2.2.1.2)))))
theorem iE.g {n : Nat} {E : am_Ev} (h_ : iE n E) : am_Eg E := h_.elim (fun x_ => x_.1)
theorem iE.d {n : Nat} {E : am_Ev} (h_ : iE n E) : am_Ed E := h_.elim (fun x_ => x_.2.1)
theorem iE.rc {n : Nat} {E : am_Ev} (h_ : iE n E) : E.2.2.2.2.1 ≤ 193 + n := h_.elim (fun x_ => x_.2.2.1)
theorem iE.rs {n : Nat} {E : am_Ev} (h_ : iE n E) : E.2.2.2.2.2 ≤ 1075271 + 10240 * n := h_.elim (fun x_ => x_.2.2.2.1)
theorem iE.h8 {n : Nat} {E : am_Ev} (h_ : iE n E) : 8 ≤ E.2.2.1.2 := h_.elim (fun x_ => x_.2.2.2.2)
/-- both have the same cities and distances -/
abbrev iN (s : am_S) : Prop := Nonempty (PProd (s 168 1 = s 25 0) (∀ a b, 0 ≤ a → a < s 25 0 → 0 ≤ b → b < s 25 0 → mx s a b = my s a b))
theorem iN.en {s : am_S} (h_ : iN s) : s 168 1 = s 25 0 := h_.elim (fun x_ => x_.1)
theorem iN.em {s : am_S} (h_ : iN s) : ∀ a b, 0 ≤ a → a < s 25 0 → 0 ≤ b → b < s 25 0 → mx s a b = my s a b := h_.elim (fun x_ => x_.2)
/-- the tapes -/
abbrev iT (E : am_Ev) (s : am_S) : Prop := Nonempty (PProd (s 168 5 = s 2 1) (PProd (0 ≤ s 2 1 ∧ s 2 1 ≤ E.2.2.1.2) (PProd (∀ y, 0 ≤ y → y < s 2 1 → s 171 y = s E.2.2.1.1 y ∧ 32 ≤ s E.2.2.1.1 y) (∀ y, 0 ≤ y → y < (E.2.2.1.2 : Int) → 0 ≤ s E.2.2.1.1 y ∧ s E.2.2.1.1 y ≤ 126))))
theorem iT.tz {E : am_Ev} {s : am_S} (h_ : iT E s) : s 168 5 = s 2 1 := h_.elim (fun x_ => x_.1)
theorem iT.tl {E : am_Ev} {s : am_S} (h_ : iT E s) : 0 ≤ s 2 1 ∧ s 2 1 ≤ E.2.2.1.2 := h_.elim (fun x_ => x_.2.1)
theorem iT.ta {E : am_Ev} {s : am_S} (h_ : iT E s) : ∀ y, 0 ≤ y → y < s 2 1 → s 171 y = s E.2.2.1.1 y ∧ 32 ≤ s E.2.2.1.1 y := h_.elim (fun x_ => x_.2.2.1)
theorem iT.tb {E : am_Ev} {s : am_S} (h_ : iT E s) : ∀ y, 0 ≤ y → y < (E.2.2.1.2 : Int) → 0 ≤ s E.2.2.1.1 y ∧ s E.2.2.1.1 y ≤ 126 := h_.elim (fun x_ => x_.2.2.2)
/-- flags, penalties, tours -/
abbrev iF (n : Nat) (s : am_S) : Prop := Nonempty (PProd (s 168 14 = s 48 0) (PProd (s 168 18 = s 58 0) (PProd (s 168 24 = s 127 0) (PProd (s 168 29 = s 151 0) (PProd (∀ y, 0 ≤ y → y < 20 → s 191 y = s 161 y) (PProd (∀ y, 0 ≤ y → y < 20 → -4200000000 * (n : Int) ≤ s 161 y ∧ s 161 y ≤ 4200000000 * (n : Int)) (s 151 0 = 1 → (∀ i, 0 ≤ i → i < s 25 0 → s 152 i = s 183 i) ∧ fl_sym (s 25 0) (mx s))))))))
theorem iF.f14 {n : Nat} {s : am_S} (h_ : iF n s) : s 168 14 = s 48 0 := h_.elim (fun x_ => x_.1)
theorem iF.f18 {n : Nat} {s : am_S} (h_ : iF n s) : s 168 18 = s 58 0 := h_.elim (fun x_ => x_.2.1)
theorem iF.f24 {n : Nat} {s : am_S} (h_ : iF n s) : s 168 24 = s 127 0 := h_.elim (fun x_ => x_.2.2.1)
theorem iF.f29 {n : Nat} {s : am_S} (h_ : iF n s) : s 168 29 = s 151 0 := h_.elim (fun x_ => x_.2.2.2.1)
theorem iF.pe {n : Nat} {s : am_S} (h_ : iF n s) : ∀ y, 0 ≤ y → y < 20 → s 191 y = s 161 y := h_.elim (fun x_ => x_.2.2.2.2.1)
theorem iF.pb {n : Nat} {s : am_S} (h_ : iF n s) : ∀ y, 0 ≤ y → y < 20 → -4200000000 * (n : Int) ≤ s 161 y ∧ s 161 y ≤ 4200000000 * (n : Int) := h_.elim (fun x_ => x_.2.2.2.2.2.1)
theorem iF.to {n : Nat} {s : am_S} (h_ : iF n s) : s 151 0 = 1 → (∀ i, 0 ≤ i → i < s 25 0 → s 152 i = s 183 i) ∧ fl_sym (s 25 0) (mx s) := h_.elim (fun x_ => x_.2.2.2.2.2.2)
abbrev iAll (n : Nat) (E : am_Ev) (s : am_S) : Prop := Nonempty (PProd (iE n E) (PProd (iX s) (PProd (iM s) (PProd (iN s) (PProd (iT E s) (iF n s))))))
theorem iAll.e {n : Nat} {E : am_Ev} {s : am_S} (h_ : iAll n E s) : iE n E := h_.elim (fun x_ => x_.1)
theorem iAll.x {n : Nat} {E : am_Ev} {s : am_S} (h_ : iAll n E s) : iX s := h_.elim (fun x_ => x_.2.1)
theorem iAll.m {n : Nat} {E : am_Ev} {s : am_S} (h_ : iAll n E s) : iM s := h_.elim (fun x_ => x_.2.2.1)
theorem iAll.nn {n : Nat} {E : am_Ev} {s : am_S} (h_ : iAll n E s) : iN s := h_.elim (fun x_ => x_.2.2.2.1)
theorem iAll.t {n : Nat} {E : am_Ev} {s : am_S} (h_ : iAll n E s) : iT E s := h_.elim (fun x_ => x_.2.2.2.2.1)
theorem iAll.f {n : Nat} {E : am_Ev} {s : am_S} (h_ : iAll n E s) : iF n s := h_.elim (fun x_ => x_.2.2.2.2.2)
def wInv (n : Nat) (h : am_H) : Prop := ∃ E s, h = am_hp E s ∧ iAll n E s
theorem iE_s {n : Nat} {E : am_Ev} (h : iE n E) : iE (n + 1) E := ⟨h.g, h.d, by have := h.rc; omega, by have := h.rs; omega, h.h8⟩
theorem iF_s {n : Nat} {s : am_S} (h : iF n s) : iF (n + 1) s := ⟨h.f14, h.f18, h.f24, h.f29, h.pe, fun y y0 y1 => by have := h.pb y y0 y1; omega, h.to⟩
theorem sg_gt {n : Nat} {E : am_Ev} (h : iE n E) : (∀ q, 1 ≤ q → am_lo q ≠ none → E.2.2.1.1 ≠ q) ∧ E.2.2.1.1 ≠ 0 := by
  refine ⟨fun q _ hq z => hq (by rw [← z]; exact h.d.s0), ?_⟩
  have := h.d.s1
  omega
/-- congruences of the parts -/
theorem iN_c {s s1 : am_S} (h : iN s) (hn : s 25 0 ≤ 20) (e1 : s1 168 1 = s 168 1) (e25 : s1 25 0 = s 25 0) (er : ∀ a, 27 ≤ a → a ≤ 46 → s1 a = s a) (e169 : s1 169 = s 169) : iN s1 := by
  refine ⟨by rw [e1, e25]; exact h.en, fun a b a0 a1 b0 b1 => ?_⟩
  rw [e25] at a1 b1
  have := h.em a b a0 a1 b0 b1
  unfold mx my at this ⊢
  rw [er _ (by omega) (by omega), e169]
  exact this
theorem iT_c {E E1 : am_Ev} {s s1 : am_S} (h : iT E s) (eE : E1.2.2.1 = E.2.2.1) (e5 : s1 168 5 = s 168 5) (e2 : s1 2 1 = s 2 1) (es : s1 E.2.2.1.1 = s E.2.2.1.1) (e171 : s1 171 = s 171) : iT E1 s1 := by
  refine ⟨by rw [e5, e2]; exact h.tz, by rw [e2, eE]; exact h.tl, by rw [e2, eE, es, e171]; exact h.ta, by rw [eE, es]; exact h.tb⟩
theorem iT_zero {E : am_Ev} {s s1 : am_S} (h : iT E s) (e5 : s1 168 5 = 0) (e2 : s1 2 1 = 0) (es : s1 E.2.2.1.1 = s E.2.2.1.1) : iT E s1 :=
  ⟨by rw [e5, e2], by rw [e2]; omega, fun y y0 y1 => by rw [e2] at y1; omega, by rw [es]; exact h.tb⟩
/-- both trees are one -/
theorem cmp_tree {s : am_S} (hN : iN s) (hx : iX s) (hm : iM s) (tx : tX s) (tm : tM s) : (∀ c, 0 ≤ c → c < s 25 0 → s 50 c = s 192 c) ∧ s 48 1 = s 168 16 ∧ s 48 2 = s 168 20 ∧ ∀ i, 0 ≤ i → i < s 48 2 → s 55 i = s 177 i := by
  have m1 := hx.hx.hm.1
  have m2 := hx.hx.hm.2.1
  obtain ⟨a, b, c, -⟩ := tx
  obtain ⟨a2, b2, c2, -⟩ := tm
  rw [hN.en] at a2 b2 c2
  refine gw_eq (fun p q p0 p1 q0 q1 => ?_) a a2 (by omega) b b2 c c2
  unfold fx fm
  rw [if_pos rfl, hx.z54 p p0 (by omega), hx.z54 q q0 (by omega), hN.em p q p0 p1 q0 q1]
  omega
theorem cmp_pair {s : am_S} (hN : iN s) (hx : iX s) (hm : iM s) (tx : tX s) (tm : tM s) (pp : pP s) (qp : qP s) : (∀ c, 0 ≤ c → c < s 25 0 → s 60 c = s 178 c) ∧ s 58 1 = s 168 22 ∧ s 58 2 = 2 * s 168 22 := by
  have m1 := hx.hx.hm.1
  have m2 := hx.hx.hm.2.1
  obtain ⟨-, -, t3, t4⟩ := cmp_tree hN hx hm tx tm
  have pre := pPre_tr hx.hx.hm tx
  have eO : ∀ c, pO s c = qOm s c := fun c => im_eq t3 hx.r48.1 t4 c
  have inO : ∀ i, pO s i = true → (i : Int) < s 25 0 := fun i hi => by
    obtain ⟨j, j1, j2⟩ := mt_im_t.mp hi
    have := pre.ra j (by omega) (by omega)
    have j2 : (s 55 (j : Int)).toNat = i := j2
    omega
  have ew : ∀ i j, i < 20 → pO s i = true → j < 20 → pO s j = true → pW s i j = qW s i j := fun i j _ hi _ hj => by
    have := hN.em i j (by omega) (inO i hi) (by omega) (inO j hj)
    unfold mx at this
    unfold pW qW
    rw [← this]
    rfl
  have l1 : mt_lex (qW s) 20 (qOm s) (fun c => (s 60 (c : Int)).toNat) := mt_lex_set (fun i _ => eO i) (mt_lex_w ew pp.2.2.1)
  have u := mt_lex_uniq l1 qp.2.2.1
  have e60 : ∀ c, 0 ≤ c → c < s 25 0 → s 60 c = s 178 c := fun c c0 c1 => by
    obtain ⟨k, rfl⟩ : ∃ k : Nat, c = k := ⟨c.toNat, by omega⟩
    cases z : pO s k
    · rw [pp.1 k (by omega) z, qp.1 k (by rw [hN.en]; exact c1) (by rw [← eO]; exact z)]
    · have v := u k (by omega) (by rw [← eO]; exact z)
      have v : (s 60 (k : Int)).toNat = (s 178 (k : Int)).toNat := v
      have a := pp.2.1 k (by omega) z
      have b := qp.2.1 k (by omega) (by rw [← eO]; exact z)
      omega
  have es : s 58 1 = s 168 22 := by
    rw [pp.2.2.2.1, qp.2.2.2, mt_co_w ew pp.2.2.1.1.1, mt_co_congr (p := fun c : Nat => (s 60 (c : Int)).toNat) (q := fun c : Nat => (s 178 (c : Int)).toNat) (fun i hi hS => u i hi (by rw [← eO]; exact hS))]
    unfold mt_co
    exact mt_s_congr (fun i _ => by rw [eO i])
  exact ⟨e60, es, by rw [pp.2.2.2.2, es]⟩
theorem cmp_walk {s : am_S} (hN : iN s) (n0 : 0 ≤ s 25 0) (h50 : ∀ c, 0 ≤ c → c < s 25 0 → s 50 c = s 192 c) (h60 : ∀ c, 0 ≤ c → c < s 25 0 → s 60 c = s 178 c) (wx : wX s) (wy : wY s) : s 127 1 = s 168 26 ∧ ∀ i, 0 ≤ i → i < s 127 1 → s 128 (s 127 1 - 1 - i) = s 180 i := by
  obtain ⟨b, a1, a2, a3, a4, a5⟩ := wx
  obtain ⟨c, b1, b2, b3, b4, b5⟩ := wy
  rw [hN.en] at b1
  have e := wkL_uniq (fun c c0 c1 => h50 c c0 (by omega)) (fun c c0 c1 => h60 c c0 (by omega)) a1 b1
  subst e
  refine ⟨by rw [a2, b2], fun i i0 i1 => ?_⟩
  obtain ⟨k, rfl⟩ : ∃ k : Nat, i = k := ⟨i.toNat, by omega⟩
  have hk : k < b.L.length := by omega
  have g : b.L[k]? = some b.L[k] := List.getElem?_eq_getElem hk
  rw [a2, a3 k _ g, b3 k _ g]
/-- flaws are one -/
theorem cmp_flaw {s s1 s2 : am_S} (hN : iN s) (hk : lk_to s s1) {k a b c : Int} (h : fl_is (s 168 1) (my s) k a b c) : s1 47 0 = k ∧ s1 47 1 = a ∧ s1 47 2 = b ∧ s1 47 3 = c := by
  rw [hN.en] at h
  exact fl_uniq hk.2.2.2 (fl_is_congr (fun x y x0 x1 y0 y1 => hN.em x y x0 x1 y0 y1) h)
/-- a call that leaves the class as it is -/
theorem iAll_0 {n : Nat} {E : am_Ev} {s : am_S} (h : iAll n E s) : iAll (n + 1) E (am_w s 168 0 0) := by
  have e : ∀ q, q ≠ 168 → am_w s 168 0 0 q = s q := fun q hq => am_w_row hq
  have f : ∀ y, y ≠ 0 → am_w s 168 0 0 168 y = s 168 y := fun y hy => am_w_x hy
  have sg := (sg_gt h.e).1 168 (by decide) (by decide)
  have m2 := h.x.hx.hm.2.1
  refine ⟨iE_s h.e, iX_c h.x (fun q hq => e q (by omega)), iM_0 h.m, iN_c h.nn m2 (f 1 (by decide)) (by rw [e 25 (by decide)]) (fun a _ _ => e a (by omega)) (e 169 (by decide)), iT_c h.t rfl (f 5 (by decide)) (by rw [e 2 (by decide)]) (e _ sg) (e 171 (by decide)), ?_⟩
  have hf := iF_s h.f
  refine ⟨by rw [f 14 (by decide), e 48 (by decide)]; exact hf.f14, by rw [f 18 (by decide), e 58 (by decide)]; exact hf.f18, by rw [f 24 (by decide), e 127 (by decide)]; exact hf.f24, by rw [f 29 (by decide), e 151 (by decide)]; exact hf.f29, by rw [e 191 (by decide), e 161 (by decide)]; exact hf.pe, by rw [e 161 (by decide)]; exact hf.pb, ?_⟩
  rw [e 151 (by decide), e 25 (by decide), e 152 (by decide), e 183 (by decide)]
  intro z
  refine ⟨(hf.to z).1, fun x y x0 x1 y0 y1 => ?_⟩
  have := (hf.to z).2 x y x0 x1 y0 y1
  unfold mx at this ⊢
  rw [e _ (by omega), e _ (by omega)]
  exact this
theorem iAll_s {n : Nat} {E : am_Ev} {s : am_S} (h : iAll n E s) : iAll (n + 1) E s := ⟨iE_s h.e, h.x, h.m, h.nn, h.t, iF_s h.f⟩
/-- how a pair is shown -/
theorem mk_pairI {n : Nat} {E : am_Ev} {s : am_S} {jx jm : Nat} {as : List Value} (g : am_Eg E) (X : am_wp 29 jx 0 (lv_args 0 (.ref 1 :: as)) [] (am_hp E s) (fun rv h => ∃ (x : Int32) (E1 : am_Ev) (s1 : am_S), rv = some (.int x) ∧ h = am_hp E1 s1 ∧ am_Eg E1 ∧ am_wp 29 jm 0 (lv_args 0 (.ref 168 :: as)) [] (am_hp E1 s1) (fun rw h2 => rw = some (.int x) ∧ wInv (n + 1) h2))) : am_pairI (am_hp E s) jx jm as (wInv (n + 1)) := by
  refine ⟨⟨_, s_ob (show am_lo 1 = _ from rfl)⟩, (s_le (s := s) g (show am_lo 1 = _ from rfl)).2, am_wp_mono X ?_⟩
  rintro rv h ⟨x, E1, s1, e1, rfl, g1, k⟩
  exact ⟨x, e1, ⟨_, s_ob (show am_lo 168 = _ from rfl)⟩, (s_le (s := s1) g1 (show am_lo 168 = _ from rfl)).2, k⟩
theorem mk_pairJ {n : Nat} {E : am_Ev} {s : am_S} {jx jm : Nat} {as : List Value} (g : am_Eg E) (X : am_wp 29 jx 0 (lv_args 0 (.ref 1 :: as)) [] (am_hp E s) (fun rv h => ∃ (x : Int64) (E1 : am_Ev) (s1 : am_S), rv = some (.long x) ∧ h = am_hp E1 s1 ∧ am_Eg E1 ∧ am_wp 29 jm 0 (lv_args 0 (.ref 168 :: as)) [] (am_hp E1 s1) (fun rw h2 => rw = some (.long x) ∧ wInv (n + 1) h2))) : am_pairJ (am_hp E s) jx jm as (wInv (n + 1)) := by
  refine ⟨⟨_, s_ob (show am_lo 1 = _ from rfl)⟩, (s_le (s := s) g (show am_lo 1 = _ from rfl)).2, am_wp_mono X ?_⟩
  rintro rv h ⟨x, E1, s1, e1, rfl, g1, k⟩
  exact ⟨x, e1, ⟨_, s_ob (show am_lo 168 = _ from rfl)⟩, (s_le (s := s1) g1 (show am_lo 168 = _ from rfl)).2, k⟩
