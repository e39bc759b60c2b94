/-! THE PAIRS: flaw, tree, match, round -/
abbrev kX (E : am_Ev) (s s1 : am_S) : Prop := Nonempty (PProd (∀ q, 168 ≤ q → q ≤ 193 → s1 q = s q) (PProd (∀ q, 27 ≤ q → q ≤ 46 → s1 q = s q) (PProd (s1 25 0 = s 25 0) (PProd (s1 2 = s 2) (s1 E.2.2.1.1 = s E.2.2.1.1)))))
theorem kX.m {E : am_Ev} {s s1 : am_S} (h_ : kX E s s1) : ∀ q, 168 ≤ q → q ≤ 193 → s1 q = s q := h_.elim (fun x_ => x_.1)
theorem kX.r {E : am_Ev} {s s1 : am_S} (h_ : kX E s s1) : ∀ q, 27 ≤ q → q ≤ 46 → s1 q = s q := h_.elim (fun x_ => x_.2.1)
theorem kX.n0 {E : am_Ev} {s s1 : am_S} (h_ : kX E s s1) : s1 25 0 = s 25 0 := h_.elim (fun x_ => x_.2.2.1)
theorem kX.t2 {E : am_Ev} {s s1 : am_S} (h_ : kX E s s1) : s1 2 = s 2 := h_.elim (fun x_ => x_.2.2.2.1)
theorem kX.sg {E : am_Ev} {s s1 : am_S} (h_ : kX E s s1) : s1 E.2.2.1.1 = s E.2.2.1.1 := h_.elim (fun x_ => x_.2.2.2.2)
abbrev kM (E : am_Ev) (s1 s2 : am_S) : Prop := Nonempty (PProd (∀ q, q < 168 → s2 q = s1 q) (PProd (s2 168 1 = s1 168 1) (PProd (s2 168 5 = s1 168 5) (PProd (s2 169 = s1 169) (PProd (s2 171 = s1 171) (s2 E.2.2.1.1 = s1 E.2.2.1.1))))))
theorem kM.x {E : am_Ev} {s1 s2 : am_S} (h_ : kM E s1 s2) : ∀ q, q < 168 → s2 q = s1 q := h_.elim (fun x_ => x_.1)
theorem kM.n1 {E : am_Ev} {s1 s2 : am_S} (h_ : kM E s1 s2) : s2 168 1 = s1 168 1 := h_.elim (fun x_ => x_.2.1)
theorem kM.t5 {E : am_Ev} {s1 s2 : am_S} (h_ : kM E s1 s2) : s2 168 5 = s1 168 5 := h_.elim (fun x_ => x_.2.2.1)
theorem kM.d {E : am_Ev} {s1 s2 : am_S} (h_ : kM E s1 s2) : s2 169 = s1 169 := h_.elim (fun x_ => x_.2.2.2.1)
theorem kM.t {E : am_Ev} {s1 s2 : am_S} (h_ : kM E s1 s2) : s2 171 = s1 171 := h_.elim (fun x_ => x_.2.2.2.2.1)
theorem kM.sg {E : am_Ev} {s1 s2 : am_S} (h_ : kM E s1 s2) : s2 E.2.2.1.1 = s1 E.2.2.1.1 := h_.elim (fun x_ => x_.2.2.2.2.2)
theorem kX_t {E : am_Ev} {s s1 s2 : am_S} (h : kX E s s1) (k : kX E s1 s2) : kX E s s2 := ⟨fun q a b => (k.m q a b).trans (h.m q a b), fun q a b => (k.r q a b).trans (h.r q a b), k.n0.trans h.n0, k.t2.trans h.t2, k.sg.trans h.sg⟩
theorem kM_t {E : am_Ev} {s s1 s2 : am_S} (h : kM E s s1) (k : kM E s1 s2) : kM E s s2 := ⟨fun q a => (k.x q a).trans (h.x q a), k.n1.trans h.n1, k.t5.trans h.t5, k.d.trans h.d, k.t.trans h.t, k.sg.trans h.sg⟩
theorem kX_f {E : am_Ev} {s s1 : am_S} (gd : am_Ed E) (e : ∀ q, (q < 48 ∨ 159 ≤ q) → s1 q = s q) : kX E s s1 := by
  have l := lo_none gd.s0
  exact ⟨fun q a b => e q (by omega), fun q a b => e q (by omega), by rw [e 25 (by omega)], e 2 (by omega), e _ (by omega)⟩
theorem kX_lk {E : am_Ev} {s s1 : am_S} (gd : am_Ed E) (k : lk_to s s1) : kX E s s1 := by
  have l := lo_none gd.s0
  have e : ∀ q, q ≠ 25 → q ≠ 47 → s1 q = s q := fun q a b => k.1 q (fun z => by simp at z; omega)
  exact ⟨fun q a b => e q (by omega) (by omega), fun q a b => e q (by omega) (by omega), k.2.1, e 2 (by decide) (by decide), e _ (by omega) (by omega)⟩
theorem kX_tr {E : am_Ev} {s s1 : am_S} (gd : am_Ed E) (k : nTr s s1) : kX E s s1 := kX_f gd (fun q hq => nTr_f k q (by omega))
theorem kX_pa {E : am_Ev} {s s1 : am_S} (gd : am_Ed E) (k : nPa s s1) : kX E s s1 := kX_f gd (fun q hq => nPa_f k q (by omega))
theorem kX_wk {E : am_Ev} {s s1 : am_S} (gd : am_Ed E) (k : nWk s s1) : kX E s s1 := kX_f gd (fun q hq => nWk_f k q (by omega))
theorem kM_F {E : am_Ev} {s1 s2 : am_S} {L : List Nat} {F : List Int} (gd : am_Ed E) (hF : am_Fm L F s1 s2) (hL : ∀ q ∈ L, 170 ≤ q ∧ q ≠ 171 ∧ q ≤ 193) (h1 : (1 : Int) ∉ F) (h5 : (5 : Int) ∉ F) : kM E s1 s2 := by
  have l := lo_none gd.s0
  have nl : ∀ q, q ≠ 168 → (q < 170 ∨ q = 171 ∨ 193 < q) → s2 q = s1 q := fun q a b => hF.1 q (fun z => by
    rcases List.mem_cons.mp z with z | z
    · exact a z
    · have := hL q z
      omega)
  exact ⟨fun q a => nl q (by omega) (by omega), hF.2 1 h1, hF.2 5 h5, nl 169 (by decide) (by omega), nl 171 (by decide) (by omega), nl _ (by omega) (by omega)⟩
theorem kM_0 {E : am_Ev} {s : am_S} (gd : am_Ed E) : kM E s (am_w s 168 0 0) := ⟨fun q a => am_w_row (by omega), am_w_x (by decide), am_w_x (by decide), am_w_row (by decide), am_w_row (by decide), am_w_row (sg_q gd (by decide))⟩
theorem iN_k1 {E : am_Ev} {s s1 : am_S} (h : iN s) (hn : s 25 0 ≤ 20) (k : kX E s s1) : iN s1 := iN_c h hn (by rw [k.m 168 (by decide) (by decide)]) k.n0 k.r (k.m 169 (by decide) (by decide))
theorem iN_k2 {E : am_Ev} {s1 s2 : am_S} (h : iN s1) (hn : s1 25 0 ≤ 20) (k : kM E s1 s2) : iN s2 := iN_c h hn k.n1 (by rw [k.x 25 (by decide)]) (fun q a b => k.x q (by omega)) k.d
theorem iAll_k {n : Nat} {E E1 : am_Ev} {s s1 s2 : am_S} (h : iAll n E s) (eE : iE (n + 1) E1) (es : E1.2.2.1 = E.2.2.1) (k1 : kX E s s1) (x1 : iX s1) (k2 : kM E s1 s2) (m2 : iM s2) (f : iF (n + 1) s2) : iAll (n + 1) E1 s2 := by
  have hn := (i_n h).1.2
  have n1 := iN_k1 h.nn hn k1
  refine ⟨eE, iX_c x1 (fun q hq => k2.x q (by omega)), m2, iN_k2 n1 (by rw [k1.n0]; exact hn) k2, iT_c h.t es ?_ ?_ ?_ ?_, f⟩
  · rw [k2.t5, k1.m 168 (by decide) (by decide)]
  · rw [k2.x 2 (by decide), k1.t2]
  · rw [k2.sg, k1.sg]
  · rw [k2.t, k1.m 171 (by decide) (by decide)]
/-- the flags after both, where tour and penalties stay -/
theorem iF_k {n : Nat} {E : am_Ev} {s s1 s2 : am_S} (h : iAll n E s) (k1 : kX E s s1) (k2 : kM E s1 s2) (e1 : ∀ q, 151 ≤ q → q ≤ 161 → q ≠ 158 → q ≠ 159 → s1 q = s q) (e191 : s2 191 = s1 191) (e183 : s2 183 = s1 183) (f29 : s2 168 29 = s1 168 29) (f14 : s2 168 14 = s1 48 0) (f18 : s2 168 18 = s1 58 0) (f24 : s2 168 24 = s1 127 0) : iF (n + 1) s2 := by
  have hn := (i_n h).1.2
  have hf := iF_s h.f
  have x : ∀ q, q < 168 → s2 q = s1 q := k2.x
  have e161 : s2 161 = s 161 := by rw [x 161 (by decide), e1 161 (by decide) (by decide) (by decide) (by decide)]
  have e151 : s2 151 = s 151 := by rw [x 151 (by decide), e1 151 (by decide) (by decide) (by decide) (by decide)]
  refine ⟨by rw [f14, x 48 (by decide)], by rw [f18, x 58 (by decide)], by rw [f24, x 127 (by decide)], by rw [f29, e151, k1.m 168 (by decide) (by decide)]; exact hf.f29, by rw [e191, e161, k1.m 191 (by decide) (by decide)]; exact hf.pe, by rw [e161]; exact hf.pb, fun z => ?_⟩
  rw [e151] at z
  have t := hf.to z
  rw [x 25 (by decide), k1.n0, x 152 (by decide), e1 152 (by decide) (by decide) (by decide) (by decide), e183, k1.m 183 (by decide) (by decide)]
  refine ⟨t.1, fun p q p0 p1 q0 q1 => ?_⟩
  have := t.2 p q p0 p1 q0 q1
  unfold mx at this ⊢
  rw [x _ (by omega), x _ (by omega), k1.r _ (by omega) (by omega), k1.r _ (by omega) (by omega)]
  exact this
/-- soundness is one -/
theorem sound_eq {E : am_Ev} {s s1 : am_S} (hN : iN s) (hk : lk_to s s1) {sx sm : am_S} (e1 : sx 168 1 = s 168 1) (ey : my sx = my s) (h : fl_is (sx 168 1) (my sx) (sm 168 12) (sm 174 0) (sm 174 1) (sm 174 2)) : s1 47 0 = sm 168 12 ∧ s1 47 1 = sm 174 0 ∧ s1 47 2 = sm 174 1 ∧ s1 47 3 = sm 174 2 := by
  rw [e1, ey] at h
  exact cmp_flaw (s2 := s) hN hk h
section PAIRS5
variable {n : Nat} {E : am_Ev} {s : am_S}
theorem mk_my {E : am_Ev} {s s1 : am_S} (k : kX E s s1) : s1 168 1 = s 168 1 ∧ my s1 = my s := ⟨by rw [k.m 168 (by decide) (by decide)], by funext a b; unfold my; rw [k.m 169 (by decide) (by decide)]⟩
theorem w0_my {s : am_S} : am_w s 168 0 0 168 1 = s 168 1 ∧ my (am_w s 168 0 0) = my s := ⟨am_w_x (by decide), by funext a b; unfold my; rw [am_w_row (by decide)]⟩
/-- nothing but the look was done -/
theorem iAll_lk {s1 s2 : am_S} (h : iAll n E s) (k : lk_to s s1) (hF : am_Fm [174] [12] (am_w s1 168 0 0) s2) : iAll (n + 1) E s2 := by
  have gd := h.e.d
  have k1 := kX_lk gd k
  have k2 := kM_t (kM_0 (s := s1) gd) (kM_F gd hF (by decide) (by decide) (by decide))
  have x1 := iX_lk h.x k
  have e : ∀ q, q ≠ 25 → q ≠ 47 → s1 q = s q := fun q a b => k.1 q (fun z => by simp at z; omega)
  refine iAll_k h (iE_s h.e) rfl k1 x1 k2 (iM_F (iM_0 (iM_q h.m k1.m)) hF) (iF_k h k1 k2 (fun q a b _ _ => e q (by omega) (by omega)) ?_ ?_ ?_ ?_ ?_ ?_)
  · rw [hF.1 191 (by decide), am_w_row (by decide)]
  · rw [hF.1 183 (by decide), am_w_row (by decide)]
  · rw [hF.2 29 (by decide), am_w_x (by decide)]
  · rw [hF.2 14 (by decide), am_w_x (by decide), e 168 (by decide) (by decide), e 48 (by decide) (by decide)]; exact h.f.f14
  · rw [hF.2 18 (by decide), am_w_x (by decide), e 168 (by decide) (by decide), e 58 (by decide) (by decide)]; exact h.f.f18
  · rw [hF.2 24 (by decide), am_w_x (by decide), e 168 (by decide) (by decide), e 127 (by decide) (by decide)]; exact h.f.f24
theorem p_flaw (h : iAll n E s) (a : Int32) : am_pairI (am_hp E s) 131 180 [.int a] (wInv (n + 1)) := by
  have gd := h.e.d
  rw [iI_of a]
  refine mk_pairI h.e.g (am_wp_mono (t_flawX (d := 26) h.e.g h.x.hx.hm h.x.lk (iI_r a)) ?_)
  rintro rv g (⟨c1, rfl, rfl⟩ | ⟨c1, s1, rfl, k, rfl⟩)
  · refine ⟨_, E, s, rfl, rfl, h.e.g, am_wp_mono (t_flawM (d := 27) h.e.g h.m.hy.hm (iI_r a)) ?_⟩
    rintro rv g (⟨d1, rfl, rfl⟩ | ⟨d1, -⟩)
    · exact ⟨rfl, E, _, rfl, iAll_0 h⟩
    · exact absurd d1 c1
  · have k1 := kX_lk gd k
    have m1 := iM_q h.m k1.m
    refine ⟨_, E, s1, rfl, rfl, h.e.g, am_wp_mono (t_flawM (d := 27) (s := s1) h.e.g m1.hy.hm (iI_r a)) ?_⟩
    rintro rv g (⟨d1, -⟩ | ⟨d1, s2, rfl, hF, fl, rfl⟩)
    · exact absurd c1 d1
    · have u := sound_eq (E := E) h.nn k (mk_my k1).1 (mk_my k1).2 fl
      refine ⟨?_, E, s2, rfl, iAll_lk h k hF⟩
      congr 2
      by_cases z : a.toInt = 0
      · rw [if_pos z, z, u.1]
      · rw [if_neg z]
        rcases (show a.toInt = 1 ∨ a.toInt = 2 ∨ a.toInt = 3 by omega) with y | y | y
        · rw [y, u.2.1]; rfl
        · rw [y, u.2.2.1]; rfl
        · rw [y, u.2.2.2]; rfl
theorem tM_mk {s1 s2 : am_S} {al : Int} (e1 : s2 168 1 = s1 168 1) (ey : my s2 = my s1) (h1 : gw_ok (s1 168 1) 0 (fm s1 0) ((s1 168 1 - 0).toNat - 1) (fun c => 0 ≤ c) (s2 192) al) (h2 : s2 168 16 = al) (h3 : s2 168 20 = oc (dgf (s2 192) (s1 168 1).toNat) (s1 168 1).toNat) (h4 : od_is (dgf (s2 192) (s1 168 1).toNat) (s1 168 1).toNat (s2 177)) (h5 : -200000000000000000 ≤ al ∧ al ≤ 200000000000000000) : tM s2 := by
  subst h2
  refine ⟨?_, by rw [e1]; exact h3, by rw [e1]; exact h4, h5⟩
  rw [e1]
  have : fm s2 0 = fm s1 0 := by funext a b; unfold fm; rw [ey, if_pos rfl, if_pos rfl]
  rw [this]; exact h1
theorem p_tree (h : iAll n E s) : am_pairJ (am_hp E s) 132 185 [] (wInv (n + 1)) := by
  have gd := h.e.d
  refine mk_pairJ h.e.g (am_wp_mono (t_treeX (d := 25) h.e.g h.x.hx.hm h.x.lk h.x.hx.hp h.x.hx.hf) ?_)
  rintro rv g ⟨s1, k, hh⟩
  have k1 := kX_lk gd k
  have x1 := iX_lk h.x k
  have hh2 : (s1 47 0 ≠ 0 ∧ rv = some (.long (lI (-103))) ∧ g = am_hp E s1) ∨ (s1 47 0 = 0 ∧ ∃ s2, nTr s1 s2 ∧ rv = some (.long (lI (s2 48 1))) ∧ g = am_hp E s2) := by
    rcases hh with ⟨a, b, c⟩ | ⟨a, a2, b, c⟩ | ⟨a, a2, s2, c1, c2, c3, b, c⟩
    · exact Or.inl ⟨a, b, c⟩
    · exact Or.inr ⟨a, s1, Or.inl ⟨a2, rfl⟩, b, c⟩
    · exact Or.inr ⟨a, s2, Or.inr ⟨a2, c1, c2, c3⟩, b, c⟩
  rcases hh2 with ⟨z, rfl, rfl⟩ | ⟨z, s2, tr, rfl, rfl⟩
  · have m1 := iM_q h.m k1.m
    refine ⟨_, E, s1, rfl, rfl, h.e.g, am_wp_mono (t_treeM (d := 25) (s := s1) h.e.g m1.hy.hm m1.hy.hp) ?_⟩
    rintro rv g (⟨s3, hF, fl, y, rfl, rfl⟩ | ⟨al, s3, s4, hF, fl, y, -⟩)
    · exact ⟨rfl, E, s3, rfl, iAll_lk h k hF⟩
    · have u := sound_eq (E := E) h.nn k (sx := am_w s1 168 0 0) (w0_my.1.trans (mk_my k1).1) (w0_my.2.trans (mk_my k1).2) fl
      omega
  · have k2 := kX_t k1 (kX_tr gd tr)
    obtain ⟨x2, f48, tx⟩ := iX_tr x1 tr
    have m1 := iM_q h.m k2.m
    refine ⟨_, E, s2, rfl, rfl, h.e.g, am_wp_mono (t_treeM (d := 25) (s := s2) h.e.g m1.hy.hm m1.hy.hp) ?_⟩
    rintro rv g (⟨s3, hF, fl, y, -⟩ | ⟨al, s3, s4, hF, fl, y, hF4, g1, g2, g3, g4, g5, g6, rfl, rfl⟩)
    · have u := sound_eq (E := E) h.nn k (sx := am_w s2 168 0 0) (w0_my.1.trans (mk_my k2).1) (w0_my.2.trans (mk_my k2).2) fl
      omega
    · have m3 := iM_F (iM_0 m1) hF
      have e4 : s4 168 1 = s3 168 1 := hF4.2 1 (by decide)
      have ey4 : my s4 = my s3 := by funext a b; unfold my; rw [hF4.1 169 (by decide)]
      have tm := tM_mk e4 ey4 g1 g3 g4 g5 g6
      have m4 := iM_tree m3 hF4 g2 tm
      have q := kM_t (kM_t (kM_0 (s := s2) gd) (kM_F gd hF (by decide) (by decide) (by decide))) (kM_F gd hF4 (by decide) (by decide) (by decide))
      have e2 : ∀ q, 57 < q → q ≠ 25 → q ≠ 47 → s2 q = s q := fun q a b c => by rw [nTr_f tr q (by omega)]; exact k.1 q (fun z => by simp at z; omega)
      have al4 : iAll (n + 1) E s4 := iAll_k h (iE_s h.e) rfl k2 x2 q m4 (iF_k h k2 q (fun q a b _ _ => e2 q (by omega) (by omega) (by omega)) (by rw [hF4.1 191 (by decide), hF.1 191 (by decide), am_w_row (by decide)]) (by rw [hF4.1 183 (by decide), hF.1 183 (by decide), am_w_row (by decide)]) (by rw [hF4.2 29 (by decide), hF.2 29 (by decide), am_w_x (by decide)]) (by rw [g2, f48]) (by rw [hF4.2 18 (by decide), hF.2 18 (by decide), am_w_x (by decide), e2 168 (by decide) (by decide) (by decide), e2 58 (by decide) (by decide) (by decide)]; exact h.f.f18) (by rw [hF4.2 24 (by decide), hF.2 24 (by decide), am_w_x (by decide), e2 168 (by decide) (by decide) (by decide), e2 127 (by decide) (by decide) (by decide)]; exact h.f.f24))
      have c := (i_tree al4 (by rw [q.x 48 (by decide)]; exact f48)).2.1
      rw [q.x 48 (by decide)] at c
      refine ⟨by rw [c, g3], E, s4, rfl, al4⟩
theorem p_match (h : iAll n E s) : am_pairJ (am_hp E s) 136 191 [] (wInv (n + 1)) := by
  have gd := h.e.d
  refine mk_pairJ h.e.g (am_wp_mono (t_matchX (d := 13) h.e.g h.x.hx.hm h.x.lk h.x.hx.hp h.x.hx.hf h.x.hx.hg h.x.hx.ht) ?_)
  rintro rv g ⟨s1, k, ⟨z, rfl, rfl⟩ | ⟨z, s2, s3, tr, pa, rfl, rfl⟩⟩
  · have k1 := kX_lk gd k
    have m1 := iM_q h.m k1.m
    refine ⟨_, E, s1, rfl, rfl, h.e.g, am_wp_mono (t_matchM (d := 24) (s := s1) h.e.g m1.hy.hm m1.hy.hp m1.hy.hf (fun y => (tM_q m1.hy.hm (m1.hy.ht y)).1)) ?_⟩
    rintro rv g ⟨s4, hF, fl, ⟨y, rfl, rfl⟩ | ⟨y, -⟩⟩
    · exact ⟨rfl, E, s4, rfl, iAll_lk h k hF⟩
    · have u := sound_eq (E := E) h.nn k (sx := am_w s1 168 0 0) (w0_my.1.trans (mk_my k1).1) (w0_my.2.trans (mk_my k1).2) fl
      omega
  · have k1 := kX_lk gd k
    have x1 := iX_lk h.x k
    obtain ⟨x2, f48, tx⟩ := iX_tr x1 tr
    obtain ⟨x3, f58, f48'⟩ := iX_pa x2 f48 pa
    have k3 := kX_t (kX_t k1 (kX_tr gd tr)) (kX_pa gd pa)
    have m1 := iM_q h.m k3.m
    refine ⟨_, E, s3, rfl, rfl, h.e.g, am_wp_mono (t_matchM (d := 24) (s := s3) h.e.g m1.hy.hm m1.hy.hp m1.hy.hf (fun y => (tM_q m1.hy.hm (m1.hy.ht y)).1)) ?_⟩
    rintro rv g ⟨s4, hF, fl, ⟨y, -⟩ | ⟨y, s5, s6, nt, qr, rfl, rfl⟩⟩
    · have u := sound_eq (E := E) h.nn k (sx := am_w s3 168 0 0) (w0_my.1.trans (mk_my k3).1) (w0_my.2.trans (mk_my k3).2) fl
      omega
    · have m4 := iM_F (iM_0 m1) hF
      obtain ⟨m5, f14, tm⟩ := iM_nTM m4 nt
      obtain ⟨m6, g14, g18, qp⟩ := iM_qRes m5 f14 qr
      have hF5 := (nTM_m m4.hy.ht nt).2.2
      have hF6 := qr.fr
      have q := kM_t (kM_t (kM_t (kM_0 (s := s3) gd) (kM_F gd hF (by decide) (by decide) (by decide))) (kM_F gd hF5 (by decide) (by decide) (by decide))) (kM_F gd hF6 (by decide) (by decide) (by decide))
      have e3 : ∀ q, 126 < q → s3 q = s q := fun q a => by rw [nPa_f pa q (by omega), nTr_f tr q (by omega)]; exact k.1 q (fun z => by simp at z; omega)
      have al6 : iAll (n + 1) E s6 := iAll_k h (iE_s h.e) rfl k3 x3 q m6 (iF_k h k3 q (fun q a b _ _ => e3 q (by omega)) (by rw [hF6.1 191 (by decide), hF5.1 191 (by decide), hF.1 191 (by decide), am_w_row (by decide)]) (by rw [hF6.1 183 (by decide), hF5.1 183 (by decide), hF.1 183 (by decide), am_w_row (by decide)]) (by rw [hF6.2 29 (by decide), hF5.2 29 (by decide), hF.2 29 (by decide), am_w_x (by decide)]) (by rw [g14, f48']) (by rw [g18, f58]) (by rw [hF6.2 24 (by decide), hF5.2 24 (by decide), hF.2 24 (by decide), am_w_x (by decide), e3 168 (by decide), e3 127 (by decide)]; exact h.f.f24))
      have c := (i_pair al6 (by rw [q.x 58 (by decide)]; exact f58)).2.1
      rw [q.x 58 (by decide)] at c
      exact ⟨by rw [c], E, s6, rfl, al6⟩
theorem p_round (h : iAll n E s) : am_pairI (am_hp E s) 139 196 [] (wInv (n + 1)) := by
  have gd := h.e.d
  have b := h.x.hx
  refine mk_pairI h.e.g (am_wp_mono (t_roundX (d := 13) h.e.g h.x.lk b.hm b.hp b.hf b.hg b.hw b.ht b.hpa) ?_)
  rintro rv g ⟨s1, k, ⟨z, rfl, rfl⟩ | ⟨z, s2, s3, s4, tr, pa, wk, rfl, rfl⟩⟩
  · have k1 := kX_lk gd k
    have m1 := iM_q h.m k1.m
    refine ⟨_, E, s1, rfl, rfl, h.e.g, am_wp_mono (t_roundM (d := 23) (s := s1) h.e.g m1.hy.hm m1.hy.hp m1.hy.hf m1.hy.hg (fun y => tM_q m1.hy.hm (m1.hy.ht y)) m1.hy.hq) ?_⟩
    rintro rv g ⟨s5, hF, fl, ⟨y, rfl, rfl⟩ | ⟨y, -⟩⟩
    · exact ⟨rfl, E, s5, rfl, iAll_lk h k hF⟩
    · have u := sound_eq (E := E) h.nn k (sx := am_w s1 168 0 0) (w0_my.1.trans (mk_my k1).1) (w0_my.2.trans (mk_my k1).2) fl
      omega
  · have k1 := kX_lk gd k
    have x1 := iX_lk h.x k
    obtain ⟨x2, f48, tx⟩ := iX_tr x1 tr
    obtain ⟨x3, f58, f48'⟩ := iX_pa x2 f48 pa
    obtain ⟨x4, f127, g58, g48, wx⟩ := iX_wk x3 f58 wk
    have k4 := kX_t (kX_t (kX_t k1 (kX_tr gd tr)) (kX_pa gd pa)) (kX_wk gd wk)
    have m1 := iM_q h.m k4.m
    refine ⟨_, E, s4, rfl, rfl, h.e.g, am_wp_mono (t_roundM (d := 23) (s := s4) h.e.g m1.hy.hm m1.hy.hp m1.hy.hf m1.hy.hg (fun y => tM_q m1.hy.hm (m1.hy.ht y)) m1.hy.hq) ?_⟩
    rintro rv g ⟨s5, hF, fl, ⟨y, -⟩ | ⟨y, s6, s7, nq, yw, rfl, rfl⟩⟩
    · have u := sound_eq (E := E) h.nn k (sx := am_w s4 168 0 0) (w0_my.1.trans (mk_my k4).1) (w0_my.2.trans (mk_my k4).2) fl
      omega
    · have m5 := iM_F (iM_0 m1) hF
      obtain ⟨m6, h14, h18⟩ := iM_nQM m5 nq
      have hF6 := (nQM_m m5.hy nq).2.2.2.2
      have e61 : s6 168 1 = s5 168 1 := hF6.2 1 (by decide)
      obtain ⟨m7, h24, g18, g14, wy⟩ := iM_yW m6 h18 (by rw [e61]; exact yw)
      have hF7 := (yW_m yw (by rw [e61])).2.2
      have q := kM_t (kM_t (kM_t (kM_0 (s := s4) gd) (kM_F gd hF (by decide) (by decide) (by decide))) (kM_F gd hF6 (by decide) (by decide) (by decide))) (kM_F gd hF7 (by decide) (by decide) (by decide))
      have e4 : ∀ q, 150 < q → s4 q = s q := fun q a => by rw [nWk_f wk q (by omega), nPa_f pa q (by omega), nTr_f tr q (by omega)]; exact k.1 q (fun z => by simp at z; omega)
      have al7 : iAll (n + 1) E s7 := iAll_k h (iE_s h.e) rfl k4 x4 q m7 (iF_k h k4 q (fun q a b _ _ => e4 q (by omega)) (by rw [hF7.1 191 (by decide), hF6.1 191 (by decide), hF.1 191 (by decide), am_w_row (by decide)]) (by rw [hF7.1 183 (by decide), hF6.1 183 (by decide), hF.1 183 (by decide), am_w_row (by decide)]) (by rw [hF7.2 29 (by decide), hF6.2 29 (by decide), hF.2 29 (by decide), am_w_x (by decide)]) (by rw [g14, g48]) (by rw [g18, g58]) (by rw [h24, f127]))
      have c := (i_walk al7 (by rw [q.x 127 (by decide)]; exact f127)).1
      rw [q.x 127 (by decide)] at c
      exact ⟨by rw [c], E, s7, rfl, al7⟩
end PAIRS5
