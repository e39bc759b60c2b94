/-! THE PAIRS: best, build -/
/-- the class's part but for its tour -/
abbrev iX0 (s : am_S) : Prop := Nonempty (PProd (bHx s) (PProd (lk_ok s) (PProd (∀ y, 0 ≤ y → y < 20 → s 54 y = 0) (PProd (s 58 0 = 1 → pP s) (PProd (0 ≤ s 48 2 ∧ s 48 2 ≤ 20) (0 ≤ s 127 1 ∧ s 127 1 ≤ 40))))))
theorem iX0.hx {s : am_S} (h_ : iX0 s) : bHx s := h_.elim (fun x_ => x_.1)
theorem iX0.lk {s : am_S} (h_ : iX0 s) : lk_ok s := h_.elim (fun x_ => x_.2.1)
theorem iX0.z54 {s : am_S} (h_ : iX0 s) : ∀ y, 0 ≤ y → y < 20 → s 54 y = 0 := h_.elim (fun x_ => x_.2.2.1)
theorem iX0.pp {s : am_S} (h_ : iX0 s) : s 58 0 = 1 → pP s := h_.elim (fun x_ => x_.2.2.2.1)
theorem iX0.r48 {s : am_S} (h_ : iX0 s) : 0 ≤ s 48 2 ∧ s 48 2 ≤ 20 := h_.elim (fun x_ => x_.2.2.2.2.1)
theorem iX0.r127 {s : am_S} (h_ : iX0 s) : 0 ≤ s 127 1 ∧ s 127 1 ≤ 40 := h_.elim (fun x_ => x_.2.2.2.2.2)
theorem iX_0 {s : am_S} (h : iX s) : iX0 s := ⟨h.hx, h.lk, h.z54, h.pp, h.r48, h.r127⟩
theorem iX_of {s : am_S} (h : iX0 s) (tf : s 151 0 = 0 ∨ s 151 0 = 1) (tt : s 151 0 = 1 → s 151 1 = s 25 0 ∧ tOK (s 25 0).toNat (s 152)) (r : 0 ≤ s 151 1 ∧ s 151 1 ≤ 20) : iX s := ⟨h.hx, h.lk, h.z54, h.pp, tf, tt, h.r48, h.r127, r⟩
theorem iX0_c {s s1 : am_S} (h : iX0 s) (e : ∀ q, 25 ≤ q → q < 151 → s1 q = s q) : iX0 s1 := by
  have m2 := h.hx.hm.2.1
  have e25 := e 25 (by decide) (by decide)
  refine ⟨bHx_c2 h.hx (by rw [e25]) (fun q q0 hq _ => e q (by omega) (by omega)), lk_c h.lk m2 (by rw [e25]) (by rw [e25]) (fun a a0 a1 => e a (by omega) (by omega)) (e 47 (by decide) (by decide)), by rw [e 54 (by decide) (by decide)]; exact h.z54, fun z => ?_, by rw [e 48 (by decide) (by decide)]; exact h.r48, by rw [e 127 (by decide) (by decide)]; exact h.r127⟩
  rw [e 58 (by decide) (by decide)] at z
  exact pP_c (h.pp z) (fun a a0 a1 => e a (by omega) (by omega)) (by rw [e25]) (by rw [e 48 (by decide) (by decide)]) (e 55 (by decide) (by decide)) (e 60 (by decide) (by decide)) (by rw [e 58 (by decide) (by decide)]) (by rw [e 58 (by decide) (by decide)])
theorem iX0_tr {s s1 : am_S} (h : iX0 s) (k : nTr s s1) : iX0 s1 ∧ s1 48 0 = 1 ∧ tX s1 := by
  have hm := h.hx.hm
  obtain ⟨t1, t2, t3, t4⟩ := nTr_t hm h.hx.ht k
  refine ⟨?_, t3, t2⟩
  rcases k with ⟨-, rfl⟩ | ⟨z, hF, h1, h2⟩
  · exact h
  · have e : ∀ q, q < 48 ∨ q = 49 ∨ q = 54 ∨ 57 < q → s1 q = s q := fun q hq => hF q (fun y => by simp at y; omega)
    have z58 : s 58 0 ≠ 1 := fun y => by have := (h.hx.hpa y).1; omega
    have z127 : s 127 0 ≠ 1 := fun y => z58 (h.hx.hwx y).1
    have m2 := hm.2.1
    refine ⟨⟨t1, fun c c0 c1 => by rw [e 54 (by omega)]; exact h.hx.hp c c0 c1, Or.inr t3, by rw [e 58 (by omega)]; exact h.hx.hg, by rw [e 127 (by omega)]; exact h.hx.hw, fun _ => t2, fun y => absurd (by rw [e 58 (by omega)] at y; exact y) z58, fun y => absurd (by rw [e 127 (by omega)] at y; exact y) z127⟩, lk_c h.lk m2 (by rw [e 25 (by omega)]) (by rw [e 25 (by omega)]) (fun a a0 a1 => e a (by omega)) (e 47 (by omega)), by rw [e 54 (by omega)]; exact h.z54, fun y => absurd (by rw [e 58 (by omega)] at y; exact y) z58, ?_, by rw [e 127 (by omega)]; exact h.r127⟩
    have q := oc_le (dgf (s1 50) (s 25 0).toNat) (s 25 0).toNat
    have q2 : s1 48 2 = oc (dgf (s1 50) (s 25 0).toNat) (s 25 0).toNat := h2.2.1
    omega
theorem iX0_pa {s s1 : am_S} (h : iX0 s) (ht : s 48 0 = 1) (k : nPa s s1) : iX0 s1 ∧ s1 58 0 = 1 ∧ s1 48 0 = 1 := by
  rcases k with ⟨z, rfl⟩ | ⟨z, hR⟩
  · exact ⟨h, z, ht⟩
  · have hm := h.hx.hm
    have m2 := hm.2.1
    have e : ∀ q, q < 58 ∨ 126 < q → s1 q = s q := hR.fr
    obtain ⟨a, b⟩ := tX_mk hm (h.hx.ht ht) hR.fr
    have z127 : s 127 0 ≠ 1 := fun y => by have := (h.hx.hwx y).1; omega
    have t1 : s1 48 0 = 1 := by rw [e 48 (by omega)]; exact ht
    refine ⟨⟨⟨a, fun c c0 c1 => by rw [e 54 (by omega)]; exact h.hx.hp c c0 c1, Or.inr t1, Or.inr hR.made, by rw [e 127 (by omega)]; exact h.hx.hw, fun _ => b, fun _ => ⟨t1, pRes_pr hm hR⟩, fun y => absurd (by rw [e 127 (by omega)] at y; exact y) z127⟩, lk_c h.lk m2 (by rw [e 25 (by omega)]) (by rw [e 25 (by omega)]) (fun a a0 a1 => e a (by omega)) (e 47 (by omega)), by rw [e 54 (by omega)]; exact h.z54, fun _ => pRes_pP hR, by rw [e 48 (by omega)]; exact h.r48, by rw [e 127 (by omega)]; exact h.r127⟩, hR.made, t1⟩
theorem iX0_wk {s s1 : am_S} (h : iX0 s) (hp : s 58 0 = 1) (k : nWk s s1) : iX0 s1 ∧ s1 127 0 = 1 ∧ s1 58 0 = 1 ∧ s1 48 0 = 1 ∧ wX s1 := by
  have p1 := h.hx.hpa hp
  rcases k with ⟨z, rfl⟩ | ⟨z, hR⟩
  · exact ⟨h, z, hp, p1.1, (h.hx.hwx z).2⟩
  · have hm := h.hx.hm
    have m2 := hm.2.1
    have e := xW_f hR
    have e' : ∀ q, q < 127 ∨ 150 < q → s1 q = s q := fun q hq => e q (by omega) (by omega) (by omega) (by omega)
    obtain ⟨w1, w2⟩ := xW_wX hR
    obtain ⟨a, b⟩ := tX_lo hm (h.hx.ht p1.1) (fun q hq => e' q (by omega))
    have t1 : s1 48 0 = 1 := by rw [e' 48 (by omega)]; exact p1.1
    have t2 : s1 58 0 = 1 := by rw [e' 58 (by omega)]; exact hp
    refine ⟨⟨⟨a, fun c c0 c1 => by rw [e' 54 (by omega)]; exact h.hx.hp c c0 c1, Or.inr t1, Or.inr t2, Or.inr w2, fun _ => b, fun _ => ⟨t1, ?_⟩, fun _ => ⟨t2, w1⟩⟩, lk_c h.lk m2 (by rw [e' 25 (by omega)]) (by rw [e' 25 (by omega)]) (fun a a0 a1 => e' a (by omega)) (e' 47 (by omega)), by rw [e' 54 (by omega)]; exact h.z54, fun _ => pP_c (h.pp hp) (fun a a0 a1 => e' a (by omega)) (by rw [e' 25 (by omega)]) (by rw [e' 48 (by omega)]) (e' 55 (by omega)) (e' 60 (by omega)) (by rw [e' 58 (by omega)]) (by rw [e' 58 (by omega)]), by rw [e' 48 (by omega)]; exact h.r48, ?_⟩, w2, t2, t1, w1⟩
    · have := p1.2
      unfold pr at this ⊢
      rw [e' 25 (by omega), e' 60 (by omega)]; exact this
    · obtain ⟨b0, -, q2, -, q4, -⟩ := w1
      omega
theorem iM_nRM {s s1 : am_S} (h : iM s) (k : nRM s s1) : iM s1 := by
  rcases k with ⟨-, rfl⟩ | ⟨-, s2, a, b⟩
  · exact h
  · obtain ⟨c, d, e⟩ := iM_nQM h a
    have e61 := (nQM_m h.hy a).2.2.2.2.2 1 (by decide)
    exact (iM_yW c e (by rw [e61]; exact b)).1
theorem fl_s {n : Int} {D : Int → Int → Int} {a b c : Int} (h : fl_is n D 0 a b c) : fl_sym n D := by
  rcases h with h | h | h | h
  · exact h.2.2.2.2.2.1
  · omega
  · omega
  · omega
section PAIRS7
variable {n : Nat} {E : am_Ev} {s : am_S}
theorem p_best (h : iAll n E s) : am_pairJ (am_hp E s) 146 213 [] (wInv (n + 1)) := by
  have gd := h.e.d
  have nn := i_n h
  have en := h.nn.en
  refine mk_pairJ h.e.g (t_bestX (d := 25) h.e.g gd h.x.hx.hm h.x.lk ?_ ?_ ?_)
  · intro s1 k z
    have k1 := kX_lk gd k
    have m1 := iM_q h.m k1.m
    have snd : ∀ (sm : am_S), fl_is (am_w s1 168 0 0 168 1) (my (am_w s1 168 0 0)) (sm 168 12) (sm 174 0) (sm 174 1) (sm 174 2) → s1 47 0 = sm 168 12 := fun sm fl => (sound_eq (E := E) h.nn k (sx := am_w s1 168 0 0) (w0_my.1.trans (mk_my k1).1) (w0_my.2.trans (mk_my k1).2) fl).1
    exact ⟨_, E, s1, rfl, rfl, h.e.g, t_bestM (d := 26) (s := s1) h.e.g m1.hy.hm (fun s2 hF fl y => ⟨rfl, E, s2, rfl, iAll_lk h k hF⟩) (fun s2 hF fl y _ => by have := snd s2 fl; omega) (fun s2 s7 hF fl y _ _ _ _ => by have := snd s2 fl; omega)⟩
  · intro s1 k z big
    have k1 := kX_lk gd k
    have m1 := iM_q h.m k1.m
    have snd : ∀ (sm : am_S), fl_is (am_w s1 168 0 0 168 1) (my (am_w s1 168 0 0)) (sm 168 12) (sm 174 0) (sm 174 1) (sm 174 2) → s1 47 0 = sm 168 12 := fun sm fl => (sound_eq (E := E) h.nn k (sx := am_w s1 168 0 0) (w0_my.1.trans (mk_my k1).1) (w0_my.2.trans (mk_my k1).2) fl).1
    have n1 : am_w s1 168 0 0 168 1 = s 25 0 := by rw [w0_my.1, (mk_my k1).1]; exact en
    exact ⟨_, E, s1, rfl, rfl, h.e.g, t_bestM (d := 26) (s := s1) h.e.g m1.hy.hm (fun s2 hF fl y => by have := snd s2 fl; omega) (fun s2 hF fl y _ => ⟨rfl, E, s2, rfl, iAll_lk h k hF⟩) (fun s2 s7 hF fl y sm _ _ _ => by omega)⟩
  · intro s1 E2 s2 k z small gr kp c1 f1 wd
    have k1 := kX_lk gd k
    have x1 := iX_lk h.x k
    have g1 := h.e.g.1
    have hh := lo_none gd.h0
    have sn := lo_none gd.s0
    have ss := gd.s1
    have kq : ∀ q, 1 ≤ q → q ≤ 193 → q ≠ 3 → q ≠ 159 → q ≠ 151 → q ≠ 152 → q ≠ 158 → s2 q = s1 q := fun q a b c d e f g => kp q (by omega) (by omega) (by simp; exact ⟨e, f, g⟩)
    have ksg : s2 E.2.2.1.1 = s1 E.2.2.1.1 := kp _ ss.2 gd.ne (by simp; omega)
    have kk2 : kX E s1 s2 := ⟨fun q a b => kq q (by omega) (by omega) (by omega) (by omega) (by omega) (by omega) (by omega), fun q a b => kq q (by omega) (by omega) (by omega) (by omega) (by omega) (by omega) (by omega), by rw [kq 25 (by decide) (by decide) (by decide) (by decide) (by decide) (by decide) (by decide)], kq 2 (by decide) (by decide) (by decide) (by decide) (by decide) (by decide) (by decide), ksg⟩
    have k2 := kX_t k1 kk2
    have tok := wyD_ok (by omega) wd
    have x2 : iX s2 := iX_of (iX0_c (iX_0 x1) (fun q a b => kq q (by omega) (by omega) (by omega) (by omega) (by omega) (by omega) (by omega))) (Or.inr f1) (fun _ => by rw [k2.n0]; exact ⟨c1, tok⟩) (by rw [c1]; omega)
    have m2 := iM_q h.m k2.m
    have n2 : am_w s2 168 0 0 168 1 = s 25 0 := by rw [w0_my.1, (mk_my k2).1]; exact en
    have y2 : my (am_w s2 168 0 0) = my s := by rw [(w0_my (s := s2)).2, (mk_my k2).2]
    have snd : ∀ (sm : am_S), fl_is (am_w s2 168 0 0 168 1) (my (am_w s2 168 0 0)) (sm 168 12) (sm 174 0) (sm 174 1) (sm 174 2) → s1 47 0 = sm 168 12 := fun sm fl => (sound_eq (E := E) h.nn k (sx := am_w s2 168 0 0) (w0_my.1.trans (mk_my k2).1) (w0_my.2.trans (mk_my k2).2) fl).1
    refine ⟨_, E2, s2, rfl, rfl, gr.g, t_bestM (d := 26) (s := s2) gr.g m2.hy.hm (fun s3 hF fl y => by have := snd s3 fl; omega) (fun s3 hF fl y b => by omega) ?_⟩
    intro s3 s7 hF fl y _ hF7 f7 wd7
    rw [n2, y2] at wd7
    rw [n2, y2]
    have ag := wyD_uniq (by omega) (fun a b a0 a1 b0 b1 => h.nn.em a b a0 (by omega) b0 (by omega)) wd wd7
    have tok7 := wyD_ok (by omega) wd7
    have q := kM_t (kM_t (kM_0 (s := s2) gd) (kM_F gd hF (by decide) (by decide) (by decide))) (kM_F gd hF7 (by decide) (by decide) (by decide))
    have m3 := iM_F (iM_0 m2) hF
    have n3 : s3 168 1 = s 25 0 := by rw [hF.2 1 (by decide)]; exact n2
    have m7 : iM s7 := iM_to m3 (fun q hq => hF7.1 q (by simp; omega)) (fun y hy => hF7.2 y (by simp; exact hy)) (Or.inr f7) (fun _ => by rw [n3]; exact tok7)
    have w : ∀ y, y ≠ 0 → y ≠ 12 → y ≠ 29 → s7 168 y = s 168 y := fun y y0 y1 y2 => by rw [hF7.2 y (by simp; exact y2), hF.2 y (by simp; exact y1), am_w_x y0, k2.m 168 (by decide) (by decide)]
    have fs : ∀ q, q < 151 → 47 < q → s2 q = s q := fun q a b => by rw [kq q (by omega) (by omega) (by omega) (by omega) (by omega) (by omega) (by omega)]; exact k.1 q (fun z => by simp at z; omega)
    have e161 : s2 161 = s 161 := by rw [kq 161 (by decide) (by decide) (by decide) (by decide) (by decide) (by decide) (by decide)]; exact k.1 161 (by decide)
    have rs := h.e.rs
    have rc := h.e.rc
    have gc := gr.c
    have fl0 : fl_sym (s 25 0) (mx s) := fl_s (a := s1 47 1) (b := s1 47 2) (c := s1 47 3) (by have q := k.2.2.2; rw [z] at q; exact q)
    refine ⟨?_, E2, s7, rfl, iAll_k h ⟨gr.g, gr.d, by omega, rs_step gr.sl rs, by rw [gr.sg]; exact h.e.h8⟩ gr.sg k2 x2 q m7 (iF_to h k2 q e161 (by rw [hF7.1 191 (by decide), hF.1 191 (by decide), am_w_row (by decide)]) (by rw [w 14 (by decide) (by decide) (by decide), fs 48 (by decide) (by decide)]; exact h.f.f14) (by rw [w 18 (by decide) (by decide) (by decide), fs 58 (by decide) (by decide)]; exact h.f.f18) (by rw [w 24 (by decide) (by decide) (by decide), fs 127 (by decide) (by decide)]; exact h.f.f24) (by rw [f7, f1]) (fun _ => ⟨fun i i0 i1 => ag i i0 (by omega), fl0⟩))⟩
    rw [tl_congr (D2 := my s) (t2 := s7 183) (fun a b a0 a1 b0 b1 => h.nn.em a b a0 a1 b0 b1) (tOK_st (by omega) tok).1 (fun i i0 i1 => ag i i0 (by omega)) _ (by omega)]
/-- what the class does ahead of a tour -/
theorem bS0_all {ru : Int} {s1 s4 : am_S} (gd : am_Ed E) (x1 : iX0 s1) (h : bS0 ru s1 s4) : iX0 s4 ∧ kX E s1 s4 ∧ (∀ q, 150 < q → q ≠ 151 → s4 q = s1 q) ∧ s4 151 1 = s1 25 0 ∧ s4 151 0 = 1 ∧ ((ru = 0 ∧ s4 48 0 = 1 ∧ s4 58 0 = 1 ∧ s4 127 0 = 1) ∨ (ru ≠ 0 ∧ ∀ q, q < 151 → s4 q = s1 q)) := by
  have t0 : iX0 (tst s1) := iX0_c x1 (fun q a b => tst_f (by omega))
  have kt : kX E s1 (tst s1) := kX_f gd (fun q hq => tst_f (by omega))
  have z0 : tst s1 151 0 = 1 := am_w_eq _ _ _ _
  rcases h with ⟨z, s2, s3, a, b, c⟩ | ⟨z, rfl⟩
  · obtain ⟨x2, f48, -⟩ := iX0_tr t0 a
    obtain ⟨x3, f58, f48'⟩ := iX0_pa x2 f48 b
    obtain ⟨x4, f127, g58, g48, -⟩ := iX0_wk x3 f58 c
    have fr : ∀ q, 150 < q → s4 q = tst s1 q := fun q hq => by rw [nWk_f c q (by omega), nPa_f b q (by omega), nTr_f a q (by omega)]
    exact ⟨x4, kX_t kt (kX_t (kX_t (kX_tr gd a) (kX_pa gd b)) (kX_wk gd c)), fun q hq h1 => by rw [fr q hq]; exact tst_f h1, by rw [fr 151 (by decide)]; exact tst_1, by rw [fr 151 (by decide)]; exact z0, Or.inl ⟨z, g48, g58, f127⟩⟩
  · exact ⟨t0, kt, fun q _ h1 => tst_f h1, tst_1, z0, Or.inr ⟨z, fun q hq => tst_f (by omega)⟩⟩
theorem p_build (h : iAll n E s) (a b : Int32) : am_pairJ (am_hp E s) 141 204 [.int a, .int b] (wInv (n + 1)) := by
  have gd := h.e.d
  have nn := i_n h
  have en := h.nn.en
  rw [iI_of a, iI_of b]
  have va := iI_r a
  have vb := iI_r b
  generalize a.toInt = A at va ⊢
  generalize b.toInt = B at vb ⊢
  have w1 : ∀ sx : am_S, sx 168 = s 168 → am_w sx 168 0 0 168 1 = s 25 0 := fun sx e => by rw [am_w_x (by decide), e]; exact en
  refine mk_pairJ h.e.g (t_buildX (d := 13) h.e.g h.x.hx h.x.lk va vb ?_ ?_ ?_ ?_)
  · intro c1
    exact ⟨_, E, s, rfl, rfl, h.e.g, t_buildM (d := 23) h.e.g h.m.hy va vb (fun _ => ⟨rfl, E, _, rfl, iAll_0 h⟩) (fun d1 => absurd ⟨d1.1, d1.2.1⟩ c1) (fun d1 => absurd d1 c1) (fun d1 => absurd d1 c1)⟩
  · intro c1 c2
    have e1 := w1 s rfl
    exact ⟨_, E, s, rfl, rfl, h.e.g, t_buildM (d := 23) h.e.g h.m.hy va vb (fun d1 => absurd ⟨c1.1, c1.2.1⟩ d1) (fun _ _ => ⟨rfl, E, _, rfl, iAll_0 h⟩) (fun _ d2 => absurd (by rw [e1] at d2; exact d2 c1.2.2) c2) (fun _ d2 => absurd (by rw [e1] at d2; exact d2 c1.2.2) c2)⟩
  · intro c1 c2 s1 k z
    have k1 := kX_lk gd k
    have m1 := iM_q h.m k1.m
    have e1 := w1 s1 (k1.m 168 (by decide) (by decide))
    have snd : ∀ (sm : am_S), fl_is (am_w s1 168 0 0 168 1) (my (am_w s1 168 0 0)) (sm 168 12) (sm 174 0) (sm 174 1) (sm 174 2) → s1 47 0 = sm 168 12 := fun sm fl => (sound_eq (E := E) h.nn k (sx := am_w s1 168 0 0) (w0_my.1.trans (mk_my k1).1) (w0_my.2.trans (mk_my k1).2) fl).1
    exact ⟨_, E, s1, rfl, rfl, h.e.g, t_buildM (d := 23) (s := s1) h.e.g m1.hy va vb (fun d1 => absurd c1 d1) (fun d1 d2 => absurd (by rw [e1]; exact c2 d1.2.2) d2) (fun _ _ s2 hF fl y => ⟨rfl, E, s2, rfl, iAll_lk h k hF⟩) (fun _ _ s2 s4 s7 hF fl y _ _ _ _ => by have := snd s2 fl; omega)⟩
  · intro c1 c2 s1 s4 s5 k z b0 hF5 bt
    have k1 := kX_lk gd k
    have x1 := iX_lk h.x k
    obtain ⟨x4, k4, fr4, t1, t0, cs⟩ := bS0_all gd (iX_0 x1) b0
    have e5 : ∀ q, q ≠ 152 → q ≠ 154 → q ≠ 155 → q ≠ 156 → q ≠ 157 → s5 q = s4 q := fun q a b c d e => hF5 q (by simp; exact ⟨a, b, c, d, e⟩)
    have k5 : kX E s s5 := kX_t (kX_t k1 k4) (kX_f gd (fun q hq => e5 q (by omega) (by omega) (by omega) (by omega) (by omega)))
    have e151 : s5 151 = s4 151 := e5 151 (by decide) (by decide) (by decide) (by decide) (by decide)
    have tok := bt.1
    have x5 : iX s5 := iX_of (iX0_c x4 (fun q a b => e5 q (by omega) (by omega) (by omega) (by omega) (by omega))) (Or.inr (by rw [e151]; exact t0)) (fun _ => by rw [k5.n0, e151, t1, k1.n0]; exact ⟨rfl, tok⟩) (by rw [e151, t1, k1.n0]; omega)
    have m5 := iM_q h.m k5.m
    have e1 := w1 s5 (k5.m 168 (by decide) (by decide))
    have y5 : my (am_w s5 168 0 0) = my s := by rw [(w0_my (s := s5)).2, (mk_my k5).2]
    have snd : ∀ (sm : am_S), fl_is (am_w s5 168 0 0 168 1) (my (am_w s5 168 0 0)) (sm 168 12) (sm 174 0) (sm 174 1) (sm 174 2) → s1 47 0 = sm 168 12 := fun sm fl => (sound_eq (E := E) h.nn k (sx := am_w s5 168 0 0) (w0_my.1.trans (mk_my k5).1) (w0_my.2.trans (mk_my k5).2) fl).1
    refine ⟨_, E, s5, rfl, rfl, h.e.g, t_buildM (d := 23) (s := s5) h.e.g m5.hy va vb (fun d1 => absurd c1 d1) (fun d1 d2 => absurd (by rw [e1]; exact c2 d1.2.2) d2) (fun _ _ s2 hF fl y => by have := snd s2 fl; omega) ?_⟩
    intro _ _ s2 sb s7 hF fl y b1 hF7 f7 bt7
    have m2 := iM_F (iM_0 m5) hF
    have hFb := bS1_f m2.hy b1
    have mb : iM sb := by
      rcases b1 with ⟨-, r⟩ | ⟨-, rfl⟩
      · exact iM_nRM m2 r
      · exact m2
    have n2 : s2 168 1 = s 25 0 := by rw [hF.2 1 (by decide)]; exact e1
    have nb : sb 168 1 = s 25 0 := by rw [hFb.2 1 (by decide)]; exact n2
    have y2 : my s2 = my s := by rw [← y5]; funext p q; unfold my; rw [hF.1 169 (by decide)]
    rw [e1, y2] at bt7
    have tok7 := bt7.1
    have m7 : iM s7 := iM_to mb (fun q hq => hF7.1 q (by simp; omega)) (fun y hy => hF7.2 y (by simp; exact hy)) (Or.inr f7) (fun _ => by rw [nb]; exact tok7)
    have q := kM_t (kM_t (kM_t (kM_0 (s := s5) gd) (kM_F gd hF (by decide) (by decide) (by decide))) (kM_F gd hFb (by decide) (by decide) (by decide))) (kM_F gd hF7 (by decide) (by decide) (by decide))
    have n5 := iN_k1 h.nn nn.1.2 k5
    have n7 := iN_k2 n5 (by rw [k5.n0]; exact nn.1.2) q
    have x7 : iX s7 := iX_c x5 (fun p hp => q.x p (by omega))
    have mxs : ∀ p r, 0 ≤ p → p < s 25 0 → 0 ≤ r → r < s 25 0 → mx s1 p r = my s p r := fun p r p0 p1 r0 r1 => by
      rw [← h.nn.em p r p0 p1 r0 r1]
      unfold mx
      rw [k1.r _ (by omega) (by omega)]
    -- the flags of both
    have ff : s7 168 14 = s5 48 0 ∧ s7 168 18 = s5 58 0 ∧ s7 168 24 = s5 127 0 ∧ (A = 0 → (∀ c, 0 ≤ c → c < ((s 25 0).toNat : Int) → s4 50 c = sb 192 c) ∧ ∀ c, 0 ≤ c → c < ((s 25 0).toNat : Int) → s4 60 c = sb 178 c) := by
      have v : ∀ y, y ≠ 29 → s7 168 y = sb 168 y := fun y hy => hF7.2 y (by simp; exact hy)
      have u : ∀ p, p < 151 → s5 p = s4 p := fun p hp => e5 p (by omega) (by omega) (by omega) (by omega) (by omega)
      rw [v 14 (by decide), v 18 (by decide), v 24 (by decide), u 48 (by decide), u 58 (by decide), u 127 (by decide)]
      rcases b1 with ⟨ru, r⟩ | ⟨ru, rfl⟩
      · rcases cs with ⟨-, g48, g58, g127⟩ | ⟨r0, -⟩
        · obtain ⟨tm, h14, -, h18, wy, h24, -⟩ := nRM_m m2.hy r
          refine ⟨by rw [h14, g48], by rw [h18, g58], by rw [h24, g127], fun _ => ?_⟩
          have z48 : s7 48 0 = 1 := by rw [q.x 48 (by decide), u 48 (by decide)]; exact g48
          have z58 : s7 58 0 = 1 := by rw [q.x 58 (by decide), u 58 (by decide)]; exact g58
          have z14 : s7 168 14 = 1 := by rw [v 14 (by decide)]; exact h14
          have z18 : s7 168 18 = 1 := by rw [v 18 (by decide)]; exact h18
          have ct := cmp_tree n7 x7 m7 (x7.hx.ht z48) (m7.hy.ht z14)
          have cp := cmp_pair n7 x7 m7 (x7.hx.ht z48) (m7.hy.ht z14) (x7.pp z58) (m7.qp z18)
          have n70 : s7 25 0 = s 25 0 := by rw [q.x 25 (by decide)]; exact k5.n0
          refine ⟨fun c d0 d1 => ?_, fun c d0 d1 => ?_⟩
          · have := ct.1 c d0 (by omega)
            rw [q.x 50 (by decide), u 50 (by decide), hF7.1 192 (by decide)] at this
            exact this
          · have := cp.1 c d0 (by omega)
            rw [q.x 60 (by decide), u 60 (by decide), hF7.1 178 (by decide)] at this
            exact this
        · exact absurd ru r0
      · rcases cs with ⟨r0, -⟩ | ⟨-, e4⟩
        · exact absurd r0 ru
        · have w : ∀ y, y ≠ 0 → y ≠ 12 → sb 168 y = s 168 y := fun y y0 y1 => by rw [hF.2 y (by simp; exact y1), am_w_x y0, k5.m 168 (by decide) (by decide)]
          have v4 : ∀ p, 47 < p → p < 151 → s4 p = s p := fun p p0 p1 => by rw [e4 p p1]; exact k.1 p (fun z => by simp at z; omega)
          refine ⟨by rw [w 14 (by decide) (by decide), v4 48 (by decide) (by decide)]; exact h.f.f14, by rw [w 18 (by decide) (by decide), v4 58 (by decide) (by decide)]; exact h.f.f18, by rw [w 24 (by decide) (by decide), v4 127 (by decide) (by decide)]; exact h.f.f24, fun z => absurd z ru⟩
    have ag := bT_uniq (fun p r p0 p1 r0 r1 => mxs p r p0 (by omega) r0 (by omega)) ff.2.2.2 (fun z => by have := c2 z; omega) bt bt7
    have e161 : s5 161 = s 161 := by rw [e5 161 (by decide) (by decide) (by decide) (by decide) (by decide), fr4 161 (by decide) (by decide)]; exact k.1 161 (by decide)
    have fl0 : fl_sym (s 25 0) (mx s) := fl_s (a := s1 47 1) (b := s1 47 2) (c := s1 47 3) (by have q := k.2.2.2; rw [z] at q; exact q)
    refine ⟨?_, E, s7, rfl, iAll_k h (iE_s h.e) rfl k5 x5 q m7 (iF_to h k5 q e161 (by rw [hF7.1 191 (by decide), hFb.1 191 (by decide), hF.1 191 (by decide), am_w_row (by decide)]) ff.1 ff.2.1 ff.2.2.1 (by rw [f7, e151, t0]) (fun _ => ⟨fun i i0 i1 => ag i i0 (by omega), fl0⟩))⟩
    rw [e1, y2, tl_congr (D2 := my s) (t2 := s7 183) (fun p r p0 p1 r0 r1 => mxs p r p0 p1 r0 r1) (tOK_st (by omega) tok).1 (fun i i0 i1 => ag i i0 (by omega)) _ (by omega)]
end PAIRS7
