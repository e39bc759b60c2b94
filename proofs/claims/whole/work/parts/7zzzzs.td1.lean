/-! WHAT STANDS BETWEEN CALLS: the other one's part, and both -/
theorem iM_c {s s1 : am_S} (h : iM s) (e : ∀ q, q = 169 ∨ q = 177 ∨ q = 178 ∨ q = 180 ∨ q = 183 ∨ q = 192 → s1 q = s q) (hp : pn_ok s1 191) (f : ∀ y, y = 1 ∨ y = 14 ∨ y = 16 ∨ y = 18 ∨ y = 20 ∨ y = 22 ∨ y = 24 ∨ y = 26 ∨ y = 29 → s1 168 y = s 168 y) : iM s1 := by
  have e1 := f 1 (by decide)
  refine ⟨⟨my_c e1 (e 169 (by decide)) h.hy.hm, hp, by rw [f 14 (by decide)]; exact h.hy.hf, by rw [f 18 (by decide)]; exact h.hy.hg, by rw [f 24 (by decide)]; exact h.hy.hw, fun z => tM_c e1 (f 16 (by decide)) (f 20 (by decide)) (e 169 (by decide)) (e 177 (by decide)) (e 192 (by decide)) (h.hy.ht (by rw [← f 14 (by decide)]; exact z)), fun z => ?_, fun z => ?_⟩, fun z => ?_, by rw [f 29 (by decide)]; exact h.tf, by rw [f 29 (by decide), e1, e 183 (by decide)]; exact h.tt, by rw [f 20 (by decide)]; exact h.r20, by rw [f 26 (by decide)]; exact h.r26⟩
  · rw [f 18 (by decide)] at z
    rw [f 14 (by decide)]
    exact ⟨(h.hy.hq z).1, prM_c e1 (e 178 (by decide)) (h.hy.hq z).2⟩
  · rw [f 24 (by decide)] at z
    rw [f 18 (by decide)]
    exact ⟨(h.hy.hwy z).1, wY_c e1 (f 26 (by decide)) (e 192 (by decide)) (e 178 (by decide)) (e 180 (by decide)) (h.hy.hwy z).2⟩
  · rw [f 18 (by decide)] at z
    exact qP_c (h.qp z) (e 169 (by decide)) e1 (fun c _ => by unfold qOm; rw [f 20 (by decide), e 177 (by decide)]) h.hy.hm.2.1 (fun c _ _ => by rw [e 178 (by decide)]) (f 22 (by decide))
theorem iM_q {s s1 : am_S} (h : iM s) (e : ∀ q, 168 ≤ q → q ≤ 193 → s1 q = s q) : iM s1 := iM_c h (fun q hq => e q (by omega) (by omega)) (fun c c0 c1 => by rw [e 191 (by decide) (by decide)]; exact h.hy.hp c c0 c1) (fun y _ => by rw [e 168 (by decide) (by decide)])
theorem iM_0 {s : am_S} (h : iM s) : iM (am_w s 168 0 0) := iM_c h (fun q hq => am_w_row (by omega)) (fun c c0 c1 => by rw [am_w_row (by decide)]; exact h.hy.hp c c0 c1) (fun y hy => am_w_x (by omega))
theorem iM_F {s s1 : am_S} (h : iM s) (hF : am_Fm [174] [12] s s1) : iM s1 := iM_c h (fun q hq => hF.1 q (fun z => by simp at z; omega)) (fun c c0 c1 => by rw [hF.1 191 (by decide)]; exact h.hy.hp c c0 c1) (fun y hy => hF.2 y (fun z => by simp at z; omega))
theorem od_eq {D : Int → Int} {N : Nat} {od od2 : Int → Int} (h : od_is D N od) (h2 : od_is D N od2) {i : Int} (i0 : 0 ≤ i) (i1 : i < oc D N) : od i = od2 i := by
  obtain ⟨m, m1, m2, m3⟩ := oc_ex D i0 i1
  rw [← m3, h m m1 m2, h2 m m1 m2]
theorem gw_eq {n : Int} {f f2 : Int → Int → Int} {k : Nat} {I I2 : Int → Prop} {hu hu2 od od2 : Int → Int} {al al2 oc1 oc2 : Int} (hf : ∀ p q, 0 ≤ p → p < n → 0 ≤ q → q < n → f p q = f2 p q) (h : gw_ok n 0 f k I hu al) (h2 : gw_ok n 0 f2 k I2 hu2 al2) (n0 : 0 ≤ n) (o1 : oc1 = oc (dgf hu n.toNat) n.toNat) (o2 : oc2 = oc (dgf hu2 n.toNat) n.toNat) (d1 : od_is (dgf hu n.toNat) n.toNat od) (d2 : od_is (dgf hu2 n.toNat) n.toNat od2) : (∀ c, 0 ≤ c → c < n → hu c = hu2 c) ∧ al = al2 ∧ oc1 = oc2 ∧ ∀ i, 0 ≤ i → i < oc1 → od i = od2 i := by
  obtain ⟨-, a, b⟩ := gw_uniq (Int.le_refl 0) hf k h h2
  have e : dgf hu n.toNat = dgf hu2 n.toNat := by
    funext c
    exact dgf_congr n.toNat (fun c c0 c1 => a c c0 (by omega)) c
  rw [← e] at o2 d2
  refine ⟨a, b, by rw [o1, o2], fun i i0 i1 => od_eq d1 d2 i0 (by omega)⟩
theorem tM_eq {s s2 : am_S} (e1 : s2 168 1 = s 168 1) (e169 : s2 169 = s 169) (n0 : 0 ≤ s 168 1) (h : tM s) (h2 : tM s2) : (∀ c, 0 ≤ c → c < s 168 1 → s 192 c = s2 192 c) ∧ s 168 16 = s2 168 16 ∧ s 168 20 = s2 168 20 ∧ ∀ i, 0 ≤ i → i < s 168 20 → s 177 i = s2 177 i := by
  obtain ⟨a, b, c, d⟩ := h
  obtain ⟨a2, b2, c2, d2⟩ := h2
  rw [e1] at a2 b2 c2
  refine gw_eq (fun p q _ _ _ _ => ?_) a a2 n0 b b2 c c2
  unfold fm my
  rw [e169, if_pos rfl, if_pos rfl]
theorem im_eq {k k2 : Int} {e e2 : Int → Int} (hk : k = k2) (k0 : 0 ≤ k) (h : ∀ i, 0 ≤ i → i < k → e i = e2 i) (c : Nat) : mt_im k.toNat (fun i => (e (i : Int)).toNat) c = mt_im k2.toNat (fun i => (e2 (i : Int)).toNat) c := by
  subst hk
  have : ∀ b : Bool, ∀ b2 : Bool, (b = true ↔ b2 = true) → b = b2 := by decide
  refine this _ _ ⟨fun z => ?_, fun z => ?_⟩
  · obtain ⟨i, i1, i2⟩ := mt_im_t.mp z
    exact mt_im_t.mpr ⟨i, i1, by rw [← h i (by omega) (by omega)]; exact i2⟩
  · obtain ⟨i, i1, i2⟩ := mt_im_t.mp z
    exact mt_im_t.mpr ⟨i, i1, by rw [h i (by omega) (by omega)]; exact i2⟩
theorem wkL_c {N : Nat} {hu pa hu2 pa2 : Int → Int} {b : wS} (h1 : ∀ c, 0 ≤ c → c < (N : Int) → hu c = hu2 c) (h2 : ∀ c, 0 ≤ c → c < (N : Int) → pa c = pa2 c) (h : wkL N hu pa b) : wkL N hu2 pa2 b := by
  obtain ⟨k, a, c⟩ := h
  rw [w0_c h1 h2] at a
  exact ⟨k, a, c⟩
theorem wY_e {s s1 : am_S} (e1 : s1 168 1 = s 168 1) (e26 : s1 168 26 = s 168 26) (e180 : s1 180 = s 180) (n0 : 0 ≤ s 168 1) (h192 : ∀ c, 0 ≤ c → c < s 168 1 → s 192 c = s1 192 c) (h178 : ∀ c, 0 ≤ c → c < s 168 1 → s 178 c = s1 178 c) (h : wY s) : wY s1 := by
  obtain ⟨b, a1, a2, a3, a4, a5⟩ := h
  refine ⟨b, ?_, by rw [e26]; exact a2, by rw [e180]; exact a3, a4, by rw [e1]; exact a5⟩
  rw [e1]
  exact wkL_c (fun c c0 c1 => h192 c c0 (by omega)) (fun c c0 c1 => h178 c c0 (by omega)) a1
/-- the tree, made again or not -/
theorem iM_tree {s s1 : am_S} (h : iM s) (hF : am_Fm [186, 175, 192, 176, 177] [14, 16, 20] s s1) (f1 : s1 168 14 = 1) (ht : tM s1) : iM s1 := by
  have e1 : s1 168 1 = s 168 1 := hF.2 1 (by decide)
  have e169 : s1 169 = s 169 := hF.1 169 (by decide)
  have e178 : s1 178 = s 178 := hF.1 178 (by decide)
  have hm := h.hy.hm
  have m1 := hm.1
  have m2 := hm.2.1
  have key := fun z => tM_eq e1 e169 (by omega) (h.hy.ht z) ht
  have w18 : s1 168 18 = s 168 18 := hF.2 18 (by decide)
  have w24 : s1 168 24 = s 168 24 := hF.2 24 (by decide)
  refine ⟨⟨my_c e1 e169 hm, fun c c0 c1 => by rw [hF.1 191 (by decide)]; exact h.hy.hp c c0 c1, Or.inr f1, by rw [w18]; exact h.hy.hg, by rw [w24]; exact h.hy.hw, fun _ => ht, fun z => ⟨f1, prM_c e1 e178 (h.hy.hq (by rw [← w18]; exact z)).2⟩, fun z => ?_⟩, fun z => ?_, by rw [hF.2 29 (by decide)]; exact h.tf, by rw [hF.2 29 (by decide), e1, hF.1 183 (by decide)]; exact h.tt, ?_, by rw [hF.2 26 (by decide)]; exact h.r26⟩
  · rw [w24] at z
    have q := h.hy.hwy z
    have k := key (h.hy.hq q.1).1
    exact ⟨by rw [w18]; exact q.1, wY_e e1 (hF.2 26 (by decide)) (hF.1 180 (by decide)) (by omega) k.1 (fun c _ _ => by rw [e178]) q.2⟩
  · rw [w18] at z
    have k := key (h.hy.hq z).1
    exact qP_c (h.qp z) e169 e1 (fun c _ => (im_eq k.2.2.1 h.r20.1 k.2.2.2 c).symm) m2 (fun c _ _ => by rw [e178]) (hF.2 22 (by decide))
  · have q := oc_le (dgf (s1 192) (s1 168 1).toNat) (s1 168 1).toNat
    have q2 := ht.2.1
    omega
theorem iM_nTM {s s1 : am_S} (h : iM s) (k : nTM s s1) : iM s1 ∧ s1 168 14 = 1 ∧ tM s1 := by
  obtain ⟨a, b, c⟩ := nTM_m h.hy.ht k
  exact ⟨iM_tree h c b a, b, a⟩
theorem qP_eq {s s1 : am_S} (e1 : s1 168 1 = s 168 1) (hn : s 168 1 ≤ 20) (eO : qOm s1 = qOm s) (eW : qW s1 = qW s) (h : qP s) (h1 : qP s1) : ∀ c, 0 ≤ c → c < s 168 1 → s 178 c = s1 178 c := by
  intro c c0 c1
  obtain ⟨k, rfl⟩ : ∃ k : Nat, c = k := ⟨c.toNat, by omega⟩
  cases z : qOm s k
  · rw [h.1 k c1 z, h1.1 k (by omega) (by rw [eO]; exact z)]
  · have u := mt_lex_uniq h.2.2.1 (by rw [← eO, ← eW]; exact h1.2.2.1) k (by omega) z
    have u : (s 178 (k : Int)).toNat = (s1 178 (k : Int)).toNat := u
    have a := h.2.1 k (by omega) z
    have b := h1.2.1 k (by omega) (by rw [eO]; exact z)
    omega
theorem iM_qRes {s s1 : am_S} (h : iM s) (f14 : s 168 14 = 1) (k : qRes s s1) : iM s1 ∧ s1 168 14 = 1 ∧ s1 168 18 = 1 ∧ qP s1 := by
  have hF := k.fr
  have e1 : s1 168 1 = s 168 1 := hF.2 1 (by decide)
  have hm := h.hy.hm
  have m1 := hm.1
  have m2 := hm.2.1
  have qp := qRes_qP k
  have w14 : s1 168 14 = 1 := (hF.2 14 (by decide)).trans f14
  have w24 : s1 168 24 = s 168 24 := hF.2 24 (by decide)
  have ht : tM s1 := tM_c e1 (hF.2 16 (by decide)) (hF.2 20 (by decide)) (hF.1 169 (by decide)) (hF.1 177 (by decide)) (hF.1 192 (by decide)) (h.hy.ht f14)
  have pm : prM s1 := fun c c0 c1 => by
    obtain ⟨j, rfl⟩ : ∃ k : Nat, c = k := ⟨c.toNat, by omega⟩
    cases z : qOm s1 j
    · have := qp.1 j c1 z
      omega
    · have := qp.2.1 j (by omega) z
      omega
  refine ⟨⟨⟨my_c e1 (hF.1 169 (by decide)) hm, fun c c0 c1 => by rw [hF.1 191 (by decide)]; exact h.hy.hp c c0 c1, Or.inr w14, Or.inr k.made, by rw [w24]; exact h.hy.hw, fun _ => ht, fun _ => ⟨w14, pm⟩, fun z => ⟨k.made, ?_⟩⟩, fun _ => qp, by rw [hF.2 29 (by decide)]; exact h.tf, by rw [hF.2 29 (by decide), e1, hF.1 183 (by decide)]; exact h.tt, by rw [hF.2 20 (by decide)]; exact h.r20, by rw [hF.2 26 (by decide)]; exact h.r26⟩, w14, k.made, qp⟩
  rw [w24] at z
  have q := h.hy.hwy z
  refine wY_e e1 (hF.2 26 (by decide)) (hF.1 180 (by decide)) (by omega) (fun c _ _ => by rw [hF.1 192 (by decide)]) ?_ q.2
  exact qP_eq e1 m2 (by unfold qOm; rw [hF.2 20 (by decide), hF.1 177 (by decide)]) (by funext a b; unfold qW my; rw [hF.1 169 (by decide)]) (h.qp q.1) qp
theorem iM_nQM {s s1 : am_S} (h : iM s) (k : nQM s s1) : iM s1 ∧ s1 168 14 = 1 ∧ s1 168 18 = 1 := by
  rcases k with ⟨z, rfl⟩ | ⟨-, s2, n1, r⟩
  · exact ⟨h, (h.hy.hq z).1, z⟩
  · obtain ⟨a, b, -⟩ := iM_nTM h n1
    obtain ⟨c, d, e, -⟩ := iM_qRes a b r
    exact ⟨c, d, e⟩
theorem iM_yW {s s1 : am_S} (h : iM s) (f18 : s 168 18 = 1) (k : yW s s1 (s 168 1).toNat) : iM s1 ∧ s1 168 24 = 1 ∧ s1 168 18 = 1 ∧ s1 168 14 = 1 ∧ wY s1 := by
  obtain ⟨a, b, hF⟩ := yW_m k rfl
  have e1 : s1 168 1 = s 168 1 := hF.2 1 (by decide)
  have q := h.hy.hq f18
  have w18 : s1 168 18 = 1 := (hF.2 18 (by decide)).trans f18
  have w14 : s1 168 14 = 1 := (hF.2 14 (by decide)).trans q.1
  refine ⟨⟨⟨my_c e1 (hF.1 169 (by decide)) h.hy.hm, fun c c0 c1 => by rw [hF.1 191 (by decide)]; exact h.hy.hp c c0 c1, Or.inr w14, Or.inr w18, Or.inr b, fun _ => tM_c e1 (hF.2 16 (by decide)) (hF.2 20 (by decide)) (hF.1 169 (by decide)) (hF.1 177 (by decide)) (hF.1 192 (by decide)) (h.hy.ht q.1), fun _ => ⟨w14, prM_c e1 (hF.1 178 (by decide)) q.2⟩, fun _ => ⟨w18, a⟩⟩, fun _ => qP_c (h.qp f18) (hF.1 169 (by decide)) e1 (fun c _ => by unfold qOm; rw [hF.2 20 (by decide), hF.1 177 (by decide)]) h.hy.hm.2.1 (fun c _ _ => by rw [hF.1 178 (by decide)]) (hF.2 22 (by decide)), by rw [hF.2 29 (by decide)]; exact h.tf, by rw [hF.2 29 (by decide), e1, hF.1 183 (by decide)]; exact h.tt, by rw [hF.2 20 (by decide)]; exact h.r20, ?_⟩, b, w18, w14, a⟩
  obtain ⟨c, -, a2, -, a4, -⟩ := a
  omega
theorem iM_to {s s1 : am_S} (h : iM s) (e : ∀ q, q = 169 ∨ q = 177 ∨ q = 178 ∨ q = 180 ∨ q = 191 ∨ q = 192 → s1 q = s q) (f : ∀ y, y ≠ 29 → s1 168 y = s 168 y) (tf : s1 168 29 = 0 ∨ s1 168 29 = 1) (tt : s1 168 29 = 1 → tOK (s 168 1).toNat (s1 183)) : iM s1 := by
  have e1 := f 1 (by decide)
  refine ⟨bHy_c h.hy e e1 (f 14 (by decide)) (f 16 (by decide)) (f 18 (by decide)) (f 20 (by decide)) (f 24 (by decide)) (f 26 (by decide)), fun z => ?_, tf, by rw [e1]; exact tt, by rw [f 20 (by decide)]; exact h.r20, by rw [f 26 (by decide)]; exact h.r26⟩
  rw [f 18 (by decide)] at z
  exact qP_c (h.qp z) (e 169 (by decide)) e1 (fun c _ => by unfold qOm; rw [f 20 (by decide), e 177 (by decide)]) h.hy.hm.2.1 (fun c _ _ => by rw [e 178 (by decide)]) (f 22 (by decide))
theorem chg_f {s : am_S} {q : Nat} (h1 : q ≠ 168) (h2 : q ≠ 191) : s_chg s q = s q := by
  funext y
  unfold s_chg
  rw [s_zr_a h2, am_w_a h1, am_w_a h1, am_w_a h1, am_w_a h1]
theorem chg_m {s : am_S} {y : Int} (h : y ≠ 14 ∧ y ≠ 18 ∧ y ≠ 24 ∧ y ≠ 29) : s_chg s 168 y = s 168 y := by
  unfold s_chg
  rw [s_zr_a (by decide), am_w_x h.2.2.2, am_w_x h.2.2.1, am_w_x h.2.1, am_w_x h.1]
theorem chg_p {s : am_S} {y : Int} (h : 0 ≤ y ∧ y < 20) : s_chg s 191 y = 0 := if_pos ⟨rfl, h.1, h.2⟩
theorem iM_new {s : am_S} (hm : my_ok s) (r20 : 0 ≤ s 168 20 ∧ s 168 20 ≤ 20) (r26 : 0 ≤ s 168 26 ∧ s 168 26 ≤ 40) : iM (s_chg s) := by
  have z14 : s_chg s 168 14 = 0 := rfl
  have z18 : s_chg s 168 18 = 0 := rfl
  have z24 : s_chg s 168 24 = 0 := rfl
  have z29 : s_chg s 168 29 = 0 := rfl
  refine ⟨⟨my_c (chg_m (by decide)) (chg_f (by decide) (by decide)) hm, fun c c0 c1 => by rw [chg_p ⟨c0, c1⟩]; omega, Or.inl z14, Or.inl z18, Or.inl z24, fun z => by omega, fun z => by omega, fun z => by omega⟩, fun z => by omega, Or.inl z29, fun z => by omega, by rw [chg_m (by decide)]; exact r20, by rw [chg_m (by decide)]; exact r26⟩
