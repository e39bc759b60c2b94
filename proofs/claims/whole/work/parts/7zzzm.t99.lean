/-! build of the other one -/
def tM (s : am_S) : Prop := gw_ok (s 168 1) 0 (fm s 0) ((s 168 1 - 0).toNat - 1) (fun c => 0 ≤ c) (s 192) (s 168 16) ∧ s 168 20 = oc (dgf (s 192) (s 168 1).toNat) (s 168 1).toNat ∧ od_is (dgf (s 192) (s 168 1).toNat) (s 168 1).toNat (s 177) ∧ (-200000000000000000 ≤ s 168 16 ∧ s 168 16 ≤ 200000000000000000)
theorem tM_c {s s1 : am_S} (e1 : s1 168 1 = s 168 1) (e16 : s1 168 16 = s 168 16) (e20 : s1 168 20 = s 168 20) (e169 : s1 169 = s 169) (e177 : s1 177 = s 177) (e192 : s1 192 = s 192) (h : tM s) : tM s1 := by
  have ef : fm s1 0 = fm s 0 := by
    funext p q
    unfold fm my
    rw [if_pos rfl, if_pos rfl, e169]
  unfold tM at h ⊢
  rw [e1, e16, e20, e177, e192, ef]; exact h
theorem tM_q {s : am_S} (hm : my_ok s) (h : tM s) : qPre s ∧ hM s := by
  have g1 := gw_rng (Int.le_refl 0) h.1
  have g2 := gw_ne (Int.le_refl 0) h.1
  obtain ⟨a, b, c, d⟩ := od_pre ⟨hm.1, hm.2.1⟩ (fun c c0 c1 => g1.2.1 c (by omega) c1 (by show (0 : Int) ≤ c; omega) (by omega)) h.2.1 h.2.2.1
  exact ⟨⟨hm, a, b, c, d⟩, fun c c0 c1 => ⟨g1.2.1 c (by omega) c1 (by show (0 : Int) ≤ c; omega) (by omega), g2 c (by omega) c1 (by show (0 : Int) ≤ c; omega) (by omega)⟩⟩
theorem nTM_m {s s1 : am_S} (ht : s 168 14 = 1 → tM s) (h : nTM s s1) : tM s1 ∧ s1 168 14 = 1 ∧ am_Fm [186, 175, 192, 176, 177] [14, 16, 20] s s1 := by
  rcases h with ⟨z, rfl⟩ | ⟨z, hF, h1, h2, h3, h4, h5⟩
  · exact ⟨ht z, z, am_Fm_r _ _ _⟩
  · have e1 : s1 168 1 = s 168 1 := hF.2 1 (by decide)
    have ef : fm s1 0 = fm s 0 := by
      funext p q
      unfold fm my
      rw [if_pos rfl, if_pos rfl, hF.1 169 (by decide)]
    refine ⟨?_, h2, hF⟩
    unfold tM
    rw [e1, ef]
    exact ⟨h1, h3, h4, h5⟩
def wY (s : am_S) : Prop := ∃ b, wkL (s 168 1).toNat (s 192) (s 178) b ∧ s 168 26 = (b.L.length : Int) ∧ (∀ (i : Nat) v, b.L[i]? = some v → s 180 i = v) ∧ (b.L.length : Int) ≤ 40 ∧ ∀ x, x ∈ b.L → 0 ≤ x ∧ x < ((s 168 1).toNat : Int)
theorem wY_c {s s1 : am_S} (e1 : s1 168 1 = s 168 1) (e26 : s1 168 26 = s 168 26) (e192 : s1 192 = s 192) (e178 : s1 178 = s 178) (e180 : s1 180 = s 180) (h : wY s) : wY s1 := by
  unfold wY at h ⊢
  rw [e1, e26, e192, e178, e180]; exact h
abbrev bHy (s : am_S) : Prop := Nonempty (PProd (my_ok s) (PProd (pn_ok s 191) (PProd (s 168 14 = 0 ∨ s 168 14 = 1) (PProd (s 168 18 = 0 ∨ s 168 18 = 1) (PProd (s 168 24 = 0 ∨ s 168 24 = 1) (PProd (s 168 14 = 1 → tM s) (PProd (s 168 18 = 1 → s 168 14 = 1 ∧ prM s) (s 168 24 = 1 → s 168 18 = 1 ∧ wY s))))))))
theorem bHy.hm {s : am_S} (h_ : bHy s) : my_ok s := h_.elim (fun x_ => x_.1)
theorem bHy.hp {s : am_S} (h_ : bHy s) : pn_ok s 191 := h_.elim (fun x_ => x_.2.1)
theorem bHy.hf {s : am_S} (h_ : bHy s) : s 168 14 = 0 ∨ s 168 14 = 1 := h_.elim (fun x_ => x_.2.2.1)
theorem bHy.hg {s : am_S} (h_ : bHy s) : s 168 18 = 0 ∨ s 168 18 = 1 := h_.elim (fun x_ => x_.2.2.2.1)
theorem bHy.hw {s : am_S} (h_ : bHy s) : s 168 24 = 0 ∨ s 168 24 = 1 := h_.elim (fun x_ => x_.2.2.2.2.1)
theorem bHy.ht {s : am_S} (h_ : bHy s) : s 168 14 = 1 → tM s := h_.elim (fun x_ => x_.2.2.2.2.2.1)
theorem bHy.hq {s : am_S} (h_ : bHy s) : s 168 18 = 1 → s 168 14 = 1 ∧ prM s := h_.elim (fun x_ => x_.2.2.2.2.2.2.1)
theorem bHy.hwy {s : am_S} (h_ : bHy s) : s 168 24 = 1 → s 168 18 = 1 ∧ wY s := h_.elim (fun x_ => x_.2.2.2.2.2.2.2)
theorem bHy_c {s s1 : am_S} (h : bHy s) (e : ∀ q, q = 169 ∨ q = 177 ∨ q = 178 ∨ q = 180 ∨ q = 191 ∨ q = 192 → s1 q = s q) (e1 : s1 168 1 = s 168 1) (e14 : s1 168 14 = s 168 14) (e16 : s1 168 16 = s 168 16) (e18 : s1 168 18 = s 168 18) (e20 : s1 168 20 = s 168 20) (e24 : s1 168 24 = s 168 24) (e26 : s1 168 26 = s 168 26) : bHy s1 :=
  ⟨my_c e1 (e 169 (by decide)) h.hm, fun c c0 c1 => by rw [e 191 (by decide)]; exact h.hp c c0 c1, by rw [e14]; exact h.hf, by rw [e18]; exact h.hg, by rw [e24]; exact h.hw, fun z => tM_c e1 e16 e20 (e 169 (by decide)) (e 177 (by decide)) (e 192 (by decide)) (h.ht (by rw [← e14]; exact z)), fun z => by
    rw [e18] at z
    rw [e14]
    exact ⟨(h.hq z).1, prM_c e1 (e 178 (by decide)) (h.hq z).2⟩, fun z => by
    rw [e24] at z
    rw [e18]
    exact ⟨(h.hwy z).1, wY_c e1 e26 (e 192 (by decide)) (e 178 (by decide)) (e 180 (by decide)) (h.hwy z).2⟩⟩
theorem bHy_F {s s1 : am_S} (h : bHy s) (hF : am_Fm [174] [12] s s1) : bHy s1 := bHy_c h (fun q hq => hF.1 q (fun z => by simp at z; omega)) (hF.2 1 (by decide)) (hF.2 14 (by decide)) (hF.2 16 (by decide)) (hF.2 18 (by decide)) (hF.2 20 (by decide)) (hF.2 24 (by decide)) (hF.2 26 (by decide))
theorem bHy_0 {s : am_S} (h : bHy s) : bHy (am_w s 168 0 0) := bHy_c h (fun q hq => am_w_row (by omega)) rfl rfl rfl rfl rfl rfl rfl
/-- the matching of the other one stands -/
theorem nQM_m {s s2 : am_S} (h : bHy s) (hn : nQM s s2) : tM s2 ∧ s2 168 14 = 1 ∧ prM s2 ∧ s2 168 18 = 1 ∧ am_Fm [186, 175, 192, 176, 177, 178, 179] [14, 16, 20, 18, 22] s s2 := by
  rcases hn with ⟨z, rfl⟩ | ⟨z, s1, n1, hR⟩
  · have q := h.hq z
    exact ⟨h.ht q.1, q.1, q.2, z, am_Fm_r _ _ _⟩
  · obtain ⟨a, b, c⟩ := nTM_m h.ht n1
    obtain ⟨q1, q2, q3⟩ := nQM_t h.hm (fun z => (tM_q h.hm (h.ht z)).2) h.hq (Or.inr ⟨z, s1, n1, hR⟩ : nQM s s2)
    refine ⟨tM_c (hR.fr.2 1 (by decide)) (hR.fr.2 16 (by decide)) (hR.fr.2 20 (by decide)) (hR.fr.1 169 (by decide)) (hR.fr.1 177 (by decide)) (hR.fr.1 192 (by decide)) a, by rw [hR.fr.2 14 (by decide)]; exact b, q3, hR.made, ?_⟩
    exact am_Fm_u (am_Fm_m c (fun b hb => by simp at hb ⊢; omega) (fun b hb => by simp at hb ⊢; omega)) (am_Fm_m hR.fr (fun b hb => by simp at hb ⊢; omega) (fun b hb => by simp at hb ⊢; omega))
def nRM (s s4 : am_S) : Prop := (s 168 24 = 1 ∧ s4 = s) ∨ (s 168 24 = 0 ∧ ∃ s2, nQM s s2 ∧ yW s2 s4 (s 168 1).toNat)
theorem yW_m {s s1 : am_S} {N : Nat} (h : yW s s1 N) (e : N = (s 168 1).toNat) : wY s1 ∧ s1 168 24 = 1 ∧ am_Fm [180, 181, 182] [24, 26] s s1 := by
  obtain ⟨k, b, h1, h2, h3, h4, h5, h6, h7, h8⟩ := h
  subst e
  have e1 : s1 168 1 = s 168 1 := h6.2 1 (by decide)
  refine ⟨⟨b, ?_, h4, h5, h7, by rw [e1]; exact h8⟩, h3, h6⟩
  rw [e1, h6.1 192 (by decide), h6.1 178 (by decide)]
  exact ⟨k, h1, h2⟩
theorem nRM_m {s s4 : am_S} (h : bHy s) (hn : nRM s s4) : tM s4 ∧ s4 168 14 = 1 ∧ prM s4 ∧ s4 168 18 = 1 ∧ wY s4 ∧ s4 168 24 = 1 ∧ am_Fm [186, 175, 192, 176, 177, 178, 179, 180, 181, 182] [14, 16, 20, 18, 22, 24, 26] s s4 := by
  rcases hn with ⟨z, rfl⟩ | ⟨z, s2, n2, hW⟩
  · have q := h.hwy z
    have p := h.hq q.1
    exact ⟨h.ht p.1, p.1, p.2, q.1, q.2, z, am_Fm_r _ _ _⟩
  · obtain ⟨a, b, c, d, e⟩ := nQM_m h n2
    obtain ⟨u, v, w⟩ := yW_m hW (by rw [e.2 1 (by decide)])
    refine ⟨tM_c (w.2 1 (by decide)) (w.2 16 (by decide)) (w.2 20 (by decide)) (w.1 169 (by decide)) (w.1 177 (by decide)) (w.1 192 (by decide)) a, by rw [w.2 14 (by decide)]; exact b, prM_c (w.2 1 (by decide)) (w.1 178 (by decide)) c, by rw [w.2 18 (by decide)]; exact d, u, v, ?_⟩
    exact am_Fm_u (am_Fm_m e (fun b hb => by simp at hb ⊢; omega) (fun b hb => by simp at hb ⊢; omega)) (am_Fm_m w (fun b hb => by simp at hb ⊢; omega) (fun b hb => by simp at hb ⊢; omega))
def bS1 (ru : Int) (s s4 : am_S) : Prop := (ru = 0 ∧ nRM s s4) ∨ (ru ≠ 0 ∧ s4 = s)
theorem bS1_f {ru : Int} {s s4 : am_S} (h : bHy s) (h0 : bS1 ru s s4) : am_Fm [186, 175, 192, 176, 177, 178, 179, 180, 181, 182] [14, 16, 20, 18, 22, 24, 26] s s4 := by
  rcases h0 with ⟨-, a⟩ | ⟨-, rfl⟩
  · exact (nRM_m h a).2.2.2.2.2.2
  · exact am_Fm_r _ _ _
/-! a tour is what it is at its places -/
theorem tOK_t {N : Nat} {t t2 : Int → Int} (hN : 1 ≤ N) (e : ∀ i, 0 ≤ i → i < (N : Int) → t2 i = t i) (h : tOK N t) : tOK N t2 := by
  refine ⟨fun i i0 i1 => by rw [e i i0 i1]; exact h.1 i i0 i1, fun y y0 y1 => ?_, by rw [e 0 (by omega) (by omega)]; exact h.2.2⟩
  obtain ⟨j, j0, j1, j2⟩ := h.2.1 y y0 y1
  exact ⟨j, j0, j1, by rw [e j j0 j1]; exact j2⟩
theorem fo_t {n : Int} {S : jS} {t t2 : Int → Int} (hn : 1 ≤ n) (e : ∀ i, 0 ≤ i → i < n → t2 i = t i) (h : fo n S t) : fo n S t2 := by
  refine ⟨by rw [e 0 (by omega) (by omega)]; exact h.1, fun z => by rw [e 1 (by omega) z]; exact h.2.1 z, fun i i0 i1 => ?_⟩
  rw [e i (by omega) i1, e (i - 1) (by omega) (by omega), e (i - 2) (by omega) (by omega)]
  exact h.2.2 i i0 i1
theorem jp_t {N : Nat} {D : Int → Int → Int} {t t2 : Int → Int} (hN : 1 ≤ N) (e : ∀ i, 0 ≤ i → i < (N : Int) → t2 i = t i) (h : jp N D t) : jp N D t2 := by
  rcases h with ⟨a, b⟩ | ⟨a, b, c⟩ | ⟨a, S, b, c⟩
  · exact Or.inl ⟨a, by rw [e 0 (by omega) (by omega)]; exact b⟩
  · exact Or.inr (Or.inl ⟨a, by rw [e 0 (by omega) (by omega)]; exact b, by rw [e 1 (by omega) (by omega)]; exact c⟩)
  · exact Or.inr (Or.inr ⟨a, S, b, fo_t (by omega) e c⟩)
theorem dt_t {l : Nat → Int} {N k : Nat} {t t2 : Int → Int} (e : ∀ i, 0 ≤ i → i < (N : Int) → t2 i = t i) (h : dt_ok l N k t) : dt_ok l N k t2 := by
  refine ⟨h.1, fun j v hv => ?_⟩
  have lt := (List.getElem?_eq_some_iff.mp hv).1
  rw [h.1] at lt
  rw [e j (by omega) (by omega)]
  exact h.2 j v hv
theorem rt_0 {n p : Int} {t t2 : Int → Int} (hp : 0 ≤ p ∧ p < n) (h0 : t 0 = 0) (hf : ∀ y, 0 ≤ y → y < p → t y ≠ 0) (h : rt n p t t2) : ∀ i, 0 ≤ i → i < n → t2 i = t i := by
  have e : p = 0 := by
    by_cases z : p = 0
    · exact z
    · exact absurd h0 (hf 0 (by omega) (by omega))
  subst e
  intro i i0 i1
  rw [h i i0 i1, if_pos (by omega), show 0 + i = i by omega]
theorem bM_end {d : Nat} {E : am_Ev} {s : am_S} {N : Nat} {ru ci : Int} {s4 s5 : am_S} {PP : Option Value → am_H → Prop} (g : am_Eg E) (hx : bHy s) (en : s 168 1 = (N : Int)) (h0 : bS1 ru s s4) (hF5 : am_Fr [183, 186, 187, 188, 189, 190] s4 s5) (hr : ∀ i, 0 ≤ i → i < (N : Int) → 0 ≤ s5 183 i ∧ s5 183 i < N) (hex : ∃ y, 0 ≤ y ∧ y < (N : Int) ∧ s5 183 y = 0) (K : ∀ p t2, (0 ≤ p ∧ p < (N : Int)) → s5 183 p = 0 → (∀ y, 0 ≤ y → y < p → s5 183 y ≠ 0) → rt N p (s5 183) t2 → bT N (my s) (s4 192) (s4 178) ru ci t2) (hPP : ∀ s4 s7, bS1 ru s s4 → am_Fm [183, 184, 186, 187, 188, 189, 190] [29] s4 s7 → s7 168 29 = 1 → bT N (my s) (s4 192) (s4 178) ru ci (s7 183) → PP (some (.long (lI (tl N (my s) (s7 183) N)))) (am_hp E s7)) : am_wp (d + 2) 204 106 [(0, .ref 168)] [] (am_hp E s5) PP := by
  have n1 := hx.hm.1
  have n2 := hx.hm.2.1
  have e1 : s5 168 1 = (N : Int) := by rw [hF5 168 (by decide), (bS1_f hx h0).2 1 (by decide)]; exact en
  refine am_s rfl rfl ?_
  refine s_cv [] [] rfl g (Or.inl rfl) rfl rfl (Nat.le_of_ble_eq_true rfl) rfl rfl (t_toZero (d := d + 1) (s := s5) g ⟨by omega, by omega⟩ (fun i i0 i1 => by have := hr i i0 (by omega); omega) (by rw [e1]; exact hex)) ?_
  rintro rv h1 ⟨rfl, p, s6, rfl, p1, p2, p3, hF6, hr6⟩
  rw [e1] at p1 hr6
  refine am_s rfl rfl ?_
  refine s_k 1 rfl rfl ?_
  refine s_pi (x := 29) rfl g rfl rfl rfl rfl ?_
  refine am_s rfl rfl ?_
  refine am_s rfl rfl ?_
  refine s_gr rfl g rfl rfl ?_
  have B := K p (s6 183) p1 p2 p3 hr6
  have f6 : am_Fm [183, 184, 186, 187, 188, 189, 190] [29] s4 (am_w s6 168 29 1) := by
    refine ⟨fun q hq => ?_, fun y hy => ?_⟩
    · rw [am_w_row (fun z => hq (by rw [z]; decide)), hF6 q (fun z => hq (by simp at z ⊢; omega))]
      exact hF5 q (fun z => hq (by simp at z ⊢; omega))
    · rw [am_w_x (fun z => hy (by rw [z]; decide)), hF6 168 (by decide), hF5 168 (by decide)]
  have f0 := bS1_f hx h0
  have e168 : am_w s6 168 29 1 168 1 = (N : Int) := by rw [am_w_x (by decide), hF6 168 (by decide)]; exact e1
  have e169 : am_w s6 168 29 1 169 = s 169 := by rw [am_w_row (by decide), hF6 169 (by decide), hF5 169 (by decide), f0.1 169 (by decide)]
  have e183 : am_w s6 168 29 1 183 = s6 183 := am_w_row (by decide)
  have hm7 : my_ok (am_w s6 168 29 1) := my_c (by rw [e168]; exact en.symm) e169 hx.hm
  refine s_cv [_] [] rfl g (Or.inl rfl) rfl rfl (Nat.le_of_ble_eq_true rfl) rfl rfl (t_lengthOf183 (d := d) (s := am_w s6 168 29 1) g hm7 (by rw [e168, e183]; exact B.1.1)) ?_
  rintro rv h1 ⟨rfl, rfl⟩
  refine am_r rfl rfl ?_
  have ey : my (am_w s6 168 29 1) = my s := by funext a b; unfold my; rw [e169]
  rw [e168, ey, show ((N : Int)).toNat = N by omega]
  exact hPP s4 _ h0 f6 (am_w_eq _ _ _ _) (by rw [e183]; exact B)
theorem t_bM0b {d : Nat} {E : am_Ev} {s : am_S} {N : Nat} {ci : Int} {s4 : am_S} {PP : Option Value → am_H → Prop} (g : am_Eg E) (hx : bHy s) (en : s 168 1 = (N : Int)) (n4 : nRM s s4) (hPP : ∀ s4 s7, bS1 0 s s4 → am_Fm [183, 184, 186, 187, 188, 189, 190] [29] s4 s7 → s7 168 29 = 1 → bT N (my s) (s4 192) (s4 178) 0 ci (s7 183) → PP (some (.long (lI (tl N (my s) (s7 183) N)))) (am_hp E s7)) : am_wp (d + 2) 204 69 (lv_args 0 [.ref 168, .int (iI 0), .int (iI ci)]) [] (am_hp E s4) PP := by
  refine am_s rfl rfl ?_
  obtain ⟨t1, t2, t3, t4, t5, t6, f0⟩ := nRM_m hx n4
  have n1 := hx.hm.1
  have n2 := hx.hm.2.1
  have e4 : s4 168 1 = (N : Int) := by rw [f0.2 1 (by decide)]; exact en
  obtain ⟨b, v1, v2, v3, v4, v5⟩ := t5
  have eN : (s4 168 1).toNat = N := by omega
  rw [eN] at v1 v5
  have gI := t1.1
  rw [e4] at gI
  have gr := gw_rng (Int.le_refl 0) gI
  have al : ∀ c, 0 ≤ c → c < (N : Int) → c ∈ b.L := by
    obtain ⟨k, w1, w2⟩ := v1
    refine wk_all w1 w2 (fun P p0 ps c c0 c1 => ?_) (fun c c0 c1 => gr.2.1 c (by omega) c1 (by show (0 : Int) ≤ c; omega) (by omega))
    exact gw_ind (Int.le_refl 0) P p0 gI (fun c c0 c1 _ cn hq => ps c (by omega) c1 hq) c c0 c1 c0
  have gd : ∀ i v, b.L[i]? = some v → b.L.getD i 0 = v := fun i v hv => by rw [List.getD_eq_getElem?_getD, hv]; rfl
  have gx : ∀ i, i < b.L.length → ∃ v, b.L[i]? = some v := fun i hi => ⟨_, List.getElem?_eq_getElem hi⟩
  have lr : ∀ i, i < b.L.length → 0 ≤ b.L.getD i 0 ∧ b.L.getD i 0 < (N : Int) := fun i hi => by
    obtain ⟨v, hv⟩ := gx i hi
    rw [gd i v hv]; exact v5 v (List.mem_of_getElem? hv)
  have da : ∀ y, 0 ≤ y → y < (N : Int) → y ∈ dd (fun i => b.L.getD i 0) b.L.length := fun y y0 y1 => by
    obtain ⟨i, hi⟩ := List.getElem?_of_mem (al y y0 y1)
    exact dd_mem.mpr ⟨i, (List.getElem?_eq_some_iff.mp hi).1, gd i y hi⟩
  refine s_cv [] [] rfl g (Or.inl rfl) rfl rfl (Nat.le_of_ble_eq_true rfl) rfl rfl (t_byRound (d := d + 1) (s := s4) (N := N) (l := fun i => b.L.getD i 0) (K := b.L.length) (PP := fun rv h => rv = none ∧ ∃ s', h = am_hp E s' ∧ am_Fr [183, 186] s4 s' ∧ dt_ok (fun i => b.L.getD i 0) N b.L.length (s' 183)) g e4 (by omega) v2 (by omega) lr (fun i hi => by obtain ⟨v, hv⟩ := gx i hi; show _ = b.L.getD i 0; rw [gd i v hv]; exact v3 i v hv) da (fun s' u v => ⟨rfl, s', rfl, u, v⟩)) ?_
  rintro rv h1 ⟨rfl, s5, rfl, hF5, hd5⟩
  refine am_s rfl rfl ?_
  refine am_lv [(0, _)] rfl rfl ⟨rfl, trivial⟩ ?_
  have L0 : 0 < b.L.length := List.length_pos_of_mem (al 0 (by omega) (by omega))
  obtain ⟨x1, x2, x3⟩ := dt_p L0 lr da hd5
  have h00 : b.L.getD 0 0 = 0 := by
    obtain ⟨k, w1, w2⟩ := v1
    obtain ⟨T, eT⟩ := (wC_n wC_0 w1).e w2
    rw [eT]; rfl
  have z0 : s5 183 0 = 0 := x3.trans h00
  refine bM_end (d := d) g hx en (Or.inl ⟨rfl, n4⟩) (am_Fr_m hF5 (fun b hb => by simp at hb ⊢; omega)) x1 ⟨0, by omega, by omega, z0⟩ (fun p t2 p1 p2 p3 hr6 => ?_) hPP
  have e := rt_0 p1 z0 p3 hr6
  exact ⟨tOK_t (by omega) e ⟨x1, x2, z0⟩, Or.inl ⟨rfl, b, v1, dt_t e hd5⟩⟩
theorem t_bM0 {d : Nat} {E : am_Ev} {s : am_S} {N : Nat} {ci : Int} {PP : Option Value → am_H → Prop} (g : am_Eg E) (hx : bHy s) (en : s 168 1 = (N : Int)) (hPP : ∀ s4 s7, bS1 0 s s4 → am_Fm [183, 184, 186, 187, 188, 189, 190] [29] s4 s7 → s7 168 29 = 1 → bT N (my s) (s4 192) (s4 178) 0 ci (s7 183) → PP (some (.long (lI (tl N (my s) (s7 183) N)))) (am_hp E s7)) : am_wp (d + 6) 204 54 (lv_args 0 [.ref 168, .int (iI 0), .int (iI ci)]) [] (am_hp E s) PP := by
  refine am_s rfl rfl ?_
  refine s_zne rfl ⟨by decide, by decide⟩ (fun c1 => absurd c1 (by omega)) (fun c1 => ?_)
  refine am_s rfl rfl ?_
  refine s_gi (x := 24) rfl g rfl rfl rfl ?_
  refine s_zne rfl (by rcases hx.hw with z | z <;> exact ⟨by omega, by omega⟩) (fun c2 => ?_) (fun c2 => ?_)
  · exact t_bM0b (d := d + 4) g hx en (Or.inl ⟨by have := hx.hw; omega, rfl⟩) hPP
  · refine am_s rfl rfl ?_
    refine s_cv [] [] rfl g (Or.inl rfl) rfl rfl (Nat.le_of_ble_eq_true rfl) rfl rfl (t_makeRoundM (d := d) (s := s) (PP := fun rv h => rv = none ∧ ∃ s2 s3, h = am_hp E s3 ∧ nQM s s2 ∧ yW s2 s3 (s 168 1).toNat) g hx.hm hx.hp hx.hf hx.hg (fun z => tM_q hx.hm (hx.ht z)) hx.hq (fun s2 s3 a b => ⟨rfl, s2, s3, rfl, a, b⟩)) ?_
    rintro rv h1 ⟨rfl, s2, s3, rfl, n1, n2⟩
    exact t_bM0b (d := d + 4) g hx en (Or.inr ⟨by have := hx.hw; omega, s2, n1, n2⟩) hPP
theorem t_bM1 {d : Nat} {E : am_Ev} {s : am_S} {N : Nat} {ci : Int} {PP : Option Value → am_H → Prop} (g : am_Eg E) (hx : bHy s) (en : s 168 1 = (N : Int)) (hci : 0 ≤ ci ∧ ci < (N : Int)) (hPP : ∀ s4 s7, bS1 1 s s4 → am_Fm [183, 184, 186, 187, 188, 189, 190] [29] s4 s7 → s7 168 29 = 1 → bT N (my s) (s4 192) (s4 178) 1 ci (s7 183) → PP (some (.long (lI (tl N (my s) (s7 183) N)))) (am_hp E s7)) : am_wp (d + 6) 204 54 (lv_args 0 [.ref 168, .int (iI 1), .int (iI ci)]) [] (am_hp E s) PP := by
  refine am_s rfl rfl ?_
  refine s_zne rfl ⟨by decide, by decide⟩ (fun c1 => ?_) (fun c1 => absurd c1 (by omega))
  refine am_s rfl rfl ?_
  refine s_k 1 rfl rfl ?_
  refine s_cne rfl ⟨by decide, by decide⟩ ⟨by decide, by decide⟩ (fun c2 => absurd c2 (by omega)) (fun c2 => ?_)
  refine am_s rfl rfl ?_
  refine am_s rfl rfl ?_
  have n1 := hx.hm.1
  have n2 := hx.hm.2.1
  refine s_cv [_] [] rfl g (Or.inl rfl) rfl rfl (Nat.le_of_ble_eq_true rfl) rfl rfl (t_byNearest (d := d + 4) (s := s) g hx.hm (by rw [en]; exact hci)) ?_
  rintro rv h1 ⟨rfl, s5, rfl, hF5, hk5, hex⟩
  rw [en] at hk5 hex
  refine am_s rfl rfl ?_
  refine am_lv [(0, _)] rfl rfl ⟨rfl, trivial⟩ ?_
  refine bM_end (d := d + 4) g hx en (Or.inr ⟨by decide, rfl⟩) (am_Fr_m hF5 (fun b hb => by simp at hb ⊢; omega)) hk5.2.1 hex (fun p t2 p1 p2 p3 hr6 => ?_) hPP
  exact ⟨rt_ok ⟨hk5.2.1, hk5.2.2.1⟩ p1 p2 hr6, Or.inr (Or.inl ⟨rfl, p, s5 183, p1, p2, hk5, hr6⟩)⟩
theorem t_bM2 {d : Nat} {E : am_Ev} {s : am_S} {N : Nat} {ci : Int} {PP : Option Value → am_H → Prop} (g : am_Eg E) (hx : bHy s) (en : s 168 1 = (N : Int)) (hci : 0 ≤ ci ∧ ci < (N : Int)) (hsym : fl_sym (s 168 1) (my s)) (hPP : ∀ s4 s7, bS1 2 s s4 → am_Fm [183, 184, 186, 187, 188, 189, 190] [29] s4 s7 → s7 168 29 = 1 → bT N (my s) (s4 192) (s4 178) 2 ci (s7 183) → PP (some (.long (lI (tl N (my s) (s7 183) N)))) (am_hp E s7)) : am_wp (d + 6) 204 54 (lv_args 0 [.ref 168, .int (iI 2), .int (iI ci)]) [] (am_hp E s) PP := by
  refine am_s rfl rfl ?_
  refine s_zne rfl ⟨by decide, by decide⟩ (fun c1 => ?_) (fun c1 => absurd c1 (by omega))
  refine am_s rfl rfl ?_
  refine s_k 1 rfl rfl ?_
  refine s_cne rfl ⟨by decide, by decide⟩ ⟨by decide, by decide⟩ (fun c2 => ?_) (fun c2 => absurd c2 (by omega))
  refine am_s rfl rfl ?_
  refine s_k 2 rfl rfl ?_
  refine s_cne rfl ⟨by decide, by decide⟩ ⟨by decide, by decide⟩ (fun c3 => absurd c3 (by omega)) (fun c3 => ?_)
  refine am_s rfl rfl ?_
  refine am_s rfl rfl ?_
  have n1 := hx.hm.1
  have n2 := hx.hm.2.1
  refine s_cv [_] [] rfl g (Or.inl rfl) rfl rfl (Nat.le_of_ble_eq_true rfl) rfl rfl (t_byGrowing0 (d := d + 4) (s := s) (PP := fun rv h => rv = none ∧ ∃ s', h = am_hp E s' ∧ am_Fr [183, 186] s s' ∧ gt_ok (s 168 1) (my s) ci ((s 168 1).toNat - 1) (s' 183) ∧ ∃ y, 0 ≤ y ∧ y < s 168 1 ∧ s' 183 y = 0) g hx.hm hsym (by rw [en]; exact hci) (fun s' z => ⟨rfl, s', rfl, z⟩)) ?_
  rintro rv h1 ⟨rfl, s5, rfl, hF5, hk5, hex⟩
  rw [en] at hk5 hex
  rw [show ((N : Int)).toNat = N by omega] at hk5
  have ds := gt_okds hci hk5
  rw [show ((N - 1 : Nat) : Int) + 1 = N by omega] at ds
  refine am_s rfl rfl ?_
  refine am_lv [(0, _)] rfl rfl ⟨rfl, trivial⟩ ?_
  refine bM_end (d := d + 4) g hx en (Or.inr ⟨by decide, rfl⟩) (am_Fr_m hF5 (fun b hb => by simp at hb ⊢; omega)) ds.1 hex (fun p t2 p1 p2 p3 hr6 => ?_) hPP
  exact ⟨rt_ok ds p1 p2 hr6, Or.inr (Or.inr (Or.inl ⟨rfl, p, s5 183, p1, p2, hk5, hr6⟩))⟩
theorem t_bM3 {d : Nat} {E : am_Ev} {s : am_S} {N : Nat} {ci : Int} {PP : Option Value → am_H → Prop} (g : am_Eg E) (hx : bHy s) (en : s 168 1 = (N : Int)) (hPP : ∀ s4 s7, bS1 3 s s4 → am_Fm [183, 184, 186, 187, 188, 189, 190] [29] s4 s7 → s7 168 29 = 1 → bT N (my s) (s4 192) (s4 178) 3 ci (s7 183) → PP (some (.long (lI (tl N (my s) (s7 183) N)))) (am_hp E s7)) : am_wp (d + 6) 204 54 (lv_args 0 [.ref 168, .int (iI 3), .int (iI ci)]) [] (am_hp E s) PP := by
  refine am_s rfl rfl ?_
  refine s_zne rfl ⟨by decide, by decide⟩ (fun c1 => ?_) (fun c1 => absurd c1 (by omega))
  refine am_s rfl rfl ?_
  refine s_k 1 rfl rfl ?_
  refine s_cne rfl ⟨by decide, by decide⟩ ⟨by decide, by decide⟩ (fun c2 => ?_) (fun c2 => absurd c2 (by omega))
  refine am_s rfl rfl ?_
  refine s_k 2 rfl rfl ?_
  refine s_cne rfl ⟨by decide, by decide⟩ ⟨by decide, by decide⟩ (fun c3 => ?_) (fun c3 => absurd c3 (by omega))
  refine am_s rfl rfl ?_
  have n1 := hx.hm.1
  have n2 := hx.hm.2.1
  refine s_cv [] [] rfl g (Or.inl rfl) rfl rfl (Nat.le_of_ble_eq_true rfl) rfl rfl (t_byPairs (d := d + 4) (s := s) (N := N) (PP := fun rv h => rv = none ∧ ∃ s', h = am_hp E s' ∧ am_Fr [183, 187, 188, 189, 190] s s' ∧ jp N (my s) (s' 183)) g hx.hm en (fun s' u v => ⟨rfl, s', rfl, u, v⟩)) ?_
  rintro rv h1 ⟨rfl, s5, rfl, hF5, hk5⟩
  obtain ⟨x1, x2, x3⟩ := jp_all hk5
  refine am_lv [(0, _)] rfl rfl ⟨rfl, trivial⟩ ?_
  refine bM_end (d := d + 4) g hx en (Or.inr ⟨by decide, rfl⟩) (am_Fr_m hF5 (fun b hb => by simp at hb ⊢; omega)) x1 ⟨0, by omega, by omega, x3⟩ (fun p t2 p1 p2 p3 hr6 => ?_) hPP
  have e := rt_0 p1 x3 p3 hr6
  exact ⟨tOK_t (by omega) e ⟨x1, x2, x3⟩, Or.inr (Or.inr (Or.inr ⟨rfl, jp_t (by omega) e hk5⟩))⟩
