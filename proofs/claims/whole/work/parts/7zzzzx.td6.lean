/-! THE PAIRS: read, type -/
theorem rt_le {x y r : Int} (hx : 0 ≤ x ∧ x ≤ 1000000) (hy : 0 ≤ y ∧ y ≤ 1000000) (h : rtI (x * x + y * y) r) : 0 ≤ r ∧ r ≤ 2000000 := by
  refine ⟨h.1, ?_⟩
  by_cases z : r ≤ x + y
  · omega
  · have := h.2.2 (x + y) (by omega) (by omega)
    have := (sq_sum hx hy).2
    omega
theorem dOK_r {fm n : Int} {V : Nat → Nat → Int} {M : Int → Int → Int} (hf : tFk fm) (h : dOK fm n V M) (hv : hV fm n V) : ∀ a b, 0 ≤ a → a < n → 0 ≤ b → b < n → 0 ≤ M a b ∧ M a b < 2147483648 := by
  intro a b a0 a1 b0 b1
  obtain ⟨x, rfl⟩ : ∃ x : Nat, a = x := ⟨a.toNat, by omega⟩
  obtain ⟨y, rfl⟩ : ∃ y : Nat, b = y := ⟨b.toNat, by omega⟩
  have key : ∀ p q : Nat, p < q → (q : Int) < n → fm ≠ 61 → (0 ≤ M p q ∧ M p q < 2147483648) ∧ 0 ≤ M q p ∧ M q p < 2147483648 := fun p q pq q1 f61 => by
    rcases hf with f | f | f | f
    · exact absurd f f61
    · have k := h.up f p q pq q1
      have r := hv.2.1 f p q pq q1
      rw [k.1, k.2]; exact ⟨r, r⟩
    · have k := h.pl f p q pq q1
      have r1 := hv.2.2 (Or.inl f) p (by omega)
      have r2 := hv.2.2 (Or.inl f) q q1
      have i1 := iab_r (v := V p 0 - V q 0) ⟨by omega, by omega⟩
      have i2 := iab_r (v := V p 1 - V q 1) ⟨by omega, by omega⟩
      rw [k.1, k.2]; omega
    · have k := h.rt f p q pq q1
      have r1 := hv.2.2 (Or.inr f) p (by omega)
      have r2 := hv.2.2 (Or.inr f) q q1
      have i1 := iab_r (v := V p 0 - V q 0) ⟨by omega, by omega⟩
      have i2 := iab_r (v := V p 1 - V q 1) ⟨by omega, by omega⟩
      have r := rt_le i1 i2 k.1
      rw [k.2]; omega
  by_cases e : fm = 61
  · rw [h.eq e x y a1 b1]; exact hv.1 e x y a1 b1
  · rcases Nat.lt_trichotomy x y with c | c | c
    · exact (key x y c b1 e).1
    · subst c; rw [h.ze e x a1]; omega
    · exact (key y x c a1 e).2
theorem rs_step {a b n : Nat} (h : a ≤ b + 10240) (h2 : b ≤ 1075271 + 10240 * n) : a ≤ 1075271 + 10240 * (n + 1) := by
  rw [Nat.mul_add_one, ← Nat.add_assoc]
  exact Nat.le_trans h (Nat.add_le_add_right h2 _)
theorem lo_none {q : Nat} (h : am_lo q = none) : q = 0 ∨ q = 3 ∨ q = 159 ∨ 194 ≤ q := by
  have key : ∀ k : Fin 194, am_lo k.val = none → k.val = 0 ∨ k.val = 3 ∨ k.val = 159 := by decide +kernel
  by_cases z : q < 194
  · rcases key ⟨q, z⟩ h with y | y | y
    · exact Or.inl y
    · exact Or.inr (Or.inl y)
    · exact Or.inr (Or.inr (Or.inl y))
  · exact Or.inr (Or.inr (Or.inr (by omega)))
section PAIRS4
variable {n : Nat} {E : am_Ev} {s : am_S}
theorem p_read (h : iAll n E s) (hn : n ≤ 512) : am_pairI (am_hp E s) 125 172 [] (wInv (n + 1)) := by
  have nn := i_n h
  have en := h.nn.en
  have hQ := i_pQ h hn
  have gd := h.e.d
  have s2 := gd.s2
  have tl := h.t.tl
  have ta := h.t.ta
  have tb := h.t.tb
  have tr : ∀ y, 0 ≤ y → y < s 2 1 → 32 ≤ s E.2.2.1.1 y ∧ s E.2.2.1.1 y ≤ 126 := fun y y0 y1 => ⟨(ta y y0 y1).2, (tb y y0 (by omega)).2⟩
  have sgr : ¬ (27 ≤ E.2.2.1.1 ∧ E.2.2.1.1 ≤ 46) := fun z => by
    have := lo_26 (x := ((E.2.2.1.1 - 27 : Nat) : Int)) (by omega) (by omega)
    rw [show 26 + 1 + (((E.2.2.1.1 - 27 : Nat) : Int)).toNat = E.2.2.1.1 by omega, gd.s0] at this
    cases this
  refine mk_pairI h.e.g (t_readX (d := 24) (T := s E.2.2.1.1) (z := s 2 1) h.e.g gd rfl tl (fun _ _ _ => rfl) tr hQ.1 ?_ ?_)
  · intro ng s1 k1 k2
    have e168 : s1 168 = s 168 := k1 168 (by decide) (by decide)
    have e171 : s1 171 = s 171 := k1 171 (by decide) (by decide)
    refine ⟨_, E, s1, rfl, rfl, h.e.g, t_readM (d := 25) (s := s1) (T := s E.2.2.1.1) (z := s 2 1) h.e.g (by rw [e168]; exact h.t.tz) (by omega) (fun y y0 y1 => by rw [e171]; exact (ta y y0 y1).1) tr ?_ (fun y => absurd y ng)⟩
    intro _ sm hM m5
    have e : ∀ q, q ≠ 2 → ¬ (5 ≤ q ∧ q ≤ 24) → q ≠ 168 → q ≠ 170 → q ≠ 172 → q ≠ 173 → sm q = s q := fun q a b c d f g => by rw [hM.1 q (by simp; exact ⟨c, d, f, g⟩), am_w_row c]; exact k1 q a b
    have f : ∀ y, y ≠ 0 → y ≠ 5 → y ≠ 6 → y ≠ 7 → y ≠ 8 → y ≠ 9 → sm 168 y = s 168 y := fun y a b c d f g => by rw [hM.2 y (by simp; exact ⟨b, c, d, f, g⟩), am_w_x a, e168]
    refine ⟨rfl, E, sm, rfl, iE_s h.e, iX_c2 h.x (fun q q0 q1 => e q (by omega) (by omega) (by omega) (by omega) (by omega) (by omega)), iM_c h.m (fun q hq => e q (by omega) (by omega) (by omega) (by omega) (by omega) (by omega)) (fun c c0 c1 => by rw [e 191 (by decide) (by decide) (by decide) (by decide) (by decide) (by decide)]; exact h.m.hy.hp c c0 c1) (fun y hy => f y (by omega) (by omega) (by omega) (by omega) (by omega) (by omega)), iN_c h.nn nn.1.2 (f 1 (by decide) (by decide) (by decide) (by decide) (by decide) (by decide)) (by rw [e 25 (by decide) (by decide) (by decide) (by decide) (by decide) (by decide)]) (fun a a0 a1 => e a (by omega) (by omega) (by omega) (by omega) (by omega) (by omega)) (e 169 (by decide) (by decide) (by decide) (by decide) (by decide) (by decide)), iT_zero h.t m5 ?_ ?_, iF_c h.f nn.1.2 (fun q q0 q1 _ _ => e q (by omega) (by omega) (by omega) (by omega) (by omega) (by omega)) (e 191 (by decide) (by decide) (by decide) (by decide) (by decide) (by decide)) (e 183 (by decide) (by decide) (by decide) (by decide) (by decide) (by decide)) (fun y hy => f y (by omega) (by omega) (by omega) (by omega) (by omega) (by omega))⟩
    · rw [hM.1 2 (by decide), am_w_row (by decide)]; exact k2
    · exact e _ (sg_q gd (by decide)) (sg_n4 gd) (sg_q gd (by decide)) (sg_q gd (by decide)) (sg_q gd (by decide)) (sg_q gd (by decide))
  · intro hg s1 k1 k2 q0 q2 hd
    have okf := tA3_g tl.1 (tA4_g tl.1 hg).1
    have e168 : s_forget s1 168 = s 168 := by rw [fg_f (by decide) (by decide) (by decide) (by decide) (by decide), k1 168 (by decide) (by decide) (by decide) (by decide)]
    have e171 : s_forget s1 171 = s 171 := by rw [fg_f (by decide) (by decide) (by decide) (by decide) (by decide), k1 171 (by decide) (by decide) (by decide) (by decide)]
    refine ⟨_, E, _, rfl, rfl, h.e.g, t_readM (d := 25) (s := s_forget s1) (T := s E.2.2.1.1) (z := s 2 1) h.e.g (by rw [e168]; exact h.t.tz) (by omega) (fun y y0 y1 => by rw [e171]; exact (ta y y0 y1).1) tr (fun y => absurd hg y) ?_⟩
    intro _ sm hM m1 m5 hdm
    have hv := rd_hV tl.1 hg (V := tV (s E.2.2.1.1) (s 2 1)) (fun _ _ _ _ => rfl)
    rw [show (((tN (s E.2.2.1.1) (s 2 1)).toNat : Nat) : Int) = tN (s E.2.2.1.1) (s 2 1) by omega] at hv
    have em : ∀ q, q ≠ 168 → q ≠ 169 → q ≠ 170 → q ≠ 172 → q ≠ 173 → sm q = s_forget s1 q := fun q a b c d f => by rw [hM.1 q (by simp; exact ⟨a, b, c, d, f⟩), am_w_row a]
    have ef : ∀ y, y ≠ 0 → y ≠ 1 → y ≠ 5 → y ≠ 6 → y ≠ 7 → y ≠ 8 → y ≠ 9 → sm 168 y = s 168 y := fun y a z b c d f g => by rw [hM.2 y (by simp; exact ⟨z, b, c, d, f, g⟩), am_w_x a, e168]
    refine ⟨rfl, E, _, rfl, iAll_new (s1 := s1) h (fun q hq => k1 q (by omega) (by omega) (by omega) (by omega)) ⟨by omega, by omega, fun a b a0 a1 b0 b1 => dOK_r okf.1 hd hv a b a0 (by omega) b0 (by omega)⟩ q2 (fun q x0 x1 => em q (by omega) (by omega) (by omega) (by omega) (by omega)) ⟨by omega, by omega, fun a b a0 a1 b0 b1 => dOK_r okf.1 hdm hv a b a0 (by omega) b0 (by omega)⟩ (ef 20 (by decide) (by decide) (by decide) (by decide) (by decide) (by decide) (by decide)) (ef 26 (by decide) (by decide) (by decide) (by decide) (by decide) (by decide) (by decide)) (by omega) (fun a b a0 a1 b0 b1 => dOK_uniq okf.1 hd hdm a b a0 (by omega) b0 (by omega)) (iT_zero h.t ?_ ?_ ?_)⟩
    · rw [chg_m (by decide)]; exact m5
    · rw [chg_f (by decide) (by decide), em 2 (by decide) (by decide) (by decide) (by decide) (by decide), fg_f (by decide) (by decide) (by decide) (by decide) (by decide)]; exact k2
    · rw [sg_chg gd, em _ (sg_q gd (by decide)) (sg_q gd (by decide)) (sg_q gd (by decide)) (sg_q gd (by decide)) (sg_q gd (by decide)), sg_fg gd]
      exact k1 _ (sg_q gd (by decide)) (sg_n4 gd) (sg_q gd (by decide)) sgr
theorem p_type (h : iAll n E s) (q : Int64) (c : Int32) : am_pairI (am_hp E s) 123 161 [.long q, .int c] (wInv (n + 1)) := by
  have nn := i_n h
  have gd := h.e.d
  have s2 := gd.s2
  have tl := h.t.tl
  have ta := h.t.ta
  have tb := h.t.tb
  by_cases hc : c < 1 ∨ 8 < c
  · refine mk_pairI h.e.g (t_typeX (d := 28) h.e.g (am_wp_mono (am_appOut (d := 27) hc) ?_))
    rintro rv g ⟨rfl, rfl⟩
    refine ⟨⟨_, rfl⟩, _, E, s, rfl, rfl, h.e.g, t_typeM0 (d := 28) h.e.g hc ⟨rfl, E, _, rfl, iAll_0 h⟩⟩
  · have c1 : 1 ≤ c.toInt := by
      have : ¬ c < 1 := fun z => hc (Or.inl z)
      have := Int32.not_lt.mp this
      exact Int32.le_iff_toInt_le.mp this
    have c2 : c.toInt ≤ 8 := by
      have : ¬ 8 < c := fun z => hc (Or.inr z)
      have := Int32.not_lt.mp this
      exact Int32.le_iff_toInt_le.mp this
    obtain ⟨k, ek⟩ : ∃ k : Nat, c.toInt = (k : Int) := ⟨c.toInt.toNat, by omega⟩
    rw [iI_of c, ek]
    have hk : 1 ≤ k ∧ k ≤ 8 := by omega
    refine mk_pairI h.e.g (t_typeX (d := 28) h.e.g (t_append (d := 26) (n := k) (z := s 2 1) h.e.g gd hk h.e.h8 tl (fun y y0 y1 => by have := tb y y0 y1; omega) rfl ?_ ?_ ?_))
    · intro ns
      exact ⟨⟨_, rfl⟩, _, E, s, rfl, rfl, h.e.g, t_typeM (d := 28) (n := k) (z := s 2 1) h.e.g hk (by omega) h.t.tz (fun _ => ⟨rfl, E, _, rfl, iAll_0 h⟩) (fun y => absurd y ns) (fun y => absurd y ns)⟩
    · intro ys big
      exact ⟨⟨_, rfl⟩, _, E, s, rfl, rfl, h.e.g, t_typeM (d := 28) (n := k) (z := s 2 1) h.e.g hk (by omega) h.t.tz (fun y => absurd ys y) (fun _ _ => ⟨rfl, E, _, rfl, iAll_0 h⟩) (fun _ y => by omega)⟩
    · intro ys small E2 s1 gr l2 fr z1 fy sy
      have c0 := gr.c0
      have g1 := h.e.g.1
      have d2 := gr.d
      have sgn := lo_none gd.s0
      have sgn2 := lo_none d2.s0
      have s11 := gd.s1
      have s12 := d2.s1
      have e1 : ∀ a, 25 ≤ a → a ≤ 193 → a ≠ 159 → s1 a = s a := fun a a0 a1 a2 => fr a (by omega) (by omega) (by omega)
      have e168 : s1 168 = s 168 := e1 168 (by decide) (by decide) (by decide)
      have e171 : s1 171 = s 171 := e1 171 (by decide) (by decide) (by decide)
      refine ⟨⟨_, rfl⟩, _, E2, s1, rfl, rfl, gr.g, t_typeM (d := 28) (s := s1) (n := k) (z := s 2 1) gr.g hk (by omega) (by rw [e168]; exact h.t.tz) (fun y => absurd ys y) (fun _ y => by omega) ?_⟩
      intro _ _ sm hM m5 my_
      have em : ∀ a, a ≠ 168 → a ≠ 171 → sm a = s1 a := fun a a1 a2 => by rw [hM.1 a (by simp; exact ⟨a1, a2⟩), am_w_row a1]
      have ef : ∀ y, y ≠ 0 → y ≠ 5 → sm 168 y = s 168 y := fun y y1 y2 => by rw [hM.2 y (by simp; exact y2), am_w_x y1, e168]
      have e2 : ∀ a, 25 ≤ a → a ≤ 193 → a ≠ 159 → a ≠ 168 → a ≠ 171 → sm a = s a := fun a a0 a1 a2 a3 a4 => by rw [em a a3 a4]; exact e1 a a0 a1 a2
      have rc := h.e.rc
      have rs := h.e.rs
      have h8 := h.e.h8
      have sl := gr.sl
      have cc := gr.c
      have ln := gr.ln
      have m2 : sm 2 1 = s 2 1 + k := by rw [em 2 (by decide) (by decide)]; exact z1
      have msg : sm E2.2.2.1.1 = s1 E2.2.2.1.1 := em _ (sg_q d2 (by decide)) (sg_q d2 (by decide))
      refine ⟨rfl, E2, sm, rfl, ⟨gr.g, d2, by omega, rs_step (Nat.le_trans sl (Nat.add_le_add_left (by decide) _)) rs, by omega⟩, iX_c2 h.x (fun a a0 a1 => e2 a a0 (by omega) (by omega) (by omega) (by omega)), iM_c h.m (fun a ha => e2 a (by omega) (by omega) (by omega) (by omega) (by omega)) (fun c c0 c1 => by rw [e2 191 (by decide) (by decide) (by decide) (by decide) (by decide)]; exact h.m.hy.hp c c0 c1) (fun y hy => ef y (by omega) (by omega)), iN_c h.nn nn.1.2 (ef 1 (by decide) (by decide)) (by rw [e2 25 (by decide) (by decide) (by decide) (by decide) (by decide)]) (fun a a0 a1 => e2 a (by omega) (by omega) (by omega) (by omega) (by omega)) (e2 169 (by decide) (by decide) (by decide) (by decide) (by decide)), ⟨by rw [m5, m2], by rw [m2]; omega, fun y y0 y1 => ?_, fun y y0 y1 => ?_⟩, iF_c h.f nn.1.2 (fun a a0 a1 _ a3 => e2 a a0 (by omega) a3 (by omega) (by omega)) (e2 191 (by decide) (by decide) (by decide) (by decide) (by decide)) (e2 183 (by decide) (by decide) (by decide) (by decide) (by decide)) (fun y hy => ef y (by omega) (by omega))⟩
      · rw [m2] at y1
        rw [msg, my_ y, e171, sy y y0 (by omega)]
        unfold tpf cpS
        by_cases z : s 2 1 ≤ y ∧ y < s 2 1 + (k : Int)
        · rw [if_pos z, if_pos z]
          exact ⟨rfl, (bv_r ys (by omega)).1⟩
        · rw [if_neg z, if_neg z, if_pos (by omega)]
          exact ta y y0 (by omega)
      · rw [msg, sy y y0 y1]
        unfold tpf cpS
        split
        · have := bv_r ys (m := ((k : Int) - 1 - (y - s 2 1)).toNat) (by omega)
          omega
        · split
          · exact tb y y0 (by assumption)
          · omega
end PAIRS4
