/-! THE PAIRS: better, bound, best -/
theorem tk_rv {n a b : Int} {t t2 : Int → Int} (ha : 1 ≤ a) (hb : b < n) (h : rv a b t t2) (hs : ∀ y, 0 ≤ y → y < n → ∃ j, 0 ≤ j ∧ j < n ∧ t j = y) : (∀ y, 0 ≤ y → y < n → ∃ j, 0 ≤ j ∧ j < n ∧ t2 j = y) ∧ t2 0 = t 0 := by
  refine ⟨fun y y0 y1 => ?_, by rw [h 0, if_neg (by omega)]⟩
  obtain ⟨j, j0, j1, j2⟩ := hs y y0 y1
  by_cases z : a ≤ j ∧ j ≤ b
  · exact ⟨a + b - j, by omega, by omega, by rw [h, if_pos (by omega), show a + b - (a + b - j) = j by omega]; exact j2⟩
  · exact ⟨j, j0, j1, by rw [h, if_neg z]; exact j2⟩
theorem tk_sh {n a c b : Int} {t t2 : Int → Int} (ha : 1 ≤ a) (hc : a ≤ c ∧ c ≤ b + 1) (hb : b < n) (h : sh a c b t t2) (hs : ∀ y, 0 ≤ y → y < n → ∃ j, 0 ≤ j ∧ j < n ∧ t j = y) : (∀ y, 0 ≤ y → y < n → ∃ j, 0 ≤ j ∧ j < n ∧ t2 j = y) ∧ t2 0 = t 0 := by
  refine ⟨fun y y0 y1 => ?_, by rw [h 0, if_neg (by omega)]⟩
  obtain ⟨j, j0, j1, j2⟩ := hs y y0 y1
  by_cases z : a ≤ j ∧ j ≤ b
  · by_cases w : c ≤ j
    · exact ⟨j - c + a, by omega, by omega, by rw [h, if_pos (by omega), if_pos (by omega), show j - c + a + c - a = j by omega]; exact j2⟩
    · exact ⟨j + (b - c + 1), by omega, by omega, by rw [h, if_pos (by omega), if_neg (by omega), show j + (b - c + 1) - (b - c + 1) = j by omega]; exact j2⟩
  · exact ⟨j, j0, j1, by rw [h, if_neg z]; exact j2⟩
theorem tk_pb {n k i p : Int} {t t2 : Int → Int} (hk : 1 ≤ k) (hi : 1 ≤ i ∧ i + k ≤ n) (hp : 0 ≤ p ∧ p < n - k) (h : pb k i p t t2) (hs : ∀ y, 0 ≤ y → y < n → ∃ j, 0 ≤ j ∧ j < n ∧ t j = y) : (∀ y, 0 ≤ y → y < n → ∃ j, 0 ≤ j ∧ j < n ∧ t2 j = y) ∧ t2 0 = t 0 := by
  unfold pb at h
  split at h
  · exact tk_sh (by omega) (by omega) (by omega) h hs
  · exact tk_sh (by omega) (by omega) (by omega) h hs
theorem tk_1 {n how : Int} {D : Int → Int → Int} {t t2 : Int → Int} (h : bt_1 n D how t t2) (hs : ∀ y, 0 ≤ y → y < n → ∃ j, 0 ≤ j ∧ j < n ∧ t j = y) : (∀ y, 0 ≤ y → y < n → ∃ j, 0 ≤ j ∧ j < n ∧ t2 j = y) ∧ t2 0 = t 0 := by
  rcases h with ⟨-, h⟩ | ⟨-, -, h⟩
  · rcases h with ⟨z, -⟩ | ⟨-, i, j, i0, ij, jn, -, -, h⟩
    · omega
    · exact tk_rv (by omega) jn h hs
  · rcases h with ⟨z, -⟩ | ⟨-, k, i, k1, k3, i1, i2, -, h⟩
    · omega
    · rcases h with ⟨z, -⟩ | ⟨-, p, p0, p1, -, h⟩
      · omega
      · rcases h with ⟨-, h⟩ | ⟨-, -, t1, r, h⟩
        · exact tk_pb k1 ⟨i1, i2⟩ ⟨p0, p1⟩ h hs
        · obtain ⟨a, b⟩ := tk_rv i1 (by omega) r hs
          obtain ⟨c, d⟩ := tk_pb k1 ⟨i1, i2⟩ ⟨p0, p1⟩ h a
          exact ⟨c, d.trans b⟩
theorem tk_n {n how : Int} {D : Int → Int → Int} {t : Int → Int} (hs : ∀ y, 0 ≤ y → y < n → ∃ j, 0 ≤ j ∧ j < n ∧ t j = y) : ∀ {k : Nat} {t2 : Int → Int}, bt_n n D how t k t2 → (∀ y, 0 ≤ y → y < n → ∃ j, 0 ≤ j ∧ j < n ∧ t2 j = y) ∧ t2 0 = t 0
  | 0, t2, h => by rw [show t2 = t from h]; exact ⟨hs, rfl⟩
  | k + 1, t2, ⟨t1, a, b⟩ => by
    obtain ⟨c, d⟩ := tk_n hs a
    obtain ⟨e, f⟩ := tk_1 b c
    exact ⟨e, f.trans d⟩
theorem tOK_bt {n how : Int} {D : Int → Int → Int} {t t2 : Int → Int} {k : Nat} (n0 : 0 ≤ n) (ht : tOK n.toNat t) (h : bt_n n D how t k t2) : tOK n.toNat t2 := by
  have e : ((n.toNat : Nat) : Int) = n := by omega
  unfold tOK at ht ⊢
  rw [e] at ht ⊢
  obtain ⟨a, b⟩ := tk_n ht.2.1 h
  exact ⟨bt_st ht.1 h, a, by rw [b]; exact ht.2.2⟩
theorem tOK_er {N : Nat} {t t2 : Int → Int} (e : ∀ i, 0 ≤ i → i < (N : Int) → t i = t2 i) (hN : 1 ≤ N) (h : tOK N t) : tOK N t2 := by
  refine ⟨fun i i0 i1 => by rw [← e i i0 i1]; exact h.1 i i0 i1, fun y y0 y1 => ?_, by rw [← e 0 (by omega) (by omega)]; exact h.2.2⟩
  obtain ⟨j, j0, j1, j2⟩ := h.2.1 y y0 y1
  exact ⟨j, j0, j1, by rw [← e j j0 j1]; exact j2⟩
theorem mul_b {x y : Int} (hx : 0 ≤ x ∧ x ≤ 1000000) (hy : -2 ≤ y ∧ y ≤ 40) : -42000000 ≤ x * y ∧ x * y ≤ 42000000 := by
  have a : x * y ≤ x * 40 := Int.mul_le_mul_of_nonneg_left hy.2 hx.1
  have b : x * (-2) ≤ x * y := Int.mul_le_mul_of_nonneg_left hy.1 hx.1
  omega
theorem bd_b {n st0 : Int} {D : Int → Int → Int} {p0 : Int → Int} (hn : 0 ≤ n ∧ n ≤ 20) (hs : 0 ≤ st0 ∧ st0 ≤ 1000000) : ∀ {k : Nat} {pen : Int → Int} {gr stp : Int}, bd_ok n D p0 st0 k pen gr stp → (0 ≤ stp ∧ stp ≤ 1000000) ∧ ∀ c, 0 ≤ c → c < 20 → -42000000 * (k : Int) ≤ pen c - p0 c ∧ pen c - p0 c ≤ 42000000 * (k : Int)
  | 0, pen, gr, stp, h => ⟨by rw [h.2]; exact hs, fun c c0 c1 => by rw [h.1 c c0 c1]; omega⟩
  | k + 1, pen, gr, stp, h => by
    obtain ⟨pen1, gr1, stp1, val, dg, h1, h2, h3, -, h5⟩ := h
    obtain ⟨a, b⟩ := bd_b hn hs h1
    refine ⟨by rw [h5]; split <;> omega, fun c c0 c1 => ?_⟩
    have q := b c c0 c1
    rw [h3 c c0 c1]
    split
    · rename_i z
      obtain ⟨I, on, al, one, oth, -, -, -, -, hd⟩ := h2
      have e := hd c c0 z
      have r : 0 ≤ dg c ∧ dg c ≤ 42 := by
        rw [e]
        have d2 := dg2_le on n.toNat c
        repeat' split
        all_goals omega
      have m := mul_b a (show -2 ≤ dg c - 2 ∧ dg c - 2 ≤ 40 by omega)
      omega
    · omega
section PAIRS6
variable {n : Nat} {E : am_Ev} {s : am_S}
theorem kM_Fr {E : am_Ev} {s1 s2 : am_S} {L : List Nat} (gd : am_Ed E) (hF : am_Fr L s1 s2) (hL : ∀ q ∈ L, 170 ≤ q ∧ q ≠ 171 ∧ q ≤ 193) : kM E s1 s2 := by
  have l := lo_none gd.s0
  have nl : ∀ q, (q < 170 ∨ q = 171 ∨ 193 < q) → s2 q = s1 q := fun q b => hF q (fun z => by
    have := hL q z
    omega)
  exact ⟨fun q a => nl q (by omega), by rw [nl 168 (by omega)], by rw [nl 168 (by omega)], nl 169 (by omega), nl 171 (by omega), nl _ (by omega)⟩
theorem iF_to {s1 s2 : am_S} (h : iAll n E s) (k1 : kX E s s1) (k2 : kM E s1 s2) (e161 : s1 161 = s 161) (e191 : s2 191 = s1 191) (f14 : s2 168 14 = s1 48 0) (f18 : s2 168 18 = s1 58 0) (f24 : s2 168 24 = s1 127 0) (f29 : s2 168 29 = s1 151 0) (to : s1 151 0 = 1 → (∀ i, 0 ≤ i → i < s 25 0 → s1 152 i = s2 183 i) ∧ fl_sym (s 25 0) (mx s)) : iF (n + 1) s2 := by
  have hf := iF_s h.f
  have hn := (i_n h).1.2
  have x : ∀ q, q < 168 → s2 q = s1 q := k2.x
  refine ⟨by rw [f14, x 48 (by decide)], by rw [f18, x 58 (by decide)], by rw [f24, x 127 (by decide)], by rw [f29, x 151 (by decide)], by rw [e191, x 161 (by decide), e161, k1.m 191 (by decide) (by decide)]; exact hf.pe, by rw [x 161 (by decide), e161]; exact hf.pb, fun z => ?_⟩
  rw [x 151 (by decide)] at z
  have t := to z
  rw [x 25 (by decide), k1.n0, x 152 (by decide)]
  refine ⟨t.1, fun p q p0 p1 q0 q1 => ?_⟩
  have := t.2 p q p0 p1 q0 q1
  unfold mx at this ⊢
  rw [x _ (by omega), x _ (by omega), k1.r _ (by omega) (by omega), k1.r _ (by omega) (by omega)]
  exact this
theorem p_better (h : iAll n E s) (a b : Int32) : am_pairI (am_hp E s) 145 212 [.int a, .int b] (wInv (n + 1)) := by
  have gd := h.e.d
  have nn := i_n h
  rw [iI_of a, iI_of b]
  have va := iI_r a
  have vb := iI_r b
  generalize a.toInt = A at va ⊢
  generalize b.toInt = B at vb ⊢
  have w29 : am_w s 168 0 0 168 29 = s 151 0 := by rw [am_w_x (by decide)]; exact h.f.f29
  refine mk_pairI h.e.g (am_wp_mono (t_betterX (d := 23) h.e.g h.x.hx.hm h.x.tf (fun z => ⟨(h.x.tt z).1, (tOK_st (by omega) (h.x.tt z).2).1⟩) va vb) ?_)
  rintro rv g (⟨c1, rfl, rfl⟩ | ⟨c1, c2, rfl, rfl⟩ | ⟨c1, c2, k, s1, c3, rfl, rfl, hF, hb, h0⟩)
  · refine ⟨_, E, s, rfl, rfl, h.e.g, am_wp_mono (t_betterM (d := 24) h.e.g h.m.hy.hm h.m.tf (fun z => (tOK_st (by omega) (h.m.tt z)).1) va vb) ?_⟩
    rintro rv g (⟨d1, rfl, rfl⟩ | ⟨d1, -⟩ | ⟨d1, -⟩)
    · exact ⟨rfl, E, _, rfl, iAll_0 h⟩
    · exact absurd d1 c1
    · exact absurd d1 c1
  · refine ⟨_, E, s, rfl, rfl, h.e.g, am_wp_mono (t_betterM (d := 24) h.e.g h.m.hy.hm h.m.tf (fun z => (tOK_st (by omega) (h.m.tt z)).1) va vb) ?_⟩
    rintro rv g (⟨d1, -⟩ | ⟨d1, d2, rfl, rfl⟩ | ⟨d1, d2, -⟩)
    · exact absurd c1 d1
    · exact ⟨rfl, E, _, rfl, iAll_0 h⟩
    · rw [w29] at d2; omega
  · have tt := h.x.tt c2
    have e1 : ∀ q, q ≠ 152 → s1 q = s q := fun q hq => hF q (by simp; exact hq)
    have k1 : kX E s s1 := kX_f gd (fun q hq => e1 q (by omega))
    have tk := tOK_bt (by omega) tt.2 hb
    have x1 : iX s1 := iX_to h.x (fun q hq => e1 q (by omega)) (by rw [e1 151 (by decide)]; exact h.x.tf) (fun _ => ⟨by rw [e1 151 (by decide)]; exact tt.1, tk⟩) (by rw [e1 151 (by decide)]; exact h.x.r151)
    have m1 := iM_q h.m k1.m
    refine ⟨_, E, s1, rfl, rfl, h.e.g, am_wp_mono (t_betterM (d := 24) (s := s1) h.e.g m1.hy.hm m1.tf (fun z => (tOK_st (by have := m1.hy.hm.1; omega) (m1.tt z)).1) va vb) ?_⟩
    rintro rv g (⟨d1, -⟩ | ⟨d1, d2, -⟩ | ⟨d1, d2, l, s2, d3, rfl, rfl, hM, hm, m0⟩)
    · exact absurd c1 d1
    · rw [am_w_x (by decide), e1 168 (by decide), h.f.f29] at d2; omega
    · have f29 : s 168 29 = 1 := by rw [h.f.f29]; exact c2
      rw [w0_my.1, w0_my.2, (mk_my k1).1, (mk_my k1).2, am_w_row (by decide), e1 183 (by decide), h.nn.en] at hm
      rw [w0_my.1, w0_my.2, (mk_my k1).1, (mk_my k1).2, h.nn.en] at m0
      have tof := h.f.to c2
      have sy : ∀ a b, 0 ≤ a → a < s 25 0 → 0 ≤ b → b < s 25 0 → my s a b = my s b a := fun p q p0 p1 q0 q1 => by
        rw [← h.nn.em p q p0 p1 q0 q1, ← h.nn.em q p q0 q1 p0 p1]; exact tof.2 p q p0 p1 q0 q1
      obtain ⟨kl, er_⟩ := be_uniq (by omega) (fun p q p0 p1 q0 q1 => h.nn.em p q p0 p1 q0 q1) sy (tOK_st (by omega) tt.2).1 tof.1 c3 d3 hb h0 hm m0
      have k2 := kM_t (kM_0 (s := s1) gd) (kM_Fr gd hM (by decide))
      have n1 : am_w s1 168 0 0 168 1 = s 25 0 := by rw [am_w_x (by decide), e1 168 (by decide)]; exact h.nn.en
      have w : ∀ y, y ≠ 0 → s2 168 y = s 168 y := fun y hy => by rw [hM 168 (by decide), am_w_x hy, e1 168 (by decide)]
      have m2 : iM s2 := iM_to (iM_0 m1) (fun q hq => hM q (by simp; omega)) (fun y _ => by rw [hM 168 (by decide)]) (Or.inr (by rw [w 29 (by decide)]; exact f29)) (fun _ => by rw [n1]; exact tOK_er (fun i i0 i1 => er_ i i0 (by omega)) (by omega) tk)
      refine ⟨by rw [kl], E, s2, rfl, iAll_k h (iE_s h.e) rfl k1 x1 k2 m2 (iF_to h k1 k2 (e1 161 (by decide)) (by rw [hM 191 (by decide), am_w_row (by decide)]) (by rw [w 14 (by decide), e1 48 (by decide)]; exact h.f.f14) (by rw [w 18 (by decide), e1 58 (by decide)]; exact h.f.f18) (by rw [w 24 (by decide), e1 127 (by decide)]; exact h.f.f24) (by rw [w 29 (by decide), e1 151 (by decide)]; exact h.f.f29) (fun _ => ⟨er_, tof.2⟩))⟩
theorem p_bound (h : iAll n E s) (hn : n ≤ 512) (a b : Int32) : am_pairJ (am_hp E s) 147 215 [.int a, .int b] (wInv (n + 1)) := by
  have gd := h.e.d
  have nn := i_n h
  have en := h.nn.en
  rw [iI_of a, iI_of b]
  have va := iI_r a
  have vb := iI_r b
  generalize a.toInt = A at va ⊢
  generalize b.toInt = B at vb ⊢
  have pb := h.f.pb
  have pX : ∀ c, 0 ≤ c → c < 20 → -100000000000000 ≤ s 161 c ∧ s 161 c ≤ 100000000000000 := fun c c0 c1 => by have := pb c c0 c1; omega
  have pM : ∀ c, 0 ≤ c → c < 20 → -100000000000000 ≤ s 191 c ∧ s 191 c ≤ 100000000000000 := fun c c0 c1 => by rw [h.f.pe c c0 c1]; exact pX c c0 c1
  refine mk_pairJ h.e.g (am_wp_mono (t_boundX (d := 25) h.e.g h.x.hx.hm h.x.lk va vb pX) ?_)
  rintro rv g (⟨c1, rfl, rfl⟩ | ⟨c1, s1, k, ⟨z, rfl, rfl⟩ | ⟨z, hb⟩⟩)
  · refine ⟨_, E, s, rfl, rfl, h.e.g, am_wp_mono (t_boundM (d := 25) h.e.g h.m.hy.hm va vb pM) ?_⟩
    rintro rv g (⟨d1, rfl, rfl⟩ | ⟨d1, -⟩)
    · exact ⟨rfl, E, _, rfl, iAll_0 h⟩
    · exact absurd d1 c1
  · have k1 := kX_lk gd k
    have m1 := iM_q h.m k1.m
    refine ⟨_, E, s1, rfl, rfl, h.e.g, am_wp_mono (t_boundM (d := 25) (s := s1) h.e.g m1.hy.hm va vb (by rw [k1.m 191 (by decide) (by decide)]; exact pM)) ?_⟩
    rintro rv g (⟨d1, -⟩ | ⟨d1, s2, hF, fl, ⟨y, rfl, rfl⟩ | ⟨y, -⟩⟩)
    · exact absurd c1 d1
    · exact ⟨rfl, E, s2, rfl, iAll_lk h k hF⟩
    · have u := sound_eq (E := E) h.nn k (sx := am_w s1 168 0 0) (w0_my.1.trans (mk_my k1).1) (w0_my.2.trans (mk_my k1).2) fl
      omega
  · have k1 := kX_lk gd k
    have x1 := iX_lk h.x k
    have e1 : ∀ q, q ≠ 25 → q ≠ 47 → s1 q = s q := fun q a b => k.1 q (fun z => by simp at z; omega)
    have em1 : ∀ p q, 0 ≤ p → p < s 25 0 → 0 ≤ q → q < s 25 0 → mx s1 p q = my s p q := fun p q p0 p1 q0 q1 => by
      rw [← h.nn.em p q p0 p1 q0 q1]
      unfold mx
      rw [k1.r _ (by omega) (by omega)]
    -- the other one after a state with the class's new penalties
    have snd : ∀ (s3 sm : am_S), kX E s s3 → fl_is (am_w s3 168 0 0 168 1) (my (am_w s3 168 0 0)) (sm 168 12) (sm 174 0) (sm 174 1) (sm 174 2) → sm 168 12 = 0 := fun s3 sm k3 fl => by
      have u := sound_eq (E := E) h.nn k (sx := am_w s3 168 0 0) (w0_my.1.trans (mk_my k3).1) (w0_my.2.trans (mk_my k3).2) fl
      omega
    rcases hb with ⟨b1, rfl, rfl⟩ | ⟨b1, rfl, rfl⟩ | ⟨b1, gr, s3, stp, rfl, rfl, hF3, bd, pb3⟩
    · have m1 := iM_q h.m k1.m
      refine ⟨_, E, s1, rfl, rfl, h.e.g, am_wp_mono (t_boundM (d := 25) (s := s1) h.e.g m1.hy.hm va vb (by rw [k1.m 191 (by decide) (by decide)]; exact pM)) ?_⟩
      rintro rv g (⟨d1, -⟩ | ⟨d1, s2, hF, fl, ⟨y, -⟩ | ⟨y, hb⟩⟩)
      · exact absurd c1 d1
      · exact absurd (snd s1 s2 k1 fl) y
      · have n2 : s2 168 1 = s 25 0 := by rw [hF.2 1 (by decide), w0_my.1, (mk_my k1).1]; exact en
        have n1 := k1.n0
        rcases hb with ⟨b2, rfl, rfl⟩ | ⟨b2, -⟩ | ⟨b2, -⟩
        · exact ⟨rfl, E, s2, rfl, iAll_lk h k hF⟩
        · omega
        · omega
    · have m1 := iM_q h.m k1.m
      refine ⟨_, E, s1, rfl, rfl, h.e.g, am_wp_mono (t_boundM (d := 25) (s := s1) h.e.g m1.hy.hm va vb (by rw [k1.m 191 (by decide) (by decide)]; exact pM)) ?_⟩
      rintro rv g (⟨d1, -⟩ | ⟨d1, s2, hF, fl, ⟨y, -⟩ | ⟨y, hb⟩⟩)
      · exact absurd c1 d1
      · exact absurd (snd s1 s2 k1 fl) y
      · have n2 : s2 168 1 = s 25 0 := by rw [hF.2 1 (by decide), w0_my.1, (mk_my k1).1]; exact en
        have n1 := k1.n0
        have my2 : my s2 = my s := by rw [← (mk_my k1).2, ← (w0_my (s := s1)).2]; funext p q; unfold my; rw [hF.1 169 (by decide)]
        rcases hb with ⟨b2, -⟩ | ⟨b2, rfl, rfl⟩ | ⟨b2, -⟩
        · omega
        · exact ⟨by rw [my2, em1 0 1 (by omega) (by omega) (by omega) (by omega)], E, s2, rfl, iAll_lk h k hF⟩
        · omega
    · have e3 : ∀ q, (q < 161 ∨ q = 163 ∨ 167 < q) → s3 q = s1 q := fun q hq => hF3 q (fun z => by simp at z; omega)
      have kk3 : kX E s1 s3 := by
        have l := lo_none gd.s0
        exact ⟨fun q a b => e3 q (by omega), fun q a b => e3 q (by omega), by rw [e3 25 (by omega)], e3 2 (by omega), e3 _ (by omega)⟩
      have k3 := kX_t k1 kk3
      have x3 : iX s3 := iX_c x1 (fun q hq => e3 q (by omega))
      have m3 := iM_q h.m k3.m
      have e191 : s3 191 = s 191 := k3.m 191 (by decide) (by decide)
      refine ⟨_, E, s3, rfl, rfl, h.e.g, am_wp_mono (t_boundM (d := 25) (s := s3) h.e.g m3.hy.hm va vb (by rw [e191]; exact pM)) ?_⟩
      rintro rv g (⟨d1, -⟩ | ⟨d1, s2, hF, fl, ⟨y, -⟩ | ⟨y, hb⟩⟩)
      · exact absurd c1 d1
      · exact absurd (snd s3 s2 k3 fl) y
      · have n2 : s2 168 1 = s 25 0 := by rw [hF.2 1 (by decide), w0_my.1, (mk_my k3).1]; exact en
        have n1 := k1.n0
        have my2 : my s2 = my s := by rw [← (mk_my k3).2, ← (w0_my (s := s3)).2]; funext p q; unfold my; rw [hF.1 169 (by decide)]
        rcases hb with ⟨b2, -⟩ | ⟨b2, -⟩ | ⟨b2, gr2, s4, stp2, rfl, rfl, hF4, bd2, pb4⟩
        · omega
        · omega
        · have p2 : s2 191 = s 191 := by rw [hF.1 191 (by decide), am_w_row (by decide)]; exact e191
          rw [n2, my2, p2] at bd2
          rw [n1, e1 161 (by decide) (by decide)] at bd
          obtain ⟨u1, u2, -⟩ := bd_uniq ⟨by omega, nn.1.2⟩ (fun p q p0 p1 q0 q1 => em1 p q p0 p1 q0 q1) (fun c c0 c1 => (h.f.pe c c0 c1).symm) A.toNat bd bd2
          have q := kM_t (kM_t (kM_0 (s := s3) gd) (kM_F gd hF (by decide) (by decide) (by decide))) (kM_Fr gd hF4 (by decide))
          have w : ∀ y, y ≠ 0 → y ≠ 12 → s4 168 y = s 168 y := fun y y0 y1 => by rw [hF4 168 (by decide), hF.2 y (by simp; exact y1), am_w_x y0, k3.m 168 (by decide) (by decide)]
          have m2 := iM_F (iM_0 m3) hF
          have m4 : iM s4 := iM_c m2 (fun q hq => hF4 q (by simp; omega)) (fun c c0 c1 => by have := pb4 c c0 c1; omega) (fun y _ => by rw [hF4 168 (by decide)])
          have gb := (bd_b (by omega) c1.2 bd).2
          have x : ∀ q, q < 168 → s4 q = s3 q := q.x
          have s3e : ∀ q, q ≠ 25 → q ≠ 47 → q < 161 → s3 q = s q := fun q a b c => by rw [e3 q (by omega)]; exact e1 q a b
          refine ⟨by rw [u2 (by omega)], E, s4, rfl, iAll_k h (iE_s h.e) rfl k3 x3 q m4 ⟨?_, ?_, ?_, ?_, fun y y0 y1 => ?_, fun y y0 y1 => ?_, fun z => ?_⟩⟩
          · rw [w 14 (by decide) (by decide), x 48 (by decide), s3e 48 (by decide) (by decide) (by decide)]; exact h.f.f14
          · rw [w 18 (by decide) (by decide), x 58 (by decide), s3e 58 (by decide) (by decide) (by decide)]; exact h.f.f18
          · rw [w 24 (by decide) (by decide), x 127 (by decide), s3e 127 (by decide) (by decide) (by decide)]; exact h.f.f24
          · rw [w 29 (by decide) (by decide), x 151 (by decide), s3e 151 (by decide) (by decide) (by decide)]; exact h.f.f29
          · rw [x 161 (by decide)]; exact (u1 y y0 y1).symm
          · rw [x 161 (by decide)]
            have g := gb y y0 y1
            have p := pb y y0 y1
            have ak : ((A.toNat : Nat) : Int) ≤ 100 := by omega
            omega
          · rw [x 151 (by decide), s3e 151 (by decide) (by decide) (by decide)] at z
            have t := h.f.to z
            have e183 : s4 183 = s 183 := by rw [hF4 183 (by decide), hF.1 183 (by decide), am_w_row (by decide)]; exact k3.m 183 (by decide) (by decide)
            rw [x 25 (by decide), k3.n0, x 152 (by decide), s3e 152 (by decide) (by decide) (by decide), e183]
            refine ⟨t.1, fun p q p0 p1 q0 q1 => ?_⟩
            have := t.2 p q p0 p1 q0 q1
            unfold mx at this ⊢
            rw [x _ (by omega), x _ (by omega), k3.r _ (by omega) (by omega), k3.r _ (by omega) (by omega)]
            exact this
end PAIRS6
