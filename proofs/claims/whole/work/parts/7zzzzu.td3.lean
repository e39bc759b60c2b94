/-! THE PAIRS: what only tells -/
theorem get_I {n : Nat} {E : am_Ev} {s : am_S} {jx jm : Nat} {as : List Value} {vx vm : Int} (h : iAll n E s) (X : am_wp 29 jx 0 (lv_args 0 (.ref 1 :: as)) [] (am_hp E s) (fun rv h => rv = some (.int (iI vx)) ∧ h = am_hp E s)) (M : am_wp 29 jm 0 (lv_args 0 (.ref 168 :: as)) [] (am_hp E s) (fun rv h => rv = some (.int (iI vm)) ∧ h = am_hp E (am_w s 168 0 0))) (e : vx = vm) : am_pairI (am_hp E s) jx jm as (wInv (n + 1)) := by
  refine mk_pairI h.e.g (am_wp_mono X ?_)
  rintro rv g ⟨rfl, rfl⟩
  refine ⟨_, E, s, rfl, rfl, h.e.g, am_wp_mono M ?_⟩
  rintro rv g ⟨rfl, rfl⟩
  exact ⟨by rw [e], E, _, rfl, iAll_0 h⟩
theorem get_J {n : Nat} {E : am_Ev} {s : am_S} {jx jm : Nat} {as : List Value} {vx vm : Int} (h : iAll n E s) (X : am_wp 29 jx 0 (lv_args 0 (.ref 1 :: as)) [] (am_hp E s) (fun rv h => rv = some (.long (lI vx)) ∧ h = am_hp E s)) (M : am_wp 29 jm 0 (lv_args 0 (.ref 168 :: as)) [] (am_hp E s) (fun rv h => rv = some (.long (lI vm)) ∧ h = am_hp E (am_w s 168 0 0))) (e : vx = vm) : am_pairJ (am_hp E s) jx jm as (wInv (n + 1)) := by
  refine mk_pairJ h.e.g (am_wp_mono X ?_)
  rintro rv g ⟨rfl, rfl⟩
  refine ⟨_, E, s, rfl, rfl, h.e.g, am_wp_mono M ?_⟩
  rintro rv g ⟨rfl, rfl⟩
  exact ⟨by rw [e], E, _, rfl, iAll_0 h⟩
theorem od_hu {n : Int} {k : Nat} {ins hu hu2 od : Int → Int} (hn : 1 ≤ n) (e : ∀ c, 0 ≤ c → c < n → hu c = hu2 c) (h : od_ok n 0 k ins hu od) : od_ok n 0 k ins hu2 od := by
  refine ⟨h.1, by rw [← e 0 (by omega) (by omega)]; exact h.2.1, h.2.2.1, h.2.2.2.1, h.2.2.2.2.1, fun i i0 i1 => ?_⟩
  obtain ⟨j, j0, j1, j2⟩ := h.2.2.2.2.2 i i0 i1
  have r := h.2.2.1 i (by omega) i1
  exact ⟨j, j0, j1, by rw [← e _ r.1 r.2.1]; exact j2⟩
section PAIRS
variable {n : Nat} {E : am_Ev} {s : am_S}
theorem i_n (h : iAll n E s) : (1 ≤ s 25 0 ∧ s 25 0 ≤ 20) ∧ 1 ≤ s 168 1 ∧ s 168 1 ≤ 20 := by
  have a := h.x.hx.hm.1
  have b := h.x.hx.hm.2.1
  have := h.nn.en
  omega
theorem i_tree (h : iAll n E s) (z : s 48 0 = 1) : (∀ c, 0 ≤ c → c < s 25 0 → s 50 c = s 192 c) ∧ s 48 1 = s 168 16 ∧ s 48 2 = s 168 20 ∧ ∀ i, 0 ≤ i → i < s 48 2 → s 55 i = s 177 i := cmp_tree h.nn h.x h.m (h.x.hx.ht z) (h.m.hy.ht (by rw [h.f.f14]; exact z))
theorem i_pair (h : iAll n E s) (z : s 58 0 = 1) : (∀ c, 0 ≤ c → c < s 25 0 → s 60 c = s 178 c) ∧ s 58 1 = s 168 22 ∧ s 58 2 = 2 * s 168 22 := by
  have p := (h.x.hx.hpa z).1
  exact cmp_pair h.nn h.x h.m (h.x.hx.ht p) (h.m.hy.ht (by rw [h.f.f14]; exact p)) (h.x.pp z) (h.m.qp (by rw [h.f.f18]; exact z))
theorem i_walk (h : iAll n E s) (z : s 127 0 = 1) : s 127 1 = s 168 26 ∧ ∀ i, 0 ≤ i → i < s 127 1 → s 128 (s 127 1 - 1 - i) = s 180 i := by
  have w := h.x.hx.hwx z
  have wy := (h.m.hy.hwy (by rw [h.f.f24]; exact z)).2
  have p := (h.x.hx.hpa w.1).1
  exact cmp_walk h.nn (by have := (i_n h).1; omega) (i_tree h p).1 (i_pair h w.1).1 w.2 wy
theorem p_cities (h : iAll n E s) : am_pairI (am_hp E s) 130 177 [] (wInv (n + 1)) := get_I h (t_citiesX (d := 29) h.e.g (i_n h).1) (t_citiesM (d := 29) h.e.g (i_n h).2) h.nn.en.symm
theorem p_dist (h : iAll n E s) (a b : Int32) : am_pairI (am_hp E s) 129 176 [.int a, .int b] (wInv (n + 1)) := by
  rw [iI_of a, iI_of b]
  refine get_I h (t_distanceX (d := 28) h.e.g (i_n h).1 (iI_r a) (iI_r b)) (t_distanceM (d := 28) h.e.g (i_n h).2 (iI_r a) (iI_r b)) ?_
  rw [h.nn.en]
  split
  · rename_i z
    exact h.nn.em _ _ z.1.1 z.1.2 z.2.1 z.2.2
  · rfl
theorem p_hung (h : iAll n E s) (a : Int32) : am_pairI (am_hp E s) 133 186 [.int a] (wInv (n + 1)) := by
  rw [iI_of a]
  refine get_I h (t_hungX (d := 28) h.e.g (i_n h).1 (iI_r a) h.x.hx.hf) (t_hungM (d := 28) h.e.g (i_n h).2 (iI_r a) h.m.hy.hf) ?_
  rw [h.nn.en, h.f.f14]
  split
  · rename_i z
    split
    · rfl
    · rename_i y
      exact (i_tree h (h.x.hx.hf.resolve_left y)).1 _ z.1 z.2
  · rfl
theorem p_odd (h : iAll n E s) (a : Int32) : am_pairI (am_hp E s) 135 189 [.int a] (wInv (n + 1)) := by
  rw [iI_of a]
  refine get_I h (t_oddX (d := 29) h.e.g (i_n h).1 (iI_r a) h.x.hx.hf h.x.r48) (t_oddM (d := 28) h.e.g (i_n h).2 (iI_r a) h.m.hy.hf h.m.r20) ?_
  rw [h.f.f14]
  by_cases y : s 48 0 = 0
  · rw [if_pos y, if_pos y]
  · have t := i_tree h (h.x.hx.hf.resolve_left y)
    rw [if_neg y, if_neg y, ← t.2.2.1]
    split
    · rename_i z
      exact t.2.2.2 _ z.1 z.2
    · rfl
theorem p_partner (h : iAll n E s) (a : Int32) : am_pairI (am_hp E s) 137 192 [.int a] (wInv (n + 1)) := by
  rw [iI_of a]
  refine get_I h (t_partnerX (d := 28) h.e.g (i_n h).1 (iI_r a) h.x.hx.hg) (t_partnerM (d := 28) h.e.g (i_n h).2 (iI_r a) h.m.hy.hg) ?_
  rw [h.nn.en, h.f.f18]
  split
  · rename_i z
    split
    · rfl
    · rename_i y
      exact (i_pair h (h.x.hx.hg.resolve_left y)).1 _ z.1 z.2
  · rfl
theorem p_prices (h : iAll n E s) : am_pairJ (am_hp E s) 138 193 [] (wInv (n + 1)) := by
  refine get_J h (t_pricesX (d := 29) h.e.g (i_n h).1 h.x.hx.hg) (t_pricesM (d := 29) h.e.g (i_n h).2 h.m.hy.hg) ?_
  rw [h.f.f18]
  split
  · rfl
  · rename_i y
    exact (i_pair h (h.x.hx.hg.resolve_left y)).2.2
theorem p_corner (h : iAll n E s) (a : Int32) : am_pairI (am_hp E s) 140 197 [.int a] (wInv (n + 1)) := by
  rw [iI_of a]
  refine get_I h (t_cornerX (d := 28) h.e.g (i_n h).1 (iI_r a) h.x.hx.hw h.x.r127) (t_cornerM (d := 28) h.e.g (i_n h).2 (iI_r a) h.m.hy.hw h.m.r26) ?_
  rw [h.f.f24]
  by_cases y : s 127 0 = 0
  · rw [if_pos y, if_pos y]
  · have t := i_walk h (h.x.hx.hw.resolve_left y)
    rw [if_neg y, if_neg y, ← t.1]
    split
    · rename_i z
      exact t.2 _ z.1 z.2
    · rfl
theorem p_stop (h : iAll n E s) (a : Int32) : am_pairI (am_hp E s) 142 205 [.int a] (wInv (n + 1)) := by
  rw [iI_of a]
  refine get_I h (t_stopX (d := 29) h.e.g (i_n h).1 (iI_r a) h.x.tf h.x.r151) (t_stopM (d := 28) h.e.g (i_n h).2 (iI_r a) h.m.tf) ?_
  rw [h.f.f29, h.nn.en]
  by_cases y : s 151 0 = 0
  · rw [if_pos y, if_pos y]
  · have y1 := h.x.tf.resolve_left y
    rw [if_neg y, if_neg y, (h.x.tt y1).1]
    split
    · rename_i z
      exact (h.f.to y1).1 _ z.1 z.2
    · rfl
theorem tOK_st {N : Int} {t : Int → Int} (n0 : 0 ≤ N) (h : tOK N.toNat t) : st_ok N t ∧ pt_ok N t := by
  have a : st_ok N t := fun i i0 i1 => by have := h.1 i i0 (by omega); omega
  refine ⟨a, a, fun c c0 c1 => ?_⟩
  obtain ⟨j, j0, j1, j2⟩ := h.2.1 c c0 (by omega)
  exact ⟨j, j0, by omega, j2⟩
theorem p_length (h : iAll n E s) : am_pairJ (am_hp E s) 144 207 [] (wInv (n + 1)) := by
  have nn := i_n h
  refine get_J h (t_lengthX (d := 27) h.e.g h.x.hx.hm h.x.tf (fun z => ⟨(h.x.tt z).1, (tOK_st (by omega) (h.x.tt z).2).1⟩)) (t_lengthM (d := 27) h.e.g h.m.hy.hm h.m.tf (fun z => (tOK_st (by omega) (h.m.tt z)).1)) ?_
  rw [h.f.f29, h.nn.en]
  by_cases y : s 151 0 = 0
  · rw [if_pos y, if_pos y]
  · have y1 := h.x.tf.resolve_left y
    rw [if_neg y, if_neg y, (h.x.tt y1).1]
    exact tl_congr (fun a b a0 a1 b0 b1 => h.nn.em a b a0 a1 b0 b1) (tOK_st (by omega) (h.x.tt y1).2).1 (h.f.to y1).1 _ (by omega)
theorem p_penalty (h : iAll n E s) (a : Int32) : am_pairJ (am_hp E s) 148 216 [.int a] (wInv (n + 1)) := by
  have nn := i_n h
  rw [iI_of a]
  refine get_J h (t_penaltyX (d := 28) h.e.g nn.1 (iI_r a)) (t_penaltyM (d := 28) h.e.g nn.2 (iI_r a)) ?_
  rw [h.nn.en]
  split
  · rename_i z
    exact (h.f.pe _ z.1 (by omega)).symm
  · rfl
theorem pl_uniq {N fl c : Int} {t t2 : Int → Int} {r r2 : Option Value} (e : ∀ i, 0 ≤ i → i < N → fl = 1 → t i = t2 i) (h : pl_at N fl t c r) (h2 : pl_at N fl t2 c r2) : r2 = r ∧ ∃ x : Int32, r = some (.int x) := by
  rcases h with ⟨a, b⟩ | ⟨a, a2, b⟩ | ⟨a, a2, k, b, k0, k1, k2, k3⟩ <;> rcases h2 with ⟨p, q⟩ | ⟨p, p2, q⟩ | ⟨p, p2, l, q, l0, l1, l2, l3⟩
  · exact ⟨by rw [b, q], _, b⟩
  · exact absurd p a
  · exact absurd p a
  · exact absurd a p
  · exact ⟨by rw [b, q], _, b⟩
  · omega
  · exact absurd a p
  · omega
  · have : k = l := by
      rcases Int.lt_trichotomy k l with z | z | z
      · exact absurd (by rw [← e k k0 k1 a2]; exact k2) (l3 k k0 z)
      · exact z
      · exact absurd (by rw [e l l0 l1 a2]; exact l2) (k3 l l0 z)
    exact ⟨by rw [b, q, this], _, b⟩
theorem p_place (h : iAll n E s) (a : Int32) : am_pairI (am_hp E s) 143 206 [.int a] (wInv (n + 1)) := by
  have nn := i_n h
  rw [iI_of a]
  refine mk_pairI h.e.g (am_wp_mono (t_placeX (d := 28) h.e.g nn.1 (iI_r a) h.x.tf (fun z => ⟨(h.x.tt z).1, (tOK_st (by omega) (h.x.tt z).2).2⟩)) ?_)
  rintro rv g ⟨rfl, p1⟩
  have M := t_placeM (d := 28) (s := s) (c := a.toInt) h.e.g nn.2 (iI_r a) h.m.tf (fun z => (tOK_st (by omega) (h.m.tt z)).2)
  obtain ⟨x, hx⟩ : ∃ x : Int32, rv = some (.int x) := (pl_uniq (t2 := s 152) (fun _ _ _ _ => rfl) p1 p1).2
  refine ⟨x, E, s, hx, rfl, h.e.g, am_wp_mono M ?_⟩
  rintro r2 g ⟨rfl, p2⟩
  rw [h.nn.en, h.f.f29] at p2
  have u := pl_uniq (fun i i0 i1 z => (h.f.to z).1 i i0 i1) p1 p2
  exact ⟨by rw [u.1, hx], E, _, rfl, iAll_0 h⟩
theorem p_cut (h : iAll n E s) (a : Int32) : am_pairI (am_hp E s) 134 188 [.int a] (wInv (n + 1)) := by
  have nn := i_n h
  rw [iI_of a]
  have tr : s 48 0 = 1 → (∀ c, 0 ≤ c → c < s 25 0 → s 50 c = -1 ∨ 0 ≤ s 50 c ∧ s 50 c < s 25 0) := fun z c c0 c1 => by
    have t := h.x.hx.ht z
    obtain ⟨-, g2, -, g4⟩ := gw_rng (Int.le_refl 0) t.1
    by_cases e : c = 0
    · subst e; exact Or.inl (g4 (by omega)).2
    · exact Or.inr (g2 c c0 c1 (by show (0 : Int) ≤ c; omega) e)
  refine mk_pairI h.e.g (am_wp_mono (t_cutX (d := 28) h.e.g h.x.hx.hm (iI_r a) h.x.hx.hf (fun z => ⟨tr z, (h.x.hx.ht z).2.2.2.1⟩)) ?_)
  rintro rv g ⟨rfl, p1⟩
  have tm : s 168 14 = 1 → od_ex (s 168 1) (s 192) := fun z => by
    rw [h.f.f14] at z
    rw [h.nn.en]
    obtain ⟨ins, odr, o1, o2⟩ := (h.x.hx.ht z).2.2.2.2.1
    exact ⟨ins, odr, od_hu (by omega) (i_tree h z).1 o1, o2⟩
  have M := t_cutM (d := 27) (s := s) (city := a.toInt) h.e.g h.m.hy.hm (iI_r a) h.m.hy.hf tm
  have w1 : am_w s 168 0 0 168 1 = s 25 0 := by rw [am_w_x (by decide)]; exact h.nn.en
  have w14 : am_w s 168 0 0 168 14 = s 48 0 := by rw [am_w_x (by decide)]; exact h.f.f14
  have wy : my (am_w s 168 0 0) = my s := by funext a b; unfold my; rw [am_w_row (by decide)]
  have w192 : am_w s 168 0 0 192 = s 192 := am_w_row (by decide)
  rcases p1 with ⟨c1, rfl⟩ | ⟨c1, c2, rfl⟩ | ⟨c1, c2, v, rfl, ct⟩
  · refine ⟨_, E, s, rfl, rfl, h.e.g, am_wp_mono M ?_⟩
    rintro r2 g (⟨d1, rfl, rfl⟩ | ⟨d1, d2, rfl, rfl⟩ | ⟨d1, d2, v, rfl, ct, rfl⟩)
    · exact ⟨rfl, E, _, rfl, iAll_0 h⟩
    · rw [w1] at d1; exact absurd d1 c1
    · rw [w1] at d1; exact absurd d1 c1
  · refine ⟨_, E, s, rfl, rfl, h.e.g, am_wp_mono M ?_⟩
    rintro r2 g (⟨d1, rfl, rfl⟩ | ⟨d1, d2, rfl, rfl⟩ | ⟨d1, d2, v, rfl, ct, rfl⟩)
    · rw [w1] at d1; exact absurd c1 d1
    · exact ⟨rfl, E, _, rfl, iAll_0 h⟩
    · rw [w14] at d2; omega
  · refine ⟨_, E, s, rfl, rfl, h.e.g, am_wp_mono M ?_⟩
    rintro r2 g (⟨d1, rfl, rfl⟩ | ⟨d1, d2, rfl, rfl⟩ | ⟨d1, d2, v2, rfl, ct2, rfl⟩)
    · rw [w1] at d1; exact absurd c1 d1
    · rw [w14] at d2; omega
    · rw [w1, wy, w192] at ct2
      have e50 := (i_tree h c2).1
      have := ct_uniq (fun a b a0 a1 b0 b1 => h.nn.em a b a0 a1 b0 b1) (fun x y x0 x1 y0 y1 => by
        unfold ct_el
        rw [dsc_congr (tr c2) e50 ⟨x0, x1⟩, dsc_congr (tr c2) e50 ⟨y0, y1⟩, e50 _ c1.1 c1.2]) ct ct2
      rw [this]
      exact ⟨rfl, E, _, rfl, iAll_0 h⟩
end PAIRS
