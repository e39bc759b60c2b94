/-! THE PAIRS: add, drop, set, read, type -/
section PAIRS3
variable {n : Nat} {E : am_Ev} {s : am_S}
theorem new_all {s1 sm : am_S} (h : iAll n E s) (hF : am_Fr (25 :: List.range' 27 20) s s1) (hm1 : mx_ok s1) (h252 : s1 25 2 = 0) (hM : am_Fm [169, 170] [1] (am_w (s_forget s1) 168 0 0) sm) (hmy : my_ok sm) (en : sm 168 1 = s1 25 0) (eM : ∀ a b, 0 ≤ a → a < s1 25 0 → 0 ≤ b → b < s1 25 0 → mx s1 a b = my sm a b) : iAll (n + 1) E (s_chg sm) := by
  have em : ∀ q, q ≠ 168 → q ≠ 169 → q ≠ 170 → sm q = s_forget s1 q := fun q a b c => by rw [hM.1 q (by simp; exact ⟨a, b, c⟩), am_w_row a]
  have f168 : ∀ y, s_forget s1 168 y = s 168 y := fun y => by rw [fg_f (by decide) (by decide) (by decide) (by decide) (by decide), nw_fr hF (by decide) (by omega)]
  have ef : ∀ y, y ≠ 0 → y ≠ 1 → sm 168 y = s 168 y := fun y a b => by rw [hM.2 y (by simp; exact b), am_w_x a]; exact f168 y
  refine iAll_new (s1 := s1) h (fun q hq => nw_fr hF (by omega) (by omega)) hm1 h252 (fun q q0 q1 => em q (by omega) (by omega) (by omega)) hmy (ef 20 (by decide) (by decide)) (ef 26 (by decide) (by decide)) en eM (iT_c h.t rfl ?_ ?_ ?_ ?_)
  · rw [chg_m (by decide), ef 5 (by decide) (by decide)]
  · rw [chg_f (by decide) (by decide), em 2 (by decide) (by decide) (by decide), fg_f (by decide) (by decide) (by decide) (by decide) (by decide), nw_fr hF (by decide) (by omega)]
  · rw [sg_chg h.e.d, em _ (sg_q h.e.d (by decide)) (sg_q h.e.d (by decide)) (sg_q h.e.d (by decide))]; exact nw_sg h hF
  · rw [chg_f (by decide) (by decide), em 171 (by decide) (by decide) (by decide), fg_f (by decide) (by decide) (by decide) (by decide) (by decide), nw_fr hF (by decide) (by omega)]
theorem fg_168 {s s1 : am_S} (hF : am_Fr (25 :: List.range' 27 20) s s1) : s_forget s1 168 = s 168 ∧ s_forget s1 169 = s 169 := ⟨by rw [fg_f (by decide) (by decide) (by decide) (by decide) (by decide), nw_fr hF (by decide) (by omega)], by rw [fg_f (by decide) (by decide) (by decide) (by decide) (by decide), nw_fr hF (by decide) (by omega)]⟩
theorem fg_my {s s1 : am_S} (hF : am_Fr (25 :: List.range' 27 20) s s1) : my (s_forget s1) = my s := by funext a b; unfold my; rw [(fg_168 hF).2]
theorem p_add (h : iAll n E s) (hn : n ≤ 512) : am_pairI (am_hp E s) 126 173 [] (wInv (n + 1)) := by
  have nn := i_n h
  have en := h.nn.en
  have hQ := i_pQ h hn
  refine mk_pairI h.e.g (am_wp_mono (t_addX (d := 27) h.e.g nn.1 hQ.1) ?_)
  rintro rv g (⟨c1, rfl, rfl⟩ | ⟨c1, rfl, s1, rfl, hF, e0, e2, hz⟩)
  · refine ⟨_, E, s, rfl, rfl, h.e.g, am_wp_mono (t_addM (d := 28) h.e.g nn.2) ?_⟩
    rintro rv g (⟨d1, rfl, rfl⟩ | ⟨d1, -⟩)
    · exact ⟨rfl, E, _, rfl, iAll_0 h⟩
    · omega
  · have k168 := (fg_168 hF).1
    refine ⟨_, E, _, rfl, rfl, h.e.g, am_wp_mono (t_addM (d := 28) (s := s_forget s1) h.e.g (by rw [k168]; exact nn.2)) ?_⟩
    rw [k168, fg_my hF, en]
    rintro rv g (⟨d1, -⟩ | ⟨d1, rfl, sm, rfl, hM, e1, hy⟩)
    · omega
    · have hD := h.x.hx.hm.2.2
      have hE : ∀ a b, 0 ≤ a → a < s1 25 0 → 0 ≤ b → b < s1 25 0 → mx s1 a b = my sm a b ∧ 0 ≤ mx s1 a b ∧ mx s1 a b < 2147483648 := fun a b a0 a1 b0 b1 => by
        rw [hz a b a0 (by omega) b0 (by omega), hy a b a0 (by omega) b0 (by omega)]
        split
        · omega
        · rename_i z
          exact ⟨h.nn.em a b a0 (by omega) b0 (by omega), hD a b a0 (by omega) b0 (by omega)⟩
      refine ⟨rfl, E, _, rfl, new_all h hF ⟨by omega, by omega, fun a b a0 a1 b0 b1 => (hE a b a0 a1 b0 b1).2⟩ e2 (Fm_m hM (by decide) (fun _ y => y)) ⟨by omega, by omega, fun a b a0 a1 b0 b1 => ?_⟩ (by omega) (fun a b a0 a1 b0 b1 => (hE a b a0 a1 b0 b1).1)⟩
      rw [← (hE a b a0 (by omega) b0 (by omega)).1]
      exact (hE a b a0 (by omega) b0 (by omega)).2
theorem p_drop (h : iAll n E s) (hn : n ≤ 512) (a : Int32) : am_pairI (am_hp E s) 127 174 [.int a] (wInv (n + 1)) := by
  have nn := i_n h
  have en := h.nn.en
  have hQ := i_pQ h hn
  rw [iI_of a]
  refine mk_pairI h.e.g (am_wp_mono (t_dropX (d := 27) h.e.g nn.1 (iI_r a) hQ.1) ?_)
  rintro rv g (⟨c1, rfl, rfl⟩ | ⟨c1, c2, rfl, rfl⟩ | ⟨c1, c2, rfl, s1, rfl, hF, e0, e2, hz⟩)
  · refine ⟨_, E, s, rfl, rfl, h.e.g, am_wp_mono (t_dropM (d := 28) h.e.g nn.2 (iI_r a)) ?_⟩
    rw [en]
    rintro rv g (⟨d1, rfl, rfl⟩ | ⟨d1, -⟩ | ⟨d1, -⟩)
    · exact ⟨rfl, E, _, rfl, iAll_0 h⟩
    · exact absurd d1 c1
    · exact absurd d1 c1
  · refine ⟨_, E, s, rfl, rfl, h.e.g, am_wp_mono (t_dropM (d := 28) h.e.g nn.2 (iI_r a)) ?_⟩
    rw [en]
    rintro rv g (⟨d1, -⟩ | ⟨d1, d2, rfl, rfl⟩ | ⟨d1, d2, -⟩)
    · exact absurd c1 d1
    · exact ⟨rfl, E, _, rfl, iAll_0 h⟩
    · omega
  · have k168 := (fg_168 hF).1
    refine ⟨_, E, _, rfl, rfl, h.e.g, am_wp_mono (t_dropM (d := 28) (s := s_forget s1) h.e.g (by rw [k168]; exact nn.2) (iI_r a)) ?_⟩
    rw [k168, fg_my hF, en]
    rintro rv g (⟨d1, -⟩ | ⟨d1, d2, -⟩ | ⟨d1, d2, rfl, sm, rfl, hM, e1, hy⟩)
    · exact absurd c1 d1
    · omega
    · have hD := h.x.hx.hm.2.2
      have hs : ∀ x, 0 ≤ x → x < s 25 0 - 1 → 0 ≤ sk a.toInt x ∧ sk a.toInt x < s 25 0 := fun x x0 x1 => by
        unfold sk
        split <;> omega
      have hE : ∀ x y, 0 ≤ x → x < s1 25 0 → 0 ≤ y → y < s1 25 0 → mx s1 x y = my sm x y ∧ 0 ≤ mx s1 x y ∧ mx s1 x y < 2147483648 := fun x y x0 x1 y0 y1 => by
        have p := hs x x0 (by omega)
        have q := hs y y0 (by omega)
        rw [hz x y x0 (by omega) y0 (by omega), hy x y x0 (by omega) y0 (by omega)]
        exact ⟨h.nn.em _ _ p.1 p.2 q.1 q.2, hD _ _ p.1 p.2 q.1 q.2⟩
      refine ⟨rfl, E, _, rfl, new_all h hF ⟨by omega, by omega, fun x y x0 x1 y0 y1 => (hE x y x0 x1 y0 y1).2⟩ e2 (Fm_m hM (fun _ y => y) (fun _ y => y)) ⟨by omega, by omega, fun x y x0 x1 y0 y1 => ?_⟩ (by omega) (fun x y x0 x1 y0 y1 => (hE x y x0 x1 y0 y1).1)⟩
      rw [← (hE x y x0 (by omega) y0 (by omega)).1]
      exact (hE x y x0 (by omega) y0 (by omega)).2
def sX1 (s : am_S) (a b v e : Int) : am_S := if e = 0 then am_w (am_w s (26 + 1 + a.toNat) b v) 25 2 0 else am_w (am_w (am_w (am_w s (26 + 1 + a.toNat) b v) 25 2 0) (26 + 1 + b.toNat) a v) 25 2 0
def sM1 (s : am_S) (a b v e : Int) : am_S := if e = 0 then am_w s 169 (20 * a + b) v else am_w (am_w s 169 (20 * a + b) v) 169 (20 * b + a) v
theorem se_X1 {s : am_S} {a b v e : Int} : se_X s a b v e = s_forget (sX1 s a b v e) := by unfold se_X sX1; split <;> rfl
theorem se_M1 {s : am_S} {a b v e : Int} : se_M s a b v e = s_chg (sM1 s a b v e) := by unfold se_M sM1; split <;> rfl
def sV (D : Int → Int → Int) (a b v e x y : Int) : Int := if e ≠ 0 ∧ x = b ∧ y = a then v else if x = a ∧ y = b then v else D x y
theorem sX1_f {s : am_S} {a b v e : Int} (ha : 0 ≤ a ∧ a < 20) (hb : 0 ≤ b ∧ b < 20) : am_Fr (25 :: List.range' 27 20) s (sX1 s a b v e) ∧ sX1 s a b v e 25 0 = s 25 0 ∧ sX1 s a b v e 25 2 = 0 ∧ ∀ x y, 0 ≤ x → x < 20 → mx (sX1 s a b v e) x y = sV (mx s) a b v e x y := by
  unfold sX1
  by_cases z : e = 0
  · rw [if_pos z]
    refine ⟨fun q hq => ?_, ?_, am_w_eq _ _ _ _, fun x y x0 x1 => ?_⟩
    · simp [List.mem_range'_1] at hq
      rw [am_w_row hq.1, am_w_row (by omega)]
    · rw [am_w_x (by decide), am_w_row (by omega)]
    · unfold sV
      rw [if_neg (fun k => k.1 z)]
      show am_w _ 25 2 0 (26 + 1 + x.toNat) y = _
      rw [am_w_row (by omega)]
      by_cases k : x = a ∧ y = b
      · rw [if_pos k, k.1, k.2, am_w_eq]
      · rw [if_neg k, am_w_n (fun j => k ⟨by omega, j.2⟩)]; rfl
  · rw [if_neg z]
    refine ⟨fun q hq => ?_, ?_, am_w_eq _ _ _ _, fun x y x0 x1 => ?_⟩
    · simp [List.mem_range'_1] at hq
      rw [am_w_row hq.1, am_w_row (by omega), am_w_row hq.1, am_w_row (by omega)]
    · rw [am_w_x (by decide), am_w_row (by omega), am_w_x (by decide), am_w_row (by omega)]
    · unfold sV
      show am_w _ 25 2 0 (26 + 1 + x.toNat) y = _
      rw [am_w_row (by omega)]
      by_cases j : x = b ∧ y = a
      · rw [if_pos ⟨z, j⟩, j.1, j.2, am_w_eq]
      · rw [if_neg (fun k => j k.2), am_w_n (fun k => j ⟨by omega, k.2⟩), am_w_row (by omega)]
        by_cases k : x = a ∧ y = b
        · rw [if_pos k, k.1, k.2, am_w_eq]
        · rw [if_neg k, am_w_n (fun j => k ⟨by omega, j.2⟩)]; rfl
theorem sM1_f {s : am_S} {a b v e : Int} (ha : 0 ≤ a ∧ a < 20) (hb : 0 ≤ b ∧ b < 20) : am_Fm [169, 170] [1] s (sM1 s a b v e) ∧ sM1 s a b v e 168 1 = s 168 1 ∧ ∀ x y, 0 ≤ x → x < 20 → 0 ≤ y → y < 20 → my (sM1 s a b v e) x y = sV (my s) a b v e x y := by
  unfold sM1
  by_cases z : e = 0
  · rw [if_pos z]
    refine ⟨⟨fun q hq => am_w_row (fun k => hq (by simp [k])), fun y _ => by rw [am_w_row (by decide)]⟩, by rw [am_w_row (by decide)], fun x y x0 x1 y0 y1 => ?_⟩
    unfold sV
    rw [if_neg (fun k => k.1 z)]
    show am_w _ 169 _ v 169 (20 * x + y) = _
    by_cases k : x = a ∧ y = b
    · rw [if_pos k, k.1, k.2, am_w_eq]
    · rw [if_neg k, am_w_x (ix20 ⟨y0, y1⟩ hb (fun j => k j))]; rfl
  · rw [if_neg z]
    refine ⟨⟨fun q hq => by rw [am_w_row (fun k => hq (by simp [k])), am_w_row (fun k => hq (by simp [k]))], fun y _ => by rw [am_w_row (by decide), am_w_row (by decide)]⟩, by rw [am_w_row (by decide), am_w_row (by decide)], fun x y x0 x1 y0 y1 => ?_⟩
    unfold sV
    show am_w _ 169 _ v 169 (20 * x + y) = _
    by_cases j : x = b ∧ y = a
    · rw [if_pos ⟨z, j⟩, j.1, j.2, am_w_eq]
    · rw [if_neg (fun k => j k.2), am_w_x (ix20 ⟨y0, y1⟩ ha (fun k => j k))]
      by_cases k : x = a ∧ y = b
      · rw [if_pos k, k.1, k.2, am_w_eq]
      · rw [if_neg k, am_w_x (ix20 ⟨y0, y1⟩ hb (fun j => k j))]; rfl
theorem p_set (h : iAll n E s) (hn : n ≤ 512) (a b c e : Int32) : am_pairI (am_hp E s) 128 175 [.int a, .int b, .int c, .int (if e = 0 then 0 else 1)] (wInv (n + 1)) := by
  have nn := i_n h
  have en := h.nn.en
  have hQ := i_pQ h hn
  obtain ⟨w, hw, ew⟩ : ∃ w : Int, (w = 0 ∨ w = 1) ∧ (if e = 0 then 0 else 1 : Int32) = iI w := by
    by_cases z : e = 0
    · exact ⟨0, Or.inl rfl, by rw [if_pos z]; rfl⟩
    · exact ⟨1, Or.inr rfl, by rw [if_neg z]; rfl⟩
  rw [iI_of a, iI_of b, iI_of c, ew]
  have va := iI_r a
  have vb := iI_r b
  have vc := iI_r c
  generalize a.toInt = A at va ⊢
  generalize b.toInt = B at vb ⊢
  generalize c.toInt = C at vc ⊢
  refine mk_pairI h.e.g (am_wp_mono (t_setX (d := 27) h.e.g nn.1 va vb vc hw hQ.1) ?_)
  rintro rv g (⟨c1, rfl, rfl⟩ | ⟨c1, c2, rfl, rfl⟩ | ⟨c1, c2, rfl, rfl⟩)
  · refine ⟨_, E, s, rfl, rfl, h.e.g, am_wp_mono (t_setM (d := 28) h.e.g nn.2 va vb vc hw) ?_⟩
    rw [en]
    rintro rv g (⟨d1, rfl, rfl⟩ | ⟨d1, -⟩ | ⟨d1, -⟩)
    · exact ⟨rfl, E, _, rfl, iAll_0 h⟩
    · exact absurd d1 c1
    · exact absurd d1 c1
  · refine ⟨_, E, s, rfl, rfl, h.e.g, am_wp_mono (t_setM (d := 28) h.e.g nn.2 va vb vc hw) ?_⟩
    rw [en]
    rintro rv g (⟨d1, -⟩ | ⟨d1, d2, rfl, rfl⟩ | ⟨d1, d2, -⟩)
    · exact absurd c1 d1
    · exact ⟨rfl, E, _, rfl, iAll_0 h⟩
    · omega
  · obtain ⟨hF, x0, x2, xm⟩ := sX1_f (s := s) (v := C) (e := w) (show 0 ≤ A ∧ A < 20 by omega) (show 0 ≤ B ∧ B < 20 by omega)
    rw [se_X1]
    have k168 := (fg_168 hF).1
    refine ⟨_, E, _, rfl, rfl, h.e.g, am_wp_mono (t_setM (d := 28) (s := s_forget (sX1 s A B C w)) h.e.g (by rw [k168]; exact nn.2) va vb vc hw) ?_⟩
    rw [k168, fg_my hF, en]
    rintro rv g (⟨d1, -⟩ | ⟨d1, d2, -⟩ | ⟨d1, d2, rfl, rfl⟩)
    · exact absurd c1 d1
    · omega
    · rw [se_M1]
      obtain ⟨hM, y1, ym⟩ := sM1_f (s := am_w (s_forget (sX1 s A B C w)) 168 0 0) (v := C) (e := w) (show 0 ≤ A ∧ A < 20 by omega) (show 0 ≤ B ∧ B < 20 by omega)
      have hD := h.x.hx.hm.2.2
      have em : my (am_w (s_forget (sX1 s A B C w)) 168 0 0) = my s := by rw [← fg_my hF]; funext p q; unfold my; rw [am_w_row (by decide)]
      rw [em] at ym
      have yn : sM1 (am_w (s_forget (sX1 s A B C w)) 168 0 0) A B C w 168 1 = s 25 0 := by rw [y1, am_w_x (by decide), k168]; exact en
      have hE : ∀ x y, 0 ≤ x → x < s 25 0 → 0 ≤ y → y < s 25 0 → mx (sX1 s A B C w) x y = my (sM1 (am_w (s_forget (sX1 s A B C w)) 168 0 0) A B C w) x y ∧ 0 ≤ mx (sX1 s A B C w) x y ∧ mx (sX1 s A B C w) x y < 2147483648 := fun x y p0 p1 q0 q1 => by
        rw [xm x y p0 (by omega), ym x y p0 (by omega) q0 (by omega)]
        unfold sV
        split
        · have := vc.2; omega
        · split
          · have := vc.2; omega
          · exact ⟨h.nn.em x y p0 p1 q0 q1, hD x y p0 p1 q0 q1⟩
      refine ⟨?_, E, _, rfl, new_all h hF ⟨by omega, by omega, fun x y p0 p1 q0 q1 => (hE x y p0 (by omega) q0 (by omega)).2⟩ x2 hM ⟨by omega, by omega, fun x y p0 p1 q0 q1 => ?_⟩ (by omega) (fun x y p0 p1 q0 q1 => (hE x y p0 (by omega) q0 (by omega)).1)⟩
      · rw [h.nn.em A B c1.1.1 c1.1.2 c1.2.1 c1.2.2]
      · rw [← (hE x y p0 (by omega) q0 (by omega)).1]
        exact (hE x y p0 (by omega) q0 (by omega)).2
end PAIRS3
