/-! THE PAIRS: what changes the matrix or the tape -/
theorem bHx_c2 {s s1 : am_S} (h : bHx s) (e25 : s1 25 0 = s 25 0) (e : ∀ q, 25 < q → q < 151 → q ≠ 47 → s1 q = s q) : bHx s1 := by
  have m2 := h.hm.2.1
  have em : ∀ a b, 0 ≤ a → a < s 25 0 → mx s1 a b = mx s a b := fun a b a0 a1 => by
    unfold mx
    rw [e _ (by omega) (by omega) (by omega)]
  have e48 := e 48 (by decide) (by decide) (by decide)
  have e58 := e 58 (by decide) (by decide) (by decide)
  have e60 := e 60 (by decide) (by decide) (by decide)
  have e127 := e 127 (by decide) (by decide) (by decide)
  refine ⟨⟨by rw [e25]; exact h.hm.1, by rw [e25]; exact m2, fun a b a0 a1 b0 b1 => ?_⟩, fun c c0 c1 => by rw [e 54 (by decide) (by decide) (by decide)]; exact h.hp c c0 c1, by rw [e48]; exact h.hf, by rw [e58]; exact h.hg, by rw [e127]; exact h.hw, fun z => ?_, fun z => ?_, fun z => ?_⟩
  · rw [e25] at a1 b1
    rw [em a b a0 a1]
    exact h.hm.2.2 a b a0 a1 b0 b1
  · have ht := h.ht (by rw [← e48]; exact z)
    unfold tX at ht ⊢
    rw [e25, e48, e 50 (by decide) (by decide) (by decide), e 55 (by decide) (by decide) (by decide), e 56 (by decide) (by decide) (by decide)]
    refine tr_f (fun p q p0 p1 q0 q1 => ?_) ht
    unfold fx
    rw [em p q p0 p1, e 54 (by decide) (by decide) (by decide)]
  · rw [e58] at z
    rw [e48]
    refine ⟨(h.hpa z).1, ?_⟩
    have := (h.hpa z).2
    unfold pr at this ⊢
    rw [e25, e60]; exact this
  · rw [e127] at z
    rw [e58]
    exact ⟨(h.hwx z).1, wX_c e25 (e 50 (by decide) (by decide) (by decide)) e60 (by rw [e127]) (e 128 (by decide) (by decide) (by decide)) (h.hwx z).2⟩
theorem iX_c2 {s s1 : am_S} (h : iX s) (e : ∀ q, 25 ≤ q → q < 158 → s1 q = s q) : iX s1 := by
  have m2 := h.hx.hm.2.1
  have e25 := e 25 (by decide) (by decide)
  refine ⟨bHx_c2 h.hx (by rw [e25]) (fun q q0 hq _ => e q (by omega) (by omega)), lk_c h.lk m2 (by rw [e25]) (by rw [e25]) (fun a a0 a1 => e a (by omega) (by omega)) (e 47 (by decide) (by decide)), by rw [e 54 (by decide) (by decide)]; exact h.z54, fun z => ?_, by rw [e 151 (by decide) (by decide)]; exact h.tf, by rw [e 151 (by decide) (by decide), e25, e 152 (by decide) (by decide)]; exact h.tt, by rw [e 48 (by decide) (by decide)]; exact h.r48, by rw [e 127 (by decide) (by decide)]; exact h.r127, by rw [e 151 (by decide) (by decide)]; exact h.r151⟩
  rw [e 58 (by decide) (by decide)] at z
  exact pP_c (h.pp z) (fun a a0 a1 => e a (by omega) (by omega)) (by rw [e25]) (by rw [e 48 (by decide) (by decide)]) (e 55 (by decide) (by decide)) (e 60 (by decide) (by decide)) (by rw [e 58 (by decide) (by decide)]) (by rw [e 58 (by decide) (by decide)])
/-- flags, penalties and tours stay where both leave them alone -/
theorem iF_c {n : Nat} {s s1 : am_S} (h : iF n s) (hn : s 25 0 ≤ 20) (e : ∀ q, 25 ≤ q → q ≤ 161 → q ≠ 158 → q ≠ 159 → s1 q = s q) (e191 : s1 191 = s 191) (e183 : s1 183 = s 183) (f : ∀ y, y = 14 ∨ y = 18 ∨ y = 24 ∨ y = 29 → s1 168 y = s 168 y) : iF (n + 1) s1 := by
  have hf := iF_s h
  refine ⟨by rw [f 14 (by decide), e 48 (by decide) (by decide) (by decide) (by decide)]; exact hf.f14, by rw [f 18 (by decide), e 58 (by decide) (by decide) (by decide) (by decide)]; exact hf.f18, by rw [f 24 (by decide), e 127 (by decide) (by decide) (by decide) (by decide)]; exact hf.f24, by rw [f 29 (by decide), e 151 (by decide) (by decide) (by decide) (by decide)]; exact hf.f29, by rw [e191, e 161 (by decide) (by decide) (by decide) (by decide)]; exact hf.pe, by rw [e 161 (by decide) (by decide) (by decide) (by decide)]; exact hf.pb, ?_⟩
  rw [e 151 (by decide) (by decide) (by decide) (by decide), e 25 (by decide) (by decide) (by decide) (by decide), e 152 (by decide) (by decide) (by decide) (by decide), e183]
  intro z
  refine ⟨(hf.to z).1, fun x y x0 x1 y0 y1 => ?_⟩
  have := (hf.to z).2 x y x0 x1 y0 y1
  unfold mx at this ⊢
  rw [e _ (by omega) (by omega) (by omega) (by omega), e _ (by omega) (by omega) (by omega) (by omega)]
  exact this
theorem fg_f {s : am_S} {q : Nat} (a : q ≠ 48) (b : q ≠ 58) (c : q ≠ 127) (d : q ≠ 151) (f : q ≠ 161) : s_forget s q = s q := by
  funext y
  unfold s_forget
  rw [s_zr_a f, am_w_a d, am_w_a c, am_w_a b, am_w_a a]
theorem sg_L {E : am_Ev} (gd : am_Ed E) {L : List Nat} (hL : ∀ q ∈ L, am_lo q ≠ none) : E.2.2.1.1 ∉ L := fun z => hL _ z gd.s0
theorem sg_q {E : am_Ev} (gd : am_Ed E) {q : Nat} (h : am_lo q ≠ none) : E.2.2.1.1 ≠ q := fun z => h (by rw [← z]; exact gd.s0)
theorem sg_fg {E : am_Ev} {s : am_S} (gd : am_Ed E) : s_forget s E.2.2.1.1 = s E.2.2.1.1 := fg_f (sg_q gd (by decide)) (sg_q gd (by decide)) (sg_q gd (by decide)) (sg_q gd (by decide)) (sg_q gd (by decide))
theorem sg_chg {E : am_Ev} {s : am_S} (gd : am_Ed E) : s_chg s E.2.2.1.1 = s E.2.2.1.1 := chg_f (sg_q gd (by decide)) (sg_q gd (by decide))
/-- another matrix on both sides -/
theorem iAll_new {n : Nat} {E : am_Ev} {s s1 sm : am_S} (h : iAll n E s) (e1 : ∀ q, (47 < q ∧ q < 158) → s1 q = s q) (hm1 : mx_ok s1) (h252 : s1 25 2 = 0) (em : ∀ q, 25 ≤ q → q < 168 → sm q = s_forget s1 q) (hmy : my_ok sm) (r20 : sm 168 20 = s 168 20) (r26 : sm 168 26 = s 168 26) (en : sm 168 1 = s1 25 0) (eM : ∀ a b, 0 ≤ a → a < s1 25 0 → 0 ≤ b → b < s1 25 0 → mx s1 a b = my sm a b) (tp : iT E (s_chg sm)) : iAll (n + 1) E (s_chg sm) := by
  have m2 := hm1.2.1
  have ex : ∀ q, 25 ≤ q → q < 168 → s_chg sm q = s_forget s1 q := fun q q0 q1 => by rw [chg_f (by omega) (by omega)]; exact em q q0 q1
  have e25 : s_chg sm 25 0 = s1 25 0 := by rw [ex 25 (by decide) (by decide)]; rfl
  refine ⟨iE_s h.e, iX_c2 (iX_new h.x e1 hm1 h252) (fun q q0 q1 => ex q q0 (by omega)), iM_new hmy (by rw [r20]; exact h.m.r20) (by rw [r26]; exact h.m.r26), ⟨?_, fun a b a0 a1 b0 b1 => ?_⟩, tp, ?_⟩
  · rw [chg_m (by decide), e25]; exact en
  · rw [e25] at a1 b1
    have := eM a b a0 a1 b0 b1
    unfold mx my at this ⊢
    rw [ex _ (by omega) (by omega), fg_f (by omega) (by omega) (by omega) (by omega) (by omega), chg_f (by decide) (by decide)]
    exact this
  · have z48 : s_chg sm 48 0 = 0 := by rw [ex 48 (by decide) (by decide)]; rfl
    have z58 : s_chg sm 58 0 = 0 := by rw [ex 58 (by decide) (by decide)]; rfl
    have z127 : s_chg sm 127 0 = 0 := by rw [ex 127 (by decide) (by decide)]; rfl
    have z151 : s_chg sm 151 0 = 0 := by rw [ex 151 (by decide) (by decide)]; rfl
    have p161 : ∀ y, 0 ≤ y → y < 20 → s_chg sm 161 y = 0 := fun y y0 y1 => by rw [ex 161 (by decide) (by decide)]; exact if_pos ⟨rfl, y0, y1⟩
    refine ⟨by rw [z48]; rfl, by rw [z58]; rfl, by rw [z127]; rfl, by rw [z151]; rfl, fun y y0 y1 => by rw [chg_p ⟨y0, y1⟩, p161 y y0 y1], fun y y0 y1 => by rw [p161 y y0 y1]; omega, fun z => by omega⟩
section PAIRS2
variable {n : Nat} {E : am_Ev} {s : am_S}
theorem i_pQ (h : iAll n E s) (hn : n ≤ 512) : (∀ y, 0 ≤ y → y < 20 → am_Q (s 161 y)) ∧ ∀ y, 0 ≤ y → y < 20 → am_Q (s 191 y) := by
  have k : ∀ y, 0 ≤ y → y < 20 → am_Q (s 161 y) := fun y y0 y1 => by
    have := h.f.pb y y0 y1
    exact ⟨by omega, by omega⟩
  exact ⟨k, fun y y0 y1 => by rw [h.f.pe y y0 y1]; exact k y y0 y1⟩
theorem p_clear (h : iAll n E s) : am_pairI (am_hp E s) 124 162 [] (wInv (n + 1)) := by
  refine mk_pairI h.e.g (am_wp_mono (t_clearX (d := 28) h.e.g) ?_)
  rintro rv g ⟨rfl, rfl⟩
  refine ⟨_, E, _, rfl, rfl, h.e.g, am_wp_mono (t_clearM (d := 29) (s := am_w s 2 1 0) h.e.g) ?_⟩
  rintro rv g ⟨rfl, rfl⟩
  have nn := i_n h
  have e : ∀ q, q ≠ 2 → q ≠ 168 → am_w (am_w (am_w s 2 1 0) 168 0 0) 168 5 0 q = s q := fun q a b => by rw [am_w_row b, am_w_row b, am_w_row a]
  have f : ∀ y, y ≠ 0 → y ≠ 5 → am_w (am_w (am_w s 2 1 0) 168 0 0) 168 5 0 168 y = s 168 y := fun y a b => by rw [am_w_x b, am_w_x a, am_w_row (by decide)]
  refine ⟨by rw [am_w_row (by decide), h.t.tz], E, _, rfl, iE_s h.e, iX_c2 h.x (fun q q0 q1 => e q (by omega) (by omega)), iM_c h.m (fun q hq => e q (by omega) (by omega)) (fun c c0 c1 => by rw [e 191 (by decide) (by decide)]; exact h.m.hy.hp c c0 c1) (fun y hy => f y (by omega) (by omega)), iN_c h.nn nn.1.2 (f 1 (by decide) (by decide)) (by rw [e 25 (by decide) (by decide)]) (fun a _ _ => e a (by omega) (by omega)) (e 169 (by decide) (by decide)), iT_zero h.t (am_w_eq _ _ _ _) (by rw [am_w_row (by decide), am_w_row (by decide), am_w_eq]) (e _ (sg_q h.e.d (by decide)) (sg_q h.e.d (by decide))), iF_c h.f nn.1.2 (fun q q0 q1 _ _ => e q (by omega) (by omega)) (e 191 (by decide) (by decide)) (e 183 (by decide) (by decide)) (fun y hy => f y (by omega) (by omega))⟩
theorem s_cnt_c {f g : Int → Int} : ∀ k : Nat, (∀ i : Nat, i < k → f i = g i) → s_cnt f k = s_cnt g k
  | 0, _ => rfl
  | k + 1, h => by
    show s_cnt f k + _ = s_cnt g k + _
    rw [s_cnt_c k (fun i hi => h i (by omega)), h k (by omega)]
theorem p_forgive (h : iAll n E s) (hn : n ≤ 512) : am_pairI (am_hp E s) 149 217 [] (wInv (n + 1)) := by
  have nn := i_n h
  have hQ := i_pQ h hn
  refine mk_pairI h.e.g (am_wp_mono (t_forgiveX (d := 28) h.e.g hQ.1) ?_)
  rintro rv g ⟨rfl, rfl⟩
  have z191 : s_zr s 161 20 191 = s 191 := funext fun y => s_zr_a (by decide)
  refine ⟨_, E, _, rfl, rfl, h.e.g, am_wp_mono (t_forgiveM (d := 29) (s := s_zr s 161 20) h.e.g (by rw [z191]; exact hQ.2)) ?_⟩
  rintro rv g ⟨rfl, rfl⟩
  have e : ∀ q, q ≠ 161 → q ≠ 168 → q ≠ 191 → s_zr (am_w (s_zr s 161 20) 168 0 0) 191 20 q = s q := fun q a b c => by
    funext y
    rw [s_zr_a c, am_w_a b, s_zr_a a]
  have f : ∀ y, y ≠ 0 → s_zr (am_w (s_zr s 161 20) 168 0 0) 191 20 168 y = s 168 y := fun y a => by rw [s_zr_a (by decide), am_w_x a, s_zr_a (by decide)]
  have p1 : ∀ y, 0 ≤ y → y < 20 → s_zr (am_w (s_zr s 161 20) 168 0 0) 191 20 161 y = 0 := fun y y0 y1 => by
    rw [s_zr_a (by decide), am_w_a (by decide)]; exact if_pos ⟨rfl, y0, y1⟩
  have p2 : ∀ y, 0 ≤ y → y < 20 → s_zr (am_w (s_zr s 161 20) 168 0 0) 191 20 191 y = 0 := fun y y0 y1 => if_pos ⟨rfl, y0, y1⟩
  have hf := iF_s h.f
  refine ⟨?_, E, _, rfl, iE_s h.e, iX_c h.x (fun q q1 => e q (by omega) (by omega) (by omega)), iM_c h.m (fun q hq => e q (by omega) (by omega) (by omega)) (fun c c0 c1 => by rw [p2 c c0 c1]; omega) (fun y hy => f y (by omega)), iN_c h.nn nn.1.2 (f 1 (by decide)) (by rw [e 25 (by decide) (by decide) (by decide)]) (fun a _ _ => e a (by omega) (by omega) (by omega)) (e 169 (by decide) (by decide) (by decide)), iT_c h.t rfl (f 5 (by decide)) (by rw [e 2 (by decide) (by decide) (by decide)]) (e _ (sg_q h.e.d (by decide)) (sg_q h.e.d (by decide)) (sg_q h.e.d (by decide))) (e 171 (by decide) (by decide) (by decide)), ?_⟩
  · rw [z191, s_cnt_c (f := s 191) (g := s 161) 20 (fun i hi => h.f.pe i (by omega) (by omega))]
  · refine ⟨by rw [f 14 (by decide), e 48 (by decide) (by decide) (by decide)]; exact hf.f14, by rw [f 18 (by decide), e 58 (by decide) (by decide) (by decide)]; exact hf.f18, by rw [f 24 (by decide), e 127 (by decide) (by decide) (by decide)]; exact hf.f24, by rw [f 29 (by decide), e 151 (by decide) (by decide) (by decide)]; exact hf.f29, fun y y0 y1 => by rw [p1 y y0 y1, p2 y y0 y1], fun y y0 y1 => by rw [p1 y y0 y1]; omega, ?_⟩
    rw [e 151 (by decide) (by decide) (by decide), e 25 (by decide) (by decide) (by decide), e 152 (by decide) (by decide) (by decide), e 183 (by decide) (by decide) (by decide)]
    intro z
    refine ⟨(hf.to z).1, fun x y x0 x1 y0 y1 => ?_⟩
    have := (hf.to z).2 x y x0 x1 y0 y1
    unfold mx at this ⊢
    rw [e _ (by omega) (by omega) (by omega), e _ (by omega) (by omega) (by omega)]
    exact this
/-- the frame of a change of the class's matrix -/
theorem nw_fr {s s1 : am_S} (hF : am_Fr (25 :: List.range' 27 20) s s1) {q : Nat} (h1 : q ≠ 25) (h2 : ¬ (27 ≤ q ∧ q ≤ 46)) : s1 q = s q := hF q (fun z => by simp [List.mem_range'_1] at z; omega)
theorem nw_sg (h : iAll n E s) {s1 : am_S} (hF : am_Fr (25 :: List.range' 27 20) s s1) : s_forget s1 E.2.2.1.1 = s E.2.2.1.1 := by
  rw [sg_fg h.e.d]
  refine nw_fr hF (sg_q h.e.d (by decide)) (fun z => ?_)
  have := lo_26 (x := ((E.2.2.1.1 - 27 : Nat) : Int)) (by omega) (by omega)
  rw [show 26 + 1 + (((E.2.2.1.1 - 27 : Nat) : Int)).toNat = E.2.2.1.1 by omega, h.e.d.s0] at this
  cases this
theorem p_begin (h : iAll n E s) (hn : n ≤ 512) (a : Int32) : am_pairI (am_hp E s) 122 160 [.int a] (wInv (n + 1)) := by
  have nn := i_n h
  have hQ := i_pQ h hn
  rw [iI_of a]
  refine mk_pairI h.e.g (am_wp_mono (t_beginX (d := 27) h.e.g (iI_r a) hQ.1) ?_)
  rintro rv g (⟨c1, rfl, rfl⟩ | ⟨c1, rfl, s1, rfl, hF, e0, e2, hz⟩)
  · refine ⟨_, E, s, rfl, rfl, h.e.g, am_wp_mono (t_beginM (d := 28) h.e.g (iI_r a)) ?_⟩
    rintro rv g (⟨d1, rfl, rfl⟩ | ⟨d1, rfl, rfl⟩)
    · exact ⟨rfl, E, _, rfl, iAll_0 h⟩
    · exact absurd d1 c1
  · refine ⟨_, E, _, rfl, rfl, h.e.g, am_wp_mono (t_beginM (d := 28) (s := s_forget s1) h.e.g (iI_r a)) ?_⟩
    rintro rv g (⟨d1, rfl, rfl⟩ | ⟨d1, rfl, rfl⟩)
    · exact absurd c1 d1
    · have f168 : ∀ y, s_forget s1 168 y = s 168 y := fun y => by rw [fg_f (by decide) (by decide) (by decide) (by decide) (by decide), nw_fr hF (by decide) (by omega)]
      generalize hsm : s_zr (am_w (am_w (s_forget s1) 168 0 0) 168 1 a.toInt) 169 400 = sm
      have em : ∀ q, q ≠ 168 → q ≠ 169 → sm q = s_forget s1 q := fun q b c => by
        rw [← hsm]; funext y; rw [s_zr_a c, am_w_a b, am_w_a b]
      have ef : ∀ y, y ≠ 0 → y ≠ 1 → sm 168 y = s 168 y := fun y b c => by
        rw [← hsm, s_zr_a (by decide), am_w_x c, am_w_x b]; exact f168 y
      have e1 : sm 168 1 = a.toInt := by rw [← hsm, s_zr_a (by decide), am_w_eq]
      have ey : ∀ x y, 0 ≤ x → x < 20 → 0 ≤ y → y < 20 → my sm x y = 0 := fun x y x0 x1 y0 y1 => by
        rw [← hsm]; exact if_pos ⟨rfl, by omega, by omega⟩
      refine ⟨rfl, E, _, rfl, iAll_new (s1 := s1) h (fun q hq => nw_fr hF (by omega) (by omega)) ⟨by omega, by omega, fun x y x0 x1 y0 y1 => ?_⟩ e2 (fun q q0 q1 => em q (by omega) (by omega)) ⟨by omega, by omega, fun x y x0 x1 y0 y1 => by rw [ey x y x0 (by omega) y0 (by omega)]; omega⟩ (ef 20 (by decide) (by decide)) (ef 26 (by decide) (by decide)) (by rw [e1, e0]) (fun x y x0 x1 y0 y1 => ?_) (iT_c h.t rfl ?_ ?_ ?_ ?_)⟩
      · show 0 ≤ s1 _ _ ∧ s1 _ _ < _
        rw [hz x y x0 (by omega) y0 (by omega)]; omega
      · rw [ey x y x0 (by omega) y0 (by omega)]; exact hz x y x0 (by omega) y0 (by omega)
      · rw [chg_m (by decide), ef 5 (by decide) (by decide)]
      · rw [chg_f (by decide) (by decide), em 2 (by decide) (by decide), fg_f (by decide) (by decide) (by decide) (by decide) (by decide), nw_fr hF (by decide) (by omega)]
      · rw [sg_chg h.e.d, em _ (sg_q h.e.d (by decide)) (sg_q h.e.d (by decide))]; exact nw_sg h hF
      · rw [chg_f (by decide) (by decide), em 171 (by decide) (by decide), fg_f (by decide) (by decide) (by decide) (by decide) (by decide), nw_fr hF (by decide) (by omega)]
end PAIRS2
