/-! build of the class -/
def tst (s : am_S) : am_S := am_w (am_w s 151 1 (s 25 0)) 151 0 1
theorem tst_f {s : am_S} {q : Nat} (h : q ≠ 151) : tst s q = s q := by
  unfold tst
  rw [am_w_row h, am_w_row h]
theorem tst_1 {s : am_S} : tst s 151 1 = s 25 0 := by
  unfold tst
  rw [am_w_x (by decide), am_w_eq]
def bS0 (ru : Int) (s s4 : am_S) : Prop := (ru = 0 ∧ ∃ s2 s3, nTr (tst s) s2 ∧ nPa s2 s3 ∧ nWk s3 s4) ∨ (ru ≠ 0 ∧ s4 = tst s)
theorem bS0_f {ru : Int} {s s4 : am_S} (h : bS0 ru s s4) : nFr (tst s) s4 := by
  rcases h with ⟨-, s2, s3, a, b, c⟩ | ⟨-, rfl⟩
  · exact need_f a b c
  · exact fun q hq => rfl
/-- what the class's rest of the state must be like -/
abbrev bHx (s : am_S) : Prop := Nonempty (PProd (mx_ok s) (PProd (pn_ok s 54) (PProd (s 48 0 = 0 ∨ s 48 0 = 1) (PProd (s 58 0 = 0 ∨ s 58 0 = 1) (PProd (s 127 0 = 0 ∨ s 127 0 = 1) (PProd (s 48 0 = 1 → tX s) (PProd (s 58 0 = 1 → s 48 0 = 1 ∧ pr s) (s 127 0 = 1 → s 58 0 = 1 ∧ wX s))))))))
theorem bHx.hm {s : am_S} (h_ : bHx s) : mx_ok s := h_.elim (fun x_ => x_.1)
theorem bHx.hp {s : am_S} (h_ : bHx s) : pn_ok s 54 := h_.elim (fun x_ => x_.2.1)
theorem bHx.hf {s : am_S} (h_ : bHx s) : s 48 0 = 0 ∨ s 48 0 = 1 := h_.elim (fun x_ => x_.2.2.1)
theorem bHx.hg {s : am_S} (h_ : bHx s) : s 58 0 = 0 ∨ s 58 0 = 1 := h_.elim (fun x_ => x_.2.2.2.1)
theorem bHx.hw {s : am_S} (h_ : bHx s) : s 127 0 = 0 ∨ s 127 0 = 1 := h_.elim (fun x_ => x_.2.2.2.2.1)
theorem bHx.ht {s : am_S} (h_ : bHx s) : s 48 0 = 1 → tX s := h_.elim (fun x_ => x_.2.2.2.2.2.1)
theorem bHx.hpa {s : am_S} (h_ : bHx s) : s 58 0 = 1 → s 48 0 = 1 ∧ pr s := h_.elim (fun x_ => x_.2.2.2.2.2.2.1)
theorem bHx.hwx {s : am_S} (h_ : bHx s) : s 127 0 = 1 → s 58 0 = 1 ∧ wX s := h_.elim (fun x_ => x_.2.2.2.2.2.2.2)
theorem bHx_c {s s1 : am_S} (h : bHx s) (e25 : s1 25 0 = s 25 0) (e : ∀ q, q < 151 → q ≠ 25 → q ≠ 47 → s1 q = s q) : bHx s1 := by
  have m2 := h.hm.2.1
  have em : ∀ a b, 0 ≤ a → a < s 25 0 → mx s1 a b = mx s a b := fun a b a0 a1 => by
    unfold mx
    rw [e _ (by omega) (by omega) (by omega)]
  have e48 := e 48 (by decide) (by decide) (by decide)
  have e58 := e 58 (by decide) (by decide) (by decide)
  have e60 := e 60 (by decide) (by decide) (by decide)
  have e127 := e 127 (by decide) (by decide) (by decide)
  refine ⟨⟨by rw [e25]; exact h.hm.1, by rw [e25]; exact m2, fun a b a0 a1 b0 b1 => ?_⟩, fun c c0 c1 => by rw [e 54 (by decide) (by decide) (by decide)]; exact h.hp c c0 c1, by rw [e48]; exact h.hf, by rw [e58]; exact h.hg, by rw [e127]; exact h.hw, fun z => ?_, fun z => ?_, fun z => ?_⟩
  · rw [e25] at a1 b1
    rw [em a b a0 a1]
    exact h.hm.2.2 a b a0 a1 b0 b1
  · have ht := h.ht (by rw [← e48]; exact z)
    unfold tX at ht ⊢
    rw [e25, e48, e 50 (by decide) (by decide) (by decide), e 55 (by decide) (by decide) (by decide), e 56 (by decide) (by decide) (by decide)]
    refine tr_f (fun p q p0 p1 q0 q1 => ?_) ht
    unfold fx
    rw [em p q p0 p1, e 54 (by decide) (by decide) (by decide)]
  · rw [e58] at z
    rw [e48]
    refine ⟨(h.hpa z).1, ?_⟩
    have := (h.hpa z).2
    unfold pr at this ⊢
    rw [e25, e60]; exact this
  · rw [e127] at z
    rw [e58]
    exact ⟨(h.hwx z).1, wX_c e25 (e 50 (by decide) (by decide) (by decide)) e60 (by rw [e127]) (e 128 (by decide) (by decide) (by decide)) (h.hwx z).2⟩
theorem bHx_lk {s s1 : am_S} (h : bHx s) (hk : lk_to s s1) : bHx s1 := bHx_c h hk.2.1 (fun q _ h1 h2 => hk.1 q (fun z => by simp at z; omega))
theorem bHx_tst {s : am_S} (h : bHx s) : bHx (tst s) := bHx_c h (by rw [tst_f (by decide)]) (fun q hq _ _ => tst_f (by omega))
theorem t_tstart {d : Nat} {E : am_Ev} {s : am_S} (g : am_Eg E) : am_wp d 98 0 (lv_args 0 [.ref 151, .int (iI (s 25 0))]) [] (am_hp E s) (fun rv h => rv = none ∧ h = am_hp E (tst s)) := by
  refine am_s rfl rfl ?_
  refine am_s rfl rfl ?_
  refine s_pi (x := 1) rfl g rfl rfl rfl rfl ?_
  refine am_s rfl rfl ?_
  refine s_k 1 rfl rfl ?_
  refine s_pi (x := 0) rfl g rfl rfl rfl rfl ?_
  exact am_r rfl rfl ⟨rfl, rfl⟩
theorem t_bXm {d : Nat} {E : am_Ev} {s : am_S} {N : Nat} {PP : Option Value → am_H → Prop} (g : am_Eg E) (hm : mx_ok s) (en : s 25 0 = (N : Int)) (hc : s 151 1 = (N : Int)) (ht : st_ok N (s 152)) (hPP : PP (some (.long (lI (tl N (mx s) (s 152) N)))) (am_hp E s)) : am_wp (d + 2) 141 168 [(0, .ref 1)] [] (am_hp E s) PP := by
  refine am_s rfl rfl ?_
  refine s_gr rfl g rfl rfl ?_
  refine am_s rfl rfl ?_
  refine s_gr rfl g rfl rfl ?_
  refine s_gr rfl g rfl rfl ?_
  refine s_cv [_] [] rfl g (Or.inl rfl) rfl rfl (Nat.le_of_ble_eq_true rfl) rfl rfl (t_measure (d := d) (s := s) g hm (by omega) (by rw [en]; exact ht)) ?_
  rintro rv h1 ⟨rfl, rfl⟩
  rw [hc]
  exact am_r rfl rfl hPP
theorem bX_end {d : Nat} {E : am_Ev} {s : am_S} {N : Nat} {ru ci : Int} {s4 s5 : am_S} {PP : Option Value → am_H → Prop} (g : am_Eg E) (hx : bHx s) (en : s 25 0 = (N : Int)) (h0 : bS0 ru s s4) (hF : am_Fr [152, 154, 155, 156, 157] s4 s5) (hT : bT N (mx s) (s4 50) (s4 60) ru ci (s5 152)) (hPP : PP (some (.long (lI (tl N (mx s) (s5 152) N)))) (am_hp E s5)) : am_wp (d + 2) 141 168 [(0, .ref 1)] [] (am_hp E s5) PP := by
  have m2 := hx.hm.2.1
  have f := bS0_f h0
  have e25 : s5 25 = s 25 := (hF 25 (by decide)).trans ((f 25 (by omega)).trans (tst_f (by decide)))
  have e151 : s5 151 = tst s 151 := (hF 151 (by decide)).trans (f 151 (by omega))
  have em : ∀ a b, 0 ≤ a → a < (N : Int) → mx s5 a b = mx s a b := fun a b a0 a1 => by
    unfold mx
    rw [hF _ (fun z => by simp at z; omega), f _ (by omega), tst_f (by omega)]
  have hm5 : mx_ok s5 := ⟨by rw [e25]; exact hx.hm.1, by rw [e25]; exact m2, fun a b a0 a1 b0 b1 => by
    rw [e25] at a1 b1
    rw [em a b a0 (by omega)]
    exact hx.hm.2.2 a b a0 a1 b0 b1⟩
  refine t_bXm g hm5 (by rw [e25]; exact en) (by rw [e151, tst_1]; exact en) hT.1.1 ?_
  rw [tl_congr (fun a b a0 a1 b0 b1 => em a b a0 a1) hT.1.1 (fun i _ _ => rfl) N (Int.le_refl _)]
  exact hPP
theorem t_bX0 {d : Nat} {E : am_Ev} {s : am_S} {N : Nat} {ci : Int} {PP : Option Value → am_H → Prop} (g : am_Eg E) (hx : bHx s) (en : s 25 0 = (N : Int)) (hPP : ∀ s4 s5, bS0 0 s s4 → am_Fr [152, 154, 155, 156, 157] s4 s5 → bT N (mx s) (s4 50) (s4 60) 0 ci (s5 152) → PP (some (.long (lI (tl N (mx s) (s5 152) N)))) (am_hp E s5)) : am_wp (d + 12 + 1 + 1 + 1 + 1) 141 49 (lv_args 0 [.ref 1, .int (iI 0), .int (iI ci)]) [] (am_hp E s) PP := by
  refine am_s rfl rfl ?_
  refine s_gr rfl g rfl rfl ?_
  refine am_s rfl rfl ?_
  refine s_gr rfl g rfl rfl ?_
  refine s_gi (x := 0) rfl g rfl rfl rfl ?_
  refine s_cv [_] [] rfl g (Or.inl rfl) rfl rfl (Nat.le_of_ble_eq_true rfl) rfl rfl (t_tstart (s := s) g) ?_
  rintro rv h1 ⟨rfl, rfl⟩
  have hT := bHx_tst hx
  have m1 := hx.hm.1
  have m2 := hx.hm.2.1
  have eT : tst s 25 0 = (N : Int) := by rw [tst_f (by decide)]; exact en
  have eC : tst s 151 1 = (N : Int) := by rw [tst_1]; exact en
  refine am_s rfl rfl ?_
  refine am_s rfl rfl ?_
  refine am_s rfl rfl ?_
  refine s_k 2 rfl rfl ?_
  refine s_cv [_] [] rfl g (Or.inl rfl) rfl rfl (Nat.le_of_ble_eq_true rfl) rfl rfl (t_need2 (d := d) (s := tst s) (PP := fun rv h => rv = none ∧ ∃ s2 s3 s4, h = am_hp E s4 ∧ nTr (tst s) s2 ∧ nPa s2 s3 ∧ nWk s3 s4) g hT.hm hT.hp hT.hf hT.hg hT.hw hT.ht hT.hpa (fun s2 s3 s4 a b c => ⟨rfl, s2, s3, s4, rfl, a, b, c⟩)) ?_
  rintro rv h1 ⟨rfl, s2, s3, s4, rfl, n1, n2, n3⟩
  obtain ⟨u1, u2, u3, u4, u5, u6, u7⟩ := need_t hT.hm hT.ht hT.hpa hT.hwx n1 n2 n3
  have f4 := need_f n1 n2 n3
  have e4 : s4 25 0 = (N : Int) := by rw [f4 25 (by omega)]; exact eT
  obtain ⟨b, v1, v2, v3, v4, v5⟩ := u6
  have eN : (s4 25 0).toNat = N := by omega
  rw [eN] at v1 v5
  have gI := u2.1
  rw [e4] at gI
  have gr := gw_rng (Int.le_refl 0) gI
  have al : ∀ c, 0 ≤ c → c < (N : Int) → c ∈ b.L := by
    obtain ⟨k, w1, w2⟩ := v1
    refine wk_all w1 w2 (fun P p0 ps c c0 c1 => ?_) (fun c c0 c1 => gr.2.1 c (by omega) c1 (by show (0 : Int) ≤ c; omega) (by omega))
    exact gw_ind (Int.le_refl 0) P p0 gI (fun c c0 c1 _ cn hq => ps c (by omega) c1 hq) c c0 c1 c0
  have gd : ∀ i v, b.L[i]? = some v → b.L.getD i 0 = v := fun i v hv => by rw [List.getD_eq_getElem?_getD, hv]; rfl
  have gx : ∀ i, i < b.L.length → ∃ v, b.L[i]? = some v := fun i hi => ⟨_, List.getElem?_eq_getElem hi⟩
  have lr : ∀ i, i < b.L.length → 0 ≤ b.L.getD i 0 ∧ b.L.getD i 0 < (N : Int) := fun i hi => by
    obtain ⟨v, hv⟩ := gx i hi
    rw [gd i v hv]; exact v5 v (List.mem_of_getElem? hv)
  have da : ∀ y, 0 ≤ y → y < (N : Int) → y ∈ dd (fun i => b.L.getD i 0) b.L.length := fun y y0 y1 => by
    obtain ⟨i, hi⟩ := List.getElem?_of_mem (al y y0 y1)
    exact dd_mem.mpr ⟨i, (List.getElem?_eq_some_iff.mp hi).1, gd i y hi⟩
  refine am_s rfl rfl ?_
  refine s_gr rfl g rfl rfl ?_
  refine am_s rfl rfl ?_
  refine s_gr rfl g rfl rfl ?_
  refine am_s rfl rfl ?_
  refine s_gr rfl g rfl rfl ?_
  refine s_cv [_, _] [] rfl g (Or.inl rfl) rfl rfl (Nat.le_of_ble_eq_true rfl) rfl rfl (t_shorten (d := d + 12 + 1 + 1) (s := s4) (N := N) (l := fun i => b.L.getD i 0) (K := b.L.length) (PP := fun rv h => rv = none ∧ ∃ s', h = am_hp E s' ∧ am_Fr [152, 154] s4 s' ∧ dt_ok (fun i => b.L.getD i 0) N b.L.length (s' 152)) g (by omega) v2 (by omega) lr (fun i hi => by obtain ⟨v, hv⟩ := gx i hi; show _ = b.L.getD i 0; rw [gd i v hv]; exact v3 i v hv) da (fun s' u v => ⟨rfl, s', rfl, u, v⟩)) ?_
  rintro rv h1 ⟨rfl, s5, rfl, hF5, hd5⟩
  refine am_s rfl rfl ?_
  refine am_lv [(0, _)] rfl rfl ⟨rfl, trivial⟩ ?_
  have L0 : 0 < b.L.length := by
    have := List.length_pos_of_mem (al 0 (by omega) (by omega))
    exact this
  have b0 : bS0 0 s s4 := Or.inl ⟨rfl, s2, s3, n1, n2, n3⟩
  have F5 : am_Fr [152, 154, 155, 156, 157] s4 s5 := am_Fr_m hF5 (fun b hb => by simp at hb ⊢; omega)
  obtain ⟨x1, x2, x3⟩ := dt_p L0 lr da hd5
  have h00 : b.L.getD 0 0 = 0 := by
    obtain ⟨k, w1, w2⟩ := v1
    obtain ⟨T, eT⟩ := (wC_n wC_0 w1).e w2
    rw [eT]; rfl
  have B : bT N (mx s) (s4 50) (s4 60) 0 ci (s5 152) := ⟨⟨x1, x2, x3.trans h00⟩, Or.inl ⟨rfl, b, v1, hd5⟩⟩
  exact bX_end (d := d + 12 + 1 + 1) g hx en b0 F5 B (hPP s4 s5 b0 F5 B)
theorem gt_D {n : Int} {D D2 : Int → Int → Int} {st : Int} (hst : 0 ≤ st ∧ st < n) (hD : ∀ a b, 0 ≤ a → a < n → 0 ≤ b → b < n → D a b = D2 a b) : ∀ {k : Nat} {t : Int → Int}, gt_ok n D st k t → gt_ok n D2 st k t
  | 0, t, h => h
  | k + 1, t, ⟨t0, c, p, h1, h2, h3⟩ => by
    have ds := gt_okds hst h1
    have hg : ∀ c2 p2, 0 ≤ c2 → c2 < n → 0 ≤ p2 → p2 < (k : Int) + 1 → gt_g D2 ((k : Int) + 1) t0 c2 p2 = gt_g D ((k : Int) + 1) t0 c2 p2 := fun c2 p2 a b a2 b2 => by
      have r1 := ds.1 p2 a2 b2
      have nx1 := nx_r a2 b2
      have r2 := ds.1 _ nx1.1 nx1.2
      unfold gt_g
      rw [hD c2 _ a b r1.1 r1.2, hD c2 _ a b r2.1 r2.2, hD _ _ r1.1 r1.2 r2.1 r2.2]
    refine ⟨t0, c, p, gt_D hst hD h1, ⟨h2.1, h2.2.1, h2.2.2.1, fun c2 p2 a b u a2 b2 => ?_⟩, h3⟩
    rw [hg c p h2.1.1 h2.1.2 h2.2.2.1.1 h2.2.2.1.2, hg c2 p2 a b a2 b2]
    exact h2.2.2.2 c2 p2 a b u a2 b2
theorem nt_D {n : Int} {D D2 : Int → Int → Int} {st : Int} {t : Int → Int} {k : Int} (hk : k ≤ n) (hD : ∀ a b, 0 ≤ a → a < n → 0 ≤ b → b < n → D a b = D2 a b) (h : nt_ok n D st t k) : nt_ok n D2 st t k := by
  refine ⟨h.1, h.2.1, h.2.2.1, fun i i0 i1 b b0 b1 hb => ?_⟩
  have r1 := h.2.1 (i - 1) (by omega) (by omega)
  have r2 := h.2.1 i (by omega) (by omega)
  rw [← hD _ _ r1.1 r1.2 r2.1 r2.2, ← hD _ _ r1.1 r1.2 b0 b1]
  exact h.2.2.2 i i0 i1 b b0 b1 hb
theorem t_bX1 {d : Nat} {E : am_Ev} {s : am_S} {N : Nat} {ci : Int} {PP : Option Value → am_H → Prop} (g : am_Eg E) (hx : bHx s) (en : s 25 0 = (N : Int)) (hci : 0 ≤ ci ∧ ci < (N : Int)) (hPP : ∀ s4 s5, bS0 1 s s4 → am_Fr [152, 154, 155, 156, 157] s4 s5 → bT N (mx s) (s4 50) (s4 60) 1 ci (s5 152) → PP (some (.long (lI (tl N (mx s) (s5 152) N)))) (am_hp E s5)) : am_wp (d + 5) 141 49 (lv_args 0 [.ref 1, .int (iI 1), .int (iI ci)]) [] (am_hp E s) PP := by
  refine am_s rfl rfl ?_
  refine s_gr rfl g rfl rfl ?_
  refine am_s rfl rfl ?_
  refine s_gr rfl g rfl rfl ?_
  refine s_gi (x := 0) rfl g rfl rfl rfl ?_
  refine s_cv [_] [] rfl g (Or.inl rfl) rfl rfl (Nat.le_of_ble_eq_true rfl) rfl rfl (t_tstart (s := s) g) ?_
  rintro rv h1 ⟨rfl, rfl⟩
  have hT := bHx_tst hx
  have m1 := hx.hm.1
  have m2 := hx.hm.2.1
  have eT : tst s 25 0 = (N : Int) := by rw [tst_f (by decide)]; exact en
  have eC : tst s 151 1 = (N : Int) := by rw [tst_1]; exact en
  refine am_s rfl rfl ?_
  refine am_s rfl rfl ?_
  refine am_s rfl rfl ?_
  refine s_gr rfl g rfl rfl ?_
  refine am_s rfl rfl ?_
  refine s_gr rfl g rfl rfl ?_
  refine am_s rfl rfl ?_
  refine s_gr rfl g rfl rfl ?_
  refine am_s rfl rfl ?_
  refine s_cv [_, _, _] [] rfl g (Or.inl rfl) rfl rfl (Nat.le_of_ble_eq_true rfl) rfl rfl (t_goNearest (d := d + 1) (s := tst s) g hT.hm (by omega) (by rw [eT]; exact hci)) ?_
  rintro rv h1 ⟨rfl, p, t, s5, rfl, p1, p2, hF5, hk5, hr5⟩
  rw [eT] at p1 hr5 hk5
  refine am_s rfl rfl ?_
  refine am_lv [(0, _)] rfl rfl ⟨rfl, trivial⟩ ?_
  have b0 : bS0 1 s (tst s) := Or.inr ⟨by decide, rfl⟩
  have F5 : am_Fr [152, 154, 155, 156, 157] (tst s) s5 := am_Fr_m hF5 (fun b hb => by simp at hb ⊢; omega)
  have em : ∀ a b, 0 ≤ a → a < (N : Int) → 0 ≤ b → b < (N : Int) → mx (tst s) a b = mx s a b := fun a b a0 a1 _ _ => by
    unfold mx
    rw [tst_f (by omega)]
  have hk : nt_ok N (mx s) ci t N := nt_D (Int.le_refl _) em hk5
  have B : bT N (mx s) (tst s 50) (tst s 60) 1 ci (s5 152) := ⟨rt_ok ⟨hk.2.1, hk.2.2.1⟩ p1 p2 hr5, Or.inr (Or.inl ⟨rfl, p, t, p1, p2, hk, hr5⟩)⟩
  exact bX_end (d := d + 3) g hx en b0 F5 B (hPP _ s5 b0 F5 B)
theorem t_bX2 {d : Nat} {E : am_Ev} {s : am_S} {N : Nat} {ci : Int} {PP : Option Value → am_H → Prop} (g : am_Eg E) (hx : bHx s) (en : s 25 0 = (N : Int)) (hci : 0 ≤ ci ∧ ci < (N : Int)) (hPP : ∀ s4 s5, bS0 2 s s4 → am_Fr [152, 154, 155, 156, 157] s4 s5 → bT N (mx s) (s4 50) (s4 60) 2 ci (s5 152) → PP (some (.long (lI (tl N (mx s) (s5 152) N)))) (am_hp E s5)) : am_wp (d + 5) 141 49 (lv_args 0 [.ref 1, .int (iI 2), .int (iI ci)]) [] (am_hp E s) PP := by
  refine am_s rfl rfl ?_
  refine s_gr rfl g rfl rfl ?_
  refine am_s rfl rfl ?_
  refine s_gr rfl g rfl rfl ?_
  refine s_gi (x := 0) rfl g rfl rfl rfl ?_
  refine s_cv [_] [] rfl g (Or.inl rfl) rfl rfl (Nat.le_of_ble_eq_true rfl) rfl rfl (t_tstart (s := s) g) ?_
  rintro rv h1 ⟨rfl, rfl⟩
  have hT := bHx_tst hx
  have m1 := hx.hm.1
  have m2 := hx.hm.2.1
  have eT : tst s 25 0 = (N : Int) := by rw [tst_f (by decide)]; exact en
  have eC : tst s 151 1 = (N : Int) := by rw [tst_1]; exact en
  refine am_s rfl rfl ?_
  refine am_s rfl rfl ?_
  refine am_s rfl rfl ?_
  refine s_gr rfl g rfl rfl ?_
  refine am_s rfl rfl ?_
  refine s_gr rfl g rfl rfl ?_
  refine am_s rfl rfl ?_
  refine s_gr rfl g rfl rfl ?_
  refine am_s rfl rfl ?_
  refine s_cv [_, _, _] [] rfl g (Or.inl rfl) rfl rfl (Nat.le_of_ble_eq_true rfl) rfl rfl (t_putIn (d := d + 1) (s := tst s) g hT.hm (by omega) (by rw [eT]; exact hci)) ?_
  rintro rv h1 ⟨rfl, p, t, s5, rfl, p1, p2, hF5, hk5, hr5⟩
  rw [eT] at p1 hr5 hk5
  refine am_s rfl rfl ?_
  refine am_lv [(0, _)] rfl rfl ⟨rfl, trivial⟩ ?_
  have b0 : bS0 2 s (tst s) := Or.inr ⟨by decide, rfl⟩
  have F5 : am_Fr [152, 154, 155, 156, 157] (tst s) s5 := am_Fr_m hF5 (fun b hb => by simp at hb ⊢; omega)
  have em : ∀ a b, 0 ≤ a → a < (N : Int) → 0 ≤ b → b < (N : Int) → mx (tst s) a b = mx s a b := fun a b a0 a1 _ _ => by
    unfold mx
    rw [tst_f (by omega)]
  rw [show ((N : Int)).toNat = N by omega] at hk5
  have hk : gt_ok N (mx s) ci (N - 1) t := gt_D hci em hk5
  have ds := gt_okds hci hk
  rw [show ((N - 1 : Nat) : Int) + 1 = N by omega] at ds
  have B : bT N (mx s) (tst s 50) (tst s 60) 2 ci (s5 152) := ⟨rt_ok ds p1 p2 hr5, Or.inr (Or.inr (Or.inl ⟨rfl, p, t, p1, p2, hk, hr5⟩))⟩
  exact bX_end (d := d + 3) g hx en b0 F5 B (hPP _ s5 b0 F5 B)
theorem t_bX3 {d : Nat} {E : am_Ev} {s : am_S} {N : Nat} {ci : Int} {PP : Option Value → am_H → Prop} (g : am_Eg E) (hx : bHx s) (en : s 25 0 = (N : Int)) (hPP : ∀ s4 s5, bS0 3 s s4 → am_Fr [152, 154, 155, 156, 157] s4 s5 → bT N (mx s) (s4 50) (s4 60) 3 ci (s5 152) → PP (some (.long (lI (tl N (mx s) (s5 152) N)))) (am_hp E s5)) : am_wp (d + 5) 141 49 (lv_args 0 [.ref 1, .int (iI 3), .int (iI ci)]) [] (am_hp E s) PP := by
  refine am_s rfl rfl ?_
  refine s_gr rfl g rfl rfl ?_
  refine am_s rfl rfl ?_
  refine s_gr rfl g rfl rfl ?_
  refine s_gi (x := 0) rfl g rfl rfl rfl ?_
  refine s_cv [_] [] rfl g (Or.inl rfl) rfl rfl (Nat.le_of_ble_eq_true rfl) rfl rfl (t_tstart (s := s) g) ?_
  rintro rv h1 ⟨rfl, rfl⟩
  have hT := bHx_tst hx
  have m1 := hx.hm.1
  have m2 := hx.hm.2.1
  have eT : tst s 25 0 = (N : Int) := by rw [tst_f (by decide)]; exact en
  have eC : tst s 151 1 = (N : Int) := by rw [tst_1]; exact en
  refine am_s rfl rfl ?_
  refine am_s rfl rfl ?_
  refine am_s rfl rfl ?_
  refine s_gr rfl g rfl rfl ?_
  refine am_s rfl rfl ?_
  refine s_gr rfl g rfl rfl ?_
  refine am_s rfl rfl ?_
  refine s_gr rfl g rfl rfl ?_
  refine s_cv [_, _] [] rfl g (Or.inl rfl) rfl rfl (Nat.le_of_ble_eq_true rfl) rfl rfl (t_joinPairs (d := d + 1) (s := tst s) (N := N) (PP := fun rv h => rv = none ∧ ∃ s', h = am_hp E s' ∧ am_Fr [152, 155, 156, 157] (tst s) s' ∧ jp N (mx (tst s)) (s' 152)) g hT.hm eT eC (fun s' u v => ⟨rfl, s', rfl, u, v⟩)) ?_
  rintro rv h1 ⟨rfl, s5, rfl, hF5, hk5⟩
  refine am_lv [(0, _)] rfl rfl ⟨rfl, trivial⟩ ?_
  have b0 : bS0 3 s (tst s) := Or.inr ⟨by decide, rfl⟩
  have F5 : am_Fr [152, 154, 155, 156, 157] (tst s) s5 := am_Fr_m hF5 (fun b hb => by simp at hb ⊢; omega)
  have em : ∀ a b, 0 ≤ a → a < (N : Int) → 0 ≤ b → b < (N : Int) → mx (tst s) a b = mx s a b := fun a b a0 a1 _ _ => by
    unfold mx
    rw [tst_f (by omega)]
  have hk := jp_D em hk5
  have B : bT N (mx s) (tst s 50) (tst s 60) 3 ci (s5 152) := ⟨jp_all hk, Or.inr (Or.inr (Or.inr ⟨rfl, hk⟩))⟩
  exact bX_end (d := d + 3) g hx en b0 F5 B (hPP _ s5 b0 F5 B)
