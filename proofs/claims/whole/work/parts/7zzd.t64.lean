/-! the matcher: what stands while a phase goes on -/
abbrev mI (s : am_S) (rk : Int → Int) (t : Int) : Prop := Nonempty (PProd (mB s rk) (PProd (bDu (mS s) t) (PProd (bPar (mS s) t) (PProd (bCnt (mS s)) (∀ v w, 0 ≤ v → v < s 62 0 → 0 ≤ w → w < s 62 0 → v ≠ w → (mS s).C v w ≤ 1000000000000000000)))))
theorem mI.b {s : am_S} {rk : Int → Int} {t : Int} (h_ : mI s rk t) : mB s rk := h_.elim (fun x_ => x_.1)
theorem mI.du {s : am_S} {rk : Int → Int} {t : Int} (h_ : mI s rk t) : bDu (mS s) t := h_.elim (fun x_ => x_.2.1)
theorem mI.pr {s : am_S} {rk : Int → Int} {t : Int} (h_ : mI s rk t) : bPar (mS s) t := h_.elim (fun x_ => x_.2.2.1)
theorem mI.ct {s : am_S} {rk : Int → Int} {t : Int} (h_ : mI s rk t) : bCnt (mS s) := h_.elim (fun x_ => x_.2.2.2.1)
theorem mI.cm {s : am_S} {rk : Int → Int} {t : Int} (h_ : mI s rk t) : ∀ v w, 0 ≤ v → v < s 62 0 → 0 ≤ w → w < s 62 0 → v ≠ w → (mS s).C v w ≤ 1000000000000000000 := h_.elim (fun x_ => x_.2.2.2.2)
def mFr (s s' : am_S) : Prop := (∀ a, (a < 62 ∨ (63 ≤ a ∧ a ≤ 83) ∨ 126 < a) → s' a = s a) ∧ s' 62 0 = s 62 0
theorem mFr_t {s s1 s2 : am_S} (h : mFr s s1) (h2 : mFr s1 s2) : mFr s s2 := ⟨fun a ha => (h2.1 a ha).trans (h.1 a ha), h2.2.trans h.2⟩
theorem mFr_C {s s' : am_S} (h : mFr s s') : (mS s').C = (mS s).C := mrow_c (fun v v0 v1 => h.1 _ (Or.inr (Or.inl ⟨by omega, by omega⟩)))
theorem mI_cm {s s' : am_S} {rk : Int → Int} {t : Int} (h : mI s rk t) (hf : mFr s s') : ∀ v w, 0 ≤ v → v < s' 62 0 → 0 ≤ w → w < s' 62 0 → v ≠ w → (mS s').C v w ≤ 1000000000000000000 := by
  rw [mFr_C hf, hf.2]; exact h.cm
theorem mI_annex {s s' : am_S} {rk : Int → Int} {t a b : Int} (h : mI s rk t) (ha : 0 ≤ a ∧ a < s 62 0) (hb : 0 ≤ b ∧ b < s 62 0) (hma : s 89 (s 86 a) = 1) (hmb : s 89 (s 86 b) = 0) (hs : bsl (mS s) a b = 0) (e : s' = am_w (am_w (am_w (am_w s 89 (s 86 b) 2) 90 (s 86 b) a) 91 (s 86 b) b) 89 (s 86 (s 85 (s 88 (s 86 b)))) 1) : (∃ rk2, mI s' rk2 t) ∧ bpt (mS s') + 1 ≤ bpt (mS s) ∧ mFr s s' ∧ s' 85 = s 85 := by
  have hF : am_Fr [89, 90, 91] s s' := by
    rw [e]
    exact am_Fr_W (am_Fr_W (am_Fr_W (am_Fr_w (by decide)) (by decide)) (by decide)) (by decide)
  have fr : mFr s s' := ⟨fun q hq => hF q (fun z => by simp at z; omega), by rw [hF 62 (by decide)]⟩
  have e89 : s' 89 = bup (bup (s 89) (s 86 b) 2) (s 86 (s 85 (s 88 (s 86 b)))) 1 := by
    funext y
    rw [e]
    unfold bup am_w
    simp
  have e90 : s' 90 = bup (s 90) (s 86 b) a := by
    funext y
    rw [e]
    unfold bup am_w
    simp
  have e91 : s' 91 = bup (s 91) (s 86 b) b := by
    funext y
    rw [e]
    unfold bup am_w
    simp
  have E : mS s' = bax (mS s) a b := by
    rw [mS_ext (s := s) (s' := s') fr.2 (fun q hq => hF q (fun z => by unfold mFx at hq; simp at z; omega)), hF 84 (by decide), hF 85 (by decide), hF 88 (by decide), hF 93 (by decide), e89, e90, e91]
    rfl
  obtain ⟨rk2, t2, p2, q2⟩ := b_annex (a := a) (b := b) h.b.st h.b.nd h.b.ma h.b.tr h.du h.pr ha.1 ha.2 hb.1 hb.2 hma (by show s 89 (s 86 b) ≠ 1; omega) (by show s 89 (s 86 b) ≠ 2; omega) hs
  rw [← E] at t2 p2 q2
  refine ⟨⟨rk2, ⟨⟨by rw [E]; exact bax_str h.b.st a b, by rw [E]; exact h.b.nd, by rw [E]; exact h.b.ma, t2, by rw [hF 87 (by decide)]; exact h.b.w1, fun x x0 x1 => ?_⟩, by rw [E]; exact ⟨h.du.sy, h.du.sl, h.du.z0, h.du.ev, h.du.lk, h.du.pa, h.du.t0, h.du.tm, h.du.tf⟩, p2, by rw [E]; exact h.ct, mI_cm h fr⟩⟩, q2, fr, hF 85 (by decide)⟩
  rw [e89]
  have := h.b.w2 x x0 x1
  unfold bup
  (repeat' split) <;> omega
theorem mI_enclose {s s' : am_S} {rk : Int → Int} {t a b x : Int} {kd ku : Nat} (h : mI s rk t) (ha : 0 ≤ a ∧ a < s 62 0) (hb : 0 ≤ b ∧ b < s 62 0) (hma : s 89 (s 86 a) = 1) (hmb : s 89 (s 86 b) = 1) (hab : s 86 a ≠ s 86 b) (hs : bsl (mS s) a b = 0) (hm : bAbn (mS s) (s 86 a) kd ≠ -1) (hme : bAbn (mS s) (s 86 b) ku = bAbn (mS s) (s 86 a) kd) (hfi : ∀ i j : Nat, i ≤ kd → j < ku → bAbn (mS s) (s 86 a) i ≠ bAbn (mS s) (s 86 b) j) (x0 : 20 ≤ x) (x1 : x < 30) (xu : s 87 x = 0) (hE : mEn s s' x (2 * (kd : Int) + 1 + 2 * ku) (bAbn (mS s) (s 86 a) kd)) (hw : bWy (mS s) a b kd ku (s' (94 + 1 + (x - 20).toNat)) (s' (105 + 1 + (x - 20).toNat)) (s' (116 + 1 + (x - 20).toNat))) : (∃ rk2, mI s' rk2 t) ∧ bpt (mS s') + 1 ≤ bpt (mS s) ∧ mFr s s' ∧ s' 85 = s 85 := by
  have n0 := h.b.st.n0
  have n1 : (mS s).n = s 62 0 := rfl
  have cy := b_ring h.b.st h.b.nd h.b.ma h.b.tr h.du.sy ha.1 ha.2 hb.1 hb.2 hma hmb hab hs hm hme hfi hw
  have nu : ¬ bU (mS s) x := fun z => (mU_iff ⟨by omega, by omega⟩ (h.b.w1 _ (by omega) (by omega))).mp z xu
  have fe : ∀ q, q ≠ 84 → q ≠ 86 → q ≠ 87 → q ≠ 88 → q ≠ 89 → q ≠ 92 → q ≠ 93 → q ≠ 94 + 1 + (x - 20).toNat → q ≠ 105 + 1 + (x - 20).toNat → q ≠ 116 + 1 + (x - 20).toNat → s' q = s q := fun q z1 z2 z3 z4 z5 z6 z7 z8 z9 z10 => hE.fr q (fun z => by simp at z; omega)
  have fr : mFr s s' := ⟨fun q hq => fe q (by omega) (by omega) (by omega) (by omega) (by omega) (by omega) (by omega) (by omega) (by omega) (by omega), by rw [fe 62 (by omega) (by omega) (by omega) (by omega) (by omega) (by omega) (by omega) (by omega) (by omega) (by omega)]⟩
  have e85 : s' 85 = s 85 := fe 85 (by omega) (by omega) (by omega) (by omega) (by omega) (by omega) (by omega) (by omega) (by omega) (by omega)
  have e90 : s' 90 = s 90 := fe 90 (by omega) (by omega) (by omega) (by omega) (by omega) (by omega) (by omega) (by omega) (by omega) (by omega)
  have e91 : s' 91 = s 91 := fe 91 (by omega) (by omega) (by omega) (by omega) (by omega) (by omega) (by omega) (by omega) (by omega) (by omega)
  have row : ∀ (q : Nat), (q = 94 ∨ q = 105 ∨ q = 116) → ∀ y i, y ≠ x → mrow s' q 10 (y - 20) i = mrow s q 10 (y - 20) i := fun q hq y i hy => by
    unfold mrow
    split
    · rw [fe _ (by omega) (by omega) (by omega) (by omega) (by omega) (by omega) (by omega) (by omega) (by omega) (by omega)]
    · rfl
  have gR : (mS s').rg x = s' (94 + 1 + (x - 20).toNat) := mrow_in (by omega) (by omega)
  have gF : (mS s').lf x = s' (105 + 1 + (x - 20).toNat) := mrow_in (by omega) (by omega)
  have gI : (mS s').li x = s' (116 + 1 + (x - 20).toNat) := mrow_in (by omega) (by omega)
  have gu : ∀ i, 0 ≤ i → i < 2 * (kd : Int) + 1 + 2 * ku → 0 ≤ s' (94 + 1 + (x - 20).toNat) i ∧ s' (94 + 1 + (x - 20).toNat) i < 30 := fun i i0 i1 => by
    obtain ⟨v, v0, v1, e⟩ := cy.tp i i0 i1
    rw [← e]; exact b_top0 h.b.st v0 v1
  have hx : ∀ v, mH s' x v ↔ ∃ i, 0 ≤ i ∧ i < 2 * (kd : Int) + 1 + 2 * ku ∧ mH s (s' (94 + 1 + (x - 20).toNat) i) v := fun v => by
    refine ⟨fun z => ?_, fun ⟨i, i0, i1, z⟩ => ?_⟩
    · obtain ⟨i, i0, i1, q⟩ := (hE.wx v z.1.2.2.1 z.1.2.2.2).mp z.2
      exact ⟨i, i0, i1, ⟨(gu i i0 i1).1, (gu i i0 i1).2, z.1.2.2.1, z.1.2.2.2⟩, q⟩
    · exact ⟨⟨by omega, x1, z.1.2.2.1, z.1.2.2.2⟩, (hE.wx v z.1.2.2.1 z.1.2.2.2).mpr ⟨i, i0, i1, z.2⟩⟩
  have hEn : bEn (mS s) (mS s') x (2 * (kd : Int) + 1 + 2 * ku) (s' (94 + 1 + (x - 20).toNat)) (s' (105 + 1 + (x - 20).toNat)) (s' (116 + 1 + (x - 20).toNat)) := by
    refine ⟨fr.2, mFr_C fr, e85, e90, e91, by show s' 84 x = 0; rw [hE.p, if_pos rfl], fun y hy => by show s' 84 y = s 84 y; rw [hE.p, if_neg hy], hx, fun y v hy => by show mH s' y v ↔ mH s y v; unfold mH; rw [hE.w y hy], fun v v0 v1 hv => ?_, fun v v0 v1 hv => ?_, by show s' 89 x = 1; rw [hE.k, if_pos rfl], fun y hy => by show s' 89 y = s 89 y; rw [hE.k, if_neg hy], ?_, fun y hy => by show s' 88 y = s 88 y; rw [hE.b, if_neg hy], by show s' 92 (x - 20) = _; rw [hE.z, if_pos rfl], fun y hy => by show s' 92 (y - 20) = s 92 (y - 20); rw [hE.z, if_neg (by omega)], by show s' 93 (x - 20) = _; rw [hE.zb, if_pos rfl], fun y hy => by show s' 93 (y - 20) = s 93 (y - 20); rw [hE.zb, if_neg (by omega)], fun i i0 i1 => ?_, fun y i hy => ⟨row 94 (Or.inl rfl) y i hy, row 105 (Or.inr (Or.inl rfl)) y i hy, row 116 (Or.inr (Or.inr rfl)) y i hy⟩⟩
    · show s' 86 v = x
      rw [hE.t v, if_pos ⟨v0, v1, hv.2⟩]
    · show s' 86 v = s 86 v
      rw [hE.t v, if_neg (fun z => hv ⟨⟨by omega, x1, v0, by omega⟩, z.2.2⟩)]
    · show s' 88 x = s 88 (s' (94 + 1 + (x - 20).toNat) 0)
      rw [hE.b, if_pos rfl, hw.g0]; rfl
    · rw [gR, gF, gI]; exact ⟨rfl, rfl, rfl⟩
  obtain ⟨st2, -, -⟩ := b_enstr h.b.st cy x0 x1 nu hEn
  have nd2 := b_ennd h.b.st h.b.nd cy x0 x1 nu hEn
  obtain ⟨ma2, ⟨rk2, tr2⟩, du2, pr2, pt2⟩ := b_enclose h.b.st h.b.nd h.b.ma h.b.tr h.du h.pr cy x0 x1 nu hEn
  have ct2 := b_encnt h.b.st cy x0 x1 nu hEn h.ct
  refine ⟨⟨rk2, ⟨⟨st2, nd2, ma2, tr2, fun y y0 y1 => ?_, fun y y0 y1 => ?_⟩, du2, pr2, ct2, mI_cm h fr⟩⟩, pt2, fr, e85⟩
  · by_cases c : y = x
    · rw [c]; exact hE.wr
    · rw [hE.w y c]; exact h.b.w1 y y0 y1
  · rw [hE.k]
    have := h.b.w2 y y0 y1
    split <;> omega
theorem mI_dissolve {s s' : am_S} {rk : Int → Int} {t b e S : Int} {q F I : Int → Int} (h : mI s rk t) (b0 : 20 ≤ b) (b1 : b < 30) (hT : fdT s b) (hm2 : s 89 b = 2) (hp : s 84 b = 0) (he : bt (s 87 (s (94 + 1 + (b - 20).toNat) e)) (s 91 b) = 1) (e0 : 0 ≤ e) (e1 : e < s 92 (b - 20)) (hw : bDw (mS s) b e S q F I) (hD : bDs (mS s) (mS s') b S q F I) (hF : am_Fr [86, 87, 89, 90, 91] s s') (h87 : ∀ y, s' 87 y = if y = b then 0 else s 87 y) (h89 : ∀ x, 0 ≤ x → x < 30 → 0 ≤ s' 89 x ∧ s' 89 x ≤ 2) : (∃ rk2, mI s' rk2 t) ∧ bpt (mS s') + 1 ≤ bpt (mS s) ∧ mFr s s' ∧ s' 85 = s 85 := by
  have fr : mFr s s' := ⟨fun q hq => hF q (fun z => by simp at z; omega), by rw [hF 62 (by decide)]⟩
  obtain ⟨r1, r2, r3⟩ := mB_base h.b.st h.b.nd h.b.w1 (by omega) b1 hT.1
  have hR : (mS s).rg b = s (94 + 1 + (b - 20).toNat) := mrow_in (by omega) (by omega)
  have hU : bU (mS s) b := (mU_iff ⟨by omega, b1⟩ (h.b.w1 _ (by omega) b1)).mpr hT.1
  have io := (h.b.tr.inn (s 88 b) r1.1 r3 (by show s 89 (s 86 (s 88 b)) = 2; rw [hT.2]; exact hm2)).2.2.1
  have io : mH s b (s 91 b) := by
    have z : mH s (s 86 (s 88 b)) (s 91 (s 86 (s 88 b))) := io
    rw [hT.2] at z; exact z
  have hee : (mS s).H ((mS s).rg b e) ((mS s).io b) := by
    obtain ⟨v, hv⟩ := h.b.st.rc b b0 hU e e0 e1
    have r := h.b.st.hr _ _ hv
    rw [hR] at r ⊢
    exact ⟨⟨r.1, r.2.1, io.1.2.2.1, io.1.2.2.2⟩, he⟩
  obtain ⟨st2, -⟩ := b_dsstr h.b.st b0 r1.1 r3 hT.2 hD
  obtain ⟨nd2, ma2, ⟨rk2, tr2⟩, du2, pr2, pt2⟩ := b_dissolve h.b.st h.b.nd h.b.ma h.b.tr h.du h.pr b0 r1.1 r3 hT.2 hm2 hp hee hw hD
  have ct2 := b_dscnt h.b.st b0 r1.1 r3 hT.2 hD h.ct
  refine ⟨⟨rk2, ⟨⟨st2, nd2, ma2, tr2, fun y y0 y1 => ?_, h89⟩, du2, pr2, ct2, mI_cm h fr⟩⟩, pt2, fr, hF 85 (by decide)⟩
  rw [h87]
  have := h.b.w1 y y0 y1
  split <;> omega
