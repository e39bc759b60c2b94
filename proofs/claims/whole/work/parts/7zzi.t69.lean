/-! the matcher: a step of the prices -/
theorem fs_bsl {s : am_S} (h : bStr (mS s)) {v w : Int} (v0 : 0 ≤ v) (v1 : v < s 62 0) (hne : s 86 w ≠ s 86 v) : fsS s v w = bsl (mS s) v w := by
  have n0 := h.n0
  have n1 : (mS s).n = s 62 0 := rfl
  unfold fsS bsl
  rw [bZ_0 h (fun z => hne z.symm)]
  show _ = mrow s 63 20 v w - s 84 v - s 84 w + 0
  rw [mrow_in v0 (by omega)]
  omega
theorem mI_pre {s : am_S} {rk : Int → Int} {t x y : Int} (h : mI s rk t) (hx : 0 ≤ x ∧ x < s 62 0) (hy : 0 ≤ y ∧ y < s 62 0) (hxy : x ≠ y) (fx : s 85 x = -1) (fy : s 85 y = -1) : (∀ v, 0 ≤ v → v < s 62 0 → ∀ w, 0 ≤ w → w < s 62 0 → s 86 w ≠ s 86 v → 0 ≤ fsS s v w ∧ fsS s v w < 4000000000000000000) ∧ ∀ b, 20 ≤ b → b < 30 → fdT s b → 0 ≤ s 84 b ∧ s 84 b < 4000000000000000000 := by
  obtain ⟨b1, b2, b3, b4⟩ := b_bnd (M := 1000000000000000000) h.b.st h.b.nd h.b.ma h.b.tr h.du h.cm hx.1 hx.2 hy.1 hy.2 hxy fx fy
  refine ⟨fun v v0 v1 w w0 w1 hne => ?_, fun b b0 b1' hT => ?_⟩
  · have hvw : v ≠ w := fun e => hne (by rw [e])
    rw [fs_bsl h.b.st v0 v1 hne]
    refine ⟨h.du.sl v w v0 v1 w0 w1 hvw, ?_⟩
    have a1 := b3 v v0 v1
    have a2 := b3 w w0 w1
    have a3 := h.cm v w v0 v1 w0 w1 hvw
    unfold bsl
    rw [bZ_0 h.b.st (fun z => hne z.symm)]
    omega
  · have z := b4 b b0 ((mU_iff ⟨by omega, b1'⟩ (h.b.w1 _ (by omega) b1')).mpr hT.1)
    have z1 : 0 ≤ s 84 b := z.1
    have z2 : s 84 b ≤ 2 * t := z.2
    omega
theorem mS_62 {s s1 : am_S} (hF : am_Fr [62] s s1) (h0 : s1 62 0 = s 62 0) : mS s1 = mS s := by
  rw [mS_ext (s := s) (s' := s1) h0 (fun q hq => hF q (fun z => by unfold mFx at hq; simp at z; omega)), hF 84 (by decide), hF 85 (by decide), hF 88 (by decide), hF 89 (by decide), hF 90 (by decide), hF 91 (by decide), hF 93 (by decide)]
  rfl
theorem mI_step {s s1 s2 : am_S} {rk : Int → Int} {t x y : Int} (h : mI s rk t) (hx : 0 ≤ x ∧ x < s 62 0) (hy : 0 ≤ y ∧ y < s 62 0) (hxy : x ≠ y) (fx : s 85 x = -1) (fy : s 85 y = -1) (h1 : fd1 s s1 30) (h2 : s1 62 1 = 0 ∨ ∀ v, 0 ≤ v → v < s 62 0 → s 89 (s 86 v) = 1 → ∀ w, 0 ≤ w → w < s 62 0 → fsR s v w → s1 62 1 ≤ fsE s v w) (hF : am_Fr [84] s1 s2) (hA : ∀ v, 0 ≤ v → v < s1 62 0 → s2 84 v = s1 84 v + bsg (s1 89 (s1 86 v)) * s1 62 1) (hB : ∀ b, 20 ≤ b → b < 30 → s2 84 b = s1 84 b + (if fdT s1 b then 2 * bsg (s1 89 b) * s1 62 1 else 0)) : mI s2 rk (t + s1 62 1) ∧ mEv s2 ∧ mFr s s2 ∧ s2 85 = s 85 ∧ bpt (mS s2) = bpt (mS s) := by
  obtain ⟨p1, p2⟩ := mI_pre h hx hy hxy fx fy
  obtain ⟨f1, f2, f3, f4, f5⟩ := h1
  have n0 := h.b.st.n0
  have n1 : (mS s).n = s 62 0 := rfl
  have e0 : s1 62 0 = s 62 0 := f2 0 (by decide) (by decide) (by decide)
  have q84 : s1 84 = s 84 := f1 84 (by decide)
  have q86 : s1 86 = s 86 := f1 86 (by decide)
  have q87 : s1 87 = s 87 := f1 87 (by decide)
  have q88 : s1 88 = s 88 := f1 88 (by decide)
  have q89 : s1 89 = s 89 := f1 89 (by decide)
  have hT : ∀ b, fdT s1 b ↔ fdT s b := fun b => by
    unfold fdT
    rw [q86, q87, q88]
  rw [e0, q84, q86, q89] at hA
  rw [q84, q89] at hB
  generalize hd : s1 62 1 = d at *
  have E1 := mS_62 f1 e0
  have fr : mFr s s2 := ⟨fun a ha => (hF a (fun z => by simp at z; omega)).trans (f1 a (fun z => by simp at z; omega)), by rw [hF 62 (by decide)]; exact e0⟩
  have E2 : mS s2 = bpr (mS s) (s2 84) := by
    rw [mS_ext (s := s1) (s' := s2) (by rw [hF 62 (by decide)]) (fun q hq => hF q (fun z => by unfold mFx at hq; simp at z; omega)), hF 85 (by decide), hF 88 (by decide), hF 89 (by decide), hF 90 (by decide), hF 91 (by decide), hF 93 (by decide), E1]
    rw [f1 85 (by decide), q88, q89, f1 90 (by decide), f1 91 (by decide), f1 93 (by decide)]
    rfl
  have tp : ∀ v, 0 ≤ v → v < s 62 0 → fdT s (s 86 v) := fun v v0 v1 => by
    have tv := b_top0 h.b.st v0 v1
    exact ⟨(mU_iff tv (h.b.w1 _ tv.1 tv.2)).mp ⟨v, h.b.st.th v v0 v1⟩, (b_bt h.b.st h.b.nd v0 v1).2.2.2⟩
  -- what a pair allows
  have pr : ∀ v w, 0 ≤ v → v < s 62 0 → 0 ≤ w → w < s 62 0 → s 86 w ≠ s 86 v → s 89 (s 86 v) = 1 → s 89 (s 86 w) ≠ 2 → ¬ (s 89 (s 86 w) = 1 ∧ w < v) → d ≤ fsE s v w := fun v w v0 v1 w0 w1 hne hm hm2 hm3 => by
    rcases h2 with z | z
    · have := p1 v v0 v1 w w0 w1 hne
      unfold fsE
      split <;> omega
    · exact z v v0 v1 hm w w0 w1 ⟨hne, hm2, hm3⟩
  have prd : ∀ v w, 0 ≤ v → v < s 62 0 → 0 ≤ w → w < s 62 0 → s 86 v ≠ s 86 w → s 89 (s 86 v) = 1 → s 89 (s 86 w) = 1 → 2 * d ≤ bsl (mS s) v w := fun v w v0 v1 w0 w1 hne hm hm2 => by
    have go : ∀ v w, 0 ≤ v → v < w → w < s 62 0 → s 86 v ≠ s 86 w → s 89 (s 86 v) = 1 → s 89 (s 86 w) = 1 → 2 * d ≤ bsl (mS s) v w := fun v w v0 vw w1 hne hm hm2 => by
      have z := pr v w v0 (by omega) (by omega) w1 (fun e => hne e.symm) hm (by omega) (by omega)
      unfold fsE at z
      rw [if_pos hm2, fs_bsl h.b.st v0 (by omega) (fun e => hne e.symm)] at z
      omega
    rcases Int.lt_trichotomy v w with c | c | c
    · exact go v w v0 c w1 hne hm hm2
    · rw [c] at hne; exact absurd rfl hne
    · rw [bsl_comm h.du.sy v0 v1 w0 w1]
      exact go w v w0 c v1 (fun e => hne e.symm) hm2 hm
  have hSt : bSt (mS s) d := by
    refine ⟨f3.1, fun v v0 v1 hb hm => ?_, fun v w v0 v1 w0 w1 hne hm hm1 hm2 => ?_, prd⟩
    · have z := f4 (s 86 v) hb (b_top0 h.b.st v0 v1).2 hm (tp v v0 v1)
      show 2 * d ≤ s 84 (s 86 v)
      omega
    · have z := pr v w v0 v1 w0 w1 (fun e => hne e.symm) hm hm2 (fun q => hm1 q.1)
      unfold fsE at z
      rw [if_neg (show ¬ s 89 (s 86 w) = 1 from hm1), fs_bsl h.b.st v0 v1 (fun e => hne e.symm)] at z
      exact z
  have hSh : bSh (mS s) d (s2 84) := by
    refine ⟨fun v v0 v1 => hA v v0 v1, fun v v0 v1 hb => ?_, fun b b0 hb hn => ?_⟩
    · have z := hB (s 86 v) hb (b_top0 h.b.st v0 v1).2
      rw [if_pos ((hT _).mpr (tp v v0 v1))] at z
      exact z
    · obtain ⟨v, hv⟩ := hb
      have r := h.b.st.hr _ _ hv
      have z := hB b b0 r.2.1
      rw [if_neg (fun q => ?_)] at z
      · show s2 84 b = s 84 b
        omega
      · have q := (hT b).mp q
        have m := mB_base h.b.st h.b.nd h.b.w1 (by omega) r.2.1 q.1
        exact hn (s 88 b) m.1.1 m.2.2 q.2
  obtain ⟨nd2, ma2, tr2, du2, pa2⟩ := b_shift h.b.st h.b.nd h.b.ma h.b.tr h.du h.pr hSt hSh
  rw [← E2] at nd2 ma2 tr2 du2 pa2
  have e87 : s2 87 = s 87 := by rw [hF 87 (by decide), q87]
  have e89 : s2 89 = s 89 := by rw [hF 89 (by decide), q89]
  have e86 : s2 86 = s 86 := by rw [hF 86 (by decide), q86]
  have e62 : s2 62 = s1 62 := hF 62 (by decide)
  refine ⟨⟨⟨by rw [E2]; exact bpr_str h.b.st _, nd2, ma2, tr2, by rw [e87]; exact h.b.w1, by rw [e89]; exact h.b.w2⟩, du2, pa2, by rw [E2]; exact h.ct, mI_cm h fr⟩, ?_, fr, by rw [hF 85 (by decide), f1 85 (by decide)], by rw [E2]; rfl⟩
  have dm : d ≠ 9223372036854775807 := fun z => by
    have bx := b_free h.b.st h.b.nd h.b.tr hx.1 hx.2 fx
    have by_ := b_free h.b.st h.b.nd h.b.tr hy.1 hy.2 fy
    have nt : s 86 x ≠ s 86 y := (b_bnd (M := 1000000000000000000) h.b.st h.b.nd h.b.ma h.b.tr h.du h.cm hx.1 hx.2 hy.1 hy.2 hxy fx fy).1
    have q := prd x y hx.1 hx.2 hy.1 hy.2 nt bx.2 by_.2
    rw [← fs_bsl h.b.st hx.1 hx.2 (fun e => nt e.symm)] at q
    have := p1 x hx.1 hx.2 y hy.1 hy.2 (fun e => nt e.symm)
    omega
  rcases f5 with z | ⟨b, b0, hm, ht, hz, z2, z3⟩ | ⟨v, w, v0, w0, hm, hR, hz, z2, z3⟩
  · omega
  · refine Or.inl ⟨by rw [e62]; exact z3, by rw [e62, z2]; exact b0, ?_, by rw [e62, z2, e89]; exact hm, ?_⟩
    · rw [e62, z2]
      unfold fdT
      rw [e86, e87, hF 88 (by decide), q88]
      exact ht
    · rw [e62, z2, hB b b0.1 b0.2, if_pos ((hT b).mpr ht), hm]
      have ev := (h.du.z0 b b0.1 ((mU_iff ⟨by omega, b0.2⟩ (h.b.w1 _ (by omega) b0.2)).mpr ht.1)).2
      have ev : s 84 b % 2 = 0 := ev
      have : bsg 2 = -1 := rfl
      rw [this]
      omega
  · obtain ⟨r1, r2, r3⟩ := hR
    have hvw : v ≠ w := fun e => r1 (by rw [e])
    have ta : (mS s).top v ≠ (mS s).top w := fun e => r1 e.symm
    refine Or.inr ⟨by rw [e62, z2, e0]; exact v0, by rw [e62, z3, e0]; exact w0, by rw [e62, z2, e89, e86]; exact hm, by rw [e62, z2, z3, e86]; exact fun e => r1 e.symm, by rw [e62, z3, e89, e86]; exact r2, ?_⟩
    rw [e62, z2, z3, E2, bsh_sl h.b.st hSh v0.1 v0.2 w0.1 w0.2 hvw, if_neg ta]
    have mv : (mS s).mr ((mS s).top v) = 1 := hm
    rw [mv, show bsg 1 = 1 from rfl]
    unfold fsE at hz
    rw [fs_bsl h.b.st v0.1 v0.2 r1] at hz
    by_cases c : s 89 (s 86 w) = 1
    · rw [if_pos c] at hz
      have mw : (mS s).mr ((mS s).top w) = 1 := c
      rw [mw, show bsg 1 = 1 from rfl]
      have a1 := h.pr v v0.1 v0.2 (by rw [mv]; decide)
      have a2 := h.pr w w0.1 w0.2 (by rw [mw]; decide)
      have a3 := (h.du.ev v w v0.1 v0.2 w0.1 w0.2 hvw).1
      have a4 : bsl (mS s) v w % 2 = 0 := by
        unfold bsl
        rw [bZ_0 h.b.st ta]
        omega
      omega
    · rw [if_neg c] at hz
      have mw : bsg ((mS s).mr ((mS s).top w)) = 0 := by
        rcases bsg_cases ((mS s).mr ((mS s).top w)) with ⟨q, -⟩ | ⟨q, -⟩ | ⟨-, -, q⟩
        · exact absurd q c
        · exact absurd q r2
        · exact q
      rw [mw]
      omega
/-- both ways are matched anew: the phase ends -/
theorem mQ_join {s s1 s2 : am_S} {rk : Int → Int} {t : Int} {P1 P2 : Int → Prop} (h : mI s rk t) (hJ : mJn s) (h1 : mFE s s1 (fun w => w = s 62 2) (fun _ => False) P1 (s 62 2) (s 62 3)) (h2 : mFE s s2 (fun _ => False) P1 P2 (s 62 3) 0) : mQ s2 t ∧ mFr s s2 ∧ bnf (mS s2) + 2 = bnf (mS s) := by
  obtain ⟨ha, hb, hma, hmb, hab, hs, hap⟩ := hJ
  obtain ⟨hF1, hE1, -, hP1, z1, z10, z11, z12, -⟩ := h1
  obtain ⟨hF2, hE2, hP2a, hP2, z2, z20, z21, z22, z23⟩ := h2
  have oa : bOut (mS s) (s 86 (s 62 2)) := ⟨s 62 2, ha.1, ha.2, rfl, hma⟩
  have ob : bOut (mS s) (s 86 (s 62 3)) := ⟨s 62 3, hb.1, hb.2, rfl, hmb⟩
  have E2 := mS_bmv hF2
  obtain ⟨nd2, ma2⟩ := b_join h.b.st h.b.nd h.b.ma hE2
  have fr : mFr s s2 := ⟨fun q hq => hF2 q (fun z => by simp at z; omega), by rw [hF2 62 (by decide)]⟩
  have fre : ∀ w, 0 ≤ w → w < s 62 0 → (s2 85 w = -1 ↔ s 85 w = -1 ∧ w ≠ z1 ∧ w ≠ z2) := fun w w0 w1 => by
    by_cases c : P2 (s 86 w)
    · have gd := hE2.gd w w0 w1 c id
      have g0 : 0 ≤ s2 85 w := gd.1
      refine ⟨fun z => by omega, fun ⟨fw, n1, n2⟩ => ?_⟩
      exfalso
      rcases hP2 _ c with q | q
      · rcases hP1 _ q with q | q
        · exact q
        · have y := hP1 _ z12
          rcases y with y | y
          · exact y
          · exact n1 (b_end1 h.b.st h.b.nd h.b.ma h.b.tr oa w0 w1 z10.1 z10.2 fw z11 q y)
      · have y := hP2 _ z22
        rcases y with y | y
        · exact z23 y
        · exact n2 (b_end1 h.b.st h.b.nd h.b.ma h.b.tr ob w0 w1 z20.1 z20.2 fw z21 q y)
    · have e : s2 85 w = s 85 w := hE2.fm w w0 w1 c
      rw [e]
      refine ⟨fun z => ⟨z, fun q => c ?_, fun q => c ?_⟩, fun z => z.1⟩
      · rw [q]; exact hP2a _ z12
      · rw [q]; exact z22
  have z12' : z1 ≠ z2 := fun e => z23 (by rw [← e]; exact z12)
  have nf := bnf_2e (S := mS s) (m := s2 85) (b := s2 88) (r := rbf s2) z10.1 z10.2 z20.1 z20.2 z12' z11 z21 fre
  refine ⟨⟨by rw [E2]; exact bmv_str h.b.st _ _ _, by rw [E2]; exact nd2, by rw [E2]; exact ma2, ?_, by rw [E2]; exact h.ct, by rw [hF2 87 (by decide)]; exact h.b.w1, mI_cm h fr⟩, fr, by rw [E2]; exact nf⟩
  rw [E2]
  exact ⟨h.du.sy, h.du.sl, h.du.z0, h.du.ev, h.du.lk, h.du.pa, h.du.t0, h.du.tm, fun v v0 v1 hf => h.du.tf v v0 v1 ((fre v v0 v1).mp hf).1⟩
