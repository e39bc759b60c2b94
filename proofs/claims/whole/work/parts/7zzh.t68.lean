/-! the matcher: phases -/
abbrev mQ (s : am_S) (t : Int) : Prop := Nonempty (PProd (bStr (mS s)) (PProd (bNd (mS s)) (PProd (bMat (mS s)) (PProd (bDu (mS s) t) (PProd (bCnt (mS s)) (PProd (∀ x, 0 ≤ x → x < 30 → 0 ≤ s 87 x ∧ s 87 x < 1048576) (∀ v w, 0 ≤ v → v < s 62 0 → 0 ≤ w → w < s 62 0 → v ≠ w → (mS s).C v w ≤ 1000000000000000000)))))))
theorem mQ.st {s : am_S} {t : Int} (h_ : mQ s t) : bStr (mS s) := h_.elim (fun x_ => x_.1)
theorem mQ.nd {s : am_S} {t : Int} (h_ : mQ s t) : bNd (mS s) := h_.elim (fun x_ => x_.2.1)
theorem mQ.ma {s : am_S} {t : Int} (h_ : mQ s t) : bMat (mS s) := h_.elim (fun x_ => x_.2.2.1)
theorem mQ.du {s : am_S} {t : Int} (h_ : mQ s t) : bDu (mS s) t := h_.elim (fun x_ => x_.2.2.2.1)
theorem mQ.ct {s : am_S} {t : Int} (h_ : mQ s t) : bCnt (mS s) := h_.elim (fun x_ => x_.2.2.2.2.1)
theorem mQ.w1 {s : am_S} {t : Int} (h_ : mQ s t) : ∀ x, 0 ≤ x → x < 30 → 0 ≤ s 87 x ∧ s 87 x < 1048576 := h_.elim (fun x_ => x_.2.2.2.2.2.1)
theorem mQ.cm {s : am_S} {t : Int} (h_ : mQ s t) : ∀ v w, 0 ≤ v → v < s 62 0 → 0 ≤ w → w < s 62 0 → v ≠ w → (mS s).C v w ≤ 1000000000000000000 := h_.elim (fun x_ => x_.2.2.2.2.2.2)
theorem mI_Q {s : am_S} {rk : Int → Int} {t : Int} (h : mI s rk t) : mQ s t := ⟨h.b.st, h.b.nd, h.b.ma, h.du, h.ct, h.b.w1, h.cm⟩
theorem p2_20 {v : Int} (h : 0 ≤ v ∧ v < 20) : 0 ≤ p2 v ∧ p2 v < 1048576 := by
  unfold p2
  have : 2 ^ v.toNat < 1048576 := Nat.pow_lt_pow_right (m := v.toNat) (n := 20) (by decide) (by omega)
  generalize 2 ^ v.toNat = q at this ⊢
  omega
theorem mQ_start {s s' : am_S} {f : Int} (hC : mC s) (hf1 : ∀ a b, 0 ≤ a → a < b → b < s 62 0 → f ≤ s (63 + 1 + a.toNat) b) (hf2 : f = 9223372036854775807 ∨ ∃ a b, 0 ≤ a ∧ a < b ∧ b < s 62 0 ∧ f = s (63 + 1 + a.toNat) b) (hF : am_Fr [84, 85, 86, 87, 88] s s') (hV : ∀ v, 0 ≤ v → v < s 62 0 → s' 84 v = f / 2 ∧ s' 85 v = -1 ∧ s' 86 v = v ∧ s' 87 v = p2 v ∧ s' 88 v = v) (hX : ∀ x, s 62 0 ≤ x → x < 30 → s' 87 x = 0) : mQ s' (f / 2) ∧ bnf (mS s') = s 62 0 := by
  obtain ⟨n0, hc⟩ := hC
  have en : s' 62 0 = s 62 0 := by rw [hF 62 (by decide)]
  have f0 : 0 ≤ f := by
    rcases hf2 with z | ⟨a, b, a0, ab, b1, z⟩
    · omega
    · have := hc a b a0 (by omega) (by omega) b1 (by omega); omega
  have eC : ∀ v, 0 ≤ v → v < s 62 0 → (mS s').C v = s (63 + 1 + v.toNat) := fun v v0 v1 => by
    show mrow s' 63 20 v = _
    rw [mrow_in v0 (by omega), hF _ (fun z => by simp at z; omega)]
  have hH : ∀ x v, mH s' x v ↔ x = v ∧ 0 ≤ v ∧ v < s 62 0 := fun x v => by
    unfold mH
    refine ⟨fun ⟨⟨x0, x1, v0, v1⟩, z⟩ => ?_, fun ⟨e, v0, v1⟩ => ?_⟩
    · rcases Int.lt_or_le x (s 62 0) with c | c
      · rw [(hV x x0 c).2.2.2.1] at z
        have := (bt_p2 x0 v0).mp z
        omega
      · rw [hX x c x1] at z
        unfold bt at z
        rw [show ((0 : Int)).toNat = 0 from rfl, Nat.zero_testBit] at z
        exact absurd z (by decide)
    · subst e
      exact ⟨⟨v0, by omega, v0, by omega⟩, by rw [(hV x v0 v1).2.2.2.1]; exact (bt_p2 v0 v0).mpr rfl⟩
  have nu : ∀ b, 20 ≤ b → ¬ bU (mS s') b := fun b b0 ⟨v, hv⟩ => by
    have := (hH b v).mp hv
    omega
  have st : bStr (mS s') := by
    refine ⟨by show 0 ≤ s' 62 0 ∧ s' 62 0 ≤ 20; omega, fun x v hv => ?_, fun x v hx => ?_, fun b b0 hb => absurd hb (nu b b0), fun b b0 hb => absurd hb (nu b b0), fun b v b0 hb => absurd hb (nu b b0), fun b v i j b0 hb => absurd hb (nu b b0), fun b i b0 hb => absurd hb (nu b b0), fun v v0 v1 => ?_, fun x v w hv hw => ?_, fun x y hx y0 hy => absurd hy (nu y y0)⟩
    · have := (hH x v).mp hv
      show _ ∧ _ ∧ _ ∧ v < s' 62 0
      omega
    · show mH s' x v ↔ x = v ∧ 0 ≤ v ∧ v < s' 62 0
      rw [en]; exact hH x v
    · have v1 : v < s' 62 0 := v1
      show mH s' (s' 86 v) v
      rw [(hV v v0 (by omega)).2.2.1]
      exact (hH v v).mpr ⟨rfl, v0, by omega⟩
    · have a := (hH x v).mp hv
      have b := (hH x w).mp hw
      rw [← a.1, ← b.1]
  have zz : ∀ v w, bZ (mS s') v w = 0 := fun v w => by
    classical
    unfold bZ
    rw [mt_s_congr (g := fun _ => 0) (fun k _ => if_neg (fun z => nu _ (by omega) ⟨v, z.1⟩)), mt_s_zero]
  have n1 : (mS s').n = s' 62 0 := rfl
  refine ⟨⟨st, fun y hy => ⟨fun c => ?_, fun c => absurd hy (nu y c)⟩, fun v v0 v1 => Or.inl ?_, ⟨fun v w v0 v1 w0 w1 => ?_, fun v w v0 v1 w0 w1 ne => ?_, fun b b0 hb => absurd hb (nu b b0), fun v w v0 v1 w0 w1 ne => ?_, fun b i b0 hb => absurd hb (nu b b0), fun x v w hv hw => ?_, by omega, fun v v0 v1 => ?_, fun v v0 v1 _ => ?_⟩, ?_, fun x x0 x1 => ?_, fun v w v0 v1 w0 w1 ne => ?_⟩, ?_⟩
  · obtain ⟨v, hv⟩ := hy
    have := (hH y v).mp hv
    exact (hV y (by omega) (by omega)).2.2.2.2
  · have v1 : v < s' 62 0 := v1
    exact (hV v v0 (by omega)).2.1
  · by_cases c : v = w
    · rw [c]
    · rw [eC v v0 (by omega), eC w w0 (by omega)]
      exact (hc v w v0 (by omega) w0 (by omega) c).2.2
  · unfold bsl
    rw [zz v w, eC v v0 (by omega)]
    show 0 ≤ s (63 + 1 + v.toNat) w - s' 84 v - s' 84 w + 0
    rw [(hV v v0 (by omega)).1, (hV w w0 (by omega)).1]
    rcases Int.lt_or_le v w with c | c
    · have := hf1 v w v0 c (by omega); omega
    · have := hf1 w v w0 (by omega) (by omega)
      have := (hc v w v0 (by omega) w0 (by omega) ne).2.2
      omega
  · rw [eC v v0 (by omega)]
    have := hc v w v0 (by omega) w0 (by omega) ne
    exact ⟨this.2.1, this.1.1⟩
  · have a := (hH x v).mp hv
    have b := (hH x w).mp hw
    rw [show v = w by omega]; omega
  · show s' 84 v ≤ f / 2
    rw [(hV v v0 (by omega)).1]; omega
  · exact (hV v v0 (by omega)).1
  · classical
    obtain ⟨N, hN⟩ : ∃ N : Nat, s 62 0 = N := ⟨(s 62 0).toNat, by omega⟩
    unfold bCnt bcr bnt
    rw [mt_s_congr (g := fun _ => 0) (n := 10) (fun k _ => if_neg (nu _ (by omega))), mt_s_zero]
    have gi := b_img (N := 30) (f := fun i => i) N (fun i i0 i1 => ⟨i0, by omega⟩) (fun i j i0 ij j1 => by omega)
    rw [mt_s_congr (g := fun k => if ∃ i, 0 ≤ i ∧ i < (N : Int) ∧ i = (k : Int) then (1 : Int) else 0) (n := 30) (fun k _ => ?_), gi]
    · show 0 + (N : Int) = s' 62 0
      omega
    · by_cases c : bTp (mS s') (k : Int)
      · rw [if_pos c]
        obtain ⟨v, v0, v1, e⟩ := c
        have e : s' 86 v = k := e
        rw [(hV v v0 (by omega)).2.2.1] at e
        rw [if_pos ⟨v, v0, by omega, e⟩]
      · rw [if_neg c, if_neg (fun ⟨i, i0, i1, e⟩ => c ⟨i, i0, by omega, by show s' 86 i = k; rw [(hV i i0 (by omega)).2.2.1]; exact e⟩)]
  · rcases Int.lt_or_le x (s 62 0) with c | c
    · rw [(hV x x0 c).2.2.2.1]; exact p2_20 ⟨x0, by omega⟩
    · rw [hX x c x1]; omega
  · rw [eC v v0 (by omega)]
    have := hc v w v0 (by omega) w0 (by omega) ne
    omega
  · rw [bnf_n st (fun v v0 v1 => (hV v v0 (by omega)).2.1)]; exact en
/-- the roots are marked: a phase begins -/
theorem mI_roots {s s' : am_S} {t : Int} (h : mQ s t) (hF : am_Fr [89] s s') (hk : ∀ x, 0 ≤ x → x < 30 → s' 89 x = if (s 87 x ≠ 0 ∧ s 86 (s 88 x) = x) ∧ s 85 (s 88 x) = -1 then 1 else 0) : mI s' (fun _ => 0) t ∧ mFr s s' ∧ s' 85 = s 85 := by
  have fr : mFr s s' := ⟨fun q hq => hF q (fun z => by simp at z; omega), by rw [hF 62 (by decide)]⟩
  have E : mS s' = (⟨(mS s).n, (mS s).C, (mS s).p, (mS s).mate, (mS s).top, (mS s).base, s' 89, (mS s).fr, (mS s).io, (mS s).H, (mS s).rs, (mS s).rb, (mS s).rg, (mS s).lf, (mS s).li⟩ : bS) := by
    rw [mS_ext (s := s) (s' := s') fr.2 (fun q hq => hF q (fun z => by unfold mFx at hq; simp at z; omega)), hF 84 (by decide), hF 85 (by decide), hF 88 (by decide), hF 90 (by decide), hF 91 (by decide), hF 93 (by decide)]
    rfl
  have st2 : bStr (mS s') := by rw [E]; exact ⟨h.st.n0, h.st.hr, h.st.hs, h.st.rm, h.st.rc, h.st.rh, h.st.rd, h.st.lk, h.st.th, h.st.tt, h.st.lm⟩
  have nd2 : bNd (mS s') := by rw [E]; exact h.nd
  have ma2 : bMat (mS s') := by rw [E]; exact h.ma
  have du2 : bDu (mS s') t := by rw [E]; exact ⟨h.du.sy, h.du.sl, h.du.z0, h.du.ev, h.du.lk, h.du.pa, h.du.t0, h.du.tm, h.du.tf⟩
  have rt : bRt (mS s') := by
    intro v v0 v1
    rw [E] at v1
    have tv := b_top0 h.st v0 v1
    have bv := b_bt h.st h.nd v0 v1
    have u := (mU_iff tv (h.w1 _ tv.1 tv.2)).mp ⟨v, h.st.th v v0 v1⟩
    show s' 89 (s' 86 v) = if s' 85 (s' 88 (s' 86 v)) = -1 then 1 else 0
    rw [hF 86 (by decide), hF 88 (by decide), hF 85 (by decide), hk (s 86 v) tv.1 tv.2]
    by_cases c : s 85 (s 88 (s 86 v)) = -1
    · rw [if_pos c, if_pos ⟨⟨u, bv.2.2.2⟩, c⟩]
    · rw [if_neg c, if_neg (fun z => c z.2)]
  obtain ⟨tr2, pr2⟩ := b_start st2 nd2 ma2 du2 rt
  refine ⟨⟨⟨st2, nd2, ma2, tr2, by rw [hF 87 (by decide)]; exact h.w1, fun x x0 x1 => ?_⟩, du2, pr2, by rw [E]; exact h.ct, by rw [mFr_C fr, fr.2]; exact h.cm⟩, fr, hF 85 (by decide)⟩
  rw [hk x x0 x1]
  split <;> omega
