/-! the matcher: what a step does -/
def mEv (s : am_S) : Prop := (s 62 3 = -1 ∧ (20 ≤ s 62 2 ∧ s 62 2 < 30) ∧ fdT s (s 62 2) ∧ s 89 (s 62 2) = 2 ∧ s 84 (s 62 2) = 0) ∨ ((0 ≤ s 62 2 ∧ s 62 2 < s 62 0) ∧ (0 ≤ s 62 3 ∧ s 62 3 < s 62 0) ∧ s 89 (s 86 (s 62 2)) = 1 ∧ s 86 (s 62 2) ≠ s 86 (s 62 3) ∧ s 89 (s 86 (s 62 3)) ≠ 2 ∧ bsl (mS s) (s 62 2) (s 62 3) = 0)
def mGo (s s' : am_S) (t : Int) : Prop := (∃ rk2, mI s' rk2 t) ∧ bpt (mS s') + 1 ≤ bpt (mS s) ∧ mFr s s' ∧ s' 85 = s 85
def mJn (s : am_S) : Prop := (0 ≤ s 62 2 ∧ s 62 2 < s 62 0) ∧ (0 ≤ s 62 3 ∧ s 62 3 < s 62 0) ∧ s 89 (s 86 (s 62 2)) = 1 ∧ s 89 (s 86 (s 62 3)) = 1 ∧ s 86 (s 62 2) ≠ s 86 (s 62 3) ∧ bsl (mS s) (s 62 2) (s 62 3) = 0 ∧ ∀ i j : Nat, bAbn (mS s) (s 86 (s 62 2)) i ≠ -1 → bAbn (mS s) (s 86 (s 62 2)) i ≠ bAbn (mS s) (s 86 (s 62 3)) j
set_option maxHeartbeats 4000000 in
theorem t_goOn {d : Nat} {E : am_Ev} {s : am_S} {rk : Int → Int} {t : Int} {PP : Option Value → am_H → Prop} (g : am_Eg E) (h : mI s rk t) (hev : mEv s) (hF : ∀ s', mGo s s' t → PP (some (.int (iI 0))) (am_hp E s')) (hT : mJn s → PP (some (.int (iI 1))) (am_hp E s)) : am_wp (d + 3) 37 0 (lv_args 0 [.ref 62]) [] (am_hp E s) PP := by
  have n0 := h.b.st.n0
  have n1 : (mS s).n = s 62 0 := rfl
  rcases hev with ⟨h3, hb, hfd, h89, h84⟩ | ⟨ha, hb, hma, hab, hmb2, hs⟩
  · refine am_s rfl rfl ?_
    refine s_gi (x := 3) rfl g rfl rfl rfl ?_
    refine s_k (-1) rfl rfl ?_
    refine s_cne rfl ⟨by omega, by omega⟩ ⟨by omega, by omega⟩ (fun c1 => absurd c1 (by omega)) (fun c1 => ?_)
    refine am_s rfl rfl ?_
    refine am_s rfl rfl ?_
    refine s_gi (x := 2) rfl g rfl rfl rfl ?_
    have hU : bU (mS s) (s 62 2) := (mU_iff ⟨by omega, by omega⟩ (h.b.w1 _ (by omega) (by omega))).mpr hfd.1
    obtain ⟨r1, r2, r3⟩ := mB_base h.b.st h.b.nd h.b.w1 (by omega) (by omega) hfd.1
    have io0 := (h.b.tr.inn (s 88 (s 62 2)) r1.1 r3 (by show s 89 (s 86 (s 88 (s 62 2))) = 2; rw [hfd.2]; exact h89)).2.2.1
    have io1 : mH s (s 86 (s 88 (s 62 2))) (s 91 (s 86 (s 88 (s 62 2)))) := io0
    rw [hfd.2] at io1
    refine s_cv [_] [] rfl g (Or.inl rfl) rfl rfl (Nat.le_of_ble_eq_true rfl) rfl rfl (t_dissolve (PP := fun rv h => rv = none ∧ ∃ s', h = am_hp E s' ∧ mGo s s' t) g h.b h.du hb.1 hb.2 hU io1 (fun s' e S q F I e0 e1 ee hw hD hF h87 h9 => ⟨rfl, s', rfl, mI_dissolve h hb.1 hb.2 hfd h89 h84 ee e0 e1 hw hD hF h87 h9⟩)) ?_
    rintro rv h1 ⟨rfl, s2, rfl, hG⟩
    refine s_k 0 rfl rfl ?_
    exact am_r rfl rfl (hF s2 hG)
  · have ta : 0 ≤ s 86 (s 62 2) ∧ s 86 (s 62 2) < 30 := b_top0 h.b.st ha.1 ha.2
    have tb : 0 ≤ s 86 (s 62 3) ∧ s 86 (s 62 3) < 30 := b_top0 h.b.st hb.1 hb.2
    have hk := h.b.w2 (s 86 (s 62 3)) tb.1 tb.2
    refine am_s rfl rfl ?_
    refine s_gi (x := 3) rfl g rfl rfl rfl ?_
    refine s_k (-1) rfl rfl ?_
    refine s_cne rfl ⟨by omega, by omega⟩ ⟨by omega, by omega⟩ (fun c1 => ?_) (fun c1 => absurd c1 (by omega))
    refine am_s rfl rfl ?_
    refine s_gr rfl g rfl rfl ?_
    refine am_s rfl rfl ?_
    refine s_gr rfl g rfl rfl ?_
    refine am_s rfl rfl ?_
    refine s_gi (x := 3) rfl g rfl rfl rfl ?_
    refine s_ia rfl g rfl ⟨by omega, by omega⟩ (by decide) ?_
    refine s_ia rfl g rfl ⟨by omega, by omega⟩ (by decide) ?_
    refine s_zne rfl ⟨by omega, by omega⟩ (fun c2 => ?_) (fun c2 => ?_)
    · refine am_s rfl rfl ?_
      refine am_s rfl rfl ?_
      refine s_gr rfl g rfl rfl ?_
      refine am_s rfl rfl ?_
      refine s_gi (x := 2) rfl g rfl rfl rfl ?_
      refine s_ia rfl g rfl ⟨by omega, by omega⟩ (by decide) ?_
      refine am_s rfl rfl ?_
      refine s_gr rfl g rfl rfl ?_
      refine am_s rfl rfl ?_
      refine s_gi (x := 3) rfl g rfl rfl rfl ?_
      refine s_ia rfl g rfl ⟨by omega, by omega⟩ (by decide) ?_
      have hmb : s 89 (s 86 (s 62 3)) = 1 := by omega
      have oa : bOut (mS s) (s 86 (s 62 2)) := ⟨s 62 2, ha.1, ha.2, rfl, hma⟩
      have ob : bOut (mS s) (s 86 (s 62 3)) := ⟨s 62 3, hb.1, hb.2, rfl, hmb⟩
      refine s_cv [_, _] [] rfl g (Or.inl rfl) rfl rfl (Nat.le_of_ble_eq_true rfl) rfl rfl (t_meetingOf (PP := fun rv h => ∃ r : Int, rv = some (.int (iI r)) ∧ h = am_hp E s ∧ ((r = -1 ∧ ∀ i j : Nat, bAbn (mS s) (s 86 (s 62 2)) (i) ≠ -1 → bAbn (mS s) (s 86 (s 62 2)) (i) ≠ bAbn (mS s) (s 86 (s 62 3)) (j)) ∨ ∃ kd ku : Nat, r = bAbn (mS s) (s 86 (s 62 2)) (kd) ∧ bAbn (mS s) (s 86 (s 62 2)) (kd) ≠ -1 ∧ bAbn (mS s) (s 86 (s 62 3)) (ku) = bAbn (mS s) (s 86 (s 62 2)) (kd) ∧ ∀ i j : Nat, bAbn (mS s) (s 86 (s 62 2)) (i) ≠ -1 → j < ku → bAbn (mS s) (s 86 (s 62 2)) (i) ≠ bAbn (mS s) (s 86 (s 62 3)) (j))) g h.b oa ob (fun z => ⟨-1, rfl, rfl, Or.inl ⟨rfl, z⟩⟩) (fun kd ku z1 z2 z3 => ⟨_, rfl, rfl, Or.inr ⟨kd, ku, rfl, z1, z2, z3⟩⟩)) ?_
      rintro rv h1 ⟨r, rfl, rfl, hr⟩
      have hrr : am_R r := by
        rcases hr with ⟨z, -⟩ | ⟨kd, ku, z, z1, -⟩
        · rw [z]; exact ⟨by decide, by decide⟩
        · have := bOut_0 h.b.st (b_abn h.b.st h.b.nd h.b.ma h.b.tr oa kd z1).1
          rw [z]; exact ⟨by omega, by omega⟩
      refine am_s rfl rfl ?_
      refine am_s rfl rfl ?_
      refine s_k (-1) rfl rfl ?_
      refine s_cne rfl hrr ⟨by omega, by omega⟩ (fun c3 => ?_) (fun c3 => ?_)
      · refine am_s rfl rfl ?_
        refine am_s rfl rfl ?_
        refine s_gi (x := 2) rfl g rfl rfl rfl ?_
        refine am_s rfl rfl ?_
        refine s_gi (x := 3) rfl g rfl rfl rfl ?_
        refine am_s rfl rfl ?_
        rcases hr with ⟨z, -⟩ | ⟨kd, ku, rfl, z1, z2, z3⟩
        · exact absurd z (by omega)
        have hfi : ∀ i j : Nat, i ≤ kd → j < ku → bAbn (mS s) (s 86 (s 62 2)) (i) ≠ bAbn (mS s) (s 86 (s 62 3)) (j) := fun i j hi hj => z3 i j (bAbn_le z1 hi) hj
        have hy : ∃ y, 20 ≤ y ∧ y < 30 ∧ s 87 y = 0 := by
          obtain ⟨y, y0, y1, yu⟩ := b_unused h.b.st h.ct (by show 1 ≤ s 62 0; omega)
          refine ⟨y, y0, y1, ?_⟩
          by_cases c : s 87 y = 0
          · exact c
          · exact absurd ((mU_iff ⟨by omega, y1⟩ (h.b.w1 y (by omega) y1)).mpr c) yu
        refine s_cv [_, _, _] [] rfl g (Or.inl rfl) rfl rfl (Nat.le_of_ble_eq_true rfl) rfl rfl (t_enclose (PP := fun rv h => rv = none ∧ ∃ s', h = am_hp E s' ∧ mGo s s' t) g h.b h.du.sy hy ha hb hma hmb hab hs z1 z2 hfi (fun x s' x0 x1 xu hE hw => ⟨rfl, s', rfl, mI_enclose h ha hb hma hmb hab hs z1 z2 hfi x0 x1 xu hE hw⟩)) ?_
        rintro rv h1 ⟨rfl, s2, rfl, hG⟩
        refine s_k 0 rfl rfl ?_
        exact am_r rfl rfl (hF s2 hG)
      · refine s_k 1 rfl rfl ?_
        exact am_r rfl rfl (hT ⟨ha, hb, hma, hmb, hab, hs, by
          rcases hr with ⟨-, z⟩ | ⟨kd, ku, z, z1, -⟩
          · exact z
          · exact absurd (z.symm.trans (show r = -1 by omega)) z1⟩)
    · refine am_s rfl rfl ?_
      refine am_s rfl rfl ?_
      refine s_gi (x := 2) rfl g rfl rfl rfl ?_
      refine am_s rfl rfl ?_
      refine s_gi (x := 3) rfl g rfl rfl rfl ?_
      have hmb : s 89 (s 86 (s 62 3)) = 0 := by omega
      have zi := h.b.tr.idl (s 62 3) hb.1 hb.2 (by show s 89 (s 86 (s 62 3)) ≠ 1; omega) (by show s 89 (s 86 (s 62 3)) ≠ 2; omega)
      have zb := b_bt h.b.st h.b.nd hb.1 hb.2
      have zm := b_mt h.b.st h.b.nd h.b.ma hb.1 hb.2 zi.2.1
      have zt := b_top0 h.b.st zm.1 zm.2.1
      have y1 : 0 ≤ s 88 (s 86 (s 62 3)) := zb.2.1
      have y2 : s 88 (s 86 (s 62 3)) < s 62 0 := zb.2.2.1
      have y3 : 0 ≤ s 85 (s 88 (s 86 (s 62 3))) := zm.1
      have y4 : s 85 (s 88 (s 86 (s 62 3))) < s 62 0 := zm.2.1
      refine s_cv [_, _] [] rfl g (Or.inl rfl) rfl rfl (Nat.le_of_ble_eq_true rfl) rfl rfl (t_annex g ⟨by omega, by omega⟩ tb ⟨y1, by omega⟩ ⟨y3, by omega⟩ zt) ?_
      rintro rv h1 ⟨rfl, rfl⟩
      refine s_k 0 rfl rfl ?_
      exact am_r rfl rfl (hF _ (mI_annex h ha hb hma hmb hs rfl))
