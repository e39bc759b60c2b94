/-! the matcher: the ring is filled -/
theorem fill6 {s1 : am_S} {R F I : Nat} (h1 : R ≠ F) (h2 : R ≠ I) (h3 : F ≠ I) {i1 v1 i2 v2 i3 v3 i4 v4 i5 v5 i6 v6 : Int} : (∀ y, am_w (am_w (am_w (am_w (am_w (am_w s1 R i1 v1) F i2 v2) I i3 v3) R i4 v4) F i5 v5) I i6 v6 R y = if y = i4 then v4 else if y = i1 then v1 else s1 R y) ∧ (∀ y, am_w (am_w (am_w (am_w (am_w (am_w s1 R i1 v1) F i2 v2) I i3 v3) R i4 v4) F i5 v5) I i6 v6 F y = if y = i5 then v5 else if y = i2 then v2 else s1 F y) ∧ (∀ y, am_w (am_w (am_w (am_w (am_w (am_w s1 R i1 v1) F i2 v2) I i3 v3) R i4 v4) F i5 v5) I i6 v6 I y = if y = i6 then v6 else if y = i3 then v3 else s1 I y) ∧ am_Fr [R, F, I] s1 (am_w (am_w (am_w (am_w (am_w (am_w s1 R i1 v1) F i2 v2) I i3 v3) R i4 v4) F i5 v5) I i6 v6) := by
  refine ⟨fun y => ?_, fun y => ?_, fun y => ?_, fun b hb => ?_⟩
  · rw [am_w_row h2, am_w_row h1]
    by_cases c : y = i4
    · rw [c, am_w_eq, if_pos rfl]
    · rw [am_w_x c, am_w_row h2, am_w_row h1, if_neg c]
      by_cases c2 : y = i1
      · rw [c2, am_w_eq, if_pos rfl]
      · rw [am_w_x c2, if_neg c2]
  · rw [am_w_row h3]
    by_cases c : y = i5
    · rw [c, am_w_eq, if_pos rfl]
    · rw [am_w_x c, am_w_row h1.symm, am_w_row h3, if_neg c]
      by_cases c2 : y = i2
      · rw [c2, am_w_eq, if_pos rfl]
      · rw [am_w_x c2, if_neg c2, am_w_row h1.symm]
  · by_cases c : y = i6
    · rw [c, am_w_eq, if_pos rfl]
    · rw [am_w_x c, am_w_row h3.symm, am_w_row h2.symm, if_neg c]
      by_cases c2 : y = i3
      · rw [c2, am_w_eq, if_pos rfl]
      · rw [am_w_x c2, if_neg c2, am_w_row h3.symm, am_w_row h2.symm]
  · simp only [List.mem_cons, List.not_mem_nil, or_false, not_or] at hb
    rw [am_w_row hb.2.2, am_w_row hb.2.1, am_w_row hb.1, am_w_row hb.2.2, am_w_row hb.2.1, am_w_row hb.1]
set_option maxHeartbeats 4000000 in
theorem t_fillDown {d : Nat} {E : am_Ev} {s : am_S} {rk : Int → Int} {r x : Int} {kd : Nat} (g : am_Eg E) (hr : 0 ≤ r ∧ r < 10) (h : mB s rk) (hx : bOut (mS s) x) (hm : bAbn (mS s) x (kd) ≠ -1) (h9 : kd ≤ 9) : am_wp d 46 0 (lv_args 0 [.ref 62, .int (iI r), .int (iI x), .int (iI (2 * (kd : Int)))]) [] (am_hp E s) (fun rv h => rv = none ∧ ∃ s', h = am_hp E s' ∧ am_Fr [94 + 1 + r.toNat, 105 + 1 + r.toNat, 116 + 1 + r.toNat] s s' ∧ (∀ j : Nat, j < kd → s' (94 + 1 + r.toNat) (2 * ((kd : Int) - j)) = bAbn (mS s) x (j) ∧ s' (94 + 1 + r.toNat) (2 * ((kd : Int) - j) - 1) = s 86 (s 85 (s 88 (bAbn (mS s) x (j)))) ∧ s' (105 + 1 + r.toNat) (2 * ((kd : Int) - j) - 1) = s 85 (s 88 (bAbn (mS s) x (j))) ∧ s' (116 + 1 + r.toNat) (2 * ((kd : Int) - j) - 1) = s 88 (bAbn (mS s) x (j)) ∧ s' (105 + 1 + r.toNat) (2 * ((kd : Int) - j) - 2) = s 90 (s 86 (s 85 (s 88 (bAbn (mS s) x (j))))) ∧ s' (116 + 1 + r.toNat) (2 * ((kd : Int) - j) - 2) = s 91 (s 86 (s 85 (s 88 (bAbn (mS s) x (j)))))) ∧ (∀ y, y ≤ 0 ∨ 2 * (kd : Int) < y → s' (94 + 1 + r.toNat) y = s (94 + 1 + r.toNat) y) ∧ (∀ y, y < 0 ∨ 2 * (kd : Int) ≤ y → s' (105 + 1 + r.toNat) y = s (105 + 1 + r.toNat) y ∧ s' (116 + 1 + r.toNat) y = s (116 + 1 + r.toNat) y)) := by
  refine am_s rfl rfl ?_
  refine am_s rfl rfl ?_
  refine am_s rfl rfl ?_
  refine am_s rfl rfl ?_
  refine am_lv [(5, .int (iI (2 * ((kd : Int) - ((0 : Nat) : Int))))), (4, .int (iI (bAbn (mS s) x (0)))), (3, .int (iI (2 * (kd : Int)))), (2, .int (iI x)), (1, .int (iI r)), (0, .ref 62)] rfl rfl ⟨by rw [show 2 * ((kd : Int) - ((0 : Nat) : Int)) = 2 * (kd : Int) by omega]; rfl, rfl, rfl, rfl, rfl, rfl, trivial⟩ ?_
  refine s_loop (X := Unit) (fun k _ s' => am_Fr [94 + 1 + r.toNat, 105 + 1 + r.toNat, 116 + 1 + r.toNat] s s' ∧ (∀ j : Nat, j < k → s' (94 + 1 + r.toNat) (2 * ((kd : Int) - j)) = bAbn (mS s) x (j) ∧ s' (94 + 1 + r.toNat) (2 * ((kd : Int) - j) - 1) = s 86 (s 85 (s 88 (bAbn (mS s) x (j)))) ∧ s' (105 + 1 + r.toNat) (2 * ((kd : Int) - j) - 1) = s 85 (s 88 (bAbn (mS s) x (j))) ∧ s' (116 + 1 + r.toNat) (2 * ((kd : Int) - j) - 1) = s 88 (bAbn (mS s) x (j)) ∧ s' (105 + 1 + r.toNat) (2 * ((kd : Int) - j) - 2) = s 90 (s 86 (s 85 (s 88 (bAbn (mS s) x (j))))) ∧ s' (116 + 1 + r.toNat) (2 * ((kd : Int) - j) - 2) = s 91 (s 86 (s 85 (s 88 (bAbn (mS s) x (j)))))) ∧ (∀ y, y ≤ 0 ∨ 2 * (kd : Int) < y → s' (94 + 1 + r.toNat) y = s (94 + 1 + r.toNat) y) ∧ (∀ y, y < 0 ∨ 2 * (kd : Int) ≤ y → s' (105 + 1 + r.toNat) y = s (105 + 1 + r.toNat) y ∧ s' (116 + 1 + r.toNat) y = s (116 + 1 + r.toNat) y)) (fun k _ => [(5, .int (iI (2 * ((kd : Int) - k)))), (4, .int (iI (bAbn (mS s) x (k)))), (3, .int (iI (2 * (kd : Int)))), (2, .int (iI x)), (1, .int (iI r)), (0, .ref 62)]) (hi := kd) (x := ()) (Nat.zero_le kd) ⟨am_Fr_r _ _, fun j hj => absurd hj (Nat.not_lt_zero _), fun y _ => rfl, fun y _ => ⟨rfl, rfl⟩⟩ ?_ ?_
  · rintro k - s1 hk0 hk1 ⟨hF, hQ, hK1, hK2⟩ kk
    simp only at kk ⊢
    obtain ⟨u, -, -, -, -, u2, -, -, -, -, -, -, -, -, -, ab, -, -, -, -, -, oa⟩ := b_stp h.st h.nd h.ma h.tr hx (bAbn_le hm (show k + 1 ≤ kd by omega))
    obtain ⟨a1, a2, a3, a4⟩ := mB_out h oa
    have ne : s 85 (s 88 (bAbn (mS s) x (k))) ≠ -1 := fun z => by
      have e : bAb (mS s) (bAbn (mS s) x (k)) = -1 := if_pos z
      have e2 : bAbn (mS s) x (k + 1) = bAb (mS s) (bAbn (mS s) x (k)) := if_neg (by have := bOut_0 h.st oa; omega)
      exact absurd (e2.trans e) (bAbn_le hm (by omega))
    obtain ⟨b1, b2, b3⟩ := a4 ne
    have nx : bAbn (mS s) x (k + 1) = s 86 (s 90 (s 86 (s 85 (s 88 (bAbn (mS s) x (k)))))) := by
      have e2 : bAbn (mS s) x (k + 1) = bAb (mS s) (bAbn (mS s) x (k)) := if_neg (by have := bOut_0 h.st oa; omega)
      rw [e2]; exact if_neg ne
    have e85 : s1 85 = s 85 := hF 85 (fun z => by simp at z; omega)
    have e86 : s1 86 = s 86 := hF 86 (fun z => by simp at z; omega)
    have e88 : s1 88 = s 88 := hF 88 (fun z => by simp at z; omega)
    have e90 : s1 90 = s 90 := hF 90 (fun z => by simp at z; omega)
    have e91 : s1 91 = s 91 := hF 91 (fun z => by simp at z; omega)
    have e92 : s1 92 = s 92 := hF 92 (fun z => by simp at z; omega)
    have r86 : ∀ (t : am_S) (q : Nat) (y z : Int), (q = 94 + 1 + r.toNat ∨ q = 105 + 1 + r.toNat ∨ q = 116 + 1 + r.toNat) → am_w t q y z 86 = t 86 := fun t q y z hq => am_w_row (by omega)
    have r88 : ∀ (t : am_S) (q : Nat) (y z : Int), (q = 94 + 1 + r.toNat ∨ q = 105 + 1 + r.toNat ∨ q = 116 + 1 + r.toNat) → am_w t q y z 88 = t 88 := fun t q y z hq => am_w_row (by omega)
    have r90 : ∀ (t : am_S) (q : Nat) (y z : Int), (q = 94 + 1 + r.toNat ∨ q = 105 + 1 + r.toNat ∨ q = 116 + 1 + r.toNat) → am_w t q y z 90 = t 90 := fun t q y z hq => am_w_row (by omega)
    have r91 : ∀ (t : am_S) (q : Nat) (y z : Int), (q = 94 + 1 + r.toNat ∨ q = 105 + 1 + r.toNat ∨ q = 116 + 1 + r.toNat) → am_w t q y z 91 = t 91 := fun t q y z hq => am_w_row (by omega)
    refine am_s rfl rfl ?_
    refine s_k 1 rfl rfl ?_
    refine s_cle rfl ⟨by omega, by omega⟩ ⟨by omega, by omega⟩ (fun c1 => absurd c1 (by omega)) (fun c1 => ?_)
    refine am_s rfl rfl ?_
    refine s_gr rfl g rfl rfl ?_
    refine am_s rfl rfl ?_
    refine s_gr rfl g rfl rfl ?_
    refine am_s rfl rfl ?_
    refine s_ia rfl g rfl ⟨by omega, by omega⟩ (by decide) ?_
    rw [e88]
    refine s_ia rfl g rfl ⟨by omega, by omega⟩ (by decide) ?_
    rw [e85]
    refine am_s rfl rfl ?_
    refine am_s rfl rfl ?_
    refine s_gr rfl g rfl rfl ?_
    refine am_s rfl rfl ?_
    refine s_ia rfl g rfl ⟨by omega, by omega⟩ (by decide) ?_
    rw [e86]
    refine am_s rfl rfl ?_
    refine am_s rfl rfl ?_
    refine s_gr rfl g rfl rfl ?_
    refine am_s rfl rfl ?_
    refine s_aa rfl g rfl ⟨by omega, by omega⟩ (by decide) ?_
    refine am_s rfl rfl ?_
    refine am_s rfl rfl ?_
    refine s_is rfl g (lo_94 (by omega) (by omega)) ⟨by omega, by omega⟩ (by decide) ?_
    refine am_s rfl rfl ?_
    refine s_gr rfl g rfl rfl ?_
    refine am_s rfl rfl ?_
    refine s_aa rfl g rfl ⟨by omega, by omega⟩ (by decide) ?_
    refine am_s rfl rfl ?_
    refine s_k 1 rfl rfl ?_
    refine s_isub rfl ?_
    refine am_s rfl rfl ?_
    refine s_is rfl g (lo_105 (by omega) (by omega)) ⟨by omega, by omega⟩ (by decide) ?_
    refine am_s rfl rfl ?_
    refine s_gr rfl g rfl rfl ?_
    refine am_s rfl rfl ?_
    refine s_aa rfl g rfl ⟨by omega, by omega⟩ (by decide) ?_
    refine am_s rfl rfl ?_
    refine s_k 1 rfl rfl ?_
    refine s_isub rfl ?_
    refine am_s rfl rfl ?_
    refine s_gr rfl g rfl rfl ?_
    refine am_s rfl rfl ?_
    refine s_ia rfl g rfl ⟨by omega, by omega⟩ (by decide) ?_
    simp only [r88 _ _ _ _ (Or.inl rfl), r88 _ _ _ _ (Or.inr (Or.inl rfl)), r88 _ _ _ _ (Or.inr (Or.inr rfl)), e88]
    refine s_is rfl g (lo_116 (by omega) (by omega)) ⟨by omega, by omega⟩ (by decide) ?_
    refine am_s rfl rfl ?_
    refine s_gr rfl g rfl rfl ?_
    refine am_s rfl rfl ?_
    refine s_aa rfl g rfl ⟨by omega, by omega⟩ (by decide) ?_
    refine am_s rfl rfl ?_
    refine s_k 1 rfl rfl ?_
    refine s_isub rfl ?_
    refine am_s rfl rfl ?_
    refine s_is rfl g (lo_94 (by omega) (by omega)) ⟨by omega, by omega⟩ (by decide) ?_
    refine am_s rfl rfl ?_
    refine s_gr rfl g rfl rfl ?_
    refine am_s rfl rfl ?_
    refine s_aa rfl g rfl ⟨by omega, by omega⟩ (by decide) ?_
    refine am_s rfl rfl ?_
    refine s_k 2 rfl rfl ?_
    refine s_isub rfl ?_
    refine am_s rfl rfl ?_
    refine s_gr rfl g rfl rfl ?_
    refine am_s rfl rfl ?_
    refine s_ia rfl g rfl ⟨by omega, by omega⟩ (by decide) ?_
    simp only [r90 _ _ _ _ (Or.inl rfl), r90 _ _ _ _ (Or.inr (Or.inl rfl)), r90 _ _ _ _ (Or.inr (Or.inr rfl)), e90]
    refine s_is rfl g (lo_105 (by omega) (by omega)) ⟨by omega, by omega⟩ (by decide) ?_
    refine am_s rfl rfl ?_
    refine s_gr rfl g rfl rfl ?_
    refine am_s rfl rfl ?_
    refine s_aa rfl g rfl ⟨by omega, by omega⟩ (by decide) ?_
    refine am_s rfl rfl ?_
    refine s_k 2 rfl rfl ?_
    refine s_isub rfl ?_
    refine am_s rfl rfl ?_
    refine s_gr rfl g rfl rfl ?_
    refine am_s rfl rfl ?_
    refine s_ia rfl g rfl ⟨by omega, by omega⟩ (by decide) ?_
    simp only [r91 _ _ _ _ (Or.inl rfl), r91 _ _ _ _ (Or.inr (Or.inl rfl)), r91 _ _ _ _ (Or.inr (Or.inr rfl)), e91]
    refine s_is rfl g (lo_116 (by omega) (by omega)) ⟨by omega, by omega⟩ (by decide) ?_
    refine am_s rfl rfl ?_
    refine s_gr rfl g rfl rfl ?_
    refine am_s rfl rfl ?_
    refine s_gr rfl g rfl rfl ?_
    refine am_s rfl rfl ?_
    refine s_ia rfl g rfl ⟨by omega, by omega⟩ (by decide) ?_
    simp only [r90 _ _ _ _ (Or.inl rfl), r90 _ _ _ _ (Or.inr (Or.inl rfl)), r90 _ _ _ _ (Or.inr (Or.inr rfl)), e90]
    refine s_ia rfl g rfl ⟨by omega, by omega⟩ (by decide) ?_
    simp only [r86 _ _ _ _ (Or.inl rfl), r86 _ _ _ _ (Or.inr (Or.inl rfl)), r86 _ _ _ _ (Or.inr (Or.inr rfl)), e86]
    refine am_s rfl rfl ?_
    refine s_inc rfl rfl ?_
    refine am_s rfl rfl ?_
    rw [← nx]
    rw [show 2 * ((kd : Int) - (k : Int)) + -2 = 2 * ((kd : Int) - ((k + 1 : Nat) : Int)) by omega]
    refine am_lv [(5, _), (4, _), (3, _), (2, _), (1, _), (0, _)] rfl rfl ⟨rfl, rfl, rfl, rfl, rfl, rfl, trivial⟩ ?_
    obtain ⟨w1, w2, w3, w4⟩ := fill6 (s1 := s1) (R := 94 + 1 + r.toNat) (F := 105 + 1 + r.toNat) (I := 116 + 1 + r.toNat) (by omega) (by omega) (by omega) (i1 := _) (v1 := _) (i2 := _) (v2 := _) (i3 := _) (v3 := _) (i4 := _) (v4 := _) (i5 := _) (v5 := _) (i6 := _) (v6 := _)
    refine kk () _ ⟨am_Fr_u hF w4, fun j hj => ?_, fun y hy => ?_, fun y hy => ?_⟩
    · rw [w1, w1, w2, w3, w2, w3]
      by_cases c : j = k
      · subst c
        refine ⟨?_, ?_, ?_, ?_, ?_, ?_⟩
        · rw [if_neg (by omega), if_pos rfl]
        · rw [if_pos rfl]
        · rw [if_neg (by omega), if_pos rfl]
        · rw [if_neg (by omega), if_pos rfl]
        · rw [if_pos (by omega)]
        · rw [if_pos (by omega)]
      · obtain ⟨z1, z2, z3, z4, z5, z6⟩ := hQ j (by omega)
        refine ⟨?_, ?_, ?_, ?_, ?_, ?_⟩ <;> rw [if_neg (by omega), if_neg (by omega)]
        · exact z1
        · exact z2
        · exact z3
        · exact z4
        · exact z5
        · exact z6
    · rw [w1, if_neg (by omega), if_neg (by omega)]; exact hK1 y hy
    · rw [w2, w3, if_neg (by omega), if_neg (by omega), if_neg (by omega), if_neg (by omega)]; exact hK2 y hy
  · rintro - s1 ⟨hF, hQ, hK1, hK2⟩
    simp only
    refine am_s rfl rfl ?_
    refine s_k 1 rfl rfl ?_
    refine s_cle rfl ⟨by omega, by omega⟩ ⟨by omega, by omega⟩ (fun c1 => ?_) (fun c1 => absurd c1 (by omega))
    exact am_r rfl rfl ⟨rfl, s1, rfl, hF, hQ, hK1, hK2⟩
set_option maxHeartbeats 4000000 in
theorem t_fillUp {d : Nat} {E : am_Ev} {s : am_S} {rk : Int → Int} {r x st : Int} {kd : Nat} (g : am_Eg E) (hr : 0 ≤ r ∧ r < 10) (h : mB s rk) (hx : bOut (mS s) x) (hm : bAbn (mS s) x (kd) ≠ -1) (h9 : 1 ≤ st ∧ st + 2 * kd ≤ 20) (h92 : s 92 r = st + 2 * kd) : am_wp d 47 0 (lv_args 0 [.ref 62, .int (iI r), .int (iI x), .int (iI st)]) [] (am_hp E s) (fun rv h => rv = none ∧ ∃ s', h = am_hp E s' ∧ am_Fr [94 + 1 + r.toNat, 105 + 1 + r.toNat, 116 + 1 + r.toNat] s s' ∧ (∀ j : Nat, j < kd → s' (94 + 1 + r.toNat) (st + 2 * j) = bAbn (mS s) x (j) ∧ s' (94 + 1 + r.toNat) (st + 1 + 2 * j) = s 86 (s 85 (s 88 (bAbn (mS s) x (j)))) ∧ s' (105 + 1 + r.toNat) (st + 2 * j) = s 88 (bAbn (mS s) x (j)) ∧ s' (116 + 1 + r.toNat) (st + 2 * j) = s 85 (s 88 (bAbn (mS s) x (j))) ∧ s' (105 + 1 + r.toNat) (st + 1 + 2 * j) = s 91 (s 86 (s 85 (s 88 (bAbn (mS s) x (j))))) ∧ s' (116 + 1 + r.toNat) (st + 1 + 2 * j) = s 90 (s 86 (s 85 (s 88 (bAbn (mS s) x (j)))))) ∧ (∀ y, y < st → s' (94 + 1 + r.toNat) y = s (94 + 1 + r.toNat) y ∧ s' (105 + 1 + r.toNat) y = s (105 + 1 + r.toNat) y ∧ s' (116 + 1 + r.toNat) y = s (116 + 1 + r.toNat) y)) := by
  refine am_s rfl rfl ?_
  refine am_s rfl rfl ?_
  refine am_s rfl rfl ?_
  refine am_s rfl rfl ?_
  refine am_lv [(5, .int (iI (st + 2 * ((0 : Nat) : Int)))), (4, .int (iI (bAbn (mS s) x (0)))), (3, .int (iI st)), (2, .int (iI x)), (1, .int (iI r)), (0, .ref 62)] rfl rfl ⟨by rw [show st + 2 * ((0 : Nat) : Int) = st by omega]; rfl, rfl, rfl, rfl, rfl, rfl, trivial⟩ ?_
  refine s_loop (X := Unit) (fun k _ s' => am_Fr [94 + 1 + r.toNat, 105 + 1 + r.toNat, 116 + 1 + r.toNat] s s' ∧ (∀ j : Nat, j < k → s' (94 + 1 + r.toNat) (st + 2 * j) = bAbn (mS s) x (j) ∧ s' (94 + 1 + r.toNat) (st + 1 + 2 * j) = s 86 (s 85 (s 88 (bAbn (mS s) x (j)))) ∧ s' (105 + 1 + r.toNat) (st + 2 * j) = s 88 (bAbn (mS s) x (j)) ∧ s' (116 + 1 + r.toNat) (st + 2 * j) = s 85 (s 88 (bAbn (mS s) x (j))) ∧ s' (105 + 1 + r.toNat) (st + 1 + 2 * j) = s 91 (s 86 (s 85 (s 88 (bAbn (mS s) x (j))))) ∧ s' (116 + 1 + r.toNat) (st + 1 + 2 * j) = s 90 (s 86 (s 85 (s 88 (bAbn (mS s) x (j)))))) ∧ (∀ y, y < st → s' (94 + 1 + r.toNat) y = s (94 + 1 + r.toNat) y ∧ s' (105 + 1 + r.toNat) y = s (105 + 1 + r.toNat) y ∧ s' (116 + 1 + r.toNat) y = s (116 + 1 + r.toNat) y)) (fun k _ => [(5, .int (iI (st + 2 * k))), (4, .int (iI (bAbn (mS s) x (k)))), (3, .int (iI st)), (2, .int (iI x)), (1, .int (iI r)), (0, .ref 62)]) (hi := kd) (x := ()) (Nat.zero_le kd) ⟨am_Fr_r _ _, fun j hj => absurd hj (Nat.not_lt_zero _), fun y _ => ⟨rfl, rfl, rfl⟩⟩ ?_ ?_
  · rintro k - s1 hk0 hk1 ⟨hF, hQ, hK1⟩ kk
    simp only at kk ⊢
    obtain ⟨u, -, -, -, -, u2, -, -, -, -, -, -, -, -, -, ab, -, -, -, -, -, oa⟩ := b_stp h.st h.nd h.ma h.tr hx (bAbn_le hm (show k + 1 ≤ kd by omega))
    obtain ⟨a1, a2, a3, a4⟩ := mB_out h oa
    have ne : s 85 (s 88 (bAbn (mS s) x (k))) ≠ -1 := fun z => by
      have e : bAb (mS s) (bAbn (mS s) x (k)) = -1 := if_pos z
      have e2 : bAbn (mS s) x (k + 1) = bAb (mS s) (bAbn (mS s) x (k)) := if_neg (by have := bOut_0 h.st oa; omega)
      exact absurd (e2.trans e) (bAbn_le hm (by omega))
    obtain ⟨b1, b2, b3⟩ := a4 ne
    have nx : bAbn (mS s) x (k + 1) = s 86 (s 90 (s 86 (s 85 (s 88 (bAbn (mS s) x (k)))))) := by
      have e2 : bAbn (mS s) x (k + 1) = bAb (mS s) (bAbn (mS s) x (k)) := if_neg (by have := bOut_0 h.st oa; omega)
      rw [e2]; exact if_neg ne
    have e85 : s1 85 = s 85 := hF 85 (fun z => by simp at z; omega)
    have e86 : s1 86 = s 86 := hF 86 (fun z => by simp at z; omega)
    have e88 : s1 88 = s 88 := hF 88 (fun z => by simp at z; omega)
    have e90 : s1 90 = s 90 := hF 90 (fun z => by simp at z; omega)
    have e91 : s1 91 = s 91 := hF 91 (fun z => by simp at z; omega)
    have e92 : s1 92 = s 92 := hF 92 (fun z => by simp at z; omega)
    have r86 : ∀ (t : am_S) (q : Nat) (y z : Int), (q = 94 + 1 + r.toNat ∨ q = 105 + 1 + r.toNat ∨ q = 116 + 1 + r.toNat) → am_w t q y z 86 = t 86 := fun t q y z hq => am_w_row (by omega)
    have r88 : ∀ (t : am_S) (q : Nat) (y z : Int), (q = 94 + 1 + r.toNat ∨ q = 105 + 1 + r.toNat ∨ q = 116 + 1 + r.toNat) → am_w t q y z 88 = t 88 := fun t q y z hq => am_w_row (by omega)
    have r90 : ∀ (t : am_S) (q : Nat) (y z : Int), (q = 94 + 1 + r.toNat ∨ q = 105 + 1 + r.toNat ∨ q = 116 + 1 + r.toNat) → am_w t q y z 90 = t 90 := fun t q y z hq => am_w_row (by omega)
    have r91 : ∀ (t : am_S) (q : Nat) (y z : Int), (q = 94 + 1 + r.toNat ∨ q = 105 + 1 + r.toNat ∨ q = 116 + 1 + r.toNat) → am_w t q y z 91 = t 91 := fun t q y z hq => am_w_row (by omega)
    have q92 : s1 92 r = s 92 r := by rw [e92]
    refine am_s rfl rfl ?_
    refine s_k 1 rfl rfl ?_
    refine s_iadd rfl ?_
    refine am_s rfl rfl ?_
    refine s_gr rfl g rfl rfl ?_
    refine am_s rfl rfl ?_
    refine s_ia rfl g rfl ⟨by omega, by omega⟩ (by decide) ?_
    refine s_cge rfl ⟨by omega, by omega⟩ ⟨by omega, by omega⟩ (fun c1 => absurd c1 (by omega)) (fun c1 => ?_)
    refine am_s rfl rfl ?_
    refine s_gr rfl g rfl rfl ?_
    refine am_s rfl rfl ?_
    refine s_gr rfl g rfl rfl ?_
    refine am_s rfl rfl ?_
    refine s_ia rfl g rfl ⟨by omega, by omega⟩ (by decide) ?_
    rw [e88]
    refine s_ia rfl g rfl ⟨by omega, by omega⟩ (by decide) ?_
    rw [e85]
    refine am_s rfl rfl ?_
    refine am_s rfl rfl ?_
    refine s_gr rfl g rfl rfl ?_
    refine am_s rfl rfl ?_
    refine s_ia rfl g rfl ⟨by omega, by omega⟩ (by decide) ?_
    rw [e86]
    refine am_s rfl rfl ?_
    refine am_s rfl rfl ?_
    refine s_gr rfl g rfl rfl ?_
    refine am_s rfl rfl ?_
    refine s_aa rfl g rfl ⟨by omega, by omega⟩ (by decide) ?_
    refine am_s rfl rfl ?_
    refine am_s rfl rfl ?_
    refine s_is rfl g (lo_94 (by omega) (by omega)) ⟨by omega, by omega⟩ (by decide) ?_
    refine am_s rfl rfl ?_
    refine s_gr rfl g rfl rfl ?_
    refine am_s rfl rfl ?_
    refine s_aa rfl g rfl ⟨by omega, by omega⟩ (by decide) ?_
    refine am_s rfl rfl ?_
    refine am_s rfl rfl ?_
    refine s_gr rfl g rfl rfl ?_
    refine am_s rfl rfl ?_
    refine s_ia rfl g rfl ⟨by omega, by omega⟩ (by decide) ?_
    simp only [r88 _ _ _ _ (Or.inl rfl), r88 _ _ _ _ (Or.inr (Or.inl rfl)), r88 _ _ _ _ (Or.inr (Or.inr rfl)), e88]
    refine s_is rfl g (lo_105 (by omega) (by omega)) ⟨by omega, by omega⟩ (by decide) ?_
    refine am_s rfl rfl ?_
    refine s_gr rfl g rfl rfl ?_
    refine am_s rfl rfl ?_
    refine s_aa rfl g rfl ⟨by omega, by omega⟩ (by decide) ?_
    refine am_s rfl rfl ?_
    refine am_s rfl rfl ?_
    refine s_is rfl g (lo_116 (by omega) (by omega)) ⟨by omega, by omega⟩ (by decide) ?_
    refine am_s rfl rfl ?_
    refine s_gr rfl g rfl rfl ?_
    refine am_s rfl rfl ?_
    refine s_aa rfl g rfl ⟨by omega, by omega⟩ (by decide) ?_
    refine am_s rfl rfl ?_
    refine s_k 1 rfl rfl ?_
    refine s_iadd rfl ?_
    refine am_s rfl rfl ?_
    refine s_is rfl g (lo_94 (by omega) (by omega)) ⟨by omega, by omega⟩ (by decide) ?_
    refine am_s rfl rfl ?_
    refine s_gr rfl g rfl rfl ?_
    refine am_s rfl rfl ?_
    refine s_aa rfl g rfl ⟨by omega, by omega⟩ (by decide) ?_
    refine am_s rfl rfl ?_
    refine s_k 1 rfl rfl ?_
    refine s_iadd rfl ?_
    refine am_s rfl rfl ?_
    refine s_gr rfl g rfl rfl ?_
    refine am_s rfl rfl ?_
    refine s_ia rfl g rfl ⟨by omega, by omega⟩ (by decide) ?_
    simp only [r91 _ _ _ _ (Or.inl rfl), r91 _ _ _ _ (Or.inr (Or.inl rfl)), r91 _ _ _ _ (Or.inr (Or.inr rfl)), e91]
    refine s_is rfl g (lo_105 (by omega) (by omega)) ⟨by omega, by omega⟩ (by decide) ?_
    refine am_s rfl rfl ?_
    refine s_gr rfl g rfl rfl ?_
    refine am_s rfl rfl ?_
    refine s_aa rfl g rfl ⟨by omega, by omega⟩ (by decide) ?_
    refine am_s rfl rfl ?_
    refine s_k 1 rfl rfl ?_
    refine s_iadd rfl ?_
    refine am_s rfl rfl ?_
    refine s_gr rfl g rfl rfl ?_
    refine am_s rfl rfl ?_
    refine s_ia rfl g rfl ⟨by omega, by omega⟩ (by decide) ?_
    simp only [r90 _ _ _ _ (Or.inl rfl), r90 _ _ _ _ (Or.inr (Or.inl rfl)), r90 _ _ _ _ (Or.inr (Or.inr rfl)), e90]
    refine s_is rfl g (lo_116 (by omega) (by omega)) ⟨by omega, by omega⟩ (by decide) ?_
    refine am_s rfl rfl ?_
    refine s_gr rfl g rfl rfl ?_
    refine am_s rfl rfl ?_
    refine s_gr rfl g rfl rfl ?_
    refine am_s rfl rfl ?_
    refine s_ia rfl g rfl ⟨by omega, by omega⟩ (by decide) ?_
    simp only [r90 _ _ _ _ (Or.inl rfl), r90 _ _ _ _ (Or.inr (Or.inl rfl)), r90 _ _ _ _ (Or.inr (Or.inr rfl)), e90]
    refine s_ia rfl g rfl ⟨by omega, by omega⟩ (by decide) ?_
    simp only [r86 _ _ _ _ (Or.inl rfl), r86 _ _ _ _ (Or.inr (Or.inl rfl)), r86 _ _ _ _ (Or.inr (Or.inr rfl)), e86]
    refine am_s rfl rfl ?_
    refine s_inc rfl rfl ?_
    refine am_s rfl rfl ?_
    rw [← nx]
    rw [show st + 2 * (k : Int) + 2 = st + 2 * ((k + 1 : Nat) : Int) by omega]
    refine am_lv [(5, _), (4, _), (3, _), (2, _), (1, _), (0, _)] rfl rfl ⟨rfl, rfl, rfl, rfl, rfl, rfl, trivial⟩ ?_
    obtain ⟨w1, w2, w3, w4⟩ := fill6 (s1 := s1) (R := 94 + 1 + r.toNat) (F := 105 + 1 + r.toNat) (I := 116 + 1 + r.toNat) (by omega) (by omega) (by omega) (i1 := _) (v1 := _) (i2 := _) (v2 := _) (i3 := _) (v3 := _) (i4 := _) (v4 := _) (i5 := _) (v5 := _) (i6 := _) (v6 := _)
    refine kk () _ ⟨am_Fr_u hF w4, fun j hj => ?_, fun y hy => ?_⟩
    · rw [w1, w1, w2, w3, w2, w3]
      by_cases c : j = k
      · subst c
        refine ⟨?_, ?_, ?_, ?_, ?_, ?_⟩
        · rw [if_neg (by omega), if_pos rfl]
        · rw [if_pos (by omega)]
        · rw [if_neg (by omega), if_pos rfl]
        · rw [if_neg (by omega), if_pos rfl]
        · rw [if_pos (by omega)]
        · rw [if_pos (by omega)]
      · obtain ⟨z1, z2, z3, z4, z5, z6⟩ := hQ j (by omega)
        refine ⟨?_, ?_, ?_, ?_, ?_, ?_⟩ <;> rw [if_neg (by omega), if_neg (by omega)]
        · exact z1
        · exact z2
        · exact z3
        · exact z4
        · exact z5
        · exact z6
    · rw [w1, w2, w3, if_neg (by omega), if_neg (by omega), if_neg (by omega), if_neg (by omega), if_neg (by omega), if_neg (by omega)]; exact hK1 y hy
  · rintro - s1 ⟨hF, hQ, hK1⟩
    simp only
    have q92 : s1 92 r = s 92 r := by rw [hF 92 (fun z => by simp at z; omega)]
    refine am_s rfl rfl ?_
    refine s_k 1 rfl rfl ?_
    refine s_iadd rfl ?_
    refine am_s rfl rfl ?_
    refine s_gr rfl g rfl rfl ?_
    refine am_s rfl rfl ?_
    refine s_ia rfl g rfl ⟨by omega, by omega⟩ (by decide) ?_
    refine s_cge rfl ⟨by omega, by omega⟩ ⟨by omega, by omega⟩ (fun c1 => ?_) (fun c1 => absurd c1 (by omega))
    exact am_r rfl rfl ⟨rfl, s1, rfl, hF, hQ, hK1⟩
