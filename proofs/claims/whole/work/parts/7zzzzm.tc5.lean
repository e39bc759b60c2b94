/-! the other one reads rows -/
theorem ix20 {a b c d : Int} (hb : 0 ≤ b ∧ b < 20) (hd : 0 ≤ d ∧ d < 20) (h : ¬ (a = c ∧ b = d)) : 20 * a + b ≠ 20 * c + d := by omega
theorem txE_f {a b : txS} (h : txE a b) : a.f = b.f := h.2.1
theorem tIa_E {T : Int → Int} {z : Int} {i : Nat} {a b : txS} (h : txE a b) : txE (tIa T z i a) (if i = 0 then b else tTk T z 44 b) := by
  unfold tIa
  split
  · exact h
  · exact tTk_E h
theorem t_setBoth {d : Nat} {E : am_Ev} {s : am_S} {a b v : Int} (g : am_Eg E) (ha : 0 ≤ a ∧ a < 20) (hb : 0 ≤ b ∧ b < 20) : am_wp d 166 0 (lv_args 0 [.ref 168, .int (iI a), .int (iI b), .long (lI v)]) [] (am_hp E s) (fun rv h => rv = none ∧ h = am_hp E (am_w (am_w s 170 (20 * a + b) v) 170 (20 * b + a) v)) := by
  refine am_s rfl rfl ?_
  refine s_gr rfl g rfl rfl ?_
  refine s_k 20 rfl rfl ?_
  refine am_s rfl rfl ?_
  refine s_imul rfl ?_
  refine am_s rfl rfl ?_
  refine s_iadd rfl ?_
  refine am_s rfl rfl ?_
  refine s_l2i rfl ?_
  refine s_is rfl g rfl ⟨by omega, by omega⟩ (by decide) ?_
  refine am_s rfl rfl ?_
  refine s_gr rfl g rfl rfl ?_
  refine s_k 20 rfl rfl ?_
  refine am_s rfl rfl ?_
  refine s_imul rfl ?_
  refine am_s rfl rfl ?_
  refine s_iadd rfl ?_
  refine am_s rfl rfl ?_
  refine s_l2i rfl ?_
  refine s_is rfl g rfl ⟨by omega, by omega⟩ (by decide) ?_
  exact am_r rfl rfl ⟨rfl, rfl⟩
theorem t_readRowsF {d : Nat} {E : am_Ev} {s : am_S} {n : Int} {A : txS} {PP : Option Value → am_H → Prop} (g : am_Eg E) {T : Int → Int} {z : Int} (hx : tyH s T z) (hn : 1 ≤ n ∧ n ≤ 20) (en : s 168 6 = n) (eA : txE A (yt s)) (hPP : ∀ s1, am_Fm [170] [7, 8, 9] s s1 → txE (tRs T z 2147483647 (tW 61 n) (tR 61 n) A) (yt s1) → txO z (yt s1) → ((yt s1).f < 0 → (∀ r i : Nat, r < tR 61 n → i < tW 61 n r → s1 170 (20 * (r : Int) + (i : Int)) = tVl T z 2147483647 (tW 61 n) r i A)) → PP none (am_hp E s1)) : am_wp (d + 2) 167 0 (lv_args 0 [.ref 168, .int (iI 0)]) [] (am_hp E s) PP := by
  have z0 := hx.zl
  have o1 := hx.o.1
  have o2 := hx.o.2.1
  have o3 := hx.o.2.2
  unfold yt at o1 o2 o3
  simp only [txS.p, txS.f, txS.u] at o1 o2 o3
  have ez := hx.ez
  refine am_s rfl rfl ?_
  refine s_zeq rfl ⟨by omega, by omega⟩ (fun c1 => ?_) (fun c1 => absurd c1 (by omega))
  refine am_s rfl rfl ?_
  refine s_gi (x := 6) rfl g rfl rfl rfl ?_
  rw [en]
  refine am_s rfl rfl ?_
  refine s_k 0 rfl rfl ?_
  refine am_s rfl rfl ?_
  refine am_lv [(3, .int (iI (((0 : Nat) : Int) : Int))), (2, .int (iI n)), (1, .int (iI 0)), (0, .ref 168)] rfl rfl ⟨rfl, rfl, rfl, rfl, trivial⟩ ?_
  refine s_loop (X := Unit) (fun k _ s1 => am_Fm [170] [7, 8, 9] s s1 ∧ txE (tRs T z 2147483647 (tW 61 n) k A) (yt s1) ∧ txO z (yt s1) ∧ ((yt s1).f < 0 → (∀ r i : Nat, r < k → i < tW 61 n r → s1 170 (20 * (r : Int) + (i : Int)) = tVl T z 2147483647 (tW 61 n) r i A))) (fun k _ => [(3, .int (iI (k : Int))), (2, .int (iI n)), (1, .int (iI 0)), (0, .ref 168)]) (lo := 0) (hi := n.toNat) (x := ()) (Nat.zero_le _) ⟨am_Fm_r _ _ _, eA, hx.o, fun _ r i hr => absurd hr (Nat.not_lt_zero r)⟩ ?_ ?_
  · rintro k - s1 hk0 hk1 ⟨hF1, e1, ox1, hV1⟩ kk
    try simp only at kk ⊢
    have ew : tW 61 n k = n.toNat := by unfold tW; rw [if_pos rfl]
    refine am_s rfl rfl ?_
    refine am_s rfl rfl ?_
    refine s_cge rfl ⟨by omega, by omega⟩ ⟨by omega, by omega⟩ (fun c1 => absurd c1 (by omega)) (fun c1 => ?_)
    refine am_s rfl rfl ?_
    refine s_zeq rfl ⟨by omega, by omega⟩ (fun c2 => ?_) (fun c2 => absurd c2 (by omega))
    refine s_k 0 rfl rfl ?_
    refine am_s rfl rfl ?_
    refine am_s rfl rfl ?_
    refine am_s rfl rfl ?_
    refine am_lv [(5, .int (iI ((0 : Nat) : Int))), (4, .int (iI 0)), (3, .int (iI (k : Int))), (2, .int (iI n)), (1, .int (iI 0)), (0, .ref 168)] rfl rfl ⟨rfl, rfl, rfl, rfl, rfl, rfl, trivial⟩ ?_
    refine s_loop (X := Unit) (fun j _ s2 => am_Fm [170] [7, 8, 9] s s2 ∧ txE (tRw T z 2147483647 j (tRs T z 2147483647 (tW 61 n) k A)) (yt s2) ∧ txO z (yt s2) ∧ ((yt s2).f < 0 → (∀ r i : Nat, r < k → i < tW 61 n r → s2 170 (20 * (r : Int) + (i : Int)) = tVl T z 2147483647 (tW 61 n) r i A) ∧ (∀ i : Nat, i < j → s2 170 (20 * (k : Int) + (i : Int)) = tVl T z 2147483647 (tW 61 n) k i A))) (fun j _ => [(5, .int (iI (j : Int))), (4, .int (iI 0)), (3, .int (iI (k : Int))), (2, .int (iI n)), (1, .int (iI 0)), (0, .ref 168)]) (lo := 0) (hi := tW 61 n k) (x := ()) (Nat.zero_le _) ⟨hF1, e1, ox1, fun y => ⟨hV1 y, fun i hi => absurd hi (Nat.not_lt_zero i)⟩⟩ ?_ ?_
    · rintro j - s2 hj0 hj1 ⟨hF2, e2, ox2, hV2⟩ kk2
      try simp only at kk2 ⊢
      have hx2 := tyH_f hx hF2 (by decide) (by decide) ox2
      have e6 : s2 168 6 = n := (hF2.2 6 (by decide)).trans en
      refine am_s rfl rfl ?_
      refine am_s rfl rfl ?_
      refine s_gi (x := 6) rfl g rfl rfl rfl ?_
      refine s_cge rfl ⟨by omega, by omega⟩ ⟨by omega, by omega⟩ (fun c1 => absurd c1 (by omega)) (fun c1 => ?_)
      refine am_s rfl rfl ?_
      refine am_s rfl rfl ?_
      refine s_cle rfl ⟨by omega, by omega⟩ ⟨by omega, by omega⟩ (fun c2 => ?_) (fun c2 => ?_)
      · have eI : txE (tIa T z j (tRw T z 2147483647 j (tRs T z 2147483647 (tW 61 n) k A))) (yt s2) := by
          have := tIa_E (T := T) (z := z) (i := j) e2
          rw [if_pos (by omega)] at this
          exact this
        refine am_s rfl rfl ?_
        refine s_kl 0 rfl rfl ?_
        refine s_kl 2147483647 rfl rfl ?_
        refine s_cv [_, _] [] rfl g (Or.inl rfl) rfl rfl (Nat.le_of_ble_eq_true rfl) rfl rfl (t_numM (s := s2) (lo := 0) (hi := 2147483647) (PP := fun rv h => ∃ s9 v, h = am_hp E s9 ∧ rv = some (.long (lI v)) ∧ am_Fm [] [7, 8, 9] s2 s9 ∧ txE (tNm T z 0 2147483647 (yt s2)) (yt s9) ∧ txO z (yt s9) ∧ ((yt s9).f < 0 → v = tNv T z (yt s2))) g hx2 ⟨by decide, by decide⟩ ⟨by decide, by decide⟩ (fun s9 v a b c e f => ⟨s9, v, rfl, rfl, a, b, c, f⟩)) ?_
        rintro rv h9 ⟨s5, v, rfl, rfl, hF5, e5, ox5, hv5⟩
        have eN : txE (tRw T z 2147483647 (j + 1) (tRs T z 2147483647 (tW 61 n) k A)) (yt s5) := txE_t (tNm_E eI) e5
        have hval : (yt s5).f < 0 → v = tVl T z 2147483647 (tW 61 n) k j A ∧ (yt s2).f < 0 := fun y => by
          have y4 : (yt s2).f < 0 := tNm_f (by rw [e5.2.1]; exact y)
          have y3 : (tIa T z j (tRw T z 2147483647 j (tRs T z 2147483647 (tW 61 n) k A))).f < 0 := by rw [eI.2.1]; exact y4
          refine ⟨?_, by rw [← e2.2.1]; exact tIa_f y3⟩
          rw [hv5 y]
          unfold tVl tVr
          rw [txE_q eI y3]
        refine am_s rfl rfl ?_
        refine am_s rfl rfl ?_
        refine s_zeq rfl ⟨by omega, by omega⟩ (fun c1 => ?_) (fun c1 => absurd c1 (by omega))
        refine am_s rfl rfl ?_
        refine s_gr rfl g rfl rfl ?_
        refine s_k 20 rfl rfl ?_
        refine am_s rfl rfl ?_
        refine s_imul rfl ?_
        refine am_s rfl rfl ?_
        refine s_iadd rfl ?_
        refine am_s rfl rfl ?_
        refine s_l2i rfl ?_
        refine s_is rfl g rfl ⟨by omega, by omega⟩ (by decide) ?_
        refine s_inc rfl rfl ?_
        refine am_s rfl rfl ?_
        have ej2 : (j : Int) + 1 = ((j + 1 : Nat) : Int) := by omega
        rw [ej2]
        refine am_lv [(5, _), (4, _), (3, _), (2, _), (1, _), (0, _)] rfl rfl ⟨rfl, rfl, rfl, rfl, rfl, rfl, trivial⟩ ?_
        have r6 : ∀ x, x ≠ 20 * (k : Int) + (j : Int) → (am_w s5 170 (20 * (k : Int) + (j : Int)) v) 170 x = s5 170 x := fun x a1 => by rw [am_w_x a1]
        have r5 : s5 170 = s2 170 := hF5.1 170 (by decide)
        have ey6 : yt (am_w s5 170 (20 * (k : Int) + (j : Int)) v) = yt s5 := by unfold yt; rw [am_w_row (by decide)]
        refine kk2 () _ ⟨⟨fun b hb => by rw [am_w_row (fun z => hb (by simp [z]))]; exact ((Fm_t hF2 (Fm_m hF5 (by decide) (fun _ y => y)))).1 b hb, fun y hy => by rw [am_w_row (by decide)]; exact ((Fm_t hF2 (Fm_m hF5 (by decide) (fun _ y => y)))).2 y hy⟩, by rw [ey6]; exact eN, by rw [ey6]; exact ox5, fun y => ?_⟩
        rw [ey6] at y
        obtain ⟨v1, y2⟩ := hval y
        refine ⟨fun r i hr hi => ?_, fun i hi => ?_⟩
        · have q := (hV2 y2).1 r i hr hi
          unfold tW at hi
          rw [if_pos rfl] at hi
          rw [r6 _ (by omega), r5]; exact q
        · by_cases e : i = j
          · subst e; rw [am_w_eq]; exact v1
          · rw [r6 _ (by omega), r5]; exact (hV2 y2).2 i (by omega)
      · refine am_s rfl rfl ?_
        refine s_k 44 rfl rfl ?_
        refine s_cv [_] [] rfl g (Or.inl rfl) rfl rfl (Nat.le_of_ble_eq_true rfl) rfl rfl (t_takeM (s := s2) (PP := fun rv h => rv = none ∧ ∃ s9, h = am_hp E s9 ∧ am_Fm [] [7, 8, 9] s2 s9 ∧ yt s9 = tTk T z 44 (yt s2)) g hx2 (by decide) (fun s9 a b => ⟨rfl, s9, rfl, a, b⟩)) ?_
        rintro rv h9 ⟨rfl, s4, rfl, hF4, e4⟩
        have ox4 : txO z (yt s4) := by rw [e4]; exact tTk_o ox2
        have hx4 := tyH_f hx2 hF4 (by decide) (by decide) ox4
        have eI : txE (tIa T z j (tRw T z 2147483647 j (tRs T z 2147483647 (tW 61 n) k A))) (yt s4) := by
          have := tIa_E (T := T) (z := z) (i := j) e2
          rw [if_neg (by omega), ← e4] at this
          exact this
        refine am_s rfl rfl ?_
        refine s_kl 0 rfl rfl ?_
        refine s_kl 2147483647 rfl rfl ?_
        refine s_cv [_, _] [] rfl g (Or.inl rfl) rfl rfl (Nat.le_of_ble_eq_true rfl) rfl rfl (t_numM (s := s4) (lo := 0) (hi := 2147483647) (PP := fun rv h => ∃ s9 v, h = am_hp E s9 ∧ rv = some (.long (lI v)) ∧ am_Fm [] [7, 8, 9] s4 s9 ∧ txE (tNm T z 0 2147483647 (yt s4)) (yt s9) ∧ txO z (yt s9) ∧ ((yt s9).f < 0 → v = tNv T z (yt s4))) g hx4 ⟨by decide, by decide⟩ ⟨by decide, by decide⟩ (fun s9 v a b c e f => ⟨s9, v, rfl, rfl, a, b, c, f⟩)) ?_
        rintro rv h9 ⟨s5, v, rfl, rfl, hF5, e5, ox5, hv5⟩
        have eN : txE (tRw T z 2147483647 (j + 1) (tRs T z 2147483647 (tW 61 n) k A)) (yt s5) := txE_t (tNm_E eI) e5
        have hval : (yt s5).f < 0 → v = tVl T z 2147483647 (tW 61 n) k j A ∧ (yt s2).f < 0 := fun y => by
          have y4 : (yt s4).f < 0 := tNm_f (by rw [e5.2.1]; exact y)
          have y3 : (tIa T z j (tRw T z 2147483647 j (tRs T z 2147483647 (tW 61 n) k A))).f < 0 := by rw [eI.2.1]; exact y4
          refine ⟨?_, by rw [← e2.2.1]; exact tIa_f y3⟩
          rw [hv5 y]
          unfold tVl tVr
          rw [txE_q eI y3]
        refine am_s rfl rfl ?_
        refine am_s rfl rfl ?_
        refine s_zeq rfl ⟨by omega, by omega⟩ (fun c1 => ?_) (fun c1 => absurd c1 (by omega))
        refine am_s rfl rfl ?_
        refine s_gr rfl g rfl rfl ?_
        refine s_k 20 rfl rfl ?_
        refine am_s rfl rfl ?_
        refine s_imul rfl ?_
        refine am_s rfl rfl ?_
        refine s_iadd rfl ?_
        refine am_s rfl rfl ?_
        refine s_l2i rfl ?_
        refine s_is rfl g rfl ⟨by omega, by omega⟩ (by decide) ?_
        refine s_inc rfl rfl ?_
        refine am_s rfl rfl ?_
        have ej2 : (j : Int) + 1 = ((j + 1 : Nat) : Int) := by omega
        rw [ej2]
        refine am_lv [(5, _), (4, _), (3, _), (2, _), (1, _), (0, _)] rfl rfl ⟨rfl, rfl, rfl, rfl, rfl, rfl, trivial⟩ ?_
        have r6 : ∀ x, x ≠ 20 * (k : Int) + (j : Int) → (am_w s5 170 (20 * (k : Int) + (j : Int)) v) 170 x = s5 170 x := fun x a1 => by rw [am_w_x a1]
        have r5 : s5 170 = s2 170 := (hF5.1 170 (by decide)).trans (hF4.1 170 (by decide))
        have ey6 : yt (am_w s5 170 (20 * (k : Int) + (j : Int)) v) = yt s5 := by unfold yt; rw [am_w_row (by decide)]
        refine kk2 () _ ⟨⟨fun b hb => by rw [am_w_row (fun z => hb (by simp [z]))]; exact ((Fm_t (Fm_t hF2 (Fm_m hF4 (by decide) (fun _ y => y))) (Fm_m hF5 (by decide) (fun _ y => y)))).1 b hb, fun y hy => by rw [am_w_row (by decide)]; exact ((Fm_t (Fm_t hF2 (Fm_m hF4 (by decide) (fun _ y => y))) (Fm_m hF5 (by decide) (fun _ y => y)))).2 y hy⟩, by rw [ey6]; exact eN, by rw [ey6]; exact ox5, fun y => ?_⟩
        rw [ey6] at y
        obtain ⟨v1, y2⟩ := hval y
        refine ⟨fun r i hr hi => ?_, fun i hi => ?_⟩
        · have q := (hV2 y2).1 r i hr hi
          unfold tW at hi
          rw [if_pos rfl] at hi
          rw [r6 _ (by omega), r5]; exact q
        · by_cases e : i = j
          · subst e; rw [am_w_eq]; exact v1
          · rw [r6 _ (by omega), r5]; exact (hV2 y2).2 i (by omega)
    · rintro - s2 ⟨hF2, e2, ox2, hV2⟩
      try simp only
      have hx2 := tyH_f hx hF2 (by decide) (by decide) ox2
      have e6 : s2 168 6 = n := (hF2.2 6 (by decide)).trans en
      refine am_s rfl rfl ?_
      refine am_s rfl rfl ?_
      refine s_gi (x := 6) rfl g rfl rfl rfl ?_
      refine s_cge rfl ⟨by omega, by omega⟩ ⟨by omega, by omega⟩ (fun c1 => ?_) (fun c1 => absurd c1 (by omega))
      refine am_s rfl rfl ?_
      refine s_k 59 rfl rfl ?_
      refine s_cv [_] [] rfl g (Or.inl rfl) rfl rfl (Nat.le_of_ble_eq_true rfl) rfl rfl (t_takeM (s := s2) (PP := fun rv h => rv = none ∧ ∃ s9, h = am_hp E s9 ∧ am_Fm [] [7, 8, 9] s2 s9 ∧ yt s9 = tTk T z 59 (yt s2)) g hx2 (by decide) (fun s9 a b => ⟨rfl, s9, rfl, a, b⟩)) ?_
      rintro rv h9 ⟨rfl, s3, rfl, hF3, e3⟩
      refine s_inc rfl rfl ?_
      refine am_s rfl rfl ?_
      have ek2 : (k : Int) + 1 = ((k + 1 : Nat) : Int) := by omega
      rw [ek2]
      refine am_lv [(3, _), (2, _), (1, _), (0, _)] rfl rfl ⟨rfl, rfl, rfl, rfl, trivial⟩ ?_
      have r3 : s3 170 = s2 170 := hF3.1 170 (by decide)
      refine kk () s3 ⟨Fm_t hF2 (Fm_m hF3 (by decide) (fun _ y => y)), by rw [e3]; exact tTk_E e2, by rw [e3]; exact tTk_o ox2, fun y r i hr hi => ?_⟩
      have y2 : (yt s2).f < 0 := tTk_f (by rw [← e3]; exact y)
      rw [r3]
      by_cases e : r = k
      · subst e; exact (hV2 y2).2 i hi
      · exact (hV2 y2).1 r i (by omega) hi
  · rintro - s1 ⟨hF1, e1, ox1, hV1⟩
    try simp only
    have eR : tR 61 n = n.toNat := by unfold tR; rw [if_neg (by decide)]
    refine am_s rfl rfl ?_
    refine am_s rfl rfl ?_
    refine s_cge rfl ⟨by omega, by omega⟩ ⟨by omega, by omega⟩ (fun c1 => ?_) (fun c1 => absurd c1 (by omega))
    exact am_r rfl rfl (hPP s1 hF1 (by rw [eR]; exact e1) ox1 (by rw [eR]; exact hV1))
theorem t_readRowsH {d : Nat} {E : am_Ev} {s : am_S} {n : Int} {A : txS} {PP : Option Value → am_H → Prop} (g : am_Eg E) {T : Int → Int} {z : Int} (hx : tyH s T z) (hn : 1 ≤ n ∧ n ≤ 20) (en : s 168 6 = n) (eA : txE A (yt s)) (hPP : ∀ s1, am_Fm [170] [7, 8, 9] s s1 → txE (tRs T z 2147483647 (tW 94 n) (tR 94 n) A) (yt s1) → txO z (yt s1) → ((yt s1).f < 0 → (∀ r i : Nat, r < tR 94 n → i < tW 94 n r → s1 170 (20 * (r : Int) + ((r : Int) + 1 + (i : Int))) = tVl T z 2147483647 (tW 94 n) r i A ∧ s1 170 (20 * ((r : Int) + 1 + (i : Int)) + (r : Int)) = tVl T z 2147483647 (tW 94 n) r i A)) → (∀ r : Nat, r < 20 → s1 170 (20 * (r : Int) + (r : Int)) = s 170 (20 * (r : Int) + (r : Int))) → PP none (am_hp E s1)) : am_wp (d + 2) 167 0 (lv_args 0 [.ref 168, .int (iI 1)]) [] (am_hp E s) PP := by
  have z0 := hx.zl
  have o1 := hx.o.1
  have o2 := hx.o.2.1
  have o3 := hx.o.2.2
  unfold yt at o1 o2 o3
  simp only [txS.p, txS.f, txS.u] at o1 o2 o3
  have ez := hx.ez
  refine am_s rfl rfl ?_
  refine s_zeq rfl ⟨by omega, by omega⟩ (fun c1 => absurd c1 (by omega)) (fun c1 => ?_)
  refine am_s rfl rfl ?_
  refine s_gi (x := 6) rfl g rfl rfl rfl ?_
  refine s_k 1 rfl rfl ?_
  refine s_isub rfl ?_
  refine am_s rfl rfl ?_
  rw [en]
  refine am_s rfl rfl ?_
  refine s_k 0 rfl rfl ?_
  refine am_s rfl rfl ?_
  refine am_lv [(3, .int (iI (((0 : Nat) : Int) : Int))), (2, .int (iI (n - 1))), (1, .int (iI 1)), (0, .ref 168)] rfl rfl ⟨rfl, rfl, rfl, rfl, trivial⟩ ?_
  refine s_loop (X := Unit) (fun k _ s1 => am_Fm [170] [7, 8, 9] s s1 ∧ txE (tRs T z 2147483647 (tW 94 n) k A) (yt s1) ∧ txO z (yt s1) ∧ ((yt s1).f < 0 → (∀ r i : Nat, r < k → i < tW 94 n r → s1 170 (20 * (r : Int) + ((r : Int) + 1 + (i : Int))) = tVl T z 2147483647 (tW 94 n) r i A ∧ s1 170 (20 * ((r : Int) + 1 + (i : Int)) + (r : Int)) = tVl T z 2147483647 (tW 94 n) r i A)) ∧ (∀ r : Nat, r < 20 → s1 170 (20 * (r : Int) + (r : Int)) = s 170 (20 * (r : Int) + (r : Int)))) (fun k _ => [(3, .int (iI (k : Int))), (2, .int (iI (n - 1))), (1, .int (iI 1)), (0, .ref 168)]) (lo := 0) (hi := (n - 1).toNat) (x := ()) (Nat.zero_le _) ⟨am_Fm_r _ _ _, eA, hx.o, fun _ r i hr => absurd hr (Nat.not_lt_zero r), fun _ _ => rfl⟩ ?_ ?_
  · rintro k - s1 hk0 hk1 ⟨hF1, e1, ox1, hV1, hD1⟩ kk
    try simp only at kk ⊢
    have ew : tW 94 n k = (n - 1 - (k : Int)).toNat := by unfold tW; rw [if_neg (by decide), if_pos rfl]
    refine am_s rfl rfl ?_
    refine am_s rfl rfl ?_
    refine s_cge rfl ⟨by omega, by omega⟩ ⟨by omega, by omega⟩ (fun c1 => absurd c1 (by omega)) (fun c1 => ?_)
    refine am_s rfl rfl ?_
    refine s_zeq rfl ⟨by omega, by omega⟩ (fun c2 => absurd c2 (by omega)) (fun c2 => ?_)
    refine am_s rfl rfl ?_
    refine s_k 1 rfl rfl ?_
    refine s_iadd rfl ?_
    refine am_s rfl rfl ?_
    refine am_s rfl rfl ?_
    refine am_s rfl rfl ?_
    refine am_s rfl rfl ?_
    have ef : (k : Int) + 1 = ((k + 1 : Nat) : Int) := by omega
    rw [ef]
    refine am_lv [(5, .int (iI ((k + 1 + 0 : Nat) : Int))), (4, .int (iI ((k + 1 : Nat) : Int))), (3, .int (iI (k : Int))), (2, .int (iI (n - 1))), (1, .int (iI 1)), (0, .ref 168)] rfl rfl ⟨rfl, rfl, rfl, rfl, rfl, rfl, trivial⟩ ?_
    refine s_loop (X := Unit) (fun j _ s2 => am_Fm [170] [7, 8, 9] s s2 ∧ txE (tRw T z 2147483647 j (tRs T z 2147483647 (tW 94 n) k A)) (yt s2) ∧ txO z (yt s2) ∧ ((yt s2).f < 0 → (∀ r i : Nat, r < k → i < tW 94 n r → s2 170 (20 * (r : Int) + ((r : Int) + 1 + (i : Int))) = tVl T z 2147483647 (tW 94 n) r i A ∧ s2 170 (20 * ((r : Int) + 1 + (i : Int)) + (r : Int)) = tVl T z 2147483647 (tW 94 n) r i A) ∧ (∀ i : Nat, i < j → s2 170 (20 * (k : Int) + ((k : Int) + 1 + (i : Int))) = tVl T z 2147483647 (tW 94 n) k i A ∧ s2 170 (20 * ((k : Int) + 1 + (i : Int)) + (k : Int)) = tVl T z 2147483647 (tW 94 n) k i A)) ∧ (∀ r : Nat, r < 20 → s2 170 (20 * (r : Int) + (r : Int)) = s 170 (20 * (r : Int) + (r : Int)))) (fun j _ => [(5, .int (iI ((k + 1 + j : Nat) : Int))), (4, .int (iI ((k + 1 : Nat) : Int))), (3, .int (iI (k : Int))), (2, .int (iI (n - 1))), (1, .int (iI 1)), (0, .ref 168)]) (lo := 0) (hi := tW 94 n k) (x := ()) (Nat.zero_le _) ⟨hF1, e1, ox1, fun y => ⟨hV1 y, fun i hi => absurd hi (Nat.not_lt_zero i)⟩, hD1⟩ ?_ ?_
    · rintro j - s2 hj0 hj1 ⟨hF2, e2, ox2, hV2, hD2⟩ kk2
      try simp only at kk2 ⊢
      have hx2 := tyH_f hx hF2 (by decide) (by decide) ox2
      have e6 : s2 168 6 = n := (hF2.2 6 (by decide)).trans en
      refine am_s rfl rfl ?_
      refine am_s rfl rfl ?_
      refine s_gi (x := 6) rfl g rfl rfl rfl ?_
      refine s_cge rfl ⟨by omega, by omega⟩ ⟨by omega, by omega⟩ (fun c1 => absurd c1 (by omega)) (fun c1 => ?_)
      refine am_s rfl rfl ?_
      refine am_s rfl rfl ?_
      refine s_cle rfl ⟨by omega, by omega⟩ ⟨by omega, by omega⟩ (fun c2 => ?_) (fun c2 => ?_)
      · have eI : txE (tIa T z j (tRw T z 2147483647 j (tRs T z 2147483647 (tW 94 n) k A))) (yt s2) := by
          have := tIa_E (T := T) (z := z) (i := j) e2
          rw [if_pos (by omega)] at this
          exact this
        refine am_s rfl rfl ?_
        refine s_kl 0 rfl rfl ?_
        refine s_kl 2147483647 rfl rfl ?_
        refine s_cv [_, _] [] rfl g (Or.inl rfl) rfl rfl (Nat.le_of_ble_eq_true rfl) rfl rfl (t_numM (s := s2) (lo := 0) (hi := 2147483647) (PP := fun rv h => ∃ s9 v, h = am_hp E s9 ∧ rv = some (.long (lI v)) ∧ am_Fm [] [7, 8, 9] s2 s9 ∧ txE (tNm T z 0 2147483647 (yt s2)) (yt s9) ∧ txO z (yt s9) ∧ ((yt s9).f < 0 → v = tNv T z (yt s2))) g hx2 ⟨by decide, by decide⟩ ⟨by decide, by decide⟩ (fun s9 v a b c e f => ⟨s9, v, rfl, rfl, a, b, c, f⟩)) ?_
        rintro rv h9 ⟨s5, v, rfl, rfl, hF5, e5, ox5, hv5⟩
        have eN : txE (tRw T z 2147483647 (j + 1) (tRs T z 2147483647 (tW 94 n) k A)) (yt s5) := txE_t (tNm_E eI) e5
        have hval : (yt s5).f < 0 → v = tVl T z 2147483647 (tW 94 n) k j A ∧ (yt s2).f < 0 := fun y => by
          have y4 : (yt s2).f < 0 := tNm_f (by rw [e5.2.1]; exact y)
          have y3 : (tIa T z j (tRw T z 2147483647 j (tRs T z 2147483647 (tW 94 n) k A))).f < 0 := by rw [eI.2.1]; exact y4
          refine ⟨?_, by rw [← e2.2.1]; exact tIa_f y3⟩
          rw [hv5 y]
          unfold tVl tVr
          rw [txE_q eI y3]
        refine am_s rfl rfl ?_
        refine am_s rfl rfl ?_
        refine s_zeq rfl ⟨by omega, by omega⟩ (fun c1 => absurd c1 (by omega)) (fun c1 => ?_)
        refine am_s rfl rfl ?_
        refine am_s rfl rfl ?_
        refine am_s rfl rfl ?_
        refine am_s rfl rfl ?_
        refine s_cv [_, _, _] [] rfl g (Or.inl rfl) rfl rfl (Nat.le_of_ble_eq_true rfl) rfl rfl (t_setBoth (s := s5) (a := (k : Int)) (b := ((k + 1 + j : Nat) : Int)) (v := v) g (by omega) (by omega)) ?_
        rintro rv h9 ⟨rfl, rfl⟩
        refine am_s rfl rfl ?_
        refine s_inc rfl rfl ?_
        refine am_s rfl rfl ?_
        have ej2 : ((k + 1 + j : Nat) : Int) + 1 = ((k + 1 + (j + 1) : Nat) : Int) := by omega
        rw [ej2]
        refine am_lv [(5, _), (4, _), (3, _), (2, _), (1, _), (0, _)] rfl rfl ⟨rfl, rfl, rfl, rfl, rfl, rfl, trivial⟩ ?_
        have r6 : ∀ x, x ≠ 20 * (k : Int) + ((k + 1 + j : Nat) : Int) → x ≠ 20 * ((k + 1 + j : Nat) : Int) + (k : Int) → (am_w (am_w s5 170 (20 * (k : Int) + ((k + 1 + j : Nat) : Int)) v) 170 (20 * ((k + 1 + j : Nat) : Int) + (k : Int)) v) 170 x = s5 170 x := fun x a1 a2 => by rw [am_w_x a2, am_w_x a1]
        have r5 : s5 170 = s2 170 := hF5.1 170 (by decide)
        have ey6 : yt (am_w (am_w s5 170 (20 * (k : Int) + ((k + 1 + j : Nat) : Int)) v) 170 (20 * ((k + 1 + j : Nat) : Int) + (k : Int)) v) = yt s5 := by unfold yt; rw [am_w_row (by decide), am_w_row (by decide)]
        refine kk2 () _ ⟨⟨fun b hb => by rw [am_w_row (fun z => hb (by simp [z])), am_w_row (fun z => hb (by simp [z]))]; exact ((Fm_t hF2 (Fm_m hF5 (by decide) (fun _ y => y)))).1 b hb, fun y hy => by rw [am_w_row (by decide), am_w_row (by decide)]; exact ((Fm_t hF2 (Fm_m hF5 (by decide) (fun _ y => y)))).2 y hy⟩, by rw [ey6]; exact eN, by rw [ey6]; exact ox5, fun y => ?_, fun r hr => ?_⟩
        · rw [ey6] at y
          obtain ⟨v1, y2⟩ := hval y
          refine ⟨fun r i hr hi => ?_, fun i hi => ?_⟩
          · have q := (hV2 y2).1 r i hr hi
            unfold tW at hi
            rw [if_neg (by decide), if_pos rfl] at hi
            rw [r6 _ (ix20 (by omega) (by omega) (by omega)) (ix20 (by omega) (by omega) (by omega)), r6 _ (ix20 (by omega) (by omega) (by omega)) (ix20 (by omega) (by omega) (by omega)), r5]; exact q
          · by_cases e : i = j
            · subst e
              refine ⟨?_, ?_⟩
              · by_cases e2 : 20 * (k : Int) + ((k : Int) + 1 + (i : Int)) = 20 * ((k + 1 + i : Nat) : Int) + (k : Int)
                · omega
                · rw [am_w_x e2, show 20 * (k : Int) + ((k : Int) + 1 + (i : Int)) = 20 * (k : Int) + ((k + 1 + i : Nat) : Int) by omega, am_w_eq]; exact v1
              · rw [show 20 * ((k : Int) + 1 + (i : Int)) + (k : Int) = 20 * ((k + 1 + i : Nat) : Int) + (k : Int) by omega, am_w_eq]; exact v1
            · have q := (hV2 y2).2 i (by omega)
              rw [r6 _ (ix20 (by omega) (by omega) (by omega)) (ix20 (by omega) (by omega) (by omega)), r6 _ (ix20 (by omega) (by omega) (by omega)) (ix20 (by omega) (by omega) (by omega)), r5]; exact q
        · rw [r6 _ (ix20 (by omega) (by omega) (by omega)) (ix20 (by omega) (by omega) (by omega)), r5]; exact hD2 r hr
      · refine am_s rfl rfl ?_
        refine s_k 44 rfl rfl ?_
        refine s_cv [_] [] rfl g (Or.inl rfl) rfl rfl (Nat.le_of_ble_eq_true rfl) rfl rfl (t_takeM (s := s2) (PP := fun rv h => rv = none ∧ ∃ s9, h = am_hp E s9 ∧ am_Fm [] [7, 8, 9] s2 s9 ∧ yt s9 = tTk T z 44 (yt s2)) g hx2 (by decide) (fun s9 a b => ⟨rfl, s9, rfl, a, b⟩)) ?_
        rintro rv h9 ⟨rfl, s4, rfl, hF4, e4⟩
        have ox4 : txO z (yt s4) := by rw [e4]; exact tTk_o ox2
        have hx4 := tyH_f hx2 hF4 (by decide) (by decide) ox4
        have eI : txE (tIa T z j (tRw T z 2147483647 j (tRs T z 2147483647 (tW 94 n) k A))) (yt s4) := by
          have := tIa_E (T := T) (z := z) (i := j) e2
          rw [if_neg (by omega), ← e4] at this
          exact this
        refine am_s rfl rfl ?_
        refine s_kl 0 rfl rfl ?_
        refine s_kl 2147483647 rfl rfl ?_
        refine s_cv [_, _] [] rfl g (Or.inl rfl) rfl rfl (Nat.le_of_ble_eq_true rfl) rfl rfl (t_numM (s := s4) (lo := 0) (hi := 2147483647) (PP := fun rv h => ∃ s9 v, h = am_hp E s9 ∧ rv = some (.long (lI v)) ∧ am_Fm [] [7, 8, 9] s4 s9 ∧ txE (tNm T z 0 2147483647 (yt s4)) (yt s9) ∧ txO z (yt s9) ∧ ((yt s9).f < 0 → v = tNv T z (yt s4))) g hx4 ⟨by decide, by decide⟩ ⟨by decide, by decide⟩ (fun s9 v a b c e f => ⟨s9, v, rfl, rfl, a, b, c, f⟩)) ?_
        rintro rv h9 ⟨s5, v, rfl, rfl, hF5, e5, ox5, hv5⟩
        have eN : txE (tRw T z 2147483647 (j + 1) (tRs T z 2147483647 (tW 94 n) k A)) (yt s5) := txE_t (tNm_E eI) e5
        have hval : (yt s5).f < 0 → v = tVl T z 2147483647 (tW 94 n) k j A ∧ (yt s2).f < 0 := fun y => by
          have y4 : (yt s4).f < 0 := tNm_f (by rw [e5.2.1]; exact y)
          have y3 : (tIa T z j (tRw T z 2147483647 j (tRs T z 2147483647 (tW 94 n) k A))).f < 0 := by rw [eI.2.1]; exact y4
          refine ⟨?_, by rw [← e2.2.1]; exact tIa_f y3⟩
          rw [hv5 y]
          unfold tVl tVr
          rw [txE_q eI y3]
        refine am_s rfl rfl ?_
        refine am_s rfl rfl ?_
        refine s_zeq rfl ⟨by omega, by omega⟩ (fun c1 => absurd c1 (by omega)) (fun c1 => ?_)
        refine am_s rfl rfl ?_
        refine am_s rfl rfl ?_
        refine am_s rfl rfl ?_
        refine am_s rfl rfl ?_
        refine s_cv [_, _, _] [] rfl g (Or.inl rfl) rfl rfl (Nat.le_of_ble_eq_true rfl) rfl rfl (t_setBoth (s := s5) (a := (k : Int)) (b := ((k + 1 + j : Nat) : Int)) (v := v) g (by omega) (by omega)) ?_
        rintro rv h9 ⟨rfl, rfl⟩
        refine am_s rfl rfl ?_
        refine s_inc rfl rfl ?_
        refine am_s rfl rfl ?_
        have ej2 : ((k + 1 + j : Nat) : Int) + 1 = ((k + 1 + (j + 1) : Nat) : Int) := by omega
        rw [ej2]
        refine am_lv [(5, _), (4, _), (3, _), (2, _), (1, _), (0, _)] rfl rfl ⟨rfl, rfl, rfl, rfl, rfl, rfl, trivial⟩ ?_
        have r6 : ∀ x, x ≠ 20 * (k : Int) + ((k + 1 + j : Nat) : Int) → x ≠ 20 * ((k + 1 + j : Nat) : Int) + (k : Int) → (am_w (am_w s5 170 (20 * (k : Int) + ((k + 1 + j : Nat) : Int)) v) 170 (20 * ((k + 1 + j : Nat) : Int) + (k : Int)) v) 170 x = s5 170 x := fun x a1 a2 => by rw [am_w_x a2, am_w_x a1]
        have r5 : s5 170 = s2 170 := (hF5.1 170 (by decide)).trans (hF4.1 170 (by decide))
        have ey6 : yt (am_w (am_w s5 170 (20 * (k : Int) + ((k + 1 + j : Nat) : Int)) v) 170 (20 * ((k + 1 + j : Nat) : Int) + (k : Int)) v) = yt s5 := by unfold yt; rw [am_w_row (by decide), am_w_row (by decide)]
        refine kk2 () _ ⟨⟨fun b hb => by rw [am_w_row (fun z => hb (by simp [z])), am_w_row (fun z => hb (by simp [z]))]; exact ((Fm_t (Fm_t hF2 (Fm_m hF4 (by decide) (fun _ y => y))) (Fm_m hF5 (by decide) (fun _ y => y)))).1 b hb, fun y hy => by rw [am_w_row (by decide), am_w_row (by decide)]; exact ((Fm_t (Fm_t hF2 (Fm_m hF4 (by decide) (fun _ y => y))) (Fm_m hF5 (by decide) (fun _ y => y)))).2 y hy⟩, by rw [ey6]; exact eN, by rw [ey6]; exact ox5, fun y => ?_, fun r hr => ?_⟩
        · rw [ey6] at y
          obtain ⟨v1, y2⟩ := hval y
          refine ⟨fun r i hr hi => ?_, fun i hi => ?_⟩
          · have q := (hV2 y2).1 r i hr hi
            unfold tW at hi
            rw [if_neg (by decide), if_pos rfl] at hi
            rw [r6 _ (ix20 (by omega) (by omega) (by omega)) (ix20 (by omega) (by omega) (by omega)), r6 _ (ix20 (by omega) (by omega) (by omega)) (ix20 (by omega) (by omega) (by omega)), r5]; exact q
          · by_cases e : i = j
            · subst e
              refine ⟨?_, ?_⟩
              · by_cases e2 : 20 * (k : Int) + ((k : Int) + 1 + (i : Int)) = 20 * ((k + 1 + i : Nat) : Int) + (k : Int)
                · omega
                · rw [am_w_x e2, show 20 * (k : Int) + ((k : Int) + 1 + (i : Int)) = 20 * (k : Int) + ((k + 1 + i : Nat) : Int) by omega, am_w_eq]; exact v1
              · rw [show 20 * ((k : Int) + 1 + (i : Int)) + (k : Int) = 20 * ((k + 1 + i : Nat) : Int) + (k : Int) by omega, am_w_eq]; exact v1
            · have q := (hV2 y2).2 i (by omega)
              rw [r6 _ (ix20 (by omega) (by omega) (by omega)) (ix20 (by omega) (by omega) (by omega)), r6 _ (ix20 (by omega) (by omega) (by omega)) (ix20 (by omega) (by omega) (by omega)), r5]; exact q
        · rw [r6 _ (ix20 (by omega) (by omega) (by omega)) (ix20 (by omega) (by omega) (by omega)), r5]; exact hD2 r hr
    · rintro - s2 ⟨hF2, e2, ox2, hV2, hD2⟩
      try simp only
      have hx2 := tyH_f hx hF2 (by decide) (by decide) ox2
      have e6 : s2 168 6 = n := (hF2.2 6 (by decide)).trans en
      refine am_s rfl rfl ?_
      refine am_s rfl rfl ?_
      refine s_gi (x := 6) rfl g rfl rfl rfl ?_
      refine s_cge rfl ⟨by omega, by omega⟩ ⟨by omega, by omega⟩ (fun c1 => ?_) (fun c1 => absurd c1 (by omega))
      refine am_s rfl rfl ?_
      refine s_k 59 rfl rfl ?_
      refine s_cv [_] [] rfl g (Or.inl rfl) rfl rfl (Nat.le_of_ble_eq_true rfl) rfl rfl (t_takeM (s := s2) (PP := fun rv h => rv = none ∧ ∃ s9, h = am_hp E s9 ∧ am_Fm [] [7, 8, 9] s2 s9 ∧ yt s9 = tTk T z 59 (yt s2)) g hx2 (by decide) (fun s9 a b => ⟨rfl, s9, rfl, a, b⟩)) ?_
      rintro rv h9 ⟨rfl, s3, rfl, hF3, e3⟩
      refine s_inc rfl rfl ?_
      refine am_s rfl rfl ?_
      have ek2 : (k : Int) + 1 = ((k + 1 : Nat) : Int) := by omega
      rw [ek2]
      refine am_lv [(3, _), (2, _), (1, _), (0, _)] rfl rfl ⟨rfl, rfl, rfl, rfl, trivial⟩ ?_
      have r3 : s3 170 = s2 170 := hF3.1 170 (by decide)
      refine kk () s3 ⟨Fm_t hF2 (Fm_m hF3 (by decide) (fun _ y => y)), by rw [e3]; exact tTk_E e2, by rw [e3]; exact tTk_o ox2, fun y r i hr hi => ?_, fun r hr => by rw [r3]; exact hD2 r hr⟩
      have y2 : (yt s2).f < 0 := tTk_f (by rw [← e3]; exact y)
      rw [r3]
      by_cases e : r = k
      · subst e; exact (hV2 y2).2 i hi
      · exact (hV2 y2).1 r i (by omega) hi
  · rintro - s1 ⟨hF1, e1, ox1, hV1, hD1⟩
    try simp only
    have eR : tR 94 n = (n - 1).toNat := by unfold tR; rw [if_pos rfl]
    refine am_s rfl rfl ?_
    refine am_s rfl rfl ?_
    refine s_cge rfl ⟨by omega, by omega⟩ ⟨by omega, by omega⟩ (fun c1 => ?_) (fun c1 => absurd c1 (by omega))
    exact am_r rfl rfl (hPP s1 hF1 (by rw [eR]; exact e1) ox1 (by rw [eR]; exact hV1) hD1)
