/-! the other one reads all points -/
theorem t_readPoints {d : Nat} {E : am_Ev} {s : am_S} {fm st n : Int} {A : txS} {PP : Option Value → am_H → Prop} (g : am_Eg E) {T : Int → Int} {z : Int} (hx : tyH s T z) (hst : (st = 1 ∧ fm = 42) ∨ (st = 0 ∧ fm = 43)) (hn : 1 ≤ n ∧ n ≤ 20) (en : s 168 6 = n) (eA : txE A (yt s)) (oA : txO z A) (hPP : ∀ s1, am_Fm [170, 172, 173] [7, 8, 9] s s1 → txE (tRs T z 1000000 (tW fm n) (tR fm n) A) (yt s1) → txO z (yt s1) → (txG (yt s1) → (∀ p q : Nat, p < q → q < n.toNat → dR fm (fun r i => tVl T z 1000000 (tW fm n) r i A) p q (s1 170 (20 * (p : Int) + (q : Int))) ∧ s1 170 (20 * (q : Int) + (p : Int)) = s1 170 (20 * (p : Int) + (q : Int))) ∧ (∀ r : Nat, r < 20 → s1 170 (20 * (r : Int) + (r : Int)) = s 170 (20 * (r : Int) + (r : Int)))) → PP none (am_hp E s1)) : am_wp (d + 2) 170 0 (lv_args 0 [.ref 168, .int (iI st)]) [] (am_hp E s) PP := by
  have z0 := hx.zl
  have o1 := hx.o.1
  have o2 := hx.o.2.1
  have o3 := hx.o.2.2
  unfold yt at o1 o2 o3
  simp only [txS.p, txS.f, txS.u] at o1 o2 o3
  have ez := hx.ez
  refine s_k 0 rfl rfl ?_
  refine am_s rfl rfl ?_
  refine am_lv [(2, .int (iI (((0 : Nat) : Int) : Int))), (1, .int (iI st)), (0, .ref 168)] rfl rfl ⟨rfl, rfl, rfl, trivial⟩ ?_
  refine s_loop (X := Unit) (fun k _ s1 => am_Fm [172, 173] [7, 8, 9] s s1 ∧ txE (tRs T z 1000000 (tW fm n) k A) (yt s1) ∧ txO z (yt s1) ∧ ((yt s1).f < 0 → (∀ r : Nat, r < k → s1 172 (r : Int) = tVl T z 1000000 (tW fm n) r 0 A ∧ s1 173 (r : Int) = tVl T z 1000000 (tW fm n) r 1 A))) (fun k _ => [(2, .int (iI (k : Int))), (1, .int (iI st)), (0, .ref 168)]) (lo := 0) (hi := n.toNat) (x := ()) (Nat.zero_le _) ⟨am_Fm_r _ _ _, eA, hx.o, fun _ r hr => absurd hr (Nat.not_lt_zero r)⟩ ?_ ?_
  · rintro k - s1 hk0 hk1 ⟨hF1, e1, ox1, hV1⟩ kk
    try simp only at kk ⊢
    have hx1 := tyH_f hx hF1 (by decide) (by decide) ox1
    have e6 : s1 168 6 = n := (hF1.2 6 (by decide)).trans en
    have ew : tW fm n k = 2 := by unfold tW; rw [if_neg (by omega), if_neg (by omega)]
    refine am_s rfl rfl ?_
    refine am_s rfl rfl ?_
    refine s_gi (x := 6) rfl g rfl rfl rfl ?_
    refine s_cge rfl ⟨by omega, by omega⟩ ⟨by omega, by omega⟩ (fun c1 => absurd c1 (by omega)) (fun c1 => ?_)
    refine am_s rfl rfl ?_
    refine s_gr rfl g rfl rfl ?_
    refine am_s rfl rfl ?_
    refine am_s rfl rfl ?_
    refine s_kl 0 rfl rfl ?_
    refine s_kl 1000000 rfl rfl ?_
    refine s_cv [_, _] [_, _] rfl g (Or.inl rfl) rfl rfl (Nat.le_of_ble_eq_true rfl) rfl rfl (t_numM (s := s1) (lo := 0) (hi := 1000000) (PP := fun rv h => ∃ s9 v, h = am_hp E s9 ∧ rv = some (.long (lI v)) ∧ am_Fm [] [7, 8, 9] s1 s9 ∧ txE (tNm T z 0 1000000 (yt s1)) (yt s9) ∧ txO z (yt s9) ∧ ((yt s9).f < 0 → v = tNv T z (yt s1))) g hx1 ⟨by decide, by decide⟩ ⟨by decide, by decide⟩ (fun s9 v a b c e f => ⟨s9, v, rfl, rfl, a, b, c, f⟩)) ?_
    rintro rv h9 ⟨s2, v, rfl, rfl, hF2, e2, ox2, hv2⟩
    have E2 : txE (tRw T z 1000000 1 (tRs T z 1000000 (tW fm n) k A)) (yt s2) := txE_t (tNm_E e1) e2
    refine s_ls rfl g rfl ⟨by omega, by omega⟩ (by decide) ?_
    refine am_s rfl rfl ?_
    refine s_k 44 rfl rfl ?_
    have ey3 : yt (am_w s2 172 (k : Int) v) = yt s2 := by unfold yt; rw [am_w_row (by decide)]
    have hF3 : am_Fm [172, 173] [7, 8, 9] s (am_w s2 172 (k : Int) v) := ⟨fun b hb => by rw [am_w_row (fun z => hb (by simp [z]))]; exact (Fm_t hF1 (Fm_m hF2 (by decide) (fun _ y => y))).1 b hb, fun y hy => by rw [am_w_row (by decide)]; exact (Fm_t hF1 (Fm_m hF2 (by decide) (fun _ y => y))).2 y hy⟩
    have hx3 := tyH_f hx hF3 (by decide) (by decide) (by rw [ey3]; exact ox2)
    refine s_cv [_] [] rfl g (Or.inl rfl) rfl rfl (Nat.le_of_ble_eq_true rfl) rfl rfl (t_takeM (s := (am_w s2 172 (k : Int) v)) (PP := fun rv h => rv = none ∧ ∃ s9, h = am_hp E s9 ∧ am_Fm [] [7, 8, 9] (am_w s2 172 (k : Int) v) s9 ∧ yt s9 = tTk T z 44 (yt (am_w s2 172 (k : Int) v))) g hx3 (by decide) (fun s9 a b => ⟨rfl, s9, rfl, a, b⟩)) ?_
    rintro rv h9 ⟨rfl, s4, rfl, hF4, e4⟩
    rw [ey3] at e4
    have ox4 : txO z (yt s4) := by rw [e4]; exact tTk_o ox2
    have hx4 := tyH_f hx3 hF4 (by decide) (by decide) ox4
    have E4 : txE (tIa T z 1 (tRw T z 1000000 1 (tRs T z 1000000 (tW fm n) k A))) (yt s4) := by rw [e4]; exact tTk_E E2
    refine am_s rfl rfl ?_
    refine s_gr rfl g rfl rfl ?_
    refine am_s rfl rfl ?_
    refine am_s rfl rfl ?_
    refine s_kl 0 rfl rfl ?_
    refine s_kl 1000000 rfl rfl ?_
    refine s_cv [_, _] [_, _] rfl g (Or.inl rfl) rfl rfl (Nat.le_of_ble_eq_true rfl) rfl rfl (t_numM (s := s4) (lo := 0) (hi := 1000000) (PP := fun rv h => ∃ s9 v, h = am_hp E s9 ∧ rv = some (.long (lI v)) ∧ am_Fm [] [7, 8, 9] s4 s9 ∧ txE (tNm T z 0 1000000 (yt s4)) (yt s9) ∧ txO z (yt s9) ∧ ((yt s9).f < 0 → v = tNv T z (yt s4))) g hx4 ⟨by decide, by decide⟩ ⟨by decide, by decide⟩ (fun s9 v a b c e f => ⟨s9, v, rfl, rfl, a, b, c, f⟩)) ?_
    rintro rv h9 ⟨s5, u, rfl, rfl, hF5, e5, ox5, hv5⟩
    have E5 : txE (tRw T z 1000000 2 (tRs T z 1000000 (tW fm n) k A)) (yt s5) := txE_t (tNm_E E4) e5
    refine s_ls rfl g rfl ⟨by omega, by omega⟩ (by decide) ?_
    refine am_s rfl rfl ?_
    refine s_k 59 rfl rfl ?_
    have ey6 : yt (am_w s5 173 (k : Int) u) = yt s5 := by unfold yt; rw [am_w_row (by decide)]
    have hF6 : am_Fm [172, 173] [7, 8, 9] s (am_w s5 173 (k : Int) u) := ⟨fun b hb => by rw [am_w_row (fun z => hb (by simp [z]))]; exact (Fm_t (Fm_t hF3 (Fm_m hF4 (by decide) (fun _ y => y))) (Fm_m hF5 (by decide) (fun _ y => y))).1 b hb, fun y hy => by rw [am_w_row (by decide)]; exact (Fm_t (Fm_t hF3 (Fm_m hF4 (by decide) (fun _ y => y))) (Fm_m hF5 (by decide) (fun _ y => y))).2 y hy⟩
    have hx6 := tyH_f hx hF6 (by decide) (by decide) (by rw [ey6]; exact ox5)
    refine s_cv [_] [] rfl g (Or.inl rfl) rfl rfl (Nat.le_of_ble_eq_true rfl) rfl rfl (t_takeM (s := (am_w s5 173 (k : Int) u)) (PP := fun rv h => rv = none ∧ ∃ s9, h = am_hp E s9 ∧ am_Fm [] [7, 8, 9] (am_w s5 173 (k : Int) u) s9 ∧ yt s9 = tTk T z 59 (yt (am_w s5 173 (k : Int) u))) g hx6 (by decide) (fun s9 a b => ⟨rfl, s9, rfl, a, b⟩)) ?_
    rintro rv h9 ⟨rfl, s7, rfl, hF7, e7⟩
    rw [ey6] at e7
    refine s_inc rfl rfl ?_
    refine am_s rfl rfl ?_
    have ek2 : (k : Int) + 1 = ((k + 1 : Nat) : Int) := by omega
    rw [ek2]
    refine am_lv [(2, _), (1, _), (0, _)] rfl rfl ⟨rfl, rfl, rfl, trivial⟩ ?_
    refine kk () s7 ⟨Fm_t hF6 (Fm_m hF7 (by decide) (fun _ y => y)), ?_, by rw [e7]; exact tTk_o ox5, fun y r hr => ?_⟩
    · rw [e7]
      show txE (tTk T z 59 (tRw T z 1000000 (tW fm n k) (tRs T z 1000000 (tW fm n) k A))) _
      rw [ew]; exact tTk_E E5
    · have y5 : (yt s5).f < 0 := tTk_f (by rw [← e7]; exact y)
      have y4 : (yt s4).f < 0 := tNm_f (by rw [e5.2.1]; exact y5)
      have y2 : (yt s2).f < 0 := tTk_f (by rw [← e4]; exact y4)
      have y1 : (yt s1).f < 0 := tNm_f (by rw [e2.2.1]; exact y2)
      have r172 : s7 172 = am_w s2 172 (k : Int) v 172 := by rw [hF7.1 172 (by decide), am_w_row (by decide), hF5.1 172 (by decide), hF4.1 172 (by decide)]
      have r173 : s7 173 = am_w s5 173 (k : Int) u 173 := by rw [hF7.1 173 (by decide)]
      have q173 : s5 173 = s1 173 := by rw [hF5.1 173 (by decide), hF4.1 173 (by decide), am_w_row (by decide), hF2.1 173 (by decide)]
      rw [r172, r173]
      by_cases e : r = k
      · subst e
        rw [am_w_eq, am_w_eq, hv2 y2, hv5 y5]
        refine ⟨?_, ?_⟩
        · show _ = tNv T z (tRs T z 1000000 (tW fm n) r A)
          rw [txE_q e1 (by rw [e1.2.1]; exact y1)]
        · show _ = tNv T z (tIa T z 1 (tRw T z 1000000 1 (tRs T z 1000000 (tW fm n) r A)))
          rw [txE_q E4 (by rw [E4.2.1]; exact y4)]
      · rw [am_w_x (by omega), am_w_x (by omega), hF2.1 172 (by decide), q173]; exact hV1 y1 r (by omega)
  · rintro - s1 ⟨hF1, e1, ox1, hV1⟩
    try simp only
    have e6 : s1 168 6 = n := (hF1.2 6 (by decide)).trans en
    refine am_s rfl rfl ?_
    refine am_s rfl rfl ?_
    refine s_gi (x := 6) rfl g rfl rfl rfl ?_
    refine s_cge rfl ⟨by omega, by omega⟩ ⟨by omega, by omega⟩ (fun c1 => ?_) (fun c1 => absurd c1 (by omega))
    refine am_lv [(2, _), (1, _), (0, _)] rfl rfl ⟨rfl, rfl, rfl, trivial⟩ ?_
    have hx1 := tyH_f hx hF1 (by decide) (by decide) ox1
    have eR : tR fm n = n.toNat := by unfold tR; rw [if_neg (by omega)]
    have zl := hx.zl
    have o8 : -1 ≤ s1 168 8 ∧ s1 168 8 ≤ z := ox1.2.1
    have o9 : -1 ≤ s1 168 9 ∧ s1 168 9 ≤ z := ox1.2.2
    by_cases hg : s1 168 8 < 0 ∧ s1 168 9 < 0
    · have hg2 : txG (tRs T z 1000000 (tW fm n) n.toNat A) := by
        have e := txE_q e1 (by rw [e1.2.1]; exact hg.1)
        rw [e]; exact hg
      refine t_pts56 (d := d + 1) (s := s1) (fm := fm) (N := n.toNat) (V := fun r i => tVl T z 1000000 (tW fm n) r i A) g hst (by omega) (by omega) ⟨o8.1, hg.1⟩ ⟨o9.1, hg.2⟩ (fun r hr => hV1 hg.1 r hr) (fun r hr => ⟨tVl_r oA hr (by unfold tW; rw [if_neg (by omega), if_neg (by omega)]; decide) hg2, tVl_r oA hr (by unfold tW; rw [if_neg (by omega), if_neg (by omega)]; decide) hg2⟩) (fun s9 a b c => ?_)
      have ey : yt s9 = yt s1 := by unfold yt; rw [a.2 7 (by decide), a.2 8 (by decide), a.2 9 (by decide)]
      refine hPP s9 (Fm_t (Fm_m hF1 (by decide) (fun _ y => y)) (Fm_m a (by decide) (fun _ y => absurd y (by simp)))) (by rw [ey, eR]; exact e1) (by rw [ey]; exact ox1) (fun _ => ⟨fun p q pq q1 => b p q pq q1, fun r hr => ?_⟩)
      rw [c r hr, hF1.1 170 (by decide)]
    · refine t_pts56n (d := d + 1) (s := s1) g (by omega) (by omega) (by omega) (by omega) ?_
      refine hPP s1 (Fm_m hF1 (by decide) (fun _ y => y)) (by rw [eR]; exact e1) ox1 (fun y => absurd y (fun y => hg ⟨y.1, y.2⟩))
