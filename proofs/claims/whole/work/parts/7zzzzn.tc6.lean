/-! the other one reads points -/
theorem iab_n (a b : Int) : iab (a - b) = iab (b - a) := by
  unfold iab
  split <;> split <;> omega
theorem pts_s {s s2 : am_S} {fm : Int} {V : Nat → Nat → Int} {j k : Nat} {dd : Int} (jk : j < k) (hk : k < 20) (hF2 : am_Fm [170] [] s s2) (hP2 : (∀ p q : Nat, p < q → q < k → dR fm V p q (s2 170 (20 * (p : Int) + (q : Int))) ∧ s2 170 (20 * (q : Int) + (p : Int)) = s2 170 (20 * (p : Int) + (q : Int)))) (hC2 : (∀ p : Nat, p < j → dR fm V p k (s2 170 (20 * (p : Int) + (k : Int))) ∧ s2 170 (20 * (k : Int) + (p : Int)) = s2 170 (20 * (p : Int) + (k : Int)))) (hD2 : (∀ r : Nat, r < 20 → s2 170 (20 * (r : Int) + (r : Int)) = s 170 (20 * (r : Int) + (r : Int)))) (hd : dR fm V j k dd) : am_Fm [170] [] s (am_w (am_w s2 170 (20 * (k : Int) + (j : Int)) dd) 170 (20 * (j : Int) + (k : Int)) dd) ∧ (∀ p q : Nat, p < q → q < k → dR fm V p q ((am_w (am_w s2 170 (20 * (k : Int) + (j : Int)) dd) 170 (20 * (j : Int) + (k : Int)) dd) 170 (20 * (p : Int) + (q : Int))) ∧ (am_w (am_w s2 170 (20 * (k : Int) + (j : Int)) dd) 170 (20 * (j : Int) + (k : Int)) dd) 170 (20 * (q : Int) + (p : Int)) = (am_w (am_w s2 170 (20 * (k : Int) + (j : Int)) dd) 170 (20 * (j : Int) + (k : Int)) dd) 170 (20 * (p : Int) + (q : Int))) ∧ (∀ p : Nat, p < (j + 1) → dR fm V p k ((am_w (am_w s2 170 (20 * (k : Int) + (j : Int)) dd) 170 (20 * (j : Int) + (k : Int)) dd) 170 (20 * (p : Int) + (k : Int))) ∧ (am_w (am_w s2 170 (20 * (k : Int) + (j : Int)) dd) 170 (20 * (j : Int) + (k : Int)) dd) 170 (20 * (k : Int) + (p : Int)) = (am_w (am_w s2 170 (20 * (k : Int) + (j : Int)) dd) 170 (20 * (j : Int) + (k : Int)) dd) 170 (20 * (p : Int) + (k : Int))) ∧ (∀ r : Nat, r < 20 → (am_w (am_w s2 170 (20 * (k : Int) + (j : Int)) dd) 170 (20 * (j : Int) + (k : Int)) dd) 170 (20 * (r : Int) + (r : Int)) = s 170 (20 * (r : Int) + (r : Int))) := by
  have r6 : ∀ x, x ≠ 20 * (k : Int) + (j : Int) → x ≠ 20 * (j : Int) + (k : Int) → (am_w (am_w s2 170 (20 * (k : Int) + (j : Int)) dd) 170 (20 * (j : Int) + (k : Int)) dd) 170 x = s2 170 x := fun x a1 a2 => by rw [am_w_x a2, am_w_x a1]
  refine ⟨⟨fun b hb => by rw [am_w_row (fun z => hb (by simp [z])), am_w_row (fun z => hb (by simp [z]))]; exact hF2.1 b hb, fun y hy => by rw [am_w_row (by decide), am_w_row (by decide)]; exact hF2.2 y hy⟩, fun p q pq q1 => ?_, fun p p1 => ?_, fun r hr => ?_⟩
  · rw [r6 _ (ix20 (by omega) (by omega) (by omega)) (ix20 (by omega) (by omega) (by omega)), r6 _ (ix20 (by omega) (by omega) (by omega)) (ix20 (by omega) (by omega) (by omega))]
    exact hP2 p q pq q1
  · by_cases e : p = j
    · subst e
      rw [am_w_eq, am_w_x (ix20 (by omega) (by omega) (by omega)), am_w_eq]
      exact ⟨hd, rfl⟩
    · rw [r6 _ (ix20 (by omega) (by omega) (by omega)) (ix20 (by omega) (by omega) (by omega)), r6 _ (ix20 (by omega) (by omega) (by omega)) (ix20 (by omega) (by omega) (by omega))]
      exact hC2 p (by omega)
  · rw [r6 _ (ix20 (by omega) (by omega) (by omega)) (ix20 (by omega) (by omega) (by omega))]
    exact hD2 r hr
theorem t_pts56 {d : Nat} {E : am_Ev} {s : am_S} {fm st : Int} {N : Nat} {V : Nat → Nat → Int} {v9 : Value} {PP : Option Value → am_H → Prop} (g : am_Eg E) (hst : (st = 1 ∧ fm = 42) ∨ (st = 0 ∧ fm = 43)) (hN : 1 ≤ N ∧ N ≤ 20) (en : s 168 6 = (N : Int)) (h8 : -1 ≤ s 168 8 ∧ s 168 8 < 0) (h9 : -1 ≤ s 168 9 ∧ s 168 9 < 0) (hv : ∀ r : Nat, r < N → s 172 (r : Int) = V r 0 ∧ s 173 (r : Int) = V r 1) (hr : ∀ r : Nat, r < N → (0 ≤ V r 0 ∧ V r 0 ≤ 1000000) ∧ 0 ≤ V r 1 ∧ V r 1 ≤ 1000000) (hPP : ∀ s1, am_Fm [170] [] s s1 → (∀ p q : Nat, p < q → q < N → dR fm V p q (s1 170 (20 * (p : Int) + (q : Int))) ∧ s1 170 (20 * (q : Int) + (p : Int)) = s1 170 (20 * (p : Int) + (q : Int))) → (∀ r : Nat, r < 20 → s1 170 (20 * (r : Int) + (r : Int)) = s 170 (20 * (r : Int) + (r : Int))) → PP none (am_hp E s1)) : am_wp (d + 1) 170 56 [(2, v9), (1, .int (iI st)), (0, .ref 168)] [] (am_hp E s) PP := by
  refine s_k 0 rfl rfl ?_
  refine am_s rfl rfl ?_
  refine am_lv [(2, .int (iI (((0 : Nat) : Int) : Int))), (1, .int (iI st)), (0, .ref 168)] rfl rfl ⟨rfl, rfl, rfl, trivial⟩ ?_
  refine s_loop (X := Unit) (fun k _ s1 => am_Fm [170] [] s s1 ∧ (∀ p q : Nat, p < q → q < k → dR fm V p q (s1 170 (20 * (p : Int) + (q : Int))) ∧ s1 170 (20 * (q : Int) + (p : Int)) = s1 170 (20 * (p : Int) + (q : Int))) ∧ (∀ r : Nat, r < 20 → s1 170 (20 * (r : Int) + (r : Int)) = s 170 (20 * (r : Int) + (r : Int)))) (fun k _ => [(2, .int (iI (k : Int))), (1, .int (iI st)), (0, .ref 168)]) (lo := 0) (hi := N) (x := ()) (Nat.zero_le N) ⟨am_Fm_r _ _ _, fun p q _ q0 => absurd q0 (Nat.not_lt_zero q), fun _ _ => rfl⟩ ?_ ?_
  · rintro k - s1 hk0 hk1 ⟨hF1, hP1, hD1⟩ kk
    try simp only at kk ⊢
    have e6 : s1 168 6 = (N : Int) := (hF1.2 6 (by decide)).trans en
    have e8 : s1 168 8 = s 168 8 := hF1.2 8 (by decide)
    have e9 : s1 168 9 = s 168 9 := hF1.2 9 (by decide)
    refine am_s rfl rfl ?_
    refine am_s rfl rfl ?_
    refine s_gi (x := 6) rfl g rfl rfl rfl ?_
    refine s_cge rfl ⟨by omega, by omega⟩ ⟨by omega, by omega⟩ (fun c1 => absurd c1 (by omega)) (fun c1 => ?_)
    refine am_s rfl rfl ?_
    refine s_gi (x := 8) rfl g rfl rfl rfl ?_
    refine s_zge rfl ⟨by omega, by omega⟩ (fun c2 => absurd c2 (by omega)) (fun c2 => ?_)
    refine am_s rfl rfl ?_
    refine s_gi (x := 9) rfl g rfl rfl rfl ?_
    refine s_zge rfl ⟨by omega, by omega⟩ (fun c3 => absurd c3 (by omega)) (fun c3 => ?_)
    refine s_k 0 rfl rfl ?_
    refine am_s rfl rfl ?_
    refine am_lv [(3, .int (iI (((0 : Nat) : Int) : Int))), (2, .int (iI (k : Int))), (1, .int (iI st)), (0, .ref 168)] rfl rfl ⟨rfl, rfl, rfl, rfl, trivial⟩ ?_
    refine s_loop (X := Unit) (fun j _ s2 => am_Fm [170] [] s s2 ∧ (∀ p q : Nat, p < q → q < k → dR fm V p q (s2 170 (20 * (p : Int) + (q : Int))) ∧ s2 170 (20 * (q : Int) + (p : Int)) = s2 170 (20 * (p : Int) + (q : Int))) ∧ (∀ p : Nat, p < j → dR fm V p k (s2 170 (20 * (p : Int) + (k : Int))) ∧ s2 170 (20 * (k : Int) + (p : Int)) = s2 170 (20 * (p : Int) + (k : Int))) ∧ (∀ r : Nat, r < 20 → s2 170 (20 * (r : Int) + (r : Int)) = s 170 (20 * (r : Int) + (r : Int)))) (fun j _ => [(3, .int (iI (j : Int))), (2, .int (iI (k : Int))), (1, .int (iI st)), (0, .ref 168)]) (lo := 0) (hi := k) (x := ()) (Nat.zero_le k) ⟨hF1, hP1, fun p p0 => absurd p0 (Nat.not_lt_zero p), hD1⟩ ?_ ?_
    · rintro j - s2 hj0 hj1 ⟨hF2, hP2, hC2, hD2⟩ kk2
      try simp only at kk2 ⊢
      have v1 := hv k (by omega)
      have v2 := hv j (by omega)
      have w1 := hr k (by omega)
      have w2 := hr j (by omega)
      have x1 := iab_r (v := V k 0 - V j 0) ⟨by omega, by omega⟩
      have x2 := iab_r (v := V k 1 - V j 1) ⟨by omega, by omega⟩
      have sq := sq_sum x1 x2
      have a1 : s2 172 (k : Int) = V k 0 := by rw [hF2.1 172 (by decide)]; exact v1.1
      have a2 : s2 172 (j : Int) = V j 0 := by rw [hF2.1 172 (by decide)]; exact v2.1
      have a3 : s2 173 (k : Int) = V k 1 := by rw [hF2.1 173 (by decide)]; exact v1.2
      have a4 : s2 173 (j : Int) = V j 1 := by rw [hF2.1 173 (by decide)]; exact v2.2
      have d0 : dx V j k 0 = iab (V k 0 - V j 0) := iab_n _ _
      have d1 : dx V j k 1 = iab (V k 1 - V j 1) := iab_n _ _
      refine am_s rfl rfl ?_
      refine am_s rfl rfl ?_
      refine s_cge rfl ⟨by omega, by omega⟩ ⟨by omega, by omega⟩ (fun c1 => absurd c1 (by omega)) (fun c1 => ?_)
      refine am_s rfl rfl ?_
      refine s_gr rfl g rfl rfl ?_
      refine am_s rfl rfl ?_
      refine s_la rfl g rfl ⟨by omega, by omega⟩ (by decide) ?_
      refine am_s rfl rfl ?_
      refine s_gr rfl g rfl rfl ?_
      refine am_s rfl rfl ?_
      refine s_la rfl g rfl ⟨by omega, by omega⟩ (by decide) ?_
      refine s_lsub rfl ?_
      rw [a1, a2]
      refine am_cs (As := [_]) (rest := []) rfl (Or.inl rfl) rfl rfl (Nat.le_of_ble_eq_true rfl) rfl (t_sizeM (v := V k 0 - V j 0) ⟨by omega, by omega⟩) ?_
      rintro rv h9 ⟨rfl, rfl⟩
      refine am_s rfl rfl ?_
      refine am_s rfl rfl ?_
      refine s_gr rfl g rfl rfl ?_
      refine am_s rfl rfl ?_
      refine s_la rfl g rfl ⟨by omega, by omega⟩ (by decide) ?_
      refine am_s rfl rfl ?_
      refine s_gr rfl g rfl rfl ?_
      refine am_s rfl rfl ?_
      refine s_la rfl g rfl ⟨by omega, by omega⟩ (by decide) ?_
      refine s_lsub rfl ?_
      rw [a3, a4]
      refine am_cs (As := [_]) (rest := []) rfl (Or.inl rfl) rfl rfl (Nat.le_of_ble_eq_true rfl) rfl (t_sizeM (v := V k 1 - V j 1) ⟨by omega, by omega⟩) ?_
      rintro rv h9 ⟨rfl, rfl⟩
      refine am_s rfl rfl ?_
      refine am_s rfl rfl ?_
      refine am_s rfl rfl ?_
      refine am_s rfl rfl ?_
      refine am_s rfl rfl ?_
      refine s_zeq rfl ⟨by omega, by omega⟩ (fun c2 => ?_) (fun c2 => ?_)
      · refine am_s rfl rfl ?_
        refine am_s rfl rfl ?_
        refine s_ladd rfl ?_
        refine s_cv [_, _, _] [] rfl g (Or.inl rfl) rfl rfl (Nat.le_of_ble_eq_true rfl) rfl rfl (t_setBoth (s := s2) (a := (k : Int)) (b := (j : Int)) (v := (iab (V k 0 - V j 0) + iab (V k 1 - V j 1))) g (by omega) (by omega)) ?_
        rintro rv h9 ⟨rfl, rfl⟩
        refine s_inc rfl rfl ?_
        refine am_s rfl rfl ?_
        have ej2 : (j : Int) + 1 = ((j + 1 : Nat) : Int) := by omega
        rw [ej2]
        refine am_lv [(3, _), (2, _), (1, _), (0, _)] rfl rfl ⟨rfl, rfl, rfl, rfl, trivial⟩ ?_
        have hd : dR fm V j k (iab (V k 0 - V j 0) + iab (V k 1 - V j 1)) := ⟨fun z => by omega, fun _ => by rw [d0, d1], fun z => by omega, by omega, by omega⟩
        refine kk2 () _ (pts_s (by omega) (by omega) hF2 hP2 hC2 hD2 hd)
      · refine am_s rfl rfl ?_
        refine am_s rfl rfl ?_
        refine s_lmul rfl ?_
        refine am_s rfl rfl ?_
        refine am_s rfl rfl ?_
        refine s_lmul rfl ?_
        refine s_ladd rfl ?_
        refine am_cs (As := [_]) (rest := [_, _, _]) rfl (Or.inl rfl) rfl rfl (Nat.le_of_ble_eq_true rfl) rfl (t_root (v := iab (V k 0 - V j 0) * iab (V k 0 - V j 0) + iab (V k 1 - V j 1) * iab (V k 1 - V j 1)) sq.1) ?_
        rintro rv h9 ⟨r, rfl, hrt, rfl⟩
        have r1 : r ≤ iab (V k 0 - V j 0) + iab (V k 1 - V j 1) := by
          by_cases z : r ≤ iab (V k 0 - V j 0) + iab (V k 1 - V j 1)
          · exact z
          · have := hrt.2.2 (iab (V k 0 - V j 0) + iab (V k 1 - V j 1)) (by omega) (by omega)
            have := sq.2
            omega
        refine am_s rfl rfl ?_
        refine s_cv [_, _, _] [] rfl g (Or.inl rfl) rfl rfl (Nat.le_of_ble_eq_true rfl) rfl rfl (t_setBoth (s := s2) (a := (k : Int)) (b := (j : Int)) (v := r) g (by omega) (by omega)) ?_
        rintro rv h9 ⟨rfl, rfl⟩
        refine s_inc rfl rfl ?_
        refine am_s rfl rfl ?_
        have ej2 : (j : Int) + 1 = ((j + 1 : Nat) : Int) := by omega
        rw [ej2]
        refine am_lv [(3, _), (2, _), (1, _), (0, _)] rfl rfl ⟨rfl, rfl, rfl, rfl, trivial⟩ ?_
        have hd : dR fm V j k r := ⟨fun z => by omega, fun z => by omega, fun _ => by rw [d0, d1]; exact hrt, hrt.1, by omega⟩
        refine kk2 () _ (pts_s (by omega) (by omega) hF2 hP2 hC2 hD2 hd)
    · rintro - s2 ⟨hF2, hP2, hC2, hD2⟩
      try simp only
      refine am_s rfl rfl ?_
      refine am_s rfl rfl ?_
      refine s_cge rfl ⟨by omega, by omega⟩ ⟨by omega, by omega⟩ (fun c1 => ?_) (fun c1 => absurd c1 (by omega))
      refine s_inc rfl rfl ?_
      refine am_s rfl rfl ?_
      have ek2 : (k : Int) + 1 = ((k + 1 : Nat) : Int) := by omega
      rw [ek2]
      refine am_lv [(2, _), (1, _), (0, _)] rfl rfl ⟨rfl, rfl, rfl, trivial⟩ ?_
      refine kk () s2 ⟨hF2, fun p q pq q1 => ?_, hD2⟩
      by_cases e : q = k
      · subst e; exact hC2 p pq
      · exact hP2 p q pq (by omega)
  · rintro - s1 ⟨hF1, hP1, hD1⟩
    try simp only
    have e6 : s1 168 6 = (N : Int) := (hF1.2 6 (by decide)).trans en
    refine am_s rfl rfl ?_
    refine am_s rfl rfl ?_
    refine s_gi (x := 6) rfl g rfl rfl rfl ?_
    refine s_cge rfl ⟨by omega, by omega⟩ ⟨by omega, by omega⟩ (fun c1 => ?_) (fun c1 => absurd c1 (by omega))
    exact am_r rfl rfl (hPP s1 hF1 hP1 hD1)
theorem t_pts56n {d : Nat} {E : am_Ev} {s : am_S} {st : Int} {v9 : Value} {PP : Option Value → am_H → Prop} (g : am_Eg E) (hn : 1 ≤ s 168 6 ∧ s 168 6 ≤ 20) (hb : 0 ≤ s 168 8 ∨ 0 ≤ s 168 9) (h8 : -1 ≤ s 168 8 ∧ s 168 8 ≤ 5000) (h9 : -1 ≤ s 168 9 ∧ s 168 9 ≤ 5000) (hPP : PP none (am_hp E s)) : am_wp (d + 1) 170 56 [(2, v9), (1, .int (iI st)), (0, .ref 168)] [] (am_hp E s) PP := by
  refine s_k 0 rfl rfl ?_
  refine am_s rfl rfl ?_
  refine am_s rfl rfl ?_
  refine am_s rfl rfl ?_
  refine s_gi (x := 6) rfl g rfl rfl rfl ?_
  refine s_cge rfl ⟨by omega, by omega⟩ ⟨by omega, by omega⟩ (fun c1 => absurd c1 (by omega)) (fun c1 => ?_)
  refine am_s rfl rfl ?_
  refine s_gi (x := 8) rfl g rfl rfl rfl ?_
  refine s_zge rfl ⟨by omega, by omega⟩ (fun c2 => ?_) (fun c2 => ?_)
  · exact am_r rfl rfl hPP
  · refine am_s rfl rfl ?_
    refine s_gi (x := 9) rfl g rfl rfl rfl ?_
    refine s_zge rfl ⟨by omega, by omega⟩ (fun c3 => ?_) (fun c3 => ?_)
    · exact am_r rfl rfl hPP
    · omega
