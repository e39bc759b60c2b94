/-! the matcher: how far the prices may go -/
def fsR (s : am_S) (v w : Int) : Prop := s 86 w ≠ s 86 v ∧ s 89 (s 86 w) ≠ 2 ∧ ¬ (s 89 (s 86 w) = 1 ∧ w < v)
def fsS (s : am_S) (v w : Int) : Int := s (63 + 1 + v.toNat) w - s 84 v - s 84 w
def fsE (s : am_S) (v w : Int) : Int := if s 89 (s 86 w) = 1 then fsS s v w / 2 else fsS s v w
def fsI (s s' : am_S) (v k : Int) : Prop := am_Fr [62] s s' ∧ (∀ y, y ≠ 1 → y ≠ 2 → y ≠ 3 → s' 62 y = s 62 y) ∧ s' 62 1 ≤ s 62 1 ∧ (∀ w, 0 ≤ w → w < k → fsR s v w → s' 62 1 ≤ fsE s v w) ∧ ((s' 62 1 = s 62 1 ∧ s' 62 2 = s 62 2 ∧ s' 62 3 = s 62 3) ∨ ∃ w, 0 ≤ w ∧ w < s 62 0 ∧ fsR s v w ∧ s' 62 1 = fsE s v w ∧ s' 62 2 = v ∧ s' 62 3 = w)
theorem fsI_n {s s' : am_S} {v k : Int} (h : fsI s s' v k) (hk : fsR s v k → s' 62 1 ≤ fsE s v k) : fsI s s' v (k + 1) := by
  obtain ⟨h1, h2, h3, h4, h5⟩ := h
  refine ⟨h1, h2, h3, fun w w0 w1 hR => ?_, h5⟩
  by_cases e : w = k
  · rw [e] at hR ⊢; exact hk hR
  · exact h4 w w0 (by omega) hR
theorem fsI_y {s s' : am_S} {v k z : Int} (h : fsI s s' v k) (k0 : 0 ≤ k) (k1 : k < s 62 0) (hR : fsR s v k) (hz : z = fsE s v k) (hlt : z < s' 62 1) : fsI s (am_w (am_w (am_w s' 62 1 z) 62 2 v) 62 3 k) v (k + 1) := by
  obtain ⟨h1, h2, h3, h4, h5⟩ := h
  have e1 : am_w (am_w (am_w s' 62 1 z) 62 2 v) 62 3 k 62 1 = z := by simp [am_w]
  have e2 : am_w (am_w (am_w s' 62 1 z) 62 2 v) 62 3 k 62 2 = v := by simp [am_w]
  have e3 : am_w (am_w (am_w s' 62 1 z) 62 2 v) 62 3 k 62 3 = k := by simp [am_w]
  refine ⟨am_Fr_W (am_Fr_W (am_Fr_W h1 (by decide)) (by decide)) (by decide), fun y y1 y2 y3 => ?_, by omega, fun w w0 w1 hR2 => ?_, Or.inr ⟨k, k0, k1, hR, by rw [e1, hz], e2, e3⟩⟩
  · rw [am_w_x y3, am_w_x y2, am_w_x y1]; exact h2 y y1 y2 y3
  · rw [e1]
    by_cases e : w = k
    · rw [e]; omega
    · have := h4 w w0 (by omega) hR2; omega
theorem fsI_r {s s' : am_S} {v k : Int} (h : fsI s s' v k) (h0 : 0 ≤ s 62 1 ∧ s 62 1 < 9223372036854775808) (hs : ∀ w, 0 ≤ w → w < s 62 0 → fsR s v w → 0 ≤ fsS s v w ∧ fsS s v w < 4000000000000000000) : 0 ≤ s' 62 1 ∧ s' 62 1 < 9223372036854775808 := by
  obtain ⟨h1, h2, h3, h4, h5⟩ := h
  rcases h5 with z | ⟨w, w0, w1, hR, z, -⟩
  · omega
  · have := hs w w0 w1 hR
    unfold fsE at z
    split at z <;> omega
set_option maxHeartbeats 4000000 in
theorem t_findStepAt {d : Nat} {E : am_Ev} {s : am_S} {v : Int} (g : am_Eg E) (hn : 0 ≤ s 62 0 ∧ s 62 0 ≤ 20) (hv : 0 ≤ v ∧ v < s 62 0) (hT : ∀ w, 0 ≤ w → w < s 62 0 → 0 ≤ s 86 w ∧ s 86 w < 30) (hK : ∀ x, 0 ≤ x → x < 30 → 0 ≤ s 89 x ∧ s 89 x ≤ 2) (h0 : 0 ≤ s 62 1 ∧ s 62 1 < 9223372036854775808) (hsl : ∀ w, 0 ≤ w → w < s 62 0 → fsR s v w → 0 ≤ fsS s v w ∧ fsS s v w < 4000000000000000000) : am_wp (d + 1) 33 0 (lv_args 0 [.ref 62, .int (iI v)]) [] (am_hp E s) (fun rv h => rv = none ∧ ∃ s', h = am_hp E s' ∧ fsI s s' v (s 62 0)) := by
  obtain ⟨n, en⟩ : ∃ n : Nat, s 62 0 = n := ⟨(s 62 0).toNat, by omega⟩
  have hv5 := hT v hv.1 hv.2
  refine am_s rfl rfl ?_
  refine s_gr rfl g rfl rfl ?_
  refine am_s rfl rfl ?_
  refine s_aa5 rfl g rfl ⟨by omega, by omega⟩ (by decide) ?_
  refine am_s rfl rfl ?_
  refine am_s rfl rfl ?_
  refine s_gr rfl g rfl rfl ?_
  refine am_s rfl rfl ?_
  refine s_la rfl g rfl ⟨by omega, by omega⟩ (by decide) ?_
  refine am_s rfl rfl ?_
  refine am_s rfl rfl ?_
  refine s_gr rfl g rfl rfl ?_
  refine am_s rfl rfl ?_
  refine s_ia rfl g rfl ⟨by omega, by omega⟩ (by decide) ?_
  refine am_s rfl rfl ?_
  refine s_k 0 rfl rfl ?_
  refine am_s rfl rfl ?_
  refine am_lv [(6, .int (iI (((0 : Nat) : Int) : Int))), (5, .int (iI (s 86 v))), (3, .long (lI (s 84 v))), (2, .ref (63 + 1 + v.toNat)), (1, .int (iI v)), (0, .ref 62)] rfl rfl ⟨rfl, rfl, rfl, rfl, rfl, rfl, trivial⟩ ?_
  refine s_loop (X := Unit) (fun k _ s' => fsI s s' v k) (fun k _ => [(6, .int (iI (k : Int))), (5, .int (iI (s 86 v))), (3, .long (lI (s 84 v))), (2, .ref (63 + 1 + v.toNat)), (1, .int (iI v)), (0, .ref 62)]) (hi := n) (x := ()) (Nat.zero_le n) ⟨am_Fr_r _ _, fun y _ _ _ => rfl, by omega, fun w w0 w1 => by omega, Or.inl ⟨rfl, rfl, rfl⟩⟩ ?_ ?_
  · rintro k - s1 hk0 hk1 hI kk
    simp only at kk ⊢
    have hF := hI.1
    have e62 : s1 62 0 = s 62 0 := hI.2.1 0 (by decide) (by decide) (by decide)
    have q0 := fsI_r hI h0 hsl
    have ht := hT k (by omega) (by omega)
    have hk := hK (s 86 k) (by omega) (by omega)
    have q1 : s1 86 k = s 86 k := by rw [hF 86 (by decide)]
    have q2 : s1 89 (s1 86 k) = s 89 (s 86 k) := by rw [hF 89 (by decide), hF 86 (by decide)]
    have q3 : s1 84 k = s 84 k := by rw [hF 84 (by decide)]
    have q4 : s1 (63 + 1 + v.toNat) k = s (63 + 1 + v.toNat) k := by rw [hF (63 + 1 + v.toNat) (fun z => by simp at z; omega)]
    refine am_s rfl rfl ?_
    refine am_s rfl rfl ?_
    refine s_gi (x := 0) rfl g rfl rfl rfl ?_
    refine s_cge rfl ⟨by omega, by omega⟩ ⟨by omega, by omega⟩ (fun c1 => absurd c1 (by omega)) (fun c1 => ?_)
    refine am_s rfl rfl ?_
    refine s_gr rfl g rfl rfl ?_
    refine am_s rfl rfl ?_
    refine s_ia rfl g rfl ⟨by omega, by omega⟩ (by decide) ?_
    refine am_s rfl rfl ?_
    refine am_s rfl rfl ?_
    refine s_gr rfl g rfl rfl ?_
    refine am_s rfl rfl ?_
    refine s_ia rfl g rfl ⟨by omega, by omega⟩ (by decide) ?_
    refine am_s rfl rfl ?_
    refine am_s rfl rfl ?_
    refine am_s rfl rfl ?_
    refine s_ceq rfl ⟨by omega, by omega⟩ ⟨by omega, by omega⟩ (fun c2 => ?_) (fun c2 => ?_)
    · refine s_inc rfl rfl ?_
      refine am_s rfl rfl ?_
      refine am_lv [(6, _), (5, _), (3, _), (2, _), (1, _), (0, _)] rfl rfl ⟨rfl, rfl, rfl, rfl, rfl, rfl, trivial⟩ ?_
      exact kk () _ (fsI_n hI (fun z => by
        obtain ⟨z1, z2, z3⟩ := z
        unfold fsE fsS
        first | (exfalso; omega) | (rw [if_neg (by omega)]; omega) | (rw [if_pos (by omega)]; omega)))
    · refine am_s rfl rfl ?_
      refine s_k 2 rfl rfl ?_
      refine s_ceq rfl ⟨by omega, by omega⟩ ⟨by omega, by omega⟩ (fun c3 => ?_) (fun c3 => ?_)
      · refine s_inc rfl rfl ?_
        refine am_s rfl rfl ?_
        refine am_lv [(6, _), (5, _), (3, _), (2, _), (1, _), (0, _)] rfl rfl ⟨rfl, rfl, rfl, rfl, rfl, rfl, trivial⟩ ?_
        exact kk () _ (fsI_n hI (fun z => by
          obtain ⟨z1, z2, z3⟩ := z
          unfold fsE fsS
          first | (exfalso; omega) | (rw [if_neg (by omega)]; omega) | (rw [if_pos (by omega)]; omega)))
      · refine am_s rfl rfl ?_
        refine s_k 1 rfl rfl ?_
        refine s_cne rfl ⟨by omega, by omega⟩ ⟨by omega, by omega⟩ (fun c4 => ?_) (fun c4 => ?_)
        · have hR : fsR s v k := ⟨by omega, by omega, fun z => by omega⟩
          have hS := hsl k (by omega) (by omega) hR
          unfold fsS at hS
          refine am_s rfl rfl ?_
          refine am_s rfl rfl ?_
          refine s_la rfl g (lo_63 (by omega) (by omega)) ⟨by omega, by omega⟩ (by decide) ?_
          refine am_s rfl rfl ?_
          refine s_lsub rfl ?_
          refine am_s rfl rfl ?_
          refine s_gr rfl g rfl rfl ?_
          refine am_s rfl rfl ?_
          refine s_la rfl g rfl ⟨by omega, by omega⟩ (by decide) ?_
          refine s_lsub rfl ?_
          refine am_s rfl rfl ?_
          refine am_s rfl rfl ?_
          refine s_k 1 rfl rfl ?_
          refine s_cne rfl ⟨by omega, by omega⟩ ⟨by omega, by omega⟩ (fun c5 => ?_) (fun c5 => ?_)
          · refine am_s rfl rfl ?_
            refine am_s rfl rfl ?_
            refine s_gl (x := 1) rfl g rfl rfl rfl ?_
            refine s_jge rfl rfl ⟨by omega, by omega⟩ ⟨by omega, by omega⟩ (fun c6 => ?_) (fun c6 => ?_)
            · refine s_inc rfl rfl ?_
              refine am_s rfl rfl ?_
              refine am_lv [(6, _), (5, _), (3, _), (2, _), (1, _), (0, _)] rfl rfl ⟨rfl, rfl, rfl, rfl, rfl, rfl, trivial⟩ ?_
              exact kk () _ (fsI_n hI (fun z => by
                obtain ⟨z1, z2, z3⟩ := z
                unfold fsE fsS
                first | (exfalso; omega) | (rw [if_neg (by omega)]; omega) | (rw [if_pos (by omega)]; omega)))
            · refine am_s rfl rfl ?_
              refine am_s rfl rfl ?_
              refine am_s rfl rfl ?_
              refine am_s rfl rfl ?_
              refine s_cv [_, _, _] [] rfl g (Or.inl rfl) rfl rfl (Nat.le_of_ble_eq_true rfl) rfl rfl (t_keepStep g) ?_
              rintro rv h1 ⟨rfl, rfl⟩
              refine s_inc rfl rfl ?_
              refine am_s rfl rfl ?_
              refine am_lv [(6, _), (5, _), (3, _), (2, _), (1, _), (0, _)] rfl rfl ⟨rfl, rfl, rfl, rfl, rfl, rfl, trivial⟩ ?_
              exact kk () _ (fsI_y hI (by omega) (by omega) hR (by unfold fsE fsS; first | (rw [if_neg (by omega)]; omega) | (rw [if_pos (by omega)]; omega)) (by omega))
          · refine am_s rfl rfl ?_
            refine s_kl 2 rfl rfl ?_
            refine s_ldiv rfl ⟨by omega, by omega⟩ ⟨by decide, by decide⟩ ?_
            refine am_s rfl rfl ?_
            refine am_s rfl rfl ?_
            refine am_s rfl rfl ?_
            refine s_gl (x := 1) rfl g rfl rfl rfl ?_
            refine s_jge rfl rfl ⟨by omega, by omega⟩ ⟨by omega, by omega⟩ (fun c7 => ?_) (fun c7 => ?_)
            · refine s_inc rfl rfl ?_
              refine am_s rfl rfl ?_
              refine am_lv [(6, _), (5, _), (3, _), (2, _), (1, _), (0, _)] rfl rfl ⟨rfl, rfl, rfl, rfl, rfl, rfl, trivial⟩ ?_
              exact kk () _ (fsI_n hI (fun z => by
                obtain ⟨z1, z2, z3⟩ := z
                unfold fsE fsS
                first | (exfalso; omega) | (rw [if_neg (by omega)]; omega) | (rw [if_pos (by omega)]; omega)))
            · refine am_s rfl rfl ?_
              refine am_s rfl rfl ?_
              refine am_s rfl rfl ?_
              refine am_s rfl rfl ?_
              refine s_cv [_, _, _] [] rfl g (Or.inl rfl) rfl rfl (Nat.le_of_ble_eq_true rfl) rfl rfl (t_keepStep g) ?_
              rintro rv h1 ⟨rfl, rfl⟩
              refine s_inc rfl rfl ?_
              refine am_s rfl rfl ?_
              refine am_lv [(6, _), (5, _), (3, _), (2, _), (1, _), (0, _)] rfl rfl ⟨rfl, rfl, rfl, rfl, rfl, rfl, trivial⟩ ?_
              exact kk () _ (fsI_y hI (by omega) (by omega) hR (by unfold fsE fsS; first | (rw [if_neg (by omega)]; omega) | (rw [if_pos (by omega)]; omega)) (by omega))
        · refine am_s rfl rfl ?_
          refine am_s rfl rfl ?_
          refine s_cge rfl ⟨by omega, by omega⟩ ⟨by omega, by omega⟩ (fun c8 => ?_) (fun c8 => ?_)
          · have hR : fsR s v k := ⟨by omega, by omega, fun z => by omega⟩
            have hS := hsl k (by omega) (by omega) hR
            unfold fsS at hS
            refine am_s rfl rfl ?_
            refine am_s rfl rfl ?_
            refine s_la rfl g (lo_63 (by omega) (by omega)) ⟨by omega, by omega⟩ (by decide) ?_
            refine am_s rfl rfl ?_
            refine s_lsub rfl ?_
            refine am_s rfl rfl ?_
            refine s_gr rfl g rfl rfl ?_
            refine am_s rfl rfl ?_
            refine s_la rfl g rfl ⟨by omega, by omega⟩ (by decide) ?_
            refine s_lsub rfl ?_
            refine am_s rfl rfl ?_
            refine am_s rfl rfl ?_
            refine s_k 1 rfl rfl ?_
            refine s_cne rfl ⟨by omega, by omega⟩ ⟨by omega, by omega⟩ (fun c9 => ?_) (fun c9 => ?_)
            · refine am_s rfl rfl ?_
              refine am_s rfl rfl ?_
              refine s_gl (x := 1) rfl g rfl rfl rfl ?_
              refine s_jge rfl rfl ⟨by omega, by omega⟩ ⟨by omega, by omega⟩ (fun c10 => ?_) (fun c10 => ?_)
              · refine s_inc rfl rfl ?_
                refine am_s rfl rfl ?_
                refine am_lv [(6, _), (5, _), (3, _), (2, _), (1, _), (0, _)] rfl rfl ⟨rfl, rfl, rfl, rfl, rfl, rfl, trivial⟩ ?_
                exact kk () _ (fsI_n hI (fun z => by
                  obtain ⟨z1, z2, z3⟩ := z
                  unfold fsE fsS
                  first | (exfalso; omega) | (rw [if_neg (by omega)]; omega) | (rw [if_pos (by omega)]; omega)))
              · refine am_s rfl rfl ?_
                refine am_s rfl rfl ?_
                refine am_s rfl rfl ?_
                refine am_s rfl rfl ?_
                refine s_cv [_, _, _] [] rfl g (Or.inl rfl) rfl rfl (Nat.le_of_ble_eq_true rfl) rfl rfl (t_keepStep g) ?_
                rintro rv h1 ⟨rfl, rfl⟩
                refine s_inc rfl rfl ?_
                refine am_s rfl rfl ?_
                refine am_lv [(6, _), (5, _), (3, _), (2, _), (1, _), (0, _)] rfl rfl ⟨rfl, rfl, rfl, rfl, rfl, rfl, trivial⟩ ?_
                exact kk () _ (fsI_y hI (by omega) (by omega) hR (by unfold fsE fsS; first | (rw [if_neg (by omega)]; omega) | (rw [if_pos (by omega)]; omega)) (by omega))
            · refine am_s rfl rfl ?_
              refine s_kl 2 rfl rfl ?_
              refine s_ldiv rfl ⟨by omega, by omega⟩ ⟨by decide, by decide⟩ ?_
              refine am_s rfl rfl ?_
              refine am_s rfl rfl ?_
              refine am_s rfl rfl ?_
              refine s_gl (x := 1) rfl g rfl rfl rfl ?_
              refine s_jge rfl rfl ⟨by omega, by omega⟩ ⟨by omega, by omega⟩ (fun c11 => ?_) (fun c11 => ?_)
              · refine s_inc rfl rfl ?_
                refine am_s rfl rfl ?_
                refine am_lv [(6, _), (5, _), (3, _), (2, _), (1, _), (0, _)] rfl rfl ⟨rfl, rfl, rfl, rfl, rfl, rfl, trivial⟩ ?_
                exact kk () _ (fsI_n hI (fun z => by
                  obtain ⟨z1, z2, z3⟩ := z
                  unfold fsE fsS
                  first | (exfalso; omega) | (rw [if_neg (by omega)]; omega) | (rw [if_pos (by omega)]; omega)))
              · refine am_s rfl rfl ?_
                refine am_s rfl rfl ?_
                refine am_s rfl rfl ?_
                refine am_s rfl rfl ?_
                refine s_cv [_, _, _] [] rfl g (Or.inl rfl) rfl rfl (Nat.le_of_ble_eq_true rfl) rfl rfl (t_keepStep g) ?_
                rintro rv h1 ⟨rfl, rfl⟩
                refine s_inc rfl rfl ?_
                refine am_s rfl rfl ?_
                refine am_lv [(6, _), (5, _), (3, _), (2, _), (1, _), (0, _)] rfl rfl ⟨rfl, rfl, rfl, rfl, rfl, rfl, trivial⟩ ?_
                exact kk () _ (fsI_y hI (by omega) (by omega) hR (by unfold fsE fsS; first | (rw [if_neg (by omega)]; omega) | (rw [if_pos (by omega)]; omega)) (by omega))
          · refine am_s rfl rfl ?_
            refine s_inc rfl rfl ?_
            refine am_s rfl rfl ?_
            refine am_lv [(6, _), (5, _), (3, _), (2, _), (1, _), (0, _)] rfl rfl ⟨rfl, rfl, rfl, rfl, rfl, rfl, trivial⟩ ?_
            exact kk () _ (fsI_n hI (fun z => by
              obtain ⟨z1, z2, z3⟩ := z
              unfold fsE fsS
              first | (exfalso; omega) | (rw [if_neg (by omega)]; omega) | (rw [if_pos (by omega)]; omega)))
  · rintro - s1 hI
    simp only
    have hF := hI.1
    have e62 : s1 62 0 = s 62 0 := hI.2.1 0 (by decide) (by decide) (by decide)
    refine am_s rfl rfl ?_
    refine am_s rfl rfl ?_
    refine s_gi (x := 0) rfl g rfl rfl rfl ?_
    refine s_cge rfl ⟨by omega, by omega⟩ ⟨by omega, by omega⟩ (fun c1 => ?_) (fun c1 => absurd c1 (by omega))
    exact am_r rfl rfl ⟨rfl, s1, rfl, by rw [en]; exact hI⟩
