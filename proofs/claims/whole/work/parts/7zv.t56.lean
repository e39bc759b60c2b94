/-! the matcher: the least step -/
theorem fsR_c {s s1 : am_S} (hF : am_Fr [62] s s1) {v w : Int} : fsR s1 v w ↔ fsR s v w := by
  unfold fsR
  rw [hF 86 (by decide), hF 89 (by decide)]
theorem fsS_c {s s1 : am_S} (hF : am_Fr [62] s s1) {v w : Int} : fsS s1 v w = fsS s v w := by
  unfold fsS
  rw [hF (63 + 1 + v.toNat) (fun z => by simp at z; omega), hF 84 (by decide)]
theorem fsE_c {s s1 : am_S} (hF : am_Fr [62] s s1) {v w : Int} : fsE s1 v w = fsE s v w := by
  unfold fsE
  rw [fsS_c hF, hF 86 (by decide), hF 89 (by decide)]
abbrev fdT (s : am_S) (b : Int) : Prop := s 87 b ≠ 0 ∧ s 86 (s 88 b) = b
def fdC (s s' : am_S) : Prop := s' 62 1 = 9223372036854775807 ∨ (∃ b, (20 ≤ b ∧ b < 30) ∧ s 89 b = 2 ∧ fdT s b ∧ s' 62 1 = s 84 b / 2 ∧ s' 62 2 = b ∧ s' 62 3 = -1) ∨ ∃ v w, (0 ≤ v ∧ v < s 62 0) ∧ (0 ≤ w ∧ w < s 62 0) ∧ s 89 (s 86 v) = 1 ∧ fsR s v w ∧ s' 62 1 = fsE s v w ∧ s' 62 2 = v ∧ s' 62 3 = w
def fd1 (s s' : am_S) (k : Int) : Prop := am_Fr [62] s s' ∧ (∀ y, y ≠ 1 → y ≠ 2 → y ≠ 3 → s' 62 y = s 62 y) ∧ (0 ≤ s' 62 1 ∧ s' 62 1 < 9223372036854775808) ∧ (∀ b, 20 ≤ b → b < k → s 89 b = 2 → fdT s b → s' 62 1 ≤ s 84 b / 2) ∧ fdC s s'
def fd2 (s s' : am_S) (k : Int) : Prop := fd1 s s' 30 ∧ ∀ v, 0 ≤ v → v < k → s 89 (s 86 v) = 1 → ∀ w, 0 ≤ w → w < s 62 0 → fsR s v w → s' 62 1 ≤ fsE s v w
theorem fd1_n {s s' : am_S} {k : Int} (h : fd1 s s' k) (hk : s 89 k = 2 → fdT s k → s' 62 1 ≤ s 84 k / 2) : fd1 s s' (k + 1) := by
  obtain ⟨h1, h2, h3, h4, h5⟩ := h
  refine ⟨h1, h2, h3, fun b b0 b1 hm ht => ?_, h5⟩
  by_cases e : b = k
  · rw [e] at hm ht ⊢; exact hk hm ht
  · exact h4 b b0 (by omega) hm ht
theorem fd1_y {s s' : am_S} {k z : Int} (h : fd1 s s' k) (k0 : 20 ≤ k) (k1 : k < 30) (hm : s 89 k = 2) (ht : fdT s k) (hz : z = s 84 k / 2) (z0 : 0 ≤ z) (hlt : z < s' 62 1) : fd1 s (am_w (am_w (am_w s' 62 1 z) 62 2 k) 62 3 (-1)) (k + 1) := by
  obtain ⟨h1, h2, h3, h4, h5⟩ := h
  have e1 : am_w (am_w (am_w s' 62 1 z) 62 2 k) 62 3 (-1) 62 1 = z := by simp [am_w]
  have e2 : am_w (am_w (am_w s' 62 1 z) 62 2 k) 62 3 (-1) 62 2 = k := by simp [am_w]
  have e3 : am_w (am_w (am_w s' 62 1 z) 62 2 k) 62 3 (-1) 62 3 = -1 := by simp [am_w]
  refine ⟨am_Fr_W (am_Fr_W (am_Fr_W h1 (by decide)) (by decide)) (by decide), fun y y1 y2 y3 => ?_, by omega, fun b b0 b1 hm2 ht2 => ?_, Or.inr (Or.inl ⟨k, ⟨k0, k1⟩, hm, ht, by rw [e1, hz], e2, e3⟩)⟩
  · rw [am_w_x y3, am_w_x y2, am_w_x y1]; exact h2 y y1 y2 y3
  · rw [e1]
    by_cases e : b = k
    · rw [e]; omega
    · have := h4 b b0 (by omega) hm2 ht2; omega
theorem fd2_n {s s' : am_S} {k : Int} (h : fd2 s s' k) (hm : s 89 (s 86 k) ≠ 1) : fd2 s s' (k + 1) := by
  refine ⟨h.1, fun v v0 v1 hv => ?_⟩
  by_cases e : v = k
  · rw [e] at hv; exact absurd hv hm
  · exact h.2 v v0 (by omega) hv
theorem fd2_y {s s1 s2 : am_S} {k : Int} (h : fd2 s s1 k) (k0 : 0 ≤ k) (k1 : k < s 62 0) (hm : s 89 (s 86 k) = 1) (hs : ∀ w, 0 ≤ w → w < s 62 0 → fsR s k w → 0 ≤ fsS s k w ∧ fsS s k w < 4000000000000000000) (h2 : fsI s1 s2 k (s 62 0)) : fd2 s s2 (k + 1) := by
  obtain ⟨⟨h1, h3, h4, h5, h6⟩, h7⟩ := h
  have e62 : s1 62 0 = s 62 0 := h3 0 (by decide) (by decide) (by decide)
  have q0 := fsI_r h2 h4 (fun w w0 w1 hR => by rw [fsS_c h1]; exact hs w w0 (by omega) ((fsR_c h1).mp hR))
  obtain ⟨i1, i2, i3, i4, i5⟩ := h2
  refine ⟨⟨am_Fr_u h1 i1, fun y y1 y2 y3 => (i2 y y1 y2 y3).trans (h3 y y1 y2 y3), q0, fun b b0 b1 hb ht => ?_, ?_⟩, fun v v0 v1 hv w w0 w1 hR => ?_⟩
  · have := h5 b b0 b1 hb ht; omega
  · rcases i5 with ⟨z1, z2, z3⟩ | ⟨w, w0, w1, hR, z1, z2, z3⟩
    · unfold fdC at h6 ⊢
      rw [z1, z2, z3]; exact h6
    · exact Or.inr (Or.inr ⟨k, w, ⟨k0, k1⟩, ⟨w0, by omega⟩, hm, (fsR_c h1).mp hR, by rw [z1, fsE_c h1], z2, z3⟩)
  · by_cases e : v = k
    · rw [e] at hR ⊢
      have := i4 w w0 w1 ((fsR_c h1).mpr hR)
      rw [fsE_c h1] at this; exact this
    · have := h7 v v0 (by omega) hv w w0 w1 hR; omega
set_option maxHeartbeats 4000000 in
theorem t_findStep {d : Nat} {E : am_Ev} {s : am_S} (g : am_Eg E) (hn : 0 ≤ s 62 0 ∧ s 62 0 ≤ 20) (hr : ∀ x, 0 ≤ x → x < 30 → 0 ≤ s 87 x ∧ s 87 x < 1048576) (hb : ∀ x, 0 ≤ x → x < 30 → s 87 x ≠ 0 → (0 ≤ s 88 x ∧ s 88 x < 20) ∧ (0 ≤ s 86 (s 88 x) ∧ s 86 (s 88 x) < 30)) (hT : ∀ w, 0 ≤ w → w < s 62 0 → 0 ≤ s 86 w ∧ s 86 w < 30) (hK : ∀ x, 0 ≤ x → x < 30 → 0 ≤ s 89 x ∧ s 89 x ≤ 2) (hP : ∀ b, 20 ≤ b → b < 30 → s 89 b = 2 → fdT s b → 0 ≤ s 84 b ∧ s 84 b < 4000000000000000000) (hsl : ∀ v, 0 ≤ v → v < s 62 0 → s 89 (s 86 v) = 1 → ∀ w, 0 ≤ w → w < s 62 0 → fsR s v w → 0 ≤ fsS s v w ∧ fsS s v w < 4000000000000000000) : am_wp (d + 2) 32 0 (lv_args 0 [.ref 62]) [] (am_hp E s) (fun rv h => rv = none ∧ ∃ s', h = am_hp E s' ∧ fd1 s s' 30 ∧ (s' 62 1 = 0 ∨ ∀ v, 0 ≤ v → v < s 62 0 → s 89 (s 86 v) = 1 → ∀ w, 0 ≤ w → w < s 62 0 → fsR s v w → s' 62 1 ≤ fsE s v w)) := by
  obtain ⟨n, en⟩ : ∃ n : Nat, s 62 0 = n := ⟨(s 62 0).toNat, by omega⟩
  refine am_s rfl rfl ?_
  refine s_kl 9223372036854775807 rfl rfl ?_
  refine s_pl (x := 1) rfl g rfl rfl rfl rfl ?_
  refine s_k 20 rfl rfl ?_
  refine am_s rfl rfl ?_
  refine am_lv [(1, .int (iI (((20 : Nat) : Int) : Int))), (0, .ref 62)] rfl rfl ⟨rfl, rfl, trivial⟩ ?_
  refine s_loop (X := Unit) (fun k _ s' => fd1 s s' k) (fun k _ => [(1, .int (iI (k : Int))), (0, .ref 62)]) (lo := 20) (hi := 30) (x := ()) (by omega) ⟨am_Fr_w (by decide), fun y y1 y2 y3 => am_w_x y1, by rw [am_w_eq]; exact ⟨by decide, by decide⟩, fun b b0 b1 => by omega, Or.inl (am_w_eq _ _ _ _)⟩ ?_ ?_
  · rintro k - s1 hk0 hk1 hI kk
    simp only at kk ⊢
    have hF := hI.1
    have e62 : s1 62 0 = s 62 0 := hI.2.1 0 (by decide) (by decide) (by decide)
    have q0 := hI.2.2.1
    have e84 : s1 84 = s 84 := hF 84 (by decide)
    have e86 : s1 86 = s 86 := hF 86 (by decide)
    have e87 : s1 87 = s 87 := hF 87 (by decide)
    have e88 : s1 88 = s 88 := hF 88 (by decide)
    have e89 : s1 89 = s 89 := hF 89 (by decide)
    have q1 : s1 89 k = s 89 k := by rw [e89]
    have q2 : s1 84 k = s 84 k := by rw [e84]
    have hk := hK k (by omega) (by omega)
    refine am_s rfl rfl ?_
    refine s_k 30 rfl rfl ?_
    refine s_cge rfl ⟨by omega, by omega⟩ ⟨by omega, by omega⟩ (fun c1 => absurd c1 (by omega)) (fun c1 => ?_)
    refine am_s rfl rfl ?_
    refine s_gr rfl g rfl rfl ?_
    refine am_s rfl rfl ?_
    refine s_ia rfl g rfl ⟨by omega, by omega⟩ (by decide) ?_
    refine s_k 2 rfl rfl ?_
    refine s_cne rfl ⟨by omega, by omega⟩ ⟨by omega, by omega⟩ (fun c2 => ?_) (fun c2 => ?_)
    · refine s_inc rfl rfl ?_
      refine am_s rfl rfl ?_
      refine am_lv [(1, _), (0, _)] rfl rfl ⟨rfl, rfl, trivial⟩ ?_
      exact kk () _ (fd1_n hI (fun z1 z2 => by
        first | (exfalso; omega) | (rcases hr2 with ⟨z3, -⟩ | ⟨-, z3⟩ <;> first | (exfalso; omega) | exact absurd z2 z3) | omega))
    · refine am_s rfl rfl ?_
      refine am_s rfl rfl ?_
      refine s_cv [_] [] rfl g (Or.inl rfl) rfl rfl (Nat.le_of_ble_eq_true rfl) rfl rfl (t_isTop (PP := fun rv h => (∃ r2 : Int, rv = some (.int (iI r2)) ∧ ((r2 = 1 ∧ fdT s k) ∨ (r2 = 0 ∧ ¬ fdT s k))) ∧ h = am_hp E s1) g ⟨by omega, by omega⟩ (by rw [e87]; exact hr k (by omega) (by omega)) (by rw [e87, e88, e86]; exact hb k (by omega) (by omega)) (by rw [e87, e88, e86]; exact fun z1 z2 => ⟨⟨1, rfl, Or.inl ⟨rfl, z1, z2⟩⟩, rfl⟩) (by rw [e87, e88, e86]; exact fun z => ⟨⟨0, rfl, Or.inr ⟨rfl, z⟩⟩, rfl⟩)) ?_
      rintro rv h1 ⟨⟨r2, rfl, hr2⟩, rfl⟩
      refine s_zeq rfl ⟨by omega, by omega⟩ (fun c3 => ?_) (fun c3 => ?_)
      · refine s_inc rfl rfl ?_
        refine am_s rfl rfl ?_
        refine am_lv [(1, _), (0, _)] rfl rfl ⟨rfl, rfl, trivial⟩ ?_
        exact kk () _ (fd1_n hI (fun z1 z2 => by
          first | (exfalso; omega) | (rcases hr2 with ⟨z3, -⟩ | ⟨-, z3⟩ <;> first | (exfalso; omega) | exact absurd z2 z3) | omega))
      · have ht1 : fdT s k := by
          rcases hr2 with ⟨-, z⟩ | ⟨z, -⟩
          · exact z
          · exact absurd z (by omega)
        have hp := hP k (by omega) (by omega) (by omega) ht1
        refine am_s rfl rfl ?_
        refine s_gr rfl g rfl rfl ?_
        refine am_s rfl rfl ?_
        refine s_la rfl g rfl ⟨by omega, by omega⟩ (by decide) ?_
        refine s_kl 2 rfl rfl ?_
        refine s_ldiv rfl ⟨by omega, by omega⟩ ⟨by decide, by decide⟩ ?_
        refine am_s rfl rfl ?_
        refine s_gl (x := 1) rfl g rfl rfl rfl ?_
        refine s_jge rfl rfl ⟨by omega, by omega⟩ ⟨by omega, by omega⟩ (fun c4 => ?_) (fun c4 => ?_)
        · refine s_inc rfl rfl ?_
          refine am_s rfl rfl ?_
          refine am_lv [(1, _), (0, _)] rfl rfl ⟨rfl, rfl, trivial⟩ ?_
          exact kk () _ (fd1_n hI (fun z1 z2 => by
            first | (exfalso; omega) | (rcases hr2 with ⟨z3, -⟩ | ⟨-, z3⟩ <;> first | (exfalso; omega) | exact absurd z2 z3) | omega))
        · refine am_s rfl rfl ?_
          refine am_s rfl rfl ?_
          refine s_gr rfl g rfl rfl ?_
          refine am_s rfl rfl ?_
          refine s_la rfl g rfl ⟨by omega, by omega⟩ (by decide) ?_
          refine s_kl 2 rfl rfl ?_
          refine s_ldiv rfl ⟨by omega, by omega⟩ ⟨by decide, by decide⟩ ?_
          refine am_s rfl rfl ?_
          refine s_k (-1) rfl rfl ?_
          refine s_cv [_, _, _] [] rfl g (Or.inl rfl) rfl rfl (Nat.le_of_ble_eq_true rfl) rfl rfl (t_keepStep g) ?_
          rintro rv h1 ⟨rfl, rfl⟩
          refine s_inc rfl rfl ?_
          refine am_s rfl rfl ?_
          refine am_lv [(1, _), (0, _)] rfl rfl ⟨rfl, rfl, trivial⟩ ?_
          exact kk () _ (fd1_y hI (by omega) (by omega) (by omega) ht1 (by omega) (by omega) (by omega))
  · rintro - s1 hI
    simp only
    refine am_s rfl rfl ?_
    refine s_k 30 rfl rfl ?_
    refine s_cge rfl ⟨by omega, by omega⟩ ⟨by omega, by omega⟩ (fun c1 => ?_) (fun c1 => absurd c1 (by omega))
    refine s_k 0 rfl rfl ?_
    refine am_s rfl rfl ?_
    refine am_lv [(1, .int (iI (((0 : Nat) : Int) : Int))), (0, .ref 62)] rfl rfl ⟨rfl, rfl, trivial⟩ ?_
    refine s_loop (X := Unit) (fun k _ s' => fd2 s s' k) (fun k _ => [(1, .int (iI (k : Int))), (0, .ref 62)]) (hi := n) (x := ()) (Nat.zero_le n) ⟨hI, fun v v0 v1 => by omega⟩ ?_ ?_
    · rintro k - s1 hk0 hk1 hJ kk
      simp only at kk ⊢
      have hI := hJ.1
      have hF := hI.1
      have e62 : s1 62 0 = s 62 0 := hI.2.1 0 (by decide) (by decide) (by decide)
      have q0 := hI.2.2.1
      have e84 : s1 84 = s 84 := hF 84 (by decide)
      have e86 : s1 86 = s 86 := hF 86 (by decide)
      have e87 : s1 87 = s 87 := hF 87 (by decide)
      have e88 : s1 88 = s 88 := hF 88 (by decide)
      have e89 : s1 89 = s 89 := hF 89 (by decide)
      have ht := hT k (by omega) (by omega)
      have hk := hK (s 86 k) (by omega) (by omega)
      have q1 : s1 86 k = s 86 k := by rw [e86]
      have q2 : s1 89 (s1 86 k) = s 89 (s 86 k) := by rw [e89, e86]
      refine am_s rfl rfl ?_
      refine am_s rfl rfl ?_
      refine s_gi (x := 0) rfl g rfl rfl rfl ?_
      refine s_cge rfl ⟨by omega, by omega⟩ ⟨by omega, by omega⟩ (fun c1 => absurd c1 (by omega)) (fun c1 => ?_)
      refine am_s rfl rfl ?_
      refine s_gl (x := 1) rfl g rfl rfl rfl ?_
      refine s_kl 0 rfl rfl ?_
      refine s_jle rfl rfl ⟨by omega, by omega⟩ ⟨by omega, by omega⟩ (fun c2 => ?_) (fun c2 => ?_)
      · exact am_r rfl rfl ⟨rfl, s1, rfl, hI, Or.inl (by omega)⟩
      · refine am_s rfl rfl ?_
        refine s_gr rfl g rfl rfl ?_
        refine am_s rfl rfl ?_
        refine s_gr rfl g rfl rfl ?_
        refine am_s rfl rfl ?_
        refine s_ia rfl g rfl ⟨by omega, by omega⟩ (by decide) ?_
        refine s_ia rfl g rfl ⟨by omega, by omega⟩ (by decide) ?_
        refine s_k 1 rfl rfl ?_
        refine s_cne rfl ⟨by omega, by omega⟩ ⟨by omega, by omega⟩ (fun c3 => ?_) (fun c3 => ?_)
        · refine s_inc rfl rfl ?_
          refine am_s rfl rfl ?_
          refine am_lv [(1, _), (0, _)] rfl rfl ⟨rfl, rfl, trivial⟩ ?_
          exact kk () _ (fd2_n hJ (by omega))
        · refine am_s rfl rfl ?_
          refine am_s rfl rfl ?_
          refine s_cv [_] [] rfl g (Or.inl rfl) rfl rfl (Nat.le_of_ble_eq_true rfl) rfl rfl (t_findStepAt g ⟨by omega, by omega⟩ ⟨by omega, by omega⟩ (fun w w0 w1 => by rw [e86]; exact hT w w0 (by omega)) (fun x x0 x1 => by rw [e89]; exact hK x x0 x1) q0 (fun w w0 w1 hR => by rw [fsS_c hF]; exact hsl k (by omega) (by omega) (by omega) w w0 (by omega) ((fsR_c hF).mp hR))) ?_
          rintro rv h1 ⟨rfl, s3, rfl, hI3⟩
          rw [e62] at hI3
          refine s_inc rfl rfl ?_
          refine am_s rfl rfl ?_
          refine am_lv [(1, _), (0, _)] rfl rfl ⟨rfl, rfl, trivial⟩ ?_
          exact kk () _ (fd2_y hJ (by omega) (by omega) (by omega) (hsl k (by omega) (by omega) (by omega)) hI3)
    · rintro - s1 hJ
      simp only
      have hI := hJ.1
      have hF := hI.1
      have e62 : s1 62 0 = s 62 0 := hI.2.1 0 (by decide) (by decide) (by decide)
      have q0 := hI.2.2.1
      have e84 : s1 84 = s 84 := hF 84 (by decide)
      have e86 : s1 86 = s 86 := hF 86 (by decide)
      have e87 : s1 87 = s 87 := hF 87 (by decide)
      have e88 : s1 88 = s 88 := hF 88 (by decide)
      have e89 : s1 89 = s 89 := hF 89 (by decide)
      refine am_s rfl rfl ?_
      refine am_s rfl rfl ?_
      refine s_gi (x := 0) rfl g rfl rfl rfl ?_
      refine s_cge rfl ⟨by omega, by omega⟩ ⟨by omega, by omega⟩ (fun c1 => ?_) (fun c1 => absurd c1 (by omega))
      exact am_r rfl rfl ⟨rfl, s1, rfl, hI, Or.inr (by rw [← en] at hJ; exact hJ.2)⟩
