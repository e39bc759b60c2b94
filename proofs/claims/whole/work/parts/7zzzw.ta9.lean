/-! best of the other one -/
theorem my_0 {s : am_S} (h : my_ok s) : my_ok (am_w s 168 0 0) := by
  have e : (am_w s 168 0 0) 168 1 = s 168 1 := am_w_x (by decide)
  have e2 : my (am_w s 168 0 0) = my s := by funext a b; unfold my; rw [am_w_row (by decide)]
  unfold my_ok
  rw [e, e2]; exact h
theorem t_bestM0 {d : Nat} {E : am_Ev} {s : am_S} {PP : Option Value → am_H → Prop} (g : am_Eg E) (hm : my_ok s) (h1' : ∀ s1, am_Fm [174] [12] s s1 → fl_is (s 168 1) (my s) (s1 168 12) (s1 174 0) (s1 174 1) (s1 174 2) → s1 168 12 ≠ 0 → PP (some (.long (lI (-103)))) (am_hp E s1)) (h2 : ∀ s1, am_Fm [174] [12] s s1 → fl_is (s 168 1) (my s) (s1 168 12) (s1 174 0) (s1 174 1) (s1 174 2) → s1 168 12 = 0 → 11 < s 168 1 → PP (some (.long (lI (-104)))) (am_hp E s1)) (h3 : ∀ s1 s7, am_Fm [174] [12] s s1 → fl_is (s 168 1) (my s) (s1 168 12) (s1 174 0) (s1 174 1) (s1 174 2) → s1 168 12 = 0 → s 168 1 ≤ 11 → am_Fm [183, 193] [29] s1 s7 → s7 168 29 = 1 → wyD (s 168 1).toNat (my s) (s7 183) → PP (some (.long (lI (tl (s 168 1) (my s) (s7 183) (s 168 1).toNat)))) (am_hp E s7)) : am_wp (d + 3) 213 5 (lv_args 0 [.ref 168]) [] (am_hp E s) PP := by
  refine am_s rfl rfl ?_
  refine s_cv [] [] rfl g (Or.inl rfl) rfl rfl (Nat.le_of_ble_eq_true rfl) rfl rfl (t_soundM (d := d) g hm) ?_
  rintro rv h1 ⟨s1, rfl, hF, hfl, hh⟩
  have m1 := hm.1
  have m2 := hm.2.1
  have e1 : s1 168 1 = s 168 1 := hF.2 1 (by decide)
  rcases hh with ⟨hz, rfl⟩ | ⟨hz, rfl⟩
  · refine s_zne rfl ⟨by omega, by omega⟩ (fun c1 => ?_) (fun c1 => absurd c1 (by omega))
    refine am_s rfl rfl ?_
    refine s_gi (x := 1) rfl g rfl rfl rfl ?_
    refine s_k 11 rfl rfl ?_
    refine s_cle rfl ⟨by omega, by omega⟩ ⟨by omega, by omega⟩ (fun c2 => ?_) (fun c2 => ?_)
    · have ey : my s1 = my s := by funext a b; unfold my; rw [hF.1 169 (by decide)]
      have hD : ∀ a b, 0 ≤ a → a < s 168 1 → 0 ≤ b → b < s 168 1 → 0 ≤ my s1 a b ∧ my s1 a b < 2147483648 := by rw [ey]; exact hm.2.2
      refine t_bM29 (d := d + 2) (s := s1) (n := s 168 1) g (by omega) e1 hD ?_
      intro s2 hF2 hU
      have e2 : s2 168 1 = s 168 1 := by rw [hF2 168 (by decide)]; exact e1
      have ey2 : my s2 = my s := by funext a b; unfold my; rw [hF2 169 (by decide), hF.1 169 (by decide)]
      rw [ey] at hU hD
      refine t_bM177 (d := d + 2) (s := s2) (n := s 168 1) (N := (s 168 1).toNat) g (by omega) e2 (by rw [ey2]; exact hD) (by omega) (by rw [ey2]; exact hU) ?_
      intro s7 hF7 h29 hW
      rw [ey2] at hW ⊢
      exact h3 s1 s7 hF hfl hz (by omega) ⟨fun q hq => by rw [hF7.1 q (fun z => hq (by simp at z ⊢; omega)), hF2 q (fun z => hq (by simp at z ⊢; omega))], fun y hy => by rw [hF7.2 y hy, hF2 168 (by decide)]⟩ h29 hW
    · refine s_kl (-104) rfl rfl ?_
      exact am_r rfl rfl (h2 s1 hF hfl hz (by omega))
  · refine s_zne rfl ⟨by omega, by omega⟩ (fun c1 => absurd c1 (by omega)) (fun c1 => ?_)
    refine s_kl (-103) rfl rfl ?_
    exact am_r rfl rfl (h1' s1 hF hfl hz)
theorem t_bestM {d : Nat} {E : am_Ev} {s : am_S} {PP : Option Value → am_H → Prop} (g : am_Eg E) (hm : my_ok s) (h1' : ∀ s1, am_Fm [174] [12] (am_w s 168 0 0) s1 → fl_is ((am_w s 168 0 0) 168 1) (my (am_w s 168 0 0)) (s1 168 12) (s1 174 0) (s1 174 1) (s1 174 2) → s1 168 12 ≠ 0 → PP (some (.long (lI (-103)))) (am_hp E s1)) (h2 : ∀ s1, am_Fm [174] [12] (am_w s 168 0 0) s1 → fl_is ((am_w s 168 0 0) 168 1) (my (am_w s 168 0 0)) (s1 168 12) (s1 174 0) (s1 174 1) (s1 174 2) → s1 168 12 = 0 → 11 < (am_w s 168 0 0) 168 1 → PP (some (.long (lI (-104)))) (am_hp E s1)) (h3 : ∀ s1 s7, am_Fm [174] [12] (am_w s 168 0 0) s1 → fl_is ((am_w s 168 0 0) 168 1) (my (am_w s 168 0 0)) (s1 168 12) (s1 174 0) (s1 174 1) (s1 174 2) → s1 168 12 = 0 → (am_w s 168 0 0) 168 1 ≤ 11 → am_Fm [183, 193] [29] s1 s7 → s7 168 29 = 1 → wyD ((am_w s 168 0 0) 168 1).toNat (my (am_w s 168 0 0)) (s7 183) → PP (some (.long (lI (tl ((am_w s 168 0 0) 168 1) (my (am_w s 168 0 0)) (s7 183) ((am_w s 168 0 0) 168 1).toNat)))) (am_hp E s7)) : am_wp (d + 3) 213 0 (lv_args 0 [.ref 168]) [] (am_hp E s) PP := by
  refine am_s rfl rfl ?_
  refine s_k 0 rfl rfl ?_
  refine s_pi (x := 0) rfl g rfl rfl rfl rfl ?_
  exact t_bestM0 (s := am_w s 168 0 0) g (my_0 hm) h1' h2 h3
