/-! build of the other one: all rules -/
theorem t_b43 {d : Nat} {E : am_Ev} {s : am_S} {ru ci : Int} {PP : Option Value → am_H → Prop} (g : am_Eg E) (hx : bHy s) (hru : 0 ≤ ru ∧ ru ≤ 3) (hci : ru = 1 ∨ ru = 2 → 0 ≤ ci ∧ ci < s 168 1) (h3 : ∀ s1, am_Fm [174] [12] s s1 → fl_is (s 168 1) (my s) (s1 168 12) (s1 174 0) (s1 174 1) (s1 174 2) → s1 168 12 ≠ 0 → PP (some (.long (lI (-103)))) (am_hp E s1)) (h4 : ∀ s1 s4 s7, am_Fm [174] [12] s s1 → fl_is (s 168 1) (my s) (s1 168 12) (s1 174 0) (s1 174 1) (s1 174 2) → s1 168 12 = 0 → bS1 ru s1 s4 → am_Fm [183, 184, 186, 187, 188, 189, 190] [29] s4 s7 → s7 168 29 = 1 → bT (s 168 1).toNat (my s1) (s4 192) (s4 178) ru ci (s7 183) → PP (some (.long (lI (tl (s 168 1) (my s1) (s7 183) (s 168 1).toNat)))) (am_hp E s7)) : am_wp (d + 6) 204 43 (lv_args 0 [.ref 168, .int (iI ru), .int (iI ci)]) [] (am_hp E s) PP := by
  refine am_s rfl rfl ?_
  refine s_cv [] [] rfl g (Or.inl rfl) rfl rfl (Nat.le_of_ble_eq_true rfl) rfl rfl (t_soundM (d := d + 3) g hx.hm) ?_
  rintro rv h1 ⟨s1, rfl, hF, hfl, hh⟩
  rcases hh with ⟨hz, rfl⟩ | ⟨hz, rfl⟩
  · refine s_zne rfl ⟨by omega, by omega⟩ (fun c1 => ?_) (fun c1 => absurd c1 (by omega))
    have hx1 := bHy_F hx hF
    have m1 := hx.hm.1
    have e1 : s1 168 1 = s 168 1 := hF.2 1 (by decide)
    have en : s1 168 1 = ((s 168 1).toNat : Int) := by rw [e1]; omega
    have nn : (((s 168 1).toNat : Nat) : Int) = s 168 1 := by omega
    have ey : my s1 = my s := by funext a b; unfold my; rw [hF.1 169 (by decide)]
    have hs : fl_sym (s1 168 1) (my s1) := by
      rw [e1, ey]
      rcases hfl with q | q | q | q
      · exact q.2.2.2.2.2.1
      · omega
      · omega
      · omega
    have cs : ru = 0 ∨ ru = 1 ∨ ru = 2 ∨ ru = 3 := by omega
    have h5 : ∀ s4 s7, bS1 ru s1 s4 → am_Fm [183, 184, 186, 187, 188, 189, 190] [29] s4 s7 → s7 168 29 = 1 → bT (s 168 1).toNat (my s1) (s4 192) (s4 178) ru ci (s7 183) → PP (some (.long (lI (tl (((s 168 1).toNat : Nat) : Int) (my s1) (s7 183) (s 168 1).toNat)))) (am_hp E s7) := fun s4 s7 a b c e => by rw [nn]; exact h4 s1 s4 s7 hF hfl hz a b c e
    rcases cs with rfl | rfl | rfl | rfl
    · exact t_bM0 (d := d) g hx1 en (fun s4 s7 a b c e => h5 s4 s7 a b c e)
    · exact t_bM1 (d := d) g hx1 en (by rw [nn]; exact hci (Or.inl rfl)) (fun s4 s7 a b c e => h5 s4 s7 a b c e)
    · exact t_bM2 (d := d) g hx1 en (by rw [nn]; exact hci (Or.inr rfl)) hs (fun s4 s7 a b c e => h5 s4 s7 a b c e)
    · exact t_bM3 (d := d) g hx1 en (fun s4 s7 a b c e => h5 s4 s7 a b c e)
  · refine s_zne rfl ⟨by omega, by omega⟩ (fun c1 => absurd c1 (by omega)) (fun c1 => ?_)
    refine s_kl (-103) rfl rfl ?_
    exact am_r rfl rfl (h3 s1 hF hfl hz)
theorem t_buildM0 {d : Nat} {E : am_Ev} {s : am_S} {ru ci : Int} {PP : Option Value → am_H → Prop} (g : am_Eg E) (hx : bHy s) (hr : am_R ru) (hc : am_R ci) (h1 : ¬ (0 ≤ ru ∧ ru ≤ 3) → PP (some (.long (lI (-102)))) (am_hp E s)) (h2 : (0 ≤ ru ∧ ru ≤ 3 ∧ (ru = 1 ∨ ru = 2)) → ¬ (0 ≤ ci ∧ ci < s 168 1) → PP (some (.long (lI (-101)))) (am_hp E s)) (h3 : 0 ≤ ru ∧ ru ≤ 3 → (ru = 1 ∨ ru = 2 → 0 ≤ ci ∧ ci < s 168 1) → ∀ s1, am_Fm [174] [12] s s1 → fl_is (s 168 1) (my s) (s1 168 12) (s1 174 0) (s1 174 1) (s1 174 2) → s1 168 12 ≠ 0 → PP (some (.long (lI (-103)))) (am_hp E s1)) (h4 : 0 ≤ ru ∧ ru ≤ 3 → (ru = 1 ∨ ru = 2 → 0 ≤ ci ∧ ci < s 168 1) → ∀ s1 s4 s7, am_Fm [174] [12] s s1 → fl_is (s 168 1) (my s) (s1 168 12) (s1 174 0) (s1 174 1) (s1 174 2) → s1 168 12 = 0 → bS1 ru s1 s4 → am_Fm [183, 184, 186, 187, 188, 189, 190] [29] s4 s7 → s7 168 29 = 1 → bT (s 168 1).toNat (my s1) (s4 192) (s4 178) ru ci (s7 183) → PP (some (.long (lI (tl (s 168 1) (my s1) (s7 183) (s 168 1).toNat)))) (am_hp E s7)) : am_wp (d + 6) 204 5 (lv_args 0 [.ref 168, .int (iI ru), .int (iI ci)]) [] (am_hp E s) PP := by
  refine am_s rfl rfl ?_
  refine s_i2l rfl hr ?_
  refine s_kl 0 rfl rfl ?_
  refine s_kl 3 rfl rfl ?_
  refine am_cs (As := [_, _, _]) (rest := []) rfl (Or.inl rfl) rfl rfl (Nat.le_of_ble_eq_true rfl) rfl (t_within (a := ru) (lo := 0) (hi := 3) ⟨by have := hr.1; omega, by have := hr.2; omega⟩ ⟨by decide, by decide⟩ ⟨by decide, by decide⟩) ?_
  rintro rv h9 ⟨rfl, rfl⟩
  by_cases q : 0 ≤ ru ∧ ru ≤ 3
  · rw [if_pos q]
    refine s_zne rfl ⟨by decide, by decide⟩ (fun c1 => ?_) (fun c1 => absurd c1 (by omega))
    refine am_s rfl rfl ?_
    refine s_k 1 rfl rfl ?_
    refine s_ceq rfl hr ⟨by decide, by decide⟩ (fun c2 => ?_) (fun c2 => ?_)
    · refine am_s rfl rfl ?_
      refine am_s rfl rfl ?_
      refine s_cv [_] [] rfl g (Or.inl rfl) rfl rfl (Nat.le_of_ble_eq_true rfl) rfl rfl (t_cityM (s := s) g hc ⟨hx.hm.1, hx.hm.2.1⟩) ?_
      rintro rv h9 ⟨rfl, rfl⟩
      by_cases z : 0 ≤ ci ∧ ci < s 168 1
      · rw [if_pos z]
        refine s_zne rfl ⟨by decide, by decide⟩ (fun c1 => ?_) (fun c1 => absurd c1 (by omega))
        exact t_b43 g hx (by omega) (fun _ => z) (h3 (by omega) (fun _ => z)) (h4 (by omega) (fun _ => z))
      · rw [if_neg z]
        refine s_zne rfl ⟨by decide, by decide⟩ (fun c1 => absurd c1 (by omega)) (fun c1 => ?_)
        refine s_kl (-101) rfl rfl ?_
        exact am_r rfl rfl (h2 (by omega) z)
    · refine am_s rfl rfl ?_
      refine s_k 2 rfl rfl ?_
      refine s_cne rfl hr ⟨by decide, by decide⟩ (fun c3 => ?_) (fun c3 => ?_)
      · exact t_b43 g hx (by omega) (fun z => by omega) (h3 (by omega) (fun z => by omega)) (h4 (by omega) (fun z => by omega))
      · refine am_s rfl rfl ?_
        refine am_s rfl rfl ?_
        refine s_cv [_] [] rfl g (Or.inl rfl) rfl rfl (Nat.le_of_ble_eq_true rfl) rfl rfl (t_cityM (s := s) g hc ⟨hx.hm.1, hx.hm.2.1⟩) ?_
        rintro rv h9 ⟨rfl, rfl⟩
        by_cases z : 0 ≤ ci ∧ ci < s 168 1
        · rw [if_pos z]
          refine s_zne rfl ⟨by decide, by decide⟩ (fun c1 => ?_) (fun c1 => absurd c1 (by omega))
          exact t_b43 g hx (by omega) (fun _ => z) (h3 (by omega) (fun _ => z)) (h4 (by omega) (fun _ => z))
        · rw [if_neg z]
          refine s_zne rfl ⟨by decide, by decide⟩ (fun c1 => absurd c1 (by omega)) (fun c1 => ?_)
          refine s_kl (-101) rfl rfl ?_
          exact am_r rfl rfl (h2 (by omega) z)
  · rw [if_neg q]
    refine s_zne rfl ⟨by decide, by decide⟩ (fun c1 => absurd c1 (by omega)) (fun c1 => ?_)
    refine s_kl (-102) rfl rfl ?_
    exact am_r rfl rfl (h1 q)
theorem t_buildM {d : Nat} {E : am_Ev} {s : am_S} {ru ci : Int} {PP : Option Value → am_H → Prop} (g : am_Eg E) (hx : bHy s) (hr : am_R ru) (hc : am_R ci) (h1 : ¬ (0 ≤ ru ∧ ru ≤ 3) → PP (some (.long (lI (-102)))) (am_hp E (am_w s 168 0 0))) (h2 : (0 ≤ ru ∧ ru ≤ 3 ∧ (ru = 1 ∨ ru = 2)) → ¬ (0 ≤ ci ∧ ci < (am_w s 168 0 0) 168 1) → PP (some (.long (lI (-101)))) (am_hp E (am_w s 168 0 0))) (h3 : 0 ≤ ru ∧ ru ≤ 3 → (ru = 1 ∨ ru = 2 → 0 ≤ ci ∧ ci < (am_w s 168 0 0) 168 1) → ∀ s1, am_Fm [174] [12] (am_w s 168 0 0) s1 → fl_is ((am_w s 168 0 0) 168 1) (my (am_w s 168 0 0)) (s1 168 12) (s1 174 0) (s1 174 1) (s1 174 2) → s1 168 12 ≠ 0 → PP (some (.long (lI (-103)))) (am_hp E s1)) (h4 : 0 ≤ ru ∧ ru ≤ 3 → (ru = 1 ∨ ru = 2 → 0 ≤ ci ∧ ci < (am_w s 168 0 0) 168 1) → ∀ s1 s4 s7, am_Fm [174] [12] (am_w s 168 0 0) s1 → fl_is ((am_w s 168 0 0) 168 1) (my (am_w s 168 0 0)) (s1 168 12) (s1 174 0) (s1 174 1) (s1 174 2) → s1 168 12 = 0 → bS1 ru s1 s4 → am_Fm [183, 184, 186, 187, 188, 189, 190] [29] s4 s7 → s7 168 29 = 1 → bT ((am_w s 168 0 0) 168 1).toNat (my s1) (s4 192) (s4 178) ru ci (s7 183) → PP (some (.long (lI (tl ((am_w s 168 0 0) 168 1) (my s1) (s7 183) ((am_w s 168 0 0) 168 1).toNat)))) (am_hp E s7)) : am_wp (d + 6) 204 0 (lv_args 0 [.ref 168, .int (iI ru), .int (iI ci)]) [] (am_hp E s) PP := by
  refine am_s rfl rfl ?_
  refine s_k 0 rfl rfl ?_
  refine s_pi (x := 0) rfl g rfl rfl rfl rfl ?_
  exact t_buildM0 (s := am_w s 168 0 0) g (bHy_0 hx) hr hc h1 h2 h3 h4
