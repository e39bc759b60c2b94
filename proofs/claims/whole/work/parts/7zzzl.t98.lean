/-! build, both: all rules -/
theorem t_b35 {d : Nat} {E : am_Ev} {s : am_S} {ru ci : Int} {PP : Option Value → am_H → Prop} (g : am_Eg E) (hx : bHx s) (hl : lk_ok s) (hru : 0 ≤ ru ∧ ru ≤ 3) (hci : ru = 1 ∨ ru = 2 → 0 ≤ ci ∧ ci < s 25 0) (h3 : ∀ s1, lk_to s s1 → s1 47 0 ≠ 0 → PP (some (.long (lI (-103)))) (am_hp E s1)) (h4 : ∀ s1 s4 s5, lk_to s s1 → s1 47 0 = 0 → bS0 ru s1 s4 → am_Fr [152, 154, 155, 156, 157] s4 s5 → bT (s 25 0).toNat (mx s1) (s4 50) (s4 60) ru ci (s5 152) → PP (some (.long (lI (tl (s 25 0) (mx s1) (s5 152) (s 25 0).toNat)))) (am_hp E s5)) : am_wp (d + 12 + 1 + 1 + 1 + 1) 141 35 (lv_args 0 [.ref 1, .int (iI ru), .int (iI ci)]) [] (am_hp E s) PP := by
  refine am_s rfl rfl ?_
  refine s_gr rfl g rfl rfl ?_
  refine s_cv [] [] rfl g (Or.inl rfl) rfl rfl (Nat.le_of_ble_eq_true rfl) rfl rfl (t_isSound g hx.hm hl) ?_
  rintro rv h1 ⟨s1, rfl, hk, hh⟩
  rcases hh with ⟨hz, rfl⟩ | ⟨hz, rfl⟩
  · refine s_zne rfl ⟨by omega, by omega⟩ (fun c1 => ?_) (fun c1 => absurd c1 (by omega))
    have hx1 := bHx_lk hx hk
    have en : s1 25 0 = ((s 25 0).toNat : Int) := by have := hx.hm.1; rw [hk.2.1]; omega
    have nn : (((s 25 0).toNat : Nat) : Int) = s 25 0 := by have := hx.hm.1; omega
    have h4 := h4 s1
    rw [← nn] at h4
    have cs : ru = 0 ∨ ru = 1 ∨ ru = 2 ∨ ru = 3 := by omega
    rw [show (((s 25 0).toNat : Nat) : Int).toNat = (s 25 0).toNat by omega] at h4
    rcases cs with rfl | rfl | rfl | rfl
    · exact t_bX0 (d := d) g hx1 en (fun s4 s5 a b c => h4 s4 s5 hk hz a b c)
    · exact t_bX1 (d := d + 11) g hx1 en (by rw [nn]; exact hci (Or.inl rfl)) (fun s4 s5 a b c => h4 s4 s5 hk hz a b c)
    · exact t_bX2 (d := d + 11) g hx1 en (by rw [nn]; exact hci (Or.inr rfl)) (fun s4 s5 a b c => h4 s4 s5 hk hz a b c)
    · exact t_bX3 (d := d + 11) g hx1 en (fun s4 s5 a b c => h4 s4 s5 hk hz a b c)
  · refine s_zne rfl ⟨by omega, by omega⟩ (fun c1 => absurd c1 (by omega)) (fun c1 => ?_)
    refine s_kl (-103) rfl rfl ?_
    exact am_r rfl rfl (h3 s1 hk hz)
theorem t_buildX {d : Nat} {E : am_Ev} {s : am_S} {ru ci : Int} {PP : Option Value → am_H → Prop} (g : am_Eg E) (hx : bHx s) (hl : lk_ok s) (hr : am_R ru) (hc : am_R ci) (h1 : ¬ (0 ≤ ru ∧ ru ≤ 3) → PP (some (.long (lI (-102)))) (am_hp E s)) (h2 : (0 ≤ ru ∧ ru ≤ 3 ∧ (ru = 1 ∨ ru = 2)) → ¬ (0 ≤ ci ∧ ci < s 25 0) → PP (some (.long (lI (-101)))) (am_hp E s)) (h3 : 0 ≤ ru ∧ ru ≤ 3 → (ru = 1 ∨ ru = 2 → 0 ≤ ci ∧ ci < s 25 0) → ∀ s1, lk_to s s1 → s1 47 0 ≠ 0 → PP (some (.long (lI (-103)))) (am_hp E s1)) (h4 : 0 ≤ ru ∧ ru ≤ 3 → (ru = 1 ∨ ru = 2 → 0 ≤ ci ∧ ci < s 25 0) → ∀ s1 s4 s5, lk_to s s1 → s1 47 0 = 0 → bS0 ru s1 s4 → am_Fr [152, 154, 155, 156, 157] s4 s5 → bT (s 25 0).toNat (mx s1) (s4 50) (s4 60) ru ci (s5 152) → PP (some (.long (lI (tl (s 25 0) (mx s1) (s5 152) (s 25 0).toNat)))) (am_hp E s5)) : am_wp (d + 12 + 1 + 1 + 1 + 1) 141 0 (lv_args 0 [.ref 1, .int (iI ru), .int (iI ci)]) [] (am_hp E s) PP := by
  refine am_s rfl rfl ?_
  refine s_zlt rfl hr (fun c1 => ?_) (fun c1 => ?_)
  · refine s_kl (-102) rfl rfl ?_
    exact am_r rfl rfl (h1 (by omega))
  · refine am_s rfl rfl ?_
    refine s_k 3 rfl rfl ?_
    refine s_cle rfl hr ⟨by decide, by decide⟩ (fun c2 => ?_) (fun c2 => ?_)
    · refine am_s rfl rfl ?_
      refine s_k 1 rfl rfl ?_
      refine s_ceq rfl hr ⟨by decide, by decide⟩ (fun c3 => ?_) (fun c3 => ?_)
      · refine am_s rfl rfl ?_
        refine am_s rfl rfl ?_
        refine s_cv [_] [] rfl g (Or.inl rfl) rfl rfl (Nat.le_of_ble_eq_true rfl) rfl rfl (t_cityX (s := s) g hc ⟨hx.hm.1, hx.hm.2.1⟩) ?_
        rintro rv h1 ⟨rfl, rfl⟩
        by_cases z : 0 ≤ ci ∧ ci < s 25 0
        · rw [if_pos z]
          refine s_zne rfl ⟨by decide, by decide⟩ (fun c1 => ?_) (fun c1 => absurd c1 (by omega))
          exact t_b35 g hx hl (by omega) (fun _ => z) (h3 (by omega) (fun _ => z)) (h4 (by omega) (fun _ => z))
        · rw [if_neg z]
          refine s_zne rfl ⟨by decide, by decide⟩ (fun c1 => absurd c1 (by omega)) (fun c1 => ?_)
          refine s_kl (-101) rfl rfl ?_
          exact am_r rfl rfl (h2 (by omega) z)
      · refine am_s rfl rfl ?_
        refine s_k 2 rfl rfl ?_
        refine s_cne rfl hr ⟨by decide, by decide⟩ (fun c4 => ?_) (fun c4 => ?_)
        · exact t_b35 g hx hl (by omega) (fun z => by omega) (h3 (by omega) (fun z => by omega)) (h4 (by omega) (fun z => by omega))
        · refine am_s rfl rfl ?_
          refine am_s rfl rfl ?_
          refine s_cv [_] [] rfl g (Or.inl rfl) rfl rfl (Nat.le_of_ble_eq_true rfl) rfl rfl (t_cityX (s := s) g hc ⟨hx.hm.1, hx.hm.2.1⟩) ?_
          rintro rv h1 ⟨rfl, rfl⟩
          by_cases z : 0 ≤ ci ∧ ci < s 25 0
          · rw [if_pos z]
            refine s_zne rfl ⟨by decide, by decide⟩ (fun c1 => ?_) (fun c1 => absurd c1 (by omega))
            exact t_b35 g hx hl (by omega) (fun _ => z) (h3 (by omega) (fun _ => z)) (h4 (by omega) (fun _ => z))
          · rw [if_neg z]
            refine s_zne rfl ⟨by decide, by decide⟩ (fun c1 => absurd c1 (by omega)) (fun c1 => ?_)
            refine s_kl (-101) rfl rfl ?_
            exact am_r rfl rfl (h2 (by omega) z)
    · refine s_kl (-102) rfl rfl ?_
      exact am_r rfl rfl (h1 (by omega))
