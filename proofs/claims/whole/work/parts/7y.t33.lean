/-- a bound of the class: what it answers and leaves -/
def bd_X (E : am_Ev) (s : am_S) (rn stp0 : Int) (rv : Option Value) (h : am_H) : Prop := (s 25 0 = 1 ∧ rv = some (.long (lI 0)) ∧ h = am_hp E s) ∨ (s 25 0 = 2 ∧ rv = some (.long (lI (2 * mx s 0 1))) ∧ h = am_hp E s) ∨ (3 ≤ s 25 0 ∧ ∃ gr s' stp, rv = some (.long (lI gr)) ∧ h = am_hp E s' ∧ am_Fr [161, 162, 164, 165, 166, 167] s s' ∧ bd_ok (s 25 0) (mx s) (s 161) stp0 rn.toNat (s' 161) gr stp ∧ ∀ c, 0 ≤ c → c < 20 → -200000000000000 ≤ s' 161 c ∧ s' 161 c ≤ 200000000000000)
def bo_X (E : am_Ev) (s : am_S) (rn stp0 : Int) (rv : Option Value) (h : am_H) : Prop := (¬ ((1 ≤ rn ∧ rn ≤ 100) ∧ (0 ≤ stp0 ∧ stp0 ≤ 1000000)) ∧ rv = some (.long (lI (-102))) ∧ h = am_hp E s) ∨ (((1 ≤ rn ∧ rn ≤ 100) ∧ (0 ≤ stp0 ∧ stp0 ≤ 1000000)) ∧ ∃ s1, lk_to s s1 ∧ ((s1 47 0 ≠ 0 ∧ rv = some (.long (lI (-103))) ∧ h = am_hp E s1) ∨ (s1 47 0 = 0 ∧ bd_X E s1 rn stp0 rv h)))
theorem t_boundX {d : Nat} {E : am_Ev} {s : am_S} {rn stp0 : Int} (g : am_Eg E) (hm : mx_ok s) (hl : lk_ok s) (hr_r : am_R rn) (hr_s : am_R stp0) (hp : ∀ c, 0 ≤ c → c < 20 → -100000000000000 ≤ s 161 c ∧ s 161 c ≤ 100000000000000) : am_wp (d + 4) 147 0 (lv_args 0 [.ref 1, .int (iI rn), .int (iI stp0)]) [] (am_hp E s) (bo_X E s rn stp0) := by
  obtain ⟨r1, r2⟩ := hr_r
  obtain ⟨r3, r4⟩ := hr_s
  refine am_s rfl rfl ?_
  refine s_k 1 rfl rfl ?_
  refine s_clt rfl ⟨by omega, by omega⟩ ⟨by omega, by omega⟩ (fun c1 => ?_) (fun c1 => ?_)
  · refine s_kl (-102) rfl rfl ?_
    exact am_r rfl rfl (Or.inl ⟨by omega, rfl, rfl⟩)
  · refine am_s rfl rfl ?_
    refine s_k 100 rfl rfl ?_
    refine s_cgt rfl ⟨by omega, by omega⟩ ⟨by omega, by omega⟩ (fun c2 => ?_) (fun c2 => ?_)
    · refine s_kl (-102) rfl rfl ?_
      exact am_r rfl rfl (Or.inl ⟨by omega, rfl, rfl⟩)
    · refine am_s rfl rfl ?_
      refine s_zlt rfl ⟨by omega, by omega⟩ (fun c3 => ?_) (fun c3 => ?_)
      · refine s_kl (-102) rfl rfl ?_
        exact am_r rfl rfl (Or.inl ⟨by omega, rfl, rfl⟩)
      · refine am_s rfl rfl ?_
        refine s_k 1000000 rfl rfl ?_
        refine s_cle rfl ⟨by omega, by omega⟩ ⟨by omega, by omega⟩ (fun c4 => ?_) (fun c4 => ?_)
        · refine am_s rfl rfl ?_
          refine s_gr rfl g rfl rfl ?_
          refine s_cv [] [] rfl g (Or.inl rfl) rfl rfl (Nat.le_of_ble_eq_true rfl) rfl rfl (t_isSound g hm hl) ?_
          rintro rv h1 ⟨s1, rfl, hk, hh⟩
          rcases hh with ⟨hz, rfl⟩ | ⟨hz, rfl⟩
          · refine s_zeq rfl ⟨by omega, by omega⟩ (fun c1 => absurd c1 (by omega)) (fun c1 => ?_)
            refine am_s rfl rfl ?_
            refine s_gr rfl g rfl rfl ?_
            refine am_s rfl rfl ?_
            refine s_gr rfl g rfl rfl ?_
            refine am_s rfl rfl ?_
            refine am_s rfl rfl ?_
            refine s_cv [_, _, _] [] rfl g (Or.inl rfl) rfl rfl (Nat.le_of_ble_eq_true rfl) rfl rfl (t_climb (s := s1) g (mx_ok_lk hm hk) ⟨by omega, by omega⟩ ⟨by omega, by omega⟩ (fun c c0 c1 => by rw [hk.1 161 (by decide)]; exact hp c c0 c1)) ?_
            intro rv h1 hh
            have hv : ∃ q, rv = some (.long (lI q)) := by
              rcases hh with ⟨-, z, -⟩ | ⟨-, z, -⟩ | ⟨-, gr, -, -, z, -⟩ <;> exact ⟨_, z⟩
            obtain ⟨q, rfl⟩ := hv
            refine am_s rfl rfl ?_
            exact am_r rfl rfl (Or.inr ⟨⟨⟨by omega, by omega⟩, by omega, by omega⟩, s1, hk, Or.inr ⟨hz, hh⟩⟩)
          · refine s_zeq rfl ⟨by omega, by omega⟩ (fun c1 => ?_) (fun c1 => absurd c1 (by omega))
            refine s_kl (-103) rfl rfl ?_
            exact am_r rfl rfl (Or.inr ⟨⟨⟨by omega, by omega⟩, by omega, by omega⟩, s1, hk, Or.inl ⟨hz, rfl, rfl⟩⟩)
        · refine s_kl (-102) rfl rfl ?_
          exact am_r rfl rfl (Or.inl ⟨by omega, rfl, rfl⟩)
