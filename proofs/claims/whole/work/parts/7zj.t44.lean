def be_X (E : am_Ev) (s : am_S) (how most : Int) (rv : Option Value) (h : am_H) : Prop := (¬ ((0 ≤ how ∧ how ≤ 2) ∧ (1 ≤ most ∧ most ≤ 300)) ∧ rv = some (.int (iI (-102))) ∧ h = am_hp E s) ∨ (((0 ≤ how ∧ how ≤ 2) ∧ (1 ≤ most ∧ most ≤ 300)) ∧ s 151 0 = 0 ∧ rv = some (.int (iI (-103))) ∧ h = am_hp E s) ∨ (((0 ≤ how ∧ how ≤ 2) ∧ (1 ≤ most ∧ most ≤ 300)) ∧ s 151 0 = 1 ∧ ∃ (k : Nat) (s' : am_S), (k : Int) ≤ most ∧ rv = some (.int (iI (k : Int))) ∧ h = am_hp E s' ∧ am_Fr [152] s s' ∧ bt_n (s 25 0) (mx s) how (s 152) k (s' 152) ∧ ((k : Int) < most → bt_0 (s 25 0) (mx s) how (s' 152)))
theorem t_betterX {d : Nat} {E : am_Ev} {s : am_S} {how most : Int} (g : am_Eg E) (hm : mx_ok s) (hf : s 151 0 = 0 ∨ s 151 0 = 1) (hT : s 151 0 = 1 → s 151 1 = s 25 0 ∧ st_ok (s 25 0) (s 152)) (hr_h : am_R how) (hr_m : am_R most) : am_wp (d + 6) 145 0 (lv_args 0 [.ref 1, .int (iI how), .int (iI most)]) [] (am_hp E s) (be_X E s how most) := by
  obtain ⟨r1, r2⟩ := hr_h
  obtain ⟨r3, r4⟩ := hr_m
  refine am_s rfl rfl ?_
  refine s_zlt rfl ⟨by omega, by omega⟩ (fun c1 => ?_) (fun c1 => ?_)
  · refine s_k (-102) rfl rfl ?_
    first | exact am_r rfl rfl (Or.inl ⟨by omega, rfl, rfl⟩) | exact am_r rfl rfl (Or.inr (Or.inl ⟨⟨⟨by omega, by omega⟩, by omega, by omega⟩, by omega, rfl, rfl⟩)) | exact am_r rfl rfl (Or.inr (Or.inr ⟨⟨⟨by omega, by omega⟩, by omega, by omega⟩, by omega, k, s2, z2, rfl, rfl, z1, z3, z4⟩))
  · refine am_s rfl rfl ?_
    refine s_k 2 rfl rfl ?_
    refine s_cgt rfl ⟨by omega, by omega⟩ ⟨by omega, by omega⟩ (fun c2 => ?_) (fun c2 => ?_)
    · refine s_k (-102) rfl rfl ?_
      first | exact am_r rfl rfl (Or.inl ⟨by omega, rfl, rfl⟩) | exact am_r rfl rfl (Or.inr (Or.inl ⟨⟨⟨by omega, by omega⟩, by omega, by omega⟩, by omega, rfl, rfl⟩)) | exact am_r rfl rfl (Or.inr (Or.inr ⟨⟨⟨by omega, by omega⟩, by omega, by omega⟩, by omega, k, s2, z2, rfl, rfl, z1, z3, z4⟩))
    · refine am_s rfl rfl ?_
      refine s_k 1 rfl rfl ?_
      refine s_clt rfl ⟨by omega, by omega⟩ ⟨by omega, by omega⟩ (fun c3 => ?_) (fun c3 => ?_)
      · refine s_k (-102) rfl rfl ?_
        first | exact am_r rfl rfl (Or.inl ⟨by omega, rfl, rfl⟩) | exact am_r rfl rfl (Or.inr (Or.inl ⟨⟨⟨by omega, by omega⟩, by omega, by omega⟩, by omega, rfl, rfl⟩)) | exact am_r rfl rfl (Or.inr (Or.inr ⟨⟨⟨by omega, by omega⟩, by omega, by omega⟩, by omega, k, s2, z2, rfl, rfl, z1, z3, z4⟩))
      · refine am_s rfl rfl ?_
        refine s_k 300 rfl rfl ?_
        refine s_cle rfl ⟨by omega, by omega⟩ ⟨by omega, by omega⟩ (fun c4 => ?_) (fun c4 => ?_)
        · refine am_s rfl rfl ?_
          refine s_gr rfl g rfl rfl ?_
          refine s_gi (x := 0) rfl g rfl rfl rfl ?_
          refine s_zeq rfl (by rcases hf with z | z <;> exact ⟨by omega, by omega⟩) (fun c5 => ?_) (fun c5 => ?_)
          · refine s_k (-103) rfl rfl ?_
            first | exact am_r rfl rfl (Or.inl ⟨by omega, rfl, rfl⟩) | exact am_r rfl rfl (Or.inr (Or.inl ⟨⟨⟨by omega, by omega⟩, by omega, by omega⟩, by omega, rfl, rfl⟩)) | exact am_r rfl rfl (Or.inr (Or.inr ⟨⟨⟨by omega, by omega⟩, by omega, by omega⟩, by omega, k, s2, z2, rfl, rfl, z1, z3, z4⟩))
          · refine am_s rfl rfl ?_
            refine s_gr rfl g rfl rfl ?_
            refine am_s rfl rfl ?_
            refine s_gr rfl g rfl rfl ?_
            refine s_gr rfl g rfl rfl ?_
            refine am_s rfl rfl ?_
            refine am_s rfl rfl ?_
            refine s_cv [_, _, _] [] rfl g (Or.inl rfl) rfl rfl (Nat.le_of_ble_eq_true rfl) rfl rfl (t_improve (PP := fun rv h => ∃ (k : Nat) (s' : am_S), rv = some (.int (iI (k : Int))) ∧ h = am_hp E s' ∧ am_Fr [152] s s' ∧ (k : Int) ≤ most ∧ bt_n (s 25 0) (mx s) how (s 152) k (s' 152) ∧ ((k : Int) < most → bt_0 (s 25 0) (mx s) how (s' 152))) g hm (hT (by omega)).1 (hT (by omega)).2 ⟨by omega, by omega⟩ ⟨by omega, by omega⟩ (fun k s' z1 z2 z3 z4 => ⟨k, s', rfl, rfl, z1, z2, z3, z4⟩)) ?_
            rintro rv h1 ⟨k, s2, rfl, rfl, z1, z2, z3, z4⟩
            refine am_s rfl rfl ?_
            first | exact am_r rfl rfl (Or.inl ⟨by omega, rfl, rfl⟩) | exact am_r rfl rfl (Or.inr (Or.inl ⟨⟨⟨by omega, by omega⟩, by omega, by omega⟩, by omega, rfl, rfl⟩)) | exact am_r rfl rfl (Or.inr (Or.inr ⟨⟨⟨by omega, by omega⟩, by omega, by omega⟩, by omega, k, s2, z2, rfl, rfl, z1, z3, z4⟩))
        · refine s_k (-102) rfl rfl ?_
          first | exact am_r rfl rfl (Or.inl ⟨by omega, rfl, rfl⟩) | exact am_r rfl rfl (Or.inr (Or.inl ⟨⟨⟨by omega, by omega⟩, by omega, by omega⟩, by omega, rfl, rfl⟩)) | exact am_r rfl rfl (Or.inr (Or.inr ⟨⟨⟨by omega, by omega⟩, by omega, by omega⟩, by omega, k, s2, z2, rfl, rfl, z1, z3, z4⟩))
