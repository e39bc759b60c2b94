def pl_at (n fl : Int) (t : Int → Int) (c : Int) (rv : Option Value) : Prop := (¬ (0 ≤ c ∧ c < n) ∧ rv = some (.int (iI (-101)))) ∨ ((0 ≤ c ∧ c < n) ∧ fl = 0 ∧ rv = some (.int (iI (-103)))) ∨ ((0 ≤ c ∧ c < n) ∧ fl = 1 ∧ ∃ k, rv = some (.int (iI k)) ∧ 0 ≤ k ∧ k < n ∧ t k = c ∧ ∀ y, 0 ≤ y → y < k → t y ≠ c)
/-- a tour that has all cities -/
def pt_ok (n : Int) (t : Int → Int) : Prop := (∀ i, 0 ≤ i → i < n → 0 ≤ t i ∧ t i < n) ∧ ∀ c, 0 ≤ c → c < n → ∃ y, 0 ≤ y ∧ y < n ∧ t y = c
theorem t_placeX {d : Nat} {E : am_Ev} {s : am_S} {c : Int} (g : am_Eg E) (hn : 1 ≤ s 25 0 ∧ s 25 0 ≤ 20) (hr_c : am_R c) (hf : s 151 0 = 0 ∨ s 151 0 = 1) (hT : s 151 0 = 1 → s 151 1 = s 25 0 ∧ pt_ok (s 25 0) (s 152)) : am_wp (d + 1) 143 0 (lv_args 0 [.ref 1, .int (iI c)]) [] (am_hp E s) (fun rv h => h = am_hp E s ∧ pl_at (s 25 0) (s 151 0) (s 152) c rv) := by
  unfold pl_at
  refine am_s rfl rfl ?_
  refine am_s rfl rfl ?_
  refine s_cv [_] [] rfl g (Or.inl rfl) rfl rfl (Nat.le_of_ble_eq_true rfl) rfl rfl (t_cityX g (c := c) hr_c hn) ?_
  rintro rv h1 ⟨rfl, rfl⟩
  by_cases hc_c : 0 ≤ c ∧ c < s 25 0
  · rw [show (if 0 ≤ c ∧ c < s 25 0 then (1 : Int) else 0) = 1 from if_pos hc_c]
    refine s_zne rfl ⟨by omega, by omega⟩ (fun c2 => ?_) (fun c2 => absurd c2 (by omega))
    refine am_s rfl rfl ?_
    refine s_gr rfl g rfl rfl ?_
    refine s_gi (x := 0) rfl g rfl rfl rfl ?_
    refine s_zeq rfl (by rcases hf with z | z <;> exact ⟨by omega, by omega⟩) (fun c3 => ?_) (fun c3 => ?_)
    · refine s_k (-103) rfl rfl ?_
      first | exact am_r rfl rfl ⟨rfl, Or.inl ⟨hc_c, rfl⟩⟩ | exact am_r rfl rfl ⟨rfl, Or.inr (Or.inl ⟨hc_c, by omega, rfl⟩)⟩ | exact am_r rfl rfl ⟨rfl, Or.inr (Or.inr ⟨hc_c, by omega, k, rfl, k0, by omega, k2, k3⟩)⟩
    · refine am_s rfl rfl ?_
      refine s_gr rfl g rfl rfl ?_
      refine am_s rfl rfl ?_
      have hp := hT (by omega)
      refine s_cv [_] [] rfl g (Or.inl rfl) rfl rfl (Nat.le_of_ble_eq_true rfl) rfl rfl (t_placeOf g (c := c) ⟨by omega, by omega⟩ ⟨by omega, by omega⟩ (fun i i0 i1 => by have := hp.2.1 i i0 (by omega); omega) (by obtain ⟨y, y0, y1, y2⟩ := hp.2.2 c hc_c.1 hc_c.2; exact ⟨y, y0, by omega, y2⟩)) ?_
      rintro rv h1 ⟨rfl, k, rfl, k0, k1, k2, k3⟩
      refine am_s rfl rfl ?_
      first | exact am_r rfl rfl ⟨rfl, Or.inl ⟨hc_c, rfl⟩⟩ | exact am_r rfl rfl ⟨rfl, Or.inr (Or.inl ⟨hc_c, by omega, rfl⟩)⟩ | exact am_r rfl rfl ⟨rfl, Or.inr (Or.inr ⟨hc_c, by omega, k, rfl, k0, by omega, k2, k3⟩)⟩
  · rw [show (if 0 ≤ c ∧ c < s 25 0 then (1 : Int) else 0) = 0 from if_neg hc_c]
    refine s_zne rfl ⟨by omega, by omega⟩ (fun c2 => absurd c2 (by omega)) (fun c2 => ?_)
    refine s_k (-101) rfl rfl ?_
    first | exact am_r rfl rfl ⟨rfl, Or.inl ⟨hc_c, rfl⟩⟩ | exact am_r rfl rfl ⟨rfl, Or.inr (Or.inl ⟨hc_c, by omega, rfl⟩)⟩ | exact am_r rfl rfl ⟨rfl, Or.inr (Or.inr ⟨hc_c, by omega, k, rfl, k0, by omega, k2, k3⟩)⟩
theorem t_placeM0 {d : Nat} {E : am_Ev} {s : am_S} {c : Int} (g : am_Eg E) (hn : 1 ≤ s 168 1 ∧ s 168 1 ≤ 20) (hr_c : am_R c) (hf : s 168 29 = 0 ∨ s 168 29 = 1) (hT : s 168 29 = 1 → pt_ok (s 168 1) (s 183)) : am_wp (d + 1) 206 5 (lv_args 0 [.ref 168, .int (iI c)]) [] (am_hp E s) (fun rv h => h = am_hp E s ∧ pl_at (s 168 1) (s 168 29) (s 183) c rv) := by
  unfold pl_at
  refine am_s rfl rfl ?_
  refine am_s rfl rfl ?_
  refine s_cv [_] [] rfl g (Or.inl rfl) rfl rfl (Nat.le_of_ble_eq_true rfl) rfl rfl (t_cityM g (c := c) hr_c hn) ?_
  rintro rv h1 ⟨rfl, rfl⟩
  by_cases hc_c : 0 ≤ c ∧ c < s 168 1
  · rw [show (if 0 ≤ c ∧ c < s 168 1 then (1 : Int) else 0) = 1 from if_pos hc_c]
    refine s_zne rfl ⟨by omega, by omega⟩ (fun c2 => ?_) (fun c2 => absurd c2 (by omega))
    refine am_s rfl rfl ?_
    refine s_gi (x := 29) rfl g rfl rfl rfl ?_
    refine s_zne rfl (by rcases hf with z | z <;> exact ⟨by omega, by omega⟩) (fun c3 => ?_) (fun c3 => ?_)
    · refine s_k 0 rfl rfl ?_
      refine am_s rfl rfl ?_
      have hp := hT (by omega)
      obtain ⟨n, en⟩ : ∃ n : Nat, s 168 1 = n := ⟨(s 168 1).toNat, by omega⟩
      refine am_lv [(2, .int (iI (((0 : Nat) : Int) : Int))), (1, .int (iI c)), (0, .ref 168)] rfl rfl ⟨rfl, rfl, rfl, trivial⟩ ?_
      refine s_while (X := Nat) (fun m s' => s = s' ∧ (m : Int) < n ∧ ∀ y, 0 ≤ y → y < (m : Int) → s 183 y ≠ c) (fun m _ => n - m) (fun m => [(2, .int (iI (m : Int))), (1, .int (iI c)), (0, .ref 168)]) ?_ (x := 0) ⟨rfl, by omega, fun y y0 y1 => absurd y1 (by omega)⟩
      rintro m s1 ⟨rfl, hm1, hA⟩ kk
      simp only at kk ⊢
      have htm := hp.1 m (by omega) (by omega)
      refine am_s rfl rfl ?_
      refine s_gr rfl g rfl rfl ?_
      refine am_s rfl rfl ?_
      refine s_ia rfl g rfl ⟨by omega, by omega⟩ (by decide) ?_
      refine am_s rfl rfl ?_
      refine s_ceq rfl ⟨by omega, by omega⟩ ⟨by omega, by omega⟩ (fun c51 => ?_) (fun c51 => ?_)
      · refine am_s rfl rfl ?_
        exact am_r rfl rfl ⟨rfl, Or.inr (Or.inr ⟨hc_c, by omega, m, rfl, by omega, by omega, c51, hA⟩)⟩
      · refine s_inc rfl rfl ?_
        refine am_s rfl rfl ?_
        refine am_lv [(2, _), (1, _), (0, _)] rfl rfl ⟨rfl, rfl, rfl, trivial⟩ ?_
        obtain ⟨y, y0, y1, y2⟩ := hp.2 c hc_c.1 hc_c.2
        have hmy : (m : Int) < y := by
          rcases Int.lt_trichotomy (m : Int) y with z | z | z
          · exact z
          · exact absurd (by rw [z]; exact y2) c51
          · exact absurd y2 (hA y y0 z)
        refine kk (m + 1) s ⟨rfl, by omega, fun z z0 z1 => ?_⟩ (by omega)
        by_cases e : z = (m : Int)
        · rw [e]; exact c51
        · exact hA z z0 (by omega)
    · refine s_k (-103) rfl rfl ?_
      first | exact am_r rfl rfl ⟨rfl, Or.inl ⟨hc_c, rfl⟩⟩ | exact am_r rfl rfl ⟨rfl, Or.inr (Or.inl ⟨hc_c, by omega, rfl⟩)⟩
  · rw [show (if 0 ≤ c ∧ c < s 168 1 then (1 : Int) else 0) = 0 from if_neg hc_c]
    refine s_zne rfl ⟨by omega, by omega⟩ (fun c2 => absurd c2 (by omega)) (fun c2 => ?_)
    refine s_k (-101) rfl rfl ?_
    first | exact am_r rfl rfl ⟨rfl, Or.inl ⟨hc_c, rfl⟩⟩ | exact am_r rfl rfl ⟨rfl, Or.inr (Or.inl ⟨hc_c, by omega, rfl⟩)⟩
theorem t_placeM {d : Nat} {E : am_Ev} {s : am_S} {c : Int} (g : am_Eg E) (hn : 1 ≤ s 168 1 ∧ s 168 1 ≤ 20) (hr_c : am_R c) (hf : s 168 29 = 0 ∨ s 168 29 = 1) (hT : s 168 29 = 1 → pt_ok (s 168 1) (s 183)) : am_wp (d + 1) 206 0 (lv_args 0 [.ref 168, .int (iI c)]) [] (am_hp E s) (fun rv h => h = am_hp E (am_w s 168 0 0) ∧ pl_at (s 168 1) (s 168 29) (s 183) c rv) := by
  refine am_s rfl rfl ?_
  refine s_k 0 rfl rfl ?_
  refine s_pi (x := 0) rfl g rfl rfl rfl rfl ?_
  exact t_placeM0 (s := am_w s 168 0 0) g hn hr_c hf hT
theorem t_lengthX {d : Nat} {E : am_Ev} {s : am_S} (g : am_Eg E) (hm : mx_ok s) (hf : s 151 0 = 0 ∨ s 151 0 = 1) (hT : s 151 0 = 1 → s 151 1 = s 25 0 ∧ st_ok (s 25 0) (s 152)) : am_wp (d + 2) 144 0 (lv_args 0 [.ref 1]) [] (am_hp E s) (fun rv h => rv = some (.long (lI (if s 151 0 = 0 then -103 else tl (s 151 1) (mx s) (s 152) (s 151 1).toNat))) ∧ h = am_hp E s) := by
  refine am_s rfl rfl ?_
  refine s_gr rfl g rfl rfl ?_
  refine s_gi (x := 0) rfl g rfl rfl rfl ?_
  refine s_zeq rfl (by rcases hf with z | z <;> exact ⟨by omega, by omega⟩) (fun c1 => ?_) (fun c1 => ?_)
  · refine s_kl (-103) rfl rfl ?_
    refine am_r rfl rfl ⟨congrArg (fun z => some (Value.long (lI z))) ?_, rfl⟩
    (repeat' split) <;> first | rfl | (exfalso; omega)
  · refine am_s rfl rfl ?_
    refine s_gr rfl g rfl rfl ?_
    refine am_s rfl rfl ?_
    refine s_gr rfl g rfl rfl ?_
    refine s_gr rfl g rfl rfl ?_
    refine s_cv [_] [] rfl g (Or.inl rfl) rfl rfl (Nat.le_of_ble_eq_true rfl) rfl rfl (t_measure g hm (hT (by omega)).1 (hT (by omega)).2) ?_
    rintro rv h1 ⟨rfl, rfl⟩
    refine am_s rfl rfl ?_
    refine am_r rfl rfl ⟨congrArg (fun z => some (Value.long (lI z))) ?_, rfl⟩
    (repeat' split) <;> first | rfl | (exfalso; omega)
theorem t_lengthM0 {d : Nat} {E : am_Ev} {s : am_S} (g : am_Eg E) (hm : my_ok s) (hf : s 168 29 = 0 ∨ s 168 29 = 1) (hT : s 168 29 = 1 → st_ok (s 168 1) (s 183)) : am_wp (d + 2) 207 5 (lv_args 0 [.ref 168]) [] (am_hp E s) (fun rv h => rv = some (.long (lI (if s 168 29 = 0 then -103 else tl (s 168 1) (my s) (s 183) (s 168 1).toNat))) ∧ h = am_hp E s) := by
  refine am_s rfl rfl ?_
  refine s_gi (x := 29) rfl g rfl rfl rfl ?_
  refine s_zeq rfl (by rcases hf with z | z <;> exact ⟨by omega, by omega⟩) (fun c1 => ?_) (fun c1 => ?_)
  · refine s_kl (-103) rfl rfl ?_
    refine am_r rfl rfl ⟨congrArg (fun z => some (Value.long (lI z))) ?_, rfl⟩
    (repeat' split) <;> first | rfl | (exfalso; omega)
  · refine am_s rfl rfl ?_
    refine am_s rfl rfl ?_
    refine s_gr rfl g rfl rfl ?_
    refine s_cv [_] [] rfl g (Or.inl rfl) rfl rfl (Nat.le_of_ble_eq_true rfl) rfl rfl (t_lengthOf183 g hm (hT (by omega))) ?_
    rintro rv h1 ⟨rfl, rfl⟩
    refine am_s rfl rfl ?_
    refine am_r rfl rfl ⟨congrArg (fun z => some (Value.long (lI z))) ?_, rfl⟩
    (repeat' split) <;> first | rfl | (exfalso; omega)
theorem t_lengthM {d : Nat} {E : am_Ev} {s : am_S} (g : am_Eg E) (hm : my_ok s) (hf : s 168 29 = 0 ∨ s 168 29 = 1) (hT : s 168 29 = 1 → st_ok (s 168 1) (s 183)) : am_wp (d + 2) 207 0 (lv_args 0 [.ref 168]) [] (am_hp E s) (fun rv h => rv = some (.long (lI (if s 168 29 = 0 then -103 else tl (s 168 1) (my s) (s 183) (s 168 1).toNat))) ∧ h = am_hp E (am_w s 168 0 0)) := by
  refine am_s rfl rfl ?_
  refine s_k 0 rfl rfl ?_
  refine s_pi (x := 0) rfl g rfl rfl rfl rfl ?_
  exact t_lengthM0 (s := am_w s 168 0 0) g hm hf hT
theorem t_wipe {d : Nat} {E : am_Ev} {s : am_S} (g : am_Eg E) : am_wp d 83 0 (lv_args 0 [.ref 2]) [] (am_hp E s) (fun rv h => rv = some (.int (iI (s 2 1))) ∧ h = am_hp E (am_w s 2 1 0)) := by
  refine am_s rfl rfl ?_
  refine s_gi (x := 1) rfl g rfl rfl rfl ?_
  refine am_s rfl rfl ?_
  refine am_s rfl rfl ?_
  refine s_k 0 rfl rfl ?_
  refine s_pi (x := 1) rfl g rfl rfl rfl rfl ?_
  refine am_s rfl rfl ?_
  exact am_r rfl rfl ⟨rfl, rfl⟩
theorem t_clearX {d : Nat} {E : am_Ev} {s : am_S} (g : am_Eg E) : am_wp (d + 1) 124 0 (lv_args 0 [.ref 1]) [] (am_hp E s) (fun rv h => rv = some (.int (iI (s 2 1))) ∧ h = am_hp E (am_w s 2 1 0)) := by
  refine am_s rfl rfl ?_
  refine s_gr rfl g rfl rfl ?_
  refine s_cv [] [] rfl g (Or.inl rfl) rfl rfl (Nat.le_of_ble_eq_true rfl) rfl rfl (t_wipe g) ?_
  rintro rv h1 ⟨rfl, rfl⟩
  exact am_r rfl rfl ⟨rfl, rfl⟩
theorem t_clearM {d : Nat} {E : am_Ev} {s : am_S} (g : am_Eg E) : am_wp d 162 0 (lv_args 0 [.ref 168]) [] (am_hp E s) (fun rv h => rv = some (.int (iI (s 168 5))) ∧ h = am_hp E (am_w (am_w s 168 0 0) 168 5 0)) := by
  refine am_s rfl rfl ?_
  refine s_k 0 rfl rfl ?_
  refine s_pi (x := 0) rfl g rfl rfl rfl rfl ?_
  refine am_s rfl rfl ?_
  refine s_gi (x := 5) rfl g rfl rfl rfl ?_
  refine am_s rfl rfl ?_
  refine am_s rfl rfl ?_
  refine s_k 0 rfl rfl ?_
  refine s_pi (x := 5) rfl g rfl rfl rfl rfl ?_
  refine am_s rfl rfl ?_
  exact am_r rfl rfl ⟨rfl, rfl⟩
theorem t_forgiveX {d : Nat} {E : am_Ev} {s : am_S} (g : am_Eg E) (hQ : ∀ y, 0 ≤ y → y < 20 → am_Q (s 161 y)) : am_wp (d + 1) 149 0 (lv_args 0 [.ref 1]) [] (am_hp E s) (fun rv h => rv = some (.int (iI (s_cnt (s 161) 20))) ∧ h = am_hp E (s_zr s 161 20)) := by
  refine am_s rfl rfl ?_
  refine s_gr rfl g rfl rfl ?_
  refine s_cv [] [] rfl g (Or.inl rfl) rfl rfl (Nat.le_of_ble_eq_true rfl) rfl rfl (t_reset g hQ) ?_
  rintro rv h1 ⟨rfl, rfl⟩
  exact am_r rfl rfl ⟨rfl, rfl⟩
theorem t_forgiveM0 {d : Nat} {E : am_Ev} {s : am_S} (g : am_Eg E) (hQ : ∀ y, 0 ≤ y → y < 20 → am_Q (s 191 y)) : am_wp d 217 5 (lv_args 0 [.ref 168]) [] (am_hp E s) (fun rv h => rv = some (.int (iI (s_cnt (s 191) 20))) ∧ h = am_hp E (s_zr s 191 20)) := by
  refine s_k 0 rfl rfl ?_
  refine am_s rfl rfl ?_
  refine s_k 0 rfl rfl ?_
  refine am_s rfl rfl ?_
  refine am_lv [(2, .int (iI (((0 : Nat) : Int) : Int))), (1, .int (iI (s_cnt (s 191) 0))), (0, .ref 168)] rfl rfl ⟨rfl, rfl, rfl, trivial⟩ ?_
  rw [show am_hp E s = am_hp E (s_zr s 191 ((0 : Nat) : Int)) by rw [show ((0 : Nat) : Int) = 0 from rfl, s_zr_0]]
  refine s_for (lvf := fun k => [(2, .int (iI (k : Int))), (1, .int (iI (s_cnt (s 191) k))), (0, .ref 168)]) (hf := fun k => am_hp E (s_zr s 191 (k : Int))) (lo := 0) (hi := 20) (by decide) ?_ ?_
  · intro k hk0 hk kk
    simp only at kk ⊢
    refine am_s rfl rfl ?_
    refine s_k 20 rfl rfl ?_
    refine s_cge rfl ⟨by omega, by omega⟩ ⟨by omega, by omega⟩ (fun c1 => absurd c1 (by omega)) (fun c1 => ?_)
    refine am_s rfl rfl ?_
    refine am_s rfl rfl ?_
    refine s_gr rfl g rfl rfl ?_
    refine am_s rfl rfl ?_
    refine s_la rfl g rfl ⟨by omega, by omega⟩ (by decide) ?_
    refine s_kl 0 rfl rfl ?_
    refine s_jeq rfl rfl (by rw [s_zr_ge (Int.le_refl _)]; exact hQ k (Int.natCast_nonneg k) (by omega)) ⟨by decide, by decide⟩ (fun c2 => ?_) (fun c2 => ?_)
    · refine s_k 0 rfl rfl ?_
      refine s_iadd rfl ?_
      refine am_s rfl rfl ?_
      refine am_s rfl rfl ?_
      refine s_gr rfl g rfl rfl ?_
      refine am_s rfl rfl ?_
      refine s_kl 0 rfl rfl ?_
      refine s_ls rfl g rfl ⟨by omega, by omega⟩ (by decide) ?_
      refine s_inc rfl rfl ?_
      refine am_s rfl rfl ?_
      refine am_lv [(2, _), (1, _), (0, _)] rfl rfl ⟨rfl, rfl, rfl, trivial⟩ ?_
      rw [s_zr_w s 191 (Int.natCast_nonneg k)]
      rw [s_zr_ge (Int.le_refl _)] at c2
      rw [show s_cnt (s 191) (k + 1) = s_cnt (s 191) k + (if s 191 k = 0 then 0 else 1) from rfl] at kk
      first | (rw [if_pos c2] at kk; exact kk) | (rw [if_neg c2] at kk; exact kk)
    · refine s_k 1 rfl rfl ?_
      refine am_s rfl rfl ?_
      refine s_iadd rfl ?_
      refine am_s rfl rfl ?_
      refine am_s rfl rfl ?_
      refine s_gr rfl g rfl rfl ?_
      refine am_s rfl rfl ?_
      refine s_kl 0 rfl rfl ?_
      refine s_ls rfl g rfl ⟨by omega, by omega⟩ (by decide) ?_
      refine s_inc rfl rfl ?_
      refine am_s rfl rfl ?_
      refine am_lv [(2, _), (1, _), (0, _)] rfl rfl ⟨rfl, rfl, rfl, trivial⟩ ?_
      rw [s_zr_w s 191 (Int.natCast_nonneg k)]
      rw [s_zr_ge (Int.le_refl _)] at c2
      rw [show s_cnt (s 191) (k + 1) = s_cnt (s 191) k + (if s 191 k = 0 then 0 else 1) from rfl] at kk
      first | (rw [if_pos c2] at kk; exact kk) | (rw [if_neg c2] at kk; exact kk)
  · simp only
    refine am_s rfl rfl ?_
    refine s_k 20 rfl rfl ?_
    refine s_cge rfl ⟨by omega, by omega⟩ ⟨by omega, by omega⟩ (fun c1 => ?_) (fun c1 => absurd c1 (by omega))
    refine am_s rfl rfl ?_
    exact am_r rfl rfl ⟨rfl, rfl⟩
theorem t_forgiveM {d : Nat} {E : am_Ev} {s : am_S} (g : am_Eg E) (hQ : ∀ y, 0 ≤ y → y < 20 → am_Q (s 191 y)) : am_wp d 217 0 (lv_args 0 [.ref 168]) [] (am_hp E s) (fun rv h => rv = some (.int (iI (s_cnt (s 191) 20))) ∧ h = am_hp E (s_zr (am_w s 168 0 0) 191 20)) := by
  refine am_s rfl rfl ?_
  refine s_k 0 rfl rfl ?_
  refine s_pi (x := 0) rfl g rfl rfl rfl rfl ?_
  exact t_forgiveM0 (s := am_w s 168 0 0) g hQ
def cu_X (E : am_Ev) (s : am_S) (city : Int) (rv : Option Value) (h : am_H) : Prop := h = am_hp E s ∧ ((¬ (0 ≤ city ∧ city < s 25 0) ∧ rv = some (.int (iI (-101)))) ∨ ((0 ≤ city ∧ city < s 25 0) ∧ s 48 0 = 0 ∧ rv = some (.int (iI (-103)))) ∨ ((0 ≤ city ∧ city < s 25 0) ∧ s 48 0 = 1 ∧ ∃ v, rv = some (.int (iI v)) ∧ ct_at (s 25 0) (mx s) (ct_el (s 50) city) (s 25 0) 0 v))
theorem t_cutX {d : Nat} {E : am_Ev} {s : am_S} {c : Int} (g : am_Eg E) (hm : mx_ok s) (hr_c : am_R c) (hf : s 48 0 = 0 ∨ s 48 0 = 1) (hT : s 48 0 = 1 → (∀ c, 0 ≤ c → c < s 25 0 → s 50 c = -1 ∨ 0 ≤ s 50 c ∧ s 50 c < s 25 0) ∧ be_ok (s 25 0) (s 50) (s 56)) : am_wp (d + 1) 134 0 (lv_args 0 [.ref 1, .int (iI c)]) [] (am_hp E s) (cu_X E s c) := by
  have hn : 1 ≤ s 25 0 ∧ s 25 0 ≤ 20 := ⟨hm.1, hm.2.1⟩
  refine am_s rfl rfl ?_
  refine am_s rfl rfl ?_
  refine s_cv [_] [] rfl g (Or.inl rfl) rfl rfl (Nat.le_of_ble_eq_true rfl) rfl rfl (t_cityX g (c := c) hr_c hn) ?_
  rintro rv h1 ⟨rfl, rfl⟩
  by_cases hc_c : 0 ≤ c ∧ c < s 25 0
  · rw [show (if 0 ≤ c ∧ c < s 25 0 then (1 : Int) else 0) = 1 from if_pos hc_c]
    refine s_zne rfl ⟨by omega, by omega⟩ (fun c2 => ?_) (fun c2 => absurd c2 (by omega))
    refine am_s rfl rfl ?_
    refine s_gr rfl g rfl rfl ?_
    refine s_gi (x := 0) rfl g rfl rfl rfl ?_
    refine s_zeq rfl (by rcases hf with z | z <;> exact ⟨by omega, by omega⟩) (fun c3 => ?_) (fun c3 => ?_)
    · refine s_k (-103) rfl rfl ?_
      first | exact am_r rfl rfl ⟨rfl, Or.inl ⟨hc_c, rfl⟩⟩ | exact am_r rfl rfl ⟨rfl, Or.inr (Or.inl ⟨hc_c, by omega, rfl⟩)⟩ | exact am_r rfl rfl ⟨rfl, Or.inr (Or.inr ⟨hc_c, by omega, v, rfl, hv⟩)⟩
    · refine am_s rfl rfl ?_
      refine s_gr rfl g rfl rfl ?_
      refine am_s rfl rfl ?_
      refine s_gr rfl g rfl rfl ?_
      refine am_s rfl rfl ?_
      obtain ⟨hu1, hb1⟩ := hT (by omega)
      refine s_cv [_, _] [] rfl g (Or.inl rfl) rfl rfl (Nat.le_of_ble_eq_true rfl) rfl rfl (t_across (PP := fun rv h => h = am_hp E s ∧ ∃ v, rv = some (.int (iI v)) ∧ ct_at (s 25 0) (mx s) (ct_el (s 50) c) (s 25 0) 0 v) g hm hc_c hu1 hb1 (fun v hv => ⟨rfl, v, rfl, hv⟩)) ?_
      rintro rv h1 ⟨rfl, v, rfl, hv⟩
      refine am_s rfl rfl ?_
      first | exact am_r rfl rfl ⟨rfl, Or.inl ⟨hc_c, rfl⟩⟩ | exact am_r rfl rfl ⟨rfl, Or.inr (Or.inl ⟨hc_c, by omega, rfl⟩)⟩ | exact am_r rfl rfl ⟨rfl, Or.inr (Or.inr ⟨hc_c, by omega, v, rfl, hv⟩)⟩
  · rw [show (if 0 ≤ c ∧ c < s 25 0 then (1 : Int) else 0) = 0 from if_neg hc_c]
    refine s_zne rfl ⟨by omega, by omega⟩ (fun c2 => absurd c2 (by omega)) (fun c2 => ?_)
    refine s_k (-101) rfl rfl ?_
    first | exact am_r rfl rfl ⟨rfl, Or.inl ⟨hc_c, rfl⟩⟩ | exact am_r rfl rfl ⟨rfl, Or.inr (Or.inl ⟨hc_c, by omega, rfl⟩)⟩ | exact am_r rfl rfl ⟨rfl, Or.inr (Or.inr ⟨hc_c, by omega, v, rfl, hv⟩)⟩
