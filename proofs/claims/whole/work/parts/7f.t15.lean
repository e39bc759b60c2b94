theorem od_root {n : Nat} {ins hu odr : Int → Int} (ho : od_ok n 0 n ins hu odr) (hi : ∀ c, 0 ≤ c → c < (n : Int) → ins c = 1) {b : Int} (hb : 0 ≤ b ∧ b < n) : dsc hu b 0 := by
  obtain ⟨p, p0, p1, pe⟩ := ho.2.2.2.1 b hb.1 hb.2 (hi b hb.1 hb.2)
  obtain ⟨k, rfl⟩ := Int.eq_ofNat_of_zero_le p0
  have key : ∀ q : Nat, ∀ l : Nat, (∃ j : Int, 0 ≤ j ∧ j ≤ q ∧ j < n ∧ odr j = anc hu l b) → dsc hu b 0 := by
    intro q
    induction q with
    | zero =>
      rintro l ⟨j, j0, j1, j2, j3⟩
      have : j = 0 := by omega
      subst this
      rw [ho.1] at j3
      exact ⟨l, j3.symm⟩
    | succ q ih =>
      rintro l ⟨j, j0, j1, j2, j3⟩
      by_cases e : j = 0
      · subst e
        rw [ho.1] at j3
        exact ⟨l, j3.symm⟩
      · obtain ⟨i, i0, i1, i2⟩ := ho.2.2.2.2.2 j (by omega) j2
        refine ih (l + 1) ⟨i, i0, by omega, by omega, ?_⟩
        have hr := ho.2.2.1 j j0 j2
        show odr i = (if anc hu l b < 0 then anc hu l b else hu (anc hu l b))
        rw [← j3, if_neg (by omega), i2]
  exact key k 0 ⟨k, p0, Int.le_refl _, p1, pe⟩
theorem t_cityM {d : Nat} {E : am_Ev} {s : am_S} {c : Int} (g : am_Eg E) (hc : am_R c) (hn : 1 ≤ s 168 1 ∧ s 168 1 ≤ 20) : am_wp d 156 0 (lv_args 0 [.ref 168, .int (iI c)]) [] (am_hp E s) (fun rv h => rv = some (.int (iI (if 0 ≤ c ∧ c < s 168 1 then 1 else 0))) ∧ h = am_hp E s) := by
  obtain ⟨r1, r2⟩ := hc
  refine am_s rfl rfl ?_
  refine s_zlt rfl ⟨by omega, by omega⟩ (fun c1 => ?_) (fun c1 => ?_)
  · refine s_k 0 rfl rfl ?_
    refine am_r rfl rfl ⟨?_, rfl⟩
    first | (rw [if_pos (by omega)]; done) | (rw [if_neg (by omega)]; done) | (rw [if_pos (by omega)]; rfl) | (rw [if_neg (by omega)]; rfl)
  · refine am_s rfl rfl ?_
    refine am_s rfl rfl ?_
    refine s_gi (x := 1) rfl g rfl rfl rfl ?_
    refine s_cge rfl ⟨by omega, by omega⟩ ⟨by omega, by omega⟩ (fun c2 => ?_) (fun c2 => ?_)
    · refine s_k 0 rfl rfl ?_
      refine am_r rfl rfl ⟨?_, rfl⟩
      first | (rw [if_pos (by omega)]; done) | (rw [if_neg (by omega)]; done) | (rw [if_pos (by omega)]; rfl) | (rw [if_neg (by omega)]; rfl)
    · refine s_k 1 rfl rfl ?_
      refine am_s rfl rfl ?_
      refine am_r rfl rfl ⟨?_, rfl⟩
      first | (rw [if_pos (by omega)]; done) | (rw [if_neg (by omega)]; done) | (rw [if_pos (by omega)]; rfl) | (rw [if_neg (by omega)]; rfl)
theorem t_cityX {d : Nat} {E : am_Ev} {s : am_S} {c : Int} (g : am_Eg E) (hc : am_R c) (hn : 1 ≤ s 25 0 ∧ s 25 0 ≤ 20) : am_wp d 150 0 (lv_args 0 [.ref 1, .int (iI c)]) [] (am_hp E s) (fun rv h => rv = some (.int (iI (if 0 ≤ c ∧ c < s 25 0 then 1 else 0))) ∧ h = am_hp E s) := by
  obtain ⟨r1, r2⟩ := hc
  refine am_s rfl rfl ?_
  refine s_zlt rfl ⟨by omega, by omega⟩ (fun c1 => ?_) (fun c1 => ?_)
  · refine s_k 0 rfl rfl ?_
    refine am_r rfl rfl ⟨?_, rfl⟩
    first | (rw [if_pos (by omega)]; done) | (rw [if_neg (by omega)]; done) | (rw [if_pos (by omega)]; rfl) | (rw [if_neg (by omega)]; rfl)
  · refine am_s rfl rfl ?_
    refine am_s rfl rfl ?_
    refine s_gr rfl g rfl rfl ?_
    refine s_gi (x := 0) rfl g rfl rfl rfl ?_
    refine s_cge rfl ⟨by omega, by omega⟩ ⟨by omega, by omega⟩ (fun c2 => ?_) (fun c2 => ?_)
    · refine s_k 0 rfl rfl ?_
      refine am_r rfl rfl ⟨?_, rfl⟩
      first | (rw [if_pos (by omega)]; done) | (rw [if_neg (by omega)]; done) | (rw [if_pos (by omega)]; rfl) | (rw [if_neg (by omega)]; rfl)
    · refine s_k 1 rfl rfl ?_
      refine am_s rfl rfl ?_
      refine am_r rfl rfl ⟨?_, rfl⟩
      first | (rw [if_pos (by omega)]; done) | (rw [if_neg (by omega)]; done) | (rw [if_pos (by omega)]; rfl) | (rw [if_neg (by omega)]; rfl)
def cu_M (E : am_Ev) (s : am_S) (city : Int) (rv : Option Value) (h : am_H) : Prop := (¬ (0 ≤ city ∧ city < s 168 1) ∧ rv = some (.int (iI (-101))) ∧ h = am_hp E s) ∨ ((0 ≤ city ∧ city < s 168 1) ∧ s 168 14 = 0 ∧ rv = some (.int (iI (-103))) ∧ h = am_hp E s) ∨ ((0 ≤ city ∧ city < s 168 1) ∧ s 168 14 = 1 ∧ ∃ v, rv = some (.int (iI v)) ∧ ct_at (s 168 1) (my s) (ct_el (s 192) city) (s 168 1) 0 v ∧ h = am_hp E s)
theorem t_cutM0 {d : Nat} {E : am_Ev} {s : am_S} {city : Int} (g : am_Eg E) (hm : my_ok s) (hc : am_R city) (hf : s 168 14 = 0 ∨ s 168 14 = 1) (hT : s 168 14 = 1 → od_ex (s 168 1) (s 192)) : am_wp (d + 2) 188 5 (lv_args 0 [.ref 168, .int (iI city)]) [] (am_hp E s) (cu_M E s city) := by
  obtain ⟨n1, n2, hD⟩ := hm
  obtain ⟨n, en⟩ : ∃ n : Nat, s 168 1 = n := ⟨(s 168 1).toNat, by omega⟩
  refine am_s rfl rfl ?_
  refine am_s rfl rfl ?_
  refine s_cv [_] [] rfl g (Or.inl rfl) rfl rfl (Nat.le_of_ble_eq_true rfl) rfl rfl (t_cityM (s := s) g hc ⟨n1, n2⟩) ?_
  rintro rv h1 ⟨rfl, rfl⟩
  by_cases hcc : 0 ≤ city ∧ city < s 168 1
  · rw [show (if 0 ≤ city ∧ city < s 168 1 then (1 : Int) else 0) = 1 from if_pos hcc]
    refine s_zne rfl ⟨by omega, by omega⟩ (fun c1 => ?_) (fun c1 => absurd c1 (by omega))
    refine am_s rfl rfl ?_
    refine s_gi (x := 14) rfl g rfl rfl rfl ?_
    refine s_zne rfl (by rcases hf with z | z <;> exact ⟨by show _ ≤ s 168 14; omega, by show s 168 14 < _; omega⟩) (fun c2 => ?_) (fun c2 => ?_)
    · refine s_k (-1) rfl rfl ?_
      refine am_s rfl rfl ?_
      refine s_k 0 rfl rfl ?_
      refine am_s rfl rfl ?_
      obtain ⟨ins, odr, ho, hi⟩ := hT (by omega)
      have hn2 : s 168 1 = (n : Int) := en
      rw [en, Int.toNat_natCast] at ho
      have hi : ∀ c, 0 ≤ c → c < (n : Int) → ins c = 1 := fun c c0 c1 => hi c c0 (by omega)
      have ho : od_ok n 0 n ins (s 192) odr := ho
      refine am_lv [(3, .int (iI (((0 : Nat) : Int) : Int))), (2, .int (iI (-1))), (1, .int (iI city)), (0, .ref 168)] rfl rfl ⟨rfl, rfl, rfl, rfl, trivial⟩ ?_
      refine s_loop (X := Int) (fun A v s' => s = s' ∧ ct_at n (my s) (ct_el (s 192) city) A 0 v) (fun A v => [(3, .int (iI (A : Int))), (2, .int (iI v)), (1, .int (iI city)), (0, .ref 168)]) (hi := n) (x := -1) (Nat.zero_le n) ⟨rfl, Or.inl ⟨rfl, fun a b a0 a1 b0 b1 hs => absurd hs (by omega)⟩⟩ ?_ ?_
      · rintro A v s1 hA0 hA ⟨rfl, hC⟩ kk
        simp only at kk ⊢
        refine am_s rfl rfl ?_
        refine am_s rfl rfl ?_
        refine s_gi (x := 1) rfl g rfl rfl rfl ?_
        refine s_cge rfl ⟨by omega, by omega⟩ ⟨by omega, by omega⟩ (fun c11 => absurd c11 (by omega)) (fun c11 => ?_)
        refine am_s rfl rfl ?_
        refine s_zle rfl ⟨by omega, by omega⟩ (fun c12 => ?_) (fun c12 => ?_)
        · refine am_s rfl rfl ?_
          refine am_r rfl rfl (Or.inr (Or.inr ⟨by omega, by omega, v, rfl, ?_, rfl⟩))
          rw [en]
          have ec : city = 0 := by omega
          have none : ∀ a b, 0 ≤ a → a < (n : Int) → 0 ≤ b → b < (n : Int) → ¬ ct_el (s 192) city a b := fun a b a0 a1 b0 b1 he => he.2.1 (by rw [ec]; exact od_root ho hi ⟨b0, b1⟩)
          rcases hC with ⟨z1, z2⟩ | ⟨⟨p, q, p0, q0, pe, pv⟩, -⟩
          · exact Or.inl ⟨z1, fun a b a0 a1 b0 b1 _ => none a b a0 a1 b0 b1⟩
          · exact absurd pe (none p q p0.1 p0.2 q0.1 q0.2)
        · refine s_k 0 rfl rfl ?_
          refine am_s rfl rfl ?_
          refine am_lv [(4, .int (iI (((0 : Nat) : Int) : Int))), (3, .int (iI (A : Int))), (2, .int (iI v)), (1, .int (iI city)), (0, .ref 168)] rfl rfl ⟨rfl, rfl, rfl, rfl, rfl, trivial⟩ ?_
          refine s_loop (X := Int) (fun B v s' => s = s' ∧ ct_at n (my s) (ct_el (s 192) city) A B v) (fun B v => [(4, .int (iI (B : Int))), (3, .int (iI (A : Int))), (2, .int (iI v)), (1, .int (iI city)), (0, .ref 168)]) (hi := n) (x := v) (Nat.zero_le n) ⟨rfl, hC⟩ ?_ ?_
          · rintro B v s2 hB0 hB ⟨rfl, hQ⟩ k2
            simp only at k2 ⊢
            have j96 : ∀ w5 : Int, (w5 = 0 ∨ w5 = 1) → (w5 = 0 → ¬ ct_el (s 192) city A B) → (¬ w5 = 0 → ct_el (s 192) city A B) → am_wp (d + 2) 188 96 [(5, .int (iI w5)), (4, .int (iI (B : Int))), (3, .int (iI (A : Int))), (2, .int (iI v)), (1, .int (iI city)), (0, .ref 168)] [] (am_hp E s) (cu_M E s city) := by
              intro w5 r5 hw5n hw5y
              refine am_s rfl rfl ?_
              refine s_zeq rfl ⟨by omega, by omega⟩ (fun e1 => ?_) (fun e1 => ?_)
              · refine am_s rfl rfl ?_
                refine am_s rfl rfl ?_
                refine s_inc rfl rfl ?_
                refine am_s rfl rfl ?_
                refine am_lv [(4, _), (3, _), (2, _), (1, _), (0, _)] rfl rfl ⟨rfl, rfl, rfl, rfl, rfl, trivial⟩ ?_
                exact k2 _ _ ⟨rfl, ct_no hQ (fun he => absurd he (hw5n e1))⟩
              · refine am_s rfl rfl ?_
                refine s_k (-1) rfl rfl ?_
                refine s_ceq rfl (ct_r (fun a b a0 a1 b0 b1 => hD a b a0 (by omega) b0 (by omega)) hQ) ⟨by decide, by decide⟩ (fun e2 => ?_) (fun e2 => ?_)
                · refine am_s rfl rfl ?_
                  refine am_s rfl rfl ?_
                  refine am_s rfl rfl ?_
                  refine s_cv [_, _] [] rfl g (Or.inl rfl) rfl rfl (Nat.le_of_ble_eq_true rfl) rfl rfl (t_far (s := s) g ⟨by omega, by omega⟩ ⟨by omega, by omega⟩) ?_
                  rintro rv h1 ⟨rfl, rfl⟩
                  refine am_s rfl rfl ?_
                  refine am_s rfl rfl ?_
                  refine s_inc rfl rfl ?_
                  refine am_s rfl rfl ?_
                  refine am_lv [(4, _), (3, _), (2, _), (1, _), (0, _)] rfl rfl ⟨rfl, rfl, rfl, rfl, rfl, trivial⟩ ?_
                  exact k2 _ _ ⟨rfl, ct_yes hQ ⟨by omega, by omega⟩ ⟨by omega, by omega⟩ (hw5y e1) (Or.inl e2) (fun a b a0 a1 b0 b1 => (hD a b a0 (by omega) b0 (by omega)).1)⟩
                · refine am_s rfl rfl ?_
                  refine am_s rfl rfl ?_
                  refine am_s rfl rfl ?_
                  refine s_cv [_, _] [] rfl g (Or.inl rfl) rfl rfl (Nat.le_of_ble_eq_true rfl) rfl rfl (t_far (s := s) g ⟨by omega, by omega⟩ ⟨by omega, by omega⟩) ?_
                  rintro rv h1 ⟨rfl, rfl⟩
                  refine am_s rfl rfl ?_
                  refine s_cge rfl (by have := hD A B (by omega) (by omega) (by omega) (by omega); exact ⟨by omega, by omega⟩) (ct_r (fun a b a0 a1 b0 b1 => hD a b a0 (by omega) b0 (by omega)) hQ) (fun e3 => ?_) (fun e3 => ?_)
                  · refine am_s rfl rfl ?_
                    refine am_s rfl rfl ?_
                    refine s_inc rfl rfl ?_
                    refine am_s rfl rfl ?_
                    refine am_lv [(4, _), (3, _), (2, _), (1, _), (0, _)] rfl rfl ⟨rfl, rfl, rfl, rfl, rfl, trivial⟩ ?_
                    exact k2 _ _ ⟨rfl, ct_no hQ (fun _ => ⟨e2, e3⟩)⟩
                  · refine am_s rfl rfl ?_
                    refine am_s rfl rfl ?_
                    refine am_s rfl rfl ?_
                    refine s_cv [_, _] [] rfl g (Or.inl rfl) rfl rfl (Nat.le_of_ble_eq_true rfl) rfl rfl (t_far (s := s) g ⟨by omega, by omega⟩ ⟨by omega, by omega⟩) ?_
                    rintro rv h1 ⟨rfl, rfl⟩
                    refine am_s rfl rfl ?_
                    refine am_s rfl rfl ?_
                    refine s_inc rfl rfl ?_
                    refine am_s rfl rfl ?_
                    refine am_lv [(4, _), (3, _), (2, _), (1, _), (0, _)] rfl rfl ⟨rfl, rfl, rfl, rfl, rfl, trivial⟩ ?_
                    exact k2 _ _ ⟨rfl, ct_yes hQ ⟨by omega, by omega⟩ ⟨by omega, by omega⟩ (hw5y e1) (Or.inr (Int.not_le.mp e3)) (fun a b a0 a1 b0 b1 => (hD a b a0 (by omega) b0 (by omega)).1)⟩
            refine am_s rfl rfl ?_
            refine am_s rfl rfl ?_
            refine s_gi (x := 1) rfl g rfl rfl rfl ?_
            refine s_cge rfl ⟨by omega, by omega⟩ ⟨by omega, by omega⟩ (fun c21 => absurd c21 (by omega)) (fun c21 => ?_)
            refine am_s rfl rfl ?_
            refine am_s rfl rfl ?_
            refine am_s rfl rfl ?_
            refine s_cv [_, _] [] rfl g (Or.inl rfl) rfl rfl (Nat.le_of_ble_eq_true rfl) rfl rfl (t_hangs (s := s) g (by omega) ho hi (a := A) (fr := city) ⟨by omega, by omega⟩ ⟨by omega, by omega⟩) ?_
            rintro rv h1 ⟨rfl, hh⟩
            rcases hh with ⟨rfl, hA2⟩ | ⟨rfl, hA2⟩
            · refine s_zeq rfl ⟨by omega, by omega⟩ (fun c42 => absurd c42 (by omega)) (fun c42 => ?_)
              refine am_s rfl rfl ?_
              refine am_s rfl rfl ?_
              refine am_s rfl rfl ?_
              refine s_cv [_, _] [] rfl g (Or.inl rfl) rfl rfl (Nat.le_of_ble_eq_true rfl) rfl rfl (t_hangs (s := s) g (by omega) ho hi (a := B) (fr := city) ⟨by omega, by omega⟩ ⟨by omega, by omega⟩) ?_
              rintro rv h1 ⟨rfl, hh⟩
              rcases hh with ⟨rfl, hB2⟩ | ⟨rfl, hB2⟩
              · refine s_zne rfl ⟨by omega, by omega⟩ (fun c63 => ?_) (fun c63 => absurd c63 (by omega))
                refine s_k 0 rfl rfl ?_
                refine am_s rfl rfl ?_
                refine am_lv [(5, _), (4, _), (3, _), (2, _), (1, _), (0, _)] rfl rfl ⟨rfl, rfl, rfl, rfl, rfl, rfl, trivial⟩ ?_
                exact j96 0 (Or.inl rfl) (fun _ he => he.2.1 hB2) (fun z => absurd rfl z)
              · refine s_zne rfl ⟨by omega, by omega⟩ (fun c43 => absurd c43 (by omega)) (fun c43 => ?_)
                refine am_s rfl rfl ?_
                refine am_s rfl rfl ?_
                refine s_cne rfl ⟨by omega, by omega⟩ ⟨by omega, by omega⟩ (fun c44 => ?_) (fun c44 => ?_)
                · refine s_k 1 rfl rfl ?_
                  refine am_s rfl rfl ?_
                  refine am_s rfl rfl ?_
                  refine am_lv [(5, _), (4, _), (3, _), (2, _), (1, _), (0, _)] rfl rfl ⟨rfl, rfl, rfl, rfl, rfl, rfl, trivial⟩ ?_
                  exact j96 1 (Or.inr rfl) (fun z => absurd z (by decide)) (fun _ => ⟨hA2, hB2, fun y => c44 y.1⟩)
                · refine am_s rfl rfl ?_
                  refine am_s rfl rfl ?_
                  refine s_gr rfl g rfl rfl ?_
                  refine am_s rfl rfl ?_
                  refine s_ia rfl g rfl ⟨by omega, by omega⟩ (by decide) ?_
                  refine s_ceq rfl ⟨by omega, by omega⟩ (by rcases od_rng ho hi city (by omega) (by omega) with z | z <;> exact ⟨by omega, by omega⟩) (fun c45 => ?_) (fun c45 => ?_)
                  · refine s_k 0 rfl rfl ?_
                    refine am_s rfl rfl ?_
                    refine am_lv [(5, _), (4, _), (3, _), (2, _), (1, _), (0, _)] rfl rfl ⟨rfl, rfl, rfl, rfl, rfl, rfl, trivial⟩ ?_
                    exact j96 0 (Or.inl rfl) (fun _ he => he.2.2 ⟨by omega, c45⟩) (fun z => absurd rfl z)
                  · refine s_k 1 rfl rfl ?_
                    refine am_s rfl rfl ?_
                    refine am_s rfl rfl ?_
                    refine am_lv [(5, _), (4, _), (3, _), (2, _), (1, _), (0, _)] rfl rfl ⟨rfl, rfl, rfl, rfl, rfl, rfl, trivial⟩ ?_
                    exact j96 1 (Or.inr rfl) (fun z => absurd z (by decide)) (fun _ => ⟨hA2, hB2, fun y => c45 y.2⟩)
            · refine s_zeq rfl ⟨by omega, by omega⟩ (fun c22 => ?_) (fun c22 => absurd c22 (by omega))
              refine s_k 0 rfl rfl ?_
              refine am_s rfl rfl ?_
              refine am_lv [(5, _), (4, _), (3, _), (2, _), (1, _), (0, _)] rfl rfl ⟨rfl, rfl, rfl, rfl, rfl, rfl, trivial⟩ ?_
              exact j96 0 (Or.inl rfl) (fun _ he => hA2 he.1) (fun z => absurd rfl z)
          · rintro v s2 ⟨rfl, hQ⟩
            simp only
            refine am_s rfl rfl ?_
            refine am_s rfl rfl ?_
            refine s_gi (x := 1) rfl g rfl rfl rfl ?_
            refine s_cge rfl ⟨by omega, by omega⟩ ⟨by omega, by omega⟩ (fun c21 => ?_) (fun c21 => absurd c21 (by omega))
            refine s_inc rfl rfl ?_
            refine am_s rfl rfl ?_
            refine am_lv [(3, _), (2, _), (1, _), (0, _)] rfl rfl ⟨rfl, rfl, rfl, rfl, trivial⟩ ?_
            exact kk _ _ ⟨rfl, ct_row hQ⟩
      · rintro v s1 ⟨rfl, hC⟩
        simp only
        refine am_s rfl rfl ?_
        refine am_s rfl rfl ?_
        refine s_gi (x := 1) rfl g rfl rfl rfl ?_
        refine s_cge rfl ⟨by omega, by omega⟩ ⟨by omega, by omega⟩ (fun c11 => ?_) (fun c11 => absurd c11 (by omega))
        refine am_s rfl rfl ?_
        refine am_r rfl rfl (Or.inr (Or.inr ⟨by omega, by omega, v, rfl, ?_, rfl⟩))
        rw [en]; exact hC
    · refine s_k (-103) rfl rfl ?_
      exact am_r rfl rfl (Or.inr (Or.inl ⟨hcc, by omega, rfl, rfl⟩))
  · rw [show (if 0 ≤ city ∧ city < s 168 1 then (1 : Int) else 0) = 0 from if_neg hcc]
    refine s_zne rfl ⟨by omega, by omega⟩ (fun c1 => absurd c1 (by omega)) (fun c1 => ?_)
    refine s_k (-101) rfl rfl ?_
    exact am_r rfl rfl (Or.inl ⟨hcc, rfl, rfl⟩)
theorem t_cutM {d : Nat} {E : am_Ev} {s : am_S} {city : Int} (g : am_Eg E) (hm : my_ok s) (hc : am_R city) (hf : s 168 14 = 0 ∨ s 168 14 = 1) (hT : s 168 14 = 1 → od_ex (s 168 1) (s 192)) : am_wp (d + 2) 188 0 (lv_args 0 [.ref 168, .int (iI city)]) [] (am_hp E s) (cu_M E (am_w s 168 0 0) city) := by
  refine am_s rfl rfl ?_
  refine s_k 0 rfl rfl ?_
  refine s_pi (x := 0) rfl g rfl rfl rfl rfl ?_
  exact t_cutM0 (s := am_w s 168 0 0) g hm hc hf hT
