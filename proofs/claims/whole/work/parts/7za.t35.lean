/-- a bound of the other one: what it answers and leaves -/
def bd_M (E : am_Ev) (s : am_S) (rn stp0 : Int) (rv : Option Value) (h : am_H) : Prop := (s 168 1 = 1 ∧ rv = some (.long (lI 0)) ∧ h = am_hp E s) ∨ (s 168 1 = 2 ∧ rv = some (.long (lI (2 * my s 0 1))) ∧ h = am_hp E s) ∨ (3 ≤ s 168 1 ∧ ∃ gr s' stp, rv = some (.long (lI gr)) ∧ h = am_hp E s' ∧ am_Fr [186, 175, 189, 191] s s' ∧ bd_ok (s 168 1) (my s) (s 191) stp0 rn.toNat (s' 191) gr stp ∧ ∀ c, 0 ≤ c → c < 20 → -200000000000000 ≤ s' 191 c ∧ s' 191 c ≤ 200000000000000)
def bo_M (E : am_Ev) (s : am_S) (rn stp0 : Int) (rv : Option Value) (h : am_H) : Prop := (¬ ((1 ≤ rn ∧ rn ≤ 100) ∧ (0 ≤ stp0 ∧ stp0 ≤ 1000000)) ∧ rv = some (.long (lI (-102))) ∧ h = am_hp E s) ∨ (((1 ≤ rn ∧ rn ≤ 100) ∧ (0 ≤ stp0 ∧ stp0 ≤ 1000000)) ∧ ∃ s1, am_Fm [174] [12] s s1 ∧ fl_is (s 168 1) (my s) (s1 168 12) (s1 174 0) (s1 174 1) (s1 174 2) ∧ ((s1 168 12 ≠ 0 ∧ rv = some (.long (lI (-103))) ∧ h = am_hp E s1) ∨ (s1 168 12 = 0 ∧ bd_M E s1 rn stp0 rv h)))
set_option maxHeartbeats 4000000 in
theorem w_climbM {d : Nat} {E : am_Ev} {s : am_S} {rn stp0 : Int} (g : am_Eg E) (hm : my_ok s) (hr : 1 ≤ rn ∧ rn ≤ 100) (hst : 0 ≤ stp0 ∧ stp0 ≤ 1000000) (hp0 : ∀ c, 0 ≤ c → c < 20 → -100000000000000 ≤ s 191 c ∧ s 191 c ≤ 100000000000000) : am_wp (d + 4) 215 44 [(2, .int (iI stp0)), (1, .int (iI rn)), (0, .ref 168)] [] (am_hp E s) (bd_M E s rn stp0) := by
  obtain ⟨n1, n2, hD⟩ := hm
  obtain ⟨n, en⟩ : ∃ n : Nat, s 168 1 = n := ⟨(s 168 1).toNat, by omega⟩
  obtain ⟨q, eq⟩ : ∃ q : Nat, rn = q := ⟨rn.toNat, by omega⟩
  refine am_s rfl rfl ?_
  refine s_gi (x := 1) rfl g rfl rfl rfl ?_
  refine s_k 3 rfl rfl ?_
  refine s_cge rfl ⟨by omega, by omega⟩ ⟨by omega, by omega⟩ (fun c1 => ?_) (fun c1 => ?_)
  · refine s_kl 0 rfl rfl ?_
    refine am_s rfl rfl ?_
    refine am_s rfl rfl ?_
    refine am_s rfl rfl ?_
    refine s_k 1 rfl rfl ?_
    refine am_s rfl rfl ?_
    refine am_lv [(6, .int (iI (((1 : Nat) : Int) : Int))), (5, .int (iI stp0)), (3, .long (lI 0)), (2, .int (iI stp0)), (1, .int (iI rn)), (0, .ref 168)] rfl rfl ⟨rfl, rfl, rfl, rfl, rfl, rfl, trivial⟩ ?_
    refine s_loop (X := Int × Int) (fun k x s' => am_Fr [186, 175, 189, 191] s s' ∧ bd_ok n (my s) (s 191) stp0 (k - 1) (s' 191) x.1 x.2 ∧ (0 ≤ x.2 ∧ x.2 ≤ 1000000) ∧ (∀ c, 0 ≤ c → c < 20 → -(100000000000000 + 42000000 * (k : Int)) ≤ s' 191 c ∧ s' 191 c ≤ 100000000000000 + 42000000 * (k : Int)) ∧ (-1000000000000000000 ≤ x.1 ∧ x.1 ≤ 1000000000000000000)) (fun k x => [(6, .int (iI (k : Int))), (5, .int (iI x.2)), (3, .long (lI x.1)), (2, .int (iI stp0)), (1, .int (iI rn)), (0, .ref 168)]) (lo := 1) (hi := q + 1) (x := (0, stp0)) (by omega) ⟨am_Fr_r _ _, ⟨fun _ _ _ => rfl, rfl⟩, hst, fun c c0 c1 => by have := hp0 c c0 c1; omega, by show (-1000000000000000000 : Int) ≤ 0; decide, by show (0 : Int) ≤ 1000000000000000000; decide⟩ ?_ ?_
    · rintro k x s1 hk0 hk ⟨hF, h2, h3, h4, h5⟩ kk
      have eN : s1 168 1 = n := by rw [hF 168 (by decide)]; exact en
      have m1 : my_ok s1 := ⟨by omega, by omega, fun a b a0 a1 b0 b1 => by
        have := hD a b a0 (by omega) b0 (by omega)
        unfold my at this ⊢
        rw [hF 169 (by decide)]
        exact this⟩
      have p1 : pn_ok s1 191 := fun c c0 c1 => by have := h4 c c0 c1; omega
      simp only at kk ⊢
      refine am_s rfl rfl ?_
      refine am_s rfl rfl ?_
      refine s_cgt rfl ⟨by omega, by omega⟩ ⟨by omega, by omega⟩ (fun c1 => absurd c1 (by omega)) (fun c1 => ?_)
      refine am_s rfl rfl ?_
      refine s_cv [] [] rfl g (Or.inl rfl) rfl rfl (Nat.le_of_ble_eq_true rfl) rfl rfl (t_oneTreeM (PP := fun rv h => ∃ val s', rv = some (.long (lI val)) ∧ h = am_hp E s' ∧ am_Fr [186, 175, 189] s1 s' ∧ ot_is (s1 168 1) (fm s1 1) (s1 191) val (s' 189) ∧ -1000000000000000000 ≤ val ∧ val ≤ 1000000000000000000) g m1 p1 (by omega) (fun val s' h => ⟨val, s', rfl, rfl, h⟩)) ?_
      rintro rv h1 ⟨val, s2, rfl, rfl, hF2, hot, v1, v2⟩
      rw [eN] at hot
      have e25 : s2 168 1 = n := by rw [hF2 168 (by decide)]; exact eN
      have hdg := ot_dg ⟨by omega, by omega⟩ hot
      have e191 : s2 191 = s1 191 := hF2 191 (by decide)
      have eot : ot_is n (fxp (my s) (s1 191)) (s1 191) val (s2 189) := by
        refine ot_f (by omega) (fun t c t0 t1 => ?_) hot
        unfold fm fxp my
        rw [hF 169 (by decide), if_neg (by decide)]
        omega
      have hgb : -1000000000000000000 ≤ (if k - 1 = 0 then val else if x.1 < val then val else x.1) ∧ (if k - 1 = 0 then val else if x.1 < val then val else x.1) ≤ 1000000000000000000 := by
        (repeat' split) <;> omega
      have j119 : ∀ gr, gr = (if k - 1 = 0 then val else if x.1 < val then val else x.1) → am_wp (d + 4) 215 119 [(9, .int (iI (0 : Int))), (7, .long (lI val)), (6, .int (iI (k : Int))), (5, .int (iI x.2)), (3, .long (lI gr)), (2, .int (iI stp0)), (1, .int (iI rn)), (0, .ref 168)] [] (am_hp E s2) (bd_M E s rn stp0) := by
        rintro gr egr
        rw [← egr] at hgb
        refine am_lv [(9, .int (iI (((0 : Nat) : Int) : Int))), (7, .long (lI val)), (6, .int (iI (k : Int))), (5, .int (iI x.2)), (3, .long (lI gr)), (2, .int (iI stp0)), (1, .int (iI rn)), (0, .ref 168)] rfl rfl ⟨rfl, rfl, rfl, rfl, rfl, rfl, rfl, rfl, trivial⟩ ?_
        refine s_loop (X := Unit) (fun m _ s' => am_Fr [191] s2 s' ∧ ∀ c, s' 191 c = if 0 ≤ c ∧ c < (m : Int) then s2 191 c + x.2 * (s2 189 c - 2) else s2 191 c) (fun m _ => [(9, .int (iI (m : Int))), (7, .long (lI val)), (6, .int (iI (k : Int))), (5, .int (iI x.2)), (3, .long (lI gr)), (2, .int (iI stp0)), (1, .int (iI rn)), (0, .ref 168)]) (hi := n) (x := ()) (Nat.zero_le n) ⟨am_Fr_r _ _, fun c => by rw [if_neg (by omega)]⟩ ?_ ?_
        · rintro m - s3 hm0 hmn ⟨hF3, hV3⟩ k2
          have e189 : s3 189 = s2 189 := hF3 189 (by decide)
          have eN3 : s3 168 1 = n := by rw [hF3 168 (by decide)]; exact e25
          try simp only at k2 ⊢
          refine am_s rfl rfl ?_
          refine am_s rfl rfl ?_
          refine s_gi (x := 1) rfl g rfl rfl rfl ?_
          refine s_cge rfl ⟨by omega, by omega⟩ ⟨by omega, by omega⟩ (fun c1 => absurd c1 (by omega)) (fun c1 => ?_)
          refine am_s rfl rfl ?_
          refine s_gr rfl g rfl rfl ?_
          refine am_s rfl rfl ?_
          refine am_s rfl rfl ?_
          refine s_la rfl g rfl ⟨by omega, by omega⟩ (by decide) ?_
          refine am_s rfl rfl ?_
          refine s_i2l rfl ⟨by omega, by omega⟩ ?_
          refine am_s rfl rfl ?_
          refine s_gr rfl g rfl rfl ?_
          refine am_s rfl rfl ?_
          refine s_ia rfl g rfl ⟨by omega, by omega⟩ (by decide) ?_
          refine s_k 2 rfl rfl ?_
          refine s_isub rfl ?_
          refine s_i2l rfl (by rw [e189]; have := hdg m (by omega) (by omega); exact ⟨by omega, by omega⟩) ?_
          refine s_lmul rfl ?_
          refine s_ladd rfl ?_
          refine s_ls rfl g rfl ⟨by omega, by omega⟩ (by decide) ?_
          refine s_inc rfl rfl ?_
          refine am_s rfl rfl ?_
          refine am_lv [(9, _), (7, _), (6, _), (5, _), (3, _), (2, _), (1, _), (0, _)] rfl rfl ⟨rfl, rfl, rfl, rfl, rfl, rfl, rfl, rfl, trivial⟩ ?_
          refine k2 () _ ⟨am_Fr_W hF3 (by decide), fun c => ?_⟩
          by_cases e : c = (m : Int)
          · rw [e, am_w_eq, hV3, if_neg (by omega), if_pos (by omega), e189]
          · rw [am_w_x e, hV3 c]
            by_cases e2 : 0 ≤ c ∧ c < (m : Int)
            · rw [if_pos e2, if_pos (by omega)]
            · rw [if_neg e2, if_neg (by omega)]
        · rintro - s3 ⟨hF3, hV3⟩
          have e189 : s3 189 = s2 189 := hF3 189 (by decide)
          have eN3 : s3 168 1 = n := by rw [hF3 168 (by decide)]; exact e25
          have hF4 : am_Fr [186, 175, 189, 191] s s3 := am_Fr_u (am_Fr_u hF (am_Fr_m hF2 (by decide))) (am_Fr_m hF3 (by decide))
          have hpn : ∀ c, 0 ≤ c → c < 20 → s3 191 c = if c < (n : Int) then s1 191 c + x.2 * (s2 189 c - 2) else s1 191 c := fun c c0 c1 => by
            rw [hV3 c, e191]
            by_cases e : c < (n : Int)
            · rw [if_pos ⟨c0, e⟩, if_pos e]
            · rw [if_neg (fun z => e z.2), if_neg e]
          have hpb : ∀ c, 0 ≤ c → c < 20 → -(100000000000000 + 42000000 * ((k + 1 : Nat) : Int)) ≤ s3 191 c ∧ s3 191 c ≤ 100000000000000 + 42000000 * ((k + 1 : Nat) : Int) := fun c c0 c1 => by
            have a1 := h4 c c0 c1
            rw [hpn c c0 c1]
            by_cases e : c < (n : Int)
            · rw [if_pos e]
              have a2 := hdg c c0 e
              have a3 : x.2 * (s2 189 c - 2) ≤ 1000000 * 40 := Int.le_trans (Int.mul_le_mul_of_nonneg_left (by omega) h3.1) (Int.mul_le_mul_of_nonneg_right h3.2 (by omega))
              have a4 : -(1000000 * 2) ≤ x.2 * (s2 189 c - 2) := by
                have := Int.mul_le_mul_of_nonneg_left (show -2 ≤ s2 189 c - 2 by omega) h3.1
                omega
              omega
            · rw [if_neg e]; omega
          try simp only
          refine am_s rfl rfl ?_
          refine am_s rfl rfl ?_
          refine s_gi (x := 1) rfl g rfl rfl rfl ?_
          refine s_cge rfl ⟨by omega, by omega⟩ ⟨by omega, by omega⟩ (fun c1 => ?_) (fun c1 => absurd c1 (by omega))
          refine am_s rfl rfl ?_
          refine s_k 10 rfl rfl ?_
          refine s_irem rfl ⟨by omega, by omega⟩ ⟨by omega, by omega⟩ ?_
          refine s_zne rfl ⟨by omega, by omega⟩ (fun c2 => ?_) (fun c2 => ?_)
          · refine am_s rfl rfl ?_
            refine am_s rfl rfl ?_
            refine s_inc rfl rfl ?_
            refine am_s rfl rfl ?_
            refine am_lv [(6, _), (5, _), (3, _), (2, _), (1, _), (0, _)] rfl rfl ⟨rfl, rfl, rfl, rfl, rfl, rfl, trivial⟩ ?_
            refine kk (gr, x.2) _ ⟨hF4, ?_, ?_, hpb, hgb⟩
            · show bd_ok n (my s) (s 191) stp0 (k + 1 - 1) (s3 191) gr (x.2)
              rw [show k + 1 - 1 = (k - 1) + 1 by omega, egr]
              exact ⟨s1 191, x.1, x.2, val, s2 189, h2, eot, hpn, rfl, by rw [show ((k - 1 : Nat) : Int) + 1 = k by omega]; rw [if_neg c2]⟩
            · show 0 ≤ x.2 ∧ x.2 ≤ 1000000
              omega
          · refine am_s rfl rfl ?_
            refine s_k 2 rfl rfl ?_
            refine s_idiv rfl ⟨by omega, by omega⟩ ⟨by omega, by omega⟩ ?_
            refine am_s rfl rfl ?_
            refine am_s rfl rfl ?_
            refine s_inc rfl rfl ?_
            refine am_s rfl rfl ?_
            refine am_lv [(6, _), (5, _), (3, _), (2, _), (1, _), (0, _)] rfl rfl ⟨rfl, rfl, rfl, rfl, rfl, rfl, trivial⟩ ?_
            refine kk (gr, x.2 / 2) _ ⟨hF4, ?_, ?_, hpb, hgb⟩
            · show bd_ok n (my s) (s 191) stp0 (k + 1 - 1) (s3 191) gr (x.2 / 2)
              rw [show k + 1 - 1 = (k - 1) + 1 by omega, egr]
              exact ⟨s1 191, x.1, x.2, val, s2 189, h2, eot, hpn, rfl, by rw [show ((k - 1 : Nat) : Int) + 1 = k by omega]; rw [if_pos (by omega)]⟩
            · show 0 ≤ x.2 / 2 ∧ x.2 / 2 ≤ 1000000
              omega
      refine am_s rfl rfl ?_
      refine am_s rfl rfl ?_
      refine s_k 1 rfl rfl ?_
      refine s_ceq rfl ⟨by omega, by omega⟩ ⟨by omega, by omega⟩ (fun c2 => ?_) (fun c2 => ?_)
      · refine am_s rfl rfl ?_
        refine am_s rfl rfl ?_
        refine am_s rfl rfl ?_
        refine s_k 0 rfl rfl ?_
        refine am_s rfl rfl ?_
        refine am_lv [(9, _), (7, _), (6, _), (5, _), (3, _), (2, _), (1, _), (0, _)] rfl rfl ⟨rfl, rfl, rfl, rfl, rfl, rfl, rfl, rfl, trivial⟩ ?_
        exact j119 _ (by rw [if_pos (by omega)])
      · refine am_s rfl rfl ?_
        refine am_s rfl rfl ?_
        refine s_jle rfl rfl ⟨by omega, by omega⟩ ⟨by omega, by omega⟩ (fun c3 => ?_) (fun c3 => ?_)
        · refine am_s rfl rfl ?_
          refine am_s rfl rfl ?_
          refine s_k 0 rfl rfl ?_
          refine am_s rfl rfl ?_
          refine am_lv [(9, _), (7, _), (6, _), (5, _), (3, _), (2, _), (1, _), (0, _)] rfl rfl ⟨rfl, rfl, rfl, rfl, rfl, rfl, rfl, rfl, trivial⟩ ?_
          exact j119 _ (by rw [if_neg (by omega), if_neg (by omega)])
        · refine am_s rfl rfl ?_
          refine am_s rfl rfl ?_
          refine am_s rfl rfl ?_
          refine s_k 0 rfl rfl ?_
          refine am_s rfl rfl ?_
          refine am_lv [(9, _), (7, _), (6, _), (5, _), (3, _), (2, _), (1, _), (0, _)] rfl rfl ⟨rfl, rfl, rfl, rfl, rfl, rfl, rfl, rfl, trivial⟩ ?_
          exact j119 _ (by rw [if_neg (by omega), if_pos (by omega)])
    · rintro x s1 ⟨hF, h2, h3, h4, h5⟩
      simp only
      refine am_s rfl rfl ?_
      refine am_s rfl rfl ?_
      refine s_cgt rfl ⟨by omega, by omega⟩ ⟨by omega, by omega⟩ (fun c1 => ?_) (fun c1 => absurd c1 (by omega))
      refine am_s rfl rfl ?_
      refine am_r rfl rfl (Or.inr (Or.inr ⟨by omega, x.1, s1, x.2, rfl, rfl, hF, ?_, fun c c0 c1 => ?_⟩))
      · rw [en, show rn.toNat = q + 1 - 1 by omega]; exact h2
      · have := h4 c c0 c1; omega
  · refine am_s rfl rfl ?_
    refine s_gi (x := 1) rfl g rfl rfl rfl ?_
    refine s_k 1 rfl rfl ?_
    refine s_cne rfl ⟨by omega, by omega⟩ ⟨by omega, by omega⟩ (fun c2 => ?_) (fun c2 => ?_)
    · refine s_kl 2 rfl rfl ?_
      refine am_s rfl rfl ?_
      refine s_k 0 rfl rfl ?_
      refine s_k 1 rfl rfl ?_
      refine s_cv [_, _] [_] rfl g (Or.inl rfl) rfl rfl (Nat.le_of_ble_eq_true rfl) rfl rfl (t_far g (a := 0) (b := 1) ⟨by omega, by omega⟩ ⟨by omega, by omega⟩) ?_
      rintro rv h1 ⟨rfl, rfl⟩
      refine s_i2l rfl (by have := hD 0 1 (by omega) (by omega) (by omega) (by omega); exact ⟨by omega, by omega⟩) ?_
      refine s_lmul rfl ?_
      first | exact am_r rfl rfl (Or.inl ⟨by omega, rfl, rfl⟩) | exact am_r rfl rfl (Or.inr (Or.inl ⟨by omega, rfl, rfl⟩))
    · refine s_kl 0 rfl rfl ?_
      refine am_s rfl rfl ?_
      first | exact am_r rfl rfl (Or.inl ⟨by omega, rfl, rfl⟩) | exact am_r rfl rfl (Or.inr (Or.inl ⟨by omega, rfl, rfl⟩))
theorem t_boundM0 {d : Nat} {E : am_Ev} {s : am_S} {rn stp0 : Int} (g : am_Eg E) (hm : my_ok s) (hr_r : am_R rn) (hr_s : am_R stp0) (hp : ∀ c, 0 ≤ c → c < 20 → -100000000000000 ≤ s 191 c ∧ s 191 c ≤ 100000000000000) : am_wp (d + 4) 215 5 (lv_args 0 [.ref 168, .int (iI rn), .int (iI stp0)]) [] (am_hp E s) (bo_M E s rn stp0) := by
  obtain ⟨r1, r2⟩ := hr_r
  obtain ⟨r3, r4⟩ := hr_s
  refine am_s rfl rfl ?_
  refine s_i2l rfl ⟨by omega, by omega⟩ ?_
  refine s_kl 1 rfl rfl ?_
  refine s_kl 100 rfl rfl ?_
  refine am_cs (As := [_, _, _]) (rest := []) rfl (Or.inl rfl) rfl rfl (Nat.le_of_ble_eq_true rfl) rfl (t_within ⟨by omega, by omega⟩ ⟨by decide, by decide⟩ ⟨by decide, by decide⟩) ?_
  rintro rv h1 ⟨rfl, rfl⟩
  by_cases hw1 : 1 ≤ rn ∧ rn ≤ 100
  · rw [show (if 1 ≤ rn ∧ rn ≤ 100 then (1 : Int) else 0) = 1 from if_pos hw1]
    refine s_zeq rfl ⟨by omega, by omega⟩ (fun c2 => absurd c2 (by omega)) (fun c2 => ?_)
    refine am_s rfl rfl ?_
    refine s_i2l rfl ⟨by omega, by omega⟩ ?_
    refine s_kl 0 rfl rfl ?_
    refine s_kl 1000000 rfl rfl ?_
    refine am_cs (As := [_, _, _]) (rest := []) rfl (Or.inl rfl) rfl rfl (Nat.le_of_ble_eq_true rfl) rfl (t_within ⟨by omega, by omega⟩ ⟨by decide, by decide⟩ ⟨by decide, by decide⟩) ?_
    rintro rv h1 ⟨rfl, rfl⟩
    by_cases hw2 : 0 ≤ stp0 ∧ stp0 ≤ 1000000
    · rw [show (if 0 ≤ stp0 ∧ stp0 ≤ 1000000 then (1 : Int) else 0) = 1 from if_pos hw2]
      refine s_zne rfl ⟨by omega, by omega⟩ (fun c4 => ?_) (fun c4 => absurd c4 (by omega))
      refine am_s rfl rfl ?_
      refine s_cv [] [] rfl g (Or.inl rfl) rfl rfl (Nat.le_of_ble_eq_true rfl) rfl rfl (t_soundM g hm) ?_
      rintro rv h1 ⟨s1, rfl, hF, hfl, hh⟩
      rcases hh with ⟨hk, rfl⟩ | ⟨hk, rfl⟩
      · refine s_zne rfl ⟨by omega, by omega⟩ (fun c1 => ?_) (fun c1 => absurd c1 (by omega))
        have e1 : s1 168 1 = s 168 1 := hF.2 1 (by decide)
        have hm2 : my_ok s1 := by
          unfold my_ok my at hm ⊢
          rw [e1, hF.1 169 (by decide)]
          exact hm
        refine am_lv [(2, _), (1, _), (0, _)] rfl rfl ⟨rfl, rfl, rfl, trivial⟩ ?_
        refine am_wp_mono (w_climbM g hm2 hw1 hw2 (fun c c0 c1 => by rw [hF.1 191 (by decide)]; exact hp c c0 c1)) ?_
        exact fun rv h hh => Or.inr ⟨⟨hw1, hw2⟩, s1, hF, hfl, Or.inr ⟨hk, hh⟩⟩
      · refine s_zne rfl ⟨by omega, by omega⟩ (fun c1 => absurd c1 (by omega)) (fun c1 => ?_)
        refine s_kl (-103) rfl rfl ?_
        exact am_r rfl rfl (Or.inr ⟨⟨hw1, hw2⟩, s1, hF, hfl, Or.inl ⟨hk, rfl, rfl⟩⟩)
    · rw [show (if 0 ≤ stp0 ∧ stp0 ≤ 1000000 then (1 : Int) else 0) = 0 from if_neg hw2]
      refine s_zne rfl ⟨by omega, by omega⟩ (fun c4 => absurd c4 (by omega)) (fun c4 => ?_)
      refine s_kl (-102) rfl rfl ?_
      exact am_r rfl rfl (Or.inl ⟨by omega, rfl, rfl⟩)
  · rw [show (if 1 ≤ rn ∧ rn ≤ 100 then (1 : Int) else 0) = 0 from if_neg hw1]
    refine s_zeq rfl ⟨by omega, by omega⟩ (fun c2 => ?_) (fun c2 => absurd c2 (by omega))
    refine s_kl (-102) rfl rfl ?_
    exact am_r rfl rfl (Or.inl ⟨by omega, rfl, rfl⟩)
theorem t_boundM {d : Nat} {E : am_Ev} {s : am_S} {rn stp0 : Int} (g : am_Eg E) (hm : my_ok s) (hr_r : am_R rn) (hr_s : am_R stp0) (hp : ∀ c, 0 ≤ c → c < 20 → -100000000000000 ≤ s 191 c ∧ s 191 c ≤ 100000000000000) : am_wp (d + 4) 215 0 (lv_args 0 [.ref 168, .int (iI rn), .int (iI stp0)]) [] (am_hp E s) (bo_M E (am_w s 168 0 0) rn stp0) := by
  refine am_s rfl rfl ?_
  refine s_k 0 rfl rfl ?_
  refine s_pi (x := 0) rfl g rfl rfl rfl rfl ?_
  exact t_boundM0 (s := am_w s 168 0 0) g hm hr_r hr_s hp
