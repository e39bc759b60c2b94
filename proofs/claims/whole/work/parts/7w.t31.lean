theorem s_sum_bd (g : Int → Int) : ∀ k : Nat, (∀ c, 0 ≤ c → c < (k : Int) → -1000000000000000 ≤ g c ∧ g c ≤ 1000000000000000) → -(1000000000000000 * (k : Int)) ≤ s_sum g k ∧ s_sum g k ≤ 1000000000000000 * (k : Int)
  | 0, _ => ⟨by show -(1000000000000000 * ((0 : Nat) : Int)) ≤ (0 : Int); omega, by show (0 : Int) ≤ 1000000000000000 * ((0 : Nat) : Int); omega⟩
  | k + 1, h => by
    have h1 := s_sum_bd g k (fun c c0 c1 => h c c0 (by omega))
    have h2 := h k (by omega) (by omega)
    have e : s_sum g (k + 1) = s_sum g k + g k := rfl
    rw [e]
    omega
theorem t_oneTree {d : Nat} {E : am_Ev} {s : am_S} {PP : Option Value → am_H → Prop} (g : am_Eg E) (hm : mx_ok s) (hp : pn_ok s 161) (h3n : 3 ≤ s 25 0) (hPP : ∀ val s', (am_Fr [162, 164, 165, 166, 167] s s' ∧ ot_is (s 25 0) (fx s 161) (s 161) val (s' 162) ∧ -1000000000000000000 ≤ val ∧ val ≤ 1000000000000000000) → PP (some (.long (lI val))) (am_hp E s')) : am_wp (d + 2) 3 0 (lv_args 0 [.ref 160, .ref 25]) [] (am_hp E s) PP := by
  have hm0 := hm
  obtain ⟨n1, n2, hD⟩ := hm0
  obtain ⟨n, en⟩ : ∃ n : Nat, s 25 0 = n := ⟨(s 25 0).toNat, by omega⟩
  refine am_s rfl rfl ?_
  refine s_gr rfl g rfl rfl ?_
  refine am_s rfl rfl ?_
  refine am_s rfl rfl ?_
  refine s_gr rfl g rfl rfl ?_
  refine s_k 1 rfl rfl ?_
  refine s_cv [_, _, _] [] rfl g (Or.inl rfl) rfl rfl (Nat.le_of_ble_eq_true rfl) rfl rfl (t_grow163 g hm hp (x := 1) ⟨by decide, by omega⟩) ?_
  rintro rv h1 ⟨al, rfl, s1, rfl, hF1, h2, h3, h4, h5, h6⟩
  have hrg := gw_rng (by decide) h2
  have hu : ∀ c, 2 ≤ c → c < (n : Int) → 1 ≤ s1 164 c ∧ s1 164 c < n := fun c c0 c1 => by
    have := hrg.2.1 c (by omega) (by omega) (h3 c (by omega) (by omega)) (by omega)
    omega
  refine am_s rfl rfl ?_
  refine am_s rfl rfl ?_
  refine s_gr rfl g rfl rfl ?_
  refine s_k 0 rfl rfl ?_
  refine am_cs (As := [_, _]) (rest := []) rfl (Or.inl rfl) rfl rfl (Nat.le_of_ble_eq_true rfl) rfl (t_fillI (n := 20) g rfl (by decide)) ?_
  rintro rv h1 ⟨rfl, s2, rfl, hF2, hV2⟩
  refine s_k 2 rfl rfl ?_
  refine am_s rfl rfl ?_
  have F2 : am_Fr [162, 164, 165, 166, 167] s s2 := am_Fr_u (am_Fr_m hF1 (by decide)) (am_Fr_m hF2 (by decide))
  have e164 : s2 164 = s1 164 := hF2 164 (by decide)
  refine am_lv [(4, .int (iI (((2 : Nat) : Int) : Int))), (2, .long (lI al)), (1, .ref 25), (0, .ref 160)] rfl rfl ⟨rfl, rfl, rfl, rfl, trivial⟩ ?_
  refine s_loop (X := Unit) (fun m _ s' => am_Fr [162, 164, 165, 166, 167] s s' ∧ s' 164 = s1 164 ∧ ∀ c, 0 ≤ c → c < 20 → s' 162 c = dg2 (s1 164) m c) (fun m _ => [(4, .int (iI (m : Int))), (2, .long (lI al)), (1, .ref 25), (0, .ref 160)]) (lo := 2) (hi := n) (x := ()) (by omega) ⟨F2, e164, fun c c0 c1 => by rw [hV2 c c0 c1]; rfl⟩ ?_ ?_
  · rintro m - s3 hm0 hmn ⟨i1, i2, i3⟩ kk
    have eN : s3 25 0 = n := by rw [i1 25 (by decide)]; exact en
    simp only at kk ⊢
    refine am_s rfl rfl ?_
    refine am_s rfl rfl ?_
    refine s_gi (x := 0) rfl g rfl rfl rfl ?_
    refine s_cge rfl ⟨by omega, by omega⟩ ⟨by omega, by omega⟩ (fun c1 => absurd c1 (by omega)) (fun c1 => ?_)
    refine am_s rfl rfl ?_
    refine s_gr rfl g rfl rfl ?_
    refine am_s rfl rfl ?_
    have hh := hu m (by omega) (by omega)
    refine am_s rfl rfl ?_
    refine s_ia rfl g rfl ⟨by omega, by omega⟩ (by decide) ?_
    refine s_k 1 rfl rfl ?_
    refine s_iadd rfl ?_
    refine s_is rfl g rfl ⟨by omega, by omega⟩ (by decide) ?_
    refine am_s rfl rfl ?_
    refine s_gr rfl g rfl rfl ?_
    refine am_s rfl rfl ?_
    refine s_gr rfl g rfl rfl ?_
    refine s_gr rfl g rfl rfl ?_
    refine am_s rfl rfl ?_
    refine s_ia rfl g rfl ⟨by omega, by omega⟩ (by decide) ?_
    refine am_s rfl rfl ?_
    refine s_ia rfl g rfl ⟨by rw [am_w_a (by decide), i2]; omega, by rw [am_w_a (by decide), i2]; omega⟩ (by decide) ?_
    refine s_k 1 rfl rfl ?_
    refine s_iadd rfl ?_
    refine s_is rfl g rfl ⟨by rw [am_w_a (by decide), i2]; omega, by rw [am_w_a (by decide), i2]; omega⟩ (by decide) ?_
    refine s_inc rfl rfl ?_
    refine am_s rfl rfl ?_
    refine am_lv [(4, _), (2, _), (1, _), (0, _)] rfl rfl ⟨rfl, rfl, rfl, rfl, trivial⟩ ?_
    refine kk () _ ⟨am_Fr_W (am_Fr_W i1 (by decide)) (by decide), by rw [am_w_row (by decide), am_w_row (by decide)]; exact i2, fun c c0 c1 => ?_⟩
    rw [dg_two rfl rfl c, am_w_a (by decide), i2, i3 c c0 c1]
    exact (dg2_s (show ¬ m < 2 by omega) c).symm
  · rintro - s3 ⟨i1, i2, i3⟩
    have eN : s3 25 0 = n := by rw [i1 25 (by decide)]; exact en
    simp only
    refine am_s rfl rfl ?_
    refine am_s rfl rfl ?_
    refine s_gi (x := 0) rfl g rfl rfl rfl ?_
    refine s_cge rfl ⟨by omega, by omega⟩ ⟨by omega, by omega⟩ (fun c1 => ?_) (fun c1 => absurd c1 (by omega))
    refine am_s rfl rfl ?_
    refine am_s rfl rfl ?_
    refine s_k (-1) rfl rfl ?_
    have m3 : mx_ok s3 := ⟨by omega, by omega, fun a b a0 a1 b0 b1 => by
      have := hD a b a0 (by omega) b0 (by omega)
      unfold mx at this ⊢
      rw [i1 (26 + 1 + a.toNat) (fun z => by simp at z; omega)]
      exact this⟩
    have p3 : pn_ok s3 161 := by
      intro c c0 c1
      rw [i1 161 (by decide)]
      exact hp c c0 c1
    have efx : fx s3 161 0 = fx s 161 0 := by
      funext c
      unfold fx mx
      rw [i1 161 (by decide), i1 (26 + 1 + (0 : Int).toNat) (by decide)]
    refine s_cv [_, _] [] rfl g (Or.inl rfl) rfl rfl (Nat.le_of_ble_eq_true rfl) rfl rfl (t_near0 (PP := fun rv h => h = am_hp E s3 ∧ ∃ v, rv = some (.int (iI v)) ∧ nf (s3 25 0) (fx s3 161 0) (-1) (s3 25 0) v) g m3 p3 (but := (-1)) ⟨by decide, by decide⟩ (fun v hv => ⟨rfl, v, rfl, hv⟩)) ?_
    rintro rv h1 ⟨rfl, one, rfl, none1⟩
    rw [eN, efx] at none1
    have rone := nf_some (by omega) none1
    refine am_s rfl rfl ?_
    refine am_s rfl rfl ?_
    refine am_s rfl rfl ?_
    refine am_s rfl rfl ?_
    refine s_cv [_, _] [] rfl g (Or.inl rfl) rfl rfl (Nat.le_of_ble_eq_true rfl) rfl rfl (t_near0 (PP := fun rv h => h = am_hp E s3 ∧ ∃ v, rv = some (.int (iI v)) ∧ nf (s3 25 0) (fx s3 161 0) one (s3 25 0) v) g m3 p3 (but := one) ⟨by omega, by omega⟩ (fun v hv => ⟨rfl, v, rfl, hv⟩)) ?_
    rintro rv h1 ⟨rfl, oth, rfl, noth⟩
    rw [eN, efx] at noth
    have roth := nf_some (by omega) noth
    refine am_s rfl rfl ?_
    refine am_s rfl rfl ?_
    refine s_gr rfl g rfl rfl ?_
    refine s_k 0 rfl rfl ?_
    refine s_k 2 rfl rfl ?_
    refine s_is rfl g rfl ⟨by omega, by omega⟩ (by decide) ?_
    refine am_s rfl rfl ?_
    refine s_gr rfl g rfl rfl ?_
    refine am_s rfl rfl ?_
    refine am_s rfl rfl ?_
    refine s_ia rfl g rfl ⟨by omega, by omega⟩ (by decide) ?_
    refine s_k 1 rfl rfl ?_
    refine s_iadd rfl ?_
    refine s_is rfl g rfl ⟨by omega, by omega⟩ (by decide) ?_
    refine am_s rfl rfl ?_
    refine s_gr rfl g rfl rfl ?_
    refine am_s rfl rfl ?_
    refine am_s rfl rfl ?_
    refine s_ia rfl g rfl ⟨by omega, by omega⟩ (by decide) ?_
    refine s_k 1 rfl rfl ?_
    refine s_iadd rfl ?_
    refine s_is rfl g rfl ⟨by omega, by omega⟩ (by decide) ?_
    refine am_s rfl rfl ?_
    refine am_s rfl rfl ?_
    refine am_s rfl rfl ?_
    refine am_s rfl rfl ?_
    have e4 : ∀ b, b ≠ 162 → (am_w (am_w (am_w s3 162 0 2) 162 one (am_w s3 162 0 2 162 one + 1)) 162 oth (am_w (am_w s3 162 0 2) 162 one (am_w s3 162 0 2 162 one + 1) 162 oth + 1)) b = s3 b := fun b hb => by rw [am_w_row hb, am_w_row hb, am_w_row hb]
    have efx4 : fx (am_w (am_w (am_w s3 162 0 2) 162 one (am_w s3 162 0 2 162 one + 1)) 162 oth (am_w (am_w s3 162 0 2) 162 one (am_w s3 162 0 2 162 one + 1) 162 oth + 1)) 161 0 = fx s 161 0 := by
      rw [← efx]
      funext c
      unfold fx mx
      rw [e4 161 (by decide), e4 (26 + 1 + (0 : Int).toNat) (by decide)]
    refine s_cv [_, _] [_] rfl g (Or.inl rfl) rfl rfl (Nat.le_of_ble_eq_true rfl) rfl rfl (t_far0 (s := (am_w (am_w (am_w s3 162 0 2) 162 one (am_w s3 162 0 2 162 one + 1)) 162 oth (am_w (am_w s3 162 0 2) 162 one (am_w s3 162 0 2 162 one + 1) 162 oth + 1))) g (c := one) ⟨by omega, by omega⟩ (by have := m3.2.2 0 one (by omega) (by omega) (by omega) (by omega); unfold mx at this ⊢; rw [e4 (26 + 1 + (0 : Int).toNat) (by decide)]; exact ⟨by omega, by omega⟩)) ?_
    rintro rv h1 ⟨rfl, rfl⟩
    rw [efx4]
    refine am_s rfl rfl ?_
    refine am_s rfl rfl ?_
    refine am_s rfl rfl ?_
    refine s_cv [_, _] [_, _] rfl g (Or.inl rfl) rfl rfl (Nat.le_of_ble_eq_true rfl) rfl rfl (t_far0 (s := (am_w (am_w (am_w s3 162 0 2) 162 one (am_w s3 162 0 2 162 one + 1)) 162 oth (am_w (am_w s3 162 0 2) 162 one (am_w s3 162 0 2 162 one + 1) 162 oth + 1))) g (c := oth) ⟨by omega, by omega⟩ (by have := m3.2.2 0 oth (by omega) (by omega) (by omega) (by omega); unfold mx at this ⊢; rw [e4 (26 + 1 + (0 : Int).toNat) (by decide)]; exact ⟨by omega, by omega⟩)) ?_
    rintro rv h1 ⟨rfl, rfl⟩
    rw [efx4]
    refine s_ladd rfl ?_
    refine s_ladd rfl ?_
    refine am_s rfl rfl ?_
    refine s_k 0 rfl rfl ?_
    refine am_s rfl rfl ?_
    have e4n : (am_w (am_w (am_w s3 162 0 2) 162 one (am_w s3 162 0 2 162 one + 1)) 162 oth (am_w (am_w s3 162 0 2) 162 one (am_w s3 162 0 2 162 one + 1) 162 oth + 1)) 25 0 = n := by rw [e4 25 (by decide)]; exact eN
    have e4p : (am_w (am_w (am_w s3 162 0 2) 162 one (am_w s3 162 0 2 162 one + 1)) 162 oth (am_w (am_w s3 162 0 2) 162 one (am_w s3 162 0 2 162 one + 1) 162 oth + 1)) 161 = s 161 := by rw [e4 161 (by decide), i1 161 (by decide)]
    refine am_lv [(6, .int (iI (((0 : Nat) : Int) : Int))), (2, .long (lI ((al + (fx s 161 0 one + fx s 161 0 oth)) - 2 * s_sum (s 161) 0))), (1, .ref 25), (0, .ref 160)] rfl rfl ⟨rfl, by rw [show ((al + (fx s 161 0 one + fx s 161 0 oth)) - 2 * s_sum (s 161) 0) = (al + (fx s 161 0 one + fx s 161 0 oth)) by show _ - 2 * (0 : Int) = _; omega]; rfl, rfl, rfl, trivial⟩ ?_
    refine s_loop (X := Unit) (fun k _ s' => (am_w (am_w (am_w s3 162 0 2) 162 one (am_w s3 162 0 2 162 one + 1)) 162 oth (am_w (am_w s3 162 0 2) 162 one (am_w s3 162 0 2 162 one + 1) 162 oth + 1)) = s') (fun k _ => [(6, .int (iI (k : Int))), (2, .long (lI ((al + (fx s 161 0 one + fx s 161 0 oth)) - 2 * s_sum (s 161) k))), (1, .ref 25), (0, .ref 160)]) (hi := n) (x := ()) (Nat.zero_le n) rfl ?_ ?_
    · rintro k - s5 hk0 hk rfl kk
      simp only at kk ⊢
      refine am_s rfl rfl ?_
      refine am_s rfl rfl ?_
      refine s_gi (x := 0) rfl g rfl rfl rfl ?_
      refine s_cge rfl ⟨by omega, by omega⟩ ⟨by omega, by omega⟩ (fun c1 => absurd c1 (by omega)) (fun c1 => ?_)
      refine am_s rfl rfl ?_
      refine s_kl 2 rfl rfl ?_
      refine am_s rfl rfl ?_
      refine s_gr rfl g rfl rfl ?_
      refine am_s rfl rfl ?_
      refine s_la rfl g rfl ⟨by omega, by omega⟩ (by decide) ?_
      refine s_lmul rfl ?_
      refine s_lsub rfl ?_
      refine am_s rfl rfl ?_
      refine s_inc rfl rfl ?_
      refine am_s rfl rfl ?_
      refine am_lv [(6, .int (iI ((k : Int) + 1 : Int))), (2, .long (lI ((al + (fx s 161 0 one + fx s 161 0 oth)) - 2 * s_sum (s 161) (k + 1)))), (1, .ref 25), (0, .ref 160)] rfl rfl ⟨rfl, by rw [show ((al + (fx s 161 0 one + fx s 161 0 oth)) - 2 * s_sum (s 161) (k + 1)) = ((al + (fx s 161 0 one + fx s 161 0 oth)) - 2 * s_sum (s 161) k) - 2 * (am_w (am_w (am_w s3 162 0 2) 162 one (am_w s3 162 0 2 162 one + 1)) 162 oth (am_w (am_w s3 162 0 2) 162 one (am_w s3 162 0 2 162 one + 1) 162 oth + 1)) 161 (k : Int) by rw [e4p]; show _ - 2 * (s_sum (s 161) k + s 161 k) = _; omega]; rfl, rfl, rfl, trivial⟩ ?_
      exact kk () _ rfl
    · rintro - s5 rfl
      simp only
      refine am_s rfl rfl ?_
      refine am_s rfl rfl ?_
      refine s_gi (x := 0) rfl g rfl rfl rfl ?_
      refine s_cge rfl ⟨by omega, by omega⟩ ⟨by omega, by omega⟩ (fun c1 => ?_) (fun c1 => absurd c1 (by omega))
      refine am_s rfl rfl ?_
      have b1 := s_sum_bd (s 161) n (fun c c0 c1 => hp c c0 (by omega))
      have q1 := hp 0 (by omega) (by omega)
      have q2 := hp one (by omega) (by omega)
      have q3 := hp oth (by omega) (by omega)
      have q4 := hD 0 one (by omega) (by omega) (by omega) (by omega)
      have q5 := hD 0 oth (by omega) (by omega) (by omega) (by omega)
      have q6 : fx s 161 0 one = mx s 0 one + s 161 0 + s 161 one := rfl
      have q7 : fx s 161 0 oth = mx s 0 oth + s 161 0 + s 161 oth := rfl
      refine am_r rfl rfl (hPP _ _ ⟨am_Fr_W (am_Fr_W (am_Fr_W i1 (by decide)) (by decide)) (by decide), ⟨in_of (s1 167), s1 164, al, one, oth, h2, by rw [en]; exact none1, by rw [en]; exact noth, by rw [en, Int.toNat_natCast], fun c c0 c1 => ?_⟩, by omega, by omega⟩)
      rw [dg_two rfl rfl c]
      by_cases e : c = 0
      · rw [e, am_w_eq, if_pos rfl, if_neg (by omega), if_neg (by omega)]; rfl
      · rw [am_w_x e, i3 c c0 (by omega), if_neg e, en, Int.toNat_natCast]
