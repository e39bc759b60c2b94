theorem dg2_0 {hu : Int → Int} : ∀ (m : Nat), (∀ c, 2 ≤ c → c < (m : Int) → hu c ≠ 0) → dg2 hu m 0 = 0
  | 0, _ => rfl
  | m + 1, h => by
    show dg2 hu m 0 + _ = 0
    rw [dg2_0 m (fun c c0 c1 => h c c0 (by omega))]
    by_cases e : m < 2
    · rw [if_pos e]; rfl
    · rw [if_neg e, if_neg (by omega), if_neg (fun z => h m (by omega) (by omega) z.symm)]; rfl
theorem w_nearM {d : Nat} {E : am_Ev} {s : am_S} {but val t : Int} {PP : Option Value → am_H → Prop} (g : am_Eg E) (hm : my_ok s) (hp : pn_ok s 191) (h3n : 3 ≤ s 168 1) (hb : -1 ≤ but ∧ but < 20) (ht : 0 ≤ t ∧ t < 2) (hPP : ∀ v s', nf (s 168 1) (fm s 1 0) but (s 168 1) v → am_Fr [189] s s' → (∀ c, s' 189 c = s 189 c + ((if c = 0 then 1 else 0) + (if c = v then 1 else 0))) → am_wp (d + 2) 214 76 [(4, .int (iI (t + 1))), (3, .int (iI v)), (1, .long (lI (val + fm s 1 0 v))), (0, .ref 168)] [] (am_hp E s') PP) : am_wp (d + 2) 214 76 [(4, .int (iI t)), (3, .int (iI but)), (1, .long (lI val)), (0, .ref 168)] [] (am_hp E s) PP := by
  obtain ⟨n1, n2, hD⟩ := hm
  obtain ⟨n, en⟩ : ∃ n : Nat, s 168 1 = n := ⟨(s 168 1).toNat, by omega⟩
  rw [en] at hPP
  have hfb : ∀ c, 0 ≤ c → c < (n : Int) → -4000000000000000 ≤ fm s 1 0 c ∧ fm s 1 0 c ≤ 4000000000000000 := fun c c0 c1 => by
    have h1 := hD 0 c (by omega) (by omega) c0 (by omega)
    have h2 := hp 0 (by omega) (by omega)
    have h3 := hp c c0 (by omega)
    unfold fm
    rw [if_neg (by decide)]
    omega
  refine am_s rfl rfl ?_
  refine s_k 2 rfl rfl ?_
  refine s_cge rfl ⟨by omega, by omega⟩ ⟨by omega, by omega⟩ (fun c1 => absurd c1 (by omega)) (fun c1 => ?_)
  refine s_k (-1) rfl rfl ?_
  refine am_s rfl rfl ?_
  refine s_k 1 rfl rfl ?_
  refine am_s rfl rfl ?_
  refine am_lv [(6, .int (iI (((1 : Nat) : Int) : Int))), (5, .int (iI (-1))), (4, .int (iI t)), (3, .int (iI but)), (1, .long (lI val)), (0, .ref 168)] rfl rfl ⟨rfl, rfl, rfl, rfl, rfl, rfl, trivial⟩ ?_
  refine s_loop (X := Int) (fun m v s' => s = s' ∧ nf n (fm s 1 0) but m v) (fun m v => [(6, .int (iI (m : Int))), (5, .int (iI v)), (4, .int (iI t)), (3, .int (iI but)), (1, .long (lI val)), (0, .ref 168)]) (lo := 1) (hi := n) (x := -1) (by omega) ⟨rfl, Or.inl ⟨rfl, fun b b0 b1 hb => by have := hb.1; omega⟩⟩ ?_ ?_
  · rintro m v s1 hm0 hmn ⟨rfl, hQ⟩ kk
    have hvr : v = -1 ∨ 1 ≤ v ∧ v < (m : Int) := by
      rcases hQ with ⟨z, -⟩ | ⟨z, z2, -⟩
      · exact Or.inl z
      · exact Or.inr ⟨z2.1, z.2⟩
    have fm1 := hfb m (by omega) (by omega)
    simp only at kk ⊢
    refine am_s rfl rfl ?_
    refine am_s rfl rfl ?_
    refine s_gi (x := 1) rfl g rfl rfl rfl ?_
    refine s_cge rfl ⟨by omega, by omega⟩ ⟨by omega, by omega⟩ (fun c1 => absurd c1 (by omega)) (fun c1 => ?_)
    refine am_s rfl rfl ?_
    refine am_s rfl rfl ?_
    refine s_ceq rfl ⟨by omega, by omega⟩ ⟨by omega, by omega⟩ (fun c2 => ?_) (fun c2 => ?_)
    · refine am_s rfl rfl ?_
      refine am_s rfl rfl ?_
      refine s_inc rfl rfl ?_
      refine am_s rfl rfl ?_
      refine am_lv [(6, _), (5, _), (4, _), (3, _), (1, _), (0, _)] rfl rfl ⟨rfl, rfl, rfl, rfl, rfl, rfl, trivial⟩ ?_
      exact kk v s ⟨rfl, nr_skip hQ (fun z => z.2 c2)⟩
    · refine am_s rfl rfl ?_
      refine s_k (-1) rfl rfl ?_
      refine s_ceq rfl ⟨by omega, by omega⟩ ⟨by omega, by omega⟩ (fun c3 => ?_) (fun c3 => ?_)
      · refine am_s rfl rfl ?_
        refine am_s rfl rfl ?_
        refine am_s rfl rfl ?_
        refine s_inc rfl rfl ?_
        refine am_s rfl rfl ?_
        refine am_lv [(6, _), (5, _), (4, _), (3, _), (1, _), (0, _)] rfl rfl ⟨rfl, rfl, rfl, rfl, rfl, rfl, trivial⟩ ?_
        exact kk m s ⟨rfl, nr_take (n := (n : Int)) (D := fun _ b => fm s 1 0 b) hQ (by omega) ⟨by omega, c2⟩ (Or.inl c3)⟩
      · refine am_s rfl rfl ?_
        refine s_k 0 rfl rfl ?_
        refine am_s rfl rfl ?_
        refine s_k 1 rfl rfl ?_
        refine s_cv [_, _, _] [] rfl g (Or.inl rfl) rfl rfl (Nat.le_of_ble_eq_true rfl) rfl rfl (t_far3 (dr := 1) g (a := 0) (b := m) ⟨by omega, by omega⟩ ⟨by omega, by omega⟩ (Or.inr rfl) (by have := hD 0 m (by omega) (by omega) (by omega) (by omega); exact ⟨by omega, by omega⟩)) ?_
        rintro rv h1 ⟨rfl, rfl⟩
        refine am_s rfl rfl ?_
        refine s_k 0 rfl rfl ?_
        refine am_s rfl rfl ?_
        refine s_k 1 rfl rfl ?_
        have fv1 := hfb v (by omega) (by omega)
        refine s_cv [_, _, _] [_] rfl g (Or.inl rfl) rfl rfl (Nat.le_of_ble_eq_true rfl) rfl rfl (t_far3 (dr := 1) g (a := 0) (b := v) ⟨by omega, by omega⟩ ⟨by omega, by omega⟩ (Or.inr rfl) (by have := hD 0 v (by omega) (by omega) (by omega) (by omega); exact ⟨by omega, by omega⟩)) ?_
        rintro rv h1 ⟨rfl, rfl⟩
        refine s_jge rfl rfl ⟨by omega, by omega⟩ ⟨by omega, by omega⟩ (fun c4 => ?_) (fun c4 => ?_)
        · refine am_s rfl rfl ?_
          refine am_s rfl rfl ?_
          refine s_inc rfl rfl ?_
          refine am_s rfl rfl ?_
          refine am_lv [(6, _), (5, _), (4, _), (3, _), (1, _), (0, _)] rfl rfl ⟨rfl, rfl, rfl, rfl, rfl, rfl, trivial⟩ ?_
          exact kk v s ⟨rfl, nr_keep hQ c3 c4⟩
        · refine am_s rfl rfl ?_
          refine am_s rfl rfl ?_
          refine am_s rfl rfl ?_
          refine s_inc rfl rfl ?_
          refine am_s rfl rfl ?_
          refine am_lv [(6, _), (5, _), (4, _), (3, _), (1, _), (0, _)] rfl rfl ⟨rfl, rfl, rfl, rfl, rfl, rfl, trivial⟩ ?_
          exact kk m s ⟨rfl, nr_take (n := (n : Int)) (D := fun _ b => fm s 1 0 b) hQ (by omega) ⟨by omega, c2⟩ (Or.inr (Int.not_le.mp c4))⟩
  · rintro v s1 ⟨rfl, hQ⟩
    simp only
    refine am_s rfl rfl ?_
    refine am_s rfl rfl ?_
    refine s_gi (x := 1) rfl g rfl rfl rfl ?_
    refine s_cge rfl ⟨by omega, by omega⟩ ⟨by omega, by omega⟩ (fun c1 => ?_) (fun c1 => absurd c1 (by omega))
    have hv := nf_some (by omega) hQ
    refine am_s rfl rfl ?_
    refine am_s rfl rfl ?_
    refine s_k 0 rfl rfl ?_
    refine am_s rfl rfl ?_
    refine s_k 1 rfl rfl ?_
    refine s_cv [_, _, _] [_] rfl g (Or.inl rfl) rfl rfl (Nat.le_of_ble_eq_true rfl) rfl rfl (t_far3 (dr := 1) g (a := 0) (b := v) ⟨by omega, by omega⟩ ⟨by omega, by omega⟩ (Or.inr rfl) (by have := hD 0 v (by omega) (by omega) (by omega) (by omega); exact ⟨by omega, by omega⟩)) ?_
    rintro rv h1 ⟨rfl, rfl⟩
    refine s_ladd rfl ?_
    refine am_s rfl rfl ?_
    refine am_s rfl rfl ?_
    refine s_gr rfl g rfl rfl ?_
    refine s_k 0 rfl rfl ?_
    refine am_s rfl rfl ?_
    refine s_ia rfl g rfl ⟨by omega, by omega⟩ (by decide) ?_
    refine s_k 1 rfl rfl ?_
    refine s_iadd rfl ?_
    refine s_is rfl g rfl ⟨by omega, by omega⟩ (by decide) ?_
    refine am_s rfl rfl ?_
    refine s_gr rfl g rfl rfl ?_
    refine am_s rfl rfl ?_
    refine am_s rfl rfl ?_
    refine s_ia rfl g rfl ⟨by omega, by omega⟩ (by decide) ?_
    refine s_k 1 rfl rfl ?_
    refine s_iadd rfl ?_
    refine s_is rfl g rfl ⟨by omega, by omega⟩ (by decide) ?_
    refine am_s rfl rfl ?_
    refine am_s rfl rfl ?_
    refine s_inc rfl rfl ?_
    refine am_s rfl rfl ?_
    refine am_lv [(4, _), (3, _), (1, _), (0, _)] rfl rfl ⟨rfl, rfl, rfl, rfl, trivial⟩ ?_
    exact hPP v _ hQ (am_Fr_W (am_Fr_W (am_Fr_r _ _) (by decide)) (by decide)) (fun c => dg_two rfl rfl c)
set_option maxHeartbeats 4000000 in
theorem t_oneTreeM {d : Nat} {E : am_Ev} {s : am_S} {PP : Option Value → am_H → Prop} (g : am_Eg E) (hm : my_ok s) (hp : pn_ok s 191) (h3n : 3 ≤ s 168 1) (hPP : ∀ val s', (am_Fr [186, 175, 189] s s' ∧ ot_is (s 168 1) (fm s 1) (s 191) val (s' 189) ∧ -1000000000000000000 ≤ val ∧ val ≤ 1000000000000000000) → PP (some (.long (lI val))) (am_hp E s')) : am_wp (d + 3) 214 0 (lv_args 0 [.ref 168]) [] (am_hp E s) PP := by
  have hm0 := hm
  obtain ⟨n1, n2, hD⟩ := hm0
  obtain ⟨n, en⟩ : ∃ n : Nat, s 168 1 = n := ⟨(s 168 1).toNat, by omega⟩
  have hfb : ∀ c, 0 ≤ c → c < (n : Int) → -4000000000000000 ≤ fm s 1 0 c ∧ fm s 1 0 c ≤ 4000000000000000 := fun c c0 c1 => by
    have h1 := hD 0 c (by omega) (by omega) c0 (by omega)
    have h2 := hp 0 (by omega) (by omega)
    have h3 := hp c c0 (by omega)
    unfold fm
    rw [if_neg (by decide)]
    omega
  refine am_s rfl rfl ?_
  refine s_k 1 rfl rfl ?_
  refine s_k 1 rfl rfl ?_
  refine s_cv [_, _] [] rfl g (Or.inl rfl) rfl rfl (Nat.le_of_ble_eq_true rfl) rfl rfl (t_growM g hm hp (x := 1) (dr := 1) ⟨by decide, by omega⟩ (Or.inr rfl)) ?_
  rintro rv h1 ⟨al, rfl, s1, rfl, hF1, h2, h3, h4, h5⟩
  have hrg := gw_rng (by decide) h2
  have hu : ∀ c, 2 ≤ c → c < (n : Int) → 1 ≤ s1 175 c ∧ s1 175 c < n := fun c c0 c1 => by
    have := hrg.2.1 c (by omega) (by omega) (h3 c (by omega) (by omega)) (by omega)
    omega
  refine am_s rfl rfl ?_
  refine s_k 0 rfl rfl ?_
  refine am_s rfl rfl ?_
  refine am_lv [(3, .int (iI (((0 : Nat) : Int) : Int))), (1, .long (lI al)), (0, .ref 168)] rfl rfl ⟨rfl, rfl, rfl, trivial⟩ ?_
  refine s_loop (X := Unit) (fun k _ s' => am_Fr [189] s1 s' ∧ ∀ c, 0 ≤ c → c < (k : Int) → s' 189 c = 0) (fun k _ => [(3, .int (iI (k : Int))), (1, .long (lI al)), (0, .ref 168)]) (hi := n) (x := ()) (Nat.zero_le n) ⟨am_Fr_r _ _, fun c c0 c1 => by omega⟩ ?_ ?_
  · rintro k - s2 hk0 hk ⟨hF, hV⟩ kk
    have eN : s2 168 1 = n := by rw [hF 168 (by decide), hF1 168 (by decide)]; exact en
    simp only at kk ⊢
    refine am_s rfl rfl ?_
    refine am_s rfl rfl ?_
    refine s_gi (x := 1) rfl g rfl rfl rfl ?_
    refine s_cge rfl ⟨by omega, by omega⟩ ⟨by omega, by omega⟩ (fun c1 => absurd c1 (by omega)) (fun c1 => ?_)
    refine am_s rfl rfl ?_
    refine s_gr rfl g rfl rfl ?_
    refine am_s rfl rfl ?_
    refine s_k 0 rfl rfl ?_
    refine s_is rfl g rfl ⟨by omega, by omega⟩ (by decide) ?_
    refine s_inc rfl rfl ?_
    refine am_s rfl rfl ?_
    refine am_lv [(3, _), (1, _), (0, _)] rfl rfl ⟨rfl, rfl, rfl, trivial⟩ ?_
    refine kk () _ ⟨am_Fr_W hF (by decide), fun c c0 c1 => ?_⟩
    by_cases e : c = (k : Int)
    · rw [e, am_w_eq]
    · rw [am_w_x e]; exact hV c c0 (by omega)
  · rintro - s2 ⟨hF, hV⟩
    have eN : s2 168 1 = n := by rw [hF 168 (by decide), hF1 168 (by decide)]; exact en
    simp only
    refine am_s rfl rfl ?_
    refine am_s rfl rfl ?_
    refine s_gi (x := 1) rfl g rfl rfl rfl ?_
    refine s_cge rfl ⟨by omega, by omega⟩ ⟨by omega, by omega⟩ (fun c1 => ?_) (fun c1 => absurd c1 (by omega))
    refine s_k 2 rfl rfl ?_
    refine am_s rfl rfl ?_
    have F2 : am_Fr [186, 175, 189] s s2 := am_Fr_u (am_Fr_m hF1 (by decide)) (am_Fr_m hF (by decide))
    have e175 : s2 175 = s1 175 := hF 175 (by decide)
    refine am_lv [(3, .int (iI (((2 : Nat) : Int) : Int))), (1, .long (lI al)), (0, .ref 168)] rfl rfl ⟨rfl, rfl, rfl, trivial⟩ ?_
    refine s_loop (X := Unit) (fun m _ s' => am_Fr [186, 175, 189] s s' ∧ s' 175 = s1 175 ∧ ∀ c, 0 ≤ c → c < (n : Int) → s' 189 c = dg2 (s1 175) m c) (fun m _ => [(3, .int (iI (m : Int))), (1, .long (lI al)), (0, .ref 168)]) (lo := 2) (hi := n) (x := ()) (by omega) ⟨F2, e175, fun c c0 c1 => by rw [hV c c0 c1]; rfl⟩ ?_ ?_
    · rintro m - s3 hm0 hmn ⟨i1, i2, i3⟩ kk
      have eN : s3 168 1 = n := by rw [i1 168 (by decide)]; exact en
      simp only at kk ⊢
      refine am_s rfl rfl ?_
      refine am_s rfl rfl ?_
      refine s_gi (x := 1) rfl g rfl rfl rfl ?_
      refine s_cge rfl ⟨by omega, by omega⟩ ⟨by omega, by omega⟩ (fun c1 => absurd c1 (by omega)) (fun c1 => ?_)
      have hh := hu m (by omega) (by omega)
      refine am_s rfl rfl ?_
      refine s_gr rfl g rfl rfl ?_
      refine am_s rfl rfl ?_
      refine am_s rfl rfl ?_
      refine s_ia rfl g rfl ⟨by omega, by omega⟩ (by decide) ?_
      refine s_k 1 rfl rfl ?_
      refine s_iadd rfl ?_
      refine s_is rfl g rfl ⟨by omega, by omega⟩ (by decide) ?_
      refine am_s rfl rfl ?_
      refine s_gr rfl g rfl rfl ?_
      refine am_s rfl rfl ?_
      refine s_gr rfl g rfl rfl ?_
      refine am_s rfl rfl ?_
      refine s_ia rfl g rfl ⟨by omega, by omega⟩ (by decide) ?_
      refine am_s rfl rfl ?_
      refine s_ia rfl g rfl ⟨by rw [am_w_a (by decide), i2]; omega, by rw [am_w_a (by decide), i2]; omega⟩ (by decide) ?_
      refine s_k 1 rfl rfl ?_
      refine s_iadd rfl ?_
      refine s_is rfl g rfl ⟨by rw [am_w_a (by decide), i2]; omega, by rw [am_w_a (by decide), i2]; omega⟩ (by decide) ?_
      refine s_inc rfl rfl ?_
      refine am_s rfl rfl ?_
      refine am_lv [(3, _), (1, _), (0, _)] rfl rfl ⟨rfl, rfl, rfl, trivial⟩ ?_
      refine kk () _ ⟨am_Fr_W (am_Fr_W i1 (by decide)) (by decide), by rw [am_w_row (by decide), am_w_row (by decide)]; exact i2, fun c c0 c1 => ?_⟩
      rw [dg_two rfl rfl c, am_w_a (by decide), i2, i3 c c0 c1]
      exact (dg2_s (show ¬ m < 2 by omega) c).symm
    · rintro - s3 ⟨i1, i2, i3⟩
      have eN : s3 168 1 = n := by rw [i1 168 (by decide)]; exact en
      simp only
      refine am_s rfl rfl ?_
      refine am_s rfl rfl ?_
      refine s_gi (x := 1) rfl g rfl rfl rfl ?_
      refine s_cge rfl ⟨by omega, by omega⟩ ⟨by omega, by omega⟩ (fun c1 => ?_) (fun c1 => absurd c1 (by omega))
      refine s_k (-1) rfl rfl ?_
      refine am_s rfl rfl ?_
      refine s_k 0 rfl rfl ?_
      refine am_s rfl rfl ?_
      have m3 : my_ok s3 := ⟨by omega, by omega, fun a b a0 a1 b0 b1 => by
        have := hD a b a0 (by omega) b0 (by omega)
        unfold my at this ⊢
        rw [i1 169 (by decide)]
        exact this⟩
      have p3 : pn_ok s3 191 := fun c c0 c1 => by rw [i1 191 (by decide)]; exact hp c c0 c1
      have efm3 : fm s3 1 0 = fm s 1 0 := by
        funext c
        unfold fm my
        rw [i1 169 (by decide), i1 191 (by decide)]
      refine am_lv [(4, .int (iI 0)), (3, .int (iI (-1))), (1, .long (lI al)), (0, .ref 168)] rfl rfl ⟨rfl, rfl, rfl, rfl, trivial⟩ ?_
      refine w_nearM g m3 p3 (by omega) ⟨by decide, by decide⟩ ⟨by decide, by decide⟩ (fun one s4 none1 hF4 hV4 => ?_)
      rw [eN, efm3] at none1
      have rone := nf_some (by omega) none1
      have eN4 : s4 168 1 = n := by rw [hF4 168 (by decide)]; exact eN
      have m4 : my_ok s4 := ⟨by omega, by omega, fun a b a0 a1 b0 b1 => by
        have := hD a b a0 (by omega) b0 (by omega)
        unfold my at this ⊢
        rw [hF4 169 (by decide), i1 169 (by decide)]
        exact this⟩
      have p4 : pn_ok s4 191 := fun c c0 c1 => by rw [hF4 191 (by decide), i1 191 (by decide)]; exact hp c c0 c1
      have efm4 : fm s4 1 0 = fm s 1 0 := by
        funext c
        unfold fm my
        rw [hF4 169 (by decide), i1 169 (by decide), hF4 191 (by decide), i1 191 (by decide)]
      refine am_lv [(4, .int (iI 1)), (3, .int (iI one)), (1, .long (lI (al + fm s3 1 0 one))), (0, .ref 168)] rfl rfl ⟨rfl, rfl, rfl, rfl, trivial⟩ ?_
      refine w_nearM g m4 p4 (by omega) ⟨by omega, by omega⟩ ⟨by decide, by decide⟩ (fun oth s5 noth hF5 hV5 => ?_)
      rw [eN4, efm4] at noth
      have roth := nf_some (by omega) noth
      have eN5 : s5 168 1 = n := by rw [hF5 168 (by decide)]; exact eN4
      refine am_lv [(4, .int (iI 2)), (3, .int (iI oth)), (1, .long (lI (al + fm s3 1 0 one + fm s4 1 0 oth))), (0, .ref 168)] rfl rfl ⟨rfl, rfl, rfl, rfl, trivial⟩ ?_
      refine am_s rfl rfl ?_
      refine s_k 2 rfl rfl ?_
      refine s_cge rfl ⟨by omega, by omega⟩ ⟨by omega, by omega⟩ (fun c1 => ?_) (fun c1 => absurd c1 (by omega))
      refine s_k 0 rfl rfl ?_
      refine am_s rfl rfl ?_
      refine am_lv [(4, .int (iI (((0 : Nat) : Int) : Int))), (1, .long (lI ((al + fm s3 1 0 one + fm s4 1 0 oth) - 2 * s_sum (s5 191) 0))), (0, .ref 168)] rfl rfl ⟨rfl, by rw [show ((al + fm s3 1 0 one + fm s4 1 0 oth) - 2 * s_sum (s5 191) 0) = (al + fm s3 1 0 one + fm s4 1 0 oth) by show _ - 2 * (0 : Int) = _; omega]; rfl, rfl, trivial⟩ ?_
      refine s_loop (X := Unit) (fun k _ s' => s5 = s') (fun k _ => [(4, .int (iI (k : Int))), (1, .long (lI ((al + fm s3 1 0 one + fm s4 1 0 oth) - 2 * s_sum (s5 191) k))), (0, .ref 168)]) (hi := n) (x := ()) (Nat.zero_le n) rfl ?_ ?_
      · rintro k - s6 hk0 hk rfl kk
        simp only at kk ⊢
        refine am_s rfl rfl ?_
        refine am_s rfl rfl ?_
        refine s_gi (x := 1) rfl g rfl rfl rfl ?_
        refine s_cge rfl ⟨by omega, by omega⟩ ⟨by omega, by omega⟩ (fun c1 => absurd c1 (by omega)) (fun c1 => ?_)
        refine am_s rfl rfl ?_
        refine s_kl 2 rfl rfl ?_
        refine am_s rfl rfl ?_
        refine s_gr rfl g rfl rfl ?_
        refine am_s rfl rfl ?_
        refine s_la rfl g rfl ⟨by omega, by omega⟩ (by decide) ?_
        refine s_lmul rfl ?_
        refine s_lsub rfl ?_
        refine am_s rfl rfl ?_
        refine s_inc rfl rfl ?_
        refine am_s rfl rfl ?_
        refine am_lv [(4, .int (iI ((k : Int) + 1 : Int))), (1, .long (lI ((al + fm s3 1 0 one + fm s4 1 0 oth) - 2 * s_sum (s5 191) (k + 1)))), (0, .ref 168)] rfl rfl ⟨rfl, by rw [show ((al + fm s3 1 0 one + fm s4 1 0 oth) - 2 * s_sum (s5 191) (k + 1)) = ((al + fm s3 1 0 one + fm s4 1 0 oth) - 2 * s_sum (s5 191) k) - 2 * s5 191 (k : Int) by show _ - 2 * (s_sum (s5 191) k + s5 191 k) = _; omega]; rfl, rfl, trivial⟩ ?_
        exact kk () _ rfl
      · rintro - s6 rfl
        simp only
        refine am_s rfl rfl ?_
        refine am_s rfl rfl ?_
        refine s_gi (x := 1) rfl g rfl rfl rfl ?_
        refine s_cge rfl ⟨by omega, by omega⟩ ⟨by omega, by omega⟩ (fun c1 => ?_) (fun c1 => absurd c1 (by omega))
        refine am_s rfl rfl ?_
        have e5p : s5 191 = s 191 := by rw [hF5 191 (by decide), hF4 191 (by decide), i1 191 (by decide)]
        have b1 := s_sum_bd (s 191) n (fun c c0 c1 => hp c c0 (by omega))
        have q1 := hfb one (by omega) (by omega)
        have q2 := hfb oth (by omega) (by omega)
        rw [e5p, efm3, efm4]
        refine am_r rfl rfl (hPP _ _ ⟨am_Fr_u i1 (am_Fr_u (am_Fr_m hF4 (by decide)) (am_Fr_m hF5 (by decide))), ⟨in_of (s1 186), s1 175, al, one, oth, h2, by rw [en]; exact none1, by rw [en]; exact noth, by rw [en, Int.toNat_natCast]; omega, fun c c0 c1 => ?_⟩, by omega, by omega⟩)
        rw [hV5 c, hV4 c, i3 c c0 (by omega)]
        by_cases e : c = 0
        · rw [e, if_pos rfl, if_neg (by omega), if_neg (by omega), if_pos rfl, dg2_0 n (fun c c0 c1 => by have := hu c c0 c1; omega)]; rfl
        · rw [if_neg e, if_neg e, en, Int.toNat_natCast]; omega
