theorem gw_in {n x : Int} {f : Int → Int → Int} {k : Nat} {I I2 : Int → Prop} {on : Int → Int} {al : Int} (e : ∀ c, 0 ≤ c → c < n → (I c ↔ I2 c)) (h : gw_ok n x f k I on al) : gw_ok n x f k I2 on al := by
  cases k with
  | zero => exact ⟨fun c c0 c1 => (e c c0 c1).symm.trans (h.1 c c0 c1), h.2⟩
  | succ k =>
    obtain ⟨I0, on0, al0, c, a, h1, hp, e1, e2⟩ := h
    exact ⟨I0, on0, al0, c, a, h1, hp, fun b b0 b1 => (e b b0 b1).symm.trans (e1 b b0 b1), e2⟩
theorem t_makeTree {d : Nat} {E : am_Ev} {s : am_S} (g : am_Eg E) (hm : my_ok s) (hp : pn_ok s 191) : am_wp (d + 3) 184 0 (lv_args 0 [.ref 168]) [] (am_hp E s) (fun rv h => rv = none ∧ ∃ al s', h = am_hp E s' ∧ am_Fm [186, 175, 192, 176, 177] [14, 16, 20] s s' ∧ gw_ok (s 168 1) 0 (fm s 0) ((s 168 1 - 0).toNat - 1) (fun c => 0 ≤ c) (s' 192) al ∧ s' 168 14 = 1 ∧ s' 168 16 = al ∧ s' 168 20 = oc (dgf (s' 192) (s 168 1).toNat) (s 168 1).toNat ∧ od_is (dgf (s' 192) (s 168 1).toNat) (s 168 1).toNat (s' 177) ∧ (-200000000000000000 ≤ al ∧ al ≤ 200000000000000000)) := by
  have n1 := hm.1
  have n2 := hm.2.1
  refine am_s rfl rfl ?_
  refine am_s rfl rfl ?_
  refine s_k 0 rfl rfl ?_
  refine s_k 0 rfl rfl ?_
  refine s_cv [_, _] [_] rfl g (Or.inl rfl) rfl rfl (Nat.le_of_ble_eq_true rfl) rfl rfl (t_growM g hm hp (x := 0) (dr := 0) ⟨Int.le_refl 0, by omega⟩ (Or.inl rfl)) ?_
  rintro rv h1 ⟨al, rfl, s1, rfl, hF1, h2, h3, h4, h5⟩
  obtain ⟨n, en⟩ : ∃ n : Nat, s 168 1 = n := ⟨(s 168 1).toNat, by omega⟩
  have hrg := gw_rng (Int.le_refl 0) h2
  have hu : ∀ c, 1 ≤ c → c < (n : Int) → 0 ≤ s1 175 c ∧ s1 175 c < n := fun c c0 c1 => by
    have := hrg.2.1 c (by omega) (by omega) (h3 c (by omega) (by omega)) (by omega)
    omega
  refine s_pl (x := 16) rfl g rfl rfl rfl rfl ?_
  refine am_s rfl rfl ?_
  refine s_k 0 rfl rfl ?_
  refine s_pi (x := 20) rfl g rfl rfl rfl rfl ?_
  refine s_k 0 rfl rfl ?_
  refine am_s rfl rfl ?_
  have f0 : am_Fm [186, 175, 192, 176, 177] [14, 16, 20] s (am_w (am_w s1 168 16 al) 168 20 0) := am_Fm_f (am_Fm_f ⟨am_Fr_m hF1 (by decide), fun y _ => by rw [hF1 168 (by decide)]⟩ (by decide)) (by decide)
  refine am_lv [(1, .int (iI (((0 : Nat) : Int) : Int))), (0, .ref 168)] rfl rfl ⟨rfl, rfl, trivial⟩ ?_
  refine s_loop (X := Unit) (fun m _ s' => am_Fm [186, 175, 192, 176, 177] [14, 16, 20] s s' ∧ s' 175 = s1 175 ∧ s' 168 16 = al ∧ s' 168 20 = 0 ∧ ∀ c, 0 ≤ c → c < (m : Int) → s' 192 c = s1 175 c ∧ s' 176 c = 0) (fun m _ => [(1, .int (iI (m : Int))), (0, .ref 168)]) (hi := n) (x := ()) (Nat.zero_le n) ⟨f0, rfl, rfl, rfl, fun c c0 c1 => absurd c1 (by omega)⟩ ?_ ?_
  · rintro m - s2 hm0 hmn ⟨h6, h7, h8, h9, h10⟩ kk
    have hN : s2 168 1 = n := by rw [h6.2 1 (by decide)]; exact en
    simp only at kk ⊢
    refine am_s rfl rfl ?_
    refine am_s rfl rfl ?_
    refine s_gi (x := 1) rfl g rfl rfl rfl ?_
    refine s_cge rfl ⟨by omega, by omega⟩ ⟨by omega, by omega⟩ (fun c1 => absurd c1 (by omega)) (fun c1 => ?_)
    refine am_s rfl rfl ?_
    refine s_gr rfl g rfl rfl ?_
    refine am_s rfl rfl ?_
    refine am_s rfl rfl ?_
    refine s_gr rfl g rfl rfl ?_
    refine am_s rfl rfl ?_
    refine s_ia rfl g rfl ⟨by omega, by omega⟩ (by decide) ?_
    refine s_is rfl g rfl ⟨by omega, by omega⟩ (by decide) ?_
    refine am_s rfl rfl ?_
    refine s_gr rfl g rfl rfl ?_
    refine am_s rfl rfl ?_
    refine s_k 0 rfl rfl ?_
    refine s_is rfl g rfl ⟨by omega, by omega⟩ (by decide) ?_
    refine s_inc rfl rfl ?_
    refine am_s rfl rfl ?_
    refine am_lv [(1, _), (0, _)] rfl rfl ⟨rfl, rfl, trivial⟩ ?_
    refine kk () _ ⟨am_Fm_c (am_Fm_c h6 (by decide) (by decide)) (by decide) (by decide), by rw [am_w_row (by decide), am_w_row (by decide)]; exact h7, h8, h9, fun c c0 c1 => ?_⟩
    by_cases e : c = (m : Int)
    · rw [e, am_w_a (by decide), am_w_eq, am_w_eq, h7]; exact ⟨rfl, rfl⟩
    · rw [am_w_x e, am_w_x e, am_w_x e]; exact h10 c c0 (by omega)
  · rintro - s2 ⟨h6, h7, h8, h9, h10⟩
    have hN : s2 168 1 = n := by rw [h6.2 1 (by decide)]; exact en
    simp only
    refine am_s rfl rfl ?_
    refine am_s rfl rfl ?_
    refine s_gi (x := 1) rfl g rfl rfl rfl ?_
    refine s_cge rfl ⟨by omega, by omega⟩ ⟨by omega, by omega⟩ (fun c1 => ?_) (fun c1 => absurd c1 (by omega))
    refine s_k 1 rfl rfl ?_
    refine am_s rfl rfl ?_
    refine am_lv [(1, .int (iI (((1 : Nat) : Int) : Int))), (0, .ref 168)] rfl rfl ⟨rfl, rfl, trivial⟩ ?_
    refine s_loop (X := Unit) (fun m _ s' => am_Fm [186, 175, 192, 176, 177] [14, 16, 20] s s' ∧ s' 192 = s2 192 ∧ s' 168 16 = al ∧ s' 168 20 = 0 ∧ ∀ c, 0 ≤ c → c < (n : Int) → s' 176 c = dgf (s2 192) m c) (fun m _ => [(1, .int (iI (m : Int))), (0, .ref 168)]) (lo := 1) (hi := n) (x := ()) (by omega) ⟨h6, rfl, h8, h9, fun c c0 c1 => (h10 c c0 c1).2⟩ ?_ ?_
    · rintro m - s3 hm0 hmn ⟨i1, i2, i3, i4, i5⟩ kk
      have hN3 : s3 168 1 = n := by rw [i1.2 1 (by decide)]; exact en
      have hu2 : ∀ c, 1 ≤ c → c < (n : Int) → 0 ≤ s2 192 c ∧ s2 192 c < n := fun c c0 c1 => by rw [(h10 c (by omega) c1).1]; exact hu c c0 c1
      simp only at kk ⊢
      refine am_s rfl rfl ?_
      refine am_s rfl rfl ?_
      refine s_gi (x := 1) rfl g rfl rfl rfl ?_
      refine s_cge rfl ⟨by omega, by omega⟩ ⟨by omega, by omega⟩ (fun c1 => absurd c1 (by omega)) (fun c1 => ?_)
      refine am_s rfl rfl ?_
      refine s_gr rfl g rfl rfl ?_
      refine am_s rfl rfl ?_
      have hh := hu2 m (by omega) (by omega)
      refine am_s rfl rfl ?_
      refine s_ia rfl g rfl ⟨by omega, by omega⟩ (by decide) ?_
      refine s_k 1 rfl rfl ?_
      refine s_iadd rfl ?_
      refine s_is rfl g rfl ⟨by omega, by omega⟩ (by decide) ?_
      refine am_s rfl rfl ?_
      refine s_gr rfl g rfl rfl ?_
      refine am_s rfl rfl ?_
      refine s_gr rfl g rfl rfl ?_
      refine am_s rfl rfl ?_
      refine s_ia rfl g rfl ⟨by omega, by omega⟩ (by decide) ?_
      refine am_s rfl rfl ?_
      refine s_ia rfl g rfl ⟨by rw [am_w_a (by decide), i2]; omega, by rw [am_w_a (by decide), i2]; omega⟩ (by decide) ?_
      refine s_k 1 rfl rfl ?_
      refine s_iadd rfl ?_
      refine s_is rfl g rfl ⟨by rw [am_w_a (by decide), i2]; omega, by rw [am_w_a (by decide), i2]; omega⟩ (by decide) ?_
      refine s_inc rfl rfl ?_
      refine am_s rfl rfl ?_
      refine am_lv [(1, _), (0, _)] rfl rfl ⟨rfl, rfl, trivial⟩ ?_
      refine kk () _ ⟨am_Fm_c (am_Fm_c i1 (by decide) (by decide)) (by decide) (by decide), by rw [am_w_row (by decide), am_w_row (by decide)]; exact i2, i3, i4, fun c c0 c1 => ?_⟩
      rw [dg_two rfl rfl c, am_w_a (by decide), i2, i5 c c0 c1]
      exact (dgf_s (show m ≠ 0 by omega) c).symm
    · rintro - s3 ⟨i1, i2, i3, i4, i5⟩
      have hN3 : s3 168 1 = n := by rw [i1.2 1 (by decide)]; exact en
      have hu2 : ∀ c, 1 ≤ c → c < (n : Int) → 0 ≤ s2 192 c ∧ s2 192 c < n := fun c c0 c1 => by rw [(h10 c (by omega) c1).1]; exact hu c c0 c1
      simp only
      refine am_s rfl rfl ?_
      refine am_s rfl rfl ?_
      refine s_gi (x := 1) rfl g rfl rfl rfl ?_
      refine s_cge rfl ⟨by omega, by omega⟩ ⟨by omega, by omega⟩ (fun c1 => ?_) (fun c1 => absurd c1 (by omega))
      refine s_k 0 rfl rfl ?_
      refine am_s rfl rfl ?_
      refine am_lv [(1, .int (iI (((0 : Nat) : Int) : Int))), (0, .ref 168)] rfl rfl ⟨rfl, rfl, trivial⟩ ?_
      refine s_loop (X := Unit) (fun m _ s' => am_Fm [186, 175, 192, 176, 177] [14, 16, 20] s s' ∧ s' 192 = s2 192 ∧ s' 168 16 = al ∧ s' 168 20 = oc (dgf (s2 192) n) m ∧ s' 176 = s3 176 ∧ od_is (dgf (s2 192) n) m (s' 177)) (fun m _ => [(1, .int (iI (m : Int))), (0, .ref 168)]) (hi := n) (x := ()) (Nat.zero_le n) ⟨i1, i2, i3, i4, rfl, fun k hk => absurd hk (Nat.not_lt_zero k)⟩ ?_ ?_
      · rintro m - s4 hm0 hmn ⟨j1, j2, j3, j4, j5, j6⟩ kk
        have hN4 : s4 168 1 = n := by rw [j1.2 1 (by decide)]; exact en
        have hdl := dgf_le (s2 192) n m
        have hol := oc_le (dgf (s2 192) n) m
        simp only at kk ⊢
        refine am_s rfl rfl ?_
        refine am_s rfl rfl ?_
        refine s_gi (x := 1) rfl g rfl rfl rfl ?_
        refine s_cge rfl ⟨by omega, by omega⟩ ⟨by omega, by omega⟩ (fun c1 => absurd c1 (by omega)) (fun c1 => ?_)
        have e176 : s4 176 m = dgf (s2 192) n m := by rw [j5]; exact i5 m (by omega) (by omega)
        refine am_s rfl rfl ?_
        refine s_gr rfl g rfl rfl ?_
        refine am_s rfl rfl ?_
        refine s_ia rfl g rfl ⟨by omega, by omega⟩ (by decide) ?_
        refine s_k 2 rfl rfl ?_
        refine s_irem rfl ⟨by omega, by omega⟩ ⟨by omega, by omega⟩ ?_
        refine s_k 1 rfl rfl ?_
        refine s_cne rfl ⟨by omega, by omega⟩ ⟨by omega, by omega⟩ (fun c2 => ?_) (fun c2 => ?_)
        · refine s_inc rfl rfl ?_
          refine am_s rfl rfl ?_
          refine am_lv [(1, _), (0, _)] rfl rfl ⟨rfl, rfl, trivial⟩ ?_
          refine kk () _ ⟨j1, j2, j3, ?_, j5, fun k hk hd => ?_⟩
          · show _ = oc (dgf (s2 192) n) m + dgf (s2 192) n m % 2
            rw [j4]; omega
          · by_cases e : k = m
            · subst e; omega
            · exact j6 k (by omega) hd
        · refine am_s rfl rfl ?_
          refine s_gr rfl g rfl rfl ?_
          refine am_s rfl rfl ?_
          refine s_gi (x := 20) rfl g rfl rfl rfl ?_
          refine am_s rfl rfl ?_
          refine s_is rfl g rfl ⟨by rw [j4]; omega, by rw [j4]; omega⟩ (by decide) ?_
          refine am_s rfl rfl ?_
          refine am_s rfl rfl ?_
          refine s_gi (x := 20) rfl g rfl rfl rfl ?_
          refine s_k 1 rfl rfl ?_
          refine s_iadd rfl ?_
          refine s_pi (x := 20) rfl g rfl rfl rfl rfl ?_
          refine s_inc rfl rfl ?_
          refine am_s rfl rfl ?_
          refine am_lv [(1, _), (0, _)] rfl rfl ⟨rfl, rfl, trivial⟩ ?_
          have e2 : am_w s4 177 (s4 168 20) m 168 20 = s4 168 20 := am_w_a (by decide)
          refine kk () _ ⟨am_Fm_f (am_Fm_c j1 (by decide) (by decide)) (by decide), by rw [am_w_row (by decide), am_w_row (by decide)]; exact j2, by rw [am_w_x (by decide), am_w_a (by decide)]; exact j3, ?_, by rw [am_w_row (by decide), am_w_row (by decide)]; exact j5, fun k hk hd => ?_⟩
          · rw [am_w_eq, e2, j4]
            show _ = oc (dgf (s2 192) n) m + dgf (s2 192) n m % 2
            omega
          · rw [am_w_a (by decide)]
            by_cases e : k = m
            · subst e; rw [← j4, am_w_eq]
            · rw [am_w_x]
              · exact j6 k (by omega) hd
              · rw [j4]
                have := oc_lt (dgf (s2 192) n) (show k < m by omega) hd
                omega
      · rintro - s4 ⟨j1, j2, j3, j4, j5, j6⟩
        have hN4 : s4 168 1 = n := by rw [j1.2 1 (by decide)]; exact en
        simp only
        refine am_s rfl rfl ?_
        refine am_s rfl rfl ?_
        refine s_gi (x := 1) rfl g rfl rfl rfl ?_
        refine s_cge rfl ⟨by omega, by omega⟩ ⟨by omega, by omega⟩ (fun c1 => ?_) (fun c1 => absurd c1 (by omega))
        refine am_s rfl rfl ?_
        refine s_k 1 rfl rfl ?_
        refine s_pi (x := 14) rfl g rfl rfl rfl rfl ?_
        refine am_r rfl rfl ⟨rfl, al, _, rfl, am_Fm_f j1 (by decide), ?_, rfl, ?_, ?_, ?_, ⟨h4, h5⟩⟩
        · rw [en, show ((n : Int) - 0).toNat - 1 = (s 168 1 - 0).toNat - 1 by rw [en], ← en]
          refine gw_on (Int.le_refl 0) (fun c c0 c1 => ?_) (gw_in (fun c c0 c1 => ⟨fun _ => c0, fun _ => h3 c c0 c1⟩) h2)
          rw [am_w_a (by decide), j2]
          exact ((h10 c c0 (by omega)).1).symm
        · rw [am_w_x (by decide)]; exact j3
        · rw [am_w_x (by decide), am_w_row (by decide), j2, j4, en, Int.toNat_natCast]
        · rw [am_w_row (by decide), am_w_row (by decide), j2, en, Int.toNat_natCast]; exact j6
