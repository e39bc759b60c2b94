set_option maxHeartbeats 4000000 in
theorem t_byGrowing0 {d : Nat} {E : am_Ev} {s : am_S} {st : Int} {PP : Option Value → am_H → Prop} (g : am_Eg E) (hm : my_ok s) (hsym : fl_sym (s 168 1) (my s)) (hst : 0 ≤ st ∧ st < s 168 1) (hPP : ∀ s', (am_Fr [183, 186] s s' ∧ gt_ok (s 168 1) (my s) st ((s 168 1).toNat - 1) (s' 183) ∧ ∃ y, 0 ≤ y ∧ y < s 168 1 ∧ s' 183 y = 0) → PP none (am_hp E s')) : am_wp (d + 1) 201 0 (lv_args 0 [.ref 168, .int (iI st)]) [] (am_hp E s) PP := by
  obtain ⟨n1, n2, hD⟩ := hm
  obtain ⟨n, en⟩ : ∃ n : Nat, s 168 1 = n := ⟨(s 168 1).toNat, by omega⟩
  refine s_k 0 rfl rfl ?_
  refine am_s rfl rfl ?_
  refine am_lv [(2, .int (iI (((0 : Nat) : Int) : Int))), (1, .int (iI st)), (0, .ref 168)] rfl rfl ⟨rfl, rfl, rfl, trivial⟩ ?_
  refine s_loop (X := Unit) (fun k _ s' => am_Fr [183, 186] s s' ∧ ∀ c, 0 ≤ c → c < (k : Int) → s' 186 c = (if c = st then 1 else 0)) (fun k _ => [(2, .int (iI (k : Int))), (1, .int (iI st)), (0, .ref 168)]) (hi := n) (x := ()) (Nat.zero_le n) ⟨am_Fr_r _ _, fun c c0 c1 => absurd c1 (by omega)⟩ ?_ ?_
  · rintro k - s1 hk0 hk ⟨hF, hV⟩ kk
    have eN : s1 168 1 = n := by rw [hF 168 (by decide)]; exact en
    simp only at kk ⊢
    refine am_s rfl rfl ?_
    refine am_s rfl rfl ?_
    refine s_gi (x := 1) rfl g rfl rfl rfl ?_
    refine s_cge rfl ⟨by omega, by omega⟩ ⟨by omega, by omega⟩ (fun c1 => absurd c1 (by omega)) (fun c1 => ?_)
    refine am_s rfl rfl ?_
    refine s_gr rfl g rfl rfl ?_
    refine am_s rfl rfl ?_
    refine am_s rfl rfl ?_
    refine am_s rfl rfl ?_
    refine s_cne rfl ⟨by omega, by omega⟩ ⟨by omega, by omega⟩ (fun c2 => ?_) (fun c2 => ?_)
    · refine s_k 0 rfl rfl ?_
      refine s_bs rfl g rfl ⟨by omega, by omega⟩ (by decide) (by omega) ?_
      refine s_inc rfl rfl ?_
      refine am_s rfl rfl ?_
      refine am_lv [(2, _), (1, _), (0, _)] rfl rfl ⟨rfl, rfl, rfl, trivial⟩ ?_
      refine kk () _ ⟨am_Fr_W hF (by decide), fun c c0 c1 => ?_⟩
      by_cases e : c = (k : Int)
      · rw [e, am_w_eq, if_neg c2]
      · rw [am_w_x e]; exact hV c c0 (by omega)
    · refine s_k 1 rfl rfl ?_
      refine am_s rfl rfl ?_
      refine s_bs rfl g rfl ⟨by omega, by omega⟩ (by decide) (by omega) ?_
      refine s_inc rfl rfl ?_
      refine am_s rfl rfl ?_
      refine am_lv [(2, _), (1, _), (0, _)] rfl rfl ⟨rfl, rfl, rfl, trivial⟩ ?_
      refine kk () _ ⟨am_Fr_W hF (by decide), fun c c0 c1 => ?_⟩
      by_cases e : c = (k : Int)
      · rw [e, am_w_eq, if_pos (Decidable.of_not_not c2)]
      · rw [am_w_x e]; exact hV c c0 (by omega)
  · rintro - s1 ⟨hF, hV⟩
    have eN : s1 168 1 = n := by rw [hF 168 (by decide)]; exact en
    simp only
    refine am_s rfl rfl ?_
    refine am_s rfl rfl ?_
    refine s_gi (x := 1) rfl g rfl rfl rfl ?_
    refine s_cge rfl ⟨by omega, by omega⟩ ⟨by omega, by omega⟩ (fun c1 => ?_) (fun c1 => absurd c1 (by omega))
    refine am_s rfl rfl ?_
    refine s_gr rfl g rfl rfl ?_
    refine s_k 0 rfl rfl ?_
    refine am_s rfl rfl ?_
    refine s_is rfl g rfl ⟨by omega, by omega⟩ (by decide) ?_
    refine s_k 1 rfl rfl ?_
    refine am_s rfl rfl ?_
    have h01 := us_one (n := n) (st := st) (u := (am_w s1 183 0 st) 186) (t := (am_w s1 183 0 st) 183) ⟨hst.1, by omega⟩ (fun y y0 y1 => by rw [am_w_a (by decide)]; exact hV y y0 y1) (am_w_eq _ _ _ _)
    refine am_lv [(2, .int (iI (((1 : Nat) : Int) : Int))), (1, .int (iI st)), (0, .ref 168)] rfl rfl ⟨rfl, rfl, rfl, trivial⟩ ?_
    refine s_loop (X := Unit) (fun m _ s' => am_Fr [183, 186] s s' ∧ gt_ok n (my s) st (m - 1) (s' 183) ∧ us_of n m (s' 186) (s' 183) ∧ s_sum (s' 186) n = (m : Int)) (fun m _ => [(2, .int (iI (m : Int))), (1, .int (iI st)), (0, .ref 168)]) (lo := 1) (hi := n) (x := ()) (by omega) ⟨am_Fr_W hF (by decide), am_w_eq _ _ _ _, h01.1, h01.2⟩ ?_ ?_
    · rintro m - s2 hm0 hmn ⟨hF2, h2, h3, h4⟩ kk
      have eN : s2 168 1 = n := by rw [hF2 168 (by decide)]; exact en
      simp only at kk ⊢
      refine am_s rfl rfl ?_
      refine am_s rfl rfl ?_
      refine s_gi (x := 1) rfl g rfl rfl rfl ?_
      refine s_cge rfl ⟨by omega, by omega⟩ ⟨by omega, by omega⟩ (fun c1 => absurd c1 (by omega)) (fun c1 => ?_)
      refine s_k (-1) rfl rfl ?_
      refine am_s rfl rfl ?_
      refine s_k (-1) rfl rfl ?_
      refine am_s rfl rfl ?_
      refine s_kl 0 rfl rfl ?_
      refine am_s rfl rfl ?_
      refine s_k 0 rfl rfl ?_
      refine am_s rfl rfl ?_
      have hds := gt_okds ⟨hst.1, by omega⟩ h2
      have hk1 : ((m - 1 : Nat) : Int) + 1 = m := by omega
      rw [hk1] at hds
      have emy : ∀ x y, my s2 x y = my s x y := fun x y => by unfold my; rw [hF2 169 (by decide)]
      refine am_lv [(7, .int (iI (((0 : Nat) : Int) : Int))), (5, .long (lI 0)), (4, .int (iI (-1))), (3, .int (iI (-1))), (2, .int (iI (m : Int))), (1, .int (iI st)), (0, .ref 168)] rfl rfl ⟨rfl, rfl, rfl, rfl, rfl, rfl, rfl, trivial⟩ ?_
      refine s_loop (X := Int × Int × Int) (fun C x s' => s2 = s' ∧ gt_b n (my s) m (s2 183) (fun b => s2 186 b = 0) C 0 (x.1, x.2.1) x.2.2 (x.1 = -1)) (fun C x => [(7, .int (iI (C : Int))), (5, .long (lI x.2.2)), (4, .int (iI x.2.1)), (3, .int (iI x.1)), (2, .int (iI (m : Int))), (1, .int (iI st)), (0, .ref 168)]) (hi := n) (x := (-1, -1, 0)) (Nat.zero_le n) ⟨rfl, Or.inl ⟨rfl, fun c p c0 c1 p0 p1 hs => absurd hs (by omega)⟩⟩ ?_ ?_
      · rintro C x s3 hC0 hC ⟨rfl, hQ⟩ k2
        simp only at k2 hQ ⊢
        refine am_s rfl rfl ?_
        refine am_s rfl rfl ?_
        refine s_gi (x := 1) rfl g rfl rfl rfl ?_
        refine s_cge rfl ⟨by omega, by omega⟩ ⟨by omega, by omega⟩ (fun c1 => absurd c1 (by omega)) (fun c1 => ?_)
        refine s_k 0 rfl rfl ?_
        refine am_s rfl rfl ?_
        refine am_lv [(8, .int (iI (((0 : Nat) : Int) : Int))), (7, .int (iI (C : Int))), (5, .long (lI x.2.2)), (4, .int (iI x.2.1)), (3, .int (iI x.1)), (2, .int (iI (m : Int))), (1, .int (iI st)), (0, .ref 168)] rfl rfl ⟨rfl, rfl, rfl, rfl, rfl, rfl, rfl, rfl, trivial⟩ ?_
        refine s_loop (X := Int × Int × Int) (fun p x s' => s2 = s' ∧ gt_b n (my s) m (s2 183) (fun b => s2 186 b = 0) C p (x.1, x.2.1) x.2.2 (x.1 = -1)) (fun p x => [(8, .int (iI (p : Int))), (7, .int (iI (C : Int))), (5, .long (lI x.2.2)), (4, .int (iI x.2.1)), (3, .int (iI x.1)), (2, .int (iI (m : Int))), (1, .int (iI st)), (0, .ref 168)]) (hi := m) (x := x) (Nat.zero_le m) ⟨rfl, hQ⟩ ?_ ?_
        · rintro p x s4 hp0 hp ⟨rfl, hG⟩ k3
          simp only at k3 hG ⊢
          have hl := hds.1 p (by omega) (by omega)
          have hx9 := nx_r (m := (m : Int)) (p := (p : Int)) (by omega) (by omega)
          have hr := hds.1 _ hx9.1 hx9.2
          have hC9 := h3.1 C (by omega) (by omega)
          have d1 := hD (s2 183 p) C hl.1 (by omega) (by omega) (by omega)
          have d2 := hD C (s2 183 (nx m p)) (by omega) (by omega) hr.1 (by omega)
          have d3 := hD (s2 183 p) (s2 183 (nx m p)) hl.1 (by omega) hr.1 (by omega)
          have hsy := hsym C (s2 183 p) (by omega) (by omega) hl.1 (by omega)
          have heg : gt_g (my s) m (s2 183) C p = my s (s2 183 p) C + my s C (s2 183 (nx m p)) - my s (s2 183 p) (s2 183 (nx m p)) := by unfold gt_g; rw [hsy]
          have hgb : -4294967296 ≤ gt_g (my s) m (s2 183) C p ∧ gt_g (my s) m (s2 183) C p ≤ 4294967296 := by rw [heg]; omega
          have hxr : am_R x.1 := by
            rcases hG with ⟨z, -⟩ | ⟨-, z1, -⟩
            · rw [z]; exact ⟨by decide, by decide⟩
            · simp only at z1; exact ⟨by omega, by omega⟩
          have hlq : ¬ x.1 = -1 → am_Q x.2.2 := fun hne => by
            rcases hG with ⟨z, -⟩ | ⟨-, z1, z2, -, -, z5, -⟩
            · exact absurd z hne
            · simp only at z1 z2 z5
              have y1 := hds.1 x.2.1 z2.1 z2.2
              have y9 := nx_r z2.1 z2.2
              have y2 := hds.1 _ y9.1 y9.2
              have e1 := hD x.1 (s2 183 x.2.1) z1.1 (by omega) y1.1 (by omega)
              have e2 := hD x.1 (s2 183 (nx m x.2.1)) z1.1 (by omega) y2.1 (by omega)
              have e3 := hD (s2 183 x.2.1) (s2 183 (nx m x.2.1)) y1.1 (by omega) y2.1 (by omega)
              rw [z5]
              unfold gt_g
              exact ⟨by omega, by omega⟩
          have enx : ((p : Int) + 1) % (m : Int) = nx m p := by
            unfold nx
            by_cases e : (p : Int) + 1 < m
            · rw [if_pos e]; exact Int.emod_eq_of_lt (by omega) e
            · rw [if_neg e, show (p : Int) + 1 = m by omega]; exact Int.emod_self
          have j141 : s2 186 C = 0 → am_wp (d + 1) 201 141 [(11, .long (lI (gt_g (my s) m (s2 183) C p))), (8, .int (iI (p : Int))), (7, .int (iI (C : Int))), (5, .long (lI x.2.2)), (4, .int (iI x.2.1)), (3, .int (iI x.1)), (2, .int (iI (m : Int))), (1, .int (iI st)), (0, .ref 168)] [] (am_hp E s2) PP := by
            intro hC0s
            clear heg d1 d2 d3 hr hx9 hl hsy enx
            refine am_s rfl rfl ?_
            refine s_k (-1) rfl rfl ?_
            refine s_ceq rfl hxr ⟨by decide, by decide⟩ (fun c51 => ?_) (fun c51 => ?_)
            · refine am_s rfl rfl ?_
              refine am_s rfl rfl ?_
              refine am_s rfl rfl ?_
              refine am_s rfl rfl ?_
              refine am_s rfl rfl ?_
              refine am_s rfl rfl ?_
              refine s_inc rfl rfl ?_
              refine am_s rfl rfl ?_
              refine am_lv [(8, _), (7, _), (5, _), (4, _), (3, _), (2, _), (1, _), (0, _)] rfl rfl ⟨rfl, rfl, rfl, rfl, rfl, rfl, rfl, rfl, trivial⟩ ?_
              have := k3 (C, p, gt_g (my s) m (s2 183) C p) _ ⟨rfl, gt_b_take hG ⟨by omega, by omega⟩ ⟨by omega, by omega⟩ hC0s (Or.inl c51) (by show ¬ (C : Int) = -1; omega)⟩
              exact this
            · refine am_s rfl rfl ?_
              refine am_s rfl rfl ?_
              refine s_jge rfl rfl ⟨by omega, by omega⟩ (hlq c51) (fun c52 => ?_) (fun c52 => ?_)
              · refine s_inc rfl rfl ?_
                refine am_s rfl rfl ?_
                refine am_lv [(8, _), (7, _), (5, _), (4, _), (3, _), (2, _), (1, _), (0, _)] rfl rfl ⟨rfl, rfl, rfl, rfl, rfl, rfl, rfl, rfl, trivial⟩ ?_
                exact k3 x _ ⟨rfl, gt_b_keep hG c51 c52⟩
              · refine am_s rfl rfl ?_
                refine am_s rfl rfl ?_
                refine am_s rfl rfl ?_
                refine am_s rfl rfl ?_
                refine am_s rfl rfl ?_
                refine am_s rfl rfl ?_
                refine s_inc rfl rfl ?_
                refine am_s rfl rfl ?_
                refine am_lv [(8, _), (7, _), (5, _), (4, _), (3, _), (2, _), (1, _), (0, _)] rfl rfl ⟨rfl, rfl, rfl, rfl, rfl, rfl, rfl, rfl, trivial⟩ ?_
                have := k3 (C, p, gt_g (my s) m (s2 183) C p) _ ⟨rfl, gt_b_take hG ⟨by omega, by omega⟩ ⟨by omega, by omega⟩ hC0s (Or.inr (by omega)) (by show ¬ (C : Int) = -1; omega)⟩
                exact this
          refine am_s rfl rfl ?_
          refine am_s rfl rfl ?_
          refine s_cge rfl ⟨by omega, by omega⟩ ⟨by omega, by omega⟩ (fun c41 => absurd c41 (by omega)) (fun c41 => ?_)
          refine am_s rfl rfl ?_
          refine s_gr rfl g rfl rfl ?_
          refine am_s rfl rfl ?_
          refine s_ba rfl g rfl ⟨by omega, by omega⟩ (by decide) ?_
          refine s_zne rfl ⟨by omega, by omega⟩ (fun c42 => ?_) (fun c42 => ?_)
          · refine s_inc rfl rfl ?_
            refine am_s rfl rfl ?_
            refine am_lv [(7, _), (5, _), (4, _), (3, _), (2, _), (1, _), (0, _)] rfl rfl ⟨rfl, rfl, rfl, rfl, rfl, rfl, rfl, trivial⟩ ?_
            have := k2 x s2 ⟨rfl, gt_b_skip hG (show ¬ s2 186 C = 0 from c42)⟩
            exact this
          · refine am_s rfl rfl ?_
            refine s_gr rfl g rfl rfl ?_
            refine am_s rfl rfl ?_
            refine s_ia rfl g rfl ⟨by omega, by omega⟩ (by decide) ?_
            refine am_s rfl rfl ?_
            refine am_s rfl rfl ?_
            refine s_gr rfl g rfl rfl ?_
            refine am_s rfl rfl ?_
            refine s_k 1 rfl rfl ?_
            refine s_iadd rfl ?_
            refine am_s rfl rfl ?_
            refine s_irem rfl ⟨by omega, by omega⟩ ⟨by omega, by omega⟩ ?_
            refine s_ia rfl g rfl (by rw [enx]; exact ⟨hx9.1, by omega⟩) (by decide) ?_
            rw [enx]
            refine am_s rfl rfl ?_
            refine am_s rfl rfl ?_
            refine am_s rfl rfl ?_
            refine am_s rfl rfl ?_
            refine s_cv [_, _] [] rfl g (Or.inl rfl) rfl rfl (Nat.le_of_ble_eq_true rfl) rfl rfl (t_far g ⟨by omega, by omega⟩ ⟨by omega, by omega⟩) ?_
            rintro rv h1 ⟨rfl, rfl⟩
            refine s_i2l rfl (by rw [emy]; exact ⟨by omega, by omega⟩) ?_
            refine am_s rfl rfl ?_
            refine am_s rfl rfl ?_
            refine am_s rfl rfl ?_
            refine s_cv [_, _] [_] rfl g (Or.inl rfl) rfl rfl (Nat.le_of_ble_eq_true rfl) rfl rfl (t_far g ⟨by omega, by omega⟩ ⟨by omega, by omega⟩) ?_
            rintro rv h1 ⟨rfl, rfl⟩
            refine s_i2l rfl (by rw [emy]; exact ⟨by omega, by omega⟩) ?_
            refine s_ladd rfl ?_
            refine am_s rfl rfl ?_
            refine am_s rfl rfl ?_
            refine am_s rfl rfl ?_
            refine s_cv [_, _] [_] rfl g (Or.inl rfl) rfl rfl (Nat.le_of_ble_eq_true rfl) rfl rfl (t_far g ⟨by omega, by omega⟩ ⟨by omega, by omega⟩) ?_
            rintro rv h1 ⟨rfl, rfl⟩
            refine s_i2l rfl (by rw [emy]; exact ⟨by omega, by omega⟩) ?_
            refine s_lsub rfl ?_
            refine am_s rfl rfl ?_
            refine am_lv [(11, .long (lI (gt_g (my s) m (s2 183) C p))), (8, .int (iI (p : Int))), (7, .int (iI (C : Int))), (5, .long (lI x.2.2)), (4, .int (iI x.2.1)), (3, .int (iI x.1)), (2, .int (iI (m : Int))), (1, .int (iI st)), (0, .ref 168)] rfl rfl ⟨by rw [heg, ← emy, ← emy, ← emy]; rfl, rfl, rfl, rfl, rfl, rfl, rfl, rfl, rfl,  trivial⟩ ?_
            exact j141 (by omega)
        · rintro x s4 ⟨rfl, hG⟩
          simp only at hG ⊢
          refine am_s rfl rfl ?_
          refine am_s rfl rfl ?_
          refine s_cge rfl ⟨by omega, by omega⟩ ⟨by omega, by omega⟩ (fun c41 => ?_) (fun c41 => absurd c41 (by omega))
          refine s_inc rfl rfl ?_
          refine am_s rfl rfl ?_
          refine am_lv [(7, _), (5, _), (4, _), (3, _), (2, _), (1, _), (0, _)] rfl rfl ⟨rfl, rfl, rfl, rfl, rfl, rfl, rfl, trivial⟩ ?_
          have := k2 x s2 ⟨rfl, gt_b_row hG⟩
          exact this
      · rintro x s3 ⟨rfl, hQ⟩
        simp only at hQ ⊢
        have hq : ((0 ≤ x.1 ∧ x.1 < (n : Int)) ∧ (0 ≤ x.2.1 ∧ x.2.1 < (m : Int)) ∧ s2 186 x.1 = 0 ∧ ∀ c p, 0 ≤ c → c < (n : Int) → 0 ≤ p → p < (m : Int) → s2 186 c = 0 → gt_g (my s) m (s2 183) x.1 x.2.1 < gt_g (my s) m (s2 183) c p ∨ gt_g (my s) m (s2 183) x.1 x.2.1 = gt_g (my s) m (s2 183) c p ∧ (x.1 < c ∨ x.1 = c ∧ x.2.1 ≤ p)) := by
          rcases hQ with ⟨-, z⟩ | ⟨-, z1, z2, z3, -, z5, z6⟩
          · obtain ⟨y, y0, y1, y2⟩ := us_left (k := (m : Int)) (by omega) h3.1 h4
            exact absurd y2 (z y 0 y0 (by omega) (Int.le_refl 0) (by omega) (Or.inl (by omega)))
          · refine ⟨z1, z2, z3, fun c p c0 c1 p0 p1 hc => ?_⟩
            rw [← z5]
            exact z6 c p c0 c1 p0 p1 (Or.inl c1) hc
        obtain ⟨q1, q2, q3, q4⟩ := hq
        refine am_s rfl rfl ?_
        refine am_s rfl rfl ?_
        refine s_gi (x := 1) rfl g rfl rfl rfl ?_
        refine s_cge rfl ⟨by omega, by omega⟩ ⟨by omega, by omega⟩ (fun c1 => ?_) (fun c1 => absurd c1 (by omega))
        refine am_s rfl rfl ?_
        refine s_gr rfl g rfl rfl ?_
        refine am_s rfl rfl ?_
        refine s_k 1 rfl rfl ?_
        refine s_bs rfl g rfl ⟨by omega, by omega⟩ (by decide) (Or.inr rfl) ?_
        refine am_s rfl rfl ?_
        refine am_s rfl rfl ?_
        refine am_lv [(7, .int (iI ((m : Int) - ((0 : Nat) : Int)))), (4, .int (iI x.2.1)), (3, .int (iI x.1)), (2, .int (iI (m : Int))), (1, .int (iI st)), (0, .ref 168)] rfl rfl ⟨by rw [show (m : Int) - ((0 : Nat) : Int) = m by omega]; rfl, rfl, rfl, rfl, rfl, rfl,  trivial⟩ ?_
        refine s_while (X := Nat) (fun j s' => (j : Int) ≤ m - x.2.1 - 1 ∧ am_Fr [183] (am_w s2 186 x.1 1) s' ∧ ∀ y, s' 183 y = if (m : Int) - j < y ∧ y ≤ m then s2 183 (y - 1) else s2 183 y) (fun j _ => m - j) (fun j => [(7, .int (iI ((m : Int) - (j : Int)))), (4, .int (iI x.2.1)), (3, .int (iI x.1)), (2, .int (iI (m : Int))), (1, .int (iI st)), (0, .ref 168)]) ?_ (x := 0) ⟨by omega, am_Fr_r _ _, fun y => by rw [if_neg (by omega), am_w_a (by decide)]⟩
        rintro j s3 ⟨hj, hF3, hV3⟩ k4
        simp only at k4 ⊢
        by_cases hdone : (m : Int) - (j : Int) ≤ x.2.1 + 1
        · refine am_s rfl rfl ?_
          refine am_s rfl rfl ?_
          refine s_k 1 rfl rfl ?_
          refine s_iadd rfl ?_
          refine s_cle rfl ⟨by omega, by omega⟩ ⟨by omega, by omega⟩ (fun c61 => ?_) (fun c61 => absurd c61 (by omega))
          refine am_s rfl rfl ?_
          refine s_gr rfl g rfl rfl ?_
          refine am_s rfl rfl ?_
          refine s_k 1 rfl rfl ?_
          refine s_iadd rfl ?_
          refine am_s rfl rfl ?_
          refine s_is rfl g rfl ⟨by omega, by omega⟩ (by decide) ?_
          refine s_inc rfl rfl ?_
          refine am_s rfl rfl ?_
          refine am_lv [(2, _), (1, _), (0, _)] rfl rfl ⟨rfl, rfl, rfl, trivial⟩ ?_
          have w1 : ∀ y, am_w s3 183 (x.2.1 + 1) x.1 186 y = if y = x.1 then 1 else s2 186 y := fun y => by
            rw [am_w_a (by decide), hF3 186 (by decide)]
            by_cases e : y = x.1
            · rw [e, am_w_eq, if_pos rfl]
            · rw [am_w_x e, if_neg e]
          have hi : gt_i m x.1 x.2.1 (s2 183) (am_w s3 183 (x.2.1 + 1) x.1 183) := ⟨fun y y0 y1 => by rw [am_w_x (by omega), hV3 y, if_neg (by omega)], am_w_eq _ _ _ _, fun y y0 y1 => by rw [am_w_x (by omega), hV3 y, if_pos (by omega)]⟩
          have hun : ∀ y, 0 ≤ y → y < (n : Int) → s2 186 y = 0 → ∀ j, 0 ≤ j → j < (m : Int) → s2 183 j ≠ y := fun y y0 y1 hy j j0 j1 e => by
            have := (h3.2 y y0 (by omega)).mpr ⟨j, j0, j1, e⟩
            omega
          have hun2 : ∀ y, 0 ≤ y → y < (n : Int) → (∀ j, 0 ≤ j → j < (m : Int) → s2 183 j ≠ y) → s2 186 y = 0 := fun y y0 y1 hy => by
            rcases h3.1 y y0 y1 with z | z
            · exact z
            · obtain ⟨j, j0, j1, j2⟩ := (h3.2 y y0 (by omega)).mp z
              exact absurd j2 (hy j j0 j1)
          refine kk () _ ⟨am_Fr_W (am_Fr_u (am_Fr_W hF2 (by decide)) (am_Fr_m hF3 (by decide))) (by decide), ?_, us_ins q2 h3 hi (fun y _ _ => w1 y), ?_⟩
          · rw [show m + 1 - 1 = (m - 1) + 1 by omega]
            exact ⟨s2 183, x.1, x.2.1, h2, by rw [hk1]; exact ⟨q1, hun x.1 q1.1 q1.2 q3, q2, fun c2 p2 c0 c1 hc p0 p1 => q4 c2 p2 c0 c1 p0 p1 (hun2 c2 c0 c1 hc)⟩, by rw [hk1]; exact hi⟩
          · rw [s_sum_if q1.1 q1.2 (fun y _ _ => w1 y) q3, h4]
            omega
        · refine am_s rfl rfl ?_
          refine am_s rfl rfl ?_
          refine s_k 1 rfl rfl ?_
          refine s_iadd rfl ?_
          refine s_cle rfl ⟨by omega, by omega⟩ ⟨by omega, by omega⟩ (fun c61 => absurd c61 (by omega)) (fun c61 => ?_)
          refine am_s rfl rfl ?_
          refine s_gr rfl g rfl rfl ?_
          refine am_s rfl rfl ?_
          refine am_s rfl rfl ?_
          refine s_gr rfl g rfl rfl ?_
          refine am_s rfl rfl ?_
          refine s_k 1 rfl rfl ?_
          refine s_isub rfl ?_
          refine s_ia rfl g rfl ⟨by omega, by omega⟩ (by decide) ?_
          refine s_is rfl g rfl ⟨by omega, by omega⟩ (by decide) ?_
          refine s_inc rfl rfl ?_
          refine am_s rfl rfl ?_
          refine am_lv [(7, .int (iI ((m : Int) - ((j + 1 : Nat) : Int)))), (4, .int (iI x.2.1)), (3, .int (iI x.1)), (2, .int (iI (m : Int))), (1, .int (iI st)), (0, .ref 168)] rfl rfl ⟨by rw [show (m : Int) - ((j + 1 : Nat) : Int) = (m : Int) - (j : Int) + -1 by omega]; rfl, rfl, rfl, rfl, rfl, rfl,  trivial⟩ ?_
          refine k4 (j + 1) _ ⟨by omega, am_Fr_W hF3 (by decide), fun y => ?_⟩ (by omega)
          by_cases e : y = (m : Int) - (j : Int)
          · rw [e, am_w_eq, hV3, if_neg (by omega), if_pos (by omega)]
          · rw [am_w_x e, hV3 y]
            by_cases e2 : (m : Int) - j < y ∧ y ≤ m
            · rw [if_pos e2, if_pos (by omega)]
            · rw [if_neg e2, if_neg (by omega)]
    · rintro - s2 ⟨hF2, h2, h3, h4⟩
      have eN : s2 168 1 = n := by rw [hF2 168 (by decide)]; exact en
      simp only
      refine am_s rfl rfl ?_
      refine am_s rfl rfl ?_
      refine s_gi (x := 1) rfl g rfl rfl rfl ?_
      refine s_cge rfl ⟨by omega, by omega⟩ ⟨by omega, by omega⟩ (fun c1 => ?_) (fun c1 => absurd c1 (by omega))
      refine am_r rfl rfl (hPP s2 ⟨hF2, by rw [en, show (n : Int).toNat - 1 = n - 1 by omega]; exact h2, ?_⟩)
      obtain ⟨j, j0, j1, j2⟩ := us_all h3 h4 (y := 0) (Int.le_refl 0) (by omega)
      exact ⟨j, j0, by omega, j2⟩
