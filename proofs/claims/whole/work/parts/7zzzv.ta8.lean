/-! best of the other one: all ways, then the tour -/
theorem t_bM29 {d : Nat} {E : am_Ev} {s : am_S} {n : Int} {P : Option Value → am_H → Prop} (g : am_Eg E) (hn : 1 ≤ n ∧ n ≤ 11) (en : s 168 1 = n) (hD : ∀ a b, 0 ≤ a → a < n → 0 ≤ b → b < n → 0 ≤ my s a b ∧ my s a b < 2147483648) (hP : ∀ s1, am_Fr [193] s s1 → wyU (my s) n (yB s1) (p2 (n - 1)) → am_wp (d + 1) 213 177 [(0, .ref 168)] [] (am_hp E s1) P) : am_wp (d + 1) 213 29 (lv_args 0 [.ref 168]) [] (am_hp E s) P := by
  have hk := p2_k hn
  have hp := p2_pos (n - 1)
  refine s_k 0 rfl rfl ?_
  refine am_s rfl rfl ?_
  refine am_lv [(1, .int (iI (((0 : Nat) : Int) : Int))), (0, .ref 168)] rfl rfl ⟨rfl, rfl, trivial⟩ ?_
  refine s_loop (X := Unit) (fun k _ s' => am_Fr [193] s s' ∧ wyU (my s) n (yB s') (k : Int)) (fun k _ => [(1, .int (iI (k : Int))), (0, .ref 168)]) (hi := (p2 (n - 1)).toNat) (x := ()) (Nat.zero_le _) ⟨fun _ _ => rfl, fun S c s0 s1 => by omega⟩ ?_ ?_
  · rintro k - s1 hk0 hk1 ⟨hF, hT⟩ kk
    try simp only at kk ⊢
    have e1 : s1 168 1 = n := by rw [hF 168 (by decide)]; exact en
    refine am_s rfl rfl ?_
    refine s_k 1 rfl rfl ?_
    refine am_s rfl rfl ?_
    refine s_gi (x := 1) rfl g rfl rfl rfl ?_
    refine s_k 1 rfl rfl ?_
    refine s_isub rfl ?_
    refine s_shl1 rfl ⟨by omega, by omega⟩ ?_
    rw [e1]
    refine s_cge rfl ⟨by omega, by omega⟩ ⟨by omega, by omega⟩ (fun c1 => absurd c1 (by omega)) (fun c1 => ?_)
    refine s_k 0 rfl rfl ?_
    refine am_s rfl rfl ?_
    refine am_lv [(2, .int (iI (((0 : Nat) : Int) : Int))), (1, .int (iI (k : Int))), (0, .ref 168)] rfl rfl ⟨rfl, rfl, rfl, trivial⟩ ?_
    refine s_loop (X := Unit) (fun j _ s' => am_Fr [193] s s' ∧ wyU (my s) n (yB s') (k : Int) ∧ ∀ c, 0 ≤ c → c < (j : Int) → wyA (my s) n (yB s') (k : Int) c (yB s' (k : Int) c)) (fun j _ => [(2, .int (iI (j : Int))), (1, .int (iI (k : Int))), (0, .ref 168)]) (hi := n.toNat) (x := ()) (Nat.zero_le _) ⟨hF, hT, fun c c0 c1 => by omega⟩ ?_ ?_
    · rintro j - s2 hj0 hj1 ⟨hF2, hT2, hR2⟩ kk2
      try simp only at kk2 ⊢
      have e2 : s2 168 1 = n := by rw [hF2 168 (by decide)]; exact en
      have ey : my s2 = my s := by funext a b; unfold my; rw [hF2 169 (by decide)]
      have bj := hD (j : Int) 0 (by omega) (by omega) (by omega) (by omega)
      refine am_s rfl rfl ?_
      refine am_s rfl rfl ?_
      refine s_gi (x := 1) rfl g rfl rfl rfl ?_
      refine s_cge rfl ⟨by omega, by omega⟩ ⟨by omega, by omega⟩ (fun c1 => absurd c1 (by omega)) (fun c1 => ?_)
      refine am_s rfl rfl ?_
      refine s_zne rfl ⟨by omega, by omega⟩ (fun c2 => ?_) (fun c2 => ?_)
      · refine s_kl (-1) rfl rfl ?_
        refine am_s rfl rfl ?_
        refine s_k 1 rfl rfl ?_
        refine am_s rfl rfl ?_
        refine am_lv [(5, _), (3, _), (2, _), (1, _), (0, _)] rfl rfl ⟨rfl, rfl, rfl, rfl, rfl, trivial⟩ ?_
        refine t_bM74 (s := s2) (n := n) (K := (k : Int)) (j := (j : Int)) g hn e2 (by omega) (by omega) (by rw [ey]; exact hD) (by rw [ey]; exact hT2) (Or.inr ⟨by omega, rfl⟩) (fun x hx => ?_)
        rw [ey] at hx
        refine am_s rfl rfl ?_
        refine s_gr rfl g rfl rfl ?_
        refine s_k 16 rfl rfl ?_
        refine am_s rfl rfl ?_
        refine s_imul rfl ?_
        refine am_s rfl rfl ?_
        refine s_iadd rfl ?_
        refine am_s rfl rfl ?_
        refine s_ls rfl g rfl ⟨by omega, by omega⟩ (by decide) ?_
        refine s_inc rfl rfl ?_
        refine am_s rfl rfl ?_
        refine am_lv [(2, _), (1, _), (0, _)] rfl rfl ⟨rfl, rfl, rfl, trivial⟩ ?_
        have q0 : ∀ S c, 0 ≤ S → S < (k : Int) → 0 ≤ c → c < n → yB s2 S c = yB (am_w s2 193 (16 * (k : Int) + (j : Int)) x) S c := fun S c s0 s1 c0 c1 => by
          rw [yB_w (by omega) (by omega), if_neg (by omega)]
        have q1 : ∀ c u, 0 ≤ c → c < n → wyA (my s) n (yB s2) (k : Int) c u → wyA (my s) n (yB (am_w s2 193 (16 * (k : Int) + (j : Int)) x)) (k : Int) c u := fun c u c0 c1 h => by
          refine wyA_c (fun _ _ _ _ _ _ => rfl) ⟨c0, c1⟩ (fun a a0 a1 a2 => ?_) h
          have q := rb_lt (by omega) a2
          exact q0 _ _ q.1 (by omega) (by omega) a1
        refine kk2 () _ ⟨fun q hq => by rw [am_w_row (fun z => hq (by simp [z]))]; exact hF2 q hq, wyU_cg q0 hT2, fun c c0 c1 => ?_⟩
        rw [yB_w (by omega) (by omega)]
        by_cases e : c = (j : Int)
        · rw [if_pos ⟨rfl, e⟩, e]; exact q1 _ _ (by omega) (by omega) hx
        · rw [if_neg (fun z => e z.2)]; exact q1 _ _ (by omega) (by omega) (hR2 c c0 (by omega))
      · refine am_s rfl rfl ?_
        refine am_s rfl rfl ?_
        refine s_k 0 rfl rfl ?_
        refine s_cv [_, _] [] rfl g (Or.inl rfl) rfl rfl (Nat.le_of_ble_eq_true rfl) rfl rfl (t_far (s := s2) g (by omega) (by omega)) ?_
        rintro rv h1 ⟨rfl, rfl⟩
        rw [ey]
        refine s_i2l rfl ⟨by omega, by omega⟩ ?_
        refine am_s rfl rfl ?_
        refine am_s rfl rfl ?_
        refine s_k 1 rfl rfl ?_
        refine am_s rfl rfl ?_
        refine am_lv [(5, _), (3, _), (2, _), (1, _), (0, _)] rfl rfl ⟨rfl, rfl, rfl, rfl, rfl, trivial⟩ ?_
        refine t_bM74 (s := s2) (n := n) (K := (k : Int)) (j := (j : Int)) g hn e2 (by omega) (by omega) (by rw [ey]; exact hD) (by rw [ey]; exact hT2) (by rw [ey]; exact Or.inl ⟨by omega, rfl⟩) (fun x hx => ?_)
        rw [ey] at hx
        refine am_s rfl rfl ?_
        refine s_gr rfl g rfl rfl ?_
        refine s_k 16 rfl rfl ?_
        refine am_s rfl rfl ?_
        refine s_imul rfl ?_
        refine am_s rfl rfl ?_
        refine s_iadd rfl ?_
        refine am_s rfl rfl ?_
        refine s_ls rfl g rfl ⟨by omega, by omega⟩ (by decide) ?_
        refine s_inc rfl rfl ?_
        refine am_s rfl rfl ?_
        refine am_lv [(2, _), (1, _), (0, _)] rfl rfl ⟨rfl, rfl, rfl, trivial⟩ ?_
        have q0 : ∀ S c, 0 ≤ S → S < (k : Int) → 0 ≤ c → c < n → yB s2 S c = yB (am_w s2 193 (16 * (k : Int) + (j : Int)) x) S c := fun S c s0 s1 c0 c1 => by
          rw [yB_w (by omega) (by omega), if_neg (by omega)]
        have q1 : ∀ c u, 0 ≤ c → c < n → wyA (my s) n (yB s2) (k : Int) c u → wyA (my s) n (yB (am_w s2 193 (16 * (k : Int) + (j : Int)) x)) (k : Int) c u := fun c u c0 c1 h => by
          refine wyA_c (fun _ _ _ _ _ _ => rfl) ⟨c0, c1⟩ (fun a a0 a1 a2 => ?_) h
          have q := rb_lt (by omega) a2
          exact q0 _ _ q.1 (by omega) (by omega) a1
        refine kk2 () _ ⟨fun q hq => by rw [am_w_row (fun z => hq (by simp [z]))]; exact hF2 q hq, wyU_cg q0 hT2, fun c c0 c1 => ?_⟩
        rw [yB_w (by omega) (by omega)]
        by_cases e : c = (j : Int)
        · rw [if_pos ⟨rfl, e⟩, e]; exact q1 _ _ (by omega) (by omega) hx
        · rw [if_neg (fun z => e z.2)]; exact q1 _ _ (by omega) (by omega) (hR2 c c0 (by omega))
    · rintro - s2 ⟨hF2, hT2, hR2⟩
      try simp only
      have e2 : s2 168 1 = n := by rw [hF2 168 (by decide)]; exact en
      refine am_s rfl rfl ?_
      refine am_s rfl rfl ?_
      refine s_gi (x := 1) rfl g rfl rfl rfl ?_
      refine s_cge rfl ⟨by omega, by omega⟩ ⟨by omega, by omega⟩ (fun c1 => ?_) (fun c1 => absurd c1 (by omega))
      refine s_inc rfl rfl ?_
      refine am_s rfl rfl ?_
      refine am_lv [(1, _), (0, _)] rfl rfl ⟨rfl, rfl, trivial⟩ ?_
      refine kk () _ ⟨hF2, fun S c s0 s1 c0 c1 => ?_⟩
      by_cases e : S = (k : Int)
      · subst e; exact hR2 c c0 (by omega)
      · exact hT2 S c s0 (by omega) c0 c1
  · rintro - s1 ⟨hF, hT⟩
    try simp only
    have e1 : s1 168 1 = n := by rw [hF 168 (by decide)]; exact en
    rw [show (((p2 (n - 1)).toNat : Nat) : Int) = p2 (n - 1) by omega] at hT ⊢
    refine am_s rfl rfl ?_
    refine s_k 1 rfl rfl ?_
    refine am_s rfl rfl ?_
    refine s_gi (x := 1) rfl g rfl rfl rfl ?_
    refine s_k 1 rfl rfl ?_
    refine s_isub rfl ?_
    refine s_shl1 rfl ⟨by omega, by omega⟩ ?_
    rw [e1]
    refine s_cge rfl ⟨by omega, by omega⟩ ⟨by omega, by omega⟩ (fun c1 => ?_) (fun c1 => absurd c1 (by omega))
    refine am_lv [(0, _)] rfl rfl ⟨rfl, trivial⟩ ?_
    exact hP s1 hF hT
theorem t_bM177 {d : Nat} {E : am_Ev} {s : am_S} {n : Int} {N : Nat} {PP : Option Value → am_H → Prop} (g : am_Eg E) (hn : 1 ≤ n ∧ n ≤ 11) (en : s 168 1 = n) (hD : ∀ a b, 0 ≤ a → a < n → 0 ≤ b → b < n → 0 ≤ my s a b ∧ my s a b < 2147483648) (eN : n = (N : Int)) (hU : wyU (my s) n (yB s) (p2 (n - 1))) (hPP : ∀ s2, am_Fm [183] [29] s s2 → s2 168 29 = 1 → wyD N (my s) (s2 183) → PP (some (.long (lI (tl n (my s) (s2 183) N)))) (am_hp E s2)) : am_wp (d + 1) 213 177 [(0, .ref 168)] [] (am_hp E s) PP := by
  have hk := p2_k hn
  have hp := p2_pos (n - 1)
  have hN : 1 ≤ N := by omega
  refine s_k 1 rfl rfl ?_
  refine am_s rfl rfl ?_
  refine s_gi (x := 1) rfl g rfl rfl rfl ?_
  refine s_k 1 rfl rfl ?_
  refine s_isub rfl ?_
  refine s_shl1 rfl ⟨by omega, by omega⟩ ?_
  rw [en]
  refine s_k 1 rfl rfl ?_
  refine s_isub rfl ?_
  refine am_s rfl rfl ?_
  refine am_s rfl rfl ?_
  refine s_gr rfl g rfl rfl ?_
  refine s_k 16 rfl rfl ?_
  refine am_s rfl rfl ?_
  refine s_imul rfl ?_
  refine s_la rfl g rfl ⟨by omega, by omega⟩ (by decide) ?_
  generalize hv : s 193 (16 * (p2 (n - 1) - 1)) = v
  have h0 : wyA (my s) n (yB s) (p2 (n - 1) - 1) 0 v := by
    have := hU (p2 (n - 1) - 1) 0 (by omega) (by omega) (by omega) (by omega)
    rw [show yB s (p2 (n - 1) - 1) 0 = v by rw [← hv]; unfold yB; rw [Int.add_zero]] at this
    exact this
  refine am_s rfl rfl ?_
  refine am_s rfl rfl ?_
  refine s_gr rfl g rfl rfl ?_
  refine s_k 0 rfl rfl ?_
  refine s_k 0 rfl rfl ?_
  refine s_is rfl g rfl ⟨by omega, by omega⟩ (by decide) ?_
  refine s_k 1 rfl rfl ?_
  refine am_s rfl rfl ?_
  refine am_lv [(4, .int (iI (((1 : Nat) : Int) : Int))), (2, .long (lI v)), (1, .int (iI (p2 (n - 1) - 1))), (0, .ref 168)] rfl rfl ⟨rfl, rfl, rfl, rfl, trivial⟩ ?_
  refine s_loop (X := Int) (fun k L s' => am_Fr [183] s s' ∧ wyr (my s) n (yB s) (s' 183) (k - 1) L) (fun k L => [(4, .int (iI (k : Int))), (2, .long (lI v)), (1, .int (iI L)), (0, .ref 168)]) (lo := 1) (hi := N) (x := p2 (n - 1) - 1) hN ⟨fun q hq => am_w_row (fun z => hq (by simp [z])), ⟨am_w_eq _ _ _ _, rfl⟩⟩ ?_ ?_
  · rintro k L s2 hk0 hk1 ⟨hF2, hW⟩ kk
    try simp only at kk ⊢
    obtain ⟨m, rfl⟩ : ∃ m, k = m + 1 := ⟨k - 1, by omega⟩
    rw [show m + 1 - 1 = m from rfl] at hW
    have em : (((m + 1 : Nat) : Int) - 1) = (m : Int) := by omega
    have f := wyr_f (by omega) hW
    have fr := f.r
    have ft := f.tr (m : Int) (by omega) (by omega)
    have nz := wyF_nz f (by omega)
    have e1 : s2 168 1 = n := by rw [hF2 168 (by decide)]; exact en
    refine am_s rfl rfl ?_
    refine am_s rfl rfl ?_
    refine s_gi (x := 1) rfl g rfl rfl rfl ?_
    refine s_cge rfl ⟨by omega, by omega⟩ ⟨by omega, by omega⟩ (fun c1 => absurd c1 (by omega)) (fun c1 => ?_)
    refine am_s rfl rfl ?_
    refine s_gr rfl g rfl rfl ?_
    refine am_s rfl rfl ?_
    refine s_k 1 rfl rfl ?_
    refine s_isub rfl ?_
    refine s_ia rfl g rfl ⟨by omega, by omega⟩ (by decide) ?_
    refine am_s rfl rfl ?_
    refine s_k 1 rfl rfl ?_
    refine am_s rfl rfl ?_
    have ev := hU L (s2 183 (m : Int)) fr.1 fr.2 ft.1 ft.2
    rcases ev with ⟨z, -⟩ | ⟨-, ⟨a9, p0, p1, p2_, p3⟩, p4⟩
    · exact absurd z nz
    rw [em]
    refine am_lv [(6, .int (iI (((1 : Nat) : Int) : Int))), (5, .int (iI (s2 183 (m : Int)))), (4, .int (iI ((m + 1 : Nat) : Int))), (2, .long (lI v)), (1, .int (iI L)), (0, .ref 168)] rfl rfl ⟨rfl, rfl, rfl, rfl, rfl, rfl, trivial⟩ ?_
    refine s_loop (X := Unit) (fun k _ s' => s2 = s' ∧ ∀ b, 0 ≤ b → b + 1 < (k : Int) → bt L b = 1 → my s (s2 183 (m : Int)) (b + 1) + yB s (rb L b) (b + 1) ≠ yB s L (s2 183 (m : Int))) (fun k _ => [(6, .int (iI (k : Int))), (5, .int (iI (s2 183 (m : Int)))), (4, .int (iI ((m + 1 : Nat) : Int))), (2, .long (lI v)), (1, .int (iI L)), (0, .ref 168)]) (lo := 1) (hi := (a9 + 1).toNat) (x := ()) (by omega) ⟨rfl, fun b b0 b1 => by omega⟩ ?_ ?_
    · rintro k - s3 hj0 hj1 ⟨rfl, hN2⟩ kk2
      try simp only at kk2 ⊢
      have hb01 := bt_01 L ((k : Int) - 1)
      have ek : (k : Int) - 1 + 1 = (k : Int) := by omega
      refine am_s rfl rfl ?_
      refine am_s rfl rfl ?_
      refine s_k 1 rfl rfl ?_
      refine s_isub rfl ?_
      refine s_bit rfl rfl rfl ⟨by omega, by omega⟩ ⟨by omega, by omega⟩ ?_
      refine s_zeq rfl ⟨by omega, by omega⟩ (fun c1 => ?_) (fun c1 => ?_)
      · refine s_inc rfl rfl ?_
        refine am_s rfl rfl ?_
        refine am_lv [(6, _), (5, _), (4, _), (2, _), (1, _), (0, _)] rfl rfl ⟨rfl, rfl, rfl, rfl, rfl, rfl, trivial⟩ ?_
        have ek2 : (k : Int) + 1 = ((k + 1 : Nat) : Int) := by omega
        rw [ek2]
        refine kk2 () _ ⟨rfl, fun b b0 b1 b2 => ?_⟩
        by_cases e : b = (k : Int) - 1
        · rw [e] at b2 ⊢; first | omega | (rw [ek]; omega)
        · exact hN2 b b0 (by omega) b2
      · refine am_s rfl rfl ?_
        refine am_s rfl rfl ?_
        refine am_s rfl rfl ?_
        have hbk : bt L ((k : Int) - 1) = 1 := by omega
        have q := rb_lt fr.1 hbk
        have bB := wyT_b hD (wyU_T hU) fr.1 (by omega) (a := (k : Int) - 1) (by omega) (by omega) hbk
        rw [ek] at bB
        have bD := hD (s2 183 (m : Int)) (k : Int) ft.1 ft.2 (by omega) (by omega)
        have bV : 0 ≤ yB s L (s2 183 (m : Int)) ∧ yB s L (s2 183 (m : Int)) < 10000000000000 := by
          have u1 := hD (s2 183 (m : Int)) (a9 + 1) ft.1 ft.2 (by omega) (by omega)
          have u2 := wyT_b hD (wyU_T hU) fr.1 (by omega) p0 p1 p2_
          omega
        have eB : s2 193 (16 * rb L ((k : Int) - 1) + (k : Int)) = yB s (rb L ((k : Int) - 1)) (k : Int) := by unfold yB; rw [hF2 193 (by decide)]
        have eV : s2 193 (16 * L + s2 183 (m : Int)) = yB s L (s2 183 (m : Int)) := by unfold yB; rw [hF2 193 (by decide)]
        have ey : my s2 = my s := by funext a b; unfold my; rw [hF2 169 (by decide)]
        refine s_cv [_, _] [] rfl g (Or.inl rfl) rfl rfl (Nat.le_of_ble_eq_true rfl) rfl rfl (t_far (s := s2) g (by omega) (by omega)) ?_
        rintro rv h1 ⟨rfl, rfl⟩
        rw [ey]
        refine s_i2l rfl ⟨by omega, by omega⟩ ?_
        refine am_s rfl rfl ?_
        refine s_gr rfl g rfl rfl ?_
        refine s_k 16 rfl rfl ?_
        refine am_s rfl rfl ?_
        refine s_k 1 rfl rfl ?_
        refine am_s rfl rfl ?_
        refine s_k 1 rfl rfl ?_
        refine s_isub rfl ?_
        refine s_shl1 rfl ⟨by omega, by omega⟩ ?_
        refine s_k (-1) rfl rfl ?_
        refine s_nandb rfl rfl ⟨by omega, by omega⟩ ⟨by omega, by omega⟩ hbk ?_
        refine s_imul rfl ?_
        refine am_s rfl rfl ?_
        refine s_iadd rfl ?_
        refine s_la rfl g rfl ⟨by omega, by omega⟩ (by decide) ?_
        refine s_ladd rfl ?_
        refine am_s rfl rfl ?_
        refine s_gr rfl g rfl rfl ?_
        refine s_k 16 rfl rfl ?_
        refine am_s rfl rfl ?_
        refine s_imul rfl ?_
        refine am_s rfl rfl ?_
        refine s_iadd rfl ?_
        refine s_la rfl g rfl ⟨by omega, by omega⟩ (by decide) ?_
        rw [eB, eV]
        refine s_jeq rfl rfl ⟨by omega, by omega⟩ ⟨by omega, by omega⟩ (fun c2 => ?_) (fun c2 => ?_)
        · have hH : wyH (my s) n (yB s) L (s2 183 (m : Int)) ((k : Int) - 1) := by
            refine ⟨⟨by omega, by omega, hbk⟩, fun b b0 b1 b2 => ?_, fun b b0 b1 b2 => ?_⟩
            · rw [ek]; have := p4 b b0 b1 b2; omega
            · rw [ek]; have := p4 b b0 (by omega) b2; have := hN2 b b0 (by omega) b2; omega
          refine am_s rfl rfl ?_
          refine s_gr rfl g rfl rfl ?_
          refine am_s rfl rfl ?_
          refine am_s rfl rfl ?_
          refine s_is rfl g rfl ⟨by omega, by omega⟩ (by decide) ?_
          refine am_s rfl rfl ?_
          refine s_k 1 rfl rfl ?_
          refine am_s rfl rfl ?_
          refine s_k 1 rfl rfl ?_
          refine s_isub rfl ?_
          refine s_shl1 rfl ⟨by omega, by omega⟩ ?_
          refine s_k (-1) rfl rfl ?_
          refine s_nandb rfl rfl ⟨by omega, by omega⟩ ⟨by omega, by omega⟩ hbk ?_
          refine am_s rfl rfl ?_
          refine s_inc rfl rfl ?_
          refine am_s rfl rfl ?_
          have eo : ((m + 1 : Nat) : Int) + 1 = ((m + 1 + 1 : Nat) : Int) := by omega
          rw [eo]
          refine am_lv [(4, _), (2, _), (1, _), (0, _)] rfl rfl ⟨rfl, rfl, rfl, rfl, trivial⟩ ?_
          refine kk (rb L ((k : Int) - 1)) _ ⟨fun q hq => by rw [am_w_row (fun z => hq (by simp [z]))]; exact hF2 q hq, ?_⟩
          rw [show m + 1 + 1 - 1 = m + 1 from rfl]
          refine ⟨L, wyr_c (fun j j0 j1 => ?_) hW, ?_, ?_⟩
          · rw [am_w_x (by omega)]
          · rw [am_w_x (by omega), am_w_eq]; exact hH
          · rw [am_w_eq]
        · refine s_inc rfl rfl ?_
          refine am_s rfl rfl ?_
          refine am_lv [(6, _), (5, _), (4, _), (2, _), (1, _), (0, _)] rfl rfl ⟨rfl, rfl, rfl, rfl, rfl, rfl, trivial⟩ ?_
          have ek2 : (k : Int) + 1 = ((k + 1 : Nat) : Int) := by omega
          rw [ek2]
          refine kk2 () _ ⟨rfl, fun b b0 b1 b2 => ?_⟩
          by_cases e : b = (k : Int) - 1
          · rw [e] at b2 ⊢; first | omega | (rw [ek]; omega)
          · exact hN2 b b0 (by omega) b2
    · rintro - s3 ⟨rfl, hN2⟩
      try simp only
      have e9 : (((a9 + 1).toNat : Nat) : Int) - 1 = a9 := by omega
      have hb9 : bt L ((((a9 + 1).toNat : Nat) : Int) - 1) = 1 := by rw [e9]; exact p2_
      have hv9 : my s (s2 183 (m : Int)) (((a9 + 1).toNat : Nat) : Int) + yB s (rb L ((((a9 + 1).toNat : Nat) : Int) - 1)) (((a9 + 1).toNat : Nat) : Int) = yB s L (s2 183 (m : Int)) := by
        rw [e9, show (((a9 + 1).toNat : Nat) : Int) = a9 + 1 by omega]; exact p3.symm
      have hb01 := bt_01 L ((((a9 + 1).toNat : Nat) : Int) - 1)
      have ek : (((a9 + 1).toNat : Nat) : Int) - 1 + 1 = (((a9 + 1).toNat : Nat) : Int) := by omega
      refine am_s rfl rfl ?_
      refine am_s rfl rfl ?_
      refine s_k 1 rfl rfl ?_
      refine s_isub rfl ?_
      refine s_bit rfl rfl rfl ⟨by omega, by omega⟩ ⟨by omega, by omega⟩ ?_
      refine s_zeq rfl ⟨by omega, by omega⟩ (fun c1 => absurd c1 (by omega)) (fun c1 => ?_)
      refine am_s rfl rfl ?_
      refine am_s rfl rfl ?_
      refine am_s rfl rfl ?_
      have hbk : bt L ((((a9 + 1).toNat : Nat) : Int) - 1) = 1 := by omega
      have q := rb_lt fr.1 hbk
      have bB := wyT_b hD (wyU_T hU) fr.1 (by omega) (a := (((a9 + 1).toNat : Nat) : Int) - 1) (by omega) (by omega) hbk
      rw [ek] at bB
      have bD := hD (s2 183 (m : Int)) (((a9 + 1).toNat : Nat) : Int) ft.1 ft.2 (by omega) (by omega)
      have bV : 0 ≤ yB s L (s2 183 (m : Int)) ∧ yB s L (s2 183 (m : Int)) < 10000000000000 := by
        have u1 := hD (s2 183 (m : Int)) (a9 + 1) ft.1 ft.2 (by omega) (by omega)
        have u2 := wyT_b hD (wyU_T hU) fr.1 (by omega) p0 p1 p2_
        omega
      have eB : s2 193 (16 * rb L ((((a9 + 1).toNat : Nat) : Int) - 1) + (((a9 + 1).toNat : Nat) : Int)) = yB s (rb L ((((a9 + 1).toNat : Nat) : Int) - 1)) (((a9 + 1).toNat : Nat) : Int) := by unfold yB; rw [hF2 193 (by decide)]
      have eV : s2 193 (16 * L + s2 183 (m : Int)) = yB s L (s2 183 (m : Int)) := by unfold yB; rw [hF2 193 (by decide)]
      have ey : my s2 = my s := by funext a b; unfold my; rw [hF2 169 (by decide)]
      refine s_cv [_, _] [] rfl g (Or.inl rfl) rfl rfl (Nat.le_of_ble_eq_true rfl) rfl rfl (t_far (s := s2) g (by omega) (by omega)) ?_
      rintro rv h1 ⟨rfl, rfl⟩
      rw [ey]
      refine s_i2l rfl ⟨by omega, by omega⟩ ?_
      refine am_s rfl rfl ?_
      refine s_gr rfl g rfl rfl ?_
      refine s_k 16 rfl rfl ?_
      refine am_s rfl rfl ?_
      refine s_k 1 rfl rfl ?_
      refine am_s rfl rfl ?_
      refine s_k 1 rfl rfl ?_
      refine s_isub rfl ?_
      refine s_shl1 rfl ⟨by omega, by omega⟩ ?_
      refine s_k (-1) rfl rfl ?_
      refine s_nandb rfl rfl ⟨by omega, by omega⟩ ⟨by omega, by omega⟩ hbk ?_
      refine s_imul rfl ?_
      refine am_s rfl rfl ?_
      refine s_iadd rfl ?_
      refine s_la rfl g rfl ⟨by omega, by omega⟩ (by decide) ?_
      refine s_ladd rfl ?_
      refine am_s rfl rfl ?_
      refine s_gr rfl g rfl rfl ?_
      refine s_k 16 rfl rfl ?_
      refine am_s rfl rfl ?_
      refine s_imul rfl ?_
      refine am_s rfl rfl ?_
      refine s_iadd rfl ?_
      refine s_la rfl g rfl ⟨by omega, by omega⟩ (by decide) ?_
      rw [eB, eV]
      refine s_jeq rfl rfl ⟨by omega, by omega⟩ ⟨by omega, by omega⟩ (fun c2 => ?_) (fun c2 => absurd c2 (by omega))
      have hH : wyH (my s) n (yB s) L (s2 183 (m : Int)) ((((a9 + 1).toNat : Nat) : Int) - 1) := by
        refine ⟨⟨by omega, by omega, hbk⟩, fun b b0 b1 b2 => ?_, fun b b0 b1 b2 => ?_⟩
        · rw [ek]; have := p4 b b0 b1 b2; omega
        · rw [ek]; have := p4 b b0 (by omega) b2; have := hN2 b b0 (by omega) b2; omega
      refine am_s rfl rfl ?_
      refine s_gr rfl g rfl rfl ?_
      refine am_s rfl rfl ?_
      refine am_s rfl rfl ?_
      refine s_is rfl g rfl ⟨by omega, by omega⟩ (by decide) ?_
      refine am_s rfl rfl ?_
      refine s_k 1 rfl rfl ?_
      refine am_s rfl rfl ?_
      refine s_k 1 rfl rfl ?_
      refine s_isub rfl ?_
      refine s_shl1 rfl ⟨by omega, by omega⟩ ?_
      refine s_k (-1) rfl rfl ?_
      refine s_nandb rfl rfl ⟨by omega, by omega⟩ ⟨by omega, by omega⟩ hbk ?_
      refine am_s rfl rfl ?_
      refine s_inc rfl rfl ?_
      refine am_s rfl rfl ?_
      have eo : ((m + 1 : Nat) : Int) + 1 = ((m + 1 + 1 : Nat) : Int) := by omega
      rw [eo]
      refine am_lv [(4, _), (2, _), (1, _), (0, _)] rfl rfl ⟨rfl, rfl, rfl, rfl, trivial⟩ ?_
      refine kk (rb L ((((a9 + 1).toNat : Nat) : Int) - 1)) _ ⟨fun q hq => by rw [am_w_row (fun z => hq (by simp [z]))]; exact hF2 q hq, ?_⟩
      rw [show m + 1 + 1 - 1 = m + 1 from rfl]
      refine ⟨L, wyr_c (fun j j0 j1 => ?_) hW, ?_, ?_⟩
      · rw [am_w_x (by omega)]
      · rw [am_w_x (by omega), am_w_eq]; exact hH
      · rw [am_w_eq]
  · rintro L s2 ⟨hF2, hW⟩
    try simp only
    have e1 : s2 168 1 = n := by rw [hF2 168 (by decide)]; exact en
    refine am_s rfl rfl ?_
    refine am_s rfl rfl ?_
    refine s_gi (x := 1) rfl g rfl rfl rfl ?_
    refine s_cge rfl ⟨by omega, by omega⟩ ⟨by omega, by omega⟩ (fun c1 => ?_) (fun c1 => absurd c1 (by omega))
    refine am_s rfl rfl ?_
    refine s_k 1 rfl rfl ?_
    refine s_pi (x := 29) rfl g rfl rfl rfl rfl ?_
    refine am_s rfl rfl ?_
    exact am_r rfl rfl (by have we := wyr_end (by omega) eN (wyU_T hU) h0 hW; rw [← we.2]; exact hPP _ ⟨fun q hq => by rw [am_w_row (fun z => hq (by simp [z]))]; exact hF2 q (fun z => hq (by simp at z; simp [z])), fun y hy => by rw [am_w_x (fun z => hy (by simp [z])), hF2 168 (by decide)]⟩ (am_w_eq _ _ _ _) ⟨_, L, by rw [← eN]; exact wyU_T hU, by rw [← eN, am_w_row (by decide)]; exact hW⟩)
