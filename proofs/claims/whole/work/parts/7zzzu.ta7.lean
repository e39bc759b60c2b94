/-! best of the other one: the table of ways -/
def yB (s : am_S) : Int → Int → Int := fun S c => s 193 (16 * S + c)
def wyU (D : Int → Int → Int) (n : Int) (B : Int → Int → Int) (m : Int) : Prop := ∀ S c, 0 ≤ S → S < m → 0 ≤ c → c < n → wyA D n B S c (B S c)
theorem wyU_T {D : Int → Int → Int} {n m : Int} {B : Int → Int → Int} (h : wyU D n B m) : wyT D n B m := fun S c s0 s1 c0 c1 _ => h S c s0 s1 (by omega) c1
theorem wyU_cg {D : Int → Int → Int} {n m : Int} {B B2 : Int → Int → Int} (hB : ∀ S c, 0 ≤ S → S < m → 0 ≤ c → c < n → B S c = B2 S c) (h : wyU D n B m) : wyU D n B2 m := fun S c s0 s1 c0 c1 => by
  rw [← hB S c s0 s1 c0 c1]
  refine wyA_c (fun _ _ _ _ _ _ => rfl) ⟨by omega, c1⟩ (fun a a0 a1 a2 => ?_) (h S c s0 s1 c0 c1)
  have q := rb_lt s0 a2
  exact hB _ _ q.1 (by omega) (by omega) a1
theorem yB_w {s : am_S} {K j v S c : Int} (j0 : 0 ≤ j ∧ j < 16) (c0 : 0 ≤ c ∧ c < 16) : yB (am_w s 193 (16 * K + j) v) S c = if S = K ∧ c = j then v else yB s S c := by
  unfold yB am_w
  by_cases z : S = K ∧ c = j
  · rw [if_pos z, if_pos ⟨rfl, by rw [z.1, z.2]⟩]
  · rw [if_neg z, if_neg (fun y => z (by omega))]
def wyQ (D : Int → Int → Int) (B : Int → Int → Int) (K c k x : Int) : Prop := (K = 0 ∧ x = D c 0) ∨ (K ≠ 0 ∧ ((x = -1 ∧ ∀ b, 0 ≤ b → b < k → bt K b = 0) ∨ ∃ a, wyP D B K c k x a))
theorem t_bM74 {d : Nat} {E : am_Ev} {s : am_S} {n K j x0 : Int} {P : Option Value → am_H → Prop} (g : am_Eg E) (hn : 1 ≤ n ∧ n ≤ 11) (en : s 168 1 = n) (hj : 0 ≤ j ∧ j < n) (hK : 0 ≤ K ∧ K < p2 (n - 1)) (hD : ∀ a b, 0 ≤ a → a < n → 0 ≤ b → b < n → 0 ≤ my s a b ∧ my s a b < 2147483648) (hT : wyU (my s) n (yB s) K) (h0 : (K = 0 ∧ x0 = my s j 0) ∨ (K ≠ 0 ∧ x0 = -1)) (hP : ∀ x, wyA (my s) n (yB s) K j x → am_wp (d + 1) 213 153 [(3, .long (lI x)), (2, .int (iI j)), (1, .int (iI K)), (0, .ref 168)] [] (am_hp E s) P) : am_wp (d + 1) 213 74 [(5, .int (iI (((1 : Nat) : Int) : Int))), (3, .long (lI x0)), (2, .int (iI j)), (1, .int (iI K)), (0, .ref 168)] [] (am_hp E s) P := by
  have hk := p2_k hn
  refine s_loop (X := Int) (fun k x s' => s = s' ∧ wyQ (my s) (yB s) K j ((k : Int) - 1) x) (fun k x => [(5, .int (iI (k : Int))), (3, .long (lI x)), (2, .int (iI j)), (1, .int (iI K)), (0, .ref 168)]) (lo := 1) (hi := n.toNat) (x := x0) (by omega) ⟨rfl, ?_⟩ ?_ ?_
  · rcases h0 with z | z
    · exact Or.inl z
    · exact Or.inr ⟨z.1, Or.inl ⟨z.2, fun b b0 b1 => by omega⟩⟩
  · rintro k x s1 hk0 hk1 ⟨rfl, hQ⟩ kk
    try simp only at kk ⊢
    have hb01 := bt_01 K ((k : Int) - 1)
    have ek : (k : Int) - 1 + 1 = (k : Int) := by omega
    have hxQ : -1 ≤ x ∧ x < 10000000000000 := by
      rcases hQ with ⟨z, y⟩ | ⟨z, ⟨y, -⟩ | ⟨a, ⟨a0, a1, a2, y⟩, -⟩⟩
      · have := hD j 0 hj.1 hj.2 (by omega) (by omega); omega
      · omega
      · have b1 := wyT_b hD (wyU_T hT) hK.1 (Int.le_refl K) a0 (by omega) a2
        have b2 := hD j (a + 1) hj.1 hj.2 (by omega) (by omega)
        omega
    refine am_s rfl rfl ?_
    refine am_s rfl rfl ?_
    refine s_gi (x := 1) rfl g rfl rfl rfl ?_
    refine s_cge rfl ⟨by omega, by omega⟩ ⟨by omega, by omega⟩ (fun c1 => absurd c1 (by omega)) (fun c1 => ?_)
    refine am_s rfl rfl ?_
    refine am_s rfl rfl ?_
    refine s_k 1 rfl rfl ?_
    refine s_isub rfl ?_
    refine s_bit rfl rfl rfl ⟨by omega, by omega⟩ ⟨by omega, by omega⟩ ?_
    refine s_k 1 rfl rfl ?_
    refine s_cne rfl ⟨by omega, by omega⟩ ⟨by omega, by omega⟩ (fun c2 => ?_) (fun c2 => ?_)
    · refine s_inc rfl rfl ?_
      refine am_s rfl rfl ?_
      refine am_lv [(5, _), (3, _), (2, _), (1, _), (0, _)] rfl rfl ⟨rfl, rfl, rfl, rfl, rfl, trivial⟩ ?_
      have ek2 : (k : Int) + 1 = ((k + 1 : Nat) : Int) := by omega
      rw [ek2]
      refine kk x _ ⟨rfl, ?_⟩
      rcases hQ with z | ⟨z, ⟨y, h⟩ | ⟨a, ⟨a0, a1, a2⟩, h2, h3⟩⟩
      · exact Or.inl z
      · refine Or.inr ⟨z, Or.inl ⟨y, fun b b0 b1 => ?_⟩⟩
        by_cases e : b = (k : Int) - 1
        · rw [e]; omega
        · exact h b b0 (by omega)
      · refine Or.inr ⟨z, Or.inr ⟨a, ⟨a0, by omega, a2⟩, fun b b0 b1 b2 => ?_, h3⟩⟩
        by_cases e : b = (k : Int) - 1
        · rw [e] at b2; omega
        · exact h2 b b0 (by omega) b2
    · refine am_s rfl rfl ?_
      refine am_s rfl rfl ?_
      refine am_s rfl rfl ?_
      have hbk : bt K ((k : Int) - 1) = 1 := by omega
      have kz : K ≠ 0 := fun z => by rw [z, bt_zz] at hbk; omega
      have q := rb_lt hK.1 hbk
      have bB := wyT_b hD (wyU_T hT) hK.1 (Int.le_refl K) (a := (k : Int) - 1) (by omega) (by omega) hbk
      have bD := hD j (k : Int) hj.1 hj.2 (by omega) (by omega)
      rw [ek] at bB
      have eB : s 193 (16 * rb K ((k : Int) - 1) + (k : Int)) = yB s (rb K ((k : Int) - 1)) (k : Int) := rfl
      refine s_cv [_, _] [] rfl g (Or.inl rfl) rfl rfl (Nat.le_of_ble_eq_true rfl) rfl rfl (t_far (s := s) g (by omega) (by omega)) ?_
      rintro rv h1 ⟨rfl, rfl⟩
      refine s_i2l rfl ⟨by omega, by omega⟩ ?_
      refine am_s rfl rfl ?_
      refine s_gr rfl g rfl rfl ?_
      refine s_k 16 rfl rfl ?_
      refine am_s rfl rfl ?_
      refine s_k 1 rfl rfl ?_
      refine am_s rfl rfl ?_
      refine s_k 1 rfl rfl ?_
      refine s_isub rfl ?_
      refine s_shl1 rfl ⟨by omega, by omega⟩ ?_
      refine s_k (-1) rfl rfl ?_
      refine s_nandb rfl rfl ⟨by omega, by omega⟩ ⟨by omega, by omega⟩ hbk ?_
      refine s_imul rfl ?_
      refine am_s rfl rfl ?_
      refine s_iadd rfl ?_
      refine s_la rfl g rfl ⟨by omega, by omega⟩ (by decide) ?_
      refine s_ladd rfl ?_
      refine am_s rfl rfl ?_
      refine am_s rfl rfl ?_
      refine s_kl 0 rfl rfl ?_
      refine s_jlt rfl rfl ⟨by omega, by omega⟩ ⟨by omega, by omega⟩ (fun c3 => ?_) (fun c3 => ?_)
      · refine am_s rfl rfl ?_
        refine am_s rfl rfl ?_
        refine am_s rfl rfl ?_
        refine s_inc rfl rfl ?_
        refine am_s rfl rfl ?_
        refine am_lv [(5, _), (3, _), (2, _), (1, _), (0, _)] rfl rfl ⟨rfl, rfl, rfl, rfl, rfl, trivial⟩ ?_
        have ek2 : (k : Int) + 1 = ((k + 1 : Nat) : Int) := by omega
        rw [ek2]
        refine kk _ _ ⟨rfl, Or.inr ⟨kz, Or.inr ⟨(k : Int) - 1, ⟨by omega, by omega, hbk, by rw [ek, eB]⟩, fun b b0 b1 b2 => ?_, fun b b0 b1 b2 => ?_⟩⟩⟩
        · by_cases e : b = (k : Int) - 1
          · rw [e, ek, eB]; omega
          · rw [eB]
            rcases hQ with ⟨z, -⟩ | ⟨z, ⟨y, h⟩ | ⟨a, ⟨a0, a1, a2, a3⟩, h2, h3⟩⟩
            · exact absurd z kz
            · have := h b b0 (by omega); omega
            · have := h2 b b0 (by omega) b2
              have b1 := wyT_b hD (wyU_T hT) hK.1 (Int.le_refl K) a0 (by omega) a2
              have b2 := hD j (a + 1) hj.1 hj.2 (by omega) (by omega)
              omega
        · rw [eB]
          rcases hQ with ⟨z, -⟩ | ⟨z, ⟨y, h⟩ | ⟨a, ⟨a0, a1, a2, a3⟩, h2, h3⟩⟩
          · exact absurd z kz
          · have := h b b0 (by omega); omega
          · have := h2 b b0 (by omega) b2
            have b1 := wyT_b hD (wyU_T hT) hK.1 (Int.le_refl K) a0 (by omega) a2
            have b2 := hD j (a + 1) hj.1 hj.2 (by omega) (by omega)
            omega
      · refine am_s rfl rfl ?_
        refine am_s rfl rfl ?_
        refine s_jge rfl rfl ⟨by omega, by omega⟩ ⟨by omega, by omega⟩ (fun c4 => ?_) (fun c4 => ?_)
        · refine am_s rfl rfl ?_
          refine am_s rfl rfl ?_
          refine s_inc rfl rfl ?_
          refine am_s rfl rfl ?_
          refine am_lv [(5, _), (3, _), (2, _), (1, _), (0, _)] rfl rfl ⟨rfl, rfl, rfl, rfl, rfl, trivial⟩ ?_
          have ek2 : (k : Int) + 1 = ((k + 1 : Nat) : Int) := by omega
          rw [ek2]
          refine kk x _ ⟨rfl, Or.inr ⟨kz, Or.inr ?_⟩⟩
          rcases hQ with ⟨z, -⟩ | ⟨z, ⟨y, h⟩ | ⟨a, ⟨a0, a1, a2⟩, h2, h3⟩⟩
          · exact absurd z kz
          · omega
          · refine ⟨a, ⟨a0, by omega, a2⟩, fun b b0 b1 b2 => ?_, h3⟩
            by_cases e : b = (k : Int) - 1
            · rw [e, ek]; omega
            · exact h2 b b0 (by omega) b2
        · refine am_s rfl rfl ?_
          refine am_s rfl rfl ?_
          refine am_s rfl rfl ?_
          refine s_inc rfl rfl ?_
          refine am_s rfl rfl ?_
          refine am_lv [(5, _), (3, _), (2, _), (1, _), (0, _)] rfl rfl ⟨rfl, rfl, rfl, rfl, rfl, trivial⟩ ?_
          have ek2 : (k : Int) + 1 = ((k + 1 : Nat) : Int) := by omega
          rw [ek2]
          refine kk _ _ ⟨rfl, Or.inr ⟨kz, Or.inr ⟨(k : Int) - 1, ⟨by omega, by omega, hbk, by rw [ek, eB]⟩, fun b b0 b1 b2 => ?_, fun b b0 b1 b2 => ?_⟩⟩⟩
          · by_cases e : b = (k : Int) - 1
            · rw [e, ek, eB]; omega
            · rw [eB]
              rcases hQ with ⟨z, -⟩ | ⟨z, ⟨y, h⟩ | ⟨a, ⟨a0, a1, a2, a3⟩, h2, h3⟩⟩
              · exact absurd z kz
              · have := h b b0 (by omega); omega
              · have := h2 b b0 (by omega) b2
                have b1 := wyT_b hD (wyU_T hT) hK.1 (Int.le_refl K) a0 (by omega) a2
                have b2 := hD j (a + 1) hj.1 hj.2 (by omega) (by omega)
                omega
          · rw [eB]
            rcases hQ with ⟨z, -⟩ | ⟨z, ⟨y, h⟩ | ⟨a, ⟨a0, a1, a2, a3⟩, h2, h3⟩⟩
            · exact absurd z kz
            · have := h b b0 (by omega); omega
            · have := h2 b b0 (by omega) b2
              have b1 := wyT_b hD (wyU_T hT) hK.1 (Int.le_refl K) a0 (by omega) a2
              have b2 := hD j (a + 1) hj.1 hj.2 (by omega) (by omega)
              omega
  · rintro x s1 ⟨rfl, hQ⟩
    try simp only
    refine am_s rfl rfl ?_
    refine am_s rfl rfl ?_
    refine s_gi (x := 1) rfl g rfl rfl rfl ?_
    refine s_cge rfl ⟨by omega, by omega⟩ ⟨by omega, by omega⟩ (fun c1 => ?_) (fun c1 => absurd c1 (by omega))
    refine am_lv [(3, _), (2, _), (1, _), (0, _)] rfl rfl ⟨rfl, rfl, rfl, rfl, trivial⟩ ?_
    refine hP x ?_
    rcases hQ with z | ⟨z, ⟨y, h⟩ | ⟨a, h⟩⟩
    · exact Or.inl z
    · exact absurd (bt_none hK.1 hK.2 (fun b b0 b1 => h b b0 (by omega))) z
    · exact wyP_A (by rw [show n - 1 = ((n.toNat : Nat) : Int) - 1 by omega]; exact h)
