/-! the search of the class -/
def hB (E : am_Ev) (s : am_S) (n : Int) : Int → Int → Int := fun S c => s E.2.2.2.1.1 (S * (n - 1) + (c - 1))
def wyP (D : Int → Int → Int) (B : Int → Int → Int) (S c k x a : Int) : Prop := (0 ≤ a ∧ a < k ∧ bt S a = 1 ∧ x = D c (a + 1) + B (rb S a) (a + 1)) ∧ (∀ b, 0 ≤ b → b < k → bt S b = 1 → x ≤ D c (b + 1) + B (rb S b) (b + 1)) ∧ ∀ b, 0 ≤ b → b < a → bt S b = 1 → x < D c (b + 1) + B (rb S b) (b + 1)
theorem wyP_H {D : Int → Int → Int} {B : Int → Int → Int} {S c n x a : Int} (h : wyP D B S c (n - 1) x a) : wyH D n B S c a := by
  obtain ⟨⟨a0, a1, a2, a3⟩, h2, h3⟩ := h
  rw [a3] at h2 h3
  exact ⟨⟨a0, by omega, a2⟩, fun b b0 b1 b2 => h2 b b0 (by omega) b2, h3⟩
theorem wyP_A {D : Int → Int → Int} {B : Int → Int → Int} {S c n x a : Int} (h : wyP D B S c (n - 1) x a) : wyA D n B S c x := by
  obtain ⟨⟨a0, a1, a2, a3⟩, h2, h3⟩ := h
  refine Or.inr ⟨fun z => ?_, ⟨a, a0, by omega, a2, a3⟩, fun b b0 b1 b2 => h2 b b0 (by omega) b2⟩
  rw [z, bt_zz] at a2; omega
theorem ix_r {q P a o H : Int} (q0 : 0 ≤ q) (q1 : q < P) (a0 : 0 ≤ a) (a1 : a < o) (h : P * o ≤ H) : 0 ≤ q * o + a ∧ q * o + a < H := by
  have h1 : 0 ≤ q * o := Int.mul_nonneg q0 (by omega)
  have h2 : (q + 1) * o ≤ P * o := Int.mul_le_mul_of_nonneg_right (by omega) (by omega)
  rw [Int.add_mul] at h2
  omega
theorem p2_k {n : Int} (h : 1 ≤ n ∧ n ≤ 11) : p2 (n - 1) ≤ 1024 := by
  unfold p2
  have : 2 ^ (n - 1).toNat ≤ 2 ^ 10 := Nat.pow_le_pow_right (by decide) (by omega)
  omega
theorem t_leastHome {d : Nat} {E : am_Ev} {s : am_S} {n S c : Int} (g : am_Eg E) (gd : am_Ed E) (hn : 1 ≤ n ∧ n ≤ 11) (hD : ∀ a b, 0 ≤ a → a < n → 0 ≤ b → b < n → 0 ≤ mx s a b ∧ mx s a b < 2147483648) (ho : s 158 1 = n - 1) (hz : p2 (n - 1) * (n - 1) ≤ E.2.2.2.1.2) (hc : 0 ≤ c ∧ c < n) (hS : 0 ≤ S ∧ S < p2 (n - 1)) (hT : wyT (mx s) n (hB E s n) S) : am_wp d 80 0 (lv_args 0 [.ref 158, .ref (26 + 1 + c.toNat), .int (iI S)]) [] (am_hp E s) (fun rv h => ∃ v s1, rv = some (.long (lI v)) ∧ h = am_hp E s1 ∧ am_Fr [158] s s1 ∧ s1 158 1 = s 158 1 ∧ wyA (mx s) n (hB E s n) S c v ∧ (S ≠ 0 → wyH (mx s) n (hB E s n) S c (s1 158 2))) := by
  have hk := p2_k hn
  refine am_s rfl rfl ?_
  refine s_zne rfl ⟨by omega, by omega⟩ (fun c1 => ?_) (fun c1 => ?_)
  · refine s_kl 9223372036854775807 rfl rfl ?_
    refine am_s rfl rfl ?_
    refine s_k 0 rfl rfl ?_
    refine am_s rfl rfl ?_
    refine am_lv [(5, .int (iI (((0 : Nat) : Int) : Int))), (3, .long (lI 9223372036854775807)), (2, .int (iI S)), (1, .ref (26 + 1 + c.toNat)), (0, .ref 158)] rfl rfl ⟨rfl, rfl, rfl, rfl, rfl, trivial⟩ ?_
    refine s_loop (X := Int) (fun k x s' => am_Fr [158] s s' ∧ s' 158 1 = s 158 1 ∧ ((x = 9223372036854775807 ∧ ∀ b, 0 ≤ b → b < (k : Int) → bt S b = 0) ∨ wyP (mx s) (hB E s n) S c (k : Int) x (s' 158 2))) (fun k x => [(5, .int (iI (k : Int))), (3, .long (lI x)), (2, .int (iI S)), (1, .ref (26 + 1 + c.toNat)), (0, .ref 158)]) (hi := (n - 1).toNat) (x := 9223372036854775807) (Nat.zero_le _) ⟨fun _ _ => rfl, rfl, Or.inl ⟨rfl, fun b b0 b1 => by omega⟩⟩ ?_ ?_
    · rintro k x s1 hk0 hk1 ⟨hF, hO, hI⟩ kk
      simp only at kk ⊢
      have e1 : s1 158 1 = n - 1 := hO.trans ho
      have hb01 := bt_01 S (k : Int)
      have er : s1 (26 + 1 + c.toNat) = s (26 + 1 + c.toNat) := hF _ (fun z => by simp at z; omega)
      have eh : s1 E.2.2.2.1.1 = s E.2.2.2.1.1 := hF _ (fun z => by simp at z; exact lo_ne gd.h0 (show am_lo 158 = _ from rfl) z)
      have hxQ : am_Q x := by
        rcases hI with ⟨z, -⟩ | ⟨⟨a0, a1, a2, z⟩, -⟩
        · rw [z]; exact ⟨by decide, by decide⟩
        · have b1 := wyT_b hD hT hS.1 (Int.le_refl S) a0 (by omega) a2
          have b2 := hD c _ hc.1 hc.2 (show 0 ≤ s1 158 2 + 1 by omega) (by omega)
          exact ⟨by omega, by omega⟩
      refine am_s rfl rfl ?_
      refine am_s rfl rfl ?_
      refine s_gi (x := 1) rfl g rfl rfl rfl ?_
      refine s_cge rfl ⟨by omega, by omega⟩ ⟨by omega, by omega⟩ (fun c1 => absurd c1 (by omega)) (fun c1 => ?_)
      refine am_s rfl rfl ?_
      refine am_s rfl rfl ?_
      refine s_bit rfl rfl rfl ⟨by omega, by omega⟩ ⟨by omega, by omega⟩ ?_
      refine s_zeq rfl ⟨by omega, by omega⟩ (fun c2 => ?_) (fun c2 => ?_)
      · refine s_inc rfl rfl ?_
        refine am_s rfl rfl ?_
        refine am_lv [(5, _), (3, _), (2, _), (1, _), (0, _)] rfl rfl ⟨rfl, rfl, rfl, rfl, rfl, trivial⟩ ?_
        refine kk x _ ⟨hF, hO, ?_⟩
        rcases hI with ⟨z, h⟩ | ⟨z, h2, h3⟩
        · exact Or.inl ⟨z, fun b b0 b1 => by
            by_cases e : b = (k : Int)
            · rw [e]; omega
            · exact h b b0 (by omega)⟩
        · exact Or.inr ⟨⟨z.1, by omega, z.2.2⟩, fun b b0 b1 b2 => by
            by_cases e : b = (k : Int)
            · rw [e] at b2; omega
            · exact h2 b b0 (by omega) b2, h3⟩
      · have hbk : bt S (k : Int) = 1 := by
          rcases bt_01 S (k : Int) with z | z
          · exact absurd z c2
          · exact z
        have q := rb_lt hS.1 hbk
        have bB := wyT_b hD hT hS.1 (Int.le_refl S) (a := (k : Int)) (by omega) (by omega) hbk
        have bD := hD c ((k : Int) + 1) hc.1 hc.2 (by omega) (by omega)
        have ix := ix_r (q := rb S (k : Int)) (P := p2 (n - 1)) (a := (k : Int)) (o := n - 1) (H := E.2.2.2.1.2) q.1 (by omega) (by omega) (by omega) hz
        have eD : s1 (26 + 1 + c.toNat) ((k : Int) + 1) = mx s c ((k : Int) + 1) := by rw [er]; rfl
        have eB : s1 E.2.2.2.1.1 (rb S (k : Int) * s1 158 1 + (k : Int)) = hB E s n (rb S (k : Int)) ((k : Int) + 1) := by
          unfold hB
          rw [eh, e1, show (k : Int) + 1 - 1 = (k : Int) by omega]
        refine am_s rfl rfl ?_
        refine am_s rfl rfl ?_
        refine s_k 1 rfl rfl ?_
        refine s_iadd rfl ?_
        refine s_ia rfl g (lo_26 (by omega) (by omega)) ⟨by omega, by omega⟩ (by decide) ?_
        refine s_i2l rfl ⟨by rw [eD]; omega, by rw [eD]; omega⟩ ?_
        refine am_s rfl rfl ?_
        refine s_g6 rfl g rfl rfl ?_
        refine am_s rfl rfl ?_
        refine s_k 1 rfl rfl ?_
        refine am_s rfl rfl ?_
        refine s_shl1 rfl ⟨by omega, by omega⟩ ?_
        refine s_xorb rfl ⟨by omega, by omega⟩ ⟨by omega, by omega⟩ ?_
        refine am_s rfl rfl ?_
        refine s_gi (x := 1) rfl g rfl rfl rfl ?_
        refine s_imul rfl ?_
        refine am_s rfl rfl ?_
        refine s_iadd rfl ?_
        refine s_laH rfl gd ⟨by rw [e1]; exact ix.1, by rw [e1]; exact ix.2⟩ ?_
        refine s_ladd rfl ?_
        refine am_s rfl rfl ?_
        rw [eD, eB]
        refine am_s rfl rfl ?_
        refine am_s rfl rfl ?_
        refine s_jge rfl rfl ⟨by omega, by omega⟩ hxQ (fun c3 => ?_) (fun c3 => ?_)
        · refine s_inc rfl rfl ?_
          refine am_s rfl rfl ?_
          refine am_lv [(5, _), (3, _), (2, _), (1, _), (0, _)] rfl rfl ⟨rfl, rfl, rfl, rfl, rfl, trivial⟩ ?_
          refine kk x _ ⟨hF, hO, Or.inr ?_⟩
          rcases hI with ⟨z, h⟩ | ⟨z, h2, h3⟩
          · omega
          · exact ⟨⟨z.1, by omega, z.2.2⟩, fun b b0 b1 b2 => by
              by_cases e : b = (k : Int)
              · rw [e]; omega
              · exact h2 b b0 (by omega) b2, h3⟩
        · refine am_s rfl rfl ?_
          refine am_s rfl rfl ?_
          refine am_s rfl rfl ?_
          refine am_s rfl rfl ?_
          refine s_pi (x := 2) rfl g rfl rfl rfl rfl ?_
          refine s_inc rfl rfl ?_
          refine am_s rfl rfl ?_
          refine am_lv [(5, _), (3, _), (2, _), (1, _), (0, _)] rfl rfl ⟨rfl, rfl, rfl, rfl, rfl, trivial⟩ ?_
          refine kk _ _ ⟨fun q hq => by rw [am_w_row (fun z => hq (by simp [z]))]; exact hF q hq, by rw [am_w_x (by decide)]; exact hO, Or.inr ?_⟩
          rw [am_w_eq]
          refine ⟨⟨by omega, by omega, hbk, rfl⟩, fun b b0 b1 b2 => ?_, fun b b0 b1 b2 => ?_⟩
          · by_cases e : b = (k : Int)
            · rw [e]; omega
            · rcases hI with ⟨z, h⟩ | ⟨z, h2, h3⟩
              · have := h b b0 (by omega); omega
              · have := h2 b b0 (by omega) b2; omega
          · rcases hI with ⟨z, h⟩ | ⟨z, h2, h3⟩
            · have := h b b0 b1; omega
            · have := h2 b b0 b1 b2; omega
    · rintro x s1 ⟨hF, hO, hI⟩
      simp only
      have e1 : s1 158 1 = n - 1 := hO.trans ho
      rw [show (((n - 1).toNat : Nat) : Int) = n - 1 by omega] at hI ⊢
      replace hI : wyP (mx s) (hB E s n) S c (n - 1) x (s1 158 2) := by
        rcases hI with ⟨z, h⟩ | h
        · exact absurd (bt_none hS.1 hS.2 (fun b b0 b1 => h b b0 (by omega))) c1
        · exact h
      refine am_s rfl rfl ?_
      refine am_s rfl rfl ?_
      refine s_gi (x := 1) rfl g rfl rfl rfl ?_
      refine s_cge rfl ⟨by omega, by omega⟩ ⟨by omega, by omega⟩ (fun c1 => ?_) (fun c1 => absurd c1 (by omega))
      refine am_s rfl rfl ?_
      exact am_r rfl rfl ⟨_, s1, rfl, rfl, hF, hO, wyP_A hI, fun _ => wyP_H hI⟩
  · refine am_s rfl rfl ?_
    refine s_k 0 rfl rfl ?_
    refine s_ia rfl g (lo_26 (by omega) (by omega)) ⟨by omega, by omega⟩ (by decide) ?_
    refine s_i2l rfl ⟨by have := hD c 0 hc.1 hc.2 (by omega) (by omega); unfold mx at this; omega, by have := hD c 0 hc.1 hc.2 (by omega) (by omega); unfold mx at this; omega⟩ ?_
    exact am_r rfl rfl ⟨_, s, rfl, rfl, fun _ _ => rfl, rfl, Or.inl ⟨by omega, rfl⟩, fun z => absurd (by omega) z⟩
