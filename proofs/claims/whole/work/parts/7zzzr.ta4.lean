/-! the ways home are filled -/
theorem wyT_cg {D D2 : Int → Int → Int} {n m : Int} {B B2 : Int → Int → Int} (hD : ∀ a b, 0 ≤ a → a < n → 0 ≤ b → b < n → D a b = D2 a b) (hB : ∀ S c, 0 ≤ S → S < m → 1 ≤ c → c < n → B S c = B2 S c) (h : wyT D n B m) : wyT D2 n B2 m := fun S c s0 s1 c0 c1 hb => by
  rw [← hB S c s0 s1 c0 c1]
  refine wyA_c hD ⟨by omega, c1⟩ (fun a a0 a1 a2 => ?_) (h S c s0 s1 c0 c1 hb)
  have q := rb_lt s0 a2
  exact hB _ _ q.1 (by omega) (by omega) a1
theorem ix_ne {S K a b o : Int} (a0 : 0 ≤ a) (a1 : a < o) (b0 : 0 ≤ b) (b1 : b < o) (h : S * o + a = K * o + b) : S = K ∧ a = b := by
  rcases Int.lt_trichotomy S K with z | z | z
  · have h2 : (S + 1) * o ≤ K * o := Int.mul_le_mul_of_nonneg_right (by omega) (by omega)
    rw [Int.add_mul] at h2
    omega
  · subst z; exact ⟨rfl, by omega⟩
  · have h2 : (K + 1) * o ≤ S * o := Int.mul_le_mul_of_nonneg_right (by omega) (by omega)
    rw [Int.add_mul] at h2
    omega
theorem row_ne {E : am_Ev} (gd : am_Ed E) {a : Int} (a0 : 0 ≤ a) (a1 : a < 20) : 26 + 1 + a.toNat ≠ E.2.2.2.1.1 := fun z => lo_ne gd.h0 (lo_26 a0 a1) z.symm
theorem home_ne {E : am_Ev} (gd : am_Ed E) {q : Nat} {y : am_Ly} (h : am_lo q = some y) : q ≠ E.2.2.2.1.1 := fun z => lo_ne gd.h0 h z.symm
/-- what the search leaves alone -/
def hFr (E : am_Ev) (s s' : am_S) : Prop := (∀ q, q ≠ 158 → q ≠ E.2.2.2.1.1 → s' q = s q) ∧ s' 158 1 = s 158 1
theorem hFr_mx {E : am_Ev} {s s' : am_S} (gd : am_Ed E) (h : hFr E s s') {a b : Int} (a0 : 0 ≤ a) (a1 : a < 20) : mx s' a b = mx s a b := by
  unfold mx
  rw [h.1 _ (by omega) (row_ne gd a0 a1)]
theorem hB_w {E : am_Ev} {s : am_S} {n K j v S c : Int} (j0 : 0 ≤ j) (j1 : j < n - 1) (c0 : 1 ≤ c) (c1 : c < n) : hB E (am_w s E.2.2.2.1.1 (K * (n - 1) + j) v) n S c = if S = K ∧ c = j + 1 then v else hB E s n S c := by
  unfold hB am_w
  by_cases z : S = K ∧ c = j + 1
  · rw [if_pos z, if_pos ⟨rfl, by rw [z.1, z.2]; omega⟩]
  · rw [if_neg z, if_neg (fun y => z (by
      have := ix_ne (a0 := show 0 ≤ c - 1 by omega) (by omega) j0 j1 y.2
      omega))]
theorem t_fill {d : Nat} {E : am_Ev} {s : am_S} {n : Int} (g : am_Eg E) (gd : am_Ed E) (hn : 1 ≤ n ∧ n ≤ 11) (hD : ∀ a b, 0 ≤ a → a < n → 0 ≤ b → b < n → 0 ≤ mx s a b ∧ mx s a b < 2147483648) (ho : s 158 1 = n - 1) (hz : p2 (n - 1) * (n - 1) ≤ E.2.2.2.1.2) : am_wp (d + 1) 79 0 (lv_args 0 [.ref 158, .ref 26]) [] (am_hp E s) (fun rv h => rv = none ∧ ∃ s1, h = am_hp E s1 ∧ hFr E s s1 ∧ wyT (mx s) n (hB E s1 n) (p2 (n - 1))) := by
  have hk := p2_k hn
  have hp := p2_pos (n - 1)
  refine s_k 0 rfl rfl ?_
  refine am_s rfl rfl ?_
  refine am_lv [(2, .int (iI (((0 : Nat) : Int) : Int))), (1, .ref 26), (0, .ref 158)] rfl rfl ⟨rfl, rfl, rfl, trivial⟩ ?_
  refine s_loop (X := Unit) (fun k _ s' => hFr E s s' ∧ wyT (mx s) n (hB E s' n) (k : Int)) (fun k _ => [(2, .int (iI (k : Int))), (1, .ref 26), (0, .ref 158)]) (hi := (p2 (n - 1)).toNat) (x := ()) (Nat.zero_le _) ⟨⟨fun _ _ _ => rfl, rfl⟩, fun S c s0 s1 => by omega⟩ ?_ ?_
  · rintro k - s1 hk0 hk1 ⟨hF, hT⟩ kk
    simp only at kk ⊢
    have e1 : s1 158 1 = n - 1 := hF.2.trans ho
    refine am_s rfl rfl ?_
    refine s_k 1 rfl rfl ?_
    refine am_s rfl rfl ?_
    refine s_gi (x := 1) rfl g rfl rfl rfl ?_
    refine s_shl1 rfl ⟨by omega, by omega⟩ ?_
    rw [e1]
    refine s_cge rfl ⟨by omega, by omega⟩ ⟨by omega, by omega⟩ (fun c1 => absurd c1 (by omega)) (fun c1 => ?_)
    refine s_k 0 rfl rfl ?_
    refine am_s rfl rfl ?_
    refine am_lv [(3, .int (iI (((0 : Nat) : Int) : Int))), (2, .int (iI (k : Int))), (1, .ref 26), (0, .ref 158)] rfl rfl ⟨rfl, rfl, rfl, rfl, trivial⟩ ?_
    refine s_loop (X := Unit) (fun j _ s' => hFr E s s' ∧ wyT (mx s) n (hB E s' n) (k : Int) ∧ ∀ c, 1 ≤ c → c ≤ (j : Int) → bt (k : Int) (c - 1) = 0 → wyA (mx s) n (hB E s' n) (k : Int) c (hB E s' n (k : Int) c)) (fun j _ => [(3, .int (iI (j : Int))), (2, .int (iI (k : Int))), (1, .ref 26), (0, .ref 158)]) (hi := (n - 1).toNat) (x := ()) (Nat.zero_le _) ⟨hF, hT, fun c c0 c1 => by omega⟩ ?_ ?_
    · rintro j - s2 hj0 hj1 ⟨hF2, hT2, hR2⟩ kk2
      simp only at kk2 ⊢
      have e1 : s2 158 1 = n - 1 := hF2.2.trans ho
      have hb01 := bt_01 (k : Int) (j : Int)
      refine am_s rfl rfl ?_
      refine am_s rfl rfl ?_
      refine s_gi (x := 1) rfl g rfl rfl rfl ?_
      refine s_cge rfl ⟨by omega, by omega⟩ ⟨by omega, by omega⟩ (fun c1 => absurd c1 (by omega)) (fun c1 => ?_)
      refine am_s rfl rfl ?_
      refine am_s rfl rfl ?_
      refine s_bit rfl rfl rfl ⟨by omega, by omega⟩ ⟨by omega, by omega⟩ ?_
      refine s_zne rfl ⟨by omega, by omega⟩ (fun c2 => ?_) (fun c2 => ?_)
      · refine s_inc rfl rfl ?_
        refine am_s rfl rfl ?_
        refine am_lv [(3, _), (2, _), (1, _), (0, _)] rfl rfl ⟨rfl, rfl, rfl, rfl, trivial⟩ ?_
        refine kk2 () _ ⟨hF2, hT2, fun c c0 c1 cb => ?_⟩
        by_cases e : c = (j : Int) + 1
        · rw [e, show (j : Int) + 1 - 1 = (j : Int) by omega] at cb; omega
        · exact hR2 c c0 (by omega) cb
      · refine am_s rfl rfl ?_
        refine s_g6 rfl g rfl rfl ?_
        refine am_s rfl rfl ?_
        refine am_s rfl rfl ?_
        refine s_gi (x := 1) rfl g rfl rfl rfl ?_
        refine s_imul rfl ?_
        refine am_s rfl rfl ?_
        refine s_iadd rfl ?_
        refine am_s rfl rfl ?_
        refine am_s rfl rfl ?_
        refine am_s rfl rfl ?_
        refine s_k 1 rfl rfl ?_
        refine s_iadd rfl ?_
        refine s_aa rfl g rfl ⟨by omega, by omega⟩ (by decide) ?_
        refine am_s rfl rfl ?_
        have hD2 : ∀ a b, 0 ≤ a → a < n → 0 ≤ b → b < n → mx s2 a b = mx s a b := fun a b a0 a1 _ _ => hFr_mx gd hF2 a0 (by omega)
        have hDD : ∀ a b, 0 ≤ a → a < n → 0 ≤ b → b < n → 0 ≤ mx s2 a b ∧ mx s2 a b < 2147483648 := fun a b a0 a1 b0 b1 => by rw [hD2 a b a0 a1 b0 b1]; exact hD a b a0 a1 b0 b1
        have ix := ix_r (q := (k : Int)) (P := p2 (n - 1)) (a := (j : Int)) (o := n - 1) (H := E.2.2.2.1.2) (by omega) (by omega) (by omega) (by omega) hz
        refine s_cv [_, _] [_, _] rfl g (Or.inl rfl) rfl rfl (Nat.le_of_ble_eq_true rfl) rfl rfl (t_leastHome (s := s2) (n := n) (S := (k : Int)) (c := (j : Int) + 1) g gd hn hDD e1 hz (by omega) (by omega) (wyT_cg (fun a b a0 a1 b0 b1 => (hD2 a b a0 a1 b0 b1).symm) (fun _ _ _ _ _ _ => rfl) hT2)) ?_
        rintro rv h1 ⟨v, s3, rfl, rfl, hF3, hO3, hA3, -⟩
        have e3 : s3 E.2.2.2.1.1 = s2 E.2.2.2.1.1 := hF3 _ (fun z => by simp at z; exact lo_ne gd.h0 (show am_lo 158 = _ from rfl) z)
        have eB3 : hB E s3 n = hB E s2 n := by unfold hB; rw [e3]
        rw [e1]
        refine s_lsH rfl gd ix ?_
        refine s_inc rfl rfl ?_
        refine am_s rfl rfl ?_
        refine am_lv [(3, _), (2, _), (1, _), (0, _)] rfl rfl ⟨rfl, rfl, rfl, rfl, trivial⟩ ?_
        have q0 : ∀ S c, 0 ≤ S → S < (k : Int) → 1 ≤ c → c < n → hB E s2 n S c = hB E (am_w s3 E.2.2.2.1.1 ((k : Int) * (n - 1) + (j : Int)) v) n S c := fun S c s0 s1 c0 c1 => by
          rw [hB_w (by omega) (by omega) c0 c1, if_neg (by omega), eB3]
        have q1 : ∀ c u, 0 ≤ c → c < n → wyA (mx s) n (hB E s2 n) (k : Int) c u → wyA (mx s) n (hB E (am_w s3 E.2.2.2.1.1 ((k : Int) * (n - 1) + (j : Int)) v) n) (k : Int) c u := fun c u c0 c1 h => by
          refine wyA_c (fun _ _ _ _ _ _ => rfl) ⟨c0, c1⟩ (fun a a0 a1 a2 => ?_) h
          have q := rb_lt (by omega) a2
          exact q0 _ _ q.1 (by omega) (by omega) a1
        refine kk2 () _ ⟨⟨fun q h1 h2 => ?_, ?_⟩, ?_, fun c c0 c1 cb => ?_⟩
        · rw [am_w_row h2, hF3 q (by simp; exact h1)]; exact hF2.1 q h1 h2
        · rw [am_w_row (home_ne gd (show am_lo 158 = _ from rfl)), hO3]; exact hF2.2
        · exact wyT_cg (fun _ _ _ _ _ _ => rfl) q0 hT2
        · rw [hB_w (by omega) (by omega) c0 (by omega)]
          by_cases e : c = (j : Int) + 1
          · rw [if_pos ⟨rfl, e⟩, e]
            exact q1 _ _ (by omega) (by omega) (wyA_c hD2 (by omega) (fun _ _ _ _ => rfl) hA3)
          · rw [if_neg (fun z => e z.2), eB3]
            exact q1 _ _ (by omega) (by omega) (hR2 c c0 (by omega) cb)
    · rintro - s2 ⟨hF2, hT2, hR2⟩
      simp only
      have e1 : s2 158 1 = n - 1 := hF2.2.trans ho
      refine am_s rfl rfl ?_
      refine am_s rfl rfl ?_
      refine s_gi (x := 1) rfl g rfl rfl rfl ?_
      refine s_cge rfl ⟨by omega, by omega⟩ ⟨by omega, by omega⟩ (fun c1 => ?_) (fun c1 => absurd c1 (by omega))
      refine s_inc rfl rfl ?_
      refine am_s rfl rfl ?_
      refine am_lv [(2, _), (1, _), (0, _)] rfl rfl ⟨rfl, rfl, rfl, trivial⟩ ?_
      refine kk () _ ⟨hF2, fun S c s0 s1 c0 c1 hb => ?_⟩
      by_cases e : S = (k : Int)
      · subst e; exact hR2 c c0 (by omega) hb
      · exact hT2 S c s0 (by omega) c0 c1 hb
  · rintro - s1 ⟨hF, hT⟩
    simp only
    have e1 : s1 158 1 = n - 1 := hF.2.trans ho
    rw [show (((p2 (n - 1)).toNat : Nat) : Int) = p2 (n - 1) by omega] at hT ⊢
    refine am_s rfl rfl ?_
    refine s_k 1 rfl rfl ?_
    refine am_s rfl rfl ?_
    refine s_gi (x := 1) rfl g rfl rfl rfl ?_
    refine s_shl1 rfl ⟨by omega, by omega⟩ ?_
    rw [e1]
    refine s_cge rfl ⟨by omega, by omega⟩ ⟨by omega, by omega⟩ (fun c1 => ?_) (fun c1 => absurd c1 (by omega))
    exact am_r rfl rfl ⟨rfl, s1, rfl, hF, hT⟩
