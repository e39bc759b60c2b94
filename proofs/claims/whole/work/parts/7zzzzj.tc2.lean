/-! take, and read of the class -/
theorem n4_Fr {s s1 : am_S} (hF : am_Fr (25 :: List.range' 27 20) s s1) {r : Nat} (hr : r < 20) : s1 (4 + 1 + r) = s (4 + 1 + r) := hF _ (fun z => by simp [List.mem_range'_1] at z; omega)
theorem nV_Fr {s s1 : am_S} (hF : am_Fr (25 :: List.range' 27 20) s s1) {r i : Nat} (hr : r < 20) : nV s1 r i = nV s r i := by
  unfold nV
  rw [n4_Fr hF hr]
theorem hV_c {fm : Int} {N : Nat} {V V2 : Nat → Nat → Int} (hN : N ≤ 20) (e : ∀ r i, r < 20 → V r i = V2 r i) (h : hV fm N V) : hV fm N V2 := by
  refine ⟨fun f a b a1 b1 => ?_, fun f a b ab b1 => ?_, fun f a a1 => ?_⟩
  · rw [← e a b (by omega)]; exact h.1 f a b a1 b1
  · rw [← e a _ (by omega)]; exact h.2.1 f a b ab b1
  · rw [← e a 0 (by omega), ← e a 1 (by omega)]; exact h.2.2 f a a1
theorem dR_c {fm d : Int} {V V2 : Nat → Nat → Int} {a b : Nat} (ha : a < 20) (hb : b < 20) (e : ∀ r i, r < 20 → V r i = V2 r i) (h : dR fm V a b d) : dR fm V2 a b d := by
  have e3 : ∀ i, dx V a b i = dx V2 a b i := fun i => by unfold dx; rw [e a i ha, e b i hb]
  unfold dR at h ⊢
  rw [e a _ ha, e3, e3] at h
  exact h
theorem Fr_t {L : List Nat} {s s1 s2 : am_S} (h : am_Fr L s s1) (h2 : am_Fr L s1 s2) : am_Fr L s s2 := fun b hb => (h2 b hb).trans (h b hb)
theorem dOK_of {s s1 : am_S} {fm : Int} {N : Nat} (hN : N ≤ 20) (hE : (fm = 61 → ∀ p q : Nat, p < N → q < N → mx s1 p q = nV s p q)) (hM : (fm ≠ 61 → (∀ p q : Nat, p < N → p < q → q < N → dR fm (nV s) p q (mx s1 p q) ∧ mx s1 q p = mx s1 p q) ∧ ∀ p q : Nat, p < N → q < N → ((N ≤ p ∧ N ≤ q) ∨ p = q) → mx s1 p q = 0)) : dOK fm N (nV s) (mx s1) := by
  refine ⟨fun f a b a1 b1 => hE f a b (by omega) (by omega), fun f a a1 => (hM f).2 a a (by omega) (by omega) (Or.inr rfl), fun f a b ab b1 => ?_, fun f a b ab b1 => ?_, fun f a b ab b1 => ?_⟩
  · have := (hM (by omega)).1 a b (by omega) ab (by omega)
    rw [this.2, this.1.1 f]; exact ⟨rfl, rfl⟩
  · have := (hM (by omega)).1 a b (by omega) ab (by omega)
    rw [this.2, this.1.2.1 f]; exact ⟨rfl, rfl⟩
  · have := (hM (by omega)).1 a b (by omega) ab (by omega)
    exact ⟨this.1.2.2.1 f, this.2⟩
theorem t_take {d : Nat} {E : am_Ev} {s : am_S} {fm : Int} {N : Nat} {PP : Option Value → am_H → Prop} (g : am_Eg E) (hf : tFk fm) (hN : N ≤ 20) (hv : hV fm N (nV s)) (hPP : ∀ s1, am_Fr (25 :: List.range' 27 20) s s1 → s1 25 0 = (N : Int) → s1 25 2 = 0 → dOK fm N (nV s) (mx s1) → PP none (am_hp E s1)) : am_wp (d + 3) 61 0 (lv_args 0 [.ref 25, .int (iI fm), .int (iI (N : Int)), .ref 4]) [] (am_hp E s) PP := by
  have hf2 := hf
  unfold tFk at hf2
  refine am_s rfl rfl ?_
  refine am_s rfl rfl ?_
  refine s_cv [_] [] rfl g (Or.inl rfl) rfl rfl (Nat.le_of_ble_eq_true rfl) rfl rfl (t_mreset (d := d + 1) (n := N) (s := s) g hN) ?_
  rintro rv h9 ⟨rfl, s0, rfl, hF0, e0, -, e2, -, hZ0⟩
  have hZ : ∀ a b, 0 ≤ a → a < (N : Int) → 0 ≤ b → b < (N : Int) → mx s0 a b = 0 := fun a b a0 a1 b0 b1 => hZ0 a b a0 a1 b0 (by omega)
  refine s_k 0 rfl rfl ?_
  refine am_s rfl rfl ?_
  refine am_lv [(4, .int (iI (((0 : Nat) : Int) : Int))), (3, .ref 4), (2, .int (iI (N : Int))), (1, .int (iI fm)), (0, .ref 25)] rfl rfl ⟨rfl, rfl, rfl, rfl, rfl, trivial⟩ ?_
  refine s_loop (X := Unit) (fun k _ s1 => am_Fr (25 :: List.range' 27 20) s s1 ∧ s1 25 0 = (N : Int) ∧ s1 25 2 = 0 ∧ (fm = 61 → ∀ p q : Nat, p < k → q < N → mx s1 p q = nV s p q) ∧ (fm ≠ 61 → (∀ p q : Nat, p < k → p < q → q < N → dR fm (nV s) p q (mx s1 p q) ∧ mx s1 q p = mx s1 p q) ∧ ∀ p q : Nat, p < N → q < N → ((k ≤ p ∧ k ≤ q) ∨ p = q) → mx s1 p q = 0)) (fun k _ => [(4, .int (iI (k : Int))), (3, .ref 4), (2, .int (iI (N : Int))), (1, .int (iI fm)), (0, .ref 25)]) (lo := 0) (hi := N) (x := ()) (Nat.zero_le N) ⟨hF0, e0, e2, fun _ p q p0 => absurd p0 (Nat.not_lt_zero p), fun _ => ⟨fun p q p0 => absurd p0 (Nat.not_lt_zero p), fun p q p1 q1 _ => hZ p q (by omega) (by omega) (by omega) (by omega)⟩⟩ ?_ ?_
  · rintro k - s1 hk0 hk1 ⟨hF, h25, h22, hE, hM⟩ kk
    try simp only at kk ⊢
    refine am_s rfl rfl ?_
    refine am_s rfl rfl ?_
    refine s_cge rfl ⟨by omega, by omega⟩ ⟨by omega, by omega⟩ (fun c1 => absurd c1 (by omega)) (fun c1 => ?_)
    refine am_s rfl rfl ?_
    refine s_k 61 rfl rfl ?_
    refine s_cne rfl ⟨by omega, by omega⟩ ⟨by omega, by omega⟩ (fun c2 => ?_) (fun c2 => ?_)
    · refine am_s rfl rfl ?_
      refine am_s rfl rfl ?_
      refine am_s rfl rfl ?_
      refine am_s rfl rfl ?_
      refine s_cv [_, _, _] [] rfl g (Or.inl rfl) rfl rfl (Nat.le_of_ble_eq_true rfl) rfl rfl (t_takeBelow (d := d) (s := s1) (fm := fm) (a := k) (N := N) (PP := fun rv h => rv = none ∧ ∃ s9, h = am_hp E s9 ∧ am_Fr (25 :: List.range' 27 20) s1 s9 ∧ s9 25 0 = s1 25 0 ∧ s9 25 2 = 0 ∧ (∀ q : Nat, k < q → q < N → dR fm (nV s1) k q (mx s9 k q) ∧ mx s9 q k = mx s9 k q) ∧ (∀ p q : Nat, p < 20 → q < 20 → ¬ (p = k ∧ k < q ∧ q < N) → ¬ (q = k ∧ k < p ∧ p < N) → mx s9 p q = mx s1 p q)) g hf (by omega) h25 h22 (by omega) (by omega) (hV_c (by omega) (fun r i hr => (nV_Fr hF hr).symm) hv) (fun s9 a b c e f => ⟨rfl, s9, rfl, a, b, c, e, f⟩)) ?_
      rintro rv h9 ⟨rfl, s3, rfl, hF3, h253, h223, hT3, hK3⟩
      refine s_inc rfl rfl ?_
      refine am_s rfl rfl ?_
      have ek2 : (k : Int) + 1 = ((k + 1 : Nat) : Int) := by omega
      rw [ek2]
      refine am_lv [(4, _), (3, _), (2, _), (1, _), (0, _)] rfl rfl ⟨rfl, rfl, rfl, rfl, rfl, trivial⟩ ?_
      have hM1 := hM (by omega)
      refine kk () s3 ⟨Fr_t hF hF3, by rw [h253]; exact h25, h223, fun z => absurd z (by omega), fun _ => ⟨fun p q p1 pq q1 => ?_, fun p q p1 q1 c => ?_⟩⟩
      · by_cases e : p = k
        · subst e
          exact ⟨dR_c (by omega) (by omega) (fun r i hr => nV_Fr hF hr) (hT3 q pq q1).1, (hT3 q pq q1).2⟩
        · rw [hK3 p q (by omega) (by omega) (by omega) (by omega), hK3 q p (by omega) (by omega) (by omega) (by omega)]
          exact hM1.1 p q (by omega) pq q1
      · rw [hK3 p q (by omega) (by omega) (by omega) (by omega)]; exact hM1.2 p q p1 q1 (by omega)
    · refine am_s rfl rfl ?_
      refine am_s rfl rfl ?_
      refine s_aa rfl g rfl ⟨by omega, by omega⟩ (by decide) ?_
      refine s_k 0 rfl rfl ?_
      refine am_s rfl rfl ?_
      refine s_gr rfl g rfl rfl ?_
      refine am_s rfl rfl ?_
      refine s_aa rfl g rfl ⟨by omega, by omega⟩ (by decide) ?_
      refine s_k 0 rfl rfl ?_
      refine am_s rfl rfl ?_
      refine s_acp rfl g (lo_4 (x := (k : Int)) (by omega) (by omega)) (lo_26 (x := (k : Int)) (by omega) (by omega)) (by decide) (by decide) (by omega) (by omega) (by omega) ⟨by decide, by decide⟩ (by decide) ?_
      refine am_s rfl rfl ?_
      refine s_inc rfl rfl ?_
      refine am_s rfl rfl ?_
      have ek2 : (k : Int) + 1 = ((k + 1 : Nat) : Int) := by omega
      rw [ek2]
      refine am_lv [(4, _), (3, _), (2, _), (1, _), (0, _)] rfl rfl ⟨rfl, rfl, rfl, rfl, rfl, trivial⟩ ?_
      have f61 : fm = 61 := by omega
      have fr : am_Fr [26 + 1 + (k : Int).toNat] s1 (am_cy s1 (4 + 1 + (k : Int).toNat) (26 + 1 + (k : Int).toNat) 0 0 (N : Int)) := am_cy_fr
      refine kk () _ ⟨Fr_t hF (fun b hb => fr b (fun z => hb (by simp at z; simp [List.mem_range'_1]; omega))), by rw [fr 25 (by simp; omega)]; exact h25, by rw [fr 25 (by simp; omega)]; exact h22, fun _ p q p1 q1 => ?_, fun z => absurd f61 z⟩
      by_cases e : p = k
      · subst e
        show am_cy _ _ _ _ _ _ _ _ = _
        unfold am_cy
        rw [if_pos ⟨rfl, by omega, by omega⟩]
        show s1 (4 + 1 + p) ((q : Int) - 0 + 0) = s (4 + 1 + p) q
        rw [n4_Fr hF (by omega), show (q : Int) - 0 + 0 = q by omega]
      · have := hE f61 p q (by omega) q1
        unfold mx at this ⊢
        rw [fr _ (by simp; omega)]; exact this
  · rintro - s1 ⟨hF, h25, h22, hE, hM⟩
    try simp only
    refine am_s rfl rfl ?_
    refine am_s rfl rfl ?_
    refine s_cge rfl ⟨by omega, by omega⟩ ⟨by omega, by omega⟩ (fun c1 => ?_) (fun c1 => absurd c1 (by omega))
    exact am_r rfl rfl (hPP s1 hF h25 h22 (dOK_of hN hE hM))
theorem rd_hV {T : Int → Int} {z : Int} (z0 : 0 ≤ z) (hg : txG (tA4 T z)) {V : Nat → Nat → Int} (e : ∀ r i : Nat, r < tR (tFm T z) (tN T z) → i < tW (tFm T z) (tN T z) r → V r i = tV T z r i) : hV (tFm T z) (tN T z).toNat V := by
  have okf := tA3_g z0 (tA4_g z0 hg).1
  have key : ∀ r i : Nat, r < tR (tFm T z) (tN T z) → i < tW (tFm T z) (tN T z) r → 0 ≤ V r i ∧ V r i ≤ tHi (tFm T z) := fun r i hr hi => by
    rw [e r i hr hi]; exact tV_r z0 hg hr hi
  refine ⟨fun f a b a1 b1 => ?_, fun f a b ab b1 => ?_, fun f a a1 => ?_⟩
  · have := key a b (by unfold tR; rw [if_neg (by omega)]; omega) (by unfold tW; rw [if_pos f]; omega)
    unfold tHi at this
    rw [if_pos (Or.inl f)] at this
    omega
  · have := key a (b - a - 1) (by unfold tR; rw [if_pos f]; omega) (by unfold tW; rw [if_neg (by omega), if_pos f]; omega)
    unfold tHi at this
    rw [if_pos (Or.inr f)] at this
    omega
  · have h0 := key a 0 (by unfold tR; rw [if_neg (by omega)]; omega) (by unfold tW; rw [if_neg (by omega), if_neg (by omega)]; decide)
    have h1 := key a 1 (by unfold tR; rw [if_neg (by omega)]; omega) (by unfold tW; rw [if_neg (by omega), if_neg (by omega)]; decide)
    unfold tHi at h0 h1
    rw [if_neg (by omega)] at h0 h1
    omega
theorem rd_dOK {T : Int → Int} {z : Int} (z0 : 0 ≤ z) (hg : txG (tA4 T z)) {V : Nat → Nat → Int} {M : Int → Int → Int} (e : ∀ r i : Nat, r < tR (tFm T z) (tN T z) → i < tW (tFm T z) (tN T z) r → V r i = tV T z r i) (h : dOK (tFm T z) (tN T z) V M) : dOK (tFm T z) (tN T z) (tV T z) M := by
  have okf := tA3_g z0 (tA4_g z0 hg).1
  have key0 : tFm T z ≠ 61 → tFm T z ≠ 94 → ∀ a i : Nat, (a : Int) < tN T z → i < 2 → V a i = tV T z a i := fun f1 f2 a i a1 i1 => e a i (by unfold tR; rw [if_neg f2]; omega) (by unfold tW; rw [if_neg f1, if_neg f2]; exact i1)
  refine ⟨fun f a b a1 b1 => ?_, h.ze, fun f a b ab b1 => ?_, fun f a b ab b1 => ?_, fun f a b ab b1 => ?_⟩
  · rw [h.eq f a b a1 b1]; exact e a b (by unfold tR; rw [if_neg (by omega)]; omega) (by unfold tW; rw [if_pos f]; omega)
  · have q := h.up f a b ab b1
    rw [e a (b - a - 1) (by unfold tR; rw [if_pos f]; omega) (by unfold tW; rw [if_neg (by omega), if_pos f]; omega)] at q
    exact q
  · have q := h.pl f a b ab b1
    rw [key0 (by omega) (by omega) a 0 (by omega) (by decide), key0 (by omega) (by omega) b 0 b1 (by decide), key0 (by omega) (by omega) a 1 (by omega) (by decide), key0 (by omega) (by omega) b 1 b1 (by decide)] at q
    exact q
  · have q := h.rt f a b ab b1
    rw [key0 (by omega) (by omega) a 0 (by omega) (by decide), key0 (by omega) (by omega) b 0 b1 (by decide), key0 (by omega) (by omega) a 1 (by omega) (by decide), key0 (by omega) (by omega) b 1 b1 (by decide)] at q
    exact q
theorem t_readX {d : Nat} {E : am_Ev} {s : am_S} {PP : Option Value → am_H → Prop} (g : am_Eg E) (gd : am_Ed E) {T : Int → Int} {z : Int} (ez : s 2 1 = z) (zl : 0 ≤ z ∧ z ≤ E.2.2.1.2) (et : ∀ y, 0 ≤ y → y < z → s E.2.2.1.1 y = T y) (tr : ∀ y, 0 ≤ y → y < z → 32 ≤ T y ∧ T y ≤ 126) (hQ : ∀ y, 0 ≤ y → y < 20 → am_Q (s 161 y)) (h0 : ¬ txG (tA4 T z) → ∀ s1, (∀ a, a ≠ 2 → ¬ (5 ≤ a ∧ a ≤ 24) → s1 a = s a) → s1 2 1 = 0 → PP (some (.int (iI (-1000 - tRes (tA4 T z))))) (am_hp E s1)) (h1 : txG (tA4 T z) → ∀ s2, (∀ a, a ≠ 2 → ¬ (5 ≤ a ∧ a ≤ 24) → a ≠ 25 → ¬ (27 ≤ a ∧ a ≤ 46) → s2 a = s a) → s2 2 1 = 0 → s2 25 0 = tN T z → s2 25 2 = 0 → dOK (tFm T z) (tN T z) (tV T z) (mx s2) → PP (some (.int (iI (tN T z)))) (am_hp E (s_forget s2))) : am_wp (d + 5) 125 0 (lv_args 0 [.ref 1]) [] (am_hp E s) PP := by
  have sg2 := gd.s2
  refine am_s rfl rfl ?_
  refine s_gr rfl g rfl rfl ?_
  refine s_cv [] [] rfl g (Or.inl rfl) rfl rfl (Nat.le_of_ble_eq_true rfl) rfl rfl (t_parse (d := d) (PP := fun rv h => ∃ s9, rv = some (.int (iI (tRes (tA4 T z)))) ∧ h = am_hp E s9 ∧ (∀ a, a ≠ 2 → ¬ (5 ≤ a ∧ a ≤ 24) → s9 a = s a) ∧ (txG (tA4 T z) → s9 2 5 = tFm T z ∧ s9 2 6 = tN T z ∧ ∀ r i : Nat, r < tR (tFm T z) (tN T z) → i < tW (tFm T z) (tN T z) r → s9 (4 + 1 + r) i = tV T z r i)) g gd ez zl et tr (fun s9 a b c => ⟨s9, rfl, rfl, a, c⟩)) ?_
  rintro rv h9 ⟨s1, rfl, rfl, k1, k3⟩
  have o4 : txO z (tA4 T z) := by
    unfold tA4
    split
    · exact tEn_o (tRs_o (tA3_o zl.1) _)
    · exact tA3_o zl.1
  have rr : -1 ≤ tRes (tA4 T z) ∧ tRes (tA4 T z) ≤ z := by
    have := o4.2
    unfold tRes
    split <;> omega
  have rg := tRes_g o4
  refine am_s rfl rfl ?_
  refine am_s rfl rfl ?_
  refine s_gr rfl g rfl rfl ?_
  refine s_cv [] [] rfl g (Or.inl rfl) rfl rfl (Nat.le_of_ble_eq_true rfl) rfl rfl (t_wipe (s := s1) g) ?_
  rintro rv h9 ⟨rfl, rfl⟩
  refine am_s rfl rfl ?_
  refine am_s rfl rfl ?_
  refine s_k (-1) rfl rfl ?_
  refine s_ceq rfl ⟨by omega, by omega⟩ ⟨by omega, by omega⟩ (fun c1 => ?_) (fun c1 => ?_)
  · refine am_s rfl rfl ?_
    refine s_gr rfl g rfl rfl ?_
    refine am_s rfl rfl ?_
    refine s_gr rfl g rfl rfl ?_
    refine s_gi (x := 5) rfl g rfl rfl rfl ?_
    refine am_s rfl rfl ?_
    refine s_gr rfl g rfl rfl ?_
    refine s_gi (x := 6) rfl g rfl rfl rfl ?_
    refine am_s rfl rfl ?_
    refine s_gr rfl g rfl rfl ?_
    refine s_gr rfl g rfl rfl ?_
    have hg : txG (tA4 T z) := rg.mp (by omega)
    obtain ⟨q5, q6, qv⟩ := k3 hg
    have g3 := (tA4_g zl.1 hg).1
    have okf := tA3_g zl.1 g3
    have e5 : (am_w s1 2 1 0) 2 5 = tFm T z := by rw [am_w_x (by decide)]; exact q5
    have e6 : (am_w s1 2 1 0) 2 6 = ((tN T z).toNat : Int) := by rw [am_w_x (by decide), q6]; omega
    rw [e5, e6]
    have env : ∀ r i : Nat, r < tR (tFm T z) (tN T z) → i < tW (tFm T z) (tN T z) r → nV (am_w s1 2 1 0) r i = tV T z r i := fun r i hr hi => by
      show am_w s1 2 1 0 (4 + 1 + r) i = _
      rw [am_w_row (by omega)]; exact qv r i hr hi
    refine s_cv [_, _, _] [] rfl g (Or.inl rfl) rfl rfl (Nat.le_of_ble_eq_true rfl) rfl rfl (t_take (d := d + 1) (s := am_w s1 2 1 0) (fm := tFm T z) (N := (tN T z).toNat) (PP := fun rv h => rv = none ∧ ∃ s9, h = am_hp E s9 ∧ am_Fr (25 :: List.range' 27 20) (am_w s1 2 1 0) s9 ∧ s9 25 0 = ((tN T z).toNat : Int) ∧ s9 25 2 = 0 ∧ dOK (tFm T z) (tN T z).toNat (nV (am_w s1 2 1 0)) (mx s9)) g okf.1 (by omega) (rd_hV zl.1 hg env) (fun s9 a b c e => ⟨rfl, s9, rfl, a, b, c, e⟩)) ?_
    rintro rv h9 ⟨rfl, s2, rfl, hF2, q20, q22, hd⟩
    have eN : (((tN T z).toNat : Nat) : Int) = tN T z := by omega
    rw [eN] at q20 hd
    have hd2 := rd_dOK zl.1 hg env hd
    have hQ2 : ∀ y, 0 ≤ y → y < 20 → am_Q (s2 161 y) := fun y y0 y1 => by rw [hF2 161 (by decide), am_w_row (by decide), k1 161 (by decide) (by decide)]; exact hQ y y0 y1
    refine am_s rfl rfl ?_
    refine s_cv [] [] rfl g (Or.inl rfl) rfl rfl (Nat.le_of_ble_eq_true rfl) rfl rfl (t_forget (d := d + 3) (s := s2) g hQ2) ?_
    rintro rv h9 ⟨rfl, rfl⟩
    have e25 : (s_forget s2) 25 0 = tN T z := q20
    refine am_s rfl rfl ?_
    refine s_gr rfl g rfl rfl ?_
    refine s_gi (x := 0) rfl g rfl rfl rfl ?_
    rw [e25]
    exact am_r rfl rfl (h1 hg s2 (fun a a1 a2 a3 a4 => by rw [hF2 a (fun y => by simp [List.mem_range'_1] at y; omega), am_w_row a1]; exact k1 a a1 a2) (by rw [hF2 2 (by simp [List.mem_range'_1]), am_w_eq]) q20 q22 hd2)
  · refine s_k (-1000) rfl rfl ?_
    refine am_s rfl rfl ?_
    refine s_isub rfl ?_
    exact am_r rfl rfl (h0 (fun y => absurd (rg.mpr y) (by omega)) (am_w s1 2 1 0) (fun a a1 a2 => by rw [am_w_row a1]; exact k1 a a1 a2) (am_w_eq _ _ _ _))
