/-! the matrix takes what a text tells -/
def dx (V : Nat → Nat → Int) (a b i : Nat) : Int := iab (V a i - V b i)
def dR (fm : Int) (V : Nat → Nat → Int) (a b : Nat) (d : Int) : Prop := (fm = 94 → d = V a (b - a - 1)) ∧ (fm = 43 → d = dx V a b 0 + dx V a b 1) ∧ (fm = 42 → rtI (dx V a b 0 * dx V a b 0 + dx V a b 1 * dx V a b 1) d) ∧ 0 ≤ d ∧ d < 2147483648
def nV (s : am_S) : Nat → Nat → Int := fun r i => s (4 + 1 + r) i
def hV (fm n : Int) (V : Nat → Nat → Int) : Prop := (fm = 61 → ∀ a b : Nat, (a : Int) < n → (b : Int) < n → 0 ≤ V a b ∧ V a b < 2147483648) ∧ (fm = 94 → ∀ a b : Nat, a < b → (b : Int) < n → 0 ≤ V a (b - a - 1) ∧ V a (b - a - 1) < 2147483648) ∧ (fm = 43 ∨ fm = 42 → ∀ a : Nat, (a : Int) < n → (0 ≤ V a 0 ∧ V a 0 ≤ 1000000) ∧ 0 ≤ V a 1 ∧ V a 1 ≤ 1000000)
theorem t_apart {d : Nat} {E : am_Ev} {s : am_S} {fm : Int} {a b : Nat} {PP : Option Value → am_H → Prop} (g : am_Eg E) (hf : fm = 43 ∨ fm = 42) (ha : a < 20) (hb : b < 20) (h1 : (0 ≤ nV s a 0 ∧ nV s a 0 ≤ 1000000) ∧ 0 ≤ nV s a 1 ∧ nV s a 1 ≤ 1000000) (h2 : (0 ≤ nV s b 0 ∧ nV s b 0 ≤ 1000000) ∧ 0 ≤ nV s b 1 ∧ nV s b 1 ≤ 1000000) (hPP : ∀ d, dR fm (nV s) a b d → PP (some (.int (iI d))) (am_hp E s)) : am_wp (d + 1) 63 0 (lv_args 0 [.int (iI fm), .ref (4 + 1 + (a : Int).toNat), .ref (4 + 1 + (b : Int).toNat)]) [] (am_hp E s) PP := by
  have v1 : 0 ≤ s (4 + 1 + (a : Int).toNat) 0 ∧ s (4 + 1 + (a : Int).toNat) 0 ≤ 1000000 := h1.1
  have v2 : 0 ≤ s (4 + 1 + (a : Int).toNat) 1 ∧ s (4 + 1 + (a : Int).toNat) 1 ≤ 1000000 := h1.2
  have v3 : 0 ≤ s (4 + 1 + (b : Int).toNat) 0 ∧ s (4 + 1 + (b : Int).toNat) 0 ≤ 1000000 := h2.1
  have v4 : 0 ≤ s (4 + 1 + (b : Int).toNat) 1 ∧ s (4 + 1 + (b : Int).toNat) 1 ≤ 1000000 := h2.2
  have x1 : 0 ≤ dx (nV s) a b 0 ∧ dx (nV s) a b 0 ≤ 1000000 := iab_r (v := s (4 + 1 + (a : Int).toNat) 0 - s (4 + 1 + (b : Int).toNat) 0) ⟨by omega, by omega⟩
  have x2 : 0 ≤ dx (nV s) a b 1 ∧ dx (nV s) a b 1 ≤ 1000000 := iab_r (v := s (4 + 1 + (a : Int).toNat) 1 - s (4 + 1 + (b : Int).toNat) 1) ⟨by omega, by omega⟩
  have sq := sq_sum x1 x2
  refine am_s rfl rfl ?_
  refine s_k 0 rfl rfl ?_
  refine s_ia rfl g (lo_4 (by omega) (by omega)) ⟨by omega, by omega⟩ (by decide) ?_
  refine am_s rfl rfl ?_
  refine s_k 0 rfl rfl ?_
  refine s_ia rfl g (lo_4 (by omega) (by omega)) ⟨by omega, by omega⟩ (by decide) ?_
  refine s_isub rfl ?_
  refine am_cs (As := [_]) (rest := []) rfl (Or.inl rfl) rfl rfl (Nat.le_of_ble_eq_true rfl) rfl (t_absI (v := s (4 + 1 + (a : Int).toNat) 0 - s (4 + 1 + (b : Int).toNat) 0) ⟨by omega, by omega⟩) ?_
  rintro rv h9 ⟨rfl, rfl⟩
  rw [show iab (s (4 + 1 + (a : Int).toNat) 0 - s (4 + 1 + (b : Int).toNat) 0) = dx (nV s) a b 0 from rfl]
  refine s_i2l rfl ⟨by omega, by omega⟩ ?_
  refine am_s rfl rfl ?_
  refine am_s rfl rfl ?_
  refine s_k 1 rfl rfl ?_
  refine s_ia rfl g (lo_4 (by omega) (by omega)) ⟨by omega, by omega⟩ (by decide) ?_
  refine am_s rfl rfl ?_
  refine s_k 1 rfl rfl ?_
  refine s_ia rfl g (lo_4 (by omega) (by omega)) ⟨by omega, by omega⟩ (by decide) ?_
  refine s_isub rfl ?_
  refine am_cs (As := [_]) (rest := []) rfl (Or.inl rfl) rfl rfl (Nat.le_of_ble_eq_true rfl) rfl (t_absI (v := s (4 + 1 + (a : Int).toNat) 1 - s (4 + 1 + (b : Int).toNat) 1) ⟨by omega, by omega⟩) ?_
  rintro rv h9 ⟨rfl, rfl⟩
  rw [show iab (s (4 + 1 + (a : Int).toNat) 1 - s (4 + 1 + (b : Int).toNat) 1) = dx (nV s) a b 1 from rfl]
  refine s_i2l rfl ⟨by omega, by omega⟩ ?_
  refine am_s rfl rfl ?_
  refine am_s rfl rfl ?_
  refine s_k 43 rfl rfl ?_
  refine s_cne rfl ⟨by omega, by omega⟩ ⟨by omega, by omega⟩ (fun c1 => ?_) (fun c1 => ?_)
  · refine am_s rfl rfl ?_
    refine am_s rfl rfl ?_
    refine s_lmul rfl ?_
    refine am_s rfl rfl ?_
    refine am_s rfl rfl ?_
    refine s_lmul rfl ?_
    refine s_ladd rfl ?_
    refine am_s rfl rfl ?_
    refine am_s rfl rfl ?_
    refine s_ladd rfl ?_
    refine am_cs (As := [_, _]) (rest := []) rfl (Or.inl rfl) rfl rfl (Nat.le_of_ble_eq_true rfl) rfl (t_leastRoot (v := dx (nV s) a b 0 * dx (nV s) a b 0 + dx (nV s) a b 1 * dx (nV s) a b 1) (top := dx (nV s) a b 0 + dx (nV s) a b 1) sq.1 (by omega) sq.2) ?_
    rintro rv h9 ⟨r, rfl, hr, rfl⟩
    have r1 : r ≤ dx (nV s) a b 0 + dx (nV s) a b 1 := by
      by_cases z : r ≤ dx (nV s) a b 0 + dx (nV s) a b 1
      · exact z
      · have := hr.2.2 (dx (nV s) a b 0 + dx (nV s) a b 1) (by omega) (by omega)
        have := sq.2
        omega
    refine s_l2i rfl ?_
    exact am_r rfl rfl (hPP r ⟨fun z => by omega, fun z => absurd z (by omega), fun _ => hr, hr.1, by omega⟩)
  · refine am_s rfl rfl ?_
    refine am_s rfl rfl ?_
    refine s_ladd rfl ?_
    refine am_s rfl rfl ?_
    refine s_l2i rfl ?_
    exact am_r rfl rfl (hPP _ ⟨fun z => by omega, fun _ => rfl, fun z => by omega, by omega, by omega⟩)
theorem am_w_n {s : am_S} {a b : Nat} {x v y : Int} (h : ¬ (b = a ∧ y = x)) : am_w s a x v b y = s b y := if_neg h
theorem told_m {s1 : am_S} {a k : Nat} {dd : Int} (ak : a < k) (hk : k < 20) (p q : Nat) (hp : p < 20) : mx (am_w (am_w (am_w (am_w s1 (26 + 1 + (a : Int).toNat) (k : Int) dd) 25 2 0) (26 + 1 + (k : Int).toNat) (a : Int) dd) 25 2 0) p q = if (p = a ∧ q = k) ∨ (p = k ∧ q = a) then dd else mx s1 p q := by
  show am_w _ 25 2 0 (26 + 1 + (p : Int).toNat) (q : Int) = _
  rw [am_w_row (by omega)]
  by_cases c1 : p = k ∧ q = a
  · rw [if_pos (Or.inr c1), c1.1, c1.2, am_w_eq]
  · rw [am_w_n (fun z => c1 ⟨by omega, by omega⟩), am_w_row (by omega)]
    by_cases c2 : p = a ∧ q = k
    · rw [if_pos (Or.inl c2), c2.1, c2.2, am_w_eq]
    · rw [am_w_n (fun z => c2 ⟨by omega, by omega⟩), if_neg (fun z => Or.elim z c2 c1)]
      rfl
theorem told_s {s s1 : am_S} {fm : Int} {a k : Nat} {dd : Int} (ak : a + 1 ≤ k) (hk : k < 20) (hF : am_Fr (25 :: List.range' 27 20) s s1) (h25 : s1 25 0 = s 25 0) (hT : (∀ q : Nat, a < q → q < k → dR fm (nV s) a q (mx s1 a q) ∧ mx s1 q a = mx s1 a q)) (hK : (∀ p q : Nat, p < 20 → q < 20 → ¬ (p = a ∧ a < q ∧ q < k) → ¬ (q = a ∧ a < p ∧ p < k) → mx s1 p q = mx s p q)) (hd : dR fm (nV s) a k dd) : am_Fr (25 :: List.range' 27 20) s (am_w (am_w (am_w (am_w s1 (26 + 1 + (a : Int).toNat) (k : Int) dd) 25 2 0) (26 + 1 + (k : Int).toNat) (a : Int) dd) 25 2 0) ∧ (am_w (am_w (am_w (am_w s1 (26 + 1 + (a : Int).toNat) (k : Int) dd) 25 2 0) (26 + 1 + (k : Int).toNat) (a : Int) dd) 25 2 0) 25 0 = s 25 0 ∧ (am_w (am_w (am_w (am_w s1 (26 + 1 + (a : Int).toNat) (k : Int) dd) 25 2 0) (26 + 1 + (k : Int).toNat) (a : Int) dd) 25 2 0) 25 2 = 0 ∧ (∀ q : Nat, a < q → q < (k + 1) → dR fm (nV s) a q (mx (am_w (am_w (am_w (am_w s1 (26 + 1 + (a : Int).toNat) (k : Int) dd) 25 2 0) (26 + 1 + (k : Int).toNat) (a : Int) dd) 25 2 0) a q) ∧ mx (am_w (am_w (am_w (am_w s1 (26 + 1 + (a : Int).toNat) (k : Int) dd) 25 2 0) (26 + 1 + (k : Int).toNat) (a : Int) dd) 25 2 0) q a = mx (am_w (am_w (am_w (am_w s1 (26 + 1 + (a : Int).toNat) (k : Int) dd) 25 2 0) (26 + 1 + (k : Int).toNat) (a : Int) dd) 25 2 0) a q) ∧ (∀ p q : Nat, p < 20 → q < 20 → ¬ (p = a ∧ a < q ∧ q < (k + 1)) → ¬ (q = a ∧ a < p ∧ p < (k + 1)) → mx (am_w (am_w (am_w (am_w s1 (26 + 1 + (a : Int).toNat) (k : Int) dd) 25 2 0) (26 + 1 + (k : Int).toNat) (a : Int) dd) 25 2 0) p q = mx s p q) := by
  have tm := told_m (s1 := s1) (dd := dd) ak hk
  refine ⟨fun b hb => ?_, ?_, am_w_eq _ _ _ _, fun q q0 q1 => ?_, fun p q hp hq c1 c2 => ?_⟩
  · have hb2 := hb
    simp [List.mem_range'_1] at hb2
    rw [am_w_row hb2.1, am_w_row (by omega), am_w_row hb2.1, am_w_row (by omega)]; exact hF b hb
  · rw [am_w_x (by decide), am_w_row (by omega), am_w_x (by decide), am_w_row (by omega)]; exact h25
  · rw [tm a q (by omega), tm q a (by omega)]
    by_cases e : q = k
    · subst e
      rw [if_pos (Or.inl ⟨rfl, rfl⟩), if_pos (Or.inr ⟨rfl, rfl⟩)]
      exact ⟨hd, rfl⟩
    · rw [if_neg (by omega), if_neg (by omega)]
      exact hT q q0 (by omega)
  · rw [tm p q hp, if_neg (by omega)]
    exact hK p q hp hq (by omega) (by omega)
theorem t_takeBelow {d : Nat} {E : am_Ev} {s : am_S} {fm : Int} {a N : Nat} {PP : Option Value → am_H → Prop} (g : am_Eg E) (hf : tFk fm) (h61 : fm ≠ 61) (en : s 25 0 = (N : Int)) (h252 : s 25 2 = 0) (hN : N ≤ 20) (ha : a < N) (hv : hV fm N (nV s)) (hPP : ∀ s1, am_Fr (25 :: List.range' 27 20) s s1 → s1 25 0 = s 25 0 → s1 25 2 = 0 → (∀ q : Nat, a < q → q < N → dR fm (nV s) a q (mx s1 a q) ∧ mx s1 q a = mx s1 a q) → (∀ p q : Nat, p < 20 → q < 20 → ¬ (p = a ∧ a < q ∧ q < N) → ¬ (q = a ∧ a < p ∧ p < N) → mx s1 p q = mx s p q) → PP none (am_hp E s1)) : am_wp (d + 2) 62 0 (lv_args 0 [.ref 25, .int (iI fm), .int (iI (a : Int)), .ref 4]) [] (am_hp E s) PP := by
  have hf2 := hf
  unfold tFk at hf2
  refine am_s rfl rfl ?_
  refine s_k 1 rfl rfl ?_
  refine s_iadd rfl ?_
  refine am_s rfl rfl ?_
  have e0 : (a : Int) + 1 = ((a + 1 : Nat) : Int) := by omega
  rw [e0]
  refine am_lv [(4, .int (iI (((a + 1 : Nat) : Int) : Int))), (3, .ref 4), (2, .int (iI (a : Int))), (1, .int (iI fm)), (0, .ref 25)] rfl rfl ⟨rfl, rfl, rfl, rfl, rfl, trivial⟩ ?_
  refine s_loop (X := Unit) (fun k _ s1 => am_Fr (25 :: List.range' 27 20) s s1 ∧ s1 25 0 = s 25 0 ∧ s1 25 2 = 0 ∧ (∀ q : Nat, a < q → q < k → dR fm (nV s) a q (mx s1 a q) ∧ mx s1 q a = mx s1 a q) ∧ (∀ p q : Nat, p < 20 → q < 20 → ¬ (p = a ∧ a < q ∧ q < k) → ¬ (q = a ∧ a < p ∧ p < k) → mx s1 p q = mx s p q)) (fun k _ => [(4, .int (iI (k : Int))), (3, .ref 4), (2, .int (iI (a : Int))), (1, .int (iI fm)), (0, .ref 25)]) (lo := a + 1) (hi := N) (x := ()) (by omega) ⟨am_Fr_r _ _, rfl, h252, fun q q0 q1 => by omega, fun p q _ _ _ _ => rfl⟩ ?_ ?_
  · rintro k - s1 hk0 hk1 ⟨hF, h25, h22, hT, hK⟩ kk
    try simp only at kk ⊢
    have nv : ∀ r : Nat, r < 20 → s1 (4 + 1 + r) = s (4 + 1 + r) := fun r hr => hF _ (fun z => by simp [List.mem_range'_1] at z; omega)
    refine am_s rfl rfl ?_
    refine am_s rfl rfl ?_
    refine s_gi (x := 0) rfl g rfl rfl rfl ?_
    refine s_cge rfl ⟨by omega, by omega⟩ ⟨by omega, by omega⟩ (fun c1 => absurd c1 (by omega)) (fun c1 => ?_)
    refine am_s rfl rfl ?_
    refine s_k 94 rfl rfl ?_
    refine s_cne rfl ⟨by omega, by omega⟩ ⟨by omega, by omega⟩ (fun c2 => ?_) (fun c2 => ?_)
    · refine am_s rfl rfl ?_
      refine am_s rfl rfl ?_
      refine am_s rfl rfl ?_
      refine s_aa rfl g rfl ⟨by omega, by omega⟩ (by decide) ?_
      refine am_s rfl rfl ?_
      refine am_s rfl rfl ?_
      refine s_aa rfl g rfl ⟨by omega, by omega⟩ (by decide) ?_
      refine am_cs (As := [_, _, _]) (rest := []) rfl (Or.inl rfl) rfl rfl (Nat.le_of_ble_eq_true rfl) rfl (t_apart (d := d) (s := s1) (fm := fm) (a := a) (b := k) (PP := fun rv h => ∃ dd, rv = some (.int (iI dd)) ∧ h = am_hp E s1 ∧ dR fm (nV s1) a k dd) g (by omega) (by omega) (by omega) (by show (0 ≤ s1 (4 + 1 + a) 0 ∧ s1 (4 + 1 + a) 0 ≤ 1000000) ∧ 0 ≤ s1 (4 + 1 + a) 1 ∧ s1 (4 + 1 + a) 1 ≤ 1000000; rw [nv a (by omega)]; exact hv.2.2 (by omega) a (by omega)) (by show (0 ≤ s1 (4 + 1 + k) 0 ∧ s1 (4 + 1 + k) 0 ≤ 1000000) ∧ 0 ≤ s1 (4 + 1 + k) 1 ∧ s1 (4 + 1 + k) 1 ≤ 1000000; rw [nv k (by omega)]; exact hv.2.2 (by omega) k (by omega)) (fun dd h => ⟨dd, rfl, rfl, h⟩)) ?_
      rintro rv h9 ⟨dd, rfl, rfl, hd0⟩
      have hd : dR fm (nV s) a k dd := by
        have e1 : ∀ i, nV s1 a i = nV s a i := fun i => by show s1 (4 + 1 + a) i = s (4 + 1 + a) i; rw [nv a (by omega)]
        have e2 : ∀ i, nV s1 k i = nV s k i := fun i => by show s1 (4 + 1 + k) i = s (4 + 1 + k) i; rw [nv k (by omega)]
        have e3 : ∀ i, dx (nV s1) a k i = dx (nV s) a k i := fun i => by unfold dx; rw [e1, e2]
        unfold dR at hd0 ⊢
        rw [e1, e3, e3] at hd0
        exact hd0
      refine am_s rfl rfl ?_
      refine am_s rfl rfl ?_
      refine am_s rfl rfl ?_
      refine am_s rfl rfl ?_
      refine am_s rfl rfl ?_
      refine s_cv [_, _, _] [] rfl g (Or.inl rfl) rfl rfl (Nat.le_of_ble_eq_true rfl) rfl rfl (t_tell (s := s1) (a := (a : Int)) (b := (k : Int)) (v := dd) g (by omega) (by omega)) ?_
      rintro rv h9 ⟨rfl, rfl⟩
      refine am_s rfl rfl ?_
      refine am_s rfl rfl ?_
      refine am_s rfl rfl ?_
      refine am_s rfl rfl ?_
      refine s_cv [_, _, _] [] rfl g (Or.inl rfl) rfl rfl (Nat.le_of_ble_eq_true rfl) rfl rfl (t_tell (s := am_w (am_w s1 (26 + 1 + (a : Int).toNat) (k : Int) dd) 25 2 0) (a := (k : Int)) (b := (a : Int)) (v := dd) g (by omega) (by omega)) ?_
      rintro rv h9 ⟨rfl, rfl⟩
      refine s_inc rfl rfl ?_
      refine am_s rfl rfl ?_
      have ek2 : (k : Int) + 1 = ((k + 1 : Nat) : Int) := by omega
      rw [ek2]
      refine am_lv [(4, _), (3, _), (2, _), (1, _), (0, _)] rfl rfl ⟨rfl, rfl, rfl, rfl, rfl, trivial⟩ ?_
      refine kk () _ (told_s hk0 (by omega) hF h25 hT hK hd)
    · refine am_s rfl rfl ?_
      refine am_s rfl rfl ?_
      refine s_aa rfl g rfl ⟨by omega, by omega⟩ (by decide) ?_
      refine am_s rfl rfl ?_
      refine am_s rfl rfl ?_
      refine s_isub rfl ?_
      refine s_k 1 rfl rfl ?_
      refine s_isub rfl ?_
      refine s_ia rfl g (lo_4 (by omega) (by omega)) ⟨by omega, by omega⟩ (by decide) ?_
      refine am_s rfl rfl ?_
      have ei : (k : Int) - (a : Int) - 1 = ((k - a - 1 : Nat) : Int) := by omega
      rw [ei]
      have ed : s1 (4 + 1 + ((a : Int)).toNat) ((k - a - 1 : Nat) : Int) = nV s a (k - a - 1) := by show s1 (4 + 1 + a) _ = s (4 + 1 + a) _; rw [nv a (by omega)]
      rw [ed]
      have f94 : fm = 94 := by omega
      have rg := hv.2.1 f94 a k (by omega) (by omega)
      generalize hdd : nV s a (k - a - 1) = dd at rg ⊢
      have hd : dR fm (nV s) a k dd := ⟨fun _ => hdd.symm, fun z => by omega, fun z => by omega, rg.1, rg.2⟩
      refine am_s rfl rfl ?_
      refine am_s rfl rfl ?_
      refine am_s rfl rfl ?_
      refine am_s rfl rfl ?_
      refine am_s rfl rfl ?_
      refine s_cv [_, _, _] [] rfl g (Or.inl rfl) rfl rfl (Nat.le_of_ble_eq_true rfl) rfl rfl (t_tell (s := s1) (a := (a : Int)) (b := (k : Int)) (v := dd) g (by omega) (by omega)) ?_
      rintro rv h9 ⟨rfl, rfl⟩
      refine am_s rfl rfl ?_
      refine am_s rfl rfl ?_
      refine am_s rfl rfl ?_
      refine am_s rfl rfl ?_
      refine s_cv [_, _, _] [] rfl g (Or.inl rfl) rfl rfl (Nat.le_of_ble_eq_true rfl) rfl rfl (t_tell (s := am_w (am_w s1 (26 + 1 + (a : Int).toNat) (k : Int) dd) 25 2 0) (a := (k : Int)) (b := (a : Int)) (v := dd) g (by omega) (by omega)) ?_
      rintro rv h9 ⟨rfl, rfl⟩
      refine s_inc rfl rfl ?_
      refine am_s rfl rfl ?_
      have ek2 : (k : Int) + 1 = ((k + 1 : Nat) : Int) := by omega
      rw [ek2]
      refine am_lv [(4, _), (3, _), (2, _), (1, _), (0, _)] rfl rfl ⟨rfl, rfl, rfl, rfl, rfl, trivial⟩ ?_
      refine kk () _ (told_s hk0 (by omega) hF h25 hT hK hd)
  · rintro - s1 ⟨hF, h25, h22, hT, hK⟩
    try simp only
    refine am_s rfl rfl ?_
    refine am_s rfl rfl ?_
    refine s_gi (x := 0) rfl g rfl rfl rfl ?_
    refine s_cge rfl ⟨by omega, by omega⟩ ⟨by omega, by omega⟩ (fun c1 => ?_) (fun c1 => absurd c1 (by omega))
    exact am_r rfl rfl (hPP s1 hF h25 h22 hT hK)
