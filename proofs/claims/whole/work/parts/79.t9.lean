/-! quotients and rests -/
theorem iI_div {a b : Int} (ha : 0 ≤ a ∧ a < 2147483648) (hb : 0 < b ∧ b < 2147483648) : iI a / iI b = iI (a / b) := by
  apply Int32.toInt_inj.mp
  have h1 : 0 ≤ a / b := Int.ediv_nonneg ha.1 (by omega)
  have h2 : a / b ≤ a := Int.ediv_le_self b ha.1
  rw [Int32.toInt_div, iI_toInt ⟨by omega, by omega⟩, iI_toInt ⟨by omega, by omega⟩, iI_toInt ⟨by omega, by omega⟩, Int.tdiv_eq_ediv_of_nonneg ha.1]
  exact Int.bmod_eq_of_le (by omega) (by omega)
theorem iI_rem {a b : Int} (ha : 0 ≤ a ∧ a < 2147483648) (hb : 0 < b ∧ b < 2147483648) : iI a - iI a / iI b * iI b = iI (a % b) := by
  rw [iI_div ha hb, iI_mul, iI_sub]
  have := Int.emod_add_mul_ediv a b
  congr 1
  rw [Int.mul_comm]
  omega
theorem s_irem {d i pc : Nat} {lv : am_L} {r : List Value} {P : Option Value → am_H → Prop} {h : am_H} {aux : List Nat} {a b : Int} (h1 : am_fetch i pc = some (.irem, 1, aux)) (ha : 0 ≤ a ∧ a < 2147483648) (hb : 0 < b ∧ b < 2147483648) (k9 : am_wp d i (pc + 1) lv (.int (iI (a % b)) :: r) h P) : am_wp d i pc lv (.int (iI b) :: .int (iI a) :: r) h P := by
  refine am_s (st' := .int (iI (a % b)) :: r) h1 ?_ k9
  have hn : ¬ iI b = 0 := by
    rw [show (0 : Int32) = iI 0 from rfl, iI_eq ⟨by omega, by omega⟩ ⟨by omega, by omega⟩]
    omega
  show am_d2 pc (.irem, 1, aux) lv (.int (iI b) :: .int (iI a) :: r) h = _
  unfold am_d2
  simp only [am_ii, if_neg hn, Option.map_some, iI_rem ha hb]
theorem s_idiv {d i pc : Nat} {lv : am_L} {r : List Value} {P : Option Value → am_H → Prop} {h : am_H} {aux : List Nat} {a b : Int} (h1 : am_fetch i pc = some (.idiv, 1, aux)) (ha : 0 ≤ a ∧ a < 2147483648) (hb : 0 < b ∧ b < 2147483648) (k9 : am_wp d i (pc + 1) lv (.int (iI (a / b)) :: r) h P) : am_wp d i pc lv (.int (iI b) :: .int (iI a) :: r) h P := by
  refine am_s (st' := .int (iI (a / b)) :: r) h1 ?_ k9
  have hn : ¬ iI b = 0 := by
    rw [show (0 : Int32) = iI 0 from rfl, iI_eq ⟨by omega, by omega⟩ ⟨by omega, by omega⟩]
    omega
  show am_d2 pc (.idiv, 1, aux) lv (.int (iI b) :: .int (iI a) :: r) h = _
  unfold am_d2
  simp only [am_ii, if_neg hn, Option.map_some, iI_div ha hb]
/-- edges at c, of the first m cities -/
def dgf (hu : Int → Int) : Nat → Int → Int
  | 0, _ => 0
  | m + 1, c => dgf hu m c + (if m = 0 then 0 else (if c = (m : Int) then 1 else 0) + (if c = hu m then 1 else 0))
theorem dgf_le (hu : Int → Int) : ∀ (m : Nat) (c : Int), 0 ≤ dgf hu m c ∧ dgf hu m c ≤ 2 * m
  | 0, _ => ⟨Int.le_refl 0, Int.le_refl 0⟩
  | m + 1, c => by
    have := dgf_le hu m c
    show 0 ≤ dgf hu m c + _ ∧ dgf hu m c + _ ≤ _
    split <;> (try split) <;> (try split) <;> omega
theorem dgf_congr {hu hu2 : Int → Int} : ∀ (m : Nat), (∀ c, 0 ≤ c → c < (m : Int) → hu c = hu2 c) → ∀ c, dgf hu m c = dgf hu2 m c
  | 0, _, _ => rfl
  | m + 1, h, c => by
    show dgf hu m c + _ = dgf hu2 m c + _
    rw [dgf_congr m (fun c c0 c1 => h c c0 (by omega)) c, h m (by omega) (by omega)]
/-- how many of the first m are odd -/
def oc (D : Int → Int) : Nat → Int
  | 0 => 0
  | m + 1 => oc D m + D m % 2
theorem oc_le (D : Int → Int) : ∀ m : Nat, 0 ≤ oc D m ∧ oc D m ≤ m
  | 0 => ⟨Int.le_refl 0, Int.le_refl 0⟩
  | m + 1 => by
    have := oc_le D m
    show 0 ≤ oc D m + D m % 2 ∧ oc D m + D m % 2 ≤ _
    omega
/-- the odd ones, in their order -/
def od_is (D : Int → Int) (n : Nat) (od : Int → Int) : Prop := ∀ m : Nat, m < n → D m % 2 = 1 → od (oc D m) = m
theorem dgf_s {hu : Int → Int} {m : Nat} (hm : m ≠ 0) (c : Int) : dgf hu (m + 1) c = dgf hu m c + ((if c = (m : Int) then 1 else 0) + (if c = hu m then 1 else 0)) := congrArg (dgf hu m c + ·) (if_neg hm)
/-- two edges more: at m and at hu m -/
theorem dg_two {s : am_S} {a : Nat} {m h v w : Int} (hv : v = s a m + 1) (hw : w = am_w s a m v a h + 1) (c : Int) : am_w (am_w s a m v) a h w a c = s a c + ((if c = m then 1 else 0) + (if c = h then 1 else 0)) := by
  subst hv
  subst hw
  by_cases e1 : c = h
  · subst e1
    rw [am_w_eq, if_pos rfl]
    by_cases e2 : c = m
    · subst e2; rw [am_w_eq, if_pos rfl]; omega
    · rw [am_w_x e2, if_neg e2]; omega
  · rw [am_w_x e1, if_neg e1]
    by_cases e2 : c = m
    · subst e2; rw [am_w_eq, if_pos rfl]; omega
    · rw [am_w_x e2, if_neg e2]; omega
theorem oc_lt (D : Int → Int) {k : Nat} : ∀ {m : Nat}, k < m → D k % 2 = 1 → oc D k < oc D m
  | 0, h, _ => absurd h (Nat.not_lt_zero k)
  | m + 1, h, hd => by
    show oc D k < oc D m + D m % 2
    by_cases e : k = m
    · subst e; omega
    · have := oc_lt D (show k < m by omega) hd
      omega
theorem t_odds {d n : Nat} {E : am_Ev} {s : am_S} (g : am_Eg E) (hn : 1 ≤ n ∧ n ≤ 20) (hu : ∀ c, 1 ≤ c → c < (n : Int) → 0 ≤ s 50 c ∧ s 50 c < n) : am_wp (d + 1) 113 0 (lv_args 0 [.ref 48, .int (iI (n : Int))]) [] (am_hp E s) (fun rv h => rv = none ∧ ∃ s', h = am_hp E s' ∧ am_Fr [48, 55, 57] s s' ∧ (∀ y, y ≠ 2 → s' 48 y = s 48 y) ∧ s' 48 2 = oc (dgf (s 50) n) n ∧ od_is (dgf (s 50) n) n (s' 55)) := by
  refine am_s rfl rfl ?_
  refine s_gr rfl g rfl rfl ?_
  refine s_k 0 rfl rfl ?_
  refine am_cs (As := [_, _]) (rest := []) rfl (Or.inl rfl) rfl rfl (Nat.le_of_ble_eq_true rfl) rfl (t_fillI (n := 20) g rfl (by decide)) ?_
  rintro rv h1 ⟨rfl, s0, rfl, hF0, hV0⟩
  refine s_k 1 rfl rfl ?_
  refine am_s rfl rfl ?_
  refine am_lv [(2, .int (iI (((1 : Nat) : Int) : Int))), (1, .int (iI (n : Int))), (0, .ref 48)] rfl rfl ⟨rfl, rfl, rfl, trivial⟩ ?_
  refine s_loop (X := Unit) (fun m _ s' => am_Fr [57] s s' ∧ ∀ c, 0 ≤ c → c < 20 → s' 57 c = dgf (s 50) m c) (fun m _ => [(2, .int (iI (m : Int))), (1, .int (iI (n : Int))), (0, .ref 48)]) (lo := 1) (hi := n) (x := ()) (by omega) ⟨hF0, fun c c0 c1 => by rw [hV0 c c0 c1]; rfl⟩ ?_ ?_
  · rintro m - s1 hm0 hm ⟨hF, hV⟩ kk
    simp only at kk ⊢
    refine am_s rfl rfl ?_
    refine am_s rfl rfl ?_
    refine s_cge rfl ⟨by omega, by omega⟩ ⟨by omega, by omega⟩ (fun c1 => absurd c1 (by omega)) (fun c1 => ?_)
    refine am_s rfl rfl ?_
    refine s_gr rfl g rfl rfl ?_
    refine am_s rfl rfl ?_
    have hh := hu m (by omega) (by omega)
    have e50 : s1 50 = s 50 := hF 50 (by decide)
    refine am_s rfl rfl ?_
    refine s_ia rfl g rfl ⟨by omega, by omega⟩ (by decide) ?_
    refine s_k 1 rfl rfl ?_
    refine s_iadd rfl ?_
    refine s_is rfl g rfl ⟨by omega, by omega⟩ (by decide) ?_
    refine am_s rfl rfl ?_
    refine s_gr rfl g rfl rfl ?_
    refine am_s rfl rfl ?_
    refine s_gr rfl g rfl rfl ?_
    refine s_gr rfl g rfl rfl ?_
    refine am_s rfl rfl ?_
    refine s_ia rfl g rfl ⟨by omega, by omega⟩ (by decide) ?_
    refine am_s rfl rfl ?_
    refine s_ia rfl g rfl ⟨by rw [am_w_a (by decide), e50]; omega, by rw [am_w_a (by decide), e50]; omega⟩ (by decide) ?_
    refine s_k 1 rfl rfl ?_
    refine s_iadd rfl ?_
    refine s_is rfl g rfl ⟨by rw [am_w_a (by decide), e50]; omega, by rw [am_w_a (by decide), e50]; omega⟩ (by decide) ?_
    refine s_inc rfl rfl ?_
    refine am_s rfl rfl ?_
    refine am_lv [(2, _), (1, _), (0, _)] rfl rfl ⟨rfl, rfl, rfl, trivial⟩ ?_
    refine kk () _ ⟨am_Fr_W (am_Fr_W hF (by decide)) (by decide), fun c c0 c1 => ?_⟩
    rw [dg_two rfl rfl c, am_w_a (by decide), e50, hV c c0 c1]
    exact (dgf_s (show m ≠ 0 by omega) c).symm
  · rintro - s1 ⟨hF, hV⟩
    simp only
    refine am_s rfl rfl ?_
    refine am_s rfl rfl ?_
    refine s_cge rfl ⟨by omega, by omega⟩ ⟨by omega, by omega⟩ (fun c1 => ?_) (fun c1 => absurd c1 (by omega))
    refine am_s rfl rfl ?_
    refine s_k 0 rfl rfl ?_
    refine s_pi (x := 2) rfl g rfl rfl rfl rfl ?_
    refine s_k 0 rfl rfl ?_
    refine am_s rfl rfl ?_
    refine am_lv [(2, .int (iI (((0 : Nat) : Int) : Int))), (1, .int (iI (n : Int))), (0, .ref 48)] rfl rfl ⟨rfl, rfl, rfl, trivial⟩ ?_
    refine s_loop (X := Unit) (fun m _ s' => am_Fr [48, 55, 57] s s' ∧ (∀ y, y ≠ 2 → s' 48 y = s 48 y) ∧ (∀ c, 0 ≤ c → c < 20 → s' 57 c = dgf (s 50) n c) ∧ s' 48 2 = oc (dgf (s 50) n) m ∧ od_is (dgf (s 50) n) m (s' 55)) (fun m _ => [(2, .int (iI (m : Int))), (1, .int (iI (n : Int))), (0, .ref 48)]) (hi := n) (x := ()) (Nat.zero_le n) ⟨am_Fr_W (am_Fr_m hF (by decide)) (by decide), fun y hy => by rw [am_w_x hy, hF 48 (by decide)], fun c c0 c1 => by rw [am_w_a (by decide)]; exact hV c c0 c1, am_w_eq _ _ _ _, fun k hk => absurd hk (Nat.not_lt_zero k)⟩ ?_ ?_
    · rintro m - s1 hm0 hm ⟨hF1, h2, h3, h4, h5⟩ kk
      have hdl := dgf_le (s 50) n m
      have hol := oc_le (dgf (s 50) n) m
      have e57 := h3 m (by omega) (by omega)
      simp only at kk ⊢
      refine am_s rfl rfl ?_
      refine am_s rfl rfl ?_
      refine s_cge rfl ⟨by omega, by omega⟩ ⟨by omega, by omega⟩ (fun c1 => absurd c1 (by omega)) (fun c1 => ?_)
      refine am_s rfl rfl ?_
      refine s_gr rfl g rfl rfl ?_
      refine am_s rfl rfl ?_
      refine s_ia rfl g rfl ⟨by omega, by omega⟩ (by decide) ?_
      refine s_k 2 rfl rfl ?_
      refine s_irem rfl ⟨by omega, by omega⟩ ⟨by omega, by omega⟩ ?_
      refine s_zeq rfl ⟨by omega, by omega⟩ (fun c2 => ?_) (fun c2 => ?_)
      · refine s_inc rfl rfl ?_
        refine am_s rfl rfl ?_
        refine am_lv [(2, _), (1, _), (0, _)] rfl rfl ⟨rfl, rfl, rfl, trivial⟩ ?_
        refine kk () _ ⟨hF1, h2, h3, ?_, fun k hk hd => ?_⟩
        · show _ = oc (dgf (s 50) n) m + dgf (s 50) n m % 2
          rw [h4]; omega
        · by_cases e : k = m
          · subst e; omega
          · exact h5 k (by omega) hd
      · refine am_s rfl rfl ?_
        refine s_gr rfl g rfl rfl ?_
        refine am_s rfl rfl ?_
        refine s_gi (x := 2) rfl g rfl rfl rfl ?_
        refine am_s rfl rfl ?_
        refine s_is rfl g rfl ⟨by rw [h4]; omega, by rw [h4]; omega⟩ (by decide) ?_
        refine am_s rfl rfl ?_
        refine am_s rfl rfl ?_
        refine s_gi (x := 2) rfl g rfl rfl rfl ?_
        refine s_k 1 rfl rfl ?_
        refine s_iadd rfl ?_
        refine s_pi (x := 2) rfl g rfl rfl rfl rfl ?_
        refine s_inc rfl rfl ?_
        refine am_s rfl rfl ?_
        refine am_lv [(2, _), (1, _), (0, _)] rfl rfl ⟨rfl, rfl, rfl, trivial⟩ ?_
        have e2 : am_w s1 55 (s1 48 2) m 48 2 = s1 48 2 := am_w_a (by decide)
        refine kk () _ ⟨am_Fr_W (am_Fr_W hF1 (by decide)) (by decide), fun y hy => by rw [am_w_x hy, am_w_a (by decide)]; exact h2 y hy, fun c c0 c1 => by rw [am_w_a (by decide), am_w_a (by decide)]; exact h3 c c0 c1, ?_, fun k hk hd => ?_⟩
        · rw [am_w_eq, e2, h4]
          show _ = oc (dgf (s 50) n) m + dgf (s 50) n m % 2
          omega
        · rw [am_w_a (by decide)]
          by_cases e : k = m
          · subst e; rw [← h4, am_w_eq]
          · rw [am_w_x]
            · exact h5 k (by omega) hd
            · rw [h4]
              have := oc_lt (dgf (s 50) n) (show k < m by omega) hd
              omega
    · rintro - s1 ⟨hF1, h2, h3, h4, h5⟩
      simp only
      refine am_s rfl rfl ?_
      refine am_s rfl rfl ?_
      refine s_cge rfl ⟨by omega, by omega⟩ ⟨by omega, by omega⟩ (fun c1 => ?_) (fun c1 => absurd c1 (by omega))
      exact am_r rfl rfl ⟨rfl, s1, rfl, hF1, h2, h4, h5⟩
