/-! bettering: moves -/
def nx0 (n q : Int) : Int := if q < n then q else 0
def wo (n k i p : Int) : Int := nx0 n (if p < i then p else p + k)
def pb (k i p : Int) (t t2 : Int → Int) : Prop := if p < i then sh (p + 1) i (i + k - 1) t t2 else sh i (i + k) (p + k) t t2
def msv (n : Int) (D : Int → Int → Int) (t : Int → Int) (k i : Int) : Int := D (t (i - 1)) (t i) + D (t (i + k - 1)) (t (nx0 n (i + k))) - D (t (i - 1)) (t (nx0 n (i + k)))
def mp (n : Int) (D : Int → Int → Int) (t : Int → Int) (k i p : Int) : Prop := D (t (wo n k i p)) (t i) + D (t (i + k - 1)) (t (wo n k i (p + 1))) < msv n D t k i + D (t (wo n k i p)) (t (wo n k i (p + 1)))
def mq (n : Int) (D : Int → Int → Int) (t : Int → Int) (k i p : Int) : Prop := D (t (wo n k i p)) (t (i + k - 1)) + D (t i) (t (wo n k i (p + 1))) < msv n D t k i + D (t (wo n k i p)) (t (wo n k i (p + 1)))
/-- the k stops at place i: the first place that pays is taken, as they are or turned, or none does -/
def ms_is (n : Int) (D : Int → Int → Int) (k i : Int) (t t2 : Int → Int) (r : Int) : Prop := (r = 0 ∧ (∀ p, 0 ≤ p → p < n - k → ¬ mp n D t k i p ∧ ¬ mq n D t k i p) ∧ t2 = t) ∨ (r = 1 ∧ ∃ p, 0 ≤ p ∧ p < n - k ∧ (∀ p2, 0 ≤ p2 → p2 < p → ¬ mp n D t k i p2 ∧ ¬ mq n D t k i p2) ∧ ((mp n D t k i p ∧ pb k i p t t2) ∨ (¬ mp n D t k i p ∧ mq n D t k i p ∧ ∃ t1, rv i (i + k - 1) t t1 ∧ pb k i p t1 t2)))
theorem wo_rng {n k i p : Int} (hn : 1 ≤ n) (hk : 1 ≤ k) (hp : 0 ≤ p) : 0 ≤ wo n k i p ∧ wo n k i p < n := by
  unfold wo nx0
  (repeat' split) <;> omega
theorem t_stopWithout {d : Nat} {E : am_Ev} {s : am_S} {k i p : Int} (g : am_Eg E) (hn : 1 ≤ s 151 1 ∧ s 151 1 ≤ 20) (hk : 1 ≤ k ∧ k ≤ 3) (hi : 1 ≤ i ∧ i + k ≤ s 151 1) (hp : 0 ≤ p ∧ p ≤ 20) : am_wp (d + 1) 108 0 (lv_args 0 [.ref 151, .int (iI k), .int (iI i), .int (iI p)]) [] (am_hp E s) (fun rv h => rv = some (.int (iI (s 152 (wo (s 151 1) k i p)))) ∧ h = am_hp E s) := by
  refine am_s rfl rfl ?_
  refine am_s rfl rfl ?_
  refine am_s rfl rfl ?_
  refine s_cge rfl ⟨by omega, by omega⟩ ⟨by omega, by omega⟩ (fun c1 => ?_) (fun c1 => ?_)
  · refine am_s rfl rfl ?_
    refine am_s rfl rfl ?_
    refine s_iadd rfl ?_
    refine s_cv [_] [] rfl g (Or.inl rfl) rfl rfl (Nat.le_of_ble_eq_true rfl) rfl rfl (t_stopAt g ⟨by omega, by omega⟩ ⟨by omega, by omega⟩) ?_
    rintro rv h1 ⟨rfl, rfl⟩
    exact am_r rfl rfl ⟨by unfold wo nx0; rw [show (if p < i then p else p + k) = _ from if_neg (by omega)], rfl⟩
  · refine am_s rfl rfl ?_
    refine am_s rfl rfl ?_
    refine s_cv [_] [] rfl g (Or.inl rfl) rfl rfl (Nat.le_of_ble_eq_true rfl) rfl rfl (t_stopAt g ⟨by omega, by omega⟩ ⟨by omega, by omega⟩) ?_
    rintro rv h1 ⟨rfl, rfl⟩
    exact am_r rfl rfl ⟨by unfold wo nx0; rw [show (if p < i then p else p + k) = _ from if_pos (by omega)], rfl⟩
theorem t_putBehind {d : Nat} {E : am_Ev} {s : am_S} {k i p : Int} (g : am_Eg E) (hn : 1 ≤ s 151 1 ∧ s 151 1 ≤ 20) (hk : 1 ≤ k ∧ k ≤ 3) (hi : 1 ≤ i ∧ i + k ≤ s 151 1) (hp : 0 ≤ p ∧ p < s 151 1 - k) : am_wp (d + 2) 109 0 (lv_args 0 [.ref 151, .int (iI k), .int (iI i), .int (iI p)]) [] (am_hp E s) (fun rv h => rv = none ∧ ∃ s', h = am_hp E s' ∧ am_Fr [152] s s' ∧ pb k i p (s 152) (s' 152)) := by
  refine am_s rfl rfl ?_
  refine am_s rfl rfl ?_
  refine s_cge rfl ⟨by omega, by omega⟩ ⟨by omega, by omega⟩ (fun c1 => ?_) (fun c1 => ?_)
  · refine am_s rfl rfl ?_
    refine s_gr rfl g rfl rfl ?_
    refine am_s rfl rfl ?_
    refine am_s rfl rfl ?_
    refine am_s rfl rfl ?_
    refine s_iadd rfl ?_
    refine am_s rfl rfl ?_
    refine am_s rfl rfl ?_
    refine s_iadd rfl ?_
    refine am_cs (As := [_, _, _, _]) (rest := []) rfl (Or.inr rfl) rfl rfl (Nat.le_of_ble_eq_true rfl) rfl (t_shift g (by omega) ⟨by omega, by omega⟩ ⟨by omega, by omega⟩) ?_
    rintro rv h1 ⟨rfl, s2, rfl, hF, hR⟩
    exact am_r rfl rfl ⟨rfl, s2, rfl, hF, by unfold pb; rw [if_neg (by omega)]; exact hR⟩
  · refine am_s rfl rfl ?_
    refine s_gr rfl g rfl rfl ?_
    refine am_s rfl rfl ?_
    refine s_k 1 rfl rfl ?_
    refine s_iadd rfl ?_
    refine am_s rfl rfl ?_
    refine am_s rfl rfl ?_
    refine am_s rfl rfl ?_
    refine s_iadd rfl ?_
    refine s_k 1 rfl rfl ?_
    refine s_isub rfl ?_
    refine am_cs (As := [_, _, _, _]) (rest := []) rfl (Or.inr rfl) rfl rfl (Nat.le_of_ble_eq_true rfl) rfl (t_shift g (by omega) ⟨by omega, by omega⟩ ⟨by omega, by omega⟩) ?_
    rintro rv h1 ⟨rfl, s2, rfl, hF, hR⟩
    refine am_s rfl rfl ?_
    exact am_r rfl rfl ⟨rfl, s2, rfl, hF, by unfold pb; rw [if_pos (by omega)]; exact hR⟩
set_option maxHeartbeats 4000000 in
theorem t_moveSome {d : Nat} {E : am_Ev} {s : am_S} {k i : Int} {PP : Option Value → am_H → Prop} (g : am_Eg E) (hm : mx_ok s) (hc : s 151 1 = s 25 0) (ht : st_ok (s 25 0) (s 152)) (hk : 1 ≤ k ∧ k ≤ 3) (hi : 1 ≤ i ∧ i + k ≤ s 151 1) (hPP : ∀ r s', am_Fr [152] s s' → ms_is (s 151 1) (mx s) k i (s 152) (s' 152) r → PP (some (.int (iI r))) (am_hp E s')) : am_wp (d + 3) 107 0 (lv_args 0 [.ref 151, .ref 26, .int (iI k), .int (iI i)]) [] (am_hp E s) PP := by
  obtain ⟨n1, n2, hD⟩ := hm
  obtain ⟨n, en⟩ : ∃ n : Nat, s 151 1 - k = n := ⟨(s 151 1 - k).toNat, by omega⟩
  have ha1 := ht i (by omega) (by omega)
  have ha2 := ht (i + k - 1) (by omega) (by omega)
  have ha3 := ht (i - 1) (by omega) (by omega)
  refine am_s rfl rfl ?_
  refine s_gr rfl g rfl rfl ?_
  refine am_s rfl rfl ?_
  refine s_ia rfl g rfl ⟨by omega, by omega⟩ (by decide) ?_
  refine am_s rfl rfl ?_
  refine am_s rfl rfl ?_
  refine s_gr rfl g rfl rfl ?_
  refine am_s rfl rfl ?_
  refine am_s rfl rfl ?_
  refine s_iadd rfl ?_
  refine s_k 1 rfl rfl ?_
  refine s_isub rfl ?_
  refine s_ia rfl g rfl ⟨by omega, by omega⟩ (by decide) ?_
  refine am_s rfl rfl ?_
  refine am_s rfl rfl ?_
  refine s_gr rfl g rfl rfl ?_
  refine am_s rfl rfl ?_
  refine s_k 1 rfl rfl ?_
  refine s_isub rfl ?_
  refine s_ia rfl g rfl ⟨by omega, by omega⟩ (by decide) ?_
  refine am_s rfl rfl ?_
  refine am_s rfl rfl ?_
  refine am_s rfl rfl ?_
  refine am_s rfl rfl ?_
  refine s_iadd rfl ?_
  refine s_cv [_] [] rfl g (Or.inl rfl) rfl rfl (Nat.le_of_ble_eq_true rfl) rfl rfl (t_stopAt g ⟨by omega, by omega⟩ ⟨by omega, by omega⟩) ?_
  rintro rv h1 ⟨rfl, rfl⟩
  change am_wp _ _ _ _ [.int (iI (s 152 (nx0 (s 151 1) (i + k))))] _ _
  have hne : 0 ≤ nx0 (s 151 1) (i + k) ∧ nx0 (s 151 1) (i + k) < s 151 1 := by unfold nx0; split <;> omega
  have hb := ht (nx0 (s 151 1) (i + k)) (by omega) (by omega)
  have dA := hD (s 152 (i - 1)) (s 152 (i)) (by omega) (by omega) (by omega) (by omega)
  unfold mx at dA
  have dB := hD (s 152 (i + k - 1)) (s 152 (nx0 (s 151 1) (i + k))) (by omega) (by omega) (by omega) (by omega)
  unfold mx at dB
  have dC := hD (s 152 (i - 1)) (s 152 (nx0 (s 151 1) (i + k))) (by omega) (by omega) (by omega) (by omega)
  unfold mx at dC
  refine am_s rfl rfl ?_
  refine am_s rfl rfl ?_
  refine am_s rfl rfl ?_
  refine s_aa rfl g rfl ⟨by omega, by omega⟩ (by decide) ?_
  refine am_s rfl rfl ?_
  refine s_ia rfl g (lo_26 (by omega) (by omega)) ⟨by omega, by omega⟩ (by decide) ?_
  refine s_i2l rfl ⟨by omega, by omega⟩ ?_
  refine am_s rfl rfl ?_
  refine am_s rfl rfl ?_
  refine s_aa rfl g rfl ⟨by omega, by omega⟩ (by decide) ?_
  refine am_s rfl rfl ?_
  refine s_ia rfl g (lo_26 (by omega) (by omega)) ⟨by omega, by omega⟩ (by decide) ?_
  refine s_i2l rfl ⟨by omega, by omega⟩ ?_
  refine s_ladd rfl ?_
  refine am_s rfl rfl ?_
  refine am_s rfl rfl ?_
  refine s_aa rfl g rfl ⟨by omega, by omega⟩ (by decide) ?_
  refine am_s rfl rfl ?_
  refine s_ia rfl g (lo_26 (by omega) (by omega)) ⟨by omega, by omega⟩ (by decide) ?_
  refine s_i2l rfl ⟨by omega, by omega⟩ ?_
  refine s_lsub rfl ?_
  refine am_s rfl rfl ?_
  refine s_k 0 rfl rfl ?_
  refine am_s rfl rfl ?_
  refine am_lv [(10, .int (iI (((0 : Nat) : Int) : Int))), (8, .long (lI (s (26 + 1 + (s 152 (i - 1)).toNat) (s 152 i) + s (26 + 1 + (s 152 (i + k - 1)).toNat) (s 152 (nx0 (s 151 1) (i + k))) - s (26 + 1 + (s 152 (i - 1)).toNat) (s 152 (nx0 (s 151 1) (i + k)))))), (5, .int (iI (s 152 (i + k - 1)))), (4, .int (iI (s 152 i))), (3, .int (iI i)), (2, .int (iI k)), (1, .ref 26), (0, .ref 151)] rfl rfl ⟨rfl, rfl, rfl, rfl, rfl, rfl, rfl, rfl, trivial⟩ ?_
  refine s_loop (X := Unit) (fun p _ s' => s = s' ∧ ∀ p2, 0 ≤ p2 → p2 < (p : Int) → ¬ mp (s 151 1) (mx s) (s 152) k i p2 ∧ ¬ mq (s 151 1) (mx s) (s 152) k i p2) (fun p _ => [(10, .int (iI (p : Int))), (8, .long (lI (s (26 + 1 + (s 152 (i - 1)).toNat) (s 152 i) + s (26 + 1 + (s 152 (i + k - 1)).toNat) (s 152 (nx0 (s 151 1) (i + k))) - s (26 + 1 + (s 152 (i - 1)).toNat) (s 152 (nx0 (s 151 1) (i + k)))))), (5, .int (iI (s 152 (i + k - 1)))), (4, .int (iI (s 152 i))), (3, .int (iI i)), (2, .int (iI k)), (1, .ref 26), (0, .ref 151)]) (hi := n) (x := ()) (Nat.zero_le n) ⟨rfl, fun p2 a1 a2 => by omega⟩ ?_ ?_
  · rintro p - s1 hp0 hpn ⟨rfl, hQ⟩ kk
    simp only at kk ⊢
    refine am_s rfl rfl ?_
    refine am_s rfl rfl ?_
    refine s_gi (x := 1) rfl g rfl rfl rfl ?_
    refine am_s rfl rfl ?_
    refine s_isub rfl ?_
    refine s_cge rfl ⟨by omega, by omega⟩ ⟨by omega, by omega⟩ (fun c1 => absurd c1 (by omega)) (fun c1 => ?_)
    refine am_s rfl rfl ?_
    refine am_s rfl rfl ?_
    refine am_s rfl rfl ?_
    refine am_s rfl rfl ?_
    refine s_cv [_, _, _] [] rfl g (Or.inl rfl) rfl rfl (Nat.le_of_ble_eq_true rfl) rfl rfl (t_stopWithout (p := p) g ⟨by omega, by omega⟩ hk ⟨by omega, by omega⟩ ⟨by omega, by omega⟩) ?_
    rintro rv h1 ⟨rfl, rfl⟩
    refine am_s rfl rfl ?_
    refine am_s rfl rfl ?_
    refine am_s rfl rfl ?_
    refine am_s rfl rfl ?_
    refine am_s rfl rfl ?_
    refine s_k 1 rfl rfl ?_
    refine s_iadd rfl ?_
    refine s_cv [_, _, _] [] rfl g (Or.inl rfl) rfl rfl (Nat.le_of_ble_eq_true rfl) rfl rfl (t_stopWithout (p := (p : Int) + 1) g ⟨by omega, by omega⟩ hk ⟨by omega, by omega⟩ ⟨by omega, by omega⟩) ?_
    rintro rv h1 ⟨rfl, rfl⟩
    have w0 := wo_rng (n := s 151 1) (k := k) (i := i) (p := p) (by omega) (by omega) (by omega)
    have w1 := wo_rng (n := s 151 1) (k := k) (i := i) (p := (p : Int) + 1) (by omega) (by omega) (by omega)
    have u0 := ht (wo (s 151 1) k i p) (by omega) (by omega)
    have u1 := ht (wo (s 151 1) k i (p + 1)) (by omega) (by omega)
    have e1 := hD (s 152 (wo (s 151 1) k i p)) (s 152 (wo (s 151 1) k i (p + 1))) (by omega) (by omega) (by omega) (by omega)
    unfold mx at e1
    have e2 := hD (s 152 (wo (s 151 1) k i p)) (s 152 (i)) (by omega) (by omega) (by omega) (by omega)
    unfold mx at e2
    have e3 := hD (s 152 (i + k - 1)) (s 152 (wo (s 151 1) k i (p + 1))) (by omega) (by omega) (by omega) (by omega)
    unfold mx at e3
    have e4 := hD (s 152 (wo (s 151 1) k i p)) (s 152 (i + k - 1)) (by omega) (by omega) (by omega) (by omega)
    unfold mx at e4
    have e5 := hD (s 152 (i)) (s 152 (wo (s 151 1) k i (p + 1))) (by omega) (by omega) (by omega) (by omega)
    unfold mx at e5
    refine am_s rfl rfl ?_
    refine am_s rfl rfl ?_
    refine am_s rfl rfl ?_
    refine am_s rfl rfl ?_
    refine s_aa rfl g rfl ⟨by omega, by omega⟩ (by decide) ?_
    refine am_s rfl rfl ?_
    refine s_ia rfl g (lo_26 (by omega) (by omega)) ⟨by omega, by omega⟩ (by decide) ?_
    refine s_i2l rfl ⟨by omega, by omega⟩ ?_
    refine s_ladd rfl ?_
    refine am_s rfl rfl ?_
    refine am_s rfl rfl ?_
    refine am_s rfl rfl ?_
    refine s_aa rfl g rfl ⟨by omega, by omega⟩ (by decide) ?_
    refine am_s rfl rfl ?_
    refine s_ia rfl g (lo_26 (by omega) (by omega)) ⟨by omega, by omega⟩ (by decide) ?_
    refine s_i2l rfl ⟨by omega, by omega⟩ ?_
    refine am_s rfl rfl ?_
    refine am_s rfl rfl ?_
    refine s_aa rfl g rfl ⟨by omega, by omega⟩ (by decide) ?_
    refine am_s rfl rfl ?_
    refine s_ia rfl g (lo_26 (by omega) (by omega)) ⟨by omega, by omega⟩ (by decide) ?_
    refine s_i2l rfl ⟨by omega, by omega⟩ ?_
    refine s_ladd rfl ?_
    refine am_s rfl rfl ?_
    refine s_jge rfl rfl ⟨by omega, by omega⟩ ⟨by omega, by omega⟩ (fun c2 => ?_) (fun c2 => ?_)
    · refine am_s rfl rfl ?_
      refine am_s rfl rfl ?_
      refine s_aa rfl g rfl ⟨by omega, by omega⟩ (by decide) ?_
      refine am_s rfl rfl ?_
      refine s_ia rfl g (lo_26 (by omega) (by omega)) ⟨by omega, by omega⟩ (by decide) ?_
      refine s_i2l rfl ⟨by omega, by omega⟩ ?_
      refine am_s rfl rfl ?_
      refine am_s rfl rfl ?_
      refine s_aa rfl g rfl ⟨by omega, by omega⟩ (by decide) ?_
      refine am_s rfl rfl ?_
      refine s_ia rfl g (lo_26 (by omega) (by omega)) ⟨by omega, by omega⟩ (by decide) ?_
      refine s_i2l rfl ⟨by omega, by omega⟩ ?_
      refine s_ladd rfl ?_
      refine am_s rfl rfl ?_
      refine s_jge rfl rfl ⟨by omega, by omega⟩ ⟨by omega, by omega⟩ (fun c3 => ?_) (fun c3 => ?_)
      · refine s_inc rfl rfl ?_
        refine am_s rfl rfl ?_
        refine am_lv [(10, _), (8, _), (5, _), (4, _), (3, _), (2, _), (1, _), (0, _)] rfl rfl ⟨rfl, rfl, rfl, rfl, rfl, rfl, rfl, rfl, trivial⟩ ?_
        refine kk () _ ⟨rfl, fun p2 a1 a2 => ?_⟩
        by_cases e : p2 = (p : Int)
        · rw [e]; exact ⟨fun z => by unfold mp msv mx at z; omega, fun z => by unfold mq msv mx at z; omega⟩
        · exact hQ p2 a1 (by omega)
      · refine am_s rfl rfl ?_
        refine s_gr rfl g rfl rfl ?_
        refine am_s rfl rfl ?_
        refine am_s rfl rfl ?_
        refine am_s rfl rfl ?_
        refine s_iadd rfl ?_
        refine s_k 1 rfl rfl ?_
        refine s_isub rfl ?_
        refine am_cs (As := [_, _, _]) (rest := []) rfl (Or.inr rfl) rfl rfl (Nat.le_of_ble_eq_true rfl) rfl (t_turn g ⟨by omega, by omega⟩ ⟨by omega, by omega⟩) ?_
        rintro rv h1 ⟨rfl, s3, rfl, hF3, hR3⟩
        have e3n : s3 151 1 = s 151 1 := by rw [hF3 151 (by decide)]
        refine am_s rfl rfl ?_
        refine am_s rfl rfl ?_
        refine am_s rfl rfl ?_
        refine am_s rfl rfl ?_
        refine s_cv [_, _, _] [] rfl g (Or.inl rfl) rfl rfl (Nat.le_of_ble_eq_true rfl) rfl rfl (t_putBehind (s := s3) (p := p) g ⟨by omega, by omega⟩ hk ⟨by omega, by omega⟩ ⟨by omega, by omega⟩) ?_
        rintro rv h1 ⟨rfl, s2, rfl, hF, hR⟩
        refine s_k 1 rfl rfl ?_
        exact am_r rfl rfl (hPP 1 s2 (am_Fr_u hF3 hF) (Or.inr ⟨rfl, p, by omega, by omega, hQ, Or.inr ⟨fun z => by unfold mp msv mx at z; omega, by unfold mq msv mx; omega, s3 152, hR3, hR⟩⟩))
    · refine am_s rfl rfl ?_
      refine am_s rfl rfl ?_
      refine am_s rfl rfl ?_
      refine am_s rfl rfl ?_
      refine s_cv [_, _, _] [] rfl g (Or.inl rfl) rfl rfl (Nat.le_of_ble_eq_true rfl) rfl rfl (t_putBehind (s := s) (p := p) g ⟨by omega, by omega⟩ hk ⟨by omega, by omega⟩ ⟨by omega, by omega⟩) ?_
      rintro rv h1 ⟨rfl, s2, rfl, hF, hR⟩
      refine s_k 1 rfl rfl ?_
      exact am_r rfl rfl (hPP 1 s2 hF (Or.inr ⟨rfl, p, by omega, by omega, hQ, Or.inl ⟨by unfold mp msv mx; omega, hR⟩⟩))
  · rintro - s1 ⟨rfl, hQ⟩
    simp only
    refine am_s rfl rfl ?_
    refine am_s rfl rfl ?_
    refine s_gi (x := 1) rfl g rfl rfl rfl ?_
    refine am_s rfl rfl ?_
    refine s_isub rfl ?_
    refine s_cge rfl ⟨by omega, by omega⟩ ⟨by omega, by omega⟩ (fun c1 => ?_) (fun c1 => absurd c1 (by omega))
    refine s_k 0 rfl rfl ?_
    exact am_r rfl rfl (hPP 0 s (am_Fr_r _ _) (Or.inl ⟨rfl, fun p2 a1 a2 => hQ p2 a1 (by omega), rfl⟩))
