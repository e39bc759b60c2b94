/-! bettering: moves -/
def nx0 (n q : Int) : Int := if q < n then q else 0
def wo (n k i p : Int) : Int := nx0 n (if p < i then p else p + k)
def pb (k i p : Int) (t t2 : Int → Int) : Prop := if p < i then sh (p + 1) i (i + k - 1) t t2 else sh i (i + k) (p + k) t t2
def msv (n : Int) (D : Int → Int → Int) (t : Int → Int) (k i : Int) : Int := D (t (i - 1)) (t i) + D (t (i + k - 1)) (t (nx0 n (i + k))) - D (t (i - 1)) (t (nx0 n (i + k)))
def mp (n : Int) (D : Int → Int → Int) (t : Int → Int) (k i p : Int) : Prop := D (t (wo n k i p)) (t i) + D (t (i + k - 1)) (t (wo n k i (p + 1))) < msv n D t k i + D (t (wo n k i p)) (t (wo n k i (p + 1)))
def mq (n : Int) (D : Int → Int → Int) (t : Int → Int) (k i p : Int) : Prop := D (t (wo n k i p)) (t (i + k - 1)) + D (t i) (t (wo n k i (p + 1))) < msv n D t k i + D (t (wo n k i p)) (t (wo n k i (p + 1)))
/-- the k stops at place i: the first place that pays is taken, as they are or turned, or none does -/
def ms_is (n : Int) (D : Int → Int → Int) (k i : Int) (t t2 : Int → Int) (r : Int) : Prop := (r = 0 ∧ (∀ p, 0 ≤ p → p < n - k → ¬ mp n D t k i p ∧ ¬ mq n D t k i p) ∧ t2 = t) ∨ (r = 1 ∧ ∃ p, 0 ≤ p ∧ p < n - k ∧ (∀ p2, 0 ≤ p2 → p2 < p → ¬ mp n D t k i p2 ∧ ¬ mq n D t k i p2) ∧ ((mp n D t k i p ∧ pb k i p t t2) ∨ (¬ mp n D t k i p ∧ mq n D t k i p ∧ ∃ t1, rv i (i + k - 1) t t1 ∧ pb k i p t1 t2)))
theorem wo_rng {n k i p : Int} (hn : 1 ≤ n) (hk : 1 ≤ k) (hp : 0 ≤ p) : 0 ≤ wo n k i p ∧ wo n k i p < n := by
  unfold wo nx0
  (repeat' split) <;> omega
theorem t_stopWithout {d : Nat} {E : am_Ev} {s : am_S} {k i p : Int} (g : am_Eg E) (hn : 1 ≤ s 151 1 ∧ s 151 1 ≤ 20) (hk : 1 ≤ k ∧ k ≤ 3) (hi : 1 ≤ i ∧ i + k ≤ s 151 1) (hp : 0 ≤ p ∧ p ≤ 20) : am_wp (d + 1) 108 0 (lv_args 0 [.ref 151, .int (iI k), .int (iI i), .int (iI p)]) [] (am_hp E s) (fun rv h => rv = some (.int (iI (s 152 (wo (s 151 1) k i p)))) ∧ h = am_hp E s) := by
  refine am_s rfl rfl ?_
  refine am_s rfl rfl ?_
  refine am_s rfl rfl ?_
  refine s_cge rfl ⟨by omega, by omega⟩ ⟨by omega, by omega⟩ (fun c1 => ?_) (fun c1 => ?_)
  · refine am_s rfl rfl ?_
    refine am_s rfl rfl ?_
    refine s_iadd rfl ?_
    refine s_cv [_] [] rfl g (Or.inl rfl) rfl rfl (Nat.le_of_ble_eq_true rfl) rfl rfl (t_stopAt g ⟨by omega, by omega⟩ ⟨by omega, by omega⟩) ?_
    rintro rv h1 ⟨rfl, rfl⟩
    exact am_r rfl rfl ⟨by unfold wo nx0; rw [show (if p < i then p else p + k) = _ from if_neg (by omega)], rfl⟩
  · refine am_s rfl rfl ?_
    refine am_s rfl rfl ?_
    refine s_cv [_] [] rfl g (Or.inl rfl) rfl rfl (Nat.le_of_ble_eq_true rfl) rfl rfl (t_stopAt g ⟨by omega, by omega⟩ ⟨by omega, by omega⟩) ?_
    rintro rv h1 ⟨rfl, rfl⟩
    exact am_r rfl rfl ⟨by unfold wo nx0; rw [show (if p < i then p else p + k) = _ from if_pos (by omega)], rfl⟩
theorem t_putBehind {d : Nat} {E : am_Ev} {s : am_S} {k i p : Int} (g : am_Eg E) (hn : 1 ≤ s 151 1 ∧ s 151 1 ≤ 20) (hk : 1 ≤ k ∧ k ≤ 3) (hi : 1 ≤ i ∧ i + k ≤ s 151 1) (hp : 0 ≤ p ∧ p < s 151 1 - k) : am_wp (d + 2) 109 0 (lv_args 0 [.ref 151, .int (iI k), .int (iI i), .int (iI p)]) [] (am_hp E s) (fun rv h => rv = none ∧ ∃ s', h = am_hp E s' ∧ am_Fr [152] s s' ∧ pb k i p (s 152) (s' 152)) := by
  refine am_s rfl rfl ?_
  refine am_s rfl rfl ?_
  refine s_cge rfl ⟨by omega, by omega⟩ ⟨by omega, by omega⟩ (fun c1 => ?_) (fun c1 => ?_)
  · refine am_s rfl rfl ?_
    refine s_gr rfl g rfl rfl ?_
    refine am_s rfl rfl ?_
    refine am_s rfl rfl ?_
    refine am_s rfl rfl ?_
    refine s_iadd rfl ?_
    refine am_s rfl rfl ?_
    refine am_s rfl rfl ?_
    refine s_iadd rfl ?_
    refine am_cs (As := [_, _, _, _]) (rest := []) rfl (Or.inr rfl) rfl rfl (Nat.le_of_ble_eq_true rfl) rfl (t_shift g (by omega) ⟨by omega, by omega⟩ ⟨by omega, by omega⟩) ?_
    rintro rv h1 ⟨rfl, s2, rfl, hF, hR⟩
    exact am_r rfl rfl ⟨rfl, s2, rfl, hF, by unfold pb; rw [if_neg (by omega)]; exact hR⟩
  · refine am_s rfl rfl ?_
    refine s_gr rfl g rfl rfl ?_
    refine am_s rfl rfl ?_
    refine s_k 1 rfl rfl ?_
    refine s_iadd rfl ?_
    refine am_s rfl rfl ?_
    refine am_s rfl rfl ?_
    refine am_s rfl rfl ?_
    refine s_iadd rfl ?_
    refine s_k 1 rfl rfl ?_
    refine s_isub rfl ?_
    refine am_cs (As := [_, _, _, _]) (rest := []) rfl (Or.inr rfl) rfl rfl (Nat.le_of_ble_eq_true rfl) rfl (t_shift g (by omega) ⟨by omega, by omega⟩ ⟨by omega, by omega⟩) ?_
    rintro rv h1 ⟨rfl, s2, rfl, hF, hR⟩
    refine am_s rfl rfl ?_
    exact am_r rfl rfl ⟨rfl, s2, rfl, hF, by unfold pb; rw [if_pos (by omega)]; exact hR⟩
