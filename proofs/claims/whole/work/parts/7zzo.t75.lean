/-! the pairing: its sum; who is left -/
def psf (s : am_S) : Nat → Int := fun c => if (c : Int) < s 60 c then s (26 + 1 + (c : Int).toNat) (s 60 c) else 0
theorem t_sumOfPairs {d : Nat} {E : am_Ev} {s : am_S} (g : am_Eg E) (hm : mx_ok s) (hp : ∀ c, 0 ≤ c → c < s 25 0 → -1 ≤ s 60 c ∧ s 60 c < s 25 0) : am_wp d 76 0 (lv_args 0 [.ref 58, .ref 25]) [] (am_hp E s) (fun rv h => rv = some (.long (lI (mt_s (psf s) (s 25 0).toNat))) ∧ h = am_hp E s) := by
  have m1 := hm.1
  have m2 := hm.2.1
  obtain ⟨n, en⟩ : ∃ n : Nat, s 25 0 = n := ⟨(s 25 0).toNat, by omega⟩
  refine s_kl 0 rfl rfl ?_
  refine am_s rfl rfl ?_
  refine s_k 0 rfl rfl ?_
  refine am_s rfl rfl ?_
  refine am_lv [(4, .int (iI (((0 : Nat) : Int) : Int))), (2, .long (lI 0)), (1, .ref 25), (0, .ref 58)] rfl rfl ⟨rfl, rfl, rfl, rfl, trivial⟩ ?_
  refine s_loop (X := Int) (fun k x s' => s = s' ∧ x = mt_s (psf s) k) (fun k x => [(4, .int (iI (k : Int))), (2, .long (lI x)), (1, .ref 25), (0, .ref 58)]) (hi := n) (x := 0) (Nat.zero_le n) ⟨rfl, rfl⟩ ?_ ?_
  · rintro k x s1 hk0 hk1 ⟨rfl, hx⟩ kk
    simp only at kk ⊢
    have hpk := hp k (by omega) (by omega)
    refine am_s rfl rfl ?_
    refine am_s rfl rfl ?_
    refine s_gi (x := 0) rfl g rfl rfl rfl ?_
    refine s_cge rfl ⟨by omega, by omega⟩ ⟨by omega, by omega⟩ (fun c1 => absurd c1 (by omega)) (fun c1 => ?_)
    refine am_s rfl rfl ?_
    refine s_gr rfl g rfl rfl ?_
    refine am_s rfl rfl ?_
    refine s_ia rfl g rfl ⟨by omega, by omega⟩ (by decide) ?_
    refine am_s rfl rfl ?_
    refine s_cle rfl ⟨by omega, by omega⟩ ⟨by omega, by omega⟩ (fun c2 => ?_) (fun c2 => ?_)
    · refine s_inc rfl rfl ?_
      refine am_s rfl rfl ?_
      refine am_lv [(4, _), (2, _), (1, _), (0, _)] rfl rfl ⟨rfl, rfl, rfl, rfl, trivial⟩ ?_
      refine kk _ _ ⟨rfl, ?_⟩
      show x = mt_s (psf s) k + psf s k
      unfold psf
      rw [if_neg (by omega)]
      rw [hx]; unfold psf; omega
    · have hmx := hm.2.2 k (s 60 k) (by omega) (by omega) (by omega) (by omega)
      unfold mx at hmx
      refine am_s rfl rfl ?_
      refine am_s rfl rfl ?_
      refine s_gr rfl g rfl rfl ?_
      refine am_s rfl rfl ?_
      refine s_aa rfl g rfl ⟨by omega, by omega⟩ (by decide) ?_
      refine am_s rfl rfl ?_
      refine s_gr rfl g rfl rfl ?_
      refine am_s rfl rfl ?_
      refine s_ia rfl g rfl ⟨by omega, by omega⟩ (by decide) ?_
      refine s_ia rfl g (lo_26 (by omega) (by omega)) ⟨by omega, by omega⟩ (by decide) ?_
      refine s_i2l rfl ⟨by omega, by omega⟩ ?_
      refine s_ladd rfl ?_
      refine am_s rfl rfl ?_
      refine s_inc rfl rfl ?_
      refine am_s rfl rfl ?_
      refine am_lv [(4, _), (2, _), (1, _), (0, _)] rfl rfl ⟨rfl, rfl, rfl, rfl, trivial⟩ ?_
      refine kk _ _ ⟨rfl, ?_⟩
      show x + s (26 + 1 + (k : Int).toNat) (s 60 k) = mt_s (psf s) k + psf s k
      have e : psf s k = s (26 + 1 + (k : Int).toNat) (s 60 k) := if_pos (by omega)
      rw [hx, e]
  · rintro x s1 ⟨rfl, hx⟩
    simp only
    refine am_s rfl rfl ?_
    refine am_s rfl rfl ?_
    refine s_gi (x := 0) rfl g rfl rfl rfl ?_
    refine s_cge rfl ⟨by omega, by omega⟩ ⟨by omega, by omega⟩ (fun c1 => ?_) (fun c1 => absurd c1 (by omega))
    refine am_s rfl rfl ?_
    exact am_r rfl rfl ⟨by rw [hx, en, Int.toNat_natCast], rfl⟩
theorem pkc_mo (p e : Int → Int) {j k : Nat} (h : j ≤ k) : pkc p e j ≤ pkc p e k := by
  induction k with
  | zero => rw [Nat.le_zero.mp h]; exact Nat.le_refl _
  | succ k ih =>
    show pkc p e j ≤ pkc p e k + (if p (e k) = -1 then 1 else 0)
    by_cases c : j = k + 1
    · rw [c]; exact Nat.le_refl _
    · have := ih (by omega); omega
theorem pkc_ex (p e : Int → Int) : ∀ {n i : Nat}, i < pkc p e n → ∃ j, j < n ∧ p (e j) = -1 ∧ pkc p e j = i
  | 0, i, h => absurd h (Nat.not_lt_zero i)
  | n + 1, i, h => by
    have h : i < pkc p e n + (if p (e n) = -1 then 1 else 0) := h
    by_cases c : i < pkc p e n
    · obtain ⟨j, j1, j2, j3⟩ := pkc_ex p e c
      exact ⟨j, by omega, j2, j3⟩
    · by_cases c2 : p (e n) = -1
      · rw [if_pos c2] at h
        exact ⟨n, by omega, c2, by omega⟩
      · rw [if_neg c2] at h; omega
/-- the ranks of those who are left -/
theorem pkc_f (p e : Int → Int) (n : Nat) : ∃ f : Nat → Nat, mt_up (pkc p e n) n f ∧ (∀ i, i < pkc p e n → p (e (f i)) = -1 ∧ pkc p e (f i) = i) ∧ ∀ j, j < n → p (e j) = -1 → ∃ i, i < pkc p e n ∧ f i = j := by
  classical
  let f : Nat → Nat := fun i => if z : ∃ j, j < n ∧ p (e j) = -1 ∧ pkc p e j = i then Classical.choose z else 0
  have hf : ∀ i, i < pkc p e n → f i < n ∧ p (e (f i)) = -1 ∧ pkc p e (f i) = i := fun i hi => by
    have z := pkc_ex p e hi
    have q : f i = Classical.choose z := dif_pos z
    rw [q]
    exact Classical.choose_spec z
  refine ⟨f, ⟨fun i hi => (hf i hi).1, fun i j ij hj => ?_⟩, fun i hi => (hf i hi).2, fun j hj hu => ?_⟩
  · have a := hf i (by omega)
    have b := hf j hj
    rcases Nat.lt_or_ge (f i) (f j) with c | c
    · exact c
    · have := pkc_mo p e c
      omega
  · have lt := pkc_lt p e hj hu
    refine ⟨pkc p e j, lt, ?_⟩
    have a := hf _ lt
    rcases Nat.lt_trichotomy (f (pkc p e j)) j with c | c | c
    · have := pkc_lt p e c a.2.1; omega
    · exact c
    · have := pkc_lt p e c hu; omega
theorem pkc_s (p e : Int → Int) : ∀ n : Nat, (pkc p e n : Int) = mt_s (fun i => if p (e i) = -1 then 1 else 0) n
  | 0 => rfl
  | n + 1 => by
    show ((pkc p e n + (if p (e n) = -1 then 1 else 0) : Nat) : Int) = mt_s (fun i => if p (e i) = -1 then 1 else 0) n + (if p (e n) = -1 then 1 else 0)
    rw [← pkc_s p e n]
    split <;> omega
