/-! lengths of tours -/
def nxt (n i : Int) : Int := if i + 1 < n then i + 1 else 0
def tl (n : Int) (D : Int → Int → Int) (t : Int → Int) (k : Nat) : Int := mt_s (fun i => D (t i) (t (nxt n i))) k
theorem tl_s (n : Int) (D : Int → Int → Int) (t : Int → Int) (k : Nat) : tl n D t (k + 1) = tl n D t k + D (t k) (t (nxt n k)) := rfl
/-- stops are cities -/
def st_ok (n : Int) (t : Int → Int) : Prop := ∀ i, 0 ≤ i → i < n → 0 ≤ t i ∧ t i < n
theorem nxt_r {n i : Int} (h0 : 0 ≤ i) (h1 : i < n) : 0 ≤ nxt n i ∧ nxt n i < n := by
  unfold nxt
  split <;> omega
theorem tl_le {n : Int} {D : Int → Int → Int} {t : Int → Int} (hD : ∀ a b, 0 ≤ a → a < n → 0 ≤ b → b < n → 0 ≤ D a b ∧ D a b < 2147483648) (ht : st_ok n t) : ∀ k : Nat, (k : Int) ≤ n → 0 ≤ tl n D t k ∧ tl n D t k ≤ k * 2147483648
  | 0, _ => ⟨Int.le_refl 0, Int.le_refl 0⟩
  | k + 1, h => by
    have h1 := tl_le hD ht k (by omega)
    have h2 := ht k (by omega) (by omega)
    have h3 := nxt_r (n := n) (i := k) (by omega) (by omega)
    have h4 := ht _ h3.1 h3.2
    have h5 := hD _ _ h2.1 h2.2 h4.1 h4.2
    rw [tl_s]
    omega
theorem tl_congr {n : Int} {D D2 : Int → Int → Int} {t t2 : Int → Int} (hD : ∀ a b, 0 ≤ a → a < n → 0 ≤ b → b < n → D a b = D2 a b) (ht : st_ok n t) (e : ∀ i, 0 ≤ i → i < n → t i = t2 i) (k : Nat) (hk : (k : Int) ≤ n) : tl n D t k = tl n D2 t2 k :=
  mt_s_congr (fun i hi => by
    have h3 := nxt_r (n := n) (i := i) (by omega) (by omega)
    have h1 := ht i (by omega) (by omega)
    have h2 := ht _ h3.1 h3.2
    rw [hD _ _ h1.1 h1.2 h2.1 h2.2, e i (by omega) (by omega), e _ h3.1 h3.2])
theorem t_stopAt {d : Nat} {E : am_Ev} {s : am_S} {i : Int} (g : am_Eg E) (hn : 1 ≤ s 151 1 ∧ s 151 1 ≤ 20) (hi : 0 ≤ i ∧ i < 1000) : am_wp d 103 0 (lv_args 0 [.ref 151, .int (iI i)]) [] (am_hp E s) (fun rv h => rv = some (.int (iI (s 152 (if i < s 151 1 then i else 0)))) ∧ h = am_hp E s) := by
  refine am_s rfl rfl ?_
  refine s_gr rfl g rfl rfl ?_
  refine am_s rfl rfl ?_
  refine am_s rfl rfl ?_
  refine s_gi (x := 1) rfl g rfl rfl rfl ?_
  refine s_cge rfl ⟨by omega, by omega⟩ ⟨by omega, by omega⟩ (fun c1 => ?_) (fun c1 => ?_)
  · refine s_k 0 rfl rfl ?_
    refine s_ia rfl g rfl ⟨by omega, by omega⟩ (by decide) ?_
    refine am_r rfl rfl ⟨?_, rfl⟩
    first | (rw [if_pos (by omega)]; done) | (rw [if_neg (by omega)]; done)
  · refine am_s rfl rfl ?_
    refine am_s rfl rfl ?_
    refine s_ia rfl g rfl ⟨by omega, by omega⟩ (by decide) ?_
    refine am_r rfl rfl ⟨?_, rfl⟩
    first | (rw [if_pos (by omega)]; done) | (rw [if_neg (by omega)]; done)
theorem t_measure {d : Nat} {E : am_Ev} {s : am_S} (g : am_Eg E) (hm : mx_ok s) (hc : s 151 1 = s 25 0) (ht : st_ok (s 25 0) (s 152)) : am_wp (d + 1) 101 0 (lv_args 0 [.ref 151, .ref 26]) [] (am_hp E s) (fun rv h => rv = some (.long (lI (tl (s 151 1) (mx s) (s 152) (s 151 1).toNat))) ∧ h = am_hp E s) := by
  obtain ⟨n1, n2, hD⟩ := hm
  obtain ⟨n, en⟩ : ∃ n : Nat, s 25 0 = n := ⟨(s 25 0).toNat, by omega⟩
  have ec : s 151 1 = n := hc.trans en
  rw [en] at ht
  refine s_kl 0 rfl rfl ?_
  refine am_s rfl rfl ?_
  refine s_k 0 rfl rfl ?_
  refine am_s rfl rfl ?_
  refine am_lv [(4, .int (iI (((0 : Nat) : Int) : Int))), (2, .long (lI (tl n (mx s) (s 152) 0))), (1, .ref 26), (0, .ref 151)] rfl rfl ⟨rfl, rfl, rfl, rfl, trivial⟩ ?_
  refine s_loop (X := Unit) (fun k _ s' => s = s') (fun k _ => [(4, .int (iI (k : Int))), (2, .long (lI (tl n (mx s) (s 152) k))), (1, .ref 26), (0, .ref 151)]) (hi := n) (x := ()) (Nat.zero_le n) rfl ?_ ?_
  · rintro k - s1 hk0 hk rfl kk
    have h2 := ht k (by omega) (by omega)
    have h3 := nxt_r (n := (n : Int)) (i := (k : Int)) (by omega) (by omega)
    have h4 := ht _ h3.1 h3.2
    have h5 := hD (s 152 k) (s 152 (nxt n k)) h2.1 (by omega) h4.1 (by omega)
    have en2 : (if (k : Int) + 1 < s 151 1 then (k : Int) + 1 else 0) = nxt n k := by unfold nxt; rw [ec]
    simp only at kk ⊢
    refine am_s rfl rfl ?_
    refine am_s rfl rfl ?_
    refine s_gi (x := 1) rfl g rfl rfl rfl ?_
    refine s_cge rfl ⟨by omega, by omega⟩ ⟨by omega, by omega⟩ (fun c1 => absurd c1 (by omega)) (fun c1 => ?_)
    refine am_s rfl rfl ?_
    refine am_s rfl rfl ?_
    refine am_s rfl rfl ?_
    refine s_gr rfl g rfl rfl ?_
    refine am_s rfl rfl ?_
    refine s_ia rfl g rfl ⟨by omega, by omega⟩ (by decide) ?_
    refine s_aa rfl g rfl ⟨by omega, by omega⟩ (by decide) ?_
    refine am_s rfl rfl ?_
    refine am_s rfl rfl ?_
    refine s_k 1 rfl rfl ?_
    refine s_iadd rfl ?_
    refine s_cv [_] [_, _] rfl g (Or.inl rfl) rfl rfl (Nat.le_of_ble_eq_true rfl) rfl rfl (t_stopAt g (i := (k : Int) + 1) ⟨by omega, by omega⟩ ⟨by omega, by omega⟩) ?_
    rintro rv h1 ⟨rfl, rfl⟩
    rw [en2]
    refine s_ia rfl g (lo_26 (by omega) (by omega)) ⟨by omega, by omega⟩ (by decide) ?_
    refine s_i2l rfl (by unfold mx at h5; exact ⟨by omega, by omega⟩) ?_
    refine s_ladd rfl ?_
    refine am_s rfl rfl ?_
    refine s_inc rfl rfl ?_
    refine am_s rfl rfl ?_
    refine am_lv [(4, _), (2, _), (1, _), (0, _)] rfl rfl ⟨rfl, rfl, rfl, rfl, trivial⟩ ?_
    exact kk () s rfl
  · rintro - s1 rfl
    simp only
    refine am_s rfl rfl ?_
    refine am_s rfl rfl ?_
    refine s_gi (x := 1) rfl g rfl rfl rfl ?_
    refine s_cge rfl ⟨by omega, by omega⟩ ⟨by omega, by omega⟩ (fun c1 => ?_) (fun c1 => absurd c1 (by omega))
    refine am_s rfl rfl ?_
    exact am_r rfl rfl ⟨by rw [ec, Int.toNat_natCast], rfl⟩
theorem t_placeOf {d : Nat} {E : am_Ev} {s : am_S} {c : Int} (g : am_Eg E) (hn : 1 ≤ s 151 1 ∧ s 151 1 ≤ 20) (hc : 0 ≤ c ∧ c < 20) (ht : ∀ i, 0 ≤ i → i < s 151 1 → 0 ≤ s 152 i ∧ s 152 i < 20) (hex : ∃ y, 0 ≤ y ∧ y < s 151 1 ∧ s 152 y = c) : am_wp d 100 0 (lv_args 0 [.ref 151, .int (iI c)]) [] (am_hp E s) (fun rv h => h = am_hp E s ∧ ∃ k, rv = some (.int (iI k)) ∧ 0 ≤ k ∧ k < s 151 1 ∧ s 152 k = c ∧ ∀ y, 0 ≤ y → y < k → s 152 y ≠ c) := by
  obtain ⟨n, en⟩ : ∃ n : Nat, s 151 1 = n := ⟨(s 151 1).toNat, by omega⟩
  refine s_k 0 rfl rfl ?_
  refine am_s rfl rfl ?_
  refine am_lv [(2, .int (iI (((0 : Nat) : Int) : Int))), (1, .int (iI c)), (0, .ref 151)] rfl rfl ⟨rfl, rfl, rfl, trivial⟩ ?_
  refine s_loop (X := Unit) (fun k _ s' => s = s' ∧ ∀ y, 0 ≤ y → y < (k : Int) → s 152 y ≠ c) (fun k _ => [(2, .int (iI (k : Int))), (1, .int (iI c)), (0, .ref 151)]) (hi := n) (x := ()) (Nat.zero_le n) ⟨rfl, fun y y0 y1 => absurd y1 (by omega)⟩ ?_ ?_
  · rintro k - s1 hk0 hk ⟨rfl, hA⟩ kk
    simp only at kk ⊢
    refine am_s rfl rfl ?_
    refine am_s rfl rfl ?_
    refine s_gi (x := 1) rfl g rfl rfl rfl ?_
    refine s_cge rfl ⟨by omega, by omega⟩ ⟨by omega, by omega⟩ (fun c1 => absurd c1 (by omega)) (fun c1 => ?_)
    refine am_s rfl rfl ?_
    refine s_gr rfl g rfl rfl ?_
    refine am_s rfl rfl ?_
    refine s_ia rfl g rfl ⟨by omega, by omega⟩ (by decide) ?_
    refine am_s rfl rfl ?_
    refine s_cne rfl (by have := ht k (by omega) (by omega); exact ⟨by omega, by omega⟩) ⟨by omega, by omega⟩ (fun c2 => ?_) (fun c2 => ?_)
    · refine s_inc rfl rfl ?_
      refine am_s rfl rfl ?_
      refine am_lv [(2, _), (1, _), (0, _)] rfl rfl ⟨rfl, rfl, rfl, trivial⟩ ?_
      refine kk () s ⟨rfl, fun y y0 y1 => ?_⟩
      by_cases e : y = (k : Int)
      · rw [e]; exact c2
      · exact hA y y0 (by omega)
    · refine am_s rfl rfl ?_
      exact am_r rfl rfl ⟨rfl, k, rfl, by omega, by omega, Decidable.of_not_not c2, hA⟩
  · rintro - s1 ⟨rfl, hA⟩
    simp only
    refine am_s rfl rfl ?_
    refine am_s rfl rfl ?_
    refine s_gi (x := 1) rfl g rfl rfl rfl ?_
    refine s_cge rfl ⟨by omega, by omega⟩ ⟨by omega, by omega⟩ (fun c1 => ?_) (fun c1 => absurd c1 (by omega))
    refine s_k 0 rfl rfl ?_
    obtain ⟨y, y0, y1, y2⟩ := hex
    exact absurd y2 (hA y y0 (by omega))
theorem t_lengthOf183 {d : Nat} {E : am_Ev} {s : am_S} (g : am_Eg E) (hm : my_ok s) (ht : st_ok (s 168 1) (s 183)) : am_wp (d + 1) 198 0 (lv_args 0 [.ref 168, .ref 183]) [] (am_hp E s) (fun rv h => rv = some (.long (lI (tl (s 168 1) (my s) (s 183) (s 168 1).toNat))) ∧ h = am_hp E s) := by
  obtain ⟨n1, n2, hD⟩ := hm
  obtain ⟨n, en⟩ : ∃ n : Nat, s 168 1 = n := ⟨(s 168 1).toNat, by omega⟩
  rw [en] at ht
  refine s_kl 0 rfl rfl ?_
  refine am_s rfl rfl ?_
  refine s_k 0 rfl rfl ?_
  refine am_s rfl rfl ?_
  refine am_lv [(4, .int (iI (((0 : Nat) : Int) : Int))), (2, .long (lI (tl n (my s) (s 183) 0))), (1, .ref 183), (0, .ref 168)] rfl rfl ⟨rfl, rfl, rfl, rfl, trivial⟩ ?_
  refine s_loop (X := Unit) (fun k _ s' => s = s') (fun k _ => [(4, .int (iI (k : Int))), (2, .long (lI (tl n (my s) (s 183) k))), (1, .ref 183), (0, .ref 168)]) (hi := n) (x := ()) (Nat.zero_le n) rfl ?_ ?_
  · rintro k - s1 hk0 hk rfl kk
    have h2 := ht k (by omega) (by omega)
    have h3 := nxt_r (n := (n : Int)) (i := (k : Int)) (by omega) (by omega)
    have h4 := ht _ h3.1 h3.2
    have h5 := hD (s 183 k) (s 183 (nxt n k)) h2.1 (by omega) h4.1 (by omega)
    have en2 : ((k : Int) + 1) % s 168 1 = nxt n k := by
      unfold nxt
      rw [en]
      by_cases e : (k : Int) + 1 < n
      · rw [if_pos e]; exact Int.emod_eq_of_lt (by omega) e
      · rw [if_neg e, show (k : Int) + 1 = n by omega]; exact Int.emod_self
    simp only at kk ⊢
    refine am_s rfl rfl ?_
    refine am_s rfl rfl ?_
    refine s_gi (x := 1) rfl g rfl rfl rfl ?_
    refine s_cge rfl ⟨by omega, by omega⟩ ⟨by omega, by omega⟩ (fun c1 => absurd c1 (by omega)) (fun c1 => ?_)
    refine am_s rfl rfl ?_
    refine am_s rfl rfl ?_
    refine am_s rfl rfl ?_
    refine am_s rfl rfl ?_
    refine s_ia rfl g rfl ⟨by omega, by omega⟩ (by decide) ?_
    refine am_s rfl rfl ?_
    refine am_s rfl rfl ?_
    refine s_k 1 rfl rfl ?_
    refine s_iadd rfl ?_
    refine am_s rfl rfl ?_
    refine s_gi (x := 1) rfl g rfl rfl rfl ?_
    refine s_irem rfl ⟨by omega, by omega⟩ ⟨by omega, by omega⟩ ?_
    refine s_ia rfl g rfl (by rw [en2]; exact ⟨h3.1, by omega⟩) (by decide) ?_
    rw [en2]
    refine s_cv [_, _] [_] rfl g (Or.inl rfl) rfl rfl (Nat.le_of_ble_eq_true rfl) rfl rfl (t_far g ⟨h2.1, by omega⟩ ⟨h4.1, by omega⟩) ?_
    rintro rv h1 ⟨rfl, rfl⟩
    refine s_i2l rfl ⟨by omega, by omega⟩ ?_
    refine s_ladd rfl ?_
    refine am_s rfl rfl ?_
    refine s_inc rfl rfl ?_
    refine am_s rfl rfl ?_
    refine am_lv [(4, _), (2, _), (1, _), (0, _)] rfl rfl ⟨rfl, rfl, rfl, rfl, trivial⟩ ?_
    exact kk () s rfl
  · rintro - s1 rfl
    simp only
    refine am_s rfl rfl ?_
    refine am_s rfl rfl ?_
    refine s_gi (x := 1) rfl g rfl rfl rfl ?_
    refine s_cge rfl ⟨by omega, by omega⟩ ⟨by omega, by omega⟩ (fun c1 => ?_) (fun c1 => absurd c1 (by omega))
    refine am_s rfl rfl ?_
    exact am_r rfl rfl ⟨by rw [en, Int.toNat_natCast], rfl⟩
theorem t_lengthOf184 {d : Nat} {E : am_Ev} {s : am_S} (g : am_Eg E) (hm : my_ok s) (ht : st_ok (s 168 1) (s 184)) : am_wp (d + 1) 198 0 (lv_args 0 [.ref 168, .ref 184]) [] (am_hp E s) (fun rv h => rv = some (.long (lI (tl (s 168 1) (my s) (s 184) (s 168 1).toNat))) ∧ h = am_hp E s) := by
  obtain ⟨n1, n2, hD⟩ := hm
  obtain ⟨n, en⟩ : ∃ n : Nat, s 168 1 = n := ⟨(s 168 1).toNat, by omega⟩
  rw [en] at ht
  refine s_kl 0 rfl rfl ?_
  refine am_s rfl rfl ?_
  refine s_k 0 rfl rfl ?_
  refine am_s rfl rfl ?_
  refine am_lv [(4, .int (iI (((0 : Nat) : Int) : Int))), (2, .long (lI (tl n (my s) (s 184) 0))), (1, .ref 184), (0, .ref 168)] rfl rfl ⟨rfl, rfl, rfl, rfl, trivial⟩ ?_
  refine s_loop (X := Unit) (fun k _ s' => s = s') (fun k _ => [(4, .int (iI (k : Int))), (2, .long (lI (tl n (my s) (s 184) k))), (1, .ref 184), (0, .ref 168)]) (hi := n) (x := ()) (Nat.zero_le n) rfl ?_ ?_
  · rintro k - s1 hk0 hk rfl kk
    have h2 := ht k (by omega) (by omega)
    have h3 := nxt_r (n := (n : Int)) (i := (k : Int)) (by omega) (by omega)
    have h4 := ht _ h3.1 h3.2
    have h5 := hD (s 184 k) (s 184 (nxt n k)) h2.1 (by omega) h4.1 (by omega)
    have en2 : ((k : Int) + 1) % s 168 1 = nxt n k := by
      unfold nxt
      rw [en]
      by_cases e : (k : Int) + 1 < n
      · rw [if_pos e]; exact Int.emod_eq_of_lt (by omega) e
      · rw [if_neg e, show (k : Int) + 1 = n by omega]; exact Int.emod_self
    simp only at kk ⊢
    refine am_s rfl rfl ?_
    refine am_s rfl rfl ?_
    refine s_gi (x := 1) rfl g rfl rfl rfl ?_
    refine s_cge rfl ⟨by omega, by omega⟩ ⟨by omega, by omega⟩ (fun c1 => absurd c1 (by omega)) (fun c1 => ?_)
    refine am_s rfl rfl ?_
    refine am_s rfl rfl ?_
    refine am_s rfl rfl ?_
    refine am_s rfl rfl ?_
    refine s_ia rfl g rfl ⟨by omega, by omega⟩ (by decide) ?_
    refine am_s rfl rfl ?_
    refine am_s rfl rfl ?_
    refine s_k 1 rfl rfl ?_
    refine s_iadd rfl ?_
    refine am_s rfl rfl ?_
    refine s_gi (x := 1) rfl g rfl rfl rfl ?_
    refine s_irem rfl ⟨by omega, by omega⟩ ⟨by omega, by omega⟩ ?_
    refine s_ia rfl g rfl (by rw [en2]; exact ⟨h3.1, by omega⟩) (by decide) ?_
    rw [en2]
    refine s_cv [_, _] [_] rfl g (Or.inl rfl) rfl rfl (Nat.le_of_ble_eq_true rfl) rfl rfl (t_far g ⟨h2.1, by omega⟩ ⟨h4.1, by omega⟩) ?_
    rintro rv h1 ⟨rfl, rfl⟩
    refine s_i2l rfl ⟨by omega, by omega⟩ ?_
    refine s_ladd rfl ?_
    refine am_s rfl rfl ?_
    refine s_inc rfl rfl ?_
    refine am_s rfl rfl ?_
    refine am_lv [(4, _), (2, _), (1, _), (0, _)] rfl rfl ⟨rfl, rfl, rfl, rfl, trivial⟩ ?_
    exact kk () s rfl
  · rintro - s1 rfl
    simp only
    refine am_s rfl rfl ?_
    refine am_s rfl rfl ?_
    refine s_gi (x := 1) rfl g rfl rfl rfl ?_
    refine s_cge rfl ⟨by omega, by omega⟩ ⟨by omega, by omega⟩ (fun c1 => ?_) (fun c1 => absurd c1 (by omega))
    refine am_s rfl rfl ?_
    exact am_r rfl rfl ⟨by rw [en, Int.toNat_natCast], rfl⟩
