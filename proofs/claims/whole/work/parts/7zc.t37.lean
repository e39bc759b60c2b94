/-! bettering: turns -/
/-- turning the stops from i + 1 to j around pays -/
def tp (n : Int) (D : Int → Int → Int) (t : Int → Int) (i j : Int) : Prop := D (t i) (t j) + D (t (i + 1)) (t (nxt n j)) < D (t i) (t (i + 1)) + D (t j) (t (nxt n j))
/-- the first turn that pays is made, or none does -/
def tu_is (n : Int) (Y : Int → Int → Prop) (t t2 : Int → Int) (r : Int) : Prop := (r = 0 ∧ (∀ i j, 0 ≤ i → i < j → j < n → ¬ Y i j) ∧ t2 = t) ∨ (r = 1 ∧ ∃ i j, 0 ≤ i ∧ i < j ∧ j < n ∧ Y i j ∧ (∀ i2 j2, 0 ≤ i2 → i2 < j2 → j2 < n → (i2 < i ∨ i2 = i ∧ j2 < j) → ¬ Y i2 j2) ∧ rv (i + 1) j t t2)
theorem t_turnPays {d : Nat} {E : am_Ev} {s : am_S} {i j : Int} {PP : Option Value → am_H → Prop} (g : am_Eg E) (hm : mx_ok s) (hc : s 151 1 = s 25 0) (ht : st_ok (s 25 0) (s 152)) (hi : 0 ≤ i ∧ i < j ∧ j < s 25 0) (hT : tp (s 151 1) (mx s) (s 152) i j → PP (some (.int (iI 1))) (am_hp E s)) (hF : ¬ tp (s 151 1) (mx s) (s 152) i j → PP (some (.int (iI 0))) (am_hp E s)) : am_wp (d + 1) 105 0 (lv_args 0 [.ref 151, .ref 26, .int (iI i), .int (iI j)]) [] (am_hp E s) PP := by
  obtain ⟨n1, n2, hD⟩ := hm
  have ha1 := ht i (by omega) (by omega)
  have ha2 := ht (i + 1) (by omega) (by omega)
  have ha3 := ht j (by omega) (by omega)
  refine am_s rfl rfl ?_
  refine s_gr rfl g rfl rfl ?_
  refine am_s rfl rfl ?_
  refine s_ia rfl g rfl ⟨by omega, by omega⟩ (by decide) ?_
  refine am_s rfl rfl ?_
  refine am_s rfl rfl ?_
  refine s_gr rfl g rfl rfl ?_
  refine am_s rfl rfl ?_
  refine s_k 1 rfl rfl ?_
  refine s_iadd rfl ?_
  refine s_ia rfl g rfl ⟨by omega, by omega⟩ (by decide) ?_
  refine am_s rfl rfl ?_
  refine am_s rfl rfl ?_
  refine s_gr rfl g rfl rfl ?_
  refine am_s rfl rfl ?_
  refine s_ia rfl g rfl ⟨by omega, by omega⟩ (by decide) ?_
  refine am_s rfl rfl ?_
  refine am_s rfl rfl ?_
  refine am_s rfl rfl ?_
  refine s_k 1 rfl rfl ?_
  refine s_iadd rfl ?_
  refine s_cv [_] [] rfl g (Or.inl rfl) rfl rfl (Nat.le_of_ble_eq_true rfl) rfl rfl (t_stopAt g ⟨by omega, by omega⟩ ⟨by omega, by omega⟩) ?_
  rintro rv h1 ⟨rfl, rfl⟩
  have hb := ht (nxt (s 151 1) j) (by unfold nxt; split <;> omega) (by unfold nxt; split <;> omega)
  change am_wp _ _ _ _ [.int (iI (s 152 (nxt (s 151 1) j)))] _ _
  unfold tp at hT hF
  revert ha1 ha2 ha3 hb hT hF
  generalize s 152 (nxt (s 151 1) j) = bh
  generalize s 152 i = a1
  generalize s 152 (i + 1) = a2
  generalize s 152 j = a3
  intro hT hF ha1 ha2 ha3 hb
  have d_a1a2 := hD a1 a2 (by omega) (by omega) (by omega) (by omega)
  unfold mx at d_a1a2
  have d_a3bh := hD a3 bh (by omega) (by omega) (by omega) (by omega)
  unfold mx at d_a3bh
  have d_a1a3 := hD a1 a3 (by omega) (by omega) (by omega) (by omega)
  unfold mx at d_a1a3
  have d_a2bh := hD a2 bh (by omega) (by omega) (by omega) (by omega)
  unfold mx at d_a2bh
  unfold mx at hT hF
  refine am_s rfl rfl ?_
  refine am_s rfl rfl ?_
  refine am_s rfl rfl ?_
  refine s_aa rfl g rfl ⟨by omega, by omega⟩ (by decide) ?_
  refine am_s rfl rfl ?_
  refine s_ia rfl g (lo_26 (by omega) (by omega)) ⟨by omega, by omega⟩ (by decide) ?_
  refine s_i2l rfl ⟨by omega, by omega⟩ ?_
  refine am_s rfl rfl ?_
  refine am_s rfl rfl ?_
  refine s_aa rfl g rfl ⟨by omega, by omega⟩ (by decide) ?_
  refine am_s rfl rfl ?_
  refine s_ia rfl g (lo_26 (by omega) (by omega)) ⟨by omega, by omega⟩ (by decide) ?_
  refine s_i2l rfl ⟨by omega, by omega⟩ ?_
  refine s_ladd rfl ?_
  refine am_s rfl rfl ?_
  refine am_s rfl rfl ?_
  refine am_s rfl rfl ?_
  refine s_aa rfl g rfl ⟨by omega, by omega⟩ (by decide) ?_
  refine am_s rfl rfl ?_
  refine s_ia rfl g (lo_26 (by omega) (by omega)) ⟨by omega, by omega⟩ (by decide) ?_
  refine s_i2l rfl ⟨by omega, by omega⟩ ?_
  refine am_s rfl rfl ?_
  refine am_s rfl rfl ?_
  refine s_aa rfl g rfl ⟨by omega, by omega⟩ (by decide) ?_
  refine am_s rfl rfl ?_
  refine s_ia rfl g (lo_26 (by omega) (by omega)) ⟨by omega, by omega⟩ (by decide) ?_
  refine s_i2l rfl ⟨by omega, by omega⟩ ?_
  refine s_ladd rfl ?_
  refine am_s rfl rfl ?_
  refine s_jge rfl rfl ⟨by omega, by omega⟩ ⟨by omega, by omega⟩ (fun c1 => ?_) (fun c1 => ?_)
  · refine s_k 0 rfl rfl ?_
    exact am_r rfl rfl (hF (by omega))
  · refine s_k 1 rfl rfl ?_
    refine am_s rfl rfl ?_
    exact am_r rfl rfl (hT (by omega))
theorem t_turnOnce {d : Nat} {E : am_Ev} {s : am_S} {PP : Option Value → am_H → Prop} (g : am_Eg E) (hm : mx_ok s) (hc : s 151 1 = s 25 0) (ht : st_ok (s 25 0) (s 152)) (hPP : ∀ r s', am_Fr [152] s s' → tu_is (s 25 0) (tp (s 151 1) (mx s) (s 152)) (s 152) (s' 152) r → PP (some (.int (iI r))) (am_hp E s')) : am_wp (d + 2) 104 0 (lv_args 0 [.ref 151, .ref 26]) [] (am_hp E s) PP := by
  have hm0 := hm
  obtain ⟨n1, n2, hD⟩ := hm0
  obtain ⟨n, en⟩ : ∃ n : Nat, s 25 0 = n := ⟨(s 25 0).toNat, by omega⟩
  refine s_k 0 rfl rfl ?_
  refine am_s rfl rfl ?_
  refine am_lv [(2, .int (iI (((0 : Nat) : Int) : Int))), (1, .ref 26), (0, .ref 151)] rfl rfl ⟨rfl, rfl, rfl, trivial⟩ ?_
  refine s_loop (X := Unit) (fun k _ s' => s = s' ∧ ∀ i2 j2, 0 ≤ i2 → i2 < j2 → j2 < s 25 0 → i2 < (k : Int) → ¬ tp (s 151 1) (mx s) (s 152) i2 j2) (fun k _ => [(2, .int (iI (k : Int))), (1, .ref 26), (0, .ref 151)]) (hi := n) (x := ()) (Nat.zero_le n) ⟨rfl, fun i2 j2 a1 a2 a3 a4 => by omega⟩ ?_ ?_
  · rintro k - s1 hk0 hk ⟨rfl, hQ⟩ kk
    simp only at kk ⊢
    refine am_s rfl rfl ?_
    refine am_s rfl rfl ?_
    refine s_gi (x := 1) rfl g rfl rfl rfl ?_
    refine s_cge rfl ⟨by omega, by omega⟩ ⟨by omega, by omega⟩ (fun c1 => absurd c1 (by omega)) (fun c1 => ?_)
    refine am_s rfl rfl ?_
    refine s_k 1 rfl rfl ?_
    refine s_iadd rfl ?_
    refine am_s rfl rfl ?_
    refine am_lv [(3, .int (iI (((k + 1 : Nat) : Int) : Int))), (2, .int (iI (k : Int))), (1, .ref 26), (0, .ref 151)] rfl rfl ⟨rfl, rfl, rfl, rfl, trivial⟩ ?_
    refine s_loop (X := Unit) (fun m _ s' => s = s' ∧ ∀ j2, (k : Int) < j2 → j2 < (m : Int) → ¬ tp (s 151 1) (mx s) (s 152) k j2) (fun m _ => [(3, .int (iI (m : Int))), (2, .int (iI (k : Int))), (1, .ref 26), (0, .ref 151)]) (lo := k + 1) (hi := n) (x := ()) (by omega) ⟨rfl, fun j2 a1 a2 => by omega⟩ ?_ ?_
    · rintro m - s2 hm0 hmn ⟨rfl, hW⟩ k2
      simp only at k2 ⊢
      refine am_s rfl rfl ?_
      refine am_s rfl rfl ?_
      refine s_gi (x := 1) rfl g rfl rfl rfl ?_
      refine s_cge rfl ⟨by omega, by omega⟩ ⟨by omega, by omega⟩ (fun c1 => absurd c1 (by omega)) (fun c1 => ?_)
      refine am_s rfl rfl ?_
      refine am_s rfl rfl ?_
      refine am_s rfl rfl ?_
      refine am_s rfl rfl ?_
      refine s_cv [_, _, _] [] rfl g (Or.inl rfl) rfl rfl (Nat.le_of_ble_eq_true rfl) rfl rfl (t_turnPays (PP := fun rv h => h = am_hp E s ∧ ((tp (s 151 1) (mx s) (s 152) k m ∧ rv = some (.int (iI 1))) ∨ (¬ tp (s 151 1) (mx s) (s 152) k m ∧ rv = some (.int (iI 0))))) g hm hc ht ⟨by omega, by omega, by omega⟩ (fun z => ⟨rfl, Or.inl ⟨z, rfl⟩⟩) (fun z => ⟨rfl, Or.inr ⟨z, rfl⟩⟩)) ?_
      rintro rv h1 ⟨rfl, hh⟩
      rcases hh with ⟨hy, rfl⟩ | ⟨hy, rfl⟩
      · refine s_zeq rfl ⟨by omega, by omega⟩ (fun c1 => absurd c1 (by omega)) (fun c1 => ?_)
        refine am_s rfl rfl ?_
        refine s_gr rfl g rfl rfl ?_
        refine am_s rfl rfl ?_
        refine s_k 1 rfl rfl ?_
        refine s_iadd rfl ?_
        refine am_s rfl rfl ?_
        refine am_cs (As := [_, _, _]) (rest := []) rfl (Or.inr rfl) rfl rfl (Nat.le_of_ble_eq_true rfl) rfl (t_turn g ⟨by omega, by omega⟩ ⟨by omega, by omega⟩) ?_
        rintro rv h1 ⟨rfl, s2, rfl, hF, hR⟩
        refine s_k 1 rfl rfl ?_
        exact am_r rfl rfl (hPP 1 s2 hF (Or.inr ⟨rfl, k, m, by omega, by omega, by omega, hy, fun i2 j2 a1 a2 a3 a4 => a4.elim (fun z => hQ i2 j2 a1 a2 a3 z) (fun z => by rw [z.1]; exact hW j2 (by omega) z.2), hR⟩))
      · refine s_zeq rfl ⟨by omega, by omega⟩ (fun c1 => ?_) (fun c1 => absurd c1 (by omega))
        refine s_inc rfl rfl ?_
        refine am_s rfl rfl ?_
        refine am_lv [(3, _), (2, _), (1, _), (0, _)] rfl rfl ⟨rfl, rfl, rfl, rfl, trivial⟩ ?_
        refine k2 () _ ⟨rfl, fun j2 a1 a2 => ?_⟩
        by_cases e : j2 = (m : Int)
        · rw [e]; exact hy
        · exact hW j2 a1 (by omega)
    · rintro - s2 ⟨rfl, hW⟩
      simp only
      refine am_s rfl rfl ?_
      refine am_s rfl rfl ?_
      refine s_gi (x := 1) rfl g rfl rfl rfl ?_
      refine s_cge rfl ⟨by omega, by omega⟩ ⟨by omega, by omega⟩ (fun c1 => ?_) (fun c1 => absurd c1 (by omega))
      refine s_inc rfl rfl ?_
      refine am_s rfl rfl ?_
      refine am_lv [(2, _), (1, _), (0, _)] rfl rfl ⟨rfl, rfl, rfl, trivial⟩ ?_
      refine kk () _ ⟨rfl, fun i2 j2 a1 a2 a3 a4 => ?_⟩
      by_cases e : i2 = (k : Int)
      · rw [e]; exact hW j2 (by omega) (by omega)
      · exact hQ i2 j2 a1 a2 a3 (by omega)
  · rintro - s1 ⟨rfl, hQ⟩
    simp only
    refine am_s rfl rfl ?_
    refine am_s rfl rfl ?_
    refine s_gi (x := 1) rfl g rfl rfl rfl ?_
    refine s_cge rfl ⟨by omega, by omega⟩ ⟨by omega, by omega⟩ (fun c1 => ?_) (fun c1 => absurd c1 (by omega))
    refine s_k 0 rfl rfl ?_
    exact am_r rfl rfl (hPP 0 s (am_Fr_r _ _) (Or.inl ⟨rfl, fun i2 j2 a1 a2 a3 => hQ i2 j2 a1 a2 a3 (by omega), rfl⟩))
theorem t_takes {d : Nat} {E : am_Ev} {s : am_S} {now : Int} {PP : Option Value → am_H → Prop} (g : am_Eg E) (hm : my_ok s) (ht : st_ok (s 168 1) (s 184)) (hnow : am_Q now) (hq : am_Q (tl (s 168 1) (my s) (s 184) (s 168 1).toNat)) (hE : ¬ tl (s 168 1) (my s) (s 184) (s 168 1).toNat < now → PP (some (.int (iI 0))) (am_hp E s)) (hT : tl (s 168 1) (my s) (s 184) (s 168 1).toNat < now → ∀ s', am_Fr [183] s s' → (∀ c, s' 183 c = if 0 ≤ c ∧ c < s 168 1 then s 184 c else s 183 c) → PP (some (.int (iI 1))) (am_hp E s')) : am_wp (d + 2) 208 0 (lv_args 0 [.ref 168, .long (lI now)]) [] (am_hp E s) PP := by
  have hm0 := hm
  obtain ⟨n1, n2, hD⟩ := hm0
  obtain ⟨n, en⟩ : ∃ n : Nat, s 168 1 = n := ⟨(s 168 1).toNat, by omega⟩
  refine am_s rfl rfl ?_
  refine am_s rfl rfl ?_
  refine s_gr rfl g rfl rfl ?_
  refine s_cv [_] [] rfl g (Or.inl rfl) rfl rfl (Nat.le_of_ble_eq_true rfl) rfl rfl (t_lengthOf184 g hm ht) ?_
  rintro rv h1 ⟨rfl, rfl⟩
  refine am_s rfl rfl ?_
  refine s_jlt rfl rfl hq hnow (fun c1 => ?_) (fun c1 => ?_)
  · refine s_k 0 rfl rfl ?_
    refine am_s rfl rfl ?_
    refine am_lv [(3, .int (iI (((0 : Nat) : Int) : Int))), (1, .long (lI now)), (0, .ref 168)] rfl rfl ⟨rfl, rfl, rfl, trivial⟩ ?_
    refine s_loop (X := Unit) (fun k _ s' => am_Fr [183] s s' ∧ ∀ c, s' 183 c = if 0 ≤ c ∧ c < (k : Int) then s 184 c else s 183 c) (fun k _ => [(3, .int (iI (k : Int))), (1, .long (lI now)), (0, .ref 168)]) (hi := n) (x := ()) (Nat.zero_le n) ⟨am_Fr_r _ _, fun c => by rw [if_neg (by omega)]⟩ ?_ ?_
    · rintro k - s1 hk0 hk ⟨hF, hV⟩ kk
      have eN : s1 168 1 = n := by rw [hF 168 (by decide)]; exact en
      simp only at kk ⊢
      refine am_s rfl rfl ?_
      refine am_s rfl rfl ?_
      refine s_gi (x := 1) rfl g rfl rfl rfl ?_
      refine s_cge rfl ⟨by omega, by omega⟩ ⟨by omega, by omega⟩ (fun c1 => absurd c1 (by omega)) (fun c1 => ?_)
      refine am_s rfl rfl ?_
      refine s_gr rfl g rfl rfl ?_
      refine am_s rfl rfl ?_
      refine am_s rfl rfl ?_
      refine s_gr rfl g rfl rfl ?_
      refine am_s rfl rfl ?_
      refine s_ia rfl g rfl ⟨by omega, by omega⟩ (by decide) ?_
      refine s_is rfl g rfl ⟨by omega, by omega⟩ (by decide) ?_
      refine s_inc rfl rfl ?_
      refine am_s rfl rfl ?_
      refine am_lv [(3, _), (1, _), (0, _)] rfl rfl ⟨rfl, rfl, rfl, trivial⟩ ?_
      refine kk () _ ⟨am_Fr_W hF (by decide), fun c => ?_⟩
      by_cases e : c = (k : Int)
      · rw [e, am_w_eq, if_pos (by omega), hF 184 (by decide)]
      · rw [am_w_x e, hV c]
        by_cases e2 : 0 ≤ c ∧ c < (k : Int)
        · rw [if_pos e2, if_pos (by omega)]
        · rw [if_neg e2, if_neg (by omega)]
    · rintro - s1 ⟨hF, hV⟩
      have eN : s1 168 1 = n := by rw [hF 168 (by decide)]; exact en
      simp only
      refine am_s rfl rfl ?_
      refine am_s rfl rfl ?_
      refine s_gi (x := 1) rfl g rfl rfl rfl ?_
      refine s_cge rfl ⟨by omega, by omega⟩ ⟨by omega, by omega⟩ (fun c1 => ?_) (fun c1 => absurd c1 (by omega))
      refine s_k 1 rfl rfl ?_
      exact am_r rfl rfl (hT (by omega) s1 hF (by rw [en]; exact hV))
  · refine s_k 0 rfl rfl ?_
    exact am_r rfl rfl (hE (by omega))
