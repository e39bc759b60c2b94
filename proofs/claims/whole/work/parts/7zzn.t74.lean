/-! the pairing: the first ones are settled -/
/-- how many of the first k are left -/
def pkc (p e : Int → Int) : Nat → Nat
  | 0 => 0
  | k + 1 => pkc p e k + if p (e k) = -1 then 1 else 0
theorem pkc_le (p e : Int → Int) : ∀ k : Nat, pkc p e k ≤ k
  | 0 => Nat.le_refl 0
  | k + 1 => by
    have := pkc_le p e k
    show pkc p e k + (if p (e k) = -1 then 1 else 0) ≤ k + 1
    split <;> omega
theorem pkc_lt (p e : Int → Int) {j k : Nat} (h : j < k) (hj : p (e j) = -1) : pkc p e j < pkc p e k := by
  induction k with
  | zero => omega
  | succ k ih =>
    show pkc p e j < pkc p e k + (if p (e k) = -1 then 1 else 0)
    by_cases c : j = k
    · subst c
      rw [if_pos hj]; omega
    · have := ih (by omega)
      omega
/-- who is settled once the first k have been looked at -/
abbrev psd (L : Nat) (m : Int → Int) (k j : Int) : Prop := (j < k ∧ j < (L : Int)) ∨ (m j < k ∧ m j < (L : Int))
/-- what is left once the first ones are settled -/
def mSF (s s' : am_S) (p : Int → Int) : Prop := am_Fr [58, 59, 60] s s' ∧ s' 60 = p ∧ (∀ y, y ≠ 3 → s' 58 y = s 58 y) ∧ s' 58 3 = (pkc p (s 59) (s 58 3).toNat : Int) ∧ ∀ j : Nat, (j : Int) < s 58 3 → p (s 59 j) = -1 → s' 59 (pkc p (s 59) j) = s 59 j
set_option maxHeartbeats 4000000 in
theorem t_settleFirst {d : Nat} {E : am_Ev} {s : am_S} {L : Nat} {PP : Option Value → am_H → Prop} (g : am_Eg E) (hn : 0 ≤ s 58 3 ∧ s 58 3 ≤ 20) (hr : ∀ i, 0 ≤ i → i < s 58 3 → 0 ≤ s 59 i ∧ s 59 i < 20) (hi : ∀ i j, 0 ≤ i → i < s 58 3 → 0 ≤ j → j < s 58 3 → s 59 i = s 59 j → i = j) (hm : ∀ i, 0 ≤ i → i < s 58 3 → 0 ≤ s 85 i ∧ s 85 i < s 58 3 ∧ s 85 i ≠ i ∧ s 85 (s 85 i) = i) (hs : ∀ i, 0 ≤ i → i < s 58 3 → (i < (L : Int) → 0 < s 61 i ∧ s 61 i < 9223372036854775808) ∧ ((L : Int) ≤ i → s 61 i = 0)) (hp60 : ∀ j, 0 ≤ j → j < s 58 3 → am_R (s 60 (s 59 j))) (hPP : ∀ p s', mSF s s' p → (∀ j, 0 ≤ j → j < s 58 3 → p (s 59 j) = if psd L (s 85) (s 58 3) j then s 59 (s 85 j) else s 60 (s 59 j)) → (∀ c, (∀ j, 0 ≤ j → j < s 58 3 → s 59 j ≠ c) → p c = s 60 c) → PP none (am_hp E s')) : am_wp d 75 0 (lv_args 0 [.ref 58, .ref 85]) [] (am_hp E s) PP := by
  obtain ⟨n, en⟩ : ∃ n : Nat, s 58 3 = n := ⟨(s 58 3).toNat, by omega⟩
  refine s_k 0 rfl rfl ?_
  refine am_s rfl rfl ?_
  refine am_lv [(2, .int (iI (((0 : Nat) : Int) : Int))), (1, .ref 85), (0, .ref 58)] rfl rfl ⟨rfl, rfl, rfl, trivial⟩ ?_
  refine s_loop (X := Unit) (fun k _ s' => am_Fr [60] s s' ∧ (∀ j, 0 ≤ j → j < s 58 3 → s' 60 (s 59 j) = if psd L (s 85) (k : Int) j then s 59 (s 85 j) else s 60 (s 59 j)) ∧ ∀ c, (∀ j, 0 ≤ j → j < s 58 3 → s 59 j ≠ c) → s' 60 c = s 60 c) (fun k _ => [(2, .int (iI (k : Int))), (1, .ref 85), (0, .ref 58)]) (hi := n) (x := ()) (Nat.zero_le n) ⟨am_Fr_r _ _, fun j j0 j1 => by have := hm j j0 j1; rw [if_neg (by unfold psd; omega)], fun c _ => rfl⟩ ?_ ?_
  · rintro k - s1 hk0 hk1 ⟨hF1, hP1, hO1⟩ kk
    simp only at kk ⊢
    have e58 : s1 58 3 = s 58 3 := by rw [hF1 58 (by decide)]
    have e59 : s1 59 = s 59 := hF1 59 (by decide)
    have e61 : s1 61 = s 61 := hF1 61 (by decide)
    have e85 : s1 85 = s 85 := hF1 85 (by decide)
    have hmk := hm k (by omega) (by omega)
    have rk := hr k (by omega) (by omega)
    have rm := hr (s 85 k) hmk.1 hmk.2.1
    have hsk := hs k (by omega) (by omega)
    have q61 : s1 61 k = s 61 k := by rw [e61]
    refine am_s rfl rfl ?_
    refine am_s rfl rfl ?_
    refine s_gi (x := 3) rfl g rfl rfl rfl ?_
    refine s_cge rfl ⟨by omega, by omega⟩ ⟨by omega, by omega⟩ (fun c1 => absurd c1 (by omega)) (fun c1 => ?_)
    refine am_s rfl rfl ?_
    refine s_gr rfl g rfl rfl ?_
    refine am_s rfl rfl ?_
    refine s_la rfl g rfl ⟨by omega, by omega⟩ (by decide) ?_
    refine s_kl 0 rfl rfl ?_
    refine s_jle rfl rfl ⟨by omega, by omega⟩ ⟨by omega, by omega⟩ (fun c2 => ?_) (fun c2 => ?_)
    · refine s_inc rfl rfl ?_
      refine am_s rfl rfl ?_
      refine am_lv [(2, _), (1, _), (0, _)] rfl rfl ⟨rfl, rfl, rfl, trivial⟩ ?_
      refine kk () _ ⟨hF1, fun j j0 j1 => ?_, hO1⟩
      have hmj := hm j j0 j1
      rw [hP1 j j0 j1]
      have kl : ¬ (k : Int) < (L : Int) := fun z => by have := hsk.1 z; omega
      by_cases c : psd L (s 85) k j
      · rw [if_pos c, if_pos (by unfold psd at c ⊢; omega)]
      · rw [if_neg c, if_neg (by unfold psd at c ⊢; omega)]
    · have kl : (k : Int) < (L : Int) := by
        rcases Int.lt_or_le (k : Int) (L : Int) with z | z
        · exact z
        · have := hsk.2 z; omega
      refine am_s rfl rfl ?_
      refine s_gr rfl g rfl rfl ?_
      refine am_s rfl rfl ?_
      refine s_gr rfl g rfl rfl ?_
      refine am_s rfl rfl ?_
      refine s_ia rfl g rfl ⟨by omega, by omega⟩ (by decide) ?_
      rw [e59]
      refine am_s rfl rfl ?_
      refine s_gr rfl g rfl rfl ?_
      refine am_s rfl rfl ?_
      refine am_s rfl rfl ?_
      refine s_ia rfl g rfl ⟨by omega, by omega⟩ (by decide) ?_
      rw [e85]
      refine s_ia rfl g rfl ⟨by omega, by omega⟩ (by decide) ?_
      rw [e59]
      refine s_is rfl g rfl ⟨by omega, by omega⟩ (by decide) ?_
      generalize hs2 : am_w s1 60 (s 59 k) (s 59 (s 85 k)) = s2
      have f59 : s2 59 = s 59 := by rw [← hs2, am_w_row (by decide), e59]
      have f85 : s2 85 = s 85 := by rw [← hs2, am_w_row (by decide), e85]
      refine am_s rfl rfl ?_
      refine s_gr rfl g rfl rfl ?_
      refine am_s rfl rfl ?_
      refine s_gr rfl g rfl rfl ?_
      refine am_s rfl rfl ?_
      refine am_s rfl rfl ?_
      refine s_ia rfl g rfl ⟨by omega, by omega⟩ (by decide) ?_
      rw [f85]
      refine s_ia rfl g rfl ⟨by omega, by omega⟩ (by decide) ?_
      rw [f59]
      refine am_s rfl rfl ?_
      refine s_gr rfl g rfl rfl ?_
      refine am_s rfl rfl ?_
      refine s_ia rfl g rfl ⟨by omega, by omega⟩ (by decide) ?_
      rw [f59]
      refine s_is rfl g rfl ⟨by omega, by omega⟩ (by decide) ?_
      refine s_inc rfl rfl ?_
      refine am_s rfl rfl ?_
      refine am_lv [(2, _), (1, _), (0, _)] rfl rfl ⟨rfl, rfl, rfl, trivial⟩ ?_
      rw [← hs2]
      refine kk () _ ⟨am_Fr_W (am_Fr_W hF1 (by decide)) (by decide), fun j j0 j1 => ?_, fun c hc => ?_⟩
      · have hmj := hm j j0 j1
        by_cases c : j = (k : Int)
        · rw [c, if_pos (by unfold psd; omega), am_w_x (fun z => absurd (hi k (s 85 k) (by omega) (by omega) hmk.1 hmk.2.1 z) (by omega)), am_w_eq]
        · by_cases c2 : j = s 85 k
          · rw [c2, am_w_eq, if_pos (by unfold psd; rw [hmk.2.2.2]; omega), hmk.2.2.2]
          · have n1 : s 85 j ≠ k := fun z => c2 (by rw [← z, hmj.2.2.2])
            rw [am_w_x (fun z => c2 (hi j (s 85 k) j0 j1 hmk.1 hmk.2.1 z)), am_w_x (fun z => c (hi j k j0 j1 (by omega) (by omega) z)), hP1 j j0 j1]
            by_cases q : psd L (s 85) k j
            · rw [if_pos q, if_pos (by unfold psd at q ⊢; omega)]
            · rw [if_neg q, if_neg (by unfold psd at q ⊢; omega)]
      · rw [am_w_x (fun z => hc (s 85 k) hmk.1 hmk.2.1 z.symm), am_w_x (fun z => hc k (by omega) (by omega) z.symm)]; exact hO1 c hc
  · rintro - s1 ⟨hF1, hP1, hO1⟩
    simp only
    rw [← en] at hP1
    have e58 : s1 58 3 = s 58 3 := by rw [hF1 58 (by decide)]
    have e59 : s1 59 = s 59 := hF1 59 (by decide)
    have e61 : s1 61 = s 61 := hF1 61 (by decide)
    have e85 : s1 85 = s 85 := hF1 85 (by decide)
    refine am_s rfl rfl ?_
    refine am_s rfl rfl ?_
    refine s_gi (x := 3) rfl g rfl rfl rfl ?_
    refine s_cge rfl ⟨by omega, by omega⟩ ⟨by omega, by omega⟩ (fun c1 => ?_) (fun c1 => absurd c1 (by omega))
    refine s_k 0 rfl rfl ?_
    refine am_s rfl rfl ?_
    refine s_k 0 rfl rfl ?_
    refine am_s rfl rfl ?_
    refine am_lv [(3, .int (iI (((0 : Nat) : Int) : Int))), (2, .int (iI (pkc (s1 60) (s 59) 0 : Int))), (0, .ref 58)] rfl rfl ⟨rfl, rfl, rfl, trivial⟩ ?_
    refine s_loop (X := Unit) (fun k _ s' => am_Fr [59] s1 s' ∧ (∀ j : Nat, j < k → s1 60 (s 59 j) = -1 → s' 59 (pkc (s1 60) (s 59) j) = s 59 j) ∧ ∀ j, (k : Int) ≤ j → s' 59 j = s 59 j) (fun k _ => [(3, .int (iI (k : Int))), (2, .int (iI (pkc (s1 60) (s 59) k : Int))), (0, .ref 58)]) (hi := n) (x := ()) (Nat.zero_le n) ⟨am_Fr_r _ _, fun j hj => absurd hj (Nat.not_lt_zero _), fun j _ => by rw [e59]⟩ ?_ ?_
    · rintro k - s2 hk0 hk1 ⟨hF2, hQ2, hK2⟩ kk
      simp only at kk ⊢
      have g58 : s2 58 3 = s 58 3 := by rw [hF2 58 (by decide)]; exact e58
      have g60 : s2 60 = s1 60 := hF2 60 (by decide)
      have rk := hr k (by omega) (by omega)
      have q59 : s2 59 k = s 59 k := hK2 k (by omega)
      have pl := pkc_le (s1 60) (s 59) k
      have pr := hp60 k (by omega) (by omega)
      have hpr : am_R (s1 60 (s 59 k)) := by
        rw [hP1 k (by omega) (by omega)]
        have hmk := hm k (by omega) (by omega)
        have rm := hr (s 85 k) hmk.1 hmk.2.1
        split
        · exact ⟨by omega, by omega⟩
        · exact pr
      have hpr2 := hpr
      unfold am_R at hpr2
      have ep : (pkc (s1 60) (s 59) (k + 1) : Int) = (pkc (s1 60) (s 59) k : Int) + (if s1 60 (s 59 k) = -1 then 1 else 0) := by
        show ((pkc (s1 60) (s 59) k + (if s1 60 (s 59 k) = -1 then 1 else 0) : Nat) : Int) = _
        split <;> omega
      refine am_s rfl rfl ?_
      refine am_s rfl rfl ?_
      refine s_gi (x := 3) rfl g rfl rfl rfl ?_
      refine s_cge rfl ⟨by omega, by omega⟩ ⟨by omega, by omega⟩ (fun c1 => absurd c1 (by omega)) (fun c1 => ?_)
      refine am_s rfl rfl ?_
      refine s_gr rfl g rfl rfl ?_
      refine am_s rfl rfl ?_
      refine s_gr rfl g rfl rfl ?_
      refine am_s rfl rfl ?_
      refine s_ia rfl g rfl ⟨by omega, by omega⟩ (by decide) ?_
      rw [q59]
      refine s_ia rfl g rfl ⟨by omega, by omega⟩ (by decide) ?_
      rw [g60]
      refine s_k (-1) rfl rfl ?_
      refine s_cne rfl hpr ⟨by omega, by omega⟩ (fun c2 => ?_) (fun c2 => ?_)
      · refine s_inc rfl rfl ?_
        refine am_s rfl rfl ?_
        refine am_lv [(3, .int (iI (((k + 1 : Nat) : Int) : Int))), (2, .int (iI (pkc (s1 60) (s 59) (k + 1) : Int))), (0, .ref 58)] rfl rfl ⟨rfl, by rw [show (pkc (s1 60) (s 59) (k + 1) : Int) = (pkc (s1 60) (s 59) k : Int) by rw [ep, if_neg (by omega)]; omega]; rfl, rfl, trivial⟩ ?_
        refine kk () _ ⟨hF2, fun j hj hu => ?_, fun j hj => hK2 j (by omega)⟩
        by_cases c : j = k
        · rw [c] at hu; exact absurd hu (by omega)
        · exact hQ2 j (by omega) hu
      · refine am_s rfl rfl ?_
        refine s_gr rfl g rfl rfl ?_
        refine am_s rfl rfl ?_
        refine am_s rfl rfl ?_
        refine s_gr rfl g rfl rfl ?_
        refine am_s rfl rfl ?_
        refine s_ia rfl g rfl ⟨by omega, by omega⟩ (by decide) ?_
        rw [q59]
        refine s_is rfl g rfl ⟨by omega, by omega⟩ (by decide) ?_
        refine s_inc rfl rfl ?_
        refine s_inc rfl rfl ?_
        refine am_s rfl rfl ?_
        refine am_lv [(3, .int (iI (((k + 1 : Nat) : Int) : Int))), (2, .int (iI (pkc (s1 60) (s 59) (k + 1) : Int))), (0, .ref 58)] rfl rfl ⟨rfl, by rw [show (pkc (s1 60) (s 59) (k + 1) : Int) = (pkc (s1 60) (s 59) k : Int) + 1 by rw [ep, if_pos (by omega)]]; rfl, rfl, trivial⟩ ?_
        refine kk () _ ⟨am_Fr_W hF2 (by decide), fun j hj hu => ?_, fun j hj => ?_⟩
        · by_cases c : j = k
          · rw [c, am_w_eq]
          · have := pkc_lt (s1 60) (s 59) (show j < k by omega) hu
            rw [am_w_x (by omega)]; exact hQ2 j (by omega) hu
        · rw [am_w_x (by omega)]; exact hK2 j (by omega)
    · rintro - s2 ⟨hF2, hQ2, hK2⟩
      simp only
      have g58 : s2 58 3 = s 58 3 := by rw [hF2 58 (by decide)]; exact e58
      have g60 : s2 60 = s1 60 := hF2 60 (by decide)
      refine am_s rfl rfl ?_
      refine am_s rfl rfl ?_
      refine s_gi (x := 3) rfl g rfl rfl rfl ?_
      refine s_cge rfl ⟨by omega, by omega⟩ ⟨by omega, by omega⟩ (fun c1 => ?_) (fun c1 => absurd c1 (by omega))
      refine am_s rfl rfl ?_
      refine am_s rfl rfl ?_
      refine s_pi (x := 3) rfl g rfl rfl rfl rfl ?_
      refine am_r rfl rfl (hPP (s1 60) _ ⟨am_Fr_W (am_Fr_u (am_Fr_m hF1 (by decide)) (am_Fr_m hF2 (by decide))) (by decide), by rw [am_w_row (by decide)]; exact g60, fun y hy => ?_, by rw [am_w_eq, en, Int.toNat_natCast], fun j hj hu => ?_⟩ hP1 hO1)
      · rw [am_w_x hy, hF2 58 (by decide), hF1 58 (by decide)]
      · rw [am_w_row (by decide)]; exact hQ2 j (by omega) hu
