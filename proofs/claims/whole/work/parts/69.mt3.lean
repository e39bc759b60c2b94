/-! the least costs of all sets, one after another -/
def mt_st (s : Nat) : Nat → Bool := fun i => s.testBit i
def mt_rm (s a b : Nat) : Nat := s &&& (2 ^ 32 - (2 ^ a + 1)) &&& (2 ^ 32 - (2 ^ b + 1))
theorem mt_rm_bit {s a b i : Nat} (hs : s < 2 ^ 32) (ha : a < 32) (hb : b < 32) : (mt_rm s a b).testBit i = (s.testBit i && decide (i ≠ a) && decide (i ≠ b)) := by
  unfold mt_rm
  rw [Nat.testBit_and, Nat.testBit_and, Nat.testBit_two_pow_sub_succ (Nat.pow_lt_pow_right (by decide) ha), Nat.testBit_two_pow_sub_succ (Nat.pow_lt_pow_right (by decide) hb), Nat.testBit_two_pow, Nat.testBit_two_pow]
  by_cases h : i < 32
  · by_cases e1 : i = a
    · subst e1
      simp
    · by_cases e2 : i = b
      · subst e2
        simp
      · simp [h, e1, e2, Ne.symm e1, Ne.symm e2]
  · have : s.testBit i = false := Nat.testBit_lt_two_pow (Nat.lt_of_lt_of_le hs (Nat.pow_le_pow_right (by decide) (by omega)))
    simp [this]
theorem mt_rm_st {s a b : Nat} (hs : s < 2 ^ 32) (ha : a < 32) (hb : b < 32) : mt_st (mt_rm s a b) = mt_wo (mt_st s) a b := by
  funext i
  exact mt_rm_bit hs ha hb
theorem mt_rm_le {s a b : Nat} : mt_rm s a b ≤ s := Nat.le_trans Nat.and_le_left Nat.and_le_left
theorem mt_rm_lt {s a b : Nat} (hs : s < 2 ^ 32) (ha : a < 32) (hb : b < 32) (h : s.testBit a = true) : mt_rm s a b < s := by
  rcases Nat.lt_or_ge (mt_rm s a b) s with h1 | h1
  · exact h1
  · have e : mt_rm s a b = s := Nat.le_antisymm mt_rm_le h1
    have := mt_rm_bit (i := a) hs ha hb
    rw [e, h] at this
    simp at this
/-- the least over the partners below b -/
def mt_mn (w : Nat → Nat → Int) (B : Nat → Int) (s a : Nat) : Nat → Int
  | 0 => -1
  | b + 1 => if a < b ∧ s.testBit b = true ∧ 0 ≤ B (mt_rm s a b) then (if mt_mn w B s a b < 0 ∨ B (mt_rm s a b) + w a b < mt_mn w B s a b then B (mt_rm s a b) + w a b else mt_mn w B s a b) else mt_mn w B s a b
def mt_ok (B : Nat → Int) (s a b : Nat) : Prop := a < b ∧ s.testBit b = true ∧ 0 ≤ B (mt_rm s a b)
theorem mt_mn_spec {w : Nat → Nat → Int} {B : Nat → Int} {s a : Nat} (hw : ∀ i j, 0 ≤ w i j) : ∀ k : Nat, (mt_mn w B s a k = -1 ∧ ∀ b, b < k → ¬ mt_ok B s a b) ∨ (0 ≤ mt_mn w B s a k ∧ (∃ b, b < k ∧ mt_ok B s a b ∧ mt_mn w B s a k = B (mt_rm s a b) + w a b) ∧ ∀ b, b < k → mt_ok B s a b → mt_mn w B s a k ≤ B (mt_rm s a b) + w a b)
  | 0 => Or.inl ⟨rfl, fun b hb => absurd hb (Nat.not_lt_zero b)⟩
  | k + 1 => by
    have ih := mt_mn_spec hw k (w := w) (B := B) (s := s) (a := a)
    by_cases h : mt_ok B s a k
    · have h' : a < k ∧ s.testBit k = true ∧ 0 ≤ B (mt_rm s a k) := h
      have hv : 0 ≤ B (mt_rm s a k) + w a k := by
        have := hw a k
        have := h'.2.2
        omega
      have e : mt_mn w B s a (k + 1) = if mt_mn w B s a k < 0 ∨ B (mt_rm s a k) + w a k < mt_mn w B s a k then B (mt_rm s a k) + w a k else mt_mn w B s a k := if_pos h'
      refine Or.inr ?_
      by_cases h2 : mt_mn w B s a k < 0 ∨ B (mt_rm s a k) + w a k < mt_mn w B s a k
      · rw [e, if_pos h2]
        refine ⟨hv, ⟨k, by omega, h, rfl⟩, fun b hb hok => ?_⟩
        by_cases eb : b = k
        · subst eb
          exact Int.le_refl _
        · rcases ih with ⟨i1, i2⟩ | ⟨i1, i2, i3⟩
          · exact absurd hok (i2 b (by omega))
          · have := i3 b (by omega) hok
            omega
      · rw [e, if_neg h2]
        rcases ih with ⟨i1, i2⟩ | ⟨i1, ⟨b0, j1, j2, j3⟩, i3⟩
        · exact absurd (Or.inl (by omega)) h2
        · refine ⟨i1, ⟨b0, by omega, j2, j3⟩, fun b hb hok => ?_⟩
          by_cases eb : b = k
          · subst eb
            have := Int.not_lt.mp (fun z => h2 (Or.inr z))
            exact this
          · exact i3 b (by omega) hok
    · have h' : ¬ (a < k ∧ s.testBit k = true ∧ 0 ≤ B (mt_rm s a k)) := h
      have e : mt_mn w B s a (k + 1) = mt_mn w B s a k := if_neg h'
      rw [e]
      rcases ih with ⟨i1, i2⟩ | ⟨i1, ⟨b0, j1, j2, j3⟩, i3⟩
      · refine Or.inl ⟨i1, fun b hb => ?_⟩
        by_cases eb : b = k
        · subst eb
          exact h
        · exact i2 b (by omega)
      · refine Or.inr ⟨i1, ⟨b0, by omega, j2, j3⟩, fun b hb hok => ?_⟩
        by_cases eb : b = k
        · subst eb
          exact absurd hok h
        · exact i3 b (by omega) hok
/-- a is the lowest of s -/
def mt_lo (s a : Nat) : Prop := s.testBit a = true ∧ ∀ i, i < a → s.testBit i = false
theorem mt_lo_ex {s : Nat} (h : s ≠ 0) : ∃ a, mt_lo s a := by
  obtain ⟨i, hi⟩ := Nat.exists_testBit_of_ne_zero h
  induction i using Nat.strongRecOn with
  | ind i ih =>
    by_cases e : ∃ j, j < i ∧ s.testBit j = true
    · obtain ⟨j, h1, h2⟩ := e
      exact ih j h1 h2
    · exact ⟨i, hi, fun j hj => by
        cases hb : s.testBit j with
        | false => rfl
        | true => exact absurd ⟨j, hj, hb⟩ e⟩
def mt_tab (w : Nat → Nat → Int) (k : Nat) (B : Nat → Int) : Prop := B 0 = 0 ∧ ∀ s a, s < 2 ^ k → mt_lo s a → B s = mt_mn w B s a k
theorem mt_bit_lt {s i k : Nat} (hs : s < 2 ^ k) (h : s.testBit i = true) : i < k := by
  rcases Nat.lt_or_ge i k with h1 | h1
  · exact h1
  · rw [Nat.testBit_lt_two_pow (Nat.lt_of_lt_of_le hs (Nat.pow_le_pow_right (by decide) h1))] at h
    cases h
theorem mt_tab_spec {w : Nat → Nat → Int} {k : Nat} {B : Nat → Int} (hw : ∀ i j, 0 ≤ w i j) (hk : k ≤ 20) (hB : mt_tab w k B) : ∀ s, s < 2 ^ k → (0 ≤ B s ∧ ∃ p, mt_opt w k (mt_st s) p ∧ mt_co w k (mt_st s) p = B s) ∨ (B s = -1 ∧ ∀ p, ¬ mt_pmS k (mt_st s) p) := by
  intro s
  induction s using Nat.strongRecOn with
  | ind s ih =>
    intro hs
    by_cases h0 : s = 0
    · subst h0
      refine Or.inl ⟨by rw [hB.1]; exact Int.le_refl 0, fun _ => 0, ⟨fun i hi hs => ?_, fun q _ => ?_⟩, ?_⟩
      · simp [mt_st] at hs
      · unfold mt_co
        rw [mt_s_congr (g := fun _ => 0) (fun i hi => if_neg (fun z => by simp [mt_st] at z)), mt_s_congr (g := fun _ => 0) (fun i hi => if_neg (fun z => by simp [mt_st] at z))]
        exact Int.le_refl _
      · unfold mt_co
        rw [mt_s_congr (g := fun _ => 0) (fun i hi => if_neg (fun z => by simp [mt_st] at z)), mt_s_zero, hB.1]
    · obtain ⟨a, ha⟩ := mt_lo_ex h0
      have hak : a < k := mt_bit_lt hs ha.1
      have h32 : s < 2 ^ 32 := Nat.lt_of_lt_of_le hs (Nat.pow_le_pow_right (by decide) (by omega))
      have hone : ∀ p, mt_pmS k (mt_st s) p → a < p a ∧ p a < k ∧ s.testBit (p a) = true ∧ mt_pmS k (mt_st (mt_rm s a (p a))) p ∧ mt_co w k (mt_st s) p = w a (p a) + mt_co w k (mt_st (mt_rm s a (p a))) p := by
        intro p hp
        obtain ⟨a1, a2, a3, a4⟩ := hp a hak ha.1
        have hlt : a < p a := by
          rcases Nat.lt_or_ge a (p a) with h | h
          · exact h
          · have : s.testBit (p a) = false := ha.2 (p a) (by omega)
            rw [show mt_st s (p a) = s.testBit (p a) from rfl, this] at a2
            cases a2
        rw [mt_rm_st h32 (by omega) (by omega)]
        exact ⟨hlt, a1, a2, mt_pmS_wo hp hak ha.1, mt_co_wo hp hak ha.1 hlt⟩
      rw [hB.2 s a hs ha]
      have small : ∀ b, b < k → mt_rm s a b < s ∧ mt_rm s a b < 2 ^ k := fun b hb => by
        have := mt_rm_lt (b := b) h32 (by omega) (by omega) ha.1
        exact ⟨this, by omega⟩
      rcases mt_mn_spec (B := B) (s := s) (a := a) hw k with ⟨m1, m2⟩ | ⟨m1, ⟨b, b1, b2, b3⟩, m3⟩
      · refine Or.inr ⟨m1, fun p hp => ?_⟩
        obtain ⟨c1, c2, c3, c4, c5⟩ := hone p hp
        rcases ih _ (small _ c2).1 (small _ c2).2 with ⟨j1, j2⟩ | ⟨j1, j2⟩
        · exact m2 _ c2 ⟨c1, c3, j1⟩
        · exact j2 p c4
      · refine Or.inl ⟨m1, ?_⟩
        rcases ih _ (small b b1).1 (small b b1).2 with ⟨j1, p, j2, j3⟩ | ⟨j1, j2⟩
        · have hpw : mt_pmS k (mt_wo (mt_st s) a b) p := by
            rw [← mt_rm_st h32 (by omega) (by omega)]
            exact j2.1
          have hj := mt_jn_pm hpw hak b1 ha.1 b2.2.1 (by have := b2.1; omega)
          have ea : mt_jn p a b a = b := if_pos rfl
          have hco : mt_co w k (mt_st s) (mt_jn p a b) = mt_mn w B s a k := by
            obtain ⟨c1, c2, c3, c4, c5⟩ := hone _ hj
            rw [c5, ea, b3, ← j3, Int.add_comm]
            refine congrArg (· + w a b) (mt_co_congr (fun i hi hs => ?_))
            rw [mt_rm_st h32 (by omega) (by omega)] at hs
            obtain ⟨d1, d2, d3⟩ := mt_wo_t.mp hs
            unfold mt_jn
            rw [if_neg d2, if_neg d3]
          refine ⟨mt_jn p a b, ⟨hj, fun q hq => ?_⟩, hco⟩
          rw [hco]
          obtain ⟨c1, c2, c3, c4, c5⟩ := hone q hq
          rcases ih _ (small _ c2).1 (small _ c2).2 with ⟨i1, r, i2, i3⟩ | ⟨i1, i2⟩
          · have h1 := m3 _ c2 ⟨c1, c3, i1⟩
            have h2 := i2.2 q c4
            omega
          · exact absurd c4 (i2 q)
        · have := b2.2.2
          omega
/-- one step of the look for the first: the least partner b of a that gives the least cost -/
theorem mt_first {w : Nat → Nat → Int} {k : Nat} {B : Nat → Int} (hw : ∀ i j, 0 ≤ w i j) (hk : k ≤ 20) (hB : mt_tab w k B) {s a b : Nat} (hs : s < 2 ^ k) (ha : mt_lo s a) (h0 : 0 ≤ B s) (hb : b < k) (hok : mt_ok B s a b) (he : B (mt_rm s a b) + w a b = B s) (hmin : ∀ c, c < b → mt_ok B s a c → B (mt_rm s a c) + w a c ≠ B s) {p : Nat → Nat} (hp : mt_lex w k (mt_st (mt_rm s a b)) p) : mt_lex w k (mt_st s) (mt_jn p a b) := by
  have hak : a < k := mt_bit_lt hs ha.1
  have h32 : s < 2 ^ 32 := Nat.lt_of_lt_of_le hs (Nat.pow_le_pow_right (by decide) (by omega))
  have small : ∀ b, b < k → mt_rm s a b < s ∧ mt_rm s a b < 2 ^ k := fun b hb => by
    have := mt_rm_lt (b := b) h32 (by omega) (by omega) ha.1
    exact ⟨this, by omega⟩
  have hab : a ≠ b := by
    have := hok.1
    omega
  have ea : mt_jn p a b a = b := if_pos rfl
  have hst := mt_rm_st (s := s) (a := a) (b := b) h32 (by omega) (by omega)
  have hcg : ∀ i, i < k → mt_st (mt_rm s a b) i = true → p i = mt_jn p a b i := fun i hi hs => by
    rw [hst] at hs
    obtain ⟨d1, d2, d3⟩ := mt_wo_t.mp hs
    unfold mt_jn
    rw [if_neg d2, if_neg d3]
  have hj : mt_pmS k (mt_st s) (mt_jn p a b) := mt_jn_pm (by rw [← hst]; exact hp.1.1) hak hb ha.1 hok.2.1 hab
  have cost : ∀ q, mt_pmS k (mt_st s) q → a < q a ∧ q a < k ∧ s.testBit (q a) = true ∧ mt_pmS k (mt_st (mt_rm s a (q a))) q ∧ mt_co w k (mt_st s) q = w a (q a) + mt_co w k (mt_st (mt_rm s a (q a))) q := by
    intro q hq
    obtain ⟨a1, a2, a3, a4⟩ := hq a hak ha.1
    have hlt : a < q a := by
      rcases Nat.lt_or_ge a (q a) with h | h
      · exact h
      · have : s.testBit (q a) = false := ha.2 (q a) (by omega)
        rw [show mt_st s (q a) = s.testBit (q a) from rfl, this] at a2
        cases a2
    rw [mt_rm_st h32 (by omega) (by omega)]
    exact ⟨hlt, a1, a2, mt_pmS_wo hq hak ha.1, mt_co_wo hq hak ha.1 hlt⟩
  have val : ∀ c q, c < k → s.testBit c = true → a < c → mt_opt w k (mt_st (mt_rm s a c)) q → 0 ≤ B (mt_rm s a c) ∧ mt_co w k (mt_st (mt_rm s a c)) q = B (mt_rm s a c) := by
    intro c q hc _ _ hq
    rcases mt_tab_spec hw hk hB _ (small c hc).2 with ⟨j1, r, j2, j3⟩ | ⟨j1, j2⟩
    · have h1 := hq.2 r j2.1
      have h2 := j2.2 q hq.1
      exact ⟨j1, by omega⟩
    · exact absurd hq.1 (j2 q)
  have top : ∀ q, mt_opt w k (mt_st s) q → mt_co w k (mt_st s) q = B s := by
    intro q hq
    rcases mt_tab_spec hw hk hB s hs with ⟨j1, r, j2, j3⟩ | ⟨j1, j2⟩
    · have h1 := hq.2 r j2.1
      have h2 := j2.2 q hq.1
      omega
    · exact absurd hq.1 (j2 q)
  have hco : mt_co w k (mt_st s) (mt_jn p a b) = B s := by
    obtain ⟨c1, c2, c3, c4, c5⟩ := cost _ hj
    rw [c5, ea, ← mt_co_congr hcg, (val b p hb hok.2.1 hok.1 hp.1).2, ← he]
    omega
  have ho : mt_opt w k (mt_st s) (mt_jn p a b) := by
    refine ⟨hj, fun q hq => ?_⟩
    rcases mt_tab_spec hw hk hB s hs with ⟨j1, r, j2, j3⟩ | ⟨j1, j2⟩
    · have := j2.2 q hq
      omega
    · exact absurd hq (j2 q)
  refine mt_lex_jn hak ha.1 (fun i hi hs => ?_) ho (fun q hq => ?_) ?_
  · have : s.testBit i = false := ha.2 i hi
    rw [show mt_st s i = s.testBit i from rfl, this] at hs
    cases hs
  · rw [ea]
    obtain ⟨c1, c2, c3, c4, c5⟩ := cost q hq.1
    rcases Nat.lt_or_ge (q a) b with h | h
    · exfalso
      have hqw := mt_opt_wo hq hak ha.1 c1
      rw [← mt_rm_st h32 (by omega) (by omega)] at hqw
      obtain ⟨v1, v2⟩ := val (q a) q c2 c3 c1 hqw
      have ht := top q hq
      exact hmin (q a) h ⟨c1, c3, v1⟩ (by omega)
    · exact h
  · rw [ea, ← hst]
    refine ⟨⟨mt_pmS_congr hcg hp.1.1, fun q hq => ?_⟩, fun q hq i hi hs hjj => ?_⟩
    · rw [← mt_co_congr hcg]
      exact hp.1.2 q hq
    · rw [← hcg i hi hs]
      exact hp.2 q hq i hi hs (fun j h1 h2 => by rw [hcg j (by omega) h2]; exact hjj j h1 h2)
