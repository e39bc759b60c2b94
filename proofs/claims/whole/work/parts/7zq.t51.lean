/-! PURE: both betterings are one -/
def er (n : Int) (t u : Int → Int) : Prop := ∀ x, 0 ≤ x → x < n → t x = u x
theorem tp_e {n i j : Int} {D : Int → Int → Int} {t u : Int → Int} (e : er n t u) (hi : 0 ≤ i) (hj : i < j) (hn : j < n) : tp n D t i j ↔ tp n D u i j := by
  unfold tp
  rw [e i hi (by omega), e (i + 1) (by omega) (by omega), e j (by omega) hn, e (nxt n j) (by unfold nxt; split <;> omega) (by unfold nxt; split <;> omega)]
theorem rv_e {n a b : Int} {t t2 u u2 : Int → Int} (ha : 0 ≤ a) (hb : b < n) (e : er n t u) (h : rv a b t t2) (h2 : rv a b u u2) : er n t2 u2 := fun x x0 x1 => by
  rw [h x, h2 x]
  split
  · exact e _ (by omega) (by omega)
  · exact e x x0 x1
theorem tu_e {n r r2 : Int} {Y Y2 : Int → Int → Prop} {t t2 u u2 : Int → Int} (e : er n t u) (hY : ∀ i j, 0 ≤ i → i < j → j < n → (Y i j ↔ Y2 i j)) (h : tu_is n Y t t2 r) (h2 : tu_is n Y2 u u2 r2) : r = r2 ∧ er n t2 u2 := by
  rcases h with ⟨z1, z2, z3⟩ | ⟨z1, i, j, a1, a2, a3, z2, z3, z4⟩ <;> rcases h2 with ⟨y1, y2, y3⟩ | ⟨y1, i2, j2, b1, b2, b3, y2, y3, y4⟩
  · rw [z3, y3]; exact ⟨by omega, e⟩
  · exact absurd ((hY i2 j2 b1 b2 b3).mpr y2) (z2 i2 j2 b1 b2 b3)
  · exact absurd ((hY i j a1 a2 a3).mp z2) (y2 i j a1 a2 a3)
  · have c1 : ¬ (i < i2 ∨ i = i2 ∧ j < j2) := fun c => y3 i j a1 a2 a3 c ((hY i j a1 a2 a3).mp z2)
    have c2 : ¬ (i2 < i ∨ i2 = i ∧ j2 < j) := fun c => z3 i2 j2 b1 b2 b3 c ((hY i2 j2 b1 b2 b3).mpr y2)
    obtain rfl : i = i2 := by omega
    obtain rfl : j = j2 := by omega
    exact ⟨by omega, rv_e (by omega) a3 e z4 y4⟩
theorem mp_e {n k i p : Int} {D : Int → Int → Int} {t u : Int → Int} (e : er n t u) (hk : 1 ≤ k) (hi : 1 ≤ i) (hn : i + k ≤ n) (hp : 0 ≤ p) : (mp n D t k i p ↔ mp n D u k i p) ∧ (mq n D t k i p ↔ mq n D u k i p) := by
  have w1 := wo_rng (n := n) (k := k) (i := i) (p := p) (by omega) hk hp
  have w2 := wo_rng (n := n) (k := k) (i := i) (p := p + 1) (by omega) hk (by omega)
  have w3 := nx0_rng (n := n) (q := i + k) (by omega) (by omega)
  unfold mp mq msv
  rw [e i (by omega) (by omega), e (i - 1) (by omega) (by omega), e (i + k - 1) (by omega) (by omega), e _ w3.1 w3.2, e _ w1.1 w1.2, e _ w2.1 w2.2]
  exact ⟨Iff.rfl, Iff.rfl⟩
theorem mvf_e {n k i p b : Int} {t u : Int → Int} (e : er n t u) (hk : 1 ≤ k) (hi : 1 ≤ i) (hn : i + k ≤ n) (hp : 0 ≤ p) (hpn : p < n - k) : er n (mvf k i p b t) (mvf k i p b u) := fun x x0 x1 => by
  unfold mvf rsf
  (repeat' split) <;> exact e _ (by omega) (by omega)
/-- a move of the class, as the other one tells it -/
theorem mo_1 {n : Int} {D : Int → Int → Int} {t t2 : Int → Int} (h : mo_is n D t t2 1) : ∃ k i p b, 1 ≤ k ∧ k ≤ 3 ∧ 1 ≤ i ∧ i + k ≤ n ∧ 0 ≤ p ∧ p < n - k ∧ (∀ k2 i2 p2, 1 ≤ k2 → k2 ≤ 3 → 1 ≤ i2 → i2 + k2 ≤ n → 0 ≤ p2 → p2 < n - k2 → (k2 < k ∨ k2 = k ∧ (i2 < i ∨ i2 = i ∧ p2 < p)) → ¬ mp n D t k2 i2 p2 ∧ ¬ mq n D t k2 i2 p2) ∧ ((b = 0 ∧ mp n D t k i p) ∨ (b = 1 ∧ ¬ mp n D t k i p ∧ mq n D t k i p)) ∧ ∀ x, t2 x = mvf k i p b t x := by
  rcases h with ⟨z, -⟩ | ⟨-, k, i, a1, a2, a3, a4, h2, h⟩
  · exact absurd z (by decide)
  · rcases h with ⟨z, -⟩ | ⟨-, p, p0, p1, h3, h⟩
    · exact absurd z (by decide)
    · have hb : ∀ k2 i2 p2, 1 ≤ k2 → k2 ≤ 3 → 1 ≤ i2 → i2 + k2 ≤ n → 0 ≤ p2 → p2 < n - k2 → (k2 < k ∨ k2 = k ∧ (i2 < i ∨ i2 = i ∧ p2 < p)) → ¬ mp n D t k2 i2 p2 ∧ ¬ mq n D t k2 i2 p2 := by
        intro k2 i2 p2 b1 b2 b3 b4 b5 b6 c
        by_cases c2 : k2 < k ∨ k2 = k ∧ i2 < i
        · exact h2 k2 i2 b1 b2 b3 b4 c2 p2 b5 b6
        · obtain rfl : k2 = k := by omega
          obtain rfl : i2 = i := by omega
          exact h3 p2 b5 (by omega)
      rcases h with ⟨h4, h5⟩ | ⟨h4, h5, t1, h6, h7⟩
      · exact ⟨k, i, p, 0, a1, a2, a3, a4, p0, p1, hb, Or.inl ⟨rfl, h4⟩, pb_mvf a1 a3 p0 h5⟩
      · exact ⟨k, i, p, 1, a1, a2, a3, a4, p0, p1, hb, Or.inr ⟨rfl, h4, h5⟩, fun x => (pb_mvf a1 a3 p0 h7 x).trans (mvf_rv a1 h6 x)⟩
theorem mo_e {n : Nat} {r r2 : Int} {D : Int → Int → Int} {t t2 u u2 : Int → Int} (hS : ∀ a b, 0 ≤ a → a < (n : Int) → 0 ≤ b → b < (n : Int) → D a b = D b a) (hu : st_ok n u) (e : er n t u) (h : mo_is n D t t2 r) (h2 : mv_M n D (tl n D u (n : Int).toNat) u u2 r2) : r = r2 ∧ er n t2 u2 := by
  have E : ∀ k i p, 1 ≤ k → 1 ≤ i → i + k ≤ (n : Int) → 0 ≤ p → p < n - k → (mY n D u (tl n D u (n : Int).toNat) k i p 0 ↔ mp n D t k i p) ∧ (mY n D u (tl n D u (n : Int).toNat) k i p 1 ↔ mq n D t k i p) := fun k i p a1 a2 a3 a4 a5 => by
    have z1 := mY_mp hS hu k i p a1 a2 a3 a4 a5
    have z2 := mp_e (D := D) e a1 a2 a3 a4
    exact ⟨z1.1.trans z2.1.symm, z1.2.trans z2.2.symm⟩
  have hr : r = 0 ∨ r = 1 := by
    rcases h with ⟨z, -⟩ | ⟨z, -⟩
    · exact Or.inl z
    · exact Or.inr z
  rcases h2 with ⟨y1, y2, y3⟩ | ⟨y1, k2, i2, p2, b2, c1, c2, c3, c4, c5, c6, y2, y3, y4, y5⟩
  · rcases hr with rfl | rfl
    · rcases h with ⟨-, -, z⟩ | ⟨z, -⟩
      · rw [z, y3]; exact ⟨by omega, e⟩
      · exact absurd z (by decide)
    · obtain ⟨k, i, p, b, a1, a2, a3, a4, a5, a6, -, z, -⟩ := mo_1 h
      have w := y2 k i p a1 a2 a3 a4 a5 a6
      have w2 := E k i p a1 a3 a4 a5 a6
      rcases z with ⟨-, z⟩ | ⟨-, -, z⟩
      · exact absurd (w2.1.mpr z) w.1
      · exact absurd (w2.2.mpr z) w.2
  · have w2 := E k2 i2 p2 c1 c3 c4 c5 c6
    rcases hr with rfl | rfl
    · exfalso
      rcases h with ⟨-, z, -⟩ | ⟨z, -⟩
      · have w := z k2 i2 c1 c2 c3 c4 p2 c5 c6
        rcases y4 with rfl | ⟨rfl, -⟩
        · exact w.1 (w2.1.mp y3)
        · exact w.2 (w2.2.mp y3)
      · exact absurd z (by decide)
    · obtain ⟨k, i, p, b, a1, a2, a3, a4, a5, a6, zm, z, zt⟩ := mo_1 h
      have w1 := E k i p a1 a3 a4 a5 a6
      have d1 : ¬ (k < k2 ∨ k = k2 ∧ (i < i2 ∨ i = i2 ∧ p < p2)) := fun c => by
        have w := y2 k i p a1 a2 a3 a4 a5 a6 c
        rcases z with ⟨-, z⟩ | ⟨-, -, z⟩
        · exact w.1 (w1.1.mpr z)
        · exact w.2 (w1.2.mpr z)
      have d2 : ¬ (k2 < k ∨ k2 = k ∧ (i2 < i ∨ i2 = i ∧ p2 < p)) := fun c => by
        have w := zm k2 i2 p2 c1 c2 c3 c4 c5 c6 c
        rcases y4 with rfl | ⟨rfl, -⟩
        · exact w.1 (w2.1.mp y3)
        · exact w.2 (w2.2.mp y3)
      obtain rfl : k = k2 := by omega
      obtain rfl : i = i2 := by omega
      obtain rfl : p = p2 := by omega
      have eb : b = b2 := by
        rcases z with ⟨z, z1⟩ | ⟨z, z1, z2⟩ <;> rcases y4 with y | ⟨y, y4⟩
        · omega
        · exact absurd (w2.1.mpr z1) y4
        · rw [y] at y3; exact absurd (w2.1.mp y3) z1
        · omega
      subst eb
      refine ⟨by omega, fun x x0 x1 => ?_⟩
      rw [zt x, y5 x, if_pos ⟨x0, x1⟩]
      exact mvf_e e a1 a3 a4 a5 a6 x x0 x1
theorem bt_e1 {n : Nat} {how : Int} {D : Int → Int → Int} {t t2 u u2 : Int → Int} (hS : ∀ a b, 0 ≤ a → a < (n : Int) → 0 ≤ b → b < (n : Int) → D a b = D b a) (hu : st_ok n u) (e : er n t u) (h : bt_1 n D how t t2) (h2 : bm_1 n D how u u2) : er n t2 u2 := by
  have hY : ∀ i j, 0 ≤ i → i < j → j < (n : Int) → (tp n D t i j ↔ ty n D u (tl n D u (n : Int).toNat) i j) := fun i j a b c => (tp_e e a b c).trans (ty_tp hS hu i j a b c).symm
  rcases h with ⟨a1, a2⟩ | ⟨a1, a2, a3⟩ <;> rcases h2 with ⟨b1, b2⟩ | ⟨b1, b2, b3⟩
  · exact (tu_e e hY a2 b2).2
  · exact absurd (tu_e e hY a2 (b1 a1)).1 (by decide)
  · exact absurd (tu_e e hY (a1 b1) b2).1 (by decide)
  · exact (mo_e hS hu e a3 b3).2
theorem bt_e01 {n : Nat} {how : Int} {D : Int → Int → Int} {t u u2 : Int → Int} (hS : ∀ a b, 0 ≤ a → a < (n : Int) → 0 ≤ b → b < (n : Int) → D a b = D b a) (hu : st_ok n u) (e : er n t u) (h : bt_0 n D how t) (h2 : bm_1 n D how u u2) : False := by
  have hY : ∀ i j, 0 ≤ i → i < j → j < (n : Int) → (tp n D t i j ↔ ty n D u (tl n D u (n : Int).toNat) i j) := fun i j a b c => (tp_e e a b c).trans (ty_tp hS hu i j a b c).symm
  rcases h2 with ⟨b1, b2⟩ | ⟨b1, b2, b3⟩
  · exact absurd (tu_e e hY (h.1 b1) b2).1 (by decide)
  · exact absurd (mo_e hS hu e (h.2 b2) b3).1 (by decide)
theorem bt_e10 {n : Nat} {how : Int} {D : Int → Int → Int} {t t2 u : Int → Int} (hS : ∀ a b, 0 ≤ a → a < (n : Int) → 0 ≤ b → b < (n : Int) → D a b = D b a) (hu : st_ok n u) (e : er n t u) (h : bt_1 n D how t t2) (h2 : bm_0 n D how u) : False := by
  have hY : ∀ i j, 0 ≤ i → i < j → j < (n : Int) → (tp n D t i j ↔ ty n D u (tl n D u (n : Int).toNat) i j) := fun i j a b c => (tp_e e a b c).trans (ty_tp hS hu i j a b c).symm
  rcases h with ⟨a1, a2⟩ | ⟨a1, a2, a3⟩
  · exact absurd (tu_e e hY a2 (h2.1 a1)).1 (by decide)
  · exact absurd (mo_e hS hu e a3 (h2.2 a2)).1 (by decide)
theorem bt_en {n : Nat} {how : Int} {D : Int → Int → Int} {t u : Int → Int} (hS : ∀ a b, 0 ≤ a → a < (n : Int) → 0 ≤ b → b < (n : Int) → D a b = D b a) (hu : st_ok n u) (e : er n t u) : ∀ {k : Nat} {t2 u2 : Int → Int}, bt_n n D how t k t2 → bm_n n D how u k u2 → er n t2 u2
  | 0, t2, u2, h, h2 => by rw [show t2 = t from h, show u2 = u from h2]; exact e
  | k + 1, t2, u2, ⟨t1, h1, h⟩, ⟨u1, g1, g⟩ => bt_e1 hS (bm_st hu g1) (bt_en hS hu e h1 g1) h g
theorem bt_nle {n : Int} {how : Int} {D : Int → Int → Int} {t : Int → Int} : ∀ {l : Nat} {t2 : Int → Int} {k : Nat}, bt_n n D how t l t2 → k < l → ∃ t3 t4, bt_n n D how t k t3 ∧ bt_1 n D how t3 t4
  | 0, _, _, _, h => absurd h (Nat.not_lt_zero _)
  | l + 1, t2, k, ⟨t1, h1, h⟩, hk => if c : k = l then ⟨t1, t2, by rw [c]; exact h1, h⟩ else bt_nle h1 (by omega)
theorem bm_nle {n : Int} {how : Int} {D : Int → Int → Int} {t : Int → Int} : ∀ {l : Nat} {t2 : Int → Int} {k : Nat}, bm_n n D how t l t2 → k < l → ∃ t3 t4, bm_n n D how t k t3 ∧ bm_1 n D how t3 t4
  | 0, _, _, _, h => absurd h (Nat.not_lt_zero _)
  | l + 1, t2, k, ⟨t1, h1, h⟩, hk => if c : k = l then ⟨t1, t2, by rw [c]; exact h1, h⟩ else bm_nle h1 (by omega)
theorem bt_1c {n how : Int} {D D2 : Int → Int → Int} {t t2 : Int → Int} (hD : ∀ a b, 0 ≤ a → a < n → 0 ≤ b → b < n → D a b = D2 a b) (ht : st_ok n t) (h : bt_1 n D how t t2) : bt_1 n D2 how t t2 := by
  rcases h with ⟨a1, a2⟩ | ⟨a1, a2, a3⟩
  · exact Or.inl ⟨a1, tu_c (fun i j b1 b2 b3 => tp_c hD ht b1 b2 b3) a2⟩
  · exact Or.inr ⟨fun z => tu_c (fun i j b1 b2 b3 => tp_c hD ht b1 b2 b3) (a1 z), a2, mo_c hD ht a3⟩
theorem bt_0c {n how : Int} {D D2 : Int → Int → Int} {t : Int → Int} (hD : ∀ a b, 0 ≤ a → a < n → 0 ≤ b → b < n → D a b = D2 a b) (ht : st_ok n t) (h : bt_0 n D how t) : bt_0 n D2 how t :=
  ⟨fun z => tu_c (fun i j b1 b2 b3 => tp_c hD ht b1 b2 b3) (h.1 z), fun z => mo_c hD ht (h.2 z)⟩
theorem bt_nc {n how : Int} {D D2 : Int → Int → Int} {t : Int → Int} (hD : ∀ a b, 0 ≤ a → a < n → 0 ≤ b → b < n → D a b = D2 a b) (ht : st_ok n t) : ∀ {k : Nat} {t2 : Int → Int}, bt_n n D how t k t2 → bt_n n D2 how t k t2
  | 0, _, h => h
  | k + 1, _, ⟨t1, h1, h⟩ => ⟨t1, bt_nc hD ht h1, bt_1c hD (bt_st ht h1) h⟩
/-- both betterings come to one number and one tour -/
theorem be_uniq {n : Int} {how most : Int} {D D2 : Int → Int → Int} {t t2 u u2 : Int → Int} {k l : Nat} (hn : 0 ≤ n) (hD : ∀ a b, 0 ≤ a → a < n → 0 ≤ b → b < n → D a b = D2 a b) (hS : ∀ a b, 0 ≤ a → a < n → 0 ≤ b → b < n → D2 a b = D2 b a) (ht : st_ok n t) (e : er n t u) (hk : (k : Int) ≤ most) (hl : (l : Int) ≤ most) (h : bt_n n D how t k t2) (h0 : (k : Int) < most → bt_0 n D how t2) (g : bm_n n D2 how u l u2) (g0 : (l : Int) < most → bm_0 n D2 how u2) : k = l ∧ er n t2 u2 := by
  obtain ⟨N, rfl⟩ : ∃ N : Nat, n = N := ⟨n.toNat, by omega⟩
  have hu : st_ok N u := fun x x0 x1 => by rw [← e x x0 x1]; exact ht x x0 x1
  have h' := bt_nc hD ht h
  rcases Nat.lt_trichotomy k l with c | c | c
  · obtain ⟨t3, t4, z1, z2⟩ := bm_nle g c
    exact (bt_e01 hS (bm_st hu z1) (bt_en hS hu e h' z1) (bt_0c hD (bt_st ht h) (h0 (by omega))) z2).elim
  · subst c
    exact ⟨rfl, bt_en hS hu e h' g⟩
  · obtain ⟨t3, t4, z1, z2⟩ := bt_nle h' c
    exact (bt_e10 hS (bm_st hu g) (bt_en hS hu e z1 g) z2 (g0 (by omega))).elim
