/-! what hangs on a city -/
def anc (hu : Int → Int) : Nat → Int → Int
  | 0, a => a
  | k + 1, a => if anc hu k a < 0 then anc hu k a else hu (anc hu k a)
def dsc (hu : Int → Int) (a c : Int) : Prop := ∃ k, anc hu k a = c
theorem dsc_r (hu : Int → Int) (a : Int) : dsc hu a a := ⟨0, rfl⟩
theorem dsc_child {hu : Int → Int} {a b c : Int} (hb : 0 ≤ b) (e : hu b = c) (h : dsc hu a b) : dsc hu a c := by
  obtain ⟨k, hk⟩ := h
  refine ⟨k + 1, ?_⟩
  show (if anc hu k a < 0 then anc hu k a else hu (anc hu k a)) = c
  rw [hk, if_neg (by omega), e]
theorem dsc_last {hu : Int → Int} {a c : Int} (hc : 0 ≤ c) (h : dsc hu a c) : a = c ∨ ∃ b, 0 ≤ b ∧ hu b = c ∧ dsc hu a b := by
  obtain ⟨k, hk⟩ := h
  cases k with
  | zero => exact Or.inl hk
  | succ k =>
    have hk : (if anc hu k a < 0 then anc hu k a else hu (anc hu k a)) = c := hk
    by_cases e : anc hu k a < 0
    · rw [if_pos e] at hk
      omega
    · rw [if_neg e] at hk
      exact Or.inr ⟨anc hu k a, by omega, hk, k, rfl⟩
theorem anc_rng {hu : Int → Int} {n : Int} (hr : ∀ c, 0 ≤ c → c < n → hu c = -1 ∨ 0 ≤ hu c ∧ hu c < n) {a : Int} (ha : 0 ≤ a ∧ a < n) : ∀ k, anc hu k a = -1 ∨ 0 ≤ anc hu k a ∧ anc hu k a < n
  | 0 => Or.inr ha
  | k + 1 => by
    show (if anc hu k a < 0 then anc hu k a else hu (anc hu k a)) = -1 ∨ 0 ≤ (if anc hu k a < 0 then anc hu k a else hu (anc hu k a)) ∧ (if anc hu k a < 0 then anc hu k a else hu (anc hu k a)) < n
    rcases anc_rng hr ha k with h | h
    · rw [h, if_pos (by decide)]
      exact Or.inl rfl
    · rw [if_neg (by omega)]
      exact hr _ h.1 h.2
theorem anc_congr {hu hu2 : Int → Int} {n : Int} (hr : ∀ c, 0 ≤ c → c < n → hu c = -1 ∨ 0 ≤ hu c ∧ hu c < n) (e : ∀ c, 0 ≤ c → c < n → hu c = hu2 c) {a : Int} (ha : 0 ≤ a ∧ a < n) : ∀ k, anc hu k a = anc hu2 k a
  | 0 => rfl
  | k + 1 => by
    show (if anc hu k a < 0 then anc hu k a else hu (anc hu k a)) = (if anc hu2 k a < 0 then anc hu2 k a else hu2 (anc hu2 k a))
    rw [← anc_congr hr e ha k]
    rcases anc_rng hr ha k with h | h
    · rw [h]
      rfl
    · rw [if_neg (by omega), if_neg (by omega), e _ h.1 h.2]
theorem dsc_congr {hu hu2 : Int → Int} {n : Int} (hr : ∀ c, 0 ≤ c → c < n → hu c = -1 ∨ 0 ≤ hu c ∧ hu c < n) (e : ∀ c, 0 ≤ c → c < n → hu c = hu2 c) {a : Int} (ha : 0 ≤ a ∧ a < n) (c : Int) : dsc hu a c ↔ dsc hu2 a c :=
  ⟨fun ⟨k, hk⟩ => ⟨k, by rw [← anc_congr hr e ha k]; exact hk⟩, fun ⟨k, hk⟩ => ⟨k, by rw [anc_congr hr e ha k]; exact hk⟩⟩
/-- below: a city's bits are what hangs on it -/
def be_ok (n : Int) (hu be : Int → Int) : Prop := ∀ c, 0 ≤ c → c < n → (0 ≤ be c ∧ be c < 2147483648) ∧ ∀ a, 0 ≤ a → a < n → (bt (be c) a = 1 ↔ dsc hu a c)
def be_at (n i : Int) (hu od be : Int → Int) : Prop := ∀ c, 0 ≤ c → c < n → (0 ≤ be c ∧ be c < 2147483648) ∧ ∀ a, 0 ≤ a → a < n → (bt (be c) a = 1 ↔ a = c ∨ ∃ m, i < m ∧ m < n ∧ hu (od m) = c ∧ dsc hu a (od m))
theorem od_later {n : Nat} {ins hu od : Int → Int} (h : od_ok n 0 n ins hu od) {i m : Int} (hi : 0 ≤ i ∧ i < n) (hm : 0 < m ∧ m < n) (e : hu (od m) = od i) : i < m := by
  obtain ⟨d1, d2, d3, d4, d5, d6⟩ := h
  obtain ⟨j, j0, j1, j2⟩ := d6 m hm.1 hm.2
  rcases Int.lt_trichotomy i j with z | z | z
  · exact absurd (e.symm.trans j2) (d5 i j hi.1 z (by omega))
  · omega
  · exact absurd (j2.symm.trans e) (d5 j i j0 z hi.2)
theorem od_rng {n : Nat} {ins hu od : Int → Int} (h : od_ok n 0 n ins hu od) (hi : ∀ c, 0 ≤ c → c < (n : Int) → ins c = 1) (c : Int) (c0 : 0 ≤ c) (c1 : c < n) : hu c = -1 ∨ 0 ≤ hu c ∧ hu c < n := by
  obtain ⟨p, p0, p1, p2⟩ := h.2.2.2.1 c c0 c1 (hi c c0 c1)
  by_cases e : p = 0
  · subst e
    rw [h.1] at p2
    rw [← p2]
    exact Or.inl h.2.1
  · obtain ⟨j, j0, j1, j2⟩ := h.2.2.2.2.2 p (by omega) p1
    rw [p2] at j2
    rw [j2]
    have := h.2.2.1 j j0 (by omega)
    exact Or.inr ⟨this.1, this.2.1⟩
/-- where all that came later is gathered, a city has all -/
theorem be_full {n : Nat} {ins hu od be : Int → Int} (h : od_ok n 0 n ins hu od) (hi : ∀ c, 0 ≤ c → c < (n : Int) → ins c = 1) {i k : Int} (hi0 : 0 ≤ i) (hk : 0 ≤ k ∧ k < n) (hik : i ≤ k) (hb : be_at n i hu od be) {a : Int} (a0 : 0 ≤ a) (a1 : a < n) : bt (be (od k)) a = 1 ↔ dsc hu a (od k) := by
  have d3 := h.2.2.1 k hk.1 hk.2
  rw [((hb (od k) d3.1 d3.2.1).2 a a0 a1)]
  constructor
  · rintro (e | ⟨m, m0, m1, m2, m3⟩)
    · rw [e]
      exact dsc_r _ _
    · exact dsc_child (h.2.2.1 m (by omega) m1).1 m2 m3
  · intro hd
    rcases dsc_last d3.1 hd with e | ⟨b, b0, b1, b2⟩
    · exact Or.inl e
    · have hbn : b < n := by
        obtain ⟨q, hq⟩ := b2
        rcases anc_rng (od_rng h hi) ⟨a0, a1⟩ q with z | z
        · omega
        · omega
      obtain ⟨m, m0, m1, m2⟩ := h.2.2.2.1 b b0 hbn (hi b b0 hbn)
      have hm0 : m ≠ 0 := fun e => by
        subst e
        rw [h.1] at m2
        rw [← m2, h.2.1] at b1
        omega
      have := od_later h hk (m := m) ⟨by omega, m1⟩ (by rw [m2]; exact b1)
      exact Or.inr ⟨m, by omega, m1, by rw [m2]; exact b1, by rw [m2]; exact b2⟩
/-- one more gathered -/
theorem be_step {n : Nat} {ins hu od : Int → Int} {s : am_S} {b : Nat} (h : od_ok n 0 n ins hu od) (hi : ∀ c, 0 ≤ c → c < (n : Int) → ins c = 1) {i : Int} (hk : 0 < i ∧ i < n) (hb : be_at n i hu od (s b)) : be_at n (i - 1) hu od (am_w s b (hu (od i)) (bor (s b (hu (od i))) (s b (od i))) b) := by
  have d3 := h.2.2.1 i (by omega) hk.2
  obtain ⟨j, j0, j1, j2⟩ := h.2.2.2.2.2 i hk.1 hk.2
  have dj := h.2.2.1 j j0 (by omega)
  intro c c0 c1
  by_cases e : c = hu (od i)
  · subst e
    rw [am_w_eq]
    refine ⟨bor_lt (hb _ c0 c1).1 (hb _ d3.1 d3.2.1).1, fun a a0 a1 => ?_⟩
    rw [bt_bor, (hb _ c0 c1).2 a a0 a1, be_full h hi (by omega) ⟨by omega, hk.2⟩ (Int.le_refl i) hb a0 a1]
    constructor
    · rintro ((z | ⟨m, m0, m1, m2, m3⟩) | z)
      · exact Or.inl z
      · exact Or.inr ⟨m, by omega, m1, m2, m3⟩
      · exact Or.inr ⟨i, by omega, hk.2, rfl, z⟩
    · rintro (z | ⟨m, m0, m1, m2, m3⟩)
      · exact Or.inl (Or.inl z)
      · by_cases em : m = i
        · subst em
          exact Or.inr m3
        · exact Or.inl (Or.inr ⟨m, by omega, m1, m2, m3⟩)
  · rw [am_w_x e]
    refine ⟨(hb c c0 c1).1, fun a a0 a1 => ?_⟩
    rw [(hb c c0 c1).2 a a0 a1]
    constructor
    · rintro (z | ⟨m, m0, m1, m2, m3⟩)
      · exact Or.inl z
      · exact Or.inr ⟨m, by omega, m1, m2, m3⟩
    · rintro (z | ⟨m, m0, m1, m2, m3⟩)
      · exact Or.inl z
      · by_cases em : m = i
        · subst em
          exact absurd m2.symm e
        · exact Or.inr ⟨m, by omega, m1, m2, m3⟩
theorem be_end {n : Nat} {ins hu od be : Int → Int} (h : od_ok n 0 n ins hu od) (hi : ∀ c, 0 ≤ c → c < (n : Int) → ins c = 1) (hb : be_at n 0 hu od be) : be_ok n hu be := by
  intro c c0 c1
  refine ⟨(hb c c0 c1).1, fun a a0 a1 => ?_⟩
  obtain ⟨p, p0, p1, p2⟩ := h.2.2.2.1 c c0 c1 (hi c c0 c1)
  rw [← p2]
  exact be_full h hi (Int.le_refl 0) ⟨p0, p1⟩ p0 hb a0 a1
theorem t_below {d n : Nat} {E : am_Ev} {s : am_S} (g : am_Eg E) (hn : 1 ≤ n ∧ n ≤ 20) (ho : od_ok n 0 n (s 53) (s 50) (s 51)) (hi : ∀ c, 0 ≤ c → c < (n : Int) → s 53 c = 1) : am_wp d 112 0 (lv_args 0 [.ref 48, .int (iI (n : Int))]) [] (am_hp E s) (fun rv h => rv = none ∧ ∃ s', h = am_hp E s' ∧ am_Fr [56] s s' ∧ be_ok n (s 50) (s' 56)) := by
  refine s_k 0 rfl rfl ?_
  refine am_s rfl rfl ?_
  refine am_lv [(2, .int (iI (((0 : Nat) : Int) : Int))), (1, .int (iI (n : Int))), (0, .ref 48)] rfl rfl ⟨rfl, rfl, rfl, trivial⟩ ?_
  refine s_loop (X := Unit) (fun m _ s' => am_Fr [56] s s' ∧ ∀ c, 0 ≤ c → c < (m : Int) → s' 56 c = p2 c) (fun m _ => [(2, .int (iI (m : Int))), (1, .int (iI (n : Int))), (0, .ref 48)]) (hi := n) (x := ()) (Nat.zero_le n) ⟨am_Fr_r _ _, fun c c0 c1 => absurd c1 (by omega)⟩ ?_ ?_
  · rintro m - s1 hm0 hm ⟨hF, hV⟩ kk
    simp only at kk ⊢
    refine am_s rfl rfl ?_
    refine am_s rfl rfl ?_
    refine s_cge rfl ⟨by omega, by omega⟩ ⟨by omega, by omega⟩ (fun c1 => absurd c1 (by omega)) (fun c1 => ?_)
    refine am_s rfl rfl ?_
    refine s_gr rfl g rfl rfl ?_
    refine am_s rfl rfl ?_
    refine s_k 1 rfl rfl ?_
    refine am_s rfl rfl ?_
    refine s_shl1 rfl ⟨by omega, by omega⟩ ?_
    refine s_is rfl g rfl ⟨by omega, by omega⟩ (by decide) ?_
    refine s_inc rfl rfl ?_
    refine am_s rfl rfl ?_
    refine am_lv [(2, _), (1, _), (0, _)] rfl rfl ⟨rfl, rfl, rfl, trivial⟩ ?_
    refine kk () _ ⟨am_Fr_W hF (by decide), fun c c0 c1 => ?_⟩
    by_cases e : c = (m : Int)
    · rw [e, am_w_eq]
    · rw [am_w_x e]; exact hV c c0 (by omega)
  · rintro - s1 ⟨hF, hV⟩
    simp only
    refine am_s rfl rfl ?_
    refine am_s rfl rfl ?_
    refine s_cge rfl ⟨by omega, by omega⟩ ⟨by omega, by omega⟩ (fun c1 => ?_) (fun c1 => absurd c1 (by omega))
    refine am_s rfl rfl ?_
    refine s_k 1 rfl rfl ?_
    refine s_isub rfl ?_
    refine am_s rfl rfl ?_
    refine am_lv [(2, .int (iI ((n : Int) - 1 - ((0 : Nat) : Int) : Int))), (1, .int (iI (n : Int))), (0, .ref 48)] rfl rfl ⟨by rw [show (n : Int) - 1 - ((0 : Nat) : Int) = (n : Int) - 1 by omega]; rfl, rfl, rfl, trivial⟩ ?_
    refine s_loop (X := Unit) (fun m _ s' => am_Fr [56] s s' ∧ be_at n ((n : Int) - 1 - (m : Int)) (s 50) (s 51) (s' 56)) (fun m _ => [(2, .int (iI ((n : Int) - 1 - (m : Int) : Int))), (1, .int (iI (n : Int))), (0, .ref 48)]) (hi := n - 1) (x := ()) (Nat.zero_le _) ⟨hF, fun c c0 c1 => ?b0⟩ ?_ ?_
    case b0 =>
      rw [hV c c0 c1]
      refine ⟨p2_lt ⟨c0, by omega⟩, fun a a0 a1 => ?_⟩
      rw [bt_p2 c0 a0]
      constructor
      · exact fun e => Or.inl e
      · rintro (e | ⟨m, m0, m1, -⟩)
        · exact e
        · omega
    · rintro m - s2 hm0 hm ⟨hF2, hB⟩ kk
      have e50 : s2 50 = s 50 := hF2 50 (by decide)
      have e51 : s2 51 = s 51 := hF2 51 (by decide)
      have hq := ho.2.2.1 ((n : Int) - 1 - (m : Int)) (by omega) (by omega)
      have hq2 := od_rng ho hi (s 51 ((n : Int) - 1 - (m : Int))) hq.1 hq.2.1
      obtain ⟨jj, jj0, jj1, jj2⟩ := ho.2.2.2.2.2 ((n : Int) - 1 - (m : Int)) (by omega) (by omega)
      have hq3 := ho.2.2.1 jj jj0 (by omega)
      simp only at kk ⊢
      refine am_s rfl rfl ?_
      refine s_zle rfl ⟨by omega, by omega⟩ (fun c1 => absurd c1 (by omega)) (fun c1 => ?_)
      refine am_s rfl rfl ?_
      refine s_gr rfl g rfl rfl ?_
      refine s_gr rfl g rfl rfl ?_
      refine am_s rfl rfl ?_
      refine s_ia rfl g rfl ⟨by omega, by omega⟩ (by decide) ?_
      refine am_s rfl rfl ?_
      refine am_s rfl rfl ?_
      refine s_gr rfl g rfl rfl ?_
      refine am_s rfl rfl ?_
      refine s_gr rfl g rfl rfl ?_
      refine s_gr rfl g rfl rfl ?_
      refine am_s rfl rfl ?_
      refine s_ia rfl g rfl ⟨by rw [e51]; omega, by rw [e51]; omega⟩ (by decide) ?_
      refine am_s rfl rfl ?_
      refine s_ia rfl g rfl ⟨by rw [e50, e51, jj2]; omega, by rw [e50, e51, jj2]; omega⟩ (by decide) ?_
      refine am_s rfl rfl ?_
      refine s_gr rfl g rfl rfl ?_
      refine am_s rfl rfl ?_
      refine s_ia rfl g rfl ⟨by rw [e51]; omega, by rw [e51]; omega⟩ (by decide) ?_
      refine s_ior rfl (by rw [e50, e51, jj2]; exact (hB _ hq3.1 hq3.2.1).1) (by rw [e51]; exact (hB _ hq.1 hq.2.1).1) ?_
      refine s_is rfl g rfl ⟨by rw [e50, e51, jj2]; omega, by rw [e50, e51, jj2]; omega⟩ (by decide) ?_
      refine s_inc rfl rfl ?_
      refine am_s rfl rfl ?_
      refine am_lv [(2, .int (iI ((n : Int) - 1 - ((m + 1 : Nat) : Int) : Int))), (1, .int (iI (n : Int))), (0, .ref 48)] rfl rfl ⟨by rw [show (n : Int) - 1 - ((m + 1 : Nat) : Int) = (n : Int) - 1 - (m : Int) + -1 by omega]; rfl, rfl, rfl, trivial⟩ ?_
      refine kk () _ ⟨am_Fr_W hF2 (by decide), ?_⟩
      rw [e50, e51, show (n : Int) - 1 - ((m + 1 : Nat) : Int) = (n : Int) - 1 - (m : Int) - 1 by omega]
      exact be_step ho hi ⟨by omega, by omega⟩ hB
    · rintro - s2 ⟨hF2, hB⟩
      simp only
      refine am_s rfl rfl ?_
      refine s_zle rfl ⟨by omega, by omega⟩ (fun c1 => ?_) (fun c1 => absurd c1 (by omega))
      refine am_r rfl rfl ⟨rfl, s2, rfl, hF2, be_end ho hi ?_⟩
      rw [show (n : Int) - 1 - ((n - 1 : Nat) : Int) = 0 by omega] at hB
      exact hB
