/-! growing a least tree: the least edge that leaves, again and again -/
def gw_pick (n x : Int) (f : Int → Int → Int) (I : Int → Prop) (c a : Int) : Prop := (x ≤ c ∧ c < n) ∧ ¬ I c ∧ (x ≤ a ∧ a < n) ∧ I a ∧ ∀ c2 t, x ≤ c2 → c2 < n → ¬ I c2 → x ≤ t → t < n → I t → f a c < f t c2 ∨ f a c = f t c2 ∧ (c < c2 ∨ c = c2 ∧ a ≤ t)
def gw_ok (n x : Int) (f : Int → Int → Int) : Nat → (Int → Prop) → (Int → Int) → Int → Prop
  | 0, I, on, al => (∀ c, 0 ≤ c → c < n → (I c ↔ c = x)) ∧ (∀ c, 0 ≤ c → c < n → on c = -1) ∧ al = 0
  | k + 1, I, on, al => ∃ I0 on0 al0 c a, gw_ok n x f k I0 on0 al0 ∧ gw_pick n x f I0 c a ∧ (∀ b, 0 ≤ b → b < n → (I b ↔ I0 b ∨ b = c)) ∧ on c = a ∧ (∀ b, 0 ≤ b → b < n → b ≠ c → on b = on0 b) ∧ al = al0 + f a c
theorem gw_pick_uniq {n x : Int} {f f2 : Int → Int → Int} {I I2 : Int → Prop} {c a c2 a2 : Int} (hx : 0 ≤ x) (hI : ∀ b, 0 ≤ b → b < n → (I b ↔ I2 b)) (hf : ∀ p q, x ≤ p → p < n → x ≤ q → q < n → f p q = f2 p q) (h : gw_pick n x f I c a) (h2 : gw_pick n x f2 I2 c2 a2) : c = c2 ∧ a = a2 := by
  obtain ⟨p1, p2, p3, p4, p5⟩ := h
  obtain ⟨q1, q2, q3, q4, q5⟩ := h2
  have r1 := p5 c2 a2 q1.1 q1.2 (fun z => q2 ((hI c2 (by omega) q1.2).mp z)) q3.1 q3.2 ((hI a2 (by omega) q3.2).mpr q4)
  have r2 := q5 c a p1.1 p1.2 (fun z => p2 ((hI c (by omega) p1.2).mpr z)) p3.1 p3.2 ((hI a (by omega) p3.2).mp p4)
  rw [hf a c p3.1 p3.2 p1.1 p1.2, hf a2 c2 q3.1 q3.2 q1.1 q1.2] at r1
  omega
theorem gw_uniq {n x : Int} {f f2 : Int → Int → Int} (hx : 0 ≤ x) (hf : ∀ p q, x ≤ p → p < n → x ≤ q → q < n → f p q = f2 p q) : ∀ (k : Nat) {I I2 : Int → Prop} {on on2 : Int → Int} {al al2 : Int}, gw_ok n x f k I on al → gw_ok n x f2 k I2 on2 al2 → (∀ b, 0 ≤ b → b < n → (I b ↔ I2 b)) ∧ (∀ b, 0 ≤ b → b < n → on b = on2 b) ∧ al = al2
  | 0, I, I2, on, on2, al, al2, h, h2 => ⟨fun b b0 b1 => (h.1 b b0 b1).trans (h2.1 b b0 b1).symm, fun b b0 b1 => (h.2.1 b b0 b1).trans (h2.2.1 b b0 b1).symm, h.2.2.trans h2.2.2.symm⟩
  | k + 1, I, I2, on, on2, al, al2, h, h2 => by
    obtain ⟨I0, on0, al0, c, a, h1, hp, e1, e2, e3, e4⟩ := h
    obtain ⟨J0, pn0, bl0, c2, a2, g1, gp, f1, f2', f3, f4⟩ := h2
    obtain ⟨u1, u2, u3⟩ := gw_uniq hx hf k h1 g1
    obtain ⟨rfl, rfl⟩ := gw_pick_uniq hx u1 hf hp gp
    refine ⟨fun b b0 b1 => ?_, fun b b0 b1 => ?_, ?_⟩
    · rw [e1 b b0 b1, f1 b b0 b1, u1 b b0 b1]
    · by_cases e : b = c
      · rw [e, e2, f2']
      · rw [e3 b b0 b1 e, f3 b b0 b1 e, u2 b b0 b1]
    · rw [e4, f4, u3, hf a c hp.2.2.1.1 hp.2.2.1.2 hp.1.1 hp.1.2]
/-- the first k of a row, summed -/
def s_sum (g : Int → Int) (k : Nat) : Int := mt_s (fun i => g i) k
theorem s_sum_w {s : am_S} {a : Nat} {x v : Int} {k : Nat} (h0 : 0 ≤ x) (h1 : x < k) : s_sum (am_w s a x v a) k = s_sum (s a) k + (v - s a x) := by
  unfold s_sum
  obtain ⟨j, rfl⟩ := Int.eq_ofNat_of_zero_le h0
  rw [mt_s_one (f := fun i => am_w s a j v a i) (g := fun i => s a i) (j := j) (by omega) (fun i hi hne => am_w_x (by omega))]
  show _ + (am_w s a j v a j - s a j) = _
  rw [am_w_eq]
theorem s_sum_full {g : Int → Int} {x : Int} {k : Nat} (h0 : 0 ≤ x) (hx : x ≤ k) (h : ∀ c, x ≤ c → c < k → g c = 1) (hz : ∀ c, 0 ≤ c → c < x → g c = 0) : s_sum g k = k - x := by
  unfold s_sum
  induction k with
  | zero => show (0 : Int) = _; omega
  | succ k ih =>
    show mt_s (fun i => g i) k + g k = _
    by_cases e : x ≤ (k : Int)
    · rw [ih e (fun c c0 c1 => h c c0 (by omega)), h k e (by omega)]
      omega
    · have : x = ((k + 1 : Nat) : Int) := by omega
      rw [hz k (by omega) (by omega), Int.add_zero]
      have z : mt_s (fun i => g i) k = mt_s (fun _ => 0) k := mt_s_congr (fun i hi => hz i (by omega) (by omega))
      rw [z, mt_s_zero]
      omega
theorem s_sum_le {g : Int → Int} : ∀ {k : Nat} {x : Int}, (∀ c, 0 ≤ c → c < (k : Int) → g c = 0 ∨ g c = 1) → 0 ≤ x → x ≤ k → (∀ c, 0 ≤ c → c < x → g c = 0) → s_sum g k ≤ k - x
  | 0, x, _, h0, h1, _ => by
    show (0 : Int) ≤ _
    omega
  | k + 1, x, h, h0, h1, hz => by
    show mt_s (fun i => g i) k + g k ≤ _
    by_cases e : x ≤ (k : Int)
    · have := s_sum_le (g := g) (k := k) (x := x) (fun c c0 c1 => h c c0 (by omega)) h0 e hz
      unfold s_sum at this
      rcases h k (by omega) (by omega) with z | z <;> omega
    · have z : mt_s (fun i => g i) k = mt_s (fun _ => 0) k := mt_s_congr (fun i hi => hz i (by omega) (by omega))
      rw [z, mt_s_zero, hz k (by omega) (by omega)]
      omega
theorem s_sum_all {g : Int → Int} : ∀ {k : Nat} {x : Int}, (∀ c, 0 ≤ c → c < (k : Int) → g c = 0 ∨ g c = 1) → 0 ≤ x → x ≤ k → (∀ c, 0 ≤ c → c < x → g c = 0) → s_sum g k = k - x → ∀ c, x ≤ c → c < (k : Int) → g c = 1
  | 0, x, _, h0, _, _, _, c, c0, c1 => by omega
  | k + 1, x, h, h0, h1, hz, hs, c, c0, c1 => by
    have hs : mt_s (fun i => g i) k + g k = ((k + 1 : Nat) : Int) - x := hs
    have e : x ≤ (k : Int) := by omega
    have hl := s_sum_le (g := g) (k := k) (x := x) (fun c c0 c1 => h c c0 (by omega)) h0 e hz
    unfold s_sum at hl
    have hk : g k = 1 := by rcases h k (by omega) (by omega) with z | z <;> omega
    by_cases ec : c = (k : Int)
    · rw [ec]; exact hk
    · exact s_sum_all (g := g) (k := k) (x := x) (fun c c0 c1 => h c c0 (by omega)) h0 e hz (by unfold s_sum; omega) c c0 (by omega)
theorem gw_rng {n x : Int} {f : Int → Int → Int} (hx : 0 ≤ x) : ∀ {k : Nat} {I : Int → Prop} {on : Int → Int} {al : Int}, gw_ok n x f k I on al → (∀ b, 0 ≤ b → b < n → I b → x ≤ b) ∧ (∀ b, 0 ≤ b → b < n → I b → b ≠ x → x ≤ on b ∧ on b < n) ∧ (∀ b, 0 ≤ b → b < n → ¬ I b → on b = -1) ∧ (x < n → I x ∧ on x = -1)
  | 0, I, on, al, h => ⟨fun b b0 b1 hb => Int.le_of_eq ((h.1 b b0 b1).mp hb).symm, fun b b0 b1 hb hne => absurd ((h.1 b b0 b1).mp hb) hne, fun b b0 b1 _ => h.2.1 b b0 b1, fun hn => ⟨(h.1 x hx hn).mpr rfl, h.2.1 x hx hn⟩⟩
  | k + 1, I, on, al, h => by
    obtain ⟨I0, on0, al0, c, a, h1, hp, e1, e2, e3, e4⟩ := h
    obtain ⟨i1, i2, i3, i4⟩ := gw_rng hx h1
    refine ⟨fun b b0 b1 hb => ?_, fun b b0 b1 hb hne => ?_, fun b b0 b1 hb => ?_, fun hn => ?_⟩
    · rcases (e1 b b0 b1).mp hb with z | z
      · exact i1 b b0 b1 z
      · rw [z]; exact hp.1.1
    · by_cases e : b = c
      · rw [e, e2]; exact hp.2.2.1
      · rw [e3 b b0 b1 e]
        rcases (e1 b b0 b1).mp hb with z | z
        · exact i2 b b0 b1 z hne
        · exact absurd z e
    · have hc : b ≠ c := fun e => hb ((e1 b b0 b1).mpr (Or.inr e))
      rw [e3 b b0 b1 hc]
      exact i3 b b0 b1 (fun z => hb ((e1 b b0 b1).mpr (Or.inl z)))
    · obtain ⟨j1, j2⟩ := i4 hn
      have hc : x ≠ c := fun e => hp.2.1 (e ▸ j1)
      exact ⟨(e1 x hx hn).mpr (Or.inl j1), by rw [e3 x hx hn hc]; exact j2⟩
def fm (s : am_S) (dr : Int) (t c : Int) : Int := my s t c + (if dr = 0 then 0 else s 191 t + s 191 c)
def pn_ok (s : am_S) (a : Nat) : Prop := ∀ c, 0 ≤ c → c < 20 → -1000000000000000 ≤ s a c ∧ s a c ≤ 1000000000000000
theorem t_far3 {d : Nat} {E : am_Ev} {s : am_S} {a b dr : Int} (g : am_Eg E) (ha : 0 ≤ a ∧ a < 20) (hb : 0 ≤ b ∧ b < 20) (hd : dr = 0 ∨ dr = 1) (hr : am_R (my s a b)) : am_wp (d + 1) 182 0 (lv_args 0 [.ref 168, .int (iI a), .int (iI b), .int (iI dr)]) [] (am_hp E s) (fun rv h => rv = some (.long (lI (fm s dr a b))) ∧ h = am_hp E s) := by
  refine am_s rfl rfl ?_
  refine am_s rfl rfl ?_
  refine am_s rfl rfl ?_
  refine s_cv [_, _] [] rfl g (Or.inl rfl) rfl rfl (Nat.le_of_ble_eq_true rfl) rfl rfl (t_far g ha hb) ?_
  rintro rv h1 ⟨rfl, rfl⟩
  refine s_i2l rfl hr ?_
  refine am_s rfl rfl ?_
  refine s_zeq rfl ⟨by omega, by omega⟩ (fun c1 => ?_) (fun c1 => ?_)
  · refine s_kl 0 rfl rfl ?_
    refine s_ladd rfl ?_
    refine am_r rfl rfl ⟨?_, rfl⟩
    unfold fm
    first | (rw [if_pos c1]; done) | (rw [if_neg c1]; done)
  · refine am_s rfl rfl ?_
    refine s_gr rfl g rfl rfl ?_
    refine am_s rfl rfl ?_
    refine s_la rfl g rfl ⟨by omega, by omega⟩ (by decide) ?_
    refine am_s rfl rfl ?_
    refine s_gr rfl g rfl rfl ?_
    refine am_s rfl rfl ?_
    refine s_la rfl g rfl ⟨by omega, by omega⟩ (by decide) ?_
    refine s_ladd rfl ?_
    refine am_s rfl rfl ?_
    refine s_ladd rfl ?_
    refine am_r rfl rfl ⟨?_, rfl⟩
    unfold fm
    first | (rw [if_pos c1]; done) | (rw [if_neg c1]; done)
/-- which are in, by a row of 0 and 1 -/
def in_of (g : Int → Int) : Int → Prop := fun c => g c = 1
def gm_S (s s1 : am_S) : Prop := am_Fr [186, 175] s s1
theorem gm_my {s s1 : am_S} (h : gm_S s s1) (x y : Int) : my s1 x y = my s x y := by
  unfold my
  rw [h 169 (by decide)]
theorem gm_fm {s s1 : am_S} (h : gm_S s s1) (dr x y : Int) : fm s1 dr x y = fm s dr x y := by
  unfold fm
  rw [gm_my h, h 191 (by decide)]
/-- scanned so far: rows below c, and of row c what is below t -/
def gm_sc (x C T c t : Int) : Prop := c < C ∨ c = C ∧ t < T
def gm_best (n x : Int) (f : Int → Int → Int) (I : Int → Prop) (C T : Int) (q : Int × Int) : Prop :=
  (q = (-1, -1) ∧ ∀ c t, x ≤ c → c < n → x ≤ t → t < n → gm_sc x C T c t → ¬ I c → ¬ I t) ∨ ((x ≤ q.1 ∧ q.1 < n) ∧ (x ≤ q.2 ∧ q.2 < n) ∧ ¬ I q.1 ∧ I q.2 ∧ gm_sc x C T q.1 q.2 ∧ ∀ c t, x ≤ c → c < n → x ≤ t → t < n → gm_sc x C T c t → ¬ I c → I t → f q.2 q.1 < f t c ∨ f q.2 q.1 = f t c ∧ (q.1 < c ∨ q.1 = c ∧ q.2 ≤ t))
theorem gm_keep {n x : Int} {f : Int → Int → Int} {I : Int → Prop} {C T : Int} {q : Int × Int} (hx : 0 ≤ x) (h : gm_best n x f I C T q) (k : ¬ I C → I T → x ≤ q.1 ∧ (f q.2 q.1 < f T C ∨ f q.2 q.1 = f T C ∧ (q.1 < C ∨ q.1 = C ∧ q.2 ≤ T))) : gm_best n x f I C (T + 1) q := by
  rcases h with ⟨rfl, h⟩ | ⟨h1, h2, h3, h4, h5, h6⟩
  · refine Or.inl ⟨rfl, fun c t a1 a2 a3 a4 a5 a6 a7 => ?_⟩
    unfold gm_sc at a5
    by_cases e : c = C ∧ t = T
    · obtain ⟨rfl, rfl⟩ := e
      have := (k a6 a7).1
      have : x ≤ -1 := this
      omega
    · exact h c t a1 a2 a3 a4 (by unfold gm_sc; omega) a6 a7
  · refine Or.inr ⟨h1, h2, h3, h4, by unfold gm_sc at h5 ⊢; omega, fun c t a1 a2 a3 a4 a5 a6 a7 => ?_⟩
    unfold gm_sc at a5
    by_cases e : c = C ∧ t = T
    · obtain ⟨rfl, rfl⟩ := e
      exact (k a6 a7).2
    · exact h6 c t a1 a2 a3 a4 (by unfold gm_sc; omega) a6 a7
theorem gm_take {n x : Int} {f : Int → Int → Int} {I : Int → Prop} {C T : Int} {q : Int × Int} (hx : 0 ≤ x) (h : gm_best n x f I C T q) (hC : x ≤ C ∧ C < n) (hT : x ≤ T ∧ T < n) (h3 : ¬ I C) (h4 : I T) (k : q.1 = -1 ∨ f T C < f q.2 q.1) : gm_best n x f I C (T + 1) (C, T) := by
  refine Or.inr ⟨hC, hT, h3, h4, by unfold gm_sc; omega, fun c t a1 a2 a3 a4 a5 a6 a7 => ?_⟩
  show f T C < f t c ∨ f T C = f t c ∧ (C < c ∨ C = c ∧ T ≤ t)
  unfold gm_sc at a5
  by_cases e : c = C ∧ t = T
  · obtain ⟨rfl, rfl⟩ := e
    exact Or.inr ⟨rfl, Or.inr ⟨rfl, Int.le_refl _⟩⟩
  · rcases h with ⟨rfl, h⟩ | ⟨g1, g2, g3, g4, g5, g6⟩
    · exact absurd a7 (h c t a1 a2 a3 a4 (by unfold gm_sc; omega) a6)
    · have := g6 c t a1 a2 a3 a4 (by unfold gm_sc; omega) a6 a7
      rcases k with k | k
      · omega
      · omega
theorem gm_some {n x : Int} {f : Int → Int → Int} {I : Int → Prop} {C T : Int} {q : Int × Int} (h : gm_best n x f I C T q) (k : ¬ q.1 = -1) : (x ≤ q.1 ∧ q.1 < n) ∧ (x ≤ q.2 ∧ q.2 < n) ∧ ¬ I q.1 ∧ I q.2 ∧ gm_sc x C T q.1 q.2 := by
  rcases h with ⟨rfl, h⟩ | ⟨h1, h2, h3, h4, h5, h6⟩
  · exact absurd rfl k
  · exact ⟨h1, h2, h3, h4, h5⟩
theorem gm_row {n x : Int} {f : Int → Int → Int} {I : Int → Prop} {C : Int} {q : Int × Int} (h : gm_best n x f I C n q) : gm_best n x f I (C + 1) x q := by
  rcases h with ⟨rfl, h⟩ | ⟨h1, h2, h3, h4, h5, h6⟩
  · exact Or.inl ⟨rfl, fun c t a1 a2 a3 a4 a5 => h c t a1 a2 a3 a4 (by unfold gm_sc at a5 ⊢; omega)⟩
  · exact Or.inr ⟨h1, h2, h3, h4, by unfold gm_sc at h5 ⊢; omega, fun c t a1 a2 a3 a4 a5 => h6 c t a1 a2 a3 a4 (by unfold gm_sc at a5 ⊢; omega)⟩
theorem t_growM {d : Nat} {E : am_Ev} {s : am_S} {x dr : Int} (g : am_Eg E) (hm : my_ok s) (hp : pn_ok s 191) (hx : 0 ≤ x ∧ x < s 168 1) (hd : dr = 0 ∨ dr = 1) : am_wp (d + 2) 183 0 (lv_args 0 [.ref 168, .int (iI x), .int (iI dr)]) [] (am_hp E s) (fun rv h => ∃ al, rv = some (.long (lI al)) ∧ ∃ s', h = am_hp E s' ∧ am_Fr [186, 175] s s' ∧ gw_ok (s 168 1) x (fm s dr) ((s 168 1 - x).toNat - 1) (in_of (s' 186)) (s' 175) al ∧ (∀ c, x ≤ c → c < s 168 1 → s' 186 c = 1) ∧ -200000000000000000 ≤ al ∧ al ≤ 200000000000000000) := by
  obtain ⟨n1, n2, hD⟩ := hm
  obtain ⟨n, en⟩ : ∃ n : Nat, s 168 1 = n := ⟨(s 168 1).toNat, by omega⟩
  obtain ⟨m0, em⟩ : ∃ m0 : Nat, x + 1 = m0 := ⟨(x + 1).toNat, by omega⟩
  have hfb : ∀ p q, 0 ≤ p → p < (n : Int) → 0 ≤ q → q < (n : Int) → -4000000000000000 ≤ fm s dr p q ∧ fm s dr p q ≤ 4000000000000000 := fun p q p0 p1 q0 q1 => by
    have h1 := hD p q p0 (by omega) q0 (by omega)
    have h2 := hp p p0 (by omega)
    have h3 := hp q q0 (by omega)
    unfold fm
    split <;> omega
  refine s_k 0 rfl rfl ?_
  refine am_s rfl rfl ?_
  refine am_lv [(3, .int (iI (((0 : Nat) : Int) : Int))), (2, .int (iI dr)), (1, .int (iI x)), (0, .ref 168)] rfl rfl ⟨rfl, rfl, rfl, rfl, trivial⟩ ?_
  refine s_loop (X := Unit) (fun k _ s' => gm_S s s' ∧ ∀ c, 0 ≤ c → c < (k : Int) → s' 186 c = (if c = x then 1 else 0) ∧ s' 175 c = -1) (fun k _ => [(3, .int (iI (k : Int))), (2, .int (iI dr)), (1, .int (iI x)), (0, .ref 168)]) (hi := n) (x := ()) (Nat.zero_le n) ⟨am_Fr_r _ _, fun c c0 c1 => absurd c1 (by omega)⟩ ?_ ?_
  · rintro k - s1 hk0 hk ⟨hS, hV⟩ kk
    have hN : s1 168 1 = n := by rw [hS 168 (by decide)]; exact en
    simp only at kk ⊢
    refine am_s rfl rfl ?_
    refine am_s rfl rfl ?_
    refine s_gi (x := 1) rfl g rfl rfl rfl ?_
    refine s_cge rfl ⟨by omega, by omega⟩ ⟨by omega, by omega⟩ (fun c1 => absurd c1 (by omega)) (fun c1 => ?_)
    refine am_s rfl rfl ?_
    refine s_gr rfl g rfl rfl ?_
    refine am_s rfl rfl ?_
    refine am_s rfl rfl ?_
    refine am_s rfl rfl ?_
    refine s_cne rfl ⟨by omega, by omega⟩ ⟨by omega, by omega⟩ (fun c2 => ?_) (fun c2 => ?_)
    · refine s_k 0 rfl rfl ?_
      refine s_bs rfl g rfl ⟨by omega, by omega⟩ (by decide) (by omega) ?_
      refine am_s rfl rfl ?_
      refine s_gr rfl g rfl rfl ?_
      refine am_s rfl rfl ?_
      refine s_k (-1) rfl rfl ?_
      refine s_is rfl g rfl ⟨by omega, by omega⟩ (by decide) ?_
      refine s_inc rfl rfl ?_
      refine am_s rfl rfl ?_
      refine am_lv [(3, _), (2, _), (1, _), (0, _)] rfl rfl ⟨rfl, rfl, rfl, rfl, trivial⟩ ?_
      refine kk () _ ⟨am_Fr_W (am_Fr_W hS (by decide)) (by decide), fun c c0 c1 => ?_⟩
      by_cases e : c = (k : Int)
      · rw [e, am_w_a (by decide), am_w_eq, am_w_eq]; exact ⟨by rw [if_neg c2], rfl⟩
      · rw [am_w_x e, am_w_x e, am_w_x e]; exact hV c c0 (by omega)
    · refine s_k 1 rfl rfl ?_
      refine am_s rfl rfl ?_
      refine s_bs rfl g rfl ⟨by omega, by omega⟩ (by decide) (by omega) ?_
      refine am_s rfl rfl ?_
      refine s_gr rfl g rfl rfl ?_
      refine am_s rfl rfl ?_
      refine s_k (-1) rfl rfl ?_
      refine s_is rfl g rfl ⟨by omega, by omega⟩ (by decide) ?_
      refine s_inc rfl rfl ?_
      refine am_s rfl rfl ?_
      refine am_lv [(3, _), (2, _), (1, _), (0, _)] rfl rfl ⟨rfl, rfl, rfl, rfl, trivial⟩ ?_
      refine kk () _ ⟨am_Fr_W (am_Fr_W hS (by decide)) (by decide), fun c c0 c1 => ?_⟩
      by_cases e : c = (k : Int)
      · rw [e, am_w_a (by decide), am_w_eq, am_w_eq]; exact ⟨by rw [if_pos (Decidable.of_not_not c2)], rfl⟩
      · rw [am_w_x e, am_w_x e, am_w_x e]; exact hV c c0 (by omega)
  · rintro - s1 ⟨hS, hV⟩
    have hN : s1 168 1 = n := by rw [hS 168 (by decide)]; exact en
    simp only
    refine am_s rfl rfl ?_
    refine am_s rfl rfl ?_
    refine s_gi (x := 1) rfl g rfl rfl rfl ?_
    refine s_cge rfl ⟨by omega, by omega⟩ ⟨by omega, by omega⟩ (fun c1 => ?_) (fun c1 => absurd c1 (by omega))
    refine s_kl 0 rfl rfl ?_
    refine am_s rfl rfl ?_
    refine am_s rfl rfl ?_
    refine s_k 1 rfl rfl ?_
    refine s_iadd rfl ?_
    refine am_s rfl rfl ?_
    refine am_lv [(5, .int (iI (m0 : Int))), (3, .long (lI 0)), (2, .int (iI dr)), (1, .int (iI x)), (0, .ref 168)] rfl rfl ⟨by rw [show ((m0 : Nat) : Int) = x + 1 by omega]; rfl, rfl, rfl, rfl, rfl, trivial⟩ ?_
    refine s_loop (X := Int) (fun k al s' => gm_S s s' ∧ gw_ok n x (fm s dr) (k - x.toNat - 1) (in_of (s' 186)) (s' 175) al ∧ s_sum (s' 186) n = (k : Int) - x ∧ (∀ c, 0 ≤ c → c < (n : Int) → s' 186 c = 0 ∨ s' 186 c = 1) ∧ (∀ c, 0 ≤ c → c < x → s' 186 c = 0) ∧ s' 186 x = 1 ∧ -((k : Int) * 10000000000000000) ≤ al ∧ al ≤ (k : Int) * 10000000000000000) (fun k al => [(5, .int (iI (k : Int))), (3, .long (lI al)), (2, .int (iI dr)), (1, .int (iI x)), (0, .ref 168)]) (lo := m0) (hi := n) (x := 0) (by omega) ⟨hS, ?g1, ?g2, fun c c0 c1 => ?g3, fun c c0 c1 => ?g4, ?g5, by omega, by omega⟩ ?_ ?_
    case g1 =>
      rw [show m0 - x.toNat - 1 = 0 by omega]
      exact ⟨fun c c0 c1 => by unfold in_of; rw [(hV c c0 c1).1]; by_cases e : c = x <;> simp [e], fun c c0 c1 => (hV c c0 c1).2, rfl⟩
    case g2 =>
      unfold s_sum
      obtain ⟨x0, rfl⟩ := Int.eq_ofNat_of_zero_le hx.1
      rw [mt_s_one (f := fun i => s1 186 i) (g := fun _ => 0) (j := x0) (by omega) (fun i hi hne => by rw [(hV i (by omega) (by omega)).1, if_neg (by omega)]), mt_s_zero, (hV x0 (by omega) (by omega)).1, if_pos rfl]
      omega
    case g3 => rw [(hV c c0 c1).1]; by_cases e : c = x <;> simp [e]
    case g4 => rw [(hV c c0 (by omega)).1, if_neg (by omega)]
    case g5 => rw [(hV x hx.1 (by omega)).1, if_pos rfl]
    · rintro k al s2 hk0 hk ⟨hS2, h2, h3, h4, h5, h6, h7, h8⟩ kk
      have hN : s2 168 1 = n := by rw [hS2 168 (by decide)]; exact en
      simp only at kk ⊢
      refine am_s rfl rfl ?_
      refine am_s rfl rfl ?_
      refine s_gi (x := 1) rfl g rfl rfl rfl ?_
      refine s_cge rfl ⟨by omega, by omega⟩ ⟨by omega, by omega⟩ (fun c1 => absurd c1 (by omega)) (fun c1 => ?_)
      refine s_k (-1) rfl rfl ?_
      refine am_s rfl rfl ?_
      refine s_k (-1) rfl rfl ?_
      refine am_s rfl rfl ?_
      refine am_s rfl rfl ?_
      refine am_s rfl rfl ?_
      refine am_lv [(8, .int (iI ((x.toNat : Nat) : Int))), (7, .int (iI (-1))), (6, .int (iI (-1))), (5, .int (iI (k : Int))), (3, .long (lI al)), (2, .int (iI dr)), (1, .int (iI x)), (0, .ref 168)] rfl rfl ⟨by rw [show ((x.toNat : Nat) : Int) = x by omega]; rfl, rfl, rfl, rfl, rfl, rfl, rfl, rfl, trivial⟩ ?_
      refine s_loop (X := Int × Int) (fun C q s' => s2 = s' ∧ gm_best n x (fm s dr) (in_of (s2 186)) C x q) (fun C q => [(8, .int (iI (C : Int))), (7, .int (iI q.2)), (6, .int (iI q.1)), (5, .int (iI (k : Int))), (3, .long (lI al)), (2, .int (iI dr)), (1, .int (iI x)), (0, .ref 168)]) (lo := x.toNat) (hi := n) (x := (-1, -1)) (by omega) ⟨rfl, Or.inl ⟨rfl, fun c t a1 a2 a3 a4 a5 => absurd a5 (by unfold gm_sc; omega)⟩⟩ ?_ ?_
      · rintro C q s3 hC0 hC ⟨rfl, hB⟩ k2
        simp only at k2 ⊢
        refine am_s rfl rfl ?_
        refine am_s rfl rfl ?_
        refine s_gi (x := 1) rfl g rfl rfl rfl ?_
        refine s_cge rfl ⟨by omega, by omega⟩ ⟨by omega, by omega⟩ (fun c1 => absurd c1 (by omega)) (fun c1 => ?_)
        refine am_s rfl rfl ?_
        refine am_s rfl rfl ?_
        refine am_lv [(9, .int (iI ((x.toNat : Nat) : Int))), (8, .int (iI (C : Int))), (7, .int (iI q.2)), (6, .int (iI q.1)), (5, .int (iI (k : Int))), (3, .long (lI al)), (2, .int (iI dr)), (1, .int (iI x)), (0, .ref 168)] rfl rfl ⟨by rw [show ((x.toNat : Nat) : Int) = x by omega]; rfl, rfl, rfl, rfl, rfl, rfl, rfl, rfl, rfl, trivial⟩ ?_
        refine s_loop (X := Int × Int) (fun T q s' => s2 = s' ∧ gm_best n x (fm s dr) (in_of (s2 186)) C T q) (fun T q => [(9, .int (iI (T : Int))), (8, .int (iI (C : Int))), (7, .int (iI q.2)), (6, .int (iI q.1)), (5, .int (iI (k : Int))), (3, .long (lI al)), (2, .int (iI dr)), (1, .int (iI x)), (0, .ref 168)]) (lo := x.toNat) (hi := n) (x := q) (by omega) ⟨rfl, by rw [show ((x.toNat : Nat) : Int) = x by omega]; exact hB⟩ ?_ ?_
        · rintro T q s4 hT0 hT ⟨rfl, hQ⟩ k3
          simp only at k3 ⊢
          refine am_s rfl rfl ?_
          refine am_s rfl rfl ?_
          refine s_gi (x := 1) rfl g rfl rfl rfl ?_
          refine s_cge rfl ⟨by omega, by omega⟩ ⟨by omega, by omega⟩ (fun c3 => absurd c3 (by omega)) (fun c3 => ?_)
          refine am_s rfl rfl ?_
          refine s_gr rfl g rfl rfl ?_
          refine am_s rfl rfl ?_
          refine s_ba rfl g rfl ⟨by omega, by omega⟩ (by decide) ?_
          refine s_zne rfl (by rcases h4 C (by omega) (by omega) with z | z <;> exact ⟨by omega, by omega⟩) (fun c4 => ?_) (fun c4 => ?_)
          · refine s_inc rfl rfl ?_
            refine am_s rfl rfl ?_
            refine am_lv [(9, _), (8, _), (7, _), (6, _), (5, _), (3, _), (2, _), (1, _), (0, _)] rfl rfl ⟨rfl, rfl, rfl, rfl, rfl, rfl, rfl, rfl, rfl, trivial⟩ ?_
            refine k3 q _ ⟨rfl, gm_keep hx.1 hQ (fun e1 _ => absurd (show in_of (s2 186) C from ?_) e1)⟩
            rcases h4 C (by omega) (by omega) with z | z
            · exact absurd z c4
            · exact z
          · refine am_s rfl rfl ?_
            refine s_gr rfl g rfl rfl ?_
            refine am_s rfl rfl ?_
            refine s_ba rfl g rfl ⟨by omega, by omega⟩ (by decide) ?_
            refine s_zeq rfl (by rcases h4 T (by omega) (by omega) with z | z <;> exact ⟨by omega, by omega⟩) (fun c5 => ?_) (fun c5 => ?_)
            · refine s_inc rfl rfl ?_
              refine am_s rfl rfl ?_
              refine am_lv [(9, _), (8, _), (7, _), (6, _), (5, _), (3, _), (2, _), (1, _), (0, _)] rfl rfl ⟨rfl, rfl, rfl, rfl, rfl, rfl, rfl, rfl, rfl, trivial⟩ ?_
              exact k3 q _ ⟨rfl, gm_keep hx.1 hQ (fun _ e2 => absurd e2 (fun z => by unfold in_of at z; omega))⟩
            · have hnI : ¬ in_of (s2 186) C := fun z => by unfold in_of at z; omega
              have hiT : in_of (s2 186) T := by
                rcases h4 T (by omega) (by omega) with z | z
                · exact absurd z c5
                · exact z
              refine am_s rfl rfl ?_
              refine s_k (-1) rfl rfl ?_
              refine s_ceq rfl (by rcases hQ with ⟨z, -⟩ | ⟨z, -⟩ <;> first | (rw [z]; exact ⟨by decide, by decide⟩) | exact ⟨by omega, by omega⟩) ⟨by decide, by decide⟩ (fun c6 => ?_) (fun c6 => ?_)
              · refine am_s rfl rfl ?_
                refine am_s rfl rfl ?_
                refine am_s rfl rfl ?_
                refine am_s rfl rfl ?_
                refine s_inc rfl rfl ?_
                refine am_s rfl rfl ?_
                refine am_lv [(9, _), (8, _), (7, _), (6, _), (5, _), (3, _), (2, _), (1, _), (0, _)] rfl rfl ⟨rfl, rfl, rfl, rfl, rfl, rfl, rfl, rfl, rfl, trivial⟩ ?_
                exact k3 (C, T) _ ⟨rfl, gm_take hx.1 hQ ⟨by omega, by omega⟩ ⟨by omega, by omega⟩ hnI hiT (Or.inl c6)⟩
              · have hq := gm_some hQ c6
                refine am_s rfl rfl ?_
                refine am_s rfl rfl ?_
                refine am_s rfl rfl ?_
                refine am_s rfl rfl ?_
                refine s_cv [_, _, _] [] rfl g (Or.inl rfl) rfl rfl (Nat.le_of_ble_eq_true rfl) rfl rfl (t_far3 g ⟨by omega, by omega⟩ ⟨by omega, by omega⟩ hd (by rw [gm_my hS2]; have := hD T C (by omega) (by omega) (by omega) (by omega); exact ⟨by omega, by omega⟩)) ?_
                rintro rv h1 ⟨rfl, rfl⟩
                rw [gm_fm hS2]
                refine am_s rfl rfl ?_
                refine am_s rfl rfl ?_
                refine am_s rfl rfl ?_
                refine am_s rfl rfl ?_
                refine s_cv [_, _, _] [_] rfl g (Or.inl rfl) rfl rfl (Nat.le_of_ble_eq_true rfl) rfl rfl (t_far3 g ⟨by omega, by omega⟩ ⟨by omega, by omega⟩ hd (by rw [gm_my hS2]; have := hD q.2 q.1 (by omega) (by omega) (by omega) (by omega); exact ⟨by omega, by omega⟩)) ?_
                rintro rv h1 ⟨rfl, rfl⟩
                rw [gm_fm hS2]
                refine s_jge rfl rfl (by have := hfb T C (by omega) (by omega) (by omega) (by omega); exact ⟨by omega, by omega⟩) (by have := hfb q.2 q.1 (by omega) (by omega) (by omega) (by omega); exact ⟨by omega, by omega⟩) (fun c7 => ?_) (fun c7 => ?_)
                · refine s_inc rfl rfl ?_
                  refine am_s rfl rfl ?_
                  refine am_lv [(9, _), (8, _), (7, _), (6, _), (5, _), (3, _), (2, _), (1, _), (0, _)] rfl rfl ⟨rfl, rfl, rfl, rfl, rfl, rfl, rfl, rfl, rfl, trivial⟩ ?_
                  refine k3 q _ ⟨rfl, gm_keep hx.1 hQ (fun _ _ => ⟨hq.1.1, ?_⟩)⟩
                  have hsc := hq.2.2.2.2
                  unfold gm_sc at hsc
                  omega
                · refine am_s rfl rfl ?_
                  refine am_s rfl rfl ?_
                  refine am_s rfl rfl ?_
                  refine am_s rfl rfl ?_
                  refine s_inc rfl rfl ?_
                  refine am_s rfl rfl ?_
                  refine am_lv [(9, _), (8, _), (7, _), (6, _), (5, _), (3, _), (2, _), (1, _), (0, _)] rfl rfl ⟨rfl, rfl, rfl, rfl, rfl, rfl, rfl, rfl, rfl, trivial⟩ ?_
                  exact k3 (C, T) _ ⟨rfl, gm_take hx.1 hQ ⟨by omega, by omega⟩ ⟨by omega, by omega⟩ hnI hiT (Or.inr (by omega))⟩
        · rintro q s4 ⟨rfl, hQ⟩
          simp only
          refine am_s rfl rfl ?_
          refine am_s rfl rfl ?_
          refine s_gi (x := 1) rfl g rfl rfl rfl ?_
          refine s_cge rfl ⟨by omega, by omega⟩ ⟨by omega, by omega⟩ (fun c3 => ?_) (fun c3 => absurd c3 (by omega))
          refine s_inc rfl rfl ?_
          refine am_s rfl rfl ?_
          refine am_lv [(8, _), (7, _), (6, _), (5, _), (3, _), (2, _), (1, _), (0, _)] rfl rfl ⟨rfl, rfl, rfl, rfl, rfl, rfl, rfl, rfl, trivial⟩ ?_
          exact k2 q _ ⟨rfl, gm_row hQ⟩
      · rintro q s3 ⟨rfl, hB⟩
        have hex : (x ≤ q.1 ∧ q.1 < n) ∧ (x ≤ q.2 ∧ q.2 < n) ∧ ¬ in_of (s2 186) q.1 ∧ in_of (s2 186) q.2 ∧ gm_sc x n x q.1 q.2 ∧ ∀ c t, x ≤ c → c < n → x ≤ t → t < n → gm_sc x n x c t → ¬ in_of (s2 186) c → in_of (s2 186) t → fm s dr q.2 q.1 < fm s dr t c ∨ fm s dr q.2 q.1 = fm s dr t c ∧ (q.1 < c ∨ q.1 = c ∧ q.2 ≤ t) := by
          rcases hB with ⟨-, hno⟩ | hB
          · exfalso
            have hall : ∀ c, x ≤ c → c < (n : Int) → s2 186 c = 1 := fun c c0 c1 => by
              rcases h4 c (by omega) c1 with z | z
              · exact absurd h6 (hno c x c0 c1 (Int.le_refl x) (by omega) (Or.inl c1) (fun y => by unfold in_of at y; omega))
              · exact z
            have := s_sum_full (k := n) hx.1 (by omega) hall h5
            omega
          · exact hB
        obtain ⟨b1, b2, b3, b4, -, b5⟩ := hex
        simp only
        refine am_s rfl rfl ?_
        refine am_s rfl rfl ?_
        refine s_gi (x := 1) rfl g rfl rfl rfl ?_
        refine s_cge rfl ⟨by omega, by omega⟩ ⟨by omega, by omega⟩ (fun c1 => ?_) (fun c1 => absurd c1 (by omega))
        refine am_s rfl rfl ?_
        refine am_s rfl rfl ?_
        refine am_s rfl rfl ?_
        refine am_s rfl rfl ?_
        refine am_s rfl rfl ?_
        refine s_cv [_, _, _] [_] rfl g (Or.inl rfl) rfl rfl (Nat.le_of_ble_eq_true rfl) rfl rfl (t_far3 g ⟨by omega, by omega⟩ ⟨by omega, by omega⟩ hd (by rw [gm_my hS2]; have := hD q.2 q.1 (by omega) (by omega) (by omega) (by omega); exact ⟨by omega, by omega⟩)) ?_
        rintro rv h1 ⟨rfl, rfl⟩
        rw [gm_fm hS2]
        refine s_ladd rfl ?_
        refine am_s rfl rfl ?_
        refine am_s rfl rfl ?_
        refine s_gr rfl g rfl rfl ?_
        refine am_s rfl rfl ?_
        refine am_s rfl rfl ?_
        refine s_is rfl g rfl ⟨by omega, by omega⟩ (by decide) ?_
        refine am_s rfl rfl ?_
        refine s_gr rfl g rfl rfl ?_
        refine am_s rfl rfl ?_
        refine s_k 1 rfl rfl ?_
        refine s_bs rfl g rfl ⟨by omega, by omega⟩ (by decide) (Or.inr rfl) ?_
        refine s_inc rfl rfl ?_
        refine am_s rfl rfl ?_
        refine am_lv [(5, _), (3, _), (2, _), (1, _), (0, _)] rfl rfl ⟨rfl, rfl, rfl, rfl, rfl, trivial⟩ ?_
        have fb := hfb q.2 q.1 (by omega) (by omega) (by omega) (by omega)
        refine kk _ _ ⟨am_Fr_W (am_Fr_W hS2 (by decide)) (by decide), ?_, ?_, fun c c0 c1 => ?_, fun c c0 c1 => ?_, ?_, by omega, by omega⟩
        · rw [show k + 1 - x.toNat - 1 = (k - x.toNat - 1) + 1 by omega]
          refine ⟨in_of (s2 186), s2 175, al, q.1, q.2, h2, ⟨b1, b3, b2, b4, fun c t a1 a2 a3 a4 a5 a6 => b5 c t a1 (by omega) a4 (by omega) (Or.inl (by omega)) a3 a6⟩, fun c c0 c1 => ?_, ?_, fun c c0 c1 hne => ?_, rfl⟩
          · unfold in_of
            by_cases e : c = q.1
            · rw [e, am_w_eq]; simp
            · rw [am_w_x e, am_w_a (by decide)]; simp [e]
          · rw [am_w_a (by decide), am_w_eq]
          · rw [am_w_a (by decide), am_w_x hne]
        · rw [s_sum_w (by omega) (by omega), am_w_row (by decide)]
          have := h4 q.1 (by omega) (by omega)
          unfold in_of at b3
          omega
        · by_cases e : c = q.1
          · rw [e, am_w_eq]; exact Or.inr rfl
          · rw [am_w_x e, am_w_a (by decide)]; exact h4 c c0 c1
        · rw [am_w_x (by omega), am_w_a (by decide)]; exact h5 c c0 c1
        · have hne : x ≠ q.1 := fun z => b3 (by rw [← z]; exact h6)
          rw [am_w_x hne, am_w_a (by decide)]; exact h6
    · rintro al s2 ⟨hS2, h2, h3, h4, h5, h6, h7, h8⟩
      have hN : s2 168 1 = n := by rw [hS2 168 (by decide)]; exact en
      simp only
      refine am_s rfl rfl ?_
      refine am_s rfl rfl ?_
      refine s_gi (x := 1) rfl g rfl rfl rfl ?_
      refine s_cge rfl ⟨by omega, by omega⟩ ⟨by omega, by omega⟩ (fun c1 => ?_) (fun c1 => absurd c1 (by omega))
      refine am_s rfl rfl ?_
      refine am_r rfl rfl ⟨al, rfl, s2, rfl, hS2, ?_, fun c c0 c1 => s_sum_all (k := n) h4 hx.1 (by omega) h5 (by omega) c c0 (by omega), by omega, by omega⟩
      rw [show (s 168 1 - x).toNat - 1 = n - x.toNat - 1 by omega, en]
      exact h2
