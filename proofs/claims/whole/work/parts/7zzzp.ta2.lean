/-! the least ways home, set by set -/
def rb (S a : Int) : Int := ((S.toNat ^^^ 2 ^ a.toNat : Nat) : Int)
theorem bt_z {a b : Int} (h : ¬ bt a b = 1) : bt a b = 0 := by
  rcases bt_01 a b with z | z
  · exact z
  · exact absurd z h
theorem rb_bt {S a b : Int} (ha : 0 ≤ a) (hb : 0 ≤ b) : bt (rb S a) b = if b = a then 1 - bt S b else bt S b := by
  unfold bt rb
  rw [Int.toNat_natCast, Nat.testBit_xor, Nat.testBit_two_pow]
  by_cases e : b = a
  · subst e
    cases S.toNat.testBit b.toNat <;> simp
  · have : a.toNat ≠ b.toNat := by omega
    simp [this, e]
theorem rb_lt {S a : Int} (hS : 0 ≤ S) (h : bt S a = 1) : 0 ≤ rb S a ∧ rb S a < S := by
  have h1 : S.toNat.testBit a.toNat = true := by
    unfold bt at h
    by_cases z : S.toNat.testBit a.toNat = true
    · exact z
    · rw [if_neg z] at h; omega
  have h3 : (S.toNat ^^^ 2 ^ a.toNat) ||| 2 ^ a.toNat = S.toNat := by
    apply Nat.eq_of_testBit_eq
    intro i
    rw [Nat.testBit_or, Nat.testBit_xor, Nat.testBit_two_pow]
    by_cases e : a.toNat = i
    · subst e; simp [h1]
    · simp [e]
  have h4 : S.toNat ^^^ 2 ^ a.toNat ≤ (S.toNat ^^^ 2 ^ a.toNat) ||| 2 ^ a.toNat := Nat.left_le_or
  have h5 : S.toNat ^^^ 2 ^ a.toNat ≠ S.toNat := by
    intro e
    have := congrArg (fun x => Nat.testBit x a.toNat) e
    simp [Nat.testBit_xor, Nat.testBit_two_pow, h1] at this
  unfold rb
  omega
theorem p2_pos (v : Int) : 1 ≤ p2 v := by
  unfold p2
  have : 1 ≤ 2 ^ v.toNat := Nat.one_le_two_pow
  omega
theorem bt_full {n b : Int} (hb : 0 ≤ b) : bt (p2 n - 1) b = if b < n then 1 else 0 := by
  unfold bt p2
  have e : ((2 ^ n.toNat : Nat) - 1 : Int).toNat = 2 ^ n.toNat - 1 := by
    have : 1 ≤ 2 ^ n.toNat := Nat.one_le_two_pow
    omega
  rw [e, Nat.testBit_two_pow_sub_one]
  by_cases z : b < n
  · rw [if_pos z, if_pos (by simp; omega)]
  · rw [if_neg z, if_neg (by simp; omega)]
theorem bt_big {S n b : Int} (hS : 0 ≤ S) (h : S < p2 n) (hb : n ≤ b) (hb0 : 0 ≤ b) : bt S b = 0 := by
  unfold bt
  unfold p2 at h
  rw [Nat.testBit_lt_two_pow (x := S.toNat) (i := b.toNat)]
  · rfl
  · have : 2 ^ n.toNat ≤ 2 ^ b.toNat := Nat.pow_le_pow_right (by decide) (by omega)
    omega
theorem bt_zz (b : Int) : bt 0 b = 0 := by
  unfold bt
  simp
theorem bt_none {S n : Int} (hS : 0 ≤ S) (h : S < p2 n) (hz : ∀ b, 0 ≤ b → b < n → bt S b = 0) : S = 0 := by
  have : S.toNat = 0 := by
    apply Nat.eq_of_testBit_eq
    intro i
    have h1 : bt S (i : Int) = 0 := by
      by_cases z : (i : Int) < n
      · exact hz i (by omega) z
      · exact bt_big hS h (by omega) (by omega)
    unfold bt at h1
    rw [Int.toNat_natCast] at h1
    by_cases q : S.toNat.testBit i = true
    · rw [if_pos q] at h1; omega
    · simp at q; rw [q]; simp
  omega
theorem iI_xor {a b : Int} (ha : 0 ≤ a ∧ a < 2147483648) (hb : 0 ≤ b ∧ b ≤ 30) : iI a ^^^ iI (p2 b) = iI (rb a b) := by
  have h1 : a.toNat ^^^ 2 ^ b.toNat < 2 ^ 31 := Nat.xor_lt_two_pow (by omega) (Nat.pow_lt_pow_right (by decide) (by omega))
  have h2 := p2_lt hb
  apply Int32.toBitVec_inj.mp
  apply BitVec.eq_of_toNat_eq
  rw [Int32.toBitVec_xor, BitVec.toNat_xor, iI_bv ha, iI_bv h2, iI_bv (by unfold rb; omega)]
  unfold rb p2
  rw [Int.toNat_natCast, Int.toNat_natCast]
theorem nand_rb {S a : Int} (hS : 0 ≤ S ∧ S < 2147483648) (ha : 0 ≤ a ∧ a ≤ 30) (h : bt S a = 1) : ((S.toNat &&& (2 ^ 32 - (2 ^ a.toNat + 1)) : Nat) : Int) = rb S a := by
  have h1 : S.toNat.testBit a.toNat = true := by
    unfold bt at h
    by_cases z : S.toNat.testBit a.toNat = true
    · exact z
    · rw [if_neg z] at h; omega
  unfold rb
  congr 1
  apply Nat.eq_of_testBit_eq
  intro i
  rw [Nat.testBit_and, Nat.testBit_two_pow_sub_succ (Nat.pow_lt_pow_right (by decide) (by omega)), Nat.testBit_two_pow, Nat.testBit_xor, Nat.testBit_two_pow]
  by_cases hi : i < 32
  · by_cases e : a.toNat = i
    · subst e
      simp [h1]
    · simp [hi, e]
  · have q : S.toNat.testBit i = false := Nat.testBit_lt_two_pow (Nat.lt_of_lt_of_le (show S.toNat < 2 ^ 32 by omega) (Nat.pow_le_pow_right (by decide) (by omega)))
    have e : a.toNat ≠ i := by omega
    simp [q, e]
section SXB
variable {d i pc : Nat} {lv : am_L} {st r : List Value} {P : Option Value → am_H → Prop} {h : am_H} {aux aux2 : List Nat}
theorem s_xorb {S a : Int} (h1 : am_fetch i pc = some (.ixor, 1, aux)) (hS : 0 ≤ S ∧ S < 2147483648) (ha : 0 ≤ a ∧ a ≤ 30) (k9 : am_wp d i (pc + 1) lv (.int (iI (rb S a)) :: r) h P) : am_wp d i pc lv (.int (iI (p2 a)) :: .int (iI S) :: r) h P := am_s (st' := .int (iI (rb S a)) :: r) h1 (by rw [← iI_xor hS ha]; rfl) k9
theorem s_nandb {S a : Int} (h1 : am_fetch i pc = some (.ixor, 1, aux)) (h2 : am_fetch i (pc + 1) = some (.iand, 1, aux2)) (hS : 0 ≤ S ∧ S < 2147483648) (ha : 0 ≤ a ∧ a ≤ 30) (hb : bt S a = 1) (k9 : am_wp d i (pc + 1 + 1) lv (.int (iI (rb S a)) :: r) h P) : am_wp d i pc lv (.int (iI (-1)) :: .int (iI (p2 a)) :: .int (iI S) :: r) h P := by
  have e := nand_rb hS ha hb
  have e1 : ((S.toNat : Nat) : Int) = S := by omega
  have e2 : ((a.toNat : Nat) : Int) = a := by omega
  have := s_notand (S := S.toNat) (a := a.toNat) (d := d) (i := i) (pc := pc) (lv := lv) (r := r) (h := h) (P := P) h1 h2 (by omega) (by omega) (by rw [e]; exact k9)
  rw [e1, e2] at this
  exact this
end SXB
/-- v is the least way home from c through S -/
def wyA (D : Int → Int → Int) (n : Int) (B : Int → Int → Int) (S c v : Int) : Prop := (S = 0 ∧ v = D c 0) ∨ (S ≠ 0 ∧ (∃ a, 0 ≤ a ∧ a + 1 < n ∧ bt S a = 1 ∧ v = D c (a + 1) + B (rb S a) (a + 1)) ∧ ∀ a, 0 ≤ a → a + 1 < n → bt S a = 1 → v ≤ D c (a + 1) + B (rb S a) (a + 1))
def wyT (D : Int → Int → Int) (n : Int) (B : Int → Int → Int) (m : Int) : Prop := ∀ S c, 0 ≤ S → S < m → 1 ≤ c → c < n → bt S (c - 1) = 0 → wyA D n B S c (B S c)
theorem wyA_c {D D2 : Int → Int → Int} {n : Int} {B B2 : Int → Int → Int} {S c v : Int} (hD : ∀ a b, 0 ≤ a → a < n → 0 ≤ b → b < n → D a b = D2 a b) (hc : 0 ≤ c ∧ c < n) (hB : ∀ a, 0 ≤ a → a + 1 < n → bt S a = 1 → B (rb S a) (a + 1) = B2 (rb S a) (a + 1)) (h : wyA D n B S c v) : wyA D2 n B2 S c v := by
  rcases h with ⟨h1, h2⟩ | ⟨h1, ⟨a, a0, a1, a2, a3⟩, h3⟩
  · exact Or.inl ⟨h1, by rw [h2, hD c 0 hc.1 hc.2 (by omega) (by omega)]⟩
  · refine Or.inr ⟨h1, ⟨a, a0, a1, a2, ?_⟩, fun b b0 b1 b2 => ?_⟩
    · rw [a3, hD c (a + 1) hc.1 hc.2 (by omega) a1, hB a a0 a1 a2]
    · rw [← hD c (b + 1) hc.1 hc.2 (by omega) b1, ← hB b b0 b1 b2]
      exact h3 b b0 b1 b2
theorem wyA_one {D : Int → Int → Int} {n : Int} {B : Int → Int → Int} {S c v v2 : Int} (h : wyA D n B S c v) (h2 : wyA D n B S c v2) : v = v2 := by
  rcases h with ⟨a1, a2⟩ | ⟨a1, ⟨a, p0, p1, p2, p3⟩, a3⟩ <;> rcases h2 with ⟨b1, b2⟩ | ⟨b1, ⟨b, q0, q1, q2, q3⟩, b3⟩
  · omega
  · exact absurd a1 b1
  · exact absurd b1 a1
  · have := a3 b q0 q1 q2
    have := b3 a p0 p1 p2
    omega
theorem rb_v {S a : Int} (h0 : 0 ≤ a) (h : bt S a = 1) : bt (rb S a) (a + 1 - 1) = 0 := by
  rw [show a + 1 - 1 = a by omega, rb_bt h0 h0, if_pos rfl, h]; rfl
theorem wyT_uniq {D D2 : Int → Int → Int} {n m : Int} {B B2 : Int → Int → Int} (hD : ∀ a b, 0 ≤ a → a < n → 0 ≤ b → b < n → D a b = D2 a b) (h : wyT D n B m) (h2 : wyT D2 n B2 m) : ∀ (k : Nat) (S c : Int), S.toNat < k → 0 ≤ S → S < m → 1 ≤ c → c < n → bt S (c - 1) = 0 → B S c = B2 S c
  | 0, S, c, hk, _, _, _, _, _ => absurd hk (Nat.not_lt_zero _)
  | k + 1, S, c, hk, s0, s1, c0, c1, hb => by
    have e1 := h S c s0 s1 c0 c1 hb
    have e2 := h2 S c s0 s1 c0 c1 hb
    refine wyA_one (wyA_c hD ⟨by omega, c1⟩ (fun a a0 a1 a2 => ?_) e1) e2
    have q := rb_lt s0 a2
    exact wyT_uniq hD h h2 k (rb S a) (a + 1) (by omega) q.1 (by omega) (by omega) a1 (rb_v a0 a2)
theorem wyT_bd {D : Int → Int → Int} {n m : Int} {B : Int → Int → Int} (hD : ∀ a b, 0 ≤ a → a < n → 0 ≤ b → b < n → 0 ≤ D a b ∧ D a b < 2147483648) (h : wyT D n B m) : ∀ (k : Nat) (S c : Int), S.toNat < k → 0 ≤ S → S < m → 1 ≤ c → c < n → bt S (c - 1) = 0 → 0 ≤ B S c ∧ B S c ≤ (S + 1) * 2147483648
  | 0, S, c, hk, _, _, _, _, _ => absurd hk (Nat.not_lt_zero _)
  | k + 1, S, c, hk, s0, s1, c0, c1, hb => by
    rcases h S c s0 s1 c0 c1 hb with ⟨e1, e2⟩ | ⟨e1, ⟨a, a0, a1, a2, a3⟩, -⟩
    · have := hD c 0 (by omega) c1 (by omega) (by omega)
      omega
    · have q := rb_lt s0 a2
      have z := wyT_bd hD h k (rb S a) (a + 1) (by omega) q.1 (by omega) (by omega) a1 (rb_v a0 a2)
      have := hD c (a + 1) (by omega) c1 (by omega) a1
      omega
theorem wyT_b {D : Int → Int → Int} {n m : Int} {B : Int → Int → Int} (hD : ∀ a b, 0 ≤ a → a < n → 0 ≤ b → b < n → 0 ≤ D a b ∧ D a b < 2147483648) (h : wyT D n B m) {S a : Int} (s0 : 0 ≤ S) (s1 : S ≤ m) (a0 : 0 ≤ a) (a1 : a + 1 < n) (hb : bt S a = 1) : 0 ≤ B (rb S a) (a + 1) ∧ B (rb S a) (a + 1) ≤ S * 2147483648 := by
  have q := rb_lt s0 hb
  have z := wyT_bd hD h ((rb S a).toNat + 1) (rb S a) (a + 1) (by omega) q.1 (by omega) (by omega) a1 (rb_v a0 hb)
  omega
/-- the first city on a least way -/
def wyH (D : Int → Int → Int) (n : Int) (B : Int → Int → Int) (S c a : Int) : Prop := (0 ≤ a ∧ a + 1 < n ∧ bt S a = 1) ∧ (∀ b, 0 ≤ b → b + 1 < n → bt S b = 1 → D c (a + 1) + B (rb S a) (a + 1) ≤ D c (b + 1) + B (rb S b) (b + 1)) ∧ ∀ b, 0 ≤ b → b < a → bt S b = 1 → D c (a + 1) + B (rb S a) (a + 1) < D c (b + 1) + B (rb S b) (b + 1)
theorem wyH_one {D D2 : Int → Int → Int} {n : Int} {B B2 : Int → Int → Int} {S c a a2 : Int} (hD : ∀ a b, 0 ≤ a → a < n → 0 ≤ b → b < n → D a b = D2 a b) (hc : 0 ≤ c ∧ c < n) (hB : ∀ a, 0 ≤ a → a + 1 < n → bt S a = 1 → B (rb S a) (a + 1) = B2 (rb S a) (a + 1)) (h : wyH D n B S c a) (h2 : wyH D2 n B2 S c a2) : a = a2 := by
  obtain ⟨⟨p0, p1, p2⟩, p3, p4⟩ := h
  obtain ⟨⟨q0, q1, q2⟩, q3, q4⟩ := h2
  have e1 := hD c (a + 1) hc.1 hc.2 (by omega) p1
  have e2 := hD c (a2 + 1) hc.1 hc.2 (by omega) q1
  have e3 := hB a p0 p1 p2
  have e4 := hB a2 q0 q1 q2
  have g1 := p3 a2 q0 q1 q2
  have g2 := q3 a p0 p1 p2
  rcases Int.lt_trichotomy a a2 with z | z | z
  · have := q4 a p0 z p2
    omega
  · exact z
  · have := p4 a2 q0 z q2
    omega
theorem wyH_v {D : Int → Int → Int} {n : Int} {B : Int → Int → Int} {S c a v : Int} (h : wyH D n B S c a) (hv : wyA D n B S c v) : v = D c (a + 1) + B (rb S a) (a + 1) := by
  obtain ⟨⟨p0, p1, p2⟩, p3, p4⟩ := h
  rcases hv with ⟨e1, -⟩ | ⟨-, ⟨b, b0, b1, b2, b3⟩, e3⟩
  · rw [e1, bt_zz] at p2; omega
  · have := e3 a p0 p1 p2
    have := p3 b b0 b1 b2
    omega
def wyr (D : Int → Int → Int) (n : Int) (B : Int → Int → Int) (t : Int → Int) : Nat → Int → Prop
  | 0, L => t 0 = 0 ∧ L = p2 (n - 1) - 1
  | m + 1, L => ∃ L', wyr D n B t m L' ∧ wyH D n B L' (t (m : Int)) (t ((m + 1 : Nat) : Int) - 1) ∧ L = rb L' (t ((m + 1 : Nat) : Int) - 1)
theorem wyr_c {D : Int → Int → Int} {n : Int} {B : Int → Int → Int} {t t2 : Int → Int} : ∀ {m : Nat} {L : Int}, (∀ j, 0 ≤ j → j ≤ (m : Int) → t j = t2 j) → wyr D n B t m L → wyr D n B t2 m L
  | 0, L, e, h => ⟨by rw [← e 0 (by omega) (by omega)]; exact h.1, h.2⟩
  | m + 1, L, e, ⟨L', h1, h2, h3⟩ => ⟨L', wyr_c (fun j j0 j1 => e j j0 (by omega)) h1, by rw [← e m (by omega) (by omega), ← e ((m + 1 : Nat) : Int) (by omega) (by omega)]; exact h2, by rw [← e ((m + 1 : Nat) : Int) (by omega) (by omega)]; exact h3⟩
theorem wyr_cB {D : Int → Int → Int} {n : Int} {B B2 : Int → Int → Int} {t : Int → Int} (e : B = B2) {m : Nat} {L : Int} (h : wyr D n B t m L) : wyr D n B2 t m L := by
  subst e; exact h
theorem mt_s_full {N : Nat} : ∀ k : Nat, k ≤ N → mt_s (fun b : Nat => bt (p2 (N : Int) - 1) (b : Int)) k = (k : Int)
  | 0, _ => rfl
  | k + 1, h => by
    show mt_s (fun b : Nat => bt (p2 (N : Int) - 1) (b : Int)) k + bt (p2 (N : Int) - 1) (k : Int) = _
    rw [mt_s_full k (by omega), bt_full (by omega), if_pos (by omega)]
    omega
abbrev wyF (D : Int → Int → Int) (n : Int) (t : Int → Int) (m : Nat) (L : Int) : Prop := Nonempty (PProd (0 ≤ L ∧ L < p2 (n - 1)) (PProd (t 0 = 0) (PProd (∀ j, 0 ≤ j → j ≤ (m : Int) → 0 ≤ t j ∧ t j < n) (PProd (t (m : Int) = 0 ∨ (1 ≤ t (m : Int) ∧ bt L (t (m : Int) - 1) = 0)) (PProd (∀ b, 0 ≤ b → b + 1 < n → bt L b = 0 → ∃ j, 0 ≤ j ∧ j ≤ (m : Int) ∧ t j = b + 1) (mt_s (fun b : Nat => bt L (b : Int)) (n - 1).toNat = n - 1 - m))))))
theorem wyF.r {D : Int → Int → Int} {n : Int} {t : Int → Int} {m : Nat} {L : Int} (h_ : wyF D n t m L) : 0 ≤ L ∧ L < p2 (n - 1) := h_.elim (fun x_ => x_.1)
theorem wyF.t0 {D : Int → Int → Int} {n : Int} {t : Int → Int} {m : Nat} {L : Int} (h_ : wyF D n t m L) : t 0 = 0 := h_.elim (fun x_ => x_.2.1)
theorem wyF.tr {D : Int → Int → Int} {n : Int} {t : Int → Int} {m : Nat} {L : Int} (h_ : wyF D n t m L) : ∀ j, 0 ≤ j → j ≤ (m : Int) → 0 ≤ t j ∧ t j < n := h_.elim (fun x_ => x_.2.2.1)
theorem wyF.lst {D : Int → Int → Int} {n : Int} {t : Int → Int} {m : Nat} {L : Int} (h_ : wyF D n t m L) : t (m : Int) = 0 ∨ (1 ≤ t (m : Int) ∧ bt L (t (m : Int) - 1) = 0) := h_.elim (fun x_ => x_.2.2.2.1)
theorem wyF.mem {D : Int → Int → Int} {n : Int} {t : Int → Int} {m : Nat} {L : Int} (h_ : wyF D n t m L) : ∀ b, 0 ≤ b → b + 1 < n → bt L b = 0 → ∃ j, 0 ≤ j ∧ j ≤ (m : Int) ∧ t j = b + 1 := h_.elim (fun x_ => x_.2.2.2.2.1)
theorem wyF.cnt {D : Int → Int → Int} {n : Int} {t : Int → Int} {m : Nat} {L : Int} (h_ : wyF D n t m L) : mt_s (fun b : Nat => bt L (b : Int)) (n - 1).toNat = n - 1 - m := h_.elim (fun x_ => x_.2.2.2.2.2)
theorem wyr_f {D : Int → Int → Int} {n : Int} {B : Int → Int → Int} {t : Int → Int} (hn : 1 ≤ n) : ∀ {m : Nat} {L : Int}, wyr D n B t m L → wyF D n t m L
  | 0, L, ⟨h1, h2⟩ => by
    subst h2
    have := p2_pos (n - 1)
    refine ⟨by omega, h1, fun j j0 j1 => ?_, Or.inl h1, fun b b0 b1 hb => ?_, ?_⟩
    · rw [show j = 0 by omega, h1]; omega
    · rw [bt_full b0, if_pos (by omega)] at hb; omega
    · have e : ((n - 1).toNat : Int) = n - 1 := by omega
      have := mt_s_full (N := (n - 1).toNat) (n - 1).toNat (Nat.le_refl _)
      rw [e] at this
      rw [this]; omega
  | m + 1, L, ⟨L', h1, h2, h3⟩ => by
    have f := wyr_f hn h1
    obtain ⟨⟨a0, a1, a2⟩, -, -⟩ := h2
    have q := rb_lt f.r.1 a2
    have e : t ((m + 1 : Nat) : Int) - 1 + 1 = t ((m + 1 : Nat) : Int) := by omega
    have hL : ∀ b, 0 ≤ b → bt L b = if b = t ((m + 1 : Nat) : Int) - 1 then 1 - bt L' b else bt L' b := fun b b0 => by rw [h3]; exact rb_bt a0 b0
    refine ⟨by have := f.r; omega, f.t0, fun j j0 j1 => ?_, Or.inr ⟨by omega, ?_⟩, fun b b0 b1 hb => ?_, ?_⟩
    · by_cases z : j = ((m + 1 : Nat) : Int)
      · rw [z]; omega
      · exact f.tr j j0 (by omega)
    · rw [hL _ a0, if_pos rfl, a2]; rfl
    · rw [hL b b0] at hb
      by_cases z : b = t ((m + 1 : Nat) : Int) - 1
      · exact ⟨((m + 1 : Nat) : Int), by omega, by omega, by omega⟩
      · rw [if_neg z] at hb
        obtain ⟨j, j0, j1, j2⟩ := f.mem b b0 b1 hb
        exact ⟨j, j0, by omega, j2⟩
    · have hc := f.cnt
      have := mt_s_one (f := fun b : Nat => bt L (b : Int)) (g := fun b : Nat => bt L' (b : Int)) (j := (t ((m + 1 : Nat) : Int) - 1).toNat) (n := (n - 1).toNat) (by omega) (fun i hi hne => by
        show bt L (i : Int) = bt L' (i : Int)
        rw [hL _ (by omega), if_neg (by omega)])
      rw [this, hc]
      have e2 : (((t ((m + 1 : Nat) : Int) - 1).toNat : Nat) : Int) = t ((m + 1 : Nat) : Int) - 1 := by omega
      show _ + (bt L (((t ((m + 1 : Nat) : Int) - 1).toNat : Nat) : Int) - bt L' (((t ((m + 1 : Nat) : Int) - 1).toNat : Nat) : Int)) = _
      rw [e2, hL _ a0, if_pos rfl, a2]
      omega
theorem wyF_nz {D : Int → Int → Int} {n : Int} {t : Int → Int} {m : Nat} {L : Int} (f : wyF D n t m L) (h : (m : Int) + 1 < n) : L ≠ 0 := by
  intro z
  have := f.cnt
  rw [z, mt_s_congr (g := fun _ => 0) (fun i _ => bt_zz _), mt_s_zero] at this
  omega
theorem mt_s_01 {f : Nat → Int} (h : ∀ i, f i = 0 ∨ f i = 1) : ∀ {k : Nat}, mt_s f k = 0 → ∀ i, i < k → f i = 0
  | 0, _, i, hi => absurd hi (Nat.not_lt_zero i)
  | k + 1, e, i, hi => by
    have e : mt_s f k + f k = 0 := e
    have p : 0 ≤ mt_s f k := by
      have := mt_s_le (f := fun _ => 0) (g := f) (n := k) (fun i _ => by rcases h i with z | z <;> omega)
      rw [mt_s_zero] at this
      exact this
    have := h k
    by_cases z : i = k
    · subst z; omega
    · exact mt_s_01 h (k := k) (by omega) i (by omega)
theorem wyF_end {D : Int → Int → Int} {n : Int} {t : Int → Int} {m : Nat} {L : Int} (f : wyF D n t m L) (h : (m : Int) + 1 = n) : L = 0 := by
  have c := f.cnt
  rw [show n - 1 - (m : Int) = 0 by omega] at c
  have := mt_s_01 (fun i => bt_01 L (i : Int)) c
  refine bt_none f.r.1 f.r.2 (fun b b0 b1 => ?_)
  have z := this b.toNat (by omega)
  rw [show ((b.toNat : Nat) : Int) = b by omega] at z
  exact z
theorem wyr_v {D : Int → Int → Int} {n : Int} {B : Int → Int → Int} {t : Int → Int} {v0 : Int} (hn : 1 ≤ n) (hT : wyT D n B (p2 (n - 1))) (hv : wyA D n B (p2 (n - 1) - 1) 0 v0) : ∀ {m : Nat} {L : Int}, wyr D n B t m L → ∃ v, wyA D n B L (t (m : Int)) v ∧ mt_s (fun i : Nat => D (t (i : Int)) (t ((i + 1 : Nat) : Int))) m + v = v0
  | 0, L, ⟨h1, h2⟩ => ⟨v0, by subst h2; show wyA D n B _ (t 0) v0; rw [h1]; exact hv, by show 0 + v0 = v0; omega⟩
  | m + 1, L, h => by
    have f2 := wyr_f hn h
    obtain ⟨L', h1, h2, h3⟩ := h
    have f := wyr_f hn h1
    obtain ⟨v, v1, v2⟩ := wyr_v hn hT hv h1
    have e := wyH_v h2 v1
    obtain ⟨⟨a0, a1, a2⟩, -, -⟩ := h2
    rw [show t ((m + 1 : Nat) : Int) - 1 + 1 = t ((m + 1 : Nat) : Int) by omega, ← h3] at e
    refine ⟨B L (t ((m + 1 : Nat) : Int)), hT L _ f2.r.1 f2.r.2 (by omega) (by omega) ?_, ?_⟩
    · rcases f2.lst with z | z
      · omega
      · exact z.2
    · show mt_s (fun i : Nat => D (t (i : Int)) (t ((i + 1 : Nat) : Int))) m + D (t (m : Int)) (t ((m + 1 : Nat) : Int)) + _ = v0
      omega
theorem wyr_uniq {D D2 : Int → Int → Int} {n : Int} {B B2 : Int → Int → Int} {t t2 : Int → Int} (hn : 1 ≤ n) (hD : ∀ a b, 0 ≤ a → a < n → 0 ≤ b → b < n → D a b = D2 a b) (hT : wyT D n B (p2 (n - 1))) (hT2 : wyT D2 n B2 (p2 (n - 1))) : ∀ {m : Nat} {L L2 : Int}, wyr D n B t m L → wyr D2 n B2 t2 m L2 → L = L2 ∧ ∀ j, 0 ≤ j → j ≤ (m : Int) → t j = t2 j
  | 0, L, L2, ⟨h1, h2⟩, ⟨g1, g2⟩ => ⟨by rw [h2, g2], fun j j0 j1 => by rw [show j = 0 by omega, h1, g1]⟩
  | m + 1, L, L2, ⟨L', h1, h2, h3⟩, ⟨K', g1, g2, g3⟩ => by
    obtain ⟨e, et⟩ := wyr_uniq hn hD hT hT2 h1 g1
    subst e
    have f := wyr_f hn h1
    rw [← et m (by omega) (by omega)] at g2
    have z := wyH_one hD (f.tr m (by omega) (by omega)) (fun a a0 a1 a2 => by
      have q := rb_lt f.r.1 a2
      exact wyT_uniq hD hT hT2 ((rb L' a).toNat + 1) (rb L' a) (a + 1) (by omega) q.1 (by have := f.r; omega) (by omega) a1 (rb_v a0 a2)) h2 g2
    refine ⟨by rw [h3, g3, z], fun j j0 j1 => ?_⟩
    by_cases y : j = ((m + 1 : Nat) : Int)
    · rw [y]; omega
    · exact et j j0 (by omega)
theorem wyr_end {D : Int → Int → Int} {n : Int} {B : Int → Int → Int} {t : Int → Int} {v0 : Int} {N : Nat} (hn : 1 ≤ n) (eN : n = (N : Int)) (hT : wyT D n B (p2 (n - 1))) (hv : wyA D n B (p2 (n - 1) - 1) 0 v0) {L : Int} (h : wyr D n B t (N - 1) L) : tOK N t ∧ tl n D t N = v0 := by
  have f := wyr_f hn h
  have z := wyF_end f (by omega)
  subst z
  obtain ⟨v, v1, v2⟩ := wyr_v hn hT hv h
  refine ⟨⟨fun i i0 i1 => ?_, fun y y0 y1 => ?_, f.t0⟩, ?_⟩
  · have := f.tr i i0 (by omega)
    omega
  · by_cases q : y = 0
    · exact ⟨0, by omega, by omega, by rw [f.t0, q]⟩
    · obtain ⟨j, j0, j1, j2⟩ := f.mem (y - 1) (by omega) (by omega) (bt_zz _)
      exact ⟨j, j0, by omega, by omega⟩
  · obtain ⟨M, rfl⟩ : ∃ M, N = M + 1 := ⟨N - 1, by omega⟩
    rw [tl_s]
    have e1 : M + 1 - 1 = M := rfl
    rw [e1] at v1 v2
    rcases v1 with ⟨-, e⟩ | ⟨e, -⟩
    · have e2 : nxt n (M : Int) = 0 := by unfold nxt; rw [if_neg (by omega)]
      rw [e2, f.t0, ← e]
      have e3 : tl n D t M = mt_s (fun i : Nat => D (t (i : Int)) (t ((i + 1 : Nat) : Int))) M := mt_s_congr (fun i hi => by
        unfold nxt
        rw [if_pos (by omega)]
        rfl)
      rw [e3]; exact v2
    · exact absurd rfl e
