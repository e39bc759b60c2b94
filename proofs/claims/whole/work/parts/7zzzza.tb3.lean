/-! texts: what a look through the signs finds -/
def tSn (T : Int → Int) (z : Int) : Nat → Int → Int
  | 0, p => p
  | k + 1, p => if p < z ∧ T p = 32 then tSn T z k (p + 1) else p
def tSk (T : Int → Int) (z p : Int) : Int := tSn T z (z - p).toNat p
theorem tSk_eq (T : Int → Int) (z p : Int) : tSk T z p = if p < z ∧ T p = 32 then tSk T z (p + 1) else p := by
  unfold tSk
  by_cases h : p < z
  · obtain ⟨k, hk⟩ : ∃ k, (z - p).toNat = k + 1 := ⟨(z - p).toNat - 1, by omega⟩
    rw [hk, show (z - (p + 1)).toNat = k by omega]
    rfl
  · rw [show (z - p).toNat = 0 by omega, if_neg (fun y => h y.1)]
    rfl
theorem tSn_r {T : Int → Int} {z : Int} : ∀ (k : Nat) {p : Int}, p ≤ z → p ≤ tSn T z k p ∧ tSn T z k p ≤ z
  | 0, p, h => ⟨Int.le_refl p, h⟩
  | k + 1, p, h => by
    unfold tSn
    by_cases c : p < z ∧ T p = 32
    · rw [if_pos c]
      have := tSn_r (T := T) k (show p + 1 ≤ z by omega)
      omega
    · rw [if_neg c]
      omega
theorem tSk_r {T : Int → Int} {z p : Int} (h : p ≤ z) : p ≤ tSk T z p ∧ tSk T z p ≤ z := tSn_r _ h
def tDg (T : Int → Int) (z : Int) : Nat → Int → Int → Int × Int
  | 0, p, v => (p, v)
  | k + 1, p, v => if p < z ∧ 48 ≤ T p ∧ T p ≤ 57 then tDg T z k (p + 1) (10 * v + (T p - 48)) else (p, v)
theorem tDg_r {T : Int → Int} {z : Int} : ∀ (k : Nat) {p v : Int}, p ≤ z → 0 ≤ v → p ≤ (tDg T z k p v).1 ∧ (tDg T z k p v).1 ≤ z ∧ 0 ≤ (tDg T z k p v).2
  | 0, p, v, h, hv => ⟨Int.le_refl p, h, hv⟩
  | k + 1, p, v, h, hv => by
    unfold tDg
    by_cases c : p < z ∧ 48 ≤ T p ∧ T p ≤ 57
    · rw [if_pos c]
      have := tDg_r (T := T) k (v := 10 * v + (T p - 48)) (show p + 1 ≤ z by omega) (by omega)
      omega
    · rw [if_neg c]
      exact ⟨Int.le_refl p, h, hv⟩
abbrev txS : Type := (Int) × (Int) × (Int)
abbrev txS.p (x_ : txS) : Int := x_.1
abbrev txS.f (x_ : txS) : Int := x_.2.1
abbrev txS.u (x_ : txS) : Int := x_.2.2
def tTk (T : Int → Int) (z c : Int) (a : txS) : txS := if 0 ≤ a.f then a else if tSk T z a.p < z ∧ T (tSk T z a.p) = c then ⟨tSk T z a.p + 1, a.f, a.u⟩ else ⟨tSk T z a.p, tSk T z a.p, a.u⟩
def tNd (T : Int → Int) (z : Int) (a : txS) : Int × Int := tDg T z 10 (tSk T z a.p) 0
def tNv (T : Int → Int) (z : Int) (a : txS) : Int := (tNd T z a).2
abbrev tNf (T : Int → Int) (z : Int) (a : txS) : Prop := (tNd T z a).1 = tSk T z a.p ∨ ((tNd T z a).1 < z ∧ 48 ≤ T (tNd T z a).1 ∧ T (tNd T z a).1 ≤ 57)
def tNm (T : Int → Int) (z lo hi : Int) (a : txS) : txS := if 0 ≤ a.f then a else if tNf T z a then ⟨(tNd T z a).1, (tNd T z a).1, a.u⟩ else ⟨(tNd T z a).1, a.f, if (lo ≤ tNv T z a ∧ tNv T z a ≤ hi) ∨ 0 ≤ a.u then a.u else tSk T z a.p⟩
def txO (z : Int) (a : txS) : Prop := (0 ≤ a.p ∧ a.p ≤ z) ∧ (-1 ≤ a.f ∧ a.f ≤ z) ∧ -1 ≤ a.u ∧ a.u ≤ z
theorem tTk_o {T : Int → Int} {z c : Int} {a : txS} (h : txO z a) : txO z (tTk T z c a) := by
  obtain ⟨h1, h2, h3⟩ := h
  have r := tSk_r (T := T) h1.2
  unfold tTk
  by_cases c1 : 0 ≤ a.f
  · rw [if_pos c1]; exact ⟨h1, h2, h3⟩
  · rw [if_neg c1]
    by_cases c2 : tSk T z a.p < z ∧ T (tSk T z a.p) = c
    · rw [if_pos c2]; exact ⟨⟨by show 0 ≤ tSk T z a.p + 1; omega, by show tSk T z a.p + 1 ≤ z; omega⟩, h2, h3⟩
    · rw [if_neg c2]; exact ⟨⟨by show 0 ≤ tSk T z a.p; omega, r.2⟩, ⟨by show -1 ≤ tSk T z a.p; omega, r.2⟩, h3⟩
theorem tNd_r {T : Int → Int} {z : Int} {a : txS} (h : txO z a) : a.p ≤ tSk T z a.p ∧ tSk T z a.p ≤ (tNd T z a).1 ∧ (tNd T z a).1 ≤ z ∧ 0 ≤ tNv T z a := by
  have r := tSk_r (T := T) h.1.2
  have q := tDg_r (T := T) 10 (v := 0) r.2 (Int.le_refl 0)
  exact ⟨r.1, q.1, q.2.1, q.2.2⟩
theorem tNm_o {T : Int → Int} {z lo hi : Int} {a : txS} (h : txO z a) : txO z (tNm T z lo hi a) := by
  have r := tNd_r (T := T) h
  obtain ⟨h1, h2, h3⟩ := h
  unfold tNm
  by_cases c1 : 0 ≤ a.f
  · rw [if_pos c1]; exact ⟨h1, h2, h3⟩
  · rw [if_neg c1]
    by_cases c2 : tNf T z a
    · rw [if_pos c2]; exact ⟨⟨by show 0 ≤ (tNd T z a).1; omega, r.2.2.1⟩, ⟨by show -1 ≤ (tNd T z a).1; omega, r.2.2.1⟩, h3⟩
    · rw [if_neg c2]; refine ⟨⟨by show 0 ≤ (tNd T z a).1; omega, r.2.2.1⟩, h2, ?_⟩
      show -1 ≤ (if _ then a.u else tSk T z a.p) ∧ (if _ then a.u else tSk T z a.p) ≤ z
      split <;> omega
abbrev txG (a : txS) : Prop := a.f < 0 ∧ a.u < 0
theorem tTk_s {T : Int → Int} {z c : Int} {a : txS} (h : 0 ≤ a.f) : tTk T z c a = a := if_pos h
theorem tNm_s {T : Int → Int} {z lo hi : Int} {a : txS} (h : 0 ≤ a.f) : tNm T z lo hi a = a := if_pos h
theorem tTk_f {T : Int → Int} {z c : Int} {a : txS} (h : (tTk T z c a).f < 0) : a.f < 0 := by
  by_cases q : 0 ≤ a.f
  · rw [tTk_s q] at h; exact h
  · omega
theorem tNm_f {T : Int → Int} {z lo hi : Int} {a : txS} (h : (tNm T z lo hi a).f < 0) : a.f < 0 := by
  by_cases q : 0 ≤ a.f
  · rw [tNm_s q] at h; exact h
  · omega
theorem tTk_g {T : Int → Int} {z c : Int} {a : txS} (h : txG (tTk T z c a)) : txG a := by
  have f := tTk_f h.1
  refine ⟨f, ?_⟩
  have u := h.2
  unfold tTk at u
  rw [if_neg (by omega)] at u
  split at u <;> exact u
theorem tNm_g {T : Int → Int} {z lo hi : Int} {a : txS} (o : txO z a) (h : txG (tNm T z lo hi a)) : txG a ∧ lo ≤ tNv T z a ∧ tNv T z a ≤ hi := by
  have f := tNm_f h.1
  have r := tNd_r (T := T) o
  have o1 := o.1
  obtain ⟨g, u⟩ := h
  unfold tNm at g u
  rw [if_neg (by omega)] at g u
  by_cases c : tNf T z a
  · rw [if_pos c] at g
    have g : (tNd T z a).1 < 0 := g
    omega
  · rw [if_neg c] at u
    have u : (if (lo ≤ tNv T z a ∧ tNv T z a ≤ hi) ∨ 0 ≤ a.u then a.u else tSk T z a.p) < 0 := u
    split at u
    · rename_i y
      exact ⟨⟨f, u⟩, by omega⟩
    · omega
/-! rows of numbers -/
def tIa (T : Int → Int) (z : Int) (i : Nat) (a : txS) : txS := if i = 0 then a else tTk T z 44 a
def tIt (T : Int → Int) (z hi : Int) (i : Nat) (a : txS) : txS := tNm T z 0 hi (tIa T z i a)
def tRw (T : Int → Int) (z hi : Int) : Nat → txS → txS
  | 0, a => a
  | i + 1, a => tIt T z hi i (tRw T z hi i a)
def tRs (T : Int → Int) (z hi : Int) (w : Nat → Nat) : Nat → txS → txS
  | 0, a => a
  | r + 1, a => tTk T z 59 (tRw T z hi (w r) (tRs T z hi w r a))
def tVr (T : Int → Int) (z hi : Int) (i : Nat) (a : txS) : Int := tNv T z (tIa T z i (tRw T z hi i a))
def tVl (T : Int → Int) (z hi : Int) (w : Nat → Nat) (r i : Nat) (a : txS) : Int := tVr T z hi i (tRs T z hi w r a)
theorem tIa_o {T : Int → Int} {z : Int} {i : Nat} {a : txS} (h : txO z a) : txO z (tIa T z i a) := by
  unfold tIa
  split
  · exact h
  · exact tTk_o h
theorem tIa_f {T : Int → Int} {z : Int} {i : Nat} {a : txS} (h : (tIa T z i a).f < 0) : a.f < 0 := by
  unfold tIa at h
  split at h
  · exact h
  · exact tTk_f h
theorem tIa_g {T : Int → Int} {z : Int} {i : Nat} {a : txS} (h : txG (tIa T z i a)) : txG a := by
  unfold tIa at h
  split at h
  · exact h
  · exact tTk_g h
theorem tIt_s {T : Int → Int} {z hi : Int} {i : Nat} {a : txS} (h : 0 ≤ a.f) : tIt T z hi i a = a := by
  have e : tIa T z i a = a := by
    unfold tIa
    split
    · rfl
    · exact tTk_s h
  unfold tIt
  rw [e]; exact tNm_s h
theorem tRw_o {T : Int → Int} {z hi : Int} {a : txS} (h : txO z a) : ∀ i, txO z (tRw T z hi i a)
  | 0 => h
  | i + 1 => tNm_o (tIa_o (tRw_o h i))
theorem tRs_o {T : Int → Int} {z hi : Int} {w : Nat → Nat} {a : txS} (h : txO z a) : ∀ r, txO z (tRs T z hi w r a)
  | 0 => h
  | r + 1 => tTk_o (tRw_o (tRs_o h r) _)
/-- a fault stays -/
theorem tRw_s {T : Int → Int} {z hi : Int} {a : txS} {i : Nat} (h : 0 ≤ (tRw T z hi i a).f) : ∀ k, tRw T z hi (i + k) a = tRw T z hi i a
  | 0 => rfl
  | k + 1 => by
    show tIt T z hi (i + k) (tRw T z hi (i + k) a) = _
    rw [tRw_s h k]; exact tIt_s h
theorem tRw_s0 {T : Int → Int} {z hi : Int} {a : txS} (h : 0 ≤ a.f) (k : Nat) : tRw T z hi k a = a := by
  have := tRw_s (T := T) (z := z) (hi := hi) (a := a) (i := 0) h k
  rw [Nat.zero_add] at this
  exact this
theorem tRs_s {T : Int → Int} {z hi : Int} {w : Nat → Nat} {a : txS} {r : Nat} (h : 0 ≤ (tRs T z hi w r a).f) : ∀ k, tRs T z hi w (r + k) a = tRs T z hi w r a
  | 0 => rfl
  | k + 1 => by
    show tTk T z 59 (tRw T z hi (w (r + k)) (tRs T z hi w (r + k) a)) = _
    rw [tRs_s h k, tRw_s0 h, tTk_s h]
theorem tRw_g {T : Int → Int} {z hi : Int} {a : txS} (o : txO z a) {i : Nat} : ∀ (k : Nat), txG (tRw T z hi (i + k) a) → txG (tRw T z hi i a)
  | 0, h => h
  | k + 1, h => tRw_g o k (tIa_g (tNm_g (tIa_o (tRw_o o (i + k))) h).1)
theorem tRw_v {T : Int → Int} {z hi : Int} {a : txS} (o : txO z a) {i n : Nat} (hi2 : i < n) (h : txG (tRw T z hi n a)) : 0 ≤ tVr T z hi i a ∧ tVr T z hi i a ≤ hi := by
  obtain ⟨k, rfl⟩ : ∃ k, n = i + 1 + k := ⟨n - (i + 1), by omega⟩
  exact (tNm_g (tIa_o (tRw_o o i)) (tRw_g o k h)).2
theorem tRs_g {T : Int → Int} {z hi : Int} {w : Nat → Nat} {a : txS} (o : txO z a) {r : Nat} : ∀ (k : Nat), txG (tRs T z hi w (r + k) a) → txG (tRs T z hi w r a)
  | 0, h => h
  | k + 1, h => by
    have h1 := tTk_g (show txG (tTk T z 59 (tRw T z hi (w (r + k)) (tRs T z hi w (r + k) a))) from h)
    have h2 := tRw_g (i := 0) (tRs_o o (r + k)) (w (r + k)) (by rw [Nat.zero_add]; exact h1)
    exact tRs_g o k h2
theorem tVl_r {T : Int → Int} {z hi : Int} {w : Nat → Nat} {a : txS} (o : txO z a) {r i R : Nat} (hr : r < R) (hi2 : i < w r) (h : txG (tRs T z hi w R a)) : 0 ≤ tVl T z hi w r i a ∧ tVl T z hi w r i a ≤ hi := by
  obtain ⟨k, rfl⟩ : ∃ k, R = r + 1 + k := ⟨R - (r + 1), by omega⟩
  have h1 := tTk_g (show txG (tTk T z 59 (tRw T z hi (w r) (tRs T z hi w r a))) from tRs_g o k h)
  exact tRw_v (tRs_o o r) hi2 h1
/-! the end, and the whole text -/
def tEn (T : Int → Int) (z : Int) (a : txS) : txS := if 0 ≤ a.f then a else if tSk T z a.p < z then ⟨tSk T z a.p, tSk T z a.p, a.u⟩ else ⟨tSk T z a.p, a.f, a.u⟩
theorem tEn_g {T : Int → Int} {z : Int} {a : txS} (o : txO z a) (h : txG (tEn T z a)) : txG a := by
  have r := tSk_r (T := T) o.1.2
  have o1 := o.1
  unfold tEn at h
  by_cases c : 0 ≤ a.f
  · rw [if_pos c] at h; exact h
  · rw [if_neg c] at h
    split at h
    · have := h.1
      have : tSk T z a.p < 0 := this
      omega
    · exact h
theorem tEn_o {T : Int → Int} {z : Int} {a : txS} (o : txO z a) : txO z (tEn T z a) := by
  have r := tSk_r (T := T) o.1.2
  obtain ⟨h1, h2, h3⟩ := o
  unfold tEn
  by_cases c1 : 0 ≤ a.f
  · rw [if_pos c1]; exact ⟨h1, h2, h3⟩
  · rw [if_neg c1]
    split
    · exact ⟨⟨by show 0 ≤ tSk T z a.p; omega, r.2⟩, ⟨by show -1 ≤ tSk T z a.p; omega, r.2⟩, h3⟩
    · exact ⟨⟨by show 0 ≤ tSk T z a.p; omega, r.2⟩, h2, h3⟩
def tFm (T : Int → Int) (z : Int) : Int := if tSk T z 0 < z then T (tSk T z 0) else -1
abbrev tFk (f : Int) : Prop := f = 61 ∨ f = 94 ∨ f = 43 ∨ f = 42
def tA1 (T : Int → Int) (z : Int) : txS := if tFk (tFm T z) then ⟨tSk T z 0 + 1, -1, -1⟩ else ⟨tSk T z 0, tSk T z 0, -1⟩
def tA2 (T : Int → Int) (z : Int) : txS := tNm T z 1 20 (tA1 T z)
def tN (T : Int → Int) (z : Int) : Int := tNv T z (tA1 T z)
def tA3 (T : Int → Int) (z : Int) : txS := tTk T z 58 (tA2 T z)
def tW (fm n : Int) (r : Nat) : Nat := if fm = 61 then n.toNat else if fm = 94 then (n - 1 - r).toNat else 2
def tR (fm n : Int) : Nat := if fm = 94 then (n - 1).toNat else n.toNat
def tHi (fm : Int) : Int := if fm = 61 ∨ fm = 94 then 2147483647 else 1000000
def tRA (T : Int → Int) (z : Int) : txS := tRs T z (tHi (tFm T z)) (tW (tFm T z) (tN T z)) (tR (tFm T z) (tN T z)) (tA3 T z)
def tA4 (T : Int → Int) (z : Int) : txS := if txG (tA3 T z) then tEn T z (tRA T z) else tA3 T z
def tRes (a : txS) : Int := if 0 ≤ a.f then a.f else a.u
def tV (T : Int → Int) (z : Int) (r i : Nat) : Int := tVl T z (tHi (tFm T z)) (tW (tFm T z) (tN T z)) r i (tA3 T z)
theorem tA1_o {T : Int → Int} {z : Int} (hz : 0 ≤ z) : txO z (tA1 T z) := by
  have r := tSk_r (T := T) hz
  unfold tA1
  split
  · rename_i h
    have q : tSk T z 0 < z := by
      unfold tFm tFk at h
      split at h
      · assumption
      · omega
    exact ⟨⟨by show 0 ≤ tSk T z 0 + 1; omega, by show tSk T z 0 + 1 ≤ z; omega⟩, ⟨by show (-1 : Int) ≤ -1; omega, by show (-1 : Int) ≤ z; omega⟩, by show (-1 : Int) ≤ -1; omega, by show (-1 : Int) ≤ z; omega⟩
  · exact ⟨⟨by show 0 ≤ tSk T z 0; omega, r.2⟩, ⟨by show -1 ≤ tSk T z 0; omega, r.2⟩, by show (-1 : Int) ≤ -1; omega, by show (-1 : Int) ≤ z; omega⟩
theorem tA3_o {T : Int → Int} {z : Int} (hz : 0 ≤ z) : txO z (tA3 T z) := tTk_o (tNm_o (tA1_o hz))
theorem tA3_g {T : Int → Int} {z : Int} (hz : 0 ≤ z) (h : txG (tA3 T z)) : tFk (tFm T z) ∧ 1 ≤ tN T z ∧ tN T z ≤ 20 := by
  have q := tNm_g (tA1_o hz) (tTk_g h)
  refine ⟨?_, q.2⟩
  by_cases k : tFk (tFm T z)
  · exact k
  · have r := tSk_r (T := T) hz
    have := q.1.1
    unfold tA1 at this
    rw [if_neg k] at this
    have : tSk T z 0 < 0 := this
    omega
theorem tA4_g {T : Int → Int} {z : Int} (hz : 0 ≤ z) (h : txG (tA4 T z)) : txG (tA3 T z) ∧ txG (tRA T z) := by
  unfold tA4 at h
  by_cases k : txG (tA3 T z)
  · rw [if_pos k] at h
    exact ⟨k, tEn_g (tRs_o (tA3_o hz) _) h⟩
  · rw [if_neg k] at h
    exact absurd h k
theorem tV_r {T : Int → Int} {z : Int} (hz : 0 ≤ z) (h : txG (tA4 T z)) {r i : Nat} (hr : r < tR (tFm T z) (tN T z)) (hi : i < tW (tFm T z) (tN T z) r) : 0 ≤ tV T z r i ∧ tV T z r i ≤ tHi (tFm T z) := tVl_r (tA3_o hz) hr hi (tA4_g hz h).2
theorem tRes_g {z : Int} {a : txS} (o : txO z a) : tRes a < 0 ↔ txG a := by
  unfold tRes txG
  have := o.2.1
  split <;> omega
/-- least roots -/
def rtI (v r : Int) : Prop := 0 ≤ r ∧ v ≤ r * r ∧ ∀ q, 0 ≤ q → q < r → q * q < v
theorem rtI_one {v r q : Int} (h : rtI v r) (h2 : rtI v q) : r = q := by
  rcases Int.lt_trichotomy r q with z | z | z
  · have := h2.2.2 r h.1 z
    have := h.2.1
    omega
  · exact z
  · have := h.2.2 q h2.1 z
    have := h2.2.1
    omega
def iab (x : Int) : Int := if x < 0 then -x else x
/-- the distances that a text tells -/
abbrev dOK (fm n : Int) (V : Nat → Nat → Int) (M : Int → Int → Int) : Prop := Nonempty (PProd (fm = 61 → ∀ a b : Nat, (a : Int) < n → (b : Int) < n → M a b = V a b) (PProd (fm ≠ 61 → ∀ a : Nat, (a : Int) < n → M a a = 0) (PProd (fm = 94 → ∀ a b : Nat, a < b → (b : Int) < n → M a b = V a (b - a - 1) ∧ M b a = V a (b - a - 1)) (PProd (fm = 43 → ∀ a b : Nat, a < b → (b : Int) < n → M a b = iab (V a 0 - V b 0) + iab (V a 1 - V b 1) ∧ M b a = iab (V a 0 - V b 0) + iab (V a 1 - V b 1)) (fm = 42 → ∀ a b : Nat, a < b → (b : Int) < n → rtI (iab (V a 0 - V b 0) * iab (V a 0 - V b 0) + iab (V a 1 - V b 1) * iab (V a 1 - V b 1)) (M a b) ∧ M b a = M a b)))))
theorem dOK.eq {fm n : Int} {V : Nat → Nat → Int} {M : Int → Int → Int} (h_ : dOK fm n V M) : fm = 61 → ∀ a b : Nat, (a : Int) < n → (b : Int) < n → M a b = V a b := h_.elim (fun x_ => x_.1)
theorem dOK.ze {fm n : Int} {V : Nat → Nat → Int} {M : Int → Int → Int} (h_ : dOK fm n V M) : fm ≠ 61 → ∀ a : Nat, (a : Int) < n → M a a = 0 := h_.elim (fun x_ => x_.2.1)
theorem dOK.up {fm n : Int} {V : Nat → Nat → Int} {M : Int → Int → Int} (h_ : dOK fm n V M) : fm = 94 → ∀ a b : Nat, a < b → (b : Int) < n → M a b = V a (b - a - 1) ∧ M b a = V a (b - a - 1) := h_.elim (fun x_ => x_.2.2.1)
theorem dOK.pl {fm n : Int} {V : Nat → Nat → Int} {M : Int → Int → Int} (h_ : dOK fm n V M) : fm = 43 → ∀ a b : Nat, a < b → (b : Int) < n → M a b = iab (V a 0 - V b 0) + iab (V a 1 - V b 1) ∧ M b a = iab (V a 0 - V b 0) + iab (V a 1 - V b 1) := h_.elim (fun x_ => x_.2.2.2.1)
theorem dOK.rt {fm n : Int} {V : Nat → Nat → Int} {M : Int → Int → Int} (h_ : dOK fm n V M) : fm = 42 → ∀ a b : Nat, a < b → (b : Int) < n → rtI (iab (V a 0 - V b 0) * iab (V a 0 - V b 0) + iab (V a 1 - V b 1) * iab (V a 1 - V b 1)) (M a b) ∧ M b a = M a b := h_.elim (fun x_ => x_.2.2.2.2)
theorem dOK_uniq {fm n : Int} {V : Nat → Nat → Int} {M M2 : Int → Int → Int} (hf : tFk fm) (h : dOK fm n V M) (h2 : dOK fm n V M2) : ∀ a b, 0 ≤ a → a < n → 0 ≤ b → b < n → M a b = M2 a b := by
  intro a b a0 a1 b0 b1
  obtain ⟨x, rfl⟩ : ∃ x : Nat, a = x := ⟨a.toNat, by omega⟩
  obtain ⟨y, rfl⟩ : ∃ y : Nat, b = y := ⟨b.toNat, by omega⟩
  by_cases e : fm = 61
  · rw [h.eq e x y a1 b1, h2.eq e x y a1 b1]
  · rcases Nat.lt_trichotomy x y with c | c | c
    · rcases hf with f | f | f | f
      · exact absurd f e
      · rw [(h.up f x y c b1).1, (h2.up f x y c b1).1]
      · rw [(h.pl f x y c b1).1, (h2.pl f x y c b1).1]
      · exact rtI_one (h.rt f x y c b1).1 (h2.rt f x y c b1).1
    · subst c; rw [h.ze e x a1, h2.ze e x a1]
    · rcases hf with f | f | f | f
      · exact absurd f e
      · rw [(h.up f y x c a1).2, (h2.up f y x c a1).2]
      · rw [(h.pl f y x c a1).2, (h2.pl f y x c a1).2]
      · rw [(h.rt f y x c a1).2, (h2.rt f y x c a1).2]; exact rtI_one (h.rt f y x c a1).1 (h2.rt f y x c a1).1
