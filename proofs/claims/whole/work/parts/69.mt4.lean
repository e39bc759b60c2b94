/-! digits below the distances -/
def mt_dg (n : Nat) (d : Nat → Nat) : Nat → Nat
  | 0 => 0
  | m + 1 => mt_dg n d m * n + d m
theorem mt_dg_lt {n : Nat} {d : Nat → Nat} (hd : ∀ i, d i < n) : ∀ m, mt_dg n d m < n ^ m
  | 0 => Nat.one_pos
  | m + 1 => by
    have h1 := mt_dg_lt hd m
    have h2 := hd m
    show mt_dg n d m * n + d m < n ^ m * n
    have h3 : (mt_dg n d m + 1) * n ≤ n ^ m * n := Nat.mul_le_mul_right n h1
    rw [Nat.add_mul, Nat.one_mul] at h3
    omega
theorem mt_dg_congr {n : Nat} {d e : Nat → Nat} : ∀ m, (∀ i, i < m → d i = e i) → mt_dg n d m = mt_dg n e m
  | 0, _ => rfl
  | m + 1, h => by
    show mt_dg n d m * n + d m = mt_dg n e m * n + e m
    rw [mt_dg_congr m (fun i hi => h i (by omega)), h m (by omega)]
theorem mt_dg_lex {n : Nat} {d e : Nat → Nat} (hd : ∀ i, d i < n) {i : Nat} (ha : ∀ j, j < i → d j = e j) (hlt : d i < e i) : ∀ m, i < m → mt_dg n d m < mt_dg n e m
  | 0, h => absurd h (Nat.not_lt_zero i)
  | m + 1, h => by
    show mt_dg n d m * n + d m < mt_dg n e m * n + e m
    by_cases em : i = m
    · subst em
      rw [mt_dg_congr i ha]
      omega
    · have h1 := mt_dg_lex hd ha hlt m (by omega)
      have h2 := hd m
      have h3 : (mt_dg n d m + 1) * n ≤ mt_dg n e m * n := Nat.mul_le_mul_right n h1
      rw [Nat.add_mul, Nat.one_mul] at h3
      omega
theorem mt_dg_sum {n : Nat} {d : Nat → Nat} : ∀ m, mt_s (fun i => (d i : Int) * ((n ^ (m - 1 - i) : Nat) : Int)) m = (mt_dg n d m : Nat)
  | 0 => rfl
  | m + 1 => by
    show mt_s (fun i => (d i : Int) * ((n ^ (m + 1 - 1 - i) : Nat) : Int)) m + (d m : Int) * ((n ^ (m + 1 - 1 - m) : Nat) : Int) = ((mt_dg n d m * n + d m : Nat) : Int)
    have h1 : mt_s (fun i => (d i : Int) * ((n ^ (m + 1 - 1 - i) : Nat) : Int)) m = mt_s (fun i => (n : Int) * ((d i : Int) * ((n ^ (m - 1 - i) : Nat) : Int))) m := mt_s_congr (fun i hi => by
      rw [show m + 1 - 1 - i = (m - 1 - i) + 1 by omega, Nat.pow_succ, Int.natCast_mul, ← Int.mul_assoc, Int.mul_comm])
    rw [h1, mt_s_mul, mt_dg_sum m, show m + 1 - 1 - m = 0 by omega, Nat.pow_zero, Int.natCast_add, Int.natCast_mul, Int.mul_comm]
    simp
/-- all of 0 .. n - 1 -/
def mt_all : Nat → Bool := fun _ => true
/-- the digit of i: its partner, where that is the greater one -/
def mt_dig (p : Nat → Nat) (i : Nat) : Nat := if i < p i then p i else 0
def mt_sh (n L i : Nat) : Nat := if i < L then n ^ (L - 1 - i) else 0
/-- distances with the digits below them -/
def mt_cd (w : Nat → Nat → Int) (n L : Nat) (i j : Nat) : Int := w i j * ((n ^ L : Nat) : Int) + (j : Int) * ((mt_sh n L i : Nat) : Int)
theorem mt_s_tail {f : Nat → Int} {L : Nat} : ∀ n, L ≤ n → (∀ i, L ≤ i → i < n → f i = 0) → mt_s f n = mt_s f L
  | 0, h, _ => by rw [show L = 0 by omega]
  | n + 1, h, z => by
    by_cases e : L = n + 1
    · rw [e]
    · show mt_s f n + f n = mt_s f L
      rw [mt_s_tail n (by omega) (fun i h1 h2 => z i h1 (by omega)), z n (by omega) (by omega)]
      omega
theorem mt_co_cd {w : Nat → Nat → Int} {n L : Nat} {p : Nat → Nat} (hL : L ≤ n) : mt_co (mt_cd w n L) n mt_all p = mt_co w n mt_all p * ((n ^ L : Nat) : Int) + (mt_dg n (mt_dig p) L : Nat) := by
  have h1 : mt_co (mt_cd w n L) n mt_all p = mt_s (fun i => (((n ^ L : Nat) : Int) * (if mt_all i = true ∧ i < p i then w i (p i) else 0)) + ((mt_dig p i : Nat) : Int) * ((mt_sh n L i : Nat) : Int)) n := by
    refine mt_s_congr (fun i hi => ?_)
    by_cases e : i < p i
    · rw [if_pos ⟨rfl, e⟩, if_pos ⟨rfl, e⟩, show mt_dig p i = p i from if_pos e, Int.mul_comm ((n ^ L : Nat) : Int)]
      rfl
    · rw [if_neg (fun z => e z.2), if_neg (fun z => e z.2), show mt_dig p i = 0 from if_neg e]
      simp
  rw [h1, mt_s_add, mt_s_mul, Int.mul_comm]
  refine congrArg (mt_co w n mt_all p * ((n ^ L : Nat) : Int) + ·) ?_
  rw [mt_s_tail (L := L) n hL (fun i h2 h3 => by
    rw [show mt_sh n L i = 0 from if_neg (by omega)]
    simp), ← mt_dg_sum]
  exact mt_s_congr (fun i hi => by rw [show mt_sh n L i = n ^ (L - 1 - i) from if_pos hi])
theorem mt_dig_lt {n : Nat} {p : Nat → Nat} (hp : mt_pmS n mt_all p) (h0 : 0 < n) : ∀ i, (if i < n then mt_dig p i else 0) < n := by
  intro i
  by_cases e : i < n
  · rw [if_pos e]
    unfold mt_dig
    by_cases e2 : i < p i
    · rw [if_pos e2]
      exact (hp i e rfl).1
    · rw [if_neg e2]
      exact h0
  · rw [if_neg e]
    exact h0
theorem mt_digits {w : Nat → Nat → Int} {n L : Nat} {p : Nat → Nat} (h0 : 0 < n) (hL : L ≤ n) (hp : mt_opt (mt_cd w n L) n mt_all p) : mt_opt w n mt_all p ∧ ∀ q, mt_opt w n mt_all q → ∀ i, i < L → (∀ j, j < i → q j = p j) → p i ≤ q i := by
  have dgl : ∀ q, mt_pmS n mt_all q → mt_dg n (mt_dig q) L < n ^ L := fun q hq => by
    have := mt_dg_lt (mt_dig_lt hq h0) L
    rw [mt_dg_congr (e := mt_dig q) L (fun i hi => if_pos (by omega))] at this
    exact this
  have ho : mt_opt w n mt_all p := by
    refine ⟨hp.1, fun q hq => ?_⟩
    have h1 := hp.2 q hq
    rw [mt_co_cd hL, mt_co_cd hL] at h1
    have h2 := dgl q hq
    rcases Int.lt_or_le (mt_co w n mt_all q) (mt_co w n mt_all p) with h | h
    · exfalso
      have h3 : (mt_co w n mt_all q + 1) * ((n ^ L : Nat) : Int) ≤ mt_co w n mt_all p * ((n ^ L : Nat) : Int) := Int.mul_le_mul_of_nonneg_right h (Int.natCast_nonneg _)
      rw [Int.add_mul, Int.one_mul] at h3
      omega
    · exact h
  refine ⟨ho, fun q hq i hi ha => ?_⟩
  rcases Nat.lt_or_ge (q i) (p i) with hlt | hge
  · exfalso
    have hin : i < n := by omega
    obtain ⟨p1, -, p3, p4⟩ := hp.1 i hin rfl
    obtain ⟨q1, -, q3, q4⟩ := hq.1 i hin rfl
    have hip : i < p i := by
      rcases Nat.lt_or_ge i (p i) with h | h
      · exact h
      · have h1 : p i < i := by omega
        have h2 := ha (p i) h1
        rw [p4] at h2
        have := congrArg q h2
        rw [(hq.1 (p i) p1 rfl).2.2.2] at this
        omega
    have hiq : i < q i := by
      rcases Nat.lt_or_ge i (q i) with h | h
      · exact h
      · have h1 : q i < i := by omega
        have h2 := ha (q i) h1
        rw [q4] at h2
        have := congrArg p h2
        rw [(hp.1 (q i) q1 rfl).2.2.2] at this
        omega
    have hdg : mt_dg n (mt_dig q) L < mt_dg n (mt_dig p) L := by
      have h1 := mt_dg_lex (n := n) (d := fun i => if i < n then mt_dig q i else 0) (e := fun i => if i < n then mt_dig p i else 0) (mt_dig_lt hq.1 h0) (i := i) (fun j hj => by
        simp only [mt_dig, ha j hj]) (by
        simp only [if_pos hin, mt_dig, if_pos hip, if_pos hiq]
        exact hlt) L hi
      rw [mt_dg_congr (e := mt_dig q) L (fun i hi => if_pos (by omega)), mt_dg_congr (d := fun i => if i < n then mt_dig p i else 0) (e := mt_dig p) L (fun i hi => if_pos (by omega))] at h1
      exact h1
    have h1 := hp.2 q hq.1
    rw [mt_co_cd hL, mt_co_cd hL] at h1
    have h2 := hq.2 p hp.1
    have h3 := ho.2 q hq.1
    rw [show mt_co w n mt_all q = mt_co w n mt_all p by omega] at h1
    omega
  · exact hge
