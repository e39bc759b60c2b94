/-! least roots, and how far points lie apart -/
theorem sq_le {a b : Int} (a0 : 0 ≤ a) (h : a ≤ b) : a * a ≤ b * b := Int.mul_le_mul h h a0 (by omega)
theorem sq_q {a : Int} (a0 : 0 ≤ a) (h : a ≤ 3000000) : 0 ≤ a * a ∧ a * a ≤ 9000000000000 := ⟨Int.mul_nonneg a0 a0, sq_le (b := 3000000) a0 h⟩
theorem rt_lo {v m q : Int} (h : m * m < v) (q0 : 0 ≤ q) (hq : q < m + 1) : q * q < v := by
  have := sq_le q0 (show q ≤ m by omega)
  omega
theorem half_m {l h : Int} {p : Int} (p0 : 0 ≤ p) (hl : l < h) (hw : (h - l) * p ≤ 3000000) : ((l + h) / 2 - l) * (p * 2) ≤ 3000000 ∧ (h - ((l + h) / 2 + 1)) * (p * 2) ≤ 3000000 := by
  have a1 : ((l + h) / 2 - l) * 2 * p ≤ (h - l) * p := Int.mul_le_mul_of_nonneg_right (by omega) p0
  have a2 : (h - ((l + h) / 2 + 1)) * 2 * p ≤ (h - l) * p := Int.mul_le_mul_of_nonneg_right (by omega) p0
  rw [Int.mul_assoc, Int.mul_comm 2 p] at a1 a2
  omega
theorem s_loopH {X : Type} {d j pc : Nat} {hp : am_H} {P : Option Value → am_H → Prop} (Inv : Nat → X → Prop) (lvf : Nat → X → am_L) {lo hi : Nat} {x : X} (hle : lo ≤ hi) (h0 : Inv lo x) (step : ∀ (k : Nat) (x : X), lo ≤ k → k < hi → Inv k x → (∀ x' : X, Inv (k + 1) x' → am_wp d j pc (lvf (k + 1) x') [] hp P) → am_wp d j pc (lvf k x) [] hp P) (fin : ∀ x : X, Inv hi x → am_wp d j pc (lvf hi x) [] hp P) : am_wp d j pc (lvf lo x) [] hp P := by
  obtain ⟨m, hm⟩ : ∃ m, hi = lo + m := ⟨hi - lo, by omega⟩
  have key : ∀ q, q ≤ m → ∀ x, Inv (lo + (m - q)) x → am_wp d j pc (lvf (lo + (m - q)) x) [] hp P := by
    intro q
    induction q with
    | zero =>
      intro _ x hx
      rw [Nat.sub_zero, ← hm] at hx ⊢
      exact fin x hx
    | succ q ih =>
      intro hq x hx
      refine step _ x (by omega) (by omega) hx (fun x' hx' => ?_)
      have e : lo + (m - (q + 1)) + 1 = lo + (m - q) := by omega
      rw [e] at hx' ⊢
      exact ih (by omega) x' hx'
  have := key m (Nat.le_refl m) x
  rw [Nat.sub_self, Nat.add_zero] at this
  exact this h0
theorem t_leastRoot {d : Nat} {hp : am_H} {v top : Int} (h0 : 0 ≤ v ∧ v ≤ 9000000000000) (ht : 0 ≤ top ∧ top ≤ 2000000) (hv : v ≤ top * top) : am_wp d 64 0 (lv_args 0 [.long (lI v), .long (lI top)]) [] hp (fun rv h => ∃ r, rv = some (.long (lI r)) ∧ rtI v r ∧ h = hp) := by
  refine s_kl 0 rfl rfl ?_
  refine am_s rfl rfl ?_
  refine am_s rfl rfl ?_
  refine am_s rfl rfl ?_
  refine s_k 0 rfl rfl ?_
  refine am_s rfl rfl ?_
  refine am_lv [(8, .int (iI (((0 : Nat) : Int) : Int))), (6, .long (lI top)), (4, .long (lI 0)), (0, .long (lI v))] rfl rfl ⟨rfl, rfl, rfl, rfl, trivial⟩ ?_
  refine s_loopH (X := Int × Int) (fun k x => (0 ≤ x.1 ∧ x.1 ≤ x.2 ∧ x.2 ≤ 2000000) ∧ (x.2 - x.1) * ((2 ^ k : Nat) : Int) ≤ 3000000 ∧ v ≤ x.2 * x.2 ∧ ∀ q, 0 ≤ q → q < x.1 → q * q < v) (fun k x => [(8, .int (iI (k : Int))), (6, .long (lI x.2)), (4, .long (lI x.1)), (0, .long (lI v))]) (lo := 0) (hi := 64) (x := (0, top)) (by decide) ⟨⟨by show (0 : Int) ≤ 0; omega, ht.1, ht.2⟩, by show (top - 0) * ((2 ^ 0 : Nat) : Int) ≤ 3000000; rw [show ((2 ^ 0 : Nat) : Int) = 1 from rfl]; omega, hv, fun q q0 q1 => absurd q1 (by show ¬ q < 0; omega)⟩ ?_ ?_
  · rintro k ⟨l, h⟩ hk0 hk1 ⟨hr, hw, hh, hlo⟩ kk
    simp only at kk hr hw hh hlo ⊢
    have hq := sq_q (a := (l + h) / 2) (by omega) (by omega)
    have hp : 0 ≤ ((2 ^ k : Nat) : Int) := Int.natCast_nonneg _
    have hm := fun (z : l < h) => half_m hp z hw
    refine am_s rfl rfl ?_
    refine s_k 64 rfl rfl ?_
    refine s_cge rfl ⟨by omega, by omega⟩ ⟨by omega, by omega⟩ (fun c1 => absurd c1 (by omega)) (fun c1 => ?_)
    refine am_s rfl rfl ?_
    refine am_s rfl rfl ?_
    refine s_jge rfl rfl ⟨by omega, by omega⟩ ⟨by omega, by omega⟩ (fun c2 => ?_) (fun c2 => ?_)
    · refine am_s rfl rfl ?_
      have e : l = h := by omega
      subst e
      exact am_r rfl rfl ⟨l, rfl, ⟨by omega, hh, hlo⟩, rfl⟩
    · refine am_s rfl rfl ?_
      refine am_s rfl rfl ?_
      refine s_ladd rfl ?_
      refine s_kl 2 rfl rfl ?_
      refine s_ldiv rfl ⟨by omega, by omega⟩ ⟨by decide, by decide⟩ ?_
      refine am_s rfl rfl ?_
      refine am_s rfl rfl ?_
      refine am_s rfl rfl ?_
      refine s_lmul rfl ?_
      refine am_s rfl rfl ?_
      refine s_jlt rfl rfl ⟨by omega, by omega⟩ ⟨by omega, by omega⟩ (fun c3 => ?_) (fun c3 => ?_)
      · refine am_s rfl rfl ?_
        refine s_kl 1 rfl rfl ?_
        refine s_ladd rfl ?_
        refine am_s rfl rfl ?_
        refine s_inc rfl rfl ?_
        refine am_s rfl rfl ?_
        have ek2 : (k : Int) + 1 = ((k + 1 : Nat) : Int) := by omega
        rw [ek2]
        refine am_lv [(8, _), (6, _), (4, _), (0, _)] rfl rfl ⟨rfl, rfl, rfl, rfl, trivial⟩ ?_
        refine kk ((l + h) / 2 + 1, h) ⟨⟨by show 0 ≤ (l + h) / 2 + 1; omega, by show (l + h) / 2 + 1 ≤ h; omega, hr.2.2⟩, ?_, hh, fun q q0 q1 => rt_lo (m := (l + h) / 2) (by omega) q0 q1⟩
        show (h - ((l + h) / 2 + 1)) * ((2 ^ (k + 1) : Nat) : Int) ≤ 3000000
        rw [Nat.pow_succ, Int.natCast_mul]
        exact (hm (by omega)).2
      · refine am_s rfl rfl ?_
        refine am_s rfl rfl ?_
        refine am_s rfl rfl ?_
        refine s_inc rfl rfl ?_
        refine am_s rfl rfl ?_
        have ek2 : (k : Int) + 1 = ((k + 1 : Nat) : Int) := by omega
        rw [ek2]
        refine am_lv [(8, _), (6, _), (4, _), (0, _)] rfl rfl ⟨rfl, rfl, rfl, rfl, trivial⟩ ?_
        refine kk (l, (l + h) / 2) ⟨⟨by show 0 ≤ l; omega, by show l ≤ (l + h) / 2; omega, by show (l + h) / 2 ≤ 2000000; omega⟩, ?_, by show v ≤ (l + h) / 2 * ((l + h) / 2); omega, hlo⟩
        show ((l + h) / 2 - l) * ((2 ^ (k + 1) : Nat) : Int) ≤ 3000000
        rw [Nat.pow_succ, Int.natCast_mul]
        exact (hm (by omega)).1
  · rintro ⟨l, h⟩ ⟨hr, hw, hh, hlo⟩
    simp only at hr hw hh hlo ⊢
    rw [show ((2 ^ 64 : Nat) : Int) = 18446744073709551616 from rfl] at hw
    refine am_s rfl rfl ?_
    refine s_k 64 rfl rfl ?_
    refine s_cge rfl ⟨by omega, by omega⟩ ⟨by omega, by omega⟩ (fun c1 => ?_) (fun c1 => absurd c1 (by omega))
    refine am_s rfl rfl ?_
    have e : l = h := by omega
    subst e
    exact am_r rfl rfl ⟨l, rfl, ⟨by omega, hh, hlo⟩, rfl⟩
theorem s_whileH {X : Type} {d j pc : Nat} {hp : am_H} {P : Option Value → am_H → Prop} (Inv : X → Prop) (ms : X → Nat) (lvf : X → am_L) (step : ∀ x : X, Inv x → (∀ x' : X, Inv x' → ms x' < ms x → am_wp d j pc (lvf x') [] hp P) → am_wp d j pc (lvf x) [] hp P) {x : X} (h0 : Inv x) : am_wp d j pc (lvf x) [] hp P := by
  have key : ∀ n x, ms x < n → Inv x → am_wp d j pc (lvf x) [] hp P := by
    intro n
    induction n with
    | zero => intro x h; exact absurd h (Nat.not_lt_zero _)
    | succ n ih => intro x h hx; exact step x hx (fun x' hx' hlt => ih x' (by omega) hx')
  exact key (ms x + 1) x (Nat.lt_succ_self _) h0
theorem t_root {d : Nat} {hp : am_H} {v : Int} (h0 : 0 ≤ v ∧ v ≤ 9000000000000) : am_wp d 169 0 (lv_args 0 [.long (lI v)]) [] hp (fun rv h => ∃ r, rv = some (.long (lI r)) ∧ rtI v r ∧ h = hp) := by
  refine s_kl 0 rfl rfl ?_
  refine am_s rfl rfl ?_
  refine s_kl 3000000 rfl rfl ?_
  refine am_s rfl rfl ?_
  refine am_lv [(4, .long (lI 3000000)), (2, .long (lI 0)), (0, .long (lI v))] rfl rfl ⟨rfl, rfl, rfl, trivial⟩ ?_
  refine s_whileH (X := Int × Int) (fun x => (0 ≤ x.1 ∧ x.1 ≤ x.2 ∧ x.2 ≤ 3000000) ∧ v ≤ x.2 * x.2 ∧ ∀ q, 0 ≤ q → q < x.1 → q * q < v) (fun x => (x.2 - x.1).toNat) (fun x => [(4, .long (lI x.2)), (2, .long (lI x.1)), (0, .long (lI v))]) ?_ (x := (0, 3000000)) ⟨⟨by decide, by decide, by decide⟩, by show v ≤ 3000000 * 3000000; omega, fun q q0 q1 => absurd q1 (by show ¬ q < 0; omega)⟩
  · rintro ⟨l, h⟩ ⟨hr, hh, hlo⟩ kk
    simp only at kk hr hh hlo ⊢
    have hq := sq_q (a := (l + h) / 2) (by omega) (by omega)
    refine am_s rfl rfl ?_
    refine am_s rfl rfl ?_
    refine s_jge rfl rfl ⟨by omega, by omega⟩ ⟨by omega, by omega⟩ (fun c1 => ?_) (fun c1 => ?_)
    · refine am_s rfl rfl ?_
      have e : l = h := by omega
      subst e
      exact am_r rfl rfl ⟨l, rfl, ⟨by omega, hh, hlo⟩, rfl⟩
    · refine am_s rfl rfl ?_
      refine am_s rfl rfl ?_
      refine s_ladd rfl ?_
      refine s_kl 2 rfl rfl ?_
      refine s_ldiv rfl ⟨by omega, by omega⟩ ⟨by decide, by decide⟩ ?_
      refine am_s rfl rfl ?_
      refine am_s rfl rfl ?_
      refine am_s rfl rfl ?_
      refine s_lmul rfl ?_
      refine am_s rfl rfl ?_
      refine s_jlt rfl rfl ⟨by omega, by omega⟩ ⟨by omega, by omega⟩ (fun c2 => ?_) (fun c2 => ?_)
      · refine am_s rfl rfl ?_
        refine s_kl 1 rfl rfl ?_
        refine s_ladd rfl ?_
        refine am_s rfl rfl ?_
        refine am_s rfl rfl ?_
        refine am_lv [(4, _), (2, _), (0, _)] rfl rfl ⟨rfl, rfl, rfl, trivial⟩ ?_
        exact kk ((l + h) / 2 + 1, h) ⟨⟨by show 0 ≤ (l + h) / 2 + 1; omega, by show (l + h) / 2 + 1 ≤ h; omega, hr.2.2⟩, hh, fun q q0 q1 => rt_lo (m := (l + h) / 2) (by omega) q0 q1⟩ (by show (h - ((l + h) / 2 + 1)).toNat < (h - l).toNat; omega)
      · refine am_s rfl rfl ?_
        refine am_s rfl rfl ?_
        refine am_s rfl rfl ?_
        refine am_s rfl rfl ?_
        refine am_lv [(4, _), (2, _), (0, _)] rfl rfl ⟨rfl, rfl, rfl, trivial⟩ ?_
        exact kk (l, (l + h) / 2) ⟨⟨by show 0 ≤ l; omega, by show l ≤ (l + h) / 2; omega, by show (l + h) / 2 ≤ 3000000; omega⟩, by show v ≤ (l + h) / 2 * ((l + h) / 2); omega, hlo⟩ (by show ((l + h) / 2 - l).toNat < (h - l).toNat; omega)
theorem t_sizeM {d : Nat} {hp : am_H} {v : Int} (hv : -2000000 ≤ v ∧ v ≤ 2000000) : am_wp d 168 0 (lv_args 0 [.long (lI v)]) [] hp (fun rv h => rv = some (.long (lI (iab v))) ∧ h = hp) := by
  refine am_s rfl rfl ?_
  refine s_kl 0 rfl rfl ?_
  refine s_jge rfl rfl ⟨by omega, by omega⟩ ⟨by omega, by omega⟩ (fun c1 => ?_) (fun c1 => ?_)
  · refine am_s rfl rfl ?_
    exact am_r rfl rfl ⟨by unfold iab; rw [if_neg (by omega)], rfl⟩
  · refine am_s rfl rfl ?_
    refine s_lneg rfl ?_
    refine am_s rfl rfl ?_
    exact am_r rfl rfl ⟨by unfold iab; rw [if_pos (by omega)], rfl⟩
theorem t_absI {d : Nat} {hp : am_H} {v : Int} (hv : -2000000 ≤ v ∧ v ≤ 2000000) : am_wp d 219 0 (lv_args 0 [.int (iI v)]) [] hp (fun rv h => rv = some (.int (iI (iab v))) ∧ h = hp) := by
  refine am_s rfl rfl ?_
  refine s_zge rfl ⟨by omega, by omega⟩ (fun c1 => ?_) (fun c1 => ?_)
  · refine am_s rfl rfl ?_
    exact am_r rfl rfl ⟨by unfold iab; rw [if_neg (by omega)], rfl⟩
  · refine am_s rfl rfl ?_
    refine s_ineg rfl ?_
    refine am_s rfl rfl ?_
    exact am_r rfl rfl ⟨by unfold iab; rw [if_pos (by omega)], rfl⟩
theorem iab_r {v : Int} (hv : -1000000 ≤ v ∧ v ≤ 1000000) : 0 ≤ iab v ∧ iab v ≤ 1000000 := by
  unfold iab
  split <;> omega
theorem sq_sum {x y : Int} (hx : 0 ≤ x ∧ x ≤ 1000000) (hy : 0 ≤ y ∧ y ≤ 1000000) : (0 ≤ x * x + y * y ∧ x * x + y * y ≤ 9000000000000) ∧ x * x + y * y ≤ (x + y) * (x + y) := by
  have h1 : x * x ≤ 1000000 * 1000000 := sq_le hx.1 hx.2
  have h2 : y * y ≤ 1000000 * 1000000 := sq_le hy.1 hy.2
  have h3 : 0 ≤ x * x := Int.mul_nonneg hx.1 hx.1
  have h4 : 0 ≤ y * y := Int.mul_nonneg hy.1 hy.1
  have h5 : 0 ≤ x * y := Int.mul_nonneg hx.1 hy.1
  have h6 : (x + y) * (x + y) = x * x + x * y + (x * y + y * y) := by rw [Int.add_mul, Int.mul_add, Int.mul_add, Int.mul_comm y x]
  omega
