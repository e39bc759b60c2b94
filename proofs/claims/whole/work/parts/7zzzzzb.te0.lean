/-! THE BEGINNING: what stands after both are made -/
def nV0 (c : am_E) (y : Int) : Int := match c with
  | .inl (_, _, .inl f) => (f y.toNat).toInt
  | .inl (_, _, .inr (.inl f)) => (f y.toNat).toInt
  | .inr (_, fs) => match fs[y.toNat]? with
    | some (.int v) => v.toInt
    | some (.long v) => v.toInt
    | _ => 0
  | _ => 0
def s0f (c : Nat → am_E) : am_S := fun a y => nV0 (c a) y
def r0f (c : Nat → am_E) : Nat → Nat → Option Nat := fun a => match c a with
  | .inl (_, _, .inr (.inr (.inr (.inr f)))) => f
  | _ => fun _ => none
def E0 (h : am_H) : am_Ev := (h.2.2, r0f h.2.2, (3, 64), (159, 0), h.1, h.2.1)
def ckf : List (Nat × Nat) → List Value → Bool
  | [], [] => true
  | k :: ks, v :: vs => (match v with
    | .int _ => k.1 == 1
    | .long _ => k.1 == 2
    | .ref b => (k.1 == 4 && b == k.2) || (k.1 == 5 && b == 3) || (k.1 == 6 && b == 159)
    | _ => false) && ckf ks vs
  | _, _ => false
def ckc (a : Nat) (c : am_E) : Bool := match am_lo a with
  | some (.inl (t, n)) => match c with
    | .inl (t2, n2, .inl _) => t == t2 && n == n2 && (t == 0 || t == 1 || t == 3)
    | .inl (t2, n2, .inr (.inl _)) => t == t2 && n == n2 && t == 2
    | .inl (t2, n2, .inr (.inr (.inr (.inr f)))) => t == t2 && n == n2 && (t == 4 || t == 5) && (List.range n).all (fun i => f i == some (a + 1 + i))
    | _ => false
  | some (.inr (ci, ks)) => match c with
    | .inr (c2, fs) => ci == c2 && ckf ks fs
    | _ => false
  | none => match c with
    | .inl (t2, n2, .inl _) => a == 3 && t2 == 0 && n2 == 64
    | .inl (t2, n2, .inr (.inl _)) => a == 159 && t2 == 2 && n2 == 0
    | _ => false
theorem lI_of (x : Int64) : lI x.toInt = x := Int64.ofInt_toInt x
theorem ckf_fs {h : am_H} {ci : Nat} {vs0 : List Value} : ∀ {ks : List (Nat × Nat)} {vs : List Value} {i : Nat}, ckf ks vs = true → (∀ j : Nat, vs[j]? = vs0[i + j]?) → am_fs (E0 h) (nV0 (.inr (ci, vs0))) ks i = vs
  | [], [], _, _, _ => rfl
  | [], _ :: _, _, h, _ => by cases h
  | _ :: _, [], _, h, _ => by cases h
  | k :: ks, v :: vs, i, hk, he => by
    unfold ckf at hk
    rw [Bool.and_eq_true] at hk
    have e0 : vs0[i]? = some v := by
      have := he 0
      rw [Nat.add_zero] at this
      exact this.symm
    show am_fv (E0 h) k (nV0 (.inr (ci, vs0)) (i : Int)) :: am_fs (E0 h) _ ks (i + 1) = v :: vs
    rw [ckf_fs (ks := ks) (vs := vs) (i := i + 1) hk.2 (fun j => by
      have := he (j + 1)
      rw [show i + 1 + j = i + (j + 1) by omega]
      exact this)]
    congr 1
    have ev : nV0 (.inr (ci, vs0)) (i : Int) = (match some v with
      | some (.int v) => v.toInt
      | some (.long v) => v.toInt
      | _ => 0) := by
      unfold nV0
      simp only [Int.toNat_natCast, e0]
    rw [ev]
    obtain ⟨hk1, -⟩ := hk
    unfold am_fv
    cases v with
    | int x =>
      have : k.1 = 1 := by simpa using hk1
      rw [if_pos this]
      exact congrArg Value.int (iI_of x).symm
    | long x =>
      have : k.1 = 2 := by simpa using hk1
      rw [if_neg (by omega), if_pos this]
      exact congrArg Value.long (lI_of x)
    | ref b =>
      simp only [Bool.or_eq_true, Bool.and_eq_true, beq_iff_eq] at hk1
      rcases hk1 with (⟨a1, a2⟩ | ⟨a1, a2⟩) | ⟨a1, a2⟩
      · rw [if_neg (by omega), if_neg (by omega), if_pos a1, a2]
      · rw [if_neg (by omega), if_neg (by omega), if_neg (by omega), if_pos a1, a2]; rfl
      · rw [if_neg (by omega), if_neg (by omega), if_neg (by omega), if_neg (by omega), a2]; rfl
    | _ => cases hk1
theorem ck_cl {h : am_H} {a : Nat} (hk : ckc a (h.2.2 a) = true) : am_cl (E0 h) (s0f h.2.2) a = h.2.2 a := by
  unfold ckc at hk
  unfold am_cl
  cases hl : am_lo a with
  | none =>
    rw [hl] at hk
    simp only at hk ⊢
    have es : ∀ y, s0f h.2.2 a y = nV0 (h.2.2 a) y := fun _ => rfl
    split at hk
    · rename_i t2 n2 f hc
      simp only [Bool.and_eq_true, beq_iff_eq] at hk
      obtain ⟨⟨a1, a2⟩, a3⟩ := hk
      rw [if_pos (show a = (E0 h).2.2.1.1 from a1)]
      have ef : am_ia (s0f h.2.2 a) = f := by
        funext i
        show iI (nV0 (h.2.2 a) (i : Int)) = f i
        rw [hc]
        exact (iI_of (f i)).symm
      rw [ef, hc, a2, a3]; rfl
    · rename_i t2 n2 f hc
      simp only [Bool.and_eq_true, beq_iff_eq] at hk
      obtain ⟨⟨a1, a2⟩, a3⟩ := hk
      rw [if_neg (show ¬ a = (E0 h).2.2.1.1 from fun z => by
        have z : a = 3 := z
        omega), if_pos (show a = (E0 h).2.2.2.1.1 from a1)]
      have ef : am_ja (s0f h.2.2 a) = f := by
        funext i
        show lI (nV0 (h.2.2 a) (i : Int)) = f i
        rw [hc]
        exact lI_of (f i)
      rw [ef, hc, a2, a3]; rfl
    · cases hk
  | some y =>
    rw [hl] at hk
    rcases y with ⟨t, n⟩ | ⟨ci, ks⟩
    · simp only at hk ⊢
      split at hk
      · rename_i t2 n2 f hc
        simp only [Bool.and_eq_true, Bool.or_eq_true, beq_iff_eq] at hk
        obtain ⟨⟨a1, a2⟩, a3⟩ := hk
        have ef : am_ia (s0f h.2.2 a) = f := by
          funext i
          show iI (nV0 (h.2.2 a) (i : Int)) = f i
          rw [hc]
          exact (iI_of (f i)).symm
        rw [ef, hc, ← a1, ← a2]
        rcases a3 with (rfl | rfl) | rfl <;> rfl
      · rename_i t2 n2 f hc
        simp only [Bool.and_eq_true, beq_iff_eq] at hk
        obtain ⟨⟨a1, a2⟩, a3⟩ := hk
        have ef : am_ja (s0f h.2.2 a) = f := by
          funext i
          show lI (nV0 (h.2.2 a) (i : Int)) = f i
          rw [hc]
          exact lI_of (f i)
        rw [ef, hc, ← a1, ← a2, a3]; rfl
      · rename_i t2 n2 f hc
        simp only [Bool.and_eq_true, Bool.or_eq_true, beq_iff_eq] at hk
        obtain ⟨⟨⟨a1, a2⟩, a3⟩, -⟩ := hk
        have ef : (E0 h).2.1 a = f := by
          show r0f h.2.2 a = f
          unfold r0f
          rw [hc]
        rw [ef, hc, ← a1, ← a2]
        rcases a3 with rfl | rfl <;> rfl
      · cases hk
    · simp only at hk ⊢
      split at hk
      · rename_i c2 fs hc
        simp only [Bool.and_eq_true, beq_iff_eq] at hk
        have eg : s0f h.2.2 a = nV0 (.inr (c2, fs)) := by
          funext y
          show nV0 (h.2.2 a) y = _
          rw [hc]
        rw [eg, hc, ckf_fs hk.2 (fun j => by rw [Nat.zero_add]), hk.1]
      · cases hk
theorem ck_rows {h : am_H} {a t n : Nat} (hk : ckc a (h.2.2 a) = true) (hl : am_lo a = some (.inl (t, n))) (ht : t = 4 ∨ t = 5) : ∀ i, i < n → (E0 h).2.1 a i = some (a + 1 + i) := by
  intro i hi
  unfold ckc at hk
  rw [hl] at hk
  simp only at hk
  split at hk
  · simp only [Bool.and_eq_true, Bool.or_eq_true, beq_iff_eq] at hk
    omega
  · simp only [Bool.and_eq_true, beq_iff_eq] at hk
    omega
  · rename_i t2 n2 f hc
    simp only [Bool.and_eq_true, Bool.or_eq_true, beq_iff_eq] at hk
    have := List.all_eq_true.mp hk.2 i (List.mem_range.mpr hi)
    show r0f h.2.2 a i = _
    unfold r0f
    rw [hc]
    simpa using this
  · cases hk
/-- all cells have their shape -/
def ckA (h : am_H) : Bool := (List.range' 1 193).all (fun a => ckc a (h.2.2 a))
theorem ckc_nd {a : Nat} {c : am_E} (h : ckc a c = true) : am_isDm c = false := by
  unfold ckc at h
  split at h
  · split at h
    · simp only [Bool.and_eq_true, Bool.or_eq_true, beq_iff_eq] at h
      show decide (6 ≤ _) = false
      exact decide_eq_false (by omega)
    · simp only [Bool.and_eq_true, beq_iff_eq] at h
      show decide (6 ≤ _) = false
      exact decide_eq_false (by omega)
    · simp only [Bool.and_eq_true, Bool.or_eq_true, beq_iff_eq] at h
      show decide (6 ≤ _) = false
      exact decide_eq_false (by omega)
    · cases h
  · split at h
    · rfl
    · cases h
  · split at h
    · simp only [Bool.and_eq_true, beq_iff_eq] at h
      show decide (6 ≤ _) = false
      exact decide_eq_false (by omega)
    · simp only [Bool.and_eq_true, beq_iff_eq] at h
      show decide (6 ≤ _) = false
      exact decide_eq_false (by omega)
    · cases h
theorem ck_at {h : am_H} (hk : ckA h = true) {a : Nat} (a0 : 1 ≤ a) (a1 : a ≤ 193) : ckc a (h.2.2 a) = true := List.all_eq_true.mp hk a (List.mem_range'_1.mpr ⟨a0, by omega⟩)
theorem mH_cell {G : Nat → am_E} {h : am_H} (hk : ckA h = true) {a : Nat} (a0 : 1 ≤ a) (a1 : a ≤ 193) : (am_mH G h).2.2 a = h.2.2 a := am_mg_of (ckc_nd (ck_at hk a0 a1))
theorem start_hp {G : Nat → am_E} {h : am_H} (hk : ckA h = true) : am_mH G h = am_hp (E0 (am_mH G h)) (s0f (am_mH G h).2.2) := by
  show ((am_mH G h).1, (am_mH G h).2.1, (am_mH G h).2.2) = ((am_mH G h).1, (am_mH G h).2.1, am_cl (E0 (am_mH G h)) (s0f (am_mH G h).2.2))
  congr 2
  funext a
  by_cases z : 1 ≤ a ∧ a ≤ 193
  · refine (ck_cl ?_).symm
    rw [mH_cell hk z.1 z.2]
    exact ck_at hk z.1 z.2
  · have n0 : am_lo a = none := by
      by_cases y : a = 0
      · subst y; rfl
      · unfold am_lo
        rw [if_neg (by omega)]
    unfold am_cl
    rw [n0]
    simp only
    rw [if_neg (show ¬ a = (E0 (am_mH G h)).2.2.1.1 from fun y => by
      have y : a = 3 := y
      omega), if_neg (show ¬ a = (E0 (am_mH G h)).2.2.2.1.1 from fun y => by
      have y : a = 159 := y
      omega)]
    rfl
def vckL : List (Nat × Int × Int) := [(25, 0, 1), (25, 2, 0), (27, 0, 0), (48, 0, 0), (48, 2, 0), (58, 0, 0), (127, 0, 0), (127, 1, 1), (151, 0, 0), (151, 1, 0), (168, 1, 1), (168, 14, 0), (168, 18, 0), (168, 24, 0), (168, 29, 0), (168, 20, 0), (168, 26, 0), (169, 0, 0), (2, 1, 0), (168, 5, 0)]
def vck (h : am_H) : Bool := vckL.all (fun p => decide (nV0 (h.2.2 p.1) p.2.1 = p.2.2)) && (List.range 20).all (fun y => decide (nV0 (h.2.2 54) (y : Int) = 0) && decide (nV0 (h.2.2 161) (y : Int) = 0) && decide (nV0 (h.2.2 191) (y : Int) = 0)) && (List.range 64).all (fun y => decide (nV0 (h.2.2 3) (y : Int) = 0))
theorem E0_g {h : am_H} (hn : h.1 = 193) (hk : ∀ a, 1 ≤ a → a ≤ 193 → ckc a (h.2.2 a) = true) : am_Eg (E0 h) := by
  refine ⟨by show 193 ≤ h.1; omega, fun a n hl => ?_, fun a n hl => ?_⟩
  · have := am_lo_le hl
    exact ck_rows (hk a this.1 this.2) hl (Or.inl rfl)
  · have := am_lo_le hl
    exact ck_rows (hk a this.1 this.2) hl (Or.inr rfl)
theorem E0_d {h : am_H} (hn : h.1 = 193) : am_Ed (E0 h) := ⟨rfl, ⟨by show 1 ≤ 3; decide, by show 3 ≤ h.1; omega⟩, ⟨by show 1 ≤ 64; decide, by show 64 ≤ 5000; decide⟩, rfl, ⟨by show 1 ≤ 159; decide, by show 159 ≤ h.1; omega⟩, by show 0 ≤ 10240; decide, by show (3 : Nat) ≠ 159; decide⟩
theorem start_all {h : am_H} (hn : h.1 = 193) (hs : h.2.1 ≤ 1075271) (hk : ∀ a, 1 ≤ a → a ≤ 193 → ckc a (h.2.2 a) = true) (v : ∀ p ∈ vckL, s0f h.2.2 p.1 p.2.1 = p.2.2) (v20 : ∀ y, 0 ≤ y → y < 20 → s0f h.2.2 54 y = 0 ∧ s0f h.2.2 161 y = 0 ∧ s0f h.2.2 191 y = 0) (v64 : ∀ y, 0 ≤ y → y < 64 → s0f h.2.2 3 y = 0) : iAll 0 (E0 h) (s0f h.2.2) := by
  generalize s0f h.2.2 = s at v v20 v64 ⊢
  have e25 : s 25 0 = 1 := v (25, 0, 1) (by decide)
  have e252 : s 25 2 = 0 := v (25, 2, 0) (by decide)
  have e27 : s 27 0 = 0 := v (27, 0, 0) (by decide)
  have e48 : s 48 0 = 0 := v (48, 0, 0) (by decide)
  have e482 : s 48 2 = 0 := v (48, 2, 0) (by decide)
  have e58 : s 58 0 = 0 := v (58, 0, 0) (by decide)
  have e127 : s 127 0 = 0 := v (127, 0, 0) (by decide)
  have e1271 : s 127 1 = 1 := v (127, 1, 1) (by decide)
  have e151 : s 151 0 = 0 := v (151, 0, 0) (by decide)
  have e1511 : s 151 1 = 0 := v (151, 1, 0) (by decide)
  have m1 : s 168 1 = 1 := v (168, 1, 1) (by decide)
  have m14 : s 168 14 = 0 := v (168, 14, 0) (by decide)
  have m18 : s 168 18 = 0 := v (168, 18, 0) (by decide)
  have m24 : s 168 24 = 0 := v (168, 24, 0) (by decide)
  have m29 : s 168 29 = 0 := v (168, 29, 0) (by decide)
  have m20 : s 168 20 = 0 := v (168, 20, 0) (by decide)
  have m26 : s 168 26 = 0 := v (168, 26, 0) (by decide)
  have m169 : s 169 0 = 0 := v (169, 0, 0) (by decide)
  have t2 : s 2 1 = 0 := v (2, 1, 0) (by decide)
  have t5 : s 168 5 = 0 := v (168, 5, 0) (by decide)
  have mx0 : ∀ a b, 0 ≤ a → a < s 25 0 → 0 ≤ b → b < s 25 0 → mx s a b = 0 := fun a b a0 a1 b0 b1 => by
    rw [show a = 0 by omega, show b = 0 by omega]; exact e27
  have my0 : ∀ a b, 0 ≤ a → a < s 25 0 → 0 ≤ b → b < s 25 0 → my s a b = 0 := fun a b a0 a1 b0 b1 => by
    rw [show a = 0 by omega, show b = 0 by omega]; exact m169
  refine ⟨⟨E0_g hn hk, E0_d hn, by show h.1 ≤ 193 + 0; omega, by show h.2.1 ≤ 1075271 + 10240 * 0; omega, by show 8 ≤ 64; decide⟩, ⟨⟨⟨by omega, by omega, fun a b a0 a1 b0 b1 => by rw [mx0 a b a0 a1 b0 b1]; omega⟩, fun c c0 c1 => by rw [(v20 c c0 c1).1]; omega, Or.inl e48, Or.inl e58, Or.inl e127, fun z => by omega, fun z => by omega, fun z => by omega⟩, Or.inl e252, fun y y0 y1 => (v20 y y0 y1).1, fun z => by omega, Or.inl e151, fun z => by omega, by omega, by omega, by omega⟩, ⟨⟨⟨by omega, by omega, fun a b a0 a1 b0 b1 => by rw [my0 a b a0 (by omega) b0 (by omega)]; omega⟩, fun c c0 c1 => by rw [(v20 c c0 c1).2.2]; omega, Or.inl m14, Or.inl m18, Or.inl m24, fun z => by omega, fun z => by omega, fun z => by omega⟩, fun z => by omega, Or.inl m29, fun z => by omega, by omega, by omega⟩, ⟨by omega, fun a b a0 a1 b0 b1 => by rw [mx0 a b a0 a1 b0 b1, my0 a b a0 a1 b0 b1]⟩, ⟨by omega, ⟨by omega, by show s 2 1 ≤ 64; omega⟩, fun y y0 y1 => by omega, fun y y0 y1 => by rw [show s (E0 h).2.2.1.1 y = 0 from v64 y y0 y1]; omega⟩, ⟨by omega, by omega, by omega, by omega, fun y y0 y1 => by rw [(v20 y y0 y1).2.1, (v20 y y0 y1).2.2], fun y y0 y1 => by rw [(v20 y y0 y1).2.1]; omega, fun z => by omega⟩⟩
theorem wInv_0 {G : Nat → am_E} {h : am_H} (hn : h.1 = 193) (hs : decide (h.2.1 ≤ 1075271) = true) (hk : ckA h = true) (hv : vck h = true) : wInv 0 (am_mH G h) := by
  unfold vck at hv
  simp only [Bool.and_eq_true] at hv
  obtain ⟨⟨h1, h2⟩, h3⟩ := hv
  refine ⟨E0 (am_mH G h), s0f (am_mH G h).2.2, start_hp hk, start_all (h := am_mH G h) hn (of_decide_eq_true hs) (fun a a0 a1 => by rw [mH_cell hk a0 a1]; exact ck_at hk a0 a1) (fun p hp => ?_) (fun y y0 y1 => ?_) (fun y y0 y1 => ?_)⟩
  · have q := of_decide_eq_true (List.all_eq_true.mp h1 p hp)
    show nV0 ((am_mH G h).2.2 p.1) p.2.1 = p.2.2
    have r : 1 ≤ p.1 ∧ p.1 ≤ 193 := by
      have : ∀ p ∈ vckL, 1 ≤ p.1 ∧ p.1 ≤ 193 := by decide
      exact this p hp
    rw [mH_cell hk r.1 r.2]; exact q
  · have q := List.all_eq_true.mp h2 y.toNat (List.mem_range.mpr (by omega))
    simp only [Bool.and_eq_true, decide_eq_true_eq, Int.toNat_of_nonneg y0] at q
    refine ⟨?_, ?_, ?_⟩
    · show nV0 ((am_mH G h).2.2 54) y = 0
      rw [mH_cell hk (by decide) (by decide)]; exact q.1.1
    · show nV0 ((am_mH G h).2.2 161) y = 0
      rw [mH_cell hk (by decide) (by decide)]; exact q.1.2
    · show nV0 ((am_mH G h).2.2 191) y = 0
      rw [mH_cell hk (by decide) (by decide)]; exact q.2
  · have q := of_decide_eq_true (List.all_eq_true.mp h3 y.toNat (List.mem_range.mpr (by omega)))
    rw [Int.toNat_of_nonneg y0] at q
    show nV0 ((am_mH G h).2.2 3) y = 0
    rw [mH_cell hk (by decide) (by decide)]; exact q
set_option maxRecDepth 100000 in
theorem hC_s : decide (am_hC.2.1 ≤ 1075271) = true := by decide +kernel
set_option maxRecDepth 100000 in
theorem hC_v : vck am_hC = true := by decide +kernel
set_option maxRecDepth 100000 in
theorem hC_k : ckA am_hC = true := by decide +kernel
theorem wInv_start (G : Nat → am_E) : wInv 0 (am_mH G am_hC) := wInv_0 am_hC_n hC_s hC_k hC_v
/-- every call keeps it -/
theorem w_keeps {n : Nat} (hn : n ≤ 512) : lw_Keeps wInv n := by
  rintro h a b c e ⟨E, s, rfl, hI⟩
  exact ⟨p_begin hI hn a, p_type hI _ c, p_clear hI, p_read hI hn, p_add hI hn, p_drop hI hn a, p_set hI hn a b c e, p_dist hI a b, p_cities hI, p_flaw hI a, p_tree hI, p_hung hI a, p_cut hI a, p_odd hI a, p_match hI, p_partner hI a, p_prices hI, p_round hI, p_corner hI a, p_build hI a b, p_stop hI a, p_place hI a, p_length hI, p_better hI a b, p_best hI, p_bound hI hn a b, p_penalty hI a, p_forgive hI hn, E, s, rfl, iAll_s hI⟩
theorem w_room {n : Nat} {h : am_H} (hn : n ≤ 512) (k : wInv n h) : h.1 ≤ 600000 ∧ h.2.1 ≤ 7000000 := by
  obtain ⟨E, s, rfl, hI⟩ := k
  have a := hI.e.rc
  have b := hI.e.rs
  have c : 10240 * n ≤ 10240 * 512 := Nat.mul_le_mul_left _ hn
  exact ⟨by show E.2.2.2.2.1 ≤ _; omega, Nat.le_trans b (Nat.le_trans (Nat.add_le_add_left c _) (by decide))⟩
