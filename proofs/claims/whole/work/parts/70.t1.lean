/-! places of a row made 0 -/
def s_zr (s : am_S) (a : Nat) (k : Int) : am_S := fun b y => if b = a ∧ 0 ≤ y ∧ y < k then 0 else s b y
theorem s_zr_0 (s : am_S) (a : Nat) : s_zr s a 0 = s := by
  funext b y
  exact if_neg (fun z => by omega)
theorem s_zr_w (s : am_S) (a : Nat) {k : Int} (hk : 0 ≤ k) : am_w (s_zr s a k) a k 0 = s_zr s a (k + 1) := by
  funext b y
  unfold am_w s_zr
  by_cases e : b = a
  · by_cases e2 : y = k
    · rw [if_pos ⟨e, e2⟩, if_pos ⟨e, by omega, by omega⟩]
    · rw [if_neg (fun z => e2 z.2)]
      by_cases e3 : 0 ≤ y ∧ y < k
      · rw [if_pos ⟨e, e3.1, e3.2⟩, if_pos ⟨e, e3.1, by omega⟩]
      · rw [if_neg (fun z => e3 z.2), if_neg (fun z => e3 ⟨z.2.1, by omega⟩)]
  · rw [if_neg (fun z => e z.1), if_neg (fun z => e z.1), if_neg (fun z => e z.1)]
theorem s_zr_ge {s : am_S} {a b : Nat} {k y : Int} (h : k ≤ y) : s_zr s a k b y = s b y := if_neg (fun z => by omega)
theorem s_zr_a {s : am_S} {a b : Nat} {k y : Int} (h : b ≠ a) : s_zr s a k b y = s b y := if_neg (fun z => h z.1)
/-- how many of the first k are not 0 -/
def s_cnt (f : Int → Int) : Nat → Int
  | 0 => 0
  | k + 1 => s_cnt f k + (if f k = 0 then 0 else 1)
theorem s_cnt_le (f : Int → Int) : ∀ k : Nat, 0 ≤ s_cnt f k ∧ s_cnt f k ≤ k
  | 0 => ⟨Int.le_refl 0, Int.le_refl 0⟩
  | k + 1 => by
    have := s_cnt_le f k
    show 0 ≤ s_cnt f k + (if f k = 0 then 0 else 1) ∧ s_cnt f k + (if f k = 0 then 0 else 1) ≤ ((k + 1 : Nat) : Int)
    by_cases e : f k = 0
    · rw [if_pos e]; omega
    · rw [if_neg e]; omega
theorem t_reset {d : Nat} {E : am_Ev} {s : am_S} (g : am_Eg E) (hQ : ∀ y, 0 ≤ y → y < 20 → am_Q (s 161 y)) : am_wp d 1 0 (lv_args 0 [.ref 160]) [] (am_hp E s) (fun rv h => rv = some (.int (iI (s_cnt (s 161) 20))) ∧ h = am_hp E (s_zr s 161 20)) := by
  refine s_k 0 rfl rfl ?_
  refine am_s rfl rfl ?_
  refine s_k 0 rfl rfl ?_
  refine am_s rfl rfl ?_
  refine am_lv [(2, .int (iI ((0 : Nat) : Int))), (1, .int (iI (s_cnt (s 161) 0))), (0, .ref 160)] rfl rfl ⟨rfl, rfl, rfl, trivial⟩ ?_
  rw [show am_hp E s = am_hp E (s_zr s 161 ((0 : Nat) : Int)) by rw [show ((0 : Nat) : Int) = 0 from rfl, s_zr_0]]
  refine s_for (lvf := fun k => [(2, .int (iI (k : Int))), (1, .int (iI (s_cnt (s 161) k))), (0, .ref 160)]) (hf := fun k => am_hp E (s_zr s 161 (k : Int))) (lo := 0) (hi := 20) (by decide) ?_ ?_
  · intro k hk0 hk kk
    simp only at kk ⊢
    refine am_s rfl rfl ?_
    refine s_k 20 rfl rfl ?_
    refine s_cge rfl ⟨by omega, by omega⟩ ⟨by omega, by omega⟩ (fun c1 => absurd c1 (by omega)) (fun c1 => ?_)
    refine am_s rfl rfl ?_
    refine s_gr rfl g rfl rfl ?_
    refine am_s rfl rfl ?_
    refine s_la rfl g rfl ⟨by omega, by omega⟩ (by decide) ?_
    refine s_kl 0 rfl rfl ?_
    refine s_jeq rfl rfl (by rw [s_zr_ge (Int.le_refl _)]; exact hQ k (Int.natCast_nonneg k) (by omega)) ⟨by decide, by decide⟩ (fun c2 => ?_) (fun c2 => ?_)
    · refine am_s rfl rfl ?_
      refine s_gr rfl g rfl rfl ?_
      refine am_s rfl rfl ?_
      refine s_kl 0 rfl rfl ?_
      refine s_ls rfl g rfl ⟨by omega, by omega⟩ (by decide) ?_
      refine s_inc rfl rfl ?_
      refine am_s rfl rfl ?_
      refine am_lv [(2, _), (1, _), (0, _)] rfl rfl ⟨rfl, rfl, rfl, trivial⟩ ?_
      rw [s_zr_w s 161 (Int.natCast_nonneg k)]
      rw [s_zr_ge (Int.le_refl _)] at c2
      rw [show s_cnt (s 161) (k + 1) = s_cnt (s 161) k + (if s 161 k = 0 then 0 else 1) from rfl] at kk
      first | (rw [if_pos c2, Int.add_zero] at kk; exact kk) | (rw [if_neg c2] at kk; exact kk)
    · refine s_inc rfl rfl ?_
      refine am_s rfl rfl ?_
      refine s_gr rfl g rfl rfl ?_
      refine am_s rfl rfl ?_
      refine s_kl 0 rfl rfl ?_
      refine s_ls rfl g rfl ⟨by omega, by omega⟩ (by decide) ?_
      refine s_inc rfl rfl ?_
      refine am_s rfl rfl ?_
      refine am_lv [(2, _), (1, _), (0, _)] rfl rfl ⟨rfl, rfl, rfl, trivial⟩ ?_
      rw [s_zr_w s 161 (Int.natCast_nonneg k)]
      rw [s_zr_ge (Int.le_refl _)] at c2
      rw [show s_cnt (s 161) (k + 1) = s_cnt (s 161) k + (if s 161 k = 0 then 0 else 1) from rfl] at kk
      first | (rw [if_pos c2, Int.add_zero] at kk; exact kk) | (rw [if_neg c2] at kk; exact kk)
  · simp only
    refine am_s rfl rfl ?_
    refine s_k 20 rfl rfl ?_
    refine s_cge rfl ⟨by omega, by omega⟩ ⟨by omega, by omega⟩ (fun c1 => ?_) (fun c1 => absurd c1 (by omega))
    refine am_s rfl rfl ?_
    exact am_r rfl rfl ⟨rfl, rfl⟩
