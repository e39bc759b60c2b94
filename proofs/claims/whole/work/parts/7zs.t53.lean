/-! the matcher: how it begins -/
def mH (s : am_S) (x v : Int) : Prop := (0 ≤ x ∧ x < 30 ∧ 0 ≤ v ∧ v < 20) ∧ bt (s 87 x) v = 1
def mrow (s : am_S) (a : Nat) (m v : Int) : Int → Int := if 0 ≤ v ∧ v < m then s (a + 1 + v.toNat) else fun _ => 0
def mS (s : am_S) : bS := (⟨s 62 0, mrow s 63 20, s 84, s 85, s 86, s 88, s 89, s 90, s 91, mH s, fun b => s 92 (b - 20), fun b => s 93 (b - 20), fun b => mrow s 94 10 (b - 20), fun b => mrow s 105 10 (b - 20), fun b => mrow s 116 10 (b - 20)⟩ : bS)
def mW (s : am_S) : Prop := (∀ x, 0 ≤ x → x < 30 → 0 ≤ s 87 x ∧ s 87 x < 1048576) ∧ ∀ x, 0 ≤ x → x < 30 → 0 ≤ s 89 x ∧ s 89 x ≤ 2
theorem mU_iff {s : am_S} {x : Int} (hx : 0 ≤ x ∧ x < 30) (hr : 0 ≤ s 87 x ∧ s 87 x < 1048576) : bU (mS s) x ↔ s 87 x ≠ 0 := by
  refine ⟨fun ⟨v, hv⟩ z => ?_, fun h => ?_⟩
  · have q := hv.2
    rw [z] at q
    unfold bt at q
    rw [show ((0 : Int)).toNat = 0 from rfl, Nat.zero_testBit] at q
    exact absurd q (by decide)
  · obtain ⟨a, h1, h2⟩ := mt_lo_ex (s := (s 87 x).toNat) (by omega)
    have lt := mt_bit_lt (k := 20) (by show (s 87 x).toNat < 1048576; omega) h1
    refine ⟨a, ⟨hx.1, hx.2, by omega, by omega⟩, ?_⟩
    unfold bt
    rw [Int.toNat_natCast, h1]; rfl
/-- what stands of the costs -/
def mC (s : am_S) : Prop := (0 ≤ s 62 0 ∧ s 62 0 ≤ 20) ∧ ∀ a b, 0 ≤ a → a < s 62 0 → 0 ≤ b → b < s 62 0 → a ≠ b → (0 ≤ s (63 + 1 + a.toNat) b ∧ s (63 + 1 + a.toNat) b < 1000000000000000000) ∧ s (63 + 1 + a.toNat) b % 2 = 0 ∧ s (63 + 1 + a.toNat) b = s (63 + 1 + b.toNat) a
theorem t_minJ {d : Nat} {h : am_H} {x y : Int} (hx : am_Q x) (hy : am_Q y) : am_wp d 222 0 (lv_args 0 [.long (lI x), .long (lI y)]) [] h (fun rv h2 => rv = some (.long (lI (if x ≤ y then x else y))) ∧ h2 = h) := by
  refine am_s rfl rfl ?_
  refine am_s rfl rfl ?_
  refine s_jgt rfl rfl hx hy (fun c1 => ?_) (fun c1 => ?_)
  · refine am_s rfl rfl ?_
    exact am_r rfl rfl ⟨by rw [if_neg (by omega)], rfl⟩
  · refine am_s rfl rfl ?_
    refine am_s rfl rfl ?_
    exact am_r rfl rfl ⟨by rw [if_pos (by omega)], rfl⟩
theorem t_leastCost {d : Nat} {E : am_Ev} {s : am_S} {PP : Option Value → am_H → Prop} (g : am_Eg E) (hC : mC s) (hPP : ∀ f : Int, (∀ a b, 0 ≤ a → a < b → b < s 62 0 → f ≤ s (63 + 1 + (a).toNat) (b)) → (f = 9223372036854775807 ∨ ∃ a b, 0 ≤ a ∧ a < b ∧ b < s 62 0 ∧ f = s (63 + 1 + (a).toNat) (b)) → PP (some (.long (lI f))) (am_hp E s)) : am_wp (d + 1) 28 0 (lv_args 0 [.ref 62]) [] (am_hp E s) PP := by
  obtain ⟨n0, hc⟩ := hC
  obtain ⟨n, en⟩ : ∃ n : Nat, s 62 0 = n := ⟨(s 62 0).toNat, by omega⟩
  refine s_kl 9223372036854775807 rfl rfl ?_
  refine am_s rfl rfl ?_
  refine s_k 0 rfl rfl ?_
  refine am_s rfl rfl ?_
  refine am_lv [(3, .int (iI (((0 : Nat) : Int) : Int))), (1, .long (lI 9223372036854775807)), (0, .ref 62)] rfl rfl ⟨rfl, rfl, rfl, trivial⟩ ?_
  refine s_loop (X := Int) (fun k f s' => s = s' ∧ (∀ a b, 0 ≤ a → a < (k : Int) → a < b → b < s 62 0 → f ≤ s (63 + 1 + (a : Int).toNat) (b)) ∧ (f = 9223372036854775807 ∨ ∃ a b, 0 ≤ a ∧ a < b ∧ b < s 62 0 ∧ f = s (63 + 1 + (a : Int).toNat) (b))) (fun k f => [(3, .int (iI (k : Int))), (1, .long (lI f)), (0, .ref 62)]) (hi := n) (x := 9223372036854775807) (Nat.zero_le n) ⟨rfl, fun a b a0 a1 => by omega, Or.inl rfl⟩ ?_ ?_
  · rintro k f s1 hk0 hk ⟨rfl, hQ⟩ kk
    simp only at kk ⊢
    refine am_s rfl rfl ?_
    refine am_s rfl rfl ?_
    refine s_gi (x := 0) rfl g rfl rfl rfl ?_
    refine s_cge rfl ⟨by omega, by omega⟩ ⟨by omega, by omega⟩ (fun c1 => absurd c1 (by omega)) (fun c1 => ?_)
    refine am_s rfl rfl ?_
    refine s_k 1 rfl rfl ?_
    refine s_iadd rfl ?_
    refine am_s rfl rfl ?_
    refine am_lv [(4, .int (iI (((k + 1 : Nat) : Int) : Int))), (3, .int (iI (k : Int))), (1, .long (lI f)), (0, .ref 62)] rfl rfl ⟨rfl, rfl, rfl, rfl, trivial⟩ ?_
    refine s_loop (X := Int) (fun j f s' => s = s' ∧ ((∀ a b, 0 ≤ a → a < (k : Int) → a < b → b < s 62 0 → f ≤ s (63 + 1 + (a : Int).toNat) (b)) ∧ (f = 9223372036854775807 ∨ ∃ a b, 0 ≤ a ∧ a < b ∧ b < s 62 0 ∧ f = s (63 + 1 + (a : Int).toNat) (b))) ∧ ∀ b, (k : Int) < b → b < (j : Int) → f ≤ s (63 + 1 + (k : Int).toNat) (b)) (fun j f => [(4, .int (iI (j : Int))), (3, .int (iI (k : Int))), (1, .long (lI f)), (0, .ref 62)]) (lo := k + 1) (hi := n) (x := f) (by omega) ⟨rfl, hQ, fun b a1 a2 => by omega⟩ ?_ ?_
    · rintro j f s2 hj0 hj ⟨rfl, hQ2, hJ⟩ kk2
      simp only at kk2 ⊢
      refine am_s rfl rfl ?_
      refine am_s rfl rfl ?_
      refine s_gi (x := 0) rfl g rfl rfl rfl ?_
      refine s_cge rfl ⟨by omega, by omega⟩ ⟨by omega, by omega⟩ (fun c1 => absurd c1 (by omega)) (fun c1 => ?_)
      refine am_s rfl rfl ?_
      refine am_s rfl rfl ?_
      refine s_gr rfl g rfl rfl ?_
      refine am_s rfl rfl ?_
      refine s_aa5 rfl g rfl ⟨by omega, by omega⟩ (by decide) ?_
      refine am_s rfl rfl ?_
      refine s_la rfl g (lo_63 (by omega) (by omega)) ⟨by omega, by omega⟩ (by decide) ?_
      have hc1 := hc k j (by omega) (by omega) (by omega) (by omega) (by omega)
      have hf2 : am_Q f := by
        rcases hQ2.2 with z | ⟨a, b, a0, ab, b1, z⟩
        · rw [z]; exact ⟨by decide, by decide⟩
        · have := hc a b (by omega) (by omega) (by omega) b1 (by omega)
          rw [z]; exact ⟨by omega, by omega⟩
      refine am_cs (As := [_, _]) (rest := []) rfl (Or.inl rfl) rfl rfl (Nat.le_of_ble_eq_true rfl) rfl (t_minJ hf2 ⟨by omega, by omega⟩) ?_
      rintro rv h1 ⟨rfl, rfl⟩
      refine am_s rfl rfl ?_
      refine s_inc rfl rfl ?_
      refine am_s rfl rfl ?_
      refine am_lv [(4, _), (3, _), (1, _), (0, _)] rfl rfl ⟨rfl, rfl, rfl, rfl, trivial⟩ ?_
      refine kk2 _ _ ⟨rfl, ⟨fun a b a0 a1 ab b1 => ?_, ?_⟩, fun b b0 b1 => ?_⟩
      · have := hQ2.1 a b a0 a1 ab b1
        split <;> omega
      · split
        · exact hQ2.2
        · exact Or.inr ⟨k, j, by omega, by omega, by omega, rfl⟩
      · by_cases e : b = (j : Int)
        · rw [e]; split <;> omega
        · have := hJ b b0 (by omega)
          split <;> omega
    · rintro f s2 ⟨rfl, hQ2, hJ⟩
      simp only
      refine am_s rfl rfl ?_
      refine am_s rfl rfl ?_
      refine s_gi (x := 0) rfl g rfl rfl rfl ?_
      refine s_cge rfl ⟨by omega, by omega⟩ ⟨by omega, by omega⟩ (fun c1 => ?_) (fun c1 => absurd c1 (by omega))
      refine s_inc rfl rfl ?_
      refine am_s rfl rfl ?_
      refine am_lv [(3, _), (1, _), (0, _)] rfl rfl ⟨rfl, rfl, rfl, trivial⟩ ?_
      refine kk _ _ ⟨rfl, fun a b a0 a1 ab b1 => ?_, hQ2.2⟩
      by_cases e : a = (k : Int)
      · rw [e]; exact hJ b (by omega) (by omega)
      · exact hQ2.1 a b a0 (by omega) ab b1
  · rintro f s1 ⟨rfl, hQ⟩
    simp only
    refine am_s rfl rfl ?_
    refine am_s rfl rfl ?_
    refine s_gi (x := 0) rfl g rfl rfl rfl ?_
    refine s_cge rfl ⟨by omega, by omega⟩ ⟨by omega, by omega⟩ (fun c1 => ?_) (fun c1 => absurd c1 (by omega))
    refine am_s rfl rfl ?_
    exact am_r rfl rfl (hPP f (fun a b a0 ab b1 => hQ.1 a b a0 (by omega) ab b1) hQ.2)
