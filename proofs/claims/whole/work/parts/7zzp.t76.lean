/-! the pairing: one round of costs and solving -/
theorem pw_20 {n L k : Nat} (hn : n ≤ 20) (hL : L ≤ 6) (hk : k ≤ L) : n ^ k ≤ 64000000 := by
  have a : n ^ k ≤ 20 ^ k := Nat.pow_le_pow_left hn k
  have b : 20 ^ k ≤ 20 ^ 6 := Nat.pow_le_pow_right (by decide) (by omega)
  have c : (20 : Nat) ^ 6 = 64000000 := rfl
  omega
theorem pcs_b {s : am_S} {L : Nat} {a b : Int} (hn : pcn s ≤ 20) (hL : L ≤ 6) (h0 : 0 ≤ s (26 + 1 + (s 59 a).toNat) (s 59 b) ∧ s (26 + 1 + (s 59 a).toNat) (s 59 b) < 2147483648) (hb : 0 ≤ b ∧ b < 20) : 0 ≤ pcs s L a b ∧ pcs s L a b < 200000000000000000 := by
  have p1 := pw_20 hn hL (Nat.le_refl L)
  have p2 : (if a < (L : Int) then pcn s ^ (L - 1 - a.toNat) else 0) ≤ 64000000 := by
    split
    · exact pw_20 hn hL (by omega)
    · omega
  unfold pcs
  generalize pcn s ^ L = P at p1 ⊢
  generalize (if a < (L : Int) then pcn s ^ (L - 1 - a.toNat) else 0) = Q at p2 ⊢
  generalize s (26 + 1 + (s 59 a).toNat) (s 59 b) = F at h0 ⊢
  have m1 : 0 ≤ F * (P : Int) := Int.mul_nonneg h0.1 (by omega)
  have m2 : F * (P : Int) ≤ 2147483647 * 64000000 := Int.mul_le_mul (by omega) (by omega) (by omega) (by omega)
  have m3 : 0 ≤ b * (Q : Int) := Int.mul_nonneg hb.1 (by omega)
  have m4 : b * (Q : Int) ≤ 20 * 64000000 := Int.mul_le_mul (by omega) (by omega) (by omega) (by omega)
  omega
theorem mC_mk {s s2 : am_S} {L : Nat} (hn : 0 ≤ s 58 3 ∧ s 58 3 ≤ 20) (hL : L ≤ 6) (hM : ∀ i j, 0 ≤ i → i < s 58 3 → 0 ≤ j → j < s 58 3 → 0 ≤ s (26 + 1 + (s 59 i).toNat) (s 59 j) ∧ s (26 + 1 + (s 59 i).toNat) (s 59 j) < 2147483648) (hC : ∀ a b, 0 ≤ a → a < b → b < s 58 3 → s2 (63 + 1 + a.toNat) b = 2 * pcs s L a b ∧ s2 (63 + 1 + b.toNat) a = 2 * pcs s L a b) : mC (am_w s2 62 0 (s 58 3)) := by
  have hp : pcn s ≤ 20 := by unfold pcn; omega
  refine ⟨by rw [am_w_eq]; exact hn, fun a b a0 a1 b0 b1 ne => ?_⟩
  rw [am_w_eq] at a1 b1
  rw [am_w_row (by omega), am_w_row (by omega)]
  rcases Int.lt_or_le a b with c | c
  · have z := hC a b a0 c b1
    have q := pcs_b hp hL (hM a b a0 a1 b0 b1) (b := b) ⟨b0, by omega⟩
    omega
  · have z := hC b a b0 (by omega) a1
    have q := pcs_b hp hL (hM b a b0 b1 a0 a1) (b := a) ⟨a0, by omega⟩
    omega
/-- what stands once the matcher has solved -/
theorem sv_all {s s2 s3 : am_S} {L : Nat} {t : Int} (hn : 0 ≤ s 58 3 ∧ s 58 3 ≤ 20) (hC : ∀ a b, 0 ≤ a → a < b → b < s 58 3 → s2 (63 + 1 + a.toNat) b = 2 * pcs s L a b ∧ s2 (63 + 1 + b.toNat) a = 2 * pcs s L a b) (hQ : mQ s3 t) (hall : ∀ v, 0 ≤ v → v < s 58 3 → s3 85 v ≠ -1) (hF : mFr (am_w s2 62 0 (s 58 3)) s3) : s3 62 0 = s 58 3 ∧ (∀ i, 0 ≤ i → i < s 58 3 → 0 ≤ s3 85 i ∧ s3 85 i < s 58 3 ∧ s3 85 i ≠ i ∧ s3 85 (s3 85 i) = i) ∧ mt_opt (fun i j => pcs s L i j) (pcn s) mt_all (fun i => (s3 85 (i : Int)).toNat) ∧ mt_s (paf s3) (pcn s) - mt_s (pbf s3) 10 = 2 * mt_co (fun i j => pcs s L i j) (pcn s) mt_all (fun i => (s3 85 (i : Int)).toNat) := by
  have e0 : s3 62 0 = s 58 3 := by rw [hF.2, am_w_eq]
  have n1 : (mS s3).n = s3 62 0 := rfl
  have eN : (mS s3).n.toNat = pcn s := by rw [n1, e0]; rfl
  have eC : ∀ v, 0 ≤ v → v < s 58 3 → (mS s3).C v = s2 (63 + 1 + v.toNat) := fun v v0 v1 => by
    show mrow s3 63 20 v = _
    rw [mrow_in v0 (by omega), hF.1 _ (Or.inr (Or.inl ⟨by omega, by omega⟩)), am_w_row (by omega)]
  obtain ⟨o1, o2⟩ := b_opt (c := fun i j => pcs s L i j) hQ.st hQ.nd hQ.ma hQ.du (fun v v0 v1 => hall v v0 (by omega)) (fun i j ij jn => by
    rw [eC i (by omega) (by omega), eC j (by omega) (by omega)]
    exact hC i j (by omega) (by omega) (by omega))
  rw [eN] at o1 o2
  refine ⟨e0, fun i i0 i1 => ?_, o1, ?_⟩
  · rcases hQ.ma i i0 (by omega) with z | ⟨a1, a2, a3, a4, -⟩
    · exact absurd z (hall i i0 i1)
    · have a2 : s3 85 i < s3 62 0 := a2
      exact ⟨a1, by omega, a3, a4⟩
  · have e1 : mt_s (fun i => (mS s3).p i) (pcn s) = mt_s (paf s3) (pcn s) := rfl
    have e2 : mt_s (fun k => bzk (mS s3) k * (mt_sz (bme (mS s3)) (pcn s) k - 1)) 10 = 2 * mt_s (pbf s3) 10 := by
      classical
      rw [← mt_s_mul]
      refine mt_s_congr (fun k hk => ?_)
      have sz := b_sz hQ.st k
      rw [eN] at sz
      have w := hQ.w1 (20 + (k : Int)) (by omega) (by omega)
      have ps := pc_sz (s := s3) (x := 20 + (k : Int)) ⟨by omega, by omega⟩ w
      unfold bzk pbf
      by_cases c : bU (mS s3) (20 + (k : Int))
      · have u := (mU_iff ⟨by omega, by omega⟩ w).mp c
        rw [if_pos c, if_pos u, sz, ps]
        obtain ⟨r, hr⟩ := (b_in hQ.st hQ.nd hQ.ma (fun v v0 v1 => hall v v0 (by omega)) c).2
        rw [eN, sz] at hr
        rw [hr]
        show s3 84 (20 + (k : Int)) * (2 * r + 1 - 1) = 2 * (s3 84 (20 + (k : Int)) * ((2 * r + 1 - 1) / 2))
        rw [show 2 * r + 1 - 1 = 2 * r by omega, show 2 * r / 2 = r by omega, Int.mul_left_comm]
      · have u : ¬ s3 87 (20 + (k : Int)) ≠ 0 := fun z => c ((mU_iff ⟨by omega, by omega⟩ w).mpr z)
        rw [if_neg c, if_neg u]; omega
    rw [e1, e2] at o2
    have e3 : mt_co (fun i j => pcs s L i j) (pcn s) mt_all (fun i => ((mS s3).mate (i : Int)).toNat) = mt_co (fun i j => pcs s L i j) (pcn s) mt_all (fun i => (s3 85 (i : Int)).toNat) := rfl
    omega
