/-! the pairing: costs are told -/
def tFr (s s' : am_S) : Prop := ∀ q, q ≠ 61 → ¬ (64 ≤ q ∧ q ≤ 83) → s' q = s q
def pcn (s : am_S) : Nat := (s 58 3).toNat
/-- the costs: distances, and the digits below them -/
def pcs (s : am_S) (L : Nat) (a b : Int) : Int := s (26 + 1 + (s 59 a).toNat) (s 59 b) * ((pcn s ^ L : Nat) : Int) + b * (((if a < (L : Int) then pcn s ^ (L - 1 - a.toNat) else 0) : Nat) : Int)
theorem t_minI {d : Nat} {h : am_H} {x y : Int} (hx : am_R x) (hy : am_R y) : am_wp d 221 0 (lv_args 0 [.int (iI x), .int (iI y)]) [] h (fun rv h2 => rv = some (.int (iI (if x ≤ y then x else y))) ∧ h2 = h) := by
  refine am_s rfl rfl ?_
  refine am_s rfl rfl ?_
  refine s_cgt rfl hx hy (fun c1 => ?_) (fun c1 => ?_)
  · refine am_s rfl rfl ?_
    exact am_r rfl rfl ⟨by rw [if_neg (by omega)], rfl⟩
  · refine am_s rfl rfl ?_
    refine am_s rfl rfl ?_
    exact am_r rfl rfl ⟨by rw [if_pos (by omega)], rfl⟩
theorem t_tellM {d : Nat} {E : am_Ev} {s : am_S} {a b c : Int} (g : am_Eg E) (ha : 0 ≤ a ∧ a < 20) (hb : 0 ≤ b ∧ b < 20) : am_wp d 25 0 (lv_args 0 [.ref 62, .int (iI a), .int (iI b), .long (lI c)]) [] (am_hp E s) (fun rv h => rv = none ∧ h = am_hp E (am_w (am_w s (63 + 1 + a.toNat) b (2 * c)) (63 + 1 + b.toNat) a (2 * c))) := by
  refine am_s rfl rfl ?_
  refine s_gr rfl g rfl rfl ?_
  refine am_s rfl rfl ?_
  refine s_aa5 rfl g rfl ⟨by omega, by omega⟩ (by decide) ?_
  refine am_s rfl rfl ?_
  refine s_kl 2 rfl rfl ?_
  refine am_s rfl rfl ?_
  refine s_lmul rfl ?_
  refine s_ls rfl g (lo_63 (by omega) (by omega)) ⟨by omega, by omega⟩ (by decide) ?_
  refine am_s rfl rfl ?_
  refine s_gr rfl g rfl rfl ?_
  refine am_s rfl rfl ?_
  refine s_aa5 rfl g rfl ⟨by omega, by omega⟩ (by decide) ?_
  refine am_s rfl rfl ?_
  refine s_kl 2 rfl rfl ?_
  refine am_s rfl rfl ?_
  refine s_lmul rfl ?_
  refine s_ls rfl g (lo_63 (by omega) (by omega)) ⟨by omega, by omega⟩ (by decide) ?_
  exact am_r rfl rfl ⟨rfl, rfl⟩
set_option maxHeartbeats 4000000 in
theorem t_tellCosts {d : Nat} {E : am_Ev} {s : am_S} {lv0 : Int} {L : Nat} (g : am_Eg E) (hn : 0 ≤ s 58 3 ∧ s 58 3 ≤ 20) (hl : 0 ≤ lv0 ∧ lv0 ≤ 6) (eL : (L : Int) = if lv0 ≤ s 58 3 then lv0 else s 58 3) (hr : ∀ i, 0 ≤ i → i < s 58 3 → 0 ≤ s 59 i ∧ s 59 i < 20) (hM : ∀ i j, 0 ≤ i → i < s 58 3 → 0 ≤ j → j < s 58 3 → am_R (s (26 + 1 + (s 59 i).toNat) (s 59 j))) : am_wp (d + 1) 74 0 (lv_args 0 [.ref 58, .ref 25, .int (iI lv0)]) [] (am_hp E s) (fun rv h => rv = none ∧ ∃ s', h = am_hp E s' ∧ tFr s s' ∧ (∀ i, 0 ≤ i → i < 20 → s' 61 i = (((if i < (L : Int) then pcn s ^ (L - 1 - i.toNat) else 0) : Nat) : Int)) ∧ ∀ a b, 0 ≤ a → a < b → b < s 58 3 → s' (63 + 1 + a.toNat) b = 2 * pcs s L a b ∧ s' (63 + 1 + b.toNat) a = 2 * pcs s L a b) := by
  have en : s 58 3 = (pcn s : Int) := by unfold pcn; omega
  have hL : (L : Int) ≤ 6 ∧ (L : Int) ≤ s 58 3 := by split at eL <;> omega
  refine s_kl 1 rfl rfl ?_
  refine am_s rfl rfl ?_
  refine am_s rfl rfl ?_
  refine s_gr rfl g rfl rfl ?_
  refine s_kl 0 rfl rfl ?_
  refine am_cs (As := [_, _]) (rest := []) rfl (Or.inl rfl) rfl rfl (Nat.le_of_ble_eq_true rfl) rfl (t_fillJ (n := 20) g rfl (by decide)) ?_
  rintro rv h1 ⟨rfl, s1, rfl, hF1, hV1⟩
  have e1 : s1 58 3 = s 58 3 := by rw [hF1 58 (by decide)]
  refine am_s rfl rfl ?_
  refine am_s rfl rfl ?_
  refine s_gi (x := 3) rfl g rfl rfl rfl ?_
  refine am_cs (As := [_, _]) (rest := []) rfl (Or.inl rfl) rfl rfl (Nat.le_of_ble_eq_true rfl) rfl (t_minI ⟨by omega, by omega⟩ ⟨by omega, by omega⟩) ?_
  rintro rv h1 ⟨rfl, rfl⟩
  rw [e1, ← eL]
  refine s_k 1 rfl rfl ?_
  refine s_isub rfl ?_
  refine am_s rfl rfl ?_
  refine am_lv [(5, .int (iI ((L : Int) - 1 - ((0 : Nat) : Int)))), (3, .long (lI ((pcn s ^ 0 : Nat) : Int))), (2, .int (iI lv0)), (1, .ref 25), (0, .ref 58)] rfl rfl ⟨by rw [show (L : Int) - 1 - ((0 : Nat) : Int) = (L : Int) - 1 by omega]; rfl, rfl, rfl, rfl, rfl, trivial⟩ ?_
  refine s_loop (X := Unit) (fun k _ s' => am_Fr [61] s s' ∧ (∀ i, 0 ≤ i → i < 20 → s' 61 i = if (L : Int) - 1 - (k : Int) < i ∧ i < (L : Int) then ((pcn s ^ (L - 1 - i.toNat) : Nat) : Int) else 0)) (fun k _ => [(5, .int (iI ((L : Int) - 1 - (k : Int)))), (3, .long (lI ((pcn s ^ k : Nat) : Int))), (2, .int (iI lv0)), (1, .ref 25), (0, .ref 58)]) (hi := L) (x := ()) (Nat.zero_le L) ⟨hF1, fun i i0 i1 => by rw [if_neg (by omega)]; exact hV1 i i0 i1⟩ ?_ ?_
  · rintro k - s2 hk0 hk1 ⟨hF2, hS2⟩ kk
    simp only at kk ⊢
    have e2 : s2 58 3 = s 58 3 := by rw [hF2 58 (by decide)]
    refine am_s rfl rfl ?_
    refine s_zlt rfl ⟨by omega, by omega⟩ (fun c1 => absurd c1 (by omega)) (fun c1 => ?_)
    refine am_s rfl rfl ?_
    refine s_gr rfl g rfl rfl ?_
    refine am_s rfl rfl ?_
    refine am_s rfl rfl ?_
    refine s_ls rfl g rfl ⟨by omega, by omega⟩ (by decide) ?_
    refine am_s rfl rfl ?_
    refine am_s rfl rfl ?_
    refine s_gi (x := 3) rfl g rfl rfl rfl ?_
    rw [am_w_row (show (58 : Nat) ≠ 61 by decide)]
    refine s_i2l rfl ⟨by omega, by omega⟩ ?_
    refine s_lmul rfl ?_
    refine am_s rfl rfl ?_
    refine s_inc rfl rfl ?_
    refine am_s rfl rfl ?_
    rw [show (L : Int) - 1 - (k : Int) + -1 = (L : Int) - 1 - ((k + 1 : Nat) : Int) by omega]
    skip
    refine am_lv [(5, .int (iI ((L : Int) - 1 - ((k + 1 : Nat) : Int)))), (3, .long (lI ((pcn s ^ (k + 1) : Nat) : Int))), (2, .int (iI lv0)), (1, .ref 25), (0, .ref 58)] rfl rfl ⟨rfl, by rw [show ((pcn s ^ (k + 1) : Nat) : Int) = ((pcn s ^ k : Nat) : Int) * s2 58 3 by rw [e2, en, Nat.pow_succ, Int.natCast_mul]]; rfl, rfl, rfl, rfl, trivial⟩ ?_
    refine kk () _ ⟨am_Fr_W hF2 (by decide), fun i i0 i1 => ?_⟩
    by_cases c : i = (L : Int) - 1 - (k : Int)
    · rw [c, am_w_eq, if_pos (by omega), show L - 1 - ((L : Int) - 1 - (k : Int)).toNat = k by omega]
    · rw [am_w_x c, hS2 i i0 i1]
      by_cases c2 : (L : Int) - 1 - (k : Int) < i ∧ i < (L : Int)
      · rw [if_pos c2, if_pos (by omega)]
      · rw [if_neg c2, if_neg (by omega)]
  · rintro - s2 ⟨hF2, hS2⟩
    simp only
    have e2 : s2 58 3 = s 58 3 := by rw [hF2 58 (by decide)]
    refine am_s rfl rfl ?_
    refine s_zlt rfl ⟨by omega, by omega⟩ (fun c1 => ?_) (fun c1 => absurd c1 (by omega))
    refine s_k 0 rfl rfl ?_
    refine am_s rfl rfl ?_
    have hS3 : (∀ i, 0 ≤ i → i < 20 → s2 61 i = (((if i < (L : Int) then pcn s ^ (L - 1 - i.toNat) else 0) : Nat) : Int)) := fun i i0 i1 => by
      rw [hS2 i i0 i1]
      by_cases c : i < (L : Int)
      · rw [if_pos (by omega), if_pos c]
      · rw [if_neg (by omega), if_neg c]; rfl
    have t2 : tFr s s2 := fun q q1 q2 => hF2 q (fun z => q1 (List.mem_singleton.mp z))
    have n58 : s2 58 3 = (pcn s : Int) := by omega
    refine am_lv [(5, .int (iI (((0 : Nat) : Int) : Int))), (3, .long (lI ((pcn s ^ L : Nat) : Int))), (1, .ref 25), (0, .ref 58)] rfl rfl ⟨rfl, rfl, rfl, rfl, trivial⟩ ?_
    refine s_loop (X := Unit) (fun k _ s' => tFr s s' ∧ (∀ i, 0 ≤ i → i < 20 → s' 61 i = (((if i < (L : Int) then pcn s ^ (L - 1 - i.toNat) else 0) : Nat) : Int)) ∧ (∀ a b, 0 ≤ a → a < b → b < s 58 3 → (a < (k : Int) ∨ a = (k : Int) ∧ b < 0) → s' (63 + 1 + a.toNat) b = 2 * pcs s L a b ∧ s' (63 + 1 + b.toNat) a = 2 * pcs s L a b)) (fun k _ => [(5, .int (iI (k : Int))), (3, .long (lI ((pcn s ^ L : Nat) : Int))), (1, .ref 25), (0, .ref 58)]) (hi := pcn s) (x := ()) (Nat.zero_le _) ⟨t2, hS3, fun a b a0 ab b1 z => by omega⟩ ?_ ?_
    · rintro k - s3 hk0 hk1 ⟨t3, hS4, hC3⟩ kk
      simp only at kk ⊢
      have e3 : s3 58 3 = s 58 3 := by rw [t3 58 (by decide) (by decide)]
      refine am_s rfl rfl ?_
      refine am_s rfl rfl ?_
      refine s_gi (x := 3) rfl g rfl rfl rfl ?_
      refine s_cge rfl ⟨by omega, by omega⟩ ⟨by omega, by omega⟩ (fun c1 => absurd c1 (by omega)) (fun c1 => ?_)
      refine am_s rfl rfl ?_
      refine s_k 1 rfl rfl ?_
      refine s_iadd rfl ?_
      refine am_s rfl rfl ?_
      refine am_lv [(6, .int (iI (((k + 1 : Nat) : Int) : Int))), (5, .int (iI (k : Int))), (3, .long (lI ((pcn s ^ L : Nat) : Int))), (1, .ref 25), (0, .ref 58)] rfl rfl ⟨rfl, rfl, rfl, rfl, rfl, trivial⟩ ?_
      refine s_loop (X := Unit) (fun j _ s' => tFr s s' ∧ (∀ i, 0 ≤ i → i < 20 → s' 61 i = (((if i < (L : Int) then pcn s ^ (L - 1 - i.toNat) else 0) : Nat) : Int)) ∧ (∀ a b, 0 ≤ a → a < b → b < s 58 3 → (a < (k : Int) ∨ a = (k : Int) ∧ b < (j : Int)) → s' (63 + 1 + a.toNat) b = 2 * pcs s L a b ∧ s' (63 + 1 + b.toNat) a = 2 * pcs s L a b)) (fun j _ => [(6, .int (iI (j : Int))), (5, .int (iI (k : Int))), (3, .long (lI ((pcn s ^ L : Nat) : Int))), (1, .ref 25), (0, .ref 58)]) (lo := k + 1) (hi := pcn s) (x := ()) (by omega) ⟨t3, hS4, fun a b a0 ab b1 z => hC3 a b a0 ab b1 (by omega)⟩ ?_ ?_
      · rintro j - s4 hj0 hj1 ⟨t4, hS5, hC4⟩ kk2
        simp only at kk2 ⊢
        have e4 : s4 58 3 = s 58 3 := by rw [t4 58 (by decide) (by decide)]
        have e59 : s4 59 = s 59 := t4 59 (by decide) (by decide)
        have r1 := hr k (by omega) (by omega)
        have r2 := hr j (by omega) (by omega)
        have q1 : s4 59 k = s 59 k := by rw [e59]
        have q2 : s4 59 j = s 59 j := by rw [e59]
        have em : s4 (26 + 1 + (s 59 k).toNat) (s 59 j) = s (26 + 1 + (s 59 k).toNat) (s 59 j) := by rw [t4 _ (by omega) (by omega)]
        have hmx := hM k j (by omega) (by omega) (by omega) (by omega)
        unfold am_R at hmx
        refine am_s rfl rfl ?_
        refine am_s rfl rfl ?_
        refine s_gi (x := 3) rfl g rfl rfl rfl ?_
        refine s_cge rfl ⟨by omega, by omega⟩ ⟨by omega, by omega⟩ (fun c1 => absurd c1 (by omega)) (fun c1 => ?_)
        refine am_s rfl rfl ?_
        refine s_gr rfl g rfl rfl ?_
        refine am_s rfl rfl ?_
        refine s_gr rfl g rfl rfl ?_
        refine am_s rfl rfl ?_
        refine s_ia rfl g rfl ⟨by omega, by omega⟩ (by decide) ?_
        rw [q1]
        refine s_aa rfl g rfl ⟨by omega, by omega⟩ (by decide) ?_
        refine am_s rfl rfl ?_
        refine s_gr rfl g rfl rfl ?_
        refine am_s rfl rfl ?_
        refine s_ia rfl g rfl ⟨by omega, by omega⟩ (by decide) ?_
        rw [q2]
        refine s_ia rfl g (lo_26 (by omega) (by omega)) ⟨by omega, by omega⟩ (by decide) ?_
        rw [em]
        refine s_i2l rfl ⟨by omega, by omega⟩ ?_
        refine am_s rfl rfl ?_
        refine am_s rfl rfl ?_
        refine s_gr rfl g rfl rfl ?_
        refine am_s rfl rfl ?_
        refine am_s rfl rfl ?_
        refine am_s rfl rfl ?_
        refine am_s rfl rfl ?_
        refine s_lmul rfl ?_
        refine am_s rfl rfl ?_
        refine s_i2l rfl ⟨by omega, by omega⟩ ?_
        refine am_s rfl rfl ?_
        refine s_gr rfl g rfl rfl ?_
        refine am_s rfl rfl ?_
        refine s_la rfl g rfl ⟨by omega, by omega⟩ (by decide) ?_
        refine s_lmul rfl ?_
        refine s_ladd rfl ?_
        refine s_cv [_, _, _] [] rfl g (Or.inl rfl) rfl rfl (Nat.le_of_ble_eq_true rfl) rfl rfl (t_tellM (s := s4) g ⟨by omega, by omega⟩ ⟨by omega, by omega⟩) ?_
        rintro rv h1 ⟨rfl, rfl⟩
        refine s_inc rfl rfl ?_
        refine am_s rfl rfl ?_
        refine am_lv [(6, _), (5, _), (3, _), (1, _), (0, _)] rfl rfl ⟨rfl, rfl, rfl, rfl, rfl, trivial⟩ ?_
        have ev : s (26 + 1 + (s 59 k).toNat) (s 59 j) * ((pcn s ^ L : Nat) : Int) + (j : Int) * s4 61 k = pcs s L k j := by
          unfold pcs
          rw [hS5 k (by omega) (by omega)]
        rw [ev]
        refine kk2 () _ ⟨fun q q1 q2 => ?_, fun i i0 i1 => ?_, fun a b a0 ab b1 z => ?_⟩
        · rw [am_w_row (by omega), am_w_row (by omega)]; exact t4 q q1 q2
        · rw [am_w_row (by omega), am_w_row (by omega)]; exact hS5 i i0 i1
        · by_cases c : a = (k : Int) ∧ b = (j : Int)
          · rw [c.1, c.2]
            refine ⟨?_, ?_⟩
            · rw [am_w_row (by omega), am_w_eq]
            · rw [am_w_eq]
          · have q := hC4 a b a0 ab b1 (by omega)
            refine ⟨?_, ?_⟩
            · rw [← q.1]
              unfold am_w
              rw [if_neg (by omega), if_neg (by omega)]
            · rw [← q.2]
              unfold am_w
              rw [if_neg (by omega), if_neg (by omega)]
      · rintro - s4 ⟨t4, hS5, hC4⟩
        simp only
        have e4 : s4 58 3 = s 58 3 := by rw [t4 58 (by decide) (by decide)]
        refine am_s rfl rfl ?_
        refine am_s rfl rfl ?_
        refine s_gi (x := 3) rfl g rfl rfl rfl ?_
        refine s_cge rfl ⟨by omega, by omega⟩ ⟨by omega, by omega⟩ (fun c1 => ?_) (fun c1 => absurd c1 (by omega))
        refine s_inc rfl rfl ?_
        refine am_s rfl rfl ?_
        refine am_lv [(5, _), (3, _), (1, _), (0, _)] rfl rfl ⟨rfl, rfl, rfl, rfl, trivial⟩ ?_
        exact kk () _ ⟨t4, hS5, fun a b a0 ab b1 z => hC4 a b a0 ab b1 (by omega)⟩
    · rintro - s3 ⟨t3, hS4, hC3⟩
      simp only
      have e3 : s3 58 3 = s 58 3 := by rw [t3 58 (by decide) (by decide)]
      refine am_s rfl rfl ?_
      refine am_s rfl rfl ?_
      refine s_gi (x := 3) rfl g rfl rfl rfl ?_
      refine s_cge rfl ⟨by omega, by omega⟩ ⟨by omega, by omega⟩ (fun c1 => ?_) (fun c1 => absurd c1 (by omega))
      exact am_r rfl rfl ⟨rfl, s3, rfl, t3, hS4, fun a b a0 ab b1 => hC3 a b a0 ab b1 (Or.inl (by omega))⟩
