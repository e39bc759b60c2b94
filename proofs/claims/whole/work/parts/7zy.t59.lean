/-! the matcher: where two ways meet -/
theorem bAbn_m1 {S : bS} {x : Int} {k : Nat} (h : bAbn S x k = -1) {j : Nat} (hj : k ≤ j) : bAbn S x j = -1 := by
  by_cases c : bAbn S x j = -1
  · exact c
  · exact absurd h (bAbn_le c hj)
set_option maxHeartbeats 4000000 in
theorem t_meetingOf {d : Nat} {E : am_Ev} {s : am_S} {rk : Int → Int} {a b : Int} {PP : Option Value → am_H → Prop} (g : am_Eg E) (h : mB s rk) (ha : bOut (mS s) a) (hb : bOut (mS s) b) (hN : (∀ i j : Nat, bAbn (mS s) a (i) ≠ -1 → bAbn (mS s) a (i) ≠ bAbn (mS s) b (j)) → PP (some (.int (iI (-1)))) (am_hp E s)) (hY : ∀ kd ku : Nat, bAbn (mS s) a (kd) ≠ -1 → bAbn (mS s) b (ku) = bAbn (mS s) a (kd) → (∀ i j : Nat, bAbn (mS s) a (i) ≠ -1 → j < ku → bAbn (mS s) a (i) ≠ bAbn (mS s) b (j)) → PP (some (.int (iI (bAbn (mS s) a (kd))))) (am_hp E s)) : am_wp (d + 1) 41 0 (lv_args 0 [.ref 62, .int (iI a), .int (iI b)]) [] (am_hp E s) PP := by
  have j42 : ∀ se : Int, (0 ≤ se ∧ se < 2147483648) → (∀ y, 0 ≤ y → y < 30 → (bt se y = 1 ↔ ∃ i : Nat, bAbn (mS s) a (i) = y)) → am_wp (d + 1) 41 42 [(3, .int (iI se)), (2, .int (iI b)), (1, .int (iI a)), (0, .ref 62)] [] (am_hp E s) PP := by
    intro se hsr hse
    refine am_s rfl rfl ?_
    refine am_s rfl rfl ?_
    refine s_k 0 rfl rfl ?_
    refine am_s rfl rfl ?_
    refine am_lv [(5, .int (iI (((0 : Nat) : Int) : Int))), (4, .int (iI (bAbn (mS s) b (0)))), (3, .int (iI se)), (2, .int (iI b)), (1, .int (iI a)), (0, .ref 62)] rfl rfl ⟨rfl, rfl, rfl, rfl, rfl, rfl, trivial⟩ ?_
    refine s_loop (X := Unit) (fun k _ s' => s = s' ∧ ∀ i j : Nat, j < k → bAbn (mS s) a (i) ≠ -1 → bAbn (mS s) a (i) ≠ bAbn (mS s) b (j)) (fun k _ => [(5, .int (iI (k : Int))), (4, .int (iI (bAbn (mS s) b (k)))), (3, .int (iI se)), (2, .int (iI b)), (1, .int (iI a)), (0, .ref 62)]) (hi := 30) (x := ()) (by omega) ⟨rfl, fun i j hj => absurd hj (Nat.not_lt_zero _)⟩ ?_ ?_
    · rintro k - s1 hk0 hk1 ⟨rfl, hQ⟩ kk
      simp only at kk ⊢
      have hbr : am_R (bAbn (mS s) b (k)) := by
        by_cases q : bAbn (mS s) b (k) = -1
        · rw [q]; exact ⟨by decide, by decide⟩
        · have := bOut_0 h.st (b_abn h.st h.nd h.ma h.tr hb k q).1
          exact ⟨by omega, by omega⟩
      have hbr2 := hbr
      unfold am_R at hbr2
      refine am_s rfl rfl ?_
      refine s_k 30 rfl rfl ?_
      refine s_cge rfl ⟨by omega, by omega⟩ ⟨by omega, by omega⟩ (fun c1 => absurd c1 (by omega)) (fun c1 => ?_)
      refine am_s rfl rfl ?_
      refine s_k (-1) rfl rfl ?_
      refine s_ceq rfl hbr ⟨by omega, by omega⟩ (fun c2 => ?_) (fun c2 => ?_)
      · refine s_k (-1) rfl rfl ?_
        exact am_r rfl rfl (hN (fun i j hi z => by
          by_cases c : j < k
          · exact hQ i j c hi z
          · rw [bAbn_m1 (show bAbn (mS s) b (k) = -1 by omega) (Nat.le_of_not_lt c)] at z; exact hi z))
      · have ne : bAbn (mS s) b (k) ≠ -1 := by omega
        have ob := (b_abn h.st h.nd h.ma h.tr hb k ne).1
        have ob0 := bOut_0 h.st ob
        have hbt := bt_01 se (bAbn (mS s) b (k))
        have hb2 : am_R (bt se (bAbn (mS s) b (k))) := ⟨by omega, by omega⟩
        refine am_s rfl rfl ?_
        refine am_s rfl rfl ?_
        refine s_bit rfl rfl rfl hsr ⟨by omega, by omega⟩ ?_
        refine s_zeq rfl hb2 (fun c3 => ?_) (fun c3 => ?_)
        · refine am_s rfl rfl ?_
          refine am_s rfl rfl ?_
          refine s_cv [_] [] rfl g (Or.inl rfl) rfl rfl (Nat.le_of_ble_eq_true rfl) rfl rfl (t_ab g h ob) ?_
          rintro rv h1 ⟨rfl, rfl⟩
          rw [show bAb (mS s) (bAbn (mS s) b (k)) = bAbn (mS s) b (k + 1) from (if_neg ne).symm]
          refine am_s rfl rfl ?_
          refine s_inc rfl rfl ?_
          refine am_s rfl rfl ?_
          refine am_lv [(5, _), (4, _), (3, _), (2, _), (1, _), (0, _)] rfl rfl ⟨rfl, rfl, rfl, rfl, rfl, rfl, trivial⟩ ?_
          refine kk () _ ⟨rfl, fun i j hj hi => ?_⟩
          by_cases e : j = k
          · rw [e]; intro z; have := (hse (bAbn (mS s) b (k)) (by omega) (by omega)).mpr ⟨i, z⟩; omega
          · exact hQ i j (by omega) hi
        · refine am_s rfl rfl ?_
          obtain ⟨kd, hkd⟩ := (hse (bAbn (mS s) b (k)) (by omega) (by omega)).mp (by omega)
          have q := hY kd k (by rw [hkd]; exact ne) hkd.symm (fun i j hi hj => hQ i j hj hi)
          rw [hkd] at q
          exact am_r rfl rfl q
    · rintro - s1 ⟨rfl, hQ⟩
      simp only
      refine am_s rfl rfl ?_
      refine s_k 30 rfl rfl ?_
      refine s_cge rfl ⟨by omega, by omega⟩ ⟨by omega, by omega⟩ (fun c1 => ?_) (fun c1 => absurd c1 (by omega))
      refine s_k (-1) rfl rfl ?_
      exact am_r rfl rfl (hN (fun i j hi z => by
        by_cases c : j < 30
        · exact hQ i j c hi z
        · have e : bAbn (mS s) b (30) = -1 := by
            by_cases q : bAbn (mS s) b (30) = -1
            · exact q
            · exact absurd (b_abn_20 h.st h.nd h.ma h.tr hb q) (by omega)
          rw [bAbn_m1 e (Nat.le_of_not_lt c)] at z; exact hi z))
  refine s_k 0 rfl rfl ?_
  refine am_s rfl rfl ?_
  refine am_s rfl rfl ?_
  refine am_s rfl rfl ?_
  refine s_k 0 rfl rfl ?_
  refine am_s rfl rfl ?_
  refine am_lv [(5, .int (iI (((0 : Nat) : Int) : Int))), (4, .int (iI (bAbn (mS s) a (0)))), (3, .int (iI 0)), (2, .int (iI b)), (1, .int (iI a)), (0, .ref 62)] rfl rfl ⟨rfl, rfl, rfl, rfl, rfl, rfl, trivial⟩ ?_
  refine s_loop (X := Int) (fun k se s' => s = s' ∧ (0 ≤ se ∧ se < 2147483648) ∧ ∀ y, 0 ≤ y → y < 30 → (bt se y = 1 ↔ ∃ i : Nat, i < k ∧ bAbn (mS s) a (i) = y)) (fun k se => [(5, .int (iI (k : Int))), (4, .int (iI (bAbn (mS s) a (k)))), (3, .int (iI se)), (2, .int (iI b)), (1, .int (iI a)), (0, .ref 62)]) (hi := 30) (x := 0) (by omega) ⟨rfl, ⟨by decide, by decide⟩, fun y y0 y1 => ⟨fun z => by unfold bt at z; rw [show ((0 : Int)).toNat = 0 from rfl, Nat.zero_testBit] at z; exact absurd z (by decide), fun ⟨i, hi, _⟩ => absurd hi (Nat.not_lt_zero _)⟩⟩ ?_ ?_
  · rintro k se s1 hk0 hk1 ⟨rfl, hsr, hse⟩ kk
    simp only at kk ⊢
    have hbr : am_R (bAbn (mS s) a (k)) := by
      by_cases q : bAbn (mS s) a (k) = -1
      · rw [q]; exact ⟨by decide, by decide⟩
      · have := bOut_0 h.st (b_abn h.st h.nd h.ma h.tr ha k q).1
        exact ⟨by omega, by omega⟩
    have hbr2 := hbr
    unfold am_R at hbr2
    refine am_s rfl rfl ?_
    refine s_k 30 rfl rfl ?_
    refine s_cge rfl ⟨by omega, by omega⟩ ⟨by omega, by omega⟩ (fun c1 => absurd c1 (by omega)) (fun c1 => ?_)
    refine am_s rfl rfl ?_
    refine s_k (-1) rfl rfl ?_
    refine s_ceq rfl hbr ⟨by omega, by omega⟩ (fun c2 => ?_) (fun c2 => ?_)
    · refine am_lv [(3, _), (2, _), (1, _), (0, _)] rfl rfl ⟨rfl, rfl, rfl, rfl, trivial⟩ ?_
      refine j42 se hsr (fun y y0 y1 => ?_)
      rw [hse y y0 y1]
      refine ⟨fun ⟨i, _, z⟩ => ⟨i, z⟩, fun ⟨i, z⟩ => ⟨i, ?_, z⟩⟩
      rcases Nat.lt_or_ge i k with c | c
      · exact c
      · rw [bAbn_m1 (show bAbn (mS s) a (k) = -1 by omega) c] at z; omega
    · have ne : bAbn (mS s) a (k) ≠ -1 := by omega
      have oa := (b_abn h.st h.nd h.ma h.tr ha k ne).1
      have oa0 := bOut_0 h.st oa
      refine am_s rfl rfl ?_
      refine s_k 1 rfl rfl ?_
      refine am_s rfl rfl ?_
      refine s_shl1 rfl ⟨by omega, by omega⟩ ?_
      refine s_ior rfl hsr (p2_lt ⟨by omega, by omega⟩) ?_
      refine am_s rfl rfl ?_
      refine am_s rfl rfl ?_
      refine am_s rfl rfl ?_
      refine s_cv [_] [] rfl g (Or.inl rfl) rfl rfl (Nat.le_of_ble_eq_true rfl) rfl rfl (t_ab g h oa) ?_
      rintro rv h1 ⟨rfl, rfl⟩
      rw [show bAb (mS s) (bAbn (mS s) a (k)) = bAbn (mS s) a (k + 1) from (if_neg ne).symm]
      refine am_s rfl rfl ?_
      refine s_inc rfl rfl ?_
      refine am_s rfl rfl ?_
      refine am_lv [(5, _), (4, _), (3, _), (2, _), (1, _), (0, _)] rfl rfl ⟨rfl, rfl, rfl, rfl, rfl, rfl, trivial⟩ ?_
      refine kk _ _ ⟨rfl, bor_lt hsr (p2_lt ⟨by omega, by omega⟩), fun y y0 y1 => ?_⟩
      rw [bt_bor, bt_p2 (by omega) y0, hse y y0 y1]
      refine ⟨fun z => ?_, fun ⟨i, hi, z⟩ => ?_⟩
      · rcases z with ⟨i, hi, z⟩ | z
        · exact ⟨i, by omega, z⟩
        · exact ⟨k, by omega, z.symm⟩
      · by_cases e : i = k
        · rw [e] at z; exact Or.inr z.symm
        · exact Or.inl ⟨i, by omega, z⟩
  · rintro se s1 ⟨rfl, hsr, hse⟩
    simp only
    refine am_s rfl rfl ?_
    refine s_k 30 rfl rfl ?_
    refine s_cge rfl ⟨by omega, by omega⟩ ⟨by omega, by omega⟩ (fun c1 => ?_) (fun c1 => absurd c1 (by omega))
    have e30 : bAbn (mS s) a (30) = -1 := by
      by_cases q : bAbn (mS s) a (30) = -1
      · exact q
      · exact absurd (b_abn_20 h.st h.nd h.ma h.tr ha q) (by omega)
    refine am_lv [(3, _), (2, _), (1, _), (0, _)] rfl rfl ⟨rfl, rfl, rfl, rfl, trivial⟩ ?_
    refine j42 se hsr (fun y y0 y1 => ?_)
    rw [hse y y0 y1]
    refine ⟨fun ⟨i, _, z⟩ => ⟨i, z⟩, fun ⟨i, z⟩ => ⟨i, ?_, z⟩⟩
    rcases Nat.lt_or_ge i 30 with c | c
    · exact c
    · rw [bAbn_m1 e30 c] at z; omega
theorem t_stepsBelow {d : Nat} {E : am_Ev} {s : am_S} {rk : Int → Int} {a m : Int} {kd : Nat} (g : am_Eg E) (h : mB s rk) (ha : bOut (mS s) a) (hkd : bAbn (mS s) a (kd) = m) (hm : bAbn (mS s) a (kd) ≠ -1) (h9 : kd ≤ 9) : am_wp (d + 1) 42 0 (lv_args 0 [.ref 62, .int (iI a), .int (iI m)]) [] (am_hp E s) (fun rv h => rv = some (.int (iI (2 * (kd : Int)))) ∧ h = am_hp E s) := by
  have hm0 := bOut_0 h.st (b_abn h.st h.nd h.ma h.tr ha kd hm).1
  refine s_k 0 rfl rfl ?_
  refine am_s rfl rfl ?_
  refine am_s rfl rfl ?_
  refine am_s rfl rfl ?_
  refine am_lv [(4, .int (iI (bAbn (mS s) a (0)))), (3, .int (iI (2 * ((0 : Nat) : Int)))), (2, .int (iI m)), (1, .int (iI a)), (0, .ref 62)] rfl rfl ⟨rfl, rfl, rfl, rfl, rfl, trivial⟩ ?_
  refine s_loop (X := Unit) (fun k _ s' => s = s') (fun k _ => [(4, .int (iI (bAbn (mS s) a (k)))), (3, .int (iI (2 * (k : Int)))), (2, .int (iI m)), (1, .int (iI a)), (0, .ref 62)]) (hi := kd) (x := ()) (Nat.zero_le kd) rfl ?_ ?_
  · rintro k - s1 hk0 hk1 rfl kk
    simp only at kk ⊢
    have ne : bAbn (mS s) a (k) ≠ -1 := bAbn_le hm (by omega)
    have oa := (b_abn h.st h.nd h.ma h.tr ha k ne).1
    have oa0 := bOut_0 h.st oa
    have lt := b_abn_lt h.st h.nd h.ma h.tr ha hk1 hm
    have nm : bAbn (mS s) a (k) ≠ m := fun z => by rw [z, ← hkd] at lt; omega
    refine am_s rfl rfl ?_
    refine am_s rfl rfl ?_
    refine s_ceq rfl ⟨by omega, by omega⟩ ⟨by omega, by omega⟩ (fun c1 => absurd c1 nm) (fun c1 => ?_)
    refine am_s rfl rfl ?_
    refine s_k 20 rfl rfl ?_
    refine s_cge rfl ⟨by omega, by omega⟩ ⟨by omega, by omega⟩ (fun c2 => absurd c2 (by omega)) (fun c2 => ?_)
    refine s_inc rfl rfl ?_
    refine am_s rfl rfl ?_
    refine am_s rfl rfl ?_
    refine s_cv [_] [] rfl g (Or.inl rfl) rfl rfl (Nat.le_of_ble_eq_true rfl) rfl rfl (t_ab g h oa) ?_
    rintro rv h1 ⟨rfl, rfl⟩
    rw [show bAb (mS s) (bAbn (mS s) a (k)) = bAbn (mS s) a (k + 1) from (if_neg ne).symm]
    refine am_s rfl rfl ?_
    refine am_s rfl rfl ?_
    rw [show 2 * (k : Int) + 2 = 2 * ((k + 1 : Nat) : Int) by omega]
    refine am_lv [(4, _), (3, _), (2, _), (1, _), (0, _)] rfl rfl ⟨rfl, rfl, rfl, rfl, rfl, trivial⟩ ?_
    exact kk () _ rfl
  · rintro - s1 rfl
    simp only
    refine am_s rfl rfl ?_
    refine am_s rfl rfl ?_
    refine s_ceq rfl ⟨by omega, by omega⟩ ⟨by omega, by omega⟩ (fun c1 => ?_) (fun c1 => absurd c1 (by omega))
    refine am_s rfl rfl ?_
    exact am_r rfl rfl ⟨rfl, rfl⟩
