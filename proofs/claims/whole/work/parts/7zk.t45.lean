theorem mv_st {n now r : Int} {D : Int → Int → Int} {t t2 : Int → Int} (h : mv_M n D now t t2 r) (ht : st_ok n t) : st_ok n t2 := by
  rcases h with ⟨-, -, e⟩ | ⟨-, k, i, p, b, a1, a2, a3, a4, a5, a6, -, -, -, h⟩
  · rw [e]; exact ht
  · intro y y0 y1
    rw [h y, if_pos ⟨y0, y1⟩]
    exact mvf_ok ⟨a1, a2⟩ ⟨a3, a4⟩ ⟨a5, a6⟩ ht y y0 y1
/-- one bettering of the other one -/
def bm_1 (n : Int) (D : Int → Int → Int) (how : Int) (t t2 : Int → Int) : Prop := (how ≠ 1 ∧ tu_is n (ty n D t (tl n D t n.toNat)) t t2 1) ∨ ((how ≠ 1 → tu_is n (ty n D t (tl n D t n.toNat)) t t 0) ∧ how ≠ 0 ∧ mv_M n D (tl n D t n.toNat) t t2 1)
def bm_0 (n : Int) (D : Int → Int → Int) (how : Int) (t : Int → Int) : Prop := (how ≠ 1 → tu_is n (ty n D t (tl n D t n.toNat)) t t 0) ∧ (how ≠ 0 → mv_M n D (tl n D t n.toNat) t t 0)
def bm_n (n : Int) (D : Int → Int → Int) (how : Int) (t : Int → Int) : Nat → (Int → Int) → Prop
  | 0, t2 => t2 = t
  | k + 1, t2 => ∃ t1, bm_n n D how t k t1 ∧ bm_1 n D how t1 t2
theorem bm_st {n how : Int} {D : Int → Int → Int} {t : Int → Int} (ht : st_ok n t) : ∀ {k : Nat} {t2 : Int → Int}, bm_n n D how t k t2 → st_ok n t2
  | 0, t2, h => by rw [show t2 = t from h]; exact ht
  | k + 1, t2, h => by
    obtain ⟨t1, h1, h2⟩ := h
    have a := bm_st ht h1
    rcases h2 with ⟨-, h2⟩ | ⟨-, -, h2⟩
    · exact tu_st h2 a
    · exact mv_st h2 a
def be_M (E : am_Ev) (s : am_S) (how most : Int) (rv : Option Value) (h : am_H) : Prop := (¬ ((0 ≤ how ∧ how ≤ 2) ∧ (1 ≤ most ∧ most ≤ 300)) ∧ rv = some (.int (iI (-102))) ∧ h = am_hp E s) ∨ (((0 ≤ how ∧ how ≤ 2) ∧ (1 ≤ most ∧ most ≤ 300)) ∧ s 168 29 = 0 ∧ rv = some (.int (iI (-103))) ∧ h = am_hp E s) ∨ (((0 ≤ how ∧ how ≤ 2) ∧ (1 ≤ most ∧ most ≤ 300)) ∧ s 168 29 = 1 ∧ ∃ (k : Nat) (s' : am_S), (k : Int) ≤ most ∧ rv = some (.int (iI (k : Int))) ∧ h = am_hp E s' ∧ am_Fr [183, 184, 185] s s' ∧ bm_n (s 168 1) (my s) how (s 183) k (s' 183) ∧ ((k : Int) < most → bm_0 (s 168 1) (my s) how (s' 183)))
set_option maxHeartbeats 4000000 in
theorem t_betterM0 {d : Nat} {E : am_Ev} {s : am_S} {how most : Int} (g : am_Eg E) (hm : my_ok s) (hf : s 168 29 = 0 ∨ s 168 29 = 1) (hT : s 168 29 = 1 → st_ok (s 168 1) (s 183)) (hr_h : am_R how) (hr_m : am_R most) : am_wp (d + 5) 212 5 (lv_args 0 [.ref 168, .int (iI how), .int (iI most)]) [] (am_hp E s) (be_M E s how most) := by
  have hm0 := hm
  obtain ⟨n1, n2, hD⟩ := hm0
  obtain ⟨r1, r2⟩ := hr_h
  obtain ⟨r3, r4⟩ := hr_m
  refine am_s rfl rfl ?_
  refine s_i2l rfl ⟨by omega, by omega⟩ ?_
  refine s_kl 0 rfl rfl ?_
  refine s_kl 2 rfl rfl ?_
  refine am_cs (As := [_, _, _]) (rest := []) rfl (Or.inl rfl) rfl rfl (Nat.le_of_ble_eq_true rfl) rfl (t_within ⟨by omega, by omega⟩ ⟨by decide, by decide⟩ ⟨by decide, by decide⟩) ?_
  rintro rv h1 ⟨rfl, rfl⟩
  by_cases hw1 : 0 ≤ how ∧ how ≤ 2
  · rw [show (if 0 ≤ how ∧ how ≤ 2 then (1 : Int) else 0) = 1 from if_pos hw1]
    refine s_zeq rfl ⟨by omega, by omega⟩ (fun c2 => absurd c2 (by omega)) (fun c2 => ?_)
    refine am_s rfl rfl ?_
    refine s_i2l rfl ⟨by omega, by omega⟩ ?_
    refine s_kl 1 rfl rfl ?_
    refine s_kl 300 rfl rfl ?_
    refine am_cs (As := [_, _, _]) (rest := []) rfl (Or.inl rfl) rfl rfl (Nat.le_of_ble_eq_true rfl) rfl (t_within ⟨by omega, by omega⟩ ⟨by decide, by decide⟩ ⟨by decide, by decide⟩) ?_
    rintro rv h1 ⟨rfl, rfl⟩
    by_cases hw2 : 1 ≤ most ∧ most ≤ 300
    · rw [show (if 1 ≤ most ∧ most ≤ 300 then (1 : Int) else 0) = 1 from if_pos hw2]
      refine s_zne rfl ⟨by omega, by omega⟩ (fun c4 => ?_) (fun c4 => absurd c4 (by omega))
      refine am_s rfl rfl ?_
      refine s_gi (x := 29) rfl g rfl rfl rfl ?_
      refine s_zne rfl (by rcases hf with z | z <;> exact ⟨by omega, by omega⟩) (fun c5 => ?_) (fun c5 => ?_)
      · refine s_k 0 rfl rfl ?_
        refine am_s rfl rfl ?_
        refine s_k 1 rfl rfl ?_
        refine am_s rfl rfl ?_
        obtain ⟨q, eq⟩ : ∃ q : Nat, most = q := ⟨most.toNat, by omega⟩
        have hf1 : s 168 29 = 1 := by omega
        have ht := hT hf1
        refine am_lv [(4, .int (iI 1)), (3, .int (iI (((0 : Nat) : Int) : Int))), (2, .int (iI most)), (1, .int (iI how)), (0, .ref 168)] rfl rfl ⟨rfl, rfl, rfl, rfl, rfl, trivial⟩ ?_
        refine s_loop (X := Unit) (fun k _ s' => am_Fr [183, 184, 185] s s' ∧ bm_n (s 168 1) (my s) how (s 183) k (s' 183)) (fun k _ => [(4, .int (iI 1)), (3, .int (iI (k : Int))), (2, .int (iI most)), (1, .int (iI how)), (0, .ref 168)]) (hi := q) (x := ()) (Nat.zero_le q) ⟨am_Fr_r _ _, rfl⟩ ?_ ?_
        · rintro k - s1 hk0 hk ⟨hF, hB⟩ kk
          simp only at kk ⊢
          refine am_s rfl rfl ?_
          refine s_zeq rfl ⟨by omega, by omega⟩ (fun c1 => absurd c1 (by omega)) (fun c1 => ?_)
          refine am_s rfl rfl ?_
          refine am_s rfl rfl ?_
          refine s_cge rfl ⟨by omega, by omega⟩ ⟨by omega, by omega⟩ (fun c2 => absurd c2 (by omega)) (fun c2 => ?_)
          refine am_s rfl rfl ?_
          refine am_s rfl rfl ?_
          refine s_gr rfl g rfl rfl ?_
          have n_s1 : s1 168 1 = s 168 1 := by rw [hF 168 (by decide)]
          have y_s1 : my s1 = my s := by unfold my; rw [hF 169 (by decide)]
          have m_s1 : my_ok s1 := by
            unfold my_ok at hm ⊢
            rw [y_s1, n_s1]
            exact hm
          have t_s1 : st_ok (s1 168 1) (s1 183) := by rw [n_s1]; exact bm_st ht hB
          refine s_cv [_] [] rfl g (Or.inl rfl) rfl rfl (Nat.le_of_ble_eq_true rfl) rfl rfl (t_lengthOf183 g m_s1 t_s1) ?_
          rintro rv h1 ⟨rfl, rfl⟩
          rw [n_s1, y_s1]
          have bq := tl_le (D := my s) hD (bm_st ht hB) (s 168 1).toNat (by omega)
          have hnow : am_Q (tl (s 168 1) (my s) (s1 183) (s 168 1).toNat) := ⟨by omega, by omega⟩
          refine am_s rfl rfl ?_
          refine am_s rfl rfl ?_
          refine s_k 1 rfl rfl ?_
          refine s_ceq rfl ⟨by omega, by omega⟩ ⟨by omega, by omega⟩ (fun c3 => ?_) (fun c3 => ?_)
          · refine s_k 0 rfl rfl ?_
            refine am_s rfl rfl ?_
            refine am_s rfl rfl ?_
            refine s_zne rfl ⟨by omega, by omega⟩ (fun c4 => absurd c4 (by omega)) (fun c4 => ?_)
            refine am_s rfl rfl ?_
            refine s_zeq rfl ⟨by omega, by omega⟩ (fun c5 => absurd c5 (by omega)) (fun c5 => ?_)
            refine am_s rfl rfl ?_
            refine am_s rfl rfl ?_
            refine s_cv [_] [] rfl g (Or.inl rfl) rfl rfl (Nat.le_of_ble_eq_true rfl) rfl rfl (t_movesM (PP := fun rv h => ∃ r s', rv = some (.int (iI r)) ∧ h = am_hp E s' ∧ am_Fr [183, 184, 185] s1 s' ∧ mv_M (s1 168 1) (my s1) (tl (s 168 1) (my s) (s1 183) (s 168 1).toNat) (s1 183) (s' 183) r) g m_s1 t_s1 hnow (fun r s' z1 z2 => ⟨r, s', rfl, rfl, z1, z2⟩)) ?_
            rintro rv h1 ⟨r, s3, rfl, rfl, hF3, hm3⟩
            rw [n_s1, y_s1] at hm3
            have hm4 := hm3
            have F3 := am_Fr_u hF hF3
            rcases hm3 with ⟨rfl, -, e3⟩ | ⟨rfl, -⟩
            · rw [e3] at hm4
              refine s_zeq rfl ⟨by omega, by omega⟩ (fun c1 => ?_) (fun c1 => absurd c1 (by omega))
              refine s_k 0 rfl rfl ?_
              refine am_s rfl rfl ?_
              refine am_s rfl rfl ?_
              refine s_zeq rfl ⟨by omega, by omega⟩ (fun c2 => ?_) (fun c2 => absurd c2 (by omega))
              refine am_s rfl rfl ?_
              refine am_s rfl rfl ?_
              refine am_s rfl rfl ?_
              refine am_s rfl rfl ?_
              refine s_zeq rfl ⟨by omega, by omega⟩ (fun c3 => ?_) (fun c3 => absurd c3 (by omega))
              refine am_s rfl rfl ?_
              exact am_r rfl rfl (Or.inr (Or.inr ⟨⟨hw1, hw2⟩, hf1, k, s3, by omega, rfl, rfl, F3, by rw [e3]; exact hB, fun _ => by rw [e3]; exact ⟨fun z => absurd (show how = 1 by omega) z, fun _ => hm4⟩⟩))
            · refine s_zeq rfl ⟨by omega, by omega⟩ (fun c1 => absurd c1 (by omega)) (fun c1 => ?_)
              refine s_k 1 rfl rfl ?_
              refine am_s rfl rfl ?_
              refine am_s rfl rfl ?_
              refine am_s rfl rfl ?_
              refine s_zeq rfl ⟨by omega, by omega⟩ (fun c2 => absurd c2 (by omega)) (fun c2 => ?_)
              refine am_s rfl rfl ?_
              refine s_k 1 rfl rfl ?_
              refine s_iadd rfl ?_
              refine am_s rfl rfl ?_
              refine am_s rfl rfl ?_
              refine am_s rfl rfl ?_
              refine am_lv [(4, _), (3, _), (2, _), (1, _), (0, _)] rfl rfl ⟨rfl, rfl, rfl, rfl, rfl, trivial⟩ ?_
              refine kk () _ ⟨F3, ⟨s1 183, hB, Or.inr ⟨fun z => absurd (show how = 1 by omega) z, by omega, hm4⟩⟩⟩
          · refine am_s rfl rfl ?_
            refine am_s rfl rfl ?_
            refine s_cv [_] [] rfl g (Or.inl rfl) rfl rfl (Nat.le_of_ble_eq_true rfl) rfl rfl (t_turnsM (PP := fun rv h => ∃ r s', rv = some (.int (iI r)) ∧ h = am_hp E s' ∧ am_Fr [183, 184] s1 s' ∧ tu_is (s1 168 1) (ty (s1 168 1) (my s1) (s1 183) (tl (s 168 1) (my s) (s1 183) (s 168 1).toNat)) (s1 183) (s' 183) r) g m_s1 t_s1 hnow (fun r s' z1 z2 => ⟨r, s', rfl, rfl, z1, z2⟩)) ?_
            rintro rv h1 ⟨r, s2, rfl, rfl, hF2, hr⟩
            rw [n_s1, y_s1] at hr
            have hr0 := hr
            have F2 := am_Fr_u hF (am_Fr_m hF2 (M := [183, 184, 185]) (by decide))
            rcases hr with ⟨rfl, -, e183⟩ | ⟨rfl, -⟩
            · rw [e183] at hr0
              refine s_zeq rfl ⟨by omega, by omega⟩ (fun c1 => ?_) (fun c1 => absurd c1 (by omega))
              refine s_k 0 rfl rfl ?_
              refine am_s rfl rfl ?_
              refine am_s rfl rfl ?_
              refine s_zne rfl ⟨by omega, by omega⟩ (fun c2 => absurd c2 (by omega)) (fun c2 => ?_)
              refine am_s rfl rfl ?_
              refine s_zeq rfl ⟨by omega, by omega⟩ (fun c3 => ?_) (fun c3 => ?_)
              · refine s_k 0 rfl rfl ?_
                refine am_s rfl rfl ?_
                refine am_s rfl rfl ?_
                refine s_zeq rfl ⟨by omega, by omega⟩ (fun c4 => ?_) (fun c4 => absurd c4 (by omega))
                refine am_s rfl rfl ?_
                refine am_s rfl rfl ?_
                refine am_s rfl rfl ?_
                refine am_s rfl rfl ?_
                refine s_zeq rfl ⟨by omega, by omega⟩ (fun c5 => ?_) (fun c5 => absurd c5 (by omega))
                refine am_s rfl rfl ?_
                exact am_r rfl rfl (Or.inr (Or.inr ⟨⟨hw1, hw2⟩, hf1, k, s2, by omega, rfl, rfl, F2, by rw [e183]; exact hB, fun _ => by rw [e183]; exact ⟨fun _ => hr0, fun z => absurd (show how = 0 by omega) z⟩⟩))
              · refine am_s rfl rfl ?_
                refine am_s rfl rfl ?_
                have n_s2 : s2 168 1 = s 168 1 := by rw [F2 168 (by decide)]
                have y_s2 : my s2 = my s := by unfold my; rw [F2 169 (by decide)]
                have m_s2 : my_ok s2 := by
                  unfold my_ok at hm ⊢
                  rw [y_s2, n_s2]
                  exact hm
                have t_s2 : st_ok (s2 168 1) (s2 183) := by rw [n_s2, e183]; exact bm_st ht hB
                refine s_cv [_] [] rfl g (Or.inl rfl) rfl rfl (Nat.le_of_ble_eq_true rfl) rfl rfl (t_movesM (PP := fun rv h => ∃ r s', rv = some (.int (iI r)) ∧ h = am_hp E s' ∧ am_Fr [183, 184, 185] s2 s' ∧ mv_M (s2 168 1) (my s2) (tl (s 168 1) (my s) (s1 183) (s 168 1).toNat) (s2 183) (s' 183) r) g m_s2 t_s2 hnow (fun r s' z1 z2 => ⟨r, s', rfl, rfl, z1, z2⟩)) ?_
                rintro rv h1 ⟨r, s3, rfl, rfl, hF3, hm3⟩
                rw [n_s2, y_s2, e183] at hm3
                have hm4 := hm3
                have F3 := am_Fr_u F2 hF3
                rcases hm3 with ⟨rfl, -, e3⟩ | ⟨rfl, -⟩
                · rw [e3] at hm4
                  refine s_zeq rfl ⟨by omega, by omega⟩ (fun c1 => ?_) (fun c1 => absurd c1 (by omega))
                  refine s_k 0 rfl rfl ?_
                  refine am_s rfl rfl ?_
                  refine am_s rfl rfl ?_
                  refine s_zeq rfl ⟨by omega, by omega⟩ (fun c2 => ?_) (fun c2 => absurd c2 (by omega))
                  refine am_s rfl rfl ?_
                  refine am_s rfl rfl ?_
                  refine am_s rfl rfl ?_
                  refine am_s rfl rfl ?_
                  refine s_zeq rfl ⟨by omega, by omega⟩ (fun c3 => ?_) (fun c3 => absurd c3 (by omega))
                  refine am_s rfl rfl ?_
                  exact am_r rfl rfl (Or.inr (Or.inr ⟨⟨hw1, hw2⟩, hf1, k, s3, by omega, rfl, rfl, F3, by rw [e3]; exact hB, fun _ => by rw [e3]; exact ⟨fun _ => hr0, fun _ => hm4⟩⟩))
                · refine s_zeq rfl ⟨by omega, by omega⟩ (fun c1 => absurd c1 (by omega)) (fun c1 => ?_)
                  refine s_k 1 rfl rfl ?_
                  refine am_s rfl rfl ?_
                  refine am_s rfl rfl ?_
                  refine am_s rfl rfl ?_
                  refine s_zeq rfl ⟨by omega, by omega⟩ (fun c2 => absurd c2 (by omega)) (fun c2 => ?_)
                  refine am_s rfl rfl ?_
                  refine s_k 1 rfl rfl ?_
                  refine s_iadd rfl ?_
                  refine am_s rfl rfl ?_
                  refine am_s rfl rfl ?_
                  refine am_s rfl rfl ?_
                  refine am_lv [(4, _), (3, _), (2, _), (1, _), (0, _)] rfl rfl ⟨rfl, rfl, rfl, rfl, rfl, trivial⟩ ?_
                  refine kk () _ ⟨F3, ⟨s1 183, hB, Or.inr ⟨fun _ => hr0, by omega, hm4⟩⟩⟩
            · refine s_zeq rfl ⟨by omega, by omega⟩ (fun c1 => absurd c1 (by omega)) (fun c1 => ?_)
              refine s_k 1 rfl rfl ?_
              refine am_s rfl rfl ?_
              refine am_s rfl rfl ?_
              refine am_s rfl rfl ?_
              refine s_zne rfl ⟨by omega, by omega⟩ (fun c2 => ?_) (fun c2 => absurd c2 (by omega))
              refine s_k 1 rfl rfl ?_
              refine am_s rfl rfl ?_
              refine am_s rfl rfl ?_
              refine am_s rfl rfl ?_
              refine s_zeq rfl ⟨by omega, by omega⟩ (fun c3 => absurd c3 (by omega)) (fun c3 => ?_)
              refine am_s rfl rfl ?_
              refine s_k 1 rfl rfl ?_
              refine s_iadd rfl ?_
              refine am_s rfl rfl ?_
              refine am_s rfl rfl ?_
              refine am_s rfl rfl ?_
              refine am_lv [(4, _), (3, _), (2, _), (1, _), (0, _)] rfl rfl ⟨rfl, rfl, rfl, rfl, rfl, trivial⟩ ?_
              refine kk () _ ⟨F2, ⟨s1 183, hB, Or.inl ⟨by omega, hr0⟩⟩⟩
        · rintro - s1 ⟨hF, hB⟩
          simp only
          refine am_s rfl rfl ?_
          refine s_zeq rfl ⟨by omega, by omega⟩ (fun c1 => absurd c1 (by omega)) (fun c1 => ?_)
          refine am_s rfl rfl ?_
          refine am_s rfl rfl ?_
          refine s_cge rfl ⟨by omega, by omega⟩ ⟨by omega, by omega⟩ (fun c2 => ?_) (fun c2 => absurd c2 (by omega))
          refine am_s rfl rfl ?_
          exact am_r rfl rfl (Or.inr (Or.inr ⟨⟨hw1, hw2⟩, hf1, q, s1, by omega, rfl, rfl, hF, hB, fun z => by omega⟩))
      · refine s_k (-103) rfl rfl ?_
        first | exact am_r rfl rfl (Or.inl ⟨by omega, rfl, rfl⟩) | exact am_r rfl rfl (Or.inr (Or.inl ⟨⟨hw1, hw2⟩, by omega, rfl, rfl⟩))
    · rw [show (if 1 ≤ most ∧ most ≤ 300 then (1 : Int) else 0) = 0 from if_neg hw2]
      refine s_zne rfl ⟨by omega, by omega⟩ (fun c4 => absurd c4 (by omega)) (fun c4 => ?_)
      refine s_k (-102) rfl rfl ?_
      first | exact am_r rfl rfl (Or.inl ⟨by omega, rfl, rfl⟩) | exact am_r rfl rfl (Or.inr (Or.inl ⟨⟨hw1, hw2⟩, by omega, rfl, rfl⟩))
  · rw [show (if 0 ≤ how ∧ how ≤ 2 then (1 : Int) else 0) = 0 from if_neg hw1]
    refine s_zeq rfl ⟨by omega, by omega⟩ (fun c2 => ?_) (fun c2 => absurd c2 (by omega))
    refine s_k (-102) rfl rfl ?_
    first | exact am_r rfl rfl (Or.inl ⟨by omega, rfl, rfl⟩) | exact am_r rfl rfl (Or.inr (Or.inl ⟨⟨hw1, hw2⟩, by omega, rfl, rfl⟩))
theorem t_betterM {d : Nat} {E : am_Ev} {s : am_S} {how most : Int} (g : am_Eg E) (hm : my_ok s) (hf : s 168 29 = 0 ∨ s 168 29 = 1) (hT : s 168 29 = 1 → st_ok (s 168 1) (s 183)) (hr_h : am_R how) (hr_m : am_R most) : am_wp (d + 5) 212 0 (lv_args 0 [.ref 168, .int (iI how), .int (iI most)]) [] (am_hp E s) (be_M E (am_w s 168 0 0) how most) := by
  refine am_s rfl rfl ?_
  refine s_k 0 rfl rfl ?_
  refine s_pi (x := 0) rfl g rfl rfl rfl rfl ?_
  exact t_betterM0 (s := am_w s 168 0 0) g hm hf hT hr_h hr_m
