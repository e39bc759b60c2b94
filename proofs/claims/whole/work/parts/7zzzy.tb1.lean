/-! type, over numbers -/
def bv (q : Int64) (m : Nat) : Int := (am_by q m).toInt
theorem bv_r {q : Int64} {n m : Nat} (h : am_sP q 0 n) (hm : m < n) : 32 ≤ bv q m ∧ bv q m ≤ 126 := by
  have z := h m (Nat.zero_le m) hm
  have z1 := Int32.le_iff_toInt_le.mp z.1
  have z2 := Int32.le_iff_toInt_le.mp z.2
  exact ⟨z1, z2⟩
theorem bv_i (q : Int64) (m : Nat) : am_by q m = iI (bv q m) := iI_of _
def tpf (q : Int64) (z n k : Int) (T : Int → Int) : Int → Int := fun y => if z ≤ y ∧ y < z + k then bv q (n - 1 - (y - z)).toNat else T y
theorem tpf_0 {q : Int64} {z n : Int} {T : Int → Int} : tpf q z n 0 T = T := by
  funext y
  unfold tpf
  rw [if_neg (by omega)]
theorem tpf_s {q : Int64} {z n k : Int} {T : Int → Int} (hk : 0 ≤ k) {y : Int} : (if y = z + k then bv q (n - 1 - k).toNat else tpf q z n k T y) = tpf q z n (k + 1) T y := by
  unfold tpf
  by_cases e : y = z + k
  · rw [if_pos e, if_pos (by omega), e, show n - 1 - (z + k - z) = n - 1 - k by omega]
  · rw [if_neg e]
    by_cases f : z ≤ y ∧ y < z + k
    · rw [if_pos f, if_pos (by omega)]
    · rw [if_neg f, if_neg (by omega)]
theorem nI_iI {n : Nat} : nI n = iI (n : Int) := iI_nat n
theorem t_byteOf {d : Nat} {q : Int64} {h : am_H} {m : Int} (hm : 0 ≤ m) : am_wp d 84 0 (lv_args 0 [.long q, .int (iI m)]) [] h (fun rv h' => rv = some (.int (iI (bv q m.toNat))) ∧ h' = h) := by
  have := am_byteOf d m.toNat q h
  rw [nI_iI, show ((m.toNat : Nat) : Int) = m by omega, bv_i] at this
  exact this
theorem i2b_v {v : Int} (hv : -128 ≤ v ∧ v ≤ 127) : (iI v).toInt8.toInt32 = iI v := by
  have := nar_b hv
  rw [vp_nar_byte] at this
  exact this
theorem s_i2b {d i pc : Nat} {lv : am_L} {r : List Value} {P : Option Value → am_H → Prop} {h : am_H} {aux : List Nat} {v : Int} (h1 : am_fetch i pc = some (.i2b, 1, aux)) (hv : -128 ≤ v ∧ v ≤ 127) (k9 : am_wp d i (pc + 1) lv (.int (iI v) :: r) h P) : am_wp d i pc lv (.int (iI v) :: r) h P := am_s (st' := .int ((iI v).toInt8.toInt32) :: r) h1 rfl (by rw [i2b_v hv]; exact k9)
theorem by8_v {q : Int64} {i : Int} (h : 0 ≤ i ∧ i < 8) (hv : -128 ≤ bv q i.toNat ∧ bv q i.toNat ≤ 127) : (q >>> (((8 : Int32) * iI i).toInt64 &&& 63)).toInt32.toInt8.toInt32 = iI (bv q i.toNat) := by
  have := am_by8 q i.toNat (by omega)
  rw [nI_iI, show ((i.toNat : Nat) : Int) = i by omega] at this
  rw [this, bv_i, i2b_v hv]
theorem t_ap75 {d : Nat} {E : am_Ev} {s : am_S} {q : Int64} {n : Nat} {z : Int} {PP : Option Value → am_H → Prop} (g : am_Eg E) (gd : am_Ed E) (hn : 1 ≤ n ∧ n ≤ 8) (hq : am_sP q 0 n) (hz : 0 ≤ z ∧ z + n ≤ E.2.2.1.2) (ez : s 2 1 = z) (hPP : ∀ s', (∀ a, a ≠ 2 → a ≠ E.2.2.1.1 → s' a = s a) → s' 2 1 = z + n → (∀ y, y ≠ 1 → s' 2 y = s 2 y) → (∀ y, s' E.2.2.1.1 y = tpf q z n n (s E.2.2.1.1) y) → PP (some (.int (iI (z + n)))) (am_hp E s')) : am_wp (d + 1) 82 75 [(0, .ref 2), (1, .long q), (3, .int (iI (n : Int)))] [] (am_hp E s) PP := by
  have s2 := gd.s2
  refine am_s rfl rfl ?_
  refine s_k 1 rfl rfl ?_
  refine s_isub rfl ?_
  refine am_s rfl rfl ?_
  have ei : (n : Int) - 1 = (n : Int) - 1 - ((0 : Nat) : Int) := by omega
  rw [ei]
  refine am_lv [(4, .int (iI ((n : Int) - 1 - (((0 : Nat) : Int) : Int)))), (3, .int (iI (n : Int))), (1, .long q), (0, .ref 2)] rfl rfl ⟨rfl, rfl, rfl, rfl, trivial⟩ ?_
  refine s_loop (X := Unit) (fun k _ s' => (∀ a, a ≠ 2 → a ≠ E.2.2.1.1 → s' a = s a) ∧ s' 2 1 = z + (k : Int) ∧ (∀ y, y ≠ 1 → s' 2 y = s 2 y) ∧ ∀ y, s' E.2.2.1.1 y = tpf q z n (k : Int) (s E.2.2.1.1) y) (fun k _ => [(4, .int (iI ((n : Int) - 1 - (k : Int)))), (3, .int (iI (n : Int))), (1, .long q), (0, .ref 2)]) (lo := 0) (hi := n) (x := ()) (Nat.zero_le n) ⟨fun _ _ _ => rfl, by omega, fun _ _ => rfl, fun y => by rw [show ((0 : Nat) : Int) = 0 from rfl, tpf_0]⟩ ?_ ?_
  · rintro k - s1 hk0 hk1 ⟨hF, hZ, hY, hT⟩ kk
    try simp only at kk ⊢
    have hv := bv_r hq (m := ((n : Int) - 1 - (k : Int)).toNat) (by omega)
    refine am_s rfl rfl ?_
    refine s_zlt rfl ⟨by omega, by omega⟩ (fun c1 => absurd c1 (by omega)) (fun c1 => ?_)
    refine am_s rfl rfl ?_
    refine s_g5 rfl g rfl rfl ?_
    refine am_s rfl rfl ?_
    refine s_gi (x := 1) rfl g rfl rfl rfl ?_
    refine am_s rfl rfl ?_
    refine am_s rfl rfl ?_
    refine am_cs (As := [_, _]) (rest := [_, _]) rfl (Or.inl rfl) rfl rfl (Nat.le_of_ble_eq_true rfl) rfl (t_byteOf (q := q) (m := (n : Int) - 1 - (k : Int)) (by omega)) ?_
    rintro rv h1 ⟨rfl, rfl⟩
    refine s_i2b rfl ⟨by omega, by omega⟩ ?_
    refine s_bsS rfl gd ⟨by omega, by omega⟩ ⟨by omega, by omega⟩ ?_
    refine am_s rfl rfl ?_
    refine am_s rfl rfl ?_
    refine s_gi (x := 1) rfl g rfl rfl rfl ?_
    refine s_k 1 rfl rfl ?_
    refine s_iadd rfl ?_
    refine s_pi (x := 1) rfl g rfl rfl rfl rfl ?_
    refine s_inc rfl rfl ?_
    refine am_s rfl rfl ?_
    have ek : (n : Int) - 1 - (k : Int) + -1 = (n : Int) - 1 - ((k + 1 : Nat) : Int) := by omega
    rw [ek]
    refine am_lv [(4, _), (3, _), (1, _), (0, _)] rfl rfl ⟨rfl, rfl, rfl, rfl, trivial⟩ ?_
    have n2 : E.2.2.1.1 ≠ 2 := lo_ne gd.s0 (show am_lo 2 = _ from rfl)
    refine kk () _ ⟨fun a a1 a2 => by rw [am_w_row a1, am_w_row a2]; exact hF a a1 a2, ?_, fun y hy => by rw [am_w_x hy, am_w_row (Ne.symm n2)]; exact hY y hy, fun y => ?_⟩
    · rw [am_w_eq, am_w_row (Ne.symm n2), hZ]; omega
    · rw [am_w_row n2, am_w_fun, hZ]
      show (if y = z + (k : Int) then _ else _) = _
      rw [hT y, show ((k + 1 : Nat) : Int) = (k : Int) + 1 by omega]
      exact tpf_s (by omega)
  · rintro - s1 ⟨hF, hZ, hY, hT⟩
    try simp only
    refine am_s rfl rfl ?_
    refine s_zlt rfl ⟨by omega, by omega⟩ (fun c1 => ?_) (fun c1 => absurd c1 (by omega))
    refine am_s rfl rfl ?_
    refine s_gi (x := 1) rfl g rfl rfl rfl ?_
    rw [hZ]
    exact am_r rfl rfl (hPP s1 hF hZ hY hT)
abbrev sGr (E E2 : am_Ev) : Prop := Nonempty (PProd (am_Eg E2) (PProd (am_Ed E2) (PProd (E2.2.2.2.1 = E.2.2.2.1) (PProd (E2.2.2.2.2.1 ≤ E.2.2.2.2.1 + 1) (PProd (E.2.2.2.2.1 ≤ E2.2.2.2.2.1) (PProd (E2.2.2.2.2.2 ≤ E.2.2.2.2.2 + 5000) (E.2.2.1.2 ≤ E2.2.2.1.2)))))))
theorem sGr.g {E E2 : am_Ev} (h_ : sGr E E2) : am_Eg E2 := h_.elim (fun x_ => x_.1)
theorem sGr.d {E E2 : am_Ev} (h_ : sGr E E2) : am_Ed E2 := h_.elim (fun x_ => x_.2.1)
theorem sGr.hm {E E2 : am_Ev} (h_ : sGr E E2) : E2.2.2.2.1 = E.2.2.2.1 := h_.elim (fun x_ => x_.2.2.1)
theorem sGr.c {E E2 : am_Ev} (h_ : sGr E E2) : E2.2.2.2.2.1 ≤ E.2.2.2.2.1 + 1 := h_.elim (fun x_ => x_.2.2.2.1)
theorem sGr.c0 {E E2 : am_Ev} (h_ : sGr E E2) : E.2.2.2.2.1 ≤ E2.2.2.2.2.1 := h_.elim (fun x_ => x_.2.2.2.2.1)
theorem sGr.sl {E E2 : am_Ev} (h_ : sGr E E2) : E2.2.2.2.2.2 ≤ E.2.2.2.2.2 + 5000 := h_.elim (fun x_ => x_.2.2.2.2.2.1)
theorem sGr.ln {E E2 : am_Ev} (h_ : sGr E E2) : E.2.2.1.2 ≤ E2.2.2.1.2 := h_.elim (fun x_ => x_.2.2.2.2.2.2)
theorem t_ap22 {d : Nat} {E : am_Ev} {s : am_S} {q : Int64} {n : Nat} {z : Int} {PP : Option Value → am_H → Prop} (g : am_Eg E) (gd : am_Ed E) (hn : 1 ≤ n ∧ n ≤ 8) (h8 : 8 ≤ E.2.2.1.2) (hq : am_sP q 0 n) (hz : 0 ≤ z ∧ z ≤ E.2.2.1.2) (hb : ∀ y, 0 ≤ y → y < (E.2.2.1.2 : Int) → -128 ≤ s E.2.2.1.1 y ∧ s E.2.2.1.1 y ≤ 127) (ez : s 2 1 = z) (hRm : 5000 < z + n → PP (some (.int (iI (-104)))) (am_hp E s)) (hOk : ∀ E2 s', sGr E E2 → z + n ≤ E2.2.2.1.2 → (∀ a, a ≤ E.2.2.2.2.1 → a ≠ 2 → a ≠ E.2.2.1.1 → s' a = s a) → s' 2 1 = z + n → (∀ y, y ≠ 1 → s' 2 y = s 2 y) → (∀ y, 0 ≤ y → y < (E2.2.2.1.2 : Int) → s' E2.2.2.1.1 y = tpf q z n n (cpS E s) y) → PP (some (.int (iI (z + n)))) (am_hp E2 s')) : am_wp (d + 2) 82 22 [(0, .ref 2), (1, .long q), (3, .int (iI (n : Int)))] [] (am_hp E s) PP := by
  have s2 := gd.s2
  have g1 := g.1
  have s1 := gd.s1
  refine am_s rfl rfl ?_
  refine s_gi (x := 1) rfl g rfl rfl rfl ?_
  refine am_s rfl rfl ?_
  refine s_iadd rfl ?_
  refine s_k 5000 rfl rfl ?_
  refine s_cle rfl ⟨by omega, by omega⟩ ⟨by omega, by omega⟩ (fun c1 => ?_) (fun c1 => ?_)
  · refine am_s rfl rfl ?_
    refine s_gi (x := 1) rfl g rfl rfl rfl ?_
    refine am_s rfl rfl ?_
    refine s_iadd rfl ?_
    refine am_s rfl rfl ?_
    refine s_g5 rfl g rfl rfl ?_
    refine s_lenS rfl gd ?_
    refine s_cle rfl ⟨by omega, by omega⟩ ⟨by omega, by omega⟩ (fun c2 => ?_) (fun c2 => ?_)
    · refine am_lv [(0, _), (1, _), (3, _)] rfl rfl ⟨rfl, rfl, rfl, trivial⟩ ?_
      exact t_ap75 (d := d + 1) g gd hn hq (by omega) ez (fun s1 a b c e => hOk E s1 ⟨g, gd, rfl, Nat.le_succ _, Nat.le_refl _, by omega, Nat.le_refl _⟩ (by omega) (fun q q1 q2 q3 => a q q2 q3) b c (fun y y0 y1 => by rw [e y]; unfold tpf cpS; rw [if_pos y1]))
    · refine am_s rfl rfl ?_
      refine am_s rfl rfl ?_
      refine s_g5 rfl g rfl rfl ?_
      refine s_k 5000 rfl rfl ?_
      refine s_k 2 rfl rfl ?_
      refine am_s rfl rfl ?_
      refine s_g5 rfl g rfl rfl ?_
      refine s_lenS rfl gd ?_
      refine s_imul rfl ?_
      refine am_cs (As := [_, _]) (rest := [_, _]) rfl (Or.inl rfl) rfl rfl (Nat.le_of_ble_eq_true rfl) rfl (t_minI (x := 5000) (y := 2 * (E.2.2.1.2 : Int)) ⟨by omega, by omega⟩ ⟨by omega, by omega⟩) ?_
      rintro rv h1 ⟨rfl, rfl⟩
      obtain ⟨N, eN⟩ : ∃ N : Nat, (if (5000 : Int) ≤ 2 * (E.2.2.1.2 : Int) then 5000 else 2 * (E.2.2.1.2 : Int)) = (N : Int) := ⟨(if (5000 : Int) ≤ 2 * (E.2.2.1.2 : Int) then 5000 else 2 * (E.2.2.1.2 : Int)).toNat, by split <;> omega⟩
      have hN : E.2.2.1.2 < N ∧ N ≤ 5000 ∧ z + n ≤ N := by split at eN <;> omega
      rw [eN]
      refine am_cs (As := [_, _]) (rest := [_]) rfl (Or.inl rfl) rfl rfl (Nat.le_of_ble_eq_true rfl) rfl (t_copyOf (s := s) (N := N) g gd ⟨hN.1, hN.2.1⟩ hb) ?_
      rintro rv h1 ⟨rfl, rfl⟩
      refine am_pf (fs := am_fs E (s 2) [(5, 0), (1, 0), (1, 0), (1, 0), (1, 0), (1, 0), (1, 0), (4, 4)] 0) rfl ⟨by decide, show 2 ≤ E.2.2.2.2.1 + 1 by omega⟩ ?_ (by rw [am_fs_len]; decide) rfl ?_
      · show am_up (am_cl E s) (E.2.2.2.2.1 + 1) _ 2 = _
        unfold am_up
        rw [if_neg (by omega)]
        rfl
      · rw [show ((am_fs E (s 2) [(5, 0), (1, 0), (1, 0), (1, 0), (1, 0), (1, 0), (1, 0), (4, 4)] 0).set 0 (.ref (E.2.2.2.2.1 + 1))) = [.ref (E.2.2.2.2.1 + 1), .int (iI (s 2 1)), .int (iI (s 2 2)), .int (iI (s 2 3)), .int (iI (s 2 4)), .int (iI (s 2 5)), .int (iI (s 2 6)), .ref 4] from rfl]
        show am_wp _ 82 75 _ _ (E.2.2.2.2.1 + 1, E.2.2.2.2.2 + N, am_up (am_up (am_cl E s) (E.2.2.2.2.1 + 1) (.inl (0, N, .inl (am_ia (cpS E s))))) 2 (.inr (7, [.ref (E.2.2.2.2.1 + 1), .int (iI (s 2 1)), .int (iI (s 2 2)), .int (iI (s 2 3)), .int (iI (s 2 4)), .int (iI (s 2 5)), .int (iI (s 2 6)), .ref 4]))) PP
        rw [nES_hp g gd]
        have d2 := nES_d (s := s) (N := N) g gd (by omega)
        have hz2 : 0 ≤ z ∧ z + n ≤ (N : Int) := by omega
        refine am_lv [(0, _), (1, _), (3, _)] rfl rfl ⟨rfl, rfl, rfl, trivial⟩ ?_
        refine t_ap75 (d := d + 1) (E := nES E s N) (s := nSS E s) (nES_g g) d2 hn hq hz2 (by rw [nSS_f (by omega)]; exact ez) (fun s1 a b c e => hOk _ s1 ⟨nES_g g, d2, rfl, Nat.le_refl _, Nat.le_succ _, ?_, Nat.le_of_lt hN.1⟩ hz2.2 (fun q q1 q2 q3 => ?_) b (fun y hy => by rw [c y hy, nSS_f (by omega)]) (fun y y0 y1 => ?_))
        · show E.2.2.2.2.2 + N ≤ _
          omega
        · rw [a q q2 (fun y => by
            have y : q = E.2.2.2.2.1 + 1 := y
            omega), nSS_f q1]
        · rw [e y]
          unfold tpf
          split
          · rfl
          · show nSS E s (E.2.2.2.2.1 + 1) y = _
            exact nSS_n
  · refine s_k (-104) rfl rfl ?_
    exact am_r rfl rfl (hRm (by omega))
theorem t_append {d : Nat} {E : am_Ev} {s : am_S} {q : Int64} {n : Nat} {z : Int} {PP : Option Value → am_H → Prop} (g : am_Eg E) (gd : am_Ed E) (hn : 1 ≤ n ∧ n ≤ 8) (h8 : 8 ≤ E.2.2.1.2) (hz : 0 ≤ z ∧ z ≤ E.2.2.1.2) (hb : ∀ y, 0 ≤ y → y < (E.2.2.1.2 : Int) → -128 ≤ s E.2.2.1.1 y ∧ s E.2.2.1.1 y ≤ 127) (ez : s 2 1 = z) (hNo : ¬ am_sP q 0 n → PP (some (.int (iI (-102)))) (am_hp E s)) (hRm : am_sP q 0 n → 5000 < z + n → PP (some (.int (iI (-104)))) (am_hp E s)) (hOk : am_sP q 0 n → z + n ≤ 5000 → ∀ E2 s', sGr E E2 → z + n ≤ E2.2.2.1.2 → (∀ a, a ≤ E.2.2.2.2.1 → a ≠ 2 → a ≠ E.2.2.1.1 → s' a = s a) → s' 2 1 = z + n → (∀ y, y ≠ 1 → s' 2 y = s 2 y) → (∀ y, 0 ≤ y → y < (E2.2.2.1.2 : Int) → s' E2.2.2.1.1 y = tpf q z n n (cpS E s) y) → PP (some (.int (iI (z + n)))) (am_hp E2 s')) : am_wp (d + 2) 82 0 (lv_args 0 [.ref 2, .long q, .int (iI (n : Int))]) [] (am_hp E s) PP := by
  rw [← nI_iI]
  refine am_appGo (d := d) (by omega) hn.2 hNo ?_
  intro hq
  rw [nI_iI]
  by_cases c : 5000 < z + n
  · exact t_ap22 (d := d) g gd hn h8 hq hz hb ez (hRm hq) (fun E2 s1 a b => absurd b (by have := a.d.s2; omega))
  · exact t_ap22 (d := d) g gd hn h8 hq hz hb ez (hRm hq) (hOk hq (by omega))
