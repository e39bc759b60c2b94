/-! type on new objects: what both look at, byte by byte -/
def am_by (s : Int64) (k : Nat) : Int32 := ((s.toUInt64 >>> (((8 : Int32) * nI k).toInt64.toUInt64 &&& Int64.toUInt64 63)).toInt64.toInt32) &&& 255
def am_sP (s : Int64) (i n : Nat) : Prop := ∀ j, i ≤ j → j < n → 32 ≤ am_by s j ∧ am_by s j ≤ 126
theorem am_byteOf (d k : Nat) (s : Int64) (h : am_H) : am_wp d 84 0 (lv_args 0 [.long s, .int (nI k)]) [] h (fun rv h' => rv = some (.int (am_by s k)) ∧ h' = h) := by
  refine am_s rfl rfl ?_
  refine am_s rfl rfl ?_
  refine am_s rfl rfl ?_
  refine am_s rfl rfl ?_
  refine am_s rfl rfl ?_
  refine am_s rfl rfl ?_
  refine am_s rfl rfl ?_
  refine am_s rfl rfl ?_
  exact am_r rfl rfl ⟨rfl, rfl⟩
theorem am_lvq {d i pc : Nat} {lv lv2 : am_L} {st : List Value} {h : am_H} {P : Option Value → am_H → Prop} (e : lv = lv2) (k : am_wp d i pc lv2 st h P) : am_wp d i pc lv st h P := by
  rw [e]
  exact k
theorem am_aSl {d n : Nat} {s : Int64} {h : am_H} (hn : n ≤ 8) : ∀ (m i : Nat) (b : Int32), n - i = m → i ≤ n → am_wp (d + 1) 85 2 [(3, .int (nI i)), (4, .int b), (0, .long s), (2, .int (nI n))] [] h (fun rv h' => (am_sP s i n ∧ rv = some (.int 1) ∨ ¬ am_sP s i n ∧ rv = some (.int 0)) ∧ h' = h) := by
  intro m
  induction m with
  | zero =>
    intro i b hm hi
    have e : i = n := by omega
    subst e
    refine am_s rfl rfl ?_
    refine am_s rfl rfl ?_
    refine am_bt rfl rfl (decide_eq_true (nI_le (Nat.le_refl i) (by omega))) ?_
    refine am_s rfl rfl ?_
    exact am_r rfl rfl ⟨Or.inl ⟨fun j h1 h2 => absurd h2 (by omega), rfl⟩, rfl⟩
  | succ m ih =>
    intro i b hm hi
    have hlt : i < n := by omega
    refine am_s rfl rfl ?_
    refine am_s rfl rfl ?_
    refine am_bf rfl rfl (decide_eq_false (nI_ge hlt (by omega))) ?_
    refine am_s rfl rfl ?_
    refine am_s rfl rfl ?_
    refine am_cs (As := [.long s, .int (nI i)]) (rest := []) rfl (Or.inl rfl) rfl rfl (Nat.le_of_ble_eq_true rfl) rfl (am_byteOf _ i s h) ?_
    rintro rv h' ⟨e8, e10⟩
    rw [e8, e10]
    refine am_s rfl rfl ?_
    refine am_s rfl rfl ?_
    refine am_s rfl rfl ?_
    by_cases h1 : am_by s i < 32
    · refine am_bt rfl rfl (decide_eq_true h1) ?_
      refine am_s rfl rfl ?_
      exact am_r rfl rfl ⟨Or.inr ⟨fun z => absurd h1 (Int32.not_lt.mpr (z i (Nat.le_refl i) hlt).1), rfl⟩, rfl⟩
    · refine am_bf rfl rfl (decide_eq_false h1) ?_
      refine am_s rfl rfl ?_
      refine am_s rfl rfl ?_
      by_cases h2 : am_by s i ≤ 126
      · refine am_bt rfl rfl (decide_eq_true h2) ?_
        refine am_s rfl rfl ?_
        refine am_s rfl rfl ?_
        refine am_lvq (lv2 := [(3, .int (nI (i + 1))), (4, .int (am_by s i)), (0, .long s), (2, .int (nI n))]) ?_ ?_
        · show [(3, Value.int (nI i + 1)), (4, .int (am_by s i)), (0, .long s), (2, .int (nI n))] = _
          rw [nI_1]
        · refine am_wp_mono (ih (i + 1) _ (by omega) (by omega)) ?_
          rintro rv2 h2' ⟨hq, e9⟩
          refine ⟨?_, e9⟩
          have hb : 32 ≤ am_by s i ∧ am_by s i ≤ 126 := ⟨Int32.not_lt.mp h1, h2⟩
          rcases hq with ⟨q1, q2⟩ | ⟨q1, q2⟩
          · refine Or.inl ⟨fun j j1 j2 => ?_, q2⟩
            by_cases ej : j = i
            · rw [ej]; exact hb
            · exact q1 j (by omega) j2
          · exact Or.inr ⟨fun z => q1 (fun j j1 j2 => z j (by omega) j2), q2⟩
      · refine am_bf rfl rfl (decide_eq_false h2) ?_
        refine am_s rfl rfl ?_
        exact am_r rfl rfl ⟨Or.inr ⟨fun z => h2 (z i (Nat.le_refl i) hlt).2, rfl⟩, rfl⟩
theorem am_areSigns {d n : Nat} {s : Int64} {h : am_H} (h0 : 0 < n) (hn : n ≤ 8) : am_wp (d + 1) 85 0 (lv_args 0 [.long s, .int (nI n)]) [] h (fun rv h' => (am_sP s 0 n ∧ rv = some (.int 1) ∨ ¬ am_sP s 0 n ∧ rv = some (.int 0)) ∧ h' = h) := by
  refine am_s rfl rfl ?_
  refine am_s rfl rfl ?_
  refine am_s rfl rfl ?_
  refine am_s rfl rfl ?_
  refine am_bf rfl rfl (decide_eq_false (nI_ge (a := 0) h0 (by omega))) ?_
  refine am_s rfl rfl ?_
  refine am_s rfl rfl ?_
  refine am_cs (As := [.long s, .int (nI 0)]) (rest := []) rfl (Or.inl rfl) rfl rfl (Nat.le_of_ble_eq_true rfl) rfl (am_byteOf _ 0 s h) ?_
  rintro rv h' ⟨e8, e10⟩
  rw [e8, e10]
  refine am_s rfl rfl ?_
  refine am_s rfl rfl ?_
  refine am_s rfl rfl ?_
  by_cases h1 : am_by s 0 < 32
  · refine am_bt rfl rfl (decide_eq_true h1) ?_
    refine am_s rfl rfl ?_
    exact am_r rfl rfl ⟨Or.inr ⟨fun z => absurd h1 (Int32.not_lt.mpr (z 0 (Nat.le_refl 0) h0).1), rfl⟩, rfl⟩
  · refine am_bf rfl rfl (decide_eq_false h1) ?_
    refine am_s rfl rfl ?_
    refine am_s rfl rfl ?_
    by_cases h2 : am_by s 0 ≤ 126
    · refine am_bt rfl rfl (decide_eq_true h2) ?_
      refine am_s rfl rfl ?_
      refine am_s rfl rfl ?_
      refine am_lvq (lv2 := [(3, .int (nI 1)), (4, .int (am_by s 0)), (0, .long s), (2, .int (nI n))]) rfl ?_
      refine am_wp_mono (am_aSl hn (n - 1) 1 (am_by s 0) rfl h0) ?_
      rintro rv2 h2' ⟨hq, e9⟩
      refine ⟨?_, e9⟩
      have hb : 32 ≤ am_by s 0 ∧ am_by s 0 ≤ 126 := ⟨Int32.not_lt.mp h1, h2⟩
      rcases hq with ⟨q1, q2⟩ | ⟨q1, q2⟩
      · refine Or.inl ⟨fun j j1 j2 => ?_, q2⟩
        by_cases ej : j = 0
        · rw [ej]; exact hb
        · exact q1 j (by omega) j2
      · exact Or.inr ⟨fun z => q1 (fun j j1 j2 => z j (by omega) j2), q2⟩
    · refine am_bf rfl rfl (decide_eq_false h2) ?_
      refine am_s rfl rfl ?_
      exact am_r rfl rfl ⟨Or.inr ⟨fun z => h2 (z 0 (Nat.le_refl 0) h0).2, rfl⟩, rfl⟩
theorem am_by64 (s : Int64) : ∀ k, k < 8 → (s >>> (((8 : Int32) * nI k).toInt64 &&& 63)) &&& 255 = (am_by s k).toInt64 := by
  intro k hk
  apply Int64.toBitVec_inj.mp
  have e1 : (((8 : Int32) * nI k).toInt64 &&& 63) = Int64.ofNat (8 * k) := by
    rcases (show k = 0 ∨ k = 1 ∨ k = 2 ∨ k = 3 ∨ k = 4 ∨ k = 5 ∨ k = 6 ∨ k = 7 by omega) with rfl | rfl | rfl | rfl | rfl | rfl | rfl | rfl <;> decide
  have e2 : (((8 : Int32) * nI k).toInt64.toUInt64 &&& Int64.toUInt64 63) = UInt64.ofNat (8 * k) := by
    rcases (show k = 0 ∨ k = 1 ∨ k = 2 ∨ k = 3 ∨ k = 4 ∨ k = 5 ∨ k = 6 ∨ k = 7 by omega) with rfl | rfl | rfl | rfl | rfl | rfl | rfl | rfl <;> decide
  unfold am_by
  rw [e1, e2]
  have e3 : (s >>> Int64.ofNat (8 * k)).toBitVec = s.toBitVec.sshiftRight (8 * k) := by
    rw [Int64.toBitVec_shiftRight]
    rcases (show k = 0 ∨ k = 1 ∨ k = 2 ∨ k = 3 ∨ k = 4 ∨ k = 5 ∨ k = 6 ∨ k = 7 by omega) with rfl | rfl | rfl | rfl | rfl | rfl | rfl | rfl <;> rfl
  have e4 : (s.toUInt64 >>> UInt64.ofNat (8 * k)).toBitVec = s.toBitVec >>> (8 * k) := by
    rw [UInt64.toBitVec_shiftRight]
    rcases (show k = 0 ∨ k = 1 ∨ k = 2 ∨ k = 3 ∨ k = 4 ∨ k = 5 ∨ k = 6 ∨ k = 7 by omega) with rfl | rfl | rfl | rfl | rfl | rfl | rfl | rfl <;> rfl
  rw [Int64.toBitVec_and, e3]
  show _ = (BitVec.signExtend 64 (BitVec.signExtend 32 (s.toUInt64 >>> UInt64.ofNat (8 * k)).toBitVec &&& (255#32)))
  rw [e4]
  show _ &&& (255#64) = _
  apply BitVec.eq_of_getLsbD_eq
  intro i hi
  have f64 : (255#64).getLsbD i = decide (i < 8) := by
    revert i
    decide
  have f32 : ∀ j, j < 32 → (255#32).getLsbD j = decide (j < 8) := by
    decide
  rw [BitVec.getLsbD_and, BitVec.getLsbD_sshiftRight, f64, BitVec.getLsbD_signExtend]
  by_cases h8 : i < 8
  · rw [if_pos (show i < 32 by omega), BitVec.getLsbD_and, f32 i (by omega), BitVec.getLsbD_signExtend, if_pos (show i < 64 by omega), BitVec.getLsbD_ushiftRight, if_pos (show 8 * k + i < 64 by omega)]
    simp [h8, hi, show i < 32 by omega]
  · by_cases h32 : i < 32
    · rw [if_pos h32, BitVec.getLsbD_and, f32 i h32]
      simp [h8]
    · rw [if_neg h32, BitVec.msb_and]
      simp only [h8, decide_false, Bool.and_false, Bool.false_eq, Bool.and_eq_false_iff]
      exact Or.inr (Or.inr (by decide))
/-- the byte that both write -/
theorem am_by8 (s : Int64) : ∀ k, k < 8 → (s >>> (((8 : Int32) * nI k).toInt64 &&& 63)).toInt32.toInt8 = (am_by s k).toInt8 := by
  intro k hk
  apply Int8.toBitVec_inj.mp
  have e1 : (((8 : Int32) * nI k).toInt64 &&& 63) = Int64.ofNat (8 * k) := by
    rcases (show k = 0 ∨ k = 1 ∨ k = 2 ∨ k = 3 ∨ k = 4 ∨ k = 5 ∨ k = 6 ∨ k = 7 by omega) with rfl | rfl | rfl | rfl | rfl | rfl | rfl | rfl <;> decide
  have e2 : (((8 : Int32) * nI k).toInt64.toUInt64 &&& Int64.toUInt64 63) = UInt64.ofNat (8 * k) := by
    rcases (show k = 0 ∨ k = 1 ∨ k = 2 ∨ k = 3 ∨ k = 4 ∨ k = 5 ∨ k = 6 ∨ k = 7 by omega) with rfl | rfl | rfl | rfl | rfl | rfl | rfl | rfl <;> decide
  unfold am_by
  rw [e1, e2]
  have e3 : (s >>> Int64.ofNat (8 * k)).toBitVec = s.toBitVec.sshiftRight (8 * k) := by
    rw [Int64.toBitVec_shiftRight]
    rcases (show k = 0 ∨ k = 1 ∨ k = 2 ∨ k = 3 ∨ k = 4 ∨ k = 5 ∨ k = 6 ∨ k = 7 by omega) with rfl | rfl | rfl | rfl | rfl | rfl | rfl | rfl <;> rfl
  have e4 : (s.toUInt64 >>> UInt64.ofNat (8 * k)).toBitVec = s.toBitVec >>> (8 * k) := by
    rw [UInt64.toBitVec_shiftRight]
    rcases (show k = 0 ∨ k = 1 ∨ k = 2 ∨ k = 3 ∨ k = 4 ∨ k = 5 ∨ k = 6 ∨ k = 7 by omega) with rfl | rfl | rfl | rfl | rfl | rfl | rfl | rfl <;> rfl
  show BitVec.signExtend 8 (BitVec.signExtend 32 (s >>> Int64.ofNat (8 * k)).toBitVec) = BitVec.signExtend 8 (BitVec.signExtend 32 (s.toUInt64 >>> UInt64.ofNat (8 * k)).toBitVec &&& (255#32))
  rw [e3, e4]
  have f32 : ∀ j, j < 32 → (255#32).getLsbD j = decide (j < 8) := by
    decide
  apply BitVec.eq_of_getLsbD_eq
  intro i hi
  have l1 : ∀ x : BitVec 32, (BitVec.signExtend 8 x).getLsbD i = x.getLsbD i := by
    intro x
    rw [BitVec.getLsbD_signExtend, if_pos (show i < 32 by omega)]
    simp [hi]
  have l2 : ∀ y : BitVec 64, (BitVec.signExtend 32 y).getLsbD i = y.getLsbD i := by
    intro y
    rw [BitVec.getLsbD_signExtend, if_pos (show i < 64 by omega)]
    simp [show i < 32 by omega]
  rw [l1, l1, BitVec.getLsbD_and, f32 i (by omega), l2, l2, BitVec.getLsbD_ushiftRight, BitVec.getLsbD_sshiftRight, if_pos (show 8 * k + i < 64 by omega)]
  simp [hi, show i < 64 by omega]
theorem am_dec (x : Int32) : x + Int32.ofInt (-1) = x - 1 := by
  rw [Int32.sub_eq_add_neg]
  rfl
theorem am_upE (c : Nat → am_E) (a : Nat) (e : am_E) : am_up c a e a = e := if_pos rfl
theorem am_upN {c : Nat → am_E} {a k : Nat} {e : am_E} (h : k ≠ a) : am_up c a e k = c k := if_neg h
theorem am_h3 (x y : Nat) (c : Nat → am_E) (a : Nat) (e : am_E) : ((x, y, am_up c a e) : am_H).2.2 a = e := if_pos rfl
theorem am_bas {d i pc a n : Nat} {lv : am_L} {r : List Value} {h : am_H} {P : Option Value → am_H → Prop} {aux : List Nat} {f : Nat → Int32} {x v : Int32} (h1 : am_fetch i pc = some (.bastore, 1, aux)) (hle : 1 ≤ a ∧ a ≤ h.1) (ha : h.2.2 a = .inl (0, n, .inl f)) (hx : am_idx x n = true) (k9 : am_wp d i (pc + 1) lv r (h.1, h.2.1, am_up h.2.2 a (.inl (0, n, .inl (upd f x.toNatClampNeg (vp_nar .byte v))))) P) : am_wp d i pc lv (.int v :: .int x :: .ref a :: r) h P := by
  refine am_s h1 ?_ k9
  show am_d14 pc (.bastore, 1, aux) lv (.int v :: .int x :: .ref a :: r) h = _
  unfold am_d14
  simp only [if_pos hle, ha, am_ast, hx, if_true, Option.map_some]
/-- what is typed: m signs from z on -/
def am_tp (s : Int64) : Nat → Nat → (Nat → Int32) → Nat → Int32
  | 0, _, f => f
  | m + 1, z, f => am_tp s m (z + 1) (upd f z (am_by s m).toInt8.toInt32)
/-- what typing leaves behind: o with the length at k, its signs at a -/
def am_apP (h : am_H) (o ci k a N z m : Nat) (s : Int64) (f : Nat → Int32) (fs : List Value) (rv : Option Value) (h' : am_H) : Prop :=
  rv = some (.int (nI (z + m))) ∧ h'.1 = h.1 ∧ h'.2.1 = h.2.1 ∧ (∀ j, j ≠ o → j ≠ a → h'.2.2 j = h.2.2 j) ∧ h'.2.2 o = .inr (ci, fs.set k (.int (nI (z + m)))) ∧ h'.2.2 a = .inl (0, N, .inl (am_tp s m z f))
theorem am_set_self {fs : List Value} {k : Nat} {v : Value} (hv : fs[k]? = some v) : fs.set k v = fs := by
  obtain ⟨hk, e⟩ := List.getElem?_eq_some_iff.mp hv
  subst e
  exact List.set_getElem_self hk
theorem am_i8 (x : Int32) : (x.toInt8.toInt32).toInt8 = x.toInt8 := Int8.toInt8_toInt32 x.toInt8
theorem am_ixN {k L : Nat} (h : k < L) (hL : L < 2 ^ 31) : am_idx (nI k) L = true := by
  have h1 := vp_in_nI h hL
  unfold vp_in at h1
  unfold am_idx
  simpa using h1
theorem am_apl {d N a : Nat} {s : Int64} {n : Int32} (hN : N ≤ 5000) (ha2 : a ≠ 2) : ∀ (m z : Nat) (h : am_H) (f : Nat → Int32) (fs : List Value), m ≤ 8 → z + m ≤ N → (1 ≤ a ∧ a ≤ h.1) → 2 ≤ h.1 → h.2.2 2 = .inr (7, fs) → fs[0]? = some (.ref a) → fs[1]? = some (.int (nI z)) → h.2.2 a = .inl (0, N, .inl f) → am_wp (d + 1) 82 80 [(4, .int (nI m - 1)), (0, .ref 2), (1, .long s), (3, .int n)] [] h (am_apP h 2 7 1 a N z m s f fs) := by
  intro m
  induction m with
  | zero =>
    intro z h f fs hm hz hle h2 e2 g0 g1 ea
    refine am_s rfl rfl ?_
    refine am_bt rfl rfl (by decide) ?_
    refine am_s rfl rfl ?_
    refine am_gf rfl ⟨by decide, h2⟩ e2 g1 ?_
    refine am_r rfl rfl ⟨rfl, rfl, rfl, fun _ _ _ => rfl, ?_, ea⟩
    show _ = Sum.inr (7, fs.set 1 (.int (nI z)))
    rw [am_set_self g1]
    exact e2
  | succ m ih =>
    intro z h f fs hm hz hle h2 e2 g0 g1 ea
    rw [nI_pred]
    refine am_s rfl rfl ?_
    refine am_bf rfl rfl (decide_eq_false (nI_pos (by omega))) ?_
    refine am_s rfl rfl ?_
    refine am_gf rfl ⟨by decide, h2⟩ e2 g0 ?_
    refine am_s rfl rfl ?_
    refine am_gf rfl ⟨by decide, h2⟩ e2 g1 ?_
    refine am_s rfl rfl ?_
    refine am_s rfl rfl ?_
    refine am_cs (As := [.long s, .int (nI m)]) (rest := [.int (nI z), .ref a]) rfl (Or.inl rfl) rfl rfl (Nat.le_of_ble_eq_true rfl) rfl (am_byteOf _ m s h) ?_
    rintro rv h' ⟨e8, e10⟩
    rw [e8, e10]
    refine am_s rfl rfl ?_
    refine am_bas rfl hle ea (am_ixN (by omega) (by omega)) ?_
    rw [nI_clamp (by omega), vp_nar_byte, am_i8]
    refine am_s rfl rfl ?_
    refine am_s rfl rfl ?_
    have q2 : am_up h.2.2 a (.inl (0, N, .inl (upd f z (am_by s m).toInt8.toInt32))) 2 = .inr (7, fs) := by
      rw [am_upN (Ne.symm ha2)]
      exact e2
    refine am_gf rfl ⟨by decide, h2⟩ q2 g1 ?_
    refine am_s rfl rfl ?_
    refine am_s rfl rfl ?_
    refine am_pf rfl ⟨by decide, h2⟩ q2 (List.getElem?_eq_some_iff.mp g1).1 rfl ?_
    refine am_s rfl rfl ?_
    refine am_s rfl rfl ?_
    refine am_lvq (lv2 := [(4, .int (nI m - 1)), (0, .ref 2), (1, .long s), (3, .int n)]) (by
      show [(4, Value.int (nI m + Int32.ofInt (-1))), (0, .ref 2), (1, .long s), (3, .int n)] = _
      rw [am_dec]) ?_
    show am_wp (d + 1) 82 80 _ [] (h.1, h.2.1, am_up (am_up h.2.2 a (.inl (0, N, .inl (upd f z (am_by s m).toInt8.toInt32)))) 2 (.inr (7, fs.set 1 (.int (nI z + 1))))) _
    rw [nI_1]
    have hl : 1 < fs.length := (List.getElem?_eq_some_iff.mp g1).1
    refine am_wp_mono (ih (z + 1) _ (upd f z (am_by s m).toInt8.toInt32) (fs.set 1 (.int (nI (z + 1)))) (by omega) (by omega) hle h2 (am_h3 _ _ _ _ _) ?_ ?_ ?_) ?_
    · rw [List.getElem?_set_ne (by decide)]
      exact g0
    · rw [List.getElem?_set_self hl]
    · show am_up (am_up _ _ _) _ _ a = _
      rw [am_upN ha2, am_upE]
    · rintro rv h' ⟨k1, k2, k3, k4, k5, k6⟩
      refine ⟨?_, k2, k3, ?_, ?_, k6⟩
      · rw [k1, show z + 1 + m = z + (m + 1) by omega]
      · intro j j1 j2
        rw [k4 j j1 j2]
        show am_up (am_up _ _ _) _ _ j = _
        rw [am_upN j1, am_upN j2]
      · rw [k5, List.set_set, show z + 1 + m = z + (m + 1) by omega]
/-- append: refused -/
theorem am_appOut {d : Nat} {s : Int64} {c : Int32} {h : am_H} (hc : c < 1 ∨ 8 < c) : am_wp (d + 1) 82 0 (lv_args 0 [.ref 2, .long s, .int c]) [] h (fun rv h' => rv = some (.int (-102)) ∧ h' = h) := by
  refine am_s rfl rfl ?_
  refine am_s rfl rfl ?_
  by_cases h1 : c < 1
  · refine am_bt rfl rfl (decide_eq_true h1) ?_
    refine am_s rfl rfl ?_
    exact am_r rfl rfl ⟨rfl, rfl⟩
  · refine am_bf rfl rfl (decide_eq_false h1) ?_
    refine am_s rfl rfl ?_
    refine am_s rfl rfl ?_
    refine am_bt rfl rfl (decide_eq_true (hc.resolve_left h1)) ?_
    refine am_s rfl rfl ?_
    exact am_r rfl rfl ⟨rfl, rfl⟩
theorem am_appGo {d n : Nat} {s : Int64} {h : am_H} {P : Option Value → am_H → Prop} (h0 : 0 < n) (hn : n ≤ 8) (k0 : ¬ am_sP s 0 n → P (some (.int (-102))) h) (k1 : am_sP s 0 n → am_wp (d + 2) 82 22 [(0, .ref 2), (1, .long s), (3, .int (nI n))] [] h P) : am_wp (d + 2) 82 0 (lv_args 0 [.ref 2, .long s, .int (nI n)]) [] h P := by
  refine am_s rfl rfl ?_
  refine am_s rfl rfl ?_
  refine am_bf rfl rfl (decide_eq_false (nI_nlt (b := 1) h0 (by omega))) ?_
  refine am_s rfl rfl ?_
  refine am_s rfl rfl ?_
  refine am_bf rfl rfl (decide_eq_false (nI_nlt (b := n) (a := 8) hn (by omega))) ?_
  refine am_s rfl rfl ?_
  refine am_s rfl rfl ?_
  refine am_cs (As := [.long s, .int (nI n)]) (rest := []) rfl (Or.inl rfl) rfl rfl (Nat.le_of_ble_eq_true rfl) rfl (am_areSigns h0 hn) ?_
  rintro rv h' ⟨e8, e10⟩
  rw [e10]
  rcases e8 with ⟨q1, q2⟩ | ⟨q1, q2⟩
  · rw [q2]
    refine am_bt rfl rfl (by decide) ?_
    exact k1 q1
  · rw [q2]
    refine am_bf rfl rfl (by decide) ?_
    refine am_s rfl rfl ?_
    exact am_r rfl rfl (k0 q1)
/-- append where the signs have room in their row -/
theorem am_appOk {d n z N a : Nat} {s : Int64} {h : am_H} {f : Nat → Int32} {fs : List Value} (h0 : 0 < n) (hn : n ≤ 8) (hN : N ≤ 5000) (hz : z + n ≤ N) (ha2 : a ≠ 2) (hle : 1 ≤ a ∧ a ≤ h.1) (h2 : 2 ≤ h.1) (e2 : h.2.2 2 = .inr (7, fs)) (g0 : fs[0]? = some (.ref a)) (g1 : fs[1]? = some (.int (nI z))) (ea : h.2.2 a = .inl (0, N, .inl f)) : am_wp (d + 2) 82 0 (lv_args 0 [.ref 2, .long s, .int (nI n)]) [] h (fun rv h' => ¬ am_sP s 0 n ∧ rv = some (.int (-102)) ∧ h' = h ∨ am_sP s 0 n ∧ am_apP h 2 7 1 a N z n s f fs rv h') := by
  refine am_appGo h0 hn (fun q => Or.inl ⟨q, rfl, rfl⟩) ?_
  intro q
  refine am_s rfl rfl ?_
  refine am_gf rfl ⟨by decide, h2⟩ e2 g1 ?_
  refine am_s rfl rfl ?_
  refine am_s rfl rfl ?_
  refine am_s rfl rfl ?_
  rw [nI_add]
  refine am_bt rfl rfl (decide_eq_true (nI_le (b := 5000) (by omega) (by omega))) ?_
  refine am_s rfl rfl ?_
  refine am_gf rfl ⟨by decide, h2⟩ e2 g1 ?_
  refine am_s rfl rfl ?_
  refine am_s rfl rfl ?_
  refine am_s rfl rfl ?_
  refine am_gf rfl ⟨by decide, h2⟩ e2 g0 ?_
  refine am_al rfl hle.2 ea (by decide) ?_
  rw [nI_add]
  refine am_bt rfl rfl (decide_eq_true (nI_le hz (by omega))) ?_
  refine am_s rfl rfl ?_
  refine am_s rfl rfl ?_
  refine am_s rfl rfl ?_
  refine am_s rfl rfl ?_
  exact am_wp_mono (am_apl hN ha2 n z h f fs hn hz hle h2 e2 g0 g1 ea) (fun rv h' k => Or.inr ⟨q, k⟩)
theorem am_appRoom {d n z : Nat} {s : Int64} {h : am_H} {fs : List Value} (h0 : 0 < n) (hn : n ≤ 8) (hz : 5000 < z + n) (hz2 : z ≤ 5000) (h2 : 2 ≤ h.1) (e2 : h.2.2 2 = .inr (7, fs)) (g1 : fs[1]? = some (.int (nI z))) : am_wp (d + 2) 82 0 (lv_args 0 [.ref 2, .long s, .int (nI n)]) [] h (fun rv h' => (¬ am_sP s 0 n ∧ rv = some (.int (-102)) ∨ am_sP s 0 n ∧ rv = some (.int (-104))) ∧ h' = h) := by
  refine am_appGo h0 hn (fun q => ⟨Or.inl ⟨q, rfl⟩, rfl⟩) ?_
  intro q
  refine am_s rfl rfl ?_
  refine am_gf rfl ⟨by decide, h2⟩ e2 g1 ?_
  refine am_s rfl rfl ?_
  refine am_s rfl rfl ?_
  refine am_s rfl rfl ?_
  rw [nI_add]
  refine am_bf rfl rfl (decide_eq_false (nI_ge (a := 5000) hz (by omega))) ?_
  refine am_s rfl rfl ?_
  exact am_r rfl rfl ⟨Or.inr ⟨q, rfl⟩, rfl⟩
/-- type of the class: append of its tape -/
theorem am_typeX {d : Nat} {s : Int64} {c : Int32} {h : am_H} {fs gs : List Value} {P : Option Value → am_H → Prop} (hn : 2 ≤ h.1) (e1 : h.2.2 1 = .inr (11, fs)) (f0 : fs[0]? = some (.ref 2)) (e2 : h.2.2 2 = .inr (7, gs)) (k : am_wp d 82 0 (lv_args 0 [.ref 2, .long s, .int c]) [] h (fun rv h' => (∃ x : Int32, rv = some (.int x)) ∧ P rv h')) : am_wp (d + 1) 123 0 (lv_args 0 [.ref 1, .long s, .int c]) [] h P := by
  refine am_s rfl rfl ?_
  refine am_gf rfl ⟨by decide, Nat.le_trans (by decide) hn⟩ e1 f0 ?_
  refine am_s rfl rfl ?_
  refine am_s rfl rfl ?_
  refine am_cv (As := [.long s, .int c]) (rest := []) rfl (Or.inl rfl) rfl rfl (Nat.le_of_ble_eq_true rfl) rfl ⟨by decide, hn⟩ e2 k ?_
  rintro rv h' ⟨⟨x, e8⟩, hp⟩
  rw [e8] at hp ⊢
  exact am_r rfl rfl hp
/-! the same of the other one -/
theorem am_tyMl {d b N : Nat} {s : Int64} {n g : Int32} (hN : N ≤ 5000) (hb2 : b ≠ 168) : ∀ (m z : Nat) (h : am_H) (f : Nat → Int32) (fs : List Value), m ≤ 8 → z + m ≤ N → (1 ≤ b ∧ b ≤ h.1) → 168 ≤ h.1 → h.2.2 168 = .inr (12, fs) → fs[4]? = some (.ref b) → fs[5]? = some (.int (nI z)) → h.2.2 b = .inl (0, N, .inl f) → am_wp d 161 101 [(5, .int (nI m - 1)), (4, .int g), (0, .ref 168), (1, .long s), (3, .int n)] [] h (am_apP h 168 12 5 b N z m s f fs) := by
  intro m
  induction m with
  | zero =>
    intro z h f fs hm hz hle h2 e2 g0 g1 ea
    refine am_s rfl rfl ?_
    refine am_bt rfl rfl (by decide) ?_
    refine am_s rfl rfl ?_
    refine am_gf rfl ⟨by decide, h2⟩ e2 g1 ?_
    refine am_r rfl rfl ⟨rfl, rfl, rfl, fun _ _ _ => rfl, ?_, ea⟩
    show _ = Sum.inr (12, fs.set 5 (.int (nI z)))
    rw [am_set_self g1]
    exact e2
  | succ m ih =>
    intro z h f fs hm hz hle h2 e2 g0 g1 ea
    rw [nI_pred]
    refine am_s rfl rfl ?_
    refine am_bf rfl rfl (decide_eq_false (nI_pos (by omega))) ?_
    refine am_s rfl rfl ?_
    refine am_gf rfl ⟨by decide, h2⟩ e2 g0 ?_
    refine am_s rfl rfl ?_
    refine am_gf rfl ⟨by decide, h2⟩ e2 g1 ?_
    refine am_s rfl rfl ?_
    refine am_s rfl rfl ?_
    refine am_s rfl rfl ?_
    refine am_s rfl rfl ?_
    refine am_s rfl rfl ?_
    refine am_s rfl rfl ?_
    refine am_s rfl rfl ?_
    refine am_bas rfl hle ea (am_ixN (by omega) (by omega)) ?_
    have eb : (s >>> (((8 : Int32) * nI m).toInt64 &&& 63)).toInt32.toInt8 = (am_by s m).toInt8 := am_by8 s m (by omega)
    rw [nI_clamp (by omega), vp_nar_byte, am_i8]
    refine am_s rfl rfl ?_
    refine am_s rfl rfl ?_
    have q2 : am_up h.2.2 b (.inl (0, N, .inl (upd f z (s >>> (((8 : Int32) * nI m).toInt64 &&& 63)).toInt32.toInt8.toInt32))) 168 = .inr (12, fs) := by
      rw [am_upN (Ne.symm hb2)]
      exact e2
    refine am_gf rfl ⟨by decide, h2⟩ q2 g1 ?_
    refine am_s rfl rfl ?_
    refine am_s rfl rfl ?_
    refine am_pf rfl ⟨by decide, h2⟩ q2 (List.getElem?_eq_some_iff.mp g1).1 rfl ?_
    refine am_s rfl rfl ?_
    refine am_s rfl rfl ?_
    refine am_lvq (lv2 := [(5, .int (nI m - 1)), (4, .int g), (0, .ref 168), (1, .long s), (3, .int n)]) (by
      show [(5, Value.int (nI m + Int32.ofInt (-1))), (4, .int g), (0, .ref 168), (1, .long s), (3, .int n)] = _
      rw [am_dec]) ?_
    show am_wp d 161 101 _ [] (h.1, h.2.1, am_up (am_up h.2.2 b (.inl (0, N, .inl (upd f z (s >>> (((8 : Int32) * nI m).toInt64 &&& 63)).toInt32.toInt8.toInt32)))) 168 (.inr (12, fs.set 5 (.int (nI z + 1))))) _
    rw [nI_1]
    have hl : 5 < fs.length := (List.getElem?_eq_some_iff.mp g1).1
    refine am_wp_mono (ih (z + 1) _ (upd f z (am_by s m).toInt8.toInt32) (fs.set 5 (.int (nI (z + 1)))) (by omega) (by omega) hle h2 (am_h3 _ _ _ _ _) ?_ ?_ ?_) ?_
    · rw [List.getElem?_set_ne (by decide)]
      exact g0
    · rw [List.getElem?_set_self hl]
    · show am_up (am_up _ _ _) _ _ b = _
      rw [am_upN hb2, am_upE, eb]
    · rintro rv h' ⟨k1, k2, k3, k4, k5, k6⟩
      refine ⟨?_, k2, k3, ?_, ?_, k6⟩
      · rw [k1, show z + 1 + m = z + (m + 1) by omega]
      · intro j j1 j2
        rw [k4 j j1 j2]
        show am_up (am_up _ _ _) _ _ j = _
        rw [am_upN j1, am_upN j2]
      · rw [k5, List.set_set, show z + 1 + m = z + (m + 1) by omega]
theorem am_tyMg {d n : Nat} {s : Int64} {h : am_H} {P : Option Value → am_H → Prop} (hn : n ≤ 8) (K : ∀ g : Int32, (g = 1 ∧ am_sP s 0 n ∨ g = 0 ∧ ¬ am_sP s 0 n) → am_wp (d + 1) 161 73 [(5, .int (nI n)), (4, .int g), (0, .ref 168), (1, .long s), (3, .int (nI n))] [] h P) : ∀ (m k : Nat) (g : Int32), n - k = m → k ≤ n → (g = 1 ∧ am_sP s 0 k ∨ g = 0 ∧ ¬ am_sP s 0 k) → am_wp (d + 1) 161 26 [(5, .int (nI k)), (4, .int g), (0, .ref 168), (1, .long s), (3, .int (nI n))] [] h P := by
  intro m
  induction m with
  | zero =>
    intro k g hm hk hg
    have e : k = n := by omega
    subst e
    refine am_s rfl rfl ?_
    refine am_s rfl rfl ?_
    refine am_bt rfl rfl (decide_eq_true (nI_le (Nat.le_refl k) (by omega))) ?_
    exact K g hg
  | succ m ih =>
    intro k g hm hk hg
    have hlt : k < n := by omega
    refine am_s rfl rfl ?_
    refine am_s rfl rfl ?_
    refine am_bf rfl rfl (decide_eq_false (nI_ge hlt (by omega))) ?_
    refine am_s rfl rfl ?_
    have bad : ¬ am_sP s 0 (k + 1) → am_wp (d + 1) 161 64 [(5, .int (nI k)), (4, .int g), (0, .ref 168), (1, .long s), (3, .int (nI n))] [] h P := by
      intro hb
      refine am_s rfl rfl ?_
      refine am_s rfl rfl ?_
      refine am_s rfl rfl ?_
      refine am_s rfl rfl ?_
      refine am_lvq (lv2 := [(5, .int (nI (k + 1))), (4, .int 0), (0, .ref 168), (1, .long s), (3, .int (nI n))]) ?_ (ih (k + 1) 0 (by omega) (by omega) (Or.inr ⟨rfl, hb⟩))
      show [(5, Value.int (nI k + 1)), (4, .int 0), (0, .ref 168), (1, .long s), (3, .int (nI n))] = _
      rw [nI_1]
    rcases hg with ⟨rfl, hp⟩ | ⟨rfl, hp⟩
    · refine am_bf rfl rfl (by decide) ?_
      refine am_s rfl rfl ?_
      refine am_s rfl rfl ?_
      refine am_s rfl rfl ?_
      refine am_s rfl rfl ?_
      refine am_s rfl rfl ?_
      refine am_s rfl rfl ?_
      refine am_s rfl rfl ?_
      refine am_s rfl rfl ?_
      refine am_s rfl rfl ?_
      have eb := am_by64 s k (by omega)
      refine am_cs (As := [.long (am_by s k).toInt64, .long (32 : Int32).toInt64, .long (126 : Int32).toInt64]) (rest := []) rfl (Or.inl rfl) (by rw [← eb]; rfl) rfl (Nat.le_of_ble_eq_true rfl) rfl (am_within _ (am_by s k) 32 126 h) ?_
      rintro rv h' ⟨e8, e10⟩
      rw [e8, e10]
      by_cases hq : 32 ≤ am_by s k ∧ am_by s k ≤ 126
      · rw [if_pos hq]
        refine am_bf rfl rfl (by decide) ?_
        refine am_s rfl rfl ?_
        refine am_s rfl rfl ?_
        refine am_s rfl rfl ?_
        refine am_s rfl rfl ?_
        refine am_s rfl rfl ?_
        refine am_lvq (lv2 := [(5, .int (nI (k + 1))), (4, .int 1), (0, .ref 168), (1, .long s), (3, .int (nI n))]) ?_ (ih (k + 1) 1 (by omega) (by omega) (Or.inl ⟨rfl, ?_⟩))
        · show [(5, Value.int (nI k + 1)), (4, .int 1), (0, .ref 168), (1, .long s), (3, .int (nI n))] = _
          rw [nI_1]
        · intro j j1 j2
          by_cases ej : j = k
          · rw [ej]; exact hq
          · exact hp j j1 (by omega)
      · rw [if_neg hq]
        refine am_bt rfl rfl (by decide) ?_
        exact bad (fun z => hq (z k (by omega) (by omega)))
    · refine am_bt rfl rfl (by decide) ?_
      exact bad (fun z => hp (fun j j1 j2 => z j j1 (by omega)))
/-- the other one's type, up to its look at the room -/
def am_hZ (h : am_H) (fs : List Value) : am_H := (h.1, h.2.1, am_up h.2.2 168 (.inr (12, fs.set 0 (.int 0))))
theorem am_tyOutM {d : Nat} {s : Int64} {c : Int32} {h : am_H} {fs : List Value} (hn : 168 ≤ h.1) (e1 : h.2.2 168 = .inr (12, fs)) (hl : 0 < fs.length) (hc : c < 1 ∨ 8 < c) : am_wp (d + 1) 161 0 (lv_args 0 [.ref 168, .long s, .int c]) [] h (fun rv h' => rv = some (.int (-102)) ∧ h' = am_hZ h fs) := by
  refine am_s rfl rfl ?_
  refine am_s rfl rfl ?_
  refine am_pf rfl ⟨by decide, hn⟩ e1 hl rfl ?_
  refine am_s rfl rfl ?_
  refine am_s rfl rfl ?_
  refine am_s rfl rfl ?_
  refine am_s rfl rfl ?_
  refine am_cs (As := [.long c.toInt64, .long (1 : Int32).toInt64, .long (8 : Int32).toInt64]) (rest := []) rfl (Or.inl rfl) rfl rfl (Nat.le_of_ble_eq_true rfl) rfl (am_within _ c 1 8 _) ?_
  rintro rv h' ⟨e8, e10⟩
  rw [e8, e10, if_neg (fun z => hc.elim (fun y => absurd y (Int32.not_lt.mpr z.1)) (fun y => absurd y (Int32.not_lt.mpr z.2)))]
  refine am_bf rfl rfl (by decide) ?_
  refine am_s rfl rfl ?_
  exact am_r rfl rfl ⟨rfl, rfl⟩
theorem am_tyGoM {d n : Nat} {s : Int64} {h : am_H} {fs : List Value} {P : Option Value → am_H → Prop} (hn : 168 ≤ h.1) (e1 : h.2.2 168 = .inr (12, fs)) (hl : 0 < fs.length) (h0 : 0 < n) (h8 : n ≤ 8) (k0 : ¬ am_sP s 0 n → P (some (.int (-102))) (am_hZ h fs)) (k1 : am_sP s 0 n → am_wp (d + 1) 161 81 [(5, .int (nI n)), (4, .int 1), (0, .ref 168), (1, .long s), (3, .int (nI n))] [] (am_hZ h fs) P) : am_wp (d + 1) 161 0 (lv_args 0 [.ref 168, .long s, .int (nI n)]) [] h P := by
  refine am_s rfl rfl ?_
  refine am_s rfl rfl ?_
  refine am_pf rfl ⟨by decide, hn⟩ e1 hl rfl ?_
  refine am_s rfl rfl ?_
  refine am_s rfl rfl ?_
  refine am_s rfl rfl ?_
  refine am_s rfl rfl ?_
  refine am_cs (As := [.long (nI n).toInt64, .long (1 : Int32).toInt64, .long (8 : Int32).toInt64]) (rest := []) rfl (Or.inl rfl) rfl rfl (Nat.le_of_ble_eq_true rfl) rfl (am_within _ (nI n) 1 8 _) ?_
  rintro rv h' ⟨e8, e10⟩
  rw [e8, e10, if_pos ⟨nI_le (a := 1) h0 (by omega), nI_le (b := 8) h8 (by omega)⟩]
  refine am_bt rfl rfl (by decide) ?_
  refine am_s rfl rfl ?_
  refine am_s rfl rfl ?_
  refine am_s rfl rfl ?_
  refine am_s rfl rfl ?_
  refine am_tyMg (n := n) h8 ?_ n 0 1 rfl (Nat.zero_le n) (Or.inl ⟨rfl, fun j _ j2 => absurd j2 (Nat.not_lt_zero j)⟩)
  intro g hg
  refine am_s rfl rfl ?_
  rcases hg with ⟨rfl, hp⟩ | ⟨rfl, hp⟩
  · refine am_bt rfl rfl (by decide) ?_
    exact k1 hp
  · refine am_bf rfl rfl (by decide) ?_
    refine am_s rfl rfl ?_
    exact am_r rfl rfl (k0 hp)
theorem am_typeM {d n z b N : Nat} {s : Int64} {h : am_H} {f : Nat → Int32} {fs : List Value} (h0 : 0 < n) (h8 : n ≤ 8) (hN : N ≤ 5000) (hz : z + n ≤ N) (hb2 : b ≠ 168) (hle : 1 ≤ b ∧ b ≤ h.1) (hn : 168 ≤ h.1) (e1 : h.2.2 168 = .inr (12, fs)) (g0 : fs[4]? = some (.ref b)) (g1 : fs[5]? = some (.int (nI z))) (ea : h.2.2 b = .inl (0, N, .inl f)) : am_wp (d + 1) 161 0 (lv_args 0 [.ref 168, .long s, .int (nI n)]) [] h (fun rv h' => ¬ am_sP s 0 n ∧ rv = some (.int (-102)) ∧ h' = am_hZ h fs ∨ am_sP s 0 n ∧ am_apP (am_hZ h fs) 168 12 5 b N z n s f (fs.set 0 (.int 0)) rv h') := by
  have hl : 5 < fs.length := (List.getElem?_eq_some_iff.mp g1).1
  refine am_tyGoM hn e1 (by omega) h0 h8 (fun q => Or.inl ⟨q, rfl, rfl⟩) ?_
  intro q
  have e2 : (am_hZ h fs).2.2 168 = .inr (12, fs.set 0 (.int 0)) := am_h3 _ _ _ _ _
  have g5 : (fs.set 0 (.int 0))[5]? = some (.int (nI z)) := by
    rw [List.getElem?_set_ne (by decide)]
    exact g1
  have g4 : (fs.set 0 (.int 0))[4]? = some (.ref b) := by
    rw [List.getElem?_set_ne (by decide)]
    exact g0
  refine am_s rfl rfl ?_
  refine am_gf rfl ⟨by decide, hn⟩ e2 g5 ?_
  refine am_s rfl rfl ?_
  refine am_s rfl rfl ?_
  refine am_s rfl rfl ?_
  rw [nI_add]
  refine am_bt rfl rfl (decide_eq_true (nI_le (b := 5000) (by omega) (by omega))) ?_
  refine am_s rfl rfl ?_
  refine am_s rfl rfl ?_
  refine am_s rfl rfl ?_
  refine am_s rfl rfl ?_
  exact am_wp_mono (am_tyMl hN hb2 n z (am_hZ h fs) f (fs.set 0 (.int 0)) h8 hz hle hn e2 g4 g5 ((am_upN hb2).trans ea)) (fun rv h' k => Or.inr ⟨q, k⟩)
theorem am_tyRoomM {d n z : Nat} {s : Int64} {h : am_H} {fs : List Value} (h0 : 0 < n) (h8 : n ≤ 8) (hz : 5000 < z + n) (hz2 : z ≤ 5000) (hn : 168 ≤ h.1) (e1 : h.2.2 168 = .inr (12, fs)) (g1 : fs[5]? = some (.int (nI z))) : am_wp (d + 1) 161 0 (lv_args 0 [.ref 168, .long s, .int (nI n)]) [] h (fun rv h' => (¬ am_sP s 0 n ∧ rv = some (.int (-102)) ∨ am_sP s 0 n ∧ rv = some (.int (-104))) ∧ h' = am_hZ h fs) := by
  have hl : 5 < fs.length := (List.getElem?_eq_some_iff.mp g1).1
  refine am_tyGoM hn e1 (by omega) h0 h8 (fun q => ⟨Or.inl ⟨q, rfl⟩, rfl⟩) ?_
  intro q
  have e2 : (am_hZ h fs).2.2 168 = .inr (12, fs.set 0 (.int 0)) := am_h3 _ _ _ _ _
  have g5 : (fs.set 0 (.int 0))[5]? = some (.int (nI z)) := by
    rw [List.getElem?_set_ne (by decide)]
    exact g1
  refine am_s rfl rfl ?_
  refine am_gf rfl ⟨by decide, hn⟩ e2 g5 ?_
  refine am_s rfl rfl ?_
  refine am_s rfl rfl ?_
  refine am_s rfl rfl ?_
  rw [nI_add]
  refine am_bf rfl rfl (decide_eq_false (nI_ge (a := 5000) hz (by omega))) ?_
  refine am_s rfl rfl ?_
  exact am_r rfl rfl ⟨Or.inr ⟨q, rfl⟩, rfl⟩
/-! type on new objects -/
def am_ba (h : am_H) (a n : Nat) : Bool := match h.2.2 a with
  | .inl (0, k, .inl _) => decide (k = n)
  | _ => false
theorem am_ba_spec {h : am_H} {a n : Nat} (G : Nat → am_E) (hk : am_ba h a n = true) : ∃ f : Nat → Int32, (am_mH G h).2.2 a = .inl (0, n, .inl f) := by
  unfold am_ba at hk
  split at hk
  · rename_i k f he
    have e := of_decide_eq_true hk
    subst e
    exact ⟨f, by rw [← he]; exact am_mg_of (by rw [he]; rfl)⟩
  · cases hk
def am_tyB (h : am_H) : Bool := decide (h.1 ≤ 600000) && decide (h.2.1 ≤ 7000000) && am_ob h 2 (7, [.ref 3, .int 0, .int 0, .int (-1), .int (-1), .int 0, .int 0, .ref 4]) && am_ba h 3 64 && am_ba h 171 5000
theorem am_q_type0 {G : Nat → am_E} {hC : am_H} {s : Int64} {c : Int32} (F : am_F (am_mH G hC)) (B : am_tyB hC = true) : am_pairI (am_mH G hC) 123 161 [.long s, .int c] am_N1 := by
  unfold am_tyB at B
  simp only [Bool.and_eq_true, decide_eq_true_eq] at B
  obtain ⟨⟨⟨⟨c1, c2⟩, c3⟩, c4⟩, c5⟩ := B
  obtain ⟨hn, f1, f25, f48, f58, f127, f151, f168⟩ := F
  have f2 := am_ob_spec G c3
  obtain ⟨p, f3⟩ := am_ba_spec G c4
  obtain ⟨q, f171⟩ := am_ba_spec G c5
  have hN : am_N1 (am_mH G hC) := ⟨c1, c2⟩
  generalize am_mH G hC = h at *
  have h2 : 2 ≤ h.1 := Nat.le_trans (by decide) hn
  have h168 : 168 ≤ h.1 := Nat.le_trans (by decide) hn
  refine ⟨⟨_, f1⟩, Nat.le_trans (by decide) hn, ?_⟩
  by_cases hc : c < 1 ∨ 8 < c
  · refine am_typeX h2 f1 rfl f2 (am_wp_mono (am_appOut (d := 27) hc) ?_)
    rintro rv h' ⟨e1, e2⟩
    refine ⟨⟨_, e1⟩, -102, e1, ?_⟩
    subst e2
    refine ⟨⟨_, f168⟩, h168, am_wp_mono (am_tyOutM (d := 28) h168 f168 (by decide) hc) ?_⟩
    rintro rw2 h2 ⟨e3, e4⟩
    subst e4
    exact ⟨e3, hN⟩
  · obtain ⟨n, hn8, rfl⟩ := nI_of2 (x := c) (M := 8) (n := 8) (by decide) (fun z => hc (Or.inl (Int32.lt_trans z (by decide)))) (Int32.not_lt.mp (fun z => hc (Or.inr z)))
    have h0 : 0 < n := by
      rcases Nat.eq_zero_or_pos n with rfl | h
      · exact absurd (Or.inl (by decide)) hc
      · exact h
    refine am_typeX h2 f1 rfl f2 (am_wp_mono (am_appOk (d := 26) (z := 0) (N := 64) h0 hn8 (by decide) (by omega) (by decide) ⟨by decide, Nat.le_trans (by decide) hn⟩ h2 f2 rfl rfl f3) ?_)
    rintro rv h' hh
    rcases hh with ⟨hs, e1, e2⟩ | ⟨hs, e1, e2, e3, e4, e5, e6⟩
    · refine ⟨⟨_, e1⟩, -102, e1, ?_⟩
      subst e2
      refine ⟨⟨_, f168⟩, h168, am_wp_mono (am_typeM (d := 28) (z := 0) (N := 5000) h0 hn8 (by decide) (by omega) (by decide) ⟨by decide, Nat.le_trans (by decide) hn⟩ h168 f168 rfl rfl f171) ?_⟩
      rintro rw2 h2 hh2
      rcases hh2 with ⟨hs2, e3, e4⟩ | ⟨hs2, e3⟩
      · subst e4
        exact ⟨e3, hN⟩
      · exact absurd hs2 hs
    · refine ⟨⟨_, e1⟩, nI (0 + n), e1, ?_⟩
      have g168 := (e4 168 (by decide) (by decide)).trans f168
      have g171 := (e4 171 (by decide) (by decide)).trans f171
      refine ⟨⟨_, g168⟩, by rw [e2]; exact h168, am_wp_mono (am_typeM (d := 28) (z := 0) (N := 5000) h0 hn8 (by decide) (by omega) (by decide) ⟨by decide, by rw [e2]; exact Nat.le_trans (by decide) hn⟩ (by rw [e2]; exact h168) g168 rfl rfl g171) ?_⟩
      rintro rw2 h3 hh2
      rcases hh2 with ⟨hs2, -⟩ | ⟨hs2, k1, k2, k3, -⟩
      · exact absurd hs hs2
      · refine ⟨k1, ?_, ?_⟩
        · rw [k2]
          show h'.1 ≤ _
          rw [e2]
          exact hN.1
        · rw [k3]
          show h'.2.1 ≤ _
          rw [e3]
          exact hN.2
set_option maxRecDepth 100000 in
theorem am_tyB_ok : am_tyB am_hC = true := by decide +kernel
theorem am_q_type {G : Nat → am_E} {s : Int64} {c : Int32} : am_pairI (am_mH G am_hC) 123 161 [.long s, .int c] am_N1 := am_q_type0 (am_F_hC G) am_tyB_ok
