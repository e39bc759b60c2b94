/-! type on both sides -/
theorem t_typeX {d : Nat} {E : am_Ev} {s : am_S} {q : Int64} {c : Int32} {PP : Option Value → am_H → Prop} (g : am_Eg E) (hk : am_wp d 82 0 (lv_args 0 [.ref 2, .long q, .int c]) [] (am_hp E s) (fun rv h => (∃ x : Int32, rv = some (.int x)) ∧ PP rv h)) : am_wp (d + 1) 123 0 (lv_args 0 [.ref 1, .long q, .int c]) [] (am_hp E s) PP := by
  have g1 := g.1
  exact am_typeX (show 2 ≤ E.2.2.2.2.1 by omega) (s_ob (show am_lo 1 = _ from rfl)) rfl (s_ob (show am_lo 2 = _ from rfl)) hk
theorem t_tM81 {d : Nat} {E : am_Ev} {s : am_S} {q : Int64} {n : Nat} {z : Int} {PP : Option Value → am_H → Prop} (g : am_Eg E) (hn : 1 ≤ n ∧ n ≤ 8) (hq : am_sP q 0 n) (hz : 0 ≤ z ∧ z ≤ 5000) (ez : s 168 5 = z) (hRm : 5000 < z + n → PP (some (.int (iI (-104)))) (am_hp E s)) (hPP : z + n ≤ 5000 → ∀ s', am_Fm [171] [5] s s' → s' 168 5 = z + n → (∀ y, s' 171 y = tpf q z n n (s 171) y) → PP (some (.int (iI (z + n)))) (am_hp E s')) : am_wp (d + 1) 161 81 [(5, .int (iI (n : Int))), (4, .int 1), (0, .ref 168), (1, .long q), (3, .int (iI (n : Int)))] [] (am_hp E s) PP := by
  refine am_s rfl rfl ?_
  refine s_gi (x := 5) rfl g rfl rfl rfl ?_
  refine am_s rfl rfl ?_
  refine s_iadd rfl ?_
  refine s_k 5000 rfl rfl ?_
  refine s_cle rfl ⟨by omega, by omega⟩ ⟨by omega, by omega⟩ (fun c1 => ?_) (fun c1 => ?_)
  · refine am_s rfl rfl ?_
    refine s_k 1 rfl rfl ?_
    refine s_isub rfl ?_
    refine am_s rfl rfl ?_
    have ei : (n : Int) - 1 = (n : Int) - 1 - ((0 : Nat) : Int) := by omega
    rw [ei]
    refine am_lv [(5, .int (iI ((n : Int) - 1 - (((0 : Nat) : Int) : Int)))), (3, .int (iI (n : Int))), (1, .long q), (0, .ref 168)] rfl rfl ⟨rfl, rfl, rfl, rfl, trivial⟩ ?_
    refine s_loop (X := Unit) (fun k _ s' => am_Fm [171] [5] s s' ∧ s' 168 5 = z + (k : Int) ∧ ∀ y, s' 171 y = tpf q z n (k : Int) (s 171) y) (fun k _ => [(5, .int (iI ((n : Int) - 1 - (k : Int)))), (3, .int (iI (n : Int))), (1, .long q), (0, .ref 168)]) (lo := 0) (hi := n) (x := ()) (Nat.zero_le n) ⟨am_Fm_r _ _ _, by omega, fun y => by rw [show ((0 : Nat) : Int) = 0 from rfl, tpf_0]⟩ ?_ ?_
    · rintro k - s1 hk0 hk1 ⟨hF, hZ, hT⟩ kk
      try simp only at kk ⊢
      have hv := bv_r hq (m := ((n : Int) - 1 - (k : Int)).toNat) (by omega)
      have eby := by8_v (q := q) (i := (n : Int) - 1 - (k : Int)) (by omega) (by omega)
      refine am_s rfl rfl ?_
      refine s_zlt rfl ⟨by omega, by omega⟩ (fun c1 => absurd c1 (by omega)) (fun c1 => ?_)
      refine am_s rfl rfl ?_
      refine s_gr rfl g rfl rfl ?_
      refine am_s rfl rfl ?_
      refine s_gi (x := 5) rfl g rfl rfl rfl ?_
      refine am_s rfl rfl ?_
      refine am_s rfl rfl ?_
      refine am_s rfl rfl ?_
      refine am_s rfl rfl ?_
      refine am_s rfl rfl ?_
      refine am_s rfl rfl ?_
      refine am_s (st' := .int (iI (bv q ((n : Int) - 1 - (k : Int)).toNat)) :: _) rfl (by rw [← eby]; rfl) ?_
      refine s_bs0 rfl g rfl ⟨by omega, by omega⟩ (by decide) ⟨by omega, by omega⟩ ?_
      refine am_s rfl rfl ?_
      refine am_s rfl rfl ?_
      refine s_gi (x := 5) rfl g rfl rfl rfl ?_
      refine s_k 1 rfl rfl ?_
      refine s_iadd rfl ?_
      refine s_pi (x := 5) rfl g rfl rfl rfl rfl ?_
      refine s_inc rfl rfl ?_
      refine am_s rfl rfl ?_
      have ek : (n : Int) - 1 - (k : Int) + -1 = (n : Int) - 1 - ((k + 1 : Nat) : Int) := by omega
      rw [ek]
      refine am_lv [(5, _), (3, _), (1, _), (0, _)] rfl rfl ⟨rfl, rfl, rfl, rfl, trivial⟩ ?_
      refine kk () _ ⟨⟨fun a a1 => by simp at a1; rw [am_w_row a1.1, am_w_row a1.2]; exact hF.1 a (by simp; exact a1), fun y hy => by simp at hy; rw [am_w_x hy, am_w_row (by decide)]; exact hF.2 y (by simp; exact hy)⟩, ?_, fun y => ?_⟩
      · rw [am_w_eq, am_w_row (by decide), hZ]; omega
      · rw [am_w_row (by decide), am_w_fun, hZ]
        show (if y = z + (k : Int) then _ else _) = _
        rw [hT y, show ((k + 1 : Nat) : Int) = (k : Int) + 1 by omega]
        exact tpf_s (by omega)
    · rintro - s1 ⟨hF, hZ, hT⟩
      try simp only
      refine am_s rfl rfl ?_
      refine s_zlt rfl ⟨by omega, by omega⟩ (fun c1 => ?_) (fun c1 => absurd c1 (by omega))
      refine am_s rfl rfl ?_
      refine s_gi (x := 5) rfl g rfl rfl rfl ?_
      rw [hZ]
      exact am_r rfl rfl (hPP (by omega) s1 hF hZ hT)
  · refine s_k (-104) rfl rfl ?_
    exact am_r rfl rfl (hRm (by omega))
theorem t_tM5out {d : Nat} {q : Int64} {c : Int32} {h : am_H} {lv : am_L} (hc : c < 1 ∨ 8 < c) : am_wp (d + 1) 161 5 (lv_args 0 [.ref 168, .long q, .int c]) [] h (fun rv h' => rv = some (.int (-102)) ∧ h' = h) := by
  refine am_s rfl rfl ?_
  refine am_s rfl rfl ?_
  refine am_s rfl rfl ?_
  refine am_s rfl rfl ?_
  refine am_cs (As := [.long c.toInt64, .long (1 : Int32).toInt64, .long (8 : Int32).toInt64]) (rest := []) rfl (Or.inl rfl) rfl rfl (Nat.le_of_ble_eq_true rfl) rfl (am_within _ c 1 8 _) ?_
  rintro rv h' ⟨e8, e10⟩
  rw [e8, e10, if_neg (fun z => hc.elim (fun y => absurd y (Int32.not_lt.mpr z.1)) (fun y => absurd y (Int32.not_lt.mpr z.2)))]
  refine am_bf rfl rfl (by decide) ?_
  refine am_s rfl rfl ?_
  exact am_r rfl rfl ⟨rfl, rfl⟩
theorem t_tM5 {d n : Nat} {s : Int64} {h : am_H} {P : Option Value → am_H → Prop} (h0 : 0 < n) (h8 : n ≤ 8) (k0 : ¬ am_sP s 0 n → P (some (.int (-102))) h) (k1 : am_sP s 0 n → am_wp (d + 1) 161 81 [(5, .int (nI n)), (4, .int 1), (0, .ref 168), (1, .long s), (3, .int (nI n))] [] h P) : am_wp (d + 1) 161 5 (lv_args 0 [.ref 168, .long s, .int (nI n)]) [] h P := by
  refine am_s rfl rfl ?_
  refine am_s rfl rfl ?_
  refine am_s rfl rfl ?_
  refine am_s rfl rfl ?_
  refine am_cs (As := [.long (nI n).toInt64, .long (1 : Int32).toInt64, .long (8 : Int32).toInt64]) (rest := []) rfl (Or.inl rfl) rfl rfl (Nat.le_of_ble_eq_true rfl) rfl (am_within _ (nI n) 1 8 _) ?_
  rintro rv h' ⟨e8, e10⟩
  rw [e8, e10, if_pos ⟨nI_le (a := 1) h0 (by omega), nI_le (b := 8) h8 (by omega)⟩]
  refine am_bt rfl rfl (by decide) ?_
  refine am_s rfl rfl ?_
  refine am_s rfl rfl ?_
  refine am_s rfl rfl ?_
  refine am_s rfl rfl ?_
  refine am_tyMg (n := n) h8 ?_ n 0 1 rfl (Nat.zero_le n) (Or.inl ⟨rfl, fun j _ j2 => absurd j2 (Nat.not_lt_zero j)⟩)
  intro g hg
  refine am_s rfl rfl ?_
  rcases hg with ⟨rfl, hp⟩ | ⟨rfl, hp⟩
  · refine am_bt rfl rfl (by decide) ?_
    exact k1 hp
  · refine am_bf rfl rfl (by decide) ?_
    refine am_s rfl rfl ?_
    exact am_r rfl rfl (k0 hp)
theorem t_typeM0 {d : Nat} {E : am_Ev} {s : am_S} {q : Int64} {c : Int32} {PP : Option Value → am_H → Prop} (g : am_Eg E) (hc : c < 1 ∨ 8 < c) (h1 : PP (some (.int (iI (-102)))) (am_hp E (am_w s 168 0 0))) : am_wp (d + 1) 161 0 (lv_args 0 [.ref 168, .long q, .int c]) [] (am_hp E s) PP := by
  refine am_s rfl rfl ?_
  refine s_k 0 rfl rfl ?_
  refine s_pi (x := 0) rfl g rfl rfl rfl rfl ?_
  refine am_wp_mono (t_tM5out (lv := []) hc) ?_
  rintro rv h ⟨rfl, rfl⟩
  exact h1
theorem t_typeM {d : Nat} {E : am_Ev} {s : am_S} {q : Int64} {n : Nat} {z : Int} {PP : Option Value → am_H → Prop} (g : am_Eg E) (hn : 1 ≤ n ∧ n ≤ 8) (hz : 0 ≤ z ∧ z ≤ 5000) (ez : s 168 5 = z) (hNo : ¬ am_sP q 0 n → PP (some (.int (iI (-102)))) (am_hp E (am_w s 168 0 0))) (hRm : am_sP q 0 n → 5000 < z + n → PP (some (.int (iI (-104)))) (am_hp E (am_w s 168 0 0))) (hPP : am_sP q 0 n → z + n ≤ 5000 → ∀ s', am_Fm [171] [5] (am_w s 168 0 0) s' → s' 168 5 = z + n → (∀ y, s' 171 y = tpf q z n n (s 171) y) → PP (some (.int (iI (z + n)))) (am_hp E s')) : am_wp (d + 1) 161 0 (lv_args 0 [.ref 168, .long q, .int (iI (n : Int))]) [] (am_hp E s) PP := by
  refine am_s rfl rfl ?_
  refine s_k 0 rfl rfl ?_
  refine s_pi (x := 0) rfl g rfl rfl rfl rfl ?_
  rw [← nI_iI]
  refine t_tM5 (by omega) hn.2 hNo ?_
  intro hq
  rw [nI_iI]
  exact t_tM81 (s := am_w s 168 0 0) g hn hq hz ez (hRm hq) (hPP hq)
