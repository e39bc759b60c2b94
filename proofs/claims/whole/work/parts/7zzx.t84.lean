/-! the walk of the class -/
def xO (s : am_S) (p q : Int) : Int := s (130 + 1 + p.toNat) q
def owFr (s s' : am_S) : Prop := ∀ q, ¬ (131 ≤ q ∧ q ≤ 150) → s' q = s q
theorem ow_2 {s : am_S} {a b k : Int} (ha : 0 ≤ a ∧ a < 20) (hb : 0 ≤ b ∧ b < 20) {p q : Int} (p0 : 0 ≤ p) : xO (am_w (am_w s (130 + 1 + a.toNat) b (s (130 + 1 + a.toNat) b + k)) (130 + 1 + b.toNat) a (am_w s (130 + 1 + a.toNat) b (s (130 + 1 + a.toNat) b + k) (130 + 1 + b.toNat) a + k)) p q = xO s p q + k * w2f a b p q := by
  have e1 : (130 + 1 + p.toNat = 130 + 1 + b.toNat ∧ q = a) ↔ (p = b ∧ q = a) := ⟨fun z => ⟨by omega, z.2⟩, fun z => ⟨by rw [z.1], z.2⟩⟩
  have e2 : (130 + 1 + p.toNat = 130 + 1 + a.toNat ∧ q = b) ↔ (p = a ∧ q = b) := ⟨fun z => ⟨by omega, z.2⟩, fun z => ⟨by rw [z.1], z.2⟩⟩
  have e3 : (130 + 1 + b.toNat = 130 + 1 + a.toNat ∧ a = b) ↔ a = b := ⟨fun z => z.2, fun z => ⟨by rw [z], z⟩⟩
  unfold xO w2f am_w
  by_cases c1 : p = b ∧ q = a
  · rw [if_pos (e1.mpr c1), if_pos c1]
    by_cases c2 : p = a ∧ q = b
    · have ab : a = b := by omega
      rw [if_pos (e3.mpr ab), if_pos c2, c2.1, c2.2]
      omega
    · have ab : ¬ a = b := fun z => c2 ⟨by omega, by omega⟩
      rw [if_neg (fun z => ab (e3.mp z)), if_neg c2, c1.1, c1.2]
      omega
  · rw [if_neg (fun z => c1 (e1.mp z)), if_neg c1]
    by_cases c2 : p = a ∧ q = b
    · rw [if_pos (e2.mpr c2), if_pos c2, c2.1, c2.2]; omega
    · rw [if_neg (fun z => c2 (e2.mp z)), if_neg c2]; omega
theorem ow_fr {s : am_S} {a b x y u v : Int} (ha : 0 ≤ a ∧ a < 20) (hb : 0 ≤ b ∧ b < 20) : owFr s (am_w (am_w s (130 + 1 + a.toNat) x u) (130 + 1 + b.toNat) y v) := fun q hq => by
  rw [am_w_row (by omega), am_w_row (by omega)]
theorem t_openWay {d : Nat} {E : am_Ev} {s : am_S} {a b : Int} (g : am_Eg E) (ha : 0 ≤ a ∧ a < 20) (hb : 0 ≤ b ∧ b < 20) : am_wp d 119 0 (lv_args 0 [.ref 127, .int (iI a), .int (iI b)]) [] (am_hp E s) (fun rv h => rv = none ∧ h = am_hp E (am_w (am_w s (130 + 1 + a.toNat) b (s (130 + 1 + a.toNat) b + 1)) (130 + 1 + b.toNat) a (am_w s (130 + 1 + a.toNat) b (s (130 + 1 + a.toNat) b + 1) (130 + 1 + b.toNat) a + 1))) := by
  refine am_s rfl rfl ?_
  refine s_k (-1) rfl rfl ?_
  refine s_ceq rfl ⟨by omega, by omega⟩ ⟨by omega, by omega⟩ (fun c1 => absurd c1 (by omega)) (fun c1 => ?_)
  refine am_s rfl rfl ?_
  refine s_gr rfl g rfl rfl ?_
  refine am_s rfl rfl ?_
  refine s_aa rfl g rfl ⟨by omega, by omega⟩ (by decide) ?_
  refine am_s rfl rfl ?_
  refine am_s rfl rfl ?_
  refine s_ia rfl g (lo_130 (by omega) (by omega)) ⟨by omega, by omega⟩ (by decide) ?_
  refine s_k 1 rfl rfl ?_
  refine s_iadd rfl ?_
  refine s_is rfl g (lo_130 (by omega) (by omega)) ⟨by omega, by omega⟩ (by decide) ?_
  refine am_s rfl rfl ?_
  refine s_gr rfl g rfl rfl ?_
  refine am_s rfl rfl ?_
  refine s_aa rfl g rfl ⟨by omega, by omega⟩ (by decide) ?_
  refine am_s rfl rfl ?_
  refine am_s rfl rfl ?_
  refine s_ia rfl g (lo_130 (by omega) (by omega)) ⟨by omega, by omega⟩ (by decide) ?_
  refine s_k 1 rfl rfl ?_
  refine s_iadd rfl ?_
  refine s_is rfl g (lo_130 (by omega) (by omega)) ⟨by omega, by omega⟩ (by decide) ?_
  exact am_r rfl rfl ⟨rfl, rfl⟩
theorem t_openWayN {d : Nat} {E : am_Ev} {s : am_S} {a : Int} (g : am_Eg E) : am_wp d 119 0 (lv_args 0 [.ref 127, .int (iI a), .int (iI (-1))]) [] (am_hp E s) (fun rv h => rv = none ∧ h = am_hp E s) := by
  refine am_s rfl rfl ?_
  refine s_k (-1) rfl rfl ?_
  refine s_ceq rfl ⟨by omega, by omega⟩ ⟨by omega, by omega⟩ (fun c1 => ?_) (fun c1 => absurd c1 (by omega))
  exact am_r rfl rfl ⟨rfl, rfl⟩
theorem t_leastOpen {d : Nat} {E : am_Ev} {s : am_S} {n c : Int} {PP : Option Value → am_H → Prop} (g : am_Eg E) (hn : 1 ≤ n ∧ n ≤ 20) (hc : 0 ≤ c ∧ c < 20) (hr : ∀ q, 0 ≤ q → q < n → 0 ≤ xO s c q ∧ xO s c q < 1000) (hPP : ∀ x, wl n (xO s) c x → PP (some (.int (iI x))) (am_hp E s)) : am_wp d 120 0 (lv_args 0 [.ref 127, .int (iI c), .int (iI n)]) [] (am_hp E s) PP := by
  obtain ⟨N, en⟩ : ∃ N : Nat, n = N := ⟨n.toNat, by omega⟩
  refine s_k 0 rfl rfl ?_
  refine am_s rfl rfl ?_
  refine am_lv [(3, .int (iI (((0 : Nat) : Int) : Int))), (2, .int (iI n)), (1, .int (iI c)), (0, .ref 127)] rfl rfl ⟨rfl, rfl, rfl, rfl, trivial⟩ ?_
  refine s_loop (X := Unit) (fun k _ s' => s = s' ∧ ∀ x, 0 ≤ x → x < (k : Int) → ¬ 0 < xO s c x) (fun k _ => [(3, .int (iI (k : Int))), (2, .int (iI n)), (1, .int (iI c)), (0, .ref 127)]) (hi := N) (x := ()) (Nat.zero_le N) ⟨rfl, fun x x0 x1 => by omega⟩ ?_ ?_
  · rintro k - s1 hk0 hk1 ⟨rfl, hQ⟩ kk
    simp only at kk ⊢
    have hr1 := hr k (by omega) (by omega)
    unfold xO at hr1
    refine am_s rfl rfl ?_
    refine am_s rfl rfl ?_
    refine s_cge rfl ⟨by omega, by omega⟩ ⟨by omega, by omega⟩ (fun c1 => absurd c1 (by omega)) (fun c1 => ?_)
    refine am_s rfl rfl ?_
    refine s_gr rfl g rfl rfl ?_
    refine am_s rfl rfl ?_
    refine s_aa rfl g rfl ⟨by omega, by omega⟩ (by decide) ?_
    refine am_s rfl rfl ?_
    refine s_ia rfl g (lo_130 (by omega) (by omega)) ⟨by omega, by omega⟩ (by decide) ?_
    refine s_zle rfl ⟨by omega, by omega⟩ (fun c2 => ?_) (fun c2 => ?_)
    · refine s_inc rfl rfl ?_
      refine am_s rfl rfl ?_
      refine am_lv [(3, _), (2, _), (1, _), (0, _)] rfl rfl ⟨rfl, rfl, rfl, rfl, trivial⟩ ?_
      refine kk () _ ⟨rfl, fun x x0 x1 => ?_⟩
      by_cases e : x = (k : Int)
      · rw [e]; unfold xO; omega
      · exact hQ x x0 (by omega)
    · refine am_s rfl rfl ?_
      exact am_r rfl rfl (hPP k (Or.inr ⟨by omega, by omega, by unfold xO; omega, hQ⟩))
  · rintro - s1 ⟨rfl, hQ⟩
    simp only
    refine am_s rfl rfl ?_
    refine am_s rfl rfl ?_
    refine s_cge rfl ⟨by omega, by omega⟩ ⟨by omega, by omega⟩ (fun c1 => ?_) (fun c1 => absurd c1 (by omega))
    refine s_k (-1) rfl rfl ?_
    exact am_r rfl rfl (hPP (-1) (Or.inl ⟨rfl, fun x x0 x1 => hQ x x0 (by omega)⟩))
set_option maxHeartbeats 4000000 in
theorem t_openWays {d : Nat} {E : am_Ev} {s : am_S} {n : Int} {N : Nat} (g : am_Eg E) (en : n = N) (hn : 1 ≤ n ∧ n ≤ 20) (h0 : s 50 0 = -1) (hu : ∀ c, 1 ≤ c → c < n → 0 ≤ s 50 c ∧ s 50 c < n) (hp : ∀ c, 0 ≤ c → c < n → -1 ≤ s 60 c ∧ s 60 c < n) : am_wp (d + 1) 118 0 (lv_args 0 [.ref 127, .int (iI n), .ref 48, .ref 58]) [] (am_hp E s) (fun rv h => rv = none ∧ ∃ s', h = am_hp E s' ∧ owFr s s' ∧ ∀ p q, 0 ≤ p → p < n → 0 ≤ q → q < n → xO s' p q = wOt (s 50) N p q + wOp (s 60) N p q) := by
  refine s_k 0 rfl rfl ?_
  refine am_s rfl rfl ?_
  refine am_lv [(4, .int (iI (((0 : Nat) : Int) : Int))), (3, .ref 58), (2, .ref 48), (1, .int (iI n)), (0, .ref 127)] rfl rfl ⟨rfl, rfl, rfl, rfl, rfl, trivial⟩ ?_
  refine s_loop (X := Unit) (fun k _ s' => owFr s s' ∧ ∀ p q, 0 ≤ p → p < (k : Int) → 0 ≤ q → q < 20 → xO s' p q = 0) (fun k _ => [(4, .int (iI (k : Int))), (3, .ref 58), (2, .ref 48), (1, .int (iI n)), (0, .ref 127)]) (hi := N) (x := ()) (Nat.zero_le N) ⟨fun _ _ => rfl, fun p q p0 p1 => by omega⟩ ?_ ?_
  · rintro k - s1 hk0 hk1 ⟨hO1, hZ1⟩ kk
    simp only at kk ⊢
    refine am_s rfl rfl ?_
    refine am_s rfl rfl ?_
    refine s_cge rfl ⟨by omega, by omega⟩ ⟨by omega, by omega⟩ (fun c1 => absurd c1 (by omega)) (fun c1 => ?_)
    refine am_s rfl rfl ?_
    refine s_gr rfl g rfl rfl ?_
    refine am_s rfl rfl ?_
    refine s_aa rfl g rfl ⟨by omega, by omega⟩ (by decide) ?_
    refine s_k 0 rfl rfl ?_
    refine am_cs (As := [_, _]) (rest := []) rfl (Or.inl rfl) rfl rfl (Nat.le_of_ble_eq_true rfl) rfl (t_fillI (n := 20) g (lo_130 (x := (k : Int)) (by omega) (by omega)) (by decide)) ?_
    rintro rv h1 ⟨rfl, s2, rfl, hF2, hV2⟩
    refine s_inc rfl rfl ?_
    refine am_s rfl rfl ?_
    refine am_lv [(4, _), (3, _), (2, _), (1, _), (0, _)] rfl rfl ⟨rfl, rfl, rfl, rfl, rfl, trivial⟩ ?_
    refine kk () _ ⟨fun q hq => ?_, fun p q p0 p1 q0 q1 => ?_⟩
    · rw [hF2 q (fun z => by simp at z; omega)]; exact hO1 q hq
    · unfold xO
      by_cases e : p = (k : Int)
      · rw [e]; exact hV2 q q0 q1
      · rw [hF2 _ (fun z => by simp at z; omega)]; exact hZ1 p q p0 (by omega) q0 q1
  · rintro - s1 ⟨hO1, hZ1⟩
    simp only
    refine am_s rfl rfl ?_
    refine am_s rfl rfl ?_
    refine s_cge rfl ⟨by omega, by omega⟩ ⟨by omega, by omega⟩ (fun c1 => ?_) (fun c1 => absurd c1 (by omega))
    refine s_k 0 rfl rfl ?_
    refine am_s rfl rfl ?_
    refine am_lv [(4, .int (iI (((0 : Nat) : Int) : Int))), (3, .ref 58), (2, .ref 48), (1, .int (iI n)), (0, .ref 127)] rfl rfl ⟨rfl, rfl, rfl, rfl, rfl, trivial⟩ ?_
    refine s_loop (X := Unit) (fun k _ s' => owFr s s' ∧ ∀ p q, 0 ≤ p → p < n → 0 ≤ q → q < n → xO s' p q = wOt (s 50) k p q + wOp (s 60) k p q) (fun k _ => [(4, .int (iI (k : Int))), (3, .ref 58), (2, .ref 48), (1, .int (iI n)), (0, .ref 127)]) (hi := N) (x := ()) (Nat.zero_le N) ⟨hO1, fun p q p0 p1 q0 q1 => hZ1 p q p0 (by omega) q0 (by omega)⟩ ?_ ?_
    · rintro k - s2 hk0 hk1 ⟨hO2, hW2⟩ kk
      simp only at kk ⊢
      have e50 : s2 50 = s 50 := hO2 50 (by decide)
      have e60 : s2 60 = s 60 := hO2 60 (by decide)
      have q50 : s2 50 k = s 50 k := by rw [e50]
      have hpk := hp k (by omega) (by omega)
      refine am_s rfl rfl ?_
      refine am_s rfl rfl ?_
      refine s_cge rfl ⟨by omega, by omega⟩ ⟨by omega, by omega⟩ (fun c1 => absurd c1 (by omega)) (fun c1 => ?_)
      refine am_s rfl rfl ?_
      refine am_s rfl rfl ?_
      refine am_s rfl rfl ?_
      refine s_gr rfl g rfl rfl ?_
      refine s_gr rfl g rfl rfl ?_
      refine am_s rfl rfl ?_
      refine s_ia rfl g rfl ⟨by omega, by omega⟩ (by decide) ?_
      rw [q50]
      by_cases ck : k = 0
      · have hk50 : s 50 k = -1 := by rw [ck]; exact h0
        rw [hk50]
        refine s_cv [_, _] [] rfl g (Or.inl rfl) rfl rfl (Nat.le_of_ble_eq_true rfl) rfl rfl (t_openWayN (s := s2) g) ?_
        rintro rv h1 ⟨rfl, rfl⟩
        have o_s2 := hO2
        have f_s2 : s2 60 = s 60 := e60
        have h_s2 : ∀ p q, 0 ≤ p → p < n → 0 ≤ q → q < n → xO s2 p q = wOt (s 50) (k + 1) p q + wOp (s 60) k p q := fun p q p0 p1 q0 q1 => by
          rw [hW2 p q p0 p1 q0 q1]
          show _ = (wOt (s 50) k p q + (if k = 0 then 0 else w2f k (s 50 k) p q)) + _
          rw [if_pos ck]; omega
        refine am_s rfl rfl ?_
        refine s_gr rfl g rfl rfl ?_
        refine am_s rfl rfl ?_
        refine s_ia rfl g rfl ⟨by omega, by omega⟩ (by decide) ?_
        rw [f_s2]
        refine am_s rfl rfl ?_
        refine s_cle rfl ⟨by omega, by omega⟩ ⟨by omega, by omega⟩ (fun c1 => ?_) (fun c1 => ?_)
        · refine s_inc rfl rfl ?_
          refine am_s rfl rfl ?_
          refine am_lv [(4, _), (3, _), (2, _), (1, _), (0, _)] rfl rfl ⟨rfl, rfl, rfl, rfl, rfl, trivial⟩ ?_
          refine kk () _ ⟨o_s2, fun p q p0 p1 q0 q1 => ?_⟩
          rw [h_s2 p q p0 p1 q0 q1]
          show _ = wOt (s 50) (k + 1) p q + (wOp (s 60) k p q + (if (k : Int) < s 60 k then w2f k (s 60 k) p q else 0))
          rw [if_neg (by omega)]; omega
        · refine am_s rfl rfl ?_
          refine am_s rfl rfl ?_
          refine am_s rfl rfl ?_
          refine s_gr rfl g rfl rfl ?_
          refine am_s rfl rfl ?_
          refine s_ia rfl g rfl ⟨by omega, by omega⟩ (by decide) ?_
          rw [f_s2]
          refine s_cv [_, _] [] rfl g (Or.inl rfl) rfl rfl (Nat.le_of_ble_eq_true rfl) rfl rfl (t_openWay (s := s2) g ⟨by omega, by omega⟩ ⟨by omega, by omega⟩) ?_
          rintro rv h1 ⟨rfl, rfl⟩
          refine s_inc rfl rfl ?_
          refine am_s rfl rfl ?_
          refine am_lv [(4, _), (3, _), (2, _), (1, _), (0, _)] rfl rfl ⟨rfl, rfl, rfl, rfl, rfl, trivial⟩ ?_
          refine kk () _ ⟨fun q hq => (ow_fr ⟨by omega, by omega⟩ ⟨by omega, by omega⟩ q hq).trans (o_s2 q hq), fun p q p0 p1 q0 q1 => ?_⟩
          rw [ow_2 ⟨by omega, by omega⟩ ⟨by omega, by omega⟩ p0, h_s2 p q p0 p1 q0 q1]
          show _ = wOt (s 50) (k + 1) p q + (wOp (s 60) k p q + (if (k : Int) < s 60 k then w2f k (s 60 k) p q else 0))
          rw [if_pos (by omega)]; omega
      · have hk50 := hu k (by omega) (by omega)
        refine s_cv [_, _] [] rfl g (Or.inl rfl) rfl rfl (Nat.le_of_ble_eq_true rfl) rfl rfl (t_openWay (s := s2) g ⟨by omega, by omega⟩ ⟨by omega, by omega⟩) ?_
        rintro rv h1 ⟨rfl, rfl⟩
        have h_s3 : ∀ p q, 0 ≤ p → p < n → 0 ≤ q → q < n → xO (am_w (am_w s2 (130 + 1 + (k : Int).toNat) (s 50 k) (s2 (130 + 1 + (k : Int).toNat) (s 50 k) + 1)) (130 + 1 + (s 50 k).toNat) k (am_w s2 (130 + 1 + (k : Int).toNat) (s 50 k) (s2 (130 + 1 + (k : Int).toNat) (s 50 k) + 1) (130 + 1 + (s 50 k).toNat) k + 1)) p q = wOt (s 50) (k + 1) p q + wOp (s 60) k p q := fun p q p0 p1 q0 q1 => by
          rw [ow_2 ⟨by omega, by omega⟩ ⟨by omega, by omega⟩ p0, hW2 p q p0 p1 q0 q1]
          show _ = (wOt (s 50) k p q + (if k = 0 then 0 else w2f k (s 50 k) p q)) + _
          rw [if_neg ck]; omega
        have o_s3 : owFr s (am_w (am_w s2 (130 + 1 + (k : Int).toNat) (s 50 k) (s2 (130 + 1 + (k : Int).toNat) (s 50 k) + 1)) (130 + 1 + (s 50 k).toNat) k (am_w s2 (130 + 1 + (k : Int).toNat) (s 50 k) (s2 (130 + 1 + (k : Int).toNat) (s 50 k) + 1) (130 + 1 + (s 50 k).toNat) k + 1)) := fun q hq => (ow_fr ⟨by omega, by omega⟩ ⟨by omega, by omega⟩ q hq).trans (hO2 q hq)
        generalize am_w (am_w s2 (130 + 1 + (k : Int).toNat) (s 50 k) (s2 (130 + 1 + (k : Int).toNat) (s 50 k) + 1)) (130 + 1 + (s 50 k).toNat) k (am_w s2 (130 + 1 + (k : Int).toNat) (s 50 k) (s2 (130 + 1 + (k : Int).toNat) (s 50 k) + 1) (130 + 1 + (s 50 k).toNat) k + 1) = s3 at h_s3 o_s3 ⊢
        have f_s3 : s3 60 = s 60 := o_s3 60 (by decide)
        refine am_s rfl rfl ?_
        refine s_gr rfl g rfl rfl ?_
        refine am_s rfl rfl ?_
        refine s_ia rfl g rfl ⟨by omega, by omega⟩ (by decide) ?_
        rw [f_s3]
        refine am_s rfl rfl ?_
        refine s_cle rfl ⟨by omega, by omega⟩ ⟨by omega, by omega⟩ (fun c1 => ?_) (fun c1 => ?_)
        · refine s_inc rfl rfl ?_
          refine am_s rfl rfl ?_
          refine am_lv [(4, _), (3, _), (2, _), (1, _), (0, _)] rfl rfl ⟨rfl, rfl, rfl, rfl, rfl, trivial⟩ ?_
          refine kk () _ ⟨o_s3, fun p q p0 p1 q0 q1 => ?_⟩
          rw [h_s3 p q p0 p1 q0 q1]
          show _ = wOt (s 50) (k + 1) p q + (wOp (s 60) k p q + (if (k : Int) < s 60 k then w2f k (s 60 k) p q else 0))
          rw [if_neg (by omega)]; omega
        · refine am_s rfl rfl ?_
          refine am_s rfl rfl ?_
          refine am_s rfl rfl ?_
          refine s_gr rfl g rfl rfl ?_
          refine am_s rfl rfl ?_
          refine s_ia rfl g rfl ⟨by omega, by omega⟩ (by decide) ?_
          rw [f_s3]
          refine s_cv [_, _] [] rfl g (Or.inl rfl) rfl rfl (Nat.le_of_ble_eq_true rfl) rfl rfl (t_openWay (s := s3) g ⟨by omega, by omega⟩ ⟨by omega, by omega⟩) ?_
          rintro rv h1 ⟨rfl, rfl⟩
          refine s_inc rfl rfl ?_
          refine am_s rfl rfl ?_
          refine am_lv [(4, _), (3, _), (2, _), (1, _), (0, _)] rfl rfl ⟨rfl, rfl, rfl, rfl, rfl, trivial⟩ ?_
          refine kk () _ ⟨fun q hq => (ow_fr ⟨by omega, by omega⟩ ⟨by omega, by omega⟩ q hq).trans (o_s3 q hq), fun p q p0 p1 q0 q1 => ?_⟩
          rw [ow_2 ⟨by omega, by omega⟩ ⟨by omega, by omega⟩ p0, h_s3 p q p0 p1 q0 q1]
          show _ = wOt (s 50) (k + 1) p q + (wOp (s 60) k p q + (if (k : Int) < s 60 k then w2f k (s 60 k) p q else 0))
          rw [if_pos (by omega)]; omega
    · rintro - s2 ⟨hO2, hW2⟩
      simp only
      refine am_s rfl rfl ?_
      refine am_s rfl rfl ?_
      refine s_cge rfl ⟨by omega, by omega⟩ ⟨by omega, by omega⟩ (fun c1 => ?_) (fun c1 => absurd c1 (by omega))
      exact am_r rfl rfl ⟨rfl, s2, rfl, hO2, hW2⟩
