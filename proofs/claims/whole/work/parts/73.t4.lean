/-! flaws -/
def fl_own (n : Int) (D : Int → Int → Int) : Prop := ∀ x, 0 ≤ x → x < n → D x x = 0
def fl_sym (n : Int) (D : Int → Int → Int) : Prop := ∀ x y, 0 ≤ x → x < n → 0 ≤ y → y < n → D x y = D y x
def fl_tri (n : Int) (D : Int → Int → Int) : Prop := ∀ x y z, 0 ≤ x → x < n → 0 ≤ y → y < n → 0 ≤ z → z < n → D x z ≤ D x y + D y z
def fl_is (n : Int) (D : Int → Int → Int) (k a b c : Int) : Prop :=
  (k = 0 ∧ a = -1 ∧ b = -1 ∧ c = -1 ∧ fl_own n D ∧ fl_sym n D ∧ fl_tri n D) ∨
  (k = 1 ∧ b = -1 ∧ c = -1 ∧ 0 ≤ a ∧ a < n ∧ D a a ≠ 0 ∧ ∀ x, 0 ≤ x → x < a → D x x = 0) ∨
  (k = 2 ∧ c = -1 ∧ fl_own n D ∧ 0 ≤ a ∧ a < b ∧ b < n ∧ D a b ≠ D b a ∧ ∀ x y, 0 ≤ x → x < y → y < n → (x < a ∨ x = a ∧ y < b) → D x y = D y x) ∨
  (k = 3 ∧ fl_own n D ∧ fl_sym n D ∧ (0 ≤ a ∧ a < n) ∧ (0 ≤ b ∧ b < n) ∧ (0 ≤ c ∧ c < n) ∧ D a b + D b c < D a c ∧ ∀ x y z, 0 ≤ x → x < n → 0 ≤ y → y < n → 0 ≤ z → z < n → (x < a ∨ x = a ∧ (y < b ∨ y = b ∧ z < c)) → D x z ≤ D x y + D y z)
theorem fl_uniq {n : Int} {D : Int → Int → Int} {k a b c k2 a2 b2 c2 : Int} (h : fl_is n D k a b c) (h2 : fl_is n D k2 a2 b2 c2) : k = k2 ∧ a = a2 ∧ b = b2 ∧ c = c2 := by
  rcases h with ⟨e1, e2, e3, e4, o1, o2, o3⟩ | ⟨e1, e2, e3, p1, p2, p3, p4⟩ | ⟨e1, e2, o1, p1, p2, p3, p4, p5⟩ | ⟨e1, o1, o2, p1, p2, p3, p4, p5⟩ <;> rcases h2 with ⟨f1, f2, f3, f4, q1, q2, q3⟩ | ⟨f1, f2, f3, r1, r2, r3, r4⟩ | ⟨f1, f2, q1, r1, r2, r3, r4, r5⟩ | ⟨f1, q1, q2, r1, r2, r3, r4, r5⟩
  · omega
  · exact absurd (o1 a2 r1 r2) r3
  · exact absurd (o2 a2 b2 r1 (by omega) (by omega) r3) r4
  · have := o3 a2 b2 c2 r1.1 r1.2 r2.1 r2.2 r3.1 r3.2
    omega
  · exact absurd (q1 a p1 p2) p3
  · rcases Int.lt_trichotomy a a2 with h | h | h
    · exact absurd (r4 a p1 h) p3
    · omega
    · exact absurd (p4 a2 r1 h) r3
  · exact absurd (q1 a p1 p2) p3
  · exact absurd (q1 a p1 p2) p3
  · exact absurd (q2 a b p1 (by omega) (by omega) p3) p4
  · exact absurd (o1 a2 r1 r2) r3
  · rcases Int.lt_trichotomy a a2 with h | h | h
    · exact absurd (r5 a b p1 p2 p3 (Or.inl h)) p4
    · rcases Int.lt_trichotomy b b2 with h' | h' | h'
      · exact absurd (r5 a b p1 p2 p3 (Or.inr ⟨h, h'⟩)) p4
      · omega
      · exact absurd (p5 a2 b2 r1 r2 r3 (Or.inr ⟨h.symm, h'⟩)) r4
    · exact absurd (p5 a2 b2 r1 r2 r3 (Or.inl h)) r4
  · exact absurd (q2 a b p1 (by omega) (by omega) p3) p4
  · have := q3 a b c p1.1 p1.2 p2.1 p2.2 p3.1 p3.2
    omega
  · exact absurd (o1 a2 r1 r2) r3
  · exact absurd (o2 a2 b2 r1 (by omega) (by omega) r3) r4
  · have key : ¬ (a < a2 ∨ a = a2 ∧ (b < b2 ∨ b = b2 ∧ c < c2)) := fun h => by
      have := r5 a b c p1.1 p1.2 p2.1 p2.2 p3.1 p3.2 h
      omega
    have key2 : ¬ (a2 < a ∨ a2 = a ∧ (b2 < b ∨ b2 = b ∧ c2 < c)) := fun h => by
      have := p5 a2 b2 c2 r1.1 r1.2 r2.1 r2.2 r3.1 r3.2 h
      omega
    omega
/-- the class's distances -/
def mx (s : am_S) (a b : Int) : Int := s (26 + 1 + a.toNat) b
def mx_ok (s : am_S) : Prop := 1 ≤ s 25 0 ∧ s 25 0 ≤ 20 ∧ ∀ a b, 0 ≤ a → a < s 25 0 → 0 ≤ b → b < s 25 0 → 0 ≤ mx s a b ∧ mx s a b < 2147483648
def s_kf (s : am_S) (k a b c : Int) : am_S := am_w (am_w (am_w (am_w s 47 0 k) 47 1 a) 47 2 b) 47 3 c
theorem mx_kf (s : am_S) (k a b c : Int) (x y : Int) (h0 : 0 ≤ x) (h1 : x < 20) : mx (s_kf s k a b c) x y = mx s x y := by
  unfold mx s_kf
  have hne : 26 + 1 + x.toNat ≠ 47 := by omega
  rw [am_w_a hne, am_w_a hne, am_w_a hne, am_w_a hne]
theorem t_keep {d : Nat} {E : am_Ev} {s : am_S} {k a b c : Int} (g : am_Eg E) : am_wp d 67 0 (lv_args 0 [.ref 25, .int (iI k), .int (iI a), .int (iI b), .int (iI c)]) [] (am_hp E s) (fun rv h => rv = some (.int (iI 1)) ∧ h = am_hp E (s_kf s k a b c)) := by
  refine am_s rfl rfl ?_
  refine s_gr rfl g rfl rfl ?_
  refine s_k 0 rfl rfl ?_
  refine am_s rfl rfl ?_
  refine s_is rfl g rfl ⟨by omega, by omega⟩ (by decide) ?_
  refine am_s rfl rfl ?_
  refine s_gr rfl g rfl rfl ?_
  refine s_k 1 rfl rfl ?_
  refine am_s rfl rfl ?_
  refine s_is rfl g rfl ⟨by omega, by omega⟩ (by decide) ?_
  refine am_s rfl rfl ?_
  refine s_gr rfl g rfl rfl ?_
  refine s_k 2 rfl rfl ?_
  refine am_s rfl rfl ?_
  refine s_is rfl g rfl ⟨by omega, by omega⟩ (by decide) ?_
  refine am_s rfl rfl ?_
  refine s_gr rfl g rfl rfl ?_
  refine s_k 3 rfl rfl ?_
  refine am_s rfl rfl ?_
  refine s_is rfl g rfl ⟨by omega, by omega⟩ (by decide) ?_
  refine s_k 1 rfl rfl ?_
  exact am_r rfl rfl ⟨rfl, rfl⟩
theorem t_seeOwn {d : Nat} {E : am_Ev} {s : am_S} (g : am_Eg E) (hm : mx_ok s) : am_wp (d + 1) 68 0 (lv_args 0 [.ref 25]) [] (am_hp E s) (fun rv h => (rv = some (.int (iI 0)) ∧ h = am_hp E s ∧ fl_own (s 25 0) (mx s)) ∨ (rv = some (.int (iI 1)) ∧ ∃ a, 0 ≤ a ∧ a < s 25 0 ∧ mx s a a ≠ 0 ∧ (∀ x, 0 ≤ x → x < a → mx s x x = 0) ∧ h = am_hp E (s_kf s 1 a (-1) (-1)))) := by
  obtain ⟨n1, n2, hD⟩ := hm
  obtain ⟨n, en⟩ : ∃ n : Nat, s 25 0 = n := ⟨(s 25 0).toNat, by omega⟩
  refine s_k 0 rfl rfl ?_
  refine am_s rfl rfl ?_
  refine am_lv [(1, .int (iI (((0 : Nat) : Int) : Int))), (0, .ref 25)] rfl rfl ⟨rfl, rfl, trivial⟩ ?_
  refine s_loop (X := Unit) (fun k _ s' => s = s' ∧ ∀ x, 0 ≤ x → x < (k : Int) → mx s x x = 0) (fun k _ => [(1, .int (iI (k : Int))), (0, .ref 25)]) (hi := n) (x := ()) (Nat.zero_le n) ⟨rfl, fun x x0 x1 => absurd x1 (by omega)⟩ ?_ ?_
  · rintro k - s1 hk0 hk ⟨rfl, hA⟩ kk
    simp only at kk ⊢
    refine am_s rfl rfl ?_
    refine am_s rfl rfl ?_
    refine s_gi (x := 0) rfl g rfl rfl rfl ?_
    refine s_cge rfl ⟨by omega, by omega⟩ ⟨by omega, by omega⟩ (fun c1 => absurd c1 (by omega)) (fun c1 => ?_)
    refine am_s rfl rfl ?_
    refine s_gr rfl g rfl rfl ?_
    refine am_s rfl rfl ?_
    refine s_aa rfl g rfl ⟨by omega, by omega⟩ (by decide) ?_
    refine am_s rfl rfl ?_
    refine s_ia rfl g (lo_26 (by omega) (by omega)) ⟨by omega, by omega⟩ (by decide) ?_
    refine s_zeq rfl (by have := hD k k (by omega) (by omega) (by omega) (by omega); exact ⟨by unfold mx at this; omega, by unfold mx at this; omega⟩) (fun c2 => ?_) (fun c2 => ?_)
    · refine s_inc rfl rfl ?_
      refine am_s rfl rfl ?_
      refine am_lv [(1, _), (0, _)] rfl rfl ⟨rfl, rfl, trivial⟩ ?_
      refine kk () s ⟨rfl, fun x x0 x1 => ?_⟩
      by_cases e : x = (k : Int)
      · rw [e]; exact c2
      · exact hA x x0 (by omega)
    · refine am_s rfl rfl ?_
      refine s_k 1 rfl rfl ?_
      refine am_s rfl rfl ?_
      refine s_k (-1) rfl rfl ?_
      refine s_k (-1) rfl rfl ?_
      refine s_cv [_, _, _, _] [] rfl g (Or.inl rfl) rfl rfl (Nat.le_of_ble_eq_true rfl) rfl rfl (t_keep g) ?_
      rintro rv h1 ⟨e1, e2⟩
      rw [e1, e2]
      exact am_r rfl rfl (Or.inr ⟨rfl, k, by omega, by omega, c2, hA, rfl⟩)
  · rintro - s1 ⟨rfl, hA⟩
    simp only
    refine am_s rfl rfl ?_
    refine am_s rfl rfl ?_
    refine s_gi (x := 0) rfl g rfl rfl rfl ?_
    refine s_cge rfl ⟨by omega, by omega⟩ ⟨by omega, by omega⟩ (fun c1 => ?_) (fun c1 => absurd c1 (by omega))
    refine s_k 0 rfl rfl ?_
    exact am_r rfl rfl (Or.inl ⟨rfl, rfl, fun x x0 x1 => hA x x0 (by omega)⟩)
theorem t_seeUneven {d : Nat} {E : am_Ev} {s : am_S} (g : am_Eg E) (hm : mx_ok s) : am_wp (d + 1) 69 0 (lv_args 0 [.ref 25]) [] (am_hp E s) (fun rv h => (rv = some (.int (iI 0)) ∧ h = am_hp E s ∧ fl_sym (s 25 0) (mx s)) ∨ (rv = some (.int (iI 1)) ∧ ∃ a b, 0 ≤ a ∧ a < b ∧ b < s 25 0 ∧ mx s a b ≠ mx s b a ∧ (∀ x y, 0 ≤ x → x < y → y < s 25 0 → (x < a ∨ x = a ∧ y < b) → mx s x y = mx s y x) ∧ h = am_hp E (s_kf s 2 a b (-1)))) := by
  obtain ⟨n1, n2, hD⟩ := hm
  obtain ⟨n, en⟩ : ∃ n : Nat, s 25 0 = n := ⟨(s 25 0).toNat, by omega⟩
  refine s_k 0 rfl rfl ?_
  refine am_s rfl rfl ?_
  refine am_lv [(1, .int (iI ((0 : Nat) : Int))), (0, .ref 25)] rfl rfl ⟨rfl, rfl, trivial⟩ ?_
  refine s_loop (X := Unit) (fun k _ s' => s = s' ∧ ∀ x y, 0 ≤ x → x < (k : Int) → x < y → y < (n : Int) → mx s x y = mx s y x) (fun k _ => [(1, .int (iI (k : Int))), (0, .ref 25)]) (hi := n) (x := ()) (Nat.zero_le n) ⟨rfl, fun x y x0 x1 => absurd x1 (by omega)⟩ ?_ ?_
  · rintro k - s1 hk0 hk ⟨rfl, hA⟩ kk
    simp only at kk ⊢
    refine am_s rfl rfl ?_
    refine am_s rfl rfl ?_
    refine s_gi (x := 0) rfl g rfl rfl rfl ?_
    refine s_cge rfl ⟨by omega, by omega⟩ ⟨by omega, by omega⟩ (fun c1 => absurd c1 (by omega)) (fun c1 => ?_)
    refine am_s rfl rfl ?_
    refine s_k 1 rfl rfl ?_
    refine s_iadd rfl ?_
    refine am_s rfl rfl ?_
    refine am_lv [(2, .int (iI ((k + 1 : Nat) : Int))), (1, .int (iI (k : Int))), (0, .ref 25)] rfl rfl ⟨rfl, rfl, rfl, trivial⟩ ?_
    refine s_loop (X := Unit) (fun m _ s' => s = s' ∧ ∀ y, (k : Int) < y → y < (m : Int) → mx s k y = mx s y k) (fun m _ => [(2, .int (iI (m : Int))), (1, .int (iI (k : Int))), (0, .ref 25)]) (lo := k + 1) (hi := n) (x := ()) (by omega) ⟨rfl, fun y y0 y1 => absurd y1 (by omega)⟩ ?_ ?_
    · rintro m - s2 hm0 hm ⟨rfl, hB⟩ k2
      simp only at k2 ⊢
      refine am_s rfl rfl ?_
      refine am_s rfl rfl ?_
      refine s_gi (x := 0) rfl g rfl rfl rfl ?_
      refine s_cge rfl ⟨by omega, by omega⟩ ⟨by omega, by omega⟩ (fun c2 => absurd c2 (by omega)) (fun c2 => ?_)
      refine am_s rfl rfl ?_
      refine s_gr rfl g rfl rfl ?_
      refine am_s rfl rfl ?_
      refine s_aa rfl g rfl ⟨by omega, by omega⟩ (by decide) ?_
      refine am_s rfl rfl ?_
      refine s_ia rfl g (lo_26 (by omega) (by omega)) ⟨by omega, by omega⟩ (by decide) ?_
      refine am_s rfl rfl ?_
      refine s_gr rfl g rfl rfl ?_
      refine am_s rfl rfl ?_
      refine s_aa rfl g rfl ⟨by omega, by omega⟩ (by decide) ?_
      refine am_s rfl rfl ?_
      refine s_ia rfl g (lo_26 (by omega) (by omega)) ⟨by omega, by omega⟩ (by decide) ?_
      refine s_ceq rfl (by have := hD k m (by omega) (by omega) (by omega) (by omega); exact ⟨by unfold mx at this; omega, by unfold mx at this; omega⟩) (by have := hD m k (by omega) (by omega) (by omega) (by omega); exact ⟨by unfold mx at this; omega, by unfold mx at this; omega⟩) (fun c3 => ?_) (fun c3 => ?_)
      · refine s_inc rfl rfl ?_
        refine am_s rfl rfl ?_
        refine am_lv [(2, _), (1, _), (0, _)] rfl rfl ⟨rfl, rfl, rfl, trivial⟩ ?_
        refine k2 () s ⟨rfl, fun y y0 y1 => ?_⟩
        by_cases e : y = (m : Int)
        · rw [e]; exact c3
        · exact hB y y0 (by omega)
      · refine am_s rfl rfl ?_
        refine s_k 2 rfl rfl ?_
        refine am_s rfl rfl ?_
        refine am_s rfl rfl ?_
        refine s_k (-1) rfl rfl ?_
        refine s_cv [_, _, _, _] [] rfl g (Or.inl rfl) rfl rfl (Nat.le_of_ble_eq_true rfl) rfl rfl (t_keep g) ?_
        rintro rv h1 ⟨e1, e2⟩
        rw [e1, e2]
        refine am_r rfl rfl (Or.inr ⟨rfl, k, m, by omega, by omega, by omega, c3, fun x y x0 x1 y1 hx => ?_, rfl⟩)
        rcases hx with hx | ⟨hx, hy⟩
        · exact hA x y x0 (by omega) x1 (by omega)
        · subst hx; exact hB y (by omega) (by omega)
    · rintro - s2 ⟨rfl, hB⟩
      simp only
      refine am_s rfl rfl ?_
      refine am_s rfl rfl ?_
      refine s_gi (x := 0) rfl g rfl rfl rfl ?_
      refine s_cge rfl ⟨by omega, by omega⟩ ⟨by omega, by omega⟩ (fun c2 => ?_) (fun c2 => absurd c2 (by omega))
      refine s_inc rfl rfl ?_
      refine am_s rfl rfl ?_
      refine am_lv [(1, _), (0, _)] rfl rfl ⟨rfl, rfl, trivial⟩ ?_
      refine kk () s ⟨rfl, fun x y x0 x1 y0 y1 => ?_⟩
      by_cases e : x = (k : Int)
      · rw [e]; exact hB y (by omega) (by omega)
      · exact hA x y x0 (by omega) y0 y1
  · rintro - s1 ⟨rfl, hA⟩
    simp only
    refine am_s rfl rfl ?_
    refine am_s rfl rfl ?_
    refine s_gi (x := 0) rfl g rfl rfl rfl ?_
    refine s_cge rfl ⟨by omega, by omega⟩ ⟨by omega, by omega⟩ (fun c1 => ?_) (fun c1 => absurd c1 (by omega))
    refine s_k 0 rfl rfl ?_
    refine am_r rfl rfl (Or.inl ⟨rfl, rfl, fun x y x0 x1 y0 y1 => ?_⟩)
    rcases Int.lt_trichotomy x y with h | h | h
    · exact hA x y x0 (by omega) h (by omega)
    · rw [h]
    · exact (hA y x y0 (by omega) h (by omega)).symm
theorem t_endOf {d : Nat} {E : am_Ev} {s : am_S} {a b : Int} (g : am_Eg E) (hm : mx_ok s) (ha : 0 ≤ a ∧ a < s 25 0) (hb : 0 ≤ b ∧ b < s 25 0) : am_wp d 71 0 (lv_args 0 [.ref 25, .int (iI a), .int (iI b)]) [] (am_hp E s) (fun rv h => h = am_hp E s ∧ ((rv = some (.int (iI (-1))) ∧ ∀ z, a < z → z < s 25 0 → mx s a z ≤ mx s a b + mx s b z) ∨ (∃ c, rv = some (.int (iI c)) ∧ a < c ∧ c < s 25 0 ∧ mx s a b + mx s b c < mx s a c ∧ ∀ z, a < z → z < c → mx s a z ≤ mx s a b + mx s b z))) := by
  obtain ⟨n1, n2, hD⟩ := hm
  obtain ⟨n, en⟩ : ∃ n : Nat, s 25 0 = n := ⟨(s 25 0).toNat, by omega⟩
  obtain ⟨m0, em⟩ : ∃ m0 : Nat, a + 1 = m0 := ⟨(a + 1).toNat, by omega⟩
  refine am_s rfl rfl ?_
  refine s_gr rfl g rfl rfl ?_
  refine am_s rfl rfl ?_
  refine s_aa rfl g rfl ⟨by omega, by omega⟩ (by decide) ?_
  refine am_s rfl rfl ?_
  refine am_s rfl rfl ?_
  refine s_gr rfl g rfl rfl ?_
  refine am_s rfl rfl ?_
  refine s_aa rfl g rfl ⟨by omega, by omega⟩ (by decide) ?_
  refine am_s rfl rfl ?_
  refine am_s rfl rfl ?_
  refine am_s rfl rfl ?_
  refine s_ia rfl g (lo_26 (by omega) (by omega)) ⟨by omega, by omega⟩ (by decide) ?_
  refine s_i2l rfl (by have := hD a b (by omega) (by omega) (by omega) (by omega); exact ⟨by unfold mx at this; omega, by unfold mx at this; omega⟩) ?_
  refine am_s rfl rfl ?_
  refine am_s rfl rfl ?_
  refine s_k 1 rfl rfl ?_
  refine s_iadd rfl ?_
  refine am_s rfl rfl ?_
  refine am_lv [(7, .int (iI (m0 : Int))), (5, .long (lI (mx s a b))), (4, .ref (26 + 1 + b.toNat)), (3, .ref (26 + 1 + a.toNat)), (0, .ref 25)] rfl rfl ⟨by rw [show ((m0 : Nat) : Int) = a + 1 by omega]; rfl, rfl, rfl, rfl, rfl, trivial⟩ ?_
  refine s_loop (X := Unit) (fun m _ s' => s = s' ∧ ∀ z, a < z → z < (m : Int) → mx s a z ≤ mx s a b + mx s b z) (fun m _ => [(7, .int (iI (m : Int))), (5, .long (lI (mx s a b))), (4, .ref (26 + 1 + b.toNat)), (3, .ref (26 + 1 + a.toNat)), (0, .ref 25)]) (lo := m0) (hi := n) (x := ()) (by omega) ⟨rfl, fun z z0 z1 => absurd z1 (by omega)⟩ ?_ ?_
  · rintro m - s1 hm0 hm ⟨rfl, hA⟩ kk
    simp only at kk ⊢
    refine am_s rfl rfl ?_
    refine am_s rfl rfl ?_
    refine s_gi (x := 0) rfl g rfl rfl rfl ?_
    refine s_cge rfl ⟨by omega, by omega⟩ ⟨by omega, by omega⟩ (fun c1 => absurd c1 (by omega)) (fun c1 => ?_)
    refine am_s rfl rfl ?_
    refine am_s rfl rfl ?_
    refine s_ia rfl g (lo_26 (by omega) (by omega)) ⟨by omega, by omega⟩ (by decide) ?_
    refine s_i2l rfl (by have := hD a m (by omega) (by omega) (by omega) (by omega); exact ⟨by unfold mx at this; omega, by unfold mx at this; omega⟩) ?_
    refine am_s rfl rfl ?_
    refine am_s rfl rfl ?_
    refine am_s rfl rfl ?_
    refine s_ia rfl g (lo_26 (by omega) (by omega)) ⟨by omega, by omega⟩ (by decide) ?_
    refine s_i2l rfl (by have := hD b m (by omega) (by omega) (by omega) (by omega); exact ⟨by unfold mx at this; omega, by unfold mx at this; omega⟩) ?_
    refine s_ladd rfl ?_
    refine s_jle rfl rfl (by have h1 := hD a m (by omega) (by omega) (by omega) (by omega); unfold mx at h1; exact ⟨by omega, by omega⟩) (by have h1 := hD a b (by omega) (by omega) (by omega) (by omega); have h2 := hD b m (by omega) (by omega) (by omega) (by omega); unfold mx at h1 h2 ⊢; exact ⟨by omega, by omega⟩) (fun c2 => ?_) (fun c2 => ?_)
    · refine s_inc rfl rfl ?_
      refine am_s rfl rfl ?_
      refine am_lv [(7, _), (5, _), (4, _), (3, _), (0, _)] rfl rfl ⟨rfl, rfl, rfl, rfl, rfl, trivial⟩ ?_
      refine kk () s ⟨rfl, fun z z0 z1 => ?_⟩
      by_cases e : z = (m : Int)
      · rw [e]; exact c2
      · exact hA z z0 (by omega)
    · refine am_s rfl rfl ?_
      exact am_r rfl rfl ⟨rfl, (Or.inr ⟨m, rfl, by omega, by omega, Int.not_le.mp c2, fun z z0 z1 => hA z z0 z1⟩)⟩
  · rintro - s1 ⟨rfl, hA⟩
    simp only
    refine am_s rfl rfl ?_
    refine am_s rfl rfl ?_
    refine s_gi (x := 0) rfl g rfl rfl rfl ?_
    refine s_cge rfl ⟨by omega, by omega⟩ ⟨by omega, by omega⟩ (fun c1 => ?_) (fun c1 => absurd c1 (by omega))
    refine s_k (-1) rfl rfl ?_
    exact am_r rfl rfl ⟨rfl, (Or.inl ⟨rfl, fun z z0 z1 => hA z z0 (by omega)⟩)⟩
theorem fl_back {n : Int} {D : Int → Int → Int} (ho : fl_own n D) (hs : fl_sym n D) (hp : ∀ x y, 0 ≤ x → x < n → 0 ≤ y → y < n → 0 ≤ D x y) {x y z : Int} (hx : 0 ≤ x ∧ x < n) (hy : 0 ≤ y ∧ y < n) (hz : 0 ≤ z ∧ z ≤ x) (H : z < x → D z x ≤ D z y + D y x) : D x z ≤ D x y + D y z := by
  by_cases e : z = x
  · subst e
    have h1 := ho z hx.1 hx.2
    have h2 := hp z y hx.1 hx.2 hy.1 hy.2
    have h3 := hp y z hy.1 hy.2 hx.1 hx.2
    omega
  · have h1 := H (by omega)
    have h2 := hs x z hx.1 hx.2 hz.1 (by omega)
    have h3 := hs x y hx.1 hx.2 hy.1 hy.2
    have h4 := hs y z hy.1 hy.2 hz.1 (by omega)
    omega
theorem t_seeDetour {d : Nat} {E : am_Ev} {s : am_S} (g : am_Eg E) (hm : mx_ok s) (ho : fl_own (s 25 0) (mx s)) (hs : fl_sym (s 25 0) (mx s)) : am_wp (d + 1) 70 0 (lv_args 0 [.ref 25]) [] (am_hp E s) (fun rv h => (rv = some (.int (iI 0)) ∧ h = am_hp E s ∧ fl_tri (s 25 0) (mx s)) ∨ (rv = some (.int (iI 1)) ∧ ∃ a b c, (0 ≤ a ∧ a < s 25 0) ∧ (0 ≤ b ∧ b < s 25 0) ∧ (0 ≤ c ∧ c < s 25 0) ∧ mx s a b + mx s b c < mx s a c ∧ (∀ x y z, 0 ≤ x → x < s 25 0 → 0 ≤ y → y < s 25 0 → 0 ≤ z → z < s 25 0 → (x < a ∨ x = a ∧ (y < b ∨ y = b ∧ z < c)) → mx s x z ≤ mx s x y + mx s y z) ∧ h = am_hp E (s_kf s 3 a b c))) := by
  obtain ⟨n1, n2, hD⟩ := hm
  obtain ⟨n, en⟩ : ∃ n : Nat, s 25 0 = n := ⟨(s 25 0).toNat, by omega⟩
  refine s_k 0 rfl rfl ?_
  refine am_s rfl rfl ?_
  refine am_lv [(1, .int (iI ((0 : Nat) : Int))), (0, .ref 25)] rfl rfl ⟨rfl, rfl, trivial⟩ ?_
  refine s_loop (X := Unit) (fun k _ s' => s = s' ∧ ∀ x y z, 0 ≤ x → x < (k : Int) → 0 ≤ y → y < (n : Int) → x < z → z < (n : Int) → mx s x z ≤ mx s x y + mx s y z) (fun k _ => [(1, .int (iI (k : Int))), (0, .ref 25)]) (hi := n) (x := ()) (Nat.zero_le n) ⟨rfl, fun x y z x0 x1 => absurd x1 (by omega)⟩ ?_ ?_
  · rintro k - s1 hk0 hk ⟨rfl, hA⟩ kk
    simp only at kk ⊢
    refine am_s rfl rfl ?_
    refine am_s rfl rfl ?_
    refine s_gi (x := 0) rfl g rfl rfl rfl ?_
    refine s_cge rfl ⟨by omega, by omega⟩ ⟨by omega, by omega⟩ (fun c1 => absurd c1 (by omega)) (fun c1 => ?_)
    refine s_k 0 rfl rfl ?_
    refine am_s rfl rfl ?_
    refine am_lv [(2, .int (iI ((0 : Nat) : Int))), (1, .int (iI (k : Int))), (0, .ref 25)] rfl rfl ⟨rfl, rfl, rfl, trivial⟩ ?_
    refine s_loop (X := Unit) (fun m _ s' => s = s' ∧ ∀ y z, 0 ≤ y → y < (m : Int) → (k : Int) < z → z < (n : Int) → mx s k z ≤ mx s k y + mx s y z) (fun m _ => [(2, .int (iI (m : Int))), (1, .int (iI (k : Int))), (0, .ref 25)]) (hi := n) (x := ()) (Nat.zero_le n) ⟨rfl, fun y z y0 y1 => absurd y1 (by omega)⟩ ?_ ?_
    · rintro m - s2 hm0 hm ⟨rfl, hB⟩ k2
      simp only at k2 ⊢
      refine am_s rfl rfl ?_
      refine am_s rfl rfl ?_
      refine s_gi (x := 0) rfl g rfl rfl rfl ?_
      refine s_cge rfl ⟨by omega, by omega⟩ ⟨by omega, by omega⟩ (fun c2 => absurd c2 (by omega)) (fun c2 => ?_)
      refine am_s rfl rfl ?_
      refine am_s rfl rfl ?_
      refine am_s rfl rfl ?_
      refine s_cv [_, _] [] rfl g (Or.inl rfl) rfl rfl (Nat.le_of_ble_eq_true rfl) rfl rfl (t_endOf g ⟨n1, n2, hD⟩ ⟨by omega, by omega⟩ ⟨by omega, by omega⟩) ?_
      rintro rv h1 ⟨rfl, hh⟩
      rcases hh with ⟨rfl, hz⟩ | ⟨c, rfl, hc1, hc2, hc3, hc4⟩
      · refine am_s rfl rfl ?_
        refine am_s rfl rfl ?_
        refine s_k (-1) rfl rfl ?_
        refine s_ceq rfl ⟨by omega, by omega⟩ ⟨by omega, by omega⟩ (fun c5 => ?_) (fun c5 => absurd rfl c5)
        refine s_inc rfl rfl ?_
        refine am_s rfl rfl ?_
        refine am_lv [(2, _), (1, _), (0, _)] rfl rfl ⟨rfl, rfl, rfl, trivial⟩ ?_
        refine k2 () s ⟨rfl, fun y z y0 y1 z0 z1 => ?_⟩
        by_cases e : y = (m : Int)
        · rw [e]; exact hz z z0 (by omega)
        · exact hB y z y0 (by omega) z0 z1
      · refine am_s rfl rfl ?_
        refine am_s rfl rfl ?_
        refine s_k (-1) rfl rfl ?_
        refine s_ceq rfl ⟨by omega, by omega⟩ ⟨by omega, by omega⟩ (fun c5 => absurd c5 (by omega)) (fun c5 => ?_)
        refine am_s rfl rfl ?_
        refine s_k 3 rfl rfl ?_
        refine am_s rfl rfl ?_
        refine am_s rfl rfl ?_
        refine am_s rfl rfl ?_
        refine s_cv [_, _, _, _] [] rfl g (Or.inl rfl) rfl rfl (Nat.le_of_ble_eq_true rfl) rfl rfl (t_keep g) ?_
        rintro rv h1 ⟨e1, e2⟩
        rw [e1, e2]
        refine am_r rfl rfl (Or.inr ⟨rfl, k, m, c, ⟨by omega, by omega⟩, ⟨by omega, by omega⟩, ⟨by omega, by omega⟩, hc3, fun x y z x0 x1 y0 y1 z0 z1 hx => ?_, rfl⟩)
        have low : ∀ x y z, 0 ≤ x → x < (k : Int) → 0 ≤ y → y < s 25 0 → 0 ≤ z → z < s 25 0 → mx s x z ≤ mx s x y + mx s y z := fun x y z x0 x1 y0 y1 z0 z1 => by
          rcases Int.lt_or_le x z with h | h
          · exact hA x y z x0 x1 y0 (by omega) h (by omega)
          · exact fl_back ho hs (fun p q p0 p1 q0 q1 => (hD p q p0 p1 q0 q1).1) ⟨x0, by omega⟩ ⟨y0, y1⟩ ⟨z0, h⟩ (fun h2 => hA z y x z0 (by omega) y0 (by omega) h2 (by omega))
        rcases hx with hx | ⟨hx, hy⟩
        · exact low x y z x0 hx y0 y1 z0 z1
        · subst hx
          rcases Int.lt_or_le (k : Int) z with h | h
          · rcases hy with hy | ⟨hy, hz⟩
            · exact hB y z y0 (by omega) h (by omega)
            · subst hy; exact hc4 z h hz
          · exact fl_back ho hs (fun p q p0 p1 q0 q1 => (hD p q p0 p1 q0 q1).1) ⟨x0, by omega⟩ ⟨y0, y1⟩ ⟨z0, h⟩ (fun h2 => low z y k z0 h2 y0 y1 x0 (by omega))
    · rintro - s2 ⟨rfl, hB⟩
      simp only
      refine am_s rfl rfl ?_
      refine am_s rfl rfl ?_
      refine s_gi (x := 0) rfl g rfl rfl rfl ?_
      refine s_cge rfl ⟨by omega, by omega⟩ ⟨by omega, by omega⟩ (fun c2 => ?_) (fun c2 => absurd c2 (by omega))
      refine s_inc rfl rfl ?_
      refine am_s rfl rfl ?_
      refine am_lv [(1, _), (0, _)] rfl rfl ⟨rfl, rfl, trivial⟩ ?_
      refine kk () s ⟨rfl, fun x y z x0 x1 y0 y1 z0 z1 => ?_⟩
      by_cases e : x = (k : Int)
      · rw [e]; exact hB y z y0 (by omega) (by omega) z1
      · exact hA x y z x0 (by omega) y0 y1 z0 z1
  · rintro - s1 ⟨rfl, hA⟩
    simp only
    refine am_s rfl rfl ?_
    refine am_s rfl rfl ?_
    refine s_gi (x := 0) rfl g rfl rfl rfl ?_
    refine s_cge rfl ⟨by omega, by omega⟩ ⟨by omega, by omega⟩ (fun c1 => ?_) (fun c1 => absurd c1 (by omega))
    refine s_k 0 rfl rfl ?_
    refine am_r rfl rfl (Or.inl ⟨rfl, rfl, fun x y z x0 x1 y0 y1 z0 z1 => ?_⟩)
    rcases Int.lt_or_le x z with h | h
    · exact hA x y z x0 (by omega) y0 (by omega) h (by omega)
    · exact fl_back ho hs (fun p q p0 p1 q0 q1 => (hD p q p0 p1 q0 q1).1) ⟨x0, x1⟩ ⟨y0, y1⟩ ⟨z0, h⟩ (fun h2 => hA z y x z0 (by omega) y0 (by omega) h2 (by omega))
theorem fl_congr {n : Int} {D D2 : Int → Int → Int} (e : ∀ x y, 0 ≤ x → x < n → 0 ≤ y → y < n → D2 x y = D x y) : (fl_own n D → fl_own n D2) ∧ (fl_sym n D → fl_sym n D2) ∧ (fl_tri n D → fl_tri n D2) := by
  refine ⟨fun h x x0 x1 => by rw [e x x x0 x1 x0 x1]; exact h x x0 x1, fun h x y x0 x1 y0 y1 => by rw [e x y x0 x1 y0 y1, e y x y0 y1 x0 x1]; exact h x y x0 x1 y0 y1, fun h x y z x0 x1 y0 y1 z0 z1 => by rw [e x z x0 x1 z0 z1, e x y x0 x1 y0 y1, e y z y0 y1 z0 z1]; exact h x y z x0 x1 y0 y1 z0 z1⟩
theorem fl_is_congr {n : Int} {D D2 : Int → Int → Int} {k a b c : Int} (e : ∀ x y, 0 ≤ x → x < n → 0 ≤ y → y < n → D2 x y = D x y) (h : fl_is n D k a b c) : fl_is n D2 k a b c := by
  obtain ⟨c1, c2, c3⟩ := fl_congr e
  rcases h with ⟨e1, e2, e3, e4, o1, o2, o3⟩ | ⟨e1, e2, e3, p1, p2, p3, p4⟩ | ⟨e1, e2, o1, p1, p2, p3, p4, p5⟩ | ⟨e1, o1, o2, p1, p2, p3, p4, p5⟩
  · exact Or.inl ⟨e1, e2, e3, e4, c1 o1, c2 o2, c3 o3⟩
  · exact Or.inr (Or.inl ⟨e1, e2, e3, p1, p2, by rw [e a a p1 p2 p1 p2]; exact p3, fun x x0 x1 => by rw [e x x x0 (by omega) x0 (by omega)]; exact p4 x x0 x1⟩)
  · exact Or.inr (Or.inr (Or.inl ⟨e1, e2, c1 o1, p1, p2, p3, by rw [e a b p1 (by omega) (by omega) p3, e b a (by omega) p3 p1 (by omega)]; exact p4, fun x y x0 xy y1 hx => by rw [e x y x0 (by omega) (by omega) y1, e y x (by omega) y1 x0 (by omega)]; exact p5 x y x0 xy y1 hx⟩))
  · exact Or.inr (Or.inr (Or.inr ⟨e1, c1 o1, c2 o2, p1, p2, p3, by rw [e a b p1.1 p1.2 p2.1 p2.2, e b c p2.1 p2.2 p3.1 p3.2, e a c p1.1 p1.2 p3.1 p3.2]; exact p4, fun x y z x0 x1 y0 y1 z0 z1 hx => by rw [e x z x0 x1 z0 z1, e x y x0 x1 y0 y1, e y z y0 y1 z0 z1]; exact p5 x y z x0 x1 y0 y1 z0 z1 hx⟩))
theorem mx_ok_kf {s : am_S} {k a b c : Int} (hm : mx_ok s) : mx_ok (s_kf s k a b c) := ⟨hm.1, hm.2.1, fun x y x0 x1 y0 y1 => by
  have x1 : x < s 25 0 := x1
  have y1 : y < s 25 0 := y1
  have := hm.2.1
  rw [mx_kf _ _ _ _ _ _ _ x0 (by omega)]
  exact hm.2.2 x y x0 x1 y0 y1⟩
theorem s_kf_fr (s : am_S) (k a b c : Int) : am_Fr [25, 47] s (s_kf s k a b c) := am_Fr_W (am_Fr_W (am_Fr_W (am_Fr_w (by decide)) (by decide)) (by decide)) (by decide)
/-- the flaw that is kept is the first one, where it was looked for -/
def lk_ok (s : am_S) : Prop := s 25 2 = 0 ∨ s 25 2 = 1 ∧ fl_is (s 25 0) (mx s) (s 47 0) (s 47 1) (s 47 2) (s 47 3)
def lk_to (s s' : am_S) : Prop := am_Fr [25, 47] s s' ∧ s' 25 0 = s 25 0 ∧ s' 25 2 = 1 ∧ fl_is (s 25 0) (mx s) (s' 47 0) (s' 47 1) (s' 47 2) (s' 47 3)
theorem t_flawPart {d : Nat} {E : am_Ev} {s : am_S} {w : Int} (g : am_Eg E) (hm : mx_ok s) (hl : lk_ok s) (hw : 0 ≤ w ∧ w < 4) : am_wp (d + 2) 66 0 (lv_args 0 [.ref 25, .int (iI w)]) [] (am_hp E s) (fun rv h => ∃ s', h = am_hp E s' ∧ rv = some (.int (iI (s' 47 w))) ∧ lk_to s s') := by
  have n1 := hm.1
  have n2 := hm.2.1
  rcases hl with l1 | ⟨l1, l2⟩
  · skip
    refine am_s rfl rfl ?_
    refine s_gi (x := 2) rfl g rfl rfl rfl ?_
    refine s_zne rfl ⟨by omega, by omega⟩ (fun c1 => absurd c1 (by omega)) (fun c1 => ?_)
    refine am_s rfl rfl ?_
    refine s_k 0 rfl rfl ?_
    refine s_k (-1) rfl rfl ?_
    refine s_k (-1) rfl rfl ?_
    refine s_k (-1) rfl rfl ?_
    refine s_cv [_, _, _, _] [] rfl g (Or.inl rfl) rfl rfl (Nat.le_of_ble_eq_true rfl) rfl rfl (t_keep g) ?_
    rintro rv h1 ⟨rfl, rfl⟩
    have hm1 : mx_ok (s_kf s 0 (-1) (-1) (-1)) := mx_ok_kf hm
    have hE : ∀ x y, 0 ≤ x → x < s 25 0 → 0 ≤ y → y < s 25 0 → mx s x y = mx (s_kf s 0 (-1) (-1) (-1)) x y := fun x y x0 x1 _ _ => (mx_kf _ _ _ _ _ _ _ x0 (by omega)).symm
    refine am_s rfl rfl ?_
    refine am_s rfl rfl ?_
    refine s_cv [] [] rfl g (Or.inl rfl) rfl rfl (Nat.le_of_ble_eq_true rfl) rfl rfl (t_seeOwn g hm1) ?_
    rintro rv h1 hh
    rcases hh with ⟨rfl, rfl, ho⟩ | ⟨rfl, a, a0, a1, a2, a3, rfl⟩
    · refine s_zne rfl ⟨by omega, by omega⟩ (fun c1 => absurd c1 (by omega)) (fun c1 => ?_)
      refine am_s rfl rfl ?_
      refine s_cv [] [] rfl g (Or.inl rfl) rfl rfl (Nat.le_of_ble_eq_true rfl) rfl rfl (t_seeUneven g hm1) ?_
      rintro rv h1 hh
      rcases hh with ⟨rfl, rfl, hs⟩ | ⟨rfl, a, b, a0, a1, a2, a3, a4, rfl⟩
      · refine s_zne rfl ⟨by omega, by omega⟩ (fun c1 => absurd c1 (by omega)) (fun c1 => ?_)
        refine am_s rfl rfl ?_
        refine s_cv [] [] rfl g (Or.inl rfl) rfl rfl (Nat.le_of_ble_eq_true rfl) rfl rfl (t_seeDetour g hm1 ho hs) ?_
        rintro rv h1 hh
        rcases hh with ⟨rfl, rfl, ht⟩ | ⟨rfl, a, b, c, a0, a1, a2, a3, a4, rfl⟩
        · refine am_s rfl rfl ?_
          refine am_s rfl rfl ?_
          refine s_k 1 rfl rfl ?_
          refine s_pi (x := 2) rfl g rfl rfl rfl rfl ?_
          refine am_s rfl rfl ?_
          refine s_gr rfl g rfl rfl ?_
          refine am_s rfl rfl ?_
          refine s_ia rfl g rfl ⟨hw.1, hw.2⟩ (by decide) ?_
          refine am_r rfl rfl ⟨_, rfl, rfl, am_Fr_W (s_kf_fr s 0 (-1) (-1) (-1)) (by decide), rfl, rfl, ?_⟩
          exact fl_is_congr hE (Or.inl ⟨rfl, rfl, rfl, rfl, ho, hs, ht⟩)
        · refine am_s rfl rfl ?_
          refine am_s rfl rfl ?_
          refine s_k 1 rfl rfl ?_
          refine s_pi (x := 2) rfl g rfl rfl rfl rfl ?_
          refine am_s rfl rfl ?_
          refine s_gr rfl g rfl rfl ?_
          refine am_s rfl rfl ?_
          refine s_ia rfl g rfl ⟨hw.1, hw.2⟩ (by decide) ?_
          refine am_r rfl rfl ⟨_, rfl, rfl, am_Fr_W (am_Fr_u (s_kf_fr s 0 (-1) (-1) (-1)) (s_kf_fr _ _ _ _ _)) (by decide), rfl, rfl, ?_⟩
          exact fl_is_congr hE (Or.inr (Or.inr (Or.inr ⟨rfl, ho, hs, a0, a1, a2, a3, a4⟩)))
      · refine s_zne rfl ⟨by omega, by omega⟩ (fun c1 => ?_) (fun c1 => absurd c1 (by omega))
        refine am_s rfl rfl ?_
        refine s_k 1 rfl rfl ?_
        refine s_pi (x := 2) rfl g rfl rfl rfl rfl ?_
        refine am_s rfl rfl ?_
        refine s_gr rfl g rfl rfl ?_
        refine am_s rfl rfl ?_
        refine s_ia rfl g rfl ⟨hw.1, hw.2⟩ (by decide) ?_
        refine am_r rfl rfl ⟨_, rfl, rfl, am_Fr_W (am_Fr_u (s_kf_fr s 0 (-1) (-1) (-1)) (s_kf_fr _ _ _ _ _)) (by decide), rfl, rfl, ?_⟩
        exact fl_is_congr hE (Or.inr (Or.inr (Or.inl ⟨rfl, rfl, ho, a0, a1, a2, a3, a4⟩)))
    · refine s_zne rfl ⟨by omega, by omega⟩ (fun c1 => ?_) (fun c1 => absurd c1 (by omega))
      refine am_s rfl rfl ?_
      refine s_k 1 rfl rfl ?_
      refine s_pi (x := 2) rfl g rfl rfl rfl rfl ?_
      refine am_s rfl rfl ?_
      refine s_gr rfl g rfl rfl ?_
      refine am_s rfl rfl ?_
      refine s_ia rfl g rfl ⟨hw.1, hw.2⟩ (by decide) ?_
      refine am_r rfl rfl ⟨_, rfl, rfl, am_Fr_W (am_Fr_u (s_kf_fr s 0 (-1) (-1) (-1)) (s_kf_fr _ _ _ _ _)) (by decide), rfl, rfl, ?_⟩
      exact fl_is_congr hE (Or.inr (Or.inl ⟨rfl, rfl, rfl, a0, a1, a2, a3⟩))
  · skip
    refine am_s rfl rfl ?_
    refine s_gi (x := 2) rfl g rfl rfl rfl ?_
    refine s_zne rfl ⟨by omega, by omega⟩ (fun c1 => ?_) (fun c1 => absurd c1 (by omega))
    refine am_s rfl rfl ?_
    refine s_gr rfl g rfl rfl ?_
    refine am_s rfl rfl ?_
    refine s_ia rfl g rfl ⟨hw.1, hw.2⟩ (by decide) ?_
    exact am_r rfl rfl ⟨s, rfl, rfl, am_Fr_r _ _, rfl, l1, l2⟩
theorem t_isSound {d : Nat} {E : am_Ev} {s : am_S} (g : am_Eg E) (hm : mx_ok s) (hl : lk_ok s) : am_wp (d + 3) 65 0 (lv_args 0 [.ref 25]) [] (am_hp E s) (fun rv h => ∃ s', h = am_hp E s' ∧ lk_to s s' ∧ (s' 47 0 = 0 ∧ rv = some (.int (iI 1)) ∨ s' 47 0 ≠ 0 ∧ rv = some (.int (iI 0)))) := by
  refine am_s rfl rfl ?_
  refine s_k 0 rfl rfl ?_
  refine s_cv [_] [] rfl g (Or.inl rfl) rfl rfl (Nat.le_of_ble_eq_true rfl) rfl rfl (t_flawPart g hm hl ⟨by decide, by decide⟩) ?_
  rintro rv h1 ⟨s1, rfl, rfl, hk⟩
  have hkr : 0 ≤ s1 47 0 ∧ s1 47 0 ≤ 3 := by
    rcases hk.2.2.2 with h | h | h | h <;> (have := h.1; omega)
  refine s_zne rfl ⟨by omega, by omega⟩ (fun c1 => ?_) (fun c1 => ?_)
  · refine s_k 0 rfl rfl ?_
    first | exact am_r rfl rfl ⟨s1, rfl, hk, Or.inl ⟨by omega, rfl⟩⟩ | exact am_r rfl rfl ⟨s1, rfl, hk, Or.inr ⟨by omega, rfl⟩⟩
  · refine s_k 1 rfl rfl ?_
    refine am_s rfl rfl ?_
    first | exact am_r rfl rfl ⟨s1, rfl, hk, Or.inl ⟨by omega, rfl⟩⟩ | exact am_r rfl rfl ⟨s1, rfl, hk, Or.inr ⟨by omega, rfl⟩⟩
