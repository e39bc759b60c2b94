/-! the other one's distances, and its look for flaws -/
def my (s : am_S) (a b : Int) : Int := s 169 (20 * a + b)
def my_ok (s : am_S) : Prop := 1 ≤ s 168 1 ∧ s 168 1 ≤ 20 ∧ ∀ a b, 0 ≤ a → a < s 168 1 → 0 ≤ b → b < s 168 1 → 0 ≤ my s a b ∧ my s a b < 2147483648
/-- but for the cells L and the fields F of the other one all is as it was -/
def am_Fm (L : List Nat) (F : List Int) (s s' : am_S) : Prop := am_Fr (168 :: L) s s' ∧ ∀ y, y ∉ F → s' 168 y = s 168 y
theorem am_Fm_r (L : List Nat) (F : List Int) (s : am_S) : am_Fm L F s s := ⟨am_Fr_r _ _, fun _ _ => rfl⟩
theorem am_Fm_u {L : List Nat} {F : List Int} {s s1 s2 : am_S} (h1 : am_Fm L F s s1) (h2 : am_Fm L F s1 s2) : am_Fm L F s s2 := ⟨am_Fr_u h1.1 h2.1, fun y hy => (h2.2 y hy).trans (h1.2 y hy)⟩
theorem am_Fm_f {L : List Nat} {F : List Int} {s s1 : am_S} {x v : Int} (h1 : am_Fm L F s s1) (h : x ∈ F) : am_Fm L F s (am_w s1 168 x v) := ⟨am_Fr_W h1.1 List.mem_cons_self, fun y hy => (am_w_x (show y ≠ x from fun e => hy (by rw [e]; exact h))).trans (h1.2 y hy)⟩
theorem am_Fm_c {L : List Nat} {F : List Int} {s s1 : am_S} {a : Nat} {x v : Int} (h1 : am_Fm L F s s1) (h : a ∈ L) (h168 : 168 ≠ a) : am_Fm L F s (am_w s1 a x v) := ⟨am_Fr_W h1.1 (List.mem_cons_of_mem _ h), fun y hy => (am_w_a h168).trans (h1.2 y hy)⟩
theorem am_Fm_m {L L2 : List Nat} {F F2 : List Int} {s s1 : am_S} (h1 : am_Fm L F s s1) (hL : ∀ b, b ∈ L → b ∈ L2) (hF : ∀ b, b ∈ F → b ∈ F2) : am_Fm L2 F2 s s1 := ⟨am_Fr_m h1.1 (fun b hb => by
  rcases List.mem_cons.mp hb with e | e
  · exact e ▸ List.mem_cons_self
  · exact List.mem_cons_of_mem _ (hL b e)), fun y hy => h1.2 y (fun z => hy (hF y z))⟩
theorem t_within {d : Nat} {h : am_H} {a lo hi : Int} (ha : am_Q a) (hb : am_Q lo) (hc : am_Q hi) : am_wp d 157 0 (lv_args 0 [.long (lI a), .long (lI lo), .long (lI hi)]) [] h (fun rv h' => rv = some (.int (iI (if lo ≤ a ∧ a ≤ hi then 1 else 0))) ∧ h' = h) := by
  refine am_s rfl rfl ?_
  refine am_s rfl rfl ?_
  refine s_jlt rfl rfl ha hb (fun c1 => ?_) (fun c1 => ?_)
  · refine s_k 0 rfl rfl ?_
    refine am_r rfl rfl ⟨?_, rfl⟩
    first | (rw [if_pos (by omega)]; done) | (rw [if_neg (by omega)]; done) | (rw [if_pos (by omega)]; rfl) | (rw [if_neg (by omega)]; rfl)
  · refine am_s rfl rfl ?_
    refine am_s rfl rfl ?_
    refine s_jgt rfl rfl ha hc (fun c2 => ?_) (fun c2 => ?_)
    · refine s_k 0 rfl rfl ?_
      refine am_r rfl rfl ⟨?_, rfl⟩
      first | (rw [if_pos (by omega)]; done) | (rw [if_neg (by omega)]; done) | (rw [if_pos (by omega)]; rfl) | (rw [if_neg (by omega)]; rfl)
    · refine s_k 1 rfl rfl ?_
      refine am_s rfl rfl ?_
      refine am_r rfl rfl ⟨?_, rfl⟩
      first | (rw [if_pos (by omega)]; done) | (rw [if_neg (by omega)]; done) | (rw [if_pos (by omega)]; rfl) | (rw [if_neg (by omega)]; rfl)
theorem t_far {d : Nat} {E : am_Ev} {s : am_S} {a b : Int} (g : am_Eg E) (ha : 0 ≤ a ∧ a < 20) (hb : 0 ≤ b ∧ b < 20) : am_wp d 158 0 (lv_args 0 [.ref 168, .int (iI a), .int (iI b)]) [] (am_hp E s) (fun rv h => rv = some (.int (iI (my s a b))) ∧ h = am_hp E s) := by
  refine am_s rfl rfl ?_
  refine s_gr rfl g rfl rfl ?_
  refine s_k 20 rfl rfl ?_
  refine am_s rfl rfl ?_
  refine s_imul rfl ?_
  refine am_s rfl rfl ?_
  refine s_iadd rfl ?_
  refine s_ia rfl g rfl ⟨by omega, by omega⟩ (by decide) ?_
  exact am_r rfl rfl ⟨rfl, rfl⟩
def s_fi (s : am_S) (k a b c : Int) : am_S := am_w (am_w (am_w (am_w s 168 12 k) 174 0 a) 174 1 b) 174 2 c
theorem s_fi_fm {s0 s : am_S} {k a b c : Int} (h : am_Fm [174] [12] s0 s) : am_Fm [174] [12] s0 (s_fi s k a b c) := am_Fm_c (am_Fm_c (am_Fm_c (am_Fm_f h (by decide)) (by decide) (by decide)) (by decide) (by decide)) (by decide) (by decide)
theorem t_flawIs {d : Nat} {E : am_Ev} {s : am_S} {k a b c : Int} (g : am_Eg E) (hr : am_R (s 168 12)) : am_wp d 178 0 (lv_args 0 [.ref 168, .int (iI k), .int (iI a), .int (iI b), .int (iI c)]) [] (am_hp E s) (fun rv h => rv = none ∧ (s 168 12 ≠ 0 ∧ h = am_hp E s ∨ s 168 12 = 0 ∧ h = am_hp E (s_fi s k a b c))) := by
  refine am_s rfl rfl ?_
  refine s_gi (x := 12) rfl g rfl rfl rfl ?_
  refine s_zne rfl hr (fun c1 => ?_) (fun c1 => ?_)
  · first | exact am_r rfl rfl ⟨rfl, Or.inl ⟨c1, rfl⟩⟩ | exact am_r rfl rfl ⟨rfl, Or.inr ⟨by omega, rfl⟩⟩
  · refine am_s rfl rfl ?_
    refine am_s rfl rfl ?_
    refine s_pi (x := 12) rfl g rfl rfl rfl rfl ?_
    refine am_s rfl rfl ?_
    refine s_gr rfl g rfl rfl ?_
    refine s_k 0 rfl rfl ?_
    refine am_s rfl rfl ?_
    refine s_is rfl g rfl ⟨by omega, by omega⟩ (by decide) ?_
    refine am_s rfl rfl ?_
    refine s_gr rfl g rfl rfl ?_
    refine s_k 1 rfl rfl ?_
    refine am_s rfl rfl ?_
    refine s_is rfl g rfl ⟨by omega, by omega⟩ (by decide) ?_
    refine am_s rfl rfl ?_
    refine s_gr rfl g rfl rfl ?_
    refine s_k 2 rfl rfl ?_
    refine am_s rfl rfl ?_
    refine s_is rfl g rfl ⟨by omega, by omega⟩ (by decide) ?_
    first | exact am_r rfl rfl ⟨rfl, Or.inl ⟨c1, rfl⟩⟩ | exact am_r rfl rfl ⟨rfl, Or.inr ⟨by omega, rfl⟩⟩
/-- what is known in the look: a flaw is kept, or none was seen so far -/
def ff_at (s s1 : am_S) (Pr : Prop) : Prop := am_Fm [174] [12] s s1 ∧ ((s1 168 12 ≠ 0 ∧ fl_is (s 168 1) (my s) (s1 168 12) (s1 174 0) (s1 174 1) (s1 174 2)) ∨ (s1 168 12 = 0 ∧ s1 174 0 = -1 ∧ s1 174 1 = -1 ∧ s1 174 2 = -1 ∧ Pr))
theorem ff_r {s s1 : am_S} {Pr : Prop} (h : ff_at s s1 Pr) : am_R (s1 168 12) := by
  rcases h.2 with ⟨h1, h2⟩ | ⟨h1, -⟩
  · rcases h2 with h | h | h | h <;> exact ⟨by have := h.1; omega, by have := h.1; omega⟩
  · exact ⟨by omega, by omega⟩
theorem ff_my {s s1 : am_S} {Pr : Prop} (h : ff_at s s1 Pr) (x y : Int) : my s1 x y = my s x y := by
  unfold my
  rw [h.1.1 169 (by decide)]
theorem ff_n {s s1 : am_S} {Pr : Prop} (h : ff_at s s1 Pr) : s1 168 1 = s 168 1 := h.1.2 1 (by decide)
theorem ff_go {s s1 : am_S} {Pr Qr : Prop} (h : ff_at s s1 Pr) (k : Pr → Qr) : ff_at s s1 Qr := ⟨h.1, h.2.elim Or.inl (fun z => Or.inr ⟨z.1, z.2.1, z.2.2.1, z.2.2.2.1, k z.2.2.2.2⟩)⟩
/-- a flaw told: kept if it is the first -/
theorem ff_is {d : Nat} {E : am_Ev} {s s1 : am_S} {Pr Qr : Prop} {k a b c : Int} (g : am_Eg E) (h : ff_at s s1 Pr) (hk : k ≠ 0) (hf : Pr → fl_is (s 168 1) (my s) k a b c) : am_wp d 178 0 (lv_args 0 [.ref 168, .int (iI k), .int (iI a), .int (iI b), .int (iI c)]) [] (am_hp E s1) (fun rv h => rv = none ∧ ∃ s2, h = am_hp E s2 ∧ ff_at s s2 Qr) := by
  refine am_wp_mono (t_flawIs g (ff_r h)) ?_
  rintro rv h1 ⟨rfl, ⟨e1, rfl⟩ | ⟨e1, rfl⟩⟩
  · exact ⟨rfl, s1, rfl, h.1, Or.inl (h.2.resolve_right (fun z => e1 z.1))⟩
  · refine ⟨rfl, _, rfl, s_fi_fm h.1, Or.inl ⟨hk, ?_⟩⟩
    have hp := (h.2.resolve_left (fun z => z.1 e1)).2.2.2.2
    exact hf hp
theorem t_findFlaw {d : Nat} {E : am_Ev} {s : am_S} (g : am_Eg E) (hm : my_ok s) : am_wp (d + 1) 179 0 (lv_args 0 [.ref 168]) [] (am_hp E s) (fun rv h => rv = none ∧ ∃ s', h = am_hp E s' ∧ am_Fm [174] [12] s s' ∧ fl_is (s 168 1) (my s) (s' 168 12) (s' 174 0) (s' 174 1) (s' 174 2)) := by
  obtain ⟨n1, n2, hD⟩ := hm
  obtain ⟨n, en⟩ : ∃ n : Nat, s 168 1 = n := ⟨(s 168 1).toNat, by omega⟩
  refine am_s rfl rfl ?_
  refine s_k 0 rfl rfl ?_
  refine s_pi (x := 12) rfl g rfl rfl rfl rfl ?_
  refine am_s rfl rfl ?_
  refine s_gr rfl g rfl rfl ?_
  refine s_k 0 rfl rfl ?_
  refine s_k (-1) rfl rfl ?_
  refine s_is rfl g rfl ⟨by omega, by omega⟩ (by decide) ?_
  refine am_s rfl rfl ?_
  refine s_gr rfl g rfl rfl ?_
  refine s_k 1 rfl rfl ?_
  refine s_k (-1) rfl rfl ?_
  refine s_is rfl g rfl ⟨by omega, by omega⟩ (by decide) ?_
  refine am_s rfl rfl ?_
  refine s_gr rfl g rfl rfl ?_
  refine s_k 2 rfl rfl ?_
  refine s_k (-1) rfl rfl ?_
  refine s_is rfl g rfl ⟨by omega, by omega⟩ (by decide) ?_
  refine s_k 0 rfl rfl ?_
  refine am_s rfl rfl ?_
  refine am_lv [(1, .int (iI (((0 : Nat) : Int) : Int))), (0, .ref 168)] rfl rfl ⟨rfl, rfl, trivial⟩ ?_
  refine s_loop (X := Unit) (fun k _ s' => ff_at s s' (∀ x, 0 ≤ x → x < (k : Int) → my s x x = 0)) (fun k _ => [(1, .int (iI (k : Int))), (0, .ref 168)]) (lo := 0) (hi := n) (x := ()) (by omega) ⟨am_Fm_c (am_Fm_c (am_Fm_c (am_Fm_f (am_Fm_r _ _ _) (by decide)) (by decide) (by decide)) (by decide) (by decide)) (by decide) (by decide), Or.inr ⟨rfl, rfl, rfl, rfl, fun x x0 x1 => absurd x1 (by omega)⟩⟩ ?_ ?_
  · rintro k - s1 hk0 hk hI kk
    have hN := ff_n hI
    simp only at kk ⊢
    refine am_s rfl rfl ?_
    refine am_s rfl rfl ?_
    refine s_gi (x := 1) rfl g rfl rfl rfl ?_
    refine s_cge rfl ⟨by omega, by omega⟩ ⟨by omega, by omega⟩ (fun c1 => absurd c1 (by omega)) (fun c1 => ?_)
    refine am_s rfl rfl ?_
    refine am_s rfl rfl ?_
    refine am_s rfl rfl ?_
    refine s_cv [_, _] [] rfl g (Or.inl rfl) rfl rfl (Nat.le_of_ble_eq_true rfl) rfl rfl (t_far g ⟨by omega, by omega⟩ ⟨by omega, by omega⟩) ?_
    rintro rv h1 ⟨rfl, rfl⟩
    refine s_zeq rfl (by rw [ff_my hI]; have := hD k k (by omega) (by omega) (by omega) (by omega); exact ⟨by omega, by omega⟩) (fun c2 => ?_) (fun c2 => ?_)
    · refine s_inc rfl rfl ?_
      refine am_s rfl rfl ?_
      refine am_lv [(1, _), (0, _)] rfl rfl ⟨rfl, rfl, trivial⟩ ?_
      refine kk () _ (ff_go hI (fun hp x x0 x1 => ?_))
      by_cases e : x = (k : Int)
      · rw [e, ← ff_my hI]; exact c2
      · exact hp x x0 (by omega)
    · refine am_s rfl rfl ?_
      refine s_k 1 rfl rfl ?_
      refine am_s rfl rfl ?_
      refine s_k (-1) rfl rfl ?_
      refine s_k (-1) rfl rfl ?_
      refine s_cv [_, _, _, _] [] rfl g (Or.inl rfl) rfl rfl (Nat.le_of_ble_eq_true rfl) rfl rfl (ff_is (Qr := ∀ x, 0 ≤ x → x < ((k + 1 : Nat) : Int) → my s x x = 0) g hI (by decide) (fun hp => Or.inr (Or.inl ⟨rfl, rfl, rfl, by omega, by omega, by rw [← ff_my hI]; exact c2, hp⟩))) ?_
      rintro rv h1 ⟨rfl, s2, rfl, hI2⟩
      refine s_inc rfl rfl ?_
      refine am_s rfl rfl ?_
      refine am_lv [(1, _), (0, _)] rfl rfl ⟨rfl, rfl, trivial⟩ ?_
      exact kk () _ hI2
  · rintro - s1 hI1
    have hN := ff_n hI1
    simp only
    refine am_s rfl rfl ?_
    refine am_s rfl rfl ?_
    refine s_gi (x := 1) rfl g rfl rfl rfl ?_
    refine s_cge rfl ⟨by omega, by omega⟩ ⟨by omega, by omega⟩ (fun c1 => ?_) (fun c1 => absurd c1 (by omega))
    refine s_k 0 rfl rfl ?_
    refine am_s rfl rfl ?_
    refine am_lv [(1, .int (iI (((0 : Nat) : Int) : Int))), (0, .ref 168)] rfl rfl ⟨rfl, rfl, trivial⟩ ?_
    refine s_loop (X := Unit) (fun k _ s' => ff_at s s' (fl_own n (my s) ∧ ∀ x y, 0 ≤ x → x < (k : Int) → x < y → y < (n : Int) → my s x y = my s y x)) (fun k _ => [(1, .int (iI (k : Int))), (0, .ref 168)]) (lo := 0) (hi := n) (x := ()) (by omega) (ff_go hI1 (fun hp => ⟨hp, fun x y x0 x1 => absurd x1 (by omega)⟩)) ?_ ?_
    · rintro k - s1 hk0 hk hI kk
      have hN := ff_n hI
      simp only at kk ⊢
      refine am_s rfl rfl ?_
      refine am_s rfl rfl ?_
      refine s_gi (x := 1) rfl g rfl rfl rfl ?_
      refine s_cge rfl ⟨by omega, by omega⟩ ⟨by omega, by omega⟩ (fun c1 => absurd c1 (by omega)) (fun c1 => ?_)
      refine am_s rfl rfl ?_
      refine s_k 1 rfl rfl ?_
      refine s_iadd rfl ?_
      refine am_s rfl rfl ?_
      refine am_lv [(2, .int (iI (((k + 1 : Nat) : Int) : Int))), (1, .int (iI (k : Int))), (0, .ref 168)] rfl rfl ⟨rfl, rfl, rfl, trivial⟩ ?_
      refine s_loop (X := Unit) (fun m _ s' => ff_at s s' ((fl_own n (my s) ∧ ∀ x y, 0 ≤ x → x < (k : Int) → x < y → y < (n : Int) → my s x y = my s y x) ∧ ∀ y, (k : Int) < y → y < (m : Int) → my s k y = my s y k)) (fun m _ => [(2, .int (iI (m : Int))), (1, .int (iI (k : Int))), (0, .ref 168)]) (lo := k + 1) (hi := n) (x := ()) (by omega) (ff_go hI (fun hp => ⟨hp, fun y y0 y1 => absurd y1 (by omega)⟩)) ?_ ?_
      · rintro m - s2 hm0 hm hJ k2
        have hN2 := ff_n hJ
        simp only at k2 ⊢
        refine am_s rfl rfl ?_
        refine am_s rfl rfl ?_
        refine s_gi (x := 1) rfl g rfl rfl rfl ?_
        refine s_cge rfl ⟨by omega, by omega⟩ ⟨by omega, by omega⟩ (fun c2 => absurd c2 (by omega)) (fun c2 => ?_)
        refine am_s rfl rfl ?_
        refine am_s rfl rfl ?_
        refine am_s rfl rfl ?_
        refine s_cv [_, _] [] rfl g (Or.inl rfl) rfl rfl (Nat.le_of_ble_eq_true rfl) rfl rfl (t_far g ⟨by omega, by omega⟩ ⟨by omega, by omega⟩) ?_
        rintro rv h1 ⟨rfl, rfl⟩
        refine am_s rfl rfl ?_
        refine am_s rfl rfl ?_
        refine am_s rfl rfl ?_
        refine s_cv [_, _] [_] rfl g (Or.inl rfl) rfl rfl (Nat.le_of_ble_eq_true rfl) rfl rfl (t_far g ⟨by omega, by omega⟩ ⟨by omega, by omega⟩) ?_
        rintro rv h1 ⟨rfl, rfl⟩
        refine s_ceq rfl (by rw [ff_my hJ]; have := hD k m (by omega) (by omega) (by omega) (by omega); exact ⟨by omega, by omega⟩) (by rw [ff_my hJ]; have := hD m k (by omega) (by omega) (by omega) (by omega); exact ⟨by omega, by omega⟩) (fun c3 => ?_) (fun c3 => ?_)
        · refine s_inc rfl rfl ?_
          refine am_s rfl rfl ?_
          refine am_lv [(2, _), (1, _), (0, _)] rfl rfl ⟨rfl, rfl, rfl, trivial⟩ ?_
          refine k2 () _ (ff_go hJ (fun hp => ⟨hp.1, fun y y0 y1 => ?_⟩))
          by_cases e : y = (m : Int)
          · rw [e, ← ff_my hJ, ← ff_my hJ]; exact c3
          · exact hp.2 y y0 (by omega)
        · refine am_s rfl rfl ?_
          refine s_k 2 rfl rfl ?_
          refine am_s rfl rfl ?_
          refine am_s rfl rfl ?_
          refine s_k (-1) rfl rfl ?_
          refine s_cv [_, _, _, _] [] rfl g (Or.inl rfl) rfl rfl (Nat.le_of_ble_eq_true rfl) rfl rfl (ff_is (Qr := ((fl_own n (my s) ∧ ∀ x y, 0 ≤ x → x < (k : Int) → x < y → y < (n : Int) → my s x y = my s y x) ∧ ∀ y, (k : Int) < y → y < ((m + 1 : Nat) : Int) → my s k y = my s y k)) g hJ (by decide) (fun hp => Or.inr (Or.inr (Or.inl ⟨rfl, rfl, by rw [en]; exact hp.1.1, by omega, by omega, by omega, by rw [← ff_my hJ, ← ff_my hJ]; exact c3, fun x y x0 xy y1 hx => by rcases hx with hx | ⟨hx, hy⟩ <;> first | exact hp.1.2 x y x0 hx xy (by omega) | (subst hx; exact hp.2 y xy hy)⟩)))) ?_
          rintro rv h1 ⟨rfl, s3, rfl, hJ2⟩
          refine s_inc rfl rfl ?_
          refine am_s rfl rfl ?_
          refine am_lv [(2, _), (1, _), (0, _)] rfl rfl ⟨rfl, rfl, rfl, trivial⟩ ?_
          exact k2 () _ hJ2
      · rintro - s2 hJ
        have hN2 := ff_n hJ
        simp only
        refine am_s rfl rfl ?_
        refine am_s rfl rfl ?_
        refine s_gi (x := 1) rfl g rfl rfl rfl ?_
        refine s_cge rfl ⟨by omega, by omega⟩ ⟨by omega, by omega⟩ (fun c2 => ?_) (fun c2 => absurd c2 (by omega))
        refine s_inc rfl rfl ?_
        refine am_s rfl rfl ?_
        refine am_lv [(1, _), (0, _)] rfl rfl ⟨rfl, rfl, trivial⟩ ?_
        refine kk () _ (ff_go hJ (fun hp => ⟨hp.1.1, fun x y x0 x1 y0 y1 => ?_⟩))
        by_cases e : x = (k : Int)
        · rw [e]; exact hp.2 y (by omega) y1
        · exact hp.1.2 x y x0 (by omega) y0 y1
    · rintro - s1 hI2
      have hN := ff_n hI2
      simp only
      refine am_s rfl rfl ?_
      refine am_s rfl rfl ?_
      refine s_gi (x := 1) rfl g rfl rfl rfl ?_
      refine s_cge rfl ⟨by omega, by omega⟩ ⟨by omega, by omega⟩ (fun c1 => ?_) (fun c1 => absurd c1 (by omega))
      refine s_k 0 rfl rfl ?_
      refine am_s rfl rfl ?_
      refine am_lv [(1, .int (iI (((0 : Nat) : Int) : Int))), (0, .ref 168)] rfl rfl ⟨rfl, rfl, trivial⟩ ?_
      refine s_loop (X := Unit) (fun k _ s' => ff_at s s' (fl_own n (my s) ∧ fl_sym n (my s) ∧ ∀ x y z, 0 ≤ x → x < (k : Int) → 0 ≤ y → y < (n : Int) → 0 ≤ z → z < (n : Int) → my s x z ≤ my s x y + my s y z)) (fun k _ => [(1, .int (iI (k : Int))), (0, .ref 168)]) (lo := 0) (hi := n) (x := ()) (by omega) (ff_go hI2 (fun hp => ⟨hp.1, fun x y x0 x1 y0 y1 => ?sy, fun x y z x0 x1 => absurd x1 (by omega)⟩)) ?_ ?_
      case sy =>
        rcases Int.lt_trichotomy x y with h | h | h
        · exact hp.2 x y x0 x1 h y1
        · rw [h]
        · exact (hp.2 y x y0 y1 h x1).symm
      · rintro k - s1 hk0 hk hI kk
        have hN := ff_n hI
        simp only at kk ⊢
        refine am_s rfl rfl ?_
        refine am_s rfl rfl ?_
        refine s_gi (x := 1) rfl g rfl rfl rfl ?_
        refine s_cge rfl ⟨by omega, by omega⟩ ⟨by omega, by omega⟩ (fun c1 => absurd c1 (by omega)) (fun c1 => ?_)
        refine s_k 0 rfl rfl ?_
        refine am_s rfl rfl ?_
        refine am_lv [(2, .int (iI (((0 : Nat) : Int) : Int))), (1, .int (iI (k : Int))), (0, .ref 168)] rfl rfl ⟨rfl, rfl, rfl, trivial⟩ ?_
        refine s_loop (X := Unit) (fun m _ s' => ff_at s s' ((fl_own n (my s) ∧ fl_sym n (my s) ∧ ∀ x y z, 0 ≤ x → x < (k : Int) → 0 ≤ y → y < (n : Int) → 0 ≤ z → z < (n : Int) → my s x z ≤ my s x y + my s y z) ∧ ∀ y z, 0 ≤ y → y < (m : Int) → 0 ≤ z → z < (n : Int) → my s k z ≤ my s k y + my s y z)) (fun m _ => [(2, .int (iI (m : Int))), (1, .int (iI (k : Int))), (0, .ref 168)]) (lo := 0) (hi := n) (x := ()) (by omega) (ff_go hI (fun hp => ⟨hp, fun y z y0 y1 => absurd y1 (by omega)⟩)) ?_ ?_
        · rintro m - s2 hm0 hm hJ k2
          have hN2 := ff_n hJ
          simp only at k2 ⊢
          refine am_s rfl rfl ?_
          refine am_s rfl rfl ?_
          refine s_gi (x := 1) rfl g rfl rfl rfl ?_
          refine s_cge rfl ⟨by omega, by omega⟩ ⟨by omega, by omega⟩ (fun c1 => absurd c1 (by omega)) (fun c1 => ?_)
          refine s_k 0 rfl rfl ?_
          refine am_s rfl rfl ?_
          refine am_lv [(3, .int (iI (((0 : Nat) : Int) : Int))), (2, .int (iI (m : Int))), (1, .int (iI (k : Int))), (0, .ref 168)] rfl rfl ⟨rfl, rfl, rfl, rfl, trivial⟩ ?_
          refine s_loop (X := Unit) (fun q _ s' => ff_at s s' (((fl_own n (my s) ∧ fl_sym n (my s) ∧ ∀ x y z, 0 ≤ x → x < (k : Int) → 0 ≤ y → y < (n : Int) → 0 ≤ z → z < (n : Int) → my s x z ≤ my s x y + my s y z) ∧ ∀ y z, 0 ≤ y → y < (m : Int) → 0 ≤ z → z < (n : Int) → my s k z ≤ my s k y + my s y z) ∧ ∀ z, 0 ≤ z → z < (q : Int) → my s k z ≤ my s k m + my s m z)) (fun q _ => [(3, .int (iI (q : Int))), (2, .int (iI (m : Int))), (1, .int (iI (k : Int))), (0, .ref 168)]) (lo := 0) (hi := n) (x := ()) (by omega) (ff_go hJ (fun hp => ⟨hp, fun z z0 z1 => absurd z1 (by omega)⟩)) ?_ ?_
          · rintro q - s3 hq0 hq hK k3
            have hN3 := ff_n hK
            simp only at k3 ⊢
            refine am_s rfl rfl ?_
            refine am_s rfl rfl ?_
            refine s_gi (x := 1) rfl g rfl rfl rfl ?_
            refine s_cge rfl ⟨by omega, by omega⟩ ⟨by omega, by omega⟩ (fun c4 => absurd c4 (by omega)) (fun c4 => ?_)
            refine am_s rfl rfl ?_
            refine s_gi (x := 12) rfl g rfl rfl rfl ?_
            refine s_zne rfl (ff_r hK) (fun c5 => ?_) (fun c5 => ?_)
            · refine s_inc rfl rfl ?_
              refine am_s rfl rfl ?_
              refine am_lv [(2, _), (1, _), (0, _)] rfl rfl ⟨rfl, rfl, rfl, trivial⟩ ?_
              exact k2 () _ ⟨hK.1, Or.inl (hK.2.resolve_right (fun z => c5 z.1))⟩
            · refine am_s rfl rfl ?_
              refine am_s rfl rfl ?_
              refine am_s rfl rfl ?_
              refine s_cv [_, _] [] rfl g (Or.inl rfl) rfl rfl (Nat.le_of_ble_eq_true rfl) rfl rfl (t_far g ⟨by omega, by omega⟩ ⟨by omega, by omega⟩) ?_
              rintro rv h1 ⟨rfl, rfl⟩
              refine s_i2l rfl (by rw [ff_my hK]; have := hD k q (by omega) (by omega) (by omega) (by omega); exact ⟨by omega, by omega⟩) ?_
              refine am_s rfl rfl ?_
              refine am_s rfl rfl ?_
              refine am_s rfl rfl ?_
              refine s_cv [_, _] [_] rfl g (Or.inl rfl) rfl rfl (Nat.le_of_ble_eq_true rfl) rfl rfl (t_far g ⟨by omega, by omega⟩ ⟨by omega, by omega⟩) ?_
              rintro rv h1 ⟨rfl, rfl⟩
              refine s_i2l rfl (by rw [ff_my hK]; have := hD k m (by omega) (by omega) (by omega) (by omega); exact ⟨by omega, by omega⟩) ?_
              refine am_s rfl rfl ?_
              refine am_s rfl rfl ?_
              refine am_s rfl rfl ?_
              refine s_cv [_, _] [_, _] rfl g (Or.inl rfl) rfl rfl (Nat.le_of_ble_eq_true rfl) rfl rfl (t_far g ⟨by omega, by omega⟩ ⟨by omega, by omega⟩) ?_
              rintro rv h1 ⟨rfl, rfl⟩
              refine s_i2l rfl (by rw [ff_my hK]; have := hD m q (by omega) (by omega) (by omega) (by omega); exact ⟨by omega, by omega⟩) ?_
              refine s_ladd rfl ?_
              refine s_jle rfl rfl (by rw [ff_my hK]; have := hD k q (by omega) (by omega) (by omega) (by omega); exact ⟨by omega, by omega⟩) (by rw [ff_my hK, ff_my hK]; have h1 := hD k m (by omega) (by omega) (by omega) (by omega); have h2 := hD m q (by omega) (by omega) (by omega) (by omega); exact ⟨by omega, by omega⟩) (fun c6 => ?_) (fun c6 => ?_)
              · refine s_inc rfl rfl ?_
                refine am_s rfl rfl ?_
                refine am_lv [(3, _), (2, _), (1, _), (0, _)] rfl rfl ⟨rfl, rfl, rfl, rfl, trivial⟩ ?_
                refine k3 () _ (ff_go hK (fun hp => ⟨hp.1, fun z z0 z1 => ?_⟩))
                by_cases e : z = (q : Int)
                · rw [e, ← ff_my hK, ← ff_my hK, ← ff_my hK]; exact c6
                · exact hp.2 z z0 (by omega)
              · refine am_s rfl rfl ?_
                refine s_k 3 rfl rfl ?_
                refine am_s rfl rfl ?_
                refine am_s rfl rfl ?_
                refine am_s rfl rfl ?_
                refine s_cv [_, _, _, _] [] rfl g (Or.inl rfl) rfl rfl (Nat.le_of_ble_eq_true rfl) rfl rfl (ff_is (Qr := (((fl_own n (my s) ∧ fl_sym n (my s) ∧ ∀ x y z, 0 ≤ x → x < (k : Int) → 0 ≤ y → y < (n : Int) → 0 ≤ z → z < (n : Int) → my s x z ≤ my s x y + my s y z) ∧ ∀ y z, 0 ≤ y → y < (m : Int) → 0 ≤ z → z < (n : Int) → my s k z ≤ my s k y + my s y z) ∧ ∀ z, 0 ≤ z → z < ((q + 1 : Nat) : Int) → my s k z ≤ my s k m + my s m z)) g hK (by decide) (fun hp => Or.inr (Or.inr (Or.inr ⟨rfl, by rw [en]; exact hp.1.1.1, by rw [en]; exact hp.1.1.2.1, ⟨by omega, by omega⟩, ⟨by omega, by omega⟩, ⟨by omega, by omega⟩, by rw [← ff_my hK, ← ff_my hK, ← ff_my hK]; exact Int.not_le.mp c6, fun x y z x0 x1 y0 y1 z0 z1 hx => by rcases hx with hx | ⟨hx, hy | ⟨hy, hz⟩⟩ <;> first | exact hp.1.1.2.2 x y z x0 hx y0 (by omega) z0 (by omega) | (subst hx; exact hp.1.2 y z y0 hy z0 (by omega)) | (subst hx; subst hy; exact hp.2 z z0 hz)⟩)))) ?_
                rintro rv h1 ⟨rfl, s4, rfl, hK2⟩
                refine s_inc rfl rfl ?_
                refine am_s rfl rfl ?_
                refine am_lv [(3, _), (2, _), (1, _), (0, _)] rfl rfl ⟨rfl, rfl, rfl, rfl, trivial⟩ ?_
                exact k3 () _ hK2
          · rintro - s3 hK
            have hN3 := ff_n hK
            simp only
            refine am_s rfl rfl ?_
            refine am_s rfl rfl ?_
            refine s_gi (x := 1) rfl g rfl rfl rfl ?_
            refine s_cge rfl ⟨by omega, by omega⟩ ⟨by omega, by omega⟩ (fun c4 => ?_) (fun c4 => absurd c4 (by omega))
            refine s_inc rfl rfl ?_
            refine am_s rfl rfl ?_
            refine am_lv [(2, _), (1, _), (0, _)] rfl rfl ⟨rfl, rfl, rfl, trivial⟩ ?_
            refine k2 () _ (ff_go hK (fun hp => ⟨hp.1.1, fun y z y0 y1 z0 z1 => ?_⟩))
            by_cases e : y = (m : Int)
            · rw [e]; exact hp.2 z z0 z1
            · exact hp.1.2 y z y0 (by omega) z0 z1
        · rintro - s2 hJ
          have hN2 := ff_n hJ
          simp only
          refine am_s rfl rfl ?_
          refine am_s rfl rfl ?_
          refine s_gi (x := 1) rfl g rfl rfl rfl ?_
          refine s_cge rfl ⟨by omega, by omega⟩ ⟨by omega, by omega⟩ (fun c1 => ?_) (fun c1 => absurd c1 (by omega))
          refine s_inc rfl rfl ?_
          refine am_s rfl rfl ?_
          refine am_lv [(1, _), (0, _)] rfl rfl ⟨rfl, rfl, trivial⟩ ?_
          refine kk () _ (ff_go hJ (fun hp => ⟨hp.1.1, hp.1.2.1, fun x y z x0 x1 y0 y1 z0 z1 => ?_⟩))
          by_cases e : x = (k : Int)
          · rw [e]; exact hp.2 y z y0 y1 z0 z1
          · exact hp.1.2.2 x y z x0 (by omega) y0 y1 z0 z1
      · rintro - s1 hI3
        have hN := ff_n hI3
        simp only
        refine am_s rfl rfl ?_
        refine am_s rfl rfl ?_
        refine s_gi (x := 1) rfl g rfl rfl rfl ?_
        refine s_cge rfl ⟨by omega, by omega⟩ ⟨by omega, by omega⟩ (fun c1 => ?_) (fun c1 => absurd c1 (by omega))
        refine am_r rfl rfl ⟨rfl, s1, rfl, hI3.1, ?_⟩
        rcases hI3.2 with z | ⟨z1, z2, z3, z4, z5, z6, z7⟩
        · exact z.2
        · rw [z1, z2, z3, z4]; exact Or.inl ⟨rfl, rfl, rfl, rfl, by rw [en]; exact z5, by rw [en]; exact z6, by rw [en]; exact z7⟩
