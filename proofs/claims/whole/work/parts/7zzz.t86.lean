/-! the walk of the other one -/
def yO (s : am_S) (p q : Int) : Int := s 181 (20 * p + q)
def lkS (s : am_S) (a b k : Int) : am_S := am_w (am_w s 181 (20 * a + b) (s 181 (20 * a + b) + k)) 181 (20 * b + a) (am_w s 181 (20 * a + b) (s 181 (20 * a + b) + k) 181 (20 * b + a) + k)
theorem lkS_o {s : am_S} {a b k : Int} (ha : 0 ≤ a ∧ a < 20) (hb : 0 ≤ b ∧ b < 20) {p q : Int} (hp : 0 ≤ p ∧ p < 20) (hq : 0 ≤ q ∧ q < 20) : yO (lkS s a b k) p q = yO s p q + k * w2f a b p q := by
  have e1 : (20 * p + q = 20 * b + a) ↔ (p = b ∧ q = a) := ⟨fun z => ⟨by omega, by omega⟩, fun z => by omega⟩
  have e2 : (20 * p + q = 20 * a + b) ↔ (p = a ∧ q = b) := ⟨fun z => ⟨by omega, by omega⟩, fun z => by omega⟩
  unfold yO lkS w2f
  by_cases c1 : p = b ∧ q = a
  · rw [if_pos c1, e1.mpr c1, am_w_eq]
    by_cases c2 : p = a ∧ q = b
    · have ab : a = b := by omega
      subst ab
      rw [am_w_eq, if_pos c2]; omega
    · have ab : ¬ a = b := fun z => c2 ⟨by omega, by omega⟩
      rw [am_w_x (by omega), if_neg c2]; omega
  · rw [am_w_x (fun z => c1 (e1.mp z)), if_neg c1]
    by_cases c2 : p = a ∧ q = b
    · rw [if_pos c2, e2.mpr c2, am_w_eq]; omega
    · rw [if_neg c2, am_w_x (fun z => c2 (e2.mp z))]; omega
theorem lkS_f {s : am_S} {a b k : Int} {q : Nat} (h : q ≠ 181) : lkS s a b k q = s q := by
  unfold lkS
  rw [am_w_row h, am_w_row h]
theorem lkS_F {s s1 : am_S} {a b k : Int} {Ls : List Nat} {F : List Int} (h : am_Fm Ls F s s1) (h2 : 181 ∈ Ls) : am_Fm Ls F s (lkS s1 a b k) := am_Fm_c (am_Fm_c h h2 (by decide)) h2 (by decide)
theorem t_linkM {d : Nat} {E : am_Ev} {s : am_S} {a b k : Int} (g : am_Eg E) (ha : 0 ≤ a ∧ a < 20) (hb : 0 ≤ b ∧ b < 20) : am_wp d 194 0 (lv_args 0 [.ref 168, .int (iI a), .int (iI b), .int (iI k)]) [] (am_hp E s) (fun rv h => rv = none ∧ h = am_hp E (lkS s a b k)) := by
  refine am_s rfl rfl ?_
  refine s_gr rfl g rfl rfl ?_
  refine s_k 20 rfl rfl ?_
  refine am_s rfl rfl ?_
  refine s_imul rfl ?_
  refine am_s rfl rfl ?_
  refine s_iadd rfl ?_
  refine am_s rfl rfl ?_
  refine s_ia rfl g rfl ⟨by omega, by omega⟩ (by decide) ?_
  refine am_s rfl rfl ?_
  refine s_iadd rfl ?_
  refine s_is rfl g rfl ⟨by omega, by omega⟩ (by decide) ?_
  refine am_s rfl rfl ?_
  refine s_gr rfl g rfl rfl ?_
  refine s_k 20 rfl rfl ?_
  refine am_s rfl rfl ?_
  refine s_imul rfl ?_
  refine am_s rfl rfl ?_
  refine s_iadd rfl ?_
  refine am_s rfl rfl ?_
  refine s_ia rfl g rfl ⟨by omega, by omega⟩ (by decide) ?_
  refine am_s rfl rfl ?_
  refine s_iadd rfl ?_
  refine s_is rfl g rfl ⟨by omega, by omega⟩ (by decide) ?_
  exact am_r rfl rfl ⟨rfl, rfl⟩
/-- the other one's rows hold the walk's state -/
abbrev ymI (s s' : am_S) (N k : Nat) (b : wS) : Prop := Nonempty (PProd (wkn N (w0 (s 192) (s 178) N) k b) (PProd (am_Fm [180, 181, 182] [26] s s') (PProd (s' 168 26 = (b.L.length : Int)) (PProd (∀ p q, 0 ≤ p → p < (N : Int) → 0 ≤ q → q < (N : Int) → yO s' p q = b.O p q) (PProd (∀ i, 0 ≤ i → i ≤ b.h → s' 182 i = b.R i) (∀ (i : Nat) v, b.L[i]? = some v → s' 180 i = v))))))
theorem ymI.wk {s s' : am_S} {N k : Nat} {b : wS} (h_ : ymI s s' N k b) : wkn N (w0 (s 192) (s 178) N) k b := h_.elim (fun x_ => x_.1)
theorem ymI.fr {s s' : am_S} {N k : Nat} {b : wS} (h_ : ymI s s' N k b) : am_Fm [180, 181, 182] [26] s s' := h_.elim (fun x_ => x_.2.1)
theorem ymI.sz {s s' : am_S} {N k : Nat} {b : wS} (h_ : ymI s s' N k b) : s' 168 26 = (b.L.length : Int) := h_.elim (fun x_ => x_.2.2.1)
theorem ymI.o {s s' : am_S} {N k : Nat} {b : wS} (h_ : ymI s s' N k b) : ∀ p q, 0 ≤ p → p < (N : Int) → 0 ≤ q → q < (N : Int) → yO s' p q = b.O p q := h_.elim (fun x_ => x_.2.2.2.1)
theorem ymI.r {s s' : am_S} {N k : Nat} {b : wS} (h_ : ymI s s' N k b) : ∀ i, 0 ≤ i → i ≤ b.h → s' 182 i = b.R i := h_.elim (fun x_ => x_.2.2.2.2.1)
theorem ymI.c {s s' : am_S} {N k : Nat} {b : wS} (h_ : ymI s s' N k b) : ∀ (i : Nat) v, b.L[i]? = some v → s' 180 i = v := h_.elim (fun x_ => x_.2.2.2.2.2)
def yW (s s' : am_S) (N : Nat) : Prop := ∃ k b, wkn N (w0 (s 192) (s 178) N) k b ∧ b.h < 0 ∧ s' 168 24 = 1 ∧ s' 168 26 = (b.L.length : Int) ∧ (∀ (i : Nat) v, b.L[i]? = some v → s' 180 i = v) ∧ am_Fm [180, 181, 182] [24, 26] s s' ∧ (b.L.length : Int) ≤ 40 ∧ ∀ x, x ∈ b.L → 0 ≤ x ∧ x < (N : Int)
theorem ymI_push {s s1 : am_S} {N k : Nat} {b : wS} {x : Int} (hN : N ≤ 20) (h : ymI s s1 N k b) (h0 : 0 ≤ b.h) (rc : 0 ≤ b.R b.h ∧ b.R b.h < (N : Int)) (hw : wl N b.O (b.R b.h) x) (hx : x ≠ -1) : ymI s (am_w (lkS s1 (b.R b.h) x (-1)) 182 (b.h + 1) x) N (k + 1) ⟨wu b.O (b.R b.h) x, fun y => if y = b.h + 1 then x else b.R y, b.h + 1, b.L⟩ := by
  have rx : 0 ≤ x ∧ x < (N : Int) := by
    rcases hw with ⟨z, -⟩ | ⟨z1, z2, -⟩
    · exact absurd z hx
    · exact ⟨z1, z2⟩
  refine ⟨⟨b, h.wk, h0, x, hw, Or.inr ⟨hx, rfl⟩⟩, am_Fm_c (lkS_F h.fr (by decide)) (by decide) (by decide), ?_, fun p q p0 p1 q0 q1 => ?_, fun i i0 i1 => ?_, fun i v hv => ?_⟩
  · rw [am_w_row (by decide), lkS_f (by decide)]; exact h.sz
  · have z := lkS_o (s := s1) (a := b.R b.h) (b := x) (k := -1) ⟨by omega, by omega⟩ ⟨by omega, by omega⟩ (p := p) (q := q) ⟨by omega, by omega⟩ ⟨by omega, by omega⟩
    unfold yO at z ⊢
    rw [am_w_row (by omega), z]
    have e := h.o p q p0 p1 q0 q1
    unfold yO at e
    rw [e]
    show _ = b.O p q - (if p = b.R b.h ∧ q = x then 1 else 0) - (if p = x ∧ q = b.R b.h then 1 else 0)
    unfold w2f
    omega
  · show am_w _ 182 (b.h + 1) x 182 i = if i = b.h + 1 then x else b.R i
    have i1 : i ≤ b.h + 1 := i1
    by_cases c : i = b.h + 1
    · rw [c, am_w_eq, if_pos rfl]
    · rw [am_w_x c, if_neg c, lkS_f (by decide)]
      exact h.r i i0 (by omega)
  · rw [am_w_row (by decide), lkS_f (by decide)]
    exact h.c i v hv
theorem ymI_pop {s s1 s2 : am_S} {N k : Nat} {b : wS} (h : ymI s s1 N k b) (h0 : 0 ≤ b.h) (hw : wl N b.O (b.R b.h) (-1)) (hF : am_Fr [180] s1 s2) (hs : ∀ i : Nat, (i : Int) < (b.L.length : Int) → s2 180 ((i : Int) + 1) = s1 180 i) : ymI s (am_w (am_w s2 180 0 (b.R b.h)) 168 26 (s1 168 26 + 1)) N (k + 1) ⟨b.O, b.R, b.h - 1, b.R b.h :: b.L⟩ := by
  have e0 : s2 168 = s1 168 := hF 168 (by decide)
  refine ⟨⟨b, h.wk, h0, -1, hw, Or.inl ⟨rfl, rfl⟩⟩, ⟨fun q hq => ?_, fun y hy => ?_⟩, ?_, fun p q p0 p1 q0 q1 => ?_, fun i i0 i1 => ?_, fun i v hv => ?_⟩
  · have q1 : q ≠ 168 := fun z => hq (by rw [z]; decide)
    have q2 : q ≠ 180 := fun z => hq (by rw [z]; decide)
    rw [am_w_row q1, am_w_row q2, hF q (fun z => q2 (by simpa using z))]
    exact h.fr.1 q hq
  · rw [am_w_x (fun z => hy (by rw [z]; decide)), am_w_row (by decide), e0]
    exact h.fr.2 y hy
  · rw [am_w_eq, h.sz]; rfl
  · unfold yO
    rw [am_w_row (by decide), am_w_row (by decide), hF 181 (by decide)]
    exact h.o p q p0 p1 q0 q1
  · rw [am_w_row (by decide), am_w_row (by decide), hF 182 (by decide)]
    have i1 : i ≤ b.h - 1 := i1
    exact h.r i i0 (by omega)
  · rw [am_w_row (by decide)]
    cases i with
    | zero =>
      have hv : some (b.R b.h) = some v := hv
      rw [show ((0 : Nat) : Int) = 0 from rfl, am_w_eq]
      exact Option.some.inj hv
    | succ i =>
      have hv : b.L[i]? = some v := hv
      have lt : i < b.L.length := (List.getElem?_eq_some_iff.mp hv).1
      rw [am_w_x (by omega), show ((i + 1 : Nat) : Int) = (i : Int) + 1 by omega, hs i (by omega)]
      exact h.c i v hv
set_option maxHeartbeats 4000000 in
theorem t_mr0 {d : Nat} {E : am_Ev} {s : am_S} {N : Nat} {PP : Option Value → am_H → Prop} (g : am_Eg E) (en : s 168 1 = N) (hn : 1 ≤ N ∧ N ≤ 20) (hu : ∀ c, 1 ≤ c → c < (N : Int) → 0 ≤ s 192 c ∧ s 192 c < N) (hne : ∀ c, 1 ≤ c → c < (N : Int) → s 192 c ≠ c) (hp : ∀ c, 0 ≤ c → c < (N : Int) → -1 ≤ s 178 c ∧ s 178 c < N) (hPP : ∀ s', yW s s' N → PP none (am_hp E s')) : am_wp (d + 1) 195 11 (lv_args 0 [.ref 168]) [] (am_hp E s) PP := by
  refine s_k 0 rfl rfl ?_
  refine am_s rfl rfl ?_
  refine am_lv [(1, .int (iI (((0 : Nat) : Int) : Int))), (0, .ref 168)] rfl rfl ⟨rfl, rfl, trivial⟩ ?_
  refine s_loop (X := Unit) (fun k _ s' => am_Fm [181] [] s s' ∧ ∀ x, 0 ≤ x → x < (k : Int) → s' 181 x = 0) (fun k _ => [(1, .int (iI (k : Int))), (0, .ref 168)]) (hi := 400) (x := ()) (by omega) ⟨am_Fm_r _ _ _, fun x x0 x1 => by omega⟩ ?_ ?_
  · rintro k - s1 hk0 hk1 ⟨hF1, hZ1⟩ kk
    simp only at kk ⊢
    refine am_s rfl rfl ?_
    refine s_k 400 rfl rfl ?_
    refine s_cge rfl ⟨by omega, by omega⟩ ⟨by omega, by omega⟩ (fun c1 => absurd c1 (by omega)) (fun c1 => ?_)
    refine am_s rfl rfl ?_
    refine s_gr rfl g rfl rfl ?_
    refine am_s rfl rfl ?_
    refine s_k 0 rfl rfl ?_
    refine s_is rfl g rfl ⟨by omega, by omega⟩ (by decide) ?_
    refine s_inc rfl rfl ?_
    refine am_s rfl rfl ?_
    refine am_lv [(1, _), (0, _)] rfl rfl ⟨rfl, rfl, trivial⟩ ?_
    refine kk () _ ⟨am_Fm_c hF1 (by decide) (by decide), fun x x0 x1 => ?_⟩
    by_cases e : x = (k : Int)
    · rw [e, am_w_eq]
    · rw [am_w_x e]; exact hZ1 x x0 (by omega)
  · rintro - s1 ⟨hF1, hZ1⟩
    simp only
    refine am_s rfl rfl ?_
    refine s_k 400 rfl rfl ?_
    refine s_cge rfl ⟨by omega, by omega⟩ ⟨by omega, by omega⟩ (fun c1 => ?_) (fun c1 => absurd c1 (by omega))
    refine s_k 1 rfl rfl ?_
    refine am_s rfl rfl ?_
    refine am_lv [(1, .int (iI (((1 : Nat) : Int) : Int))), (0, .ref 168)] rfl rfl ⟨rfl, rfl, trivial⟩ ?_
    refine s_loop (X := Unit) (fun k _ s' => am_Fm [181] [] s s' ∧ ∀ p q, 0 ≤ p → p < (N : Int) → 0 ≤ q → q < (N : Int) → yO s' p q = wOt (s 192) k p q) (fun k _ => [(1, .int (iI (k : Int))), (0, .ref 168)]) (lo := 1) (hi := N) (x := ()) (by omega) ⟨hF1, fun p q p0 p1 q0 q1 => ?_⟩ ?_ ?_
    · rw [show wOt (s 192) 1 p q = 0 from rfl]
      exact hZ1 _ (by omega) (by omega)
    · rintro k - s2 hk0 hk1 ⟨hF2, hW2⟩ kk
      simp only at kk ⊢
      have e192 : s2 192 = s 192 := hF2.1 192 (by decide)
      have eN : s2 168 1 = (N : Int) := (hF2.2 1 (by decide)).trans en
      have hk50 := hu k (by omega) (by omega)
      refine am_s rfl rfl ?_
      refine am_s rfl rfl ?_
      refine s_gi (x := 1) rfl g rfl rfl rfl ?_
      refine s_cge rfl ⟨by omega, by omega⟩ ⟨by omega, by omega⟩ (fun c1 => absurd c1 (by omega)) (fun c1 => ?_)
      refine am_s rfl rfl ?_
      refine am_s rfl rfl ?_
      refine am_s rfl rfl ?_
      refine s_gr rfl g rfl rfl ?_
      refine am_s rfl rfl ?_
      refine s_ia rfl g rfl ⟨by omega, by omega⟩ (by decide) ?_
      refine s_k 1 rfl rfl ?_
      rw [e192]
      refine s_cv [_, _, _] [] rfl g (Or.inl rfl) rfl rfl (Nat.le_of_ble_eq_true rfl) rfl rfl (t_linkM (s := s2) g ⟨by omega, by omega⟩ ⟨by omega, by omega⟩) ?_
      rintro rv h1 ⟨rfl, rfl⟩
      refine s_inc rfl rfl ?_
      refine am_s rfl rfl ?_
      refine am_lv [(1, _), (0, _)] rfl rfl ⟨rfl, rfl, trivial⟩ ?_
      refine kk () _ ⟨lkS_F hF2 (by decide), fun p q p0 p1 q0 q1 => ?_⟩
      rw [lkS_o ⟨by omega, by omega⟩ ⟨by omega, by omega⟩ ⟨by omega, by omega⟩ ⟨by omega, by omega⟩, hW2 p q p0 p1 q0 q1]
      show _ = wOt (s 192) k p q + (if k = 0 then 0 else w2f k (s 192 k) p q)
      rw [if_neg (by omega)]; omega
    · rintro - s2 ⟨hF2, hW2⟩
      simp only
      have eN : s2 168 1 = (N : Int) := (hF2.2 1 (by decide)).trans en
      refine am_s rfl rfl ?_
      refine am_s rfl rfl ?_
      refine s_gi (x := 1) rfl g rfl rfl rfl ?_
      refine s_cge rfl ⟨by omega, by omega⟩ ⟨by omega, by omega⟩ (fun c1 => ?_) (fun c1 => absurd c1 (by omega))
      refine s_k 0 rfl rfl ?_
      refine am_s rfl rfl ?_
      refine am_lv [(1, .int (iI (((0 : Nat) : Int) : Int))), (0, .ref 168)] rfl rfl ⟨rfl, rfl, trivial⟩ ?_
      refine s_loop (X := Unit) (fun k _ s' => am_Fm [181] [] s s' ∧ ∀ p q, 0 ≤ p → p < (N : Int) → 0 ≤ q → q < (N : Int) → yO s' p q = wOt (s 192) N p q + wOp (s 178) k p q) (fun k _ => [(1, .int (iI (k : Int))), (0, .ref 168)]) (hi := N) (x := ()) (by omega) ⟨hF2, fun p q p0 p1 q0 q1 => ?_⟩ ?_ ?_
      · rw [show wOp (s 178) 0 p q = 0 from rfl, hW2 p q p0 p1 q0 q1]; omega
      · rintro k - s3 hk0 hk1 ⟨hF3, hW3⟩ kk
        simp only at kk ⊢
        have e178 : s3 178 = s 178 := hF3.1 178 (by decide)
        have eN : s3 168 1 = (N : Int) := (hF3.2 1 (by decide)).trans en
        have hpk := hp k (by omega) (by omega)
        refine am_s rfl rfl ?_
        refine am_s rfl rfl ?_
        refine s_gi (x := 1) rfl g rfl rfl rfl ?_
        refine s_cge rfl ⟨by omega, by omega⟩ ⟨by omega, by omega⟩ (fun c1 => absurd c1 (by omega)) (fun c1 => ?_)
        refine am_s rfl rfl ?_
        refine s_gr rfl g rfl rfl ?_
        refine am_s rfl rfl ?_
        refine s_ia rfl g rfl ⟨by omega, by omega⟩ (by decide) ?_
        rw [e178]
        refine am_s rfl rfl ?_
        refine s_cle rfl ⟨by omega, by omega⟩ ⟨by omega, by omega⟩ (fun c2 => ?_) (fun c2 => ?_)
        · refine s_inc rfl rfl ?_
          refine am_s rfl rfl ?_
          refine am_lv [(1, _), (0, _)] rfl rfl ⟨rfl, rfl, trivial⟩ ?_
          refine kk () _ ⟨hF3, fun p q p0 p1 q0 q1 => ?_⟩
          rw [hW3 p q p0 p1 q0 q1]
          show _ = wOt (s 192) N p q + (wOp (s 178) k p q + (if (k : Int) < s 178 k then w2f k (s 178 k) p q else 0))
          rw [if_neg (by omega)]; omega
        · refine am_s rfl rfl ?_
          refine am_s rfl rfl ?_
          refine am_s rfl rfl ?_
          refine s_gr rfl g rfl rfl ?_
          refine am_s rfl rfl ?_
          refine s_ia rfl g rfl ⟨by omega, by omega⟩ (by decide) ?_
          refine s_k 1 rfl rfl ?_
          rw [e178]
          refine s_cv [_, _, _] [] rfl g (Or.inl rfl) rfl rfl (Nat.le_of_ble_eq_true rfl) rfl rfl (t_linkM (s := s3) g ⟨by omega, by omega⟩ ⟨by omega, by omega⟩) ?_
          rintro rv h1 ⟨rfl, rfl⟩
          refine s_inc rfl rfl ?_
          refine am_s rfl rfl ?_
          refine am_lv [(1, _), (0, _)] rfl rfl ⟨rfl, rfl, trivial⟩ ?_
          refine kk () _ ⟨lkS_F hF3 (by decide), fun p q p0 p1 q0 q1 => ?_⟩
          rw [lkS_o ⟨by omega, by omega⟩ ⟨by omega, by omega⟩ ⟨by omega, by omega⟩ ⟨by omega, by omega⟩, hW3 p q p0 p1 q0 q1]
          show _ = wOt (s 192) N p q + (wOp (s 178) k p q + (if (k : Int) < s 178 k then w2f k (s 178 k) p q else 0))
          rw [if_pos (by omega)]; omega
      · rintro - s3 ⟨hF3, hW3⟩
        simp only
        have eN : s3 168 1 = (N : Int) := (hF3.2 1 (by decide)).trans en
        refine am_s rfl rfl ?_
        refine am_s rfl rfl ?_
        refine s_gi (x := 1) rfl g rfl rfl rfl ?_
        refine s_cge rfl ⟨by omega, by omega⟩ ⟨by omega, by omega⟩ (fun c1 => ?_) (fun c1 => absurd c1 (by omega))
        refine am_s rfl rfl ?_
        refine s_k 0 rfl rfl ?_
        refine s_pi (x := 26) rfl g rfl rfl rfl rfl ?_
        refine am_s rfl rfl ?_
        refine s_gr rfl g rfl rfl ?_
        refine s_k 0 rfl rfl ?_
        refine s_k 0 rfl rfl ?_
        refine s_is rfl g rfl ⟨by omega, by omega⟩ (by decide) ?_
        refine s_k 1 rfl rfl ?_
        refine am_s rfl rfl ?_
        have hI0 : ymI s (am_w (am_w s3 168 26 0) 182 0 0) N 0 (w0 (s 192) (s 178) N) := by
          refine ⟨rfl, ⟨fun q hq => ?_, fun y hy => ?_⟩, ?_, fun p q p0 p1 q0 q1 => ?_, fun i i0 i1 => ?_, fun i v hv => ?_⟩
          · rw [am_w_row (fun z => hq (by rw [z]; decide)), am_w_row (fun z => hq (by rw [z]; decide))]
            exact hF3.1 q (fun z => hq (by simp at z ⊢; omega))
          · rw [am_w_row (by decide), am_w_x (fun z => hy (by rw [z]; decide))]
            exact hF3.2 y (by simp)
          · rw [am_w_row (by decide), am_w_eq]; rfl
          · unfold yO
            rw [am_w_row (by omega), am_w_row (by omega)]
            exact hW3 p q p0 p1 q0 q1
          · have i1 : i ≤ 0 := i1
            rw [show i = 0 by omega, am_w_eq]; rfl
          · have hv : (none : Option Int) = some v := hv
            cases hv
        obtain ⟨wi0, wT⟩ := wI_0 (hu := s 192) (pa := s 178) (n := N) (by omega) (by omega) (fun c c0 c1 => ⟨by have := hu c c0 (by omega); omega, hne c c0 (by omega)⟩) (fun c c0 c1 => by have := hp c c0 (by omega); omega)
        refine am_lv [(1, .int (iI ((w0 (s 192) (s 178) N).h + 1))), (0, .ref 168)] rfl rfl ⟨rfl, rfl, trivial⟩ ?_
        refine s_while (X := Nat × wS) (fun x s' => ymI s s' N x.1 x.2) (fun x _ => 80 - x.1) (fun x => [(1, .int (iI (x.2.h + 1))), (0, .ref 168)]) ?_ (x := (0, w0 (s 192) (s 178) N)) hI0
        rintro ⟨k, b⟩ s4 hI kk
        simp only at hI kk ⊢
        have wi := wI_n wi0 hI.wk
        have hb1 : -1 ≤ b.h := wkn_h (show 0 ≤ (0 : Int) by omega) hI.wk
        have wb := wI_b wi wT
        have eN : s4 168 1 = (N : Int) := (hI.fr.2 1 (by decide)).trans en
        have hL0 : 0 ≤ (b.L.length : Int) := by omega
        refine am_s rfl rfl ?_
        refine s_zle rfl ⟨by omega, by omega⟩ (fun c1 => ?_) (fun c1 => ?_)
        · refine am_s rfl rfl ?_
          refine s_k 1 rfl rfl ?_
          refine s_pi (x := 24) rfl g rfl rfl rfl rfl ?_
          refine am_r rfl rfl (hPP _ ⟨k, b, hI.wk, by omega, am_w_eq _ _ _ _, by rw [am_w_x (by decide)]; exact hI.sz, fun i v hv => by rw [am_w_row (by decide)]; exact hI.c i v hv, ⟨fun q hq => ?_, fun y hy => ?_⟩, ?_, wi.l⟩)
          · rw [am_w_row (fun z => hq (by rw [z]; decide))]; exact hI.fr.1 q hq
          · rw [am_w_x (fun z => hy (by rw [z]; decide))]; exact hI.fr.2 y (fun z => hy (by simp at z ⊢; omega))
          · obtain ⟨u, u1, u2, u3⟩ := wi.ct
            have := wt_nn wi.nn
            omega
        · have rc := wi.r b.h (by omega) (Int.le_refl _)
          have qr : s4 182 b.h = b.R b.h := hI.r b.h (by omega) (Int.le_refl _)
          have qs := hI.sz
          have qh : b.h + 1 - 1 = b.h := by omega
          refine am_s rfl rfl ?_
          refine s_gr rfl g rfl rfl ?_
          refine am_s rfl rfl ?_
          refine s_k 1 rfl rfl ?_
          refine s_isub rfl ?_
          rw [qh]
          refine s_ia rfl g rfl ⟨by omega, by omega⟩ (by decide) ?_
          rw [qr]
          refine am_s rfl rfl ?_
          refine s_k 0 rfl rfl ?_
          refine am_s rfl rfl ?_
          have j156 : ∀ y : Int, 0 ≤ y → y ≤ (N : Int) → (∀ z, 0 ≤ z → z < y → ¬ 0 < b.O (b.R b.h) z) → (y < (N : Int) → 0 < b.O (b.R b.h) y) → am_wp (d + 1) 195 156 [(3, .int (iI (y : Int))), (2, .int (iI (b.R b.h))), (1, .int (iI (b.h + 1))), (0, .ref 168)] [] (am_hp E s4) PP := by
            intro y y0 y1 hz hy
            refine am_s rfl rfl ?_
            refine am_s rfl rfl ?_
            refine s_gi (x := 1) rfl g rfl rfl rfl ?_
            refine s_cge rfl ⟨by omega, by omega⟩ ⟨by omega, by omega⟩ (fun c1 => ?_) (fun c1 => ?_)
            · refine s_inc rfl rfl ?_
              refine am_s rfl rfl ?_
              refine s_gi (x := 26) rfl g rfl rfl rfl ?_
              refine am_s rfl rfl ?_
              have wl1 : wl N b.O (b.R b.h) (-1) := Or.inl ⟨rfl, fun z z0 z1 => hz z z0 (by omega)⟩
              obtain ⟨C, eC⟩ : ∃ C : Nat, b.L.length = C := ⟨_, rfl⟩
              rw [eC] at qs wb hL0
              rw [qs]
              refine am_lv [(4, .int (iI ((C : Int) - ((0 : Nat) : Int)))), (2, .int (iI (b.R b.h))), (1, .int (iI (b.h + 1 + -1))), (0, .ref 168)] rfl rfl ⟨rfl, rfl, rfl, rfl, trivial⟩ ?_
              refine s_loop (X := Unit) (fun k _ s' => am_Fr [180] s4 s' ∧ (∀ x : Int, (C : Int) - k < x → x ≤ C → s' 180 x = s4 180 (x - 1)) ∧ ∀ x : Int, x ≤ (C : Int) - k → s' 180 x = s4 180 x) (fun k _ => [(4, .int (iI ((C : Int) - (k : Int)))), (2, .int (iI (b.R b.h))), (1, .int (iI (b.h + 1 + -1))), (0, .ref 168)]) (hi := C) (x := ()) (by omega) ⟨am_Fr_r _ _, fun x x0 x1 => by omega, fun x _ => rfl⟩ ?_ ?_
              · rintro k2 - s5 hk0 hk1 ⟨hF5, hA5, hB5⟩ kk2
                simp only at kk2 ⊢
                refine am_s rfl rfl ?_
                refine s_zle rfl ⟨by omega, by omega⟩ (fun c1 => absurd c1 (by omega)) (fun c1 => ?_)
                refine am_s rfl rfl ?_
                refine s_gr rfl g rfl rfl ?_
                refine am_s rfl rfl ?_
                refine am_s rfl rfl ?_
                refine s_gr rfl g rfl rfl ?_
                refine am_s rfl rfl ?_
                refine s_k 1 rfl rfl ?_
                refine s_isub rfl ?_
                refine s_ia rfl g rfl ⟨by omega, by omega⟩ (by decide) ?_
                refine s_is rfl g rfl ⟨by omega, by omega⟩ (by decide) ?_
                refine s_inc rfl rfl ?_
                refine am_s rfl rfl ?_
                refine am_lv [(4, .int (iI ((C : Int) - ((k2 + 1 : Nat) : Int)))), (2, _), (1, _), (0, _)] rfl rfl ⟨congrArg (fun z => some (Value.int (iI z))) (by omega), rfl, rfl, rfl, trivial⟩ ?_
                refine kk2 () _ ⟨am_Fr_W hF5 (by decide), fun x x0 x1 => ?_, fun x x0 => ?_⟩
                · by_cases e : x = (C : Int) - (k2 : Int)
                  · rw [e, am_w_eq]; exact hB5 _ (by omega)
                  · rw [am_w_x e]; exact hA5 x (by omega) x1
                · rw [am_w_x (by omega)]; exact hB5 x (by omega)
              · rintro - s5 ⟨hF5, hA5, hB5⟩
                simp only
                refine am_s rfl rfl ?_
                refine s_zle rfl ⟨by omega, by omega⟩ (fun c1 => ?_) (fun c1 => absurd c1 (by omega))
                refine am_s rfl rfl ?_
                refine s_gr rfl g rfl rfl ?_
                refine s_k 0 rfl rfl ?_
                refine am_s rfl rfl ?_
                refine s_is rfl g rfl ⟨by omega, by omega⟩ (by decide) ?_
                refine am_s rfl rfl ?_
                refine am_s rfl rfl ?_
                refine s_gi (x := 26) rfl g rfl rfl rfl ?_
                refine s_k 1 rfl rfl ?_
                refine s_iadd rfl ?_
                refine s_pi (x := 26) rfl g rfl rfl rfl rfl ?_
                refine am_s rfl rfl ?_
                have e5 : s5 168 26 = (C : Int) := by rw [hF5 168 (by decide)]; exact qs
                have e6 : am_w s5 180 0 (b.R b.h) 168 26 = s4 168 26 := by rw [am_w_row (by decide), hF5 168 (by decide)]
                rw [e6]
                refine am_lv [(1, .int (iI (b.h - 1 + 1))), (0, .ref 168)] rfl rfl ⟨congrArg (fun z => some (Value.int (iI z))) (by omega), rfl, trivial⟩ ?_
                exact kk (k + 1, ⟨b.O, b.R, b.h - 1, b.R b.h :: b.L⟩) _ (ymI_pop hI (by omega) wl1 hF5 (fun i hi => by rw [hA5 ((i : Int) + 1) (by omega) (by omega), show (i : Int) + 1 - 1 = i by omega])) (by omega)
            · refine am_s rfl rfl ?_
              refine am_s rfl rfl ?_
              refine am_s rfl rfl ?_
              refine s_k (-1) rfl rfl ?_
              refine s_cv [_, _, _] [] rfl g (Or.inl rfl) rfl rfl (Nat.le_of_ble_eq_true rfl) rfl rfl (t_linkM (s := s4) g ⟨by omega, by omega⟩ ⟨by omega, by omega⟩) ?_
              rintro rv h1 ⟨rfl, rfl⟩
              refine am_s rfl rfl ?_
              refine s_gr rfl g rfl rfl ?_
              refine am_s rfl rfl ?_
              refine am_s rfl rfl ?_
              refine s_is rfl g rfl ⟨by omega, by omega⟩ (by decide) ?_
              refine s_inc rfl rfl ?_
              refine am_s rfl rfl ?_
              refine am_s rfl rfl ?_
              refine am_lv [(1, .int (iI (b.h + 1 + 1))), (0, .ref 168)] rfl rfl ⟨rfl, rfl, trivial⟩ ?_
              have wl1 : wl N b.O (b.R b.h) y := Or.inr ⟨y0, by omega, hy (by omega), hz⟩
              exact kk (k + 1, ⟨wu b.O (b.R b.h) y, fun z => if z = b.h + 1 then y else b.R z, b.h + 1, b.L⟩) _ (ymI_push (by omega) hI (by omega) rc wl1 (by omega)) (by omega)
          refine am_lv [(3, .int (iI (((0 : Nat) : Int) : Int))), (2, .int (iI (b.R b.h))), (1, .int (iI (b.h + 1))), (0, .ref 168)] rfl rfl ⟨rfl, rfl, rfl, rfl, trivial⟩ ?_
          refine s_loop (X := Unit) (fun q _ s' => s4 = s' ∧ ∀ z, 0 ≤ z → z < (q : Int) → ¬ 0 < b.O (b.R b.h) z) (fun q _ => [(3, .int (iI (q : Int))), (2, .int (iI (b.R b.h))), (1, .int (iI (b.h + 1))), (0, .ref 168)]) (hi := N) (x := ()) (by omega) ⟨rfl, fun z z0 z1 => by omega⟩ ?_ ?_
          · rintro q - s5 hk0 hk1 ⟨rfl, hQ⟩ kk2
            simp only at kk2 ⊢
            have ho := hI.o (b.R b.h) q rc.1 rc.2 (by omega) (by omega)
            have hn0 := wi.nn (b.R b.h) q rc.1 rc.2 (by omega) (by omega)
            have hn1 := wt_ge wi.nn rc.1 rc.2 (show 0 ≤ (q : Int) by omega) (show (q : Int) < (N : Int) by omega)
            obtain ⟨u, u1, -, -⟩ := wi.ct
            unfold yO at ho
            refine am_s rfl rfl ?_
            refine am_s rfl rfl ?_
            refine s_gi (x := 1) rfl g rfl rfl rfl ?_
            refine s_cge rfl ⟨by omega, by omega⟩ ⟨by omega, by omega⟩ (fun c1 => absurd c1 (by omega)) (fun c1 => ?_)
            refine am_s rfl rfl ?_
            refine s_gr rfl g rfl rfl ?_
            refine s_k 20 rfl rfl ?_
            refine am_s rfl rfl ?_
            refine s_imul rfl ?_
            refine am_s rfl rfl ?_
            refine s_iadd rfl ?_
            refine s_ia rfl g rfl ⟨by omega, by omega⟩ (by decide) ?_
            refine s_zne rfl ⟨by omega, by omega⟩ (fun c2 => ?_) (fun c2 => ?_)
            · refine am_lv [(3, _), (2, _), (1, _), (0, _)] rfl rfl ⟨rfl, rfl, rfl, rfl, trivial⟩ ?_
              exact j156 q (by omega) (by omega) hQ (fun _ => by omega)
            · refine s_inc rfl rfl ?_
              refine am_s rfl rfl ?_
              refine am_lv [(3, _), (2, _), (1, _), (0, _)] rfl rfl ⟨rfl, rfl, rfl, rfl, trivial⟩ ?_
              refine kk2 () _ ⟨rfl, fun z z0 z1 => ?_⟩
              by_cases e : z = (q : Int)
              · rw [e]; omega
              · exact hQ z z0 (by omega)
          · rintro - s5 ⟨rfl, hQ⟩
            simp only
            refine am_s rfl rfl ?_
            refine am_s rfl rfl ?_
            refine s_gi (x := 1) rfl g rfl rfl rfl ?_
            refine s_cge rfl ⟨by omega, by omega⟩ ⟨by omega, by omega⟩ (fun c1 => ?_) (fun c1 => absurd c1 (by omega))
            refine am_lv [(3, _), (2, _), (1, _), (0, _)] rfl rfl ⟨rfl, rfl, rfl, rfl, trivial⟩ ?_
            exact j156 N (by omega) (by omega) hQ (fun z => by omega)
