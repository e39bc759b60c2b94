/-! the walk of the class is made -/
theorem mt_s_ge {f : Nat → Int} : ∀ {n j : Nat}, (∀ i, i < n → 0 ≤ f i) → j < n → f j ≤ mt_s f n
  | 0, j, _, h => absurd h (Nat.not_lt_zero j)
  | n + 1, j, h, hj => by
    show f j ≤ mt_s f n + f n
    have a := h n (by omega)
    by_cases c : j = n
    · have b : mt_s (fun _ => 0) n ≤ mt_s f n := mt_s_le (fun i hi => h i (by omega))
      rw [mt_s_zero] at b
      rw [c]; omega
    · have := mt_s_ge (n := n) (j := j) (fun i hi => h i (by omega)) (by omega)
      omega
theorem wt_ge {n : Nat} {O : Int → Int → Int} (h : ∀ p q, 0 ≤ p → p < (n : Int) → 0 ≤ q → q < (n : Int) → 0 ≤ O p q) {p q : Int} (p0 : 0 ≤ p) (p1 : p < n) (q0 : 0 ≤ q) (q1 : q < n) : O p q ≤ wt n O := by
  obtain ⟨a, rfl⟩ : ∃ a : Nat, p = a := ⟨p.toNat, by omega⟩
  obtain ⟨b, rfl⟩ : ∃ b : Nat, q = b := ⟨q.toNat, by omega⟩
  have x1 := mt_s_ge (f := fun q : Nat => O a q) (n := n) (j := b) (fun i hi => h a i (by omega) (by omega) (by omega) (by omega)) (by omega)
  have x2 := mt_s_ge (f := fun p : Nat => mt_s (fun q : Nat => O p q) n) (n := n) (j := a) (fun i hi => by
    have z : mt_s (fun _ => 0) n ≤ mt_s (fun q : Nat => O i q) n := mt_s_le (fun j hj => h i j (by omega) (by omega) (by omega) (by omega))
    rw [mt_s_zero] at z; exact z) (by omega)
  exact Int.le_trans x1 x2
def xwFr (s s' : am_S) : Prop := ∀ q, q ≠ 127 → q ≠ 128 → q ≠ 129 → ¬ (131 ≤ q ∧ q ≤ 150) → s' q = s q
/-- the class's rows hold the walk's state -/
abbrev xwI (s s' : am_S) (N k : Nat) (b : wS) : Prop := Nonempty (PProd (wkn N (w0 (s 50) (s 60) N) k b) (PProd (xwFr s s') (PProd (s' 127 1 = (b.L.length : Int)) (PProd (∀ p q, 0 ≤ p → p < (N : Int) → 0 ≤ q → q < (N : Int) → xO s' p q = b.O p q) (PProd (∀ i, 0 ≤ i → i ≤ b.h → s' 129 i = b.R i) (∀ (i : Nat) v, b.L[i]? = some v → s' 128 ((b.L.length : Int) - 1 - i) = v))))))
theorem xwI.wk {s s' : am_S} {N k : Nat} {b : wS} (h_ : xwI s s' N k b) : wkn N (w0 (s 50) (s 60) N) k b := h_.elim (fun x_ => x_.1)
theorem xwI.fr {s s' : am_S} {N k : Nat} {b : wS} (h_ : xwI s s' N k b) : xwFr s s' := h_.elim (fun x_ => x_.2.1)
theorem xwI.sz {s s' : am_S} {N k : Nat} {b : wS} (h_ : xwI s s' N k b) : s' 127 1 = (b.L.length : Int) := h_.elim (fun x_ => x_.2.2.1)
theorem xwI.o {s s' : am_S} {N k : Nat} {b : wS} (h_ : xwI s s' N k b) : ∀ p q, 0 ≤ p → p < (N : Int) → 0 ≤ q → q < (N : Int) → xO s' p q = b.O p q := h_.elim (fun x_ => x_.2.2.2.1)
theorem xwI.r {s s' : am_S} {N k : Nat} {b : wS} (h_ : xwI s s' N k b) : ∀ i, 0 ≤ i → i ≤ b.h → s' 129 i = b.R i := h_.elim (fun x_ => x_.2.2.2.2.1)
theorem xwI.c {s s' : am_S} {N k : Nat} {b : wS} (h_ : xwI s s' N k b) : ∀ (i : Nat) v, b.L[i]? = some v → s' 128 ((b.L.length : Int) - 1 - i) = v := h_.elim (fun x_ => x_.2.2.2.2.2)
def xW (s s' : am_S) (N : Nat) : Prop := ∃ k b, wkn N (w0 (s 50) (s 60) N) k b ∧ b.h < 0 ∧ s' 127 0 = 1 ∧ s' 127 1 = (b.L.length : Int) ∧ (∀ (i : Nat) v, b.L[i]? = some v → s' 128 ((b.L.length : Int) - 1 - i) = v) ∧ xwFr s s' ∧ (b.L.length : Int) ≤ 40 ∧ ∀ x, x ∈ b.L → 0 ≤ x ∧ x < (N : Int)
theorem wl_c {n : Int} {O O2 : Int → Int → Int} {c x : Int} (h : ∀ q, 0 ≤ q → q < n → O c q = O2 c q) (hw : wl n O c x) : wl n O2 c x := by
  rcases hw with ⟨a, b⟩ | ⟨a, b, d, e⟩
  · exact Or.inl ⟨a, fun y y0 y1 => by rw [← h y y0 y1]; exact b y y0 y1⟩
  · exact Or.inr ⟨a, b, by rw [← h x a b]; exact d, fun y y0 y1 => by rw [← h y y0 (by omega)]; exact e y y0 y1⟩
theorem xwI_pop {s s1 : am_S} {N k : Nat} {b : wS} (h : xwI s s1 N k b) (h0 : 0 ≤ b.h) (hw : wl N b.O (b.R b.h) (-1)) : xwI s (am_w (am_w s1 128 (s1 127 1) (b.R b.h)) 127 1 (s1 127 1 + 1)) N (k + 1) ⟨b.O, b.R, b.h - 1, b.R b.h :: b.L⟩ := by
  refine ⟨⟨b, h.wk, h0, -1, hw, Or.inl ⟨rfl, rfl⟩⟩, fun q q1 q2 q3 q4 => ?_, ?_, fun p q p0 p1 q0 q1 => ?_, fun i i0 i1 => ?_, fun i v hv => ?_⟩
  · rw [am_w_row q1, am_w_row q2]; exact h.fr q q1 q2 q3 q4
  · rw [am_w_eq, h.sz]; rfl
  · unfold xO
    rw [am_w_row (by omega), am_w_row (by omega)]
    exact h.o p q p0 p1 q0 q1
  · rw [am_w_row (by decide), am_w_row (by decide)]
    have i1 : i ≤ b.h - 1 := i1
    exact h.r i i0 (by omega)
  · rw [am_w_row (by decide), h.sz]
    show am_w s1 128 ((b.L.length : Nat) : Int) (b.R b.h) 128 (((b.L.length + 1 : Nat) : Int) - 1 - i) = v
    cases i with
    | zero =>
      have hv : some (b.R b.h) = some v := hv
      rw [show ((b.L.length + 1 : Nat) : Int) - 1 - ((0 : Nat) : Int) = ((b.L.length : Nat) : Int) by omega, am_w_eq]
      exact Option.some.inj hv
    | succ i =>
      have hv : b.L[i]? = some v := hv
      rw [am_w_x (by omega), show ((b.L.length + 1 : Nat) : Int) - 1 - ((i + 1 : Nat) : Int) = ((b.L.length : Nat) : Int) - 1 - (i : Int) by omega]
      exact h.c i v hv
theorem xwI_push {s s1 : am_S} {N k : Nat} {b : wS} {x : Int} (hN : N ≤ 20) (h : xwI s s1 N k b) (h0 : 0 ≤ b.h) (rc : 0 ≤ b.R b.h ∧ b.R b.h < (N : Int)) (hw : wl N b.O (b.R b.h) x) (hx : x ≠ -1) : xwI s (am_w (am_w (am_w s1 (130 + 1 + (b.R b.h).toNat) x (s1 (130 + 1 + (b.R b.h).toNat) x - 1)) (130 + 1 + x.toNat) (b.R b.h) (am_w s1 (130 + 1 + (b.R b.h).toNat) x (s1 (130 + 1 + (b.R b.h).toNat) x - 1) (130 + 1 + x.toNat) (b.R b.h) - 1)) 129 (b.h + 1) x) N (k + 1) ⟨wu b.O (b.R b.h) x, fun y => if y = b.h + 1 then x else b.R y, b.h + 1, b.L⟩ := by
  have rx : 0 ≤ x ∧ x < (N : Int) := by
    rcases hw with ⟨z, -⟩ | ⟨z1, z2, -⟩
    · exact absurd z hx
    · exact ⟨z1, z2⟩
  refine ⟨⟨b, h.wk, h0, x, hw, Or.inr ⟨hx, rfl⟩⟩, fun q q1 q2 q3 q4 => ?_, ?_, fun p q p0 p1 q0 q1 => ?_, fun i i0 i1 => ?_, fun i v hv => ?_⟩
  · rw [am_w_row q3, am_w_row (by omega), am_w_row (by omega)]; exact h.fr q q1 q2 q3 q4
  · rw [am_w_row (by decide), am_w_row (by omega), am_w_row (by omega)]; exact h.sz
  · have z : xO (am_w (am_w s1 (130 + 1 + (b.R b.h).toNat) x (s1 (130 + 1 + (b.R b.h).toNat) x - 1)) (130 + 1 + x.toNat) (b.R b.h) (am_w s1 (130 + 1 + (b.R b.h).toNat) x (s1 (130 + 1 + (b.R b.h).toNat) x - 1) (130 + 1 + x.toNat) (b.R b.h) - 1)) p q = xO s1 p q + -1 * w2f (b.R b.h) x p q := ow_2 (s := s1) (a := b.R b.h) (b := x) (k := -1) ⟨by omega, by omega⟩ ⟨by omega, by omega⟩ p0
    unfold xO at z ⊢
    rw [am_w_row (by omega), z]
    have e := h.o p q p0 p1 q0 q1
    unfold xO at e
    rw [e]
    show _ = b.O p q - (if p = b.R b.h ∧ q = x then 1 else 0) - (if p = x ∧ q = b.R b.h then 1 else 0)
    unfold w2f
    omega
  · show am_w _ 129 (b.h + 1) x 129 i = if i = b.h + 1 then x else b.R i
    have i1 : i ≤ b.h + 1 := i1
    by_cases c : i = b.h + 1
    · rw [c, am_w_eq, if_pos rfl]
    · rw [am_w_x c, if_neg c, am_w_row (by omega), am_w_row (by omega)]
      exact h.r i i0 (by omega)
  · rw [am_w_row (by decide), am_w_row (by omega), am_w_row (by omega)]
    exact h.c i v hv
theorem wkn_h {n : Int} {a : wS} (ha : 0 ≤ a.h) : ∀ {k : Nat} {b : wS}, wkn n a k b → -1 ≤ b.h
  | 0, b, e => by rw [show b = a from e]; omega
  | k + 1, b, ⟨m, _, h0, h2⟩ => by
    obtain ⟨x, -, hb⟩ := h2
    rcases hb with ⟨-, rfl⟩ | ⟨-, rfl⟩
    · show -1 ≤ m.h - 1; omega
    · show -1 ≤ m.h + 1; omega
set_option maxHeartbeats 4000000 in
theorem t_walkMake {d : Nat} {E : am_Ev} {s : am_S} {n : Int} {N : Nat} {PP : Option Value → am_H → Prop} (g : am_Eg E) (en : n = N) (hn : 1 ≤ n ∧ n ≤ 20) (h0 : s 50 0 = -1) (hu : ∀ c, 1 ≤ c → c < n → 0 ≤ s 50 c ∧ s 50 c < n) (hne : ∀ c, 1 ≤ c → c < n → s 50 c ≠ c) (hp : ∀ c, 0 ≤ c → c < n → -1 ≤ s 60 c ∧ s 60 c < n) (hPP : ∀ s', xW s s' N → PP none (am_hp E s')) : am_wp (d + 2) 116 0 (lv_args 0 [.ref 127, .int (iI n), .ref 48, .ref 58]) [] (am_hp E s) PP := by
  refine am_s rfl rfl ?_
  refine am_s rfl rfl ?_
  refine am_s rfl rfl ?_
  refine am_s rfl rfl ?_
  refine s_cv [_, _, _] [] rfl g (Or.inl rfl) rfl rfl (Nat.le_of_ble_eq_true rfl) rfl rfl (t_openWays (s := s) (N := N) g en hn h0 hu hp) ?_
  rintro rv h1 ⟨rfl, s1, rfl, hO1, hW1⟩
  refine am_s rfl rfl ?_
  refine s_k 0 rfl rfl ?_
  refine s_pi (x := 1) rfl g rfl rfl rfl rfl ?_
  refine s_k 0 rfl rfl ?_
  refine am_s rfl rfl ?_
  refine am_s rfl rfl ?_
  refine s_gr rfl g rfl rfl ?_
  refine s_k 0 rfl rfl ?_
  refine s_k 0 rfl rfl ?_
  refine s_is rfl g rfl ⟨by omega, by omega⟩ (by decide) ?_
  refine s_k 0 rfl rfl ?_
  refine am_s rfl rfl ?_
  have hI0 : xwI s (am_w (am_w s1 127 1 0) 129 0 0) N 0 (w0 (s 50) (s 60) N) := by
    refine ⟨rfl, fun q q1 q2 q3 q4 => ?_, ?_, fun p q p0 p1 q0 q1 => ?_, fun i i0 i1 => ?_, fun i v hv => ?_⟩
    · rw [am_w_row q3, am_w_row q1]; exact hO1 q q4
    · rw [am_w_row (by decide), am_w_eq]; rfl
    · unfold xO
      rw [am_w_row (by omega), am_w_row (by omega)]
      exact hW1 p q p0 (by omega) q0 (by omega)
    · have i1 : i ≤ 0 := i1
      rw [show i = 0 by omega, am_w_eq]; rfl
    · have hv : (none : Option Int) = some v := hv
      cases hv
  obtain ⟨wi0, wT⟩ := wI_0 (hu := s 50) (pa := s 60) (n := N) (by omega) (by omega) (fun c c0 c1 => ⟨by have := hu c c0 (by omega); omega, hne c c0 (by omega)⟩) (fun c c0 c1 => by have := hp c c0 (by omega); omega)
  have j134 : ∀ (s2 : am_S) (k : Nat) (b : wS), xwI s s2 N k b → b.h < 0 → am_wp (d + 2) 116 134 [(0, .ref 127)] [] (am_hp E s2) PP := by
    intro s2 k b hI hb
    refine am_s rfl rfl ?_
    refine s_k 1 rfl rfl ?_
    refine s_pi (x := 0) rfl g rfl rfl rfl rfl ?_
    have wi := wI_n wi0 hI.wk
    have hb1 : -1 ≤ b.h := wkn_h (show 0 ≤ (0 : Int) by omega) hI.wk
    refine am_r rfl rfl (hPP _ ⟨k, b, hI.wk, hb, am_w_eq _ _ _ _, by rw [am_w_x (by decide)]; exact hI.sz, fun i v hv => by rw [am_w_row (by decide)]; exact hI.c i v hv, fun q q1 q2 q3 q4 => by rw [am_w_row q1]; exact hI.fr q q1 q2 q3 q4, ?_, wi.l⟩)
    obtain ⟨u, u1, u2, u3⟩ := wi.ct
    have := wt_nn wi.nn
    omega
  refine am_lv [(5, .int (iI (((0 : Nat) : Int) : Int))), (4, .int (iI (w0 (s 50) (s 60) N).h)), (1, .int (iI n)), (0, .ref 127)] rfl rfl ⟨rfl, rfl, rfl, rfl, trivial⟩ ?_
  refine s_loop (X := wS) (fun k b s' => xwI s s' N k b ∨ (b.h < 0 ∧ ∃ l, xwI s s' N l b)) (fun k b => [(5, .int (iI (k : Int))), (4, .int (iI b.h)), (1, .int (iI n)), (0, .ref 127)]) (hi := 80) (x := w0 (s 50) (s 60) N) (by omega) (Or.inl hI0) ?_ ?_
  · rintro k b s2 hk0 hk1 hh kk
    simp only at kk ⊢
    rcases hh with hI | ⟨hb, l, hI⟩
    · have wi := wI_n wi0 hI.wk
      have hb1 : -1 ≤ b.h := wkn_h (show 0 ≤ (0 : Int) by omega) hI.wk
      have wb0 := (wI_b wi wT).1
      refine am_s rfl rfl ?_
      refine s_k 80 rfl rfl ?_
      refine s_cge rfl ⟨by omega, by omega⟩ ⟨by omega, by omega⟩ (fun c1 => absurd c1 (by omega)) (fun c1 => ?_)
      refine am_s rfl rfl ?_
      refine s_zlt rfl ⟨by omega, by omega⟩ (fun c2 => ?_) (fun c2 => ?_)
      · refine am_lv [(0, _)] rfl rfl ⟨rfl, trivial⟩ ?_
        exact j134 s2 k b hI (by omega)
      · have wb := wI_b wi wT
        have rc := wi.r b.h (by omega) (Int.le_refl _)
        have qr : s2 129 b.h = b.R b.h := hI.r b.h (by omega) (Int.le_refl _)
        have qs := hI.sz
        refine am_s rfl rfl ?_
        refine s_gr rfl g rfl rfl ?_
        refine am_s rfl rfl ?_
        refine s_ia rfl g rfl ⟨by omega, by omega⟩ (by decide) ?_
        rw [qr]
        refine am_s rfl rfl ?_
        refine am_s rfl rfl ?_
        refine am_s rfl rfl ?_
        refine am_s rfl rfl ?_
        have hO3 : ∀ q, 0 ≤ q → q < n → 0 ≤ xO s2 (b.R b.h) q ∧ xO s2 (b.R b.h) q < 1000 := fun q q0 q1 => by
          rw [hI.o _ q rc.1 rc.2 q0 (by omega)]
          have a := wi.nn _ q rc.1 rc.2 q0 (by omega)
          have c := wt_ge wi.nn rc.1 rc.2 q0 (show q < (N : Int) by omega)
          obtain ⟨u, u1, -, -⟩ := wi.ct
          omega
        refine s_cv [_, _] [] rfl g (Or.inl rfl) rfl rfl (Nat.le_of_ble_eq_true rfl) rfl rfl (t_leastOpen (s := s2) (n := n) (c := b.R b.h) (PP := fun rv h => ∃ x : Int, rv = some (.int (iI x)) ∧ h = am_hp E s2 ∧ wl n (xO s2) (b.R b.h) x) g hn ⟨rc.1, by omega⟩ hO3 (fun x z => ⟨x, rfl, rfl, z⟩)) ?_
        rintro rv h1 ⟨x, rfl, rfl, hx⟩
        have hx2 : wl N b.O (b.R b.h) x := wl_c (fun q q0 q1 => hI.o _ q rc.1 rc.2 q0 q1) (by rw [← en]; exact hx)
        have rx : x = -1 ∨ (0 ≤ x ∧ x < (N : Int)) := by
          rcases hx2 with ⟨z, -⟩ | ⟨z1, z2, -⟩
          · exact Or.inl z
          · exact Or.inr ⟨z1, z2⟩
        refine am_s rfl rfl ?_
        refine am_s rfl rfl ?_
        refine s_k (-1) rfl rfl ?_
        refine s_cne rfl (by rcases rx with z | z <;> exact ⟨by omega, by omega⟩) ⟨by omega, by omega⟩ (fun c3 => ?_) (fun c3 => ?_)
        · refine am_s rfl rfl ?_
          refine s_gr rfl g rfl rfl ?_
          refine am_s rfl rfl ?_
          refine s_aa rfl g rfl ⟨by omega, by omega⟩ (by decide) ?_
          refine am_s rfl rfl ?_
          refine am_s rfl rfl ?_
          refine s_ia rfl g (lo_130 (by omega) (by omega)) ⟨by omega, by omega⟩ (by decide) ?_
          refine s_k 1 rfl rfl ?_
          refine s_isub rfl ?_
          refine s_is rfl g (lo_130 (by omega) (by omega)) ⟨by omega, by omega⟩ (by decide) ?_
          refine am_s rfl rfl ?_
          refine s_gr rfl g rfl rfl ?_
          refine am_s rfl rfl ?_
          refine s_aa rfl g rfl ⟨by omega, by omega⟩ (by decide) ?_
          refine am_s rfl rfl ?_
          refine am_s rfl rfl ?_
          refine s_ia rfl g (lo_130 (by omega) (by omega)) ⟨by omega, by omega⟩ (by decide) ?_
          refine s_k 1 rfl rfl ?_
          refine s_isub rfl ?_
          refine s_is rfl g (lo_130 (by omega) (by omega)) ⟨by omega, by omega⟩ (by decide) ?_
          have wb2 : b.h + 1 ≤ 39 := (wI_b (wI_s wi (by omega) ⟨x, hx2, Or.inr ⟨by omega, rfl⟩⟩) wT).1
          refine s_inc rfl rfl ?_
          refine am_s rfl rfl ?_
          refine s_gr rfl g rfl rfl ?_
          refine am_s rfl rfl ?_
          refine am_s rfl rfl ?_
          refine s_is rfl g rfl ⟨by omega, by omega⟩ (by decide) ?_
          refine s_inc rfl rfl ?_
          refine am_s rfl rfl ?_
          refine am_lv [(5, .int (iI (((k + 1 : Nat) : Int) : Int))), (4, .int (iI (b.h + 1))), (1, .int (iI n)), (0, .ref 127)] rfl rfl ⟨rfl, rfl, rfl, rfl, trivial⟩ ?_
          exact kk ⟨wu b.O (b.R b.h) x, fun y => if y = b.h + 1 then x else b.R y, b.h + 1, b.L⟩ _ (Or.inl (xwI_push (by omega) hI (by omega) rc hx2 (by omega)))
        · refine am_s rfl rfl ?_
          refine s_gr rfl g rfl rfl ?_
          refine am_s rfl rfl ?_
          refine s_gi (x := 1) rfl g rfl rfl rfl ?_
          refine am_s rfl rfl ?_
          refine s_is rfl g rfl ⟨by omega, by omega⟩ (by decide) ?_
          refine am_s rfl rfl ?_
          refine am_s rfl rfl ?_
          refine s_gi (x := 1) rfl g rfl rfl rfl ?_
          refine s_k 1 rfl rfl ?_
          refine s_iadd rfl ?_
          refine s_pi (x := 1) rfl g rfl rfl rfl rfl ?_
          refine s_inc rfl rfl ?_
          refine am_s rfl rfl ?_
          refine s_inc rfl rfl ?_
          refine am_s rfl rfl ?_
          have zx : x = -1 := by omega
          subst zx
          refine am_lv [(5, .int (iI (((k + 1 : Nat) : Int) : Int))), (4, .int (iI (b.h - 1))), (1, .int (iI n)), (0, .ref 127)] rfl rfl ⟨rfl, rfl, rfl, rfl, trivial⟩ ?_
          exact kk ⟨b.O, b.R, b.h - 1, b.R b.h :: b.L⟩ _ (Or.inl (xwI_pop hI (by omega) hx2))
    · have hb1 : -1 ≤ b.h := wkn_h (show 0 ≤ (0 : Int) by omega) hI.wk
      refine am_s rfl rfl ?_
      refine s_k 80 rfl rfl ?_
      refine s_cge rfl ⟨by omega, by omega⟩ ⟨by omega, by omega⟩ (fun c1 => absurd c1 (by omega)) (fun c1 => ?_)
      refine am_s rfl rfl ?_
      refine s_zlt rfl ⟨by omega, by omega⟩ (fun c2 => ?_) (fun c2 => absurd c2 (by omega))
      refine am_lv [(0, _)] rfl rfl ⟨rfl, trivial⟩ ?_
      exact j134 s2 l b hI hb
  · rintro b s2 hh
    simp only
    refine am_s rfl rfl ?_
    refine s_k 80 rfl rfl ?_
    refine s_cge rfl ⟨by omega, by omega⟩ ⟨by omega, by omega⟩ (fun c1 => ?_) (fun c1 => absurd c1 (by omega))
    refine am_lv [(0, _)] rfl rfl ⟨rfl, trivial⟩ ?_
    rcases hh with hI | ⟨hb, l, hI⟩
    · refine j134 s2 80 b hI ?_
      have wi := wI_n wi0 hI.wk
      have wb := wI_b wi wT
      omega
    · exact j134 s2 l b hI hb
