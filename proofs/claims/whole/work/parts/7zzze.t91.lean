/-! the class joins pairs -/
def jb (n : Int) (D : Int → Int → Int) (F : Int → Int → Prop) (k j a b : Int) : Prop := (a = -1 ∧ ∀ c d, 0 ≤ c → c < d → d < n → (c < k ∨ c = k ∧ d < j) → ¬ F c d) ∨ ((0 ≤ a ∧ a < b ∧ b < n) ∧ (a < k ∨ a = k ∧ b < j) ∧ F a b ∧ ∀ c d, 0 ≤ c → c < d → d < n → (c < k ∨ c = k ∧ d < j) → F c d → jlt D a b c d)
theorem jb_0 {n : Int} {D : Int → Int → Int} {F : Int → Int → Prop} {j b : Int} (hj : j ≤ 1) : jb n D F 0 j (-1) b := Or.inl ⟨rfl, fun c d c0 cd d1 h => by omega⟩
theorem jb_no {n : Int} {D : Int → Int → Int} {F : Int → Int → Prop} {k j a b : Int} (h : jb n D F k j a b) (hf : ¬ F k j) : jb n D F k (j + 1) a b := by
  rcases h with ⟨z, h⟩ | ⟨z1, z2, z3, h⟩
  · refine Or.inl ⟨z, fun c d c0 cd d1 hc => ?_⟩
    by_cases e : c = k ∧ d = j
    · rw [e.1, e.2]; exact hf
    · exact h c d c0 cd d1 (by omega)
  · refine Or.inr ⟨z1, by omega, z3, fun c d c0 cd d1 hc hF => ?_⟩
    by_cases e : c = k ∧ d = j
    · rw [e.1, e.2] at hF; exact absurd hF hf
    · exact h c d c0 cd d1 (by omega) hF
theorem jb_keep {n : Int} {D : Int → Int → Int} {F : Int → Int → Prop} {k j a b : Int} (h : jb n D F k j a b) (ha : a ≠ -1) (hD : D a b ≤ D k j) : jb n D F k (j + 1) a b := by
  rcases h with ⟨z, h⟩ | ⟨z1, z2, z3, h⟩
  · exact absurd z ha
  · refine Or.inr ⟨z1, by omega, z3, fun c d c0 cd d1 hc hF => ?_⟩
    by_cases e : c = k ∧ d = j
    · rw [e.1, e.2]; unfold jlt; omega
    · exact h c d c0 cd d1 (by omega) hF
theorem jb_take {n : Int} {D : Int → Int → Int} {F : Int → Int → Prop} {k j a b : Int} (h : jb n D F k j a b) (k0 : 0 ≤ k) (kj : k < j) (j1 : j < n) (hf : F k j) (hD : a = -1 ∨ D k j < D a b) : jb n D F k (j + 1) k j := by
  refine Or.inr ⟨⟨k0, kj, j1⟩, by omega, hf, fun c d c0 cd d1 hc hF => ?_⟩
  by_cases e : c = k ∧ d = j
  · rw [e.1, e.2]; unfold jlt; omega
  · rcases h with ⟨z, h⟩ | ⟨z1, z2, z3, h⟩
    · exact absurd hF (h c d c0 cd d1 (by omega))
    · have x := h c d c0 cd d1 (by omega) hF
      unfold jlt at x ⊢
      omega
theorem jb_row {n : Int} {D : Int → Int → Int} {F : Int → Int → Prop} {k j j2 a b : Int} (h : jb n D F k j a b) (hj : n ≤ j ∨ ∀ d, j ≤ d → d < n → ¬ F k d) (hj2 : j2 ≤ k + 2) : jb n D F (k + 1) j2 a b := by
  rcases h with ⟨z, h⟩ | ⟨z1, z2, z3, h⟩
  · refine Or.inl ⟨z, fun c d c0 cd d1 hc => ?_⟩
    by_cases e : c = k ∧ j ≤ d
    · rcases hj with y | y
      · omega
      · rw [e.1]; exact y d e.2 d1
    · exact h c d c0 cd d1 (by omega)
  · refine Or.inr ⟨z1, by omega, z3, fun c d c0 cd d1 hc hF => ?_⟩
    by_cases e : c = k ∧ j ≤ d
    · rcases hj with y | y
      · omega
      · rw [e.1] at hF; exact absurd hF (y d e.2 d1)
    · exact h c d c0 cd d1 (by omega) hF
def jx (s : am_S) (N : Nat) (S : jS) : Prop := ∀ c, 0 ≤ c → c < (N : Int) → s 155 c = S.pc c ∧ s 156 c = S.on c ∧ s 157 c = S.ot c
def jr (N : Nat) (S : jS) : Prop := ∀ c, 0 ≤ c → c < (N : Int) → (0 ≤ S.pc c ∧ S.pc c < N) ∧ (-1 ≤ S.on c ∧ S.on c < N) ∧ (-1 ≤ S.ot c ∧ S.ot c < N)
theorem jI_r {n k : Nat} {S : jS} (h : jI n k S) : jr n S := fun c c0 c1 => by
  refine ⟨(h.p1 c c0 c1).1, ?_, ?_⟩
  · by_cases z : S.on c = -1
    · rw [z]; omega
    · have := (h.nr c (S.on c) c0 c1 (Or.inl rfl) z).1; omega
  · by_cases z : S.ot c = -1
    · rw [z]; omega
    · have := (h.nr c (S.ot c) c0 c1 (Or.inr rfl) z).1; omega
theorem t_addP {d : Nat} {E : am_Ev} {s : am_S} {a b : Int} {N : Nat} {S : jS} {PP : Option Value → am_H → Prop} (g : am_Eg E) (hN : N ≤ 20) (ha : 0 ≤ a ∧ a < N) (hx : jx s N S) (hr : -1 ≤ S.on a ∧ S.on a < N) (hPP : ∀ s', am_Fr [156, 157] s s' → jx s' N (jadd S a b) → PP none (am_hp E s')) : am_wp d 18 0 (lv_args 0 [.ref 153, .int (iI a), .int (iI b)]) [] (am_hp E s) PP := by
  have hxa := hx a ha.1 ha.2
  refine am_s rfl rfl ?_
  refine s_gr rfl g rfl rfl ?_
  refine am_s rfl rfl ?_
  refine s_ia rfl g rfl ⟨by omega, by omega⟩ (by decide) ?_
  refine s_k (-1) rfl rfl ?_
  refine s_cne rfl ⟨by omega, by omega⟩ ⟨by omega, by omega⟩ (fun c1 => ?_) (fun c1 => ?_)
  · refine am_s rfl rfl ?_
    refine s_gr rfl g rfl rfl ?_
    refine am_s rfl rfl ?_
    refine am_s rfl rfl ?_
    refine s_is rfl g rfl ⟨by omega, by omega⟩ (by decide) ?_
    refine am_r rfl rfl (hPP _ (am_Fr_w (by decide)) (fun c c0 c1 => ?_))
    have q := hx c c0 c1
    refine ⟨q.1, q.2.1.trans ?_, ?_⟩
    · show S.on c = if c = a ∧ S.on a = -1 then b else S.on c
      rw [if_neg (fun z => by omega)]
    · show am_w s 157 a b 157 c = if c = a ∧ S.on a ≠ -1 then b else S.ot c
      by_cases z : c = a
      · rw [z, am_w_eq, if_pos ⟨rfl, by omega⟩]
      · rw [am_w_x z, if_neg (fun y => z y.1)]; exact q.2.2
  · refine am_s rfl rfl ?_
    refine s_gr rfl g rfl rfl ?_
    refine am_s rfl rfl ?_
    refine am_s rfl rfl ?_
    refine s_is rfl g rfl ⟨by omega, by omega⟩ (by decide) ?_
    refine am_s rfl rfl ?_
    refine am_r rfl rfl (hPP _ (am_Fr_w (by decide)) (fun c c0 c1 => ?_))
    have q := hx c c0 c1
    refine ⟨q.1, ?_, q.2.2.trans ?_⟩
    · show am_w s 156 a b 156 c = if c = a ∧ S.on a = -1 then b else S.on c
      by_cases z : c = a
      · rw [z, am_w_eq, if_pos ⟨rfl, by omega⟩]
      · rw [am_w_x z, if_neg (fun y => z y.1)]; exact q.2.1
    · show S.ot c = if c = a ∧ S.on a ≠ -1 then b else S.ot c
      rw [if_neg (fun z => by omega)]
theorem t_takePair {d : Nat} {E : am_Ev} {s : am_S} {a b : Int} {N : Nat} {S : jS} {PP : Option Value → am_H → Prop} (g : am_Eg E) (hN : N ≤ 20) (ab : a ≠ b) (ha : 0 ≤ a ∧ a < N) (hb : 0 ≤ b ∧ b < N) (hx : jx s N S) (ra : -1 ≤ S.on a ∧ S.on a < N) (rb : -1 ≤ S.on b ∧ S.on b < N) (hPP : ∀ s', am_Fr [156, 157] s s' → jx s' N (jt S a b) → PP none (am_hp E s')) : am_wp (d + 1) 17 0 (lv_args 0 [.ref 153, .int (iI a), .int (iI b)]) [] (am_hp E s) PP := by
  refine am_s rfl rfl ?_
  refine am_s rfl rfl ?_
  refine am_s rfl rfl ?_
  refine s_cv [_, _] [] rfl g (Or.inl rfl) rfl rfl (Nat.le_of_ble_eq_true rfl) rfl rfl (t_addP (N := N) (S := S) (PP := fun rv h => rv = none ∧ ∃ s', h = am_hp E s' ∧ am_Fr [156, 157] s s' ∧ jx s' N (jadd S a b)) g hN ha hx ra (fun s' u v => ⟨rfl, s', rfl, u, v⟩)) ?_
  rintro rv h1 ⟨rfl, s1, rfl, hF1, hx1⟩
  refine am_s rfl rfl ?_
  refine am_s rfl rfl ?_
  refine am_s rfl rfl ?_
  have e : (jadd S a b).on b = S.on b := if_neg (fun z => ab z.1.symm)
  refine s_cv [_, _] [] rfl g (Or.inl rfl) rfl rfl (Nat.le_of_ble_eq_true rfl) rfl rfl (t_addP (s := s1) (N := N) (S := jadd S a b) (PP := fun rv h => rv = none ∧ ∃ s', h = am_hp E s' ∧ am_Fr [156, 157] s1 s' ∧ jx s' N (jt S a b)) g hN hb hx1 (by rw [e]; exact rb) (fun s' u v => ⟨rfl, s', rfl, u, v⟩)) ?_
  rintro rv h1 ⟨rfl, s2, rfl, hF2, hx2⟩
  exact am_r rfl rfl (hPP _ (am_Fr_u hF1 hF2) hx2)
theorem t_rename {d : Nat} {E : am_Ev} {s : am_S} {ol na : Int} {N : Nat} {PP : Option Value → am_H → Prop} (g : am_Eg E) (hN : N ≤ 20) (hr : ∀ c, 0 ≤ c → c < (N : Int) → 0 ≤ s 155 c ∧ s 155 c < N) (ho : 0 ≤ ol ∧ ol < N) (hPP : ∀ s', am_Fr [155] s s' → (∀ c, 0 ≤ c → c < (N : Int) → s' 155 c = if s 155 c = ol then na else s 155 c) → PP none (am_hp E s')) : am_wp d 16 0 (lv_args 0 [.ref 153, .int (iI ol), .int (iI na), .int (iI (N : Int))]) [] (am_hp E s) PP := by
  refine s_k 0 rfl rfl ?_
  refine am_s rfl rfl ?_
  refine am_lv [(4, .int (iI (((0 : Nat) : Int) : Int))), (3, .int (iI (N : Int))), (2, .int (iI na)), (1, .int (iI ol)), (0, .ref 153)] rfl rfl ⟨rfl, rfl, rfl, rfl, rfl, trivial⟩ ?_
  refine s_loop (X := Unit) (fun k _ s' => am_Fr [155] s s' ∧ ∀ c, 0 ≤ c → c < (N : Int) → s' 155 c = if c < (k : Int) ∧ s 155 c = ol then na else s 155 c) (fun k _ => [(4, .int (iI (k : Int))), (3, .int (iI (N : Int))), (2, .int (iI na)), (1, .int (iI ol)), (0, .ref 153)]) (hi := N) (x := ()) (by omega) ⟨am_Fr_r _ _, fun c c0 c1 => by rw [if_neg (by omega)]⟩ ?_ ?_
  · rintro k - s1 hk0 hk1 ⟨hF, hQ⟩ kk
    simp only at kk ⊢
    have qk := hQ k (by omega) (by omega)
    rw [if_neg (by omega)] at qk
    have rk := hr k (by omega) (by omega)
    refine am_s rfl rfl ?_
    refine am_s rfl rfl ?_
    refine s_cge rfl ⟨by omega, by omega⟩ ⟨by omega, by omega⟩ (fun c1 => absurd c1 (by omega)) (fun c1 => ?_)
    refine am_s rfl rfl ?_
    refine s_gr rfl g rfl rfl ?_
    refine am_s rfl rfl ?_
    refine s_ia rfl g rfl ⟨by omega, by omega⟩ (by decide) ?_
    refine am_s rfl rfl ?_
    refine s_cne rfl ⟨by omega, by omega⟩ ⟨by omega, by omega⟩ (fun c2 => ?_) (fun c2 => ?_)
    · refine s_inc rfl rfl ?_
      refine am_s rfl rfl ?_
      refine am_lv [(4, _), (3, _), (2, _), (1, _), (0, _)] rfl rfl ⟨rfl, rfl, rfl, rfl, rfl, trivial⟩ ?_
      refine kk () _ ⟨hF, fun c c0 c1 => ?_⟩
      rw [hQ c c0 c1]
      by_cases e : c = (k : Int)
      · rw [e, if_neg (by omega), if_neg (by omega)]
      · by_cases z : c < (k : Int) ∧ s 155 c = ol
        · rw [if_pos z, if_pos ⟨by omega, z.2⟩]
        · rw [if_neg z, if_neg (fun y => z ⟨by omega, y.2⟩)]
    · refine am_s rfl rfl ?_
      refine s_gr rfl g rfl rfl ?_
      refine am_s rfl rfl ?_
      refine am_s rfl rfl ?_
      refine s_is rfl g rfl ⟨by omega, by omega⟩ (by decide) ?_
      refine s_inc rfl rfl ?_
      refine am_s rfl rfl ?_
      refine am_lv [(4, _), (3, _), (2, _), (1, _), (0, _)] rfl rfl ⟨rfl, rfl, rfl, rfl, rfl, trivial⟩ ?_
      refine kk () _ ⟨am_Fr_W hF (by decide), fun c c0 c1 => ?_⟩
      by_cases e : c = (k : Int)
      · rw [e, am_w_eq, if_pos ⟨by omega, by omega⟩]
      · rw [am_w_x e, hQ c c0 c1]
        by_cases z : c < (k : Int) ∧ s 155 c = ol
        · rw [if_pos z, if_pos ⟨by omega, z.2⟩]
        · rw [if_neg z, if_neg (fun y => z ⟨by omega, y.2⟩)]
  · rintro - s1 ⟨hF, hQ⟩
    simp only
    refine am_s rfl rfl ?_
    refine am_s rfl rfl ?_
    refine s_cge rfl ⟨by omega, by omega⟩ ⟨by omega, by omega⟩ (fun c1 => ?_) (fun c1 => absurd c1 (by omega))
    refine am_r rfl rfl (hPP s1 hF (fun c c0 c1 => ?_))
    rw [hQ c c0 c1]
    by_cases z : s 155 c = ol
    · rw [if_pos ⟨c1, z⟩, if_pos z]
    · rw [if_neg (fun y => z y.2), if_neg z]
set_option maxHeartbeats 4000000 in
theorem t_joinNearest {d : Nat} {E : am_Ev} {s : am_S} {N : Nat} {S : jS} {PP : Option Value → am_H → Prop} (g : am_Eg E) (hm : mx_ok s) (en : s 25 0 = (N : Int)) (hx : jx s N S) (hr : jr N S) (hex : ∃ c d, 0 ≤ c ∧ c < d ∧ d < (N : Int) ∧ jf S c d) (hPP : ∀ s' a b, am_Fr [155, 156, 157] s s' → jl N (mx s) S a b → jx s' N (jn S a b) → PP none (am_hp E s')) : am_wp (d + 2) 15 0 (lv_args 0 [.ref 153, .ref 25]) [] (am_hp E s) PP := by
  have n1 := hm.1
  have n2 := hm.2.1
  have hN : N ≤ 20 := by omega
  refine s_k (-1) rfl rfl ?_
  refine am_s rfl rfl ?_
  refine s_k (-1) rfl rfl ?_
  refine am_s rfl rfl ?_
  refine s_k 0 rfl rfl ?_
  refine am_s rfl rfl ?_
  refine am_lv [(4, .int (iI (((0 : Nat) : Int) : Int))), (3, .int (iI ((-1 : Int), (-1 : Int)).2)), (2, .int (iI ((-1 : Int), (-1 : Int)).1)), (1, .ref 25), (0, .ref 153)] rfl rfl ⟨rfl, rfl, rfl, rfl, rfl, trivial⟩ ?_
  refine s_loop (X := Int × Int) (fun k x s' => s = s' ∧ jb N (mx s) (jf S) (k : Int) (k + 1 : Int) x.1 x.2) (fun k x => [(4, .int (iI (k : Int))), (3, .int (iI x.2)), (2, .int (iI x.1)), (1, .ref 25), (0, .ref 153)]) (hi := N) (x := ((-1 : Int), (-1 : Int))) (by omega) ⟨rfl, jb_0 (by omega)⟩ ?_ ?_
  · rintro k x s1 hk0 hk1 ⟨rfl, hB⟩ kk
    simp only at kk ⊢
    refine am_s rfl rfl ?_
    refine am_s rfl rfl ?_
    refine s_gi (x := 0) rfl g rfl rfl rfl ?_
    refine s_cge rfl ⟨by omega, by omega⟩ ⟨by omega, by omega⟩ (fun c1 => absurd c1 (by omega)) (fun c1 => ?_)
    refine am_s rfl rfl ?_
    refine s_gr rfl g rfl rfl ?_
    refine am_s rfl rfl ?_
    refine s_aa rfl g rfl ⟨by omega, by omega⟩ (by decide) ?_
    refine am_s rfl rfl ?_
    refine am_s rfl rfl ?_
    refine s_k 1 rfl rfl ?_
    refine s_iadd rfl ?_
    refine am_s rfl rfl ?_
    have xk := hx k (by omega) (by omega)
    have rk := hr k (by omega) (by omega)
    refine am_lv [(6, .int (iI (((k + 1 : Nat) : Int) : Int))), (5, .ref (26 + 1 + (k : Int).toNat)), (4, .int (iI (k : Int))), (3, .int (iI x.2)), (2, .int (iI x.1)), (1, .ref 25), (0, .ref 153)] rfl rfl ⟨rfl, rfl, rfl, rfl, rfl, rfl, rfl, trivial⟩ ?_
    refine s_loop (X := Int × Int) (fun j x s' => s = s' ∧ jb N (mx s) (jf S) (k : Int) (j : Int) x.1 x.2) (fun j x => [(6, .int (iI (j : Int))), (5, .ref (26 + 1 + (k : Int).toNat)), (4, .int (iI (k : Int))), (3, .int (iI x.2)), (2, .int (iI x.1)), (1, .ref 25), (0, .ref 153)]) (lo := k + 1) (hi := N) (x := x) (by omega) ⟨rfl, by rw [show ((k + 1 : Nat) : Int) = (k : Int) + 1 by omega]; exact hB⟩ ?_ ?_
    · rintro j x s2 hj0 hj1 ⟨rfl, hB2⟩ kk2
      simp only at kk2 ⊢
      have xj := hx j (by omega) (by omega)
      have rj := hr j (by omega) (by omega)
      have hmx := hm.2.2 k j (by omega) (by omega) (by omega) (by omega)
      unfold mx at hmx
      have hab : x.1 = -1 ∨ (0 ≤ x.1 ∧ x.1 < x.2 ∧ x.2 < (N : Int)) := by
        rcases hB2 with ⟨z, -⟩ | ⟨z, -⟩
        · exact Or.inl z
        · exact Or.inr z
      refine am_s rfl rfl ?_
      refine am_s rfl rfl ?_
      refine s_gi (x := 0) rfl g rfl rfl rfl ?_
      refine s_cge rfl ⟨by omega, by omega⟩ ⟨by omega, by omega⟩ (fun c1 => absurd c1 (by omega)) (fun c1 => ?_)
      refine am_s rfl rfl ?_
      refine s_gr rfl g rfl rfl ?_
      refine am_s rfl rfl ?_
      refine s_ia rfl g rfl ⟨by omega, by omega⟩ (by decide) ?_
      refine s_k (-1) rfl rfl ?_
      refine s_cne rfl ⟨by omega, by omega⟩ ⟨by omega, by omega⟩ (fun c2 => ?_) (fun c2 => ?_)
      · refine s_inc rfl rfl ?_
        refine am_s rfl rfl ?_
        refine am_lv [(4, _), (3, _), (2, _), (1, _), (0, _)] rfl rfl ⟨rfl, rfl, rfl, rfl, rfl, trivial⟩ ?_
        refine kk x _ ⟨rfl, ?_⟩
        rw [show ((k + 1 : Nat) : Int) = (k : Int) + 1 by omega]
        exact jb_row hB2 (Or.inr (fun d d0 d1 z => by have := z.1; omega)) (by omega)
      · refine am_s rfl rfl ?_
        refine s_gr rfl g rfl rfl ?_
        refine am_s rfl rfl ?_
        refine s_ia rfl g rfl ⟨by omega, by omega⟩ (by decide) ?_
        refine s_k (-1) rfl rfl ?_
        refine s_cne rfl ⟨by omega, by omega⟩ ⟨by omega, by omega⟩ (fun c3 => ?_) (fun c3 => ?_)
        · refine s_k 0 rfl rfl ?_
          refine am_s rfl rfl ?_
          refine am_s rfl rfl ?_
          refine s_zeq rfl ⟨by decide, by decide⟩ (fun c1 => ?_) (fun c1 => absurd c1 (by omega))
          refine s_inc rfl rfl ?_
          refine am_s rfl rfl ?_
          refine am_lv [(6, _), (5, _), (4, _), (3, _), (2, _), (1, _), (0, _)] rfl rfl ⟨rfl, rfl, rfl, rfl, rfl, rfl, rfl, trivial⟩ ?_
          refine kk2 x _ ⟨rfl, ?_⟩
          rw [show ((j + 1 : Nat) : Int) = (j : Int) + 1 by omega]
          refine jb_no hB2 (fun z => ?_)
          have z1 := z.1
          have z2 := z.2.1
          have z3 := z.2.2
          omega
        · refine am_s rfl rfl ?_
          refine s_gr rfl g rfl rfl ?_
          refine am_s rfl rfl ?_
          refine s_ia rfl g rfl ⟨by omega, by omega⟩ (by decide) ?_
          refine am_s rfl rfl ?_
          refine s_gr rfl g rfl rfl ?_
          refine am_s rfl rfl ?_
          refine s_ia rfl g rfl ⟨by omega, by omega⟩ (by decide) ?_
          refine s_ceq rfl ⟨by omega, by omega⟩ ⟨by omega, by omega⟩ (fun c4 => ?_) (fun c4 => ?_)
          · refine s_k 0 rfl rfl ?_
            refine am_s rfl rfl ?_
            refine am_s rfl rfl ?_
            refine s_zeq rfl ⟨by decide, by decide⟩ (fun c1 => ?_) (fun c1 => absurd c1 (by omega))
            refine s_inc rfl rfl ?_
            refine am_s rfl rfl ?_
            refine am_lv [(6, _), (5, _), (4, _), (3, _), (2, _), (1, _), (0, _)] rfl rfl ⟨rfl, rfl, rfl, rfl, rfl, rfl, rfl, trivial⟩ ?_
            refine kk2 x _ ⟨rfl, ?_⟩
            rw [show ((j + 1 : Nat) : Int) = (j : Int) + 1 by omega]
            refine jb_no hB2 (fun z => ?_)
            have z1 := z.1
            have z2 := z.2.1
            have z3 := z.2.2
            omega
          · refine s_k 1 rfl rfl ?_
            refine am_s rfl rfl ?_
            refine am_s rfl rfl ?_
            refine am_s rfl rfl ?_
            refine s_zeq rfl ⟨by decide, by decide⟩ (fun c1 => absurd c1 (by omega)) (fun c1 => ?_)
            refine am_s rfl rfl ?_
            refine s_k (-1) rfl rfl ?_
            refine s_ceq rfl ⟨by omega, by omega⟩ ⟨by omega, by omega⟩ (fun c2 => ?_) (fun c2 => ?_)
            · refine am_s rfl rfl ?_
              refine am_s rfl rfl ?_
              refine am_s rfl rfl ?_
              refine am_s rfl rfl ?_
              refine s_inc rfl rfl ?_
              refine am_s rfl rfl ?_
              refine am_lv [(6, _), (5, _), (4, _), (3, _), (2, _), (1, _), (0, _)] rfl rfl ⟨rfl, rfl, rfl, rfl, rfl, rfl, rfl, trivial⟩ ?_
              refine kk2 ((k : Int), (j : Int)) _ ⟨rfl, ?_⟩
              rw [show ((j + 1 : Nat) : Int) = (j : Int) + 1 by omega]
              exact jb_take hB2 (by omega) (by omega) (by omega) ⟨by omega, by omega, by omega⟩ (Or.inl (by omega))
            · have hmab := hm.2.2 x.1 x.2 (by omega) (by omega) (by omega) (by omega)
              unfold mx at hmab
              refine am_s rfl rfl ?_
              refine am_s rfl rfl ?_
              refine s_ia rfl g (lo_26 (by omega) (by omega)) ⟨by omega, by omega⟩ (by decide) ?_
              refine am_s rfl rfl ?_
              refine s_gr rfl g rfl rfl ?_
              refine am_s rfl rfl ?_
              refine s_aa rfl g rfl ⟨by omega, by omega⟩ (by decide) ?_
              refine am_s rfl rfl ?_
              refine s_ia rfl g (lo_26 (by omega) (by omega)) ⟨by omega, by omega⟩ (by decide) ?_
              refine s_cge rfl ⟨by omega, by omega⟩ ⟨by omega, by omega⟩ (fun c3 => ?_) (fun c3 => ?_)
              · refine s_inc rfl rfl ?_
                refine am_s rfl rfl ?_
                refine am_lv [(6, _), (5, _), (4, _), (3, _), (2, _), (1, _), (0, _)] rfl rfl ⟨rfl, rfl, rfl, rfl, rfl, rfl, rfl, trivial⟩ ?_
                refine kk2 x _ ⟨rfl, ?_⟩
                rw [show ((j + 1 : Nat) : Int) = (j : Int) + 1 by omega]
                exact jb_keep hB2 (by omega) (by unfold mx; omega)
              · refine am_s rfl rfl ?_
                refine am_s rfl rfl ?_
                refine am_s rfl rfl ?_
                refine am_s rfl rfl ?_
                refine s_inc rfl rfl ?_
                refine am_s rfl rfl ?_
                refine am_lv [(6, _), (5, _), (4, _), (3, _), (2, _), (1, _), (0, _)] rfl rfl ⟨rfl, rfl, rfl, rfl, rfl, rfl, rfl, trivial⟩ ?_
                refine kk2 ((k : Int), (j : Int)) _ ⟨rfl, ?_⟩
                rw [show ((j + 1 : Nat) : Int) = (j : Int) + 1 by omega]
                exact jb_take hB2 (by omega) (by omega) (by omega) ⟨by omega, by omega, by omega⟩ (Or.inr (by unfold mx; omega))
    · rintro x s2 ⟨rfl, hB2⟩
      simp only
      refine am_s rfl rfl ?_
      refine am_s rfl rfl ?_
      refine s_gi (x := 0) rfl g rfl rfl rfl ?_
      refine s_cge rfl ⟨by omega, by omega⟩ ⟨by omega, by omega⟩ (fun c1 => ?_) (fun c1 => absurd c1 (by omega))
      refine s_inc rfl rfl ?_
      refine am_s rfl rfl ?_
      refine am_lv [(4, _), (3, _), (2, _), (1, _), (0, _)] rfl rfl ⟨rfl, rfl, rfl, rfl, rfl, trivial⟩ ?_
      refine kk x _ ⟨rfl, ?_⟩
      rw [show ((k + 1 : Nat) : Int) = (k : Int) + 1 by omega]
      exact jb_row hB2 (Or.inl (by omega)) (by omega)
  · rintro x s1 ⟨rfl, hB⟩
    simp only
    rcases hB with ⟨z, hz⟩ | ⟨z1, -, z2, z3⟩
    · obtain ⟨c, d, c0, cd, d1, hf⟩ := hex
      exact absurd hf (hz c d c0 cd d1 (by omega))
    have ra := hr x.1 (by omega) (by omega)
    have rb := hr x.2 (by omega) (by omega)
    refine am_s rfl rfl ?_
    refine am_s rfl rfl ?_
    refine s_gi (x := 0) rfl g rfl rfl rfl ?_
    refine s_cge rfl ⟨by omega, by omega⟩ ⟨by omega, by omega⟩ (fun c1 => ?_) (fun c1 => absurd c1 (by omega))
    refine am_s rfl rfl ?_
    refine s_k (-1) rfl rfl ?_
    refine s_ceq rfl ⟨by omega, by omega⟩ ⟨by omega, by omega⟩ (fun c2 => absurd c2 (by omega)) (fun c2 => ?_)
    refine am_s rfl rfl ?_
    refine am_s rfl rfl ?_
    refine am_s rfl rfl ?_
    refine s_cv [_, _] [] rfl g (Or.inl rfl) rfl rfl (Nat.le_of_ble_eq_true rfl) rfl rfl (t_takePair (d := d) (N := N) (S := S) (PP := fun rv h => rv = none ∧ ∃ s', h = am_hp E s' ∧ am_Fr [156, 157] s s' ∧ jx s' N (jt S x.1 x.2)) g hN (by omega) ⟨by omega, by omega⟩ ⟨by omega, by omega⟩ hx ra.2.1 rb.2.1 (fun s' u v => ⟨rfl, s', rfl, u, v⟩)) ?_
    rintro rv h1 ⟨rfl, s1, rfl, hF1, hx1⟩
    have e155 : s1 155 = s 155 := hF1 155 (by decide)
    have e25 : s1 25 0 = (N : Int) := by rw [hF1 25 (by decide)]; exact en
    have qa := hx x.1 (by omega) (by omega)
    have qb := hx x.2 (by omega) (by omega)
    refine am_s rfl rfl ?_
    refine am_s rfl rfl ?_
    refine s_gr rfl g rfl rfl ?_
    refine am_s rfl rfl ?_
    refine s_ia rfl g rfl ⟨by omega, by omega⟩ (by decide) ?_
    refine am_s rfl rfl ?_
    refine s_gr rfl g rfl rfl ?_
    refine am_s rfl rfl ?_
    refine s_ia rfl g rfl ⟨by omega, by omega⟩ (by decide) ?_
    refine am_s rfl rfl ?_
    refine s_gi (x := 0) rfl g rfl rfl rfl ?_
    rw [e155, e25, qa.1, qb.1]
    refine s_cv [_, _, _] [] rfl g (Or.inl rfl) rfl rfl (Nat.le_of_ble_eq_true rfl) rfl rfl (t_rename (d := d + 1) (s := s1) (N := N) (ol := S.pc x.2) (na := S.pc x.1) (PP := fun rv h => rv = none ∧ ∃ s', h = am_hp E s' ∧ am_Fr [155] s1 s' ∧ ∀ c, 0 ≤ c → c < (N : Int) → s' 155 c = if s1 155 c = S.pc x.2 then S.pc x.1 else s1 155 c) g hN (fun c c0 c1 => by rw [e155, (hx c c0 c1).1]; exact (hr c c0 c1).1) rb.1 (fun s' u v => ⟨rfl, s', rfl, u, v⟩)) ?_
    rintro rv h1 ⟨rfl, s2, rfl, hF2, hV2⟩
    refine am_r rfl rfl (hPP s2 x.1 x.2 (fun q hq => ?_) ⟨z1, z2, fun c d c0 cd d1 hF => z3 c d c0 cd d1 (by omega) hF⟩ (fun c c0 c1 => ⟨?_, ?_, ?_⟩))
    · rw [hF2 q (fun z => hq (by simp at z ⊢; omega)), hF1 q (fun z => hq (by simp at z ⊢; omega))]
    · rw [hV2 c c0 c1, e155, (hx c c0 c1).1]; rfl
    · rw [hF2 156 (by decide)]; exact (hx1 c c0 c1).2.1
    · rw [hF2 157 (by decide)]; exact (hx1 c c0 c1).2.2
