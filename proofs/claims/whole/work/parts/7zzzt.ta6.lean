/-! best of the class -/
abbrev hGr (E E2 : am_Ev) : Prop := Nonempty (PProd (am_Eg E2) (PProd (am_Ed E2) (PProd (E2.2.2.1 = E.2.2.1) (PProd (E2.2.2.2.2.1 ≤ E.2.2.2.2.1 + 1) (PProd (E.2.2.2.2.1 ≤ E2.2.2.2.2.1) (E2.2.2.2.2.2 ≤ E.2.2.2.2.2 + 10240))))))
theorem hGr.g {E E2 : am_Ev} (h_ : hGr E E2) : am_Eg E2 := h_.elim (fun x_ => x_.1)
theorem hGr.d {E E2 : am_Ev} (h_ : hGr E E2) : am_Ed E2 := h_.elim (fun x_ => x_.2.1)
theorem hGr.sg {E E2 : am_Ev} (h_ : hGr E E2) : E2.2.2.1 = E.2.2.1 := h_.elim (fun x_ => x_.2.2.1)
theorem hGr.c {E E2 : am_Ev} (h_ : hGr E E2) : E2.2.2.2.2.1 ≤ E.2.2.2.2.1 + 1 := h_.elim (fun x_ => x_.2.2.2.1)
theorem hGr.c0 {E E2 : am_Ev} (h_ : hGr E E2) : E.2.2.2.2.1 ≤ E2.2.2.2.2.1 := h_.elim (fun x_ => x_.2.2.2.2.1)
theorem hGr.sl {E E2 : am_Ev} (h_ : hGr E E2) : E2.2.2.2.2.2 ≤ E.2.2.2.2.2 + 10240 := h_.elim (fun x_ => x_.2.2.2.2.2)
def hKp (E : am_Ev) (L : List Nat) (s s2 : am_S) : Prop := ∀ q, q ≤ E.2.2.2.2.1 → q ≠ E.2.2.2.1.1 → q ∉ L → s2 q = s q
theorem sz_k {n : Int} (h : 1 ≤ n ∧ n ≤ 11) : 0 ≤ p2 (n - 1) * (n - 1) ∧ p2 (n - 1) * (n - 1) ≤ 10240 := by
  have h1 := p2_k h
  have h2 := p2_pos (n - 1)
  have h3 : 0 ≤ p2 (n - 1) * (n - 1) := Int.mul_nonneg (by omega) (by omega)
  have h4 : p2 (n - 1) * (n - 1) ≤ 1024 * (n - 1) := Int.mul_le_mul_of_nonneg_right h1 (by omega)
  omega
theorem t_find10 {d : Nat} {E : am_Ev} {s : am_S} {n : Int} {N : Nat} {PP : Option Value → am_H → Prop} (g : am_Eg E) (gd : am_Ed E) (hn : 1 ≤ n ∧ n ≤ 11) (hD : ∀ a b, 0 ≤ a → a < n → 0 ≤ b → b < n → 0 ≤ mx s a b ∧ mx s a b < 2147483648) (ho : s 158 1 = n - 1) (en : s 25 0 = n) (eN : n = (N : Int)) (hPP : ∀ E2 s2, hGr E E2 → hKp E [158, 152] s s2 → wyD N (mx s) (s2 152) → PP none (am_hp E2 s2)) : am_wp (d + 2) 78 10 (lv_args 0 [.ref 158, .ref 25, .ref 151]) [] (am_hp E s) PP := by
  have hk := sz_k hn
  have gs := gd.h2
  refine am_s rfl rfl ?_
  refine s_gi (x := 1) rfl g rfl rfl rfl ?_
  refine am_s rfl rfl ?_
  refine s_gi (x := 1) rfl g rfl rfl rfl ?_
  rw [ho]
  refine s_shlo rfl ⟨by omega, by omega⟩ ?_
  refine am_s rfl rfl ?_
  refine am_s rfl rfl ?_
  refine s_g6 rfl g rfl rfl ?_
  refine s_lenH rfl gd ?_
  refine am_s rfl rfl ?_
  refine s_cge rfl ⟨by omega, by omega⟩ ⟨by omega, by omega⟩ (fun c1 => ?_) (fun c1 => ?_)
  · refine am_lv [(3, _), (2, _), (1, _), (0, _)] rfl rfl ⟨rfl, rfl, rfl, rfl, trivial⟩ ?_
    refine t_find36 g gd hn hD ho en eN (by omega) ?_
    rintro s2 ⟨hF, -⟩ hW
    refine hPP _ s2 ⟨g, gd, rfl, Nat.le_succ _, Nat.le_refl _, by omega⟩ (fun q q1 q2 q3 => ?_) hW
    simp at q3
    exact hF q q3.1 q3.2 q2
  · refine am_s rfl rfl ?_
    refine am_s rfl rfl ?_
    rw [show p2 (n - 1) * (n - 1) = ((p2 (n - 1) * (n - 1)).toNat : Int) by omega]
    refine s_newH rfl rfl g gd (by omega) ?_
    have g1 := g.1
    have eS : ∀ q, q ≤ E.2.2.2.2.1 → nSH E s q = s q := fun q hq => nSH_f hq
    have em : ∀ a b, 0 ≤ a → a < n → 0 ≤ b → b < n → mx (nSH E s) a b = mx s a b := fun a b a0 a1 _ _ => by
      unfold mx
      rw [eS _ (by omega)]
    have hz2 : p2 (n - 1) * (n - 1) ≤ (((p2 (n - 1) * (n - 1)).toNat : Nat) : Int) := by omega
    refine am_lv [(3, _), (2, _), (1, _), (0, _)] rfl rfl ⟨rfl, rfl, rfl, rfl, trivial⟩ ?_
    refine t_find36 (E := nEH E s (p2 (n - 1) * (n - 1)).toNat) (s := nSH E s) (n := n) (N := N) (nEH_g g) (nEH_d g gd (by omega)) hn (fun a b a0 a1 b0 b1 => by rw [em a b a0 a1 b0 b1]; exact hD a b a0 a1 b0 b1) (by rw [eS _ (by omega)]; exact ho) (by rw [eS _ (by omega)]; exact en) eN hz2 ?_
    rintro s2 ⟨hF, -⟩ hW
    refine hPP _ s2 ⟨nEH_g g, nEH_d g gd (by omega), rfl, Nat.le_refl _, Nat.le_succ _, ?_⟩ (fun q q1 q2 q3 => ?_) (wyD_c (by omega) (fun a b a0 a1 b0 b1 => em a b a0 (by omega) b0 (by omega)) hW)
    · show E.2.2.2.2.2 + (p2 (n - 1) * (n - 1)).toNat ≤ _
      omega
    · simp at q3
      rw [hF q q3.1 q3.2 (fun z => by
        have z : q = E.2.2.2.2.1 + 1 := z
        omega), eS q q1]
theorem t_findLeast {d : Nat} {E : am_Ev} {s : am_S} {n : Int} {N : Nat} {PP : Option Value → am_H → Prop} (g : am_Eg E) (gd : am_Ed E) (hn : 1 ≤ n ∧ n ≤ 11) (hD : ∀ a b, 0 ≤ a → a < n → 0 ≤ b → b < n → 0 ≤ mx s a b ∧ mx s a b < 2147483648) (en : s 25 0 = n) (eN : n = (N : Int)) (hPP : ∀ E2 s2, hGr E E2 → hKp E [158, 152] s s2 → wyD N (mx s) (s2 152) → PP none (am_hp E2 s2)) : am_wp (d + 2) 78 0 (lv_args 0 [.ref 158, .ref 25, .ref 151]) [] (am_hp E s) PP := by
  refine am_s rfl rfl ?_
  refine am_s rfl rfl ?_
  refine s_gi (x := 0) rfl g rfl rfl rfl ?_
  refine s_k 1 rfl rfl ?_
  refine s_isub rfl ?_
  refine s_pi (x := 1) rfl g rfl rfl rfl rfl ?_
  have hm := home_ne gd (show am_lo 158 = _ from rfl)
  have em : ∀ a b, 0 ≤ a → a < n → 0 ≤ b → b < n → mx (am_w s 158 1 (s 25 0 - 1)) a b = mx s a b := fun a b a0 a1 _ _ => by
    unfold mx
    rw [am_w_row (by omega)]
  refine t_find10 (s := am_w s 158 1 (s 25 0 - 1)) (n := n) (N := N) g gd hn (fun a b a0 a1 b0 b1 => by rw [em a b a0 a1 b0 b1]; exact hD a b a0 a1 b0 b1) (by rw [am_w_eq, en]) (by rw [am_w_row (by decide)]; exact en) eN (fun E2 s2 h1 h2 h3 => hPP E2 s2 h1 (fun q q1 q2 q3 => ?_) (wyD_c (by omega) (fun a b a0 a1 b0 b1 => em a b a0 (by omega) b0 (by omega)) h3))
  rw [h2 q q1 q2 q3, am_w_row (fun z => q3 (by simp [z]))]
theorem t_bestX {d : Nat} {E : am_Ev} {s : am_S} {PP : Option Value → am_H → Prop} (g : am_Eg E) (gd : am_Ed E) (hm : mx_ok s) (hl : lk_ok s) (h1' : ∀ s1, lk_to s s1 → s1 47 0 ≠ 0 → PP (some (.long (lI (-103)))) (am_hp E s1)) (h2 : ∀ s1, lk_to s s1 → s1 47 0 = 0 → 11 < s 25 0 → PP (some (.long (lI (-104)))) (am_hp E s1)) (h3 : ∀ s1 E2 s2, lk_to s s1 → s1 47 0 = 0 → s 25 0 ≤ 11 → hGr E E2 → hKp E [151, 152, 158] s1 s2 → s2 151 1 = s 25 0 → s2 151 0 = 1 → wyD (s 25 0).toNat (mx s) (s2 152) → PP (some (.long (lI (tl (s 25 0) (mx s) (s2 152) (s 25 0).toNat)))) (am_hp E2 s2)) : am_wp (d + 4) 146 0 (lv_args 0 [.ref 1]) [] (am_hp E s) PP := by
  refine am_s rfl rfl ?_
  refine s_gr rfl g rfl rfl ?_
  refine s_cv [] [] rfl g (Or.inl rfl) rfl rfl (Nat.le_of_ble_eq_true rfl) rfl rfl (t_isSound (d := d) g hm hl) ?_
  rintro rv h1 ⟨s1, rfl, hk, hh⟩
  have e25 : s1 25 0 = s 25 0 := hk.2.1
  rcases hh with ⟨hz, rfl⟩ | ⟨hz, rfl⟩
  · refine s_zne rfl ⟨by omega, by omega⟩ (fun c1 => ?_) (fun c1 => absurd c1 (by omega))
    refine am_s rfl rfl ?_
    refine s_gr rfl g rfl rfl ?_
    refine s_gi (x := 0) rfl g rfl rfl rfl ?_
    refine s_k 11 rfl rfl ?_
    refine s_cle rfl ⟨by have := hm.1; have := hm.2.1; omega, by have := hm.1; have := hm.2.1; omega⟩ ⟨by decide, by decide⟩ (fun c2 => ?_) (fun c2 => ?_)
    · refine am_s rfl rfl ?_
      refine s_gr rfl g rfl rfl ?_
      refine am_s rfl rfl ?_
      refine s_gr rfl g rfl rfl ?_
      refine s_gi (x := 0) rfl g rfl rfl rfl ?_
      refine s_cv [_] [] rfl g (Or.inl rfl) rfl rfl (Nat.le_of_ble_eq_true rfl) rfl rfl (t_tstart (s := s1) g) ?_
      rintro rv h1 ⟨rfl, rfl⟩
      have m1 := hm.1
      have g1 := g.1
      have em : ∀ a b, 0 ≤ a → a < s 25 0 → mx (tst s1) a b = mx s a b := fun a b a0 a1 => by
        have := hm.2.1
        unfold mx
        rw [tst_f (by omega), hk.1 _ (fun z => by simp at z; omega)]
      refine am_s rfl rfl ?_
      refine s_gr rfl g rfl rfl ?_
      refine am_s rfl rfl ?_
      refine s_gr rfl g rfl rfl ?_
      refine am_s rfl rfl ?_
      refine s_gr rfl g rfl rfl ?_
      refine s_cv [_, _] [] rfl g (Or.inl rfl) rfl rfl (Nat.le_of_ble_eq_true rfl) rfl rfl (t_findLeast (d := d + 1) (s := tst s1) (n := s 25 0) (N := (s 25 0).toNat) (PP := fun rv h => rv = none ∧ ∃ E2 s2, h = am_hp E2 s2 ∧ hGr E E2 ∧ hKp E [158, 152] (tst s1) s2 ∧ wyD (s 25 0).toNat (mx (tst s1)) (s2 152)) g gd (by omega) (fun a b a0 a1 b0 b1 => by rw [em a b a0 a1]; exact hm.2.2 a b a0 a1 b0 b1) (by rw [tst_f (by decide)]; exact e25) (by omega) (fun E2 s2 h1 h2 h3 => ⟨rfl, E2, s2, rfl, h1, h2, h3⟩)) ?_
      rintro rv h1 ⟨rfl, E2, s2, rfl, gr, kp, wd⟩
      have hh := fun (q : Nat) (y : am_Ly) (h : am_lo q = some y) => home_ne gd h
      have q25 : s2 25 0 = s 25 0 := by rw [kp 25 (by omega) (hh 25 _ rfl) (by decide), tst_f (by decide)]; exact e25
      have q151 : s2 151 1 = s 25 0 := by rw [kp 151 (by omega) (hh 151 _ rfl) (by decide), tst_1]; exact e25
      have em2 : ∀ a b, 0 ≤ a → a < s 25 0 → mx s2 a b = mx s a b := fun a b a0 a1 => by
        have := hm.2.1
        rw [← em a b a0 a1]
        unfold mx
        rw [kp _ (by omega) (row_ne gd a0 (by omega)) (by simp; omega)]
      have wd2 : wyD (s 25 0).toNat (mx s) (s2 152) := wyD_c (by omega) (fun a b a0 a1 _ _ => em a b a0 (by omega)) wd
      have tok := wyD_ok (by omega) wd2
      have hm2 : mx_ok s2 := ⟨by rw [q25]; exact hm.1, by rw [q25]; exact hm.2.1, fun a b a0 a1 b0 b1 => by
        rw [q25] at a1 b1
        rw [em2 a b a0 a1]; exact hm.2.2 a b a0 a1 b0 b1⟩
      have g := gr.g
      refine am_s rfl rfl ?_
      refine s_gr rfl g rfl rfl ?_
      refine am_s rfl rfl ?_
      refine s_gr rfl g rfl rfl ?_
      refine s_gr rfl g rfl rfl ?_
      refine s_cv [_] [] rfl g (Or.inl rfl) rfl rfl (Nat.le_of_ble_eq_true rfl) rfl rfl (t_measure (d := d + 2) (s := s2) g hm2 (by rw [q151, q25]) (by rw [q25]; intro i i0 i1; have := tok.1 i i0 (by omega); omega)) ?_
      rintro rv h1 ⟨rfl, rfl⟩
      rw [q151, tl_congr (D2 := mx s) (t2 := s2 152) (fun a b a0 a1 _ _ => em2 a b a0 a1) (fun i i0 i1 => by have := tok.1 i i0 (by omega); omega) (fun _ _ _ => rfl) _ (by omega)]
      exact am_r rfl rfl (h3 s1 E2 s2 hk hz (by omega) gr (fun q q1 q2 q3 => by simp at q3; rw [kp q q1 q2 (by simp; exact ⟨q3.2.2, q3.2.1⟩), tst_f q3.1]) q151 (by rw [kp 151 (by omega) (hh 151 _ rfl) (by decide)]; exact am_w_eq _ _ _ _) wd2)
    · refine s_kl (-104) rfl rfl ?_
      exact am_r rfl rfl (h2 s1 hk hz (by omega))
  · refine s_zne rfl ⟨by omega, by omega⟩ (fun c1 => absurd c1 (by omega)) (fun c1 => ?_)
    refine s_kl (-103) rfl rfl ?_
    exact am_r rfl rfl (h1' s1 hk hz)
