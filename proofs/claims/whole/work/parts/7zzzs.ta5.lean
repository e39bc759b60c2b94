/-! the least tour of the class -/
def wyD (N : Nat) (D : Int → Int → Int) (t : Int → Int) : Prop := ∃ B L, wyT D N B (p2 ((N : Int) - 1)) ∧ wyr D N B t (N - 1) L
theorem wyD_uniq {N : Nat} {D D2 : Int → Int → Int} {t t2 : Int → Int} (hN : 1 ≤ N) (hD : ∀ a b, 0 ≤ a → a < (N : Int) → 0 ≤ b → b < (N : Int) → D a b = D2 a b) (h : wyD N D t) (h2 : wyD N D2 t2) : ∀ j, 0 ≤ j → j < (N : Int) → t j = t2 j := by
  obtain ⟨B, L, a1, a2⟩ := h
  obtain ⟨B2, L2, b1, b2⟩ := h2
  intro j j0 j1
  exact (wyr_uniq (by omega) hD a1 b1 a2 b2).2 j j0 (by omega)
theorem wyD_ok {N : Nat} {D : Int → Int → Int} {t : Int → Int} (hN : 1 ≤ N) (h : wyD N D t) : tOK N t := by
  obtain ⟨B, L, a1, a2⟩ := h
  have f := wyr_f (by omega) a2
  have z := wyF_end f (by omega)
  subst z
  refine ⟨fun i i0 i1 => ?_, fun y y0 y1 => ?_, f.t0⟩
  · have := f.tr i i0 (by omega)
    omega
  · by_cases q : y = 0
    · exact ⟨0, by omega, by omega, by rw [f.t0, q]⟩
    · obtain ⟨j, j0, j1, j2⟩ := f.mem (y - 1) (by omega) (by omega) (bt_zz _)
      exact ⟨j, j0, by omega, by omega⟩
theorem wyr_D {D D2 : Int → Int → Int} {n : Int} {B : Int → Int → Int} {t : Int → Int} (hn : 1 ≤ n) (hD : ∀ a b, 0 ≤ a → a < n → 0 ≤ b → b < n → D a b = D2 a b) : ∀ {m : Nat} {L : Int}, wyr D n B t m L → wyr D2 n B t m L
  | 0, L, h => h
  | m + 1, L, ⟨L', h1, h2, h3⟩ => by
    refine ⟨L', wyr_D hn hD h1, ?_, h3⟩
    have f := (wyr_f hn h1).tr m (by omega) (by omega)
    obtain ⟨⟨a0, a1, a2⟩, g2, g3⟩ := h2
    refine ⟨⟨a0, a1, a2⟩, fun b b0 b1 b2 => ?_, fun b b0 b1 b2 => ?_⟩
    · rw [← hD _ _ f.1 f.2 (by omega) a1, ← hD _ _ f.1 f.2 (by omega) b1]; exact g2 b b0 b1 b2
    · rw [← hD _ _ f.1 f.2 (by omega) a1, ← hD _ _ f.1 f.2 (by omega) (by omega)]; exact g3 b b0 b1 b2
theorem wyD_c {N : Nat} {D D2 : Int → Int → Int} {t : Int → Int} (hN : 1 ≤ N) (hD : ∀ a b, 0 ≤ a → a < (N : Int) → 0 ≤ b → b < (N : Int) → D a b = D2 a b) (h : wyD N D t) : wyD N D2 t := by
  obtain ⟨B, L, a1, a2⟩ := h
  exact ⟨B, L, wyT_cg hD (fun _ _ _ _ _ _ => rfl) a1, wyr_D (by omega) hD a2⟩
theorem iI_shlo {v : Int} (h : 0 ≤ v ∧ v ≤ 10) : iI v <<< (iI v &&& 31) = iI (p2 v * v) := by
  obtain ⟨k, rfl⟩ := Int.eq_ofNat_of_zero_le h.1
  have hk : k ≤ 10 := by omega
  rcases (show k = 0 ∨ k = 1 ∨ k = 2 ∨ k = 3 ∨ k = 4 ∨ k = 5 ∨ k = 6 ∨ k = 7 ∨ k = 8 ∨ k = 9 ∨ k = 10 by omega) with rfl | rfl | rfl | rfl | rfl | rfl | rfl | rfl | rfl | rfl | rfl <;> decide
theorem s_shlo {d i pc : Nat} {lv : am_L} {r : List Value} {P : Option Value → am_H → Prop} {h : am_H} {aux : List Nat} {v : Int} (h1 : am_fetch i pc = some (.ishl, 1, aux)) (hv : 0 ≤ v ∧ v ≤ 10) (k9 : am_wp d i (pc + 1) lv (.int (iI (p2 v * v)) :: r) h P) : am_wp d i pc lv (.int (iI v) :: .int (iI v) :: r) h P := am_s (st' := .int (iI (p2 v * v)) :: r) h1 (by rw [← iI_shlo hv]; rfl) k9
theorem t_find36 {d : Nat} {E : am_Ev} {s : am_S} {n sz : Int} {N : Nat} {PP : Option Value → am_H → Prop} (g : am_Eg E) (gd : am_Ed E) (hn : 1 ≤ n ∧ n ≤ 11) (hD : ∀ a b, 0 ≤ a → a < n → 0 ≤ b → b < n → 0 ≤ mx s a b ∧ mx s a b < 2147483648) (ho : s 158 1 = n - 1) (en : s 25 0 = n) (eN : n = (N : Int)) (hz : p2 (n - 1) * (n - 1) ≤ E.2.2.2.1.2) (hPP : ∀ s2, (∀ q, q ≠ 158 → q ≠ 152 → q ≠ E.2.2.2.1.1 → s2 q = s q) ∧ s2 158 1 = s 158 1 → wyD N (mx s) (s2 152) → PP none (am_hp E s2)) : am_wp (d + 2) 78 36 [(3, .int (iI sz)), (2, .ref 151), (1, .ref 25), (0, .ref 158)] [] (am_hp E s) PP := by
  have hk := p2_k hn
  have hp := p2_pos (n - 1)
  have hN : 1 ≤ N := by omega
  refine am_s rfl rfl ?_
  refine am_s rfl rfl ?_
  refine s_gr rfl g rfl rfl ?_
  refine s_cv [_] [] rfl g (Or.inl rfl) rfl rfl (Nat.le_of_ble_eq_true rfl) rfl rfl (t_fill (s := s) g gd hn hD ho hz) ?_
  rintro rv h1 ⟨rfl, s1, rfl, hF, hT⟩
  have e1 : s1 158 1 = n - 1 := hF.2.trans ho
  refine s_k 0 rfl rfl ?_
  refine am_s rfl rfl ?_
  refine s_k 1 rfl rfl ?_
  refine am_s rfl rfl ?_
  refine s_gi (x := 1) rfl g rfl rfl rfl ?_
  refine s_shl1 rfl ⟨by omega, by omega⟩ ?_
  rw [e1]
  refine s_k 1 rfl rfl ?_
  refine s_isub rfl ?_
  refine am_s rfl rfl ?_
  refine am_s rfl rfl ?_
  refine s_gr rfl g rfl rfl ?_
  refine s_k 0 rfl rfl ?_
  refine s_k 0 rfl rfl ?_
  refine s_is rfl g rfl ⟨by omega, by omega⟩ (by decide) ?_
  refine s_k 1 rfl rfl ?_
  refine am_s rfl rfl ?_
  refine am_lv [(6, .int (iI (((1 : Nat) : Int) : Int))), (5, .int (iI (p2 (n - 1) - 1))), (4, .int (iI 0)), (2, .ref 151), (1, .ref 25), (0, .ref 158)] rfl rfl ⟨rfl, rfl, rfl, rfl, rfl, rfl, trivial⟩ ?_
  refine s_loop (X := Int × Int) (fun k x s' => (∀ q, q ≠ 158 → q ≠ 152 → q ≠ E.2.2.2.1.1 → s' q = s q) ∧ s' 158 1 = s 158 1 ∧ s' E.2.2.2.1.1 = s1 E.2.2.2.1.1 ∧ x.2 = s' 152 ((k : Int) - 1) ∧ wyr (mx s) n (hB E s1 n) (s' 152) (k - 1) x.1) (fun k x => [(6, .int (iI (k : Int))), (5, .int (iI x.1)), (4, .int (iI x.2)), (2, .ref 151), (1, .ref 25), (0, .ref 158)]) (lo := 1) (hi := N) (x := (p2 (n - 1) - 1, 0)) hN ⟨fun q h1 h2 h3 => ?_, ?_, ?_, ?_, ⟨?_, rfl⟩⟩ ?_ ?_
  · rw [am_w_row h2]; exact hF.1 q h1 h3
  · rw [am_w_row (by decide)]; exact hF.2
  · rw [am_w_row (lo_ne gd.h0 (show am_lo 152 = _ from rfl))]
  · exact (am_w_eq _ _ _ _).symm
  · exact am_w_eq _ _ _ _
  · rintro k ⟨L, c0⟩ s2 hk0 hk1 ⟨hF2, hO2, hH2, hc0, hW⟩ kk
    simp only at kk hc0 hW ⊢
    obtain ⟨m, rfl⟩ : ∃ m, k = m + 1 := ⟨k - 1, by omega⟩
    rw [show m + 1 - 1 = m from rfl] at hW
    have em : (((m + 1 : Nat) : Int) - 1) = (m : Int) := by omega
    rw [em] at hc0
    subst hc0
    have f := wyr_f (by omega) hW
    have fr := f.r
    have ft := f.tr (m : Int) (by omega) (by omega)
    have nz := wyF_nz f (by omega)
    have e25 : s2 25 0 = n := by rw [hF2 25 (by decide) (by decide) (home_ne gd (show am_lo 25 = _ from rfl))]; exact en
    have e1 : s2 158 1 = n - 1 := hO2.trans ho
    have eB : hB E s2 n = hB E s1 n := by unfold hB; rw [hH2]
    have hD2 : ∀ a b, 0 ≤ a → a < n → 0 ≤ b → b < n → mx s2 a b = mx s a b := fun a b a0 a1 _ _ => by
      unfold mx
      rw [hF2 _ (by omega) (by omega) (row_ne gd a0 (by omega))]
    have hDD : ∀ a b, 0 ≤ a → a < n → 0 ≤ b → b < n → 0 ≤ mx s2 a b ∧ mx s2 a b < 2147483648 := fun a b a0 a1 b0 b1 => by rw [hD2 a b a0 a1 b0 b1]; exact hD a b a0 a1 b0 b1
    refine am_s rfl rfl ?_
    refine am_s rfl rfl ?_
    refine s_gi (x := 0) rfl g rfl rfl rfl ?_
    refine s_cge rfl ⟨by omega, by omega⟩ ⟨by omega, by omega⟩ (fun c1 => absurd c1 (by omega)) (fun c1 => ?_)
    refine am_s rfl rfl ?_
    refine am_s rfl rfl ?_
    refine s_gr rfl g rfl rfl ?_
    refine am_s rfl rfl ?_
    refine s_aa rfl g rfl ⟨by omega, by omega⟩ (by decide) ?_
    refine am_s rfl rfl ?_
    refine s_cv [_, _] [] rfl g (Or.inl rfl) rfl rfl (Nat.le_of_ble_eq_true rfl) rfl rfl (t_leastHome (s := s2) (n := n) (S := L) (c := s2 152 (m : Int)) g gd hn hDD e1 hz ft fr (wyT_cg (fun a b a0 a1 b0 b1 => (hD2 a b a0 a1 b0 b1).symm) (fun _ _ _ _ _ _ => by rw [eB]) (fun S c s0 s1 => hT S c s0 (by omega)))) ?_
    rintro rv h1 ⟨v, s3, rfl, rfl, hF3, hO3, -, hH3⟩
    replace hH3 := hH3 nz
    rw [eB] at hH3
    replace hH3 : wyH (mx s) n (hB E s1 n) L (s2 152 (m : Int)) (s3 158 2) := by
      obtain ⟨⟨a0, a1, a2⟩, g2, g3⟩ := hH3
      refine ⟨⟨a0, a1, a2⟩, fun b b0 b1 b2 => ?_, fun b b0 b1 b2 => ?_⟩
      · rw [← hD2 _ _ ft.1 ft.2 (by omega) a1, ← hD2 _ _ ft.1 ft.2 (by omega) b1]; exact g2 b b0 b1 b2
      · rw [← hD2 _ _ ft.1 ft.2 (by omega) a1, ← hD2 _ _ ft.1 ft.2 (by omega) (by omega)]; exact g3 b b0 b1 b2
    have a3 := hH3.1
    have e152 : s3 152 = s2 152 := hF3 152 (by decide)
    refine am_s rfl rfl ?_
    refine am_s rfl rfl ?_
    refine s_gi (x := 2) rfl g rfl rfl rfl ?_
    refine s_k 1 rfl rfl ?_
    refine s_iadd rfl ?_
    refine am_s rfl rfl ?_
    refine am_s rfl rfl ?_
    refine s_k 1 rfl rfl ?_
    refine am_s rfl rfl ?_
    refine s_gi (x := 2) rfl g rfl rfl rfl ?_
    refine s_shl1 rfl ⟨by omega, by omega⟩ ?_
    refine s_xorb rfl ⟨by omega, by omega⟩ ⟨by omega, by omega⟩ ?_
    refine am_s rfl rfl ?_
    refine am_s rfl rfl ?_
    refine s_gr rfl g rfl rfl ?_
    refine am_s rfl rfl ?_
    refine am_s rfl rfl ?_
    refine s_is rfl g rfl ⟨by omega, by omega⟩ (by decide) ?_
    refine s_inc rfl rfl ?_
    refine am_s rfl rfl ?_
    have ek : ((m + 1 : Nat) : Int) + 1 = ((m + 1 + 1 : Nat) : Int) := by omega
    rw [ek]
    refine am_lv [(6, _), (5, _), (4, _), (2, _), (1, _), (0, _)] rfl rfl ⟨rfl, rfl, rfl, rfl, rfl, rfl, trivial⟩ ?_
    refine kk (rb L (s3 158 2), s3 158 2 + 1) _ ⟨fun q h1 h2 h3 => ?_, ?_, ?_, ?_, ?_⟩
    · rw [am_w_row h2, hF3 q (by simp; exact h1)]; exact hF2 q h1 h2 h3
    · rw [am_w_row (by decide), hO3]; exact hO2
    · rw [am_w_row (lo_ne gd.h0 (show am_lo 152 = _ from rfl)), hF3 _ (fun z => by simp at z; exact lo_ne gd.h0 (show am_lo 158 = _ from rfl) z)]; exact hH2
    · rw [show (((m + 1 + 1 : Nat) : Int) - 1) = ((m + 1 : Nat) : Int) by omega, am_w_eq]
    · rw [show m + 1 + 1 - 1 = m + 1 from rfl]
      refine ⟨L, wyr_c (fun j j0 j1 => ?_) hW, ?_, ?_⟩
      · rw [am_w_x (by omega), e152]
      · rw [am_w_x (by omega), am_w_eq, e152, show s3 158 2 + 1 - 1 = s3 158 2 by omega]; exact hH3
      · rw [am_w_eq, show s3 158 2 + 1 - 1 = s3 158 2 by omega]
  · rintro x s2 ⟨hF2, hO2, hH2, hc0, hW⟩
    simp only
    have e25 : s2 25 0 = n := by rw [hF2 25 (by decide) (by decide) (home_ne gd (show am_lo 25 = _ from rfl))]; exact en
    refine am_s rfl rfl ?_
    refine am_s rfl rfl ?_
    refine s_gi (x := 0) rfl g rfl rfl rfl ?_
    refine s_cge rfl ⟨by omega, by omega⟩ ⟨by omega, by omega⟩ (fun c1 => ?_) (fun c1 => absurd c1 (by omega))
    exact am_r rfl rfl (hPP s2 ⟨hF2, hO2⟩ ⟨_, x.1, (by rw [← eN]; exact hT), (by rw [← eN]; exact hW)⟩)
