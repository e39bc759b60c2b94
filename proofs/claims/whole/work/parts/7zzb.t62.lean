/-! the matcher: the way that stays of a blossom -/
def qB (m e j : Int) : Int := e - j + (if e - j < 0 then m else 0)
def qO (m e j : Int) : Int := e + j - (if e + j < m then 0 else m)
set_option maxHeartbeats 4000000 in
theorem t_keepWayBack {d : Nat} {E : am_Ev} {s : am_S} {r e : Int} {K : Nat} (g : am_Eg E) (hr : 0 ≤ r ∧ r < 10) (he : 0 ≤ e ∧ e < s 92 r) (hm : s 92 r ≤ 20) (hK : 2 * (K : Int) < s 92 r) (hg : ∀ i, 0 ≤ i → i < s 92 r → 0 ≤ s (94 + 1 + r.toNat) i ∧ s (94 + 1 + r.toNat) i < 30) (hi : ∀ i j, 0 ≤ i → i < s 92 r → 0 ≤ j → j < s 92 r → s (94 + 1 + r.toNat) i = s (94 + 1 + r.toNat) j → i = j) : am_wp (d + 1) 50 0 (lv_args 0 [.ref 62, .int (iI r), .int (iI e), .int (iI (2 * (K : Int)))]) [] (am_hp E s) (fun rv h => rv = none ∧ ∃ s', h = am_hp E s' ∧ am_Fr [89, 90, 91] s s' ∧ (∀ j, 1 ≤ j → j ≤ 2 * (K : Int) → s' 89 (s (94 + 1 + r.toNat) (qB (s 92 r) e (j))) = if j % 2 = 0 then 2 else 1) ∧ (∀ j, 2 ≤ j → j ≤ 2 * (K : Int) → j % 2 = 0 → s' 90 (s (94 + 1 + r.toNat) (qB (s 92 r) e (j))) = s (116 + 1 + r.toNat) (qB (s 92 r) e (j)) ∧ s' 91 (s (94 + 1 + r.toNat) (qB (s 92 r) e (j))) = s (105 + 1 + r.toNat) (qB (s 92 r) e (j))) ∧ ∀ y, (∀ j, 1 ≤ j → j ≤ 2 * (K : Int) → s (94 + 1 + r.toNat) (qB (s 92 r) e (j)) ≠ y) → s' 89 y = s 89 y ∧ s' 90 y = s 90 y ∧ s' 91 y = s 91 y) := by
  refine am_s rfl rfl ?_
  refine s_gr rfl g rfl rfl ?_
  refine am_s rfl rfl ?_
  refine s_ia rfl g rfl ⟨by omega, by omega⟩ (by decide) ?_
  refine am_s rfl rfl ?_
  refine s_k 2 rfl rfl ?_
  refine am_s rfl rfl ?_
  refine am_lv [(5, .int (iI (2 + 2 * ((0 : Nat) : Int)))), (4, .int (iI (s 92 r))), (3, .int (iI (2 * (K : Int)))), (2, .int (iI e)), (1, .int (iI r)), (0, .ref 62)] rfl rfl ⟨rfl, rfl, rfl, rfl, rfl, rfl, trivial⟩ ?_
  refine s_loop (X := Unit) (fun k _ s' => am_Fr [89, 90, 91] s s' ∧ (∀ j, 1 ≤ j → j ≤ 2 * (k : Int) → s' 89 (s (94 + 1 + r.toNat) (qB (s 92 r) e (j))) = if j % 2 = 0 then 2 else 1) ∧ (∀ j, 2 ≤ j → j ≤ 2 * (k : Int) → j % 2 = 0 → s' 90 (s (94 + 1 + r.toNat) (qB (s 92 r) e (j))) = s (116 + 1 + r.toNat) (qB (s 92 r) e (j)) ∧ s' 91 (s (94 + 1 + r.toNat) (qB (s 92 r) e (j))) = s (105 + 1 + r.toNat) (qB (s 92 r) e (j))) ∧ ∀ y, (∀ j, 1 ≤ j → j ≤ 2 * (k : Int) → s (94 + 1 + r.toNat) (qB (s 92 r) e (j)) ≠ y) → s' 89 y = s 89 y ∧ s' 90 y = s 90 y ∧ s' 91 y = s 91 y) (fun k _ => [(5, .int (iI (2 + 2 * (k : Int)))), (4, .int (iI (s 92 r))), (3, .int (iI (2 * (K : Int)))), (2, .int (iI e)), (1, .int (iI r)), (0, .ref 62)]) (hi := K) (x := ()) (Nat.zero_le K) ⟨am_Fr_r _ _, fun j j0 j1 => by omega, fun j j0 j1 => by omega, fun y _ => ⟨rfl, rfl, rfl⟩⟩ ?_ ?_
  · rintro k - s1 hk0 hk1 ⟨hF1, hM, hV, hO⟩ kk
    simp only at kk ⊢
    have eR : s1 (94 + 1 + r.toNat) = s (94 + 1 + r.toNat) := hF1 _ (fun z => by simp at z; omega)
    have eF : s1 (105 + 1 + r.toNat) = s (105 + 1 + r.toNat) := hF1 _ (fun z => by simp at z; omega)
    have eI : s1 (116 + 1 + r.toNat) = s (116 + 1 + r.toNat) := hF1 _ (fun z => by simp at z; omega)
    have o1 : 0 ≤ qB (s 92 r) e ((2 + 2 * (k : Int))) ∧ qB (s 92 r) e ((2 + 2 * (k : Int))) < s 92 r := by unfold qB; split <;> omega
    have o2 : 0 ≤ qB (s 92 r) e ((2 + 2 * (k : Int)) - 1) ∧ qB (s 92 r) e ((2 + 2 * (k : Int)) - 1) < s 92 r := by unfold qB; split <;> omega
    have g1 := hg _ o1.1 o1.2
    have g2 := hg _ o2.1 o2.2
    have dis : ∀ j l, 0 ≤ j → j < l → l ≤ 2 * (K : Int) → s (94 + 1 + r.toNat) (qB (s 92 r) e (j)) ≠ s (94 + 1 + r.toNat) (qB (s 92 r) e (l)) := fun j l j0 jl l1 z => by
      have a1 : 0 ≤ qB (s 92 r) e (j) ∧ qB (s 92 r) e (j) < s 92 r := by unfold qB; split <;> omega
      have a2 : 0 ≤ qB (s 92 r) e (l) ∧ qB (s 92 r) e (l) < s 92 r := by unfold qB; split <;> omega
      have z2 := hi _ _ a1.1 a1.2 a2.1 a2.2 z
      unfold qB at z2
      (repeat' split at z2) <;> omega
    have jj : am_wp (d + 1) 50 61 [(7, .int (iI (qB (s 92 r) e ((2 + 2 * (k : Int)))))), (6, .int (iI (qB (s 92 r) e ((2 + 2 * (k : Int)) - 1)))), (5, .int (iI (2 + 2 * (k : Int)))), (4, .int (iI (s 92 r))), (3, .int (iI (2 * (K : Int)))), (2, .int (iI e)), (1, .int (iI r)), (0, .ref 62)] [] (am_hp E s1) (fun rv h => rv = none ∧ ∃ s', h = am_hp E s' ∧ am_Fr [89, 90, 91] s s' ∧ (∀ j, 1 ≤ j → j ≤ 2 * (K : Int) → s' 89 (s (94 + 1 + r.toNat) (qB (s 92 r) e (j))) = if j % 2 = 0 then 2 else 1) ∧ (∀ j, 2 ≤ j → j ≤ 2 * (K : Int) → j % 2 = 0 → s' 90 (s (94 + 1 + r.toNat) (qB (s 92 r) e (j))) = s (116 + 1 + r.toNat) (qB (s 92 r) e (j)) ∧ s' 91 (s (94 + 1 + r.toNat) (qB (s 92 r) e (j))) = s (105 + 1 + r.toNat) (qB (s 92 r) e (j))) ∧ ∀ y, (∀ j, 1 ≤ j → j ≤ 2 * (K : Int) → s (94 + 1 + r.toNat) (qB (s 92 r) e (j)) ≠ y) → s' 89 y = s 89 y ∧ s' 90 y = s 90 y ∧ s' 91 y = s 91 y) := by
      refine am_s rfl rfl ?_
      refine s_gr rfl g rfl rfl ?_
      refine am_s rfl rfl ?_
      refine s_gr rfl g rfl rfl ?_
      refine am_s rfl rfl ?_
      refine s_aa rfl g rfl ⟨by omega, by omega⟩ (by decide) ?_
      refine am_s rfl rfl ?_
      refine s_ia rfl g (lo_94 (by omega) (by omega)) ⟨by omega, by omega⟩ (by decide) ?_
      rw [eR]
      refine s_k 1 rfl rfl ?_
      refine s_is rfl g rfl ⟨by omega, by omega⟩ (by decide) ?_
      generalize hs2 : am_w s1 89 (s (94 + 1 + r.toNat) (qB (s 92 r) e ((2 + 2 * (k : Int)) - 1))) 1 = s2
      have r2 : s2 (94 + 1 + r.toNat) = s (94 + 1 + r.toNat) := by rw [← hs2, am_w_row (by omega), eR]
      have f2 : s2 (105 + 1 + r.toNat) = s (105 + 1 + r.toNat) := by rw [← hs2, am_w_row (by omega), eF]
      have i2 : s2 (116 + 1 + r.toNat) = s (116 + 1 + r.toNat) := by rw [← hs2, am_w_row (by omega), eI]
      refine am_s rfl rfl ?_
      refine am_s rfl rfl ?_
      refine s_gr rfl g rfl rfl ?_
      refine am_s rfl rfl ?_
      refine s_aa rfl g rfl ⟨by omega, by omega⟩ (by decide) ?_
      refine am_s rfl rfl ?_
      refine s_ia rfl g (lo_94 (by omega) (by omega)) ⟨by omega, by omega⟩ (by decide) ?_
      rw [r2]
      refine am_s rfl rfl ?_
      refine s_gr rfl g rfl rfl ?_
      refine am_s rfl rfl ?_
      refine s_aa rfl g rfl ⟨by omega, by omega⟩ (by decide) ?_
      refine am_s rfl rfl ?_
      refine s_ia rfl g (lo_116 (by omega) (by omega)) ⟨by omega, by omega⟩ (by decide) ?_
      rw [i2]
      refine am_s rfl rfl ?_
      refine s_gr rfl g rfl rfl ?_
      refine am_s rfl rfl ?_
      refine s_aa rfl g rfl ⟨by omega, by omega⟩ (by decide) ?_
      refine am_s rfl rfl ?_
      refine s_ia rfl g (lo_105 (by omega) (by omega)) ⟨by omega, by omega⟩ (by decide) ?_
      rw [f2]
      refine s_cv [_, _, _] [] rfl g (Or.inl rfl) rfl rfl (Nat.le_of_ble_eq_true rfl) rfl rfl (t_annexIn (s := s2) g ⟨by omega, by omega⟩) ?_
      rintro rv h1 ⟨rfl, rfl⟩
      refine s_inc rfl rfl ?_
      refine am_s rfl rfl ?_
      rw [show 2 + 2 * (k : Int) + 2 = 2 + 2 * ((k + 1 : Nat) : Int) by omega]
      refine am_lv [(5, _), (4, _), (3, _), (2, _), (1, _), (0, _)] rfl rfl ⟨rfl, rfl, rfl, rfl, rfl, rfl, trivial⟩ ?_
      have w89 : ∀ y, am_w (am_w (am_w s2 89 (s (94 + 1 + r.toNat) (qB (s 92 r) e ((2 + 2 * (k : Int))))) 2) 90 (s (94 + 1 + r.toNat) (qB (s 92 r) e ((2 + 2 * (k : Int))))) (s (116 + 1 + r.toNat) (qB (s 92 r) e ((2 + 2 * (k : Int)))))) 91 (s (94 + 1 + r.toNat) (qB (s 92 r) e ((2 + 2 * (k : Int))))) (s (105 + 1 + r.toNat) (qB (s 92 r) e ((2 + 2 * (k : Int))))) 89 y = if y = s (94 + 1 + r.toNat) (qB (s 92 r) e ((2 + 2 * (k : Int)))) then 2 else if y = s (94 + 1 + r.toNat) (qB (s 92 r) e ((2 + 2 * (k : Int)) - 1)) then 1 else s1 89 y := fun y => by
        rw [am_w_row (by decide), am_w_row (by decide)]
        by_cases c : y = s (94 + 1 + r.toNat) (qB (s 92 r) e ((2 + 2 * (k : Int))))
        · rw [c, am_w_eq, if_pos rfl]
        · rw [am_w_x c, if_neg c, ← hs2]
          by_cases c2 : y = s (94 + 1 + r.toNat) (qB (s 92 r) e ((2 + 2 * (k : Int)) - 1))
          · rw [c2, am_w_eq, if_pos rfl]
          · rw [am_w_x c2, if_neg c2]
      have w90 : ∀ y, am_w (am_w (am_w s2 89 (s (94 + 1 + r.toNat) (qB (s 92 r) e ((2 + 2 * (k : Int))))) 2) 90 (s (94 + 1 + r.toNat) (qB (s 92 r) e ((2 + 2 * (k : Int))))) (s (116 + 1 + r.toNat) (qB (s 92 r) e ((2 + 2 * (k : Int)))))) 91 (s (94 + 1 + r.toNat) (qB (s 92 r) e ((2 + 2 * (k : Int))))) (s (105 + 1 + r.toNat) (qB (s 92 r) e ((2 + 2 * (k : Int))))) 90 y = if y = s (94 + 1 + r.toNat) (qB (s 92 r) e ((2 + 2 * (k : Int)))) then s (116 + 1 + r.toNat) (qB (s 92 r) e ((2 + 2 * (k : Int)))) else s1 90 y := fun y => by
        rw [am_w_row (by decide)]
        by_cases c : y = s (94 + 1 + r.toNat) (qB (s 92 r) e ((2 + 2 * (k : Int))))
        · rw [c, am_w_eq, if_pos rfl]
        · rw [am_w_x c, if_neg c, am_w_row (by decide), ← hs2, am_w_row (by decide)]
      have w91 : ∀ y, am_w (am_w (am_w s2 89 (s (94 + 1 + r.toNat) (qB (s 92 r) e ((2 + 2 * (k : Int))))) 2) 90 (s (94 + 1 + r.toNat) (qB (s 92 r) e ((2 + 2 * (k : Int))))) (s (116 + 1 + r.toNat) (qB (s 92 r) e ((2 + 2 * (k : Int)))))) 91 (s (94 + 1 + r.toNat) (qB (s 92 r) e ((2 + 2 * (k : Int))))) (s (105 + 1 + r.toNat) (qB (s 92 r) e ((2 + 2 * (k : Int))))) 91 y = if y = s (94 + 1 + r.toNat) (qB (s 92 r) e ((2 + 2 * (k : Int)))) then s (105 + 1 + r.toNat) (qB (s 92 r) e ((2 + 2 * (k : Int)))) else s1 91 y := fun y => by
        by_cases c : y = s (94 + 1 + r.toNat) (qB (s 92 r) e ((2 + 2 * (k : Int))))
        · rw [c, am_w_eq, if_pos rfl]
        · rw [am_w_x c, if_neg c, am_w_row (by decide), am_w_row (by decide), ← hs2, am_w_row (by decide)]
      have hF2 : am_Fr [89, 90, 91] s1 s2 := by rw [← hs2]; exact am_Fr_w (by decide)
      refine kk () _ ⟨am_Fr_W (am_Fr_W (am_Fr_W (am_Fr_u hF1 hF2) (by decide)) (by decide)) (by decide), fun j j0 j1 => ?_, fun j j0 j1 je => ?_, fun y hy => ?_⟩
      · rw [w89]
        by_cases c : j = (2 + 2 * (k : Int))
        · rw [c, if_pos rfl, if_pos (by omega)]
        · rw [if_neg (fun z => dis j (2 + 2 * (k : Int)) (by omega) (by omega) (by omega) z)]
          by_cases c2 : j = (2 + 2 * (k : Int)) - 1
          · rw [c2, if_pos rfl, if_neg (by omega)]
          · rw [if_neg (fun z => dis j ((2 + 2 * (k : Int)) - 1) (by omega) (by omega) (by omega) z)]; exact hM j j0 (by omega)
      · rw [w90, w91]
        by_cases c : j = (2 + 2 * (k : Int))
        · rw [c, if_pos rfl, if_pos rfl]; exact ⟨rfl, rfl⟩
        · rw [if_neg (fun z => dis j (2 + 2 * (k : Int)) (by omega) (by omega) (by omega) z), if_neg (fun z => dis j (2 + 2 * (k : Int)) (by omega) (by omega) (by omega) z)]; exact hV j j0 (by omega) je
      · rw [w89, w90, w91, if_neg (fun z => hy (2 + 2 * (k : Int)) (by omega) (by omega) z.symm), if_neg (fun z => hy ((2 + 2 * (k : Int)) - 1) (by omega) (by omega) z.symm), if_neg (fun z => hy (2 + 2 * (k : Int)) (by omega) (by omega) z.symm), if_neg (fun z => hy (2 + 2 * (k : Int)) (by omega) (by omega) z.symm)]; exact hO y (fun j j0 j1 => hy j j0 (by omega))
    refine am_s rfl rfl ?_
    refine am_s rfl rfl ?_
    refine s_cgt rfl ⟨by omega, by omega⟩ ⟨by omega, by omega⟩ (fun c1 => absurd c1 (by omega)) (fun c1 => ?_)
    refine am_s rfl rfl ?_
    refine am_s rfl rfl ?_
    refine s_isub rfl ?_
    refine s_k 1 rfl rfl ?_
    refine s_iadd rfl ?_
    refine am_s rfl rfl ?_
    refine am_s rfl rfl ?_
    refine s_isub rfl ?_
    refine s_k 1 rfl rfl ?_
    refine s_iadd rfl ?_
    refine s_zge rfl ⟨by omega, by omega⟩ (fun c2 => ?_) (fun c2 => ?_)
    · refine s_k 0 rfl rfl ?_
      refine s_iadd rfl ?_
      refine am_s rfl rfl ?_
      refine am_s rfl rfl ?_
      refine am_s rfl rfl ?_
      refine s_isub rfl ?_
      refine am_s rfl rfl ?_
      refine am_s rfl rfl ?_
      refine s_isub rfl ?_
      refine s_zge rfl ⟨by omega, by omega⟩ (fun c3 => ?_) (fun c3 => ?_)
      · refine s_k 0 rfl rfl ?_
        refine s_iadd rfl ?_
        refine am_s rfl rfl ?_
        have e6 : qB (s 92 r) e ((2 + 2 * (k : Int)) - 1) = e - (2 + 2 * (k : Int)) + 1 + 0 := by unfold qB; split <;> omega
        have e7 : qB (s 92 r) e ((2 + 2 * (k : Int))) = e - (2 + 2 * (k : Int)) + 0 := by unfold qB; split <;> omega
        refine am_lv [(7, .int (iI (qB (s 92 r) e ((2 + 2 * (k : Int)))))), (6, .int (iI (qB (s 92 r) e ((2 + 2 * (k : Int)) - 1)))), (5, .int (iI (2 + 2 * (k : Int)))), (4, .int (iI (s 92 r))), (3, .int (iI (2 * (K : Int)))), (2, .int (iI e)), (1, .int (iI r)), (0, .ref 62)] rfl rfl ⟨by rw [e7]; rfl, by rw [e6]; rfl, rfl, rfl, rfl, rfl, rfl, rfl, trivial⟩ ?_
        exact jj
      · refine am_s rfl rfl ?_
        refine am_s rfl rfl ?_
        refine s_iadd rfl ?_
        refine am_s rfl rfl ?_
        have e6 : qB (s 92 r) e ((2 + 2 * (k : Int)) - 1) = e - (2 + 2 * (k : Int)) + 1 + 0 := by unfold qB; split <;> omega
        have e7 : qB (s 92 r) e ((2 + 2 * (k : Int))) = e - (2 + 2 * (k : Int)) + s 92 r := by unfold qB; split <;> omega
        refine am_lv [(7, .int (iI (qB (s 92 r) e ((2 + 2 * (k : Int)))))), (6, .int (iI (qB (s 92 r) e ((2 + 2 * (k : Int)) - 1)))), (5, .int (iI (2 + 2 * (k : Int)))), (4, .int (iI (s 92 r))), (3, .int (iI (2 * (K : Int)))), (2, .int (iI e)), (1, .int (iI r)), (0, .ref 62)] rfl rfl ⟨by rw [e7]; rfl, by rw [e6]; rfl, rfl, rfl, rfl, rfl, rfl, rfl, trivial⟩ ?_
        exact jj
    · refine am_s rfl rfl ?_
      refine am_s rfl rfl ?_
      refine s_iadd rfl ?_
      refine am_s rfl rfl ?_
      refine am_s rfl rfl ?_
      refine am_s rfl rfl ?_
      refine s_isub rfl ?_
      refine am_s rfl rfl ?_
      refine am_s rfl rfl ?_
      refine s_isub rfl ?_
      refine s_zge rfl ⟨by omega, by omega⟩ (fun c4 => ?_) (fun c4 => ?_)
      · refine s_k 0 rfl rfl ?_
        refine s_iadd rfl ?_
        refine am_s rfl rfl ?_
        have e6 : qB (s 92 r) e ((2 + 2 * (k : Int)) - 1) = e - (2 + 2 * (k : Int)) + 1 + s 92 r := by unfold qB; split <;> omega
        have e7 : qB (s 92 r) e ((2 + 2 * (k : Int))) = e - (2 + 2 * (k : Int)) + 0 := by unfold qB; split <;> omega
        refine am_lv [(7, .int (iI (qB (s 92 r) e ((2 + 2 * (k : Int)))))), (6, .int (iI (qB (s 92 r) e ((2 + 2 * (k : Int)) - 1)))), (5, .int (iI (2 + 2 * (k : Int)))), (4, .int (iI (s 92 r))), (3, .int (iI (2 * (K : Int)))), (2, .int (iI e)), (1, .int (iI r)), (0, .ref 62)] rfl rfl ⟨by rw [e7]; rfl, by rw [e6]; rfl, rfl, rfl, rfl, rfl, rfl, rfl, trivial⟩ ?_
        exact jj
      · refine am_s rfl rfl ?_
        refine am_s rfl rfl ?_
        refine s_iadd rfl ?_
        refine am_s rfl rfl ?_
        have e6 : qB (s 92 r) e ((2 + 2 * (k : Int)) - 1) = e - (2 + 2 * (k : Int)) + 1 + s 92 r := by unfold qB; split <;> omega
        have e7 : qB (s 92 r) e ((2 + 2 * (k : Int))) = e - (2 + 2 * (k : Int)) + s 92 r := by unfold qB; split <;> omega
        refine am_lv [(7, .int (iI (qB (s 92 r) e ((2 + 2 * (k : Int)))))), (6, .int (iI (qB (s 92 r) e ((2 + 2 * (k : Int)) - 1)))), (5, .int (iI (2 + 2 * (k : Int)))), (4, .int (iI (s 92 r))), (3, .int (iI (2 * (K : Int)))), (2, .int (iI e)), (1, .int (iI r)), (0, .ref 62)] rfl rfl ⟨by rw [e7]; rfl, by rw [e6]; rfl, rfl, rfl, rfl, rfl, rfl, rfl, trivial⟩ ?_
        exact jj
  · rintro - s1 ⟨hF1, hM, hV, hO⟩
    simp only
    refine am_s rfl rfl ?_
    refine am_s rfl rfl ?_
    refine s_cgt rfl ⟨by omega, by omega⟩ ⟨by omega, by omega⟩ (fun c1 => ?_) (fun c1 => absurd c1 (by omega))
    exact am_r rfl rfl ⟨rfl, s1, rfl, hF1, hM, hV, hO⟩
set_option maxHeartbeats 4000000 in
theorem t_keepWayOn {d : Nat} {E : am_Ev} {s : am_S} {r e : Int} {K : Nat} (g : am_Eg E) (hr : 0 ≤ r ∧ r < 10) (he : 0 ≤ e ∧ e < s 92 r) (hm : s 92 r ≤ 20) (hK : 2 * (K : Int) < s 92 r) (hg : ∀ i, 0 ≤ i → i < s 92 r → 0 ≤ s (94 + 1 + r.toNat) i ∧ s (94 + 1 + r.toNat) i < 30) (hi : ∀ i j, 0 ≤ i → i < s 92 r → 0 ≤ j → j < s 92 r → s (94 + 1 + r.toNat) i = s (94 + 1 + r.toNat) j → i = j) : am_wp (d + 1) 51 0 (lv_args 0 [.ref 62, .int (iI r), .int (iI e), .int (iI (2 * (K : Int)))]) [] (am_hp E s) (fun rv h => rv = none ∧ ∃ s', h = am_hp E s' ∧ am_Fr [89, 90, 91] s s' ∧ (∀ j, 1 ≤ j → j ≤ 2 * (K : Int) → s' 89 (s (94 + 1 + r.toNat) (qO (s 92 r) e (j))) = if j % 2 = 0 then 2 else 1) ∧ (∀ j, 2 ≤ j → j ≤ 2 * (K : Int) → j % 2 = 0 → s' 90 (s (94 + 1 + r.toNat) (qO (s 92 r) e (j))) = s (105 + 1 + r.toNat) (qO (s 92 r) e (j - 1)) ∧ s' 91 (s (94 + 1 + r.toNat) (qO (s 92 r) e (j))) = s (116 + 1 + r.toNat) (qO (s 92 r) e (j - 1))) ∧ ∀ y, (∀ j, 1 ≤ j → j ≤ 2 * (K : Int) → s (94 + 1 + r.toNat) (qO (s 92 r) e (j)) ≠ y) → s' 89 y = s 89 y ∧ s' 90 y = s 90 y ∧ s' 91 y = s 91 y) := by
  refine am_s rfl rfl ?_
  refine s_gr rfl g rfl rfl ?_
  refine am_s rfl rfl ?_
  refine s_ia rfl g rfl ⟨by omega, by omega⟩ (by decide) ?_
  refine am_s rfl rfl ?_
  refine s_k 2 rfl rfl ?_
  refine am_s rfl rfl ?_
  refine am_lv [(5, .int (iI (2 + 2 * ((0 : Nat) : Int)))), (4, .int (iI (s 92 r))), (3, .int (iI (2 * (K : Int)))), (2, .int (iI e)), (1, .int (iI r)), (0, .ref 62)] rfl rfl ⟨rfl, rfl, rfl, rfl, rfl, rfl, trivial⟩ ?_
  refine s_loop (X := Unit) (fun k _ s' => am_Fr [89, 90, 91] s s' ∧ (∀ j, 1 ≤ j → j ≤ 2 * (k : Int) → s' 89 (s (94 + 1 + r.toNat) (qO (s 92 r) e (j))) = if j % 2 = 0 then 2 else 1) ∧ (∀ j, 2 ≤ j → j ≤ 2 * (k : Int) → j % 2 = 0 → s' 90 (s (94 + 1 + r.toNat) (qO (s 92 r) e (j))) = s (105 + 1 + r.toNat) (qO (s 92 r) e (j - 1)) ∧ s' 91 (s (94 + 1 + r.toNat) (qO (s 92 r) e (j))) = s (116 + 1 + r.toNat) (qO (s 92 r) e (j - 1))) ∧ ∀ y, (∀ j, 1 ≤ j → j ≤ 2 * (k : Int) → s (94 + 1 + r.toNat) (qO (s 92 r) e (j)) ≠ y) → s' 89 y = s 89 y ∧ s' 90 y = s 90 y ∧ s' 91 y = s 91 y) (fun k _ => [(5, .int (iI (2 + 2 * (k : Int)))), (4, .int (iI (s 92 r))), (3, .int (iI (2 * (K : Int)))), (2, .int (iI e)), (1, .int (iI r)), (0, .ref 62)]) (hi := K) (x := ()) (Nat.zero_le K) ⟨am_Fr_r _ _, fun j j0 j1 => by omega, fun j j0 j1 => by omega, fun y _ => ⟨rfl, rfl, rfl⟩⟩ ?_ ?_
  · rintro k - s1 hk0 hk1 ⟨hF1, hM, hV, hO⟩ kk
    simp only at kk ⊢
    have eR : s1 (94 + 1 + r.toNat) = s (94 + 1 + r.toNat) := hF1 _ (fun z => by simp at z; omega)
    have eF : s1 (105 + 1 + r.toNat) = s (105 + 1 + r.toNat) := hF1 _ (fun z => by simp at z; omega)
    have eI : s1 (116 + 1 + r.toNat) = s (116 + 1 + r.toNat) := hF1 _ (fun z => by simp at z; omega)
    have o1 : 0 ≤ qO (s 92 r) e ((2 + 2 * (k : Int))) ∧ qO (s 92 r) e ((2 + 2 * (k : Int))) < s 92 r := by unfold qO; split <;> omega
    have o2 : 0 ≤ qO (s 92 r) e ((2 + 2 * (k : Int)) - 1) ∧ qO (s 92 r) e ((2 + 2 * (k : Int)) - 1) < s 92 r := by unfold qO; split <;> omega
    have g1 := hg _ o1.1 o1.2
    have g2 := hg _ o2.1 o2.2
    have dis : ∀ j l, 0 ≤ j → j < l → l ≤ 2 * (K : Int) → s (94 + 1 + r.toNat) (qO (s 92 r) e (j)) ≠ s (94 + 1 + r.toNat) (qO (s 92 r) e (l)) := fun j l j0 jl l1 z => by
      have a1 : 0 ≤ qO (s 92 r) e (j) ∧ qO (s 92 r) e (j) < s 92 r := by unfold qO; split <;> omega
      have a2 : 0 ≤ qO (s 92 r) e (l) ∧ qO (s 92 r) e (l) < s 92 r := by unfold qO; split <;> omega
      have z2 := hi _ _ a1.1 a1.2 a2.1 a2.2 z
      unfold qO at z2
      (repeat' split at z2) <;> omega
    have jj : am_wp (d + 1) 51 65 [(7, .int (iI (qO (s 92 r) e ((2 + 2 * (k : Int)))))), (6, .int (iI (qO (s 92 r) e ((2 + 2 * (k : Int)) - 1)))), (5, .int (iI (2 + 2 * (k : Int)))), (4, .int (iI (s 92 r))), (3, .int (iI (2 * (K : Int)))), (2, .int (iI e)), (1, .int (iI r)), (0, .ref 62)] [] (am_hp E s1) (fun rv h => rv = none ∧ ∃ s', h = am_hp E s' ∧ am_Fr [89, 90, 91] s s' ∧ (∀ j, 1 ≤ j → j ≤ 2 * (K : Int) → s' 89 (s (94 + 1 + r.toNat) (qO (s 92 r) e (j))) = if j % 2 = 0 then 2 else 1) ∧ (∀ j, 2 ≤ j → j ≤ 2 * (K : Int) → j % 2 = 0 → s' 90 (s (94 + 1 + r.toNat) (qO (s 92 r) e (j))) = s (105 + 1 + r.toNat) (qO (s 92 r) e (j - 1)) ∧ s' 91 (s (94 + 1 + r.toNat) (qO (s 92 r) e (j))) = s (116 + 1 + r.toNat) (qO (s 92 r) e (j - 1))) ∧ ∀ y, (∀ j, 1 ≤ j → j ≤ 2 * (K : Int) → s (94 + 1 + r.toNat) (qO (s 92 r) e (j)) ≠ y) → s' 89 y = s 89 y ∧ s' 90 y = s 90 y ∧ s' 91 y = s 91 y) := by
      refine am_s rfl rfl ?_
      refine s_gr rfl g rfl rfl ?_
      refine am_s rfl rfl ?_
      refine s_gr rfl g rfl rfl ?_
      refine am_s rfl rfl ?_
      refine s_aa rfl g rfl ⟨by omega, by omega⟩ (by decide) ?_
      refine am_s rfl rfl ?_
      refine s_ia rfl g (lo_94 (by omega) (by omega)) ⟨by omega, by omega⟩ (by decide) ?_
      rw [eR]
      refine s_k 1 rfl rfl ?_
      refine s_is rfl g rfl ⟨by omega, by omega⟩ (by decide) ?_
      generalize hs2 : am_w s1 89 (s (94 + 1 + r.toNat) (qO (s 92 r) e ((2 + 2 * (k : Int)) - 1))) 1 = s2
      have r2 : s2 (94 + 1 + r.toNat) = s (94 + 1 + r.toNat) := by rw [← hs2, am_w_row (by omega), eR]
      have f2 : s2 (105 + 1 + r.toNat) = s (105 + 1 + r.toNat) := by rw [← hs2, am_w_row (by omega), eF]
      have i2 : s2 (116 + 1 + r.toNat) = s (116 + 1 + r.toNat) := by rw [← hs2, am_w_row (by omega), eI]
      refine am_s rfl rfl ?_
      refine am_s rfl rfl ?_
      refine s_gr rfl g rfl rfl ?_
      refine am_s rfl rfl ?_
      refine s_aa rfl g rfl ⟨by omega, by omega⟩ (by decide) ?_
      refine am_s rfl rfl ?_
      refine s_ia rfl g (lo_94 (by omega) (by omega)) ⟨by omega, by omega⟩ (by decide) ?_
      rw [r2]
      refine am_s rfl rfl ?_
      refine s_gr rfl g rfl rfl ?_
      refine am_s rfl rfl ?_
      refine s_aa rfl g rfl ⟨by omega, by omega⟩ (by decide) ?_
      refine am_s rfl rfl ?_
      refine s_ia rfl g (lo_105 (by omega) (by omega)) ⟨by omega, by omega⟩ (by decide) ?_
      rw [f2]
      refine am_s rfl rfl ?_
      refine s_gr rfl g rfl rfl ?_
      refine am_s rfl rfl ?_
      refine s_aa rfl g rfl ⟨by omega, by omega⟩ (by decide) ?_
      refine am_s rfl rfl ?_
      refine s_ia rfl g (lo_116 (by omega) (by omega)) ⟨by omega, by omega⟩ (by decide) ?_
      rw [i2]
      refine s_cv [_, _, _] [] rfl g (Or.inl rfl) rfl rfl (Nat.le_of_ble_eq_true rfl) rfl rfl (t_annexIn (s := s2) g ⟨by omega, by omega⟩) ?_
      rintro rv h1 ⟨rfl, rfl⟩
      refine s_inc rfl rfl ?_
      refine am_s rfl rfl ?_
      rw [show 2 + 2 * (k : Int) + 2 = 2 + 2 * ((k + 1 : Nat) : Int) by omega]
      refine am_lv [(5, _), (4, _), (3, _), (2, _), (1, _), (0, _)] rfl rfl ⟨rfl, rfl, rfl, rfl, rfl, rfl, trivial⟩ ?_
      have w89 : ∀ y, am_w (am_w (am_w s2 89 (s (94 + 1 + r.toNat) (qO (s 92 r) e ((2 + 2 * (k : Int))))) 2) 90 (s (94 + 1 + r.toNat) (qO (s 92 r) e ((2 + 2 * (k : Int))))) (s (105 + 1 + r.toNat) (qO (s 92 r) e ((2 + 2 * (k : Int)) - 1)))) 91 (s (94 + 1 + r.toNat) (qO (s 92 r) e ((2 + 2 * (k : Int))))) (s (116 + 1 + r.toNat) (qO (s 92 r) e ((2 + 2 * (k : Int)) - 1))) 89 y = if y = s (94 + 1 + r.toNat) (qO (s 92 r) e ((2 + 2 * (k : Int)))) then 2 else if y = s (94 + 1 + r.toNat) (qO (s 92 r) e ((2 + 2 * (k : Int)) - 1)) then 1 else s1 89 y := fun y => by
        rw [am_w_row (by decide), am_w_row (by decide)]
        by_cases c : y = s (94 + 1 + r.toNat) (qO (s 92 r) e ((2 + 2 * (k : Int))))
        · rw [c, am_w_eq, if_pos rfl]
        · rw [am_w_x c, if_neg c, ← hs2]
          by_cases c2 : y = s (94 + 1 + r.toNat) (qO (s 92 r) e ((2 + 2 * (k : Int)) - 1))
          · rw [c2, am_w_eq, if_pos rfl]
          · rw [am_w_x c2, if_neg c2]
      have w90 : ∀ y, am_w (am_w (am_w s2 89 (s (94 + 1 + r.toNat) (qO (s 92 r) e ((2 + 2 * (k : Int))))) 2) 90 (s (94 + 1 + r.toNat) (qO (s 92 r) e ((2 + 2 * (k : Int))))) (s (105 + 1 + r.toNat) (qO (s 92 r) e ((2 + 2 * (k : Int)) - 1)))) 91 (s (94 + 1 + r.toNat) (qO (s 92 r) e ((2 + 2 * (k : Int))))) (s (116 + 1 + r.toNat) (qO (s 92 r) e ((2 + 2 * (k : Int)) - 1))) 90 y = if y = s (94 + 1 + r.toNat) (qO (s 92 r) e ((2 + 2 * (k : Int)))) then s (105 + 1 + r.toNat) (qO (s 92 r) e ((2 + 2 * (k : Int)) - 1)) else s1 90 y := fun y => by
        rw [am_w_row (by decide)]
        by_cases c : y = s (94 + 1 + r.toNat) (qO (s 92 r) e ((2 + 2 * (k : Int))))
        · rw [c, am_w_eq, if_pos rfl]
        · rw [am_w_x c, if_neg c, am_w_row (by decide), ← hs2, am_w_row (by decide)]
      have w91 : ∀ y, am_w (am_w (am_w s2 89 (s (94 + 1 + r.toNat) (qO (s 92 r) e ((2 + 2 * (k : Int))))) 2) 90 (s (94 + 1 + r.toNat) (qO (s 92 r) e ((2 + 2 * (k : Int))))) (s (105 + 1 + r.toNat) (qO (s 92 r) e ((2 + 2 * (k : Int)) - 1)))) 91 (s (94 + 1 + r.toNat) (qO (s 92 r) e ((2 + 2 * (k : Int))))) (s (116 + 1 + r.toNat) (qO (s 92 r) e ((2 + 2 * (k : Int)) - 1))) 91 y = if y = s (94 + 1 + r.toNat) (qO (s 92 r) e ((2 + 2 * (k : Int)))) then s (116 + 1 + r.toNat) (qO (s 92 r) e ((2 + 2 * (k : Int)) - 1)) else s1 91 y := fun y => by
        by_cases c : y = s (94 + 1 + r.toNat) (qO (s 92 r) e ((2 + 2 * (k : Int))))
        · rw [c, am_w_eq, if_pos rfl]
        · rw [am_w_x c, if_neg c, am_w_row (by decide), am_w_row (by decide), ← hs2, am_w_row (by decide)]
      have hF2 : am_Fr [89, 90, 91] s1 s2 := by rw [← hs2]; exact am_Fr_w (by decide)
      refine kk () _ ⟨am_Fr_W (am_Fr_W (am_Fr_W (am_Fr_u hF1 hF2) (by decide)) (by decide)) (by decide), fun j j0 j1 => ?_, fun j j0 j1 je => ?_, fun y hy => ?_⟩
      · rw [w89]
        by_cases c : j = (2 + 2 * (k : Int))
        · rw [c, if_pos rfl, if_pos (by omega)]
        · rw [if_neg (fun z => dis j (2 + 2 * (k : Int)) (by omega) (by omega) (by omega) z)]
          by_cases c2 : j = (2 + 2 * (k : Int)) - 1
          · rw [c2, if_pos rfl, if_neg (by omega)]
          · rw [if_neg (fun z => dis j ((2 + 2 * (k : Int)) - 1) (by omega) (by omega) (by omega) z)]; exact hM j j0 (by omega)
      · rw [w90, w91]
        by_cases c : j = (2 + 2 * (k : Int))
        · rw [c, if_pos rfl, if_pos rfl]; exact ⟨rfl, rfl⟩
        · rw [if_neg (fun z => dis j (2 + 2 * (k : Int)) (by omega) (by omega) (by omega) z), if_neg (fun z => dis j (2 + 2 * (k : Int)) (by omega) (by omega) (by omega) z)]; exact hV j j0 (by omega) je
      · rw [w89, w90, w91, if_neg (fun z => hy (2 + 2 * (k : Int)) (by omega) (by omega) z.symm), if_neg (fun z => hy ((2 + 2 * (k : Int)) - 1) (by omega) (by omega) z.symm), if_neg (fun z => hy (2 + 2 * (k : Int)) (by omega) (by omega) z.symm), if_neg (fun z => hy (2 + 2 * (k : Int)) (by omega) (by omega) z.symm)]; exact hO y (fun j j0 j1 => hy j j0 (by omega))
    refine am_s rfl rfl ?_
    refine am_s rfl rfl ?_
    refine s_cgt rfl ⟨by omega, by omega⟩ ⟨by omega, by omega⟩ (fun c1 => absurd c1 (by omega)) (fun c1 => ?_)
    refine am_s rfl rfl ?_
    refine am_s rfl rfl ?_
    refine s_iadd rfl ?_
    refine s_k 1 rfl rfl ?_
    refine s_isub rfl ?_
    refine am_s rfl rfl ?_
    refine am_s rfl rfl ?_
    refine s_iadd rfl ?_
    refine s_k 1 rfl rfl ?_
    refine s_isub rfl ?_
    refine am_s rfl rfl ?_
    refine s_cge rfl ⟨by omega, by omega⟩ ⟨by omega, by omega⟩ (fun c2 => ?_) (fun c2 => ?_)
    · refine am_s rfl rfl ?_
      refine s_isub rfl ?_
      refine am_s rfl rfl ?_
      refine am_s rfl rfl ?_
      refine am_s rfl rfl ?_
      refine s_iadd rfl ?_
      refine am_s rfl rfl ?_
      refine am_s rfl rfl ?_
      refine s_iadd rfl ?_
      refine am_s rfl rfl ?_
      refine s_cge rfl ⟨by omega, by omega⟩ ⟨by omega, by omega⟩ (fun c3 => ?_) (fun c3 => ?_)
      · refine am_s rfl rfl ?_
        refine s_isub rfl ?_
        refine am_s rfl rfl ?_
        have e6 : qO (s 92 r) e ((2 + 2 * (k : Int)) - 1) = e + (2 + 2 * (k : Int)) - 1 - s 92 r := by unfold qO; split <;> omega
        have e7 : qO (s 92 r) e ((2 + 2 * (k : Int))) = e + (2 + 2 * (k : Int)) - s 92 r := by unfold qO; split <;> omega
        refine am_lv [(7, .int (iI (qO (s 92 r) e ((2 + 2 * (k : Int)))))), (6, .int (iI (qO (s 92 r) e ((2 + 2 * (k : Int)) - 1)))), (5, .int (iI (2 + 2 * (k : Int)))), (4, .int (iI (s 92 r))), (3, .int (iI (2 * (K : Int)))), (2, .int (iI e)), (1, .int (iI r)), (0, .ref 62)] rfl rfl ⟨by rw [e7]; rfl, by rw [e6]; rfl, rfl, rfl, rfl, rfl, rfl, rfl, trivial⟩ ?_
        exact jj
      · refine s_k 0 rfl rfl ?_
        refine am_s rfl rfl ?_
        refine s_isub rfl ?_
        refine am_s rfl rfl ?_
        have e6 : qO (s 92 r) e ((2 + 2 * (k : Int)) - 1) = e + (2 + 2 * (k : Int)) - 1 - s 92 r := by unfold qO; split <;> omega
        have e7 : qO (s 92 r) e ((2 + 2 * (k : Int))) = e + (2 + 2 * (k : Int)) - 0 := by unfold qO; split <;> omega
        refine am_lv [(7, .int (iI (qO (s 92 r) e ((2 + 2 * (k : Int)))))), (6, .int (iI (qO (s 92 r) e ((2 + 2 * (k : Int)) - 1)))), (5, .int (iI (2 + 2 * (k : Int)))), (4, .int (iI (s 92 r))), (3, .int (iI (2 * (K : Int)))), (2, .int (iI e)), (1, .int (iI r)), (0, .ref 62)] rfl rfl ⟨by rw [e7]; rfl, by rw [e6]; rfl, rfl, rfl, rfl, rfl, rfl, rfl, trivial⟩ ?_
        exact jj
    · refine s_k 0 rfl rfl ?_
      refine am_s rfl rfl ?_
      refine s_isub rfl ?_
      refine am_s rfl rfl ?_
      refine am_s rfl rfl ?_
      refine am_s rfl rfl ?_
      refine s_iadd rfl ?_
      refine am_s rfl rfl ?_
      refine am_s rfl rfl ?_
      refine s_iadd rfl ?_
      refine am_s rfl rfl ?_
      refine s_cge rfl ⟨by omega, by omega⟩ ⟨by omega, by omega⟩ (fun c4 => ?_) (fun c4 => ?_)
      · refine am_s rfl rfl ?_
        refine s_isub rfl ?_
        refine am_s rfl rfl ?_
        have e6 : qO (s 92 r) e ((2 + 2 * (k : Int)) - 1) = e + (2 + 2 * (k : Int)) - 1 - 0 := by unfold qO; split <;> omega
        have e7 : qO (s 92 r) e ((2 + 2 * (k : Int))) = e + (2 + 2 * (k : Int)) - s 92 r := by unfold qO; split <;> omega
        refine am_lv [(7, .int (iI (qO (s 92 r) e ((2 + 2 * (k : Int)))))), (6, .int (iI (qO (s 92 r) e ((2 + 2 * (k : Int)) - 1)))), (5, .int (iI (2 + 2 * (k : Int)))), (4, .int (iI (s 92 r))), (3, .int (iI (2 * (K : Int)))), (2, .int (iI e)), (1, .int (iI r)), (0, .ref 62)] rfl rfl ⟨by rw [e7]; rfl, by rw [e6]; rfl, rfl, rfl, rfl, rfl, rfl, rfl, trivial⟩ ?_
        exact jj
      · refine s_k 0 rfl rfl ?_
        refine am_s rfl rfl ?_
        refine s_isub rfl ?_
        refine am_s rfl rfl ?_
        have e6 : qO (s 92 r) e ((2 + 2 * (k : Int)) - 1) = e + (2 + 2 * (k : Int)) - 1 - 0 := by unfold qO; split <;> omega
        have e7 : qO (s 92 r) e ((2 + 2 * (k : Int))) = e + (2 + 2 * (k : Int)) - 0 := by unfold qO; split <;> omega
        refine am_lv [(7, .int (iI (qO (s 92 r) e ((2 + 2 * (k : Int)))))), (6, .int (iI (qO (s 92 r) e ((2 + 2 * (k : Int)) - 1)))), (5, .int (iI (2 + 2 * (k : Int)))), (4, .int (iI (s 92 r))), (3, .int (iI (2 * (K : Int)))), (2, .int (iI e)), (1, .int (iI r)), (0, .ref 62)] rfl rfl ⟨by rw [e7]; rfl, by rw [e6]; rfl, rfl, rfl, rfl, rfl, rfl, rfl, trivial⟩ ?_
        exact jj
  · rintro - s1 ⟨hF1, hM, hV, hO⟩
    simp only
    refine am_s rfl rfl ?_
    refine am_s rfl rfl ?_
    refine s_cgt rfl ⟨by omega, by omega⟩ ⟨by omega, by omega⟩ (fun c1 => ?_) (fun c1 => absurd c1 (by omega))
    exact am_r rfl rfl ⟨rfl, s1, rfl, hF1, hM, hV, hO⟩
