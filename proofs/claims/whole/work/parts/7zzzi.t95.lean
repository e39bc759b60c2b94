/-! the other one joins pairs: all -/
abbrev yI (s s' : am_S) (N t k : Nat) : Prop := Nonempty (PProd (am_Fr [187, 188, 189, 190] s s') (PProd (∀ c d, 0 ≤ c → c < d → d < (N : Int) → s' 190 (20 * c + d) = 0 ∨ s' 190 (20 * c + d) = 1) (PProd (k ≤ t) (PProd (yus (s' 190) N = t) (∃ S, yP N (my s) (fun c d => s' 190 (20 * c + d) = 1) k S ∧ jy s' N S)))))
theorem yI.fr {s s' : am_S} {N t k : Nat} (h_ : yI s s' N t k) : am_Fr [187, 188, 189, 190] s s' := h_.elim (fun x_ => x_.1)
theorem yI.f01 {s s' : am_S} {N t k : Nat} (h_ : yI s s' N t k) : ∀ c d, 0 ≤ c → c < d → d < (N : Int) → s' 190 (20 * c + d) = 0 ∨ s' 190 (20 * c + d) = 1 := h_.elim (fun x_ => x_.2.1)
theorem yI.kt {s s' : am_S} {N t k : Nat} (h_ : yI s s' N t k) : k ≤ t := h_.elim (fun x_ => x_.2.2.1)
theorem yI.us {s s' : am_S} {N t k : Nat} (h_ : yI s s' N t k) : yus (s' 190) N = t := h_.elim (fun x_ => x_.2.2.2.1)
theorem yI.st {s s' : am_S} {N t k : Nat} (h_ : yI s s' N t k) : ∃ S, yP N (my s) (fun c d => s' 190 (20 * c + d) = 1) k S ∧ jy s' N S := h_.elim (fun x_ => x_.2.2.2.2)
theorem yP_w {N : Nat} {D : Int → Int → Int} {f : Int → Int} {k : Nat} {S : jS} {a b : Int} (hN : N ≤ 20) (hr : 0 ≤ a ∧ a < b ∧ b < (N : Int)) (h : yP N D (yu (fun c d => f (20 * c + d) = 1) a b) k S) : yP N D (fun c d => (if 20 * c + d = 20 * a + b then 1 else f (20 * c + d)) = 1) k S := by
  refine yP_u h (fun c d c0 cd d1 hu => ?_)
  have hu : (if 20 * c + d = 20 * a + b then 1 else f (20 * c + d)) = 1 := hu
  by_cases z : 20 * c + d = 20 * a + b
  · exact Or.inr ⟨by omega, by omega⟩
  · rw [if_neg z] at hu; exact Or.inl hu
/-- the pair is marked -/
theorem yI_w {s s' s2 : am_S} {N t k k2 : Nat} {S : jS} {a b : Int} (hN : N ≤ 20) (h : yI s s' N t k) (hr : 0 ≤ a ∧ a < b ∧ b < (N : Int)) (h0 : s' 190 (20 * a + b) = 0) (e : s2 190 = (am_w s' 190 (20 * a + b) 1) 190) (hF : am_Fr [187, 188, 189, 190] s s2) (hk : k2 ≤ t + 1) (hP : yP N (my s) (yu (fun c d => s' 190 (20 * c + d) = 1) a b) k2 S) (hy : jy s2 N S) : yI s s2 N (t + 1) k2 := by
  have e2 : ∀ x, s2 190 x = if x = 20 * a + b then 1 else s' 190 x := fun x => by rw [e, am_w_fun]
  refine ⟨hF, fun c d c0 cd d1 => ?_, hk, ?_, S, ?_, hy⟩
  · rw [e2]
    split
    · exact Or.inr rfl
    · exact h.f01 c d c0 cd d1
  · rw [yus_w hN hr h0 e2, h.us]; omega
  · have := yP_w hN hr hP
    refine yP_u this (fun c d c0 cd d1 hu => ?_)
    rw [← e2]; exact hu
set_option maxHeartbeats 8000000 in
theorem t_byPairs {d : Nat} {E : am_Ev} {s : am_S} {N : Nat} {PP : Option Value → am_H → Prop} (g : am_Eg E) (hm : my_ok s) (en : s 168 1 = (N : Int)) (hPP : ∀ s', am_Fr [183, 187, 188, 189, 190] s s' → jp N (my s) (s' 183) → PP none (am_hp E s')) : am_wp (d + 1) 202 0 (lv_args 0 [.ref 168]) [] (am_hp E s) PP := by
  have n1 := hm.1
  have n2 := hm.2.1
  rw [en] at n1 n2
  have tb : 0 ≤ (N : Int) * ((N : Int) - 1) ∧ (N : Int) * ((N : Int) - 1) ≤ 380 := ytri_b ⟨N, by omega⟩
  obtain ⟨T, eT⟩ : ∃ T : Nat, (T : Int) = (N : Int) * ((N : Int) - 1) / 2 := ⟨((N : Int) * ((N : Int) - 1) / 2).toNat, by omega⟩
  refine s_k 0 rfl rfl ?_
  refine am_s rfl rfl ?_
  refine am_lv [(1, .int (iI (((0 : Nat) : Int) : Int))), (0, .ref 168)] rfl rfl ⟨rfl, rfl, trivial⟩ ?_
  refine s_loop (X := Unit) (fun k _ s' => am_Fr [187, 188, 189, 190] s s' ∧ ∀ c, 0 ≤ c → c < (k : Int) → s' 187 c = c ∧ s' 189 c = 0) (fun k _ => [(1, .int (iI (k : Int))), (0, .ref 168)]) (hi := N) (x := ()) (by omega) ⟨am_Fr_r _ _, fun c c0 c1 => by omega⟩ ?_ ?_
  · rintro k - s1 hk0 hk1 ⟨hF, hQ⟩ kk
    simp only at kk ⊢
    have eN : s1 168 1 = (N : Int) := by rw [hF 168 (by decide)]; exact en
    refine am_s rfl rfl ?_
    refine am_s rfl rfl ?_
    refine s_gi (x := 1) rfl g rfl rfl rfl ?_
    refine s_cge rfl ⟨by omega, by omega⟩ ⟨by omega, by omega⟩ (fun c1 => absurd c1 (by omega)) (fun c1 => ?_)
    refine am_s rfl rfl ?_
    refine s_gr rfl g rfl rfl ?_
    refine am_s rfl rfl ?_
    refine am_s rfl rfl ?_
    refine s_is rfl g rfl ⟨by omega, by omega⟩ (by decide) ?_
    refine am_s rfl rfl ?_
    refine s_gr rfl g rfl rfl ?_
    refine am_s rfl rfl ?_
    refine s_k 0 rfl rfl ?_
    refine s_is rfl g rfl ⟨by omega, by omega⟩ (by decide) ?_
    refine s_inc rfl rfl ?_
    refine am_s rfl rfl ?_
    refine am_lv [(1, _), (0, _)] rfl rfl ⟨rfl, rfl, trivial⟩ ?_
    refine kk () _ ⟨am_Fr_W (am_Fr_W hF (by decide)) (by decide), fun c c0 c1 => ?_⟩
    by_cases e : c = (k : Int)
    · subst e
      exact ⟨by rw [am_w_row (by decide), am_w_eq], by rw [am_w_eq]⟩
    · have q := hQ c c0 (by omega)
      exact ⟨by rw [am_w_row (by decide), am_w_x e]; exact q.1, by rw [am_w_x e, am_w_row (by decide)]; exact q.2⟩
  · rintro - s1 ⟨hF, hQ⟩
    simp only
    have eN : s1 168 1 = (N : Int) := by rw [hF 168 (by decide)]; exact en
    refine am_s rfl rfl ?_
    refine am_s rfl rfl ?_
    refine s_gi (x := 1) rfl g rfl rfl rfl ?_
    refine s_cge rfl ⟨by omega, by omega⟩ ⟨by omega, by omega⟩ (fun c1 => ?_) (fun c1 => absurd c1 (by omega))
    refine s_k 0 rfl rfl ?_
    refine am_s rfl rfl ?_
    refine am_lv [(1, .int (iI (((0 : Nat) : Int) : Int))), (0, .ref 168)] rfl rfl ⟨rfl, rfl, trivial⟩ ?_
    refine s_loop (X := Unit) (fun k _ s' => am_Fr [187, 188, 189, 190] s s' ∧ (∀ c, 0 ≤ c → c < (N : Int) → s' 187 c = c ∧ s' 189 c = 0) ∧ ∀ x, 0 ≤ x → x < (k : Int) → s' 190 x = 0) (fun k _ => [(1, .int (iI (k : Int))), (0, .ref 168)]) (hi := 400) (x := ()) (by omega) ⟨hF, hQ, fun x x0 x1 => by omega⟩ ?_ ?_
    · rintro k - s2 hk0 hk1 ⟨hF2, hQ2, hZ2⟩ kk
      simp only at kk ⊢
      refine am_s rfl rfl ?_
      refine s_k 400 rfl rfl ?_
      refine s_cge rfl ⟨by omega, by omega⟩ ⟨by omega, by omega⟩ (fun c1 => absurd c1 (by omega)) (fun c1 => ?_)
      refine am_s rfl rfl ?_
      refine s_gr rfl g rfl rfl ?_
      refine am_s rfl rfl ?_
      refine s_k 0 rfl rfl ?_
      refine s_bs rfl g rfl ⟨by omega, by omega⟩ (by decide) (by omega) ?_
      refine s_inc rfl rfl ?_
      refine am_s rfl rfl ?_
      refine am_lv [(1, _), (0, _)] rfl rfl ⟨rfl, rfl, trivial⟩ ?_
      refine kk () _ ⟨am_Fr_W hF2 (by decide), fun c c0 c1 => by rw [am_w_row (by decide), am_w_row (by decide)]; exact hQ2 c c0 c1, fun x x0 x1 => ?_⟩
      by_cases e : x = (k : Int)
      · rw [e, am_w_eq]
      · rw [am_w_x e]; exact hZ2 x x0 (by omega)
    · rintro - s2 ⟨hF2, hQ2, hZ2⟩
      simp only
      refine am_s rfl rfl ?_
      refine s_k 400 rfl rfl ?_
      refine s_cge rfl ⟨by omega, by omega⟩ ⟨by omega, by omega⟩ (fun c1 => ?_) (fun c1 => absurd c1 (by omega))
      refine s_k 0 rfl rfl ?_
      refine am_s rfl rfl ?_
      refine s_k 0 rfl rfl ?_
      refine am_s rfl rfl ?_
      have hI0 : yI s s2 N 0 0 := by
        refine ⟨hF2, fun c d c0 cd d1 => Or.inl (hZ2 _ (by omega) (by omega)), Nat.le_refl 0, ?_, jS0, Or.inl ⟨rfl, by omega, fun c d c0 cd d1 hu => ?_, fun e n3 => by omega⟩, fun c c0 c1 => ?_⟩
        · have z : yus (s2 190) N = mt_s (fun _ => 0) N := mt_s_congr (fun c hc => by
            rw [mt_s_congr (g := fun _ => 0) (fun d hd => ?_), mt_s_zero]
            show (if c < d then s2 190 (20 * (c : Int) + d) else 0) = 0
            split
            · exact hZ2 _ (by omega) (by omega)
            · rfl)
          rw [z, mt_s_zero]; rfl
        · have hu : s2 190 (20 * c + d) = 1 := hu
          rw [hZ2 _ (by omega) (by omega)] at hu
          omega
        · exact ⟨(hQ2 c c0 c1).1, (hQ2 c c0 c1).2, fun z => absurd rfl z, fun z => absurd rfl z⟩
      refine am_lv [(2, .int (iI (((0 : Nat) : Int) : Int))), (1, .int (iI (((0 : Nat) : Int) : Int))), (0, .ref 168)] rfl rfl ⟨rfl, rfl, rfl, trivial⟩ ?_
      refine s_loop (X := Nat) (fun t k s' => yI s s' N t k) (fun t k => [(2, .int (iI (t : Int))), (1, .int (iI (k : Int))), (0, .ref 168)]) (hi := T) (x := 0) (by omega) hI0 ?_ ?_
      · rintro t k s3 ht0 ht1 hI kk
        simp only at kk ⊢
        have eN : s3 168 1 = (N : Int) := by rw [hI.fr 168 (by decide)]; exact en
        refine am_s rfl rfl ?_
        refine am_s rfl rfl ?_
        refine s_gi (x := 1) rfl g rfl rfl rfl ?_
        refine am_s rfl rfl ?_
        refine s_gi (x := 1) rfl g rfl rfl rfl ?_
        refine s_k 1 rfl rfl ?_
        refine s_isub rfl ?_
        rw [eN]
        refine s_imul rfl ?_
        refine s_k 2 rfl rfl ?_
        refine s_idiv rfl (by omega) ⟨by omega, by omega⟩ ?_
        rw [← eT]
        refine s_cge rfl ⟨by omega, by omega⟩ ⟨by omega, by omega⟩ (fun c1 => absurd c1 (by omega)) (fun c1 => ?_)
        have em : s3 169 = s 169 := hI.fr 169 (by decide)
        have ey : my s3 = my s := by funext p q; unfold my; rw [em]
        have hm3 : my_ok s3 := my_c (hI.fr 168 (by decide) ▸ rfl) em hm
        obtain ⟨S, hP, hy⟩ := hI.st
        have yr := yP_r hP
        have kt := hI.kt
        refine am_lv [(2, .int (iI (t : Int))), (1, .int (iI (k : Int))), (0, .ref 168)] rfl rfl ⟨rfl, rfl, rfl, trivial⟩ ?_
        refine t_bpPick (d := d) g hm3 eN hI.f01 (yus_ex hI.f01 (by rw [hI.us, ytri_n (by omega)]; omega)) (fun a b hab h0 hl => ?_)
        rw [ey] at hl
        have ra := yr.2 a (by omega) (by omega)
        have rb := yr.2 b (by omega) (by omega)
        have ya := hy a (by omega) (by omega)
        have yb := hy b (by omega) (by omega)
        have ga := jdg_ot ra.2
        have gb := jdg_ot rb.2
        have ga0 := jdg_r S a
        have gb0 := jdg_r S b
        have hl2 : ∀ c d, 0 ≤ c → c < d → d < (N : Int) → ¬ (s3 190 (20 * c + d) = 1) → jlt (my s) a b c d := fun c d c0 cd d1 hu => hl c d c0 cd d1 (by have := hI.f01 c d c0 cd d1; omega)
        have hy2 : jy (am_w s3 190 (20 * a + b) 1) N S := fun c c0 c1 => by
          rw [am_w_row (by decide), am_w_row (by decide), am_w_row (by decide)]; exact hy c c0 c1
        have hF4 : am_Fr [187, 188, 189, 190] s (am_w s3 190 (20 * a + b) 1) := am_Fr_W hI.fr (by decide)
        have e168 : am_w s3 190 (20 * a + b) 1 168 1 = (N : Int) := by rw [am_w_row (by decide)]; exact eN
        have jT : S.ot a = -1 → S.ot b = -1 → yP N (my s) (yu (fun c d => s3 190 (20 * c + d) = 1) a b) (k + 1) (jn S a b) → am_wp (d + 1) 202 235 [(4, .int (iI b)), (3, .int (iI a)), (2, .int (iI (t : Int))), (1, .int (iI (k : Int))), (0, .ref 168)] [] (am_hp E (am_w s3 190 (20 * a + b) 1)) PP := fun oa ob hP2 => by
          have hh : jh S a b := ⟨by omega, by omega, by omega, oa, ob⟩
          refine t_bpTake (d := d) (S := S) g (by omega) e168 hy2 hh (by omega) (by omega) (fun c c0 c1 => (yr.2 c c0 c1).1) (fun c c0 c1 => (yr.2 c c0 c1).2) (fun s5 hF5 hy5 => ?_)
          refine kk (k + 1) s5 (yI_w (by omega) hI hab h0 (hF5 190 (by decide)) (am_Fr_u hF4 (am_Fr_m hF5 (fun b hb => by simp at hb ⊢; omega))) (by omega) hP2 hy5)
        have jK : (S.ot a ≠ -1 ∨ S.ot b ≠ -1 ∨ (S.pc a = S.pc b ∧ k + 1 ≠ N)) → am_wp (d + 1) 202 56 [(2, .int (iI (((t + 1 : Nat) : Int) : Int))), (1, .int (iI (k : Int))), (0, .ref 168)] [] (am_hp E (am_w s3 190 (20 * a + b) 1)) PP := fun hs => kk k _ (yI_w (by omega) hI hab h0 rfl hF4 (by omega) (yP_skip hP hs) hy2)
        refine am_s rfl rfl ?_
        refine s_gr rfl g rfl rfl ?_
        refine s_k 20 rfl rfl ?_
        refine am_s rfl rfl ?_
        refine s_imul rfl ?_
        refine am_s rfl rfl ?_
        refine s_iadd rfl ?_
        refine s_k 1 rfl rfl ?_
        refine s_bs rfl g rfl ⟨by omega, by omega⟩ (by decide) (by omega) ?_
        refine am_s rfl rfl ?_
        refine s_gr rfl g rfl rfl ?_
        refine am_s rfl rfl ?_
        refine s_ia rfl g rfl ⟨by omega, by omega⟩ (by decide) ?_
        simp only [am_w_a (show (187 : Nat) ≠ 190 by decide)]
        rw [ya.1]
        refine am_s rfl rfl ?_
        refine s_gr rfl g rfl rfl ?_
        refine am_s rfl rfl ?_
        refine s_ia rfl g rfl ⟨by omega, by omega⟩ (by decide) ?_
        simp only [am_w_a (show (187 : Nat) ≠ 190 by decide)]
        rw [yb.1]
        refine s_cne rfl ⟨by omega, by omega⟩ ⟨by omega, by omega⟩ (fun c1 => ?_) (fun c1 => ?_)
        · refine s_k 0 rfl rfl ?_
          refine am_s rfl rfl ?_
          refine am_s rfl rfl ?_
          refine s_gr rfl g rfl rfl ?_
          refine am_s rfl rfl ?_
          refine s_ia rfl g rfl ⟨by omega, by omega⟩ (by decide) ?_
          simp only [am_w_a (show (189 : Nat) ≠ 190 by decide)]
          rw [ya.2.1]
          refine s_k 2 rfl rfl ?_
          refine s_cge rfl ⟨by omega, by omega⟩ ⟨by omega, by omega⟩ (fun c1 => ?_) (fun c1 => ?_)
          · refine s_inc rfl rfl ?_
            refine am_s rfl rfl ?_
            refine am_lv [(2, .int (iI (((t + 1 : Nat) : Int) : Int))), (1, .int (iI (k : Int))), (0, .ref 168)] rfl rfl ⟨rfl, rfl, rfl, trivial⟩ ?_
            exact jK (Or.inl (fun z => by have := ga.mp z; omega))
          · refine am_s rfl rfl ?_
            refine s_gr rfl g rfl rfl ?_
            refine am_s rfl rfl ?_
            refine s_ia rfl g rfl ⟨by omega, by omega⟩ (by decide) ?_
            simp only [am_w_a (show (189 : Nat) ≠ 190 by decide)]
            rw [yb.2.1]
            refine s_k 2 rfl rfl ?_
            refine s_cge rfl ⟨by omega, by omega⟩ ⟨by omega, by omega⟩ (fun c2 => ?_) (fun c2 => ?_)
            · refine s_inc rfl rfl ?_
              refine am_s rfl rfl ?_
              refine am_lv [(2, .int (iI (((t + 1 : Nat) : Int) : Int))), (1, .int (iI (k : Int))), (0, .ref 168)] rfl rfl ⟨rfl, rfl, rfl, trivial⟩ ?_
              exact jK (Or.inr (Or.inl (fun z => by have := gb.mp z; omega)))
            · refine am_s rfl rfl ?_
              refine s_zeq rfl ⟨by decide, by decide⟩ (fun c3 => ?_) (fun c3 => absurd c3 (by omega))
              refine am_lv [(4, .int (iI b)), (3, .int (iI a)), (2, .int (iI (t : Int))), (1, .int (iI (k : Int))), (0, .ref 168)] rfl rfl ⟨rfl, rfl, rfl, rfl, rfl, trivial⟩ ?_
              exact jT (ga.mpr (by omega)) (gb.mpr (by omega)) (yP_take hP hab hl2 ⟨ga.mpr (by omega), gb.mpr (by omega), by omega⟩)
        · refine s_k 1 rfl rfl ?_
          refine am_s rfl rfl ?_
          refine am_s rfl rfl ?_
          refine am_s rfl rfl ?_
          refine s_gr rfl g rfl rfl ?_
          refine am_s rfl rfl ?_
          refine s_ia rfl g rfl ⟨by omega, by omega⟩ (by decide) ?_
          simp only [am_w_a (show (189 : Nat) ≠ 190 by decide)]
          rw [ya.2.1]
          refine s_k 2 rfl rfl ?_
          refine s_cge rfl ⟨by omega, by omega⟩ ⟨by omega, by omega⟩ (fun c1 => ?_) (fun c1 => ?_)
          · refine s_inc rfl rfl ?_
            refine am_s rfl rfl ?_
            refine am_lv [(2, .int (iI (((t + 1 : Nat) : Int) : Int))), (1, .int (iI (k : Int))), (0, .ref 168)] rfl rfl ⟨rfl, rfl, rfl, trivial⟩ ?_
            exact jK (Or.inl (fun z => by have := ga.mp z; omega))
          · refine am_s rfl rfl ?_
            refine s_gr rfl g rfl rfl ?_
            refine am_s rfl rfl ?_
            refine s_ia rfl g rfl ⟨by omega, by omega⟩ (by decide) ?_
            simp only [am_w_a (show (189 : Nat) ≠ 190 by decide)]
            rw [yb.2.1]
            refine s_k 2 rfl rfl ?_
            refine s_cge rfl ⟨by omega, by omega⟩ ⟨by omega, by omega⟩ (fun c2 => ?_) (fun c2 => ?_)
            · refine s_inc rfl rfl ?_
              refine am_s rfl rfl ?_
              refine am_lv [(2, .int (iI (((t + 1 : Nat) : Int) : Int))), (1, .int (iI (k : Int))), (0, .ref 168)] rfl rfl ⟨rfl, rfl, rfl, trivial⟩ ?_
              exact jK (Or.inr (Or.inl (fun z => by have := gb.mp z; omega)))
            · refine am_s rfl rfl ?_
              refine s_zeq rfl ⟨by decide, by decide⟩ (fun c3 => absurd c3 (by omega)) (fun c3 => ?_)
              refine am_s rfl rfl ?_
              refine am_s rfl rfl ?_
              refine s_gi (x := 1) rfl g rfl rfl rfl ?_
              rw [e168]
              refine s_k 1 rfl rfl ?_
              refine s_isub rfl ?_
              refine s_cne rfl ⟨by omega, by omega⟩ ⟨by omega, by omega⟩ (fun c4 => ?_) (fun c4 => ?_)
              · refine s_inc rfl rfl ?_
                refine am_s rfl rfl ?_
                refine am_lv [(2, .int (iI (((t + 1 : Nat) : Int) : Int))), (1, .int (iI (k : Int))), (0, .ref 168)] rfl rfl ⟨rfl, rfl, rfl, trivial⟩ ?_
                exact jK (Or.inr (Or.inr ⟨by omega, by omega⟩))
              · have n3 : 3 ≤ N := by
                  by_cases z : N = 2
                  · subst z
                    have : (T : Int) = 1 := by rw [eT]; rfl
                    omega
                  · omega
                refine am_lv [(4, .int (iI b)), (3, .int (iI a)), (2, .int (iI (t : Int))), (1, .int (iI (k : Int))), (0, .ref 168)] rfl rfl ⟨rfl, rfl, rfl, rfl, rfl, trivial⟩ ?_
                exact jT (ga.mpr (by omega)) (gb.mpr (by omega)) (yP_close hP hab (ga.mpr (by omega)) (gb.mpr (by omega)) (by omega) (by omega) n3)
      · rintro k s3 hI
        simp only
        have eN : s3 168 1 = (N : Int) := by rw [hI.fr 168 (by decide)]; exact en
        refine am_s rfl rfl ?_
        refine am_s rfl rfl ?_
        refine s_gi (x := 1) rfl g rfl rfl rfl ?_
        refine am_s rfl rfl ?_
        refine s_gi (x := 1) rfl g rfl rfl rfl ?_
        refine s_k 1 rfl rfl ?_
        refine s_isub rfl ?_
        rw [eN]
        refine s_imul rfl ?_
        refine s_k 2 rfl rfl ?_
        refine s_idiv rfl (by omega) ⟨by omega, by omega⟩ ?_
        rw [← eT]
        refine s_cge rfl ⟨by omega, by omega⟩ ⟨by omega, by omega⟩ (fun c1 => ?_) (fun c1 => absurd c1 (by omega))
        obtain ⟨S, hP, hy⟩ := hI.st
        have all := yus_all hI.f01 (by rw [hI.us, ytri_n (by omega)]; omega)
        obtain ⟨z3, z2⟩ := yP_end hP all
        refine am_lv [(0, .ref 168)] rfl rfl ⟨rfl, trivial⟩ ?_
        refine t_bpFollow (d := d) (S := S) g (by omega) eN hy (fun n2 c c0 c1 => ?_) (fun s5 hF5 hfo hR5 => hPP s5 (fun q hq => ?_) ?_)
        · by_cases e : N = 2
          · subst e
            rw [jk_2 (z2 rfl)]
            by_cases z : c = 0
            · rw [z]; decide
            · rw [show c = 1 by omega]; decide
          · have := (jE_R (by omega) (z3 (by omega))).r c c0 c1
            omega
        · rw [hF5 q (fun z => hq (by simp at z ⊢; omega)), hI.fr q (fun z => hq (by simp at z ⊢; omega))]
        · by_cases e1 : N = 1
          · exact Or.inl ⟨e1, hfo.1⟩
          · by_cases e : N = 2
            · subst e
              refine Or.inr (Or.inl ⟨rfl, hfo.1, ?_⟩)
              rw [hfo.2.1 (by omega), jk_2 (z2 rfl)]; decide
            · have jr2 := jE_R (by omega) (z3 (by omega))
              have o2 : ∀ c, 0 ≤ c → c < (N : Int) → (jS2 S).ot c = S.ot c := fun c c0 c1 => if_neg (by have := jr2.r c c0 c1; omega)
              refine Or.inr (Or.inr ⟨by omega, S, z3 (by omega), hfo.1, fun n1 => ?_, fun i i0 i1 => ?_⟩)
              · rw [hfo.2.1 n1, o2 0 (by omega) (by omega)]; rfl
              · have r1 := hR5 (i - 1) (by omega) (by omega)
                rw [hfo.2.2 i i0 i1, o2 _ r1.1 r1.2]; rfl
