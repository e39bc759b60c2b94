/-! the class takes all rows -/
def rwFr (s s' : am_S) : Prop := (∀ a, a ≠ 2 → ¬ (5 ≤ a ∧ a ≤ 24) → s' a = s a) ∧ ∀ y, y ≠ 2 → y ≠ 3 → y ≠ 4 → s' 2 y = s 2 y
theorem rwFr_r (s : am_S) : rwFr s s := ⟨fun _ _ _ => rfl, fun _ _ _ _ => rfl⟩
theorem rwFr_x {s s1 s2 : am_S} (h : rwFr s s1) (h2 : txFr s1 s2) : rwFr s s2 := ⟨fun a a1 a2 => (h2.1 a a1).trans (h.1 a a1 a2), fun y a b c => (h2.2 y a b c).trans (h.2 y a b c)⟩
theorem rwFr_w {s s1 : am_S} {k : Nat} {x v : Int} (h : rwFr s s1) (hk : k < 20) : rwFr s (am_w s1 (4 + 1 + k) x v) := ⟨fun a a1 a2 => by rw [am_w_row (by omega)]; exact h.1 a a1 a2, fun y a b c => by rw [am_w_row (by omega)]; exact h.2 y a b c⟩
theorem sg_n4 {E : am_Ev} (gd : am_Ed E) : ¬ (5 ≤ E.2.2.1.1 ∧ E.2.2.1.1 ≤ 24) := fun z => by
  have := lo_4 (x := ((E.2.2.1.1 - 5 : Nat) : Int)) (by omega) (by omega)
  rw [show 4 + 1 + (((E.2.2.1.1 - 5 : Nat) : Int)).toNat = E.2.2.1.1 by omega, gd.s0] at this
  cases this
theorem txH_rw {E : am_Ev} {s s1 : am_S} {T : Int → Int} {z : Int} (gd : am_Ed E) (h : txH E s T z) (f : rwFr s s1) (o : txO z (xt s1)) : txH E s1 T z := ⟨(f.2 1 (by decide) (by decide) (by decide)).trans h.ez, h.zl, fun y a b => by rw [f.1 _ (lo_ne gd.s0 (show am_lo 2 = _ from rfl)) (sg_n4 gd)]; exact h.et y a b, h.tr, o⟩
theorem xt_w {s : am_S} {k : Nat} {x v : Int} : xt (am_w s (4 + 1 + k) x v) = xt s := by
  unfold xt
  rw [am_w_row (by omega)]
theorem t_rows25 {d : Nat} {E : am_Ev} {s : am_S} {PP : Option Value → am_H → Prop} (g : am_Eg E) (gd : am_Ed E) {T : Int → Int} {z : Int} (hx : txH E s T z) (hf : tFk (s 2 5)) (hn : 1 ≤ s 2 6 ∧ s 2 6 ≤ 20) (hPP : ∀ s1, rwFr s s1 → xt s1 = tRs T z (tHi (s 2 5)) (tW (s 2 5) (s 2 6)) (tR (s 2 5) (s 2 6)) (xt s) → (txG (xt s1) → (∀ r i : Nat, r < tR (s 2 5) (s 2 6) → i < tW (s 2 5) (s 2 6) r → s1 (4 + 1 + r) i = tVl T z (tHi (s 2 5)) (tW (s 2 5) (s 2 6)) r i (xt s))) → PP none (am_hp E s1)) : am_wp (d + 3) 93 25 [(2, .int (iI (((0 : Nat) : Int) : Int))), (1, .int (iI ((tR (s 2 5) (s 2 6) : Nat) : Int))), (0, .ref 2)] [] (am_hp E s) PP := by
  have z0 := hx.zl
  have o1 := hx.o.1
  have o2 := hx.o.2.1
  have o3 := hx.o.2.2
  unfold xt at o1 o2 o3
  simp only [txS.p, txS.f, txS.u] at o1 o2 o3
  have ez := hx.ez
  have sg2 := gd.s2
  have rl := tR_le (fm := s 2 5) hn
  have hf2 := tFk_r hf
  refine am_lv [(2, .int (iI (((0 : Nat) : Int) : Int))), (1, .int (iI ((tR (s 2 5) (s 2 6) : Nat) : Int))), (0, .ref 2)] rfl rfl ⟨rfl, rfl, rfl, trivial⟩ ?_
  refine s_loop (X := Unit) (fun k _ s1 => rwFr s s1 ∧ xt s1 = tRs T z (tHi (s 2 5)) (tW (s 2 5) (s 2 6)) k (xt s) ∧ (txG (xt s1) → (∀ r i : Nat, r < k → i < tW (s 2 5) (s 2 6) r → s1 (4 + 1 + r) i = tVl T z (tHi (s 2 5)) (tW (s 2 5) (s 2 6)) r i (xt s)))) (fun k _ => [(2, .int (iI (k : Int))), (1, .int (iI ((tR (s 2 5) (s 2 6) : Nat) : Int))), (0, .ref 2)]) (lo := 0) (hi := tR (s 2 5) (s 2 6)) (x := ()) (Nat.zero_le _) ⟨rwFr_r s, rfl, fun _ r i hr => absurd hr (Nat.not_lt_zero r)⟩ ?_ ?_
  · rintro k - s1 hk0 hk1 ⟨hF1, e1, hV1⟩ kk
    try simp only at kk ⊢
    have wl := tW_le (fm := s 2 5) (r := k) hn
    have ox1 : txO z (xt s1) := by rw [e1]; exact tRs_o hx.o k
    have of1 : -1 ≤ s1 2 3 ∧ s1 2 3 ≤ z := ox1.2.1
    have j102 : ∀ s2, rwFr s s2 → xt s2 = tRw T z (tHi (s 2 5)) (tW (s 2 5) (s 2 6) k) (tRs T z (tHi (s 2 5)) (tW (s 2 5) (s 2 6)) k (xt s)) → (txG (xt s2) → (∀ r i : Nat, r < k → i < tW (s 2 5) (s 2 6) r → s2 (4 + 1 + r) i = tVl T z (tHi (s 2 5)) (tW (s 2 5) (s 2 6)) r i (xt s)) ∧ (∀ i : Nat, i < tW (s 2 5) (s 2 6) k → s2 (4 + 1 + k) i = tVl T z (tHi (s 2 5)) (tW (s 2 5) (s 2 6)) k i (xt s))) → am_wp (d + 3) 93 102 [(2, .int (iI ((k : Int) : Int))), (1, .int (iI ((tR (s 2 5) (s 2 6) : Nat) : Int))), (0, .ref 2)] [] (am_hp E s2) PP := by
      intro s2 hF2 e2 hV2
      have hx2 := txH_rw gd hx hF2 (by rw [e2]; exact tRw_o (tRs_o hx.o k) _)
      refine am_s rfl rfl ?_
      refine s_k 59 rfl rfl ?_
      refine s_cv [_] [] rfl g (Or.inl rfl) rfl rfl (Nat.le_of_ble_eq_true rfl) rfl rfl (t_takeSign (s := s2) (PP := fun rv h => rv = none ∧ ∃ s9, h = am_hp E s9 ∧ txFr s2 s9 ∧ xt s9 = tTk T z 59 (xt s2)) g gd hx2 (by decide) (fun s9 a b => ⟨rfl, s9, rfl, a, b⟩)) ?_
      rintro rv h1 ⟨rfl, s3, rfl, hF3, e3⟩
      refine s_inc rfl rfl ?_
      refine am_s rfl rfl ?_
      refine am_lv [(2, _), (1, _), (0, _)] rfl rfl ⟨rfl, rfl, rfl, trivial⟩ ?_
      have ek2 : (k : Int) + 1 = ((k + 1 : Nat) : Int) := by omega
      rw [ek2]
      refine kk () s3 ⟨rwFr_x hF2 hF3, by rw [e3, e2]; rfl, fun y r i hr hi => ?_⟩
      have y2 : txG (xt s2) := tTk_g (by rw [← e3]; exact y)
      rw [hF3.1 _ (by omega)]
      by_cases e : r = k
      · subst e; exact (hV2 y2).2 i hi
      · exact (hV2 y2).1 r i (by omega) hi
    refine am_s rfl rfl ?_
    refine am_s rfl rfl ?_
    refine s_cge rfl ⟨by omega, by omega⟩ ⟨by omega, by omega⟩ (fun c1 => absurd c1 (by omega)) (fun c1 => ?_)
    refine am_s rfl rfl ?_
    refine s_gi (x := 3) rfl g rfl rfl rfl ?_
    refine s_k (-1) rfl rfl ?_
    refine s_cne rfl ⟨by omega, by omega⟩ ⟨by omega, by omega⟩ (fun c2 => ?_) (fun c2 => ?_)
    · have st : 0 ≤ (tRs T z (tHi (s 2 5)) (tW (s 2 5) (s 2 6)) k (xt s)).f := by rw [← e1]; show 0 ≤ s1 2 3; omega
      have st2 := tRs_s st (tR (s 2 5) (s 2 6) - k)
      rw [show k + (tR (s 2 5) (s 2 6) - k) = tR (s 2 5) (s 2 6) by omega] at st2
      exact am_r rfl rfl (hPP s1 hF1 (by rw [e1, st2]) (fun y => absurd y.1 (by show ¬ s1 2 3 < 0; omega)))
    · refine s_k 0 rfl rfl ?_
      refine am_s rfl rfl ?_
      refine am_lv [(3, .int (iI (((0 : Nat) : Int) : Int))), (2, .int (iI (k : Int))), (1, .int (iI ((tR (s 2 5) (s 2 6) : Nat) : Int))), (0, .ref 2)] rfl rfl ⟨rfl, rfl, rfl, rfl, trivial⟩ ?_
      refine s_loop (X := Unit) (fun j _ s2 => rwFr s s2 ∧ xt s2 = tRw T z (tHi (s 2 5)) j (tRs T z (tHi (s 2 5)) (tW (s 2 5) (s 2 6)) k (xt s)) ∧ (txG (xt s2) → (∀ r i : Nat, r < k → i < tW (s 2 5) (s 2 6) r → s2 (4 + 1 + r) i = tVl T z (tHi (s 2 5)) (tW (s 2 5) (s 2 6)) r i (xt s)) ∧ (∀ i : Nat, i < j → s2 (4 + 1 + k) i = tVl T z (tHi (s 2 5)) (tW (s 2 5) (s 2 6)) k i (xt s)))) (fun j _ => [(3, .int (iI (j : Int))), (2, .int (iI (k : Int))), (1, .int (iI ((tR (s 2 5) (s 2 6) : Nat) : Int))), (0, .ref 2)]) (lo := 0) (hi := tW (s 2 5) (s 2 6) k) (x := ()) (Nat.zero_le _) ⟨hF1, e1, fun y => ⟨hV1 y, fun i hi => absurd hi (Nat.not_lt_zero i)⟩⟩ ?_ ?_
      · rintro j - s2 hj0 hj1 ⟨hF2, e2, hV2⟩ kk2
        try simp only at kk2 ⊢
        have ox2 : txO z (xt s2) := by rw [e2]; exact tRw_o (tRs_o hx.o k) _
        have hx2 := txH_rw gd hx hF2 ox2
        have e5 : s2 2 5 = s 2 5 := hF2.2 5 (by decide) (by decide) (by decide)
        have e6 : s2 2 6 = s 2 6 := hF2.2 6 (by decide) (by decide) (by decide)
        have of2 : -1 ≤ s2 2 3 ∧ s2 2 3 ≤ z := ox2.2.1
        refine am_s rfl rfl ?_
        refine am_s rfl rfl ?_
        refine am_s rfl rfl ?_
        refine s_cv [_] [_] rfl g (Or.inl rfl) rfl rfl (Nat.le_of_ble_eq_true rfl) rfl rfl (t_widthOf (s := s2) (r := k) (PP := fun rv h => rv = some (.int (iI ((tW (s 2 5) (s 2 6) k : Nat) : Int))) ∧ h = am_hp E s2) g (by rw [e5]; exact hf) (by rw [e6]; exact hn) (by rw [e5, e6]; exact hk1) (by rw [e5, e6]; exact ⟨rfl, rfl⟩)) ?_
        rintro rv h1 ⟨rfl, rfl⟩
        refine s_cge rfl ⟨by omega, by omega⟩ ⟨by omega, by omega⟩ (fun c1 => absurd c1 (by omega)) (fun c1 => ?_)
        refine am_s rfl rfl ?_
        refine s_gi (x := 3) rfl g rfl rfl rfl ?_
        refine s_k (-1) rfl rfl ?_
        refine s_cne rfl ⟨by omega, by omega⟩ ⟨by omega, by omega⟩ (fun c2 => ?_) (fun c2 => ?_)
        · refine am_lv [(2, _), (1, _), (0, _)] rfl rfl ⟨rfl, rfl, rfl, trivial⟩ ?_
          have st : 0 ≤ (tRw T z (tHi (s 2 5)) j (tRs T z (tHi (s 2 5)) (tW (s 2 5) (s 2 6)) k (xt s))).f := by rw [← e2]; show 0 ≤ s2 2 3; omega
          have st2 := tRw_s st (tW (s 2 5) (s 2 6) k - j)
          rw [show j + (tW (s 2 5) (s 2 6) k - j) = tW (s 2 5) (s 2 6) k by omega] at st2
          exact j102 s2 hF2 (by rw [e2, st2]) (fun y => absurd y.1 (by show ¬ s2 2 3 < 0; omega))
        · refine am_s rfl rfl ?_
          refine s_zle rfl ⟨by omega, by omega⟩ (fun c3 => ?_) (fun c3 => ?_)
          · have eSS : xt s2 = tIa T z j (xt s2) := by unfold tIa; rw [if_pos (by omega)]
            refine am_s rfl rfl ?_
            refine s_gr rfl g rfl rfl ?_
            refine am_s rfl rfl ?_
            refine s_aa rfl g rfl ⟨by omega, by omega⟩ (by decide) ?_
            refine am_s rfl rfl ?_
            refine am_s rfl rfl ?_
            refine s_kl 0 rfl rfl ?_
            refine am_s rfl rfl ?_
            have e5b : s2 2 5 = s 2 5 := e5
            refine s_cv [] [_, _, _, _] rfl g (Or.inl rfl) rfl rfl (Nat.le_of_ble_eq_true rfl) rfl rfl (t_isMatrix (s := s2) (PP := fun rv h => h = am_hp E s2 ∧ ((tHi (s 2 5) = 2147483647 ∧ rv = some (.int (iI 1))) ∨ (tHi (s 2 5) = 1000000 ∧ rv = some (.int (iI 0))))) g (by rw [e5b]; exact hf) (by rw [e5b]; exact fun a => ⟨rfl, Or.inl ⟨a, rfl⟩⟩) (by rw [e5b]; exact fun a => ⟨rfl, Or.inr ⟨a, rfl⟩⟩)) ?_
            rintro rv h1 ⟨rfl, hm⟩
            rcases hm with ⟨hm, rfl⟩ | ⟨hm, rfl⟩
            · refine s_zeq rfl ⟨by omega, by omega⟩ (fun c1 => absurd c1 (by omega)) (fun c1 => ?_)
              refine s_kl 2147483647 rfl rfl ?_
              refine am_s rfl rfl ?_
              refine s_cv [_, _] [_, _] rfl g (Or.inl rfl) rfl rfl (Nat.le_of_ble_eq_true rfl) rfl rfl (t_takeNumber (s := s2) (lo := 0) (hi := 2147483647) (PP := fun rv h => ∃ s9 x, h = am_hp E s9 ∧ rv = some (.int (iI x)) ∧ txFr s2 s9 ∧ xt s9 = tNm T z 0 2147483647 (xt s2) ∧ (txG (xt s9) → x = tNv T z (xt s2))) g gd hx2 ⟨by decide, by decide⟩ ⟨by decide, by decide⟩ (fun s9 x a b c e => ⟨s9, x, rfl, rfl, a, b, e⟩)) ?_
              rintro rv h1 ⟨s5, x, rfl, rfl, hF5, e5x, hv5⟩
              refine s_is rfl g (lo_4 (by omega) (by omega)) ⟨by omega, by omega⟩ (by decide) ?_
              refine s_inc rfl rfl ?_
              refine am_s rfl rfl ?_
              rw [show 4 + 1 + ((k : Int)).toNat = 4 + 1 + k from rfl]
              refine am_lv [(3, _), (2, _), (1, _), (0, _)] rfl rfl ⟨rfl, rfl, rfl, rfl, trivial⟩ ?_
              have ej2 : (j : Int) + 1 = ((j + 1 : Nat) : Int) := by omega
              rw [ej2]
              have eI : tRw T z (tHi (s 2 5)) (j + 1) (tRs T z (tHi (s 2 5)) (tW (s 2 5) (s 2 6)) k (xt s)) = xt s5 := by
                rw [e5x, eSS, e2, ← hm]
                rfl
              refine kk2 () _ ⟨rwFr_w (rwFr_x hF2 hF5) (by omega), by rw [xt_w]; exact eI.symm, fun y => ?_⟩
              rw [xt_w] at y
              have yS : txG (xt s2) := (tNm_g (hx2).o (by rw [← e5x]; exact y)).1
              have y2 : txG (xt s2) := yS
              refine ⟨fun r i hr hi => ?_, fun i hi => ?_⟩
              · rw [am_w_row (by omega), hF5.1 _ (by omega)]; exact (hV2 y2).1 r i hr hi
              · by_cases e : i = j
                · subst e
                  rw [am_w_eq, hv5 y]
                  unfold tVl tVr
                  rw [← e2, ← eSS]
                · rw [am_w_x (by omega), hF5.1 _ (by omega)]; exact (hV2 y2).2 i (by omega)
            · refine s_zeq rfl ⟨by omega, by omega⟩ (fun c1 => ?_) (fun c1 => absurd c1 (by omega))
              refine s_kl 1000000 rfl rfl ?_
              refine s_cv [_, _] [_, _] rfl g (Or.inl rfl) rfl rfl (Nat.le_of_ble_eq_true rfl) rfl rfl (t_takeNumber (s := s2) (lo := 0) (hi := 1000000) (PP := fun rv h => ∃ s9 x, h = am_hp E s9 ∧ rv = some (.int (iI x)) ∧ txFr s2 s9 ∧ xt s9 = tNm T z 0 1000000 (xt s2) ∧ (txG (xt s9) → x = tNv T z (xt s2))) g gd hx2 ⟨by decide, by decide⟩ ⟨by decide, by decide⟩ (fun s9 x a b c e => ⟨s9, x, rfl, rfl, a, b, e⟩)) ?_
              rintro rv h1 ⟨s5, x, rfl, rfl, hF5, e5x, hv5⟩
              refine s_is rfl g (lo_4 (by omega) (by omega)) ⟨by omega, by omega⟩ (by decide) ?_
              refine s_inc rfl rfl ?_
              refine am_s rfl rfl ?_
              rw [show 4 + 1 + ((k : Int)).toNat = 4 + 1 + k from rfl]
              refine am_lv [(3, _), (2, _), (1, _), (0, _)] rfl rfl ⟨rfl, rfl, rfl, rfl, trivial⟩ ?_
              have ej2 : (j : Int) + 1 = ((j + 1 : Nat) : Int) := by omega
              rw [ej2]
              have eI : tRw T z (tHi (s 2 5)) (j + 1) (tRs T z (tHi (s 2 5)) (tW (s 2 5) (s 2 6)) k (xt s)) = xt s5 := by
                rw [e5x, eSS, e2, ← hm]
                rfl
              refine kk2 () _ ⟨rwFr_w (rwFr_x hF2 hF5) (by omega), by rw [xt_w]; exact eI.symm, fun y => ?_⟩
              rw [xt_w] at y
              have yS : txG (xt s2) := (tNm_g (hx2).o (by rw [← e5x]; exact y)).1
              have y2 : txG (xt s2) := yS
              refine ⟨fun r i hr hi => ?_, fun i hi => ?_⟩
              · rw [am_w_row (by omega), hF5.1 _ (by omega)]; exact (hV2 y2).1 r i hr hi
              · by_cases e : i = j
                · subst e
                  rw [am_w_eq, hv5 y]
                  unfold tVl tVr
                  rw [← e2, ← eSS]
                · rw [am_w_x (by omega), hF5.1 _ (by omega)]; exact (hV2 y2).2 i (by omega)
          · refine am_s rfl rfl ?_
            refine s_k 44 rfl rfl ?_
            refine s_cv [_] [] rfl g (Or.inl rfl) rfl rfl (Nat.le_of_ble_eq_true rfl) rfl rfl (t_takeSign (s := s2) (PP := fun rv h => rv = none ∧ ∃ s9, h = am_hp E s9 ∧ txFr s2 s9 ∧ xt s9 = tTk T z 44 (xt s2)) g gd hx2 (by decide) (fun s9 a b => ⟨rfl, s9, rfl, a, b⟩)) ?_
            rintro rv h1 ⟨rfl, s4, rfl, hF4, e4⟩
            have hx4 := txH_f gd hx2 hF4 (by rw [e4]; exact tTk_o ox2)
            have eSS : xt s4 = tIa T z j (xt s2) := by unfold tIa; rw [if_neg (by omega)]; exact e4
            refine am_s rfl rfl ?_
            refine s_gr rfl g rfl rfl ?_
            refine am_s rfl rfl ?_
            refine s_aa rfl g rfl ⟨by omega, by omega⟩ (by decide) ?_
            refine am_s rfl rfl ?_
            refine am_s rfl rfl ?_
            refine s_kl 0 rfl rfl ?_
            refine am_s rfl rfl ?_
            have e5b : s4 2 5 = s 2 5 := (hF4.2 5 (by decide) (by decide) (by decide)).trans e5
            refine s_cv [] [_, _, _, _] rfl g (Or.inl rfl) rfl rfl (Nat.le_of_ble_eq_true rfl) rfl rfl (t_isMatrix (s := s4) (PP := fun rv h => h = am_hp E s4 ∧ ((tHi (s 2 5) = 2147483647 ∧ rv = some (.int (iI 1))) ∨ (tHi (s 2 5) = 1000000 ∧ rv = some (.int (iI 0))))) g (by rw [e5b]; exact hf) (by rw [e5b]; exact fun a => ⟨rfl, Or.inl ⟨a, rfl⟩⟩) (by rw [e5b]; exact fun a => ⟨rfl, Or.inr ⟨a, rfl⟩⟩)) ?_
            rintro rv h1 ⟨rfl, hm⟩
            rcases hm with ⟨hm, rfl⟩ | ⟨hm, rfl⟩
            · refine s_zeq rfl ⟨by omega, by omega⟩ (fun c1 => absurd c1 (by omega)) (fun c1 => ?_)
              refine s_kl 2147483647 rfl rfl ?_
              refine am_s rfl rfl ?_
              refine s_cv [_, _] [_, _] rfl g (Or.inl rfl) rfl rfl (Nat.le_of_ble_eq_true rfl) rfl rfl (t_takeNumber (s := s4) (lo := 0) (hi := 2147483647) (PP := fun rv h => ∃ s9 x, h = am_hp E s9 ∧ rv = some (.int (iI x)) ∧ txFr s4 s9 ∧ xt s9 = tNm T z 0 2147483647 (xt s4) ∧ (txG (xt s9) → x = tNv T z (xt s4))) g gd hx4 ⟨by decide, by decide⟩ ⟨by decide, by decide⟩ (fun s9 x a b c e => ⟨s9, x, rfl, rfl, a, b, e⟩)) ?_
              rintro rv h1 ⟨s5, x, rfl, rfl, hF5, e5x, hv5⟩
              refine s_is rfl g (lo_4 (by omega) (by omega)) ⟨by omega, by omega⟩ (by decide) ?_
              refine s_inc rfl rfl ?_
              refine am_s rfl rfl ?_
              rw [show 4 + 1 + ((k : Int)).toNat = 4 + 1 + k from rfl]
              refine am_lv [(3, _), (2, _), (1, _), (0, _)] rfl rfl ⟨rfl, rfl, rfl, rfl, trivial⟩ ?_
              have ej2 : (j : Int) + 1 = ((j + 1 : Nat) : Int) := by omega
              rw [ej2]
              have eI : tRw T z (tHi (s 2 5)) (j + 1) (tRs T z (tHi (s 2 5)) (tW (s 2 5) (s 2 6)) k (xt s)) = xt s5 := by
                rw [e5x, eSS, e2, ← hm]
                rfl
              refine kk2 () _ ⟨rwFr_w (rwFr_x (rwFr_x hF2 hF4) hF5) (by omega), by rw [xt_w]; exact eI.symm, fun y => ?_⟩
              rw [xt_w] at y
              have yS : txG (xt s4) := (tNm_g (hx4).o (by rw [← e5x]; exact y)).1
              have y2 : txG (xt s2) := tTk_g (by rw [← e4]; exact yS)
              refine ⟨fun r i hr hi => ?_, fun i hi => ?_⟩
              · rw [am_w_row (by omega), hF5.1 _ (by omega), hF4.1 _ (by omega)]; exact (hV2 y2).1 r i hr hi
              · by_cases e : i = j
                · subst e
                  rw [am_w_eq, hv5 y]
                  unfold tVl tVr
                  rw [← e2, ← eSS]
                · rw [am_w_x (by omega), hF5.1 _ (by omega), hF4.1 _ (by omega)]; exact (hV2 y2).2 i (by omega)
            · refine s_zeq rfl ⟨by omega, by omega⟩ (fun c1 => ?_) (fun c1 => absurd c1 (by omega))
              refine s_kl 1000000 rfl rfl ?_
              refine s_cv [_, _] [_, _] rfl g (Or.inl rfl) rfl rfl (Nat.le_of_ble_eq_true rfl) rfl rfl (t_takeNumber (s := s4) (lo := 0) (hi := 1000000) (PP := fun rv h => ∃ s9 x, h = am_hp E s9 ∧ rv = some (.int (iI x)) ∧ txFr s4 s9 ∧ xt s9 = tNm T z 0 1000000 (xt s4) ∧ (txG (xt s9) → x = tNv T z (xt s4))) g gd hx4 ⟨by decide, by decide⟩ ⟨by decide, by decide⟩ (fun s9 x a b c e => ⟨s9, x, rfl, rfl, a, b, e⟩)) ?_
              rintro rv h1 ⟨s5, x, rfl, rfl, hF5, e5x, hv5⟩
              refine s_is rfl g (lo_4 (by omega) (by omega)) ⟨by omega, by omega⟩ (by decide) ?_
              refine s_inc rfl rfl ?_
              refine am_s rfl rfl ?_
              rw [show 4 + 1 + ((k : Int)).toNat = 4 + 1 + k from rfl]
              refine am_lv [(3, _), (2, _), (1, _), (0, _)] rfl rfl ⟨rfl, rfl, rfl, rfl, trivial⟩ ?_
              have ej2 : (j : Int) + 1 = ((j + 1 : Nat) : Int) := by omega
              rw [ej2]
              have eI : tRw T z (tHi (s 2 5)) (j + 1) (tRs T z (tHi (s 2 5)) (tW (s 2 5) (s 2 6)) k (xt s)) = xt s5 := by
                rw [e5x, eSS, e2, ← hm]
                rfl
              refine kk2 () _ ⟨rwFr_w (rwFr_x (rwFr_x hF2 hF4) hF5) (by omega), by rw [xt_w]; exact eI.symm, fun y => ?_⟩
              rw [xt_w] at y
              have yS : txG (xt s4) := (tNm_g (hx4).o (by rw [← e5x]; exact y)).1
              have y2 : txG (xt s2) := tTk_g (by rw [← e4]; exact yS)
              refine ⟨fun r i hr hi => ?_, fun i hi => ?_⟩
              · rw [am_w_row (by omega), hF5.1 _ (by omega), hF4.1 _ (by omega)]; exact (hV2 y2).1 r i hr hi
              · by_cases e : i = j
                · subst e
                  rw [am_w_eq, hv5 y]
                  unfold tVl tVr
                  rw [← e2, ← eSS]
                · rw [am_w_x (by omega), hF5.1 _ (by omega), hF4.1 _ (by omega)]; exact (hV2 y2).2 i (by omega)
      · rintro - s2 ⟨hF2, e2, hV2⟩
        try simp only
        have ox2 : txO z (xt s2) := by rw [e2]; exact tRw_o (tRs_o hx.o k) _
        have hx2 := txH_rw gd hx hF2 ox2
        have e5 : s2 2 5 = s 2 5 := hF2.2 5 (by decide) (by decide) (by decide)
        have e6 : s2 2 6 = s 2 6 := hF2.2 6 (by decide) (by decide) (by decide)
        have of2 : -1 ≤ s2 2 3 ∧ s2 2 3 ≤ z := ox2.2.1
        refine am_s rfl rfl ?_
        refine am_s rfl rfl ?_
        refine am_s rfl rfl ?_
        refine s_cv [_] [_] rfl g (Or.inl rfl) rfl rfl (Nat.le_of_ble_eq_true rfl) rfl rfl (t_widthOf (s := s2) (r := k) (PP := fun rv h => rv = some (.int (iI ((tW (s 2 5) (s 2 6) k : Nat) : Int))) ∧ h = am_hp E s2) g (by rw [e5]; exact hf) (by rw [e6]; exact hn) (by rw [e5, e6]; exact hk1) (by rw [e5, e6]; exact ⟨rfl, rfl⟩)) ?_
        rintro rv h1 ⟨rfl, rfl⟩
        refine s_cge rfl ⟨by omega, by omega⟩ ⟨by omega, by omega⟩ (fun c1 => ?_) (fun c1 => absurd c1 (by omega))
        refine am_lv [(2, _), (1, _), (0, _)] rfl rfl ⟨rfl, rfl, rfl, trivial⟩ ?_
        exact j102 s2 hF2 e2 hV2
  · rintro - s1 ⟨hF1, e1, hV1⟩
    try simp only
    refine am_s rfl rfl ?_
    refine am_s rfl rfl ?_
    refine s_cge rfl ⟨by omega, by omega⟩ ⟨by omega, by omega⟩ (fun c1 => ?_) (fun c1 => absurd c1 (by omega))
    exact am_r rfl rfl (hPP s1 hF1 e1 hV1)
theorem t_takeRows {d : Nat} {E : am_Ev} {s : am_S} {PP : Option Value → am_H → Prop} (g : am_Eg E) (gd : am_Ed E) {T : Int → Int} {z : Int} (hx : txH E s T z) (hf : tFk (s 2 5)) (hn : 1 ≤ s 2 6 ∧ s 2 6 ≤ 20) (hPP : ∀ s1, rwFr s s1 → xt s1 = tRs T z (tHi (s 2 5)) (tW (s 2 5) (s 2 6)) (tR (s 2 5) (s 2 6)) (xt s) → (txG (xt s1) → (∀ r i : Nat, r < tR (s 2 5) (s 2 6) → i < tW (s 2 5) (s 2 6) r → s1 (4 + 1 + r) i = tVl T z (tHi (s 2 5)) (tW (s 2 5) (s 2 6)) r i (xt s))) → PP none (am_hp E s1)) : am_wp (d + 3) 93 0 (lv_args 0 [.ref 2]) [] (am_hp E s) PP := by
  have z0 := hx.zl
  have o1 := hx.o.1
  have o2 := hx.o.2.1
  have o3 := hx.o.2.2
  unfold xt at o1 o2 o3
  simp only [txS.p, txS.f, txS.u] at o1 o2 o3
  have ez := hx.ez
  have sg2 := gd.s2
  have rl := tR_le (fm := s 2 5) hn
  have hf2 := tFk_r hf
  refine am_s rfl rfl ?_
  refine s_gi (x := 5) rfl g rfl rfl rfl ?_
  refine s_k 94 rfl rfl ?_
  refine s_cne rfl ⟨by omega, by omega⟩ ⟨by omega, by omega⟩ (fun c1 => ?_) (fun c1 => ?_)
  · refine am_s rfl rfl ?_
    refine s_gi (x := 6) rfl g rfl rfl rfl ?_
    refine am_s rfl rfl ?_
    refine s_k 0 rfl rfl ?_
    refine am_s rfl rfl ?_
    have eR : s 2 6 = ((tR (s 2 5) (s 2 6) : Nat) : Int) := by unfold tR; rw [if_neg (by omega)]; omega
    rw [eR]
    refine am_lv [(2, _), (1, _), (0, _)] rfl rfl ⟨rfl, rfl, rfl, trivial⟩ ?_
    exact t_rows25 (d := d) g gd hx hf hn hPP
  · refine am_s rfl rfl ?_
    refine s_gi (x := 6) rfl g rfl rfl rfl ?_
    refine s_k 1 rfl rfl ?_
    refine s_isub rfl ?_
    refine am_s rfl rfl ?_
    refine am_s rfl rfl ?_
    refine s_k 0 rfl rfl ?_
    refine am_s rfl rfl ?_
    have eR : s 2 6 - 1 = ((tR (s 2 5) (s 2 6) : Nat) : Int) := by unfold tR; rw [if_pos (by omega)]; omega
    rw [eR]
    refine am_lv [(2, _), (1, _), (0, _)] rfl rfl ⟨rfl, rfl, rfl, trivial⟩ ?_
    exact t_rows25 (d := d) g gd hx hf hn hPP
