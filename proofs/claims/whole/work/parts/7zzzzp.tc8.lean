/-! the other one reads its text -/
theorem tEn_E {T : Int → Int} {z : Int} {a b : txS} (h : txE a b) : txE (tEn T z a) (tEn T z b) := by
  by_cases f : 0 ≤ a.f
  · have fb : 0 ≤ b.f := by rw [← h.2.1]; exact f
    unfold tEn
    rw [if_pos f, if_pos fb]; exact h
  · rw [txE_q h (by omega)]; exact txE_r _
theorem tTk_E2 {T : Int → Int} {z c : Int} {a b d : txS} (h : txE a b) (e : d = tTk T z c b) : txE (tTk T z c a) d := by
  rw [e]; exact tTk_E h
theorem t_rA169 {d : Nat} {E : am_Ev} {s : am_S} {s9 : am_S} {PP : Option Value → am_H → Prop} (g : am_Eg E) {T : Int → Int} {z : Int} (hx : tyH s T z) (hF9 : am_Fm [170, 172, 173] [6, 7, 8, 9] s s9) (g3 : txG (tA3 T z)) (e9 : txE (tRA T z) (yt s9)) (ox9 : txO z (yt s9)) (hd9 : txG (tRA T z) → s9 168 6 = tN T z ∧ dOK (tFm T z) (tN T z) (tV T z) (fun a b => s9 170 (20 * a + b))) (hPP : ∀ s1, am_Fm [170, 172, 173] [6, 7, 8, 9] s s1 → txE (tA4 T z) (yt s1) → txO z (yt s1) → (txG (tA4 T z) → s1 168 6 = tN T z ∧ dOK (tFm T z) (tN T z) (tV T z) (fun a b => s1 170 (20 * a + b))) → PP none (am_hp E s1)) : am_wp (d + 3) 171 169 [(0, .ref 168)] [] (am_hp E s9) PP := by
  have z0 := hx.zl
  have o1 := hx.o.1
  have o2 := hx.o.2.1
  have o3 := hx.o.2.2
  unfold yt at o1 o2 o3
  simp only [txS.p, txS.f, txS.u] at o1 o2 o3
  have ez := hx.ez
  have eA4 : tA4 T z = tEn T z (tRA T z) := by unfold tA4; rw [if_pos g3]
  have hx9 := tyH_f hx hF9 (by decide) (by decide) ox9
  have q1 : 0 ≤ s9 168 7 ∧ s9 168 7 ≤ z := ox9.1
  have q2 : -1 ≤ s9 168 8 ∧ s9 168 8 ≤ z := ox9.2.1
  have q3 : -1 ≤ s9 168 9 ∧ s9 168 9 ≤ z := ox9.2.2
  refine am_s rfl rfl ?_
  refine s_gi (x := 8) rfl g rfl rfl rfl ?_
  refine s_zge rfl ⟨by omega, by omega⟩ (fun c1 => ?_) (fun c1 => ?_)
  · refine am_r rfl rfl (hPP s9 hF9 ?_ ox9 (fun y => hd9 (tA4_g z0.1 y).2))
    rw [eA4]
    have e := tEn_E (T := T) (z := z) e9
    have : tEn T z (yt s9) = yt s9 := if_pos (show 0 ≤ (yt s9).f by show 0 ≤ s9 168 8; omega)
    rw [this] at e; exact e
  · refine am_s rfl rfl ?_
    refine s_cv [] [] rfl g (Or.inl rfl) rfl rfl (Nat.le_of_ble_eq_true rfl) rfl rfl (t_look (s := s9) (PP := fun rv h => ∃ s1, rv = some (.int (iI (if tSk T z (s9 168 7) < z then T (tSk T z (s9 168 7)) else -1))) ∧ h = am_hp E s1 ∧ am_Fm [] [7, 8, 9] s9 s1 ∧ yt s1 = ⟨tSk T z (s9 168 7), s9 168 8, s9 168 9⟩) g hx9 (fun s1 a b => ⟨s1, rfl, rfl, a, b⟩)) ?_
    rintro rv h9 ⟨s8, rfl, rfl, hF8, e8⟩
    have p8 : s8 168 7 = tSk T z (s9 168 7) := congrArg txS.p e8
    have f8 : s8 168 8 = s9 168 8 := congrArg txS.f e8
    have u8 : s8 168 9 = s9 168 9 := congrArg txS.u e8
    have r8 := tSk_r (T := T) (z := z) (p := s9 168 7) (by omega)
    have br : -1 ≤ (if tSk T z (s9 168 7) < z then T (tSk T z (s9 168 7)) else -1) ∧ (if tSk T z (s9 168 7) < z then T (tSk T z (s9 168 7)) else -1) ≤ 126 ∧ (tSk T z (s9 168 7) < z → 32 ≤ (if tSk T z (s9 168 7) < z then T (tSk T z (s9 168 7)) else -1)) := by
      split
      · have := hx.tr (tSk T z (s9 168 7)) (by omega) (by assumption); omega
      · omega
    refine s_k (-1) rfl rfl ?_
    refine s_ceq rfl ⟨by omega, by omega⟩ ⟨by omega, by omega⟩ (fun c2 => ?_) (fun c2 => ?_)
    · have nq : ¬ tSk T z (s9 168 7) < z := fun y => by
        have := br.2.2 y
        omega
      have eE : tEn T z (yt s9) = yt s8 := by
        unfold tEn
        rw [if_neg (show ¬ 0 ≤ (yt s9).f by show ¬ 0 ≤ s9 168 8; omega), if_neg (show ¬ tSk T z (yt s9).p < z from nq), e8]
        rfl
      refine am_r rfl rfl (hPP s8 (Fm_t hF9 (Fm_m hF8 (by simp) (by decide))) ?_ (by rw [← eE]; exact tEn_o ox9) (fun y => ?_))
      · rw [eA4, ← eE]; exact tEn_E e9
      · have q := hd9 (tA4_g z0.1 y).2
        rw [hF8.2 6 (by decide), hF8.1 170 (by decide)]; exact q
    · refine am_s rfl rfl ?_
      refine am_s rfl rfl ?_
      refine s_gi (x := 7) rfl g rfl rfl rfl ?_
      refine s_pi (x := 8) rfl g rfl rfl rfl rfl ?_
      have yq : tSk T z (s9 168 7) < z := by
        by_cases y : tSk T z (s9 168 7) < z
        · exact y
        · rw [if_neg y] at *; omega
      have eE : tEn T z (yt s9) = yt (am_w s8 168 8 (s8 168 7)) := by
        unfold tEn
        rw [if_neg (show ¬ 0 ≤ (yt s9).f by show ¬ 0 ≤ s9 168 8; omega), if_pos (show tSk T z (yt s9).p < z from yq), yt_w8, p8, u8]
        rfl
      refine am_r rfl rfl (hPP _ (Fm_w (Fm_t hF9 (Fm_m hF8 (by simp) (by decide))) (by decide)) ?_ (by rw [← eE]; exact tEn_o ox9) (fun y => ?_))
      · rw [eA4, ← eE]; exact tEn_E e9
      · have q := hd9 (tA4_g z0.1 y).2
        rw [am_w_x (by decide), am_w_row (by decide), hF8.2 6 (by decide), hF8.1 170 (by decide)]; exact q
theorem t_rA93 {d : Nat} {E : am_Ev} {s : am_S} {v : Int} {PP : Option Value → am_H → Prop} (g : am_Eg E) {T : Int → Int} {z : Int} (hx : tyH s T z) (g3 : txG (tA3 T z)) (ey3 : yt s = tA3 T z) (ev : v = tN T z) (hPP : ∀ s1, am_Fm [170, 172, 173] [6, 7, 8, 9] s s1 → txE (tA4 T z) (yt s1) → txO z (yt s1) → (txG (tA4 T z) → s1 168 6 = tN T z ∧ dOK (tFm T z) (tN T z) (tV T z) (fun a b => s1 170 (20 * a + b))) → PP none (am_hp E s1)) : am_wp (d + 3) 171 93 [(2, .long (lI v)), (1, .int (iI (tFm T z))), (0, .ref 168)] [] (am_hp E s) PP := by
  have z0 := hx.zl
  have o1 := hx.o.1
  have o2 := hx.o.2.1
  have o3 := hx.o.2.2
  unfold yt at o1 o2 o3
  simp only [txS.p, txS.f, txS.u] at o1 o2 o3
  have ez := hx.ez
  have okk := tA3_g z0.1 g3
  have okf := okk.1
  have okn := okk.2
  have fr := tFk_r okf
  refine am_s rfl rfl ?_
  refine am_s rfl rfl ?_
  refine s_l2i rfl ?_
  rw [ev]
  refine s_pi (x := 6) rfl g rfl rfl rfl rfl ?_
  refine s_k 0 rfl rfl ?_
  refine am_s rfl rfl ?_
  refine am_lv [(4, .int (iI (((0 : Nat) : Int) : Int))), (1, .int (iI (tFm T z))), (0, .ref 168)] rfl rfl ⟨rfl, rfl, rfl, trivial⟩ ?_
  refine s_loop (X := Unit) (fun k _ s1 => am_Fm [170] [] (am_w s 168 6 (tN T z)) s1 ∧ ∀ y, 0 ≤ y → y < (k : Int) → s1 170 y = 0) (fun k _ => [(4, .int (iI (k : Int))), (1, .int (iI (tFm T z))), (0, .ref 168)]) (lo := 0) (hi := 400) (x := ()) (by decide) ⟨am_Fm_r _ _ _, fun y y0 y1 => by omega⟩ ?_ ?_
  · rintro k - s1 hk0 hk1 ⟨hF1, hz1⟩ kk
    try simp only at kk ⊢
    refine am_s rfl rfl ?_
    refine s_k 400 rfl rfl ?_
    refine s_cge rfl ⟨by omega, by omega⟩ ⟨by omega, by omega⟩ (fun c1 => absurd c1 (by omega)) (fun c1 => ?_)
    refine am_s rfl rfl ?_
    refine s_gr rfl g rfl rfl ?_
    refine am_s rfl rfl ?_
    refine s_k 0 rfl rfl ?_
    refine s_is rfl g rfl ⟨by omega, by omega⟩ (by decide) ?_
    refine s_inc rfl rfl ?_
    refine am_s rfl rfl ?_
    have ek2 : (k : Int) + 1 = ((k + 1 : Nat) : Int) := by omega
    rw [ek2]
    refine am_lv [(4, _), (1, _), (0, _)] rfl rfl ⟨rfl, rfl, rfl, trivial⟩ ?_
    refine kk () _ ⟨⟨fun b hb => by rw [am_w_row (fun z => hb (by simp [z]))]; exact hF1.1 b hb, fun y hy => by rw [am_w_row (by decide)]; exact hF1.2 y hy⟩, fun y y0 y1 => ?_⟩
    by_cases e : y = (k : Int)
    · rw [e, am_w_eq]
    · rw [am_w_x e]; exact hz1 y y0 (by omega)
  · rintro - s1 ⟨hF1, hz1⟩
    try simp only
    refine am_s rfl rfl ?_
    refine s_k 400 rfl rfl ?_
    refine s_cge rfl ⟨by omega, by omega⟩ ⟨by omega, by omega⟩ (fun c1 => ?_) (fun c1 => absurd c1 (by omega))
    have hF : am_Fm [170, 172, 173] [6, 7, 8, 9] s s1 := Fm_t (⟨fun b hb => am_w_row (fun z => hb (by simp [z])), fun y hy => am_w_x (fun z => hy (by simp [z]))⟩ : am_Fm [170, 172, 173] [6, 7, 8, 9] s (am_w s 168 6 (tN T z))) (Fm_m hF1 (by decide) (by simp))
    have e6 : s1 168 6 = tN T z := (hF1.2 6 (by decide)).trans (am_w_eq _ _ _ _)
    have ey : yt s1 = yt s := by unfold yt; rw [hF1.2 7 (by decide), hF1.2 8 (by decide), hF1.2 9 (by decide), am_w_x (by decide), am_w_x (by decide), am_w_x (by decide)]
    have hx1 := tyH_f hx hF (by decide) (by decide) (by rw [ey]; exact hx.o)
    have eA1 : txE (tA3 T z) (yt s1) := by rw [ey, ey3]; exact txE_r _
    have oA := tA3_o (T := T) z0.1
    have zz : ∀ r : Nat, r < 20 → s1 170 (20 * (r : Int) + (r : Int)) = 0 := fun r hr => hz1 _ (by omega) (by omega)
    refine am_s rfl rfl ?_
    refine s_k 61 rfl rfl ?_
    refine s_ceq rfl ⟨by omega, by omega⟩ ⟨by omega, by omega⟩ (fun c2 => ?_) (fun c2 => ?_)
    · refine am_s rfl rfl ?_
      refine am_s rfl rfl ?_
      refine s_k 94 rfl rfl ?_
      refine s_cne rfl ⟨by omega, by omega⟩ ⟨by omega, by omega⟩ (fun c3 => ?_) (fun c3 => ?_)
      · refine s_k 0 rfl rfl ?_
        have ff : tFm T z = 61 := by omega
        have eH : tHi (tFm T z) = 2147483647 := by unfold tHi; rw [if_pos (by omega)]
        refine s_cv [_] [] rfl g (Or.inl rfl) rfl rfl (Nat.le_of_ble_eq_true rfl) rfl rfl (t_readRowsF (d := d) (s := s1) (n := tN T z) (A := tA3 T z) (PP := fun rv h => rv = none ∧ ∃ s9, h = am_hp E s9 ∧ am_Fm [170] [7, 8, 9] s1 s9 ∧ txE (tRs T z 2147483647 (tW 61 (tN T z)) (tR 61 (tN T z)) (tA3 T z)) (yt s9) ∧ txO z (yt s9) ∧ ((yt s9).f < 0 → ∀ r i : Nat, r < tR 61 (tN T z) → i < tW 61 (tN T z) r → s9 170 (20 * (r : Int) + (i : Int)) = tVl T z 2147483647 (tW 61 (tN T z)) r i (tA3 T z))) g hx1 okn e6 eA1 (fun s9 a b c e => ⟨rfl, s9, rfl, a, b, c, e⟩)) ?_
        rintro rv h9 ⟨rfl, s9, rfl, hF9, e9, ox9, hv9⟩
        have e9 : txE (tRA T z) (yt s9) := by unfold tRA; rw [eH, ff]; exact e9
        have tvE : ∀ r i, tV T z r i = tVl T z 2147483647 (tW 61 (tN T z)) r i (tA3 T z) := fun r i => by unfold tV; rw [eH, ff]
        refine am_s rfl rfl ?_
        refine am_lv [(0, _)] rfl rfl ⟨rfl, trivial⟩ ?_
        refine t_rA169 (d := d) g hx (Fm_t hF (Fm_m hF9 (by decide) (by decide))) g3 e9 ox9 (fun y => ⟨by rw [hF9.2 6 (by decide)]; exact e6, ⟨fun _ a b a1 b1 => ?_, fun z => absurd ff z, fun z => by omega, fun z => by omega, fun z => by omega⟩⟩) hPP
        rw [tvE]
        exact hv9 (by rw [← e9.2.1]; exact y.1) a b (by unfold tR; rw [if_neg (by decide)]; omega) (by unfold tW; rw [if_pos rfl]; omega)
      · refine s_k 1 rfl rfl ?_
        refine am_s rfl rfl ?_
        have ff : tFm T z = 94 := by omega
        have eH : tHi (tFm T z) = 2147483647 := by unfold tHi; rw [if_pos (by omega)]
        refine s_cv [_] [] rfl g (Or.inl rfl) rfl rfl (Nat.le_of_ble_eq_true rfl) rfl rfl (t_readRowsH (d := d) (s := s1) (n := tN T z) (A := tA3 T z) (PP := fun rv h => rv = none ∧ ∃ s9, h = am_hp E s9 ∧ am_Fm [170] [7, 8, 9] s1 s9 ∧ txE (tRs T z 2147483647 (tW 94 (tN T z)) (tR 94 (tN T z)) (tA3 T z)) (yt s9) ∧ txO z (yt s9) ∧ ((yt s9).f < 0 → ∀ r i : Nat, r < tR 94 (tN T z) → i < tW 94 (tN T z) r → s9 170 (20 * (r : Int) + ((r : Int) + 1 + (i : Int))) = tVl T z 2147483647 (tW 94 (tN T z)) r i (tA3 T z) ∧ s9 170 (20 * ((r : Int) + 1 + (i : Int)) + (r : Int)) = tVl T z 2147483647 (tW 94 (tN T z)) r i (tA3 T z)) ∧ (∀ r : Nat, r < 20 → s9 170 (20 * (r : Int) + (r : Int)) = s1 170 (20 * (r : Int) + (r : Int)))) g hx1 okn e6 eA1 (fun s9 a b c e f => ⟨rfl, s9, rfl, a, b, c, e, f⟩)) ?_
        rintro rv h9 ⟨rfl, s9, rfl, hF9, e9, ox9, hv9, hD9⟩
        have e9 : txE (tRA T z) (yt s9) := by unfold tRA; rw [eH, ff]; exact e9
        have tvE : ∀ r i, tV T z r i = tVl T z 2147483647 (tW 94 (tN T z)) r i (tA3 T z) := fun r i => by unfold tV; rw [eH, ff]
        refine am_s rfl rfl ?_
        refine am_lv [(0, _)] rfl rfl ⟨rfl, trivial⟩ ?_
        refine t_rA169 (d := d) g hx (Fm_t hF (Fm_m hF9 (by decide) (by decide))) g3 e9 ox9 (fun y => ⟨by rw [hF9.2 6 (by decide)]; exact e6, ⟨fun z => by omega, fun _ a a1 => ?_, fun _ a b ab b1 => ?_, fun z => by omega, fun z => by omega⟩⟩) hPP
        · show s9 170 (20 * (a : Int) + (a : Int)) = 0
          rw [hD9 a (by omega)]; exact zz a (by omega)
        · have q := hv9 (by rw [← e9.2.1]; exact y.1) a (b - a - 1) (by unfold tR; rw [if_pos rfl]; omega) (by unfold tW; rw [if_neg (by decide), if_pos rfl]; omega)
          rw [show (a : Int) + 1 + ((b - a - 1 : Nat) : Int) = (b : Int) by omega] at q
          rw [tvE]; exact q
    · refine am_s rfl rfl ?_
      refine s_k 94 rfl rfl ?_
      refine s_cne rfl ⟨by omega, by omega⟩ ⟨by omega, by omega⟩ (fun c4 => ?_) (fun c4 => ?_)
      · refine am_s rfl rfl ?_
        refine am_s rfl rfl ?_
        refine s_k 42 rfl rfl ?_
        refine s_cne rfl ⟨by omega, by omega⟩ ⟨by omega, by omega⟩ (fun c5 => ?_) (fun c5 => ?_)
        · refine s_k 0 rfl rfl ?_
          have ff : tFm T z = 43 := by have := okf; unfold tFk at this; omega
          have eH : tHi (tFm T z) = 1000000 := by unfold tHi; rw [if_neg (by omega)]
          refine s_cv [_] [] rfl g (Or.inl rfl) rfl rfl (Nat.le_of_ble_eq_true rfl) rfl rfl (t_readPoints (d := d) (s := s1) (fm := 43) (st := 0) (n := tN T z) (A := tA3 T z) (PP := fun rv h => rv = none ∧ ∃ s9, h = am_hp E s9 ∧ am_Fm [170, 172, 173] [7, 8, 9] s1 s9 ∧ txE (tRs T z 1000000 (tW 43 (tN T z)) (tR 43 (tN T z)) (tA3 T z)) (yt s9) ∧ txO z (yt s9) ∧ (txG (yt s9) → (∀ p q : Nat, p < q → q < (tN T z).toNat → dR 43 (fun r i => tVl T z 1000000 (tW 43 (tN T z)) r i (tA3 T z)) p q (s9 170 (20 * (p : Int) + (q : Int))) ∧ s9 170 (20 * (q : Int) + (p : Int)) = s9 170 (20 * (p : Int) + (q : Int))) ∧ (∀ r : Nat, r < 20 → s9 170 (20 * (r : Int) + (r : Int)) = s1 170 (20 * (r : Int) + (r : Int))))) g hx1 (by omega) okn e6 eA1 oA (fun s9 a b c e => ⟨rfl, s9, rfl, a, b, c, e⟩)) ?_
          rintro rv h9 ⟨rfl, s9, rfl, hF9, e9, ox9, hv9⟩
          have e9 : txE (tRA T z) (yt s9) := by unfold tRA; rw [eH, ff]; exact e9
          have tvE : tV T z = fun r i => tVl T z 1000000 (tW 43 (tN T z)) r i (tA3 T z) := by funext r i; unfold tV; rw [eH, ff]
          refine am_lv [(0, _)] rfl rfl ⟨rfl, trivial⟩ ?_
          refine t_rA169 (d := d) g hx (Fm_t hF (Fm_m hF9 (by decide) (by decide))) g3 e9 ox9 (fun y => ⟨by rw [hF9.2 6 (by decide)]; exact e6, ⟨fun z => by omega, fun _ a a1 => ?_, fun z => by omega, fun _ a b ab b1 => ?_, fun z => by omega⟩⟩) hPP
          · show s9 170 (20 * (a : Int) + (a : Int)) = 0
            rw [(hv9 (by rw [← txE_q e9 y.1]; exact y)).2 a (by omega)]; exact zz a (by omega)
          · have q := (hv9 (by rw [← txE_q e9 y.1]; exact y)).1 a b ab (by omega)
            rw [tvE]
            refine ⟨q.1.2.1 rfl, ?_⟩
            show s9 170 (20 * (b : Int) + (a : Int)) = _
            rw [q.2]; exact q.1.2.1 rfl
        · refine s_k 1 rfl rfl ?_
          refine am_s rfl rfl ?_
          have ff : tFm T z = 42 := by have := okf; unfold tFk at this; omega
          have eH : tHi (tFm T z) = 1000000 := by unfold tHi; rw [if_neg (by omega)]
          refine s_cv [_] [] rfl g (Or.inl rfl) rfl rfl (Nat.le_of_ble_eq_true rfl) rfl rfl (t_readPoints (d := d) (s := s1) (fm := 42) (st := 1) (n := tN T z) (A := tA3 T z) (PP := fun rv h => rv = none ∧ ∃ s9, h = am_hp E s9 ∧ am_Fm [170, 172, 173] [7, 8, 9] s1 s9 ∧ txE (tRs T z 1000000 (tW 42 (tN T z)) (tR 42 (tN T z)) (tA3 T z)) (yt s9) ∧ txO z (yt s9) ∧ (txG (yt s9) → (∀ p q : Nat, p < q → q < (tN T z).toNat → dR 42 (fun r i => tVl T z 1000000 (tW 42 (tN T z)) r i (tA3 T z)) p q (s9 170 (20 * (p : Int) + (q : Int))) ∧ s9 170 (20 * (q : Int) + (p : Int)) = s9 170 (20 * (p : Int) + (q : Int))) ∧ (∀ r : Nat, r < 20 → s9 170 (20 * (r : Int) + (r : Int)) = s1 170 (20 * (r : Int) + (r : Int))))) g hx1 (by omega) okn e6 eA1 oA (fun s9 a b c e => ⟨rfl, s9, rfl, a, b, c, e⟩)) ?_
          rintro rv h9 ⟨rfl, s9, rfl, hF9, e9, ox9, hv9⟩
          have e9 : txE (tRA T z) (yt s9) := by unfold tRA; rw [eH, ff]; exact e9
          have tvE : tV T z = fun r i => tVl T z 1000000 (tW 42 (tN T z)) r i (tA3 T z) := by funext r i; unfold tV; rw [eH, ff]
          refine am_lv [(0, _)] rfl rfl ⟨rfl, trivial⟩ ?_
          refine t_rA169 (d := d) g hx (Fm_t hF (Fm_m hF9 (by decide) (by decide))) g3 e9 ox9 (fun y => ⟨by rw [hF9.2 6 (by decide)]; exact e6, ⟨fun z => by omega, fun _ a a1 => ?_, fun z => by omega, fun z => by omega, fun _ a b ab b1 => ?_⟩⟩) hPP
          · show s9 170 (20 * (a : Int) + (a : Int)) = 0
            rw [(hv9 (by rw [← txE_q e9 y.1]; exact y)).2 a (by omega)]; exact zz a (by omega)
          · have q := (hv9 (by rw [← txE_q e9 y.1]; exact y)).1 a b ab (by omega)
            rw [tvE]
            exact ⟨q.1.2.2.1 rfl, q.2⟩
      · refine am_s rfl rfl ?_
        refine am_s rfl rfl ?_
        refine s_k 94 rfl rfl ?_
        refine s_cne rfl ⟨by omega, by omega⟩ ⟨by omega, by omega⟩ (fun c6 => ?_) (fun c6 => ?_)
        · refine s_k 0 rfl rfl ?_
          have ff : tFm T z = 61 := by omega
          have eH : tHi (tFm T z) = 2147483647 := by unfold tHi; rw [if_pos (by omega)]
          refine s_cv [_] [] rfl g (Or.inl rfl) rfl rfl (Nat.le_of_ble_eq_true rfl) rfl rfl (t_readRowsF (d := d) (s := s1) (n := tN T z) (A := tA3 T z) (PP := fun rv h => rv = none ∧ ∃ s9, h = am_hp E s9 ∧ am_Fm [170] [7, 8, 9] s1 s9 ∧ txE (tRs T z 2147483647 (tW 61 (tN T z)) (tR 61 (tN T z)) (tA3 T z)) (yt s9) ∧ txO z (yt s9) ∧ ((yt s9).f < 0 → ∀ r i : Nat, r < tR 61 (tN T z) → i < tW 61 (tN T z) r → s9 170 (20 * (r : Int) + (i : Int)) = tVl T z 2147483647 (tW 61 (tN T z)) r i (tA3 T z))) g hx1 okn e6 eA1 (fun s9 a b c e => ⟨rfl, s9, rfl, a, b, c, e⟩)) ?_
          rintro rv h9 ⟨rfl, s9, rfl, hF9, e9, ox9, hv9⟩
          have e9 : txE (tRA T z) (yt s9) := by unfold tRA; rw [eH, ff]; exact e9
          have tvE : ∀ r i, tV T z r i = tVl T z 2147483647 (tW 61 (tN T z)) r i (tA3 T z) := fun r i => by unfold tV; rw [eH, ff]
          refine am_s rfl rfl ?_
          refine am_lv [(0, _)] rfl rfl ⟨rfl, trivial⟩ ?_
          refine t_rA169 (d := d) g hx (Fm_t hF (Fm_m hF9 (by decide) (by decide))) g3 e9 ox9 (fun y => ⟨by rw [hF9.2 6 (by decide)]; exact e6, ⟨fun _ a b a1 b1 => ?_, fun z => absurd ff z, fun z => by omega, fun z => by omega, fun z => by omega⟩⟩) hPP
          rw [tvE]
          exact hv9 (by rw [← e9.2.1]; exact y.1) a b (by unfold tR; rw [if_neg (by decide)]; omega) (by unfold tW; rw [if_pos rfl]; omega)
        · refine s_k 1 rfl rfl ?_
          refine am_s rfl rfl ?_
          have ff : tFm T z = 94 := by omega
          have eH : tHi (tFm T z) = 2147483647 := by unfold tHi; rw [if_pos (by omega)]
          refine s_cv [_] [] rfl g (Or.inl rfl) rfl rfl (Nat.le_of_ble_eq_true rfl) rfl rfl (t_readRowsH (d := d) (s := s1) (n := tN T z) (A := tA3 T z) (PP := fun rv h => rv = none ∧ ∃ s9, h = am_hp E s9 ∧ am_Fm [170] [7, 8, 9] s1 s9 ∧ txE (tRs T z 2147483647 (tW 94 (tN T z)) (tR 94 (tN T z)) (tA3 T z)) (yt s9) ∧ txO z (yt s9) ∧ ((yt s9).f < 0 → ∀ r i : Nat, r < tR 94 (tN T z) → i < tW 94 (tN T z) r → s9 170 (20 * (r : Int) + ((r : Int) + 1 + (i : Int))) = tVl T z 2147483647 (tW 94 (tN T z)) r i (tA3 T z) ∧ s9 170 (20 * ((r : Int) + 1 + (i : Int)) + (r : Int)) = tVl T z 2147483647 (tW 94 (tN T z)) r i (tA3 T z)) ∧ (∀ r : Nat, r < 20 → s9 170 (20 * (r : Int) + (r : Int)) = s1 170 (20 * (r : Int) + (r : Int)))) g hx1 okn e6 eA1 (fun s9 a b c e f => ⟨rfl, s9, rfl, a, b, c, e, f⟩)) ?_
          rintro rv h9 ⟨rfl, s9, rfl, hF9, e9, ox9, hv9, hD9⟩
          have e9 : txE (tRA T z) (yt s9) := by unfold tRA; rw [eH, ff]; exact e9
          have tvE : ∀ r i, tV T z r i = tVl T z 2147483647 (tW 94 (tN T z)) r i (tA3 T z) := fun r i => by unfold tV; rw [eH, ff]
          refine am_s rfl rfl ?_
          refine am_lv [(0, _)] rfl rfl ⟨rfl, trivial⟩ ?_
          refine t_rA169 (d := d) g hx (Fm_t hF (Fm_m hF9 (by decide) (by decide))) g3 e9 ox9 (fun y => ⟨by rw [hF9.2 6 (by decide)]; exact e6, ⟨fun z => by omega, fun _ a a1 => ?_, fun _ a b ab b1 => ?_, fun z => by omega, fun z => by omega⟩⟩) hPP
          · show s9 170 (20 * (a : Int) + (a : Int)) = 0
            rw [hD9 a (by omega)]; exact zz a (by omega)
          · have q := hv9 (by rw [← e9.2.1]; exact y.1) a (b - a - 1) (by unfold tR; rw [if_pos rfl]; omega) (by unfold tW; rw [if_neg (by decide), if_pos rfl]; omega)
            rw [show (a : Int) + 1 + ((b - a - 1 : Nat) : Int) = (b : Int) by omega] at q
            rw [tvE]; exact q
