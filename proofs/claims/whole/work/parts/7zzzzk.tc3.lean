/-! the other one looks through its signs -/
def yt (s : am_S) : txS := ⟨s 168 7, s 168 8, s 168 9⟩
def txE (a b : txS) : Prop := a.p = b.p ∧ a.f = b.f ∧ (a.f < 0 → a.u = b.u)
theorem txE_r (a : txS) : txE a a := ⟨rfl, rfl, fun _ => rfl⟩
theorem txE_q {a b : txS} (h : txE a b) (f : a.f < 0) : a = b := by
  obtain ⟨h1, h2, h3⟩ := h
  have := h3 f
  exact Prod.ext h1 (Prod.ext h2 this)
theorem txE_t {a b c : txS} (h : txE a b) (h2 : txE b c) : txE a c := ⟨h.1.trans h2.1, h.2.1.trans h2.2.1, fun f => (h.2.2 f).trans (h2.2.2 (by rw [← h.2.1]; exact f))⟩
theorem tTk_E {T : Int → Int} {z c : Int} {a b : txS} (h : txE a b) : txE (tTk T z c a) (tTk T z c b) := by
  by_cases f : 0 ≤ a.f
  · rw [tTk_s f, tTk_s (show 0 ≤ b.f by rw [← h.2.1]; exact f)]; exact h
  · rw [txE_q h (by omega)]; exact txE_r _
theorem tNm_E {T : Int → Int} {z lo hi : Int} {a b : txS} (h : txE a b) : txE (tNm T z lo hi a) (tNm T z lo hi b) := by
  by_cases f : 0 ≤ a.f
  · rw [tNm_s f, tNm_s (show 0 ≤ b.f by rw [← h.2.1]; exact f)]; exact h
  · rw [txE_q h (by omega)]; exact txE_r _
theorem tRes_E {a b : txS} (h : txE a b) : tRes a = tRes b := by
  unfold tRes
  rw [← h.2.1]
  split
  · rfl
  · exact h.2.2 (by omega)
abbrev tyH (s : am_S) (T : Int → Int) (z : Int) : Prop := Nonempty (PProd (s 168 5 = z) (PProd (0 ≤ z ∧ z ≤ 5000) (PProd (∀ y, 0 ≤ y → y < z → s 171 y = T y) (PProd (∀ y, 0 ≤ y → y < z → 32 ≤ T y ∧ T y ≤ 126) (txO z (yt s))))))
theorem tyH.ez {s : am_S} {T : Int → Int} {z : Int} (h_ : tyH s T z) : s 168 5 = z := h_.elim (fun x_ => x_.1)
theorem tyH.zl {s : am_S} {T : Int → Int} {z : Int} (h_ : tyH s T z) : 0 ≤ z ∧ z ≤ 5000 := h_.elim (fun x_ => x_.2.1)
theorem tyH.et {s : am_S} {T : Int → Int} {z : Int} (h_ : tyH s T z) : ∀ y, 0 ≤ y → y < z → s 171 y = T y := h_.elim (fun x_ => x_.2.2.1)
theorem tyH.tr {s : am_S} {T : Int → Int} {z : Int} (h_ : tyH s T z) : ∀ y, 0 ≤ y → y < z → 32 ≤ T y ∧ T y ≤ 126 := h_.elim (fun x_ => x_.2.2.2.1)
theorem tyH.o {s : am_S} {T : Int → Int} {z : Int} (h_ : tyH s T z) : txO z (yt s) := h_.elim (fun x_ => x_.2.2.2.2)
theorem tyH_f {s s1 : am_S} {T : Int → Int} {z : Int} {L : List Nat} {F : List Int} (h : tyH s T z) (f : am_Fm L F s s1) (hL : 171 ∉ L) (hF : (5 : Int) ∉ F) (o : txO z (yt s1)) : tyH s1 T z := ⟨(f.2 5 hF).trans h.ez, h.zl, fun y a b => by rw [f.1 171 (fun z => by simp at z; exact hL z)]; exact h.et y a b, h.tr, o⟩
theorem Fm_w {s s1 : am_S} {L : List Nat} {F : List Int} {x v : Int} (h : am_Fm L F s s1) (hx : x ∈ F) : am_Fm L F s (am_w s1 168 x v) := ⟨fun b hb => by rw [am_w_row (fun z => hb (by simp [z]))]; exact h.1 b hb, fun y hy => by rw [am_w_x (fun z => hy (by rw [z]; exact hx))]; exact h.2 y hy⟩
theorem Fm_t {s s1 s2 : am_S} {L : List Nat} {F : List Int} (h : am_Fm L F s s1) (h2 : am_Fm L F s1 s2) : am_Fm L F s s2 := ⟨fun b hb => (h2.1 b hb).trans (h.1 b hb), fun y hy => (h2.2 y hy).trans (h.2 y hy)⟩
theorem Fm_m {s s1 : am_S} {L L2 : List Nat} {F F2 : List Int} (h : am_Fm L F s s1) (hL : ∀ b, b ∈ L → b ∈ L2) (hF : ∀ y, y ∈ F → y ∈ F2) : am_Fm L2 F2 s s1 := ⟨fun b hb => h.1 b (fun z => hb (by simp at z ⊢; exact z.elim Or.inl (fun y => Or.inr (hL b y)))), fun y hy => h.2 y (fun z => hy (hF y z))⟩
theorem t_look {d : Nat} {E : am_Ev} {s : am_S} {PP : Option Value → am_H → Prop} (g : am_Eg E) {T : Int → Int} {z : Int} (hx : tyH s T z) (hPP : ∀ s1, am_Fm [] [7, 8, 9] s s1 → yt s1 = ⟨tSk T z (s 168 7), s 168 8, s 168 9⟩ → PP (some (.int (iI (if tSk T z (s 168 7) < z then T (tSk T z (s 168 7)) else -1)))) (am_hp E s1)) : am_wp d 163 0 (lv_args 0 [.ref 168]) [] (am_hp E s) PP := by
  have z0 := hx.zl
  have o1 := hx.o.1
  have o2 := hx.o.2.1
  have o3 := hx.o.2.2
  unfold yt at o1 o2 o3
  simp only [txS.p, txS.f, txS.u] at o1 o2 o3
  have ez := hx.ez
  refine am_lv [(0, .ref 168)] rfl rfl ⟨rfl, trivial⟩ ?_
  refine s_while (X := Unit) (fun _ s1 => am_Fm [] [7, 8, 9] s s1 ∧ s1 168 8 = s 168 8 ∧ s1 168 9 = s 168 9 ∧ (0 ≤ s1 168 7 ∧ s1 168 7 ≤ z) ∧ tSk T z (s1 168 7) = tSk T z (s 168 7)) (fun _ s1 => (z - s1 168 7).toNat) (fun _ => [(0, .ref 168)]) ?_ (x := ()) ⟨am_Fm_r _ _ _, rfl, rfl, o1, rfl⟩
  · rintro - s1 ⟨hF, h8, h9, hr, hS⟩ kk
    try simp only at kk ⊢
    have e1 : s1 168 5 = z := (hF.2 5 (by decide)).trans ez
    refine am_s rfl rfl ?_
    refine s_gi (x := 7) rfl g rfl rfl rfl ?_
    refine am_s rfl rfl ?_
    refine s_gi (x := 5) rfl g rfl rfl rfl ?_
    refine s_cge rfl ⟨by omega, by omega⟩ ⟨by omega, by omega⟩ (fun c1 => ?_) (fun c1 => ?_)
    · have q := tSk_eq T z (s1 168 7)
      rw [if_neg (by omega)] at q
      rw [hS] at q
      refine am_s rfl rfl ?_
      refine s_gi (x := 7) rfl g rfl rfl rfl ?_
      refine am_s rfl rfl ?_
      refine s_gi (x := 5) rfl g rfl rfl rfl ?_
      refine s_cge rfl ⟨by omega, by omega⟩ ⟨by omega, by omega⟩ (fun c2 => ?_) (fun c2 => ?_)
      · refine s_k (-1) rfl rfl ?_
        rw [if_neg (show ¬ tSk T z (s 168 7) < z by omega)] at hPP
        exact am_r rfl rfl (hPP s1 hF (by unfold yt; rw [h8, h9, ← q]))
      · refine am_s rfl rfl ?_
        refine s_gr rfl g rfl rfl ?_
        refine am_s rfl rfl ?_
        refine s_gi (x := 7) rfl g rfl rfl rfl ?_
        refine s_b0 rfl g rfl ⟨by omega, by omega⟩ (by decide) ?_
        rw [hF.1 171 (by decide), hx.et _ (by omega) (by omega)]
        refine am_s rfl rfl ?_
        omega
    · refine am_s rfl rfl ?_
      refine s_gr rfl g rfl rfl ?_
      refine am_s rfl rfl ?_
      refine s_gi (x := 7) rfl g rfl rfl rfl ?_
      refine s_b0 rfl g rfl ⟨by omega, by omega⟩ (by decide) ?_
      have e9 : s1 171 (s1 168 7) = T (s1 168 7) := by rw [hF.1 171 (by decide)]; exact hx.et _ (by omega) (by omega)
      have r9 := hx.tr (s1 168 7) (by omega) (by omega)
      rw [e9]
      refine s_k 32 rfl rfl ?_
      refine s_cne rfl ⟨by omega, by omega⟩ ⟨by omega, by omega⟩ (fun c3 => ?_) (fun c3 => ?_)
      · have q := tSk_eq T z (s1 168 7)
        rw [if_neg (by omega)] at q
        rw [hS] at q
        refine am_s rfl rfl ?_
        refine s_gi (x := 7) rfl g rfl rfl rfl ?_
        refine am_s rfl rfl ?_
        refine s_gi (x := 5) rfl g rfl rfl rfl ?_
        refine s_cge rfl ⟨by omega, by omega⟩ ⟨by omega, by omega⟩ (fun c4 => ?_) (fun c4 => ?_)
        · refine s_k (-1) rfl rfl ?_
          omega
        · refine am_s rfl rfl ?_
          refine s_gr rfl g rfl rfl ?_
          refine am_s rfl rfl ?_
          refine s_gi (x := 7) rfl g rfl rfl rfl ?_
          refine s_b0 rfl g rfl ⟨by omega, by omega⟩ (by decide) ?_
          rw [hF.1 171 (by decide), hx.et _ (by omega) (by omega)]
          refine am_s rfl rfl ?_
          rw [if_pos (show tSk T z (s 168 7) < z by omega)] at hPP
          rw [show s1 168 7 = tSk T z (s 168 7) from q.symm]
          exact am_r rfl rfl (hPP s1 hF (by unfold yt; rw [h8, h9, ← q]))
      · refine am_s rfl rfl ?_
        refine am_s rfl rfl ?_
        refine s_gi (x := 7) rfl g rfl rfl rfl ?_
        refine s_k 1 rfl rfl ?_
        refine s_iadd rfl ?_
        refine s_pi (x := 7) rfl g rfl rfl rfl rfl ?_
        refine am_s rfl rfl ?_
        refine am_lv [(0, _)] rfl rfl ⟨rfl, trivial⟩ ?_
        refine kk () _ ⟨Fm_w hF (by decide), by rw [am_w_x (by decide)]; exact h8, by rw [am_w_x (by decide)]; exact h9, by rw [am_w_eq]; omega, ?_⟩ ?_
        · rw [am_w_eq]
          have q := tSk_eq T z (s1 168 7)
          rw [if_pos ⟨by omega, by omega⟩] at q
          rw [← q]; exact hS
        · rw [am_w_eq]; omega
theorem t_takeM {d : Nat} {E : am_Ev} {s : am_S} {c : Int} {PP : Option Value → am_H → Prop} (g : am_Eg E) {T : Int → Int} {z : Int} (hx : tyH s T z) (hc : 0 ≤ c ∧ c ≤ 127) (hPP : ∀ s1, am_Fm [] [7, 8, 9] s s1 → yt s1 = tTk T z c (yt s) → PP none (am_hp E s1)) : am_wp (d + 1) 164 0 (lv_args 0 [.ref 168, .int (iI c)]) [] (am_hp E s) PP := by
  have z0 := hx.zl
  have o1 := hx.o.1
  have o2 := hx.o.2.1
  have o3 := hx.o.2.2
  unfold yt at o1 o2 o3
  simp only [txS.p, txS.f, txS.u] at o1 o2 o3
  have ez := hx.ez
  refine am_s rfl rfl ?_
  refine s_gi (x := 8) rfl g rfl rfl rfl ?_
  refine s_zge rfl ⟨by omega, by omega⟩ (fun c1 => ?_) (fun c1 => ?_)
  · exact am_r rfl rfl (hPP s (am_Fm_r _ _ _) (tTk_s (show 0 ≤ (yt s).f by show 0 ≤ s 168 8; omega)).symm)
  · refine am_s rfl rfl ?_
    refine s_cv [] [] rfl g (Or.inl rfl) rfl rfl (Nat.le_of_ble_eq_true rfl) rfl rfl (t_look (PP := fun rv h => ∃ s1, rv = some (.int (iI (if tSk T z (s 168 7) < z then T (tSk T z (s 168 7)) else -1))) ∧ h = am_hp E s1 ∧ am_Fm [] [7, 8, 9] s s1 ∧ yt s1 = ⟨tSk T z (s 168 7), s 168 8, s 168 9⟩) g hx (fun s1 a b => ⟨s1, rfl, rfl, a, b⟩)) ?_
    rintro rv h9 ⟨s1, rfl, rfl, hF, e1⟩
    have p1 : s1 168 7 = tSk T z (s 168 7) := congrArg txS.p e1
    have f1 : s1 168 8 = s 168 8 := congrArg txS.f e1
    have u1 : s1 168 9 = s 168 9 := congrArg txS.u e1
    have r1 := tSk_r (T := T) (z := z) (p := s 168 7) (by omega)
    have br : -1 ≤ (if tSk T z (s 168 7) < z then T (tSk T z (s 168 7)) else -1) ∧ (if tSk T z (s 168 7) < z then T (tSk T z (s 168 7)) else -1) ≤ 126 := by
      split
      · have := hx.tr (tSk T z (s 168 7)) (by omega) (by assumption); omega
      · omega
    refine am_s rfl rfl ?_
    refine s_cne rfl ⟨by omega, by omega⟩ ⟨by omega, by omega⟩ (fun c2 => ?_) (fun c2 => ?_)
    · refine am_s rfl rfl ?_
      refine am_s rfl rfl ?_
      refine s_gi (x := 7) rfl g rfl rfl rfl ?_
      refine s_pi (x := 8) rfl g rfl rfl rfl rfl ?_
      refine am_r rfl rfl (hPP _ (Fm_w hF (by decide)) ?_)
      unfold tTk
      rw [if_neg (show ¬ 0 ≤ (yt s).f by show ¬ 0 ≤ s 168 8; omega), if_neg (fun y => ?_)]
      · unfold yt
        rw [am_w_x (by decide), am_w_eq, am_w_x (by decide), p1, u1]
      · have y1 : tSk T z (s 168 7) < z := y.1
        have y2 : T (tSk T z (s 168 7)) = c := y.2
        rw [if_pos y1] at *; omega
    · refine am_s rfl rfl ?_
      refine am_s rfl rfl ?_
      refine s_gi (x := 7) rfl g rfl rfl rfl ?_
      refine s_k 1 rfl rfl ?_
      refine s_iadd rfl ?_
      refine s_pi (x := 7) rfl g rfl rfl rfl rfl ?_
      refine am_s rfl rfl ?_
      refine am_r rfl rfl (hPP _ (Fm_w hF (by decide)) ?_)
      have y1 : tSk T z (s 168 7) < z := by
        by_cases y : tSk T z (s 168 7) < z
        · exact y
        · rw [if_neg y] at *; omega
      unfold tTk
      rw [if_neg (show ¬ 0 ≤ (yt s).f by show ¬ 0 ≤ s 168 8; omega), if_pos ⟨y1, by show T (tSk T z (s 168 7)) = c; rw [if_pos y1] at *; omega⟩]
      unfold yt
      rw [am_w_eq, am_w_x (by decide), am_w_x (by decide), p1, f1, u1]
