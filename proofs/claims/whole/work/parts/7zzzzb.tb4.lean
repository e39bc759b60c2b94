/-! the class looks through its signs -/
theorem lI_i (v : Int) : (lI v).toInt32 = iI v := Int64.toInt32_ofInt
theorem s_l2i {d i pc : Nat} {lv : am_L} {r : List Value} {P : Option Value → am_H → Prop} {h : am_H} {aux : List Nat} {v : Int} (h1 : am_fetch i pc = some (.l2i, 1, aux)) (k9 : am_wp d i (pc + 1) lv (.int (iI v) :: r) h P) : am_wp d i pc lv (.long (lI v) :: r) h P := am_s (st' := .int (iI v) :: r) h1 (by rw [← lI_i]; rfl) k9
theorem s_lneg {d i pc : Nat} {lv : am_L} {r : List Value} {P : Option Value → am_H → Prop} {h : am_H} {aux : List Nat} {v : Int} (h1 : am_fetch i pc = some (.lneg, 1, aux)) (k9 : am_wp d i (pc + 1) lv (.long (lI (-v)) :: r) h P) : am_wp d i pc lv (.long (lI v) :: r) h P := am_s (st' := .long (lI (-v)) :: r) h1 (by rw [show lI (-v) = - lI v from Int64.ofInt_neg v]; rfl) k9
def xt (s : am_S) : txS := ⟨s 2 2, s 2 3, s 2 4⟩
def txFr (s s' : am_S) : Prop := (∀ a, a ≠ 2 → s' a = s a) ∧ ∀ y, y ≠ 2 → y ≠ 3 → y ≠ 4 → s' 2 y = s 2 y
theorem txFr_r (s : am_S) : txFr s s := ⟨fun _ _ => rfl, fun _ _ _ _ => rfl⟩
theorem txFr_t {s s1 s2 : am_S} (h : txFr s s1) (h2 : txFr s1 s2) : txFr s s2 := ⟨fun a ha => (h2.1 a ha).trans (h.1 a ha), fun y a b c => (h2.2 y a b c).trans (h.2 y a b c)⟩
theorem txFr_w {s s1 : am_S} {x v : Int} (h : txFr s s1) (hx : x = 2 ∨ x = 3 ∨ x = 4) : txFr s (am_w s1 2 x v) := ⟨fun a ha => by rw [am_w_row ha]; exact h.1 a ha, fun y a b c => by rw [am_w_x (by omega)]; exact h.2 y a b c⟩
abbrev txH (E : am_Ev) (s : am_S) (T : Int → Int) (z : Int) : Prop := Nonempty (PProd (s 2 1 = z) (PProd (0 ≤ z ∧ z ≤ E.2.2.1.2) (PProd (∀ y, 0 ≤ y → y < z → s E.2.2.1.1 y = T y) (PProd (∀ y, 0 ≤ y → y < z → 32 ≤ T y ∧ T y ≤ 126) (txO z (xt s))))))
theorem txH.ez {E : am_Ev} {s : am_S} {T : Int → Int} {z : Int} (h_ : txH E s T z) : s 2 1 = z := h_.elim (fun x_ => x_.1)
theorem txH.zl {E : am_Ev} {s : am_S} {T : Int → Int} {z : Int} (h_ : txH E s T z) : 0 ≤ z ∧ z ≤ E.2.2.1.2 := h_.elim (fun x_ => x_.2.1)
theorem txH.et {E : am_Ev} {s : am_S} {T : Int → Int} {z : Int} (h_ : txH E s T z) : ∀ y, 0 ≤ y → y < z → s E.2.2.1.1 y = T y := h_.elim (fun x_ => x_.2.2.1)
theorem txH.tr {E : am_Ev} {s : am_S} {T : Int → Int} {z : Int} (h_ : txH E s T z) : ∀ y, 0 ≤ y → y < z → 32 ≤ T y ∧ T y ≤ 126 := h_.elim (fun x_ => x_.2.2.2.1)
theorem txH.o {E : am_Ev} {s : am_S} {T : Int → Int} {z : Int} (h_ : txH E s T z) : txO z (xt s) := h_.elim (fun x_ => x_.2.2.2.2)
theorem txH_f {E : am_Ev} {s s1 : am_S} {T : Int → Int} {z : Int} (gd : am_Ed E) (h : txH E s T z) (f : txFr s s1) (o : txO z (xt s1)) : txH E s1 T z := ⟨(f.2 1 (by decide) (by decide) (by decide)).trans h.ez, h.zl, fun y a b => by rw [f.1 _ (lo_ne gd.s0 (show am_lo 2 = _ from rfl))]; exact h.et y a b, h.tr, o⟩
theorem xt_e {s s1 : am_S} (h2 : s1 2 2 = s 2 2) (h3 : s1 2 3 = s 2 3) (h4 : s1 2 4 = s 2 4) : xt s1 = xt s := by unfold xt; rw [h2, h3, h4]
theorem t_here {d : Nat} {E : am_Ev} {s : am_S} {PP : Option Value → am_H → Prop} (g : am_Eg E) (gd : am_Ed E) {T : Int → Int} {z : Int} (hx : txH E s T z) (hPP : PP (some (.int (iI (if s 2 2 < z then T (s 2 2) else -1)))) (am_hp E s)) : am_wp d 87 0 (lv_args 0 [.ref 2]) [] (am_hp E s) PP := by
  have z0 := hx.zl
  have o1 := hx.o.1
  have o2 := hx.o.2.1
  have o3 := hx.o.2.2
  unfold xt at o1 o2 o3
  simp only [txS.p, txS.f, txS.u] at o1 o2 o3
  have ez := hx.ez
  have sg2 := gd.s2
  refine am_s rfl rfl ?_
  refine s_gi (x := 2) rfl g rfl rfl rfl ?_
  refine am_s rfl rfl ?_
  refine s_gi (x := 1) rfl g rfl rfl rfl ?_
  refine s_cge rfl ⟨by omega, by omega⟩ ⟨by omega, by omega⟩ (fun c1 => ?_) (fun c1 => ?_)
  · refine s_k (-1) rfl rfl ?_
    rw [if_neg (by omega)] at hPP
    exact am_r rfl rfl hPP
  · refine am_s rfl rfl ?_
    refine s_g5 rfl g rfl rfl ?_
    refine am_s rfl rfl ?_
    refine s_gi (x := 2) rfl g rfl rfl rfl ?_
    refine s_baS rfl gd ⟨by omega, by omega⟩ ?_
    refine am_s rfl rfl ?_
    rw [if_pos (by omega), ← hx.et _ (by omega) (by omega)] at hPP
    exact am_r rfl rfl hPP
theorem t_atDigit {d : Nat} {E : am_Ev} {s : am_S} {PP : Option Value → am_H → Prop} (g : am_Eg E) (gd : am_Ed E) {T : Int → Int} {z : Int} (hx : txH E s T z) (h1 : (s 2 2 < z ∧ 48 ≤ T (s 2 2) ∧ T (s 2 2) ≤ 57) → PP (some (.int (iI 1))) (am_hp E s)) (h0 : ¬ (s 2 2 < z ∧ 48 ≤ T (s 2 2) ∧ T (s 2 2) ≤ 57) → PP (some (.int (iI 0))) (am_hp E s)) : am_wp (d + 1) 88 0 (lv_args 0 [.ref 2]) [] (am_hp E s) PP := by
  have z0 := hx.zl
  have o1 := hx.o.1
  have o2 := hx.o.2.1
  have o3 := hx.o.2.2
  unfold xt at o1 o2 o3
  simp only [txS.p, txS.f, txS.u] at o1 o2 o3
  have ez := hx.ez
  have sg2 := gd.s2
  refine am_s rfl rfl ?_
  refine s_cv [] [] rfl g (Or.inl rfl) rfl rfl (Nat.le_of_ble_eq_true rfl) rfl rfl (t_here (PP := fun rv h => rv = some (.int (iI (if s 2 2 < z then T (s 2 2) else -1))) ∧ h = am_hp E s) g gd hx ⟨rfl, rfl⟩) ?_
  rintro rv h9 ⟨rfl, rfl⟩
  have br : -1 ≤ (if s 2 2 < z then T (s 2 2) else -1) ∧ (if s 2 2 < z then T (s 2 2) else -1) ≤ 126 := by
    split
    · have := hx.tr (s 2 2) (by omega) (by assumption); omega
    · omega
  refine am_s rfl rfl ?_
  refine am_s rfl rfl ?_
  refine s_k 48 rfl rfl ?_
  refine s_clt rfl ⟨by omega, by omega⟩ ⟨by omega, by omega⟩ (fun c1 => ?_) (fun c1 => ?_)
  · refine s_k 0 rfl rfl ?_
    refine am_r rfl rfl (h0 (fun y => ?_))
    rw [if_pos y.1] at *
    omega
  · refine am_s rfl rfl ?_
    refine s_k 57 rfl rfl ?_
    refine s_cgt rfl ⟨by omega, by omega⟩ ⟨by omega, by omega⟩ (fun c2 => ?_) (fun c2 => ?_)
    · refine s_k 0 rfl rfl ?_
      refine am_r rfl rfl (h0 (fun y => ?_))
      rw [if_pos y.1] at *
      omega
    · refine s_k 1 rfl rfl ?_
      refine am_s rfl rfl ?_
      refine am_r rfl rfl (h1 ?_)
      by_cases y : s 2 2 < z
      · rw [if_pos y] at *; exact ⟨y, by omega, by omega⟩
      · rw [if_neg y] at *; omega
theorem t_skip {d : Nat} {E : am_Ev} {s : am_S} {PP : Option Value → am_H → Prop} (g : am_Eg E) (gd : am_Ed E) {T : Int → Int} {z : Int} (hx : txH E s T z) (hPP : ∀ s1, txFr s s1 → xt s1 = ⟨tSk T z (s 2 2), s 2 3, s 2 4⟩ → PP none (am_hp E s1)) : am_wp d 89 0 (lv_args 0 [.ref 2]) [] (am_hp E s) PP := by
  have z0 := hx.zl
  have o1 := hx.o.1
  have o2 := hx.o.2.1
  have o3 := hx.o.2.2
  unfold xt at o1 o2 o3
  simp only [txS.p, txS.f, txS.u] at o1 o2 o3
  have ez := hx.ez
  have sg2 := gd.s2
  refine am_lv [(0, .ref 2)] rfl rfl ⟨rfl, trivial⟩ ?_
  refine s_while (X := Unit) (fun _ s1 => txFr s s1 ∧ s1 2 3 = s 2 3 ∧ s1 2 4 = s 2 4 ∧ (0 ≤ s1 2 2 ∧ s1 2 2 ≤ z) ∧ tSk T z (s1 2 2) = tSk T z (s 2 2)) (fun _ s1 => (z - s1 2 2).toNat) (fun _ => [(0, .ref 2)]) ?_ (x := ()) ⟨txFr_r s, rfl, rfl, o1, rfl⟩
  · rintro - s1 ⟨hF, h3, h4, hr, hS⟩ kk
    try simp only at kk ⊢
    have e1 : s1 2 1 = z := (hF.2 1 (by decide) (by decide) (by decide)).trans ez
    refine am_s rfl rfl ?_
    refine s_gi (x := 2) rfl g rfl rfl rfl ?_
    refine am_s rfl rfl ?_
    refine s_gi (x := 1) rfl g rfl rfl rfl ?_
    refine s_cge rfl ⟨by omega, by omega⟩ ⟨by omega, by omega⟩ (fun c1 => ?_) (fun c1 => ?_)
    · refine am_r rfl rfl (hPP s1 hF ?_)
      have q := tSk_eq T z (s1 2 2)
      rw [if_neg (by omega)] at q
      rw [hS] at q
      unfold xt
      rw [h3, h4, ← q]
    · refine am_s rfl rfl ?_
      refine s_g5 rfl g rfl rfl ?_
      refine am_s rfl rfl ?_
      refine s_gi (x := 2) rfl g rfl rfl rfl ?_
      refine s_baS rfl gd ⟨by omega, by omega⟩ ?_
      have e9 : s1 E.2.2.1.1 (s1 2 2) = T (s1 2 2) := by rw [hF.1 _ (lo_ne gd.s0 (show am_lo 2 = _ from rfl))]; exact hx.et _ (by omega) (by omega)
      have r9 := hx.tr (s1 2 2) (by omega) (by omega)
      rw [e9]
      refine s_k 32 rfl rfl ?_
      refine s_cne rfl ⟨by omega, by omega⟩ ⟨by omega, by omega⟩ (fun c2 => ?_) (fun c2 => ?_)
      · refine am_r rfl rfl (hPP s1 hF ?_)
        have q := tSk_eq T z (s1 2 2)
        rw [if_neg (by omega)] at q
        rw [hS] at q
        unfold xt
        rw [h3, h4, ← q]
      · refine am_s rfl rfl ?_
        refine am_s rfl rfl ?_
        refine s_gi (x := 2) rfl g rfl rfl rfl ?_
        refine s_k 1 rfl rfl ?_
        refine s_iadd rfl ?_
        refine s_pi (x := 2) rfl g rfl rfl rfl rfl ?_
        refine am_s rfl rfl ?_
        refine am_lv [(0, _)] rfl rfl ⟨rfl, trivial⟩ ?_
        refine kk () _ ⟨txFr_w hF (Or.inl rfl), by rw [am_w_x (by decide)]; exact h3, by rw [am_w_x (by decide)]; exact h4, by rw [am_w_eq]; omega, ?_⟩ ?_
        · rw [am_w_eq]
          have q := tSk_eq T z (s1 2 2)
          rw [if_pos ⟨by omega, by omega⟩] at q
          rw [← q]; exact hS
        · rw [am_w_eq]; omega
