/-! WHAT STANDS BETWEEN CALLS: each one's own part -/
theorem mt_co_w {w w2 : Nat → Nat → Int} {k : Nat} {S : Nat → Bool} {p : Nat → Nat} (h : ∀ i j, i < k → S i = true → j < k → S j = true → w i j = w2 i j) (hp : mt_pmS k S p) : mt_co w k S p = mt_co w2 k S p := by
  unfold mt_co
  refine mt_s_congr (fun i hi => ?_)
  by_cases e : S i = true ∧ i < p i
  · rw [if_pos e, if_pos e]
    have q := hp i hi e.1
    exact h i (p i) hi e.1 q.1 q.2.1
  · rw [if_neg e, if_neg e]
theorem mt_lex_w {w w2 : Nat → Nat → Int} {k : Nat} {S : Nat → Bool} {p : Nat → Nat} (h : ∀ i j, i < k → S i = true → j < k → S j = true → w i j = w2 i j) (hp : mt_lex w k S p) : mt_lex w2 k S p := by
  have hop : ∀ q, mt_opt w k S q ↔ mt_opt w2 k S q := fun q => by
    refine ⟨fun z => ⟨z.1, fun r hr => ?_⟩, fun z => ⟨z.1, fun r hr => ?_⟩⟩
    · rw [← mt_co_w h z.1, ← mt_co_w h hr]; exact z.2 r hr
    · rw [mt_co_w h z.1, mt_co_w h hr]; exact z.2 r hr
  exact ⟨(hop p).mp hp.1, fun q hq i hi hS hj => hp.2 q ((hop q).mpr hq) i hi hS hj⟩
/-- the class's matching stands -/
def pP (s : am_S) : Prop := (∀ c : Nat, c < 20 → pO s c = false → s 60 c = -1) ∧ (∀ c : Nat, c < 20 → pO s c = true → 0 ≤ s 60 c ∧ s 60 c < s 25 0) ∧ mt_lex (pW s) 20 (pO s) (fun c => (s 60 (c : Int)).toNat) ∧ s 58 1 = mt_co (pW s) 20 (pO s) (fun c => (s 60 (c : Int)).toNat) ∧ s 58 2 = 2 * s 58 1
def qP (s : am_S) : Prop := (∀ c : Nat, (c : Int) < s 168 1 → qOm s c = false → s 178 c = -1) ∧ (∀ c : Nat, c < 20 → qOm s c = true → 0 ≤ s 178 c ∧ s 178 c < s 168 1) ∧ mt_lex (qW s) 20 (qOm s) (fun c => (s 178 (c : Int)).toNat) ∧ s 168 22 = mt_co (qW s) 20 (qOm s) (fun c => (s 178 (c : Int)).toNat)
theorem pP_c {s s1 : am_S} (h : pP s) (er : ∀ a, 27 ≤ a → a ≤ 46 → s1 a = s a) (e25 : s1 25 0 = s 25 0) (e48 : s1 48 2 = s 48 2) (e55 : s1 55 = s 55) (e60 : s1 60 = s 60) (e1 : s1 58 1 = s 58 1) (e2 : s1 58 2 = s 58 2) : pP s1 := by
  have eO : pO s1 = pO s := by unfold pO; rw [e48, e55]
  have ew : ∀ i j, i < 20 → pO s i = true → j < 20 → pO s j = true → pW s i j = pW s1 i j := fun i j hi _ _ _ => by
    unfold pW
    rw [er _ (by omega) (by omega)]
  obtain ⟨h1, h2, h3, h4, h5⟩ := h
  refine ⟨?_, ?_, ?_, ?_, ?_⟩
  · rw [eO, e60]; exact h1
  · rw [eO, e60, e25]; exact h2
  · rw [eO, e60]; exact mt_lex_w ew h3
  · rw [eO, e60, e1, h4]; exact mt_co_w ew h3.1.1
  · rw [e1, e2]; exact h5
theorem pRes_pP {s s1 : am_S} (h : pRes s s1) : pP s1 := by
  have e48 : s1 48 = s 48 := h.fr 48 (Or.inl (by decide))
  have e55 : s1 55 = s 55 := h.fr 55 (Or.inl (by decide))
  have e25 : s1 25 = s 25 := h.fr 25 (Or.inl (by decide))
  have eO : pO s1 = pO s := by unfold pO; rw [e48, e55]
  have ew : ∀ i j, i < 20 → pO s i = true → j < 20 → pO s j = true → pW s i j = pW s1 i j := fun i j hi _ _ _ => by
    unfold pW
    rw [h.fr _ (Or.inl (by omega))]
  refine ⟨by rw [eO]; exact h.out, by rw [eO, e25]; exact h.inn, by rw [eO]; exact mt_lex_w ew h.lex, ?_, h.pri⟩
  rw [eO, h.sum]; exact mt_co_w ew h.lex.1.1
theorem qP_c {s s1 : am_S} (h : qP s) (e169 : s1 169 = s 169) (e1 : s1 168 1 = s 168 1) (eO : ∀ c, c < 20 → qOm s1 c = qOm s c) (hn : s 168 1 ≤ 20) (e178 : ∀ c : Int, 0 ≤ c → c < 20 → s1 178 c = s 178 c) (e22 : s1 168 22 = s 168 22) : qP s1 := by
  have eW : qW s1 = qW s := by funext a b; unfold qW my; rw [e169]
  obtain ⟨h1, h2, h3, h4⟩ := h
  have ep : ∀ i, i < 20 → qOm s i = true → (fun c : Nat => (s 178 (c : Int)).toNat) i = (fun c : Nat => (s1 178 (c : Int)).toNat) i := fun i hi _ => by
    show (s 178 (i : Int)).toNat = (s1 178 (i : Int)).toNat
    rw [e178 i (by omega) (by omega)]
  refine ⟨fun c c1 c2 => ?_, fun c c1 c2 => ?_, ?_, ?_⟩
  · rw [e1] at c1
    rw [e178 c (by omega) (by omega)]
    exact h1 c c1 (by rw [← eO c (by omega)]; exact c2)
  · rw [e178 c (by omega) (by omega), e1]
    exact h2 c c1 (by rw [← eO c c1]; exact c2)
  · rw [eW]
    exact mt_lex_set (fun i hi => (eO i hi).symm) (mt_lex_congr ep h3)
  · rw [e22, h4, eW, mt_co_congr ep]
    unfold mt_co
    exact mt_s_congr (fun i hi => by rw [eO i hi])
theorem qRes_qP {s s1 : am_S} (h : qRes s s1) : qP s1 := by
  have e1 : s1 168 1 = s 168 1 := h.fr.2 1 (by decide)
  have eO : qOm s1 = qOm s := by unfold qOm; rw [h.fr.2 20 (by decide), h.fr.1 177 (by decide)]
  have eW : qW s1 = qW s := by funext a b; unfold qW my; rw [h.fr.1 169 (by decide)]
  refine ⟨by rw [e1, eO]; exact h.out, by rw [e1, eO]; exact h.inn, by rw [eW, eO]; exact h.lex, by rw [eW, eO]; exact h.sum⟩
/-- the class's part -/
abbrev iX (s : am_S) : Prop := Nonempty (PProd (bHx s) (PProd (lk_ok s) (PProd (∀ y, 0 ≤ y → y < 20 → s 54 y = 0) (PProd (s 58 0 = 1 → pP s) (PProd (s 151 0 = 0 ∨ s 151 0 = 1) (PProd (s 151 0 = 1 → s 151 1 = s 25 0 ∧ tOK (s 25 0).toNat (s 152)) (PProd (0 ≤ s 48 2 ∧ s 48 2 ≤ 20) (PProd (0 ≤ s 127 1 ∧ s 127 1 ≤ 40) (0 ≤ s 151 1 ∧ s 151 1 ≤ 20)))))))))
theorem iX.hx {s : am_S} (h_ : iX s) : bHx s := h_.elim (fun x_ => x_.1)
theorem iX.lk {s : am_S} (h_ : iX s) : lk_ok s := h_.elim (fun x_ => x_.2.1)
theorem iX.z54 {s : am_S} (h_ : iX s) : ∀ y, 0 ≤ y → y < 20 → s 54 y = 0 := h_.elim (fun x_ => x_.2.2.1)
theorem iX.pp {s : am_S} (h_ : iX s) : s 58 0 = 1 → pP s := h_.elim (fun x_ => x_.2.2.2.1)
theorem iX.tf {s : am_S} (h_ : iX s) : s 151 0 = 0 ∨ s 151 0 = 1 := h_.elim (fun x_ => x_.2.2.2.2.1)
theorem iX.tt {s : am_S} (h_ : iX s) : s 151 0 = 1 → s 151 1 = s 25 0 ∧ tOK (s 25 0).toNat (s 152) := h_.elim (fun x_ => x_.2.2.2.2.2.1)
theorem iX.r48 {s : am_S} (h_ : iX s) : 0 ≤ s 48 2 ∧ s 48 2 ≤ 20 := h_.elim (fun x_ => x_.2.2.2.2.2.2.1)
theorem iX.r127 {s : am_S} (h_ : iX s) : 0 ≤ s 127 1 ∧ s 127 1 ≤ 40 := h_.elim (fun x_ => x_.2.2.2.2.2.2.2.1)
theorem iX.r151 {s : am_S} (h_ : iX s) : 0 ≤ s 151 1 ∧ s 151 1 ≤ 20 := h_.elim (fun x_ => x_.2.2.2.2.2.2.2.2)
/-- the other one's part -/
abbrev iM (s : am_S) : Prop := Nonempty (PProd (bHy s) (PProd (s 168 18 = 1 → qP s) (PProd (s 168 29 = 0 ∨ s 168 29 = 1) (PProd (s 168 29 = 1 → tOK (s 168 1).toNat (s 183)) (PProd (0 ≤ s 168 20 ∧ s 168 20 ≤ 20) (0 ≤ s 168 26 ∧ s 168 26 ≤ 40))))))
theorem iM.hy {s : am_S} (h_ : iM s) : bHy s := h_.elim (fun x_ => x_.1)
theorem iM.qp {s : am_S} (h_ : iM s) : s 168 18 = 1 → qP s := h_.elim (fun x_ => x_.2.1)
theorem iM.tf {s : am_S} (h_ : iM s) : s 168 29 = 0 ∨ s 168 29 = 1 := h_.elim (fun x_ => x_.2.2.1)
theorem iM.tt {s : am_S} (h_ : iM s) : s 168 29 = 1 → tOK (s 168 1).toNat (s 183) := h_.elim (fun x_ => x_.2.2.2.1)
theorem iM.r20 {s : am_S} (h_ : iM s) : 0 ≤ s 168 20 ∧ s 168 20 ≤ 20 := h_.elim (fun x_ => x_.2.2.2.2.1)
theorem iM.r26 {s : am_S} (h_ : iM s) : 0 ≤ s 168 26 ∧ s 168 26 ≤ 40 := h_.elim (fun x_ => x_.2.2.2.2.2)
theorem lk_c {s s1 : am_S} (h : lk_ok s) (hn : s 25 0 ≤ 20) (e0 : s1 25 0 = s 25 0) (e2 : s1 25 2 = s 25 2) (er : ∀ a, 27 ≤ a → a ≤ 46 → s1 a = s a) (e47 : s1 47 = s 47) : lk_ok s1 := by
  rcases h with z | ⟨z, h⟩
  · exact Or.inl (by rw [e2]; exact z)
  · refine Or.inr ⟨by rw [e2]; exact z, ?_⟩
    rw [e0, e47]
    refine fl_is_congr (fun x y x0 x1 y0 y1 => ?_) h
    unfold mx
    rw [er _ (by omega) (by omega)]
theorem iX_c {s s1 : am_S} (h : iX s) (e : ∀ q, q < 158 → s1 q = s q) : iX s1 := by
  have m2 := h.hx.hm.2.1
  refine ⟨bHx_c h.hx (by rw [e 25 (by decide)]) (fun q hq _ _ => e q (by omega)), lk_c h.lk m2 (by rw [e 25 (by decide)]) (by rw [e 25 (by decide)]) (fun a a0 a1 => e a (by omega)) (e 47 (by decide)), by rw [e 54 (by decide)]; exact h.z54, fun z => ?_, by rw [e 151 (by decide)]; exact h.tf, by rw [e 151 (by decide), e 25 (by decide), e 152 (by decide)]; exact h.tt, by rw [e 48 (by decide)]; exact h.r48, by rw [e 127 (by decide)]; exact h.r127, by rw [e 151 (by decide)]; exact h.r151⟩
  rw [e 58 (by decide)] at z
  exact pP_c (h.pp z) (fun a a0 a1 => e a (by omega)) (by rw [e 25 (by decide)]) (by rw [e 48 (by decide)]) (e 55 (by decide)) (e 60 (by decide)) (by rw [e 58 (by decide)]) (by rw [e 58 (by decide)])
theorem iX_lk {s s1 : am_S} (h : iX s) (k : lk_to s s1) : iX s1 := by
  have m2 := h.hx.hm.2.1
  have e : ∀ q, q ≠ 25 → q ≠ 47 → s1 q = s q := fun q a b => k.1 q (fun z => by simp at z; omega)
  refine ⟨bHx_lk h.hx k, Or.inr ⟨k.2.2.1, ?_⟩, by rw [e 54 (by decide) (by decide)]; exact h.z54, fun z => ?_, by rw [e 151 (by decide) (by decide)]; exact h.tf, by rw [e 151 (by decide) (by decide), k.2.1, e 152 (by decide) (by decide)]; exact h.tt, by rw [e 48 (by decide) (by decide)]; exact h.r48, by rw [e 127 (by decide) (by decide)]; exact h.r127, by rw [e 151 (by decide) (by decide)]; exact h.r151⟩
  · rw [k.2.1]
    refine fl_is_congr (fun x y x0 x1 y0 y1 => ?_) k.2.2.2
    unfold mx
    rw [e _ (by omega) (by omega)]
  · rw [e 58 (by decide) (by decide)] at z
    exact pP_c (h.pp z) (fun a a0 a1 => e a (by omega) (by omega)) k.2.1 (by rw [e 48 (by decide) (by decide)]) (e 55 (by decide) (by decide)) (e 60 (by decide) (by decide)) (by rw [e 58 (by decide) (by decide)]) (by rw [e 58 (by decide) (by decide)])
/-- the tree is there -/
theorem iX_tr {s s1 : am_S} (h : iX s) (k : nTr s s1) : iX s1 ∧ s1 48 0 = 1 ∧ tX s1 := by
  have hm := h.hx.hm
  obtain ⟨t1, t2, t3, t4⟩ := nTr_t hm h.hx.ht k
  refine ⟨?_, t3, t2⟩
  rcases k with ⟨-, rfl⟩ | ⟨z, hF, h1, h2⟩
  · exact h
  · have e : ∀ q, q < 48 ∨ q = 49 ∨ q = 54 ∨ 57 < q → s1 q = s q := fun q hq => hF q (fun y => by simp at y; omega)
    have z58 : s 58 0 ≠ 1 := fun y => by have := (h.hx.hpa y).1; omega
    have z127 : s 127 0 ≠ 1 := fun y => z58 (h.hx.hwx y).1
    have m2 := hm.2.1
    refine ⟨⟨t1, fun c c0 c1 => by rw [e 54 (by omega)]; exact h.hx.hp c c0 c1, Or.inr t3, by rw [e 58 (by omega)]; exact h.hx.hg, by rw [e 127 (by omega)]; exact h.hx.hw, fun _ => t2, fun y => absurd (by rw [e 58 (by omega)] at y; exact y) z58, fun y => absurd (by rw [e 127 (by omega)] at y; exact y) z127⟩, lk_c h.lk m2 (by rw [e 25 (by omega)]) (by rw [e 25 (by omega)]) (fun a a0 a1 => e a (by omega)) (e 47 (by omega)), by rw [e 54 (by omega)]; exact h.z54, fun y => absurd (by rw [e 58 (by omega)] at y; exact y) z58, by rw [e 151 (by omega)]; exact h.tf, by rw [e 151 (by omega), e 25 (by omega), e 152 (by omega)]; exact h.tt, ?_, by rw [e 127 (by omega)]; exact h.r127, by rw [e 151 (by omega)]; exact h.r151⟩
    have q := oc_le (dgf (s1 50) (s 25 0).toNat) (s 25 0).toNat
    have q2 : s1 48 2 = oc (dgf (s1 50) (s 25 0).toNat) (s 25 0).toNat := h2.2.1
    omega
theorem iX_pa {s s1 : am_S} (h : iX s) (ht : s 48 0 = 1) (k : nPa s s1) : iX s1 ∧ s1 58 0 = 1 ∧ s1 48 0 = 1 := by
  rcases k with ⟨z, rfl⟩ | ⟨z, hR⟩
  · exact ⟨h, z, ht⟩
  · have hm := h.hx.hm
    have m2 := hm.2.1
    have e : ∀ q, q < 58 ∨ 126 < q → s1 q = s q := hR.fr
    obtain ⟨a, b⟩ := tX_mk hm (h.hx.ht ht) hR.fr
    have z127 : s 127 0 ≠ 1 := fun y => by have := (h.hx.hwx y).1; omega
    have t1 : s1 48 0 = 1 := by rw [e 48 (by omega)]; exact ht
    refine ⟨⟨⟨a, fun c c0 c1 => by rw [e 54 (by omega)]; exact h.hx.hp c c0 c1, Or.inr t1, Or.inr hR.made, by rw [e 127 (by omega)]; exact h.hx.hw, fun _ => b, fun _ => ⟨t1, pRes_pr hm hR⟩, fun y => absurd (by rw [e 127 (by omega)] at y; exact y) z127⟩, lk_c h.lk m2 (by rw [e 25 (by omega)]) (by rw [e 25 (by omega)]) (fun a a0 a1 => e a (by omega)) (e 47 (by omega)), by rw [e 54 (by omega)]; exact h.z54, fun _ => pRes_pP hR, by rw [e 151 (by omega)]; exact h.tf, by rw [e 151 (by omega), e 25 (by omega), e 152 (by omega)]; exact h.tt, by rw [e 48 (by omega)]; exact h.r48, by rw [e 127 (by omega)]; exact h.r127, by rw [e 151 (by omega)]; exact h.r151⟩, hR.made, t1⟩
theorem iX_wk {s s1 : am_S} (h : iX s) (hp : s 58 0 = 1) (k : nWk s s1) : iX s1 ∧ s1 127 0 = 1 ∧ s1 58 0 = 1 ∧ s1 48 0 = 1 ∧ wX s1 := by
  have p1 := h.hx.hpa hp
  rcases k with ⟨z, rfl⟩ | ⟨z, hR⟩
  · exact ⟨h, z, hp, p1.1, (h.hx.hwx z).2⟩
  · have hm := h.hx.hm
    have m2 := hm.2.1
    have e := xW_f hR
    have e' : ∀ q, q < 127 ∨ 150 < q → s1 q = s q := fun q hq => e q (by omega) (by omega) (by omega) (by omega)
    obtain ⟨w1, w2⟩ := xW_wX hR
    obtain ⟨a, b⟩ := tX_lo hm (h.hx.ht p1.1) (fun q hq => e' q (by omega))
    have t1 : s1 48 0 = 1 := by rw [e' 48 (by omega)]; exact p1.1
    have t2 : s1 58 0 = 1 := by rw [e' 58 (by omega)]; exact hp
    refine ⟨⟨⟨a, fun c c0 c1 => by rw [e' 54 (by omega)]; exact h.hx.hp c c0 c1, Or.inr t1, Or.inr t2, Or.inr w2, fun _ => b, fun _ => ⟨t1, ?_⟩, fun _ => ⟨t2, w1⟩⟩, lk_c h.lk m2 (by rw [e' 25 (by omega)]) (by rw [e' 25 (by omega)]) (fun a a0 a1 => e' a (by omega)) (e' 47 (by omega)), by rw [e' 54 (by omega)]; exact h.z54, fun _ => pP_c (h.pp hp) (fun a a0 a1 => e' a (by omega)) (by rw [e' 25 (by omega)]) (by rw [e' 48 (by omega)]) (e' 55 (by omega)) (e' 60 (by omega)) (by rw [e' 58 (by omega)]) (by rw [e' 58 (by omega)]), by rw [e' 151 (by omega)]; exact h.tf, by rw [e' 151 (by omega), e' 25 (by omega), e' 152 (by omega)]; exact h.tt, by rw [e' 48 (by omega)]; exact h.r48, ?_, by rw [e' 151 (by omega)]; exact h.r151⟩, w2, t2, t1, w1⟩
    · have := p1.2
      unfold pr at this ⊢
      rw [e' 25 (by omega), e' 60 (by omega)]; exact this
    · obtain ⟨b0, -, q2, -, q4, -⟩ := w1
      omega
/-- another tour -/
theorem iX_to {s s1 : am_S} (h : iX s) (e : ∀ q, q < 151 → s1 q = s q) (tf : s1 151 0 = 0 ∨ s1 151 0 = 1) (tt : s1 151 0 = 1 → s1 151 1 = s 25 0 ∧ tOK (s 25 0).toNat (s1 152)) (r : 0 ≤ s1 151 1 ∧ s1 151 1 ≤ 20) : iX s1 := by
  have m2 := h.hx.hm.2.1
  refine ⟨bHx_c h.hx (by rw [e 25 (by decide)]) (fun q hq _ _ => e q (by omega)), lk_c h.lk m2 (by rw [e 25 (by decide)]) (by rw [e 25 (by decide)]) (fun a a0 a1 => e a (by omega)) (e 47 (by decide)), by rw [e 54 (by decide)]; exact h.z54, fun z => ?_, tf, by rw [e 25 (by decide)]; exact tt, by rw [e 48 (by decide)]; exact h.r48, by rw [e 127 (by decide)]; exact h.r127, r⟩
  rw [e 58 (by decide)] at z
  exact pP_c (h.pp z) (fun a a0 a1 => e a (by omega)) (by rw [e 25 (by decide)]) (by rw [e 48 (by decide)]) (e 55 (by decide)) (e 60 (by decide)) (by rw [e 58 (by decide)]) (by rw [e 58 (by decide)])
/-- another matrix: nothing else stands -/
theorem iX_new {s s1 : am_S} (h : iX s) (e : ∀ q, (47 < q ∧ q < 158) → s1 q = s q) (hm : mx_ok s1) (h2 : s1 25 2 = 0) : iX (s_forget s1) := by
  have ef : ∀ q, q ≠ 48 → q ≠ 58 → q ≠ 127 → q ≠ 151 → q ≠ 161 → s_forget s1 q = s1 q := fun q a b c d f => by
    funext y
    unfold s_forget
    rw [s_zr_a f, am_w_a d, am_w_a c, am_w_a b, am_w_a a]
  have f48 : ∀ y, y ≠ 0 → s_forget s1 48 y = s1 48 y := fun y hy => by
    unfold s_forget
    rw [s_zr_a (by decide), am_w_a (by decide), am_w_a (by decide), am_w_a (by decide), am_w_x hy]
  have f127 : ∀ y, y ≠ 0 → s_forget s1 127 y = s1 127 y := fun y hy => by
    unfold s_forget
    rw [s_zr_a (by decide), am_w_a (by decide), am_w_x hy, am_w_a (by decide), am_w_a (by decide)]
  have f151 : ∀ y, y ≠ 0 → s_forget s1 151 y = s1 151 y := fun y hy => by
    unfold s_forget
    rw [s_zr_a (by decide), am_w_x hy, am_w_a (by decide), am_w_a (by decide), am_w_a (by decide)]
  have z48 : s_forget s1 48 0 = 0 := rfl
  have z58 : s_forget s1 58 0 = 0 := rfl
  have z127 : s_forget s1 127 0 = 0 := rfl
  have z151 : s_forget s1 151 0 = 0 := rfl
  have m2 := hm.2.1
  have e25 := ef 25 (by decide) (by decide) (by decide) (by decide) (by decide)
  have em : ∀ a b, 0 ≤ a → a < s1 25 0 → mx (s_forget s1) a b = mx s1 a b := fun a b a0 a1 => by
    unfold mx
    rw [ef _ (by omega) (by omega) (by omega) (by omega) (by omega)]
  have e54 : s_forget s1 54 = s 54 := by rw [ef 54 (by decide) (by decide) (by decide) (by decide) (by decide), e 54 (by decide)]
  refine ⟨⟨⟨by rw [e25]; exact hm.1, by rw [e25]; exact m2, fun a b a0 a1 b0 b1 => ?_⟩, fun c c0 c1 => by rw [e54]; exact h.hx.hp c c0 c1, Or.inl z48, Or.inl z58, Or.inl z127, fun y => by omega, fun y => by omega, fun y => by omega⟩, Or.inl (by rw [e25]; exact h2), by rw [e54]; exact h.z54, fun y => by omega, Or.inl z151, fun y => by omega, by rw [f48 2 (by decide), e 48 (by decide)]; exact h.r48, by rw [f127 1 (by decide), e 127 (by decide)]; exact h.r127, by rw [f151 1 (by decide), e 151 (by decide)]; exact h.r151⟩
  rw [e25] at a1 b1
  rw [em a b a0 a1]
  exact hm.2.2 a b a0 a1 b0 b1
