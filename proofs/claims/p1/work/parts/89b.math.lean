/-! Math's four: the kit's rules, and what the small machine says of them -/
theorem am_uq {f d i pc : Nat} {lv : am_L} {st : List Value} {h : am_H} {rv : Option Value} {h' : am_H} {d2 : Nat} {P : Option Value → am_H → Prop} (e : am_exec f d i pc lv st h = some (rv, h')) (k : am_wp d2 i pc lv st h P) : P rv h' := by
  obtain ⟨g, rv2, h2, e2, hp⟩ := k
  have a1 := am_exec_deep (max f g) d (max d d2) i pc lv st h _ (Nat.le_max_left _ _) (am_exec_fuel f (max f g) d i pc lv st h _ (Nat.le_max_left _ _) e)
  have a2 := am_exec_deep (max f g) d2 (max d d2) i pc lv st h _ (Nat.le_max_right _ _) (am_exec_fuel g (max f g) d2 i pc lv st h _ (Nat.le_max_right _ _) e2)
  rw [a1] at a2
  cases a2
  exact hp
theorem am_M219 (x : Int32) (h : am_H) : am_wp 0 219 0 (lv_args 0 [.int x]) [] h (fun rv h' => rv = some (.int (if 0 ≤ x then x else 0 - x)) ∧ h' = h) := by
  refine am_s rfl rfl ?_
  by_cases h1 : 0 ≤ x
  · refine am_bt rfl rfl (decide_eq_true h1) ?_
    refine am_s rfl rfl ?_
    exact am_r rfl rfl ⟨by rw [if_pos h1], rfl⟩
  · refine am_bf rfl rfl (decide_eq_false h1) ?_
    refine am_s rfl rfl ?_
    refine am_s rfl rfl ?_
    refine am_s rfl rfl ?_
    refine am_r rfl rfl ⟨?_, rfl⟩
    rw [if_neg h1]
    refine congrArg (fun z => some (Value.int z)) ?_
    first | rfl | exact (Int32.zero_sub x).symm
theorem am_M221 (x y : Int32) (h : am_H) : am_wp 0 221 0 (lv_args 0 [.int x, .int y]) [] h (fun rv h' => rv = some (.int (if y < x then y else x)) ∧ h' = h) := by
  refine am_s rfl rfl ?_
  refine am_s rfl rfl ?_
  by_cases h1 : y < x
  · refine am_bt rfl rfl (decide_eq_true h1) ?_
    refine am_s rfl rfl ?_
    exact am_r rfl rfl ⟨by rw [if_pos h1], rfl⟩
  · refine am_bf rfl rfl (decide_eq_false h1) ?_
    refine am_s rfl rfl ?_
    refine am_s rfl rfl ?_
    exact am_r rfl rfl ⟨by rw [if_neg h1], rfl⟩
theorem am_M222 (x y : Int64) (h : am_H) : am_wp 0 222 0 (lv_args 0 [.long x, .long y]) [] h (fun rv h' => rv = some (.long (if y < x then y else x)) ∧ h' = h) := by
  refine am_s rfl rfl ?_
  refine am_s rfl rfl ?_
  refine am_s rfl rfl ?_
  by_cases h1 : y < x
  · refine am_bt rfl rfl (decide_eq_true ((am_lg_gt _ _).mpr h1)) ?_
    refine am_s rfl rfl ?_
    exact am_r rfl rfl ⟨by rw [if_pos h1], rfl⟩
  · refine am_bf rfl rfl (decide_eq_false (fun z => h1 ((am_lg_gt _ _).mp z))) ?_
    refine am_s rfl rfl ?_
    refine am_s rfl rfl ?_
    exact am_r rfl rfl ⟨by rw [if_neg h1], rfl⟩
theorem am_M220 (x y : Int64) (h : am_H) : am_wp 0 220 0 (lv_args 0 [.long x, .long y]) [] h (fun rv h' => rv = some (.long (if y < x then x else y)) ∧ h' = h) := by
  refine am_s rfl rfl ?_
  refine am_s rfl rfl ?_
  refine am_s rfl rfl ?_
  by_cases h1 : x < y
  · refine am_bt rfl rfl (decide_eq_true ((am_lg_lt _ _).mpr h1)) ?_
    refine am_s rfl rfl ?_
    exact am_r rfl rfl ⟨by rw [if_neg (fun z => Int64.lt_irrefl (Int64.lt_trans h1 z))], rfl⟩
  · refine am_bf rfl rfl (decide_eq_false (fun z => h1 ((am_lg_lt _ _).mp z))) ?_
    refine am_s rfl rfl ?_
    refine am_s rfl rfl ?_
    refine am_r rfl rfl ⟨?_, rfl⟩
    by_cases h2 : y < x
    · rw [if_pos h2]
    · rw [if_neg h2]
      rcases Int64.lt_or_eq_of_le (Int64.not_lt.mp h1) with h3 | h3
      · exact absurd h3 h2
      · rw [h3]
set_option maxRecDepth 100000 in
theorem am_j219 {qj : am_M} (h : am_meth[219]? = some qj) : qj = (Lib.Math.abs.name, Lib.Math.abs.code, 1, some .int) := (Option.some.inj h).symm
set_option maxRecDepth 100000 in
theorem am_j220 {qj : am_M} (h : am_meth[220]? = some qj) : qj = (Lib.MathLoose.max_long.x, Lib.MathLoose.max_long.code, 4, some .long) := (Option.some.inj h).symm
set_option maxRecDepth 100000 in
theorem am_j221 {qj : am_M} (h : am_meth[221]? = some qj) : qj = (Lib.Math.min.name, Lib.Math.min.code, 2, some .int) := (Option.some.inj h).symm
set_option maxRecDepth 100000 in
theorem am_j222 {qj : am_M} (h : am_meth[222]? = some qj) : qj = (Lib.MathLoose.min_long.x, Lib.MathLoose.min_long.code, 4, some .long) := (Option.some.inj h).symm
/-- a run whose second step can't be done -/
theorem am_no2 {f d i pc : Nat} {lv : am_L} {st : List Value} {h : am_H} {r : Option Value × am_H} {pc1 : Nat} {lv1 : am_L} {st1 : List Value} {h1 : am_H} (g1 : (am_fetch i pc).bind (fun e => am_do i pc e lv st h) = some (.inl (pc1, lv1, st1, h1))) (g2 : (am_fetch i pc1).bind (fun e => am_do i pc1 e lv1 st1 h1) = none) : am_exec f d i pc lv st h ≠ some r := by
  have one : ∀ g : Nat, am_exec g d i pc1 lv1 st1 h1 = none := by
    intro g
    cases g with
    | zero => rfl
    | succ g =>
      unfold am_exec
      cases hf : am_fetch i pc1 with
      | none => rfl
      | some e2 =>
        rw [hf] at g2
        have g2 : am_do i pc1 e2 lv1 st1 h1 = none := g2
        simp only [g2]
  cases f with
  | zero => intro z; cases z
  | succ f =>
    unfold am_exec
    cases hf : am_fetch i pc with
    | none => rw [hf] at g1; cases g1
    | some e2 =>
      rw [hf] at g1
      have g1 : am_do i pc e2 lv st h = some (.inl (pc1, lv1, st1, h1)) := g1
      simp only [g1, one f]
      intro z
      cases z
section AMMA
variable {p : Program} {l : Launch} {en : Env} {R : Room} {s : State} {m : MethodId} {args : Array Value} {below : List Frame} {meth : Method} {c : Code} {H : Heap} {locs : List Loc} {cells slots : Nat} {Q : State → Prop}
variable {D : va_G} {cy : Nat → ClassId} {b0 base pc : Nat} {q : am_M} {ls : Array Slot} {lv : am_L} {rest : List Value} {e : am_I} {st : List Value} {h : am_H}
theorem am_wmath (C : am_Cx p s m args meth c D cy b0 base q) (hlz : ls.size = q.2.2.1) (hk9 : am_kind e.1 = 21) (hdg : decode q.2.1 pc = .ok (e.1, e.2.1)) (hln : am_ln e.1 = e.2.1) (hok : am_okA q pc e = true) (hn4 : am_n4 e = true) {j : Nat} {as : List Value} (hp : am_d21 pc e lv st h = some (.inr (.inl (j, as, rest)))) (hm : am_mth j = true) (hfr : 1 ≤ R.frames) (hlc : 64 ≤ R.locals)
    {f d : Nat} {rv : Option Value} {h' : am_H} (hx9 : am_exec f d j 0 (lv_args 0 as) [] h = some (rv, h')) (hrc : cells ≤ R.cells) (hrs : slots ≤ R.slots) (hcw : am_CodeOk)
    (kk : h' = h → W p l en R s m args below meth c H locs cells slots Q (F0 m (pc + 3) ls (am_sm (am_t b0 base) (rv.toList ++ rest)))) : W p l en R s m args below meth c H locs cells slots Q (F0 m pc ls (am_sm (am_t b0 base) st)) := by
  obtain ⟨ins, len, aux⟩ := e
  simp only at hdg hln hk9
  subst hln
  obtain ⟨hx, hb, hml, hr, hnm, hlk, hown, hts, hnw, hK, hbb⟩ := C
  unfold am_d21 at hp
  simp only at hp
  unfold am_mth at hm
  simp only [Bool.and_eq_true, decide_eq_true_eq] at hm
  cases ins <;> try (simp [am_kind] at hk9; done)
  case invokevirtual idx =>
    exfalso
    have hok : (aux == [9] || am_iv q.1.cls idx aux) = true := hok
    rw [Bool.or_eq_true] at hok
    rcases hok with hok | hok
    · have : aux = [9] := by simpa using hok
      subst this
      cases hp
    · match aux, hok with
      | [k, j2, n, p1, p2, p3, p4, p5, ci], hok =>
        unfold am_iv at hok
        simp only at hok
        split at hok
        · rename_i qj r hqj hr9
          simp only [Bool.and_eq_true, decide_eq_true_eq, Bool.or_eq_true, beq_iff_eq] at hok
          obtain ⟨⟨⟨⟨⟨⟨⟨⟨o0, o1⟩, o2⟩, o3⟩, o4⟩, o5⟩, o6⟩, o7⟩, o8⟩ := hok
          have hp : am_call j2 (n + 1) (am_recv h ci) st = some (.inr (.inl (j, as, rest))) := by
            rcases o0 with rfl | rfl
            · exact hp
            · exact hp
          obtain ⟨rfl, e1, e2, e3, e4, -⟩ := am_call_spec hp
          have hne := List.all_eq_true.mp am_clB r (List.mem_of_getElem? hr9)
          have hne : r.1 ≠ "java/lang/Math" := of_decide_eq_true hne
          apply hne
          rw [o6]
          rcases (show j = 219 ∨ j = 220 ∨ j = 221 ∨ j = 222 by omega) with rfl | rfl | rfl | rfl
          · have := am_j219 hqj; rw [this]; rfl
          · have := am_j220 hqj; rw [this]; rfl
          · have := am_j221 hqj; rw [this]; rfl
          · have := am_j222 hqj; rw [this]; rfl
        · cases hok
  case invokespecial idx =>
    exfalso
    have hok : am_ix q.1.cls idx aux = true := hok
    unfold am_ix at hok
    split at hok
    · simp only at hp
      split at hp
      · split at hp <;> cases hp
      · cases hp
    · rename_i k j2 n p1 p2 p3 p4 hz9
      split at hok
      · rename_i qj hqj
        simp only [Bool.and_eq_true, decide_eq_true_eq, Bool.or_eq_true, beq_iff_eq] at hok
        obtain ⟨⟨⟨⟨⟨⟨⟨⟨o0, o1⟩, o2⟩, o3⟩, o4⟩, o5⟩, o6⟩, o7⟩, o8⟩ := hok
        have hp : am_call j2 (n + 1) (fun as => match as with
          | .ref _ :: _ => true
          | _ => false) st = some (.inr (.inl (j, as, rest))) := by
          rcases o0 with rfl | rfl
          · exact hp
          · exact hp
        obtain ⟨rfl, -⟩ := am_call_spec hp
        rcases (show j = 219 ∨ j = 220 ∨ j = 221 ∨ j = 222 by omega) with rfl | rfl | rfl | rfl
        · rw [am_j219 hqj] at o6; exact absurd o6 (by decide)
        · rw [am_j220 hqj] at o6; exact absurd o6 (by decide)
        · rw [am_j221 hqj] at o6; exact absurd o6 (by decide)
        · rw [am_j222 hqj] at o6; exact absurd o6 (by decide)
      · cases hok
    · cases hok
  case invokestatic idx =>
    have hok : am_is q.1.cls idx aux = true := hok
    unfold am_is at hok
    split at hok
    · exfalso
      simp only at hp
      split at hp
      · split at hp
        · rename_i r9 hz9
          generalize am_cp _ _ _ _ _ = zz at hp
          cases zz <;> cases hp
        · cases hp
      · cases hp
    · rename_i k j2 n p1 p2 p3 p4 hz9
      split at hok
      · rename_i qj hqj
        simp only [Bool.and_eq_true, decide_eq_true_eq, Bool.or_eq_true, beq_iff_eq] at hok
        obtain ⟨⟨⟨⟨⟨⟨o0, o1⟩, o2⟩, o3⟩, o4⟩, o7⟩, o8⟩ := hok
        have hp : am_call j2 n (fun _ => true) st = some (.inr (.inl (j, as, rest))) := by
          rcases o0 with rfl | rfl
          · exact hp
          · exact hp
        obtain ⟨rfl, e1, e2, e3, e4, -⟩ := am_call_spec hp
        have hk3 : k = 3 := by
          rcases o0 with h | h
          · exact h
          · exfalso
            subst h
            have : (!am_mth j) = true := hn4
            unfold am_mth at this
            simp only [Bool.not_eq_true', Bool.and_eq_false_iff, decide_eq_false_iff_not] at this
            omega
        subst hk3
        obtain ⟨w2, v2⟩ := am_wd_spec o2
        obtain ⟨w3, v3⟩ := am_wd_spec o3
        have o1 : am_wd p1 (.methodLink q.1.cls idx qj.1) = true := by simpa [am_lk] using o1
        obtain ⟨w1, v1⟩ := am_wd_spec o1
        obtain ⟨w4, v4⟩ := hcw _ _ hqj o4
        have t1 := hts _ w1 v1
        have t2 := hts _ w2 v2
        have t3 := hts _ w3 v3
        have t4 := hts _ w4 v4
        have hst : am_sm (am_t b0 base) st = (am_sm (am_t b0 base) as).reverse ++ am_sm (am_t b0 base) rest := by rw [e1, am_sm_app]
        have hcat : am_cat (am_sm (am_t b0 base) rest) ≤ 8 := by rw [am_sm_cat]; exact e3
        have hcat : ((am_sm (am_t b0 base) rest).map fun v => v.category).sum ≤ 8 := hcat
        have hpn := o7
        unfold am_plain at hpn
        simp only [Bool.and_eq_true, decide_eq_true_eq] at hpn
        have hpn := hpn.2
        rw [hst]
        rcases (show j = 219 ∨ j = 220 ∨ j = 221 ∨ j = 222 by omega) with rfl | rfl | rfl | rfl
        · have hq := am_j219 hqj
          subst hq
          have hn : n = 1 := (Option.some.inj hpn).symm
          subst hn
          match as, e2 with
          | [a], _ =>
            cases a with
            | int x =>
              obtain ⟨rfl, r2⟩ := am_uq hx9 (am_M219 x h)
              exact va_mabs (rest := am_sm (am_t b0 base) rest) hx hb (hml.trans hlz.symm) hown t1 t2 t3 t4 hfr (by omega) hrc hrs hdg (kk r2)
            | _ => cases f <;> cases hx9
        · have hq := am_j220 hqj
          subst hq
          have hn : n = 2 := (Option.some.inj hpn).symm
          subst hn
          match as, e2 with
          | [a, b], _ =>
            cases a with
            | long x =>
              cases b with
              | long y =>
                obtain ⟨rfl, r2⟩ := am_uq hx9 (am_M220 x y h)
                exact va_mmax_long (rest := am_sm (am_t b0 base) rest) hx hb (hml.trans hlz.symm) hown t1 t2 t3 t4 hfr (by omega) hrc hrs hdg (kk r2)
              | _ => exact absurd hx9 (am_no2 rfl rfl)
            | _ => cases f <;> cases hx9
        · have hq := am_j221 hqj
          subst hq
          have hn : n = 2 := (Option.some.inj hpn).symm
          subst hn
          match as, e2 with
          | [a, b], _ =>
            cases a with
            | int x =>
              cases b with
              | int y =>
                obtain ⟨rfl, r2⟩ := am_uq hx9 (am_M221 x y h)
                exact va_mmin (rest := am_sm (am_t b0 base) rest) hx hb (hml.trans hlz.symm) hown t1 t2 t3 t4 hfr (by omega) hrc hrs hdg (kk r2)
              | _ => exact absurd hx9 (am_no2 rfl rfl)
            | _ => cases f <;> cases hx9
        · have hq := am_j222 hqj
          subst hq
          have hn : n = 2 := (Option.some.inj hpn).symm
          subst hn
          match as, e2 with
          | [a, b], _ =>
            cases a with
            | long x =>
              cases b with
              | long y =>
                obtain ⟨rfl, r2⟩ := am_uq hx9 (am_M222 x y h)
                exact va_mmin_long (rest := am_sm (am_t b0 base) rest) hx hb (hml.trans hlz.symm) hown t1 t2 t3 t4 hfr (by omega) hrc hrs hdg (kk r2)
              | _ => exact absurd hx9 (am_no2 rfl rfl)
            | _ => cases f <;> cases hx9
      · cases hok
    · cases hok
end AMMA
