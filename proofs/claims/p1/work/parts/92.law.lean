theorem am_classes {s : State} {args : Array Value} (hts : ∀ w ∈ lw_tbl, goodWord w = true → w.before args s = true) : ∃ D : va_G, ∀ (k : Nat) (r : vw_C), vwCl[k]? = some r → u_Kn s r.1 r.2.1 r.2.2 (D.1 k) (D.2 k) := by
  have h : ∀ k : Nat, ∃ z : ClassId × (Nat → Nat), ∀ r : vw_C, vwCl[k]? = some r → u_Kn s r.1 r.2.1 r.2.2 z.1 z.2 := by
    intro k
    cases hr : vwCl[k]? with
    | none => exact ⟨(0, fun _ => 0), fun r h => by cases h⟩
    | some r =>
      have hlt : k < am_nCls := (List.getElem?_eq_some_iff.mp hr).1
      have h1 := List.all_eq_true.mp am_ipo k (List.mem_range.mpr hlt)
      rw [hr] at h1
      cases hi : am_ip[k]? with
      | none => rw [hi] at h1; cases h1
      | some j =>
        rw [hi] at h1
        obtain ⟨w1, v1⟩ := am_wd_spec h1
        obtain ⟨hw, -, -⟩ := am_cls hr
        obtain ⟨cC, iS, hK⟩ := u_known (ws := u_ws r.1 r.2.1 r.2.2) (fun w z => hts w (hw w z).1 (hw w z).2) (fun _ z => z) (hts _ w1 v1)
        exact ⟨(cC, iS), fun r2 h => by cases h; exact hK⟩
  exact ⟨(fun k => (Classical.choose (h k)).1, fun k => (Classical.choose (h k)).2), fun k r hr => Classical.choose_spec (h k) r hr⟩
theorem am_arrC {s : State} {args : Array Value} {ty : FieldType} (h : (Cond.arrayClass ty).before args s = true) : ∃ c : ClassId, ArrOfT s c ty ∧ s.vm.findClass ("[" ++ ty.toString) = some c := by
  obtain ⟨c, k, comp, h1, h2, h3⟩ := Cond.arrayClass_spec h
  exact ⟨c, fun n z => ⟨fun k h => (by cases h), k, h2, comp, h3⟩, h1⟩
theorem am_arrO {s : State} {args : Array Value} {t : FieldType} (h : (Cond.arrayOver (.array t)).before args s = true) : ∃ c : ClassId, ArrOfT s c (.array t) ∧ s.vm.findClass ("[" ++ (FieldType.array t).toString) = some c := by
  rw [am_AO_eq] at h
  cases hc : s.vm.findClass (FieldType.array t).toString with
  | none => rw [hc] at h; simp at h
  | some comp =>
    rw [hc] at h
    simp only [Option.bind_some] at h
    cases hfx : s.vm.classes.findIdx? (am_isArr comp) with
    | none => rw [hfx] at h; simp at h
    | some c =>
      rw [hfx] at h
      simp only [Option.bind_some] at h
      cases hk : s.vm.classes[c]? with
      | none => rw [hk] at h; simp at h
      | some k =>
        rw [hk] at h
        have h2 : am_arrK (.array t) (decide (s.vm.findClass ("[" ++ (FieldType.array t).toString) = some c)) k = true := by simpa using h
        unfold am_arrK at h2
        split at h2
        · rename_i cp t2 hkind
          rw [Bool.and_eq_true] at h2
          have e1 := of_decide_eq_true h2.1
          have e2 := of_decide_eq_true h2.2
          subst e1
          exact ⟨c, fun n z => ⟨fun k h => (by cases h), k, hk, cp, hkind⟩, e2⟩
        · cases h2
theorem am_arrays {s : State} {args : Array Value} (hts : ∀ w ∈ lw_tbl, w.before args s = true) : ∃ cy : Nat → ClassId, ∀ (k : Nat) (q : ClassId × FieldType), (am_tys cy)[k]? = some q → ArrOfT s q.1 q.2 ∧ va_RA s q.1 q.2 := by
  obtain ⟨c0, a0, b0⟩ := am_arrC (hts _ (am_wd_spec am_ac_byte).1)
  obtain ⟨c1, a1, b1⟩ := am_arrC (hts _ (am_wd_spec am_ac_int).1)
  obtain ⟨c2, a2, b2⟩ := am_arrC (hts _ (am_wd_spec am_ac_long).1)
  obtain ⟨c3, a3, b3⟩ := am_arrC (hts _ (am_wd_spec am_ac_boolean).1)
  obtain ⟨c4, a4, b4⟩ := am_arrO (hts _ (List.mem_of_getElem? am_ao_int))
  obtain ⟨c5, a5, b5⟩ := am_arrO (hts _ (List.mem_of_getElem? am_ao_long))
  refine ⟨fun k => match k with
    | 0 => c0
    | 1 => c1
    | 2 => c2
    | 3 => c3
    | 4 => c4
    | _ => c5, ?_⟩
  intro k q hq
  match k, hq with
  | 0, hq => cases hq; exact ⟨a0, b0⟩
  | 1, hq => cases hq; exact ⟨a1, b1⟩
  | 2, hq => cases hq; exact ⟨a2, b2⟩
  | 3, hq => cases hq; exact ⟨a3, b3⟩
  | 4, hq => cases hq; exact ⟨a4, b4⟩
  | 5, hq => cases hq; exact ⟨a5, b5⟩
  | n + 6, hq => simp [am_tys] at hq
theorem am_lawM : am_meth[am_lawI]? = some (yL_law, cL_law, maxLocals, ret) := rfl
/-- a run of the small machine to the law's end with 1, within the room -/
def am_Run (L : Nat) (xs : Nat → Int32) : Prop := ∃ (f d : Nat) (h' : am_H), am_exec f d am_lawI 0 [(0, .ref 0)] [] (0, 0, fun _ => .inl (1, L, .inl xs)) = some (some (.int 1), h') ∧ h'.1 ≤ 600000 ∧ h'.2.1 ≤ 7000000 ∧ d ≤ 1000
theorem am_law (hall : am_AllOk) (hcw : am_CodeOk) (hpl : ∀ (j : Nat) (q : am_M), am_meth[j]? = some q → plainName q.1.cls = true ∨ am_mth j = true) {p : Program} {e : Env} {s : State} {m : MethodId} {below : List Frame} {meth : Method} {c : Code} (l : Launch) {b L : Nat} {xs : Nat → Int32} (C0 : lw_At p s m meth c b L xs) (hrun : am_Run L xs) : W p l e room_1 s m #[Value.ref b] below meth c s.heap [] 0 0 (lw_Z below #[Value.ref b] s) (entryFrame m ([Value.ref b] : List Value).toArray maxLocals) := by
  obtain ⟨f, d, h', hex, hn, hsl, hd⟩ := hrun
  obtain ⟨hx, hb, hr, hml, hown, hts, hX, hbl, hlocks, hgv⟩ := C0
  have htg : ∀ w ∈ lw_tbl, goodWord w = true → w.before #[Value.ref b] s = true := fun w z _ => hts w z
  obtain ⟨D, hD⟩ := am_classes htg
  obtain ⟨cy, hcy⟩ := am_arrays hts
  have C : am_Cx p s m #[Value.ref b] meth c D cy b s.heap.size (yL_law, cL_law, maxLocals, ret) := ⟨hx, hb, hml, hr, fun z => absurd z (by decide), hlocks, hown, htg, fun w z _ => hts w z, ⟨hD, hcy⟩, hbl⟩
  have hl := lv_entry ([Value.ref b]) (n := maxLocals) (Nat.le_of_ble_eq_true rfl)
  rw [lg_entry_eq]
  generalize (lg_sl ([Value.ref b]) ++ List.replicate (maxLocals - (lg_sl ([Value.ref b])).length) Slot.unset).toArray = ls at hl ⊢
  refine am_sim hall hcw hpl f d am_lawI 0 [(0, .ref 0)] [] _ _ h' hex p l e room_1 s m _ below meth c s.heap [] 0 0 _ D cy b s.heap.size _ ls am_lawM C ⟨rfl, fun k z => absurd z (Nat.not_lt_zero k), ⟨L, xs, rfl, hX⟩, fun _ _ => rfl, fun _ z => absurd z List.not_mem_nil⟩ hl (by show d + 1 ≤ 2048; omega) (by show 64 * (d + 1) ≤ 84000; omega) (by show 0 + (h'.1 - 0) ≤ 600000; omega) (by show 0 + (h'.2.1 - 0) ≤ 7302249; omega) ?_
  intro H' locs' ls' pc' e' st' hf hd2 hX'
  have hok := hall _ _ _ _ hf am_lawM
  unfold am_okB at hok
  simp only [Bool.and_eq_true, decide_eq_true_eq, Bool.or_eq_true, beq_iff_eq] at hok
  obtain ⟨⟨hdg, hln0⟩, -⟩ := hok
  obtain ⟨ins, len, aux⟩ := e'
  unfold am_d22 at hd2
  simp only at hdg hln0 hd2
  have hln : am_kind ins ≠ 10 → am_ln ins = len := fun hz => hln0.resolve_left (am_ln_nz hz)
  refine va_forget (fun z hz => hX'.2.2.2.2 z hz) ?_
  refine W.widen (k := 600000) (n := 7302249) (by show 0 + (h'.1 - 0) ≤ 600000; omega) (by show 0 + (h'.2.1 - 0) ≤ 7302249; omega) ?_
  split at hd2
  · have h1 := hln (by decide)
    subst h1
    split at hd2
    · split at hd2
      · cases hd2
        exact lw_ret hx hb hr hlocks hdg
      · cases hd2
    · cases hd2
  · split at hd2 <;> cases hd2
  · split at hd2 <;> cases hd2
  · split at hd2 <;> cases hd2
  · cases hd2
