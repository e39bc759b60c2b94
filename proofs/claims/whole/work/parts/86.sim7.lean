theorem am_call_spec {j n : Nat} {ok : List Value → Bool} {st : List Value} {j' : Nat} {as rest : List Value} (h : am_call j n ok st = some (.inr (.inl (j', as, rest)))) : j' = j ∧ st = as.reverse ++ rest ∧ as.length = n ∧ am_cat rest ≤ 8 ∧ ok as = true ∧ am_fitsL j as = true := by
  unfold am_call at h
  split at h
  · rename_i hc
    cases h
    refine ⟨rfl, by simp, by simp; omega, hc.2.1, hc.2.2.2, hc.2.2.1⟩
  · cases h
theorem am_sm_app (t : Nat → Nat) (a b : List Value) : am_sm t (a.reverse ++ b) = (am_sm t a).reverse ++ am_sm t b := by simp [am_sm]
def am_CodeOk : Prop := ∀ (j : Nat) (q : am_M), am_meth[j]? = some q → j < am_nM → Jvm.Cond.code q.1 q.2.1 q.2.2.1 q.2.2.2 ∈ lw_tbl ∧ goodWord (.code q.1 q.2.1 q.2.2.1 q.2.2.2) = true
section AMW7
variable {p : Program} {l : Launch} {en : Env} {R : Room} {s : State} {m : MethodId} {args : Array Value} {below : List Frame} {meth : Method} {c : Code} {H : Heap} {locs : List Loc} {cells slots : Nat} {Q : State → Prop}
variable {D : va_G} {cy : Nat → ClassId} {b0 base pc : Nat} {q : am_M} {ls : Array Slot} {lv : am_L} {rest : List Value} {e : am_I} {st : List Value} {h : am_H}
theorem am_ms {as : List Value} (C : am_Cx p s m args meth c D cy b0 base q) (X : am_At D cy b0 base s h H locs) : ∀ U : State, U.heap = H → s.WarmedH U.vm → am_Pc D cy b0 base as h (am_sm (am_t b0 base) as).toArray U := by
  obtain ⟨hx, hb, hml, hr, hnm, hlk, hown, hts, hnw, hK, hbb⟩ := C
  intro U hU hW
  exact ⟨rfl, am_At_U X hW.alike hU, va_K.moved hW.alike hK, fun w w1 w2 => am_nw_warm w2 hW (hnw w w1 w2)⟩
theorem am_cb (C : am_Cx p s m args meth c D cy b0 base q) {qj : am_M} {idx p1 p2 n d mc ms : Nat} (o1 : am_wd p1 (.methodLink q.1.cls idx qj.1) = true) (o2 : am_wd p2 (.initialized qj.1.cls) = true) (o3 : Jvm.Cond.code qj.1 qj.2.1 qj.2.2.1 qj.2.2.2 ∈ lw_tbl ∧ goodWord (.code qj.1 qj.2.1 qj.2.2.1 qj.2.2.2) = true) (o4 : am_plain qj.1 n = true) (o5 : qj.2.2.1 ≤ 40) (hfr : d + 2 ≤ R.frames) (hlc : 64 * (d + 2) ≤ R.locals) :
    CallB R s args q.1.cls idx qj.1 qj.2.1 qj.2.2.1 qj.2.2.2 (am_ws qj) (am_rm d mc ms) mc ms n := by
  obtain ⟨hx, hb, hml, hr, hnm, hlk, hown, hts, hnw, hK, hbb⟩ := C
  obtain ⟨w1, v1⟩ := am_wd_spec o1
  obtain ⟨w2, v2⟩ := am_wd_spec o2
  obtain ⟨w3, v3⟩ := o3
  unfold am_plain at o4
  simp only [Bool.and_eq_true, decide_eq_true_eq] at o4
  refine ⟨rfl, rfl, hfr, ?_, pay_in (big := am_good) (fun w z => hts w (List.mem_filter.mp z).1 (List.mem_filter.mp z).2) (am_goodIn w3 v3), List.mem_cons_self, hts _ w3 v3, hts _ w2 v2, ⟨o4.1.1, o4.1.2⟩, fun sig z => ?_, hts _ w1 v1⟩
  · show 8 + (qj.2.2.1 + 11) + 64 * (d + 1) ≤ R.locals
    omega
  · have := o4.2
    rw [z] at this
    exact (Option.some.inj this).symm
theorem am_cn (C : am_Cx p s m args meth c D cy b0 base q) {qj : am_M} {idx p1 p2 n d mc ms : Nat} (o1 : lw_tbl[p1]? = some (.methodLinkNest q.1.cls idx qj.1 "RoundTours")) (o2 : am_wd p2 (.initialized qj.1.cls) = true) (o3 : Jvm.Cond.code qj.1 qj.2.1 qj.2.2.1 qj.2.2.2 ∈ lw_tbl ∧ goodWord (.code qj.1 qj.2.1 qj.2.2.1 qj.2.2.2) = true) (o4 : am_plain qj.1 n = true) (o5 : qj.2.2.1 ≤ 40) (hfr : d + 2 ≤ R.frames) (hlc : 64 * (d + 2) ≤ R.locals) :
    va_CN R s args q.1.cls idx qj.1 "RoundTours" qj.2.1 qj.2.2.1 qj.2.2.2 (am_ws qj) (am_rm d mc ms) mc ms n := by
  obtain ⟨hx, hb, hml, hr, hnm, hlk, hown, hts, hnw, hK, hbb⟩ := C
  obtain ⟨w2, v2⟩ := am_wd_spec o2
  obtain ⟨w3, v3⟩ := o3
  unfold am_plain at o4
  simp only [Bool.and_eq_true, decide_eq_true_eq] at o4
  refine ⟨⟨rfl, rfl, hfr, ?_, pay_in (big := am_good) (fun w z => hts w (List.mem_filter.mp z).1 (List.mem_filter.mp z).2) (am_goodIn w3 v3), List.mem_cons_self⟩, hts _ w3 v3, hts _ w2 v2, ⟨o4.1.1, o4.1.2⟩, fun sig z => ?_, hnw _ (List.mem_of_getElem? o1) rfl⟩
  · show 8 + (qj.2.2.1 + 11) + 64 * (d + 1) ≤ R.locals
    omega
  · have := o4.2
    rw [z] at this
    exact (Option.some.inj this).symm
theorem am_wcall (C : am_Cx p s m args meth c D cy b0 base q) (X : am_At D cy b0 base s h H locs) (hlz : ls.size = q.2.2.1) (hk9 : am_kind e.1 = 21) (hdg : decode q.2.1 pc = .ok (e.1, e.2.1)) (hln : am_ln e.1 = e.2.1) (hok : am_okA q pc e = true) {j : Nat} {as : List Value} (hp : am_d21 pc e lv st h = some (.inr (.inl (j, as, rest)))) {d : Nat} (hfr : d + 2 ≤ R.frames) (hlc : 64 * (d + 2) ≤ R.locals)
    {rv : Option Value} {h' : am_H} (hrc : cells + (h'.1 - h.1) ≤ R.cells) (hrs : slots + (h'.2.1 - h.2.1) ≤ R.slots) (h0 : h'.2.2 0 = h.2.2 0) (hM : ∀ qj, am_meth[j]? = some qj → am_Met l D cy b0 base d qj as h rv h') (hcw : am_CodeOk)
    (kk : ∀ (H' : Heap) (locs' : List Loc), am_At D cy b0 base s h' H' locs' → W p l en R s m args below meth c H' locs' (cells + (h'.1 - h.1)) (slots + (h'.2.1 - h.2.1)) Q (F0 m (pc + 3) ls (am_sm (am_t b0 base) (rv.toList ++ rest)))) : W p l en R s m args below meth c H locs cells slots Q (F0 m pc ls (am_sm (am_t b0 base) st)) := by
  obtain ⟨ins, len, aux⟩ := e
  simp only at hdg hln hk9
  subst hln
  have C0 := C
  obtain ⟨hx, hb, hml, hr, hnm, hlk, hown, hts, hnw, hK, hbb⟩ := C
  have hts' : ∀ w ∈ am_good, w.before args s = true := fun w z => hts w (List.mem_filter.mp z).1 (List.mem_filter.mp z).2
  have hfix : CallFix p m c q.2.1 q.2.2.1 s args am_good q.1.cls := ⟨hx, hb, hml, hown, hts'⟩
  unfold am_d21 at hp
  simp only at hp
  cases ins <;> try (simp [am_kind] at hk9; done)
  case invokevirtual idx =>
    have hok : (aux == [9] || am_iv q.1.cls idx aux) = true := hok
    rw [Bool.or_eq_true] at hok
    rcases hok with hok | hok
    · have : aux = [9] := by simpa using hok
      subst this
      cases hp
    · match aux, hok with
      | [k, j2, n, p1, p2, p3, p4, p5, ci], hok =>
        have hk3 : k = 1 ∨ k = 2 := by
          unfold am_iv at hok
          simp only at hok
          split at hok
          · simp only [Bool.and_eq_true, Bool.or_eq_true, beq_iff_eq] at hok
            exact hok.1.1.1.1.1.1.1.1
          · cases hok
        have hp : am_call j2 (n + 1) (am_recv h ci) st = some (.inr (.inl (j, as, rest))) := by
          rcases hk3 with rfl | rfl
          · exact hp
          · exact hp
        obtain ⟨rfl, e1, e2, e3, e4, -⟩ := am_call_spec hp
        match as, e4 with
        | .ref a :: As, e4 =>
          have e4 : (decide (1 ≤ a ∧ a ≤ h.1) && (match h.2.2 a with
            | .inr (c, _) => decide (c = ci)
            | _ => false)) = true := e4
          rw [Bool.and_eq_true] at e4
          obtain ⟨e5, e6⟩ := e4
          have e5 := of_decide_eq_true e5
          match a, e5, e6 with
          | a + 1, e5, e6 =>
            unfold am_iv at hok
            simp only at hok
            split at hok
            · rename_i qj r9 hqj hr9
              simp only [Bool.and_eq_true, decide_eq_true_eq] at hok
              obtain ⟨⟨⟨⟨⟨⟨⟨⟨o0, o1⟩, o2⟩, o3⟩, o4⟩, o5⟩, o6⟩, o7⟩, o8⟩ := hok
              obtain ⟨C', T', N'⟩ := r9
              have hat := X.2.1 a e5.2
              have hat2 : ∃ fs, va_at D vwCl (base + a, .inr (ci, fs)) H := by
                generalize h.2.2 (a + 1) = cc at hat e6
                match cc, hat, e6 with
                | .inr (c9, fs), hat, e6 =>
                  have e6 : c9 = ci := of_decide_eq_true e6
                  subst e6
                  exact ⟨_, hat⟩
              obtain ⟨fs, hat2⟩ := hat2
              have hP := am_P1 hat2
              have hrecv := va_recv hK hP hr9 (q0 := 0) rfl
              have o6 : C' = qj.1.cls := o6
              subst o6
              have e7 : As.length = n := by simpa using e2
              have hst : am_sm (am_t b0 base) st = (am_sm (am_t b0 base) As).reverse ++ .ref (base + a) :: am_sm (am_t b0 base) rest := by
                rw [e1, am_sm_app]
                simp [am_sm, am_v, am_t]
              have hcat : am_cat (am_sm (am_t b0 base) rest) ≤ 8 := by rw [am_sm_cat]; exact e3
              rw [hst]
              by_cases hk2 : k = 2
              · subst hk2
                have o1 : lw_tbl[p1]? = some (.methodLinkNest q.1.cls idx qj.1 "RoundTours") := by simpa [am_lk] using o1
                obtain ⟨w2, v2⟩ := am_wd_spec o2
                obtain ⟨w3, v3⟩ := am_wd_spec o3
                refine am_wafter (as := .ref (a + 1) :: As) hbb X h0 (va_runVN (As := am_sm (am_t b0 base) As) (rest := am_sm (am_t b0 base) rest) hfix (hM qj hqj) ⟨am_cn C0 o1 o4 (hcw _ _ hqj o5) o7 o8 hfr hlc, hts _ w2 v2, hts _ w3 v3⟩ ⟨am_blind D cy b0 base _ h, hrecv, am_ms C0 X⟩ rfl (by simp [am_sm, e7]) hlz rfl (lv_room hcat) hdg ⟨hrc, hrs⟩) kk
              · have o1 : am_wd p1 (.methodLink q.1.cls idx qj.1) = true := by simpa [am_lk, hk2] using o1
                obtain ⟨w2, v2⟩ := am_wd_spec o2
                obtain ⟨w3, v3⟩ := am_wd_spec o3
                refine am_wafter (as := .ref (a + 1) :: As) hbb X h0 (va_runV (As := am_sm (am_t b0 base) As) (rest := am_sm (am_t b0 base) rest) hfix (hM qj hqj) ⟨am_cb C0 o1 o4 (hcw _ _ hqj o5) o7 o8 hfr hlc, hts _ w2 v2, hts _ w3 v3⟩ ⟨am_blind D cy b0 base _ h, hrecv, am_ms C0 X⟩ rfl (by simp [am_sm, e7]) hlz rfl (lv_room hcat) hdg ⟨hrc, hrs⟩) kk
            · cases hok
  case invokestatic idx =>
    have hok : am_is q.1.cls idx aux = true := hok
    unfold am_is at hok
    split at hok
    · simp only at hp
      split at hp
      · split at hp
        · rename_i r9 hz9
          generalize am_cp _ _ _ _ _ = zz at hp
          cases zz <;> cases hp
        · cases hp
      · cases hp
    · rename_i k j2 n p1 p2 p3 p4 hz9
      split at hok
      · rename_i qj hqj
        simp only [Bool.and_eq_true, decide_eq_true_eq, Bool.or_eq_true, beq_iff_eq] at hok
        obtain ⟨⟨⟨⟨⟨⟨o0, o1⟩, o2⟩, o3⟩, o4⟩, o7⟩, o8⟩ := hok
        have hp : am_call j2 n (fun _ => true) st = some (.inr (.inl (j, as, rest))) := by
          rcases o0 with rfl | rfl
          · exact hp
          · exact hp
        obtain ⟨rfl, e1, e2, e3, e4, -⟩ := am_call_spec hp
        obtain ⟨w2, v2⟩ := am_wd_spec o2
        have hst : am_sm (am_t b0 base) st = (am_sm (am_t b0 base) as).reverse ++ am_sm (am_t b0 base) rest := by rw [e1, am_sm_app]
        have hcat : am_cat (am_sm (am_t b0 base) rest) ≤ 8 := by rw [am_sm_cat]; exact e3
        rw [hst]
        by_cases hk2 : k = 4
        · subst hk2
          have o1 : lw_tbl[p1]? = some (.methodLinkNest q.1.cls idx qj.1 "RoundTours") := by simpa [am_lk] using o1
          refine am_wafter (as := as) hbb X h0 (va_runSN (As := am_sm (am_t b0 base) as) (rest := am_sm (am_t b0 base) rest) hfix (hM qj hqj) ⟨am_cn C0 o1 o3 (hcw _ _ hqj o4) o7 o8 hfr hlc, hts _ w2 v2, trivial⟩ ⟨am_blind D cy b0 base _ h, am_ms C0 X⟩ rfl (by simp [am_sm, e2]) hlz rfl (lv_room hcat) hdg ⟨hrc, hrs⟩) kk
        · have o1 : am_wd p1 (.methodLink q.1.cls idx qj.1) = true := by simpa [am_lk, hk2] using o1
          refine am_wafter (as := as) hbb X h0 (va_runS (As := am_sm (am_t b0 base) as) (rest := am_sm (am_t b0 base) rest) hfix (hM qj hqj) ⟨am_cb C0 o1 o3 (hcw _ _ hqj o4) o7 o8 hfr hlc, hts _ w2 v2⟩ ⟨am_blind D cy b0 base _ h, am_ms C0 X⟩ rfl (by simp [am_sm, e2]) hlz rfl (lv_room hcat) hdg ⟨hrc, hrs⟩) kk
      · cases hok
    · cases hok
  case invokespecial idx =>
    have hok : am_ix q.1.cls idx aux = true := hok
    unfold am_ix at hok
    split at hok
    · simp only at hp
      split at hp
      · split at hp <;> cases hp
      · cases hp
    · rename_i k j2 n p1 p2 p3 p4 hz9
      split at hok
      · rename_i qj hqj
        simp only [Bool.and_eq_true, decide_eq_true_eq, Bool.or_eq_true, beq_iff_eq] at hok
        obtain ⟨⟨⟨⟨⟨⟨⟨⟨o0, o1⟩, o2⟩, o3⟩, o4⟩, o5⟩, o6⟩, o7⟩, o8⟩ := hok
        have hp : am_call j2 (n + 1) (fun as => match as with
          | .ref _ :: _ => true
          | _ => false) st = some (.inr (.inl (j, as, rest))) := by
          rcases o0 with rfl | rfl
          · exact hp
          · exact hp
        obtain ⟨rfl, e1, e2, e3, e4, -⟩ := am_call_spec hp
        match as, e4 with
        | .ref a :: As, e4 =>
          obtain ⟨w2, v2⟩ := am_wd_spec o2
          have e7 : As.length = n := by simpa using e2
          have hst : am_sm (am_t b0 base) st = (am_sm (am_t b0 base) As).reverse ++ .ref (am_t b0 base a) :: am_sm (am_t b0 base) rest := by
            rw [e1, am_sm_app]
            simp [am_sm, am_v]
          have hcat : am_cat (am_sm (am_t b0 base) rest) ≤ 8 := by rw [am_sm_cat]; exact e3
          rw [hst]
          obtain ⟨y, by9, mx, rt⟩ := qj
          have o5 : rt = none := o5
          subst o5
          by_cases hk2 : k = 6
          · subst hk2
            have o1 : lw_tbl[p1]? = some (.methodLinkNest q.1.cls idx y "RoundTours") := by simpa [am_lk] using o1
            refine am_wafter (as := .ref a :: As) hbb X h0 (va_runIN (As := am_sm (am_t b0 base) As) (rest := am_sm (am_t b0 base) rest) hfix (hM _ hqj) ⟨am_cn C0 (qj := (y, by9, mx, none)) o1 o3 (hcw _ _ hqj o4) o7 o8 hfr hlc, o6, hts _ w2 v2⟩ ⟨am_blind D cy b0 base _ h, am_ms C0 X⟩ rfl (by simp [am_sm, e7]) hlz rfl (lv_room hcat) hdg ⟨hrc, hrs⟩) kk
          · have o1 : am_wd p1 (.methodLink q.1.cls idx y) = true := by simpa [am_lk, hk2] using o1
            refine am_wafter (as := .ref a :: As) hbb X h0 (va_runI (As := am_sm (am_t b0 base) As) (rest := am_sm (am_t b0 base) rest) hfix (hM _ hqj) ⟨am_cb C0 (qj := (y, by9, mx, none)) o1 o3 (hcw _ _ hqj o4) o7 o8 hfr hlc, o6, hts _ w2 v2⟩ ⟨am_blind D cy b0 base _ h, am_ms C0 X⟩ rfl (by simp [am_sm, e7]) hlz rfl (lv_room hcat) hdg ⟨hrc, hrs⟩) kk
      · cases hok
    · cases hok
end AMW7
