def am_good : List Jvm.Cond := lw_tbl.filter goodWord
def am_ws (q : am_M) : List Jvm.Cond := .code q.1 q.2.1 q.2.2.1 q.2.2.2 :: am_good
def am_rm (d mc ms : Nat) : Room := { frames := d + 1, cells := mc, slots := ms, locals := 64 * (d + 1) }
def am_Pc (D : va_G) (cy : Nat → ClassId) (b0 base : Nat) (as : List Value) (h : am_H) : Array Value → State → Prop := fun v U =>
  v = (am_sm (am_t b0 base) as).toArray ∧ am_At D cy b0 base U h U.heap [] ∧ va_K D vwCl (am_tys cy) U ∧ ∀ w ∈ lw_tbl, am_nw w = true → w.before #[] U = true
def am_Qc (D : va_G) (cy : Nat → ClassId) (b0 base : Nat) (rv : Option Value) (h : am_H) : Array Value → State → Outcome → State → Prop := fun _ st oc t =>
  oc = .returned (rv.map (am_v (am_t b0 base))) ∧ am_At D cy b0 base st h t.heap []
def am_Met (l : Launch) (D : va_G) (cy : Nat → ClassId) (b0 base d : Nat) (q : am_M) (as : List Value) (h : am_H) (rv : Option Value) (h' : am_H) : Prop :=
  Met l q.1 (am_ws q) (am_rm d (h'.1 - h.1) (h'.2.1 - h.2.1)) (am_Pc D cy b0 base as h) (am_Qc D cy b0 base rv h') (h'.1 - h.1) (h'.2.1 - h.2.1) (fun a => base ≤ a)
theorem am_nw_vm {w : Jvm.Cond} (hw : am_nw w = true) {u U : State} (hv : u.vm = U.vm) {A B : Array Value} (h : w.before A u = true) : w.before B U = true := by
  cases w <;> try (simp [am_nw] at hw; done)
  case methodLinkNest a b c d => exact va_tabs rfl hv h
  case fieldLinkNest a b c d e f => exact va_tabs rfl hv h
  case arrayOver ty =>
    match ty, hw with
    | .array t, _ => exact am_AO_moved (by rw [hv]; exact Vm.Alike.refl _) h
theorem am_nw_warm {w : Jvm.Cond} (hw : am_nw w = true) {s U : State} (hW : s.WarmedH U.vm) {A B : Array Value} (h : w.before A s = true) : w.before B U = true := by
  cases w <;> try (simp [am_nw] at hw; done)
  case methodLinkNest a b c d => exact va_Nw.use rfl (va_Nw.warmM hW (va_Nw.of rfl h))
  case fieldLinkNest a b c d e f => exact va_Nw.use rfl (va_Nw.warmF hW (va_Nw.of rfl h))
  case arrayOver ty =>
    match ty, hw with
    | .array t, _ => exact am_AO_moved hW.alike h
theorem am_At_U {D : va_G} {cy : Nat → ClassId} {b0 base : Nat} {s U : State} {h : am_H} {H : Heap} {locs : List Loc} (X : am_At D cy b0 base s h H locs) (hv : s.vm.Alike U.vm) (hU : U.heap = H) : am_At D cy b0 base U h U.heap [] := by
  obtain ⟨a1, a2, ⟨L, xs, a3, a4⟩, a5, a6⟩ := X
  subst hU
  exact ⟨a1, a2, ⟨L, xs, a3, a4.moved hv⟩, fun _ _ => rfl, fun _ z => absurd z List.not_mem_nil⟩
theorem am_blind (D : va_G) (cy : Nat → ClassId) (b0 base : Nat) (as : List Value) (h : am_H) : FrameBlind (am_Pc D cy b0 base as h) := by
  intro a U g mk hp
  obtain ⟨h1, h2, h3, h4⟩ := hp
  refine ⟨h1, am_At_U (s := U) (U := U.calling g mk a) h2 (Vm.Alike.refl U.vm) rfl, va_K.moved (u := U) (U := U.calling g mk a) (Vm.Alike.refl U.vm) h3, fun w w1 w2 => am_nw_vm w2 (u := U) (U := U.calling g mk a) rfl (h4 w w1 w2)⟩
theorem am_goodIn {q : am_M} (hc : Jvm.Cond.code q.1 q.2.1 q.2.2.1 q.2.2.2 ∈ lw_tbl) (hg : goodWord (Jvm.Cond.code q.1 q.2.1 q.2.2.1 q.2.2.2) = true) : GoodIn am_good (am_ws q) := by
  intro w hw
  rcases List.mem_cons.mp hw with rfl | hw
  · exact ⟨List.mem_filter.mpr ⟨hc, hg⟩, good_of_word hg⟩
  · exact ⟨hw, good_of_word (List.mem_filter.mp hw).2⟩
section AMW6
variable {p : Program} {l : Launch} {en : Env} {R : Room} {s : State} {m : MethodId} {args : Array Value} {below : List Frame} {meth : Method} {c : Code} {H : Heap} {locs : List Loc} {cells slots : Nat} {Q : State → Prop}
variable {D : va_G} {cy : Nat → ClassId} {b0 base pc : Nat} {q : am_M} {ls : Array Slot} {lv : am_L} {rest : List Value} {e : am_I} {st : List Value} {h : am_H}
theorem am_wrun {mc ms : Nat} {st0 : List Value} {Qa : State → Outcome → State → Prop} {free : Addr → Prop} (hr : va_Run p l en R s m args below meth c H locs cells slots mc ms (F0 m pc ls st0) rest Qa free)
    (kk : ∀ (v : Option Value) (st₀ t : State) (H1 : Heap) (L : List Loc), st₀.heap = H → t.heap = H1 → Qa st₀ (.returned v) t → (∀ z ∈ L, free z.base) → W p l en R s m args below meth c H1 (locs ++ L) (cells + mc) (slots + ms) Q (F0 m (pc + 3) ls (v.toList ++ rest))) : W p l en R s m args below meth c H locs cells slots Q (F0 m pc ls st0) := by
  intro T hT X
  obtain ⟨v, st₀, t, T', L, h0, X', hL, e1, e2, hq, sp⟩ := hr T hT X
  obtain ⟨t2, a1, b1⟩ := kk v st₀ t T'.heap L h0 e1.symm hq hL T' rfl X'
  exact ⟨t2, sp t2 a1, b1⟩
/-- what a call needs, and what it leaves -/
theorem am_wafter {as : List Value} {rv : Option Value} {h' : am_H} (hbb : b0 < base) (X : am_At D cy b0 base s h H locs) (h0 : h'.2.2 0 = h.2.2 0) {st0 : List Value} (hr : va_Run p l en R s m args below meth c H locs cells slots (h'.1 - h.1) (h'.2.1 - h.2.1) (F0 m pc ls st0) (am_sm (am_t b0 base) rest) (am_Qc D cy b0 base rv h' (am_sm (am_t b0 base) as).toArray) (fun a => base ≤ a))
    (kk : ∀ (H' : Heap) (locs' : List Loc), am_At D cy b0 base s h' H' locs' → W p l en R s m args below meth c H' locs' (cells + (h'.1 - h.1)) (slots + (h'.2.1 - h.2.1)) Q (F0 m (pc + 3) ls (am_sm (am_t b0 base) (rv.toList ++ rest)))) : W p l en R s m args below meth c H locs cells slots Q (F0 m pc ls st0) := by
  refine am_wrun hr fun v st₀ t H1 L e0 e1 hq hL => ?_
  obtain ⟨ho, hX⟩ := hq
  cases ho
  have k1 := kk H1 (locs ++ L) ?_
  · have e5 : (rv.map (am_v (am_t b0 base))).toList ++ am_sm (am_t b0 base) rest = am_sm (am_t b0 base) (rv.toList ++ rest) := by
      cases rv <;> simp [am_sm]
    rw [e5]
    exact k1
  · obtain ⟨a1, a2, -, a4, -⟩ := hX
    obtain ⟨c1, c2, ⟨L9, xs, c3, c4⟩, c5, c6⟩ := X
    rw [e1] at a1 a2 a4
    have hlow : ∀ z, z < base → H1[z]? = H[z]? := fun z hz => by rw [a4 z hz, e0]
    refine ⟨a1, a2, ⟨L9, xs, by rw [h0]; exact c3, c4.kept (hlow b0 hbb)⟩, fun z hz => (hlow z hz).trans (c5 z hz), fun z hz => ?_⟩
    rcases List.mem_append.mp hz with hz | hz
    · exact c6 z hz
    · exact hL z hz
end AMW6
