theorem am_outer (c : ClassId) (N h0 : Nat) : ∀ i : Nat, Jvm.Free.Multi.outerC c N h0 i = arrV c N (fun j => va_rf (if j < i then some (h0 + 1 + j) else none))
  | 0 => by
    show ({ cls := c, slots := Array.replicate N .null, vm := .none } : Cell) = _
    rw [arrV_new]
    refine congrArg (arrV c N) (funext fun j => ?_)
    simp [va_rf]
  | i + 1 => by
    show (Jvm.Free.Multi.outerC c N h0 i).setSlot i (.ref (h0 + 1 + i)) = _
    rw [am_outer c N h0 i, arrV_store]
    refine congrArg (arrV c N) (funext fun j => ?_)
    by_cases e : j = i
    · subst e
      simp [updV, va_rf]
    · by_cases h : j < i
      · simp [updV, e, h, Nat.lt_succ_of_lt h]
      · simp [updV, e, h, show ¬ j < i + 1 by omega]
section AMWM
variable {p : Program} {l : Launch} {en : Env} {R : Room} {s : State} {m : MethodId} {args : Array Value} {below : List Frame} {meth : Method} {c : Code} {H : Heap} {locs : List Loc} {cells slots : Nat} {Q : State → Prop}
variable {D : va_G} {cy : Nat → ClassId} {b0 base pc : Nat} {q : am_M} {ls : Array Slot} {lv : am_L} {rest : List Value} {e : am_I} {st : List Value} {h : am_H} {pc' : Nat} {lv' : am_L} {st' : List Value} {h' : am_H}
theorem am_wmna (C : am_Cx p s m args meth c D cy b0 base q) (X : am_At D cy b0 base s h H locs) {idx : Nat} {ty : FieldType} {t tr : Nat} {dt : (Nat → Int32) ⊕ (Nat → Int64) ⊕ (Nat → UInt32) ⊕ (Nat → UInt64) ⊕ (Nat → Option Nat)} {k n : Int32} {r : List Value}
    (hdg : decode q.2.1 pc = .ok (.multianewarray idx 2, 4)) (ht : t < 6) (hty : am_ty t = .array ty) (htr : tr < 6) (htyr : am_ty tr = ty) (hem : ∀ N, am_e (am_t b0 base) cy (.inl (tr, N, dt)) = .inl (cy tr, N, dt)) (hin : ∀ (N : Nat) (cC : ClassId), Jvm.Free.Multi.innerC cC N (defaultValue ty) = vp_cell cC (N, dt)) (hname : (FieldType.array ty).toString = "[" ++ ty.toString)
    (hcl : (Cond.classLink q.1.cls idx ("[" ++ (FieldType.array ty).toString)).before args s = true) (hov : (Cond.arrayOver (.array ty)).before args s = true) (har : (Cond.arrayClass ty).before args s = true)
    (hn : ¬ n < 0) (hk : ¬ k < 0) (hn1 : n.toNatClampNeg ≤ 1000) (hk1 : k.toNatClampNeg ≤ 1000) (hcb : componentBytes ty ≤ 8) (hdf : fits ty (defaultValue ty) = true) (hdd : (defaultValue ty).isDefault = true)
    (hrc : cells + (1 + n.toNatClampNeg) ≤ R.cells) (hrs : slots + (n.toNatClampNeg + n.toNatClampNeg * k.toNatClampNeg) ≤ R.slots)
    (kk : ∀ (H' : Heap), am_At D cy b0 base s (h.1 + 1 + n.toNatClampNeg, h.2.1 + n.toNatClampNeg + n.toNatClampNeg * k.toNatClampNeg, am_rows h.2.2 (h.1 + 1) n.toNatClampNeg t (k.toNatClampNeg, dt) tr) H' locs → W p l en R s m args below meth c H' locs (cells + 1 + n.toNatClampNeg) (slots + n.toNatClampNeg + n.toNatClampNeg * k.toNatClampNeg) Q (F0 m (pc + 4) ls (.ref (base + h.1) :: am_sm (am_t b0 base) r))) :
    W p l en R s m args below meth c H locs cells slots Q (F0 m pc ls (.int k :: .int n :: am_sm (am_t b0 base) r)) := by
  obtain ⟨hx, hb, hml, hr, hnm, hlk, hown, hts, hnw, hK, hbb⟩ := C
  intro T hT Xs
  have hbb2 : k.toNatClampNeg * componentBytes ty ≤ 536870912 := Nat.le_trans (Nat.mul_le_mul hk1 hcb) (by decide)
  obtain ⟨vm₁, cA, comp, -, fA, fC, hO, hI, X', step⟩ := Xs.multianewarray2F hx hown hcl hov har (g := F0 m pc ls (.int k :: .int n :: am_sm (am_t b0 base) r)) rfl (by rw [hb]; exact hdg) rfl hn hk (by omega) hbb2 (by omega) hdf hdd hrc hrs
  have ecA : cA = cy t := am_ra hK ht (by rw [hty]; exact fA)
  have ecC : comp = cy tr := am_ra hK htr (by rw [htyr, ← hname]; exact fC)
  subst ecA
  subst ecC
  generalize hF : Jvm.Free.Multi.fill (T.setVm vm₁) (cy t) (cy tr) n.toNatClampNeg k.toNatClampNeg (defaultValue ty) n.toNatClampNeg = F at X' step
  have hTh : (T.setVm vm₁).heap = H := hT
  obtain ⟨f1, f2, -, -⟩ := Jvm.Free.Multi.fill_facts (T.setVm vm₁) (cy t) (cy tr) n.toNatClampNeg k.toNatClampNeg (defaultValue ty) n.toNatClampNeg
  rw [hF, hTh] at f1 f2
  have hold : ∀ x : Nat, x < H.size → F.heap[x]? = H[x]? := fun x hx9 => by
    have := Jvm.Free.Multi.fill_old (T.setVm vm₁) (cy t) (cy tr) n.toNatClampNeg k.toNatClampNeg (defaultValue ty) (a := x) (by rw [hTh]; exact hx9) n.toNatClampNeg
    rw [hF, hTh] at this
    exact this
  have hrow : ∀ j : Nat, j < n.toNatClampNeg → F.heap[H.size + 1 + j]? = some (vp_cell (cy tr) (k.toNatClampNeg, dt)) := fun j hj => by
    have := Jvm.Free.Multi.fill_inner (T.setVm vm₁) (cy t) (cy tr) n.toNatClampNeg k.toNatClampNeg (defaultValue ty) n.toNatClampNeg j hj
    rw [hF, hTh, hin] at this
    exact this
  rw [am_outer] at f2
  obtain ⟨a1, a2, ⟨L, xs, a3, a4⟩, a5, a6⟩ := X
  have hAt : am_At D cy b0 base s (h.1 + 1 + n.toNatClampNeg, h.2.1 + n.toNatClampNeg + n.toNatClampNeg * k.toNatClampNeg, am_rows h.2.2 (h.1 + 1) n.toNatClampNeg t (k.toNatClampNeg, dt) tr) F.heap locs := by
    refine ⟨by rw [f1, a1]; show base + h.1 + 1 + _ = base + (h.1 + 1 + _); omega, fun j hj => ?_, ⟨L, xs, ?_, a4.kept (hold b0 (by omega))⟩, fun z hz => (hold z (by omega)).trans (a5 z hz), a6⟩
    · have hj : j < h.1 + 1 + n.toNatClampNeg := hj
      show va_at D vwCl (base + j, am_e (am_t b0 base) cy (am_rows h.2.2 (h.1 + 1) n.toNatClampNeg t (k.toNatClampNeg, dt) tr (j + 1))) F.heap
      unfold am_rows
      by_cases e1 : j + 1 = h.1 + 1
      · have e2 : j = h.1 := by omega
        rw [if_pos e1, e2]
        show F.heap[base + h.1]? = some (vp_cell (cy t) (n.toNatClampNeg, .inr (.inr (.inr (.inr (fun i => (if i < n.toNatClampNeg then some (h.1 + 1 + 1 + i) else none).map (am_t b0 base)))))))
        rw [← a1, f2, vp_cell_q]
        refine congrArg some (congrArg (arrV (cy t) n.toNatClampNeg) (funext fun i => ?_))
        by_cases hi : i < n.toNatClampNeg
        · rw [if_pos hi, if_pos hi]
          show va_rf (some (H.size + 1 + i)) = va_rf (some (am_t b0 base (h.1 + 1 + 1 + i)))
          have e3 : am_t b0 base (h.1 + 1 + 1 + i) = H.size + 1 + i := by
            rw [show h.1 + 1 + 1 + i = (h.1 + 1 + i) + 1 by omega]
            show base + (h.1 + 1 + i) = _
            omega
          rw [e3]
        · rw [if_neg hi, if_neg hi]
          rfl
      · rw [if_neg e1]
        by_cases e2 : h.1 + 1 < j + 1 ∧ j + 1 ≤ h.1 + 1 + n.toNatClampNeg
        · rw [if_pos e2, hem]
          have := hrow (j - (h.1 + 1)) (by omega)
          rw [show H.size + 1 + (j - (h.1 + 1)) = base + j by omega] at this
          exact this
        · rw [if_neg e2]
          exact (a2 j (by omega)).kept (hold (base + j) (by omega))
    · show am_rows h.2.2 (h.1 + 1) n.toNatClampNeg t (k.toNatClampNeg, dt) tr 0 = _
      unfold am_rows
      rw [if_neg (by omega), if_neg (by omega)]
      exact a3
  obtain ⟨t9, b1, b2⟩ := kk F.heap hAt F rfl X'
  refine ⟨t9, step t9 ?_, b2⟩
  have e9 : T.heap.size = base + h.1 := by rw [hT]; exact a1
  rw [e9]
  exact b1
theorem am_w20 (C : am_Cx p s m args meth c D cy b0 base q) (X : am_At D cy b0 base s h H locs) {idx dm : Nat} (hi1 : e.1 = .multianewarray idx dm) (hdg : decode q.2.1 pc = .ok (.multianewarray idx dm, 4)) (hok : am_okA q pc e = true) (hp : am_d20 pc e lv st h = some (.inl (pc', lv', st', h')))
    (hrc : cells + (h'.1 - h.1) ≤ R.cells) (hrs : slots + (h'.2.1 - h.2.1) ≤ R.slots)
    (kk : ∀ (H' : Heap), lv' = lv → am_At D cy b0 base s h' H' locs → W p l en R s m args below meth c H' locs (cells + (h'.1 - h.1)) (slots + (h'.2.1 - h.2.1)) Q (F0 m pc' ls (am_sm (am_t b0 base) st'))) : W p l en R s m args below meth c H locs cells slots Q (F0 m pc ls (am_sm (am_t b0 base) st)) := by
  obtain ⟨ins, len, aux⟩ := e
  simp only at hi1
  subst hi1
  have C0 := C
  obtain ⟨hx, hb, hml, hr, hnm, hlk, hown, hts, hnw, hK, hbb⟩ := C
  match aux, hok, hp with
  | [t, p1, p2, p3], hok, hp =>
    have hok : (decide (dm = 2) && (if t = 4 then am_wd p1 (.classLink q.1.cls idx "[[I") && am_wd p3 (.arrayClass .int) && decide (lw_tbl[p2]? = some (.arrayOver (.array .int))) else decide (t = 5) && am_wd p1 (.classLink q.1.cls idx "[[J") && am_wd p3 (.arrayClass .long) && decide (lw_tbl[p2]? = some (.arrayOver (.array .long))))) = true := hok
    rw [Bool.and_eq_true] at hok
    have hdm := of_decide_eq_true hok.1
    subst hdm
    replace hok := hok.2
    unfold am_d20 at hp
    simp only at hp
    by_cases ht : t = 4
    · subst ht
      rw [if_pos rfl] at hok
      simp only [Bool.and_eq_true, decide_eq_true_eq] at hok
      obtain ⟨⟨o1, o2⟩, o3⟩ := hok
      obtain ⟨w1, v1⟩ := am_wd_spec o1
      obtain ⟨w2, v2⟩ := am_wd_spec o2
      match st, hp with
      | .int k :: .int n :: r, hp =>
        simp only at hp
        split at hp
        · rename_i hc
          cases hp
          have e1 : h.1 + 1 + n.toNatClampNeg - h.1 = 1 + n.toNatClampNeg := by omega
          have e2 : h.2.1 + n.toNatClampNeg + n.toNatClampNeg * k.toNatClampNeg - h.2.1 = n.toNatClampNeg + n.toNatClampNeg * k.toNatClampNeg := by omega
          simp only [e1, e2] at hrc hrs kk
          refine am_wmna (t := 4) (tr := 1) (ty := .int) (dt := .inl (fun _ => 0)) C0 X hdg (by decide) rfl (by decide) rfl (fun _ => rfl) (fun N cC => by show ({ cls := cC, slots := Array.replicate N (.int 0), vm := .none } : Cell) = _; rw [arrV_new]; rfl) (by decide) (hts _ w1 v1) (hnw _ (List.mem_of_getElem? o3) rfl) (hts _ w2 v2) hc.1 hc.2.1 hc.2.2.1 hc.2.2.2 (by decide) rfl rfl hrc hrs fun H' hX => ?_
          have k1 := kk H' trivial hX
          rw [← Nat.add_assoc, ← Nat.add_assoc] at k1
          exact k1
        · cases hp
    · rw [if_neg ht] at hok
      simp only [Bool.and_eq_true, decide_eq_true_eq] at hok
      obtain ⟨⟨⟨o0, o1⟩, o2⟩, o3⟩ := hok
      subst o0
      obtain ⟨w1, v1⟩ := am_wd_spec o1
      obtain ⟨w2, v2⟩ := am_wd_spec o2
      match st, hp with
      | .int k :: .int n :: r, hp =>
        simp only at hp
        split at hp
        · rename_i hc
          cases hp
          have e1 : h.1 + 1 + n.toNatClampNeg - h.1 = 1 + n.toNatClampNeg := by omega
          have e2 : h.2.1 + n.toNatClampNeg + n.toNatClampNeg * k.toNatClampNeg - h.2.1 = n.toNatClampNeg + n.toNatClampNeg * k.toNatClampNeg := by omega
          simp only [e1, e2] at hrc hrs kk
          refine am_wmna (t := 5) (tr := 2) (ty := .long) (dt := .inr (.inl (fun _ => 0))) C0 X hdg (by decide) rfl (by decide) rfl (fun _ => rfl) (fun N cC => by show ({ cls := cC, slots := Array.replicate N (.long 0), vm := .none } : Cell) = _; rw [arrV_new]; rfl) (by decide) (hts _ w1 v1) (hnw _ (List.mem_of_getElem? o3) rfl) (hts _ w2 v2) hc.1 hc.2.1 hc.2.2.1 hc.2.2.2 (by decide) rfl rfl hrc hrs fun H' hX => ?_
          have k1 := kk H' trivial hX
          rw [← Nat.add_assoc, ← Nat.add_assoc] at k1
          exact k1
        · cases hp
end AMWM
