def am_rvO (o : Option (Option Value × am_H)) : Option (Option Value) := o.map (fun r => r.1)
def am_out (o : Option (Option Value × am_H)) : am_H := match o with
  | some r => r.2
  | none => (0, 0, fun _ => am_dm)
theorem am_closed {o : Option (Option Value × am_H)} {rv : Option Value} (h : am_rvO o = some rv) : o = some (rv, am_out o) := by
  match o, h with
  | some (a, b), h =>
    have : a = rv := Option.some.inj h
    subst this
    rfl
/-- an empty heap with a new RoundTours at 1, and what its constructor makes of it -/
def am_hA : am_H := (1, 9, am_up (fun _ => am_dm) 1 (.inr (11, (List.range 9).map (fun j => defaultValue (am_fty 11 j)))))
def am_hB : am_H := am_out (am_exec 4000 20 121 0 [(0, .ref 1)] [] am_hA)
def am_hB2 : am_H := (168, am_hB.2.1 + 41, am_up am_hB.2.2 168 (.inr (12, (List.range 41).map (fun j => defaultValue (am_fty 12 j)))))
def am_hC : am_H := am_out (am_exec 4000 20 155 0 [(0, .ref 168)] [] am_hB2)
set_option maxRecDepth 100000 in
theorem am_hB_ok : am_rvO (am_exec 4000 20 121 0 [(0, .ref 1)] [] am_hA) = some none := by decide +kernel
set_option maxRecDepth 100000 in
theorem am_hB_n : am_hB.1 = 167 := by decide +kernel
set_option maxRecDepth 100000 in
theorem am_hC_ok : am_rvO (am_exec 4000 20 155 0 [(0, .ref 168)] [] am_hB2) = some none := by decide +kernel
set_option maxRecDepth 100000 in
theorem am_hC_n : am_hC.1 = 193 := by decide +kernel
set_option maxRecDepth 100000 in
theorem am_hC_s : decide (am_hC.2.1 ≤ 2000000) = true := by decide +kernel
theorem am_lawArgs : lv_args 0 [Value.ref 1] = [(0, .ref 1)] := rfl
theorem am_mgAll (G : Nat → am_E) : am_mg (fun _ => am_dm) G = G := by
  funext k
  rfl
theorem am_sp {d i pc : Nat} {lv : am_L} {st : List Value} {h : am_H} {P P1 : Option Value → am_H → Prop} {idx k j n p1 p2 p3 p4 a : Nat} {As rest : List Value} (h1 : am_fetch i pc = some (.invokespecial idx, 3, [k, j, n, p1, p2, p3, p4])) (hk : k = 5 ∨ k = 6) (h3 : st = (.ref a :: As).reverse ++ rest) (h4 : As.length = n) (h5 : am_cat rest ≤ 8) (h6 : am_fitsL j (.ref a :: As) = true)
    (k1 : am_wp d j 0 (lv_args 0 (.ref a :: As)) [] h P1) (k2 : ∀ (rv : Option Value) (h' : am_H), P1 rv h' → am_wp (d + 1) i (pc + 3) lv (rv.toList ++ rest) h' P) : am_wp (d + 1) i pc lv st h P := by
  refine am_c h1 ?_ k1 k2
  have e1 : am_do i pc (.invokespecial idx, 3, [k, j, n, p1, p2, p3, p4]) lv st h = am_call j (n + 1) (fun as => match as with
    | .ref _ :: _ => true
    | _ => false) st := by
    rcases hk with rfl | rfl <;> rfl
  rw [e1]
  unfold am_call
  have e2 : (st.take (n + 1)).reverse = .ref a :: As := by
    rw [h3, List.take_append_of_le_length (by simp [h4]), List.take_of_length_le (by simp [h4]), List.reverse_reverse]
  have e3 : st.drop (n + 1) = rest := by
    rw [h3, List.drop_append_of_le_length (by simp [h4]), List.drop_of_length_le (by simp [h4])]
    rfl
  have e4 : n + 1 ≤ st.length := by rw [h3]; simp [h4]
  rw [e2, e3, if_pos ⟨e4, h5, h6, rfl⟩]
theorem am_hA_run : am_wp 29 121 0 (lv_args 0 [.ref 1]) [] am_hA (fun rv h' => rv = none ∧ h' = am_hB) :=
  am_wp_deep (d := 20) (by decide) ⟨4000, none, am_hB, am_closed am_hB_ok, rfl, rfl⟩
theorem am_hB_run : am_wp 29 155 0 (lv_args 0 [.ref 168]) [] am_hB2 (fun rv h' => rv = none ∧ h' = am_hC) :=
  am_wp_deep (d := 20) (by decide) ⟨4000, none, am_hC, am_closed am_hC_ok, rfl, rfl⟩
theorem am_nwR {d i pc idx ci N : Nat} {lv : am_L} {st : List Value} {h : am_H} {P : Option Value → am_H → Prop} {tl : List Nat} {C : String} {T : u_T} (h1 : am_fetch i pc = some (.new idx, 3, ci :: tl)) (hr : vwCl[ci]? = some (C, T, N)) (k : am_wp d i (pc + 3) lv (.ref (h.1 + 1) :: st) (h.1 + 1, h.2.1 + N, am_up h.2.2 (h.1 + 1) (.inr (ci, (List.range N).map (fun j => defaultValue (am_fty ci j))))) P) : am_wp d i pc lv st h P := by
  refine am_s h1 ?_ k
  show am_d18 pc (.new idx, 3, ci :: tl) lv st h = _
  unfold am_d18
  simp only [hr]
/-- from the law's entry to its loop: both objects are made -/
theorem lw_made0 {S : am_E} {P : Option Value → am_H → Prop} {hB hC : am_H} (hBn : hB.1 = 167) (rA : am_wp 29 121 0 (lv_args 0 [.ref 1]) [] am_hA (fun rv h' => rv = none ∧ h' = hB)) (rB : am_wp 29 155 0 (lv_args 0 [.ref 168]) [] (168, hB.2.1 + 41, am_up hB.2.2 168 (.inr (12, (List.range 41).map (fun j => defaultValue (am_fty 12 j))))) (fun rv h' => rv = none ∧ h' = hC)) (k : am_wp 30 226 18 (am_lvL 0) [] (am_mH (fun _ => S) hC) P) : am_wp 30 226 0 [(0, .ref 0)] [] (0, 0, fun _ => S) P := by
  refine am_s rfl rfl ?_
  refine am_s rfl rfl ?_
  have eA : ((0 + 1, 0 + 9, am_up (fun _ => S) (0 + 1) (.inr (11, (List.range 9).map (fun j => defaultValue (am_fty 11 j))))) : am_H) = am_mH (fun _ => S) am_hA := by
    unfold am_mH am_hA
    rw [am_mg_up rfl, am_mgAll]
  show am_wp 30 226 4 [(0, .ref 0)] [.ref 1, .ref 1] ((0 + 1, 0 + 9, am_up (fun _ => S) (0 + 1) (.inr (11, (List.range 9).map (fun j => defaultValue (am_fty 11 j))))) : am_H) P
  rw [eA]
  refine am_sp (As := []) (rest := [.ref 1]) rfl (Or.inl rfl) rfl rfl (by decide) (by decide +kernel) (am_wp_frame (fun _ => S) rA) ?_
  rintro rv h' ⟨h9, ⟨e8, e9⟩, e10⟩
  rw [e9] at e10
  rw [e8, e10]
  refine am_s rfl rfl ?_
  refine am_nwR (N := 41) rfl rfl ?_
  have eB : (((am_mH (fun _ => S) hB).1 + 1, (am_mH (fun _ => S) hB).2.1 + 41, am_up (am_mH (fun _ => S) hB).2.2 ((am_mH (fun _ => S) hB).1 + 1) (.inr (12, (List.range 41).map (fun j => defaultValue (am_fty 12 j))))) : am_H) = am_mH (fun _ => S) (168, hB.2.1 + 41, am_up hB.2.2 168 (.inr (12, (List.range 41).map (fun j => defaultValue (am_fty 12 j))))) := by
    have e1 : (am_mH (fun _ => S) hB).1 = 167 := hBn
    rw [e1]
    unfold am_mH
    rw [am_mg_up rfl]
  have eC : (am_mH (fun _ => S) hB).1 + 1 = 168 := congrArg (· + 1) hBn
  rw [eB, eC]
  refine am_s rfl rfl ?_
  refine am_sp (As := []) (rest := [.ref 168]) rfl (Or.inl rfl) rfl rfl (by decide) (by decide +kernel) (am_wp_frame (fun _ => S) rB) ?_
  rintro rv h' ⟨h9, ⟨e8, e9⟩, e10⟩
  rw [e9] at e10
  rw [e8, e10]
  refine am_s rfl rfl ?_
  refine am_s rfl rfl ?_
  refine am_s rfl rfl ?_
  exact k
theorem lw_made {S : am_E} {P : Option Value → am_H → Prop} (k : am_wp 30 226 18 (am_lvL 0) [] (am_mH (fun _ => S) am_hC) P) : am_wp 30 226 0 [(0, .ref 0)] [] (0, 0, fun _ => S) P := lw_made0 am_hB_n am_hA_run am_hB_run k
