/-! the two rows that grow: the signs and the ways home -/
abbrev am_Ed (E : am_Ev) : Prop := Nonempty (PProd (am_lo E.2.2.1.1 = none) (PProd (1 ≤ E.2.2.1.1 ∧ E.2.2.1.1 ≤ E.2.2.2.2.1) (PProd (1 ≤ E.2.2.1.2 ∧ E.2.2.1.2 ≤ 5000) (PProd (am_lo E.2.2.2.1.1 = none) (PProd (1 ≤ E.2.2.2.1.1 ∧ E.2.2.2.1.1 ≤ E.2.2.2.2.1) (PProd (E.2.2.2.1.2 ≤ 10240) (E.2.2.1.1 ≠ E.2.2.2.1.1)))))))
theorem am_Ed.s0 {E : am_Ev} (h_ : am_Ed E) : am_lo E.2.2.1.1 = none := h_.elim (fun x_ => x_.1)
theorem am_Ed.s1 {E : am_Ev} (h_ : am_Ed E) : 1 ≤ E.2.2.1.1 ∧ E.2.2.1.1 ≤ E.2.2.2.2.1 := h_.elim (fun x_ => x_.2.1)
theorem am_Ed.s2 {E : am_Ev} (h_ : am_Ed E) : 1 ≤ E.2.2.1.2 ∧ E.2.2.1.2 ≤ 5000 := h_.elim (fun x_ => x_.2.2.1)
theorem am_Ed.h0 {E : am_Ev} (h_ : am_Ed E) : am_lo E.2.2.2.1.1 = none := h_.elim (fun x_ => x_.2.2.2.1)
theorem am_Ed.h1 {E : am_Ev} (h_ : am_Ed E) : 1 ≤ E.2.2.2.1.1 ∧ E.2.2.2.1.1 ≤ E.2.2.2.2.1 := h_.elim (fun x_ => x_.2.2.2.2.1)
theorem am_Ed.h2 {E : am_Ev} (h_ : am_Ed E) : E.2.2.2.1.2 ≤ 10240 := h_.elim (fun x_ => x_.2.2.2.2.2.1)
theorem am_Ed.ne {E : am_Ev} (h_ : am_Ed E) : E.2.2.1.1 ≠ E.2.2.2.1.1 := h_.elim (fun x_ => x_.2.2.2.2.2.2)
theorem lo_ne {a b : Nat} {y : am_Ly} (h : am_lo a = none) (h2 : am_lo b = some y) : a ≠ b := fun e => by rw [e, h2] at h; cases h
theorem cl_home {E : am_Ev} {s : am_S} (g : am_Ed E) : (am_hp E s).2.2 E.2.2.2.1.1 = .inl (2, E.2.2.2.1.2, .inr (.inl (am_ja (s E.2.2.2.1.1)))) := by
  show am_cl E s _ = _
  unfold am_cl
  rw [g.h0]
  simp only
  rw [if_neg (Ne.symm g.ne), if_pos trivial]
theorem cl_signs {E : am_Ev} {s : am_S} (g : am_Ed E) : (am_hp E s).2.2 E.2.2.1.1 = .inl (0, E.2.2.1.2, .inl (am_ia (s E.2.2.1.1))) := by
  show am_cl E s _ = _
  unfold am_cl
  rw [g.s0]
  simp only
  rw [if_pos trivial]
section SDY
variable {d i pc : Nat} {lv : am_L} {st r : List Value} {P : Option Value → am_H → Prop} {E : am_Ev} {s : am_S} {h : am_H} {aux : List Nat}
theorem s_laH {x : Int} (h1 : am_fetch i pc = some (.laload, 1, aux)) (g : am_Ed E) (hx : 0 ≤ x ∧ x < E.2.2.2.1.2) (k9 : am_wp d i (pc + 1) lv (.long (lI (s E.2.2.2.1.1 x)) :: r) (am_hp E s) P) : am_wp d i pc lv (.int (iI x) :: .ref E.2.2.2.1.1 :: r) (am_hp E s) P := by
  have q := g.h2
  refine am_s (st' := .long (lI (s E.2.2.2.1.1 x)) :: r) h1 ?_ k9
  show am_d13 pc (.laload, 1, aux) lv (.int (iI x) :: .ref E.2.2.2.1.1 :: r) (am_hp E s) = _
  unfold am_d13
  simp only [if_pos (show E.2.2.2.1.1 ≤ (am_hp E s).1 from g.h1.2), cl_home g, am_ald, iI_idx hx.1 hx.2 (by omega), if_true, Option.map_some, iI_clamp hx.1 (by omega), am_ja_at hx.1]
theorem s_wjH {x v : Int} (g : am_Ed E) (hx : 0 ≤ x) : (am_hp E (am_w s E.2.2.2.1.1 x v)).2.2 E.2.2.2.1.1 = .inl (2, E.2.2.2.1.2, .inr (.inl (vp_updL (am_ja (s E.2.2.2.1.1)) x.toNat (lI v)))) := by
  rw [cl_home g, am_ja_upd, am_w_fun, Int.toNat_of_nonneg hx]
theorem s_lsH {x v : Int} (h1 : am_fetch i pc = some (.lastore, 1, aux)) (g : am_Ed E) (hx : 0 ≤ x ∧ x < E.2.2.2.1.2) (k9 : am_wp d i (pc + 1) lv r (am_hp E (am_w s E.2.2.2.1.1 x v)) P) : am_wp d i pc lv (.long (lI v) :: .int (iI x) :: .ref E.2.2.2.1.1 :: r) (am_hp E s) P := by
  have q := g.h2
  refine am_s (st' := r) (h' := am_hp E (am_w s E.2.2.2.1.1 x v)) h1 ?_ k9
  show am_d14 pc (.lastore, 1, aux) lv (.long (lI v) :: .int (iI x) :: .ref E.2.2.2.1.1 :: r) (am_hp E s) = _
  unfold am_d14
  simp only [if_pos (show 1 ≤ E.2.2.2.1.1 ∧ E.2.2.2.1.1 ≤ (am_hp E s).1 from g.h1), cl_home g, am_ast, iI_idx hx.1 hx.2 (by omega), if_true, Option.map_some, iI_clamp hx.1 (by omega), s_up (s_wjH g hx.1)]
theorem s_lenH (h1 : am_fetch i pc = some (.arraylength, 1, aux)) (g : am_Ed E) (k9 : am_wp d i (pc + 1) lv (.int (iI (E.2.2.2.1.2 : Int)) :: r) (am_hp E s) P) : am_wp d i pc lv (.ref E.2.2.2.1.1 :: r) (am_hp E s) P := by
  refine am_s (st' := .int (iI (E.2.2.2.1.2 : Int)) :: r) h1 ?_ k9
  show am_d15 pc (.arraylength, 1, aux) lv (.ref E.2.2.2.1.1 :: r) (am_hp E s) = _
  unfold am_d15
  simp only [if_pos (show E.2.2.2.1.1 ≤ (am_hp E s).1 from g.h1.2), cl_home g, am_len, if_pos (show (2 : Nat) < 6 by decide), Option.map_some, iI_nat]
theorem s_lenS (h1 : am_fetch i pc = some (.arraylength, 1, aux)) (g : am_Ed E) (k9 : am_wp d i (pc + 1) lv (.int (iI (E.2.2.1.2 : Int)) :: r) (am_hp E s) P) : am_wp d i pc lv (.ref E.2.2.1.1 :: r) (am_hp E s) P := by
  refine am_s (st' := .int (iI (E.2.2.1.2 : Int)) :: r) h1 ?_ k9
  show am_d15 pc (.arraylength, 1, aux) lv (.ref E.2.2.1.1 :: r) (am_hp E s) = _
  unfold am_d15
  simp only [if_pos (show E.2.2.1.1 ≤ (am_hp E s).1 from g.s1.2), cl_signs g, am_len, if_pos (show (0 : Nat) < 6 by decide), Option.map_some, iI_nat]
theorem s_baS {x : Int} (h1 : am_fetch i pc = some (.baload, 1, aux)) (g : am_Ed E) (hx : 0 ≤ x ∧ x < E.2.2.1.2) (k9 : am_wp d i (pc + 1) lv (.int (iI (s E.2.2.1.1 x)) :: r) (am_hp E s) P) : am_wp d i pc lv (.int (iI x) :: .ref E.2.2.1.1 :: r) (am_hp E s) P := by
  have q := g.s2
  refine am_s (st' := .int (iI (s E.2.2.1.1 x)) :: r) h1 ?_ k9
  show am_d13 pc (.baload, 1, aux) lv (.int (iI x) :: .ref E.2.2.1.1 :: r) (am_hp E s) = _
  unfold am_d13
  simp only [if_pos (show E.2.2.1.1 ≤ (am_hp E s).1 from g.s1.2), cl_signs g, am_ald, iI_idx hx.1 hx.2 (by omega), if_true, Option.map_some, iI_clamp hx.1 (by omega), am_ia_at hx.1]
theorem s_wiS {x v : Int} (g : am_Ed E) (hx : 0 ≤ x) : (am_hp E (am_w s E.2.2.1.1 x v)).2.2 E.2.2.1.1 = .inl (0, E.2.2.1.2, .inl (upd (am_ia (s E.2.2.1.1)) x.toNat (iI v))) := by
  rw [cl_signs g, am_ia_upd, am_w_fun, Int.toNat_of_nonneg hx]
theorem nar_b {v : Int} (hv : -128 ≤ v ∧ v ≤ 127) : vp_nar .byte (iI v) = iI v := by
  rw [vp_nar_byte]
  apply Int32.toInt_inj.mp
  unfold iI
  rw [Int8.toInt_toInt32, Int32.toInt_toInt8, Int32.toInt_ofInt_of_le (by omega) (by omega)]
  exact Int.bmod_eq_of_le (by omega) (by omega)
theorem s_bsS {x v : Int} (h1 : am_fetch i pc = some (.bastore, 1, aux)) (g : am_Ed E) (hx : 0 ≤ x ∧ x < E.2.2.1.2) (hv : -128 ≤ v ∧ v ≤ 127) (k9 : am_wp d i (pc + 1) lv r (am_hp E (am_w s E.2.2.1.1 x v)) P) : am_wp d i pc lv (.int (iI v) :: .int (iI x) :: .ref E.2.2.1.1 :: r) (am_hp E s) P := by
  have q := g.s2
  refine am_s (st' := r) (h' := am_hp E (am_w s E.2.2.1.1 x v)) h1 ?_ k9
  show am_d14 pc (.bastore, 1, aux) lv (.int (iI v) :: .int (iI x) :: .ref E.2.2.1.1 :: r) (am_hp E s) = _
  unfold am_d14
  simp only [if_pos (show 1 ≤ E.2.2.1.1 ∧ E.2.2.1.1 ≤ (am_hp E s).1 from g.s1), cl_signs g, am_ast, iI_idx hx.1 hx.2 (by omega), if_true, Option.map_some, iI_clamp hx.1 (by omega), nar_b hv, s_up (s_wiS g hx.1)]
theorem s_wb {a n : Nat} {x v : Int} (ha : am_lo a = some (.inl (0, n))) (hx : 0 ≤ x) : (am_hp E (am_w s a x v)).2.2 a = .inl (0, n, .inl (upd (am_ia (s a)) x.toNat (iI v))) := by
  rw [s_ab ha, am_ia_upd, am_w_fun, Int.toNat_of_nonneg hx]
theorem s_bs0 {a n : Nat} {x v : Int} (h1 : am_fetch i pc = some (.bastore, 1, aux)) (g : am_Eg E) (ha : am_lo a = some (.inl (0, n))) (hx : 0 ≤ x ∧ x < n) (hn : n ≤ 2000000) (hv : -128 ≤ v ∧ v ≤ 127) (k9 : am_wp d i (pc + 1) lv r (am_hp E (am_w s a x v)) P) : am_wp d i pc lv (.int (iI v) :: .int (iI x) :: .ref a :: r) (am_hp E s) P := by
  refine am_s (st' := r) (h' := am_hp E (am_w s a x v)) h1 ?_ k9
  show am_d14 pc (.bastore, 1, aux) lv (.int (iI v) :: .int (iI x) :: .ref a :: r) (am_hp E s) = _
  unfold am_d14
  simp only [if_pos (s_le (s := s) g ha), s_ab ha, am_ast, iI_idx hx.1 hx.2 (by omega), if_true, Option.map_some, iI_clamp hx.1 (by omega), nar_b hv, s_up (s_wb ha hx.1)]
end SDY
/-- new ways home -/
def nEH (E : am_Ev) (s : am_S) (sz : Nat) : am_Ev := (am_cl E s, E.2.1, E.2.2.1, (E.2.2.2.2.1 + 1, sz), E.2.2.2.2.1 + 1, E.2.2.2.2.2 + sz)
def nSH (E : am_Ev) (s : am_S) : am_S := fun a y => if a = E.2.2.2.2.1 + 1 then 0 else s a y
theorem nSH_f {E : am_Ev} {s : am_S} {a : Nat} (h : a ≤ E.2.2.2.2.1) : nSH E s a = s a := by
  funext y
  unfold nSH
  rw [if_neg (by omega)]
theorem lo_no6 : ∀ a : Fin 194, a.val ≠ 158 → (match am_lo a.val with | some (.inr (_, ks)) => ks.all (fun k => k.1 != 6) | _ => true) = true := by decide +kernel
theorem lo_no5 : ∀ a : Fin 194, a.val ≠ 2 → (match am_lo a.val with | some (.inr (_, ks)) => ks.all (fun k => k.1 != 5) | _ => true) = true := by decide +kernel
theorem lo_kinds : ∀ a : Fin 194, (match am_lo a.val with | some (.inr (_, ks)) => ks.all (fun k => k.1 == 1 || k.1 == 2 || k.1 == 4 || k.1 == 5 || k.1 == 6) | _ => true) = true := by decide +kernel
theorem fs_cg {E E2 : am_Ev} {g : Int → Int} : ∀ {ks : List (Nat × Nat)} {i : Nat}, (∀ k ∈ ks, ∀ v, am_fv E k v = am_fv E2 k v) → am_fs E g ks i = am_fs E2 g ks i
  | [], _, _ => rfl
  | k :: ks, i, h => by
    show am_fv E k _ :: am_fs E g ks (i + 1) = am_fv E2 k _ :: am_fs E2 g ks (i + 1)
    rw [h k (List.mem_cons_self ..), fs_cg (fun k hk => h k (List.mem_cons_of_mem _ hk))]
theorem nEH_hp {E : am_Ev} {s : am_S} {sz : Nat} (g : am_Eg E) (gd : am_Ed E) : (E.2.2.2.2.1 + 1, E.2.2.2.2.2 + sz, am_up (am_up (am_cl E s) (E.2.2.2.2.1 + 1) (.inl (2, sz, .inr (.inl (fun _ => 0))))) 158 (.inr (6, [.ref (E.2.2.2.2.1 + 1), .int (iI (s 158 1)), .int (iI (s 158 2))]))) = am_hp (nEH E s sz) (nSH E s) := by
  have g1 := g.1
  show (_, _, _) = (E.2.2.2.2.1 + 1, E.2.2.2.2.2 + sz, am_cl (nEH E s sz) (nSH E s))
  congr 2
  funext a
  unfold am_up
  by_cases e1 : a = 158
  · subst e1
    rw [if_pos rfl]
    have e : nSH E s 158 = s 158 := nSH_f (by omega)
    show _ = am_cl (nEH E s sz) (nSH E s) 158
    show _ = Sum.inr (6, am_fs (nEH E s sz) (nSH E s 158) [(6, 0), (1, 0), (1, 0)] 0)
    rw [e]
    rfl
  · rw [if_neg e1]
    by_cases e2 : a = E.2.2.2.2.1 + 1
    · subst e2
      rw [if_pos rfl]
      have n0 : am_lo (E.2.2.2.2.1 + 1) = none := by
        unfold am_lo
        rw [if_neg (by omega)]
      unfold am_cl
      rw [n0]
      simp only
      have := gd.s1
      rw [if_neg (show ¬ (E.2.2.2.2.1 + 1 = (nEH E s sz).2.2.1.1) from fun z => by
        have z : E.2.2.2.2.1 + 1 = E.2.2.1.1 := z
        omega), if_pos (show E.2.2.2.2.1 + 1 = (nEH E s sz).2.2.2.1.1 from rfl)]
      have e : am_ja (nSH E s (E.2.2.2.2.1 + 1)) = fun _ => 0 := by
        funext i
        show lI (nSH E s (E.2.2.2.2.1 + 1) i) = 0
        unfold nSH
        rw [if_pos rfl]
        rfl
      rw [e]
      rfl
    · rw [if_neg e2]
      have es : nSH E s a = s a := by
        funext y
        unfold nSH
        rw [if_neg e2]
      by_cases e3 : am_lo a = none
      · unfold am_cl
        rw [e3]
        simp only [es]
        by_cases e4 : a = E.2.2.1.1
        · rw [if_pos e4, if_pos (show a = (nEH E s sz).2.2.1.1 from e4)]
          rfl
        · rw [if_neg e4, if_neg (show ¬ a = (nEH E s sz).2.2.1.1 from e4), if_neg (show ¬ a = (nEH E s sz).2.2.2.1.1 from e2)]
          show _ = am_cl E s a
          unfold am_cl
          rw [e3]
          simp only
          rw [if_neg e4]
      · obtain ⟨y, hy⟩ := Option.ne_none_iff_exists'.mp e3
        have al : a < 194 := by have := am_lo_le hy; omega
        have q := lo_no6 ⟨a, al⟩ e1
        unfold am_cl
        simp only [hy] at q ⊢
        rw [es]
        rcases y with ⟨t, n⟩ | ⟨ci, ks⟩
        · rfl
        · simp only at q ⊢
          rw [fs_cg (E2 := nEH E s sz)]
          intro k hk v
          have := List.all_eq_true.mp q k hk
          have k6 : k.1 ≠ 6 := by simpa using this
          unfold am_fv
          by_cases z1 : k.1 = 1
          · rw [if_pos z1, if_pos z1]
          · rw [if_neg z1, if_neg z1]
            by_cases z2 : k.1 = 2
            · rw [if_pos z2, if_pos z2]
            · rw [if_neg z2, if_neg z2]
              by_cases z4 : k.1 = 4
              · rw [if_pos z4, if_pos z4]
              · rw [if_neg z4, if_neg z4]
                by_cases z5 : k.1 = 5
                · rw [if_pos z5, if_pos z5]; rfl
                · have q2 := lo_kinds ⟨a, al⟩
                  simp only [hy] at q2
                  have := List.all_eq_true.mp q2 k hk
                  simp at this
                  omega
theorem nEH_g {E : am_Ev} {s : am_S} {sz : Nat} (g : am_Eg E) : am_Eg (nEH E s sz) := ⟨Nat.le_succ_of_le g.1, g.2⟩
theorem nEH_d {E : am_Ev} {s : am_S} {sz : Nat} (g : am_Eg E) (gd : am_Ed E) (hz : sz ≤ 10240) : am_Ed (nEH E s sz) := by
  have g1 := g.1
  have s1 := gd.s1
  refine ⟨gd.s0, ⟨s1.1, Nat.le_succ_of_le s1.2⟩, gd.s2, ?_, ⟨Nat.succ_le_succ (Nat.zero_le _), Nat.le_refl _⟩, hz, ?_⟩
  · show am_lo (E.2.2.2.2.1 + 1) = none
    unfold am_lo
    rw [if_neg (by omega)]
  · show E.2.2.1.1 ≠ E.2.2.2.2.1 + 1
    omega
theorem s_newH {d i pc : Nat} {lv : am_L} {r : List Value} {P : Option Value → am_H → Prop} {E : am_Ev} {s : am_S} {aux : List Nat} {sz idx p1 p2 : Nat} (h1 : am_fetch i pc = some (.newarray .long, 2, aux)) (h2 : am_fetch i (pc + 2) = some (.putfield idx, 3, [6, 0, p1, p2])) (g : am_Eg E) (gd : am_Ed E) (hz : sz ≤ 10240) (k9 : am_wp d i (pc + 2 + 3) lv r (am_hp (nEH E s sz) (nSH E s)) P) : am_wp d i pc lv (.int (iI (sz : Int)) :: .ref 158 :: r) (am_hp E s) P := by
  have g1 := g.1
  have hn : ¬ iI (sz : Int) < 0 := fun z => by
    have := (iI_lt (a := (sz : Int)) (b := 0) ⟨by omega, by omega⟩ ⟨by omega, by omega⟩).mp z
    omega
  have hc : (iI (sz : Int)).toNatClampNeg = sz := by rw [iI_clamp (by omega) (by omega)]; omega
  have hb : (iI (sz : Int)).toNatClampNeg * componentBytes (am_ty 2) ≤ 536870912 := by
    rw [hc]
    show sz * 8 ≤ _
    omega
  refine am_s (pc' := pc + 2) (lv' := lv) (st' := .ref (E.2.2.2.2.1 + 1) :: .ref 158 :: r) (h' := (E.2.2.2.2.1 + 1, E.2.2.2.2.2 + sz, am_up (am_cl E s) (E.2.2.2.2.1 + 1) (.inl (2, sz, .inr (.inl (fun _ => 0)))))) h1 ?_ ?_
  · show am_d19 pc (.newarray .long, 2, aux) lv (.int (iI (sz : Int)) :: .ref 158 :: r) (am_hp E s) = _
    unfold am_d19
    simp only [am_tag]
    rw [if_pos ⟨hn, hb⟩, hc]
    rfl
  · refine am_pf (fs := am_fs E (s 158) [(6, 0), (1, 0), (1, 0)] 0) h2 ⟨by decide, by show 158 ≤ E.2.2.2.2.1 + 1; omega⟩ ?_ (by rw [am_fs_len]; decide) rfl ?_
    · show am_up (am_cl E s) (E.2.2.2.2.1 + 1) _ 158 = _
      unfold am_up
      rw [if_neg (by omega)]
      rfl
    · rw [show ((am_fs E (s 158) [(6, 0), (1, 0), (1, 0)] 0).set 0 (.ref (E.2.2.2.2.1 + 1))) = [.ref (E.2.2.2.2.1 + 1), .int (iI (s 158 1)), .int (iI (s 158 2))] from rfl]
      show am_wp d i (pc + 2 + 3) lv r (E.2.2.2.2.1 + 1, E.2.2.2.2.2 + sz, am_up (am_up (am_cl E s) (E.2.2.2.2.1 + 1) (.inl (2, sz, .inr (.inl (fun _ => 0))))) 158 (.inr (6, [.ref (E.2.2.2.2.1 + 1), .int (iI (s 158 1)), .int (iI (s 158 2))]))) P
      rw [nEH_hp g gd]
      exact k9
