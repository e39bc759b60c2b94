/-! more room for the signs -/
def nES (E : am_Ev) (s : am_S) (N : Nat) : am_Ev := (am_cl E s, E.2.1, (E.2.2.2.2.1 + 1, N), E.2.2.2.1, E.2.2.2.2.1 + 1, E.2.2.2.2.2 + N)
def cpS (E : am_Ev) (s : am_S) : Int → Int := fun y => if y < (E.2.2.1.2 : Int) then s E.2.2.1.1 y else 0
def nSS (E : am_Ev) (s : am_S) : am_S := fun a y => if a = E.2.2.2.2.1 + 1 then cpS E s y else s a y
theorem nSS_f {E : am_Ev} {s : am_S} {a : Nat} (h : a ≤ E.2.2.2.2.1) : nSS E s a = s a := by
  funext y
  unfold nSS
  rw [if_neg (by omega)]
theorem nSS_n {E : am_Ev} {s : am_S} {y : Int} : nSS E s (E.2.2.2.2.1 + 1) y = cpS E s y := if_pos rfl
theorem nES_hp {E : am_Ev} {s : am_S} {N : Nat} (g : am_Eg E) (gd : am_Ed E) : (E.2.2.2.2.1 + 1, E.2.2.2.2.2 + N, am_up (am_up (am_cl E s) (E.2.2.2.2.1 + 1) (.inl (0, N, .inl (am_ia (cpS E s))))) 2 (.inr (7, [.ref (E.2.2.2.2.1 + 1), .int (iI (s 2 1)), .int (iI (s 2 2)), .int (iI (s 2 3)), .int (iI (s 2 4)), .int (iI (s 2 5)), .int (iI (s 2 6)), .ref 4]))) = am_hp (nES E s N) (nSS E s) := by
  have g1 := g.1
  show (_, _, _) = (E.2.2.2.2.1 + 1, E.2.2.2.2.2 + N, am_cl (nES E s N) (nSS E s))
  congr 2
  funext a
  unfold am_up
  by_cases e1 : a = 2
  · subst e1
    rw [if_pos rfl]
    have e : nSS E s 2 = s 2 := nSS_f (by omega)
    show _ = Sum.inr (7, am_fs (nES E s N) (nSS E s 2) [(5, 0), (1, 0), (1, 0), (1, 0), (1, 0), (1, 0), (1, 0), (4, 4)] 0)
    rw [e]
    rfl
  · rw [if_neg e1]
    by_cases e2 : a = E.2.2.2.2.1 + 1
    · subst e2
      rw [if_pos rfl]
      have n0 : am_lo (E.2.2.2.2.1 + 1) = none := by
        unfold am_lo
        rw [if_neg (by omega)]
      unfold am_cl
      rw [n0]
      simp only
      rw [if_pos (show E.2.2.2.2.1 + 1 = (nES E s N).2.2.1.1 from rfl)]
      have e : nSS E s (E.2.2.2.2.1 + 1) = cpS E s := by
        funext y
        exact nSS_n
      rw [e]
      rfl
    · rw [if_neg e2]
      have es : nSS E s a = s a := by
        funext y
        unfold nSS
        rw [if_neg e2]
      by_cases e3 : am_lo a = none
      · unfold am_cl
        rw [e3]
        simp only [es]
        rw [if_neg (show ¬ a = (nES E s N).2.2.1.1 from e2)]
        by_cases e4 : a = E.2.2.2.1.1
        · rw [if_neg (show ¬ a = E.2.2.1.1 from fun z => gd.ne (by rw [← z, e4])), if_pos e4, if_pos (show a = (nES E s N).2.2.2.1.1 from e4)]
          rfl
        · rw [if_neg e4, if_neg (show ¬ a = (nES E s N).2.2.2.1.1 from e4)]
          show _ = am_cl E s a
          unfold am_cl
          rw [e3]
          simp only
          rw [if_neg e4]
      · obtain ⟨y, hy⟩ := Option.ne_none_iff_exists'.mp e3
        have al : a < 194 := by have := am_lo_le hy; omega
        have q := lo_no5 ⟨a, al⟩ e1
        unfold am_cl
        simp only [hy] at q ⊢
        rw [es]
        rcases y with ⟨t, n⟩ | ⟨ci, ks⟩
        · rfl
        · simp only at q ⊢
          rw [fs_cg (E2 := nES E s N)]
          intro k hk v
          have := List.all_eq_true.mp q k hk
          have k5 : k.1 ≠ 5 := by simpa using this
          unfold am_fv
          by_cases z1 : k.1 = 1
          · rw [if_pos z1, if_pos z1]
          · rw [if_neg z1, if_neg z1]
            by_cases z2 : k.1 = 2
            · rw [if_pos z2, if_pos z2]
            · rw [if_neg z2, if_neg z2]
              by_cases z4 : k.1 = 4
              · rw [if_pos z4, if_pos z4]
              · rw [if_neg z4, if_neg z4, if_neg k5, if_neg k5]
                rfl
theorem nES_g {E : am_Ev} {s : am_S} {N : Nat} (g : am_Eg E) : am_Eg (nES E s N) := ⟨Nat.le_succ_of_le g.1, g.2⟩
theorem nES_d {E : am_Ev} {s : am_S} {N : Nat} (g : am_Eg E) (gd : am_Ed E) (hN : 1 ≤ N ∧ N ≤ 5000) : am_Ed (nES E s N) := by
  have g1 := g.1
  have h1 := gd.h1
  refine ⟨?_, ⟨Nat.succ_le_succ (Nat.zero_le _), Nat.le_refl _⟩, hN, gd.h0, ⟨h1.1, Nat.le_succ_of_le h1.2⟩, gd.h2, ?_⟩
  · show am_lo (E.2.2.2.2.1 + 1) = none
    unfold am_lo
    rw [if_neg (by omega)]
  · show E.2.2.2.2.1 + 1 ≠ E.2.2.2.1.1
    omega
theorem byte_fit {v : Int} (hv : -128 ≤ v ∧ v ≤ 127) : fits .byte (.int (iI v)) = true := by
  obtain ⟨k, rfl⟩ : ∃ k : Nat, v = (k : Int) - 128 := ⟨(v + 128).toNat, by omega⟩
  have hk : k < 256 := by omega
  have : ∀ k : Fin 256, fits .byte (.int (iI ((k.val : Int) - 128))) = true := by decide +kernel
  exact this ⟨k, hk⟩
def cpH (E : am_Ev) (s : am_S) (N : Nat) (f : Nat → Int32) : am_H := (E.2.2.2.2.1 + 1, E.2.2.2.2.2 + N, am_up (am_cl E s) (E.2.2.2.2.1 + 1) (.inl (0, N, .inl f)))
theorem t_copyOf {d : Nat} {E : am_Ev} {s : am_S} {N : Nat} (g : am_Eg E) (gd : am_Ed E) (hN : E.2.2.1.2 < N ∧ N ≤ 5000) (hb : ∀ y, 0 ≤ y → y < (E.2.2.1.2 : Int) → -128 ≤ s E.2.2.1.1 y ∧ s E.2.2.1.1 y ≤ 127) : am_wp (d + 1) 225 0 (lv_args 0 [.ref E.2.2.1.1, .int (iI (N : Int))]) [] (am_hp E s) (fun rv h => rv = some (.ref (E.2.2.2.2.1 + 1)) ∧ h = cpH E s N (am_ia (cpS E s))) := by
  have s1 := gd.s1
  have s2 := gd.s2
  refine am_s rfl rfl ?_
  refine am_s rfl rfl ?_
  refine s_lenS rfl gd ?_
  refine s_cne rfl ⟨by omega, by omega⟩ ⟨by omega, by omega⟩ (fun c1 => ?_) (fun c1 => absurd c1 (by omega))
  refine am_s rfl rfl ?_
  have hn : ¬ iI (N : Int) < 0 := fun z => by
    have := (iI_lt (a := (N : Int)) (b := 0) ⟨by omega, by omega⟩ ⟨by omega, by omega⟩).mp z
    omega
  have hc : (iI (N : Int)).toNatClampNeg = N := by rw [iI_clamp (by omega) (by omega)]; omega
  have hbb : (iI (N : Int)).toNatClampNeg * componentBytes (am_ty 0) ≤ 536870912 := by
    rw [hc]
    show N * 1 ≤ _
    omega
  refine am_s (pc' := 17) (lv' := lv_args 0 [.ref E.2.2.1.1, .int (iI (N : Int))]) (st' := [.ref (E.2.2.2.2.1 + 1)]) (h' := cpH E s N (fun _ => 0)) (show am_fetch 225 15 = some (.newarray .byte, 2, [171]) from rfl) ?_ ?_
  · show am_d19 15 (.newarray .byte, 2, [171]) _ [.int (iI (N : Int))] (am_hp E s) = _
    unfold am_d19
    simp only [am_tag]
    rw [if_pos ⟨hn, hbb⟩, hc]
    rfl
  · have ea : ∀ f, (cpH E s N f).2.2 E.2.2.1.1 = .inl (0, E.2.2.1.2, .inl (am_ia (s E.2.2.1.1))) := fun f => by
      show am_up (am_cl E s) (E.2.2.2.2.1 + 1) _ E.2.2.1.1 = _
      unfold am_up
      rw [if_neg (by omega)]
      exact cl_signs gd
    refine am_s rfl rfl ?_
    refine am_s rfl rfl ?_
    refine s_k 0 rfl rfl ?_
    refine am_s rfl rfl ?_
    refine s_k 0 rfl rfl ?_
    refine am_s rfl rfl ?_
    refine am_al rfl (show E.2.2.1.1 ≤ E.2.2.2.2.1 + 1 by omega) (ea _) (by decide) ?_
    rw [show nI E.2.2.1.2 = iI (E.2.2.1.2 : Int) from iI_nat _]
    refine am_s rfl rfl ?_
    refine am_cs (As := [_, _]) (rest := [_, _, _, _]) rfl (Or.inl rfl) rfl rfl (Nat.le_of_ble_eq_true rfl) rfl (t_minI (x := (E.2.2.1.2 : Int)) (y := (N : Int)) ⟨by omega, by omega⟩ ⟨by omega, by omega⟩) ?_
    rintro rv h1 ⟨rfl, rfl⟩
    rw [if_pos (by omega)]
    refine am_s (pc' := 31) (lv' := am_st1 (lv_args 0 [.ref E.2.2.1.1, .int (iI (N : Int))]) 2 (.ref (E.2.2.2.2.1 + 1))) (st' := []) (h' := cpH E s N (am_ia (cpS E s))) (show am_fetch 225 28 = some (.invokestatic 150, 3, [7, 550, 552, 551, 125]) from rfl) ?_ ?_
    · have hcp : am_cp ((cpH E s N (fun _ => 0)).2.2 E.2.2.1.1) ((cpH E s N (fun _ => 0)).2.2 (E.2.2.2.2.1 + 1)) (iI 0) (iI 0) (iI (E.2.2.1.2 : Int)) = some (.inl (0, N, .inl (am_ia (cpS E s)))) := by
        rw [ea]
        have e2 : (cpH E s N (fun _ => 0)).2.2 (E.2.2.2.2.1 + 1) = .inl (0, N, .inl (fun _ => 0)) := if_pos rfl
        rw [e2]
        unfold am_cp
        simp only
        have cL : (iI (E.2.2.1.2 : Int)).toNatClampNeg = E.2.2.1.2 := by rw [iI_clamp (by omega) (by omega)]; omega
        have c0 : (iI 0).toNatClampNeg = 0 := by decide
        have nL : ¬ iI (E.2.2.1.2 : Int) < 0 := fun z => by
          have := (iI_lt (a := (E.2.2.1.2 : Int)) (b := 0) ⟨by omega, by omega⟩ ⟨by omega, by omega⟩).mp z
          omega
        have hall : (List.range (iI (E.2.2.1.2 : Int)).toNatClampNeg).all (fun i => fits (am_ty 0) (.int (am_ia (s E.2.2.1.1) ((iI 0).toNatClampNeg + i)))) = true := by
          rw [cL, c0]
          refine List.all_eq_true.mpr (fun i hi => ?_)
          have hi := List.mem_range.mp hi
          show fits .byte (.int (am_ia (s E.2.2.1.1) (0 + i))) = true
          unfold am_ia
          exact byte_fit (hb _ (by omega) (by omega))
        rw [if_pos ⟨trivial, by decide, by decide, by decide, nL, by rw [cL, c0]; omega, by rw [cL, c0]; omega, hall⟩]
        · rw [cL, c0]
          refine congrArg (fun z => some (Sum.inl (0, N, Sum.inl z))) (funext fun j => ?_)
          unfold va_cpy am_ia cpS
          by_cases e : 0 ≤ j ∧ j < 0 + E.2.2.1.2
          · rw [if_pos e, if_pos (by omega)]
            congr 2
            omega
          · rw [if_neg e, if_neg (by omega)]
            rfl
      show am_d21 28 (.invokestatic 150, 3, [7, 550, 552, 551, 125]) _ (.int (iI (E.2.2.1.2 : Int)) :: .int (iI 0) :: .ref (E.2.2.2.2.1 + 1) :: .int (iI 0) :: .ref E.2.2.1.1 :: []) (cpH E s N (fun _ => 0)) = _
      unfold am_d21
      simp only [hcp, Option.map_some]
      rw [if_pos ⟨s1.1, by show E.2.2.1.1 ≤ E.2.2.2.2.1 + 1; omega, Nat.succ_le_succ (Nat.zero_le _), Nat.le_refl _, by decide⟩]
      have eu : am_up (cpH E s N (fun _ => 0)).2.2 (E.2.2.2.2.1 + 1) (.inl (0, N, .inl (am_ia (cpS E s)))) = (cpH E s N (am_ia (cpS E s))).2.2 := by
        funext b
        show am_up (am_up (am_cl E s) _ _) _ _ b = am_up (am_cl E s) _ _ b
        unfold am_up
        by_cases e : b = E.2.2.2.2.1 + 1
        · rw [if_pos e, if_pos e]
        · rw [if_neg e, if_neg e, if_neg e]
      rw [eu]
      rfl
    · refine am_s rfl rfl ?_
      exact am_r rfl rfl ⟨rfl, rfl⟩
