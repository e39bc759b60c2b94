/-! arrays copied -/
def am_cy (s : am_S) (a0 a : Nat) (sp dp n : Int) : am_S := fun b y => if b = a ∧ dp ≤ y ∧ y < dp + n then s a0 (y - dp + sp) else s b y
theorem am_cy_fr {s : am_S} {a0 a : Nat} {sp dp n : Int} : am_Fr [a] s (am_cy s a0 a sp dp n) := fun b hb => funext fun y => if_neg (fun z => hb (List.mem_singleton.mpr z.1))
theorem s_acp {d i pc : Nat} {lv : am_L} {r : List Value} {P : Option Value → am_H → Prop} {E : am_Ev} {s : am_S} {idx p1 p2 p3 p4 a0 a n0 n1 : Nat} {sp dp n : Int} (h1 : am_fetch i pc = some (.invokestatic idx, 3, [7, p1, p2, p3, p4])) (g : am_Eg E) (ha0 : am_lo a0 = some (.inl (1, n0))) (ha : am_lo a = some (.inl (1, n1))) (hsp : 0 ≤ sp) (hdp : 0 ≤ dp) (hn : 0 ≤ n) (h2 : sp + n ≤ n0) (h3 : dp + n ≤ n1) (hb : n0 ≤ 2000000 ∧ n1 ≤ 2000000) (hc : am_cat r ≤ 8) (k9 : am_wp d i (pc + 3) lv r (am_hp E (am_cy s a0 a sp dp n)) P) : am_wp d i pc lv (.int (iI n) :: .int (iI dp) :: .ref a :: .int (iI sp) :: .ref a0 :: r) (am_hp E s) P := by
  refine am_s (st' := r) (h' := am_hp E (am_cy s a0 a sp dp n)) h1 ?_ k9
  have nn : ∀ x : Int, 0 ≤ x → x < 2147483648 → ¬ iI x < 0 := fun x x0 x1 => by
    rw [show (0 : Int32) = iI 0 from rfl, iI_lt ⟨by omega, x1⟩ ⟨by omega, by omega⟩]
    omega
  have hcp : am_cp ((am_hp E s).2.2 a0) ((am_hp E s).2.2 a) (iI sp) (iI dp) (iI n) = some ((am_hp E (am_cy s a0 a sp dp n)).2.2 a) := by
    rw [s_ai ha0, s_ai ha, s_ai ha]
    unfold am_cp
    simp only
    rw [if_pos ⟨trivial, by decide, nn sp hsp (by omega), nn dp hdp (by omega), nn n hn (by omega), by rw [iI_clamp hsp (by omega), iI_clamp hn (by omega)]; omega, by rw [iI_clamp hdp (by omega), iI_clamp hn (by omega)]; omega, List.all_eq_true.mpr (fun _ _ => rfl)⟩]
    rw [iI_clamp hsp (by omega), iI_clamp hdp (by omega), iI_clamp hn (by omega)]
    refine congrArg (fun z => some (Sum.inl (1, n1, Sum.inl z))) (funext fun j => ?_)
    unfold va_cpy am_ia am_cy
    by_cases e : dp.toNat ≤ j ∧ j < dp.toNat + n.toNat
    · rw [if_pos e, if_pos ⟨rfl, by omega, by omega⟩]
      congr 2
      omega
    · rw [if_neg e, if_neg (fun z => e (by omega))]
  have hup : ((am_hp E s).1, (am_hp E s).2.1, am_up (am_hp E s).2.2 a ((am_hp E (am_cy s a0 a sp dp n)).2.2 a)) = am_hp E (am_cy s a0 a sp dp n) := by
    show (E.2.2.2.2.1, E.2.2.2.2.2, am_up (am_cl E s) a (am_cl E (am_cy s a0 a sp dp n) a)) = (E.2.2.2.2.1, E.2.2.2.2.2, am_cl E (am_cy s a0 a sp dp n))
    refine congrArg (fun z => (E.2.2.2.2.1, E.2.2.2.2.2, z)) (funext fun b => ?_)
    unfold am_up
    by_cases e : b = a
    · rw [if_pos e, e]
    · rw [if_neg e]
      unfold am_cl
      rw [am_cy_fr b (fun z => e (List.mem_singleton.mp z))]
  show am_d21 pc (.invokestatic idx, 3, [7, p1, p2, p3, p4]) lv (.int (iI n) :: .int (iI dp) :: .ref a :: .int (iI sp) :: .ref a0 :: r) (am_hp E s) = _
  have l0 := s_le (s := s) g ha0
  have l1 := s_le (s := s) g ha
  unfold am_d21
  simp only [hcp, Option.map_some, hup]
  rw [if_pos ⟨l0.1, l0.2, l1.1, l1.2, hc⟩]
