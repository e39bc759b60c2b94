def fxp (D : Int → Int → Int) (pen : Int → Int) (t c : Int) : Int := D t c + pen t + pen c
/-- k rounds of a bound: the penalties, the greatest value, the step -/
def bd_ok (n : Int) (D : Int → Int → Int) (pen0 : Int → Int) (st0 : Int) : Nat → (Int → Int) → Int → Int → Prop
  | 0, pen, _, stp => (∀ c, 0 ≤ c → c < 20 → pen c = pen0 c) ∧ stp = st0
  | k + 1, pen, gr, stp => ∃ (pen1 : Int → Int) (gr1 stp1 val : Int) (dg : Int → Int), bd_ok n D pen0 st0 k pen1 gr1 stp1 ∧ ot_is n (fxp D pen1) pen1 val dg ∧ (∀ c, 0 ≤ c → c < 20 → pen c = if c < n then pen1 c + stp1 * (dg c - 2) else pen1 c) ∧ gr = (if k = 0 then val else if gr1 < val then val else gr1) ∧ stp = (if ((k : Int) + 1) % 10 = 0 then stp1 / 2 else stp1)
theorem ot_dg {n : Int} {f : Int → Int → Int} {pen dg : Int → Int} {val : Int} (hn : 3 ≤ n ∧ n ≤ 20) (h : ot_is n f pen val dg) : ∀ c, 0 ≤ c → c < n → 0 ≤ dg c ∧ dg c ≤ 42 := by
  obtain ⟨I, on, al, one, oth, h1, h2, h3, h4, h5⟩ := h
  intro c c0 c1
  rw [h5 c c0 c1]
  have := dg2_le on n.toNat c
  (repeat' split) <;> omega
theorem t_max {d : Nat} {h : am_H} {a b : Int} (ha : am_Q a) (hb : am_Q b) : am_wp d 220 0 (lv_args 0 [.long (lI a), .long (lI b)]) [] h (fun rv h' => rv = some (.long (lI (if a < b then b else a))) ∧ h' = h) := by
  refine am_s rfl rfl ?_
  refine am_s rfl rfl ?_
  refine s_jlt rfl rfl ha hb (fun c1 => ?_) (fun c1 => ?_)
  · refine am_s rfl rfl ?_
    exact am_r rfl rfl ⟨by rw [if_pos c1], rfl⟩
  · refine am_s rfl rfl ?_
    refine am_s rfl rfl ?_
    exact am_r rfl rfl ⟨by rw [if_neg c1], rfl⟩
theorem lI_div {a b : Int} (ha : 0 ≤ a ∧ a < 9223372036854775808) (hb : 0 < b ∧ b < 9223372036854775808) : lI a / lI b = lI (a / b) := by
  apply Int64.toInt_inj.mp
  have h1 : 0 ≤ a / b := Int.ediv_nonneg ha.1 (by omega)
  have h2 : a / b ≤ a := Int.ediv_le_self b ha.1
  rw [Int64.toInt_div, lI_toInt ⟨by omega, by omega⟩, lI_toInt ⟨by omega, by omega⟩, lI_toInt ⟨by omega, by omega⟩, Int.tdiv_eq_ediv_of_nonneg ha.1]
  exact Int.bmod_eq_of_le (by omega) (by omega)
theorem s_ldiv {d i pc : Nat} {lv : am_L} {r : List Value} {P : Option Value → am_H → Prop} {h : am_H} {aux : List Nat} {a b : Int} (h1 : am_fetch i pc = some (.ldiv, 1, aux)) (ha : 0 ≤ a ∧ a < 9223372036854775808) (hb : 0 < b ∧ b < 9223372036854775808) (k9 : am_wp d i (pc + 1) lv (.long (lI (a / b)) :: r) h P) : am_wp d i pc lv (.long (lI b) :: .long (lI a) :: r) h P := by
  refine am_s (st' := .long (lI (a / b)) :: r) h1 ?_ k9
  have hn : ¬ lI b = 0 := by
    rw [show (0 : Int64) = lI 0 from rfl, lI_eq ⟨by omega, by omega⟩ ⟨by omega, by omega⟩]
    omega
  show am_d3 pc (.ldiv, 1, aux) lv (.long (lI b) :: .long (lI a) :: r) h = _
  unfold am_d3
  simp only [am_jj, if_neg hn, Option.map_some, lI_div ha hb]
theorem gw_f {n x : Int} {f f2 : Int → Int → Int} (hx : 0 ≤ x) (hf : ∀ p q, x ≤ p → p < n → x ≤ q → q < n → f p q = f2 p q) : ∀ {k : Nat} {I : Int → Prop} {on : Int → Int} {al : Int}, gw_ok n x f k I on al → gw_ok n x f2 k I on al
  | 0, _, _, _, h => h
  | k + 1, I, on, al, h => by
    obtain ⟨I0, on0, al0, c, a, h1, hp, e1, e2, e3, e4⟩ := h
    obtain ⟨p1, p2, p3, p4, p5⟩ := hp
    refine ⟨I0, on0, al0, c, a, gw_f hx hf h1, ⟨p1, p2, p3, p4, fun c2 t a1 a2 a3 a4 a5 a6 => ?_⟩, e1, e2, e3, by rw [e4, hf a c p3.1 p3.2 p1.1 p1.2]⟩
    have := p5 c2 t a1 a2 a3 a4 a5 a6
    rw [hf a c p3.1 p3.2 p1.1 p1.2, hf t c2 a4 a5 a1 a2] at this
    exact this
theorem ot_f {n : Nat} {f f2 : Int → Int → Int} {pen dg : Int → Int} {val : Int} (hn : 0 < n) (hf : ∀ t c, 0 ≤ t → t < (n : Int) → f t c = f2 t c) (h : ot_is n f pen val dg) : ot_is n f2 pen val dg := by
  obtain ⟨I, on, al, one, oth, h1, h2, h3, h4, h5⟩ := h
  have e : f 0 = f2 0 := funext fun c => hf 0 c (Int.le_refl 0) (by omega)
  exact ⟨I, on, al, one, oth, gw_f (by decide) (fun p q p0 p1 _ _ => hf p q (by omega) p1) h1, by rw [← e]; exact h2, by rw [← e]; exact h3, by rw [← e]; exact h4, h5⟩
set_option maxHeartbeats 4000000 in
theorem t_climb {d : Nat} {E : am_Ev} {s : am_S} {rn stp0 : Int} (g : am_Eg E) (hm : mx_ok s) (hr : 1 ≤ rn ∧ rn ≤ 100) (hst : 0 ≤ stp0 ∧ stp0 ≤ 1000000) (hp0 : ∀ c, 0 ≤ c → c < 20 → -100000000000000 ≤ s 161 c ∧ s 161 c ≤ 100000000000000) : am_wp (d + 3) 2 0 (lv_args 0 [.ref 160, .ref 25, .int (iI rn), .int (iI stp0)]) [] (am_hp E s) (fun rv h => (s 25 0 = 1 ∧ rv = some (.long (lI 0)) ∧ h = am_hp E s) ∨ (s 25 0 = 2 ∧ rv = some (.long (lI (2 * mx s 0 1))) ∧ h = am_hp E s) ∨ (3 ≤ s 25 0 ∧ ∃ gr s' stp, rv = some (.long (lI gr)) ∧ h = am_hp E s' ∧ am_Fr [161, 162, 164, 165, 166, 167] s s' ∧ bd_ok (s 25 0) (mx s) (s 161) stp0 rn.toNat (s' 161) gr stp ∧ ∀ c, 0 ≤ c → c < 20 → -200000000000000 ≤ s' 161 c ∧ s' 161 c ≤ 200000000000000)) := by
  obtain ⟨n1, n2, hD⟩ := hm
  obtain ⟨n, en⟩ : ∃ n : Nat, s 25 0 = n := ⟨(s 25 0).toNat, by omega⟩
  obtain ⟨q, eq⟩ : ∃ q : Nat, rn = q := ⟨rn.toNat, by omega⟩
  refine am_s rfl rfl ?_
  refine s_gi (x := 0) rfl g rfl rfl rfl ?_
  refine s_k 3 rfl rfl ?_
  refine s_cge rfl ⟨by omega, by omega⟩ ⟨by omega, by omega⟩ (fun c1 => ?_) (fun c1 => ?_)
  · refine s_kl (-9223372036854775807) rfl rfl ?_
    refine am_s rfl rfl ?_
    refine am_s rfl rfl ?_
    refine s_i2l rfl ⟨by omega, by omega⟩ ?_
    refine am_s rfl rfl ?_
    refine s_k 1 rfl rfl ?_
    refine am_s rfl rfl ?_
    refine am_lv [(8, .int (iI (((1 : Nat) : Int) : Int))), (6, .long (lI stp0)), (4, .long (lI (-9223372036854775807))), (3, .int (iI stp0)), (2, .int (iI rn)), (1, .ref 25), (0, .ref 160)] rfl rfl ⟨rfl, rfl, rfl, rfl, rfl, rfl, rfl, trivial⟩ ?_
    refine s_loop (X := Int × Int) (fun k x s' => am_Fr [161, 162, 164, 165, 166, 167] s s' ∧ bd_ok n (mx s) (s 161) stp0 (k - 1) (s' 161) x.1 x.2 ∧ (0 ≤ x.2 ∧ x.2 ≤ 1000000) ∧ (∀ c, 0 ≤ c → c < 20 → -(100000000000000 + 42000000 * (k : Int)) ≤ s' 161 c ∧ s' 161 c ≤ 100000000000000 + 42000000 * (k : Int)) ∧ ((k : Int) = 1 → x.1 = (-9223372036854775807)) ∧ ((k : Int) ≠ 1 → -1000000000000000000 ≤ x.1 ∧ x.1 ≤ 1000000000000000000)) (fun k x => [(8, .int (iI (k : Int))), (6, .long (lI x.2)), (4, .long (lI x.1)), (3, .int (iI stp0)), (2, .int (iI rn)), (1, .ref 25), (0, .ref 160)]) (lo := 1) (hi := q + 1) (x := ((-9223372036854775807), stp0)) (by omega) ⟨am_Fr_r _ _, ⟨fun _ _ _ => rfl, rfl⟩, hst, fun c c0 c1 => by have := hp0 c c0 c1; omega, fun _ => rfl, fun z => absurd rfl z⟩ ?_ ?_
    · rintro k x s1 hk0 hk ⟨hF, h2, h3, h4, h5, h6⟩ kk
      have eN : s1 25 0 = n := by rw [hF 25 (by decide)]; exact en
      have m1 : mx_ok s1 := ⟨by omega, by omega, fun a b a0 a1 b0 b1 => by
        have := hD a b a0 (by omega) b0 (by omega)
        unfold mx at this ⊢
        rw [hF (26 + 1 + a.toNat) (fun z => by simp at z; omega)]
        exact this⟩
      have p1 : pn_ok s1 161 := fun c c0 c1 => by have := h4 c c0 c1; omega
      have hxq : am_Q x.1 := by
        by_cases e : (k : Int) = 1
        · rw [h5 e]; exact ⟨by decide, by decide⟩
        · have := h6 e; exact ⟨by omega, by omega⟩
      simp only at kk ⊢
      refine am_s rfl rfl ?_
      refine am_s rfl rfl ?_
      refine s_cgt rfl ⟨by omega, by omega⟩ ⟨by omega, by omega⟩ (fun c1 => absurd c1 (by omega)) (fun c1 => ?_)
      refine am_s rfl rfl ?_
      refine am_s rfl rfl ?_
      refine am_s rfl rfl ?_
      refine s_cv [_] [_] rfl g (Or.inl rfl) rfl rfl (Nat.le_of_ble_eq_true rfl) rfl rfl (t_oneTree (PP := fun rv h => ∃ val s', rv = some (.long (lI val)) ∧ h = am_hp E s' ∧ am_Fr [162, 164, 165, 166, 167] s1 s' ∧ ot_is (s1 25 0) (fx s1 161) (s1 161) val (s' 162) ∧ -1000000000000000000 ≤ val ∧ val ≤ 1000000000000000000) g m1 p1 (by omega) (fun val s' h => ⟨val, s', rfl, rfl, h⟩)) ?_
      rintro rv h1 ⟨val, s2, rfl, rfl, hF2, hot, v1, v2⟩
      rw [eN] at hot
      have e25 : s2 25 0 = n := by rw [hF2 25 (by decide)]; exact eN
      have hdg := ot_dg ⟨by omega, by omega⟩ hot
      refine am_cs (As := [_, _]) (rest := []) rfl (Or.inl rfl) rfl rfl (Nat.le_of_ble_eq_true rfl) rfl (t_max hxq ⟨by omega, by omega⟩) ?_
      rintro rv h1 ⟨rfl, rfl⟩
      refine am_s rfl rfl ?_
      refine am_s rfl rfl ?_
      refine am_s rfl rfl ?_
      refine s_gi (x := 0) rfl g rfl rfl rfl ?_
      refine am_s rfl rfl ?_
      rw [e25]
      refine s_cv [_, _] [] rfl g (Or.inl rfl) rfl rfl (Nat.le_of_ble_eq_true rfl) rfl rfl (t_punish (n := n) (stp := x.2) g (by omega) (fun c c0 c1 => by have := hdg c c0 c1; omega)) ?_
      rintro rv h1 ⟨rfl, s3, rfl, hF3, hV3⟩
      have e161 : s2 161 = s1 161 := hF2 161 (by decide)
      have hF4 : am_Fr [161, 162, 164, 165, 166, 167] s s3 := am_Fr_u (am_Fr_u hF (am_Fr_m hF2 (by decide))) (am_Fr_m hF3 (by decide))
      have eot : ot_is n (fxp (mx s) (s1 161)) (s1 161) val (s2 162) := by
        refine ot_f (by omega) (fun t c t0 t1 => ?_) hot
        unfold fx fxp mx
        rw [hF (26 + 1 + t.toNat) (fun z => by simp at z; omega)]
      have hpn : ∀ c, 0 ≤ c → c < 20 → s3 161 c = if c < (n : Int) then s1 161 c + x.2 * (s2 162 c - 2) else s1 161 c := fun c c0 c1 => by
        rw [hV3 c, e161]
        by_cases e : c < (n : Int)
        · rw [if_pos ⟨c0, e⟩, if_pos e]
        · rw [if_neg (fun z => e z.2), if_neg e]
      have hpb : ∀ c, 0 ≤ c → c < 20 → -(100000000000000 + 42000000 * ((k + 1 : Nat) : Int)) ≤ s3 161 c ∧ s3 161 c ≤ 100000000000000 + 42000000 * ((k + 1 : Nat) : Int) := fun c c0 c1 => by
        have a1 := h4 c c0 c1
        rw [hpn c c0 c1]
        by_cases e : c < (n : Int)
        · rw [if_pos e]
          have a2 := hdg c c0 e
          have a3 : x.2 * (s2 162 c - 2) ≤ 1000000 * 40 := Int.le_trans (Int.mul_le_mul_of_nonneg_left (by omega) h3.1) (Int.mul_le_mul_of_nonneg_right h3.2 (by omega))
          have a4 : -(1000000 * 2) ≤ x.2 * (s2 162 c - 2) := by
            have := Int.mul_le_mul_of_nonneg_left (show -2 ≤ s2 162 c - 2 by omega) h3.1
            omega
          omega
        · rw [if_neg e]; omega
      have hk1 : k = (k - 1) + 1 := by omega
      have hgr : (if x.1 < val then val else x.1) = (if k - 1 = 0 then val else if x.1 < val then val else x.1) := by
        by_cases e : k - 1 = 0
        · rw [if_pos e, if_pos (by rw [h5 (by omega)]; omega)]
        · rw [if_neg e]
      have hgb : -1000000000000000000 ≤ (if x.1 < val then val else x.1) ∧ (if x.1 < val then val else x.1) ≤ 1000000000000000000 := by
        by_cases e : (k : Int) = 1
        · rw [h5 e, if_pos (by omega)]; omega
        · have := h6 e; split <;> omega
      refine am_s rfl rfl ?_
      refine s_k 10 rfl rfl ?_
      refine s_irem rfl ⟨by omega, by omega⟩ ⟨by omega, by omega⟩ ?_
      refine s_zne rfl ⟨by omega, by omega⟩ (fun c2 => ?_) (fun c2 => ?_)
      · refine s_inc rfl rfl ?_
        refine am_s rfl rfl ?_
        refine am_lv [(8, _), (6, _), (4, _), (3, _), (2, _), (1, _), (0, _)] rfl rfl ⟨rfl, rfl, rfl, rfl, rfl, rfl, rfl, trivial⟩ ?_
        refine kk ((if x.1 < val then val else x.1), x.2) _ ⟨hF4, ?_, ?_, hpb, fun z => by omega, fun _ => hgb⟩
        · show bd_ok n (mx s) (s 161) stp0 (k + 1 - 1) (s3 161) (if x.1 < val then val else x.1) (x.2)
          rw [show k + 1 - 1 = (k - 1) + 1 by omega, hgr]
          exact ⟨s1 161, x.1, x.2, val, s2 162, h2, eot, hpn, rfl, by rw [show ((k - 1 : Nat) : Int) + 1 = k by omega]; rw [if_neg c2]⟩
        · show 0 ≤ x.2 ∧ x.2 ≤ 1000000
          omega
      · refine am_s rfl rfl ?_
        refine s_kl 2 rfl rfl ?_
        refine s_ldiv rfl ⟨by omega, by omega⟩ ⟨by decide, by decide⟩ ?_
        refine am_s rfl rfl ?_
        refine s_inc rfl rfl ?_
        refine am_s rfl rfl ?_
        refine am_lv [(8, _), (6, _), (4, _), (3, _), (2, _), (1, _), (0, _)] rfl rfl ⟨rfl, rfl, rfl, rfl, rfl, rfl, rfl, trivial⟩ ?_
        refine kk ((if x.1 < val then val else x.1), x.2 / 2) _ ⟨hF4, ?_, ?_, hpb, fun z => by omega, fun _ => hgb⟩
        · show bd_ok n (mx s) (s 161) stp0 (k + 1 - 1) (s3 161) (if x.1 < val then val else x.1) (x.2 / 2)
          rw [show k + 1 - 1 = (k - 1) + 1 by omega, hgr]
          exact ⟨s1 161, x.1, x.2, val, s2 162, h2, eot, hpn, rfl, by rw [show ((k - 1 : Nat) : Int) + 1 = k by omega]; rw [if_pos (by omega)]⟩
        · show 0 ≤ x.2 / 2 ∧ x.2 / 2 ≤ 1000000
          omega
    · rintro x s1 ⟨hF, h2, h3, h4, h5, h6⟩
      simp only
      refine am_s rfl rfl ?_
      refine am_s rfl rfl ?_
      refine s_cgt rfl ⟨by omega, by omega⟩ ⟨by omega, by omega⟩ (fun c1 => ?_) (fun c1 => absurd c1 (by omega))
      refine am_s rfl rfl ?_
      refine am_r rfl rfl (Or.inr (Or.inr ⟨by omega, x.1, s1, x.2, rfl, rfl, hF, ?_, fun c c0 c1 => ?_⟩))
      · rw [en, show rn.toNat = q + 1 - 1 by omega]; exact h2
      · have := h4 c c0 c1; omega
  · refine am_s rfl rfl ?_
    refine s_gi (x := 0) rfl g rfl rfl rfl ?_
    refine s_k 2 rfl rfl ?_
    refine s_cge rfl ⟨by omega, by omega⟩ ⟨by omega, by omega⟩ (fun c2 => ?_) (fun c2 => ?_)
    · refine s_kl 2 rfl rfl ?_
      refine am_s rfl rfl ?_
      refine s_gr rfl g rfl rfl ?_
      refine s_k 0 rfl rfl ?_
      refine s_aa rfl g rfl ⟨by omega, by omega⟩ (by decide) ?_
      refine s_k 1 rfl rfl ?_
      refine s_ia rfl g (lo_26 (by omega) (by omega)) ⟨by omega, by omega⟩ (by decide) ?_
      refine s_i2l rfl (by have := hD 0 1 (by omega) (by omega) (by omega) (by omega); unfold mx at this; exact ⟨by omega, by omega⟩) ?_
      refine s_lmul rfl ?_
      first | exact am_r rfl rfl (Or.inl ⟨by omega, rfl, rfl⟩) | exact am_r rfl rfl (Or.inr (Or.inl ⟨by omega, rfl, rfl⟩))
    · refine s_kl 0 rfl rfl ?_
      refine am_s rfl rfl ?_
      first | exact am_r rfl rfl (Or.inl ⟨by omega, rfl, rfl⟩) | exact am_r rfl rfl (Or.inr (Or.inl ⟨by omega, rfl, rfl⟩))
