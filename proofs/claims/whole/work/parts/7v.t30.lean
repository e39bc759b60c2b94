/-! bounds: a tree without city 0, and the two edges of city 0 -/
def dg2 (hu : Int → Int) : Nat → Int → Int
  | 0, _ => 0
  | m + 1, c => dg2 hu m c + (if m < 2 then 0 else (if c = (m : Int) then 1 else 0) + (if c = hu m then 1 else 0))
theorem dg2_s {hu : Int → Int} {m : Nat} (hm : ¬ m < 2) (c : Int) : dg2 hu (m + 1) c = dg2 hu m c + ((if c = (m : Int) then 1 else 0) + (if c = hu m then 1 else 0)) := congrArg (dg2 hu m c + ·) (if_neg hm)
theorem dg2_le (hu : Int → Int) : ∀ (m : Nat) (c : Int), 0 ≤ dg2 hu m c ∧ dg2 hu m c ≤ 2 * m
  | 0, _ => ⟨Int.le_refl 0, Int.le_refl 0⟩
  | m + 1, c => by
    have := dg2_le hu m c
    show 0 ≤ dg2 hu m c + _ ∧ dg2 hu m c + _ ≤ _
    split <;> (try split) <;> (try split) <;> omega
theorem dg2_congr {hu hu2 : Int → Int} : ∀ (m : Nat), (∀ c, 2 ≤ c → c < (m : Int) → hu c = hu2 c) → ∀ c, dg2 hu m c = dg2 hu2 m c
  | 0, _, _ => rfl
  | m + 1, h, c => by
    show dg2 hu m c + _ = dg2 hu2 m c + _
    rw [dg2_congr m (fun c c0 c1 => h c c0 (by omega)) c]
    by_cases e : m < 2
    · rw [if_pos e, if_pos e]
    · rw [if_neg e, if_neg e, h m (by omega) (by omega)]
/-- the nearest of 1 .. n - 1 but one -/
def nf (n : Int) (F : Int → Int) (but m v : Int) : Prop := nr_at n (fun _ b => F b) (fun b => 1 ≤ b ∧ b ≠ but) 0 m v
theorem t_far0 {d : Nat} {E : am_Ev} {s : am_S} {c : Int} (g : am_Eg E) (hc : 0 ≤ c ∧ c < 20) (hr : am_R (mx s 0 c)) : am_wp d 4 0 (lv_args 0 [.ref 160, .ref 25, .int (iI c)]) [] (am_hp E s) (fun rv h => rv = some (.long (lI (fx s 161 0 c))) ∧ h = am_hp E s) := by
  refine am_s rfl rfl ?_
  refine s_gr rfl g rfl rfl ?_
  refine s_k 0 rfl rfl ?_
  refine s_aa rfl g rfl ⟨by omega, by omega⟩ (by decide) ?_
  refine am_s rfl rfl ?_
  refine s_ia rfl g (lo_26 (by omega) (by omega)) ⟨by omega, by omega⟩ (by decide) ?_
  refine s_i2l rfl hr ?_
  refine am_s rfl rfl ?_
  refine s_gr rfl g rfl rfl ?_
  refine s_k 0 rfl rfl ?_
  refine s_la rfl g rfl ⟨by omega, by omega⟩ (by decide) ?_
  refine s_ladd rfl ?_
  refine am_s rfl rfl ?_
  refine s_gr rfl g rfl rfl ?_
  refine am_s rfl rfl ?_
  refine s_la rfl g rfl ⟨by omega, by omega⟩ (by decide) ?_
  refine s_ladd rfl ?_
  exact am_r rfl rfl ⟨rfl, rfl⟩
theorem t_near0 {d : Nat} {E : am_Ev} {s : am_S} {but : Int} {PP : Option Value → am_H → Prop} (g : am_Eg E) (hm : mx_ok s) (hp : pn_ok s 161) (hbr : am_R but) (hPP : ∀ v, nf (s 25 0) (fx s 161 0) but (s 25 0) v → PP (some (.int (iI v))) (am_hp E s)) : am_wp (d + 1) 5 0 (lv_args 0 [.ref 160, .ref 25, .int (iI but)]) [] (am_hp E s) PP := by
  obtain ⟨n1, n2, hD⟩ := hm
  obtain ⟨n, en⟩ : ∃ n : Nat, s 25 0 = n := ⟨(s 25 0).toNat, by omega⟩
  have hfb : ∀ c, 0 ≤ c → c < (n : Int) → -4000000000000000 ≤ fx s 161 0 c ∧ fx s 161 0 c ≤ 4000000000000000 := fun c c0 c1 => by
    have h1 := hD 0 c (by omega) (by omega) c0 (by omega)
    have h2 := hp 0 (by omega) (by omega)
    have h3 := hp c c0 (by omega)
    unfold fx
    omega
  refine s_k (-1) rfl rfl ?_
  refine am_s rfl rfl ?_
  refine s_k 1 rfl rfl ?_
  refine am_s rfl rfl ?_
  refine am_lv [(4, .int (iI (((1 : Nat) : Int) : Int))), (3, .int (iI (-1))), (2, .int (iI but)), (1, .ref 25), (0, .ref 160)] rfl rfl ⟨rfl, rfl, rfl, rfl, rfl, trivial⟩ ?_
  refine s_loop (X := Int) (fun m v s' => s = s' ∧ nf n (fx s 161 0) but m v) (fun m v => [(4, .int (iI (m : Int))), (3, .int (iI v)), (2, .int (iI but)), (1, .ref 25), (0, .ref 160)]) (lo := 1) (hi := n) (x := -1) (by omega) ⟨rfl, Or.inl ⟨rfl, fun b b0 b1 hb => by have := hb.1; omega⟩⟩ ?_ ?_
  · rintro m v s1 hm0 hmn ⟨rfl, hQ⟩ kk
    have hvr : v = -1 ∨ 1 ≤ v ∧ v < (m : Int) := by
      rcases hQ with ⟨z, -⟩ | ⟨z, z2, -⟩
      · exact Or.inl z
      · exact Or.inr ⟨z2.1, z.2⟩
    have fm1 := hfb m (by omega) (by omega)
    have dm1 := hD 0 m (by omega) (by omega) (by omega) (by omega)
    simp only at kk ⊢
    have j43 : ∀ w5 : Int, (w5 = 0 ∨ w5 = 1) → (w5 = 0 → v ≠ -1 ∧ fx s 161 0 v ≤ fx s 161 0 m) → (¬ w5 = 0 → v = -1 ∨ fx s 161 0 m < fx s 161 0 v) → am_wp (d + 1) 5 43 [(5, .int (iI w5)), (4, .int (iI (m : Int))), (3, .int (iI v)), (2, .int (iI but)), (1, .ref 25), (0, .ref 160)] [] (am_hp E s) PP := by
      intro w5 r5 hw0 hw1
      refine am_s rfl rfl ?_
      refine am_s rfl rfl ?_
      refine s_ceq rfl ⟨by omega, by omega⟩ hbr (fun e1 => ?_) (fun e1 => ?_)
      · refine s_inc rfl rfl ?_
        refine am_s rfl rfl ?_
        refine am_lv [(4, _), (3, _), (2, _), (1, _), (0, _)] rfl rfl ⟨rfl, rfl, rfl, rfl, rfl, trivial⟩ ?_
        exact kk v s ⟨rfl, nr_skip hQ (fun z => z.2 e1)⟩
      · refine am_s rfl rfl ?_
        refine s_zeq rfl ⟨by omega, by omega⟩ (fun e2 => ?_) (fun e2 => ?_)
        · refine s_inc rfl rfl ?_
          refine am_s rfl rfl ?_
          refine am_lv [(4, _), (3, _), (2, _), (1, _), (0, _)] rfl rfl ⟨rfl, rfl, rfl, rfl, rfl, trivial⟩ ?_
          exact kk v s ⟨rfl, nr_keep hQ (hw0 e2).1 (hw0 e2).2⟩
        · refine am_s rfl rfl ?_
          refine am_s rfl rfl ?_
          refine s_inc rfl rfl ?_
          refine am_s rfl rfl ?_
          refine am_lv [(4, _), (3, _), (2, _), (1, _), (0, _)] rfl rfl ⟨rfl, rfl, rfl, rfl, rfl, trivial⟩ ?_
          exact kk m s ⟨rfl, nr_take (n := (n : Int)) (D := fun _ b => fx s 161 0 b) hQ (by omega) ⟨by omega, e1⟩ (hw1 e2)⟩
    refine am_s rfl rfl ?_
    refine am_s rfl rfl ?_
    refine s_gi (x := 0) rfl g rfl rfl rfl ?_
    refine s_cge rfl ⟨by omega, by omega⟩ ⟨by omega, by omega⟩ (fun c1 => absurd c1 (by omega)) (fun c1 => ?_)
    refine am_s rfl rfl ?_
    refine s_k (-1) rfl rfl ?_
    refine s_ceq rfl ⟨by omega, by omega⟩ ⟨by omega, by omega⟩ (fun c2 => ?_) (fun c2 => ?_)
    · refine s_k 1 rfl rfl ?_
      refine am_s rfl rfl ?_
      refine am_s rfl rfl ?_
      refine am_lv [(5, _), (4, _), (3, _), (2, _), (1, _), (0, _)] rfl rfl ⟨rfl, rfl, rfl, rfl, rfl, rfl, trivial⟩ ?_
      exact j43 1 (Or.inr rfl) (fun z => absurd z (by decide)) (fun _ => Or.inl c2)
    · refine am_s rfl rfl ?_
      refine am_s rfl rfl ?_
      refine am_s rfl rfl ?_
      refine s_cv [_, _] [] rfl g (Or.inl rfl) rfl rfl (Nat.le_of_ble_eq_true rfl) rfl rfl (t_far0 g (c := m) ⟨by omega, by omega⟩ ⟨by omega, by omega⟩) ?_
      rintro rv h1 ⟨rfl, rfl⟩
      refine am_s rfl rfl ?_
      refine am_s rfl rfl ?_
      refine am_s rfl rfl ?_
      have dv1 := hD 0 v (by omega) (by omega) (by omega) (by omega)
      have fv1 := hfb v (by omega) (by omega)
      refine s_cv [_, _] [_] rfl g (Or.inl rfl) rfl rfl (Nat.le_of_ble_eq_true rfl) rfl rfl (t_far0 g (c := v) ⟨by omega, by omega⟩ ⟨by omega, by omega⟩) ?_
      rintro rv h1 ⟨rfl, rfl⟩
      refine s_jge rfl rfl ⟨by omega, by omega⟩ ⟨by omega, by omega⟩ (fun c3 => ?_) (fun c3 => ?_)
      · refine s_k 0 rfl rfl ?_
        refine am_s rfl rfl ?_
        refine am_lv [(5, _), (4, _), (3, _), (2, _), (1, _), (0, _)] rfl rfl ⟨rfl, rfl, rfl, rfl, rfl, rfl, trivial⟩ ?_
        exact j43 0 (Or.inl rfl) (fun _ => ⟨c2, c3⟩) (fun z => absurd rfl z)
      · refine s_k 1 rfl rfl ?_
        refine am_s rfl rfl ?_
        refine am_s rfl rfl ?_
        refine am_lv [(5, _), (4, _), (3, _), (2, _), (1, _), (0, _)] rfl rfl ⟨rfl, rfl, rfl, rfl, rfl, rfl, trivial⟩ ?_
        exact j43 1 (Or.inr rfl) (fun z => absurd z (by decide)) (fun _ => Or.inr (Int.not_le.mp c3))
  · rintro v s1 ⟨rfl, hQ⟩
    simp only
    refine am_s rfl rfl ?_
    refine am_s rfl rfl ?_
    refine s_gi (x := 0) rfl g rfl rfl rfl ?_
    refine s_cge rfl ⟨by omega, by omega⟩ ⟨by omega, by omega⟩ (fun c1 => ?_) (fun c1 => absurd c1 (by omega))
    refine am_s rfl rfl ?_
    exact am_r rfl rfl (hPP v (by rw [en]; exact hQ))
theorem t_punish {d n : Nat} {E : am_Ev} {s : am_S} {stp : Int} (g : am_Eg E) (hn : n ≤ 20) (hE : ∀ c, 0 ≤ c → c < (n : Int) → 0 ≤ s 162 c ∧ s 162 c ≤ 100) : am_wp d 6 0 (lv_args 0 [.ref 160, .int (iI (n : Int)), .long (lI stp)]) [] (am_hp E s) (fun rv h => rv = none ∧ ∃ s', h = am_hp E s' ∧ am_Fr [161] s s' ∧ ∀ c, s' 161 c = if 0 ≤ c ∧ c < (n : Int) then s 161 c + stp * (s 162 c - 2) else s 161 c) := by
  refine s_k 0 rfl rfl ?_
  refine am_s rfl rfl ?_
  refine am_lv [(4, .int (iI (((0 : Nat) : Int) : Int))), (2, .long (lI stp)), (1, .int (iI (n : Int))), (0, .ref 160)] rfl rfl ⟨rfl, rfl, rfl, rfl, trivial⟩ ?_
  refine s_loop (X := Unit) (fun k _ s' => am_Fr [161] s s' ∧ ∀ c, s' 161 c = if 0 ≤ c ∧ c < (k : Int) then s 161 c + stp * (s 162 c - 2) else s 161 c) (fun k _ => [(4, .int (iI (k : Int))), (2, .long (lI stp)), (1, .int (iI (n : Int))), (0, .ref 160)]) (hi := n) (x := ()) (Nat.zero_le n) ⟨am_Fr_r _ _, fun c => by rw [if_neg (by omega)]⟩ ?_ ?_
  · rintro k - s1 hk0 hk ⟨hF, hV⟩ kk
    have e162 : s1 162 = s 162 := hF 162 (by decide)
    simp only at kk ⊢
    refine am_s rfl rfl ?_
    refine am_s rfl rfl ?_
    refine s_cge rfl ⟨by omega, by omega⟩ ⟨by omega, by omega⟩ (fun c1 => absurd c1 (by omega)) (fun c1 => ?_)
    refine am_s rfl rfl ?_
    refine s_gr rfl g rfl rfl ?_
    refine am_s rfl rfl ?_
    refine am_s rfl rfl ?_
    refine s_la rfl g rfl ⟨by omega, by omega⟩ (by decide) ?_
    refine am_s rfl rfl ?_
    refine am_s rfl rfl ?_
    refine s_gr rfl g rfl rfl ?_
    refine am_s rfl rfl ?_
    refine s_ia rfl g rfl ⟨by omega, by omega⟩ (by decide) ?_
    refine s_k 2 rfl rfl ?_
    refine s_isub rfl ?_
    refine s_i2l rfl (by rw [e162]; have := hE k (by omega) (by omega); exact ⟨by omega, by omega⟩) ?_
    refine s_lmul rfl ?_
    refine s_ladd rfl ?_
    refine s_ls rfl g rfl ⟨by omega, by omega⟩ (by decide) ?_
    refine s_inc rfl rfl ?_
    refine am_s rfl rfl ?_
    refine am_lv [(4, _), (2, _), (1, _), (0, _)] rfl rfl ⟨rfl, rfl, rfl, rfl, trivial⟩ ?_
    refine kk () _ ⟨am_Fr_W hF (by decide), fun c => ?_⟩
    by_cases e : c = (k : Int)
    · rw [e, am_w_eq, hV, if_neg (by omega), if_pos (by omega), e162]
    · rw [am_w_x e, hV c]
      by_cases e2 : 0 ≤ c ∧ c < (k : Int)
      · rw [if_pos e2, if_pos (by omega)]
      · rw [if_neg e2, if_neg (by omega)]
  · rintro - s1 ⟨hF, hV⟩
    simp only
    refine am_s rfl rfl ?_
    refine am_s rfl rfl ?_
    refine s_cge rfl ⟨by omega, by omega⟩ ⟨by omega, by omega⟩ (fun c1 => ?_) (fun c1 => absurd c1 (by omega))
    exact am_r rfl rfl ⟨rfl, s1, rfl, hF, hV⟩
/-- what one look for a bound gives: the value and the edges -/
def ot_is (n : Int) (f : Int → Int → Int) (pen : Int → Int) (val : Int) (dg : Int → Int) : Prop := ∃ (I : Int → Prop) (on : Int → Int) (al one oth : Int), gw_ok n 1 f ((n - 1).toNat - 1) I on al ∧ nf n (f 0) (-1) n one ∧ nf n (f 0) one n oth ∧ val = al + (f 0 one + f 0 oth) - 2 * s_sum pen n.toNat ∧ ∀ c, 0 ≤ c → c < n → dg c = (if c = 0 then 2 else dg2 on n.toNat c + ((if c = one then 1 else 0) + (if c = oth then 1 else 0)))
theorem nf_some {n : Int} {F : Int → Int} {but v : Int} (hn : 3 ≤ n) (h : nf n F but n v) : (1 ≤ v ∧ v < n) ∧ v ≠ but := by
  rcases h with ⟨-, h⟩ | ⟨h1, h2, -⟩
  · exfalso
    by_cases e : (1 : Int) = but
    · exact h 2 (by omega) (by omega) ⟨by omega, by omega⟩
    · exact h 1 (by omega) (by omega) ⟨by omega, e⟩
  · exact ⟨⟨h2.1, h1.2⟩, h2.2⟩
