/-! the other one joins pairs: the walk -/
set_option maxHeartbeats 4000000 in
theorem t_bpPick {d : Nat} {E : am_Ev} {s : am_S} {N : Nat} {tu ta : Int} {PP : Option Value → am_H → Prop} (g : am_Eg E) (hm : my_ok s) (en : s 168 1 = (N : Int)) (h01 : ∀ c d, 0 ≤ c → c < d → d < (N : Int) → s 190 (20 * c + d) = 0 ∨ s 190 (20 * c + d) = 1) (hex : ∃ c d, 0 ≤ c ∧ c < d ∧ d < (N : Int) ∧ s 190 (20 * c + d) = 0) (K : ∀ a b, (0 ≤ a ∧ a < b ∧ b < (N : Int)) → s 190 (20 * a + b) = 0 → (∀ c d, 0 ≤ c → c < d → d < (N : Int) → s 190 (20 * c + d) = 0 → jlt (my s) a b c d) → am_wp (d + 1) 202 163 [(4, .int (iI b)), (3, .int (iI a)), (2, .int (iI tu)), (1, .int (iI ta)), (0, .ref 168)] [] (am_hp E s) PP) : am_wp (d + 1) 202 73 [(2, .int (iI tu)), (1, .int (iI ta)), (0, .ref 168)] [] (am_hp E s) PP := by
  have n1 := hm.1
  have n2 := hm.2.1
  refine s_k (-1) rfl rfl ?_
  refine am_s rfl rfl ?_
  refine s_k (-1) rfl rfl ?_
  refine am_s rfl rfl ?_
  refine s_k 0 rfl rfl ?_
  refine am_s rfl rfl ?_
  refine am_lv [(5, .int (iI (((0 : Nat) : Int) : Int))), (4, .int (iI ((-1 : Int), (-1 : Int)).2)), (3, .int (iI ((-1 : Int), (-1 : Int)).1)), (2, .int (iI tu)), (1, .int (iI ta)), (0, .ref 168)] rfl rfl ⟨rfl, rfl, rfl, rfl, rfl, rfl, trivial⟩ ?_
  refine s_loop (X := Int × Int) (fun k x s' => s = s' ∧ jb N (my s) (fun c d => s 190 (20 * c + d) = 0) (k : Int) (k + 1 : Int) x.1 x.2) (fun k x => [(5, .int (iI (k : Int))), (4, .int (iI x.2)), (3, .int (iI x.1)), (2, .int (iI tu)), (1, .int (iI ta)), (0, .ref 168)]) (hi := N) (x := ((-1 : Int), (-1 : Int))) (by omega) ⟨rfl, jb_0 (by omega)⟩ ?_ ?_
  · rintro k x s1 hk0 hk1 ⟨rfl, hB⟩ kk
    simp only at kk ⊢
    refine am_s rfl rfl ?_
    refine am_s rfl rfl ?_
    refine s_gi (x := 1) rfl g rfl rfl rfl ?_
    refine s_cge rfl ⟨by omega, by omega⟩ ⟨by omega, by omega⟩ (fun c1 => absurd c1 (by omega)) (fun c1 => ?_)
    refine am_s rfl rfl ?_
    refine s_k 1 rfl rfl ?_
    refine s_iadd rfl ?_
    refine am_s rfl rfl ?_
    refine am_lv [(6, .int (iI (((k + 1 : Nat) : Int) : Int))), (5, .int (iI (k : Int))), (4, .int (iI x.2)), (3, .int (iI x.1)), (2, .int (iI tu)), (1, .int (iI ta)), (0, .ref 168)] rfl rfl ⟨rfl, rfl, rfl, rfl, rfl, rfl, rfl, trivial⟩ ?_
    refine s_loop (X := Int × Int) (fun j x s' => s = s' ∧ jb N (my s) (fun c d => s 190 (20 * c + d) = 0) (k : Int) (j : Int) x.1 x.2) (fun j x => [(6, .int (iI (j : Int))), (5, .int (iI (k : Int))), (4, .int (iI x.2)), (3, .int (iI x.1)), (2, .int (iI tu)), (1, .int (iI ta)), (0, .ref 168)]) (lo := k + 1) (hi := N) (x := x) (by omega) ⟨rfl, by rw [show ((k + 1 : Nat) : Int) = (k : Int) + 1 by omega]; exact hB⟩ ?_ ?_
    · rintro j x s2 hj0 hj1 ⟨rfl, hB2⟩ kk2
      simp only at kk2 ⊢
      have hu := h01 k j (by omega) (by omega) (by omega)
      have hmx := hm.2.2 k j (by omega) (by omega) (by omega) (by omega)
      have hab : x.1 = -1 ∨ (0 ≤ x.1 ∧ x.1 < x.2 ∧ x.2 < (N : Int)) := by
        rcases hB2 with ⟨z, -⟩ | ⟨z, -⟩
        · exact Or.inl z
        · exact Or.inr z
      refine am_s rfl rfl ?_
      refine am_s rfl rfl ?_
      refine s_gi (x := 1) rfl g rfl rfl rfl ?_
      refine s_cge rfl ⟨by omega, by omega⟩ ⟨by omega, by omega⟩ (fun c1 => absurd c1 (by omega)) (fun c1 => ?_)
      refine am_s rfl rfl ?_
      refine s_gr rfl g rfl rfl ?_
      refine s_k 20 rfl rfl ?_
      refine am_s rfl rfl ?_
      refine s_imul rfl ?_
      refine am_s rfl rfl ?_
      refine s_iadd rfl ?_
      refine s_ba rfl g rfl ⟨by omega, by omega⟩ (by decide) ?_
      refine s_zne rfl (by rcases hu with z | z <;> exact ⟨by omega, by omega⟩) (fun c2 => ?_) (fun c2 => ?_)
      · refine s_inc rfl rfl ?_
        refine am_s rfl rfl ?_
        refine am_lv [(6, _), (5, _), (4, _), (3, _), (2, _), (1, _), (0, _)] rfl rfl ⟨rfl, rfl, rfl, rfl, rfl, rfl, rfl, trivial⟩ ?_
        refine kk2 x _ ⟨rfl, ?_⟩
        rw [show ((j + 1 : Nat) : Int) = (j : Int) + 1 by omega]
        exact jb_no hB2 (fun z => by omega)
      · refine am_s rfl rfl ?_
        refine s_k (-1) rfl rfl ?_
        refine s_ceq rfl ⟨by omega, by omega⟩ ⟨by omega, by omega⟩ (fun c3 => ?_) (fun c3 => ?_)
        · refine am_s rfl rfl ?_
          refine am_s rfl rfl ?_
          refine am_s rfl rfl ?_
          refine am_s rfl rfl ?_
          refine s_inc rfl rfl ?_
          refine am_s rfl rfl ?_
          refine am_lv [(6, _), (5, _), (4, _), (3, _), (2, _), (1, _), (0, _)] rfl rfl ⟨rfl, rfl, rfl, rfl, rfl, rfl, rfl, trivial⟩ ?_
          refine kk2 ((k : Int), (j : Int)) _ ⟨rfl, ?_⟩
          rw [show ((j + 1 : Nat) : Int) = (j : Int) + 1 by omega]
          exact jb_take hB2 (by omega) (by omega) (by omega) (by omega) (Or.inl (by omega))
        · refine am_s rfl rfl ?_
          refine am_s rfl rfl ?_
          refine am_s rfl rfl ?_
          refine s_cv [_, _] [] rfl g (Or.inl rfl) rfl rfl (Nat.le_of_ble_eq_true rfl) rfl rfl (t_far (d := d) (s := s) (a := k) (b := j) g ⟨by omega, by omega⟩ ⟨by omega, by omega⟩) ?_
          rintro rv h1 ⟨rfl, rfl⟩
          refine am_s rfl rfl ?_
          refine am_s rfl rfl ?_
          refine am_s rfl rfl ?_
          have hmab := hm.2.2 x.1 x.2 (by omega) (by omega) (by omega) (by omega)
          refine s_cv [_, _] [_] rfl g (Or.inl rfl) rfl rfl (Nat.le_of_ble_eq_true rfl) rfl rfl (t_far (d := d) (s := s) (a := x.1) (b := x.2) g ⟨by omega, by omega⟩ ⟨by omega, by omega⟩) ?_
          rintro rv h1 ⟨rfl, rfl⟩
          refine s_cge rfl ⟨by omega, by omega⟩ ⟨by omega, by omega⟩ (fun c4 => ?_) (fun c4 => ?_)
          · refine s_inc rfl rfl ?_
            refine am_s rfl rfl ?_
            refine am_lv [(6, _), (5, _), (4, _), (3, _), (2, _), (1, _), (0, _)] rfl rfl ⟨rfl, rfl, rfl, rfl, rfl, rfl, rfl, trivial⟩ ?_
            refine kk2 x _ ⟨rfl, ?_⟩
            rw [show ((j + 1 : Nat) : Int) = (j : Int) + 1 by omega]
            exact jb_keep hB2 (by omega) (by omega)
          · refine am_s rfl rfl ?_
            refine am_s rfl rfl ?_
            refine am_s rfl rfl ?_
            refine am_s rfl rfl ?_
            refine s_inc rfl rfl ?_
            refine am_s rfl rfl ?_
            refine am_lv [(6, _), (5, _), (4, _), (3, _), (2, _), (1, _), (0, _)] rfl rfl ⟨rfl, rfl, rfl, rfl, rfl, rfl, rfl, trivial⟩ ?_
            refine kk2 ((k : Int), (j : Int)) _ ⟨rfl, ?_⟩
            rw [show ((j + 1 : Nat) : Int) = (j : Int) + 1 by omega]
            exact jb_take hB2 (by omega) (by omega) (by omega) (by omega) (Or.inr (by omega))
    · rintro x s2 ⟨rfl, hB2⟩
      simp only
      refine am_s rfl rfl ?_
      refine am_s rfl rfl ?_
      refine s_gi (x := 1) rfl g rfl rfl rfl ?_
      refine s_cge rfl ⟨by omega, by omega⟩ ⟨by omega, by omega⟩ (fun c1 => ?_) (fun c1 => absurd c1 (by omega))
      refine s_inc rfl rfl ?_
      refine am_s rfl rfl ?_
      refine am_lv [(5, _), (4, _), (3, _), (2, _), (1, _), (0, _)] rfl rfl ⟨rfl, rfl, rfl, rfl, rfl, rfl, trivial⟩ ?_
      refine kk x _ ⟨rfl, ?_⟩
      rw [show ((k + 1 : Nat) : Int) = (k : Int) + 1 by omega]
      exact jb_row hB2 (Or.inl (by omega)) (by omega)
  · rintro x s1 ⟨rfl, hB⟩
    simp only
    refine am_s rfl rfl ?_
    refine am_s rfl rfl ?_
    refine s_gi (x := 1) rfl g rfl rfl rfl ?_
    refine s_cge rfl ⟨by omega, by omega⟩ ⟨by omega, by omega⟩ (fun c1 => ?_) (fun c1 => absurd c1 (by omega))
    rcases hB with ⟨z, hz⟩ | ⟨z1, -, z2, z3⟩
    · obtain ⟨c, d, c0, cd, d1, hf⟩ := hex
      exact absurd hf (hz c d c0 cd d1 (by omega))
    refine am_lv [(4, .int (iI x.2)), (3, .int (iI x.1)), (2, .int (iI tu)), (1, .int (iI ta)), (0, .ref 168)] rfl rfl ⟨rfl, rfl, rfl, rfl, rfl, trivial⟩ ?_
    exact K x.1 x.2 z1 z2 (fun c d c0 cd d1 hc => z3 c d c0 cd d1 (by omega) hc)
set_option maxHeartbeats 4000000 in
theorem t_bpTake {d : Nat} {E : am_Ev} {s : am_S} {N : Nat} {S : jS} {tu ta a b : Int} {PP : Option Value → am_H → Prop} (g : am_Eg E) (hN : N ≤ 20) (en : s 168 1 = (N : Int)) (hy : jy s N S) (hh : jh S a b) (a1 : a < N) (b1 : b < N) (hr : ∀ c, 0 ≤ c → c < (N : Int) → 0 ≤ S.pc c ∧ S.pc c < N) (n3 : ∀ c, 0 ≤ c → c < (N : Int) → S.on c = -1 → S.ot c = -1) (K : ∀ s', am_Fr [187, 188, 189] s s' → jy s' N (jn S a b) → am_wp (d + 1) 202 56 [(2, .int (iI (tu + 1))), (1, .int (iI (ta + 1))), (0, .ref 168)] [] (am_hp E s') PP) : am_wp (d + 1) 202 235 [(4, .int (iI b)), (3, .int (iI a)), (2, .int (iI tu)), (1, .int (iI ta)), (0, .ref 168)] [] (am_hp E s) PP := by
  have a0 := hh.a0
  have b0 := hh.b0
  have ya := hy a a0 a1
  have yb := hy b b0 b1
  have ga := (jdg_ot (n3 a a0 a1)).mp hh.oa
  have gb := (jdg_ot (n3 b b0 b1)).mp hh.ob
  have ga0 := jdg_r S a
  have gb0 := jdg_r S b
  refine am_s rfl rfl ?_
  refine s_gr rfl g rfl rfl ?_
  refine s_k 2 rfl rfl ?_
  refine am_s rfl rfl ?_
  refine s_imul rfl ?_
  refine am_s rfl rfl ?_
  refine s_gr rfl g rfl rfl ?_
  refine am_s rfl rfl ?_
  refine s_ia rfl g rfl ⟨by omega, by omega⟩ (by decide) ?_
  rw [ya.2.1]
  refine s_iadd rfl ?_
  refine am_s rfl rfl ?_
  refine s_is rfl g rfl ⟨by omega, by omega⟩ (by decide) ?_
  refine am_s rfl rfl ?_
  refine s_gr rfl g rfl rfl ?_
  refine s_k 2 rfl rfl ?_
  refine am_s rfl rfl ?_
  refine s_imul rfl ?_
  refine am_s rfl rfl ?_
  refine s_gr rfl g rfl rfl ?_
  refine am_s rfl rfl ?_
  refine s_ia rfl g rfl ⟨by omega, by omega⟩ (by decide) ?_
  simp only [am_w_a (show (189 : Nat) ≠ 188 by decide)]
  rw [yb.2.1]
  refine s_iadd rfl ?_
  refine am_s rfl rfl ?_
  refine s_is rfl g rfl ⟨by omega, by omega⟩ (by decide) ?_
  refine am_s rfl rfl ?_
  refine s_gr rfl g rfl rfl ?_
  refine am_s rfl rfl ?_
  refine am_s rfl rfl ?_
  refine s_ia rfl g rfl ⟨by omega, by omega⟩ (by decide) ?_
  simp only [am_w_a (show (189 : Nat) ≠ 188 by decide)]
  rw [ya.2.1]
  refine s_k 1 rfl rfl ?_
  refine s_iadd rfl ?_
  refine s_is rfl g rfl ⟨by omega, by omega⟩ (by decide) ?_
  refine am_s rfl rfl ?_
  refine s_gr rfl g rfl rfl ?_
  refine am_s rfl rfl ?_
  refine am_s rfl rfl ?_
  refine s_ia rfl g rfl ⟨by omega, by omega⟩ (by decide) ?_
  rw [am_w_x (show b ≠ a from fun z => hh.ab z.symm)]
  simp only [am_w_a (show (189 : Nat) ≠ 188 by decide)]
  rw [yb.2.1]
  refine s_k 1 rfl rfl ?_
  refine s_iadd rfl ?_
  refine s_is rfl g rfl ⟨by omega, by omega⟩ (by decide) ?_
  refine s_inc rfl rfl ?_
  rw [show am_w (am_w (am_w (am_w s 188 (2 * a + jdg S a) b) 188 (2 * b + jdg S b) a) 189 a (jdg S a + 1)) 189 b (jdg S b + 1) = bpS s a b by unfold bpS; rw [ya.2.1, yb.2.1]]
  refine am_s rfl rfl ?_
  refine s_gr rfl g rfl rfl ?_
  refine am_s rfl rfl ?_
  refine s_ia rfl g rfl ⟨by omega, by omega⟩ (by decide) ?_
  refine am_s rfl rfl ?_
  refine s_k 0 rfl rfl ?_
  refine am_s rfl rfl ?_
  have jt1 := jy_take hy hh a1 b1 n3
  have e6 : bpS s a b 187 b = S.pc b := (jt1 b hh.b0 b1).1
  have eQ : bpS s a b 168 = s 168 := by
    unfold bpS
    rw [am_w_row (by decide), am_w_row (by decide), am_w_row (by decide), am_w_row (by decide)]
  refine am_lv [(7, .int (iI (((0 : Nat) : Int) : Int))), (6, .int (iI (S.pc b))), (3, .int (iI a)), (2, .int (iI tu)), (1, .int (iI (ta + 1))), (0, .ref 168)] rfl rfl ⟨rfl, congrArg (fun z => some (Value.int (iI z))) e6, rfl, rfl, rfl, rfl, trivial⟩ ?_
  refine s_loop (X := Unit) (fun k _ s' => am_Fr [187] (bpS s a b) s' ∧ ∀ c, 0 ≤ c → c < (N : Int) → s' 187 c = if c < (k : Int) ∧ S.pc c = S.pc b then S.pc a else S.pc c) (fun k _ => [(7, .int (iI (k : Int))), (6, .int (iI (S.pc b))), (3, .int (iI a)), (2, .int (iI tu)), (1, .int (iI (ta + 1))), (0, .ref 168)]) (hi := N) (x := ()) (by omega) ⟨am_Fr_r _ _, fun c c0 c1 => by rw [if_neg (by omega)]; exact (jt1 c c0 c1).1⟩ ?_ ?_
  · rintro k - s1 hk0 hk1 ⟨hF, hQ⟩ kk
    simp only at kk ⊢
    have eN : s1 168 1 = (N : Int) := by rw [hF 168 (by decide), eQ]; exact en
    have qk := hQ k (by omega) (by omega)
    rw [if_neg (by omega)] at qk
    have qa := hQ a hh.a0 a1
    have qa2 : s1 187 a = S.pc a := by rw [qa]; split <;> rfl
    have rk := hr k (by omega) (by omega)
    have rb := hr b hh.b0 b1
    refine am_s rfl rfl ?_
    refine am_s rfl rfl ?_
    refine s_gi (x := 1) rfl g rfl rfl rfl ?_
    refine s_cge rfl ⟨by omega, by omega⟩ ⟨by omega, by omega⟩ (fun c1 => absurd c1 (by omega)) (fun c1 => ?_)
    refine am_s rfl rfl ?_
    refine s_gr rfl g rfl rfl ?_
    refine am_s rfl rfl ?_
    refine am_s rfl rfl ?_
    refine s_gr rfl g rfl rfl ?_
    refine am_s rfl rfl ?_
    refine s_ia rfl g rfl ⟨by omega, by omega⟩ (by decide) ?_
    refine am_s rfl rfl ?_
    refine s_cne rfl ⟨by omega, by omega⟩ ⟨by omega, by omega⟩ (fun c2 => ?_) (fun c2 => ?_)
    · refine am_s rfl rfl ?_
      refine s_gr rfl g rfl rfl ?_
      refine am_s rfl rfl ?_
      refine s_ia rfl g rfl ⟨by omega, by omega⟩ (by decide) ?_
      refine s_is rfl g rfl ⟨by omega, by omega⟩ (by decide) ?_
      refine s_inc rfl rfl ?_
      refine am_s rfl rfl ?_
      refine am_lv [(7, _), (6, _), (3, _), (2, _), (1, _), (0, _)] rfl rfl ⟨rfl, rfl, rfl, rfl, rfl, rfl, trivial⟩ ?_
      refine kk () _ ⟨am_Fr_W hF (by decide), fun c c0 c1 => ?_⟩
      by_cases e : c = (k : Int)
      · subst e
        rw [am_w_eq]
        rw [if_neg (fun y => by omega)]; exact qk
      · rw [am_w_x e, hQ c c0 c1]
        by_cases z : c < (k : Int) ∧ S.pc c = S.pc b
        · rw [if_pos z, if_pos ⟨by omega, z.2⟩]
        · rw [if_neg z, if_neg (fun y => z ⟨by omega, y.2⟩)]
    · refine am_s rfl rfl ?_
      refine s_gr rfl g rfl rfl ?_
      refine am_s rfl rfl ?_
      refine s_ia rfl g rfl ⟨by omega, by omega⟩ (by decide) ?_
      refine am_s rfl rfl ?_
      refine s_is rfl g rfl ⟨by omega, by omega⟩ (by decide) ?_
      refine s_inc rfl rfl ?_
      refine am_s rfl rfl ?_
      refine am_lv [(7, _), (6, _), (3, _), (2, _), (1, _), (0, _)] rfl rfl ⟨rfl, rfl, rfl, rfl, rfl, rfl, trivial⟩ ?_
      refine kk () _ ⟨am_Fr_W hF (by decide), fun c c0 c1 => ?_⟩
      by_cases e : c = (k : Int)
      · subst e
        rw [am_w_eq]
        rw [if_pos ⟨by omega, by omega⟩]; exact qa2
      · rw [am_w_x e, hQ c c0 c1]
        by_cases z : c < (k : Int) ∧ S.pc c = S.pc b
        · rw [if_pos z, if_pos ⟨by omega, z.2⟩]
        · rw [if_neg z, if_neg (fun y => z ⟨by omega, y.2⟩)]
  · rintro - s1 ⟨hF, hQ⟩
    simp only
    have eN : s1 168 1 = (N : Int) := by rw [hF 168 (by decide), eQ]; exact en
    refine am_s rfl rfl ?_
    refine am_s rfl rfl ?_
    refine s_gi (x := 1) rfl g rfl rfl rfl ?_
    refine s_cge rfl ⟨by omega, by omega⟩ ⟨by omega, by omega⟩ (fun c1 => ?_) (fun c1 => absurd c1 (by omega))
    refine s_inc rfl rfl ?_
    refine am_s rfl rfl ?_
    refine am_lv [(2, .int (iI (tu + 1))), (1, .int (iI (ta + 1))), (0, .ref 168)] rfl rfl ⟨rfl, rfl, rfl, trivial⟩ ?_
    refine K s1 (fun q hq => ?_) (fun c c0 c1 => ?_)
    · rw [hF q (fun z => hq (by simp at z ⊢; omega))]
      unfold bpS
      rw [am_w_row (fun z => hq (by rw [z]; decide)), am_w_row (fun z => hq (by rw [z]; decide)), am_w_row (fun z => hq (by rw [z]; decide)), am_w_row (fun z => hq (by rw [z]; decide))]
    · obtain ⟨-, t2, t3, t4⟩ := jt1 c c0 c1
      rw [hF 188 (by decide), hF 189 (by decide), hQ c c0 c1]
      refine ⟨?_, t2, t3, t4⟩
      show _ = if S.pc c = S.pc b then S.pc a else S.pc c
      by_cases z : S.pc c = S.pc b
      · rw [if_pos ⟨c1, z⟩, if_pos z]
      · rw [if_neg (fun y => z y.2), if_neg z]
def jS2 (S : jS) : jS := ⟨S.pc, S.on, fun c => if S.ot c = -1 then S.on c else S.ot c⟩
set_option maxHeartbeats 4000000 in
theorem t_bpFollow {d : Nat} {E : am_Ev} {s : am_S} {N : Nat} {S : jS} {PP : Option Value → am_H → Prop} (g : am_Eg E) (hN : 1 ≤ N ∧ N ≤ 20) (en : s 168 1 = (N : Int)) (hy : jy s N S) (hr : 2 ≤ N → ∀ c, 0 ≤ c → c < (N : Int) → (0 ≤ S.on c ∧ S.on c < N) ∧ -1 ≤ S.ot c ∧ S.ot c < N) (hPP : ∀ s', am_Fr [183] s s' → fo N (jS2 S) (s' 183) → (∀ i, 0 ≤ i → i < (N : Int) → 0 ≤ s' 183 i ∧ s' 183 i < N) → PP none (am_hp E s')) : am_wp (d + 1) 202 362 [(0, .ref 168)] [] (am_hp E s) PP := by
  refine am_s rfl rfl ?_
  refine s_gr rfl g rfl rfl ?_
  refine s_k 0 rfl rfl ?_
  refine s_k 0 rfl rfl ?_
  refine s_is rfl g rfl ⟨by omega, by omega⟩ (by decide) ?_
  refine s_k (-1) rfl rfl ?_
  refine am_s rfl rfl ?_
  refine s_k 1 rfl rfl ?_
  refine am_s rfl rfl ?_
  refine am_lv [(3, .int (iI (((1 : Nat) : Int) : Int))), (2, .int (iI (-1))), (0, .ref 168)] rfl rfl ⟨rfl, rfl, rfl, trivial⟩ ?_
  refine s_loop (X := Int) (fun k x s' => am_Fr [183] s s' ∧ fo k (jS2 S) (s' 183) ∧ (∀ i, 0 ≤ i → i < (k : Int) → 0 ≤ s' 183 i ∧ s' 183 i < N) ∧ (2 ≤ k → x = s' 183 ((k : Int) - 2)) ∧ -1 ≤ x ∧ x < N) (fun k x => [(3, .int (iI (k : Int))), (2, .int (iI x)), (0, .ref 168)]) (lo := 1) (hi := N) (x := -1) (by omega) ⟨am_Fr_w (by decide), ⟨am_w_eq _ _ _ _, fun z => by omega, fun i i0 i1 => by omega⟩, fun i i0 i1 => by rw [show i = 0 by omega, am_w_eq]; omega, fun z => by omega, by omega, by omega⟩ ?_ ?_
  · rintro k x s1 hk0 hk1 ⟨hF, hfo, hR, h4, h5, h6⟩ kk
    simp only at kk h4 h5 h6 ⊢
    have e188 : s1 188 = s 188 := hF 188 (by decide)
    have e189 : s1 189 = s 189 := hF 189 (by decide)
    have eN : s1 168 1 = (N : Int) := by rw [hF 168 (by decide)]; exact en
    obtain ⟨c, ec⟩ : ∃ c, s1 183 ((k : Int) - 1) = c := ⟨_, rfl⟩
    have rc := hR ((k : Int) - 1) (by omega) (by omega)
    rw [ec] at rc
    have qc := hr (by omega) c rc.1 rc.2
    obtain ⟨-, y2, y3, y4⟩ := hy c rc.1 rc.2
    rw [← e188] at y3 y4
    rw [← e189] at y2
    have y3 := y3 (by omega)
    have dg : jdg S c = if S.ot c = -1 then 1 else 2 := by unfold jdg; rw [if_neg (by omega)]
    rw [dg] at y2
    have ek1 : (k : Int) = 1 → c = 0 := fun z => by rw [← ec, z]; exact hfo.1
    by_cases hq : S.ot c = -1
    · refine am_s rfl rfl ?_
      refine am_s rfl rfl ?_
      refine s_gi (x := 1) rfl g rfl rfl rfl ?_
      refine s_cge rfl ⟨by omega, by omega⟩ ⟨by omega, by omega⟩ (fun c1 => absurd c1 (by omega)) (fun c1 => ?_)
      refine am_s rfl rfl ?_
      refine s_gr rfl g rfl rfl ?_
      refine am_s rfl rfl ?_
      refine s_k 1 rfl rfl ?_
      refine s_isub rfl ?_
      refine s_ia rfl g rfl ⟨by omega, by omega⟩ (by decide) ?_
      rw [ec]
      refine am_s rfl rfl ?_
      refine am_s rfl rfl ?_
      refine s_gr rfl g rfl rfl ?_
      refine s_k 2 rfl rfl ?_
      refine am_s rfl rfl ?_
      refine s_imul rfl ?_
      refine s_ia rfl g rfl ⟨by omega, by omega⟩ (by decide) ?_
      rw [y3]
      refine am_s rfl rfl ?_
      refine am_s rfl rfl ?_
      refine s_gr rfl g rfl rfl ?_
      refine am_s rfl rfl ?_
      refine s_ia rfl g rfl ⟨by omega, by omega⟩ (by decide) ?_
      rw [y2, if_pos hq]
      refine s_k 1 rfl rfl ?_
      refine s_cle rfl ⟨by omega, by omega⟩ ⟨by omega, by omega⟩ (fun c2 => ?_) (fun c2 => absurd c2 (by omega))
      refine am_s rfl rfl ?_
      refine am_s rfl rfl ?_
      refine am_s rfl rfl ?_
      refine s_k 1 rfl rfl ?_
      refine s_cne rfl ⟨by omega, by omega⟩ ⟨by omega, by omega⟩ (fun c1 => ?_) (fun c1 => ?_)
      · refine am_s rfl rfl ?_
        refine am_s rfl rfl ?_
        refine s_cne rfl ⟨by omega, by omega⟩ ⟨by omega, by omega⟩ (fun c2 => ?_) (fun c2 => ?_)
        · refine am_s rfl rfl ?_
          refine am_s rfl rfl ?_
          refine am_s rfl rfl ?_
          refine am_s rfl rfl ?_
          refine am_s rfl rfl ?_
          refine s_gr rfl g rfl rfl ?_
          refine am_s rfl rfl ?_
          refine am_s rfl rfl ?_
          refine s_is rfl g rfl ⟨by omega, by omega⟩ (by decide) ?_
          refine s_inc rfl rfl ?_
          refine am_s rfl rfl ?_
          refine am_lv [(3, _), (2, _), (0, _)] rfl rfl ⟨rfl, rfl, rfl, trivial⟩ ?_
          refine kk c _ ⟨am_Fr_W hF (by decide), ?_, fun i i0 i1 => ?_, fun _ => ?_, by omega, by omega⟩
          · have o2 : (jS2 S).ot c = S.on c := if_pos hq
            rw [show ((k + 1 : Nat) : Int) = (k : Int) + 1 by omega]
            refine fo_more (by omega) hfo (fun i i0 i1 => am_w_x (by omega)) (fun z => by omega) (fun z => ?_)
            rw [am_w_eq, ec, ← h4 (by omega), o2]
            show _ = if S.on c = x then _ else S.on c
            first | (rw [if_pos (by omega)]) | (rw [if_neg (by omega)])
          · by_cases z : i = (k : Int)
            · rw [z, am_w_eq]; omega
            · rw [am_w_x z]; exact hR i i0 (by omega)
          · rw [am_w_x (by omega), show ((k + 1 : Nat) : Int) - 2 = (k : Int) - 1 by omega]; exact ec.symm
        · refine am_s rfl rfl ?_
          refine am_s rfl rfl ?_
          refine am_s rfl rfl ?_
          refine am_s rfl rfl ?_
          refine am_s rfl rfl ?_
          refine am_s rfl rfl ?_
          refine s_gr rfl g rfl rfl ?_
          refine am_s rfl rfl ?_
          refine am_s rfl rfl ?_
          refine s_is rfl g rfl ⟨by omega, by omega⟩ (by decide) ?_
          refine s_inc rfl rfl ?_
          refine am_s rfl rfl ?_
          refine am_lv [(3, _), (2, _), (0, _)] rfl rfl ⟨rfl, rfl, rfl, trivial⟩ ?_
          refine kk c _ ⟨am_Fr_W hF (by decide), ?_, fun i i0 i1 => ?_, fun _ => ?_, by omega, by omega⟩
          · have o2 : (jS2 S).ot c = S.on c := if_pos hq
            rw [show ((k + 1 : Nat) : Int) = (k : Int) + 1 by omega]
            refine fo_more (by omega) hfo (fun i i0 i1 => am_w_x (by omega)) (fun z => by omega) (fun z => ?_)
            rw [am_w_eq, ec, ← h4 (by omega), o2]
            show _ = if S.on c = x then _ else S.on c
            first | (rw [if_pos (by omega)]) | (rw [if_neg (by omega)])
          · by_cases z : i = (k : Int)
            · rw [z, am_w_eq]; omega
            · rw [am_w_x z]; exact hR i i0 (by omega)
          · rw [am_w_x (by omega), show ((k + 1 : Nat) : Int) - 2 = (k : Int) - 1 by omega]; exact ec.symm
      · refine am_s rfl rfl ?_
        refine am_s rfl rfl ?_
        refine s_cge rfl ⟨by omega, by omega⟩ ⟨by omega, by omega⟩ (fun c3 => ?_) (fun c3 => ?_)
        · refine am_s rfl rfl ?_
          refine am_s rfl rfl ?_
          refine am_s rfl rfl ?_
          refine am_s rfl rfl ?_
          refine am_s rfl rfl ?_
          refine am_s rfl rfl ?_
          refine s_gr rfl g rfl rfl ?_
          refine am_s rfl rfl ?_
          refine am_s rfl rfl ?_
          refine s_is rfl g rfl ⟨by omega, by omega⟩ (by decide) ?_
          refine s_inc rfl rfl ?_
          refine am_s rfl rfl ?_
          refine am_lv [(3, _), (2, _), (0, _)] rfl rfl ⟨rfl, rfl, rfl, trivial⟩ ?_
          refine kk c _ ⟨am_Fr_W hF (by decide), ?_, fun i i0 i1 => ?_, fun _ => ?_, by omega, by omega⟩
          · have o2 : (jS2 S).ot c = S.on c := if_pos hq
            rw [show ((k + 1 : Nat) : Int) = (k : Int) + 1 by omega]
            refine fo_more (by omega) hfo (fun i i0 i1 => am_w_x (by omega)) (fun z => ?_) (fun z => by omega)
            rw [am_w_eq, ← ek1 z, o2]
            show _ = if S.on c ≤ _ then S.on c else _
            first | (rw [if_pos (by omega)]; omega) | (rw [if_neg (by omega)]) | (split <;> omega)
          · by_cases z : i = (k : Int)
            · rw [z, am_w_eq]; omega
            · rw [am_w_x z]; exact hR i i0 (by omega)
          · rw [am_w_x (by omega), show ((k + 1 : Nat) : Int) - 2 = (k : Int) - 1 by omega]; exact ec.symm
        · refine am_s rfl rfl ?_
          refine am_s rfl rfl ?_
          refine am_s rfl rfl ?_
          refine am_s rfl rfl ?_
          refine am_s rfl rfl ?_
          refine am_s rfl rfl ?_
          refine s_gr rfl g rfl rfl ?_
          refine am_s rfl rfl ?_
          refine am_s rfl rfl ?_
          refine s_is rfl g rfl ⟨by omega, by omega⟩ (by decide) ?_
          refine s_inc rfl rfl ?_
          refine am_s rfl rfl ?_
          refine am_lv [(3, _), (2, _), (0, _)] rfl rfl ⟨rfl, rfl, rfl, trivial⟩ ?_
          refine kk c _ ⟨am_Fr_W hF (by decide), ?_, fun i i0 i1 => ?_, fun _ => ?_, by omega, by omega⟩
          · have o2 : (jS2 S).ot c = S.on c := if_pos hq
            rw [show ((k + 1 : Nat) : Int) = (k : Int) + 1 by omega]
            refine fo_more (by omega) hfo (fun i i0 i1 => am_w_x (by omega)) (fun z => ?_) (fun z => by omega)
            rw [am_w_eq, ← ek1 z, o2]
            show _ = if S.on c ≤ _ then S.on c else _
            first | (rw [if_pos (by omega)]; omega) | (rw [if_neg (by omega)]) | (split <;> omega)
          · by_cases z : i = (k : Int)
            · rw [z, am_w_eq]; omega
            · rw [am_w_x z]; exact hR i i0 (by omega)
          · rw [am_w_x (by omega), show ((k + 1 : Nat) : Int) - 2 = (k : Int) - 1 by omega]; exact ec.symm
    · refine am_s rfl rfl ?_
      refine am_s rfl rfl ?_
      refine s_gi (x := 1) rfl g rfl rfl rfl ?_
      refine s_cge rfl ⟨by omega, by omega⟩ ⟨by omega, by omega⟩ (fun c1 => absurd c1 (by omega)) (fun c1 => ?_)
      refine am_s rfl rfl ?_
      refine s_gr rfl g rfl rfl ?_
      refine am_s rfl rfl ?_
      refine s_k 1 rfl rfl ?_
      refine s_isub rfl ?_
      refine s_ia rfl g rfl ⟨by omega, by omega⟩ (by decide) ?_
      rw [ec]
      refine am_s rfl rfl ?_
      refine am_s rfl rfl ?_
      refine s_gr rfl g rfl rfl ?_
      refine s_k 2 rfl rfl ?_
      refine am_s rfl rfl ?_
      refine s_imul rfl ?_
      refine s_ia rfl g rfl ⟨by omega, by omega⟩ (by decide) ?_
      rw [y3]
      refine am_s rfl rfl ?_
      refine am_s rfl rfl ?_
      refine s_gr rfl g rfl rfl ?_
      refine am_s rfl rfl ?_
      refine s_ia rfl g rfl ⟨by omega, by omega⟩ (by decide) ?_
      rw [y2, if_neg hq]
      refine s_k 1 rfl rfl ?_
      refine s_cle rfl ⟨by omega, by omega⟩ ⟨by omega, by omega⟩ (fun c2 => absurd c2 (by omega)) (fun c2 => ?_)
      refine am_s rfl rfl ?_
      refine s_gr rfl g rfl rfl ?_
      refine s_k 2 rfl rfl ?_
      refine am_s rfl rfl ?_
      refine s_imul rfl ?_
      refine s_k 1 rfl rfl ?_
      refine s_iadd rfl ?_
      refine s_ia rfl g rfl ⟨by omega, by omega⟩ (by decide) ?_
      rw [y4 hq]
      refine am_s rfl rfl ?_
      refine am_s rfl rfl ?_
      refine am_s rfl rfl ?_
      refine s_k 1 rfl rfl ?_
      refine s_cne rfl ⟨by omega, by omega⟩ ⟨by omega, by omega⟩ (fun c1 => ?_) (fun c1 => ?_)
      · refine am_s rfl rfl ?_
        refine am_s rfl rfl ?_
        refine s_cne rfl ⟨by omega, by omega⟩ ⟨by omega, by omega⟩ (fun c2 => ?_) (fun c2 => ?_)
        · refine am_s rfl rfl ?_
          refine am_s rfl rfl ?_
          refine am_s rfl rfl ?_
          refine am_s rfl rfl ?_
          refine am_s rfl rfl ?_
          refine s_gr rfl g rfl rfl ?_
          refine am_s rfl rfl ?_
          refine am_s rfl rfl ?_
          refine s_is rfl g rfl ⟨by omega, by omega⟩ (by decide) ?_
          refine s_inc rfl rfl ?_
          refine am_s rfl rfl ?_
          refine am_lv [(3, _), (2, _), (0, _)] rfl rfl ⟨rfl, rfl, rfl, trivial⟩ ?_
          refine kk c _ ⟨am_Fr_W hF (by decide), ?_, fun i i0 i1 => ?_, fun _ => ?_, by omega, by omega⟩
          · have o2 : (jS2 S).ot c = S.ot c := if_neg hq
            rw [show ((k + 1 : Nat) : Int) = (k : Int) + 1 by omega]
            refine fo_more (by omega) hfo (fun i i0 i1 => am_w_x (by omega)) (fun z => by omega) (fun z => ?_)
            rw [am_w_eq, ec, ← h4 (by omega), o2]
            show _ = if S.on c = x then _ else S.on c
            first | (rw [if_pos (by omega)]) | (rw [if_neg (by omega)])
          · by_cases z : i = (k : Int)
            · rw [z, am_w_eq]; omega
            · rw [am_w_x z]; exact hR i i0 (by omega)
          · rw [am_w_x (by omega), show ((k + 1 : Nat) : Int) - 2 = (k : Int) - 1 by omega]; exact ec.symm
        · refine am_s rfl rfl ?_
          refine am_s rfl rfl ?_
          refine am_s rfl rfl ?_
          refine am_s rfl rfl ?_
          refine am_s rfl rfl ?_
          refine am_s rfl rfl ?_
          refine s_gr rfl g rfl rfl ?_
          refine am_s rfl rfl ?_
          refine am_s rfl rfl ?_
          refine s_is rfl g rfl ⟨by omega, by omega⟩ (by decide) ?_
          refine s_inc rfl rfl ?_
          refine am_s rfl rfl ?_
          refine am_lv [(3, _), (2, _), (0, _)] rfl rfl ⟨rfl, rfl, rfl, trivial⟩ ?_
          refine kk c _ ⟨am_Fr_W hF (by decide), ?_, fun i i0 i1 => ?_, fun _ => ?_, by omega, by omega⟩
          · have o2 : (jS2 S).ot c = S.ot c := if_neg hq
            rw [show ((k + 1 : Nat) : Int) = (k : Int) + 1 by omega]
            refine fo_more (by omega) hfo (fun i i0 i1 => am_w_x (by omega)) (fun z => by omega) (fun z => ?_)
            rw [am_w_eq, ec, ← h4 (by omega), o2]
            show _ = if S.on c = x then _ else S.on c
            first | (rw [if_pos (by omega)]) | (rw [if_neg (by omega)])
          · by_cases z : i = (k : Int)
            · rw [z, am_w_eq]; omega
            · rw [am_w_x z]; exact hR i i0 (by omega)
          · rw [am_w_x (by omega), show ((k + 1 : Nat) : Int) - 2 = (k : Int) - 1 by omega]; exact ec.symm
      · refine am_s rfl rfl ?_
        refine am_s rfl rfl ?_
        refine s_cge rfl ⟨by omega, by omega⟩ ⟨by omega, by omega⟩ (fun c3 => ?_) (fun c3 => ?_)
        · refine am_s rfl rfl ?_
          refine am_s rfl rfl ?_
          refine am_s rfl rfl ?_
          refine am_s rfl rfl ?_
          refine am_s rfl rfl ?_
          refine am_s rfl rfl ?_
          refine s_gr rfl g rfl rfl ?_
          refine am_s rfl rfl ?_
          refine am_s rfl rfl ?_
          refine s_is rfl g rfl ⟨by omega, by omega⟩ (by decide) ?_
          refine s_inc rfl rfl ?_
          refine am_s rfl rfl ?_
          refine am_lv [(3, _), (2, _), (0, _)] rfl rfl ⟨rfl, rfl, rfl, trivial⟩ ?_
          refine kk c _ ⟨am_Fr_W hF (by decide), ?_, fun i i0 i1 => ?_, fun _ => ?_, by omega, by omega⟩
          · have o2 : (jS2 S).ot c = S.ot c := if_neg hq
            rw [show ((k + 1 : Nat) : Int) = (k : Int) + 1 by omega]
            refine fo_more (by omega) hfo (fun i i0 i1 => am_w_x (by omega)) (fun z => ?_) (fun z => by omega)
            rw [am_w_eq, ← ek1 z, o2]
            show _ = if S.on c ≤ _ then S.on c else _
            first | (rw [if_pos (by omega)]; omega) | (rw [if_neg (by omega)]) | (split <;> omega)
          · by_cases z : i = (k : Int)
            · rw [z, am_w_eq]; omega
            · rw [am_w_x z]; exact hR i i0 (by omega)
          · rw [am_w_x (by omega), show ((k + 1 : Nat) : Int) - 2 = (k : Int) - 1 by omega]; exact ec.symm
        · refine am_s rfl rfl ?_
          refine am_s rfl rfl ?_
          refine am_s rfl rfl ?_
          refine am_s rfl rfl ?_
          refine am_s rfl rfl ?_
          refine am_s rfl rfl ?_
          refine s_gr rfl g rfl rfl ?_
          refine am_s rfl rfl ?_
          refine am_s rfl rfl ?_
          refine s_is rfl g rfl ⟨by omega, by omega⟩ (by decide) ?_
          refine s_inc rfl rfl ?_
          refine am_s rfl rfl ?_
          refine am_lv [(3, _), (2, _), (0, _)] rfl rfl ⟨rfl, rfl, rfl, trivial⟩ ?_
          refine kk c _ ⟨am_Fr_W hF (by decide), ?_, fun i i0 i1 => ?_, fun _ => ?_, by omega, by omega⟩
          · have o2 : (jS2 S).ot c = S.ot c := if_neg hq
            rw [show ((k + 1 : Nat) : Int) = (k : Int) + 1 by omega]
            refine fo_more (by omega) hfo (fun i i0 i1 => am_w_x (by omega)) (fun z => ?_) (fun z => by omega)
            rw [am_w_eq, ← ek1 z, o2]
            show _ = if S.on c ≤ _ then S.on c else _
            first | (rw [if_pos (by omega)]; omega) | (rw [if_neg (by omega)]) | (split <;> omega)
          · by_cases z : i = (k : Int)
            · rw [z, am_w_eq]; omega
            · rw [am_w_x z]; exact hR i i0 (by omega)
          · rw [am_w_x (by omega), show ((k + 1 : Nat) : Int) - 2 = (k : Int) - 1 by omega]; exact ec.symm
  · rintro x s1 ⟨hF, hfo, hR, h4, h5, h6⟩
    simp only
    have eN : s1 168 1 = (N : Int) := by rw [hF 168 (by decide)]; exact en
    refine am_s rfl rfl ?_
    refine am_s rfl rfl ?_
    refine s_gi (x := 1) rfl g rfl rfl rfl ?_
    refine s_cge rfl ⟨by omega, by omega⟩ ⟨by omega, by omega⟩ (fun c1 => ?_) (fun c1 => absurd c1 (by omega))
    exact am_r rfl rfl (hPP s1 hF hfo hR)
