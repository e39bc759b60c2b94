/-! the other one's matching: the least costs of all sets -/
theorem iI_bv2 (a : Nat) (h : a < 4294967296) : (iI (a : Int)).toBitVec.toNat = a := by
  show (BitVec.ofInt 32 (a : Int)).toNat = a
  rw [BitVec.toNat_ofInt]
  omega
theorem iI_notand {S a : Nat} (hS : S < 2147483648) (ha : a ≤ 30) : iI (S : Int) &&& (iI (p2 (a : Int)) ^^^ iI (-1)) = iI ((S &&& (2 ^ 32 - (2 ^ a + 1)) : Nat) : Int) := by
  have h1 : S &&& (2 ^ 32 - (2 ^ a + 1)) < 4294967296 := Nat.lt_of_le_of_lt Nat.and_le_left (by omega)
  have h2 : 2 ^ a < 4294967296 := Nat.pow_lt_pow_right (m := a) (n := 32) (by decide) (by omega)
  apply Int32.toBitVec_inj.mp
  apply BitVec.eq_of_toNat_eq
  rw [iI_bv2 _ h1, Int32.toBitVec_and, BitVec.toNat_and, iI_bv2 S (by omega), Int32.toBitVec_xor]
  have e : (iI (-1)).toBitVec = BitVec.allOnes 32 := by decide
  rw [e, BitVec.xor_allOnes, BitVec.toNat_not]
  have e2 : (iI (p2 (a : Int))).toBitVec.toNat = 2 ^ a := by
    unfold p2
    rw [Int.toNat_natCast]
    exact iI_bv2 _ h2
  rw [e2, show 2 ^ 32 - 1 - 2 ^ a = 2 ^ 32 - (2 ^ a + 1) by omega]
section SBK
variable {d i pc : Nat} {lv : am_L} {st r : List Value} {P : Option Value → am_H → Prop} {h : am_H} {aux aux2 : List Nat}
theorem s_notand {S a : Nat} (h1 : am_fetch i pc = some (.ixor, 1, aux)) (h2 : am_fetch i (pc + 1) = some (.iand, 1, aux2)) (hS : S < 2147483648) (ha : a ≤ 30) (k9 : am_wp d i (pc + 1 + 1) lv (.int (iI ((S &&& (2 ^ 32 - (2 ^ a + 1)) : Nat) : Int)) :: r) h P) : am_wp d i pc lv (.int (iI (-1)) :: .int (iI (p2 (a : Int))) :: .int (iI (S : Int)) :: r) h P := by
  refine am_s (st' := .int (iI (p2 (a : Int)) ^^^ iI (-1)) :: .int (iI (S : Int)) :: r) h1 rfl ?_
  refine am_s (st' := .int (iI ((S &&& (2 ^ 32 - (2 ^ a + 1)) : Nat) : Int)) :: r) h2 ?_ k9
  rw [← iI_notand hS ha]; rfl
end SBK
theorem btn_ {S a : Nat} : bt (S : Int) (a : Int) = if S.testBit a = true then 1 else 0 := by
  unfold bt
  rw [Int.toNat_natCast, Int.toNat_natCast]
theorem mt_mn_c {w : Nat → Nat → Int} {B B2 : Nat → Int} {s a : Nat} : ∀ {k : Nat}, (∀ b, b < k → B (mt_rm s a b) = B2 (mt_rm s a b)) → mt_mn w B s a k = mt_mn w B2 s a k
  | 0, _ => rfl
  | k + 1, h => by
    unfold mt_mn
    rw [mt_mn_c (fun b hb => h b (by omega)), h k (by omega)]
theorem mt_mn_lo {w : Nat → Nat → Int} {B : Nat → Int} {s a : Nat} : ∀ {k : Nat}, k ≤ a + 1 → mt_mn w B s a k = -1
  | 0, _ => rfl
  | k + 1, h => by
    unfold mt_mn
    rw [if_neg (fun z => by omega), mt_mn_lo (by omega)]
def wM (s : am_S) : Nat → Nat → Int := fun i j => if i < (s 168 20).toNat ∧ j < (s 168 20).toNat then my s (s 177 (i : Int)) (s 177 (j : Int)) else 0
abbrev qPre (s : am_S) : Prop := Nonempty (PProd (my_ok s) (PProd (0 ≤ s 168 20 ∧ s 168 20 ≤ 20) (PProd (s 168 20 % 2 = 0) (PProd (∀ i, 0 ≤ i → i < s 168 20 → 0 ≤ s 177 i ∧ s 177 i < s 168 1) (∀ i j, 0 ≤ i → i < j → j < s 168 20 → s 177 i < s 177 j)))))
theorem qPre.hm {s : am_S} (h_ : qPre s) : my_ok s := h_.elim (fun x_ => x_.1)
theorem qPre.n0 {s : am_S} (h_ : qPre s) : 0 ≤ s 168 20 ∧ s 168 20 ≤ 20 := h_.elim (fun x_ => x_.2.1)
theorem qPre.ev {s : am_S} (h_ : qPre s) : s 168 20 % 2 = 0 := h_.elim (fun x_ => x_.2.2.1)
theorem qPre.ra {s : am_S} (h_ : qPre s) : ∀ i, 0 ≤ i → i < s 168 20 → 0 ≤ s 177 i ∧ s 177 i < s 168 1 := h_.elim (fun x_ => x_.2.2.2.1)
theorem qPre.up {s : am_S} (h_ : qPre s) : ∀ i j, 0 ≤ i → i < j → j < s 168 20 → s 177 i < s 177 j := h_.elim (fun x_ => x_.2.2.2.2)
theorem wM_0 {s : am_S} (h : qPre s) (i j : Nat) : 0 ≤ wM s i j ∧ wM s i j < 2147483648 := by
  have n0 := h.n0
  unfold wM
  split
  · rename_i c
    have a := h.ra i (by omega) (by omega)
    have b := h.ra j (by omega) (by omega)
    exact h.hm.2.2 _ _ a.1 a.2 b.1 b.2
  · omega
/-- the table up to the set q -/
abbrev qTb (s s' : am_S) (q : Nat) : Prop := Nonempty (PProd (am_Fr [179] s s') (PProd (s' 179 0 = 0) (PProd (∀ S a, 0 < S → S < q → mt_lo S a → s' 179 (S : Int) = mt_mn (wM s) (fun x => s' 179 (x : Int)) S a (s 168 20).toNat) (∀ S : Nat, S < q → -1 ≤ s' 179 (S : Int) ∧ s' 179 (S : Int) ≤ 2147483648 * (S : Int)))))
theorem qTb.fr {s s' : am_S} {q : Nat} (h_ : qTb s s' q) : am_Fr [179] s s' := h_.elim (fun x_ => x_.1)
theorem qTb.z {s s' : am_S} {q : Nat} (h_ : qTb s s' q) : s' 179 0 = 0 := h_.elim (fun x_ => x_.2.1)
theorem qTb.t {s s' : am_S} {q : Nat} (h_ : qTb s s' q) : ∀ S a, 0 < S → S < q → mt_lo S a → s' 179 (S : Int) = mt_mn (wM s) (fun x => s' 179 (x : Int)) S a (s 168 20).toNat := h_.elim (fun x_ => x_.2.2.1)
theorem qTb.b {s s' : am_S} {q : Nat} (h_ : qTb s s' q) : ∀ S : Nat, S < q → -1 ≤ s' 179 (S : Int) ∧ s' 179 (S : Int) ≤ 2147483648 * (S : Int) := h_.elim (fun x_ => x_.2.2.2)
theorem qTb_s {s s' : am_S} {q a : Nat} {v : Int} (hp : qPre s) (h : qTb s s' q) (q0 : 0 < q) (q1 : q < 1048576) (ha : mt_lo q a) (hv : v = mt_mn (wM s) (fun x => s' 179 (x : Int)) q a (s 168 20).toNat) : qTb s (am_w s' 179 (q : Int) v) (q + 1) := by
  have n0 := hp.n0
  have lt : ∀ S c b : Nat, S < 1048576 → mt_lo S c → c < 32 → b < (s 168 20).toNat → mt_rm S c b < S := fun S c b hS hl hc hb => mt_rm_lt (by omega) hc (by omega) hl.1
  have lo32 : ∀ S c : Nat, S < 1048576 → mt_lo S c → c < 32 := fun S c hS hl => by
    have := mt_bit_lt (k := 20) (by show S < 1048576; omega) hl.1
    omega
  have cg : ∀ S c, S ≤ q → mt_lo S c → mt_mn (wM s) (fun x => am_w s' 179 (q : Int) v 179 (x : Int)) S c (s 168 20).toNat = mt_mn (wM s) (fun x => s' 179 (x : Int)) S c (s 168 20).toNat := fun S c hS hl => mt_mn_c (fun b hb => by
    have := lt S c b (by omega) hl (lo32 S c (by omega) hl) hb
    exact am_w_x (by omega))
  refine ⟨am_Fr_W h.fr (by decide), by rw [am_w_x (by omega)]; exact h.z, fun S c S0 S1 hl => ?_, fun S hS => ?_⟩
  · rw [cg S c (by omega) hl]
    by_cases e : S = q
    · subst e
      rw [am_w_eq, hv]
      have hca : c = a := by
        rcases Nat.lt_trichotomy c a with z | z | z
        · have := ha.2 c z; rw [hl.1] at this; exact absurd this (by decide)
        · exact z
        · have := hl.2 a z; rw [ha.1] at this; exact absurd this (by decide)
      rw [hca]
    · rw [am_w_x (by omega)]; exact h.t S c S0 (by omega) hl
  · by_cases e : S = q
    · subst e
      rw [am_w_eq, hv]
      rcases mt_mn_spec (w := wM s) (B := fun x => s' 179 (x : Int)) (s := S) (a := a) (fun i j => (wM_0 hp i j).1) (s 168 20).toNat with ⟨z, -⟩ | ⟨z0, ⟨b, b1, b2, b3⟩, -⟩
      · rw [z]; omega
      · have r := lt S a b q1 ha (lo32 S a q1 ha) b1
        have q := h.b (mt_rm S a b) r
        have w := wM_0 hp a b
        rw [b3] at z0 ⊢
        have z0 : 0 ≤ s' 179 ((mt_rm S a b : Nat) : Int) + wM s a b := z0
        show -1 ≤ s' 179 ((mt_rm S a b : Nat) : Int) + wM s a b ∧ s' 179 ((mt_rm S a b : Nat) : Int) + wM s a b ≤ 2147483648 * (S : Int)
        omega
    · rw [am_w_x (by omega)]; exact h.b S (by omega)
set_option maxHeartbeats 8000000 in
theorem t_mmA {d : Nat} {E : am_Ev} {s : am_S} {PP : Option Value → am_H → Prop} (g : am_Eg E) (hp : qPre s) (s0 : am_S) (hT0 : qTb s s0 1) (hPP : ∀ s', qTb s s' (2 ^ (s 168 20).toNat) → am_wp (d + 1) 190 169 [(0, .ref 168)] [] (am_hp E s') PP) : am_wp (d + 1) 190 18 [(0, .ref 168)] [] (am_hp E s0) PP := by
  have n0 := hp.n0
  obtain ⟨K, eKn⟩ : ∃ K : Nat, K = (s 168 20).toNat := ⟨_, rfl⟩
  rw [← eKn] at hPP
  have eK : s 168 20 = (K : Int) := by omega
  have pK : p2 (K : Int) = ((2 ^ K : Nat) : Int) := by unfold p2; rw [Int.toNat_natCast]
  have k20 : 2 ^ K ≤ 1048576 := Nat.pow_le_pow_right (n := 2) (i := K) (j := 20) (by decide) (by omega)
  have hq : am_R ((2 ^ K : Nat) : Int) := by
    generalize 2 ^ K = Q at k20 ⊢
    exact ⟨by omega, by omega⟩
  refine s_k 1 rfl rfl ?_
  refine am_s rfl rfl ?_
  refine am_lv [(1, .int (iI (((1 : Nat) : Int) : Int))), (0, .ref 168)] rfl rfl ⟨rfl, rfl, trivial⟩ ?_
  refine s_loop (X := Unit) (fun S _ s' => qTb s s' S) (fun S _ => [(1, .int (iI (S : Int))), (0, .ref 168)]) (lo := 1) (hi := 2 ^ K) (x := ()) (Nat.one_le_two_pow) hT0 ?_ ?_
  · rintro S - s1 hS0 hS1 hT kk
    simp only at kk ⊢
    have e20 : s1 168 20 = s 168 20 := by rw [hT.fr 168 (by decide)]
    have e177 : s1 177 = s 177 := hT.fr 177 (by decide)
    refine am_s rfl rfl ?_
    refine s_k 1 rfl rfl ?_
    refine am_s rfl rfl ?_
    refine s_gi (x := 20) rfl g rfl rfl rfl ?_
    rw [e20, eK]
    refine s_shl1 rfl ⟨by omega, by omega⟩ ?_
    rw [pK]
    refine s_cge rfl ⟨by omega, by omega⟩ ⟨by omega, by omega⟩ (fun c1 => absurd c1 (by omega)) (fun c1 => ?_)
    refine s_k 0 rfl rfl ?_
    refine am_s rfl rfl ?_
    obtain ⟨a, ha⟩ := mt_lo_ex (s := S) (by omega)
    have aK := mt_bit_lt (k := K) hS1 ha.1
    refine am_lv [(2, .int (iI (((0 : Nat) : Int) : Int))), (1, .int (iI (S : Int))), (0, .ref 168)] rfl rfl ⟨rfl, rfl, rfl, trivial⟩ ?_
    refine s_loop (X := Unit) (fun _ _ s' => s1 = s') (fun c _ => [(2, .int (iI (c : Int))), (1, .int (iI (S : Int))), (0, .ref 168)]) (hi := a) (x := ()) (Nat.zero_le a) rfl ?_ ?_
    · rintro c - s2 hc0 hc1 rfl kk2
      simp only at kk2 ⊢
      have hbb := bt_01 (S : Int) (c : Int)
      have hbr : am_R (bt (S : Int) (c : Int)) := ⟨by omega, by omega⟩
      refine am_s rfl rfl ?_
      refine am_s rfl rfl ?_
      refine s_bit rfl rfl rfl ⟨by omega, by omega⟩ ⟨by omega, by omega⟩ ?_
      refine s_zne rfl hbr (fun c1 => absurd c1 (by rw [btn_, ha.2 c hc1]; decide)) (fun c1 => ?_)
      refine s_inc rfl rfl ?_
      refine am_s rfl rfl ?_
      refine am_lv [(2, _), (1, _), (0, _)] rfl rfl ⟨rfl, rfl, rfl, trivial⟩ ?_
      exact kk2 () _ rfl
    · rintro - s2 rfl
      simp only
      have hbb := bt_01 (S : Int) (a : Int)
      have hbr : am_R (bt (S : Int) (a : Int)) := ⟨by omega, by omega⟩
      refine am_s rfl rfl ?_
      refine am_s rfl rfl ?_
      refine s_bit rfl rfl rfl ⟨by omega, by omega⟩ ⟨by omega, by omega⟩ ?_
      refine s_zne rfl hbr (fun c1 => ?_) (fun c1 => absurd c1 (by rw [btn_, ha.1]; decide))
      refine s_kl (-1) rfl rfl ?_
      refine am_s rfl rfl ?_
      refine am_s rfl rfl ?_
      refine s_k 1 rfl rfl ?_
      refine s_iadd rfl ?_
      refine am_s rfl rfl ?_
      refine am_lv [(5, .int (iI (((a + 1 : Nat) : Int) : Int))), (3, .long (lI (mt_mn (wM s) (fun x => s1 179 (x : Int)) S a (a + 1)))), (2, .int (iI (a : Int))), (1, .int (iI (S : Int))), (0, .ref 168)] rfl rfl ⟨rfl, by rw [mt_mn_lo (Nat.le_refl _)]; rfl, rfl, rfl, rfl, trivial⟩ ?_
      refine s_loop (X := Unit) (fun _ _ s' => s1 = s') (fun b _ => [(5, .int (iI (b : Int))), (3, .long (lI (mt_mn (wM s) (fun x => s1 179 (x : Int)) S a (b)))), (2, .int (iI (a : Int))), (1, .int (iI (S : Int))), (0, .ref 168)]) (lo := a + 1) (hi := K) (x := ()) (by omega) rfl ?_ ?_
      · rintro b - s2 hb0 hb1 rfl kk3
        simp only at kk3 ⊢
        have la : S &&& (2 ^ 32 - (2 ^ a + 1)) ≤ S := Nat.and_le_left
        have r1 := hp.ra a (by omega) (by omega)
        have r2 := hp.ra b (by omega) (by omega)
        have n20 := hp.hm.2.1
        have lt : mt_rm S a b < S := mt_rm_lt (by omega) (by omega) (by omega) ha.1
        have bq := hT.b (mt_rm S a b) (by omega)
        have hrq : am_Q (s1 179 ((mt_rm S a b : Nat) : Int)) := ⟨by omega, by omega⟩
        have hbb := bt_01 (S : Int) (b : Int)
        have hbr : am_R (bt (S : Int) (b : Int)) := ⟨by omega, by omega⟩
        have w0 := wM_0 hp a b
        have ew : my s1 (s 177 (a : Int)) (s 177 (b : Int)) = wM s a b := by
          unfold wM my
          rw [if_pos ⟨by omega, by omega⟩, hT.fr 169 (by decide)]
        have ml : -1 ≤ mt_mn (wM s) (fun x => s1 179 (x : Int)) S a (b) ∧ mt_mn (wM s) (fun x => s1 179 (x : Int)) S a (b) ≤ 2147483648 * (S : Int) := by
          rcases mt_mn_spec (w := wM s) (B := fun x => s1 179 (x : Int)) (s := S) (a := a) (fun i j => (wM_0 hp i j).1) b with ⟨z, -⟩ | ⟨z0, ⟨c, c1, c2, c3⟩, -⟩
          · rw [z]; omega
          · have lc : mt_rm S a c < S := mt_rm_lt (by omega) (by omega) (by omega) ha.1
            have q := hT.b (mt_rm S a c) (by omega)
            have w := wM_0 hp a c
            rw [c3]
            have z0 : 0 ≤ s1 179 ((mt_rm S a c : Nat) : Int) + wM s a c := by rw [c3] at z0; exact z0
            show -1 ≤ s1 179 ((mt_rm S a c : Nat) : Int) + wM s a c ∧ s1 179 ((mt_rm S a c : Nat) : Int) + wM s a c ≤ 2147483648 * (S : Int)
            omega
        have hml : am_Q (mt_mn (wM s) (fun x => s1 179 (x : Int)) S a (b)) := ⟨by omega, by omega⟩
        have hv : am_Q (s1 179 ((mt_rm S a b : Nat) : Int) + wM s a b) := ⟨by omega, by omega⟩
        have hcd0 : S.testBit b = true → 0 ≤ s1 179 ((mt_rm S a b : Nat) : Int) → (a < b ∧ S.testBit b = true ∧ 0 ≤ (fun x : Nat => s1 179 (x : Int)) (mt_rm S a b)) := fun y1 y2 => ⟨by omega, y1, y2⟩
        refine am_s rfl rfl ?_
        refine am_s rfl rfl ?_
        refine s_gi (x := 20) rfl g rfl rfl rfl ?_
        refine s_cge rfl ⟨by omega, by omega⟩ ⟨by omega, by omega⟩ (fun c1 => absurd c1 (by omega)) (fun c1 => ?_)
        refine am_s rfl rfl ?_
        refine s_k 1 rfl rfl ?_
        refine am_s rfl rfl ?_
        refine s_shl1 rfl ⟨by omega, by omega⟩ ?_
        refine s_k (-1) rfl rfl ?_
        refine s_notand rfl rfl (by omega) (by omega) ?_
        refine s_k 1 rfl rfl ?_
        refine am_s rfl rfl ?_
        refine s_shl1 rfl ⟨by omega, by omega⟩ ?_
        refine s_k (-1) rfl rfl ?_
        refine s_notand rfl rfl (by omega) (by omega) ?_
        rw [show S &&& (2 ^ 32 - (2 ^ a + 1)) &&& (2 ^ 32 - (2 ^ b + 1)) = mt_rm S a b from rfl]
        refine am_s rfl rfl ?_
        refine am_s rfl rfl ?_
        refine am_s rfl rfl ?_
        refine s_bit rfl rfl rfl ⟨by omega, by omega⟩ ⟨by omega, by omega⟩ ?_
        refine s_k 1 rfl rfl ?_
        refine s_cne rfl hbr ⟨by omega, by omega⟩ (fun c2 => ?_) (fun c2 => ?_)
        · refine s_inc rfl rfl ?_
          refine am_s rfl rfl ?_
          refine am_lv [(5, .int (iI (((b + 1 : Nat) : Int) : Int))), (3, .long (lI (mt_mn (wM s) (fun x => s1 179 (x : Int)) S a (b + 1)))), (2, .int (iI (a : Int))), (1, .int (iI (S : Int))), (0, .ref 168)] rfl rfl ⟨rfl, by rw [show mt_mn (wM s) (fun x => s1 179 (x : Int)) S a (b + 1) = _ from by unfold mt_mn; rw [if_neg (fun z => by have y := z.2.1; have q : bt (S : Int) (b : Int) = 1 := (by rw [btn_, if_pos y]); omega)]]; rfl, rfl, rfl, rfl, trivial⟩ ?_
          exact kk3 () _ rfl
        · refine am_s rfl rfl ?_
          refine s_gr rfl g rfl rfl ?_
          refine am_s rfl rfl ?_
          refine s_la rfl g rfl ⟨by omega, by omega⟩ (by decide) ?_
          refine s_kl 0 rfl rfl ?_
          refine s_jlt rfl rfl hrq ⟨by omega, by omega⟩ (fun c3 => ?_) (fun c3 => ?_)
          · refine s_inc rfl rfl ?_
            refine am_s rfl rfl ?_
            refine am_lv [(5, .int (iI (((b + 1 : Nat) : Int) : Int))), (3, .long (lI (mt_mn (wM s) (fun x => s1 179 (x : Int)) S a (b + 1)))), (2, .int (iI (a : Int))), (1, .int (iI (S : Int))), (0, .ref 168)] rfl rfl ⟨rfl, by rw [show mt_mn (wM s) (fun x => s1 179 (x : Int)) S a (b + 1) = _ from by unfold mt_mn; rw [if_neg (fun z => by have y : 0 ≤ s1 179 ((mt_rm S a b : Nat) : Int) := z.2.2; omega)]]; rfl, rfl, rfl, rfl, trivial⟩ ?_
            exact kk3 () _ rfl
          · have hbt : S.testBit b = true := by
              have y : bt (S : Int) (b : Int) = 1 := by omega
              rw [btn_] at y
              by_cases z : S.testBit b = true
              · exact z
              · rw [if_neg z] at y; exact absurd y (by decide)
            have hcd := hcd0 hbt (by omega)
            refine am_s rfl rfl ?_
            refine s_gr rfl g rfl rfl ?_
            refine am_s rfl rfl ?_
            refine s_la rfl g rfl ⟨by omega, by omega⟩ (by decide) ?_
            refine am_s rfl rfl ?_
            refine am_s rfl rfl ?_
            refine s_gr rfl g rfl rfl ?_
            refine am_s rfl rfl ?_
            have e1q : True := trivial
            refine s_ia rfl g rfl ⟨by omega, by omega⟩ (by decide) ?_
            rw [e177]
            refine am_s rfl rfl ?_
            refine s_gr rfl g rfl rfl ?_
            refine am_s rfl rfl ?_
            refine s_ia rfl g rfl ⟨by omega, by omega⟩ (by decide) ?_
            rw [e177]
            refine s_cv [_, _] [_] rfl g (Or.inl rfl) rfl rfl (Nat.le_of_ble_eq_true rfl) rfl rfl (t_far (s := s1) g ⟨by omega, by omega⟩ ⟨by omega, by omega⟩) ?_
            rintro rv h1 ⟨rfl, rfl⟩
            rw [show my s1 (s 177 a) (s 177 b) = wM s a b from ew]
            refine s_i2l rfl ⟨by omega, by omega⟩ ?_
            refine s_ladd rfl ?_
            refine am_s rfl rfl ?_
            refine am_s rfl rfl ?_
            refine s_kl 0 rfl rfl ?_
            refine s_jlt rfl rfl hml ⟨by omega, by omega⟩ (fun c4 => ?_) (fun c4 => ?_)
            · refine am_s rfl rfl ?_
              refine am_s rfl rfl ?_
              refine am_s rfl rfl ?_
              refine s_inc rfl rfl ?_
              refine am_s rfl rfl ?_
              refine am_lv [(5, .int (iI (((b + 1 : Nat) : Int) : Int))), (3, .long (lI (mt_mn (wM s) (fun x => s1 179 (x : Int)) S a (b + 1)))), (2, .int (iI (a : Int))), (1, .int (iI (S : Int))), (0, .ref 168)] rfl rfl ⟨rfl, by rw [show mt_mn (wM s) (fun x => s1 179 (x : Int)) S a (b + 1) = _ from by unfold mt_mn; rw [if_pos hcd, if_pos (Or.inl (by omega))]]; rfl, rfl, rfl, rfl, trivial⟩ ?_
              exact kk3 () _ rfl
            · refine am_s rfl rfl ?_
              refine am_s rfl rfl ?_
              refine s_jge rfl rfl hv hml (fun c5 => ?_) (fun c5 => ?_)
              · refine am_s rfl rfl ?_
                refine am_s rfl rfl ?_
                refine s_inc rfl rfl ?_
                refine am_s rfl rfl ?_
                refine am_lv [(5, .int (iI (((b + 1 : Nat) : Int) : Int))), (3, .long (lI (mt_mn (wM s) (fun x => s1 179 (x : Int)) S a (b + 1)))), (2, .int (iI (a : Int))), (1, .int (iI (S : Int))), (0, .ref 168)] rfl rfl ⟨rfl, by rw [show mt_mn (wM s) (fun x => s1 179 (x : Int)) S a (b + 1) = _ from by unfold mt_mn; rw [if_pos hcd, if_neg (by omega)]]; rfl, rfl, rfl, rfl, trivial⟩ ?_
                exact kk3 () _ rfl
              · refine am_s rfl rfl ?_
                refine am_s rfl rfl ?_
                refine am_s rfl rfl ?_
                refine s_inc rfl rfl ?_
                refine am_s rfl rfl ?_
                refine am_lv [(5, .int (iI (((b + 1 : Nat) : Int) : Int))), (3, .long (lI (mt_mn (wM s) (fun x => s1 179 (x : Int)) S a (b + 1)))), (2, .int (iI (a : Int))), (1, .int (iI (S : Int))), (0, .ref 168)] rfl rfl ⟨rfl, by rw [show mt_mn (wM s) (fun x => s1 179 (x : Int)) S a (b + 1) = _ from by unfold mt_mn; rw [if_pos hcd, if_pos (Or.inr (by omega))]]; rfl, rfl, rfl, rfl, trivial⟩ ?_
                exact kk3 () _ rfl
      · rintro - s2 rfl
        simp only
        refine am_s rfl rfl ?_
        refine am_s rfl rfl ?_
        refine s_gi (x := 20) rfl g rfl rfl rfl ?_
        refine s_cge rfl ⟨by omega, by omega⟩ ⟨by omega, by omega⟩ (fun c1 => ?_) (fun c1 => absurd c1 (by omega))
        refine am_s rfl rfl ?_
        refine s_gr rfl g rfl rfl ?_
        refine am_s rfl rfl ?_
        refine am_s rfl rfl ?_
        refine s_ls rfl g rfl ⟨by omega, by omega⟩ (by decide) ?_
        refine s_inc rfl rfl ?_
        refine am_s rfl rfl ?_
        refine am_lv [(1, _), (0, _)] rfl rfl ⟨rfl, rfl, trivial⟩ ?_
        refine kk () _ (qTb_s hp hT (by omega) (by omega) ha (by rw [eKn]))
  · rintro - s1 hT
    simp only
    have e20 : s1 168 20 = s 168 20 := by rw [hT.fr 168 (by decide)]
    have e177 : s1 177 = s 177 := hT.fr 177 (by decide)
    refine am_s rfl rfl ?_
    refine s_k 1 rfl rfl ?_
    refine am_s rfl rfl ?_
    refine s_gi (x := 20) rfl g rfl rfl rfl ?_
    rw [e20, eK]
    refine s_shl1 rfl ⟨by omega, by omega⟩ ?_
    rw [pK]
    refine s_cge rfl hq hq (fun c1 => ?_) (fun c1 => absurd c1 (by omega))
    refine am_lv [(0, _)] rfl rfl ⟨rfl, trivial⟩ ?_
    exact hPP s1 hT
