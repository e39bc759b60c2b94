/-! the other one's matching: walked -/
theorem nat_least {P : Nat → Prop} (h : ∃ n, P n) : ∃ n, P n ∧ ∀ m, m < n → ¬ P m := by
  obtain ⟨n, hn⟩ := h
  induction n using Nat.strongRecOn with
  | _ n ih =>
    by_cases c : ∃ m, m < n ∧ P m
    · obtain ⟨m, m1, m2⟩ := c
      exact ih m m1 m2
    · exact ⟨n, hn, fun m hm z => c ⟨m, hm, z⟩⟩
theorem bt_t {S b : Nat} (h : bt (S : Int) (b : Int) = 1) : S.testBit b = true := by
  rw [btn_] at h
  by_cases z : S.testBit b = true
  · exact z
  · rw [if_neg z] at h; exact absurd h (by decide)
theorem bt_f {S b : Nat} (h : S.testBit b = true) : bt (S : Int) (b : Int) = 1 := by rw [btn_, if_pos h]
set_option maxHeartbeats 8000000 in
theorem t_mmB {d : Nat} {E : am_Ev} {s : am_S} {PP : Option Value → am_H → Prop} (g : am_Eg E) (hp : qPre s) (s1 : am_S) (hT : qTb s s1 (2 ^ (s 168 20).toNat)) (hPP : ∀ s', qRes s s' → PP none (am_hp E s')) : am_wp (d + 1) 190 169 [(0, .ref 168)] [] (am_hp E s1) PP := by
  have n0 := hp.n0
  have m1 := hp.hm.1
  have m2 := hp.hm.2.1
  obtain ⟨n, en⟩ : ∃ n : Nat, s 168 1 = n := ⟨(s 168 1).toNat, by omega⟩
  obtain ⟨K, eKn⟩ : ∃ K : Nat, K = (s 168 20).toNat := ⟨_, rfl⟩
  rw [← eKn] at hT
  have eK : s 168 20 = (K : Int) := by omega
  have pK : p2 (K : Int) = ((2 ^ K : Nat) : Int) := by unfold p2; rw [Int.toNat_natCast]
  have k20 : 2 ^ K ≤ 1048576 := Nat.pow_le_pow_right (n := 2) (i := K) (j := 20) (by decide) (by omega)
  have k1 : 1 ≤ 2 ^ K := Nat.one_le_two_pow
  have e1K : ((2 ^ K : Nat) : Int) - 1 = ((2 ^ K - 1 : Nat) : Int) := by omega
  refine s_k 0 rfl rfl ?_
  refine am_s rfl rfl ?_
  refine am_lv [(1, .int (iI (((0 : Nat) : Int) : Int))), (0, .ref 168)] rfl rfl ⟨rfl, rfl, trivial⟩ ?_
  refine s_loop (X := Unit) (fun k _ s' => am_Fr [178] s1 s' ∧ ∀ c, 0 ≤ c → c < (k : Int) → s' 178 c = -1) (fun k _ => [(1, .int (iI (k : Int))), (0, .ref 168)]) (hi := n) (x := ()) (Nat.zero_le n) ⟨am_Fr_r _ _, fun c c0 c1 => by omega⟩ ?_ ?_
  · rintro k - s2 hk0 hk1 ⟨hF2, hV2⟩ kk
    simp only at kk ⊢
    have g1 : s2 168 1 = s 168 1 := by rw [hF2 168 (by decide), hT.fr 168 (by decide)]
    have g20 : s2 168 20 = s 168 20 := by rw [hF2 168 (by decide), hT.fr 168 (by decide)]
    refine am_s rfl rfl ?_
    refine am_s rfl rfl ?_
    refine s_gi (x := 1) rfl g rfl rfl rfl ?_
    refine s_cge rfl ⟨by omega, by omega⟩ ⟨by omega, by omega⟩ (fun c1 => absurd c1 (by omega)) (fun c1 => ?_)
    refine am_s rfl rfl ?_
    refine s_gr rfl g rfl rfl ?_
    refine am_s rfl rfl ?_
    refine s_k (-1) rfl rfl ?_
    refine s_is rfl g rfl ⟨by omega, by omega⟩ (by decide) ?_
    refine s_inc rfl rfl ?_
    refine am_s rfl rfl ?_
    refine am_lv [(1, _), (0, _)] rfl rfl ⟨rfl, rfl, trivial⟩ ?_
    refine kk () _ ⟨am_Fr_W hF2 (by decide), fun c c0 c1 => ?_⟩
    by_cases e : c = (k : Int)
    · rw [e, am_w_eq]
    · rw [am_w_x e]; exact hV2 c c0 (by omega)
  · rintro - s2 ⟨hF2, hV2⟩
    simp only
    have g1 : s2 168 1 = s 168 1 := by rw [hF2 168 (by decide), hT.fr 168 (by decide)]
    have g20 : s2 168 20 = s 168 20 := by rw [hF2 168 (by decide), hT.fr 168 (by decide)]
    refine am_s rfl rfl ?_
    refine am_s rfl rfl ?_
    refine s_gi (x := 1) rfl g rfl rfl rfl ?_
    refine s_cge rfl ⟨by omega, by omega⟩ ⟨by omega, by omega⟩ (fun c1 => ?_) (fun c1 => absurd c1 (by omega))
    refine s_k 1 rfl rfl ?_
    refine am_s rfl rfl ?_
    refine s_gi (x := 20) rfl g rfl rfl rfl ?_
    rw [g20, eK]
    refine s_shl1 rfl ⟨by omega, by omega⟩ ?_
    rw [pK]
    refine s_k 1 rfl rfl ?_
    refine s_isub rfl ?_
    rw [show ((2 ^ K : Nat) : Int) - 1 = ((2 ^ K - 1 : Nat) : Int) from e1K]
    refine am_s rfl rfl ?_
    refine am_s rfl rfl ?_
    refine am_s rfl rfl ?_
    refine s_gr rfl g rfl rfl ?_
    refine am_s rfl rfl ?_
    refine s_la rfl g rfl ⟨by omega, by omega⟩ (by decide) ?_
    refine s_pl (x := 22) rfl g rfl rfl rfl rfl ?_
    generalize hs3 : am_w s2 168 22 (s2 179 ((2 ^ K - 1 : Nat) : Int)) = s3
    have e179 : s3 179 = s1 179 := by rw [← hs3, am_w_row (by decide), hF2 179 (by decide)]
    have e178 : s3 178 = s2 178 := by rw [← hs3, am_w_row (by decide)]
    have f3 : ∀ q, q ≠ 168 → q ≠ 178 → q ≠ 179 → s3 q = s q := fun q z1 z2 z3 => by
      rw [← hs3, am_w_row z1, hF2 q (fun y => z2 (List.mem_singleton.mp y)), hT.fr q (fun y => z3 (List.mem_singleton.mp y))]
    have f168 : ∀ y, y ≠ 22 → s3 168 y = s 168 y := fun y hy => by
      rw [← hs3, am_w_x hy, hF2 168 (by decide), hT.fr 168 (by decide)]
    have f22 : s3 168 22 = s1 179 ((2 ^ K - 1 : Nat) : Int) := by
      rw [← hs3, am_w_eq, hF2 179 (by decide)]
    have e177 : s3 177 = s 177 := f3 177 (by decide) (by decide) (by decide)
    have tab : mt_tab (wM s) (s 168 20).toNat (fun x => s3 179 (x : Int)) := by rw [e179]; exact qTb_tab (by rw [← eKn]; exact hT)
    have hI0 : qIn s s3 s3 (2 ^ K - 1) id := by
      have ts : ∀ i, i < K → (2 ^ K - 1).testBit i = true := fun i hi => by rw [Nat.testBit_two_pow_sub_one]; exact decide_eq_true hi
      refine ⟨am_Fr_r _ _, by rw [← eKn]; omega, ?_, fun i hi _ => ?_, fun i hi z => ?_, fun c c0 c1 _ => ?_, fun p hl => ?_⟩
      · rcases mt_tab_spec (fun i j => (wM_0 hp i j).1) (by omega) tab (2 ^ K - 1) (by rw [← eKn]; omega) with ⟨z, -⟩ | ⟨-, z⟩
        · exact z
        · rw [← eKn] at z; exact absurd (mt_full_pm (by have := hp.ev; omega)) (z _)
      · have a := hp.ra i (by omega) (by omega)
        rw [e178]; exact hV2 _ a.1 (by omega)
      · rw [ts i (by omega)] at z; exact absurd z (by decide)
      · rw [e178]; exact hV2 c c0 (by omega)
      · refine mt_lex_congr (fun i hi _ => ?_) (mt_lex_set (fun i hi => ?_) hl)
        · rw [if_pos (ts i (by omega))]
        · show (2 ^ K - 1).testBit i = true; exact ts i (by omega)
    refine am_lv [(1, .int (iI ((2 ^ K - 1 : Nat) : Int))), (0, .ref 168)] rfl rfl ⟨rfl, rfl, trivial⟩ ?_
    refine s_while (X := Nat) (fun S s' => ∃ q, qIn s s3 s' S q) (fun S _ => S) (fun S => [(1, .int (iI ((S : Nat) : Int))), (0, .ref 168)]) ?_ ⟨id, hI0⟩
    rintro S s4 ⟨q, hI⟩ kk
    simp only at kk ⊢
    have SK : S < 2 ^ K := by rw [eKn]; exact hI.lt
    have h168 : s4 168 = s3 168 := hI.fr 168 (by decide)
    have h177 : s4 177 = s 177 := by rw [hI.fr 177 (by decide), e177]
    have h179 : s4 179 = s1 179 := by rw [hI.fr 179 (by decide), e179]
    refine am_s rfl rfl ?_
    refine s_zeq rfl ⟨by omega, by omega⟩ (fun c1 => ?_) (fun c1 => ?_)
    · refine am_s rfl rfl ?_
      refine s_k 1 rfl rfl ?_
      refine s_pi (x := 18) rfl g rfl rfl rfl rfl ?_
      have zS : S = 0 := by omega
      subst zS
      refine am_r rfl rfl (hPP _ (qRes_mk hp (by rw [← eKn]; exact hT) e179 hI (by rw [am_w_row (by decide)]) ⟨fun b hb => ?_, fun y hy => ?_⟩ (am_w_eq _ _ _ _) (by rw [am_w_x (by decide), h168, ← eKn]; exact f22)))
      · simp only [List.mem_cons, List.not_mem_nil, or_false, not_or] at hb
        rw [am_w_row hb.1, hI.fr b (fun z => hb.2.1 (List.mem_singleton.mp z)), f3 b hb.1 hb.2.1 hb.2.2]
      · simp only [List.mem_cons, List.not_mem_nil, or_false, not_or] at hy
        rw [am_w_x hy.1, h168]; exact f168 y hy.2
    · refine s_k 0 rfl rfl ?_
      refine am_s rfl rfl ?_
      obtain ⟨a, ha⟩ := mt_lo_ex (s := S) (by omega)
      have aK := mt_bit_lt (k := K) SK ha.1
      have eS : s3 179 (S : Int) = mt_mn (wM s) (fun x => s3 179 (x : Int)) S a (s 168 20).toNat := tab.2 S a hI.lt ha
      have exb : ∃ b, b < (s 168 20).toNat ∧ mt_ok (fun x => s3 179 (x : Int)) S a b ∧ s3 179 ((mt_rm S a b : Nat) : Int) + wM s a b = s3 179 (S : Int) := by
        have b0 := hI.b0
        rcases mt_mn_spec (w := wM s) (B := fun x => s3 179 (x : Int)) (s := S) (a := a) (fun i j => (wM_0 hp i j).1) (s 168 20).toNat with ⟨z, -⟩ | ⟨-, ⟨b, b1, b2, b3⟩, -⟩
        · omega
        · exact ⟨b, b1, b2, by rw [eS, b3]⟩
      obtain ⟨b0, ⟨hb1, hok, heq⟩, hmin0⟩ := nat_least exb
      have hmin : ∀ c, c < b0 → mt_ok (fun x => s3 179 (x : Int)) S a c → s3 179 ((mt_rm S a c : Nat) : Int) + wM s a c ≠ s3 179 (S : Int) := fun c hc h1 h2 => hmin0 c hc ⟨by omega, h1, h2⟩
      have ab := hok.1
      have la : S &&& (2 ^ 32 - (2 ^ a + 1)) ≤ S := Nat.and_le_left
      have lt : ∀ b, b < K → mt_rm S a b < S := fun b hb => mt_rm_lt (by omega) (by omega) (by omega) ha.1
      have bq : ∀ x : Nat, x ≤ S → -1 ≤ s4 179 (x : Int) ∧ s4 179 (x : Int) ≤ 2251799813685248 := fun x hx => by
        have := hT.b x (by omega)
        rw [h179]
        omega
      have ew : ∀ b : Nat, b < K → my s4 (s 177 (a : Int)) (s 177 (b : Int)) = wM s a b := fun b hb => by
        unfold wM my
        rw [if_pos ⟨by omega, by omega⟩, hI.fr 169 (by decide), f3 169 (by decide) (by decide) (by decide)]
      refine am_lv [(2, .int (iI (((0 : Nat) : Int) : Int))), (1, .int (iI (S : Int))), (0, .ref 168)] rfl rfl ⟨rfl, rfl, rfl, trivial⟩ ?_
      refine s_loop (X := Unit) (fun _ _ s' => s4 = s') (fun c _ => [(2, .int (iI (c : Int))), (1, .int (iI (S : Int))), (0, .ref 168)]) (hi := a) (x := ()) (Nat.zero_le a) rfl ?_ ?_
      · rintro c - s5 hc0 hc1 rfl kk2
        simp only at kk2 ⊢
        have hbb := bt_01 (S : Int) (c : Int)
        have hbr : am_R (bt (S : Int) (c : Int)) := ⟨by omega, by omega⟩
        refine am_s rfl rfl ?_
        refine am_s rfl rfl ?_
        refine s_bit rfl rfl rfl ⟨by omega, by omega⟩ ⟨by omega, by omega⟩ ?_
        refine s_zne rfl hbr (fun c1 => absurd c1 (by rw [btn_, ha.2 c hc1]; decide)) (fun c1 => ?_)
        refine s_inc rfl rfl ?_
        refine am_s rfl rfl ?_
        refine am_lv [(2, _), (1, _), (0, _)] rfl rfl ⟨rfl, rfl, rfl, trivial⟩ ?_
        exact kk2 () _ rfl
      · rintro - s5 rfl
        simp only
        have hbb := bt_01 (S : Int) (a : Int)
        have hbr : am_R (bt (S : Int) (a : Int)) := ⟨by omega, by omega⟩
        refine am_s rfl rfl ?_
        refine am_s rfl rfl ?_
        refine s_bit rfl rfl rfl ⟨by omega, by omega⟩ ⟨by omega, by omega⟩ ?_
        refine s_zne rfl hbr (fun c1 => ?_) (fun c1 => absurd c1 (by rw [btn_, ha.1]; decide))
        refine am_s rfl rfl ?_
        refine s_k 1 rfl rfl ?_
        refine s_iadd rfl ?_
        refine am_s rfl rfl ?_
        refine s_k (-1) rfl rfl ?_
        refine am_s rfl rfl ?_
        refine am_lv [(4, .int (iI (-1))), (3, .int (iI (((a + 1 : Nat) : Int) : Int))), (2, .int (iI (a : Int))), (1, .int (iI (S : Int))), (0, .ref 168)] rfl rfl ⟨rfl, rfl, rfl, rfl, rfl, trivial⟩ ?_
        refine s_loop (X := Unit) (fun _ _ s' => s4 = s') (fun b _ => [(4, .int (iI (-1))), (3, .int (iI (b : Int))), (2, .int (iI (a : Int))), (1, .int (iI (S : Int))), (0, .ref 168)]) (lo := a + 1) (hi := b0) (x := ()) (by omega) rfl ?_ ?_
        · rintro b - s5 hb0 hb2 rfl kk3
          simp only at kk3 ⊢
          have r1 := hp.ra a (by omega) (by omega)
          have r2 := hp.ra b (by omega) (by omega)
          have n20 := hp.hm.2.1
          have lb := lt b (by omega)
          have bl := bq (mt_rm S a b) (by omega)
          have bS := bq S (Nat.le_refl S)
          have w0 := wM_0 hp a b
          have hbb2 := bt_01 (S : Int) (b : Int)
          have hbr2 : am_R (bt (S : Int) (b : Int)) := ⟨by omega, by omega⟩
          have z1 : s4 179 ((mt_rm S a b : Nat) : Int) = s3 179 ((mt_rm S a b : Nat) : Int) := by rw [h179, e179]
          have z2 : s4 179 (S : Int) = s3 179 (S : Int) := by rw [h179, e179]
          refine am_s rfl rfl ?_
          refine s_k (-1) rfl rfl ?_
          refine s_cne rfl ⟨by omega, by omega⟩ ⟨by omega, by omega⟩ (fun c1 => absurd c1 (by omega)) (fun c1 => ?_)
          refine am_s rfl rfl ?_
          refine s_k 1 rfl rfl ?_
          refine am_s rfl rfl ?_
          refine s_shl1 rfl ⟨by omega, by omega⟩ ?_
          refine s_k (-1) rfl rfl ?_
          refine s_notand rfl rfl (by omega) (by omega) ?_
          refine s_k 1 rfl rfl ?_
          refine am_s rfl rfl ?_
          refine s_shl1 rfl ⟨by omega, by omega⟩ ?_
          refine s_k (-1) rfl rfl ?_
          refine s_notand rfl rfl (by omega) (by omega) ?_
          rw [show S &&& (2 ^ 32 - (2 ^ a + 1)) &&& (2 ^ 32 - (2 ^ b + 1)) = mt_rm S a b from rfl]
          refine am_s rfl rfl ?_
          refine am_s rfl rfl ?_
          refine am_s rfl rfl ?_
          refine s_bit rfl rfl rfl ⟨by omega, by omega⟩ ⟨by omega, by omega⟩ ?_
          refine s_k 1 rfl rfl ?_
          refine s_cne rfl hbr2 ⟨by omega, by omega⟩ (fun c2 => ?_) (fun c2 => ?_)
          · refine s_k 0 rfl rfl ?_
            refine am_s rfl rfl ?_
            refine am_s rfl rfl ?_
            refine s_zeq rfl ⟨by omega, by omega⟩ (fun c3 => ?_) (fun c3 => absurd c3 (by omega))
            refine s_k (-1) rfl rfl ?_
            refine am_s rfl rfl ?_
            refine am_s rfl rfl ?_
            refine s_zeq rfl ⟨by omega, by omega⟩ (fun c4 => ?_) (fun c4 => absurd c4 (by omega))
            refine am_s rfl rfl ?_
            refine s_k 1 rfl rfl ?_
            refine s_iadd rfl ?_
            refine am_s rfl rfl ?_
            refine am_s rfl rfl ?_
            refine am_lv [(4, _), (3, _), (2, _), (1, _), (0, _)] rfl rfl ⟨rfl, rfl, rfl, rfl, rfl, trivial⟩ ?_
            exact kk3 () _ rfl
          · refine am_s rfl rfl ?_
            refine s_gr rfl g rfl rfl ?_
            refine am_s rfl rfl ?_
            refine s_la rfl g rfl ⟨by omega, by omega⟩ (by decide) ?_
            refine s_kl 0 rfl rfl ?_
            refine s_jlt rfl rfl ⟨by omega, by omega⟩ ⟨by omega, by omega⟩ (fun c5 => ?_) (fun c5 => ?_)
            · refine s_k 0 rfl rfl ?_
              refine am_s rfl rfl ?_
              refine am_s rfl rfl ?_
              refine s_zeq rfl ⟨by omega, by omega⟩ (fun c6 => ?_) (fun c6 => absurd c6 (by omega))
              refine s_k (-1) rfl rfl ?_
              refine am_s rfl rfl ?_
              refine am_s rfl rfl ?_
              refine s_zeq rfl ⟨by omega, by omega⟩ (fun c7 => ?_) (fun c7 => absurd c7 (by omega))
              refine am_s rfl rfl ?_
              refine s_k 1 rfl rfl ?_
              refine s_iadd rfl ?_
              refine am_s rfl rfl ?_
              refine am_s rfl rfl ?_
              refine am_lv [(4, _), (3, _), (2, _), (1, _), (0, _)] rfl rfl ⟨rfl, rfl, rfl, rfl, rfl, trivial⟩ ?_
              exact kk3 () _ rfl
            · refine am_s rfl rfl ?_
              refine s_gr rfl g rfl rfl ?_
              refine am_s rfl rfl ?_
              refine s_la rfl g rfl ⟨by omega, by omega⟩ (by decide) ?_
              refine am_s rfl rfl ?_
              refine am_s rfl rfl ?_
              refine s_gr rfl g rfl rfl ?_
              refine am_s rfl rfl ?_
              refine s_ia rfl g rfl ⟨by omega, by omega⟩ (by decide) ?_
              rw [h177]
              refine am_s rfl rfl ?_
              refine s_gr rfl g rfl rfl ?_
              refine am_s rfl rfl ?_
              refine s_ia rfl g rfl ⟨by omega, by omega⟩ (by decide) ?_
              rw [h177]
              refine s_cv [_, _] [_] rfl g (Or.inl rfl) rfl rfl (Nat.le_of_ble_eq_true rfl) rfl rfl (t_far (s := s4) g ⟨by omega, by omega⟩ ⟨by omega, by omega⟩) ?_
              rintro rv h1 ⟨rfl, rfl⟩
              rw [ew b (by omega)]
              refine s_i2l rfl ⟨by omega, by omega⟩ ?_
              refine s_ladd rfl ?_
              refine am_s rfl rfl ?_
              refine s_gr rfl g rfl rfl ?_
              refine am_s rfl rfl ?_
              refine s_la rfl g rfl ⟨by omega, by omega⟩ (by decide) ?_
              refine s_jne rfl rfl ⟨by omega, by omega⟩ ⟨by omega, by omega⟩ (fun c8 => ?_) (fun c8 => (hmin b hb2 ⟨by omega, bt_t (by omega), show 0 ≤ s3 179 ((mt_rm S a b : Nat) : Int) by omega⟩ (by omega)).elim)
              refine s_k 0 rfl rfl ?_
              refine am_s rfl rfl ?_
              refine am_s rfl rfl ?_
              refine s_zeq rfl ⟨by omega, by omega⟩ (fun c9 => ?_) (fun c9 => absurd c9 (by omega))
              refine s_k (-1) rfl rfl ?_
              refine am_s rfl rfl ?_
              refine am_s rfl rfl ?_
              refine s_zeq rfl ⟨by omega, by omega⟩ (fun c10 => ?_) (fun c10 => absurd c10 (by omega))
              refine am_s rfl rfl ?_
              refine s_k 1 rfl rfl ?_
              refine s_iadd rfl ?_
              refine am_s rfl rfl ?_
              refine am_s rfl rfl ?_
              refine am_lv [(4, _), (3, _), (2, _), (1, _), (0, _)] rfl rfl ⟨rfl, rfl, rfl, rfl, rfl, trivial⟩ ?_
              exact kk3 () _ rfl
        · rintro - s5 rfl
          simp only
          have r1 := hp.ra a (by omega) (by omega)
          have r2 := hp.ra b0 (by omega) (by omega)
          have n20 := hp.hm.2.1
          have lb := lt b0 (by omega)
          have bl := bq (mt_rm S a b0) (by omega)
          have bS := bq S (Nat.le_refl S)
          have w0 := wM_0 hp a b0
          have hbb2 := bt_01 (S : Int) (b0 : Int)
          have hbr2 : am_R (bt (S : Int) (b0 : Int)) := ⟨by omega, by omega⟩
          have z1 : s4 179 ((mt_rm S a b0 : Nat) : Int) = s3 179 ((mt_rm S a b0 : Nat) : Int) := by rw [h179, e179]
          have z2 : s4 179 (S : Int) = s3 179 (S : Int) := by rw [h179, e179]
          have y1 := bt_f hok.2.1
          have y2 : 0 ≤ s3 179 ((mt_rm S a b0 : Nat) : Int) := hok.2.2
          refine am_s rfl rfl ?_
          refine s_k (-1) rfl rfl ?_
          refine s_cne rfl ⟨by omega, by omega⟩ ⟨by omega, by omega⟩ (fun c1 => absurd c1 (by omega)) (fun c1 => ?_)
          refine am_s rfl rfl ?_
          refine s_k 1 rfl rfl ?_
          refine am_s rfl rfl ?_
          refine s_shl1 rfl ⟨by omega, by omega⟩ ?_
          refine s_k (-1) rfl rfl ?_
          refine s_notand rfl rfl (by omega) (by omega) ?_
          refine s_k 1 rfl rfl ?_
          refine am_s rfl rfl ?_
          refine s_shl1 rfl ⟨by omega, by omega⟩ ?_
          refine s_k (-1) rfl rfl ?_
          refine s_notand rfl rfl (by omega) (by omega) ?_
          rw [show S &&& (2 ^ 32 - (2 ^ a + 1)) &&& (2 ^ 32 - (2 ^ b0 + 1)) = mt_rm S a b0 from rfl]
          refine am_s rfl rfl ?_
          refine am_s rfl rfl ?_
          refine am_s rfl rfl ?_
          refine s_bit rfl rfl rfl ⟨by omega, by omega⟩ ⟨by omega, by omega⟩ ?_
          refine s_k 1 rfl rfl ?_
          refine s_cne rfl hbr2 ⟨by omega, by omega⟩ (fun c2 => absurd c2 (by omega)) (fun c2 => ?_)
          refine am_s rfl rfl ?_
          refine s_gr rfl g rfl rfl ?_
          refine am_s rfl rfl ?_
          refine s_la rfl g rfl ⟨by omega, by omega⟩ (by decide) ?_
          refine s_kl 0 rfl rfl ?_
          refine s_jlt rfl rfl ⟨by omega, by omega⟩ ⟨by omega, by omega⟩ (fun c3 => absurd c3 (by omega)) (fun c3 => ?_)
          refine am_s rfl rfl ?_
          refine s_gr rfl g rfl rfl ?_
          refine am_s rfl rfl ?_
          refine s_la rfl g rfl ⟨by omega, by omega⟩ (by decide) ?_
          refine am_s rfl rfl ?_
          refine am_s rfl rfl ?_
          refine s_gr rfl g rfl rfl ?_
          refine am_s rfl rfl ?_
          refine s_ia rfl g rfl ⟨by omega, by omega⟩ (by decide) ?_
          rw [h177]
          refine am_s rfl rfl ?_
          refine s_gr rfl g rfl rfl ?_
          refine am_s rfl rfl ?_
          refine s_ia rfl g rfl ⟨by omega, by omega⟩ (by decide) ?_
          rw [h177]
          refine s_cv [_, _] [_] rfl g (Or.inl rfl) rfl rfl (Nat.le_of_ble_eq_true rfl) rfl rfl (t_far (s := s4) g ⟨by omega, by omega⟩ ⟨by omega, by omega⟩) ?_
          rintro rv h1 ⟨rfl, rfl⟩
          rw [ew b0 (by omega)]
          refine s_i2l rfl ⟨by omega, by omega⟩ ?_
          refine s_ladd rfl ?_
          refine am_s rfl rfl ?_
          refine s_gr rfl g rfl rfl ?_
          refine am_s rfl rfl ?_
          refine s_la rfl g rfl ⟨by omega, by omega⟩ (by decide) ?_
          refine s_jne rfl rfl ⟨by omega, by omega⟩ ⟨by omega, by omega⟩ (fun c4 => absurd c4 (by omega)) (fun c4 => ?_)
          refine s_k 1 rfl rfl ?_
          refine am_s rfl rfl ?_
          refine am_s rfl rfl ?_
          refine am_s rfl rfl ?_
          refine s_zeq rfl ⟨by omega, by omega⟩ (fun c5 => absurd c5 (by omega)) (fun c5 => ?_)
          refine am_s rfl rfl ?_
          refine am_s rfl rfl ?_
          refine am_s rfl rfl ?_
          refine am_s rfl rfl ?_
          refine s_zeq rfl ⟨by omega, by omega⟩ (fun c6 => absurd c6 (by omega)) (fun c6 => ?_)
          refine am_s rfl rfl ?_
          refine am_s rfl rfl ?_
          refine am_s rfl rfl ?_
          refine am_s rfl rfl ?_
          refine am_lv [(4, .int (iI ((mt_rm S a b0 : Nat) : Int))), (3, .int (iI (b0 : Int))), (2, .int (iI (a : Int))), (1, .int (iI (S : Int))), (0, .ref 168)] rfl rfl ⟨rfl, rfl, rfl, rfl, rfl, trivial⟩ ?_
          refine am_s rfl rfl ?_
          refine s_k (-1) rfl rfl ?_
          refine s_cne rfl ⟨by omega, by omega⟩ ⟨by omega, by omega⟩ (fun c1 => ?_) (fun c1 => absurd c1 (by omega))
          refine am_s rfl rfl ?_
          refine s_gr rfl g rfl rfl ?_
          refine am_s rfl rfl ?_
          refine s_gr rfl g rfl rfl ?_
          refine am_s rfl rfl ?_
          refine s_ia rfl g rfl ⟨by omega, by omega⟩ (by decide) ?_
          rw [h177]
          refine am_s rfl rfl ?_
          refine s_gr rfl g rfl rfl ?_
          refine am_s rfl rfl ?_
          refine s_ia rfl g rfl ⟨by omega, by omega⟩ (by decide) ?_
          rw [h177]
          refine s_is rfl g rfl ⟨by omega, by omega⟩ (by decide) ?_
          generalize hs5 : am_w s4 178 (s 177 a) (s 177 b0) = s5
          have k177 : s5 177 = s 177 := by rw [← hs5, am_w_row (by decide), h177]
          refine am_s rfl rfl ?_
          refine s_gr rfl g rfl rfl ?_
          refine am_s rfl rfl ?_
          refine s_gr rfl g rfl rfl ?_
          refine am_s rfl rfl ?_
          refine s_ia rfl g rfl ⟨by omega, by omega⟩ (by decide) ?_
          rw [k177]
          refine am_s rfl rfl ?_
          refine s_gr rfl g rfl rfl ?_
          refine am_s rfl rfl ?_
          refine s_ia rfl g rfl ⟨by omega, by omega⟩ (by decide) ?_
          rw [k177]
          refine s_is rfl g rfl ⟨by omega, by omega⟩ (by decide) ?_
          refine am_s rfl rfl ?_
          refine am_s rfl rfl ?_
          refine am_s rfl rfl ?_
          obtain ⟨hI2, lt2⟩ := qIn_s hp hI tab ha hb1 hok heq hmin
          refine am_lv [(1, _), (0, _)] rfl rfl ⟨rfl, rfl, trivial⟩ ?_
          rw [← hs5]
          exact kk (mt_rm S a b0) _ ⟨_, hI2⟩ lt2
theorem t_mm0 {d : Nat} {E : am_Ev} {s : am_S} {PP : Option Value → am_H → Prop} (g : am_Eg E) (hp : qPre s) (hPP : ∀ s', qRes s s' → PP none (am_hp E s')) : am_wp (d + 1) 190 11 [(0, .ref 168)] [] (am_hp E s) PP := by
  refine am_s rfl rfl ?_
  refine s_gr rfl g rfl rfl ?_
  refine s_k 0 rfl rfl ?_
  refine s_kl 0 rfl rfl ?_
  refine s_ls rfl g rfl ⟨by omega, by omega⟩ (by decide) ?_
  refine t_mmA g hp _ ⟨am_Fr_w (by decide), am_w_eq _ _ _ _, fun S a S0 S1 => by omega, fun S hS => ?_⟩ (fun s' hT => t_mmB g hp s' hT hPP)
  have z : S = 0 := by omega
  subst z
  rw [show ((0 : Nat) : Int) = 0 from rfl, am_w_eq]
  exact ⟨by decide, by decide⟩
