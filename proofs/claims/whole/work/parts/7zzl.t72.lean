/-! the matcher: what the prices say -/
def pzf (s : am_S) (a b : Int) : Nat → Int := fun k => if bt (s 87 (20 + (k : Int))) a = 1 ∧ bt (s 87 (20 + (k : Int))) b = 1 then s 84 (20 + (k : Int)) else 0
theorem pz_bZ {s : am_S} {a b : Int} (ha : 0 ≤ a ∧ a < 20) (hb : 0 ≤ b ∧ b < 20) : mt_s (pzf s a b) 10 = bZ (mS s) a b := by
  classical
  unfold bZ
  refine mt_s_congr (fun k hk => ?_)
  unfold pzf
  have e1 : mH s (20 + (k : Int)) a ↔ bt (s 87 (20 + (k : Int))) a = 1 := ⟨fun z => z.2, fun z => ⟨⟨by omega, by omega, ha.1, ha.2⟩, z⟩⟩
  have e2 : mH s (20 + (k : Int)) b ↔ bt (s 87 (20 + (k : Int))) b = 1 := ⟨fun z => z.2, fun z => ⟨⟨by omega, by omega, hb.1, hb.2⟩, z⟩⟩
  by_cases c : bt (s 87 (20 + (k : Int))) a = 1 ∧ bt (s 87 (20 + (k : Int))) b = 1
  · rw [if_pos c, if_pos (c := (mS s).H (20 + (k : Int)) a ∧ (mS s).H (20 + (k : Int)) b) ⟨e1.mpr c.1, e2.mpr c.2⟩]; rfl
  · rw [if_neg c, if_neg (c := (mS s).H (20 + (k : Int)) a ∧ (mS s).H (20 + (k : Int)) b) (fun z => c ⟨e1.mp z.1, e2.mp z.2⟩)]
theorem pc_sz {s : am_S} {x : Int} (hx : 0 ≤ x ∧ x < 30) (hr : 0 ≤ s 87 x ∧ s 87 x < 1048576) : (pcx (s 87 x).toNat : Int) = bsz (mS s) x := by
  classical
  rw [pcx_s (by omega)]
  unfold bsz
  refine mt_s_congr (fun k hk => ?_)
  have e : mH s x (k : Int) ↔ (s 87 x).toNat.testBit k = true := by
    unfold mH bt
    rw [Int.toNat_natCast]
    refine ⟨fun z => ?_, fun z => ⟨⟨hx.1, hx.2, by omega, by omega⟩, if_pos z⟩⟩
    by_cases c : (s 87 x).toNat.testBit k = true
    · exact c
    · rw [if_neg c] at z; exact absurd z.2 (by decide)
  by_cases c : (s 87 x).toNat.testBit k = true
  · rw [if_pos c, if_pos (c := (mS s).H x (k : Int)) (e.mpr c)]
  · rw [if_neg c, if_neg (c := (mS s).H x (k : Int)) (fun z => c (e.mp z))]
def pbf (s : am_S) : Nat → Int := fun k => if s 87 (20 + (k : Int)) ≠ 0 then s 84 (20 + (k : Int)) * (((pcx (s 87 (20 + (k : Int))).toNat : Int) - 1) / 2) else 0
def paf (s : am_S) : Nat → Int := fun k => s 84 (k : Int)
theorem mQ_bnd {s : am_S} {t : Int} (h : mQ s t) (hall : ∀ v, 0 ≤ v → v < s 62 0 → s 85 v ≠ -1) : (∀ v, 0 ≤ v → v < s 62 0 → -t ≤ s 84 v ∧ s 84 v ≤ t) ∧ ∀ b, 20 ≤ b → bU (mS s) b → 0 ≤ s 84 b ∧ s 84 b ≤ 2 * t := by
  have hz : ∀ b, 20 ≤ b → bU (mS s) b → 0 ≤ (mS s).p b := fun b b0 hU => (h.du.z0 b b0 hU).1
  have pv : ∀ v, 0 ≤ v → v < s 62 0 → -t ≤ s 84 v ∧ s 84 v ≤ t := fun v v0 v1 => by
    have u : s 84 v ≤ t := h.du.tm v v0 v1
    rcases h.ma v v0 v1 with z | ⟨m0, m1, m2, -, m4⟩
    · exact absurd z (hall v v0 v1)
    · have u2 := h.du.tm _ m0 m1
      have c := (h.du.ev v _ v0 v1 m0 m1 (fun e => m2 e.symm)).2
      have z := bZ_nn hz v ((mS s).mate v)
      have e : (mS s).p v = s 84 v := rfl
      unfold bsl at m4
      omega
  refine ⟨pv, fun b b0 hU => ⟨hz b b0 hU, ?_⟩⟩
  have m := h.st.rm b b0 hU
  have l := h.st.lk b 0 b0 hU (by omega) (by omega)
  have w2 := wr_rng (m := (mS s).rs b) (i := 0 + 1) (by omega) (by omega)
  have h1 := b_csub h.st b0 hU (i := 0) (by omega) (by omega) _ l.1
  have h2 := b_csub h.st b0 hU w2.1 w2.2 _ l.2
  have g := bZ_ge hz b0 (h.st.hr _ _ h1).2.1 h1 h2
  have k := h.du.lk b 0 b0 hU (by omega) (by omega)
  have r1 := h.st.hr _ _ h1
  have r2 := h.st.hr _ _ h2
  have ne : (mS s).lf b 0 ≠ (mS s).li b 0 := fun e => by
    have l2 := l.2
    rw [← e] at l2
    have := b_rd h.st b0 hU (i := 0) (by omega) (by omega) w2.1 w2.2 l.1 l2
    unfold wr at this; split at this <;> omega
  have c := (h.du.ev _ _ r1.2.2.1 r1.2.2.2 r2.2.2.1 r2.2.2.2 ne).2
  have p1 : -t ≤ (mS s).p ((mS s).lf b 0) ∧ (mS s).p ((mS s).lf b 0) ≤ t := pv _ r1.2.2.1 r1.2.2.2
  have p2 : -t ≤ (mS s).p ((mS s).li b 0) ∧ (mS s).p ((mS s).li b 0) ≤ t := pv _ r2.2.2.1 r2.2.2.2
  have e : (mS s).p b = s 84 b := rfl
  unfold bsl at k
  omega
theorem bZ_le {S : bS} {B : Int} (hB : 0 ≤ B) (hz : ∀ b, 20 ≤ b → bU S b → S.p b ≤ B) (v w : Int) : bZ S v w ≤ 10 * B := by
  classical
  unfold bZ
  have hh : mt_s (fun k => if S.H (20 + (k : Int)) v ∧ S.H (20 + (k : Int)) w then S.p (20 + (k : Int)) else 0) 10 ≤ mt_s (fun _ => B) 10 := by
    refine mt_s_le (fun k hk => ?_)
    split
    · rename_i q; exact hz _ (by omega) ⟨v, q.1⟩
    · omega
  have e : mt_s (fun _ => B) 10 = 10 * B := by
    show 0 + B + B + B + B + B + B + B + B + B + B = 10 * B
    omega
  omega
theorem t_pricesAround {d : Nat} {E : am_Ev} {s : am_S} {a b : Int} (g : am_Eg E) (hr : ∀ x, 0 ≤ x → x < 30 → 0 ≤ s 87 x ∧ s 87 x < 1048576) (ha : 0 ≤ a ∧ a < 20) (hb : 0 ≤ b ∧ b < 20) : am_wp (d + 1) 55 0 (lv_args 0 [.ref 62, .int (iI a), .int (iI b)]) [] (am_hp E s) (fun rv h => rv = some (.long (lI (mt_s (pzf s a b) 10))) ∧ h = am_hp E s) := by
  refine s_kl 0 rfl rfl ?_
  refine am_s rfl rfl ?_
  refine s_k 20 rfl rfl ?_
  refine am_s rfl rfl ?_
  refine am_lv [(5, .int (iI (((20 : Nat) : Int) : Int))), (3, .long (lI 0)), (2, .int (iI b)), (1, .int (iI a)), (0, .ref 62)] rfl rfl ⟨rfl, rfl, rfl, rfl, rfl, trivial⟩ ?_
  refine s_loop (X := Int) (fun k x s' => s = s' ∧ x = mt_s (pzf s a b) (k - 20)) (fun k x => [(5, .int (iI (k : Int))), (3, .long (lI x)), (2, .int (iI b)), (1, .int (iI a)), (0, .ref 62)]) (lo := 20) (hi := 30) (x := 0) (by omega) ⟨rfl, rfl⟩ ?_ ?_
  · rintro k x s1 hk0 hk1 ⟨rfl, hx⟩ kk
    simp only at kk ⊢
    have ez : pzf s a b (k - 20) = if bt (s 87 k) a = 1 ∧ bt (s 87 k) b = 1 then s 84 k else 0 := by
      unfold pzf
      rw [show 20 + ((k - 20 : Nat) : Int) = (k : Int) by omega]
    refine am_s rfl rfl ?_
    refine s_k 30 rfl rfl ?_
    refine s_cge rfl ⟨by omega, by omega⟩ ⟨by omega, by omega⟩ (fun c1 => absurd c1 (by omega)) (fun c1 => ?_)
    refine am_s rfl rfl ?_
    refine am_s rfl rfl ?_
    refine am_s rfl rfl ?_
    refine s_cv [_, _] [] rfl g (Or.inl rfl) rfl rfl (Nat.le_of_ble_eq_true rfl) rfl rfl (t_holds (PP := fun rv h => (∃ r : Int, rv = some (.int (iI r)) ∧ ((r = 1 ∧ bt (s 87 k) a = 1) ∨ (r = 0 ∧ bt (s 87 k) a ≠ 1))) ∧ h = am_hp E s) g ⟨by omega, by omega⟩ ha (hr k (by omega) (by omega)) (fun z => ⟨⟨1, rfl, Or.inl ⟨rfl, z⟩⟩, rfl⟩) (fun z => ⟨⟨0, rfl, Or.inr ⟨rfl, z⟩⟩, rfl⟩)) ?_
    rintro rv h1 ⟨⟨r1, rfl, hr1⟩, rfl⟩
    refine s_zeq rfl ⟨by omega, by omega⟩ (fun c2 => ?_) (fun c2 => ?_)
    · refine s_inc rfl rfl ?_
      refine am_s rfl rfl ?_
      refine am_lv [(5, _), (3, _), (2, _), (1, _), (0, _)] rfl rfl ⟨rfl, rfl, rfl, rfl, rfl, trivial⟩ ?_
      refine kk _ _ ⟨rfl, ?_⟩
      rw [show k + 1 - 20 = (k - 20) + 1 by omega]
      show x = mt_s (pzf s a b) (k - 20) + pzf s a b (k - 20)
      rw [ez, if_neg (fun z => by omega), ← hx]; omega
    · refine am_s rfl rfl ?_
      refine am_s rfl rfl ?_
      refine am_s rfl rfl ?_
      refine s_cv [_, _] [] rfl g (Or.inl rfl) rfl rfl (Nat.le_of_ble_eq_true rfl) rfl rfl (t_holds (PP := fun rv h => (∃ r : Int, rv = some (.int (iI r)) ∧ ((r = 1 ∧ bt (s 87 k) b = 1) ∨ (r = 0 ∧ bt (s 87 k) b ≠ 1))) ∧ h = am_hp E s) g ⟨by omega, by omega⟩ hb (hr k (by omega) (by omega)) (fun z => ⟨⟨1, rfl, Or.inl ⟨rfl, z⟩⟩, rfl⟩) (fun z => ⟨⟨0, rfl, Or.inr ⟨rfl, z⟩⟩, rfl⟩)) ?_
      rintro rv h1 ⟨⟨r2, rfl, hr2⟩, rfl⟩
      refine s_zeq rfl ⟨by omega, by omega⟩ (fun c3 => ?_) (fun c3 => ?_)
      · refine s_inc rfl rfl ?_
        refine am_s rfl rfl ?_
        refine am_lv [(5, _), (3, _), (2, _), (1, _), (0, _)] rfl rfl ⟨rfl, rfl, rfl, rfl, rfl, trivial⟩ ?_
        refine kk _ _ ⟨rfl, ?_⟩
        rw [show k + 1 - 20 = (k - 20) + 1 by omega]
        show x = mt_s (pzf s a b) (k - 20) + pzf s a b (k - 20)
        rw [ez, if_neg (fun z => by omega), ← hx]; omega
      · refine am_s rfl rfl ?_
        refine am_s rfl rfl ?_
        refine s_gr rfl g rfl rfl ?_
        refine am_s rfl rfl ?_
        refine s_la rfl g rfl ⟨by omega, by omega⟩ (by decide) ?_
        refine s_ladd rfl ?_
        refine am_s rfl rfl ?_
        refine s_inc rfl rfl ?_
        refine am_s rfl rfl ?_
        refine am_lv [(5, _), (3, _), (2, _), (1, _), (0, _)] rfl rfl ⟨rfl, rfl, rfl, rfl, rfl, trivial⟩ ?_
        refine kk _ _ ⟨rfl, ?_⟩
        rw [show k + 1 - 20 = (k - 20) + 1 by omega]
        show x + s 84 k = mt_s (pzf s a b) (k - 20) + pzf s a b (k - 20)
        rw [ez, if_pos (by omega), ← hx]
  · rintro x s1 ⟨rfl, hx⟩
    simp only
    refine am_s rfl rfl ?_
    refine s_k 30 rfl rfl ?_
    refine s_cge rfl ⟨by omega, by omega⟩ ⟨by omega, by omega⟩ (fun c1 => ?_) (fun c1 => absurd c1 (by omega))
    refine am_s rfl rfl ?_
    exact am_r rfl rfl ⟨by rw [hx], rfl⟩
set_option maxHeartbeats 4000000 in
theorem t_provenSum {d : Nat} {E : am_Ev} {s : am_S} {t : Int} (g : am_Eg E) (h : mQ s t) (hall : ∀ v, 0 ≤ v → v < s 62 0 → s 85 v ≠ -1) (ht : 0 < s 62 0 → 2 * t ≤ 10000000000) (hc : ∀ v w, 0 ≤ v → v < s 62 0 → 0 ≤ w → w < s 62 0 → v ≠ w → (mS s).C v w ≤ 10000000000) : am_wp (d + 2) 54 0 (lv_args 0 [.ref 62]) [] (am_hp E s) (fun rv h => rv = some (.long (lI (mt_s (paf s) (s 62 0).toNat - mt_s (pbf s) 10))) ∧ h = am_hp E s) := by
  have n0 := h.st.n0
  have n1 : (mS s).n = s 62 0 := rfl
  obtain ⟨n, en⟩ : ∃ n : Nat, s 62 0 = n := ⟨(s 62 0).toNat, by omega⟩
  obtain ⟨pv, pb⟩ := mQ_bnd h hall
  refine s_kl 0 rfl rfl ?_
  refine am_s rfl rfl ?_
  refine s_k 0 rfl rfl ?_
  refine am_s rfl rfl ?_
  refine am_lv [(3, .int (iI (((0 : Nat) : Int) : Int))), (1, .long (lI 0)), (0, .ref 62)] rfl rfl ⟨rfl, rfl, rfl, trivial⟩ ?_
  refine s_loop (X := Int) (fun k x s' => s = s' ∧ x = mt_s (paf s) k) (fun k x => [(3, .int (iI (k : Int))), (1, .long (lI x)), (0, .ref 62)]) (hi := n) (x := 0) (Nat.zero_le n) ⟨rfl, rfl⟩ ?_ ?_
  · rintro k x s1 hk0 hk1 ⟨rfl, hx⟩ kk
    simp only at kk ⊢
    refine am_s rfl rfl ?_
    refine am_s rfl rfl ?_
    refine s_gi (x := 0) rfl g rfl rfl rfl ?_
    refine s_cge rfl ⟨by omega, by omega⟩ ⟨by omega, by omega⟩ (fun c1 => absurd c1 (by omega)) (fun c1 => ?_)
    refine am_s rfl rfl ?_
    refine am_s rfl rfl ?_
    refine s_gr rfl g rfl rfl ?_
    refine am_s rfl rfl ?_
    refine s_la rfl g rfl ⟨by omega, by omega⟩ (by decide) ?_
    refine s_ladd rfl ?_
    refine am_s rfl rfl ?_
    refine am_s rfl rfl ?_
    refine s_k 1 rfl rfl ?_
    refine s_iadd rfl ?_
    refine am_s rfl rfl ?_
    refine am_lv [(4, .int (iI (((k + 1 : Nat) : Int) : Int))), (3, .int (iI (k : Int))), (1, .long (lI (x + s 84 k))), (0, .ref 62)] rfl rfl ⟨rfl, rfl, rfl, rfl, trivial⟩ ?_
    refine s_loop (X := Unit) (fun j _ s' => s = s') (fun j _ => [(4, .int (iI (j : Int))), (3, .int (iI (k : Int))), (1, .long (lI (x + s 84 k))), (0, .ref 62)]) (lo := k + 1) (hi := n) (x := ()) (by omega) rfl ?_ ?_
    · rintro j - s2 hj0 hj1 rfl kk2
      simp only at kk2 ⊢
      refine am_s rfl rfl ?_
      refine am_s rfl rfl ?_
      refine s_gi (x := 0) rfl g rfl rfl rfl ?_
      refine s_cge rfl ⟨by omega, by omega⟩ ⟨by omega, by omega⟩ (fun c1 => absurd c1 (by omega)) (fun c1 => ?_)
      refine am_s rfl rfl ?_
      refine s_gr rfl g rfl rfl ?_
      refine am_s rfl rfl ?_
      refine s_aa5 rfl g rfl ⟨by omega, by omega⟩ (by decide) ?_
      refine am_s rfl rfl ?_
      refine s_la rfl g (lo_63 (by omega) (by omega)) ⟨by omega, by omega⟩ (by decide) ?_
      refine am_s rfl rfl ?_
      refine s_gr rfl g rfl rfl ?_
      refine am_s rfl rfl ?_
      refine s_la rfl g rfl ⟨by omega, by omega⟩ (by decide) ?_
      refine s_lsub rfl ?_
      refine am_s rfl rfl ?_
      refine s_gr rfl g rfl rfl ?_
      refine am_s rfl rfl ?_
      refine s_la rfl g rfl ⟨by omega, by omega⟩ (by decide) ?_
      refine s_lsub rfl ?_
      refine am_s rfl rfl ?_
      refine am_s rfl rfl ?_
      refine am_s rfl rfl ?_
      have hv : 0 ≤ s (63 + 1 + (k : Int).toNat) j - s 84 k - s 84 j + mt_s (pzf s k j) 10 ∧ s (63 + 1 + (k : Int).toNat) j - s 84 k - s 84 j + mt_s (pzf s k j) 10 < 9000000000000000000 := by
        rw [pz_bZ ⟨by omega, by omega⟩ ⟨by omega, by omega⟩]
        have z := h.du.sl k j (by omega) (show (k : Int) < s 62 0 by omega) (by omega) (show (j : Int) < s 62 0 by omega) (by omega)
        have z2 := hc k j (by omega) (by omega) (by omega) (by omega) (by omega)
        have p1 := pv k (by omega) (by omega)
        have p2 := pv j (by omega) (by omega)
        have z3 := bZ_le (S := mS s) (B := 2 * t) (by have := h.du.t0; omega) (fun b b0 hU => (pb b b0 hU).2) k j
        unfold bsl at z
        have e1 : (mS s).C k j = s (63 + 1 + (k : Int).toNat) j := by
          show mrow s 63 20 k j = _
          rw [mrow_in (by omega) (by omega)]
        have e2 : (mS s).p k = s 84 k := rfl
        have e3 : (mS s).p j = s 84 j := rfl
        rw [e1] at z z2
        omega
      refine s_cv [_, _] [_] rfl g (Or.inl rfl) rfl rfl (Nat.le_of_ble_eq_true rfl) rfl rfl (t_pricesAround g h.w1 ⟨by omega, by omega⟩ ⟨by omega, by omega⟩) ?_
      rintro rv h1 ⟨rfl, rfl⟩
      refine s_ladd rfl ?_
      refine s_kl 0 rfl rfl ?_
      refine s_jge rfl rfl ⟨by omega, by omega⟩ ⟨by omega, by omega⟩ (fun c2 => ?_) (fun c2 => absurd c2 (by omega))
      refine s_inc rfl rfl ?_
      refine am_s rfl rfl ?_
      refine am_lv [(4, _), (3, _), (1, _), (0, _)] rfl rfl ⟨rfl, rfl, rfl, rfl, trivial⟩ ?_
      exact kk2 () _ rfl
    · rintro - s2 rfl
      simp only
      refine am_s rfl rfl ?_
      refine am_s rfl rfl ?_
      refine s_gi (x := 0) rfl g rfl rfl rfl ?_
      refine s_cge rfl ⟨by omega, by omega⟩ ⟨by omega, by omega⟩ (fun c1 => ?_) (fun c1 => absurd c1 (by omega))
      refine s_inc rfl rfl ?_
      refine am_s rfl rfl ?_
      refine am_lv [(3, _), (1, _), (0, _)] rfl rfl ⟨rfl, rfl, rfl, trivial⟩ ?_
      refine kk _ _ ⟨rfl, ?_⟩
      show x + s 84 k = mt_s (paf s) k + paf s k
      rw [hx]; rfl
  · rintro x s1 ⟨rfl, hx⟩
    simp only
    refine am_s rfl rfl ?_
    refine am_s rfl rfl ?_
    refine s_gi (x := 0) rfl g rfl rfl rfl ?_
    refine s_cge rfl ⟨by omega, by omega⟩ ⟨by omega, by omega⟩ (fun c1 => ?_) (fun c1 => absurd c1 (by omega))
    refine s_k 20 rfl rfl ?_
    refine am_s rfl rfl ?_
    refine am_lv [(3, .int (iI (((20 : Nat) : Int) : Int))), (1, .long (lI x)), (0, .ref 62)] rfl rfl ⟨rfl, rfl, rfl, trivial⟩ ?_
    refine s_loop (X := Int) (fun k y s' => s = s' ∧ y = x - mt_s (pbf s) (k - 20)) (fun k y => [(3, .int (iI (k : Int))), (1, .long (lI y)), (0, .ref 62)]) (lo := 20) (hi := 30) (x := x) (by omega) ⟨rfl, by show x = x - 0; omega⟩ ?_ ?_
    · rintro k y s1 hk0 hk1 ⟨rfl, hy⟩ kk
      simp only at kk ⊢
      have hk := h.w1 k (by omega) (by omega)
      have ez : pbf s (k - 20) = if s 87 k ≠ 0 then s 84 k * (((pcx (s 87 k).toNat : Int) - 1) / 2) else 0 := by
        unfold pbf
        rw [show 20 + ((k - 20 : Nat) : Int) = (k : Int) by omega]
      refine am_s rfl rfl ?_
      refine s_k 30 rfl rfl ?_
      refine s_cge rfl ⟨by omega, by omega⟩ ⟨by omega, by omega⟩ (fun c1 => absurd c1 (by omega)) (fun c1 => ?_)
      refine am_s rfl rfl ?_
      refine s_gr rfl g rfl rfl ?_
      refine am_s rfl rfl ?_
      refine s_ia rfl g rfl ⟨by omega, by omega⟩ (by decide) ?_
      refine s_zeq rfl ⟨by omega, by omega⟩ (fun c2 => ?_) (fun c2 => ?_)
      · refine s_inc rfl rfl ?_
        refine am_s rfl rfl ?_
        refine am_lv [(3, _), (1, _), (0, _)] rfl rfl ⟨rfl, rfl, rfl, trivial⟩ ?_
        refine kk _ _ ⟨rfl, ?_⟩
        rw [show k + 1 - 20 = (k - 20) + 1 by omega]
        show y = x - (mt_s (pbf s) (k - 20) + pbf s (k - 20))
        rw [ez, if_neg (fun z => z (by omega))]; omega
      · refine am_s rfl rfl ?_
        refine am_s rfl rfl ?_
        refine s_gr rfl g rfl rfl ?_
        refine am_s rfl rfl ?_
        refine s_la rfl g rfl ⟨by omega, by omega⟩ (by decide) ?_
        refine am_s rfl rfl ?_
        refine s_gr rfl g rfl rfl ?_
        refine am_s rfl rfl ?_
        refine s_ia rfl g rfl ⟨by omega, by omega⟩ (by decide) ?_
        obtain ⟨M0, eM⟩ : ∃ M0 : Nat, s 87 k = (M0 : Int) := ⟨(s 87 k).toNat, by omega⟩
        have ps := pc_sz (s := s) (x := k) ⟨by omega, by omega⟩ hk
        have s1 := bsz_1 h.st ((mU_iff ⟨by omega, by omega⟩ hk).mpr (by omega))
        have s2 := bsz_20 (x := (k : Int)) h.st
        rw [show (s 87 k).toNat = M0 by omega] at ps
        have n3 : (mS s).n = s 62 0 := rfl
        rw [eM]
        refine am_cs (As := [_]) (rest := [_, _]) rfl (Or.inl rfl) rfl rfl (Nat.le_of_ble_eq_true rfl) rfl (t_bitCount (by omega)) ?_
        rintro rv h1 ⟨rfl, rfl⟩
        refine s_k 1 rfl rfl ?_
        refine s_isub rfl ?_
        refine s_k 2 rfl rfl ?_
        refine s_idiv rfl ⟨by omega, by omega⟩ ⟨by omega, by omega⟩ ?_
        refine s_i2l rfl ⟨by omega, by omega⟩ ?_
        refine s_lmul rfl ?_
        refine s_lsub rfl ?_
        refine am_s rfl rfl ?_
        refine s_inc rfl rfl ?_
        refine am_s rfl rfl ?_
        refine am_lv [(3, _), (1, _), (0, _)] rfl rfl ⟨rfl, rfl, rfl, trivial⟩ ?_
        refine kk _ _ ⟨rfl, ?_⟩
        rw [show k + 1 - 20 = (k - 20) + 1 by omega]
        show y - s 84 k * (((pcx M0 : Int) - 1) / 2) = x - (mt_s (pbf s) (k - 20) + pbf s (k - 20))
        rw [ez, if_pos (by omega), show (s 87 k).toNat = M0 by omega]; omega
    · rintro y s1 ⟨rfl, hy⟩
      simp only
      refine am_s rfl rfl ?_
      refine s_k 30 rfl rfl ?_
      refine s_cge rfl ⟨by omega, by omega⟩ ⟨by omega, by omega⟩ (fun c1 => ?_) (fun c1 => absurd c1 (by omega))
      refine am_s rfl rfl ?_
      exact am_r rfl rfl ⟨by rw [hy, hx, en, Int.toNat_natCast], rfl⟩
