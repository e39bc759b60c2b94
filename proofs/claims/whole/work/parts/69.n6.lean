/-! PURE: prices -/
def bsg (k : Int) : Int := if k = 1 then 1 else if k = 2 then -1 else 0
/-- the prices keep what they prove; t: the price of all that are free -/
abbrev bDu (S : bS) (t : Int) : Prop := Nonempty (PProd (bSym S) (PProd (∀ v w, 0 ≤ v → v < S.n → 0 ≤ w → w < S.n → v ≠ w → 0 ≤ bsl S v w) (PProd (∀ b, 20 ≤ b → bU S b → 0 ≤ S.p b ∧ S.p b % 2 = 0) (PProd (∀ v w, 0 ≤ v → v < S.n → 0 ≤ w → w < S.n → v ≠ w → S.C v w % 2 = 0 ∧ 0 ≤ S.C v w) (PProd (bLk S) (PProd (∀ x v w, S.H x v → S.H x w → (S.p v - S.p w) % 2 = 0) (PProd (0 ≤ t) (PProd (∀ v, 0 ≤ v → v < S.n → S.p v ≤ t) (∀ v, 0 ≤ v → v < S.n → S.mate v = -1 → S.p v = t)))))))))
theorem bDu.sy {S : bS} {t : Int} (h_ : bDu S t) : bSym S := h_.elim (fun x_ => x_.1)
theorem bDu.sl {S : bS} {t : Int} (h_ : bDu S t) : ∀ v w, 0 ≤ v → v < S.n → 0 ≤ w → w < S.n → v ≠ w → 0 ≤ bsl S v w := h_.elim (fun x_ => x_.2.1)
theorem bDu.z0 {S : bS} {t : Int} (h_ : bDu S t) : ∀ b, 20 ≤ b → bU S b → 0 ≤ S.p b ∧ S.p b % 2 = 0 := h_.elim (fun x_ => x_.2.2.1)
theorem bDu.ev {S : bS} {t : Int} (h_ : bDu S t) : ∀ v w, 0 ≤ v → v < S.n → 0 ≤ w → w < S.n → v ≠ w → S.C v w % 2 = 0 ∧ 0 ≤ S.C v w := h_.elim (fun x_ => x_.2.2.2.1)
theorem bDu.lk {S : bS} {t : Int} (h_ : bDu S t) : bLk S := h_.elim (fun x_ => x_.2.2.2.2.1)
theorem bDu.pa {S : bS} {t : Int} (h_ : bDu S t) : ∀ x v w, S.H x v → S.H x w → (S.p v - S.p w) % 2 = 0 := h_.elim (fun x_ => x_.2.2.2.2.2.1)
theorem bDu.t0 {S : bS} {t : Int} (h_ : bDu S t) : 0 ≤ t := h_.elim (fun x_ => x_.2.2.2.2.2.2.1)
theorem bDu.tm {S : bS} {t : Int} (h_ : bDu S t) : ∀ v, 0 ≤ v → v < S.n → S.p v ≤ t := h_.elim (fun x_ => x_.2.2.2.2.2.2.2.1)
theorem bDu.tf {S : bS} {t : Int} (h_ : bDu S t) : ∀ v, 0 ≤ v → v < S.n → S.mate v = -1 → S.p v = t := h_.elim (fun x_ => x_.2.2.2.2.2.2.2.2)
def bPar (S : bS) (t : Int) : Prop := ∀ v, 0 ≤ v → v < S.n → S.mr (S.top v) ≠ 0 → (S.p v - t) % 2 = 0
theorem bZ_0 {S : bS} (h : bStr S) {v w : Int} (ht : S.top v ≠ S.top w) : bZ S v w = 0 := by
  classical
  unfold bZ
  rw [mt_s_congr (g := fun _ => 0) (fun k _ => if_neg (fun z => ht (h.tt _ v w z.1 z.2))), mt_s_zero]
theorem bZ_ge {S : bS} (hz : ∀ b, 20 ≤ b → bU S b → 0 ≤ S.p b) {b v w : Int} (b0 : 20 ≤ b) (b1 : b < 30) (hv : S.H b v) (hw : S.H b w) : S.p b ≤ bZ S v w := by
  classical
  unfold bZ
  have hh : mt_s (fun k => if k = (b - 20).toNat then S.p b else 0) 10 ≤ mt_s (fun k => if S.H (20 + (k : Int)) v ∧ S.H (20 + (k : Int)) w then S.p (20 + (k : Int)) else 0) 10 := by
    refine mt_s_le (fun k hk => ?_)
    by_cases c : k = (b - 20).toNat
    · rw [show 20 + (k : Int) = b by omega, if_pos c, if_pos ⟨hv, hw⟩]; omega
    · rw [if_neg c]
      split
      · rename_i q; exact hz _ (by omega) ⟨v, q.1⟩
      · omega
  have e := mt_s_one (f := fun k => if k = (b - 20).toNat then S.p b else (0 : Int)) (g := fun _ => 0) (j := (b - 20).toNat) (n := 10) (by omega) (fun i _ hi => if_neg hi)
  rw [mt_s_zero, if_pos rfl] at e
  omega
theorem bZ_nn {S : bS} (hz : ∀ b, 20 ≤ b → bU S b → 0 ≤ S.p b) (v w : Int) : 0 ≤ bZ S v w := by
  classical
  unfold bZ
  have hh : mt_s (fun _ => 0) 10 ≤ mt_s (fun k => if S.H (20 + (k : Int)) v ∧ S.H (20 + (k : Int)) w then S.p (20 + (k : Int)) else 0) 10 := by
    refine mt_s_le (fun k hk => ?_)
    split
    · rename_i q; exact hz _ (by omega) ⟨v, q.1⟩
    · omega
  rw [mt_s_zero] at hh
  exact hh
theorem mt_s_ev {f : Nat → Int} : ∀ {n : Nat}, (∀ i, i < n → f i % 2 = 0) → mt_s f n % 2 = 0
  | 0, _ => rfl
  | n + 1, h => by
    have a := mt_s_ev (n := n) (fun i hi => h i (by omega))
    have b := h n (by omega)
    show (mt_s f n + f n) % 2 = 0
    omega
theorem bZ_ev {S : bS} {t : Int} (hD : bDu S t) (v w : Int) : bZ S v w % 2 = 0 := by
  classical
  unfold bZ
  refine mt_s_ev (fun k hk => ?_)
  split
  · rename_i q; exact (hD.z0 _ (by omega) ⟨v, q.1⟩).2
  · rfl
/-- a tight pair's prices are even or odd together -/
theorem b_tpar {S : bS} {t : Int} (hD : bDu S t) {v w : Int} (v0 : 0 ≤ v) (v1 : v < S.n) (w0 : 0 ≤ w) (w1 : w < S.n) (hne : v ≠ w) (hs : bsl S v w = 0) : (S.p v - S.p w) % 2 = 0 := by
  have a := (hD.ev v w v0 v1 w0 w1 hne).1
  have b := bZ_ev hD v w
  unfold bsl at hs
  omega
/-- the free ones are bases of outer nodes -/
theorem b_free {S : bS} {rk : Int → Int} (h : bStr S) (hN : bNd S) (hT : bTree S rk) {v : Int} (v0 : 0 ≤ v) (v1 : v < S.n) (hf : S.mate v = -1) : S.base (S.top v) = v ∧ S.mr (S.top v) = 1 := by
  have e : S.base (S.top v) = v := by
    by_cases c : v = S.base (S.top v)
    · exact c.symm
    · exfalso
      have z := (b_win h hN (h.th v v0 v1) c).1
      rw [hf] at z
      have := (h.hr _ _ z).2.2.1
      omega
  refine ⟨e, ?_⟩
  by_cases c1 : S.mr (S.top v) = 1
  · exact c1
  · exfalso
    by_cases c2 : S.mr (S.top v) = 2
    · have z := (hT.inn v v0 v1 c2).1
      rw [e] at z; exact z hf
    · have z := (hT.idl v v0 v1 c1 c2).2.1
      rw [e] at z; exact z hf
/-- all prices lie within the greatest cost, while two are free -/
theorem b_bnd {S : bS} {rk : Int → Int} {t M x y : Int} (h : bStr S) (hN : bNd S) (hM : bMat S) (hT : bTree S rk) (hD : bDu S t) (hC : ∀ v w, 0 ≤ v → v < S.n → 0 ≤ w → w < S.n → v ≠ w → S.C v w ≤ M) (x0 : 0 ≤ x) (x1 : x < S.n) (y0 : 0 ≤ y) (y1 : y < S.n) (hxy : x ≠ y) (fx : S.mate x = -1) (fy : S.mate y = -1) : S.top x ≠ S.top y ∧ 2 * t ≤ M ∧ (∀ v, 0 ≤ v → v < S.n → -t ≤ S.p v ∧ S.p v ≤ t) ∧ ∀ b, 20 ≤ b → bU S b → 0 ≤ S.p b ∧ S.p b ≤ 2 * t := by
  have hz : ∀ b, 20 ≤ b → bU S b → 0 ≤ S.p b := fun b b0 bU => (hD.z0 b b0 bU).1
  have nt : S.top x ≠ S.top y := fun e => by
    have a := (b_free h hN hT x0 x1 fx).1
    have b := (b_free h hN hT y0 y1 fy).1
    rw [e, b] at a
    exact hxy a.symm
  have a := hD.sl x y x0 x1 y0 y1 hxy
  have b := hC x y x0 x1 y0 y1 hxy
  have px := hD.tf x x0 x1 fx
  have py := hD.tf y y0 y1 fy
  have pv : ∀ v, 0 ≤ v → v < S.n → -t ≤ S.p v ∧ S.p v ≤ t := fun v v0 v1 => by
    have u := hD.tm v v0 v1
    have t0 := hD.t0
    rcases hM v v0 v1 with z | ⟨m0, m1, m2, -, m4⟩
    · have := hD.tf v v0 v1 z; omega
    · have u2 := hD.tm _ m0 m1
      have c := (hD.ev v _ v0 v1 m0 m1 (fun e => m2 e.symm)).2
      have z := bZ_nn hz v (S.mate v)
      unfold bsl at m4
      omega
  refine ⟨nt, ?_, pv, fun b b0 bU => ⟨hz b b0 bU, ?_⟩⟩
  · unfold bsl at a
    rw [bZ_0 h nt] at a
    omega
  · obtain ⟨v, hv⟩ := bU
    have bU : bU S b := ⟨v, hv⟩
    have m := h.rm b b0 bU
    have l := h.lk b 0 b0 bU (by omega) (by omega)
    have w2 := wr_rng (m := S.rs b) (i := 0 + 1) (by omega) (by omega)
    have h1 := b_csub h b0 bU (i := 0) (by omega) (by omega) _ l.1
    have h2 := b_csub h b0 bU w2.1 w2.2 _ l.2
    have g := bZ_ge hz b0 (h.hr _ _ h1).2.1 h1 h2
    have k := hD.lk b 0 b0 bU (by omega) (by omega)
    have r1 := h.hr _ _ h1
    have r2 := h.hr _ _ h2
    have ne : S.lf b 0 ≠ S.li b 0 := fun e => by
      have l2 := l.2
      rw [← e] at l2
      have := b_rd h b0 bU (i := 0) (by omega) (by omega) w2.1 w2.2 l.1 l2
      unfold wr at this; split at this <;> omega
    have c := (hD.ev _ _ r1.2.2.1 r1.2.2.2 r2.2.2.1 r2.2.2.2 ne).2
    have p1 := pv _ r1.2.2.1 r1.2.2.2
    have p2 := pv _ r2.2.2.1 r2.2.2.2
    unfold bsl at k
    omega
/-- how far the prices may go -/
abbrev bSt (S : bS) (d : Int) : Prop := Nonempty (PProd (0 ≤ d) (PProd (∀ v, 0 ≤ v → v < S.n → 20 ≤ S.top v → S.mr (S.top v) = 2 → 2 * d ≤ S.p (S.top v)) (PProd (∀ v w, 0 ≤ v → v < S.n → 0 ≤ w → w < S.n → S.top v ≠ S.top w → S.mr (S.top v) = 1 → S.mr (S.top w) ≠ 1 → S.mr (S.top w) ≠ 2 → d ≤ bsl S v w) (∀ v w, 0 ≤ v → v < S.n → 0 ≤ w → w < S.n → S.top v ≠ S.top w → S.mr (S.top v) = 1 → S.mr (S.top w) = 1 → 2 * d ≤ bsl S v w))))
theorem bSt.d0 {S : bS} {d : Int} (h_ : bSt S d) : 0 ≤ d := h_.elim (fun x_ => x_.1)
theorem bSt.db {S : bS} {d : Int} (h_ : bSt S d) : ∀ v, 0 ≤ v → v < S.n → 20 ≤ S.top v → S.mr (S.top v) = 2 → 2 * d ≤ S.p (S.top v) := h_.elim (fun x_ => x_.2.1)
theorem bSt.di {S : bS} {d : Int} (h_ : bSt S d) : ∀ v w, 0 ≤ v → v < S.n → 0 ≤ w → w < S.n → S.top v ≠ S.top w → S.mr (S.top v) = 1 → S.mr (S.top w) ≠ 1 → S.mr (S.top w) ≠ 2 → d ≤ bsl S v w := h_.elim (fun x_ => x_.2.2.1)
theorem bSt.dd {S : bS} {d : Int} (h_ : bSt S d) : ∀ v w, 0 ≤ v → v < S.n → 0 ≤ w → w < S.n → S.top v ≠ S.top w → S.mr (S.top v) = 1 → S.mr (S.top w) = 1 → 2 * d ≤ bsl S v w := h_.elim (fun x_ => x_.2.2.2)
/-- the prices after a step -/
abbrev bSh (S : bS) (d : Int) (q : Int → Int) : Prop := Nonempty (PProd (∀ v, 0 ≤ v → v < S.n → q v = S.p v + bsg (S.mr (S.top v)) * d) (PProd (∀ v, 0 ≤ v → v < S.n → 20 ≤ S.top v → q (S.top v) = S.p (S.top v) + 2 * bsg (S.mr (S.top v)) * d) (∀ b, 20 ≤ b → bU S b → (∀ v, 0 ≤ v → v < S.n → S.top v ≠ b) → q b = S.p b)))
theorem bSh.v {S : bS} {d : Int} {q : Int → Int} (h_ : bSh S d q) : ∀ v, 0 ≤ v → v < S.n → q v = S.p v + bsg (S.mr (S.top v)) * d := h_.elim (fun x_ => x_.1)
theorem bSh.b {S : bS} {d : Int} {q : Int → Int} (h_ : bSh S d q) : ∀ v, 0 ≤ v → v < S.n → 20 ≤ S.top v → q (S.top v) = S.p (S.top v) + 2 * bsg (S.mr (S.top v)) * d := h_.elim (fun x_ => x_.2.1)
theorem bSh.o {S : bS} {d : Int} {q : Int → Int} (h_ : bSh S d q) : ∀ b, 20 ≤ b → bU S b → (∀ v, 0 ≤ v → v < S.n → S.top v ≠ b) → q b = S.p b := h_.elim (fun x_ => x_.2.2)
def bpr (S : bS) (q : Int → Int) : bS := (⟨S.n, S.C, q, S.mate, S.top, S.base, S.mr, S.fr, S.io, S.H, S.rs, S.rb, S.rg, S.lf, S.li⟩ : bS)
theorem bpr_str {S : bS} (h : bStr S) (q : Int → Int) : bStr (bpr S q) := ⟨h.n0, h.hr, h.hs, h.rm, h.rc, h.rh, h.rd, h.lk, h.th, h.tt, h.lm⟩
theorem bsh_sl {S : bS} (h : bStr S) {d : Int} {q : Int → Int} (hq : bSh S d q) {v w : Int} (v0 : 0 ≤ v) (v1 : v < S.n) (w0 : 0 ≤ w) (w1 : w < S.n) (hvw : v ≠ w) : bsl (bpr S q) v w = if S.top v = S.top w then bsl S v w else bsl S v w - bsg (S.mr (S.top v)) * d - bsg (S.mr (S.top w)) * d := by
  classical
  have e1 := hq.v v v0 v1
  have e2 := hq.v w w0 w1
  have hv := h.th v v0 v1
  have hw := h.th w w0 w1
  unfold bsl
  show S.C v w - q v - q w + bZ (bpr S q) v w = _
  by_cases c : S.top v = S.top w
  · rw [if_pos c]
    rw [← c] at hw e2
    have hb : 20 ≤ S.top v := by
      rcases Int.lt_or_le (S.top v) 20 with z | z
      · have a := (h.hs _ v z).mp hv
        have b := (h.hs _ w z).mp hw
        omega
      · exact z
    have r := h.hr _ _ hv
    have e3 := hq.b v v0 v1 hb
    have ez : bZ (bpr S q) v w = bZ S v w + (q (S.top v) - S.p (S.top v)) := by
      unfold bZ
      have z := mt_s_one (f := fun k => if S.H (20 + (k : Int)) v ∧ S.H (20 + (k : Int)) w then q (20 + (k : Int)) else 0) (g := fun k => if S.H (20 + (k : Int)) v ∧ S.H (20 + (k : Int)) w then S.p (20 + (k : Int)) else 0) (j := (S.top v - 20).toNat) (n := 10) (by omega) (fun i hi ne => by
        by_cases cc : S.H (20 + (i : Int)) v ∧ S.H (20 + (i : Int)) w
        · rw [if_pos cc, if_pos cc]
          refine hq.o _ (by omega) ⟨v, cc.1⟩ (fun u u0 u1 e => ?_)
          have a := b_ttop h u0 u1 (by rw [e]; exact cc.1)
          omega
        · rw [if_neg cc, if_neg cc])
      have ek : 20 + (((S.top v - 20).toNat : Nat) : Int) = S.top v := by omega
      rw [ek, if_pos ⟨hv, hw⟩, if_pos ⟨hv, hw⟩] at z
      exact z
    rw [ez, e1, e2, e3]
    have : 2 * bsg (S.mr (S.top v)) * d = bsg (S.mr (S.top v)) * d + bsg (S.mr (S.top v)) * d := by
      rw [Int.mul_assoc, Int.two_mul]
    omega
  · rw [if_neg c, e1, e2, bZ_0 h c, bZ_0 (bpr_str h q) c]
    omega
theorem bsg_cases (k : Int) : (k = 1 ∧ bsg k = 1) ∨ (k = 2 ∧ bsg k = -1) ∨ (k ≠ 1 ∧ k ≠ 2 ∧ bsg k = 0) := by
  unfold bsg
  by_cases c : k = 1
  · exact Or.inl ⟨c, if_pos c⟩
  · by_cases c2 : k = 2
    · exact Or.inr (Or.inl ⟨c2, by rw [if_neg c, if_pos c2]⟩)
    · exact Or.inr (Or.inr ⟨c, c2, by rw [if_neg c, if_neg c2]⟩)
/-- pairs across the tops that stay tight -/
theorem bsh_t {S : bS} (h : bStr S) {d : Int} {q : Int → Int} (hq : bSh S d q) {v w : Int} (v0 : 0 ≤ v) (v1 : v < S.n) (w0 : 0 ≤ w) (w1 : w < S.n) (hvw : v ≠ w) (hs : bsl S v w = 0) (hm : S.top v = S.top w ∨ bsg (S.mr (S.top v)) + bsg (S.mr (S.top w)) = 0) : bsl (bpr S q) v w = 0 := by
  rw [bsh_sl h hq v0 v1 w0 w1 hvw]
  rcases hm with c | c
  · rw [if_pos c]; exact hs
  · split
    · exact hs
    · have : bsg (S.mr (S.top w)) = - bsg (S.mr (S.top v)) := by omega
      rw [this, Int.neg_mul, hs]; omega
theorem b_shift {S : bS} {rk : Int → Int} {t d : Int} {q : Int → Int} (h : bStr S) (hN : bNd S) (hM : bMat S) (hT : bTree S rk) (hD : bDu S t) (hP : bPar S t) (hd : bSt S d) (hq : bSh S d q) : bNd (bpr S q) ∧ bMat (bpr S q) ∧ bTree (bpr S q) rk ∧ bDu (bpr S q) (t + d) ∧ bPar (bpr S q) (t + d) := by
  have d0 := hd.d0
  have mt : ∀ v, 0 ≤ v → v < S.n → S.mate v ≠ -1 → (0 ≤ S.mate v ∧ S.mate v < S.n ∧ S.mate v ≠ v ∧ S.mate (S.mate v) = v ∧ bsl (bpr S q) v (S.mate v) = 0) := fun v v0 v1 hne => by
    rcases hM v v0 v1 with z | ⟨m0, m1, m2, m3, m4⟩
    · exact absurd z hne
    · refine ⟨m0, m1, m2, m3, bsh_t h hq v0 v1 m0 m1 (fun e => m2 e.symm) m4 ?_⟩
      by_cases c : v = S.base (S.top v)
      · have ne : S.mate (S.base (S.top v)) ≠ -1 := by rw [← c]; exact hne
        rcases bsg_cases (S.mr (S.top v)) with ⟨k, e⟩ | ⟨k, e⟩ | ⟨k, k2, e⟩
        · have z := (hT.out v v0 v1 k ne).1
          rw [← c] at z
          exact Or.inr (by rw [e, z]; rfl)
        · have z := (hT.inn v v0 v1 k).2.1
          rw [← c] at z
          exact Or.inr (by rw [e, z]; rfl)
        · have z := (hT.idl v v0 v1 k k2).2.2
          rw [← c] at z
          exact Or.inr (by rw [e, z]; rfl)
      · exact Or.inl (b_ttop h v0 v1 (b_win h hN (h.th v v0 v1) c).1).symm
  have same : ∀ v w, S.top v = S.top w → 0 ≤ v → v < S.n → 0 ≤ w → w < S.n → q v - q w = S.p v - S.p w := fun v w e v0 v1 w0 w1 => by
    rw [hq.v v v0 v1, hq.v w w0 w1, e]; omega
  refine ⟨hN, fun v v0 v1 => ?_, ⟨hT.out, fun v v0 v1 hm => ?_, hT.idl⟩, ⟨hD.sy, fun v w v0 v1 w0 w1 hne => ?_, fun b b0 bU => ?_, hD.ev, fun b i b0 bU i0 i1 => ?_, fun x v w hv hw => ?_, ?_, fun v v0 v1 => ?_, fun v v0 v1 hf => ?_⟩, fun v v0 v1 hm => ?_⟩
  · by_cases c : S.mate v = -1
    · exact Or.inl c
    · exact Or.inr (mt v v0 v1 c)
  · obtain ⟨i1, i2, i3, i4, i5, i6, i7, i8⟩ := hT.inn v v0 v1 hm
    refine ⟨i1, i2, i3, i4, i5, i6, i7, ?_⟩
    have r := h.hr _ _ i3
    have ti : S.top (S.io (S.top v)) = S.top v := b_ttop h v0 v1 i3
    refine bsh_t (v := S.fr (S.top v)) (w := S.io (S.top v)) h hq i4 i5 r.2.2.1 r.2.2.2 (fun e => ?_) i8 (Or.inr ?_)
    · rw [e, ti] at i7; omega
    · rw [ti, i6]
      have hm : S.mr (S.top v) = 2 := hm
      rw [hm]; rfl
  · rw [bsh_sl h hq v0 v1 w0 w1 hne]
    have s0 := hD.sl v w v0 v1 w0 w1 hne
    split
    · exact s0
    · rename_i c
      have sc := bsl_comm hD.sy v0 v1 w0 w1
      rcases bsg_cases (S.mr (S.top v)) with ⟨k, e⟩ | ⟨k, e⟩ | ⟨k, k2, e⟩ <;> rcases bsg_cases (S.mr (S.top w)) with ⟨j, f⟩ | ⟨j, f⟩ | ⟨j, j2, f⟩ <;> rw [e, f]
      · have := hd.dd v w v0 v1 w0 w1 c k j; omega
      · omega
      · have := hd.di v w v0 v1 w0 w1 c k j j2; omega
      · omega
      · omega
      · omega
      · have := hd.di w v w0 w1 v0 v1 (fun z => c z.symm) j k k2; omega
      · omega
      · omega
  · have z := hD.z0 b b0 bU
    by_cases c : ∃ v, 0 ≤ v ∧ v < S.n ∧ S.top v = b
    · obtain ⟨v, v0, v1, e⟩ := c
      subst e
      have e3 := hq.b v v0 v1 b0
      show 0 ≤ q (S.top v) ∧ q (S.top v) % 2 = 0
      rcases bsg_cases (S.mr (S.top v)) with ⟨k, e⟩ | ⟨k, e⟩ | ⟨k, k2, e⟩ <;> rw [e] at e3
      · omega
      · have := hd.db v v0 v1 b0 k; omega
      · omega
    · show 0 ≤ q b ∧ q b % 2 = 0
      rw [hq.o b b0 bU (fun v v0 v1 e => c ⟨v, v0, v1, e⟩)]; exact z
  · have i1 : i < S.rs b := i1
    have l := h.lk b i b0 bU i0 i1
    have m := h.rm b b0 bU
    have w2 := wr_rng (m := S.rs b) (i := i + 1) (by omega) (by omega)
    have h1 := b_csub h b0 bU i0 i1 _ l.1
    have h2 := b_csub h b0 bU w2.1 w2.2 _ l.2
    have r1 := h.hr _ _ h1
    have r2 := h.hr _ _ h2
    refine bsh_t (v := S.lf b i) (w := S.li b i) h hq r1.2.2.1 r1.2.2.2 r2.2.2.1 r2.2.2.2 (fun e => ?_) (hD.lk b i b0 bU i0 i1) (Or.inl (h.tt b _ _ h1 h2))
    have l2 := l.2
    rw [← e] at l2
    have := b_rd h b0 bU i0 i1 w2.1 w2.2 l.1 l2
    unfold wr at this; split at this <;> omega
  · have r1 := h.hr _ _ hv
    have r2 := h.hr _ _ hw
    show (q v - q w) % 2 = 0
    rw [same v w (h.tt x v w hv hw) r1.2.2.1 r1.2.2.2 r2.2.2.1 r2.2.2.2]
    exact hD.pa x v w hv hw
  · have := hD.t0; omega
  · have z := hD.tm v v0 v1
    show q v ≤ t + d
    rw [hq.v v v0 v1]
    rcases bsg_cases (S.mr (S.top v)) with ⟨k, e⟩ | ⟨k, e⟩ | ⟨k, k2, e⟩ <;> rw [e] <;> omega
  · have z := hD.tf v v0 v1 hf
    have k := (b_free h hN hT v0 v1 hf).2
    show q v = t + d
    rw [hq.v v v0 v1, k, z]
    show t + 1 * d = t + d
    omega
  · have z := hP v v0 v1 hm
    show (q v - (t + d)) % 2 = 0
    rw [hq.v v v0 v1]
    rcases bsg_cases (S.mr (S.top v)) with ⟨k, e⟩ | ⟨k, e⟩ | ⟨k, k2, e⟩ <;> rw [e]
    · omega
    · omega
    · have hm : S.mr (S.top v) ≠ 0 := hm
      exact absurd (hT.idl v v0 v1 k k2).1 hm
