/-! PURE: an idle node and its mate join a tree -/
/-- how many lie in outer nodes -/
noncomputable def bno (S : bS) : Int := mt_s (fun k => if S.mr (S.top (k : Int)) = 1 then 1 else 0) S.n.toNat
/-- how many blossoms -/
noncomputable def bnb (S : bS) : Int := mt_s (fun k => @ite Int (bU S (20 + (k : Int))) (Classical.propDecidable _) 1 0) 10
theorem bno_lt {S S2 : bS} (en : S2.n = S.n) {u : Int} (u0 : 0 ≤ u) (u1 : u < S.n) (hu : S.mr (S.top u) ≠ 1) (hu2 : S2.mr (S2.top u) = 1) (hk : ∀ v, 0 ≤ v → v < S.n → S.mr (S.top v) = 1 → S2.mr (S2.top v) = 1) : bno S + 1 ≤ bno S2 := by
  classical
  have hh : mt_s (fun k => (if S.mr (S.top (k : Int)) = 1 then (1 : Int) else 0) + (if k = u.toNat then 1 else 0)) S.n.toNat ≤ mt_s (fun k => if S2.mr (S2.top (k : Int)) = 1 then (1 : Int) else 0) S.n.toNat := by
    refine mt_s_le (fun k hk2 => ?_)
    by_cases c : k = u.toNat
    · have e : ((k : Nat) : Int) = u := by omega
      rw [e, if_neg hu, if_pos c, if_pos hu2]; omega
    · rw [if_neg c]
      by_cases c3 : S.mr (S.top (k : Int)) = 1
      · rw [if_pos c3, if_pos (hk _ (by omega) (by omega) c3)]; omega
      · rw [if_neg c3]; split <;> omega
  rw [mt_s_add, b_one (by omega)] at hh
  unfold bno
  rw [en]
  exact hh
theorem bno_le {S S2 : bS} (en : S2.n = S.n) (hk : ∀ v, 0 ≤ v → v < S.n → S.mr (S.top v) = 1 → S2.mr (S2.top v) = 1) : bno S ≤ bno S2 := by
  classical
  unfold bno
  rw [en]
  refine mt_s_le (fun k hk2 => ?_)
  by_cases c3 : S.mr (S.top (k : Int)) = 1
  · rw [if_pos c3, if_pos (hk _ (by omega) (by omega) c3)]; omega
  · rw [if_neg c3]; split <;> omega
theorem bno_20 {S : bS} (h : bStr S) : 0 ≤ bno S ∧ bno S ≤ 20 := by
  classical
  have n0 := h.n0
  have a : mt_s (fun _ => 0) S.n.toNat ≤ bno S := mt_s_le (fun k hk => by split <;> omega)
  have b : bno S ≤ mt_s (fun _ => 1) S.n.toNat := mt_s_le (fun k hk => by split <;> omega)
  have c : ∀ q : Nat, mt_s (fun _ => 1) q = q := fun q => by
    induction q with
    | zero => rfl
    | succ q ih => show mt_s _ q + 1 = _; rw [ih]; omega
  rw [mt_s_zero] at a
  rw [c] at b
  omega
theorem bnb_10 {S : bS} : 0 ≤ bnb S ∧ bnb S ≤ 10 := by
  classical
  have a : mt_s (fun _ => 0) 10 ≤ bnb S := mt_s_le (fun k hk => by split <;> omega)
  have b : bnb S ≤ mt_s (fun _ => 1) 10 := mt_s_le (fun k hk => by split <;> omega)
  have c : mt_s (fun _ => 1) 10 = 10 := rfl
  rw [mt_s_zero] at a
  rw [c] at b
  omega
/-- the steps that a phase may still take -/
noncomputable def bpt (S : bS) : Int := 2 * (20 - bno S) + bnb S
def bax (S : bS) (a b : Int) : bS := (⟨S.n, S.C, S.p, S.mate, S.top, S.base, bup (bup S.mr (S.top b) 2) (S.top (S.mate (S.base (S.top b)))) 1, bup S.fr (S.top b) a, bup S.io (S.top b) b, S.H, S.rs, S.rb, S.rg, S.lf, S.li⟩ : bS)
theorem bax_str {S : bS} (h : bStr S) (a b : Int) : bStr (bax S a b) := ⟨h.n0, h.hr, h.hs, h.rm, h.rc, h.rh, h.rd, h.lk, h.th, h.tt, h.lm⟩
theorem b_annex {S : bS} {rk : Int → Int} {t a b : Int} (h : bStr S) (hN : bNd S) (hM : bMat S) (hT : bTree S rk) (hD : bDu S t) (hP : bPar S t) (a0 : 0 ≤ a) (a1 : a < S.n) (b0 : 0 ≤ b) (b1 : b < S.n) (ha : S.mr (S.top a) = 1) (hb1 : S.mr (S.top b) ≠ 1) (hb2 : S.mr (S.top b) ≠ 2) (hs : bsl S a b = 0) : ∃ rk2, bTree (bax S a b) rk2 ∧ bPar (bax S a b) t ∧ bpt (bax S a b) + 1 ≤ bpt S := by
  obtain ⟨i1, i2, i3⟩ := hT.idl b b0 b1 hb1 hb2
  obtain ⟨m0, m1, m2, m3, m4⟩ := b_mt h hN hM b0 b1 i2
  obtain ⟨w1, w2, w3, w4⟩ := b_bt h hN b0 b1
  generalize hx : S.top b = x at *
  generalize hu : S.mate (S.base x) = u at *
  generalize hy : S.top u = y at *
  have nab : a ≠ b := fun e => by rw [e, hx] at ha; exact hb1 ha
  have em : ∀ z, z ≠ x → z ≠ y → (bax S a b).mr z = S.mr z := fun z z1 z2 => by
    show bup (bup S.mr (S.top b) 2) (S.top (S.mate (S.base (S.top b)))) 1 z = S.mr z
    rw [hx, hu, hy, bup_n z2, bup_n z1]
  have ex : (bax S a b).mr x = 2 := by
    show bup (bup S.mr (S.top b) 2) (S.top (S.mate (S.base (S.top b)))) 1 x = 2
    rw [hx, hu, hy, bup_n (fun e => m2 e.symm), bup_e]
  have ey : (bax S a b).mr y = 1 := by
    show bup (bup S.mr (S.top b) 2) (S.top (S.mate (S.base (S.top b)))) 1 y = 1
    rw [hx, hu, hy, bup_e]
  have ef : (bax S a b).fr x = a := by
    show bup S.fr (S.top b) a x = a
    rw [hx, bup_e]
  have ei : (bax S a b).io x = b := by
    show bup S.io (S.top b) b x = b
    rw [hx, bup_e]
  have ef2 : ∀ z, z ≠ x → (bax S a b).fr z = S.fr z := fun z z1 => by
    show bup S.fr (S.top b) a z = S.fr z
    rw [hx, bup_n z1]
  have ei2 : ∀ z, z ≠ x → (bax S a b).io z = S.io z := fun z z1 => by
    show bup S.io (S.top b) b z = S.io z
    rw [hx, bup_n z1]
  have nax : S.top a ≠ x := fun e => by rw [e] at ha; exact hb1 ha
  have nay : S.top a ≠ y := fun e => by rw [e, i3] at ha; omega
  -- the mates of others
  have mo : ∀ v, 0 ≤ v → v < S.n → S.top v ≠ x → S.top v ≠ y → S.mate (S.base (S.top v)) ≠ -1 → S.top (S.mate (S.base (S.top v))) ≠ x ∧ S.top (S.mate (S.base (S.top v))) ≠ y := fun v v0 v1 n1 n2 ne => by
    obtain ⟨q0, q1, q2, q3, q4⟩ := b_mt h hN hM v0 v1 ne
    have q5 := (b_bt h hN v0 v1).2.2.2
    refine ⟨fun e => ?_, fun e => ?_⟩
    · rw [e] at q3
      rw [← q3, hu] at q4
      rw [← q4, hy] at q5
      exact n2 q5.symm
    · rw [e, m3] at q3
      rw [← q3, m4] at q4
      rw [← q4, w4] at q5
      exact n1 q5.symm
  have myx : S.mate (S.base y) = S.base x := by rw [m3, m4]
  refine ⟨fun z => if z = x then rk (S.top a) + 1 else if z = y then rk (S.top a) + 2 else rk z, ⟨fun v v0 v1 hm hne => ?_, fun v v0 v1 hm => ?_, fun v v0 v1 hm1 hm2 => ?_⟩, fun v v0 v1 hm => ?_, ?_⟩
  · have hm : (bax S a b).mr (S.top v) = 1 := hm
    have hne : S.mate (S.base (S.top v)) ≠ -1 := hne
    show (bax S a b).mr (S.top (S.mate (S.base (S.top v)))) = 2 ∧ (if S.top (S.mate (S.base (S.top v))) = x then rk (S.top a) + 1 else if S.top (S.mate (S.base (S.top v))) = y then rk (S.top a) + 2 else rk (S.top (S.mate (S.base (S.top v))))) < (if S.top v = x then rk (S.top a) + 1 else if S.top v = y then rk (S.top a) + 2 else rk (S.top v))
    by_cases c1 : S.top v = x
    · rw [c1, ex] at hm; omega
    · by_cases c2 : S.top v = y
      · rw [c2, myx, w4, ex, if_pos rfl, if_neg m2, if_pos rfl]
        exact ⟨rfl, by omega⟩
      · obtain ⟨n1, n2⟩ := mo v v0 v1 c1 c2 hne
        rw [em _ c1 c2] at hm
        obtain ⟨z1, z2⟩ := hT.out v v0 v1 hm hne
        rw [em _ n1 n2, if_neg n1, if_neg n2, if_neg c1, if_neg c2]
        exact ⟨z1, z2⟩
  · have hm : (bax S a b).mr (S.top v) = 2 := hm
    show S.mate (S.base (S.top v)) ≠ -1 ∧ (bax S a b).mr (S.top (S.mate (S.base (S.top v)))) = 1 ∧ S.H (S.top v) ((bax S a b).io (S.top v)) ∧ 0 ≤ (bax S a b).fr (S.top v) ∧ (bax S a b).fr (S.top v) < S.n ∧ (bax S a b).mr (S.top ((bax S a b).fr (S.top v))) = 1 ∧ (if S.top ((bax S a b).fr (S.top v)) = x then rk (S.top a) + 1 else if S.top ((bax S a b).fr (S.top v)) = y then rk (S.top a) + 2 else rk (S.top ((bax S a b).fr (S.top v)))) < (if S.top v = x then rk (S.top a) + 1 else if S.top v = y then rk (S.top a) + 2 else rk (S.top v)) ∧ bsl S ((bax S a b).fr (S.top v)) ((bax S a b).io (S.top v)) = 0
    by_cases c1 : S.top v = x
    · rw [c1, hu, hy, ey, ei, ef, em _ nax nay, if_neg nax, if_neg nay, if_pos rfl]
      exact ⟨i2, rfl, by rw [← hx]; exact h.th b b0 b1, a0, a1, ha, by omega, hs⟩
    · by_cases c2 : S.top v = y
      · rw [c2, ey] at hm; omega
      · rw [em _ c1 c2] at hm
        obtain ⟨z1, z2, z3, z4, z5, z6, z7, z8⟩ := hT.inn v v0 v1 hm
        obtain ⟨n1, n2⟩ := mo v v0 v1 c1 c2 z1
        have f1 : S.top (S.fr (S.top v)) ≠ x := fun e => by rw [e] at z6; exact hb1 z6
        have f2 : S.top (S.fr (S.top v)) ≠ y := fun e => by rw [e, i3] at z6; omega
        rw [ef2 _ c1, ei2 _ c1, em _ n1 n2, em _ f1 f2, if_neg f1, if_neg f2, if_neg c1, if_neg c2]
        exact ⟨z1, z2, z3, z4, z5, z6, z7, z8⟩
  · have hm1 : (bax S a b).mr (S.top v) ≠ 1 := hm1
    have hm2 : (bax S a b).mr (S.top v) ≠ 2 := hm2
    show (bax S a b).mr (S.top v) = 0 ∧ S.mate (S.base (S.top v)) ≠ -1 ∧ (bax S a b).mr (S.top (S.mate (S.base (S.top v)))) = 0
    have c1 : S.top v ≠ x := fun e => hm2 (by rw [e]; exact ex)
    have c2 : S.top v ≠ y := fun e => hm1 (by rw [e]; exact ey)
    rw [em _ c1 c2] at hm1 hm2 ⊢
    obtain ⟨z1, z2, z3⟩ := hT.idl v v0 v1 hm1 hm2
    obtain ⟨n1, n2⟩ := mo v v0 v1 c1 c2 z2
    rw [em _ n1 n2]
    exact ⟨z1, z2, z3⟩
  · have hm : (bax S a b).mr (S.top v) ≠ 0 := hm
    show (S.p v - t) % 2 = 0
    have pa := hP a a0 a1 (by rw [ha]; decide)
    have pb := b_tpar hD a0 a1 b0 b1 nab hs
    by_cases c1 : S.top v = x
    · have z := hD.pa x v b (by rw [← c1]; exact h.th v v0 v1) (by rw [← hx]; exact h.th b b0 b1)
      omega
    · by_cases c2 : S.top v = y
      · have z := hD.pa x (S.base x) b w1 (by rw [← hx]; exact h.th b b0 b1)
        have z2 := hD.pa y v u (by rw [← c2]; exact h.th v v0 v1) (by rw [← hy]; exact h.th u m0 m1)
        rcases hM _ w2 w3 with q | ⟨q0, q1, q2, q3, q4⟩
        · rw [hu] at q; exact absurd q i2
        · rw [hu] at q4 q2
          have z3 := b_tpar hD w2 w3 m0 m1 (fun e => q2 e.symm) q4
          omega
      · rw [em _ c1 c2] at hm
        exact hP v v0 v1 hm
  · have z := bno_lt (S := S) (S2 := bax S a b) rfl m0 m1 (by rw [hy, i3]; decide) (by show (bax S a b).mr (S.top u) = 1; rw [hy]; exact ey) (fun v v0 v1 hv => by
      show (bax S a b).mr (S.top v) = 1
      by_cases c2 : S.top v = y
      · rw [c2]; exact ey
      · rw [em _ (fun e => hb1 (by rw [← e]; exact hv)) c2]; exact hv)
    have e : bnb (bax S a b) = bnb S := rfl
    unfold bpt
    rw [e]
    omega
