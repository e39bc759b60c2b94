/-! PURE: a ring becomes a blossom: marks, prices, how many -/
noncomputable def bnt (S : bS) : Int := mt_s (fun k => @ite Int (bTp S (k : Int)) (Classical.propDecidable _) 1 0) 30
noncomputable def bcr (S : bS) : Int := mt_s (fun k => @ite Int (bU S (20 + (k : Int))) (Classical.propDecidable _) (S.rs (20 + (k : Int)) - 1) 0) 10
/-- each ring makes one of its nodes -/
def bCnt (S : bS) : Prop := bcr S + bnt S = S.n
theorem b_img {N : Nat} {f : Int → Int} : ∀ m : Nat, (∀ i, 0 ≤ i → i < (m : Int) → 0 ≤ f i ∧ f i < N) → (∀ i j, 0 ≤ i → i < j → j < (m : Int) → f i ≠ f j) → ∀ [D : ∀ k : Nat, Decidable (∃ i, 0 ≤ i ∧ i < (m : Int) ∧ f i = (k : Int))], mt_s (fun k => if ∃ i, 0 ≤ i ∧ i < (m : Int) ∧ f i = (k : Int) then (1 : Int) else 0) N = m
  | 0, _, _, D => by
    rw [mt_s_congr (g := fun _ => 0) (fun k _ => if_neg (fun ⟨i, i0, i1, _⟩ => by omega)), mt_s_zero]; rfl
  | m + 1, hr, hi, D => by
    classical
    have ih := b_img (N := N) (f := f) m (fun i i0 i1 => hr i i0 (by omega)) (fun i j i0 ij j1 => hi i j i0 ij (by omega))
    have r := hr m (by omega) (by omega)
    have e := mt_s_one (f := fun k => if ∃ i, 0 ≤ i ∧ i < ((m + 1 : Nat) : Int) ∧ f i = (k : Int) then (1 : Int) else 0) (g := fun k => if ∃ i, 0 ≤ i ∧ i < (m : Int) ∧ f i = (k : Int) then (1 : Int) else 0) (j := (f m).toNat) (n := N) (by omega) (fun k hk ne => by
      by_cases c : ∃ i, 0 ≤ i ∧ i < (m : Int) ∧ f i = (k : Int)
      · obtain ⟨i, i0, i1, z⟩ := c
        rw [if_pos (c := ∃ i, 0 ≤ i ∧ i < (m : Int) ∧ f i = (k : Int)) ⟨i, i0, i1, z⟩, if_pos ⟨i, i0, by omega, z⟩]
      · have nn : ¬ ∃ i, 0 ≤ i ∧ i < ((m + 1 : Nat) : Int) ∧ f i = (k : Int) := fun ⟨i, i0, i1, z⟩ => by
          by_cases ci : i = m
          · rw [ci] at z; omega
          · exact c ⟨i, i0, by omega, z⟩
        rw [if_neg c, if_neg nn])
    rw [e, ih]
    have ek : (((f m).toNat : Nat) : Int) = f m := by omega
    rw [if_pos ⟨(m : Int), by omega, by omega, ek.symm⟩, if_neg (fun ⟨i, i0, i1, z⟩ => hi i m i0 i1 (by omega) (z.trans ek))]
    omega
theorem bnt_1 {S : bS} (h : bStr S) (n1 : 1 ≤ S.n) : 1 ≤ bnt S := by
  classical
  have t := b_top0 h (v := 0) (by omega) (by omega)
  have hh : mt_s (fun k => if k = (S.top 0).toNat then (1 : Int) else 0) 30 ≤ bnt S := by
    refine mt_s_le (fun k hk => ?_)
    by_cases c : k = (S.top 0).toNat
    · rw [if_pos c, if_pos ⟨0, by omega, by omega, by omega⟩]; omega
    · rw [if_neg c]; split <;> omega
  rw [b_one (by omega)] at hh
  exact hh
/-- one blossom's place is free -/
theorem b_unused {S : bS} (h : bStr S) (hC : bCnt S) (n1 : 1 ≤ S.n) : ∃ x, 20 ≤ x ∧ x < 30 ∧ ¬ bU S x := by
  classical
  by_cases c : ∃ x, 20 ≤ x ∧ x < 30 ∧ ¬ bU S x
  · exact c
  · exfalso
    have hh : mt_s (fun _ => 2) 10 ≤ bcr S := by
      refine mt_s_le (fun k hk => ?_)
      have hu : bU S (20 + (k : Int)) := by
        by_cases z : bU S (20 + (k : Int))
        · exact z
        · exact absurd ⟨20 + (k : Int), by omega, by omega, z⟩ c
      rw [if_pos hu]
      have := h.rm _ (by omega) hu
      omega
    have e : mt_s (fun _ => 2) 10 = 20 := rfl
    have a := bnt_1 h n1
    have n0 := h.n0
    unfold bCnt at hC
    omega
theorem b_enclose {S S2 : bS} {rk : Int → Int} {x m t : Int} {g f o : Int → Int} (h : bStr S) (hN : bNd S) (hM : bMat S) (hT : bTree S rk) (hD : bDu S t) (hP : bPar S t) (hc : bCy S rk m g f o) (x0 : 20 ≤ x) (x1 : x < 30) (hx : ¬ bU S x) (hE : bEn S S2 x m g f o) : bMat S2 ∧ (∃ rk2, bTree S2 rk2) ∧ bDu S2 t ∧ bPar S2 t ∧ bpt S2 + 1 ≤ bpt S := by
  obtain ⟨h2, F1, U2⟩ := b_enstr h hc x0 x1 hx hE
  have n0 := h.n0
  have m3 := hc.m3
  have hne : ∀ y, bU S y → y ≠ x := fun y hy e => hx (by rw [← e]; exact hy)
  have gt : ∀ i v, 0 ≤ i → i < m → S.H (g i) v → S.top v = g i := fun i v i0 i1 hv => by
    obtain ⟨u, u0, u1, e⟩ := hc.tp i i0 i1
    rw [← e] at hv ⊢
    exact b_ttop h u0 u1 hv
  have tne : ∀ v, 0 ≤ v → v < S.n → S.top v ≠ x := fun v v0 v1 => hne _ ⟨v, h.th v v0 v1⟩
  have T1 : ∀ v, 0 ≤ v → v < S.n → (∃ i, 0 ≤ i ∧ i < m ∧ g i = S.top v) → S2.top v = x := fun v v0 v1 z => hE.t1 v v0 v1 ((F1 v v0 v1).mpr z)
  have T2 : ∀ v, 0 ≤ v → v < S.n → ¬ (∃ i, 0 ≤ i ∧ i < m ∧ g i = S.top v) → S2.top v = S.top v := fun v v0 v1 z => hE.t2 v v0 v1 (fun q => z ((F1 v v0 v1).mp q))
  have M2 : ∀ v, 0 ≤ v → v < S.n → S2.mr (S.top v) = S.mr (S.top v) := fun v v0 v1 => hE.my _ (tne v v0 v1)
  have sl : ∀ v w, v < S.n → w < S.n → bsl S2 v w = bsl S v w := fun v w v1 w1 => b_ensl h hx hE x0 v1 w1
  have cl : ∀ i, 1 ≤ i → i < m → ∃ j, 0 ≤ j ∧ j < m ∧ S.top (S.mate (S.base (g i))) = g j := fun i i0 i1 => by
    by_cases odd : i % 2 = 1
    · obtain ⟨e1, e2, e3, e4⟩ := hc.lb i i0 (by omega) odd
      have l := hc.lk i (by omega) i1
      have ew : wr m (i + 1) = i + 1 := by unfold wr; split <;> omega
      rw [ew] at l
      exact ⟨i + 1, by omega, by omega, by rw [e1, e3]; exact gt _ _ (by omega) (by omega) l.2.1⟩
    · obtain ⟨e1, e2, e3, e4⟩ := hc.lb (i - 1) (by omega) (by omega) (by omega)
      have l := hc.lk (i - 1) (by omega) (by omega)
      rw [show i - 1 + 1 = i by omega] at e2
      exact ⟨i - 1, by omega, by omega, by rw [e2, e4]; exact gt _ _ (by omega) (by omega) l.1⟩
  have cl2 : ∀ i, 0 ≤ i → i < m → S.mr (g i) = 2 → ∃ j, 0 ≤ j ∧ j < m ∧ S.top (S.mate (S.base (g i))) = g j := fun i i0 i1 hm => cl i (by
    rcases Int.lt_or_le i 1 with z | z
    · rw [show i = 0 by omega, hc.m0] at hm; omega
    · exact z) i1
  have pv : ∀ v, v < S.n → S2.p v = S.p v := fun v v1 => hE.py v (by omega)
  have mt : ∀ v, 0 ≤ v → v < S.n → S.mr (S.top v) = 1 → S2.mr (S2.top v) = 1 := fun v v0 v1 hv => by
    by_cases c : ∃ i, 0 ≤ i ∧ i < m ∧ g i = S.top v
    · rw [T1 v v0 v1 c]; exact hE.mx
    · rw [T2 v v0 v1 c, M2 v v0 v1]; exact hv
  refine ⟨fun v v0 v1 => ?_, ⟨fun y => if y = x then rk (g 0) else rk y, ⟨fun v v0 v1 hm hu => ?_, fun v v0 v1 hm => ?_, fun v v0 v1 hm1 hm2 => ?_⟩⟩, ⟨?_, fun v w v0 v1 w0 w1 ne => ?_, fun b b0 hb => ?_, ?_, fun b i b0 hb i0 i1 => ?_, fun y v w hv hw => ?_, hD.t0, fun v v0 v1 => ?_, fun v v0 v1 hf => ?_⟩, fun v v0 v1 hm => ?_, ?_⟩
  · rw [hE.n] at v1 ⊢
    rw [hE.ma]
    rcases hM v v0 v1 with z | ⟨a1, a2, a3, a4, a5⟩
    · exact Or.inl z
    · exact Or.inr ⟨a1, a2, a3, a4, by rw [sl v _ v1 a2]; exact a5⟩
  · rw [hE.n] at v1
    by_cases c : ∃ i, 0 ≤ i ∧ i < m ∧ g i = S.top v
    · rw [T1 v v0 v1 c, hE.bx, hE.ma] at hu ⊢
      obtain ⟨w, w0, w1, ew⟩ := hc.tp 0 (by omega) (by omega)
      have z := hT.out w w0 w1 (by rw [ew]; exact hc.m0) (by rw [ew]; exact hu)
      have q := b_mt h hN hM w0 w1 (by rw [ew]; exact hu)
      rw [ew] at z q
      have nr := hc.up hu
      dsimp only
      rw [T2 _ q.1 q.2.1 (fun ⟨i, i0, i1, e⟩ => nr i i0 i1 e.symm), M2 _ q.1 q.2.1, if_pos rfl, if_neg (tne _ q.1 q.2.1)]
      exact z
    · rw [T2 v v0 v1 c, hE.by_ _ (tne v v0 v1), hE.ma] at hu ⊢
      rw [T2 v v0 v1 c, M2 v v0 v1] at hm
      have z := hT.out v v0 v1 hm hu
      have q := b_mt h hN hM v0 v1 hu
      dsimp only
      rw [T2 _ q.1 q.2.1 (fun ⟨i, i0, i1, e⟩ => ?_), M2 _ q.1 q.2.1, if_neg (tne _ v0 v1), if_neg (tne _ q.1 q.2.1)]
      · exact z
      · obtain ⟨j, j0, j1, ej⟩ := cl2 i i0 i1 (by rw [e]; exact z.1)
        rw [e, q.2.2.2.1, q.2.2.2.2, (b_bt h hN v0 v1).2.2.2] at ej
        exact c ⟨j, j0, j1, ej.symm⟩
  · rw [hE.n] at v1 ⊢
    by_cases c : ∃ i, 0 ≤ i ∧ i < m ∧ g i = S.top v
    · rw [T1 v v0 v1 c, hE.mx] at hm; omega
    · rw [T2 v v0 v1 c, M2 v v0 v1] at hm
      rw [T2 v v0 v1 c, hE.by_ _ (tne v v0 v1), hE.ma, hE.fr, hE.io]
      obtain ⟨z1, z2, z3, z4, z5, z6, z7, z8⟩ := hT.inn v v0 v1 hm
      have q := b_mt h hN hM v0 v1 z1
      have ri := h.hr _ _ z3
      refine ⟨z1, mt _ q.1 q.2.1 z2, (hE.hy _ _ (tne v v0 v1)).mpr z3, z4, z5, mt _ z4 z5 z6, ?_, by rw [sl _ _ z5 ri.2.2.2]; exact z8⟩
      dsimp only
      rw [if_neg (tne v v0 v1)]
      by_cases c2 : ∃ i, 0 ≤ i ∧ i < m ∧ g i = S.top (S.fr (S.top v))
      · rw [T1 _ z4 z5 c2, if_pos rfl]
        obtain ⟨i, i0, i1, e⟩ := c2
        have := hc.ri i i0 i1
        rw [e] at this
        omega
      · rw [T2 _ z4 z5 c2, if_neg (tne _ z4 z5)]; exact z7
  · rw [hE.n] at v1
    by_cases c : ∃ i, 0 ≤ i ∧ i < m ∧ g i = S.top v
    · rw [T1 v v0 v1 c] at hm1; exact absurd hE.mx hm1
    · rw [T2 v v0 v1 c, M2 v v0 v1] at hm1 hm2
      obtain ⟨z1, z2, z3⟩ := hT.idl v v0 v1 hm1 hm2
      have q := b_mt h hN hM v0 v1 z2
      rw [T2 v v0 v1 c, M2 v v0 v1, hE.by_ _ (tne v v0 v1), hE.ma, T2 _ q.1 q.2.1 (fun ⟨i, i0, i1, e⟩ => by
        have := hc.mi i i0 i1
        rw [e, z3] at this
        omega), M2 _ q.1 q.2.1]
      exact ⟨z1, z2, z3⟩
  · intro v w v0 v1 w0 w1
    rw [hE.n] at v1 w1
    rw [hE.C]; exact hD.sy v w v0 v1 w0 w1
  · rw [hE.n] at v1 w1
    rw [sl v w v1 w1]; exact hD.sl v w v0 v1 w0 w1 ne
  · by_cases c : b = x
    · rw [c, hE.px]; exact ⟨by omega, rfl⟩
    · rw [hE.py b c]; exact hD.z0 b b0 ((U2 b c).mp hb)
  · rw [hE.n, hE.C]; exact hD.ev
  · by_cases c : b = x
    · rw [c, hE.sx] at i1
      have l := hc.lk i i0 i1
      rw [c, (hE.gx i i0 i1).2.1, (hE.gx i i0 i1).2.2, sl _ _ (h.hr _ _ l.1).2.2.2 (h.hr _ _ l.2.1).2.2.2]
      exact l.2.2
    · rw [hE.sy b c] at i1
      have hb := (U2 b c).mp hb
      have l := h.lk b i b0 hb i0 i1
      rw [(hE.gy b i c).2.1, (hE.gy b i c).2.2, sl _ _ (h.hr _ _ l.1).2.2.2 (h.hr _ _ l.2).2.2.2]
      exact hD.lk b i b0 hb i0 i1
  · have r1 := h2.hr y v hv
    have r2 := h2.hr y w hw
    rw [hE.n] at r1 r2
    rw [pv v r1.2.2.2, pv w r2.2.2.2]
    by_cases c : y = x
    · rw [c] at hv hw
      obtain ⟨i, i0, i1, e⟩ := (F1 v r1.2.2.1 r1.2.2.2).mp hv
      obtain ⟨j, j0, j1, e2⟩ := (F1 w r2.2.2.1 r2.2.2.2).mp hw
      have a := hP v r1.2.2.1 r1.2.2.2 (by rw [← e]; have := hc.mi i i0 i1; omega)
      have b := hP w r2.2.2.1 r2.2.2.2 (by rw [← e2]; have := hc.mi j j0 j1; omega)
      omega
    · exact hD.pa y v w ((hE.hy y v c).mp hv) ((hE.hy y w c).mp hw)
  · rw [hE.n] at v1
    rw [pv v v1]; exact hD.tm v v0 v1
  · rw [hE.n] at v1
    rw [hE.ma] at hf
    rw [pv v v1]; exact hD.tf v v0 v1 hf
  · rw [hE.n] at v1
    rw [pv v v1]
    by_cases c : ∃ i, 0 ≤ i ∧ i < m ∧ g i = S.top v
    · obtain ⟨i, i0, i1, e⟩ := c
      exact hP v v0 v1 (by rw [← e]; have := hc.mi i i0 i1; omega)
    · rw [T2 v v0 v1 c, M2 v v0 v1] at hm
      exact hP v v0 v1 hm
  · classical
    obtain ⟨i, i0, i1, hi⟩ := hc.in2
    obtain ⟨u, u0, u1, eu⟩ := hc.tp i i0 i1
    have z := bno_lt (S := S) (S2 := S2) hE.n u0 u1 (by rw [eu, hi]; decide) (by rw [T1 u u0 u1 ⟨i, i0, i1, eu.symm⟩]; exact hE.mx) mt
    have e := mt_s_one (f := fun k => if bU S2 (20 + (k : Int)) then (1 : Int) else 0) (g := fun k => if bU S (20 + (k : Int)) then (1 : Int) else 0) (j := (x - 20).toNat) (n := 10) (by omega) (fun k hk ne => by
      have q := U2 (20 + (k : Int)) (by omega)
      by_cases c : bU S (20 + (k : Int))
      · rw [if_pos c, if_pos (q.mpr c)]
      · rw [if_neg c, if_neg (fun w => c (q.mp w))])
    rw [show 20 + (((x - 20).toNat : Nat) : Int) = x by omega, if_neg hx] at e
    have e2 : bnb S2 ≤ bnb S + 1 := by
      unfold bnb
      rw [e]
      split <;> omega
    unfold bpt
    omega
theorem b_encnt {S S2 : bS} {rk : Int → Int} {x m : Int} {g f o : Int → Int} (h : bStr S) (hc : bCy S rk m g f o) (x0 : 20 ≤ x) (x1 : x < 30) (hx : ¬ bU S x) (hE : bEn S S2 x m g f o) (hC : bCnt S) : bCnt S2 := by
  classical
  obtain ⟨h2, F1, U2⟩ := b_enstr h hc x0 x1 hx hE
  have m3 := hc.m3
  have hne : ∀ y, bU S y → y ≠ x := fun y hy e => hx (by rw [← e]; exact hy)
  have tne : ∀ v, 0 ≤ v → v < S.n → S.top v ≠ x := fun v v0 v1 => hne _ ⟨v, h.th v v0 v1⟩
  have ux : bU S2 x := by
    obtain ⟨u, u0, u1, eu⟩ := hc.tp 0 (by omega) (by omega)
    exact ⟨u, (F1 u u0 u1).mpr ⟨0, by omega, by omega, eu.symm⟩⟩
  have e := mt_s_one (f := fun k => if bU S2 (20 + (k : Int)) then S2.rs (20 + (k : Int)) - 1 else 0) (g := fun k => if bU S (20 + (k : Int)) then S.rs (20 + (k : Int)) - 1 else 0) (j := (x - 20).toNat) (n := 10) (by omega) (fun k hk ne => by
    have q := U2 (20 + (k : Int)) (by omega)
    rw [hE.sy _ (show 20 + (k : Int) ≠ x by omega)]
    by_cases c : bU S (20 + (k : Int))
    · rw [if_pos c, if_pos (q.mpr c)]
    · rw [if_neg c, if_neg (fun w => c (q.mp w))])
  rw [show 20 + (((x - 20).toNat : Nat) : Int) = x by omega, if_neg hx, if_pos ux, hE.sx] at e
  obtain ⟨M, rfl⟩ : ∃ M : Nat, m = M := ⟨m.toNat, by omega⟩
  have gi := b_img (N := 30) (f := g) M (fun i i0 i1 => by
    obtain ⟨v, v0, v1, ev⟩ := hc.tp i i0 i1
    rw [← ev]; exact b_top0 h v0 v1) hc.dj
  have e2 : mt_s (fun k => (if bTp S2 (k : Int) then (1 : Int) else 0) + (if ∃ i, 0 ≤ i ∧ i < (M : Int) ∧ g i = (k : Int) then (1 : Int) else 0)) 30 = mt_s (fun k => (if bTp S (k : Int) then (1 : Int) else 0) + (if k = x.toNat then (1 : Int) else 0)) 30 := by
    refine mt_s_congr (fun k hk => ?_)
    by_cases cx : k = x.toNat
    · have ek : ((k : Nat) : Int) = x := by omega
      obtain ⟨u, u0, u1, eu⟩ := hc.tp 0 (by omega) (by omega)
      rw [ek, if_pos cx, if_pos (c := bTp S2 x) ⟨u, u0, by rw [hE.n]; exact u1, hE.t1 u u0 u1 ((F1 u u0 u1).mpr ⟨0, by omega, by omega, eu.symm⟩)⟩, if_neg (c := bTp S x) (fun ⟨v, v0, v1, ev⟩ => tne v v0 v1 ev), if_neg (fun ⟨i, i0, i1, ei⟩ => by
        obtain ⟨v, v0, v1, ev⟩ := hc.tp i i0 i1
        rw [ei] at ev
        exact tne v v0 v1 ev)]
      omega
    · have nk : ((k : Nat) : Int) ≠ x := by omega
      rw [if_neg cx]
      by_cases cr : ∃ i, 0 ≤ i ∧ i < (M : Int) ∧ g i = (k : Int)
      · rw [if_pos cr, if_pos (c := bTp S (k : Int)) (by
          obtain ⟨i, i0, i1, ei⟩ := cr
          rw [← ei]; exact hc.tp i i0 i1), if_neg (c := bTp S2 (k : Int)) (fun ⟨v, v0, v1, ev⟩ => by
          rw [hE.n] at v1
          by_cases c : S2.H x v
          · rw [hE.t1 v v0 v1 c] at ev; exact nk ev.symm
          · rw [hE.t2 v v0 v1 c] at ev
            rw [← ev] at cr
            exact c ((F1 v v0 v1).mpr cr))]
        omega
      · rw [if_neg cr]
        by_cases ct : bTp S (k : Int)
        · obtain ⟨v, v0, v1, ev⟩ := ct
          rw [if_pos (c := bTp S (k : Int)) ⟨v, v0, v1, ev⟩, if_pos (c := bTp S2 (k : Int)) ⟨v, v0, by rw [hE.n]; exact v1, by
            rw [hE.t2 v v0 v1 (fun z => cr (by rw [← ev]; exact (F1 v v0 v1).mp z))]; exact ev⟩]
        · rw [if_neg ct, if_neg (c := bTp S2 (k : Int)) (fun ⟨v, v0, v1, ev⟩ => by
            rw [hE.n] at v1
            by_cases c : S2.H x v
            · rw [hE.t1 v v0 v1 c] at ev; exact nk ev.symm
            · rw [hE.t2 v v0 v1 c] at ev
              exact ct ⟨v, v0, v1, ev⟩)]
  rw [mt_s_add, mt_s_add, gi, b_one (by omega)] at e2
  unfold bCnt bcr bnt at hC ⊢
  rw [hE.n, e]
  omega
