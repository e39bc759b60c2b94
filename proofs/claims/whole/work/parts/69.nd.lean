/-! PURE: what the prices prove at the end; the beginning of a phase -/
noncomputable def bme (S : bS) : Nat → Nat → Bool := fun k i => @decide (S.H (20 + (k : Int)) (i : Int)) (Classical.propDecidable _)
noncomputable def bzk (S : bS) : Nat → Int := fun k => @ite Int (bU S (20 + (k : Int))) (Classical.propDecidable _) (S.p (20 + (k : Int))) 0
theorem bme_t {S : bS} {k i : Nat} : bme S k i = true ↔ S.H (20 + (k : Int)) (i : Int) := by
  classical
  unfold bme; exact decide_eq_true_iff
theorem bz_mt {S : bS} (v w : Nat) : mt_z (bme S) (bzk S) 10 v w = bZ S v w := by
  classical
  unfold mt_z bZ
  refine mt_s_congr (fun k hk => ?_)
  have e1 := bme_t (S := S) (k := k) (i := v)
  have e2 := bme_t (S := S) (k := k) (i := w)
  by_cases c : S.H (20 + (k : Int)) (v : Int) ∧ S.H (20 + (k : Int)) (w : Int)
  · rw [if_pos c, e1.mpr c.1, e2.mpr c.2]
    unfold bzk
    rw [if_pos ⟨_, c.1⟩]
    show S.p (20 + (k : Int)) * 1 = _
    omega
  · rw [if_neg c]
    have : (bme S k v && bme S k w) = false := by
      cases z1 : bme S k v
      · rfl
      · cases z2 : bme S k w
        · rfl
        · exact absurd ⟨e1.mp z1, e2.mp z2⟩ c
    rw [this]
    show _ * 0 = _
    omega
/-- a blossom's ones but its base are matched within it -/
theorem b_in {S : bS} (h : bStr S) (hN : bNd S) (hM : bMat S) (hall : ∀ v, 0 ≤ v → v < S.n → S.mate v ≠ -1) {k : Nat} (hU : bU S (20 + (k : Int))) : mt_in (bme S) S.n.toNat (fun i => (S.mate (i : Int)).toNat) k = mt_sz (bme S) S.n.toNat k - 1 ∧ ∃ r : Int, mt_sz (bme S) S.n.toNat k = 2 * r + 1 := by
  classical
  have n0 := h.n0
  have hb := b_base h _ hU (bNd_ok hN _)
  have rb := h.hr _ _ hb
  generalize hx : S.base (20 + (k : Int)) = x at *
  have mr : ∀ i : Nat, i < S.n.toNat → 0 ≤ S.mate (i : Int) ∧ S.mate (i : Int) < S.n ∧ S.mate (i : Int) ≠ i ∧ S.mate (S.mate (i : Int)) = i := fun i hi => by
    rcases hM i (by omega) (by omega) with z | ⟨a1, a2, a3, a4, -⟩
    · exact absurd z (hall i (by omega) (by omega))
    · exact ⟨a1, a2, a3, a4⟩
  have key : ∀ i : Nat, i < S.n.toNat → ((bme S k i && bme S k ((S.mate (i : Int)).toNat)) = true ↔ S.H (20 + (k : Int)) i ∧ (i : Int) ≠ x) := fun i hi => by
    rw [Bool.and_eq_true, bme_t, bme_t]
    obtain ⟨a1, a2, a3, a4⟩ := mr i hi
    rw [show (((S.mate (i : Int)).toNat : Nat) : Int) = S.mate (i : Int) by omega]
    refine ⟨fun ⟨z1, z2⟩ => ⟨z1, fun e => ?_⟩, fun ⟨z1, z2⟩ => ⟨z1, (b_win h hN z1 (by rw [hx]; exact z2)).1⟩⟩
    have y := b_win h hN z2 (by rw [hx, ← e]; exact a3)
    rw [hx] at y
    exact y.2.2.2 (by rw [a4]; exact e)
  have e1 : mt_in (bme S) S.n.toNat (fun i => (S.mate (i : Int)).toNat) k = mt_sz (bme S) S.n.toNat k - 1 := by
    have z := mt_s_one (f := fun i => mt_b (bme S k i && bme S k ((S.mate (i : Int)).toNat))) (g := fun i => mt_b (bme S k i)) (j := x.toNat) (n := S.n.toNat) (by omega) (fun i hi ne => by
      have q := key i hi
      have e := bme_t (S := S) (k := k) (i := i)
      by_cases c : S.H (20 + (k : Int)) (i : Int)
      · rw [q.mpr ⟨c, by omega⟩, e.mpr c]
      · have e2 : bme S k i = false := by
          cases z : bme S k i
          · rfl
          · exact absurd (e.mp z) c
        rw [e2]; rfl)
    have q := key x.toNat (by omega)
    have e := bme_t (S := S) (k := k) (i := x.toNat)
    rw [show ((x.toNat : Nat) : Int) = x by omega] at q e z
    rw [e.mpr hb] at z q
    have q2 : (true && bme S k (S.mate x).toNat) = false := by
      cases y : (true && bme S k (S.mate x).toNat)
      · rfl
      · exact absurd rfl (q.mp y).2
    rw [q2] at z
    unfold mt_in mt_sz
    rw [z]
    show _ + ((0 : Int) - 1) = _
    omega
  refine ⟨e1, ?_⟩
  obtain ⟨r, hr⟩ := mt_in_even (mem := bme S) (n := S.n.toNat) (q := fun i => (S.mate (i : Int)).toNat) (fun i hi => by
    obtain ⟨a1, a2, a3, a4⟩ := mr i hi
    refine ⟨show (S.mate (i : Int)).toNat < _ by omega, show (S.mate (i : Int)).toNat ≠ _ by omega, ?_⟩
    show (S.mate (((S.mate (i : Int)).toNat : Nat) : Int)).toNat = i
    rw [show (((S.mate (i : Int)).toNat : Nat) : Int) = S.mate (i : Int) by omega, a4]
    omega) k
  exact ⟨r, by omega⟩
theorem b_pm {S : bS} (hM : bMat S) (hall : ∀ v, 0 ≤ v → v < S.n → S.mate v ≠ -1) : mt_pm S.n.toNat (fun i => (S.mate (i : Int)).toNat) := fun i hi => by
  rcases hM i (by omega) (by omega) with z | ⟨a1, a2, a3, a4, -⟩
  · exact absurd z (hall i (by omega) (by omega))
  · refine ⟨show (S.mate (i : Int)).toNat < _ by omega, show (S.mate (i : Int)).toNat ≠ _ by omega, ?_⟩
    show (S.mate (((S.mate (i : Int)).toNat : Nat) : Int)).toNat = i
    rw [show (((S.mate (i : Int)).toNat : Nat) : Int) = S.mate (i : Int) by omega, a4]
    omega
/-- the matching is a least one, and costs what the prices say -/
theorem b_least {S : bS} {t : Int} (h : bStr S) (hN : bNd S) (hM : bMat S) (hD : bDu S t) (hall : ∀ v, 0 ≤ v → v < S.n → S.mate v ≠ -1) : (∀ q, mt_pm S.n.toNat q → mt_s (fun i => S.C i ((S.mate (i : Int)).toNat : Nat)) S.n.toNat ≤ mt_s (fun i => S.C i (q i)) S.n.toNat) ∧ mt_s (fun i => S.C i ((S.mate (i : Int)).toNat : Nat)) S.n.toNat = 2 * mt_s (fun i => S.p i) S.n.toNat - mt_s (fun k => bzk S k * (mt_sz (bme S) S.n.toNat k - 1)) 10 := by
  classical
  have n0 := h.n0
  have bu : ∀ k, bzk S k ≠ 0 → bU S (20 + (k : Int)) := fun k hk => by
    by_cases c : bU S (20 + (k : Int))
    · exact c
    · unfold bzk at hk; rw [if_neg c] at hk; exact absurd rfl hk
  have hz : ∀ k, k < 10 → 0 ≤ bzk S k := fun k _ => by
    unfold bzk
    split
    · rename_i c; exact (hD.z0 _ (by omega) c).1
    · omega
  have tg := mt_tight (c := fun i j => S.C i j) (u := fun i => S.p i) (z := bzk S) (mem := bme S) (K := 10) (b_pm hM hall) (fun k _ hk => (b_in h hN hM hall (bu k hk)).1) (fun a ha => by
    rw [bz_mt]
    rcases hM a (by omega) (by omega) with z | ⟨a1, a2, a3, a4, a5⟩
    · exact absurd z (hall a (by omega) (by omega))
    · unfold bsl at a5
      show S.C a ((S.mate (a : Int)).toNat : Nat) = S.p a + S.p ((S.mate (a : Int)).toNat : Nat) - bZ S a ((S.mate (a : Int)).toNat : Nat)
      rw [show (((S.mate (a : Int)).toNat : Nat) : Int) = S.mate (a : Int) by omega]
      omega)
  refine ⟨fun q hq => ?_, tg⟩
  have du := mt_dual (c := fun i j => S.C i j) (u := fun i => S.p i) (z := bzk S) (mem := bme S) (K := 10) hq hz (fun k _ hk => (b_in h hN hM hall (bu k hk)).2) (fun a b ha hb hab => by
    rw [bz_mt]
    have z := hD.sl a b (by omega) (by omega) (by omega) (by omega) (by omega)
    unfold bsl at z
    show S.p a + S.p b - bZ S a b ≤ S.C a b
    omega)
  exact Int.le_trans (Int.le_of_eq tg) du
/-- the roots alone are marked -/
def bRt (S : bS) : Prop := ∀ v, 0 ≤ v → v < S.n → S.mr (S.top v) = if S.mate (S.base (S.top v)) = -1 then 1 else 0
theorem b_start {S : bS} {t : Int} (h : bStr S) (hN : bNd S) (hM : bMat S) (hD : bDu S t) (hR : bRt S) : bTree S (fun _ => 0) ∧ bPar S t := by
  refine ⟨⟨fun v v0 v1 hm hne => ?_, fun v v0 v1 hm => ?_, fun v v0 v1 hm1 hm2 => ?_⟩, fun v v0 v1 hm => ?_⟩
  · rw [hR v v0 v1, if_neg hne] at hm; omega
  · rw [hR v v0 v1] at hm
    split at hm <;> omega
  · have e := hR v v0 v1
    by_cases c : S.mate (S.base (S.top v)) = -1
    · rw [if_pos c] at e; exact absurd e hm1
    · rw [if_neg c] at e
      obtain ⟨m0, m1, m2, m3, m4⟩ := b_mt h hN hM v0 v1 c
      have e2 := hR _ m0 m1
      have r := (b_bt h hN v0 v1).2.1
      rw [m3, m4, if_neg (by omega)] at e2
      exact ⟨e, c, e2⟩
  · rw [hR v v0 v1] at hm
    by_cases c : S.mate (S.base (S.top v)) = -1
    · obtain ⟨w1, w2, w3, w4⟩ := b_bt h hN v0 v1
      have z := hD.tf _ w2 w3 c
      have y := hD.pa _ v _ (h.th v v0 v1) w1
      omega
    · rw [if_neg c] at hm; exact absurd rfl hm
