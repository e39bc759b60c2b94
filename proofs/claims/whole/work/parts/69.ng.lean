/-! PURE: what has been solved is a least matching -/
theorem mt_pm_all {n : Nat} {p : Nat → Nat} : mt_pmS n mt_all p ↔ mt_pm n p := ⟨fun h i hi => by
  have z := h i hi rfl
  exact ⟨z.1, z.2.2.1, z.2.2.2⟩, fun h i hi _ => ⟨(h i hi).1, rfl, (h i hi).2.1, (h i hi).2.2⟩⟩
theorem mt_full {n : Nat} {C : Nat → Nat → Int} {c : Nat → Nat → Int} {q : Nat → Nat} (hq : mt_pm n q) (hc : ∀ i j, i < j → j < n → C i j = 2 * c i j ∧ C j i = 2 * c i j) : mt_s (fun i => C i (q i)) n = 4 * mt_co c n mt_all q := by
  have e : mt_s (fun i => C i (q i)) n = mt_s (fun i => (fun i => if i < q i then 2 * c i (q i) else 0) i + (fun i => if i < q i then 2 * c i (q i) else 0) (q i)) n := by
    refine mt_s_congr (fun i hi => ?_)
    obtain ⟨h1, h2, h3⟩ := hq i hi
    show C i (q i) = (if i < q i then 2 * c i (q i) else 0) + (if q i < q (q i) then 2 * c (q i) (q (q i)) else 0)
    rw [h3]
    rcases Nat.lt_or_ge i (q i) with z | z
    · rw [if_pos z, if_neg (by omega), (hc i (q i) z h1).1]; omega
    · rw [if_neg (by omega), if_pos (by omega), (hc (q i) i (by omega) hi).2]; omega
  rw [e, mt_s_add, mt_perm (fun i => if i < q i then 2 * c i (q i) else 0) n q (mt_pm_inv hq)]
  have e2 : mt_s (fun i => if i < q i then 2 * c i (q i) else 0) n = 2 * mt_co c n mt_all q := by
    unfold mt_co
    rw [← mt_s_mul]
    refine mt_s_congr (fun i hi => ?_)
    by_cases z : i < q i
    · rw [if_pos z, if_pos ⟨rfl, z⟩]
    · rw [if_neg z, if_neg (fun w => z w.2)]; omega
  rw [e2]
  omega
theorem b_opt {S : bS} {t : Int} {c : Nat → Nat → Int} (h : bStr S) (hN : bNd S) (hM : bMat S) (hD : bDu S t) (hall : ∀ v, 0 ≤ v → v < S.n → S.mate v ≠ -1) (hc : ∀ i j : Nat, i < j → (j : Int) < S.n → S.C i j = 2 * c i j ∧ S.C j i = 2 * c i j) : mt_opt c S.n.toNat mt_all (fun i => (S.mate (i : Int)).toNat) ∧ 2 * mt_s (fun i => S.p i) S.n.toNat - mt_s (fun k => bzk S k * (mt_sz (bme S) S.n.toNat k - 1)) 10 = 4 * mt_co c S.n.toNat mt_all (fun i => (S.mate (i : Int)).toNat) := by
  obtain ⟨l1, l2⟩ := b_least h hN hM hD hall
  have pm := b_pm hM hall
  have hc' : ∀ i j : Nat, i < j → j < S.n.toNat → (fun a b : Nat => S.C a b) i j = 2 * c i j ∧ (fun a b : Nat => S.C a b) j i = 2 * c i j := fun i j ij jn => hc i j ij (by omega)
  have f := mt_full (C := fun a b : Nat => S.C a b) pm hc'
  refine ⟨⟨mt_pm_all.mpr pm, fun q hq => ?_⟩, by rw [← l2]; exact f⟩
  have hq := mt_pm_all.mp hq
  have g := mt_full (C := fun a b : Nat => S.C a b) hq hc'
  have z := l1 q hq
  have z2 : mt_s (fun i => S.C i ((S.mate (i : Int)).toNat : Nat)) S.n.toNat = 4 * mt_co c S.n.toNat mt_all (fun i => (S.mate (i : Int)).toNat) := f
  have z3 : mt_s (fun i => S.C i (q i)) S.n.toNat = 4 * mt_co c S.n.toNat mt_all q := g
  rw [z2, z3] at z
  omega
/-- the count of a blossom's ones, over all 20 -/
theorem b_sz {S : bS} (h : bStr S) (k : Nat) : mt_sz (bme S) S.n.toNat k = bsz S (20 + (k : Int)) := by
  classical
  have n0 := h.n0
  unfold mt_sz bsz
  have e : ∀ i, mt_b (bme S k i) = if S.H (20 + (k : Int)) (i : Int) then (1 : Int) else 0 := fun i => by
    have q := bme_t (S := S) (k := k) (i := i)
    by_cases c : S.H (20 + (k : Int)) (i : Int)
    · rw [q.mpr c, if_pos c]; rfl
    · rw [if_neg c]
      cases z : bme S k i
      · rfl
      · exact absurd (q.mp z) c
  rw [mt_s_congr (fun i _ => e i)]
  exact (mt_s_tail (L := S.n.toNat) 20 (by omega) (fun i hi _ => if_neg (fun z => by have := h.hr _ _ z; omega))).symm
/-! PURE: the first ones are settled, the rest is matched later -/
/-- the cities' partners: those of the ranks, and those that stand already -/
def pcb (n : Nat) (e : Nat → Nat) (p : Nat → Nat) (q : Nat → Nat) : Nat → Nat := fun c => if mt_im n e c = true then e (p (mt_ro e c n)) else q c
theorem pcb_in {n N : Nat} {e p q : Nat → Nat} (h : mt_up n N e) {i : Nat} (hi : i < n) : pcb n e p q (e i) = e (p i) := by
  unfold pcb
  rw [if_pos (mt_im_t.mpr ⟨i, hi, rfl⟩), mt_ro_of h hi]
theorem pcb_out {n : Nat} {e p q : Nat → Nat} {c : Nat} (h : ¬ ∃ i, i < n ∧ e i = c) : pcb n e p q c = q c := by
  unfold pcb
  rw [if_neg (fun z => h (mt_im_t.mp z))]
theorem mt_lex_set {w : Nat → Nat → Int} {k : Nat} {S T : Nat → Bool} {p : Nat → Nat} (h : ∀ i, i < k → S i = T i) (hp : mt_lex w k S p) : mt_lex w k T p := by
  have hpm : ∀ q, mt_pmS k S q ↔ mt_pmS k T q := fun q => by
    refine ⟨fun z i hi hT => ?_, fun z i hi hT => ?_⟩
    · have := z i hi (by rw [h i hi]; exact hT)
      exact ⟨this.1, by rw [← h _ this.1]; exact this.2.1, this.2.2.1, this.2.2.2⟩
    · have := z i hi (by rw [← h i hi]; exact hT)
      exact ⟨this.1, by rw [h _ this.1]; exact this.2.1, this.2.2.1, this.2.2.2⟩
  have hco : ∀ q, mt_co w k S q = mt_co w k T q := fun q => by
    unfold mt_co
    exact mt_s_congr (fun i hi => by rw [h i hi])
  have hop : ∀ q, mt_opt w k S q ↔ mt_opt w k T q := fun q => by
    refine ⟨fun z => ⟨(hpm q).mp z.1, fun r hr => by rw [← hco, ← hco]; exact z.2 r ((hpm r).mpr hr)⟩, fun z => ⟨(hpm q).mpr z.1, fun r hr => by rw [hco, hco]; exact z.2 r ((hpm r).mp hr)⟩⟩
  refine ⟨(hop p).mp hp.1, fun q hq i hi hT hj => hp.2 q ((hop q).mpr hq) i hi (by rw [h i hi]; exact hT) (fun j ji hS => hj j ji (by rw [← h j (by omega)]; exact hS))⟩
theorem mt_lex_congr {w : Nat → Nat → Int} {k : Nat} {S : Nat → Bool} {p q : Nat → Nat} (h : ∀ i, i < k → S i = true → p i = q i) (hp : mt_lex w k S p) : mt_lex w k S q := by
  refine ⟨⟨mt_pmS_congr h hp.1.1, fun r hr => by rw [← mt_co_congr h]; exact hp.1.2 r hr⟩, fun r hr i hi hS hj => ?_⟩
  rw [← h i hi hS]
  exact hp.2 r hr i hi hS (fun j ji hSj => (hj j ji hSj).trans (h j (by omega) hSj).symm)
/-- what has been settled: any first least matching of the rest completes the first least matching of all -/
def pSt (W : Nat → Nat → Int) (N : Nat) (O : Nat → Bool) (n : Nat) (e : Nat → Nat) (q : Nat → Nat) : Prop := ∀ p, mt_lex (fun i j => W (e i) (e j)) n mt_all p → mt_lex W N O (pcb n e p q)
theorem pSt_0 {W : Nat → Nat → Int} {N n : Nat} {e q : Nat → Nat} (h : mt_up n N e) : pSt W N (mt_im n e) n e q := fun p hp => mt_rk_lex h (fun i hi => ⟨(hp.1.1 i hi rfl).1, pcb_in h hi⟩) hp
/-- a step: the first L and their partners are settled, f tells who is left -/
theorem pSt_s {W : Nat → Nat → Int} {N n n2 L : Nat} {O : Nat → Bool} {e f m q q2 : Nat → Nat} (h : mt_up n N e) (h0 : 0 < n) (hL : L ≤ n) (hm : mt_opt (mt_cd (fun i j => W (e i) (e j)) n L) n mt_all m) (hf : mt_up n2 n f) (hi : ∀ i, i < n → (mt_lf L m i = true ↔ ∃ j, j < n2 ∧ f j = i)) (hq1 : ∀ i, i < n → mt_lf L m i = false → q2 (e i) = e (m i)) (hq2 : ∀ c, (¬ ∃ i, i < n ∧ e i = c) → q2 c = q c) (hS : pSt W N O n e q) : pSt W N O n2 (fun i => e (f i)) q2 := by
  intro p hp
  have hr : mt_rk n2 f p (pcb n2 f p id) := fun i hi => ⟨(hp.1.1 i hi rfl).1, pcb_in hf hi⟩
  have l1 := mt_rk_lex (w := fun i j => W (e i) (e j)) hf hr hp
  have l2 : mt_lex (fun i j => W (e i) (e j)) n (mt_lf L m) (pcb n2 f p id) := mt_lex_set (fun i hi2 => by
    have q := hi i hi2
    cases z : mt_im n2 f i
    · cases z2 : mt_lf L m i
      · rfl
      · exact absurd (mt_im_t.mpr (q.mp z2)) (by rw [z]; decide)
    · exact (q.mpr (mt_im_t.mp z)).symm) l1
  have l3 := mt_settle h0 hL hm l2
  refine mt_lex_congr (fun c hc hO => ?_) (hS _ l3)
  have hef : mt_up n2 N (fun i => e (f i)) := ⟨fun i hi2 => h.1 _ (hf.1 i hi2), fun i j ij hj => h.2 _ _ (hf.2 i j ij hj) (hf.1 j hj)⟩
  by_cases c1 : ∃ i, i < n ∧ e i = c
  · obtain ⟨i, i1, rfl⟩ := c1
    rw [pcb_in h i1]
    unfold mt_gl
    cases z : mt_lf L m i
    · rw [if_neg (by decide)]
      have nn : ¬ ∃ j, j < n2 ∧ (fun i => e (f i)) j = e i := fun ⟨j, j1, ej⟩ => by
        have := mt_up_inj h (hf.1 j j1) i1 ej
        rw [(hi i i1).mpr ⟨j, j1, this⟩] at z
        exact absurd z (by decide)
      rw [pcb_out nn, hq1 i i1 z]
    · rw [if_pos rfl]
      obtain ⟨j, j1, ej⟩ := (hi i i1).mp z
      rw [← ej, pcb_in hf j1]
      exact (pcb_in (p := p) (q := q2) hef j1).symm
  · rw [pcb_out c1, pcb_out (fun ⟨j, j1, ej⟩ => c1 ⟨f j, hf.1 j j1, ej⟩), hq2 c c1]
