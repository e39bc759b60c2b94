/-! PURE: a node's base is moved -/
def bup (f : Int → Int) (a t : Int) : Int → Int := fun y => if y = a then t else f y
theorem bup_e {f : Int → Int} {a t : Int} : bup f a t a = t := if_pos rfl
theorem bup_n {f : Int → Int} {a t y : Int} (h : y ≠ a) : bup f a t y = f y := if_neg h
def bmv (S : bS) (m b r : Int → Int) : bS := (⟨S.n, S.C, S.p, m, S.top, b, S.mr, S.fr, S.io, S.H, S.rs, r, S.rg, S.lf, S.li⟩ : bS)
theorem bmv_str {S : bS} (h : bStr S) (m b r : Int → Int) : bStr (bmv S m b r) := ⟨h.n0, h.hr, h.hs, h.rm, h.rc, h.rh, h.rd, h.lk, h.th, h.tt, h.lm⟩
theorem bmv_LB {S : bS} (h : bStr S) {m b r m2 b2 r2 : Int → Int} {y : Int} (hy : bU S y) (hm : ∀ w, S.H y w → m2 w = m w) (hb : ∀ z, bU S z → bSub S z y → b2 z = b z) (hr : r2 y = r y) (hL : bLB (bmv S m b r) y) : bLB (bmv S m2 b2 r2) y := by
  refine ⟨fun c => ?_, fun c => ?_⟩
  · show b2 y = y
    rw [hb y hy b_refl]; exact hL.1 c
  · obtain ⟨r0, r1, e, hk⟩ := hL.2 c
    have r0 : 0 ≤ r y := r0
    have r1 : r y < S.rs y := r1
    show 0 ≤ r2 y ∧ r2 y < S.rs y ∧ b2 y = b2 (S.rg y (r2 y)) ∧ ∀ k, 1 ≤ k → k + 1 < S.rs y → k % 2 = 1 → b2 (S.rg y (wr (S.rs y) (r2 y + k))) = S.lf y (wr (S.rs y) (r2 y + k)) ∧ b2 (S.rg y (wr (S.rs y) (r2 y + k + 1))) = S.li y (wr (S.rs y) (r2 y + k)) ∧ m2 (S.lf y (wr (S.rs y) (r2 y + k))) = S.li y (wr (S.rs y) (r2 y + k)) ∧ m2 (S.li y (wr (S.rs y) (r2 y + k))) = S.lf y (wr (S.rs y) (r2 y + k))
    rw [hr]
    have hc : ∀ i, 0 ≤ i → i < S.rs y → b2 (S.rg y i) = b (S.rg y i) := fun i i0 i1 => hb _ (h.rc y c hy i i0 i1) (b_csub h c hy i0 i1)
    refine ⟨r0, r1, ?_, fun k k0 k1 ko => ?_⟩
    · rw [hb y hy b_refl, hc _ r0 r1]; exact e
    · have w1 := wr_rng (m := S.rs y) (i := r y + k) (by omega) (by omega)
      have w2 := wr_rng (m := S.rs y) (i := r y + k + 1) (by omega) (by omega)
      have w3 := h.lk y _ c hy w1.1 w1.2
      have e2 : wr (S.rs y) (wr (S.rs y) (r y + k) + 1) = wr (S.rs y) (r y + k + 1) := by
        unfold wr; (repeat' split) <;> omega
      rw [e2] at w3
      have z := hk k k0 k1 ko
      rw [hc _ w1.1 w1.2, hc _ w2.1 w2.2, hm _ (b_csub h c hy w1.1 w1.2 _ w3.1), hm _ (b_csub h c hy w2.1 w2.2 _ w3.2)]
      exact z
theorem bmv_OK {S : bS} (h : bStr S) {m b r m2 b2 r2 : Int → Int} {x : Int} (hm : ∀ w, S.H x w → m2 w = m w) (hb : ∀ z, bU S z → bSub S z x → b2 z = b z ∧ r2 z = r z) (ho : bOK (bmv S m b r) x) : bOK (bmv S m2 b2 r2) x := fun y hy hs => bmv_LB h hy (fun w hw => hm w (hs w hw)) (fun z hz hs2 => (hb z hz (b_trans hs2 hs)).1) (hb y hy hs).2 (ho y hy hs)
/-- the base's own mate is nothing within the node -/
theorem bmv_mate {S : bS} (h : bStr S) {m b r : Int → Int} {x t : Int} (hx : bU S x) (ho : bOK (bmv S m b r) x) : bOK (bmv S (bup m (b x) t) b r) x := fun y hy hs => by
  have h2 := bmv_str h m b r
  refine ⟨(ho y hy hs).1, fun c => ?_⟩
  obtain ⟨r0, r1, e, hk⟩ := (ho y hy hs).2 c
  refine ⟨r0, r1, e, fun k k0 k1 ko => ?_⟩
  have r0 : 0 ≤ r y := r0
  have r1 : r y < S.rs y := r1
  obtain ⟨e1, e2, e3, e4⟩ := hk k k0 k1 ko
  have oy : bOK (bmv S m b r) y := fun z hz hs2 => ho z hz (b_trans hs2 hs)
  have w1 := wr_rng (m := S.rs y) (i := r y + k) (by have : k + 1 < S.rs y := k1; omega) (by have : k + 1 < S.rs y := k1; omega)
  have w2 := wr_rng (m := S.rs y) (i := r y + k + 1) (by have : k + 1 < S.rs y := k1; omega) (by have : k + 1 < S.rs y := k1; omega)
  have n1 : wr (S.rs y) (r y + k) ≠ r y := by have : k + 1 < S.rs y := k1; unfold wr; split <;> omega
  have n2 : wr (S.rs y) (r y + k + 1) ≠ r y := by have : k + 1 < S.rs y := k1; unfold wr; split <;> omega
  have bt := b_base h2 _ (h.rc y c hy _ r0 r1) (b_okc h2 c hy r0 r1 oy)
  have key : ∀ i, 0 ≤ i → i < S.rs y → i ≠ r y → b (S.rg y i) ≠ b x := fun i i0 i1 ne z => by
    have hi := b_base h2 _ (h.rc y c hy i i0 i1) (b_okc h2 c hy i0 i1 oy)
    have hi2 : S.H (S.rg y i) (b x) := by rw [← z]; exact hi
    have eb : b y = b x := b_base2 h2 x hx ho y hy hs (b_csub h c hy i0 i1 _ hi2)
    have e : b y = b (S.rg y (r y)) := e
    have bt2 : S.H (S.rg y (r y)) (b x) := by rw [← eb, e]; exact bt
    exact ne (b_rd h c hy i0 i1 r0 r1 hi2 bt2)
  have k1' := key _ w1.1 w1.2 n1
  have k2' := key _ w2.1 w2.2 n2
  have e1' : b (S.rg y (wr (S.rs y) (r y + k))) = S.lf y (wr (S.rs y) (r y + k)) := e1
  have e2' : b (S.rg y (wr (S.rs y) (r y + k + 1))) = S.li y (wr (S.rs y) (r y + k)) := e2
  rw [e1'] at k1'
  rw [e2'] at k2'
  refine ⟨e1, e2, ?_, ?_⟩
  · show bup m (b x) t (S.lf y (wr (S.rs y) (r y + k))) = _
    rw [bup_n k1']; exact e3
  · show bup m (b x) t (S.li y (wr (S.rs y) (r y + k))) = _
    rw [bup_n k2']; exact e4
/-- what a move of the base to v does -/
def bMB (S : bS) (x v : Int) (m b r m2 b2 r2 : Int → Int) : Prop := bOK (bmv S m2 b2 r2) x ∧ b2 x = v ∧ (∀ w, ¬ S.H x w → m2 w = m w) ∧ ∀ y, ¬ (bU S y ∧ bSub S y x) → b2 y = b y ∧ r2 y = r y
theorem bMB_0 {S : bS} {x v : Int} {m b r : Int → Int} (ho : bOK (bmv S m b r) x) (e : b x = v) : bMB S x v m b r m b r := ⟨ho, e, fun _ _ => rfl, fun _ _ => ⟨rfl, rfl⟩⟩
/-- while the ring's links are matched anew from the place f on -/
def bMI (S : bS) (x f k : Int) (m b r m2 b2 r2 : Int → Int) : Prop := (∀ i, 0 ≤ i → i < S.rs x → bOK (bmv S m2 b2 r2) (S.rg x i)) ∧ (∀ w, ¬ S.H x w → m2 w = m w) ∧ (∀ y, ¬ (bU S y ∧ bSub S y x ∧ y ≠ x) → b2 y = b y ∧ r2 y = r y) ∧ ∀ j, 1 ≤ j → j < k → j % 2 = 1 → b2 (S.rg x (wr (S.rs x) (f + j))) = S.lf x (wr (S.rs x) (f + j)) ∧ b2 (S.rg x (wr (S.rs x) (f + j + 1))) = S.li x (wr (S.rs x) (f + j)) ∧ m2 (S.lf x (wr (S.rs x) (f + j))) = S.li x (wr (S.rs x) (f + j)) ∧ m2 (S.li x (wr (S.rs x) (f + j))) = S.lf x (wr (S.rs x) (f + j))
theorem bMI_0 {S : bS} (h : bStr S) {x f : Int} {m b r : Int → Int} (hx : 20 ≤ x) (hU : bU S x) (ho : bOK (bmv S m b r) x) : bMI S x f 1 m b r m b r := ⟨fun i i0 i1 => b_okc (bmv_str h m b r) hx hU i0 i1 ho, fun _ _ => rfl, fun _ _ => ⟨rfl, rfl⟩, fun j j0 j1 _ => absurd j1 (by omega)⟩
/-- a child's base is moved: what stands of the rest -/
theorem bMI_c {S : bS} (h : bStr S) {x i v : Int} {m b r m2 b2 r2 : Int → Int} (hx : 20 ≤ x) (hU : bU S x) (i0 : 0 ≤ i) (i1 : i < S.rs x) (hc : ∀ j, 0 ≤ j → j < S.rs x → bOK (bmv S m b r) (S.rg x j)) (hB : bMB S (S.rg x i) v m b r m2 b2 r2) : (∀ j, 0 ≤ j → j < S.rs x → bOK (bmv S m2 b2 r2) (S.rg x j)) ∧ (∀ w, ¬ S.H x w → m2 w = m w) ∧ (∀ y, ¬ (bU S y ∧ bSub S y x ∧ y ≠ x) → b2 y = b y ∧ r2 y = r y) ∧ (∀ j, 0 ≤ j → j < S.rs x → j ≠ i → b2 (S.rg x j) = b (S.rg x j) ∧ ∀ w, S.H (S.rg x j) w → m2 w = m w) := by
  obtain ⟨g1, g2, g3, g4⟩ := hB
  have dis : ∀ j, 0 ≤ j → j < S.rs x → j ≠ i → ∀ w, S.H (S.rg x j) w → m2 w = m w := fun j j0 j1 ne w hw => g3 w (fun z => ne (b_rd h hx hU j0 j1 i0 i1 hw z))
  have dib : ∀ j, 0 ≤ j → j < S.rs x → j ≠ i → ∀ z, bU S z → bSub S z (S.rg x j) → b2 z = b z ∧ r2 z = r z := fun j j0 j1 ne z hz hs => g4 z (fun c => by
    obtain ⟨w, hw⟩ := hz
    exact ne (b_rd h hx hU j0 j1 i0 i1 (hs w hw) (c.2 w hw)))
  refine ⟨fun j j0 j1 => ?_, fun w hw => g3 w (fun z => hw (b_csub h hx hU i0 i1 w z)), fun y hy => g4 y (fun c => hy ⟨c.1, b_trans c.2 (b_csub h hx hU i0 i1), fun e => ?_⟩), fun j j0 j1 ne => ⟨(dib j j0 j1 ne _ (h.rc x hx hU j j0 j1) b_refl).1, dis j j0 j1 ne⟩⟩
  · by_cases c : j = i
    · rw [c]; exact g1
    · exact bmv_OK h (dis j j0 j1 c) (dib j j0 j1 c) (hc j j0 j1)
  · subst e
    exact b_nsub h hx hU i0 i1 c.2
theorem bMI_s {S : bS} (h : bStr S) {x f k : Int} {m b r m1 b1 r1 m2 b2 r2 m3 b3 r3 : Int → Int} (hx : 20 ≤ x) (hU : bU S x) (f0 : 0 ≤ f) (f1 : f < S.rs x) (k0 : 1 ≤ k) (k1 : k + 1 < S.rs x) (ko : k % 2 = 1) (hI : bMI S x f k m b r m1 b1 r1) (h1 : bMB S (S.rg x (wr (S.rs x) (f + k))) (S.lf x (wr (S.rs x) (f + k))) m1 b1 r1 m2 b2 r2) (h2 : bMB S (S.rg x (wr (S.rs x) (f + k + 1))) (S.li x (wr (S.rs x) (f + k))) m2 b2 r2 m3 b3 r3) : bMI S x f (k + 2) m b r (bup (bup m3 (S.lf x (wr (S.rs x) (f + k))) (S.li x (wr (S.rs x) (f + k)))) (S.li x (wr (S.rs x) (f + k))) (S.lf x (wr (S.rs x) (f + k)))) b3 r3 := by
  obtain ⟨a1, a2, a3, a4⟩ := hI
  have w1 := wr_rng (m := S.rs x) (i := f + k) (by omega) (by omega)
  have w2 := wr_rng (m := S.rs x) (i := f + k + 1) (by omega) (by omega)
  have ne : wr (S.rs x) (f + k) ≠ wr (S.rs x) (f + k + 1) := by unfold wr; (repeat' split) <;> omega
  have lk := h.lk x _ hx hU w1.1 w1.2
  have e2 : wr (S.rs x) (wr (S.rs x) (f + k) + 1) = wr (S.rs x) (f + k + 1) := by
    unfold wr; (repeat' split) <;> omega
  rw [e2] at lk
  obtain ⟨c1, c2, c3, c4⟩ := bMI_c h hx hU w1.1 w1.2 a1 h1
  obtain ⟨d1, d2, d3, d4⟩ := bMI_c h hx hU w2.1 w2.2 c1 h2
  have eb1 : b3 (S.rg x (wr (S.rs x) (f + k))) = S.lf x (wr (S.rs x) (f + k)) := by rw [(d4 _ w1.1 w1.2 ne).1]; exact h1.2.1
  have eb2 : b3 (S.rg x (wr (S.rs x) (f + k + 1))) = S.li x (wr (S.rs x) (f + k)) := h2.2.1
  have nl : S.lf x (wr (S.rs x) (f + k)) ≠ S.li x (wr (S.rs x) (f + k)) := fun e => by
    have z := lk.2
    rw [← e] at z
    exact ne (b_rd h hx hU w1.1 w1.2 w2.1 w2.2 lk.1 z)
  refine ⟨fun i i0 i1 => ?_, fun w hw => ?_, fun y hy => ?_, fun j j0 j1 jo => ?_⟩
  · by_cases ci : i = wr (S.rs x) (f + k)
    · have z := bmv_mate (t := S.li x (wr (S.rs x) (f + k))) h (h.rc x hx hU _ w1.1 w1.2) (d1 _ w1.1 w1.2)
      rw [eb1] at z
      rw [ci]
      refine bmv_OK h (fun w hw => bup_n (fun e => ?_)) (fun _ _ _ => ⟨rfl, rfl⟩) z
      rw [e] at hw
      exact ne (b_rd h hx hU w1.1 w1.2 w2.1 w2.2 hw lk.2)
    · by_cases cj : i = wr (S.rs x) (f + k + 1)
      · have z := bmv_mate (t := S.lf x (wr (S.rs x) (f + k))) h (h.rc x hx hU _ w2.1 w2.2) (d1 _ w2.1 w2.2)
        rw [eb2] at z
        rw [cj]
        refine bmv_OK h (fun w hw => ?_) (fun _ _ _ => ⟨rfl, rfl⟩) z
        by_cases c : w = S.li x (wr (S.rs x) (f + k))
        · rw [c, bup_e, bup_e]
        · rw [bup_n c, bup_n c, bup_n (fun e => ?_)]
          rw [e] at hw
          exact ne (b_rd h hx hU w1.1 w1.2 w2.1 w2.2 lk.1 hw)
      · refine bmv_OK h (fun w hw => ?_) (fun _ _ _ => ⟨rfl, rfl⟩) (d1 i i0 i1)
        rw [bup_n (fun e => ?_), bup_n (fun e => ?_)]
        · rw [e] at hw; exact ci (b_rd h hx hU i0 i1 w1.1 w1.2 hw lk.1)
        · rw [e] at hw; exact cj (b_rd h hx hU i0 i1 w2.1 w2.2 hw lk.2)
  · rw [bup_n (fun e => ?_), bup_n (fun e => ?_), d2 w hw, c2 w hw, a2 w hw]
    · rw [e] at hw; exact hw (b_csub h hx hU w1.1 w1.2 _ lk.1)
    · rw [e] at hw; exact hw (b_csub h hx hU w2.1 w2.2 _ lk.2)
  · have z1 := a3 y hy
    have z2 := c3 y hy
    have z3 := d3 y hy
    exact ⟨z3.1.trans (z2.1.trans z1.1), z3.2.trans (z2.2.trans z1.2)⟩
  · by_cases cj : j = k
    · subst cj
      refine ⟨eb1, eb2, ?_, ?_⟩
      · rw [bup_n nl, bup_e]
      · rw [bup_e]
    · obtain ⟨q1, q2, q3, q4⟩ := a4 j j0 (by omega) jo
      have v1 := wr_rng (m := S.rs x) (i := f + j) (by omega) (by omega)
      have v2 := wr_rng (m := S.rs x) (i := f + j + 1) (by omega) (by omega)
      have lj := h.lk x _ hx hU v1.1 v1.2
      have e3 : wr (S.rs x) (wr (S.rs x) (f + j) + 1) = wr (S.rs x) (f + j + 1) := by
        unfold wr; (repeat' split) <;> omega
      rw [e3] at lj
      have n11 : wr (S.rs x) (f + j) ≠ wr (S.rs x) (f + k) := by unfold wr; (repeat' split) <;> omega
      have n12 : wr (S.rs x) (f + j) ≠ wr (S.rs x) (f + k + 1) := by unfold wr; (repeat' split) <;> omega
      have n21 : wr (S.rs x) (f + j + 1) ≠ wr (S.rs x) (f + k) := by unfold wr; (repeat' split) <;> omega
      have n22 : wr (S.rs x) (f + j + 1) ≠ wr (S.rs x) (f + k + 1) := by unfold wr; (repeat' split) <;> omega
      have m1' : ∀ i w, 0 ≤ i → i < S.rs x → i ≠ wr (S.rs x) (f + k) → i ≠ wr (S.rs x) (f + k + 1) → S.H (S.rg x i) w → bup (bup m3 (S.lf x (wr (S.rs x) (f + k))) (S.li x (wr (S.rs x) (f + k)))) (S.li x (wr (S.rs x) (f + k))) (S.lf x (wr (S.rs x) (f + k))) w = m1 w := fun i w i0 i1 u1 u2 hw => by
        rw [bup_n (fun e => ?_), bup_n (fun e => ?_), (d4 i i0 i1 u2).2 w hw, (c4 i i0 i1 u1).2 w hw]
        · rw [e] at hw; exact u1 (b_rd h hx hU i0 i1 w1.1 w1.2 hw lk.1)
        · rw [e] at hw; exact u2 (b_rd h hx hU i0 i1 w2.1 w2.2 hw lk.2)
      rw [(d4 _ v1.1 v1.2 n12).1, (c4 _ v1.1 v1.2 n11).1, (d4 _ v2.1 v2.2 n22).1, (c4 _ v2.1 v2.2 n21).1, m1' _ _ v1.1 v1.2 n11 n12 lj.1, m1' _ _ v2.1 v2.2 n21 n22 lj.2]
      exact ⟨q1, q2, q3, q4⟩
theorem bMI_e {S : bS} (h : bStr S) {x f v : Int} {m b r m1 b1 r1 m2 b2 r2 : Int → Int} (hx : 20 ≤ x) (hU : bU S x) (f0 : 0 ≤ f) (f1 : f < S.rs x) (hI : bMI S x f (S.rs x) m b r m1 b1 r1) (h1 : bMB S (S.rg x f) v m1 b1 r1 m2 b2 r2) : bMB S x v m b r m2 (bup b2 x v) (bup r2 x f) := by
  obtain ⟨a1, a2, a3, a4⟩ := hI
  obtain ⟨c1, c2, c3, c4⟩ := bMI_c h hx hU f0 f1 a1 h1
  have mm := h.rm x hx hU
  have ncx : ∀ i, 0 ≤ i → i < S.rs x → S.rg x i ≠ x := fun i i0 i1 e => b_nsub h hx hU i0 i1 (by rw [e]; exact b_refl)
  refine ⟨fun y hy hs => ?_, bup_e, fun w hw => (c2 w hw).trans (a2 w hw), fun y hy => ?_⟩
  · by_cases e : y = x
    · subst e
      refine ⟨fun c => absurd c (by omega), fun _ => ?_⟩
      show 0 ≤ bup r2 y f y ∧ bup r2 y f y < S.rs y ∧ bup b2 y v y = bup b2 y v (S.rg y (bup r2 y f y)) ∧ ∀ k, 1 ≤ k → k + 1 < S.rs y → k % 2 = 1 → bup b2 y v (S.rg y (wr (S.rs y) (bup r2 y f y + k))) = S.lf y (wr (S.rs y) (bup r2 y f y + k)) ∧ bup b2 y v (S.rg y (wr (S.rs y) (bup r2 y f y + k + 1))) = S.li y (wr (S.rs y) (bup r2 y f y + k)) ∧ m2 (S.lf y (wr (S.rs y) (bup r2 y f y + k))) = S.li y (wr (S.rs y) (bup r2 y f y + k)) ∧ m2 (S.li y (wr (S.rs y) (bup r2 y f y + k))) = S.lf y (wr (S.rs y) (bup r2 y f y + k))
      rw [bup_e, bup_e]
      refine ⟨f0, f1, ?_, fun k k0 k1 ko => ?_⟩
      · rw [bup_n (ncx f f0 f1)]; exact h1.2.1.symm
      · have w1 := wr_rng (m := S.rs y) (i := f + k) (by omega) (by omega)
        have w2 := wr_rng (m := S.rs y) (i := f + k + 1) (by omega) (by omega)
        have n1 : wr (S.rs y) (f + k) ≠ f := by unfold wr; split <;> omega
        have n2 : wr (S.rs y) (f + k + 1) ≠ f := by unfold wr; split <;> omega
        have lk := h.lk y _ hx hU w1.1 w1.2
        have e2 : wr (S.rs y) (wr (S.rs y) (f + k) + 1) = wr (S.rs y) (f + k + 1) := by
          unfold wr; (repeat' split) <;> omega
        rw [e2] at lk
        rw [bup_n (ncx _ w1.1 w1.2), bup_n (ncx _ w2.1 w2.2), (c4 _ w1.1 w1.2 n1).1, (c4 _ w2.1 w2.2 n2).1, (c4 _ w1.1 w1.2 n1).2 _ lk.1, (c4 _ w2.1 w2.2 n2).2 _ lk.2]
        exact a4 k k0 (by omega) ko
    · obtain ⟨i, i0, i1, hi⟩ := h.lm y x hy hx hU e hs
      refine bmv_LB h hy (fun _ _ => rfl) (fun z hz hs2 => bup_n (fun ez => ?_)) (bup_n e) (c1 i i0 i1 y hy hi)
      subst ez
      exact b_nsub h hx hU i0 i1 (b_trans hs2 hi)
  · have e : y ≠ x := fun e => hy ⟨by rw [e]; exact hU, by rw [e]; exact b_refl⟩
    have z1 := a3 y (fun c => hy ⟨c.1, c.2.1⟩)
    have z2 := c3 y (fun c => hy ⟨c.1, c.2.1⟩)
    rw [bup_n e, bup_n e]
    exact ⟨z2.1.trans z1.1, z2.2.trans z1.2⟩
