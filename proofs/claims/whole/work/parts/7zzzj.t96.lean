/-! the tours of the four rules -/
def tOK (N : Nat) (t : Int → Int) : Prop := st_ok N t ∧ (∀ y, 0 ≤ y → y < (N : Int) → ∃ j, 0 ≤ j ∧ j < (N : Int) ∧ t j = y) ∧ t 0 = 0
def wkL (N : Nat) (hu pa : Int → Int) (b : wS) : Prop := ∃ k, wkn N (w0 hu pa N) k b ∧ b.h < 0
def bT (N : Nat) (D : Int → Int → Int) (hu pa : Int → Int) (ru ci : Int) (t : Int → Int) : Prop :=
  tOK N t ∧ ((ru = 0 ∧ ∃ b, wkL N hu pa b ∧ dt_ok (fun i => b.L.getD i 0) N b.L.length t) ∨
  (ru = 1 ∧ ∃ p t0, (0 ≤ p ∧ p < (N : Int)) ∧ t0 p = 0 ∧ nt_ok N D ci t0 N ∧ rt N p t0 t) ∨
  (ru = 2 ∧ ∃ p t0, (0 ≤ p ∧ p < (N : Int)) ∧ t0 p = 0 ∧ gt_ok N D ci (N - 1) t0 ∧ rt N p t0 t) ∨
  (ru = 3 ∧ jp N D t))
theorem w0_c {N : Nat} {hu pa hu2 pa2 : Int → Int} (h1 : ∀ c, 0 ≤ c → c < (N : Int) → hu c = hu2 c) (h2 : ∀ c, 0 ≤ c → c < (N : Int) → pa c = pa2 c) : w0 hu pa N = w0 hu2 pa2 N := by
  have e : wO0 hu pa N = wO0 hu2 pa2 N := by
    funext p q
    unfold wO0 wOt wOp
    rw [mt_s_congr (g := fun c : Nat => if c = 0 then 0 else w2f c (hu2 c) p q) (fun i hi => by rw [h1 i (by omega) (by omega)]), mt_s_congr (f := fun c : Nat => if (c : Int) < pa c then w2f c (pa c) p q else 0) (g := fun c : Nat => if (c : Int) < pa2 c then w2f c (pa2 c) p q else 0) (fun i hi => by rw [h2 i (by omega) (by omega)])]
  unfold w0
  rw [e]
theorem wkL_uniq {N : Nat} {hu pa hu2 pa2 : Int → Int} {b c : wS} (h1 : ∀ c, 0 ≤ c → c < (N : Int) → hu c = hu2 c) (h2 : ∀ c, 0 ≤ c → c < (N : Int) → pa c = pa2 c) (hb : wkL N hu pa b) (hc : wkL N hu2 pa2 c) : b = c := by
  obtain ⟨k, a1, a2⟩ := hb
  obtain ⟨l, b1, b2⟩ := hc
  rw [w0_c h1 h2] at a1
  exact (wkn_end a1 b1 a2 b2).2
/-- the place of 0 is one -/
theorem ds_one {n : Int} {t : Int → Int} (hd : ds_ok n n t) {p q : Int} (hp : 0 ≤ p ∧ p < n) (hq : 0 ≤ q ∧ q < n) (e : t p = t q) : p = q := by
  rcases Int.lt_trichotomy p q with z | z | z
  · exact absurd e (hd.2 p q hp.1 z hq.2)
  · exact z
  · exact absurd e.symm (hd.2 q p hq.1 z hp.2)
theorem rt_ok {N : Nat} {p : Int} {t0 t : Int → Int} (hd : ds_ok N N t0) (hp : 0 ≤ p ∧ p < (N : Int)) (h0 : t0 p = 0) (h : rt N p t0 t) : tOK N t := by
  refine ⟨fun i i0 i1 => ?_, fun y y0 y1 => ?_, ?_⟩
  · rw [h i i0 i1]
    split
    · exact hd.1 _ (by omega) (by omega)
    · exact hd.1 _ (by omega) (by omega)
  · obtain ⟨u, u1, u2⟩ := inj_us (n := N) (t := t0) N hd.1 hd.2
    obtain ⟨j, j0, j1, j2⟩ := us_all u1 u2 y0 y1
    by_cases z : p ≤ j
    · refine ⟨j - p, by omega, by omega, ?_⟩
      rw [h _ (by omega) (by omega), if_pos (by omega), show p + (j - p) = j by omega]; exact j2
    · refine ⟨j - p + N, by omega, by omega, ?_⟩
      rw [h _ (by omega) (by omega), if_neg (by omega), show p + (j - p + N) - N = j by omega]; exact j2
  · rw [h 0 (by omega) (by omega), if_pos (by omega), show p + 0 = p by omega]; exact h0
theorem rt_uniq {N : Nat} {p q : Int} {t0 t1 t t2 : Int → Int} (hd : ds_ok N N t0) (hp : 0 ≤ p ∧ p < (N : Int)) (hq : 0 ≤ q ∧ q < (N : Int)) (e : ∀ i, 0 ≤ i → i < (N : Int) → t0 i = t1 i) (h0 : t0 p = 0) (h1 : t1 q = 0) (h : rt N p t0 t) (h2 : rt N q t1 t2) : ∀ i, 0 ≤ i → i < (N : Int) → t i = t2 i := by
  have pq : p = q := ds_one hd hp hq (by rw [h0, e q hq.1 hq.2, h1])
  subst pq
  intro i i0 i1
  rw [h i i0 i1, h2 i i0 i1]
  split
  · exact e _ (by omega) (by omega)
  · exact e _ (by omega) (by omega)
theorem bT_uniq {N : Nat} {D D2 : Int → Int → Int} {hu pa hu2 pa2 : Int → Int} {ru ci : Int} {t t2 : Int → Int} (hD : ∀ p q, 0 ≤ p → p < (N : Int) → 0 ≤ q → q < (N : Int) → D p q = D2 p q) (hh : ru = 0 → (∀ c, 0 ≤ c → c < (N : Int) → hu c = hu2 c) ∧ ∀ c, 0 ≤ c → c < (N : Int) → pa c = pa2 c) (hci : ru = 1 ∨ ru = 2 → 0 ≤ ci ∧ ci < (N : Int)) (h : bT N D hu pa ru ci t) (h2 : bT N D2 hu2 pa2 ru ci t2) : ∀ i, 0 ≤ i → i < (N : Int) → t i = t2 i := by
  rcases h.2 with ⟨e, b, b1, b2⟩ | ⟨e, p, t0, p1, p2, p3, p4⟩ | ⟨e, p, t0, p1, p2, p3, p4⟩ | ⟨e, a⟩ <;> rcases h2.2 with ⟨e2, c, c1, c2⟩ | ⟨e2, q, t1, q1, q2, q3, q4⟩ | ⟨e2, q, t1, q1, q2, q3, q4⟩ | ⟨e2, a2⟩ <;> try omega
  · obtain ⟨x, y⟩ := hh e
    have z := wkL_uniq x y b1 c1
    subst z
    exact dt_uniq b2 c2
  · have uq := nt_uniq hD p3 q3
    exact rt_uniq ⟨p3.2.1, p3.2.2.1⟩ p1 q1 (fun i i0 i1 => by
      obtain ⟨a, rfl⟩ : ∃ a : Nat, i = a := ⟨i.toNat, by omega⟩
      exact uq a i1) p2 q2 p4 q4
  · have uq := gt_uniq (hci (Or.inr e)) hD p3 q3
    have ds := gt_okds (hci (Or.inr e)) p3
    rw [show ((N - 1 : Nat) : Int) + 1 = N by omega] at ds
    exact rt_uniq ds p1 q1 (fun i i0 i1 => uq i i0 (by omega)) p2 q2 p4 q4
  · exact jp_uniq (jp_D hD a) a2
/-! what need leaves alone -/
def nFr (s s4 : am_S) : Prop := ∀ q, (q < 48 ∨ q = 49 ∨ q = 54 ∨ 150 < q) → s4 q = s q
theorem nTr_f {s s1 : am_S} (h : nTr s s1) : ∀ q, (q < 48 ∨ q = 49 ∨ q = 54 ∨ 57 < q) → s1 q = s q := fun q hq => by
  rcases h with ⟨-, rfl⟩ | ⟨-, hF, -⟩
  · rfl
  · exact hF q (fun z => by simp at z; omega)
theorem nPa_f {s s1 : am_S} (h : nPa s s1) : mkFr s s1 := fun q hq => by
  rcases h with ⟨-, rfl⟩ | ⟨-, hR⟩
  · rfl
  · exact hR.fr q hq
theorem xW_f {s s1 : am_S} {N : Nat} (h : xW s s1 N) : xwFr s s1 := by
  obtain ⟨k, b, -, -, -, -, -, h, -⟩ := h
  exact h
theorem nWk_f {s s1 : am_S} (h : nWk s s1) : ∀ q, (q < 127 ∨ 150 < q) → s1 q = s q := fun q hq => by
  rcases h with ⟨-, rfl⟩ | ⟨-, hR⟩
  · rfl
  · exact xW_f hR q (by omega) (by omega) (by omega) (by omega)
theorem need_f {s s1 s2 s3 : am_S} (h1 : nTr s s1) (h2 : nPa s1 s2) (h3 : nWk s2 s3) : nFr s s3 := fun q hq => by
  rw [nWk_f h3 q (by omega), nPa_f h2 q (by omega), nTr_f h1 q (by omega)]
/-- the class's walk stands -/
def wX (s : am_S) : Prop := ∃ b, wkL (s 25 0).toNat (s 50) (s 60) b ∧ s 127 1 = (b.L.length : Int) ∧ (∀ (i : Nat) v, b.L[i]? = some v → s 128 ((b.L.length : Int) - 1 - i) = v) ∧ (b.L.length : Int) ≤ 40 ∧ ∀ x, x ∈ b.L → 0 ≤ x ∧ x < ((s 25 0).toNat : Int)
theorem xW_wX {s s1 : am_S} (h : xW s s1 (s 25 0).toNat) : wX s1 ∧ s1 127 0 = 1 := by
  have f := xW_f h
  obtain ⟨k, b, h1, h2, h3, h4, h5, h6, h7, h8⟩ := h
  have e25 : s1 25 = s 25 := f 25 (by decide) (by decide) (by decide) (by decide)
  refine ⟨⟨b, ?_, h4, h5, h7, by rw [e25]; exact h8⟩, h3⟩
  rw [e25, f 50 (by decide) (by decide) (by decide) (by decide), f 60 (by decide) (by decide) (by decide) (by decide)]
  exact ⟨k, h1, h2⟩
theorem wX_c {s s1 : am_S} (h25 : s1 25 0 = s 25 0) (h50 : s1 50 = s 50) (h60 : s1 60 = s 60) (h127 : s1 127 1 = s 127 1) (h128 : s1 128 = s 128) (h : wX s) : wX s1 := by
  unfold wX at h ⊢
  rw [h25, h50, h60, h127, h128]; exact h
theorem tX_lo {s s1 : am_S} (hm : mx_ok s) (ht : tX s) (h : ∀ q, q < 57 → s1 q = s q) : mx_ok s1 ∧ tX s1 := by
  have m2 := hm.2.1
  have e25 : s1 25 = s 25 := h 25 (by decide)
  have em : ∀ a b, 0 ≤ a → a < s 25 0 → mx s1 a b = mx s a b := fun a b a0 a1 => by
    unfold mx
    rw [h _ (by omega)]
  refine ⟨⟨by rw [e25]; exact hm.1, by rw [e25]; exact m2, fun a b a0 a1 b0 b1 => ?_⟩, ?_⟩
  · rw [e25] at a1 b1
    rw [em a b a0 a1]
    exact hm.2.2 a b a0 a1 b0 b1
  · unfold tX
    rw [e25, h 48 (by decide), h 50 (by decide), h 55 (by decide), h 56 (by decide)]
    refine tr_f (fun p q p0 p1 q0 q1 => ?_) ht
    unfold fx
    rw [em p q p0 p1, h 54 (by decide)]
/-- after need all stands -/
theorem need_t {s s1 s2 s3 : am_S} (hm : mx_ok s) (ht : s 48 0 = 1 → tX s) (hpa : s 58 0 = 1 → s 48 0 = 1 ∧ pr s) (hwx : s 127 0 = 1 → s 58 0 = 1 ∧ wX s) (n1 : nTr s s1) (n2 : nPa s1 s2) (n3 : nWk s2 s3) : mx_ok s3 ∧ tX s3 ∧ s3 48 0 = 1 ∧ pr s3 ∧ s3 58 0 = 1 ∧ wX s3 ∧ s3 127 0 = 1 := by
  obtain ⟨t1, t2, t3, t4⟩ := nTr_t hm ht n1
  have u : mx_ok s2 ∧ tX s2 ∧ s2 48 0 = 1 ∧ pr s2 ∧ s2 58 0 = 1 := by
    rcases n2 with ⟨z, rfl⟩ | ⟨z, hR⟩
    · rw [t4] at z
      have q := hpa z
      have e : s2 = s := by
        rcases n1 with ⟨-, e⟩ | ⟨y, -⟩
        · exact e
        · omega
      rw [e]
      exact ⟨hm, ht q.1, q.1, q.2, z⟩
    · obtain ⟨a, b⟩ := tX_mk t1 t2 hR.fr
      exact ⟨a, b, by rw [hR.fr 48 (Or.inl (by decide))]; exact t3, pRes_pr t1 hR, hR.made⟩
  obtain ⟨u1, u2, u3, u4, u5⟩ := u
  have f := nWk_f n3
  have e25 : s3 25 = s2 25 := f 25 (Or.inl (by decide))
  refine ⟨?_, ?_, by rw [f 48 (Or.inl (by decide))]; exact u3, ?_, by rw [f 58 (Or.inl (by decide))]; exact u5, ?_⟩
  · exact (tX_lo u1 u2 (fun q hq => f q (by omega))).1
  · exact (tX_lo u1 u2 (fun q hq => f q (by omega))).2
  · unfold pr at u4 ⊢
    rw [e25, f 60 (Or.inl (by decide))]; exact u4
  · rcases n3 with ⟨z, rfl⟩ | ⟨z, hR⟩
    · have e127 : s3 127 = s 127 := (nPa_f n2 127 (Or.inr (by decide))).trans (nTr_f n1 127 (by omega))
      rw [e127] at z
      have q := hwx z
      have p := hpa q.1
      have e1 : s1 = s := by
        rcases n1 with ⟨-, e⟩ | ⟨y, -⟩
        · exact e
        · omega
      have e2 : s3 = s := by
        rw [e1] at n2
        rcases n2 with ⟨-, e⟩ | ⟨y, -⟩
        · exact e
        · omega
      rw [e2]
      exact ⟨q.2, z⟩
    · exact xW_wX hR
