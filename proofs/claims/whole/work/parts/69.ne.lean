/-! PURE: a place that is not in use; the ring that two ways make is there -/
def brr (S : bS) (a b : Int → Int) (c d e : Int → Int → Int) : bS := (⟨S.n, S.C, S.p, S.mate, S.top, S.base, S.mr, S.fr, S.io, S.H, a, b, c, d, e⟩ : bS)
theorem brr_str {S : bS} {x : Int} {a b : Int → Int} {c d e : Int → Int → Int} (h : bStr S) (hx : ¬ bU S x) (ha : ∀ y, y ≠ x → a y = S.rs y) (hc : ∀ y, y ≠ x → c y = S.rg y) (hd : ∀ y, y ≠ x → d y = S.lf y) (he : ∀ y, y ≠ x → e y = S.li y) : bStr (brr S a b c d e) := by
  have ne : ∀ y, bU S y → y ≠ x := fun y hy z => hx (by rw [← z]; exact hy)
  refine ⟨h.n0, h.hr, h.hs, fun y y0 hy => ?_, fun y y0 hy i i0 i1 => ?_, fun y v y0 hy => ?_, fun y v i j y0 hy i0 ij j1 hi hj => ?_, fun y i y0 hy i0 i1 => ?_, h.th, h.tt, fun y z hy z0 hz n hs => ?_⟩
  · show 3 ≤ a y ∧ a y ≤ 20 ∧ a y % 2 = 1
    rw [ha y (ne y hy)]; exact h.rm y y0 hy
  · have i1 : i < a y := i1
    rw [ha y (ne y hy)] at i1
    show bU S (c y i)
    rw [hc y (ne y hy)]; exact h.rc y y0 hy i i0 i1
  · show S.H y v ↔ ∃ i, 0 ≤ i ∧ i < a y ∧ S.H (c y i) v
    rw [ha y (ne y hy), hc y (ne y hy)]; exact h.rh y v y0 hy
  · have j1 : j < a y := j1
    have hi : S.H (c y i) v := hi
    have hj : S.H (c y j) v := hj
    rw [ha y (ne y hy)] at j1
    rw [hc y (ne y hy)] at hi hj
    exact h.rd y v i j y0 hy i0 ij j1 hi hj
  · have i1 : i < a y := i1
    show S.H (c y i) (d y i) ∧ S.H (c y (wr (a y) (i + 1))) (e y i)
    rw [ha y (ne y hy)] at i1 ⊢
    rw [hc y (ne y hy), hd y (ne y hy), he y (ne y hy)]
    exact h.lk y i y0 hy i0 i1
  · show ∃ i, 0 ≤ i ∧ i < a z ∧ bSub S y (c z i)
    rw [ha z (ne z hz), hc z (ne z hz)]
    exact h.lm y z hy z0 hz n hs
theorem brr_nd {S : bS} {x : Int} {a b : Int → Int} {c d e : Int → Int → Int} (hN : bNd S) (hx : ¬ bU S x) (ha : ∀ y, y ≠ x → a y = S.rs y) (hb : ∀ y, y ≠ x → b y = S.rb y) (hc : ∀ y, y ≠ x → c y = S.rg y) (hd : ∀ y, y ≠ x → d y = S.lf y) (he : ∀ y, y ≠ x → e y = S.li y) : bNd (brr S a b c d e) := fun y hy => by
  have ne : y ≠ x := fun z => hx (by rw [← z]; exact hy)
  have z := hN y hy
  refine ⟨z.1, fun q => ?_⟩
  show 0 ≤ b y ∧ b y < a y ∧ S.base y = S.base (c y (b y)) ∧ ∀ k, 1 ≤ k → k + 1 < a y → k % 2 = 1 → S.base (c y (wr (a y) (b y + k))) = d y (wr (a y) (b y + k)) ∧ S.base (c y (wr (a y) (b y + k + 1))) = e y (wr (a y) (b y + k)) ∧ S.mate (d y (wr (a y) (b y + k))) = e y (wr (a y) (b y + k)) ∧ S.mate (e y (wr (a y) (b y + k))) = d y (wr (a y) (b y + k))
  rw [ha y ne, hb y ne, hc y ne, hd y ne, he y ne]
  exact z.2 q
theorem bAbn_c {S S2 : bS} (e1 : S2.mate = S.mate) (e2 : S2.base = S.base) (e3 : S2.top = S.top) (e4 : S2.fr = S.fr) (x : Int) : ∀ k : Nat, bAbn S2 x k = bAbn S x k
  | 0 => rfl
  | k + 1 => by
    show (if bAbn S2 x k = -1 then -1 else bAb S2 (bAbn S2 x k)) = if bAbn S x k = -1 then -1 else bAb S (bAbn S x k)
    rw [bAbn_c e1 e2 e3 e4 x k]
    unfold bAb
    rw [e1, e2, e3, e4]
theorem bWy_ex (S : bS) (a b : Int) (kd ku : Nat) : ∃ g f o, bWy S a b kd ku g f o := by
  let A := fun k => bAbn S (S.top a) k
  let B := fun k => bAbn S (S.top b) k
  let T := fun x => S.top (S.mate (S.base x))
  refine ⟨fun i => if i ≤ 2 * (kd : Int) then (if i % 2 = 0 then A (kd - (i / 2).toNat) else T (A (kd - ((i + 1) / 2).toNat))) else (if i % 2 = 1 then B (((i - 1) / 2).toNat - kd) else T (B ((i / 2).toNat - 1 - kd))),
    fun i => if i < 2 * (kd : Int) then (if i % 2 = 1 then S.mate (S.base (A (kd - ((i + 1) / 2).toNat))) else S.fr (T (A (kd - 1 - (i / 2).toNat)))) else if i = 2 * (kd : Int) then a else (if i % 2 = 1 then S.base (B (((i - 1) / 2).toNat - kd)) else S.io (T (B ((i / 2).toNat - 1 - kd)))),
    fun i => if i < 2 * (kd : Int) then (if i % 2 = 1 then S.base (A (kd - ((i + 1) / 2).toNat)) else S.io (T (A (kd - 1 - (i / 2).toNat)))) else if i = 2 * (kd : Int) then b else (if i % 2 = 1 then S.mate (S.base (B (((i - 1) / 2).toNat - kd))) else S.fr (T (B ((i / 2).toNat - 1 - kd)))),
    ⟨?_, fun j hj => ?_, ⟨?_, ?_⟩, fun j hj => ?_⟩⟩
  all_goals dsimp only
  · rw [if_pos (by omega), if_pos (by decide)]
    rfl
  · refine ⟨?_, ?_, ?_, ?_, ?_, ?_⟩
    · rw [if_pos (by omega), if_pos (by omega), show kd - (2 * ((kd : Int) - j) / 2).toNat = j by omega]
    · rw [if_pos (by omega), if_neg (by omega), show kd - ((2 * ((kd : Int) - j) - 1 + 1) / 2).toNat = j by omega]
    · rw [if_pos (by omega), if_pos (by omega), show kd - ((2 * ((kd : Int) - j) - 1 + 1) / 2).toNat = j by omega]
    · rw [if_pos (by omega), if_pos (by omega), show kd - ((2 * ((kd : Int) - j) - 1 + 1) / 2).toNat = j by omega]
    · rw [if_pos (by omega), if_neg (by omega), show kd - 1 - ((2 * ((kd : Int) - j) - 2) / 2).toNat = j by omega]
    · rw [if_pos (by omega), if_neg (by omega), show kd - 1 - ((2 * ((kd : Int) - j) - 2) / 2).toNat = j by omega]
  · rw [if_neg (by omega), if_pos rfl]
  · rw [if_neg (by omega), if_pos rfl]
  · refine ⟨?_, ?_, ?_, ?_, ?_, ?_⟩
    · rw [if_neg (by omega), if_pos (by omega), show ((2 * (kd : Int) + 1 + 2 * j - 1) / 2).toNat - kd = j by omega]
    · rw [if_neg (by omega), if_neg (by omega), show ((2 * (kd : Int) + 2 + 2 * j) / 2).toNat - 1 - kd = j by omega]
    · rw [if_neg (by omega), if_neg (by omega), if_pos (by omega), show ((2 * (kd : Int) + 1 + 2 * j - 1) / 2).toNat - kd = j by omega]
    · rw [if_neg (by omega), if_neg (by omega), if_pos (by omega), show ((2 * (kd : Int) + 1 + 2 * j - 1) / 2).toNat - kd = j by omega]
    · rw [if_neg (by omega), if_neg (by omega), if_neg (by omega), show ((2 * (kd : Int) + 2 + 2 * j) / 2).toNat - 1 - kd = j by omega]
    · rw [if_neg (by omega), if_neg (by omega), if_neg (by omega), show ((2 * (kd : Int) + 2 + 2 * j) / 2).toNat - 1 - kd = j by omega]
