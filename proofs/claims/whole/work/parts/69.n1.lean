/-! PURE: blossoms: nodes, their rings, their bases -/
def wr (m i : Int) : Int := if i < m then i else i - m
abbrev bS : Type := (Int) × (Int → Int → Int) × (Int → Int) × (Int → Int) × (Int → Int) × (Int → Int) × (Int → Int) × (Int → Int) × (Int → Int) × (Int → Int → Prop) × (Int → Int) × (Int → Int) × (Int → Int → Int) × (Int → Int → Int) × (Int → Int → Int)
abbrev bS.n (x_ : bS) : Int := x_.1
abbrev bS.C (x_ : bS) : Int → Int → Int := x_.2.1
abbrev bS.p (x_ : bS) : Int → Int := x_.2.2.1
abbrev bS.mate (x_ : bS) : Int → Int := x_.2.2.2.1
abbrev bS.top (x_ : bS) : Int → Int := x_.2.2.2.2.1
abbrev bS.base (x_ : bS) : Int → Int := x_.2.2.2.2.2.1
abbrev bS.mr (x_ : bS) : Int → Int := x_.2.2.2.2.2.2.1
abbrev bS.fr (x_ : bS) : Int → Int := x_.2.2.2.2.2.2.2.1
abbrev bS.io (x_ : bS) : Int → Int := x_.2.2.2.2.2.2.2.2.1
abbrev bS.H (x_ : bS) : Int → Int → Prop := x_.2.2.2.2.2.2.2.2.2.1
abbrev bS.rs (x_ : bS) : Int → Int := x_.2.2.2.2.2.2.2.2.2.2.1
abbrev bS.rb (x_ : bS) : Int → Int := x_.2.2.2.2.2.2.2.2.2.2.2.1
abbrev bS.rg (x_ : bS) : Int → Int → Int := x_.2.2.2.2.2.2.2.2.2.2.2.2.1
abbrev bS.lf (x_ : bS) : Int → Int → Int := x_.2.2.2.2.2.2.2.2.2.2.2.2.2.1
abbrev bS.li (x_ : bS) : Int → Int → Int := x_.2.2.2.2.2.2.2.2.2.2.2.2.2.2
def bU (S : bS) (x : Int) : Prop := ∃ v, S.H x v
def bSub (S : bS) (x y : Int) : Prop := ∀ v, S.H x v → S.H y v
/-- nodes and rings -/
abbrev bStr (S : bS) : Prop := Nonempty (PProd (0 ≤ S.n ∧ S.n ≤ 20) (PProd (∀ x v, S.H x v → 0 ≤ x ∧ x < 30 ∧ 0 ≤ v ∧ v < S.n) (PProd (∀ x v, x < 20 → (S.H x v ↔ x = v ∧ 0 ≤ v ∧ v < S.n)) (PProd (∀ b, 20 ≤ b → bU S b → 3 ≤ S.rs b ∧ S.rs b ≤ 20 ∧ S.rs b % 2 = 1) (PProd (∀ b, 20 ≤ b → bU S b → ∀ i, 0 ≤ i → i < S.rs b → bU S (S.rg b i)) (PProd (∀ b v, 20 ≤ b → bU S b → (S.H b v ↔ ∃ i, 0 ≤ i ∧ i < S.rs b ∧ S.H (S.rg b i) v)) (PProd (∀ b v i j, 20 ≤ b → bU S b → 0 ≤ i → i < j → j < S.rs b → S.H (S.rg b i) v → S.H (S.rg b j) v → False) (PProd (∀ b i, 20 ≤ b → bU S b → 0 ≤ i → i < S.rs b → S.H (S.rg b i) (S.lf b i) ∧ S.H (S.rg b (wr (S.rs b) (i + 1))) (S.li b i)) (PProd (∀ v, 0 ≤ v → v < S.n → S.H (S.top v) v) (PProd (∀ x v w, S.H x v → S.H x w → S.top v = S.top w) (∀ x y, bU S x → 20 ≤ y → bU S y → x ≠ y → bSub S x y → ∃ i, 0 ≤ i ∧ i < S.rs y ∧ bSub S x (S.rg y i))))))))))))
theorem bStr.n0 {S : bS} (h_ : bStr S) : 0 ≤ S.n ∧ S.n ≤ 20 := h_.elim (fun x_ => x_.1)
theorem bStr.hr {S : bS} (h_ : bStr S) : ∀ x v, S.H x v → 0 ≤ x ∧ x < 30 ∧ 0 ≤ v ∧ v < S.n := h_.elim (fun x_ => x_.2.1)
theorem bStr.hs {S : bS} (h_ : bStr S) : ∀ x v, x < 20 → (S.H x v ↔ x = v ∧ 0 ≤ v ∧ v < S.n) := h_.elim (fun x_ => x_.2.2.1)
theorem bStr.rm {S : bS} (h_ : bStr S) : ∀ b, 20 ≤ b → bU S b → 3 ≤ S.rs b ∧ S.rs b ≤ 20 ∧ S.rs b % 2 = 1 := h_.elim (fun x_ => x_.2.2.2.1)
theorem bStr.rc {S : bS} (h_ : bStr S) : ∀ b, 20 ≤ b → bU S b → ∀ i, 0 ≤ i → i < S.rs b → bU S (S.rg b i) := h_.elim (fun x_ => x_.2.2.2.2.1)
theorem bStr.rh {S : bS} (h_ : bStr S) : ∀ b v, 20 ≤ b → bU S b → (S.H b v ↔ ∃ i, 0 ≤ i ∧ i < S.rs b ∧ S.H (S.rg b i) v) := h_.elim (fun x_ => x_.2.2.2.2.2.1)
theorem bStr.rd {S : bS} (h_ : bStr S) : ∀ b v i j, 20 ≤ b → bU S b → 0 ≤ i → i < j → j < S.rs b → S.H (S.rg b i) v → S.H (S.rg b j) v → False := h_.elim (fun x_ => x_.2.2.2.2.2.2.1)
theorem bStr.lk {S : bS} (h_ : bStr S) : ∀ b i, 20 ≤ b → bU S b → 0 ≤ i → i < S.rs b → S.H (S.rg b i) (S.lf b i) ∧ S.H (S.rg b (wr (S.rs b) (i + 1))) (S.li b i) := h_.elim (fun x_ => x_.2.2.2.2.2.2.2.1)
theorem bStr.th {S : bS} (h_ : bStr S) : ∀ v, 0 ≤ v → v < S.n → S.H (S.top v) v := h_.elim (fun x_ => x_.2.2.2.2.2.2.2.2.1)
theorem bStr.tt {S : bS} (h_ : bStr S) : ∀ x v w, S.H x v → S.H x w → S.top v = S.top w := h_.elim (fun x_ => x_.2.2.2.2.2.2.2.2.2.1)
theorem bStr.lm {S : bS} (h_ : bStr S) : ∀ x y, bU S x → 20 ≤ y → bU S y → x ≠ y → bSub S x y → ∃ i, 0 ≤ i ∧ i < S.rs y ∧ bSub S x (S.rg y i) := h_.elim (fun x_ => x_.2.2.2.2.2.2.2.2.2.2)
theorem b_rd {S : bS} (h : bStr S) {b v i j : Int} (hb : 20 ≤ b) (hU : bU S b) (i0 : 0 ≤ i) (i1 : i < S.rs b) (j0 : 0 ≤ j) (j1 : j < S.rs b) (hi : S.H (S.rg b i) v) (hj : S.H (S.rg b j) v) : i = j := by
  rcases Int.lt_trichotomy i j with c | c | c
  · exact (h.rd b v i j hb hU i0 c j1 hi hj).elim
  · exact c
  · exact (h.rd b v j i hb hU j0 c i1 hj hi).elim
theorem b_csub {S : bS} (h : bStr S) {b i : Int} (hb : 20 ≤ b) (hU : bU S b) (i0 : 0 ≤ i) (i1 : i < S.rs b) : bSub S (S.rg b i) b := fun v hv => (h.rh b v hb hU).mpr ⟨i, i0, i1, hv⟩
theorem b_tsub {S : bS} (h : bStr S) {x v : Int} (hv : S.H x v) : bSub S x (S.top v) := fun w hw => by
  rw [h.tt x v w hv hw]
  have r := h.hr x w hw
  exact h.th w r.2.2.1 r.2.2.2
theorem b_ttop {S : bS} (h : bStr S) {v w : Int} (v0 : 0 ≤ v) (v1 : v < S.n) (hw : S.H (S.top v) w) : S.top w = S.top v := h.tt (S.top v) w v hw (h.th v v0 v1)
theorem b_trans {S : bS} {x y z : Int} (a : bSub S x y) (b : bSub S y z) : bSub S x z := fun v hv => b v (a v hv)
theorem b_refl {S : bS} {x : Int} : bSub S x x := fun _ h => h
/-- a ring has another one -/
theorem b_other {S : bS} (h : bStr S) {b i : Int} (hb : 20 ≤ b) (hU : bU S b) (i0 : 0 ≤ i) (i1 : i < S.rs b) : ∃ v, S.H b v ∧ ¬ S.H (S.rg b i) v := by
  have m := h.rm b hb hU
  by_cases c : i = 0
  · obtain ⟨v, hv⟩ := h.rc b hb hU 1 (by omega) (by omega)
    exact ⟨v, b_csub h hb hU (by omega) (by omega) v hv, fun z => absurd (b_rd h hb hU i0 i1 (by omega) (by omega) z hv) (by omega)⟩
  · obtain ⟨v, hv⟩ := h.rc b hb hU 0 (by omega) (by omega)
    exact ⟨v, b_csub h hb hU (by omega) (by omega) v hv, fun z => absurd (b_rd h hb hU i0 i1 (by omega) (by omega) z hv) (by omega)⟩
theorem b_nsub {S : bS} (h : bStr S) {b i : Int} (hb : 20 ≤ b) (hU : bU S b) (i0 : 0 ≤ i) (i1 : i < S.rs b) : ¬ bSub S b (S.rg b i) := fun z => by
  obtain ⟨v, h1, h2⟩ := b_other h hb hU i0 i1
  exact h2 (z v h1)
theorem b_anti {S : bS} (h : bStr S) {x y : Int} (hx : bU S x) (hy : bU S y) (a : bSub S x y) (b : bSub S y x) : x = y := by
  by_cases c : x = y
  · exact c
  · exfalso
    by_cases c2 : 20 ≤ y
    · obtain ⟨i, i0, i1, z⟩ := h.lm x y hx c2 hy c a
      exact b_nsub h c2 hy i0 i1 (b_trans b z)
    · by_cases c3 : 20 ≤ x
      · obtain ⟨i, i0, i1, z⟩ := h.lm y x hy c3 hx (fun e => c e.symm) b
        exact b_nsub h c3 hx i0 i1 (b_trans a z)
      · obtain ⟨v, hv⟩ := hx
        have e1 := (h.hs x v (by omega)).mp hv
        have e2 := (h.hs y v (by omega)).mp (a v hv)
        omega
/-! how many -/
noncomputable def bsz (S : bS) (x : Int) : Int := mt_s (fun k => @ite Int (S.H x (k : Int)) (Classical.propDecidable _) 1 0) 20
theorem b_one {v n : Nat} (h : v < n) : mt_s (fun k => if k = v then 1 else 0) n = 1 := by
  have e := mt_s_one (f := fun k => if k = v then (1 : Int) else 0) (g := fun _ => 0) (j := v) (n := n) h (fun i _ hi => if_neg hi)
  rw [e, mt_s_zero]
  simp
theorem b_slt {S : bS} (h : bStr S) {x y v : Int} (hs : bSub S x y) (hv : S.H y v) (hn : ¬ S.H x v) : bsz S x + 1 ≤ bsz S y := by
  classical
  have r := h.hr y v hv
  have n0 := h.n0
  have hh : mt_s (fun k => (if S.H x (k : Int) then (1 : Int) else 0) + (if k = v.toNat then 1 else 0)) 20 ≤ mt_s (fun k => if S.H y (k : Int) then (1 : Int) else 0) 20 := by
   refine mt_s_le (fun k hk => ?_)
   by_cases c : k = v.toNat
   · have e : ((k : Nat) : Int) = v := by omega
     simp only [e]
     rw [if_neg hn, if_pos c, if_pos hv]
     omega
   · rw [if_neg c]
     by_cases c2 : S.H x k
     · rw [if_pos c2, if_pos (hs _ c2)]; omega
     · rw [if_neg c2]; split <;> omega
  rw [mt_s_add, b_one (by omega)] at hh
  exact hh
theorem b_s2 {S : bS} (h : bStr S) {x y v w : Int} (hs : bSub S x y) (hv : S.H y v) (hn : ¬ S.H x v) (hw : S.H y w) (hn2 : ¬ S.H x w) (hvw : v ≠ w) : bsz S x + 2 ≤ bsz S y := by
  classical
  have r := h.hr y v hv
  have r2 := h.hr y w hw
  have n0 := h.n0
  unfold bsz
  have e : mt_s (fun k => (if k = v.toNat then 1 else 0) + (if k = w.toNat then 1 else 0)) 20 = 2 := by
    rw [mt_s_add, b_one (by omega), b_one (by omega)]; rfl
  rw [← e, ← mt_s_add]
  refine mt_s_le (fun k hk => ?_)
  by_cases c : k = v.toNat
  · have e : ((k : Nat) : Int) = v := by omega
    simp only [e]
    rw [if_neg hn, if_pos c, if_pos hv, if_neg (by omega)]
    omega
  · by_cases c2 : k = w.toNat
    · have e : ((k : Nat) : Int) = w := by omega
      simp only [e]
      rw [if_neg hn2, if_neg c, if_pos hw, if_pos c2]
      omega
    · rw [if_neg c, if_neg c2]
      by_cases c3 : S.H x k
      · rw [if_pos c3, if_pos (hs _ c3)]; omega
      · rw [if_neg c3]; split <;> omega
theorem bsz_0 {S : bS} {x : Int} : 0 ≤ bsz S x := by
  classical
  unfold bsz
  have hh : mt_s (fun _ => 0) 20 ≤ mt_s (fun k => if S.H x (k : Int) then (1 : Int) else 0) 20 := mt_s_le (fun k hk => by split <;> omega)
  rw [mt_s_zero] at hh
  exact hh
theorem bsz_20 {S : bS} (h : bStr S) {x : Int} : bsz S x ≤ S.n := by
  classical
  have n0 := h.n0
  unfold bsz
  have e : mt_s (fun k => if k < S.n.toNat then (1 : Int) else 0) 20 = S.n := by
    obtain ⟨N, hN⟩ : ∃ N : Nat, S.n = N := ⟨S.n.toNat, by omega⟩
    rw [hN, Int.toNat_natCast]
    have : ∀ q : Nat, mt_s (fun k => if k < N then (1 : Int) else 0) q = if q ≤ N then (q : Int) else N := by
      intro q
      induction q with
      | zero => simp [mt_s]
      | succ q ih =>
        show mt_s _ q + (if q < N then (1 : Int) else 0) = _
        rw [ih]
        (repeat' split) <;> omega
    rw [this]
    split <;> omega
  calc mt_s (fun k => if S.H x (k : Int) then (1 : Int) else 0) 20 ≤ mt_s (fun k => if k < S.n.toNat then (1 : Int) else 0) 20 := mt_s_le (fun k hk => by
        by_cases c : S.H x k
        · have r := h.hr x k c
          rw [if_pos c, if_pos (by omega)]; omega
        · rw [if_neg c]; split <;> omega)
    _ = S.n := e
theorem bsz_1 {S : bS} (h : bStr S) {x : Int} (hU : bU S x) : 1 ≤ bsz S x := by
  obtain ⟨v, hv⟩ := hU
  have z := b_slt (x := -1) h (fun w hw => absurd (h.hr (-1) w hw).1 (by omega)) hv (fun z => absurd (h.hr (-1) v z).1 (by omega))
  have := bsz_0 (S := S) (x := -1)
  omega
theorem bsz_c {S : bS} (h : bStr S) {b i : Int} (hb : 20 ≤ b) (hU : bU S b) (i0 : 0 ≤ i) (i1 : i < S.rs b) : bsz S (S.rg b i) + 2 ≤ bsz S b := by
  have m := h.rm b hb hU
  have go : ∀ j k, 0 ≤ j → j < S.rs b → 0 ≤ k → k < S.rs b → i ≠ j → i ≠ k → j ≠ k → bsz S (S.rg b i) + 2 ≤ bsz S b := fun j k j0 j1 k0 k1 e1 e2 e3 => by
    obtain ⟨v, hv⟩ := h.rc b hb hU j j0 j1
    obtain ⟨w, hw⟩ := h.rc b hb hU k k0 k1
    exact b_s2 h (b_csub h hb hU i0 i1) (b_csub h hb hU j0 j1 v hv) (fun z => e1 (b_rd h hb hU i0 i1 j0 j1 z hv)) (b_csub h hb hU k0 k1 w hw) (fun z => e2 (b_rd h hb hU i0 i1 k0 k1 z hw)) (fun e => by
      subst e
      exact e3 (b_rd h hb hU j0 j1 k0 k1 hv hw))
  by_cases c : i = 0
  · exact go 1 2 (by omega) (by omega) (by omega) (by omega) (by omega) (by omega) (by omega)
  · by_cases c2 : i = 1
    · exact go 0 2 (by omega) (by omega) (by omega) (by omega) (by omega) (by omega) (by omega)
    · exact go 0 1 (by omega) (by omega) (by omega) (by omega) (by omega) (by omega) (by omega)
/-- by a ring's ones to it -/
theorem b_ind {S : bS} (h : bStr S) {P : Int → Prop} (step : ∀ x, bU S x → (20 ≤ x → ∀ i, 0 ≤ i → i < S.rs x → P (S.rg x i)) → P x) : ∀ x, bU S x → P x := by
  have go : ∀ q : Nat, ∀ x, bU S x → bsz S x ≤ q → P x := by
    intro q
    induction q with
    | zero => exact fun x hx hq => absurd (bsz_1 h hx) (by omega)
    | succ q ih =>
      refine fun x hx hq => step x hx (fun hb i i0 i1 => ih _ (h.rc x hb hx i i0 i1) ?_)
      have := bsz_c h hb hx i0 i1
      omega
  exact fun x hx => go (bsz S x).toNat x hx (by have := bsz_0 (S := S) (x := x); omega)
/-! bases -/
def bLB (S : bS) (y : Int) : Prop := (y < 20 → S.base y = y) ∧ (20 ≤ y → 0 ≤ S.rb y ∧ S.rb y < S.rs y ∧ S.base y = S.base (S.rg y (S.rb y)) ∧ ∀ k, 1 ≤ k → k + 1 < S.rs y → k % 2 = 1 → S.base (S.rg y (wr (S.rs y) (S.rb y + k))) = S.lf y (wr (S.rs y) (S.rb y + k)) ∧ S.base (S.rg y (wr (S.rs y) (S.rb y + k + 1))) = S.li y (wr (S.rs y) (S.rb y + k)) ∧ S.mate (S.lf y (wr (S.rs y) (S.rb y + k))) = S.li y (wr (S.rs y) (S.rb y + k)) ∧ S.mate (S.li y (wr (S.rs y) (S.rb y + k))) = S.lf y (wr (S.rs y) (S.rb y + k)))
def bOK (S : bS) (x : Int) : Prop := ∀ y, bU S y → bSub S y x → bLB S y
theorem wr_rng {m i : Int} (h0 : 0 ≤ i) (h1 : i < 2 * m) : 0 ≤ wr m i ∧ wr m i < m := by
  unfold wr
  split <;> omega
theorem b_okc {S : bS} (h : bStr S) {b i : Int} (hb : 20 ≤ b) (hU : bU S b) (i0 : 0 ≤ i) (i1 : i < S.rs b) (ho : bOK S b) : bOK S (S.rg b i) := fun y hy hs => ho y hy (b_trans hs (b_csub h hb hU i0 i1))
theorem b_base {S : bS} (h : bStr S) : ∀ x, bU S x → bOK S x → S.H x (S.base x) := b_ind h (fun x hx ih ho => by
  have l := ho x hx b_refl
  by_cases c : 20 ≤ x
  · obtain ⟨r0, r1, e, -⟩ := l.2 c
    rw [e]
    exact b_csub h c hx r0 r1 _ (ih c _ r0 r1 (b_okc h c hx r0 r1 ho))
  · obtain ⟨v, hv⟩ := hx
    rw [l.1 (by omega)]
    have e := (h.hs x v (by omega)).mp hv
    rw [e.1]; rw [e.1] at hv; exact hv)
/-- the base of a node is that of all in it that hold it -/
theorem b_base2 {S : bS} (h : bStr S) : ∀ x, bU S x → bOK S x → ∀ y, bU S y → bSub S y x → S.H y (S.base x) → S.base y = S.base x := b_ind h (fun x hx ih ho y hy hs hH => by
  by_cases e : y = x
  · rw [e]
  · by_cases c : 20 ≤ x
    · obtain ⟨i, i0, i1, hi⟩ := h.lm y x hy c hx e hs
      obtain ⟨r0, r1, eb, -⟩ := (ho x hx b_refl).2 c
      have z := b_base h _ (h.rc x c hx _ r0 r1) (b_okc h c hx r0 r1 ho)
      rw [eb] at hH
      have : i = S.rb x := b_rd h c hx i0 i1 r0 r1 (hi _ hH) z
      subst this
      rw [eb]
      exact ih c _ r0 r1 (b_okc h c hx r0 r1 ho) y hy hi hH
    · exfalso
      have hH2 := hs _ hH
      have e1 := (h.hs x _ (by omega)).mp hH2
      by_cases c2 : 20 ≤ y
      · obtain ⟨v, v1, v2⟩ := b_other h c2 hy (i := 0) (by omega) (by have := h.rm y c2 hy; omega)
        obtain ⟨w, hw⟩ := h.rc y c2 hy 0 (by omega) (by have := h.rm y c2 hy; omega)
        have a1 := (h.hs x v (by omega)).mp (hs v v1)
        have a2 := (h.hs x w (by omega)).mp (hs w (b_csub h c2 hy (by omega) (by have := h.rm y c2 hy; omega) w hw))
        have : v = w := by omega
        subst this
        exact v2 hw
      · have e2 := (h.hs y _ (by omega)).mp hH
        omega)
/-- where a ring's place lies from the base's on -/
theorem b_pos {m r i : Int} (r0 : 0 ≤ r) (r1 : r < m) (i0 : 0 ≤ i) (i1 : i < m) (hne : i ≠ r) : ∃ k, 1 ≤ k ∧ k < m ∧ i = wr m (r + k) := by
  by_cases c : r < i
  · exact ⟨i - r, by omega, by omega, by unfold wr; split <;> omega⟩
  · exact ⟨i - r + m, by omega, by omega, by unfold wr; split <;> omega⟩
/-- all in a node but its base are matched within it -/
theorem b_within {S : bS} (h : bStr S) {Q : Int → Int → Prop} (hQ : ∀ v w, Q v w → Q w v) : ∀ x, bU S x → bOK S x → (∀ b i, 20 ≤ b → bU S b → bSub S b x → 0 ≤ i → i < S.rs b → Q (S.lf b i) (S.li b i)) → ∀ w, S.H x w → w ≠ S.base x → S.H x (S.mate w) ∧ S.mate (S.mate w) = w ∧ S.mate w ≠ w ∧ S.mate w ≠ S.base x ∧ Q w (S.mate w) := b_ind h (fun x hx ih ho hL w hw hne => by
  by_cases c : 20 ≤ x
  · obtain ⟨r0, r1, eb, hk⟩ := (ho x hx b_refl).2 c
    have m := h.rm x c hx
    obtain ⟨i, i0, i1, hi⟩ := (h.rh x w c hx).mp hw
    have hB := b_base h _ (h.rc x c hx _ r0 r1) (b_okc h c hx r0 r1 ho)
    by_cases cb : w = S.base (S.rg x i)
    · have hir : i ≠ S.rb x := fun e => by
        rw [e] at cb
        exact hne (cb.trans eb.symm)
      obtain ⟨k, k0, k1, hk1⟩ := b_pos r0 r1 i0 i1 hir
      by_cases odd : k % 2 = 1
      · obtain ⟨e1, e2, e3, e4⟩ := hk k k0 (by omega) odd
        rw [← hk1] at e1 e2 e3 e4
        have ew : w = S.lf x i := cb.trans e1
        have j := wr_rng (m := S.rs x) (i := S.rb x + k + 1) (by omega) (by omega)
        have hj := b_base h _ (h.rc x c hx _ j.1 j.2) (b_okc h c hx j.1 j.2 ho)
        rw [e2] at hj
        have q := hL x i c hx b_refl i0 i1
        have hji : wr (S.rs x) (S.rb x + k + 1) ≠ i := by
          rw [hk1]; unfold wr; (repeat' split) <;> omega
        have hjr : wr (S.rs x) (S.rb x + k + 1) ≠ S.rb x := by
          unfold wr; split <;> omega
        rw [ew, e3]
        refine ⟨b_csub h c hx j.1 j.2 _ hj, e4, fun z => ?_, fun z => ?_, q⟩
        · rw [ew] at hi
          rw [z] at hj
          exact hji (b_rd h c hx j.1 j.2 i0 i1 hj hi)
        · rw [z, eb] at hj
          exact hjr (b_rd h c hx j.1 j.2 r0 r1 hj hB)
      · obtain ⟨e1, e2, e3, e4⟩ := hk (k - 1) (by omega) (by omega) (by omega)
        have j := wr_rng (m := S.rs x) (i := S.rb x + (k - 1)) (by omega) (by omega)
        rw [show S.rb x + (k - 1) + 1 = S.rb x + k by omega, ← hk1] at e2
        have ew := cb.trans e2
        have hj := b_base h _ (h.rc x c hx _ j.1 j.2) (b_okc h c hx j.1 j.2 ho)
        rw [e1] at hj
        have q := hQ _ _ (hL x _ c hx b_refl j.1 j.2)
        have hji : wr (S.rs x) (S.rb x + (k - 1)) ≠ i := by
          rw [hk1]; unfold wr; (repeat' split) <;> omega
        have hjr : wr (S.rs x) (S.rb x + (k - 1)) ≠ S.rb x := by
          unfold wr; split <;> omega
        rw [← ew] at e3 e4 q
        rw [e4]
        refine ⟨b_csub h c hx j.1 j.2 _ hj, e3, fun z => ?_, fun z => ?_, q⟩
        · rw [z] at hj
          exact hji (b_rd h c hx j.1 j.2 i0 i1 hj hi)
        · rw [z, eb] at hj
          exact hjr (b_rd h c hx j.1 j.2 r0 r1 hj hB)
    · obtain ⟨a1, a2, a3, a4, a5⟩ := ih c i i0 i1 (b_okc h c hx i0 i1 ho) (fun b j b0 bU bs j0 j1 => hL b j b0 bU (b_trans bs (b_csub h c hx i0 i1)) j0 j1) w hi cb
      refine ⟨b_csub h c hx i0 i1 _ a1, a2, a3, fun z => ?_, a5⟩
      rw [z, eb] at a1
      have : i = S.rb x := b_rd h c hx i0 i1 r0 r1 a1 hB
      subst this
      rw [eb] at z
      exact a4 z
  · exfalso
    have e := (h.hs x w (by omega)).mp hw
    have e2 := (ho x hx b_refl).1 (by omega)
    omega)
