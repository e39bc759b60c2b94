/-! PURE: a ring becomes a blossom -/
def bTp (S : bS) (x : Int) : Prop := ∃ v, 0 ≤ v ∧ v < S.n ∧ S.top v = x
/-- a ring of tops -/
abbrev bCy (S : bS) (rk : Int → Int) (m : Int) (g f o : Int → Int) : Prop := Nonempty (PProd (3 ≤ m ∧ m ≤ 20 ∧ m % 2 = 1) (PProd (∀ i, 0 ≤ i → i < m → bTp S (g i)) (PProd (∀ i j, 0 ≤ i → i < j → j < m → g i ≠ g j) (PProd (∀ i, 0 ≤ i → i < m → S.H (g i) (f i) ∧ S.H (g (wr m (i + 1))) (o i) ∧ bsl S (f i) (o i) = 0) (PProd (∀ k, 1 ≤ k → k + 1 < m → k % 2 = 1 → S.base (g k) = f k ∧ S.base (g (k + 1)) = o k ∧ S.mate (f k) = o k ∧ S.mate (o k) = f k) (PProd (∀ i, 0 ≤ i → i < m → S.mr (g i) = 1 ∨ S.mr (g i) = 2) (PProd (S.mr (g 0) = 1) (PProd (∀ i, 0 ≤ i → i < m → rk (g 0) ≤ rk (g i)) (PProd (∃ i, 0 ≤ i ∧ i < m ∧ S.mr (g i) = 2) (S.mate (S.base (g 0)) ≠ -1 → ∀ i, 0 ≤ i → i < m → S.top (S.mate (S.base (g 0))) ≠ g i))))))))))
theorem bCy.m3 {S : bS} {rk : Int → Int} {m : Int} {g f o : Int → Int} (h_ : bCy S rk m g f o) : 3 ≤ m ∧ m ≤ 20 ∧ m % 2 = 1 := h_.elim (fun x_ => x_.1)
theorem bCy.tp {S : bS} {rk : Int → Int} {m : Int} {g f o : Int → Int} (h_ : bCy S rk m g f o) : ∀ i, 0 ≤ i → i < m → bTp S (g i) := h_.elim (fun x_ => x_.2.1)
theorem bCy.dj {S : bS} {rk : Int → Int} {m : Int} {g f o : Int → Int} (h_ : bCy S rk m g f o) : ∀ i j, 0 ≤ i → i < j → j < m → g i ≠ g j := h_.elim (fun x_ => x_.2.2.1)
theorem bCy.lk {S : bS} {rk : Int → Int} {m : Int} {g f o : Int → Int} (h_ : bCy S rk m g f o) : ∀ i, 0 ≤ i → i < m → S.H (g i) (f i) ∧ S.H (g (wr m (i + 1))) (o i) ∧ bsl S (f i) (o i) = 0 := h_.elim (fun x_ => x_.2.2.2.1)
theorem bCy.lb {S : bS} {rk : Int → Int} {m : Int} {g f o : Int → Int} (h_ : bCy S rk m g f o) : ∀ k, 1 ≤ k → k + 1 < m → k % 2 = 1 → S.base (g k) = f k ∧ S.base (g (k + 1)) = o k ∧ S.mate (f k) = o k ∧ S.mate (o k) = f k := h_.elim (fun x_ => x_.2.2.2.2.1)
theorem bCy.mi {S : bS} {rk : Int → Int} {m : Int} {g f o : Int → Int} (h_ : bCy S rk m g f o) : ∀ i, 0 ≤ i → i < m → S.mr (g i) = 1 ∨ S.mr (g i) = 2 := h_.elim (fun x_ => x_.2.2.2.2.2.1)
theorem bCy.m0 {S : bS} {rk : Int → Int} {m : Int} {g f o : Int → Int} (h_ : bCy S rk m g f o) : S.mr (g 0) = 1 := h_.elim (fun x_ => x_.2.2.2.2.2.2.1)
theorem bCy.ri {S : bS} {rk : Int → Int} {m : Int} {g f o : Int → Int} (h_ : bCy S rk m g f o) : ∀ i, 0 ≤ i → i < m → rk (g 0) ≤ rk (g i) := h_.elim (fun x_ => x_.2.2.2.2.2.2.2.1)
theorem bCy.in2 {S : bS} {rk : Int → Int} {m : Int} {g f o : Int → Int} (h_ : bCy S rk m g f o) : ∃ i, 0 ≤ i ∧ i < m ∧ S.mr (g i) = 2 := h_.elim (fun x_ => x_.2.2.2.2.2.2.2.2.1)
theorem bCy.up {S : bS} {rk : Int → Int} {m : Int} {g f o : Int → Int} (h_ : bCy S rk m g f o) : S.mate (S.base (g 0)) ≠ -1 → ∀ i, 0 ≤ i → i < m → S.top (S.mate (S.base (g 0))) ≠ g i := h_.elim (fun x_ => x_.2.2.2.2.2.2.2.2.2)
/-- the state behind it -/
abbrev bEn (S S2 : bS) (x m : Int) (g f o : Int → Int) : Prop := Nonempty (PProd (S2.n = S.n) (PProd (S2.C = S.C) (PProd (S2.mate = S.mate) (PProd (S2.fr = S.fr) (PProd (S2.io = S.io) (PProd (S2.p x = 0) (PProd (∀ y, y ≠ x → S2.p y = S.p y) (PProd (∀ v, S2.H x v ↔ ∃ i, 0 ≤ i ∧ i < m ∧ S.H (g i) v) (PProd (∀ y v, y ≠ x → (S2.H y v ↔ S.H y v)) (PProd (∀ v, 0 ≤ v → v < S.n → S2.H x v → S2.top v = x) (PProd (∀ v, 0 ≤ v → v < S.n → ¬ S2.H x v → S2.top v = S.top v) (PProd (S2.mr x = 1) (PProd (∀ y, y ≠ x → S2.mr y = S.mr y) (PProd (S2.base x = S.base (g 0)) (PProd (∀ y, y ≠ x → S2.base y = S.base y) (PProd (S2.rs x = m) (PProd (∀ y, y ≠ x → S2.rs y = S.rs y) (PProd (S2.rb x = 0) (PProd (∀ y, y ≠ x → S2.rb y = S.rb y) (PProd (∀ i, 0 ≤ i → i < m → S2.rg x i = g i ∧ S2.lf x i = f i ∧ S2.li x i = o i) (∀ y i, y ≠ x → S2.rg y i = S.rg y i ∧ S2.lf y i = S.lf y i ∧ S2.li y i = S.li y i)))))))))))))))))))))
theorem bEn.n {S S2 : bS} {x m : Int} {g f o : Int → Int} (h_ : bEn S S2 x m g f o) : S2.n = S.n := h_.elim (fun x_ => x_.1)
theorem bEn.C {S S2 : bS} {x m : Int} {g f o : Int → Int} (h_ : bEn S S2 x m g f o) : S2.C = S.C := h_.elim (fun x_ => x_.2.1)
theorem bEn.ma {S S2 : bS} {x m : Int} {g f o : Int → Int} (h_ : bEn S S2 x m g f o) : S2.mate = S.mate := h_.elim (fun x_ => x_.2.2.1)
theorem bEn.fr {S S2 : bS} {x m : Int} {g f o : Int → Int} (h_ : bEn S S2 x m g f o) : S2.fr = S.fr := h_.elim (fun x_ => x_.2.2.2.1)
theorem bEn.io {S S2 : bS} {x m : Int} {g f o : Int → Int} (h_ : bEn S S2 x m g f o) : S2.io = S.io := h_.elim (fun x_ => x_.2.2.2.2.1)
theorem bEn.px {S S2 : bS} {x m : Int} {g f o : Int → Int} (h_ : bEn S S2 x m g f o) : S2.p x = 0 := h_.elim (fun x_ => x_.2.2.2.2.2.1)
theorem bEn.py {S S2 : bS} {x m : Int} {g f o : Int → Int} (h_ : bEn S S2 x m g f o) : ∀ y, y ≠ x → S2.p y = S.p y := h_.elim (fun x_ => x_.2.2.2.2.2.2.1)
theorem bEn.hx {S S2 : bS} {x m : Int} {g f o : Int → Int} (h_ : bEn S S2 x m g f o) : ∀ v, S2.H x v ↔ ∃ i, 0 ≤ i ∧ i < m ∧ S.H (g i) v := h_.elim (fun x_ => x_.2.2.2.2.2.2.2.1)
theorem bEn.hy {S S2 : bS} {x m : Int} {g f o : Int → Int} (h_ : bEn S S2 x m g f o) : ∀ y v, y ≠ x → (S2.H y v ↔ S.H y v) := h_.elim (fun x_ => x_.2.2.2.2.2.2.2.2.1)
theorem bEn.t1 {S S2 : bS} {x m : Int} {g f o : Int → Int} (h_ : bEn S S2 x m g f o) : ∀ v, 0 ≤ v → v < S.n → S2.H x v → S2.top v = x := h_.elim (fun x_ => x_.2.2.2.2.2.2.2.2.2.1)
theorem bEn.t2 {S S2 : bS} {x m : Int} {g f o : Int → Int} (h_ : bEn S S2 x m g f o) : ∀ v, 0 ≤ v → v < S.n → ¬ S2.H x v → S2.top v = S.top v := h_.elim (fun x_ => x_.2.2.2.2.2.2.2.2.2.2.1)
theorem bEn.mx {S S2 : bS} {x m : Int} {g f o : Int → Int} (h_ : bEn S S2 x m g f o) : S2.mr x = 1 := h_.elim (fun x_ => x_.2.2.2.2.2.2.2.2.2.2.2.1)
theorem bEn.my {S S2 : bS} {x m : Int} {g f o : Int → Int} (h_ : bEn S S2 x m g f o) : ∀ y, y ≠ x → S2.mr y = S.mr y := h_.elim (fun x_ => x_.2.2.2.2.2.2.2.2.2.2.2.2.1)
theorem bEn.bx {S S2 : bS} {x m : Int} {g f o : Int → Int} (h_ : bEn S S2 x m g f o) : S2.base x = S.base (g 0) := h_.elim (fun x_ => x_.2.2.2.2.2.2.2.2.2.2.2.2.2.1)
theorem bEn.by_ {S S2 : bS} {x m : Int} {g f o : Int → Int} (h_ : bEn S S2 x m g f o) : ∀ y, y ≠ x → S2.base y = S.base y := h_.elim (fun x_ => x_.2.2.2.2.2.2.2.2.2.2.2.2.2.2.1)
theorem bEn.sx {S S2 : bS} {x m : Int} {g f o : Int → Int} (h_ : bEn S S2 x m g f o) : S2.rs x = m := h_.elim (fun x_ => x_.2.2.2.2.2.2.2.2.2.2.2.2.2.2.2.1)
theorem bEn.sy {S S2 : bS} {x m : Int} {g f o : Int → Int} (h_ : bEn S S2 x m g f o) : ∀ y, y ≠ x → S2.rs y = S.rs y := h_.elim (fun x_ => x_.2.2.2.2.2.2.2.2.2.2.2.2.2.2.2.2.1)
theorem bEn.rx {S S2 : bS} {x m : Int} {g f o : Int → Int} (h_ : bEn S S2 x m g f o) : S2.rb x = 0 := h_.elim (fun x_ => x_.2.2.2.2.2.2.2.2.2.2.2.2.2.2.2.2.2.1)
theorem bEn.ry {S S2 : bS} {x m : Int} {g f o : Int → Int} (h_ : bEn S S2 x m g f o) : ∀ y, y ≠ x → S2.rb y = S.rb y := h_.elim (fun x_ => x_.2.2.2.2.2.2.2.2.2.2.2.2.2.2.2.2.2.2.1)
theorem bEn.gx {S S2 : bS} {x m : Int} {g f o : Int → Int} (h_ : bEn S S2 x m g f o) : ∀ i, 0 ≤ i → i < m → S2.rg x i = g i ∧ S2.lf x i = f i ∧ S2.li x i = o i := h_.elim (fun x_ => x_.2.2.2.2.2.2.2.2.2.2.2.2.2.2.2.2.2.2.2.1)
theorem bEn.gy {S S2 : bS} {x m : Int} {g f o : Int → Int} (h_ : bEn S S2 x m g f o) : ∀ y i, y ≠ x → S2.rg y i = S.rg y i ∧ S2.lf y i = S.lf y i ∧ S2.li y i = S.li y i := h_.elim (fun x_ => x_.2.2.2.2.2.2.2.2.2.2.2.2.2.2.2.2.2.2.2.2)
theorem b_enstr {S S2 : bS} {rk : Int → Int} {x m : Int} {g f o : Int → Int} (h : bStr S) (hc : bCy S rk m g f o) (x0 : 20 ≤ x) (x1 : x < 30) (hx : ¬ bU S x) (hE : bEn S S2 x m g f o) : bStr S2 ∧ (∀ v, 0 ≤ v → v < S.n → (S2.H x v ↔ ∃ i, 0 ≤ i ∧ i < m ∧ g i = S.top v)) ∧ (∀ y, y ≠ x → (bU S2 y ↔ bU S y)) := by
  have m3 := hc.m3
  have hne : ∀ y, bU S y → y ≠ x := fun y hy e => hx (by rw [← e]; exact hy)
  have gu : ∀ i, 0 ≤ i → i < m → bU S (g i) := fun i i0 i1 => by
    obtain ⟨v, v0, v1, e⟩ := hc.tp i i0 i1
    exact ⟨v, by rw [← e]; exact h.th v v0 v1⟩
  have gt : ∀ i v, 0 ≤ i → i < m → S.H (g i) v → S.top v = g i := fun i v i0 i1 hv => by
    obtain ⟨u, u0, u1, e⟩ := hc.tp i i0 i1
    rw [← e] at hv ⊢
    exact b_ttop h u0 u1 hv
  have gd : ∀ i j v, 0 ≤ i → i < m → 0 ≤ j → j < m → S.H (g i) v → S.H (g j) v → i = j := fun i j v i0 i1 j0 j1 hi hj => by
    have e := (gt i v i0 i1 hi).symm.trans (gt j v j0 j1 hj)
    rcases Int.lt_trichotomy i j with c | c | c
    · exact absurd e (hc.dj i j i0 c j1)
    · exact c
    · exact absurd e.symm (hc.dj j i j0 c i1)
  have F1 : ∀ v, 0 ≤ v → v < S.n → (S2.H x v ↔ ∃ i, 0 ≤ i ∧ i < m ∧ g i = S.top v) := fun v v0 v1 => by
    rw [hE.hx v]
    refine ⟨fun ⟨i, i0, i1, z⟩ => ⟨i, i0, i1, (gt i v i0 i1 z).symm⟩, fun ⟨i, i0, i1, z⟩ => ⟨i, i0, i1, ?_⟩⟩
    rw [z]; exact h.th v v0 v1
  have U2 : ∀ y, y ≠ x → (bU S2 y ↔ bU S y) := fun y hy => ⟨fun ⟨v, z⟩ => ⟨v, (hE.hy y v hy).mp z⟩, fun ⟨v, z⟩ => ⟨v, (hE.hy y v hy).mpr z⟩⟩
  have hr : ∀ y v, S2.H y v → 0 ≤ y ∧ y < 30 ∧ 0 ≤ v ∧ v < S.n := fun y v hv => by
    by_cases c : y = x
    · rw [c] at hv ⊢
      obtain ⟨i, i0, i1, z⟩ := (hE.hx v).mp hv
      have r := h.hr _ _ z
      exact ⟨by omega, x1, r.2.2⟩
    · exact h.hr y v ((hE.hy y v c).mp hv)
  have ch : ∀ b i, 20 ≤ b → bU S b → 0 ≤ i → i < S.rs b → S.rg b i ≠ x := fun b i b0 hb i0 i1 => hne _ (h.rc b b0 hb i i0 i1)
  refine ⟨⟨by rw [hE.n]; exact h.n0, by rw [hE.n]; exact hr, fun y v hy => ?_, fun b b0 hb => ?_, fun b b0 hb i i0 i1 => ?_, fun b v b0 hb => ?_, fun b v i j b0 hb i0 ij j1 hi hj => ?_, fun b i b0 hb i0 i1 => ?_, fun v v0 v1 => ?_, fun y v w hv hw => ?_, fun y z hy z0 hz ne hs => ?_⟩, F1, U2⟩
  · rw [hE.hy y v (by omega), hE.n]; exact h.hs y v hy
  · by_cases c : b = x
    · rw [c, hE.sx]; exact m3
    · rw [hE.sy b c]; exact h.rm b b0 ((U2 b c).mp hb)
  · by_cases c : b = x
    · rw [c, hE.sx] at i1
      rw [c, (hE.gx i i0 i1).1]
      exact (U2 _ (hne _ (gu i i0 i1))).mpr (gu i i0 i1)
    · rw [hE.sy b c] at i1
      have hb := (U2 b c).mp hb
      rw [(hE.gy b i c).1]
      exact (U2 _ (ch b i b0 hb i0 i1)).mpr (h.rc b b0 hb i i0 i1)
  · by_cases c : b = x
    · rw [c, hE.hx v, hE.sx]
      refine ⟨fun ⟨i, i0, i1, z⟩ => ⟨i, i0, i1, ?_⟩, fun ⟨i, i0, i1, z⟩ => ⟨i, i0, i1, ?_⟩⟩
      · rw [(hE.gx i i0 i1).1]; exact (hE.hy _ v (hne _ (gu i i0 i1))).mpr z
      · rw [(hE.gx i i0 i1).1] at z; exact (hE.hy _ v (hne _ (gu i i0 i1))).mp z
    · have hb := (U2 b c).mp hb
      rw [hE.hy b v c, hE.sy b c, h.rh b v b0 hb]
      refine ⟨fun ⟨i, i0, i1, z⟩ => ⟨i, i0, i1, ?_⟩, fun ⟨i, i0, i1, z⟩ => ⟨i, i0, i1, ?_⟩⟩
      · rw [(hE.gy b i c).1]; exact (hE.hy _ v (ch b i b0 hb i0 i1)).mpr z
      · rw [(hE.gy b i c).1] at z; exact (hE.hy _ v (ch b i b0 hb i0 i1)).mp z
  · by_cases c : b = x
    · rw [c, hE.sx] at j1
      rw [c, (hE.gx i i0 (by omega)).1] at hi
      rw [c, (hE.gx j (by omega) j1).1] at hj
      have := gd i j v i0 (by omega) (by omega) j1 ((hE.hy _ v (hne _ (gu i i0 (by omega)))).mp hi) ((hE.hy _ v (hne _ (gu j (by omega) j1))).mp hj)
      omega
    · have hb := (U2 b c).mp hb
      rw [hE.sy b c] at j1
      rw [(hE.gy b i c).1] at hi
      rw [(hE.gy b j c).1] at hj
      exact h.rd b v i j b0 hb i0 ij j1 ((hE.hy _ v (ch b i b0 hb i0 (by omega))).mp hi) ((hE.hy _ v (ch b j b0 hb (by omega) j1)).mp hj)
  · by_cases c : b = x
    · rw [c, hE.sx] at i1
      have w2 := wr_rng (m := m) (i := i + 1) (by omega) (by omega)
      rw [c, hE.sx, (hE.gx i i0 i1).1, (hE.gx _ w2.1 w2.2).1, (hE.gx i i0 i1).2.1, (hE.gx i i0 i1).2.2, hE.hy _ _ (hne _ (gu i i0 i1)), hE.hy _ _ (hne _ (gu _ w2.1 w2.2))]
      have l := hc.lk i i0 i1
      exact ⟨l.1, l.2.1⟩
    · have hb := (U2 b c).mp hb
      rw [hE.sy b c] at i1
      have mm := h.rm b b0 hb
      have w2 := wr_rng (m := S.rs b) (i := i + 1) (by omega) (by omega)
      rw [hE.sy b c, (hE.gy b i c).1, (hE.gy b _ c).1, (hE.gy b i c).2.1, (hE.gy b i c).2.2, hE.hy _ _ (ch b i b0 hb i0 i1), hE.hy _ _ (ch b _ b0 hb w2.1 w2.2)]
      exact h.lk b i b0 hb i0 i1
  · rw [hE.n] at v1
    by_cases c : S2.H x v
    · rw [hE.t1 v v0 v1 c]; exact c
    · rw [hE.t2 v v0 v1 c]
      have z := h.th v v0 v1
      exact (hE.hy _ v (hne _ ⟨v, z⟩)).mpr z
  · have rv := hr y v hv
    have rw_ := hr y w hw
    by_cases c : y = x
    · rw [c] at hv hw
      rw [hE.t1 v rv.2.2.1 rv.2.2.2 hv, hE.t1 w rw_.2.2.1 rw_.2.2.2 hw]
    · have e := h.tt y v w ((hE.hy y v c).mp hv) ((hE.hy y w c).mp hw)
      have q1 := F1 v rv.2.2.1 rv.2.2.2
      have q2 := F1 w rw_.2.2.1 rw_.2.2.2
      rw [e] at q1
      by_cases cc : S2.H x v
      · rw [hE.t1 v rv.2.2.1 rv.2.2.2 cc, hE.t1 w rw_.2.2.1 rw_.2.2.2 (q2.mpr (q1.mp cc))]
      · rw [hE.t2 v rv.2.2.1 rv.2.2.2 cc, hE.t2 w rw_.2.2.1 rw_.2.2.2 (fun z => cc (q1.mpr (q2.mp z)))]
        exact e
  · by_cases c : z = x
    · have cy : y ≠ x := fun e => ne (e.trans c.symm)
      rw [c] at hs ⊢
      have hy := (U2 y cy).mp hy
      obtain ⟨v, hv⟩ := hy
      obtain ⟨i, i0, i1, hi⟩ := (hE.hx v).mp (hs v ((hE.hy y v cy).mpr hv))
      refine ⟨i, i0, by rw [hE.sx]; exact i1, fun w hw => ?_⟩
      rw [(hE.gx i i0 i1).1, hE.hy _ _ (hne _ (gu i i0 i1)), ← gt i v i0 i1 hi]
      exact b_tsub h hv w ((hE.hy y w cy).mp hw)
    · have hz := (U2 z c).mp hz
      by_cases cy : y = x
      · exfalso
        rw [cy] at hs
        obtain ⟨v, hv⟩ := gu 0 (by omega) (by omega)
        obtain ⟨w, hw⟩ := gu 1 (by omega) (by omega)
        have zv := (hE.hy z v c).mp (hs v ((hE.hx v).mpr ⟨0, by omega, by omega, hv⟩))
        have zw := (hE.hy z w c).mp (hs w ((hE.hx w).mpr ⟨1, by omega, by omega, hw⟩))
        have q := b_tsub h zv w zw
        rw [gt 0 v (by omega) (by omega) hv] at q
        have := gd 0 1 w (by omega) (by omega) (by omega) (by omega) q hw
        omega
      · have hy := (U2 y cy).mp hy
        obtain ⟨i, i0, i1, hi⟩ := h.lm y z hy z0 hz ne (fun v hv => (hE.hy z v c).mp (hs v ((hE.hy y v cy).mpr hv)))
        refine ⟨i, i0, by rw [hE.sy z c]; exact i1, fun v hv => ?_⟩
        rw [(hE.gy z i c).1, hE.hy _ _ (ch z i z0 hz i0 i1)]
        exact hi v ((hE.hy y v cy).mp hv)
theorem b_ensl {S S2 : bS} {x m : Int} {g f o : Int → Int} (h : bStr S) (hx : ¬ bU S x) (hE : bEn S S2 x m g f o) (x0 : 20 ≤ x) {v w : Int} (v1 : v < S.n) (w1 : w < S.n) : bsl S2 v w = bsl S v w := by
  classical
  have n0 := h.n0
  unfold bsl bZ
  rw [hE.C, hE.py v (by omega), hE.py w (by omega), mt_s_congr (g := fun k => if S.H (20 + (k : Int)) v ∧ S.H (20 + (k : Int)) w then S.p (20 + (k : Int)) else 0) (fun k _ => ?_)]
  by_cases c : 20 + (k : Int) = x
  · rw [c, hE.px, if_neg (c := S.H x v ∧ S.H x w) (fun z => hx ⟨v, z.1⟩)]
    split <;> rfl
  · have e1 := hE.hy _ v c
    have e2 := hE.hy _ w c
    rw [hE.py _ c]
    by_cases cc : S.H (20 + (k : Int)) v ∧ S.H (20 + (k : Int)) w
    · rw [if_pos cc, if_pos ⟨e1.mpr cc.1, e2.mpr cc.2⟩]
    · rw [if_neg cc, if_neg (fun z => cc ⟨e1.mp z.1, e2.mp z.2⟩)]
theorem b_ennd {S S2 : bS} {rk : Int → Int} {x m : Int} {g f o : Int → Int} (h : bStr S) (hN : bNd S) (hc : bCy S rk m g f o) (x0 : 20 ≤ x) (x1 : x < 30) (hx : ¬ bU S x) (hE : bEn S S2 x m g f o) : bNd S2 := fun y hy => by
  have m3 := hc.m3
  obtain ⟨-, -, U2⟩ := b_enstr h hc x0 x1 hx hE
  have hne : ∀ y, bU S y → y ≠ x := fun y hy e => hx (by rw [← e]; exact hy)
  have gu : ∀ i, 0 ≤ i → i < m → bU S (g i) := fun i i0 i1 => by
    obtain ⟨v, v0, v1, e⟩ := hc.tp i i0 i1
    exact ⟨v, by rw [← e]; exact h.th v v0 v1⟩
  by_cases c : y = x
  · subst c
    refine ⟨fun z => absurd z (by omega), fun _ => ?_⟩
    rw [hE.sx, hE.rx, hE.bx, (hE.gx 0 (by omega) (by omega)).1, hE.by_ _ (hne _ (gu 0 (by omega) (by omega)))]
    refine ⟨by omega, by omega, rfl, fun k k0 k1 ko => ?_⟩
    have e1 : wr m (0 + k) = k := by unfold wr; split <;> omega
    have e2 : wr m (0 + k + 1) = k + 1 := by unfold wr; split <;> omega
    rw [e1, e2, (hE.gx k (by omega) (by omega)).1, (hE.gx (k + 1) (by omega) (by omega)).1, (hE.gx k (by omega) (by omega)).2.1, (hE.gx k (by omega) (by omega)).2.2, hE.by_ _ (hne _ (gu k (by omega) (by omega))), hE.by_ _ (hne _ (gu (k + 1) (by omega) (by omega))), hE.ma]
    exact hc.lb k k0 k1 ko
  · have hy := (U2 y c).mp hy
    obtain ⟨l1, l2⟩ := hN y hy
    refine ⟨fun z => by rw [hE.by_ y c]; exact l1 z, fun z => ?_⟩
    obtain ⟨r0, r1, e, hk⟩ := l2 z
    have ch : ∀ i, 0 ≤ i → i < S.rs y → S.rg y i ≠ x := fun i i0 i1 => hne _ (h.rc y z hy i i0 i1)
    rw [hE.sy y c, hE.ry y c, hE.by_ y c, (hE.gy y _ c).1, hE.by_ _ (ch _ r0 r1)]
    refine ⟨r0, r1, e, fun k k0 k1 ko => ?_⟩
    have w1 := wr_rng (m := S.rs y) (i := S.rb y + k) (by omega) (by omega)
    have w2 := wr_rng (m := S.rs y) (i := S.rb y + k + 1) (by omega) (by omega)
    rw [(hE.gy y _ c).1, (hE.gy y _ c).1, (hE.gy y _ c).2.1, (hE.gy y _ c).2.2, hE.by_ _ (ch _ w1.1 w1.2), hE.by_ _ (ch _ w2.1 w2.2), hE.ma]
    exact hk k k0 k1 ko
