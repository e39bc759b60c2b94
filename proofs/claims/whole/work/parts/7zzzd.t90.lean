/-! PURE: the order of the pairs, the ends, the way round -/
def jlt (D : Int → Int → Int) (a b c d : Int) : Prop := D a b < D c d ∨ (D a b = D c d ∧ (a < c ∨ a = c ∧ b ≤ d))
def jl (n : Int) (D : Int → Int → Int) (S : jS) (a b : Int) : Prop := (0 ≤ a ∧ a < b ∧ b < n) ∧ jf S a b ∧ ∀ c d, 0 ≤ c → c < d → d < n → jf S c d → jlt D a b c d
theorem jl_uniq {n : Int} {D : Int → Int → Int} {S : jS} {a b c d : Int} (h : jl n D S a b) (h2 : jl n D S c d) : a = c ∧ b = d := by
  have x := h.2.2 c d h2.1.1 h2.1.2.1 h2.1.2.2 h2.2.1
  have y := h2.2.2 a b h.1.1 h.1.2.1 h.1.2.2 h.2.1
  unfold jlt at x y
  omega
def jk (n : Int) (D : Int → Int → Int) : Nat → jS → Prop
  | 0, S => S = jS0
  | k + 1, S2 => ∃ S a b, jk n D k S ∧ jl n D S a b ∧ S2 = jn S a b
theorem jk_uniq {n : Int} {D : Int → Int → Int} : ∀ {k : Nat} {S S2 : jS}, jk n D k S → jk n D k S2 → S = S2
  | 0, S, S2, h, h2 => (show S = jS0 from h).trans (show S2 = jS0 from h2).symm
  | k + 1, S, S2, ⟨T, a, b, h1, h2, h3⟩, ⟨T2, a2, b2, g1, g2, g3⟩ => by
    have e := jk_uniq h1 g1
    subst e
    obtain ⟨e1, e2⟩ := jl_uniq h2 g2
    rw [h3, g3, e1, e2]
theorem jl_D {n : Int} {D D2 : Int → Int → Int} {S : jS} {a b : Int} (hD : ∀ p q, 0 ≤ p → p < n → 0 ≤ q → q < n → D p q = D2 p q) (h : jl n D S a b) : jl n D2 S a b := by
  refine ⟨h.1, h.2.1, fun c d c0 cd d1 hf => ?_⟩
  have x := h.2.2 c d c0 cd d1 hf
  have h1 := h.1
  unfold jlt at x ⊢
  rw [← hD a b (by omega) (by omega) (by omega) (by omega), ← hD c d (by omega) (by omega) (by omega) (by omega)]
  exact x
theorem jk_D {n : Int} {D D2 : Int → Int → Int} (hD : ∀ p q, 0 ≤ p → p < n → 0 ≤ q → q < n → D p q = D2 p q) : ∀ {k : Nat} {S : jS}, jk n D k S → jk n D2 k S
  | 0, _, h => h
  | k + 1, _, ⟨T, a, b, h1, h2, h3⟩ => ⟨T, a, b, jk_D hD h1, jl_D hD h2, h3⟩
theorem jk_I {n : Nat} {D : Int → Int → Int} : ∀ {k : Nat} {S : jS}, jk n D k S → jI n k S
  | 0, S, h => by rw [show S = jS0 from h]; exact jI_0
  | k + 1, S, ⟨T, a, b, h1, h2, h3⟩ => by
    rw [h3]
    exact jI_s (jk_I h1) h2.1.1 (by have := h2.1; omega) (by have := h2.1; omega) h2.1.2.2 h2.2.1
theorem mt_s_pos {f : Nat → Int} : ∀ {n : Nat}, 0 < mt_s f n → ∃ i, i < n ∧ 0 < f i
  | 0, h => absurd h (by show ¬ (0 : Int) < 0; omega)
  | n + 1, h => by
    have h : 0 < mt_s f n + f n := h
    by_cases c : 0 < f n
    · exact ⟨n, by omega, c⟩
    · obtain ⟨i, i1, i2⟩ := mt_s_pos (f := f) (n := n) (by omega)
      exact ⟨i, by omega, i2⟩
/-- two of them -/
theorem mt_s_tw2 {f : Nat → Int} {n : Nat} (h1 : ∀ i, i < n → f i ≤ 1) (h : 2 ≤ mt_s f n) : ∃ i j, i < j ∧ j < n ∧ 0 < f i ∧ 0 < f j := by
  obtain ⟨i, i1, i2⟩ := mt_s_pos (f := f) (n := n) (by omega)
  have e := mt_s_one (f := f) (g := fun j => if j = i then 0 else f j) (j := i) (n := n) i1 (fun j _ hj => by show f j = if j = i then 0 else f j; rw [if_neg hj])
  have e : mt_s f n = mt_s (fun j => if j = i then 0 else f j) n + (f i - (if i = i then 0 else f i)) := e
  rw [if_pos rfl] at e
  have := h1 i i1
  obtain ⟨j, j1, j2⟩ := mt_s_pos (f := fun j => if j = i then 0 else f j) (n := n) (by omega)
  have j2 : 0 < if j = i then 0 else f j := j2
  by_cases c : j = i
  · rw [if_pos c] at j2; omega
  · rw [if_neg c] at j2
    rcases Nat.lt_or_ge i j with z | z
    · exact ⟨i, j, z, j1, i2, j2⟩
    · exact ⟨j, i, by omega, i1, j2, i2⟩
theorem jdg_r (S : jS) (c : Int) : 0 ≤ jdg S c ∧ jdg S c ≤ 2 := by
  unfold jdg
  (repeat' split) <;> omega
theorem jdg_ot {S : jS} {c : Int} (h3 : S.on c = -1 → S.ot c = -1) : S.ot c = -1 ↔ jdg S c < 2 := by
  unfold jdg
  by_cases a : S.on c = -1
  · rw [if_pos a]; exact ⟨fun _ => by omega, fun _ => h3 a⟩
  · rw [if_neg a]
    by_cases b : S.ot c = -1
    · rw [if_pos b]; exact ⟨fun _ => by omega, fun _ => b⟩
    · rw [if_neg b]; exact ⟨fun z => absurd z b, fun z => by omega⟩
/-- in each piece someone may still be joined -/
theorem jI_open {n k : Nat} {S : jS} (h : jI n k S) {a : Int} (a0 : 0 ≤ a) (a1 : a < n) : ∃ c, 0 ≤ c ∧ c < (n : Int) ∧ S.pc c = S.pc a ∧ S.ot c = -1 := by
  obtain ⟨i, i1, i2⟩ := mt_s_pos (n := n) (by rw [h.ws a a0 a1]; omega)
  have i2 : 0 < if S.pc (i : Int) = S.pc a then 2 - jdg S i else 0 := i2
  by_cases c : S.pc (i : Int) = S.pc a
  · rw [if_pos c] at i2
    exact ⟨i, by omega, by omega, c, (jdg_ot (h.n3 i (by omega) (by omega))).mpr (by omega)⟩
  · rw [if_neg c] at i2; omega
theorem jI_free {n k : Nat} {S : jS} (h : jI n k S) (hk : k + 2 ≤ n) : ∃ c d, 0 ≤ c ∧ c < d ∧ d < (n : Int) ∧ jf S c d := by
  obtain ⟨i, j, ij, j1, i2, j2⟩ := mt_s_tw2 (f := fun c : Nat => if S.pc c = (c : Int) then 1 else 0) (n := n) (fun i _ => by
    show (if S.pc (i : Int) = (i : Int) then (1 : Int) else 0) ≤ 1
    split <;> omega) (by rw [h.ct]; omega)
  have i2 : (0 : Int) < if S.pc (i : Int) = (i : Int) then 1 else 0 := i2
  have j2 : (0 : Int) < if S.pc (j : Int) = (j : Int) then 1 else 0 := j2
  have i3 : S.pc (i : Int) = (i : Int) := by
    by_cases c : S.pc (i : Int) = (i : Int)
    · exact c
    · rw [if_neg c] at i2; omega
  have j3 : S.pc (j : Int) = (j : Int) := by
    by_cases c : S.pc (j : Int) = (j : Int)
    · exact c
    · rw [if_neg c] at j2; omega
  obtain ⟨c, c0, c1, c2, c3⟩ := jI_open h (a := (i : Int)) (by omega) (by omega)
  obtain ⟨d, d0, d1, d2, d3⟩ := jI_open h (a := (j : Int)) (by omega) (by omega)
  have ne : S.pc c ≠ S.pc d := fun e => by rw [c2, d2, i3, j3] at e; omega
  rcases Int.lt_trichotomy c d with z | z | z
  · exact ⟨c, d, c0, z, d1, c3, d3, ne⟩
  · exact absurd (by rw [z]) ne
  · exact ⟨d, c, d0, z, c1, d3, c3, ne.symm⟩
/-- all is one piece at the end -/
theorem jI_one {n k : Nat} {S : jS} (h : jI n k S) (hk : k + 1 = n) {c d : Int} (c0 : 0 ≤ c) (c1 : c < n) (d0 : 0 ≤ d) (d1 : d < n) : S.pc c = S.pc d := by
  by_cases e : S.pc c = S.pc d
  · exact e
  · exfalso
    obtain ⟨⟨p0, p1⟩, p2⟩ := h.p1 c c0 c1
    obtain ⟨⟨q0, q1⟩, q2⟩ := h.p1 d d0 d1
    have le : mt_s (fun i : Nat => (if (i : Int) = S.pc c then 1 else 0) + (if (i : Int) = S.pc d then 1 else 0)) n ≤ mt_s (fun i : Nat => if S.pc i = (i : Int) then 1 else 0) n := mt_s_le (fun i hi => by
      show (if (i : Int) = S.pc c then (1 : Int) else 0) + (if (i : Int) = S.pc d then 1 else 0) ≤ if S.pc i = (i : Int) then 1 else 0
      by_cases c1 : (i : Int) = S.pc c
      · rw [if_pos c1, if_neg (fun z => e (c1.symm.trans z)), if_pos (by rw [c1]; exact p2)]; omega
      · rw [if_neg c1]
        by_cases c2 : (i : Int) = S.pc d
        · rw [if_pos c2, if_pos (by rw [c2]; exact q2)]; omega
        · rw [if_neg c2]; split <;> omega)
    rw [mt_s_add, mt_s_ind 1 p0 p1, mt_s_ind 1 q0 q1, h.ct] at le
    omega
/-- two ends of one piece: there are no more -/
theorem jI_ends {n k : Nat} {S : jS} (h : jI n k S) {c d : Int} (c0 : 0 ≤ c) (c1 : c < n) (d0 : 0 ≤ d) (d1 : d < n) (cd : c ≠ d) (e : S.pc c = S.pc d) (oc' : S.ot c = -1) (od : S.ot d = -1) : S.on c ≠ -1 ∧ S.on d ≠ -1 ∧ ∀ x, 0 ≤ x → x < (n : Int) → S.pc x = S.pc c → x ≠ c → x ≠ d → S.ot x ≠ -1 := by
  have dc := (jdg_ot (h.n3 c c0 c1)).mp oc'
  have dd' := (jdg_ot (h.n3 d d0 d1)).mp od
  have nn : ∀ i : Nat, i < n → 0 ≤ (if S.pc i = S.pc c then 2 - jdg S i else 0) - (if (i : Int) = c then 1 else 0) - (if (i : Int) = d then 1 else 0) := fun i hi => by
    have r := jdg_r S i
    by_cases z1 : (i : Int) = c
    · rw [if_pos z1, if_neg (fun z => cd (z1.symm.trans z)), if_pos (by rw [z1]), z1]; omega
    · rw [if_neg z1]
      by_cases z2 : (i : Int) = d
      · rw [if_pos z2, if_pos (by rw [z2]; exact e.symm), z2]; omega
      · rw [if_neg z2]; split <;> omega
  have tot : mt_s (fun i : Nat => (if S.pc i = S.pc c then 2 - jdg S i else 0) - (if (i : Int) = c then 1 else 0) - (if (i : Int) = d then 1 else 0)) n = 0 := by
    rw [mt_s_sub, mt_s_sub, h.ws c c0 c1, mt_s_ind 1 c0 c1, mt_s_ind 1 d0 d1]; omega
  have each : ∀ x, 0 ≤ x → x < (n : Int) → (if S.pc x = S.pc c then 2 - jdg S x else 0) - (if x = c then 1 else 0) - (if x = d then 1 else 0) ≤ 0 := fun x x0 x1 => by
    obtain ⟨i, rfl⟩ : ∃ i : Nat, x = i := ⟨x.toNat, by omega⟩
    have := mt_s_ge (f := fun i : Nat => (if S.pc i = S.pc c then 2 - jdg S i else 0) - (if (i : Int) = c then 1 else 0) - (if (i : Int) = d then 1 else 0)) (n := n) (j := i) nn (by omega)
    rw [tot] at this
    exact this
  refine ⟨fun z => ?_, fun z => ?_, fun x x0 x1 xe xc xd z => ?_⟩
  · have q := each c c0 c1
    have y : jdg S c = 0 := if_pos z
    rw [if_pos rfl, if_pos rfl, if_neg cd, y] at q
    omega
  · have q := each d d0 d1
    have y : jdg S d = 0 := if_pos z
    rw [if_pos e.symm, if_neg cd.symm, if_pos rfl, y] at q
    omega
  · have q := each x x0 x1
    have y := (jdg_ot (h.n3 x x0 x1)).mp z
    rw [if_pos xe, if_neg xc, if_neg xd] at q
    omega
theorem jI_two {n k : Nat} {S : jS} (h : jI n k S) (hk : k + 1 = n) (hn : 2 ≤ n) : ∃ c d, 0 ≤ c ∧ c < d ∧ d < (n : Int) ∧ S.ot c = -1 ∧ S.ot d = -1 := by
  have on0 : ∀ c, 0 ≤ c → c < (n : Int) → S.on c ≠ -1 := fun c c0 c1 z => by
    have a := h.sg c c0 c1 z 0 (by omega) (by omega) (jI_one h hk (by omega) (by omega) c0 c1)
    have b := h.sg c c0 c1 z 1 (by omega) (by omega) (jI_one h hk (by omega) (by omega) c0 c1)
    omega
  have e : mt_s (fun c : Nat => 2 - jdg S c) n = 2 := by
    refine Eq.trans (mt_s_congr (fun i hi => ?_)) (h.ws 0 (by omega) (by omega))
    show 2 - jdg S i = if S.pc i = S.pc 0 then 2 - jdg S i else 0
    rw [if_pos (jI_one h hk (by omega) (by omega) (by omega) (by omega))]
  obtain ⟨i, j, ij, j1, i2, j2⟩ := mt_s_tw2 (f := fun c : Nat => 2 - jdg S c) (n := n) (fun i hi => by
    show 2 - jdg S i ≤ 1
    have := on0 i (by omega) (by omega)
    unfold jdg
    rw [if_neg this]
    split <;> omega) (by omega)
  have i2 : 0 < 2 - jdg S i := i2
  have j2 : 0 < 2 - jdg S j := j2
  exact ⟨i, j, by omega, by omega, by omega, (jdg_ot (h.n3 i (by omega) (by omega))).mpr (by omega), (jdg_ot (h.n3 j (by omega) (by omega))).mpr (by omega)⟩
/-- the ring is closed -/
def jE (n : Nat) (D : Int → Int → Int) (S2 : jS) : Prop := ∃ S c d, jk n D (n - 1) S ∧ (0 ≤ c ∧ c < d ∧ d < (n : Int)) ∧ S.ot c = -1 ∧ S.ot d = -1 ∧ S2 = jt S c d
theorem jE_uniq {n : Nat} {D : Int → Int → Int} {S S2 : jS} (hn : 2 ≤ n) (h : jE n D S) (h2 : jE n D S2) : S = S2 := by
  obtain ⟨T, c, d, t1, ⟨c0, cd, d1⟩, t3, t4, t5⟩ := h
  obtain ⟨T2, a, b, u1, ⟨a0, ab, b1⟩, u3, u4, u5⟩ := h2
  have e := jk_uniq t1 u1
  subst e
  have I := jk_I t1
  have hk : n - 1 + 1 = n := by omega
  obtain ⟨-, -, z⟩ := jI_ends I (c := c) (d := d) c0 (by omega) (by omega) d1 (by omega) (jI_one I hk c0 (by omega) (by omega) d1) t3 t4
  have z1 : a = c ∨ a = d := by
    by_cases q : a = c
    · exact Or.inl q
    · by_cases q2 : a = d
      · exact Or.inr q2
      · exact absurd u3 (z a a0 (by omega) (jI_one I hk a0 (by omega) c0 (by omega)) q q2)
  have z2 : b = c ∨ b = d := by
    by_cases q : b = c
    · exact Or.inl q
    · by_cases q2 : b = d
      · exact Or.inr q2
      · exact absurd u4 (z b (by omega) b1 (jI_one I hk (by omega) b1 c0 (by omega)) q q2)
  have y1 : a = c := by omega
  have y2 : b = d := by omega
  rw [t5, u5, y1, y2]
theorem jE_D {n : Nat} {D D2 : Int → Int → Int} {S : jS} (hD : ∀ p q, 0 ≤ p → p < (n : Int) → 0 ≤ q → q < (n : Int) → D p q = D2 p q) (h : jE n D S) : jE n D2 S := by
  obtain ⟨T, c, d, t1, t2⟩ := h
  exact ⟨T, c, d, jk_D hD t1, t2⟩
abbrev jR (n : Nat) (S : jS) : Prop := Nonempty (PProd (∀ c, 0 ≤ c → c < (n : Int) → ((0 ≤ S.on c ∧ S.on c < n) ∧ S.on c ≠ c) ∧ ((0 ≤ S.ot c ∧ S.ot c < n) ∧ S.ot c ≠ c) ∧ S.on c ≠ S.ot c) (PProd (∀ c d, 0 ≤ c → c < (n : Int) → 0 ≤ d → d < (n : Int) → jnb S c d → jnb S d c) (∀ P : Int → Prop, (∀ c d, 0 ≤ c → c < (n : Int) → 0 ≤ d → d < (n : Int) → P c → jnb S c d → P d) → P 0 → ∀ c, 0 ≤ c → c < (n : Int) → P c)))
theorem jR.r {n : Nat} {S : jS} (h_ : jR n S) : ∀ c, 0 ≤ c → c < (n : Int) → ((0 ≤ S.on c ∧ S.on c < n) ∧ S.on c ≠ c) ∧ ((0 ≤ S.ot c ∧ S.ot c < n) ∧ S.ot c ≠ c) ∧ S.on c ≠ S.ot c := h_.elim (fun x_ => x_.1)
theorem jR.sy {n : Nat} {S : jS} (h_ : jR n S) : ∀ c d, 0 ≤ c → c < (n : Int) → 0 ≤ d → d < (n : Int) → jnb S c d → jnb S d c := h_.elim (fun x_ => x_.2.1)
theorem jR.cl {n : Nat} {S : jS} (h_ : jR n S) : ∀ P : Int → Prop, (∀ c d, 0 ≤ c → c < (n : Int) → 0 ≤ d → d < (n : Int) → P c → jnb S c d → P d) → P 0 → ∀ c, 0 ≤ c → c < (n : Int) → P c := h_.elim (fun x_ => x_.2.2)
theorem jE_R {n : Nat} {D : Int → Int → Int} {S2 : jS} (hn : 3 ≤ n) (h : jE n D S2) : jR n S2 := by
  obtain ⟨S, c, d, t1, ⟨c0, cd, d1⟩, t3, t4, rfl⟩ := h
  have I := jk_I t1
  have hk : n - 1 + 1 = n := by omega
  have one : ∀ {x y : Int}, 0 ≤ x → x < n → 0 ≤ y → y < n → S.pc x = S.pc y := fun a b c d => jI_one I hk a b c d
  obtain ⟨onc, ond, oth⟩ := jI_ends I (c := c) (d := d) c0 (by omega) (by omega) d1 (by omega) (one c0 (by omega) (by omega) d1) t3 t4
  have hh : jh S c d := ⟨by omega, c0, by omega, t3, t4⟩
  have nb : ∀ {x y : Int}, 0 ≤ y → (jnb (jt S c d) x y ↔ jnb S x y ∨ (x = c ∧ y = d) ∨ (x = d ∧ y = c)) := fun hy => jt_nb hh hy
  have on_ : ∀ x, (jt S c d).on x = S.on x := fun x => by
    rw [jt_on hh.ab, if_neg (fun z => ond z.2), if_neg (fun z => onc z.2)]
  have otc : (jt S c d).ot c = d := by
    rw [jt_ot hh.ab, if_neg (fun z => hh.ab z.1), if_pos ⟨rfl, onc⟩]
  have otd : (jt S c d).ot d = c := by
    rw [jt_ot hh.ab, if_pos ⟨rfl, ond⟩]
  have oto : ∀ x, x ≠ c → x ≠ d → (jt S c d).ot x = S.ot x := fun x h1 h2 => by
    rw [jt_ot hh.ab, if_neg (fun z => h2 z.1), if_neg (fun z => h1 z.1)]
  have far : ¬ jnb S c d := fun z => by
    have z2 := I.sy c d c0 (by omega) (by omega) d1 z
    have e1 : S.on c = d := by
      rcases z with z | z
      · exact z
      · rw [t3] at z; omega
    have e2 : S.on d = c := by
      rcases z2 with z | z
      · exact z
      · rw [t4] at z; omega
    have all : ∀ x, 0 ≤ x → x < (n : Int) → x = c ∨ x = d := fun x x0 x1 => I.cl (fun x => x = c ∨ x = d) (fun p q p0 p1 q0 q1 hp hq => by
      rcases hp with rfl | rfl
      · rcases hq with y | y
        · exact Or.inr (by omega)
        · rw [t3] at y; omega
      · rcases hq with y | y
        · exact Or.inl (by omega)
        · rw [t4] at y; omega) c x c0 (by omega) x0 x1 (one c0 (by omega) x0 x1) (Or.inl rfl)
    have a0 := all 0 (by omega) (by omega)
    have a1 := all 1 (by omega) (by omega)
    have a2 := all 2 (by omega) (by omega)
    omega
  refine ⟨fun x x0 x1 => ?_, fun x y x0 x1 y0 y1 hx => ?_, fun P hP h0 x x0 x1 => ?_⟩
  · have onx : S.on x ≠ -1 := fun z => by
      have a := I.sg x x0 x1 z 0 (by omega) (by omega) (one (by omega) (by omega) x0 x1)
      have b := I.sg x x0 x1 z 1 (by omega) (by omega) (one (by omega) (by omega) x0 x1)
      omega
    have r1 := I.nr x (S.on x) x0 x1 (Or.inl rfl) onx
    rw [on_]
    refine ⟨⟨r1.1, r1.2.1⟩, ?_⟩
    by_cases z1 : x = c
    · rw [z1, otc]
      exact ⟨⟨⟨by omega, d1⟩, by omega⟩, fun z => far (Or.inl z)⟩
    · by_cases z2 : x = d
      · rw [z2, otd]
        exact ⟨⟨⟨c0, by omega⟩, by omega⟩, fun z => far (I.sy d c (by omega) d1 c0 (by omega) (Or.inl z))⟩
      · rw [oto x z1 z2]
        have o2 := oth x x0 x1 (one x0 x1 c0 (by omega)) z1 z2
        have r2 := I.nr x (S.ot x) x0 x1 (Or.inr rfl) o2
        exact ⟨⟨r2.1, r2.2.1⟩, I.n4 x x0 x1 o2⟩
  · rcases (nb y0).mp hx with z | ⟨z1, z2⟩ | ⟨z1, z2⟩
    · exact (nb x0).mpr (Or.inl (I.sy x y x0 x1 y0 y1 z))
    · exact (nb x0).mpr (Or.inr (Or.inr ⟨z2, z1⟩))
    · exact (nb x0).mpr (Or.inr (Or.inl ⟨z2, z1⟩))
  · exact I.cl P (fun p q p0 p1 q0 q1 hp hq => hP p q p0 p1 q0 q1 hp ((nb q0).mpr (Or.inl hq))) 0 x (by omega) (by omega) x0 x1 (one (by omega) (by omega) x0 x1) h0
/-- the way round -/
def fo (n : Int) (S : jS) (t : Int → Int) : Prop := t 0 = 0 ∧ (1 < n → t 1 = if S.on 0 ≤ S.ot 0 then S.on 0 else S.ot 0) ∧ ∀ i, 2 ≤ i → i < n → t i = if S.on (t (i - 1)) = t (i - 2) then S.ot (t (i - 1)) else S.on (t (i - 1))
theorem fo_uniq {n : Int} {S : jS} {t t2 : Int → Int} (h : fo n S t) (h2 : fo n S t2) : ∀ i, 0 ≤ i → i < n → t i = t2 i := by
  have key : ∀ m : Nat, (m : Int) < n → t m = t2 m ∧ (1 ≤ m → t ((m : Int) - 1) = t2 ((m : Int) - 1)) := by
    intro m
    induction m with
    | zero => exact fun _ => ⟨h.1.trans h2.1.symm, fun z => absurd z (by omega)⟩
    | succ m ih =>
      intro hm
      obtain ⟨i1, i2⟩ := ih (by omega)
      refine ⟨?_, fun _ => by rw [show ((m + 1 : Nat) : Int) - 1 = m by omega]; exact i1⟩
      by_cases c : m = 0
      · subst c
        show t 1 = t2 1
        rw [h.2.1 (by omega), h2.2.1 (by omega)]
      · rw [h.2.2 _ (by omega) hm, h2.2.2 _ (by omega) hm, show ((m + 1 : Nat) : Int) - 1 = m by omega, show ((m + 1 : Nat) : Int) - 2 = (m : Int) - 1 by omega, i1, i2 (by omega)]
  intro i i0 i1
  obtain ⟨m, rfl⟩ : ∃ m : Nat, i = m := ⟨i.toNat, by omega⟩
  exact (key m i1).1
theorem inj_us {n : Nat} {t : Int → Int} : ∀ k : Nat, (∀ i, 0 ≤ i → i < (k : Int) → 0 ≤ t i ∧ t i < n) → (∀ i j, 0 ≤ i → i < j → j < (k : Int) → t i ≠ t j) → ∃ u, us_of n k u t ∧ s_sum u n = k
  | 0, _, _ => ⟨fun _ => 0, ⟨fun _ _ _ => Or.inl rfl, fun y _ _ => ⟨fun z => absurd (show (0 : Int) = 1 from z) (by decide), fun ⟨j, j0, j1, _⟩ => by omega⟩⟩, mt_s_zero n⟩
  | k + 1, hr, hd => by
    obtain ⟨u, h1, h2⟩ := inj_us (t := t) k (fun i i0 i1 => hr i i0 (by omega)) (fun i j i0 ij j1 => hd i j i0 ij (by omega))
    have r := hr k (by omega) (by omega)
    have z : u (t k) = 0 := by
      rcases h1.1 (t k) r.1 r.2 with z | z
      · exact z
      · obtain ⟨j, j0, j1, j2⟩ := (h1.2 (t k) r.1 r.2).mp z
        exact absurd j2 (hd j k j0 j1 (by omega))
    refine ⟨fun y => if y = t k then 1 else u y, ?_, ?_⟩
    · have := us_more (n := n) (k := k) (u := u) (t := t) (t2 := t) (u2 := fun y => if y = t k then 1 else u y) (v := t k) (by omega) h1 (fun _ _ _ => rfl) (fun _ _ _ => rfl) rfl
      exact this
    · rw [s_sum_if r.1 r.2 (fun y _ _ => rfl) z, h2]; omega
theorem fo_inj {n : Nat} {S : jS} {t : Int → Int} (hn : 3 ≤ n) (hR : jR n S) (h : fo n S t) : ∀ k : Nat, k ≤ n → (∀ i, 0 ≤ i → i < (k : Int) → 0 ≤ t i ∧ t i < n) ∧ (∀ i j, 0 ≤ i → i < j → j < (k : Int) → t i ≠ t j)
  | 0, _ => ⟨fun i i0 i1 => by omega, fun i j i0 ij j1 => by omega⟩
  | 1, _ => ⟨fun i i0 i1 => by rw [show i = 0 by omega, h.1]; omega, fun i j i0 ij j1 => by omega⟩
  | k + 2, hk => by
    obtain ⟨ir, id'⟩ := fo_inj hn hR h (k + 1) (by omega)
    -- neighbours on the way
    have r0 := hR.r 0 (by omega) (by omega)
    have nx : ∀ m : Int, 0 ≤ m → m ≤ (k : Int) → jnb S (t m) (t (m + 1)) := fun m m0 m1 => by
      by_cases z : m = 0
      · rw [z, h.1, show (0 : Int) + 1 = 1 by omega, h.2.1 (by omega)]
        unfold jnb
        split
        · exact Or.inl rfl
        · exact Or.inr rfl
      · rw [h.2.2 (m + 1) (by omega) (by omega), show m + 1 - 1 = m by omega]
        unfold jnb
        split
        · exact Or.inr rfl
        · exact Or.inl rfl
    have rk := ir k (by omega) (by omega)
    have rr := hR.r (t k) rk.1 rk.2
    have rn : 0 ≤ t ((k : Int) + 1) ∧ t ((k : Int) + 1) < n := by
      rcases nx k (by omega) (Int.le_refl _) with z | z
      · rw [← z]; exact rr.1.1
      · rw [← z]; exact rr.2.1.1
    have ne1 : t ((k : Int) + 1) ≠ t k := by
      rcases nx k (by omega) (Int.le_refl _) with z | z
      · rw [← z]; exact rr.1.2
      · rw [← z]; exact rr.2.1.2
    have ne2 : 1 ≤ k → t ((k : Int) + 1) ≠ t ((k : Int) - 1) := fun k1 => by
      rw [h.2.2 ((k : Int) + 1) (by omega) (by omega), show (k : Int) + 1 - 1 = k by omega, show (k : Int) + 1 - 2 = (k : Int) - 1 by omega]
      split
      · rename_i z
        intro y
        exact rr.2.2 (z.trans y.symm)
      · rename_i z
        exact z
    -- who lies between two has no other neighbours
    have two : ∀ {c x y w : Int}, 0 ≤ c → c < n → jnb S c x → jnb S c y → x ≠ y → jnb S c w → w = x ∨ w = y := fun c0 c1 hx hy xy hw => by
      unfold jnb at hx hy hw
      omega
    have back : jnb S (t ((k : Int) + 1)) (t k) := hR.sy _ _ rk.1 rk.2 rn.1 rn.2 (nx k (by omega) (Int.le_refl _))
    have new : ∀ j, 0 ≤ j → j < ((k + 1 : Nat) : Int) → t j ≠ t ((k : Int) + 1) := fun j j0 j1 e => by
      have jk1 : j < (k : Int) := by
        by_cases z : j = (k : Int)
        · rw [z] at e; exact absurd e.symm ne1
        · omega
      have rj := ir j j0 (by omega)
      rw [← e] at back
      by_cases z : j = 0
      · subst z
        have k2 : 2 ≤ k := by
          by_cases y : k = 1
          · subst y
            exact absurd e.symm (ne2 (by omega))
          · omega
        have d1 : t 1 ≠ t k := id' 1 k (by omega) (by omega) (by omega)
        obtain ⟨u, u1, u2⟩ := inj_us (n := n) (t := t) (k + 1) ir id'
        obtain ⟨y, y0, y1, y2⟩ := us_left (n := n) (k := ((k + 1 : Nat) : Int)) (by omega) u1.1 u2
        have all := hR.cl (fun c => ∃ i, 0 ≤ i ∧ i < ((k + 1 : Nat) : Int) ∧ t i = c) (fun c d c0 c1 d0 d1' ⟨i, i0, i1, ic⟩ hnb => by
          subst ic
          by_cases q0 : i = 0
          · subst q0
            rcases two c0 c1 (nx 0 (by omega) (by omega)) back d1 hnb with q | q
            · exact ⟨1, by omega, by omega, q.symm⟩
            · exact ⟨k, by omega, by omega, q.symm⟩
          · have pv : jnb S (t i) (t (i - 1)) := by
              have a := ir (i - 1) (by omega) (by omega)
              have b := nx (i - 1) (by omega) (by omega)
              rw [show i - 1 + 1 = i by omega] at b
              exact hR.sy _ _ a.1 a.2 c0 c1 b
            by_cases qk : i = (k : Int)
            · subst qk
              rcases two c0 c1 pv (nx k (by omega) (Int.le_refl _)) (fun q => ne2 (by omega) q.symm) hnb with q | q
              · exact ⟨(k : Int) - 1, by omega, by omega, q.symm⟩
              · exact ⟨0, by omega, by omega, by rw [q]; exact e⟩
            · rcases two c0 c1 pv (nx i i0 (by omega)) (id' (i - 1) (i + 1) (by omega) (by omega) (by omega)) hnb with q | q
              · exact ⟨i - 1, by omega, by omega, q.symm⟩
              · exact ⟨i + 1, by omega, by omega, q.symm⟩) ⟨0, by omega, by omega, h.1⟩ y y0 y1
        have := (u1.2 y y0 y1).mpr all
        omega
      · have pv : jnb S (t j) (t (j - 1)) := by
          have a := ir (j - 1) (by omega) (by omega)
          have b := nx (j - 1) (by omega) (by omega)
          rw [show j - 1 + 1 = j by omega] at b
          exact hR.sy _ _ a.1 a.2 rj.1 rj.2 b
        rcases two rj.1 rj.2 pv (nx j j0 (by omega)) (id' (j - 1) (j + 1) (by omega) (by omega) (by omega)) back with q | q
        · exact id' (j - 1) k (by omega) (by omega) (by omega) q.symm
        · by_cases y : j + 1 = (k : Int)
          · rw [show j = (k : Int) - 1 by omega] at e
            exact ne2 (by omega) e.symm
          · exact id' (j + 1) k (by omega) (by omega) (by omega) q.symm
    refine ⟨fun i i0 i1 => ?_, fun i j i0 ij j1 => ?_⟩
    · by_cases z : i = (k : Int) + 1
      · rw [z]; exact rn
      · exact ir i i0 (by omega)
    · by_cases z : j = (k : Int) + 1
      · rw [z]; exact new i i0 (by omega)
      · exact id' i j i0 ij (by omega)
theorem fo_all {n : Nat} {S : jS} {t : Int → Int} (hn : 3 ≤ n) (hR : jR n S) (h : fo n S t) : st_ok n t ∧ ∀ y, 0 ≤ y → y < (n : Int) → ∃ j, 0 ≤ j ∧ j < (n : Int) ∧ t j = y := by
  obtain ⟨a, b⟩ := fo_inj hn hR h n (Nat.le_refl n)
  obtain ⟨u, u1, u2⟩ := inj_us (n := n) (t := t) n a b
  exact ⟨a, fun y y0 y1 => us_all u1 u2 y0 y1⟩
