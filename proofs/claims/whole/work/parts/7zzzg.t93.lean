/-! the other one joins pairs: all pairs in their order -/
def yu (u : Int → Int → Prop) (a b : Int) : Int → Int → Prop := fun c d => u c d ∨ (c = a ∧ d = b)
abbrev yA (N : Nat) (D : Int → Int → Int) (u : Int → Int → Prop) (k : Nat) (S : jS) : Prop := Nonempty (PProd (jk N D k S) (PProd (k + 1 ≤ N) (PProd (∀ c d, 0 ≤ c → c < d → d < (N : Int) → u c d → ¬ jf S c d) (k + 1 = N → 3 ≤ N → ∀ c d, 0 ≤ c → c < d → d < (N : Int) → u c d → S.ot c ≠ -1 ∨ S.ot d ≠ -1))))
theorem yA.k1 {N : Nat} {D : Int → Int → Int} {u : Int → Int → Prop} {k : Nat} {S : jS} (h_ : yA N D u k S) : jk N D k S := h_.elim (fun x_ => x_.1)
theorem yA.le {N : Nat} {D : Int → Int → Int} {u : Int → Int → Prop} {k : Nat} {S : jS} (h_ : yA N D u k S) : k + 1 ≤ N := h_.elim (fun x_ => x_.2.1)
theorem yA.b1 {N : Nat} {D : Int → Int → Int} {u : Int → Int → Prop} {k : Nat} {S : jS} (h_ : yA N D u k S) : ∀ c d, 0 ≤ c → c < d → d < (N : Int) → u c d → ¬ jf S c d := h_.elim (fun x_ => x_.2.2.1)
theorem yA.b3 {N : Nat} {D : Int → Int → Int} {u : Int → Int → Prop} {k : Nat} {S : jS} (h_ : yA N D u k S) : k + 1 = N → 3 ≤ N → ∀ c d, 0 ≤ c → c < d → d < (N : Int) → u c d → S.ot c ≠ -1 ∨ S.ot d ≠ -1 := h_.elim (fun x_ => x_.2.2.2)
def yP (N : Nat) (D : Int → Int → Int) (u : Int → Int → Prop) (k : Nat) (S : jS) : Prop := yA N D u k S ∨ (3 ≤ N ∧ k = N ∧ jE N D S)
theorem yP_take {N : Nat} {D : Int → Int → Int} {u : Int → Int → Prop} {k : Nat} {S : jS} {a b : Int} (h : yP N D u k S) (hr : 0 ≤ a ∧ a < b ∧ b < (N : Int)) (hl : ∀ c d, 0 ≤ c → c < d → d < (N : Int) → ¬ u c d → jlt D a b c d) (hf : jf S a b) : yP N D (yu u a b) (k + 1) (jn S a b) := by
  rcases h with h | ⟨n3, -, hE⟩
  · have I := jk_I h.k1
    have ne : k + 1 ≠ N := fun e => hf.2.2 (jI_one I e (by omega) (by omega) (by omega) (by omega))
    have le := h.le
    have hh : jh S a b := ⟨by omega, by omega, by omega, hf.1, hf.2.1⟩
    have jlab : jl N D S a b := ⟨hr, hf, fun c d c0 cd d1 z => hl c d c0 cd d1 (fun y => h.b1 c d c0 cd d1 y z)⟩
    have k2 : jk N D (k + 1) (jn S a b) := ⟨S, a, b, h.k1, jlab, rfl⟩
    have I2 := jk_I k2
    have hp : ∀ c, (jn S a b).pc c = if S.pc c = S.pc b then S.pc a else S.pc c := fun _ => rfl
    refine Or.inl ⟨k2, by omega, fun c d c0 cd d1 hu z => ?_, fun e n3 c d c0 cd d1 hu => ?_⟩
    · have z1 := (jt_ot_m hh).mp z.1
      have z2 := (jt_ot_m hh).mp z.2.1
      rcases hu with hu | ⟨e1, e2⟩
      · refine h.b1 c d c0 cd d1 hu ⟨z1.1, z2.1, fun y => z.2.2 ?_⟩
        rw [hp, hp, y]
      · refine z.2.2 ?_
        rw [hp, hp, e1, e2, if_neg hf.2.2, if_pos rfl]
    · by_cases o1 : (jn S a b).ot c = -1
      · by_cases o2 : (jn S a b).ot d = -1
        · exfalso
          have z1 := (jt_ot_m hh).mp o1
          have z2 := (jt_ot_m hh).mp o2
          have two : ∀ x, 0 ≤ x → x < (N : Int) → S.pc x = S.pc a ∨ S.pc x = S.pc b := fun x x0 x1 => by
            have q := jI_one I2 e (c := x) (d := a) x0 x1 (by omega) (by omega)
            rw [hp, hp, if_neg hf.2.2] at q
            by_cases y : S.pc x = S.pc b
            · exact Or.inr y
            · rw [if_neg y] at q; exact Or.inl q
          rcases hu with hu | ⟨e1, e2⟩
          · have pe : S.pc c = S.pc d := by
              by_cases y : S.pc c = S.pc d
              · exact y
              · exact absurd ⟨z1.1, z2.1, y⟩ (h.b1 c d c0 cd d1 hu)
            obtain ⟨o3, o4, o5⟩ := jI_ends I c0 (by omega) (by omega) d1 (by omega) pe z1.1 z2.1
            have key : ∀ x, 0 ≤ x → x < (N : Int) → S.pc x = S.pc c → S.ot x = -1 → (x = a ∨ x = b) → False := fun x x0 x1 xe xo xab => by
              have xcd : x = c ∨ x = d := by
                by_cases y : x = c
                · exact Or.inl y
                · by_cases y2 : x = d
                  · exact Or.inr y2
                  · exact absurd xo (o5 x x0 x1 xe y y2)
              rcases xab with rfl | rfl <;> rcases xcd with y | y
              · exact o3 (by rw [← y]; exact z1.2.1 y.symm)
              · exact o4 (by rw [← y]; exact z2.2.1 y.symm)
              · exact o3 (by rw [← y]; exact z1.2.2 y.symm)
              · exact o4 (by rw [← y]; exact z2.2.2 y.symm)
            rcases two c c0 (by omega) with y | y
            · exact key a (by omega) (by omega) y.symm hf.1 (Or.inl rfl)
            · exact key b (by omega) (by omega) y.symm hf.2.1 (Or.inr rfl)
          · have oa := z1.2.1 e1
            have ob := z2.2.2 e2
            have all : ∀ x, 0 ≤ x → x < (N : Int) → x = a ∨ x = b := fun x x0 x1 => by
              rcases two x x0 x1 with y | y
              · exact Or.inl (I.sg a (by omega) (by omega) oa x x0 x1 y)
              · exact Or.inr (I.sg b (by omega) (by omega) ob x x0 x1 y)
            have a0 := all 0 (by omega) (by omega)
            have a1 := all 1 (by omega) (by omega)
            have a2 := all 2 (by omega) (by omega)
            omega
        · exact Or.inr o2
      · exact Or.inl o1
  · have := (jE_R n3 hE).r a (by omega) (by omega)
    have := hf.1
    omega
theorem yP_close {N : Nat} {D : Int → Int → Int} {u : Int → Int → Prop} {k : Nat} {S : jS} {a b : Int} (h : yP N D u k S) (hr : 0 ≤ a ∧ a < b ∧ b < (N : Int)) (oa : S.ot a = -1) (ob : S.ot b = -1) (pe : S.pc a = S.pc b) (hk : k + 1 = N) (n3 : 3 ≤ N) : yP N D (yu u a b) (k + 1) (jn S a b) := by
  rcases h with h | ⟨_, e, _⟩
  · refine Or.inr ⟨n3, hk, S, a, b, ?_, hr, oa, ob, ?_⟩
    · rw [show N - 1 = k by omega]; exact h.k1
    · unfold jn
      have : (fun c => if S.pc c = S.pc b then S.pc a else S.pc c) = (jt S a b).pc := funext fun c => by
        show (if S.pc c = S.pc b then S.pc a else S.pc c) = S.pc c
        split
        · rename_i z
          rw [z, pe]
        · rfl
      rw [this]
  · omega
theorem yP_skip {N : Nat} {D : Int → Int → Int} {u : Int → Int → Prop} {k : Nat} {S : jS} {a b : Int} (h : yP N D u k S) (hs : S.ot a ≠ -1 ∨ S.ot b ≠ -1 ∨ (S.pc a = S.pc b ∧ k + 1 ≠ N)) : yP N D (yu u a b) k S := by
  rcases h with h | h
  · refine Or.inl ⟨h.k1, h.le, fun c d c0 cd d1 hu z => ?_, fun e n3 c d c0 cd d1 hu => ?_⟩
    · rcases hu with hu | ⟨e1, e2⟩
      · exact h.b1 c d c0 cd d1 hu z
      · rw [e1, e2] at z
        rcases hs with y | y | y
        · exact y z.1
        · exact y z.2.1
        · exact z.2.2 y.1
    · rcases hu with hu | ⟨e1, e2⟩
      · exact h.b3 e n3 c d c0 cd d1 hu
      · rw [e1, e2]
        rcases hs with y | y | y
        · exact Or.inl y
        · exact Or.inr y
        · exact absurd e y.2
  · exact Or.inr h
theorem yP_end {N : Nat} {D : Int → Int → Int} {u : Int → Int → Prop} {k : Nat} {S : jS} (h : yP N D u k S) (hu : ∀ c d, 0 ≤ c → c < d → d < (N : Int) → u c d) : (3 ≤ N → jE N D S) ∧ (N = 2 → jk 2 D 1 S) := by
  rcases h with h | ⟨n3, e, hE⟩
  · have I := jk_I h.k1
    have le := h.le
    have e : k + 1 = N := by
      by_cases e : k + 1 = N
      · exact e
      · obtain ⟨c, d, c0, cd, d1, hf⟩ := jI_free I (by omega)
        exact absurd hf (h.b1 c d c0 cd d1 (hu c d c0 cd d1))
    refine ⟨fun n3 => ?_, fun n2 => ?_⟩
    · exfalso
      obtain ⟨c, d, c0, cd, d1, o1, o2⟩ := jI_two I e (by omega)
      rcases h.b3 e n3 c d c0 cd d1 (hu c d c0 cd d1) with y | y
      · exact y o1
      · exact y o2
    · subst n2
      have := h.k1
      rw [show k = 1 by omega] at this
      exact this
  · exact ⟨fun _ => hE, fun y => by omega⟩
theorem yP_u {N : Nat} {D : Int → Int → Int} {u u2 : Int → Int → Prop} {k : Nat} {S : jS} (h : yP N D u k S) (e : ∀ c d, 0 ≤ c → c < d → d < (N : Int) → (u2 c d → u c d)) : yP N D u2 k S := by
  rcases h with h | h
  · exact Or.inl ⟨h.k1, h.le, fun c d c0 cd d1 hu => h.b1 c d c0 cd d1 (e c d c0 cd d1 hu), fun a b c d c0 cd d1 hu => h.b3 a b c d c0 cd d1 (e c d c0 cd d1 hu)⟩
  · exact Or.inr h
theorem yP_r {N : Nat} {D : Int → Int → Int} {u : Int → Int → Prop} {k : Nat} {S : jS} (h : yP N D u k S) : k ≤ N ∧ ∀ c, 0 ≤ c → c < (N : Int) → (0 ≤ S.pc c ∧ S.pc c < N) ∧ (S.on c = -1 → S.ot c = -1) := by
  rcases h with h | ⟨n3, e, hE⟩
  · have I := jk_I h.k1
    exact ⟨by have := h.le; omega, fun c c0 c1 => ⟨(I.p1 c c0 c1).1, I.n3 c c0 c1⟩⟩
  · refine ⟨by omega, fun c c0 c1 => ⟨?_, fun z => ?_⟩⟩
    · obtain ⟨T, x, y, h1, -, -, -, h5⟩ := hE
      rw [h5]
      exact ((jk_I h1).p1 c c0 c1).1
    · have := (jE_R n3 hE).r c c0 c1
      omega
/-! how many pairs are used -/
def yus (f : Int → Int) (N : Nat) : Int := mt_s (fun c : Nat => mt_s (fun d : Nat => if c < d then f (20 * (c : Int) + d) else 0) N) N
def ytri (N : Nat) : Int := yus (fun _ => 1) N
theorem ytri_e : ∀ N : Fin 21, ytri N.val = (N.val : Int) * ((N.val : Int) - 1) / 2 := by decide +kernel
theorem ytri_n {N : Nat} (h : N ≤ 20) : ytri N = (N : Int) * ((N : Int) - 1) / 2 := ytri_e ⟨N, by omega⟩
theorem ytri_b : ∀ N : Fin 21, 0 ≤ (N.val : Int) * ((N.val : Int) - 1) ∧ (N.val : Int) * ((N.val : Int) - 1) ≤ 380 := by decide
theorem yus_w {f f2 : Int → Int} {N : Nat} {a b : Int} (hN : N ≤ 20) (hr : 0 ≤ a ∧ a < b ∧ b < (N : Int)) (h0 : f (20 * a + b) = 0) (e : ∀ x, f2 x = if x = 20 * a + b then 1 else f x) : yus f2 N = yus f N + 1 := by
  obtain ⟨p, rfl⟩ : ∃ p : Nat, a = p := ⟨a.toNat, by omega⟩
  obtain ⟨q, rfl⟩ : ∃ q : Nat, b = q := ⟨b.toNat, by omega⟩
  have o := mt_s_one (f := fun c : Nat => mt_s (fun d : Nat => if c < d then f2 (20 * (c : Int) + d) else 0) N) (g := fun c : Nat => mt_s (fun d : Nat => if c < d then f (20 * (c : Int) + d) else 0) N) (j := p) (n := N) (by omega) (fun i hi hne => mt_s_congr (fun d hd => by
    show (if i < d then f2 (20 * (i : Int) + d) else 0) = if i < d then f (20 * (i : Int) + d) else 0
    rw [show f2 (20 * (i : Int) + d) = f (20 * (i : Int) + d) from (e _).trans (if_neg (by omega))]))
  have o2 := mt_s_one (f := fun d : Nat => if p < d then f2 (20 * (p : Int) + d) else 0) (g := fun d : Nat => if p < d then f (20 * (p : Int) + d) else 0) (j := q) (n := N) (by omega) (fun d hd hne => by
    show (if p < d then f2 (20 * (p : Int) + d) else 0) = if p < d then f (20 * (p : Int) + d) else 0
    rw [show f2 (20 * (p : Int) + d) = f (20 * (p : Int) + d) from (e _).trans (if_neg (by omega))])
  have e1 : (if p < q then f2 (20 * (p : Int) + q) else 0) = 1 := by rw [if_pos (by omega), e, if_pos rfl]
  have e2 : (if p < q then f (20 * (p : Int) + q) else 0) = 0 := by rw [if_pos (by omega), h0]
  have o2 : mt_s (fun d : Nat => if p < d then f2 (20 * (p : Int) + d) else 0) N = mt_s (fun d : Nat => if p < d then f (20 * (p : Int) + d) else 0) N + ((if p < q then f2 (20 * (p : Int) + q) else 0) - (if p < q then f (20 * (p : Int) + q) else 0)) := o2
  rw [e1, e2] at o2
  have o : yus f2 N = yus f N + (mt_s (fun d : Nat => if p < d then f2 (20 * (p : Int) + d) else 0) N - mt_s (fun d : Nat => if p < d then f (20 * (p : Int) + d) else 0) N) := o
  omega
theorem yus_ex {f : Int → Int} {N : Nat} (h01 : ∀ c d, 0 ≤ c → c < d → d < (N : Int) → f (20 * c + d) = 0 ∨ f (20 * c + d) = 1) (h : yus f N < ytri N) : ∃ c d, 0 ≤ c ∧ c < d ∧ d < (N : Int) ∧ f (20 * c + d) = 0 := by
  by_cases z : ∃ c d, 0 ≤ c ∧ c < d ∧ d < (N : Int) ∧ f (20 * c + d) = 0
  · exact z
  · exfalso
    have e : yus f N = ytri N := mt_s_congr (fun c hc => mt_s_congr (fun d hd => by
      show (if c < d then f (20 * (c : Int) + d) else 0) = if c < d then 1 else 0
      by_cases y : c < d
      · rw [if_pos y, if_pos y]
        rcases h01 c d (by omega) (by omega) (by omega) with w | w
        · exact absurd ⟨c, d, by omega, by omega, by omega, w⟩ z
        · exact w
      · rw [if_neg y, if_neg y]))
    omega
theorem yus_all {f : Int → Int} {N : Nat} (h01 : ∀ c d, 0 ≤ c → c < d → d < (N : Int) → f (20 * c + d) = 0 ∨ f (20 * c + d) = 1) (h : yus f N = ytri N) : ∀ c d, 0 ≤ c → c < d → d < (N : Int) → f (20 * c + d) = 1 := fun c d c0 cd d1 => by
  obtain ⟨p, rfl⟩ : ∃ p : Nat, c = p := ⟨c.toNat, by omega⟩
  obtain ⟨q, rfl⟩ : ∃ q : Nat, d = q := ⟨d.toNat, by omega⟩
  have nn : ∀ i j : Nat, i < N → j < N → 0 ≤ (if i < j then (1 : Int) else 0) - (if i < j then f (20 * (i : Int) + j) else 0) := fun i j hi hj => by
    by_cases y : i < j
    · rw [if_pos y, if_pos y]
      have := h01 i j (by omega) (by omega) (by omega)
      omega
    · rw [if_neg y, if_neg y]; omega
  have tot : mt_s (fun i : Nat => mt_s (fun j : Nat => (if i < j then (1 : Int) else 0) - (if i < j then f (20 * (i : Int) + j) else 0)) N) N = 0 := by
    have e : mt_s (fun i : Nat => mt_s (fun j : Nat => (if i < j then (1 : Int) else 0) - (if i < j then f (20 * (i : Int) + j) else 0)) N) N = ytri N - yus f N := by
      rw [mt_s_congr (g := fun i : Nat => mt_s (fun j : Nat => if i < j then (1 : Int) else 0) N - mt_s (fun j : Nat => if i < j then f (20 * (i : Int) + j) else 0) N) (fun i hi => mt_s_sub _ _ N), mt_s_sub]
      rfl
    omega
  have x1 := mt_s_ge (f := fun j : Nat => (if p < j then (1 : Int) else 0) - (if p < j then f (20 * (p : Int) + j) else 0)) (n := N) (j := q) (fun j hj => nn p j (by omega) hj) (by omega)
  have x2 := mt_s_ge (f := fun i : Nat => mt_s (fun j : Nat => (if i < j then (1 : Int) else 0) - (if i < j then f (20 * (i : Int) + j) else 0)) N) (n := N) (j := p) (fun i hi => by
    have z : mt_s (fun _ => 0) N ≤ mt_s (fun j : Nat => (if i < j then (1 : Int) else 0) - (if i < j then f (20 * (i : Int) + j) else 0)) N := mt_s_le (fun j hj => nn i j hi hj)
    rw [mt_s_zero] at z; exact z) (by omega)
  have x1 : (if p < q then (1 : Int) else 0) - (if p < q then f (20 * (p : Int) + q) else 0) ≤ mt_s (fun j : Nat => (if p < j then (1 : Int) else 0) - (if p < j then f (20 * (p : Int) + j) else 0)) N := x1
  have x2 : mt_s (fun j : Nat => (if p < j then (1 : Int) else 0) - (if p < j then f (20 * (p : Int) + j) else 0)) N ≤ mt_s (fun i : Nat => mt_s (fun j : Nat => (if i < j then (1 : Int) else 0) - (if i < j then f (20 * (i : Int) + j) else 0)) N) N := x2
  rw [if_pos (by omega), if_pos (by omega)] at x1
  have := h01 p q (by omega) (by omega) (by omega)
  omega
/-! the other one's rows -/
def jy (s : am_S) (N : Nat) (S : jS) : Prop := ∀ c, 0 ≤ c → c < (N : Int) → s 187 c = S.pc c ∧ s 189 c = jdg S c ∧ (S.on c ≠ -1 → s 188 (2 * c) = S.on c) ∧ (S.ot c ≠ -1 → s 188 (2 * c + 1) = S.ot c)
def bpS (s : am_S) (a b : Int) : am_S := am_w (am_w (am_w (am_w s 188 (2 * a + s 189 a) b) 188 (2 * b + s 189 b) a) 189 a (s 189 a + 1)) 189 b (s 189 b + 1)
theorem jy_take {s : am_S} {N : Nat} {S : jS} {a b : Int} (h : jy s N S) (hh : jh S a b) (a1 : a < N) (b1 : b < N) (n3 : ∀ c, 0 ≤ c → c < (N : Int) → S.on c = -1 → S.ot c = -1) : ∀ c, 0 ≤ c → c < (N : Int) → bpS s a b 187 c = S.pc c ∧ bpS s a b 189 c = jdg (jt S a b) c ∧ ((jt S a b).on c ≠ -1 → bpS s a b 188 (2 * c) = (jt S a b).on c) ∧ ((jt S a b).ot c ≠ -1 → bpS s a b 188 (2 * c + 1) = (jt S a b).ot c) := fun c c0 c1 => by
  have ab := hh.ab
  have oa := hh.oa
  have ob := hh.ob
  obtain ⟨h1, h2, h3, h4⟩ := h c c0 c1
  have ha := (h a hh.a0 a1).2.1
  have hb := (h b hh.b0 b1).2.1
  have e188 : ∀ x, bpS s a b 188 x = if x = 2 * b + s 189 b then a else if x = 2 * a + s 189 a then b else s 188 x := fun x => by
    unfold bpS
    rw [am_w_row (by decide), am_w_row (by decide), am_w_fun]
    show (if x = 2 * b + s 189 b then a else am_w s 188 (2 * a + s 189 a) b 188 x) = _
    rw [am_w_fun]
  have da : jdg S a = if S.on a = -1 then 0 else 1 := by unfold jdg; rw [oa]; simp
  have db : jdg S b = if S.on b = -1 then 0 else 1 := by unfold jdg; rw [ob]; simp
  refine ⟨?_, ?_, fun z => ?_, fun z => ?_⟩
  · unfold bpS
    rw [am_w_row (by decide), am_w_row (by decide), am_w_row (by decide), am_w_row (by decide)]
    exact h1
  · rw [jt_dg hh (n3 c c0 c1), ← h2]
    unfold bpS
    by_cases cb : c = b
    · rw [cb, am_w_eq, if_neg (fun z => ab z.symm), if_pos rfl]; omega
    · rw [am_w_x cb, if_neg cb]
      by_cases ca : c = a
      · rw [ca, am_w_eq, if_pos rfl]; omega
      · rw [am_w_x ca, if_neg ca, am_w_row (by decide), am_w_row (by decide)]; omega
  · have xa : s 189 a = 0 ∨ s 189 a = 1 := by
      rw [ha, da]; split
      · exact Or.inl rfl
      · exact Or.inr rfl
    have xb : s 189 b = 0 ∨ s 189 b = 1 := by
      rw [hb, db]; split
      · exact Or.inl rfl
      · exact Or.inr rfl
    rw [e188]
    by_cases cb : c = b
    · subst cb
      by_cases y : S.on c = -1
      · have r : (jt S a c).on c = a := by rw [jt_on ab, if_pos ⟨rfl, y⟩]
        have w : s 189 c = 0 := by rw [hb, db, if_pos y]
        rw [r, if_pos (by omega)]
      · have r : (jt S a c).on c = S.on c := by rw [jt_on ab, if_neg (fun w => y w.2), if_neg (fun w => ab w.1.symm)]
        have w : s 189 c = 1 := by rw [hb, db, if_neg y]
        rw [r, if_neg (by omega), if_neg (by omega)]
        exact h3 y
    · rw [if_neg (by omega)]
      by_cases ca : c = a
      · subst ca
        by_cases y : S.on c = -1
        · have r : (jt S c b).on c = b := by rw [jt_on ab, if_neg (fun w => cb w.1), if_pos ⟨rfl, y⟩]
          have w : s 189 c = 0 := by rw [ha, da, if_pos y]
          rw [r, if_pos (by omega)]
        · have r : (jt S c b).on c = S.on c := by rw [jt_on ab, if_neg (fun w => cb w.1), if_neg (fun w => y w.2)]
          have w : s 189 c = 1 := by rw [ha, da, if_neg y]
          rw [r, if_neg (by omega)]
          exact h3 y
      · have r : (jt S a b).on c = S.on c := by rw [jt_on ab, if_neg (fun w => cb w.1), if_neg (fun w => ca w.1)]
        rw [r] at z ⊢
        rw [if_neg (by omega)]
        exact h3 z
  · have xa : s 189 a = 0 ∨ s 189 a = 1 := by
      rw [ha, da]; split
      · exact Or.inl rfl
      · exact Or.inr rfl
    have xb : s 189 b = 0 ∨ s 189 b = 1 := by
      rw [hb, db]; split
      · exact Or.inl rfl
      · exact Or.inr rfl
    rw [e188]
    by_cases cb : c = b
    · subst cb
      by_cases y : S.on c = -1
      · have r : (jt S a c).ot c = S.ot c := by rw [jt_ot ab, if_neg (fun w => w.2 y), if_neg (fun w => ab w.1.symm)]
        rw [r] at z
        exact absurd ob z
      · have r : (jt S a c).ot c = a := by rw [jt_ot ab, if_pos ⟨rfl, y⟩]
        have w : s 189 c = 1 := by rw [hb, db, if_neg y]
        rw [r, if_pos (by omega)]
    · rw [if_neg (by omega)]
      by_cases ca : c = a
      · subst ca
        by_cases y : S.on c = -1
        · have r : (jt S c b).ot c = S.ot c := by rw [jt_ot ab, if_neg (fun w => cb w.1), if_neg (fun w => w.2 y)]
          rw [r] at z
          exact absurd oa z
        · have r : (jt S c b).ot c = b := by rw [jt_ot ab, if_neg (fun w => cb w.1), if_pos ⟨rfl, y⟩]
          have w : s 189 c = 1 := by rw [ha, da, if_neg y]
          rw [r, if_pos (by omega)]
      · have r : (jt S a b).ot c = S.ot c := by rw [jt_ot ab, if_neg (fun w => cb w.1), if_neg (fun w => ca w.1)]
        rw [r] at z ⊢
        rw [if_neg (by omega)]
        exact h4 z
