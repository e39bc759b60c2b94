/-! PURE: joining the nearest pairs -/
abbrev jS : Type := (Int → Int) × (Int → Int) × (Int → Int)
abbrev jS.pc (x_ : jS) : Int → Int := x_.1
abbrev jS.on (x_ : jS) : Int → Int := x_.2.1
abbrev jS.ot (x_ : jS) : Int → Int := x_.2.2
def jadd (S : jS) (a b : Int) : jS := ⟨S.pc, fun c => if c = a ∧ S.on a = -1 then b else S.on c, fun c => if c = a ∧ S.on a ≠ -1 then b else S.ot c⟩
def jt (S : jS) (a b : Int) : jS := jadd (jadd S a b) b a
def jn (S : jS) (a b : Int) : jS := ⟨fun c => if S.pc c = S.pc b then S.pc a else S.pc c, (jt S a b).on, (jt S a b).ot⟩
def jnb (S : jS) (c d : Int) : Prop := S.on c = d ∨ S.ot c = d
def jdg (S : jS) (c : Int) : Int := if S.on c = -1 then 0 else if S.ot c = -1 then 1 else 2
theorem jt_on {S : jS} {a b : Int} (ab : a ≠ b) (c : Int) : (jt S a b).on c = if c = b ∧ S.on b = -1 then a else if c = a ∧ S.on a = -1 then b else S.on c := by
  show (if c = b ∧ (if b = a ∧ S.on a = -1 then b else S.on b) = -1 then a else if c = a ∧ S.on a = -1 then b else S.on c) = _
  rw [if_neg (show ¬ (b = a ∧ S.on a = -1) from fun z => ab z.1.symm)]
theorem jt_ot {S : jS} {a b : Int} (ab : a ≠ b) (c : Int) : (jt S a b).ot c = if c = b ∧ S.on b ≠ -1 then a else if c = a ∧ S.on a ≠ -1 then b else S.ot c := by
  show (if c = b ∧ (if b = a ∧ S.on a = -1 then b else S.on b) ≠ -1 then a else if c = a ∧ S.on a ≠ -1 then b else S.ot c) = _
  rw [if_neg (show ¬ (b = a ∧ S.on a = -1) from fun z => ab z.1.symm)]
/-- two that may still be joined to one more -/
abbrev jh (S : jS) (a b : Int) : Prop := Nonempty (PProd (a ≠ b) (PProd (0 ≤ a) (PProd (0 ≤ b) (PProd (S.ot a = -1) (S.ot b = -1)))))
theorem jh.ab {S : jS} {a b : Int} (h_ : jh S a b) : a ≠ b := h_.elim (fun x_ => x_.1)
theorem jh.a0 {S : jS} {a b : Int} (h_ : jh S a b) : 0 ≤ a := h_.elim (fun x_ => x_.2.1)
theorem jh.b0 {S : jS} {a b : Int} (h_ : jh S a b) : 0 ≤ b := h_.elim (fun x_ => x_.2.2.1)
theorem jh.oa {S : jS} {a b : Int} (h_ : jh S a b) : S.ot a = -1 := h_.elim (fun x_ => x_.2.2.2.1)
theorem jh.ob {S : jS} {a b : Int} (h_ : jh S a b) : S.ot b = -1 := h_.elim (fun x_ => x_.2.2.2.2)
theorem jt_on_m {S : jS} {a b c : Int} (h : jh S a b) : (jt S a b).on c = -1 ↔ S.on c = -1 ∧ c ≠ a ∧ c ≠ b := by
  rw [jt_on h.ab]
  have a0 := h.a0
  have b0 := h.b0
  by_cases c1 : c = b
  · subst c1
    by_cases c2 : S.on c = -1
    · rw [if_pos ⟨rfl, c2⟩]
      exact ⟨fun z => by omega, fun z => absurd rfl z.2.2⟩
    · rw [if_neg (fun z => c2 z.2), if_neg (fun z => h.ab z.1.symm)]
      exact ⟨fun z => absurd z c2, fun z => absurd rfl z.2.2⟩
  · rw [if_neg (fun z => c1 z.1)]
    by_cases c3 : c = a
    · subst c3
      by_cases c2 : S.on c = -1
      · rw [if_pos ⟨rfl, c2⟩]
        exact ⟨fun z => by omega, fun z => absurd rfl z.2.1⟩
      · rw [if_neg (fun z => c2 z.2)]
        exact ⟨fun z => absurd z c2, fun z => absurd rfl z.2.1⟩
    · rw [if_neg (fun z => c3 z.1)]
      exact ⟨fun z => ⟨z, c3, c1⟩, fun z => z.1⟩
theorem jt_ot_m {S : jS} {a b c : Int} (h : jh S a b) : (jt S a b).ot c = -1 ↔ S.ot c = -1 ∧ (c = a → S.on a = -1) ∧ (c = b → S.on b = -1) := by
  rw [jt_ot h.ab]
  have a0 := h.a0
  have b0 := h.b0
  by_cases c1 : c = b
  · subst c1
    by_cases c2 : S.on c = -1
    · rw [if_neg (fun z => z.2 c2), if_neg (fun z => h.ab z.1.symm)]
      exact ⟨fun z => ⟨z, fun y => absurd y.symm h.ab, fun _ => c2⟩, fun z => z.1⟩
    · rw [if_pos ⟨rfl, c2⟩]
      exact ⟨fun z => by omega, fun z => absurd (z.2.2 rfl) c2⟩
  · rw [if_neg (fun z => c1 z.1)]
    by_cases c3 : c = a
    · subst c3
      by_cases c2 : S.on c = -1
      · rw [if_neg (fun z => z.2 c2)]
        exact ⟨fun z => ⟨z, fun _ => c2, fun y => absurd y c1⟩, fun z => z.1⟩
      · rw [if_pos ⟨rfl, c2⟩]
        exact ⟨fun z => by omega, fun z => absurd (z.2.1 rfl) c2⟩
    · rw [if_neg (fun z => c3 z.1)]
      exact ⟨fun z => ⟨z, fun y => absurd y c3, fun y => absurd y c1⟩, fun z => z.1⟩
theorem jt_nb {S : jS} {a b c d : Int} (h : jh S a b) (hd : 0 ≤ d) : jnb (jt S a b) c d ↔ jnb S c d ∨ (c = a ∧ d = b) ∨ (c = b ∧ d = a) := by
  unfold jnb
  rw [jt_on h.ab, jt_ot h.ab]
  have oa := h.oa
  have ob := h.ob
  by_cases c1 : c = b
  · subst c1
    have n1 : ¬ (c = a ∧ S.on a = -1) := fun z => h.ab z.1.symm
    have n2 : ¬ (c = a ∧ S.on a ≠ -1) := fun z => h.ab z.1.symm
    by_cases c2 : S.on c = -1
    · rw [if_pos ⟨rfl, c2⟩, if_neg (fun z => z.2 c2), if_neg n2, c2, ob]
      constructor
      · rintro (z | z)
        · exact Or.inr (Or.inr ⟨rfl, z.symm⟩)
        · omega
      · rintro ((z | z) | z | z)
        · omega
        · omega
        · exact absurd z.1.symm h.ab
        · exact Or.inl z.2.symm
    · rw [if_neg (fun z => c2 z.2), if_neg n1, if_pos ⟨rfl, c2⟩, ob]
      constructor
      · rintro (z | z)
        · exact Or.inl (Or.inl z)
        · exact Or.inr (Or.inr ⟨rfl, z.symm⟩)
      · rintro ((z | z) | z | z)
        · exact Or.inl z
        · omega
        · exact absurd z.1.symm h.ab
        · exact Or.inr z.2.symm
  · have m1 : ¬ (c = b ∧ S.on b = -1) := fun z => c1 z.1
    have m2 : ¬ (c = b ∧ S.on b ≠ -1) := fun z => c1 z.1
    rw [if_neg m1, if_neg m2]
    by_cases c3 : c = a
    · subst c3
      by_cases c2 : S.on c = -1
      · rw [if_pos (show c = c ∧ S.on c = -1 from ⟨rfl, c2⟩), if_neg (show ¬ (c = c ∧ S.on c ≠ -1) from fun z => z.2 c2), c2, oa]
        constructor
        · rintro (z | z)
          · exact Or.inr (Or.inl ⟨rfl, z.symm⟩)
          · omega
        · rintro ((z | z) | z | z)
          · omega
          · omega
          · exact Or.inl z.2.symm
          · exact absurd z.1 c1
      · rw [if_neg (show ¬ (c = c ∧ S.on c = -1) from fun z => c2 z.2), if_pos (show c = c ∧ S.on c ≠ -1 from ⟨rfl, c2⟩), oa]
        constructor
        · rintro (z | z)
          · exact Or.inl (Or.inl z)
          · exact Or.inr (Or.inl ⟨rfl, z.symm⟩)
        · rintro ((z | z) | z | z)
          · exact Or.inl z
          · omega
          · exact Or.inr z.2.symm
          · exact absurd z.1 c1
    · have m3 : ¬ (c = a ∧ S.on a = -1) := fun z => c3 z.1
      have m4 : ¬ (c = a ∧ S.on a ≠ -1) := fun z => c3 z.1
      rw [if_neg m3, if_neg m4]
      exact ⟨fun z => Or.inl z, fun z => by
        rcases z with z | z | z
        · exact z
        · exact absurd z.1 c3
        · exact absurd z.1 c1⟩
theorem jt_dg {S : jS} {a b c : Int} (h : jh S a b) (n3 : S.on c = -1 → S.ot c = -1) : jdg (jt S a b) c = jdg S c + (if c = a then 1 else 0) + (if c = b then 1 else 0) := by
  have e1 := jt_on_m (c := c) h
  have e2 := jt_ot_m (c := c) h
  have oa := h.oa
  have ob := h.ob
  have ab := h.ab
  unfold jdg
  by_cases c1 : c = b
  · have c3 : ¬ c = a := fun z => ab (z.symm.trans c1)
    rw [if_pos c1, if_neg c3]
    subst c1
    rw [if_neg (fun z => (e1.mp z).2.2 rfl), ob, if_pos rfl]
    by_cases c2 : S.on c = -1
    · rw [if_pos c2, if_pos (e2.mpr ⟨ob, fun z => absurd z c3, fun _ => c2⟩)]; omega
    · rw [if_neg c2, if_neg (fun z => c2 ((e2.mp z).2.2 rfl))]; omega
  · rw [if_neg c1]
    by_cases c3 : c = a
    · rw [if_pos c3]
      subst c3
      rw [if_neg (fun z => (e1.mp z).2.1 rfl), oa, if_pos rfl]
      by_cases c2 : S.on c = -1
      · rw [if_pos c2, if_pos (e2.mpr ⟨oa, fun _ => c2, fun z => absurd z c1⟩)]; omega
      · rw [if_neg c2, if_neg (fun z => c2 ((e2.mp z).2.1 rfl))]; omega
    · rw [if_neg c3]
      by_cases c2 : S.on c = -1
      · rw [if_pos (e1.mpr ⟨c2, c3, c1⟩), if_pos c2]; omega
      · rw [if_neg (fun z => c2 (e1.mp z).1), if_neg c2]
        by_cases c4 : S.ot c = -1
        · rw [if_pos (e2.mpr ⟨c4, fun z => absurd z c3, fun z => absurd z c1⟩), if_pos c4]; omega
        · rw [if_neg (fun z => c4 (e2.mp z).1), if_neg c4]; omega
/-- what stands while pairs are joined -/
abbrev jI (n k : Nat) (S : jS) : Prop := Nonempty (PProd (∀ c, 0 ≤ c → c < (n : Int) → (0 ≤ S.pc c ∧ S.pc c < n) ∧ S.pc (S.pc c) = S.pc c) (PProd (mt_s (fun c : Nat => if S.pc c = (c : Int) then 1 else 0) n = (n : Int) - k) (PProd (∀ c d, 0 ≤ c → c < (n : Int) → jnb S c d → d ≠ -1 → (0 ≤ d ∧ d < (n : Int)) ∧ d ≠ c ∧ S.pc d = S.pc c) (PProd (∀ c, 0 ≤ c → c < (n : Int) → S.on c = -1 → S.ot c = -1) (PProd (∀ c, 0 ≤ c → c < (n : Int) → S.ot c ≠ -1 → S.on c ≠ S.ot c) (PProd (∀ c d, 0 ≤ c → c < (n : Int) → 0 ≤ d → d < (n : Int) → jnb S c d → jnb S d c) (PProd (∀ a, 0 ≤ a → a < (n : Int) → mt_s (fun c : Nat => if S.pc c = S.pc a then 2 - jdg S c else 0) n = 2) (PProd (∀ c, 0 ≤ c → c < (n : Int) → S.on c = -1 → ∀ d, 0 ≤ d → d < (n : Int) → S.pc d = S.pc c → d = c) (∀ P : Int → Prop, (∀ c d, 0 ≤ c → c < (n : Int) → 0 ≤ d → d < (n : Int) → P c → jnb S c d → P d) → ∀ c d, 0 ≤ c → c < (n : Int) → 0 ≤ d → d < (n : Int) → S.pc c = S.pc d → P c → P d)))))))))
theorem jI.p1 {n k : Nat} {S : jS} (h_ : jI n k S) : ∀ c, 0 ≤ c → c < (n : Int) → (0 ≤ S.pc c ∧ S.pc c < n) ∧ S.pc (S.pc c) = S.pc c := h_.elim (fun x_ => x_.1)
theorem jI.ct {n k : Nat} {S : jS} (h_ : jI n k S) : mt_s (fun c : Nat => if S.pc c = (c : Int) then 1 else 0) n = (n : Int) - k := h_.elim (fun x_ => x_.2.1)
theorem jI.nr {n k : Nat} {S : jS} (h_ : jI n k S) : ∀ c d, 0 ≤ c → c < (n : Int) → jnb S c d → d ≠ -1 → (0 ≤ d ∧ d < (n : Int)) ∧ d ≠ c ∧ S.pc d = S.pc c := h_.elim (fun x_ => x_.2.2.1)
theorem jI.n3 {n k : Nat} {S : jS} (h_ : jI n k S) : ∀ c, 0 ≤ c → c < (n : Int) → S.on c = -1 → S.ot c = -1 := h_.elim (fun x_ => x_.2.2.2.1)
theorem jI.n4 {n k : Nat} {S : jS} (h_ : jI n k S) : ∀ c, 0 ≤ c → c < (n : Int) → S.ot c ≠ -1 → S.on c ≠ S.ot c := h_.elim (fun x_ => x_.2.2.2.2.1)
theorem jI.sy {n k : Nat} {S : jS} (h_ : jI n k S) : ∀ c d, 0 ≤ c → c < (n : Int) → 0 ≤ d → d < (n : Int) → jnb S c d → jnb S d c := h_.elim (fun x_ => x_.2.2.2.2.2.1)
theorem jI.ws {n k : Nat} {S : jS} (h_ : jI n k S) : ∀ a, 0 ≤ a → a < (n : Int) → mt_s (fun c : Nat => if S.pc c = S.pc a then 2 - jdg S c else 0) n = 2 := h_.elim (fun x_ => x_.2.2.2.2.2.2.1)
theorem jI.sg {n k : Nat} {S : jS} (h_ : jI n k S) : ∀ c, 0 ≤ c → c < (n : Int) → S.on c = -1 → ∀ d, 0 ≤ d → d < (n : Int) → S.pc d = S.pc c → d = c := h_.elim (fun x_ => x_.2.2.2.2.2.2.2.1)
theorem jI.cl {n k : Nat} {S : jS} (h_ : jI n k S) : ∀ P : Int → Prop, (∀ c d, 0 ≤ c → c < (n : Int) → 0 ≤ d → d < (n : Int) → P c → jnb S c d → P d) → ∀ c d, 0 ≤ c → c < (n : Int) → 0 ≤ d → d < (n : Int) → S.pc c = S.pc d → P c → P d := h_.elim (fun x_ => x_.2.2.2.2.2.2.2.2)
def jS0 : jS := ⟨fun c => c, fun _ => -1, fun _ => -1⟩
theorem mt_s_ind {n : Nat} {a : Int} (v : Int) (a0 : 0 ≤ a) (a1 : a < n) : mt_s (fun c : Nat => if (c : Int) = a then v else 0) n = v := by
  have e := mt_s_one (f := fun c : Nat => if (c : Int) = a then v else 0) (g := fun _ => 0) (j := a.toNat) (n := n) (by omega) (fun i _ hi => if_neg (by omega))
  rw [e, mt_s_zero, if_pos (by omega)]; omega
theorem jI_0 {n : Nat} : jI n 0 jS0 := by
  refine ⟨fun c c0 c1 => ⟨⟨c0, c1⟩, rfl⟩, ?_, fun c d c0 c1 h hd => ?_, fun _ _ _ _ => rfl, fun c c0 c1 h => absurd rfl h, fun c d c0 c1 d0 d1 h => ?_, fun a a0 a1 => ?_, fun c c0 c1 _ d d0 d1 e => e, fun P _ c d c0 c1 d0 d1 e h => ?_⟩
  · have e : ∀ m : Nat, mt_s (fun c : Nat => if jS0.pc c = (c : Int) then 1 else 0) m = m := fun m => by
      induction m with
      | zero => rfl
      | succ m ih =>
        show mt_s _ m + (if (m : Int) = (m : Int) then 1 else 0) = _
        rw [ih, if_pos rfl]; omega
    rw [e]; omega
  · rcases h with h | h
    · exact absurd h.symm hd
    · exact absurd h.symm hd
  · rcases h with h | h
    · have h : (-1 : Int) = d := h
      omega
    · have h : (-1 : Int) = d := h
      omega
  · exact mt_s_ind 2 a0 a1
  · have e : c = d := e
    rw [← e]; exact h
def jf (S : jS) (c d : Int) : Prop := S.ot c = -1 ∧ S.ot d = -1 ∧ S.pc c ≠ S.pc d
theorem jI_s {n k : Nat} {S : jS} {a b : Int} (h : jI n k S) (a0 : 0 ≤ a) (a1 : a < n) (b0 : 0 ≤ b) (b1 : b < n) (hf : jf S a b) : jI n (k + 1) (jn S a b) := by
  have ab : a ≠ b := fun e => hf.2.2 (by rw [e])
  have hh : jh S a b := ⟨ab, a0, b0, hf.1, hf.2.1⟩
  have pa := h.p1 a a0 a1
  have pb := h.p1 b b0 b1
  have hp : ∀ c, (jn S a b).pc c = if S.pc c = S.pc b then S.pc a else S.pc c := fun _ => rfl
  have nb : ∀ {c d : Int}, 0 ≤ d → (jnb (jn S a b) c d ↔ jnb S c d ∨ (c = a ∧ d = b) ∨ (c = b ∧ d = a)) := fun hd => jt_nb hh hd
  have dg : ∀ {c : Int}, 0 ≤ c → c < (n : Int) → jdg (jn S a b) c = jdg S c + (if c = a then 1 else 0) + (if c = b then 1 else 0) := fun c0 c1 => jt_dg hh (h.n3 _ c0 c1)
  have same : ∀ {c d : Int}, S.pc c = S.pc d → (jn S a b).pc c = (jn S a b).pc d := fun e => by rw [hp, hp, e]
  have jab : (jn S a b).pc a = (jn S a b).pc b := by rw [hp, hp, if_neg hf.2.2, if_pos rfl]
  refine ⟨fun c c0 c1 => ?_, ?_, fun c d c0 c1 hc hd => ?_, fun c c0 c1 hc => ?_, fun c c0 c1 hc => ?_, fun c d c0 c1 d0 d1 hc => ?_, fun x x0 x1 => ?_, fun c c0 c1 hc d d0 d1 e => ?_, fun P hP c d c0 c1 d0 d1 e hc => ?_⟩
  · rw [hp]
    split
    · exact ⟨pa.1, by rw [hp, pa.2, if_neg hf.2.2]⟩
    · rename_i z
      exact ⟨(h.p1 c c0 c1).1, by rw [hp, (h.p1 c c0 c1).2, if_neg z]⟩
  · have e := mt_s_one (f := fun c : Nat => if (jn S a b).pc c = (c : Int) then (1 : Int) else 0) (g := fun c : Nat => if S.pc c = (c : Int) then 1 else 0) (j := (S.pc b).toNat) (n := n) (by omega) (fun i hi hne => by
      have pi := h.p1 i (by omega) (by omega)
      show (if (jn S a b).pc i = (i : Int) then (1 : Int) else 0) = if S.pc i = (i : Int) then 1 else 0
      rw [hp]
      by_cases z : S.pc i = S.pc b
      · rw [if_pos z, if_neg (fun y => ?_), if_neg (fun y => ?_)]
        · omega
        · rw [← y, pa.2] at z; exact hf.2.2 z
      · rw [if_neg z])
    have eb : (((S.pc b).toNat : Nat) : Int) = S.pc b := by omega
    have e2 : (if (jn S a b).pc (((S.pc b).toNat : Nat) : Int) = (((S.pc b).toNat : Nat) : Int) then (1 : Int) else 0) = 0 := by
      rw [eb, hp, pb.2, if_pos rfl, if_neg hf.2.2]
    have e3 : (if S.pc (((S.pc b).toNat : Nat) : Int) = (((S.pc b).toNat : Nat) : Int) then (1 : Int) else 0) = 1 := by
      rw [eb, pb.2, if_pos rfl]
    rw [e]
    show _ + ((if (jn S a b).pc (((S.pc b).toNat : Nat) : Int) = (((S.pc b).toNat : Nat) : Int) then (1 : Int) else 0) - (if S.pc (((S.pc b).toNat : Nat) : Int) = (((S.pc b).toNat : Nat) : Int) then (1 : Int) else 0)) = _
    rw [e2, e3, h.ct]; omega
  · by_cases d0 : 0 ≤ d
    · rcases (nb d0).mp hc with z | ⟨z1, z2⟩ | ⟨z1, z2⟩
      · obtain ⟨r1, r2, r3⟩ := h.nr c d c0 c1 z hd
        exact ⟨r1, r2, same r3⟩
      · rw [z1, z2]; exact ⟨⟨b0, b1⟩, ab.symm, jab.symm⟩
      · rw [z1, z2]; exact ⟨⟨a0, a1⟩, ab, jab⟩
    · exfalso
      have q : ∀ c, 0 ≤ c → c < (n : Int) → S.on c = d ∨ S.ot c = d → False := fun c c0 c1 z => by
        have := (h.nr c d c0 c1 z hd).1
        omega
      rcases hc with z | z
      · have z : (jt S a b).on c = d := z
        rw [jt_on ab] at z
        (repeat' split at z) <;> first | omega | exact q c c0 c1 (Or.inl z)
      · have z : (jt S a b).ot c = d := z
        rw [jt_ot ab] at z
        (repeat' split at z) <;> first | omega | exact q c c0 c1 (Or.inr z)
  · have z := (jt_on_m hh).mp hc
    exact (jt_ot_m hh).mpr ⟨h.n3 c c0 c1 z.1, fun e => absurd e z.2.1, fun e => absurd e z.2.2⟩
  · intro e
    have e : (jt S a b).on c = (jt S a b).ot c := e
    have hc : (jt S a b).ot c ≠ -1 := hc
    rw [jt_ot ab] at hc e
    rw [jt_on ab] at e
    by_cases z1 : c = b
    · by_cases z2 : S.on b = -1
      · rw [if_neg (fun z => z.2 z2), if_neg (fun z => ab (z.1.symm.trans z1)), z1] at hc
        exact hc hf.2.1
      · rw [if_neg (fun z => z2 z.2), if_neg (fun z => ab (z.1.symm.trans z1)), if_pos ⟨z1, z2⟩, z1] at e
        have := (h.nr b a b0 b1 (Or.inl e) (by omega)).2.2
        exact hf.2.2 this
    · have m1 : ¬ (c = b ∧ S.on b = -1) := fun z => z1 z.1
      have m2 : ¬ (c = b ∧ S.on b ≠ -1) := fun z => z1 z.1
      rw [if_neg m2] at hc
      rw [if_neg m1, if_neg m2] at e
      by_cases z3 : c = a
      · by_cases z2 : S.on a = -1
        · rw [if_neg (fun z => z.2 z2), z3] at hc
          exact hc hf.1
        · rw [if_neg (fun z => z2 z.2), if_pos ⟨z3, z2⟩, z3] at e
          have := (h.nr a b a0 a1 (Or.inl e) (by omega)).2.2
          exact hf.2.2 this.symm
      · have m3 : ¬ (c = a ∧ S.on a = -1) := fun z => z3 z.1
        have m4 : ¬ (c = a ∧ S.on a ≠ -1) := fun z => z3 z.1
        rw [if_neg m4] at hc
        rw [if_neg m3, if_neg m4] at e
        exact h.n4 c c0 c1 hc e
  · rcases (nb d0).mp hc with z | ⟨z1, z2⟩ | ⟨z1, z2⟩
    · exact (nb c0).mpr (Or.inl (h.sy c d c0 c1 d0 d1 z))
    · exact (nb c0).mpr (Or.inr (Or.inr ⟨z2, z1⟩))
    · exact (nb c0).mpr (Or.inr (Or.inl ⟨z2, z1⟩))
  · by_cases z : (jn S a b).pc x = S.pc a
    · rw [z]
      have e : mt_s (fun c : Nat => if (jn S a b).pc c = S.pc a then 2 - jdg (jn S a b) c else 0) n = mt_s (fun c : Nat => (if S.pc c = S.pc a then 2 - jdg S c else 0) + (if S.pc c = S.pc b then 2 - jdg S c else 0) - (if (c : Int) = a then 1 else 0) - (if (c : Int) = b then 1 else 0)) n := mt_s_congr (fun i hi => by
        show (if (jn S a b).pc i = S.pc a then 2 - jdg (jn S a b) i else 0) = (if S.pc i = S.pc a then 2 - jdg S i else 0) + (if S.pc i = S.pc b then 2 - jdg S i else 0) - (if (i : Int) = a then 1 else 0) - (if (i : Int) = b then 1 else 0)
        rw [hp, dg (by omega) (by omega)]
        by_cases y1 : S.pc i = S.pc b
        · have y2 : S.pc i ≠ S.pc a := fun y => hf.2.2 (y.symm.trans y1)
          have y3 : (i : Int) ≠ a := fun y => y2 (by rw [y])
          rw [if_pos y1, if_pos rfl, if_neg y2, if_pos y1, if_neg y3]
          omega
        · have y3 : (i : Int) ≠ b := fun y => y1 (by rw [y])
          rw [if_neg y1, if_neg y1, if_neg y3]
          by_cases y2 : S.pc i = S.pc a
          · rw [if_pos y2, if_pos y2]; omega
          · have y4 : (i : Int) ≠ a := fun y => y2 (by rw [y])
            rw [if_neg y2, if_neg y2, if_neg y4]; omega)
      rw [e, mt_s_sub, mt_s_sub, mt_s_add, h.ws a a0 a1, h.ws b b0 b1, mt_s_ind 1 a0 a1, mt_s_ind 1 b0 b1]
      omega
    · have zb : S.pc x ≠ S.pc b := fun y => z (by rw [hp, if_pos y])
      have ex : (jn S a b).pc x = S.pc x := by rw [hp, if_neg zb]
      rw [ex] at z ⊢
      refine Eq.trans ?_ (h.ws x x0 x1)
      refine mt_s_congr (fun i hi => ?_)
      show (if (jn S a b).pc i = S.pc x then 2 - jdg (jn S a b) i else 0) = if S.pc i = S.pc x then 2 - jdg S i else 0
      rw [hp, dg (by omega) (by omega)]
      by_cases y1 : S.pc i = S.pc b
      · rw [if_pos y1, if_neg (fun y => z y.symm), if_neg (fun y => zb (y.symm.trans y1))]
      · rw [if_neg y1]
        by_cases y2 : S.pc i = S.pc x
        · have y3 : (i : Int) ≠ b := fun y => y1 (by rw [y])
          have y4 : (i : Int) ≠ a := fun y => z (y2.symm.trans (by rw [y]))
          rw [if_pos y2, if_pos y2, if_neg y3, if_neg y4]; omega
        · rw [if_neg y2, if_neg y2]
  · have z := (jt_on_m hh).mp hc
    have e1 := h.sg c c0 c1 z.1
    have na : S.pc a ≠ S.pc c := fun y => z.2.1 (e1 a a0 a1 y).symm
    have nb' : S.pc b ≠ S.pc c := fun y => z.2.2 (e1 b b0 b1 y).symm
    rw [hp, hp, if_neg nb'.symm] at e
    split at e
    · exact absurd e na
    · exact e1 d d0 d1 e
  · have old : ∀ c d, 0 ≤ c → c < (n : Int) → 0 ≤ d → d < (n : Int) → S.pc c = S.pc d → P c → P d := h.cl P (fun c d c0 c1 d0 d1 pc nbs => hP c d c0 c1 d0 d1 pc ((nb d0).mpr (Or.inl nbs)))
    have pab : P a → P b := fun z => hP a b a0 a1 b0 b1 z ((nb b0).mpr (Or.inr (Or.inl ⟨rfl, rfl⟩)))
    have pba : P b → P a := fun z => hP b a b0 b1 a0 a1 z ((nb a0).mpr (Or.inr (Or.inr ⟨rfl, rfl⟩)))
    rw [hp, hp] at e
    split at e
    · rename_i z1
      have Pb := old c b c0 c1 b0 b1 z1 hc
      split at e
      · rename_i z2
        exact old b d b0 b1 d0 d1 z2.symm Pb
      · exact old a d a0 a1 d0 d1 e (pba Pb)
    · split at e
      · rename_i z2
        exact old b d b0 b1 d0 d1 z2.symm (pab (old c a c0 c1 a0 a1 e hc))
      · exact old c d c0 c1 d0 d1 e hc
