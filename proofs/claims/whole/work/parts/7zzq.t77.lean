/-! the pairing: what stands between its rounds -/
theorem mt_opt_c {w w2 : Nat → Nat → Int} {k : Nat} {p : Nat → Nat} (h : ∀ i j, i < j → j < k → w i j = w2 i j) (hp : mt_opt w k mt_all p) : mt_opt w2 k mt_all p := by
  have hco : ∀ q, mt_pmS k mt_all q → mt_co w k mt_all q = mt_co w2 k mt_all q := fun q hq => by
    unfold mt_co
    refine mt_s_congr (fun i hi => ?_)
    by_cases c : mt_all i = true ∧ i < q i
    · rw [if_pos c, if_pos c, h i (q i) c.2 (hq i hi rfl).1]
    · rw [if_neg c, if_neg c]
  exact ⟨hp.1, fun q hq => by rw [← hco p hp.1, ← hco q hq]; exact hp.2 q hq⟩
def pO (s : am_S) : Nat → Bool := mt_im (s 48 2).toNat (fun i => (s 55 (i : Int)).toNat)
def pW (s : am_S) : Nat → Nat → Int := fun a b => s (26 + 1 + a) (b : Int)
def pV (s : am_S) : Nat → Nat → Int := fun i j => pW s (s 55 (i : Int)).toNat (s 55 (j : Int)).toNat
def mkFr (s s' : am_S) : Prop := ∀ q, (q < 58 ∨ 126 < q) → s' q = s q
abbrev pPre (s : am_S) : Prop := Nonempty (PProd (mx_ok s) (PProd (0 ≤ s 48 2 ∧ s 48 2 ≤ 20) (PProd (s 48 2 % 2 = 0) (PProd (∀ i, 0 ≤ i → i < s 48 2 → 0 ≤ s 55 i ∧ s 55 i < s 25 0) (∀ i j, 0 ≤ i → i < j → j < s 48 2 → s 55 i < s 55 j)))))
theorem pPre.hm {s : am_S} (h_ : pPre s) : mx_ok s := h_.elim (fun x_ => x_.1)
theorem pPre.n0 {s : am_S} (h_ : pPre s) : 0 ≤ s 48 2 ∧ s 48 2 ≤ 20 := h_.elim (fun x_ => x_.2.1)
theorem pPre.ev {s : am_S} (h_ : pPre s) : s 48 2 % 2 = 0 := h_.elim (fun x_ => x_.2.2.1)
theorem pPre.ra {s : am_S} (h_ : pPre s) : ∀ i, 0 ≤ i → i < s 48 2 → 0 ≤ s 55 i ∧ s 55 i < s 25 0 := h_.elim (fun x_ => x_.2.2.2.1)
theorem pPre.up {s : am_S} (h_ : pPre s) : ∀ i j, 0 ≤ i → i < j → j < s 48 2 → s 55 i < s 55 j := h_.elim (fun x_ => x_.2.2.2.2)
abbrev pIn (s s1 : am_S) (k : Int) (n : Nat) (e m0 : Nat → Nat) : Prop := Nonempty (PProd (s1 58 3 = n) (PProd (n % 2 = 0) (PProd (n = 0 ∨ (n : Int) + k ≤ 20) (PProd (∀ i : Nat, i < n → s1 59 i = e i) (PProd (mt_up n 20 e) (PProd (∀ i, i < n → (e i : Int) < s 25 0) (PProd (∀ i, i < n → s1 60 (e i) = -1) (PProd (∀ c : Nat, c < 20 → pO s c = false → s1 60 c = -1) (PProd (∀ c : Nat, c < 20 → pO s c = true → (¬ ∃ i, i < n ∧ e i = c) → 0 ≤ s1 60 c ∧ s1 60 c < s 25 0) (PProd (∀ i, i < n → pO s (e i) = true) (PProd (pSt (pW s) 20 (pO s) n e (fun c => (s1 60 (c : Int)).toNat)) (PProd (mkFr s s1) (PProd (mt_opt (pV s) (s 48 2).toNat mt_all m0) (s1 58 2 = 2 * mt_co (pV s) (s 48 2).toNat mt_all m0))))))))))))))
theorem pIn.l {s s1 : am_S} {k : Int} {n : Nat} {e m0 : Nat → Nat} (h_ : pIn s s1 k n e m0) : s1 58 3 = n := h_.elim (fun x_ => x_.1)
theorem pIn.ev {s s1 : am_S} {k : Int} {n : Nat} {e m0 : Nat → Nat} (h_ : pIn s s1 k n e m0) : n % 2 = 0 := h_.elim (fun x_ => x_.2.1)
theorem pIn.bd {s s1 : am_S} {k : Int} {n : Nat} {e m0 : Nat → Nat} (h_ : pIn s s1 k n e m0) : n = 0 ∨ (n : Int) + k ≤ 20 := h_.elim (fun x_ => x_.2.2.1)
theorem pIn.re {s s1 : am_S} {k : Int} {n : Nat} {e m0 : Nat → Nat} (h_ : pIn s s1 k n e m0) : ∀ i : Nat, i < n → s1 59 i = e i := h_.elim (fun x_ => x_.2.2.2.1)
theorem pIn.up {s s1 : am_S} {k : Int} {n : Nat} {e m0 : Nat → Nat} (h_ : pIn s s1 k n e m0) : mt_up n 20 e := h_.elim (fun x_ => x_.2.2.2.2.1)
theorem pIn.lt {s s1 : am_S} {k : Int} {n : Nat} {e m0 : Nat → Nat} (h_ : pIn s s1 k n e m0) : ∀ i, i < n → (e i : Int) < s 25 0 := h_.elim (fun x_ => x_.2.2.2.2.2.1)
theorem pIn.un {s s1 : am_S} {k : Int} {n : Nat} {e m0 : Nat → Nat} (h_ : pIn s s1 k n e m0) : ∀ i, i < n → s1 60 (e i) = -1 := h_.elim (fun x_ => x_.2.2.2.2.2.2.1)
theorem pIn.out {s s1 : am_S} {k : Int} {n : Nat} {e m0 : Nat → Nat} (h_ : pIn s s1 k n e m0) : ∀ c : Nat, c < 20 → pO s c = false → s1 60 c = -1 := h_.elim (fun x_ => x_.2.2.2.2.2.2.2.1)
theorem pIn.inn {s s1 : am_S} {k : Int} {n : Nat} {e m0 : Nat → Nat} (h_ : pIn s s1 k n e m0) : ∀ c : Nat, c < 20 → pO s c = true → (¬ ∃ i, i < n ∧ e i = c) → 0 ≤ s1 60 c ∧ s1 60 c < s 25 0 := h_.elim (fun x_ => x_.2.2.2.2.2.2.2.2.1)
theorem pIn.sub {s s1 : am_S} {k : Int} {n : Nat} {e m0 : Nat → Nat} (h_ : pIn s s1 k n e m0) : ∀ i, i < n → pO s (e i) = true := h_.elim (fun x_ => x_.2.2.2.2.2.2.2.2.2.1)
theorem pIn.st {s s1 : am_S} {k : Int} {n : Nat} {e m0 : Nat → Nat} (h_ : pIn s s1 k n e m0) : pSt (pW s) 20 (pO s) n e (fun c => (s1 60 (c : Int)).toNat) := h_.elim (fun x_ => x_.2.2.2.2.2.2.2.2.2.2.1)
theorem pIn.fr {s s1 : am_S} {k : Int} {n : Nat} {e m0 : Nat → Nat} (h_ : pIn s s1 k n e m0) : mkFr s s1 := h_.elim (fun x_ => x_.2.2.2.2.2.2.2.2.2.2.2.1)
theorem pIn.op {s s1 : am_S} {k : Int} {n : Nat} {e m0 : Nat → Nat} (h_ : pIn s s1 k n e m0) : mt_opt (pV s) (s 48 2).toNat mt_all m0 := h_.elim (fun x_ => x_.2.2.2.2.2.2.2.2.2.2.2.2.1)
theorem pIn.pr {s s1 : am_S} {k : Int} {n : Nat} {e m0 : Nat → Nat} (h_ : pIn s s1 k n e m0) : s1 58 2 = 2 * mt_co (pV s) (s 48 2).toNat mt_all m0 := h_.elim (fun x_ => x_.2.2.2.2.2.2.2.2.2.2.2.2.2)
theorem pkc_l (p e : Int → Int) (h : p (e ((0 : Nat) : Int)) ≠ -1) : ∀ k : Nat, pkc p e (k + 1) ≤ k
  | 0 => by
    show pkc p e 0 + (if p (e ((0 : Nat) : Int)) = -1 then 1 else 0) ≤ 0
    rw [if_neg h]
    exact Nat.le_refl 0
  | k + 1 => by
    have := pkc_l p e h k
    show pkc p e (k + 1) + (if p (e ((k + 1 : Nat) : Int)) = -1 then 1 else 0) ≤ k + 1
    split <;> omega
theorem pPre_le {s : am_S} (h : pPre s) : s 25 0 ≤ 20 := h.hm.2.1
theorem pIn_n {s s1 : am_S} {k : Int} {n : Nat} {e m0 : Nat → Nat} (h : pIn s s1 k n e m0) (k0 : 0 ≤ k) : n ≤ 20 := by
  rcases h.bd with z | z <;> omega
theorem pIn_s {s s1 s2 s3 s4 : am_S} {k : Int} {n L : Nat} {e m0 : Nat → Nat} {p : Int → Int} (hp : pPre s) (h : pIn s s1 k n e m0) (k0 : 0 ≤ k) (hn : 0 < n) (eL : (L : Int) = if 6 ≤ (n : Int) then 6 else (n : Int)) (t2 : tFr s1 s2) (f3 : mFr (am_w s2 62 0 (s1 58 3)) s3) (hm : ∀ i, 0 ≤ i → i < s1 58 3 → 0 ≤ s3 85 i ∧ s3 85 i < s1 58 3 ∧ s3 85 i ≠ i ∧ s3 85 (s3 85 i) = i) (ho : mt_opt (fun i j => pcs s1 L i j) (pcn s1) mt_all (fun i => (s3 85 (i : Int)).toNat)) (h4 : mSF s3 s4 p) (hp1 : ∀ j, 0 ≤ j → j < s3 58 3 → p (s3 59 j) = if psd L (s3 85) (s3 58 3) j then s3 59 (s3 85 j) else s3 60 (s3 59 j)) (hp2 : ∀ c, (∀ j, 0 ≤ j → j < s3 58 3 → s3 59 j ≠ c) → p c = s3 60 c) : ∃ n2 e2, pIn s s4 (k + 1) n2 e2 m0 := by
  have n20 := pIn_n h k0
  have c20 := pPre_le hp
  have q3 : ∀ q, q < 62 → q ≠ 61 → s3 q = s1 q := fun q h1 h2 => by
    rw [f3.1 q (Or.inl h1), am_w_row (by omega), t2 q h2 (by omega)]
  have e58 : s3 58 = s1 58 := q3 58 (by decide) (by decide)
  have e59 : s3 59 = s1 59 := q3 59 (by decide) (by decide)
  have e60 : s3 60 = s1 60 := q3 60 (by decide) (by decide)
  have l1 := h.l
  have ep : pcn s1 = n := by unfold pcn; omega
  rw [ep] at ho
  rw [e58, e59, e60] at hp1
  rw [e58, e59, e60] at hp2
  obtain ⟨g1, g2, g3, g4, g5⟩ := h4
  rw [e58] at g3 g4 g5
  rw [e59] at g4 g5
  rw [show (s1 58 3).toNat = n by omega] at g4
  obtain ⟨f, f1, f2, f3'⟩ := pkc_f p (s1 59) n
  -- who is settled
  have key : ∀ j : Nat, j < n → (p (s1 59 j) = -1 ↔ mt_lf L (fun i => (s3 85 (i : Int)).toNat) j = true) := fun j hj => by
    have hmj := hm j (by omega) (by omega)
    rw [hp1 j (by omega) (by omega), mt_lf_t]
    have hme := h.re (s3 85 j).toNat (by omega)
    rw [show (((s3 85 j).toNat : Nat) : Int) = s3 85 j by omega] at hme
    by_cases c : psd L (s3 85) (s1 58 3) j
    · rw [if_pos c, hme]
      unfold psd at c
      constructor
      · intro z; omega
      · intro z; omega
    · rw [if_neg c, h.re j hj, h.un j hj]
      unfold psd at c
      constructor
      · intro _; omega
      · intro _; rfl
  have val : ∀ j : Nat, j < n → mt_lf L (fun i => (s3 85 (i : Int)).toNat) j = false → p (s1 59 j) = e ((s3 85 (j : Int)).toNat) := fun j hj hl => by
    have hmj := hm j (by omega) (by omega)
    have hme := h.re (s3 85 j).toNat (by omega)
    rw [show (((s3 85 j).toNat : Nat) : Int) = s3 85 j by omega] at hme
    have c : psd L (s3 85) (s1 58 3) j := by
      by_cases c : psd L (s3 85) (s1 58 3) j
      · exact c
      · have z := (key j hj).mp (by rw [hp1 j (by omega) (by omega), if_neg c, h.re j hj]; exact h.un j hj)
        rw [hl] at z
        exact absurd z (by decide)
    rw [hp1 j (by omega) (by omega), if_pos c]
    exact hme
  have L1 : 1 ≤ L := by split at eL <;> omega
  have Ln : L ≤ n := by split at eL <;> omega
  have pc := pkc_l p (s1 59) (by
    intro z
    have := (key 0 hn).mp z
    rw [mt_lf_t] at this
    omega) (n - 1)
  rw [show n - 1 + 1 = n by omega] at pc
  have hpm := ho.1
  refine ⟨pkc p (s1 59) n, fun i => e (f i), ⟨g4, ?_, ?_, fun i hi => ?_, ⟨fun i hi => h.up.1 _ (f1.1 i hi), fun i j ij hj => h.up.2 _ _ (f1.2 i j ij hj) (f1.1 j hj)⟩, fun i hi => h.lt _ (f1.1 i hi), fun i hi => ?_, fun c hc hO => ?_, fun c hc hO hn2 => ?_, fun i hi => h.sub _ (f1.1 i hi), ?_, fun q hq => ?_, h.op, ?_⟩⟩
  · obtain ⟨r, hr⟩ := mt_even n (fun i => (s3 85 (i : Int)).toNat) (mt_lf L (fun i => (s3 85 (i : Int)).toNat)) (fun i hi hS => by
      have z := hpm i hi rfl
      refine ⟨z.1, ?_, z.2.2.1, z.2.2.2⟩
      rw [mt_lf_t] at hS ⊢
      have z4 : (s3 85 (((s3 85 (i : Int)).toNat : Nat) : Int)).toNat = i := z.2.2.2
      refine ⟨hS.2, ?_⟩
      show ¬ (s3 85 (((s3 85 (i : Int)).toNat : Nat) : Int)).toNat < L
      rw [z4]
      exact hS.1)
    have e1 := pkc_s p (s1 59) n
    have e2 : mt_s (fun i => if p (s1 59 (i : Int)) = -1 then (1 : Int) else 0) n = mt_s (fun i => mt_b (mt_lf L (fun i => (s3 85 (i : Int)).toNat) i)) n := mt_s_congr (fun i hi => by
      have q := key i hi
      by_cases c : p (s1 59 (i : Int)) = -1
      · rw [if_pos c, q.mp c]; rfl
      · rw [if_neg c]
        cases z : mt_lf L (fun i => (s3 85 (i : Int)).toNat) i
        · rfl
        · exact absurd (q.mpr z) c)
    omega
  · rcases h.bd with z | z
    · omega
    · right; omega
  · have z := f2 i hi
    have y := g5 (f i) (by have := f1.1 i hi; omega) z.1
    rw [z.2] at y
    rw [y]
    exact h.re _ (f1.1 i hi)
  · rw [g2, ← h.re _ (f1.1 i hi)]
    exact (f2 i hi).1
  · rw [g2, hp2 c (fun j j0 j1 z => ?_)]
    · exact h.out c hc hO
    · obtain ⟨a, rfl⟩ : ∃ a : Nat, j = a := ⟨j.toNat, by omega⟩
      rw [h.re a (by omega)] at z
      have w := h.sub a (by omega)
      rw [show e a = c by omega, hO] at w
      exact absurd w (by decide)
  · rw [g2]
    by_cases c1 : ∃ j, j < n ∧ e j = c
    · obtain ⟨j, j1, rfl⟩ := c1
      cases z : mt_lf L (fun i => (s3 85 (i : Int)).toNat) j
      · have y := val j j1 z
        rw [h.re j j1] at y
        have hmj := hm j (by omega) (by omega)
        have q := h.lt (s3 85 j).toNat (by omega)
        rw [y]
        exact ⟨by omega, q⟩
      · exfalso
        obtain ⟨i, i1, i2⟩ := f3' j j1 ((key j j1).mpr z)
        exact hn2 ⟨i, i1, by show e (f i) = e j; rw [i2]⟩
    · rw [hp2 c (fun j j0 j1 z => ?_)]
      · exact h.inn c hc hO c1
      · obtain ⟨a, rfl⟩ : ∃ a : Nat, j = a := ⟨j.toNat, by omega⟩
        rw [h.re a (by omega)] at z
        exact c1 ⟨a, by omega, by omega⟩
  · have hcd : mt_opt (mt_cd (fun i j => pW s (e i) (e j)) n L) n mt_all (fun i => (s3 85 (i : Int)).toNat) := mt_opt_c (fun i j ij jn => by
      unfold pcs mt_cd mt_sh pW
      rw [ep, h.re i (by omega), h.re j jn, Int.toNat_natCast, h.fr _ (Or.inl (by have := h.up.1 i (by omega); omega))]
      by_cases c : i < L
      · rw [if_pos (by omega), if_pos c, Int.toNat_natCast]
      · rw [if_neg (by omega), if_neg c]) ho
    refine pSt_s h.up hn Ln hcd f1 (fun i hi => ?_) (fun i hi hl => ?_) (fun c hc => ?_) h.st
    · rw [← key i hi]
      exact ⟨fun z => f3' i hi z, fun ⟨j, j1, j2⟩ => by rw [← j2]; exact (f2 j j1).1⟩
    · have y := val i hi hl
      rw [h.re i hi] at y
      show (s4 60 ((e i : Nat) : Int)).toNat = _
      rw [g2, y, Int.toNat_natCast]
    · show (s4 60 (c : Int)).toNat = (s1 60 (c : Int)).toNat
      rw [g2, hp2 c (fun j j0 j1 z => ?_)]
      obtain ⟨a, rfl⟩ : ∃ a : Nat, j = a := ⟨j.toNat, by omega⟩
      rw [h.re a (by omega)] at z
      exact hc ⟨a, by omega, by omega⟩
  · rw [g1 q (fun z => by simp at z; omega)]
    rcases hq with z | z
    · rw [q3 q (by omega) (by omega)]; exact h.fr q (Or.inl z)
    · rw [f3.1 q (Or.inr (Or.inr z)), am_w_row (by omega), t2 q (by omega) (by omega)]; exact h.fr q (Or.inr z)
  · rw [g3 2 (by decide)]; exact h.pr
