/-! the walk comes everywhere; cut short it is a tour -/
def wIn (b : wS) (x : Int) : Prop := (∃ i, 0 ≤ i ∧ i ≤ b.h ∧ b.R i = x) ∨ x ∈ b.L
abbrev wC (n : Int) (O0 : Int → Int → Int) (b : wS) : Prop := Nonempty (PProd (∀ p q, 0 ≤ p → p < n → 0 ≤ q → q < n → b.O p q < O0 p q → wIn b q) (PProd (∀ v, v ∈ b.L → ∀ q, 0 ≤ q → q < n → ¬ 0 < b.O v q) (PProd (0 ≤ b.h → b.R 0 = 0) (b.h < 0 → ∃ T, b.L = 0 :: T))))
theorem wC.us {n : Int} {O0 : Int → Int → Int} {b : wS} (h_ : wC n O0 b) : ∀ p q, 0 ≤ p → p < n → 0 ≤ q → q < n → b.O p q < O0 p q → wIn b q := h_.elim (fun x_ => x_.1)
theorem wC.dn {n : Int} {O0 : Int → Int → Int} {b : wS} (h_ : wC n O0 b) : ∀ v, v ∈ b.L → ∀ q, 0 ≤ q → q < n → ¬ 0 < b.O v q := h_.elim (fun x_ => x_.2.1)
theorem wC.z {n : Int} {O0 : Int → Int → Int} {b : wS} (h_ : wC n O0 b) : 0 ≤ b.h → b.R 0 = 0 := h_.elim (fun x_ => x_.2.2.1)
theorem wC.e {n : Int} {O0 : Int → Int → Int} {b : wS} (h_ : wC n O0 b) : b.h < 0 → ∃ T, b.L = 0 :: T := h_.elim (fun x_ => x_.2.2.2)
theorem wC_s {n : Int} {O0 : Int → Int → Int} {a b : wS} (h : wC n O0 a) (h0 : 0 ≤ a.h) (hs : wk1 n a b) : wC n O0 b := by
  obtain ⟨x, hx, hb⟩ := hs
  rcases hb with ⟨z, rfl⟩ | ⟨z, rfl⟩
  · have hw : ∀ y, wIn a y → wIn ⟨a.O, a.R, a.h - 1, a.R a.h :: a.L⟩ y := by
      rintro y (⟨i, i0, i1, e⟩ | e)
      · by_cases c : i = a.h
        · exact Or.inr (by rw [← e, c]; exact List.mem_cons_self)
        · exact Or.inl ⟨i, i0, by show i ≤ a.h - 1; omega, e⟩
      · exact Or.inr (List.mem_cons_of_mem _ e)
    refine ⟨fun p q p0 p1 q0 q1 hq => hw q (h.us p q p0 p1 q0 q1 hq), fun v hv q q0 q1 => ?_, fun k => h.z h0, fun k => ?_⟩
    · have hv : v ∈ a.R a.h :: a.L := hv
      rcases List.mem_cons.mp hv with e | e
      · rw [e]
        rcases hx with ⟨_, hx⟩ | ⟨x0, _⟩
        · exact hx q q0 q1
        · omega
      · exact h.dn v e q q0 q1
    · have k : a.h - 1 < 0 := k
      have e : a.h = 0 := by omega
      exact ⟨a.L, by show a.R a.h :: a.L = _; rw [e, h.z h0]⟩
  · have hw : ∀ y, wIn a y → wIn ⟨wu a.O (a.R a.h) x, fun y => if y = a.h + 1 then x else a.R y, a.h + 1, a.L⟩ y := by
      rintro y (⟨i, i0, i1, e⟩ | e)
      · exact Or.inl ⟨i, i0, by show i ≤ a.h + 1; omega, by show (if i = a.h + 1 then x else a.R i) = y; rw [if_neg (by omega)]; exact e⟩
      · exact Or.inr e
    refine ⟨fun p q p0 p1 q0 q1 hq => ?_, fun v hv q q0 q1 => ?_, fun k => ?_, fun k => ?_⟩
    · have hq : a.O p q - (if p = a.R a.h ∧ q = x then 1 else 0) - (if p = x ∧ q = a.R a.h then 1 else 0) < O0 p q := hq
      by_cases c1 : p = a.R a.h ∧ q = x
      · exact Or.inl ⟨a.h + 1, by omega, Int.le_refl _, by show (if a.h + 1 = a.h + 1 then x else a.R (a.h + 1)) = q; rw [if_pos rfl]; exact c1.2.symm⟩
      · by_cases c2 : p = x ∧ q = a.R a.h
        · exact hw q (Or.inl ⟨a.h, h0, Int.le_refl _, c2.2.symm⟩)
        · rw [if_neg c1, if_neg c2] at hq
          exact hw q (h.us p q p0 p1 q0 q1 (by omega))
    · have := h.dn v hv q q0 q1
      show ¬ 0 < a.O v q - (if v = a.R a.h ∧ q = x then 1 else 0) - (if v = x ∧ q = a.R a.h then 1 else 0)
      (repeat' split) <;> omega
    · show (if (0 : Int) = a.h + 1 then x else a.R 0) = 0
      rw [if_neg (by omega)]; exact h.z h0
    · have k : a.h + 1 < 0 := k
      omega
theorem wC_n {n : Int} {O0 : Int → Int → Int} {a : wS} (h : wC n O0 a) : ∀ {k : Nat} {b : wS}, wkn n a k b → wC n O0 b
  | 0, b, e => by rw [show b = a from e]; exact h
  | k + 1, b, ⟨m, h1, h0, h2⟩ => wC_s (wC_n h h1) h0 h2
theorem wC_0 {hu pa : Int → Int} {n : Nat} : wC n (wO0 hu pa n) (w0 hu pa n) :=
  ⟨fun p q p0 p1 q0 q1 hq => absurd hq (by show ¬ wO0 hu pa n p q < wO0 hu pa n p q; omega), fun v hv => absurd hv List.not_mem_nil, fun _ => rfl, fun k => absurd k (by show ¬ (0 : Int) < 0; omega)⟩
theorem wO0_hu {hu pa : Int → Int} {n : Nat} {c : Int} (c0 : 1 ≤ c) (c1 : c < n) : 0 < wO0 hu pa n (hu c) c := by
  obtain ⟨a, rfl⟩ : ∃ a : Nat, c = a := ⟨c.toNat, by omega⟩
  have w0' : ∀ x y p q : Int, 0 ≤ w2f x y p q := fun x y p q => by
    unfold w2f
    (repeat' split) <;> omega
  have x1 := mt_s_ge (f := fun c : Nat => if c = 0 then 0 else w2f c (hu c) (hu a) a) (n := n) (j := a) (fun i _ => by
    show 0 ≤ if i = 0 then 0 else w2f i (hu i) (hu a) a
    split
    · omega
    · exact w0' _ _ _ _) (by omega)
  have x2 : mt_s (fun _ => 0) n ≤ wOp pa n (hu a) a := mt_s_le (fun i _ => by
    show 0 ≤ if (i : Int) < pa i then w2f i (pa i) (hu a) a else 0
    split
    · exact w0' _ _ _ _
    · omega)
  rw [mt_s_zero] at x2
  have x1 : (if a = 0 then 0 else w2f a (hu a) (hu a) a) ≤ wOt hu n (hu a) a := x1
  rw [if_neg (by omega)] at x1
  have x3 : 1 ≤ w2f a (hu a) (hu a) a := by
    unfold w2f
    rw [if_pos (show hu a = hu a ∧ (a : Int) = a from ⟨rfl, rfl⟩)]
    split <;> omega
  show 0 < wOt hu n (hu a) a + wOp pa n (hu a) a
  omega
/-- at its end the walk has been everywhere -/
theorem wk_all {hu pa : Int → Int} {n k : Nat} {b : wS} (hk : wkn n (w0 hu pa n) k b) (hb : b.h < 0) (Q : ∀ P : Int → Prop, P 0 → (∀ c, 1 ≤ c → c < (n : Int) → P (hu c) → P c) → ∀ c, 0 ≤ c → c < (n : Int) → P c) (hr : ∀ c, 1 ≤ c → c < (n : Int) → 0 ≤ hu c ∧ hu c < n) : ∀ c, 0 ≤ c → c < (n : Int) → c ∈ b.L := by
  have h := wC_n (wC_0 (hu := hu) (pa := pa) (n := n)) hk
  refine Q (fun c => c ∈ b.L) ?_ (fun c c0 c1 hc => ?_)
  · obtain ⟨T, e⟩ := h.e hb
    rw [e]; exact List.mem_cons_self
  · have r := hr c c0 c1
    have d := h.dn _ hc c (by omega) c1
    have p := wO0_hu (hu := hu) (pa := pa) c0 c1
    rcases h.us (hu c) c r.1 r.2 (by omega) c1 (by omega) with ⟨i, i0, i1, -⟩ | e
    · omega
    · exact e
/-! cut short -/
def dd (l : Nat → Int) : Nat → List Int
  | 0 => []
  | i + 1 => if l i ∈ dd l i then dd l i else dd l i ++ [l i]
theorem dd_mem {l : Nat → Int} {x : Int} : ∀ {k : Nat}, x ∈ dd l k ↔ ∃ j, j < k ∧ l j = x
  | 0 => ⟨fun h => absurd h List.not_mem_nil, fun ⟨j, h, _⟩ => absurd h (Nat.not_lt_zero j)⟩
  | k + 1 => by
    have ih := dd_mem (l := l) (x := x) (k := k)
    show x ∈ (if l k ∈ dd l k then dd l k else dd l k ++ [l k]) ↔ _
    constructor
    · intro h
      split at h
      · obtain ⟨j, j1, j2⟩ := ih.mp h
        exact ⟨j, by omega, j2⟩
      · rcases List.mem_append.mp h with z | z
        · obtain ⟨j, j1, j2⟩ := ih.mp z
          exact ⟨j, by omega, j2⟩
        · exact ⟨k, by omega, (List.mem_singleton.mp z).symm⟩
    · rintro ⟨j, j1, j2⟩
      by_cases c : j = k
      · subst c
        split
        · rw [← j2]; assumption
        · rw [← j2]; exact List.mem_append_right _ (List.mem_singleton.mpr rfl)
      · have := ih.mpr ⟨j, by omega, j2⟩
        split
        · exact this
        · exact List.mem_append_left _ this
theorem dd_c {l l2 : Nat → Int} : ∀ {k : Nat}, (∀ i, i < k → l i = l2 i) → dd l k = dd l2 k
  | 0, _ => rfl
  | k + 1, h => by
    show (if l k ∈ dd l k then dd l k else dd l k ++ [l k]) = if l2 k ∈ dd l2 k then dd l2 k else dd l2 k ++ [l2 k]
    rw [dd_c (k := k) (fun i hi => h i (by omega)), h k (by omega)]
theorem dd_0 {l : Nat → Int} : ∀ {k : Nat}, 0 < k → (dd l k)[0]? = some (l 0)
  | 0, h => absurd h (Nat.lt_irrefl 0)
  | 1, _ => by
    show (if l 0 ∈ ([] : List Int) then ([] : List Int) else [] ++ [l 0])[0]? = _
    rw [if_neg List.not_mem_nil]; rfl
  | k + 2, _ => by
    have ih := dd_0 (l := l) (k := k + 1) (by omega)
    show (if l (k + 1) ∈ dd l (k + 1) then dd l (k + 1) else dd l (k + 1) ++ [l (k + 1)])[0]? = _
    split
    · exact ih
    · have lt := (List.getElem?_eq_some_iff.mp ih).1
      rw [List.getElem?_append_left lt]; exact ih
/-- a row, its flags and how many stand for what is cut short so far -/
abbrev ddI (l : Nat → Int) (n k : Nat) (m : Int) (u t : Int → Int) : Prop := Nonempty (PProd (m = ((dd l k).length : Int)) (PProd (∀ y, 0 ≤ y → y < (n : Int) → u y = 0 ∨ u y = 1) (PProd (∀ y, 0 ≤ y → y < (n : Int) → (u y = 1 ↔ y ∈ dd l k)) (PProd (∀ (j : Nat) v, (dd l k)[j]? = some v → t j = v) (s_sum u n = m)))))
theorem ddI.ln {l : Nat → Int} {n k : Nat} {m : Int} {u t : Int → Int} (h_ : ddI l n k m u t) : m = ((dd l k).length : Int) := h_.elim (fun x_ => x_.1)
theorem ddI.u01 {l : Nat → Int} {n k : Nat} {m : Int} {u t : Int → Int} (h_ : ddI l n k m u t) : ∀ y, 0 ≤ y → y < (n : Int) → u y = 0 ∨ u y = 1 := h_.elim (fun x_ => x_.2.1)
theorem ddI.uu {l : Nat → Int} {n k : Nat} {m : Int} {u t : Int → Int} (h_ : ddI l n k m u t) : ∀ y, 0 ≤ y → y < (n : Int) → (u y = 1 ↔ y ∈ dd l k) := h_.elim (fun x_ => x_.2.2.1)
theorem ddI.tt {l : Nat → Int} {n k : Nat} {m : Int} {u t : Int → Int} (h_ : ddI l n k m u t) : ∀ (j : Nat) v, (dd l k)[j]? = some v → t j = v := h_.elim (fun x_ => x_.2.2.2.1)
theorem ddI.ss {l : Nat → Int} {n k : Nat} {m : Int} {u t : Int → Int} (h_ : ddI l n k m u t) : s_sum u n = m := h_.elim (fun x_ => x_.2.2.2.2)
theorem ddI_0 {l : Nat → Int} {n : Nat} {u t : Int → Int} (h : ∀ y, 0 ≤ y → y < (n : Int) → u y = 0) : ddI l n 0 0 u t :=
  ⟨rfl, fun y y0 y1 => Or.inl (h y y0 y1), fun y y0 y1 => ⟨fun z => absurd z (by rw [h y y0 y1]; decide), fun z => absurd z List.not_mem_nil⟩, fun j v hv => absurd (show (none : Option Int) = some v from hv) (by simp), by
    have e : s_sum u n = mt_s (fun _ => 0) n := mt_s_congr (fun i hi => h i (by omega) (by omega))
    rw [e, mt_s_zero]⟩
theorem ddI_no {l : Nat → Int} {n k : Nat} {m : Int} {u t : Int → Int} (h : ddI l n k m u t) (h0 : 0 ≤ l k) (h1 : l k < n) (hu : u (l k) = 1) : ddI l n (k + 1) m u t := by
  have e : dd l (k + 1) = dd l k := if_pos ((h.uu _ h0 h1).mp hu)
  exact ⟨by rw [e]; exact h.ln, h.u01, fun y y0 y1 => by rw [e]; exact h.uu y y0 y1, fun j v hv => by rw [e] at hv; exact h.tt j v hv, h.ss⟩
theorem ddI_yes {l : Nat → Int} {n k : Nat} {m : Int} {u t u2 t2 : Int → Int} (h : ddI l n k m u t) (h0 : 0 ≤ l k) (h1 : l k < n) (hu : u (l k) = 0) (eu : ∀ y, u2 y = if y = l k then 1 else u y) (et : ∀ y, t2 y = if y = m then l k else t y) : ddI l n (k + 1) (m + 1) u2 t2 := by
  have nm : ¬ l k ∈ dd l k := fun z => by
    have := (h.uu _ h0 h1).mpr z
    omega
  have e : dd l (k + 1) = dd l k ++ [l k] := if_neg nm
  refine ⟨by rw [e, List.length_append, h.ln]; rfl, fun y y0 y1 => ?_, fun y y0 y1 => ?_, fun j v hv => ?_, ?_⟩
  · rw [eu y]
    split
    · exact Or.inr rfl
    · exact h.u01 y y0 y1
  · rw [eu y, e]
    by_cases c : y = l k
    · rw [if_pos c, c]
      exact ⟨fun _ => List.mem_append_right _ (List.mem_singleton.mpr rfl), fun _ => rfl⟩
    · rw [if_neg c, h.uu y y0 y1]
      exact ⟨fun z => List.mem_append_left _ z, fun z => by
        rcases List.mem_append.mp z with q | q
        · exact q
        · exact absurd (List.mem_singleton.mp q) c⟩
  · rw [e] at hv
    rw [et j]
    have ln := h.ln
    by_cases c : j < (dd l k).length
    · rw [List.getElem?_append_left c] at hv
      rw [if_neg (by omega)]
      exact h.tt j v hv
    · have lt := (List.getElem?_eq_some_iff.mp hv).1
      rw [List.length_append] at lt
      have lt : j < (dd l k).length + 1 := lt
      have ej : j = (dd l k).length := by omega
      rw [if_pos (by omega)]
      rw [ej, List.getElem?_append_right (Nat.le_refl _), Nat.sub_self] at hv
      exact Option.some.inj hv
  · rw [s_sum_if h0 h1 (fun y _ _ => eu y) hu, h.ss]
theorem ddI_lt {l : Nat → Int} {n k : Nat} {m : Int} {u t : Int → Int} (h : ddI l n k m u t) (h0 : 0 ≤ l k) (h1 : l k < n) (hu : u (l k) = 0) : 0 ≤ m ∧ m < n := by
  have h2 := ddI_yes (u2 := fun y => if y = l k then 1 else u y) (t2 := fun y => if y = m then l k else t y) h h0 h1 hu (fun _ => rfl) (fun _ => rfl)
  have := s_sum_le (x := 0) (k := n) h2.u01 (Int.le_refl 0) (by omega) (fun c a b => by omega)
  have := h2.ss
  have := h.ln
  omega
/-- a tour that is cut short -/
def dt_ok (l : Nat → Int) (n k : Nat) (t : Int → Int) : Prop := (dd l k).length = n ∧ (∀ (j : Nat) v, (dd l k)[j]? = some v → t j = v)
theorem ddI_end {l : Nat → Int} {n k : Nat} {m : Int} {u t : Int → Int} (h : ddI l n k m u t) (ha : ∀ y, 0 ≤ y → y < (n : Int) → y ∈ dd l k) : dt_ok l n k t := by
  refine ⟨?_, h.tt⟩
  have := s_sum_full (x := 0) (k := n) (g := u) (Int.le_refl 0) (by omega) (fun c c0 c1 => (h.uu c c0 c1).mpr (ha c c0 c1)) (fun c a b => by omega)
  have := h.ss
  have := h.ln
  omega
theorem dt_uniq {l : Nat → Int} {n k : Nat} {t t2 : Int → Int} (h : dt_ok l n k t) (h2 : dt_ok l n k t2) : ∀ i, 0 ≤ i → i < (n : Int) → t i = t2 i := fun i i0 i1 => by
  obtain ⟨a, rfl⟩ : ∃ a : Nat, i = a := ⟨i.toNat, by omega⟩
  obtain ⟨v, hv⟩ : ∃ v, (dd l k)[a]? = some v := ⟨_, List.getElem?_eq_getElem (by rw [h.1]; omega)⟩
  rw [h.2 a v hv, h2.2 a v hv]
theorem dt_p {l : Nat → Int} {n k : Nat} {t : Int → Int} (hk : 0 < k) (hl : ∀ i, i < k → 0 ≤ l i ∧ l i < n) (ha : ∀ y, 0 ≤ y → y < (n : Int) → y ∈ dd l k) (h : dt_ok l n k t) : st_ok n t ∧ (∀ y, 0 ≤ y → y < (n : Int) → ∃ j, 0 ≤ j ∧ j < (n : Int) ∧ t j = y) ∧ t 0 = l 0 := by
  refine ⟨fun i i0 i1 => ?_, fun y y0 y1 => ?_, h.2 0 _ (dd_0 hk)⟩
  · obtain ⟨a, rfl⟩ : ∃ a : Nat, i = a := ⟨i.toNat, by omega⟩
    obtain ⟨v, hv⟩ : ∃ v, (dd l k)[a]? = some v := ⟨_, List.getElem?_eq_getElem (by rw [h.1]; omega)⟩
    rw [h.2 a v hv]
    obtain ⟨j, j1, j2⟩ := dd_mem.mp (List.mem_of_getElem? hv)
    rw [← j2]; exact hl j j1
  · obtain ⟨j, hj⟩ := List.getElem?_of_mem (ha y y0 y1)
    have lt := (List.getElem?_eq_some_iff.mp hj).1
    rw [h.1] at lt
    exact ⟨j, by omega, by omega, h.2 j y hj⟩
theorem t_shorten {d : Nat} {E : am_Ev} {s : am_S} {l : Nat → Int} {N K : Nat} {PP : Option Value → am_H → Prop} (g : am_Eg E) (hN : N ≤ 20) (hK : s 127 1 = (K : Int)) (K40 : K ≤ 40) (hl : ∀ i, i < K → 0 ≤ l i ∧ l i < N) (hc : ∀ i : Nat, i < K → s 128 ((K : Int) - 1 - i) = l i) (ha : ∀ y, 0 ≤ y → y < (N : Int) → y ∈ dd l K) (hPP : ∀ s', am_Fr [152, 154] s s' → dt_ok l N K (s' 152) → PP none (am_hp E s')) : am_wp (d + 1) 9 0 (lv_args 0 [.ref 153, .ref 127, .ref 151]) [] (am_hp E s) PP := by
  refine am_s rfl rfl ?_
  refine s_cv [] [] rfl g (Or.inl rfl) rfl rfl (Nat.le_of_ble_eq_true rfl) rfl rfl (t_useNone g) ?_
  rintro rv h1 ⟨rfl, s1, rfl, hF1, hU1⟩
  refine s_k 0 rfl rfl ?_
  refine am_s rfl rfl ?_
  refine s_k 0 rfl rfl ?_
  refine am_s rfl rfl ?_
  refine am_lv [(4, .int (iI (((0 : Nat) : Int) : Int))), (3, .int (iI 0)), (2, .ref 151), (1, .ref 127), (0, .ref 153)] rfl rfl ⟨rfl, rfl, rfl, rfl, rfl, trivial⟩ ?_
  refine s_loop (X := Int) (fun k m s' => am_Fr [152, 154] s s' ∧ ddI l N k m (s' 154) (s' 152)) (fun k m => [(4, .int (iI (k : Int))), (3, .int (iI m)), (2, .ref 151), (1, .ref 127), (0, .ref 153)]) (hi := K) (x := 0) (by omega) ⟨am_Fr_m hF1 (fun b hb => by simp at hb ⊢; omega), ddI_0 (fun y y0 y1 => hU1 y y0 (by omega))⟩ ?_ ?_
  · rintro k m s2 hk0 hk1 ⟨hF2, hD⟩ kk
    simp only at kk ⊢
    have e127 : s2 127 = s 127 := hF2 127 (by decide)
    have e1 : s2 127 1 = (K : Int) := by rw [e127]; exact hK
    have e128 : s2 128 = s 128 := hF2 128 (by decide)
    have hlk := hl k (by omega)
    have hck := hc k (by omega)
    have hu01 := hD.u01 (l k) hlk.1 hlk.2
    refine am_s rfl rfl ?_
    refine am_s rfl rfl ?_
    refine s_gi (x := 1) rfl g rfl rfl rfl ?_
    refine s_cge rfl ⟨by omega, by omega⟩ ⟨by omega, by omega⟩ (fun c1 => absurd c1 (by omega)) (fun c1 => ?_)
    refine am_s rfl rfl ?_
    refine am_s rfl rfl ?_
    refine s_cv [_] [] rfl g (Or.inl rfl) rfl rfl (Nat.le_of_ble_eq_true rfl) rfl rfl (t_cornerAt (s := s2) (i := (k : Int)) g (by rw [e127]; omega) ⟨by omega, by rw [e127]; omega⟩) ?_
    rintro rv h1 ⟨rfl, rfl⟩
    rw [show s2 128 (s2 127 1 - 1 - (k : Int)) = l k by rw [e127, e128, hK]; exact hck]
    refine am_s rfl rfl ?_
    refine am_s rfl rfl ?_
    refine s_gr rfl g rfl rfl ?_
    refine am_s rfl rfl ?_
    refine s_ba rfl g rfl ⟨by omega, by omega⟩ (by decide) ?_
    refine s_zne rfl (by rcases hu01 with z | z <;> exact ⟨by omega, by omega⟩) (fun c2 => ?_) (fun c2 => ?_)
    · refine s_inc rfl rfl ?_
      refine am_s rfl rfl ?_
      refine am_lv [(4, _), (3, _), (2, _), (1, _), (0, _)] rfl rfl ⟨rfl, rfl, rfl, rfl, rfl, trivial⟩ ?_
      exact kk m _ ⟨hF2, ddI_no hD hlk.1 hlk.2 (by omega)⟩
    · refine am_s rfl rfl ?_
      refine s_gr rfl g rfl rfl ?_
      refine am_s rfl rfl ?_
      refine s_k 1 rfl rfl ?_
      refine s_bs rfl g rfl ⟨by omega, by omega⟩ (by decide) (by omega) ?_
      have hmr := ddI_lt hD hlk.1 hlk.2 (by omega)
      refine am_s rfl rfl ?_
      refine s_gr rfl g rfl rfl ?_
      refine am_s rfl rfl ?_
      refine am_s rfl rfl ?_
      refine s_is rfl g rfl ⟨by omega, by omega⟩ (by decide) ?_
      refine s_inc rfl rfl ?_
      refine s_inc rfl rfl ?_
      refine am_s rfl rfl ?_
      refine am_lv [(4, _), (3, _), (2, _), (1, _), (0, _)] rfl rfl ⟨rfl, rfl, rfl, rfl, rfl, trivial⟩ ?_
      refine kk (m + 1) _ ⟨am_Fr_W (am_Fr_W hF2 (by decide)) (by decide), ddI_yes hD hlk.1 hlk.2 (by omega) (fun y => ?_) (fun y => ?_)⟩
      · rw [am_w_row (by decide), am_w_fun]
      · rw [am_w_fun, am_w_row (by decide)]
  · rintro m s2 ⟨hF2, hD⟩
    simp only
    have e127 : s2 127 1 = (K : Int) := by rw [hF2 127 (by decide)]; exact hK
    refine am_s rfl rfl ?_
    refine am_s rfl rfl ?_
    refine s_gi (x := 1) rfl g rfl rfl rfl ?_
    refine s_cge rfl ⟨by omega, by omega⟩ ⟨by omega, by omega⟩ (fun c1 => ?_) (fun c1 => absurd c1 (by omega))
    exact am_r rfl rfl (hPP s2 hF2 (ddI_end hD ha))
theorem t_byRound {d : Nat} {E : am_Ev} {s : am_S} {l : Nat → Int} {N K : Nat} {PP : Option Value → am_H → Prop} (g : am_Eg E) (en : s 168 1 = (N : Int)) (hN : N ≤ 20) (hK : s 168 26 = (K : Int)) (K40 : K ≤ 40) (hl : ∀ i, i < K → 0 ≤ l i ∧ l i < N) (hc : ∀ i : Nat, i < K → s 180 i = l i) (ha : ∀ y, 0 ≤ y → y < (N : Int) → y ∈ dd l K) (hPP : ∀ s', am_Fr [183, 186] s s' → dt_ok l N K (s' 183) → PP none (am_hp E s')) : am_wp d 199 0 (lv_args 0 [.ref 168]) [] (am_hp E s) PP := by
  refine s_k 0 rfl rfl ?_
  refine am_s rfl rfl ?_
  refine am_lv [(1, .int (iI (((0 : Nat) : Int) : Int))), (0, .ref 168)] rfl rfl ⟨rfl, rfl, trivial⟩ ?_
  refine s_loop (X := Unit) (fun k _ s' => am_Fr [183, 186] s s' ∧ ∀ y, 0 ≤ y → y < (k : Int) → s' 186 y = 0) (fun k _ => [(1, .int (iI (k : Int))), (0, .ref 168)]) (hi := N) (x := ()) (by omega) ⟨am_Fr_r _ _, fun x x0 x1 => by omega⟩ ?_ ?_
  · rintro k - s1 hk0 hk1 ⟨hF1, hU1⟩ kk
    simp only at kk ⊢
    have eN : s1 168 1 = (N : Int) := by rw [hF1 168 (by decide)]; exact en
    refine am_s rfl rfl ?_
    refine am_s rfl rfl ?_
    refine s_gi (x := 1) rfl g rfl rfl rfl ?_
    refine s_cge rfl ⟨by omega, by omega⟩ ⟨by omega, by omega⟩ (fun c1 => absurd c1 (by omega)) (fun c1 => ?_)
    refine am_s rfl rfl ?_
    refine s_gr rfl g rfl rfl ?_
    refine am_s rfl rfl ?_
    refine s_k 0 rfl rfl ?_
    refine s_bs rfl g rfl ⟨by omega, by omega⟩ (by decide) (by omega) ?_
    refine s_inc rfl rfl ?_
    refine am_s rfl rfl ?_
    refine am_lv [(1, _), (0, _)] rfl rfl ⟨rfl, rfl, trivial⟩ ?_
    refine kk () _ ⟨am_Fr_W hF1 (by decide), fun x x0 x1 => ?_⟩
    by_cases e : x = (k : Int)
    · rw [e, am_w_eq]
    · rw [am_w_x e]; exact hU1 x x0 (by omega)
  · rintro - s1 ⟨hF1, hU1⟩
    simp only
    have eN : s1 168 1 = (N : Int) := by rw [hF1 168 (by decide)]; exact en
    refine am_s rfl rfl ?_
    refine am_s rfl rfl ?_
    refine s_gi (x := 1) rfl g rfl rfl rfl ?_
    refine s_cge rfl ⟨by omega, by omega⟩ ⟨by omega, by omega⟩ (fun c1 => ?_) (fun c1 => absurd c1 (by omega))
    refine s_k 0 rfl rfl ?_
    refine am_s rfl rfl ?_
    refine s_k 0 rfl rfl ?_
    refine am_s rfl rfl ?_
    refine am_lv [(2, .int (iI (((0 : Nat) : Int) : Int))), (1, .int (iI 0)), (0, .ref 168)] rfl rfl ⟨rfl, rfl, rfl, trivial⟩ ?_
    refine s_loop (X := Int) (fun k m s' => am_Fr [183, 186] s s' ∧ ddI l N k m (s' 186) (s' 183)) (fun k m => [(2, .int (iI (k : Int))), (1, .int (iI m)), (0, .ref 168)]) (hi := K) (x := 0) (by omega) ⟨hF1, ddI_0 (fun y y0 y1 => hU1 y y0 (by omega))⟩ ?_ ?_
    · rintro k m s2 hk0 hk1 ⟨hF2, hD⟩ kk
      simp only at kk ⊢
      have eK : s2 168 26 = (K : Int) := by rw [hF2 168 (by decide)]; exact hK
      have e180 : s2 180 = s 180 := hF2 180 (by decide)
      have hlk := hl k (by omega)
      have hck : s2 180 k = l k := by rw [e180]; exact hc k (by omega)
      have hu01 := hD.u01 (l k) hlk.1 hlk.2
      refine am_s rfl rfl ?_
      refine am_s rfl rfl ?_
      refine s_gi (x := 26) rfl g rfl rfl rfl ?_
      refine s_cge rfl ⟨by omega, by omega⟩ ⟨by omega, by omega⟩ (fun c1 => absurd c1 (by omega)) (fun c1 => ?_)
      refine am_s rfl rfl ?_
      refine s_gr rfl g rfl rfl ?_
      refine am_s rfl rfl ?_
      refine s_gr rfl g rfl rfl ?_
      refine am_s rfl rfl ?_
      refine s_ia rfl g rfl ⟨by omega, by omega⟩ (by decide) ?_
      rw [hck]
      refine s_ba rfl g rfl ⟨by omega, by omega⟩ (by decide) ?_
      refine s_zne rfl (by rcases hu01 with z | z <;> exact ⟨by omega, by omega⟩) (fun c2 => ?_) (fun c2 => ?_)
      · refine s_inc rfl rfl ?_
        refine am_s rfl rfl ?_
        refine am_lv [(2, _), (1, _), (0, _)] rfl rfl ⟨rfl, rfl, rfl, trivial⟩ ?_
        exact kk m _ ⟨hF2, ddI_no hD hlk.1 hlk.2 (by omega)⟩
      · refine am_s rfl rfl ?_
        refine s_gr rfl g rfl rfl ?_
        refine am_s rfl rfl ?_
        refine s_gr rfl g rfl rfl ?_
        refine am_s rfl rfl ?_
        refine s_ia rfl g rfl ⟨by omega, by omega⟩ (by decide) ?_
        rw [hck]
        refine s_k 1 rfl rfl ?_
        refine s_bs rfl g rfl ⟨by omega, by omega⟩ (by decide) (by omega) ?_
        have hmr := ddI_lt hD hlk.1 hlk.2 (by omega)
        refine am_s rfl rfl ?_
        refine s_gr rfl g rfl rfl ?_
        refine am_s rfl rfl ?_
        refine am_s rfl rfl ?_
        refine s_gr rfl g rfl rfl ?_
        refine am_s rfl rfl ?_
        refine s_ia rfl g rfl ⟨by omega, by omega⟩ (by decide) ?_
        rw [show am_w s2 186 (l k) 1 180 (k : Int) = l k by rw [am_w_row (by decide)]; exact hck]
        refine s_is rfl g rfl ⟨by omega, by omega⟩ (by decide) ?_
        refine s_inc rfl rfl ?_
        refine s_inc rfl rfl ?_
        refine am_s rfl rfl ?_
        refine am_lv [(2, _), (1, _), (0, _)] rfl rfl ⟨rfl, rfl, rfl, trivial⟩ ?_
        refine kk (m + 1) _ ⟨am_Fr_W (am_Fr_W hF2 (by decide)) (by decide), ddI_yes hD hlk.1 hlk.2 (by omega) (fun y => ?_) (fun y => ?_)⟩
        · rw [am_w_row (by decide), am_w_fun]
        · rw [am_w_fun, am_w_row (by decide)]
    · rintro m s2 ⟨hF2, hD⟩
      simp only
      have eK : s2 168 26 = (K : Int) := by rw [hF2 168 (by decide)]; exact hK
      refine am_s rfl rfl ?_
      refine am_s rfl rfl ?_
      refine s_gi (x := 26) rfl g rfl rfl rfl ?_
      refine s_cge rfl ⟨by omega, by omega⟩ ⟨by omega, by omega⟩ (fun c1 => ?_) (fun c1 => absurd c1 (by omega))
      exact am_r rfl rfl (hPP s2 hF2 (ddI_end hD ha))
