/-! THE HEAP AS NUMBERS: (address, place) ↦ number; the cells' kinds never change but for two arrays that grow -/
def iI (x : Int) : Int32 := Int32.ofInt x
def lI (x : Int) : Int64 := Int64.ofInt x
abbrev am_S : Type := Nat → Int → Int
def am_w (s : am_S) (a : Nat) (x v : Int) : am_S := fun b y => if b = a ∧ y = x then v else s b y
theorem am_w_eq (s : am_S) (a : Nat) (x v : Int) : am_w s a x v a x = v := if_pos ⟨rfl, rfl⟩
theorem am_w_a {s : am_S} {a b : Nat} {x v y : Int} (h : b ≠ a) : am_w s a x v b y = s b y := if_neg (fun z => h z.1)
theorem am_w_x {s : am_S} {a b : Nat} {x v y : Int} (h : y ≠ x) : am_w s a x v b y = s b y := if_neg (fun z => h z.2)
abbrev am_Ly : Type := (Nat × Nat) ⊕ (Nat × List (Nat × Nat))
/-- what lies where: arrays (kind, length); objects (which, their fields: 1 int, 2 long, 4 an address, 5 the signs, 6 the ways home) -/
def am_lo (a : Nat) : Option am_Ly := if a < 194 then (if a < 97 then (if a < 48 then (if a < 24 then (if a < 12 then (if a < 6 then (if a < 3 then (if a < 1 then (none) else (if a < 2 then (some (.inr (11, [(4, 2), (4, 25), (4, 48), (4, 58), (4, 127), (4, 151), (4, 153), (4, 158), (4, 160)]))) else (some (.inr (7, [(5, 0), (1, 0), (1, 0), (1, 0), (1, 0), (1, 0), (1, 0), (4, 4)]))))) else (if a < 4 then (none) else (if a < 5 then (some (.inl (4, 20))) else (some (.inl (1, 20)))))) else (some (.inl (1, 20)))) else (some (.inl (1, 20)))) else (if a < 36 then (if a < 30 then (if a < 27 then (if a < 25 then (some (.inl (1, 20))) else (if a < 26 then (some (.inr (4, [(1, 0), (4, 26), (1, 0), (4, 47)]))) else (some (.inl (4, 20))))) else (some (.inl (1, 20)))) else (some (.inl (1, 20)))) else (if a < 42 then (some (.inl (1, 20))) else (if a < 45 then (some (.inl (1, 20))) else (if a < 46 then (some (.inl (1, 20))) else (if a < 47 then (some (.inl (1, 20))) else (some (.inl (1, 4))))))))) else (if a < 72 then (if a < 60 then (if a < 54 then (if a < 51 then (if a < 49 then (some (.inr (9, [(1, 0), (2, 0), (1, 0), (4, 49), (4, 54), (4, 55), (4, 56), (4, 57)]))) else (if a < 50 then (some (.inr (2, [(4, 50), (4, 51), (4, 52), (4, 53)]))) else (some (.inl (1, 20))))) else (if a < 52 then (some (.inl (1, 20))) else (if a < 53 then (some (.inl (2, 20))) else (some (.inl (3, 20)))))) else (if a < 57 then (if a < 55 then (some (.inl (2, 20))) else (some (.inl (1, 20)))) else (if a < 58 then (some (.inl (1, 20))) else (if a < 59 then (some (.inr (5, [(1, 0), (2, 0), (2, 0), (1, 0), (4, 59), (4, 60), (4, 61), (4, 62)]))) else (some (.inl (1, 20))))))) else (if a < 66 then (if a < 63 then (if a < 61 then (some (.inl (1, 20))) else (if a < 62 then (some (.inl (2, 20))) else (some (.inr (3, [(1, 0), (2, 0), (1, 0), (1, 0), (4, 63), (4, 84), (4, 85), (4, 86), (4, 87), (4, 88), (4, 89), (4, 90), (4, 91), (4, 92), (4, 93), (4, 94), (4, 105), (4, 116)]))))) else (if a < 64 then (some (.inl (5, 20))) else (some (.inl (2, 20))))) else (some (.inl (2, 20))))) else (if a < 84 then (some (.inl (2, 20))) else (if a < 90 then (if a < 87 then (if a < 85 then (some (.inl (2, 30))) else (some (.inl (1, 20)))) else (some (.inl (1, 30)))) else (if a < 93 then (if a < 91 then (some (.inl (1, 30))) else (if a < 92 then (some (.inl (1, 30))) else (some (.inl (1, 10))))) else (if a < 95 then (if a < 94 then (some (.inl (1, 10))) else (some (.inl (4, 10)))) else (some (.inl (1, 20))))))))) else (if a < 145 then (if a < 121 then (if a < 109 then (if a < 103 then (some (.inl (1, 20))) else (if a < 106 then (if a < 104 then (some (.inl (1, 20))) else (if a < 105 then (some (.inl (1, 20))) else (some (.inl (4, 10))))) else (some (.inl (1, 20))))) else (if a < 115 then (some (.inl (1, 20))) else (if a < 118 then (if a < 116 then (some (.inl (1, 20))) else (if a < 117 then (some (.inl (4, 10))) else (some (.inl (1, 20))))) else (some (.inl (1, 20)))))) else (if a < 133 then (if a < 127 then (some (.inl (1, 20))) else (if a < 130 then (if a < 128 then (some (.inr (10, [(1, 0), (1, 0), (4, 128), (4, 129), (4, 130)]))) else (some (.inl (1, 40)))) else (if a < 131 then (some (.inl (4, 20))) else (some (.inl (1, 20)))))) else (some (.inl (1, 20))))) else (if a < 169 then (if a < 157 then (if a < 151 then (some (.inl (1, 20))) else (if a < 154 then (if a < 152 then (some (.inr (8, [(1, 0), (1, 0), (4, 152)]))) else (if a < 153 then (some (.inl (1, 20))) else (some (.inr (1, [(4, 154), (4, 155), (4, 156), (4, 157)]))))) else (if a < 155 then (some (.inl (3, 20))) else (some (.inl (1, 20)))))) else (if a < 163 then (if a < 160 then (if a < 158 then (some (.inl (1, 20))) else (if a < 159 then (some (.inr (6, [(6, 0), (1, 0), (1, 0)]))) else (none))) else (if a < 161 then (some (.inr (0, [(4, 161), (4, 162), (4, 163)]))) else (if a < 162 then (some (.inl (2, 20))) else (some (.inl (1, 20)))))) else (if a < 166 then (if a < 164 then (some (.inr (2, [(4, 164), (4, 165), (4, 166), (4, 167)]))) else (some (.inl (1, 20)))) else (if a < 167 then (some (.inl (2, 20))) else (if a < 168 then (some (.inl (3, 20))) else (some (.inr (12, [(1, 0), (1, 0), (4, 169), (4, 170), (4, 171), (1, 0), (1, 0), (1, 0), (1, 0), (1, 0), (4, 172), (4, 173), (1, 0), (4, 174), (1, 0), (4, 175), (2, 0), (4, 176), (1, 0), (4, 177), (1, 0), (4, 178), (2, 0), (4, 179), (1, 0), (4, 180), (1, 0), (4, 181), (4, 182), (1, 0), (4, 183), (4, 184), (4, 185), (4, 186), (4, 187), (4, 188), (4, 189), (4, 190), (4, 191), (4, 192), (4, 193)])))))))) else (if a < 181 then (if a < 175 then (if a < 172 then (if a < 170 then (some (.inl (1, 400))) else (if a < 171 then (some (.inl (1, 400))) else (some (.inl (0, 5000))))) else (if a < 173 then (some (.inl (2, 20))) else (if a < 174 then (some (.inl (2, 20))) else (some (.inl (1, 3)))))) else (if a < 178 then (some (.inl (1, 20))) else (if a < 179 then (some (.inl (1, 20))) else (if a < 180 then (some (.inl (2, 1048576))) else (some (.inl (1, 64))))))) else (if a < 187 then (if a < 184 then (if a < 182 then (some (.inl (1, 400))) else (if a < 183 then (some (.inl (1, 64))) else (some (.inl (1, 20))))) else (if a < 185 then (some (.inl (1, 20))) else (if a < 186 then (some (.inl (1, 20))) else (some (.inl (3, 20)))))) else (if a < 190 then (if a < 188 then (some (.inl (1, 20))) else (if a < 189 then (some (.inl (1, 40))) else (some (.inl (1, 20))))) else (if a < 192 then (if a < 191 then (some (.inl (3, 400))) else (some (.inl (2, 20)))) else (if a < 193 then (some (.inl (1, 20))) else (some (.inl (2, 16384))))))))))) else none
/-- what does not change: the rest of the heap, the rows' addresses, the signs' row and the ways' with their lengths, cells and slots -/
abbrev am_Ev : Type := (Nat → am_E) × (Nat → Nat → Option Nat) × (Nat × Nat) × (Nat × Nat) × Nat × Nat
def am_fv (E : am_Ev) (k : Nat × Nat) (v : Int) : Value := if k.1 = 1 then .int (iI v) else if k.1 = 2 then .long (lI v) else if k.1 = 4 then .ref k.2 else if k.1 = 5 then .ref E.2.2.1.1 else .ref E.2.2.2.1.1
def am_fs (E : am_Ev) (g : Int → Int) : List (Nat × Nat) → Nat → List Value
  | [], _ => []
  | k :: ks, i => am_fv E k (g i) :: am_fs E g ks (i + 1)
def am_ia (g : Int → Int) : Nat → Int32 := fun i => iI (g i)
def am_ja (g : Int → Int) : Nat → Int64 := fun i => lI (g i)
def am_cl (E : am_Ev) (s : am_S) (a : Nat) : am_E := match am_lo a with
  | some (.inl (t, n)) => if t = 2 then .inl (2, n, .inr (.inl (am_ja (s a)))) else if t = 1 then .inl (1, n, .inl (am_ia (s a))) else if t = 3 then .inl (3, n, .inl (am_ia (s a))) else if t = 0 then .inl (0, n, .inl (am_ia (s a))) else .inl (t, n, .inr (.inr (.inr (.inr (E.2.1 a)))))
  | some (.inr (ci, ks)) => .inr (ci, am_fs E (s a) ks 0)
  | none => if a = E.2.2.1.1 then .inl (0, E.2.2.1.2, .inl (am_ia (s a))) else if a = E.2.2.2.1.1 then .inl (2, E.2.2.2.1.2, .inr (.inl (am_ja (s a)))) else E.1 a
def am_hp (E : am_Ev) (s : am_S) : am_H := (E.2.2.2.2.1, E.2.2.2.2.2, am_cl E s)
/-- the rows of rows hold the cells behind them -/
def am_Eg (E : am_Ev) : Prop := 193 ≤ E.2.2.2.2.1 ∧ (∀ a n, am_lo a = some (.inl (4, n)) → ∀ i, i < n → E.2.1 a i = some (a + 1 + i)) ∧ (∀ a n, am_lo a = some (.inl (5, n)) → ∀ i, i < n → E.2.1 a i = some (a + 1 + i))
theorem am_lo_le {a : Nat} {y : am_Ly} (h : am_lo a = some y) : 1 ≤ a ∧ a ≤ 193 := by
  rcases Nat.lt_or_ge a 194 with h1 | h1
  · rcases Nat.eq_zero_or_pos a with rfl | h2
    · cases h
    · exact ⟨h2, by omega⟩
  · unfold am_lo at h
    rw [if_neg (by omega)] at h
    cases h
theorem am_fs_get {E : am_Ev} {g : Int → Int} : ∀ {ks : List (Nat × Nat)} {i k : Nat} {q : Nat × Nat}, ks[k]? = some q → (am_fs E g ks i)[k]? = some (am_fv E q (g ((i + k : Nat) : Int)))
  | [], _, _, _, h => by cases h
  | z :: ks, i, 0, q, h => by
    cases h
    rfl
  | z :: ks, i, k + 1, q, h => by
    show (am_fs E g ks (i + 1))[k]? = _
    rw [am_fs_get (i := i + 1) (k := k) h, show i + 1 + k = i + (k + 1) by omega]
theorem am_fs_len {E : am_Ev} {g : Int → Int} : ∀ {ks : List (Nat × Nat)} {i : Nat}, (am_fs E g ks i).length = ks.length
  | [], _ => rfl
  | z :: ks, i => by
    show (am_fs E g ks (i + 1)).length + 1 = ks.length + 1
    rw [am_fs_len]
theorem am_fs_congr {E : am_Ev} {g g2 : Int → Int} : ∀ {ks : List (Nat × Nat)} {i : Nat}, (∀ j : Nat, i ≤ j → g j = g2 j) → am_fs E g ks i = am_fs E g2 ks i
  | [], _, _ => rfl
  | z :: ks, i, h => by
    show am_fv E z (g i) :: am_fs E g ks (i + 1) = am_fv E z (g2 i) :: am_fs E g2 ks (i + 1)
    rw [h i (Nat.le_refl i), am_fs_congr (fun j hj => h j (by omega))]
theorem am_fs_set {E : am_Ev} {g g2 : Int → Int} : ∀ {ks : List (Nat × Nat)} {i k : Nat} {q : Nat × Nat}, ks[k]? = some q → (∀ j : Nat, j ≠ i + k → g2 j = g j) → (am_fs E g ks i).set k (am_fv E q (g2 ((i + k : Nat) : Int))) = am_fs E g2 ks i
  | [], _, _, _, h, _ => by cases h
  | z :: ks, i, 0, q, h, e => by
    cases h
    show am_fv E z (g2 i) :: am_fs E g ks (i + 1) = am_fv E z (g2 i) :: am_fs E g2 ks (i + 1)
    rw [am_fs_congr (g := g) (g2 := g2) (fun j hj => (e j (by omega)).symm)]
  | z :: ks, i, k + 1, q, h, e => by
    show am_fv E z (g i) :: (am_fs E g ks (i + 1)).set k (am_fv E q (g2 ((i + (k + 1) : Nat) : Int))) = am_fv E z (g2 i) :: am_fs E g2 ks (i + 1)
    rw [e i (by omega), show i + (k + 1) = i + 1 + k by omega, am_fs_set (i := i + 1) (k := k) h (fun j hj => e j (by omega))]
theorem am_w_row {s : am_S} {a b : Nat} {x v : Int} (h : b ≠ a) : am_w s a x v b = s b := funext fun y => am_w_a h
theorem am_cl_ne {E : am_Ev} {s : am_S} {a b : Nat} {x v : Int} (h : b ≠ a) : am_cl E (am_w s a x v) b = am_cl E s b := by
  unfold am_cl
  rw [am_w_row h]
theorem am_cl_up {E : am_Ev} {s : am_S} {a : Nat} {x v : Int} {c : am_E} (h : am_cl E (am_w s a x v) a = c) : am_up (am_cl E s) a c = am_cl E (am_w s a x v) := by
  funext b
  unfold am_up
  by_cases e : b = a
  · rw [if_pos e, e, h]
  · rw [if_neg e, am_cl_ne e]
theorem am_ia_upd {g : Int → Int} {k : Nat} {v : Int} : upd (am_ia g) k (iI v) = am_ia (fun y => if y = (k : Int) then v else g y) := by
  funext i
  unfold upd am_ia
  by_cases e : i = k
  · subst e; simp
  · simp [e, Int.ofNat_inj]
theorem am_w_fun {s : am_S} {a : Nat} {x v : Int} : am_w s a x v a = fun y => if y = x then v else s a y := by
  funext y
  unfold am_w
  by_cases e : y = x
  · rw [if_pos ⟨rfl, e⟩, if_pos e]
  · rw [if_neg (fun z => e z.2), if_neg e]
/-! numbers -/
def am_R (x : Int) : Prop := -2147483648 ≤ x ∧ x < 2147483648
def am_Q (x : Int) : Prop := -9223372036854775808 ≤ x ∧ x < 9223372036854775808
theorem iI_toInt {x : Int} (h : am_R x) : (iI x).toInt = x := Int32.toInt_ofInt_of_le (by unfold am_R at h; omega) (by unfold am_R at h; omega)
theorem lI_toInt {x : Int} (h : am_Q x) : (lI x).toInt = x := Int64.toInt_ofInt_of_le (by unfold am_Q at h; omega) (by unfold am_Q at h; omega)
theorem iI_add (a b : Int) : iI a + iI b = iI (a + b) := (Int32.ofInt_add a b).symm
theorem iI_sub (a b : Int) : iI a - iI b = iI (a - b) := (Int32.ofInt_sub a b).symm
theorem iI_mul (a b : Int) : iI a * iI b = iI (a * b) := (Int32.ofInt_mul a b).symm
theorem iI_neg (a : Int) : - iI a = iI (-a) := (Int32.ofInt_neg a).symm
theorem lI_add (a b : Int) : lI a + lI b = lI (a + b) := (Int64.ofInt_add a b).symm
theorem lI_sub (a b : Int) : lI a - lI b = lI (a - b) := (Int64.ofInt_sub a b).symm
theorem lI_mul (a b : Int) : lI a * lI b = lI (a * b) := (Int64.ofInt_mul a b).symm
theorem lI_neg (a : Int) : - lI a = lI (-a) := (Int64.ofInt_neg a).symm
theorem iI_lt {a b : Int} (ha : am_R a) (hb : am_R b) : iI a < iI b ↔ a < b := by
  rw [Int32.lt_iff_toInt_lt, iI_toInt ha, iI_toInt hb]
theorem iI_le {a b : Int} (ha : am_R a) (hb : am_R b) : iI a ≤ iI b ↔ a ≤ b := by
  rw [Int32.le_iff_toInt_le, iI_toInt ha, iI_toInt hb]
theorem iI_eq {a b : Int} (ha : am_R a) (hb : am_R b) : iI a = iI b ↔ a = b := by
  rw [← Int32.toInt_inj, iI_toInt ha, iI_toInt hb]
theorem lI_lt {a b : Int} (ha : am_Q a) (hb : am_Q b) : lI a < lI b ↔ a < b := by
  rw [Int64.lt_iff_toInt_lt, lI_toInt ha, lI_toInt hb]
theorem lI_eq {a b : Int} (ha : am_Q a) (hb : am_Q b) : lI a = lI b ↔ a = b := by
  rw [← Int64.toInt_inj, lI_toInt ha, lI_toInt hb]
theorem iI_l {a : Int} (ha : am_R a) : (iI a).toInt64 = lI a := by
  rw [← Int64.toInt_inj, Int32.toInt_toInt64, iI_toInt ha, lI_toInt ⟨by unfold am_R at ha; omega, by unfold am_R at ha; omega⟩]
theorem iI_nat (n : Nat) : Int32.ofNat n = iI n := by
  unfold iI
  rw [Int32.ofInt_eq_ofNat]
theorem iI_clamp {x : Int} (h : 0 ≤ x) (h2 : x < 2147483648) : (iI x).toNatClampNeg = x.toNat := by
  unfold Int32.toNatClampNeg
  rw [iI_toInt ⟨by omega, h2⟩]
theorem iI_idx {x : Int} {n : Nat} (h : 0 ≤ x) (h2 : x < n) (hn : n < 2147483648) : am_idx (iI x) n = true := by
  unfold am_idx
  rw [iI_clamp h (by omega)]
  have h3 : ¬ iI x < 0 := by
    rw [show (0 : Int32) = iI 0 from rfl, iI_lt ⟨by omega, by omega⟩ ⟨by omega, by omega⟩]
    omega
  simp [h3]
  omega
