/-! tours that grow by the cheapest -/
def nx (m p : Int) : Int := if p + 1 < m then p + 1 else 0
theorem nx_r {m p : Int} (h0 : 0 ≤ p) (h1 : p < m) : 0 ≤ nx m p ∧ nx m p < m := by
  unfold nx
  split <;> omega
def gt_g (D : Int → Int → Int) (m : Int) (t : Int → Int) (c p : Int) : Int := D c (t p) + D c (t (nx m p)) - D (t p) (t (nx m p))
def gt_p (n : Int) (D : Int → Int → Int) (m : Int) (t : Int → Int) (c p : Int) : Prop := (0 ≤ c ∧ c < n) ∧ (∀ j, 0 ≤ j → j < m → t j ≠ c) ∧ (0 ≤ p ∧ p < m) ∧ ∀ c2 p2, 0 ≤ c2 → c2 < n → (∀ j, 0 ≤ j → j < m → t j ≠ c2) → 0 ≤ p2 → p2 < m → gt_g D m t c p < gt_g D m t c2 p2 ∨ gt_g D m t c p = gt_g D m t c2 p2 ∧ (c < c2 ∨ c = c2 ∧ p ≤ p2)
/-- c put behind place p of m stops -/
def gt_i (m c p : Int) (t0 t : Int → Int) : Prop := (∀ y, 0 ≤ y → y ≤ p → t y = t0 y) ∧ t (p + 1) = c ∧ ∀ y, p + 1 < y → y ≤ m → t y = t0 (y - 1)
def gt_ok (n : Int) (D : Int → Int → Int) (st : Int) : Nat → (Int → Int) → Prop
  | 0, t => t 0 = st
  | k + 1, t => ∃ t0 c p, gt_ok n D st k t0 ∧ gt_p n D ((k : Int) + 1) t0 c p ∧ gt_i ((k : Int) + 1) c p t0 t
/-- its stops are cities, none twice -/
def ds_ok (n m : Int) (t : Int → Int) : Prop := (∀ i, 0 ≤ i → i < m → 0 ≤ t i ∧ t i < n) ∧ ∀ i j, 0 ≤ i → i < j → j < m → t i ≠ t j
theorem gt_i_at {m c p : Int} {t0 t : Int → Int} (hp : 0 ≤ p ∧ p < m) (h : gt_i m c p t0 t) (y : Int) (y0 : 0 ≤ y) (y1 : y ≤ m) : t y = if y ≤ p then t0 y else if y = p + 1 then c else t0 (y - 1) := by
  by_cases e : y ≤ p
  · rw [if_pos e]; exact h.1 y y0 e
  · rw [if_neg e]
    by_cases e2 : y = p + 1
    · rw [if_pos e2, e2]; exact h.2.1
    · rw [if_neg e2]; exact h.2.2 y (by omega) y1
theorem gt_ds {n m c p : Int} {D : Int → Int → Int} {t0 t : Int → Int} (h : gt_p n D m t0 c p) (hi : gt_i m c p t0 t) (hd : ds_ok n m t0) : ds_ok n (m + 1) t := by
  obtain ⟨h1, h2, h3, h4⟩ := h
  have at_ := gt_i_at h3 hi
  refine ⟨fun i i0 i1 => ?_, fun i j i0 ij j1 => ?_⟩
  · rw [at_ i i0 (by omega)]
    split
    · exact hd.1 i i0 (by omega)
    · split
      · exact h1
      · exact hd.1 (i - 1) (by omega) (by omega)
  · rw [at_ i i0 (by omega), at_ j (by omega) (by omega)]
    by_cases e1 : j ≤ p
    · rw [if_pos e1, if_pos (by omega)]; exact hd.2 i j i0 ij (by omega)
    · rw [if_neg e1]
      by_cases e2 : j = p + 1
      · rw [if_pos e2, if_pos (by omega)]; exact h2 i i0 (by omega)
      · rw [if_neg e2]
        by_cases e3 : i ≤ p
        · rw [if_pos e3]; exact hd.2 i (j - 1) i0 (by omega) (by omega)
        · rw [if_neg e3]
          by_cases e4 : i = p + 1
          · rw [if_pos e4]; exact fun z => h2 (j - 1) (by omega) (by omega) z.symm
          · rw [if_neg e4]; exact hd.2 (i - 1) (j - 1) (by omega) (by omega) (by omega)
theorem gt_okds {n : Int} {D : Int → Int → Int} {st : Int} (hst : 0 ≤ st ∧ st < n) : ∀ {k : Nat} {t : Int → Int}, gt_ok n D st k t → ds_ok n ((k : Int) + 1) t
  | 0, t, h => ⟨fun i i0 i1 => by
      have : i = 0 := by omega
      rw [this, show t 0 = st from h]; exact hst, fun i j i0 ij j1 => by omega⟩
  | k + 1, t, h => by
    obtain ⟨t0, c, p, h1, h2, h3⟩ := h
    have := gt_ds h2 h3 (gt_okds hst h1)
    rw [show ((k + 1 : Nat) : Int) + 1 = (k : Int) + 1 + 1 by omega]
    exact this
theorem gt_uniq {n : Int} {D D2 : Int → Int → Int} {st : Int} (hst : 0 ≤ st ∧ st < n) (hD : ∀ a b, 0 ≤ a → a < n → 0 ≤ b → b < n → D a b = D2 a b) : ∀ {k : Nat} {t t2 : Int → Int}, gt_ok n D st k t → gt_ok n D2 st k t2 → ∀ y, 0 ≤ y → y ≤ (k : Int) → t y = t2 y
  | 0, t, t2, h, h2, y, y0, y1 => by
    have : y = 0 := by omega
    rw [this]
    exact (show t 0 = st from h).trans (show t2 0 = st from h2).symm
  | k + 1, t, t2, h, h2, y, y0, y1 => by
    obtain ⟨t0, c, p, a1, a2, a3⟩ := h
    obtain ⟨t0', c', p', b1, b2, b3⟩ := h2
    have e := gt_uniq hst hD a1 b1
    have d1 := gt_okds hst a1
    have gg : ∀ c p, 0 ≤ c → c < n → 0 ≤ p → p < (k : Int) + 1 → gt_g D ((k : Int) + 1) t0 c p = gt_g D2 ((k : Int) + 1) t0' c p := fun c p c0 c1 p0 p1 => by
      have q := nx_r p0 p1
      have r1 := d1.1 p p0 p1
      have r2 := d1.1 _ q.1 q.2
      unfold gt_g
      rw [hD c _ c0 c1 r1.1 r1.2, hD c _ c0 c1 r2.1 r2.2, hD _ _ r1.1 r1.2 r2.1 r2.2, e p p0 (by omega), e _ q.1 (by omega)]
    have x1 := a2.2.2.2 c' p' b2.1.1 b2.1.2 (fun j j0 j1 => by rw [e j j0 (by omega)]; exact b2.2.1 j j0 j1) b2.2.2.1.1 b2.2.2.1.2
    have x2 := b2.2.2.2 c p a2.1.1 a2.1.2 (fun j j0 j1 => by rw [← e j j0 (by omega)]; exact a2.2.1 j j0 j1) a2.2.2.1.1 a2.2.2.1.2
    rw [gg c p a2.1.1 a2.1.2 a2.2.2.1.1 a2.2.2.1.2, gg c' p' b2.1.1 b2.1.2 b2.2.2.1.1 b2.2.2.1.2] at x1
    have ec : c = c' := by omega
    have ep : p = p' := by omega
    subst ec
    subst ep
    rw [gt_i_at a2.2.2.1 a3 y y0 (by omega), gt_i_at b2.2.2.1 b3 y y0 (by omega)]
    have pp := a2.2.2.1
    split
    · exact e y y0 (by omega)
    · split
      · rfl
      · exact e (y - 1) (by omega) (by omega)
/-- the cheapest so far -/
def gt_b (n : Int) (D : Int → Int → Int) (m : Int) (t : Int → Int) (u : Int → Prop) (C T : Int) (q : Int × Int) (l : Int) (non : Prop) : Prop := (non ∧ ∀ c p, 0 ≤ c → c < n → 0 ≤ p → p < m → (c < C ∨ c = C ∧ p < T) → ¬ u c) ∨ (¬ non ∧ (0 ≤ q.1 ∧ q.1 < n) ∧ (0 ≤ q.2 ∧ q.2 < m) ∧ u q.1 ∧ (q.1 < C ∨ q.1 = C ∧ q.2 < T) ∧ l = gt_g D m t q.1 q.2 ∧ ∀ c p, 0 ≤ c → c < n → 0 ≤ p → p < m → (c < C ∨ c = C ∧ p < T) → u c → l < gt_g D m t c p ∨ l = gt_g D m t c p ∧ (q.1 < c ∨ q.1 = c ∧ q.2 ≤ p))
theorem gt_b_skip {n : Int} {D : Int → Int → Int} {m : Int} {t : Int → Int} {u : Int → Prop} {C T : Int} {q : Int × Int} {l : Int} {non : Prop} (h : gt_b n D m t u C T q l non) (hu : ¬ u C) : gt_b n D m t u (C + 1) 0 q l non := by
  rcases h with ⟨h1, h2⟩ | ⟨h0, h1, h2, h3, h4, h5, h6⟩
  · refine Or.inl ⟨h1, fun c p c0 c1 p0 p1 hs => ?_⟩
    by_cases e : c = C
    · rw [e]; exact hu
    · exact h2 c p c0 c1 p0 p1 (by omega)
  · refine Or.inr ⟨h0, h1, h2, h3, by omega, h5, fun c p c0 c1 p0 p1 hs hc => ?_⟩
    by_cases e : c = C
    · exact absurd (e ▸ hc) hu
    · exact h6 c p c0 c1 p0 p1 (by omega) hc
theorem gt_b_row {n : Int} {D : Int → Int → Int} {m : Int} {t : Int → Int} {u : Int → Prop} {C : Int} {q : Int × Int} {l : Int} {non : Prop} (h : gt_b n D m t u C m q l non) : gt_b n D m t u (C + 1) 0 q l non := by
  rcases h with ⟨h1, h2⟩ | ⟨h0, h1, h2, h3, h4, h5, h6⟩
  · exact Or.inl ⟨h1, fun c p c0 c1 p0 p1 hs => h2 c p c0 c1 p0 p1 (by omega)⟩
  · exact Or.inr ⟨h0, h1, h2, h3, by omega, h5, fun c p c0 c1 p0 p1 hs => h6 c p c0 c1 p0 p1 (by omega)⟩
theorem gt_b_keep {n : Int} {D : Int → Int → Int} {m : Int} {t : Int → Int} {u : Int → Prop} {C T : Int} {q : Int × Int} {l : Int} {non : Prop} (h : gt_b n D m t u C T q l non) (hn : ¬ non) (hl : l ≤ gt_g D m t C T) : gt_b n D m t u C (T + 1) q l non := by
  rcases h with ⟨h1, h2⟩ | ⟨h0, h1, h2, h3, h4, h5, h6⟩
  · exact absurd h1 hn
  · refine Or.inr ⟨h0, h1, h2, h3, by omega, h5, fun c p c0 c1 p0 p1 hs hc => ?_⟩
    by_cases e : c = C ∧ p = T
    · obtain ⟨rfl, rfl⟩ := e
      omega
    · exact h6 c p c0 c1 p0 p1 (by omega) hc
theorem gt_b_take {n : Int} {D : Int → Int → Int} {m : Int} {t : Int → Int} {u : Int → Prop} {C T : Int} {q : Int × Int} {l : Int} {non : Prop} (h : gt_b n D m t u C T q l non) (hC : 0 ≤ C ∧ C < n) (hT : 0 ≤ T ∧ T < m) (hu : u C) (hl : non ∨ gt_g D m t C T < l) {non2 : Prop} (hn2 : ¬ non2) : gt_b n D m t u C (T + 1) (C, T) (gt_g D m t C T) non2 := by
  refine Or.inr ⟨hn2, hC, hT, hu, Or.inr ⟨rfl, by show T < T + 1; omega⟩, rfl, fun c p c0 c1 p0 p1 hs hc => ?_⟩
  show gt_g D m t C T < gt_g D m t c p ∨ gt_g D m t C T = gt_g D m t c p ∧ (C < c ∨ C = c ∧ T ≤ p)
  by_cases e : c = C ∧ p = T
  · obtain ⟨rfl, rfl⟩ := e
    exact Or.inr ⟨rfl, Or.inr ⟨rfl, Int.le_refl _⟩⟩
  · rcases h with ⟨h1, h2⟩ | ⟨h0, h1, h2, h3, h4, h5, h6⟩
    · exact absurd hc (h2 c p c0 c1 p0 p1 (by omega))
    · have := h6 c p c0 c1 p0 p1 (by omega) hc
      rcases hl with hl | hl
      · exact absurd hl h0
      · omega
set_option maxHeartbeats 4000000 in
theorem t_putCheapest {d m : Nat} {E : am_Ev} {s : am_S} {PP : Option Value → am_H → Prop} (g : am_Eg E) (hPP : ∀ c p s', (am_Fr [152, 154] s s' ∧ gt_p (s 25 0) (mx s) m (s 152) c p ∧ gt_i m c p (s 152) (s' 152) ∧ ∀ y, s' 154 y = if y = c then 1 else s 154 y) → PP none (am_hp E s')) (hm : mx_ok s) (hm1 : 1 ≤ m ∧ (m : Int) < s 25 0) (ht : ∀ i, 0 ≤ i → i < (m : Int) → 0 ≤ s 152 i ∧ s 152 i < s 25 0) (hus : us_of (s 25 0) m (s 154) (s 152)) (hleft : ∃ y, 0 ≤ y ∧ y < s 25 0 ∧ s 154 y = 0) : am_wp d 13 0 (lv_args 0 [.ref 153, .ref 25, .ref 152, .int (iI (m : Int))]) [] (am_hp E s) PP := by
  obtain ⟨n1, n2, hD⟩ := hm
  obtain ⟨n, en⟩ : ∃ n : Nat, s 25 0 = n := ⟨(s 25 0).toNat, by omega⟩
  have hu : ∀ y, 0 ≤ y → y < (n : Int) → s 154 y = 0 ∨ s 154 y = 1 := fun y y0 y1 => hus.1 y y0 (by omega)
  have hun : ∀ y, 0 ≤ y → y < (n : Int) → s 154 y = 0 → ∀ j, 0 ≤ j → j < (m : Int) → s 152 j ≠ y := fun y y0 y1 hy j j0 j1 e => by
    have := (hus.2 y y0 (by omega)).mpr ⟨j, j0, j1, e⟩
    omega
  have hun2 : ∀ y, 0 ≤ y → y < (n : Int) → (∀ j, 0 ≤ j → j < (m : Int) → s 152 j ≠ y) → s 154 y = 0 := fun y y0 y1 hy => by
    rcases hu y y0 y1 with z | z
    · exact z
    · obtain ⟨j, j0, j1, j2⟩ := (hus.2 y y0 (by omega)).mp z
      exact absurd j2 (hy j j0 j1)
  refine s_k 0 rfl rfl ?_
  refine am_s rfl rfl ?_
  refine s_k 0 rfl rfl ?_
  refine am_s rfl rfl ?_
  refine s_kl 9223372036854775807 rfl rfl ?_
  refine am_s rfl rfl ?_
  refine s_k 0 rfl rfl ?_
  refine am_s rfl rfl ?_
  refine am_lv [(8, .int (iI (((0 : Nat) : Int) : Int))), (6, .long (lI 9223372036854775807)), (5, .int (iI 0)), (4, .int (iI 0)), (3, .int (iI (m : Int))), (2, .ref 152), (1, .ref 25), (0, .ref 153)] rfl rfl ⟨rfl, rfl, rfl, rfl, rfl, rfl, rfl, rfl, trivial⟩ ?_
  refine s_loop (X := Int × Int × Int) (fun C x s' => s = s' ∧ gt_b n (mx s) m (s 152) (fun b => s 154 b = 0) C 0 (x.1, x.2.1) x.2.2 (x.2.2 = 9223372036854775807)) (fun C x => [(8, .int (iI (C : Int))), (6, .long (lI x.2.2)), (5, .int (iI x.2.1)), (4, .int (iI x.1)), (3, .int (iI (m : Int))), (2, .ref 152), (1, .ref 25), (0, .ref 153)]) (hi := n) (x := (0, 0, 9223372036854775807)) (Nat.zero_le n) ⟨rfl, Or.inl ⟨rfl, fun c p c0 c1 p0 p1 hs => absurd hs (by omega)⟩⟩ ?_ ?_
  · rintro C x s1 hC0 hC ⟨rfl, hQ⟩ kk
    simp only at kk hQ ⊢
    refine am_s rfl rfl ?_
    refine am_s rfl rfl ?_
    refine s_gi (x := 0) rfl g rfl rfl rfl ?_
    refine s_cge rfl ⟨by omega, by omega⟩ ⟨by omega, by omega⟩ (fun c1 => absurd c1 (by omega)) (fun c1 => ?_)
    refine s_k 0 rfl rfl ?_
    refine am_s rfl rfl ?_
    refine am_lv [(9, .int (iI (((0 : Nat) : Int) : Int))), (8, .int (iI (C : Int))), (6, .long (lI x.2.2)), (5, .int (iI x.2.1)), (4, .int (iI x.1)), (3, .int (iI (m : Int))), (2, .ref 152), (1, .ref 25), (0, .ref 153)] rfl rfl ⟨rfl, rfl, rfl, rfl, rfl, rfl, rfl, rfl, rfl, trivial⟩ ?_
    refine s_loop (X := Int × Int × Int) (fun p x s' => s = s' ∧ gt_b n (mx s) m (s 152) (fun b => s 154 b = 0) C p (x.1, x.2.1) x.2.2 (x.2.2 = 9223372036854775807)) (fun p x => [(9, .int (iI (p : Int))), (8, .int (iI (C : Int))), (6, .long (lI x.2.2)), (5, .int (iI x.2.1)), (4, .int (iI x.1)), (3, .int (iI (m : Int))), (2, .ref 152), (1, .ref 25), (0, .ref 153)]) (hi := m) (x := x) (Nat.zero_le m) ⟨rfl, hQ⟩ ?_ ?_
    · rintro p x s2 hp0 hp ⟨rfl, hG⟩ k2
      simp only at k2 hG ⊢
      have hl := ht p (by omega) (by omega)
      have hx9 := nx_r (m := (m : Int)) (p := (p : Int)) (by omega) (by omega)
      have hr := ht _ hx9.1 hx9.2
      have hC9 := hu C (by omega) (by omega)
      have d1 := hD C (s 152 p) (by omega) (by omega) hl.1 (by omega)
      have d2 := hD C (s 152 (nx m p)) (by omega) (by omega) hr.1 (by omega)
      have d3 := hD (s 152 p) (s 152 (nx m p)) hl.1 (by omega) hr.1 (by omega)
      have hlq : am_Q x.2.2 := by
        rcases hG with ⟨z, -⟩ | ⟨-, z1, z2, -, -, z5, -⟩
        · rw [z]; exact ⟨by decide, by decide⟩
        · simp only at z1 z2 z5
          have y1 := ht x.2.1 z2.1 z2.2
          have y9 := nx_r z2.1 z2.2
          have y2 := ht _ y9.1 y9.2
          have e1 := hD x.1 (s 152 x.2.1) z1.1 (by omega) y1.1 (by omega)
          have e2 := hD x.1 (s 152 (nx m x.2.1)) z1.1 (by omega) y2.1 (by omega)
          have e3 := hD (s 152 x.2.1) (s 152 (nx m x.2.1)) y1.1 (by omega) y2.1 (by omega)
          rw [z5]
          unfold gt_g
          exact ⟨by omega, by omega⟩
      have heg : gt_g (mx s) m (s 152) C p = mx s C (s 152 p) + mx s C (s 152 (nx m p)) - mx s (s 152 p) (s 152 (nx m p)) := rfl
      have hgb : -4294967296 ≤ gt_g (mx s) m (s 152) C p ∧ gt_g (mx s) m (s 152) C p ≤ 4294967296 := by rw [heg]; omega
      have j104 : s 154 C = 0 → am_wp d 13 104 [(13, .long (lI (gt_g (mx s) m (s 152) C p))), (9, .int (iI (p : Int))), (8, .int (iI (C : Int))), (6, .long (lI x.2.2)), (5, .int (iI x.2.1)), (4, .int (iI x.1)), (3, .int (iI (m : Int))), (2, .ref 152), (1, .ref 25), (0, .ref 153)] [] (am_hp E s) PP := by
        intro hC0s
        clear heg d1 d2 d3 hr hx9 hl
        refine am_s rfl rfl ?_
        refine am_s rfl rfl ?_
        refine s_jge rfl rfl ⟨by omega, by omega⟩ hlq (fun c31 => ?_) (fun c31 => ?_)
        · refine s_inc rfl rfl ?_
          refine am_s rfl rfl ?_
          refine am_lv [(9, _), (8, _), (6, _), (5, _), (4, _), (3, _), (2, _), (1, _), (0, _)] rfl rfl ⟨rfl, rfl, rfl, rfl, rfl, rfl, rfl, rfl, rfl, trivial⟩ ?_
          exact k2 x _ ⟨rfl, gt_b_keep hG (fun z => by rw [z] at c31; omega) c31⟩
        · refine am_s rfl rfl ?_
          refine am_s rfl rfl ?_
          refine am_s rfl rfl ?_
          refine am_s rfl rfl ?_
          refine am_s rfl rfl ?_
          refine am_s rfl rfl ?_
          refine s_inc rfl rfl ?_
          refine am_s rfl rfl ?_
          refine am_lv [(9, _), (8, _), (6, _), (5, _), (4, _), (3, _), (2, _), (1, _), (0, _)] rfl rfl ⟨rfl, rfl, rfl, rfl, rfl, rfl, rfl, rfl, rfl, trivial⟩ ?_
          have := k2 (C, p, gt_g (mx s) m (s 152) C p) _ ⟨rfl, gt_b_take hG ⟨by omega, by omega⟩ ⟨by omega, by omega⟩ hC0s (Or.inr (by omega)) (by show ¬ gt_g (mx s) m (s 152) C p = 9223372036854775807; omega)⟩
          exact this
      refine am_s rfl rfl ?_
      refine am_s rfl rfl ?_
      refine s_cge rfl ⟨by omega, by omega⟩ ⟨by omega, by omega⟩ (fun c21 => absurd c21 (by omega)) (fun c21 => ?_)
      refine am_s rfl rfl ?_
      refine s_gr rfl g rfl rfl ?_
      refine am_s rfl rfl ?_
      refine s_ba rfl g rfl ⟨by omega, by omega⟩ (by decide) ?_
      refine s_zne rfl ⟨by omega, by omega⟩ (fun c22 => ?_) (fun c22 => ?_)
      · refine s_inc rfl rfl ?_
        refine am_s rfl rfl ?_
        refine am_lv [(8, _), (6, _), (5, _), (4, _), (3, _), (2, _), (1, _), (0, _)] rfl rfl ⟨rfl, rfl, rfl, rfl, rfl, rfl, rfl, rfl, trivial⟩ ?_
        have := kk x s ⟨rfl, gt_b_skip hG (show ¬ s 154 C = 0 from c22)⟩
        exact this
      · refine am_s rfl rfl ?_
        refine am_s rfl rfl ?_
        refine s_ia rfl g rfl ⟨by omega, by omega⟩ (by decide) ?_
        refine am_s rfl rfl ?_
        refine am_s rfl rfl ?_
        refine am_s rfl rfl ?_
        refine s_k 1 rfl rfl ?_
        refine s_iadd rfl ?_
        refine am_s rfl rfl ?_
        refine s_cge rfl ⟨by omega, by omega⟩ ⟨by omega, by omega⟩ (fun c23 => ?_) (fun c23 => ?_)
        · have enx : nx m p = 0 := if_neg (by omega)
          rw [enx] at d2 d3 heg hr hx9
          refine s_k 0 rfl rfl ?_
          refine s_ia rfl g rfl ⟨by omega, by omega⟩ (by decide) ?_
          refine am_s rfl rfl ?_
          refine am_s rfl rfl ?_
          refine s_gr rfl g rfl rfl ?_
          refine am_s rfl rfl ?_
          refine s_aa rfl g rfl ⟨by omega, by omega⟩ (by decide) ?_
          refine am_s rfl rfl ?_
          refine am_s rfl rfl ?_
          refine am_s rfl rfl ?_
          refine s_ia rfl g (lo_26 (by omega) (by omega)) ⟨by omega, by omega⟩ (by decide) ?_
          refine s_i2l rfl (by unfold mx at d1; exact ⟨by omega, by omega⟩) ?_
          refine am_s rfl rfl ?_
          refine am_s rfl rfl ?_
          refine s_ia rfl g (lo_26 (by omega) (by omega)) ⟨by omega, by omega⟩ (by decide) ?_
          refine s_i2l rfl (by unfold mx at d2; exact ⟨by omega, by omega⟩) ?_
          refine s_ladd rfl ?_
          refine am_s rfl rfl ?_
          refine s_gr rfl g rfl rfl ?_
          refine am_s rfl rfl ?_
          refine s_aa rfl g rfl ⟨by omega, by omega⟩ (by decide) ?_
          refine am_s rfl rfl ?_
          refine s_ia rfl g (lo_26 (by omega) (by omega)) ⟨by omega, by omega⟩ (by decide) ?_
          refine s_i2l rfl (by unfold mx at d3; exact ⟨by omega, by omega⟩) ?_
          refine s_lsub rfl ?_
          refine am_s rfl rfl ?_
          refine am_lv [(13, .long (lI (gt_g (mx s) m (s 152) C p))), (9, .int (iI (p : Int))), (8, .int (iI (C : Int))), (6, .long (lI x.2.2)), (5, .int (iI x.2.1)), (4, .int (iI x.1)), (3, .int (iI (m : Int))), (2, .ref 152), (1, .ref 25), (0, .ref 153)] rfl rfl ⟨by rw [heg]; rfl, rfl, rfl, rfl, rfl, rfl, rfl, rfl, rfl, rfl,  trivial⟩ ?_
          exact j104 (by omega)
        · have enx : nx m p = (p : Int) + 1 := if_pos (by omega)
          rw [enx] at d2 d3 heg hr hx9
          refine am_s rfl rfl ?_
          refine s_k 1 rfl rfl ?_
          refine s_iadd rfl ?_
          refine am_s rfl rfl ?_
          refine s_ia rfl g rfl ⟨by omega, by omega⟩ (by decide) ?_
          refine am_s rfl rfl ?_
          refine am_s rfl rfl ?_
          refine s_gr rfl g rfl rfl ?_
          refine am_s rfl rfl ?_
          refine s_aa rfl g rfl ⟨by omega, by omega⟩ (by decide) ?_
          refine am_s rfl rfl ?_
          refine am_s rfl rfl ?_
          refine am_s rfl rfl ?_
          refine s_ia rfl g (lo_26 (by omega) (by omega)) ⟨by omega, by omega⟩ (by decide) ?_
          refine s_i2l rfl (by unfold mx at d1; exact ⟨by omega, by omega⟩) ?_
          refine am_s rfl rfl ?_
          refine am_s rfl rfl ?_
          refine s_ia rfl g (lo_26 (by omega) (by omega)) ⟨by omega, by omega⟩ (by decide) ?_
          refine s_i2l rfl (by unfold mx at d2; exact ⟨by omega, by omega⟩) ?_
          refine s_ladd rfl ?_
          refine am_s rfl rfl ?_
          refine s_gr rfl g rfl rfl ?_
          refine am_s rfl rfl ?_
          refine s_aa rfl g rfl ⟨by omega, by omega⟩ (by decide) ?_
          refine am_s rfl rfl ?_
          refine s_ia rfl g (lo_26 (by omega) (by omega)) ⟨by omega, by omega⟩ (by decide) ?_
          refine s_i2l rfl (by unfold mx at d3; exact ⟨by omega, by omega⟩) ?_
          refine s_lsub rfl ?_
          refine am_s rfl rfl ?_
          refine am_lv [(13, .long (lI (gt_g (mx s) m (s 152) C p))), (9, .int (iI (p : Int))), (8, .int (iI (C : Int))), (6, .long (lI x.2.2)), (5, .int (iI x.2.1)), (4, .int (iI x.1)), (3, .int (iI (m : Int))), (2, .ref 152), (1, .ref 25), (0, .ref 153)] rfl rfl ⟨by rw [heg]; rfl, rfl, rfl, rfl, rfl, rfl, rfl, rfl, rfl, rfl,  trivial⟩ ?_
          exact j104 (by omega)
    · rintro x s2 ⟨rfl, hG⟩
      simp only at hG ⊢
      refine am_s rfl rfl ?_
      refine am_s rfl rfl ?_
      refine s_cge rfl ⟨by omega, by omega⟩ ⟨by omega, by omega⟩ (fun c21 => ?_) (fun c21 => absurd c21 (by omega))
      refine s_inc rfl rfl ?_
      refine am_s rfl rfl ?_
      refine am_lv [(8, _), (6, _), (5, _), (4, _), (3, _), (2, _), (1, _), (0, _)] rfl rfl ⟨rfl, rfl, rfl, rfl, rfl, rfl, rfl, rfl, trivial⟩ ?_
      have := kk x s ⟨rfl, gt_b_row hG⟩
      exact this
  · rintro x s1 ⟨rfl, hQ⟩
    simp only at hQ ⊢
    have hq : ((0 ≤ x.1 ∧ x.1 < (n : Int)) ∧ (0 ≤ x.2.1 ∧ x.2.1 < (m : Int)) ∧ s 154 x.1 = 0 ∧ ∀ c p, 0 ≤ c → c < (n : Int) → 0 ≤ p → p < (m : Int) → s 154 c = 0 → gt_g (mx s) m (s 152) x.1 x.2.1 < gt_g (mx s) m (s 152) c p ∨ gt_g (mx s) m (s 152) x.1 x.2.1 = gt_g (mx s) m (s 152) c p ∧ (x.1 < c ∨ x.1 = c ∧ x.2.1 ≤ p)) := by
      rcases hQ with ⟨-, z⟩ | ⟨-, z1, z2, z3, -, z5, z6⟩
      · obtain ⟨y, y0, y1, y2⟩ := hleft
        exact absurd y2 (z y 0 y0 (by omega) (Int.le_refl 0) (by omega) (Or.inl (by omega)))
      · refine ⟨z1, z2, z3, fun c p c0 c1 p0 p1 hc => ?_⟩
        rw [← z5]
        exact z6 c p c0 c1 p0 p1 (Or.inl c1) hc
    obtain ⟨q1, q2, q3, q4⟩ := hq
    refine am_s rfl rfl ?_
    refine am_s rfl rfl ?_
    refine s_gi (x := 0) rfl g rfl rfl rfl ?_
    refine s_cge rfl ⟨by omega, by omega⟩ ⟨by omega, by omega⟩ (fun c1 => ?_) (fun c1 => absurd c1 (by omega))
    refine am_s rfl rfl ?_
    refine s_gr rfl g rfl rfl ?_
    refine am_s rfl rfl ?_
    refine s_k 1 rfl rfl ?_
    refine s_bs rfl g rfl ⟨by omega, by omega⟩ (by decide) (Or.inr rfl) ?_
    refine am_s rfl rfl ?_
    refine am_s rfl rfl ?_
    refine s_k 1 rfl rfl ?_
    refine s_iadd rfl ?_
    refine am_s rfl rfl ?_
    refine am_s rfl rfl ?_
    refine s_k 2 rfl rfl ?_
    refine s_iadd rfl ?_
    refine am_s rfl rfl ?_
    refine s_k 1 rfl rfl ?_
    refine s_isub rfl ?_
    refine am_s rfl rfl ?_
    refine s_isub rfl ?_
    refine s_acp rfl g rfl rfl (by omega) (by omega) (by omega) (by omega) (by omega) ⟨by decide, by decide⟩ (Nat.le_of_ble_eq_true rfl) ?_
    refine am_s rfl rfl ?_
    refine am_s rfl rfl ?_
    refine s_k 1 rfl rfl ?_
    refine s_iadd rfl ?_
    refine am_s rfl rfl ?_
    refine s_is rfl g rfl ⟨by omega, by omega⟩ (by decide) ?_
    refine am_r rfl rfl (hPP x.1 x.2.1 _ ⟨am_Fr_W (am_Fr_u (am_Fr_w (by decide)) (am_Fr_m am_cy_fr (by decide))) (by decide), ⟨by rw [en]; exact q1, hun x.1 q1.1 q1.2 q3, q2, fun c2 p2 c0 c1 hc p0 p1 => q4 c2 p2 c0 (by omega) p0 p1 (hun2 c2 c0 (by omega) hc)⟩, ⟨fun y y0 y1 => ?_, am_w_eq _ _ _ _, fun y y0 y1 => ?_⟩, fun y => ?_⟩)
    · rw [am_w_x (by omega)]
      show (if _ then _ else _) = _
      rw [if_neg (by omega), am_w_a (by decide)]
    · rw [am_w_x (by omega)]
      show (if _ then _ else _) = _
      rw [if_pos ⟨rfl, by omega, by omega⟩, am_w_a (by decide)]
      congr 1
      omega
    · rw [am_w_a (by decide)]
      show (if _ then _ else _) = _
      rw [if_neg (fun z => absurd z.1 (by decide))]
      by_cases e : y = x.1
      · rw [e, am_w_eq, if_pos rfl]
      · rw [am_w_x e, if_neg e]
