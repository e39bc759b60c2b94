/-! the class's tree grows: for each city outside the nearest one inside -/
def nb_d (n x : Int) (f : Int → Int → Int) (J : Int → Prop) (c hu ne : Int) : Prop := (hu = -1 ∧ ∀ t, x ≤ t → t < n → ¬ J t) ∨ ((x ≤ hu ∧ hu < n) ∧ J hu ∧ ne = f hu c ∧ ∀ t, x ≤ t → t < n → J t → ne < f t c ∨ ne = f t c ∧ hu ≤ t)
theorem nb_upd {n x : Int} {f : Int → Int → Int} {I : Int → Prop} {c hu ne la : Int} (hl : x ≤ la ∧ la < n) (hI : I la) (h : nb_d n x f (fun t => I t ∧ t ≠ la) c hu ne) (k : hu = -1 ∨ f la c < ne ∨ f la c = ne ∧ la < hu) (hx : 0 ≤ x) : nb_d n x f I c la (f la c) := by
  refine Or.inr ⟨hl, hI, rfl, fun t t0 t1 ht => ?_⟩
  by_cases e : t = la
  · subst e
    exact Or.inr ⟨rfl, Int.le_refl _⟩
  · rcases h with ⟨h1, h2⟩ | ⟨h1, h2, h3, h4⟩
    · exact absurd ⟨ht, e⟩ (h2 t t0 t1)
    · have := h4 t t0 t1 ⟨ht, e⟩
      omega
theorem nb_keep {n x : Int} {f : Int → Int → Int} {I : Int → Prop} {c hu ne la : Int} (h : nb_d n x f (fun t => I t ∧ t ≠ la) c hu ne) (k0 : ¬ hu = -1) (k1 : ¬ f la c < ne) (k2 : ¬ f la c = ne ∨ hu ≤ la) : nb_d n x f I c hu ne := by
  rcases h with ⟨h1, h2⟩ | ⟨h1, h2, h3, h4⟩
  · exact absurd h1 k0
  · refine Or.inr ⟨h1, h2.1, h3, fun t t0 t1 ht => ?_⟩
    by_cases e : t = la
    · subst e
      omega
    · exact h4 t t0 t1 ⟨ht, e⟩
/-- the nearest city of those below m that are outside -/
def nb_n (x m : Int) (I : Int → Prop) (ne : Int → Int) (v : Int) : Prop := (v = x ∧ ∀ c, x < c → c < m → I c) ∨ ((x < v ∧ v < m) ∧ ¬ I v ∧ ∀ c, x < c → c < m → ¬ I c → ne v < ne c ∨ ne v = ne c ∧ v ≤ c)
def fx (s : am_S) (p : Nat) (t c : Int) : Int := mx s t c + s p t + s p c
theorem t_next49 {d : Nat} {E : am_Ev} {s : am_S} {x la : Int} (g : am_Eg E) (hm : mx_ok s) (hp : pn_ok s 54) (hx : 0 ≤ x ∧ x < s 25 0) (hla : x ≤ la ∧ la < s 25 0) (hI : ∀ c, 0 ≤ c → c < s 25 0 → s 53 c = 0 ∨ s 53 c = 1) (hIl : in_of (s 53) la) (hold : ∀ c, x < c → c < s 25 0 → ¬ in_of (s 53) c → nb_d (s 25 0) x (fx s 54) (fun t => in_of (s 53) t ∧ t ≠ la) c (s 50 c) (s 52 c)) : am_wp d 23 0 (lv_args 0 [.ref 49, .ref 25, .ref 54, .int (iI x), .int (iI la)]) [] (am_hp E s) (fun rv h => ∃ v, rv = some (.int (iI v)) ∧ ∃ s', h = am_hp E s' ∧ am_Fr [50, 52] s s' ∧ (∀ c, x < c → c < s 25 0 → ¬ in_of (s 53) c → nb_d (s 25 0) x (fx s 54) (in_of (s 53)) c (s' 50 c) (s' 52 c)) ∧ (∀ c, c ≤ x ∨ in_of (s 53) c → s' 50 c = s 50 c) ∧ nb_n x (s 25 0) (in_of (s 53)) (s' 52) v) := by
  suffices hS : ∀ PP : Option Value → am_H → Prop, (∀ v s', (am_Fr [50, 52] s s' ∧ (∀ c, x < c → c < s 25 0 → ¬ in_of (s 53) c → nb_d (s 25 0) x (fx s 54) (in_of (s 53)) c (s' 50 c) (s' 52 c)) ∧ (∀ c, c ≤ x ∨ in_of (s 53) c → s' 50 c = s 50 c) ∧ nb_n x (s 25 0) (in_of (s 53)) (s' 52) v) → PP (some (.int (iI v))) (am_hp E s')) → am_wp d 23 0 (lv_args 0 [.ref 49, .ref 25, .ref 54, .int (iI x), .int (iI la)]) [] (am_hp E s) PP from hS _ (fun v s' h => ⟨v, rfl, s', rfl, h⟩)
  intro PP hPP
  obtain ⟨n1, n2, hD⟩ := hm
  obtain ⟨n, en⟩ : ∃ n : Nat, s 25 0 = n := ⟨(s 25 0).toNat, by omega⟩
  obtain ⟨m0, em⟩ : ∃ m0 : Nat, x + 1 = m0 := ⟨(x + 1).toNat, by omega⟩
  rw [en] at hold
  have hfb : ∀ p q, 0 ≤ p → p < (n : Int) → 0 ≤ q → q < (n : Int) → -4000000000000000 ≤ fx s 54 p q ∧ fx s 54 p q ≤ 4000000000000000 := fun p q p0 p1 q0 q1 => by
    have h1 := hD p q p0 (by omega) q0 (by omega)
    have h2 := hp p p0 (by omega)
    have h3 := hp q q0 (by omega)
    unfold fx
    omega
  refine am_s rfl rfl ?_
  refine s_gr rfl g rfl rfl ?_
  refine am_s rfl rfl ?_
  refine s_aa rfl g rfl ⟨by omega, by omega⟩ (by decide) ?_
  refine am_s rfl rfl ?_
  refine am_s rfl rfl ?_
  refine am_s rfl rfl ?_
  refine am_s rfl rfl ?_
  refine s_k 1 rfl rfl ?_
  refine s_iadd rfl ?_
  refine am_s rfl rfl ?_
  refine am_lv [(7, .int (iI (m0 : Int))), (6, .int (iI x)), (5, .ref (26 + 1 + la.toNat)), (4, .int (iI la)), (3, .int (iI x)), (2, .ref 54), (1, .ref 25), (0, .ref 49)] rfl rfl ⟨by rw [show ((m0 : Nat) : Int) = x + 1 by omega]; rfl, rfl, rfl, rfl, rfl, rfl, rfl, rfl, trivial⟩ ?_
  refine s_loop (X := Int) (fun m v s' => am_Fr [50, 52] s s' ∧ (∀ c, x < c → c < (m : Int) → ¬ in_of (s 53) c → nb_d n x (fx s 54) (in_of (s 53)) c (s' 50 c) (s' 52 c)) ∧ (∀ c, x < c → (m : Int) ≤ c → s' 50 c = s 50 c ∧ s' 52 c = s 52 c) ∧ (∀ c, c ≤ x ∨ in_of (s 53) c → s' 50 c = s 50 c) ∧ nb_n x m (in_of (s 53)) (s' 52) v) (fun m v => [(7, .int (iI (m : Int))), (6, .int (iI v)), (5, .ref (26 + 1 + la.toNat)), (4, .int (iI la)), (3, .int (iI x)), (2, .ref 54), (1, .ref 25), (0, .ref 49)]) (lo := m0) (hi := n) (x := x) (by omega) ⟨am_Fr_r _ _, fun c c0 c1 => absurd c1 (by omega), fun c _ _ => ⟨rfl, rfl⟩, fun c _ => rfl, Or.inl ⟨rfl, fun c c0 c1 => absurd c1 (by omega)⟩⟩ ?_ ?_
  · rintro m v s1 hm0 hmn ⟨hF, h2, h3, h4, h5⟩ kk
    have eIn : s1 53 = s 53 := hF 53 (by decide)
    have ePn : s1 54 = s 54 := hF 54 (by decide)
    have e25 : s1 25 = s 25 := hF 25 (by decide)
    have erow : s1 (26 + 1 + la.toNat) = s (26 + 1 + la.toNat) := hF _ (fun z => by simp at z; omega)
    have emx : s1 (26 + 1 + la.toNat) m = mx s la m := by rw [erow]; rfl
    have hfar : fx s 54 la m = s1 (26 + 1 + la.toNat) m + s1 54 la + s1 54 m := by rw [emx, ePn]; rfl
    have hN : s1 25 0 = n := by rw [e25]; exact en
    have hvx : x ≤ v ∧ v < n := by
      rcases h5 with ⟨z1, -⟩ | ⟨z1, -, -⟩ <;> omega
    simp only at kk ⊢
    have j124 : ∀ s3 : am_S, ¬ in_of (s 53) m → am_Fr [50, 52] s s3 → nb_d n x (fx s 54) (in_of (s 53)) m (s3 50 m) (s3 52 m) → ¬ s3 50 m = -1 → (∀ c, c ≠ (m : Int) → s3 50 c = s1 50 c ∧ s3 52 c = s1 52 c) → am_wp d 23 124 [(7, .int (iI (m : Int))), (6, .int (iI v)), (5, .ref (26 + 1 + la.toNat)), (4, .int (iI la)), (3, .int (iI x)), (2, .ref 54), (1, .ref 25), (0, .ref 49)] [] (am_hp E s3) PP := by
      intro s3 hnI hF3 hB hBn hO
      have hq1 : am_Q (s3 52 m) := by
        rcases hB with ⟨z, -⟩ | ⟨z, -, z2, -⟩
        · exact absurd z hBn
        · rw [z2]; have := hfb (s3 50 m) m (by omega) (by omega) (by omega) (by omega); exact ⟨by omega, by omega⟩
      have hq2 : ¬ v = x → am_Q (s3 52 v) := by
        intro hv
        rcases h5 with ⟨z1, -⟩ | ⟨z1, z2, -⟩
        · exact absurd z1 hv
        · rw [(hO v (by omega)).2]
          rcases h2 v z1.1 z1.2 z2 with ⟨y, y2⟩ | ⟨y, -, y2, -⟩
          · exact absurd hIl (y2 la hla.1 (by omega))
          · rw [y2]; have := hfb (s1 50 v) v (by omega) (by omega) (by omega) (by omega); exact ⟨by omega, by omega⟩
      have hvx : x ≤ v ∧ v < n := by
        rcases h5 with ⟨z1, -⟩ | ⟨z1, -, -⟩ <;> omega
      refine am_s rfl rfl ?_
      refine am_s rfl rfl ?_
      refine s_ceq rfl ⟨by omega, by omega⟩ ⟨by omega, by omega⟩ (fun c3 => ?_) (fun c3 => ?_)
      · refine am_s rfl rfl ?_
        refine am_s rfl rfl ?_
        refine s_inc rfl rfl ?_
        refine am_s rfl rfl ?_
        refine am_lv [(7, _), (6, _), (5, _), (4, _), (3, _), (2, _), (1, _), (0, _)] rfl rfl ⟨rfl, rfl, rfl, rfl, rfl, rfl, rfl, rfl, trivial⟩ ?_
        refine kk m s3 ⟨hF3, fun c c0 c1 hc => ?_, fun c c0 c1 => by rw [(hO c (by omega)).1, (hO c (by omega)).2]; exact h3 c c0 (by omega), fun c hc => ?_, ?_⟩
        · by_cases e : c = (m : Int)
          · rw [e]; exact hB
          · rw [(hO c e).1, (hO c e).2]; exact h2 c c0 (by omega) hc
        · have e : c ≠ (m : Int) := fun z => by
            rcases hc with hc | hc
            · omega
            · exact hnI (z ▸ hc)
          rw [(hO c e).1]
          exact h4 c hc
        · refine Or.inr ⟨⟨by omega, by omega⟩, hnI, fun c c0 c1 hc => ?_⟩
          by_cases e : c = (m : Int)
          · rw [e]; exact Or.inr ⟨rfl, Int.le_refl _⟩
          · rw [(hO c e).2]
            rcases h5 with ⟨z1, z2⟩ | ⟨z1, z2, z3⟩
            · exact absurd (z2 c c0 (by omega)) hc
            · have hz := z3 c c0 (by omega) hc
              have ev : v ≠ (m : Int) := by omega
              first | (exact absurd c3 (by omega)) | (rw [(hO v ev).2] at c3; omega)
      · refine am_s rfl rfl ?_
        refine s_gr rfl g rfl rfl ?_
        refine am_s rfl rfl ?_
        refine s_la rfl g rfl ⟨by omega, by omega⟩ (by decide) ?_
        refine am_s rfl rfl ?_
        refine s_gr rfl g rfl rfl ?_
        refine am_s rfl rfl ?_
        refine s_la rfl g rfl ⟨by omega, by omega⟩ (by decide) ?_
        refine s_jge rfl rfl hq1 (hq2 c3) (fun c4 => ?_) (fun c4 => ?_)
        · refine s_inc rfl rfl ?_
          refine am_s rfl rfl ?_
          refine am_lv [(7, _), (6, _), (5, _), (4, _), (3, _), (2, _), (1, _), (0, _)] rfl rfl ⟨rfl, rfl, rfl, rfl, rfl, rfl, rfl, rfl, trivial⟩ ?_
          refine kk v s3 ⟨hF3, fun c c0 c1 hc => ?_, fun c c0 c1 => by rw [(hO c (by omega)).1, (hO c (by omega)).2]; exact h3 c c0 (by omega), fun c hc => ?_, ?_⟩
          · by_cases e : c = (m : Int)
            · rw [e]; exact hB
            · rw [(hO c e).1, (hO c e).2]; exact h2 c c0 (by omega) hc
          · have e : c ≠ (m : Int) := fun z => by
              rcases hc with hc | hc
              · omega
              · exact hnI (z ▸ hc)
            rw [(hO c e).1]
            exact h4 c hc
          · rcases h5 with ⟨z1, z2⟩ | ⟨z1, z2, z3⟩
            · exact absurd z1 c3
            · have ev : v ≠ (m : Int) := by omega
              refine Or.inr ⟨⟨by omega, by omega⟩, z2, fun c c0 c1 hc => ?_⟩
              rw [(hO v ev).2] at c4 ⊢
              by_cases e : c = (m : Int)
              · rw [e]; omega
              · rw [(hO c e).2]; exact z3 c c0 (by omega) hc
        · refine am_s rfl rfl ?_
          refine am_s rfl rfl ?_
          refine s_inc rfl rfl ?_
          refine am_s rfl rfl ?_
          refine am_lv [(7, _), (6, _), (5, _), (4, _), (3, _), (2, _), (1, _), (0, _)] rfl rfl ⟨rfl, rfl, rfl, rfl, rfl, rfl, rfl, rfl, trivial⟩ ?_
          refine kk m s3 ⟨hF3, fun c c0 c1 hc => ?_, fun c c0 c1 => by rw [(hO c (by omega)).1, (hO c (by omega)).2]; exact h3 c c0 (by omega), fun c hc => ?_, ?_⟩
          · by_cases e : c = (m : Int)
            · rw [e]; exact hB
            · rw [(hO c e).1, (hO c e).2]; exact h2 c c0 (by omega) hc
          · have e : c ≠ (m : Int) := fun z => by
              rcases hc with hc | hc
              · omega
              · exact hnI (z ▸ hc)
            rw [(hO c e).1]
            exact h4 c hc
          · refine Or.inr ⟨⟨by omega, by omega⟩, hnI, fun c c0 c1 hc => ?_⟩
            by_cases e : c = (m : Int)
            · rw [e]; exact Or.inr ⟨rfl, Int.le_refl _⟩
            · rw [(hO c e).2]
              rcases h5 with ⟨z1, z2⟩ | ⟨z1, z2, z3⟩
              · exact absurd (z2 c c0 (by omega)) hc
              · have hz := z3 c c0 (by omega) hc
                have ev : v ≠ (m : Int) := by omega
                first | (exact absurd c3 (by omega)) | (rw [(hO v ev).2] at c4; omega)
    refine am_s rfl rfl ?_
    refine am_s rfl rfl ?_
    refine s_gi (x := 0) rfl g rfl rfl rfl ?_
    refine s_cge rfl ⟨by omega, by omega⟩ ⟨by omega, by omega⟩ (fun c1 => absurd c1 (by omega)) (fun c1 => ?_)
    refine am_s rfl rfl ?_
    refine s_gr rfl g rfl rfl ?_
    refine am_s rfl rfl ?_
    refine s_ba rfl g rfl ⟨by omega, by omega⟩ (by decide) ?_
    refine s_zeq rfl (by rw [eIn]; rcases hI m (by omega) (by omega) with z | z <;> exact ⟨by omega, by omega⟩) (fun c2 => ?_) (fun c2 => ?_)
    · have hnI : ¬ in_of (s 53) m := fun z => by
        unfold in_of at z
        rw [eIn] at c2
        omega
      have hold1 : ¬ in_of (s 53) m → nb_d n x (fx s 54) (fun t => in_of (s 53) t ∧ t ≠ la) m (s1 50 m) (s1 52 m) := fun hnI => by
        rw [(h3 m (by omega) (by omega)).1, (h3 m (by omega) (by omega)).2]
        exact hold m (by omega) (by omega) hnI
      refine am_s rfl rfl ?_
      refine am_s rfl rfl ?_
      refine s_ia rfl g (lo_26 (by omega) (by omega)) ⟨by omega, by omega⟩ (by decide) ?_
      refine s_i2l rfl (by rw [emx]; have := hD la m (by omega) (by omega) (by omega) (by omega); exact ⟨by omega, by omega⟩) ?_
      refine am_s rfl rfl ?_
      refine am_s rfl rfl ?_
      refine s_la rfl g rfl ⟨by omega, by omega⟩ (by decide) ?_
      refine s_ladd rfl ?_
      refine am_s rfl rfl ?_
      refine am_s rfl rfl ?_
      refine s_la rfl g rfl ⟨by omega, by omega⟩ (by decide) ?_
      refine s_ladd rfl ?_
      refine am_s rfl rfl ?_
      refine am_s rfl rfl ?_
      refine s_gr rfl g rfl rfl ?_
      refine am_s rfl rfl ?_
      refine s_ia rfl g rfl ⟨by omega, by omega⟩ (by decide) ?_
      refine s_k (-1) rfl rfl ?_
      refine s_ceq rfl (by rcases hold1 hnI with ⟨z, -⟩ | ⟨z, -⟩ <;> exact ⟨by omega, by omega⟩) ⟨by decide, by decide⟩ (fun c3 => ?_) (fun c3 => ?_)
      · refine am_s rfl rfl ?_
        refine s_gr rfl g rfl rfl ?_
        refine am_s rfl rfl ?_
        refine am_s rfl rfl ?_
        refine s_ls rfl g rfl ⟨by omega, by omega⟩ (by decide) ?_
        refine am_s rfl rfl ?_
        refine s_gr rfl g rfl rfl ?_
        refine am_s rfl rfl ?_
        refine am_s rfl rfl ?_
        refine s_is rfl g rfl ⟨by omega, by omega⟩ (by decide) ?_
        refine am_lv [(7, _), (6, _), (5, _), (4, _), (3, _), (2, _), (1, _), (0, _)] rfl rfl ⟨rfl, rfl, rfl, rfl, rfl, rfl, rfl, rfl, trivial⟩ ?_
        refine j124 _ hnI (am_Fr_W (am_Fr_W hF (by decide)) (by decide)) ?_ ?_ (fun c e => ⟨?_, ?_⟩)
        · rw [am_w_eq, am_w_a (by decide), am_w_eq, ← hfar]
          exact nb_upd ⟨hla.1, by omega⟩ hIl (hold1 hnI) (Or.inl c3) hx.1
        · rw [am_w_eq]; omega
        · rw [am_w_x e, am_w_a (by decide)]
        · rw [am_w_a (by decide), am_w_x e]
      · refine am_s rfl rfl ?_
        refine am_s rfl rfl ?_
        refine s_gr rfl g rfl rfl ?_
        refine am_s rfl rfl ?_
        refine s_la rfl g rfl ⟨by omega, by omega⟩ (by decide) ?_
        refine s_jlt rfl rfl (by rw [← hfar]; have := hfb la m (by omega) (by omega) (by omega) (by omega); exact ⟨by omega, by omega⟩) (by rcases hold1 hnI with ⟨z, -⟩ | ⟨z, -, z2, -⟩ <;> first | exact absurd z c3 | (rw [z2]; have := hfb (s1 50 m) m (by omega) (by omega) (by omega) (by omega); exact ⟨by omega, by omega⟩)) (fun c4 => ?_) (fun c4 => ?_)
        · refine am_s rfl rfl ?_
          refine s_gr rfl g rfl rfl ?_
          refine am_s rfl rfl ?_
          refine am_s rfl rfl ?_
          refine s_ls rfl g rfl ⟨by omega, by omega⟩ (by decide) ?_
          refine am_s rfl rfl ?_
          refine s_gr rfl g rfl rfl ?_
          refine am_s rfl rfl ?_
          refine am_s rfl rfl ?_
          refine s_is rfl g rfl ⟨by omega, by omega⟩ (by decide) ?_
          refine am_lv [(7, _), (6, _), (5, _), (4, _), (3, _), (2, _), (1, _), (0, _)] rfl rfl ⟨rfl, rfl, rfl, rfl, rfl, rfl, rfl, rfl, trivial⟩ ?_
          refine j124 _ hnI (am_Fr_W (am_Fr_W hF (by decide)) (by decide)) ?_ ?_ (fun c e => ⟨?_, ?_⟩)
          · rw [am_w_eq, am_w_a (by decide), am_w_eq, ← hfar]
            exact nb_upd ⟨hla.1, by omega⟩ hIl (hold1 hnI) (Or.inr (Or.inl (by rw [hfar]; exact c4))) hx.1
          · rw [am_w_eq]; omega
          · rw [am_w_x e, am_w_a (by decide)]
          · rw [am_w_a (by decide), am_w_x e]
        · refine am_s rfl rfl ?_
          refine am_s rfl rfl ?_
          refine s_gr rfl g rfl rfl ?_
          refine am_s rfl rfl ?_
          refine s_la rfl g rfl ⟨by omega, by omega⟩ (by decide) ?_
          refine s_jne rfl rfl (by rw [← hfar]; have := hfb la m (by omega) (by omega) (by omega) (by omega); exact ⟨by omega, by omega⟩) (by rcases hold1 hnI with ⟨z, -⟩ | ⟨z, -, z2, -⟩ <;> first | exact absurd z c3 | (rw [z2]; have := hfb (s1 50 m) m (by omega) (by omega) (by omega) (by omega); exact ⟨by omega, by omega⟩)) (fun c5 => ?_) (fun c5 => ?_)
          · refine am_lv [(7, _), (6, _), (5, _), (4, _), (3, _), (2, _), (1, _), (0, _)] rfl rfl ⟨rfl, rfl, rfl, rfl, rfl, rfl, rfl, rfl, trivial⟩ ?_
            exact j124 s1 hnI hF (nb_keep (hold1 hnI) c3 (by rw [hfar]; omega) (Or.inl (by rw [hfar]; exact c5))) c3 (fun c _ => ⟨rfl, rfl⟩)
          · refine am_s rfl rfl ?_
            refine am_s rfl rfl ?_
            refine s_gr rfl g rfl rfl ?_
            refine am_s rfl rfl ?_
            refine s_ia rfl g rfl ⟨by omega, by omega⟩ (by decide) ?_
            refine s_cge rfl ⟨by omega, by omega⟩ (by rcases hold1 hnI with ⟨z, -⟩ | ⟨z, -⟩ <;> exact ⟨by omega, by omega⟩) (fun c6 => ?_) (fun c6 => ?_)
            · refine am_lv [(7, _), (6, _), (5, _), (4, _), (3, _), (2, _), (1, _), (0, _)] rfl rfl ⟨rfl, rfl, rfl, rfl, rfl, rfl, rfl, rfl, trivial⟩ ?_
              exact j124 s1 hnI hF (nb_keep (hold1 hnI) c3 (by rw [hfar]; omega) (Or.inr (by omega))) c3 (fun c _ => ⟨rfl, rfl⟩)
            · refine am_s rfl rfl ?_
              refine s_gr rfl g rfl rfl ?_
              refine am_s rfl rfl ?_
              refine am_s rfl rfl ?_
              refine s_ls rfl g rfl ⟨by omega, by omega⟩ (by decide) ?_
              refine am_s rfl rfl ?_
              refine s_gr rfl g rfl rfl ?_
              refine am_s rfl rfl ?_
              refine am_s rfl rfl ?_
              refine s_is rfl g rfl ⟨by omega, by omega⟩ (by decide) ?_
              refine am_lv [(7, _), (6, _), (5, _), (4, _), (3, _), (2, _), (1, _), (0, _)] rfl rfl ⟨rfl, rfl, rfl, rfl, rfl, rfl, rfl, rfl, trivial⟩ ?_
              refine j124 _ hnI (am_Fr_W (am_Fr_W hF (by decide)) (by decide)) ?_ ?_ (fun c e => ⟨?_, ?_⟩)
              · rw [am_w_eq, am_w_a (by decide), am_w_eq, ← hfar]
                exact nb_upd ⟨hla.1, by omega⟩ hIl (hold1 hnI) (Or.inr (Or.inr ⟨by rw [hfar]; omega, by omega⟩)) hx.1
              · rw [am_w_eq]; omega
              · rw [am_w_x e, am_w_a (by decide)]
              · rw [am_w_a (by decide), am_w_x e]
    · refine am_s rfl rfl ?_
      refine s_inc rfl rfl ?_
      refine am_s rfl rfl ?_
      refine am_lv [(7, _), (6, _), (5, _), (4, _), (3, _), (2, _), (1, _), (0, _)] rfl rfl ⟨rfl, rfl, rfl, rfl, rfl, rfl, rfl, rfl, trivial⟩ ?_
      have hIm : in_of (s 53) m := by
        rcases hI m (by omega) (by omega) with z | z
        · rw [eIn] at c2; exact absurd z c2
        · exact z
      refine kk v s1 ⟨hF, fun c c0 c1 hc => ?_, fun c c0 c1 => h3 c c0 (by omega), h4, ?_⟩
      · by_cases e : c = (m : Int)
        · exact absurd (e ▸ hIm) hc
        · exact h2 c c0 (by omega) hc
      · rcases h5 with ⟨z1, z2⟩ | ⟨z1, z2, z3⟩
        · refine Or.inl ⟨z1, fun c c0 c1 => ?_⟩
          by_cases e : c = (m : Int)
          · exact e ▸ hIm
          · exact z2 c c0 (by omega)
        · refine Or.inr ⟨⟨by omega, by omega⟩, z2, fun c c0 c1 hc => ?_⟩
          by_cases e : c = (m : Int)
          · exact absurd (e ▸ hIm) hc
          · exact z3 c c0 (by omega) hc
  · rintro v s1 ⟨hF, h2, h3, h4, h5⟩
    have hvx : x ≤ v ∧ v < n := by
      rcases h5 with ⟨z1, -⟩ | ⟨z1, -, -⟩ <;> omega
    have hN : s1 25 0 = n := by rw [hF 25 (by decide)]; exact en
    simp only
    refine am_s rfl rfl ?_
    refine am_s rfl rfl ?_
    refine s_gi (x := 0) rfl g rfl rfl rfl ?_
    refine s_cge rfl ⟨by omega, by omega⟩ ⟨by omega, by omega⟩ (fun c1 => ?_) (fun c1 => absurd c1 (by omega))
    refine am_s rfl rfl ?_
    exact am_r rfl rfl (hPP v s1 ⟨hF, fun c c0 c1 hc => by rw [en]; exact h2 c c0 (by omega) hc, h4, by rw [en]; exact h5⟩)
theorem t_next163 {d : Nat} {E : am_Ev} {s : am_S} {x la : Int} (g : am_Eg E) (hm : mx_ok s) (hp : pn_ok s 161) (hx : 0 ≤ x ∧ x < s 25 0) (hla : x ≤ la ∧ la < s 25 0) (hI : ∀ c, 0 ≤ c → c < s 25 0 → s 167 c = 0 ∨ s 167 c = 1) (hIl : in_of (s 167) la) (hold : ∀ c, x < c → c < s 25 0 → ¬ in_of (s 167) c → nb_d (s 25 0) x (fx s 161) (fun t => in_of (s 167) t ∧ t ≠ la) c (s 164 c) (s 166 c)) : am_wp d 23 0 (lv_args 0 [.ref 163, .ref 25, .ref 161, .int (iI x), .int (iI la)]) [] (am_hp E s) (fun rv h => ∃ v, rv = some (.int (iI v)) ∧ ∃ s', h = am_hp E s' ∧ am_Fr [164, 166] s s' ∧ (∀ c, x < c → c < s 25 0 → ¬ in_of (s 167) c → nb_d (s 25 0) x (fx s 161) (in_of (s 167)) c (s' 164 c) (s' 166 c)) ∧ (∀ c, c ≤ x ∨ in_of (s 167) c → s' 164 c = s 164 c) ∧ nb_n x (s 25 0) (in_of (s 167)) (s' 166) v) := by
  suffices hS : ∀ PP : Option Value → am_H → Prop, (∀ v s', (am_Fr [164, 166] s s' ∧ (∀ c, x < c → c < s 25 0 → ¬ in_of (s 167) c → nb_d (s 25 0) x (fx s 161) (in_of (s 167)) c (s' 164 c) (s' 166 c)) ∧ (∀ c, c ≤ x ∨ in_of (s 167) c → s' 164 c = s 164 c) ∧ nb_n x (s 25 0) (in_of (s 167)) (s' 166) v) → PP (some (.int (iI v))) (am_hp E s')) → am_wp d 23 0 (lv_args 0 [.ref 163, .ref 25, .ref 161, .int (iI x), .int (iI la)]) [] (am_hp E s) PP from hS _ (fun v s' h => ⟨v, rfl, s', rfl, h⟩)
  intro PP hPP
  obtain ⟨n1, n2, hD⟩ := hm
  obtain ⟨n, en⟩ : ∃ n : Nat, s 25 0 = n := ⟨(s 25 0).toNat, by omega⟩
  obtain ⟨m0, em⟩ : ∃ m0 : Nat, x + 1 = m0 := ⟨(x + 1).toNat, by omega⟩
  rw [en] at hold
  have hfb : ∀ p q, 0 ≤ p → p < (n : Int) → 0 ≤ q → q < (n : Int) → -4000000000000000 ≤ fx s 161 p q ∧ fx s 161 p q ≤ 4000000000000000 := fun p q p0 p1 q0 q1 => by
    have h1 := hD p q p0 (by omega) q0 (by omega)
    have h2 := hp p p0 (by omega)
    have h3 := hp q q0 (by omega)
    unfold fx
    omega
  refine am_s rfl rfl ?_
  refine s_gr rfl g rfl rfl ?_
  refine am_s rfl rfl ?_
  refine s_aa rfl g rfl ⟨by omega, by omega⟩ (by decide) ?_
  refine am_s rfl rfl ?_
  refine am_s rfl rfl ?_
  refine am_s rfl rfl ?_
  refine am_s rfl rfl ?_
  refine s_k 1 rfl rfl ?_
  refine s_iadd rfl ?_
  refine am_s rfl rfl ?_
  refine am_lv [(7, .int (iI (m0 : Int))), (6, .int (iI x)), (5, .ref (26 + 1 + la.toNat)), (4, .int (iI la)), (3, .int (iI x)), (2, .ref 161), (1, .ref 25), (0, .ref 163)] rfl rfl ⟨by rw [show ((m0 : Nat) : Int) = x + 1 by omega]; rfl, rfl, rfl, rfl, rfl, rfl, rfl, rfl, trivial⟩ ?_
  refine s_loop (X := Int) (fun m v s' => am_Fr [164, 166] s s' ∧ (∀ c, x < c → c < (m : Int) → ¬ in_of (s 167) c → nb_d n x (fx s 161) (in_of (s 167)) c (s' 164 c) (s' 166 c)) ∧ (∀ c, x < c → (m : Int) ≤ c → s' 164 c = s 164 c ∧ s' 166 c = s 166 c) ∧ (∀ c, c ≤ x ∨ in_of (s 167) c → s' 164 c = s 164 c) ∧ nb_n x m (in_of (s 167)) (s' 166) v) (fun m v => [(7, .int (iI (m : Int))), (6, .int (iI v)), (5, .ref (26 + 1 + la.toNat)), (4, .int (iI la)), (3, .int (iI x)), (2, .ref 161), (1, .ref 25), (0, .ref 163)]) (lo := m0) (hi := n) (x := x) (by omega) ⟨am_Fr_r _ _, fun c c0 c1 => absurd c1 (by omega), fun c _ _ => ⟨rfl, rfl⟩, fun c _ => rfl, Or.inl ⟨rfl, fun c c0 c1 => absurd c1 (by omega)⟩⟩ ?_ ?_
  · rintro m v s1 hm0 hmn ⟨hF, h2, h3, h4, h5⟩ kk
    have eIn : s1 167 = s 167 := hF 167 (by decide)
    have ePn : s1 161 = s 161 := hF 161 (by decide)
    have e25 : s1 25 = s 25 := hF 25 (by decide)
    have erow : s1 (26 + 1 + la.toNat) = s (26 + 1 + la.toNat) := hF _ (fun z => by simp at z; omega)
    have emx : s1 (26 + 1 + la.toNat) m = mx s la m := by rw [erow]; rfl
    have hfar : fx s 161 la m = s1 (26 + 1 + la.toNat) m + s1 161 la + s1 161 m := by rw [emx, ePn]; rfl
    have hN : s1 25 0 = n := by rw [e25]; exact en
    have hvx : x ≤ v ∧ v < n := by
      rcases h5 with ⟨z1, -⟩ | ⟨z1, -, -⟩ <;> omega
    simp only at kk ⊢
    have j124 : ∀ s3 : am_S, ¬ in_of (s 167) m → am_Fr [164, 166] s s3 → nb_d n x (fx s 161) (in_of (s 167)) m (s3 164 m) (s3 166 m) → ¬ s3 164 m = -1 → (∀ c, c ≠ (m : Int) → s3 164 c = s1 164 c ∧ s3 166 c = s1 166 c) → am_wp d 23 124 [(7, .int (iI (m : Int))), (6, .int (iI v)), (5, .ref (26 + 1 + la.toNat)), (4, .int (iI la)), (3, .int (iI x)), (2, .ref 161), (1, .ref 25), (0, .ref 163)] [] (am_hp E s3) PP := by
      intro s3 hnI hF3 hB hBn hO
      have hq1 : am_Q (s3 166 m) := by
        rcases hB with ⟨z, -⟩ | ⟨z, -, z2, -⟩
        · exact absurd z hBn
        · rw [z2]; have := hfb (s3 164 m) m (by omega) (by omega) (by omega) (by omega); exact ⟨by omega, by omega⟩
      have hq2 : ¬ v = x → am_Q (s3 166 v) := by
        intro hv
        rcases h5 with ⟨z1, -⟩ | ⟨z1, z2, -⟩
        · exact absurd z1 hv
        · rw [(hO v (by omega)).2]
          rcases h2 v z1.1 z1.2 z2 with ⟨y, y2⟩ | ⟨y, -, y2, -⟩
          · exact absurd hIl (y2 la hla.1 (by omega))
          · rw [y2]; have := hfb (s1 164 v) v (by omega) (by omega) (by omega) (by omega); exact ⟨by omega, by omega⟩
      have hvx : x ≤ v ∧ v < n := by
        rcases h5 with ⟨z1, -⟩ | ⟨z1, -, -⟩ <;> omega
      refine am_s rfl rfl ?_
      refine am_s rfl rfl ?_
      refine s_ceq rfl ⟨by omega, by omega⟩ ⟨by omega, by omega⟩ (fun c3 => ?_) (fun c3 => ?_)
      · refine am_s rfl rfl ?_
        refine am_s rfl rfl ?_
        refine s_inc rfl rfl ?_
        refine am_s rfl rfl ?_
        refine am_lv [(7, _), (6, _), (5, _), (4, _), (3, _), (2, _), (1, _), (0, _)] rfl rfl ⟨rfl, rfl, rfl, rfl, rfl, rfl, rfl, rfl, trivial⟩ ?_
        refine kk m s3 ⟨hF3, fun c c0 c1 hc => ?_, fun c c0 c1 => by rw [(hO c (by omega)).1, (hO c (by omega)).2]; exact h3 c c0 (by omega), fun c hc => ?_, ?_⟩
        · by_cases e : c = (m : Int)
          · rw [e]; exact hB
          · rw [(hO c e).1, (hO c e).2]; exact h2 c c0 (by omega) hc
        · have e : c ≠ (m : Int) := fun z => by
            rcases hc with hc | hc
            · omega
            · exact hnI (z ▸ hc)
          rw [(hO c e).1]
          exact h4 c hc
        · refine Or.inr ⟨⟨by omega, by omega⟩, hnI, fun c c0 c1 hc => ?_⟩
          by_cases e : c = (m : Int)
          · rw [e]; exact Or.inr ⟨rfl, Int.le_refl _⟩
          · rw [(hO c e).2]
            rcases h5 with ⟨z1, z2⟩ | ⟨z1, z2, z3⟩
            · exact absurd (z2 c c0 (by omega)) hc
            · have hz := z3 c c0 (by omega) hc
              have ev : v ≠ (m : Int) := by omega
              first | (exact absurd c3 (by omega)) | (rw [(hO v ev).2] at c3; omega)
      · refine am_s rfl rfl ?_
        refine s_gr rfl g rfl rfl ?_
        refine am_s rfl rfl ?_
        refine s_la rfl g rfl ⟨by omega, by omega⟩ (by decide) ?_
        refine am_s rfl rfl ?_
        refine s_gr rfl g rfl rfl ?_
        refine am_s rfl rfl ?_
        refine s_la rfl g rfl ⟨by omega, by omega⟩ (by decide) ?_
        refine s_jge rfl rfl hq1 (hq2 c3) (fun c4 => ?_) (fun c4 => ?_)
        · refine s_inc rfl rfl ?_
          refine am_s rfl rfl ?_
          refine am_lv [(7, _), (6, _), (5, _), (4, _), (3, _), (2, _), (1, _), (0, _)] rfl rfl ⟨rfl, rfl, rfl, rfl, rfl, rfl, rfl, rfl, trivial⟩ ?_
          refine kk v s3 ⟨hF3, fun c c0 c1 hc => ?_, fun c c0 c1 => by rw [(hO c (by omega)).1, (hO c (by omega)).2]; exact h3 c c0 (by omega), fun c hc => ?_, ?_⟩
          · by_cases e : c = (m : Int)
            · rw [e]; exact hB
            · rw [(hO c e).1, (hO c e).2]; exact h2 c c0 (by omega) hc
          · have e : c ≠ (m : Int) := fun z => by
              rcases hc with hc | hc
              · omega
              · exact hnI (z ▸ hc)
            rw [(hO c e).1]
            exact h4 c hc
          · rcases h5 with ⟨z1, z2⟩ | ⟨z1, z2, z3⟩
            · exact absurd z1 c3
            · have ev : v ≠ (m : Int) := by omega
              refine Or.inr ⟨⟨by omega, by omega⟩, z2, fun c c0 c1 hc => ?_⟩
              rw [(hO v ev).2] at c4 ⊢
              by_cases e : c = (m : Int)
              · rw [e]; omega
              · rw [(hO c e).2]; exact z3 c c0 (by omega) hc
        · refine am_s rfl rfl ?_
          refine am_s rfl rfl ?_
          refine s_inc rfl rfl ?_
          refine am_s rfl rfl ?_
          refine am_lv [(7, _), (6, _), (5, _), (4, _), (3, _), (2, _), (1, _), (0, _)] rfl rfl ⟨rfl, rfl, rfl, rfl, rfl, rfl, rfl, rfl, trivial⟩ ?_
          refine kk m s3 ⟨hF3, fun c c0 c1 hc => ?_, fun c c0 c1 => by rw [(hO c (by omega)).1, (hO c (by omega)).2]; exact h3 c c0 (by omega), fun c hc => ?_, ?_⟩
          · by_cases e : c = (m : Int)
            · rw [e]; exact hB
            · rw [(hO c e).1, (hO c e).2]; exact h2 c c0 (by omega) hc
          · have e : c ≠ (m : Int) := fun z => by
              rcases hc with hc | hc
              · omega
              · exact hnI (z ▸ hc)
            rw [(hO c e).1]
            exact h4 c hc
          · refine Or.inr ⟨⟨by omega, by omega⟩, hnI, fun c c0 c1 hc => ?_⟩
            by_cases e : c = (m : Int)
            · rw [e]; exact Or.inr ⟨rfl, Int.le_refl _⟩
            · rw [(hO c e).2]
              rcases h5 with ⟨z1, z2⟩ | ⟨z1, z2, z3⟩
              · exact absurd (z2 c c0 (by omega)) hc
              · have hz := z3 c c0 (by omega) hc
                have ev : v ≠ (m : Int) := by omega
                first | (exact absurd c3 (by omega)) | (rw [(hO v ev).2] at c4; omega)
    refine am_s rfl rfl ?_
    refine am_s rfl rfl ?_
    refine s_gi (x := 0) rfl g rfl rfl rfl ?_
    refine s_cge rfl ⟨by omega, by omega⟩ ⟨by omega, by omega⟩ (fun c1 => absurd c1 (by omega)) (fun c1 => ?_)
    refine am_s rfl rfl ?_
    refine s_gr rfl g rfl rfl ?_
    refine am_s rfl rfl ?_
    refine s_ba rfl g rfl ⟨by omega, by omega⟩ (by decide) ?_
    refine s_zeq rfl (by rw [eIn]; rcases hI m (by omega) (by omega) with z | z <;> exact ⟨by omega, by omega⟩) (fun c2 => ?_) (fun c2 => ?_)
    · have hnI : ¬ in_of (s 167) m := fun z => by
        unfold in_of at z
        rw [eIn] at c2
        omega
      have hold1 : ¬ in_of (s 167) m → nb_d n x (fx s 161) (fun t => in_of (s 167) t ∧ t ≠ la) m (s1 164 m) (s1 166 m) := fun hnI => by
        rw [(h3 m (by omega) (by omega)).1, (h3 m (by omega) (by omega)).2]
        exact hold m (by omega) (by omega) hnI
      refine am_s rfl rfl ?_
      refine am_s rfl rfl ?_
      refine s_ia rfl g (lo_26 (by omega) (by omega)) ⟨by omega, by omega⟩ (by decide) ?_
      refine s_i2l rfl (by rw [emx]; have := hD la m (by omega) (by omega) (by omega) (by omega); exact ⟨by omega, by omega⟩) ?_
      refine am_s rfl rfl ?_
      refine am_s rfl rfl ?_
      refine s_la rfl g rfl ⟨by omega, by omega⟩ (by decide) ?_
      refine s_ladd rfl ?_
      refine am_s rfl rfl ?_
      refine am_s rfl rfl ?_
      refine s_la rfl g rfl ⟨by omega, by omega⟩ (by decide) ?_
      refine s_ladd rfl ?_
      refine am_s rfl rfl ?_
      refine am_s rfl rfl ?_
      refine s_gr rfl g rfl rfl ?_
      refine am_s rfl rfl ?_
      refine s_ia rfl g rfl ⟨by omega, by omega⟩ (by decide) ?_
      refine s_k (-1) rfl rfl ?_
      refine s_ceq rfl (by rcases hold1 hnI with ⟨z, -⟩ | ⟨z, -⟩ <;> exact ⟨by omega, by omega⟩) ⟨by decide, by decide⟩ (fun c3 => ?_) (fun c3 => ?_)
      · refine am_s rfl rfl ?_
        refine s_gr rfl g rfl rfl ?_
        refine am_s rfl rfl ?_
        refine am_s rfl rfl ?_
        refine s_ls rfl g rfl ⟨by omega, by omega⟩ (by decide) ?_
        refine am_s rfl rfl ?_
        refine s_gr rfl g rfl rfl ?_
        refine am_s rfl rfl ?_
        refine am_s rfl rfl ?_
        refine s_is rfl g rfl ⟨by omega, by omega⟩ (by decide) ?_
        refine am_lv [(7, _), (6, _), (5, _), (4, _), (3, _), (2, _), (1, _), (0, _)] rfl rfl ⟨rfl, rfl, rfl, rfl, rfl, rfl, rfl, rfl, trivial⟩ ?_
        refine j124 _ hnI (am_Fr_W (am_Fr_W hF (by decide)) (by decide)) ?_ ?_ (fun c e => ⟨?_, ?_⟩)
        · rw [am_w_eq, am_w_a (by decide), am_w_eq, ← hfar]
          exact nb_upd ⟨hla.1, by omega⟩ hIl (hold1 hnI) (Or.inl c3) hx.1
        · rw [am_w_eq]; omega
        · rw [am_w_x e, am_w_a (by decide)]
        · rw [am_w_a (by decide), am_w_x e]
      · refine am_s rfl rfl ?_
        refine am_s rfl rfl ?_
        refine s_gr rfl g rfl rfl ?_
        refine am_s rfl rfl ?_
        refine s_la rfl g rfl ⟨by omega, by omega⟩ (by decide) ?_
        refine s_jlt rfl rfl (by rw [← hfar]; have := hfb la m (by omega) (by omega) (by omega) (by omega); exact ⟨by omega, by omega⟩) (by rcases hold1 hnI with ⟨z, -⟩ | ⟨z, -, z2, -⟩ <;> first | exact absurd z c3 | (rw [z2]; have := hfb (s1 164 m) m (by omega) (by omega) (by omega) (by omega); exact ⟨by omega, by omega⟩)) (fun c4 => ?_) (fun c4 => ?_)
        · refine am_s rfl rfl ?_
          refine s_gr rfl g rfl rfl ?_
          refine am_s rfl rfl ?_
          refine am_s rfl rfl ?_
          refine s_ls rfl g rfl ⟨by omega, by omega⟩ (by decide) ?_
          refine am_s rfl rfl ?_
          refine s_gr rfl g rfl rfl ?_
          refine am_s rfl rfl ?_
          refine am_s rfl rfl ?_
          refine s_is rfl g rfl ⟨by omega, by omega⟩ (by decide) ?_
          refine am_lv [(7, _), (6, _), (5, _), (4, _), (3, _), (2, _), (1, _), (0, _)] rfl rfl ⟨rfl, rfl, rfl, rfl, rfl, rfl, rfl, rfl, trivial⟩ ?_
          refine j124 _ hnI (am_Fr_W (am_Fr_W hF (by decide)) (by decide)) ?_ ?_ (fun c e => ⟨?_, ?_⟩)
          · rw [am_w_eq, am_w_a (by decide), am_w_eq, ← hfar]
            exact nb_upd ⟨hla.1, by omega⟩ hIl (hold1 hnI) (Or.inr (Or.inl (by rw [hfar]; exact c4))) hx.1
          · rw [am_w_eq]; omega
          · rw [am_w_x e, am_w_a (by decide)]
          · rw [am_w_a (by decide), am_w_x e]
        · refine am_s rfl rfl ?_
          refine am_s rfl rfl ?_
          refine s_gr rfl g rfl rfl ?_
          refine am_s rfl rfl ?_
          refine s_la rfl g rfl ⟨by omega, by omega⟩ (by decide) ?_
          refine s_jne rfl rfl (by rw [← hfar]; have := hfb la m (by omega) (by omega) (by omega) (by omega); exact ⟨by omega, by omega⟩) (by rcases hold1 hnI with ⟨z, -⟩ | ⟨z, -, z2, -⟩ <;> first | exact absurd z c3 | (rw [z2]; have := hfb (s1 164 m) m (by omega) (by omega) (by omega) (by omega); exact ⟨by omega, by omega⟩)) (fun c5 => ?_) (fun c5 => ?_)
          · refine am_lv [(7, _), (6, _), (5, _), (4, _), (3, _), (2, _), (1, _), (0, _)] rfl rfl ⟨rfl, rfl, rfl, rfl, rfl, rfl, rfl, rfl, trivial⟩ ?_
            exact j124 s1 hnI hF (nb_keep (hold1 hnI) c3 (by rw [hfar]; omega) (Or.inl (by rw [hfar]; exact c5))) c3 (fun c _ => ⟨rfl, rfl⟩)
          · refine am_s rfl rfl ?_
            refine am_s rfl rfl ?_
            refine s_gr rfl g rfl rfl ?_
            refine am_s rfl rfl ?_
            refine s_ia rfl g rfl ⟨by omega, by omega⟩ (by decide) ?_
            refine s_cge rfl ⟨by omega, by omega⟩ (by rcases hold1 hnI with ⟨z, -⟩ | ⟨z, -⟩ <;> exact ⟨by omega, by omega⟩) (fun c6 => ?_) (fun c6 => ?_)
            · refine am_lv [(7, _), (6, _), (5, _), (4, _), (3, _), (2, _), (1, _), (0, _)] rfl rfl ⟨rfl, rfl, rfl, rfl, rfl, rfl, rfl, rfl, trivial⟩ ?_
              exact j124 s1 hnI hF (nb_keep (hold1 hnI) c3 (by rw [hfar]; omega) (Or.inr (by omega))) c3 (fun c _ => ⟨rfl, rfl⟩)
            · refine am_s rfl rfl ?_
              refine s_gr rfl g rfl rfl ?_
              refine am_s rfl rfl ?_
              refine am_s rfl rfl ?_
              refine s_ls rfl g rfl ⟨by omega, by omega⟩ (by decide) ?_
              refine am_s rfl rfl ?_
              refine s_gr rfl g rfl rfl ?_
              refine am_s rfl rfl ?_
              refine am_s rfl rfl ?_
              refine s_is rfl g rfl ⟨by omega, by omega⟩ (by decide) ?_
              refine am_lv [(7, _), (6, _), (5, _), (4, _), (3, _), (2, _), (1, _), (0, _)] rfl rfl ⟨rfl, rfl, rfl, rfl, rfl, rfl, rfl, rfl, trivial⟩ ?_
              refine j124 _ hnI (am_Fr_W (am_Fr_W hF (by decide)) (by decide)) ?_ ?_ (fun c e => ⟨?_, ?_⟩)
              · rw [am_w_eq, am_w_a (by decide), am_w_eq, ← hfar]
                exact nb_upd ⟨hla.1, by omega⟩ hIl (hold1 hnI) (Or.inr (Or.inr ⟨by rw [hfar]; omega, by omega⟩)) hx.1
              · rw [am_w_eq]; omega
              · rw [am_w_x e, am_w_a (by decide)]
              · rw [am_w_a (by decide), am_w_x e]
    · refine am_s rfl rfl ?_
      refine s_inc rfl rfl ?_
      refine am_s rfl rfl ?_
      refine am_lv [(7, _), (6, _), (5, _), (4, _), (3, _), (2, _), (1, _), (0, _)] rfl rfl ⟨rfl, rfl, rfl, rfl, rfl, rfl, rfl, rfl, trivial⟩ ?_
      have hIm : in_of (s 167) m := by
        rcases hI m (by omega) (by omega) with z | z
        · rw [eIn] at c2; exact absurd z c2
        · exact z
      refine kk v s1 ⟨hF, fun c c0 c1 hc => ?_, fun c c0 c1 => h3 c c0 (by omega), h4, ?_⟩
      · by_cases e : c = (m : Int)
        · exact absurd (e ▸ hIm) hc
        · exact h2 c c0 (by omega) hc
      · rcases h5 with ⟨z1, z2⟩ | ⟨z1, z2, z3⟩
        · refine Or.inl ⟨z1, fun c c0 c1 => ?_⟩
          by_cases e : c = (m : Int)
          · exact e ▸ hIm
          · exact z2 c c0 (by omega)
        · refine Or.inr ⟨⟨by omega, by omega⟩, z2, fun c c0 c1 hc => ?_⟩
          by_cases e : c = (m : Int)
          · exact absurd (e ▸ hIm) hc
          · exact z3 c c0 (by omega) hc
  · rintro v s1 ⟨hF, h2, h3, h4, h5⟩
    have hvx : x ≤ v ∧ v < n := by
      rcases h5 with ⟨z1, -⟩ | ⟨z1, -, -⟩ <;> omega
    have hN : s1 25 0 = n := by rw [hF 25 (by decide)]; exact en
    simp only
    refine am_s rfl rfl ?_
    refine am_s rfl rfl ?_
    refine s_gi (x := 0) rfl g rfl rfl rfl ?_
    refine s_cge rfl ⟨by omega, by omega⟩ ⟨by omega, by omega⟩ (fun c1 => ?_) (fun c1 => absurd c1 (by omega))
    refine am_s rfl rfl ?_
    exact am_r rfl rfl (hPP v s1 ⟨hF, fun c c0 c1 hc => by rw [en]; exact h2 c c0 (by omega) hc, h4, by rw [en]; exact h5⟩)
