/-! the class joins the ends and follows -/
theorem fo_more {k : Int} {S : jS} {t t2 : Int → Int} (k1 : 1 ≤ k) (h : fo k S t) (et : ∀ i, 0 ≤ i → i < k → t2 i = t i) (e1 : k = 1 → t2 k = if S.on 0 ≤ S.ot 0 then S.on 0 else S.ot 0) (e2 : 2 ≤ k → t2 k = if S.on (t (k - 1)) = t (k - 2) then S.ot (t (k - 1)) else S.on (t (k - 1))) : fo (k + 1) S t2 := by
  refine ⟨(et 0 (by omega) (by omega)).trans h.1, fun _ => ?_, fun i i0 i1 => ?_⟩
  · by_cases c : k = 1
    · rw [← e1 c, c]
    · rw [et 1 (by omega) (by omega)]; exact h.2.1 (by omega)
  · by_cases c : i = k
    · rw [c, et (k - 1) (by omega) (by omega), et (k - 2) (by omega) (by omega)]; exact e2 (by omega)
    · rw [et i (by omega) (by omega), et (i - 1) (by omega) (by omega), et (i - 2) (by omega) (by omega)]
      exact h.2.2 i i0 (by omega)
def jp (N : Nat) (D : Int → Int → Int) (t : Int → Int) : Prop := (N = 1 ∧ t 0 = 0) ∨ (N = 2 ∧ t 0 = 0 ∧ t 1 = 1) ∨ (3 ≤ N ∧ ∃ S, jE N D S ∧ fo N S t)
theorem jp_uniq {N : Nat} {D : Int → Int → Int} {t t2 : Int → Int} (h : jp N D t) (h2 : jp N D t2) : ∀ i, 0 ≤ i → i < (N : Int) → t i = t2 i := by
  intro i i0 i1
  rcases h with ⟨e, a⟩ | ⟨e, a, b⟩ | ⟨e, S, a, b⟩ <;> rcases h2 with ⟨e2, a2⟩ | ⟨e2, a2, b2⟩ | ⟨e2, S2, a2, b2⟩ <;> try omega
  · rw [show i = 0 by omega, a, a2]
  · by_cases c : i = 0
    · rw [c, a, a2]
    · rw [show i = 1 by omega, b, b2]
  · have := jE_uniq (by omega) a a2
    subst this
    exact fo_uniq b b2 i i0 i1
theorem jp_D {N : Nat} {D D2 : Int → Int → Int} {t : Int → Int} (hD : ∀ p q, 0 ≤ p → p < (N : Int) → 0 ≤ q → q < (N : Int) → D p q = D2 p q) (h : jp N D t) : jp N D2 t := by
  rcases h with h | h | ⟨e, S, a, b⟩
  · exact Or.inl h
  · exact Or.inr (Or.inl h)
  · exact Or.inr (Or.inr ⟨e, S, jE_D hD a, b⟩)
theorem jp_all {N : Nat} {D : Int → Int → Int} {t : Int → Int} (h : jp N D t) : st_ok N t ∧ (∀ y, 0 ≤ y → y < (N : Int) → ∃ j, 0 ≤ j ∧ j < (N : Int) ∧ t j = y) ∧ t 0 = 0 := by
  rcases h with ⟨e, a⟩ | ⟨e, a, b⟩ | ⟨e, S, a, b⟩
  · refine ⟨fun i i0 i1 => ?_, fun y y0 y1 => ⟨0, by omega, by omega, by rw [a]; omega⟩, a⟩
    rw [show i = 0 by omega, a]; omega
  · refine ⟨fun i i0 i1 => ?_, fun y y0 y1 => ?_, a⟩
    · by_cases c : i = 0
      · rw [c, a]; omega
      · rw [show i = 1 by omega, b]; omega
    · by_cases c : y = 0
      · exact ⟨0, by omega, by omega, by rw [a]; omega⟩
      · exact ⟨1, by omega, by omega, by rw [b]; omega⟩
  · obtain ⟨x, y⟩ := fo_all e (jE_R e a) b
    exact ⟨x, y, b.1⟩
theorem jk_2 {D : Int → Int → Int} {S : jS} (h : jk 2 D 1 S) : S = jn jS0 0 1 := by
  obtain ⟨T, a, b, h1, h2, h3⟩ := h
  have e : T = jS0 := h1
  have := h2.1
  rw [h3, e, show a = 0 by omega, show b = 1 by omega]
theorem jE_2 {D : Int → Int → Int} {S : jS} (h : jE 2 D S) : S = jt (jn jS0 0 1) 0 1 := by
  obtain ⟨T, c, d, h1, h2, h3, h4, h5⟩ := h
  rw [h5, jk_2 h1, show c = 0 by omega, show d = 1 by omega]
/-- who follows lies among the cities -/
theorem jE_rng {N : Nat} {D : Int → Int → Int} {S : jS} (hN : 2 ≤ N) (h : jE N D S) : ∀ c, 0 ≤ c → c < (N : Int) → (0 ≤ S.on c ∧ S.on c < N) ∧ 0 ≤ S.ot c ∧ S.ot c < N := fun c c0 c1 => by
  by_cases e : N = 2
  · subst e
    rw [jE_2 h]
    by_cases z : c = 0
    · rw [z]; decide
    · rw [show c = 1 by omega]; decide
  · have := (jE_R (by omega) h).r c c0 c1
    exact ⟨this.1.1, this.2.1.1⟩
theorem t_joinEnds {d : Nat} {E : am_Ev} {s : am_S} {N : Nat} {S : jS} {PP : Option Value → am_H → Prop} (g : am_Eg E) (hN : N ≤ 20) (hx : jx s N S) (hr : jr N S) (hPP : ∀ s' c d, am_Fr [156, 157] s s' → (0 ≤ c ∧ c < d ∧ d < (N : Int)) → S.ot c = -1 → S.ot d = -1 → jx s' N (jt S c d) → PP none (am_hp E s')) (hPN : (∀ c d, 0 ≤ c → c < d → d < (N : Int) → ¬ (S.ot c = -1 ∧ S.ot d = -1)) → PP none (am_hp E s)) : am_wp (d + 2) 19 0 (lv_args 0 [.ref 153, .int (iI (N : Int))]) [] (am_hp E s) PP := by
  refine s_k (-1) rfl rfl ?_
  refine am_s rfl rfl ?_
  refine s_k 0 rfl rfl ?_
  refine am_s rfl rfl ?_
  refine am_lv [(3, .int (iI (((0 : Nat) : Int) : Int))), (2, .int (iI (-1))), (1, .int (iI (N : Int))), (0, .ref 153)] rfl rfl ⟨rfl, rfl, rfl, rfl, trivial⟩ ?_
  refine s_loop (X := Int) (fun k f s' => s = s' ∧ ((f = -1 ∧ ∀ c, 0 ≤ c → c < (k : Int) → S.ot c ≠ -1) ∨ ((0 ≤ f ∧ f < (k : Int)) ∧ S.ot f = -1 ∧ ∀ c, 0 ≤ c → c < (k : Int) → c ≠ f → S.ot c ≠ -1))) (fun k f => [(3, .int (iI (k : Int))), (2, .int (iI f)), (1, .int (iI (N : Int))), (0, .ref 153)]) (hi := N) (x := -1) (by omega) ⟨rfl, Or.inl ⟨rfl, fun c c0 c1 => by omega⟩⟩ ?_ ?_
  · rintro k f s1 hk0 hk1 ⟨rfl, hQ⟩ kk
    simp only at kk ⊢
    have xk := hx k (by omega) (by omega)
    have rk := hr k (by omega) (by omega)
    have hfr : f = -1 ∨ (0 ≤ f ∧ f < (k : Int) ∧ S.ot f = -1) := by
      rcases hQ with ⟨z, -⟩ | ⟨z, y, -⟩
      · exact Or.inl z
      · exact Or.inr ⟨z.1, z.2, y⟩
    refine am_s rfl rfl ?_
    refine am_s rfl rfl ?_
    refine s_cge rfl ⟨by omega, by omega⟩ ⟨by omega, by omega⟩ (fun c1 => absurd c1 (by omega)) (fun c1 => ?_)
    refine am_s rfl rfl ?_
    refine s_gr rfl g rfl rfl ?_
    refine am_s rfl rfl ?_
    refine s_ia rfl g rfl ⟨by omega, by omega⟩ (by decide) ?_
    refine s_k (-1) rfl rfl ?_
    refine s_cne rfl ⟨by omega, by omega⟩ ⟨by omega, by omega⟩ (fun c2 => ?_) (fun c2 => ?_)
    · refine s_inc rfl rfl ?_
      refine am_s rfl rfl ?_
      refine am_lv [(3, _), (2, _), (1, _), (0, _)] rfl rfl ⟨rfl, rfl, rfl, rfl, trivial⟩ ?_
      refine kk f _ ⟨rfl, ?_⟩
      rcases hQ with ⟨z, q⟩ | ⟨z, y, q⟩
      · refine Or.inl ⟨z, fun c c0 c1 => ?_⟩
        by_cases e : c = (k : Int)
        · rw [e]; omega
        · exact q c c0 (by omega)
      · refine Or.inr ⟨by omega, y, fun c c0 c1 cf => ?_⟩
        by_cases e : c = (k : Int)
        · rw [e]; omega
        · exact q c c0 (by omega) cf
    · refine am_s rfl rfl ?_
      refine s_k (-1) rfl rfl ?_
      refine s_ceq rfl ⟨by omega, by omega⟩ ⟨by omega, by omega⟩ (fun c3 => ?_) (fun c3 => ?_)
      · refine am_s rfl rfl ?_
        refine am_s rfl rfl ?_
        refine s_inc rfl rfl ?_
        refine am_s rfl rfl ?_
        refine am_lv [(3, _), (2, _), (1, _), (0, _)] rfl rfl ⟨rfl, rfl, rfl, rfl, trivial⟩ ?_
        refine kk k _ ⟨rfl, Or.inr ⟨by omega, by omega, fun c c0 c1 cf => ?_⟩⟩
        rcases hQ with ⟨z, q⟩ | ⟨z, y, q⟩
        · exact q c c0 (by omega)
        · omega
      · refine am_s rfl rfl ?_
        refine am_s rfl rfl ?_
        refine am_s rfl rfl ?_
        have rf := hr f (by omega) (by omega)
        refine s_cv [_, _] [] rfl g (Or.inl rfl) rfl rfl (Nat.le_of_ble_eq_true rfl) rfl rfl (t_takePair (d := d) (N := N) (S := S) (PP := fun rv h => rv = none ∧ ∃ s', h = am_hp E s' ∧ am_Fr [156, 157] s s' ∧ jx s' N (jt S f k)) g hN (by omega) ⟨by omega, by omega⟩ ⟨by omega, by omega⟩ hx rf.2.1 rk.2.1 (fun s' u v => ⟨rfl, s', rfl, u, v⟩)) ?_
        rintro rv h1 ⟨rfl, s1, rfl, hF1, hx1⟩
        exact am_r rfl rfl (hPP s1 f k hF1 ⟨by omega, by omega, by omega⟩ (by omega) (by omega) hx1)
  · rintro f s1 ⟨rfl, hQ⟩
    simp only
    refine am_s rfl rfl ?_
    refine am_s rfl rfl ?_
    refine s_cge rfl ⟨by omega, by omega⟩ ⟨by omega, by omega⟩ (fun c1 => ?_) (fun c1 => absurd c1 (by omega))
    refine am_r rfl rfl (hPN (fun c d c0 cd d1 z => ?_))
    rcases hQ with ⟨-, q⟩ | ⟨-, -, q⟩
    · exact q c c0 (by omega) z.1
    · by_cases e : c = f
      · exact q d (by omega) d1 (by omega) z.2
      · exact q c c0 (by omega) e z.1
set_option maxHeartbeats 4000000 in
theorem t_follow {d : Nat} {E : am_Ev} {s : am_S} {N : Nat} {S : jS} {PP : Option Value → am_H → Prop} (g : am_Eg E) (hN : 1 ≤ N ∧ N ≤ 20) (en : s 151 1 = (N : Int)) (hx : jx s N S) (hr : 2 ≤ N → ∀ c, 0 ≤ c → c < (N : Int) → (0 ≤ S.on c ∧ S.on c < N) ∧ 0 ≤ S.ot c ∧ S.ot c < N) (hPP : ∀ s', am_Fr [152] s s' → fo N S (s' 152) → PP none (am_hp E s')) : am_wp (d + 1) 20 0 (lv_args 0 [.ref 153, .ref 151]) [] (am_hp E s) PP := by
  refine s_k 0 rfl rfl ?_
  refine am_s rfl rfl ?_
  refine s_k 0 rfl rfl ?_
  refine am_s rfl rfl ?_
  refine am_s rfl rfl ?_
  refine s_gr rfl g rfl rfl ?_
  refine s_k 0 rfl rfl ?_
  refine s_k 0 rfl rfl ?_
  refine s_is rfl g rfl ⟨by omega, by omega⟩ (by decide) ?_
  refine s_k 1 rfl rfl ?_
  refine am_s rfl rfl ?_
  refine am_lv [(4, .int (iI (((1 : Nat) : Int) : Int))), (3, .int (iI ((0 : Int), (0 : Int)).2)), (2, .int (iI ((0 : Int), (0 : Int)).1)), (1, .ref 151), (0, .ref 153)] rfl rfl ⟨rfl, rfl, rfl, rfl, rfl, trivial⟩ ?_
  refine s_loop (X := Int × Int) (fun k x s' => am_Fr [152] s s' ∧ fo k S (s' 152) ∧ (∀ i, 0 ≤ i → i < (k : Int) → 0 ≤ s' 152 i ∧ s' 152 i < N) ∧ x.2 = s' 152 ((k : Int) - 1) ∧ (2 ≤ k → x.1 = s' 152 ((k : Int) - 2)) ∧ 0 ≤ x.1 ∧ x.1 < N) (fun k x => [(4, .int (iI (k : Int))), (3, .int (iI x.2)), (2, .int (iI x.1)), (1, .ref 151), (0, .ref 153)]) (lo := 1) (hi := N) (x := ((0 : Int), (0 : Int))) (by omega) ⟨am_Fr_w (by decide), ⟨am_w_eq _ _ _ _, fun z => by omega, fun i i0 i1 => by omega⟩, fun i i0 i1 => by rw [show i = 0 by omega, am_w_eq]; omega, (am_w_eq _ _ _ _).symm, fun z => by omega, by show (0 : Int) ≤ 0; omega, by show (0 : Int) < N; omega⟩ ?_ ?_
  · rintro k x s1 hk0 hk1 ⟨hF, hfo, hR, h3, h4, h5, h6⟩ kk
    simp only at kk h3 h4 ⊢
    have e156 : s1 156 = s 156 := hF 156 (by decide)
    have e157 : s1 157 = s 157 := hF 157 (by decide)
    have eN : s1 151 1 = (N : Int) := by rw [hF 151 (by decide)]; exact en
    have rc : 0 ≤ x.2 ∧ x.2 < (N : Int) := by rw [h3]; exact hR _ (by omega) (by omega)
    have q0 := hr (by omega) 0 (by omega) (by omega)
    have qc := hr (by omega) x.2 rc.1 rc.2
    have x0 := hx 0 (by omega) (by omega)
    have xc := hx x.2 rc.1 rc.2
    rw [← e156, ← e157] at x0 xc
    refine am_s rfl rfl ?_
    refine am_s rfl rfl ?_
    refine s_gi (x := 1) rfl g rfl rfl rfl ?_
    refine s_cge rfl ⟨by omega, by omega⟩ ⟨by omega, by omega⟩ (fun c1 => absurd c1 (by omega)) (fun c1 => ?_)
    refine am_s rfl rfl ?_
    refine s_gr rfl g rfl rfl ?_
    refine am_s rfl rfl ?_
    refine s_ia rfl g rfl ⟨by omega, by omega⟩ (by decide) ?_
    refine am_s rfl rfl ?_
    refine s_cne rfl ⟨by omega, by omega⟩ ⟨by omega, by omega⟩ (fun c2 => ?_) (fun c2 => ?_)
    · refine am_s rfl rfl ?_
      refine s_gr rfl g rfl rfl ?_
      refine am_s rfl rfl ?_
      refine s_ia rfl g rfl ⟨by omega, by omega⟩ (by decide) ?_
      refine am_s rfl rfl ?_
      refine am_s rfl rfl ?_
      refine s_k 1 rfl rfl ?_
      refine s_cne rfl ⟨by omega, by omega⟩ ⟨by omega, by omega⟩ (fun c3 => ?_) (fun c3 => ?_)
      · refine am_s rfl rfl ?_
        refine am_s rfl rfl ?_
        refine am_s rfl rfl ?_
        refine am_s rfl rfl ?_
        refine am_s rfl rfl ?_
        refine s_gr rfl g rfl rfl ?_
        refine am_s rfl rfl ?_
        refine am_s rfl rfl ?_
        refine s_is rfl g rfl ⟨by omega, by omega⟩ (by decide) ?_
        refine s_inc rfl rfl ?_
        refine am_s rfl rfl ?_
        refine am_lv [(4, _), (3, _), (2, _), (1, _), (0, _)] rfl rfl ⟨rfl, rfl, rfl, rfl, rfl, trivial⟩ ?_
        refine kk (x.2, (s1 156 x.2)) _ ⟨am_Fr_W hF (by decide), ?_, fun i i0 i1 => ?_, ?_, fun _ => ?_, rc.1, rc.2⟩
        · rw [show ((k + 1 : Nat) : Int) = (k : Int) + 1 by omega]
          refine fo_more (by omega) hfo (fun i i0 i1 => am_w_x (by omega)) (fun z => by omega) (fun z => ?_)
          rw [am_w_eq, ← h3, ← h4 (by omega)]
          first
            | rw [if_pos (by omega)]; exact xc.2.2
            | rw [if_neg (by omega)]; exact xc.2.1
        · by_cases z : i = (k : Int)
          · rw [z, am_w_eq]
            first | omega | (split <;> omega)
          · rw [am_w_x z]; exact hR i i0 (by omega)
        · show _ = am_w s1 152 (k : Int) (s1 156 x.2) 152 (((k + 1 : Nat) : Int) - 1)
          rw [show ((k + 1 : Nat) : Int) - 1 = k by omega, am_w_eq]
        · show x.2 = am_w s1 152 (k : Int) (s1 156 x.2) 152 (((k + 1 : Nat) : Int) - 2)
          rw [am_w_x (by omega), show ((k + 1 : Nat) : Int) - 2 = (k : Int) - 1 by omega]; exact h3
      · refine am_s rfl rfl ?_
        refine s_gr rfl g rfl rfl ?_
        refine s_k 0 rfl rfl ?_
        refine s_ia rfl g rfl ⟨by omega, by omega⟩ (by decide) ?_
        refine am_s rfl rfl ?_
        refine s_gr rfl g rfl rfl ?_
        refine s_k 0 rfl rfl ?_
        refine s_ia rfl g rfl ⟨by omega, by omega⟩ (by decide) ?_
        refine am_cs (As := [_, _]) (rest := []) rfl (Or.inl rfl) rfl rfl (Nat.le_of_ble_eq_true rfl) rfl (t_minI ⟨by omega, by omega⟩ ⟨by omega, by omega⟩) ?_
        rintro rv h1 ⟨rfl, rfl⟩
        refine am_s rfl rfl ?_
        refine am_s rfl rfl ?_
        refine am_s rfl rfl ?_
        refine am_s rfl rfl ?_
        refine am_s rfl rfl ?_
        refine am_s rfl rfl ?_
        refine s_gr rfl g rfl rfl ?_
        refine am_s rfl rfl ?_
        refine am_s rfl rfl ?_
        refine s_is rfl g rfl ⟨by omega, by omega⟩ (by decide) ?_
        refine s_inc rfl rfl ?_
        refine am_s rfl rfl ?_
        refine am_lv [(4, _), (3, _), (2, _), (1, _), (0, _)] rfl rfl ⟨rfl, rfl, rfl, rfl, rfl, trivial⟩ ?_
        refine kk (x.2, (if s1 156 0 ≤ s1 157 0 then s1 156 0 else s1 157 0)) _ ⟨am_Fr_W hF (by decide), ?_, fun i i0 i1 => ?_, ?_, fun _ => ?_, rc.1, rc.2⟩
        · rw [show ((k + 1 : Nat) : Int) = (k : Int) + 1 by omega]
          refine fo_more (by omega) hfo (fun i i0 i1 => am_w_x (by omega)) (fun _ => ?_) (fun z => by omega)
          rw [am_w_eq, x0.2.1, x0.2.2]
        · by_cases z : i = (k : Int)
          · rw [z, am_w_eq]
            first | omega | (split <;> omega)
          · rw [am_w_x z]; exact hR i i0 (by omega)
        · show _ = am_w s1 152 (k : Int) (if s1 156 0 ≤ s1 157 0 then s1 156 0 else s1 157 0) 152 (((k + 1 : Nat) : Int) - 1)
          rw [show ((k + 1 : Nat) : Int) - 1 = k by omega, am_w_eq]
        · show x.2 = am_w s1 152 (k : Int) (if s1 156 0 ≤ s1 157 0 then s1 156 0 else s1 157 0) 152 (((k + 1 : Nat) : Int) - 2)
          rw [am_w_x (by omega), show ((k + 1 : Nat) : Int) - 2 = (k : Int) - 1 by omega]; exact h3
    · refine am_s rfl rfl ?_
      refine s_gr rfl g rfl rfl ?_
      refine am_s rfl rfl ?_
      refine s_ia rfl g rfl ⟨by omega, by omega⟩ (by decide) ?_
      refine am_s rfl rfl ?_
      refine am_s rfl rfl ?_
      refine am_s rfl rfl ?_
      refine s_k 1 rfl rfl ?_
      refine s_cne rfl ⟨by omega, by omega⟩ ⟨by omega, by omega⟩ (fun c4 => ?_) (fun c4 => ?_)
      · refine am_s rfl rfl ?_
        refine am_s rfl rfl ?_
        refine am_s rfl rfl ?_
        refine am_s rfl rfl ?_
        refine am_s rfl rfl ?_
        refine s_gr rfl g rfl rfl ?_
        refine am_s rfl rfl ?_
        refine am_s rfl rfl ?_
        refine s_is rfl g rfl ⟨by omega, by omega⟩ (by decide) ?_
        refine s_inc rfl rfl ?_
        refine am_s rfl rfl ?_
        refine am_lv [(4, _), (3, _), (2, _), (1, _), (0, _)] rfl rfl ⟨rfl, rfl, rfl, rfl, rfl, trivial⟩ ?_
        refine kk (x.2, (s1 157 x.2)) _ ⟨am_Fr_W hF (by decide), ?_, fun i i0 i1 => ?_, ?_, fun _ => ?_, rc.1, rc.2⟩
        · rw [show ((k + 1 : Nat) : Int) = (k : Int) + 1 by omega]
          refine fo_more (by omega) hfo (fun i i0 i1 => am_w_x (by omega)) (fun z => by omega) (fun z => ?_)
          rw [am_w_eq, ← h3, ← h4 (by omega)]
          first
            | rw [if_pos (by omega)]; exact xc.2.2
            | rw [if_neg (by omega)]; exact xc.2.1
        · by_cases z : i = (k : Int)
          · rw [z, am_w_eq]
            first | omega | (split <;> omega)
          · rw [am_w_x z]; exact hR i i0 (by omega)
        · show _ = am_w s1 152 (k : Int) (s1 157 x.2) 152 (((k + 1 : Nat) : Int) - 1)
          rw [show ((k + 1 : Nat) : Int) - 1 = k by omega, am_w_eq]
        · show x.2 = am_w s1 152 (k : Int) (s1 157 x.2) 152 (((k + 1 : Nat) : Int) - 2)
          rw [am_w_x (by omega), show ((k + 1 : Nat) : Int) - 2 = (k : Int) - 1 by omega]; exact h3
      · refine am_s rfl rfl ?_
        refine s_gr rfl g rfl rfl ?_
        refine s_k 0 rfl rfl ?_
        refine s_ia rfl g rfl ⟨by omega, by omega⟩ (by decide) ?_
        refine am_s rfl rfl ?_
        refine s_gr rfl g rfl rfl ?_
        refine s_k 0 rfl rfl ?_
        refine s_ia rfl g rfl ⟨by omega, by omega⟩ (by decide) ?_
        refine am_cs (As := [_, _]) (rest := []) rfl (Or.inl rfl) rfl rfl (Nat.le_of_ble_eq_true rfl) rfl (t_minI ⟨by omega, by omega⟩ ⟨by omega, by omega⟩) ?_
        rintro rv h1 ⟨rfl, rfl⟩
        refine am_s rfl rfl ?_
        refine am_s rfl rfl ?_
        refine am_s rfl rfl ?_
        refine am_s rfl rfl ?_
        refine am_s rfl rfl ?_
        refine am_s rfl rfl ?_
        refine s_gr rfl g rfl rfl ?_
        refine am_s rfl rfl ?_
        refine am_s rfl rfl ?_
        refine s_is rfl g rfl ⟨by omega, by omega⟩ (by decide) ?_
        refine s_inc rfl rfl ?_
        refine am_s rfl rfl ?_
        refine am_lv [(4, _), (3, _), (2, _), (1, _), (0, _)] rfl rfl ⟨rfl, rfl, rfl, rfl, rfl, trivial⟩ ?_
        refine kk (x.2, (if s1 156 0 ≤ s1 157 0 then s1 156 0 else s1 157 0)) _ ⟨am_Fr_W hF (by decide), ?_, fun i i0 i1 => ?_, ?_, fun _ => ?_, rc.1, rc.2⟩
        · rw [show ((k + 1 : Nat) : Int) = (k : Int) + 1 by omega]
          refine fo_more (by omega) hfo (fun i i0 i1 => am_w_x (by omega)) (fun _ => ?_) (fun z => by omega)
          rw [am_w_eq, x0.2.1, x0.2.2]
        · by_cases z : i = (k : Int)
          · rw [z, am_w_eq]
            first | omega | (split <;> omega)
          · rw [am_w_x z]; exact hR i i0 (by omega)
        · show _ = am_w s1 152 (k : Int) (if s1 156 0 ≤ s1 157 0 then s1 156 0 else s1 157 0) 152 (((k + 1 : Nat) : Int) - 1)
          rw [show ((k + 1 : Nat) : Int) - 1 = k by omega, am_w_eq]
        · show x.2 = am_w s1 152 (k : Int) (if s1 156 0 ≤ s1 157 0 then s1 156 0 else s1 157 0) 152 (((k + 1 : Nat) : Int) - 2)
          rw [am_w_x (by omega), show ((k + 1 : Nat) : Int) - 2 = (k : Int) - 1 by omega]; exact h3
  · rintro x s1 ⟨hF, hfo, hR, h3, h4, h5, h6⟩
    simp only
    have eN : s1 151 1 = (N : Int) := by rw [hF 151 (by decide)]; exact en
    refine am_s rfl rfl ?_
    refine am_s rfl rfl ?_
    refine s_gi (x := 1) rfl g rfl rfl rfl ?_
    refine s_cge rfl ⟨by omega, by omega⟩ ⟨by omega, by omega⟩ (fun c1 => ?_) (fun c1 => absurd c1 (by omega))
    exact am_r rfl rfl (hPP s1 hF hfo)
set_option maxHeartbeats 4000000 in
theorem t_joinPairs {d : Nat} {E : am_Ev} {s : am_S} {N : Nat} {PP : Option Value → am_H → Prop} (g : am_Eg E) (hm : mx_ok s) (en : s 25 0 = (N : Int)) (hc : s 151 1 = (N : Int)) (hPP : ∀ s', am_Fr [152, 155, 156, 157] s s' → jp N (mx s) (s' 152) → PP none (am_hp E s')) : am_wp (d + 3) 14 0 (lv_args 0 [.ref 153, .ref 25, .ref 151]) [] (am_hp E s) PP := by
  have n1 := hm.1
  have n2 := hm.2.1
  rw [en] at n1 n2
  refine s_k 0 rfl rfl ?_
  refine am_s rfl rfl ?_
  refine am_lv [(3, .int (iI (((0 : Nat) : Int) : Int))), (2, .ref 151), (1, .ref 25), (0, .ref 153)] rfl rfl ⟨rfl, rfl, rfl, rfl, trivial⟩ ?_
  refine s_loop (X := Unit) (fun k _ s' => am_Fr [155, 156, 157] s s' ∧ ∀ c, 0 ≤ c → c < (k : Int) → s' 155 c = c ∧ s' 156 c = -1 ∧ s' 157 c = -1) (fun k _ => [(3, .int (iI (k : Int))), (2, .ref 151), (1, .ref 25), (0, .ref 153)]) (hi := N) (x := ()) (by omega) ⟨am_Fr_r _ _, fun c c0 c1 => by omega⟩ ?_ ?_
  · rintro k - s1 hk0 hk1 ⟨hF, hQ⟩ kk
    simp only at kk ⊢
    have eN : s1 25 0 = (N : Int) := by rw [hF 25 (by decide)]; exact en
    refine am_s rfl rfl ?_
    refine am_s rfl rfl ?_
    refine s_gi (x := 0) rfl g rfl rfl rfl ?_
    refine s_cge rfl ⟨by omega, by omega⟩ ⟨by omega, by omega⟩ (fun c1 => absurd c1 (by omega)) (fun c1 => ?_)
    refine am_s rfl rfl ?_
    refine s_gr rfl g rfl rfl ?_
    refine am_s rfl rfl ?_
    refine am_s rfl rfl ?_
    refine s_is rfl g rfl ⟨by omega, by omega⟩ (by decide) ?_
    refine am_s rfl rfl ?_
    refine s_gr rfl g rfl rfl ?_
    refine am_s rfl rfl ?_
    refine s_k (-1) rfl rfl ?_
    refine s_is rfl g rfl ⟨by omega, by omega⟩ (by decide) ?_
    refine am_s rfl rfl ?_
    refine s_gr rfl g rfl rfl ?_
    refine am_s rfl rfl ?_
    refine s_k (-1) rfl rfl ?_
    refine s_is rfl g rfl ⟨by omega, by omega⟩ (by decide) ?_
    refine s_inc rfl rfl ?_
    refine am_s rfl rfl ?_
    refine am_lv [(3, _), (2, _), (1, _), (0, _)] rfl rfl ⟨rfl, rfl, rfl, rfl, trivial⟩ ?_
    refine kk () _ ⟨am_Fr_W (am_Fr_W (am_Fr_W hF (by decide)) (by decide)) (by decide), fun c c0 c1 => ?_⟩
    by_cases e : c = (k : Int)
    · subst e
      exact ⟨by rw [am_w_row (by decide), am_w_row (by decide), am_w_eq], by rw [am_w_row (by decide), am_w_eq], by rw [am_w_eq]⟩
    · have q := hQ c c0 (by omega)
      exact ⟨by rw [am_w_row (by decide), am_w_row (by decide), am_w_x e]; exact q.1, by rw [am_w_row (by decide), am_w_x e, am_w_row (by decide)]; exact q.2.1, by rw [am_w_x e, am_w_row (by decide), am_w_row (by decide)]; exact q.2.2⟩
  · rintro - s1 ⟨hF, hQ⟩
    simp only
    have eN : s1 25 0 = (N : Int) := by rw [hF 25 (by decide)]; exact en
    refine am_s rfl rfl ?_
    refine am_s rfl rfl ?_
    refine s_gi (x := 0) rfl g rfl rfl rfl ?_
    refine s_cge rfl ⟨by omega, by omega⟩ ⟨by omega, by omega⟩ (fun c1 => ?_) (fun c1 => absurd c1 (by omega))
    refine s_k 1 rfl rfl ?_
    refine am_s rfl rfl ?_
    refine am_lv [(3, .int (iI (((1 : Nat) : Int) : Int))), (2, .ref 151), (1, .ref 25), (0, .ref 153)] rfl rfl ⟨rfl, rfl, rfl, rfl, trivial⟩ ?_
    refine s_loop (X := Unit) (fun k _ s' => am_Fr [155, 156, 157] s s' ∧ ∃ S, jk N (mx s) (k - 1) S ∧ jx s' N S) (fun k _ => [(3, .int (iI (k : Int))), (2, .ref 151), (1, .ref 25), (0, .ref 153)]) (lo := 1) (hi := N) (x := ()) (by omega) ⟨hF, jS0, rfl, hQ⟩ ?_ ?_
    · rintro k - s2 hk0 hk1 ⟨hF2, S, hk, hxS⟩ kk
      simp only at kk ⊢
      have eN : s2 25 0 = (N : Int) := by rw [hF2 25 (by decide)]; exact en
      have em : ∀ a b, 0 ≤ a → a < (N : Int) → mx s2 a b = mx s a b := fun a b a0 a1 => by
        unfold mx
        rw [hF2 _ (fun z => by simp at z; omega)]
      have I := jk_I hk
      refine am_s rfl rfl ?_
      refine am_s rfl rfl ?_
      refine s_gi (x := 0) rfl g rfl rfl rfl ?_
      refine s_cge rfl ⟨by omega, by omega⟩ ⟨by omega, by omega⟩ (fun c1 => absurd c1 (by omega)) (fun c1 => ?_)
      refine am_s rfl rfl ?_
      refine am_s rfl rfl ?_
      have hm2 : mx_ok s2 := ⟨by omega, by omega, fun a b a0 a1 b0 b1 => by rw [em a b a0 (by omega)]; exact hm.2.2 a b a0 (by omega) b0 (by omega)⟩
      refine s_cv [_] [] rfl g (Or.inl rfl) rfl rfl (Nat.le_of_ble_eq_true rfl) rfl rfl (t_joinNearest (d := d) (s := s2) (N := N) (S := S) (PP := fun rv h => rv = none ∧ ∃ s' a b, h = am_hp E s' ∧ am_Fr [155, 156, 157] s2 s' ∧ jl N (mx s2) S a b ∧ jx s' N (jn S a b)) g hm2 eN hxS (jI_r I) (jI_free I (by omega)) (fun s' a b u v w => ⟨rfl, s', a, b, rfl, u, v, w⟩)) ?_
      rintro rv h1 ⟨rfl, s3, a, b, rfl, hF3, hl3, hx3⟩
      refine s_inc rfl rfl ?_
      refine am_s rfl rfl ?_
      refine am_lv [(3, _), (2, _), (1, _), (0, _)] rfl rfl ⟨rfl, rfl, rfl, rfl, trivial⟩ ?_
      refine kk () _ ⟨am_Fr_u hF2 hF3, jn S a b, ?_, hx3⟩
      rw [show k + 1 - 1 = k - 1 + 1 by omega]
      exact ⟨S, a, b, hk, jl_D (fun p q p0 p1 q0 q1 => em p q p0 p1) hl3, rfl⟩
    · rintro - s2 ⟨hF2, S, hk, hxS⟩
      simp only
      have eN : s2 25 0 = (N : Int) := by rw [hF2 25 (by decide)]; exact en
      have em : ∀ a b, 0 ≤ a → a < (N : Int) → mx s2 a b = mx s a b := fun a b a0 a1 => by
        unfold mx
        rw [hF2 _ (fun z => by simp at z; omega)]
      have I := jk_I hk
      refine am_s rfl rfl ?_
      refine am_s rfl rfl ?_
      refine s_gi (x := 0) rfl g rfl rfl rfl ?_
      refine s_cge rfl ⟨by omega, by omega⟩ ⟨by omega, by omega⟩ (fun c1 => ?_) (fun c1 => absurd c1 (by omega))
      refine am_s rfl rfl ?_
      refine am_s rfl rfl ?_
      refine s_gi (x := 0) rfl g rfl rfl rfl ?_
      rw [eN]
      have hone : (∀ c d, 0 ≤ c → c < d → d < (N : Int) → ¬ (S.ot c = -1 ∧ S.ot d = -1)) → N = 1 := fun z => by
        by_cases e : N = 1
        · exact e
        · obtain ⟨c, d, c0, cd, d1, y⟩ := jI_two I (by omega) (by omega)
          exact absurd y (z c d c0 cd d1)
      refine s_cv [_] [] rfl g (Or.inl rfl) rfl rfl (Nat.le_of_ble_eq_true rfl) rfl rfl (t_joinEnds (d := d) (s := s2) (N := N) (S := S) (PP := fun rv h => rv = none ∧ ∃ s' S2, h = am_hp E s' ∧ am_Fr [156, 157] s2 s' ∧ jx s' N S2 ∧ (N = 1 ∨ (2 ≤ N ∧ jE N (mx s) S2))) g (by omega) hxS (jI_r I) (fun s' c d' u v w x y => ⟨rfl, s', jt S c d', rfl, u, y, Or.inr ⟨by omega, S, c, d', hk, v, w, x, rfl⟩⟩) (fun z => ⟨rfl, s2, S, rfl, am_Fr_r _ _, hxS, Or.inl (hone z)⟩)) ?_
      rintro rv h1 ⟨rfl, s3, S2, rfl, hF3, hx3, hE⟩
      refine am_s rfl rfl ?_
      refine am_s rfl rfl ?_
      refine s_cv [_] [] rfl g (Or.inl rfl) rfl rfl (Nat.le_of_ble_eq_true rfl) rfl rfl (t_follow (d := d + 1) (s := s3) (N := N) (S := S2) (PP := fun rv h => rv = none ∧ ∃ s', h = am_hp E s' ∧ am_Fr [152] s3 s' ∧ fo N S2 (s' 152)) g (by omega) (by rw [hF3 151 (by decide), hF2 151 (by decide)]; exact hc) hx3 (fun z => jE_rng z (hE.resolve_left (by omega)).2) (fun s' u v => ⟨rfl, s', rfl, u, v⟩)) ?_
      rintro rv h1 ⟨rfl, s4, rfl, hF4, hfo⟩
      refine am_r rfl rfl (hPP s4 (fun q hq => ?_) ?_)
      · rw [hF4 q (fun z => hq (by simp at z ⊢; omega)), hF3 q (fun z => hq (by simp at z ⊢; omega)), hF2 q (fun z => hq (by simp at z ⊢; omega))]
      · rcases hE with e1 | ⟨e2, e3⟩
        · exact Or.inl ⟨e1, hfo.1⟩
        · by_cases e4 : N = 2
          · subst e4
            refine Or.inr (Or.inl ⟨rfl, hfo.1, ?_⟩)
            rw [hfo.2.1 (by omega), jE_2 e3]; decide
          · exact Or.inr (Or.inr ⟨by omega, S2, e3, hfo⟩)
