theorem nb_congr {n x : Int} {f : Int → Int → Int} {J J2 : Int → Prop} {c hu ne : Int} (e : ∀ t, x ≤ t → t < n → (J t ↔ J2 t)) (h : nb_d n x f J c hu ne) : nb_d n x f J2 c hu ne := by
  rcases h with ⟨h1, h2⟩ | ⟨h1, h2, h3, h4⟩
  · exact Or.inl ⟨h1, fun t t0 t1 ht => h2 t t0 t1 ((e t t0 t1).mpr ht)⟩
  · exact Or.inr ⟨h1, (e hu h1.1 h1.2).mp h2, h3, fun t t0 t1 ht => h4 t t0 t1 ((e t t0 t1).mpr ht)⟩
/-- hung, for those inside -/
def on_of (ins hu : Int → Int) : Int → Int := fun c => if ins c = 1 then hu c else -1
/-- the order of coming: each but the first hangs on one that came before -/
def od_ok (n x : Int) (k : Nat) (ins hu od : Int → Int) : Prop := od 0 = x ∧ hu x = -1 ∧ (∀ i, 0 ≤ i → i < (k : Int) → x ≤ od i ∧ od i < n ∧ ins (od i) = 1) ∧ (∀ c, x ≤ c → c < n → ins c = 1 → ∃ i, 0 ≤ i ∧ i < (k : Int) ∧ od i = c) ∧ (∀ i j, 0 ≤ i → i < j → j < (k : Int) → od i ≠ od j) ∧ ∀ i, 0 < i → i < (k : Int) → ∃ j, 0 ≤ j ∧ j < i ∧ hu (od i) = od j
theorem gw_on {n x : Int} {f : Int → Int → Int} (hx : 0 ≤ x) : ∀ {k : Nat} {I : Int → Prop} {on on2 : Int → Int} {al : Int}, (∀ c, 0 ≤ c → c < n → on c = on2 c) → gw_ok n x f k I on al → gw_ok n x f k I on2 al
  | 0, I, on, on2, al, e, h => ⟨h.1, fun c c0 c1 => by rw [← e c c0 c1]; exact h.2.1 c c0 c1, h.2.2⟩
  | k + 1, I, on, on2, al, e, h => by
    obtain ⟨I0, on0, al0, c, a, h1, hp, e1, e2, e3, e4⟩ := h
    have h0 := hp.1.1
    exact ⟨I0, on0, al0, c, a, h1, hp, e1, by rw [← e c (by omega) hp.1.2]; exact e2, fun b b0 b1 hb => by rw [← e b b0 b1]; exact e3 b b0 b1 hb, e4⟩
theorem t_grow49 {d : Nat} {E : am_Ev} {s : am_S} {x : Int} (g : am_Eg E) (hm : mx_ok s) (hp : pn_ok s 54) (hx : 0 ≤ x ∧ x < s 25 0) : am_wp (d + 1) 22 0 (lv_args 0 [.ref 49, .ref 25, .ref 54, .int (iI x)]) [] (am_hp E s) (fun rv h => ∃ al, rv = some (.long (lI al)) ∧ ∃ s', h = am_hp E s' ∧ am_Fr [50, 51, 52, 53] s s' ∧ gw_ok (s 25 0) x (fx s 54) ((s 25 0 - x).toNat - 1) (in_of (s' 53)) (s' 50) al ∧ (∀ c, x ≤ c → c < s 25 0 → s' 53 c = 1) ∧ od_ok (s 25 0) x ((s 25 0 - x).toNat) (s' 53) (s' 50) (s' 51) ∧ s' 50 x = -1 ∧ -200000000000000000 ≤ al ∧ al ≤ 200000000000000000) := by
  obtain ⟨n1, n2, hD⟩ := hm
  obtain ⟨n, en⟩ : ∃ n : Nat, s 25 0 = n := ⟨(s 25 0).toNat, by omega⟩
  have hfb : ∀ p q, 0 ≤ p → p < (n : Int) → 0 ≤ q → q < (n : Int) → -4000000000000000 ≤ fx s 54 p q ∧ fx s 54 p q ≤ 4000000000000000 := fun p q p0 p1 q0 q1 => by
    have h1 := hD p q p0 (by omega) q0 (by omega)
    have h2 := hp p p0 (by omega)
    have h3 := hp q q0 (by omega)
    unfold fx
    omega
  refine s_k 0 rfl rfl ?_
  refine am_s rfl rfl ?_
  refine am_lv [(4, .int (iI (((0 : Nat) : Int) : Int))), (3, .int (iI x)), (2, .ref 54), (1, .ref 25), (0, .ref 49)] rfl rfl ⟨rfl, rfl, rfl, rfl, rfl, trivial⟩ ?_
  refine s_loop (X := Unit) (fun k _ s' => am_Fr [50, 51, 52, 53] s s' ∧ ∀ c, 0 ≤ c → c < (k : Int) → s' 50 c = -1 ∧ s' 53 c = 0) (fun k _ => [(4, .int (iI (k : Int))), (3, .int (iI x)), (2, .ref 54), (1, .ref 25), (0, .ref 49)]) (hi := 20) (x := ()) (by decide) ⟨am_Fr_r _ _, fun c c0 c1 => absurd c1 (by omega)⟩ ?_ ?_
  · rintro k - s1 hk0 hk ⟨hF, hV⟩ kk
    simp only at kk ⊢
    refine am_s rfl rfl ?_
    refine s_k 20 rfl rfl ?_
    refine s_cge rfl ⟨by omega, by omega⟩ ⟨by omega, by omega⟩ (fun c1 => absurd c1 (by omega)) (fun c1 => ?_)
    refine am_s rfl rfl ?_
    refine s_gr rfl g rfl rfl ?_
    refine am_s rfl rfl ?_
    refine s_k (-1) rfl rfl ?_
    refine s_is rfl g rfl ⟨by omega, by omega⟩ (by decide) ?_
    refine am_s rfl rfl ?_
    refine s_gr rfl g rfl rfl ?_
    refine am_s rfl rfl ?_
    refine s_k 0 rfl rfl ?_
    refine s_bs rfl g rfl ⟨by omega, by omega⟩ (by decide) (Or.inl rfl) ?_
    refine s_inc rfl rfl ?_
    refine am_s rfl rfl ?_
    refine am_lv [(4, _), (3, _), (2, _), (1, _), (0, _)] rfl rfl ⟨rfl, rfl, rfl, rfl, rfl, trivial⟩ ?_
    refine kk () _ ⟨am_Fr_W (am_Fr_W hF (by decide)) (by decide), fun c c0 c1 => ?_⟩
    by_cases e : c = (k : Int)
    · rw [e, am_w_eq, am_w_a (by decide), am_w_eq]; exact ⟨rfl, rfl⟩
    · rw [am_w_x e, am_w_x e, am_w_x e, am_w_x e]; exact hV c c0 (by omega)
  · rintro - s1 ⟨hF, hV⟩
    simp only
    refine am_s rfl rfl ?_
    refine s_k 20 rfl rfl ?_
    refine s_cge rfl ⟨by omega, by omega⟩ ⟨by omega, by omega⟩ (fun c1 => ?_) (fun c1 => absurd c1 (by omega))
    refine s_kl 0 rfl rfl ?_
    refine am_s rfl rfl ?_
    refine am_s rfl rfl ?_
    refine am_s rfl rfl ?_
    refine am_s rfl rfl ?_
    refine s_gr rfl g rfl rfl ?_
    refine am_s rfl rfl ?_
    refine s_k 1 rfl rfl ?_
    refine s_bs rfl g rfl ⟨by omega, by omega⟩ (by decide) (Or.inr rfl) ?_
    refine am_s rfl rfl ?_
    refine s_gr rfl g rfl rfl ?_
    refine s_k 0 rfl rfl ?_
    refine am_s rfl rfl ?_
    refine s_is rfl g rfl ⟨by omega, by omega⟩ (by decide) ?_
    refine s_k 1 rfl rfl ?_
    refine am_s rfl rfl ?_
    have hin : ∀ c, 0 ≤ c → c < 20 → am_w (am_w s1 53 x 1) 51 0 x 53 c = if c = x then 1 else 0 := fun c c0 c1 => by
      rw [am_w_a (by decide)]
      by_cases e : c = x
      · rw [e, am_w_eq, if_pos rfl]
      · rw [am_w_x e, if_neg e]; exact (hV c c0 c1).2
    have hhu : ∀ c, 0 ≤ c → c < 20 → am_w (am_w s1 53 x 1) 51 0 x 50 c = -1 := fun c c0 c1 => by
      rw [am_w_a (by decide), am_w_a (by decide)]; exact (hV c c0 c1).1
    refine am_lv [(7, .int (iI (((1 : Nat) : Int) : Int))), (6, .int (iI x)), (4, .long (lI 0)), (3, .int (iI x)), (2, .ref 54), (1, .ref 25), (0, .ref 49)] rfl rfl ⟨rfl, rfl, rfl, rfl, rfl, rfl, rfl, trivial⟩ ?_
    refine s_loop (X := Int × Int) (fun k q s' => am_Fr [50, 51, 52, 53] s s' ∧ gw_ok n x (fx s 54) (k - 1) (in_of (s' 53)) (on_of (s' 53) (s' 50)) q.2 ∧ s_sum (s' 53) n = (k : Int) ∧ (∀ c, 0 ≤ c → c < 20 → s' 53 c = 0 ∨ s' 53 c = 1) ∧ (∀ c, 0 ≤ c → c < x → s' 53 c = 0) ∧ (x ≤ q.1 ∧ q.1 < n ∧ in_of (s' 53) q.1) ∧ (∀ c, x < c → c < (n : Int) → ¬ in_of (s' 53) c → nb_d n x (fx s 54) (fun t => in_of (s' 53) t ∧ t ≠ q.1) c (s' 50 c) (s' 52 c)) ∧ (∀ c, 0 ≤ c → c ≤ x → s' 50 c = -1) ∧ od_ok n x k (s' 53) (s' 50) (s' 51) ∧ -((k : Int) * 10000000000000000) ≤ q.2 ∧ q.2 ≤ (k : Int) * 10000000000000000) (fun k q => [(7, .int (iI (k : Int))), (6, .int (iI q.1)), (4, .long (lI q.2)), (3, .int (iI x)), (2, .ref 54), (1, .ref 25), (0, .ref 49)]) (lo := 1) (hi := n - x.toNat) (x := (x, 0)) (by omega) ⟨am_Fr_W (am_Fr_W hF (by decide)) (by decide), ⟨fun c c0 c1 => ?e1, fun c c0 c1 => ?e2, rfl⟩, ?e3, fun c c0 c1 => ?e4, fun c c0 c1 => ?e5, ⟨Int.le_refl x, by omega, ?e6⟩, fun c c0 c1 hc => ?e7, fun c c0 c1 => hhu c c0 (by omega), ⟨?e8, hhu x hx.1 (by omega), fun i i0 i1 => ?e9, fun c c0 c1 hc => ?e10, fun i j i0 ij j1 => absurd j1 (by omega), fun i i0 i1 => absurd i1 (by omega)⟩, by simp only; omega, by simp only; omega⟩ ?_ ?_
    case e1 => unfold in_of; rw [hin c c0 (by omega)]; by_cases e : c = x <;> simp [e]
    case e2 => unfold on_of; rw [hhu c c0 (by omega)]; split <;> rfl
    case e3 =>
      unfold s_sum
      obtain ⟨x0, rfl⟩ := Int.eq_ofNat_of_zero_le hx.1
      rw [mt_s_one (g := fun _ => 0) (j := x0) (by omega) (fun i hi hne => by rw [hin i (by omega) (by omega), if_neg (by omega)]), mt_s_zero, hin x0 (by omega) (by omega), if_pos rfl]
      omega
    case e4 => rw [hin c c0 c1]; by_cases e : c = x <;> simp [e]
    case e5 => rw [hin c c0 (by omega), if_neg (by omega)]
    case e6 => unfold in_of; rw [hin x hx.1 (by omega), if_pos rfl]
    case e7 => exact Or.inl ⟨hhu c (by omega) (by omega), fun t t0 t1 ht => by
      have h1 := ht.1
      unfold in_of at h1
      rw [hin t (by omega) (by omega), if_neg (fun z => ht.2 z)] at h1
      omega⟩
    case e8 => rw [am_w_eq]
    case e9 =>
      have e0 : i = 0 := by omega
      rw [e0, am_w_eq, hin x hx.1 (by omega), if_pos rfl]
      exact ⟨Int.le_refl x, by omega, rfl⟩
    case e10 =>
      rw [hin c (by omega) (by omega)] at hc
      by_cases e : c = x
      · exact ⟨0, Int.le_refl 0, by omega, by rw [am_w_eq, e]⟩
      · rw [if_neg e] at hc; omega
    · rintro k q s2 hk0 hk ⟨hF2, h2, h3, h4, h5, h6, h7, h8, h9, h10, h11⟩ kk
      have hN : s2 25 0 = n := by rw [hF2 25 (by decide)]; exact en
      have h6x : in_of (s2 53) x := by
        have y := (h9.2.2.1 0 (Int.le_refl 0) (by omega)).2.2
        rw [h9.1] at y
        exact y
      simp only at kk ⊢
      refine am_s rfl rfl ?_
      refine am_s rfl rfl ?_
      refine s_gi (x := 0) rfl g rfl rfl rfl ?_
      refine am_s rfl rfl ?_
      refine s_isub rfl ?_
      refine s_cge rfl ⟨by omega, by omega⟩ ⟨by omega, by omega⟩ (fun c1 => absurd c1 (by omega)) (fun c1 => ?_)
      refine am_s rfl rfl ?_
      refine am_s rfl rfl ?_
      refine am_s rfl rfl ?_
      refine am_s rfl rfl ?_
      refine am_s rfl rfl ?_
      have efx : ∀ p q, 0 ≤ p → p < 20 → fx s2 54 p q = fx s 54 p q := fun p q p0 p1 => by
        unfold fx mx
        rw [hF2 54 (by decide), hF2 (26 + 1 + p.toNat) (fun z => by simp at z; omega)]
      have emx : mx_ok s2 := ⟨by omega, by omega, fun a b a0 a1 b0 b1 => by
        have := hD a b a0 (by omega) b0 (by omega)
        unfold mx at this ⊢
        rw [hF2 (26 + 1 + a.toNat) (fun z => by simp at z; omega)]
        exact this⟩
      have epn : pn_ok s2 54 := by
        intro c c0 c1
        rw [hF2 54 (by decide)]
        exact hp c c0 c1
      have ecg : ∀ (J : Int → Prop) (c hu ne : Int), x < c → c < (n : Int) → (nb_d n x (fx s2 54) J c hu ne ↔ nb_d n x (fx s 54) J c hu ne) := fun J c hu ne c0 c1 => by
        unfold nb_d
        constructor
        · rintro (⟨z1, z2⟩ | ⟨z1, z2, z3, z4⟩)
          · exact Or.inl ⟨z1, z2⟩
          · exact Or.inr ⟨z1, z2, by rw [← efx hu c (by omega) (by omega)]; exact z3, fun t t0 t1 ht => by rw [← efx t c (by omega) (by omega)]; exact z4 t t0 t1 ht⟩
        · rintro (⟨z1, z2⟩ | ⟨z1, z2, z3, z4⟩)
          · exact Or.inl ⟨z1, z2⟩
          · exact Or.inr ⟨z1, z2, by rw [efx hu c (by omega) (by omega)]; exact z3, fun t t0 t1 ht => by rw [efx t c (by omega) (by omega)]; exact z4 t t0 t1 ht⟩
      refine s_cv [_, _, _, _] [] rfl g (Or.inl rfl) rfl rfl (Nat.le_of_ble_eq_true rfl) rfl rfl (t_next49 g emx epn (x := x) (la := q.1) ⟨hx.1, by omega⟩ ⟨h6.1, by omega⟩ (fun c c0 c1 => h4 c c0 (by omega)) h6.2.2 (fun c c0 c1 hc => by rw [hN] at c1 ⊢; exact (ecg _ _ _ _ c0 c1).mpr (h7 c c0 c1 hc))) ?_
      rintro rv h1 ⟨v, rfl, s3, rfl, hF3, g2, g3, g4⟩
      rw [hN] at g2 g4
      have eI : s3 53 = s2 53 := hF3 53 (by decide)
      have hv : (x < v ∧ v < (n : Int)) ∧ ¬ in_of (s2 53) v ∧ ∀ c, x < c → c < (n : Int) → ¬ in_of (s2 53) c → s3 52 v < s3 52 c ∨ s3 52 v = s3 52 c ∧ v ≤ c := by
        rcases g4 with ⟨-, z⟩ | z
        · exfalso
          have hall : ∀ c, x ≤ c → c < (n : Int) → s2 53 c = 1 := fun c c0 c1 => by
            by_cases e : c = x
            · rw [e]
              have h9 := h9
              have := (h9.2.2.1 0 (Int.le_refl 0) (by omega)).2.2
              rw [h9.1] at this
              exact this
            · exact z c (by omega) c1
          have := s_sum_full (k := n) hx.1 (by omega) hall h5
          omega
        · exact z
      obtain ⟨hv1, hv2, hv3⟩ := hv
      have hb := (ecg _ _ _ _ hv1.1 hv1.2).mp (g2 v hv1.1 hv1.2 hv2)
      have hb : (x ≤ s3 50 v ∧ s3 50 v < (n : Int)) ∧ in_of (s2 53) (s3 50 v) ∧ s3 52 v = fx s 54 (s3 50 v) v ∧ ∀ t, x ≤ t → t < (n : Int) → in_of (s2 53) t → s3 52 v < fx s 54 t v ∨ s3 52 v = fx s 54 t v ∧ s3 50 v ≤ t := by
        rcases hb with ⟨-, z⟩ | z
        · exact absurd h6.2.2 (z q.1 h6.1 h6.2.1)
        · exact z
      obtain ⟨hb1, hb2, hb3, hb4⟩ := hb
      have hfv := hfb (s3 50 v) v (by omega) (by omega) (by omega) (by omega)
      refine am_s rfl rfl ?_
      refine am_s rfl rfl ?_
      refine s_gr rfl g rfl rfl ?_
      refine am_s rfl rfl ?_
      refine s_k 1 rfl rfl ?_
      refine s_bs rfl g rfl ⟨by omega, by omega⟩ (by decide) (Or.inr rfl) ?_
      refine am_s rfl rfl ?_
      refine s_gr rfl g rfl rfl ?_
      refine am_s rfl rfl ?_
      refine am_s rfl rfl ?_
      refine s_is rfl g rfl ⟨by omega, by omega⟩ (by decide) ?_
      refine am_s rfl rfl ?_
      refine am_s rfl rfl ?_
      refine s_gr rfl g rfl rfl ?_
      refine am_s rfl rfl ?_
      refine s_la rfl g rfl ⟨by omega, by omega⟩ (by decide) ?_
      refine s_ladd rfl ?_
      refine am_s rfl rfl ?_
      refine s_inc rfl rfl ?_
      refine am_s rfl rfl ?_
      refine am_lv [(7, _), (6, _), (4, _), (3, _), (2, _), (1, _), (0, _)] rfl rfl ⟨rfl, rfl, rfl, rfl, rfl, rfl, rfl, trivial⟩ ?_
      have w1 : ∀ c, (am_w (am_w s3 53 v 1) 51 (k : Int) v) 53 c = if c = v then 1 else s2 53 c := fun c => by
        rw [am_w_a (by decide)]
        by_cases e : c = v
        · rw [e, am_w_eq, if_pos rfl]
        · rw [am_w_x e, if_neg e, eI]
      have w2 : ∀ c, (am_w (am_w s3 53 v 1) 51 (k : Int) v) 50 c = s3 50 c := fun c => by rw [am_w_a (by decide), am_w_a (by decide)]
      have w3 : ∀ c, (am_w (am_w s3 53 v 1) 51 (k : Int) v) 52 c = s3 52 c := fun c => by rw [am_w_a (by decide), am_w_a (by decide)]
      have w4 : ∀ i, (am_w (am_w s3 53 v 1) 51 (k : Int) v) 51 i = if i = (k : Int) then v else s2 51 i := fun i => by
        by_cases e : i = (k : Int)
        · rw [e, am_w_eq, if_pos rfl]
        · rw [am_w_x e, am_w_a (by decide), if_neg e, hF3 51 (by decide)]
      have hold : ∀ c, in_of (s2 53) c → s3 50 c = s2 50 c := fun c hc => g3 c (Or.inr hc)
      have hvne : ∀ c, in_of (s2 53) c → c ≠ v := fun c hc e => hv2 (e ▸ hc)
      refine kk (v, q.2 + s3 52 v) _ ⟨am_Fr_W (am_Fr_W (am_Fr_u hF2 (am_Fr_m hF3 (fun b hb => by simp at hb ⊢; omega))) (by decide)) (by decide), ?_, ?_, fun c c0 c1 => ?_, fun c c0 c1 => ?_, ⟨by show x ≤ v; omega, by show v < (n : Int); omega, by show in_of _ v; unfold in_of; rw [w1, if_pos rfl]⟩, fun c c0 c1 hc => ?_, fun c c0 c1 => ?_, ?_, by show -(((k + 1 : Nat) : Int) * 10000000000000000) ≤ q.2 + s3 52 v; rw [hb3]; omega, by show q.2 + s3 52 v ≤ ((k + 1 : Nat) : Int) * 10000000000000000; rw [hb3]; omega⟩
      · show gw_ok n x (fx s 54) (k + 1 - 1) _ _ (q.2 + s3 52 v)
        rw [show k + 1 - 1 = (k - 1) + 1 by omega]
        refine ⟨in_of (s2 53), on_of (s2 53) (s2 50), q.2, v, s3 50 v, h2, ⟨⟨by omega, hv1.2⟩, hv2, hb1, hb2, fun c2 t a1 a2 a3 a4 a5 a6 => ?_⟩, fun b b0 b1 => ?_, ?_, fun b b0 b1 hne => ?_, by rw [hb3]⟩
        · by_cases e : c2 = x
          · exact absurd h6x (e ▸ a3)
          · have y1 := hv3 c2 (by omega) a2 a3
            rcases (ecg _ _ _ _ (by omega) a2).mp (g2 c2 (by omega) a2 a3) with ⟨-, z⟩ | ⟨z1, z2, z3, z4⟩
            · exact absurd a6 (z t a4 a5)
            · have y2 := z4 t a4 a5 a6
              rw [hb3] at y1
              by_cases e2 : c2 = v
              · have y3 := hb4 t a4 a5 a6
                rw [hb3] at y3
                rw [e2]
                omega
              · omega
        · show ((am_w (am_w s3 53 v 1) 51 (k : Int) v) 53 b = 1 ↔ s2 53 b = 1 ∨ b = v)
          rw [w1]
          by_cases e : b = v <;> simp [e]
        · unfold on_of
          rw [w1, if_pos rfl, if_pos rfl, w2]
        · unfold on_of
          rw [w1, if_neg hne, w2]
          by_cases e : s2 53 b = 1
          · rw [if_pos e, if_pos e]; exact hold b e
          · rw [if_neg e, if_neg e]
      · rw [am_w_row (by decide), s_sum_w (by omega) (by omega), eI]
        have := h4 v (by omega) (by omega)
        unfold in_of at hv2
        omega
      · rw [w1]; by_cases e : c = v
        · rw [if_pos e]; exact Or.inr rfl
        · rw [if_neg e]; exact h4 c c0 c1
      · rw [w1, if_neg (by omega)]; exact h5 c c0 c1
      · show nb_d n x (fx s 54) (fun t => in_of ((am_w (am_w s3 53 v 1) 51 (k : Int) v) 53) t ∧ t ≠ v) c _ _
        rw [w2, w3]
        have hcv : c ≠ v := fun e => hc (by unfold in_of; rw [w1, if_pos e])
        have hc2 : ¬ in_of (s2 53) c := fun z => hc (by unfold in_of at z ⊢; rw [w1, if_neg hcv]; exact z)
        refine nb_congr (fun t t0 t1 => ?_) ((ecg _ _ _ _ c0 c1).mp (g2 c c0 c1 hc2))
        show in_of (s2 53) t ↔ in_of ((am_w (am_w s3 53 v 1) 51 (k : Int) v) 53) t ∧ t ≠ v
        unfold in_of
        rw [w1]
        by_cases e : t = v
        · rw [e]; unfold in_of at hv2; simp [hv2]
        · simp [e]
      · rw [w2, g3 c (Or.inl c1)]; exact h8 c c0 c1
      · obtain ⟨d1, d2, d3, d4, d5, d6⟩ := h9
        refine ⟨by rw [w4, if_neg (by omega)]; exact d1, by rw [w2, g3 x (Or.inl (Int.le_refl x))]; exact d2, fun i i0 i1 => ?_, fun c c0 c1 hc => ?_, fun i j i0 ij j1 => ?_, fun i i0 i1 => ?_⟩
        · rw [w4]
          by_cases e : i = (k : Int)
          · rw [if_pos e, w1, if_pos rfl]; exact ⟨by omega, by omega, rfl⟩
          · rw [if_neg e, w1]
            have y := d3 i i0 (by omega)
            refine ⟨y.1, y.2.1, ?_⟩
            split
            · rfl
            · exact y.2.2
        · by_cases e : c = v
          · exact ⟨k, by omega, by omega, by rw [w4, if_pos rfl, e]⟩
          · rw [w1, if_neg e] at hc
            obtain ⟨i, i0, i1, i2⟩ := d4 c c0 c1 hc
            exact ⟨i, i0, by omega, by rw [w4, if_neg (by omega)]; exact i2⟩
        · rw [w4, w4, if_neg (by omega)]
          by_cases e : j = (k : Int)
          · rw [if_pos e]
            have y := d3 i i0 (by omega)
            exact hvne _ y.2.2
          · rw [if_neg e]; exact d5 i j i0 ij (by omega)
        · by_cases e : i = (k : Int)
          · rw [w4, if_pos e, w2]
            obtain ⟨j, j0, j1, j2⟩ := d4 (s3 50 v) hb1.1 hb1.2 hb2
            exact ⟨j, j0, by omega, by rw [w4, if_neg (by omega)]; exact j2.symm⟩
          · obtain ⟨j, j0, j1, j2⟩ := d6 i i0 (by omega)
            have y := d3 i (by omega) (by omega)
            exact ⟨j, j0, j1, by rw [w4, w4, if_neg e, if_neg (by omega), w2, hold _ y.2.2]; exact j2⟩
    · rintro q s2 ⟨hF2, h2, h3, h4, h5, h6, h7, h8, h9, h10, h11⟩
      have hN : s2 25 0 = n := by rw [hF2 25 (by decide)]; exact en
      simp only
      refine am_s rfl rfl ?_
      refine am_s rfl rfl ?_
      refine s_gi (x := 0) rfl g rfl rfl rfl ?_
      refine am_s rfl rfl ?_
      refine s_isub rfl ?_
      refine s_cge rfl ⟨by omega, by omega⟩ ⟨by omega, by omega⟩ (fun c1 => ?_) (fun c1 => absurd c1 (by omega))
      refine am_s rfl rfl ?_
      have hall : ∀ c, x ≤ c → c < (n : Int) → s2 53 c = 1 := s_sum_all (k := n) (fun c c0 c1 => h4 c c0 (by omega)) hx.1 (by omega) h5 (by omega)
      refine am_r rfl rfl ⟨q.2, rfl, s2, rfl, hF2, ?_, fun c c0 c1 => hall c c0 (by omega), ?_, h8 x hx.1 (Int.le_refl x), by omega, by omega⟩
      · have e : (s 25 0 - x).toNat - 1 = n - x.toNat - 1 := by omega
        rw [e, en]
        refine gw_on hx.1 (fun c c0 c1 => ?_) h2
        unfold on_of
        by_cases z : x ≤ c
        · rw [if_pos (hall c z c1)]
        · rw [if_neg (fun y => by have := h5 c c0 (by omega); omega)]; exact (h8 c c0 (by omega)).symm
      · rw [en, show ((n : Int) - x).toNat = n - x.toNat by omega]
        exact h9
theorem t_grow163 {d : Nat} {E : am_Ev} {s : am_S} {x : Int} (g : am_Eg E) (hm : mx_ok s) (hp : pn_ok s 161) (hx : 0 ≤ x ∧ x < s 25 0) : am_wp (d + 1) 22 0 (lv_args 0 [.ref 163, .ref 25, .ref 161, .int (iI x)]) [] (am_hp E s) (fun rv h => ∃ al, rv = some (.long (lI al)) ∧ ∃ s', h = am_hp E s' ∧ am_Fr [164, 165, 166, 167] s s' ∧ gw_ok (s 25 0) x (fx s 161) ((s 25 0 - x).toNat - 1) (in_of (s' 167)) (s' 164) al ∧ (∀ c, x ≤ c → c < s 25 0 → s' 167 c = 1) ∧ od_ok (s 25 0) x ((s 25 0 - x).toNat) (s' 167) (s' 164) (s' 165) ∧ s' 164 x = -1 ∧ -200000000000000000 ≤ al ∧ al ≤ 200000000000000000) := by
  obtain ⟨n1, n2, hD⟩ := hm
  obtain ⟨n, en⟩ : ∃ n : Nat, s 25 0 = n := ⟨(s 25 0).toNat, by omega⟩
  have hfb : ∀ p q, 0 ≤ p → p < (n : Int) → 0 ≤ q → q < (n : Int) → -4000000000000000 ≤ fx s 161 p q ∧ fx s 161 p q ≤ 4000000000000000 := fun p q p0 p1 q0 q1 => by
    have h1 := hD p q p0 (by omega) q0 (by omega)
    have h2 := hp p p0 (by omega)
    have h3 := hp q q0 (by omega)
    unfold fx
    omega
  refine s_k 0 rfl rfl ?_
  refine am_s rfl rfl ?_
  refine am_lv [(4, .int (iI (((0 : Nat) : Int) : Int))), (3, .int (iI x)), (2, .ref 161), (1, .ref 25), (0, .ref 163)] rfl rfl ⟨rfl, rfl, rfl, rfl, rfl, trivial⟩ ?_
  refine s_loop (X := Unit) (fun k _ s' => am_Fr [164, 165, 166, 167] s s' ∧ ∀ c, 0 ≤ c → c < (k : Int) → s' 164 c = -1 ∧ s' 167 c = 0) (fun k _ => [(4, .int (iI (k : Int))), (3, .int (iI x)), (2, .ref 161), (1, .ref 25), (0, .ref 163)]) (hi := 20) (x := ()) (by decide) ⟨am_Fr_r _ _, fun c c0 c1 => absurd c1 (by omega)⟩ ?_ ?_
  · rintro k - s1 hk0 hk ⟨hF, hV⟩ kk
    simp only at kk ⊢
    refine am_s rfl rfl ?_
    refine s_k 20 rfl rfl ?_
    refine s_cge rfl ⟨by omega, by omega⟩ ⟨by omega, by omega⟩ (fun c1 => absurd c1 (by omega)) (fun c1 => ?_)
    refine am_s rfl rfl ?_
    refine s_gr rfl g rfl rfl ?_
    refine am_s rfl rfl ?_
    refine s_k (-1) rfl rfl ?_
    refine s_is rfl g rfl ⟨by omega, by omega⟩ (by decide) ?_
    refine am_s rfl rfl ?_
    refine s_gr rfl g rfl rfl ?_
    refine am_s rfl rfl ?_
    refine s_k 0 rfl rfl ?_
    refine s_bs rfl g rfl ⟨by omega, by omega⟩ (by decide) (Or.inl rfl) ?_
    refine s_inc rfl rfl ?_
    refine am_s rfl rfl ?_
    refine am_lv [(4, _), (3, _), (2, _), (1, _), (0, _)] rfl rfl ⟨rfl, rfl, rfl, rfl, rfl, trivial⟩ ?_
    refine kk () _ ⟨am_Fr_W (am_Fr_W hF (by decide)) (by decide), fun c c0 c1 => ?_⟩
    by_cases e : c = (k : Int)
    · rw [e, am_w_eq, am_w_a (by decide), am_w_eq]; exact ⟨rfl, rfl⟩
    · rw [am_w_x e, am_w_x e, am_w_x e, am_w_x e]; exact hV c c0 (by omega)
  · rintro - s1 ⟨hF, hV⟩
    simp only
    refine am_s rfl rfl ?_
    refine s_k 20 rfl rfl ?_
    refine s_cge rfl ⟨by omega, by omega⟩ ⟨by omega, by omega⟩ (fun c1 => ?_) (fun c1 => absurd c1 (by omega))
    refine s_kl 0 rfl rfl ?_
    refine am_s rfl rfl ?_
    refine am_s rfl rfl ?_
    refine am_s rfl rfl ?_
    refine am_s rfl rfl ?_
    refine s_gr rfl g rfl rfl ?_
    refine am_s rfl rfl ?_
    refine s_k 1 rfl rfl ?_
    refine s_bs rfl g rfl ⟨by omega, by omega⟩ (by decide) (Or.inr rfl) ?_
    refine am_s rfl rfl ?_
    refine s_gr rfl g rfl rfl ?_
    refine s_k 0 rfl rfl ?_
    refine am_s rfl rfl ?_
    refine s_is rfl g rfl ⟨by omega, by omega⟩ (by decide) ?_
    refine s_k 1 rfl rfl ?_
    refine am_s rfl rfl ?_
    have hin : ∀ c, 0 ≤ c → c < 20 → am_w (am_w s1 167 x 1) 165 0 x 167 c = if c = x then 1 else 0 := fun c c0 c1 => by
      rw [am_w_a (by decide)]
      by_cases e : c = x
      · rw [e, am_w_eq, if_pos rfl]
      · rw [am_w_x e, if_neg e]; exact (hV c c0 c1).2
    have hhu : ∀ c, 0 ≤ c → c < 20 → am_w (am_w s1 167 x 1) 165 0 x 164 c = -1 := fun c c0 c1 => by
      rw [am_w_a (by decide), am_w_a (by decide)]; exact (hV c c0 c1).1
    refine am_lv [(7, .int (iI (((1 : Nat) : Int) : Int))), (6, .int (iI x)), (4, .long (lI 0)), (3, .int (iI x)), (2, .ref 161), (1, .ref 25), (0, .ref 163)] rfl rfl ⟨rfl, rfl, rfl, rfl, rfl, rfl, rfl, trivial⟩ ?_
    refine s_loop (X := Int × Int) (fun k q s' => am_Fr [164, 165, 166, 167] s s' ∧ gw_ok n x (fx s 161) (k - 1) (in_of (s' 167)) (on_of (s' 167) (s' 164)) q.2 ∧ s_sum (s' 167) n = (k : Int) ∧ (∀ c, 0 ≤ c → c < 20 → s' 167 c = 0 ∨ s' 167 c = 1) ∧ (∀ c, 0 ≤ c → c < x → s' 167 c = 0) ∧ (x ≤ q.1 ∧ q.1 < n ∧ in_of (s' 167) q.1) ∧ (∀ c, x < c → c < (n : Int) → ¬ in_of (s' 167) c → nb_d n x (fx s 161) (fun t => in_of (s' 167) t ∧ t ≠ q.1) c (s' 164 c) (s' 166 c)) ∧ (∀ c, 0 ≤ c → c ≤ x → s' 164 c = -1) ∧ od_ok n x k (s' 167) (s' 164) (s' 165) ∧ -((k : Int) * 10000000000000000) ≤ q.2 ∧ q.2 ≤ (k : Int) * 10000000000000000) (fun k q => [(7, .int (iI (k : Int))), (6, .int (iI q.1)), (4, .long (lI q.2)), (3, .int (iI x)), (2, .ref 161), (1, .ref 25), (0, .ref 163)]) (lo := 1) (hi := n - x.toNat) (x := (x, 0)) (by omega) ⟨am_Fr_W (am_Fr_W hF (by decide)) (by decide), ⟨fun c c0 c1 => ?e1, fun c c0 c1 => ?e2, rfl⟩, ?e3, fun c c0 c1 => ?e4, fun c c0 c1 => ?e5, ⟨Int.le_refl x, by omega, ?e6⟩, fun c c0 c1 hc => ?e7, fun c c0 c1 => hhu c c0 (by omega), ⟨?e8, hhu x hx.1 (by omega), fun i i0 i1 => ?e9, fun c c0 c1 hc => ?e10, fun i j i0 ij j1 => absurd j1 (by omega), fun i i0 i1 => absurd i1 (by omega)⟩, by simp only; omega, by simp only; omega⟩ ?_ ?_
    case e1 => unfold in_of; rw [hin c c0 (by omega)]; by_cases e : c = x <;> simp [e]
    case e2 => unfold on_of; rw [hhu c c0 (by omega)]; split <;> rfl
    case e3 =>
      unfold s_sum
      obtain ⟨x0, rfl⟩ := Int.eq_ofNat_of_zero_le hx.1
      rw [mt_s_one (g := fun _ => 0) (j := x0) (by omega) (fun i hi hne => by rw [hin i (by omega) (by omega), if_neg (by omega)]), mt_s_zero, hin x0 (by omega) (by omega), if_pos rfl]
      omega
    case e4 => rw [hin c c0 c1]; by_cases e : c = x <;> simp [e]
    case e5 => rw [hin c c0 (by omega), if_neg (by omega)]
    case e6 => unfold in_of; rw [hin x hx.1 (by omega), if_pos rfl]
    case e7 => exact Or.inl ⟨hhu c (by omega) (by omega), fun t t0 t1 ht => by
      have h1 := ht.1
      unfold in_of at h1
      rw [hin t (by omega) (by omega), if_neg (fun z => ht.2 z)] at h1
      omega⟩
    case e8 => rw [am_w_eq]
    case e9 =>
      have e0 : i = 0 := by omega
      rw [e0, am_w_eq, hin x hx.1 (by omega), if_pos rfl]
      exact ⟨Int.le_refl x, by omega, rfl⟩
    case e10 =>
      rw [hin c (by omega) (by omega)] at hc
      by_cases e : c = x
      · exact ⟨0, Int.le_refl 0, by omega, by rw [am_w_eq, e]⟩
      · rw [if_neg e] at hc; omega
    · rintro k q s2 hk0 hk ⟨hF2, h2, h3, h4, h5, h6, h7, h8, h9, h10, h11⟩ kk
      have hN : s2 25 0 = n := by rw [hF2 25 (by decide)]; exact en
      have h6x : in_of (s2 167) x := by
        have y := (h9.2.2.1 0 (Int.le_refl 0) (by omega)).2.2
        rw [h9.1] at y
        exact y
      simp only at kk ⊢
      refine am_s rfl rfl ?_
      refine am_s rfl rfl ?_
      refine s_gi (x := 0) rfl g rfl rfl rfl ?_
      refine am_s rfl rfl ?_
      refine s_isub rfl ?_
      refine s_cge rfl ⟨by omega, by omega⟩ ⟨by omega, by omega⟩ (fun c1 => absurd c1 (by omega)) (fun c1 => ?_)
      refine am_s rfl rfl ?_
      refine am_s rfl rfl ?_
      refine am_s rfl rfl ?_
      refine am_s rfl rfl ?_
      refine am_s rfl rfl ?_
      have efx : ∀ p q, 0 ≤ p → p < 20 → fx s2 161 p q = fx s 161 p q := fun p q p0 p1 => by
        unfold fx mx
        rw [hF2 161 (by decide), hF2 (26 + 1 + p.toNat) (fun z => by simp at z; omega)]
      have emx : mx_ok s2 := ⟨by omega, by omega, fun a b a0 a1 b0 b1 => by
        have := hD a b a0 (by omega) b0 (by omega)
        unfold mx at this ⊢
        rw [hF2 (26 + 1 + a.toNat) (fun z => by simp at z; omega)]
        exact this⟩
      have epn : pn_ok s2 161 := by
        intro c c0 c1
        rw [hF2 161 (by decide)]
        exact hp c c0 c1
      have ecg : ∀ (J : Int → Prop) (c hu ne : Int), x < c → c < (n : Int) → (nb_d n x (fx s2 161) J c hu ne ↔ nb_d n x (fx s 161) J c hu ne) := fun J c hu ne c0 c1 => by
        unfold nb_d
        constructor
        · rintro (⟨z1, z2⟩ | ⟨z1, z2, z3, z4⟩)
          · exact Or.inl ⟨z1, z2⟩
          · exact Or.inr ⟨z1, z2, by rw [← efx hu c (by omega) (by omega)]; exact z3, fun t t0 t1 ht => by rw [← efx t c (by omega) (by omega)]; exact z4 t t0 t1 ht⟩
        · rintro (⟨z1, z2⟩ | ⟨z1, z2, z3, z4⟩)
          · exact Or.inl ⟨z1, z2⟩
          · exact Or.inr ⟨z1, z2, by rw [efx hu c (by omega) (by omega)]; exact z3, fun t t0 t1 ht => by rw [efx t c (by omega) (by omega)]; exact z4 t t0 t1 ht⟩
      refine s_cv [_, _, _, _] [] rfl g (Or.inl rfl) rfl rfl (Nat.le_of_ble_eq_true rfl) rfl rfl (t_next163 g emx epn (x := x) (la := q.1) ⟨hx.1, by omega⟩ ⟨h6.1, by omega⟩ (fun c c0 c1 => h4 c c0 (by omega)) h6.2.2 (fun c c0 c1 hc => by rw [hN] at c1 ⊢; exact (ecg _ _ _ _ c0 c1).mpr (h7 c c0 c1 hc))) ?_
      rintro rv h1 ⟨v, rfl, s3, rfl, hF3, g2, g3, g4⟩
      rw [hN] at g2 g4
      have eI : s3 167 = s2 167 := hF3 167 (by decide)
      have hv : (x < v ∧ v < (n : Int)) ∧ ¬ in_of (s2 167) v ∧ ∀ c, x < c → c < (n : Int) → ¬ in_of (s2 167) c → s3 166 v < s3 166 c ∨ s3 166 v = s3 166 c ∧ v ≤ c := by
        rcases g4 with ⟨-, z⟩ | z
        · exfalso
          have hall : ∀ c, x ≤ c → c < (n : Int) → s2 167 c = 1 := fun c c0 c1 => by
            by_cases e : c = x
            · rw [e]
              have h9 := h9
              have := (h9.2.2.1 0 (Int.le_refl 0) (by omega)).2.2
              rw [h9.1] at this
              exact this
            · exact z c (by omega) c1
          have := s_sum_full (k := n) hx.1 (by omega) hall h5
          omega
        · exact z
      obtain ⟨hv1, hv2, hv3⟩ := hv
      have hb := (ecg _ _ _ _ hv1.1 hv1.2).mp (g2 v hv1.1 hv1.2 hv2)
      have hb : (x ≤ s3 164 v ∧ s3 164 v < (n : Int)) ∧ in_of (s2 167) (s3 164 v) ∧ s3 166 v = fx s 161 (s3 164 v) v ∧ ∀ t, x ≤ t → t < (n : Int) → in_of (s2 167) t → s3 166 v < fx s 161 t v ∨ s3 166 v = fx s 161 t v ∧ s3 164 v ≤ t := by
        rcases hb with ⟨-, z⟩ | z
        · exact absurd h6.2.2 (z q.1 h6.1 h6.2.1)
        · exact z
      obtain ⟨hb1, hb2, hb3, hb4⟩ := hb
      have hfv := hfb (s3 164 v) v (by omega) (by omega) (by omega) (by omega)
      refine am_s rfl rfl ?_
      refine am_s rfl rfl ?_
      refine s_gr rfl g rfl rfl ?_
      refine am_s rfl rfl ?_
      refine s_k 1 rfl rfl ?_
      refine s_bs rfl g rfl ⟨by omega, by omega⟩ (by decide) (Or.inr rfl) ?_
      refine am_s rfl rfl ?_
      refine s_gr rfl g rfl rfl ?_
      refine am_s rfl rfl ?_
      refine am_s rfl rfl ?_
      refine s_is rfl g rfl ⟨by omega, by omega⟩ (by decide) ?_
      refine am_s rfl rfl ?_
      refine am_s rfl rfl ?_
      refine s_gr rfl g rfl rfl ?_
      refine am_s rfl rfl ?_
      refine s_la rfl g rfl ⟨by omega, by omega⟩ (by decide) ?_
      refine s_ladd rfl ?_
      refine am_s rfl rfl ?_
      refine s_inc rfl rfl ?_
      refine am_s rfl rfl ?_
      refine am_lv [(7, _), (6, _), (4, _), (3, _), (2, _), (1, _), (0, _)] rfl rfl ⟨rfl, rfl, rfl, rfl, rfl, rfl, rfl, trivial⟩ ?_
      have w1 : ∀ c, (am_w (am_w s3 167 v 1) 165 (k : Int) v) 167 c = if c = v then 1 else s2 167 c := fun c => by
        rw [am_w_a (by decide)]
        by_cases e : c = v
        · rw [e, am_w_eq, if_pos rfl]
        · rw [am_w_x e, if_neg e, eI]
      have w2 : ∀ c, (am_w (am_w s3 167 v 1) 165 (k : Int) v) 164 c = s3 164 c := fun c => by rw [am_w_a (by decide), am_w_a (by decide)]
      have w3 : ∀ c, (am_w (am_w s3 167 v 1) 165 (k : Int) v) 166 c = s3 166 c := fun c => by rw [am_w_a (by decide), am_w_a (by decide)]
      have w4 : ∀ i, (am_w (am_w s3 167 v 1) 165 (k : Int) v) 165 i = if i = (k : Int) then v else s2 165 i := fun i => by
        by_cases e : i = (k : Int)
        · rw [e, am_w_eq, if_pos rfl]
        · rw [am_w_x e, am_w_a (by decide), if_neg e, hF3 165 (by decide)]
      have hold : ∀ c, in_of (s2 167) c → s3 164 c = s2 164 c := fun c hc => g3 c (Or.inr hc)
      have hvne : ∀ c, in_of (s2 167) c → c ≠ v := fun c hc e => hv2 (e ▸ hc)
      refine kk (v, q.2 + s3 166 v) _ ⟨am_Fr_W (am_Fr_W (am_Fr_u hF2 (am_Fr_m hF3 (fun b hb => by simp at hb ⊢; omega))) (by decide)) (by decide), ?_, ?_, fun c c0 c1 => ?_, fun c c0 c1 => ?_, ⟨by show x ≤ v; omega, by show v < (n : Int); omega, by show in_of _ v; unfold in_of; rw [w1, if_pos rfl]⟩, fun c c0 c1 hc => ?_, fun c c0 c1 => ?_, ?_, by show -(((k + 1 : Nat) : Int) * 10000000000000000) ≤ q.2 + s3 166 v; rw [hb3]; omega, by show q.2 + s3 166 v ≤ ((k + 1 : Nat) : Int) * 10000000000000000; rw [hb3]; omega⟩
      · show gw_ok n x (fx s 161) (k + 1 - 1) _ _ (q.2 + s3 166 v)
        rw [show k + 1 - 1 = (k - 1) + 1 by omega]
        refine ⟨in_of (s2 167), on_of (s2 167) (s2 164), q.2, v, s3 164 v, h2, ⟨⟨by omega, hv1.2⟩, hv2, hb1, hb2, fun c2 t a1 a2 a3 a4 a5 a6 => ?_⟩, fun b b0 b1 => ?_, ?_, fun b b0 b1 hne => ?_, by rw [hb3]⟩
        · by_cases e : c2 = x
          · exact absurd h6x (e ▸ a3)
          · have y1 := hv3 c2 (by omega) a2 a3
            rcases (ecg _ _ _ _ (by omega) a2).mp (g2 c2 (by omega) a2 a3) with ⟨-, z⟩ | ⟨z1, z2, z3, z4⟩
            · exact absurd a6 (z t a4 a5)
            · have y2 := z4 t a4 a5 a6
              rw [hb3] at y1
              by_cases e2 : c2 = v
              · have y3 := hb4 t a4 a5 a6
                rw [hb3] at y3
                rw [e2]
                omega
              · omega
        · show ((am_w (am_w s3 167 v 1) 165 (k : Int) v) 167 b = 1 ↔ s2 167 b = 1 ∨ b = v)
          rw [w1]
          by_cases e : b = v <;> simp [e]
        · unfold on_of
          rw [w1, if_pos rfl, if_pos rfl, w2]
        · unfold on_of
          rw [w1, if_neg hne, w2]
          by_cases e : s2 167 b = 1
          · rw [if_pos e, if_pos e]; exact hold b e
          · rw [if_neg e, if_neg e]
      · rw [am_w_row (by decide), s_sum_w (by omega) (by omega), eI]
        have := h4 v (by omega) (by omega)
        unfold in_of at hv2
        omega
      · rw [w1]; by_cases e : c = v
        · rw [if_pos e]; exact Or.inr rfl
        · rw [if_neg e]; exact h4 c c0 c1
      · rw [w1, if_neg (by omega)]; exact h5 c c0 c1
      · show nb_d n x (fx s 161) (fun t => in_of ((am_w (am_w s3 167 v 1) 165 (k : Int) v) 167) t ∧ t ≠ v) c _ _
        rw [w2, w3]
        have hcv : c ≠ v := fun e => hc (by unfold in_of; rw [w1, if_pos e])
        have hc2 : ¬ in_of (s2 167) c := fun z => hc (by unfold in_of at z ⊢; rw [w1, if_neg hcv]; exact z)
        refine nb_congr (fun t t0 t1 => ?_) ((ecg _ _ _ _ c0 c1).mp (g2 c c0 c1 hc2))
        show in_of (s2 167) t ↔ in_of ((am_w (am_w s3 167 v 1) 165 (k : Int) v) 167) t ∧ t ≠ v
        unfold in_of
        rw [w1]
        by_cases e : t = v
        · rw [e]; unfold in_of at hv2; simp [hv2]
        · simp [e]
      · rw [w2, g3 c (Or.inl c1)]; exact h8 c c0 c1
      · obtain ⟨d1, d2, d3, d4, d5, d6⟩ := h9
        refine ⟨by rw [w4, if_neg (by omega)]; exact d1, by rw [w2, g3 x (Or.inl (Int.le_refl x))]; exact d2, fun i i0 i1 => ?_, fun c c0 c1 hc => ?_, fun i j i0 ij j1 => ?_, fun i i0 i1 => ?_⟩
        · rw [w4]
          by_cases e : i = (k : Int)
          · rw [if_pos e, w1, if_pos rfl]; exact ⟨by omega, by omega, rfl⟩
          · rw [if_neg e, w1]
            have y := d3 i i0 (by omega)
            refine ⟨y.1, y.2.1, ?_⟩
            split
            · rfl
            · exact y.2.2
        · by_cases e : c = v
          · exact ⟨k, by omega, by omega, by rw [w4, if_pos rfl, e]⟩
          · rw [w1, if_neg e] at hc
            obtain ⟨i, i0, i1, i2⟩ := d4 c c0 c1 hc
            exact ⟨i, i0, by omega, by rw [w4, if_neg (by omega)]; exact i2⟩
        · rw [w4, w4, if_neg (by omega)]
          by_cases e : j = (k : Int)
          · rw [if_pos e]
            have y := d3 i i0 (by omega)
            exact hvne _ y.2.2
          · rw [if_neg e]; exact d5 i j i0 ij (by omega)
        · by_cases e : i = (k : Int)
          · rw [w4, if_pos e, w2]
            obtain ⟨j, j0, j1, j2⟩ := d4 (s3 164 v) hb1.1 hb1.2 hb2
            exact ⟨j, j0, by omega, by rw [w4, if_neg (by omega)]; exact j2.symm⟩
          · obtain ⟨j, j0, j1, j2⟩ := d6 i i0 (by omega)
            have y := d3 i (by omega) (by omega)
            exact ⟨j, j0, j1, by rw [w4, w4, if_neg e, if_neg (by omega), w2, hold _ y.2.2]; exact j2⟩
    · rintro q s2 ⟨hF2, h2, h3, h4, h5, h6, h7, h8, h9, h10, h11⟩
      have hN : s2 25 0 = n := by rw [hF2 25 (by decide)]; exact en
      simp only
      refine am_s rfl rfl ?_
      refine am_s rfl rfl ?_
      refine s_gi (x := 0) rfl g rfl rfl rfl ?_
      refine am_s rfl rfl ?_
      refine s_isub rfl ?_
      refine s_cge rfl ⟨by omega, by omega⟩ ⟨by omega, by omega⟩ (fun c1 => ?_) (fun c1 => absurd c1 (by omega))
      refine am_s rfl rfl ?_
      have hall : ∀ c, x ≤ c → c < (n : Int) → s2 167 c = 1 := s_sum_all (k := n) (fun c c0 c1 => h4 c c0 (by omega)) hx.1 (by omega) h5 (by omega)
      refine am_r rfl rfl ⟨q.2, rfl, s2, rfl, hF2, ?_, fun c c0 c1 => hall c c0 (by omega), ?_, h8 x hx.1 (Int.le_refl x), by omega, by omega⟩
      · have e : (s 25 0 - x).toNat - 1 = n - x.toNat - 1 := by omega
        rw [e, en]
        refine gw_on hx.1 (fun c c0 c1 => ?_) h2
        unfold on_of
        by_cases z : x ≤ c
        · rw [if_pos (hall c z c1)]
        · rw [if_neg (fun y => by have := h5 c c0 (by omega); omega)]; exact (h8 c c0 (by omega)).symm
      · rw [en, show ((n : Int) - x).toNat = n - x.toNat by omega]
        exact h9
