/-- who is used: the first k stops -/
def us_of (n k : Int) (u t : Int → Int) : Prop := (∀ y, 0 ≤ y → y < n → u y = 0 ∨ u y = 1) ∧ ∀ y, 0 ≤ y → y < n → (u y = 1 ↔ ∃ j, 0 ≤ j ∧ j < k ∧ t j = y)
theorem us_more {n k : Int} {u t u2 t2 : Int → Int} {v : Int} (hk : 0 ≤ k) (h : us_of n k u t) (eu : ∀ y, 0 ≤ y → y < n → u2 y = if y = v then 1 else u y) (et : ∀ j, 0 ≤ j → j < k → t2 j = t j) (ev : t2 k = v) : us_of n (k + 1) u2 t2 := by
  refine ⟨fun y y0 y1 => ?_, fun y y0 y1 => ?_⟩
  · rw [eu y y0 y1]
    split
    · exact Or.inr rfl
    · exact h.1 y y0 y1
  · rw [eu y y0 y1]
    by_cases e : y = v
    · rw [if_pos e]
      exact ⟨fun _ => ⟨k, hk, by omega, ev.trans e.symm⟩, fun _ => rfl⟩
    · rw [if_neg e, h.2 y y0 y1]
      constructor
      · rintro ⟨j, j0, j1, j2⟩
        exact ⟨j, j0, by omega, by rw [et j j0 j1]; exact j2⟩
      · rintro ⟨j, j0, j1, j2⟩
        by_cases ej : j = k
        · rw [ej, ev] at j2
          exact absurd j2.symm e
        · exact ⟨j, j0, by omega, by rw [← et j j0 (by omega)]; exact j2⟩
/-- one stop more -/
theorem nt_more {n k : Int} {D : Int → Int → Int} {st v : Int} {t t2 : Int → Int} {u : Int → Int} (hk : 0 < k) (h : nt_ok n D st t k) (hu : us_of n k u t) (hv : (0 ≤ v ∧ v < n) ∧ u v = 0 ∧ ∀ b, 0 ≤ b → b < n → u b = 0 → D (t (k - 1)) v < D (t (k - 1)) b ∨ D (t (k - 1)) v = D (t (k - 1)) b ∧ v ≤ b) (et : ∀ j, 0 ≤ j → j < k → t2 j = t j) (ev : t2 k = v) : nt_ok n D st t2 (k + 1) := by
  obtain ⟨a1, a2, a3, a4⟩ := h
  have hne : ∀ j, 0 ≤ j → j < k → t j ≠ v := fun j j0 j1 e => by
    have := (hu.2 v hv.1.1 hv.1.2).mpr ⟨j, j0, j1, e⟩
    omega
  refine ⟨by rw [et 0 (Int.le_refl 0) hk]; exact a1, fun i i0 i1 => ?_, fun i j i0 ij j1 => ?_, fun i i0 i1 b b0 b1 hb => ?_⟩
  · by_cases e : i = k
    · rw [e, ev]; exact hv.1
    · rw [et i i0 (by omega)]; exact a2 i i0 (by omega)
  · rw [et i i0 (by omega)]
    by_cases e : j = k
    · rw [e, ev]; exact hne i i0 (by omega)
    · rw [et j (by omega) (by omega)]; exact a3 i j i0 ij (by omega)
  · rw [et (i - 1) (by omega) (by omega)]
    by_cases e : i = k
    · subst e
      rw [ev]
      refine hv.2.2 b b0 b1 ?_
      rcases hu.1 b b0 b1 with z | z
      · exact z
      · obtain ⟨j, j0, j1, j2⟩ := (hu.2 b b0 b1).mp z
        exact absurd (by rw [et j j0 j1]; exact j2) (hb j j0 j1)
    · rw [et i (by omega) (by omega)]
      exact a4 i i0 (by omega) b b0 b1 (fun j j0 j1 => by rw [← et j j0 (by omega)]; exact hb j j0 j1)
theorem us_left {n : Nat} {k : Int} {u : Int → Int} (hk : k < n) (h01 : ∀ y, 0 ≤ y → y < (n : Int) → u y = 0 ∨ u y = 1) (hs : s_sum u n = k) : ∃ y, 0 ≤ y ∧ y < (n : Int) ∧ u y = 0 := by
  by_cases e : ∃ y, 0 ≤ y ∧ y < (n : Int) ∧ u y = 0
  · exact e
  · exfalso
    have hall : ∀ c, 0 ≤ c → c < (n : Int) → u c = 1 := fun c c0 c1 => by
      rcases h01 c c0 c1 with z | z
      · exact absurd ⟨c, c0, c1, z⟩ e
      · exact z
    have := s_sum_full (k := n) (Int.le_refl 0) (by omega) hall (fun c c0 c1 => by omega)
    omega
theorem us_all {n : Nat} {u t : Int → Int} (h : us_of n n u t) (hs : s_sum u n = n) {y : Int} (y0 : 0 ≤ y) (y1 : y < (n : Int)) : ∃ j, 0 ≤ j ∧ j < (n : Int) ∧ t j = y :=
  (h.2 y y0 y1).mp (s_sum_all (k := n) h.1 (Int.le_refl 0) (by omega) (fun c c0 c1 => by omega) (by omega) y y0 y1)
theorem t_goNearest {d : Nat} {E : am_Ev} {s : am_S} {st : Int} (g : am_Eg E) (hm : mx_ok s) (hc : s 151 1 = s 25 0) (hst : 0 ≤ st ∧ st < s 25 0) : am_wp (d + 3) 10 0 (lv_args 0 [.ref 153, .ref 25, .ref 151, .int (iI st)]) [] (am_hp E s) (fun rv h => rv = none ∧ ∃ (p : Int) (t : Int → Int) (s' : am_S), h = am_hp E s' ∧ (0 ≤ p ∧ p < s 25 0) ∧ t p = 0 ∧ am_Fr [152, 154] s s' ∧ nt_ok (s 25 0) (mx s) st t (s 25 0) ∧ rt (s 25 0) p t (s' 152)) := by
  obtain ⟨n1, n2, hD⟩ := hm
  obtain ⟨n, en⟩ : ∃ n : Nat, s 25 0 = n := ⟨(s 25 0).toNat, by omega⟩
  have ec : s 151 1 = n := hc.trans en
  refine am_s rfl rfl ?_
  refine s_cv [] [] rfl g (Or.inl rfl) rfl rfl (Nat.le_of_ble_eq_true rfl) rfl rfl (t_useNone g) ?_
  rintro rv h1 ⟨rfl, s0, rfl, hF0, hV0⟩
  refine am_s rfl rfl ?_
  refine am_s rfl rfl ?_
  refine s_k 0 rfl rfl ?_
  refine am_s rfl rfl ?_
  refine am_lv [(5, .int (iI (((0 : Nat) : Int) : Int))), (4, .int (iI st)), (3, .int (iI st)), (2, .ref 151), (1, .ref 25), (0, .ref 153)] rfl rfl ⟨rfl, rfl, rfl, rfl, rfl, rfl, trivial⟩ ?_
  refine s_loop (X := Int) (fun k v s' => am_Fr [152, 154] s s' ∧ us_of n k (s' 154) (s' 152) ∧ s_sum (s' 154) n = (k : Int) ∧ (((k : Int) = 0 ∧ v = st) ∨ (0 < (k : Int) ∧ nt_ok n (mx s) st (s' 152) k ∧ ((k : Int) < n → (0 ≤ v ∧ v < (n : Int)) ∧ s' 154 v = 0 ∧ ∀ b, 0 ≤ b → b < (n : Int) → s' 154 b = 0 → mx s (s' 152 ((k : Int) - 1)) v < mx s (s' 152 ((k : Int) - 1)) b ∨ mx s (s' 152 ((k : Int) - 1)) v = mx s (s' 152 ((k : Int) - 1)) b ∧ v ≤ b)))) (fun k v => [(5, .int (iI (k : Int))), (4, .int (iI v)), (3, .int (iI st)), (2, .ref 151), (1, .ref 25), (0, .ref 153)]) (hi := n) (x := st) (Nat.zero_le n) ⟨am_Fr_m hF0 (by decide), ⟨fun y y0 y1 => Or.inl (hV0 y y0 (by omega)), fun y y0 y1 => ⟨fun z => by have := hV0 y y0 (by omega); omega, fun ⟨j, j0, j1, _⟩ => by omega⟩⟩, ?s0, Or.inl ⟨rfl, rfl⟩⟩ ?_ ?_
  case s0 =>
    unfold s_sum
    rw [mt_s_congr (g := fun _ => 0) (fun i hi => hV0 i (by omega) (by omega)), mt_s_zero]
    rfl
  · rintro k v s1 hk0 hk ⟨hF, h2, h3, h4⟩ kk
    have hvr : 0 ≤ v ∧ v < (n : Int) := by
      rcases h4 with ⟨-, z⟩ | ⟨-, -, z⟩
      · rw [z]; exact ⟨hst.1, by omega⟩
      · exact (z (by omega)).1
    have hv0 : s1 154 v = 0 := by
      rcases h4 with ⟨z, -⟩ | ⟨-, -, z⟩
      · rcases h2.1 v hvr.1 hvr.2 with y | y
        · exact y
        · obtain ⟨j, j0, j1, -⟩ := (h2.2 v hvr.1 hvr.2).mp y
          omega
      · exact (z (by omega)).2.1
    have e25 : s1 25 0 = n := by rw [hF 25 (by decide)]; exact en
    have e151 : s1 151 1 = n := by rw [hF 151 (by decide)]; exact ec
    have emx : ∀ x y, 0 ≤ x → x < 20 → mx (am_w (am_w s1 152 (k : Int) v) 154 v 1) x y = mx s x y := fun x y x0 x1 => by
      unfold mx
      rw [am_w_a (by omega), am_w_a (by omega), hF (26 + 1 + x.toNat) (fun z => by simp at z; omega)]
    simp only at kk ⊢
    refine am_s rfl rfl ?_
    refine am_s rfl rfl ?_
    refine s_gi (x := 1) rfl g rfl rfl rfl ?_
    refine s_cge rfl ⟨by omega, by omega⟩ ⟨by omega, by omega⟩ (fun c1 => absurd c1 (by omega)) (fun c1 => ?_)
    refine am_s rfl rfl ?_
    refine s_gr rfl g rfl rfl ?_
    refine am_s rfl rfl ?_
    refine am_s rfl rfl ?_
    refine s_is rfl g rfl ⟨by omega, by omega⟩ (by decide) ?_
    refine am_s rfl rfl ?_
    refine s_gr rfl g rfl rfl ?_
    refine am_s rfl rfl ?_
    refine s_k 1 rfl rfl ?_
    refine s_bs rfl g rfl ⟨by omega, by omega⟩ (by decide) (Or.inr rfl) ?_
    refine am_s rfl rfl ?_
    refine am_s rfl rfl ?_
    refine am_s rfl rfl ?_
    have w1 : ∀ y, (am_w (am_w s1 152 (k : Int) v) 154 v 1) 154 y = if y = v then 1 else s1 154 y := fun y => by
      by_cases e : y = v
      · rw [e, am_w_eq, if_pos rfl]
      · rw [am_w_x e, am_w_a (by decide), if_neg e]
    have w2 : ∀ y, (am_w (am_w s1 152 (k : Int) v) 154 v 1) 152 y = if y = (k : Int) then v else s1 152 y := fun y => by
      rw [am_w_a (by decide)]
      by_cases e : y = (k : Int)
      · rw [e, am_w_eq, if_pos rfl]
      · rw [am_w_x e, if_neg e]
    have hus : us_of n ((k : Int) + 1) ((am_w (am_w s1 152 (k : Int) v) 154 v 1) 154) ((am_w (am_w s1 152 (k : Int) v) 154 v 1) 152) := us_more (by omega) h2 (fun y _ _ => w1 y) (fun j j0 j1 => by rw [w2, if_neg (by omega)]) (by rw [w2, if_pos rfl])
    have hnt : nt_ok n (mx s) st ((am_w (am_w s1 152 (k : Int) v) 154 v 1) 152) ((k : Int) + 1) := by
      rcases h4 with ⟨z1, z2⟩ | ⟨z1, z2, z3⟩
      · refine ⟨by rw [w2, if_pos (by omega)]; exact z2, fun i i0 i1 => ?_, fun i j i0 ij j1 => by omega, fun i i0 i1 => by omega⟩
        rw [w2, if_pos (by omega)]; exact hvr
      · exact nt_more z1 z2 h2 (z3 (by omega)) (fun j j0 j1 => by rw [w2, if_neg (by omega)]) (by rw [w2, if_pos rfl])
    have hsm : s_sum ((am_w (am_w s1 152 (k : Int) v) 154 v 1) 154) n = (k : Int) + 1 := by
      rw [s_sum_w (by omega) (by omega), am_w_row (by decide)]
      omega
    have hmx : mx_ok (am_w (am_w s1 152 (k : Int) v) 154 v 1) := ⟨by show 1 ≤ s1 25 0; omega, by show s1 25 0 ≤ 20; omega, fun a b a0 a1 b0 b1 => by
      have a1 : a < s1 25 0 := a1
      have b1 : b < s1 25 0 := b1
      rw [emx a b a0 (by omega)]
      exact hD a b a0 (by omega) b0 (by omega)⟩
    refine s_cv [_, _] [] rfl g (Or.inl rfl) rfl rfl (Nat.le_of_ble_eq_true rfl) rfl rfl (t_nearest g hmx (c := v) ⟨hvr.1, by show v < s1 25 0; omega⟩ (fun y y0 y1 => hus.1 y y0 (by have : y < s1 25 0 := y1; omega))) ?_
    rintro rv h1 ⟨rfl, v2, rfl, hnr⟩
    have hnr : nr_at n (mx (am_w (am_w s1 152 (k : Int) v) 154 v 1)) (fun b => (am_w (am_w s1 152 (k : Int) v) 154 v 1) 154 b = 0) v n v2 := by rw [← e25]; exact hnr
    refine am_s rfl rfl ?_
    refine s_inc rfl rfl ?_
    refine am_s rfl rfl ?_
    refine am_lv [(5, _), (4, _), (3, _), (2, _), (1, _), (0, _)] rfl rfl ⟨rfl, rfl, rfl, rfl, rfl, rfl, trivial⟩ ?_
    refine kk v2 _ ⟨am_Fr_W (am_Fr_W hF (by decide)) (by decide), hus, hsm, Or.inr ⟨by omega, hnt, fun hlt => ?_⟩⟩
    have e0 : (am_w (am_w s1 152 (k : Int) v) 154 v 1) 152 (((k + 1 : Nat) : Int) - 1) = v := by rw [show ((k + 1 : Nat) : Int) - 1 = (k : Int) by omega, w2, if_pos rfl]
    rw [e0]
    rcases hnr with ⟨-, z⟩ | ⟨z1, z2, z3⟩
    · obtain ⟨y, y0, y1, y2⟩ := us_left (k := (k : Int) + 1) (by omega) hus.1 hsm
      exact absurd y2 (z y y0 y1)
    · refine ⟨z1, z2, fun b b0 b1 hb => ?_⟩
      have := z3 b b0 b1 hb
      rw [emx v v2 hvr.1 (by omega), emx v b hvr.1 (by omega)] at this
      exact this
  · rintro v s1 ⟨hF, h2, h3, h4⟩
    have e25 : s1 25 0 = n := by rw [hF 25 (by decide)]; exact en
    have e151 : s1 151 1 = n := by rw [hF 151 (by decide)]; exact ec
    simp only
    refine am_s rfl rfl ?_
    refine am_s rfl rfl ?_
    refine s_gi (x := 1) rfl g rfl rfl rfl ?_
    refine s_cge rfl ⟨by omega, by omega⟩ ⟨by omega, by omega⟩ (fun c1 => ?_) (fun c1 => absurd c1 (by omega))
    refine am_s rfl rfl ?_
    have hnt : nt_ok n (mx s) st (s1 152) n := by
      rcases h4 with ⟨z, -⟩ | ⟨-, z, -⟩
      · omega
      · exact z
    refine s_cv [] [] rfl g (Or.inl rfl) rfl rfl (Nat.le_of_ble_eq_true rfl) rfl rfl (t_front g ⟨by omega, by omega⟩ (fun i i0 i1 => by have := hnt.2.1 i i0 (by omega); omega) (by obtain ⟨j, j0, j1, j2⟩ := us_all h2 h3 (y := 0) (Int.le_refl 0) (by omega); exact ⟨j, j0, by omega, j2⟩)) ?_
    rintro rv h1 ⟨rfl, p, s2, rfl, p0, p1, p2, hF2, hV2⟩
    rw [e151] at p0 hV2
    refine am_r rfl rfl ⟨rfl, p, s1 152, s2, rfl, by rw [en]; exact p0, p1, am_Fr_u hF (am_Fr_m hF2 (by decide)), by rw [en]; exact hnt, by rw [en]; exact sh_rt p0 hV2⟩
theorem t_byNearest {d : Nat} {E : am_Ev} {s : am_S} {st : Int} (g : am_Eg E) (hm : my_ok s) (hst : 0 ≤ st ∧ st < s 168 1) : am_wp (d + 1) 200 0 (lv_args 0 [.ref 168, .int (iI st)]) [] (am_hp E s) (fun rv h => rv = none ∧ ∃ s', h = am_hp E s' ∧ am_Fr [183, 186] s s' ∧ nt_ok (s 168 1) (my s) st (s' 183) (s 168 1) ∧ ∃ y, 0 ≤ y ∧ y < s 168 1 ∧ s' 183 y = 0) := by
  obtain ⟨n1, n2, hD⟩ := hm
  obtain ⟨n, en⟩ : ∃ n : Nat, s 168 1 = n := ⟨(s 168 1).toNat, by omega⟩
  refine s_k 0 rfl rfl ?_
  refine am_s rfl rfl ?_
  refine am_lv [(2, .int (iI (((0 : Nat) : Int) : Int))), (1, .int (iI st)), (0, .ref 168)] rfl rfl ⟨rfl, rfl, rfl, trivial⟩ ?_
  refine s_loop (X := Unit) (fun k _ s' => am_Fr [183, 186] s s' ∧ ∀ c, 0 ≤ c → c < (k : Int) → s' 186 c = (if c = st then 1 else 0)) (fun k _ => [(2, .int (iI (k : Int))), (1, .int (iI st)), (0, .ref 168)]) (hi := n) (x := ()) (Nat.zero_le n) ⟨am_Fr_r _ _, fun c c0 c1 => absurd c1 (by omega)⟩ ?_ ?_
  · rintro k - s1 hk0 hk ⟨hF, hV⟩ kk
    have eN : s1 168 1 = n := by rw [hF 168 (by decide)]; exact en
    simp only at kk ⊢
    refine am_s rfl rfl ?_
    refine am_s rfl rfl ?_
    refine s_gi (x := 1) rfl g rfl rfl rfl ?_
    refine s_cge rfl ⟨by omega, by omega⟩ ⟨by omega, by omega⟩ (fun c1 => absurd c1 (by omega)) (fun c1 => ?_)
    refine am_s rfl rfl ?_
    refine s_gr rfl g rfl rfl ?_
    refine am_s rfl rfl ?_
    refine am_s rfl rfl ?_
    refine am_s rfl rfl ?_
    refine s_cne rfl ⟨by omega, by omega⟩ ⟨by omega, by omega⟩ (fun c2 => ?_) (fun c2 => ?_)
    · refine s_k 0 rfl rfl ?_
      refine s_bs rfl g rfl ⟨by omega, by omega⟩ (by decide) (by omega) ?_
      refine s_inc rfl rfl ?_
      refine am_s rfl rfl ?_
      refine am_lv [(2, _), (1, _), (0, _)] rfl rfl ⟨rfl, rfl, rfl, trivial⟩ ?_
      refine kk () _ ⟨am_Fr_W hF (by decide), fun c c0 c1 => ?_⟩
      by_cases e : c = (k : Int)
      · rw [e, am_w_eq, if_neg c2]
      · rw [am_w_x e]; exact hV c c0 (by omega)
    · refine s_k 1 rfl rfl ?_
      refine am_s rfl rfl ?_
      refine s_bs rfl g rfl ⟨by omega, by omega⟩ (by decide) (by omega) ?_
      refine s_inc rfl rfl ?_
      refine am_s rfl rfl ?_
      refine am_lv [(2, _), (1, _), (0, _)] rfl rfl ⟨rfl, rfl, rfl, trivial⟩ ?_
      refine kk () _ ⟨am_Fr_W hF (by decide), fun c c0 c1 => ?_⟩
      by_cases e : c = (k : Int)
      · rw [e, am_w_eq, if_pos (Decidable.of_not_not c2)]
      · rw [am_w_x e]; exact hV c c0 (by omega)
  · rintro - s1 ⟨hF, hV⟩
    have eN : s1 168 1 = n := by rw [hF 168 (by decide)]; exact en
    simp only
    refine am_s rfl rfl ?_
    refine am_s rfl rfl ?_
    refine s_gi (x := 1) rfl g rfl rfl rfl ?_
    refine s_cge rfl ⟨by omega, by omega⟩ ⟨by omega, by omega⟩ (fun c1 => ?_) (fun c1 => absurd c1 (by omega))
    refine am_s rfl rfl ?_
    refine s_gr rfl g rfl rfl ?_
    refine s_k 0 rfl rfl ?_
    refine am_s rfl rfl ?_
    refine s_is rfl g rfl ⟨by omega, by omega⟩ (by decide) ?_
    refine s_k 1 rfl rfl ?_
    refine am_s rfl rfl ?_
    have hst2 : st < (n : Int) := by omega
    refine am_lv [(2, .int (iI (((1 : Nat) : Int) : Int))), (1, .int (iI st)), (0, .ref 168)] rfl rfl ⟨rfl, rfl, rfl, trivial⟩ ?_
    refine s_loop (X := Unit) (fun k _ s' => am_Fr [183, 186] s s' ∧ us_of n k (s' 186) (s' 183) ∧ s_sum (s' 186) n = (k : Int) ∧ nt_ok n (my s) st (s' 183) k) (fun k _ => [(2, .int (iI (k : Int))), (1, .int (iI st)), (0, .ref 168)]) (lo := 1) (hi := n) (x := ()) (by omega) ⟨am_Fr_W hF (by decide), ⟨fun y y0 y1 => ?q1, fun y y0 y1 => ?q2⟩, ?q3, ⟨am_w_eq _ _ _ _, fun i i0 i1 => ?q4, fun i j i0 ij j1 => by omega, fun i i0 i1 => by omega⟩⟩ ?_ ?_
    case q1 => rw [am_w_a (by decide), hV y y0 y1]; split <;> simp
    case q2 =>
      rw [am_w_a (by decide), hV y y0 y1]
      by_cases e : y = st
      · rw [if_pos e]; exact ⟨fun _ => ⟨0, Int.le_refl 0, by omega, by rw [am_w_eq, e]⟩, fun _ => rfl⟩
      · rw [if_neg e]
        refine ⟨fun z => absurd z (by decide), fun ⟨j, j0, j1, j2⟩ => ?_⟩
        have : j = 0 := by omega
        rw [this, am_w_eq] at j2
        exact absurd j2.symm e
    case q3 =>
      unfold s_sum
      obtain ⟨x0, ex⟩ := Int.eq_ofNat_of_zero_le hst.1
      rw [mt_s_one (g := fun _ => 0) (j := x0) (by omega) (fun i hi hne => by rw [am_w_a (by decide), hV i (by omega) (by omega), if_neg (by omega)]), mt_s_zero, am_w_a (by decide), hV x0 (by omega) (by omega), if_pos (by omega)]
      omega
    case q4 =>
      have : i = 0 := by omega
      rw [this, am_w_eq]
      exact ⟨hst.1, by omega⟩
    · rintro k - s2 hk0 hk ⟨hF2, h2, h3, h4⟩ kk
      have eN : s2 168 1 = n := by rw [hF2 168 (by decide)]; exact en
      simp only at kk ⊢
      refine am_s rfl rfl ?_
      refine am_s rfl rfl ?_
      refine s_gi (x := 1) rfl g rfl rfl rfl ?_
      refine s_cge rfl ⟨by omega, by omega⟩ ⟨by omega, by omega⟩ (fun c1 => absurd c1 (by omega)) (fun c1 => ?_)
      refine s_k (-1) rfl rfl ?_
      refine am_s rfl rfl ?_
      refine s_k 0 rfl rfl ?_
      refine am_s rfl rfl ?_
      have emy : ∀ x y, my s2 x y = my s x y := fun x y => by unfold my; rw [hF2 169 (by decide)]
      have hpr := h4.2.1 ((k : Int) - 1) (by omega) (by omega)
      refine am_lv [(4, .int (iI (((0 : Nat) : Int) : Int))), (3, .int (iI (-1))), (2, .int (iI (k : Int))), (1, .int (iI st)), (0, .ref 168)] rfl rfl ⟨rfl, rfl, rfl, rfl, rfl, trivial⟩ ?_
      refine s_loop (X := Int) (fun m v s' => s2 = s' ∧ nr_at n (my s) (fun b => s2 186 b = 0) (s2 183 ((k : Int) - 1)) m v) (fun m v => [(4, .int (iI (m : Int))), (3, .int (iI v)), (2, .int (iI (k : Int))), (1, .int (iI st)), (0, .ref 168)]) (hi := n) (x := -1) (Nat.zero_le n) ⟨rfl, Or.inl ⟨rfl, fun b b0 b1 => absurd b1 (by omega)⟩⟩ ?_ ?_
      · rintro m v s3 hm0 hm3 ⟨rfl, hQ⟩ k3
        have hvr : v = -1 ∨ 0 ≤ v ∧ v < (m : Int) := by
          rcases hQ with ⟨z, -⟩ | ⟨z, -⟩
          · exact Or.inl z
          · exact Or.inr z
        have hum := h2.1 m (by omega) (by omega)
        simp only at k3 ⊢
        refine am_s rfl rfl ?_
        refine am_s rfl rfl ?_
        refine s_gi (x := 1) rfl g rfl rfl rfl ?_
        refine s_cge rfl ⟨by omega, by omega⟩ ⟨by omega, by omega⟩ (fun c31 => absurd c31 (by omega)) (fun c31 => ?_)
        refine am_s rfl rfl ?_
        refine s_gr rfl g rfl rfl ?_
        refine am_s rfl rfl ?_
        refine s_ba rfl g rfl ⟨by omega, by omega⟩ (by decide) ?_
        refine s_zne rfl ⟨by omega, by omega⟩ (fun c32 => ?_) (fun c32 => ?_)
        · refine am_s rfl rfl ?_
          refine am_s rfl rfl ?_
          refine s_inc rfl rfl ?_
          refine am_s rfl rfl ?_
          refine am_lv [(4, _), (3, _), (2, _), (1, _), (0, _)] rfl rfl ⟨rfl, rfl, rfl, rfl, rfl, trivial⟩ ?_
          exact k3 v _ ⟨rfl, nr_skip hQ (by show ¬ s2 186 m = 0; exact c32)⟩
        · refine am_s rfl rfl ?_
          refine s_k (-1) rfl rfl ?_
          refine s_ceq rfl ⟨by omega, by omega⟩ ⟨by omega, by omega⟩ (fun c33 => ?_) (fun c33 => ?_)
          · refine am_s rfl rfl ?_
            refine am_s rfl rfl ?_
            refine am_s rfl rfl ?_
            refine s_inc rfl rfl ?_
            refine am_s rfl rfl ?_
            refine am_lv [(4, _), (3, _), (2, _), (1, _), (0, _)] rfl rfl ⟨rfl, rfl, rfl, rfl, rfl, trivial⟩ ?_
            exact k3 m _ ⟨rfl, nr_take hQ (by omega) (by show s2 186 m = 0; omega) (Or.inl c33)⟩
          · refine am_s rfl rfl ?_
            refine am_s rfl rfl ?_
            refine s_gr rfl g rfl rfl ?_
            refine am_s rfl rfl ?_
            refine s_k 1 rfl rfl ?_
            refine s_isub rfl ?_
            refine s_ia rfl g rfl ⟨by omega, by omega⟩ (by decide) ?_
            refine am_s rfl rfl ?_
            refine s_cv [_, _] [] rfl g (Or.inl rfl) rfl rfl (Nat.le_of_ble_eq_true rfl) rfl rfl (t_far g ⟨by omega, by omega⟩ ⟨by omega, by omega⟩) ?_
            rintro rv h1 ⟨rfl, rfl⟩
            refine am_s rfl rfl ?_
            refine am_s rfl rfl ?_
            refine s_gr rfl g rfl rfl ?_
            refine am_s rfl rfl ?_
            refine s_k 1 rfl rfl ?_
            refine s_isub rfl ?_
            refine s_ia rfl g rfl ⟨by omega, by omega⟩ (by decide) ?_
            refine am_s rfl rfl ?_
            refine s_cv [_, _] [_] rfl g (Or.inl rfl) rfl rfl (Nat.le_of_ble_eq_true rfl) rfl rfl (t_far g ⟨by omega, by omega⟩ ⟨by omega, by omega⟩) ?_
            rintro rv h1 ⟨rfl, rfl⟩
            refine s_cge rfl (by rw [emy]; have := hD (s2 183 ((k : Int) - 1)) m (by omega) (by omega) (by omega) (by omega); exact ⟨by omega, by omega⟩) (by rw [emy]; have := hD (s2 183 ((k : Int) - 1)) v (by omega) (by omega) (by omega) (by omega); exact ⟨by omega, by omega⟩) (fun c34 => ?_) (fun c34 => ?_)
            · refine am_s rfl rfl ?_
              refine am_s rfl rfl ?_
              refine s_inc rfl rfl ?_
              refine am_s rfl rfl ?_
              refine am_lv [(4, _), (3, _), (2, _), (1, _), (0, _)] rfl rfl ⟨rfl, rfl, rfl, rfl, rfl, trivial⟩ ?_
              exact k3 v _ ⟨rfl, nr_keep hQ c33 (by rw [← emy, ← emy]; exact c34)⟩
            · refine am_s rfl rfl ?_
              refine am_s rfl rfl ?_
              refine am_s rfl rfl ?_
              refine s_inc rfl rfl ?_
              refine am_s rfl rfl ?_
              refine am_lv [(4, _), (3, _), (2, _), (1, _), (0, _)] rfl rfl ⟨rfl, rfl, rfl, rfl, rfl, trivial⟩ ?_
              exact k3 m _ ⟨rfl, nr_take hQ (by omega) (by show s2 186 m = 0; omega) (Or.inr (by rw [← emy, ← emy]; omega))⟩
      · rintro v s3 ⟨rfl, hQ⟩
        have hv : (0 ≤ v ∧ v < (n : Int)) ∧ s2 186 v = 0 ∧ ∀ b, 0 ≤ b → b < (n : Int) → s2 186 b = 0 → my s (s2 183 ((k : Int) - 1)) v < my s (s2 183 ((k : Int) - 1)) b ∨ my s (s2 183 ((k : Int) - 1)) v = my s (s2 183 ((k : Int) - 1)) b ∧ v ≤ b := by
          rcases hQ with ⟨-, z⟩ | z
          · obtain ⟨y, y0, y1, y2⟩ := us_left (k := (k : Int)) (by omega) h2.1 h3
            exact absurd y2 (z y y0 y1)
          · exact z
        simp only
        refine am_s rfl rfl ?_
        refine am_s rfl rfl ?_
        refine s_gi (x := 1) rfl g rfl rfl rfl ?_
        refine s_cge rfl ⟨by omega, by omega⟩ ⟨by omega, by omega⟩ (fun c31 => ?_) (fun c31 => absurd c31 (by omega))
        refine am_s rfl rfl ?_
        refine s_gr rfl g rfl rfl ?_
        refine am_s rfl rfl ?_
        refine s_k 1 rfl rfl ?_
        refine s_bs rfl g rfl ⟨by omega, by omega⟩ (by decide) (Or.inr rfl) ?_
        refine am_s rfl rfl ?_
        refine s_gr rfl g rfl rfl ?_
        refine am_s rfl rfl ?_
        refine am_s rfl rfl ?_
        refine s_is rfl g rfl ⟨by omega, by omega⟩ (by decide) ?_
        refine s_inc rfl rfl ?_
        refine am_s rfl rfl ?_
        refine am_lv [(2, _), (1, _), (0, _)] rfl rfl ⟨rfl, rfl, rfl, trivial⟩ ?_
        have w1 : ∀ y, (am_w (am_w s2 186 v 1) 183 (k : Int) v) 186 y = if y = v then 1 else s2 186 y := fun y => by
          rw [am_w_a (by decide)]
          by_cases e : y = v
          · rw [e, am_w_eq, if_pos rfl]
          · rw [am_w_x e, if_neg e]
        have w2 : ∀ y, (am_w (am_w s2 186 v 1) 183 (k : Int) v) 183 y = if y = (k : Int) then v else s2 183 y := fun y => by
          by_cases e : y = (k : Int)
          · rw [e, am_w_eq, if_pos rfl]
          · rw [am_w_x e, am_w_a (by decide), if_neg e]
        refine kk () _ ⟨am_Fr_W (am_Fr_W hF2 (by decide)) (by decide), us_more (by omega) h2 (fun y _ _ => w1 y) (fun j j0 j1 => by rw [w2, if_neg (by omega)]) (by rw [w2, if_pos rfl]), ?_, nt_more (by omega) h4 h2 ⟨hv.1, hv.2.1, hv.2.2⟩ (fun j j0 j1 => by rw [w2, if_neg (by omega)]) (by rw [w2, if_pos rfl])⟩
        rw [am_w_row (by decide), s_sum_w (by omega) (by omega)]
        have := hv.2.1
        omega
    · rintro - s2 ⟨hF2, h2, h3, h4⟩
      have eN : s2 168 1 = n := by rw [hF2 168 (by decide)]; exact en
      simp only
      refine am_s rfl rfl ?_
      refine am_s rfl rfl ?_
      refine s_gi (x := 1) rfl g rfl rfl rfl ?_
      refine s_cge rfl ⟨by omega, by omega⟩ ⟨by omega, by omega⟩ (fun c1 => ?_) (fun c1 => absurd c1 (by omega))
      refine am_r rfl rfl ⟨rfl, s2, rfl, hF2, by rw [en]; exact h4, ?_⟩
      obtain ⟨j, j0, j1, j2⟩ := us_all h2 h3 (y := 0) (Int.le_refl 0) (by omega)
      exact ⟨j, j0, by omega, j2⟩
