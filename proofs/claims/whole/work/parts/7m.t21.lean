theorem us_ins {n m c p : Int} {u t u2 t2 : Int → Int} (hp : 0 ≤ p ∧ p < m) (h : us_of n m u t) (hi : gt_i m c p t t2) (eu : ∀ y, 0 ≤ y → y < n → u2 y = if y = c then 1 else u y) : us_of n (m + 1) u2 t2 := by
  have at_ := gt_i_at hp hi
  refine ⟨fun y y0 y1 => ?_, fun y y0 y1 => ?_⟩
  · rw [eu y y0 y1]
    split
    · exact Or.inr rfl
    · exact h.1 y y0 y1
  · rw [eu y y0 y1]
    by_cases e : y = c
    · rw [if_pos e]
      exact ⟨fun _ => ⟨p + 1, by omega, by omega, hi.2.1.trans e.symm⟩, fun _ => rfl⟩
    · rw [if_neg e, h.2 y y0 y1]
      constructor
      · rintro ⟨j, j0, j1, j2⟩
        by_cases ej : j ≤ p
        · exact ⟨j, j0, by omega, by rw [at_ j j0 (by omega), if_pos ej]; exact j2⟩
        · exact ⟨j + 1, by omega, by omega, by rw [at_ (j + 1) (by omega) (by omega), if_neg (by omega), if_neg (by omega), show j + 1 - 1 = j by omega]; exact j2⟩
      · rintro ⟨j, j0, j1, j2⟩
        rw [at_ j j0 (by omega)] at j2
        by_cases ej : j ≤ p
        · rw [if_pos ej] at j2
          exact ⟨j, j0, by omega, j2⟩
        · rw [if_neg ej] at j2
          by_cases ek : j = p + 1
          · rw [if_pos ek] at j2
            exact absurd j2.symm e
          · rw [if_neg ek] at j2
            exact ⟨j - 1, by omega, by omega, j2⟩
theorem s_sum_if {u u2 : Int → Int} {c : Int} {k : Nat} (c0 : 0 ≤ c) (c1 : c < (k : Int)) (eu : ∀ y, 0 ≤ y → y < (k : Int) → u2 y = if y = c then 1 else u y) (h : u c = 0) : s_sum u2 k = s_sum u k + 1 := by
  unfold s_sum
  obtain ⟨j, rfl⟩ := Int.eq_ofNat_of_zero_le c0
  rw [mt_s_one (f := fun i => u2 i) (g := fun i => u i) (j := j) (by omega) (fun i hi hne => by rw [eu i (by omega) (by omega), if_neg (by omega)]), eu j (by omega) (by omega), if_pos rfl, h]
  omega
theorem us_one {n : Nat} {st : Int} {u t : Int → Int} (h0 : 0 ≤ st ∧ st < n) (hu : ∀ y, 0 ≤ y → y < (n : Int) → u y = if y = st then 1 else 0) (ht : t 0 = st) : us_of n 1 u t ∧ s_sum u n = 1 := by
  refine ⟨⟨fun y y0 y1 => ?_, fun y y0 y1 => ?_⟩, ?_⟩
  · rw [hu y y0 y1]
    split
    · exact Or.inr rfl
    · exact Or.inl rfl
  · rw [hu y y0 y1]
    by_cases e : y = st
    · rw [if_pos e]
      exact ⟨fun _ => ⟨0, Int.le_refl 0, by omega, ht.trans e.symm⟩, fun _ => rfl⟩
    · rw [if_neg e]
      refine ⟨fun z => absurd z (by decide), fun ⟨j, j0, j1, j2⟩ => ?_⟩
      have : j = 0 := by omega
      rw [this, ht] at j2
      exact absurd j2.symm e
  · have := s_sum_if (u := fun _ => 0) (u2 := u) (k := n) h0.1 h0.2 hu rfl
    rw [this]
    unfold s_sum
    rw [mt_s_zero]
    rfl
theorem t_putIn {d : Nat} {E : am_Ev} {s : am_S} {st : Int} (g : am_Eg E) (hm : mx_ok s) (hc : s 151 1 = s 25 0) (hst : 0 ≤ st ∧ st < s 25 0) : am_wp (d + 3) 12 0 (lv_args 0 [.ref 153, .ref 25, .ref 151, .int (iI st)]) [] (am_hp E s) (fun rv h => rv = none ∧ ∃ (p : Int) (t : Int → Int) (s' : am_S), h = am_hp E s' ∧ (0 ≤ p ∧ p < s 25 0) ∧ t p = 0 ∧ am_Fr [152, 154] s s' ∧ gt_ok (s 25 0) (mx s) st ((s 25 0).toNat - 1) t ∧ rt (s 25 0) p t (s' 152)) := by
  obtain ⟨n1, n2, hD⟩ := hm
  obtain ⟨n, en⟩ : ∃ n : Nat, s 25 0 = n := ⟨(s 25 0).toNat, by omega⟩
  have ec : s 151 1 = n := hc.trans en
  refine am_s rfl rfl ?_
  refine s_cv [] [] rfl g (Or.inl rfl) rfl rfl (Nat.le_of_ble_eq_true rfl) rfl rfl (t_useNone g) ?_
  rintro rv h1 ⟨rfl, s0, rfl, hF0, hV0⟩
  refine am_s rfl rfl ?_
  refine s_gr rfl g rfl rfl ?_
  refine am_s rfl rfl ?_
  refine s_k 1 rfl rfl ?_
  refine s_bs rfl g rfl ⟨by omega, by omega⟩ (by decide) (Or.inr rfl) ?_
  refine am_s rfl rfl ?_
  refine s_gr rfl g rfl rfl ?_
  refine s_k 0 rfl rfl ?_
  refine am_s rfl rfl ?_
  refine s_is rfl g rfl ⟨by omega, by omega⟩ (by decide) ?_
  refine s_k 1 rfl rfl ?_
  refine am_s rfl rfl ?_
  have h01 := us_one (n := n) (st := st) (u := (am_w (am_w s0 154 st 1) 152 0 st) 154) (t := (am_w (am_w s0 154 st 1) 152 0 st) 152) ⟨hst.1, by omega⟩ (fun y y0 y1 => by rw [am_w_a (by decide)]; by_cases e : y = st; (rw [e, am_w_eq, if_pos rfl]); (rw [am_w_x e, if_neg e]; exact hV0 y y0 (by omega))) (am_w_eq _ _ _ _)
  refine am_lv [(4, .int (iI (((1 : Nat) : Int) : Int))), (3, .int (iI st)), (2, .ref 151), (1, .ref 25), (0, .ref 153)] rfl rfl ⟨rfl, rfl, rfl, rfl, rfl, trivial⟩ ?_
  refine s_loop (X := Unit) (fun k _ s' => am_Fr [152, 154] s s' ∧ gt_ok n (mx s) st (k - 1) (s' 152) ∧ us_of n k (s' 154) (s' 152) ∧ s_sum (s' 154) n = (k : Int)) (fun k _ => [(4, .int (iI (k : Int))), (3, .int (iI st)), (2, .ref 151), (1, .ref 25), (0, .ref 153)]) (lo := 1) (hi := n) (x := ()) (by omega) ⟨am_Fr_W (am_Fr_W (am_Fr_m hF0 (by decide)) (by decide)) (by decide), am_w_eq _ _ _ _, h01.1, h01.2⟩ ?_ ?_
  · rintro k - s1 hk0 hk ⟨hF, h2, h3, h4⟩ kk
    have e151 : s1 151 1 = n := by rw [hF 151 (by decide)]; exact ec
    simp only at kk ⊢
    refine am_s rfl rfl ?_
    refine am_s rfl rfl ?_
    refine s_gi (x := 1) rfl g rfl rfl rfl ?_
    refine s_cge rfl ⟨by omega, by omega⟩ ⟨by omega, by omega⟩ (fun c1 => absurd c1 (by omega)) (fun c1 => ?_)
    refine am_s rfl rfl ?_
    refine am_s rfl rfl ?_
    refine am_s rfl rfl ?_
    refine s_gr rfl g rfl rfl ?_
    refine am_s rfl rfl ?_
    have hds := gt_okds ⟨hst.1, by omega⟩ h2
    have hk1 : ((k - 1 : Nat) : Int) + 1 = k := by omega
    rw [hk1] at hds
    have e25 : s1 25 0 = n := by rw [hF 25 (by decide)]; exact en
    have emx : ∀ x y, 0 ≤ x → x < 20 → mx s1 x y = mx s x y := fun x y x0 x1 => by
      unfold mx
      rw [hF (26 + 1 + x.toNat) (fun z => by simp at z; omega)]
    have hmx : mx_ok s1 := ⟨by omega, by omega, fun a b a0 a1 b0 b1 => by
      rw [emx a b a0 (by omega)]
      exact hD a b a0 (by omega) b0 (by omega)⟩
    refine s_cv [_, _, _] [] rfl g (Or.inl rfl) rfl rfl (Nat.le_of_ble_eq_true rfl) rfl rfl (t_putCheapest (m := k) (PP := fun rv h => rv = none ∧ ∃ c p s', h = am_hp E s' ∧ am_Fr [152, 154] s1 s' ∧ gt_p (s1 25 0) (mx s1) k (s1 152) c p ∧ gt_i k c p (s1 152) (s' 152) ∧ ∀ y, s' 154 y = if y = c then 1 else s1 154 y) g (fun c p s' h => ⟨rfl, c, p, s', rfl, h⟩) hmx ⟨hk0, by omega⟩ (fun i i0 i1 => by rw [e25]; exact hds.1 i i0 i1) (by rw [e25]; exact h3) (by obtain ⟨y, y0, y1, y2⟩ := us_left (k := (k : Int)) (by omega) h3.1 h4; exact ⟨y, y0, by omega, y2⟩)) ?_
    rintro rv h1 ⟨rfl, c, p, s2, rfl, hF2, hp, hi, hu2⟩
    rw [e25] at hp
    refine s_inc rfl rfl ?_
    refine am_s rfl rfl ?_
    refine am_lv [(4, _), (3, _), (2, _), (1, _), (0, _)] rfl rfl ⟨rfl, rfl, rfl, rfl, rfl, trivial⟩ ?_
    have hp2 : gt_p n (mx s) (((k - 1 : Nat) : Int) + 1) (s1 152) c p := by
      rw [hk1]
      obtain ⟨p1, p2, p3, p4⟩ := hp
      refine ⟨p1, p2, p3, fun c2 q2 a1 a2 a3 a4 a5 => ?_⟩
      have := p4 c2 q2 a1 a2 a3 a4 a5
      have eg : ∀ c p, 0 ≤ c → c < (n : Int) → 0 ≤ p → p < (k : Int) → gt_g (mx s1) k (s1 152) c p = gt_g (mx s) k (s1 152) c p := fun c p c0 c1 p0 p1 => by
        have r1 := hds.1 p p0 p1
        unfold gt_g
        rw [emx c _ c0 (by omega), emx c _ c0 (by omega), emx _ _ r1.1 (by omega)]
      rw [eg c p p1.1 p1.2 p3.1 p3.2, eg c2 q2 a1 a2 a4 a5] at this
      exact this
    have hc0 : s1 154 c = 0 := by
      rcases h3.1 c hp.1.1 hp.1.2 with z | z
      · exact z
      · obtain ⟨j, j0, j1, j2⟩ := (h3.2 c hp.1.1 hp.1.2).mp z
        exact absurd j2 (hp.2.1 j j0 j1)
    refine kk () _ ⟨am_Fr_u hF hF2, ?_, us_ins hp.2.2.1 h3 hi (fun y _ _ => hu2 y), ?_⟩
    · rw [show k + 1 - 1 = (k - 1) + 1 by omega]
      exact ⟨s1 152, c, p, h2, hp2, by rw [hk1]; exact hi⟩
    · rw [s_sum_if hp.1.1 hp.1.2 (fun y _ _ => hu2 y) hc0, h4]
      omega
  · rintro - s1 ⟨hF, h2, h3, h4⟩
    have e151 : s1 151 1 = n := by rw [hF 151 (by decide)]; exact ec
    simp only
    refine am_s rfl rfl ?_
    refine am_s rfl rfl ?_
    refine s_gi (x := 1) rfl g rfl rfl rfl ?_
    refine s_cge rfl ⟨by omega, by omega⟩ ⟨by omega, by omega⟩ (fun c1 => ?_) (fun c1 => absurd c1 (by omega))
    refine am_s rfl rfl ?_
    have hds := gt_okds ⟨hst.1, by omega⟩ h2
    rw [show ((n - 1 : Nat) : Int) + 1 = n by omega] at hds
    refine s_cv [] [] rfl g (Or.inl rfl) rfl rfl (Nat.le_of_ble_eq_true rfl) rfl rfl (t_front g ⟨by omega, by omega⟩ (fun i i0 i1 => by have := hds.1 i i0 (by omega); omega) (by obtain ⟨j, j0, j1, j2⟩ := us_all h3 h4 (y := 0) (Int.le_refl 0) (by omega); exact ⟨j, j0, by omega, j2⟩)) ?_
    rintro rv h1 ⟨rfl, p, s2, rfl, p0, p1, p2, hF2, hV2⟩
    rw [e151] at p0 hV2
    refine am_r rfl rfl ⟨rfl, p, s1 152, s2, rfl, by rw [en]; exact p0, p1, am_Fr_u hF (am_Fr_m hF2 (by decide)), by rw [en, show (n : Int).toNat - 1 = n - 1 by omega]; exact h2, by rw [en]; exact sh_rt p0 hV2⟩
