/-- what a made tree is -/
def tr_is (n : Int) (f : Int → Int → Int) (al oc_ : Int) (hu od be : Int → Int) : Prop := gw_ok n 0 f ((n - 0).toNat - 1) (fun c => 0 ≤ c) hu al ∧ oc_ = oc (dgf hu n.toNat) n.toNat ∧ od_is (dgf hu n.toNat) n.toNat od ∧ be_ok n hu be ∧ (∃ ins odr : Int → Int, od_ok n 0 n.toNat ins hu odr ∧ ∀ c, 0 ≤ c → c < n → ins c = 1) ∧ -200000000000000000 ≤ al ∧ al ≤ 200000000000000000
theorem t_treeMake {d : Nat} {E : am_Ev} {s : am_S} (g : am_Eg E) (hm : mx_ok s) (hp : pn_ok s 54) : am_wp (d + 2) 111 0 (lv_args 0 [.ref 48, .ref 25]) [] (am_hp E s) (fun rv h => rv = none ∧ ∃ s', h = am_hp E s' ∧ am_Fr [48, 50, 51, 52, 53, 55, 56, 57] s s' ∧ s' 48 0 = 1 ∧ tr_is (s 25 0) (fx s 54) (s' 48 1) (s' 48 2) (s' 50) (s' 55) (s' 56)) := by
  suffices hS : am_wp (d + 2) 111 0 (lv_args 0 [.ref 48, .ref 25]) [] (am_hp E s) (fun rv h => rv = none ∧ ∃ al s', h = am_hp E s' ∧ am_Fr [48, 50, 51, 52, 53, 55, 56, 57] s s' ∧ s' 48 0 = 1 ∧ s' 48 1 = al ∧ s' 48 2 = oc (dgf (s' 50) (s 25 0).toNat) (s 25 0).toNat ∧ gw_ok (s 25 0) 0 (fx s 54) ((s 25 0 - 0).toNat - 1) (fun c => 0 ≤ c) (s' 50) al ∧ od_is (dgf (s' 50) (s 25 0).toNat) (s 25 0).toNat (s' 55) ∧ be_ok (s 25 0) (s' 50) (s' 56) ∧ (∃ ins odr : Int → Int, od_ok (s 25 0) 0 (s 25 0).toNat ins (s' 50) odr ∧ ∀ c, 0 ≤ c → c < s 25 0 → ins c = 1) ∧ -200000000000000000 ≤ al ∧ al ≤ 200000000000000000) from am_wp_mono hS (fun rv h ⟨e, al, s', e1, e2, e3, e4, e5, e6, e7, e8, e9, e10⟩ => ⟨e, s', e1, e2, e3, e4 ▸ e6, e5, e7, e8, e9, e4 ▸ e10⟩)
  have n1 := hm.1
  have n2 := hm.2.1
  obtain ⟨n, en⟩ : ∃ n : Nat, s 25 0 = n := ⟨(s 25 0).toNat, by omega⟩
  refine am_s rfl rfl ?_
  refine am_s rfl rfl ?_
  refine s_gr rfl g rfl rfl ?_
  refine am_s rfl rfl ?_
  refine am_s rfl rfl ?_
  refine s_gr rfl g rfl rfl ?_
  refine s_k 0 rfl rfl ?_
  refine s_cv [_, _, _] [_] rfl g (Or.inl rfl) rfl rfl (Nat.le_of_ble_eq_true rfl) rfl rfl (t_grow49 g hm hp (x := 0) ⟨Int.le_refl 0, by omega⟩) ?_
  rintro rv h1 ⟨al, rfl, s1, rfl, hF1, h2, h3, h4, h5, h6, h7⟩
  rw [en] at h2 h4
  rw [show ((n : Int) - 0).toNat = n by omega] at h2 h4
  have h3 : ∀ c, 0 ≤ c → c < (n : Int) → s1 53 c = 1 := fun c c0 c1 => h3 c c0 (by omega)
  have e25 : s1 25 = s 25 := hF1 25 (by decide)
  refine s_pl (x := 1) rfl g rfl rfl rfl rfl ?_
  refine am_s rfl rfl ?_
  refine am_s rfl rfl ?_
  refine s_gi (x := 0) rfl g rfl rfl rfl ?_
  have en1 : (am_w s1 48 1 al) 25 0 = n := by rw [am_w_a (by decide), e25]; exact en
  rw [en1]
  refine s_cv [_] [] rfl g (Or.inl rfl) rfl rfl (Nat.le_of_ble_eq_true rfl) rfl rfl (t_below g (n := n) ⟨by omega, by omega⟩ h4 h3) ?_
  rintro rv h1 ⟨rfl, s2, rfl, hF2, hbe⟩
  have en2 : s2 25 0 = n := by rw [hF2 25 (by decide)]; exact en1
  have e50 : s2 50 = s1 50 := hF2 50 (by decide)
  refine am_s rfl rfl ?_
  refine am_s rfl rfl ?_
  refine s_gi (x := 0) rfl g rfl rfl rfl ?_
  rw [en2]
  have hrg := gw_rng (Int.le_refl 0) h2
  refine s_cv [_] [] rfl g (Or.inl rfl) rfl rfl (Nat.le_of_ble_eq_true rfl) rfl rfl (t_odds g (n := n) ⟨by omega, by omega⟩ (fun c c0 c1 => by rw [e50]; exact hrg.2.1 c (by omega) c1 (h3 c (by omega) c1) (by omega))) ?_
  rintro rv h1 ⟨rfl, s3, rfl, hF3, i1, i2, i3⟩
  rw [e50] at i2 i3
  have f50 : s3 50 = s1 50 := (hF3 50 (by decide)).trans e50
  refine am_s rfl rfl ?_
  refine s_k 1 rfl rfl ?_
  refine s_pi (x := 0) rfl g rfl rfl rfl rfl ?_
  refine am_r rfl rfl ⟨rfl, al, _, rfl, am_Fr_W (am_Fr_u (am_Fr_u (am_Fr_W (am_Fr_m hF1 (by decide)) (by decide)) (am_Fr_m hF2 (by decide))) (am_Fr_m hF3 (by decide))) (by decide), am_w_eq _ _ _ _, ?_, ?_, ?_, ?_, ?_, ?_, h6, h7⟩
  · rw [am_w_x (by decide), i1 1 (by decide), hF2 48 (by decide), am_w_eq]
  · rw [am_w_x (by decide), am_w_row (by decide), f50, i2, en, Int.toNat_natCast]
  · rw [am_w_row (by decide), f50, en, show ((n : Int) - 0).toNat - 1 = n - 1 by omega]
    exact gw_in (fun c c0 c1 => ⟨fun _ => c0, fun _ => h3 c c0 c1⟩) h2
  · rw [am_w_row (by decide), am_w_row (by decide), f50, en, Int.toNat_natCast]; exact i3
  · rw [am_w_row (by decide), am_w_row (by decide), f50, en, hF3 56 (by decide)]; exact hbe
  · refine ⟨s1 53, s1 51, ?_, fun c c0 c1 => h3 c c0 (by omega)⟩
    rw [am_w_row (by decide), f50, en, Int.toNat_natCast]
    exact h4
