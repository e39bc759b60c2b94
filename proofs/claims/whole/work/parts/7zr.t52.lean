/-! the matcher: its small methods -/
theorem t_isTop {d : Nat} {E : am_Ev} {s : am_S} {x : Int} {PP : Option Value → am_H → Prop} (g : am_Eg E) (hx : 0 ≤ x ∧ x < 30) (hr : 0 ≤ s 87 x ∧ s 87 x < 1048576) (hb : s 87 x ≠ 0 → (0 ≤ s 88 x ∧ s 88 x < 20) ∧ (0 ≤ s 86 (s 88 x) ∧ s 86 (s 88 x) < 30)) (hT : s 87 x ≠ 0 → s 86 (s 88 x) = x → PP (some (.int (iI 1))) (am_hp E s)) (hF : ¬ (s 87 x ≠ 0 ∧ s 86 (s 88 x) = x) → PP (some (.int (iI 0))) (am_hp E s)) : am_wp d 29 0 (lv_args 0 [.ref 62, .int (iI x)]) [] (am_hp E s) PP := by
  refine am_s rfl rfl ?_
  refine s_gr rfl g rfl rfl ?_
  refine am_s rfl rfl ?_
  refine s_ia rfl g rfl ⟨by omega, by omega⟩ (by decide) ?_
  refine s_zeq rfl ⟨by omega, by omega⟩ (fun c1 => ?_) (fun c1 => ?_)
  · refine s_k 0 rfl rfl ?_
    exact am_r rfl rfl (hF (fun z => z.1 (by omega)))
  · refine am_s rfl rfl ?_
    refine s_gr rfl g rfl rfl ?_
    refine am_s rfl rfl ?_
    refine s_gr rfl g rfl rfl ?_
    refine am_s rfl rfl ?_
    refine s_ia rfl g rfl ⟨by omega, by omega⟩ (by decide) ?_
    refine s_ia rfl g rfl ⟨by omega, by omega⟩ (by decide) ?_
    refine am_s rfl rfl ?_
    refine s_cne rfl ⟨by omega, by omega⟩ ⟨by omega, by omega⟩ (fun c2 => ?_) (fun c2 => ?_)
    · refine s_k 0 rfl rfl ?_
      exact am_r rfl rfl (hF (fun z => by omega))
    · refine s_k 1 rfl rfl ?_
      refine am_s rfl rfl ?_
      exact am_r rfl rfl (hT (by omega) (by omega))
theorem t_holds {d : Nat} {E : am_Ev} {s : am_S} {x v : Int} {PP : Option Value → am_H → Prop} (g : am_Eg E) (hx : 0 ≤ x ∧ x < 30) (hv : 0 ≤ v ∧ v < 20) (hr : 0 ≤ s 87 x ∧ s 87 x < 1048576) (hT : bt (s 87 x) v = 1 → PP (some (.int (iI 1))) (am_hp E s)) (hF : bt (s 87 x) v ≠ 1 → PP (some (.int (iI 0))) (am_hp E s)) : am_wp d 30 0 (lv_args 0 [.ref 62, .int (iI x), .int (iI v)]) [] (am_hp E s) PP := by
  have hb := bt_01 (s 87 x) v
  have hb2 : am_R (bt (s 87 x) v) := ⟨by omega, by omega⟩
  refine am_s rfl rfl ?_
  refine s_gr rfl g rfl rfl ?_
  refine am_s rfl rfl ?_
  refine s_ia rfl g rfl ⟨by omega, by omega⟩ (by decide) ?_
  refine am_s rfl rfl ?_
  refine s_bit rfl rfl rfl ⟨by omega, by omega⟩ ⟨by omega, by omega⟩ ?_
  refine s_zeq rfl hb2 (fun c1 => ?_) (fun c1 => ?_)
  · refine s_k 0 rfl rfl ?_
    exact am_r rfl rfl (hF (fun z => by omega))
  · refine s_k 1 rfl rfl ?_
    refine am_s rfl rfl ?_
    exact am_r rfl rfl (hT (by omega))
theorem t_keepStep {d : Nat} {E : am_Ev} {s : am_S} {z a b : Int} (g : am_Eg E) : am_wp d 34 0 (lv_args 0 [.ref 62, .long (lI z), .int (iI a), .int (iI b)]) [] (am_hp E s) (fun rv h => rv = none ∧ h = am_hp E (am_w (am_w (am_w s 62 1 z) 62 2 a) 62 3 b)) := by
  refine am_s rfl rfl ?_
  refine am_s rfl rfl ?_
  refine s_pl (x := 1) rfl g rfl rfl rfl rfl ?_
  refine am_s rfl rfl ?_
  refine am_s rfl rfl ?_
  refine s_pi (x := 2) rfl g rfl rfl rfl rfl ?_
  refine am_s rfl rfl ?_
  refine am_s rfl rfl ?_
  refine s_pi (x := 3) rfl g rfl rfl rfl rfl ?_
  exact am_r rfl rfl ⟨rfl, rfl⟩
theorem t_signOf {d : Nat} {E : am_Ev} {s : am_S} {x : Int} (g : am_Eg E) (hx : 0 ≤ x ∧ x < 30) (hr : 0 ≤ s 89 x ∧ s 89 x ≤ 2) : am_wp d 36 0 (lv_args 0 [.ref 62, .int (iI x)]) [] (am_hp E s) (fun rv h => rv = some (.int (iI (bsg (s 89 x)))) ∧ h = am_hp E s) := by
  refine am_s rfl rfl ?_
  refine s_gr rfl g rfl rfl ?_
  refine am_s rfl rfl ?_
  refine s_ia rfl g rfl ⟨by omega, by omega⟩ (by decide) ?_
  refine s_zne rfl ⟨by omega, by omega⟩ (fun c1 => ?_) (fun c1 => ?_)
  · refine am_s rfl rfl ?_
    refine s_gr rfl g rfl rfl ?_
    refine am_s rfl rfl ?_
    refine s_ia rfl g rfl ⟨by omega, by omega⟩ (by decide) ?_
    refine s_k 1 rfl rfl ?_
    refine s_cne rfl ⟨by omega, by omega⟩ ⟨by omega, by omega⟩ (fun c2 => ?_) (fun c2 => ?_)
    · refine s_k (-1) rfl rfl ?_
      exact am_r rfl rfl ⟨by unfold bsg; rw [if_neg (by omega), if_pos (by omega)], rfl⟩
    · refine s_k 1 rfl rfl ?_
      refine am_s rfl rfl ?_
      exact am_r rfl rfl ⟨by unfold bsg; rw [if_pos (by omega)], rfl⟩
  · refine s_k 0 rfl rfl ?_
    exact am_r rfl rfl ⟨by unfold bsg; rw [if_neg (by omega), if_neg (by omega)], rfl⟩
theorem t_annexIn {d : Nat} {E : am_Ev} {s : am_S} {x a b : Int} (g : am_Eg E) (hx : 0 ≤ x ∧ x < 30) : am_wp d 39 0 (lv_args 0 [.ref 62, .int (iI x), .int (iI a), .int (iI b)]) [] (am_hp E s) (fun rv h => rv = none ∧ h = am_hp E (am_w (am_w (am_w s 89 x 2) 90 x a) 91 x b)) := by
  refine am_s rfl rfl ?_
  refine s_gr rfl g rfl rfl ?_
  refine am_s rfl rfl ?_
  refine s_k 2 rfl rfl ?_
  refine s_is rfl g rfl ⟨by omega, by omega⟩ (by decide) ?_
  refine am_s rfl rfl ?_
  refine s_gr rfl g rfl rfl ?_
  refine am_s rfl rfl ?_
  refine am_s rfl rfl ?_
  refine s_is rfl g rfl ⟨by omega, by omega⟩ (by decide) ?_
  refine am_s rfl rfl ?_
  refine s_gr rfl g rfl rfl ?_
  refine am_s rfl rfl ?_
  refine am_s rfl rfl ?_
  refine s_is rfl g rfl ⟨by omega, by omega⟩ (by decide) ?_
  exact am_r rfl rfl ⟨rfl, rfl⟩
theorem t_above {d : Nat} {E : am_Ev} {s : am_S} {x : Int} (g : am_Eg E) (hx : 0 ≤ x ∧ x < 30) (hb : 0 ≤ s 88 x ∧ s 88 x < 20) (hm : -1 ≤ s 85 (s 88 x) ∧ s 85 (s 88 x) < 20) (hf : s 85 (s 88 x) ≠ -1 → (0 ≤ s 86 (s 85 (s 88 x)) ∧ s 86 (s 85 (s 88 x)) < 30) ∧ (0 ≤ s 90 (s 86 (s 85 (s 88 x))) ∧ s 90 (s 86 (s 85 (s 88 x))) < 20)) : am_wp d 40 0 (lv_args 0 [.ref 62, .int (iI x)]) [] (am_hp E s) (fun rv h => rv = some (.int (iI (if s 85 (s 88 x) = -1 then -1 else s 86 (s 90 (s 86 (s 85 (s 88 x))))))) ∧ h = am_hp E s) := by
  refine am_s rfl rfl ?_
  refine s_gr rfl g rfl rfl ?_
  refine am_s rfl rfl ?_
  refine s_gr rfl g rfl rfl ?_
  refine am_s rfl rfl ?_
  refine s_ia rfl g rfl ⟨by omega, by omega⟩ (by decide) ?_
  refine s_ia rfl g rfl ⟨by omega, by omega⟩ (by decide) ?_
  refine am_s rfl rfl ?_
  refine am_s rfl rfl ?_
  refine s_k (-1) rfl rfl ?_
  refine s_cne rfl ⟨by omega, by omega⟩ ⟨by omega, by omega⟩ (fun c1 => ?_) (fun c1 => ?_)
  · refine am_s rfl rfl ?_
    refine s_gr rfl g rfl rfl ?_
    refine am_s rfl rfl ?_
    refine s_gr rfl g rfl rfl ?_
    refine am_s rfl rfl ?_
    refine s_gr rfl g rfl rfl ?_
    refine am_s rfl rfl ?_
    refine s_ia rfl g rfl ⟨by omega, by omega⟩ (by decide) ?_
    refine s_ia rfl g rfl ⟨by omega, by omega⟩ (by decide) ?_
    refine s_ia rfl g rfl ⟨by omega, by omega⟩ (by decide) ?_
    exact am_r rfl rfl ⟨by rw [if_neg (by omega)], rfl⟩
  · refine s_k (-1) rfl rfl ?_
    refine am_s rfl rfl ?_
    exact am_r rfl rfl ⟨by rw [if_pos (by omega)], rfl⟩
theorem t_unusedBlossom {d : Nat} {E : am_Ev} {s : am_S} {PP : Option Value → am_H → Prop} (g : am_Eg E) (hr : ∀ x, 0 ≤ x → x < 30 → 0 ≤ s 87 x ∧ s 87 x < 1048576) (hy : ∃ y, 20 ≤ y ∧ y < 30 ∧ s 87 y = 0) (hPP : ∀ y : Int, 20 ≤ y → y < 30 → s 87 y = 0 → PP (some (.int (iI y))) (am_hp E s)) : am_wp d 44 0 (lv_args 0 [.ref 62]) [] (am_hp E s) PP := by
  refine s_k 20 rfl rfl ?_
  refine am_s rfl rfl ?_
  refine am_lv [(1, .int (iI (((20 : Nat) : Int) : Int))), (0, .ref 62)] rfl rfl ⟨rfl, rfl, trivial⟩ ?_
  refine s_loop (X := Unit) (fun k _ s' => s = s' ∧ ∀ y, 20 ≤ y → y < (k : Int) → s 87 y ≠ 0) (fun k _ => [(1, .int (iI (k : Int))), (0, .ref 62)]) (lo := 20) (hi := 29) (x := ()) (by omega) ⟨rfl, fun y a1 a2 => by omega⟩ ?_ ?_
  · rintro k - s1 hk0 hk ⟨rfl, hQ⟩ kk
    simp only at kk ⊢
    have hr1 := hr k (by omega) (by omega)
    refine am_s rfl rfl ?_
    refine s_k 29 rfl rfl ?_
    refine s_cge rfl ⟨by omega, by omega⟩ ⟨by omega, by omega⟩ (fun c1 => absurd c1 (by omega)) (fun c1 => ?_)
    refine am_s rfl rfl ?_
    refine s_gr rfl g rfl rfl ?_
    refine am_s rfl rfl ?_
    refine s_ia rfl g rfl ⟨by omega, by omega⟩ (by decide) ?_
    refine s_zeq rfl ⟨by omega, by omega⟩ (fun c2 => ?_) (fun c2 => ?_)
    · refine am_s rfl rfl ?_
      exact am_r rfl rfl (hPP k (by omega) (by omega) (by omega))
    · refine s_inc rfl rfl ?_
      refine am_s rfl rfl ?_
      refine am_lv [(1, _), (0, _)] rfl rfl ⟨rfl, rfl, trivial⟩ ?_
      refine kk () _ ⟨rfl, fun y a1 a2 => ?_⟩
      by_cases e : y = (k : Int)
      · rw [e]; omega
      · exact hQ y a1 (by omega)
  · rintro - s1 ⟨rfl, hQ⟩
    simp only
    refine am_s rfl rfl ?_
    refine s_k 29 rfl rfl ?_
    refine s_cge rfl ⟨by omega, by omega⟩ ⟨by omega, by omega⟩ (fun c1 => ?_) (fun c1 => absurd c1 (by omega))
    refine am_s rfl rfl ?_
    exact am_r rfl rfl (hPP (29 : Nat) (by omega) (by omega) (by
      obtain ⟨y, y0, y1, y2⟩ := hy
      by_cases c : y = 29
      · rw [c] at y2; exact y2
      · exact absurd y2 (hQ y y0 (by omega))))
theorem t_putOnTop {d : Nat} {E : am_Ev} {s : am_S} {x : Int} (g : am_Eg E) (hn : 0 ≤ s 62 0 ∧ s 62 0 ≤ 20) (hx : 0 ≤ x ∧ x < 30) (hr : 0 ≤ s 87 x ∧ s 87 x < 1048576) : am_wp (d + 1) 45 0 (lv_args 0 [.ref 62, .int (iI x)]) [] (am_hp E s) (fun rv h => rv = none ∧ ∃ s', h = am_hp E s' ∧ am_Fr [86] s s' ∧ ∀ v, s' 86 v = if 0 ≤ v ∧ v < s 62 0 ∧ bt (s 87 x) v = 1 then x else s 86 v) := by
  obtain ⟨n, en⟩ : ∃ n : Nat, s 62 0 = n := ⟨(s 62 0).toNat, by omega⟩
  refine s_k 0 rfl rfl ?_
  refine am_s rfl rfl ?_
  refine am_lv [(2, .int (iI (((0 : Nat) : Int) : Int))), (1, .int (iI x)), (0, .ref 62)] rfl rfl ⟨rfl, rfl, rfl, trivial⟩ ?_
  refine s_loop (X := Unit) (fun k _ s' => am_Fr [86] s s' ∧ ∀ v, s' 86 v = if 0 ≤ v ∧ v < (k : Int) ∧ bt (s 87 x) v = 1 then x else s 86 v) (fun k _ => [(2, .int (iI (k : Int))), (1, .int (iI x)), (0, .ref 62)]) (hi := n) (x := ()) (Nat.zero_le n) ⟨am_Fr_r _ _, fun v => by rw [if_neg (by omega)]⟩ ?_ ?_
  · rintro k - s1 hk0 hk ⟨hF, hQ⟩ kk
    simp only at kk ⊢
    have e62 : s1 62 0 = s 62 0 := by rw [hF 62 (by decide)]
    refine am_s rfl rfl ?_
    refine am_s rfl rfl ?_
    refine s_gi (x := 0) rfl g rfl rfl rfl ?_
    refine s_cge rfl ⟨by omega, by omega⟩ ⟨by omega, by omega⟩ (fun c1 => absurd c1 (by omega)) (fun c1 => ?_)
    refine am_s rfl rfl ?_
    refine am_s rfl rfl ?_
    refine am_s rfl rfl ?_
    refine s_cv [_, _] [] rfl g (Or.inl rfl) rfl rfl (Nat.le_of_ble_eq_true rfl) rfl rfl (t_holds (PP := fun rv h => (∃ r : Int, rv = some (.int (iI r)) ∧ ((r = 1 ∧ bt (s1 87 x) k = 1) ∨ (r = 0 ∧ bt (s1 87 x) k ≠ 1))) ∧ h = am_hp E s1) g hx ⟨by omega, by omega⟩ (by rw [hF 87 (by decide)]; exact hr) (fun z => ⟨⟨1, rfl, Or.inl ⟨rfl, z⟩⟩, rfl⟩) (fun z => ⟨⟨0, rfl, Or.inr ⟨rfl, z⟩⟩, rfl⟩)) ?_
    rintro rv h1 ⟨⟨r, rfl, hr1⟩, rfl⟩
    rw [hF 87 (by decide)] at hr1
    refine s_zeq rfl ⟨by omega, by omega⟩ (fun c2 => ?_) (fun c2 => ?_)
    · refine s_inc rfl rfl ?_
      refine am_s rfl rfl ?_
      refine am_lv [(2, _), (1, _), (0, _)] rfl rfl ⟨rfl, rfl, rfl, trivial⟩ ?_
      refine kk () _ ⟨hF, fun v => ?_⟩
      rw [hQ v]
      by_cases e : v = (k : Int)
      · rw [if_neg (by omega), if_neg (fun z => by rw [e] at z; omega)]
      · by_cases q : 0 ≤ v ∧ v < (k : Int) ∧ bt (s 87 x) v = 1
        · rw [if_pos q, if_pos ⟨q.1, by omega, q.2.2⟩]
        · rw [if_neg q, if_neg (fun z => q ⟨z.1, by omega, z.2.2⟩)]
    · refine am_s rfl rfl ?_
      refine s_gr rfl g rfl rfl ?_
      refine am_s rfl rfl ?_
      refine am_s rfl rfl ?_
      refine s_is rfl g rfl ⟨by omega, by omega⟩ (by decide) ?_
      refine s_inc rfl rfl ?_
      refine am_s rfl rfl ?_
      refine am_lv [(2, _), (1, _), (0, _)] rfl rfl ⟨rfl, rfl, rfl, trivial⟩ ?_
      refine kk () _ ⟨am_Fr_W hF (by decide), fun v => ?_⟩
      by_cases e : v = (k : Int)
      · rw [e, am_w_eq, if_pos ⟨by omega, by omega, by omega⟩]
      · rw [am_w_x e, hQ v]
        by_cases q : 0 ≤ v ∧ v < (k : Int) ∧ bt (s 87 x) v = 1
        · rw [if_pos q, if_pos ⟨q.1, by omega, q.2.2⟩]
        · rw [if_neg q, if_neg (fun z => q ⟨z.1, by omega, z.2.2⟩)]
  · rintro - s1 ⟨hF, hQ⟩
    simp only
    have e62 : s1 62 0 = s 62 0 := by rw [hF 62 (by decide)]
    refine am_s rfl rfl ?_
    refine am_s rfl rfl ?_
    refine s_gi (x := 0) rfl g rfl rfl rfl ?_
    refine s_cge rfl ⟨by omega, by omega⟩ ⟨by omega, by omega⟩ (fun c1 => ?_) (fun c1 => absurd c1 (by omega))
    exact am_r rfl rfl ⟨rfl, s1, rfl, hF, fun v => by rw [hQ v, en]⟩
theorem t_placeInRing {d : Nat} {E : am_Ev} {s : am_S} {r v : Int} {PP : Option Value → am_H → Prop} (g : am_Eg E) (hr : 0 ≤ r ∧ r < 10) (hv : 0 ≤ v ∧ v < 20) (hm : 1 ≤ s 92 r ∧ s 92 r ≤ 20) (hg : ∀ i, 0 ≤ i → i < s 92 r → (0 ≤ s (94 + 1 + r.toNat) i ∧ s (94 + 1 + r.toNat) i < 30) ∧ 0 ≤ s 87 (s (94 + 1 + r.toNat) i) ∧ s 87 (s (94 + 1 + r.toNat) i) < 1048576) (hj : ∃ i, 0 ≤ i ∧ i < s 92 r ∧ bt (s 87 (s (94 + 1 + r.toNat) i)) v = 1) (hPP : ∀ i : Int, 0 ≤ i → i < s 92 r → bt (s 87 (s (94 + 1 + r.toNat) i)) v = 1 → PP (some (.int (iI i))) (am_hp E s)) : am_wp (d + 1) 48 0 (lv_args 0 [.ref 62, .int (iI r), .int (iI v)]) [] (am_hp E s) PP := by
  obtain ⟨n, en⟩ : ∃ n : Nat, s 92 r - 1 = n := ⟨(s 92 r - 1).toNat, by omega⟩
  refine s_k 0 rfl rfl ?_
  refine am_s rfl rfl ?_
  refine am_lv [(3, .int (iI (((0 : Nat) : Int) : Int))), (2, .int (iI v)), (1, .int (iI r)), (0, .ref 62)] rfl rfl ⟨rfl, rfl, rfl, rfl, trivial⟩ ?_
  refine s_loop (X := Unit) (fun k _ s' => s = s' ∧ ∀ j, 0 ≤ j → j < (k : Int) → bt (s 87 (s (94 + 1 + r.toNat) j)) v ≠ 1) (fun k _ => [(3, .int (iI (k : Int))), (2, .int (iI v)), (1, .int (iI r)), (0, .ref 62)]) (hi := n) (x := ()) (Nat.zero_le n) ⟨rfl, fun j a1 a2 => by omega⟩ ?_ ?_
  · rintro k - s1 hk0 hk ⟨rfl, hQ⟩ kk
    simp only at kk ⊢
    refine am_s rfl rfl ?_
    refine am_s rfl rfl ?_
    refine s_gr rfl g rfl rfl ?_
    refine am_s rfl rfl ?_
    refine s_ia rfl g rfl ⟨by omega, by omega⟩ (by decide) ?_
    refine s_k 1 rfl rfl ?_
    refine s_isub rfl ?_
    refine s_cge rfl ⟨by omega, by omega⟩ ⟨by omega, by omega⟩ (fun c1 => absurd c1 (by omega)) (fun c1 => ?_)
    refine am_s rfl rfl ?_
    refine am_s rfl rfl ?_
    refine s_gr rfl g rfl rfl ?_
    refine am_s rfl rfl ?_
    refine s_aa rfl g rfl ⟨by omega, by omega⟩ (by decide) ?_
    refine am_s rfl rfl ?_
    refine s_ia rfl g (lo_94 (by omega) (by omega)) ⟨by omega, by omega⟩ (by decide) ?_
    refine am_s rfl rfl ?_
    have hk3 := hg k (by omega) (by omega)
    refine s_cv [_, _] [] rfl g (Or.inl rfl) rfl rfl (Nat.le_of_ble_eq_true rfl) rfl rfl (t_holds (PP := fun rv h => (∃ r2 : Int, rv = some (.int (iI r2)) ∧ ((r2 = 1 ∧ bt (s 87 (s (94 + 1 + r.toNat) k)) v = 1) ∨ (r2 = 0 ∧ bt (s 87 (s (94 + 1 + r.toNat) k)) v ≠ 1))) ∧ h = am_hp E s) g ⟨by omega, by omega⟩ hv ⟨by omega, by omega⟩ (fun z => ⟨⟨1, rfl, Or.inl ⟨rfl, z⟩⟩, rfl⟩) (fun z => ⟨⟨0, rfl, Or.inr ⟨rfl, z⟩⟩, rfl⟩)) ?_
    rintro rv h1 ⟨⟨r2, rfl, hr1⟩, rfl⟩
    refine s_zne rfl ⟨by omega, by omega⟩ (fun c2 => ?_) (fun c2 => ?_)
    · refine am_s rfl rfl ?_
      exact am_r rfl rfl (hPP k (by omega) (by omega) (by omega))
    · refine s_inc rfl rfl ?_
      refine am_s rfl rfl ?_
      refine am_lv [(3, _), (2, _), (1, _), (0, _)] rfl rfl ⟨rfl, rfl, rfl, rfl, trivial⟩ ?_
      refine kk () _ ⟨rfl, fun j a1 a2 => ?_⟩
      by_cases e : j = (k : Int)
      · rw [e]; omega
      · exact hQ j a1 (by omega)
  · rintro - s1 ⟨rfl, hQ⟩
    simp only
    refine am_s rfl rfl ?_
    refine am_s rfl rfl ?_
    refine s_gr rfl g rfl rfl ?_
    refine am_s rfl rfl ?_
    refine s_ia rfl g rfl ⟨by omega, by omega⟩ (by decide) ?_
    refine s_k 1 rfl rfl ?_
    refine s_isub rfl ?_
    refine s_cge rfl ⟨by omega, by omega⟩ ⟨by omega, by omega⟩ (fun c1 => ?_) (fun c1 => absurd c1 (by omega))
    refine am_s rfl rfl ?_
    exact am_r rfl rfl (hPP n (by omega) (by omega) (by
      obtain ⟨j, j0, j1, j2⟩ := hj
      by_cases c : j = (n : Int)
      · rw [c] at j2; exact j2
      · exact absurd j2 (hQ j j0 (by omega))))
