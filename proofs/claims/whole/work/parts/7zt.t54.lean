/-! the matcher: the beginning, the roots -/
theorem t_startOver {d : Nat} {E : am_Ev} {s : am_S} {PP : Option Value → am_H → Prop} (g : am_Eg E) (hC : mC s) (hPP : ∀ (f : Int) s', (∀ a b, 0 ≤ a → a < b → b < s 62 0 → f ≤ s (63 + 1 + (a).toNat) (b)) → (f = 9223372036854775807 ∨ ∃ a b, 0 ≤ a ∧ a < b ∧ b < s 62 0 ∧ f = s (63 + 1 + (a).toNat) (b)) → am_Fr [84, 85, 86, 87, 88] s s' → (∀ v, 0 ≤ v → v < s 62 0 → s' 84 v = f / 2 ∧ s' 85 v = -1 ∧ s' 86 v = v ∧ s' 87 v = p2 v ∧ s' 88 v = v) → (∀ x, s 62 0 ≤ x → x < 30 → s' 87 x = 0) → PP none (am_hp E s')) : am_wp (d + 2) 27 0 (lv_args 0 [.ref 62]) [] (am_hp E s) PP := by
  have hC0 := hC
  obtain ⟨n0, hc⟩ := hC0
  obtain ⟨n, en⟩ : ∃ n : Nat, s 62 0 = n := ⟨(s 62 0).toNat, by omega⟩
  refine am_s rfl rfl ?_
  refine s_cv [] [] rfl g (Or.inl rfl) rfl rfl (Nat.le_of_ble_eq_true rfl) rfl rfl (t_leastCost (PP := fun rv h => ∃ f : Int, rv = some (.long (lI f)) ∧ h = am_hp E s ∧ (∀ a b, 0 ≤ a → a < b → b < s 62 0 → f ≤ s (63 + 1 + (a).toNat) (b)) ∧ (f = 9223372036854775807 ∨ ∃ a b, 0 ≤ a ∧ a < b ∧ b < s 62 0 ∧ f = s (63 + 1 + (a).toNat) (b))) g hC (fun f a b => ⟨f, rfl, rfl, a, b⟩)) ?_
  rintro rv h1 ⟨f, rfl, rfl, hf1, hf2⟩
  have hf0 : 0 ≤ f ∧ f < 9223372036854775808 := by
    rcases hf2 with z | ⟨a, b, a0, ab, b1, z⟩
    · rw [z]; exact ⟨by decide, by decide⟩
    · have := hc a b (by omega) (by omega) (by omega) b1 (by omega)
      rw [z]; exact ⟨by omega, by omega⟩
  refine s_kl 2 rfl rfl ?_
  refine s_ldiv rfl hf0 ⟨by decide, by decide⟩ ?_
  refine am_s rfl rfl ?_
  refine am_s rfl rfl ?_
  refine s_gr rfl g rfl rfl ?_
  refine s_k 0 rfl rfl ?_
  refine am_cs (As := [_, _]) (rest := []) rfl (Or.inl rfl) rfl rfl (Nat.le_of_ble_eq_true rfl) rfl (t_fillI g rfl (by decide)) ?_
  rintro rv h1 ⟨rfl, s2, rfl, hF2, hv2⟩
  refine am_s rfl rfl ?_
  refine s_gr rfl g rfl rfl ?_
  refine s_kl 0 rfl rfl ?_
  refine am_cs (As := [_, _]) (rest := []) rfl (Or.inl rfl) rfl rfl (Nat.le_of_ble_eq_true rfl) rfl (t_fillJ g rfl (by decide)) ?_
  rintro rv h1 ⟨rfl, s3, rfl, hF3, hv3⟩
  refine s_k 0 rfl rfl ?_
  refine am_s rfl rfl ?_
  have hF0 : am_Fr [84, 85, 86, 87, 88] s s3 := am_Fr_u (am_Fr_m hF2 (by decide)) (am_Fr_m hF3 (by decide))
  refine am_lv [(3, .int (iI (((0 : Nat) : Int) : Int))), (1, .long (lI (f / 2))), (0, .ref 62)] rfl rfl ⟨rfl, rfl, rfl, trivial⟩ ?_
  refine s_loop (X := Unit) (fun k _ s' => am_Fr [84, 85, 86, 87, 88] s s' ∧ (∀ v, 0 ≤ v → v < (k : Int) → s' 84 v = f / 2 ∧ s' 85 v = -1 ∧ s' 86 v = v ∧ s' 87 v = p2 v ∧ s' 88 v = v) ∧ ∀ x, (k : Int) ≤ x → x < 30 → s' 87 x = 0) (fun k _ => [(3, .int (iI (k : Int))), (1, .long (lI (f / 2))), (0, .ref 62)]) (hi := n) (x := ()) (Nat.zero_le n) ⟨hF0, fun v v0 v1 => by omega, fun x x0 x1 => by rw [hF3 87 (by decide)]; exact hv2 x (by omega) x1⟩ ?_ ?_
  · rintro k - s1 hk0 hk ⟨hF, hV, hX⟩ kk
    simp only at kk ⊢
    have e62 : s1 62 0 = s 62 0 := by rw [hF 62 (by decide)]
    refine am_s rfl rfl ?_
    refine am_s rfl rfl ?_
    refine s_gi (x := 0) rfl g rfl rfl rfl ?_
    refine s_cge rfl ⟨by omega, by omega⟩ ⟨by omega, by omega⟩ (fun c1 => absurd c1 (by omega)) (fun c1 => ?_)
    refine am_s rfl rfl ?_
    refine s_gr rfl g rfl rfl ?_
    refine am_s rfl rfl ?_
    refine am_s rfl rfl ?_
    refine s_ls rfl g rfl ⟨by omega, by omega⟩ (by decide) ?_
    refine am_s rfl rfl ?_
    refine s_gr rfl g rfl rfl ?_
    refine am_s rfl rfl ?_
    refine s_k 1 rfl rfl ?_
    refine am_s rfl rfl ?_
    refine s_shl1 rfl ⟨by omega, by omega⟩ ?_
    refine s_is rfl g rfl ⟨by omega, by omega⟩ (by decide) ?_
    refine am_s rfl rfl ?_
    refine s_gr rfl g rfl rfl ?_
    refine am_s rfl rfl ?_
    refine s_k (-1) rfl rfl ?_
    refine s_is rfl g rfl ⟨by omega, by omega⟩ (by decide) ?_
    refine am_s rfl rfl ?_
    refine s_gr rfl g rfl rfl ?_
    refine am_s rfl rfl ?_
    refine am_s rfl rfl ?_
    refine s_is rfl g rfl ⟨by omega, by omega⟩ (by decide) ?_
    refine am_s rfl rfl ?_
    refine s_gr rfl g rfl rfl ?_
    refine am_s rfl rfl ?_
    refine am_s rfl rfl ?_
    refine s_is rfl g rfl ⟨by omega, by omega⟩ (by decide) ?_
    refine s_inc rfl rfl ?_
    refine am_s rfl rfl ?_
    refine am_lv [(3, _), (1, _), (0, _)] rfl rfl ⟨rfl, rfl, rfl, trivial⟩ ?_
    refine kk () _ ⟨am_Fr_W (am_Fr_W (am_Fr_W (am_Fr_W (am_Fr_W hF (by decide)) (by decide)) (by decide)) (by decide)) (by decide), fun v v0 v1 => ?_, fun x x0 x1 => ?_⟩
    · by_cases e : v = (k : Int)
      · rw [e]
        refine ⟨?_, ?_, ?_, ?_, ?_⟩ <;> simp [am_w]
      · have q := hV v v0 (by omega)
        refine ⟨?_, ?_, ?_, ?_, ?_⟩ <;> simp [am_w, e, q]
    · have q := hX x (by omega) x1
      have e : x ≠ (k : Int) := by omega
      simp [am_w, e, q]
  · rintro - s1 ⟨hF, hV, hX⟩
    simp only
    have e62 : s1 62 0 = s 62 0 := by rw [hF 62 (by decide)]
    refine am_s rfl rfl ?_
    refine am_s rfl rfl ?_
    refine s_gi (x := 0) rfl g rfl rfl rfl ?_
    refine s_cge rfl ⟨by omega, by omega⟩ ⟨by omega, by omega⟩ (fun c1 => ?_) (fun c1 => absurd c1 (by omega))
    exact am_r rfl rfl (hPP f s1 hf1 hf2 hF (fun v v0 v1 => hV v v0 (by omega)) (fun x x0 x1 => hX x (by omega) x1))
theorem t_markRoots {d : Nat} {E : am_Ev} {s : am_S} (g : am_Eg E) (hr : ∀ x, 0 ≤ x → x < 30 → 0 ≤ s 87 x ∧ s 87 x < 1048576) (hb : ∀ x, 0 ≤ x → x < 30 → s 87 x ≠ 0 → ((0 ≤ s 88 x ∧ s 88 x < 20) ∧ (0 ≤ s 86 (s 88 x) ∧ s 86 (s 88 x) < 30)) ∧ -1 ≤ s 85 (s 88 x) ∧ s 85 (s 88 x) < 20) : am_wp (d + 1) 31 0 (lv_args 0 [.ref 62]) [] (am_hp E s) (fun rv h => rv = none ∧ ∃ s', h = am_hp E s' ∧ am_Fr [89] s s' ∧ ∀ x, 0 ≤ x → x < 30 → s' 89 x = if (s 87 x ≠ 0 ∧ s 86 (s 88 x) = x) ∧ s 85 (s 88 x) = -1 then 1 else 0) := by
  refine s_k 0 rfl rfl ?_
  refine am_s rfl rfl ?_
  refine am_lv [(1, .int (iI (((0 : Nat) : Int) : Int))), (0, .ref 62)] rfl rfl ⟨rfl, rfl, trivial⟩ ?_
  refine s_loop (X := Unit) (fun k _ s' => am_Fr [89] s s' ∧ ∀ x, 0 ≤ x → x < (k : Int) → s' 89 x = if (s 87 x ≠ 0 ∧ s 86 (s 88 x) = x) ∧ s 85 (s 88 x) = -1 then 1 else 0) (fun k _ => [(1, .int (iI (k : Int))), (0, .ref 62)]) (hi := 30) (x := ()) (by omega) ⟨am_Fr_r _ _, fun x x0 x1 => by omega⟩ ?_ ?_
  · rintro k - s1 hk0 hk ⟨hF, hV⟩ kk
    simp only at kk ⊢
    have e85 : s1 85 = s 85 := hF 85 (by decide)
    have e86 : s1 86 = s 86 := hF 86 (by decide)
    have e87 : s1 87 = s 87 := hF 87 (by decide)
    have e88 : s1 88 = s 88 := hF 88 (by decide)
    refine am_s rfl rfl ?_
    refine s_k 30 rfl rfl ?_
    refine s_cge rfl ⟨by omega, by omega⟩ ⟨by omega, by omega⟩ (fun c1 => absurd c1 (by omega)) (fun c1 => ?_)
    refine am_s rfl rfl ?_
    refine s_gr rfl g rfl rfl ?_
    refine am_s rfl rfl ?_
    refine am_s rfl rfl ?_
    refine am_s rfl rfl ?_
    have hb1 := hb k (by omega) (by omega)
    refine s_cv [_] [_, _] rfl g (Or.inl rfl) rfl rfl (Nat.le_of_ble_eq_true rfl) rfl rfl (t_isTop (PP := fun rv h => (∃ r2 : Int, rv = some (.int (iI r2)) ∧ ((r2 = 1 ∧ s 87 k ≠ 0 ∧ s 86 (s 88 k) = k) ∨ (r2 = 0 ∧ ¬ (s 87 k ≠ 0 ∧ s 86 (s 88 k) = k)))) ∧ h = am_hp E s1) g ⟨by omega, by omega⟩ (by rw [e87]; exact hr k (by omega) (by omega)) (by rw [e87, e88, e86]; exact fun z => (hb1 z).1) (by rw [e87, e88, e86]; exact fun z1 z2 => ⟨⟨1, rfl, Or.inl ⟨rfl, z1, z2⟩⟩, rfl⟩) (by rw [e87, e88, e86]; exact fun z => ⟨⟨0, rfl, Or.inr ⟨rfl, z⟩⟩, rfl⟩)) ?_
    rintro rv h1 ⟨⟨r2, rfl, hr2⟩, rfl⟩
    refine s_zeq rfl ⟨by omega, by omega⟩ (fun c2 => ?_) (fun c2 => ?_)
    · refine s_k 0 rfl rfl ?_
      refine s_is rfl g rfl ⟨by omega, by omega⟩ (by decide) ?_
      refine s_inc rfl rfl ?_
      refine am_s rfl rfl ?_
      refine am_lv [(1, _), (0, _)] rfl rfl ⟨rfl, rfl, trivial⟩ ?_
      refine kk () _ ⟨am_Fr_W hF (by decide), fun x x0 x1 => ?_⟩
      by_cases e : x = (k : Int)
      · rw [e, am_w_eq, if_neg (fun z => by omega)]
      · rw [am_w_x e]; exact hV x x0 (by omega)
    · have hb2 := hb1 (by omega)
      have e1 : s1 88 k = s 88 k := by rw [e88]
      have e2 : s1 85 (s1 88 k) = s 85 (s 88 k) := by rw [e85, e88]
      refine am_s rfl rfl ?_
      refine s_gr rfl g rfl rfl ?_
      refine am_s rfl rfl ?_
      refine s_gr rfl g rfl rfl ?_
      refine am_s rfl rfl ?_
      refine s_ia rfl g rfl ⟨by omega, by omega⟩ (by decide) ?_
      refine s_ia rfl g rfl ⟨by omega, by omega⟩ (by decide) ?_
      refine s_k (-1) rfl rfl ?_
      refine s_cne rfl ⟨by omega, by omega⟩ ⟨by omega, by omega⟩ (fun c3 => ?_) (fun c3 => ?_)
      · refine s_k 0 rfl rfl ?_
        refine s_is rfl g rfl ⟨by omega, by omega⟩ (by decide) ?_
        refine s_inc rfl rfl ?_
        refine am_s rfl rfl ?_
        refine am_lv [(1, _), (0, _)] rfl rfl ⟨rfl, rfl, trivial⟩ ?_
        refine kk () _ ⟨am_Fr_W hF (by decide), fun x x0 x1 => ?_⟩
        by_cases e : x = (k : Int)
        · rw [e, am_w_eq, if_neg (fun z => by omega)]
        · rw [am_w_x e]; exact hV x x0 (by omega)
      · refine s_k 1 rfl rfl ?_
        refine am_s rfl rfl ?_
        refine s_is rfl g rfl ⟨by omega, by omega⟩ (by decide) ?_
        refine s_inc rfl rfl ?_
        refine am_s rfl rfl ?_
        refine am_lv [(1, _), (0, _)] rfl rfl ⟨rfl, rfl, trivial⟩ ?_
        refine kk () _ ⟨am_Fr_W hF (by decide), fun x x0 x1 => ?_⟩
        by_cases e : x = (k : Int)
        · rw [e, am_w_eq, if_pos ⟨by omega, by omega⟩]
        · rw [am_w_x e]; exact hV x x0 (by omega)
  · rintro - s1 ⟨hF, hV⟩
    simp only
    refine am_s rfl rfl ?_
    refine s_k 30 rfl rfl ?_
    refine s_cge rfl ⟨by omega, by omega⟩ ⟨by omega, by omega⟩ (fun c1 => ?_) (fun c1 => absurd c1 (by omega))
    exact am_r rfl rfl ⟨rfl, s1, rfl, hF, fun x x0 x1 => hV x x0 (by omega)⟩
