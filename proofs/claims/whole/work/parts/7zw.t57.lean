/-! the matcher: the prices are shifted -/
set_option maxHeartbeats 4000000 in
theorem t_shiftPrices {d : Nat} {E : am_Ev} {s : am_S} (g : am_Eg E) (hn : 0 ≤ s 62 0 ∧ s 62 0 ≤ 20) (hr : ∀ x, 0 ≤ x → x < 30 → 0 ≤ s 87 x ∧ s 87 x < 1048576) (hb : ∀ x, 0 ≤ x → x < 30 → s 87 x ≠ 0 → (0 ≤ s 88 x ∧ s 88 x < 20) ∧ (0 ≤ s 86 (s 88 x) ∧ s 86 (s 88 x) < 30)) (hT : ∀ w, 0 ≤ w → w < s 62 0 → 0 ≤ s 86 w ∧ s 86 w < 30) (hK : ∀ x, 0 ≤ x → x < 30 → 0 ≤ s 89 x ∧ s 89 x ≤ 2) (h0 : am_Q (s 62 1)) : am_wp (d + 1) 35 0 (lv_args 0 [.ref 62]) [] (am_hp E s) (fun rv h => rv = none ∧ ∃ s', h = am_hp E s' ∧ am_Fr [84] s s' ∧ (∀ v, 0 ≤ v → v < (s 62 0 : Int) → s' 84 v = s 84 v + bsg (s 89 (s 86 v)) * s 62 1) ∧ (∀ b, 20 ≤ b → b < (30 : Int) → s' 84 b = s 84 b + (if fdT s b then 2 * bsg (s 89 b) * s 62 1 else 0))) := by
  obtain ⟨n, en⟩ : ∃ n : Nat, s 62 0 = n := ⟨(s 62 0).toNat, by omega⟩
  have h00 := h0
  unfold am_Q at h00
  refine am_s rfl rfl ?_
  refine s_gl (x := 1) rfl g rfl rfl rfl ?_
  refine s_kl 0 rfl rfl ?_
  refine s_jne rfl rfl ⟨by omega, by omega⟩ ⟨by omega, by omega⟩ (fun c1 => ?_) (fun c1 => ?_)
  · refine s_k 0 rfl rfl ?_
    refine am_s rfl rfl ?_
    refine am_lv [(1, .int (iI (((0 : Nat) : Int) : Int))), (0, .ref 62)] rfl rfl ⟨rfl, rfl, trivial⟩ ?_
    refine s_loop (X := Unit) (fun k _ s' => am_Fr [84] s s' ∧ (∀ v, 0 ≤ v → v < (k : Int) → s' 84 v = s 84 v + bsg (s 89 (s 86 v)) * s 62 1) ∧ ∀ v, (k : Int) ≤ v → s' 84 v = s 84 v) (fun k _ => [(1, .int (iI (k : Int))), (0, .ref 62)]) (hi := n) (x := ()) (Nat.zero_le n) ⟨am_Fr_r _ _, fun v v0 v1 => by omega, fun v _ => rfl⟩ ?_ ?_
    · rintro k - s1 hk0 hk1 ⟨hF, hX, hY⟩ kk
      simp only at kk ⊢
      have e62 : s1 62 = s 62 := hF 62 (by decide)
      have e0 : s1 62 0 = s 62 0 := by rw [e62]
      have e86 : s1 86 = s 86 := hF 86 (by decide)
      have e87 : s1 87 = s 87 := hF 87 (by decide)
      have e88 : s1 88 = s 88 := hF 88 (by decide)
      have e89 : s1 89 = s 89 := hF 89 (by decide)
      have ht := hT k (by omega) (by omega)
      have hk := hK (s 86 k) (by omega) (by omega)
      have q1 : s1 86 k = s 86 k := by rw [e86]
      have q2 : bsg (s1 89 (s1 86 k)) = bsg (s 89 (s 86 k)) := by rw [e89, e86]
      have hg := bsg_cases (s 89 (s 86 k))
      have q3 : s1 62 1 = s 62 1 := by rw [e62]
      refine am_s rfl rfl ?_
      refine am_s rfl rfl ?_
      refine s_gi (x := 0) rfl g rfl rfl rfl ?_
      refine s_cge rfl ⟨by omega, by omega⟩ ⟨by omega, by omega⟩ (fun c1 => absurd c1 (by omega)) (fun c1 => ?_)
      refine am_s rfl rfl ?_
      refine s_gr rfl g rfl rfl ?_
      refine am_s rfl rfl ?_
      refine am_s rfl rfl ?_
      refine s_la rfl g rfl ⟨by omega, by omega⟩ (by decide) ?_
      refine am_s rfl rfl ?_
      refine am_s rfl rfl ?_
      refine s_gr rfl g rfl rfl ?_
      refine am_s rfl rfl ?_
      refine s_ia rfl g rfl ⟨by omega, by omega⟩ (by decide) ?_
      refine s_cv [_] [_, _, _] rfl g (Or.inl rfl) rfl rfl (Nat.le_of_ble_eq_true rfl) rfl rfl (t_signOf (s := s1) g ⟨by omega, by omega⟩ (by rw [e89, e86]; exact hk)) ?_
      rintro rv h1 ⟨rfl, rfl⟩
      rw [q2]
      refine s_i2l rfl ⟨by omega, by omega⟩ ?_
      refine am_s rfl rfl ?_
      refine s_gl (x := 1) rfl g rfl rfl rfl ?_
      rw [q3]
      refine s_lmul rfl ?_
      refine s_ladd rfl ?_
      refine s_ls rfl g rfl ⟨by omega, by omega⟩ (by decide) ?_
      refine s_inc rfl rfl ?_
      refine am_s rfl rfl ?_
      refine am_lv [(1, _), (0, _)] rfl rfl ⟨rfl, rfl, trivial⟩ ?_
      refine kk () _ ⟨am_Fr_W hF (by decide), fun v v0 v1 => ?_, fun v v0 => ?_⟩
      · by_cases e : v = (k : Int)
        · rw [e, am_w_eq, hY k (by omega)]
        · rw [am_w_x e]; exact hX v v0 (by omega)
      · rw [am_w_x (by omega)]; exact hY v (by omega)
    · rintro - s1 ⟨hF, hX, hY⟩
      simp only
      have e62 : s1 62 = s 62 := hF 62 (by decide)
      have e0 : s1 62 0 = s 62 0 := by rw [e62]
      refine am_s rfl rfl ?_
      refine am_s rfl rfl ?_
      refine s_gi (x := 0) rfl g rfl rfl rfl ?_
      refine s_cge rfl ⟨by omega, by omega⟩ ⟨by omega, by omega⟩ (fun c1 => ?_) (fun c1 => absurd c1 (by omega))
      refine s_k 20 rfl rfl ?_
      refine am_s rfl rfl ?_
      refine am_lv [(1, .int (iI (((20 : Nat) : Int) : Int))), (0, .ref 62)] rfl rfl ⟨rfl, rfl, trivial⟩ ?_
      refine s_loop (X := Unit) (fun k _ s' => am_Fr [84] s s' ∧ (∀ v, 0 ≤ v → v < (n : Int) → s' 84 v = s 84 v + bsg (s 89 (s 86 v)) * s 62 1) ∧ (∀ b, 20 ≤ b → b < (k : Int) → s' 84 b = s 84 b + (if fdT s b then 2 * bsg (s 89 b) * s 62 1 else 0)) ∧ ∀ b, (k : Int) ≤ b → s' 84 b = s 84 b) (fun k _ => [(1, .int (iI (k : Int))), (0, .ref 62)]) (lo := 20) (hi := 30) (x := ()) (by omega) ⟨hF, hX, fun b b0 b1 => by omega, fun b b0 => hY b (by omega)⟩ ?_ ?_
      · rintro k - s1 hk0 hk1 ⟨hF, hX, hB, hY⟩ kk
        simp only at kk ⊢
        have e62 : s1 62 = s 62 := hF 62 (by decide)
        have e0 : s1 62 0 = s 62 0 := by rw [e62]
        have e86 : s1 86 = s 86 := hF 86 (by decide)
        have e87 : s1 87 = s 87 := hF 87 (by decide)
        have e88 : s1 88 = s 88 := hF 88 (by decide)
        have e89 : s1 89 = s 89 := hF 89 (by decide)
        have hk := hK k (by omega) (by omega)
        have q2 : bsg (s1 89 k) = bsg (s 89 k) := by rw [e89]
        have hg := bsg_cases (s 89 k)
        have q3 : s1 62 1 = s 62 1 := by rw [e62]
        refine am_s rfl rfl ?_
        refine s_k 30 rfl rfl ?_
        refine s_cge rfl ⟨by omega, by omega⟩ ⟨by omega, by omega⟩ (fun c1 => absurd c1 (by omega)) (fun c1 => ?_)
        refine am_s rfl rfl ?_
        refine am_s rfl rfl ?_
        refine s_cv [_] [] rfl g (Or.inl rfl) rfl rfl (Nat.le_of_ble_eq_true rfl) rfl rfl (t_isTop (PP := fun rv h => (∃ r2 : Int, rv = some (.int (iI r2)) ∧ ((r2 = 1 ∧ fdT s k) ∨ (r2 = 0 ∧ ¬ fdT s k))) ∧ h = am_hp E s1) g ⟨by omega, by omega⟩ (by rw [e87]; exact hr k (by omega) (by omega)) (by rw [e87, e88, e86]; exact hb k (by omega) (by omega)) (by rw [e87, e88, e86]; exact fun z1 z2 => ⟨⟨1, rfl, Or.inl ⟨rfl, z1, z2⟩⟩, rfl⟩) (by rw [e87, e88, e86]; exact fun z => ⟨⟨0, rfl, Or.inr ⟨rfl, z⟩⟩, rfl⟩)) ?_
        rintro rv h1 ⟨⟨r2, rfl, hr2⟩, rfl⟩
        refine s_zeq rfl ⟨by omega, by omega⟩ (fun c2 => ?_) (fun c2 => ?_)
        · refine s_inc rfl rfl ?_
          refine am_s rfl rfl ?_
          refine am_lv [(1, _), (0, _)] rfl rfl ⟨rfl, rfl, trivial⟩ ?_
          refine kk () _ ⟨hF, hX, fun b b0 b1 => ?_, fun b b0 => hY b (by omega)⟩
          by_cases e : b = (k : Int)
          · rcases hr2 with ⟨z, -⟩ | ⟨-, z⟩
            · omega
            · rw [e, hY k (by omega), if_neg z]; omega
          · exact hB b b0 (by omega)
        · refine am_s rfl rfl ?_
          refine s_gr rfl g rfl rfl ?_
          refine am_s rfl rfl ?_
          refine am_s rfl rfl ?_
          refine s_la rfl g rfl ⟨by omega, by omega⟩ (by decide) ?_
          refine s_k 2 rfl rfl ?_
          refine am_s rfl rfl ?_
          refine am_s rfl rfl ?_
          refine s_cv [_] [_, _, _, _] rfl g (Or.inl rfl) rfl rfl (Nat.le_of_ble_eq_true rfl) rfl rfl (t_signOf (s := s1) g ⟨by omega, by omega⟩ (by rw [e89]; exact hk)) ?_
          rintro rv h1 ⟨rfl, rfl⟩
          rw [q2]
          refine s_imul rfl ?_
          refine s_i2l rfl ⟨by omega, by omega⟩ ?_
          refine am_s rfl rfl ?_
          refine s_gl (x := 1) rfl g rfl rfl rfl ?_
          rw [q3]
          refine s_lmul rfl ?_
          refine s_ladd rfl ?_
          refine s_ls rfl g rfl ⟨by omega, by omega⟩ (by decide) ?_
          refine s_inc rfl rfl ?_
          refine am_s rfl rfl ?_
          refine am_lv [(1, _), (0, _)] rfl rfl ⟨rfl, rfl, trivial⟩ ?_
          refine kk () _ ⟨am_Fr_W hF (by decide), fun v v0 v1 => ?_, fun b b0 b1 => ?_, fun b b0 => ?_⟩
          · rw [am_w_x (by omega)]; exact hX v v0 v1
          · by_cases e : b = (k : Int)
            · rcases hr2 with ⟨-, z⟩ | ⟨z, -⟩
              · rw [e, am_w_eq, hY k (by omega), if_pos z]
              · omega
            · rw [am_w_x e]; exact hB b b0 (by omega)
          · rw [am_w_x (by omega)]; exact hY b (by omega)
      · rintro - s1 ⟨hF, hX, hB, hY⟩
        simp only
        refine am_s rfl rfl ?_
        refine s_k 30 rfl rfl ?_
        refine s_cge rfl ⟨by omega, by omega⟩ ⟨by omega, by omega⟩ (fun c1 => ?_) (fun c1 => absurd c1 (by omega))
        exact am_r rfl rfl ⟨rfl, s1, rfl, hF, by rw [en]; exact hX, hB⟩
  · exact am_r rfl rfl ⟨rfl, s, rfl, am_Fr_r _ _, fun v _ _ => by rw [show s 62 1 = 0 by omega]; omega, fun b _ _ => by rw [show s 62 1 = 0 by omega]; split <;> omega⟩
