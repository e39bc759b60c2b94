def rvf (a b : Int) (t : Int → Int) : Int → Int := fun y => if a ≤ y ∧ y ≤ b then t (a + b - y) else t y
theorem rvf_ok {n a b : Int} {t : Int → Int} (ha : 0 ≤ a) (hb : b < n) (h : st_ok n t) : st_ok n (rvf a b t) := fun y y0 y1 => by
  unfold rvf
  split
  · exact h _ (by omega) (by omega)
  · exact h y y0 y1
/-- what the other one asks of a turn: the whole tour is shorter -/
def ty (n : Int) (D : Int → Int → Int) (t : Int → Int) (now : Int) (i j : Int) : Prop := tl n D (rvf (i + 1) j t) n.toNat < now
set_option maxHeartbeats 4000000 in
theorem t_turnsM {d : Nat} {E : am_Ev} {s : am_S} {now : Int} {PP : Option Value → am_H → Prop} (g : am_Eg E) (hm : my_ok s) (ht : st_ok (s 168 1) (s 183)) (hnow : am_Q now) (hPP : ∀ r s', am_Fr [183, 184] s s' → tu_is (s 168 1) (ty (s 168 1) (my s) (s 183) now) (s 183) (s' 183) r → PP (some (.int (iI r))) (am_hp E s')) : am_wp (d + 3) 209 0 (lv_args 0 [.ref 168, .long (lI now)]) [] (am_hp E s) PP := by
  have hm0 := hm
  obtain ⟨n1, n2, hD⟩ := hm0
  obtain ⟨n, en⟩ : ∃ n : Nat, s 168 1 = n := ⟨(s 168 1).toNat, by omega⟩
  have ht2 : st_ok n (s 183) := by rw [← en]; exact ht
  refine s_k 0 rfl rfl ?_
  refine am_s rfl rfl ?_
  refine am_lv [(3, .int (iI (((0 : Nat) : Int) : Int))), (1, .long (lI now)), (0, .ref 168)] rfl rfl ⟨rfl, rfl, rfl, trivial⟩ ?_
  refine s_loop (X := Unit) (fun k _ s' => am_Fr [184] s s' ∧ ∀ i2 j2, 0 ≤ i2 → i2 < j2 → j2 < s 168 1 → i2 < (k : Int) → ¬ ty (s 168 1) (my s) (s 183) now i2 j2) (fun k _ => [(3, .int (iI (k : Int))), (1, .long (lI now)), (0, .ref 168)]) (hi := n) (x := ()) (Nat.zero_le n) ⟨am_Fr_r _ _, fun i2 j2 a1 a2 a3 a4 => by omega⟩ ?_ ?_
  · rintro k - s1 hk0 hk ⟨hF1, hQ⟩ kk
    have eN1 : s1 168 1 = n := by rw [hF1 168 (by decide)]; exact en
    simp only at kk ⊢
    refine am_s rfl rfl ?_
    refine am_s rfl rfl ?_
    refine s_gi (x := 1) rfl g rfl rfl rfl ?_
    refine s_cge rfl ⟨by omega, by omega⟩ ⟨by omega, by omega⟩ (fun c1 => absurd c1 (by omega)) (fun c1 => ?_)
    refine am_s rfl rfl ?_
    refine s_k 1 rfl rfl ?_
    refine s_iadd rfl ?_
    refine am_s rfl rfl ?_
    refine am_lv [(4, .int (iI (((k + 1 : Nat) : Int) : Int))), (3, .int (iI (k : Int))), (1, .long (lI now)), (0, .ref 168)] rfl rfl ⟨rfl, rfl, rfl, rfl, trivial⟩ ?_
    refine s_loop (X := Unit) (fun m _ s' => am_Fr [184] s s' ∧ ∀ j2, (k : Int) < j2 → j2 < (m : Int) → ¬ ty (s 168 1) (my s) (s 183) now k j2) (fun m _ => [(4, .int (iI (m : Int))), (3, .int (iI (k : Int))), (1, .long (lI now)), (0, .ref 168)]) (lo := k + 1) (hi := n) (x := ()) (by omega) ⟨hF1, fun j2 a1 a2 => by omega⟩ ?_ ?_
    · rintro m - s2 hm0 hmn ⟨hF2, hW⟩ k2
      have eN2 : s2 168 1 = n := by rw [hF2 168 (by decide)]; exact en
      simp only at k2 ⊢
      refine am_s rfl rfl ?_
      refine am_s rfl rfl ?_
      refine s_gi (x := 1) rfl g rfl rfl rfl ?_
      refine s_cge rfl ⟨by omega, by omega⟩ ⟨by omega, by omega⟩ (fun c1 => absurd c1 (by omega)) (fun c1 => ?_)
      refine s_k 0 rfl rfl ?_
      refine am_s rfl rfl ?_
      refine am_lv [(5, .int (iI (((0 : Nat) : Int) : Int))), (4, .int (iI (m : Int))), (3, .int (iI (k : Int))), (1, .long (lI now)), (0, .ref 168)] rfl rfl ⟨rfl, rfl, rfl, rfl, rfl, trivial⟩ ?_
      refine s_loop (X := Unit) (fun q _ s' => am_Fr [184] s s' ∧ ∀ c, 0 ≤ c → c < (q : Int) → s' 184 c = rvf ((k : Int) + 1) m (s 183) c) (fun q _ => [(5, .int (iI (q : Int))), (4, .int (iI (m : Int))), (3, .int (iI (k : Int))), (1, .long (lI now)), (0, .ref 168)]) (hi := n) (x := ()) (Nat.zero_le n) ⟨hF2, fun c c0 c1 => by omega⟩ ?_ ?_
      · rintro q - s3 hq0 hqn ⟨hF3, hV3⟩ k3
        have eN3 : s3 168 1 = n := by rw [hF3 168 (by decide)]; exact en
        simp only at k3 ⊢
        refine am_s rfl rfl ?_
        refine am_s rfl rfl ?_
        refine s_gi (x := 1) rfl g rfl rfl rfl ?_
        refine s_cge rfl ⟨by omega, by omega⟩ ⟨by omega, by omega⟩ (fun c1 => absurd c1 (by omega)) (fun c1 => ?_)
        refine am_s rfl rfl ?_
        refine s_gr rfl g rfl rfl ?_
        refine am_s rfl rfl ?_
        refine am_s rfl rfl ?_
        refine am_s rfl rfl ?_
        refine s_cle rfl ⟨by omega, by omega⟩ ⟨by omega, by omega⟩ (fun c2 => ?_) (fun c2 => ?_)
        · refine am_s rfl rfl ?_
          refine s_gr rfl g rfl rfl ?_
          refine am_s rfl rfl ?_
          refine s_ia rfl g rfl ⟨by omega, by omega⟩ (by decide) ?_
          refine s_is rfl g rfl ⟨by omega, by omega⟩ (by decide) ?_
          refine s_inc rfl rfl ?_
          refine am_s rfl rfl ?_
          refine am_lv [(5, _), (4, _), (3, _), (1, _), (0, _)] rfl rfl ⟨rfl, rfl, rfl, rfl, rfl, trivial⟩ ?_
          refine k3 () _ ⟨am_Fr_W hF3 (by decide), fun c c0 c1 => ?_⟩
          by_cases e : c = (q : Int)
          · rw [e, am_w_eq, hF3 183 (by decide)]; unfold rvf; rw [if_neg (by omega)]
          · rw [am_w_x e]; exact hV3 c c0 (by omega)
        · refine am_s rfl rfl ?_
          refine am_s rfl rfl ?_
          refine s_cgt rfl ⟨by omega, by omega⟩ ⟨by omega, by omega⟩ (fun c3 => ?_) (fun c3 => ?_)
          · refine am_s rfl rfl ?_
            refine s_gr rfl g rfl rfl ?_
            refine am_s rfl rfl ?_
            refine s_ia rfl g rfl ⟨by omega, by omega⟩ (by decide) ?_
            refine s_is rfl g rfl ⟨by omega, by omega⟩ (by decide) ?_
            refine s_inc rfl rfl ?_
            refine am_s rfl rfl ?_
            refine am_lv [(5, _), (4, _), (3, _), (1, _), (0, _)] rfl rfl ⟨rfl, rfl, rfl, rfl, rfl, trivial⟩ ?_
            refine k3 () _ ⟨am_Fr_W hF3 (by decide), fun c c0 c1 => ?_⟩
            by_cases e : c = (q : Int)
            · rw [e, am_w_eq, hF3 183 (by decide)]; unfold rvf; rw [if_neg (by omega)]
            · rw [am_w_x e]; exact hV3 c c0 (by omega)
          · refine am_s rfl rfl ?_
            refine s_gr rfl g rfl rfl ?_
            refine am_s rfl rfl ?_
            refine s_k 1 rfl rfl ?_
            refine s_iadd rfl ?_
            refine am_s rfl rfl ?_
            refine s_iadd rfl ?_
            refine am_s rfl rfl ?_
            refine s_isub rfl ?_
            refine s_ia rfl g rfl ⟨by omega, by omega⟩ (by decide) ?_
            refine am_s rfl rfl ?_
            refine s_is rfl g rfl ⟨by omega, by omega⟩ (by decide) ?_
            refine s_inc rfl rfl ?_
            refine am_s rfl rfl ?_
            refine am_lv [(5, _), (4, _), (3, _), (1, _), (0, _)] rfl rfl ⟨rfl, rfl, rfl, rfl, rfl, trivial⟩ ?_
            refine k3 () _ ⟨am_Fr_W hF3 (by decide), fun c c0 c1 => ?_⟩
            by_cases e : c = (q : Int)
            · rw [e, am_w_eq, hF3 183 (by decide)]; unfold rvf; rw [if_pos (by omega)]
            · rw [am_w_x e]; exact hV3 c c0 (by omega)
      · rintro - s3 ⟨hF3, hV3⟩
        have eN3 : s3 168 1 = n := by rw [hF3 168 (by decide)]; exact en
        simp only
        refine am_s rfl rfl ?_
        refine am_s rfl rfl ?_
        refine s_gi (x := 1) rfl g rfl rfl rfl ?_
        refine s_cge rfl ⟨by omega, by omega⟩ ⟨by omega, by omega⟩ (fun c1 => ?_) (fun c1 => absurd c1 (by omega))
        refine am_s rfl rfl ?_
        refine am_s rfl rfl ?_
        have e169 : my s3 = my s := by unfold my; rw [hF3 169 (by decide)]
        have m3 : my_ok s3 := by
          unfold my_ok at hm ⊢
          rw [e169, hF3 168 (by decide)]
          exact hm
        have t3 : st_ok (s3 168 1) (s3 184) := by
          rw [eN3]
          intro y y0 y1
          rw [hV3 y y0 y1]
          exact rvf_ok (by omega) (by omega) ht2 y y0 y1
        have et : tl (s3 168 1) (my s3) (s3 184) (s3 168 1).toNat = tl (s 168 1) (my s) (rvf ((k : Int) + 1) m (s 183)) (s 168 1).toNat := by
          rw [e169, eN3, en]
          exact tl_congr (fun _ _ _ _ _ _ => rfl) (by rw [eN3] at t3; exact t3) (fun y y0 y1 => hV3 y y0 y1) _ (by omega)
        have bq := tl_le (n := (n : Int)) (D := my s) (fun a b a0 a1 b0 b1 => hD a b a0 (by omega) b0 (by omega)) (rvf_ok (a := (k : Int) + 1) (b := m) (by omega) (by omega) ht2) n (by omega)
        have hq3 : am_Q (tl (s3 168 1) (my s3) (s3 184) (s3 168 1).toNat) := by
          rw [et, en, Int.toNat_natCast]
          exact ⟨by omega, by omega⟩
        refine s_cv [_] [] rfl g (Or.inl rfl) rfl rfl (Nat.le_of_ble_eq_true rfl) rfl rfl (t_takes (PP := fun rv h => (¬ ty (s 168 1) (my s) (s 183) now k m ∧ rv = some (.int (iI 0)) ∧ h = am_hp E s3) ∨ (ty (s 168 1) (my s) (s 183) now k m ∧ rv = some (.int (iI 1)) ∧ ∃ s', h = am_hp E s' ∧ am_Fr [183] s3 s' ∧ ∀ c, s' 183 c = if 0 ≤ c ∧ c < s3 168 1 then s3 184 c else s3 183 c)) g m3 t3 hnow hq3 (fun z => Or.inl ⟨by rw [et] at z; exact z, rfl, rfl⟩) (fun z s' z1 z2 => Or.inr ⟨by rw [et] at z; exact z, rfl, s', rfl, z1, z2⟩)) ?_
        rintro rv h1 (⟨hy, rfl, rfl⟩ | ⟨hy, rfl, s4, rfl, hF4, hV4⟩)
        · refine s_zeq rfl ⟨by omega, by omega⟩ (fun c1 => ?_) (fun c1 => absurd c1 (by omega))
          refine s_inc rfl rfl ?_
          refine am_s rfl rfl ?_
          refine am_lv [(4, _), (3, _), (1, _), (0, _)] rfl rfl ⟨rfl, rfl, rfl, rfl, trivial⟩ ?_
          refine k2 () _ ⟨hF3, fun j2 a1 a2 => ?_⟩
          by_cases e : j2 = (m : Int)
          · rw [e]; exact hy
          · exact hW j2 a1 (by omega)
        · refine s_zeq rfl ⟨by omega, by omega⟩ (fun c1 => absurd c1 (by omega)) (fun c1 => ?_)
          refine s_k 1 rfl rfl ?_
          refine am_r rfl rfl (hPP 1 s4 (am_Fr_u (am_Fr_m hF3 (by decide)) (am_Fr_m hF4 (by decide))) (Or.inr ⟨rfl, k, m, by omega, by omega, by omega, hy, fun i2 j2 a1 a2 a3 a4 => a4.elim (fun z => hQ i2 j2 a1 a2 a3 z) (fun z => by rw [z.1]; exact hW j2 (by omega) z.2), fun y => ?_⟩))
          rw [hV4 y, hF3 183 (by decide), eN3]
          by_cases e : 0 ≤ y ∧ y < (n : Int)
          · rw [if_pos e, hV3 y e.1 e.2]; rfl
          · rw [if_neg e, if_neg (by omega)]
    · rintro - s2 ⟨hF2, hW⟩
      have eN2 : s2 168 1 = n := by rw [hF2 168 (by decide)]; exact en
      simp only
      refine am_s rfl rfl ?_
      refine am_s rfl rfl ?_
      refine s_gi (x := 1) rfl g rfl rfl rfl ?_
      refine s_cge rfl ⟨by omega, by omega⟩ ⟨by omega, by omega⟩ (fun c1 => ?_) (fun c1 => absurd c1 (by omega))
      refine s_inc rfl rfl ?_
      refine am_s rfl rfl ?_
      refine am_lv [(3, _), (1, _), (0, _)] rfl rfl ⟨rfl, rfl, rfl, trivial⟩ ?_
      refine kk () _ ⟨hF2, fun i2 j2 a1 a2 a3 a4 => ?_⟩
      by_cases e : i2 = (k : Int)
      · rw [e]; exact hW j2 (by omega) (by omega)
      · exact hQ i2 j2 a1 a2 a3 (by omega)
  · rintro - s1 ⟨hF1, hQ⟩
    have eN1 : s1 168 1 = n := by rw [hF1 168 (by decide)]; exact en
    simp only
    refine am_s rfl rfl ?_
    refine am_s rfl rfl ?_
    refine s_gi (x := 1) rfl g rfl rfl rfl ?_
    refine s_cge rfl ⟨by omega, by omega⟩ ⟨by omega, by omega⟩ (fun c1 => ?_) (fun c1 => absurd c1 (by omega))
    refine s_k 0 rfl rfl ?_
    exact am_r rfl rfl (hPP 0 s1 (am_Fr_m hF1 (by decide)) (Or.inl ⟨rfl, fun i2 j2 a1 a2 a3 => hQ i2 j2 a1 a2 a3 (by omega), hF1 183 (by decide)⟩))
