/-! moves of the other one -/
def mm (i k q : Int) : Int := if q ≤ i then q else if q ≤ i + k then i else q - k
def rsf (k i : Int) (t : Int → Int) (y : Int) : Int := if y < i then t y else t (y + k)
def mvf (k i p b : Int) (t : Int → Int) (x : Int) : Int := if x ≤ p then rsf k i t x else if x ≤ p + k then (if b = 0 then t (i + (x - p - 1)) else t (i + k - 1 - (x - p - 1))) else rsf k i t (x - k)
theorem mvf_ok {n k i p b : Int} {t : Int → Int} (hk : 1 ≤ k ∧ k ≤ 3) (hi : 1 ≤ i ∧ i + k ≤ n) (hp : 0 ≤ p ∧ p < n - k) (h : st_ok n t) : st_ok n (mvf k i p b t) := fun y y0 y1 => by
  unfold mvf rsf
  (repeat' split) <;> exact h _ (by omega) (by omega)
set_option maxHeartbeats 4000000 in
theorem t_moveM {d : Nat} {E : am_Ev} {s : am_S} {now k i p b : Int} {PP : Option Value → am_H → Prop} (g : am_Eg E) (hm : my_ok s) (ht : st_ok (s 168 1) (s 183)) (hnow : am_Q now) (hk : 1 ≤ k ∧ k ≤ 3) (hi : 1 ≤ i ∧ i + k ≤ s 168 1) (hp : 0 ≤ p ∧ p < s 168 1 - k) (hb : b = 0 ∨ b = 1) (hE : ¬ tl (s 168 1) (my s) (mvf k i p b (s 183)) (s 168 1).toNat < now → ∀ s', am_Fr [184, 185] s s' → PP (some (.int (iI 0))) (am_hp E s')) (hT : tl (s 168 1) (my s) (mvf k i p b (s 183)) (s 168 1).toNat < now → ∀ s', am_Fr [183, 184, 185] s s' → (∀ c, s' 183 c = if 0 ≤ c ∧ c < s 168 1 then mvf k i p b (s 183) c else s 183 c) → PP (some (.int (iI 1))) (am_hp E s')) : am_wp (d + 3) 210 0 (lv_args 0 [.ref 168, .long (lI now), .int (iI k), .int (iI i), .int (iI p), .int (iI b)]) [] (am_hp E s) PP := by
  have hm0 := hm
  obtain ⟨n1, n2, hD⟩ := hm0
  obtain ⟨n, en⟩ : ∃ n : Nat, s 168 1 = n := ⟨(s 168 1).toNat, by omega⟩
  refine s_k 0 rfl rfl ?_
  refine am_s rfl rfl ?_
  refine s_k 0 rfl rfl ?_
  refine am_s rfl rfl ?_
  refine am_lv [(8, .int (iI (((0 : Nat) : Int) : Int))), (7, .int (iI 0)), (6, .int (iI b)), (5, .int (iI p)), (4, .int (iI i)), (3, .int (iI k)), (1, .long (lI now)), (0, .ref 168)] rfl rfl ⟨rfl, rfl, rfl, rfl, rfl, rfl, rfl, rfl, trivial⟩ ?_
  refine s_loop (X := Int) (fun q x s' => am_Fr [185] s s' ∧ x = mm i k q ∧ ∀ y, 0 ≤ y → y < x → s' 185 y = rsf k i (s 183) y) (fun q x => [(8, .int (iI (q : Int))), (7, .int (iI x)), (6, .int (iI b)), (5, .int (iI p)), (4, .int (iI i)), (3, .int (iI k)), (1, .long (lI now)), (0, .ref 168)]) (hi := n) (x := 0) (Nat.zero_le n) ⟨am_Fr_r _ _, by unfold mm; rw [if_pos (by omega)]; rfl, fun c c0 c1 => by omega⟩ ?_ ?_
  · rintro q x s1 hq0 hqn ⟨hF, hx, hV⟩ kk
    have eNs1 : s1 168 1 = n := by rw [hF 168 (by decide)]; exact en
    have hxr : 0 ≤ x ∧ x ≤ (q : Int) := by rw [hx]; unfold mm; (repeat' split) <;> omega
    simp only at kk ⊢
    refine am_s rfl rfl ?_
    refine am_s rfl rfl ?_
    refine s_gi (x := 1) rfl g rfl rfl rfl ?_
    refine s_cge rfl ⟨by omega, by omega⟩ ⟨by omega, by omega⟩ (fun c1 => absurd c1 (by omega)) (fun c1 => ?_)
    refine am_s rfl rfl ?_
    refine am_s rfl rfl ?_
    refine s_clt rfl ⟨by omega, by omega⟩ ⟨by omega, by omega⟩ (fun c2 => ?_) (fun c2 => ?_)
    · refine am_s rfl rfl ?_
      refine s_gr rfl g rfl rfl ?_
      refine am_s rfl rfl ?_
      refine am_s rfl rfl ?_
      refine s_gr rfl g rfl rfl ?_
      refine am_s rfl rfl ?_
      refine s_ia rfl g rfl ⟨by omega, by omega⟩ (by decide) ?_
      refine s_is rfl g rfl ⟨by omega, by omega⟩ (by decide) ?_
      refine s_inc rfl rfl ?_
      refine s_inc rfl rfl ?_
      refine am_s rfl rfl ?_
      refine am_lv [(8, _), (7, _), (6, _), (5, _), (4, _), (3, _), (1, _), (0, _)] rfl rfl ⟨rfl, rfl, rfl, rfl, rfl, rfl, rfl, rfl, trivial⟩ ?_
      refine kk (x + 1) _ ⟨am_Fr_W hF (by decide), ?_, fun y y0 y1 => ?_⟩
      · rw [hx]; unfold mm; (repeat' split) <;> omega
      · by_cases e : y = x
        · have ex : x = (q : Int) := by rw [hx]; unfold mm; (repeat' split) <;> omega
          rw [e, am_w_eq, hF 183 (by decide)]; unfold rsf; rw [if_pos (by omega), ex]
        · rw [am_w_x e]; exact hV y y0 (by omega)
    · refine am_s rfl rfl ?_
      refine am_s rfl rfl ?_
      refine am_s rfl rfl ?_
      refine s_iadd rfl ?_
      refine s_clt rfl ⟨by omega, by omega⟩ ⟨by omega, by omega⟩ (fun c3 => ?_) (fun c3 => ?_)
      · refine s_inc rfl rfl ?_
        refine am_s rfl rfl ?_
        refine am_lv [(8, _), (7, _), (6, _), (5, _), (4, _), (3, _), (1, _), (0, _)] rfl rfl ⟨rfl, rfl, rfl, rfl, rfl, rfl, rfl, rfl, trivial⟩ ?_
        exact kk x _ ⟨hF, by rw [hx]; unfold mm; (repeat' split) <;> omega, hV⟩
      · refine am_s rfl rfl ?_
        refine s_gr rfl g rfl rfl ?_
        refine am_s rfl rfl ?_
        refine am_s rfl rfl ?_
        refine s_gr rfl g rfl rfl ?_
        refine am_s rfl rfl ?_
        refine s_ia rfl g rfl ⟨by omega, by omega⟩ (by decide) ?_
        refine s_is rfl g rfl ⟨by omega, by omega⟩ (by decide) ?_
        refine s_inc rfl rfl ?_
        refine s_inc rfl rfl ?_
        refine am_s rfl rfl ?_
        refine am_lv [(8, _), (7, _), (6, _), (5, _), (4, _), (3, _), (1, _), (0, _)] rfl rfl ⟨rfl, rfl, rfl, rfl, rfl, rfl, rfl, rfl, trivial⟩ ?_
        refine kk (x + 1) _ ⟨am_Fr_W hF (by decide), ?_, fun y y0 y1 => ?_⟩
        · rw [hx]; unfold mm; (repeat' split) <;> omega
        · by_cases e : y = x
          · have ex : x + k = (q : Int) := by rw [hx]; unfold mm; (repeat' split) <;> omega
            rw [e, am_w_eq, hF 183 (by decide)]; unfold rsf; rw [if_neg (by omega), ex]
          · rw [am_w_x e]; exact hV y y0 (by omega)
  · rintro x s1 ⟨hF, hx, hV⟩
    have eNs1 : s1 168 1 = n := by rw [hF 168 (by decide)]; exact en
    simp only
    refine am_s rfl rfl ?_
    refine am_s rfl rfl ?_
    refine s_gi (x := 1) rfl g rfl rfl rfl ?_
    refine s_cge rfl ⟨by omega, by omega⟩ ⟨by omega, by omega⟩ (fun c1 => ?_) (fun c1 => absurd c1 (by omega))
    refine s_k 0 rfl rfl ?_
    refine am_s rfl rfl ?_
    refine am_lv [(8, .int (iI (((0 : Nat) : Int) : Int))), (6, .int (iI b)), (5, .int (iI p)), (4, .int (iI i)), (3, .int (iI k)), (1, .long (lI now)), (0, .ref 168)] rfl rfl ⟨rfl, rfl, rfl, rfl, rfl, rfl, rfl, trivial⟩ ?_
    refine s_loop (X := Unit) (fun q _ s' => am_Fr [184, 185] s s' ∧ (∀ y, 0 ≤ y → y < (n : Int) - k → s' 185 y = rsf k i (s 183) y) ∧ ∀ c, 0 ≤ c → c < (q : Int) → s' 184 c = mvf k i p b (s 183) c) (fun q _ => [(8, .int (iI (q : Int))), (6, .int (iI b)), (5, .int (iI p)), (4, .int (iI i)), (3, .int (iI k)), (1, .long (lI now)), (0, .ref 168)]) (hi := n) (x := ()) (Nat.zero_le n) ⟨am_Fr_m hF (by decide), fun y y0 y1 => hV y y0 (by rw [hx]; unfold mm; (repeat' split) <;> omega), fun c c0 c1 => by omega⟩ ?_ ?_
    · rintro q - s2 hq0 hqn ⟨hF, hR, hV⟩ kk
      have eNs2 : s2 168 1 = n := by rw [hF 168 (by decide)]; exact en
      simp only at kk ⊢
      refine am_s rfl rfl ?_
      refine am_s rfl rfl ?_
      refine s_gi (x := 1) rfl g rfl rfl rfl ?_
      refine s_cge rfl ⟨by omega, by omega⟩ ⟨by omega, by omega⟩ (fun c1 => absurd c1 (by omega)) (fun c1 => ?_)
      refine am_s rfl rfl ?_
      refine am_s rfl rfl ?_
      refine s_cgt rfl ⟨by omega, by omega⟩ ⟨by omega, by omega⟩ (fun c2 => ?_) (fun c2 => ?_)
      · refine am_s rfl rfl ?_
        refine am_s rfl rfl ?_
        refine am_s rfl rfl ?_
        refine s_iadd rfl ?_
        refine s_cgt rfl ⟨by omega, by omega⟩ ⟨by omega, by omega⟩ (fun c3 => ?_) (fun c3 => ?_)
        · refine am_s rfl rfl ?_
          refine s_gr rfl g rfl rfl ?_
          refine am_s rfl rfl ?_
          refine am_s rfl rfl ?_
          refine s_gr rfl g rfl rfl ?_
          refine am_s rfl rfl ?_
          refine am_s rfl rfl ?_
          refine s_isub rfl ?_
          refine s_ia rfl g rfl ⟨by omega, by omega⟩ (by decide) ?_
          refine s_is rfl g rfl ⟨by omega, by omega⟩ (by decide) ?_
          refine s_inc rfl rfl ?_
          refine am_s rfl rfl ?_
          refine am_lv [(8, _), (6, _), (5, _), (4, _), (3, _), (1, _), (0, _)] rfl rfl ⟨rfl, rfl, rfl, rfl, rfl, rfl, rfl, trivial⟩ ?_
          refine kk () _ ⟨am_Fr_W hF (by decide), by rw [am_w_row (by decide)]; exact hR, fun c c0 c1 => ?_⟩
          by_cases e : c = (q : Int)
          · rw [e, am_w_eq, hR _ (by omega) (by omega)]; unfold mvf; rw [if_neg (by omega), if_neg (by omega)]
          · rw [am_w_x e]; exact hV c c0 (by omega)
        · refine am_s rfl rfl ?_
          refine am_s rfl rfl ?_
          refine s_isub rfl ?_
          refine s_k 1 rfl rfl ?_
          refine s_isub rfl ?_
          refine am_s rfl rfl ?_
          refine am_s rfl rfl ?_
          refine s_gr rfl g rfl rfl ?_
          refine am_s rfl rfl ?_
          refine am_s rfl rfl ?_
          refine s_gr rfl g rfl rfl ?_
          refine am_s rfl rfl ?_
          refine s_zeq rfl (by rcases hb with z | z <;> exact ⟨by omega, by omega⟩) (fun c4 => ?_) (fun c4 => ?_)
          · refine am_s rfl rfl ?_
            refine am_s rfl rfl ?_
            refine s_iadd rfl ?_
            refine s_ia rfl g rfl ⟨by omega, by omega⟩ (by decide) ?_
            refine s_is rfl g rfl ⟨by omega, by omega⟩ (by decide) ?_
            refine am_s rfl rfl ?_
            refine s_inc rfl rfl ?_
            refine am_s rfl rfl ?_
            refine am_lv [(8, _), (6, _), (5, _), (4, _), (3, _), (1, _), (0, _)] rfl rfl ⟨rfl, rfl, rfl, rfl, rfl, rfl, rfl, trivial⟩ ?_
            refine kk () _ ⟨am_Fr_W hF (by decide), by rw [am_w_row (by decide)]; exact hR, fun c c0 c1 => ?_⟩
            by_cases e : c = (q : Int)
            · rw [e, am_w_eq, hF 183 (by decide)]; unfold mvf; rw [if_neg (by omega), if_pos (by omega), if_pos (by omega)]
            · rw [am_w_x e]; exact hV c c0 (by omega)
          · refine am_s rfl rfl ?_
            refine am_s rfl rfl ?_
            refine s_iadd rfl ?_
            refine s_k 1 rfl rfl ?_
            refine s_isub rfl ?_
            refine am_s rfl rfl ?_
            refine s_isub rfl ?_
            refine am_s rfl rfl ?_
            refine s_ia rfl g rfl ⟨by omega, by omega⟩ (by decide) ?_
            refine s_is rfl g rfl ⟨by omega, by omega⟩ (by decide) ?_
            refine am_s rfl rfl ?_
            refine s_inc rfl rfl ?_
            refine am_s rfl rfl ?_
            refine am_lv [(8, _), (6, _), (5, _), (4, _), (3, _), (1, _), (0, _)] rfl rfl ⟨rfl, rfl, rfl, rfl, rfl, rfl, rfl, trivial⟩ ?_
            refine kk () _ ⟨am_Fr_W hF (by decide), by rw [am_w_row (by decide)]; exact hR, fun c c0 c1 => ?_⟩
            by_cases e : c = (q : Int)
            · rw [e, am_w_eq, hF 183 (by decide)]; unfold mvf; rw [if_neg (by omega), if_pos (by omega), if_neg (by omega)]
            · rw [am_w_x e]; exact hV c c0 (by omega)
      · refine am_s rfl rfl ?_
        refine s_gr rfl g rfl rfl ?_
        refine am_s rfl rfl ?_
        refine am_s rfl rfl ?_
        refine s_gr rfl g rfl rfl ?_
        refine am_s rfl rfl ?_
        refine s_ia rfl g rfl ⟨by omega, by omega⟩ (by decide) ?_
        refine s_is rfl g rfl ⟨by omega, by omega⟩ (by decide) ?_
        refine am_s rfl rfl ?_
        refine s_inc rfl rfl ?_
        refine am_s rfl rfl ?_
        refine am_lv [(8, _), (6, _), (5, _), (4, _), (3, _), (1, _), (0, _)] rfl rfl ⟨rfl, rfl, rfl, rfl, rfl, rfl, rfl, trivial⟩ ?_
        refine kk () _ ⟨am_Fr_W hF (by decide), by rw [am_w_row (by decide)]; exact hR, fun c c0 c1 => ?_⟩
        by_cases e : c = (q : Int)
        · rw [e, am_w_eq, hR _ (by omega) (by omega)]; unfold mvf; rw [if_pos (by omega)]
        · rw [am_w_x e]; exact hV c c0 (by omega)
    · rintro - s2 ⟨hF, hR, hV⟩
      have eNs2 : s2 168 1 = n := by rw [hF 168 (by decide)]; exact en
      simp only
      refine am_s rfl rfl ?_
      refine am_s rfl rfl ?_
      refine s_gi (x := 1) rfl g rfl rfl rfl ?_
      refine s_cge rfl ⟨by omega, by omega⟩ ⟨by omega, by omega⟩ (fun c1 => ?_) (fun c1 => absurd c1 (by omega))
      refine am_s rfl rfl ?_
      refine am_s rfl rfl ?_
      have e169 : my s2 = my s := by unfold my; rw [hF 169 (by decide)]
      have m3 : my_ok s2 := by
        unfold my_ok at hm ⊢
        rw [e169, hF 168 (by decide)]
        exact hm
      have ht2 : st_ok n (mvf k i p b (s 183)) := mvf_ok hk ⟨by omega, by omega⟩ ⟨by omega, by omega⟩ (by rw [← en]; exact ht)
      have t3 : st_ok (s2 168 1) (s2 184) := by
        rw [eNs2]
        intro y y0 y1
        rw [hV y y0 y1]
        exact ht2 y y0 y1
      have et : tl (s2 168 1) (my s2) (s2 184) (s2 168 1).toNat = tl (s 168 1) (my s) (mvf k i p b (s 183)) (s 168 1).toNat := by
        rw [e169, eNs2, en]
        exact tl_congr (fun _ _ _ _ _ _ => rfl) (by rw [eNs2] at t3; exact t3) (fun y y0 y1 => hV y y0 y1) _ (by omega)
      have bq := tl_le (n := (n : Int)) (D := my s) (fun a b a0 a1 b0 b1 => hD a b a0 (by omega) b0 (by omega)) ht2 n (by omega)
      have hq3 : am_Q (tl (s2 168 1) (my s2) (s2 184) (s2 168 1).toNat) := by
        rw [et, en, Int.toNat_natCast]
        exact ⟨by omega, by omega⟩
      have hcp : ∀ c : Int, (if 0 ≤ c ∧ c < (n : Int) then s2 184 c else s 183 c) = if 0 ≤ c ∧ c < (n : Int) then mvf k i p b (s 183) c else s 183 c := fun c => by
        by_cases e : 0 ≤ c ∧ c < (n : Int)
        · rw [if_pos e, if_pos e, hV c e.1 e.2]
        · rw [if_neg e, if_neg e]
      refine s_cv [_] [] rfl g (Or.inl rfl) rfl rfl (Nat.le_of_ble_eq_true rfl) rfl rfl (t_takes (PP := fun rv h => (rv = some (.int (iI 0)) ∨ rv = some (.int (iI 1))) ∧ PP rv h) g m3 t3 hnow hq3 (fun z => ⟨Or.inl rfl, hE (by rw [et] at z; exact z) s2 hF⟩) (fun z s' z1 z2 => ⟨Or.inr rfl, hT (by rw [et] at z; exact z) s' (am_Fr_u (am_Fr_m hF (by decide)) (am_Fr_m z1 (by decide))) (fun c => by rw [z2 c, eNs2, en, hF 183 (by decide)]; exact hcp c)⟩)) ?_
      rintro rv h1 ⟨rfl | rfl, hh⟩
      · exact am_r rfl rfl hh
      · exact am_r rfl rfl hh
