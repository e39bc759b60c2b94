def mY (n : Int) (D : Int → Int → Int) (t : Int → Int) (now k i p b : Int) : Prop := tl n D (mvf k i p b t) n.toNat < now
def mN (n : Int) (D : Int → Int → Int) (t : Int → Int) (now k i p : Int) : Prop := ¬ mY n D t now k i p 0 ∧ ¬ mY n D t now k i p 1
/-- the first move that makes the tour shorter is made, or none does -/
def mv_M (n : Int) (D : Int → Int → Int) (now : Int) (t t2 : Int → Int) (r : Int) : Prop := (r = 0 ∧ (∀ k i p, 1 ≤ k → k ≤ 3 → 1 ≤ i → i + k ≤ n → 0 ≤ p → p < n - k → mN n D t now k i p) ∧ t2 = t) ∨ (r = 1 ∧ ∃ k i p b, 1 ≤ k ∧ k ≤ 3 ∧ 1 ≤ i ∧ i + k ≤ n ∧ 0 ≤ p ∧ p < n - k ∧ (∀ k2 i2 p2, 1 ≤ k2 → k2 ≤ 3 → 1 ≤ i2 → i2 + k2 ≤ n → 0 ≤ p2 → p2 < n - k2 → (k2 < k ∨ k2 = k ∧ (i2 < i ∨ i2 = i ∧ p2 < p)) → mN n D t now k2 i2 p2) ∧ mY n D t now k i p b ∧ (b = 0 ∨ b = 1 ∧ ¬ mY n D t now k i p 0) ∧ ∀ c, t2 c = if 0 ≤ c ∧ c < n then mvf k i p b t c else t c)
theorem t_moveM2 {d : Nat} {E : am_Ev} {s s1 : am_S} {now k i p b : Int} (g : am_Eg E) (hm : my_ok s) (ht : st_ok (s 168 1) (s 183)) (hnow : am_Q now) (hF : am_Fr [184, 185] s s1) (hk : 1 ≤ k ∧ k ≤ 3) (hi : 1 ≤ i ∧ i + k ≤ s 168 1) (hp : 0 ≤ p ∧ p < s 168 1 - k) (hb : b = 0 ∨ b = 1) : am_wp (d + 3) 210 0 (lv_args 0 [.ref 168, .long (lI now), .int (iI k), .int (iI i), .int (iI p), .int (iI b)]) [] (am_hp E s1) (fun rv h => (¬ mY (s 168 1) (my s) (s 183) now k i p b ∧ rv = some (.int (iI 0)) ∧ ∃ s', h = am_hp E s' ∧ am_Fr [184, 185] s s') ∨ (mY (s 168 1) (my s) (s 183) now k i p b ∧ rv = some (.int (iI 1)) ∧ ∃ s', h = am_hp E s' ∧ am_Fr [183, 184, 185] s s' ∧ ∀ c, s' 183 c = if 0 ≤ c ∧ c < s 168 1 then mvf k i p b (s 183) c else s 183 c)) := by
  have e1 : s1 168 = s 168 := hF 168 (by decide)
  have e2 : s1 183 = s 183 := hF 183 (by decide)
  have e3 : my s1 = my s := by unfold my; rw [hF 169 (by decide)]
  refine t_moveM g (by unfold my_ok at hm ⊢; rw [e3, e1]; exact hm) (by rw [e1, e2]; exact ht) hnow hk (by rw [e1]; exact hi) (by rw [e1]; exact hp) hb (fun z s' z1 => Or.inl ⟨?_, rfl, s', rfl, am_Fr_u hF z1⟩) (fun z s' z1 z2 => Or.inr ⟨?_, rfl, s', rfl, am_Fr_u (am_Fr_m hF (by decide)) z1, ?_⟩)
  · rw [e1, e2, e3] at z; exact z
  · rw [e1, e2, e3] at z; exact z
  · rw [e1, e2] at z2; exact z2
set_option maxHeartbeats 4000000 in
theorem t_movesM {d : Nat} {E : am_Ev} {s : am_S} {now : Int} {PP : Option Value → am_H → Prop} (g : am_Eg E) (hm : my_ok s) (ht : st_ok (s 168 1) (s 183)) (hnow : am_Q now) (hPP : ∀ r s', am_Fr [183, 184, 185] s s' → mv_M (s 168 1) (my s) now (s 183) (s' 183) r → PP (some (.int (iI r))) (am_hp E s')) : am_wp (d + 4) 211 0 (lv_args 0 [.ref 168, .long (lI now)]) [] (am_hp E s) PP := by
  have hm0 := hm
  obtain ⟨n1, n2, hD⟩ := hm0
  obtain ⟨n, en⟩ : ∃ n : Nat, s 168 1 = n := ⟨(s 168 1).toNat, by omega⟩
  refine s_k 1 rfl rfl ?_
  refine am_s rfl rfl ?_
  refine am_lv [(3, .int (iI (((1 : Nat) : Int) : Int))), (1, .long (lI now)), (0, .ref 168)] rfl rfl ⟨rfl, rfl, rfl, trivial⟩ ?_
  refine s_loop (X := Unit) (fun k _ s' => am_Fr [184, 185] s s' ∧ ∀ k2 i2 p2, 1 ≤ k2 → k2 < (k : Int) → 1 ≤ i2 → i2 + k2 ≤ s 168 1 → 0 ≤ p2 → p2 < s 168 1 - k2 → mN (s 168 1) (my s) (s 183) now k2 i2 p2) (fun k _ => [(3, .int (iI (k : Int))), (1, .long (lI now)), (0, .ref 168)]) (lo := 1) (hi := 4) (x := ()) (by decide) ⟨am_Fr_r _ _, fun k2 i2 p2 a1 a2 => by omega⟩ ?_ ?_
  · rintro k - s1 hk0 hk ⟨hF1, hQ⟩ kk
    have eNs1 : s1 168 1 = n := by rw [hF1 168 (by decide)]; exact en
    simp only at kk ⊢
    refine am_s rfl rfl ?_
    refine s_k 4 rfl rfl ?_
    refine s_cge rfl ⟨by omega, by omega⟩ ⟨by omega, by omega⟩ (fun c1 => absurd c1 (by omega)) (fun c1 => ?_)
    refine s_k 1 rfl rfl ?_
    refine am_s rfl rfl ?_
    obtain ⟨q, hq1, hq⟩ : ∃ q : Nat, 1 ≤ q ∧ ((q : Int) = s 168 1 + 1 - k ∨ s 168 1 + 1 - k < 1 ∧ q = 1) := by
      by_cases e : s 168 1 + 1 - k < 1
      · exact ⟨1, Nat.le_refl 1, Or.inr ⟨e, rfl⟩⟩
      · exact ⟨(s 168 1 + 1 - k).toNat, by omega, Or.inl (by omega)⟩
    refine am_lv [(4, .int (iI (((1 : Nat) : Int) : Int))), (3, .int (iI (k : Int))), (1, .long (lI now)), (0, .ref 168)] rfl rfl ⟨rfl, rfl, rfl, rfl, trivial⟩ ?_
    refine s_loop (X := Unit) (fun i _ s' => am_Fr [184, 185] s s' ∧ ∀ i2 p2, 1 ≤ i2 → i2 < (i : Int) → 0 ≤ p2 → p2 < s 168 1 - k → mN (s 168 1) (my s) (s 183) now k i2 p2) (fun i _ => [(4, .int (iI (i : Int))), (3, .int (iI (k : Int))), (1, .long (lI now)), (0, .ref 168)]) (lo := 1) (hi := q) (x := ()) hq1 ⟨hF1, fun i2 p2 a1 a2 => by omega⟩ ?_ ?_
    · rintro i - s2 hi0 hin ⟨hF2, hW⟩ k2
      have eNs2 : s2 168 1 = n := by rw [hF2 168 (by decide)]; exact en
      simp only at k2 ⊢
      refine am_s rfl rfl ?_
      refine am_s rfl rfl ?_
      refine s_iadd rfl ?_
      refine am_s rfl rfl ?_
      refine s_gi (x := 1) rfl g rfl rfl rfl ?_
      refine s_cgt rfl ⟨by omega, by omega⟩ ⟨by omega, by omega⟩ (fun c1 => absurd c1 (by omega)) (fun c1 => ?_)
      refine s_k 0 rfl rfl ?_
      refine am_s rfl rfl ?_
      obtain ⟨q2, eq2⟩ : ∃ q2 : Nat, (q2 : Int) = s 168 1 - k := ⟨(s 168 1 - k).toNat, by omega⟩
      refine am_lv [(5, .int (iI (((0 : Nat) : Int) : Int))), (4, .int (iI (i : Int))), (3, .int (iI (k : Int))), (1, .long (lI now)), (0, .ref 168)] rfl rfl ⟨rfl, rfl, rfl, rfl, rfl, trivial⟩ ?_
      refine s_loop (X := Unit) (fun p _ s' => am_Fr [184, 185] s s' ∧ ∀ p2, 0 ≤ p2 → p2 < (p : Int) → mN (s 168 1) (my s) (s 183) now k i p2) (fun p _ => [(5, .int (iI (p : Int))), (4, .int (iI (i : Int))), (3, .int (iI (k : Int))), (1, .long (lI now)), (0, .ref 168)]) (hi := q2) (x := ()) (Nat.zero_le q2) ⟨hF2, fun p2 a1 a2 => by omega⟩ ?_ ?_
      · rintro p - s3 hp0 hpn ⟨hF3, hU⟩ k3
        have eNs3 : s3 168 1 = n := by rw [hF3 168 (by decide)]; exact en
        simp only at k3 ⊢
        refine am_s rfl rfl ?_
        refine am_s rfl rfl ?_
        refine s_gi (x := 1) rfl g rfl rfl rfl ?_
        refine am_s rfl rfl ?_
        refine s_isub rfl ?_
        refine s_cge rfl ⟨by omega, by omega⟩ ⟨by omega, by omega⟩ (fun c1 => absurd c1 (by omega)) (fun c1 => ?_)
        refine am_s rfl rfl ?_
        refine am_s rfl rfl ?_
        refine am_s rfl rfl ?_
        refine am_s rfl rfl ?_
        refine am_s rfl rfl ?_
        refine s_k 0 rfl rfl ?_
        refine s_cv [_, _, _, _, _] [] rfl g (Or.inl rfl) rfl rfl (Nat.le_of_ble_eq_true rfl) rfl rfl (t_moveM2 (b := 0) (k := k) (i := i) (p := p) g hm ht hnow hF3 ⟨by omega, by omega⟩ ⟨by omega, by omega⟩ ⟨by omega, by omega⟩ (Or.inl rfl)) ?_
        rintro rv h1 (⟨y0, rfl, s4, rfl, hF4⟩ | ⟨y0, rfl, s9, rfl, hF9, hV9⟩)
        · refine s_zne rfl ⟨by omega, by omega⟩ (fun c1 => absurd c1 (by omega)) (fun c1 => ?_)
          refine am_s rfl rfl ?_
          refine am_s rfl rfl ?_
          refine am_s rfl rfl ?_
          refine am_s rfl rfl ?_
          refine am_s rfl rfl ?_
          refine s_k 1 rfl rfl ?_
          refine s_cv [_, _, _, _, _] [] rfl g (Or.inl rfl) rfl rfl (Nat.le_of_ble_eq_true rfl) rfl rfl (t_moveM2 (b := 1) (k := k) (i := i) (p := p) g hm ht hnow hF4 ⟨by omega, by omega⟩ ⟨by omega, by omega⟩ ⟨by omega, by omega⟩ (Or.inr rfl)) ?_
          rintro rv h1 (⟨y1, rfl, s5, rfl, hF5⟩ | ⟨y1, rfl, s9, rfl, hF9, hV9⟩)
          · refine s_zeq rfl ⟨by omega, by omega⟩ (fun c1 => ?_) (fun c1 => absurd c1 (by omega))
            refine s_inc rfl rfl ?_
            refine am_s rfl rfl ?_
            refine am_lv [(5, _), (4, _), (3, _), (1, _), (0, _)] rfl rfl ⟨rfl, rfl, rfl, rfl, rfl, trivial⟩ ?_
            refine k3 () _ ⟨hF5, fun p2 a1 a2 => ?_⟩
            by_cases e : p2 = (p : Int)
            · rw [e]; exact ⟨y0, y1⟩
            · exact hU p2 a1 (by omega)
          · refine s_zeq rfl ⟨by omega, by omega⟩ (fun c1 => absurd c1 (by omega)) (fun c1 => ?_)
            refine s_k 1 rfl rfl ?_
            exact am_r rfl rfl (hPP 1 s9 hF9 (Or.inr ⟨rfl, k, i, p, 1, by omega, by omega, by omega, by omega, by omega, by omega, fun k2 i2 p2 a1 a2 a3 a4 a5 a6 a7 => a7.elim (fun z => hQ k2 i2 p2 a1 z a3 a4 a5 a6) (fun z => by rw [z.1] at a6 ⊢; exact z.2.elim (fun z2 => hW i2 p2 a3 z2 a5 a6) (fun z2 => by rw [z2.1]; exact hU p2 a5 z2.2)), y1, Or.inr ⟨rfl, y0⟩, hV9⟩))
        · refine s_zne rfl ⟨by omega, by omega⟩ (fun c1 => ?_) (fun c1 => absurd c1 (by omega))
          refine s_k 1 rfl rfl ?_
          exact am_r rfl rfl (hPP 1 s9 hF9 (Or.inr ⟨rfl, k, i, p, 0, by omega, by omega, by omega, by omega, by omega, by omega, fun k2 i2 p2 a1 a2 a3 a4 a5 a6 a7 => a7.elim (fun z => hQ k2 i2 p2 a1 z a3 a4 a5 a6) (fun z => by rw [z.1] at a6 ⊢; exact z.2.elim (fun z2 => hW i2 p2 a3 z2 a5 a6) (fun z2 => by rw [z2.1]; exact hU p2 a5 z2.2)), y0, Or.inl rfl, hV9⟩))
      · rintro - s3 ⟨hF3, hU⟩
        have eNs3 : s3 168 1 = n := by rw [hF3 168 (by decide)]; exact en
        simp only
        refine am_s rfl rfl ?_
        refine am_s rfl rfl ?_
        refine s_gi (x := 1) rfl g rfl rfl rfl ?_
        refine am_s rfl rfl ?_
        refine s_isub rfl ?_
        refine s_cge rfl ⟨by omega, by omega⟩ ⟨by omega, by omega⟩ (fun c1 => ?_) (fun c1 => absurd c1 (by omega))
        refine s_inc rfl rfl ?_
        refine am_s rfl rfl ?_
        refine am_lv [(4, _), (3, _), (1, _), (0, _)] rfl rfl ⟨rfl, rfl, rfl, rfl, trivial⟩ ?_
        refine k2 () _ ⟨hF3, fun i2 p2 a1 a2 a3 a4 => ?_⟩
        by_cases e : i2 = (i : Int)
        · rw [e]; exact hU p2 a3 (by omega)
        · exact hW i2 p2 a1 (by omega) a3 a4
    · rintro - s2 ⟨hF2, hW⟩
      have eNs2 : s2 168 1 = n := by rw [hF2 168 (by decide)]; exact en
      simp only
      refine am_s rfl rfl ?_
      refine am_s rfl rfl ?_
      refine s_iadd rfl ?_
      refine am_s rfl rfl ?_
      refine s_gi (x := 1) rfl g rfl rfl rfl ?_
      refine s_cgt rfl ⟨by omega, by omega⟩ ⟨by omega, by omega⟩ (fun c1 => ?_) (fun c1 => absurd c1 (by omega))
      refine s_inc rfl rfl ?_
      refine am_s rfl rfl ?_
      refine am_lv [(3, _), (1, _), (0, _)] rfl rfl ⟨rfl, rfl, rfl, trivial⟩ ?_
      refine kk () _ ⟨hF2, fun k2 i2 p2 a1 a2 a3 a4 a5 a6 => ?_⟩
      by_cases e : k2 = (k : Int)
      · rw [e] at a4 a6 ⊢; exact hW i2 p2 a3 (by omega) a5 a6
      · exact hQ k2 i2 p2 a1 (by omega) a3 a4 a5 a6
  · rintro - s1 ⟨hF1, hQ⟩
    have eNs1 : s1 168 1 = n := by rw [hF1 168 (by decide)]; exact en
    simp only
    refine am_s rfl rfl ?_
    refine s_k 4 rfl rfl ?_
    refine s_cge rfl ⟨by omega, by omega⟩ ⟨by omega, by omega⟩ (fun c1 => ?_) (fun c1 => absurd c1 (by omega))
    refine s_k 0 rfl rfl ?_
    exact am_r rfl rfl (hPP 0 s1 (am_Fr_m hF1 (by decide)) (Or.inl ⟨rfl, fun k2 i2 p2 a1 a2 a3 a4 a5 a6 => hQ k2 i2 p2 a1 (by omega) a3 a4 a5 a6, hF1 183 (by decide)⟩))
