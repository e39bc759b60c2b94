/-! the pairing is made -/
theorem mt_co_c {w w2 : Nat → Nat → Int} {k : Nat} {p : Nat → Nat} (h : ∀ i j, i < j → j < k → w i j = w2 i j) (hp : mt_pmS k mt_all p) : mt_co w k mt_all p = mt_co w2 k mt_all p := by
  unfold mt_co
  refine mt_s_congr (fun i hi => ?_)
  by_cases c : mt_all i = true ∧ i < p i
  · rw [if_pos c, if_pos c, h i (p i) c.2 (hp i hi rfl).1]
  · rw [if_neg c, if_neg c]
abbrev pRes (s s' : am_S) : Prop := Nonempty (PProd (s' 58 0 = 1) (PProd (∀ c : Nat, c < 20 → pO s c = false → s' 60 c = -1) (PProd (∀ c : Nat, c < 20 → pO s c = true → 0 ≤ s' 60 c ∧ s' 60 c < s 25 0) (PProd (mt_lex (pW s) 20 (pO s) (fun c => (s' 60 (c : Int)).toNat)) (PProd (s' 58 1 = mt_co (pW s) 20 (pO s) (fun c => (s' 60 (c : Int)).toNat)) (PProd (s' 58 2 = 2 * s' 58 1) (mkFr s s')))))))
theorem pRes.made {s s' : am_S} (h_ : pRes s s') : s' 58 0 = 1 := h_.elim (fun x_ => x_.1)
theorem pRes.out {s s' : am_S} (h_ : pRes s s') : ∀ c : Nat, c < 20 → pO s c = false → s' 60 c = -1 := h_.elim (fun x_ => x_.2.1)
theorem pRes.inn {s s' : am_S} (h_ : pRes s s') : ∀ c : Nat, c < 20 → pO s c = true → 0 ≤ s' 60 c ∧ s' 60 c < s 25 0 := h_.elim (fun x_ => x_.2.2.1)
theorem pRes.lex {s s' : am_S} (h_ : pRes s s') : mt_lex (pW s) 20 (pO s) (fun c => (s' 60 (c : Int)).toNat) := h_.elim (fun x_ => x_.2.2.2.1)
theorem pRes.sum {s s' : am_S} (h_ : pRes s s') : s' 58 1 = mt_co (pW s) 20 (pO s) (fun c => (s' 60 (c : Int)).toNat) := h_.elim (fun x_ => x_.2.2.2.2.1)
theorem pRes.pri {s s' : am_S} (h_ : pRes s s') : s' 58 2 = 2 * s' 58 1 := h_.elim (fun x_ => x_.2.2.2.2.2.1)
theorem pRes.fr {s s' : am_S} (h_ : pRes s s') : mkFr s s' := h_.elim (fun x_ => x_.2.2.2.2.2.2)
theorem pPre_up {s : am_S} (h : pPre s) : mt_up (s 48 2).toNat 20 (fun i => (s 55 (i : Int)).toNat) := by
  have c20 := pPre_le h
  have n0 := h.n0
  refine ⟨fun i hi => ?_, fun i j ij hj => ?_⟩
  · have := h.ra i (by omega) (by omega); show (s 55 (i : Int)).toNat < 20; omega
  · have a := h.ra i (by omega) (by omega)
    have b := h.up i j (by omega) (by omega) (by omega)
    show (s 55 (i : Int)).toNat < (s 55 (j : Int)).toNat
    omega
/-- before the first round -/
theorem pIn_0 {s s3 s5 s6 : am_S} {m0 : Nat → Nat} {T : Int} (h : pPre s) (e58 : s6 58 3 = s 48 2) (e59 : ∀ i, 0 ≤ i → i < s 48 2 → s6 59 i = s 55 i) (e60 : ∀ c, 0 ≤ c → c < 20 → s6 60 c = -1) (fr : mkFr s s6) (ho : mt_opt (pV s) (s 48 2).toNat mt_all m0) (hT : s6 58 2 = 2 * mt_co (pV s) (s 48 2).toNat mt_all m0) : pIn s s6 0 (s 48 2).toNat (fun i => (s 55 (i : Int)).toNat) m0 := by
  have n0 := h.n0
  have c20 := pPre_le h
  have ev := h.ev
  have up := pPre_up h
  refine ⟨by omega, by omega, Or.inr (by omega), fun i hi => ?_, up, fun i hi => ?_, fun i hi => e60 (((s 55 (i : Int)).toNat : Nat) : Int) (by omega) (by have z : (s 55 (i : Int)).toNat < 20 := up.1 i hi; omega), fun c hc _ => e60 c (by omega) (by omega), fun c hc hO hn => absurd (mt_im_t.mp hO) hn, fun i hi => mt_im_t.mpr ⟨i, hi, rfl⟩, pSt_0 up, fr, ho, hT⟩
  · rw [e59 i (by omega) (by omega)]
    have := h.ra i (by omega) (by omega)
    show s 55 (i : Int) = (((s 55 (i : Int)).toNat : Nat) : Int)
    omega
  · have := h.ra i (by omega) (by omega)
    show (((s 55 (i : Int)).toNat : Nat) : Int) < s 25 0
    omega
/-- behind the last round -/
theorem pRes_mk {s s1 s2 : am_S} {k : Int} {e m0 : Nat → Nat} (h : pPre s) (hI : pIn s s1 k 0 e m0) (hF : am_Fr [58] s1 s2) (h0 : s2 58 0 = 1) (h1 : s2 58 1 = mt_s (psf s1) (s1 25 0).toNat) (h2 : s2 58 2 = s1 58 2) : pRes s s2 := by
  have c20 := pPre_le h
  have m1 := h.hm.1
  have e60 : s2 60 = s1 60 := hF 60 (by decide)
  have e25 : s1 25 0 = s 25 0 := by rw [hI.fr 25 (Or.inl (by decide))]
  have inn : ∀ c : Nat, c < 20 → pO s c = true → 0 ≤ s1 60 c ∧ s1 60 c < s 25 0 := fun c hc hO => hI.inn c hc hO (fun ⟨i, hi, _⟩ => absurd hi (Nat.not_lt_zero i))
  have lex : mt_lex (pW s) 20 (pO s) (fun c => (s1 60 (c : Int)).toNat) := by
    have z := hI.st id ⟨⟨fun i hi => absurd hi (Nat.not_lt_zero i), fun q _ => Int.le_refl 0⟩, fun q _ i hi => absurd hi (Nat.not_lt_zero i)⟩
    exact mt_lex_congr (fun c _ _ => pcb_out (fun ⟨i, hi, _⟩ => absurd hi (Nat.not_lt_zero i))) z
  have sm : mt_s (psf s1) (s1 25 0).toNat = mt_co (pW s) 20 (pO s) (fun c => (s1 60 (c : Int)).toNat) := by
    have t : ∀ c : Nat, c < 20 → (if pO s c = true ∧ c < (s1 60 (c : Int)).toNat then pW s c (s1 60 (c : Int)).toNat else 0) = psf s1 c := fun c hc => by
      unfold psf
      cases z : pO s c
      · rw [if_neg (fun q => absurd q.1 (by decide)), if_neg (by rw [hI.out c hc z]; omega)]
      · have q := inn c hc z
        by_cases y : (c : Int) < s1 60 c
        · rw [if_pos y, if_pos ⟨rfl, by omega⟩]
          unfold pW
          rw [Int.toNat_natCast, show (((s1 60 (c : Int)).toNat : Nat) : Int) = s1 60 c by omega, hI.fr (26 + 1 + c) (Or.inl (by omega))]
        · rw [if_neg y, if_neg (by omega)]
    unfold mt_co
    rw [mt_s_tail (L := (s1 25 0).toNat) 20 (by omega) (fun c c0 c1 => ?_)]
    · exact mt_s_congr (fun c hc => (t c (by omega)).symm)
    · refine if_neg (fun q => ?_)
      obtain ⟨i, hi, ei⟩ := mt_im_t.mp q.1
      have := h.ra i (by omega) (by omega)
      omega
  refine ⟨h0, fun c hc hO => by rw [e60]; exact hI.out c hc hO, fun c hc hO => by rw [e60]; exact inn c hc hO, by rw [e60]; exact lex, by rw [h1, sm, e60], ?_, fun q hq => by rw [hF q (fun z => by simp at z; omega)]; exact hI.fr q hq⟩
  rw [h2, hI.pr, h1, sm]
  have up := pPre_up h
  have rk := mt_rk_of (e := fun i => (s 55 (i : Int)).toNat) up (p := m0) hI.op.1
  have o1 := (mt_rk_opt (w := pW s) up rk).mpr hI.op
  have co := mt_rk_co (w := pW s) up rk
  have a1 := o1.2 _ lex.1.1
  have a2 := lex.1.2 _ o1.1
  have co : mt_co (pW s) 20 (pO s) (fun x => (s 55 ((m0 (mt_ro (fun i => (s 55 (i : Int)).toNat) x (s 48 2).toNat) : Nat) : Int)).toNat) = mt_co (pV s) (s 48 2).toNat mt_all m0 := co
  have a1 : mt_co (pW s) 20 (pO s) (fun x => (s 55 ((m0 (mt_ro (fun i => (s 55 (i : Int)).toNat) x (s 48 2).toNat) : Nat) : Int)).toNat) ≤ mt_co (pW s) 20 (pO s) (fun c => (s1 60 (c : Int)).toNat) := a1
  have a2 : mt_co (pW s) 20 (pO s) (fun c => (s1 60 (c : Int)).toNat) ≤ mt_co (pW s) 20 (pO s) (fun x => (s 55 ((m0 (mt_ro (fun i => (s 55 (i : Int)).toNat) x (s 48 2).toNat) : Nat) : Int)).toNat) := a2
  omega
set_option maxHeartbeats 8000000 in
theorem t_pairMake {d : Nat} {E : am_Ev} {s : am_S} {PP : Option Value → am_H → Prop} (g : am_Eg E) (h : pPre s) (hPP : ∀ s', pRes s s' → PP none (am_hp E s')) : am_wp (d + 12 + 1 + 1) 73 0 (lv_args 0 [.ref 58, .ref 25, .ref 48]) [] (am_hp E s) PP := by
  have n0 := h.n0
  have c20 := pPre_le h
  refine am_s rfl rfl ?_
  refine s_gr rfl g rfl rfl ?_
  refine s_k (-1) rfl rfl ?_
  refine am_cs (As := [_, _]) (rest := []) rfl (Or.inl rfl) rfl rfl (Nat.le_of_ble_eq_true rfl) rfl (t_fillI (n := 20) g rfl (by decide)) ?_
  rintro rv h1 ⟨rfl, s1, rfl, hF1, hV1⟩
  have e48 : s1 48 2 = s 48 2 := by rw [hF1 48 (by decide)]
  refine am_s rfl rfl ?_
  refine am_s rfl rfl ?_
  refine s_gi (x := 2) rfl g rfl rfl rfl ?_
  rw [e48]
  refine s_pi (x := 3) rfl g rfl rfl rfl rfl ?_
  refine am_s rfl rfl ?_
  refine s_gr rfl g rfl rfl ?_
  refine s_k 0 rfl rfl ?_
  refine am_s rfl rfl ?_
  refine s_gr rfl g rfl rfl ?_
  refine s_k 0 rfl rfl ?_
  refine am_s rfl rfl ?_
  refine s_gi (x := 3) rfl g rfl rfl rfl ?_
  generalize hs2 : am_w s1 58 3 (s 48 2) = s2
  have l2 : s2 58 3 = s 48 2 := by rw [← hs2, am_w_eq]
  have f2 : am_Fr [58] s1 s2 := by rw [← hs2]; exact am_Fr_w (by decide)
  rw [l2]
  refine s_acp rfl g rfl rfl (by omega) (by omega) (by omega) (by omega) (by omega) (by decide) (Nat.le_of_ble_eq_true rfl) ?_
  generalize hs3 : am_cy s2 55 59 0 0 (s 48 2) = s3
  have f3 : am_Fr [59] s2 s3 := by rw [← hs3]; exact am_cy_fr
  have l3 : s3 58 3 = s 48 2 := by rw [f3 58 (by decide)]; exact l2
  have fr3 : ∀ q, q ≠ 58 → q ≠ 59 → q ≠ 60 → s3 q = s q := fun q z1 z2 z3 => by
    rw [f3 q (fun z => z2 (List.mem_singleton.mp z)), f2 q (fun z => z1 (List.mem_singleton.mp z)), hF1 q (fun z => z3 (List.mem_singleton.mp z))]
  have v59 : ∀ i, 0 ≤ i → i < s 48 2 → s3 59 i = s 55 i := fun i i0 i1 => by
    rw [← hs3]
    unfold am_cy
    rw [if_pos ⟨rfl, by omega, by omega⟩, f2 55 (by decide), hF1 55 (by decide), show i - 0 + 0 = i by omega]
  have v60 : s3 60 = s1 60 := by rw [f3 60 (by decide), f2 60 (by decide)]
  have hMx : ∀ i j, 0 ≤ i → i < s3 58 3 → 0 ≤ j → j < s3 58 3 → 0 ≤ s3 (26 + 1 + (s3 59 i).toNat) (s3 59 j) ∧ s3 (26 + 1 + (s3 59 i).toNat) (s3 59 j) < 2147483648 := fun i j i0 i1 j0 j1 => by
    rw [v59 i i0 (by omega), v59 j j0 (by omega)]
    have a := h.ra i i0 (by omega)
    have b := h.ra j j0 (by omega)
    rw [fr3 _ (by omega) (by omega) (by omega)]
    exact h.hm.2.2 _ _ a.1 a.2 b.1 b.2
  have pn : pcn s3 = (s 48 2).toNat := by unfold pcn; rw [l3]
  refine am_s rfl rfl ?_
  refine am_s rfl rfl ?_
  refine s_k 0 rfl rfl ?_
  refine s_cv [_, _] [] rfl g (Or.inl rfl) rfl rfl (Nat.le_of_ble_eq_true rfl) rfl rfl (t_tellCosts (s := s3) (L := 0) g (by rw [l3]; exact n0) ⟨by decide, by decide⟩ (by rw [if_pos (by omega)]; rfl) (fun i i0 i1 => by rw [v59 i i0 (by omega)]; have := h.ra i i0 (by omega); omega) (fun i j i0 i1 j0 j1 => by have := hMx i j i0 i1 j0 j1; exact ⟨by omega, by omega⟩)) ?_
  rintro rv h1 ⟨rfl, s4, rfl, t4, hS4, hC4⟩
  have l4 : s4 58 3 = s3 58 3 := by rw [t4 58 (by decide) (by decide)]
  refine am_s rfl rfl ?_
  refine s_gr rfl g rfl rfl ?_
  refine am_s rfl rfl ?_
  refine s_gi (x := 3) rfl g rfl rfl rfl ?_
  rw [l4]
  refine s_cv [_] [] rfl g (Or.inl rfl) rfl rfl (Nat.le_of_ble_eq_true rfl) rfl rfl (t_solve (s := s4) (n := s3 58 3) (PP := fun rv h => rv = none ∧ ∃ s' t, h = am_hp E s' ∧ mQ s' t ∧ (0 < s3 58 3 → ∀ M, (∀ v w, 0 ≤ v → v < s3 58 3 → 0 ≤ w → w < s3 58 3 → v ≠ w → (mS (am_w s4 62 0 (s3 58 3))).C v w ≤ M) → 2 * t ≤ M) ∧ (∀ v, 0 ≤ v → v < s3 58 3 → s' 85 v ≠ -1) ∧ mFr (am_w s4 62 0 (s3 58 3)) s') g (by rw [l3]; exact n0) (by rw [l3]; exact h.ev) (mC_mk (by rw [l3]; exact n0) (by decide) hMx hC4) (fun s' t a b c d => ⟨rfl, s', t, rfl, a, b, c, d⟩)) ?_
  rintro rv h1 ⟨rfl, s5, t5, rfl, hQ5, ht5, hall5, f5⟩
  obtain ⟨v1, v2, v3, v4⟩ := sv_all (by rw [l3]; exact n0) hC4 hQ5 hall5 f5
  have eC : ∀ v w, 0 ≤ v → v < s3 58 3 → 0 ≤ w → w < s3 58 3 → v ≠ w → (mS (am_w s4 62 0 (s3 58 3))).C v w ≤ 10000000000 := fun v w v0 v1 w0 w1 ne => by
    show mrow (am_w s4 62 0 (s3 58 3)) 63 20 v w ≤ _
    rw [mrow_in v0 (by omega), am_w_row (by omega)]
    have pz : ∀ a b, 0 ≤ a → a < b → b < s3 58 3 → pcs s3 0 a b < 2147483648 := fun a b a0 ab b1 => by
      unfold pcs
      rw [if_neg (by omega), Nat.pow_zero]
      have := hMx a b a0 (by omega) (by omega) b1
      omega
    rcases Int.lt_or_le v w with c | c
    · have := hC4 v w v0 c w1
      have := pz v w v0 c w1
      omega
    · have := hC4 w v w0 (by omega) v1
      have := pz w v w0 (by omega) v1
      omega
  refine am_s rfl rfl ?_
  refine am_s rfl rfl ?_
  refine s_gr rfl g rfl rfl ?_
  refine s_cv [] [_] rfl g (Or.inl rfl) rfl rfl (Nat.le_of_ble_eq_true rfl) rfl rfl (t_provenSum (s := s5) g hQ5 (by rw [v1]; exact hall5) (fun z => ht5 (by omega) _ eC) (by rw [v1, mFr_C f5]; exact eC)) ?_
  rintro rv h1 ⟨rfl, rfl⟩
  rw [v1, show (s3 58 3).toNat = pcn s3 from rfl, v4]
  refine s_pl (x := 2) rfl g rfl rfl rfl rfl ?_
  refine s_k 0 rfl rfl ?_
  refine am_s rfl rfl ?_
  generalize hs6 : am_w s5 58 2 (2 * mt_co (fun i j => pcs s3 0 i j) (pcn s3) mt_all (fun i => (s5 85 (i : Int)).toNat)) = s6
  have ecw : ∀ i j : Nat, i < j → j < (s 48 2).toNat → pcs s3 0 i j = pV s i j := fun i j ij jn => by
    unfold pcs pV pW
    rw [if_neg (by omega), Nat.pow_zero, v59 i (by omega) (by omega), v59 j (by omega) (by omega)]
    have a := h.ra i (by omega) (by omega)
    have b := h.ra j (by omega) (by omega)
    rw [fr3 _ (by omega) (by omega) (by omega), show (((s 55 (j : Int)).toNat : Nat) : Int) = s 55 j by omega]
    omega
  rw [pn] at v3
  have f6 : am_Fr [58] s5 s6 := by rw [← hs6]; exact am_Fr_w (by decide)
  have q5 : ∀ q, q < 62 → s5 q = s4 q := fun q hq => by rw [f5.1 q (Or.inl hq), am_w_row (by omega)]
  have hI0 : pIn s s6 0 (s 48 2).toNat (fun i => (s 55 (i : Int)).toNat) (fun i => (s5 85 (i : Int)).toNat) := by
    refine pIn_0 (s3 := s3) (s5 := s5) (T := 0) h ?_ (fun i i0 i1 => ?_) (fun c c0 c1 => ?_) (fun q hq => ?_) (mt_opt_c ecw v3) ?_
    · rw [← hs6, am_w_x (by decide), q5 58 (by decide), l4, l3]
    · rw [f6 59 (by decide), q5 59 (by decide), t4 59 (by decide) (by decide)]; exact v59 i i0 i1
    · rw [f6 60 (by decide), q5 60 (by decide), t4 60 (by decide) (by decide), v60]; exact hV1 c c0 c1
    · rw [f6 q (fun z => by simp at z; omega)]
      rcases hq with z | z
      · rw [q5 q (by omega), t4 q (by omega) (by omega), fr3 q (by omega) (by omega) (by omega)]
      · rw [f5.1 q (Or.inr (Or.inr z)), am_w_row (by omega), t4 q (by omega) (by omega), fr3 q (by omega) (by omega) (by omega)]
    · rw [← hs6, am_w_eq, pn, mt_co_c ecw v3.1]
  have j111 : ∀ (s1 : am_S) (k : Int) (e : Nat → Nat), pIn s s1 k 0 e (fun i => (s5 85 (i : Int)).toNat) → am_wp (d + 12 + 1 + 1) 73 111 [(1, .ref 25), (0, .ref 58)] [] (am_hp E s1) PP := by
    intro s1 k e hI
    refine am_s rfl rfl ?_
    refine am_s rfl rfl ?_
    refine am_s rfl rfl ?_
    have e25 : s1 25 = s 25 := hI.fr 25 (Or.inl (by decide))
    have mok : mx_ok s1 := by
      have z := h.hm
      unfold mx_ok mx at z ⊢
      rw [e25]
      refine ⟨z.1, z.2.1, fun a b a0 a1 b0 b1 => ?_⟩
      rw [hI.fr _ (Or.inl (by omega))]
      exact z.2.2 a b a0 a1 b0 b1
    have hpp : ∀ c, 0 ≤ c → c < s1 25 0 → -1 ≤ s1 60 c ∧ s1 60 c < s1 25 0 := fun c c0 c1 => by
      rw [e25] at c1 ⊢
      obtain ⟨a, rfl⟩ : ∃ a : Nat, c = a := ⟨c.toNat, by omega⟩
      cases z : pO s a
      · rw [hI.out a (by omega) z]; omega
      · have := hI.inn a (by omega) z (fun ⟨i, hi, _⟩ => absurd hi (Nat.not_lt_zero i)); omega
    refine s_cv [_] [_] rfl g (Or.inl rfl) rfl rfl (Nat.le_of_ble_eq_true rfl) rfl rfl (t_sumOfPairs (s := s1) g mok hpp) ?_
    rintro rv h1 ⟨rfl, rfl⟩
    refine s_pl (x := 1) rfl g rfl rfl rfl rfl ?_
    refine am_s rfl rfl ?_
    refine s_k 1 rfl rfl ?_
    refine s_pi (x := 0) rfl g rfl rfl rfl rfl ?_
    exact am_r rfl rfl (hPP _ (pRes_mk h hI (am_Fr_W (am_Fr_w (by decide)) (by decide)) (am_w_eq _ _ _ _) (by rw [am_w_x (by decide), am_w_eq]) (by rw [am_w_x (by decide), am_w_x (by decide)])))
  refine am_lv [(3, .int (iI (((0 : Nat) : Int) : Int))), (1, .ref 25), (0, .ref 58)] rfl rfl ⟨rfl, rfl, rfl, trivial⟩ ?_
  refine s_loop (X := Unit) (fun k _ s' => ∃ n e, pIn s s' k n e (fun i => (s5 85 (i : Int)).toNat)) (fun k _ => [(3, .int (iI (k : Int))), (1, .ref 25), (0, .ref 58)]) (hi := 20) (x := ()) (by omega) ⟨_, _, hI0⟩ ?_ ?_
  · rintro k - s1 hk0 hk1 ⟨n, e, hI⟩ kk
    simp only at kk ⊢
    have ln := hI.l
    have n20 := pIn_n hI (by omega)
    refine am_s rfl rfl ?_
    refine s_k 20 rfl rfl ?_
    refine s_cge rfl ⟨by omega, by omega⟩ ⟨by omega, by omega⟩ (fun c1 => absurd c1 (by omega)) (fun c1 => ?_)
    refine am_s rfl rfl ?_
    refine s_gi (x := 3) rfl g rfl rfl rfl ?_
    refine s_zle rfl ⟨by omega, by omega⟩ (fun c2 => ?_) (fun c2 => ?_)
    · refine am_lv [(1, _), (0, _)] rfl rfl ⟨rfl, rfl, trivial⟩ ?_
      have zn : n = 0 := by omega
      subst zn
      exact j111 s1 _ e hI
    · refine am_s rfl rfl ?_
      refine am_s rfl rfl ?_
      refine s_k 6 rfl rfl ?_
      obtain ⟨L, eL⟩ : ∃ L : Nat, (L : Int) = if 6 ≤ (n : Int) then 6 else (n : Int) := ⟨if 6 ≤ n then 6 else n, by (repeat' split) <;> omega⟩
      have L6 : L ≤ 6 := by split at eL <;> omega
      have Ln : L ≤ n := by split at eL <;> omega
      have hr1 : ∀ i, 0 ≤ i → i < s1 58 3 → 0 ≤ s1 59 i ∧ s1 59 i < 20 := fun i i0 i1 => by
        obtain ⟨a, rfl⟩ : ∃ a : Nat, i = a := ⟨i.toNat, by omega⟩
        rw [hI.re a (by omega)]
        have := hI.up.1 a (by omega)
        omega
      have hM1 : ∀ i j, 0 ≤ i → i < s1 58 3 → 0 ≤ j → j < s1 58 3 → 0 ≤ s1 (26 + 1 + (s1 59 i).toNat) (s1 59 j) ∧ s1 (26 + 1 + (s1 59 i).toNat) (s1 59 j) < 2147483648 := fun i j i0 i1 j0 j1 => by
        obtain ⟨a, rfl⟩ : ∃ a : Nat, i = a := ⟨i.toNat, by omega⟩
        obtain ⟨b, rfl⟩ : ∃ b : Nat, j = b := ⟨j.toNat, by omega⟩
        have ua := hI.up.1 a (by omega)
        rw [hI.re a (by omega), hI.re b (by omega), hI.fr _ (Or.inl (by omega))]
        exact h.hm.2.2 _ _ (by omega) (hI.lt a (by omega)) (by omega) (hI.lt b (by omega))
      refine s_cv [_, _] [] rfl g (Or.inl rfl) rfl rfl (Nat.le_of_ble_eq_true rfl) rfl rfl (t_tellCosts (s := s1) (L := L) g ⟨by omega, by omega⟩ ⟨by decide, by decide⟩ (by rw [ln]; exact eL) hr1 (fun i j i0 i1 j0 j1 => by have := hM1 i j i0 i1 j0 j1; exact ⟨by omega, by omega⟩)) ?_
      rintro rv h1 ⟨rfl, s2, rfl, t2, hS2, hC2⟩
      have l2 : s2 58 3 = s1 58 3 := by rw [t2 58 (by decide) (by decide)]
      refine am_s rfl rfl ?_
      refine s_gr rfl g rfl rfl ?_
      refine am_s rfl rfl ?_
      refine s_gi (x := 3) rfl g rfl rfl rfl ?_
      rw [l2]
      refine s_cv [_] [] rfl g (Or.inl rfl) rfl rfl (Nat.le_of_ble_eq_true rfl) rfl rfl (t_solve (s := s2) (n := s1 58 3) (PP := fun rv h => rv = none ∧ ∃ s' t, h = am_hp E s' ∧ mQ s' t ∧ (∀ v, 0 ≤ v → v < s1 58 3 → s' 85 v ≠ -1) ∧ mFr (am_w s2 62 0 (s1 58 3)) s') g ⟨by omega, by omega⟩ (by have := hI.ev; omega) (mC_mk ⟨by omega, by omega⟩ L6 hM1 hC2) (fun s' t a b c d => ⟨rfl, s', t, rfl, a, c, d⟩)) ?_
      rintro rv h1 ⟨rfl, s3, t3, rfl, hQ3, hall3, f3⟩
      obtain ⟨v1, v2, v3, -⟩ := sv_all ⟨by omega, by omega⟩ hC2 hQ3 hall3 f3
      have q3 : ∀ q, q < 62 → s3 q = s2 q := fun q hq => by rw [f3.1 q (Or.inl hq), am_w_row (by omega)]
      have l3 : s3 58 3 = s1 58 3 := by rw [q3 58 (by decide)]; exact l2
      have e59 : s3 59 = s1 59 := by rw [q3 59 (by decide), t2 59 (by decide) (by decide)]
      have e60 : s3 60 = s1 60 := by rw [q3 60 (by decide), t2 60 (by decide) (by decide)]
      refine am_s rfl rfl ?_
      refine am_s rfl rfl ?_
      refine s_gr rfl g rfl rfl ?_
      refine s_gr rfl g rfl rfl ?_
      have hin : ∀ i j, 0 ≤ i → i < s3 58 3 → 0 ≤ j → j < s3 58 3 → s3 59 i = s3 59 j → i = j := fun i j i0 i1 j0 j1 z => by
        obtain ⟨a, rfl⟩ : ∃ a : Nat, i = a := ⟨i.toNat, by omega⟩
        obtain ⟨b, rfl⟩ : ∃ b : Nat, j = b := ⟨j.toNat, by omega⟩
        rw [e59, hI.re a (by omega), hI.re b (by omega)] at z
        have := mt_up_inj hI.up (show a < n by omega) (show b < n by omega) (by omega)
        omega
      refine s_cv [_] [] rfl g (Or.inl rfl) rfl rfl (Nat.le_of_ble_eq_true rfl) rfl rfl (t_settleFirst (s := s3) (L := L) (PP := fun rv h => rv = none ∧ ∃ p s', h = am_hp E s' ∧ mSF s3 s' p ∧ (∀ j, 0 ≤ j → j < s3 58 3 → p (s3 59 j) = if psd L (s3 85) (s3 58 3) j then s3 59 (s3 85 j) else s3 60 (s3 59 j)) ∧ ∀ c, (∀ j, 0 ≤ j → j < s3 58 3 → s3 59 j ≠ c) → p c = s3 60 c) g (by rw [l3]; exact ⟨by omega, by omega⟩) (by rw [l3, e59]; exact hr1) hin (by rw [l3]; exact v2) (fun i i0 i1 => ?_) (fun j j0 j1 => ?_) (fun p s' a b c => ⟨rfl, p, s', rfl, a, b, c⟩)) ?_
      · have z := hS2 i i0 (by omega)
        rw [q3 61 (by decide), z]
        refine ⟨fun c => ?_, fun c => ?_⟩
        · rw [if_pos c]
          have pp : pcn s1 = n := by unfold pcn; omega
          have a1 := Nat.pow_pos (n := L - 1 - i.toNat) (show 0 < n by omega)
          have a2 := pw_20 (n := n) (k := L - 1 - i.toNat) (by omega) L6 (by omega)
          rw [pp]
          generalize n ^ (L - 1 - i.toNat) = X at a1 a2 ⊢
          exact ⟨by omega, by omega⟩
        · rw [if_neg (by omega)]; rfl
      · obtain ⟨a, rfl⟩ : ∃ a : Nat, j = a := ⟨j.toNat, by omega⟩
        rw [e60, e59, hI.re a (by omega), hI.un a (by omega)]
        exact ⟨by decide, by decide⟩
      · rintro rv h1 ⟨rfl, p, s4, rfl, hm4, hp1, hp2⟩
        obtain ⟨n2, e2, hI2⟩ := pIn_s h hI (by omega) (by omega) eL t2 f3 v2 v3 hm4 hp1 hp2
        refine s_inc rfl rfl ?_
        refine am_s rfl rfl ?_
        refine am_lv [(3, _), (1, _), (0, _)] rfl rfl ⟨rfl, rfl, rfl, trivial⟩ ?_
        exact kk () _ ⟨n2, e2, hI2⟩
  · rintro - s1 ⟨n, e, hI⟩
    simp only
    refine am_s rfl rfl ?_
    refine s_k 20 rfl rfl ?_
    refine s_cge rfl ⟨by omega, by omega⟩ ⟨by omega, by omega⟩ (fun c1 => ?_) (fun c1 => absurd c1 (by omega))
    refine am_lv [(1, _), (0, _)] rfl rfl ⟨rfl, rfl, trivial⟩ ?_
    have zn : n = 0 := by have := hI.bd; omega
    subst zn
    exact j111 s1 _ e hI
