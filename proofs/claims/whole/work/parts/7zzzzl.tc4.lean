/-! the other one takes a number -/
theorem yt_w7 {s : am_S} {v : Int} : yt (am_w s 168 7 v) = ⟨v, s 168 8, s 168 9⟩ := by unfold yt; rw [am_w_eq, am_w_x (by decide), am_w_x (by decide)]
theorem yt_w8 {s : am_S} {v : Int} : yt (am_w s 168 8 v) = ⟨s 168 7, v, s 168 9⟩ := by unfold yt; rw [am_w_eq, am_w_x (by decide), am_w_x (by decide)]
theorem yt_w9 {s : am_S} {v : Int} : yt (am_w s 168 9 v) = ⟨s 168 7, s 168 8, v⟩ := by unfold yt; rw [am_w_eq, am_w_x (by decide), am_w_x (by decide)]
theorem t_num153 {d : Nat} {E : am_Ev} {s : am_S} {lo hi v : Int} {s2 : am_S} {PP : Option Value → am_H → Prop} (g : am_Eg E) {T : Int → Int} {z : Int} (hx : tyH s T z) (hl : 0 ≤ lo ∧ lo ≤ 100) (hh : 0 ≤ hi ∧ hi ≤ 2147483647) (hf : s 168 8 < 0) (hF2 : am_Fm [] [7, 8, 9] s s2) (e9 : s2 168 9 = s 168 9) (eD : tNd T z (yt s) = (s2 168 7, v)) (hc : (s2 168 8 = s 168 8 ∧ ¬ tNf T z (yt s)) ∨ (s2 168 8 = s2 168 7 ∧ tNf T z (yt s))) (hv : v < 100000000000) (hPP : ∀ s3 v, am_Fm [] [7, 8, 9] s s3 → txE (tNm T z lo hi (yt s)) (yt s3) → txO z (yt s3) → 0 ≤ v ∧ v < 100000000000 → ((yt s3).f < 0 → v = tNv T z (yt s)) → PP (some (.long (lI v))) (am_hp E s3)) : am_wp (d + 1) 165 153 [(7, .long (lI v)), (6, .int (iI (tSk T z (s 168 7)))), (3, .long (lI hi)), (1, .long (lI lo)), (0, .ref 168)] [] (am_hp E s2) PP := by
  have z0 := hx.zl
  have o1 := hx.o.1
  have o2 := hx.o.2.1
  have o3 := hx.o.2.2
  unfold yt at o1 o2 o3
  simp only [txS.p, txS.f, txS.u] at o1 o2 o3
  have ez := hx.ez
  have eD1 : (tNd T z (yt s)).1 = s2 168 7 := by rw [eD]
  have eV : tNv T z (yt s) = v := by unfold tNv; rw [eD]
  have nd := tNd_r (T := T) hx.o
  rw [eD1, eV] at nd
  have nd1 : s 168 7 ≤ tSk T z (s 168 7) ∧ tSk T z (s 168 7) ≤ s2 168 7 ∧ s2 168 7 ≤ z ∧ 0 ≤ v := nd
  refine am_s rfl rfl ?_
  refine am_s rfl rfl ?_
  refine s_jlt rfl rfl ⟨by omega, by omega⟩ ⟨by omega, by omega⟩ (fun c1 => ?_) (fun c1 => ?_)
  · refine am_s rfl rfl ?_
    refine s_gi (x := 9) rfl g rfl rfl rfl ?_
    refine s_zge rfl ⟨by omega, by omega⟩ (fun c2 => ?_) (fun c2 => ?_)
    · refine am_s rfl rfl ?_
      refine am_r rfl rfl (hPP s2 v hF2 ?_ (show txO z (yt s2) from ⟨by show 0 ≤ s2 168 7 ∧ s2 168 7 ≤ z; omega, by show (-1 ≤ s2 168 8 ∧ s2 168 8 ≤ z); omega, by show (-1 ≤ s2 168 9 ∧ s2 168 9 ≤ z); omega⟩) ⟨by omega, hv⟩ (fun _ => eV.symm))
      unfold tNm
      rw [if_neg (show ¬ 0 ≤ (yt s).f by show ¬ 0 ≤ s 168 8; omega)]
      rcases hc with ⟨k8, kn⟩ | ⟨k8, kn⟩
      · rw [if_neg kn, if_pos (Or.inr (show 0 ≤ (yt s).u by show 0 ≤ s 168 9; omega)), eD1]
        exact ⟨rfl, k8.symm, fun _ => e9.symm⟩
      · rw [if_pos kn, eD1]
        exact ⟨rfl, k8.symm, fun y => absurd y (by show ¬ s2 168 7 < 0; omega)⟩
    · refine am_s rfl rfl ?_
      refine am_s rfl rfl ?_
      refine s_pi (x := 9) rfl g rfl rfl rfl rfl ?_
      refine am_s rfl rfl ?_
      refine am_r rfl rfl (hPP _ v (Fm_w hF2 (by decide)) ?_ ?_ ⟨by omega, hv⟩ (fun _ => eV.symm))
      · unfold tNm
        rw [if_neg (show ¬ 0 ≤ (yt s).f by show ¬ 0 ≤ s 168 8; omega)]
        rcases hc with ⟨k8, kn⟩ | ⟨k8, kn⟩
        · rw [if_neg kn, if_neg (show ¬ ((lo ≤ tNv T z (yt s) ∧ tNv T z (yt s) ≤ hi) ∨ 0 ≤ (yt s).u) by show ¬ ((lo ≤ tNv T z (yt s) ∧ tNv T z (yt s) ≤ hi) ∨ 0 ≤ s 168 9); rw [eV]; omega), eD1]
          rw [yt_w9]
          exact ⟨rfl, k8.symm, fun _ => rfl⟩
        · rw [if_pos kn, eD1]
          rw [yt_w9]
          exact ⟨rfl, k8.symm, fun y => absurd y (by show ¬ s2 168 7 < 0; omega)⟩
      · rw [yt_w9]
        exact ⟨by show 0 ≤ s2 168 7 ∧ s2 168 7 ≤ z; omega, by show (-1 ≤ s2 168 8 ∧ s2 168 8 ≤ z); omega, by show (-1 ≤ tSk T z (s 168 7) ∧ tSk T z (s 168 7) ≤ z); omega⟩
  · refine am_s rfl rfl ?_
    refine am_s rfl rfl ?_
    refine s_jle rfl rfl ⟨by omega, by omega⟩ ⟨by omega, by omega⟩ (fun c3 => ?_) (fun c3 => ?_)
    · refine am_s rfl rfl ?_
      refine am_r rfl rfl (hPP s2 v hF2 ?_ (show txO z (yt s2) from ⟨by show 0 ≤ s2 168 7 ∧ s2 168 7 ≤ z; omega, by show (-1 ≤ s2 168 8 ∧ s2 168 8 ≤ z); omega, by show (-1 ≤ s2 168 9 ∧ s2 168 9 ≤ z); omega⟩) ⟨by omega, hv⟩ (fun _ => eV.symm))
      unfold tNm
      rw [if_neg (show ¬ 0 ≤ (yt s).f by show ¬ 0 ≤ s 168 8; omega)]
      rcases hc with ⟨k8, kn⟩ | ⟨k8, kn⟩
      · rw [if_neg kn, if_pos (Or.inl (by rw [eV]; omega)), eD1]
        exact ⟨rfl, k8.symm, fun _ => e9.symm⟩
      · rw [if_pos kn, eD1]
        exact ⟨rfl, k8.symm, fun y => absurd y (by show ¬ s2 168 7 < 0; omega)⟩
    · refine am_s rfl rfl ?_
      refine s_gi (x := 9) rfl g rfl rfl rfl ?_
      refine s_zge rfl ⟨by omega, by omega⟩ (fun c4 => ?_) (fun c4 => ?_)
      · refine am_s rfl rfl ?_
        refine am_r rfl rfl (hPP s2 v hF2 ?_ (show txO z (yt s2) from ⟨by show 0 ≤ s2 168 7 ∧ s2 168 7 ≤ z; omega, by show (-1 ≤ s2 168 8 ∧ s2 168 8 ≤ z); omega, by show (-1 ≤ s2 168 9 ∧ s2 168 9 ≤ z); omega⟩) ⟨by omega, hv⟩ (fun _ => eV.symm))
        unfold tNm
        rw [if_neg (show ¬ 0 ≤ (yt s).f by show ¬ 0 ≤ s 168 8; omega)]
        rcases hc with ⟨k8, kn⟩ | ⟨k8, kn⟩
        · rw [if_neg kn, if_pos (Or.inr (show 0 ≤ (yt s).u by show 0 ≤ s 168 9; omega)), eD1]
          exact ⟨rfl, k8.symm, fun _ => e9.symm⟩
        · rw [if_pos kn, eD1]
          exact ⟨rfl, k8.symm, fun y => absurd y (by show ¬ s2 168 7 < 0; omega)⟩
      · refine am_s rfl rfl ?_
        refine am_s rfl rfl ?_
        refine s_pi (x := 9) rfl g rfl rfl rfl rfl ?_
        refine am_s rfl rfl ?_
        refine am_r rfl rfl (hPP _ v (Fm_w hF2 (by decide)) ?_ ?_ ⟨by omega, hv⟩ (fun _ => eV.symm))
        · unfold tNm
          rw [if_neg (show ¬ 0 ≤ (yt s).f by show ¬ 0 ≤ s 168 8; omega)]
          rcases hc with ⟨k8, kn⟩ | ⟨k8, kn⟩
          · rw [if_neg kn, if_neg (show ¬ ((lo ≤ tNv T z (yt s) ∧ tNv T z (yt s) ≤ hi) ∨ 0 ≤ (yt s).u) by show ¬ ((lo ≤ tNv T z (yt s) ∧ tNv T z (yt s) ≤ hi) ∨ 0 ≤ s 168 9); rw [eV]; omega), eD1]
            rw [yt_w9]
            exact ⟨rfl, k8.symm, fun _ => rfl⟩
          · rw [if_pos kn, eD1]
            rw [yt_w9]
            exact ⟨rfl, k8.symm, fun y => absurd y (by show ¬ s2 168 7 < 0; omega)⟩
        · rw [yt_w9]
          exact ⟨by show 0 ≤ s2 168 7 ∧ s2 168 7 ≤ z; omega, by show (-1 ≤ s2 168 8 ∧ s2 168 8 ≤ z); omega, by show (-1 ≤ tSk T z (s 168 7) ∧ tSk T z (s 168 7) ≤ z); omega⟩
theorem num_end {s s2 : am_S} {T : Int → Int} {z v : Int} {k : Nat} (h : tDg T z k (s2 168 7) v = tNd T z (yt s)) (hd : ¬ (s2 168 7 < z ∧ 48 ≤ T (s2 168 7) ∧ T (s2 168 7) ≤ 57)) : tNd T z (yt s) = (s2 168 7, v) := by
  rw [← h]
  cases k with
  | zero => rfl
  | succ k => unfold tDg; rw [if_neg hd]
theorem num_nf {s s2 : am_S} {T : Int → Int} {z v : Int} {k : Nat} (h : tDg T z k (s2 168 7) v = tNd T z (yt s)) (hd : ¬ (s2 168 7 < z ∧ 48 ≤ T (s2 168 7) ∧ T (s2 168 7) ≤ 57)) (hq : s2 168 7 ≠ tSk T z (s 168 7)) : ¬ tNf T z (yt s) := by
  intro y
  unfold tNf at y
  rw [num_end h hd] at y
  rcases y with y | y
  · exact hq y
  · exact hd y
theorem t_numM {d : Nat} {E : am_Ev} {s : am_S} {lo hi : Int} {PP : Option Value → am_H → Prop} (g : am_Eg E) {T : Int → Int} {z : Int} (hx : tyH s T z) (hl : 0 ≤ lo ∧ lo ≤ 100) (hh : 0 ≤ hi ∧ hi ≤ 2147483647) (hPP : ∀ s3 v, am_Fm [] [7, 8, 9] s s3 → txE (tNm T z lo hi (yt s)) (yt s3) → txO z (yt s3) → 0 ≤ v ∧ v < 100000000000 → ((yt s3).f < 0 → v = tNv T z (yt s)) → PP (some (.long (lI v))) (am_hp E s3)) : am_wp (d + 1) 165 0 (lv_args 0 [.ref 168, .long (lI lo), .long (lI hi)]) [] (am_hp E s) PP := by
  have z0 := hx.zl
  have o1 := hx.o.1
  have o2 := hx.o.2.1
  have o3 := hx.o.2.2
  unfold yt at o1 o2 o3
  simp only [txS.p, txS.f, txS.u] at o1 o2 o3
  have ez := hx.ez
  refine am_s rfl rfl ?_
  refine s_gi (x := 8) rfl g rfl rfl rfl ?_
  refine s_zlt rfl ⟨by omega, by omega⟩ (fun c1 => ?_) (fun c1 => ?_)
  · refine am_s rfl rfl ?_
    refine s_cv [] [] rfl g (Or.inl rfl) rfl rfl (Nat.le_of_ble_eq_true rfl) rfl rfl (t_look (PP := fun rv h => ∃ s1, rv = some (.int (iI (if tSk T z (s 168 7) < z then T (tSk T z (s 168 7)) else -1))) ∧ h = am_hp E s1 ∧ am_Fm [] [7, 8, 9] s s1 ∧ yt s1 = ⟨tSk T z (s 168 7), s 168 8, s 168 9⟩) g hx (fun s1 a b => ⟨s1, rfl, rfl, a, b⟩)) ?_
    rintro rv h9 ⟨s1, rfl, rfl, hF, e1⟩
    have p1 : s1 168 7 = tSk T z (s 168 7) := congrArg txS.p e1
    have f1 : s1 168 8 = s 168 8 := congrArg txS.f e1
    have u1 : s1 168 9 = s 168 9 := congrArg txS.u e1
    have r1 := tSk_r (T := T) (z := z) (p := s 168 7) (by omega)
    have br : -1 ≤ (if tSk T z (s 168 7) < z then T (tSk T z (s 168 7)) else -1) ∧ (if tSk T z (s 168 7) < z then T (tSk T z (s 168 7)) else -1) ≤ 126 := by
      split
      · have := hx.tr (tSk T z (s 168 7)) (by omega) (by assumption); omega
      · omega
    refine am_s rfl rfl ?_
    refine am_s rfl rfl ?_
    refine s_gi (x := 7) rfl g rfl rfl rfl ?_
    refine am_s rfl rfl ?_
    refine am_s rfl rfl ?_
    refine s_k 48 rfl rfl ?_
    refine s_clt rfl ⟨by omega, by omega⟩ ⟨by omega, by omega⟩ (fun c2 => ?_) (fun c2 => ?_)
    · refine am_s rfl rfl ?_
      refine am_s rfl rfl ?_
      refine s_gi (x := 7) rfl g rfl rfl rfl ?_
      refine s_pi (x := 8) rfl g rfl rfl rfl rfl ?_
      refine s_kl 0 rfl rfl ?_
      have hnd : ¬ (tSk T z (s 168 7) < z ∧ 48 ≤ T (tSk T z (s 168 7)) ∧ T (tSk T z (s 168 7)) ≤ 57) := fun y => by
        rw [if_pos y.1] at *
        omega
      have eD : tNd T z (yt s) = (tSk T z (s 168 7), 0) := by
        show tDg T z 10 (tSk T z (s 168 7)) 0 = _
        unfold tDg
        rw [if_neg hnd]
      refine am_r rfl rfl (hPP _ 0 (Fm_w hF (by decide)) ?_ ?_ ⟨by decide, by decide⟩ (fun y => absurd y ?_))
      · unfold tNm
        rw [if_neg (show ¬ 0 ≤ (yt s).f by show ¬ 0 ≤ s 168 8; omega), if_pos (show tNf T z (yt s) from Or.inl (by rw [eD]; rfl)), eD]
        rw [yt_w8, p1]
        exact ⟨rfl, rfl, fun y => absurd y (by show ¬ tSk T z (s 168 7) < 0; omega)⟩
      · rw [yt_w8, p1]
        exact ⟨by show 0 ≤ tSk T z (s 168 7) ∧ tSk T z (s 168 7) ≤ z; omega, by show (-1 ≤ tSk T z (s 168 7) ∧ tSk T z (s 168 7) ≤ z); omega, by show (-1 ≤ s1 168 9 ∧ s1 168 9 ≤ z); omega⟩
      · rw [yt_w8, p1]
        show ¬ tSk T z (s 168 7) < 0
        omega
    · refine am_s rfl rfl ?_
      refine s_k 57 rfl rfl ?_
      refine s_cle rfl ⟨by omega, by omega⟩ ⟨by omega, by omega⟩ (fun c3 => ?_) (fun c3 => ?_)
      · refine s_kl 0 rfl rfl ?_
        refine am_s rfl rfl ?_
        have hdg : tSk T z (s 168 7) < z ∧ 48 ≤ T (tSk T z (s 168 7)) ∧ T (tSk T z (s 168 7)) ≤ 57 := by
          by_cases y : tSk T z (s 168 7) < z
          · rw [if_pos y] at *; omega
          · rw [if_neg y] at *; omega
        rw [p1]
        refine am_lv [(7, .long (lI 0)), (6, .int (iI (tSk T z (s 168 7)))), (3, .long (lI hi)), (1, .long (lI lo)), (0, .ref 168)] rfl rfl ⟨rfl, rfl, rfl, rfl, rfl, trivial⟩ ?_
        refine s_while (X := Int) (fun v s2 => am_Fm [] [7, 8, 9] s s2 ∧ s2 168 9 = s 168 9 ∧ ((s2 168 8 = s 168 8 ∧ (tSk T z (s 168 7) ≤ s2 168 7 ∧ s2 168 7 ≤ z ∧ s2 168 7 - tSk T z (s 168 7) ≤ 10) ∧ (0 ≤ v ∧ v < (10 ^ (s2 168 7 - tSk T z (s 168 7)).toNat : Nat)) ∧ tDg T z (10 - (s2 168 7 - tSk T z (s 168 7))).toNat (s2 168 7) v = tNd T z (yt s)) ∨ (s2 168 8 = s2 168 7 ∧ (0 ≤ s2 168 7 ∧ s2 168 7 ≤ z) ∧ v < 100000000000 ∧ tNd T z (yt s) = (s2 168 7, v) ∧ tNf T z (yt s)))) (fun v s2 => if s2 168 8 < 0 then (z - s2 168 7).toNat + 1 else 0) (fun v => [(7, .long (lI v)), (6, .int (iI (tSk T z (s 168 7)))), (3, .long (lI hi)), (1, .long (lI lo)), (0, .ref 168)]) ?_ (x := 0) ⟨hF, u1, Or.inl ⟨f1, by rw [p1]; omega, ⟨by omega, by rw [p1, show (tSk T z (s 168 7) - tSk T z (s 168 7)).toNat = 0 by omega]; decide⟩, by rw [p1, show (10 - (tSk T z (s 168 7) - tSk T z (s 168 7))).toNat = 10 by omega]; rfl⟩⟩
        · rintro v s2 ⟨hF2, e9, ⟨e8, hr, hv, hd2⟩ | ⟨e8, hr, hv, hD, hN⟩⟩ kk
          · try simp only at kk ⊢
            have e5 : s2 168 5 = z := (hF2.2 5 (by decide)).trans ez
            have pw : (10 ^ (s2 168 7 - tSk T z (s 168 7)).toNat : Nat) ≤ 10 ^ 10 := Nat.pow_le_pow_right (by decide) (by omega)
            have pw2 : (10 ^ 10 : Nat) = 10000000000 := by decide
            generalize hw : (10 ^ (s2 168 7 - tSk T z (s 168 7)).toNat : Nat) = w0 at hv pw
            refine am_s rfl rfl ?_
            refine s_gi (x := 7) rfl g rfl rfl rfl ?_
            refine am_s rfl rfl ?_
            refine s_gi (x := 5) rfl g rfl rfl rfl ?_
            refine s_cge rfl ⟨by omega, by omega⟩ ⟨by omega, by omega⟩ (fun c1 => ?_) (fun c1 => ?_)
            · refine am_lv [(7, _), (6, _), (3, _), (1, _), (0, _)] rfl rfl ⟨rfl, rfl, rfl, rfl, rfl, trivial⟩ ?_
              exact t_num153 (d := d) g hx hl hh (by omega) hF2 e9 (num_end hd2 (fun y => by omega)) (Or.inl ⟨e8, num_nf hd2 (fun y => by omega) (fun e => (show ¬ (s2 168 7 < z ∧ 48 ≤ T (s2 168 7) ∧ T (s2 168 7) ≤ 57) from fun y => by omega) (by rw [e]; exact hdg))⟩) (by omega) hPP
            · have eT : s2 171 (s2 168 7) = T (s2 168 7) := by rw [hF2.1 171 (by decide)]; exact hx.et _ (by omega) (by omega)
              have rT := hx.tr (s2 168 7) (by omega) (by omega)
              refine am_s rfl rfl ?_
              refine s_gr rfl g rfl rfl ?_
              refine am_s rfl rfl ?_
              refine s_gi (x := 7) rfl g rfl rfl rfl ?_
              refine s_b0 rfl g rfl ⟨by omega, by omega⟩ (by decide) ?_
              rw [eT]
              refine s_k 48 rfl rfl ?_
              refine s_clt rfl ⟨by omega, by omega⟩ ⟨by omega, by omega⟩ (fun c2 => ?_) (fun c2 => ?_)
              · refine am_lv [(7, _), (6, _), (3, _), (1, _), (0, _)] rfl rfl ⟨rfl, rfl, rfl, rfl, rfl, trivial⟩ ?_
                exact t_num153 (d := d) g hx hl hh (by omega) hF2 e9 (num_end hd2 (fun y => by omega)) (Or.inl ⟨e8, num_nf hd2 (fun y => by omega) (fun e => (show ¬ (s2 168 7 < z ∧ 48 ≤ T (s2 168 7) ∧ T (s2 168 7) ≤ 57) from fun y => by omega) (by rw [e]; exact hdg))⟩) (by omega) hPP
              · refine am_s rfl rfl ?_
                refine s_gr rfl g rfl rfl ?_
                refine am_s rfl rfl ?_
                refine s_gi (x := 7) rfl g rfl rfl rfl ?_
                refine s_b0 rfl g rfl ⟨by omega, by omega⟩ (by decide) ?_
                rw [eT]
                refine s_k 57 rfl rfl ?_
                refine s_cgt rfl ⟨by omega, by omega⟩ ⟨by omega, by omega⟩ (fun c3 => ?_) (fun c3 => ?_)
                · refine am_lv [(7, _), (6, _), (3, _), (1, _), (0, _)] rfl rfl ⟨rfl, rfl, rfl, rfl, rfl, trivial⟩ ?_
                  exact t_num153 (d := d) g hx hl hh (by omega) hF2 e9 (num_end hd2 (fun y => by omega)) (Or.inl ⟨e8, num_nf hd2 (fun y => by omega) (fun e => (show ¬ (s2 168 7 < z ∧ 48 ≤ T (s2 168 7) ∧ T (s2 168 7) ≤ 57) from fun y => by omega) (by rw [e]; exact hdg))⟩) (by omega) hPP
                · refine am_s rfl rfl ?_
                  refine s_gi (x := 8) rfl g rfl rfl rfl ?_
                  refine s_zge rfl ⟨by omega, by omega⟩ (fun c4 => absurd c4 (by omega)) (fun c4 => ?_)
                  refine am_s rfl rfl ?_
                  refine s_gi (x := 7) rfl g rfl rfl rfl ?_
                  refine am_s rfl rfl ?_
                  refine s_isub rfl ?_
                  refine s_k 10 rfl rfl ?_
                  refine s_cne rfl ⟨by omega, by omega⟩ ⟨by omega, by omega⟩ (fun c5 => ?_) (fun c5 => ?_)
                  · refine s_kl 10 rfl rfl ?_
                    refine am_s rfl rfl ?_
                    refine s_lmul rfl ?_
                    refine am_s rfl rfl ?_
                    refine s_gr rfl g rfl rfl ?_
                    refine am_s rfl rfl ?_
                    refine s_gi (x := 7) rfl g rfl rfl rfl ?_
                    refine s_b0 rfl g rfl ⟨by omega, by omega⟩ (by decide) ?_
                    rw [eT]
                    refine s_i2l rfl ⟨by omega, by omega⟩ ?_
                    refine s_ladd rfl ?_
                    refine s_kl 48 rfl rfl ?_
                    refine s_lsub rfl ?_
                    refine am_s rfl rfl ?_
                    refine am_s rfl rfl ?_
                    refine am_s rfl rfl ?_
                    refine s_gi (x := 7) rfl g rfl rfl rfl ?_
                    refine s_k 1 rfl rfl ?_
                    refine s_iadd rfl ?_
                    refine s_pi (x := 7) rfl g rfl rfl rfl rfl ?_
                    refine am_s rfl rfl ?_
                    refine am_lv [(7, _), (6, _), (3, _), (1, _), (0, _)] rfl rfl ⟨rfl, rfl, rfl, rfl, rfl, trivial⟩ ?_
                    refine kk _ _ ⟨Fm_w hF2 (by decide), by rw [am_w_x (by decide)]; exact e9, Or.inl ⟨by rw [am_w_x (by decide)]; exact e8, by rw [am_w_eq]; omega, ⟨by omega, ?_⟩, ?_⟩⟩ ?_
                    · rw [am_w_eq, show (s2 168 7 + 1 - tSk T z (s 168 7)).toNat = (s2 168 7 - tSk T z (s 168 7)).toNat + 1 by omega, Nat.pow_succ, hw]
                      omega
                    · rw [am_w_eq, ← hd2]
                      obtain ⟨k, hk⟩ : ∃ k, (10 - (s2 168 7 - tSk T z (s 168 7))).toNat = k + 1 := ⟨(10 - (s2 168 7 - tSk T z (s 168 7))).toNat - 1, by omega⟩
                      rw [show (10 - (s2 168 7 + 1 - tSk T z (s 168 7))).toNat = k by omega, hk]
                      conv => rhs; unfold tDg
                      rw [if_pos ⟨by omega, by omega, by omega⟩, show 10 * v + T (s2 168 7) - 48 = 10 * v + (T (s2 168 7) - 48) by omega]
                    · rw [am_w_x (by decide), am_w_eq, if_pos (by omega), if_pos (by omega)]; omega
                  · refine am_s rfl rfl ?_
                    refine am_s rfl rfl ?_
                    refine s_gi (x := 7) rfl g rfl rfl rfl ?_
                    refine s_pi (x := 8) rfl g rfl rfl rfl rfl ?_
                    refine am_s rfl rfl ?_
                    refine am_lv [(7, _), (6, _), (3, _), (1, _), (0, _)] rfl rfl ⟨rfl, rfl, rfl, rfl, rfl, trivial⟩ ?_
                    refine kk v _ ⟨Fm_w hF2 (by decide), by rw [am_w_x (by decide)]; exact e9, Or.inr ⟨by rw [am_w_eq, am_w_x (by decide)], by rw [am_w_x (by decide)]; omega, by omega, ?_, ?_⟩⟩ ?_
                    · rw [am_w_x (by decide), ← hd2, show (10 - (s2 168 7 - tSk T z (s 168 7))).toNat = 0 by omega]; rfl
                    · refine Or.inr ?_
                      have e : (tNd T z (yt s)).1 = s2 168 7 := by rw [← hd2, show (10 - (s2 168 7 - tSk T z (s 168 7))).toNat = 0 by omega]; rfl
                      rw [e]; omega
                    · rw [am_w_eq, if_neg (by omega), if_pos (by omega)]; exact Nat.succ_pos _
          · try simp only at kk ⊢
            have e5 : s2 168 5 = z := (hF2.2 5 (by decide)).trans ez
            refine am_s rfl rfl ?_
            refine s_gi (x := 7) rfl g rfl rfl rfl ?_
            refine am_s rfl rfl ?_
            refine s_gi (x := 5) rfl g rfl rfl rfl ?_
            refine s_cge rfl ⟨by omega, by omega⟩ ⟨by omega, by omega⟩ (fun c1 => ?_) (fun c1 => ?_)
            · refine am_lv [(7, _), (6, _), (3, _), (1, _), (0, _)] rfl rfl ⟨rfl, rfl, rfl, rfl, rfl, trivial⟩ ?_
              exact t_num153 (d := d) g hx hl hh (by omega) hF2 e9 hD (Or.inr ⟨e8, hN⟩) hv hPP
            · have eT : s2 171 (s2 168 7) = T (s2 168 7) := by rw [hF2.1 171 (by decide)]; exact hx.et _ (by omega) (by omega)
              have rT := hx.tr (s2 168 7) (by omega) (by omega)
              refine am_s rfl rfl ?_
              refine s_gr rfl g rfl rfl ?_
              refine am_s rfl rfl ?_
              refine s_gi (x := 7) rfl g rfl rfl rfl ?_
              refine s_b0 rfl g rfl ⟨by omega, by omega⟩ (by decide) ?_
              rw [eT]
              refine s_k 48 rfl rfl ?_
              refine s_clt rfl ⟨by omega, by omega⟩ ⟨by omega, by omega⟩ (fun c2 => ?_) (fun c2 => ?_)
              · refine am_lv [(7, _), (6, _), (3, _), (1, _), (0, _)] rfl rfl ⟨rfl, rfl, rfl, rfl, rfl, trivial⟩ ?_
                exact t_num153 (d := d) g hx hl hh (by omega) hF2 e9 hD (Or.inr ⟨e8, hN⟩) hv hPP
              · refine am_s rfl rfl ?_
                refine s_gr rfl g rfl rfl ?_
                refine am_s rfl rfl ?_
                refine s_gi (x := 7) rfl g rfl rfl rfl ?_
                refine s_b0 rfl g rfl ⟨by omega, by omega⟩ (by decide) ?_
                rw [eT]
                refine s_k 57 rfl rfl ?_
                refine s_cgt rfl ⟨by omega, by omega⟩ ⟨by omega, by omega⟩ (fun c3 => ?_) (fun c3 => ?_)
                · refine am_lv [(7, _), (6, _), (3, _), (1, _), (0, _)] rfl rfl ⟨rfl, rfl, rfl, rfl, rfl, trivial⟩ ?_
                  exact t_num153 (d := d) g hx hl hh (by omega) hF2 e9 hD (Or.inr ⟨e8, hN⟩) hv hPP
                · refine am_s rfl rfl ?_
                  refine s_gi (x := 8) rfl g rfl rfl rfl ?_
                  refine s_zge rfl ⟨by omega, by omega⟩ (fun c4 => ?_) (fun c4 => absurd c4 (by omega))
                  refine am_lv [(7, _), (6, _), (3, _), (1, _), (0, _)] rfl rfl ⟨rfl, rfl, rfl, rfl, rfl, trivial⟩ ?_
                  exact t_num153 (d := d) g hx hl hh (by omega) hF2 e9 hD (Or.inr ⟨e8, hN⟩) hv hPP
      · refine am_s rfl rfl ?_
        refine am_s rfl rfl ?_
        refine s_gi (x := 7) rfl g rfl rfl rfl ?_
        refine s_pi (x := 8) rfl g rfl rfl rfl rfl ?_
        refine s_kl 0 rfl rfl ?_
        have hnd : ¬ (tSk T z (s 168 7) < z ∧ 48 ≤ T (tSk T z (s 168 7)) ∧ T (tSk T z (s 168 7)) ≤ 57) := fun y => by
          rw [if_pos y.1] at *
          omega
        have eD : tNd T z (yt s) = (tSk T z (s 168 7), 0) := by
          show tDg T z 10 (tSk T z (s 168 7)) 0 = _
          unfold tDg
          rw [if_neg hnd]
        refine am_r rfl rfl (hPP _ 0 (Fm_w hF (by decide)) ?_ ?_ ⟨by decide, by decide⟩ (fun y => absurd y ?_))
        · unfold tNm
          rw [if_neg (show ¬ 0 ≤ (yt s).f by show ¬ 0 ≤ s 168 8; omega), if_pos (show tNf T z (yt s) from Or.inl (by rw [eD]; rfl)), eD]
          rw [yt_w8, p1]
          exact ⟨rfl, rfl, fun y => absurd y (by show ¬ tSk T z (s 168 7) < 0; omega)⟩
        · rw [yt_w8, p1]
          exact ⟨by show 0 ≤ tSk T z (s 168 7) ∧ tSk T z (s 168 7) ≤ z; omega, by show (-1 ≤ tSk T z (s 168 7) ∧ tSk T z (s 168 7) ≤ z); omega, by show (-1 ≤ s1 168 9 ∧ s1 168 9 ≤ z); omega⟩
        · rw [yt_w8, p1]
          show ¬ tSk T z (s 168 7) < 0
          omega
  · refine s_kl 0 rfl rfl ?_
    exact am_r rfl rfl (hPP s 0 (am_Fm_r _ _ _) (by rw [tNm_s (show 0 ≤ (yt s).f by show 0 ≤ s 168 8; omega)]; exact txE_r _) hx.o ⟨by decide, by decide⟩ (fun y => absurd y (by show ¬ s 168 8 < 0; omega)))
