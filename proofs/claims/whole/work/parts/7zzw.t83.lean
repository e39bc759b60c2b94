/-! match, both -/
theorem od_pre {n : Int} {hu od : Int → Int} {oc_ : Int} (hn : 1 ≤ n ∧ n ≤ 20) (hr : ∀ c, 1 ≤ c → c < n → 0 ≤ hu c ∧ hu c < n) (ho : oc_ = oc (dgf hu n.toNat) n.toNat) (hd : od_is (dgf hu n.toNat) n.toNat od) : (0 ≤ oc_ ∧ oc_ ≤ 20) ∧ oc_ % 2 = 0 ∧ (∀ i, 0 ≤ i → i < oc_ → 0 ≤ od i ∧ od i < n) ∧ ∀ i j, 0 ≤ i → i < j → j < oc_ → od i < od j := by
  have a := oc_le (dgf hu n.toNat) n.toNat
  have hr2 : ∀ c, 1 ≤ c → c < (n.toNat : Int) → 0 ≤ hu c ∧ hu c < n.toNat := fun c c0 c1 => by have := hr c c0 (by omega); omega
  refine ⟨by omega, by rw [ho]; exact oc_even hr2, fun i i0 i1 => ?_, fun i j i0 ij j1 => od_up hd i0 ij (by omega)⟩
  have := od_ra hd i0 (by omega)
  omega
def tX (s : am_S) : Prop := tr_is (s 25 0) (fx s 54) (s 48 1) (s 48 2) (s 50) (s 55) (s 56)
theorem pPre_tr {s : am_S} (hm : mx_ok s) (ht : tX s) : pPre s := by
  have m1 := hm.1
  have m2 := hm.2.1
  obtain ⟨g1, -⟩ := gw_rng (by omega) ht.1
  obtain ⟨-, g2, -⟩ := gw_rng (by omega) ht.1
  obtain ⟨a, b, c, d⟩ := od_pre ⟨m1, m2⟩ (fun c c0 c1 => g2 c (by omega) c1 (by show (0 : Int) ≤ c; omega) (by omega)) ht.2.1 ht.2.2.1
  exact ⟨hm, a, b, c, d⟩
def nTr (s s1 : am_S) : Prop := (s 48 0 = 1 ∧ s1 = s) ∨ (s 48 0 = 0 ∧ am_Fr [48, 50, 51, 52, 53, 55, 56, 57] s s1 ∧ s1 48 0 = 1 ∧ tr_is (s 25 0) (fx s 54) (s1 48 1) (s1 48 2) (s1 50) (s1 55) (s1 56))
def nPa (s s1 : am_S) : Prop := (s 58 0 = 1 ∧ s1 = s) ∨ (s 58 0 = 0 ∧ pRes s s1)
theorem tr_f {n al oc_ : Int} {f f2 : Int → Int → Int} {hu od be : Int → Int} (hf : ∀ p q, 0 ≤ p → p < n → 0 ≤ q → q < n → f p q = f2 p q) (h : tr_is n f al oc_ hu od be) : tr_is n f2 al oc_ hu od be := ⟨gw_f (by omega) hf h.1, h.2⟩
theorem nTr_t {s s1 : am_S} (hm : mx_ok s) (ht : s 48 0 = 1 → tX s) (h : nTr s s1) : mx_ok s1 ∧ tX s1 ∧ s1 48 0 = 1 ∧ s1 58 = s 58 := by
  have m2 := hm.2.1
  rcases h with ⟨z, rfl⟩ | ⟨z, hF, h1, h2⟩
  · exact ⟨hm, ht z, z, rfl⟩
  · have e25 : s1 25 = s 25 := hF 25 (by decide)
    have em : ∀ a b, 0 ≤ a → a < s 25 0 → mx s1 a b = mx s a b := fun a b a0 a1 => by
      unfold mx
      rw [hF _ (fun z => by simp at z; omega)]
    refine ⟨⟨by rw [e25]; exact hm.1, by rw [e25]; exact m2, fun a b a0 a1 b0 b1 => ?_⟩, ?_, h1, hF 58 (by decide)⟩
    · rw [e25] at a1 b1
      rw [em a b a0 a1]
      exact hm.2.2 a b a0 a1 b0 b1
    · unfold tX
      rw [e25]
      refine tr_f (fun p q p0 p1 q0 q1 => ?_) h2
      unfold fx
      rw [em p q p0 p1, hF 54 (by decide)]
set_option maxHeartbeats 4000000 in
theorem t_need1 {d : Nat} {E : am_Ev} {s : am_S} {PP : Option Value → am_H → Prop} (g : am_Eg E) (hm : mx_ok s) (hp : pn_ok s 54) (hf : s 48 0 = 0 ∨ s 48 0 = 1) (hg : s 58 0 = 0 ∨ s 58 0 = 1) (ht : s 48 0 = 1 → tX s) (hPP : ∀ s1 s2, nTr s s1 → nPa s1 s2 → PP none (am_hp E s2)) : am_wp (d + 12 + 1 + 1 + 1) 152 0 (lv_args 0 [.ref 1, .int (iI 1)]) [] (am_hp E s) PP := by
  refine am_s rfl rfl ?_
  refine s_gr rfl g rfl rfl ?_
  refine s_gi (x := 0) rfl g rfl rfl rfl ?_
  refine s_zne rfl (by rcases hf with z | z <;> exact ⟨by omega, by omega⟩) (fun c1 => ?_) (fun c1 => ?_)
  · have nt : nTr s s := Or.inl ⟨by omega, rfl⟩
    obtain ⟨t1, t2, t3, t4⟩ := nTr_t hm ht nt
    have e58 : s 58 0 = s 58 0 := by rw [t4]
    refine am_s rfl rfl ?_
    refine s_k 1 rfl rfl ?_
    refine s_clt rfl ⟨by decide, by decide⟩ ⟨by decide, by decide⟩ (fun c1 => absurd c1 (by omega)) (fun c1 => ?_)
    refine am_s rfl rfl ?_
    refine s_gr rfl g rfl rfl ?_
    refine s_gi (x := 0) rfl g rfl rfl rfl ?_
    refine s_zne rfl (by rw [e58]; rcases hg with z | z <;> exact ⟨by omega, by omega⟩) (fun c2 => ?_) (fun c2 => ?_)
    · refine am_s rfl rfl ?_
      refine s_k 2 rfl rfl ?_
      refine s_clt rfl ⟨by decide, by decide⟩ ⟨by decide, by decide⟩ (fun c3 => ?_) (fun c3 => absurd c3 (by omega))
      first | exact am_r rfl rfl (hPP s s nt (Or.inl ⟨by omega, rfl⟩)) | exact am_r rfl rfl (hPP s s2 nt (Or.inr ⟨by omega, hR⟩))
    · refine am_s rfl rfl ?_
      refine s_gr rfl g rfl rfl ?_
      refine am_s rfl rfl ?_
      refine s_gr rfl g rfl rfl ?_
      refine am_s rfl rfl ?_
      refine s_gr rfl g rfl rfl ?_
      refine s_cv [_, _] [] rfl g (Or.inl rfl) rfl rfl (Nat.le_of_ble_eq_true rfl) rfl rfl (t_pairMake (s := s) (PP := fun rv h => rv = none ∧ ∃ s', h = am_hp E s' ∧ pRes s s') g (pPre_tr t1 t2) (fun s' z => ⟨rfl, s', rfl, z⟩)) ?_
      rintro rv h1 ⟨rfl, s2, rfl, hR⟩
      refine am_s rfl rfl ?_
      refine s_k 2 rfl rfl ?_
      refine s_clt rfl ⟨by decide, by decide⟩ ⟨by decide, by decide⟩ (fun c4 => ?_) (fun c4 => absurd c4 (by omega))
      first | exact am_r rfl rfl (hPP s s nt (Or.inl ⟨by omega, rfl⟩)) | exact am_r rfl rfl (hPP s s2 nt (Or.inr ⟨by omega, hR⟩))
  · refine am_s rfl rfl ?_
    refine s_gr rfl g rfl rfl ?_
    refine am_s rfl rfl ?_
    refine s_gr rfl g rfl rfl ?_
    refine s_cv [_] [] rfl g (Or.inl rfl) rfl rfl (Nat.le_of_ble_eq_true rfl) rfl rfl (t_treeMake g hm hp) ?_
    rintro rv h1 ⟨rfl, s1, rfl, hF, m1, m2⟩
    have nt : nTr s s1 := Or.inr ⟨by omega, hF, m1, m2⟩
    obtain ⟨t1, t2, t3, t4⟩ := nTr_t hm ht nt
    have e58 : s1 58 0 = s 58 0 := by rw [t4]
    refine am_s rfl rfl ?_
    refine s_k 1 rfl rfl ?_
    refine s_clt rfl ⟨by decide, by decide⟩ ⟨by decide, by decide⟩ (fun c1 => absurd c1 (by omega)) (fun c1 => ?_)
    refine am_s rfl rfl ?_
    refine s_gr rfl g rfl rfl ?_
    refine s_gi (x := 0) rfl g rfl rfl rfl ?_
    refine s_zne rfl (by rw [e58]; rcases hg with z | z <;> exact ⟨by omega, by omega⟩) (fun c2 => ?_) (fun c2 => ?_)
    · refine am_s rfl rfl ?_
      refine s_k 2 rfl rfl ?_
      refine s_clt rfl ⟨by decide, by decide⟩ ⟨by decide, by decide⟩ (fun c3 => ?_) (fun c3 => absurd c3 (by omega))
      first | exact am_r rfl rfl (hPP s1 s1 nt (Or.inl ⟨by omega, rfl⟩)) | exact am_r rfl rfl (hPP s1 s2 nt (Or.inr ⟨by omega, hR⟩))
    · refine am_s rfl rfl ?_
      refine s_gr rfl g rfl rfl ?_
      refine am_s rfl rfl ?_
      refine s_gr rfl g rfl rfl ?_
      refine am_s rfl rfl ?_
      refine s_gr rfl g rfl rfl ?_
      refine s_cv [_, _] [] rfl g (Or.inl rfl) rfl rfl (Nat.le_of_ble_eq_true rfl) rfl rfl (t_pairMake (s := s1) (PP := fun rv h => rv = none ∧ ∃ s', h = am_hp E s' ∧ pRes s1 s') g (pPre_tr t1 t2) (fun s' z => ⟨rfl, s', rfl, z⟩)) ?_
      rintro rv h1 ⟨rfl, s2, rfl, hR⟩
      refine am_s rfl rfl ?_
      refine s_k 2 rfl rfl ?_
      refine s_clt rfl ⟨by decide, by decide⟩ ⟨by decide, by decide⟩ (fun c4 => ?_) (fun c4 => absurd c4 (by omega))
      first | exact am_r rfl rfl (hPP s1 s1 nt (Or.inl ⟨by omega, rfl⟩)) | exact am_r rfl rfl (hPP s1 s2 nt (Or.inr ⟨by omega, hR⟩))
def ma_X (E : am_Ev) (s : am_S) (rv : Option Value) (h : am_H) : Prop := ∃ s1, lk_to s s1 ∧ ((s1 47 0 ≠ 0 ∧ rv = some (.long (lI (-103))) ∧ h = am_hp E s1) ∨ (s1 47 0 = 0 ∧ ∃ s2 s3, nTr s1 s2 ∧ nPa s2 s3 ∧ rv = some (.long (lI (s3 58 1))) ∧ h = am_hp E s3))
theorem tX_lk {s s1 : am_S} (hm : mx_ok s) (h : lk_to s s1) (ht : tX s) : tX s1 := by
  have m2 := hm.2.1
  unfold tX at ht ⊢
  rw [h.2.1, h.1 48 (by decide), h.1 50 (by decide), h.1 55 (by decide), h.1 56 (by decide)]
  refine tr_f (fun p q p0 p1 q0 q1 => ?_) ht
  unfold fx
  rw [mx_lk h p q p0 (by omega), h.1 54 (by decide)]
theorem t_matchX {d : Nat} {E : am_Ev} {s : am_S} (g : am_Eg E) (hm : mx_ok s) (hl : lk_ok s) (hp : pn_ok s 54) (hf : s 48 0 = 0 ∨ s 48 0 = 1) (hg : s 58 0 = 0 ∨ s 58 0 = 1) (ht : s 48 0 = 1 → tX s) : am_wp (d + 12 + 1 + 1 + 1 + 1) 136 0 (lv_args 0 [.ref 1]) [] (am_hp E s) (ma_X E s) := by
  refine am_s rfl rfl ?_
  refine s_gr rfl g rfl rfl ?_
  refine s_cv [] [] rfl g (Or.inl rfl) rfl rfl (Nat.le_of_ble_eq_true rfl) rfl rfl (t_isSound g hm hl) ?_
  rintro rv h1 ⟨s1, rfl, hk, hh⟩
  rcases hh with ⟨hz, rfl⟩ | ⟨hz, rfl⟩
  · refine s_zne rfl ⟨by omega, by omega⟩ (fun c1 => ?_) (fun c1 => absurd c1 (by omega))
    refine am_s rfl rfl ?_
    refine s_k 1 rfl rfl ?_
    have e48 : s1 48 = s 48 := hk.1 48 (by decide)
    have e58 : s1 58 = s 58 := hk.1 58 (by decide)
    refine s_cv [_] [] rfl g (Or.inl rfl) rfl rfl (Nat.le_of_ble_eq_true rfl) rfl rfl (t_need1 (s := s1) (PP := fun rv h => rv = none ∧ ∃ s2 s3, h = am_hp E s3 ∧ nTr s1 s2 ∧ nPa s2 s3) g (mx_ok_lk hm hk) (fun c c0 c1 => by rw [hk.1 54 (by decide)]; exact hp c c0 c1) (by rw [e48]; exact hf) (by rw [e58]; exact hg) (fun z => tX_lk hm hk (ht (by rw [← e48]; exact z))) (fun s2 s3 a b => ⟨rfl, s2, s3, rfl, a, b⟩)) ?_
    rintro rv h1 ⟨rfl, s2, s3, rfl, n1, n2⟩
    refine am_s rfl rfl ?_
    refine s_gr rfl g rfl rfl ?_
    refine s_gl (x := 1) rfl g rfl rfl rfl ?_
    exact am_r rfl rfl ⟨s1, hk, Or.inr ⟨hz, s2, s3, n1, n2, rfl, rfl⟩⟩
  · refine s_zne rfl ⟨by omega, by omega⟩ (fun c1 => absurd c1 (by omega)) (fun c1 => ?_)
    refine s_kl (-103) rfl rfl ?_
    exact am_r rfl rfl ⟨s1, hk, Or.inl ⟨hz, rfl, rfl⟩⟩
def nTM (s s1 : am_S) : Prop := (s 168 14 = 1 ∧ s1 = s) ∨ (s 168 14 = 0 ∧ am_Fm [186, 175, 192, 176, 177] [14, 16, 20] s s1 ∧ gw_ok (s 168 1) 0 (fm s 0) ((s 168 1 - 0).toNat - 1) (fun c => 0 ≤ c) (s1 192) (s1 168 16) ∧ s1 168 14 = 1 ∧ s1 168 20 = oc (dgf (s1 192) (s 168 1).toNat) (s 168 1).toNat ∧ od_is (dgf (s1 192) (s 168 1).toNat) (s 168 1).toNat (s1 177) ∧ (-200000000000000000 ≤ s1 168 16 ∧ s1 168 16 ≤ 200000000000000000))
theorem my_c {s s1 : am_S} (h : s1 168 1 = s 168 1) (h2 : s1 169 = s 169) (hm : my_ok s) : my_ok s1 := by
  unfold my_ok my at hm ⊢
  rw [h, h2]; exact hm
theorem nTM_t {s s1 : am_S} (hm : my_ok s) (ht : s 168 14 = 1 → qPre s) (h : nTM s s1) : qPre s1 := by
  rcases h with ⟨z, rfl⟩ | ⟨z, hF, h1, h2, h3, h4, -⟩
  · exact ht z
  · have e1 : s1 168 1 = s 168 1 := hF.2 1 (by decide)
    obtain ⟨-, g2, -⟩ := gw_rng (by omega) h1
    obtain ⟨a, b, c, d⟩ := od_pre ⟨hm.1, hm.2.1⟩ (fun c c0 c1 => g2 c (by omega) c1 (by show (0 : Int) ≤ c; omega) (by omega)) h3 h4
    exact ⟨my_c e1 (hF.1 169 (by decide)) hm, a, b, by rw [e1]; exact c, d⟩
theorem t_makeMatchM {d : Nat} {E : am_Ev} {s : am_S} {PP : Option Value → am_H → Prop} (g : am_Eg E) (hm : my_ok s) (hp : pn_ok s 191) (hf : s 168 14 = 0 ∨ s 168 14 = 1) (ht : s 168 14 = 1 → qPre s) (hPP : ∀ s1 s2, nTM s s1 → qRes s1 s2 → PP none (am_hp E s2)) : am_wp (d + 4) 190 0 (lv_args 0 [.ref 168]) [] (am_hp E s) PP := by
  refine am_s rfl rfl ?_
  refine s_gi (x := 14) rfl g rfl rfl rfl ?_
  refine s_zne rfl (by rcases hf with z | z <;> exact ⟨by omega, by omega⟩) (fun c1 => ?_) (fun c1 => ?_)
  · have nt : nTM s s := Or.inl ⟨by omega, rfl⟩
    refine am_lv [(0, _)] rfl rfl ⟨rfl, trivial⟩ ?_
    exact t_mm0 g (nTM_t hm ht nt) (fun s' z => hPP s s' nt z)
  · refine am_s rfl rfl ?_
    refine s_cv [] [] rfl g (Or.inl rfl) rfl rfl (Nat.le_of_ble_eq_true rfl) rfl rfl (t_makeTree g hm hp) ?_
    rintro rv h1 ⟨rfl, al, s1, rfl, hF, m1, m2, m3, m4, m5, m6⟩
    subst m3
    have nt : nTM s s1 := Or.inr ⟨by omega, hF, m1, m2, m4, m5, m6⟩
    refine am_lv [(0, _)] rfl rfl ⟨rfl, trivial⟩ ?_
    exact t_mm0 g (nTM_t hm ht nt) (fun s' z => hPP s1 s' nt z)
def ma_M (E : am_Ev) (s : am_S) (rv : Option Value) (h : am_H) : Prop := ∃ s1, am_Fm [174] [12] s s1 ∧ fl_is (s 168 1) (my s) (s1 168 12) (s1 174 0) (s1 174 1) (s1 174 2) ∧ ((s1 168 12 ≠ 0 ∧ rv = some (.long (lI (-103))) ∧ h = am_hp E s1) ∨ (s1 168 12 = 0 ∧ ∃ s2 s3, nTM s1 s2 ∧ qRes s2 s3 ∧ rv = some (.long (lI (s3 168 22))) ∧ h = am_hp E s3))
theorem qPre_c {s s1 : am_S} (hF : am_Fm [174] [12] s s1) (h : qPre s) : qPre s1 := by
  have e1 : s1 168 1 = s 168 1 := hF.2 1 (by decide)
  have e20 : s1 168 20 = s 168 20 := hF.2 20 (by decide)
  have e177 : s1 177 = s 177 := hF.1 177 (by decide)
  exact ⟨my_c e1 (hF.1 169 (by decide)) h.hm, by rw [e20]; exact h.n0, by rw [e20]; exact h.ev, by rw [e20, e177, e1]; exact h.ra, by rw [e20, e177]; exact h.up⟩
theorem t_matchM0 {d : Nat} {E : am_Ev} {s : am_S} (g : am_Eg E) (hm : my_ok s) (hp : pn_ok s 191) (hf : s 168 14 = 0 ∨ s 168 14 = 1) (ht : s 168 14 = 1 → qPre s) : am_wp (d + 5) 191 5 (lv_args 0 [.ref 168]) [] (am_hp E s) (ma_M E s) := by
  refine am_s rfl rfl ?_
  refine s_cv [] [] rfl g (Or.inl rfl) rfl rfl (Nat.le_of_ble_eq_true rfl) rfl rfl (t_soundM g hm) ?_
  rintro rv h1 ⟨s1, rfl, hF, hfl, hh⟩
  rcases hh with ⟨hz, rfl⟩ | ⟨hz, rfl⟩
  · refine s_zne rfl ⟨by omega, by omega⟩ (fun c1 => ?_) (fun c1 => absurd c1 (by omega))
    refine am_s rfl rfl ?_
    have e14 : s1 168 14 = s 168 14 := hF.2 14 (by decide)
    refine s_cv [] [] rfl g (Or.inl rfl) rfl rfl (Nat.le_of_ble_eq_true rfl) rfl rfl (t_makeMatchM (s := s1) (PP := fun rv h => rv = none ∧ ∃ s2 s3, h = am_hp E s3 ∧ nTM s1 s2 ∧ qRes s2 s3) g (my_c (hF.2 1 (by decide)) (hF.1 169 (by decide)) hm) (fun c c0 c1 => by rw [hF.1 191 (by decide)]; exact hp c c0 c1) (by rw [e14]; exact hf) (fun z => qPre_c hF (ht (by rw [← e14]; exact z))) (fun s2 s3 a b => ⟨rfl, s2, s3, rfl, a, b⟩)) ?_
    rintro rv h1 ⟨rfl, s2, s3, rfl, n1, n2⟩
    refine am_s rfl rfl ?_
    refine s_gl (x := 22) rfl g rfl rfl rfl ?_
    exact am_r rfl rfl ⟨s1, hF, hfl, Or.inr ⟨hz, s2, s3, n1, n2, rfl, rfl⟩⟩
  · refine s_zne rfl ⟨by omega, by omega⟩ (fun c1 => absurd c1 (by omega)) (fun c1 => ?_)
    refine s_kl (-103) rfl rfl ?_
    exact am_r rfl rfl ⟨s1, hF, hfl, Or.inl ⟨hz, rfl, rfl⟩⟩
theorem t_matchM {d : Nat} {E : am_Ev} {s : am_S} (g : am_Eg E) (hm : my_ok s) (hp : pn_ok s 191) (hf : s 168 14 = 0 ∨ s 168 14 = 1) (ht : s 168 14 = 1 → qPre s) : am_wp (d + 5) 191 0 (lv_args 0 [.ref 168]) [] (am_hp E s) (ma_M E (am_w s 168 0 0)) := by
  refine am_s rfl rfl ?_
  refine s_k 0 rfl rfl ?_
  refine s_pi (x := 0) rfl g rfl rfl rfl rfl ?_
  exact t_matchM0 (s := am_w s 168 0 0) g (my_c rfl rfl hm) hp hf (fun z => ⟨my_c rfl rfl hm, (ht z).n0, (ht z).ev, (ht z).ra, (ht z).up⟩)
