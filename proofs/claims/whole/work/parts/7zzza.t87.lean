/-! round, both -/
theorem gw_ind {n x : Int} {f : Int → Int → Int} (hx : 0 ≤ x) (Q : Int → Prop) (h0 : Q x) : ∀ {k : Nat} {I : Int → Prop} {on : Int → Int} {al : Int}, gw_ok n x f k I on al → (∀ b, 0 ≤ b → b < n → I b → b ≠ x → Q (on b) → Q b) → ∀ b, 0 ≤ b → b < n → I b → Q b
  | 0, I, on, al, h, _ => fun b b0 b1 hb => by rw [(h.1 b b0 b1).mp hb]; exact h0
  | k + 1, I, on, al, h, hs => fun b b0 b1 hb => by
    obtain ⟨I0, on0, al0, c, a, h1, hp, e1, e2, e3, e4⟩ := h
    have q0 : ∀ b, 0 ≤ b → b < n → I0 b → Q b := gw_ind hx Q h0 h1 (fun b b0 b1 hb hne hq => by
      have hc : b ≠ c := fun e => hp.2.1 (e ▸ hb)
      exact hs b b0 b1 ((e1 b b0 b1).mpr (Or.inl hb)) hne (by rw [e3 b b0 b1 hc]; exact hq))
    rcases (e1 b b0 b1).mp hb with z | z
    · exact q0 b b0 b1 z
    · subst z
      by_cases bx : b = x
      · rw [bx]; exact h0
      · refine hs b b0 b1 hb bx ?_
        rw [e2]
        exact q0 a (by have := hp.2.2.1.1; omega) hp.2.2.1.2 hp.2.2.2.1
theorem gw_ne {n x : Int} {f : Int → Int → Int} (hx : 0 ≤ x) : ∀ {k : Nat} {I : Int → Prop} {on : Int → Int} {al : Int}, gw_ok n x f k I on al → ∀ b, 0 ≤ b → b < n → I b → b ≠ x → on b ≠ b
  | 0, I, on, al, h => fun b b0 b1 hb hne => absurd ((h.1 b b0 b1).mp hb) hne
  | k + 1, I, on, al, h => fun b b0 b1 hb hne => by
    obtain ⟨I0, on0, al0, c, a, h1, hp, e1, e2, e3, e4⟩ := h
    by_cases e : b = c
    · rw [e, e2]; exact fun z => hp.2.1 (z ▸ hp.2.2.2.1)
    · rw [e3 b b0 b1 e]
      rcases (e1 b b0 b1).mp hb with z | z
      · exact gw_ne hx h1 b b0 b1 z hne
      · exact absurd z e
def pr (s : am_S) : Prop := ∀ c, 0 ≤ c → c < s 25 0 → -1 ≤ s 60 c ∧ s 60 c < s 25 0
def nWk (s s1 : am_S) : Prop := (s 127 0 = 1 ∧ s1 = s) ∨ (s 127 0 = 0 ∧ xW s s1 (s 25 0).toNat)
theorem pRes_pr {s s1 : am_S} (hm : mx_ok s) (h : pRes s s1) : pr s1 := fun c c0 c1 => by
  have m2 := hm.2.1
  have e : s1 25 = s 25 := h.fr 25 (Or.inl (by decide))
  rw [e] at c1 ⊢
  obtain ⟨a, rfl⟩ : ∃ a : Nat, c = a := ⟨c.toNat, by omega⟩
  by_cases z : pO s a = true
  · have := h.inn a (by omega) z; omega
  · have := h.out a (by omega) (by simpa using z)
    rw [this]; exact ⟨by omega, by have := hm.1; omega⟩
theorem tX_mk {s s1 : am_S} (hm : mx_ok s) (ht : tX s) (h : mkFr s s1) : mx_ok s1 ∧ tX s1 := by
  have m2 := hm.2.1
  have e25 : s1 25 = s 25 := h 25 (Or.inl (by decide))
  have em : ∀ a b, 0 ≤ a → a < s 25 0 → mx s1 a b = mx s a b := fun a b a0 a1 => by
    unfold mx
    rw [h _ (Or.inl (by omega))]
  refine ⟨⟨by rw [e25]; exact hm.1, by rw [e25]; exact m2, fun a b a0 a1 b0 b1 => ?_⟩, ?_⟩
  · rw [e25] at a1 b1
    rw [em a b a0 a1]
    exact hm.2.2 a b a0 a1 b0 b1
  · unfold tX
    rw [e25, h 48 (Or.inl (by decide)), h 50 (Or.inl (by decide)), h 55 (Or.inl (by decide)), h 56 (Or.inl (by decide))]
    refine tr_f (fun p q p0 p1 q0 q1 => ?_) ht
    unfold fx
    rw [em p q p0 p1, h 54 (Or.inl (by decide))]
theorem t_needC {d : Nat} {E : am_Ev} {s : am_S} {PP : Option Value → am_H → Prop} (g : am_Eg E) (t1 : mx_ok s) (t2 : tX s) (t3 : pr s) (hw : s 127 0 = 0 ∨ s 127 0 = 1) (hPP : ∀ s3, nWk s s3 → PP none (am_hp E s3)) : am_wp (d + 12 + 1 + 1 + 1) 152 51 (lv_args 0 [.ref 1, .int (iI 2)]) [] (am_hp E s) PP := by
  have m1 := t1.1
  have m2 := t1.2.1
  refine am_s rfl rfl ?_
  refine s_k 2 rfl rfl ?_
  refine s_clt rfl ⟨by decide, by decide⟩ ⟨by decide, by decide⟩ (fun c1 => absurd c1 (by omega)) (fun c1 => ?_)
  refine am_s rfl rfl ?_
  refine s_gr rfl g rfl rfl ?_
  refine s_gi (x := 0) rfl g rfl rfl rfl ?_
  refine s_zne rfl (by rcases hw with z | z <;> exact ⟨by omega, by omega⟩) (fun c2 => ?_) (fun c2 => ?_)
  · exact am_r rfl rfl (hPP s (Or.inl ⟨by omega, rfl⟩))
  · refine am_s rfl rfl ?_
    refine s_gr rfl g rfl rfl ?_
    refine am_s rfl rfl ?_
    refine s_gr rfl g rfl rfl ?_
    refine s_gi (x := 0) rfl g rfl rfl rfl ?_
    refine am_s rfl rfl ?_
    refine s_gr rfl g rfl rfl ?_
    refine am_s rfl rfl ?_
    refine s_gr rfl g rfl rfl ?_
    have g1 := gw_rng (Int.le_refl 0) t2.1
    have g2 := gw_ne (Int.le_refl 0) t2.1
    refine s_cv [_, _, _] [] rfl g (Or.inl rfl) rfl rfl (Nat.le_of_ble_eq_true rfl) rfl rfl (t_walkMake (d := d + 12) (s := s) (n := s 25 0) (N := (s 25 0).toNat) (PP := fun rv h => rv = none ∧ ∃ s', h = am_hp E s' ∧ xW s s' (s 25 0).toNat) g (by omega) ⟨m1, m2⟩ (g1.2.2.2 (by omega)).2 (fun c c0 c1 => g1.2.1 c (by omega) c1 (by show (0 : Int) ≤ c; omega) (by omega)) (fun c c0 c1 => g2 c (by omega) c1 (by show (0 : Int) ≤ c; omega) (by omega)) t3 (fun s' z => ⟨rfl, s', rfl, z⟩)) ?_
    rintro rv h1 ⟨rfl, s3, rfl, hR⟩
    exact am_r rfl rfl (hPP s3 (Or.inr ⟨by omega, hR⟩))
theorem t_needB {d : Nat} {E : am_Ev} {s : am_S} {PP : Option Value → am_H → Prop} (g : am_Eg E) (t1 : mx_ok s) (t2 : tX s) (hpa : s 58 0 = 1 → pr s) (hg : s 58 0 = 0 ∨ s 58 0 = 1) (hw : s 127 0 = 0 ∨ s 127 0 = 1) (hPP : ∀ s2 s3, nPa s s2 → nWk s2 s3 → PP none (am_hp E s3)) : am_wp (d + 12 + 1 + 1 + 1) 152 21 (lv_args 0 [.ref 1, .int (iI 2)]) [] (am_hp E s) PP := by
  refine am_s rfl rfl ?_
  refine s_k 1 rfl rfl ?_
  refine s_clt rfl ⟨by decide, by decide⟩ ⟨by decide, by decide⟩ (fun c1 => absurd c1 (by omega)) (fun c1 => ?_)
  refine am_s rfl rfl ?_
  refine s_gr rfl g rfl rfl ?_
  refine s_gi (x := 0) rfl g rfl rfl rfl ?_
  refine s_zne rfl (by rcases hg with z | z <;> exact ⟨by omega, by omega⟩) (fun c2 => ?_) (fun c2 => ?_)
  · exact t_needC g t1 t2 (hpa (by omega)) hw (fun s3 z => hPP s s3 (Or.inl ⟨by omega, rfl⟩) z)
  · refine am_s rfl rfl ?_
    refine s_gr rfl g rfl rfl ?_
    refine am_s rfl rfl ?_
    refine s_gr rfl g rfl rfl ?_
    refine am_s rfl rfl ?_
    refine s_gr rfl g rfl rfl ?_
    refine s_cv [_, _] [] rfl g (Or.inl rfl) rfl rfl (Nat.le_of_ble_eq_true rfl) rfl rfl (t_pairMake (s := s) (PP := fun rv h => rv = none ∧ ∃ s', h = am_hp E s' ∧ pRes s s') g (pPre_tr t1 t2) (fun s' z => ⟨rfl, s', rfl, z⟩)) ?_
    rintro rv h1 ⟨rfl, s2, rfl, hR⟩
    obtain ⟨u1, u2⟩ := tX_mk t1 t2 hR.fr
    exact t_needC g u1 u2 (pRes_pr t1 hR) (by rw [hR.fr 127 (Or.inr (by decide))]; exact hw) (fun s3 z => hPP s2 s3 (Or.inr ⟨by omega, hR⟩) z)
theorem t_need2 {d : Nat} {E : am_Ev} {s : am_S} {PP : Option Value → am_H → Prop} (g : am_Eg E) (hm : mx_ok s) (hp : pn_ok s 54) (hf : s 48 0 = 0 ∨ s 48 0 = 1) (hg : s 58 0 = 0 ∨ s 58 0 = 1) (hw : s 127 0 = 0 ∨ s 127 0 = 1) (ht : s 48 0 = 1 → tX s) (hpa : s 58 0 = 1 → s 48 0 = 1 ∧ pr s) (hPP : ∀ s1 s2 s3, nTr s s1 → nPa s1 s2 → nWk s2 s3 → PP none (am_hp E s3)) : am_wp (d + 12 + 1 + 1 + 1) 152 0 (lv_args 0 [.ref 1, .int (iI 2)]) [] (am_hp E s) PP := by
  refine am_s rfl rfl ?_
  refine s_gr rfl g rfl rfl ?_
  refine s_gi (x := 0) rfl g rfl rfl rfl ?_
  refine s_zne rfl (by rcases hf with z | z <;> exact ⟨by omega, by omega⟩) (fun c1 => ?_) (fun c1 => ?_)
  · have nt : nTr s s := Or.inl ⟨by omega, rfl⟩
    obtain ⟨t1, t2, t3, t4⟩ := nTr_t hm ht nt
    exact t_needB g t1 t2 (fun z => (hpa z).2) hg hw (fun s2 s3 a b => hPP s s2 s3 nt a b)
  · refine am_s rfl rfl ?_
    refine s_gr rfl g rfl rfl ?_
    refine am_s rfl rfl ?_
    refine s_gr rfl g rfl rfl ?_
    refine s_cv [_] [] rfl g (Or.inl rfl) rfl rfl (Nat.le_of_ble_eq_true rfl) rfl rfl (t_treeMake g hm hp) ?_
    rintro rv h1 ⟨rfl, s1, rfl, hF, m1, m2⟩
    have nt : nTr s s1 := Or.inr ⟨by omega, hF, m1, m2⟩
    obtain ⟨t1, t2, t3, t4⟩ := nTr_t hm ht nt
    exact t_needB g t1 t2 (fun z => by rw [t4] at z; have := (hpa z).1; omega) (by rw [t4]; exact hg) (by rw [hF 127 (by decide)]; exact hw) (fun s2 s3 a b => hPP s1 s2 s3 nt a b)
def ro_X (E : am_Ev) (s : am_S) (rv : Option Value) (h : am_H) : Prop := ∃ s1, lk_to s s1 ∧ ((s1 47 0 ≠ 0 ∧ rv = some (.int (iI (-103))) ∧ h = am_hp E s1) ∨ (s1 47 0 = 0 ∧ ∃ s2 s3 s4, nTr s1 s2 ∧ nPa s2 s3 ∧ nWk s3 s4 ∧ rv = some (.int (iI (s4 127 1 - 1))) ∧ h = am_hp E s4))
theorem pr_lk {s s1 : am_S} (h : lk_to s s1) (hp : pr s) : pr s1 := by
  unfold pr at hp ⊢
  rw [h.2.1, h.1 60 (by decide)]; exact hp
theorem t_roundX {d : Nat} {E : am_Ev} {s : am_S} (g : am_Eg E) (hl : lk_ok s) (hm : mx_ok s) (hp : pn_ok s 54) (hf : s 48 0 = 0 ∨ s 48 0 = 1) (hg : s 58 0 = 0 ∨ s 58 0 = 1) (hw : s 127 0 = 0 ∨ s 127 0 = 1) (ht : s 48 0 = 1 → tX s) (hpa : s 58 0 = 1 → s 48 0 = 1 ∧ pr s) : am_wp (d + 12 + 1 + 1 + 1 + 1) 139 0 (lv_args 0 [.ref 1]) [] (am_hp E s) (ro_X E s) := by
  refine am_s rfl rfl ?_
  refine s_gr rfl g rfl rfl ?_
  refine s_cv [] [] rfl g (Or.inl rfl) rfl rfl (Nat.le_of_ble_eq_true rfl) rfl rfl (t_isSound g hm hl) ?_
  rintro rv h1 ⟨s1, rfl, hk, hh⟩
  rcases hh with ⟨hz, rfl⟩ | ⟨hz, rfl⟩
  · refine s_zne rfl ⟨by omega, by omega⟩ (fun c1 => ?_) (fun c1 => absurd c1 (by omega))
    refine am_s rfl rfl ?_
    refine s_k 2 rfl rfl ?_
    have e48 : s1 48 = s 48 := hk.1 48 (by decide)
    have e58 : s1 58 = s 58 := hk.1 58 (by decide)
    have e127 : s1 127 = s 127 := hk.1 127 (by decide)
    refine s_cv [_] [] rfl g (Or.inl rfl) rfl rfl (Nat.le_of_ble_eq_true rfl) rfl rfl (t_need2 (s := s1) (PP := fun rv h => rv = none ∧ ∃ s2 s3 s4, h = am_hp E s4 ∧ nTr s1 s2 ∧ nPa s2 s3 ∧ nWk s3 s4) g (mx_ok_lk hm hk) (fun c c0 c1 => by rw [hk.1 54 (by decide)]; exact hp c c0 c1) (by rw [e48]; exact hf) (by rw [e58]; exact hg) (by rw [e127]; exact hw) (fun z => tX_lk hm hk (ht (by rw [← e48]; exact z))) (fun z => by rw [e48]; exact ⟨(hpa (by rw [← e58]; exact z)).1, pr_lk hk (hpa (by rw [← e58]; exact z)).2⟩) (fun s2 s3 s4 a b c => ⟨rfl, s2, s3, s4, rfl, a, b, c⟩)) ?_
    rintro rv h1 ⟨rfl, s2, s3, s4, rfl, n1, n2, n3⟩
    refine am_s rfl rfl ?_
    refine s_gr rfl g rfl rfl ?_
    refine s_gi (x := 1) rfl g rfl rfl rfl ?_
    refine s_k 1 rfl rfl ?_
    refine s_isub rfl ?_
    exact am_r rfl rfl ⟨s1, hk, Or.inr ⟨hz, s2, s3, s4, n1, n2, n3, rfl, rfl⟩⟩
  · refine s_zne rfl ⟨by omega, by omega⟩ (fun c1 => absurd c1 (by omega)) (fun c1 => ?_)
    refine s_k (-103) rfl rfl ?_
    exact am_r rfl rfl ⟨s1, hk, Or.inl ⟨hz, rfl, rfl⟩⟩
def hM (s : am_S) : Prop := ∀ c, 1 ≤ c → c < s 168 1 → (0 ≤ s 192 c ∧ s 192 c < s 168 1) ∧ s 192 c ≠ c
def prM (s : am_S) : Prop := ∀ c, 0 ≤ c → c < s 168 1 → -1 ≤ s 178 c ∧ s 178 c < s 168 1
def nQM (s s2 : am_S) : Prop := (s 168 18 = 1 ∧ s2 = s) ∨ (s 168 18 = 0 ∧ ∃ s1, nTM s s1 ∧ qRes s1 s2)
theorem nTM_h {s s1 : am_S} (hm : my_ok s) (ht : s 168 14 = 1 → hM s) (h : nTM s s1) : hM s1 := by
  rcases h with ⟨z, rfl⟩ | ⟨z, hF, h1, h2, h3, h4, -⟩
  · exact ht z
  · have e1 : s1 168 1 = s 168 1 := hF.2 1 (by decide)
    have g1 := gw_rng (Int.le_refl 0) h1
    have g2 := gw_ne (Int.le_refl 0) h1
    intro c c0 c1
    rw [e1] at c1 ⊢
    exact ⟨g1.2.1 c (by omega) c1 (by show (0 : Int) ≤ c; omega) (by omega), g2 c (by omega) c1 (by show (0 : Int) ≤ c; omega) (by omega)⟩
theorem nQM_t {s s2 : am_S} (hm : my_ok s) (ht : s 168 14 = 1 → hM s) (hq : s 168 18 = 1 → s 168 14 = 1 ∧ prM s) (h : nQM s s2) : s2 168 1 = s 168 1 ∧ hM s2 ∧ prM s2 := by
  rcases h with ⟨z, rfl⟩ | ⟨z, s1, n1, hR⟩
  · exact ⟨rfl, ht (hq z).1, (hq z).2⟩
  · have e0 : s1 168 1 = s 168 1 := by
      rcases n1 with ⟨-, rfl⟩ | ⟨-, hF, -⟩
      · rfl
      · exact hF.2 1 (by decide)
    have e1 : s2 168 1 = s1 168 1 := hR.fr.2 1 (by decide)
    have h1 := nTM_h hm ht n1
    have m1 := hm.1
    have m2 := hm.2.1
    refine ⟨e1.trans e0, fun c c0 c1 => ?_, fun c c0 c1 => ?_⟩
    · rw [e1] at c1 ⊢
      rw [hR.fr.1 192 (by decide)]
      exact h1 c c0 c1
    · rw [e1] at c1 ⊢
      obtain ⟨a, rfl⟩ : ∃ a : Nat, c = a := ⟨c.toNat, by omega⟩
      by_cases z : qOm s1 a = true
      · have := hR.inn a (by omega) z; omega
      · have := hR.out a c1 (by simpa using z)
        rw [this]; omega
theorem t_makeRoundM {d : Nat} {E : am_Ev} {s : am_S} {PP : Option Value → am_H → Prop} (g : am_Eg E) (hm : my_ok s) (hp : pn_ok s 191) (hf : s 168 14 = 0 ∨ s 168 14 = 1) (hg : s 168 18 = 0 ∨ s 168 18 = 1) (ht : s 168 14 = 1 → qPre s ∧ hM s) (hq : s 168 18 = 1 → s 168 14 = 1 ∧ prM s) (hPP : ∀ s2 s3, nQM s s2 → yW s2 s3 (s 168 1).toNat → PP none (am_hp E s3)) : am_wp (d + 5) 195 0 (lv_args 0 [.ref 168]) [] (am_hp E s) PP := by
  refine am_s rfl rfl ?_
  refine s_gi (x := 18) rfl g rfl rfl rfl ?_
  refine s_zne rfl (by rcases hg with z | z <;> exact ⟨by omega, by omega⟩) (fun c1 => ?_) (fun c1 => ?_)
  · have nq : nQM s s := Or.inl ⟨by omega, rfl⟩
    obtain ⟨q1, q2, q3⟩ := nQM_t hm (fun z => (ht z).2) hq nq
    have m1 := hm.1
    have m2 := hm.2.1
    refine am_lv [(0, _)] rfl rfl ⟨rfl, trivial⟩ ?_
    exact t_mr0 (d := d + 4) (N := (s 168 1).toNat) g (by omega) (by omega) (fun c c0 c1 => by have := (q2 c c0 (by omega)).1; omega) (fun c c0 c1 => (q2 c c0 (by omega)).2) (fun c c0 c1 => by have := q3 c c0 (by omega); omega) (fun s' z => hPP s s' nq z)
  · refine am_s rfl rfl ?_
    refine s_cv [] [] rfl g (Or.inl rfl) rfl rfl (Nat.le_of_ble_eq_true rfl) rfl rfl (t_makeMatchM (d := d) (s := s) (PP := fun rv h => rv = none ∧ ∃ s1 s2, h = am_hp E s2 ∧ nTM s s1 ∧ qRes s1 s2) g hm hp hf (fun z => (ht z).1) (fun s1 s2 a b => ⟨rfl, s1, s2, rfl, a, b⟩)) ?_
    rintro rv h1 ⟨rfl, s1, s2, rfl, n1, n2⟩
    have nq : nQM s s2 := Or.inr ⟨by omega, s1, n1, n2⟩
    obtain ⟨q1, q2, q3⟩ := nQM_t hm (fun z => (ht z).2) hq nq
    have m1 := hm.1
    have m2 := hm.2.1
    refine am_lv [(0, _)] rfl rfl ⟨rfl, trivial⟩ ?_
    exact t_mr0 (d := d + 4) (N := (s 168 1).toNat) g (by omega) (by omega) (fun c c0 c1 => by have := (q2 c c0 (by omega)).1; omega) (fun c c0 c1 => (q2 c c0 (by omega)).2) (fun c c0 c1 => by have := q3 c c0 (by omega); omega) (fun s' z => hPP s2 s' nq z)
def ro_M (E : am_Ev) (s : am_S) (rv : Option Value) (h : am_H) : Prop := ∃ s1, am_Fm [174] [12] s s1 ∧ fl_is (s 168 1) (my s) (s1 168 12) (s1 174 0) (s1 174 1) (s1 174 2) ∧ ((s1 168 12 ≠ 0 ∧ rv = some (.int (iI (-103))) ∧ h = am_hp E s1) ∨ (s1 168 12 = 0 ∧ ∃ s2 s3, nQM s1 s2 ∧ yW s2 s3 (s1 168 1).toNat ∧ rv = some (.int (iI (s3 168 26 - 1))) ∧ h = am_hp E s3))
theorem hM_c {s s1 : am_S} (h : s1 168 1 = s 168 1) (h2 : s1 192 = s 192) (hh : hM s) : hM s1 := by
  unfold hM at hh ⊢
  rw [h, h2]; exact hh
theorem prM_c {s s1 : am_S} (h : s1 168 1 = s 168 1) (h2 : s1 178 = s 178) (hh : prM s) : prM s1 := by
  unfold prM at hh ⊢
  rw [h, h2]; exact hh
theorem t_roundM0 {d : Nat} {E : am_Ev} {s : am_S} (g : am_Eg E) (hm : my_ok s) (hp : pn_ok s 191) (hf : s 168 14 = 0 ∨ s 168 14 = 1) (hg : s 168 18 = 0 ∨ s 168 18 = 1) (ht : s 168 14 = 1 → qPre s ∧ hM s) (hq : s 168 18 = 1 → s 168 14 = 1 ∧ prM s) : am_wp (d + 6) 196 5 (lv_args 0 [.ref 168]) [] (am_hp E s) (ro_M E s) := by
  refine am_s rfl rfl ?_
  refine s_cv [] [] rfl g (Or.inl rfl) rfl rfl (Nat.le_of_ble_eq_true rfl) rfl rfl (t_soundM (d := d + 3) g hm) ?_
  rintro rv h1 ⟨s1, rfl, hF, hfl, hh⟩
  rcases hh with ⟨hz, rfl⟩ | ⟨hz, rfl⟩
  · refine s_zne rfl ⟨by omega, by omega⟩ (fun c1 => ?_) (fun c1 => absurd c1 (by omega))
    refine am_s rfl rfl ?_
    have e14 : s1 168 14 = s 168 14 := hF.2 14 (by decide)
    have e18 : s1 168 18 = s 168 18 := hF.2 18 (by decide)
    refine s_cv [] [] rfl g (Or.inl rfl) rfl rfl (Nat.le_of_ble_eq_true rfl) rfl rfl (t_makeRoundM (d := d) (s := s1) (PP := fun rv h => rv = none ∧ ∃ s2 s3, h = am_hp E s3 ∧ nQM s1 s2 ∧ yW s2 s3 (s1 168 1).toNat) g (my_c (hF.2 1 (by decide)) (hF.1 169 (by decide)) hm) (fun c c0 c1 => by rw [hF.1 191 (by decide)]; exact hp c c0 c1) (by rw [e14]; exact hf) (by rw [e18]; exact hg) (fun z => ⟨qPre_c hF (ht (by rw [← e14]; exact z)).1, hM_c (hF.2 1 (by decide)) (hF.1 192 (by decide)) (ht (by rw [← e14]; exact z)).2⟩) (fun z => by rw [e14]; exact ⟨(hq (by rw [← e18]; exact z)).1, prM_c (hF.2 1 (by decide)) (hF.1 178 (by decide)) (hq (by rw [← e18]; exact z)).2⟩) (fun s2 s3 a b => ⟨rfl, s2, s3, rfl, a, b⟩)) ?_
    rintro rv h1 ⟨rfl, s2, s3, rfl, n1, n2⟩
    refine am_s rfl rfl ?_
    refine s_gi (x := 26) rfl g rfl rfl rfl ?_
    refine s_k 1 rfl rfl ?_
    refine s_isub rfl ?_
    exact am_r rfl rfl ⟨s1, hF, hfl, Or.inr ⟨hz, s2, s3, n1, n2, rfl, rfl⟩⟩
  · refine s_zne rfl ⟨by omega, by omega⟩ (fun c1 => absurd c1 (by omega)) (fun c1 => ?_)
    refine s_k (-103) rfl rfl ?_
    exact am_r rfl rfl ⟨s1, hF, hfl, Or.inl ⟨hz, rfl, rfl⟩⟩
theorem t_roundM {d : Nat} {E : am_Ev} {s : am_S} (g : am_Eg E) (hm : my_ok s) (hp : pn_ok s 191) (hf : s 168 14 = 0 ∨ s 168 14 = 1) (hg : s 168 18 = 0 ∨ s 168 18 = 1) (ht : s 168 14 = 1 → qPre s ∧ hM s) (hq : s 168 18 = 1 → s 168 14 = 1 ∧ prM s) : am_wp (d + 6) 196 0 (lv_args 0 [.ref 168]) [] (am_hp E s) (ro_M E (am_w s 168 0 0)) := by
  refine am_s rfl rfl ?_
  refine s_k 0 rfl rfl ?_
  refine s_pi (x := 0) rfl g rfl rfl rfl rfl ?_
  exact t_roundM0 (s := am_w s 168 0 0) g (my_c rfl rfl hm) hp hf hg (fun z => ⟨⟨my_c rfl rfl hm, (ht z).1.n0, (ht z).1.ev, (ht z).1.ra, (ht z).1.up⟩, (ht z).2⟩) hq
