theorem rv_st {n a b : Int} {t t2 : Int → Int} (ha : 0 ≤ a) (hb : b < n) (h : rv a b t t2) (ht : st_ok n t) : st_ok n t2 := fun y y0 y1 => by
  rw [h y]
  split
  · exact ht _ (by omega) (by omega)
  · exact ht y y0 y1
theorem sh_st {n a c b : Int} {t t2 : Int → Int} (ha : 0 ≤ a) (hc : a ≤ c ∧ c ≤ b + 1) (hb : b < n) (h : sh a c b t t2) (ht : st_ok n t) : st_ok n t2 := fun y y0 y1 => by
  rw [h y]
  (repeat' split) <;> exact ht _ (by omega) (by omega)
theorem pb_st {n k i p : Int} {t t2 : Int → Int} (hk : 1 ≤ k) (hi : 1 ≤ i ∧ i + k ≤ n) (hp : 0 ≤ p ∧ p < n - k) (h : pb k i p t t2) (ht : st_ok n t) : st_ok n t2 := by
  unfold pb at h
  split at h
  · exact sh_st (by omega) (by omega) (by omega) h ht
  · exact sh_st (by omega) (by omega) (by omega) h ht
theorem tu_st {n r : Int} {Y : Int → Int → Prop} {t t2 : Int → Int} (h : tu_is n Y t t2 r) (ht : st_ok n t) : st_ok n t2 := by
  rcases h with ⟨-, -, e⟩ | ⟨-, i, j, a1, a2, a3, -, -, h⟩
  · rw [e]; exact ht
  · exact rv_st (by omega) a3 h ht
theorem mo_st {n r : Int} {D : Int → Int → Int} {t t2 : Int → Int} (h : mo_is n D t t2 r) (ht : st_ok n t) : st_ok n t2 := by
  rcases h with ⟨-, -, e⟩ | ⟨-, k, i, a1, a2, a3, a4, -, h⟩
  · rw [e]; exact ht
  · rcases h with ⟨z, -⟩ | ⟨-, p, p0, p1, -, h⟩
    · exact absurd z (by decide)
    · rcases h with ⟨-, h⟩ | ⟨-, -, t1, h1, h⟩
      · exact pb_st a1 ⟨a3, a4⟩ ⟨p0, p1⟩ h ht
      · exact pb_st a1 ⟨a3, a4⟩ ⟨p0, p1⟩ h (rv_st (by omega) (by omega) h1 ht)
/-- one bettering of the class -/
def bt_1 (n : Int) (D : Int → Int → Int) (how : Int) (t t2 : Int → Int) : Prop := (how ≠ 1 ∧ tu_is n (tp n D t) t t2 1) ∨ ((how ≠ 1 → tu_is n (tp n D t) t t 0) ∧ how ≠ 0 ∧ mo_is n D t t2 1)
def bt_0 (n : Int) (D : Int → Int → Int) (how : Int) (t : Int → Int) : Prop := (how ≠ 1 → tu_is n (tp n D t) t t 0) ∧ (how ≠ 0 → mo_is n D t t 0)
def bt_n (n : Int) (D : Int → Int → Int) (how : Int) (t : Int → Int) : Nat → (Int → Int) → Prop
  | 0, t2 => t2 = t
  | k + 1, t2 => ∃ t1, bt_n n D how t k t1 ∧ bt_1 n D how t1 t2
theorem bt_st {n how : Int} {D : Int → Int → Int} {t : Int → Int} (ht : st_ok n t) : ∀ {k : Nat} {t2 : Int → Int}, bt_n n D how t k t2 → st_ok n t2
  | 0, t2, h => by rw [show t2 = t from h]; exact ht
  | k + 1, t2, h => by
    obtain ⟨t1, h1, h2⟩ := h
    have a := bt_st ht h1
    rcases h2 with ⟨-, h2⟩ | ⟨-, -, h2⟩
    · exact tu_st h2 a
    · exact mo_st h2 a
theorem nx0_rng {n q : Int} (hn : 1 ≤ n) (hq : 0 ≤ q) : 0 ≤ nx0 n q ∧ nx0 n q < n := by
  unfold nx0
  split <;> omega
theorem tu_c {n r : Int} {Y Y2 : Int → Int → Prop} {t t2 : Int → Int} (hY : ∀ i j, 0 ≤ i → i < j → j < n → (Y i j ↔ Y2 i j)) (h : tu_is n Y t t2 r) : tu_is n Y2 t t2 r := by
  rcases h with ⟨h1, h2, h3⟩ | ⟨h1, i, j, a1, a2, a3, h2, h3, h4⟩
  · exact Or.inl ⟨h1, fun i j a1 a2 a3 z => h2 i j a1 a2 a3 ((hY i j a1 a2 a3).mpr z), h3⟩
  · exact Or.inr ⟨h1, i, j, a1, a2, a3, (hY i j a1 a2 a3).mp h2, fun i2 j2 b1 b2 b3 b4 z => h3 i2 j2 b1 b2 b3 b4 ((hY i2 j2 b1 b2 b3).mpr z), h4⟩
theorem tp_c {n i j : Int} {D D2 : Int → Int → Int} {t : Int → Int} (hD : ∀ a b, 0 ≤ a → a < n → 0 ≤ b → b < n → D a b = D2 a b) (ht : st_ok n t) (hi : 0 ≤ i) (hj : i < j) (hn : j < n) : tp n D t i j ↔ tp n D2 t i j := by
  have a1 := ht i hi (by omega)
  have a2 := ht (i + 1) (by omega) (by omega)
  have a3 := ht j (by omega) hn
  have a4 := ht (nxt n j) (by unfold nxt; split <;> omega) (by unfold nxt; split <;> omega)
  unfold tp
  rw [hD _ _ a1.1 a1.2 a3.1 a3.2, hD _ _ a2.1 a2.2 a4.1 a4.2, hD _ _ a1.1 a1.2 a2.1 a2.2, hD _ _ a3.1 a3.2 a4.1 a4.2]
theorem mp_c {n k i p : Int} {D D2 : Int → Int → Int} {t : Int → Int} (hD : ∀ a b, 0 ≤ a → a < n → 0 ≤ b → b < n → D a b = D2 a b) (ht : st_ok n t) (hk : 1 ≤ k) (hi : 1 ≤ i) (hn : i + k ≤ n) (hp : 0 ≤ p) : (mp n D t k i p ↔ mp n D2 t k i p) ∧ (mq n D t k i p ↔ mq n D2 t k i p) := by
  have w1 := wo_rng (n := n) (k := k) (i := i) (p := p) (by omega) hk hp
  have w2 := wo_rng (n := n) (k := k) (i := i) (p := p + 1) (by omega) hk (by omega)
  have w3 := nx0_rng (n := n) (q := i + k) (by omega) (by omega)
  have a1 := ht i (by omega) (by omega)
  have a2 := ht (i - 1) (by omega) (by omega)
  have a3 := ht (i + k - 1) (by omega) (by omega)
  have a4 := ht _ w3.1 w3.2
  have a5 := ht _ w1.1 w1.2
  have a6 := ht _ w2.1 w2.2
  unfold mp mq msv
  rw [hD _ _ a2.1 a2.2 a1.1 a1.2, hD _ _ a3.1 a3.2 a4.1 a4.2, hD _ _ a2.1 a2.2 a4.1 a4.2, hD _ _ a5.1 a5.2 a6.1 a6.2, hD _ _ a5.1 a5.2 a1.1 a1.2, hD _ _ a3.1 a3.2 a6.1 a6.2, hD _ _ a5.1 a5.2 a3.1 a3.2, hD _ _ a1.1 a1.2 a6.1 a6.2]
  exact ⟨Iff.rfl, Iff.rfl⟩
theorem mn_c {n k i : Int} {D D2 : Int → Int → Int} {t : Int → Int} (hD : ∀ a b, 0 ≤ a → a < n → 0 ≤ b → b < n → D a b = D2 a b) (ht : st_ok n t) (hk : 1 ≤ k) (hi : 1 ≤ i) (hn : i + k ≤ n) (h : mn n D t k i) : mn n D2 t k i := fun p p0 p1 => by
  have e := mp_c hD ht hk hi hn p0
  exact ⟨fun z => (h p p0 p1).1 (e.1.mpr z), fun z => (h p p0 p1).2 (e.2.mpr z)⟩
theorem ms_c {n k i r : Int} {D D2 : Int → Int → Int} {t t2 : Int → Int} (hD : ∀ a b, 0 ≤ a → a < n → 0 ≤ b → b < n → D a b = D2 a b) (ht : st_ok n t) (hk : 1 ≤ k) (hi : 1 ≤ i) (hn : i + k ≤ n) (h : ms_is n D k i t t2 r) : ms_is n D2 k i t t2 r := by
  rcases h with ⟨h1, h2, h3⟩ | ⟨h1, p, p0, p1, h2, h3⟩
  · exact Or.inl ⟨h1, mn_c hD ht hk hi hn h2, h3⟩
  · have e := mp_c hD ht hk hi hn p0
    refine Or.inr ⟨h1, p, p0, p1, fun p2 q0 q1 => ?_, ?_⟩
    · have e2 := mp_c hD ht hk hi hn q0
      exact ⟨fun z => (h2 p2 q0 q1).1 (e2.1.mpr z), fun z => (h2 p2 q0 q1).2 (e2.2.mpr z)⟩
    · rcases h3 with ⟨z1, z2⟩ | ⟨z1, z2, z3⟩
      · exact Or.inl ⟨e.1.mp z1, z2⟩
      · exact Or.inr ⟨fun z => z1 (e.1.mpr z), e.2.mp z2, z3⟩
theorem mo_c {n r : Int} {D D2 : Int → Int → Int} {t t2 : Int → Int} (hD : ∀ a b, 0 ≤ a → a < n → 0 ≤ b → b < n → D a b = D2 a b) (ht : st_ok n t) (h : mo_is n D t t2 r) : mo_is n D2 t t2 r := by
  rcases h with ⟨h1, h2, h3⟩ | ⟨h1, k, i, a1, a2, a3, a4, h2, h3⟩
  · exact Or.inl ⟨h1, fun k i a1 a2 a3 a4 => mn_c hD ht a1 a3 a4 (h2 k i a1 a2 a3 a4), h3⟩
  · exact Or.inr ⟨h1, k, i, a1, a2, a3, a4, fun k2 i2 b1 b2 b3 b4 b5 => mn_c hD ht b1 b3 b4 (h2 k2 i2 b1 b2 b3 b4 b5), ms_c hD ht a1 a3 a4 h3⟩
theorem t_improve {d : Nat} {E : am_Ev} {s : am_S} {how most : Int} {PP : Option Value → am_H → Prop} (g : am_Eg E) (hm : mx_ok s) (hc : s 151 1 = s 25 0) (ht : st_ok (s 25 0) (s 152)) (hh : 0 ≤ how ∧ how ≤ 2) (hmo : 1 ≤ most ∧ most ≤ 300) (hPP : ∀ (k : Nat) s', am_Fr [152] s s' → (k : Int) ≤ most → bt_n (s 25 0) (mx s) how (s 152) k (s' 152) → ((k : Int) < most → bt_0 (s 25 0) (mx s) how (s' 152)) → PP (some (.int (iI (k : Int)))) (am_hp E s')) : am_wp (d + 5) 102 0 (lv_args 0 [.ref 151, .ref 26, .int (iI how), .int (iI most)]) [] (am_hp E s) PP := by
  have hm0 := hm
  obtain ⟨n1, n2, hD⟩ := hm0
  obtain ⟨q, eq⟩ : ∃ q : Nat, most = q := ⟨most.toNat, by omega⟩
  refine s_k 0 rfl rfl ?_
  refine am_s rfl rfl ?_
  refine am_lv [(4, .int (iI (((0 : Nat) : Int) : Int))), (3, .int (iI most)), (2, .int (iI how)), (1, .ref 26), (0, .ref 151)] rfl rfl ⟨rfl, rfl, rfl, rfl, rfl, trivial⟩ ?_
  refine s_loop (X := Unit) (fun k _ s' => am_Fr [152] s s' ∧ bt_n (s 25 0) (mx s) how (s 152) k (s' 152)) (fun k _ => [(4, .int (iI (k : Int))), (3, .int (iI most)), (2, .int (iI how)), (1, .ref 26), (0, .ref 151)]) (hi := q) (x := ()) (Nat.zero_le q) ⟨am_Fr_r _ _, rfl⟩ ?_ ?_
  · rintro k - s1 hk0 hk ⟨hF, hB⟩ kk
    have e25 : s1 25 0 = s 25 0 := by rw [hF 25 (by decide)]
    have c1n : s1 151 1 = s1 25 0 := by rw [hF 151 (by decide), e25]; exact hc
    have emx : ∀ a b, 0 ≤ a → a < s 25 0 → 0 ≤ b → b < s 25 0 → mx s1 a b = mx s a b := fun a b a0 a1 b0 b1 => by
      unfold mx
      rw [hF (26 + 1 + a.toNat) (fun z => by simp at z; omega)]
    have t1 : st_ok (s1 25 0) (s1 152) := by rw [e25]; exact bt_st ht hB
    have t1s := t1
    rw [e25] at t1s
    have m1 : mx_ok s1 := ⟨by omega, by omega, fun a b a0 a1 b0 b1 => by
      rw [emx a b a0 (by omega) b0 (by omega)]
      exact hD a b a0 (by omega) b0 (by omega)⟩
    simp only at kk ⊢
    refine am_s rfl rfl ?_
    refine am_s rfl rfl ?_
    refine s_cge rfl ⟨by omega, by omega⟩ ⟨by omega, by omega⟩ (fun c1 => absurd c1 (by omega)) (fun c1 => ?_)
    refine am_s rfl rfl ?_
    refine s_k 1 rfl rfl ?_
    refine s_ceq rfl ⟨by omega, by omega⟩ ⟨by omega, by omega⟩ (fun c2 => ?_) (fun c2 => ?_)
    · refine am_s rfl rfl ?_
      refine s_zeq rfl ⟨by omega, by omega⟩ (fun c3 => ?_) (fun c3 => ?_)
      · refine am_s rfl rfl ?_
        exact am_r rfl rfl (hPP k s1 hF (by omega) hB (fun _ => ⟨fun z => absurd (show how = 1 by omega) z, fun z => absurd (show how = 0 by omega) z⟩))
      · refine am_s rfl rfl ?_
        refine am_s rfl rfl ?_
        refine s_cv [_] [] rfl g (Or.inl rfl) rfl rfl (Nat.le_of_ble_eq_true rfl) rfl rfl (t_moveOnce (PP := fun rv h => ∃ r s', rv = some (.int (iI r)) ∧ h = am_hp E s' ∧ am_Fr [152] s1 s' ∧ mo_is (s1 151 1) (mx s1) (s1 152) (s' 152) r) g m1 c1n t1 (fun r s' z1 z2 => ⟨r, s', rfl, rfl, z1, z2⟩)) ?_
        rintro rv h1 ⟨r, s3, rfl, rfl, hF3, hm3⟩
        rw [c1n, e25] at hm3
        have hm4 := mo_c emx t1s hm3
        rcases hm3 with ⟨rfl, -, he⟩ | ⟨rfl, -⟩
        · have es := (am_Fr_1 hF3 he).symm
          subst es
          refine s_zeq rfl ⟨by omega, by omega⟩ (fun c1 => ?_) (fun c1 => absurd c1 (by omega))
          refine am_s rfl rfl ?_
          exact am_r rfl rfl (hPP k s1 hF (by omega) hB (fun _ => ⟨fun z => absurd (show how = 1 by omega) z, fun _ => hm4⟩))
        · refine s_zeq rfl ⟨by omega, by omega⟩ (fun c1 => absurd c1 (by omega)) (fun c1 => ?_)
          refine s_inc rfl rfl ?_
          refine am_s rfl rfl ?_
          refine am_lv [(4, _), (3, _), (2, _), (1, _), (0, _)] rfl rfl ⟨rfl, rfl, rfl, rfl, rfl, trivial⟩ ?_
          refine kk () _ ⟨am_Fr_u hF hF3, ⟨s1 152, hB, Or.inr ⟨fun z => absurd (show how = 1 by omega) z, by omega, hm4⟩⟩⟩
    · refine am_s rfl rfl ?_
      refine am_s rfl rfl ?_
      refine s_cv [_] [] rfl g (Or.inl rfl) rfl rfl (Nat.le_of_ble_eq_true rfl) rfl rfl (t_turnOnce (PP := fun rv h => ∃ r s', rv = some (.int (iI r)) ∧ h = am_hp E s' ∧ am_Fr [152] s1 s' ∧ tu_is (s1 25 0) (tp (s1 151 1) (mx s1) (s1 152)) (s1 152) (s' 152) r) g m1 c1n t1 (fun r s' z1 z2 => ⟨r, s', rfl, rfl, z1, z2⟩)) ?_
      rintro rv h1 ⟨r, s2, rfl, rfl, hF2, hr⟩
      rw [c1n, e25] at hr
      have hr0 := tu_c (fun i j a1 a2 a3 => tp_c emx t1s a1 a2 a3) hr
      rcases hr with ⟨rfl, -, he⟩ | ⟨rfl, -⟩
      · have es := (am_Fr_1 hF2 he).symm
        subst es
        refine s_zne rfl ⟨by omega, by omega⟩ (fun c1 => absurd c1 (by omega)) (fun c1 => ?_)
        refine am_s rfl rfl ?_
        refine s_zeq rfl ⟨by omega, by omega⟩ (fun c2 => ?_) (fun c2 => ?_)
        · refine am_s rfl rfl ?_
          exact am_r rfl rfl (hPP k s1 hF (by omega) hB (fun _ => ⟨fun _ => hr0, fun z => absurd (show how = 0 by omega) z⟩))
        · refine am_s rfl rfl ?_
          refine am_s rfl rfl ?_
          refine s_cv [_] [] rfl g (Or.inl rfl) rfl rfl (Nat.le_of_ble_eq_true rfl) rfl rfl (t_moveOnce (PP := fun rv h => ∃ r s', rv = some (.int (iI r)) ∧ h = am_hp E s' ∧ am_Fr [152] s1 s' ∧ mo_is (s1 151 1) (mx s1) (s1 152) (s' 152) r) g m1 c1n t1 (fun r s' z1 z2 => ⟨r, s', rfl, rfl, z1, z2⟩)) ?_
          rintro rv h1 ⟨r, s3, rfl, rfl, hF3, hm3⟩
          rw [c1n, e25] at hm3
          have hm4 := mo_c emx t1s hm3
          rcases hm3 with ⟨rfl, -, he⟩ | ⟨rfl, -⟩
          · have es := (am_Fr_1 hF3 he).symm
            subst es
            refine s_zeq rfl ⟨by omega, by omega⟩ (fun c1 => ?_) (fun c1 => absurd c1 (by omega))
            refine am_s rfl rfl ?_
            exact am_r rfl rfl (hPP k s1 hF (by omega) hB (fun _ => ⟨fun _ => hr0, fun _ => hm4⟩))
          · refine s_zeq rfl ⟨by omega, by omega⟩ (fun c1 => absurd c1 (by omega)) (fun c1 => ?_)
            refine s_inc rfl rfl ?_
            refine am_s rfl rfl ?_
            refine am_lv [(4, _), (3, _), (2, _), (1, _), (0, _)] rfl rfl ⟨rfl, rfl, rfl, rfl, rfl, trivial⟩ ?_
            refine kk () _ ⟨am_Fr_u hF hF3, ⟨s1 152, hB, Or.inr ⟨fun _ => hr0, by omega, hm4⟩⟩⟩
      · refine s_zne rfl ⟨by omega, by omega⟩ (fun c1 => ?_) (fun c1 => absurd c1 (by omega))
        refine s_inc rfl rfl ?_
        refine am_s rfl rfl ?_
        refine am_lv [(4, _), (3, _), (2, _), (1, _), (0, _)] rfl rfl ⟨rfl, rfl, rfl, rfl, rfl, trivial⟩ ?_
        refine kk () _ ⟨am_Fr_u hF hF2, ⟨s1 152, hB, Or.inl ⟨by omega, hr0⟩⟩⟩
  · rintro - s1 ⟨hF, hB⟩
    simp only
    refine am_s rfl rfl ?_
    refine am_s rfl rfl ?_
    refine s_cge rfl ⟨by omega, by omega⟩ ⟨by omega, by omega⟩ (fun c1 => ?_) (fun c1 => absurd c1 (by omega))
    refine am_s rfl rfl ?_
    exact am_r rfl rfl (hPP q s1 hF (by omega) hB (fun z => by omega))
