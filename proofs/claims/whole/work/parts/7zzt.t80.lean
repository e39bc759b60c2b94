/-! the other one's matching: the first least one -/
theorem qTb_tab {s s' : am_S} (h : qTb s s' (2 ^ (s 168 20).toNat)) : mt_tab (wM s) (s 168 20).toNat (fun x => s' 179 (x : Int)) := ⟨h.z, fun S a hS ha => h.t S a (by
  rcases Nat.eq_zero_or_pos S with z | z
  · rw [z] at ha
    have := ha.1
    rw [Nat.zero_testBit] at this
    exact absurd this (by decide)
  · exact z) hS ha⟩
theorem mt_full_pm {K : Nat} (hK : K % 2 = 0) : mt_pmS K (mt_st (2 ^ K - 1)) (fun i => if i % 2 = 0 then i + 1 else i - 1) := fun i hi _ => by
  have t : ∀ j, j < K → mt_st (2 ^ K - 1) j = true := fun j hj => by
    unfold mt_st
    rw [Nat.testBit_two_pow_sub_one]
    exact decide_eq_true hj
  by_cases c : i % 2 = 0
  · have e : (fun i : Nat => if i % 2 = 0 then i + 1 else i - 1) i = i + 1 := if_pos c
    refine ⟨by rw [e]; omega, t _ (by rw [e]; omega), by rw [e]; omega, ?_⟩
    show (if (if i % 2 = 0 then i + 1 else i - 1) % 2 = 0 then (if i % 2 = 0 then i + 1 else i - 1) + 1 else (if i % 2 = 0 then i + 1 else i - 1) - 1) = i
    rw [if_pos c, if_neg (by omega)]; omega
  · have e : (fun i : Nat => if i % 2 = 0 then i + 1 else i - 1) i = i - 1 := if_neg c
    refine ⟨by rw [e]; omega, t _ (by rw [e]; omega), by rw [e]; omega, ?_⟩
    show (if (if i % 2 = 0 then i + 1 else i - 1) % 2 = 0 then (if i % 2 = 0 then i + 1 else i - 1) + 1 else (if i % 2 = 0 then i + 1 else i - 1) - 1) = i
    rw [if_neg c, if_pos (by omega)]; omega
/-- while the pairs are laid: S is left -/
abbrev qIn (s s2 s' : am_S) (S : Nat) (q : Nat → Nat) : Prop := Nonempty (PProd (am_Fr [178] s2 s') (PProd (S < 2 ^ (s 168 20).toNat) (PProd (0 ≤ s2 179 (S : Int)) (PProd (∀ i : Nat, i < (s 168 20).toNat → S.testBit i = true → s' 178 (s 177 (i : Int)) = -1) (PProd (∀ i : Nat, i < (s 168 20).toNat → S.testBit i = false → q i < (s 168 20).toNat ∧ s' 178 (s 177 (i : Int)) = s 177 ((q i : Nat) : Int)) (PProd (∀ c, 0 ≤ c → c < s 168 1 → (∀ i : Nat, i < (s 168 20).toNat → s 177 (i : Int) ≠ c) → s' 178 c = -1) (∀ p, mt_lex (wM s) (s 168 20).toNat (mt_st S) p → mt_lex (wM s) (s 168 20).toNat mt_all (fun i => if S.testBit i = true then p i else q i))))))))
theorem qIn.fr {s s2 s' : am_S} {S : Nat} {q : Nat → Nat} (h_ : qIn s s2 s' S q) : am_Fr [178] s2 s' := h_.elim (fun x_ => x_.1)
theorem qIn.lt {s s2 s' : am_S} {S : Nat} {q : Nat → Nat} (h_ : qIn s s2 s' S q) : S < 2 ^ (s 168 20).toNat := h_.elim (fun x_ => x_.2.1)
theorem qIn.b0 {s s2 s' : am_S} {S : Nat} {q : Nat → Nat} (h_ : qIn s s2 s' S q) : 0 ≤ s2 179 (S : Int) := h_.elim (fun x_ => x_.2.2.1)
theorem qIn.un {s s2 s' : am_S} {S : Nat} {q : Nat → Nat} (h_ : qIn s s2 s' S q) : ∀ i : Nat, i < (s 168 20).toNat → S.testBit i = true → s' 178 (s 177 (i : Int)) = -1 := h_.elim (fun x_ => x_.2.2.2.1)
theorem qIn.dn {s s2 s' : am_S} {S : Nat} {q : Nat → Nat} (h_ : qIn s s2 s' S q) : ∀ i : Nat, i < (s 168 20).toNat → S.testBit i = false → q i < (s 168 20).toNat ∧ s' 178 (s 177 (i : Int)) = s 177 ((q i : Nat) : Int) := h_.elim (fun x_ => x_.2.2.2.2.1)
theorem qIn.out {s s2 s' : am_S} {S : Nat} {q : Nat → Nat} (h_ : qIn s s2 s' S q) : ∀ c, 0 ≤ c → c < s 168 1 → (∀ i : Nat, i < (s 168 20).toNat → s 177 (i : Int) ≠ c) → s' 178 c = -1 := h_.elim (fun x_ => x_.2.2.2.2.2.1)
theorem qIn.lx {s s2 s' : am_S} {S : Nat} {q : Nat → Nat} (h_ : qIn s s2 s' S q) : ∀ p, mt_lex (wM s) (s 168 20).toNat (mt_st S) p → mt_lex (wM s) (s 168 20).toNat mt_all (fun i => if S.testBit i = true then p i else q i) := h_.elim (fun x_ => x_.2.2.2.2.2.2)
theorem qIn_s {s s2 s' : am_S} {S a b : Nat} {q : Nat → Nat} (hp : qPre s) (h : qIn s s2 s' S q) (hB : mt_tab (wM s) (s 168 20).toNat (fun x => s2 179 (x : Int))) (ha : mt_lo S a) (hb : b < (s 168 20).toNat) (hok : mt_ok (fun x => s2 179 (x : Int)) S a b) (he : s2 179 ((mt_rm S a b : Nat) : Int) + wM s a b = s2 179 (S : Int)) (hmin : ∀ c, c < b → mt_ok (fun x => s2 179 (x : Int)) S a c → s2 179 ((mt_rm S a c : Nat) : Int) + wM s a c ≠ s2 179 (S : Int)) : qIn s s2 (am_w (am_w s' 178 (s 177 (a : Int)) (s 177 (b : Int))) 178 (s 177 (b : Int)) (s 177 (a : Int))) (mt_rm S a b) (fun i => if i = a then b else if i = b then a else q i) ∧ mt_rm S a b < S := by
  have n0 := hp.n0
  have aK := mt_bit_lt h.lt ha.1
  have h32 : S < 2 ^ 32 := Nat.lt_of_lt_of_le h.lt (Nat.pow_le_pow_right (by decide) (by omega))
  have lt := mt_rm_lt (b := b) h32 (by omega) (by omega) ha.1
  have rb := fun i => mt_rm_bit (s := S) (a := a) (b := b) (i := i) h32 (by omega) (by omega)
  have hab : a ≠ b := by have := hok.1; omega
  have inj : ∀ i j : Nat, i < (s 168 20).toNat → j < (s 168 20).toNat → s 177 (i : Int) = s 177 (j : Int) → i = j := fun i j hi hj z => by
    rcases Nat.lt_trichotomy i j with c | c | c
    · have := hp.up i j (by omega) (by omega) (by omega); omega
    · exact c
    · have := hp.up j i (by omega) (by omega) (by omega); omega
  refine ⟨⟨am_Fr_W (am_Fr_W h.fr (by decide)) (by decide), Nat.lt_trans lt h.lt, hok.2.2, fun i hi ht => ?_, fun i hi ht => ?_, fun c c0 c1 hc => ?_, fun p hl => ?_⟩, lt⟩
  all_goals try dsimp only
  · rw [rb] at ht
    simp only [Bool.and_eq_true, decide_eq_true_eq] at ht
    rw [am_w_x (fun z => ht.2 (inj i b hi hb z)), am_w_x (fun z => ht.1.2 (inj i a hi aK z))]
    exact h.un i hi ht.1.1
  · by_cases c1 : i = a
    · subst c1
      rw [if_pos rfl, am_w_x (fun z => hab (inj i b hi hb z)), am_w_eq]
      exact ⟨hb, rfl⟩
    · by_cases c2 : i = b
      · subst c2
        rw [if_neg c1, if_pos rfl, am_w_eq]
        exact ⟨aK, rfl⟩
      · rw [if_neg c1, if_neg c2, am_w_x (fun z => c2 (inj i b hi hb z)), am_w_x (fun z => c1 (inj i a hi aK z))]
        refine h.dn i hi ?_
        rw [rb] at ht
        cases z : S.testBit i
        · rfl
        · rw [z] at ht
          simp [c1, c2] at ht
  · rw [am_w_x (fun z => hc b hb z.symm), am_w_x (fun z => hc a aK z.symm)]
    exact h.out c c0 c1 hc
  · have l1 := mt_first (fun i j => (wM_0 hp i j).1) (by omega) hB h.lt ha h.b0 hb hok he hmin hl
    refine mt_lex_congr (fun i hi _ => ?_) (h.lx _ l1)
    unfold mt_jn
    rw [rb]
    by_cases c1 : i = a
    · rw [c1, if_pos ha.1, if_pos rfl, if_neg (by simp), if_pos rfl]
    · by_cases c2 : i = b
      · rw [c2, if_pos hok.2.1, if_neg (fun z => hab z.symm), if_pos rfl, if_neg (by simp), if_neg (fun z => hab z.symm), if_pos rfl]
      · rw [if_neg c1, if_neg c2, if_neg c1, if_neg c2]
        cases z : S.testBit i
        · rw [if_neg (by simp), if_neg (by simp)]
        · rw [if_pos rfl, if_pos (by simp [c1, c2])]
def qOm (s : am_S) : Nat → Bool := mt_im (s 168 20).toNat (fun i => (s 177 (i : Int)).toNat)
def qW (s : am_S) : Nat → Nat → Int := fun a b => my s (a : Int) (b : Int)
abbrev qRes (s s' : am_S) : Prop := Nonempty (PProd (am_Fm [178, 179] [18, 22] s s') (PProd (s' 168 18 = 1) (PProd (∀ c : Nat, (c : Int) < s 168 1 → qOm s c = false → s' 178 c = -1) (PProd (∀ c : Nat, c < 20 → qOm s c = true → 0 ≤ s' 178 c ∧ s' 178 c < s 168 1) (PProd (mt_lex (qW s) 20 (qOm s) (fun c => (s' 178 (c : Int)).toNat)) (s' 168 22 = mt_co (qW s) 20 (qOm s) (fun c => (s' 178 (c : Int)).toNat)))))))
theorem qRes.fr {s s' : am_S} (h_ : qRes s s') : am_Fm [178, 179] [18, 22] s s' := h_.elim (fun x_ => x_.1)
theorem qRes.made {s s' : am_S} (h_ : qRes s s') : s' 168 18 = 1 := h_.elim (fun x_ => x_.2.1)
theorem qRes.out {s s' : am_S} (h_ : qRes s s') : ∀ c : Nat, (c : Int) < s 168 1 → qOm s c = false → s' 178 c = -1 := h_.elim (fun x_ => x_.2.2.1)
theorem qRes.inn {s s' : am_S} (h_ : qRes s s') : ∀ c : Nat, c < 20 → qOm s c = true → 0 ≤ s' 178 c ∧ s' 178 c < s 168 1 := h_.elim (fun x_ => x_.2.2.2.1)
theorem qRes.lex {s s' : am_S} (h_ : qRes s s') : mt_lex (qW s) 20 (qOm s) (fun c => (s' 178 (c : Int)).toNat) := h_.elim (fun x_ => x_.2.2.2.2.1)
theorem qRes.sum {s s' : am_S} (h_ : qRes s s') : s' 168 22 = mt_co (qW s) 20 (qOm s) (fun c => (s' 178 (c : Int)).toNat) := h_.elim (fun x_ => x_.2.2.2.2.2)
theorem qRes_mk {s s1 s2 s3 s' : am_S} {q : Nat → Nat} (hp : qPre s) (hT : qTb s s1 (2 ^ (s 168 20).toNat)) (e179 : s2 179 = s1 179) (h : qIn s s2 s3 0 q) (hs : s' 178 = s3 178) (fr : am_Fm [178, 179] [18, 22] s s') (hm : s' 168 18 = 1) (h22 : s' 168 22 = s1 179 ((2 ^ (s 168 20).toNat - 1 : Nat) : Int)) : qRes s s' := by
  have n0 := hp.n0
  have n1 := hp.hm.1
  have n2 := hp.hm.2.1
  have tab := qTb_tab hT
  have lx := h.lx id ⟨⟨fun i hi z => absurd z (by unfold mt_st; rw [Nat.zero_testBit]; decide), fun r _ => by
    have e : ∀ p, mt_co (wM s) (s 168 20).toNat (mt_st 0) p = 0 := fun p => by
      unfold mt_co
      rw [mt_s_congr (g := fun _ => 0) (fun i _ => if_neg (fun z => absurd z.1 (by unfold mt_st; rw [Nat.zero_testBit]; decide))), mt_s_zero]
    rw [e, e]; exact Int.le_refl 0⟩, fun r _ i hi z => absurd z (by unfold mt_st; rw [Nat.zero_testBit]; decide)⟩
  have lx : mt_lex (wM s) (s 168 20).toNat mt_all q := mt_lex_congr (fun i _ _ => by rw [Nat.zero_testBit]; rfl) lx
  have up : mt_up (s 168 20).toNat 20 (fun i => (s 177 (i : Int)).toNat) := ⟨fun i hi => by
    have := hp.ra i (by omega) (by omega); show (s 177 (i : Int)).toNat < 20; omega, fun i j ij hj => by
    have a := hp.ra i (by omega) (by omega)
    have b := hp.up i j (by omega) (by omega) (by omega)
    show (s 177 (i : Int)).toNat < (s 177 (j : Int)).toNat
    omega⟩
  have wc : ∀ i j : Nat, i < (s 168 20).toNat → j < (s 168 20).toNat → wM s i j = qW s (s 177 (i : Int)).toNat (s 177 (j : Int)).toNat := fun i j hi hj => by
    have a := hp.ra i (by omega) (by omega)
    have b := hp.ra j (by omega) (by omega)
    unfold wM qW
    rw [if_pos ⟨hi, hj⟩, show (((s 177 (i : Int)).toNat : Nat) : Int) = s 177 i by omega, show (((s 177 (j : Int)).toNat : Nat) : Int) = s 177 j by omega]
  have hco : ∀ p, mt_pmS (s 168 20).toNat mt_all p → mt_co (wM s) (s 168 20).toNat mt_all p = mt_co (fun i j => qW s (s 177 (i : Int)).toNat (s 177 (j : Int)).toNat) (s 168 20).toNat mt_all p := fun p hpp => by
    unfold mt_co
    refine mt_s_congr (fun i hi => ?_)
    by_cases c : mt_all i = true ∧ i < p i
    · rw [if_pos c, if_pos c, wc i (p i) hi (hpp i hi rfl).1]
    · rw [if_neg c, if_neg c]
  have hop : ∀ p, mt_opt (fun i j => qW s (s 177 (i : Int)).toNat (s 177 (j : Int)).toNat) (s 168 20).toNat mt_all p → mt_opt (wM s) (s 168 20).toNat mt_all p := fun p z => ⟨z.1, fun r hr => by rw [hco p z.1, hco r hr]; exact z.2 r hr⟩
  have lx2 : mt_lex (fun i j => qW s (s 177 (i : Int)).toNat (s 177 (j : Int)).toNat) (s 168 20).toNat mt_all q := ⟨⟨lx.1.1, fun r hr => by rw [← hco q lx.1.1, ← hco r hr]; exact lx.1.2 r hr⟩, fun r hr i hi hS hj => lx.2 r (hop r hr) i hi hS hj⟩
  have pq : ∀ i : Nat, i < (s 168 20).toNat → q i < (s 168 20).toNat ∧ s' 178 (s 177 (i : Int)) = s 177 ((q i : Nat) : Int) := fun i hi => by
    rw [hs]; exact h.dn i hi (Nat.zero_testBit i)
  have rk : mt_rk (s 168 20).toNat (fun i => (s 177 (i : Int)).toNat) q (fun c => (s' 178 (c : Int)).toNat) := fun i hi => by
    have a := hp.ra i (by omega) (by omega)
    refine ⟨(pq i hi).1, ?_⟩
    show (s' 178 (((s 177 (i : Int)).toNat : Nat) : Int)).toNat = (s 177 ((q i : Nat) : Int)).toNat
    rw [show (((s 177 (i : Int)).toNat : Nat) : Int) = s 177 i by omega, (pq i hi).2]
  have lex := mt_rk_lex (w := qW s) up rk lx2
  refine ⟨fr, hm, fun c hc hO => ?_, fun c hc hO => ?_, lex, ?_⟩
  · rw [hs]
    refine h.out c (by omega) hc (fun i hi z => ?_)
    have : qOm s c = true := mt_im_t.mpr ⟨i, hi, by show (s 177 (i : Int)).toNat = c; omega⟩
    rw [hO] at this
    exact absurd this (by decide)
  · obtain ⟨i, hi, ei⟩ := mt_im_t.mp hO
    have ei : (s 177 (i : Int)).toNat = c := ei
    have a := hp.ra i (by omega) (by omega)
    have b := pq i hi
    have r := hp.ra (q i : Int) (by omega) (by omega)
    rw [show (c : Int) = s 177 i by omega, b.2]
    exact r
  · have co := mt_rk_co (w := qW s) up rk
    have co : mt_co (qW s) 20 (qOm s) (fun c => (s' 178 (c : Int)).toNat) = mt_co (fun i j => qW s (s 177 (i : Int)).toNat (s 177 (j : Int)).toNat) (s 168 20).toNat mt_all q := co
    rw [co, ← hco q lx.1.1, h22]
    have fl : 2 ^ (s 168 20).toNat - 1 < 2 ^ (s 168 20).toNat := by have := Nat.one_le_two_pow (n := (s 168 20).toNat); omega
    have ts : ∀ i, i < (s 168 20).toNat → mt_st (2 ^ (s 168 20).toNat - 1) i = mt_all i := fun i hi => by
      unfold mt_st mt_all
      rw [Nat.testBit_two_pow_sub_one]
      exact decide_eq_true hi
    have cs : ∀ p, mt_co (wM s) (s 168 20).toNat (mt_st (2 ^ (s 168 20).toNat - 1)) p = mt_co (wM s) (s 168 20).toNat mt_all p := fun p => by
      unfold mt_co
      exact mt_s_congr (fun i hi => by rw [ts i hi])
    have ps : ∀ p, mt_pmS (s 168 20).toNat mt_all p → mt_pmS (s 168 20).toNat (mt_st (2 ^ (s 168 20).toNat - 1)) p := fun p z i hi _ => by
      have := z i hi rfl
      exact ⟨this.1, by rw [ts _ this.1]; rfl, this.2.2⟩
    rcases mt_tab_spec (fun i j => (wM_0 hp i j).1) (by omega) tab _ fl with ⟨-, p, ⟨o1, o2⟩, oc⟩ | ⟨-, z⟩
    · have a1 := o2 q (ps q lx.1.1)
      have a2 := lx.1.2 p (fun i hi _ => by have := o1 i hi (ts i hi); exact ⟨this.1, rfl, this.2.2⟩)
      rw [cs, cs] at a1
      rw [cs] at oc
      have oc : mt_co (wM s) (s 168 20).toNat mt_all p = s1 179 ((2 ^ (s 168 20).toNat - 1 : Nat) : Int) := oc
      omega
    · exact absurd (mt_full_pm (by have := hp.ev; omega)) (z _)
