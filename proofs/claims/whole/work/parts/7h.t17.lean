/-! turns of a tour -/
def rv_at (a b m : Int) (t t2 : Int → Int) : Prop := ∀ y, t2 y = if a ≤ y ∧ y ≤ b ∧ (y < a + m ∨ b - m < y) then t (a + b - y) else t y
theorem rv_step {s : am_S} {r : Nat} {t : Int → Int} {a b m : Int} (hm : 0 ≤ m) (hab : a + m < b - m) (h : rv_at a b m t (s r)) : rv_at a b (m + 1) t (am_w (am_w s r (a + m) (s r (b - m))) r (b - m) (s r (a + m)) r) := by
  intro y
  have e1 : s r (b - m) = t (b - m) := by rw [h (b - m), if_neg (by omega)]
  have e2 : s r (a + m) = t (a + m) := by rw [h (a + m), if_neg (by omega)]
  by_cases y1 : y = b - m
  · rw [y1, am_w_eq, e2, if_pos (by omega), show a + b - (b - m) = a + m by omega]
  · rw [am_w_x y1]
    by_cases y2 : y = a + m
    · rw [y2, am_w_eq, e1, if_pos (by omega), show a + b - (a + m) = b - m by omega]
    · rw [am_w_x y2, h y]
      by_cases c : a ≤ y ∧ y ≤ b ∧ (y < a + m ∨ b - m < y)
      · rw [if_pos c, if_pos (by omega)]
      · rw [if_neg c, if_neg (by omega)]
/-- turned from a to b -/
def rv (a b : Int) (t t2 : Int → Int) : Prop := ∀ y, t2 y = if a ≤ y ∧ y ≤ b then t (a + b - y) else t y
theorem rv_end {t t2 : Int → Int} {a b m : Int} (hab : b - m ≤ a + m) (h : rv_at a b m t t2) : rv a b t t2 := by
  intro y
  rw [h y]
  by_cases c : a ≤ y ∧ y ≤ b ∧ (y < a + m ∨ b - m < y)
  · rw [if_pos c, if_pos ⟨c.1, c.2.1⟩]
  · rw [if_neg c]
    by_cases c2 : a ≤ y ∧ y ≤ b
    · rw [if_pos c2]
      congr 1
      omega
    · rw [if_neg c2]
/-- c .. b come ahead of a .. c - 1 -/
def sh (a c b : Int) (t t2 : Int → Int) : Prop := ∀ y, t2 y = if a ≤ y ∧ y ≤ b then (if y ≤ a + b - c then t (y + c - a) else t (y - (b - c + 1))) else t y
theorem sh_of {t t1 t2 t3 : Int → Int} {a c b : Int} (h0 : a ≤ c ∧ c ≤ b + 1) (h1 : rv a (c - 1) t t1) (h2 : rv c b t1 t2) (h3 : rv a b t2 t3) : sh a c b t t3 := by
  intro y
  rw [h3 y]
  by_cases e : a ≤ y ∧ y ≤ b
  · rw [if_pos e, if_pos e, h2]
    by_cases e2 : y ≤ a + b - c
    · rw [if_pos (by omega), if_pos e2, h1, if_neg (by omega)]
      congr 1
      omega
    · rw [if_neg (by omega), if_neg e2, h1, if_pos (by omega)]
      congr 1
      omega
  · rw [if_neg e, if_neg e, h2, if_neg (by omega), h1, if_neg (by omega)]
theorem t_turn {d : Nat} {E : am_Ev} {s : am_S} {a b : Int} (g : am_Eg E) (ha : 0 ≤ a ∧ a ≤ 20) (hb : -1 ≤ b ∧ b < 20) : am_wp d 153 0 (lv_args 0 [.ref 152, .int (iI a), .int (iI b)]) [] (am_hp E s) (fun rv_ h => rv_ = none ∧ ∃ s', h = am_hp E s' ∧ am_Fr [152] s s' ∧ rv a b (s 152) (s' 152)) := by
  refine am_s rfl rfl ?_
  refine am_s rfl rfl ?_
  refine am_s rfl rfl ?_
  refine am_s rfl rfl ?_
  refine am_lv [(4, .int (iI (b - ((0 : Nat) : Int)))), (3, .int (iI (a + ((0 : Nat) : Int)))), (2, .int (iI b)), (1, .int (iI a)), (0, .ref 152)] rfl rfl ⟨by rw [show b - ((0 : Nat) : Int) = b by omega]; rfl, by rw [show a + ((0 : Nat) : Int) = a by omega]; rfl, rfl, rfl, rfl, trivial⟩ ?_
  refine s_while (X := Nat) (fun m s' => (m : Int) ≤ 20 ∧ am_Fr [152] s s' ∧ rv_at a b m (s 152) (s' 152)) (fun m _ => (b - a + 1 - 2 * m).toNat) (fun m => [(4, .int (iI (b - (m : Int)))), (3, .int (iI (a + (m : Int)))), (2, .int (iI b)), (1, .int (iI a)), (0, .ref 152)]) ?_ (x := 0) ⟨by omega, am_Fr_r _ _, fun y => by rw [if_neg (by omega)]⟩
  rintro m s1 ⟨hm20, hF, hV⟩ kk
  simp only at kk ⊢
  by_cases hlt : b - (m : Int) ≤ a + (m : Int)
  · refine am_s rfl rfl ?_
    refine am_s rfl rfl ?_
    refine s_cge rfl ⟨by omega, by omega⟩ ⟨by omega, by omega⟩ (fun c1 => ?_) (fun c1 => absurd c1 (by omega))
    exact am_r rfl rfl ⟨rfl, s1, rfl, hF, rv_end hlt hV⟩
  · refine am_s rfl rfl ?_
    refine am_s rfl rfl ?_
    refine s_cge rfl ⟨by omega, by omega⟩ ⟨by omega, by omega⟩ (fun c1 => absurd c1 (by omega)) (fun c1 => ?_)
    refine am_s rfl rfl ?_
    refine am_s rfl rfl ?_
    refine s_ia rfl g rfl ⟨by omega, by omega⟩ (by decide) ?_
    refine am_s rfl rfl ?_
    refine am_s rfl rfl ?_
    refine am_s rfl rfl ?_
    refine am_s rfl rfl ?_
    refine am_s rfl rfl ?_
    refine s_ia rfl g rfl ⟨by omega, by omega⟩ (by decide) ?_
    refine s_is rfl g rfl ⟨by omega, by omega⟩ (by decide) ?_
    refine am_s rfl rfl ?_
    refine am_s rfl rfl ?_
    refine am_s rfl rfl ?_
    refine s_is rfl g rfl ⟨by omega, by omega⟩ (by decide) ?_
    refine s_inc rfl rfl ?_
    refine s_inc rfl rfl ?_
    refine am_s rfl rfl ?_
    refine am_lv [(4, .int (iI (b - ((m + 1 : Nat) : Int)))), (3, .int (iI (a + ((m + 1 : Nat) : Int)))), (2, .int (iI b)), (1, .int (iI a)), (0, .ref 152)] rfl rfl ⟨by rw [show b - ((m + 1 : Nat) : Int) = b - (m : Int) + -1 by omega]; rfl, by rw [show a + ((m + 1 : Nat) : Int) = a + (m : Int) + 1 by omega]; rfl, rfl, rfl, rfl, trivial⟩ ?_
    exact kk (m + 1) _ ⟨by omega, am_Fr_W (am_Fr_W hF (by decide)) (by decide), rv_step (by omega) (by omega) hV⟩ (by omega)
theorem t_shift {d : Nat} {E : am_Ev} {s : am_S} {a c b : Int} (g : am_Eg E) (ha : 0 ≤ a) (h0 : a ≤ c ∧ c ≤ b + 1) (hb : -1 ≤ b ∧ b < 20) : am_wp (d + 1) 154 0 (lv_args 0 [.ref 152, .int (iI a), .int (iI c), .int (iI b)]) [] (am_hp E s) (fun rv h => rv = none ∧ ∃ s', h = am_hp E s' ∧ am_Fr [152] s s' ∧ sh a c b (s 152) (s' 152)) := by
  refine am_s rfl rfl ?_
  refine am_s rfl rfl ?_
  refine am_s rfl rfl ?_
  refine s_k 1 rfl rfl ?_
  refine s_isub rfl ?_
  refine am_cs (As := [_, _, _]) (rest := []) rfl (Or.inl rfl) rfl rfl (Nat.le_of_ble_eq_true rfl) rfl (t_turn g ⟨by omega, by omega⟩ ⟨by omega, by omega⟩) ?_
  rintro rv h1 ⟨rfl, s1, rfl, hF1, hV1⟩
  refine am_s rfl rfl ?_
  refine am_s rfl rfl ?_
  refine am_s rfl rfl ?_
  refine am_cs (As := [_, _, _]) (rest := []) rfl (Or.inl rfl) rfl rfl (Nat.le_of_ble_eq_true rfl) rfl (t_turn g ⟨by omega, by omega⟩ ⟨by omega, by omega⟩) ?_
  rintro rv h1 ⟨rfl, s2, rfl, hF2, hV2⟩
  refine am_s rfl rfl ?_
  refine am_s rfl rfl ?_
  refine am_s rfl rfl ?_
  refine am_cs (As := [_, _, _]) (rest := []) rfl (Or.inl rfl) rfl rfl (Nat.le_of_ble_eq_true rfl) rfl (t_turn g ⟨by omega, by omega⟩ ⟨by omega, by omega⟩) ?_
  rintro rv h1 ⟨rfl, s3, rfl, hF3, hV3⟩
  exact am_r rfl rfl ⟨rfl, s3, rfl, am_Fr_u (am_Fr_u hF1 hF2) hF3, sh_of h0 hV1 hV2 hV3⟩
theorem t_front {d : Nat} {E : am_Ev} {s : am_S} (g : am_Eg E) (hn : 1 ≤ s 151 1 ∧ s 151 1 ≤ 20) (ht : ∀ i, 0 ≤ i → i < s 151 1 → 0 ≤ s 152 i ∧ s 152 i < 20) (hex : ∃ y, 0 ≤ y ∧ y < s 151 1 ∧ s 152 y = 0) : am_wp (d + 2) 99 0 (lv_args 0 [.ref 151]) [] (am_hp E s) (fun rv h => rv = none ∧ ∃ p s', h = am_hp E s' ∧ (0 ≤ p ∧ p < s 151 1) ∧ s 152 p = 0 ∧ (∀ y, 0 ≤ y → y < p → s 152 y ≠ 0) ∧ am_Fr [152] s s' ∧ sh 0 p (s 151 1 - 1) (s 152) (s' 152)) := by
  refine am_s rfl rfl ?_
  refine s_gr rfl g rfl rfl ?_
  refine s_k 0 rfl rfl ?_
  refine am_s rfl rfl ?_
  refine s_k 0 rfl rfl ?_
  refine s_cv [_] [_, _] rfl g (Or.inl rfl) rfl rfl (Nat.le_of_ble_eq_true rfl) rfl rfl (t_placeOf g hn ⟨by decide, by decide⟩ ht hex) ?_
  rintro rv h1 ⟨rfl, p, rfl, p0, p1, p2, p3⟩
  refine am_s rfl rfl ?_
  refine s_gi (x := 1) rfl g rfl rfl rfl ?_
  refine s_k 1 rfl rfl ?_
  refine s_isub rfl ?_
  refine am_cs (As := [_, _, _, _]) (rest := []) rfl (Or.inr rfl) rfl rfl (Nat.le_of_ble_eq_true rfl) rfl (t_shift g (Int.le_refl 0) ⟨p0, by omega⟩ ⟨by omega, by omega⟩) ?_
  rintro rv h1 ⟨rfl, s1, rfl, hF, hV⟩
  exact am_r rfl rfl ⟨rfl, p, s1, rfl, ⟨p0, p1⟩, p2, p3, hF, hV⟩
/-- turned round by p places -/
def rt (n p : Int) (t t2 : Int → Int) : Prop := ∀ y, 0 ≤ y → y < n → t2 y = t (if p + y < n then p + y else p + y - n)
theorem sh_rt {n p : Int} {t t2 : Int → Int} (hp : 0 ≤ p ∧ p < n) (h : sh 0 p (n - 1) t t2) : rt n p t t2 := by
  intro y y0 y1
  rw [h y, if_pos (by omega)]
  by_cases e : p + y < n
  · rw [if_pos (by omega), if_pos e]
    congr 1
    omega
  · rw [if_neg (by omega), if_neg e]
    congr 1
    omega
theorem t_toZero {d : Nat} {E : am_Ev} {s : am_S} (g : am_Eg E) (hn : 1 ≤ s 168 1 ∧ s 168 1 ≤ 20) (ht : ∀ i, 0 ≤ i → i < s 168 1 → 0 ≤ s 183 i ∧ s 183 i < 20) (hex : ∃ y, 0 ≤ y ∧ y < s 168 1 ∧ s 183 y = 0) : am_wp d 203 0 (lv_args 0 [.ref 168]) [] (am_hp E s) (fun rv h => rv = none ∧ ∃ p s', h = am_hp E s' ∧ (0 ≤ p ∧ p < s 168 1) ∧ s 183 p = 0 ∧ (∀ y, 0 ≤ y → y < p → s 183 y ≠ 0) ∧ am_Fr [183, 184] s s' ∧ rt (s 168 1) p (s 183) (s' 183)) := by
  obtain ⟨n, en⟩ : ∃ n : Nat, s 168 1 = n := ⟨(s 168 1).toNat, by omega⟩
  refine s_k 0 rfl rfl ?_
  refine am_s rfl rfl ?_
  refine am_lv [(1, .int (iI (((0 : Nat) : Int) : Int))), (0, .ref 168)] rfl rfl ⟨rfl, rfl, trivial⟩ ?_
  refine s_while (X := Nat) (fun m s' => s = s' ∧ (m : Int) < n ∧ ∀ y, 0 ≤ y → y < (m : Int) → s 183 y ≠ 0) (fun m _ => n - m) (fun m => [(1, .int (iI (m : Int))), (0, .ref 168)]) ?_ (x := 0) ⟨rfl, by omega, fun y y0 y1 => absurd y1 (by omega)⟩
  rintro m s1 ⟨rfl, hm1, hA⟩ kk
  simp only at kk ⊢
  have htm := ht m (by omega) (by omega)
  refine am_s rfl rfl ?_
  refine s_gr rfl g rfl rfl ?_
  refine am_s rfl rfl ?_
  refine s_ia rfl g rfl ⟨by omega, by omega⟩ (by decide) ?_
  refine s_zeq rfl ⟨by omega, by omega⟩ (fun c51 => ?_) (fun c51 => ?_)
  · refine s_k 0 rfl rfl ?_
    refine am_s rfl rfl ?_
    obtain ⟨p, ep⟩ : ∃ p : Int, p = (m : Int) := ⟨_, rfl⟩
    refine am_lv [(2, .int (iI (((0 : Nat) : Int) : Int))), (1, .int (iI p)), (0, .ref 168)] rfl rfl ⟨rfl, by rw [ep]; rfl, rfl, trivial⟩ ?_
    refine s_loop (X := Unit) (fun k _ s' => am_Fr [184] s s' ∧ ∀ y, 0 ≤ y → y < (k : Int) → s' 184 y = s 183 (if p + y < n then p + y else p + y - n)) (fun k _ => [(2, .int (iI (k : Int))), (1, .int (iI p)), (0, .ref 168)]) (hi := n) (x := ()) (Nat.zero_le n) ⟨am_Fr_r _ _, fun y y0 y1 => absurd y1 (by omega)⟩ ?_ ?_
    · rintro k - s2 hk0 hk ⟨hF, hV⟩ kk2
      have e183 : s2 183 = s 183 := hF 183 (by decide)
      have e168 : s2 168 1 = n := by rw [hF 168 (by decide)]; exact en
      have er : (p + (k : Int)) % s2 168 1 = if p + (k : Int) < n then p + k else p + k - n := by
        rw [e168]
        by_cases e : p + (k : Int) < n
        · rw [if_pos e]; exact Int.emod_eq_of_lt (by omega) e
        · rw [if_neg e, ← Int.sub_emod_right]; exact Int.emod_eq_of_lt (by omega) (by omega)
      simp only at kk2 ⊢
      refine am_s rfl rfl ?_
      refine am_s rfl rfl ?_
      refine s_gi (x := 1) rfl g rfl rfl rfl ?_
      refine s_cge rfl ⟨by omega, by omega⟩ ⟨by omega, by omega⟩ (fun c1 => absurd c1 (by omega)) (fun c1 => ?_)
      refine am_s rfl rfl ?_
      refine s_gr rfl g rfl rfl ?_
      refine am_s rfl rfl ?_
      refine am_s rfl rfl ?_
      refine s_gr rfl g rfl rfl ?_
      refine am_s rfl rfl ?_
      refine am_s rfl rfl ?_
      refine s_iadd rfl ?_
      refine am_s rfl rfl ?_
      refine s_gi (x := 1) rfl g rfl rfl rfl ?_
      refine s_irem rfl ⟨by omega, by omega⟩ ⟨by omega, by omega⟩ ?_
      refine s_ia rfl g rfl (by rw [er]; split <;> exact ⟨by omega, by omega⟩) (by decide) ?_
      rw [er]
      refine s_is rfl g rfl ⟨by omega, by omega⟩ (by decide) ?_
      refine s_inc rfl rfl ?_
      refine am_s rfl rfl ?_
      refine am_lv [(2, _), (1, _), (0, _)] rfl rfl ⟨rfl, rfl, rfl, trivial⟩ ?_
      refine kk2 () _ ⟨am_Fr_W hF (by decide), fun y y0 y1 => ?_⟩
      by_cases e : y = (k : Int)
      · rw [e, am_w_eq, e183]
      · rw [am_w_x e]; exact hV y y0 (by omega)
    · rintro - s2 ⟨hF, hV⟩
      have e168 : s2 168 1 = n := by rw [hF 168 (by decide)]; exact en
      simp only
      refine am_s rfl rfl ?_
      refine am_s rfl rfl ?_
      refine s_gi (x := 1) rfl g rfl rfl rfl ?_
      refine s_cge rfl ⟨by omega, by omega⟩ ⟨by omega, by omega⟩ (fun c1 => ?_) (fun c1 => absurd c1 (by omega))
      refine s_k 0 rfl rfl ?_
      refine am_s rfl rfl ?_
      refine am_lv [(2, .int (iI (((0 : Nat) : Int) : Int))), (1, .int (iI p)), (0, .ref 168)] rfl rfl ⟨rfl, rfl, rfl, trivial⟩ ?_
      refine s_loop (X := Unit) (fun k _ s' => am_Fr [183, 184] s s' ∧ s' 184 = s2 184 ∧ ∀ y, 0 ≤ y → y < (k : Int) → s' 183 y = s2 184 y) (fun k _ => [(2, .int (iI (k : Int))), (1, .int (iI p)), (0, .ref 168)]) (hi := n) (x := ()) (Nat.zero_le n) ⟨am_Fr_m hF (by decide), rfl, fun y y0 y1 => absurd y1 (by omega)⟩ ?_ ?_
      · rintro k - s3 hk0 hk ⟨hF3, h4, h5⟩ kk3
        have e3 : s3 168 1 = n := by rw [hF3 168 (by decide)]; exact en
        simp only at kk3 ⊢
        refine am_s rfl rfl ?_
        refine am_s rfl rfl ?_
        refine s_gi (x := 1) rfl g rfl rfl rfl ?_
        refine s_cge rfl ⟨by omega, by omega⟩ ⟨by omega, by omega⟩ (fun c1 => absurd c1 (by omega)) (fun c1 => ?_)
        refine am_s rfl rfl ?_
        refine s_gr rfl g rfl rfl ?_
        refine am_s rfl rfl ?_
        refine am_s rfl rfl ?_
        refine s_gr rfl g rfl rfl ?_
        refine am_s rfl rfl ?_
        refine s_ia rfl g rfl ⟨by omega, by omega⟩ (by decide) ?_
        refine s_is rfl g rfl ⟨by omega, by omega⟩ (by decide) ?_
        refine s_inc rfl rfl ?_
        refine am_s rfl rfl ?_
        refine am_lv [(2, _), (1, _), (0, _)] rfl rfl ⟨rfl, rfl, rfl, trivial⟩ ?_
        refine kk3 () _ ⟨am_Fr_W hF3 (by decide), by rw [am_w_row (by decide)]; exact h4, fun y y0 y1 => ?_⟩
        by_cases e : y = (k : Int)
        · rw [e, am_w_eq, h4]
        · rw [am_w_x e]; exact h5 y y0 (by omega)
      · rintro - s3 ⟨hF3, h4, h5⟩
        have e3 : s3 168 1 = n := by rw [hF3 168 (by decide)]; exact en
        simp only
        refine am_s rfl rfl ?_
        refine am_s rfl rfl ?_
        refine s_gi (x := 1) rfl g rfl rfl rfl ?_
        refine s_cge rfl ⟨by omega, by omega⟩ ⟨by omega, by omega⟩ (fun c1 => ?_) (fun c1 => absurd c1 (by omega))
        exact am_r rfl rfl ⟨rfl, p, s3, rfl, ⟨by omega, by omega⟩, by rw [ep]; exact c51, by rw [ep]; exact hA, hF3, fun y y0 y1 => by rw [en] at y1 ⊢; rw [h5 y y0 y1, hV y y0 y1]⟩
  · refine s_inc rfl rfl ?_
    refine am_s rfl rfl ?_
    refine am_lv [(1, _), (0, _)] rfl rfl ⟨rfl, rfl, trivial⟩ ?_
    obtain ⟨y, y0, y1, y2⟩ := hex
    have hmy : (m : Int) < y := by
      rcases Int.lt_trichotomy (m : Int) y with z | z | z
      · exact z
      · exact absurd (by rw [z]; exact y2) c51
      · exact absurd y2 (hA y y0 z)
    refine kk (m + 1) s ⟨rfl, by omega, fun z z0 z1 => ?_⟩ (by omega)
    by_cases e : z = (m : Int)
    · rw [e]; exact c51
    · exact hA z z0 (by omega)
