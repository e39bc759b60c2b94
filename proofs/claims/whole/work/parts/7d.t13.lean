/-! the least edge across -/
def ct_el (hu : Int → Int) (city a b : Int) : Prop := dsc hu a city ∧ ¬ dsc hu b city ∧ ¬ (a = city ∧ b = hu city)
def ct_at (n : Int) (D : Int → Int → Int) (El : Int → Int → Prop) (A B v : Int) : Prop := (v = -1 ∧ ∀ a b, 0 ≤ a → a < n → 0 ≤ b → b < n → (a < A ∨ a = A ∧ b < B) → ¬ El a b) ∨ ((∃ a b, (0 ≤ a ∧ a < n) ∧ (0 ≤ b ∧ b < n) ∧ El a b ∧ v = D a b) ∧ ∀ a b, 0 ≤ a → a < n → 0 ≤ b → b < n → (a < A ∨ a = A ∧ b < B) → El a b → v ≤ D a b)
theorem ct_no {n : Int} {D : Int → Int → Int} {El : Int → Int → Prop} {A B v : Int} (h : ct_at n D El A B v) (k : El A B → v ≠ -1 ∧ v ≤ D A B) : ct_at n D El A (B + 1) v := by
  rcases h with ⟨h1, h2⟩ | ⟨h1, h2⟩
  · refine Or.inl ⟨h1, fun a b a0 a1 b0 b1 hs he => ?_⟩
    by_cases e : a = A ∧ b = B
    · obtain ⟨rfl, rfl⟩ := e
      exact (k he).1 h1
    · exact h2 a b a0 a1 b0 b1 (by omega) he
  · refine Or.inr ⟨h1, fun a b a0 a1 b0 b1 hs he => ?_⟩
    by_cases e : a = A ∧ b = B
    · obtain ⟨rfl, rfl⟩ := e
      exact (k he).2
    · exact h2 a b a0 a1 b0 b1 (by omega) he
theorem ct_yes {n : Int} {D : Int → Int → Int} {El : Int → Int → Prop} {A B v : Int} (h : ct_at n D El A B v) (hA : 0 ≤ A ∧ A < n) (hB : 0 ≤ B ∧ B < n) (he : El A B) (k : v = -1 ∨ D A B < v) (hp : ∀ a b, 0 ≤ a → a < n → 0 ≤ b → b < n → 0 ≤ D a b) : ct_at n D El A (B + 1) (D A B) := by
  refine Or.inr ⟨⟨A, B, hA, hB, he, rfl⟩, fun a b a0 a1 b0 b1 hs hl => ?_⟩
  by_cases e : a = A ∧ b = B
  · obtain ⟨rfl, rfl⟩ := e
    exact Int.le_refl _
  · rcases h with ⟨h1, h2⟩ | ⟨⟨p, q, p0, q0, pe, pv⟩, h2⟩
    · exact absurd hl (h2 a b a0 a1 b0 b1 (by omega))
    · have := h2 a b a0 a1 b0 b1 (by omega) hl
      have := hp p q p0.1 p0.2 q0.1 q0.2
      omega
theorem ct_row {n : Int} {D : Int → Int → Int} {El : Int → Int → Prop} {A v : Int} (h : ct_at n D El A n v) : ct_at n D El (A + 1) 0 v := by
  rcases h with ⟨h1, h2⟩ | ⟨h1, h2⟩
  · exact Or.inl ⟨h1, fun a b a0 a1 b0 b1 hs => h2 a b a0 a1 b0 b1 (by omega)⟩
  · exact Or.inr ⟨h1, fun a b a0 a1 b0 b1 hs => h2 a b a0 a1 b0 b1 (by omega)⟩
theorem ct_r {n : Int} {D : Int → Int → Int} {El : Int → Int → Prop} {A B v : Int} (hp : ∀ a b, 0 ≤ a → a < n → 0 ≤ b → b < n → 0 ≤ D a b ∧ D a b < 2147483648) (h : ct_at n D El A B v) : am_R v := by
  rcases h with ⟨h1, h2⟩ | ⟨⟨p, q, p0, q0, pe, pv⟩, h2⟩
  · exact ⟨by omega, by omega⟩
  · have := hp p q p0.1 p0.2 q0.1 q0.2
    exact ⟨by omega, by omega⟩
theorem ct_uniq {n : Int} {D D2 : Int → Int → Int} {El El2 : Int → Int → Prop} {v v2 : Int} (hD : ∀ a b, 0 ≤ a → a < n → 0 ≤ b → b < n → D a b = D2 a b) (hE : ∀ a b, 0 ≤ a → a < n → 0 ≤ b → b < n → (El a b ↔ El2 a b)) (h : ct_at n D El n 0 v) (h2 : ct_at n D2 El2 n 0 v2) : v = v2 := by
  rcases h with ⟨a1, a2⟩ | ⟨⟨p, q, p0, q0, pe, pv⟩, a2⟩ <;> rcases h2 with ⟨b1, b2⟩ | ⟨⟨p', q', p0', q0', pe', pv'⟩, b2⟩
  · omega
  · exact absurd ((hE p' q' p0'.1 p0'.2 q0'.1 q0'.2).mpr pe') (a2 p' q' p0'.1 p0'.2 q0'.1 q0'.2 (Or.inl p0'.2))
  · exact absurd ((hE p q p0.1 p0.2 q0.1 q0.2).mp pe) (b2 p q p0.1 p0.2 q0.1 q0.2 (Or.inl p0.2))
  · have h1 := a2 p' q' p0'.1 p0'.2 q0'.1 q0'.2 (Or.inl p0'.2) ((hE p' q' p0'.1 p0'.2 q0'.1 q0'.2).mpr pe')
    have h2 := b2 p q p0.1 p0.2 q0.1 q0.2 (Or.inl p0.2) ((hE p q p0.1 p0.2 q0.1 q0.2).mp pe)
    rw [hD p' q' p0'.1 p0'.2 q0'.1 q0'.2] at h1
    rw [← hD p q p0.1 p0.2 q0.1 q0.2] at h2
    omega
theorem t_across {d : Nat} {E : am_Ev} {s : am_S} {city : Int} {PP : Option Value → am_H → Prop} (g : am_Eg E) (hm : mx_ok s) (hc : 0 ≤ city ∧ city < s 25 0) (hu : ∀ c, 0 ≤ c → c < s 25 0 → s 50 c = -1 ∨ 0 ≤ s 50 c ∧ s 50 c < s 25 0) (hb : be_ok (s 25 0) (s 50) (s 56)) (hPP : ∀ v, ct_at (s 25 0) (mx s) (ct_el (s 50) city) (s 25 0) 0 v → PP (some (.int (iI v))) (am_hp E s)) : am_wp d 114 0 (lv_args 0 [.ref 48, .ref 25, .int (iI city)]) [] (am_hp E s) PP := by
  obtain ⟨n1, n2, hD⟩ := hm
  obtain ⟨n, en⟩ : ∃ n : Nat, s 25 0 = n := ⟨(s 25 0).toNat, by omega⟩
  have hbe := hb city hc.1 hc.2
  rw [en] at hPP hbe hu
  refine am_s rfl rfl ?_
  refine s_gr rfl g rfl rfl ?_
  refine am_s rfl rfl ?_
  refine s_ia rfl g rfl ⟨by omega, by omega⟩ (by decide) ?_
  refine am_s rfl rfl ?_
  refine s_k (-1) rfl rfl ?_
  refine am_s rfl rfl ?_
  refine s_k 0 rfl rfl ?_
  refine am_s rfl rfl ?_
  refine am_lv [(5, .int (iI (((0 : Nat) : Int) : Int))), (4, .int (iI (-1))), (3, .int (iI (s 56 city))), (2, .int (iI city)), (1, .ref 25), (0, .ref 48)] rfl rfl ⟨rfl, rfl, rfl, rfl, rfl, rfl, trivial⟩ ?_
  refine s_loop (X := Int) (fun A v s' => s = s' ∧ ct_at n (mx s) (ct_el (s 50) city) A 0 v) (fun A v => [(5, .int (iI (A : Int))), (4, .int (iI v)), (3, .int (iI (s 56 city))), (2, .int (iI city)), (1, .ref 25), (0, .ref 48)]) (hi := n) (x := -1) (Nat.zero_le n) ⟨rfl, Or.inl ⟨rfl, fun a b a0 a1 b0 b1 hs => absurd hs (by omega)⟩⟩ ?_ ?_
  · rintro A v s1 hA0 hA ⟨rfl, hC⟩ kk
    simp only at kk ⊢
    refine am_s rfl rfl ?_
    refine am_s rfl rfl ?_
    refine s_gi (x := 0) rfl g rfl rfl rfl ?_
    refine s_cge rfl ⟨by omega, by omega⟩ ⟨by omega, by omega⟩ (fun c1 => absurd c1 (by omega)) (fun c1 => ?_)
    refine s_k 0 rfl rfl ?_
    refine am_s rfl rfl ?_
    refine am_lv [(6, .int (iI (((0 : Nat) : Int) : Int))), (5, .int (iI (A : Int))), (4, .int (iI v)), (3, .int (iI (s 56 city))), (2, .int (iI city)), (1, .ref 25), (0, .ref 48)] rfl rfl ⟨rfl, rfl, rfl, rfl, rfl, rfl, rfl, trivial⟩ ?_
    refine s_loop (X := Int) (fun B v s' => s = s' ∧ ct_at n (mx s) (ct_el (s 50) city) A B v) (fun B v => [(6, .int (iI (B : Int))), (5, .int (iI (A : Int))), (4, .int (iI v)), (3, .int (iI (s 56 city))), (2, .int (iI city)), (1, .ref 25), (0, .ref 48)]) (hi := n) (x := v) (Nat.zero_le n) ⟨rfl, hC⟩ ?_ ?_
    · rintro B v s2 hB0 hB ⟨rfl, hQ⟩ k2
      simp only at k2 ⊢
      have j86 : ∀ w7 w8 : Int, (w7 = 0 ∨ w7 = 1) → (w8 = 0 ∨ w8 = 1) → (w7 = 0 → ¬ (dsc (s 50) A city ∧ ¬ dsc (s 50) B city)) → (¬ w7 = 0 → dsc (s 50) A city ∧ ¬ dsc (s 50) B city) → (¬ w8 = 0 → ((A : Int) = city ∧ (B : Int) = s 50 city)) → (¬ ¬ w8 = 0 → ¬ ((A : Int) = city ∧ (B : Int) = s 50 city)) → am_wp d 114 86 [(8, .int (iI w8)), (7, .int (iI w7)), (6, .int (iI (B : Int))), (5, .int (iI (A : Int))), (4, .int (iI v)), (3, .int (iI (s 56 city))), (2, .int (iI city)), (1, .ref 25), (0, .ref 48)] [] (am_hp E s) PP := by
        intro w7 w8 r7 r8 hw7n hw7y hw8n hw8y
        refine am_s rfl rfl ?_
        refine s_zeq rfl ⟨by omega, by omega⟩ (fun cc1 => ?_) (fun cc1 => ?_)
        · refine s_inc rfl rfl ?_
          refine am_s rfl rfl ?_
          refine am_lv [(6, _), (5, _), (4, _), (3, _), (2, _), (1, _), (0, _)] rfl rfl ⟨rfl, rfl, rfl, rfl, rfl, rfl, rfl, trivial⟩ ?_
          exact k2 _ s ⟨rfl, ct_no hQ (fun he => absurd ⟨he.1, he.2.1⟩ (hw7n cc1))⟩
        · refine am_s rfl rfl ?_
          refine s_zne rfl ⟨by omega, by omega⟩ (fun cc2 => ?_) (fun cc2 => ?_)
          · refine s_inc rfl rfl ?_
            refine am_s rfl rfl ?_
            refine am_lv [(6, _), (5, _), (4, _), (3, _), (2, _), (1, _), (0, _)] rfl rfl ⟨rfl, rfl, rfl, rfl, rfl, rfl, rfl, trivial⟩ ?_
            exact k2 _ s ⟨rfl, ct_no hQ (fun he => absurd (hw8n cc2) he.2.2)⟩
          · have hel : ct_el (s 50) city A B := ⟨(hw7y cc1).1, (hw7y cc1).2, hw8y cc2⟩
            refine am_s rfl rfl ?_
            refine s_k (-1) rfl rfl ?_
            refine s_ceq rfl (ct_r (fun a b a0 a1 b0 b1 => hD a b a0 (by omega) b0 (by omega)) hQ) ⟨by decide, by decide⟩ (fun cc3 => ?_) (fun cc3 => ?_)
            · refine am_s rfl rfl ?_
              refine s_gr rfl g rfl rfl ?_
              refine am_s rfl rfl ?_
              refine s_aa rfl g rfl ⟨by omega, by omega⟩ (by decide) ?_
              refine am_s rfl rfl ?_
              refine s_ia rfl g (lo_26 (by omega) (by omega)) ⟨by omega, by omega⟩ (by decide) ?_
              refine am_s rfl rfl ?_
              refine s_inc rfl rfl ?_
              refine am_s rfl rfl ?_
              refine am_lv [(6, _), (5, _), (4, _), (3, _), (2, _), (1, _), (0, _)] rfl rfl ⟨rfl, rfl, rfl, rfl, rfl, rfl, rfl, trivial⟩ ?_
              exact k2 _ s ⟨rfl, ct_yes hQ ⟨by omega, by omega⟩ ⟨by omega, by omega⟩ hel (Or.inl cc3) (fun a b a0 a1 b0 b1 => (hD a b a0 (by omega) b0 (by omega)).1)⟩
            · refine am_s rfl rfl ?_
              refine s_gr rfl g rfl rfl ?_
              refine am_s rfl rfl ?_
              refine s_aa rfl g rfl ⟨by omega, by omega⟩ (by decide) ?_
              refine am_s rfl rfl ?_
              refine s_ia rfl g (lo_26 (by omega) (by omega)) ⟨by omega, by omega⟩ (by decide) ?_
              refine am_s rfl rfl ?_
              refine s_cge rfl (by have := hD A B (by omega) (by omega) (by omega) (by omega); exact ⟨by unfold mx at this; omega, by unfold mx at this; omega⟩) (ct_r (fun a b a0 a1 b0 b1 => hD a b a0 (by omega) b0 (by omega)) hQ) (fun cc4 => ?_) (fun cc4 => ?_)
              · refine s_inc rfl rfl ?_
                refine am_s rfl rfl ?_
                refine am_lv [(6, _), (5, _), (4, _), (3, _), (2, _), (1, _), (0, _)] rfl rfl ⟨rfl, rfl, rfl, rfl, rfl, rfl, rfl, trivial⟩ ?_
                exact k2 _ s ⟨rfl, ct_no hQ (fun _ => ⟨cc3, cc4⟩)⟩
              · refine am_s rfl rfl ?_
                refine s_gr rfl g rfl rfl ?_
                refine am_s rfl rfl ?_
                refine s_aa rfl g rfl ⟨by omega, by omega⟩ (by decide) ?_
                refine am_s rfl rfl ?_
                refine s_ia rfl g (lo_26 (by omega) (by omega)) ⟨by omega, by omega⟩ (by decide) ?_
                refine am_s rfl rfl ?_
                refine s_inc rfl rfl ?_
                refine am_s rfl rfl ?_
                refine am_lv [(6, _), (5, _), (4, _), (3, _), (2, _), (1, _), (0, _)] rfl rfl ⟨rfl, rfl, rfl, rfl, rfl, rfl, rfl, trivial⟩ ?_
                exact k2 _ s ⟨rfl, ct_yes hQ ⟨by omega, by omega⟩ ⟨by omega, by omega⟩ hel (Or.inr (Int.not_le.mp cc4)) (fun a b a0 a1 b0 b1 => (hD a b a0 (by omega) b0 (by omega)).1)⟩
      have j59 : ∀ w7 : Int, (w7 = 0 ∨ w7 = 1) → (w7 = 0 → ¬ (dsc (s 50) A city ∧ ¬ dsc (s 50) B city)) → (¬ w7 = 0 → dsc (s 50) A city ∧ ¬ dsc (s 50) B city) → am_wp d 114 59 [(7, .int (iI w7)), (6, .int (iI (B : Int))), (5, .int (iI (A : Int))), (4, .int (iI v)), (3, .int (iI (s 56 city))), (2, .int (iI city)), (1, .ref 25), (0, .ref 48)] [] (am_hp E s) PP := by
        intro w7 r7 hw7n hw7y
        refine am_s rfl rfl ?_
        refine am_s rfl rfl ?_
        refine s_cne rfl ⟨by omega, by omega⟩ ⟨by omega, by omega⟩ (fun d1 => ?_) (fun d1 => ?_)
        · refine s_k 0 rfl rfl ?_
          refine am_s rfl rfl ?_
          refine am_lv [(8, _), (7, _), (6, _), (5, _), (4, _), (3, _), (2, _), (1, _), (0, _)] rfl rfl ⟨rfl, rfl, rfl, rfl, rfl, rfl, rfl, rfl, rfl, trivial⟩ ?_
          exact j86 w7 0 r7 (by omega) hw7n hw7y (fun z => absurd rfl z) (fun z => fun y => d1 y.1)
        · refine am_s rfl rfl ?_
          refine am_s rfl rfl ?_
          refine s_gr rfl g rfl rfl ?_
          refine s_gr rfl g rfl rfl ?_
          refine am_s rfl rfl ?_
          refine s_ia rfl g rfl ⟨by omega, by omega⟩ (by decide) ?_
          refine s_cne rfl ⟨by omega, by omega⟩ (by rcases hu city (by omega) (by omega) with z | z <;> exact ⟨by omega, by omega⟩) (fun d2 => ?_) (fun d2 => ?_)
          · refine s_k 0 rfl rfl ?_
            refine am_s rfl rfl ?_
            refine am_lv [(8, _), (7, _), (6, _), (5, _), (4, _), (3, _), (2, _), (1, _), (0, _)] rfl rfl ⟨rfl, rfl, rfl, rfl, rfl, rfl, rfl, rfl, rfl, trivial⟩ ?_
            exact j86 w7 0 r7 (by omega) hw7n hw7y (fun z => absurd rfl z) (fun z => fun y => d2 y.2)
          · refine s_k 1 rfl rfl ?_
            refine am_s rfl rfl ?_
            refine am_s rfl rfl ?_
            refine am_lv [(8, _), (7, _), (6, _), (5, _), (4, _), (3, _), (2, _), (1, _), (0, _)] rfl rfl ⟨rfl, rfl, rfl, rfl, rfl, rfl, rfl, rfl, rfl, trivial⟩ ?_
            exact j86 w7 1 r7 (by omega) hw7n hw7y (fun z => ⟨Decidable.of_not_not d1, Decidable.of_not_not d2⟩) (fun z => absurd (by decide) z)
      refine am_s rfl rfl ?_
      refine am_s rfl rfl ?_
      refine s_gi (x := 0) rfl g rfl rfl rfl ?_
      refine s_cge rfl ⟨by omega, by omega⟩ ⟨by omega, by omega⟩ (fun c2 => absurd c2 (by omega)) (fun c2 => ?_)
      refine am_s rfl rfl ?_
      refine am_s rfl rfl ?_
      refine s_bit rfl rfl rfl hbe.1 ⟨by omega, by omega⟩ ?_
      refine s_zeq rfl (by rcases bt_01 (s 56 city) A with z | z <;> exact ⟨by omega, by omega⟩) (fun c3 => ?_) (fun c3 => ?_)
      · refine s_k 0 rfl rfl ?_
        refine am_s rfl rfl ?_
        refine am_lv [(7, _), (6, _), (5, _), (4, _), (3, _), (2, _), (1, _), (0, _)] rfl rfl ⟨rfl, rfl, rfl, rfl, rfl, rfl, rfl, rfl, trivial⟩ ?_
        exact j59 0 (Or.inl rfl) (fun _ y => by have := (hbe.2 A (by omega) (by omega)).mpr y.1; omega) (fun z => absurd rfl z)
      · refine am_s rfl rfl ?_
        refine am_s rfl rfl ?_
        refine s_bit rfl rfl rfl hbe.1 ⟨by omega, by omega⟩ ?_
        refine s_zne rfl (by rcases bt_01 (s 56 city) B with z | z <;> exact ⟨by omega, by omega⟩) (fun c4 => ?_) (fun c4 => ?_)
        · refine s_k 0 rfl rfl ?_
          refine am_s rfl rfl ?_
          refine am_lv [(7, _), (6, _), (5, _), (4, _), (3, _), (2, _), (1, _), (0, _)] rfl rfl ⟨rfl, rfl, rfl, rfl, rfl, rfl, rfl, rfl, trivial⟩ ?_
          exact j59 0 (Or.inl rfl) (fun _ y => y.2 ((hbe.2 B (by omega) (by omega)).mp (by rcases bt_01 (s 56 city) B with z | z <;> omega))) (fun z => absurd rfl z)
        · refine s_k 1 rfl rfl ?_
          refine am_s rfl rfl ?_
          refine am_s rfl rfl ?_
          refine am_lv [(7, _), (6, _), (5, _), (4, _), (3, _), (2, _), (1, _), (0, _)] rfl rfl ⟨rfl, rfl, rfl, rfl, rfl, rfl, rfl, rfl, trivial⟩ ?_
          exact j59 1 (Or.inr rfl) (fun z => absurd z (by decide)) (fun _ => ⟨(hbe.2 A (by omega) (by omega)).mp (by rcases bt_01 (s 56 city) A with z | z <;> omega), fun y => by have := (hbe.2 B (by omega) (by omega)).mpr y; omega⟩)
    · rintro v s2 ⟨rfl, hQ⟩
      simp only
      refine am_s rfl rfl ?_
      refine am_s rfl rfl ?_
      refine s_gi (x := 0) rfl g rfl rfl rfl ?_
      refine s_cge rfl ⟨by omega, by omega⟩ ⟨by omega, by omega⟩ (fun c2 => ?_) (fun c2 => absurd c2 (by omega))
      refine s_inc rfl rfl ?_
      refine am_s rfl rfl ?_
      refine am_lv [(5, _), (4, _), (3, _), (2, _), (1, _), (0, _)] rfl rfl ⟨rfl, rfl, rfl, rfl, rfl, rfl, trivial⟩ ?_
      exact kk _ s ⟨rfl, ct_row hQ⟩
  · rintro v s1 ⟨rfl, hC⟩
    simp only
    refine am_s rfl rfl ?_
    refine am_s rfl rfl ?_
    refine s_gi (x := 0) rfl g rfl rfl rfl ?_
    refine s_cge rfl ⟨by omega, by omega⟩ ⟨by omega, by omega⟩ (fun c1 => ?_) (fun c1 => absurd c1 (by omega))
    refine am_s rfl rfl ?_
    exact am_r rfl rfl (hPP v hC)
