theorem anc_stuck {hu : Int → Int} {a : Int} {k : Nat} (h : anc hu k a = -1) : ∀ l, k ≤ l → anc hu l a = -1 := by
  intro l hl
  induction l with
  | zero =>
    have : k = 0 := by omega
    subst this
    exact h
  | succ l ih =>
    by_cases e : k = l + 1
    · subst e; exact h
    · have h1 := ih (by omega)
      show (if anc hu l a < 0 then anc hu l a else hu (anc hu l a)) = -1
      rw [h1]
      rfl
/-- a tree's order: there is one -/
def od_ex (n : Int) (hu : Int → Int) : Prop := ∃ ins odr : Int → Int, od_ok n 0 n.toNat ins hu odr ∧ ∀ c, 0 ≤ c → c < n → ins c = 1
theorem t_hangs {d n : Nat} {E : am_Ev} {s : am_S} {a fr : Int} {ins odr : Int → Int} (g : am_Eg E) (hn : n ≤ 20) (ho : od_ok n 0 n ins (s 192) odr) (hi : ∀ c, 0 ≤ c → c < (n : Int) → ins c = 1) (ha : 0 ≤ a ∧ a < n) (hf : 0 ≤ fr ∧ fr < n) : am_wp d 187 0 (lv_args 0 [.ref 168, .int (iI a), .int (iI fr)]) [] (am_hp E s) (fun rv h => h = am_hp E s ∧ (rv = some (.int (iI 1)) ∧ dsc (s 192) a fr ∨ rv = some (.int (iI 0)) ∧ ¬ dsc (s 192) a fr)) := by
  refine am_s rfl rfl ?_
  refine am_s rfl rfl ?_
  obtain ⟨p, p0, p1, pe⟩ := ho.2.2.2.1 a ha.1 ha.2 (hi a ha.1 ha.2)
  refine am_lv [(3, .int (iI (anc (s 192) 0 a))), (2, .int (iI fr)), (1, .int (iI a)), (0, .ref 168)] rfl rfl ⟨rfl, rfl, rfl, rfl, trivial⟩ ?_
  refine s_while (X := Nat × Nat) (fun x s' => s = s' ∧ (anc (s 192) x.1 a = -1 ∧ x.2 = 0 ∨ ∃ q : Int, (0 ≤ q ∧ q < (n : Int)) ∧ odr q = anc (s 192) x.1 a ∧ x.2 = q.toNat + 1) ∧ ∀ l, l < x.1 → anc (s 192) l a ≠ fr) (fun x _ => x.2) (fun x => [(3, .int (iI (anc (s 192) x.1 a))), (2, .int (iI fr)), (1, .int (iI a)), (0, .ref 168)]) ?_ (x := (0, p.toNat + 1)) ⟨rfl, Or.inr ⟨p, ⟨p0, p1⟩, pe, rfl⟩, fun l hl => absurd hl (Nat.not_lt_zero l)⟩
  rintro ⟨k, q⟩ s1 ⟨rfl, hq, hl⟩ kk
  simp only at kk hq hl ⊢
  have hno : anc (s 192) k a = -1 → ¬ dsc (s 192) a fr := fun c1 ⟨l, hl2⟩ => by
    rcases Nat.lt_or_ge l k with z | z
    · exact hl l z hl2
    · have := anc_stuck c1 l z
      omega
  have hrc : am_R (anc (s 192) k a) := by
    rcases anc_rng (od_rng ho hi) ha k with z | z <;> exact ⟨by omega, by omega⟩
  refine am_s rfl rfl ?_
  refine s_k (-1) rfl rfl ?_
  refine s_ceq rfl hrc ⟨by decide, by decide⟩ (fun c1 => ?_) (fun c1 => ?_)
  · refine am_s rfl rfl ?_
    refine am_s rfl rfl ?_
    refine s_cne rfl hrc ⟨by omega, by omega⟩ (fun c2 => ?_) (fun c2 => ?_)
    · refine s_k 0 rfl rfl ?_
      first | (exact am_r rfl rfl ⟨rfl, Or.inl ⟨rfl, k, by omega⟩⟩) | (exact absurd c1 (by omega)) | (exact am_r rfl rfl ⟨rfl, Or.inr ⟨rfl, hno c1⟩⟩)
    · refine s_k 1 rfl rfl ?_
      refine am_s rfl rfl ?_
      first | (exact am_r rfl rfl ⟨rfl, Or.inl ⟨rfl, k, by omega⟩⟩) | (exact absurd c1 (by omega)) | (exact am_r rfl rfl ⟨rfl, Or.inr ⟨rfl, hno c1⟩⟩)
  · refine am_s rfl rfl ?_
    refine am_s rfl rfl ?_
    refine s_ceq rfl hrc ⟨by omega, by omega⟩ (fun c3 => ?_) (fun c3 => ?_)
    · refine am_s rfl rfl ?_
      refine am_s rfl rfl ?_
      refine s_cne rfl hrc ⟨by omega, by omega⟩ (fun c4 => ?_) (fun c4 => ?_)
      · refine s_k 0 rfl rfl ?_
        first | (exact am_r rfl rfl ⟨rfl, Or.inl ⟨rfl, k, by omega⟩⟩) | (exact absurd c1 (by omega)) | (exact am_r rfl rfl ⟨rfl, Or.inr ⟨rfl, hno c1⟩⟩)
      · refine s_k 1 rfl rfl ?_
        refine am_s rfl rfl ?_
        first | (exact am_r rfl rfl ⟨rfl, Or.inl ⟨rfl, k, by omega⟩⟩) | (exact absurd c1 (by omega)) | (exact am_r rfl rfl ⟨rfl, Or.inr ⟨rfl, hno c1⟩⟩)
    · refine am_s rfl rfl ?_
      refine s_gr rfl g rfl rfl ?_
      refine am_s rfl rfl ?_
      refine s_ia rfl g rfl (by rcases anc_rng (od_rng ho hi) ha k with z | z <;> omega) (by decide) ?_
      refine am_s rfl rfl ?_
      refine am_s rfl rfl ?_
      have hnn : ¬ anc (s 192) k a < 0 := fun z => by
        rcases anc_rng (od_rng ho hi) ha k with y | y <;> omega
      have es : anc (s 192) (k + 1) a = s 192 (anc (s 192) k a) := if_neg hnn
      refine am_lv [(3, .int (iI (anc (s 192) (k + 1) a))), (2, .int (iI fr)), (1, .int (iI a)), (0, .ref 168)] rfl rfl ⟨by rw [es]; rfl, rfl, rfl, rfl, trivial⟩ ?_
      rcases hq with ⟨z, -⟩ | ⟨q2, q3, q4, q5⟩
      · exact absurd z c1
      · by_cases e0 : q2 = 0
        · refine kk (k + 1, 0) s ⟨rfl, Or.inl ⟨?_, rfl⟩, fun l hl2 => ?_⟩ (by show 0 < q; omega)
          · show anc (s 192) (k + 1) a = -1
            rw [es, ← q4, e0, ho.1]; exact ho.2.1
          · by_cases el : l = k
            · rw [el]; exact c3
            · exact hl l (by show l < k; have : l < k + 1 := hl2; omega)
        · obtain ⟨j, j0, j1, j2⟩ := ho.2.2.2.2.2 q2 (by omega) q3.2
          refine kk (k + 1, j.toNat + 1) s ⟨rfl, Or.inr ⟨j, ⟨j0, by omega⟩, ?_, rfl⟩, fun l hl2 => ?_⟩ (by show j.toNat + 1 < q; omega)
          · show odr j = anc (s 192) (k + 1) a
            rw [es, ← q4, j2]
          · by_cases el : l = k
            · rw [el]; exact c3
            · exact hl l (by show l < k; have : l < k + 1 := hl2; omega)
