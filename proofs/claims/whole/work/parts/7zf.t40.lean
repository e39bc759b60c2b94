def mn (n : Int) (D : Int → Int → Int) (t : Int → Int) (k i : Int) : Prop := ∀ p, 0 ≤ p → p < n - k → ¬ mp n D t k i p ∧ ¬ mq n D t k i p
/-- the first move that pays is made, or none does -/
def mo_is (n : Int) (D : Int → Int → Int) (t t2 : Int → Int) (r : Int) : Prop := (r = 0 ∧ (∀ k i, 1 ≤ k → k ≤ 3 → 1 ≤ i → i + k ≤ n → mn n D t k i) ∧ t2 = t) ∨ (r = 1 ∧ ∃ k i, 1 ≤ k ∧ k ≤ 3 ∧ 1 ≤ i ∧ i + k ≤ n ∧ (∀ k2 i2, 1 ≤ k2 → k2 ≤ 3 → 1 ≤ i2 → i2 + k2 ≤ n → (k2 < k ∨ k2 = k ∧ i2 < i) → mn n D t k2 i2) ∧ ms_is n D k i t t2 1)
theorem am_Fr_1 {a : Nat} {s s2 : am_S} (h : am_Fr [a] s s2) (e : s2 a = s a) : s2 = s := funext fun b => if z : b = a then by rw [z]; exact e else h b (fun y => z (List.mem_singleton.mp y))
theorem t_moveOnce {d : Nat} {E : am_Ev} {s : am_S} {PP : Option Value → am_H → Prop} (g : am_Eg E) (hm : mx_ok s) (hc : s 151 1 = s 25 0) (ht : st_ok (s 25 0) (s 152)) (hPP : ∀ r s', am_Fr [152] s s' → mo_is (s 151 1) (mx s) (s 152) (s' 152) r → PP (some (.int (iI r))) (am_hp E s')) : am_wp (d + 4) 106 0 (lv_args 0 [.ref 151, .ref 26]) [] (am_hp E s) PP := by
  have hm0 := hm
  obtain ⟨n1, n2, hD⟩ := hm0
  refine s_k 1 rfl rfl ?_
  refine am_s rfl rfl ?_
  refine am_lv [(2, .int (iI (((1 : Nat) : Int) : Int))), (1, .ref 26), (0, .ref 151)] rfl rfl ⟨rfl, rfl, rfl, trivial⟩ ?_
  refine s_loop (X := Unit) (fun k _ s' => s = s' ∧ ∀ k2 i2, 1 ≤ k2 → k2 < (k : Int) → 1 ≤ i2 → i2 + k2 ≤ s 151 1 → mn (s 151 1) (mx s) (s 152) k2 i2) (fun k _ => [(2, .int (iI (k : Int))), (1, .ref 26), (0, .ref 151)]) (lo := 1) (hi := 4) (x := ()) (by decide) ⟨rfl, fun k2 i2 a1 a2 a3 a4 => by omega⟩ ?_ ?_
  · rintro k - s1 hk0 hk ⟨rfl, hQ⟩ kk
    simp only at kk ⊢
    refine am_s rfl rfl ?_
    refine s_k 3 rfl rfl ?_
    refine s_cgt rfl ⟨by omega, by omega⟩ ⟨by omega, by omega⟩ (fun c1 => absurd c1 (by omega)) (fun c1 => ?_)
    refine s_k 1 rfl rfl ?_
    refine am_s rfl rfl ?_
    obtain ⟨q, hq1, hq⟩ : ∃ q : Nat, 1 ≤ q ∧ ((q : Int) = s 151 1 + 1 - k ∨ s 151 1 + 1 - k < 1 ∧ q = 1) := by
      by_cases e : s 151 1 + 1 - k < 1
      · exact ⟨1, Nat.le_refl 1, Or.inr ⟨e, rfl⟩⟩
      · exact ⟨(s 151 1 + 1 - k).toNat, by omega, Or.inl (by omega)⟩
    refine am_lv [(3, .int (iI (((1 : Nat) : Int) : Int))), (2, .int (iI (k : Int))), (1, .ref 26), (0, .ref 151)] rfl rfl ⟨rfl, rfl, rfl, rfl, trivial⟩ ?_
    refine s_loop (X := Unit) (fun m _ s' => s = s' ∧ ∀ i2, 1 ≤ i2 → i2 < (m : Int) → mn (s 151 1) (mx s) (s 152) k i2) (fun m _ => [(3, .int (iI (m : Int))), (2, .int (iI (k : Int))), (1, .ref 26), (0, .ref 151)]) (lo := 1) (hi := q) (x := ()) hq1 ⟨rfl, fun i2 a1 a2 => by omega⟩ ?_ ?_
    · rintro m - s2 hm0 hmn ⟨rfl, hW⟩ k2
      simp only at k2 ⊢
      refine am_s rfl rfl ?_
      refine am_s rfl rfl ?_
      refine s_iadd rfl ?_
      refine am_s rfl rfl ?_
      refine s_gi (x := 1) rfl g rfl rfl rfl ?_
      refine s_cgt rfl ⟨by omega, by omega⟩ ⟨by omega, by omega⟩ (fun c1 => absurd c1 (by omega)) (fun c1 => ?_)
      refine am_s rfl rfl ?_
      refine am_s rfl rfl ?_
      refine am_s rfl rfl ?_
      refine am_s rfl rfl ?_
      refine s_cv [_, _, _] [] rfl g (Or.inl rfl) rfl rfl (Nat.le_of_ble_eq_true rfl) rfl rfl (t_moveSome (PP := fun rv h => ∃ r s', rv = some (.int (iI r)) ∧ h = am_hp E s' ∧ am_Fr [152] s s' ∧ ms_is (s 151 1) (mx s) k m (s 152) (s' 152) r) g hm hc ht ⟨by omega, by omega⟩ ⟨by omega, by omega⟩ (fun r s' z1 z2 => ⟨r, s', rfl, rfl, z1, z2⟩)) ?_
      rintro rv h1 ⟨r, s2, rfl, rfl, hF, hr⟩
      have hr0 := hr
      rcases hr with ⟨rfl, hz, he⟩ | ⟨rfl, -⟩
      · refine s_zeq rfl ⟨by omega, by omega⟩ (fun c1 => ?_) (fun c1 => absurd c1 (by omega))
        refine s_inc rfl rfl ?_
        refine am_s rfl rfl ?_
        refine am_lv [(3, _), (2, _), (1, _), (0, _)] rfl rfl ⟨rfl, rfl, rfl, rfl, trivial⟩ ?_
        refine k2 () _ ⟨(am_Fr_1 hF he).symm, fun i2 a1 a2 => ?_⟩
        by_cases e : i2 = (m : Int)
        · rw [e]; exact hz
        · exact hW i2 a1 (by omega)
      · refine s_zeq rfl ⟨by omega, by omega⟩ (fun c1 => absurd c1 (by omega)) (fun c1 => ?_)
        refine s_k 1 rfl rfl ?_
        exact am_r rfl rfl (hPP 1 s2 hF (Or.inr ⟨rfl, k, m, by omega, by omega, by omega, by omega, fun k2 i2 a1 a2 a3 a4 a5 => a5.elim (fun z => hQ k2 i2 a1 z a3 a4) (fun z => by rw [z.1]; exact hW i2 a3 z.2), hr0⟩))
    · rintro - s2 ⟨rfl, hW⟩
      simp only
      refine am_s rfl rfl ?_
      refine am_s rfl rfl ?_
      refine s_iadd rfl ?_
      refine am_s rfl rfl ?_
      refine s_gi (x := 1) rfl g rfl rfl rfl ?_
      refine s_cgt rfl ⟨by omega, by omega⟩ ⟨by omega, by omega⟩ (fun c1 => ?_) (fun c1 => absurd c1 (by omega))
      refine s_inc rfl rfl ?_
      refine am_s rfl rfl ?_
      refine am_lv [(2, _), (1, _), (0, _)] rfl rfl ⟨rfl, rfl, rfl, trivial⟩ ?_
      refine kk () _ ⟨rfl, fun k2 i2 a1 a2 a3 a4 => ?_⟩
      by_cases e : k2 = (k : Int)
      · rw [e]; exact hW i2 a3 (by omega)
      · exact hQ k2 i2 a1 (by omega) a3 a4
  · rintro - s1 ⟨rfl, hQ⟩
    simp only
    refine am_s rfl rfl ?_
    refine s_k 3 rfl rfl ?_
    refine s_cgt rfl ⟨by omega, by omega⟩ ⟨by omega, by omega⟩ (fun c1 => ?_) (fun c1 => absurd c1 (by omega))
    refine s_k 0 rfl rfl ?_
    exact am_r rfl rfl (hPP 0 s (am_Fr_r _ _) (Or.inl ⟨rfl, fun k2 i2 a1 a2 a3 a4 => hQ k2 i2 a1 (by omega) a3 a4, rfl⟩))
