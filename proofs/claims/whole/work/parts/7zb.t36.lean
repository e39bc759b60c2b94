theorem nf_uniq {n but v v2 : Int} {F F2 : Int → Int} (hn : 3 ≤ n) (hF : ∀ c, 0 ≤ c → c < n → F c = F2 c) (h : nf n F but n v) (h2 : nf n F2 but n v2) : v = v2 := by
  have r1 := nf_some hn h
  have r2 := nf_some hn h2
  rcases h with ⟨z, -⟩ | ⟨-, -, a⟩
  · omega
  rcases h2 with ⟨z, -⟩ | ⟨-, -, b⟩
  · omega
  have a1 := a v2 (by omega) (by omega) ⟨by omega, r2.2⟩
  have b1 := b v (by omega) (by omega) ⟨by omega, r1.2⟩
  simp only at a1 b1
  rw [hF v (by omega) (by omega), hF v2 (by omega) (by omega)] at a1
  omega
theorem s_sum_c {g g2 : Int → Int} : ∀ k : Nat, (∀ c, 0 ≤ c → c < (k : Int) → g c = g2 c) → s_sum g k = s_sum g2 k
  | 0, _ => rfl
  | k + 1, h => by
    show s_sum g k + g k = s_sum g2 k + g2 k
    rw [s_sum_c k (fun c c0 c1 => h c c0 (by omega)), h k (by omega) (by omega)]
theorem ot_uniq {n val val2 : Int} {f f2 : Int → Int → Int} {pen pen2 dg dgb : Int → Int} (hn : 3 ≤ n) (hf : ∀ p q, 0 ≤ p → p < n → 0 ≤ q → q < n → f p q = f2 p q) (hp : ∀ c, 0 ≤ c → c < n → pen c = pen2 c) (h : ot_is n f pen val dg) (h2 : ot_is n f2 pen2 val2 dgb) : val = val2 ∧ ∀ c, 0 ≤ c → c < n → dg c = dgb c := by
  obtain ⟨I, on, al, one, oth, a1, a2, a3, a4, a5⟩ := h
  obtain ⟨I2, on2, al2, one2, oth2, b1, b2, b3, b4, b5⟩ := h2
  obtain ⟨-, u2, u3⟩ := gw_uniq (by decide) (fun p q p0 p1 q0 q1 => hf p q (by omega) p1 (by omega) q1) _ a1 b1
  have r1 := nf_some hn a2
  have e1 : one = one2 := nf_uniq hn (fun c c0 c1 => hf 0 c (by omega) (by omega) c0 c1) a2 b2
  subst e1
  have r2 := nf_some hn a3
  have e2 : oth = oth2 := nf_uniq hn (fun c c0 c1 => hf 0 c (by omega) (by omega) c0 c1) a3 b3
  subst e2
  refine ⟨?_, fun c c0 c1 => ?_⟩
  · rw [a4, b4, u3, hf 0 one (by omega) (by omega) (by omega) (by omega), hf 0 oth (by omega) (by omega) (by omega) (by omega), s_sum_c n.toNat (fun c c0 c1 => hp c c0 (by omega))]
  · rw [a5 c c0 c1, b5 c c0 c1, dg2_congr n.toNat (fun b b0 b1 => u2 b (by omega) (by omega)) c]
theorem bd_uniq {n st0 : Int} {D D2 : Int → Int → Int} {p0 p02 : Int → Int} (hn : 3 ≤ n ∧ n ≤ 20) (hD : ∀ p q, 0 ≤ p → p < n → 0 ≤ q → q < n → D p q = D2 p q) (hp : ∀ c, 0 ≤ c → c < 20 → p0 c = p02 c) : ∀ (k : Nat) {pen pen2 : Int → Int} {gr gr2 stp stp2 : Int}, bd_ok n D p0 st0 k pen gr stp → bd_ok n D2 p02 st0 k pen2 gr2 stp2 → (∀ c, 0 ≤ c → c < 20 → pen c = pen2 c) ∧ (0 < k → gr = gr2) ∧ stp = stp2
  | 0, _, _, _, _, _, _, h, h2 => ⟨fun c c0 c1 => by rw [h.1 c c0 c1, h2.1 c c0 c1, hp c c0 c1], fun z => absurd z (Nat.lt_irrefl 0), h.2.trans h2.2.symm⟩
  | k + 1, pen, pen2, gr, gr2, stp, stp2, h, h2 => by
    obtain ⟨q, g1, t1, v, dg, a1, a2, a3, a4, a5⟩ := h
    obtain ⟨q2, g2, t2, v2, dgb, b1, b2, b3, b4, b5⟩ := h2
    obtain ⟨u1, u2, u3⟩ := bd_uniq hn hD hp k a1 b1
    obtain ⟨w1, w2⟩ := ot_uniq hn.1 (fun p r p0 p1 r0 r1 => by unfold fxp; rw [hD p r p0 p1 r0 r1, u1 p p0 (by omega), u1 r r0 (by omega)]) (fun c c0 c1 => u1 c c0 (by omega)) a2 b2
    refine ⟨fun c c0 c1 => ?_, fun _ => ?_, by rw [a5, b5, u3]⟩
    · rw [a3 c c0 c1, b3 c c0 c1, u1 c c0 c1, u3]
      by_cases e : c < n
      · rw [if_pos e, if_pos e, w2 c c0 e]
      · rw [if_neg e, if_neg e]
    · rw [a4, b4, w1]
      by_cases e : k = 0
      · rw [if_pos e, if_pos e]
      · rw [if_neg e, if_neg e, u2 (by omega)]
