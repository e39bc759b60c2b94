/-! a matching of a part, and another one of what is left -/
def mt_no (T : Nat → Bool) : Nat → Bool := fun i => !T i
def mt_gl (T : Nat → Bool) (r m : Nat → Nat) : Nat → Nat := fun i => if T i = true then r i else m i
theorem mt_co_split {w : Nat → Nat → Int} {n : Nat} (T : Nat → Bool) (p : Nat → Nat) : mt_co w n mt_all p = mt_co w n T p + mt_co w n (mt_no T) p := by
  unfold mt_co
  rw [← mt_s_add]
  refine mt_s_congr (fun i _ => ?_)
  by_cases e : i < p i
  · cases h : T i <;> simp [mt_all, mt_no, e, h]
  · simp [e]
theorem mt_gl_pm {n : Nat} {T : Nat → Bool} {r m : Nat → Nat} (hm : mt_pmS n mt_all m) (hT : ∀ i, i < n → T i = true → T (m i) = true) (hr : mt_pmS n T r) : mt_pmS n mt_all (mt_gl T r m) := by
  intro i hi _
  unfold mt_gl
  by_cases e : T i = true
  · obtain ⟨a1, a2, a3, a4⟩ := hr i hi e
    rw [if_pos e, if_pos a2]
    exact ⟨a1, rfl, a3, a4⟩
  · obtain ⟨a1, a2, a3, a4⟩ := hm i hi rfl
    have e2 : ¬ T (m i) = true := fun z => e (by
      have := hT (m i) a1 z
      rw [a4] at this
      exact this)
    rw [if_neg e, if_neg e2]
    exact ⟨a1, rfl, a3, a4⟩
theorem mt_gl_co {w : Nat → Nat → Int} {n : Nat} {T : Nat → Bool} {r m : Nat → Nat} : mt_co w n mt_all (mt_gl T r m) = mt_co w n T r + mt_co w n (mt_no T) m := by
  rw [mt_co_split T, mt_co_congr (p := mt_gl T r m) (q := r) (fun i _ hs => if_pos hs), mt_co_congr (S := mt_no T) (p := mt_gl T r m) (q := m) (fun i _ hs => if_neg (fun z => by simp [mt_no, z] at hs))]
/-- those whom the first L and their partners leave -/
def mt_lf (L : Nat) (m : Nat → Nat) : Nat → Bool := fun i => !decide (i < L) && !decide (m i < L)
theorem mt_lf_t {L i : Nat} {m : Nat → Nat} : mt_lf L m i = true ↔ ¬ i < L ∧ ¬ m i < L := by
  unfold mt_lf
  simp
theorem mt_settle {w : Nat → Nat → Int} {n L : Nat} {m r : Nat → Nat} (h0 : 0 < n) (hL : L ≤ n) (hm : mt_opt (mt_cd w n L) n mt_all m) (hr : mt_lex w n (mt_lf L m) r) : mt_lex w n mt_all (mt_gl (mt_lf L m) r m) := by
  obtain ⟨ho, hd⟩ := mt_digits h0 hL hm
  have hT : ∀ i, i < n → mt_lf L m i = true → mt_lf L m (m i) = true := fun i hi h => by
    obtain ⟨a1, a2⟩ := mt_lf_t.mp h
    exact mt_lf_t.mpr ⟨a2, by rw [(ho.1 i hi rfl).2.2.2]; exact a1⟩
  have hmT : mt_pmS n (mt_lf L m) m := fun i hi h => by
    obtain ⟨a1, a2, a3, a4⟩ := ho.1 i hi rfl
    exact ⟨a1, hT i hi h, a3, a4⟩
  have hP := mt_gl_pm ho.1 hT hr.1.1
  have hoP : mt_opt w n mt_all (mt_gl (mt_lf L m) r m) := by
    refine ⟨hP, fun q hq => ?_⟩
    have h1 := ho.2 q hq
    have h2 := hr.1.2 m hmT
    rw [mt_gl_co]
    rw [mt_co_split (mt_lf L m) m] at h1
    omega
  refine ⟨hoP, fun q hq i hi _ hj => ?_⟩
  have low : ∀ j, j < L → mt_gl (mt_lf L m) r m j = m j := fun j hj => if_neg (fun z => (mt_lf_t.mp z).1 hj)
  by_cases hiL : i < L
  · rw [low i hiL]
    exact hd q hq i hiL (fun j h => by rw [hj j h rfl, low j (by omega)])
  · have hql : ∀ j, j < L → q j = m j := fun j h => by rw [hj j (by omega) rfl, low j h]
    have hqn : ∀ j, j < n → ¬ mt_lf L m j = true → q j = m j := fun j hjn h => by
      by_cases e : j < L
      · exact hql j e
      · have e2 : m j < L := by
          rcases Nat.lt_or_ge (m j) L with z | z
          · exact z
          · exact absurd (mt_lf_t.mpr ⟨e, by omega⟩) h
        have h3 := hql (m j) e2
        rw [(ho.1 j hjn rfl).2.2.2] at h3
        have h4 := congrArg q h3
        rw [(hq.1 (m j) (ho.1 j hjn rfl).1 rfl).2.2.2] at h4
        exact h4.symm
    by_cases hTi : mt_lf L m i = true
    · have hqT : mt_pmS n (mt_lf L m) q := fun j hjn h => by
        obtain ⟨a1, a2, a3, a4⟩ := hq.1 j hjn rfl
        refine ⟨a1, ?_, a3, a4⟩
        cases e : mt_lf L m (q j) with
        | true => rfl
        | false =>
          have h5 := hqn (q j) a1 (by rw [e]; exact Bool.false_ne_true)
          rw [a4] at h5
          have h6 := congrArg m h5
          rw [(ho.1 (q j) a1 rfl).2.2.2] at h6
          have h7 := hT j hjn h
          rw [h6, e] at h7
          exact h7
      have hqo : mt_opt w n (mt_lf L m) q := by
        refine ⟨hqT, fun s hs => ?_⟩
        have h1 := hq.2 _ (mt_gl_pm ho.1 hT hs)
        rw [mt_gl_co, mt_co_split (mt_lf L m) q, mt_co_congr (S := mt_no (mt_lf L m)) (p := q) (q := m) (fun j hjn hs => hqn j hjn (fun z => by simp [mt_no, z] at hs))] at h1
        omega
      rw [show mt_gl (mt_lf L m) r m i = r i from if_pos hTi]
      exact hr.2 q hqo i hi hTi (fun j h1 h2 => by rw [hj j h1 rfl, show mt_gl (mt_lf L m) r m j = r j from if_pos h2])
    · rw [show mt_gl (mt_lf L m) r m i = m i from if_neg hTi, hqn i hi hTi]
      exact Nat.le_refl _
/-! ranks instead of cities: e tells the city of a rank -/
def mt_up (n N : Nat) (e : Nat → Nat) : Prop := (∀ i, i < n → e i < N) ∧ ∀ i j, i < j → j < n → e i < e j
/-- the cities that have ranks -/
def mt_im (n : Nat) (e : Nat → Nat) : Nat → Bool := fun x => (List.range n).any (fun i => decide (e i = x))
theorem mt_im_t {n x : Nat} {e : Nat → Nat} : mt_im n e x = true ↔ ∃ i, i < n ∧ e i = x := by
  unfold mt_im
  simp
theorem mt_up_inj {n N : Nat} {e : Nat → Nat} (h : mt_up n N e) {i j : Nat} (hi : i < n) (hj : j < n) (he : e i = e j) : i = j := by
  rcases Nat.lt_trichotomy i j with h1 | h1 | h1
  · have := h.2 i j h1 hj
    omega
  · exact h1
  · have := h.2 j i h1 hi
    omega
theorem mt_up_le {n N : Nat} {e : Nat → Nat} (h : mt_up n N e) {i j : Nat} (hi : i < n) (hj : j < n) : e i ≤ e j ↔ i ≤ j := by
  rcases Nat.lt_trichotomy i j with h1 | h1 | h1
  · have := h.2 i j h1 hj
    omega
  · subst h1
    omega
  · have := h.2 j i h1 hi
    omega
theorem mt_up_lt {n N : Nat} {e : Nat → Nat} (h : mt_up n N e) {i j : Nat} (hi : i < n) (hj : j < n) : e i < e j ↔ i < j := by
  have := mt_up_le h hj hi
  omega
/-- a sum over the cities with ranks is one over the ranks -/
theorem mt_s_im : ∀ {n N : Nat} {e : Nat → Nat} (f : Nat → Int), mt_up n N e → mt_s (fun x => if mt_im n e x = true then f x else 0) N = mt_s (fun i => f (e i)) n
  | 0, N, e, f, _ => by
    rw [mt_s_congr (g := fun _ => 0) (fun i _ => if_neg (fun z => by obtain ⟨j, h1, _⟩ := mt_im_t.mp z; omega)), mt_s_zero]
    rfl
  | n + 1, N, e, f, h => by
    have ih := mt_s_im (n := n) (N := N) (e := e) f ⟨fun i hi => h.1 i (by omega), fun i j h1 h2 => h.2 i j h1 (by omega)⟩
    have hn := h.1 n (by omega)
    rw [mt_s_one (f := fun x => if mt_im (n + 1) e x = true then f x else 0) (g := fun x => if mt_im n e x = true then f x else 0) hn (fun x _ hx => by
      have : mt_im (n + 1) e x = true ↔ mt_im n e x = true := by
        rw [mt_im_t, mt_im_t]
        constructor
        · rintro ⟨i, h1, h2⟩
          refine ⟨i, ?_, h2⟩
          have : i ≠ n := fun z => hx (by rw [← h2, z])
          omega
        · rintro ⟨i, h1, h2⟩
          exact ⟨i, by omega, h2⟩
      simp only [this]), ih, if_pos (mt_im_t.mpr ⟨n, by omega, rfl⟩), if_neg (fun z => by
      obtain ⟨i, h1, h2⟩ := mt_im_t.mp z
      have := mt_up_inj h (by omega) (by omega) h2
      omega)]
    show _ = mt_s (fun i => f (e i)) n + f (e n)
    omega
/-- the same matching, of ranks and of cities -/
def mt_rk (n : Nat) (e p P : Nat → Nat) : Prop := ∀ i, i < n → p i < n ∧ P (e i) = e (p i)
theorem mt_rk_pm {n N : Nat} {e p P : Nat → Nat} (h : mt_up n N e) (hr : mt_rk n e p P) : mt_pmS N (mt_im n e) P ↔ mt_pmS n mt_all p := by
  constructor
  · intro hP i hi _
    obtain ⟨r1, r2⟩ := hr i hi
    obtain ⟨a1, a2, a3, a4⟩ := hP (e i) (h.1 i hi) (mt_im_t.mpr ⟨i, hi, rfl⟩)
    refine ⟨r1, rfl, fun z => a3 (by rw [r2, z]), ?_⟩
    obtain ⟨s1, s2⟩ := hr (p i) r1
    rw [r2, s2] at a4
    exact mt_up_inj h s1 hi a4
  · intro hp x hx hs
    obtain ⟨i, hi, rfl⟩ := mt_im_t.mp hs
    obtain ⟨r1, r2⟩ := hr i hi
    obtain ⟨a1, a2, a3, a4⟩ := hp i hi rfl
    rw [r2]
    refine ⟨h.1 _ r1, mt_im_t.mpr ⟨_, r1, rfl⟩, fun z => a3 (mt_up_inj h r1 hi z), ?_⟩
    rw [(hr (p i) r1).2, a4]
theorem mt_rk_co {w : Nat → Nat → Int} {n N : Nat} {e p P : Nat → Nat} (h : mt_up n N e) (hr : mt_rk n e p P) : mt_co w N (mt_im n e) P = mt_co (fun i j => w (e i) (e j)) n mt_all p := by
  unfold mt_co
  have h1 := mt_s_im (fun x => if x < P x then w x (P x) else 0) h
  rw [mt_s_congr (g := fun x => if mt_im n e x = true then (if x < P x then w x (P x) else 0) else 0) (fun x _ => by
    by_cases e1 : mt_im n e x = true
    · by_cases e2 : x < P x
      · rw [if_pos ⟨e1, e2⟩, if_pos e1, if_pos e2]
      · rw [if_neg (fun z => e2 z.2), if_pos e1, if_neg e2]
    · rw [if_neg (fun z => e1 z.1), if_neg e1]), h1]
  refine mt_s_congr (fun i hi => ?_)
  obtain ⟨r1, r2⟩ := hr i hi
  rw [r2]
  by_cases e1 : i < p i
  · rw [if_pos ((mt_up_lt h hi r1).mpr e1), if_pos ⟨rfl, e1⟩]
  · rw [if_neg (fun z => e1 ((mt_up_lt h hi r1).mp z)), if_neg (fun z => e1 z.2)]
/-- the rank of a city -/
def mt_ro (e : Nat → Nat) (x : Nat) : Nat → Nat
  | 0 => 0
  | n + 1 => if e n = x then n else mt_ro e x n
theorem mt_ro_of {n N : Nat} {e : Nat → Nat} (h : mt_up n N e) {i : Nat} (hi : i < n) : mt_ro e (e i) n = i := by
  induction n with
  | zero => exact absurd hi (Nat.not_lt_zero i)
  | succ n ih =>
    by_cases e1 : i = n
    · subst e1
      exact if_pos rfl
    · have : ¬ e n = e i := fun z => e1 (mt_up_inj h hi (by omega) z.symm)
      rw [show mt_ro e (e i) (n + 1) = mt_ro e (e i) n from if_neg this]
      exact ih ⟨fun i hi => h.1 i (by omega), fun i j h1 h2 => h.2 i j h1 (by omega)⟩ (by omega)
theorem mt_rk_to {n N : Nat} {e P : Nat → Nat} (h : mt_up n N e) (hP : mt_pmS N (mt_im n e) P) : mt_rk n e (fun i => mt_ro e (P (e i)) n) P := by
  intro i hi
  obtain ⟨a1, a2, a3, a4⟩ := hP (e i) (h.1 i hi) (mt_im_t.mpr ⟨i, hi, rfl⟩)
  obtain ⟨j, hj, ej⟩ := mt_im_t.mp a2
  show mt_ro e (P (e i)) n < n ∧ P (e i) = e (mt_ro e (P (e i)) n)
  rw [← ej, mt_ro_of h hj]
  exact ⟨hj, rfl⟩
theorem mt_rk_of {n N : Nat} {e p : Nat → Nat} (h : mt_up n N e) (hp : mt_pmS n mt_all p) : mt_rk n e p (fun x => e (p (mt_ro e x n))) := by
  intro i hi
  refine ⟨(hp i hi rfl).1, ?_⟩
  show e (p (mt_ro e (e i) n)) = _
  rw [mt_ro_of h hi]
theorem mt_rk_opt {w : Nat → Nat → Int} {n N : Nat} {e p P : Nat → Nat} (h : mt_up n N e) (hr : mt_rk n e p P) : mt_opt w N (mt_im n e) P ↔ mt_opt (fun i j => w (e i) (e j)) n mt_all p := by
  constructor
  · intro ho
    refine ⟨(mt_rk_pm h hr).mp ho.1, fun q hq => ?_⟩
    have hq2 := mt_rk_of h hq
    have h1 := ho.2 _ ((mt_rk_pm h hq2).mpr hq)
    rw [mt_rk_co h hr, mt_rk_co h hq2] at h1
    exact h1
  · intro ho
    refine ⟨(mt_rk_pm h hr).mpr ho.1, fun Q hQ => ?_⟩
    have hq2 := mt_rk_to h hQ
    have h1 := ho.2 _ ((mt_rk_pm h hq2).mp hQ)
    rw [mt_rk_co h hr, mt_rk_co h hq2]
    exact h1
theorem mt_rk_lex {w : Nat → Nat → Int} {n N : Nat} {e p P : Nat → Nat} (h : mt_up n N e) (hr : mt_rk n e p P) (hl : mt_lex (fun i j => w (e i) (e j)) n mt_all p) : mt_lex w N (mt_im n e) P := by
  refine ⟨(mt_rk_opt h hr).mpr hl.1, fun Q hQ x hx hs hj => ?_⟩
  obtain ⟨i, hi, rfl⟩ := mt_im_t.mp hs
  have hq2 := mt_rk_to h hQ.1
  have hqo := (mt_rk_opt h hq2).mp hQ
  rw [(hr i hi).2, (hq2 i hi).2]
  refine (mt_up_le h (hr i hi).1 (hq2 i hi).1).mpr (hl.2 _ hqo i hi rfl (fun j h1 _ => ?_))
  have h3 := hj (e j) ((mt_up_lt h (by omega) hi).mpr h1) (mt_im_t.mpr ⟨j, by omega, rfl⟩)
  rw [(hr j (by omega)).2, (hq2 j (by omega)).2] at h3
  exact mt_up_inj h (hq2 j (by omega)).1 (hr j (by omega)).1 h3
