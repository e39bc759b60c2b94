/-! PURE: what the class does for a move is what the other one does -/
theorem pb_mvf {k i p : Int} {t t2 : Int → Int} (hk : 1 ≤ k) (hi : 1 ≤ i) (hp : 0 ≤ p) (h : pb k i p t t2) (x : Int) : t2 x = mvf k i p 0 t x := by
  unfold pb at h
  split at h
  · rw [h x]
    unfold mvf rsf
    (repeat' split) <;> first | (exfalso; omega) | rfl | (congr 1; omega)
  · rw [h x]
    unfold mvf rsf
    (repeat' split) <;> first | (exfalso; omega) | rfl | (congr 1; omega)
theorem mvf_rv {k i p : Int} {t t1 : Int → Int} (hk : 1 ≤ k) (h : rv i (i + k - 1) t t1) (x : Int) : mvf k i p 0 t1 x = mvf k i p 1 t x := by
  unfold mvf rsf
  rw [h x, h (x + k), h (i + (x - p - 1)), h (x - k), h (x - k + k)]
  (repeat' split) <;> first | (exfalso; omega) | rfl | (congr 1; omega)
