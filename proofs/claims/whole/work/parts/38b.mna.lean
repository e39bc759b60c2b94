section AMWM
variable {p : Program} {l : Launch} {en : Env} {R : Room} {s : State} {m : MethodId} {args : Array Value} {below : List Frame} {meth : Method} {c : Code} {H : Heap} {locs : List Loc} {cells slots : Nat} {Q : State → Prop}
variable {D : va_G} {cy : Nat → ClassId} {b0 base pc : Nat} {q : am_M} {ls : Array Slot} {lv : am_L} {rest : List Value} {e : am_I} {st : List Value} {h : am_H} {pc' : Nat} {lv' : am_L} {st' : List Value} {h' : am_H}
theorem am_w20 (C : am_Cx p s m args meth c D cy b0 base q) (X : am_At D cy b0 base s h H locs) {idx dm : Nat} (hi1 : e.1 = .multianewarray idx dm) (hdg : decode q.2.1 pc = .ok (.multianewarray idx dm, 4)) (hok : am_okA q pc e = true) (hp : am_d20 pc e lv st h = some (.inl (pc', lv', st', h')))
    (hrc : cells + (h'.1 - h.1) ≤ R.cells) (hrs : slots + (h'.2.1 - h.2.1) ≤ R.slots)
    (kk : ∀ (H' : Heap), lv' = lv → am_At D cy b0 base s h' H' locs → W p l en R s m args below meth c H' locs (cells + (h'.1 - h.1)) (slots + (h'.2.1 - h.2.1)) Q (F0 m pc' ls (am_sm (am_t b0 base) st'))) : W p l en R s m args below meth c H locs cells slots Q (F0 m pc ls (am_sm (am_t b0 base) st)) := sorry
end AMWM
