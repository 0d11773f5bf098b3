/-! STEPS WITH THEIR COUNTS FROM NOUGHT: sums of counts are not compared step by step -/
theorem Rn.goa {body : op_B} {pc' : Nat} {lv' : List (Nat × Value)} {st' : List Value} {es' : List va_E} {r : op_O} {c s dc ds : Nat} (k : Nat) : ∀ {pc : Nat} {lv : List (Nat × Value)} {st : List Value} {es : List va_E} {a b : Nat}, stp body k (pc, lv, st, es, a, b) = some (pc', lv', st', es', dc, ds) → Rn body pc' lv' st' es' (c + dc) (s + ds) r → Rn body pc lv st es (c + a) (s + b) r := by
  induction k with
  | zero =>
    intro pc lv st es a b h hk
    cases h
    exact hk
  | succ k ih =>
    intro pc lv st es a b h hk
    unfold stp at h
    split at h
    · rename_i f hb
      split at h
      · rename_i hf
        have q := ih h hk
        rw [← Nat.add_assoc, ← Nat.add_assoc] at q
        exact Rn.sp hb hf q
      · cases h
    · cases h
theorem Rn.goz {body : op_B} {pc pc' : Nat} {lv lv' : List (Nat × Value)} {st st' : List Value} {es es' : List va_E} {r : op_O} {c s dc ds : Nat} (k : Nat) (h : stp body k (pc, lv, st, es, 0, 0) = some (pc', lv', st', es', dc, ds)) (hk : Rn body pc' lv' st' es' (c + dc) (s + ds) r) : Rn body pc lv st es c s r := Rn.goa (c := c) (s := s) k h hk
theorem Rn.go0 {body : op_B} {pc pc' : Nat} {lv lv' : List (Nat × Value)} {st st' : List Value} {es es' : List va_E} {r : op_O} {c s : Nat} (k : Nat) (h : stp body k (pc, lv, st, es, 0, 0) = some (pc', lv', st', es', 0, 0)) (hk : Rn body pc' lv' st' es' c s r) : Rn body pc lv st es c s r := Rn.goa (c := c) (s := s) k h hk
