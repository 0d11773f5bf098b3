/-! A BRANCH BEHIND WHICH THE LOCALS ARE LAID IN ORDER -/
theorem Rn.brn {body : op_B} {pc pc1 pc2 : Nat} {lv lv1 : List (Nat × Value)} {st rest : List Value} {es : List va_E} {r : op_O} {c s : Nat} {ks : List Nat} {f : op_T} {P : Prop} {inst : Decidable P} (hb : body pc = some (.inl (nrm ks f))) (hf : f lv st es = if P then some (.inl (pc1, lv, rest, es, 0, 0)) else some (.inl (pc2, lv, rest, es, 0, 0))) (hl : nrl ks lv = lv1) (k1 : P → Rn body pc1 lv1 rest es c s r) (k2 : ¬ P → Rn body pc2 lv1 rest es c s r) : Rn body pc lv st es c s r := by
  subst hl
  by_cases h : P
  · have e : nrm ks f lv st es = some (.inl (pc1, nrl ks lv, rest, es, 0, 0)) := by
      unfold nrm
      rw [hf, if_pos h]
    exact Rn.sp hb e (k1 h)
  · have e : nrm ks f lv st es = some (.inl (pc2, nrl ks lv, rest, es, 0, 0)) := by
      unfold nrm
      rw [hf, if_neg h]
    exact Rn.sp hb e (k2 h)
