/-! MEAN VALUES ASKED FOR: the reference -/
theorem mq_mean {S N P s0 tg : Nat} {a tb it is sn : Nat → Int32} {vn : NiS} {vg : PrS} {g gt : Int32} {cl cd c1 c2 gc gy c3 c4 : Nat → Int64} (h : SR S N P s0 a vn vg) (hh : Hg g gt tg) : ∃ o, pX9_meanValue a tb it is sn cl cd c1 c2 gc gy c3 c4 g gt = some (if P < S then mnw a P (Md a S N (S - P) s0) else 0, o) := by
  obtain ⟨hi, hP, hm, hsk, -⟩ := h
  have hN := hi.1.2.2.1
  have hp := pow_le6 hN
  have hs0 := hi.2.2.1
  unfold pX9_meanValue
  rw [m_over hi.1 hP hi.2.1, ob_eq rfl]
  by_cases hPS : P < S
  · obtain ⟨tb', it', is', sn', e1, e2, e3, e4, e5, e6, e7, e8, q1, q2, q3, q4⟩ := m_laysMeans (tb := tb) (it := it) (is := is) (sn := sn) (cl := cl) (cd := cd) (c1 := c1) (c2 := c2) (gc := gc) (gy := gy) (c3 := c3) (c4 := c4) hi hP hPS hm hh
    have hd : P + (S - (P + 1) + 1) = S := by omega
    have hd2 : S - P = S - (P + 1) + 1 := by omega
    rw [if_pos hPS, if_pos hPS, if_pos rfl, ob_eq q1, ob_eq (m_stateNow hm (by omega)), hP, ob_eq (m_clearIn hi.1 q2 q3 hd (gd_self hi.2.2)), ob_eq (m_behind0 hi.1 q3 hd (gd_self hi.2.2)), hd2]
    unfold mnw
    by_cases c : a 67 = 0
    · rw [if_pos c, if_pos c, ob_eq (pcn_m hi.1 hP hi.2.1), mix_m (pcn_rng hi.1)]
      exact ⟨_, rfl⟩
    · rw [if_neg c, if_neg c]
      by_cases c1 : a 67 = 1
      · rw [if_neg (show ¬ ¬ a 67 = 1 from fun h => h c1), if_pos c1]
        exact ⟨_, rfl⟩
      · rw [if_pos c1, if_neg c1]
        exact ⟨_, rfl⟩
  · rw [if_neg hPS, if_neg hPS, if_neg (by decide)]
    exact ⟨_, rfl⟩
theorem mq_choice {S N P s0 tg : Nat} {a tb it is sn : Nat → Int32} {vn : NiS} {vg : PrS} {g gt : Int32} {cl cd c1 c2 gc gy c3 c4 : Nat → Int64} (h : SR S N P s0 a vn vg) (hh : Hg g gt tg) : ∃ o, pX9_decision a tb it is sn cl cd c1 c2 gc gy c3 c4 g gt = some (if a 67 = 0 then 0 else if a 67 = 1 then cI N (dec a S N (S - (P + 1)) s0) else -1, if a 67 = 0 then 1 else 0, o) := by
  obtain ⟨hi, hP, hm, hsk, hov, -⟩ := h
  have hN := hi.1.2.2.1
  have hp := pow_le6 hN
  have hs0 := hi.2.2.1
  unfold pX9_decision
  by_cases c0 : a 67 = 0
  · rw [if_neg (show ¬ ¬ a 67 = 0 from fun h => h c0), if_pos c0, if_pos c0]
    exact ⟨_, rfl⟩
  · rw [if_pos c0, if_neg c0, if_neg c0]
    rcases hsk with h | h | h
    · exact absurd h c0
    · have hPS : P < S := by
        have := hi.2.1
        rcases Nat.lt_or_ge P S with h | h
        · exact h
        · exact absurd (hov (by omega)) c0
      obtain ⟨tb', it', is', sn', e1, e2, e3, e4, e5, e6, e7, e8, q1, q2, q3, q4⟩ := m_laysMeans (tb := tb) (it := it) (is := is) (sn := sn) (cl := cl) (cd := cd) (c1 := c1) (c2 := c2) (gc := gc) (gy := gy) (c3 := c3) (c4 := c4) hi hP hPS hm hh
      have hd : P + (S - (P + 1) + 1) = S := by omega
      rw [if_pos (show ¬ a 67 = 2 by rw [h]; decide), if_pos h, ob_eq q1, ob_eq (m_stateNow hm (by omega)), hP, ob_eq (m_decisionAt hi.1 q2 q3 hd (gd_self hi.2.2))]
      exact ⟨_, rfl⟩
    · rw [if_neg (show ¬ ¬ a 67 = 2 from fun q => q h), if_neg (show ¬ a 67 = 1 by rw [h]; decide)]
      exact ⟨_, rfl⟩
theorem mq_worth {S N P s0 tg : Nat} {a tb it is sn : Nat → Int32} {vn : NiS} {vg : PrS} {g gt : Int32} {cl cd c1 c2 gc gy c3 c4 : Nat → Int64} (h : SR S N P s0 a vn vg) (hh : Hg g gt tg) : ∃ o, pX9_worthOfClear a tb it is sn cl cd c1 c2 gc gy c3 c4 g gt = some (if P < S then (Md a S N (S - P) s0).1 - (Md a S N (S - P) s0).2 else 0, if P < S then 0 else 1, o) := by
  obtain ⟨hi, hP, hm, hsk, -⟩ := h
  have hN := hi.1.2.2.1
  have hp := pow_le6 hN
  have hs0 := hi.2.2.1
  unfold pX9_worthOfClear
  rw [m_over hi.1 hP hi.2.1, ob_eq rfl]
  by_cases hPS : P < S
  · obtain ⟨tb', it', is', sn', e1, e2, e3, e4, e5, e6, e7, e8, q1, q2, q3, q4⟩ := m_laysMeans (tb := tb) (it := it) (is := is) (sn := sn) (cl := cl) (cd := cd) (c1 := c1) (c2 := c2) (gc := gc) (gy := gy) (c3 := c3) (c4 := c4) hi hP hPS hm hh
    have hd : P + (S - (P + 1) + 1) = S := by omega
    have hd2 : S - P = S - (P + 1) + 1 := by omega
    rw [if_pos hPS, if_pos hPS, if_pos rfl, ob_eq q1, ob_eq (m_stateNow hm (by omega)), hP, ob_eq (m_clearIn hi.1 q2 q3 hd (gd_self hi.2.2)), ob_eq (m_stateNow hm (by omega)), ob_eq (m_behind0 hi.1 q3 hd (gd_self hi.2.2)), hd2]
    exact ⟨_, rfl⟩
  · rw [if_neg hPS, if_neg hPS, if_neg (by decide)]
    exact ⟨_, rfl⟩
theorem mq_valueOf {S N P s0 j tg : Nat} {a tb it is sn : Nat → Int32} {vn : NiS} {vg : PrS} {g gt : Int32} {cl cd c1 c2 gc gy c3 c4 : Nat → Int64} (h : SR S N P s0 a vn vg) (hh : Hg g gt tg) (hj : j < N) : ∃ o, pX9_meanValueOf (nI j) a tb it is sn cl cd c1 c2 gc gy c3 c4 g gt = some (if can a N P s0 j then vE a (Md a S N (S - (P + 1))) s0 j else 0, if can a N P s0 j then 0 else 2, o) := by
  obtain ⟨hi, hP, hm, hsk, hov, -⟩ := h
  have hN := hi.1.2.2.1
  have hp := pow_le6 hN
  have hs0 := hi.2.2.1
  obtain ⟨tb1, hr⟩ := m_refusal (tb := tb) hi hP hm hj
  unfold pX9_meanValueOf
  rw [ob_eq hr]
  cases hcan : can a N P s0 j with
  | false =>
    rw [if_neg (show ¬ ((if false = true then (0 : Int32) else 2), tb1).1 ≤ 0 from (by decide : ¬ (2 : Int32) ≤ 0))]
    exact ⟨_, rfl⟩
  | true =>
    unfold can at hcan
    rw [Bool.and_eq_true, decide_eq_true_eq] at hcan
    have hPS : P < S := by
      have := hi.2.1
      rcases Nat.lt_or_ge P S with h | h
      · exact h
      · have := hov (by omega)
        rw [hcan.1] at this
        exact absurd this (by decide)
    obtain ⟨tb', it', is', sn', e1, e2, e3, e4, e5, e6, e7, e8, q1, q2, q3, q4⟩ := m_laysMeans (tb := tb1) (it := it) (is := is) (sn := sn) (cl := cl) (cd := cd) (c1 := c1) (c2 := c2) (gc := gc) (gy := gy) (c3 := c3) (c4 := c4) hi hP hPS hm hh
    have hd : P + (S - (P + 1) + 1) = S := by omega
    rw [if_pos (show ((if true = true then (0 : Int32) else 2), tb1).1 ≤ 0 from (by decide : (0 : Int32) ≤ 0)), ob_eq q1, ob_eq (m_stateNow hm (by omega)), hP, ob_eq (m_withExp hi.1 q3 hd hj (pos_step hi.1 hj (gd_self hi.2.2) hcan.2))]
    exact ⟨_, rfl⟩
theorem mq_valueOf_no {S N : Nat} {a tb it is sn : Nat → Int32} {x g gt : Int32} {cl cd c1 c2 gc gy c3 c4 : Nat → Int64} (hR : RowN S N a) (h : Out N x) : ∃ o, pX9_meanValueOf x a tb it is sn cl cd c1 c2 gc gy c3 c4 g gt = some (0, 1, o) := by
  unfold pX9_meanValueOf
  rw [ob_eq (m_refusal_no hR h), if_neg (show ¬ ((1 : Int32), tb).1 ≤ 0 from (by decide : ¬ (1 : Int32) ≤ 0))]
  exact ⟨_, rfl⟩
theorem mq_gives {S N P s0 tg : Nat} {a tb it is sn : Nat → Int32} {vn : NiS} {vg : PrS} {g gt : Int32} {cl cd c1 c2 gc gy c3 c4 : Nat → Int64} (h : SR S N P s0 a vn vg) (hh : Hg g gt tg) : ∃ o, pX9_gives g gt a tb it is sn cl cd c1 c2 gc gy c3 c4 = some (gV a S N P s0 g gt tg, g, gt, o) := by
  obtain ⟨hi, hP, hm, hsk, -⟩ := h
  have hN := hi.1.2.2.1
  have hp := pow_le6 hN
  have hs0 := hi.2.2.1
  unfold pX9_gives gV
  rw [ob_eq (m_stateNow hm (by omega)), m_over hi.1 hP hi.2.1, ob_eq rfl]
  by_cases hPS : P < S
  · obtain ⟨tb', it', is', sn', e1, e2, e3, e4, e5, e6, e7, e8, q1, q2, q3, q4⟩ := m_laysMeans (tb := tb) (it := it) (is := is) (sn := sn) (cl := cl) (cd := cd) (c1 := c1) (c2 := c2) (gc := gc) (gy := gy) (c3 := c3) (c4 := c4) hi hP hPS hm hh
    have hd : P + (S - (P + 1) + 1) = S := by omega
    have hd2 : S - P = S - (P + 1) + 1 := by omega
    rw [if_pos hPS, if_pos hPS, if_pos rfl, ob_eq q1, hP, ob_eq (m_gclear hi.1 q2 q3 q4 hh hd (gd_self hi.2.2)), ob_eq (m_gbehind0 hi.1 q4 hh hd (gd_self hi.2.2)), hd2]
    unfold mnw
    by_cases c : a 67 = 0
    · rw [if_pos c, if_pos c, ob_eq (pcn_m hi.1 hP hi.2.1), mix_m (pcn_rng hi.1)]
      exact ⟨_, rfl⟩
    · rw [if_neg c, if_neg c]
      by_cases c1 : a 67 = 1
      · rw [if_neg (show ¬ ¬ a 67 = 1 from fun h => h c1), if_pos c1]
        exact ⟨_, rfl⟩
      · rw [if_pos c1, if_neg c1]
        exact ⟨_, rfl⟩
  · rw [if_neg hPS, if_neg hPS, if_neg (by decide), ob_eq (m_atEnd hi.1 (gd_self hi.2.2) hh)]
    exact ⟨_, rfl⟩
