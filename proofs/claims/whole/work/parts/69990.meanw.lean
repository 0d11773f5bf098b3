/-! MEAN VALUES ASKED FOR: class and reference together -/
def CDG (a : Nat → Int32) (S N P s0 : Nat) (vt : ReS) (vq : DeS) (vt' : ReS) (vq' : DeS) (c k : Nat) : Prop := CD a S N P s0 vt' vq' ∧ Gr vt vt' vq vq' c k
theorem CDG_same {a : Nat → Int32} {S N P s0 : Nat} {vt : ReS} {vq : DeS} (hc : CD a S N P s0 vt vq) {c k : Nat} (h1 : c ≤ 9) (h2 : k ≤ 6) : CDG a S N P s0 vt vq vt vq c k := ⟨hc, h1, by show _ ≤ _ + 6; omega⟩
theorem w_mean {S N P s0 tg : Nat} {a tb it is sn : Nat → Int32} {vn : NiS} {vg : PrS} {vt : ReS} {vq : DeS} {g gt : Int32} {cl cd c1 c2 gc gy c3 c4 : Nat → Int64} (h : SR S N P s0 a vn vg) (hc : CD a S N P s0 vt vq) (hh : Hg g gt tg) : ∃ v vt' vq' c k m, pX8_meanValue vn vg vt vq = some (v, vt', vq', c, k) ∧ pX9_meanValue a tb it is sn cl cd c1 c2 gc gy c3 c4 g gt = some (v, m) ∧ CDG a S N P s0 vt vq vt' vq' c k := by
  obtain ⟨vt', vq', c, k, h1, h2, h3⟩ := q_mean h hc
  obtain ⟨o, h4⟩ := mq_mean (tb := tb) (it := it) (is := is) (sn := sn) (cl := cl) (cd := cd) (c1 := c1) (c2 := c2) (gc := gc) (gy := gy) (c3 := c3) (c4 := c4) h hh
  exact ⟨_, _, _, _, _, _, h1, h4, h2, h3⟩
theorem w_worthC {S N P s0 tg : Nat} {a tb it is sn : Nat → Int32} {vn : NiS} {vg : PrS} {vt : ReS} {vq : DeS} {g gt : Int32} {cl cd c1 c2 gc gy c3 c4 : Nat → Int64} (h : SR S N P s0 a vn vg) (hc : CD a S N P s0 vt vq) (hh : Hg g gt tg) : ∃ o vt' vq' c k v t m, pX8_worthOfClear vn vg vt vq = some (o, vt', vq', c, k) ∧ pX9_worthOfClear a tb it is sn cl cd c1 c2 gc gy c3 c4 g gt = some (v, t, m) ∧ AnsL "java/lang/IllegalStateException" "" o v t ∧ CDG a S N P s0 vt vq vt' vq' c k := by
  obtain ⟨vt', vq', c, k, h1, h2, h3⟩ := q_worth h hc
  obtain ⟨o, h4⟩ := mq_worth (tb := tb) (it := it) (is := is) (sn := sn) (cl := cl) (cd := cd) (c1 := c1) (c2 := c2) (gc := gc) (gy := gy) (c3 := c3) (c4 := c4) h hh
  refine ⟨_, _, _, _, _, _, _, _, h1, h4, ?_, h2, h3⟩
  by_cases c : P < S
  · rw [if_pos c, if_pos c, if_pos c]
    exact AnsL0 _
  · rw [if_neg c, if_neg c, if_neg c]
    exact AnsL1 _
theorem w_decision {S N P s0 tg : Nat} {a tb it is sn : Nat → Int32} {vn : NiS} {vg : PrS} {vt : ReS} {vq : DeS} {g gt : Int32} {cl cd c1 c2 gc gy c3 c4 : Nat → Int64} (h : SR S N P s0 a vn vg) (hc : CD a S N P s0 vt vq) (hh : Hg g gt tg) : ∃ o vt' vq' c k v t m, pX8_decision vn vg vt vq = some (o, vt', vq', c, k) ∧ pX9_decision a tb it is sn cl cd c1 c2 gc gy c3 c4 g gt = some (v, t, m) ∧ Ans "java/lang/IllegalStateException" "" o v t ∧ CDG a S N P s0 vt vq vt' vq' c k := by
  obtain ⟨vt', vq', c, k, h1, h2, h3⟩ := q_choice h hc
  obtain ⟨o, h4⟩ := mq_choice (tb := tb) (it := it) (is := is) (sn := sn) (cl := cl) (cd := cd) (c1 := c1) (c2 := c2) (gc := gc) (gy := gy) (c3 := c3) (c4 := c4) h hh
  refine ⟨_, _, _, _, _, _, _, _, h1, h4, ?_, h2, h3⟩
  by_cases c : a 67 = 0
  · rw [if_pos c, if_pos c, if_pos c]
    exact Ans1 _
  · rw [if_neg c, if_neg c, if_neg c]
    exact Ans0 _
theorem w_meanOf {S N P s0 tg : Nat} {a tb it is sn : Nat → Int32} {vn : NiS} {vg : PrS} {vt : ReS} {vq : DeS} {g gt : Int32} {cl cd c1 c2 gc gy c3 c4 : Nat → Int64} (h : SR S N P s0 a vn vg) (hc : CD a S N P s0 vt vq) (hh : Hg g gt tg) (x : Int32) : ∃ o vt' vq' c k v t m, pX8_meanValueOf x vn vg vt vq = some (o, vt', vq', c, k) ∧ pX9_meanValueOf x a tb it is sn cl cd c1 c2 gc gy c3 c4 g gt = some (v, t, m) ∧ AnsL "java/lang/IndexOutOfBoundsException" "java/lang/IllegalStateException" o v t ∧ CDG a S N P s0 vt vq vt' vq' c k := by
  have hN := h.1.1.2.2.1
  rcases ins N (by omega) x with hx | ⟨j, hj, rfl⟩
  · obtain ⟨o, h4⟩ := mq_valueOf_no (tb := tb) (it := it) (is := is) (sn := sn) (cl := cl) (cd := cd) (c1 := c1) (c2 := c2) (gc := gc) (gy := gy) (c3 := c3) (c4 := c4) (g := g) (gt := gt) h.1.1 hx
    have h1 : pX8_meanValueOf x vn vg vt vq = some (.inr "java/lang/IndexOutOfBoundsException", vt, vq, 0 + 1, 0 + 6) := by
      unfold pX8_meanValueOf
      rw [c_tg_no (by omega) h.2.2.2.2.2.2.1.2.1 hx, ob_eq rfl]
    exact ⟨_, _, _, _, _, _, _, _, h1, h4, AnsL1 _, CDG_same hc (by omega) (by omega)⟩
  · obtain ⟨vt', vq', c, k, h1, h2, h3⟩ := q_valueOf h hc hj
    obtain ⟨o, h4⟩ := mq_valueOf (tb := tb) (it := it) (is := is) (sn := sn) (cl := cl) (cd := cd) (c1 := c1) (c2 := c2) (gc := gc) (gy := gy) (c3 := c3) (c4 := c4) h hh hj
    refine ⟨_, _, _, _, _, _, _, _, h1, h4, ?_, h2, h3⟩
    cases can a N P s0 j with
    | true => exact AnsL0 _
    | false => exact AnsL2 _
theorem w_meanExp {S N P s0 tg : Nat} {a tb it is sn : Nat → Int32} {vn : NiS} {vg : PrS} {vt : ReS} {vq : DeS} {g gt : Int32} {cl cd c1 c2 gc gy c3 c4 : Nat → Int64} (h : SR S N P s0 a vn vg) (hc : CD a S N P s0 vt vq) (hh : Hg g gt tg) (x : Int32) : ∃ o vt' vq' c k v t g' gt' m, pX8_meanExposures x vn vg vt vq = some (o, vt', vq', c, k) ∧ pX9_meanExposures x a tb it is sn cl cd c1 c2 gc gy c3 c4 g gt = some (v, t, g', gt', m) ∧ AnsL "java/lang/IndexOutOfBoundsException" "" o v t ∧ CDG a S N P s0 vt vq vt' vq' c k ∧ ∃ tg', Hg g' gt' tg' := by
  have hN := h.1.1.2.2.1
  unfold pX8_meanExposures pX9_meanExposures
  rcases ins N (by omega) x with hx | ⟨j, hj, rfl⟩
  · rw [c_tg_no (by omega) h.2.2.2.2.2.2.1.2.1 hx, ob_eq rfl, m_tg_no h.1.1 hx, ob_eq rfl, if_pos rfl]
    exact ⟨_, _, _, _, _, _, _, _, _, _, rfl, rfl, AnsL1 _, CDG_same hc (by omega) (by omega), tg, hh⟩
  · have hg2 : Hg 0 (nI j) j := ⟨by omega, fun e => absurd e (by decide)⟩
    obtain ⟨kd', ct', kq, kn, sp, sz, m, st, wt, er, nb, bc, bd, nw, wc, wd, c, k, q1, q2, q3, q4⟩ := q_fol (kd := 1) (g := 0) (gt := nI j) (tg := j) h hc (Or.inl ⟨rfl, rfl⟩) ⟨Or.inr hj, by omega, fun e => absurd e (by decide)⟩
    obtain ⟨o, h4⟩ := mq_gives (tb := tb) (it := it) (is := is) (sn := sn) (cl := cl) (cd := cd) (c1 := c1) (c2 := c2) (gc := gc) (gy := gy) (c3 := c3) (c4 := c4) h hg2
    rw [c_tg_yes (by omega) h.2.2.2.2.2.2.1.2.1 hj, ob_eq rfl, m_tg_yes h.1.1 hj, ob_eq rfl, if_neg (show ¬ (1 : Int32) = 0 by decide), ob_eq h4]
    dsimp only
    rw [ob_eq q1]
    refine ⟨_, _, _, _, _, _, _, _, _, _, rfl, rfl, AnsL0 _, ⟨q2, ?_, ?_⟩, j, hg2⟩
    · show 0 + 0 + c ≤ 9
      omega
    · show 0 + 0 + k + _ + _ + _ ≤ 6 * m + 4 * nb + 4 * nw + 6
      omega
theorem w_finish {S N P s0 tg : Nat} {a tb it is sn : Nat → Int32} {vn : NiS} {vg : PrS} {vt : ReS} {vq : DeS} {g gt : Int32} {cl cd c1 c2 gc gy c3 c4 : Nat → Int64} (h : SR S N P s0 a vn vg) (hc : CD a S N P s0 vt vq) (hh : Hg g gt tg) (x : Int32) : ∃ o vt' vq' c k v t g' gt' m, pX8_finishOdds x vn vg vt vq = some (o, vt', vq', c, k) ∧ pX9_finishOdds x a tb it is sn cl cd c1 c2 gc gy c3 c4 g gt = some (v, t, g', gt', m) ∧ AnsL "java/lang/IndexOutOfBoundsException" "" o v t ∧ CDG a S N P s0 vt vq vt' vq' c k ∧ ∃ tg', Hg g' gt' tg' := by
  have hN := h.1.1.2.2.1
  unfold pX8_finishOdds pX9_finishOdds
  rcases ins N (by omega) x with hx | ⟨j, hj, rfl⟩
  · rw [c_tg_no (by omega) h.2.2.2.2.2.2.1.2.1 hx, ob_eq rfl, m_tg_no h.1.1 hx, ob_eq rfl, if_pos rfl]
    exact ⟨_, _, _, _, _, _, _, _, _, _, rfl, rfl, AnsL1 _, CDG_same hc (by omega) (by omega), tg, hh⟩
  · have hg2 : Hg 1 (nI j) j := ⟨by omega, fun _ => rfl⟩
    obtain ⟨kd', ct', kq, kn, sp, sz, m, st, wt, er, nb, bc, bd, nw, wc, wd, c, k, q1, q2, q3, q4⟩ := q_fol (kd := 2) (g := 1) (gt := nI j) (tg := j) h hc (Or.inr (Or.inl ⟨rfl, rfl⟩)) ⟨Or.inr hj, by omega, fun _ => rfl⟩
    obtain ⟨o, h4⟩ := mq_gives (tb := tb) (it := it) (is := is) (sn := sn) (cl := cl) (cd := cd) (c1 := c1) (c2 := c2) (gc := gc) (gy := gy) (c3 := c3) (c4 := c4) h hg2
    rw [c_tg_yes (by omega) h.2.2.2.2.2.2.1.2.1 hj, ob_eq rfl, m_tg_yes h.1.1 hj, ob_eq rfl, if_neg (show ¬ (1 : Int32) = 0 by decide), ob_eq h4]
    dsimp only
    rw [ob_eq q1]
    refine ⟨_, _, _, _, _, _, _, _, _, _, rfl, rfl, AnsL0 _, ⟨q2, ?_, ?_⟩, j, hg2⟩
    · show 0 + 0 + c ≤ 9
      omega
    · show 0 + 0 + k + _ + _ + _ ≤ 6 * m + 4 * nb + 4 * nw + 6
      omega
theorem w_greedyMean {S N P s0 : Nat} {a tb it is sn : Nat → Int32} {vn : NiS} {vg : PrS} {vt : ReS} {vq : DeS} {cl cd c1 c2 gc gy c3 c4 : Nat → Int64} (h : SR S N P s0 a vn vg) (hc : CD a S N P s0 vt vq) : ∃ v vt' vq' c k g' gt' m, pX8_greedyMean vn vg vt vq = some (v, vt', vq', c, k) ∧ pX9_greedyMean a tb it is sn cl cd c1 c2 gc gy c3 c4 = some (v, g', gt', m) ∧ CDG a S N P s0 vt vq vt' vq' c k ∧ ∃ tg', Hg g' gt' tg' := by
  have hg2 : Hg 2 (-1) 0 := ⟨by omega, fun e => absurd e (by decide)⟩
  obtain ⟨kd', ct', kq, kn, sp, sz, m, st, wt, er, nb, bc, bd, nw, wc, wd, c, k, q1, q2, q3, q4⟩ := q_fol (kd := 3) (g := 2) (gt := -1) (tg := 0) h hc (Or.inr (Or.inr ⟨rfl, rfl⟩)) ⟨Or.inl rfl, by omega, fun e => absurd e (by decide)⟩
  obtain ⟨o, h4⟩ := mq_gives (tb := tb) (it := it) (is := is) (sn := sn) (cl := cl) (cd := cd) (c1 := c1) (c2 := c2) (gc := gc) (gy := gy) (c3 := c3) (c4 := c4) h hg2
  unfold pX8_greedyMean pX9_greedyMean
  rw [ob_eq q1, ob_eq h4]
  refine ⟨_, _, _, _, _, _, _, _, rfl, rfl, ⟨q2, ?_, ?_⟩, 0, hg2⟩
  · show 0 + c ≤ 9
    omega
  · show 0 + k + _ + _ + _ ≤ 6 * m + 4 * nb + 4 * nw + 6
    omega
