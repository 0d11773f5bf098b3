/-! MEAN VALUES ASKED FOR: the class -/
/-- the percentage by which the present sky is clear -/
def pcn (a : Nat → Int32) (P : Nat) : Int32 := if P = 0 then a 7 else if a (87 + (P - 1)) = 1 then a 8 else if a (87 + (P - 1)) = 2 then a 9 else odF a P / (10000 : Int32)
theorem pcn_rng {S N P : Nat} {a : Nat → Int32} (hR : RowN S N a) : rg 0 100 (pcn a P) := by
  unfold pcn
  by_cases c : P = 0
  · rw [if_pos c]; exact hR.2.2.2.2.2.2.2.2.2.2.2.1
  · rw [if_neg c]
    by_cases c1 : a (87 + (P - 1)) = 1
    · rw [if_pos c1]; exact (p89 hR).1
    · rw [if_neg c1]
      by_cases c2 : a (87 + (P - 1)) = 2
      · rw [if_pos c2]; exact (p89 hR).2
      · rw [if_neg c2]
        have h := od_rng hR P
        unfold rg at h ⊢
        have e : (10000 : Int32).toInt = 10000 := by decide
        rw [Int32.toInt_div, e, Int.tdiv_eq_ediv_of_nonneg h.1, fb_bmod (by omega) (by omega)]
        omega
theorem pcn_m {S N P : Nat} {a : Nat → Int32} (hR : RowN S N a) (hP : a 65 = nI P) (hPS : P ≤ S) : pX9_firstOdds a = some (pcn a P) := by
  have hS := hR.2.1
  unfold pX9_firstOdds pcn
  rw [hP]
  by_cases c : P = 0
  · subst c
    rw [if_neg (show ¬ ¬ nI 0 = 0 from fun h => h rfl), if_pos rfl]
  · have e1 : ((87 : Int32) + nI P) - (1 : Int32) = nI (87 + (P - 1)) := by
      rw [show (87 : Int32) + nI P = nI (87 + P) from adds rfl rfl rfl, dn_sub (by omega), dn_eq (by omega)]
      congr 1
      omega
    rw [if_pos (nI_ne0 (by omega) (by omega)), if_neg (in_ok e1 (by omega : 87 + (P - 1) < 99) (by omega)), clampN e1 (by omega), if_neg c]
    by_cases c1 : a (87 + (P - 1)) = 1
    · rw [if_neg (show ¬ ¬ a (87 + (P - 1)) = 1 from fun h => h c1), if_pos c1]
    · rw [if_pos c1, if_neg c1]
      by_cases c2 : a (87 + (P - 1)) = 2
      · rw [if_neg (show ¬ ¬ a (87 + (P - 1)) = 2 from fun h => h c2), if_pos c2]
      · rw [if_pos c2, if_neg c2, p_oddsOf (by omega), ob_eq rfl]
theorem pcn_c {S N P : Nat} {a pr od ps : Nat → Int32} (hR : RowN S N a) (hPS : P < S) (hpr : Pc a pr) (ho : ∀ t, t < S → od t = odF a t) (hs : ∀ t, t < P → sky3 (a (87 + t))) (hps : ∀ t, t < P → ps t = a (87 + t)) : pX0_percentNow (nI S) pr od (nI P) ps = some (pcn a P) := by
  have hS := hR.2.1
  unfold pX0_percentNow pcn pX5_skyBefore
  by_cases c : P = 0
  · subst c
    rw [if_neg (show ¬ ¬ nI 0 = 0 from fun h => h rfl), if_pos rfl, hpr 0 (by omega)]
  · have e1 : nI P - (1 : Int32) = nI (P - 1) := by rw [dn_sub (by omega), dn_eq (by omega)]
    rw [if_pos (nI_ne0 (by omega) (by omega)), if_neg (nI_nle (by omega) (by omega)), if_neg (in_ok e1 (by omega : P - 1 < 12) (by omega)), clampN e1 (by omega), ob_eq rfl, hps (P - 1) (by omega), if_neg c]
    rcases hs (P - 1) (by omega) with h | h | h
    · rw [h, if_neg (show ¬ ¬ (0 : Int32) = 0 from fun h => h rfl), if_neg (show ¬ (0 : Int32) = 1 by decide), if_neg (show ¬ (0 : Int32) = 2 by decide), c_oddsIn hS ho hPS, ob_eq rfl]
    · rw [h, if_pos (show ¬ (1 : Int32) = 0 by decide), if_neg (show ¬ ¬ (1 : Int32) = 1 from fun h => h rfl), if_pos rfl, hpr 1 (by omega)]
    · rw [h, if_pos (show ¬ (2 : Int32) = 0 by decide), if_pos (show ¬ (2 : Int32) = 1 by decide), if_neg (show ¬ (2 : Int32) = 1 by decide), if_pos rfl, hpr 2 (by omega)]
/-- under the present sky -/
def mnw (a : Nat → Int32) (P : Nat) (x : Int64 × Int64) : Int64 := if a 67 = 0 then mix (pcn a P) x.1 x.2 else if a 67 = 1 then x.1 else x.2
theorem c_meanNow {S N P : Nat} {a pr od ps : Nat → Int32} {x y : Int64} (hR : RowN S N a) (hPS : P < S) (hpr : Pc a pr) (ho : ∀ t, t < S → od t = odF a t) (hs : ∀ t, t < P → sky3 (a (87 + t))) (hps : ∀ t, t < P → ps t = a (87 + t)) : pX0_meanNow x y (nI S) pr od (nI P) (a 67) ps = some (mnw a P (x, y)) := by
  unfold pX0_meanNow mnw pX8_mixed
  by_cases c : a 67 = 0
  · rw [if_neg (show ¬ ¬ a 67 = 0 from fun h => h c), if_pos c, pcn_c hR hPS hpr ho hs hps, ob_eq rfl, ob_eq rfl]
    rfl
  · rw [if_pos c, if_neg c]
    by_cases c1 : a 67 = 1
    · rw [if_neg (show ¬ ¬ a 67 = 1 from fun h => h c1), if_pos c1]
    · rw [if_pos c1, if_neg c1]
theorem RVk_w {S N P s0 : Nat} {a : Nat → Int32} {v : ReS} (h : RVk true a S N P s0 v) (hs : s0 < 4 ^ N) (hP : P ≤ 12) : v.2.2.2.2.2.2.2.1 s0 = wm a N (tx true a N s0) s0 ∧ s0 < v.2.2.2.2.1 := by
  obtain ⟨-, hl, e, st, z, -, h1, h2, h3, h4, h5, h6, h7, h8, h9⟩ := h
  exact ⟨(h9 s0 hs (by omega)).1, by omega⟩
/-- how the rows of the decisions have grown -/
def Gr (vt vt' : ReS) (vq vq' : DeS) (c k : Nat) : Prop := c ≤ 9 ∧ k + 6 * vt.2.2.2.2.1 + 4 * vq.1 + 4 * vq.2.2.2.2.1 ≤ 6 * vt'.2.2.2.2.1 + 4 * vq'.1 + 4 * vq'.2.2.2.2.1 + 6
/-- the state of the class that decisions rest on -/
def CD (a : Nat → Int32) (S N P s0 : Nat) (vt : ReS) (vq : DeS) : Prop := RV true a S N P s0 vt ∧ DV a S N P s0 vt vq
theorem CD_mk {S N P s0 m nb nw : Nat} {a : Nat → Int32} {wT kn sp sz kd ct kq : Int32} {st wt er : Nat → Int32} {bc bd wc wd : Nat → Int64} (h1 : RV true a S N P s0 (wT, kn, sp, sz, m, st, m, wt, m, er)) (h2 : RVk true a S N P s0 (wT, kn, sp, sz, m, st, m, wt, m, er)) (h3 : Len nb) (h4 : Len nw) (h5 : 4 ^ N ≤ nb) (h6 : P < S → At a N P s0 nb (Md a S N (S - (P + 1))) bc bd) : CD a S N P s0 (wT, kn, sp, sz, m, st, m, wt, m, er) (nb, bc, nb, bd, nw, wc, nw, wd, kd, ct, kq) :=
  ⟨h1, h3, rfl, h4, rfl, Or.inr ⟨h2, h5, h6⟩⟩
/-- the best choice and both mean values of the present slot -/
theorem cd_now {S N P s0 m nb : Nat} {a f pr sn wt : Nat → Int32} {bc bd : Nat → Int64} (hi : Sit S N P s0 a) (hPS : P < S) (hu : Nu N a f) (hpr : Pc a pr) (hsn : ∀ t, t < S → sn t = msk (obs a · t) N) (hw : wt s0 = wm a N (tx true a N s0) s0) (hm : s0 < m) (hm9 : m < 60000) (hnb : nb < 60000) (hA : At a N P s0 nb (Md a S N (S - (P + 1))) bc bd) :
    pX0_bestChoice (nI s0) (nI P) (nI S) (nI N) pr f sn m wt nb bc nb bd = some (cI N (dec a S N (S - (P + 1)) s0)) ∧ pX0_bestIfClear (nI s0) (cI N (dec a S N (S - (P + 1)) s0)) pr f nb bc nb bd = some (Md a S N (S - P) s0).1 ∧ pX3_behindCloudy (nI s0) nb bc nb bd pr = some (Md a S N (S - P) s0).2 := by
  have hd : P + (S - (P + 1) + 1) = S := by omega
  have hd2 : S - P = S - (P + 1) + 1 := by omega
  refine ⟨cd_choice hi.1 hu hpr hsn hnb hd hm9 hm hw hA, ?_, ?_⟩
  · rw [hd2]
    exact cd_ifClear hi.1 hu hpr hnb hd (gd_self hi.2.2) hA
  · rw [hd2, cd_cloudy hpr hA.1 hnb, hA.2.1, hA.2.2.1]
    rfl
theorem q_mean {S N P s0 : Nat} {a : Nat → Int32} {vn : NiS} {vg : PrS} {vt : ReS} {vq : DeS} (h : SR S N P s0 a vn vg) (hc : CD a S N P s0 vt vq) : ∃ vt' vq' c k, pX8_meanValue vn vg vt vq = some (if P < S then mnw a P (Md a S N (S - P) s0) else 0, vt', vq', c, k) ∧ CD a S N P s0 vt' vq' ∧ Gr vt vt' vq vq' c k := by
  obtain ⟨hi, hP, hm, hsk, hov, hps, hn, hp⟩ := h
  obtain ⟨n1, n2, n3, n4, n5, n6, n7, n8⟩ := hn
  obtain ⟨p1, p2, p3, p4, p5, p6, p7⟩ := hp
  have hS := hi.1.2.1
  have hs0 := hi.2.2.1
  obtain ⟨kd', ct', kq, kn, sp, sz, m, st, wt, er, nb, bc, bd, nw, wc, wd, c, k, g1, g2, g3, g4, g5, g6, g7, g8, g9, g10⟩ := cd_prepare (kd := 0) (g := 2) (gt := -1) (tg := 0) hi n6 n5 n7 (Or.inl rfl) ⟨Or.inl rfl, by omega, fun h => by revert h; decide⟩ hc.1 hc.2
  obtain ⟨w1, w2⟩ := RVk_w g3 hs0 (by have := hi.2.1; omega)
  have l1 := Len_lt g4
  have l3 : m ≤ 4096 := Len_lt g2.2.1
  refine ⟨(vt.1, kn, sp, sz, m, st, m, wt, m, er), (nb, bc, nb, bd, nw, wc, nw, wd, kd', ct', kq), 0 + (0 + c), 0 + (0 + k), ?_, CD_mk g2 g3 g4 g5 g6 g7, by show _ ≤ 9; omega, by show 0 + (0 + k) + _ + _ + _ ≤ 6 * m + 4 * nb + 4 * nw + 6; omega⟩
  unfold pX8_meanValue pX0_bestMean
  rw [n1, n2, n3, p1, p2, p4, p5, ob_eq g1, d_over (by omega) hi.2.1, ob_eq rfl]
  by_cases hPS : P < S
  · obtain ⟨t1, t2, t3⟩ := cd_now (m := m) hi hPS n6 n5 n7 w1 w2 (by omega) (by omega) (g7 hPS)
    rw [if_pos hPS, if_pos hPS, if_pos rfl, ob_eq t1, ob_eq t2, ob_eq t3, ob_eq (c_meanNow hi.1 hPS n5 n8 hps p7), ob_eq rfl]
  · rw [if_neg hPS, if_neg hPS, if_neg (by decide), ob_eq rfl]
theorem q_choice {S N P s0 : Nat} {a : Nat → Int32} {vn : NiS} {vg : PrS} {vt : ReS} {vq : DeS} (h : SR S N P s0 a vn vg) (hc : CD a S N P s0 vt vq) : ∃ vt' vq' c k, pX8_decision vn vg vt vq = some (if a 67 = 0 then .inr "java/lang/IllegalStateException" else .inl (if a 67 = 1 then cI N (dec a S N (S - (P + 1)) s0) else -1), vt', vq', c, k) ∧ CD a S N P s0 vt' vq' ∧ Gr vt vt' vq vq' c k := by
  obtain ⟨hi, hP, hm, hsk, hov, hps, hn, hp⟩ := h
  obtain ⟨n1, n2, n3, n4, n5, n6, n7, n8⟩ := hn
  obtain ⟨p1, p2, p3, p4, p5, p6, p7⟩ := hp
  have hS := hi.1.2.1
  have hs0 := hi.2.2.1
  unfold pX8_decision pX0_choiceNow
  rw [p2]
  by_cases c0 : a 67 = 0
  · rw [if_neg (show ¬ ¬ a 67 = 0 from fun h => h c0), if_pos c0]
    exact ⟨vt, vq, 1, 6, rfl, hc, by omega, by omega⟩
  · rw [if_pos c0, if_neg c0]
    by_cases c1 : a 67 = 1
    · have hPS : P < S := by
        have := hi.2.1
        rcases Nat.lt_or_ge P S with h | h
        · exact h
        · exact absurd (hov (by omega)) c0
      obtain ⟨kd', ct', kq, kn, sp, sz, m, st, wt, er, nb, bc, bd, nw, wc, wd, c, k, g1, g2, g3, g4, g5, g6, g7, g8, g9, g10⟩ := cd_prepare (kd := 0) (g := 2) (gt := -1) (tg := 0) hi n6 n5 n7 (Or.inl rfl) ⟨Or.inl rfl, by omega, fun h => by revert h; decide⟩ hc.1 hc.2
      obtain ⟨w1, w2⟩ := RVk_w g3 hs0 (by omega)
      have l1 := Len_lt g4
      have l3 : m ≤ 4096 := Len_lt g2.2.1
      obtain ⟨t1, t2, t3⟩ := cd_now (m := m) hi hPS n6 n5 n7 w1 w2 (by omega) (by omega) (g7 hPS)
      refine ⟨(vt.1, kn, sp, sz, m, st, m, wt, m, er), (nb, bc, nb, bd, nw, wc, nw, wd, kd', ct', kq), 0 + (0 + c), 0 + (0 + k), ?_, CD_mk g2 g3 g4 g5 g6 g7, by show _ ≤ 9; omega, by show 0 + (0 + k) + _ + _ + _ ≤ 6 * m + 4 * nb + 4 * nw + 6; omega⟩
      rw [if_neg (show ¬ ¬ a 67 = 1 from fun h => h c1), if_pos c1, n1, n2, n3, p1, p4, p5, ob_eq g1, ob_eq t1, ob_eq rfl]
    · rw [if_pos c1, if_neg c1]
      exact ⟨vt, vq, 0, 0, rfl, hc, by omega, by omega⟩
theorem q_worth {S N P s0 : Nat} {a : Nat → Int32} {vn : NiS} {vg : PrS} {vt : ReS} {vq : DeS} (h : SR S N P s0 a vn vg) (hc : CD a S N P s0 vt vq) : ∃ vt' vq' c k, pX8_worthOfClear vn vg vt vq = some (if P < S then .inl ((Md a S N (S - P) s0).1 - (Md a S N (S - P) s0).2) else .inr "java/lang/IllegalStateException", vt', vq', c, k) ∧ CD a S N P s0 vt' vq' ∧ Gr vt vt' vq vq' c k := by
  obtain ⟨hi, hP, hm, hsk, hov, hps, hn, hp⟩ := h
  obtain ⟨n1, n2, n3, n4, n5, n6, n7, n8⟩ := hn
  obtain ⟨p1, p2, p3, p4, p5, p6, p7⟩ := hp
  have hS := hi.1.2.1
  have hs0 := hi.2.2.1
  unfold pX8_worthOfClear pX0_clearOverCloudy
  rw [c_over (by omega) n1 p1 hi.2.1, ob_eq rfl]
  by_cases hPS : P < S
  · obtain ⟨kd', ct', kq, kn, sp, sz, m, st, wt, er, nb, bc, bd, nw, wc, wd, c, k, g1, g2, g3, g4, g5, g6, g7, g8, g9, g10⟩ := cd_prepare (kd := 0) (g := 2) (gt := -1) (tg := 0) hi n6 n5 n7 (Or.inl rfl) ⟨Or.inl rfl, by omega, fun h => by revert h; decide⟩ hc.1 hc.2
    obtain ⟨w1, w2⟩ := RVk_w g3 hs0 (by omega)
    have l1 := Len_lt g4
    have l3 : m ≤ 4096 := Len_lt g2.2.1
    obtain ⟨t1, t2, t3⟩ := cd_now (m := m) hi hPS n6 n5 n7 w1 w2 (by omega) (by omega) (g7 hPS)
    refine ⟨(vt.1, kn, sp, sz, m, st, m, wt, m, er), (nb, bc, nb, bd, nw, wc, nw, wd, kd', ct', kq), 0 + (0 + c), 0 + (0 + k), ?_, CD_mk g2 g3 g4 g5 g6 g7, by show _ ≤ 9; omega, by show 0 + (0 + k) + _ + _ + _ ≤ 6 * m + 4 * nb + 4 * nw + 6; omega⟩
    rw [if_pos hPS, if_pos hPS, if_pos rfl, n1, n2, n3, p1, p4, p5, ob_eq g1, ob_eq t1, ob_eq t2, ob_eq t3, ob_eq rfl]
  · rw [if_neg hPS, if_neg hPS, if_neg (by decide)]
    exact ⟨vt, vq, 1, 6, rfl, hc, by omega, by omega⟩
theorem q_valueOf {S N P s0 j : Nat} {a : Nat → Int32} {vn : NiS} {vg : PrS} {vt : ReS} {vq : DeS} (h : SR S N P s0 a vn vg) (hc : CD a S N P s0 vt vq) (hj : j < N) : ∃ vt' vq' c k, pX8_meanValueOf (nI j) vn vg vt vq = some (if can a N P s0 j then .inl (vE a (Md a S N (S - (P + 1))) s0 j) else .inr "java/lang/IllegalStateException", vt', vq', c, k) ∧ CD a S N P s0 vt' vq' ∧ Gr vt vt' vq vq' c k := by
  have hcn := c_canNow h hj
  obtain ⟨hi, hP, hm, hsk, hov, hps, hn, hp⟩ := h
  obtain ⟨n1, n2, n3, n4, n5, n6, n7, n8⟩ := hn
  obtain ⟨p1, p2, p3, p4, p5, p6, p7⟩ := hp
  have hS := hi.1.2.1
  have hN := hi.1.2.2.1
  have hs0 := hi.2.2.1
  unfold pX8_meanValueOf
  rw [c_tg_yes (by omega) n2 hj, ob_eq rfl]
  dsimp only
  rw [hcn]
  cases hcan : can a N P s0 j with
  | false =>
    exact ⟨vt, vq, (0 + 0) + 1, (0 + 0) + 6, rfl, hc, by omega, by omega⟩
  | true =>
    unfold can at hcan
    rw [Bool.and_eq_true, decide_eq_true_eq] at hcan
    have hPS : P < S := by
      have := hi.2.1
      rcases Nat.lt_or_ge P S with h | h
      · exact h
      · have := hov (by omega)
        rw [hcan.1] at this
        exact absurd this (by decide)
    obtain ⟨kd', ct', kq, kn, sp, sz, m, st, wt, er, nb, bc, bd, nw, wc, wd, c, k, g1, g2, g3, g4, g5, g6, g7, g8, g9, g10⟩ := cd_prepare (kd := 0) (g := 2) (gt := -1) (tg := 0) hi n6 n5 n7 (Or.inl rfl) ⟨Or.inl rfl, by omega, fun h => by revert h; decide⟩ hc.1 hc.2
    have l1 := Len_lt g4
    have hv := cd_valueOf hi.1 n6 n5 (show nb < 60000 by omega) (g7 hPS) hj hcan.2
    refine ⟨(vt.1, kn, sp, sz, m, st, m, wt, m, er), (nb, bc, nb, bd, nw, wc, nw, wd, kd', ct', kq), ((0 + 0) + 0) + (0 + c), ((0 + 0) + 0) + (0 + k), ?_, CD_mk g2 g3 g4 g5 g6 g7, by show _ ≤ 9; omega, by show ((0 + 0) + 0) + (0 + k) + _ + _ + _ ≤ 6 * m + 4 * nb + 4 * nw + 6; omega⟩
    show ob (pX0_valueNow _ _ _ _ _ _ _ _ _ _ _ _ _ _ _ _ _ _ _ _ _ _ _ _ _ _ _ _ _ _ _) _ = _
    unfold pX0_valueNow
    rw [n1, n2, n3, p1, p4, p5, ob_eq g1, ob_eq hv, ob_eq rfl]
    rfl
/-- what decisions gain of another kind -/
def gV (a : Nat → Int32) (S N P s0 : Nat) (g gt : Int32) (tg : Nat) : Int64 := if P < S then mnw a P (Gv a S N g gt tg (S - P) s0) else Eg a g tg s0
theorem q_fol {S N P s0 tg : Nat} {a : Nat → Int32} {vn : NiS} {vg : PrS} {vt : ReS} {vq : DeS} {kd g gt : Int32} (h : SR S N P s0 a vn vg) (hc : CD a S N P s0 vt vq) (hK : Kq kd g) (hq : Hq N g gt tg) : ∃ kd' ct' kq kn sp sz m st wt er nb bc bd nw wc wd c k, pX0_followedMean kd gt vq.2.2.2.2.2.2.2.2.1 vq.2.2.2.2.2.2.2.2.2.1 vq.2.2.2.2.2.2.2.2.2.2 vn.1 vn.2.1 vn.2.2.1 vn.2.2.2.2.1 vn.2.2.2.2.2.1 vn.2.2.2.2.2.2.1 vn.2.2.2.2.2.2.2 vg.1 vg.2.1 vg.2.2.2.1 vg.2.2.2.2.1 vg.2.2.2.2.2.2 vt.1 vt.2.1 vt.2.2.1 vt.2.2.2.1 vt.2.2.2.2.1 vt.2.2.2.2.2.1 vt.2.2.2.2.2.2.1 vt.2.2.2.2.2.2.2.1 vt.2.2.2.2.2.2.2.2.1 vt.2.2.2.2.2.2.2.2.2 vq.1 vq.2.1 vq.2.2.1 vq.2.2.2.1 vq.2.2.2.2.1 vq.2.2.2.2.2.1 vq.2.2.2.2.2.2.1 vq.2.2.2.2.2.2.2.1 = some (gV a S N P s0 g gt tg, kd', ct', kq, kn, sp, sz, m, st, m, wt, m, er, nb, bc, nb, bd, nw, wc, nw, wd, c, k) ∧
    CD a S N P s0 (vt.1, kn, sp, sz, m, st, m, wt, m, er) (nb, bc, nb, bd, nw, wc, nw, wd, kd', ct', kq) ∧ c ≤ 7 ∧ k + 6 * vt.2.2.2.2.1 + 4 * vq.1 + 4 * vq.2.2.2.2.1 ≤ 6 * m + 4 * nb + 4 * nw := by
  obtain ⟨hi, hP, hm, hsk, hov, hps, hn, hp⟩ := h
  obtain ⟨n1, n2, n3, n4, n5, n6, n7, n8⟩ := hn
  obtain ⟨p1, p2, p3, p4, p5, p6, p7⟩ := hp
  have hS := hi.1.2.1
  have hs0 := hi.2.2.1
  obtain ⟨kd', ct', kq, kn, sp, sz, m, st, wt, er, nb, bc, bd, nw, wc, wd, c, k, g1, g2, g3, g4, g5, g6, g7, g8, g9, g10⟩ := cd_prepare (kd := kd) (g := g) (gt := gt) (tg := tg) hi n6 n5 n7 (Or.inr hK) hq hc.1 hc.2
  have hk0 : ¬ kd = 0 := fun e => by
    rcases hK with ⟨h, -⟩ | ⟨h, -⟩ | ⟨h, -⟩
    · rw [h] at e; exact absurd e (by decide)
    · rw [h] at e; exact absurd e (by decide)
    · rw [h] at e; exact absurd e (by decide)
  obtain ⟨e1, e2, e3⟩ := g8 hk0
  subst e1 e2
  obtain ⟨w1, w2⟩ := RVk_w g3 hs0 (by have := hi.2.1; omega)
  have l1 := Len_lt g4
  have l2 := Len_lt g5
  have l3 : m ≤ 4096 := Len_lt g2.2.1
  refine ⟨kd', ct', kq, kn, sp, sz, m, st, wt, er, nb, bc, bd, nw, wc, wd, 0 + c, 0 + k, ?_, CD_mk g2 g3 g4 g5 g6 g7, by omega, by omega⟩
  unfold pX0_followedMean gV
  rw [n1, n2, n3, p1, p2, p4, p5, ob_eq g1, d_over (by omega) hi.2.1, ob_eq rfl]
  by_cases hPS : P < S
  · have hd : P + (S - (P + 1) + 1) = S := by omega
    have hd2 : S - P = S - (P + 1) + 1 := by omega
    obtain ⟨t1, t2, t3⟩ := cd_now (m := m) hi hPS n6 n5 n7 w1 w2 (by omega) (by omega) (g7 hPS)
    have hf := cd_followed (l := m) hi.1 n6 n5 n7 (show nw < 60000 by omega) hd (by omega) (show s0 < m from w2) w1 (gd_self hi.2.2) hK (e3 hPS)
    have hcl := cd_cloudy (bc := wc) (bd := wd) n5 (e3 hPS).1 (show nw < 60000 by omega)
    rw [(e3 hPS).2.1, (e3 hPS).2.2.1] at hcl
    rw [if_pos hPS, if_pos hPS, if_pos rfl, ob_eq t1, ob_eq hf, ob_eq hcl, ob_eq (c_meanNow hi.1 hPS n5 n8 hps p7), hd2]
    rfl
  · rw [if_neg hPS, if_neg hPS, if_neg (by decide), ob_eq (cd_atEnd hi.1 n6 hK hq (gd_self hi.2.2))]
