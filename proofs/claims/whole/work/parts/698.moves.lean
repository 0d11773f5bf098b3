/-! THE NIGHT AS IT GOES ON: class and reference -/
/-- the situation of both, with some numbers -/
def St (a : Nat → Int32) (vn : NiS) (vg : PrS) (vt vu : ReS) (vp : PlS) (vq : DeS) : Prop := ∃ S N P s0, SR S N P s0 a vn vg ∧ CA a S N P s0 vt vu vp vq
def After (vn : NiS) (vg : PrS) (hn hs : Int32) (hN : Nat → NiS) (hP : Nat → PrS) (vt vu : ReS) (vp : PlS) (vq : DeS) (a kept : Nat → Int32) (km : Int32) (w c k : Nat) : Prop :=
  HR hn hs hN hP kept km ∧ St a vn vg vt vu vp vq ∧ wg vt vu vp vq = w ∧ c ≤ 1 ∧ k ≤ 6
theorem upd_at (f : Nat → Int32) (i : Nat) (x : Int32) : upd f i x i = x := if_pos rfl
theorem upd_off (f : Nat → Int32) {i j : Nat} (x : Int32) (h : ¬ j = i) : upd f i x j = f j := if_neg h
theorem dg_0 (k : Nat) : dg 0 k = 0 := by unfold dg; rw [Nat.zero_div]
theorem SR_fresh {b : Nat → Int32} {S N : Nat} {vn : NiS} (hR : RowN S N b) (hn : NR S N b vn) (h0 : ∀ i, 65 ≤ i → i < 99 → b i = 0) (f g : Nat → Int32) : SR S N 0 0 b vn ((0 : Int32), (0 : Int32), (0 : Int32), (0 : Int32), (0 : Int32), f, g) := by
  refine ⟨⟨hR, Nat.zero_le _, pow_pos4 N, fun k hk => ?_⟩, h0 65 (by omega) (by omega), fun k hk => ?_, Or.inl (h0 67 (by omega) (by omega)), fun _ => h0 67 (by omega) (by omega), fun t ht => by omega, hn, rfl, (h0 67 (by omega) (by omega)).symm, (h0 66 (by omega) (by omega)).symm, (h0 68 (by omega) (by omega)).symm, rfl, fun t ht => by omega, fun t ht => by omega⟩
  · rw [dg_0]
    exact ⟨Nat.le_refl _, Nat.zero_le _⟩
  · rw [dg_0, h0 (69 + k) (by omega) (by omega)]
    rfl
theorem SR_move {a b : Nat → Int32} {S N P s0 s1 : Nat} {vn : NiS} {vg : PrS} {x : Int32} (hr : SR S N P s0 a vn vg) (hPS : P < S) (h6 : ∀ i, i < 65 → b i = a i) (b65 : b 65 = nI (P + 1)) (b67 : b 67 = 0) (b68 : b 68 = a 68) (hm : ∀ k, k < 6 → b (69 + k) = nI (dg s1 k)) (hg : Gd N a 0 s1)
    (hpa : ∀ t, t < P → b (75 + t) = a (75 + t)) (hpx : b (75 + P) = x) (hsa : ∀ t, t < P → b (87 + t) = a (87 + t)) (hsx : b (87 + P) = a 67) : SR S N (P + 1) s1 b vn (nI (P + 1), (0 : Int32), b 66, a 68, nI s1, upd vg.2.2.2.2.2.1 P x, upd vg.2.2.2.2.2.2 P (a 67)) := by
  obtain ⟨⟨hR, -, -⟩, hP, -, hsk, hov, hps, hn, hp⟩ := hr
  obtain ⟨p1, p2, p3, p4, p5, p6, p7⟩ := hp
  have hN := hR.2.2.1
  refine ⟨⟨RowN_row h6 hR, by omega, Gd_row h6 hN hg⟩, b65, hm, Or.inl b67, fun _ => b67, fun t ht => ?_, NR_row h6 hN hn, rfl, b67.symm, rfl, b68.symm, rfl, fun t ht => ?_, fun t ht => ?_⟩
  · by_cases c : t = P
    · rw [c, hsx]; exact hsk
    · rw [hsa t (by omega)]; exact hps t (by omega)
  · show upd vg.2.2.2.2.2.1 P x t = b (75 + t)
    by_cases c : t = P
    · rw [c, upd_at, hpx]
    · rw [upd_off _ _ c, hpa t (by omega)]; exact p6 t (by omega)
  · show upd vg.2.2.2.2.2.2 P (a 67) t = b (87 + t)
    by_cases c : t = P
    · rw [c, upd_at, hsx]
    · rw [upd_off _ _ c, hsa t (by omega)]; exact p7 t (by omega)
theorem m_goesOn {a : Nat → Int32} {P : Nat} (x : Int32) (hP : a 65 = nI P) (h : P < 12) : pX9_goesOn x a = some (upd (upd (upd (upd a (75 + P) x) (87 + P) (a 67)) 65 (nI (P + 1))) 67 (0 : Int32)) := by
  have e75 : (75 : Int32) + nI P = nI (75 + P) := adds rfl rfl rfl
  have e87 : (87 : Int32) + nI P = nI (87 + P) := adds rfl rfl rfl
  have e1 : upd a (75 + P) x 65 = nI P := by rw [upd_off _ _ (by omega)]; exact hP
  have e2 : upd a (75 + P) x 67 = a 67 := by rw [upd_off _ _ (by omega)]
  have e3 : upd (upd a (75 + P) x) (87 + P) (a 67) 65 = nI P := by rw [upd_off _ _ (by omega)]; exact e1
  unfold pX9_goesOn
  rw [hP, if_neg (in_ok e75 (by omega) (by omega)), clampN e75 (by omega), e1, if_neg (in_ok e87 (by omega) (by omega)), clampN e87 (by omega), e2, e3, nI_1 P]
theorem c_moveOn {P : Nat} (x y : Int32) (f g : Nat → Int32) (h : P < 12) : pX5_moveOn x (nI P) y f g = some (nI (P + 1), upd f P x, upd g P y) := by
  unfold pX5_moveOn
  rw [if_neg (show ¬ (12 : Int32) ≤ nI P from nI_ge (b := 12) h (by omega)), if_neg (in_ok rfl (by omega : P < 12) (by omega)), clampN (x := nI P) rfl (by omega), nI_1 P]
theorem w_pass {a kept : Nat → Int32} {vhn vhs km : Int32} {vhN : Nat → NiS} {vhP : Nat → PrS} {S N P s0 : Nat} {vn : NiS} {vg : PrS} {vt vu : ReS} {vp : PlS} {vq : DeS} (hh : HR vhn vhs vhN vhP kept km) (hr : SR S N P s0 a vn vg) (hc : CA a S N P s0 vt vu vp vq) :
    ∃ o vg' hn hs hN hP vt' vu' vp' vq' c k v t km' a' kept', pX8_pass vn vg vhn vhs vhN vhP vt vu vp vq = some (o, vg', hn, hs, hN, hP, vt', vu', vp', vq', c, k) ∧ pX9_pass a kept km = some (v, km', t, a', kept') ∧ Ans "java/lang/IllegalStateException" "" o v t ∧ After vn vg' hn hs hN hP vt' vu' vp' vq' a' kept' km' (wg vt vu vp vq) c k := by
  have hr' := hr
  obtain ⟨⟨hR, hPS, hg⟩, hP, hm, hsk, hov, hps, hn, hp⟩ := hr
  obtain ⟨p1, p2, p3, p4, p5, p6, p7⟩ := hp
  have hS := hR.2.1
  unfold pX8_pass pX9_pass
  rw [c_over (by omega) hn.1 p1 hPS, ob_eq rfl, m_over hR hP hPS, ob_eq rfl]
  by_cases c : P < S
  · obtain ⟨hn1, hs1, hN1, hP1, km1, kept1, k1, k2, k3⟩ := h_keep hh hr'
    have hgo := m_goesOn (-1 : Int32) hP (show P < 12 by omega)
    rw [if_pos c, if_pos rfl, if_pos rfl, ob_eq k1, p1, p2, ob_eq (c_moveOn _ _ _ _ (by omega)), ob_eq k2, ob_eq hgo]
    generalize hb : upd (upd (upd (upd a (75 + P) (-1 : Int32)) (87 + P) (a 67)) 65 (nI (P + 1))) 67 (0 : Int32) = b
    have bO : ∀ i, ¬ i = 67 → ¬ i = 65 → ¬ i = 87 + P → ¬ i = 75 + P → b i = a i := fun i h1 h2 h3 h4 => by rw [← hb, upd_off _ _ h1, upd_off _ _ h2, upd_off _ _ h3, upd_off _ _ h4]
    have b65 : b 65 = nI (P + 1) := by rw [← hb, upd_off _ _ (by omega), upd_at]
    have b67 : b 67 = 0 := by rw [← hb, upd_at]
    have b75 : b (75 + P) = -1 := by rw [← hb, upd_off _ _ (by omega), upd_off _ _ (by omega), upd_off _ _ (by omega), upd_at]
    have b87 : b (87 + P) = a 67 := by rw [← hb, upd_off _ _ (by omega), upd_off _ _ (by omega), upd_at]
    have hs := SR_move (b := b) (s1 := s0) (x := -1) hr' c (fun i hi => bO i (by omega) (by omega) (by omega) (by omega)) b65 b67 (bO 68 (by omega) (by omega) (by omega) (by omega)) (fun k hk => (bO (69 + k) (by omega) (by omega) (by omega) (by omega)).trans (hm k hk)) hg (fun t ht => bO (75 + t) (by omega) (by omega) (by omega) (by omega)) b75 (fun t ht => bO (87 + t) (by omega) (by omega) (by omega) (by omega)) b87
    rw [bO 66 (by omega) (by omega) (by omega) (by omega), ← p3, ← p4, ← p5] at hs
    refine ⟨_, _, _, _, _, _, fgR vt, fgR vu, fgP vp, fgQ vq, _, _, _, _, _, _, _, rfl, rfl, ?_, k3, ⟨S, N, P + 1, s0, hs, CA_fg hc⟩, rfl, by omega, by omega⟩
    rw [b65]
    exact Ans0 _
  · rw [if_neg c, if_neg (show ¬ (1 : Int32) = 0 by decide), if_neg (show ¬ (1 : Int32) = 0 by decide)]
    exact ⟨_, _, _, _, _, _, _, _, _, _, _, _, _, _, _, _, _, rfl, rfl, Ans1 _, hh, ⟨S, N, P, s0, hr', hc⟩, rfl, by omega, by omega⟩
/-- the sky of the present slot looked at -/
theorem SR_sky {a : Nat → Int32} {S N P s0 : Nat} {vn : NiS} {vg : PrS} {y : Int32} (hr : SR S N P s0 a vn vg) (hPS : P < S) (hy : sky3 y) : SR S N P s0 (upd a 67 y) vn (vg.1, y, vg.2.2.1, vg.2.2.2.1, vg.2.2.2.2.1, vg.2.2.2.2.2.1, vg.2.2.2.2.2.2) := by
  obtain ⟨⟨hR, hPS', hg⟩, hP, hm, hsk, hov, hps, hn, hp⟩ := hr
  obtain ⟨p1, p2, p3, p4, p5, p6, p7⟩ := hp
  have hS := hR.2.1
  have hN := hR.2.2.1
  have h6 : ∀ i, i < 65 → upd a 67 y i = a i := fun i hi => upd_off _ _ (by omega)
  refine ⟨⟨RowN_row h6 hR, hPS', Gd_row h6 hN hg⟩, ?_, fun k hk => ?_, ?_, fun e => by omega, fun t ht => ?_, NR_row h6 hN hn, p1, ?_, ?_, ?_, p5, fun t ht => ?_, fun t ht => ?_⟩
  · rw [upd_off _ _ (by omega)]; exact hP
  · rw [upd_off _ _ (by omega)]; exact hm k hk
  · rw [upd_at]; exact hy
  · rw [upd_off _ _ (by omega)]; exact hps t ht
  · rw [upd_at]
  · rw [upd_off _ _ (by omega)]; exact p3
  · rw [upd_off _ _ (by omega)]; exact p4
  · rw [upd_off _ _ (by omega)]; exact p6 t ht
  · rw [upd_off _ _ (by omega)]; exact p7 t ht
theorem w_look {a kept tb : Nat → Int32} {vhn vhs km : Int32} {vhN : Nat → NiS} {vhP : Nat → PrS} {S N P s0 : Nat} {vn : NiS} {vg : PrS} {vt vu : ReS} {vp : PlS} {vq : DeS} (hh : HR vhn vhs vhN vhP kept km) (hr : SR S N P s0 a vn vg) (hc : CA a S N P s0 vt vu vp vq) (x : Int32) :
    ∃ o vg' hn hs hN hP vt' vu' vp' vq' c k v t km' a' kept' tb', pX8_look x vn vg vhn vhs vhN vhP vt vu vp vq = some (o, vg', hn, hs, hN, hP, vt', vu', vp', vq', c, k) ∧ pX9_look x a kept km tb = some (v, km', t, a', kept', tb') ∧ Ans "java/lang/IllegalStateException" "" o v t ∧ After vn vg' hn hs hN hP vt' vu' vp' vq' a' kept' km' (wg vt vu vp vq) c k := by
  have hr' := hr
  obtain ⟨⟨hR, hPS, hg⟩, hP, hm, hsk, hov, hps, hn, hp⟩ := hr
  obtain ⟨p1, p2, p3, p4, p5, p6, p7⟩ := hp
  have hS := hR.2.1
  unfold pX8_look pX9_look
  rw [c_over (by omega) hn.1 p1 hPS, ob_eq rfl, m_over hR hP hPS, ob_eq rfl]
  by_cases c : P < S
  · rw [if_pos c, if_neg (show ¬ ¬ (0 : Int32) = 0 from fun h => h rfl), if_neg (show ¬ ¬ (0 : Int32) = 0 from fun h => h rfl)]
    by_cases c0 : a 67 = 0
    · obtain ⟨hn1, hs1, hN1, hP1, km1, kept1, k1, k2, k3⟩ := h_keep hh hr'
      rw [if_pos (p2.trans c0), if_pos c0, ob_eq k1, ob_eq k2]
      by_cases cx : x = 0
      · have hs := SR_sky (y := 2) hr' c (Or.inr (Or.inr rfl))
        obtain ⟨tb', q⟩ := m_possible (tb := tb) hs.1 hs.2.1 hs.2.2.1
        rw [if_pos cx, if_pos cx, ob_eq (c_possible hs), ob_eq q]
        exact ⟨_, _, _, _, _, _, fgR vt, fgR vu, fgP vp, fgQ vq, _, _, _, _, _, _, _, _, rfl, rfl, Ans0 _, k3, ⟨S, N, P, s0, hs, CA_fg hc⟩, rfl, by omega, by omega⟩
      · have hs := SR_sky (y := 1) hr' c (Or.inr (Or.inl rfl))
        obtain ⟨tb', q⟩ := m_possible (tb := tb) hs.1 hs.2.1 hs.2.2.1
        rw [if_neg cx, if_neg cx, ob_eq (c_possible hs), ob_eq q]
        exact ⟨_, _, _, _, _, _, fgR vt, fgR vu, fgP vp, fgQ vq, _, _, _, _, _, _, _, _, rfl, rfl, Ans0 _, k3, ⟨S, N, P, s0, hs, CA_fg hc⟩, rfl, by omega, by omega⟩
    · rw [if_neg (fun e => c0 (p2.symm.trans e)), if_neg c0]
      exact ⟨_, _, _, _, _, _, _, _, _, _, _, _, _, _, _, _, _, _, rfl, rfl, Ans1 _, hh, ⟨S, N, P, s0, hr', hc⟩, rfl, by omega, by omega⟩
  · rw [if_neg c, if_pos (show ¬ (1 : Int32) = 0 by decide), if_pos (show ¬ (1 : Int32) = 0 by decide)]
    exact ⟨_, _, _, _, _, _, _, _, _, _, _, _, _, _, _, _, _, _, rfl, rfl, Ans1 _, hh, ⟨S, N, P, s0, hr', hc⟩, rfl, by omega, by omega⟩
theorem w_expose {a kept tb : Nat → Int32} {vhn vhs km : Int32} {vhN : Nat → NiS} {vhP : Nat → PrS} {S N P s0 : Nat} {vn : NiS} {vg : PrS} {vt vu : ReS} {vp : PlS} {vq : DeS} (hh : HR vhn vhs vhN vhP kept km) (hr : SR S N P s0 a vn vg) (hc : CA a S N P s0 vt vu vp vq) (x : Int32) :
    ∃ o vg' hn hs hN hP vt' vu' vp' vq' c k v t km' a' kept' tb', pX8_expose x vn vg vhn vhs vhN vhP vt vu vp vq = some (o, vg', hn, hs, hN, hP, vt', vu', vp', vq', c, k) ∧ pX9_expose x a kept km tb = some (v, km', t, a', kept', tb') ∧ Ans "java/lang/IndexOutOfBoundsException" "java/lang/IllegalStateException" o v t ∧ After vn vg' hn hs hN hP vt' vu' vp' vq' a' kept' km' (wg vt vu vp vq) c k := by
  have hr' := hr
  obtain ⟨⟨hR, hPS, hg⟩, hP, hm, hsk, hov, hps, hn, hp⟩ := hr
  obtain ⟨n1, n2, n3, n4, n5, n6, n7, n8⟩ := hn
  obtain ⟨p1, p2, p3, p4, p5, p6, p7⟩ := hp
  have hS := hR.2.1
  have hN := hR.2.2.1
  unfold pX8_expose pX9_expose
  rcases ins N (by omega) x with hx | ⟨j, hj, rfl⟩
  · rw [c_tg_no (by omega) n2 hx, ob_eq rfl, ob_eq (m_refusal_no hR hx), if_neg (show ¬ ((1 : Int32), tb).1 ≤ 0 from (by decide : ¬ (1 : Int32) ≤ 0))]
    exact ⟨_, _, _, _, _, _, _, _, _, _, _, _, _, _, _, _, _, _, rfl, rfl, Ans1 _, hh, ⟨S, N, P, s0, hr', hc⟩, rfl, by omega, by omega⟩
  · obtain ⟨tb1, hrf⟩ := m_refusal (tb := tb) hr'.1 hP hm hj
    have hcn := c_canNow hr' hj
    rw [c_tg_yes (by omega) n2 hj, ob_eq rfl, ob_eq hrf]
    dsimp only
    rw [hcn]
    cases hcan : can a N P s0 j with
    | false =>
      rw [if_neg (show ¬ false = true by decide), ob_eq rfl, if_neg (show ¬ false = true by decide), if_neg (show ¬ (2 : Int32) ≤ 0 by decide)]
      exact ⟨_, _, _, _, _, _, _, _, _, _, _, _, _, _, _, _, _, _, rfl, rfl, Ans2 _, hh, ⟨S, N, P, s0, hr', hc⟩, rfl, by omega, by omega⟩
    | true =>
      unfold can at hcan
      rw [Bool.and_eq_true, decide_eq_true_eq] at hcan
      have hPS2 : P < S := by
        rcases Nat.lt_or_ge P S with h | h
        · exact h
        · have := hov (by omega)
          rw [hcan.1] at this
          exact absurd this (by decide)
      have hps2 := hcan.2
      unfold psb at hps2
      rw [Bool.and_eq_true, Bool.and_eq_true, decide_eq_true_eq] at hps2
      have hd : dg s0 j < wnt a j := hps2.2.1
      obtain ⟨w1, w2, w3⟩ := wnt_eq hR hj
      obtain ⟨hn1, hs1, hN1, hP1, km1, kept1, k1, k2, k3⟩ := h_keep hh hr'
      have e69 : (69 : Int32) + nI j = nI (69 + j) := adds rfl rfl rfl
      have hof : pX9_ofTarget (nI j) (8 : Int32) (upd a (69 + j) (a (69 + j) + (1 : Int32))) = some (a (11 + 9 * j + 8)) := by
        rw [p_ofTarget (x := 8) (w := 8) rfl (by omega), upd_off _ _ (by omega)]
      rw [if_pos rfl, ob_eq rfl, if_pos rfl, if_pos (show (0 : Int32) ≤ 0 by decide), ob_eq k2, if_neg (in_ok e69 (by omega) (by omega)), clampN e69 (by omega), ob_eq hof]
      dsimp only
      rw [ob_eq k1, c_number n6 hN hj (x := 8) (w := 8) rfl (by omega), ob_eq rfl, p_oneOf (by omega), ob_eq rfl, p1, p2, ob_eq (c_moveOn _ _ _ _ (by omega))]
      rw [show upd a (69 + j) (a (69 + j) + (1 : Int32)) 66 = a 66 from upd_off _ _ (by omega)]
      have hgo := m_goesOn (a := upd (upd a (69 + j) (a (69 + j) + (1 : Int32))) 66 (a 66 + a (11 + 9 * j + 8))) (P := P) (nI j) (by rw [upd_off _ _ (by omega), upd_off _ _ (by omega)]; exact hP) (by omega)
      rw [upd_off _ _ (show ¬ 67 = 66 by omega), upd_off _ _ (show ¬ 67 = 69 + j by omega)] at hgo
      rw [ob_eq hgo]
      generalize hb : upd (upd (upd (upd (upd (upd a (69 + j) (a (69 + j) + (1 : Int32))) 66 (a 66 + a (11 + 9 * j + 8))) (75 + P) (nI j)) (87 + P) (a 67)) 65 (nI (P + 1))) 67 (0 : Int32) = b
      have bO : ∀ i, ¬ i = 67 → ¬ i = 65 → ¬ i = 87 + P → ¬ i = 75 + P → ¬ i = 66 → ¬ i = 69 + j → b i = a i := fun i h1 h2 h3 h4 h5 h6 => by rw [← hb, upd_off _ _ h1, upd_off _ _ h2, upd_off _ _ h3, upd_off _ _ h4, upd_off _ _ h5, upd_off _ _ h6]
      have b65 : b 65 = nI (P + 1) := by rw [← hb, upd_off _ _ (by omega), upd_at]
      have b67 : b 67 = 0 := by rw [← hb, upd_at]
      have b75 : b (75 + P) = nI j := by rw [← hb, upd_off _ _ (by omega), upd_off _ _ (by omega), upd_off _ _ (by omega), upd_at]
      have b87 : b (87 + P) = a 67 := by rw [← hb, upd_off _ _ (by omega), upd_off _ _ (by omega), upd_at]
      have b66 : b 66 = a 66 + a (11 + 9 * j + 8) := by rw [← hb, upd_off _ _ (by omega), upd_off _ _ (by omega), upd_off _ _ (by omega), upd_off _ _ (by omega), upd_at]
      have b69 : b (69 + j) = a (69 + j) + (1 : Int32) := by rw [← hb, upd_off _ _ (by omega), upd_off _ _ (by omega), upd_off _ _ (by omega), upd_off _ _ (by omega), upd_off _ _ (by omega), upd_at]
      have hs := SR_move (b := b) (s1 := s0 + 4 ^ j) (x := nI j) hr' hPS2 (fun i hi => bO i (by omega) (by omega) (by omega) (by omega) (by omega) (by omega)) b65 b67 (bO 68 (by omega) (by omega) (by omega) (by omega) (by omega) (by omega)) (fun k hk => by
        rw [dg_add (by omega)]
        by_cases c : k = j
        · rw [if_pos c, c, b69, hm j (by omega), nI_1]
        · rw [if_neg c, bO (69 + k) (by omega) (by omega) (by omega) (by omega) (by omega) (by omega)]
          exact hm k hk) (gd_step hR hj hg hd) (fun t ht => bO (75 + t) (by omega) (by omega) (by omega) (by omega) (by omega) (by omega)) b75 (fun t ht => bO (87 + t) (by omega) (by omega) (by omega) (by omega) (by omega) (by omega)) b87
      rw [b66, ← p3, ← p4, ← nI_add s0, ← p5] at hs
      refine ⟨_, _, _, _, _, _, fgR vt, fgR vu, fgP vp, fgQ vq, _, _, _, _, _, _, _, _, rfl, rfl, ?_, k3, ⟨S, N, P + 1, s0 + 4 ^ j, hs, CA_fg hc⟩, rfl, by omega, by omega⟩
      rw [b66, p3]
      exact Ans0 _
theorem and_one {x : Int32} {j : Nat} (hj : j < 32) : x &&& ((1 : Int32) <<< (nI j &&& 31)) = 0 ↔ bt x j = false := by
  constructor
  · intro h
    have : bt (x &&& ((1 : Int32) <<< (nI j &&& 31))) j = bt 0 j := by rw [h]
    rw [b_and, bt_one hj hj, b_0, decide_eq_true rfl, Bool.and_true] at this
    exact this
  · intro h
    refine b_ext (fun i hi => ?_)
    rw [b_and, bt_one hj hi, b_0]
    by_cases c : i = j
    · rw [c, h]; rfl
    · rw [decide_eq_false c, Bool.and_false]
theorem SR_waive {a : Nat → Int32} {S N P s0 : Nat} {vn : NiS} {vg : PrS} {y : Int32} (hr : SR S N P s0 a vn vg) : SR S N P s0 (upd a 68 y) vn (vg.1, vg.2.1, vg.2.2.1, y, vg.2.2.2.2.1, vg.2.2.2.2.2.1, vg.2.2.2.2.2.2) := by
  obtain ⟨⟨hR, hPS', hg⟩, hP, hm, hsk, hov, hps, hn, hp⟩ := hr
  obtain ⟨p1, p2, p3, p4, p5, p6, p7⟩ := hp
  have hS := hR.2.1
  have hN := hR.2.2.1
  have h6 : ∀ i, i < 65 → upd a 68 y i = a i := fun i hi => upd_off _ _ (by omega)
  refine ⟨⟨RowN_row h6 hR, hPS', Gd_row h6 hN hg⟩, ?_, fun k hk => ?_, ?_, fun e => ?_, fun t ht => ?_, NR_row h6 hN hn, p1, ?_, ?_, ?_, p5, fun t ht => ?_, fun t ht => ?_⟩
  · rw [upd_off _ _ (by omega)]; exact hP
  · rw [upd_off _ _ (by omega)]; exact hm k hk
  · rw [upd_off _ _ (by omega)]; exact hsk
  · rw [upd_off _ _ (by omega)]; exact hov e
  · rw [upd_off _ _ (by omega)]; exact hps t ht
  · rw [upd_off _ _ (by omega)]; exact p2
  · rw [upd_off _ _ (by omega)]; exact p3
  · rw [upd_at]
  · rw [upd_off _ _ (by omega)]; exact p6 t ht
  · rw [upd_off _ _ (by omega)]; exact p7 t ht
theorem w_waive {a kept tb : Nat → Int32} {vhn vhs km : Int32} {vhN : Nat → NiS} {vhP : Nat → PrS} {S N P s0 : Nat} {vn : NiS} {vg : PrS} {vt vu : ReS} {vp : PlS} {vq : DeS} (hh : HR vhn vhs vhN vhP kept km) (hr : SR S N P s0 a vn vg) (hc : CA a S N P s0 vt vu vp vq) (x : Int32) :
    ∃ o vg' hn hs hN hP vt' vu' vp' vq' c k v t km' a' kept' tb', pX8_waive x vn vg vhn vhs vhN vhP vt vu vp vq = some (o, vg', hn, hs, hN, hP, vt', vu', vp', vq', c, k) ∧ pX9_waive x a kept km tb = some (v, km', t, a', kept', tb') ∧ Ans "java/lang/IndexOutOfBoundsException" "java/lang/IllegalStateException" o v t ∧ After vn vg' hn hs hN hP vt' vu' vp' vq' a' kept' km' (wg vt vu vp vq) c k := by
  have hr' := hr
  obtain ⟨⟨hR, hPS, hg⟩, hP, hm, hsk, hov, hps, hn, hp⟩ := hr
  obtain ⟨n1, n2, n3, n4, n5, n6, n7, n8⟩ := hn
  obtain ⟨p1, p2, p3, p4, p5, p6, p7⟩ := hp
  have hS := hR.2.1
  have hN := hR.2.2.1
  have h46 := pow_le6 hN
  have hs0 := hg.1
  unfold pX8_waive pX9_waive
  rcases ins 4 (by omega) x with hx | ⟨j, hj, rfl⟩
  · rw [c_tm_no hx, ob_eq rfl, m_tm_no hx, ob_eq rfl, if_neg (show ¬ ¬ (0 : Int32) = 0 from fun h => h rfl)]
    exact ⟨_, _, _, _, _, _, _, _, _, _, _, _, _, _, _, _, _, _, rfl, rfl, Ans1 _, hh, ⟨S, N, P, s0, hr', hc⟩, rfl, by omega, by omega⟩
  · have hbit : bt (tmk a N &&& (a 68 ^^^ (-1 : Int32))) j = (bt (tmk a N) j && !bt (a 68) j) := by
      rw [b_and, b_xor, b_m1 j (by omega), Bool.xor_true]
    rw [c_tm_yes hj, ob_eq rfl, m_tm_yes hj, ob_eq rfl, if_pos (show ¬ (1 : Int32) = 0 by decide), p_teams hN hR.2.2.2.2.1, ob_eq rfl]
    dsimp only
    rw [n3, p_has _ (by omega : j < 32), ob_eq rfl, p4, p_has _ (by omega : j < 32)]
    cases h1 : bt (tmk a N) j with
    | false =>
      rw [h1, Bool.false_and] at hbit
      rw [if_pos i0f, if_neg (show ¬ ¬ (tmk a N &&& (a 68 ^^^ (-1 : Int32))) &&& ((1 : Int32) <<< (nI j &&& 31)) = 0 from fun h => h ((and_one (by omega)).mpr hbit))]
      exact ⟨_, _, _, _, _, _, _, _, _, _, _, _, _, _, _, _, _, _, rfl, rfl, Ans2 _, hh, ⟨S, N, P, s0, hr', hc⟩, rfl, by omega, by omega⟩
    | true =>
      rw [h1, Bool.true_and] at hbit
      rw [if_neg i1t, ob_eq rfl]
      cases h2 : bt (a 68) j with
      | true =>
        rw [h2] at hbit
        rw [if_neg i1t, if_neg (show ¬ ¬ (tmk a N &&& (a 68 ^^^ (-1 : Int32))) &&& ((1 : Int32) <<< (nI j &&& 31)) = 0 from fun h => h ((and_one (by omega)).mpr hbit))]
        exact ⟨_, _, _, _, _, _, _, _, _, _, _, _, _, _, _, _, _, _, rfl, rfl, Ans2 _, hh, ⟨S, N, P, s0, hr', hc⟩, rfl, by omega, by omega⟩
      | false =>
        rw [h2] at hbit
        obtain ⟨hn1, hs1, hN1, hP1, km1, kept1, k1, k2, k3⟩ := h_keep hh hr'
        have hs := SR_waive (y := a 68 ||| ((1 : Int32) <<< (nI j &&& 31))) hr'
        obtain ⟨⟨hR2, hPS2, hg2⟩, hP2, hm2, -, -, -, hn2, -⟩ := id hs
        obtain ⟨tb', ht⟩ := m_inTurnBy (b := tb) hR2 (show s0 < 2 ^ 31 by omega)
        have hct := c_teamsInTurn (s := s0) hR2 hn2.2.2.2.2.2.1 (by omega)
        rw [upd_at, ← hn2.2.2.1, n3] at hct
        rw [if_pos i0f, ob_eq k1, if_pos (fun h => by rw [(and_one (by omega)).mp h] at hbit; cases hbit), ob_eq k2, ob_eq (m_stateNow hm2 (by omega)), ob_eq ht, p5, n2, ob_eq hct]
        refine ⟨_, _, _, _, _, _, fgR vt, fgR vu, fgP vp, fgQ vq, _, _, _, _, _, _, _, _, rfl, rfl, Ans0 _, k3, ⟨S, N, P, s0, ?_, CA_fg hc⟩, rfl, by omega, by omega⟩
        rw [← p5]
        exact hs
theorem m_wipe {a : Nat → Int32} : ∀ (fu i : Nat) (b : Nat → Int32), 65 ≤ i → i ≤ 99 → 99 - i < fu → (∀ j, j < 65 → b j = a j) → (∀ j, 65 ≤ j → j < i → b j = 0) → ∃ y b', lpX9_restart_12 fu (nI i) b = some (y, b') ∧ (∀ j, j < 65 → b' j = a j) ∧ ∀ j, 65 ≤ j → j < 99 → b' j = 0
  | 0, _, _, _, _, h, _, _ => by omega
  | fu + 1, i, b, h65, hi, hf, h1, h2 => by
    unfold lpX9_restart_12
    by_cases e : i = 99
    · subst e
      rw [if_pos (show (99 : Int32) ≤ nI 99 by decide)]
      exact ⟨_, b, rfl, h1, h2⟩
    · rw [if_neg (show ¬ (99 : Int32) ≤ nI i from nI_ge (b := 99) (by omega) (by omega)), if_neg (in_ok rfl (by omega : i < 99) (by omega)), clampN (x := nI i) rfl (by omega), nI_1 i]
      refine m_wipe fu (i + 1) _ (by omega) (by omega) (by omega) (fun j hj => ?_) (fun j h3 hj => ?_)
      · rw [upd_off _ _ (by omega)]; exact h1 j hj
      · by_cases c : j = i
        · rw [c, upd_at]
        · rw [upd_off _ _ c]; exact h2 j h3 (by omega)
theorem w_restart {a kept : Nat → Int32} {vhn vhs km : Int32} {vhN : Nat → NiS} {vhP : Nat → PrS} {S N P s0 : Nat} {vn : NiS} {vg : PrS} {vt vu : ReS} {vp : PlS} {vq : DeS} (hh : HR vhn vhs vhN vhP kept km) (hr : SR S N P s0 a vn vg) (hc : CA a S N P s0 vt vu vp vq) :
    ∃ hn hs hN hP km' a' kept', pX8_restart vn vg vhn vhs vhN vhP = some (hn, hs, hN, hP) ∧ pX9_restart a kept km = some (km', a', kept') ∧ After vn ((0 : Int32), (0 : Int32), (0 : Int32), (0 : Int32), (0 : Int32), vg.2.2.2.2.2.1, vg.2.2.2.2.2.2) hn hs hN hP (fgR vt) (fgR vu) (fgP vp) (fgQ vq) a' kept' km' (wg vt vu vp vq) 0 0 := by
  obtain ⟨hn1, hs1, hN1, hP1, km1, kept1, k1, k2, k3⟩ := h_keep hh hr
  obtain ⟨y, b, b1, b2, b3⟩ := m_wipe (a := a) lpF 65 a (by omega) (by omega) (by have := lpF_big; omega) (fun j hj => rfl) (fun j h1 h2 => by omega)
  unfold pX8_restart pX9_restart
  rw [ob_eq k1, ob_eq (show pX5_begin = some () from rfl), ob_eq k2, ob_eq (show lpX9_restart_12 lpF (65 : Int32) a = _ from b1)]
  exact ⟨_, _, _, _, _, _, _, rfl, rfl, k3, ⟨S, N, 0, 0, SR_fresh (RowN_row b2 hr.1.1) (NR_row b2 hr.1.1.2.2.1 hr.2.2.2.2.2.2.1) b3 _ _, CA_fg hc⟩, rfl, by omega, by omega⟩
