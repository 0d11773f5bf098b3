/-! SIMPLE QUERIES: class and reference -/
/-- an answer, or a throw, of both -/
def Ans (e1 e2 : String) (o : Int32 ⊕ String) (v t : Int32) : Prop := (o = .inl v ∧ t = 0) ∨ (o = .inr e1 ∧ t = 1) ∨ (¬ e2 = "" ∧ o = .inr e2 ∧ t = 2)
theorem Ans0 {e1 e2 : String} (v : Int32) : Ans e1 e2 (.inl v) v 0 := Or.inl ⟨rfl, rfl⟩
theorem Ans1 {e1 e2 : String} (v : Int32) : Ans e1 e2 (.inr e1) v 1 := Or.inr (Or.inl ⟨rfl, rfl⟩)
theorem Ans2 {e1 e2 : String} (v : Int32) (h : ¬ e2 = "" := by decide +kernel) : Ans e1 e2 (.inr e2) v 2 := Or.inr (Or.inr ⟨h, rfl, rfl⟩)
theorem out_ne {n j : Nat} {x : Int32} (h : Out n x) (hj : j < n) (hn : n < 60000) : ¬ x = nI j := fun e => by
  subst e
  rcases h with h | h
  · exact nI_pos (by omega) h
  · exact nI_ge hj (by omega) h
theorem out_le {n m : Nat} {x : Int32} (h : Out n x) (hm : m ≤ n) (hn : n < 60000) : Out m x := by
  rcases h with h | h
  · exact Or.inl h
  · refine Or.inr ?_
    rw [fa_le] at h ⊢
    rw [nI_toInt (by omega)] at h ⊢
    omega
theorem isIn_no {n : Nat} {x : Int32} {hi : Int64} (hh : hi.toInt = (n : Int) - 1) (hn : n < 60000) (h : Out n x) : pX9_isIn x.toInt64 (0 : Int64) hi = some 0 := by
  rw [isIn_eq, hh, z_toInt, Int32.toInt_toInt64, if_neg (out_int hn h)]
theorem isIn_yes {n j : Nat} {hi : Int64} (hh : hi.toInt = (n : Int) - 1) (hn : n < 60000) (h : j < n) : pX9_isIn (nI j).toInt64 (0 : Int64) hi = some 1 := by
  rw [isIn_eq, hh, z_toInt, Int32.toInt_toInt64, nI_toInt (by omega), if_pos (by omega)]
/-- all exposures -/
def sd (s0 : Nat) : Nat → Nat
  | 0 => 0
  | k + 1 => sd s0 k + dg s0 k
theorem sd_big {s0 N : Nat} (h0 : s0 < 4 ^ N) : ∀ d, sd s0 (N + d) = sd s0 N
  | 0 => rfl
  | d + 1 => by
    show sd s0 (N + d) + dg s0 (N + d) = _
    rw [sd_big h0 d, dg_big h0 (by omega)]
    rfl
theorem c_sdLoop {N s0 : Nat} {vn : NiS} {vg : PrS} (h1 : vn.2.1 = nI N) (h2 : vg.2.2.2.2.1 = nI s0) (hN : N ≤ 6) (hs : s0 < 4096) : ∀ (fu k : Nat), k ≤ N → N - k < fu → lpX8_allMade_4 vn vg fu (nI (sd s0 k)) (nI k) = some (nI (sd s0 N), nI N)
  | 0, _, _, h => by omega
  | fu + 1, k, hk, hf => by
    unfold lpX8_allMade_4
    rw [h1]
    by_cases e : k = N
    · subst e
      rw [if_pos (nI_le (Nat.le_refl _) (by omega))]
    · rw [if_neg (nI_ge (by omega) (by omega)), h2, p_madeOf (by omega) (by omega), ob_eq rfl, nI_add, nI_1 k]
      exact c_sdLoop h1 h2 hN hs fu (k + 1) (by omega) (by omega)
theorem m_sdLoop {s0 : Nat} {a : Nat → Int32} (hm : ∀ k, k < 6 → a (69 + k) = nI (dg s0 k)) : ∀ (fu k : Nat), k ≤ 6 → 6 - k < fu → lpX9_exposuresMade_4 a fu (nI (sd s0 k)) (nI k) = some (nI (sd s0 6), nI 6)
  | 0, _, _, h => by omega
  | fu + 1, k, hk, hf => by
    unfold lpX9_exposuresMade_4
    by_cases e : k = 6
    · subst e
      rw [if_pos (show (6 : Int32) ≤ nI 6 by decide)]
    · have e1 : (69 : Int32) + nI k = nI (69 + k) := adds rfl rfl rfl
      rw [if_neg (show ¬ (6 : Int32) ≤ nI k from nI_ge (b := 6) (by omega) (by omega)), if_neg (in_ok e1 (by omega) (by omega)), clampN e1 (by omega), hm k (by omega), nI_add, nI_1 k]
      exact m_sdLoop hm fu (k + 1) (by omega) (by omega)
theorem s_count {S N P s0 : Nat} {a : Nat → Int32} {vn : NiS} {vg : PrS} (h : SR S N P s0 a vn vg) (x : Int32) : ∃ o c k v t, pX8_count x vn vg = some (o, c, k) ∧ pX9_count x a = some (v, t) ∧ Ans "java/lang/IllegalArgumentException" "" o v t ∧ c ≤ 1 ∧ k ≤ 6 := by
  obtain ⟨⟨hR, hPS, hg⟩, hP, hm, hsk, hov, hps, hn, hp⟩ := h
  obtain ⟨n1, n2, n3, n4, n5, n6, n7, n8⟩ := hn
  obtain ⟨p1, p2, p3, p4, p5, p6, p7⟩ := hp
  have hS := hR.2.1
  have hN := hR.2.2.1
  have h46 := pow_le6 hN
  have hs0 := hg.1
  have e6 : (6 : Int64).toInt = ((7 : Nat) : Int) - 1 := by decide
  unfold pX8_count pX9_count
  rcases ins 7 (by omega) x with hx | ⟨j, hj, rfl⟩
  · rw [if_neg (show ¬ x = (0 : Int32) from out_ne (j := 0) hx (by omega) (by omega)), if_neg (show ¬ x = (1 : Int32) from out_ne (j := 1) hx (by omega) (by omega)), if_neg (show ¬ x = (2 : Int32) from out_ne (j := 2) hx (by omega) (by omega)), if_neg (show ¬ x = (3 : Int32) from out_ne (j := 3) hx (by omega) (by omega)), if_neg (show ¬ x = (4 : Int32) from out_ne (j := 4) hx (by omega) (by omega)), if_neg (show ¬ x = (5 : Int32) from out_ne (j := 5) hx (by omega) (by omega)), if_neg (show ¬ x = (6 : Int32) from out_ne (j := 6) hx (by omega) (by omega)), isIn_no e6 (by omega) hx, ob_eq rfl, if_pos rfl]
    exact ⟨_, _, _, _, _, rfl, rfl, Ans1 _, by omega, by omega⟩
  · rw [isIn_yes e6 (by omega) hj, ob_eq rfl, if_neg (show ¬ (1 : Int32) = 0 by decide)]
    match j, hj with
    | 0, _ =>
      rw [if_pos (show nI 0 = (0 : Int32) by decide), if_pos (show nI 0 = (0 : Int32) by decide), n1, hR.2.2.2.1]
      exact ⟨_, _, _, _, _, rfl, rfl, Ans0 _, by omega, by omega⟩
    | 1, _ =>
      rw [if_neg (show ¬ nI 1 = (0 : Int32) by decide), if_neg (show ¬ nI 1 = (0 : Int32) by decide), if_pos (show nI 1 = (1 : Int32) by decide), if_pos (show nI 1 = (1 : Int32) by decide), n2, hR.2.2.2.2.1]
      exact ⟨_, _, _, _, _, rfl, rfl, Ans0 _, by omega, by omega⟩
    | 2, _ =>
      rw [if_neg (show ¬ nI 2 = (0 : Int32) by decide), if_neg (show ¬ nI 2 = (0 : Int32) by decide), if_neg (show ¬ nI 2 = (1 : Int32) by decide), if_neg (show ¬ nI 2 = (1 : Int32) by decide), if_pos (show nI 2 = (2 : Int32) by decide), if_pos (show nI 2 = (2 : Int32) by decide), n3, p_teams hN hR.2.2.2.2.1, ob_eq rfl]
      exact ⟨_, _, _, _, _, rfl, rfl, Ans0 _, by omega, by omega⟩
    | 3, _ =>
      rw [if_neg (show ¬ nI 3 = (0 : Int32) by decide), if_neg (show ¬ nI 3 = (0 : Int32) by decide), if_neg (show ¬ nI 3 = (1 : Int32) by decide), if_neg (show ¬ nI 3 = (1 : Int32) by decide), if_neg (show ¬ nI 3 = (2 : Int32) by decide), if_neg (show ¬ nI 3 = (2 : Int32) by decide), if_pos (show nI 3 = (3 : Int32) by decide), if_pos (show nI 3 = (3 : Int32) by decide), p1, hP]
      exact ⟨_, _, _, _, _, rfl, rfl, Ans0 _, by omega, by omega⟩
    | 4, _ =>
      rw [if_neg (show ¬ nI 4 = (0 : Int32) by decide), if_neg (show ¬ nI 4 = (0 : Int32) by decide), if_neg (show ¬ nI 4 = (1 : Int32) by decide), if_neg (show ¬ nI 4 = (1 : Int32) by decide), if_neg (show ¬ nI 4 = (2 : Int32) by decide), if_neg (show ¬ nI 4 = (2 : Int32) by decide), if_neg (show ¬ nI 4 = (3 : Int32) by decide), if_neg (show ¬ nI 4 = (3 : Int32) by decide), if_pos (show nI 4 = (4 : Int32) by decide), if_pos (show nI 4 = (4 : Int32) by decide), p3]
      exact ⟨_, _, _, _, _, rfl, rfl, Ans0 _, by omega, by omega⟩
    | 5, _ =>
      rw [if_neg (show ¬ nI 5 = (0 : Int32) by decide), if_neg (show ¬ nI 5 = (0 : Int32) by decide), if_neg (show ¬ nI 5 = (1 : Int32) by decide), if_neg (show ¬ nI 5 = (1 : Int32) by decide), if_neg (show ¬ nI 5 = (2 : Int32) by decide), if_neg (show ¬ nI 5 = (2 : Int32) by decide), if_neg (show ¬ nI 5 = (3 : Int32) by decide), if_neg (show ¬ nI 5 = (3 : Int32) by decide), if_neg (show ¬ nI 5 = (4 : Int32) by decide), if_neg (show ¬ nI 5 = (4 : Int32) by decide), if_pos (show nI 5 = (5 : Int32) by decide), if_pos (show nI 5 = (5 : Int32) by decide), p2]
      exact ⟨_, _, _, _, _, rfl, rfl, Ans0 _, by omega, by omega⟩
    | 6, _ =>
      have hc : pX8_allMade vn vg = some (nI (sd s0 N)) := by
        unfold pX8_allMade
        rw [ob_eq (show lpX8_allMade_4 vn vg lpF (0 : Int32) (0 : Int32) = _ from c_sdLoop n2 p5 hN (by omega) lpF 0 (by omega) (by have := lpF_big; omega))]
      have hd : pX9_exposuresMade a = some (nI (sd s0 N)) := by
        unfold pX9_exposuresMade
        rw [ob_eq (show lpX9_exposuresMade_4 a lpF (0 : Int32) (0 : Int32) = _ from m_sdLoop hm lpF 0 (by omega) (by have := lpF_big; omega))]
        have := sd_big hs0 (6 - N)
        rw [show N + (6 - N) = 6 by omega] at this
        rw [this]
      rw [if_neg (show ¬ nI 6 = (0 : Int32) by decide), if_neg (show ¬ nI 6 = (0 : Int32) by decide), if_neg (show ¬ nI 6 = (1 : Int32) by decide), if_neg (show ¬ nI 6 = (1 : Int32) by decide), if_neg (show ¬ nI 6 = (2 : Int32) by decide), if_neg (show ¬ nI 6 = (2 : Int32) by decide), if_neg (show ¬ nI 6 = (3 : Int32) by decide), if_neg (show ¬ nI 6 = (3 : Int32) by decide), if_neg (show ¬ nI 6 = (4 : Int32) by decide), if_neg (show ¬ nI 6 = (4 : Int32) by decide), if_neg (show ¬ nI 6 = (5 : Int32) by decide), if_neg (show ¬ nI 6 = (5 : Int32) by decide), if_pos (show nI 6 = (6 : Int32) by decide), ob_eq hc, ob_eq hd]
      exact ⟨_, _, _, _, _, rfl, rfl, Ans0 _, by omega, by omega⟩
theorem lacks_tg {S N : Nat} {a : Nat → Int32} {x y : Int32} (hR : RowN S N a) (h : Out N x) : pX9_lacks x y a = some (1, 1) := by
  unfold pX9_lacks
  rw [m_tg_no hR h, ob_eq rfl, if_pos rfl]
theorem lacks_sl {S N j : Nat} {a : Nat → Int32} {y : Int32} (hR : RowN S N a) (hj : j < N) (h : Out S y) : pX9_lacks (nI j) y a = some (1, 1) := by
  unfold pX9_lacks
  rw [m_tg_yes hR hj, ob_eq rfl, if_neg (show ¬ (1 : Int32) = 0 by decide), m_sl_no hR h, ob_eq rfl, if_pos rfl]
theorem lacks_no {S N j t : Nat} {a : Nat → Int32} (hR : RowN S N a) (hj : j < N) (h : t < S) : pX9_lacks (nI j) (nI t) a = some (0, 0) := by
  unfold pX9_lacks
  rw [m_tg_yes hR hj, ob_eq rfl, if_neg (show ¬ (1 : Int32) = 0 by decide), m_sl_yes hR h, ob_eq rfl, if_neg (show ¬ (1 : Int32) = 0 by decide)]
theorem lacks_0 {S N j : Nat} {a : Nat → Int32} (hR : RowN S N a) (hj : j < N) : pX9_lacks (nI j) (0 : Int32) a = some (0, 0) := lacks_no (t := 0) hR hj hR.1
theorem s_height {S N P s0 : Nat} {a : Nat → Int32} {vn : NiS} {vg : PrS} (h : SR S N P s0 a vn vg) (x y : Int32) : ∃ o c k v t, pX8_height x y vn = some (o, c, k) ∧ pX9_height x y a = some (v, t) ∧ Ans "java/lang/IndexOutOfBoundsException" "" o v t ∧ c ≤ 1 ∧ k ≤ 6 := by
  obtain ⟨⟨hR, hPS, hg⟩, hP, hm, hsk, hov, hps, hn, hp⟩ := h
  obtain ⟨n1, n2, n3, n4, n5, n6, n7, n8⟩ := hn
  have hS := hR.2.1
  have hN := hR.2.2.1
  unfold pX8_height pX9_height
  rcases ins N (by omega) x with hx | ⟨j, hj, rfl⟩
  · rw [c_tg_no (by omega) n2 hx, ob_eq rfl, lacks_tg hR hx, ob_eq rfl, if_neg (show ¬ (1 : Int32) = 0 by decide)]
    exact ⟨_, _, _, _, _, rfl, rfl, Ans1 _, by omega, by omega⟩
  · rw [c_tg_yes (by omega) n2 hj, ob_eq rfl]
    dsimp only
    rcases ins S (by omega) y with hy | ⟨t, ht, rfl⟩
    · rw [c_sl_no (by omega) n1 hy, ob_eq rfl, lacks_sl hR hj hy, ob_eq rfl, if_neg (show ¬ (1 : Int32) = 0 by decide)]
      exact ⟨_, _, _, _, _, rfl, rfl, Ans1 _, by omega, by omega⟩
    · rw [c_sl_yes (by omega) n1 ht, ob_eq rfl, lacks_no hR hj ht, ob_eq rfl, if_pos rfl]
      dsimp only
      rw [c_height n6 hN hj, ob_eq rfl, p_heightOf (x := (11 : Int32) + (9 : Int32) * nI j + (1 : Int32)) (p := 11 + 9 * j + 1) (tgi j (w := 1) rfl) (by omega), ob_eq rfl]
      exact ⟨_, _, _, _, _, rfl, rfl, Ans0 _, by omega, by omega⟩
theorem s_moonHeight {S N P s0 : Nat} {a : Nat → Int32} {vn : NiS} {vg : PrS} (h : SR S N P s0 a vn vg) (x : Int32) : ∃ o c k v t, pX8_moonHeight x vn = some (o, c, k) ∧ pX9_moonHeight x a = some (v, t) ∧ Ans "java/lang/IndexOutOfBoundsException" "" o v t ∧ c ≤ 1 ∧ k ≤ 6 := by
  obtain ⟨⟨hR, hPS, hg⟩, hP, hm, hsk, hov, hps, hn, hp⟩ := h
  obtain ⟨n1, n2, n3, n4, n5, n6, n7, n8⟩ := hn
  have hS := hR.2.1
  have hN := hR.2.2.1
  unfold pX8_moonHeight pX9_moonHeight
  rcases ins S (by omega) x with hx | ⟨t, ht, rfl⟩
  · rw [c_sl_no (by omega) n1 hx, ob_eq rfl, m_sl_no hR hx, ob_eq rfl, if_pos rfl]
    exact ⟨_, _, _, _, _, rfl, rfl, Ans1 _, by omega, by omega⟩
  · rw [c_sl_yes (by omega) n1 ht, ob_eq rfl, m_sl_yes hR ht, ob_eq rfl, if_neg (show ¬ (1 : Int32) = 0 by decide)]
    dsimp only
    rw [c_moon n4, ob_eq rfl, p_heightOf (x := (1 : Int32)) (p := 1) rfl (by omega), ob_eq rfl]
    exact ⟨_, _, _, _, _, rfl, rfl, Ans0 _, by omega, by omega⟩
theorem s_moonDistance {S N P s0 : Nat} {a : Nat → Int32} {vn : NiS} {vg : PrS} (h : SR S N P s0 a vn vg) (x y : Int32) : ∃ o c k v t, pX8_moonDistance x y vn = some (o, c, k) ∧ pX9_moonDistance x y a = some (v, t) ∧ Ans "java/lang/IndexOutOfBoundsException" "" o v t ∧ c ≤ 1 ∧ k ≤ 6 := by
  obtain ⟨⟨hR, hPS, hg⟩, hP, hm, hsk, hov, hps, hn, hp⟩ := h
  obtain ⟨n1, n2, n3, n4, n5, n6, n7, n8⟩ := hn
  have hS := hR.2.1
  have hN := hR.2.2.1
  unfold pX8_moonDistance pX9_moonDistance
  rcases ins N (by omega) x with hx | ⟨j, hj, rfl⟩
  · rw [c_tg_no (by omega) n2 hx, ob_eq rfl, lacks_tg hR hx, ob_eq rfl, if_neg (show ¬ (1 : Int32) = 0 by decide)]
    exact ⟨_, _, _, _, _, rfl, rfl, Ans1 _, by omega, by omega⟩
  · rw [c_tg_yes (by omega) n2 hj, ob_eq rfl]
    dsimp only
    rcases ins S (by omega) y with hy | ⟨t, ht, rfl⟩
    · rw [c_sl_no (by omega) n1 hy, ob_eq rfl, lacks_sl hR hj hy, ob_eq rfl, if_neg (show ¬ (1 : Int32) = 0 by decide)]
      exact ⟨_, _, _, _, _, rfl, rfl, Ans1 _, by omega, by omega⟩
    · rw [c_sl_yes (by omega) n1 ht, ob_eq rfl, lacks_no hR hj ht, ob_eq rfl, if_pos rfl]
      dsimp only
      rw [c_dist hR n6 n4 hj (by omega), ob_eq rfl, p_distanceOf (by omega), ob_eq rfl]
      exact ⟨_, _, _, _, _, rfl, rfl, Ans0 _, by omega, by omega⟩
theorem c_winLoop {S N k : Nat} {a sn : Nat → Int32} (hR : RowN S N a) (hs : ∀ t, t < S → sn t = msk (obs a · t) N) (hk : k < N) : ∀ (fu t : Nat), t ≤ S → S - t < fu → lpX2_slotsOf_4 (nI k) (nI S) sn fu (msk (obs a k) t) (nI t) = some (msk (obs a k) S, nI S)
  | 0, _, _, h => by omega
  | fu + 1, t, ht, hf => by
    have hS := hR.2.1
    have hN := hR.2.2.1
    unfold lpX2_slotsOf_4
    by_cases e : t = S
    · subst e
      rw [if_pos (nI_le (Nat.le_refl _) (by omega))]
    · have ih := c_winLoop hR hs hk fu (t + 1) (by omega) (by omega)
      rw [show msk (obs a k) (t + 1) = msk (obs a k) t ||| (if obs a k t then (1 : Int32) <<< (nI t &&& 31) else 0) from rfl] at ih
      rw [if_neg (nI_ge (by omega) (by omega)), c_isSeen hS hN hs (by omega) hk, ob_eq rfl, nI_1 t]
      cases hb : obs a k t with
      | false =>
        rw [hb, if_neg (show ¬ false = true by decide), or_zero] at ih
        rw [if_pos i0f]
        exact ih
      | true =>
        rw [hb, if_pos rfl] at ih
        rw [if_neg i1t]
        exact ih
theorem m_winLoop {S N k : Nat} {a : Nat → Int32} (hR : RowN S N a) (hk : k < N) : ∀ (fu t : Nat), t ≤ S → S - t < fu → lpX9_window_15 (nI k) a fu (msk (obs a k) t) (nI t) = some (msk (obs a k) S, nI S)
  | 0, _, _, h => by omega
  | fu + 1, t, ht, hf => by
    have hS := hR.2.1
    have hN := hR.2.2.1
    unfold lpX9_window_15
    rw [hR.2.2.2.1]
    by_cases e : t = S
    · subst e
      rw [if_pos (nI_le (Nat.le_refl _) (by omega))]
    · have ih := m_winLoop hR hk fu (t + 1) (by omega) (by omega)
      rw [show msk (obs a k) (t + 1) = msk (obs a k) t ||| (if obs a k t then (1 : Int32) <<< (nI t &&& 31) else 0) from rfl] at ih
      rw [if_neg (nI_ge (by omega) (by omega)), p_canObserve (by omega), ob_eq rfl, nI_1 t]
      cases hb : obs a k t with
      | false =>
        rw [hb, if_neg (show ¬ false = true by decide)] at ih
        rw [if_pos i0f]
        exact ih
      | true =>
        rw [hb, if_pos rfl] at ih
        rw [if_neg i1t]
        exact ih
theorem s_window {S N P s0 : Nat} {a : Nat → Int32} {vn : NiS} {vg : PrS} (h : SR S N P s0 a vn vg) (x : Int32) : ∃ o c k v t, pX8_window x vn = some (o, c, k) ∧ pX9_window x a = some (v, t) ∧ Ans "java/lang/IndexOutOfBoundsException" "" o v t ∧ c ≤ 1 ∧ k ≤ 6 := by
  obtain ⟨⟨hR, hPS, hg⟩, hP, hm, hsk, hov, hps, hn, hp⟩ := h
  obtain ⟨n1, n2, n3, n4, n5, n6, n7, n8⟩ := hn
  have hS := hR.2.1
  have hN := hR.2.2.1
  unfold pX8_window pX9_window
  rcases ins N (by omega) x with hx | ⟨j, hj, rfl⟩
  · rw [c_tg_no (by omega) n2 hx, ob_eq rfl, lacks_tg hR hx, ob_eq rfl, if_neg (show ¬ (1 : Int32) = 0 by decide)]
    exact ⟨_, _, _, _, _, rfl, rfl, Ans1 _, by omega, by omega⟩
  · rw [c_tg_yes (by omega) n2 hj, ob_eq rfl, lacks_0 hR hj, ob_eq rfl, if_pos rfl, n1]
    dsimp only
    unfold pX2_slotsOf
    rw [ob_eq (show lpX2_slotsOf_4 (nI j) (nI S) vn.2.2.2.2.2.2.1 lpF (0 : Int32) (0 : Int32) = _ from c_winLoop hR n7 hj lpF 0 (by omega) (by have := lpF_big; omega)), ob_eq rfl, ob_eq (show lpX9_window_15 (nI j) a lpF (0 : Int32) (0 : Int32) = _ from m_winLoop hR hj lpF 0 (by omega) (by have := lpF_big; omega))]
    exact ⟨_, _, _, _, _, rfl, rfl, Ans0 _, by omega, by omega⟩
theorem s_observable {S N P s0 : Nat} {a : Nat → Int32} {vn : NiS} {vg : PrS} (h : SR S N P s0 a vn vg) (x : Int32) : ∃ o c k v t, pX8_observable x vn = some (o, c, k) ∧ pX9_observable x a = some (v, t) ∧ Ans "java/lang/IndexOutOfBoundsException" "" o v t ∧ c ≤ 1 ∧ k ≤ 6 := by
  obtain ⟨⟨hR, hPS, hg⟩, hP, hm, hsk, hov, hps, hn, hp⟩ := h
  obtain ⟨n1, n2, n3, n4, n5, n6, n7, n8⟩ := hn
  have hS := hR.2.1
  have hN := hR.2.2.1
  unfold pX8_observable pX9_observable
  rcases ins S (by omega) x with hx | ⟨t, ht, rfl⟩
  · rw [c_sl_no (by omega) n1 hx, ob_eq rfl, m_sl_no hR hx, ob_eq rfl, if_pos rfl]
    exact ⟨_, _, _, _, _, rfl, rfl, Ans1 _, by omega, by omega⟩
  · rw [c_sl_yes (by omega) n1 ht, ob_eq rfl, m_sl_yes hR ht, ob_eq rfl, if_neg (show ¬ (1 : Int32) = 0 by decide)]
    dsimp only
    rw [n1, c_targetsIn hS n7 (by omega), ob_eq rfl, if_pos ht, p_observableIn hN hR.2.2.2.2.1, ob_eq rfl]
    exact ⟨_, _, _, _, _, rfl, rfl, Ans0 _, by omega, by omega⟩
theorem s_clearOdds {S N P s0 : Nat} {a : Nat → Int32} {vn : NiS} {vg : PrS} (h : SR S N P s0 a vn vg) (x : Int32) : ∃ o c k v t, pX8_clearOdds x vn = some (o, c, k) ∧ pX9_clearOdds x a = some (v, t) ∧ Ans "java/lang/IndexOutOfBoundsException" "" o v t ∧ c ≤ 1 ∧ k ≤ 6 := by
  obtain ⟨⟨hR, hPS, hg⟩, hP, hm, hsk, hov, hps, hn, hp⟩ := h
  obtain ⟨n1, n2, n3, n4, n5, n6, n7, n8⟩ := hn
  have hS := hR.2.1
  have hN := hR.2.2.1
  unfold pX8_clearOdds pX9_clearOdds
  rcases ins S (by omega) x with hx | ⟨t, ht, rfl⟩
  · rw [c_sl_no (by omega) n1 hx, ob_eq rfl, m_sl_no hR hx, ob_eq rfl, if_pos rfl]
    exact ⟨_, _, _, _, _, rfl, rfl, Ans1 _, by omega, by omega⟩
  · rw [c_sl_yes (by omega) n1 ht, ob_eq rfl, m_sl_yes hR ht, ob_eq rfl, if_neg (show ¬ (1 : Int32) = 0 by decide)]
    dsimp only
    rw [n1, c_oddsIn hS n8 ht, ob_eq rfl, p_oddsOf (by omega), ob_eq rfl]
    exact ⟨_, _, _, _, _, rfl, rfl, Ans0 _, by omega, by omega⟩
/-- both loops of a run of clear slots -/
theorem runLoop {a : Nat → Int32} {vn : NiS} {T : Nat} (h8 : vn.2.2.2.2.1 1 = a 8) (hT : T < 60000) : ∀ (fu t : Nat) (q : Int32), t ≤ T → T - t < fu → ∃ r, lpX8_clearRun_37 (nI T) vn fu q (nI t) = some r ∧ lpX9_clearRun_52 (nI T) a fu q (nI t) = some r
  | 0, _, _, _, h => by omega
  | fu + 1, t, q, ht, hf => by
    unfold lpX8_clearRun_37 lpX9_clearRun_52
    by_cases e : t = T
    · subst e
      rw [if_pos (nI_le (Nat.le_refl _) (by omega)), if_pos (nI_le (Nat.le_refl _) (by omega))]
      exact ⟨_, rfl, rfl⟩
    · rw [if_neg (nI_ge (by omega) (by omega)), if_neg (nI_ge (by omega) (by omega)), h8, nI_1 t]
      exact runLoop h8 hT fu (t + 1) _ (by omega) (by omega)
theorem s_clearRun {S N P s0 : Nat} {a : Nat → Int32} {vn : NiS} {vg : PrS} (h : SR S N P s0 a vn vg) (x y : Int32) : ∃ o c k v t, pX8_clearRun x y vn = some (o, c, k) ∧ pX9_clearRun x y a = some (v, t) ∧ Ans "java/lang/IndexOutOfBoundsException" "java/lang/IllegalArgumentException" o v t ∧ c ≤ 1 ∧ k ≤ 6 := by
  obtain ⟨⟨hR, hPS, hg⟩, hP, hm, hsk, hov, hps, hn, hp⟩ := h
  obtain ⟨n1, n2, n3, n4, n5, n6, n7, n8⟩ := hn
  have hS := hR.2.1
  have hN := hR.2.2.1
  unfold pX8_clearRun pX9_clearRun
  rcases ins S (by omega) x with hx | ⟨t, ht, rfl⟩
  · rw [c_sl_no (by omega) n1 hx, ob_eq rfl, m_sl_no hR hx, ob_eq rfl, if_pos rfl]
    exact ⟨_, _, _, _, _, rfl, rfl, Ans1 _, by omega, by omega⟩
  · rw [c_sl_yes (by omega) n1 ht, ob_eq rfl, m_sl_yes hR ht, ob_eq rfl, if_neg (show ¬ (1 : Int32) = 0 by decide)]
    dsimp only
    rcases ins S (by omega) y with hy | ⟨u, hu, rfl⟩
    · rw [c_sl_no (by omega) n1 hy, ob_eq rfl, m_sl_no hR hy, ob_eq rfl, if_neg (show ¬ ¬ (0 : Int32) = 0 from fun h => h rfl)]
      exact ⟨_, _, _, _, _, rfl, rfl, Ans1 _, by omega, by omega⟩
    · rw [c_sl_yes (by omega) n1 hu, ob_eq rfl, m_sl_yes hR hu, ob_eq rfl, if_pos (show ¬ (1 : Int32) = 0 by decide)]
      dsimp only
      by_cases c : t ≤ u
      · obtain ⟨r, r1, r2⟩ := runLoop (a := a) (vn := vn) (n5 1 (by omega)) (show u < 60000 by omega) lpF t (odF a t) c (by have := lpF_big; omega)
        rw [if_pos (nI_le c (by omega)), if_pos (nI_le c (by omega)), n1, c_oddsIn hS n8 ht, ob_eq rfl, ob_eq r1, p_oddsOf (by omega), ob_eq rfl, ob_eq r2]
        exact ⟨_, _, _, _, _, rfl, rfl, Ans0 _, by omega, by omega⟩
      · rw [if_neg (nI_ge (by omega) (by omega)), if_neg (nI_ge (by omega) (by omega))]
        exact ⟨_, _, _, _, _, rfl, rfl, Ans2 _, by omega, by omega⟩
