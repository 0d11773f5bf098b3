/-! GUARDS: targets, slots, teams; what is possible now -/
theorem isIn_eq (x lo hi : Int64) : pX9_isIn x lo hi = some (if lo.toInt ≤ x.toInt ∧ x.toInt ≤ hi.toInt then 1 else 0) := by
  unfold pX9_isIn
  by_cases c : lo.toInt ≤ x.toInt
  · rw [if_neg (fun h => by rw [lg_cmp_lt, fa_lt64] at h; omega)]
    by_cases c2 : x.toInt ≤ hi.toInt
    · rw [if_neg (fun h => by rw [lg_cmp_gt, fa_lt64] at h; omega), if_pos ⟨c, c2⟩]
    · rw [if_pos (by rw [lg_cmp_gt, fa_lt64]; omega), if_neg (fun h => c2 h.2)]
  · rw [if_pos (by rw [lg_cmp_lt, fa_lt64]; omega), if_neg (fun h => c h.1)]
theorem sub1_toInt {n : Nat} (h : n < 60000) : ((nI n - (1 : Int32)).toInt64).toInt = (n : Int) - 1 := by
  have e : (1 : Int32).toInt = 1 := by decide
  rw [Int32.toInt_toInt64, fb_subI (by rw [nI_toInt (by omega), e]; omega) (by rw [nI_toInt (by omega), e]; omega), nI_toInt (by omega), e]
/-- outside of 0 .. n - 1 -/
def Out (n : Nat) (x : Int32) : Prop := x < 0 ∨ nI n ≤ x
theorem ins (n : Nat) (hn : n < 60000) (x : Int32) : Out n x ∨ ∃ j, j < n ∧ x = nI j := by
  rcases pk_ix x (show n < 2 ^ 31 by omega) with h | h | h
  · exact Or.inl (Or.inl h)
  · exact Or.inl (Or.inr h)
  · exact Or.inr h
theorem out_int {n : Nat} {x : Int32} (hn : n < 60000) (h : Out n x) : ¬ (0 ≤ x.toInt ∧ x.toInt ≤ (n : Int) - 1) := by
  rcases h with h | h
  · rw [fa_lt, show (0 : Int32).toInt = 0 by decide] at h
    omega
  · rw [fa_le, nI_toInt (by omega)] at h
    omega
theorem inR_no {n : Nat} {x : Int32} (hn : n < 60000) (h : Out n x) : pX9_isIn x.toInt64 (0 : Int64) ((nI n - (1 : Int32)).toInt64) = some 0 := by
  rw [isIn_eq, sub1_toInt hn, z_toInt, Int32.toInt_toInt64, if_neg (out_int hn h)]
theorem inR_yes {n j : Nat} (hn : n < 60000) (h : j < n) : pX9_isIn (nI j).toInt64 (0 : Int64) ((nI n - (1 : Int32)).toInt64) = some 1 := by
  rw [isIn_eq, sub1_toInt hn, z_toInt, Int32.toInt_toInt64, nI_toInt (by omega), if_pos (by omega)]
theorem g01 : ((0 : Int32) = 0 ∨ (0 : Int32) = 1) := Or.inl rfl
theorem g11 : ((1 : Int32) = 0 ∨ (1 : Int32) = 1) := Or.inr rfl
theorem m_tg_no {S N : Nat} {a : Nat → Int32} {x : Int32} (hR : RowN S N a) (h : Out N x) : pX9_isTarget x a = some 0 := by
  have hN := hR.2.2.1
  unfold pX9_isTarget
  rw [hR.2.2.2.2.1, inR_no (by omega) h, ob_eq rfl, if_pos g01]
theorem m_tg_yes {S N j : Nat} {a : Nat → Int32} (hR : RowN S N a) (h : j < N) : pX9_isTarget (nI j) a = some 1 := by
  have hN := hR.2.2.1
  unfold pX9_isTarget
  rw [hR.2.2.2.2.1, inR_yes (by omega) h, ob_eq rfl, if_pos g11]
theorem m_sl_no {S N : Nat} {a : Nat → Int32} {x : Int32} (hR : RowN S N a) (h : Out S x) : pX9_isSlot x a = some 0 := by
  have hS := hR.2.1
  unfold pX9_isSlot
  rw [hR.2.2.2.1, inR_no (by omega) h, ob_eq rfl, if_pos g01]
theorem m_sl_yes {S N j : Nat} {a : Nat → Int32} (hR : RowN S N a) (h : j < S) : pX9_isSlot (nI j) a = some 1 := by
  have hS := hR.2.1
  unfold pX9_isSlot
  rw [hR.2.2.2.1, inR_yes (by omega) h, ob_eq rfl, if_pos g11]
theorem c_tg_no {N : Nat} {x : Int32} {vn : NiS} (hN : N < 60000) (hv : vn.2.1 = nI N) (h : Out N x) : pX8_checkTarget x vn = some (.inr "java/lang/IndexOutOfBoundsException", 1, 6) := by
  unfold pX8_checkTarget
  rcases h with h | h
  · rw [if_pos h]
  · by_cases c : x < 0
    · rw [if_pos c]
    · rw [if_neg c, hv, if_neg (fun q => by rw [fa_lt] at q; rw [fa_le] at h; omega)]
theorem c_tg_yes {N j : Nat} {vn : NiS} (hN : N < 60000) (hv : vn.2.1 = nI N) (h : j < N) : pX8_checkTarget (nI j) vn = some (.inl (), 0, 0) := by
  unfold pX8_checkTarget
  rw [if_neg (nI_pos (by omega)), hv, if_pos (nI_lt h (by omega))]
theorem c_sl_no {S : Nat} {x : Int32} {vn : NiS} (hS : S < 60000) (hv : vn.1 = nI S) (h : Out S x) : pX8_checkSlot x vn = some (.inr "java/lang/IndexOutOfBoundsException", 1, 6) := by
  unfold pX8_checkSlot
  rcases h with h | h
  · rw [if_pos h]
  · by_cases c : x < 0
    · rw [if_pos c]
    · rw [if_neg c, hv, if_neg (fun q => by rw [fa_lt] at q; rw [fa_le] at h; omega)]
theorem c_sl_yes {S j : Nat} {vn : NiS} (hS : S < 60000) (hv : vn.1 = nI S) (h : j < S) : pX8_checkSlot (nI j) vn = some (.inl (), 0, 0) := by
  unfold pX8_checkSlot
  rw [if_neg (nI_pos (by omega)), hv, if_pos (nI_lt h (by omega))]
theorem m_over {S N P : Nat} {a : Nat → Int32} (hR : RowN S N a) (hP : a 65 = nI P) (hPS : P ≤ S) : pX9_isOver a = some (if P < S then 0 else 1) := by
  have hS := hR.2.1
  unfold pX9_isOver
  rw [hP, hR.2.2.2.1]
  by_cases c : P < S
  · rw [if_pos (fun h => by have := (keq S (by omega) (by omega)).mp h; omega), if_pos c]
  · rw [if_neg (show ¬ ¬ nI P = nI S from fun h => h (by rw [show P = S by omega])), if_neg c]
theorem c_over {S P : Nat} {vn : NiS} {vg : PrS} (hS : S < 60000) (h1 : vn.1 = nI S) (h2 : vg.1 = nI P) (hPS : P ≤ S) : pX8_isOver vn vg = some (if P < S then 0 else 1) := by
  unfold pX8_isOver
  rw [h1, h2]
  by_cases c : P < S
  · rw [if_pos (nI_lt c (by omega)), if_pos c]
  · rw [if_neg (nI_nlt (by omega) (by omega)), if_neg c]
theorem d_over {S P : Nat} (hS : S < 60000) (hPS : P ≤ S) : pX0_isOver (nI S) (nI P) = some (if P < S then 0 else 1) := by
  unfold pX0_isOver
  by_cases c : P < S
  · rw [if_pos (nI_lt c (by omega)), if_pos c]
  · rw [if_neg (nI_nlt (by omega) (by omega)), if_neg c]
/-- what can be exposed now, as bits -/
def pnw (a : Nat → Int32) (N P s0 : Nat) : Int32 := if a 67 = 1 then msk (fun k => psb true a N s0 k P) N else 0
theorem msk_false : ∀ n, msk (fun _ => false) n = 0
  | 0 => rfl
  | n + 1 => by
    show msk (fun _ => false) n ||| 0 = 0
    rw [msk_false n]; rfl
theorem c_possible {S N P s0 : Nat} {a : Nat → Int32} {vn : NiS} {vg : PrS} (h : SR S N P s0 a vn vg) : pX8_possibleNow vn vg = some (pnw a N P s0) := by
  obtain ⟨⟨hR, hPS, hg⟩, hP, hm, hsk, hov, hps, hn, hp⟩ := h
  obtain ⟨n1, n2, n3, n4, n5, n6, n7, n8⟩ := hn
  obtain ⟨p1, p2, p3, p4, p5, p6, p7⟩ := hp
  have hS := hR.2.1
  have hN := hR.2.2.1
  have hp6 := pow_le6 hN
  have hs0 := hg.1
  unfold pX8_possibleNow pnw
  rw [c_over (by omega) n1 p1 hPS, ob_eq rfl]
  by_cases c : P < S
  · rw [if_pos c, if_neg (fun h => h rfl), p2]
    by_cases c1 : a 67 = 1
    · rw [if_pos c1, if_pos c1, p5, p4, n2, n3, c_teamsInTurn hR n6 (by omega), ob_eq rfl, p1, n1, c_targetsIn hS n7 (by omega), ob_eq rfl, if_pos c, c_wanting hR n6 (by omega), ob_eq rfl]
      unfold wm
      rw [msk_and (by omega)]
      rfl
    · rw [if_neg c1, if_neg c1]
  · rw [if_neg c, if_pos (by decide), if_neg (by rw [hov (by omega)]; decide)]
theorem m_isPossible {S N P s0 k : Nat} {a : Nat → Int32} (hR : RowN S N a) (hk : k < N) (hs0 : s0 < 4096) : pX9_isPossible (nI k) (nI P) (nI s0) (itn (thr a N) (fun g => trn a s0 g N)) a = some (if psb true a N s0 k P then 1 else 0) := by
  have hN := hR.2.2.1
  obtain ⟨t1, t2⟩ := tm_eq hR hk
  obtain ⟨w1, w2, w3⟩ := wnt_eq hR hk
  have d1 := dg_lt s0 k
  unfold pX9_isPossible psb
  rw [p_canObserve (by omega), ob_eq rfl]
  cases ho : obs a k P with
  | false => rw [if_pos i0f]; rfl
  | true =>
    rw [if_neg i1t, p_madeIn (by omega) (by omega), ob_eq rfl, p_ofTarget (x := 7) (w := 7) rfl (by omega), ob_eq rfl, w1, Bool.true_and]
    by_cases c : dg s0 k < wnt a k
    · rw [if_neg (nI_ge c (by omega)), p_ofTarget (x := 0) (w := 0) rfl (by omega), ob_eq rfl, show a (11 + 9 * k + 0) = nI (tm a k) from t1, has_bt _ (by omega : tm a k < 32), decide_eq_true c, Bool.true_and]
      show _ = some (if bt (itn (thr a N) (fun g => trn a s0 g N)) (tm a k) = true then 1 else 0)
      cases hb : bt (itn (thr a N) (fun g => trn a s0 g N)) (tm a k) with
      | false => rw [if_pos ((has1 false).mpr rfl)]; rfl
      | true => rw [if_neg (fun h => by cases (has1 true).mp h)]; rfl
    · rw [if_pos (nI_le (by omega) (by omega)), decide_eq_false c]
      rfl
theorem m_possLoop {S N P s0 : Nat} {a : Nat → Int32} (hR : RowN S N a) (hP : a 65 = nI P) (hs0 : s0 < 4096) : ∀ (fu k : Nat) (tb : Nat → Int32), k ≤ N → N - k < fu → ∃ tb', lpX9_possibleNow_9 (nI s0) a fu (msk (fun k => decide (a 67 = 1) && psb true a N s0 k P) k) (nI k) tb = some (msk (fun k => decide (a 67 = 1) && psb true a N s0 k P) N, nI N, tb')
  | 0, _, _, _, h => by omega
  | fu + 1, k, tb, hk, hf => by
    have hN := hR.2.2.1
    by_cases e : k = N
    · subst e
      refine ⟨tb, ?_⟩
      unfold lpX9_possibleNow_9
      rw [hR.2.2.2.2.1, if_pos (nI_le (Nat.le_refl _) (by omega))]
    · have e6 : ∀ P : Nat → Bool, msk P (k + 1) = msk P k ||| (if P k then (1 : Int32) <<< (nI k &&& 31) else 0) := fun _ => rfl
      by_cases c1 : a 67 = 1
      · obtain ⟨tb1, ht⟩ := m_inTurnBy (b := tb) hR (show s0 < 2 ^ 31 by omega)
        obtain ⟨tb', ih⟩ := m_possLoop (P := P) hR hP hs0 fu (k + 1) tb1 (by omega) (by omega)
        refine ⟨tb', ?_⟩
        rw [e6, decide_eq_true c1, Bool.true_and] at ih
        unfold lpX9_possibleNow_9
        rw [hR.2.2.2.2.1, if_neg (nI_ge (by omega) (by omega)), if_neg (show ¬ ¬ a 67 = 1 from fun h => h c1), ob_eq ht, hP, m_isPossible hR (by omega) hs0, ob_eq rfl, nI_1 k, decide_eq_true c1]
        cases hb : psb true a N s0 k P with
        | false =>
          rw [hb] at ih
          rw [if_pos i0f]
          exact ih
        | true =>
          rw [hb] at ih
          rw [if_neg i1t]
          exact ih
      · obtain ⟨tb', ih⟩ := m_possLoop (P := P) hR hP hs0 fu (k + 1) tb (by omega) (by omega)
        refine ⟨tb', ?_⟩
        rw [e6, decide_eq_false c1, Bool.false_and] at ih
        unfold lpX9_possibleNow_9
        rw [hR.2.2.2.2.1, if_neg (nI_ge (by omega) (by omega)), if_pos c1, nI_1 k, decide_eq_false c1]
        exact ih
theorem m_possible {S N P s0 : Nat} {a tb : Nat → Int32} (hi : Sit S N P s0 a) (hP : a 65 = nI P) (hm : ∀ k, k < 6 → a (69 + k) = nI (dg s0 k)) : ∃ tb', pX9_possibleNow a tb = some (pnw a N P s0, tb') := by
  obtain ⟨hR, hPS, hg⟩ := hi
  have hN := hR.2.2.1
  have hp := pow_le6 hN
  have hs0 := hg.1
  obtain ⟨tb', h⟩ := m_possLoop (P := P) hR hP (show s0 < 4096 by omega) lpF 0 tb (by omega) (by have := lpF_big; omega)
  refine ⟨tb', ?_⟩
  unfold pX9_possibleNow
  rw [ob_eq (m_stateNow hm (by omega)), ob_eq (show lpX9_possibleNow_9 (nI s0) a lpF (0 : Int32) (0 : Int32) tb = _ from h)]
  unfold pnw
  by_cases c : a 67 = 1
  · rw [if_pos c, decide_eq_true c]
    rfl
  · rw [if_neg c, decide_eq_false c]
    show some (msk (fun k => false) N, tb') = _
    rw [msk_false]
/-- whether a target can be exposed now -/
def can (a : Nat → Int32) (N P s0 j : Nat) : Bool := decide (a 67 = 1) && psb true a N s0 j P
theorem pnw_bt {a : Nat → Int32} {N P s0 j : Nat} (hN : N ≤ 6) (hj : j < N) : bt (pnw a N P s0) j = can a N P s0 j := by
  unfold pnw can
  by_cases c : a 67 = 1
  · rw [if_pos c, msk_bt _ N (by omega) j (by omega), decide_eq_true hj, decide_eq_true c]
  · rw [if_neg c, b_0, decide_eq_false c]; rfl
theorem c_canNow {S N P s0 j : Nat} {a : Nat → Int32} {vn : NiS} {vg : PrS} (h : SR S N P s0 a vn vg) (hj : j < N) : pX8_checkPossible (nI j) vn vg = if can a N P s0 j then some (.inl (), 0, 0) else some (.inr "java/lang/IllegalStateException", 1, 6) := by
  have hN := h.1.1.2.2.1
  unfold pX8_checkPossible
  rw [c_possible h, ob_eq rfl, p_has _ (by omega : j < 32), ob_eq rfl, pnw_bt hN hj]
  cases can a N P s0 j with
  | false => rw [if_neg (show ¬ ¬ (if false = true then (1 : Int32) else 0) = 0 from fun h => h rfl)]; rfl
  | true => rw [if_pos i1t]; rfl
theorem m_refusal {S N P s0 j : Nat} {a tb : Nat → Int32} (hi : Sit S N P s0 a) (hP : a 65 = nI P) (hm : ∀ k, k < 6 → a (69 + k) = nI (dg s0 k)) (hj : j < N) : ∃ tb', pX9_exposeRefusal (nI j) a tb = some (if can a N P s0 j then 0 else 2, tb') := by
  have hN := hi.1.2.2.1
  obtain ⟨tb', h⟩ := m_possible (tb := tb) hi hP hm
  unfold pX9_exposeRefusal
  rw [m_tg_yes hi.1 hj, ob_eq rfl, if_pos (by decide)]
  by_cases c : a 67 = 1
  · refine ⟨tb', ?_⟩
    rw [if_neg (show ¬ ¬ a 67 = 1 from fun h => h c), ob_eq h, has_bt _ (by omega : j < 32), pnw_bt hN hj]
    cases can a N P s0 j with
    | false => rw [if_neg (show ¬ ¬ (if false = true then (1 : Int32) else 0) = 0 from fun h => h rfl)]; rfl
    | true => rw [if_pos i1t]; rfl
  · refine ⟨tb, ?_⟩
    rw [if_pos c]
    unfold can
    rw [decide_eq_false c]; rfl
theorem m_refusal_no {S N : Nat} {a tb : Nat → Int32} {x : Int32} (hR : RowN S N a) (h : Out N x) : pX9_exposeRefusal x a tb = some (1, tb) := by
  unfold pX9_exposeRefusal
  rw [m_tg_no hR h, ob_eq rfl, if_neg (fun h => h rfl)]
