/-! BOTH READERS PART BY PART -/
theorem m_iter1 {b fr : Nat → Int32} {sz wA hm hs : Int32} {fu : Nat} {T : Int32 × Int32 × Int32 × Int64} {z : Int32 × Int32 × Int32 × Int32 × Int32 × Int64 × (Nat → Int32)} (k8 : ¬ T.2.2.1 = 8) (k : T.2.2.1 = 1) (hz : pX9_readsMoon fr b sz T.1 T.2.1 T.2.2.1 0 wA T.2.2.2 hm = some z) : lpX9_readsAll_25 b sz (fu + 1) fr T.1 T.2.1 T.2.2.1 0 wA T.2.2.2 hm hs = lpX9_readsAll_25 b sz fu z.2.2.2.2.2.2 z.1 z.2.1 z.2.2.1 z.2.2.2.1 z.2.2.2.2.1 z.2.2.2.2.2.1 1 hs := by
  conv => lhs; unfold lpX9_readsAll_25
  rw [if_neg (show ¬ ¬ (0 : Int32) = 0 from fun h => h rfl), if_neg k8, is_eq, if_pos k, ob_eq rfl, if_neg (show ¬ (1 : Int32) = 0 by decide), ob_eq hz]
theorem m_iter2 {b fr : Nat → Int32} {sz wA hm hs : Int32} {fu : Nat} {T : Int32 × Int32 × Int32 × Int64} {z : Int32 × Int32 × Int32 × Int32 × Int32 × Int64 × (Nat → Int32)} (k8 : ¬ T.2.2.1 = 8) (k1 : ¬ T.2.2.1 = 1) (k : T.2.2.1 = 2) (hz : pX9_readsSky fr b sz T.1 T.2.1 T.2.2.1 0 wA T.2.2.2 hs = some z) : lpX9_readsAll_25 b sz (fu + 1) fr T.1 T.2.1 T.2.2.1 0 wA T.2.2.2 hm hs = lpX9_readsAll_25 b sz fu z.2.2.2.2.2.2 z.1 z.2.1 z.2.2.1 z.2.2.2.1 z.2.2.2.2.1 z.2.2.2.2.2.1 hm 1 := by
  conv => lhs; unfold lpX9_readsAll_25
  rw [if_neg (show ¬ ¬ (0 : Int32) = 0 from fun h => h rfl), if_neg k8, is_eq, if_neg k1, ob_eq rfl, if_pos rfl, is_eq, if_pos k, ob_eq rfl, if_neg (show ¬ (1 : Int32) = 0 by decide), ob_eq hz]
theorem m_iter3 {b fr : Nat → Int32} {sz wA hm hs : Int32} {fu : Nat} {T : Int32 × Int32 × Int32 × Int64} {z : Int32 × Int32 × Int32 × Int32 × Int32 × Int64 × (Nat → Int32)} (k8 : ¬ T.2.2.1 = 8) (k1 : ¬ T.2.2.1 = 1) (k2 : ¬ T.2.2.1 = 2) (k : T.2.2.1 = 3) (hz : pX9_readsTarget fr b sz T.1 T.2.1 T.2.2.1 0 wA T.2.2.2 = some z) : lpX9_readsAll_25 b sz (fu + 1) fr T.1 T.2.1 T.2.2.1 0 wA T.2.2.2 hm hs = lpX9_readsAll_25 b sz fu z.2.2.2.2.2.2 z.1 z.2.1 z.2.2.1 z.2.2.2.1 z.2.2.2.2.1 z.2.2.2.2.2.1 hm hs := by
  conv => lhs; unfold lpX9_readsAll_25
  rw [if_neg (show ¬ ¬ (0 : Int32) = 0 from fun h => h rfl), if_neg k8, is_eq, if_neg k1, ob_eq rfl, if_pos rfl, is_eq, if_neg k2, ob_eq rfl, if_pos rfl, is_eq, if_pos k, ob_eq rfl, if_neg (show ¬ (1 : Int32) = 0 by decide), ob_eq hz]
theorem m_iter4 {b fr : Nat → Int32} {sz wA hm hs : Int32} {fu : Nat} {T : Int32 × Int32 × Int32 × Int64} (k8 : ¬ T.2.2.1 = 8) (k1 : ¬ T.2.2.1 = 1) (k2 : ¬ T.2.2.1 = 2) (k3 : ¬ T.2.2.1 = 3) : lpX9_readsAll_25 b sz (fu + 1) fr T.1 T.2.1 T.2.2.1 0 wA T.2.2.2 hm hs = lpX9_readsAll_25 b sz fu fr T.1 T.2.1 T.2.2.1 (-2) T.1 T.2.2.2 hm hs := by
  conv => lhs; unfold lpX9_readsAll_25
  rw [if_neg (show ¬ ¬ (0 : Int32) = 0 from fun h => h rfl), if_neg k8, is_eq, if_neg k1, ob_eq rfl, if_pos rfl, is_eq, if_neg k2, ob_eq rfl, if_pos rfl, is_eq, if_neg k3, ob_eq rfl, if_pos rfl, fails_0, ob_eq rfl]
theorem m_iter8 {b fr : Nat → Int32} {sz wA hm hs : Int32} {fu : Nat} {T : Int32 × Int32 × Int32 × Int64} (k8 : T.2.2.1 = 8) : lpX9_readsAll_25 b sz (fu + 1) fr T.1 T.2.1 T.2.2.1 0 wA T.2.2.2 hm hs = some (fr, T.1, T.2.1, T.2.2.1, 0, wA, T.2.2.2, hm, hs) := by
  unfold lpX9_readsAll_25
  rw [if_neg (show ¬ ¬ (0 : Int32) = 0 from fun h => h rfl), if_pos k8]
theorem m_iterW {b fr : Nat → Int32} {sz a1 a2 a3 w wA hm hs : Int32} {num : Int64} {fu : Nat} (h : ¬ w = 0) : lpX9_readsAll_25 b sz (fu + 1) fr a1 a2 a3 w wA num hm hs = some (fr, a1, a2, a3, w, wA, num, hm, hs) := by
  unfold lpX9_readsAll_25
  rw [if_pos h]
theorem c_iterW {rb values mo pe nu : Nat → Int32} {sz l3 at' ws hm hs er eA nt : Int32} {fu : Nat} (h : ¬ er = 0) : lpX7_read_53 rb sz (fu + 1) l3 values at' ws hm hs er eA nt mo pe nu = some (l3, values, at', ws, hm, hs, er, eA, nt, mo, pe, nu) := by
  unfold lpX7_read_53
  by_cases c : (500 : Int32) ≤ l3
  · rw [if_pos c]
  · rw [if_neg c, if_pos h]
/-- the reference takes a word, and both stand behind it -/
theorem must_word {b rb : Nat → Int32} {n e : Nat} {k wA : Int32} {T : Int32 × Int32 × Int32 × Int64} (h : Al n b rb) (he : e ≤ n) (hk : T.2.2.1 = k) (hb : T.2.1 = nI e) : ∃ T0, pX9_must k b (nI n) T.1 T.2.1 T.2.2.1 0 wA T.2.2.2 = some (T0.1, T0.2.1, T0.2.2.1, 0, wA, T0.2.2.2) ∧ TK b rb n e T0 := by
  obtain ⟨T0, q1, q2⟩ := m_next h he T.2.2.2
  refine ⟨T0, ?_, he, q2⟩
  rw [must_ok hk, hb, ob_eq q1]
theorem part_step {b rb values : Nat → Int32} {n q S N : Nat} {T : Int32 × Int32 × Int32 × Int64} {hm hs wA nt : Int32} {fr mo pe nu : Nat → Int32} (h : Al n b rb) (hT : TK b rb n q T) (hsq : spx b n q = q) (hq : q < n) (hd : DR S N fr nt mo pe nu) (fu : Nat) :
    (∃ p' T' ws hm' hs' values' N' fr' nt' mo' pe' nu', q < p' ∧ TK b rb n p' T' ∧ DR S N' fr' nt' mo' pe' nu' ∧ pX7_readPart rb values (nI n) (nI q) hm hs 0 (-1) nt mo pe nu = some (nI p', ws, hm', hs', 0, -1, values', nt', mo', pe', nu') ∧ lpX9_readsAll_25 b (nI n) (fu + 1) fr T.1 T.2.1 T.2.2.1 0 wA T.2.2.2 hm hs = lpX9_readsAll_25 b (nI n) fu fr' T'.1 T'.2.1 T'.2.2.1 0 wA T'.2.2.2 hm' hs') ∨
    (∃ y ws hm' hs' code pos values' fr' hm2 hs2, ∃ T' : Int32 × Int32 × Int32 × Int64, ¬ code = 0 ∧ pX7_readPart rb values (nI n) (nI q) hm hs 0 (-1) nt mo pe nu = some (y, ws, hm', hs', code, pos, values', nt, mo, pe, nu) ∧ lpX9_readsAll_25 b (nI n) (fu + 1) fr T.1 T.2.1 T.2.2.1 0 wA T.2.2.2 hm hs = lpX9_readsAll_25 b (nI n) fu fr' T'.1 T'.2.1 T'.2.2.1 code pos T'.2.2.2 hm2 hs2) := by
  have h5 := h.1
  have hN := hd.1.2.2.1
  obtain ⟨e, w1, w2, w3, w4, w5, w6, w7⟩ := word_step h hT
  rw [hsq] at w1 w3 w4 w5 w6 w7
  have k8 : ¬ T.2.2.1 = 8 := fun g => by have := w7.mp g; omega
  have m2 : ¬ (-2 : Int32) = 0 := by decide
  have m4 : ¬ (-4 : Int32) = 0 := by decide
  have x1 : ∀ K, K < 4 → mt b q e (kwd K) = true → ∀ J, J < 4 → ¬ J = K → mt b q e (kwd J) = false := fun K hK g J hJ hne => by
    cases gj : mt b q e (kwd J) with
    | false => rfl
    | true =>
      have g1 := (w5 K hK).mpr g
      have g2 := (w5 J hJ).mpr gj
      rw [g1] at g2
      exact absurd ((keq J (by omega) (by omega)).mp g2).symm hne
  unfold pX7_readPart
  rw [ob_eq w3, c_wordIs1 h w1 w2, ob_eq rfl]
  cases g1 : mt b q e (kwd 1) with
  | true =>
    have k1 : T.2.2.1 = 1 := (w5 1 (by omega)).mpr g1
    have hw := w6 1 (by omega) g1
    rw [if_neg i1t]
    by_cases chm : hm = 0
    · subst chm
      rw [if_neg (show ¬ ¬ (0 : Int32) = 0 from fun h => h rfl)]
      obtain ⟨T0, q1, q2⟩ := must_word (wA := wA) h w2 k1 hw.1
      rcases c_take10021003 (values := values) h q2 wA (-1) with ⟨vs, p', T1, T', values', u1, u2, u3, u4, u5, u6⟩ | ⟨y, code, pos, values', vs, T1, w1', a1, T2, u0, u1, u2, u3⟩
      · obtain ⟨fr', f1, f2⟩ := m_moon0 (fr := fr) q1 u2 u3
        rw [ob_eq u1, if_neg (show ¬ (1 : Int32) = 0 by decide)]
        exact Or.inl ⟨p', T', _, _, _, _, N, fr', _, _, _, _, by omega, u4, DR_moon hd f2 u6, rfl, m_iter1 k8 k1 f1⟩
      · obtain ⟨fr', f1, f2⟩ := m_moon0 (fr := fr) q1 u2 u3
        rw [ob_eq u1, if_pos rfl]
        exact Or.inr ⟨_, _, _, _, code, pos, _, fr', 1, hs, T2, u0, rfl, m_iter1 k8 k1 f1⟩
    · obtain ⟨fr', f1⟩ := m_moon1 (b := b) (fr := fr) (sz := nI n) (wA := wA) (T := T) chm
      rw [if_pos chm, c_wordIs2 h w1 w2, ob_eq rfl, x1 1 (by omega) g1 2 (by omega) (by omega), if_pos i0f, c_wordIs3 h w1 w2, ob_eq rfl, x1 1 (by omega) g1 3 (by omega) (by omega), if_pos i0f]
      refine Or.inr ⟨nI e, nI q, hm, hs, -2, T.1, values, fr', 1, hs, T, m2, ?_, m_iter1 k8 k1 f1⟩
      rw [w4]
      rfl
  | false =>
    have k1 : ¬ T.2.2.1 = 1 := fun g => by rw [(w5 1 (by omega)).mp g] at g1; cases g1
    rw [if_pos i0f, c_wordIs2 h w1 w2, ob_eq rfl]
    cases g2 : mt b q e (kwd 2) with
    | true =>
      have k2 : T.2.2.1 = 2 := (w5 2 (by omega)).mpr g2
      have hw := w6 2 (by omega) g2
      rw [if_neg i1t]
      by_cases chs : hs = 0
      · subst chs
        rw [if_neg (show ¬ ¬ (0 : Int32) = 0 from fun h => h rfl)]
        obtain ⟨T0, q1, q2⟩ := must_word (wA := wA) h w2 k2 hw.1
        rcases c_take10041005 (values := values) h q2 wA (-1) with ⟨vs, p', T1, T', values', u1, u2, u3, u4, u5, u6⟩ | ⟨y, code, pos, values', vs, T1, w1', a1, T2, u0, u1, u2, u3⟩
        · obtain ⟨fr', f1, f2⟩ := m_sky0 (fr := fr) q1 u2 u3
          rw [ob_eq u1, if_neg (show ¬ (1 : Int32) = 0 by decide)]
          exact Or.inl ⟨p', T', _, _, _, _, N, fr', _, _, _, _, by omega, u4, DR_sky hd f2 u6, rfl, m_iter2 k8 k1 k2 f1⟩
        · obtain ⟨fr', f1, f2⟩ := m_sky0 (fr := fr) q1 u2 u3
          rw [ob_eq u1, if_pos rfl]
          exact Or.inr ⟨_, _, _, _, code, pos, _, fr', hm, 1, T2, u0, rfl, m_iter2 k8 k1 k2 f1⟩
      · obtain ⟨fr', f1⟩ := m_sky1 (b := b) (fr := fr) (sz := nI n) (wA := wA) (T := T) chs
        rw [if_pos chs, c_wordIs3 h w1 w2, ob_eq rfl, x1 2 (by omega) g2 3 (by omega) (by omega), if_pos i0f]
        refine Or.inr ⟨nI e, nI q, hm, hs, -2, T.1, values, fr', hm, 1, T, m2, ?_, m_iter2 k8 k1 k2 f1⟩
        rw [w4]
        rfl
    | false =>
      have k2 : ¬ T.2.2.1 = 2 := fun g => by rw [(w5 2 (by omega)).mp g] at g2; cases g2
      rw [if_pos i0f, c_wordIs3 h w1 w2, ob_eq rfl]
      cases g3 : mt b q e (kwd 3) with
      | true =>
        have k3 : T.2.2.1 = 3 := (w5 3 (by omega)).mpr g3
        have hw := w6 3 (by omega) g3
        have hnt := hd.2.1
        subst hnt
        rw [if_neg i1t]
        unfold pX7_readTarget
        by_cases cN : N < 6
        · rw [if_pos (show nI N < (6 : Int32) from nI_lt (b := 6) cN (by omega))]
          obtain ⟨T0, q1, q2⟩ := must_word (wA := wA) h w2 k3 hw.1
          rcases c_take10061007 (values := values) h q2 wA (-1) with ⟨vs, p', T1, T', values', u1, u2, u3, u4, u5, u6⟩ | ⟨y, code, pos, values', vs, T1, w1', a1, T2, u0, u1, u2, u3⟩
          · obtain ⟨fr', f1, f2, f3, f4⟩ := m_target0 (fr := fr) cN hd.1.2.2.2.2.1 q1 u2 u3
            have e9 : nI N * (9 : Int32) = nI (N * 9) := muls rfl rfl rfl
            have c9 : (9 : Int32).toNatClampNeg = 9 := by decide
            have c0 : (0 : Int32).toNatClampNeg = 0 := by decide
            rw [ob_eq u1, if_neg (show ¬ (1 : Int32) = 0 by decide), if_neg (show ¬ (((0 : Int32) < 0 ∨ (nI N * (9 : Int32)) < 0 ∨ (9 : Int32) < 0) ∨ 9 < ((0 : Int32)).toNatClampNeg + ((9 : Int32)).toNatClampNeg ∨ 54 < ((nI N * (9 : Int32))).toNatClampNeg + ((9 : Int32)).toNatClampNeg) from fun g => by
              rw [e9, c9, c0, clampN (x := nI (N * 9)) rfl (by omega)] at g
              rcases g with (g | g | g) | g | g
              · exact absurd g (by decide)
              · exact nI_pos (by omega) g
              · exact absurd g (by decide)
              · omega
              · omega), e9, clampN (x := nI (N * 9)) rfl (by omega), nI_1 N, Nat.mul_comm N 9]
            exact Or.inl ⟨p', T', _, _, _, _, N + 1, fr', _, _, _, _, by omega, u4, DR_target cN hd f2 f3 f4 u6, rfl, m_iter3 k8 k1 k2 k3 f1⟩
          · obtain ⟨fr', f1, f2⟩ := m_target0 (fr := fr) cN hd.1.2.2.2.2.1 q1 u2 u3
            rw [ob_eq u1, if_pos rfl]
            exact Or.inr ⟨_, _, _, _, code, pos, _, fr', hm, hs, T2, u0, rfl, m_iter3 k8 k1 k2 k3 f1⟩
        · have e6 : N = 6 := by omega
          subst e6
          rw [if_neg (show ¬ nI 6 < (6 : Int32) by decide)]
          refine Or.inr ⟨nI e, nI q, hm, hs, -4, T.1, values, fr, hm, hs, T, m4, ?_, m_iter3 k8 k1 k2 k3 (m_target6 hd.1.2.2.2.2.1)⟩
          rw [w4]
          rfl
      | false =>
        have k3 : ¬ T.2.2.1 = 3 := fun g => by rw [(w5 3 (by omega)).mp g] at g3; cases g3
        rw [if_pos i0f]
        refine Or.inr ⟨nI e, nI q, hm, hs, -2, T.1, values, fr, hm, hs, T, m2, ?_, m_iter4 k8 k1 k2 k3⟩
        rw [w4]
        rfl
theorem TK_end {b rb : Nat → Int32} {n p : Nat} {T : Int32 × Int32 × Int32 × Int64} (h : Al n b rb) (hT : TK b rb n p T) : T.2.2.1 = 8 ↔ spx b n p = n := by
  obtain ⟨e, -, -, -, -, -, -, w7⟩ := word_step h hT
  exact w7
theorem read_both {b rb : Nat → Int32} {n S : Nat} (h : Al n b rb) : ∀ (fu i p : Nat) (values : Nat → Int32) (T : Int32 × Int32 × Int32 × Int64) (ws hm hs wA : Int32) (N : Nat) (fr : Nat → Int32) (nt : Int32) (mo pe nu : Nat → Int32), i ≤ 500 → i ≤ p → 500 - i + 1 < fu → TK b rb n p T → DR S N fr nt mo pe nu →
    ∃ i' values' at' ws' hmc hsc er eA N' nt' mo' pe' nu' frc, lpX7_read_53 rb (nI n) fu (nI i) values (nI p) ws hm hs 0 (-1) nt mo pe nu = some (i', values', at', ws', hmc, hsc, er, eA, nt', mo', pe', nu') ∧ DR S N' frc nt' mo' pe' nu' ∧ ∃ fr' wA' hmm hsm, ∃ T' : Int32 × Int32 × Int32 × Int64, lpX9_readsAll_25 b (nI n) fu fr T.1 T.2.1 T.2.2.1 0 wA T.2.2.2 hm hs = some (fr', T'.1, T'.2.1, T'.2.2.1, er, wA', T'.2.2.2, hmm, hsm) ∧ ((er = 0 ∧ eA = -1 ∧ frc = fr') ∨ (¬ er = 0 ∧ eA = wA'))
  | 0, _, _, _, _, _, _, _, _, _, _, _, _, _, _, _, _, h, _, _ => by omega
  | fu + 1, i, p, values, T, ws, hm, hs, wA, N, fr, nt, mo, pe, nu, hi, hip, hf, hT, hd => by
    have h5 := h.1
    have hr := spx_rng (b := b) hT.1
    have hend := TK_end h hT
    have hp := hT.1
    by_cases e : i = 500
    · subst e
      have ks : T.2.2.1 = 8 := hend.mpr (by omega)
      refine ⟨nI 500, values, nI p, ws, hm, hs, 0, -1, N, nt, mo, pe, nu, fr, ?_, hd, fr, wA, hm, hs, T, m_iter8 ks, Or.inl ⟨rfl, rfl, rfl⟩⟩
      unfold lpX7_read_53
      rw [if_pos (by decide)]
    · have ec : pX7_atEnd rb (nI n) (nI p) = some (if spx b n p < n then 0 else 1, nI (spx b n p)) := by
        unfold pX7_atEnd
        rw [c_skip h hp, ob_eq rfl, show scn (iS b) (n - p) p = spx b n p from rfl]
        by_cases c : spx b n p < n
        · rw [if_pos (nI_lt c (by omega)), if_pos c]
        · rw [if_neg (nI_nlt (by omega) (by omega)), if_neg c]
      by_cases c : spx b n p < n
      · obtain ⟨fu', rfl⟩ : ∃ fu', fu = fu' + 1 := ⟨fu - 1, by omega⟩
        have hcl : ∀ z, pX7_readPart rb values (nI n) (nI (spx b n p)) hm hs 0 (-1) nt mo pe nu = some z → lpX7_read_53 rb (nI n) (fu' + 1 + 1) (nI i) values (nI p) ws hm hs 0 (-1) nt mo pe nu = lpX7_read_53 rb (nI n) (fu' + 1) (nI (i + 1)) z.2.2.2.2.2.2.1 z.1 z.2.1 z.2.2.1 z.2.2.2.1 z.2.2.2.2.1 z.2.2.2.2.2.1 z.2.2.2.2.2.2.2.1 z.2.2.2.2.2.2.2.2.1 z.2.2.2.2.2.2.2.2.2.1 z.2.2.2.2.2.2.2.2.2.2 := fun z hz => by
          conv => lhs; unfold lpX7_read_53
          rw [if_neg (show ¬ (500 : Int32) ≤ nI i from nI_ge (b := 500) (by omega) (by omega)), if_neg (show ¬ ¬ (0 : Int32) = 0 from fun h => h rfl), ob_eq ec, if_pos c, if_neg (show ¬ ¬ (0 : Int32) = 0 from fun h => h rfl), ob_eq hz, nI_1 i]
        rcases part_step (values := values) (hm := hm) (hs := hs) (wA := wA) h (TK_spx hT) (spx_spx hT.1) c hd (fu' + 1) with ⟨p', T', ws', hm', hs', values', N', fr', nt', mo', pe', nu', s1, s2, s3, s4, s5⟩ | ⟨y, ws', hm', hs', code, pos, values', fr', hm2, hs2, T', s0, s1, s2⟩
        · obtain ⟨i', v2, at2, ws2, hmc, hsc, er, eA, N2, nt2, mo2, pe2, nu2, frc, r1, r2, fr2, wA2, hmm, hsm, T2, r3, r4⟩ := read_both h (fu' + 1) (i + 1) p' values' T' ws' hm' hs' wA N' fr' nt' mo' pe' nu' (by omega) (by omega) (by omega) s2 s3
          refine ⟨i', v2, at2, ws2, hmc, hsc, er, eA, N2, nt2, mo2, pe2, nu2, frc, ?_, r2, fr2, wA2, hmm, hsm, T2, ?_, r4⟩
          · rw [hcl _ s4]
            exact r1
          · rw [s5]
            exact r3
        · refine ⟨nI (i + 1), values', y, ws', hm', hs', code, pos, N, nt, mo, pe, nu, fr, ?_, hd, fr', pos, hm2, hs2, T', ?_, Or.inr ⟨s0, rfl⟩⟩
          · rw [hcl _ s1]
            exact c_iterW s0
          · rw [s2]
            exact m_iterW s0
      · have ks : T.2.2.1 = 8 := hend.mpr (by omega)
        refine ⟨nI i, values, nI (spx b n p), ws, hm, hs, 0, -1, N, nt, mo, pe, nu, fr, ?_, hd, fr, wA, hm, hs, T, m_iter8 ks, Or.inl ⟨rfl, rfl, rfl⟩⟩
        unfold lpX7_read_53
        rw [if_neg (show ¬ (500 : Int32) ≤ nI i from nI_ge (b := 500) (by omega) (by omega)), if_neg (show ¬ ¬ (0 : Int32) = 0 from fun h => h rfl), ob_eq ec, if_neg c, if_pos (show ¬ (1 : Int32) = 0 by decide)]
