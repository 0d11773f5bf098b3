/-! A TEXT READ AND LOADED -/
/-- a row that begins -/
def Bg (x : Int32) (fr : Nat → Int32) : Prop := fr 0 = x ∧ fr 1 = 0 ∧ fr 2 = 1 ∧ fr 3 = -10 ∧ fr 4 = 0 ∧ fr 5 = 0 ∧ fr 6 = 0 ∧ fr 7 = 50 ∧ fr 8 = 80 ∧ fr 9 = 30 ∧ ∀ i, 10 ≤ i → i < 99 → fr i = 0
theorem m_zeroLoop : ∀ (fu i : Nat) (fr : Nat → Int32), i ≤ 99 → 99 - i < fu → (∀ j, j < i → fr j = 0) → ∃ y fr', lpX9_begins_99_2 fu (nI i) fr = some (y, fr') ∧ ∀ j, j < 99 → fr' j = 0
  | 0, _, _, _, h, _ => by omega
  | fu + 1, i, fr, hi, hf, h1 => by
    unfold lpX9_begins_99_2
    by_cases e : i = 99
    · subst e
      rw [if_pos (show (99 : Int32) ≤ nI 99 by decide)]
      exact ⟨_, fr, rfl, h1⟩
    · rw [if_neg (show ¬ (99 : Int32) ≤ nI i from nI_ge (b := 99) (by omega) (by omega)), if_neg (in_ok rfl (by omega : i < 99) (by omega)), clampN (x := nI i) rfl (by omega), nI_1 i]
      refine m_zeroLoop fu (i + 1) _ (by omega) (by omega) (fun j hj => ?_)
      by_cases c : j = i
      · rw [c, upd_at]
      · rw [upd_off _ _ c]; exact h1 j (by omega)
theorem m_begins (x : Int32) (fr : Nat → Int32) : ∃ fr', pX9_begins_99 x fr = some fr' ∧ Bg x fr' := by
  obtain ⟨y, f, h1, h2⟩ := m_zeroLoop lpF 0 fr (by omega) (by have := lpF_big; omega) (fun j hj => by omega)
  unfold pX9_begins_99
  rw [ob_eq (show lpX9_begins_99_2 lpF (0 : Int32) fr = _ from h1)]
  refine ⟨_, rfl, ?_, ?_, ?_, ?_, ?_, ?_, ?_, ?_, ?_, ?_, fun i h3 h4 => ?_⟩
  · rfl
  · exact h2 1 (by omega)
  · rfl
  · rfl
  · exact h2 4 (by omega)
  · exact h2 5 (by omega)
  · exact h2 6 (by omega)
  · rfl
  · rfl
  · rfl
  · rw [upd_off _ _ (by omega), upd_off _ _ (by omega), upd_off _ _ (by omega), upd_off _ _ (by omega), upd_off _ _ (by omega), upd_off _ _ (by omega)]
    exact h2 i h4
theorem rgc {lo hi : Int} {x : Int32} (c : Int32) (h : x = c) (h2 : lo ≤ c.toInt ∧ c.toInt ≤ hi) : rg lo hi x := by rw [h]; exact h2
theorem Bg_row {S : Nat} {x : Int32} {fr : Nat → Int32} (h : Bg x fr) (hx : x = nI S) (h1 : 1 ≤ S) (h2 : S ≤ 12) : RowN S 0 fr := by
  obtain ⟨g0, g1, g2, g3, g4, g5, g6, g7, g8, g9, g10⟩ := h
  exact ⟨h1, h2, by omega, g0.trans hx, g10 10 (by omega) (by omega), rgc 0 g1 (by decide), rgc 1 g2 (by decide), rgc (-10) g3 (by decide), rgc 0 g4 (by decide), rgc 0 g5 (by decide), rgc 0 g6 (by decide), rgc 50 g7 (by decide), rgc 80 g8 (by decide), rgc 30 g9 (by decide), fun k hk => by omega⟩
theorem c_fill6 : ∀ (fu k : Nat) (f : Nat → Int32), k ≤ 6 → 6 - k < fu → (∀ i, i < k → f i = 0) → ∃ y f', lpJ7_fill_53178_6_5 0 (nI 6) fu (nI k) f = some (y, f') ∧ ∀ i, i < 6 → f' i = 0
  | 0, _, _, _, h, _ => by omega
  | fu + 1, k, f, hk, hf, h1 => by
    unfold lpJ7_fill_53178_6_5
    by_cases e : k = 6
    · subst e
      rw [if_pos (nI_le (Nat.le_refl _) (by omega))]
      exact ⟨_, f, rfl, h1⟩
    · rw [if_neg (nI_ge (by omega) (by omega)), if_neg (in_ok rfl (by omega : k < 6) (by omega)), clampN (x := nI k) rfl (by omega), nI_1 k]
      refine c_fill6 fu (k + 1) _ (by omega) (by omega) (fun j hj => ?_)
      by_cases c : j = k
      · rw [c, upd_at]
      · rw [upd_off _ _ c]; exact h1 j (by omega)
/-- the defaults of the class's draft -/
def Df (mo pe : Nat → Int32) : Prop := mo 0 = 0 ∧ mo 1 = 1 ∧ mo 2 = -10 ∧ mo 3 = 0 ∧ mo 4 = 0 ∧ mo 5 = 0 ∧ pe 0 = 50 ∧ pe 1 = 80 ∧ pe 2 = 30
theorem c_defaults (mo pe : Nat → Int32) : ∃ mo' pe', pX2_setDefaults mo pe = some (mo', pe') ∧ Df mo' pe' := by
  obtain ⟨y, f, h1, h2⟩ := c_fill6 lpF 0 mo (by omega) (by have := lpF_big; omega) (fun j hj => by omega)
  unfold pX2_setDefaults pJ7_fill_53178_6
  rw [ob_eq (show lpJ7_fill_53178_6_5 0 (nI 6) lpF (0 : Int32) mo = _ from h1), ob_eq rfl]
  exact ⟨_, _, rfl, h2 0 (by omega), rfl, rfl, h2 3 (by omega), h2 4 (by omega), h2 5 (by omega), rfl, rfl, rfl⟩
theorem DR_begin {S : Nat} {x : Int32} {fr mo pe : Nat → Int32} (nu : Nat → Int32) (h : Bg x fr) (hx : x = nI S) (h1 : 1 ≤ S) (h2 : S ≤ 12) (hd : Df mo pe) : DR S 0 fr 0 mo pe nu := by
  have hR := Bg_row h hx h1 h2
  obtain ⟨g0, g1, g2, g3, g4, g5, g6, g7, g8, g9, g10⟩ := h
  obtain ⟨d0, d1, d2, d3, d4, d5, d6, d7, d8⟩ := hd
  refine ⟨hR, rfl, fun j hj => ?_, fun j hj => ?_, fun k w hk _ => by omega, fun i h3 h4 => g10 i (by omega) h4⟩
  · match j, hj with
    | 0, _ => exact d0.trans g1.symm
    | 1, _ => exact d1.trans g2.symm
    | 2, _ => exact d2.trans g3.symm
    | 3, _ => exact d3.trans g4.symm
    | 4, _ => exact d4.trans g5.symm
    | 5, _ => exact d5.trans g6.symm
  · match j, hj with
    | 0, _ => exact d6.trans g7.symm
    | 1, _ => exact d7.trans g8.symm
    | 2, _ => exact d8.trans g9.symm
/-- the whole text read by both -/
theorem read_all {b rb values mo pe nu sn od fr0 : Nat → Int32} {n F : Nat} {num : Int64} {wA : Int32} (h : Al n b rb) (hF : n ≤ F) (hF5 : F ≤ 500) :
    ∃ good en at' ws hm hs er eA values' draft fr' m_at m_bh m_kind wA' num' hmm hsm, pX7_read (nI n) rb values (nI F) mo pe nu sn od = some (good, en, at', ws, hm, hs, er, eA, values', draft) ∧
      (∃ T, pX9_next b (nI n) (0 : Int32) num = some T ∧ pX9_readsAll fr0 b (nI n) T.1 T.2.1 T.2.2.1 (0 : Int32) wA T.2.2.2 (0 : Int32) (0 : Int32) = some (m_at, m_bh, m_kind, er, wA', num', hmm, hsm, fr')) ∧
      ((good = 1 ∧ er = 0 ∧ eA = -1 ∧ ∃ S N, RowN S N fr' ∧ NR S N fr' draft ∧ ∀ i, 65 ≤ i → i < 99 → fr' i = 0) ∨ (good = 0 ∧ ¬ er = 0 ∧ eA = wA')) := by
  have h5 := h.1
  have en : (if nI F < nI n then nI F else nI n) = nI n := if_neg (nI_nlt hF (by omega))
  obtain ⟨mo1, pe1, hd1, hd2⟩ := c_defaults mo pe
  obtain ⟨T, t1, t2⟩ := m_next (p := 0) h (by omega) num
  have hT : TK b rb n 0 T := ⟨by omega, t2⟩
  obtain ⟨e, w1, w2, w3, w4, w5, w6, w7⟩ := word_step h hT
  have e2 : pX7_wordIs_1100 rb (nI e) (nI (spx b n 0)) = some (if mt b (spx b n 0) e (kwd 0) then 1 else 0) := c_wordIs0 h w1 w2
  obtain ⟨frD, bD, gD⟩ := m_begins (6 : Int32) fr0
  have hDD := DR_begin (S := 6) nu gD rfl (by omega) (by omega) hd2
  have m2 : ¬ (-2 : Int32) = 0 := by decide
  -- the class behind an error of its head
  have cerr : ∀ (code pos y ws : Int32) (values' : Nat → Int32), ¬ code = 0 → pX7_readHead rb values (nI n) (0 : Int32) (0 : Int32) (-1 : Int32) (6 : Int32) = some (y, ws, code, pos, values', (6 : Int32)) → ∃ draft, pX7_read (nI n) rb values (nI F) mo pe nu sn od = some (0, nI n, y, ws, 0, 0, code, pos, values', draft) := fun code pos y ws values' hc hh => by
    obtain ⟨sn', od', q1, -, -⟩ := c_settle (sn := sn) (od := od) hDD.1 hDD.2.2.2.2.1 hDD.2.2.1 hDD.2.2.2.1
    unfold pX7_read
    rw [ob_eq hd1, en, ob_eq hh]
    refine ⟨(6, 0, tmk frD 0, mo1, pe1, nu, sn', od'), ?_⟩
    dsimp only
    rw [ob_eq (show lpX7_read_53 rb (nI n) lpF (0 : Int32) values' y ws (0 : Int32) (0 : Int32) code pos (0 : Int32) mo1 pe1 nu = _ from c_iterW (fu := 99999) hc)]
    rw [ob_eq (show pX2_settle (6 : Int32) (0 : Int32) mo1 pe1 nu sn od = _ from q1), if_pos hc]
  cases g0 : mt b (spx b n 0) e (kwd 0) with
  | false =>
    have k0 : ¬ T.2.2.1 = 0 := fun g => by rw [(w5 0 (by omega)).mp g] at g0; cases g0
    have hh : pX7_readHead rb values (nI n) (0 : Int32) (0 : Int32) (-1 : Int32) (6 : Int32) = some (nI e, nI (spx b n 0), -2, nI (spx b n 0), values, (6 : Int32)) := by
      unfold pX7_readHead
      rw [ob_eq (show pX7_takeWord rb (nI n) (0 : Int32) = _ from w3), ob_eq e2, g0, if_neg (show ¬ ¬ (if false = true then (1 : Int32) else 0) = 0 from fun g => g rfl)]
      rfl
    obtain ⟨draft, hc⟩ := cerr _ _ _ _ _ m2 hh
    obtain ⟨frZ, bZ, -⟩ := m_begins (0 : Int32) fr0
    refine ⟨_, _, _, _, _, _, _, _, _, _, frZ, T.1, T.2.1, T.2.2.1, T.1, T.2.2.2, 0, 0, hc, ⟨T, t1, ?_⟩, Or.inr ⟨rfl, m2, w4.symm⟩⟩
    unfold pX9_readsAll
    rw [must_no k0, ob_eq rfl, takes_w m2, ob_eq rfl, ob_eq bZ, must_w m2, ob_eq rfl, ob_eq (show lpX9_readsAll_25 b (nI n) lpF frZ T.1 T.2.1 T.2.2.1 (-2) T.1 T.2.2.2 0 0 = _ from m_iterW (fu := 99999) m2)]
  | true =>
    have k0 : T.2.2.1 = 0 := (w5 0 (by omega)).mpr g0
    have hw := w6 0 (by omega) g0
    obtain ⟨T0, q1, q2⟩ := must_word (wA := wA) h w2 k0 hw.1
    rcases c_take10001001 (values := values) h q2 wA (-1) with ⟨vs, p', T1, T', values', u1, u2, u3, u4, u5, u6⟩ | ⟨y, code, pos, values', vs, T1, w1', a1, T2, u0, u1, u2, u3⟩
    · obtain ⟨z0, v0, t0, m0, ev⟩ := mT_cons u2
      subst ev
      obtain ⟨zv, y1, y2, y3, y4, y5, y6⟩ := z0
      dsimp only at t0 m0 u6
      cases m0
      have hv := (u6.2 0 (by decide))
      rw [b10001001_0.1, b10001001_0.2] at hv
      have hv1 : values' 0 = zv := hv.1
      have hv2 : rg 1 12 zv := hv.2
      have hS : zv = nI zv.toInt.toNat := by
        unfold rg at hv2
        rw [fa_eq, nI_toInt (by omega)]
        omega
      have hS1 : 1 ≤ zv.toInt.toNat ∧ zv.toInt.toNat ≤ 12 := by
        unfold rg at hv2
        omega
      have hh : pX7_readHead rb values (nI n) (0 : Int32) (0 : Int32) (-1 : Int32) (6 : Int32) = some (nI p', nI (spx b n 0), 0, -1, values', zv) := by
        unfold pX7_readHead
        rw [ob_eq (show pX7_takeWord rb (nI n) (0 : Int32) = _ from w3), ob_eq e2, g0, if_pos (show ¬ (if true = true then (1 : Int32) else 0) = 0 by decide), ob_eq u1, if_neg (show ¬ (1 : Int32) = 0 by decide)]
        dsimp only
        rw [hv1]
      obtain ⟨frB, bB, gB⟩ := m_begins zv fr0
      have hDB := DR_begin (S := zv.toInt.toNat) nu gB hS hS1.1 hS1.2 hd2
      obtain ⟨i', v2, at2, ws2, hmc, hsc, er, eA, N2, nt2, mo2, pe2, nu2, frc, r1, r2, fr2, wA2, hmm, hsm, T2, r3, r4⟩ := read_both h lpF 0 p' values' T' (nI (spx b n 0)) 0 0 wA 0 frB 0 mo1 pe1 nu (by omega) (by omega) (by have := lpF_big; omega) u4 hDB
      obtain ⟨sn', od', s1, s2, s3⟩ := c_settle (sn := sn) (od := od) r2.1 r2.2.2.2.2.1 r2.2.2.1 r2.2.2.2.1
      have hnt := r2.2.1
      have hm : ∃ x1 x2 x3 x4 x5 x6, pX9_readsAll fr0 b (nI n) T.1 T.2.1 T.2.2.1 (0 : Int32) wA T.2.2.2 (0 : Int32) (0 : Int32) = some (x1, x2, x3, er, wA2, x4, x5, x6, fr2) := by
        unfold pX9_readsAll
        rw [ob_eq q1, ob_eq t0, ob_eq bB, ob_eq u3, ob_eq r3]
        exact ⟨_, _, _, _, _, _, rfl⟩
      obtain ⟨x1, x2, x3, x4, x5, x6, hm⟩ := hm
      have hcl : ∃ gd : Int32, (gd = if er = 0 then 1 else 0) ∧ pX7_read (nI n) rb values (nI F) mo pe nu sn od = some (gd, nI n, at2, ws2, hmc, hsc, er, eA, v2, (zv, nt2, tmk frc N2, mo2, pe2, nu2, sn', od')) := by
        unfold pX7_read
        rw [ob_eq hd1, en, ob_eq hh]
        dsimp only
        rw [ob_eq (show lpX7_read_53 rb (nI n) lpF (0 : Int32) values' (nI p') (nI (spx b n 0)) (0 : Int32) (0 : Int32) 0 (-1) (0 : Int32) mo1 pe1 nu = _ from r1)]
        rw [hS, hnt, ob_eq s1]
        dsimp only
        by_cases c : er = 0
        · rw [if_neg (show ¬ ¬ er = 0 from fun g => g c)]
          exact ⟨1, (if_pos c).symm, rfl⟩
        · rw [if_pos (show ¬ er = 0 from c)]
          exact ⟨0, (if_neg c).symm, rfl⟩
      obtain ⟨gd, hgd, hcl⟩ := hcl
      refine ⟨_, _, _, _, _, _, _, _, _, _, fr2, _, _, _, wA2, _, _, _, hcl, ⟨T, t1, hm⟩, ?_⟩
      rcases r4 with ⟨e0, e1', e2'⟩ | ⟨e0, e1'⟩
      · refine Or.inl ⟨by rw [hgd, if_pos e0], e0, e1', zv.toInt.toNat, N2, by rw [← e2']; exact r2.1, ?_, by rw [← e2']; exact r2.2.2.2.2.2⟩
        rw [← e2']
        exact ⟨hS, hnt, rfl, r2.2.2.1, r2.2.2.2.1, r2.2.2.2.2.1, s2, s3⟩
      · exact Or.inr ⟨by rw [hgd, if_neg e0], e0, e1'⟩
    · obtain ⟨z0, v0, t0, m0, rfl⟩ := mT_cons u2
      cases m0
      have hh : pX7_readHead rb values (nI n) (0 : Int32) (0 : Int32) (-1 : Int32) (6 : Int32) = some (y, nI (spx b n 0), code, pos, values', (6 : Int32)) := by
        unfold pX7_readHead
        rw [ob_eq (show pX7_takeWord rb (nI n) (0 : Int32) = _ from w3), ob_eq e2, g0, if_pos (show ¬ (if true = true then (1 : Int32) else 0) = 0 by decide), ob_eq u1, if_pos rfl]
      obtain ⟨draft, hc⟩ := cerr _ _ _ _ _ u0 hh
      obtain ⟨frB, bB, gB⟩ := m_begins z0.1 fr0
      refine ⟨_, _, _, _, _, _, _, _, _, _, frB, T2.1, T2.2.1, T2.2.2.1, pos, T2.2.2.2, 0, 0, hc, ⟨T, t1, ?_⟩, Or.inr ⟨rfl, u0, rfl⟩⟩
      unfold pX9_readsAll
      rw [ob_eq q1, ob_eq t0, ob_eq bB, ob_eq u3, ob_eq (show lpX9_readsAll_25 b (nI n) lpF frB T2.1 T2.2.1 T2.2.2.1 code pos T2.2.2.2 0 0 = _ from m_iterW (fu := 99999) u0)]
