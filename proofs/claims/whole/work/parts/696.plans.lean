/-! PLANS ASKED FOR: class and reference -/
def AnsL (e1 e2 : String) (o : Int64 ⊕ String) (v : Int64) (t : Int32) : Prop := (o = .inl v ∧ t = 0) ∨ (o = .inr e1 ∧ t = 1) ∨ (¬ e2 = "" ∧ o = .inr e2 ∧ t = 2)
theorem AnsL0 {e1 e2 : String} (v : Int64) : AnsL e1 e2 (.inl v) v 0 := Or.inl ⟨rfl, rfl⟩
theorem AnsL1 {e1 e2 : String} (v : Int64) : AnsL e1 e2 (.inr e1) v 1 := Or.inr (Or.inl ⟨rfl, rfl⟩)
theorem AnsL2 {e1 e2 : String} (v : Int64) (h : ¬ e2 = "" := by decide +kernel) : AnsL e1 e2 (.inr e2) v 2 := Or.inr (Or.inr ⟨h, rfl, rfl⟩)
/-- the caches of the class before and behind a call, and how they have grown -/
def CC (a : Nat → Int32) (S N P s0 : Nat) (vt vu : ReS) (vp : PlS) (vt' vu' : ReS) (vp' : PlS) (c k : Nat) : Prop :=
  CP a S N P s0 vt' vu' vp' ∧ (∀ vq, DV a S N P s0 vt vq → DV a S N P s0 vt' vq) ∧ Gp vt vt' vu vu' vp vp' c k
theorem CC_same {a : Nat → Int32} {S N P s0 : Nat} {vt vu : ReS} {vp : PlS} (hc : CP a S N P s0 vt vu vp) {c k : Nat} (h1 : c ≤ 14) (h2 : k ≤ 6) : CC a S N P s0 vt vu vp vt vu vp c k := ⟨hc, fun _ h => h, h1, by show _ ≤ _ + 6; omega⟩
theorem mm_planValue {S N P s0 : Nat} {a tb it is sn : Nat → Int32} {best : Nat → Int64} {fT : Int32} (hi : Sit S N P s0 a) (hP : a 65 = nI P) (hm : ∀ k, k < 6 → a (69 + k) = nI (dg s0 k)) : ∃ o, pX9_planValue a tb it is best sn (-1 : Int32) fT = some (Vd a S N P 0 0 0 (S - P) s0, o) := by
  obtain ⟨tb', it', is', best', sn', h, -, -⟩ := m_plans (tb := tb) (it := it) (is := is) (sn := sn) (best := best) hi hP hm (Kd0 (fT := fT))
  unfold pX9_planValue
  rw [ob_eq h]
  exact ⟨_, rfl⟩
theorem w_planValue {S N P s0 : Nat} {a tb it is sn : Nat → Int32} {best : Nat → Int64} {fT : Int32} {vn : NiS} {vg : PrS} {vt vu : ReS} {vp : PlS} (h : SR S N P s0 a vn vg) (hc : CP a S N P s0 vt vu vp) : ∃ v vt' vu' vp' c k o, pX8_planValue vn vg vt vu vp = some (v, vt', vu', vp', c, k) ∧ pX9_planValue a tb it is best sn (-1 : Int32) fT = some (v, o) ∧ CC a S N P s0 vt vu vp vt' vu' vp' c k := by
  obtain ⟨vt', vu', vp', c, k, h1, h2, h3, h4⟩ := q_planValue h hc
  obtain ⟨o, h5⟩ := mm_planValue (tb := tb) (it := it) (is := is) (sn := sn) (best := best) (fT := fT) h.1 h.2.1 h.2.2.1
  exact ⟨_, vt', vu', vp', c, k, o, h1, h5, h2, h3, h4⟩
theorem w_planCount {S N P s0 : Nat} {a tb it is sn : Nat → Int32} {best ws wn : Nat → Int64} {fT : Int32} {vn : NiS} {vg : PrS} {vt vu : ReS} {vp : PlS} (h : SR S N P s0 a vn vg) (hc : CP a S N P s0 vt vu vp) : ∃ v vt' vu' vp' c k o, pX8_planCount vn vg vt vu vp = some (v, vt', vu', vp', c, k) ∧ pX9_planCount a tb it is best sn (-1 : Int32) fT ws wn = some (v, o) ∧ CC a S N P s0 vt vu vp vt' vu' vp' c k := by
  obtain ⟨vt', vu', vp', c, k, h1, h2, h3, h4⟩ := q_planCount h hc
  obtain ⟨tb', it', is', best', sn', ws', wn', h5⟩ := m_planCount (tb := tb) (it := it) (is := is) (sn := sn) (best := best) (ws := ws) (wn := wn) (fT := fT) h.1 h.2.1 h.2.2.1
  exact ⟨_, vt', vu', vp', c, k, _, h1, h5, h2, h3, h4⟩
theorem cI_enc {N c : Nat} (hN : N ≤ 6) : (if ¬ nI (enc N c) = (7 : Int32) then some (nI (enc N c)) else some (-1 : Int32)) = some (cI N c) := by
  unfold enc cI
  by_cases h : c < N
  · rw [if_pos h, if_pos h, if_pos (fun e => by have := (keq 7 (by omega) (by omega)).mp e; omega)]
  · rw [if_neg h, if_neg h, if_neg (show ¬ ¬ nI 7 = (7 : Int32) from fun q => q rfl)]
theorem w_planned {S N P s0 : Nat} {a tb it is sn : Nat → Int32} {best : Nat → Int64} {fT : Int32} {vn : NiS} {vg : PrS} {vt vu : ReS} {vp : PlS} (h : SR S N P s0 a vn vg) (hc : CP a S N P s0 vt vu vp) (x : Int32) : ∃ o vt' vu' vp' c k v t m, pX8_planned x vn vg vt vu vp = some (o, vt', vu', vp', c, k) ∧ pX9_planned x a tb it is best sn (-1 : Int32) fT = some (v, t, m) ∧ Ans "java/lang/IndexOutOfBoundsException" "" o v t ∧ CC a S N P s0 vt vu vp vt' vu' vp' c k := by
  unfold pX8_planned pX9_planned
  rcases ahead h x with ⟨sl, h1, h2, rfl⟩ | ⟨⟨c, k, h1, h3, h4⟩, h2⟩
  · obtain ⟨h3, h4⟩ := ahead_yes h h1 h2
    obtain ⟨hi, hP, hm, hsk, hov, hps, hn, hp⟩ := h
    obtain ⟨n1, n2, n3, n4, n5, n6, n7, n8⟩ := hn
    obtain ⟨p1, p2, p3, p4, p5, p6, p7⟩ := hp
    have hS := hi.1.2.1
    have hN := hi.1.2.2.1
    have h46 := pow_le6 hN
    have hs0 := hi.2.2.1
    obtain ⟨kd, cs, ct, pk, kn, sp, sz, m, st, wt, er, n', vs', ws', fi', c, k, g1, g2, g3, g4, g5, g6⟩ := cp_findBest (vu := vu) hi n6 n8 n7 hc.1 hc.2.2
    obtain ⟨tb', it', is', best', sn', q1, q2, q3⟩ := m_plans (tb := tb) (it := it) (is := is) (sn := sn) (best := best) hi hP hm (Kd0 (fT := fT))
    obtain ⟨s', r1, r2, r3⟩ := m_walk hi.1 hP hi.2.1 q2 q3 h2 lpF P s0 (Nat.le_refl _) h1 (by have := lpF_big; omega) (gd_self hi.2.2)
    have hd : sl + (S - sl - 1 + 1) = S := by omega
    have r4 := m_firstOf hi.1 hP hi.2.1 q2 r2 hd h1 q3
    have r5 := Fn_own (a := a) (P := P) (s := s') hN (show S - sl - 1 < S by omega)
    rw [show S - (S - sl - 1 + 1) = sl by omega, show S - sl - 1 + 1 = S - sl by omega, ← r3 sl (Nat.le_refl _)] at r5
    have r6 : pX4_targetOfBest (nI sl) (lN (Fn a S N P (S - P) s0)) = some (cI N (chc a S N P (S - sl - 1) s')) := by
      unfold pX4_targetOfBest
      rw [ext_8 (Fn_63 hN hS (by omega)) (by omega), r5]
      exact cI_enc hN
    rw [h3, ob_eq rfl, h4, ob_eq rfl, if_neg (show ¬ (1 : Int32) = 0 by decide), ob_eq q1, ob_eq (m_stateNow hm (by omega)), hP, ob_eq r1, ob_eq r4]
    dsimp only
    rw [n1, n2, n3, p1, p2, p4, p5, ob_eq g1, ob_eq r6]
    refine ⟨_, (vt.1, kn, sp, sz, m, st, m, wt, m, er), vu, (kd, cs, ct, n', vs', n', ws', n', fi', pk, _, _, _), _, _, _, _, _, rfl, rfl, Ans0 _, ⟨g2, hc.2.1, g4, rfl, rfl, Or.inr ⟨rfl, rfl, rfl⟩⟩, g3, ?_, ?_⟩
    · show 0 + 0 + c ≤ 14
      omega
    · show 0 + 0 + k + _ + _ + _ ≤ 6 * m + _ + 6 * n' + 6
      omega
  · rw [h1, ob_eq rfl, h2, ob_eq rfl, if_pos rfl]
    exact ⟨_, _, _, _, _, _, _, _, _, rfl, rfl, Ans1 _, CC_same hc (by omega) (by omega)⟩
theorem w_with {S N P s0 : Nat} {a tb it is sn : Nat → Int32} {best : Nat → Int64} {fT : Int32} {vn : NiS} {vg : PrS} {vt vu : ReS} {vp : PlS} (h : SR S N P s0 a vn vg) (hc : CP a S N P s0 vt vu vp) (x y : Int32) : ∃ o vt' vu' vp' c k v t fT' m, pX8_planValueWith x y vn vg vt vu vp = some (o, vt', vu', vp', c, k) ∧ pX9_planValueWith x y a tb it is best sn (-1 : Int32) fT = some (v, t, (-1 : Int32), fT', m) ∧ AnsL "java/lang/IndexOutOfBoundsException" "java/util/NoSuchElementException" o v t ∧ CC a S N P s0 vt vu vp vt' vu' vp' c k := by
  unfold pX8_planValueWith pX9_planValueWith
  rcases ahead h x with ⟨sl, h1, h2, rfl⟩ | ⟨⟨c, k, h1, h3, h4⟩, h2⟩
  · obtain ⟨h3, h4⟩ := ahead_yes h h1 h2
    obtain ⟨hi, hP, hm, hsk, hov, hps, hn, hp⟩ := h
    obtain ⟨n1, n2, n3, n4, n5, n6, n7, n8⟩ := hn
    obtain ⟨p1, p2, p3, p4, p5, p6, p7⟩ := hp
    have hS := hi.1.2.1
    have hN := hi.1.2.2.1
    rw [h3, ob_eq rfl, h4, ob_eq rfl, if_neg (show ¬ (1 : Int32) = 0 by decide)]
    dsimp only
    rcases ins N (by omega) y with hy | ⟨j, hj, rfl⟩
    · rw [c_tg_no (by omega) n2 hy, ob_eq rfl, m_tg_no hi.1 hy, ob_eq rfl, if_pos rfl]
      exact ⟨_, _, _, _, _, _, _, _, _, _, rfl, rfl, AnsL1 _, CC_same hc (by omega) (by omega)⟩
    · have hK : Kd 1 sl j (-1) 1 0 (nI sl) (nI j) := ⟨by omega, by omega, by omega, rfl, rfl, rfl, rfl, rfl⟩
      obtain ⟨tb', it', is', best', sn', q1, q2, q3⟩ := m_plans (tb := tb) (it := it) (is := is) (sn := sn) (best := best) hi hP hm hK
      obtain ⟨u1, u2, u3, u4⟩ := hc.2.2
      obtain ⟨kd, cs, ct, n, vs, nn2, ws, nn3, fi, pk, bv, bw, bf⟩ := vp
      simp only at u1 u2 u3 u4
      subst u2 u3
      obtain ⟨kn, sp, sz, m, st, wt, er, n', vs', ws', fi', c, k, g1, g2, g2k, g3, g4, g5, g6, g7⟩ := cp_most2 (kd := 1) (fs := sl) (ft := j) (x2 := nI sl) (x3 := nI j) (vs := vs) (ws := ws) (fi := fi) (vu := vu) hi n6 n8 n7 ⟨by omega, by omega, by omega, fun _ => ⟨rfl, rfl⟩, fun _ => rfl⟩ rfl (fun h => by omega) u1 hc.1
      have hr := Vd_rng hi.1 P 1 sl j (S - P) (by omega) s0
      rw [c_tg_yes (by omega) n2 hj, ob_eq rfl, m_tg_yes hi.1 hj, ob_eq rfl, if_neg (show ¬ (1 : Int32) = 0 by decide), ob_eq q1]
      dsimp only
      rw [n1, n2, n3, p1, p2, p4, p5, ob_eq (show pX4_most (1 : Int32) _ _ _ _ _ _ _ _ _ _ _ _ _ _ _ _ _ _ _ _ _ _ _ _ _ _ _ _ _ _ _ _ _ _ _ _ _ _ = _ from g1)]
      by_cases c0 : Vd a S N P 1 sl j (S - P) s0 = -1
      · rw [if_neg (show ¬ ¬ lg_cmp _ _ = 0 from fun q => q (by rw [lg_cmp_eq]; exact c0)), if_neg (fun q => by
          rw [lg_cmp_ge, c0, fa_le64] at q
          rw [m1_toInt, z_toInt] at q
          omega)]
        refine ⟨_, (vt.1, kn, sp, sz, m, st, m, wt, m, er), vu, (nI 1, nI sl, nI j, n', vs', n', ws', n', fi', pk, bv, bw, bf), _, _, _, _, _, _, rfl, rfl, AnsL2 _, ⟨g2, hc.2.1, g3, rfl, rfl, u4⟩, fun vq hd => DV_vt g2k hd, ?_, ?_⟩
        · show 0 + 0 + 0 + c + 1 ≤ 14
          omega
        · show 0 + 0 + 0 + k + 6 + 6 * vt.2.2.2.2.1 + 6 * vu.2.2.2.2.1 + 6 * nn3 ≤ 6 * m + 6 * vu.2.2.2.2.1 + 6 * n' + 6
          omega
      · have c1 : 0 ≤ (Vd a S N P 1 sl j (S - P) s0).toInt := by
          have : ¬ (Vd a S N P 1 sl j (S - P) s0).toInt = -1 := fun e => c0 (by rw [fa_eq64, m1_toInt]; exact e)
          omega
        rw [if_pos (show ¬ lg_cmp _ _ = 0 from fun q => c0 (by rw [lg_cmp_eq] at q; exact q)), if_pos (by
          rw [lg_cmp_ge, fa_le64, z_toInt]
          exact c1)]
        refine ⟨_, (vt.1, kn, sp, sz, m, st, m, wt, m, er), vu, (nI 1, nI sl, nI j, n', vs', n', ws', n', fi', pk, bv, bw, bf), _, _, _, _, _, _, rfl, rfl, AnsL0 _, ⟨g2, hc.2.1, g3, rfl, rfl, u4⟩, fun vq hd => DV_vt g2k hd, ?_, ?_⟩
        · show 0 + 0 + 0 + c ≤ 14
          omega
        · show 0 + 0 + 0 + k + 6 * vt.2.2.2.2.1 + 6 * vu.2.2.2.2.1 + 6 * nn3 ≤ 6 * m + 6 * vu.2.2.2.2.1 + 6 * n' + 6
          omega
  · rw [h1, ob_eq rfl, h2, ob_eq rfl, if_pos rfl]
    exact ⟨_, _, _, _, _, _, _, _, _, _, rfl, rfl, AnsL1 _, CC_same hc (by omega) (by omega)⟩
theorem w_worth {S N P s0 : Nat} {a tb it is sn : Nat → Int32} {best : Nat → Int64} {fT : Int32} {vn : NiS} {vg : PrS} {vt vu : ReS} {vp : PlS} (h : SR S N P s0 a vn vg) (hc : CP a S N P s0 vt vu vp) (x : Int32) : ∃ o vt' vu' vp' c k v t m, pX8_worth x vn vg vt vu vp = some (o, vt', vu', vp', c, k) ∧ pX9_worth x a tb it is best sn (-1 : Int32) fT = some (v, t, m) ∧ AnsL "java/lang/IndexOutOfBoundsException" "" o v t ∧ CC a S N P s0 vt vu vp vt' vu' vp' c k := by
  obtain ⟨hi, hP, hm, hsk, hov, hps, hn, hp⟩ := h
  obtain ⟨n1, n2, n3, n4, n5, n6, n7, n8⟩ := hn
  obtain ⟨p1, p2, p3, p4, p5, p6, p7⟩ := hp
  have hS := hi.1.2.1
  have hN := hi.1.2.2.1
  unfold pX8_worth pX9_worth
  rcases ins N (by omega) x with hx | ⟨j, hj, rfl⟩
  · rw [c_tg_no (by omega) n2 hx, ob_eq rfl, m_tg_no hi.1 hx, ob_eq rfl, if_pos rfl]
    exact ⟨_, _, _, _, _, _, _, _, _, rfl, rfl, AnsL1 _, CC_same hc (by omega) (by omega)⟩
  · obtain ⟨tb1, it1, is1, best1, sn1, q1, -, -⟩ := m_plans (tb := tb) (it := it) (is := is) (sn := sn) (best := best) hi hP hm (Kd0 (fT := fT))
    have hK : Kd 2 0 j (nI j) 1 0 (-1) fT := ⟨by omega, by omega, by omega, rfl, rfl, rfl, rfl⟩
    obtain ⟨tb2, it2, is2, best2, sn2, q2, -, -⟩ := m_plans (tb := tb1) (it := it1) (is := is1) (sn := sn1) (best := best1) hi hP hm hK
    obtain ⟨kd, cs, ct, pk, kn, sp, sz, m, st, wt, er, n', vs', ws', fi', c, k, g1, g2, g3, g4, g5, g6⟩ := cp_findBest (vu := vu) hi n6 n8 n7 hc.1 hc.2.2
    obtain ⟨kn2, sp2, sz2, m2, st2, wt2, er2, n2', vs2, ws2, fi2, c2, k2, e1, e2, e2k, e3, e4, e5, e6, e7⟩ := cp_most2 (kd := 2) (fs := 0) (ft := j) (x2 := -1) (x3 := nI j) (n := n') (vs := vs') (ws := ws') (fi := fi') (vt := (vt.1, kn, sp, sz, m, st, m, wt, m, er)) (vu := vu) hi n6 n8 n7 ⟨by omega, by omega, by omega, fun h => by omega, fun _ => rfl⟩ rfl (fun h => by omega) g4 g2
    rw [c_tg_yes (by omega) n2 hj, ob_eq rfl, m_tg_yes hi.1 hj, ob_eq rfl, if_neg (show ¬ (1 : Int32) = 0 by decide), ob_eq q1, ob_eq q2]
    dsimp only
    rw [n1, n2, n3, p1, p2, p4, p5, ob_eq g1, ob_eq (show pX4_most (2 : Int32) _ _ _ _ _ _ _ _ _ _ _ _ _ _ _ _ _ _ _ _ _ _ _ _ _ _ _ _ _ _ _ _ _ _ _ _ _ _ = _ from e1)]
    refine ⟨_, (vt.1, kn2, sp2, sz2, m2, st2, m2, wt2, m2, er2), vu, (nI 2, -1, nI j, n2', vs2, n2', ws2, n2', fi2, pk, _, _, _), _, _, _, _, _, rfl, rfl, AnsL0 _, ⟨e2, hc.2.1, e3, rfl, rfl, Or.inr ⟨rfl, rfl, rfl⟩⟩, fun vq hd => DV_vt e2k hd, ?_, ?_⟩
    · show 0 + 0 + c + c2 ≤ 14
      omega
    · show 0 + 0 + k + k2 + _ + _ + _ ≤ 6 * m2 + _ + 6 * n2' + 6
      have e7' : k2 + 6 * m + 6 * n' ≤ 6 * m2 + 6 * n2' := e7
      omega
theorem w_price {S N P s0 : Nat} {a tb it is sn : Nat → Int32} {best : Nat → Int64} {fT : Int32} {vn : NiS} {vg : PrS} {vt vu : ReS} {vp : PlS} (h : SR S N P s0 a vn vg) (hc : CP a S N P s0 vt vu vp) : ∃ v vt' vu' vp' c k m, pX8_priceOfTurns vn vg vt vu vp = some (v, vt', vu', vp', c, k) ∧ pX9_priceOfTurns a tb it is best sn (-1 : Int32) fT = some (v, m) ∧ CC a S N P s0 vt vu vp vt' vu' vp' c k := by
  obtain ⟨hi, hP, hm, hsk, hov, hps, hn, hp⟩ := h
  obtain ⟨n1, n2, n3, n4, n5, n6, n7, n8⟩ := hn
  obtain ⟨p1, p2, p3, p4, p5, p6, p7⟩ := hp
  have hS := hi.1.2.1
  have hN := hi.1.2.2.1
  unfold pX8_priceOfTurns pX9_priceOfTurns
  have hK : Kd 3 0 0 (-1) 0 0 (-1) fT := ⟨by omega, by omega, by omega, rfl, rfl, rfl, rfl⟩
  obtain ⟨tb1, it1, is1, best1, sn1, q1, -, -⟩ := m_plans (tb := tb) (it := it) (is := is) (sn := sn) (best := best) hi hP hm hK
  obtain ⟨tb2, it2, is2, best2, sn2, q2, -, -⟩ := m_plans (tb := tb1) (it := it1) (is := is1) (sn := sn1) (best := best1) hi hP hm (Kd0 (fT := fT))
  obtain ⟨kd, cs, ct, pk, kn, sp, sz, m, st, wt, er, n', vs', ws', fi', c, k, g1, g2, g3, g4, g5, g6⟩ := cp_findBest (vu := vu) hi n6 n8 n7 hc.1 hc.2.2
  obtain ⟨kn2, sp2, sz2, m2, st2, wt2, er2, n2', vs2, ws2, fi2, c2, k2, e1, e2, e3, e4, e5⟩ := cp_most3 (kd := 3) (fs := 0) (ft := 0) (x2 := -1) (x3 := -1) (n := n') (vs := vs') (ws := ws') (fi := fi') (vt := (vt.1, kn, sp, sz, m, st, m, wt, m, er)) (vu := vu) hi n6 n8 n7 ⟨by omega, by omega, by omega, fun h => by omega, fun h => by omega⟩ rfl g4 hc.2.1
  rw [ob_eq q1, ob_eq q2, n1, n2, n3, p1, p2, p4, p5, ob_eq g1, ob_eq (show pX4_most (3 : Int32) _ _ _ _ _ _ _ _ _ _ _ _ _ _ _ _ _ _ _ _ _ _ _ _ _ _ _ _ _ _ _ _ _ _ _ _ _ _ = _ from e1)]
  refine ⟨_, (vt.1, kn, sp, sz, m, st, m, wt, m, er), (vu.1, kn2, sp2, sz2, m2, st2, m2, wt2, m2, er2), (nI 3, -1, -1, n2', vs2, n2', ws2, n2', fi2, pk, _, _, _), _, _, _, rfl, rfl, ⟨g2, e2, e3, rfl, rfl, Or.inr ⟨rfl, rfl, rfl⟩⟩, g3, ?_, ?_⟩
  · show 0 + c + c2 ≤ 14
    omega
  · show 0 + k + k2 + _ + _ + _ ≤ 6 * m + 6 * m2 + 6 * n2' + 6
    omega
theorem w_most {S N P s0 : Nat} {a tb it is sn : Nat → Int32} {best : Nat → Int64} {fT : Int32} {vn : NiS} {vg : PrS} {vt vu : ReS} {vp : PlS} (h : SR S N P s0 a vn vg) (hc : CP a S N P s0 vt vu vp) (x : Int32) (hx : x = 0 ∨ x = 1) : ∃ v vt' vu' vp' c k m, pX8_mostExposures x vn vg vt vu vp = some (v, vt', vu', vp', c, k) ∧ pX9_mostExposures x a tb it is best sn (-1 : Int32) fT = some (v, m) ∧ CC a S N P s0 vt vu vp vt' vu' vp' c k := by
  obtain ⟨hi, hP, hm, hsk, hov, hps, hn, hp⟩ := h
  obtain ⟨n1, n2, n3, n4, n5, n6, n7, n8⟩ := hn
  obtain ⟨p1, p2, p3, p4, p5, p6, p7⟩ := hp
  have hS := hi.1.2.1
  have hN := hi.1.2.2.1
  obtain ⟨u1, u2, u3, u4⟩ := hc.2.2
  obtain ⟨kd, cs, ct, n, vs, nn2, ws, nn3, fi, pk, bv, bw, bf⟩ := vp
  simp only at u1 u2 u3 u4
  subst u2 u3
  unfold pX8_mostExposures pX9_mostExposures
  rcases hx with rfl | rfl
  · have hK : Kd 5 0 0 (-1) 0 1 (-1) fT := ⟨by omega, by omega, by omega, rfl, rfl, rfl, rfl⟩
    obtain ⟨tb1, it1, is1, best1, sn1, q1, -, -⟩ := m_plans (tb := tb) (it := it) (is := is) (sn := sn) (best := best) hi hP hm hK
    obtain ⟨kn2, sp2, sz2, m2, st2, wt2, er2, n2', vs2, ws2, fi2, c2, k2, e1, e2, e3, e4, e5⟩ := cp_most3 (kd := 5) (fs := 0) (ft := 0) (x2 := -1) (x3 := -1) (vs := vs) (ws := ws) (fi := fi) (vt := vt) (vu := vu) hi n6 n8 n7 ⟨by omega, by omega, by omega, fun h => by omega, fun h => by omega⟩ rfl u1 hc.2.1
    rw [if_pos rfl, ob_eq q1, n1, n2, n3, p1, p2, p4, p5, ob_eq (show pX4_most (5 : Int32) _ _ _ _ _ _ _ _ _ _ _ _ _ _ _ _ _ _ _ _ _ _ _ _ _ _ _ _ _ _ _ _ _ _ _ _ _ _ = _ from e1)]
    refine ⟨_, vt, (vu.1, kn2, sp2, sz2, m2, st2, m2, wt2, m2, er2), (nI 5, -1, -1, n2', vs2, n2', ws2, n2', fi2, pk, bv, bw, bf), _, _, _, rfl, rfl, ⟨hc.1, e2, e3, rfl, rfl, u4⟩, fun _ h => h, ?_, ?_⟩
    · show 0 + c2 ≤ 14
      omega
    · show 0 + k2 + 6 * vt.2.2.2.2.1 + 6 * vu.2.2.2.2.1 + 6 * nn3 ≤ 6 * vt.2.2.2.2.1 + 6 * m2 + 6 * n2' + 6
      omega
  · have hK : Kd 4 0 0 (-1) 1 1 (-1) fT := ⟨by omega, by omega, by omega, rfl, rfl, rfl, rfl⟩
    obtain ⟨tb1, it1, is1, best1, sn1, q1, -, -⟩ := m_plans (tb := tb) (it := it) (is := is) (sn := sn) (best := best) hi hP hm hK
    obtain ⟨kn2, sp2, sz2, m2, st2, wt2, er2, n2', vs2, ws2, fi2, c2, k2, e1, e2, e2k, e3, e4, e5, e6, e7⟩ := cp_most2 (kd := 4) (fs := 0) (ft := 0) (x2 := -1) (x3 := -1) (vs := vs) (ws := ws) (fi := fi) (vt := vt) (vu := vu) hi n6 n8 n7 ⟨by omega, by omega, by omega, fun h => by omega, fun h => by omega⟩ rfl (fun h => by omega) u1 hc.1
    rw [if_neg (show ¬ (1 : Int32) = 0 by decide), ob_eq q1, n1, n2, n3, p1, p2, p4, p5, ob_eq (show pX4_most (4 : Int32) _ _ _ _ _ _ _ _ _ _ _ _ _ _ _ _ _ _ _ _ _ _ _ _ _ _ _ _ _ _ _ _ _ _ _ _ _ _ = _ from e1)]
    refine ⟨_, (vt.1, kn2, sp2, sz2, m2, st2, m2, wt2, m2, er2), vu, (nI 4, -1, -1, n2', vs2, n2', ws2, n2', fi2, pk, bv, bw, bf), _, _, _, rfl, rfl, ⟨e2, hc.2.1, e3, rfl, rfl, u4⟩, fun vq hd => DV_vt e2k hd, ?_, ?_⟩
    · show 0 + c2 ≤ 14
      omega
    · show 0 + k2 + 6 * vt.2.2.2.2.1 + 6 * vu.2.2.2.2.1 + 6 * nn3 ≤ 6 * m2 + 6 * vu.2.2.2.2.1 + 6 * n2' + 6
      omega
theorem w_greedy {S N P s0 : Nat} {a tb it is sn : Nat → Int32} {vn : NiS} {vg : PrS} (h : SR S N P s0 a vn vg) : ∃ v m, pX8_greedyValue vn vg = some v ∧ pX9_greedyValue a tb it is sn = some (v, m) := by
  obtain ⟨hi, hP, hm, hsk, hov, hps, hn, hp⟩ := h
  obtain ⟨n1, n2, n3, n4, n5, n6, n7, n8⟩ := hn
  obtain ⟨p1, p2, p3, p4, p5, p6, p7⟩ := hp
  have hS := hi.1.2.1
  have hN := hi.1.2.2.1
  have h46 := pow_le6 hN
  have hs0 := hi.2.2.1
  obtain ⟨tb', it', is', sn', q1, q2⟩ := m_lays (tb := tb) (it := it) (is := is) (sn := sn) (b := true) (wT := 1) hi.1 hm hs0 rfl
  obtain ⟨g', s', q3, q4⟩ := greedy_both hi.1 hP hi.2.1 n6 n8 n7 q2 lpF P s0 0 hi.2.1 (by have := lpF_big; omega) (gd_self hi.2.2)
  unfold pX8_greedyValue pX4_valueOfGreedy pX9_greedyValue
  rw [n1, n2, n3, p1, p2, p4, p5, ob_eq q3, ob_eq rfl, ob_eq q1, ob_eq (m_stateNow hm (by omega)), hP, ob_eq q4]
  exact ⟨_, _, rfl, rfl⟩
