/-! PLANS ASKED FOR: the class -/
theorem DV_vt {S N P s0 : Nat} {a : Nat → Int32} {vt vt' : ReS} {vq : DeS} (h : RVk true a S N P s0 vt') (hd : DV a S N P s0 vt vq) : DV a S N P s0 vt' vq := by
  obtain ⟨d1, d2, d3, d4, d5⟩ := hd
  exact ⟨d1, d2, d3, d4, d5.imp id (fun q => ⟨h, q.2⟩)⟩
/-- the state of the class that plans rest on -/
def CP (a : Nat → Int32) (S N P s0 : Nat) (vt vu : ReS) (vp : PlS) : Prop := RV true a S N P s0 vt ∧ RV false a S N P s0 vu ∧ PV a S N P s0 vp
def Gp (vt vt' vu vu' : ReS) (vp vp' : PlS) (c k : Nat) : Prop := c ≤ 14 ∧ k + 6 * vt.2.2.2.2.1 + 6 * vu.2.2.2.2.1 + 6 * vp.2.2.2.1 ≤ 6 * vt'.2.2.2.2.1 + 6 * vu'.2.2.2.2.1 + 6 * vp'.2.2.2.1 + 6
theorem cp_findBest {a f od sn : Nat → Int32} {S N P s0 : Nat} {vt vu : ReS} {vp : PlS} (hi : Sit S N P s0 a) (hu : Nu N a f) (ho : ∀ t, t < S → od t = odF a t) (hsn : ∀ t, t < S → sn t = msk (obs a · t) N) (hv : RV true a S N P s0 vt) (hp : PV a S N P s0 vp) :
    ∃ kd cs ct pk kn sp sz m st wt er n' vs' ws' fi' c k, pX4_findBest vp.1 vp.2.1 vp.2.2.1 vp.2.2.2.1 vp.2.2.2.2.1 vp.2.2.2.2.2.1 vp.2.2.2.2.2.2.1 vp.2.2.2.2.2.2.2.1 vp.2.2.2.2.2.2.2.2.1 vp.2.2.2.2.2.2.2.2.2.1 vp.2.2.2.2.2.2.2.2.2.2.1 vp.2.2.2.2.2.2.2.2.2.2.2.1 vp.2.2.2.2.2.2.2.2.2.2.2.2 (nI S) (nI N) (tmk a N) f sn od (nI P) (a 67) (a 68) (nI s0) vt.1 vt.2.1 vt.2.2.1 vt.2.2.2.1 vt.2.2.2.2.1 vt.2.2.2.2.2.1 vt.2.2.2.2.2.2.1 vt.2.2.2.2.2.2.2.1 vt.2.2.2.2.2.2.2.2.1 vt.2.2.2.2.2.2.2.2.2 vu.1 vu.2.1 vu.2.2.1 vu.2.2.2.1 vu.2.2.2.2.1 vu.2.2.2.2.2.1 vu.2.2.2.2.2.2.1 vu.2.2.2.2.2.2.2.1 vu.2.2.2.2.2.2.2.2.1 vu.2.2.2.2.2.2.2.2.2 = some (kd, cs, ct, pk, Vd a S N P 0 0 0 (S - P) s0, Wd a S N P (S - P) s0, lN (Fn a S N P (S - P) s0), kn, sp, sz, m, st, m, wt, m, er, vu.2.1, vu.2.2.1, vu.2.2.2.1, vu.2.2.2.2.1, vu.2.2.2.2.2.1, vu.2.2.2.2.2.2.1, vu.2.2.2.2.2.2.2.1, vu.2.2.2.2.2.2.2.2.1, vu.2.2.2.2.2.2.2.2.2, n', vs', n', ws', n', fi', c, k) ∧
      RV true a S N P s0 (vt.1, kn, sp, sz, m, st, m, wt, m, er) ∧ (∀ vq, DV a S N P s0 vt vq → DV a S N P s0 (vt.1, kn, sp, sz, m, st, m, wt, m, er) vq) ∧ Len n' ∧ c ≤ 6 ∧ k + 6 * vt.2.2.2.2.1 + 6 * vp.2.2.2.1 ≤ 6 * m + 6 * n' := by
  obtain ⟨kd, cs, ct, n, vs, n2, ws, n3, fi, pk, bv, bw, bf⟩ := vp
  obtain ⟨q1, q2, q3, q4⟩ := hp
  simp only at q1 q2 q3 q4 ⊢
  subst q2 q3
  unfold pX4_findBest
  by_cases hk : pk = 0
  · obtain ⟨kn, sp, sz, m, st, wt, er, n', vs', ws', fi', c, k, g1, g2, g2k, g3, g4, g5, g6, g7⟩ := cp_most2 (kd := 0) (fs := 0) (ft := 0) (x2 := -1) (x3 := -1) (vs := vs) (ws := ws) (fi := fi) (vu := vu) hi hu ho hsn ⟨by omega, by omega, by omega, fun h => by omega, fun h => by omega⟩ rfl (fun _ => ⟨rfl, rfl⟩) q1 hv
    obtain ⟨g5a, g5b⟩ := g5 rfl
    have l1 := Len_lt g3
    refine ⟨nI 0, -1, -1, 1, kn, sp, sz, m, st, wt, er, n', vs', ws', fi', 0 + c, 0 + k, ?_, g2, fun vq hd => DV_vt g2k hd, g3, by omega, by omega⟩
    rw [if_neg (show ¬ ¬ pk = 0 from fun h => h hk)]
    refine (ob_eq g1).trans ?_
    dsimp only
    rw [if_neg (nI_in (show s0 < n' from g4) (by omega)), if_neg (nI_in (show s0 < n' from g4) (by omega)), nI_clamp (by omega : s0 < 2 ^ 31), g5a, g5b]
  · obtain ⟨b1, b2, b3⟩ := q4.resolve_left hk
    obtain ⟨wT, kn, sp, sz, m, st, m2, wt, m3, er⟩ := vt
    obtain ⟨v1, v2, v3, v4, v5⟩ := hv
    simp only at v1 v2 v3 v4 v5 ⊢
    subst v3 v4 b1 b2 b3
    rw [if_pos hk]
    exact ⟨kd, cs, ct, pk, kn, sp, sz, m3, st, wt, er, n3, vs, ws, fi, 0, 0, rfl, ⟨v1, v2, rfl, rfl, v5⟩, fun vq hd => hd, q1, by omega, by omega⟩
theorem q_planValue {S N P s0 : Nat} {a : Nat → Int32} {vn : NiS} {vg : PrS} {vt vu : ReS} {vp : PlS} (h : SR S N P s0 a vn vg) (hc : CP a S N P s0 vt vu vp) : ∃ vt' vu' vp' c k, pX8_planValue vn vg vt vu vp = some (Vd a S N P 0 0 0 (S - P) s0, vt', vu', vp', c, k) ∧ CP a S N P s0 vt' vu' vp' ∧ (∀ vq, DV a S N P s0 vt vq → DV a S N P s0 vt' vq) ∧ Gp vt vt' vu vu' vp vp' c k := by
  obtain ⟨hi, hP, hm, hsk, hov, hps, hn, hp⟩ := h
  obtain ⟨n1, n2, n3, n4, n5, n6, n7, n8⟩ := hn
  obtain ⟨p1, p2, p3, p4, p5, p6, p7⟩ := hp
  obtain ⟨kd, cs, ct, pk, kn, sp, sz, m, st, wt, er, n', vs', ws', fi', c, k, g1, g2, g3, g4, g5, g6⟩ := cp_findBest (vu := vu) hi n6 n8 n7 hc.1 hc.2.2
  refine ⟨(vt.1, kn, sp, sz, m, st, m, wt, m, er), vu, (kd, cs, ct, n', vs', n', ws', n', fi', pk, _, _, _), 0 + c, 0 + k, ?_, ⟨g2, hc.2.1, g4, rfl, rfl, Or.inr ⟨rfl, rfl, rfl⟩⟩, g3, by omega, by show 0 + k + _ + _ + _ ≤ 6 * m + _ + 6 * n' + 6; omega⟩
  unfold pX8_planValue
  rw [n1, n2, n3, p1, p2, p4, p5, ob_eq g1]
  rfl
theorem q_planCount {S N P s0 : Nat} {a : Nat → Int32} {vn : NiS} {vg : PrS} {vt vu : ReS} {vp : PlS} (h : SR S N P s0 a vn vg) (hc : CP a S N P s0 vt vu vp) : ∃ vt' vu' vp' c k, pX8_planCount vn vg vt vu vp = some (Wd a S N P (S - P) s0, vt', vu', vp', c, k) ∧ CP a S N P s0 vt' vu' vp' ∧ (∀ vq, DV a S N P s0 vt vq → DV a S N P s0 vt' vq) ∧ Gp vt vt' vu vu' vp vp' c k := by
  obtain ⟨hi, hP, hm, hsk, hov, hps, hn, hp⟩ := h
  obtain ⟨n1, n2, n3, n4, n5, n6, n7, n8⟩ := hn
  obtain ⟨p1, p2, p3, p4, p5, p6, p7⟩ := hp
  obtain ⟨kd, cs, ct, pk, kn, sp, sz, m, st, wt, er, n', vs', ws', fi', c, k, g1, g2, g3, g4, g5, g6⟩ := cp_findBest (vu := vu) hi n6 n8 n7 hc.1 hc.2.2
  refine ⟨(vt.1, kn, sp, sz, m, st, m, wt, m, er), vu, (kd, cs, ct, n', vs', n', ws', n', fi', pk, _, _, _), 0 + c, 0 + k, ?_, ⟨g2, hc.2.1, g4, rfl, rfl, Or.inr ⟨rfl, rfl, rfl⟩⟩, g3, by omega, by show 0 + k + _ + _ + _ ≤ 6 * m + _ + 6 * n' + 6; omega⟩
  unfold pX8_planCount
  rw [n1, n2, n3, p1, p2, p4, p5, ob_eq g1]
  rfl
/-- the slots that are ahead -/
theorem ahead {S N P s0 : Nat} {a : Nat → Int32} {vn : NiS} {vg : PrS} (h : SR S N P s0 a vn vg) (x : Int32) : (∃ sl, P ≤ sl ∧ sl < S ∧ x = nI sl) ∨ (∃ c k, pX8_checkSlotAhead x vn vg = some (.inr "java/lang/IndexOutOfBoundsException", c, k) ∧ c ≤ 1 ∧ k ≤ 6) ∧ pX9_isIn x.toInt64 ((a 65).toInt64) ((a 0 - (1 : Int32)).toInt64) = some 0 := by
  obtain ⟨⟨hR, hPS, hg⟩, hP, hm, hsk, hov, hps, hn, hp⟩ := h
  have hS := hR.2.1
  unfold pX8_checkSlotAhead
  rcases ins S (by omega) x with hx | ⟨t, ht, rfl⟩
  · refine Or.inr ⟨?_, ?_⟩
    · rw [c_sl_no (by omega) hn.1 hx, ob_eq rfl]
      exact ⟨_, _, rfl, by omega, by omega⟩
    · rw [isIn_eq, hR.2.2.2.1, sub1_toInt (by omega), hP, Int32.toInt_toInt64, Int32.toInt_toInt64, nI_toInt (by omega), if_neg (fun q => out_int (by omega) hx ⟨by omega, q.2⟩)]
  · by_cases c : P ≤ t
    · exact Or.inl ⟨t, c, ht, rfl⟩
    · refine Or.inr ⟨?_, ?_⟩
      · rw [c_sl_yes (by omega) hn.1 ht, ob_eq rfl]
        dsimp only
        rw [hp.1, if_neg (nI_ge (by omega) (by omega))]
        exact ⟨_, _, rfl, by omega, by omega⟩
      · rw [isIn_eq, hR.2.2.2.1, sub1_toInt (by omega), hP, Int32.toInt_toInt64, Int32.toInt_toInt64, nI_toInt (by omega), nI_toInt (by omega), if_neg (by omega)]
theorem ahead_yes {S N P s0 sl : Nat} {a : Nat → Int32} {vn : NiS} {vg : PrS} (h : SR S N P s0 a vn vg) (h1 : P ≤ sl) (h2 : sl < S) : pX8_checkSlotAhead (nI sl) vn vg = some (.inl (), 0, 0) ∧ pX9_isIn (nI sl).toInt64 ((a 65).toInt64) ((a 0 - (1 : Int32)).toInt64) = some 1 := by
  obtain ⟨⟨hR, hPS, hg⟩, hP, hm, hsk, hov, hps, hn, hp⟩ := h
  have hS := hR.2.1
  constructor
  · unfold pX8_checkSlotAhead
    rw [c_sl_yes (by omega) hn.1 h2, ob_eq rfl]
    dsimp only
    rw [hp.1, if_pos (nI_le h1 (by omega))]
  · rw [isIn_eq, hR.2.2.2.1, sub1_toInt (by omega), hP, Int32.toInt_toInt64, Int32.toInt_toInt64, nI_toInt (by omega), nI_toInt (by omega), if_pos (by omega)]
