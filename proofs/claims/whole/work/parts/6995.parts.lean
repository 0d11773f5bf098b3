/-! THE PARTS OF A TEXT -/
/-- a draft of the class beside the reference's fresh row -/
def DR (S N : Nat) (fr : Nat → Int32) (nt : Int32) (mo pe nu : Nat → Int32) : Prop := RowN S N fr ∧ nt = nI N ∧ Mo fr mo ∧ Pc fr pe ∧ Nu N fr nu ∧ ∀ i, 65 ≤ i → i < 99 → fr i = 0
theorem m_body {b fr : Nat → Int32} {sz w wA x : Int32} {P : Nat} {T : Int32 × Int32 × Int32 × Int64} {z0 z1 z2 : Int32 × Int32 × Int32 × Int32 × Int32 × Int32 × Int64} (hx : x = nI P) (hP : P + 2 < 99) (h0 : pX9_takes 0 90 b sz T.1 T.2.1 T.2.2.1 w wA T.2.2.2 = some z0) (h1 : pX9_takes 0 30 b sz z0.2.1 z0.2.2.1 z0.2.2.2.1 z0.2.2.2.2.1 z0.2.2.2.2.2.1 z0.2.2.2.2.2.2 = some z1) (h2 : pX9_takes (-10) 25 b sz z1.2.1 z1.2.2.1 z1.2.2.2.1 z1.2.2.2.2.1 z1.2.2.2.2.2.1 z1.2.2.2.2.2.2 = some z2) :
    pX9_readsBody x fr b sz T.1 T.2.1 T.2.2.1 w wA T.2.2.2 = some (z2.2.1, z2.2.2.1, z2.2.2.2.1, z2.2.2.2.2.1, z2.2.2.2.2.2.1, z2.2.2.2.2.2.2, upd (upd (upd fr P z0.1) (P + 1) z1.1) (P + 2) z2.1) := by
  have e0 : x + (0 : Int32) = nI P := adds (k := 0) hx rfl rfl
  have e1 : x + (1 : Int32) = nI (P + 1) := adds hx rfl rfl
  have e2 : x + (2 : Int32) = nI (P + 2) := adds hx rfl rfl
  unfold pX9_readsBody
  rw [ob_eq h0, if_neg (in_ok e0 (by omega) (by omega)), ob_eq h1, if_neg (in_ok e1 (by omega) (by omega)), ob_eq h2, if_neg (in_ok e2 (by omega) (by omega)), clampN e0 (by omega), clampN e1 (by omega), clampN e2 (by omega)]
theorem m_bodyW {b fr : Nat → Int32} {sz w wA x : Int32} {P : Nat} {T : Int32 × Int32 × Int32 × Int64} (hx : x = nI P) (hP : P + 2 < 99) (h : ¬ w = 0) : ∃ fr', pX9_readsBody x fr b sz T.1 T.2.1 T.2.2.1 w wA T.2.2.2 = some (T.1, T.2.1, T.2.2.1, w, wA, T.2.2.2, fr') :=
  ⟨_, m_body (z0 := (0, T.1, T.2.1, T.2.2.1, w, wA, T.2.2.2)) (z1 := (0, T.1, T.2.1, T.2.2.1, w, wA, T.2.2.2)) (z2 := (0, T.1, T.2.1, T.2.2.1, w, wA, T.2.2.2)) hx hP (takes_w h) (takes_w h) (takes_w h)⟩
/-- what is known of a fresh row behind a part: its values stand from P on -/
def Fr (fr fr' values : Nat → Int32) (P m : Nat) : Prop := (∀ j, j < m → fr' (P + j) = values j) ∧ ∀ i, (i < P ∨ P + m ≤ i) → fr' i = fr i
theorem m_moon0 {b fr : Nat → Int32} {sz wA w1 a1 w2 a2 : Int32} {T T0 T1 T2 : Int32 × Int32 × Int32 × Int64} {vs : List Int32} (hm : pX9_must 1 b sz T.1 T.2.1 T.2.2.1 0 wA T.2.2.2 = some (T0.1, T0.2.1, T0.2.2.1, 0, wA, T0.2.2.2)) (ht : mT b sz LL10021003 T0 0 wA = some (vs, T1, w1, a1)) (hs : pX9_must 7 b sz T1.1 T1.2.1 T1.2.2.1 w1 a1 T1.2.2.2 = some (T2.1, T2.2.1, T2.2.2.1, w2, a2, T2.2.2.2)) :
    ∃ fr', pX9_readsMoon fr b sz T.1 T.2.1 T.2.2.1 0 wA T.2.2.2 0 = some (T2.1, T2.2.1, T2.2.2.1, w2, a2, T2.2.2.2, fr') ∧ Fr fr fr' (fun j => vs.getD j 0) 1 6 := by
  obtain ⟨z0, v0, t0, m0, rfl⟩ := mT_cons ht
  obtain ⟨z1, v1, t1, m1, rfl⟩ := mT_cons m0
  obtain ⟨z2, v2, t2, m2, rfl⟩ := mT_cons m1
  obtain ⟨z3, v3, t3, m3, rfl⟩ := mT_cons m2
  obtain ⟨z4, v4, t4, m4, rfl⟩ := mT_cons m3
  obtain ⟨z5, v5, t5, m5, rfl⟩ := mT_cons m4
  cases m5
  have hb := m_body (fr := fr) (x := 1) (P := 1) (T := T0) rfl (by omega) t0 t1 t2
  unfold pX9_readsMoon
  rw [if_pos rfl, ob_eq hm, ob_eq hb, ob_eq t3, ob_eq t4, ob_eq t5, ob_eq hs]
  refine ⟨_, rfl, fun j hj => ?_, fun i hi => ?_⟩
  · match j, hj with
    | 0, _ => rfl
    | 1, _ => rfl
    | 2, _ => rfl
    | 3, _ => rfl
    | 4, _ => rfl
    | 5, _ => rfl
  · dsimp only
    rw [upd_off _ _ (by omega), upd_off _ _ (by omega), upd_off _ _ (by omega), upd_off _ _ (by omega), upd_off _ _ (by omega), upd_off _ _ (by omega)]
theorem m_moon1 {b fr : Nat → Int32} {sz wA hm : Int32} {T : Int32 × Int32 × Int32 × Int64} (h : ¬ hm = 0) : ∃ fr', pX9_readsMoon fr b sz T.1 T.2.1 T.2.2.1 0 wA T.2.2.2 hm = some (T.1, T.2.1, T.2.2.1, -2, T.1, T.2.2.2, fr') := by
  have h2 : ¬ (-2 : Int32) = 0 := by decide
  obtain ⟨fr', hb⟩ := m_bodyW (b := b) (fr := fr) (sz := sz) (w := -2) (wA := T.1) (x := 1) (P := 1) (T := T) rfl (by omega) h2
  unfold pX9_readsMoon
  rw [if_neg h, fails_0, ob_eq rfl, must_w h2, ob_eq rfl, ob_eq hb, takes_w h2, ob_eq rfl, takes_w h2, ob_eq rfl, takes_w h2, ob_eq rfl, must_w h2, ob_eq rfl]
  exact ⟨_, rfl⟩
theorem m_skyStep {b fr : Nat → Int32} {sz a1 a2 a3 w wA : Int32} {num : Int64} {fu i : Nat} {z : Int32 × Int32 × Int32 × Int32 × Int32 × Int32 × Int64} (hi : i < 3) (h : pX9_takes 0 100 b sz a1 a2 a3 w wA num = some z) : lpX9_readsSky_20 b sz (fu + 1) (nI i) fr a1 a2 a3 w wA num = lpX9_readsSky_20 b sz fu (nI (i + 1)) (upd fr (7 + i) z.1) z.2.1 z.2.2.1 z.2.2.2.1 z.2.2.2.2.1 z.2.2.2.2.2.1 z.2.2.2.2.2.2 := by
  have e1 : (7 : Int32) + nI i = nI (7 + i) := adds rfl rfl rfl
  rw [show lpX9_readsSky_20 b sz (fu + 1) (nI i) fr a1 a2 a3 w wA num = if (3 : Int32) ≤ nI i then some (nI i, fr, a1, a2, a3, w, wA, num) else ob (pX9_takes (0 : Int32) (100 : Int32) b sz a1 a2 a3 w wA num) (fun z2 => if (((7 : Int32) + nI i) < 0 ∨ 99 ≤ (((7 : Int32) + nI i)).toNatClampNeg) then none else lpX9_readsSky_20 b sz fu (nI i + (1 : Int32)) (upd fr ((((7 : Int32) + nI i)).toNatClampNeg) z2.1) z2.2.1 z2.2.2.1 z2.2.2.2.1 z2.2.2.2.2.1 z2.2.2.2.2.2.1 z2.2.2.2.2.2.2) from rfl]
  rw [if_neg (show ¬ (3 : Int32) ≤ nI i from nI_ge (b := 3) hi (by omega)), ob_eq h, if_neg (in_ok e1 (by omega) (by omega)), clampN e1 (by omega), nI_1 i]
theorem m_skyEnd {b fr : Nat → Int32} {sz a1 a2 a3 w wA : Int32} {num : Int64} {fu : Nat} : lpX9_readsSky_20 b sz (fu + 1) (nI 3) fr a1 a2 a3 w wA num = some (nI 3, fr, a1, a2, a3, w, wA, num) := by
  unfold lpX9_readsSky_20
  rw [if_pos (by decide)]
theorem m_skyLoop {b fr : Nat → Int32} {sz a1 a2 a3 w wA : Int32} {num : Int64} {z0 z1 z2 : Int32 × Int32 × Int32 × Int32 × Int32 × Int32 × Int64} (h0 : pX9_takes 0 100 b sz a1 a2 a3 w wA num = some z0) (h1 : pX9_takes 0 100 b sz z0.2.1 z0.2.2.1 z0.2.2.2.1 z0.2.2.2.2.1 z0.2.2.2.2.2.1 z0.2.2.2.2.2.2 = some z1) (h2 : pX9_takes 0 100 b sz z1.2.1 z1.2.2.1 z1.2.2.2.1 z1.2.2.2.2.1 z1.2.2.2.2.2.1 z1.2.2.2.2.2.2 = some z2) :
    lpX9_readsSky_20 b sz lpF (0 : Int32) fr a1 a2 a3 w wA num = some (nI 3, upd (upd (upd fr 7 z0.1) 8 z1.1) 9 z2.1, z2.2.1, z2.2.2.1, z2.2.2.2.1, z2.2.2.2.2.1, z2.2.2.2.2.2.1, z2.2.2.2.2.2.2) := by
  rw [show lpX9_readsSky_20 b sz lpF (0 : Int32) fr a1 a2 a3 w wA num = lpX9_readsSky_20 b sz (99996 + 1 + 1 + 1 + 1) (nI 0) fr a1 a2 a3 w wA num from rfl, m_skyStep (by omega) h0, m_skyStep (by omega) h1, m_skyStep (by omega) h2, m_skyEnd]
theorem m_sky0 {b fr : Nat → Int32} {sz wA w1 a1 w2 a2 : Int32} {T T0 T1 T2 : Int32 × Int32 × Int32 × Int64} {vs : List Int32} (hm : pX9_must 2 b sz T.1 T.2.1 T.2.2.1 0 wA T.2.2.2 = some (T0.1, T0.2.1, T0.2.2.1, 0, wA, T0.2.2.2)) (ht : mT b sz LL10041005 T0 0 wA = some (vs, T1, w1, a1)) (hs : pX9_must 7 b sz T1.1 T1.2.1 T1.2.2.1 w1 a1 T1.2.2.2 = some (T2.1, T2.2.1, T2.2.2.1, w2, a2, T2.2.2.2)) :
    ∃ fr', pX9_readsSky fr b sz T.1 T.2.1 T.2.2.1 0 wA T.2.2.2 0 = some (T2.1, T2.2.1, T2.2.2.1, w2, a2, T2.2.2.2, fr') ∧ Fr fr fr' (fun j => vs.getD j 0) 7 3 := by
  obtain ⟨z0, v0, t0, m0, rfl⟩ := mT_cons ht
  obtain ⟨z1, v1, t1, m1, rfl⟩ := mT_cons m0
  obtain ⟨z2, v2, t2, m2, rfl⟩ := mT_cons m1
  cases m2
  unfold pX9_readsSky
  rw [if_pos rfl, ob_eq hm, ob_eq (m_skyLoop t0 t1 t2), ob_eq hs]
  refine ⟨_, rfl, fun j hj => ?_, fun i hi => ?_⟩
  · match j, hj with
    | 0, _ => rfl
    | 1, _ => rfl
    | 2, _ => rfl
  · dsimp only
    rw [upd_off _ _ (by omega), upd_off _ _ (by omega), upd_off _ _ (by omega)]
theorem m_sky1 {b fr : Nat → Int32} {sz wA hm : Int32} {T : Int32 × Int32 × Int32 × Int64} (h : ¬ hm = 0) : ∃ fr', pX9_readsSky fr b sz T.1 T.2.1 T.2.2.1 0 wA T.2.2.2 hm = some (T.1, T.2.1, T.2.2.1, -2, T.1, T.2.2.2, fr') := by
  have h2 : ¬ (-2 : Int32) = 0 := by decide
  unfold pX9_readsSky
  rw [if_neg h, fails_0, ob_eq rfl, must_w h2, ob_eq rfl, ob_eq (m_skyLoop (takes_w h2) (takes_w h2) (takes_w h2)), must_w h2, ob_eq rfl]
  exact ⟨_, rfl⟩
theorem ix_T (N j : Nat) (x : Int32) (hx : x = nI j) : (((11 : Int32) + ((9 : Int32) * nI N)) + x) = nI (11 + 9 * N + j) := adds (adds rfl (muls rfl rfl rfl) rfl) hx rfl
theorem m_target0 {b fr : Nat → Int32} {sz wA w1 a1 w2 a2 : Int32} {N : Nat} {T T0 T1 T2 : Int32 × Int32 × Int32 × Int64} {vs : List Int32} (hN : N < 6) (h10 : fr 10 = nI N) (hm : pX9_must 3 b sz T.1 T.2.1 T.2.2.1 0 wA T.2.2.2 = some (T0.1, T0.2.1, T0.2.2.1, 0, wA, T0.2.2.2)) (ht : mT b sz LL10061007 T0 0 wA = some (vs, T1, w1, a1)) (hs : pX9_must 7 b sz T1.1 T1.2.1 T1.2.2.1 w1 a1 T1.2.2.2 = some (T2.1, T2.2.1, T2.2.2.1, w2, a2, T2.2.2.2)) :
    ∃ fr', pX9_readsTarget fr b sz T.1 T.2.1 T.2.2.1 0 wA T.2.2.2 = some (T2.1, T2.2.1, T2.2.2.1, w2, a2, T2.2.2.2, fr') ∧ (∀ j, j < 9 → fr' (11 + 9 * N + j) = vs.getD j 0) ∧ fr' 10 = nI (N + 1) ∧ ∀ i, ¬ i = 10 → (i < 11 + 9 * N ∨ 11 + 9 * N + 9 ≤ i) → fr' i = fr i := by
  obtain ⟨z0, v0, t0, m0, rfl⟩ := mT_cons ht
  obtain ⟨z1, v1, t1, m1, rfl⟩ := mT_cons m0
  obtain ⟨z2, v2, t2, m2, rfl⟩ := mT_cons m1
  obtain ⟨z3, v3, t3, m3, rfl⟩ := mT_cons m2
  obtain ⟨z4, v4, t4, m4, rfl⟩ := mT_cons m3
  obtain ⟨z5, v5, t5, m5, rfl⟩ := mT_cons m4
  obtain ⟨z6, v6, t6, m6, rfl⟩ := mT_cons m5
  obtain ⟨z7, v7, t7, m7, rfl⟩ := mT_cons m6
  obtain ⟨z8, v8, t8, m8, rfl⟩ := mT_cons m7
  cases m8
  have e0 := ix_T N 0 (0 : Int32) rfl
  have e1 := ix_T N 1 (1 : Int32) rfl
  have e4 := ix_T N 4 (4 : Int32) rfl
  have e5 := ix_T N 5 (5 : Int32) rfl
  have e6 := ix_T N 6 (6 : Int32) rfl
  have e7 := ix_T N 7 (7 : Int32) rfl
  have e8 := ix_T N 8 (8 : Int32) rfl
  have hb := m_body (fr := upd fr (11 + 9 * N + 0) z0.1) (P := 11 + 9 * N + 1) (T := (z0.2.1, z0.2.2.1, z0.2.2.2.1, z0.2.2.2.2.2.2)) e1 (by omega) t1 t2 t3
  unfold pX9_readsTarget
  rw [h10, if_pos (show ¬ nI N = (6 : Int32) from fun g => by have := (keq 6 (by omega) (by omega)).mp g; omega), ob_eq hm, if_pos rfl, ob_eq t0, if_neg (in_ok e0 (by omega) (by omega)), clampN e0 (by omega), ob_eq hb, ob_eq t4, if_neg (in_ok e4 (by omega) (by omega)), clampN e4 (by omega), ob_eq t5, if_neg (in_ok e5 (by omega) (by omega)), clampN e5 (by omega), ob_eq t6, if_neg (in_ok e6 (by omega) (by omega)), clampN e6 (by omega), ob_eq t7, if_neg (in_ok e7 (by omega) (by omega)), clampN e7 (by omega), ob_eq t8, if_neg (in_ok e8 (by omega) (by omega)), clampN e8 (by omega), ob_eq hs]
  refine ⟨_, rfl, fun j hj => ?_, ?_, fun i h1 h2 => ?_⟩
  · dsimp only
    rw [upd_off _ _ (by omega)]
    match j, hj with
    | 0, _ =>
      rw [upd_off _ _ (by omega), upd_off _ _ (by omega), upd_off _ _ (by omega), upd_off _ _ (by omega), upd_off _ _ (by omega), upd_off _ _ (by omega), upd_off _ _ (by omega), upd_off _ _ (by omega), upd_at]
      rfl
    | 1, _ =>
      rw [upd_off _ _ (by omega), upd_off _ _ (by omega), upd_off _ _ (by omega), upd_off _ _ (by omega), upd_off _ _ (by omega), upd_off _ _ (by omega), upd_off _ _ (by omega), upd_at]
      rfl
    | 2, _ =>
      rw [upd_off _ _ (by omega), upd_off _ _ (by omega), upd_off _ _ (by omega), upd_off _ _ (by omega), upd_off _ _ (by omega), upd_off _ _ (by omega), show 11 + 9 * N + 2 = 11 + 9 * N + 1 + 1 from rfl, upd_at]
      rfl
    | 3, _ =>
      rw [upd_off _ _ (by omega), upd_off _ _ (by omega), upd_off _ _ (by omega), upd_off _ _ (by omega), upd_off _ _ (by omega), show 11 + 9 * N + 3 = 11 + 9 * N + 1 + 2 from rfl, upd_at]
      rfl
    | 4, _ =>
      rw [upd_off _ _ (by omega), upd_off _ _ (by omega), upd_off _ _ (by omega), upd_off _ _ (by omega), upd_at]
      rfl
    | 5, _ =>
      rw [upd_off _ _ (by omega), upd_off _ _ (by omega), upd_off _ _ (by omega), upd_at]
      rfl
    | 6, _ =>
      rw [upd_off _ _ (by omega), upd_off _ _ (by omega), upd_at]
      rfl
    | 7, _ =>
      rw [upd_off _ _ (by omega), upd_at]
      rfl
    | 8, _ =>
      rw [upd_at]
      rfl
  · dsimp only
    rw [upd_at, upd_off _ _ (by omega), upd_off _ _ (by omega), upd_off _ _ (by omega), upd_off _ _ (by omega), upd_off _ _ (by omega), upd_off _ _ (by omega), upd_off _ _ (by omega), upd_off _ _ (by omega), upd_off _ _ (by omega), h10, nI_1]
  · dsimp only
    rw [upd_off _ _ h1, upd_off _ _ (by omega), upd_off _ _ (by omega), upd_off _ _ (by omega), upd_off _ _ (by omega), upd_off _ _ (by omega), upd_off _ _ (by omega), upd_off _ _ (by omega), upd_off _ _ (by omega), upd_off _ _ (by omega)]
theorem m_target6 {b fr : Nat → Int32} {sz wA : Int32} {T : Int32 × Int32 × Int32 × Int64} (h10 : fr 10 = nI 6) : pX9_readsTarget fr b sz T.1 T.2.1 T.2.2.1 0 wA T.2.2.2 = some (T.1, T.2.1, T.2.2.1, -4, T.1, T.2.2.2, fr) := by
  have h2 : ¬ (-4 : Int32) = 0 := by decide
  unfold pX9_readsTarget
  rw [h10, if_neg (show ¬ ¬ nI 6 = (6 : Int32) from fun g => g rfl), fails_0, ob_eq rfl, must_w h2, ob_eq rfl, if_neg h2]
theorem DR_row {S N : Nat} {fr fr' : Nat → Int32} {nt : Int32} {mo pe nu : Nat → Int32} (h : DR S N fr nt mo pe nu) (h1 : ∀ i, 10 ≤ i → fr' i = fr i) (h0 : fr' 0 = fr 0) (hm : rg 0 90 (fr' 1) ∧ rg 0 30 (fr' 2) ∧ rg (-10) 25 (fr' 3) ∧ rg 0 359 (fr' 4) ∧ rg 0 359 (fr' 5) ∧ rg 0 100 (fr' 6)) (hp : rg 0 100 (fr' 7) ∧ rg 0 100 (fr' 8) ∧ rg 0 100 (fr' 9)) {mo' pe' : Nat → Int32} (hM : Mo fr' mo') (hP : Pc fr' pe') : DR S N fr' nt mo' pe' nu := by
  obtain ⟨⟨r1, r2, r3, r4, r5, r6, r7, r8, r9, r10, r11, r12, r13, r14, r15⟩, d2, d3, d4, d5, d6⟩ := h
  refine ⟨⟨r1, r2, r3, by rw [h0]; exact r4, by rw [h1 10 (by omega)]; exact r5, hm.1, hm.2.1, hm.2.2.1, hm.2.2.2.1, hm.2.2.2.2.1, hm.2.2.2.2.2, hp.1, hp.2.1, hp.2.2, fun k hk => ?_⟩, d2, hM, hP, fun k w hk hw => ?_, fun i h2 h3 => ?_⟩
  · rw [h1 _ (by omega), h1 _ (by omega), h1 _ (by omega), h1 _ (by omega)]
    exact r15 k hk
  · rw [h1 _ (by omega)]
    exact d5 k w hk hw
  · rw [h1 _ (by omega)]
    exact d6 i h2 h3
theorem b10021003_0 : (LL10021003.getD 0 (0, 0)).1.toInt = 0 ∧ (LL10021003.getD 0 (0, 0)).2.toInt = 90 := by decide +kernel
theorem b10021003_1 : (LL10021003.getD 1 (0, 0)).1.toInt = 0 ∧ (LL10021003.getD 1 (0, 0)).2.toInt = 30 := by decide +kernel
theorem b10021003_2 : (LL10021003.getD 2 (0, 0)).1.toInt = -10 ∧ (LL10021003.getD 2 (0, 0)).2.toInt = 25 := by decide +kernel
theorem b10021003_3 : (LL10021003.getD 3 (0, 0)).1.toInt = 0 ∧ (LL10021003.getD 3 (0, 0)).2.toInt = 359 := by decide +kernel
theorem b10021003_4 : (LL10021003.getD 4 (0, 0)).1.toInt = 0 ∧ (LL10021003.getD 4 (0, 0)).2.toInt = 359 := by decide +kernel
theorem b10021003_5 : (LL10021003.getD 5 (0, 0)).1.toInt = 0 ∧ (LL10021003.getD 5 (0, 0)).2.toInt = 100 := by decide +kernel
theorem b10041005_0 : (LL10041005.getD 0 (0, 0)).1.toInt = 0 ∧ (LL10041005.getD 0 (0, 0)).2.toInt = 100 := by decide +kernel
theorem b10041005_1 : (LL10041005.getD 1 (0, 0)).1.toInt = 0 ∧ (LL10041005.getD 1 (0, 0)).2.toInt = 100 := by decide +kernel
theorem b10041005_2 : (LL10041005.getD 2 (0, 0)).1.toInt = 0 ∧ (LL10041005.getD 2 (0, 0)).2.toInt = 100 := by decide +kernel
theorem b10061007_0 : (LL10061007.getD 0 (0, 0)).1.toInt = 0 ∧ (LL10061007.getD 0 (0, 0)).2.toInt = 3 := by decide +kernel
theorem b10061007_1 : (LL10061007.getD 1 (0, 0)).1.toInt = 0 ∧ (LL10061007.getD 1 (0, 0)).2.toInt = 90 := by decide +kernel
theorem b10061007_2 : (LL10061007.getD 2 (0, 0)).1.toInt = 0 ∧ (LL10061007.getD 2 (0, 0)).2.toInt = 30 := by decide +kernel
theorem b10061007_3 : (LL10061007.getD 3 (0, 0)).1.toInt = -10 ∧ (LL10061007.getD 3 (0, 0)).2.toInt = 25 := by decide +kernel
theorem b10061007_4 : (LL10061007.getD 4 (0, 0)).1.toInt = 0 ∧ (LL10061007.getD 4 (0, 0)).2.toInt = 89 := by decide +kernel
theorem b10061007_5 : (LL10061007.getD 5 (0, 0)).1.toInt = 0 ∧ (LL10061007.getD 5 (0, 0)).2.toInt = 359 := by decide +kernel
theorem b10061007_6 : (LL10061007.getD 6 (0, 0)).1.toInt = 0 ∧ (LL10061007.getD 6 (0, 0)).2.toInt = 180 := by decide +kernel
theorem b10061007_7 : (LL10061007.getD 7 (0, 0)).1.toInt = 1 ∧ (LL10061007.getD 7 (0, 0)).2.toInt = 3 := by decide +kernel
theorem b10061007_8 : (LL10061007.getD 8 (0, 0)).1.toInt = 1 ∧ (LL10061007.getD 8 (0, 0)).2.toInt = 1000 := by decide +kernel
theorem b10001001_0 : (LL10001001.getD 0 (0, 0)).1.toInt = 1 ∧ (LL10001001.getD 0 (0, 0)).2.toInt = 12 := by decide +kernel
theorem DR_moon {S N : Nat} {fr fr' values : Nat → Int32} {nt : Int32} {mo pe nu : Nat → Int32} {vs : List Int32} (h : DR S N fr nt mo pe nu) (hf : Fr fr fr' (fun j => vs.getD j 0) 1 6) (hV : Vs LL10021003 0 vs values) : DR S N fr' nt (va_cpy values mo 0 0 6) pe nu := by
  have hr := h.1
  have e : ∀ j, j < 6 → fr' (1 + j) = vs.getD j 0 := hf.1
  refine DR_row h (fun i hi => hf.2 i (by omega)) (hf.2 0 (by omega)) ⟨?_, ?_, ?_, ?_, ?_, ?_⟩ ⟨?_, ?_, ?_⟩ (fun j hj => ?_) (fun j hj => ?_)
  · rw [show fr' 1 = vs.getD 0 0 from e 0 (by omega)]
    exact by have := (hV.2 0 (by decide)).2; rw [b10021003_0.1, b10021003_0.2] at this; exact this
  · rw [show fr' 2 = vs.getD 1 0 from e 1 (by omega)]
    exact by have := (hV.2 1 (by decide)).2; rw [b10021003_1.1, b10021003_1.2] at this; exact this
  · rw [show fr' 3 = vs.getD 2 0 from e 2 (by omega)]
    exact by have := (hV.2 2 (by decide)).2; rw [b10021003_2.1, b10021003_2.2] at this; exact this
  · rw [show fr' 4 = vs.getD 3 0 from e 3 (by omega)]
    exact by have := (hV.2 3 (by decide)).2; rw [b10021003_3.1, b10021003_3.2] at this; exact this
  · rw [show fr' 5 = vs.getD 4 0 from e 4 (by omega)]
    exact by have := (hV.2 4 (by decide)).2; rw [b10021003_4.1, b10021003_4.2] at this; exact this
  · rw [show fr' 6 = vs.getD 5 0 from e 5 (by omega)]
    exact by have := (hV.2 5 (by decide)).2; rw [b10021003_5.1, b10021003_5.2] at this; exact this
  · rw [hf.2 7 (by omega)]; exact hr.2.2.2.2.2.2.2.2.2.2.2.1
  · rw [hf.2 8 (by omega)]; exact (p89 hr).1
  · rw [hf.2 9 (by omega)]; exact (p89 hr).2
  · rw [cpy0 hj, e j hj]
    have := (hV.2 j hj).1
    rw [Nat.zero_add] at this
    exact this
  · rw [hf.2 (7 + j) (by omega)]; exact h.2.2.2.1 j hj
theorem DR_sky {S N : Nat} {fr fr' values : Nat → Int32} {nt : Int32} {mo pe nu : Nat → Int32} {vs : List Int32} (h : DR S N fr nt mo pe nu) (hf : Fr fr fr' (fun j => vs.getD j 0) 7 3) (hV : Vs LL10041005 0 vs values) : DR S N fr' nt mo (va_cpy values pe 0 0 3) nu := by
  obtain ⟨r1, r2, r3, r4, r5, r6, r7, r8, r9, r10, r11, r12, r13, r14, r15⟩ := id h.1
  have e : ∀ j, j < 3 → fr' (7 + j) = vs.getD j 0 := hf.1
  refine DR_row h (fun i hi => hf.2 i (by omega)) (hf.2 0 (by omega)) ⟨?_, ?_, ?_, ?_, ?_, ?_⟩ ⟨?_, ?_, ?_⟩ (fun j hj => ?_) (fun j hj => ?_)
  · rw [hf.2 1 (by omega)]; exact r6
  · rw [hf.2 2 (by omega)]; exact r7
  · rw [hf.2 3 (by omega)]; exact r8
  · rw [hf.2 4 (by omega)]; exact r9
  · rw [hf.2 5 (by omega)]; exact r10
  · rw [hf.2 6 (by omega)]; exact r11
  · rw [show fr' 7 = vs.getD 0 0 from e 0 (by omega)]
    exact by have := (hV.2 0 (by decide)).2; rw [b10041005_0.1, b10041005_0.2] at this; exact this
  · rw [show fr' 8 = vs.getD 1 0 from e 1 (by omega)]
    exact by have := (hV.2 1 (by decide)).2; rw [b10041005_1.1, b10041005_1.2] at this; exact this
  · rw [show fr' 9 = vs.getD 2 0 from e 2 (by omega)]
    exact by have := (hV.2 2 (by decide)).2; rw [b10041005_2.1, b10041005_2.2] at this; exact this
  · rw [hf.2 (1 + j) (by omega)]; exact h.2.2.1 j hj
  · rw [cpy0 hj, e j hj]
    have := (hV.2 j hj).1
    rw [Nat.zero_add] at this
    exact this
theorem DR_target {S N : Nat} {fr fr' values : Nat → Int32} {nt : Int32} {mo pe nu : Nat → Int32} {vs : List Int32} (hN : N < 6) (h : DR S N fr nt mo pe nu) (f1 : ∀ j, j < 9 → fr' (11 + 9 * N + j) = vs.getD j 0) (f2 : fr' 10 = nI (N + 1)) (f3 : ∀ i, ¬ i = 10 → (i < 11 + 9 * N ∨ 11 + 9 * N + 9 ≤ i) → fr' i = fr i) (hV : Vs LL10061007 0 vs values) : DR S (N + 1) fr' (nI (N + 1)) mo pe (va_cpy values nu 0 (9 * N) 9) := by
  obtain ⟨⟨r1, r2, r3, r4, r5, r6, r7, r8, r9, r10, r11, r12, r13, r14, r15⟩, d2, d3, d4, d5, d6⟩ := h
  have g : ∀ i, i < 10 → fr' i = fr i := fun i hi => f3 i (by omega) (by omega)
  refine ⟨⟨r1, r2, by omega, ?_, f2, ?_, ?_, ?_, ?_, ?_, ?_, ?_, ?_, ?_, fun k hk => ?_⟩, rfl, fun j hj => ?_, fun j hj => ?_, fun k u hk hu => ?_, fun i h2 h3 => ?_⟩
  · rw [g 0 (by omega)]; exact r4
  · rw [g 1 (by omega)]; exact r6
  · rw [g 2 (by omega)]; exact r7
  · rw [g 3 (by omega)]; exact r8
  · rw [g 4 (by omega)]; exact r9
  · rw [g 5 (by omega)]; exact r10
  · rw [g 6 (by omega)]; exact r11
  · rw [g 7 (by omega)]; exact r12
  · rw [g 8 (by omega)]; exact r13
  · rw [g 9 (by omega)]; exact r14
  · by_cases c : k = N
    · subst c
      refine ⟨?_, ?_, ?_, ?_⟩
      · rw [show fr' (11 + 9 * k) = vs.getD 0 0 from f1 0 (by omega)]
        exact by have := (hV.2 0 (by decide)).2; rw [b10061007_0.1, b10061007_0.2] at this; exact this
      · rw [show fr' (11 + 9 * k + 5) = vs.getD 5 0 from f1 5 (by omega)]
        exact by have := (hV.2 5 (by decide)).2; rw [b10061007_5.1, b10061007_5.2] at this; exact this
      · rw [show fr' (11 + 9 * k + 7) = vs.getD 7 0 from f1 7 (by omega)]
        exact by have := (hV.2 7 (by decide)).2; rw [b10061007_7.1, b10061007_7.2] at this; exact this
      · rw [show fr' (11 + 9 * k + 8) = vs.getD 8 0 from f1 8 (by omega)]
        exact by have := (hV.2 8 (by decide)).2; rw [b10061007_8.1, b10061007_8.2] at this; exact this
    · rw [f3 _ (by omega) (by omega), f3 _ (by omega) (by omega), f3 _ (by omega) (by omega), f3 _ (by omega) (by omega)]
      exact r15 k (by omega)
  · rw [g (1 + j) (by omega)]; exact d3 j hj
  · rw [g (7 + j) (by omega)]; exact d4 j hj
  · unfold va_cpy
    by_cases c : k = N
    · subst c
      rw [if_pos (by omega), f1 u hu, show 0 + (9 * k + u - 9 * k) = 0 + u by omega]
      exact (hV.2 u hu).1
    · rw [if_neg (by omega), f3 _ (by omega) (by omega)]
      exact d5 k u (by omega) hu
  · rw [f3 _ (by omega) (by omega)]
    exact d6 i h2 h3
