/-! LOAD AND APPEND -/
/-- the buffers of both -/
def RdR (vr : RdS) (b : Nat → Int32) (mb : Int32) : Prop := ∃ F : Nat, F ≤ 500 ∧ vr.2.2.1 = nI F ∧ mb = nI F ∧ ∀ i, i < F → vr.1 i = b i
theorem m_copy99 {fr : Nat → Int32} : ∀ (fu i : Nat) (a : Nat → Int32), i ≤ 99 → 99 - i < fu → (∀ j, j < i → a j = fr j) → ∃ y a', lpX9_load_107 fr fu (nI i) a = some (y, a') ∧ ∀ j, j < 99 → a' j = fr j
  | 0, _, _, _, h, _ => by omega
  | fu + 1, i, a, hi, hf, h1 => by
    unfold lpX9_load_107
    by_cases e : i = 99
    · subst e
      rw [if_pos (show (99 : Int32) ≤ nI 99 by decide)]
      exact ⟨_, a, rfl, h1⟩
    · rw [if_neg (show ¬ (99 : Int32) ≤ nI i from nI_ge (b := 99) (by omega) (by omega)), if_neg (in_ok rfl (by omega : i < 99) (by omega)), clampN (x := nI i) rfl (by omega), nI_1 i]
      refine m_copy99 fu (i + 1) _ (by omega) (by omega) (fun j hj => ?_)
      by_cases c : j = i
      · rw [c, upd_at]
      · rw [upd_off _ _ c]; exact h1 j (by omega)
theorem w_load {a kept b fresh : Nat → Int32} {vhn vhs km : Int32} {vhN : Nat → NiS} {vhP : Nat → PrS} {S N P s0 : Nat} {vn vd : NiS} {vg : PrS} {vt vu : ReS} {vp : PlS} {vq : DeS} {vr : RdS} {mb m1 m2 m3 m4 m5 m6 eM m8 m9 ve : Int32} {num : Int64} (hh : HR vhn vhs vhN vhP kept km) (hr : SR S N P s0 a vn vg) (hc : CA a S N P s0 vt vu vp vq) (hb : RdR vr b mb) (hve : ve = eM) (x : Int32) :
    ∃ o ve' vr' vd' vn' vg' hn hs hN hP vt' vu' vp' vq' c k v t km' mb' sz at' bh kd wr wA eA num' hm hs2 a' fresh' kept', pX8_load x vr vd vn vg vhn vhs vhN vhP vt vu vp vq ve = some (o, ve', vr', vd', vn', vg', hn, hs, hN, hP, vt', vu', vp', vq', c, k) ∧
      pX9_load x a fresh kept km b mb m1 m2 m3 m4 m5 m6 eM num m8 m9 = some (v, km', t, mb', sz, at', bh, kd, wr, wA, eA, num', hm, hs2, a', fresh', kept') ∧ Ans "java/lang/IllegalArgumentException" "" o v t ∧ After vn' vg' hn hs hN hP vt' vu' vp' vq' a' kept' km' (wg vt vu vp vq) c k ∧ RdR vr' b mb' ∧ ve' = eA := by
  have hb' := hb
  obtain ⟨F, hF, b1, b2, b3⟩ := hb
  have eF : (nI F).toInt64.toInt = ((F + 1 : Nat) : Int) - 1 := by rw [Int32.toInt_toInt64, nI_toInt (by omega)]; omega
  unfold pX8_load pX9_load
  rw [b1, b2]
  rcases ins (F + 1) (by omega) x with hx | ⟨n, hn, rfl⟩
  · rw [isIn_no eF (by omega) hx, ob_eq rfl, if_pos rfl]
    have hfin : After vn vg vhn vhs vhN vhP vt vu vp vq a kept km (wg vt vu vp vq) 1 6 := ⟨hh, ⟨S, N, P, s0, hr, hc⟩, rfl, by omega, by omega⟩
    by_cases c : x < 0
    · rw [if_pos c]
      exact ⟨_, _, _, _, _, _, _, _, _, _, _, _, _, _, _, _, _, _, _, _, _, _, _, _, _, _, _, _, _, _, _, _, _, rfl, rfl, Ans1 _, hfin, by rw [← b2]; exact hb', hve⟩
    · rw [if_neg c, if_neg (show ¬ x ≤ nI F from fun g => by
        have g2 : nI (F + 1) ≤ x := hx.resolve_left c
        rw [fa_le] at g g2
        rw [nI_toInt (by omega)] at g g2
        omega)]
      exact ⟨_, _, _, _, _, _, _, _, _, _, _, _, _, _, _, _, _, _, _, _, _, _, _, _, _, _, _, _, _, _, _, _, _, rfl, rfl, Ans1 _, hfin, by rw [← b2]; exact hb', hve⟩
  · have hal : Al n b vr.1 := ⟨by omega, fun i hi => b3 i (by omega)⟩
    obtain ⟨good, en, at', ws, hm, hs, er, eA, values', draft, fr', m_at, m_bh, m_kind, wA', num', hmm, hsm, r1, ⟨T, r2, r3⟩, r4⟩ := read_all (values := vr.2.1) (mo := vd.2.2.2.1) (pe := vd.2.2.2.2.1) (nu := vd.2.2.2.2.2.1) (sn := vd.2.2.2.2.2.2.1) (od := vd.2.2.2.2.2.2.2) (fr0 := fresh) (num := num) (wA := m6) hal (show n ≤ F by omega) hF
    rw [if_neg (nI_pos (by omega)), if_pos (nI_le (by omega) (by omega)), ob_eq r1, isIn_yes eF (by omega) hn, ob_eq rfl, if_neg (show ¬ (1 : Int32) = 0 by decide), ob_eq r2, ob_eq r3]
    have hrd : ∀ (v2 x3 x4 x5 x6 x7 x8 x9 : _), RdR (vr.1, v2, (0 : Int32), x3, x4, x5, x6, x7, x8, x9) b 0 := fun v2 x3 x4 x5 x6 x7 x8 x9 => ⟨0, by omega, rfl, rfl, fun i hi => by omega⟩
    rcases r4 with ⟨rfl, rfl, rfl, S', N', q1, q2, q3⟩ | ⟨rfl, q1, q2⟩
    · obtain ⟨hn1, hs1, hN1, hP1, km1, kept1, k1, k2, k3⟩ := h_keep hh hr
      obtain ⟨y, a', c1, c2⟩ := m_copy99 (fr := fr') lpF 0 a (by omega) (by have := lpF_big; omega) (fun j hj => by omega)
      have hS' := q1.2.1
      have hN' := q1.2.2.1
      have e10 : a' 10 = draft.2.1 := by rw [c2 10 (by omega), q1.2.2.2.2.1, q2.2.1]
      rw [if_pos (show ¬ (1 : Int32) = 0 by decide), ob_eq k1, if_neg (show ¬ ¬ (0 : Int32) = 0 from fun h => h rfl), ob_eq k2, ob_eq (show lpX9_load_107 fr' lpF (0 : Int32) a = _ from c1)]
      have hsr : SR S' N' 0 0 a' (cpN draft vn) ((0 : Int32), (0 : Int32), (0 : Int32), (0 : Int32), (0 : Int32), vg.2.2.2.2.2.1, vg.2.2.2.2.2.2) := SR_row c2 (SR_fresh q1 (NR_copy vn hS' hN' q2) q3 _ _)
      refine ⟨_, _, _, _, _, _, _, _, _, _, fgR vt, fgR vu, fgP vp, fgQ vq, _, _, _, _, _, _, _, _, _, _, _, _, _, _, _, _, _, _, _, rfl, rfl, ?_, ⟨k3, ⟨S', N', 0, 0, hsr, CA_fg hc⟩, rfl, by omega, by omega⟩, hrd _ _ _ _ _ _ _ _, rfl⟩
      dsimp only
      rw [e10]
      exact Ans0 _
    · rw [if_neg (show ¬ ¬ (0 : Int32) = 0 from fun h => h rfl), if_pos q1]
      exact ⟨_, _, _, _, _, _, _, _, _, _, _, _, _, _, _, _, _, _, _, _, _, _, _, _, _, _, _, _, _, _, _, _, _, rfl, rfl, Ans0 _, ⟨hh, ⟨S, N, P, s0, hr, hc⟩, rfl, by omega, by omega⟩, hrd _ _ _ _ _ _ _ _, q2⟩
/-- a byte of a number -/
def byt (v : Int32) (s : Nat) : Int32 := (v >>> (nI s &&& 31)) &&& (255 : Int32)
theorem c_addStep {v : Int32} {rb : Nat → Int32} {F s fu : Nat} (hF : F < 500) (hs : s < 32) : lpX7_add_3 v (fu + 1) (nI s) rb (nI F) = lpX7_add_3 v fu (nI s + (-8 : Int32)) (upd rb F (byt v s)) (nI (F + 1)) := by
  conv => lhs; unfold lpX7_add_3
  rw [if_neg (nI_pos (by omega)), if_neg (show ¬ (500 : Int32) ≤ nI F from nI_ge (b := 500) hF (by omega)), if_neg (in_ok rfl (by omega : F < 500) (by omega)), clampN (x := nI F) rfl (by omega), nI_1 F]
  rfl
theorem c_add {v : Int32} {rb : Nat → Int32} {F : Nat} (hF : F + 4 ≤ 500) : ∃ rb', pX7_add v rb (nI F) = some (nI (F + 4), rb') ∧ (∀ r, r < 4 → rb' (F + r) = byt v (24 - 8 * r)) ∧ ∀ i, i < F → rb' i = rb i := by
  have e : lpX7_add_3 v lpF (24 : Int32) rb (nI F) = some (-8, upd (upd (upd (upd rb F (byt v 24)) (F + 1) (byt v 16)) (F + 1 + 1) (byt v 8)) (F + 1 + 1 + 1) (byt v 0), nI (F + 1 + 1 + 1 + 1)) := by
    rw [show lpX7_add_3 v lpF (24 : Int32) rb (nI F) = lpX7_add_3 v (99995 + 1 + 1 + 1 + 1 + 1) (nI 24) rb (nI F) from rfl, c_addStep (by omega) (by omega), show nI 24 + (-8 : Int32) = nI 16 by decide, c_addStep (by omega) (by omega), show nI 16 + (-8 : Int32) = nI 8 by decide, c_addStep (by omega) (by omega), show nI 8 + (-8 : Int32) = nI 0 by decide, c_addStep (by omega) (by omega), show nI 0 + (-8 : Int32) = -8 by decide]
    unfold lpX7_add_3
    rw [if_pos (by decide)]
  unfold pX7_add
  rw [ob_eq e]
  refine ⟨_, rfl, fun r hr => ?_, fun i hi => ?_⟩
  · dsimp only
    match r, hr with
    | 0, _ =>
      rw [upd_off _ _ (by omega), upd_off _ _ (by omega), upd_off _ _ (by omega)]
      exact upd_at _ _ _
    | 1, _ =>
      rw [upd_off _ _ (by omega), upd_off _ _ (by omega)]
      exact upd_at _ _ _
    | 2, _ =>
      rw [upd_off _ _ (by omega)]
      exact upd_at _ _ _
    | 3, _ => exact upd_at _ _ _
  · dsimp only
    rw [upd_off _ _ (by omega), upd_off _ _ (by omega), upd_off _ _ (by omega), upd_off _ _ (by omega)]
def vsel (v0 v1 v2 v3 v4 : Int32) (k : Nat) : Int32 := if k < 4 then v0 else if k < 8 then v1 else if k < 12 then v2 else if k < 16 then v3 else v4
theorem shf : ∀ k, k < 20 → (24 : Int32) - ((8 : Int32) * (nI k - nI k / (4 : Int32) * (4 : Int32))) = nI (24 - 8 * (k % 4)) := by decide +kernel
theorem m_addStep {v0 v1 v2 v3 v4 : Int32} {b : Nat → Int32} {F k fu : Nat} (hF : F < 500) (hk : k < 20) : lpX9_append_34 v0 v1 v2 v3 v4 (fu + 1) (nI k) b (nI F) = lpX9_append_34 v0 v1 v2 v3 v4 fu (nI (k + 1)) (upd b F (byt (vsel v0 v1 v2 v3 v4 k) (24 - 8 * (k % 4)))) (nI (F + 1)) := by
  conv => lhs; unfold lpX9_append_34
  rw [if_neg (show ¬ (20 : Int32) ≤ nI k from nI_ge (b := 20) hk (by omega)), if_neg (in_ok rfl (by omega : F < 500) (by omega)), if_neg (in_ok rfl (by omega : F < 500) (by omega)), if_neg (in_ok rfl (by omega : F < 500) (by omega)), if_neg (in_ok rfl (by omega : F < 500) (by omega)), if_neg (in_ok rfl (by omega : F < 500) (by omega)), clampN (x := nI F) rfl (by omega), nI_1 F, nI_1 k, shf k hk]
  unfold vsel
  by_cases c4 : k < 4
  · rw [if_neg (show ¬ (4 : Int32) ≤ nI k from nI_ge (b := 4) c4 (by omega)), if_pos c4]
    rfl
  · rw [if_pos (show (4 : Int32) ≤ nI k from nI_le (a := 4) (by omega) (by omega)), if_neg c4]
    by_cases c8 : k < 8
    · rw [if_neg (show ¬ (8 : Int32) ≤ nI k from nI_ge (b := 8) c8 (by omega)), if_pos c8]
      rfl
    · rw [if_pos (show (8 : Int32) ≤ nI k from nI_le (a := 8) (by omega) (by omega)), if_neg c8]
      by_cases c12 : k < 12
      · rw [if_neg (show ¬ (12 : Int32) ≤ nI k from nI_ge (b := 12) c12 (by omega)), if_pos c12]
        rfl
      · rw [if_pos (show (12 : Int32) ≤ nI k from nI_le (a := 12) (by omega) (by omega)), if_neg c12]
        by_cases c16 : k < 16
        · rw [if_neg (show ¬ (16 : Int32) ≤ nI k from nI_ge (b := 16) c16 (by omega)), if_pos c16]
          rfl
        · rw [if_pos (show (16 : Int32) ≤ nI k from nI_le (a := 16) (by omega) (by omega)), if_neg c16]
          rfl
theorem m_addLoop {v0 v1 v2 v3 v4 : Int32} {F : Nat} (hF : F + 20 ≤ 500) {B0 : Nat → Int32} : ∀ (fu k : Nat) (b : Nat → Int32), k ≤ 20 → 20 - k < fu → (∀ j, j < k → b (F + j) = byt (vsel v0 v1 v2 v3 v4 j) (24 - 8 * (j % 4))) → (∀ i, i < F → b i = B0 i) → ∃ y b', lpX9_append_34 v0 v1 v2 v3 v4 fu (nI k) b (nI (F + k)) = some (y, b', nI (F + 20)) ∧ (∀ j, j < 20 → b' (F + j) = byt (vsel v0 v1 v2 v3 v4 j) (24 - 8 * (j % 4))) ∧ ∀ i, i < F → b' i = B0 i
  | 0, _, _, _, h, _, _ => by omega
  | fu + 1, k, b, hk, hf, h1, h2 => by
    by_cases e : k = 20
    · subst e
      refine ⟨nI 20, b, ?_, h1, h2⟩
      unfold lpX9_append_34
      rw [if_pos (by decide)]
    · rw [m_addStep (by omega) (by omega)]
      refine m_addLoop hF fu (k + 1) _ (by omega) (by omega) (fun j hj => ?_) (fun i hi => ?_)
      · by_cases c : j = k
        · rw [c, upd_at]
        · rw [upd_off _ _ (by omega)]; exact h1 j (by omega)
      · rw [upd_off _ _ (by omega)]; exact h2 i hi
theorem w_append {b : Nat → Int32} {vr : RdS} {mb : Int32} (hb : RdR vr b mb) (v0 v1 v2 v3 v4 : Int32) : ∃ o vr' c k v t mb' b', pX8_append v0 v1 v2 v3 v4 vr = some (o, vr', c, k) ∧ pX9_append v0 v1 v2 v3 v4 b mb = some (v, t, mb', b') ∧ Ans "java/lang/IllegalStateException" "" o v t ∧ RdR vr' b' mb' ∧ c ≤ 1 ∧ k ≤ 6 := by
  have hb' := hb
  obtain ⟨F, hF, b1, b2, b3⟩ := hb
  have e20 : nI F + (20 : Int32) = nI (F + 20) := adds rfl rfl rfl
  unfold pX8_append pX9_append pX7_hasRoom
  rw [b1, b2, e20]
  by_cases c : F + 20 ≤ 500
  · obtain ⟨r0, a0, a1, a2⟩ := c_add (v := v0) (rb := vr.1) (F := F) (by omega)
    obtain ⟨r1, d0, d1, d2⟩ := c_add (v := v1) (rb := r0) (F := F + 4) (by omega)
    obtain ⟨r2, f0, f1, f2⟩ := c_add (v := v2) (rb := r1) (F := F + 4 + 4) (by omega)
    obtain ⟨r3, g0, g1, g2⟩ := c_add (v := v3) (rb := r2) (F := F + 4 + 4 + 4) (by omega)
    obtain ⟨r4, h0, h1, h2⟩ := c_add (v := v4) (rb := r3) (F := F + 4 + 4 + 4 + 4) (by omega)
    obtain ⟨y, b', u0, u1, u2⟩ := m_addLoop (v0 := v0) (v1 := v1) (v2 := v2) (v3 := v3) (v4 := v4) (F := F) c (B0 := b) lpF 0 b (by omega) (by have := lpF_big; omega) (fun j hj => by omega) (fun i hi => rfl)
    rw [if_neg (show ¬ (500 : Int32) < nI (F + 20) from nI_nlt (a := 500) c (by omega)), ob_eq rfl, if_pos (show ¬ (1 : Int32) = 0 by decide), if_pos (show nI (F + 20) ≤ (500 : Int32) from nI_le (b := 500) c (by omega)), ob_eq a0, ob_eq d0, ob_eq f0, ob_eq g0, ob_eq h0, ob_eq (show lpX9_append_34 v0 v1 v2 v3 v4 lpF (0 : Int32) b (nI F) = _ from u0)]
    refine ⟨_, _, _, _, _, _, _, _, rfl, rfl, Ans0 _, ⟨F + 20, c, rfl, rfl, fun i hi => ?_⟩, by omega, by omega⟩
    show r4 i = b' i
    by_cases c0 : i < F
    · rw [u2 i c0, h2 i (by omega), g2 i (by omega), f2 i (by omega), d2 i (by omega), a2 i c0, b3 i c0]
    · obtain ⟨j, rfl⟩ : ∃ j, i = F + j := ⟨i - F, by omega⟩
      rw [u1 j (by omega)]
      unfold vsel
      by_cases c4 : j < 4
      · rw [if_pos c4, h2 _ (by omega), g2 _ (by omega), f2 _ (by omega), d2 _ (by omega), a1 j c4, show j % 4 = j by omega]
      · rw [if_neg c4]
        by_cases c8 : j < 8
        · rw [if_pos c8, h2 _ (by omega), g2 _ (by omega), f2 _ (by omega), show F + j = F + 4 + (j - 4) by omega, d1 _ (by omega), show j % 4 = j - 4 by omega]
        · rw [if_neg c8]
          by_cases c12 : j < 12
          · rw [if_pos c12, h2 _ (by omega), g2 _ (by omega), show F + j = F + 4 + 4 + (j - 8) by omega, f1 _ (by omega), show j % 4 = j - 8 by omega]
          · rw [if_neg c12]
            by_cases c16 : j < 16
            · rw [if_pos c16, h2 _ (by omega), show F + j = F + 4 + 4 + 4 + (j - 12) by omega, g1 _ (by omega), show j % 4 = j - 12 by omega]
            · rw [if_neg c16, show F + j = F + 4 + 4 + 4 + 4 + (j - 16) by omega, h1 _ (by omega), show j % 4 = j - 16 by omega]
  · rw [if_pos (show (500 : Int32) < nI (F + 20) from nI_lt (a := 500) (by omega) (by omega)), ob_eq rfl, if_neg (show ¬ ¬ (0 : Int32) = 0 from fun h => h rfl), if_neg (show ¬ nI (F + 20) ≤ (500 : Int32) from nI_ge (a := 500) (by omega) (by omega))]
    exact ⟨_, _, _, _, _, _, _, _, rfl, rfl, Ans1 _, by rw [← b2]; exact hb', by omega, by omega⟩
