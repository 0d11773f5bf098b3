/-! SIMPLE QUERIES, THE REST -/
def oV (v : Nat → Int32) : Option Nat → Int32
  | none => 0
  | some t => v t
theorem oI_m1 : ∀ {o : Option Nat}, (∀ t, o = some t → t < 60000) → (oI o = (-1 : Int32) ↔ o = none)
  | none, _ => ⟨fun _ => rfl, fun _ => rfl⟩
  | some t, h => ⟨fun e => absurd e (nI_m1 (h t rfl)), fun e => by cases e⟩
theorem c_highLoop {S N k : Nat} {a : Nat → Int32} {vn : NiS} (hR : RowN S N a) (hn : NR S N a vn) (hk : k < N) : ∀ (fu t : Nat), t ≤ S → S - t < fu → ∃ y z, lpX8_highestSlot_12 (nI k) vn fu (oI (gdy (obs a k) (hgt a (11 + 9 * k + 1)) t)) (oV (hgt a (11 + 9 * k + 1)) (gdy (obs a k) (hgt a (11 + 9 * k + 1)) t)) (nI t) = some (oI (gdy (obs a k) (hgt a (11 + 9 * k + 1)) S), y, z)
  | 0, _, _, h => by omega
  | fu + 1, t, ht, hf => by
    obtain ⟨n1, n2, n3, n4, n5, n6, n7, n8⟩ := hn
    have hS := hR.2.1
    have hN := hR.2.2.1
    unfold lpX8_highestSlot_12
    rw [n1]
    by_cases e : t = S
    · subst e
      rw [if_pos (nI_le (Nat.le_refl _) (by omega))]
      exact ⟨_, _, rfl⟩
    · obtain ⟨y, z, ih⟩ := c_highLoop hR ⟨n1, n2, n3, n4, n5, n6, n7, n8⟩ hk fu (t + 1) (by omega) (by omega)
      refine ⟨y, z, ?_⟩
      rw [if_neg (nI_ge (by omega) (by omega)), c_height n6 hN hk, ob_eq rfl, c_isSeen hS hN n7 (by omega) hk, ob_eq rfl, nI_1 t]
      have hg : gdy (obs a k) (hgt a (11 + 9 * k + 1)) (t + 1) = match gdy (obs a k) (hgt a (11 + 9 * k + 1)) t with
        | none => if obs a k t = true then some t else none
        | some j => if obs a k t = true ∧ hgt a (11 + 9 * k + 1) j < hgt a (11 + 9 * k + 1) t then some t else some j := rfl
      cases hb : obs a k t with
      | false =>
        rw [if_pos i0f]
        rw [hb] at hg
        have : gdy (obs a k) (hgt a (11 + 9 * k + 1)) (t + 1) = gdy (obs a k) (hgt a (11 + 9 * k + 1)) t := by
          rw [hg]
          cases gdy (obs a k) (hgt a (11 + 9 * k + 1)) t with
          | none => exact if_neg (by decide)
          | some j => exact if_neg (fun h => by cases h.1)
        rw [this] at ih
        exact ih
      | true =>
        rw [if_neg i1t]
        rw [hb] at hg
        cases ho : gdy (obs a k) (hgt a (11 + 9 * k + 1)) t with
        | none =>
          rw [ho] at hg
          dsimp only at hg
          rw [if_pos rfl] at hg
          rw [hg] at ih
          rw [if_pos (show oI none = (-1 : Int32) from rfl)]
          exact ih
        | some j =>
          rw [ho] at hg
          dsimp only at hg
          have hj : j < t := (gdy_spec ho).1
          rw [if_neg (show ¬ oI (some j) = (-1 : Int32) from nI_m1 (by omega))]
          by_cases c : hgt a (11 + 9 * k + 1) j < hgt a (11 + 9 * k + 1) t
          · rw [if_pos ⟨rfl, c⟩] at hg
            rw [hg] at ih
            rw [if_neg (show ¬ hgt a (11 + 9 * k + 1) t ≤ oV (hgt a (11 + 9 * k + 1)) (some j) from fun h => by
              have h2 : hgt a (11 + 9 * k + 1) t ≤ hgt a (11 + 9 * k + 1) j := h
              rw [fa_le] at h2
              rw [fa_lt] at c
              omega)]
            exact ih
          · rw [if_neg (fun h => c h.2)] at hg
            rw [hg] at ih
            rw [if_pos (show hgt a (11 + 9 * k + 1) t ≤ oV (hgt a (11 + 9 * k + 1)) (some j) from fa_of_nlt c)]
            exact ih
theorem m_highLoop {S N k : Nat} {a : Nat → Int32} (hR : RowN S N a) (hk : k < N) : ∀ (fu t : Nat), t ≤ S → S - t < fu → ∃ z, lpX9_highestSlot_26 (nI k) (nI (11 + 9 * k + 1)) a fu (oI (gdy (obs a k) (hgt a (11 + 9 * k + 1)) t)) (nI t) = some (oI (gdy (obs a k) (hgt a (11 + 9 * k + 1)) S), z)
  | 0, _, _, h => by omega
  | fu + 1, t, ht, hf => by
    have hS := hR.2.1
    have hN := hR.2.2.1
    unfold lpX9_highestSlot_26
    rw [hR.2.2.2.1]
    by_cases e : t = S
    · subst e
      rw [if_pos (nI_le (Nat.le_refl _) (by omega))]
      exact ⟨_, rfl⟩
    · obtain ⟨z, ih⟩ := m_highLoop hR hk fu (t + 1) (by omega) (by omega)
      refine ⟨z, ?_⟩
      rw [if_neg (nI_ge (by omega) (by omega)), p_canObserve (by omega), ob_eq rfl, nI_1 t]
      have hg : gdy (obs a k) (hgt a (11 + 9 * k + 1)) (t + 1) = match gdy (obs a k) (hgt a (11 + 9 * k + 1)) t with
        | none => if obs a k t = true then some t else none
        | some j => if obs a k t = true ∧ hgt a (11 + 9 * k + 1) j < hgt a (11 + 9 * k + 1) t then some t else some j := rfl
      cases hb : obs a k t with
      | false =>
        rw [if_pos i0f]
        rw [hb] at hg
        have : gdy (obs a k) (hgt a (11 + 9 * k + 1)) (t + 1) = gdy (obs a k) (hgt a (11 + 9 * k + 1)) t := by
          rw [hg]
          cases gdy (obs a k) (hgt a (11 + 9 * k + 1)) t with
          | none => exact if_neg (by decide)
          | some j => exact if_neg (fun h => by cases h.1)
        rw [this] at ih
        exact ih
      | true =>
        rw [if_neg i1t]
        rw [hb] at hg
        cases ho : gdy (obs a k) (hgt a (11 + 9 * k + 1)) t with
        | none =>
          rw [ho] at hg
          dsimp only at hg
          rw [if_pos rfl] at hg
          rw [hg] at ih
          rw [if_pos (show oI none = (-1 : Int32) from rfl)]
          exact ih
        | some j =>
          rw [ho] at hg
          dsimp only at hg
          have hj : j < t := (gdy_spec ho).1
          rw [if_neg (show ¬ oI (some j) = (-1 : Int32) from nI_m1 (by omega)), p_heightOf (p := 11 + 9 * k + 1) rfl (by omega), ob_eq rfl, show oI (some j) = nI j from rfl, p_heightOf (p := 11 + 9 * k + 1) rfl (by omega), ob_eq rfl]
          by_cases c : hgt a (11 + 9 * k + 1) j < hgt a (11 + 9 * k + 1) t
          · rw [if_pos ⟨rfl, c⟩] at hg
            rw [hg] at ih
            rw [if_neg (fun h => by
              rw [fa_le] at h
              rw [fa_lt] at c
              omega)]
            exact ih
          · rw [if_neg (fun h => c h.2)] at hg
            rw [hg] at ih
            rw [if_pos (fa_of_nlt c)]
            exact ih
theorem s_highest {S N P s0 : Nat} {a : Nat → Int32} {vn : NiS} {vg : PrS} (h : SR S N P s0 a vn vg) (x : Int32) : ∃ o c k v t, pX8_highestSlot x vn = some (o, c, k) ∧ pX9_highestSlot x a = some (v, t) ∧ Ans "java/lang/IndexOutOfBoundsException" "java/util/NoSuchElementException" o v t ∧ c ≤ 1 ∧ k ≤ 6 := by
  obtain ⟨⟨hR, hPS, hg⟩, hP, hm, hsk, hov, hps, hn, hp⟩ := h
  have hn' := hn
  obtain ⟨n1, n2, n3, n4, n5, n6, n7, n8⟩ := hn
  have hS := hR.2.1
  have hN := hR.2.2.1
  unfold pX8_highestSlot pX9_highestSlot
  rcases ins N (by omega) x with hx | ⟨j, hj, rfl⟩
  · rw [c_tg_no (by omega) n2 hx, ob_eq rfl, lacks_tg hR hx, ob_eq rfl, if_neg (show ¬ (1 : Int32) = 0 by decide)]
    exact ⟨_, _, _, _, _, rfl, rfl, Ans1 _, by omega, by omega⟩
  · obtain ⟨y, z, e1⟩ := c_highLoop hR hn' hj lpF 0 (by omega) (by have := lpF_big; omega)
    obtain ⟨z2, e2⟩ := m_highLoop hR hj lpF 0 (by omega) (by have := lpF_big; omega)
    rw [c_tg_yes (by omega) n2 hj, ob_eq rfl, lacks_0 hR hj, ob_eq rfl, if_pos rfl, show (11 : Int32) + (9 : Int32) * nI j + (1 : Int32) = nI (11 + 9 * j + 1) from tgi j (w := 1) rfl]
    dsimp only
    rw [ob_eq (show lpX8_highestSlot_12 (nI j) vn lpF (-1 : Int32) (0 : Int32) (0 : Int32) = _ from e1), ob_eq (show lpX9_highestSlot_26 (nI j) (nI (11 + 9 * j + 1)) a lpF (-1 : Int32) (0 : Int32) = _ from e2)]
    cases ho : gdy (obs a j) (hgt a (11 + 9 * j + 1)) S with
    | none =>
      rw [if_neg (show ¬ ¬ (oI none, y, z).1 = (-1 : Int32) from fun h => h rfl), if_neg (show ¬ ¬ (oI none, z2).1 = (-1 : Int32) from fun h => h rfl)]
      exact ⟨_, _, _, _, _, rfl, rfl, Ans2 _, by omega, by omega⟩
    | some t =>
      have ht := (gdy_spec ho).1
      rw [if_pos (show ¬ (oI (some t), y, z).1 = (-1 : Int32) from nI_m1 (by omega)), if_pos (show ¬ (oI (some t), z2).1 = (-1 : Int32) from nI_m1 (by omega))]
      exact ⟨_, _, _, _, _, rfl, rfl, Ans0 _, by omega, by omega⟩
/-- both loops of the latest start, from slot u - 1 down -/
theorem lateLoop {S N P k c0 k0 : Nat} {a : Nat → Int32} {vn : NiS} {vg : PrS} (hR : RowN S N a) (hn : NR S N a vn) (hP : a 65 = nI P) (hP2 : vg.1 = nI P) (hPS : P ≤ S) (hk : k < N) : ∀ (fu u m : Nat), P ≤ u → u ≤ S → u - P < fu → 0 < m → m < 60000 →
    (∃ y l t, lpX8_latestStart_50 (nI k) c0 k0 vn vg fu (nI m) (nI u + (-1 : Int32)) = some (.inl y) ∧ lpX9_latestStart_24 (nI k) a fu (nI m) (nI u) = some (l, t) ∧ ¬ l ≤ 0) ∨
    (∃ l t, lpX8_latestStart_50 (nI k) c0 k0 vn vg fu (nI m) (nI u + (-1 : Int32)) = some (.inr (.inl t, c0, k0)) ∧ lpX9_latestStart_24 (nI k) a fu (nI m) (nI u) = some (l, t) ∧ l ≤ 0)
  | 0, _, _, _, _, h, _, _ => by omega
  | fu + 1, u, m, h1, h2, hf, hm, hm9 => by
    have hn' := hn
    obtain ⟨n1, n2, n3, n4, n5, n6, n7, n8⟩ := hn
    have hS := hR.2.1
    have hN := hR.2.2.1
    unfold lpX8_latestStart_50
    rw [hP2]
    by_cases e : u = P
    · subst e
      left
      unfold lpX9_latestStart_24
      rw [if_pos (dn_lt (by omega)), if_neg (nI_nle hm (by omega)), hP, if_pos (nI_le (Nat.le_refl _) (by omega))]
      exact ⟨_, _, _, rfl, rfl, nI_nle hm (by omega)⟩
    · rw [dn_eq (by omega)]
      have e4 : nI m - (1 : Int32) = nI (m - 1) := by rw [dn_sub hm, dn_eq hm]
      have e3 : ∀ q, lpX9_latestStart_24 (nI k) a (q + 1) (nI m) (nI u) = (if obs a k (u - 1) then lpX9_latestStart_24 (nI k) a q (nI (m - 1)) (nI (u - 1)) else lpX9_latestStart_24 (nI k) a q (nI m) (nI (u - 1))) := fun q => by
        rw [show lpX9_latestStart_24 (nI k) a (q + 1) (nI m) (nI u) = if nI m ≤ 0 then some (nI m, nI u) else if nI u ≤ a 65 then some (nI m, nI u) else ob (pX9_canObserve (nI k) (nI u + (-1 : Int32)) a) (fun z3 => if z3 = 0 then lpX9_latestStart_24 (nI k) a q (nI m - (0 : Int32)) (nI u + (-1 : Int32)) else lpX9_latestStart_24 (nI k) a q (nI m - (1 : Int32)) (nI u + (-1 : Int32))) from rfl]
        rw [if_neg (nI_nle hm (by omega)), hP, if_neg (nI_ge (by omega) (by omega)), dn_eq (by omega), p_canObserve (by omega), ob_eq rfl, e4, show nI m - (0 : Int32) = nI m from Int32.sub_zero _]
        cases obs a k (u - 1) with
        | false => rw [if_pos i0f]; rfl
        | true => rw [if_neg i1t]; rfl
      rw [if_neg (nI_nlt (by omega) (by omega)), n1, c_isSeen hS hN n7 (by omega) hk, ob_eq rfl, dn_eq hm]
      cases hb : obs a k (u - 1) with
      | false =>
        rw [if_pos i0f, if_pos (nI_ne0 hm (by omega))]
        rcases lateLoop hR hn' hP hP2 hPS hk fu (u - 1) m (by omega) (by omega) (by omega) hm hm9 with ⟨y, l, t, q1, q2, q3⟩ | ⟨l, t, q1, q2, q3⟩
        · refine Or.inl ⟨y, l, t, q1, ?_, q3⟩
          rw [e3, hb]
          exact q2
        · refine Or.inr ⟨l, t, q1, ?_, q3⟩
          rw [e3, hb]
          exact q2
      | true =>
        rw [if_neg i1t]
        by_cases c : m = 1
        · subst c
          rw [if_neg (show ¬ ¬ nI (1 - 1) = 0 from fun h => h rfl)]
          obtain ⟨q, rfl⟩ : ∃ q, fu = q + 1 := ⟨fu - 1, by omega⟩
          refine Or.inr ⟨nI 0, nI (u - 1), rfl, ?_, by decide⟩
          rw [e3, hb]
          show lpX9_latestStart_24 (nI k) a (q + 1) (nI 0) (nI (u - 1)) = _
          unfold lpX9_latestStart_24
          rw [if_pos (show nI 0 ≤ 0 by decide)]
        · rw [if_pos (nI_ne0 (by omega) (by omega))]
          rcases lateLoop hR hn' hP hP2 hPS hk fu (u - 1) (m - 1) (by omega) (by omega) (by omega) (by omega) (by omega) with ⟨y, l, t, q1, q2, q3⟩ | ⟨l, t, q1, q2, q3⟩
          · refine Or.inl ⟨y, l, t, q1, ?_, q3⟩
            rw [e3, hb]
            exact q2
          · refine Or.inr ⟨l, t, q1, ?_, q3⟩
            rw [e3, hb]
            exact q2
theorem s_latest {S N P s0 : Nat} {a : Nat → Int32} {vn : NiS} {vg : PrS} (h : SR S N P s0 a vn vg) (x : Int32) : ∃ o c k v t, pX8_latestStart x vn vg = some (o, c, k) ∧ pX9_latestStart x a = some (v, t) ∧ Ans "java/lang/IndexOutOfBoundsException" "java/util/NoSuchElementException" o v t ∧ c ≤ 1 ∧ k ≤ 6 := by
  obtain ⟨⟨hR, hPS, hg⟩, hP, hm, hsk, hov, hps, hn, hp⟩ := h
  have hn' := hn
  obtain ⟨n1, n2, n3, n4, n5, n6, n7, n8⟩ := hn
  obtain ⟨p1, p2, p3, p4, p5, p6, p7⟩ := hp
  have hS := hR.2.1
  have hN := hR.2.2.1
  have h46 := pow_le6 hN
  have hs0 := hg.1
  unfold pX8_latestStart pX9_latestStart
  rcases ins N (by omega) x with hx | ⟨j, hj, rfl⟩
  · rw [c_tg_no (by omega) n2 hx, ob_eq rfl, lacks_tg hR hx, ob_eq rfl, if_neg (show ¬ (1 : Int32) = 0 by decide)]
    exact ⟨_, _, _, _, _, rfl, rfl, Ans1 _, by omega, by omega⟩
  · obtain ⟨w1, w2, w3⟩ := wnt_eq hR hj
    have hd := (hg.2 j hj).2
    have e1 : (69 : Int32) + nI j = nI (69 + j) := adds rfl rfl rfl
    have e2 : nI (wnt a j) - nI (dg s0 j) = nI (wnt a j - dg s0 j) := by
      have h1 : nI (wnt a j - dg s0 j) + nI (dg s0 j) = nI (wnt a j) := by rw [nI_add]; congr 1; omega
      rw [← h1, Int32.add_sub_cancel]
    have hsw : pX9_stillWanted (nI j) a = some (nI (wnt a j - dg s0 j)) := by
      unfold pX9_stillWanted
      rw [p_ofTarget (x := 7) (w := 7) rfl (by omega), ob_eq rfl, if_neg (in_ok e1 (by omega) (by omega)), clampN e1 (by omega), hm j (by omega), w1, e2]
    rw [c_tg_yes (by omega) n2 hj, ob_eq rfl, lacks_0 hR hj, ob_eq rfl, if_pos rfl, ob_eq hsw]
    dsimp only
    rw [c_number n6 hN hj (x := 7) (w := 7) rfl (by omega), ob_eq rfl, p5, p_madeOf (by omega) (by omega), ob_eq rfl, w1, e2, n1, hR.2.2.2.1]
    by_cases c : wnt a j - dg s0 j = 0
    · rw [c, if_neg (show ¬ 0 < nI 0 by decide)]
      have : lpX9_latestStart_24 (nI j) a lpF (nI 0) (nI S) = some (nI 0, nI S) := by
        rw [show lpF = 99999 + 1 from rfl]
        unfold lpX9_latestStart_24
        rw [if_pos (show nI 0 ≤ 0 by decide)]
      rw [ob_eq this, if_pos (show nI 0 ≤ 0 by decide)]
      exact ⟨_, _, _, _, _, rfl, rfl, Ans0 _, by omega, by omega⟩
    · rw [if_pos (show 0 < nI (wnt a j - dg s0 j) from nI_lt (a := 0) (by omega) (by omega)), dn_sub (show 0 < S from hR.1)]
      rcases lateLoop (c0 := 0 + 0) (k0 := 0 + 0) hR hn' hP p1 hPS hj lpF S (wnt a j - dg s0 j) hPS (Nat.le_refl _) (by have := lpF_big; omega) (by omega) (by omega) with ⟨y, l, t, q1, q2, q3⟩ | ⟨l, t, q1, q2, q3⟩
      · rw [ob_eq q1, ob_eq q2, if_neg q3]
        exact ⟨_, _, _, _, _, rfl, rfl, Ans2 _, by omega, by omega⟩
      · rw [ob_eq q1, ob_eq q2, if_pos q3]
        exact ⟨_, _, _, _, _, rfl, rfl, Ans0 _, by omega, by omega⟩
theorem m_turnLoop {S N g s0 : Nat} {a : Nat → Int32} (hR : RowN S N a) (hm : ∀ k, k < 6 → a (69 + k) = nI (dg s0 k)) (hg : g < 4) : ∀ (fu k : Nat), k ≤ N → N - k < fu → lpX9_turnsOf_29 (nI g) a fu (nI (trn a s0 g k)) (nI k) = some (nI (trn a s0 g N), nI N)
  | 0, _, _, h => by omega
  | fu + 1, k, hk, hf => by
    have hN := hR.2.2.1
    unfold lpX9_turnsOf_29
    rw [hR.2.2.2.2.1]
    by_cases e : k = N
    · subst e
      rw [if_pos (nI_le (Nat.le_refl _) (by omega))]
    · obtain ⟨t1, t2⟩ := tm_eq hR (show k < N by omega)
      have ih := m_turnLoop hR hm hg fu (k + 1) (by omega) (by omega)
      rw [show trn a s0 g (k + 1) = trn a s0 g k + (if tm a k = g then dg s0 k else 0) from rfl] at ih
      have e1 : (69 : Int32) + nI k = nI (69 + k) := adds rfl rfl rfl
      rw [if_neg (nI_ge (by omega) (by omega)), p_ofTarget (x := 0) (w := 0) rfl (by omega), ob_eq rfl, show a (11 + 9 * k + 0) = nI (tm a k) from t1, nI_1 k]
      by_cases c : tm a k = g
      · rw [if_pos c] at ih
        rw [c, if_neg (show ¬ ¬ nI g = nI g from fun h => h rfl), if_neg (in_ok e1 (by omega) (by omega)), clampN e1 (by omega), hm k (by omega), nI_add]
        exact ih
      · rw [if_neg c] at ih
        rw [if_pos (fun h => c ((keq g (by omega) (by omega)).mp h)), show nI (trn a s0 g k) + (0 : Int32) = nI (trn a s0 g k + 0) from nI_add _ 0]
        exact ih
theorem c_tm_no {x : Int32} (h : Out 4 x) : pX8_checkTeam x = some (.inr "java/lang/IndexOutOfBoundsException", 1, 6) := by
  unfold pX8_checkTeam
  rcases h with h | h
  · rw [if_pos h]
  · by_cases c : x < 0
    · rw [if_pos c]
    · rw [if_neg c, if_neg (show ¬ x < (4 : Int32) from fun q => by
        have h2 : (4 : Int32) ≤ x := h
        rw [fa_lt] at q; rw [fa_le] at h2; omega)]
theorem c_tm_yes {j : Nat} (h : j < 4) : pX8_checkTeam (nI j) = some (.inl (), 0, 0) := by
  unfold pX8_checkTeam
  rw [if_neg (nI_pos (by omega)), if_pos (show nI j < (4 : Int32) from nI_lt (b := 4) h (by omega))]
theorem e3_toInt : (3 : Int64).toInt = ((4 : Nat) : Int) - 1 := by decide
theorem m_tm_no {x : Int32} (h : Out 4 x) : pX9_isTeam x = some 0 := by
  unfold pX9_isTeam
  rw [isIn_no e3_toInt (by omega) h, ob_eq rfl, if_pos g01]
theorem m_tm_yes {j : Nat} (h : j < 4) : pX9_isTeam (nI j) = some 1 := by
  unfold pX9_isTeam
  rw [isIn_yes e3_toInt (by omega) h, ob_eq rfl, if_pos g11]
theorem s_turnsOf {S N P s0 : Nat} {a : Nat → Int32} {vn : NiS} {vg : PrS} (h : SR S N P s0 a vn vg) (x : Int32) : ∃ o c k v t, pX8_turnsOf x vn vg = some (o, c, k) ∧ pX9_turnsOf x a = some (v, t) ∧ Ans "java/lang/IndexOutOfBoundsException" "" o v t ∧ c ≤ 1 ∧ k ≤ 6 := by
  obtain ⟨⟨hR, hPS, hg⟩, hP, hm, hsk, hov, hps, hn, hp⟩ := h
  obtain ⟨n1, n2, n3, n4, n5, n6, n7, n8⟩ := hn
  obtain ⟨p1, p2, p3, p4, p5, p6, p7⟩ := hp
  have hN := hR.2.2.1
  have h46 := pow_le6 hN
  have hs0 := hg.1
  unfold pX8_turnsOf pX9_turnsOf
  rcases ins 4 (by omega) x with hx | ⟨j, hj, rfl⟩
  · rw [c_tm_no hx, ob_eq rfl, m_tm_no hx, ob_eq rfl, if_pos rfl]
    exact ⟨_, _, _, _, _, rfl, rfl, Ans1 _, by omega, by omega⟩
  · rw [c_tm_yes hj, ob_eq rfl, m_tm_yes hj, ob_eq rfl, if_neg (show ¬ (1 : Int32) = 0 by decide)]
    dsimp only
    rw [p5, n2, c_turnCounts hR n6 (by omega), ob_eq rfl, c_turnsIn hR hj, ob_eq rfl, ob_eq (show lpX9_turnsOf_29 (nI j) a lpF (0 : Int32) (0 : Int32) = _ from m_turnLoop hR hm hj lpF 0 (by omega) (by have := lpF_big; omega))]
    exact ⟨_, _, _, _, _, rfl, rfl, Ans0 _, by omega, by omega⟩
theorem s_exposures {S N P s0 : Nat} {a : Nat → Int32} {vn : NiS} {vg : PrS} (h : SR S N P s0 a vn vg) (x : Int32) : ∃ o c k v t, pX8_exposures x vn vg = some (o, c, k) ∧ pX9_exposures x a = some (v, t) ∧ Ans "java/lang/IndexOutOfBoundsException" "" o v t ∧ c ≤ 1 ∧ k ≤ 6 := by
  obtain ⟨⟨hR, hPS, hg⟩, hP, hm, hsk, hov, hps, hn, hp⟩ := h
  obtain ⟨n1, n2, n3, n4, n5, n6, n7, n8⟩ := hn
  obtain ⟨p1, p2, p3, p4, p5, p6, p7⟩ := hp
  have hN := hR.2.2.1
  have h46 := pow_le6 hN
  have hs0 := hg.1
  unfold pX8_exposures pX9_exposures
  rcases ins N (by omega) x with hx | ⟨j, hj, rfl⟩
  · rw [c_tg_no (by omega) n2 hx, ob_eq rfl, m_tg_no hR hx, ob_eq rfl, if_pos rfl]
    exact ⟨_, _, _, _, _, rfl, rfl, Ans1 _, by omega, by omega⟩
  · have e1 : (69 : Int32) + nI j = nI (69 + j) := adds rfl rfl rfl
    rw [c_tg_yes (by omega) n2 hj, ob_eq rfl, m_tg_yes hR hj, ob_eq rfl, if_neg (show ¬ (1 : Int32) = 0 by decide), if_neg (in_ok e1 (by omega) (by omega)), clampN e1 (by omega), hm j (by omega)]
    dsimp only
    rw [p5, p_madeOf (by omega) (by omega), ob_eq rfl]
    exact ⟨_, _, _, _, _, rfl, rfl, Ans0 _, by omega, by omega⟩
theorem s_past {S N P s0 : Nat} {a : Nat → Int32} {vn : NiS} {vg : PrS} (h : SR S N P s0 a vn vg) (x y : Int32) : ∃ o c k v t, pX8_past x y vn vg = some (o, c, k) ∧ pX9_past x y a = some (v, t) ∧ Ans "java/lang/IndexOutOfBoundsException" "java/lang/IllegalArgumentException" o v t ∧ c ≤ 1 ∧ k ≤ 6 := by
  obtain ⟨⟨hR, hPS, hg⟩, hP, hm, hsk, hov, hps, hn, hp⟩ := h
  obtain ⟨n1, n2, n3, n4, n5, n6, n7, n8⟩ := hn
  obtain ⟨p1, p2, p3, p4, p5, p6, p7⟩ := hp
  have hS := hR.2.1
  have e1i : (1 : Int64).toInt = ((2 : Nat) : Int) - 1 := by decide
  unfold pX8_past pX9_past
  rw [hP, p1]
  rcases ins P (by omega) x with hx | ⟨j, hj, rfl⟩
  · rw [inR_no (by omega) hx, ob_eq rfl, if_neg (show ¬ ¬ (0 : Int32) = 0 from fun h => h rfl)]
    rcases ins S (by omega) x with hy | ⟨t, ht, rfl⟩
    · rw [c_sl_no (by omega) n1 hy, ob_eq rfl]
      exact ⟨_, _, _, _, _, rfl, rfl, Ans1 _, by omega, by omega⟩
    · rw [c_sl_yes (by omega) n1 ht, ob_eq rfl]
      dsimp only
      rw [if_neg (show ¬ nI t < nI P from fun q => by
        rcases hx with h | h
        · exact nI_pos (by omega) h
        · rw [fa_lt] at q; rw [fa_le] at h; omega)]
      exact ⟨_, _, _, _, _, rfl, rfl, Ans1 _, by omega, by omega⟩
  · rw [inR_yes (by omega) hj, ob_eq rfl, if_pos (show ¬ (1 : Int32) = 0 by decide), c_sl_yes (by omega) n1 (show j < S by omega), ob_eq rfl]
    dsimp only
    rw [if_pos (nI_lt hj (by omega)), if_neg (in_ok rfl (by omega : j < 12) (by omega)), if_neg (in_ok rfl (by omega : j < 12) (by omega)), clampN rfl (by omega)]
    have e75 : (75 : Int32) + nI j = nI (75 + j) := adds rfl rfl rfl
    have e87 : (87 : Int32) + nI j = nI (87 + j) := adds rfl rfl rfl
    rcases ins 2 (by omega) y with hy | ⟨w, hw, rfl⟩
    · rw [isIn_no e1i (by omega) hy, ob_eq rfl, if_neg (show ¬ ¬ (0 : Int32) = 0 from fun h => h rfl), if_neg (show ¬ y = (0 : Int32) from out_ne (j := 0) hy (by omega) (by omega)), if_neg (show ¬ y = (1 : Int32) from out_ne (j := 1) hy (by omega) (by omega))]
      exact ⟨_, _, _, _, _, rfl, rfl, Ans2 _, by omega, by omega⟩
    · rw [isIn_yes e1i (by omega) hw, ob_eq rfl, if_pos (show ¬ (1 : Int32) = 0 by decide), if_neg (in_ok e75 (by omega) (by omega)), if_neg (in_ok e87 (by omega) (by omega)), clampN e75 (by omega), clampN e87 (by omega)]
      match w, hw with
      | 0, _ =>
        rw [if_pos (show nI 0 = (0 : Int32) by decide), if_neg (show ¬ ¬ nI 0 = (0 : Int32) by decide), p6 j hj]
        exact ⟨_, _, _, _, _, rfl, rfl, Ans0 _, by omega, by omega⟩
      | 1, _ =>
        rw [if_neg (show ¬ nI 1 = (0 : Int32) by decide), if_pos (show ¬ nI 1 = (0 : Int32) by decide), if_pos (show nI 1 = (1 : Int32) by decide), p7 j hj]
        exact ⟨_, _, _, _, _, rfl, rfl, Ans0 _, by omega, by omega⟩
theorem s_inTurn {S N P s0 : Nat} {a tb : Nat → Int32} {vn : NiS} {vg : PrS} (h : SR S N P s0 a vn vg) : ∃ v tb', pX8_inTurn vn vg = some v ∧ pX9_inTurn a tb = some (v, tb') := by
  obtain ⟨⟨hR, hPS, hg⟩, hP, hm, hsk, hov, hps, hn, hp⟩ := h
  obtain ⟨n1, n2, n3, n4, n5, n6, n7, n8⟩ := hn
  obtain ⟨p1, p2, p3, p4, p5, p6, p7⟩ := hp
  have hN := hR.2.2.1
  have h46 := pow_le6 hN
  have hs0 := hg.1
  obtain ⟨tb', ht⟩ := m_inTurnBy (b := tb) hR (show s0 < 2 ^ 31 by omega)
  unfold pX8_inTurn pX9_inTurn
  rw [p5, p4, n2, n3, c_teamsInTurn hR n6 (by omega), ob_eq rfl, ob_eq (m_stateNow hm (by omega)), ob_eq ht]
  exact ⟨_, _, rfl, rfl⟩
