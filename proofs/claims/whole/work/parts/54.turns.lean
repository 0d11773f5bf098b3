/-! TURNS: how often each team has been at work, and which are in turn -/
/-- a target's team -/
def tm (a : Nat → Int32) (k : Nat) : Nat := (a (11 + 9 * k)).toNatClampNeg
theorem tm_eq {S N : Nat} {a : Nat → Int32} (hR : RowN S N a) {k : Nat} (hk : k < N) : a (11 + 9 * k) = nI (tm a k) ∧ tm a k < 4 := by
  obtain ⟨h1, -⟩ := hR.2.2.2.2.2.2.2.2.2.2.2.2.2.2 k hk
  unfold rg at h1
  obtain ⟨j, hj, e⟩ := nI_of (x := a (11 + 9 * k)) (by rw [fa_lt]; show ¬ _ < (0 : Int); omega)
  rw [e, nI_toInt hj] at h1
  have : tm a k = j := by unfold tm; rw [e, nI_clamp hj]
  rw [this]
  exact ⟨e, by omega⟩
def trn (a : Nat → Int32) (s g : Nat) : Nat → Nat
  | 0 => 0
  | k + 1 => trn a s g k + (if tm a k = g then dg s k else 0)
theorem trn_le (a : Nat → Int32) (s g : Nat) : ∀ k, trn a s g k ≤ 3 * k
  | 0 => Nat.le_refl 0
  | k + 1 => by
    have ih := trn_le a s g k
    have hd := dg_lt s k
    show trn a s g k + (if tm a k = g then dg s k else 0) ≤ 3 * (k + 1)
    by_cases h : tm a k = g
    · rw [if_pos h]; omega
    · rw [if_neg h]; omega
theorem shlN (d : Nat) {j : Nat} (hj : j < 32) : nI d <<< (nI j &&& 31) = nI (d * 2 ^ j) := by
  apply b_ext
  intro i hi
  rw [b_shl j hj _ hi, bt_nI _ i hi, ← Nat.shiftLeft_eq, Nat.testBit_shiftLeft]
  by_cases h : j ≤ i
  · rw [decide_eq_true h, Bool.true_and, Bool.true_and, bt_nI _ _ (by omega)]
  · rw [decide_eq_false h, Bool.false_and, Bool.false_and]
/-- the turns of all teams in one number -/
def tct (a : Nat → Int32) (s : Nat) : Nat → Nat
  | 0 => 0
  | k + 1 => tct a s k + dg s k * 2 ^ (8 * tm a k)
theorem tct_eq {S N : Nat} {a : Nat → Int32} (hR : RowN S N a) (s : Nat) : ∀ k, k ≤ N → tct a s k = trn a s 0 k + 256 * trn a s 1 k + 65536 * trn a s 2 k + 16777216 * trn a s 3 k
  | 0, _ => rfl
  | k + 1, hk => by
    have ih := tct_eq hR s k (by omega)
    have h4 := (tm_eq hR (show k < N by omega)).2
    show tct a s k + dg s k * 2 ^ (8 * tm a k) = (trn a s 0 k + (if tm a k = 0 then dg s k else 0)) + 256 * (trn a s 1 k + (if tm a k = 1 then dg s k else 0)) + 65536 * (trn a s 2 k + (if tm a k = 2 then dg s k else 0)) + 16777216 * (trn a s 3 k + (if tm a k = 3 then dg s k else 0))
    rw [ih]
    have h5 : ∀ z : Nat, z < 4 → z = 0 ∨ z = 1 ∨ z = 2 ∨ z = 3 := by omega
    rcases h5 _ h4 with e | e | e | e <;> rw [e] <;> simp <;> omega
theorem tct_dig {S N : Nat} {a : Nat → Int32} (hR : RowN S N a) (s : Nat) {g : Nat} (hg : g < 4) : tct a s N / 2 ^ (8 * g) % 256 = trn a s g N := by
  have hN := hR.2.2.1
  have e := tct_eq hR s N (Nat.le_refl _)
  have l0 := trn_le a s 0 N
  have l1 := trn_le a s 1 N
  have l2 := trn_le a s 2 N
  have l3 := trn_le a s 3 N
  have h5 : ∀ z : Nat, z < 4 → z = 0 ∨ z = 1 ∨ z = 2 ∨ z = 3 := by omega
  rcases h5 g hg with rfl | rfl | rfl | rfl
  · show tct a s N / 1 % 256 = _; omega
  · show tct a s N / 256 % 256 = _; omega
  · show tct a s N / 65536 % 256 = _; omega
  · show tct a s N / 16777216 % 256 = _; omega
theorem tct_lt {S N : Nat} {a : Nat → Int32} (hR : RowN S N a) (s : Nat) : tct a s N < 2 ^ 31 := by
  have hN := hR.2.2.1
  have e := tct_eq hR s N (Nat.le_refl _)
  have l0 := trn_le a s 0 N
  have l1 := trn_le a s 1 N
  have l2 := trn_le a s 2 N
  have l3 := trn_le a s 3 N
  omega
theorem c_turnLoop {S N : Nat} {a f : Nat → Int32} {s : Nat} (hR : RowN S N a) (hu : Nu N a f) (hs : s < 2 ^ 31) : ∀ (fu k : Nat), k ≤ N → N - k < fu → lpX2_turnCounts_4 (nI s) (nI N) f fu (nI (tct a s k)) (nI k) = some (nI (tct a s N), nI N)
  | 0, _, _, h => by omega
  | fu + 1, k, hk, hf => by
    have hN := hR.2.2.1
    unfold lpX2_turnCounts_4
    by_cases e : k = N
    · subst e
      rw [if_pos (nI_le (Nat.le_refl _) (by omega))]
    · obtain ⟨e1, e2⟩ := tm_eq hR (show k < N by omega)
      have e3 : (8 : Int32) * nI (tm a k) = nI (8 * tm a k) := nI_mul 8 _
      rw [if_neg (nI_ge (by omega) (by omega)), p_madeOf hs (by omega), ob_eq rfl, c_number (x := 0) (w := 0) hu hN (by omega) rfl (by omega), ob_eq rfl, nI_1]
      rw [show a (11 + 9 * k + 0) = nI (tm a k) from e1, e3, shlN _ (by omega), nI_add]
      exact c_turnLoop hR hu hs fu (k + 1) (by omega) (by omega)
theorem c_turnCounts {S N : Nat} {a f : Nat → Int32} {s : Nat} (hR : RowN S N a) (hu : Nu N a f) (hs : s < 2 ^ 31) : pX2_turnCounts (nI s) (nI N) f = some (nI (tct a s N)) := by
  unfold pX2_turnCounts
  have hN := hR.2.2.1
  rw [ob_eq (show lpX2_turnCounts_4 (nI s) (nI N) f lpF (0 : Int32) (0 : Int32) = _ from c_turnLoop hR hu hs lpF 0 (by omega) (by have := lpF_big; omega))]
theorem c_turnsIn {S N : Nat} {a : Nat → Int32} {s g : Nat} (hR : RowN S N a) (hg : g < 4) : pX8_turnsIn (nI (tct a s N)) (nI g) = some (nI (trn a s g N)) := by
  unfold pX8_turnsIn
  have e3 : (8 : Int32) * nI g = nI (8 * g) := nI_mul 8 _
  rw [e3, shr_nI (tct_lt hR s) (by omega)]
  have : nI (tct a s N / 2 ^ (8 * g)) &&& (255 : Int32) = nI (tct a s N / 2 ^ (8 * g) % 2 ^ 8) := fa_mask _ 8
  rw [this, show (2 : Nat) ^ 8 = 256 from rfl, tct_dig hR s hg]
/-- the fewest turns of those that are there -/
def lst (c : Nat) (th : Nat → Bool) (tr : Nat → Nat) : Nat → Nat
  | 0 => c
  | j + 1 => if th j = true ∧ tr j < lst c th tr j then tr j else lst c th tr j
theorem lst_le {c : Nat} {th : Nat → Bool} {tr : Nat → Nat} : ∀ j, lst c th tr j ≤ c
  | 0 => Nat.le_refl _
  | j + 1 => by
    have ih := lst_le (c := c) (th := th) (tr := tr) j
    show (if th j = true ∧ tr j < lst c th tr j then tr j else lst c th tr j) ≤ c
    by_cases h : th j = true ∧ tr j < lst c th tr j
    · rw [if_pos h]; omega
    · rw [if_neg h]; exact ih
theorem lst_min {c : Nat} {th : Nat → Bool} {tr : Nat → Nat} : ∀ j g, g < j → th g = true → lst c th tr j ≤ tr g
  | 0, _, h, _ => by omega
  | j + 1, g, h, ht => by
    show (if th j = true ∧ tr j < lst c th tr j then tr j else lst c th tr j) ≤ tr g
    by_cases hc : th j = true ∧ tr j < lst c th tr j
    · rw [if_pos hc]
      by_cases e : g = j
      · subst e; exact Nat.le_refl _
      · have := lst_min (c := c) (th := th) (tr := tr) j g (by omega) ht; omega
    · rw [if_neg hc]
      by_cases e : g = j
      · subst e
        exact Nat.le_of_not_lt fun hl => hc ⟨ht, hl⟩
      · exact lst_min j g (by omega) ht
theorem lst_two {th : Nat → Bool} {tr : Nat → Nat} {c d : Nat} (h : ∀ g, tr g < c) (h2 : ∀ g, tr g < d) : ∀ j, (∀ g, g < j → th g = false) ∧ lst c th tr j = c ∧ lst d th tr j = d ∨ lst c th tr j = lst d th tr j
  | 0 => Or.inl ⟨fun g hg => by omega, rfl, rfl⟩
  | j + 1 => by
    show (∀ g, g < j + 1 → th g = false) ∧ (if th j = true ∧ tr j < lst c th tr j then tr j else lst c th tr j) = c ∧ (if th j = true ∧ tr j < lst d th tr j then tr j else lst d th tr j) = d ∨ (if th j = true ∧ tr j < lst c th tr j then tr j else lst c th tr j) = (if th j = true ∧ tr j < lst d th tr j then tr j else lst d th tr j)
    rcases lst_two (th := th) h h2 j with ⟨i1, i2, i3⟩ | i
    · rw [i2, i3]
      cases ht : th j with
      | false =>
        refine Or.inl ⟨fun g hg => ?_, if_neg (fun q => by cases q.1), if_neg (fun q => by cases q.1)⟩
        by_cases e : g = j
        · subst e; exact ht
        · exact i1 g (by omega)
      | true =>
        refine Or.inr ?_
        rw [if_pos ⟨rfl, h j⟩, if_pos ⟨rfl, h2 j⟩]
    · rw [i]
      exact Or.inr rfl
/-- the teams in turn -/
def itn (th : Nat → Bool) (tr : Nat → Nat) : Int32 := msk (fun g => th g && decide (tr g = lst 100 th tr 4)) 4
theorem c_inLoop {th : Nat → Bool} {tr : Nat → Nat} {ct tk : Int32} (htr : ∀ g, tr g < 100) (hth : ∀ g, g < 4 → bt tk g = th g) (hct : ∀ g, g < 4 → pX8_turnsIn ct (nI g) = some (nI (tr g))) : ∀ (fu j : Nat), j ≤ 4 → 4 - j < fu →
    lpX2_teamsInTurn_27 ct tk fu (nI (lst 256 th tr j)) (msk (fun g => th g && decide (tr g = lst 256 th tr j)) j) (nI j) = some (nI (lst 256 th tr 4), msk (fun g => th g && decide (tr g = lst 256 th tr 4)) 4, nI 4)
  | 0, _, _, h => by omega
  | fu + 1, j, hj, hf => by
    unfold lpX2_teamsInTurn_27
    by_cases e : j = 4
    · subst e
      rw [if_pos (show (4 : Int32) ≤ nI 4 from nI_le (Nat.le_refl 4) (by omega))]
    · have e4 : ¬ (4 : Int32) ≤ nI j := nI_ge (a := j) (b := 4) (by omega) (by omega)
      have hl := lst_le (c := 256) (th := th) (tr := tr) j
      have ht := htr j
      rw [if_neg e4, hct j (by omega), ob_eq rfl, p_has _ (by omega : j < 32), ob_eq rfl, hth j (by omega), nI_1]
      have ih := c_inLoop htr hth hct fu (j + 1) (by omega) (by omega)
      have e5 : lst 256 th tr (j + 1) = if th j = true ∧ tr j < lst 256 th tr j then tr j else lst 256 th tr j := rfl
      have e6 : ∀ P : Nat → Bool, msk P (j + 1) = msk P j ||| (if P j then (1 : Int32) <<< (nI j &&& 31) else 0) := fun _ => rfl
      cases hb : th j with
      | false =>
        rw [if_pos (by decide)]
        rw [e5, hb, if_neg (fun q => by cases q.1), e6, hb] at ih
        rw [show (if (false && decide (tr j = lst 256 th tr j)) = true then (1 : Int32) <<< (nI j &&& 31) else 0) = 0 from rfl, or_zero] at ih
        exact ih
      | true =>
        rw [if_neg (by decide)]
        by_cases c1 : tr j < lst 256 th tr j
        · rw [if_neg (nI_nlt (by omega) (by omega)), if_neg (nI_ge c1 (by omega))]
          rw [e5, hb, if_pos ⟨rfl, c1⟩, e6, hb] at ih
          have e7 : msk (fun g => th g && decide (tr g = tr j)) j = 0 := by
            rw [msk_congr (Q := fun _ => false)]
            · apply b_ext
              intro i hi
              rw [msk_bt _ j (by omega) i hi, Bool.and_false, b_0]
            · intro g hg
              cases hg2 : th g with
              | false => rfl
              | true =>
                have := lst_min (c := 256) (th := th) (tr := tr) j g hg hg2
                rw [decide_eq_false (by omega)]; rfl
          rw [e7, decide_eq_true rfl] at ih
          rw [show (0 : Int32) ||| (if (true && true) = true then (1 : Int32) <<< (nI j &&& 31) else 0) = (1 : Int32) <<< (nI j &&& 31) from by
            apply b_ext
            intro i hi
            rw [b_or, b_0, Bool.false_or]
            rfl] at ih
          exact ih
        · by_cases c2 : lst 256 th tr j < tr j
          · rw [if_pos (nI_lt c2 (by omega))]
            rw [e5, hb, if_neg (fun q => c1 q.2), e6, hb, decide_eq_false (by omega)] at ih
            rw [show (if (true && false) = true then (1 : Int32) <<< (nI j &&& 31) else 0) = 0 from rfl, or_zero] at ih
            exact ih
          · have c3 : tr j = lst 256 th tr j := by omega
            rw [if_neg (nI_nlt (by omega) (by omega)), if_pos (nI_le (by omega) (by omega))]
            rw [e5, hb, if_neg (fun q => c1 q.2), e6, hb, decide_eq_true c3] at ih
            rw [c3]
            exact ih
/-- the teams that have not waived -/
def thr (a : Nat → Int32) (N : Nat) (g : Nat) : Bool := bt (tmk a N &&& (a 68 ^^^ (-1 : Int32))) g
theorem itn_256 {th : Nat → Bool} {tr : Nat → Nat} (htr : ∀ g, tr g < 100) : msk (fun g => th g && decide (tr g = lst 256 th tr 4)) 4 = itn th tr := by
  unfold itn
  refine msk_congr fun g hg => ?_
  rcases lst_two (th := th) (c := 256) (d := 100) (fun g => by have := htr g; omega) htr 4 with ⟨h, -, -⟩ | h
  · rw [h g hg]; rfl
  · rw [h]
theorem c_teamsInTurn {S N : Nat} {a f : Nat → Int32} {s : Nat} (hR : RowN S N a) (hu : Nu N a f) (hs : s < 2 ^ 31) : pX2_teamsInTurn (nI s) (a 68) (nI N) (tmk a N) f = some (itn (thr a N) (fun g => trn a s g N)) := by
  have hN := hR.2.2.1
  unfold pX2_teamsInTurn
  have htr : ∀ g, trn a s g N < 100 := fun g => by have := trn_le a s g N; omega
  rw [c_turnCounts hR hu hs, ob_eq rfl]
  have h := c_inLoop (th := thr a N) (tr := fun g => trn a s g N) (ct := nI (tct a s N)) (tk := tmk a N &&& (a 68 ^^^ (-1 : Int32))) htr (fun g hg => rfl) (fun g hg => c_turnsIn hR hg) lpF 0 (by omega) (by have := lpF_big; omega)
  rw [ob_eq (show lpX2_teamsInTurn_27 (nI (tct a s N)) (tmk a N &&& (a 68 ^^^ (-1 : Int32))) lpF (256 : Int32) (0 : Int32) (0 : Int32) = _ from h), itn_256 htr]
/-! the reference's way -/
theorem m_zero {b : Nat → Int32} : ∀ (fu j : Nat) (b : Nat → Int32), j ≤ 4 → 4 - j < fu → (∀ g, g < j → b g = 0) → ∃ b', lpX9_inTurnBy_2 fu (nI j) b = some (nI 4, b') ∧ ∀ g, g < 4 → b' g = 0
  | 0, _, _, _, h, _ => by omega
  | fu + 1, j, b, hj, hf, hb => by
    unfold lpX9_inTurnBy_2
    by_cases e : j = 4
    · subst e
      rw [if_pos (show (4 : Int32) ≤ nI 4 from nI_le (Nat.le_refl 4) (by omega))]
      exact ⟨b, rfl, hb⟩
    · have e4 : ¬ (4 : Int32) ≤ nI j := nI_ge (a := j) (b := 4) (by omega) (by omega)
      rw [if_neg e4, if_neg (nI_in (by omega : j < 4) (by omega)), nI_1, nI_clamp (by omega)]
      exact m_zero (b := b) fu (j + 1) (upd b j 0) (by omega) (by omega) (fun g hg => by
        by_cases eg : g = j
        · subst eg; exact pk_us
        · rw [pk_un eg]; exact hb g (by omega))
theorem m_turns {S N : Nat} {a : Nat → Int32} {s : Nat} (hR : RowN S N a) (hs : s < 2 ^ 31) : ∀ (fu k : Nat) (b : Nat → Int32), k ≤ N → N - k < fu → (∀ g, g < 4 → b g = nI (trn a s g k)) → ∃ b', lpX9_inTurnBy_22 (nI s) a fu (nI k) b = some (nI N, b') ∧ ∀ g, g < 4 → b' g = nI (trn a s g N)
  | 0, _, _, _, h, _ => by omega
  | fu + 1, k, b, hk, hf, hb => by
    have hN := hR.2.2.1
    unfold lpX9_inTurnBy_22
    rw [hR.2.2.2.2.1]
    by_cases e : k = N
    · subst e
      rw [if_pos (nI_le (Nat.le_refl _) (by omega))]
      exact ⟨b, rfl, hb⟩
    · obtain ⟨e1, e2⟩ := tm_eq hR (show k < N by omega)
      rw [if_neg (nI_ge (by omega) (by omega)), p_ofTarget (x := 0) (w := 0) rfl (by omega), ob_eq rfl]
      rw [show a (11 + 9 * k + 0) = nI (tm a k) from e1, if_neg (nI_in e2 (by omega)), p_madeIn hs (by omega), ob_eq rfl, nI_1, nI_clamp (by omega), hb _ e2, nI_add]
      refine m_turns hR hs fu (k + 1) _ (by omega) (by omega) (fun g hg => ?_)
      show _ = nI (trn a s g k + (if tm a k = g then dg s k else 0))
      by_cases eg : g = tm a k
      · subst eg
        rw [pk_us, if_pos rfl]
      · rw [pk_un eg, if_neg (fun h => eg h.symm), hb g hg, Nat.add_zero]
theorem m_least {th : Nat → Bool} {tr : Nat → Nat} {tk : Int32} {b : Nat → Int32} (htr : ∀ g, tr g < 100) (hth : ∀ g, g < 4 → bt tk g = th g) (hb : ∀ g, g < 4 → b g = nI (tr g)) : ∀ (fu j : Nat), j ≤ 4 → 4 - j < fu → lpX9_inTurnBy_79 tk b fu (nI (lst 100 th tr j)) (nI j) = some (nI (lst 100 th tr 4), nI 4)
  | 0, _, _, h => by omega
  | fu + 1, j, hj, hf => by
    unfold lpX9_inTurnBy_79
    by_cases e : j = 4
    · subst e
      rw [if_pos (show (4 : Int32) ≤ nI 4 from nI_le (Nat.le_refl 4) (by omega))]
    · have e4 : ¬ (4 : Int32) ≤ nI j := nI_ge (a := j) (b := 4) (by omega) (by omega)
      have hl := lst_le (c := 100) (th := th) (tr := tr) j
      have ht := htr j
      have ih := m_least htr hth hb fu (j + 1) (by omega) (by omega)
      rw [show lst 100 th tr (j + 1) = if th j = true ∧ tr j < lst 100 th tr j then tr j else lst 100 th tr j from rfl] at ih
      rw [if_neg e4, has_bt _ (by omega : j < 32), hth j (by omega), nI_1]
      cases hq : th j with
      | false =>
        rw [hq, if_neg (fun q => by cases q.1)] at ih
        rw [if_pos (by decide)]
        exact ih
      | true =>
        rw [if_neg (by decide), if_neg (nI_in (by omega : j < 4) (by omega)), nI_clamp (by omega), hb j (by omega)]
        by_cases c : tr j < lst 100 th tr j
        · rw [hq, if_pos ⟨rfl, c⟩] at ih
          rw [if_neg (nI_ge c (by omega))]
          exact ih
        · rw [hq, if_neg (fun q => c q.2)] at ih
          rw [if_pos (nI_le (by omega) (by omega))]
          exact ih
theorem m_mask {th : Nat → Bool} {tr : Nat → Nat} {tk : Int32} {b : Nat → Int32} {l : Nat} (htr : ∀ g, tr g < 100) (hl : l ≤ 100) (hth : ∀ g, g < 4 → bt tk g = th g) (hb : ∀ g, g < 4 → b g = nI (tr g)) : ∀ (fu j : Nat), j ≤ 4 → 4 - j < fu → lpX9_inTurnBy_126 tk (nI l) b fu (msk (fun g => th g && decide (tr g = l)) j) (nI j) = some (msk (fun g => th g && decide (tr g = l)) 4, nI 4)
  | 0, _, _, h => by omega
  | fu + 1, j, hj, hf => by
    unfold lpX9_inTurnBy_126
    by_cases e : j = 4
    · subst e
      rw [if_pos (show (4 : Int32) ≤ nI 4 from nI_le (Nat.le_refl 4) (by omega))]
    · have e4 : ¬ (4 : Int32) ≤ nI j := nI_ge (a := j) (b := 4) (by omega) (by omega)
      have ht := htr j
      have ih := m_mask htr hl hth hb fu (j + 1) (by omega) (by omega)
      rw [show msk (fun g => th g && decide (tr g = l)) (j + 1) = msk (fun g => th g && decide (tr g = l)) j ||| (if (th j && decide (tr j = l)) = true then (1 : Int32) <<< (nI j &&& 31) else 0) from rfl] at ih
      rw [if_neg e4, has_bt _ (by omega : j < 32), hth j (by omega), nI_1]
      cases hq : th j with
      | false =>
        rw [hq] at ih
        rw [if_pos (by decide)]
        exact ih
      | true =>
        rw [if_neg (by decide), if_neg (nI_in (by omega : j < 4) (by omega)), nI_clamp (by omega), hb j (by omega)]
        by_cases c : tr j = l
        · rw [hq, decide_eq_true c] at ih
          rw [c, if_neg (fun h => h rfl)]
          exact ih
        · rw [hq, decide_eq_false c] at ih
          rw [if_pos (fun h => c ((nI_eq (by omega) (by omega)).mp h))]
          exact ih
theorem m_inTurnBy {S N : Nat} {a b : Nat → Int32} {s : Nat} (hR : RowN S N a) (hs : s < 2 ^ 31) : ∃ b', pX9_inTurnBy (nI s) a b = some (itn (thr a N) (fun g => trn a s g N), b') := by
  have hN := hR.2.2.1
  have hF := lpF_big
  have htr : ∀ g, trn a s g N < 100 := fun g => by have := trn_le a s g N; omega
  obtain ⟨b1, h1, h2⟩ := m_zero (b := b) lpF 0 b (by omega) (by omega) (fun g hg => by omega)
  obtain ⟨b2, h3, h4⟩ := m_turns hR hs lpF 0 b1 (by omega) (by omega) (fun g hg => h2 g hg)
  refine ⟨b2, ?_⟩
  unfold pX9_inTurnBy
  rw [ob_eq (show lpX9_inTurnBy_2 lpF (0 : Int32) b = _ from h1), ob_eq (show lpX9_inTurnBy_22 (nI s) a lpF (0 : Int32) b1 = _ from h3), ob_eq (p_teams hN hR.2.2.2.2.1)]
  rw [ob_eq (show lpX9_inTurnBy_79 (tmk a N &&& (a 68 ^^^ (-1 : Int32))) b2 lpF (100 : Int32) (0 : Int32) = _ from m_least (th := thr a N) (tr := fun g => trn a s g N) htr (fun g hg => rfl) h4 lpF 0 (by omega) (by omega))]
  rw [ob_eq (show lpX9_inTurnBy_126 (tmk a N &&& (a 68 ^^^ (-1 : Int32))) _ b2 lpF (0 : Int32) (0 : Int32) = _ from m_mask (th := thr a N) (tr := fun g => trn a s g N) htr (lst_le 4) (fun g hg => rfl) h4 lpF 0 (by omega) (by omega))]
  rfl
