/-! DIGITS of a number of exposures, and what can come about -/
theorem div_add {s k i : Nat} (h : dg s k < 3) (hi : k < i) : (s + 4 ^ k) / 4 ^ i = s / 4 ^ i := by
  unfold dg at h
  obtain ⟨m, rfl⟩ : ∃ m, i = k + (m + 1) := ⟨i - k - 1, by omega⟩
  have hp : 0 < 4 ^ k := Nat.pow_pos (by omega)
  rw [Nat.pow_add, ← Nat.div_div_eq_div_mul, ← Nat.div_div_eq_div_mul, Nat.add_div_right _ hp, Nat.pow_succ, Nat.mul_comm (4 ^ m) 4, ← Nat.div_div_eq_div_mul, ← Nat.div_div_eq_div_mul]
  congr 1
  show (s / 4 ^ k + 1) / 4 = s / 4 ^ k / 4
  omega
theorem dg_add {s k i : Nat} (h : dg s k < 3) : dg (s + 4 ^ k) i = if i = k then dg s k + 1 else dg s i := by
  have hp : 0 < 4 ^ k := Nat.pow_pos (by omega)
  by_cases e : i = k
  · subst e
    rw [if_pos rfl]
    unfold dg at h ⊢
    rw [Nat.add_div_right _ hp]
    show (s / 4 ^ i + 1) % 4 = _
    omega
  · rw [if_neg e]
    by_cases hl : k < i
    · show (s + 4 ^ k) / 4 ^ i % 4 = s / 4 ^ i % 4
      rw [div_add h hl]
    · obtain ⟨m, rfl⟩ : ∃ m, k = i + (m + 1) := ⟨k - i - 1, by omega⟩
      have hp2 : 0 < 4 ^ i := Nat.pow_pos (by omega)
      show (s + 4 ^ (i + (m + 1))) / 4 ^ i % 4 = s / 4 ^ i % 4
      rw [Nat.pow_add, Nat.add_mul_div_left _ _ hp2, Nat.pow_succ]
      omega
theorem add_lt {s k N : Nat} (h : dg s k < 3) (hk : k < N) (hs : s < 4 ^ N) : s + 4 ^ k < 4 ^ N := by
  have hp : 0 < 4 ^ N := Nat.pow_pos (by omega)
  have := div_add h hk
  rw [Nat.div_eq_of_lt hs] at this
  exact (Nat.div_eq_zero_iff_lt hp).mp this
theorem pow_le6 {N : Nat} (h : N ≤ 6) : 4 ^ N ≤ 4096 := by
  have : (4 : Nat) ^ N ≤ 4 ^ 6 := Nat.pow_le_pow_right (by omega) h
  exact this
theorem pow_pos4 (N : Nat) : 0 < 4 ^ N := Nat.pow_pos (by omega)
theorem dg_big {s k N : Nat} (hs : s < 4 ^ N) (hk : N ≤ k) : dg s k = 0 := by
  unfold dg
  rw [Nat.div_eq_of_lt (Nat.lt_of_lt_of_le hs (Nat.pow_le_pow_right (by omega) hk))]
/-- how many exposures are wanted -/
def wnt (a : Nat → Int32) (k : Nat) : Nat := (a (11 + 9 * k + 7)).toNatClampNeg
theorem wnt_eq {S N : Nat} {a : Nat → Int32} (hR : RowN S N a) {k : Nat} (hk : k < N) : a (11 + 9 * k + 7) = nI (wnt a k) ∧ 1 ≤ wnt a k ∧ wnt a k ≤ 3 := by
  obtain ⟨-, -, h1, -⟩ := hR.2.2.2.2.2.2.2.2.2.2.2.2.2.2 k hk
  unfold rg at h1
  obtain ⟨j, hj, e⟩ := nI_of (x := a (11 + 9 * k + 7)) (by rw [fa_lt]; show ¬ _ < (0 : Int); omega)
  rw [e, nI_toInt hj] at h1
  have : wnt a k = j := by unfold wnt; rw [e, nI_clamp hj]
  rw [this]
  exact ⟨e, by omega, by omega⟩
/-- the targets that want more and whose teams may take turns -/
def wm (a : Nat → Int32) (N : Nat) (x : Int32) (s : Nat) : Int32 := msk (fun k => decide (dg s k < wnt a k) && bt x (tm a k)) N
theorem c_wantLoop {S N : Nat} {a f : Nat → Int32} {s : Nat} {x : Int32} (hR : RowN S N a) (hu : Nu N a f) (hs : s < 2 ^ 31) : ∀ (fu k : Nat), k ≤ N → N - k < fu → lpX2_wanting_5 (nI s) x (nI N) f fu (msk (fun k => decide (dg s k < wnt a k) && bt x (tm a k)) k) (nI k) = some (wm a N x s, nI N)
  | 0, _, _, h => by omega
  | fu + 1, k, hk, hf => by
    have hN := hR.2.2.1
    unfold lpX2_wanting_5
    by_cases e : k = N
    · subst e
      rw [if_pos (nI_le (Nat.le_refl _) (by omega))]
      rfl
    · obtain ⟨e1, e2⟩ := tm_eq hR (show k < N by omega)
      obtain ⟨w1, w2, w3⟩ := wnt_eq hR (show k < N by omega)
      have hd := dg_lt s k
      have ih := c_wantLoop (x := x) hR hu hs fu (k + 1) (by omega) (by omega)
      rw [show msk (fun k => decide (dg s k < wnt a k) && bt x (tm a k)) (k + 1) = msk (fun k => decide (dg s k < wnt a k) && bt x (tm a k)) k ||| (if (decide (dg s k < wnt a k) && bt x (tm a k)) = true then (1 : Int32) <<< (nI k &&& 31) else 0) from rfl] at ih
      rw [if_neg (nI_ge (by omega) (by omega)), p_madeOf hs (by omega), ob_eq rfl, c_number (x := 7) (w := 7) hu hN (by omega) rfl (by omega), ob_eq rfl, w1, nI_1]
      by_cases c : dg s k < wnt a k
      · rw [if_neg (nI_ge c (by omega)), c_number (x := 0) (w := 0) hu hN (by omega) rfl (by omega), ob_eq rfl, show a (11 + 9 * k + 0) = nI (tm a k) from e1, p_has _ (by omega : tm a k < 32), ob_eq rfl]
        rw [decide_eq_true c, Bool.true_and] at ih
        cases hb : bt x (tm a k) with
        | false =>
          rw [hb] at ih
          rw [if_pos (by decide)]
          rw [show ∀ z : Int32, z ||| (if false = true then (1 : Int32) <<< (nI k &&& 31) else 0) = z from fun z => or_zero z] at ih
          exact ih
        | true =>
          rw [hb] at ih
          rw [if_neg (by decide)]
          exact ih
      · rw [decide_eq_false c, Bool.false_and] at ih
        rw [if_pos (nI_le (by omega) (by omega))]
        rw [show ∀ z : Int32, z ||| (if false = true then (1 : Int32) <<< (nI k &&& 31) else 0) = z from fun z => or_zero z] at ih
        exact ih
theorem c_wanting {S N : Nat} {a f : Nat → Int32} {s : Nat} {x : Int32} (hR : RowN S N a) (hu : Nu N a f) (hs : s < 2 ^ 31) : pX2_wanting (nI s) x (nI N) f = some (wm a N x s) := by
  unfold pX2_wanting
  have hN := hR.2.2.1
  rw [ob_eq (show lpX2_wanting_5 (nI s) x (nI N) f lpF (0 : Int32) (0 : Int32) = _ from c_wantLoop hR hu hs lpF 0 (by omega) (by have := lpF_big; omega))]
theorem wm_bt {a : Nat → Int32} {N : Nat} {x : Int32} {s k : Nat} (hN : N ≤ 6) (hk : k < N) : bt (wm a N x s) k = (decide (dg s k < wnt a k) && bt x (tm a k)) := by
  unfold wm
  rw [msk_bt _ N (by omega) k (by omega), decide_eq_true hk, Bool.true_and]
/-- the slot behind the next one in which a target can be observed -/
def bnF (a : Nat → Int32) (k : Nat) : Nat → Nat → Nat
  | 0, _ => 13
  | d + 1, t => if obs a k t then t + 1 else bnF a k d (t + 1)
theorem bnF_le {a : Nat → Int32} {k : Nat} : ∀ (d t u : Nat), t ≤ u → u < t + d → obs a k u = true → bnF a k d t ≤ u + 1
  | 0, t, u, h1, h2, _ => by omega
  | d + 1, t, u, h1, h2, h => by
    show (if obs a k t then t + 1 else bnF a k d (t + 1)) ≤ u + 1
    by_cases c : obs a k t = true
    · rw [if_pos c]; omega
    · rw [if_neg c]
      refine bnF_le d (t + 1) u ?_ (by omega) h
      by_cases e : t = u
      · subst e; exact absurd h c
      · omega
theorem bnF_13 {a : Nat → Int32} {k : Nat} : ∀ (d t : Nat), t + d ≤ 12 → bnF a k d t ≤ 13
  | 0, _, _ => Nat.le_refl _
  | d + 1, t, h => by
    show (if obs a k t then t + 1 else bnF a k d (t + 1)) ≤ 13
    by_cases c : obs a k t = true
    · rw [if_pos c]; omega
    · rw [if_neg c]; exact bnF_13 d (t + 1) (by omega)
theorem c_behindLoop {S N : Nat} {a sn : Nat → Int32} {k : Nat} (hS : S ≤ 12) (hN : N ≤ 6) (hs : ∀ t, t < S → sn t = msk (obs a · t) N) (hk : k < N) : ∀ (fu d t : Nat), t + d = S → d < fu →
    lpX6_behindNext_2 (nI k) (nI S) sn fu (nI t) = some (.inl (nI S)) ∧ bnF a k d t = 13 ∨ lpX6_behindNext_2 (nI k) (nI S) sn fu (nI t) = some (.inr (nI (bnF a k d t)))
  | 0, _, _, _, h => by omega
  | fu + 1, 0, t, h, hf => by
    refine Or.inl ⟨?_, rfl⟩
    unfold lpX6_behindNext_2
    have : t = S := by omega
    subst this
    rw [if_pos (nI_le (Nat.le_refl _) (by omega))]
  | fu + 1, d + 1, t, h, hf => by
    have ih := c_behindLoop hS hN hs hk fu d (t + 1) (by omega) (by omega)
    have e : lpX6_behindNext_2 (nI k) (nI S) sn (fu + 1) (nI t) = if obs a k t then some (.inr (nI (t + 1))) else lpX6_behindNext_2 (nI k) (nI S) sn fu (nI (t + 1)) := by
      conv => lhs; unfold lpX6_behindNext_2
      rw [if_neg (nI_ge (by omega) (by omega)), c_targetsIn hS hs (by omega), ob_eq rfl, if_pos (by omega : t < S), p_has _ (by omega : k < 32), ob_eq rfl, msk_bt _ N (by omega) k (by omega), decide_eq_true hk, Bool.true_and, nI_1]
      cases obs a k t <;> rfl
    rw [e, show bnF a k (d + 1) t = (if obs a k t then t + 1 else bnF a k d (t + 1)) from rfl]
    cases hb : obs a k t with
    | true => exact Or.inr rfl
    | false => exact ih
theorem c_behindNext {S N : Nat} {a sn : Nat → Int32} {k t : Nat} (hS : S ≤ 12) (hN : N ≤ 6) (hs : ∀ t, t < S → sn t = msk (obs a · t) N) (hk : k < N) (ht : t ≤ S) : pX6_behindNext (nI k) (nI t) (nI S) sn = some (nI (bnF a k (S - t) t)) := by
  unfold pX6_behindNext
  rcases c_behindLoop hS hN hs hk lpF (S - t) t (by omega) (by have := lpF_big; omega) with ⟨h1, h2⟩ | h1
  · rw [ob_eq h1, h2]
    rfl
  · rw [ob_eq h1]
