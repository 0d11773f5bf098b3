/-! TOKENS: where the reference stands beside the class -/
def spx (b : Nat → Int32) (n p : Nat) : Nat := scn (iS b) (n - p) p
theorem spx_rng {b : Nat → Int32} {n p : Nat} (h : p ≤ n) : p ≤ spx b n p ∧ spx b n p ≤ n := by
  have h1 := scn_ge (iS b) (n - p) p
  have h2 := scn_le (iS b) (n - p) p
  unfold spx
  omega
theorem spx_no {b : Nat → Int32} {n p : Nat} (h : p ≤ n) (h2 : spx b n p < n) : iS b (spx b n p) = false := scn_stop _ _ _ (by unfold spx at h2; omega)
theorem spx_spx {b : Nat → Int32} {n p : Nat} (h : p ≤ n) : spx b n (spx b n p) = spx b n p := by
  by_cases c : spx b n p < n
  · exact scn_no (spx_no h c)
  · have := (spx_rng (b := b) h).2
    have e : spx b n p = n := by omega
    rw [e]
    unfold spx
    rw [Nat.sub_self]
    rfl
/-- the token that begins at q -/
def Tk (b rb : Nat → Int32) (n q : Nat) (T : Int32 × Int32 × Int32 × Int64) : Prop :=
  T.1 = nI q ∧ (
  (q = n ∧ T.2.2.1 = 8) ∨
  (q < n ∧ iL b q = true ∧ T.2.1 = nI (scn (iL b) (n - q) q) ∧ T.2.2.1 = nI (wk b q (scn (iL b) (n - q) q))) ∨
  (q < n ∧ iL b q = false ∧ iD b q = true ∧ T.2.2.1 = 5 ∧ ∃ cv mv, Dg b rb n q cv mv ∧ T.2.1 = nI (scn (iD b) (n - q) q) ∧ T.2.2.2 = lN mv) ∨
  (q < n ∧ iL b q = false ∧ iD b q = false ∧ b q = 59 ∧ T.2.1 = nI (q + 1) ∧ T.2.2.1 = 7) ∨
  (q < n ∧ iL b q = false ∧ iD b q = false ∧ b q = 45 ∧ q + 1 < n ∧ iD b (q + 1) = true ∧ T.2.2.1 = 6 ∧ ∃ cv mv, Dg b rb n (q + 1) cv mv ∧ T.2.1 = nI (scn (iD b) (n - (q + 1)) (q + 1)) ∧ T.2.2.2 = -(lN mv)) ∨
  (q < n ∧ iL b q = false ∧ iD b q = false ∧ ¬ b q = 59 ∧ (b q = 45 → q + 1 < n → iD b (q + 1) = false) ∧ T.2.2.1 = 9))
theorem m_next {b rb : Nat → Int32} {n p : Nat} (h : Al n b rb) (hp : p ≤ n) (num : Int64) : ∃ T, pX9_next b (nI n) (nI p) num = some T ∧ Tk b rb n (spx b n p) T := by
  have h5 := h.1
  obtain ⟨g1, g2⟩ := spx_rng (b := b) hp
  have e0 : lpX9_next_8 b (nI n) lpF (nI p) = some (nI (spx b n p)) := m_skipLoop h5 lpF (n - p) p (by omega) (by have := lpF_big; omega)
  unfold pX9_next
  rw [ob_eq e0]
  generalize spx b n p = q at g1 g2
  by_cases c : q < n
  · rw [m_see h5 c, ob_eq rfl, if_pos (nI_lt c (by omega)), in_L, ob_eq rfl]
    cases hL : iL b q with
    | true =>
      have w1 := scn_ge (iL b) (n - q) q
      have w2 := scn_le (iL b) (n - q) q
      rw [if_neg i1t, ob_eq (m_wordLoop h5 lpF (n - q) q (by omega) (by have := lpF_big; omega)), ob_eq (m_wordAt h5 w1 (by omega))]
      exact ⟨_, rfl, rfl, Or.inr (Or.inl ⟨c, hL, rfl, rfl⟩)⟩
    | false =>
      rw [if_pos i0f, in_D, ob_eq rfl]
      cases hD : iD b q with
      | true =>
        obtain ⟨cv, mv, hd⟩ := dg_ex h (show q ≤ n by omega)
        rw [if_neg i1t, ob_eq hd.2.1]
        exact ⟨_, rfl, rfl, Or.inr (Or.inr (Or.inl ⟨c, hL, hD, rfl, cv, mv, hd, rfl, rfl⟩))⟩
      | false =>
        rw [if_pos i0f, nI_1 q]
        by_cases c59 : b q = 59
        · rw [if_neg (fun g => g c59), if_pos (by rw [c59]; decide)]
          exact ⟨_, rfl, rfl, Or.inr (Or.inr (Or.inr (Or.inl ⟨c, hL, hD, c59, rfl, rfl⟩)))⟩
        · rw [if_pos c59]
          by_cases c45 : b q = 45
          · rw [if_neg (fun g => g c45)]
            by_cases c1 : q + 1 < n
            · rw [m_see h5 c1, ob_eq rfl, in_D, ob_eq rfl]
              cases hD1 : iD b (q + 1) with
              | true =>
                obtain ⟨cv, mv, hd⟩ := dg_ex h (show q + 1 ≤ n by omega)
                rw [if_neg i1t, ob_eq hd.2.1]
                exact ⟨_, rfl, rfl, Or.inr (Or.inr (Or.inr (Or.inr (Or.inl ⟨c, hL, hD, c45, c1, hD1, rfl, cv, mv, hd, rfl, rfl⟩))))⟩
              | false =>
                rw [if_pos i0f]
                exact ⟨_, rfl, rfl, Or.inr (Or.inr (Or.inr (Or.inr (Or.inr ⟨c, hL, hD, c59, fun _ _ => hD1, rfl⟩))))⟩
            · rw [m_seeE h5 (by omega) (by omega), ob_eq rfl, in_DE, ob_eq rfl, if_pos rfl]
              exact ⟨_, rfl, rfl, Or.inr (Or.inr (Or.inr (Or.inr (Or.inr ⟨c, hL, hD, c59, fun _ g => absurd g c1, rfl⟩))))⟩
          · rw [if_pos c45]
            exact ⟨_, rfl, rfl, Or.inr (Or.inr (Or.inr (Or.inr (Or.inr ⟨c, hL, hD, c59, fun g _ => absurd g c45, rfl⟩))))⟩
  · have e : q = n := by omega
    subst e
    rw [m_seeE h5 (by omega) (Nat.le_refl _), ob_eq rfl, if_neg (nI_nlt (Nat.le_refl _) (by omega))]
    exact ⟨_, rfl, rfl, Or.inl ⟨rfl, rfl⟩⟩
/-- the class at p, the reference at the token behind it -/
def TK (b rb : Nat → Int32) (n p : Nat) (T : Int32 × Int32 × Int32 × Int64) : Prop := p ≤ n ∧ Tk b rb n (spx b n p) T
theorem TK_spx {b rb : Nat → Int32} {n p : Nat} {T : Int32 × Int32 × Int32 × Int64} (h : TK b rb n p T) : TK b rb n (spx b n p) T := ⟨(spx_rng h.1).2, by rw [spx_spx h.1]; exact h.2⟩
/-! the reference's tests -/
theorem is_eq (k kind : Int32) : pX9_is k kind 0 = some (if kind = k then 1 else 0) := by
  unfold pX9_is
  rw [if_neg (show ¬ ¬ (0 : Int32) = 0 from fun h => h rfl)]
  by_cases c : kind = k
  · rw [if_neg (fun h => h c), if_pos c]
  · rw [if_pos c, if_neg c]
theorem is_w {k kind w : Int32} (h : ¬ w = 0) : pX9_is k kind w = some 0 := by
  unfold pX9_is
  rw [if_pos h]
theorem fails_0 (c at' wA : Int32) : pX9_fails c at' 0 wA = some (c, at') := by
  unfold pX9_fails
  rw [if_pos rfl]
theorem fails_w {c at' w wA : Int32} (h : ¬ w = 0) : pX9_fails c at' w wA = some (w, wA) := by
  unfold pX9_fails
  rw [if_neg h]
theorem must_ok {b : Nat → Int32} {sz k wA : Int32} {T : Int32 × Int32 × Int32 × Int64} (h : T.2.2.1 = k) : pX9_must k b sz T.1 T.2.1 T.2.2.1 0 wA T.2.2.2 = ob (pX9_next b sz T.2.1 T.2.2.2) (fun z => some (z.1, z.2.1, z.2.2.1, 0, wA, z.2.2.2)) := by
  unfold pX9_must
  rw [is_eq, if_pos h, ob_eq rfl, if_pos (by decide), if_neg (show ¬ ¬ (0 : Int32) = 0 from fun h => h rfl)]
theorem must_no {b : Nat → Int32} {sz k wA : Int32} {T : Int32 × Int32 × Int32 × Int64} (h : ¬ T.2.2.1 = k) : pX9_must k b sz T.1 T.2.1 T.2.2.1 0 wA T.2.2.2 = some (T.1, T.2.1, T.2.2.1, -2, T.1, T.2.2.2) := by
  unfold pX9_must
  rw [is_eq, if_neg h, ob_eq rfl, if_neg (show ¬ ¬ (0 : Int32) = 0 from fun h => h rfl), fails_0, ob_eq rfl, if_pos (show ¬ ((-2 : Int32), T.1).1 = 0 from (by decide : ¬ (-2 : Int32) = 0))]
theorem must_w {b : Nat → Int32} {sz k at' bh kind w wA : Int32} {num : Int64} (h : ¬ w = 0) : pX9_must k b sz at' bh kind w wA num = some (at', bh, kind, w, wA, num) := by
  unfold pX9_must
  rw [is_w h, ob_eq rfl, if_neg (show ¬ ¬ (0 : Int32) = 0 from fun h => h rfl), fails_w h, ob_eq rfl, if_pos h]
theorem takes_w {b : Nat → Int32} {sz lo hi at' bh kind w wA : Int32} {num : Int64} (h : ¬ w = 0) : pX9_takes lo hi b sz at' bh kind w wA num = some (0, at', bh, kind, w, wA, num) := by
  unfold pX9_takes
  by_cases c : 0 ≤ lo
  · rw [if_pos c, is_w h, ob_eq rfl, if_neg (show ¬ ¬ (0 : Int32) = 0 from fun h => h rfl), fails_w h, ob_eq rfl, if_pos h]
  · rw [if_neg c, is_w h, ob_eq rfl, if_neg (show ¬ ¬ (0 : Int32) = 0 from fun h => h rfl), is_w h, ob_eq rfl, if_neg (show ¬ ¬ (0 : Int32) = 0 from fun h => h rfl), fails_w h, ob_eq rfl, if_pos h]
theorem takes_syn {b : Nat → Int32} {sz lo hi wA : Int32} {T : Int32 × Int32 × Int32 × Int64} (h : ¬ T.2.2.1 = 5) (h2 : 0 ≤ lo ∨ ¬ T.2.2.1 = 6) : pX9_takes lo hi b sz T.1 T.2.1 T.2.2.1 0 wA T.2.2.2 = some (0, T.1, T.2.1, T.2.2.1, -2, T.1, T.2.2.2) := by
  unfold pX9_takes
  by_cases c : 0 ≤ lo
  · rw [if_pos c, is_eq, if_neg h, ob_eq rfl, if_neg (show ¬ ¬ (0 : Int32) = 0 from fun h => h rfl), fails_0, ob_eq rfl, if_pos (show ¬ ((-2 : Int32), T.1).1 = 0 from (by decide : ¬ (-2 : Int32) = 0))]
  · rw [if_neg c, is_eq, if_neg h, ob_eq rfl, if_neg (show ¬ ¬ (0 : Int32) = 0 from fun h => h rfl), is_eq, if_neg (h2.resolve_left c), ob_eq rfl, if_neg (show ¬ ¬ (0 : Int32) = 0 from fun h => h rfl), fails_0, ob_eq rfl, if_pos (show ¬ ((-2 : Int32), T.1).1 = 0 from (by decide : ¬ (-2 : Int32) = 0))]
theorem takes_val {b : Nat → Int32} {sz lo hi wA : Int32} {T : Int32 × Int32 × Int32 × Int64} (h : T.2.2.1 = 5 ∨ (¬ 0 ≤ lo ∧ ¬ T.2.2.1 = 5 ∧ T.2.2.1 = 6)) (hv : ¬ (lo.toInt ≤ T.2.2.2.toInt ∧ T.2.2.2.toInt ≤ hi.toInt)) : pX9_takes lo hi b sz T.1 T.2.1 T.2.2.1 0 wA T.2.2.2 = some (0, T.1, T.2.1, T.2.2.1, -3, T.1, T.2.2.2) := by
  have e : pX9_isIn T.2.2.2 lo.toInt64 hi.toInt64 = some 0 := by rw [isIn_eq, Int32.toInt_toInt64, Int32.toInt_toInt64, if_neg hv]
  unfold pX9_takes
  rcases h with h | ⟨h1, h2, h3⟩
  · by_cases c : 0 ≤ lo
    · rw [if_pos c, is_eq, if_pos h, ob_eq rfl, if_pos (by decide), e, ob_eq rfl, if_neg (show ¬ ¬ (0 : Int32) = 0 from fun h => h rfl), fails_0, ob_eq rfl, if_pos (show ¬ ((-3 : Int32), T.1).1 = 0 from (by decide : ¬ (-3 : Int32) = 0))]
    · rw [if_neg c, is_eq, if_pos h, ob_eq rfl, if_pos (by decide), e, ob_eq rfl, if_neg (show ¬ ¬ (0 : Int32) = 0 from fun h => h rfl), fails_0, ob_eq rfl, if_pos (show ¬ ((-3 : Int32), T.1).1 = 0 from (by decide : ¬ (-3 : Int32) = 0))]
  · rw [if_neg h1, is_eq, if_neg h2, ob_eq rfl, if_neg (show ¬ ¬ (0 : Int32) = 0 from fun h => h rfl), is_eq, if_pos h3, ob_eq rfl, if_pos (by decide), e, ob_eq rfl, if_neg (show ¬ ¬ (0 : Int32) = 0 from fun h => h rfl), fails_0, ob_eq rfl, if_pos (show ¬ ((-3 : Int32), T.1).1 = 0 from (by decide : ¬ (-3 : Int32) = 0))]
theorem takes_ok {b : Nat → Int32} {sz lo hi wA : Int32} {T : Int32 × Int32 × Int32 × Int64} (h : T.2.2.1 = 5 ∨ (¬ 0 ≤ lo ∧ ¬ T.2.2.1 = 5 ∧ T.2.2.1 = 6)) (hv : lo.toInt ≤ T.2.2.2.toInt ∧ T.2.2.2.toInt ≤ hi.toInt) : pX9_takes lo hi b sz T.1 T.2.1 T.2.2.1 0 wA T.2.2.2 = ob (pX9_next b sz T.2.1 T.2.2.2) (fun z => some (T.2.2.2.toInt32, z.1, z.2.1, z.2.2.1, 0, wA, z.2.2.2)) := by
  have e : pX9_isIn T.2.2.2 lo.toInt64 hi.toInt64 = some 1 := by rw [isIn_eq, Int32.toInt_toInt64, Int32.toInt_toInt64, if_pos hv]
  unfold pX9_takes
  rcases h with h | ⟨h1, h2, h3⟩
  · by_cases c : 0 ≤ lo
    · rw [if_pos c, is_eq, if_pos h, ob_eq rfl, if_pos (by decide), e, ob_eq rfl, if_pos (by decide), if_neg (show ¬ ¬ (0 : Int32) = 0 from fun h => h rfl)]
    · rw [if_neg c, is_eq, if_pos h, ob_eq rfl, if_pos (by decide), e, ob_eq rfl, if_pos (by decide), if_neg (show ¬ ¬ (0 : Int32) = 0 from fun h => h rfl)]
  · rw [if_neg h1, is_eq, if_neg h2, ob_eq rfl, if_neg (show ¬ ¬ (0 : Int32) = 0 from fun h => h rfl), is_eq, if_pos h3, ob_eq rfl, if_pos (by decide), e, ob_eq rfl, if_pos (by decide), if_neg (show ¬ ¬ (0 : Int32) = 0 from fun h => h rfl)]
/-! the class's number -/
theorem cn_fail {b rb values : Nat → Int32} {n p q : Nat} {x lo hi er eA : Int32} (h : Al n b rb) (hp : p ≤ n) (hq : q = spx b n p) (hf : q = n ∨ (q < n ∧ iD b q = false ∧ (0 ≤ lo ∨ ¬ b q = 45 ∨ (q + 1 < n → iD b (q + 1) = false)))) : ∃ y, pX7_takeNumber x lo hi rb values (nI n) (nI p) er eA = some (0, y, -2, nI q, values) := by
  have h5 := h.1
  unfold pX7_takeNumber
  rw [c_skip h hp, ob_eq rfl, show scn (iS b) (n - p) p = q from hq.symm]
  rcases hf with e | ⟨c, hD, hm⟩
  · subst e
    by_cases cl : 0 ≤ lo
    · rw [if_pos cl, if_pos (nI_le (Nat.le_refl _) (by omega))]
      exact ⟨_, rfl⟩
    · rw [if_neg cl, if_pos (nI_le (Nat.le_refl _) (by omega))]
      exact ⟨_, rfl⟩
  · have e1 : pX7_isDigit (b q) = some 0 := by rw [c_isDigit, hD]; rfl
    by_cases cl : 0 ≤ lo
    · rw [if_pos cl, if_neg (nI_ge c (by omega)), if_neg (in_ok rfl (by omega : q < 500) (by omega)), clampN (x := nI q) rfl (by omega), h.2 q c, ob_eq e1, if_neg (show ¬ ¬ (0 : Int32) = 0 from fun h => h rfl)]
      exact ⟨_, rfl⟩
    · rw [if_neg cl, if_neg (nI_ge c (by omega)), if_neg (in_ok rfl (by omega : q < 500) (by omega)), clampN (x := nI q) rfl (by omega), h.2 q c, ob_eq e1, if_neg (show ¬ ¬ (0 : Int32) = 0 from fun h => h rfl)]
      by_cases c45 : b q = 45
      · rw [if_neg (fun g => g c45), nI_1 q]
        by_cases c1 : q + 1 < n
        · have e2 : pX7_isDigit (b (q + 1)) = some 0 := by rw [c_isDigit, ((hm.resolve_left cl).resolve_left (fun g => g c45)) c1]; rfl
          rw [if_neg (nI_ge c1 (by omega)), if_neg (in_ok rfl (by omega : q + 1 < 500) (by omega)), clampN (x := nI (q + 1)) rfl (by omega), h.2 (q + 1) c1, ob_eq e2, if_neg (show ¬ ¬ (0 : Int32) = 0 from fun h => h rfl)]
          exact ⟨_, rfl⟩
        · rw [if_pos (nI_le (by omega) (by omega))]
          exact ⟨_, rfl⟩
      · rw [if_pos c45]
        exact ⟨_, rfl⟩
theorem cn_dig {b rb values : Nat → Int32} {n p q cv mv idx : Nat} {lo hi er eA : Int32} (h : Al n b rb) (hp : p ≤ n) (hq : q = spx b n p) (c : q < n) (hD : iD b q = true) (hd : Dg b rb n q cv mv) (hx : idx < 9) : pX7_takeNumber (nI idx) lo hi rb values (nI n) (nI p) er eA = if nI cv < lo then some (0, nI (scn (iD b) (n - q) q), -3, nI q, values) else if nI cv ≤ hi then some (1, nI (scn (iD b) (n - q) q), er, eA, upd values idx (nI cv)) else some (0, nI (scn (iD b) (n - q) q), -3, nI q, values) := by
  have h5 := h.1
  have e1 : pX7_isDigit (b q) = some 1 := by rw [c_isDigit, hD]; rfl
  have c45 : ¬ b q = 45 := fun g => by
    obtain ⟨r, r1, r2⟩ := digit_of hD
    rw [r2] at g
    have := (keq 45 (by omega) (by omega)).mp g
    omega
  unfold pX7_takeNumber
  rw [c_skip h hp, ob_eq rfl, show scn (iS b) (n - p) p = q from hq.symm]
  by_cases cl : 0 ≤ lo
  · rw [if_pos cl, if_neg (nI_ge c (by omega)), if_neg (in_ok rfl (by omega : q < 500) (by omega)), clampN (x := nI q) rfl (by omega), h.2 q c, ob_eq e1, if_pos (by decide), ob_eq hd.1, if_neg (in_ok rfl hx (by omega)), clampN (x := nI idx) rfl (by omega)]
    rfl
  · rw [if_neg cl, if_neg (nI_ge c (by omega)), if_neg (in_ok rfl (by omega : q < 500) (by omega)), clampN (x := nI q) rfl (by omega), h.2 q c, if_pos c45, ob_eq e1, if_pos (by decide), ob_eq hd.1, if_neg (in_ok rfl hx (by omega)), clampN (x := nI idx) rfl (by omega)]
    rfl
theorem cn_min {b rb values : Nat → Int32} {n p q cv mv idx : Nat} {lo hi er eA : Int32} (h : Al n b rb) (hp : p ≤ n) (hq : q = spx b n p) (cl : ¬ 0 ≤ lo) (c45 : b q = 45) (c : q + 1 < n) (hD : iD b (q + 1) = true) (hd : Dg b rb n (q + 1) cv mv) (hx : idx < 9) : pX7_takeNumber (nI idx) lo hi rb values (nI n) (nI p) er eA = if -nI cv < lo then some (0, nI (scn (iD b) (n - (q + 1)) (q + 1)), -3, nI q, values) else if -nI cv ≤ hi then some (1, nI (scn (iD b) (n - (q + 1)) (q + 1)), er, eA, upd values idx (-nI cv)) else some (0, nI (scn (iD b) (n - (q + 1)) (q + 1)), -3, nI q, values) := by
  have h5 := h.1
  have e1 : pX7_isDigit (b (q + 1)) = some 1 := by rw [c_isDigit, hD]; rfl
  unfold pX7_takeNumber
  rw [c_skip h hp, ob_eq rfl, show scn (iS b) (n - p) p = q from hq.symm, if_neg cl, if_neg (nI_ge (by omega) (by omega)), if_neg (in_ok rfl (by omega : q < 500) (by omega)), clampN (x := nI q) rfl (by omega), h.2 q (by omega), if_neg (fun g => g c45), nI_1 q, if_neg (nI_ge c (by omega)), if_neg (in_ok rfl (by omega : q + 1 < 500) (by omega)), clampN (x := nI (q + 1)) rfl (by omega), h.2 (q + 1) c, ob_eq e1, if_pos (by decide), ob_eq hd.1, if_neg (in_ok rfl hx (by omega)), clampN (x := nI idx) rfl (by omega)]
  rfl
