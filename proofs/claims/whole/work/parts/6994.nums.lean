/-! ROWS OF NUMBERS AND THE SEMICOLON BEHIND THEM -/
/-- the reference takes numbers within bounds, one behind the other -/
def mT (b : Nat → Int32) (sz : Int32) : List (Int32 × Int32) → (Int32 × Int32 × Int32 × Int64) → Int32 → Int32 → Option (List Int32 × (Int32 × Int32 × Int32 × Int64) × Int32 × Int32)
  | [], T, w, wA => some ([], T, w, wA)
  | q :: L, T, w, wA => ob (pX9_takes q.1 q.2 b sz T.1 T.2.1 T.2.2.1 w wA T.2.2.2) (fun z => ob (mT b sz L (z.2.1, z.2.2.1, z.2.2.2.1, z.2.2.2.2.2.2) z.2.2.2.2.1 z.2.2.2.2.2.1) (fun y => some (z.1 :: y.1, y.2)))
theorem mT_w {b : Nat → Int32} {sz w wA : Int32} (h : ¬ w = 0) : ∀ (L : List (Int32 × Int32)) (T : Int32 × Int32 × Int32 × Int64), ∃ vs, mT b sz L T w wA = some (vs, T, w, wA)
  | [], T => ⟨_, rfl⟩
  | q :: L, T => by
    obtain ⟨vs, e⟩ := mT_w (b := b) (sz := sz) (wA := wA) h L T
    refine ⟨0 :: vs, ?_⟩
    show ob _ _ = _
    rw [takes_w h, ob_eq rfl]
    show ob (mT b sz L T w wA) _ = _
    rw [e, ob_eq rfl]
theorem mT_cons {b : Nat → Int32} {sz w wA : Int32} {q : Int32 × Int32} {L : List (Int32 × Int32)} {T : Int32 × Int32 × Int32 × Int64} {vs : List Int32} {R : (Int32 × Int32 × Int32 × Int64) × Int32 × Int32} (h : mT b sz (q :: L) T w wA = some (vs, R)) : ∃ z vs', pX9_takes q.1 q.2 b sz T.1 T.2.1 T.2.2.1 w wA T.2.2.2 = some z ∧ mT b sz L (z.2.1, z.2.2.1, z.2.2.2.1, z.2.2.2.2.2.2) z.2.2.2.2.1 z.2.2.2.2.2.1 = some (vs', R) ∧ vs = z.1 :: vs' := by
  obtain ⟨z, h1, h2⟩ := ob_some h
  obtain ⟨y, h3, h4⟩ := ob_some h2
  cases h4
  exact ⟨z, y.1, h1, h3, rfl⟩
def Bd (q : Int32 × Int32) : Prop := (-99999 ≤ q.1.toInt ∧ q.1.toInt ≤ 99999) ∧ (0 ≤ q.2.toInt ∧ q.2.toInt ≤ 99999)
/-- what the values hold -/
def Vs (L : List (Int32 × Int32)) (i : Nat) (vs : List Int32) (values : Nat → Int32) : Prop := vs.length = L.length ∧ ∀ r, r < L.length → values (i + r) = vs.getD r 0 ∧ rg (L.getD r (0, 0)).1.toInt (L.getD r (0, 0)).2.toInt (vs.getD r 0)
theorem c_seq10001001 {b rb : Nat → Int32} {n : Nat} (h : Al n b rb) : ∀ (L : List (Int32 × Int32)) (fu i p : Nat) (values : Nat → Int32) (T : Int32 × Int32 × Int32 × Int64) (wA eA : Int32), i + L.length = 1 → L.length < fu → (∀ r, r < L.length → L[r]? = some (statI 1000 (i + r), statI 1001 (i + r))) → (∀ q ∈ L, Bd q) → TK b rb n p T →
    (∃ vs p' T' values', lpX7_takeNumbers_10001001_2 rb (nI n) fu (nI i) values (nI p) 0 eA = some (.inl (nI 1, values', nI p', 0, eA)) ∧ mT b (nI n) L T 0 wA = some (vs, T', 0, wA) ∧ TK b rb n p' T' ∧ p ≤ p' ∧ Vs L i vs values' ∧ ∀ j, j < i → values' j = values j) ∨
    (∃ y code pos values' T' vs, ¬ code = 0 ∧ lpX7_takeNumbers_10001001_2 rb (nI n) fu (nI i) values (nI p) 0 eA = some (.inr (0, y, code, pos, values')) ∧ mT b (nI n) L T 0 wA = some (vs, T', code, pos))
  | _, 0, _, _, _, _, _, _, _, h, _, _, _ => by omega
  | [], fu + 1, i, p, values, T, wA, eA, hi, _, _, _, hT => by
    have hi2 : i = 1 := hi
    subst hi2
    refine Or.inl ⟨[], p, T, values, ?_, rfl, hT, Nat.le_refl _, ⟨rfl, fun r hr => absurd hr (Nat.not_lt_zero r)⟩, fun _ _ => rfl⟩
    unfold lpX7_takeNumbers_10001001_2
    rw [if_pos (nI_le (Nat.le_refl _) (by omega))]
  | q :: L, fu + 1, i, p, values, T, wA, eA, hi, hf, hst, hbd, hT => by
    have hi2 : i + (L.length + 1) = 1 := hi
    have hf2 : L.length + 1 < fu + 1 := hf
    have hq : q = (statI 1000 i, statI 1001 i) := by
      have := hst 0 (Nat.succ_pos _)
      exact Option.some.inj this
    have hb := hbd q List.mem_cons_self
    have hs := num_step (values := values) (idx := i) (wA := wA) (eA := eA) h hT (by omega) hb.1 hb.2
    rw [hq] at hs
    unfold lpX7_takeNumbers_10001001_2
    rw [if_neg (nI_ge (show i < 1 by omega) (by omega)), if_neg (nI_ge (show i < 9 by omega) (by omega)), if_neg (in_ok rfl (show i < 1 by omega) (by omega)), clampN (x := nI i) rfl (by omega)]
    rcases hs with ⟨v, p', T', s1, s2, s3, s4, s5⟩ | ⟨y, code, pos, s0, s1, s2⟩
    · rw [ob_eq s1, if_pos (show ¬ (1 : Int32) = 0 by decide), nI_1 i]
      rcases c_seq10001001 h L fu (i + 1) p' (upd values i v) T' wA eA (by omega) (by omega) (fun r hr => by
        have := hst (r + 1) (Nat.succ_lt_succ hr)
        rw [show i + (r + 1) = i + 1 + r by omega] at this
        exact this) (fun q2 hq2 => hbd q2 (List.mem_cons_of_mem _ hq2)) s3 with ⟨vs, p2, T2, values', u1, u2, u3, u4, u5, u6⟩ | ⟨y, code, pos, values', T2, vs, u0, u1, u2⟩
      · refine Or.inl ⟨v :: vs, p2, T2, values', u1, ?_, u3, by omega, ⟨congrArg Nat.succ u5.1, fun r hr => ?_⟩, fun j hj => ?_⟩
        · show ob _ _ = _
          rw [hq, ob_eq s2]
          show ob (mT b (nI n) L T' 0 wA) _ = _
          rw [ob_eq u2]
        · cases r with
          | zero =>
            rw [hq]
            refine ⟨?_, s5⟩
            show values' i = v
            rw [u6 i (by omega)]
            exact upd_at _ _ _
          | succ r =>
            have := u5.2 r (Nat.lt_of_succ_lt_succ hr)
            rw [show i + 1 + r = i + (r + 1) by omega] at this
            exact this
        · rw [u6 j (by omega)]
          exact upd_off _ _ (by omega)
      · refine Or.inr ⟨y, code, pos, values', T2, v :: vs, u0, u1, ?_⟩
        show ob _ _ = _
        rw [hq, ob_eq s2]
        show ob (mT b (nI n) L T' 0 wA) _ = _
        rw [ob_eq u2]
    · obtain ⟨vs, e⟩ := mT_w (b := b) (sz := nI n) (wA := pos) s0 L T
      rw [ob_eq s1, if_neg (show ¬ ¬ (0 : Int32) = 0 from fun h => h rfl)]
      refine Or.inr ⟨y, code, pos, values, T, 0 :: vs, s0, rfl, ?_⟩
      show ob _ _ = _
      rw [hq, ob_eq s2]
      show ob (mT b (nI n) L T code pos) _ = _
      rw [ob_eq e]
def LL10001001 : List (Int32 × Int32) := [(1, 12)]
theorem c_take10001001 {b rb values : Nat → Int32} {n p : Nat} {T : Int32 × Int32 × Int32 × Int64} (h : Al n b rb) (hT : TK b rb n p T) (wA eA : Int32) :
    (∃ vs p' T1 T' values', pX7_takeNumbers_10001001 rb values (nI n) (nI p) 0 eA = some (1, nI p', 0, eA, values') ∧ mT b (nI n) LL10001001 T 0 wA = some (vs, T1, 0, wA) ∧ pX9_must 7 b (nI n) T1.1 T1.2.1 T1.2.2.1 0 wA T1.2.2.2 = some (T'.1, T'.2.1, T'.2.2.1, 0, wA, T'.2.2.2) ∧ TK b rb n p' T' ∧ p < p' ∧ Vs LL10001001 0 vs values') ∨
    (∃ y code pos values' vs T1 w1 a1, ∃ T2 : Int32 × Int32 × Int32 × Int64, ¬ code = 0 ∧ pX7_takeNumbers_10001001 rb values (nI n) (nI p) 0 eA = some (0, y, code, pos, values') ∧ mT b (nI n) LL10001001 T 0 wA = some (vs, T1, w1, a1) ∧ pX9_must 7 b (nI n) T1.1 T1.2.1 T1.2.2.1 w1 a1 T1.2.2.2 = some (T2.1, T2.2.1, T2.2.2.1, code, pos, T2.2.2.2)) := by
  have h5 := h.1
  have hp := hT.1
  unfold pX7_takeNumbers_10001001
  rcases c_seq10001001 h LL10001001 lpF 0 p values T wA eA rfl (by have := lpF_big; show 1 < _; omega) (by decide +kernel) (by unfold Bd; decide +kernel) hT with ⟨vs, p1, T1, values', u1, u2, u3, u4, u5, u6⟩ | ⟨y, code, pos, values', T1, vs, u0, u1, u2⟩
  · rw [ob_eq (show lpX7_takeNumbers_10001001_2 rb (nI n) lpF (0 : Int32) values (nI p) 0 eA = _ from u1)]
    dsimp only
    rw [c_skip h u3.1, ob_eq rfl, show scn (iS b) (n - p1) p1 = spx b n p1 from rfl]
    have hr := spx_rng (b := b) u3.1
    rcases semi_step h u3 wA with ⟨c, c59, T', q1, q2⟩ | ⟨c, q1⟩
    · rw [if_neg (nI_ge c (by omega)), if_neg (in_ok rfl (show spx b n p1 < 500 by omega) (by omega)), clampN (x := nI (spx b n p1)) rfl (by omega), if_pos c59, nI_1]
      exact Or.inl ⟨vs, _, T1, T', values', rfl, u2, q1, q2, by omega, u5⟩
    · refine Or.inr ⟨nI (spx b n p1), -2, nI (spx b n p1), values', vs, T1, 0, wA, T1, by decide, ?_, u2, q1⟩
      rcases c with c | ⟨c, c59⟩
      · rw [if_pos (nI_le (by omega) (by omega))]
        rfl
      · rw [if_neg (nI_ge c (by omega)), if_neg (in_ok rfl (show spx b n p1 < 500 by omega) (by omega)), clampN (x := nI (spx b n p1)) rfl (by omega), if_neg c59]
        rfl
  · rw [ob_eq (show lpX7_takeNumbers_10001001_2 rb (nI n) lpF (0 : Int32) values (nI p) 0 eA = _ from u1)]
    exact Or.inr ⟨y, code, pos, values', vs, T1, code, pos, T1, u0, rfl, u2, must_w u0⟩
theorem c_seq10021003 {b rb : Nat → Int32} {n : Nat} (h : Al n b rb) : ∀ (L : List (Int32 × Int32)) (fu i p : Nat) (values : Nat → Int32) (T : Int32 × Int32 × Int32 × Int64) (wA eA : Int32), i + L.length = 6 → L.length < fu → (∀ r, r < L.length → L[r]? = some (statI 1002 (i + r), statI 1003 (i + r))) → (∀ q ∈ L, Bd q) → TK b rb n p T →
    (∃ vs p' T' values', lpX7_takeNumbers_10021003_2 rb (nI n) fu (nI i) values (nI p) 0 eA = some (.inl (nI 6, values', nI p', 0, eA)) ∧ mT b (nI n) L T 0 wA = some (vs, T', 0, wA) ∧ TK b rb n p' T' ∧ p ≤ p' ∧ Vs L i vs values' ∧ ∀ j, j < i → values' j = values j) ∨
    (∃ y code pos values' T' vs, ¬ code = 0 ∧ lpX7_takeNumbers_10021003_2 rb (nI n) fu (nI i) values (nI p) 0 eA = some (.inr (0, y, code, pos, values')) ∧ mT b (nI n) L T 0 wA = some (vs, T', code, pos))
  | _, 0, _, _, _, _, _, _, _, h, _, _, _ => by omega
  | [], fu + 1, i, p, values, T, wA, eA, hi, _, _, _, hT => by
    have hi2 : i = 6 := hi
    subst hi2
    refine Or.inl ⟨[], p, T, values, ?_, rfl, hT, Nat.le_refl _, ⟨rfl, fun r hr => absurd hr (Nat.not_lt_zero r)⟩, fun _ _ => rfl⟩
    unfold lpX7_takeNumbers_10021003_2
    rw [if_pos (nI_le (Nat.le_refl _) (by omega))]
  | q :: L, fu + 1, i, p, values, T, wA, eA, hi, hf, hst, hbd, hT => by
    have hi2 : i + (L.length + 1) = 6 := hi
    have hf2 : L.length + 1 < fu + 1 := hf
    have hq : q = (statI 1002 i, statI 1003 i) := by
      have := hst 0 (Nat.succ_pos _)
      exact Option.some.inj this
    have hb := hbd q List.mem_cons_self
    have hs := num_step (values := values) (idx := i) (wA := wA) (eA := eA) h hT (by omega) hb.1 hb.2
    rw [hq] at hs
    unfold lpX7_takeNumbers_10021003_2
    rw [if_neg (nI_ge (show i < 6 by omega) (by omega)), if_neg (nI_ge (show i < 9 by omega) (by omega)), if_neg (in_ok rfl (show i < 6 by omega) (by omega)), clampN (x := nI i) rfl (by omega)]
    rcases hs with ⟨v, p', T', s1, s2, s3, s4, s5⟩ | ⟨y, code, pos, s0, s1, s2⟩
    · rw [ob_eq s1, if_pos (show ¬ (1 : Int32) = 0 by decide), nI_1 i]
      rcases c_seq10021003 h L fu (i + 1) p' (upd values i v) T' wA eA (by omega) (by omega) (fun r hr => by
        have := hst (r + 1) (Nat.succ_lt_succ hr)
        rw [show i + (r + 1) = i + 1 + r by omega] at this
        exact this) (fun q2 hq2 => hbd q2 (List.mem_cons_of_mem _ hq2)) s3 with ⟨vs, p2, T2, values', u1, u2, u3, u4, u5, u6⟩ | ⟨y, code, pos, values', T2, vs, u0, u1, u2⟩
      · refine Or.inl ⟨v :: vs, p2, T2, values', u1, ?_, u3, by omega, ⟨congrArg Nat.succ u5.1, fun r hr => ?_⟩, fun j hj => ?_⟩
        · show ob _ _ = _
          rw [hq, ob_eq s2]
          show ob (mT b (nI n) L T' 0 wA) _ = _
          rw [ob_eq u2]
        · cases r with
          | zero =>
            rw [hq]
            refine ⟨?_, s5⟩
            show values' i = v
            rw [u6 i (by omega)]
            exact upd_at _ _ _
          | succ r =>
            have := u5.2 r (Nat.lt_of_succ_lt_succ hr)
            rw [show i + 1 + r = i + (r + 1) by omega] at this
            exact this
        · rw [u6 j (by omega)]
          exact upd_off _ _ (by omega)
      · refine Or.inr ⟨y, code, pos, values', T2, v :: vs, u0, u1, ?_⟩
        show ob _ _ = _
        rw [hq, ob_eq s2]
        show ob (mT b (nI n) L T' 0 wA) _ = _
        rw [ob_eq u2]
    · obtain ⟨vs, e⟩ := mT_w (b := b) (sz := nI n) (wA := pos) s0 L T
      rw [ob_eq s1, if_neg (show ¬ ¬ (0 : Int32) = 0 from fun h => h rfl)]
      refine Or.inr ⟨y, code, pos, values, T, 0 :: vs, s0, rfl, ?_⟩
      show ob _ _ = _
      rw [hq, ob_eq s2]
      show ob (mT b (nI n) L T code pos) _ = _
      rw [ob_eq e]
def LL10021003 : List (Int32 × Int32) := [(0, 90), (0, 30), (-10, 25), (0, 359), (0, 359), (0, 100)]
theorem c_take10021003 {b rb values : Nat → Int32} {n p : Nat} {T : Int32 × Int32 × Int32 × Int64} (h : Al n b rb) (hT : TK b rb n p T) (wA eA : Int32) :
    (∃ vs p' T1 T' values', pX7_takeNumbers_10021003 rb values (nI n) (nI p) 0 eA = some (1, nI p', 0, eA, values') ∧ mT b (nI n) LL10021003 T 0 wA = some (vs, T1, 0, wA) ∧ pX9_must 7 b (nI n) T1.1 T1.2.1 T1.2.2.1 0 wA T1.2.2.2 = some (T'.1, T'.2.1, T'.2.2.1, 0, wA, T'.2.2.2) ∧ TK b rb n p' T' ∧ p < p' ∧ Vs LL10021003 0 vs values') ∨
    (∃ y code pos values' vs T1 w1 a1, ∃ T2 : Int32 × Int32 × Int32 × Int64, ¬ code = 0 ∧ pX7_takeNumbers_10021003 rb values (nI n) (nI p) 0 eA = some (0, y, code, pos, values') ∧ mT b (nI n) LL10021003 T 0 wA = some (vs, T1, w1, a1) ∧ pX9_must 7 b (nI n) T1.1 T1.2.1 T1.2.2.1 w1 a1 T1.2.2.2 = some (T2.1, T2.2.1, T2.2.2.1, code, pos, T2.2.2.2)) := by
  have h5 := h.1
  have hp := hT.1
  unfold pX7_takeNumbers_10021003
  rcases c_seq10021003 h LL10021003 lpF 0 p values T wA eA rfl (by have := lpF_big; show 6 < _; omega) (by decide +kernel) (by unfold Bd; decide +kernel) hT with ⟨vs, p1, T1, values', u1, u2, u3, u4, u5, u6⟩ | ⟨y, code, pos, values', T1, vs, u0, u1, u2⟩
  · rw [ob_eq (show lpX7_takeNumbers_10021003_2 rb (nI n) lpF (0 : Int32) values (nI p) 0 eA = _ from u1)]
    dsimp only
    rw [c_skip h u3.1, ob_eq rfl, show scn (iS b) (n - p1) p1 = spx b n p1 from rfl]
    have hr := spx_rng (b := b) u3.1
    rcases semi_step h u3 wA with ⟨c, c59, T', q1, q2⟩ | ⟨c, q1⟩
    · rw [if_neg (nI_ge c (by omega)), if_neg (in_ok rfl (show spx b n p1 < 500 by omega) (by omega)), clampN (x := nI (spx b n p1)) rfl (by omega), if_pos c59, nI_1]
      exact Or.inl ⟨vs, _, T1, T', values', rfl, u2, q1, q2, by omega, u5⟩
    · refine Or.inr ⟨nI (spx b n p1), -2, nI (spx b n p1), values', vs, T1, 0, wA, T1, by decide, ?_, u2, q1⟩
      rcases c with c | ⟨c, c59⟩
      · rw [if_pos (nI_le (by omega) (by omega))]
        rfl
      · rw [if_neg (nI_ge c (by omega)), if_neg (in_ok rfl (show spx b n p1 < 500 by omega) (by omega)), clampN (x := nI (spx b n p1)) rfl (by omega), if_neg c59]
        rfl
  · rw [ob_eq (show lpX7_takeNumbers_10021003_2 rb (nI n) lpF (0 : Int32) values (nI p) 0 eA = _ from u1)]
    exact Or.inr ⟨y, code, pos, values', vs, T1, code, pos, T1, u0, rfl, u2, must_w u0⟩
theorem c_seq10041005 {b rb : Nat → Int32} {n : Nat} (h : Al n b rb) : ∀ (L : List (Int32 × Int32)) (fu i p : Nat) (values : Nat → Int32) (T : Int32 × Int32 × Int32 × Int64) (wA eA : Int32), i + L.length = 3 → L.length < fu → (∀ r, r < L.length → L[r]? = some (statI 1004 (i + r), statI 1005 (i + r))) → (∀ q ∈ L, Bd q) → TK b rb n p T →
    (∃ vs p' T' values', lpX7_takeNumbers_10041005_2 rb (nI n) fu (nI i) values (nI p) 0 eA = some (.inl (nI 3, values', nI p', 0, eA)) ∧ mT b (nI n) L T 0 wA = some (vs, T', 0, wA) ∧ TK b rb n p' T' ∧ p ≤ p' ∧ Vs L i vs values' ∧ ∀ j, j < i → values' j = values j) ∨
    (∃ y code pos values' T' vs, ¬ code = 0 ∧ lpX7_takeNumbers_10041005_2 rb (nI n) fu (nI i) values (nI p) 0 eA = some (.inr (0, y, code, pos, values')) ∧ mT b (nI n) L T 0 wA = some (vs, T', code, pos))
  | _, 0, _, _, _, _, _, _, _, h, _, _, _ => by omega
  | [], fu + 1, i, p, values, T, wA, eA, hi, _, _, _, hT => by
    have hi2 : i = 3 := hi
    subst hi2
    refine Or.inl ⟨[], p, T, values, ?_, rfl, hT, Nat.le_refl _, ⟨rfl, fun r hr => absurd hr (Nat.not_lt_zero r)⟩, fun _ _ => rfl⟩
    unfold lpX7_takeNumbers_10041005_2
    rw [if_pos (nI_le (Nat.le_refl _) (by omega))]
  | q :: L, fu + 1, i, p, values, T, wA, eA, hi, hf, hst, hbd, hT => by
    have hi2 : i + (L.length + 1) = 3 := hi
    have hf2 : L.length + 1 < fu + 1 := hf
    have hq : q = (statI 1004 i, statI 1005 i) := by
      have := hst 0 (Nat.succ_pos _)
      exact Option.some.inj this
    have hb := hbd q List.mem_cons_self
    have hs := num_step (values := values) (idx := i) (wA := wA) (eA := eA) h hT (by omega) hb.1 hb.2
    rw [hq] at hs
    unfold lpX7_takeNumbers_10041005_2
    rw [if_neg (nI_ge (show i < 3 by omega) (by omega)), if_neg (nI_ge (show i < 9 by omega) (by omega)), if_neg (in_ok rfl (show i < 3 by omega) (by omega)), clampN (x := nI i) rfl (by omega)]
    rcases hs with ⟨v, p', T', s1, s2, s3, s4, s5⟩ | ⟨y, code, pos, s0, s1, s2⟩
    · rw [ob_eq s1, if_pos (show ¬ (1 : Int32) = 0 by decide), nI_1 i]
      rcases c_seq10041005 h L fu (i + 1) p' (upd values i v) T' wA eA (by omega) (by omega) (fun r hr => by
        have := hst (r + 1) (Nat.succ_lt_succ hr)
        rw [show i + (r + 1) = i + 1 + r by omega] at this
        exact this) (fun q2 hq2 => hbd q2 (List.mem_cons_of_mem _ hq2)) s3 with ⟨vs, p2, T2, values', u1, u2, u3, u4, u5, u6⟩ | ⟨y, code, pos, values', T2, vs, u0, u1, u2⟩
      · refine Or.inl ⟨v :: vs, p2, T2, values', u1, ?_, u3, by omega, ⟨congrArg Nat.succ u5.1, fun r hr => ?_⟩, fun j hj => ?_⟩
        · show ob _ _ = _
          rw [hq, ob_eq s2]
          show ob (mT b (nI n) L T' 0 wA) _ = _
          rw [ob_eq u2]
        · cases r with
          | zero =>
            rw [hq]
            refine ⟨?_, s5⟩
            show values' i = v
            rw [u6 i (by omega)]
            exact upd_at _ _ _
          | succ r =>
            have := u5.2 r (Nat.lt_of_succ_lt_succ hr)
            rw [show i + 1 + r = i + (r + 1) by omega] at this
            exact this
        · rw [u6 j (by omega)]
          exact upd_off _ _ (by omega)
      · refine Or.inr ⟨y, code, pos, values', T2, v :: vs, u0, u1, ?_⟩
        show ob _ _ = _
        rw [hq, ob_eq s2]
        show ob (mT b (nI n) L T' 0 wA) _ = _
        rw [ob_eq u2]
    · obtain ⟨vs, e⟩ := mT_w (b := b) (sz := nI n) (wA := pos) s0 L T
      rw [ob_eq s1, if_neg (show ¬ ¬ (0 : Int32) = 0 from fun h => h rfl)]
      refine Or.inr ⟨y, code, pos, values, T, 0 :: vs, s0, rfl, ?_⟩
      show ob _ _ = _
      rw [hq, ob_eq s2]
      show ob (mT b (nI n) L T code pos) _ = _
      rw [ob_eq e]
def LL10041005 : List (Int32 × Int32) := [(0, 100), (0, 100), (0, 100)]
theorem c_take10041005 {b rb values : Nat → Int32} {n p : Nat} {T : Int32 × Int32 × Int32 × Int64} (h : Al n b rb) (hT : TK b rb n p T) (wA eA : Int32) :
    (∃ vs p' T1 T' values', pX7_takeNumbers_10041005 rb values (nI n) (nI p) 0 eA = some (1, nI p', 0, eA, values') ∧ mT b (nI n) LL10041005 T 0 wA = some (vs, T1, 0, wA) ∧ pX9_must 7 b (nI n) T1.1 T1.2.1 T1.2.2.1 0 wA T1.2.2.2 = some (T'.1, T'.2.1, T'.2.2.1, 0, wA, T'.2.2.2) ∧ TK b rb n p' T' ∧ p < p' ∧ Vs LL10041005 0 vs values') ∨
    (∃ y code pos values' vs T1 w1 a1, ∃ T2 : Int32 × Int32 × Int32 × Int64, ¬ code = 0 ∧ pX7_takeNumbers_10041005 rb values (nI n) (nI p) 0 eA = some (0, y, code, pos, values') ∧ mT b (nI n) LL10041005 T 0 wA = some (vs, T1, w1, a1) ∧ pX9_must 7 b (nI n) T1.1 T1.2.1 T1.2.2.1 w1 a1 T1.2.2.2 = some (T2.1, T2.2.1, T2.2.2.1, code, pos, T2.2.2.2)) := by
  have h5 := h.1
  have hp := hT.1
  unfold pX7_takeNumbers_10041005
  rcases c_seq10041005 h LL10041005 lpF 0 p values T wA eA rfl (by have := lpF_big; show 3 < _; omega) (by decide +kernel) (by unfold Bd; decide +kernel) hT with ⟨vs, p1, T1, values', u1, u2, u3, u4, u5, u6⟩ | ⟨y, code, pos, values', T1, vs, u0, u1, u2⟩
  · rw [ob_eq (show lpX7_takeNumbers_10041005_2 rb (nI n) lpF (0 : Int32) values (nI p) 0 eA = _ from u1)]
    dsimp only
    rw [c_skip h u3.1, ob_eq rfl, show scn (iS b) (n - p1) p1 = spx b n p1 from rfl]
    have hr := spx_rng (b := b) u3.1
    rcases semi_step h u3 wA with ⟨c, c59, T', q1, q2⟩ | ⟨c, q1⟩
    · rw [if_neg (nI_ge c (by omega)), if_neg (in_ok rfl (show spx b n p1 < 500 by omega) (by omega)), clampN (x := nI (spx b n p1)) rfl (by omega), if_pos c59, nI_1]
      exact Or.inl ⟨vs, _, T1, T', values', rfl, u2, q1, q2, by omega, u5⟩
    · refine Or.inr ⟨nI (spx b n p1), -2, nI (spx b n p1), values', vs, T1, 0, wA, T1, by decide, ?_, u2, q1⟩
      rcases c with c | ⟨c, c59⟩
      · rw [if_pos (nI_le (by omega) (by omega))]
        rfl
      · rw [if_neg (nI_ge c (by omega)), if_neg (in_ok rfl (show spx b n p1 < 500 by omega) (by omega)), clampN (x := nI (spx b n p1)) rfl (by omega), if_neg c59]
        rfl
  · rw [ob_eq (show lpX7_takeNumbers_10041005_2 rb (nI n) lpF (0 : Int32) values (nI p) 0 eA = _ from u1)]
    exact Or.inr ⟨y, code, pos, values', vs, T1, code, pos, T1, u0, rfl, u2, must_w u0⟩
theorem c_seq10061007 {b rb : Nat → Int32} {n : Nat} (h : Al n b rb) : ∀ (L : List (Int32 × Int32)) (fu i p : Nat) (values : Nat → Int32) (T : Int32 × Int32 × Int32 × Int64) (wA eA : Int32), i + L.length = 9 → L.length < fu → (∀ r, r < L.length → L[r]? = some (statI 1006 (i + r), statI 1007 (i + r))) → (∀ q ∈ L, Bd q) → TK b rb n p T →
    (∃ vs p' T' values', lpX7_takeNumbers_10061007_2 rb (nI n) fu (nI i) values (nI p) 0 eA = some (.inl (nI 9, values', nI p', 0, eA)) ∧ mT b (nI n) L T 0 wA = some (vs, T', 0, wA) ∧ TK b rb n p' T' ∧ p ≤ p' ∧ Vs L i vs values' ∧ ∀ j, j < i → values' j = values j) ∨
    (∃ y code pos values' T' vs, ¬ code = 0 ∧ lpX7_takeNumbers_10061007_2 rb (nI n) fu (nI i) values (nI p) 0 eA = some (.inr (0, y, code, pos, values')) ∧ mT b (nI n) L T 0 wA = some (vs, T', code, pos))
  | _, 0, _, _, _, _, _, _, _, h, _, _, _ => by omega
  | [], fu + 1, i, p, values, T, wA, eA, hi, _, _, _, hT => by
    have hi2 : i = 9 := hi
    subst hi2
    refine Or.inl ⟨[], p, T, values, ?_, rfl, hT, Nat.le_refl _, ⟨rfl, fun r hr => absurd hr (Nat.not_lt_zero r)⟩, fun _ _ => rfl⟩
    unfold lpX7_takeNumbers_10061007_2
    rw [if_pos (nI_le (Nat.le_refl _) (by omega))]
  | q :: L, fu + 1, i, p, values, T, wA, eA, hi, hf, hst, hbd, hT => by
    have hi2 : i + (L.length + 1) = 9 := hi
    have hf2 : L.length + 1 < fu + 1 := hf
    have hq : q = (statI 1006 i, statI 1007 i) := by
      have := hst 0 (Nat.succ_pos _)
      exact Option.some.inj this
    have hb := hbd q List.mem_cons_self
    have hs := num_step (values := values) (idx := i) (wA := wA) (eA := eA) h hT (by omega) hb.1 hb.2
    rw [hq] at hs
    unfold lpX7_takeNumbers_10061007_2
    rw [if_neg (nI_ge (show i < 9 by omega) (by omega)), if_neg (in_ok rfl (show i < 9 by omega) (by omega)), clampN (x := nI i) rfl (by omega)]
    rcases hs with ⟨v, p', T', s1, s2, s3, s4, s5⟩ | ⟨y, code, pos, s0, s1, s2⟩
    · rw [ob_eq s1, if_pos (show ¬ (1 : Int32) = 0 by decide), nI_1 i]
      rcases c_seq10061007 h L fu (i + 1) p' (upd values i v) T' wA eA (by omega) (by omega) (fun r hr => by
        have := hst (r + 1) (Nat.succ_lt_succ hr)
        rw [show i + (r + 1) = i + 1 + r by omega] at this
        exact this) (fun q2 hq2 => hbd q2 (List.mem_cons_of_mem _ hq2)) s3 with ⟨vs, p2, T2, values', u1, u2, u3, u4, u5, u6⟩ | ⟨y, code, pos, values', T2, vs, u0, u1, u2⟩
      · refine Or.inl ⟨v :: vs, p2, T2, values', u1, ?_, u3, by omega, ⟨congrArg Nat.succ u5.1, fun r hr => ?_⟩, fun j hj => ?_⟩
        · show ob _ _ = _
          rw [hq, ob_eq s2]
          show ob (mT b (nI n) L T' 0 wA) _ = _
          rw [ob_eq u2]
        · cases r with
          | zero =>
            rw [hq]
            refine ⟨?_, s5⟩
            show values' i = v
            rw [u6 i (by omega)]
            exact upd_at _ _ _
          | succ r =>
            have := u5.2 r (Nat.lt_of_succ_lt_succ hr)
            rw [show i + 1 + r = i + (r + 1) by omega] at this
            exact this
        · rw [u6 j (by omega)]
          exact upd_off _ _ (by omega)
      · refine Or.inr ⟨y, code, pos, values', T2, v :: vs, u0, u1, ?_⟩
        show ob _ _ = _
        rw [hq, ob_eq s2]
        show ob (mT b (nI n) L T' 0 wA) _ = _
        rw [ob_eq u2]
    · obtain ⟨vs, e⟩ := mT_w (b := b) (sz := nI n) (wA := pos) s0 L T
      rw [ob_eq s1, if_neg (show ¬ ¬ (0 : Int32) = 0 from fun h => h rfl)]
      refine Or.inr ⟨y, code, pos, values, T, 0 :: vs, s0, rfl, ?_⟩
      show ob _ _ = _
      rw [hq, ob_eq s2]
      show ob (mT b (nI n) L T code pos) _ = _
      rw [ob_eq e]
def LL10061007 : List (Int32 × Int32) := [(0, 3), (0, 90), (0, 30), (-10, 25), (0, 89), (0, 359), (0, 180), (1, 3), (1, 1000)]
theorem c_take10061007 {b rb values : Nat → Int32} {n p : Nat} {T : Int32 × Int32 × Int32 × Int64} (h : Al n b rb) (hT : TK b rb n p T) (wA eA : Int32) :
    (∃ vs p' T1 T' values', pX7_takeNumbers_10061007 rb values (nI n) (nI p) 0 eA = some (1, nI p', 0, eA, values') ∧ mT b (nI n) LL10061007 T 0 wA = some (vs, T1, 0, wA) ∧ pX9_must 7 b (nI n) T1.1 T1.2.1 T1.2.2.1 0 wA T1.2.2.2 = some (T'.1, T'.2.1, T'.2.2.1, 0, wA, T'.2.2.2) ∧ TK b rb n p' T' ∧ p < p' ∧ Vs LL10061007 0 vs values') ∨
    (∃ y code pos values' vs T1 w1 a1, ∃ T2 : Int32 × Int32 × Int32 × Int64, ¬ code = 0 ∧ pX7_takeNumbers_10061007 rb values (nI n) (nI p) 0 eA = some (0, y, code, pos, values') ∧ mT b (nI n) LL10061007 T 0 wA = some (vs, T1, w1, a1) ∧ pX9_must 7 b (nI n) T1.1 T1.2.1 T1.2.2.1 w1 a1 T1.2.2.2 = some (T2.1, T2.2.1, T2.2.2.1, code, pos, T2.2.2.2)) := by
  have h5 := h.1
  have hp := hT.1
  unfold pX7_takeNumbers_10061007
  rcases c_seq10061007 h LL10061007 lpF 0 p values T wA eA rfl (by have := lpF_big; show 9 < _; omega) (by decide +kernel) (by unfold Bd; decide +kernel) hT with ⟨vs, p1, T1, values', u1, u2, u3, u4, u5, u6⟩ | ⟨y, code, pos, values', T1, vs, u0, u1, u2⟩
  · rw [ob_eq (show lpX7_takeNumbers_10061007_2 rb (nI n) lpF (0 : Int32) values (nI p) 0 eA = _ from u1)]
    dsimp only
    rw [c_skip h u3.1, ob_eq rfl, show scn (iS b) (n - p1) p1 = spx b n p1 from rfl]
    have hr := spx_rng (b := b) u3.1
    rcases semi_step h u3 wA with ⟨c, c59, T', q1, q2⟩ | ⟨c, q1⟩
    · rw [if_neg (nI_ge c (by omega)), if_neg (in_ok rfl (show spx b n p1 < 500 by omega) (by omega)), clampN (x := nI (spx b n p1)) rfl (by omega), if_pos c59, nI_1]
      exact Or.inl ⟨vs, _, T1, T', values', rfl, u2, q1, q2, by omega, u5⟩
    · refine Or.inr ⟨nI (spx b n p1), -2, nI (spx b n p1), values', vs, T1, 0, wA, T1, by decide, ?_, u2, q1⟩
      rcases c with c | ⟨c, c59⟩
      · rw [if_pos (nI_le (by omega) (by omega))]
        rfl
      · rw [if_neg (nI_ge c (by omega)), if_neg (in_ok rfl (show spx b n p1 < 500 by omega) (by omega)), clampN (x := nI (spx b n p1)) rfl (by omega), if_neg c59]
        rfl
  · rw [ob_eq (show lpX7_takeNumbers_10061007_2 rb (nI n) lpF (0 : Int32) values (nI p) 0 eA = _ from u1)]
    exact Or.inr ⟨y, code, pos, values', vs, T1, code, pos, T1, u0, rfl, u2, must_w u0⟩
