/-! NUMBERS, SEMICOLONS, WORDS: both readers a step on -/
theorem lN_neg {m : Nat} (h : m ≤ 100000009) : (-(lN m)).toInt = -(m : Int) := Int64.toInt_neg_ofNat_of_le (by omega)
theorem lN_32 (m : Nat) : (lN m).toInt32 = nI m := Int64.toInt32_ofNat'
theorem lN_n32 {m : Nat} (h : m ≤ 100000009) : (-(lN m)).toInt32 = -nI m := by
  rw [fa_eq, Int64.toInt_toInt32, lN_neg h, fb_bmod (by omega) (by omega), fb_negI (by rw [nI_toInt (by omega)]; omega), nI_toInt (by omega)]
theorem L_noD {b : Nat → Int32} {q : Nat} (h : iL b q = true) : iD b q = false ∧ ¬ b q = 45 ∧ ¬ b q = 59 := by
  have h2 := of_decide_eq_true h
  refine ⟨decide_eq_false (fun g => by omega), fun g => ?_, fun g => ?_⟩
  · rw [g, show (45 : Int32).toInt = 45 by decide] at h2
    omega
  · rw [g, show (59 : Int32).toInt = 59 by decide] at h2
    omega
theorem num_step {b rb values : Nat → Int32} {n p idx : Nat} {lo hi wA eA : Int32} {T : Int32 × Int32 × Int32 × Int64} (h : Al n b rb) (hT : TK b rb n p T) (hx : idx < 9) (hlo : -99999 ≤ lo.toInt ∧ lo.toInt ≤ 99999) (hhi : 0 ≤ hi.toInt ∧ hi.toInt ≤ 99999) :
    (∃ v p' T', pX7_takeNumber (nI idx) lo hi rb values (nI n) (nI p) 0 eA = some (1, nI p', 0, eA, upd values idx v) ∧ pX9_takes lo hi b (nI n) T.1 T.2.1 T.2.2.1 0 wA T.2.2.2 = some (v, T'.1, T'.2.1, T'.2.2.1, 0, wA, T'.2.2.2) ∧ TK b rb n p' T' ∧ p < p' ∧ rg lo.toInt hi.toInt v) ∨
    (∃ y code pos, ¬ code = 0 ∧ pX7_takeNumber (nI idx) lo hi rb values (nI n) (nI p) 0 eA = some (0, y, code, pos, values) ∧ pX9_takes lo hi b (nI n) T.1 T.2.1 T.2.2.1 0 wA T.2.2.2 = some (0, T.1, T.2.1, T.2.2.1, code, pos, T.2.2.2)) := by
  obtain ⟨hp, e1, hc⟩ := hT
  have h5 := h.1
  have hr := spx_rng (b := b) hp
  have hz : (0 : Int32).toInt = 0 := by decide
  rcases hc with ⟨c, k⟩ | ⟨c, hL, t1, k⟩ | ⟨c, hL, hD, k, cv, mv, hd, t1, t2⟩ | ⟨c, hL, hD, c59, t1, k⟩ | ⟨c, hL, hD, c45, c1, hD1, k, cv, mv, hd, t1, t2⟩ | ⟨c, hL, hD, c59, hm, k⟩
  · obtain ⟨y, hy⟩ := cn_fail (values := values) (x := nI idx) (lo := lo) (hi := hi) (er := 0) (eA := eA) h hp rfl (Or.inl c)
    exact Or.inr ⟨y, -2, T.1, by decide, by rw [e1]; exact hy, takes_syn (by rw [k]; decide) (Or.inr (by rw [k]; decide))⟩
  · obtain ⟨y, hy⟩ := cn_fail (values := values) (x := nI idx) (lo := lo) (hi := hi) (er := 0) (eA := eA) h hp rfl (Or.inr ⟨c, (L_noD hL).1, Or.inr (Or.inl (L_noD hL).2.1)⟩)
    have hw := wk_le b (spx b n p) (scn (iL b) (n - spx b n p) (spx b n p))
    have k5 : ¬ T.2.2.1 = 5 := fun g => by rw [k] at g; have := (keq 5 (by omega) (by omega)).mp g; omega
    have k6 : ¬ T.2.2.1 = 6 := fun g => by rw [k] at g; have := (keq 6 (by omega) (by omega)).mp g; omega
    exact Or.inr ⟨y, -2, T.1, by decide, by rw [e1]; exact hy, takes_syn k5 (Or.inr k6)⟩
  · have hcn := cn_dig (values := values) (lo := lo) (hi := hi) (er := 0) (eA := eA) h hp rfl c hD hd hx
    have hg := scn_gt (p := iD b) (d := n - spx b n p) (t := spx b n p) (by omega) hD
    have hl := scn_le (iD b) (n - spx b n p) (spx b n p)
    have hd3 := hd.2.2
    by_cases cr : cv < 100000 ∧ lo.toInt ≤ (cv : Int) ∧ (cv : Int) ≤ hi.toInt
    · have emv : cv = mv := by
        rcases hd3 with g | g
        · exact g.1
        · omega
      subst emv
      have n1 : (nI cv).toInt = cv := nI_toInt (by omega)
      obtain ⟨T', q1, q2⟩ := m_next (p := scn (iD b) (n - spx b n p) (spx b n p)) h (by omega) T.2.2.2
      refine Or.inl ⟨nI cv, scn (iD b) (n - spx b n p) (spx b n p), T', ?_, ?_, ⟨by omega, q2⟩, by omega, by unfold rg; rw [n1]; exact cr.2⟩
      · rw [hcn, if_neg (fun g => by rw [fa_lt, n1] at g; omega), if_pos (by rw [fa_le, n1]; exact cr.2.2)]
      · rw [takes_ok (Or.inl k) (by rw [t2, lN_toInt (by omega)]; exact cr.2), t1, ob_eq q1, t2, lN_32]
    · have hv : ¬ (lo.toInt ≤ T.2.2.2.toInt ∧ T.2.2.2.toInt ≤ hi.toInt) := by
        rw [t2]
        rcases hd3 with g | g
        · rw [lN_toInt (by omega)]
          omega
        · rw [lN_toInt (by omega)]
          omega
      have cb : cv ≤ 1000009 := by
        rcases hd3 with g | g
        · omega
        · omega
      have n1 : (nI cv).toInt = cv := nI_toInt (by omega)
      refine Or.inr ⟨nI (scn (iD b) (n - spx b n p) (spx b n p)), -3, T.1, by decide, ?_, takes_val (Or.inl k) hv⟩
      rw [hcn, e1]
      by_cases g : nI cv < lo
      · rw [if_pos g]
      · rw [if_neg g, if_neg (fun g2 => by
          rw [fa_le, n1] at g2
          rw [fa_lt, n1] at g
          omega)]
  · obtain ⟨y, hy⟩ := cn_fail (values := values) (x := nI idx) (lo := lo) (hi := hi) (er := 0) (eA := eA) h hp rfl (Or.inr ⟨c, hD, Or.inr (Or.inl (by rw [c59]; decide))⟩)
    exact Or.inr ⟨y, -2, T.1, by decide, by rw [e1]; exact hy, takes_syn (by rw [k]; decide) (Or.inr (by rw [k]; decide))⟩
  · by_cases cl : 0 ≤ lo
    · obtain ⟨y, hy⟩ := cn_fail (values := values) (x := nI idx) (lo := lo) (hi := hi) (er := 0) (eA := eA) h hp rfl (Or.inr ⟨c, hD, Or.inl cl⟩)
      exact Or.inr ⟨y, -2, T.1, by decide, by rw [e1]; exact hy, takes_syn (by rw [k]; decide) (Or.inl cl)⟩
    · have hcn := cn_min (values := values) (lo := lo) (hi := hi) (er := 0) (eA := eA) h hp rfl cl c45 c1 hD1 hd hx
      have hg := scn_gt (p := iD b) (d := n - (spx b n p + 1)) (t := spx b n p + 1) (by omega) hD1
      have hl := scn_le (iD b) (n - (spx b n p + 1)) (spx b n p + 1)
      have hd3 := hd.2.2
      have hk : T.2.2.1 = 5 ∨ (¬ 0 ≤ lo ∧ ¬ T.2.2.1 = 5 ∧ T.2.2.1 = 6) := Or.inr ⟨cl, by rw [k]; decide, k⟩
      have cb : cv ≤ 1000009 ∧ mv ≤ 100000009 := by
        rcases hd3 with g | g
        · omega
        · omega
      have n1 : (-nI cv).toInt = -(cv : Int) := by rw [fb_negI (by rw [nI_toInt (by omega)]; omega), nI_toInt (by omega)]
      by_cases cr : cv < 100000 ∧ lo.toInt ≤ -(cv : Int) ∧ -(cv : Int) ≤ hi.toInt
      · have emv : cv = mv := by
          rcases hd3 with g | g
          · exact g.1
          · omega
        subst emv
        obtain ⟨T', q1, q2⟩ := m_next (p := scn (iD b) (n - (spx b n p + 1)) (spx b n p + 1)) h (by omega) T.2.2.2
        refine Or.inl ⟨-nI cv, scn (iD b) (n - (spx b n p + 1)) (spx b n p + 1), T', ?_, ?_, ⟨by omega, q2⟩, by omega, by unfold rg; rw [n1]; exact cr.2⟩
        · rw [hcn, if_neg (fun g => by rw [fa_lt, n1] at g; omega), if_pos (by rw [fa_le, n1]; exact cr.2.2)]
        · rw [takes_ok hk (by rw [t2, lN_neg (by omega)]; exact cr.2), t1, ob_eq q1, t2, lN_n32 (by omega)]
      · have hv : ¬ (lo.toInt ≤ T.2.2.2.toInt ∧ T.2.2.2.toInt ≤ hi.toInt) := by
          rw [t2, lN_neg (by omega)]
          rcases hd3 with g | g
          · omega
          · omega
        refine Or.inr ⟨nI (scn (iD b) (n - (spx b n p + 1)) (spx b n p + 1)), -3, T.1, by decide, ?_, takes_val hk hv⟩
        rw [hcn, e1]
        by_cases g : -nI cv < lo
        · rw [if_pos g]
        · rw [if_neg g, if_neg (fun g2 => by
            rw [fa_le, n1] at g2
            rw [fa_lt, n1] at g
            omega)]
  · have hf : iD b (spx b n p) = false ∧ (0 ≤ lo ∨ ¬ b (spx b n p) = 45 ∨ (spx b n p + 1 < n → iD b (spx b n p + 1) = false)) := ⟨hD, by
      by_cases c45 : b (spx b n p) = 45
      · exact Or.inr (Or.inr (hm c45))
      · exact Or.inr (Or.inl c45)⟩
    obtain ⟨y, hy⟩ := cn_fail (values := values) (x := nI idx) (lo := lo) (hi := hi) (er := 0) (eA := eA) h hp rfl (Or.inr ⟨c, hf⟩)
    exact Or.inr ⟨y, -2, T.1, by decide, by rw [e1]; exact hy, takes_syn (by rw [k]; decide) (Or.inr (by rw [k]; decide))⟩
/-- whether a semicolon comes next -/
theorem semi_step {b rb : Nat → Int32} {n p : Nat} {T : Int32 × Int32 × Int32 × Int64} (h : Al n b rb) (hT : TK b rb n p T) (wA : Int32) :
    (spx b n p < n ∧ rb (spx b n p) = 59 ∧ ∃ T', pX9_must 7 b (nI n) T.1 T.2.1 T.2.2.1 0 wA T.2.2.2 = some (T'.1, T'.2.1, T'.2.2.1, 0, wA, T'.2.2.2) ∧ TK b rb n (spx b n p + 1) T') ∨
    ((spx b n p = n ∨ (spx b n p < n ∧ ¬ rb (spx b n p) = 59)) ∧ pX9_must 7 b (nI n) T.1 T.2.1 T.2.2.1 0 wA T.2.2.2 = some (T.1, T.2.1, T.2.2.1, -2, nI (spx b n p), T.2.2.2)) := by
  obtain ⟨hp, e1, hc⟩ := hT
  have h5 := h.1
  have hr := spx_rng (b := b) hp
  have key : ∀ (g : ¬ T.2.2.1 = 7), pX9_must 7 b (nI n) T.1 T.2.1 T.2.2.1 0 wA T.2.2.2 = some (T.1, T.2.1, T.2.2.1, -2, nI (spx b n p), T.2.2.2) := fun g => by rw [must_no g, e1]
  rcases hc with ⟨c, k⟩ | ⟨c, hL, t1, k⟩ | ⟨c, hL, hD, k, cv, mv, hd, t1, t2⟩ | ⟨c, hL, hD, c59, t1, k⟩ | ⟨c, hL, hD, c45, c1, hD1, k, cv, mv, hd, t1, t2⟩ | ⟨c, hL, hD, c59, hm, k⟩
  · exact Or.inr ⟨Or.inl c, key (by rw [k]; decide)⟩
  · have hw := wk_le b (spx b n p) (scn (iL b) (n - spx b n p) (spx b n p))
    exact Or.inr ⟨Or.inr ⟨c, by rw [h.2 _ c]; exact (L_noD hL).2.2⟩, key (fun g => by rw [k] at g; have := (keq 7 (by omega) (by omega)).mp g; omega)⟩
  · refine Or.inr ⟨Or.inr ⟨c, ?_⟩, key (by rw [k]; decide)⟩
    rw [h.2 _ c]
    obtain ⟨r, r1, r2⟩ := digit_of hD
    rw [r2]
    exact fun g => by have := (keq 59 (by omega) (by omega)).mp g; omega
  · obtain ⟨T', q1, q2⟩ := m_next (p := spx b n p + 1) h (by omega) T.2.2.2
    refine Or.inl ⟨c, by rw [h.2 _ c]; exact c59, T', ?_, by omega, q2⟩
    rw [must_ok k, t1, ob_eq q1]
  · exact Or.inr ⟨Or.inr ⟨c, by rw [h.2 _ c, c45]; decide⟩, key (by rw [k]; decide)⟩
  · exact Or.inr ⟨Or.inr ⟨c, by rw [h.2 _ c]; exact c59⟩, key (by rw [k]; decide)⟩
/-- the word that comes next, empty or not -/
theorem word_step {b rb : Nat → Int32} {n p : Nat} {T : Int32 × Int32 × Int32 × Int64} (h : Al n b rb) (hT : TK b rb n p T) :
    ∃ e, spx b n p ≤ e ∧ e ≤ n ∧ pX7_takeWord rb (nI n) (nI p) = some (nI e, nI (spx b n p)) ∧ T.1 = nI (spx b n p) ∧ (∀ K, K < 4 → (T.2.2.1 = nI K ↔ mt b (spx b n p) e (kwd K) = true)) ∧ (∀ K, K < 4 → mt b (spx b n p) e (kwd K) = true → T.2.1 = nI e ∧ spx b n p < e) ∧ (T.2.2.1 = 8 ↔ spx b n p = n) := by
  obtain ⟨hp, e1, hc⟩ := hT
  have h5 := h.1
  have hr := spx_rng (b := b) hp
  have w1 := scn_ge (iL b) (n - spx b n p) (spx b n p)
  have w2 := scn_le (iL b) (n - spx b n p) (spx b n p)
  have ew : pX7_takeWord rb (nI n) (nI p) = some (nI (scn (iL b) (n - spx b n p) (spx b n p)), nI (spx b n p)) := by
    unfold pX7_takeWord
    rw [c_skip h hp, ob_eq rfl, show scn (iS b) (n - p) p = spx b n p from rfl, ob_eq (c_wordLoop h lpF (n - spx b n p) (spx b n p) (by omega) (by have := lpF_big; omega))]
  have hk0 : ∀ K, K < 4 → 0 < (kwd K).length := by decide
  have hno : iL b (spx b n p) = false ∨ spx b n p = n → ∀ K, K < 4 → mt b (spx b n p) (scn (iL b) (n - spx b n p) (spx b n p)) (kwd K) = false := fun g K hK => by
    have he : scn (iL b) (n - spx b n p) (spx b n p) = spx b n p := by
      rcases g with g | g
      · exact scn_no g
      · rw [g, Nat.sub_self]; rfl
    refine mt_off ?_
    rw [he]
    have := hk0 K hK
    omega
  have gen : ∀ (kk : Nat), 4 < kk → kk < 10 → T.2.2.1 = nI kk → (iL b (spx b n p) = false ∨ spx b n p = n) → (∀ K, K < 4 → (T.2.2.1 = nI K ↔ mt b (spx b n p) (scn (iL b) (n - spx b n p) (spx b n p)) (kwd K) = true)) ∧ (∀ K, K < 4 → mt b (spx b n p) (scn (iL b) (n - spx b n p) (spx b n p)) (kwd K) = true → T.2.1 = nI (scn (iL b) (n - spx b n p) (spx b n p)) ∧ spx b n p < scn (iL b) (n - spx b n p) (spx b n p)) := fun kk h1 h2 hk g => by
    refine ⟨fun K hK => ?_, fun K hK q => ?_⟩
    · rw [hno g K hK, hk]
      exact ⟨fun q => by have := (keq K (by omega) (by omega)).mp q; omega, fun q => by cases q⟩
    · rw [hno g K hK] at q
      cases q
  have fin : ∀ (kk : Nat), kk < 10 → ¬ kk = 8 → T.2.2.1 = nI kk → spx b n p < n → (T.2.2.1 = 8 ↔ spx b n p = n) := fun kk h1 h2 hk g => by
    rw [hk]
    exact ⟨fun q => by have := (keq 8 (by omega) (by omega)).mp q; omega, fun q => by omega⟩
  refine ⟨scn (iL b) (n - spx b n p) (spx b n p), w1, by omega, ew, e1, ?_⟩
  rcases hc with ⟨c, k⟩ | ⟨c, hL, t1, k⟩ | ⟨c, hL, hD, k, cv, mv, hd, t1, t2⟩ | ⟨c, hL, hD, c59, t1, k⟩ | ⟨c, hL, hD, c45, c1, hD1, k, cv, mv, hd, t1, t2⟩ | ⟨c, hL, hD, c59, hm, k⟩
  · have g := gen 8 (by omega) (by omega) k (Or.inr c)
    exact ⟨g.1, g.2, fun _ => c, fun _ => k⟩
  · have hw := wk_le b (spx b n p) (scn (iL b) (n - spx b n p) (spx b n p))
    have hgt := scn_gt (p := iL b) (d := n - spx b n p) (t := spx b n p) (by omega) hL
    refine ⟨fun K hK => ?_, fun K hK q => ⟨t1, hgt⟩, fin _ (by omega) (by omega) k c⟩
    rw [k, keq K (by omega) (by omega)]
    match K, hK with
    | 0, _ => exact wk_0
    | 1, _ => exact wk_1
    | 2, _ => exact wk_2
    | 3, _ => exact wk_3
  · have g := gen 5 (by omega) (by omega) k (Or.inl hL)
    exact ⟨g.1, g.2, fin 5 (by omega) (by omega) k c⟩
  · have g := gen 7 (by omega) (by omega) k (Or.inl hL)
    exact ⟨g.1, g.2, fin 7 (by omega) (by omega) k c⟩
  · have g := gen 6 (by omega) (by omega) k (Or.inl hL)
    exact ⟨g.1, g.2, fin 6 (by omega) (by omega) k c⟩
  · have g := gen 9 (by omega) (by omega) k (Or.inl hL)
    exact ⟨g.1, g.2, fin 9 (by omega) (by omega) k c⟩
