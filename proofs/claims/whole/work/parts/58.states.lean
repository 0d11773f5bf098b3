/-! THE REFERENCE'S STATES: which numbers of exposures there are, who is in turn, what can be observed -/
theorem m_stateLoop {a : Nat → Int32} {s0 : Nat} (hm : ∀ k, k < 6 → a (69 + k) = nI (dg s0 k)) : ∀ (fu k : Nat), k ≤ 6 → 6 - k < fu → lpX9_stateNow_4 a fu (nI (s0 % 4 ^ k)) (nI k) = some (nI (s0 % 4 ^ 6), nI 6)
  | 0, _, _, h => by omega
  | fu + 1, k, hk, hf => by
    unfold lpX9_stateNow_4
    by_cases e : k = 6
    · subst e
      rw [if_pos (show (6 : Int32) ≤ nI 6 from nI_le (Nat.le_refl 6) (by omega))]
    · have e6 : ¬ (6 : Int32) ≤ nI k := nI_ge (a := k) (b := 6) (by omega) (by omega)
      have e1 : (69 : Int32) + nI k = nI (69 + k) := adds rfl rfl rfl
      rw [if_neg e6, if_neg (in_ok e1 (by omega : 69 + k < 99) (by omega)), clampN e1 (by omega), hm k (by omega), two_k, shlN _ (by omega), fa_or, nI_1]
      have e2 : s0 % 4 ^ k ||| dg s0 k * 2 ^ (2 * k) = s0 % 4 ^ (k + 1) := by
        rw [Nat.or_comm, Nat.mul_comm, ← Nat.two_pow_add_eq_or_of_lt (by rw [Nat.pow_mul]; exact Nat.mod_lt _ (pow_pos4 k)), Nat.pow_mul, Nat.mod_pow_succ]
        show 4 ^ k * dg s0 k + s0 % 4 ^ k = s0 % 4 ^ k + 4 ^ k * (s0 / 4 ^ k % 4)
        unfold dg
        omega
      rw [e2]
      exact m_stateLoop hm fu (k + 1) (by omega) (by omega)
theorem m_stateNow {a : Nat → Int32} {s0 : Nat} (hm : ∀ k, k < 6 → a (69 + k) = nI (dg s0 k)) (hs : s0 < 4096) : pX9_stateNow a = some (nI s0) := by
  unfold pX9_stateNow
  have h := m_stateLoop hm lpF 0 (by omega) (by have := lpF_big; omega)
  rw [Nat.pow_zero, Nat.mod_one, Nat.mod_eq_of_lt (show s0 < 4 ^ 6 from hs)] at h
  rw [ob_eq (show lpX9_stateNow_4 a lpF (0 : Int32) (0 : Int32) = _ from h)]
/-- all below n -/
def alb (p : Nat → Bool) : Nat → Bool
  | 0 => true
  | k + 1 => alb p k && p k
theorem alb_iff (p : Nat → Bool) : ∀ n, alb p n = true ↔ ∀ k, k < n → p k = true
  | 0 => ⟨fun _ k hk => by omega, fun _ => rfl⟩
  | n + 1 => by
    show (alb p n && p n) = true ↔ _
    rw [Bool.and_eq_true, alb_iff p n]
    constructor
    · intro h k hk
      by_cases e : k = n
      · subst e; exact h.2
      · exact h.1 k (by omega)
    · intro h
      exact ⟨fun k hk => h k (by omega), h n (by omega)⟩
def gdb (N : Nat) (a : Nat → Int32) (s0 s k : Nat) : Bool := decide (dg s k ≤ (if k < N then wnt a k else 0)) && decide (dg s0 k ≤ dg s k)
theorem lt_of_dg {s N : Nat} : ∀ d, N + d ≤ 6 → s < 4 ^ (N + d) → (∀ k, N ≤ k → k < 6 → dg s k = 0) → s < 4 ^ N
  | 0, _, h, _ => h
  | d + 1, hd, h, hz => by
    refine lt_of_dg d (by omega) ?_ hz
    have h0 := hz (N + d) (by omega) (by omega)
    unfold dg at h0
    have hp := pow_pos4 (N + d)
    have h4 : s / 4 ^ (N + d) < 4 := by
      rw [Nat.div_lt_iff_lt_mul hp, Nat.mul_comm, ← Nat.pow_succ]
      exact h
    have h5 : ∀ x : Nat, x < 4 → x % 4 = 0 → x = 0 := by omega
    exact (Nat.div_eq_zero_iff_lt hp).mp (h5 _ h4 h0)
theorem gd_alb {N : Nat} {a : Nat → Int32} {s0 s : Nat} (hN : N ≤ 6) (hs : s < 4096) (h0 : s0 < 4 ^ N) : Gd N a s0 s ↔ alb (gdb N a s0 s) 6 = true := by
  rw [alb_iff]
  unfold gdb
  constructor
  · intro h k hk
    rw [Bool.and_eq_true, decide_eq_true_eq, decide_eq_true_eq]
    by_cases c : k < N
    · rw [if_pos c]; exact ⟨(h.2 k c).2, (h.2 k c).1⟩
    · rw [if_neg c, dg_big h.1 (by omega), dg_big h0 (by omega)]
      exact ⟨Nat.le_refl _, Nat.le_refl _⟩
  · intro h
    have h1 : ∀ k, k < 6 → dg s k ≤ (if k < N then wnt a k else 0) ∧ dg s0 k ≤ dg s k := fun k hk => by
      have := h k hk
      rw [Bool.and_eq_true, decide_eq_true_eq, decide_eq_true_eq] at this
      exact this
    refine ⟨lt_of_dg (6 - N) (by omega) (by rw [show N + (6 - N) = 6 by omega]; exact hs) (fun k hk hk6 => ?_), fun k hk => ?_⟩
    · have := (h1 k hk6).1
      rw [if_neg (by omega)] at this
      omega
    · have := h1 k (by omega)
      rw [if_pos hk] at this
      exact ⟨this.2, this.1⟩
theorem m_isLoop {S N : Nat} {a : Nat → Int32} {s0 s : Nat} (hR : RowN S N a) (hm : ∀ k, k < 6 → a (69 + k) = nI (dg s0 k)) (hs : s < 4096) : ∀ (fu k : Nat), k ≤ 6 → 6 - k < fu → lpX9_laysStates_30 (nI s) a fu (if alb (gdb N a s0 s) k then 1 else 0) (nI k) = some (if alb (gdb N a s0 s) 6 then 1 else 0, nI 6)
  | 0, _, _, h => by omega
  | fu + 1, k, hk, hf => by
    have hN := hR.2.2.1
    unfold lpX9_laysStates_30
    by_cases e : k = 6
    · subst e
      rw [if_pos (show (6 : Int32) ≤ nI 6 from nI_le (Nat.le_refl 6) (by omega))]
    · have e6 : ¬ (6 : Int32) ≤ nI k := nI_ge (a := k) (b := 6) (by omega) (by omega)
      have e1 : (69 : Int32) + nI k = nI (69 + k) := adds rfl rfl rfl
      have ih := m_isLoop hR hm hs fu (k + 1) (by omega) (by omega)
      rw [show alb (gdb N a s0 s) (k + 1) = (alb (gdb N a s0 s) k && gdb N a s0 s k) from rfl] at ih
      have d1 := dg_lt s k
      have d2 := dg_lt s0 k
      rw [if_neg e6]
      cases hb : alb (gdb N a s0 s) k with
      | false =>
        rw [hb, Bool.false_and] at ih
        rw [if_pos i0f, nI_1]
        exact ih
      | true =>
        rw [hb, Bool.true_and] at ih
        rw [if_neg (by decide), p_madeIn (by omega) (by omega), ob_eq rfl, hR.2.2.2.2.1]
        by_cases c : k < N
        · obtain ⟨w1, w2, w3⟩ := wnt_eq hR c
          have g : gdb N a s0 s k = (decide (dg s k ≤ wnt a k) && decide (dg s0 k ≤ dg s k)) := by unfold gdb; rw [if_pos c]
          rw [g] at ih
          rw [if_neg (nI_ge c (by omega)), p_ofTarget (x := 7) (w := 7) rfl (by omega), ob_eq rfl, w1]
          by_cases c1 : dg s k ≤ wnt a k
          · rw [if_neg (nI_nlt c1 (by omega)), ob_eq rfl, if_neg (in_ok e1 (by omega : 69 + k < 99) (by omega)), clampN e1 (by omega), hm k (by omega), nI_1]
            rw [decide_eq_true c1, Bool.true_and] at ih
            by_cases c2 : dg s0 k ≤ dg s k
            · rw [if_neg (nI_nlt c2 (by omega))]
              rw [decide_eq_true c2] at ih
              exact ih
            · rw [if_pos (nI_lt (by omega) (by omega))]
              rw [decide_eq_false c2] at ih
              exact ih
          · rw [if_pos (nI_lt (by omega) (by omega)), nI_1]
            rw [decide_eq_false c1, Bool.false_and] at ih
            exact ih
        · have g : gdb N a s0 s k = (decide (dg s k ≤ 0) && decide (dg s0 k ≤ dg s k)) := by unfold gdb; rw [if_neg c]
          rw [g] at ih
          rw [if_pos (nI_le (by omega) (by omega))]
          by_cases c1 : dg s k ≤ 0
          · rw [if_neg (show ¬ (0 : Int32) < nI (dg s k) from nI_nlt (a := 0) (b := dg s k) c1 (by omega)), ob_eq rfl, if_neg (in_ok e1 (by omega : 69 + k < 99) (by omega)), clampN e1 (by omega), hm k (by omega), nI_1]
            rw [decide_eq_true c1, Bool.true_and] at ih
            by_cases c2 : dg s0 k ≤ dg s k
            · rw [if_neg (nI_nlt c2 (by omega))]
              rw [decide_eq_true c2] at ih
              exact ih
            · rw [if_pos (nI_lt (by omega) (by omega))]
              rw [decide_eq_false c2] at ih
              exact ih
          · rw [if_pos (show (0 : Int32) < nI (dg s k) from nI_lt (a := 0) (b := dg s k) (by omega) (by omega)), nI_1]
            rw [decide_eq_false c1, Bool.false_and] at ih
            exact ih
/-- the teams that may take turns, as the reference lays them -/
def txm (b : Bool) (a : Nat → Int32) (N s : Nat) : Int32 := if b then itn (thr a N) (fun g => trn a s g N) else tmk a N &&& (a 68 ^^^ (-1 : Int32))
/-- what the reference has laid -/
def Lay (b : Bool) (a : Nat → Int32) (S N s0 : Nat) (it is sn : Nat → Int32) : Prop :=
  (∀ s, s < 4096 → (¬ is s = 0 ↔ Gd N a s0 s)) ∧ (∀ s, Gd N a s0 s → it s = txm b a N s) ∧ ∀ t, t < S → sn t = msk (obs a · t) N
theorem nar_bool (b : Bool) : vp_nar .boolean (if b then 1 else 0) = (if b then 1 else 0) := by cases b <;> rfl
theorem m_laysLoop {S N : Nat} {a : Nat → Int32} {s0 : Nat} {b : Bool} {wT : Int32} (hR : RowN S N a) (hm : ∀ k, k < 6 → a (69 + k) = nI (dg s0 k)) (h0 : s0 < 4 ^ N) (hw : wT = if b then 1 else 0) : ∀ (fu s : Nat) (tb it is : Nat → Int32), s ≤ 4096 → 4096 - s < fu → (∀ i, i < s → (¬ is i = 0 ↔ Gd N a s0 i)) → (∀ i, i < s → Gd N a s0 i → it i = txm b a N i) →
    ∃ tb' it' is', lpX9_laysStates_17 wT (tmk a N &&& (a 68 ^^^ (-1 : Int32))) a fu (nI s) tb it is = some (nI 4096, tb', it', is') ∧ (∀ i, i < 4096 → (¬ is' i = 0 ↔ Gd N a s0 i)) ∧ ∀ i, i < 4096 → Gd N a s0 i → it' i = txm b a N i
  | 0, _, _, _, _, _, h, _, _ => by omega
  | fu + 1, s, tb, it, is, hs, hf, h1, h2 => by
    have hN := hR.2.2.1
    by_cases e : s = 4096
    · subst e
      refine ⟨tb, it, is, ?_, h1, h2⟩
      unfold lpX9_laysStates_17
      rw [if_pos (show (4096 : Int32) ≤ nI 4096 from nI_le (Nat.le_refl 4096) (by omega))]
    · have e6 : ¬ (4096 : Int32) ≤ nI s := nI_ge (a := s) (b := 4096) (by omega) (by omega)
      have hl := m_isLoop (N := N) hR hm (show s < 4096 by omega) lpF 0 (by omega) (by have := lpF_big; omega)
      have hgd := gd_alb (a := a) (s0 := s0) hN (show s < 4096 by omega) h0
      have up1 : ∀ x : Int32, (¬ x = 0 ↔ Gd N a s0 s) → ∀ i, i < s + 1 → (¬ upd is s x i = 0 ↔ Gd N a s0 i) := fun x hx i hi => by
        by_cases ei : i = s
        · subst ei; rw [pk_us]; exact hx
        · rw [pk_un ei]; exact h1 i (by omega)
      have up2 : ∀ x : Int32, (Gd N a s0 s → x = txm b a N s) → ∀ i, i < s + 1 → Gd N a s0 i → upd it s x i = txm b a N i := fun x hx i hi hg => by
        by_cases ei : i = s
        · subst ei; rw [pk_us]; exact hx hg
        · rw [pk_un ei]; exact h2 i (by omega) hg
      cases hb : alb (gdb N a s0 s) 6 with
      | false =>
        rw [hb] at hl hgd
        have hng : ¬ Gd N a s0 s := fun h => by cases hgd.mp h
        obtain ⟨tb', it', is', i1, i2, i3⟩ := m_laysLoop hR hm h0 hw fu (s + 1) tb (upd it s 0) (upd is s (vp_nar .boolean (if false then 1 else 0))) (by omega) (by omega) (up1 _ ⟨fun h => absurd (nar_bool false) h, fun h => absurd h hng⟩) (up2 _ (fun h => absurd h hng))
        refine ⟨tb', it', is', ?_, i2, i3⟩
        unfold lpX9_laysStates_17
        rw [if_neg e6, ob_eq (show lpX9_laysStates_30 (nI s) a lpF (1 : Int32) (0 : Int32) = _ from hl), if_neg (nI_in (by omega : s < 4096) (by omega)), if_neg (fun h => h rfl), nI_1, nI_clamp (by omega : s < 2 ^ 31)]
        exact i1
      | true =>
        rw [hb] at hl hgd
        have hg : Gd N a s0 s := hgd.mpr rfl
        have hx : ¬ vp_nar .boolean (if true then 1 else 0) = 0 ↔ Gd N a s0 s := ⟨fun _ => hg, fun _ => by rw [nar_bool]; decide⟩
        cases b with
        | false =>
          obtain ⟨tb', it', is', i1, i2, i3⟩ := m_laysLoop hR hm h0 hw fu (s + 1) tb (upd it s (tmk a N &&& (a 68 ^^^ (-1 : Int32)))) (upd is s (vp_nar .boolean (if true then 1 else 0))) (by omega) (by omega) (up1 _ hx) (up2 _ (fun _ => rfl))
          refine ⟨tb', it', is', ?_, i2, i3⟩
          unfold lpX9_laysStates_17
          rw [if_neg e6, ob_eq (show lpX9_laysStates_30 (nI s) a lpF (1 : Int32) (0 : Int32) = _ from hl), if_neg (nI_in (by omega : s < 4096) (by omega)), if_pos (show ¬ ((if true = true then (1 : Int32) else 0), nI 6).1 = 0 from by decide), hw, if_pos (show (if false = true then (1 : Int32) else 0) = 0 from rfl), nI_1, nI_clamp (by omega : s < 2 ^ 31)]
          rw [hw] at i1
          exact i1
        | true =>
          obtain ⟨tb1, ht⟩ := m_inTurnBy (b := tb) hR (show s < 2 ^ 31 by omega)
          obtain ⟨tb', it', is', i1, i2, i3⟩ := m_laysLoop hR hm h0 hw fu (s + 1) tb1 (upd it s (itn (thr a N) (fun g => trn a s g N))) (upd is s (vp_nar .boolean (if true then 1 else 0))) (by omega) (by omega) (up1 _ hx) (up2 _ (fun _ => rfl))
          refine ⟨tb', it', is', ?_, i2, i3⟩
          unfold lpX9_laysStates_17
          rw [if_neg e6, ob_eq (show lpX9_laysStates_30 (nI s) a lpF (1 : Int32) (0 : Int32) = _ from hl), if_neg (nI_in (by omega : s < 4096) (by omega)), if_pos (show ¬ ((if true = true then (1 : Int32) else 0), nI 6).1 = 0 from by decide), hw, if_neg (show ¬ (if true = true then (1 : Int32) else 0) = 0 from by decide), ob_eq ht, nI_1, nI_clamp (by omega : s < 2 ^ 31)]
          rw [hw] at i1
          exact i1
theorem m_seenLoop {S N : Nat} {a : Nat → Int32} (hR : RowN S N a) : ∀ (fu t : Nat) (sn : Nat → Int32), t ≤ S → S - t < fu → (∀ i, i < t → sn i = msk (obs a · i) N) → ∃ sn', lpX9_laysStates_151 a fu (nI t) sn = some (nI S, sn') ∧ ∀ i, i < S → sn' i = msk (obs a · i) N
  | 0, _, _, _, h, _ => by omega
  | fu + 1, t, sn, ht, hf, h1 => by
    have hS := hR.2.1
    by_cases e : t = S
    · subst e
      refine ⟨sn, ?_, h1⟩
      unfold lpX9_laysStates_151
      rw [hR.2.2.2.1, if_pos (nI_le (Nat.le_refl _) (by omega))]
    · obtain ⟨sn', i1, i2⟩ := m_seenLoop hR fu (t + 1) (upd sn t (msk (obs a · t) N)) (by omega) (by omega) (fun i hi => by
        by_cases ei : i = t
        · subst ei; exact pk_us
        · rw [pk_un ei]; exact h1 i (by omega))
      refine ⟨sn', ?_, i2⟩
      unfold lpX9_laysStates_151
      rw [hR.2.2.2.1, if_neg (nI_ge (by omega) (by omega)), p_observableIn hR.2.2.1 hR.2.2.2.2.1, ob_eq rfl, if_neg (nI_in (by omega : t < 12) (by omega)), nI_1, nI_clamp (by omega : t < 2 ^ 31)]
      exact i1
theorem m_lays {S N : Nat} {a tb it is sn : Nat → Int32} {s0 : Nat} {b : Bool} {wT : Int32} (hR : RowN S N a) (hm : ∀ k, k < 6 → a (69 + k) = nI (dg s0 k)) (h0 : s0 < 4 ^ N) (hw : wT = if b then 1 else 0) :
    ∃ tb' it' is' sn', pX9_laysStates wT a tb it is sn = some (tb', it', is', sn') ∧ Lay b a S N s0 it' is' sn' := by
  have hN := hR.2.2.1
  have hp := pow_le6 hN
  have hF := lpF_big
  have hS := hR.2.1
  obtain ⟨tb', it', is', i1, i2, i3⟩ := m_laysLoop hR hm h0 hw lpF 0 tb it is (by omega) (by omega) (fun i h => by omega) (fun i h => by omega)
  obtain ⟨sn', i4, i5⟩ := m_seenLoop hR lpF 0 sn (by omega) (by omega) (fun i h => by omega)
  refine ⟨tb', it', is', sn', ?_, i2, fun s hg => i3 s (Nat.lt_of_lt_of_le hg.1 hp) hg, i5⟩
  unfold pX9_laysStates
  rw [ob_eq (p_teams hN hR.2.2.2.2.1), ob_eq (show lpX9_laysStates_17 wT (tmk a N &&& (a 68 ^^^ (-1 : Int32))) a lpF (0 : Int32) tb it is = _ from i1), ob_eq (show lpX9_laysStates_151 a lpF (0 : Int32) sn = _ from i4)]
/-- whether an exposure is possible -/
def psb (b : Bool) (a : Nat → Int32) (N s k t : Nat) : Bool := obs a k t && (decide (dg s k < wnt a k) && bt (tx b a N s) (tm a k))
theorem tmk_bt {S N : Nat} {a : Nat → Int32} (hR : RowN S N a) : ∀ n k, k < n → n ≤ N → bt (tmk a n) (tm a k) = true
  | 0, _, h, _ => by omega
  | n + 1, k, hk, hn => by
    obtain ⟨t1, t2⟩ := tm_eq hR (show n < N by omega)
    obtain ⟨-, t4⟩ := tm_eq hR (show k < N by omega)
    show bt (tmk a n ||| ((1 : Int32) <<< (a (11 + 9 * n) &&& 31))) (tm a k) = true
    rw [b_or, t1, bt_one (by omega) (by omega)]
    by_cases e : k = n
    · subst e
      rw [decide_eq_true rfl, Bool.or_true]
    · rw [tmk_bt hR n k (by omega) (by omega), Bool.true_or]
theorem txm_bt {S N : Nat} {a : Nat → Int32} {b : Bool} {s k : Nat} (hR : RowN S N a) (hk : k < N) : bt (txm b a N s) (tm a k) = bt (tx b a N s) (tm a k) := by
  cases b with
  | true => rfl
  | false =>
    show bt (tmk a N &&& (a 68 ^^^ (-1 : Int32))) (tm a k) = bt (a 68 ^^^ (-1 : Int32)) (tm a k)
    rw [b_and, tmk_bt hR N k hk (Nat.le_refl _), Bool.true_and]
theorem has1 (b : Bool) : (¬ (if b then (1 : Int32) else 0) = 1) ↔ b = false := by cases b <;> decide
theorem m_canAt {S N : Nat} {a it is sn : Nat → Int32} {s0 : Nat} {b : Bool} {k t s : Nat} (hR : RowN S N a) (hl : Lay b a S N s0 it is sn) (hk : k < N) (ht : t < S) (hg : Gd N a s0 s) : pX9_canAt (nI k) (nI t) (nI s) a it sn = some (if psb b a N s k t then 1 else 0) := by
  have hN := hR.2.2.1
  have hS := hR.2.1
  have hp := pow_le6 hN
  have hs := hg.1
  obtain ⟨t1, t2⟩ := tm_eq hR hk
  obtain ⟨w1, w2, w3⟩ := wnt_eq hR hk
  have d1 := dg_lt s k
  unfold pX9_canAt psb
  rw [if_neg (nI_in (by omega : t < 12) (by omega)), nI_clamp (by omega : t < 2 ^ 31), hl.2.2 t ht, has_bt _ (by omega : k < 32), msk_bt _ N (by omega) k (by omega), decide_eq_true hk, Bool.true_and]
  cases ho : obs a k t with
  | false => rw [if_pos ((has1 false).mpr rfl)]; rfl
  | true =>
    rw [if_neg (fun h => by cases (has1 true).mp h), p_madeIn (by omega) (by omega), ob_eq rfl, p_ofTarget (x := 7) (w := 7) rfl (by omega), ob_eq rfl, w1, Bool.true_and]
    by_cases c : dg s k < wnt a k
    · rw [if_neg (nI_ge c (by omega)), if_neg (nI_in (by omega : s < 4096) (by omega)), p_ofTarget (x := 0) (w := 0) rfl (by omega), ob_eq rfl, nI_clamp (by omega : s < 2 ^ 31), hl.2.1 s hg, show a (11 + 9 * k + 0) = nI (tm a k) from t1, has_bt _ (by omega : tm a k < 32), txm_bt hR hk, decide_eq_true c, Bool.true_and]
      cases hb : bt (tx b a N s) (tm a k) with
      | false => rw [if_pos ((has1 false).mpr rfl)]; rfl
      | true => rw [if_neg (fun h => by cases (has1 true).mp h)]; rfl
    · rw [if_pos (nI_le (by omega) (by omega)), decide_eq_false c]
      rfl
theorem pos_step {S N : Nat} {a : Nat → Int32} {s0 : Nat} {b : Bool} {k t s : Nat} (hR : RowN S N a) (hk : k < N) (hg : Gd N a s0 s) (hp : psb b a N s k t = true) : Gd N a s0 (s + 4 ^ k) := by
  unfold psb at hp
  rw [Bool.and_eq_true, Bool.and_eq_true, decide_eq_true_eq] at hp
  exact gd_step hR hk hg hp.2.1
