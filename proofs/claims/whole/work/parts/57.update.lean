/-! THE REACH: what the class's update finds -/
theorem gd_step {S N : Nat} {a : Nat → Int32} {s0 s k : Nat} (hR : RowN S N a) (hk : k < N) (hg : Gd N a s0 s) (hd : dg s k < wnt a k) : Gd N a s0 (s + 4 ^ k) := by
  obtain ⟨-, -, w3⟩ := wnt_eq hR hk
  refine ⟨add_lt (by omega) hk hg.1, fun i hi => ?_⟩
  rw [dg_add (by omega)]
  have h := hg.2 i hi
  by_cases e : i = k
  · subst e; rw [if_pos rfl]; omega
  · rw [if_neg e]; exact h
theorem gd_ge {N : Nat} {a : Nat → Int32} {s0 s : Nat} (hg : Gd N a s0 s) (h0 : s0 < 4 ^ N) : ∀ k, k ≤ N → s0 / 4 ^ (N - k) ≤ s / 4 ^ (N - k)
  | 0, _ => by rw [Nat.sub_zero, Nat.div_eq_of_lt h0]; exact Nat.zero_le _
  | k + 1, hk => by
    have ih := gd_ge hg h0 k (by omega)
    have hd := (hg.2 (N - (k + 1)) (by omega)).1
    unfold dg at hd
    have e : N - k = (N - (k + 1)) + 1 := by omega
    rw [e, Nat.pow_succ, ← Nat.div_div_eq_div_mul, ← Nat.div_div_eq_div_mul] at ih
    omega
theorem gd_le {N : Nat} {a : Nat → Int32} {s0 s : Nat} (hg : Gd N a s0 s) (h0 : s0 < 4 ^ N) : s0 ≤ s := by
  have h := gd_ge hg h0 N (Nat.le_refl _)
  rw [Nat.sub_self, Nat.pow_zero, Nat.div_one, Nat.div_one] at h
  exact h
/-- what the reach holds behind j numbers -/
def RVc (b : Bool) (a : Nat → Int32) (S N P s0 : Nat) (e st : Nat → Nat) (sz j : Nat) (states wanting earliest : Nat → Int32) : Prop :=
  (∀ q, q < sz → states q = nI (st q) ∧ st q < j ∧ e (st q) ≠ 13) ∧ (∀ q r, q < r → r < sz → st q < st r) ∧ (∀ i, i < j → e i ≠ 13 → ∃ q, q < sz ∧ st q = i) ∧ sz ≤ j ∧
  (∀ i, i < 4 ^ N → earliest i = nI (e i)) ∧ e s0 = P ∧ (∀ i, e i ≤ 13) ∧ (∀ i, e i ≠ 13 → e i ≤ S ∧ Gd N a s0 i) ∧
  (∀ i, i < j → e i ≠ 13 → wanting i = wm a N (tx b a N i) i ∧ ∀ k, k < N → bt (wm a N (tx b a N i) i) k = true → e (i + 4 ^ k) ≤ bnF a k (S - e i) (e i))
theorem bnF_S {a : Nat → Int32} {k : Nat} : ∀ (d t : Nat), bnF a k d t = 13 ∨ bnF a k d t ≤ t + d
  | 0, _ => Or.inl rfl
  | d + 1, t => by
    show (if obs a k t then t + 1 else bnF a k d (t + 1)) = 13 ∨ (if obs a k t then t + 1 else bnF a k d (t + 1)) ≤ t + (d + 1)
    by_cases c : obs a k t = true
    · rw [if_pos c]; exact Or.inr (by omega)
    · rw [if_neg c]
      rcases bnF_S (a := a) (k := k) d (t + 1) with h | h
      · exact Or.inl h
      · exact Or.inr (by omega)
theorem RVc_step {b : Bool} {a : Nat → Int32} {S N P s0 : Nat} {e st : Nat → Nat} {sz j : Nat} {states wanting earliest er' : Nat → Int32} (hR : RowN S N a) (hj : j < 4 ^ N) (h0 : s0 ≤ j) (hr : RVc b a S N P s0 e st sz j states wanting earliest) (hj13 : e j ≠ 13) (her : ∀ i, i < 4 ^ N → er' i = nI (rfE a S (bt (wm a N (tx b a N j) j)) j e N i)) :
    RVc b a S N P s0 (rfE a S (bt (wm a N (tx b a N j) j)) j e N) (fun q => if q = sz then j else st q) (sz + 1) (j + 1) (upd states sz (nI j)) (upd wanting j (wm a N (tx b a N j) j)) er' := by
  obtain ⟨h1, h2, h3, h4, h5, h6, h7, h8, h9⟩ := hr
  have hN := hR.2.2.1
  have hS := hR.2.1
  have low : ∀ i, i ≤ j → rfE a S (bt (wm a N (tx b a N j) j)) j e N i = e i := fun i hi => rfE_low hi N
  refine ⟨fun q hq => ?_, fun q r hqr hr => ?_, fun i hi hne => ?_, by omega, her, ?_, fun i => ?_, fun i hne => ?_, fun i hi hne => ?_⟩
  · by_cases eq : q = sz
    · subst eq
      show upd states q (nI j) q = nI (if q = q then j else st q) ∧ (if q = q then j else st q) < j + 1 ∧ rfE a S (bt (wm a N (tx b a N j) j)) j e N (if q = q then j else st q) ≠ 13
      rw [if_pos rfl, pk_us]
      refine ⟨rfl, by omega, ?_⟩
      rw [low j (Nat.le_refl _)]
      exact hj13
    · have hh := h1 q (by omega)
      show upd states sz (nI j) q = nI (if q = sz then j else st q) ∧ (if q = sz then j else st q) < j + 1 ∧ rfE a S (bt (wm a N (tx b a N j) j)) j e N (if q = sz then j else st q) ≠ 13
      rw [if_neg eq, pk_un eq]
      refine ⟨hh.1, by omega, ?_⟩
      rw [low _ (by omega)]
      exact hh.2.2
  · show (if q = sz then j else st q) < (if r = sz then j else st r)
    rw [if_neg (by omega : ¬ q = sz)]
    by_cases er : r = sz
    · rw [if_pos er]; exact (h1 q (by omega)).2.1
    · rw [if_neg er]; exact h2 q r hqr (by omega)
  · rw [low i (by omega)] at hne
    by_cases ei : i = j
    · subst ei; exact ⟨sz, by omega, if_pos rfl⟩
    · obtain ⟨q, hq, e1⟩ := h3 i (by omega) hne
      exact ⟨q, by omega, by show (if q = sz then j else st q) = i; rw [if_neg (by omega : ¬ q = sz)]; exact e1⟩
  · rw [low s0 h0]; exact h6
  · exact Nat.le_trans (rfE_le N) (h7 i)
  · rcases rfE_src (a := a) (S := S) (j := j) (P := bt (wm a N (tx b a N j) j)) (e := e) (i := i) N with hh | ⟨q, q1, q2, q3, q4⟩
    · rw [hh] at hne ⊢
      exact h8 i hne
    · have hg := h8 j hj13
      rw [q4] at hne ⊢
      rw [wm_bt hN q1] at q2
      simp only [Bool.and_eq_true, decide_eq_true_eq] at q2
      refine ⟨?_, ?_⟩
      · rcases bnF_S (a := a) (k := q) (S - e j) (e j) with hb | hb
        · exact absurd hb hne
        · omega
      · rw [q3]
        exact gd_step hR q1 hg.2 q2.1
  · rw [low i (by omega)] at hne
    by_cases ei : i = j
    · subst ei
      rw [pk_us]
      refine ⟨rfl, fun k hk hb => ?_⟩
      rw [low i (Nat.le_refl _)]
      exact rfE_hit hk hb
    · rw [pk_un ei]
      obtain ⟨g1, g2⟩ := h9 i (by omega) hne
      refine ⟨g1, fun k hk hb => ?_⟩
      rw [low i (by omega)]
      exact Nat.le_trans (rfE_le N) (g2 k hk hb)
theorem c_updLoop {S N : Nat} {a f sn : Nat → Int32} {b : Bool} {P s0 n : Nat} {wT : Int32} (hR : RowN S N a) (hu : Nu N a f) (hs : ∀ t, t < S → sn t = msk (obs a · t) N) (hn : 4 ^ N ≤ n) (hn9 : n < 60000) (hw : wT = if b then 1 else 0) : ∀ (fu j : Nat) (e st : Nat → Nat) (sz : Nat) (states wanting earliest : Nat → Int32), s0 ≤ j → j ≤ 4 ^ N → 4 ^ N - j < fu → RVc b a S N P s0 e st sz j states wanting earliest →
    ∃ e' st' sz' states' wanting' earliest', lpX6_update_72 wT (nI (4 ^ N)) n n n (nI S) (nI N) (tmk a N) f sn (a 68) fu (nI j) (nI sz) states wanting earliest = some (nI (4 ^ N), nI sz', states', wanting', earliest') ∧ RVc b a S N P s0 e' st' sz' (4 ^ N) states' wanting' earliest'
  | 0, _, _, _, _, _, _, _, _, _, h, _ => by omega
  | fu + 1, j, e, st, sz, states, wanting, earliest, h0, hj, hf, hr => by
    have hN := hR.2.2.1
    have hp := pow_le6 hN
    by_cases ej : j = 4 ^ N
    · subst ej
      refine ⟨e, st, sz, states, wanting, earliest, ?_, hr⟩
      unfold lpX6_update_72
      rw [if_pos (nI_le (Nat.le_refl _) (by omega))]
    · have hjl : j < 4 ^ N := by omega
      have h5 := hr.2.2.2.2.1 j hjl
      have h7 := hr.2.2.2.2.2.2.1 j
      have h4 := hr.2.2.2.1
      by_cases h13 : e j = 13
      · have hr2 : RVc b a S N P s0 e st sz (j + 1) states wanting earliest := by
          obtain ⟨g1, g2, g3, g4, g5, g6, g7, g8, g9⟩ := hr
          refine ⟨fun q hq => ⟨(g1 q hq).1, by have := (g1 q hq).2.1; omega, (g1 q hq).2.2⟩, g2, fun i hi hne => ?_, by omega, g5, g6, g7, g8, fun i hi hne => ?_⟩
          · by_cases ei : i = j
            · subst ei; exact absurd h13 hne
            · exact g3 i (by omega) hne
          · by_cases ei : i = j
            · subst ei; exact absurd h13 hne
            · exact g9 i (by omega) hne
        obtain ⟨e', st', sz', states', wanting', earliest', i1, i2⟩ := c_updLoop hR hu hs hn hn9 hw fu (j + 1) e st sz states wanting earliest (by omega) (by omega) (by omega) hr2
        refine ⟨e', st', sz', states', wanting', earliest', ?_, i2⟩
        unfold lpX6_update_72
        rw [if_neg (nI_ge hjl (by omega)), if_neg (nI_in (by omega : j < n) (by omega)), nI_clamp (by omega : j < 2 ^ 31), h5, h13, if_pos (show nI 13 = (13 : Int32) from rfl), nI_1]
        exact i1
      · have hg := (hr.2.2.2.2.2.2.2.1 j h13)
        obtain ⟨er', r1, r2⟩ := c_reachFrom (x := tx b a N j) (wt := upd wanting j (wm a N (tx b a N j) j)) (er := earliest) (e := e) (wN := n) (eN := n) hR hs hjl hn hn hn9 hn9 pk_us hg.1 hr.2.2.2.2.2.2.1 hr.2.2.2.2.1
        have hst := RVc_step hR hjl h0 hr h13 r2
        obtain ⟨e', st', sz', states', wanting', earliest', i1, i2⟩ := c_updLoop hR hu hs hn hn9 hw fu (j + 1) _ _ (sz + 1) _ _ _ (by omega) (by omega) (by omega) hst
        refine ⟨e', st', sz', states', wanting', earliest', ?_, i2⟩
        have ne13 : ¬ nI (e j) = (13 : Int32) := fun h => h13 ((nI_eq (by omega) (by omega)).mp (show nI (e j) = nI 13 from h))
        unfold lpX6_update_72
        rw [if_neg (nI_ge hjl (by omega)), if_neg (nI_in (by omega : j < n) (by omega)), nI_clamp (by omega : j < 2 ^ 31), h5, if_neg ne13, if_neg (nI_in (by omega : sz < n) (by omega)), nI_clamp (by omega : sz < 2 ^ 31)]
        cases b with
        | false =>
          rw [hw, if_pos (show (if false = true then (1 : Int32) else 0) = 0 from rfl), c_wanting hR hu (by omega), ob_eq rfl, if_neg (nI_inb (by omega : j < n) (by omega))]
          rw [show wm a N (a 68 ^^^ (-1 : Int32)) j = wm a N (tx false a N j) j from rfl, ob_eq r1, nI_1, nI_1]
          rw [hw] at i1
          exact i1
        | true =>
          rw [hw, if_neg (show ¬ (if true = true then (1 : Int32) else 0) = 0 from by decide), c_teamsInTurn hR hu (by omega), ob_eq rfl, c_wanting hR hu (by omega), ob_eq rfl, if_neg (nI_inb (by omega : j < n) (by omega))]
          rw [show wm a N (itn (thr a N) (fun g => trn a j g N)) j = wm a N (tx true a N j) j from rfl, ob_eq r1, nI_1, nI_1]
          rw [hw] at i1
          exact i1
/-- lengths of rows: none, or a power of four -/
def Len (n : Nat) : Prop := n = 0 ∨ ∃ j, j ≤ 6 ∧ n = 4 ^ j
theorem Len_lt {n : Nat} (h : Len n) : n ≤ 4096 := by
  rcases h with rfl | ⟨j, hj, rfl⟩
  · omega
  · exact pow_le6 hj
theorem Len_two {n N : Nat} (h : Len n) (hl : n < 4 ^ N) : 2 * n ≤ 4 ^ N := by
  rcases h with rfl | ⟨j, hj, rfl⟩
  · omega
  · have hjN : j < N := (Nat.pow_lt_pow_iff_right (by omega : 1 < 4)).mp hl
    have : 4 ^ (j + 1) ≤ 4 ^ N := Nat.pow_le_pow_right (by omega) hjN
    rw [Nat.pow_succ] at this
    omega
/-- the numbers of a situation: slot P, exposures s0, so far -/
def Sit (S N P s0 : Nat) (a : Nat → Int32) : Prop := RowN S N a ∧ P ≤ S ∧ Gd N a 0 s0
theorem gd_self {N : Nat} {a : Nat → Int32} {s0 : Nat} (h : Gd N a 0 s0) : Gd N a s0 s0 := ⟨h.1, fun k hk => ⟨Nat.le_refl _, (h.2 k hk).2⟩⟩
/-- a reach that is worked out -/
def RVk (b : Bool) (a : Nat → Int32) (S N P s0 : Nat) (v : ReS) : Prop :=
  v.2.2.1 = nI (4 ^ N) ∧ 4 ^ N ≤ v.2.2.2.2.1 ∧ ∃ e st sz, v.2.2.2.1 = nI sz ∧ RVc b a S N P s0 e st sz (4 ^ N) v.2.2.2.2.2.1 v.2.2.2.2.2.2.2.1 v.2.2.2.2.2.2.2.2.2
/-- a reach, worked out or not -/
def RV (b : Bool) (a : Nat → Int32) (S N P s0 : Nat) (v : ReS) : Prop :=
  v.1 = (if b then 1 else 0) ∧ Len v.2.2.2.2.1 ∧ v.2.2.2.2.2.2.1 = v.2.2.2.2.1 ∧ v.2.2.2.2.2.2.2.2.1 = v.2.2.2.2.1 ∧ (v.2.1 = 0 ∨ RVk b a S N P s0 v)
theorem c_update {S N P s0 : Nat} {a f sn : Nat → Int32} {b : Bool} {v : ReS} (hi : Sit S N P s0 a) (hu : Nu N a f) (hs : ∀ t, t < S → sn t = msk (obs a · t) N) (hv : RV b a S N P s0 v) :
    ∃ kn sp sz n st wt er c k, pX6_update v.1 v.2.1 v.2.2.1 v.2.2.2.1 v.2.2.2.2.1 v.2.2.2.2.2.1 v.2.2.2.2.2.2.1 v.2.2.2.2.2.2.2.1 v.2.2.2.2.2.2.2.2.1 v.2.2.2.2.2.2.2.2.2 (nI S) (nI N) (tmk a N) f sn (nI P) (a 68) (nI s0) = some (kn, sp, sz, n, st, n, wt, n, er, c, k) ∧
      RV b a S N P s0 (v.1, kn, sp, sz, n, st, n, wt, n, er) ∧ RVk b a S N P s0 (v.1, kn, sp, sz, n, st, n, wt, n, er) ∧ c ≤ 3 ∧ k + 6 * v.2.2.2.2.1 ≤ 6 * n := by
  obtain ⟨wT, kn, sp, sz, n, st, wn, wt, en, er⟩ := v
  obtain ⟨v1, v2, v3, v4, v5⟩ := hv
  obtain ⟨hR, hP, hg⟩ := hi
  simp only at v1 v2 v3 v4 v5 ⊢
  subst v3 v4
  have hN := hR.2.2.1
  have hS := hR.2.1
  have hp := pow_le6 hN
  have hp0 := pow_pos4 N
  have hl := Len_lt v2
  unfold pX6_update
  by_cases hk : kn = 0
  · rw [if_pos hk]
    have go : ∀ (m : Nat) (st0 wt0 er0 : Nat → Int32) (c k : Nat), 4 ^ N ≤ m → Len m → c ≤ 3 → k + 6 * en ≤ 6 * m → pX6_makeRoom en st en wt en er (nI N) = some (nI (4 ^ N), m, st0, m, wt0, m, er0, c, k) →
        ∃ kn' sp' sz' n' st' wt' er' c' k', ob (pX6_makeRoom en st en wt en er (nI N)) (fun z1 =>
    ob (pJ7_fill_53178 (13 : Int32) z1.2.2.2.2.2.1 z1.2.2.2.2.2.2.1) (fun z2 =>
    if z1.1 ≤ nI s0 then
      ob (lpX6_update_72 wT z1.1 z1.2.1 z1.2.2.2.1 z1.2.2.2.2.2.1 (nI S) (nI N) (tmk a N) f sn (a 68) lpF (nI s0) (0 : Int32) z1.2.2.1 z1.2.2.2.2.1 z2) (fun z8 =>
      some ((1 : Int32), z1.1, z8.2.1, z1.2.1, z8.2.2.1, z1.2.2.2.1, z8.2.2.2.1, z1.2.2.2.2.2.1, z8.2.2.2.2, (0 + z1.2.2.2.2.2.2.2.1), (0 + z1.2.2.2.2.2.2.2.2)))
    else
      if (nI s0 < 0 ∨ z1.2.2.2.2.2.1 ≤ (nI s0).toNatClampNeg) then none else
      ob (lpX6_update_72 wT z1.1 z1.2.1 z1.2.2.2.1 z1.2.2.2.2.2.1 (nI S) (nI N) (tmk a N) f sn (a 68) lpF (nI s0) (0 : Int32) z1.2.2.1 z1.2.2.2.2.1 (upd z2 (nI s0).toNatClampNeg (nI P))) (fun z9 =>
      some ((1 : Int32), z1.1, z9.2.1, z1.2.1, z9.2.2.1, z1.2.2.2.1, z9.2.2.2.1, z1.2.2.2.2.2.1, z9.2.2.2.2, (0 + z1.2.2.2.2.2.2.2.1), (0 + z1.2.2.2.2.2.2.2.2))))) = some (kn', sp', sz', n', st', n', wt', n', er', c', k') ∧
      RV b a S N P s0 (wT, kn', sp', sz', n', st', n', wt', n', er') ∧ RVk b a S N P s0 (wT, kn', sp', sz', n', st', n', wt', n', er') ∧ c' ≤ 3 ∧ k' + 6 * en ≤ 6 * n' := by
      intro m st0 wt0 er0 c k hm hlm hc hkk e
      have hlm2 := Len_lt hlm
      rw [ob_eq e]
      obtain ⟨f', f1, f2⟩ := c_fill (x := 13) (n := m) er0 (by omega)
      rw [ob_eq f1]
      have hs0 := hg.1
      have hF := lpF_big
      rw [if_neg (nI_ge hs0 (by omega)), if_neg (nI_in (by omega : s0 < m) (by omega)), nI_clamp (by omega : s0 < 2 ^ 31)]
      have hr0 : RVc b a S N P s0 (fun i => if i = s0 then P else 13) (fun _ => 0) 0 s0 st0 wt0 (upd f' s0 (nI P)) := by
        refine ⟨fun q hq => by omega, fun q r _ hr => by omega, fun i hi hne => ?_, by omega, fun i hi => ?_, if_pos rfl, fun i => ?_, fun i hne => ?_, fun i hi hne => ?_⟩
        · exact absurd (if_neg (by omega : ¬ i = s0)) hne
        · by_cases ei : i = s0
          · subst ei
            rw [pk_us]
            show nI P = nI (if i = i then P else 13)
            rw [if_pos rfl]
          · rw [pk_un ei, f2 i (by omega)]
            show (13 : Int32) = nI (if i = s0 then P else 13)
            rw [if_neg ei]
            rfl
        · show (if i = s0 then P else 13) ≤ 13
          by_cases ei : i = s0
          · rw [if_pos ei]; omega
          · rw [if_neg ei]; exact Nat.le_refl _
        · by_cases ei : i = s0
          · subst ei
            show (if i = i then P else 13) ≤ S ∧ Gd N a i i
            rw [if_pos rfl]
            exact ⟨hP, gd_self hg⟩
          · exact absurd (if_neg ei) hne
        · exact absurd (if_neg (by omega : ¬ i = s0)) hne
      obtain ⟨e', st', sz', states', wanting', earliest', i1, i2⟩ := c_updLoop (n := m) hR hu hs hm (by omega) v1 lpF s0 _ _ 0 st0 wt0 (upd f' s0 (nI P)) (Nat.le_refl _) (by omega) (by omega) hr0
      rw [ob_eq (show lpX6_update_72 wT (nI (4 ^ N)) m m m (nI S) (nI N) (tmk a N) f sn (a 68) lpF (nI s0) (0 : Int32) st0 wt0 (upd f' s0 (nI P)) = _ from i1)]
      have hk2 : RVk b a S N P s0 (wT, (1 : Int32), nI (4 ^ N), nI sz', m, states', m, wanting', m, earliest') := ⟨rfl, hm, e', st', sz', rfl, i2⟩
      exact ⟨(1 : Int32), nI (4 ^ N), nI sz', m, states', wanting', earliest', 0 + c, 0 + k, rfl, ⟨v1, hlm, rfl, rfl, Or.inr hk2⟩, hk2, by omega, by omega⟩
    by_cases hc : nI (4 ^ N) ≤ nI en
    · refine go en st wt er 0 0 ((nI_leI (by omega) (by omega)).mp hc) v2 (by omega) (by omega) ?_
      unfold pX6_makeRoom
      rw [p_oneOf (by omega), ob_eq rfl, if_pos hc]
    · have hc2 : en < 4 ^ N := by
        rw [nI_leI (by omega) (by omega)] at hc
        omega
      have h2 := Len_two v2 hc2
      refine go (4 ^ N) (fun _ => 0) (fun _ => 0) (fun _ => 0) 3 (((0 + 4 ^ N) + 4 ^ N) + 4 ^ N) (Nat.le_refl _) (Or.inr ⟨N, hN, rfl⟩) (by omega) (by omega) ?_
      unfold pX6_makeRoom
      rw [p_oneOf (by omega), ob_eq rfl, if_neg hc, nI_clamp (by omega : 4 ^ N < 2 ^ 31), if_neg (fun q => q.elim (nI_pos (by omega)) (fun q => by omega))]
  · rw [if_neg hk]
    have hk2 : RVk b a S N P s0 (wT, kn, sp, sz, en, st, en, wt, en, er) := v5.resolve_left hk
    exact ⟨_, _, _, _, _, _, _, _, _, rfl, ⟨v1, v2, rfl, rfl, Or.inr hk2⟩, hk2, by omega, by omega⟩
