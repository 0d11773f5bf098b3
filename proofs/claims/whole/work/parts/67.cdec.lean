/-! THE CLASS'S DECISIONS -/
theorem cd_room {N n : Nat} {bc bd : Nat → Int64} (hN : N ≤ 6) (hl : Len n) : ∃ n' bc' bd' c k, pX3_makeRoom (nI (4 ^ N)) n bc n bd = some (n', bc', n', bd', c, k) ∧ 4 ^ N ≤ n' ∧ Len n' ∧ c ≤ 2 ∧ k + 4 * n ≤ 4 * n' := by
  have hp := pow_le6 hN
  have hn := Len_lt hl
  unfold pX3_makeRoom
  by_cases hc : nI (4 ^ N) ≤ nI n
  · rw [if_pos hc]
    exact ⟨n, bc, bd, 0, 0, rfl, (nI_leI (by omega) (by omega)).mp hc, hl, by omega, by omega⟩
  · have hc2 : n < 4 ^ N := by
      rw [nI_leI (by omega) (by omega)] at hc
      omega
    have h2 := Len_two hl hc2
    rw [if_neg hc, nI_clamp (by omega : 4 ^ N < 2 ^ 31), if_neg (fun q => q.elim (nI_pos (by omega)) (fun q => by omega))]
    exact ⟨4 ^ N, _, _, 2, (0 + 4 ^ N) + 4 ^ N, rfl, Nat.le_refl _, Or.inr ⟨N, hN, rfl⟩, by omega, by omega⟩
theorem cd_room0 {n : Nat} {bc bd : Nat → Int64} (hl : Len n) : pX3_makeRoom (0 : Int32) n bc n bd = some (n, bc, n, bd, 0, 0) := by
  have hn := Len_lt hl
  unfold pX3_makeRoom
  rw [if_pos (show (0 : Int32) ≤ nI n from nI_pos' (by omega))]
def Pc (a pr : Nat → Int32) : Prop := ∀ j, j < 3 → pr j = a (7 + j)
theorem cd_clear {a pr : Nat → Int32} {s n : Nat} {bc bd : Nat → Int64} (hp : Pc a pr) (hs : s < n) (hn : n < 60000) : pX3_behindClear (nI s) n bc n bd pr = some (mix (a 8) (bc s) (bd s)) := by
  unfold pX3_behindClear pX8_mixed
  rw [if_neg (nI_in hs (by omega)), if_neg (nI_in hs (by omega)), nI_clamp (by omega : s < 2 ^ 31), ob_eq rfl, hp 1 (by omega)]
  rfl
theorem cd_cloudy {a pr : Nat → Int32} {s n : Nat} {bc bd : Nat → Int64} (hp : Pc a pr) (hs : s < n) (hn : n < 60000) : pX3_behindCloudy (nI s) n bc n bd pr = some (mix (a 9) (bc s) (bd s)) := by
  unfold pX3_behindCloudy pX8_mixed
  rw [if_neg (nI_in hs (by omega)), if_neg (nI_in hs (by omega)), nI_clamp (by omega : s < 2 ^ 31), ob_eq rfl, hp 2 (by omega)]
  rfl
theorem cd_put {s n : Nat} {bc bd : Nat → Int64} {x y : Int64} (hs : s < n) (hn : n < 60000) : pX3_put (nI s) x y n bc n bd = some (vp_updL bc s x, vp_updL bd s y) := by
  unfold pX3_put
  rw [if_neg (nI_in hs (by omega)), if_neg (nI_in hs (by omega)), nI_clamp (by omega : s < 2 ^ 31)]
/-- the rows hold X at a state and behind each exposure from it -/
def At (a : Nat → Int32) (N t s n : Nat) (X : Nat → Int64 × Int64) (bc bd : Nat → Int64) : Prop := s < n ∧ bc s = (X s).1 ∧ bd s = (X s).2 ∧ ∀ k, k < N → psb true a N s k t = true → s + 4 ^ k < n ∧ bc (s + 4 ^ k) = (X (s + 4 ^ k)).1 ∧ bd (s + 4 ^ k) = (X (s + 4 ^ k)).2
theorem cd_valueOf {S N t s n k : Nat} {a f pr : Nat → Int32} {bc bd : Nat → Int64} {X : Nat → Int64 × Int64} (hR : RowN S N a) (hu : Nu N a f) (hp : Pc a pr) (hn : n < 60000) (hA : At a N t s n X bc bd) (hk : k < N) (hps : psb true a N s k t = true) : pX0_valueOf (nI s) (nI k) pr f n bc n bd = some (vE a X s k) := by
  have hN := hR.2.2.1
  obtain ⟨h1, h2, h3⟩ := hA.2.2.2 k hk hps
  unfold pX0_valueOf
  rw [c_number (x := 8) (w := 8) hu hN hk rfl (by omega), ob_eq rfl, p_oneOf (by omega), ob_eq rfl, nI_add, cd_clear hp h1 hn, ob_eq rfl, h2, h3, Int64.mul_comm]
  rfl
/-- the class's choice so far -/
def fF (c : Nat → Bool) (v : Nat → Int64) (m0 : Int64) (k : Nat) : Nat := fa_first (fun j => c j && decide (v j = bst c v m0 k)) k
theorem fF_same {c : Nat → Bool} {v : Nat → Int64} {m0 : Int64} {k : Nat} (h1 : bst c v m0 (k + 1) = bst c v m0 k) (h2 : (c k && decide (v k = bst c v m0 k)) = false) : cI (k + 1) (fF c v m0 (k + 1)) = cI k (fF c v m0 k) := by
  unfold fF
  rw [h1]
  have e : fa_first (fun j => c j && decide (v j = bst c v m0 k)) (k + 1) = if fa_first (fun j => c j && decide (v j = bst c v m0 k)) k < k then fa_first (fun j => c j && decide (v j = bst c v m0 k)) k else if (c k && decide (v k = bst c v m0 k)) = true then k else k + 1 := rfl
  rw [e, h2]
  unfold cI
  by_cases h : fa_first (fun j => c j && decide (v j = bst c v m0 k)) k < k
  · rw [if_pos h, if_pos (by omega), if_pos h]
  · rw [if_neg h, if_neg (by decide : ¬ false = true), if_neg (Nat.lt_irrefl _), if_neg h]
theorem fF_more {c : Nat → Bool} {v : Nat → Int64} {m0 : Int64} {k : Nat} (hc : c k = true) (h : bst c v m0 k < v k) : cI (k + 1) (fF c v m0 (k + 1)) = nI k ∧ bst c v m0 (k + 1) = v k := by
  have e1 : bst c v m0 (k + 1) = v k := if_pos ⟨hc, h⟩
  refine ⟨?_, e1⟩
  unfold fF
  rw [e1]
  have e : fa_first (fun j => c j && decide (v j = v k)) (k + 1) = if fa_first (fun j => c j && decide (v j = v k)) k < k then fa_first (fun j => c j && decide (v j = v k)) k else if (c k && decide (v k = v k)) = true then k else k + 1 := rfl
  rw [e, first_none k (fun j hj => ?_), if_neg (Nat.lt_irrefl _), hc, decide_eq_true rfl, if_pos (by decide : (true && true) = true)]
  · unfold cI
    rw [if_pos (by omega)]
  · cases hcj : c j with
    | false => rfl
    | true =>
      have h3 := bst_ge c v m0 k j hj hcj
      rw [fa_lt64] at h
      show (true && decide (v j = v k)) = false
      rw [decide_eq_false (fun e => by rw [e] at h3; omega)]; rfl
theorem fF_eq {c : Nat → Bool} {v : Nat → Int64} {m0 : Int64} {k : Nat} (hc : c k = true) (h : v k = bst c v m0 k) : bst c v m0 (k + 1) = bst c v m0 k ∧ cI (k + 1) (fF c v m0 (k + 1)) = (if fF c v m0 k < k then cI k (fF c v m0 k) else nI k) := by
  have e1 : bst c v m0 (k + 1) = bst c v m0 k := if_neg (fun q => by have q2 := q.2; rw [h] at q2; rw [fa_lt64] at q2; omega)
  refine ⟨e1, ?_⟩
  unfold fF
  rw [e1]
  have e : fa_first (fun j => c j && decide (v j = bst c v m0 k)) (k + 1) = if fa_first (fun j => c j && decide (v j = bst c v m0 k)) k < k then fa_first (fun j => c j && decide (v j = bst c v m0 k)) k else if (c k && decide (v k = bst c v m0 k)) = true then k else k + 1 := rfl
  rw [e, hc, decide_eq_true h, if_pos (by decide : (true && true) = true)]
  unfold cI
  by_cases h : fa_first (fun j => c j && decide (v j = bst c v m0 k)) k < k
  · rw [if_pos h, if_pos (by omega), if_pos h, if_pos h]
  · rw [if_neg h, if_pos (by omega), if_neg h]
theorem cI_m1 {N c : Nat} (hN : N < 60000) : (¬ cI N c = (-1 : Int32)) ↔ c < N := by
  unfold cI
  by_cases h : c < N
  · rw [if_pos h]; exact ⟨fun _ => h, fun _ => nI_m1 (by omega)⟩
  · rw [if_neg h]; exact ⟨fun q => absurd rfl q, fun q => absurd q h⟩
theorem cd_choiceLoop {S N t s n : Nat} {a f pr : Nat → Int32} {bc bd : Nat → Int64} {X : Nat → Int64 × Int64} {mask : Int32} {m0 : Int64} (hR : RowN S N a) (hu : Nu N a f) (hp : Pc a pr) (hn : n < 60000) (hA : At a N t s n X bc bd) (hm : ∀ k, k < N → bt mask k = psb true a N s k t) : ∀ (fu k : Nat), k ≤ N → N - k < fu →
    lpX0_bestChoice_26 (nI s) mask (nI N) pr f n bc n bd fu (cI k (fF (fun k => psb true a N s k t) (vE a X s) m0 k)) (bst (fun k => psb true a N s k t) (vE a X s) m0 k) (nI k) = some (cI N (fF (fun k => psb true a N s k t) (vE a X s) m0 N), bst (fun k => psb true a N s k t) (vE a X s) m0 N, nI N)
  | 0, _, _, h => by omega
  | fu + 1, k, hk, hf => by
    have hN := hR.2.2.1
    by_cases e : k = N
    · subst e
      unfold lpX0_bestChoice_26
      rw [if_pos (nI_le (Nat.le_refl _) (by omega))]
    · have ih := cd_choiceLoop (m0 := m0) hR hu hp hn hA hm fu (k + 1) (by omega) (by omega)
      unfold lpX0_bestChoice_26
      rw [if_neg (nI_ge (by omega) (by omega)), p_has _ (by omega : k < 32), ob_eq rfl, hm k (by omega), nI_1 k]
      cases hps : psb true a N s k t with
      | false =>
        have e1 : bst (fun k => psb true a N s k t) (vE a X s) m0 (k + 1) = bst (fun k => psb true a N s k t) (vE a X s) m0 k := if_neg (fun q => by have q1 : psb true a N s k t = true := q.1; rw [hps] at q1; cases q1)
        rw [fF_same e1 (by show (psb true a N s k t && _) = false; rw [hps]; rfl), e1] at ih
        rw [if_neg (show ¬ ¬ (if false = true then (1 : Int32) else 0) = 0 from fun h => h rfl)]
        exact ih
      | true =>
        rw [if_pos i1t, cd_valueOf hR hu hp hn hA (by omega) hps, ob_eq rfl]
        by_cases c : bst (fun k => psb true a N s k t) (vE a X s) m0 k < vE a X s k
        · obtain ⟨g1, g2⟩ := fF_more (c := fun k => psb true a N s k t) hps c
          rw [g1, g2] at ih
          rw [if_pos ((lg_cmp_gt _ _).mpr c)]
          exact ih
        · rw [if_neg (fun h => c ((lg_cmp_gt _ _).mp h))]
          by_cases c2 : vE a X s k = bst (fun k => psb true a N s k t) (vE a X s) m0 k
          · obtain ⟨g1, g2⟩ := fF_eq (c := fun k => psb true a N s k t) hps c2
            rw [g1, g2] at ih
            rw [if_neg (show ¬ ¬ lg_cmp (vE a X s k) (bst (fun k => psb true a N s k t) (vE a X s) m0 k) = 0 from fun h => h ((lg_cmp_eq _ _).mpr c2))]
            by_cases c3 : fF (fun k => psb true a N s k t) (vE a X s) m0 k < k
            · rw [if_pos c3] at ih
              rw [if_pos ((cI_m1 (by omega)).mpr c3)]
              exact ih
            · rw [if_neg c3] at ih
              rw [if_neg (fun h => c3 ((cI_m1 (by omega)).mp h)), c2]
              exact ih
          · have e1 : bst (fun k => psb true a N s k t) (vE a X s) m0 (k + 1) = bst (fun k => psb true a N s k t) (vE a X s) m0 k := if_neg (fun q => c q.2)
            rw [fF_same e1 (by show (psb true a N s k t && decide (vE a X s k = _)) = false; rw [decide_eq_false c2, Bool.and_false]), e1] at ih
            rw [if_pos (show ¬ lg_cmp (vE a X s k) (bst (fun k => psb true a N s k t) (vE a X s) m0 k) = 0 from fun h => c2 ((lg_cmp_eq _ _).mp h))]
            exact ih
theorem Md1 {a : Nat → Int32} {S N d s t : Nat} (ht : t + (d + 1) = S) : (Md a S N (d + 1) s).1 = bst (fun k => psb true a N s k t) (vE a (Md a S N d) s) (NB (a 8) (Md a S N d) s) N := by
  have : t = S - (d + 1) := by omega
  subst this
  rfl
theorem cd_choice {S N t s n d l : Nat} {a f pr sn wt : Nat → Int32} {bc bd : Nat → Int64} (hR : RowN S N a) (hu : Nu N a f) (hp : Pc a pr) (hsn : ∀ t, t < S → sn t = msk (obs a · t) N) (hn : n < 60000) (ht : t + (d + 1) = S) (hl : l < 60000) (hs : s < l) (hw : wt s = wm a N (tx true a N s) s) (hA : At a N t s n (Md a S N d) bc bd) :
    pX0_bestChoice (nI s) (nI t) (nI S) (nI N) pr f sn l wt n bc n bd = some (cI N (dec a S N d s)) := by
  have hN := hR.2.2.1
  have hS := hR.2.1
  obtain ⟨m, m1, m2⟩ := cp_possible (b := true) (n := l) hS hs hl hsn hN (show t < S by omega) hw
  unfold pX0_bestChoice
  rw [m1, ob_eq rfl, cd_clear hp hA.1 hn, ob_eq rfl, hA.2.1, hA.2.2.1]
  rw [ob_eq (show lpX0_bestChoice_26 (nI s) m (nI N) pr f n bc n bd lpF (-1 : Int32) (mix (a 8) (Md a S N d s).1 (Md a S N d s).2) (0 : Int32) = _ from cd_choiceLoop (m0 := NB (a 8) (Md a S N d) s) hR hu hp hn hA m2 lpF 0 (by omega) (by have := lpF_big; omega))]
  rw [dec_hit ht]
  unfold fF
  rw [← Md1 ht]
  rfl
theorem dec_none {a : Nat → Int32} {S N d s t : Nat} (ht : t + (d + 1) = S) (h : ¬ dec a S N d s < N) : (Md a S N (d + 1) s).1 = NB (a 8) (Md a S N d) s := by
  rw [dec_hit ht] at h
  rcases bst_src (fun k => psb true a N s k t) (vE a (Md a S N d) s) (NB (a 8) (Md a S N d) s) N with e | ⟨k, k1, k2, e⟩
  · rw [Md1 ht]; exact e
  · rw [← Md1 ht] at e
    exact absurd (first_ex k1 (by unfold hitM; rw [show psb true a N s k t = true from k2, decide_eq_true e.symm]; rfl)) h
theorem dec_some {a : Nat → Int32} {S N d s t : Nat} (ht : t + (d + 1) = S) (h : dec a S N d s < N) : vE a (Md a S N d) s (dec a S N d s) = (Md a S N (d + 1) s).1 := by
  rw [dec_hit ht] at h ⊢
  have h2 := fa_first_yes _ N h
  unfold hitM at h2
  rw [Bool.and_eq_true, decide_eq_true_eq] at h2
  exact h2.2
theorem cd_ifClear {S N t s s0 n d : Nat} {a f pr : Nat → Int32} {bc bd : Nat → Int64} (hR : RowN S N a) (hu : Nu N a f) (hp : Pc a pr) (hn : n < 60000) (ht : t + (d + 1) = S) (hg : Gd N a s0 s) (hA : At a N t s n (Md a S N d) bc bd) :
    pX0_bestIfClear (nI s) (cI N (dec a S N d s)) pr f n bc n bd = some (Md a S N (d + 1) s).1 := by
  have hN := hR.2.2.1
  unfold pX0_bestIfClear
  by_cases c : dec a S N d s < N
  · rw [if_pos ((cI_m1 (by omega)).mpr c), show cI N (dec a S N d s) = nI (dec a S N d s) from if_pos c, cd_valueOf hR hu hp hn hA c (dec_psb hR ht hg c), ob_eq rfl, dec_some ht c]
  · rw [if_neg (fun h => c ((cI_m1 (by omega)).mp h)), cd_clear hp hA.1 hn, ob_eq rfl, dec_none ht c, hA.2.1, hA.2.2.1]
    rfl
/-- a kind of the class beside one of the reference -/
def Kq (kd g : Int32) : Prop := (kd = 1 ∧ g = 0) ∨ (kd = 2 ∧ g = 1) ∨ (kd = 3 ∧ g = 2)
def Hq (N : Nat) (g gt : Int32) (tg : Nat) : Prop := (g = 2 ∨ tg < N) ∧ tg < 6 ∧ (g = 1 → gt = nI tg)
theorem cd_atEnd {S N s s0 tg : Nat} {a f : Nat → Int32} {kd g gt : Int32} (hR : RowN S N a) (hu : Nu N a f) (hK : Kq kd g) (hq : Hq N g gt tg) (hg : Gd N a s0 s) : pX0_atEnd (nI s) kd gt f = some (Eg a g tg s) := by
  have hN := hR.2.2.1
  have hp := pow_le6 hN
  have hs := hg.1
  unfold pX0_atEnd Eg
  rcases hK with ⟨rfl, rfl⟩ | ⟨rfl, rfl⟩ | ⟨rfl, rfl⟩
  · rw [if_pos (by decide), if_neg (fun q => by cases q.1)]
  · have htg : tg < N := hq.1.resolve_left (by decide)
    obtain ⟨w1, w2, w3⟩ := wnt_eq hR htg
    have hd := hg.2 tg htg
    rw [if_neg (by decide), hq.2.2 rfl, p_madeOf (by omega) (by omega), ob_eq rfl, c_number (x := 7) (w := 7) hu hN htg rfl (by omega), ob_eq rfl, w1]
    by_cases c : dg s tg < wnt a tg
    · rw [if_pos (nI_lt c (by omega)), if_neg (fun q => by have := (nI_eq (by omega) (by omega)).mp q.2; omega)]
    · rw [if_neg (nI_nlt (by omega) (by omega)), if_pos ⟨rfl, by rw [show dg s tg = wnt a tg by omega]⟩]
  · rw [if_pos (by decide), if_neg (fun q => by have := q.1; revert this; decide)]
theorem cd_gain {S N k : Nat} {a f : Nat → Int32} {kd g gt : Int32} (hR : RowN S N a) (hu : Nu N a f) (hK : Kq kd g) (hk : k < N) : pX0_gain (nI k) kd gt f = some (own a g gt k) := by
  have hN := hR.2.2.1
  unfold pX0_gain own
  rcases hK with ⟨rfl, rfl⟩ | ⟨rfl, rfl⟩ | ⟨rfl, rfl⟩
  · rw [if_pos (by decide), if_neg (by decide), if_neg (show ¬ (0 : Int32) = 2 by decide)]
    by_cases c : nI k = gt
    · rw [if_neg (show ¬ ¬ nI k = gt from fun h => h c), if_pos (show (0 : Int32) = 0 ∧ nI k = gt from ⟨rfl, c⟩)]
    · rw [if_pos c, if_neg (show ¬ ((0 : Int32) = 0 ∧ nI k = gt) from fun q => c q.2)]
  · rw [if_pos (by decide), if_pos (by decide), if_neg (show ¬ (1 : Int32) = 2 by decide), if_neg (show ¬ ((1 : Int32) = 0 ∧ nI k = gt) from fun q => by have := q.1; revert this; decide)]
  · rw [if_neg (by decide), c_number (x := 8) (w := 8) hu hN hk rfl (by omega), ob_eq rfl, if_pos rfl, Int64.mul_comm]
    rfl
theorem cd_followed {S N t s s0 n d l tg : Nat} {a f pr sn wt : Nat → Int32} {wc wd : Nat → Int64} {kd g gt : Int32} (hR : RowN S N a) (hu : Nu N a f) (hp : Pc a pr) (hsn : ∀ t, t < S → sn t = msk (obs a · t) N) (hn : n < 60000) (ht : t + (d + 1) = S) (hl : l < 60000) (hs : s < l) (hw : wt s = wm a N (tx true a N s) s) (hg : Gd N a s0 s) (hK : Kq kd g) (hA : At a N t s n (Gv a S N g gt tg d) wc wd) :
    pX0_followedIfClear (nI s) (nI t) (cI N (dec a S N d s)) kd gt (nI S) (nI N) pr f sn l wt n wc n wd = some (Gv a S N g gt tg (d + 1) s).1 := by
  have hN := hR.2.2.1
  have hS := hR.2.1
  have hG : (Gv a S N g gt tg (d + 1) s).1 = (match fol a S N g d s with
      | none => NB (a 8) (Gv a S N g gt tg d) s
      | some k => own a g gt k + NB (a 8) (Gv a S N g gt tg d) (s + 4 ^ k)) := rfl
  rw [hG]
  have hfol := fun k h => fol_psb (g := g) (k := k) hR ht hg h
  have hself : pX3_behindClear (nI s) n wc n wd pr = some (NB (a 8) (Gv a S N g gt tg d) s) := by
    rw [cd_clear hp hA.1 hn, hA.2.1, hA.2.2.1]; rfl
  have hnext : ∀ k, k < N → psb true a N s k t = true → pX3_behindClear (nI (s + 4 ^ k)) n wc n wd pr = some (NB (a 8) (Gv a S N g gt tg d) (s + 4 ^ k)) := fun k hk h => by
    obtain ⟨h1, h2, h3⟩ := hA.2.2.2 k hk h
    rw [cd_clear hp h1 hn, h2, h3]; rfl
  unfold pX0_followedIfClear
  by_cases c : kd = 3
  · have hg2 : g = 2 := by
      rcases hK with ⟨h, -⟩ | ⟨h, -⟩ | ⟨-, h⟩
      · rw [h] at c; exact absurd c (by decide)
      · rw [h] at c; exact absurd c (by decide)
      · exact h
    have ef : fol a S N g d s = gdy (fun k => psb true a N s k t) (vl a) N := by
      unfold fol
      rw [if_pos hg2, show S - (d + 1) = t by omega]
    obtain ⟨m, m1, m2⟩ := cp_possible (b := true) (n := l) hS hs hl hsn hN (show t < S by omega) hw
    rw [if_neg (show ¬ ¬ kd = 3 from fun h => h c), m1, ob_eq rfl, c_dearest hR hu m2, ob_eq rfl, ← ef]
    cases hf : fol a S N g d s with
    | none =>
      rw [if_neg (show ¬ ¬ oI none = (-1 : Int32) from fun h => h rfl), hself, ob_eq rfl]
    | some k =>
      obtain ⟨hk, hps⟩ := hfol k hf
      rw [if_pos (show ¬ oI (some k) = (-1 : Int32) from nI_m1 (by omega)), show oI (some k) = nI k from rfl, cd_gain hR hu hK hk, ob_eq rfl, p_oneOf (by omega), ob_eq rfl, nI_add, hnext k hk hps, ob_eq rfl]
  · have hg2 : ¬ g = 2 := fun h => by
      rcases hK with ⟨-, h2⟩ | ⟨-, h2⟩ | ⟨h2, -⟩
      · rw [h2] at h; revert h; decide
      · rw [h2] at h; revert h; decide
      · exact c h2
    have ef : fol a S N g d s = if dec a S N d s < N then some (dec a S N d s) else none := by
      unfold fol
      rw [if_neg hg2]
    rw [if_pos c]
    by_cases c2 : dec a S N d s < N
    · rw [if_pos c2] at ef
      obtain ⟨hk, hps⟩ := hfol _ ef
      rw [ef, if_pos ((cI_m1 (by omega)).mpr c2), show cI N (dec a S N d s) = nI (dec a S N d s) from if_pos c2, cd_gain hR hu hK hk, ob_eq rfl, p_oneOf (by omega), ob_eq rfl, nI_add, hnext _ hk hps, ob_eq rfl]
    · rw [if_neg c2] at ef
      rw [ef, if_neg (fun h => c2 ((cI_m1 (by omega)).mp h)), hself, ob_eq rfl]
/-- what the rows of both outlooks hold from slot u on -/
def DI (a : Nat → Int32) (S N : Nat) (kd g gt : Int32) (tg : Nat) (e : Nat → Nat) (u i : Nat) (bc bd wc wd : Nat → Int64) : Prop :=
  bc i = (Md a S N (S - max u (e i)) i).1 ∧ bd i = (Md a S N (S - max u (e i)) i).2 ∧ (¬ kd = 0 → wc i = (Gv a S N g gt tg (S - max u (e i)) i).1 ∧ wd i = (Gv a S N g gt tg (S - max u (e i)) i).2)
theorem cd_init {S N P s0 n nw l tg : Nat} {a f : Nat → Int32} {kd g gt : Int32} {e st : Nat → Nat} {sz : Nat} {states wanting earliest : Nat → Int32} (hR : RowN S N a) (hu : Nu N a f) (hn : n < 60000) (hn4 : 4 ^ N ≤ n) (hnw : nw < 60000) (hnw4 : ¬ kd = 0 → 4 ^ N ≤ nw) (hl : l < 60000) (hl4 : 4 ^ N ≤ l) (hK : kd = 0 ∨ Kq kd g) (hq : Hq N g gt tg) (hv : RVc true a S N P s0 e st sz (4 ^ N) states wanting earliest) : ∀ (fu q : Nat) (bc bd wc wd : Nat → Int64), q ≤ sz → sz - q < fu → (∀ r, r < q → DI a S N kd g gt tg e S (st r) bc bd wc wd) →
    ∃ bc' bd' wc' wd', lpX0_prepare_75 kd gt f (nI sz) l states n n nw nw fu (nI q) bc bd wc wd = some (nI sz, bc', bd', wc', wd') ∧ ∀ r, r < sz → DI a S N kd g gt tg e S (st r) bc' bd' wc' wd'
  | 0, _, _, _, _, _, _, h, _ => by omega
  | fu + 1, q, bc, bd, wc, wd, hqs, hf, hi => by
    have hN := hR.2.2.1
    have hp := pow_le6 hN
    have hsz := hv.2.2.2.1
    by_cases eq : q = sz
    · subst eq
      refine ⟨bc, bd, wc, wd, ?_, hi⟩
      unfold lpX0_prepare_75
      rw [if_pos (nI_le (Nat.le_refl _) (by omega))]
    · have hqs2 : q < sz := by omega
      obtain ⟨q1, q2, q3⟩ := hv.1 q hqs2
      obtain ⟨heS, hgd⟩ := hv.2.2.2.2.2.2.2.1 (st q) q3
      have hne : ∀ r, r < q → st r ≠ st q := fun r hr h => by have := hv.2.1 r q hr hqs2; omega
      have h0 : ∀ r, r = q → S - max S (e (st r)) = 0 := fun r hr => by subst hr; omega
      by_cases c : kd = 0
      · obtain ⟨bc', bd', wc', wd', i1, i2⟩ := cd_init hR hu hn hn4 hnw hnw4 hl hl4 hK hq hv fu (q + 1) (vp_updL bc (st q) 0) (vp_updL bd (st q) 0) wc wd (by omega) (by omega) (fun r hr => by
          by_cases er : r = q
          · subst er
            unfold DI
            rw [pk_uLs, pk_uLs, h0 r rfl]
            exact ⟨rfl, rfl, fun h => absurd c h⟩
          · have h5 := hi r (by omega)
            unfold DI at h5 ⊢
            rw [pk_uLn (hne r (by omega)), pk_uLn (hne r (by omega))]
            exact h5)
        refine ⟨bc', bd', wc', wd', ?_, i2⟩
        unfold lpX0_prepare_75 pX0_startAtEnd
        rw [if_neg (nI_ge hqs2 (by omega)), if_neg (nI_in (show q < l by omega) (by omega)), nI_clamp (by omega : q < 2 ^ 31), q1, cd_put (show st q < n by omega) hn, ob_eq rfl, if_pos c, ob_eq rfl, nI_1 q]
        exact i1
      · have hKq := hK.resolve_left c
        have hw4 := hnw4 c
        obtain ⟨bc', bd', wc', wd', i1, i2⟩ := cd_init hR hu hn hn4 hnw hnw4 hl hl4 hK hq hv fu (q + 1) (vp_updL bc (st q) 0) (vp_updL bd (st q) 0) (vp_updL wc (st q) (Eg a g tg (st q))) (vp_updL wd (st q) (Eg a g tg (st q))) (by omega) (by omega) (fun r hr => by
          by_cases er : r = q
          · subst er
            unfold DI
            rw [pk_uLs, pk_uLs, pk_uLs, pk_uLs, h0 r rfl]
            exact ⟨rfl, rfl, fun _ => ⟨rfl, rfl⟩⟩
          · have h5 := hi r (by omega)
            unfold DI at h5 ⊢
            rw [pk_uLn (hne r (by omega)), pk_uLn (hne r (by omega)), pk_uLn (hne r (by omega)), pk_uLn (hne r (by omega))]
            exact h5)
        refine ⟨bc', bd', wc', wd', ?_, i2⟩
        unfold lpX0_prepare_75 pX0_startAtEnd
        rw [if_neg (nI_ge hqs2 (by omega)), if_neg (nI_in (show q < l by omega) (by omega)), nI_clamp (by omega : q < 2 ^ 31), q1, cd_put (show st q < n by omega) hn, ob_eq rfl, if_neg c, cd_atEnd hR hu hKq hq hgd, ob_eq rfl, ob_eq rfl, cd_put (show st q < nw by omega) hnw, ob_eq rfl, ob_eq rfl, nI_1 q]
        exact i1
theorem cd_step {S N P s0 t n nw l tg : Nat} {a f pr sn : Nat → Int32} {kd g gt : Int32} {e st : Nat → Nat} {sz : Nat} {states wanting earliest : Nat → Int32} (hR : RowN S N a) (hu : Nu N a f) (hpr : Pc a pr) (hsn : ∀ t, t < S → sn t = msk (obs a · t) N) (ht : t < S) (hn : n < 60000) (hn4 : 4 ^ N ≤ n) (hnw : nw < 60000) (hnw4 : ¬ kd = 0 → 4 ^ N ≤ nw) (hl : l < 60000) (hl4 : 4 ^ N ≤ l) (hK : kd = 0 ∨ Kq kd g) (hv : RVc true a S N P s0 e st sz (4 ^ N) states wanting earliest) : ∀ (fu q : Nat) (bc bd wc wd : Nat → Int64), q ≤ sz → sz - q < fu → (∀ r, r < sz → DI a S N kd g gt tg e (if r < q then t else t + 1) (st r) bc bd wc wd) →
    ∃ bc' bd' wc' wd', lpX0_stepBack_2 (nI t) kd gt (nI S) (nI N) pr f sn (nI sz) l states l wanting l earliest n n nw nw fu (nI q) bc bd wc wd = some (nI sz, bc', bd', wc', wd') ∧ ∀ r, r < sz → DI a S N kd g gt tg e t (st r) bc' bd' wc' wd'
  | 0, _, _, _, _, _, _, h, _ => by omega
  | fu + 1, q, bc, bd, wc, wd, hq, hf, hi => by
    have hN := hR.2.2.1
    have hS := hR.2.1
    have hp := pow_le6 hN
    have hsz := hv.2.2.2.1
    by_cases eq : q = sz
    · subst eq
      refine ⟨bc, bd, wc, wd, ?_, fun r hr => ?_⟩
      · unfold lpX0_stepBack_2
        rw [if_pos (nI_le (Nat.le_refl _) (by omega))]
      · have := hi r hr
        rw [if_pos hr] at this
        exact this
    · have hqs : q < sz := by omega
      obtain ⟨q1, q2, q3⟩ := hv.1 q hqs
      have he13 := hv.2.2.2.2.2.2.1 (st q)
      have heq := hv.2.2.2.2.1 (st q) q2
      obtain ⟨heS, hgd⟩ := hv.2.2.2.2.2.2.2.1 (st q) q3
      by_cases c : e (st q) ≤ t
      · have hwt := (hv.2.2.2.2.2.2.2.2 (st q) q2 q3).1
        obtain ⟨d, hd⟩ : ∃ d, t + (d + 1) = S := ⟨S - t - 1, by omega⟩
        have hiq := hi q hqs
        rw [if_neg (Nat.lt_irrefl q)] at hiq
        have hself : S - max (t + 1) (e (st q)) = d := by omega
        unfold DI at hiq
        rw [hself] at hiq
        have hnx : ∀ k, k < N → psb true a N (st q) k t = true → st q + 4 ^ k < 4 ^ N ∧ bc (st q + 4 ^ k) = (Md a S N d (st q + 4 ^ k)).1 ∧ bd (st q + 4 ^ k) = (Md a S N d (st q + 4 ^ k)).2 ∧ (¬ kd = 0 → wc (st q + 4 ^ k) = (Gv a S N g gt tg d (st q + 4 ^ k)).1 ∧ wd (st q + 4 ^ k) = (Gv a S N g gt tg d (st q + 4 ^ k)).2) := fun k hk h => by
          obtain ⟨r, r1, r2, r3, r4⟩ := cp_next hR hv hqs ht c hk h
          have h5 := hi r r2
          have h6 := (hv.1 r r2).2.1
          rw [if_neg (by omega), r3] at h5
          rw [r3] at r4 h6
          unfold DI at h5
          rw [show S - max (t + 1) (e (st q + 4 ^ k)) = d by omega] at h5
          exact ⟨h6, h5⟩
        have hAb : At a N t (st q) n (Md a S N d) bc bd := ⟨by omega, hiq.1, hiq.2.1, fun k hk h => by
          obtain ⟨g1, g2, g3, -⟩ := hnx k hk h
          exact ⟨by omega, g2, g3⟩⟩
        have hch := cd_choice (l := l) hR hu hpr hsn hn hd hl (show st q < l by omega) hwt hAb
        have hic := cd_ifClear hR hu hpr hn hd hgd hAb
        have hcy := cd_cloudy (bc := bc) (bd := bd) hpr (show st q < n by omega) hn
        rw [hiq.1, hiq.2.1] at hcy
        have hne : ∀ r, r < sz → r ≠ q → st r ≠ st q := fun r hr er h => by
          rcases Nat.lt_trichotomy r q with h2 | h2 | h2
          · have := hv.2.1 r q h2 hqs; omega
          · exact er h2
          · have := hv.2.1 q r h2 hr; omega
        by_cases ck : kd = 0
        · obtain ⟨bc', bd', wc', wd', i1, i2⟩ := cd_step hR hu hpr hsn ht hn hn4 hnw hnw4 hl hl4 hK hv fu (q + 1) (vp_updL bc (st q) (Md a S N (d + 1) (st q)).1) (vp_updL bd (st q) (mix (a 9) (Md a S N d (st q)).1 (Md a S N d (st q)).2)) wc wd (by omega) (by omega) (fun r hr => by
            by_cases er : r = q
            · subst er
              rw [if_pos (by omega)]
              unfold DI
              rw [pk_uLs, pk_uLs, show S - max t (e (st r)) = d + 1 by omega]
              exact ⟨rfl, rfl, fun h => absurd ck h⟩
            · have h5 := hi r hr
              unfold DI at h5 ⊢
              rw [pk_uLn (hne r hr er), pk_uLn (hne r hr er)]
              by_cases hrq : r < q
              · rw [if_pos hrq] at h5
                rw [if_pos (by omega)]
                exact h5
              · rw [if_neg hrq] at h5
                rw [if_neg (by omega)]
                exact h5)
          refine ⟨bc', bd', wc', wd', ?_, i2⟩
          unfold lpX0_stepBack_2
          rw [if_neg (nI_ge hqs (by omega)), if_neg (nI_in (show q < l by omega) (by omega)), nI_clamp (by omega : q < 2 ^ 31), q1, cp_holds (show st q < l by omega) (by omega) heq (by omega) (by omega), ob_eq rfl, if_pos c, if_pos (show ¬ (1 : Int32) = 0 by decide), hch, ob_eq rfl, hic, ob_eq rfl, hcy, ob_eq rfl, cd_put (show st q < n by omega) hn, ob_eq rfl, if_pos ck, nI_1 q]
          exact i1
        · have hKq := hK.resolve_left ck
          have hw4 := hnw4 ck
          have hAw : At a N t (st q) nw (Gv a S N g gt tg d) wc wd := ⟨by omega, (hiq.2.2 ck).1, (hiq.2.2 ck).2, fun k hk h => by
            obtain ⟨g1, -, -, g4⟩ := hnx k hk h
            exact ⟨by omega, (g4 ck).1, (g4 ck).2⟩⟩
          have hfo := cd_followed (l := l) hR hu hpr hsn hnw hd hl (show st q < l by omega) hwt hgd hKq hAw
          have hcw := cd_cloudy (bc := wc) (bd := wd) hpr (show st q < nw by omega) hnw
          rw [(hiq.2.2 ck).1, (hiq.2.2 ck).2] at hcw
          obtain ⟨bc', bd', wc', wd', i1, i2⟩ := cd_step hR hu hpr hsn ht hn hn4 hnw hnw4 hl hl4 hK hv fu (q + 1) (vp_updL bc (st q) (Md a S N (d + 1) (st q)).1) (vp_updL bd (st q) (mix (a 9) (Md a S N d (st q)).1 (Md a S N d (st q)).2)) (vp_updL wc (st q) (Gv a S N g gt tg (d + 1) (st q)).1) (vp_updL wd (st q) (mix (a 9) (Gv a S N g gt tg d (st q)).1 (Gv a S N g gt tg d (st q)).2)) (by omega) (by omega) (fun r hr => by
            by_cases er : r = q
            · subst er
              rw [if_pos (by omega)]
              unfold DI
              rw [pk_uLs, pk_uLs, pk_uLs, pk_uLs, show S - max t (e (st r)) = d + 1 by omega]
              exact ⟨rfl, rfl, fun _ => ⟨rfl, rfl⟩⟩
            · have h5 := hi r hr
              unfold DI at h5 ⊢
              rw [pk_uLn (hne r hr er), pk_uLn (hne r hr er), pk_uLn (hne r hr er), pk_uLn (hne r hr er)]
              by_cases hrq : r < q
              · rw [if_pos hrq] at h5
                rw [if_pos (by omega)]
                exact h5
              · rw [if_neg hrq] at h5
                rw [if_neg (by omega)]
                exact h5)
          refine ⟨bc', bd', wc', wd', ?_, i2⟩
          unfold lpX0_stepBack_2
          rw [if_neg (nI_ge hqs (by omega)), if_neg (nI_in (show q < l by omega) (by omega)), nI_clamp (by omega : q < 2 ^ 31), q1, cp_holds (show st q < l by omega) (by omega) heq (by omega) (by omega), ob_eq rfl, if_pos c, if_pos (show ¬ (1 : Int32) = 0 by decide), hch, ob_eq rfl, hic, ob_eq rfl, hcy, ob_eq rfl, cd_put (show st q < n by omega) hn, ob_eq rfl, if_neg ck, hfo, ob_eq rfl, hcw, ob_eq rfl, cd_put (show st q < nw by omega) hnw, ob_eq rfl, nI_1 q]
          exact i1
      · obtain ⟨bc', bd', wc', wd', i1, i2⟩ := cd_step hR hu hpr hsn ht hn hn4 hnw hnw4 hl hl4 hK hv fu (q + 1) bc bd wc wd (by omega) (by omega) (fun r hr => by
          have h5 := hi r hr
          by_cases er : r = q
          · subst er
            rw [if_neg (Nat.lt_irrefl r)] at h5
            rw [if_pos (by omega)]
            unfold DI at h5 ⊢
            rw [show max t (e (st r)) = max (t + 1) (e (st r)) by omega]
            exact h5
          · by_cases hrq : r < q
            · rw [if_pos hrq] at h5
              rw [if_pos (by omega)]
              exact h5
            · rw [if_neg hrq] at h5
              rw [if_neg (by omega)]
              exact h5)
        refine ⟨bc', bd', wc', wd', ?_, i2⟩
        unfold lpX0_stepBack_2
        rw [if_neg (nI_ge hqs (by omega)), if_neg (nI_in (show q < l by omega) (by omega)), nI_clamp (by omega : q < 2 ^ 31), q1, cp_holds (show st q < l by omega) (by omega) heq (by omega) (by omega), ob_eq rfl, if_neg c, if_neg (show ¬ ¬ (0 : Int32) = 0 from fun h => h rfl), nI_1 q]
        exact i1
theorem cd_down {S N P s0 n nw l tg : Nat} {a f pr sn : Nat → Int32} {kd g gt : Int32} {e st : Nat → Nat} {sz : Nat} {states wanting earliest : Nat → Int32} (hR : RowN S N a) (hu : Nu N a f) (hpr : Pc a pr) (hsn : ∀ t, t < S → sn t = msk (obs a · t) N) (hP : P ≤ S) (hn : n < 60000) (hn4 : 4 ^ N ≤ n) (hnw : nw < 60000) (hnw4 : ¬ kd = 0 → 4 ^ N ≤ nw) (hl : l < 60000) (hl4 : 4 ^ N ≤ l) (hK : kd = 0 ∨ Kq kd g) (hv : RVc true a S N P s0 e st sz (4 ^ N) states wanting earliest) : ∀ (fu u : Nat) (bc bd wc wd : Nat → Int64), 1 ≤ u → u ≤ S → u < fu → (P < S → P + 1 ≤ u) → (∀ r, r < sz → DI a S N kd g gt tg e u (st r) bc bd wc wd) →
    ∃ y bc' bd' wc' wd', lpX0_prepare_115 kd gt (nI S) (nI N) pr f sn (nI P) (nI sz) l states l wanting l earliest n n nw nw fu (nI u + (-1 : Int32)) bc bd wc wd = some (y, bc', bd', wc', wd') ∧ (P < S → ∀ r, r < sz → DI a S N kd g gt tg e (P + 1) (st r) bc' bd' wc' wd')
  | 0, _, _, _, _, _, _, _, h, _, _ => by omega
  | fu + 1, u, bc, bd, wc, wd, h1, h2, hf, hPu, hi => by
    have hN := hR.2.2.1
    have hS := hR.2.1
    have hp := pow_le6 hN
    have hsz := hv.2.2.2.1
    by_cases e1 : u ≤ P + 1
    · refine ⟨nI u + (-1 : Int32), bc, bd, wc, wd, ?_, fun hPS => ?_⟩
      · unfold lpX0_prepare_115
        rw [if_pos (dn_le e1 (by omega))]
      · have := hPu hPS
        have : u = P + 1 := by omega
        subst this
        exact hi
    · obtain ⟨t, rfl⟩ : ∃ t, u = t + 1 := ⟨u - 1, by omega⟩
      obtain ⟨b1, b2, w1, w2, j1, j2⟩ := cd_step hR hu hpr hsn (show t < S by omega) hn hn4 hnw hnw4 hl hl4 hK hv lpF 0 bc bd wc wd (by omega) (by have := lpF_big; omega) (fun r hr => by rw [if_neg (by omega)]; exact hi r hr)
      obtain ⟨y, bc', bd', wc', wd', i1, i2⟩ := cd_down hR hu hpr hsn hP hn hn4 hnw hnw4 hl hl4 hK hv fu t b1 b2 w1 w2 (by omega) (by omega) (by omega) (fun _ => by omega) j2
      refine ⟨y, bc', bd', wc', wd', ?_, i2⟩
      unfold lpX0_prepare_115 pX0_stepBack
      rw [pk_m1, if_neg (nI_ge (by omega) (by omega)), ob_eq (show lpX0_stepBack_2 (nI t) kd gt (nI S) (nI N) pr f sn (nI sz) l states l wanting l earliest n n nw nw lpF (0 : Int32) bc bd wc wd = _ from j1), ob_eq rfl]
      exact i1
