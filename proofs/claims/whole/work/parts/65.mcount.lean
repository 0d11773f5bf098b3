/-! THE REFERENCE'S NUMBER OF PLANS, ITS FIRST PLAN, THE GREEDY PLAN -/
theorem m_ones : ∀ (fu s : Nat) (ws : Nat → Int64), s ≤ 4096 → 4096 - s < fu → (∀ i, i < s → ws i = 1) → ∃ ws', lpX9_planCount_15 fu (nI s) ws = some (nI 4096, ws') ∧ ∀ i, i < 4096 → ws' i = 1
  | 0, _, _, _, h, _ => by omega
  | fu + 1, s, ws, hs, hf, h1 => by
    by_cases e : s = 4096
    · subst e
      refine ⟨ws, ?_, h1⟩
      unfold lpX9_planCount_15
      rw [if_pos (show (4096 : Int32) ≤ nI 4096 from nI_le (Nat.le_refl 4096) (by omega))]
    · have e6 : ¬ (4096 : Int32) ≤ nI s := nI_ge (a := s) (b := 4096) (by omega) (by omega)
      obtain ⟨ws', i1, i2⟩ := m_ones fu (s + 1) (vp_updL ws s 1) (by omega) (by omega) (fun i hi => by
        by_cases ei : i = s
        · subst ei; exact pk_uLs
        · rw [pk_uLn ei]; exact h1 i (by omega))
      refine ⟨ws', ?_, i2⟩
      unfold lpX9_planCount_15
      rw [if_neg e6, if_neg (nI_in (by omega : s < 4096) (by omega)), nI_clamp (by omega : s < 2 ^ 31), nI_1]
      exact i1
theorem m_copyW {wn : Nat → Int64} : ∀ (fu s : Nat) (ws : Nat → Int64), s ≤ 4096 → 4096 - s < fu → (∀ i, i < s → ws i = wn i) → ∃ ws', lpX9_planCount_252 wn fu (nI s) ws = some (nI 4096, ws') ∧ ∀ i, i < 4096 → ws' i = wn i
  | 0, _, _, _, h, _ => by omega
  | fu + 1, s, ws, hs, hf, h1 => by
    by_cases e : s = 4096
    · subst e
      refine ⟨ws, ?_, h1⟩
      unfold lpX9_planCount_252
      rw [if_pos (show (4096 : Int32) ≤ nI 4096 from nI_le (Nat.le_refl 4096) (by omega))]
    · have e6 : ¬ (4096 : Int32) ≤ nI s := nI_ge (a := s) (b := 4096) (by omega) (by omega)
      obtain ⟨ws', i1, i2⟩ := m_copyW fu (s + 1) (vp_updL ws s (wn s)) (by omega) (by omega) (fun i hi => by
        by_cases ei : i = s
        · subst ei; exact pk_uLs
        · rw [pk_uLn ei]; exact h1 i (by omega))
      refine ⟨ws', ?_, i2⟩
      unfold lpX9_planCount_252
      rw [if_neg e6, if_neg (nI_in (by omega : s < 4096) (by omega)), nI_clamp (by omega : s < 2 ^ 31), nI_1]
      exact i1
theorem ix_next2 (t s k : Nat) (hk : 2 * k < 32) : ((4096 : Int32) * (nI t + (1 : Int32))) + (nI s + ((1 : Int32) <<< (((2 : Int32) * nI k) &&& 31))) = nI (4096 * (t + 1) + (s + 4 ^ k)) := by
  rw [one_k hk, nI_1, show (4096 : Int32) * nI (t + 1) = nI (4096 * (t + 1)) from nI_mul 4096 _, nI_add, nI_add]
theorem ix_to (s k : Nat) (hk : 2 * k < 32) : nI s + ((1 : Int32) <<< (((2 : Int32) * nI k) &&& 31)) = nI (s + 4 ^ k) := by
  rw [one_k hk, nI_add]
theorem okc0 {a : Nat → Int32} {N P s k t : Nat} : okc a N P 0 0 0 s k t = (psb true a N s k t && !cls a P t) := by
  unfold okc flt
  rw [if_neg (by decide), if_neg (show ¬ (0 = 1 ∧ t = 0) from fun q => by cases q.1), Bool.and_true]
  rfl
theorem gn0 {a : Nat → Int32} {P k t : Nat} : gn a P 0 t k = (a (11 + 9 * k + 8)).toInt64 * (odP a P t).toInt64 := by
  unfold gn
  rw [if_neg (by decide)]
/-- what reaches the greatest value -/
def hit (a : Nat → Int32) (S N P d s t k : Nat) : Bool := okc a N P 0 0 0 s k t && decide (gn a P 0 t k + Vd a S N P 0 0 0 d (s + 4 ^ k) = Vd a S N P 0 0 0 (d + 1) s)
theorem m_countLoop {S N P s0 d t s : Nat} {a it is sn : Nat → Int32} {best ws : Nat → Int64} {m0 : Int64} (hR : RowN S N a) (hP : a 65 = nI P) (hPS : P ≤ S) (hl : Lay true a S N s0 it is sn) (hg : Gd N a s0 s) (ht : t + (d + 1) = S)
    (hb : ∀ i, Gd N a s0 i → best (4096 * (t + 1) + i) = Vd a S N P 0 0 0 d i) (hw : ∀ i, Gd N a s0 i → ws i = Wd a S N P d i) : ∀ (fu k : Nat), k ≤ N → N - k < fu →
    ∃ y, lpX9_planCount_139 (nI t) (odP a P t).toInt64 (nI s) (Vd a S N P 0 0 0 (d + 1) s) a it best sn ws fu (sm (hit a S N P d s t) (fun k => Wd a S N P d (s + 4 ^ k)) m0 k) (nI k) = some (sm (hit a S N P d s t) (fun k => Wd a S N P d (s + 4 ^ k)) m0 N, y)
  | 0, _, _, h => by omega
  | fu + 1, k, hk, hf => by
    have hN := hR.2.2.1
    have hS := hR.2.1
    have hp := pow_le6 hN
    have hs := hg.1
    by_cases e : k = N
    · subst e
      refine ⟨nI k, ?_⟩
      unfold lpX9_planCount_139
      rw [hR.2.2.2.2.1, if_pos (nI_le (Nat.le_refl _) (by omega))]
    · cases hcl : cls a P t with
      | true =>
        have hz : ∀ n, sm (hit a S N P d s t) (fun k => Wd a S N P d (s + 4 ^ k)) m0 n = m0 := fun n => sm_none n (fun k _ => by
          unfold hit
          rw [okc0, hcl]
          cases psb true a N s k t <;> rfl)
        refine ⟨nI k, ?_⟩
        rw [hz k, hz N]
        unfold lpX9_planCount_139
        rw [hR.2.2.2.2.1, if_neg (nI_ge (by omega) (by omega)), m_isClosed hP (by omega) (by omega), ob_eq rfl, hcl, if_pos (by decide)]
      | false =>
        obtain ⟨y, ih⟩ := m_countLoop (m0 := m0) hR hP hPS hl hg ht hb hw fu (k + 1) (by omega) (by omega)
        refine ⟨y, ?_⟩
        have hsm : sm (hit a S N P d s t) (fun k => Wd a S N P d (s + 4 ^ k)) m0 (k + 1) = if hit a S N P d s t k = true then sm (hit a S N P d s t) (fun k => Wd a S N P d (s + 4 ^ k)) m0 k + Wd a S N P d (s + 4 ^ k) else sm (hit a S N P d s t) (fun k => Wd a S N P d (s + 4 ^ k)) m0 k := rfl
        rw [hsm] at ih
        have hh : hit a S N P d s t k = (psb true a N s k t && decide (gn a P 0 t k + Vd a S N P 0 0 0 d (s + 4 ^ k) = Vd a S N P 0 0 0 (d + 1) s)) := by
          unfold hit
          rw [okc0, hcl, Bool.not_false, Bool.and_true]
        rw [hh] at ih
        unfold lpX9_planCount_139
        rw [hR.2.2.2.2.1, if_neg (nI_ge (by omega) (by omega)), m_isClosed hP (by omega) (by omega), ob_eq rfl, hcl, if_neg (fun h => h rfl), m_canAt hR hl (by omega) (by omega) hg, ob_eq rfl]
        cases hps : psb true a N s k t with
        | false =>
          rw [hps, Bool.false_and, if_neg (by decide)] at ih
          rw [if_pos i0f, nI_1 k]
          exact ih
        | true =>
          have hgn := pos_step hR (by omega : k < N) hg hps
          have hgl := hgn.1
          rw [hps, Bool.true_and] at ih
          rw [if_neg i1t, p_ofTarget (x := 8) (w := 8) rfl (by omega), ob_eq rfl, if_neg (in_ok (ix_next2 t s k (by omega)) (by omega : 4096 * (t + 1) + (s + 4 ^ k) < 53248) (by omega)), clampN (ix_next2 t s k (by omega)) (by omega), hb _ hgn]
          by_cases c : gn a P 0 t k + Vd a S N P 0 0 0 d (s + 4 ^ k) = Vd a S N P 0 0 0 (d + 1) s
          · rw [decide_eq_true c, if_pos rfl] at ih
            rw [if_neg (show ¬ ¬ lg_cmp ((a (11 + 9 * k + 8)).toInt64 * (odP a P t).toInt64 + Vd a S N P 0 0 0 d (s + 4 ^ k)) (Vd a S N P 0 0 0 (d + 1) s) = 0 from fun h => h ((lg_cmp_eq _ _).mpr (by rw [← gn0]; exact c))), if_neg (in_ok (ix_to s k (by omega)) (by omega : s + 4 ^ k < 4096) (by omega)), clampN (ix_to s k (by omega)) (by omega), hw _ hgn, nI_1 k]
            exact ih
          · rw [decide_eq_false c, if_neg (by decide)] at ih
            rw [if_pos (show ¬ lg_cmp ((a (11 + 9 * k + 8)).toInt64 * (odP a P t).toInt64 + Vd a S N P 0 0 0 d (s + 4 ^ k)) (Vd a S N P 0 0 0 (d + 1) s) = 0 from fun h => c (by rw [gn0]; exact (lg_cmp_eq _ _).mp h)), nI_1 k]
            exact ih
theorem m_countRow {S N P s0 d t : Nat} {a it is sn : Nat → Int32} {best ws : Nat → Int64} (hR : RowN S N a) (hP : a 65 = nI P) (hPS : P ≤ S) (h0 : s0 < 4 ^ N) (hl : Lay true a S N s0 it is sn) (ht : t + (d + 1) = S)
    (hb : ∀ i, Gd N a s0 i → best (4096 * (t + 1) + i) = Vd a S N P 0 0 0 d i) (hb2 : ∀ i, Gd N a s0 i → best (4096 * t + i) = Vd a S N P 0 0 0 (d + 1) i) (hw : ∀ i, Gd N a s0 i → ws i = Wd a S N P d i) : ∀ (fu s : Nat) (wn : Nat → Int64), s ≤ 4096 → 4096 - s < fu → (∀ i, i < s → Gd N a s0 i → wn i = Wd a S N P (d + 1) i) →
    ∃ wn', lpX9_planCount_66 (nI t) (odP a P t).toInt64 a it is best sn ws fu (nI s) wn = some (nI 4096, wn') ∧ ∀ i, i < 4096 → Gd N a s0 i → wn' i = Wd a S N P (d + 1) i
  | 0, _, _, _, h, _ => by omega
  | fu + 1, s, wn, hs, hf, h2 => by
    have hN := hR.2.2.1
    have hS := hR.2.1
    have hp := pow_le6 hN
    by_cases e : s = 4096
    · subst e
      refine ⟨wn, ?_, h2⟩
      unfold lpX9_planCount_66
      rw [if_pos (show (4096 : Int32) ≤ nI 4096 from nI_le (Nat.le_refl 4096) (by omega))]
    · have e6 : ¬ (4096 : Int32) ≤ nI s := nI_ge (a := s) (b := 4096) (by omega) (by omega)
      have his := hl.1 s (by omega)
      by_cases cg : Gd N a s0 s
      · obtain ⟨wn', i1, i3⟩ := m_countRow hR hP hPS h0 hl ht hb hb2 hw fu (s + 1) (vp_updL wn s (Wd a S N P (d + 1) s)) (by omega) (by omega) (fun i hi hg => by
          by_cases ei : i = s
          · subst ei; exact pk_uLs
          · rw [pk_uLn ei]; exact h2 i (by omega) hg)
        refine ⟨wn', ?_, i3⟩
        obtain ⟨y, hy⟩ := m_countLoop (m0 := if Vd a S N P 0 0 0 d s = Vd a S N P 0 0 0 (d + 1) s then Wd a S N P d s else 0) hR hP hPS hl cg ht hb hw lpF 0 (by omega) (by have := lpF_big; omega)
        have hW : sm (hit a S N P d s t) (fun k => Wd a S N P d (s + 4 ^ k)) (if Vd a S N P 0 0 0 d s = Vd a S N P 0 0 0 (d + 1) s then Wd a S N P d s else 0) N = Wd a S N P (d + 1) s := by
          rw [show t = S - (d + 1) by omega]
          rfl
        unfold lpX9_planCount_66
        rw [if_neg e6, if_neg (nI_in (by omega : s < 4096) (by omega)), nI_clamp (by omega : s < 2 ^ 31), if_pos (his.mpr cg), if_neg (in_ok (ix_row t s) (by omega : 4096 * t + s < 53248) (by omega)), if_neg (in_ok (ix_row1 t s) (by omega : 4096 * (t + 1) + s < 53248) (by omega)), clampN (ix_row1 t s) (by omega), clampN (ix_row t s) (by omega), hb s cg, hb2 s cg]
        by_cases c : Vd a S N P 0 0 0 d s = Vd a S N P 0 0 0 (d + 1) s
        · rw [if_pos c] at hy hW
          rw [if_neg (show ¬ ¬ lg_cmp (Vd a S N P 0 0 0 d s) (Vd a S N P 0 0 0 (d + 1) s) = 0 from fun h => h ((lg_cmp_eq _ _).mpr c)), hw s cg, ob_eq (show lpX9_planCount_139 (nI t) (odP a P t).toInt64 (nI s) (Vd a S N P 0 0 0 (d + 1) s) a it best sn ws lpF (Wd a S N P d s) (0 : Int32) = some (sm (hit a S N P d s t) (fun k => Wd a S N P d (s + 4 ^ k)) (Wd a S N P d s) N, y) from hy), hW, nI_1 s]
          exact i1
        · rw [if_neg c] at hy hW
          rw [if_pos (show ¬ lg_cmp (Vd a S N P 0 0 0 d s) (Vd a S N P 0 0 0 (d + 1) s) = 0 from fun h => c ((lg_cmp_eq _ _).mp h)), ob_eq (show lpX9_planCount_139 (nI t) (odP a P t).toInt64 (nI s) (Vd a S N P 0 0 0 (d + 1) s) a it best sn ws lpF (0 : Int64) (0 : Int32) = some (sm (hit a S N P d s t) (fun k => Wd a S N P d (s + 4 ^ k)) 0 N, y) from hy), hW, nI_1 s]
          exact i1
      · obtain ⟨wn', i1, i3⟩ := m_countRow hR hP hPS h0 hl ht hb hb2 hw fu (s + 1) wn (by omega) (by omega) (fun i hi hg => by
          by_cases ei : i = s
          · subst ei; exact absurd hg cg
          · exact h2 i (by omega) hg)
        refine ⟨wn', ?_, i3⟩
        unfold lpX9_planCount_66
        rw [if_neg e6, if_neg (nI_in (by omega : s < 4096) (by omega)), nI_clamp (by omega : s < 2 ^ 31), if_neg (fun h => cg (his.mp h)), nI_1 s]
        exact i1
theorem m_countRows {S N P s0 : Nat} {a it is sn : Nat → Int32} {best : Nat → Int64} (hR : RowN S N a) (hP : a 65 = nI P) (hPS : P ≤ S) (h0 : s0 < 4 ^ N) (hl : Lay true a S N s0 it is sn) (hr : Rows a S N P s0 0 0 0 P best) : ∀ (fu u : Nat) (ws wn : Nat → Int64), P ≤ u → u ≤ S → u - P < fu → (∀ i, Gd N a s0 i → ws i = Wd a S N P (S - u) i) →
    ∃ y ws' wn', lpX9_planCount_44 a it is best sn fu (nI u + (-1 : Int32)) ws wn = some (y, ws', wn') ∧ ∀ i, Gd N a s0 i → ws' i = Wd a S N P (S - P) i
  | 0, _, _, _, _, _, h, _ => by omega
  | fu + 1, u, ws, wn, hu, huS, hf, hw => by
    have hN := hR.2.2.1
    have hS := hR.2.1
    have hp := pow_le6 hN
    by_cases e : u = P
    · subst e
      refine ⟨nI u + (-1 : Int32), ws, wn, ?_, hw⟩
      unfold lpX9_planCount_44
      rw [hP, if_pos (dn_lt (by omega))]
    · obtain ⟨t, rfl⟩ : ∃ t, u = t + 1 := ⟨u - 1, by omega⟩
      obtain ⟨wn1, j1, j2⟩ := m_countRow (t := t) (d := S - (t + 1)) (best := best) (ws := ws) hR hP hPS h0 hl (by omega) (fun i hi => hr (t + 1) (by omega) huS i hi) (fun i hi => by rw [hr t (by omega) (by omega) i hi, show S - (t + 1) + 1 = S - t by omega]) hw lpF 0 wn (by omega) (by have := lpF_big; omega) (fun i h => by omega)
      obtain ⟨ws1, j3, j4⟩ := m_copyW (wn := wn1) lpF 0 ws (by omega) (by have := lpF_big; omega) (fun i h => by omega)
      obtain ⟨y, ws', wn', i1, i2⟩ := m_countRows hR hP hPS h0 hl hr fu t ws1 wn1 (by omega) (by omega) (by omega) (fun i hi => by
        have hi4 := Nat.lt_of_lt_of_le hi.1 hp
        rw [j4 i hi4, j2 i hi4 hi, show S - (t + 1) + 1 = S - t by omega])
      refine ⟨y, ws', wn', ?_, i2⟩
      unfold lpX9_planCount_44
      rw [pk_m1, hP, if_neg (nI_nlt (by omega) (by omega)), m_planOdds hP (by omega) (by omega), ob_eq rfl, ob_eq (show lpX9_planCount_66 (nI t) (odP a P t).toInt64 a it is best sn ws lpF (0 : Int32) wn = _ from j1), ob_eq (show lpX9_planCount_252 wn1 lpF (0 : Int32) ws = _ from j3)]
      exact i1
theorem Kd0 {fT : Int32} : Kd 0 0 0 (-1) 1 0 (-1) fT := ⟨by omega, by omega, by omega, rfl, rfl, rfl, rfl⟩
theorem m_planCount {S N P s0 : Nat} {a tb it is sn : Nat → Int32} {best ws wn : Nat → Int64} {fT : Int32} (hi : Sit S N P s0 a) (hP : a 65 = nI P) (hm : ∀ k, k < 6 → a (69 + k) = nI (dg s0 k)) :
    ∃ tb' it' is' best' sn' ws' wn', pX9_planCount a tb it is best sn (-1 : Int32) fT ws wn = some (Wd a S N P (S - P) s0, tb', it', is', best', sn', ws', wn') := by
  obtain ⟨tb', it', is', best', sn', h1, h2, h3⟩ := m_plans (tb := tb) (it := it) (is := is) (best := best) (sn := sn) hi hP hm (Kd0 (fT := fT))
  obtain ⟨hR, hPS, hg⟩ := hi
  have hN := hR.2.2.1
  have hS := hR.2.1
  have h1S := hR.1
  have hp := pow_le6 hN
  have hF := lpF_big
  have hs0 := hg.1
  obtain ⟨ws1, o1, o2⟩ := m_ones lpF 0 ws (by omega) (by omega) (fun i h => by omega)
  obtain ⟨y, ws', wn', c1, c2⟩ := m_countRows hR hP hPS hg.1 h2 h3 lpF S ws1 wn hPS (Nat.le_refl _) (by omega) (fun i hi => by
    rw [o2 i (Nat.lt_of_lt_of_le hi.1 hp), Nat.sub_self]; rfl)
  refine ⟨tb', it', is', best', sn', ws', wn', ?_⟩
  unfold pX9_planCount
  rw [ob_eq h1, ob_eq (show lpX9_planCount_15 lpF (0 : Int32) ws = _ from o1), hR.2.2.2.1, dn_sub (by omega), ob_eq c1, ob_eq (m_stateNow hm (by omega)), if_neg (nI_in (by omega : s0 < 4096) (by omega)), nI_clamp (by omega : s0 < 2 ^ 31)]
  show some (ws' s0, _) = _
  rw [c2 s0 (gd_self hg)]
/-! the first plan -/
theorem chc_hit {a : Nat → Int32} {S N P d s t : Nat} (ht : t + (d + 1) = S) : chc a S N P d s = fa_first (hit a S N P d s t) N := by
  have : t = S - (d + 1) := by omega
  subst this
  rfl
theorem m_firstLoop {S N P s0 d t s : Nat} {a it is sn : Nat → Int32} {best : Nat → Int64} (hR : RowN S N a) (hP : a 65 = nI P) (hPS : P ≤ S) (hl : Lay true a S N s0 it is sn) (hg : Gd N a s0 s) (ht : t + (d + 1) = S)
    (hb : ∀ i, Gd N a s0 i → best (4096 * (t + 1) + i) = Vd a S N P 0 0 0 d i) (hb2 : best (4096 * t + s) = Vd a S N P 0 0 0 (d + 1) s) : ∀ (fu k : Nat), k ≤ N → N - k < fu → (∀ j, j < k → hit a S N P d s t j = false) →
    (∃ y, fa_first (hit a S N P d s t) N = N ∧ lpX9_firstOf_2 (nI t) (nI s) a it best sn fu (nI k) = some (.inl y)) ∨ (fa_first (hit a S N P d s t) N < N ∧ lpX9_firstOf_2 (nI t) (nI s) a it best sn fu (nI k) = some (.inr (nI (fa_first (hit a S N P d s t) N))))
  | 0, _, _, h, _ => by omega
  | fu + 1, k, hk, hf, hno => by
    have hN := hR.2.2.1
    have hS := hR.2.1
    have hp := pow_le6 hN
    have hs := hg.1
    by_cases e : k = N
    · subst e
      refine Or.inl ⟨nI k, first_none k hno, ?_⟩
      unfold lpX9_firstOf_2
      rw [hR.2.2.2.2.1, if_pos (nI_le (Nat.le_refl _) (by omega))]
    · cases hcl : cls a P t with
      | true =>
        refine Or.inl ⟨nI k, first_none N (fun j _ => ?_), ?_⟩
        · unfold hit
          rw [okc0, hcl]
          cases psb true a N s j t <;> rfl
        · unfold lpX9_firstOf_2
          rw [hR.2.2.2.2.1, if_neg (nI_ge (by omega) (by omega)), m_isClosed hP (by omega) (by omega), ob_eq rfl, hcl, if_pos (by decide)]
      | false =>
        have hh : hit a S N P d s t k = (psb true a N s k t && decide (gn a P 0 t k + Vd a S N P 0 0 0 d (s + 4 ^ k) = Vd a S N P 0 0 0 (d + 1) s)) := by
          unfold hit
          rw [okc0, hcl, Bool.not_false, Bool.and_true]
        have next : hit a S N P d s t k = false → lpX9_firstOf_2 (nI t) (nI s) a it best sn (fu + 1) (nI k) = lpX9_firstOf_2 (nI t) (nI s) a it best sn fu (nI (k + 1)) → _ := fun h1 h2 => by
          have ih := m_firstLoop hR hP hPS hl hg ht hb hb2 fu (k + 1) (by omega) (by omega) (fun j hj => by
            by_cases ej : j = k
            · subst ej; exact h1
            · exact hno j (by omega))
          rw [← h2] at ih
          exact ih
        cases hps : psb true a N s k t with
        | false =>
          refine next (by rw [hh, hps]; rfl) ?_
          conv => lhs; unfold lpX9_firstOf_2
          rw [hR.2.2.2.2.1, if_neg (nI_ge (by omega) (by omega)), m_isClosed hP (by omega) (by omega), ob_eq rfl, hcl, if_neg (fun h => h rfl), m_canAt hR hl (by omega) (by omega) hg, ob_eq rfl, hps, if_neg (show ¬ ¬ (if false = true then (1 : Int32) else 0) = 0 from fun h => h rfl), nI_1 k]
        | true =>
          have hgn := pos_step hR (by omega : k < N) hg hps
          have hgl := hgn.1
          have hunf : lpX9_firstOf_2 (nI t) (nI s) a it best sn (fu + 1) (nI k) = if ¬ lg_cmp ((a (11 + 9 * k + 8)).toInt64 * (odP a P t).toInt64 + Vd a S N P 0 0 0 d (s + 4 ^ k)) (Vd a S N P 0 0 0 (d + 1) s) = 0 then lpX9_firstOf_2 (nI t) (nI s) a it best sn fu (nI (k + 1)) else some (.inr (nI k)) := by
            conv => lhs; unfold lpX9_firstOf_2
            rw [hR.2.2.2.2.1, if_neg (nI_ge (by omega) (by omega)), m_isClosed hP (by omega) (by omega), ob_eq rfl, hcl, if_neg (fun h => h rfl), m_canAt hR hl (by omega) (by omega) hg, ob_eq rfl, hps, if_pos i1t, p_ofTarget (x := 8) (w := 8) rfl (by omega), ob_eq rfl, m_planOdds hP (by omega) (by omega), ob_eq rfl, if_neg (in_ok (ix_next t s k (by omega)) (by omega : 4096 * (t + 1) + s + 4 ^ k < 53248) (by omega)), if_neg (in_ok (ix_row t s) (by omega : 4096 * t + s < 53248) (by omega)), clampN (ix_next t s k (by omega)) (by omega), clampN (ix_row t s) (by omega), hb2, show best (4096 * (t + 1) + s + 4 ^ k) = Vd a S N P 0 0 0 d (s + 4 ^ k) by rw [Nat.add_assoc]; exact hb _ hgn, nI_1 k]
          by_cases c : gn a P 0 t k + Vd a S N P 0 0 0 d (s + 4 ^ k) = Vd a S N P 0 0 0 (d + 1) s
          · have hyes : hit a S N P d s t k = true := by rw [hh, hps, decide_eq_true c]; rfl
            have hlt := first_ex (show k < N by omega) hyes
            have hfirst : fa_first (hit a S N P d s t) N = k := by
              rcases Nat.lt_trichotomy (fa_first (hit a S N P d s t) N) k with h | h | h
              · have h1 := fa_first_yes _ N hlt
                rw [hno _ h] at h1
                cases h1
              · exact h
              · have h1 := fa_first_no _ N k h
                rw [hyes] at h1
                cases h1
            refine Or.inr ⟨hlt, ?_⟩
            rw [hunf, hfirst, if_neg (show ¬ ¬ lg_cmp ((a (11 + 9 * k + 8)).toInt64 * (odP a P t).toInt64 + Vd a S N P 0 0 0 d (s + 4 ^ k)) (Vd a S N P 0 0 0 (d + 1) s) = 0 from fun h => h ((lg_cmp_eq _ _).mpr (by rw [← gn0]; exact c)))]
          · refine next (by rw [hh, hps, decide_eq_false c]; rfl) ?_
            rw [hunf, if_pos (show ¬ lg_cmp ((a (11 + 9 * k + 8)).toInt64 * (odP a P t).toInt64 + Vd a S N P 0 0 0 d (s + 4 ^ k)) (Vd a S N P 0 0 0 (d + 1) s) = 0 from fun h => c (by rw [gn0]; exact (lg_cmp_eq _ _).mp h))]
/-- a choice as a number: the target, or none -/
def cI (N c : Nat) : Int32 := if c < N then nI c else -1
theorem m_firstOf {S N P s0 d t s : Nat} {a it is sn : Nat → Int32} {best : Nat → Int64} (hR : RowN S N a) (hP : a 65 = nI P) (hPS : P ≤ S) (hl : Lay true a S N s0 it is sn) (hg : Gd N a s0 s) (ht : t + (d + 1) = S) (hPt : P ≤ t) (hr : Rows a S N P s0 0 0 0 P best) : pX9_firstOf (nI t) (nI s) a it best sn = some (cI N (chc a S N P d s)) := by
  have hN := hR.2.2.1
  have h1 := m_firstLoop (best := best) hR hP hPS hl hg ht (fun i hi => by rw [hr (t + 1) (by omega) (by omega) i hi, show S - (t + 1) = d by omega]) (by rw [hr t hPt (by omega) s hg, show S - t = d + 1 by omega]) lpF 0 (by omega) (by have := lpF_big; omega) (fun j h => by omega)
  rw [chc_hit ht]
  unfold pX9_firstOf cI
  rcases h1 with ⟨y, e1, e2⟩ | ⟨e1, e2⟩
  · rw [ob_eq (show lpX9_firstOf_2 (nI t) (nI s) a it best sn lpF (0 : Int32) = _ from e2), if_neg (by omega)]
  · rw [ob_eq (show lpX9_firstOf_2 (nI t) (nI s) a it best sn lpF (0 : Int32) = _ from e2), if_pos e1]
theorem chc_gd {S N P s0 d t s : Nat} {a : Nat → Int32} (hR : RowN S N a) (hg : Gd N a s0 s) (ht : t + (d + 1) = S) : Gd N a s0 (nxt N s (chc a S N P d s)) := by
  unfold nxt
  by_cases c : chc a S N P d s < N
  · rw [if_pos c]
    rw [chc_hit ht] at c ⊢
    have h := fa_first_yes _ N c
    unfold hit at h
    rw [Bool.and_eq_true, okc0, Bool.and_eq_true] at h
    exact pos_step hR c hg h.1.1
  · rw [if_neg c]; exact hg
theorem m_walk {S N P s0 sl : Nat} {a it is sn : Nat → Int32} {best : Nat → Int64} (hR : RowN S N a) (hP : a 65 = nI P) (hPS : P ≤ S) (hl : Lay true a S N s0 it is sn) (hr : Rows a S N P s0 0 0 0 P best) (hsl : sl < S) : ∀ (fu t s : Nat), P ≤ t → t ≤ sl → sl - t < fu → Gd N a s0 s →
    ∃ s', lpX9_planned_66 (nI sl) a it best sn fu (nI s) (nI t) = some (nI s', nI sl) ∧ Gd N a s0 s' ∧ ∀ u, sl ≤ u → Fn a S N P (S - t) s / 8 ^ u % 8 = Fn a S N P (S - sl) s' / 8 ^ u % 8
  | 0, _, _, _, _, h, _ => by omega
  | fu + 1, t, s, h1, h2, hf, hg => by
    have hN := hR.2.2.1
    have hS := hR.2.1
    by_cases e : t = sl
    · subst e
      refine ⟨s, ?_, hg, fun u _ => rfl⟩
      unfold lpX9_planned_66
      rw [if_pos (nI_le (Nat.le_refl _) (by omega))]
    · obtain ⟨d, hd⟩ : ∃ d, t + (d + 1) = S := ⟨S - t - 1, by omega⟩
      have hgn := chc_gd (P := P) hR hg hd
      obtain ⟨s', i1, i2, i3⟩ := m_walk hR hP hPS hl hr hsl fu (t + 1) (nxt N s (chc a S N P d s)) (by omega) (by omega) (by omega) hgn
      refine ⟨s', ?_, i2, fun u hu => ?_⟩
      · unfold lpX9_planned_66
        rw [if_neg (nI_ge (by omega) (by omega)), m_firstOf hR hP hPS hl hg hd h1 hr, ob_eq rfl]
        unfold cI
        unfold nxt at i1
        by_cases c : chc a S N P d s < N
        · rw [if_pos c] at i1 ⊢
          rw [if_pos (nI_m1 (by omega)), ix_to s _ (by omega), nI_1 t]
          exact i1
        · rw [if_neg c] at i1 ⊢
          rw [if_neg (show ¬ ¬ (-1 : Int32) = -1 from fun h => h rfl), nI_1 t, show nI s + (0 : Int32) = nI s from Int32.add_zero _]
          exact i1
      · rw [← i3 u hu, show S - t = d + 1 by omega, show S - (t + 1) = d by omega]
        exact Fn_later hN (by omega) (by omega)
/-! the greedy choice -/
def gdy (c : Nat → Bool) (v : Nat → Int32) : Nat → Option Nat
  | 0 => none
  | k + 1 => match gdy c v k with
    | none => if c k = true then some k else none
    | some j => if c k = true ∧ v j < v k then some k else some j
def oI : Option Nat → Int32
  | none => -1
  | some k => nI k
theorem gdy_spec {c : Nat → Bool} {v : Nat → Int32} : ∀ {n k : Nat}, gdy c v n = some k → k < n ∧ c k = true
  | 0, _, h => by cases h
  | n + 1, k, h => by
    have e : gdy c v (n + 1) = match gdy c v n with
      | none => if c n = true then some n else none
      | some j => if c n = true ∧ v j < v n then some n else some j := rfl
    rw [e] at h
    cases hg : gdy c v n with
    | none =>
      rw [hg] at h
      by_cases hc : c n = true
      · have h' : (if c n = true then some n else none) = some k := h
        rw [if_pos hc] at h'
        cases h'
        exact ⟨by omega, hc⟩
      · have h' : (if c n = true then some n else none) = some k := h
        rw [if_neg hc] at h'
        cases h'
    | some j =>
      rw [hg] at h
      have h' : (if c n = true ∧ v j < v n then some n else some j) = some k := h
      by_cases hc : c n = true ∧ v j < v n
      · rw [if_pos hc] at h'
        cases h'
        exact ⟨by omega, hc.1⟩
      · rw [if_neg hc] at h'
        cases h'
        have := gdy_spec hg
        exact ⟨by omega, this.2⟩
def vl (a : Nat → Int32) (k : Nat) : Int32 := a (11 + 9 * k + 8)
theorem m_greedyLoop {S N s0 t s : Nat} {a it is sn : Nat → Int32} (hR : RowN S N a) (hl : Lay true a S N s0 it is sn) (hg : Gd N a s0 s) (ht : t < S) : ∀ (fu k : Nat), k ≤ N → N - k < fu → lpX9_greedyAt_5 (nI t) (nI s) a it sn fu (oI (gdy (fun k => psb true a N s k t) (vl a) k)) (nI k) = some (oI (gdy (fun k => psb true a N s k t) (vl a) N), nI N)
  | 0, _, _, h => by omega
  | fu + 1, k, hk, hf => by
    have hN := hR.2.2.1
    unfold lpX9_greedyAt_5
    rw [hR.2.2.2.2.1]
    by_cases e : k = N
    · subst e
      rw [if_pos (nI_le (Nat.le_refl _) (by omega))]
    · have ih := m_greedyLoop hR hl hg ht fu (k + 1) (by omega) (by omega)
      have e2 : gdy (fun k => psb true a N s k t) (vl a) (k + 1) = match gdy (fun k => psb true a N s k t) (vl a) k with
        | none => if psb true a N s k t = true then some k else none
        | some j => if psb true a N s k t = true ∧ vl a j < vl a k then some k else some j := rfl
      rw [e2] at ih
      rw [if_neg (nI_ge (by omega) (by omega)), m_canAt hR hl (by omega) ht hg, ob_eq rfl]
      cases hps : psb true a N s k t with
      | false =>
        rw [if_pos i0f, nI_1 k]
        cases hgd : gdy (fun k => psb true a N s k t) (vl a) k with
        | none =>
          rw [hgd, hps] at ih
          exact ih
        | some j =>
          rw [hgd, hps] at ih
          have ih' : lpX9_greedyAt_5 (nI t) (nI s) a it sn fu (oI (if false = true ∧ vl a j < vl a k then some k else some j)) (nI (k + 1)) = _ := ih
          rw [if_neg (fun q => by cases q.1)] at ih'
          exact ih'
      | true =>
        rw [if_neg i1t]
        cases hgd : gdy (fun k => psb true a N s k t) (vl a) k with
        | none =>
          rw [hgd, hps] at ih
          rw [if_pos (show oI none = (-1 : Int32) from rfl), nI_1 k]
          exact ih
        | some j =>
          have hj := (gdy_spec hgd).1
          rw [hgd, hps] at ih
          have ih' : lpX9_greedyAt_5 (nI t) (nI s) a it sn fu (oI (if true = true ∧ vl a j < vl a k then some k else some j)) (nI (k + 1)) = _ := ih
          rw [if_neg (show ¬ oI (some j) = (-1 : Int32) from nI_m1 (by omega)), p_ofTarget (x := 8) (w := 8) rfl (by omega), ob_eq rfl, show oI (some j) = nI j from rfl, p_ofTarget (x := 8) (w := 8) rfl (by omega), ob_eq rfl, nI_1 k]
          by_cases c : a (11 + 9 * k + 8) ≤ a (11 + 9 * j + 8)
          · rw [if_pos c]
            rw [if_neg (fun q => by have q2 : a (11 + 9 * j + 8) < a (11 + 9 * k + 8) := q.2; rw [fa_lt] at q2; rw [fa_le] at c; omega)] at ih'
            exact ih'
          · rw [if_neg c]
            rw [if_pos ⟨rfl, show a (11 + 9 * j + 8) < a (11 + 9 * k + 8) from fa_of_nle c⟩] at ih'
            exact ih'
theorem m_greedyAt {S N s0 t s : Nat} {a it is sn : Nat → Int32} (hR : RowN S N a) (hl : Lay true a S N s0 it is sn) (hg : Gd N a s0 s) (ht : t < S) : pX9_greedyAt (nI t) (nI s) a it sn = some (oI (gdy (fun k => psb true a N s k t) (vl a) N)) := by
  have hN := hR.2.2.1
  unfold pX9_greedyAt
  rw [ob_eq (show lpX9_greedyAt_5 (nI t) (nI s) a it sn lpF (-1 : Int32) (0 : Int32) = _ from m_greedyLoop hR hl hg ht lpF 0 (by omega) (by have := lpF_big; omega))]
theorem c_dearLoop {S N : Nat} {a f : Nat → Int32} {c : Nat → Bool} {mask : Int32} (hR : RowN S N a) (hu : Nu N a f) (hc : ∀ k, k < N → bt mask k = c k) : ∀ (fu k : Nat), k ≤ N → N - k < fu → lpX2_dearest_4 mask (nI N) f fu (oI (gdy c (vl a) k)) (nI k) = some (oI (gdy c (vl a) N), nI N)
  | 0, _, _, h => by omega
  | fu + 1, k, hk, hf => by
    have hN := hR.2.2.1
    unfold lpX2_dearest_4
    by_cases e : k = N
    · subst e
      rw [if_pos (nI_le (Nat.le_refl _) (by omega))]
    · have ih := c_dearLoop hR hu hc fu (k + 1) (by omega) (by omega)
      have e2 : gdy c (vl a) (k + 1) = match gdy c (vl a) k with
        | none => if c k = true then some k else none
        | some j => if c k = true ∧ vl a j < vl a k then some k else some j := rfl
      rw [e2] at ih
      rw [if_neg (nI_ge (by omega) (by omega)), p_has _ (by omega : k < 32), ob_eq rfl, hc k (by omega)]
      cases hps : c k with
      | false =>
        rw [if_pos i0f, nI_1 k]
        cases hgd : gdy c (vl a) k with
        | none =>
          rw [hgd, hps] at ih
          exact ih
        | some j =>
          rw [hgd, hps] at ih
          have ih' : lpX2_dearest_4 mask (nI N) f fu (oI (if false = true ∧ vl a j < vl a k then some k else some j)) (nI (k + 1)) = _ := ih
          rw [if_neg (fun q => by cases q.1)] at ih'
          exact ih'
      | true =>
        rw [if_neg i1t]
        cases hgd : gdy c (vl a) k with
        | none =>
          rw [hgd, hps] at ih
          rw [if_pos (show oI none = (-1 : Int32) from rfl), nI_1 k]
          exact ih
        | some j =>
          have hj := (gdy_spec hgd).1
          rw [hgd, hps] at ih
          have ih' : lpX2_dearest_4 mask (nI N) f fu (oI (if true = true ∧ vl a j < vl a k then some k else some j)) (nI (k + 1)) = _ := ih
          rw [if_neg (show ¬ oI (some j) = (-1 : Int32) from nI_m1 (by omega)), c_number (x := 8) (w := 8) hu hN (by omega) rfl (by omega), ob_eq rfl, show oI (some j) = nI j from rfl, c_number (x := 8) (w := 8) hu hN (by omega) rfl (by omega), ob_eq rfl, nI_1 k]
          by_cases cc : a (11 + 9 * k + 8) ≤ a (11 + 9 * j + 8)
          · rw [if_pos cc]
            rw [if_neg (fun q => by have q2 : a (11 + 9 * j + 8) < a (11 + 9 * k + 8) := q.2; rw [fa_lt] at q2; rw [fa_le] at cc; omega)] at ih'
            exact ih'
          · rw [if_neg cc]
            rw [if_pos ⟨rfl, show a (11 + 9 * j + 8) < a (11 + 9 * k + 8) from fa_of_nle cc⟩] at ih'
            exact ih'
theorem c_dearest {S N : Nat} {a f : Nat → Int32} {c : Nat → Bool} {mask : Int32} (hR : RowN S N a) (hu : Nu N a f) (hc : ∀ k, k < N → bt mask k = c k) : pX2_dearest mask (nI N) f = some (oI (gdy c (vl a) N)) := by
  have hN := hR.2.2.1
  unfold pX2_dearest
  rw [ob_eq (show lpX2_dearest_4 mask (nI N) f lpF (-1 : Int32) (0 : Int32) = _ from c_dearLoop hR hu hc lpF 0 (by omega) (by have := lpF_big; omega))]
/-- both greedy plans -/
theorem greedy_both {S N P s0 : Nat} {a f od sn it is sn2 : Nat → Int32} (hR : RowN S N a) (hP : a 65 = nI P) (hPS : P ≤ S) (hu : Nu N a f) (ho : ∀ t, t < S → od t = odF a t) (hsn : ∀ t, t < S → sn t = msk (obs a · t) N) (hl : Lay true a S N s0 it is sn2) : ∀ (fu t s : Nat) (g : Int64), t ≤ S → S - t < fu → Gd N a s0 s →
    ∃ g' s', lpX4_valueOfGreedy_24 (0 : Int32) (nI S) (nI N) (tmk a N) f sn od (nI P) (a 67) (a 68) fu g (nI s) (nI t) = some (g', s', nI S) ∧ lpX9_greedyValue_26 a it sn2 fu (nI s) g (nI t) = some (s', g', nI S)
  | 0, _, _, _, _, h, _ => by omega
  | fu + 1, t, s, g, ht, hf, hg => by
    have hN := hR.2.2.1
    have hS := hR.2.1
    have hp := pow_le6 hN
    have hs := hg.1
    by_cases e : t = S
    · subst e
      refine ⟨g, nI s, ?_, ?_⟩
      · unfold lpX4_valueOfGreedy_24
        rw [if_pos (nI_le (Nat.le_refl _) (by omega))]
      · unfold lpX9_greedyValue_26
        rw [hR.2.2.2.1, if_pos (nI_le (Nat.le_refl _) (by omega))]
    · have htS : t < S := by omega
      have hbits : ∀ k, k < N → bt (msk (obs a · t) N &&& wm a N (itn (thr a N) (fun g => trn a s g N)) s) k = psb true a N s k t := fun k hk => by
        rw [b_and, msk_bt _ N (by omega) k (by omega), decide_eq_true hk, Bool.true_and, wm_bt hN hk]
        rfl
      have hc1 : ∀ g : Int64, lpX4_valueOfGreedy_24 (0 : Int32) (nI S) (nI N) (tmk a N) f sn od (nI P) (a 67) (a 68) (fu + 1) g (nI s) (nI t) = if cls a P t = true then lpX4_valueOfGreedy_24 (0 : Int32) (nI S) (nI N) (tmk a N) f sn od (nI P) (a 67) (a 68) fu g (nI s) (nI (t + 1)) else match gdy (fun k => psb true a N s k t) (vl a) N with
          | none => lpX4_valueOfGreedy_24 (0 : Int32) (nI S) (nI N) (tmk a N) f sn od (nI P) (a 67) (a 68) fu g (nI s) (nI (t + 1))
          | some k => lpX4_valueOfGreedy_24 (0 : Int32) (nI S) (nI N) (tmk a N) f sn od (nI P) (a 67) (a 68) fu (g + (vl a k).toInt64 * (odP a P t).toInt64) (nI (s + 4 ^ k)) (nI (t + 1)) := fun g => by
        conv => lhs; unfold lpX4_valueOfGreedy_24
        rw [if_neg (nI_ge htS (by omega)), c_teamsInTurn hR hu (by omega), ob_eq rfl, c_targetsIn hS hsn (by omega), ob_eq rfl, if_pos htS, c_wanting hR hu (by omega), ob_eq rfl, cp_cloudy (by omega) (by omega), ob_eq rfl]
        cases hcl : cls a P t with
        | true => rw [if_neg i1t, if_pos rfl, nI_1 t]
        | false =>
          rw [if_pos i0f, if_neg (by decide), c_dearest hR hu hbits, ob_eq rfl]
          cases hgd : gdy (fun k => psb true a N s k t) (vl a) N with
          | none => rw [if_pos (show oI none = (-1 : Int32) from rfl), nI_1 t]
          | some k =>
            have hk := (gdy_spec hgd).1
            have hga := cp_gain (kd := 0) hR hu ho hPS htS hk (by omega)
            rw [gn0] at hga
            rw [if_neg (show ¬ oI (some k) = (-1 : Int32) from nI_m1 (by omega)), show oI (some k) = nI k from rfl]
            rw [show pX4_gain (nI k) (nI t) (0 : Int32) (nI S) f od (nI P) (a 67) = _ from hga, ob_eq rfl, p_oneOf (by omega), ob_eq rfl, nI_add, nI_1 t]
            rfl
      have hc2 : ∀ g : Int64, lpX9_greedyValue_26 a it sn2 (fu + 1) (nI s) g (nI t) = if cls a P t = true then lpX9_greedyValue_26 a it sn2 fu (nI s) g (nI (t + 1)) else match gdy (fun k => psb true a N s k t) (vl a) N with
          | none => lpX9_greedyValue_26 a it sn2 fu (nI s) g (nI (t + 1))
          | some k => lpX9_greedyValue_26 a it sn2 fu (nI (s + 4 ^ k)) (g + (vl a k).toInt64 * (odP a P t).toInt64) (nI (t + 1)) := fun g => by
        conv => lhs; unfold lpX9_greedyValue_26
        rw [hR.2.2.2.1, if_neg (nI_ge htS (by omega)), m_isClosed hP (by omega) (by omega), ob_eq rfl]
        cases hcl : cls a P t with
        | true => rw [if_neg i1t, if_pos rfl, nI_1 t]
        | false =>
          rw [if_pos i0f, if_neg (by decide), m_greedyAt hR hl hg htS, ob_eq rfl]
          cases hgd : gdy (fun k => psb true a N s k t) (vl a) N with
          | none => rw [if_neg (show ¬ ¬ oI none = (-1 : Int32) from fun h => h rfl), nI_1 t]
          | some k =>
            have hk := (gdy_spec hgd).1
            rw [if_pos (show ¬ oI (some k) = (-1 : Int32) from nI_m1 (by omega)), show oI (some k) = nI k from rfl, p_ofTarget (x := 8) (w := 8) rfl (by omega), ob_eq rfl, m_planOdds hP (by omega) (by omega), ob_eq rfl, ix_to s k (by omega), nI_1 t]
            rfl
      rw [hc1, hc2]
      cases hcl : cls a P t with
      | true =>
        rw [if_pos rfl, if_pos rfl]
        exact greedy_both hR hP hPS hu ho hsn hl fu (t + 1) s g (by omega) (by omega) hg
      | false =>
        rw [if_neg (by decide), if_neg (by decide)]
        cases hgd : gdy (fun k => psb true a N s k t) (vl a) N with
        | none => exact greedy_both hR hP hPS hu ho hsn hl fu (t + 1) s g (by omega) (by omega) hg
        | some k =>
          obtain ⟨hk, hps⟩ := gdy_spec hgd
          exact greedy_both hR hP hPS hu ho hsn hl fu (t + 1) (s + 4 ^ k) _ (by omega) (by omega) (pos_step hR hk hg hps)
