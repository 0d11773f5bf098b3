/-! MEAN VALUES: one recursion, and the reference's rows -/
def mix (p : Int32) (x y : Int64) : Int64 := ((p.toInt64 * x) + ((((100 : Int32) - p)).toInt64 * y)) / (100 : Int64)
theorem hundred {p : Int32} (h : rg 0 100 p) : (((100 : Int32) - p)).toInt64 = (100 : Int64) - p.toInt64 := by
  unfold rg at h
  apply Int64.toInt_inj.mp
  have e : (100 : Int32).toInt = 100 := by decide
  have e2 : (100 : Int64).toInt = 100 := by decide
  rw [Int32.toInt_toInt64, fb_subI (by rw [e]; omega) (by rw [e]; omega), fb_subL (by rw [e2, Int32.toInt_toInt64]; omega) (by rw [e2, Int32.toInt_toInt64]; omega), Int32.toInt_toInt64, e, e2]
theorem mix_m {p : Int32} (h : rg 0 100 p) (x y : Int64) : ((p.toInt64 * x) + (((100 : Int64) - p.toInt64) * y)) / (100 : Int64) = mix p x y := by
  unfold mix
  rw [hundred h]
theorem mix_0 (p : Int32) : mix p 0 0 = 0 := by
  unfold mix
  rw [Int64.mul_zero, Int64.mul_zero, Int64.add_zero, Int64.zero_div]
theorem mix_same {p : Int32} (h : rg 0 100 p) {e : Int64} (he : e = 0 ∨ e = 1000000) : mix p e e = e := by
  have h1 : ∀ j : Fin 101, mix (nI j.val) 0 0 = 0 ∧ mix (nI j.val) 1000000 1000000 = 1000000 := by decide +kernel
  unfold rg at h
  obtain ⟨j, hj, rfl⟩ := nI_of (x := p) (by rw [fa_lt]; show ¬ _ < (0 : Int); omega)
  rw [nI_toInt hj] at h
  have := h1 ⟨j, by omega⟩
  rcases he with rfl | rfl
  · exact this.1
  · exact this.2
def NB (p : Int32) (X : Nat → Int64 × Int64) (s : Nat) : Int64 := mix p (X s).1 (X s).2
/-- what an exposure gives -/
def vE (a : Nat → Int32) (X : Nat → Int64 × Int64) (s k : Nat) : Int64 := (1000000 : Int64) * (vl a k).toInt64 + NB (a 8) X (s + 4 ^ k)
/-- the mean values of d slots, under a clear and a cloudy sky -/
def Md (a : Nat → Int32) (S N : Nat) : Nat → Nat → Int64 × Int64
  | 0, _ => (0, 0)
  | d + 1, s => (bst (fun k => psb true a N s k (S - (d + 1))) (fun k => vE a (Md a S N d) s k) (NB (a 8) (Md a S N d) s) N, NB (a 9) (Md a S N d) s)
/-- the best decision: the first target that reaches the mean value, N if there is none -/
def dec (a : Nat → Int32) (S N d s : Nat) : Nat := fa_first (fun k => psb true a N s k (S - (d + 1)) && decide (vE a (Md a S N d) s k = (Md a S N (d + 1) s).1)) N
def Eg (a : Nat → Int32) (g : Int32) (tg s : Nat) : Int64 := if g = 1 ∧ nI (dg s tg) = a (11 + 9 * tg + 7) then 1000000 else 0
def own (a : Nat → Int32) (g gt : Int32) (k : Nat) : Int64 := if g = 2 then (1000000 : Int64) * (vl a k).toInt64 else if g = 0 ∧ nI k = gt then 1000000 else 0
/-- the choice that is followed -/
def fol (a : Nat → Int32) (S N : Nat) (g : Int32) (d s : Nat) : Option Nat := if g = 2 then gdy (fun k => psb true a N s k (S - (d + 1))) (vl a) N else if dec a S N d s < N then some (dec a S N d s) else none
def Gv (a : Nat → Int32) (S N : Nat) (g gt : Int32) (tg : Nat) : Nat → Nat → Int64 × Int64
  | 0, s => (Eg a g tg s, Eg a g tg s)
  | d + 1, s => (match fol a S N g d s with
      | none => NB (a 8) (Gv a S N g gt tg d) s
      | some k => own a g gt k + NB (a 8) (Gv a S N g gt tg d) (s + 4 ^ k), NB (a 9) (Gv a S N g gt tg d) s)
def MC (a : Nat → Int32) (S N s0 t : Nat) (cl cd : Nat → Int64) : Prop := t + 1 < S → ∀ i, Gd N a s0 i → cl i = (Md a S N (S - (t + 1)) i).1 ∧ cd i = (Md a S N (S - (t + 1)) i).2
def GC (a : Nat → Int32) (S N s0 : Nat) (g gt : Int32) (tg t : Nat) (gc gy : Nat → Int64) : Prop := t + 1 < S → ∀ i, Gd N a s0 i → gc i = (Gv a S N g gt tg (S - (t + 1)) i).1 ∧ gy i = (Gv a S N g gt tg (S - (t + 1)) i).2
theorem p89 {S N : Nat} {a : Nat → Int32} (hR : RowN S N a) : rg 0 100 (a 8) ∧ rg 0 100 (a 9) := ⟨hR.2.2.2.2.2.2.2.2.2.2.2.2.1, hR.2.2.2.2.2.2.2.2.2.2.2.2.2.1⟩
theorem m_behind {S N s0 d t s : Nat} {a : Nat → Int32} {cl cd : Nat → Int64} (hR : RowN S N a) (hc : MC a S N s0 t cl cd) (ht : t + (d + 1) = S) (hg : Gd N a s0 s) (b : Bool) {x : Int32} (hx : x = if b then 1 else 0) : pX9_behindSky (nI t) x (nI s) a cl cd = some (NB (if b then a 8 else a 9) (Md a S N d) s) := by
  have hN := hR.2.2.1
  have hS := hR.2.1
  have hp := pow_le6 hN
  have hs := hg.1
  unfold pX9_behindSky
  rw [hR.2.2.2.1, nI_1 t]
  by_cases c : t + 1 < S
  · obtain ⟨h1, h2⟩ := hc c s hg
    rw [show S - (t + 1) = d by omega] at h1 h2
    rw [if_pos (nI_lt c (by omega)), if_neg (nI_in (by omega : s < 4096) (by omega)), if_neg (nI_in (by omega : s < 4096) (by omega)), nI_clamp (by omega : s < 2 ^ 31), h1, h2, mix_m (p89 hR).1, mix_m (p89 hR).2, hx]
    cases b <;> rfl
  · have : d = 0 := by omega
    subst this
    rw [if_neg (nI_nlt (by omega) (by omega))]
    show _ = some (mix _ (0 : Int64) (0 : Int64))
    rw [mix_0]
theorem m_behind1 {S N s0 d t s : Nat} {a : Nat → Int32} {cl cd : Nat → Int64} (hR : RowN S N a) (hc : MC a S N s0 t cl cd) (ht : t + (d + 1) = S) (hg : Gd N a s0 s) : pX9_behindSky (nI t) 1 (nI s) a cl cd = some (NB (a 8) (Md a S N d) s) := m_behind hR hc ht hg true rfl
theorem m_behind0 {S N s0 d t s : Nat} {a : Nat → Int32} {cl cd : Nat → Int64} (hR : RowN S N a) (hc : MC a S N s0 t cl cd) (ht : t + (d + 1) = S) (hg : Gd N a s0 s) : pX9_behindSky (nI t) 0 (nI s) a cl cd = some (NB (a 9) (Md a S N d) s) := m_behind hR hc ht hg false rfl
theorem m_withExp {S N s0 d t s k : Nat} {a : Nat → Int32} {cl cd : Nat → Int64} (hR : RowN S N a) (hc : MC a S N s0 t cl cd) (ht : t + (d + 1) = S) (hk : k < N) (hg : Gd N a s0 (s + 4 ^ k)) : pX9_withExposure (nI k) (nI t) (nI s) a cl cd = some (vE a (Md a S N d) s k) := by
  have hN := hR.2.2.1
  unfold pX9_withExposure
  rw [p_ofTarget (x := 8) (w := 8) rfl (by omega), ob_eq rfl, ix_to s k (by omega), m_behind1 hR hc ht hg, ob_eq rfl]
  rfl
theorem m_clearLoop {S N s0 d t s : Nat} {a it is sn : Nat → Int32} {cl cd : Nat → Int64} {m0 : Int64} (hR : RowN S N a) (hl : Lay true a S N s0 it is sn) (hc : MC a S N s0 t cl cd) (ht : t + (d + 1) = S) (hg : Gd N a s0 s) : ∀ (fu k : Nat), k ≤ N → N - k < fu → lpX9_clearIn_11 (nI t) (nI s) a it sn cl cd fu (bst (fun k => psb true a N s k t) (fun k => vE a (Md a S N d) s k) m0 k) (nI k) = some (bst (fun k => psb true a N s k t) (fun k => vE a (Md a S N d) s k) m0 N, nI N)
  | 0, _, _, h => by omega
  | fu + 1, k, hk, hf => by
    have hN := hR.2.2.1
    unfold lpX9_clearIn_11
    rw [hR.2.2.2.2.1]
    by_cases e : k = N
    · subst e
      rw [if_pos (nI_le (Nat.le_refl _) (by omega))]
    · have ih := m_clearLoop (m0 := m0) hR hl hc ht hg fu (k + 1) (by omega) (by omega)
      have e2 : bst (fun k => psb true a N s k t) (fun k => vE a (Md a S N d) s k) m0 (k + 1) = if psb true a N s k t = true ∧ bst (fun k => psb true a N s k t) (fun k => vE a (Md a S N d) s k) m0 k < vE a (Md a S N d) s k then vE a (Md a S N d) s k else bst (fun k => psb true a N s k t) (fun k => vE a (Md a S N d) s k) m0 k := rfl
      rw [e2] at ih
      rw [if_neg (nI_ge (by omega) (by omega)), m_canAt hR hl (by omega) (by omega) hg, ob_eq rfl]
      cases hps : psb true a N s k t with
      | false =>
        rw [hps, if_neg (fun q => by cases q.1)] at ih
        rw [if_neg (show ¬ ¬ (if false = true then (1 : Int32) else 0) = 0 from fun h => h rfl), nI_1 k]
        exact ih
      | true =>
        rw [hps] at ih
        rw [if_pos i1t, m_withExp hR hc ht (by omega) (pos_step hR (by omega) hg hps), ob_eq rfl, nI_1 k]
        by_cases c : bst (fun k => psb true a N s k t) (fun k => vE a (Md a S N d) s k) m0 k < vE a (Md a S N d) s k
        · rw [if_pos ⟨rfl, c⟩] at ih
          rw [if_neg (by rw [lg_cmp_le, fa_le64]; rw [fa_lt64] at c; omega)]
          exact ih
        · rw [if_neg (fun q => c q.2)] at ih
          rw [if_pos (by rw [lg_cmp_le, fa_le64]; rw [fa_lt64] at c; omega)]
          exact ih
theorem m_clearIn {S N s0 d t s : Nat} {a it is sn : Nat → Int32} {cl cd : Nat → Int64} (hR : RowN S N a) (hl : Lay true a S N s0 it is sn) (hc : MC a S N s0 t cl cd) (ht : t + (d + 1) = S) (hg : Gd N a s0 s) : pX9_clearIn (nI t) (nI s) a it sn cl cd = some (Md a S N (d + 1) s).1 := by
  have hN := hR.2.2.1
  unfold pX9_clearIn
  rw [m_behind1 hR hc ht hg, ob_eq rfl, ob_eq (show lpX9_clearIn_11 (nI t) (nI s) a it sn cl cd lpF (NB (a 8) (Md a S N d) s) (0 : Int32) = _ from m_clearLoop hR hl hc ht hg lpF 0 (by omega) (by have := lpF_big; omega))]
  have : t = S - (d + 1) := by omega
  subst this
  rfl
/-- what reaches the mean value -/
def hitM (a : Nat → Int32) (S N d s t k : Nat) : Bool := psb true a N s k t && decide (vE a (Md a S N d) s k = (Md a S N (d + 1) s).1)
theorem dec_hit {a : Nat → Int32} {S N d s t : Nat} (ht : t + (d + 1) = S) : dec a S N d s = fa_first (hitM a S N d s t) N := by
  have : t = S - (d + 1) := by omega
  subst this
  rfl
theorem m_decLoop {S N s0 d t s : Nat} {a it is sn : Nat → Int32} {cl cd : Nat → Int64} (hR : RowN S N a) (hl : Lay true a S N s0 it is sn) (hc : MC a S N s0 t cl cd) (ht : t + (d + 1) = S) (hg : Gd N a s0 s) : ∀ (fu k : Nat), k ≤ N → N - k < fu → (∀ j, j < k → hitM a S N d s t j = false) →
    (∃ y, fa_first (hitM a S N d s t) N = N ∧ lpX9_decisionAt_10 (nI t) (nI s) (Md a S N (d + 1) s).1 a it sn cl cd fu (nI k) = some (.inl y)) ∨ (fa_first (hitM a S N d s t) N < N ∧ lpX9_decisionAt_10 (nI t) (nI s) (Md a S N (d + 1) s).1 a it sn cl cd fu (nI k) = some (.inr (nI (fa_first (hitM a S N d s t) N))))
  | 0, _, _, h, _ => by omega
  | fu + 1, k, hk, hf, hno => by
    have hN := hR.2.2.1
    by_cases e : k = N
    · subst e
      refine Or.inl ⟨nI k, first_none k hno, ?_⟩
      unfold lpX9_decisionAt_10
      rw [hR.2.2.2.2.1, if_pos (nI_le (Nat.le_refl _) (by omega))]
    · have next : hitM a S N d s t k = false → lpX9_decisionAt_10 (nI t) (nI s) (Md a S N (d + 1) s).1 a it sn cl cd (fu + 1) (nI k) = lpX9_decisionAt_10 (nI t) (nI s) (Md a S N (d + 1) s).1 a it sn cl cd fu (nI (k + 1)) → _ := fun h1 h2 => by
        have ih := m_decLoop hR hl hc ht hg fu (k + 1) (by omega) (by omega) (fun j hj => by
          by_cases ej : j = k
          · subst ej; exact h1
          · exact hno j (by omega))
        rw [← h2] at ih
        exact ih
      cases hps : psb true a N s k t with
      | false =>
        refine next (by unfold hitM; rw [hps]; rfl) ?_
        conv => lhs; unfold lpX9_decisionAt_10
        rw [hR.2.2.2.2.1, if_neg (nI_ge (by omega) (by omega)), m_canAt hR hl (by omega) (by omega) hg, ob_eq rfl, hps, if_pos i0f, nI_1 k]
      | true =>
        have hunf : lpX9_decisionAt_10 (nI t) (nI s) (Md a S N (d + 1) s).1 a it sn cl cd (fu + 1) (nI k) = if ¬ lg_cmp (vE a (Md a S N d) s k) (Md a S N (d + 1) s).1 = 0 then lpX9_decisionAt_10 (nI t) (nI s) (Md a S N (d + 1) s).1 a it sn cl cd fu (nI (k + 1)) else some (.inr (nI k)) := by
          conv => lhs; unfold lpX9_decisionAt_10
          rw [hR.2.2.2.2.1, if_neg (nI_ge (by omega) (by omega)), m_canAt hR hl (by omega) (by omega) hg, ob_eq rfl, hps, if_neg i1t, m_withExp hR hc ht (by omega) (pos_step hR (by omega) hg hps), ob_eq rfl, nI_1 k]
        by_cases c : vE a (Md a S N d) s k = (Md a S N (d + 1) s).1
        · have hyes : hitM a S N d s t k = true := by unfold hitM; rw [hps, decide_eq_true c]; rfl
          have hlt := first_ex (show k < N by omega) hyes
          have hfirst : fa_first (hitM a S N d s t) N = k := by
            rcases Nat.lt_trichotomy (fa_first (hitM a S N d s t) N) k with h | h | h
            · have h1 := fa_first_yes _ N hlt
              rw [hno _ h] at h1
              cases h1
            · exact h
            · have h1 := fa_first_no _ N k h
              rw [hyes] at h1
              cases h1
          refine Or.inr ⟨hlt, ?_⟩
          rw [hunf, hfirst, if_neg (fun h => h ((lg_cmp_eq _ _).mpr c))]
        · refine next (by unfold hitM; rw [hps, decide_eq_false c]; rfl) ?_
          rw [hunf, if_pos (fun h => c ((lg_cmp_eq _ _).mp h))]
theorem m_decisionAt {S N s0 d t s : Nat} {a it is sn : Nat → Int32} {cl cd : Nat → Int64} (hR : RowN S N a) (hl : Lay true a S N s0 it is sn) (hc : MC a S N s0 t cl cd) (ht : t + (d + 1) = S) (hg : Gd N a s0 s) : pX9_decisionAt (nI t) (nI s) a it sn cl cd = some (cI N (dec a S N d s)) := by
  have hN := hR.2.2.1
  have h1 := m_decLoop hR hl hc ht hg lpF 0 (by omega) (by have := lpF_big; omega) (fun j h => by omega)
  rw [dec_hit ht]
  unfold pX9_decisionAt cI
  rw [m_clearIn hR hl hc ht hg, ob_eq rfl]
  rcases h1 with ⟨y, e1, e2⟩ | ⟨e1, e2⟩
  · rw [ob_eq (show lpX9_decisionAt_10 (nI t) (nI s) (Md a S N (d + 1) s).1 a it sn cl cd lpF (0 : Int32) = _ from e2), if_neg (by omega)]
  · rw [ob_eq (show lpX9_decisionAt_10 (nI t) (nI s) (Md a S N (d + 1) s).1 a it sn cl cd lpF (0 : Int32) = _ from e2), if_pos e1]
theorem dec_psb {S N s0 d t s : Nat} {a : Nat → Int32} (hR : RowN S N a) (ht : t + (d + 1) = S) (hg : Gd N a s0 s) (h : dec a S N d s < N) : psb true a N s (dec a S N d s) t = true := by
  rw [dec_hit ht] at h ⊢
  have h2 := fa_first_yes _ N h
  unfold hitM at h2
  rw [Bool.and_eq_true] at h2
  exact h2.1
theorem fol_psb {S N s0 d t s k : Nat} {a : Nat → Int32} {g : Int32} (hR : RowN S N a) (ht : t + (d + 1) = S) (hg : Gd N a s0 s) (h : fol a S N g d s = some k) : k < N ∧ psb true a N s k t = true := by
  unfold fol at h
  by_cases c : g = 2
  · rw [if_pos c] at h
    have h2 := gdy_spec h
    rw [show S - (d + 1) = t by omega] at h2
    exact h2
  · rw [if_neg c] at h
    by_cases c2 : dec a S N d s < N
    · rw [if_pos c2] at h
      cases h
      exact ⟨c2, dec_psb hR ht hg c2⟩
    · rw [if_neg c2] at h
      cases h
def Hg (g gt : Int32) (tg : Nat) : Prop := tg < 6 ∧ (g = 1 → gt = nI tg)
theorem m_atEnd {S N s0 s tg : Nat} {a : Nat → Int32} {g gt : Int32} (hR : RowN S N a) (hg : Gd N a s0 s) (hh : Hg g gt tg) : pX9_givesAtEnd (nI s) a g gt = some (Eg a g tg s) := by
  have hN := hR.2.2.1
  have hp := pow_le6 hN
  have hs := hg.1
  have ht := hh.1
  unfold pX9_givesAtEnd Eg
  by_cases c : g = 1
  · rw [if_neg (show ¬ ¬ g = 1 from fun h => h c), hh.2 c, p_madeIn (by omega) (by omega), ob_eq rfl, p_ofTarget (x := 7) (w := 7) rfl (by omega), ob_eq rfl]
    by_cases c2 : nI (dg s tg) = a (11 + 9 * tg + 7)
    · rw [if_neg (show ¬ ¬ nI (dg s tg) = a (11 + 9 * tg + 7) from fun h => h c2), if_pos (show g = 1 ∧ nI (dg s tg) = a (11 + 9 * tg + 7) from ⟨c, c2⟩)]
    · rw [if_pos c2, if_neg (show ¬ (g = 1 ∧ nI (dg s tg) = a (11 + 9 * tg + 7)) from fun q => c2 q.2)]
  · rw [if_pos c, if_neg (show ¬ (g = 1 ∧ nI (dg s tg) = a (11 + 9 * tg + 7)) from fun q => c q.1)]
theorem Eg_01 {a : Nat → Int32} {g : Int32} {tg s : Nat} : Eg a g tg s = 0 ∨ Eg a g tg s = 1000000 := by
  unfold Eg
  by_cases c : g = 1 ∧ nI (dg s tg) = a (11 + 9 * tg + 7)
  · rw [if_pos c]; exact Or.inr rfl
  · rw [if_neg c]; exact Or.inl rfl
theorem m_gbehind {S N s0 d t s tg : Nat} {a : Nat → Int32} {g gt : Int32} {gc gy : Nat → Int64} (hR : RowN S N a) (hc : GC a S N s0 g gt tg t gc gy) (hh : Hg g gt tg) (ht : t + (d + 1) = S) (hg : Gd N a s0 s) (b : Bool) {x : Int32} (hx : x = if b then 1 else 0) : pX9_givesBehind (nI t) x (nI s) a gc gy g gt = some (NB (if b then a 8 else a 9) (Gv a S N g gt tg d) s) := by
  have hN := hR.2.2.1
  have hS := hR.2.1
  have hp := pow_le6 hN
  have hs := hg.1
  unfold pX9_givesBehind
  rw [hR.2.2.2.1, nI_1 t]
  by_cases c : t + 1 < S
  · obtain ⟨h1, h2⟩ := hc c s hg
    rw [show S - (t + 1) = d by omega] at h1 h2
    rw [if_pos (nI_lt c (by omega)), if_neg (nI_in (by omega : s < 4096) (by omega)), if_neg (nI_in (by omega : s < 4096) (by omega)), nI_clamp (by omega : s < 2 ^ 31), h1, h2, mix_m (p89 hR).1, mix_m (p89 hR).2, hx]
    cases b <;> rfl
  · have : d = 0 := by omega
    subst this
    rw [if_neg (nI_nlt (by omega) (by omega)), m_atEnd hR hg hh, ob_eq rfl]
    show _ = some (mix _ (Eg a g tg s) (Eg a g tg s))
    rw [mix_same (by cases b; exact (p89 hR).2; exact (p89 hR).1) Eg_01]
theorem m_gbehind1 {S N s0 d t s tg : Nat} {a : Nat → Int32} {g gt : Int32} {gc gy : Nat → Int64} (hR : RowN S N a) (hc : GC a S N s0 g gt tg t gc gy) (hh : Hg g gt tg) (ht : t + (d + 1) = S) (hg : Gd N a s0 s) : pX9_givesBehind (nI t) 1 (nI s) a gc gy g gt = some (NB (a 8) (Gv a S N g gt tg d) s) := m_gbehind hR hc hh ht hg true rfl
theorem m_gbehind0 {S N s0 d t s tg : Nat} {a : Nat → Int32} {g gt : Int32} {gc gy : Nat → Int64} (hR : RowN S N a) (hc : GC a S N s0 g gt tg t gc gy) (hh : Hg g gt tg) (ht : t + (d + 1) = S) (hg : Gd N a s0 s) : pX9_givesBehind (nI t) 0 (nI s) a gc gy g gt = some (NB (a 9) (Gv a S N g gt tg d) s) := m_gbehind hR hc hh ht hg false rfl
theorem m_gclear {S N s0 d t s tg : Nat} {a it is sn : Nat → Int32} {g gt : Int32} {cl cd gc gy : Nat → Int64} (hR : RowN S N a) (hl : Lay true a S N s0 it is sn) (hM : MC a S N s0 t cl cd) (hc : GC a S N s0 g gt tg t gc gy) (hh : Hg g gt tg) (ht : t + (d + 1) = S) (hg : Gd N a s0 s) : pX9_givesUnderClear (nI t) (nI s) a it sn cl cd gc gy g gt = some (Gv a S N g gt tg (d + 1) s).1 := by
  have hN := hR.2.2.1
  have hS := hR.2.1
  have hG : (Gv a S N g gt tg (d + 1) s).1 = (match fol a S N g d s with
      | none => NB (a 8) (Gv a S N g gt tg d) s
      | some k => own a g gt k + NB (a 8) (Gv a S N g gt tg d) (s + 4 ^ k)) := rfl
  rw [hG]
  have hfol := fun k h => fol_psb (g := g) (k := k) hR ht hg h
  unfold pX9_givesUnderClear
  by_cases c : g = 2
  · have ef : fol a S N g d s = gdy (fun k => psb true a N s k t) (vl a) N := by
      unfold fol
      rw [if_pos c, show S - (d + 1) = t by omega]
    rw [if_neg (show ¬ ¬ g = 2 from fun h => h c), m_greedyAt hR hl hg (by omega), ob_eq rfl, ← ef]
    cases hf : fol a S N g d s with
    | none =>
      rw [if_neg (show ¬ ¬ oI none = (-1 : Int32) from fun h => h rfl), m_gbehind1 hR hc hh ht hg, ob_eq rfl]
    | some k =>
      obtain ⟨hk, hps⟩ := hfol k hf
      rw [if_pos (show ¬ oI (some k) = (-1 : Int32) from nI_m1 (by omega)), show oI (some k) = nI k from rfl, p_ofTarget (x := 8) (w := 8) rfl (by omega), ob_eq rfl, ix_to s k (by omega), m_gbehind1 hR hc hh ht (pos_step hR hk hg hps), ob_eq rfl]
      show some ((1000000 : Int64) * (vl a k).toInt64 + NB (a 8) (Gv a S N g gt tg d) (s + 4 ^ k)) = some (own a g gt k + NB (a 8) (Gv a S N g gt tg d) (s + 4 ^ k))
      unfold own
      rw [if_pos c]
  · have ef : fol a S N g d s = if dec a S N d s < N then some (dec a S N d s) else none := by
      unfold fol
      rw [if_neg c]
    rw [if_pos c, m_decisionAt hR hl hM ht hg, ob_eq rfl]
    unfold cI
    by_cases c2 : dec a S N d s < N
    · rw [if_pos c2] at ef ⊢
      rw [ef]
      obtain ⟨hk, hps⟩ := hfol _ ef
      rw [if_pos (nI_m1 (by omega)), ix_to s _ (by omega), m_gbehind1 hR hc hh ht (pos_step hR hk hg hps)]
      show _ = some (own a g gt (dec a S N d s) + NB (a 8) (Gv a S N g gt tg d) (s + 4 ^ dec a S N d s))
      unfold own
      rw [if_neg c]
      by_cases c3 : g = 0
      · rw [if_neg (show ¬ ¬ g = 0 from fun h => h c3)]
        by_cases c4 : nI (dec a S N d s) = gt
        · rw [if_neg (show ¬ ¬ nI (dec a S N d s) = gt from fun h => h c4), if_pos (show g = 0 ∧ nI (dec a S N d s) = gt from ⟨c3, c4⟩), ob_eq rfl]
        · rw [if_pos c4, if_neg (show ¬ (g = 0 ∧ nI (dec a S N d s) = gt) from fun q => c4 q.2), ob_eq rfl]
      · rw [if_pos c3, if_neg (show ¬ (g = 0 ∧ nI (dec a S N d s) = gt) from fun q => c3 q.1), ob_eq rfl]
    · rw [if_neg c2] at ef ⊢
      rw [ef, if_neg (show ¬ ¬ (-1 : Int32) = -1 from fun h => h rfl), m_gbehind1 hR hc hh ht hg, ob_eq rfl]
theorem m_meanRow {S N s0 d t tg : Nat} {a it is sn : Nat → Int32} {g gt : Int32} {cl cd gc gy : Nat → Int64} (hR : RowN S N a) (h0 : s0 < 4 ^ N) (hl : Lay true a S N s0 it is sn) (hM : MC a S N s0 t cl cd) (hc : GC a S N s0 g gt tg t gc gy) (hh : Hg g gt tg) (ht : t + (d + 1) = S) : ∀ (fu s : Nat) (c1 c2 c3 c4 : Nat → Int64), s ≤ 4096 → 4096 - s < fu → (∀ i, i < s → Gd N a s0 i → c1 i = (Md a S N (d + 1) i).1 ∧ c2 i = (Md a S N (d + 1) i).2 ∧ c3 i = (Gv a S N g gt tg (d + 1) i).1 ∧ c4 i = (Gv a S N g gt tg (d + 1) i).2) →
    ∃ d1 d2 d3 d4, lpX9_laysMeans_27 (nI t) a it is sn cl cd gc gy g gt fu (nI s) c1 c2 c3 c4 = some (nI 4096, d1, d2, d3, d4) ∧ ∀ i, i < 4096 → Gd N a s0 i → d1 i = (Md a S N (d + 1) i).1 ∧ d2 i = (Md a S N (d + 1) i).2 ∧ d3 i = (Gv a S N g gt tg (d + 1) i).1 ∧ d4 i = (Gv a S N g gt tg (d + 1) i).2
  | 0, _, _, _, _, _, _, h, _ => by omega
  | fu + 1, s, c1, c2, c3, c4, hs, hf, h2 => by
    have hN := hR.2.2.1
    have hS := hR.2.1
    by_cases e : s = 4096
    · subst e
      refine ⟨c1, c2, c3, c4, ?_, h2⟩
      unfold lpX9_laysMeans_27
      rw [if_pos (show (4096 : Int32) ≤ nI 4096 from nI_le (Nat.le_refl 4096) (by omega))]
    · have e6 : ¬ (4096 : Int32) ≤ nI s := nI_ge (a := s) (b := 4096) (by omega) (by omega)
      have his := hl.1 s (by omega)
      by_cases cg : Gd N a s0 s
      · obtain ⟨d1, d2, d3, d4, i1, i2⟩ := m_meanRow hR h0 hl hM hc hh ht fu (s + 1) (vp_updL c1 s (Md a S N (d + 1) s).1) (vp_updL c2 s (Md a S N (d + 1) s).2) (vp_updL c3 s (Gv a S N g gt tg (d + 1) s).1) (vp_updL c4 s (Gv a S N g gt tg (d + 1) s).2) (by omega) (by omega) (fun i hi hg => by
          by_cases ei : i = s
          · subst ei; exact ⟨pk_uLs, pk_uLs, pk_uLs, pk_uLs⟩
          · rw [pk_uLn ei, pk_uLn ei, pk_uLn ei, pk_uLn ei]; exact h2 i (by omega) hg)
        refine ⟨d1, d2, d3, d4, ?_, i2⟩
        unfold lpX9_laysMeans_27
        rw [if_neg e6, if_neg (nI_in (by omega : s < 4096) (by omega)), nI_clamp (by omega : s < 2 ^ 31), if_pos (his.mpr cg), m_clearIn hR hl hM ht cg, ob_eq rfl, m_behind0 hR hM ht cg, ob_eq rfl, m_gclear hR hl hM hc hh ht cg, ob_eq rfl, m_gbehind0 hR hc hh ht cg, ob_eq rfl, nI_1 s]
        exact i1
      · obtain ⟨d1, d2, d3, d4, i1, i2⟩ := m_meanRow hR h0 hl hM hc hh ht fu (s + 1) c1 c2 c3 c4 (by omega) (by omega) (fun i hi hg => by
          by_cases ei : i = s
          · subst ei; exact absurd hg cg
          · exact h2 i (by omega) hg)
        refine ⟨d1, d2, d3, d4, ?_, i2⟩
        unfold lpX9_laysMeans_27
        rw [if_neg e6, if_neg (nI_in (by omega : s < 4096) (by omega)), nI_clamp (by omega : s < 2 ^ 31), if_neg (fun h => cg (his.mp h)), nI_1 s]
        exact i1
theorem m_copyM {d1 d2 d3 d4 : Nat → Int64} : ∀ (fu s : Nat) (c1 c2 c3 c4 : Nat → Int64), s ≤ 4096 → 4096 - s < fu → (∀ i, i < s → c1 i = d1 i ∧ c2 i = d2 i ∧ c3 i = d3 i ∧ c4 i = d4 i) → ∃ e1 e2 e3 e4, lpX9_laysMeans_104 d1 d2 d3 d4 fu (nI s) c1 c2 c3 c4 = some (nI 4096, e1, e2, e3, e4) ∧ ∀ i, i < 4096 → e1 i = d1 i ∧ e2 i = d2 i ∧ e3 i = d3 i ∧ e4 i = d4 i
  | 0, _, _, _, _, _, _, h, _ => by omega
  | fu + 1, s, c1, c2, c3, c4, hs, hf, h1 => by
    by_cases e : s = 4096
    · subst e
      refine ⟨c1, c2, c3, c4, ?_, h1⟩
      unfold lpX9_laysMeans_104
      rw [if_pos (show (4096 : Int32) ≤ nI 4096 from nI_le (Nat.le_refl 4096) (by omega))]
    · have e6 : ¬ (4096 : Int32) ≤ nI s := nI_ge (a := s) (b := 4096) (by omega) (by omega)
      obtain ⟨e1, e2, e3, e4, i1, i2⟩ := m_copyM (d1 := d1) (d2 := d2) (d3 := d3) (d4 := d4) fu (s + 1) (vp_updL c1 s (d1 s)) (vp_updL c2 s (d2 s)) (vp_updL c3 s (d3 s)) (vp_updL c4 s (d4 s)) (by omega) (by omega) (fun i hi => by
        by_cases ei : i = s
        · subst ei; exact ⟨pk_uLs, pk_uLs, pk_uLs, pk_uLs⟩
        · rw [pk_uLn ei, pk_uLn ei, pk_uLn ei, pk_uLn ei]; exact h1 i (by omega))
      refine ⟨e1, e2, e3, e4, ?_, i2⟩
      unfold lpX9_laysMeans_104
      rw [if_neg e6, if_neg (nI_in (by omega : s < 4096) (by omega)), nI_clamp (by omega : s < 2 ^ 31), nI_1]
      exact i1
theorem dn_le {u P : Nat} (h : u ≤ P + 1) (hP : P < 60000) : nI u + (-1 : Int32) ≤ nI P := by
  have e : (-1 : Int32).toInt = -1 := by decide
  rw [fa_le, fb_addI (by rw [nI_toInt (by omega), e]; omega) (by rw [nI_toInt (by omega), e]; omega), nI_toInt (by omega), nI_toInt (by omega), e]
  omega
/-- from slot u - 1 back to the one behind the present one -/
theorem m_meanRows {S N P s0 tg : Nat} {a it is sn : Nat → Int32} {g gt : Int32} (hR : RowN S N a) (hP : a 65 = nI P) (hPS : P < S) (h0 : s0 < 4 ^ N) (hl : Lay true a S N s0 it is sn) (hh : Hg g gt tg) : ∀ (fu t : Nat) (cl cd c1 c2 gc gy c3 c4 : Nat → Int64), P ≤ t → t < S → t - P < fu → MC a S N s0 t cl cd → GC a S N s0 g gt tg t gc gy →
    ∃ y e1 e2 e3 e4 e5 e6 e7 e8, lpX9_laysMeans_14 a it is sn g gt fu (nI t) cl cd c1 c2 gc gy c3 c4 = some (y, e1, e2, e3, e4, e5, e6, e7, e8) ∧ MC a S N s0 P e1 e2 ∧ GC a S N s0 g gt tg P e5 e6
  | 0, _, _, _, _, _, _, _, _, _, _, _, h, _, _ => by omega
  | fu + 1, t, cl, cd, c1, c2, gc, gy, c3, c4, h1, h2, hf, hM, hG => by
    have hN := hR.2.2.1
    have hS := hR.2.1
    have hp := pow_le6 hN
    by_cases e : t = P
    · subst e
      refine ⟨nI t, cl, cd, c1, c2, gc, gy, c3, c4, ?_, hM, hG⟩
      unfold lpX9_laysMeans_14
      rw [hP, if_pos (nI_le (Nat.le_refl _) (by omega))]
    · obtain ⟨u, rfl⟩ : ∃ u, t = u + 1 := ⟨t - 1, by omega⟩
      obtain ⟨d1, d2, d3, d4, j1, j2⟩ := m_meanRow (t := u + 1) (d := S - (u + 1) - 1) hR h0 hl hM hG hh (by omega) lpF 0 c1 c2 c3 c4 (by omega) (by have := lpF_big; omega) (fun i h => by omega)
      obtain ⟨e1, e2, e3, e4, j3, j4⟩ := m_copyM (d1 := d1) (d2 := d2) (d3 := d3) (d4 := d4) lpF 0 cl cd gc gy (by omega) (by have := lpF_big; omega) (fun i h => by omega)
      have hd : S - (u + 1) - 1 + 1 = S - (u + 1) := by omega
      rw [hd] at j2
      obtain ⟨y, f1, f2, f3, f4, f5, f6, f7, f8, i1, i2, i3⟩ := m_meanRows hR hP hPS h0 hl hh fu u e1 e2 d1 d2 e3 e4 d3 d4 (by omega) (by omega) (by omega) (fun _ i hi => by
        have hi4 := Nat.lt_of_lt_of_le hi.1 hp
        have q1 := j4 i hi4
        have q2 := j2 i hi4 hi
        exact ⟨q1.1.trans q2.1, q1.2.1.trans q2.2.1⟩) (fun _ i hi => by
        have hi4 := Nat.lt_of_lt_of_le hi.1 hp
        have q1 := j4 i hi4
        have q2 := j2 i hi4 hi
        exact ⟨q1.2.2.1.trans q2.2.2.1, q1.2.2.2.trans q2.2.2.2⟩)
      refine ⟨y, f1, f2, f3, f4, f5, f6, f7, f8, ?_, i2, i3⟩
      unfold lpX9_laysMeans_14
      rw [hP, if_neg (nI_ge (by omega) (by omega)), ob_eq (show lpX9_laysMeans_27 (nI (u + 1)) a it is sn cl cd gc gy g gt lpF (0 : Int32) c1 c2 c3 c4 = _ from j1), ob_eq (show lpX9_laysMeans_104 d1 d2 d3 d4 lpF (0 : Int32) cl cd gc gy = _ from j3), pk_m1]
      exact i1
theorem m_laysMeans {S N P s0 tg : Nat} {a tb it is sn : Nat → Int32} {g gt : Int32} {cl cd c1 c2 gc gy c3 c4 : Nat → Int64} (hi : Sit S N P s0 a) (hP : a 65 = nI P) (hPS : P < S) (hm : ∀ k, k < 6 → a (69 + k) = nI (dg s0 k)) (hh : Hg g gt tg) :
    ∃ tb' it' is' sn' e1 e2 e3 e4 e5 e6 e7 e8, pX9_laysMeans a tb it is sn cl cd c1 c2 gc gy c3 c4 g gt = some (tb', it', is', sn', e1, e2, e3, e4, e5, e6, e7, e8) ∧ Lay true a S N s0 it' is' sn' ∧ MC a S N s0 P e1 e2 ∧ GC a S N s0 g gt tg P e5 e6 := by
  obtain ⟨hR, hPS', hg⟩ := hi
  obtain ⟨tb', it', is', sn', l1, l2⟩ := m_lays (tb := tb) (it := it) (is := is) (sn := sn) (b := true) (wT := 1) hR hm hg.1 rfl
  have hS := hR.2.1
  have hF := lpF_big
  obtain ⟨y, e1, e2, e3, e4, e5, e6, e7, e8, i1, i2, i3⟩ := m_meanRows hR hP hPS hg.1 l2 hh lpF (S - 1) cl cd c1 c2 gc gy c3 c4 (by omega) (by omega) (by omega) (fun h => by omega) (fun h => by omega)
  refine ⟨tb', it', is', sn', e1, e2, e3, e4, e5, e6, e7, e8, ?_, l2, i2, i3⟩
  unfold pX9_laysMeans
  rw [ob_eq l1, hR.2.2.2.1, dn_sub (by omega), dn_eq (by omega), ob_eq i1]
