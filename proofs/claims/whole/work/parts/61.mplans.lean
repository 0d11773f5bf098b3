/-! THE REFERENCE'S PLANS -/
theorem nI_m1 {k : Nat} (h : k < 60000) : ¬ nI k = (-1 : Int32) := fun e => by
  have := congrArg Int32.toInt e
  rw [nI_toInt (by omega), show (-1 : Int32).toInt = -1 by decide] at this
  omega
theorem keq {k : Nat} (n : Nat) (hk : k < 60000) (hn : n < 60000) : nI k = nI n ↔ k = n := nI_eq (by omega) (by omega)
theorem dn_lt {P : Nat} (h : P < 60000) : nI P + (-1 : Int32) < nI P := by
  rw [fa_lt, fb_addI (by rw [nI_toInt (by omega), show (-1 : Int32).toInt = -1 by decide]; omega) (by rw [nI_toInt (by omega), show (-1 : Int32).toInt = -1 by decide]; omega), nI_toInt (by omega), show (-1 : Int32).toInt = -1 by decide]
  omega
theorem dn_eq {u : Nat} (h : 0 < u) : nI u + (-1 : Int32) = nI (u - 1) := by
  obtain ⟨v, rfl⟩ : ∃ v, u = v + 1 := ⟨u - 1, by omega⟩
  exact pk_m1 v
theorem dn_sub {u : Nat} (h : 0 < u) : nI u - (1 : Int32) = nI u + (-1 : Int32) := by
  obtain ⟨v, rfl⟩ : ∃ v, u = v + 1 := ⟨u - 1, by omega⟩
  rw [pk_m1]
  exact nI_pred v
theorem m_planOdds {a : Nat → Int32} {P t : Nat} (hP : a 65 = nI P) (hP2 : P < 60000) (ht : t < 60000) : pX9_planOdds (nI t) a = some (odP a P t) := by
  unfold pX9_planOdds odP
  rw [hP]
  by_cases c : t = P
  · subst c
    rw [if_neg (fun h => h rfl)]
    by_cases c2 : a 67 = 0
    · rw [if_neg (fun h => h c2), if_neg (fun h => h.2 c2), p_oddsOf ht, ob_eq rfl]
    · have q : t = t ∧ ¬ a 67 = 0 := ⟨rfl, c2⟩
      rw [if_pos c2, if_pos q]
      by_cases c3 : a 67 = 1
      · rw [if_neg (show ¬ ¬ a 67 = 1 from fun h => h c3), if_pos c3]
      · rw [if_pos c3, if_neg c3]
  · rw [if_pos (fun h => c ((keq P ht hP2).mp h)), if_neg (fun h => c h.1), p_oddsOf ht, ob_eq rfl]
theorem m_isClosed {a : Nat → Int32} {P t : Nat} (hP : a 65 = nI P) (hP2 : P < 60000) (ht : t < 60000) : pX9_isClosed (nI t) a = some (if cls a P t then 1 else 0) := by
  unfold pX9_isClosed cls
  rw [hP]
  by_cases c : t = P
  · subst c
    rw [if_neg (fun h => h rfl), decide_eq_true rfl, Bool.true_and]
    by_cases c2 : a 67 = 2
    · rw [if_neg (fun h => h c2), decide_eq_true c2]; rfl
    · rw [if_pos c2, decide_eq_false c2]; rfl
  · rw [if_pos (fun h => c ((keq P ht hP2).mp h)), decide_eq_false c]; rfl
theorem bst_none {c : Nat → Bool} {v : Nat → Int64} {m0 : Int64} : ∀ n, (∀ k, k < n → c k = false) → bst c v m0 n = m0
  | 0, _ => rfl
  | n + 1, h => by
    show (if c n = true ∧ bst c v m0 n < v n then v n else bst c v m0 n) = m0
    rw [if_neg (fun q => by rw [h n (by omega)] at q; cases q.1), bst_none n (fun k hk => h k (by omega))]
/-- how a kind of plans is asked for of the reference -/
def Kd (kd fs ft : Nat) (x1 x2 x3 fS fT : Int32) : Prop :=
  kd < 6 ∧ fs < 60000 ∧ ft < 60000 ∧ (x1 = if kd = 2 then nI ft else -1) ∧ (x2 = if kb kd then 1 else 0) ∧ (x3 = if kd = 4 ∨ kd = 5 then 1 else 0) ∧ (if kd = 1 then fS = nI fs ∧ fT = nI ft else fS = -1)
theorem ix_next (t s k : Nat) (hk : 2 * k < 32) : (((4096 : Int32) * (nI t + (1 : Int32))) + nI s) + ((1 : Int32) <<< (((2 : Int32) * nI k) &&& 31)) = nI (4096 * (t + 1) + s + 4 ^ k) := by
  rw [one_k hk, nI_1, show (4096 : Int32) * nI (t + 1) = nI (4096 * (t + 1)) from nI_mul 4096 _, nI_add, nI_add]
theorem ix_row (t s : Nat) : ((4096 : Int32) * nI t) + nI s = nI (4096 * t + s) := by
  rw [show (4096 : Int32) * nI t = nI (4096 * t) from nI_mul 4096 _, nI_add]
theorem ix_row1 (t s : Nat) : ((4096 : Int32) * (nI t + (1 : Int32))) + nI s = nI (4096 * (t + 1) + s) := by
  rw [nI_1, ix_row]
theorem m_planStep {S N P s0 d t s kd fs ft : Nat} {a it is sn : Nat → Int32} {best : Nat → Int64} {x1 x2 x3 fS fT : Int32} (hR : RowN S N a) (hP : a 65 = nI P) (hPS : P ≤ S) (hl : Lay (kb kd) a S N s0 it is sn) (hK : Kd kd fs ft x1 x2 x3 fS fT) (hg : Gd N a s0 s) (ht : t + (d + 1) = S)
    (hb : ∀ i, Gd N a s0 i → best (4096 * (t + 1) + i) = Vd a S N P kd fs ft d i) (hcl : cls a P t = false) (fu k : Nat) (hk : k < N) (l8 : Int64) :
    lpX9_plans_132 x1 x3 (nI t) (odP a P t).toInt64 (nI s) a it best sn fS fT (fu + 1) l8 (nI k) = lpX9_plans_132 x1 x3 (nI t) (odP a P t).toInt64 (nI s) a it best sn fS fT fu (if okc a N P kd fs ft s k t = true ∧ l8 < (if Vd a S N P kd fs ft d (s + 4 ^ k) < 0 then -1 else gn a P kd t k + Vd a S N P kd fs ft d (s + 4 ^ k)) then (if Vd a S N P kd fs ft d (s + 4 ^ k) < 0 then -1 else gn a P kd t k + Vd a S N P kd fs ft d (s + 4 ^ k)) else l8) (nI (k + 1)) := by
  obtain ⟨hk6, hfs, hft, e1, e2, e3, e4⟩ := hK
  have hN := hR.2.2.1
  have hS := hR.2.1
  have hp := pow_le6 hN
  have hs := hg.1
  conv => lhs; unfold lpX9_plans_132
  rw [hR.2.2.2.2.1, if_neg (nI_ge hk (by omega)), m_isClosed hP (by omega) (by omega), ob_eq rfl, hcl, if_neg (fun h => h rfl)]
  unfold okc flt
  rw [hcl]
  have hx1 : nI k = x1 ↔ (kd = 2 ∧ k = ft) := by
    rw [e1]
    by_cases c : kd = 2
    · rw [if_pos c, keq ft (by omega) hft]; exact ⟨fun h => ⟨c, h⟩, fun h => h.2⟩
    · rw [if_neg c]; exact ⟨fun h => absurd h (nI_m1 (by omega)), fun h => absurd h.1 c⟩
  by_cases c1 : kd = 2 ∧ k = ft
  · rw [if_pos (hx1.mpr c1), if_pos c1.1, decide_eq_true c1.2, nI_1 k, if_neg (fun q => by simp at q)]
  · rw [if_neg (fun h => c1 (hx1.mp h)), m_canAt hR hl hk (by omega) hg, ob_eq rfl]
    cases hps : psb (kb kd) a N s k t with
    | false =>
      rw [if_pos i0f, nI_1 k, Bool.false_and, if_neg (fun q => by cases q.1)]
    | true =>
      have hgn := pos_step hR hk hg hps
      have hgl := hgn.1
      rw [if_neg (by decide), Bool.true_and]
      -- the value of this choice
      have hval : ∀ (K : Int64 → Option (Int64 × Int32)),
          (if ((((((4096 : Int32) * (nI t + (1 : Int32))) + nI s) + ((1 : Int32) <<< (((2 : Int32) * nI k) &&& 31))) < 0 ∨ 53248 ≤ ((((((4096 : Int32) * (nI t + (1 : Int32))) + nI s) + ((1 : Int32) <<< (((2 : Int32) * nI k) &&& 31)))).toNatClampNeg))) then none else
              if 0 ≤ (lg_cmp ((best (((((4096 : Int32) * (nI t + (1 : Int32))) + nI s) + ((1 : Int32) <<< (((2 : Int32) * nI k) &&& 31)))).toNatClampNeg)) ((0 : Int64))) then
                if x3 = 0 then
                  ob (pX9_ofTarget (nI k) (8 : Int32) a) (fun z6 =>
                  if (lg_cmp (((z6.toInt64 * (odP a P t).toInt64) + (best (((((4096 : Int32) * (nI t + (1 : Int32))) + nI s) + ((1 : Int32) <<< (((2 : Int32) * nI k) &&& 31)))).toNatClampNeg))) l8) ≤ 0 then
                    K l8
                  else
                    K ((z6.toInt64 * (odP a P t).toInt64) + (best (((((4096 : Int32) * (nI t + (1 : Int32))) + nI s) + ((1 : Int32) <<< (((2 : Int32) * nI k) &&& 31)))).toNatClampNeg)))
                else
                  if (lg_cmp (((1 : Int64) + (best (((((4096 : Int32) * (nI t + (1 : Int32))) + nI s) + ((1 : Int32) <<< (((2 : Int32) * nI k) &&& 31)))).toNatClampNeg))) l8) ≤ 0 then
                    K l8
                  else
                    K ((1 : Int64) + (best (((((4096 : Int32) * (nI t + (1 : Int32))) + nI s) + ((1 : Int32) <<< (((2 : Int32) * nI k) &&& 31)))).toNatClampNeg))
              else
                if (lg_cmp ((-1 : Int64)) l8) ≤ 0 then
                  K l8
                else
                  K (-1 : Int64)) = K (if l8 < (if Vd a S N P kd fs ft d (s + 4 ^ k) < 0 then -1 else gn a P kd t k + Vd a S N P kd fs ft d (s + 4 ^ k)) then (if Vd a S N P kd fs ft d (s + 4 ^ k) < 0 then -1 else gn a P kd t k + Vd a S N P kd fs ft d (s + 4 ^ k)) else l8) := by
        intro K
        have hix := ix_next t s k (by omega)
        have hbn : best (4096 * (t + 1) + s + 4 ^ k) = Vd a S N P kd fs ft d (s + 4 ^ k) := by rw [Nat.add_assoc]; exact hb _ hgn
        have fin : ∀ w : Int64, (if (lg_cmp w l8) ≤ 0 then K l8 else K w) = K (if l8 < w then w else l8) := fun w => by
          by_cases c : l8 < w
          · rw [if_pos c, if_neg]
            rw [lg_cmp_le, fa_le64]
            rw [fa_lt64] at c
            omega
          · rw [if_neg c, if_pos]
            rw [lg_cmp_le, fa_le64]
            rw [fa_lt64] at c
            omega
        rw [if_neg (in_ok hix (by omega : 4096 * (t + 1) + s + 4 ^ k < 53248) (by omega)), clampN hix (by omega), hbn]
        by_cases cv : Vd a S N P kd fs ft d (s + 4 ^ k) < 0
        · rw [if_neg (by rw [lg_cmp_ge, fa_le64]; rw [fa_lt64] at cv; omega), if_pos cv]
          exact fin (-1)
        · rw [if_pos (by rw [lg_cmp_ge, fa_le64]; rw [fa_lt64] at cv; omega), if_neg cv]
          unfold gn
          by_cases cn : kd = 4 ∨ kd = 5
          · rw [e3, if_pos cn, if_neg (by decide), if_pos cn]
            exact fin _
          · rw [e3, if_neg cn, if_pos rfl, if_neg cn, p_ofTarget (x := 8) (w := 8) rfl (by omega), ob_eq rfl]
            exact fin _
      have ebut : (if kd = 2 then !decide (k = ft) else if kd = 1 ∧ t = fs then decide (k = ft) else true) = (if kd = 1 ∧ t = fs then decide (k = ft) else true) := by
        by_cases c : kd = 2
        · rw [if_pos c, decide_eq_false (fun h => c1 ⟨c, h⟩), if_neg (by omega)]; rfl
        · rw [if_neg c]
      rw [ebut, Bool.not_false, Bool.true_and]
      by_cases cf : kd = 1 ∧ t = fs
      · rw [if_pos cf.1] at e4
        rw [if_neg (fun h => h (by rw [e4.1, cf.2])), if_pos cf]
        by_cases ck : k = ft
        · rw [if_pos (by rw [e4.2, ck]), decide_eq_true ck]
          refine (hval (fun w => lpX9_plans_132 x1 x3 (nI t) (odP a P t).toInt64 (nI s) a it best sn fS fT fu w (nI k + 1))).trans ?_
          rw [nI_1 k]
          simp only [true_and]
        · rw [if_neg (by rw [e4.2]; exact fun h => ck ((keq ft (by omega) hft).mp h)), decide_eq_false ck, nI_1 k, if_neg (fun q => by cases q.1)]
      · have hnf : ¬ nI t = fS := by
          by_cases c : kd = 1
          · rw [if_pos c] at e4
            rw [e4.1]
            exact fun h => cf ⟨c, (keq fs (by omega) hfs).mp h⟩
          · rw [if_neg c] at e4
            rw [e4]
            exact nI_m1 (by omega)
        rw [if_pos hnf, if_neg cf]
        refine (hval (fun w => lpX9_plans_132 x1 x3 (nI t) (odP a P t).toInt64 (nI s) a it best sn fS fT fu w (nI k + 1))).trans ?_
        rw [nI_1 k]
        simp only [true_and]
theorem m_planLoop {S N P s0 d t s kd fs ft : Nat} {a it is sn : Nat → Int32} {best : Nat → Int64} {x1 x2 x3 fS fT : Int32} {m0 : Int64} (hR : RowN S N a) (hP : a 65 = nI P) (hPS : P ≤ S) (hl : Lay (kb kd) a S N s0 it is sn) (hK : Kd kd fs ft x1 x2 x3 fS fT) (hg : Gd N a s0 s) (ht : t + (d + 1) = S)
    (hb : ∀ i, Gd N a s0 i → best (4096 * (t + 1) + i) = Vd a S N P kd fs ft d i) : ∀ (fu k : Nat), k ≤ N → N - k < fu →
    ∃ y, lpX9_plans_132 x1 x3 (nI t) (odP a P t).toInt64 (nI s) a it best sn fS fT fu (bst (fun k => okc a N P kd fs ft s k t) (fun k => if Vd a S N P kd fs ft d (s + 4 ^ k) < 0 then -1 else gn a P kd t k + Vd a S N P kd fs ft d (s + 4 ^ k)) m0 k) (nI k) = some (bst (fun k => okc a N P kd fs ft s k t) (fun k => if Vd a S N P kd fs ft d (s + 4 ^ k) < 0 then -1 else gn a P kd t k + Vd a S N P kd fs ft d (s + 4 ^ k)) m0 N, y)
  | 0, _, _, h => by omega
  | fu + 1, k, hk, hf => by
    have hN := hR.2.2.1
    have hS := hR.2.1
    by_cases e : k = N
    · subst e
      refine ⟨nI k, ?_⟩
      unfold lpX9_plans_132
      rw [hR.2.2.2.2.1, if_pos (nI_le (Nat.le_refl _) (by omega))]
    · cases hcl : cls a P t with
      | true =>
        have hz : ∀ n, bst (fun k => okc a N P kd fs ft s k t) (fun k => if Vd a S N P kd fs ft d (s + 4 ^ k) < 0 then -1 else gn a P kd t k + Vd a S N P kd fs ft d (s + 4 ^ k)) m0 n = m0 := fun n => bst_none n (fun k _ => by
          show okc a N P kd fs ft s k t = false
          unfold okc flt
          rw [hcl]
          cases psb (kb kd) a N s k t <;> rfl)
        refine ⟨nI k, ?_⟩
        rw [hz k, hz N]
        unfold lpX9_plans_132
        rw [hR.2.2.2.2.1, if_neg (nI_ge (by omega) (by omega)), m_isClosed hP (by omega) (by omega), ob_eq rfl, hcl, if_pos (by decide)]
      | false =>
        rw [m_planStep hR hP hPS hl hK hg ht hb hcl fu k (by omega)]
        exact m_planLoop hR hP hPS hl hK hg ht hb fu (k + 1) (by omega) (by omega)
theorem m_planRow {S N P s0 d t kd fs ft : Nat} {a it is sn : Nat → Int32} {B0 : Nat → Int64} {x1 x2 x3 fS fT : Int32} (hR : RowN S N a) (hP : a 65 = nI P) (hPS : P ≤ S) (h0 : s0 < 4 ^ N) (hl : Lay (kb kd) a S N s0 it is sn) (hK : Kd kd fs ft x1 x2 x3 fS fT) (ht : t + (d + 1) = S)
    (hb : ∀ i, Gd N a s0 i → B0 (4096 * (t + 1) + i) = Vd a S N P kd fs ft d i) : ∀ (fu s : Nat) (best : Nat → Int64), s ≤ 4096 → 4096 - s < fu → (∀ i, 4096 * (t + 1) ≤ i → best i = B0 i) → (∀ i, i < s → Gd N a s0 i → best (4096 * t + i) = Vd a S N P kd fs ft (d + 1) i) →
    ∃ best', lpX9_plans_75 x1 x3 (nI t) (odP a P t).toInt64 a it is sn fS fT fu (nI s) best = some (nI 4096, best') ∧ (∀ i, 4096 * (t + 1) ≤ i → best' i = B0 i) ∧ ∀ i, i < 4096 → Gd N a s0 i → best' (4096 * t + i) = Vd a S N P kd fs ft (d + 1) i
  | 0, _, _, _, h, _, _ => by omega
  | fu + 1, s, best, hs, hf, h1, h2 => by
    have hN := hR.2.2.1
    have hS := hR.2.1
    have hp := pow_le6 hN
    by_cases e : s = 4096
    · subst e
      refine ⟨best, ?_, h1, h2⟩
      unfold lpX9_plans_75
      rw [if_pos (show (4096 : Int32) ≤ nI 4096 from nI_le (Nat.le_refl 4096) (by omega))]
    · have e6 : ¬ (4096 : Int32) ≤ nI s := nI_ge (a := s) (b := 4096) (by omega) (by omega)
      have his := hl.1 s (by omega)
      by_cases cg : Gd N a s0 s
      · have hbb : ∀ i, Gd N a s0 i → best (4096 * (t + 1) + i) = Vd a S N P kd fs ft d i := fun i hi => by rw [h1 _ (by omega)]; exact hb i hi
        obtain ⟨y, hy⟩ := m_planLoop (best := best) (m0 := if nno kd fs t then Vd a S N P kd fs ft d s else -1) hR hP hPS hl hK cg ht hbb lpF 0 (by omega) (by have := lpF_big; omega)
        have hV : bst (fun k => okc a N P kd fs ft s k t) (fun k => if Vd a S N P kd fs ft d (s + 4 ^ k) < 0 then -1 else gn a P kd t k + Vd a S N P kd fs ft d (s + 4 ^ k)) (if nno kd fs t then Vd a S N P kd fs ft d s else -1) N = Vd a S N P kd fs ft (d + 1) s := by
          rw [show t = S - (d + 1) by omega]
          rfl
        obtain ⟨best', i1, i2, i3⟩ := m_planRow hR hP hPS h0 hl hK ht hb fu (s + 1) (vp_updL best (4096 * t + s) (Vd a S N P kd fs ft (d + 1) s)) (by omega) (by omega) (fun i hi => by rw [pk_uLn (by omega)]; exact h1 i hi) (fun i hi hg => by
          by_cases ei : i = s
          · subst ei; exact pk_uLs
          · rw [pk_uLn (by omega)]; exact h2 i (by omega) hg)
        refine ⟨best', ?_, i2, i3⟩
        unfold lpX9_plans_75
        rw [if_neg e6, if_neg (nI_in (by omega : s < 4096) (by omega)), nI_clamp (by omega : s < 2 ^ 31), if_pos (his.mpr cg)]
        have hfin : (if ((((4096 : Int32) * nI t) + nI s) < 0 ∨ 53248 ≤ ((((4096 : Int32) * nI t) + nI s)).toNatClampNeg) then none else
          lpX9_plans_75 x1 x3 (nI t) (odP a P t).toInt64 a it is sn fS fT fu (nI s + (1 : Int32)) (vp_updL best (((((4096 : Int32) * nI t) + nI s)).toNatClampNeg) (Vd a S N P kd fs ft (d + 1) s))) = some (nI 4096, best') := by
          rw [if_neg (in_ok (ix_row t s) (by omega : 4096 * t + s < 53248) (by omega)), clampN (ix_row t s) (by omega), nI_1]
          exact i1
        obtain ⟨hk6, hfs, hft, e1, e2, e3, e4⟩ := hK
        by_cases cf : kd = 1 ∧ t = fs
        · have hnn : nno kd fs t = false := by unfold nno; rw [decide_eq_true cf.1, decide_eq_true cf.2]; rfl
          rw [hnn] at hy hV
          rw [if_pos cf.1] at e4
          rw [if_neg (fun h => h (by rw [e4.1, cf.2]))]
          rw [ob_eq (show lpX9_plans_132 x1 x3 (nI t) (odP a P t).toInt64 (nI s) a it best sn fS fT lpF (-1 : Int64) (0 : Int32) = some (bst (fun k => okc a N P kd fs ft s k t) (fun k => if Vd a S N P kd fs ft d (s + 4 ^ k) < 0 then -1 else gn a P kd t k + Vd a S N P kd fs ft d (s + 4 ^ k)) (-1) N, y) from hy)]
          rw [show bst (fun k => okc a N P kd fs ft s k t) (fun k => if Vd a S N P kd fs ft d (s + 4 ^ k) < 0 then -1 else gn a P kd t k + Vd a S N P kd fs ft d (s + 4 ^ k)) (-1) N = Vd a S N P kd fs ft (d + 1) s from hV]
          exact hfin
        · have hnn : nno kd fs t = true := by
            unfold nno
            rw [Bool.not_eq_true', Bool.and_eq_false_iff, decide_eq_false_iff_not, decide_eq_false_iff_not]
            by_cases c : kd = 1
            · exact Or.inr (fun h => cf ⟨c, h⟩)
            · exact Or.inl c
          rw [hnn] at hy hV
          have hnf : ¬ nI t = fS := by
            by_cases c : kd = 1
            · rw [if_pos c] at e4
              rw [e4.1]
              exact fun h => cf ⟨c, (keq fs (by omega) hfs).mp h⟩
            · rw [if_neg c] at e4
              rw [e4]
              exact nI_m1 (by omega)
          rw [if_pos hnf, if_neg (in_ok (ix_row1 t s) (by omega : 4096 * (t + 1) + s < 53248) (by omega)), clampN (ix_row1 t s) (by omega), hbb s cg]
          rw [ob_eq (show lpX9_plans_132 x1 x3 (nI t) (odP a P t).toInt64 (nI s) a it best sn fS fT lpF (Vd a S N P kd fs ft d s) (0 : Int32) = some (bst (fun k => okc a N P kd fs ft s k t) (fun k => if Vd a S N P kd fs ft d (s + 4 ^ k) < 0 then -1 else gn a P kd t k + Vd a S N P kd fs ft d (s + 4 ^ k)) (Vd a S N P kd fs ft d s) N, y) from hy)]
          rw [show bst (fun k => okc a N P kd fs ft s k t) (fun k => if Vd a S N P kd fs ft d (s + 4 ^ k) < 0 then -1 else gn a P kd t k + Vd a S N P kd fs ft d (s + 4 ^ k)) (Vd a S N P kd fs ft d s) N = Vd a S N P kd fs ft (d + 1) s from hV]
          exact hfin
      · obtain ⟨best', i1, i2, i3⟩ := m_planRow hR hP hPS h0 hl hK ht hb fu (s + 1) best (by omega) (by omega) h1 (fun i hi hg => by
          by_cases ei : i = s
          · subst ei; exact absurd hg cg
          · exact h2 i (by omega) hg)
        refine ⟨best', ?_, i2, i3⟩
        unfold lpX9_plans_75
        rw [if_neg e6, if_neg (nI_in (by omega : s < 4096) (by omega)), nI_clamp (by omega : s < 2 ^ 31), if_neg (fun h => cg (his.mp h)), nI_1]
        exact i1
/-- the rows of values from slot u on -/
def Rows (a : Nat → Int32) (S N P s0 kd fs ft u : Nat) (best : Nat → Int64) : Prop := ∀ t, u ≤ t → t ≤ S → ∀ i, Gd N a s0 i → best (4096 * t + i) = Vd a S N P kd fs ft (S - t) i
theorem m_planRows {S N P s0 kd fs ft : Nat} {a it is sn : Nat → Int32} {x1 x2 x3 fS fT : Int32} (hR : RowN S N a) (hP : a 65 = nI P) (hPS : P ≤ S) (h0 : s0 < 4 ^ N) (hl : Lay (kb kd) a S N s0 it is sn) (hK : Kd kd fs ft x1 x2 x3 fS fT) : ∀ (fu u : Nat) (best : Nat → Int64), P ≤ u → u ≤ S → u - P < fu → Rows a S N P s0 kd fs ft u best →
    ∃ y best', lpX9_plans_51 x1 x3 a it is sn fS fT fu (nI u + (-1 : Int32)) best = some (y, best') ∧ Rows a S N P s0 kd fs ft P best'
  | 0, _, _, _, _, h, _ => by omega
  | fu + 1, u, best, hu, huS, hf, hr => by
    have hN := hR.2.2.1
    have hS := hR.2.1
    by_cases e : u = P
    · subst e
      refine ⟨nI u + (-1 : Int32), best, ?_, hr⟩
      unfold lpX9_plans_51
      rw [hP, if_pos (dn_lt (by omega))]
    · obtain ⟨t, rfl⟩ : ∃ t, u = t + 1 := ⟨u - 1, by omega⟩
      obtain ⟨best1, j1, j2, j3⟩ := m_planRow (t := t) (B0 := best) (d := S - (t + 1)) hR hP hPS h0 hl hK (by omega) (fun i hi => by rw [hr (t + 1) (by omega) huS i hi]) lpF 0 best (by omega) (by have := lpF_big; omega) (fun i _ => rfl) (fun i h => by omega)
      have hr2 : Rows a S N P s0 kd fs ft t best1 := fun t' h1 h2 i hi => by
        by_cases et : t' = t
        · subst et
          rw [j3 i (Nat.lt_of_lt_of_le hi.1 (pow_le6 hN)) hi, show S - (t' + 1) + 1 = S - t' by omega]
        · rw [j2 _ (by have : t + 1 ≤ t' := by omega
                       have := Nat.mul_le_mul_left 4096 this
                       omega)]
          exact hr t' (by omega) h2 i hi
      obtain ⟨y, best', i1, i2⟩ := m_planRows hR hP hPS h0 hl hK fu t best1 (by omega) (by omega) (by omega) hr2
      refine ⟨y, best', ?_, i2⟩
      unfold lpX9_plans_51
      rw [pk_m1, hP, if_neg (nI_nlt (by omega) (by omega)), m_planOdds hP (by omega) (by omega), ob_eq rfl, ob_eq (show lpX9_plans_75 x1 x3 (nI t) (odP a P t).toInt64 a it is sn fS fT lpF (0 : Int32) best = _ from j1)]
      exact i1
theorem m_planZero {S N : Nat} {a : Nat → Int32} (hR : RowN S N a) : ∀ (fu s : Nat) (best : Nat → Int64), s ≤ 4096 → 4096 - s < fu → (∀ i, i < s → best (4096 * S + i) = 0) → ∃ best', lpX9_plans_8 a fu (nI s) best = some (nI 4096, best') ∧ ∀ i, i < 4096 → best' (4096 * S + i) = 0
  | 0, _, _, _, h, _ => by omega
  | fu + 1, s, best, hs, hf, h1 => by
    have hS := hR.2.1
    by_cases e : s = 4096
    · subst e
      refine ⟨best, ?_, h1⟩
      unfold lpX9_plans_8
      rw [if_pos (show (4096 : Int32) ≤ nI 4096 from nI_le (Nat.le_refl 4096) (by omega))]
    · have e6 : ¬ (4096 : Int32) ≤ nI s := nI_ge (a := s) (b := 4096) (by omega) (by omega)
      obtain ⟨best', i1, i2⟩ := m_planZero hR fu (s + 1) (vp_updL best (4096 * S + s) 0) (by omega) (by omega) (fun i hi => by
        by_cases ei : i = s
        · subst ei; exact pk_uLs
        · rw [pk_uLn (by omega)]; exact h1 i (by omega))
      refine ⟨best', ?_, i2⟩
      unfold lpX9_plans_8
      rw [if_neg e6, hR.2.2.2.1, if_neg (in_ok (ix_row S s) (by omega : 4096 * S + s < 53248) (by omega)), clampN (ix_row S s) (by omega), nI_1]
      exact i1
theorem m_plans {S N P s0 kd fs ft : Nat} {a tb it is sn : Nat → Int32} {best : Nat → Int64} {x1 x2 x3 fS fT : Int32} (hi : Sit S N P s0 a) (hP : a 65 = nI P) (hm : ∀ k, k < 6 → a (69 + k) = nI (dg s0 k)) (hK : Kd kd fs ft x1 x2 x3 fS fT) :
    ∃ tb' it' is' best' sn', pX9_plans x1 x2 x3 a tb it is best sn fS fT = some (Vd a S N P kd fs ft (S - P) s0, tb', it', is', best', sn') ∧ Lay (kb kd) a S N s0 it' is' sn' ∧ Rows a S N P s0 kd fs ft P best' := by
  obtain ⟨hR, hPS, hg⟩ := hi
  have hN := hR.2.2.1
  have hS := hR.2.1
  have h1S := hR.1
  have hp := pow_le6 hN
  have hF := lpF_big
  have hs0 := hg.1
  obtain ⟨tb', it', is', sn', l1, l2⟩ := m_lays (tb := tb) (it := it) (is := is) (sn := sn) (b := kb kd) (wT := x2) hR hm hg.1 hK.2.2.2.2.1
  obtain ⟨b1, z1, z2⟩ := m_planZero hR lpF 0 best (by omega) (by omega) (fun i h => by omega)
  obtain ⟨y, b2, r1, r2⟩ := m_planRows hR hP hPS hg.1 l2 hK lpF S b1 hPS (Nat.le_refl _) (by omega) (fun t ht1 ht2 i hi => by
    have : t = S := by omega
    subst this
    rw [z2 i (Nat.lt_of_lt_of_le hi.1 hp), Nat.sub_self]
    rfl)
  refine ⟨tb', it', is', b2, sn', ?_, l2, r2⟩
  unfold pX9_plans
  rw [ob_eq l1, ob_eq (show lpX9_plans_8 a lpF (0 : Int32) best = _ from z1), hR.2.2.2.1, dn_sub (by omega), ob_eq r1, ob_eq (m_stateNow hm (by omega)), hP, if_neg (in_ok (ix_row P s0) (by omega : 4096 * P + s0 < 53248) (by omega)), clampN (ix_row P s0) (by omega)]
  show some (b2 (4096 * P + s0), tb', it', is', b2, sn') = _
  rw [r2 P (Nat.le_refl _) hPS s0 (gd_self hg)]
