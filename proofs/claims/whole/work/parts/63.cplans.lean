/-! THE CLASS'S PLANS -/
/-- how a kind of plans is asked for of the class -/
def Kc (kd fs ft : Nat) (x2 x3 : Int32) : Prop := kd < 6 ∧ fs < 60000 ∧ ft < 32 ∧ (kd = 1 → x2 = nI fs ∧ x3 = nI ft) ∧ (kd = 2 → x3 = nI ft)
theorem cp_chosen {kd fs ft t : Nat} {x2 x3 : Int32} (hK : Kc kd fs ft x2 x3) (ht : t < 60000) : pX4_isChosen (nI t) (nI kd) x2 = some (if nno kd fs t then 0 else 1) := by
  obtain ⟨h6, hfs, hft, k1, k2⟩ := hK
  unfold pX4_isChosen nno
  by_cases c : kd = 1
  · rw [if_neg (show ¬ ¬ nI kd = (1 : Int32) from fun h => h (by rw [c]; rfl)), (k1 c).1, decide_eq_true c, Bool.true_and]
    by_cases c2 : t = fs
    · rw [if_neg (show ¬ ¬ nI t = nI fs from fun h => h (by rw [c2])), decide_eq_true c2]; rfl
    · rw [if_pos (fun h => c2 ((keq fs ht hfs).mp h)), decide_eq_false c2]; rfl
  · rw [if_pos (show ¬ nI kd = (1 : Int32) from fun h => c ((keq 1 (by omega) (by omega)).mp h)), decide_eq_false c]; rfl
theorem cp_cloudy {a : Nat → Int32} {P t : Nat} (hP : P < 60000) (ht : t < 60000) : pX4_isCloudyNow (nI t) (nI P) (a 67) = some (if cls a P t then 1 else 0) := by
  unfold pX4_isCloudyNow cls
  by_cases c : t = P
  · subst c
    rw [if_neg (fun h => h rfl), decide_eq_true rfl, Bool.true_and]
    by_cases c2 : a 67 = 2
    · rw [if_neg (fun h => h c2), decide_eq_true c2]; rfl
    · rw [if_pos c2, decide_eq_false c2]; rfl
  · rw [if_pos (fun h => c ((keq P ht hP).mp h)), decide_eq_false c]; rfl
theorem cp_odds {a od : Nat → Int32} {S P t : Nat} (hS : S ≤ 12) (ho : ∀ t, t < S → od t = odF a t) (hP : P ≤ S) (ht : t < S) : pX4_oddsOf (nI t) (nI S) od (nI P) (a 67) = some (odP a P t) := by
  unfold pX4_oddsOf odP
  by_cases c : t = P
  · subst c
    rw [if_neg (show ¬ ¬ nI t = nI t from fun h => h rfl)]
    by_cases c2 : a 67 = 0
    · rw [if_pos c2, if_neg (show ¬ (t = t ∧ ¬ a 67 = 0) from fun h => h.2 c2), c_oddsIn hS ho ht, ob_eq rfl]
    · rw [if_neg c2, if_pos (show t = t ∧ ¬ a 67 = 0 from ⟨rfl, c2⟩)]
      by_cases c3 : a 67 = 1
      · rw [if_neg (show ¬ ¬ a 67 = 1 from fun h => h c3), if_pos c3]
      · rw [if_pos c3, if_neg c3]
  · rw [if_pos (show ¬ nI t = nI P from fun h => c ((keq P (by omega) (by omega)).mp h)), if_neg (show ¬ (t = P ∧ ¬ a 67 = 0) from fun h => c h.1), c_oddsIn hS ho ht, ob_eq rfl]
theorem cp_gain {a f od : Nat → Int32} {S N P t k kd : Nat} (hR : RowN S N a) (hu : Nu N a f) (ho : ∀ t, t < S → od t = odF a t) (hP : P ≤ S) (ht : t < S) (hk : k < N) (h6 : kd < 6) : pX4_gain (nI k) (nI t) (nI kd) (nI S) f od (nI P) (a 67) = some (gn a P kd t k) := by
  unfold pX4_gain gn
  by_cases c4 : kd = 4
  · rw [if_pos (show nI kd = (4 : Int32) by rw [c4]; rfl), if_pos (show kd = 4 ∨ kd = 5 from Or.inl c4)]
  · rw [if_neg (show ¬ nI kd = (4 : Int32) from fun h => c4 ((keq 4 (by omega) (by omega)).mp h))]
    by_cases c5 : kd = 5
    · rw [if_neg (show ¬ ¬ nI kd = (5 : Int32) from fun h => h (by rw [c5]; rfl)), if_pos (show kd = 4 ∨ kd = 5 from Or.inr c5)]
    · rw [if_pos (show ¬ nI kd = (5 : Int32) from fun h => c5 ((keq 5 (by omega) (by omega)).mp h)), if_neg (show ¬ (kd = 4 ∨ kd = 5) from fun h => h.elim c4 c5), c_number (x := 8) (w := 8) hu hR.2.2.1 hk rfl (by omega), ob_eq rfl, cp_odds hR.2.1 ho hP ht, ob_eq rfl]
theorem cp_allowed {a : Nat → Int32} {P t kd fs ft : Nat} {x x2 x3 : Int32} (hK : Kc kd fs ft x2 x3) (hP : P < 60000) (ht : t < 60000) : ∃ m, pX4_allowed x (nI t) (nI kd) x2 x3 (nI P) (a 67) = some m ∧ ∀ k, k < 32 → bt m k = (bt x k && flt a P kd fs ft t k) := by
  have hch := cp_chosen hK ht
  obtain ⟨h6, hfs, hft, k1, k2⟩ := hK
  unfold pX4_allowed flt
  rw [cp_cloudy hP ht, ob_eq rfl]
  cases hc : cls a P t with
  | true =>
    refine ⟨0, if_neg i1t, fun k hk => ?_⟩
    rw [b_0, Bool.not_true, Bool.false_and, Bool.and_false]
  | false =>
    rw [if_pos i0f]
    by_cases c2 : kd = 2
    · rw [if_neg (show ¬ ¬ nI kd = (2 : Int32) from fun h => h (by rw [c2]; rfl)), k2 c2]
      refine ⟨_, rfl, fun k hk => ?_⟩
      rw [b_and, b_xor, bt_one hft hk, b_m1 k hk, if_pos c2, Bool.not_false, Bool.true_and]
      cases decide (k = ft) <;> rfl
    · rw [if_pos (show ¬ nI kd = (2 : Int32) from fun h => c2 ((keq 2 (by omega) (by omega)).mp h)), hch, ob_eq rfl]
      by_cases c1 : kd = 1 ∧ t = fs
      · have hnn : nno kd fs t = false := by unfold nno; rw [decide_eq_true c1.1, decide_eq_true c1.2]; rfl
        rw [hnn, if_neg (show ¬ (if false = true then (0 : Int32) else 1) = 0 by decide), (k1 c1.1).2]
        refine ⟨_, rfl, fun k hk => ?_⟩
        rw [b_and, bt_one hft hk, if_neg c2, if_pos c1, Bool.not_false, Bool.true_and]
      · have hnn : nno kd fs t = true := by
          unfold nno
          rw [Bool.not_eq_true', Bool.and_eq_false_iff, decide_eq_false_iff_not, decide_eq_false_iff_not]
          by_cases c : kd = 1
          · exact Or.inr (fun h => c1 ⟨c, h⟩)
          · exact Or.inl c
        rw [hnn, if_pos (show (if true = true then (0 : Int32) else 1) = 0 by decide)]
        refine ⟨_, rfl, fun k hk => ?_⟩
        rw [if_neg c2, if_neg c1, Bool.not_false, Bool.true_and, Bool.and_true]
theorem cp_chooseStep {a f od : Nat → Int32} {S N P t s n kd fs ft : Nat} {x2 x3 mask : Int32} {vs ws fi : Nat → Int64} (hR : RowN S N a) (hu : Nu N a f) (ho : ∀ t, t < S → od t = odF a t) (hP : P ≤ S) (ht : t < S) (hK : Kc kd fs ft x2 x3) (hn : n < 60000) (hb : ∀ k, k < N → bt mask k = true → s + 4 ^ k < n) (fu k : Nat) (hk : k < N) (m : Int64 × Int64 × Int64) :
    lpX4_choose_14 (nI s) (nI t) mask (nI kd) x2 n vs n ws n fi (nI S) (nI N) f od (nI P) (a 67) (fu + 1) m.1 m.2.1 m.2.2 (nI k) = lpX4_choose_14 (nI s) (nI t) mask (nI kd) x2 n vs n ws n fi (nI S) (nI N) f od (nI P) (a 67) fu (chS vs ws fi (s + 4 ^ k) (gn a P kd t k) ((nI k).toInt64 <<< ((((3 : Int32) * nI t)).toInt64 &&& 63)) (bt mask k) m).1 (chS vs ws fi (s + 4 ^ k) (gn a P kd t k) ((nI k).toInt64 <<< ((((3 : Int32) * nI t)).toInt64 &&& 63)) (bt mask k) m).2.1 (chS vs ws fi (s + 4 ^ k) (gn a P kd t k) ((nI k).toInt64 <<< ((((3 : Int32) * nI t)).toInt64 &&& 63)) (bt mask k) m).2.2 (nI (k + 1)) := by
  have hN := hR.2.2.1
  conv => lhs; unfold lpX4_choose_14
  rw [if_neg (nI_nlt (by omega) (by omega)), if_pos (show ¬ nI k = nI N from fun h => by have := (keq N (by omega) (by omega)).mp h; omega), p_has _ (by omega : k < 32), ob_eq rfl, nI_1 k]
  unfold chS
  cases hbk : bt mask k with
  | false =>
    rw [if_neg (show ¬ ¬ (if false = true then (1 : Int32) else 0) = 0 from fun h => h rfl), if_neg (show ¬ (false = true ∧ ¬ vs (s + 4 ^ k) = -1) from fun q => by cases q.1)]
  | true =>
    have hx := hb k hk hbk
    rw [if_pos i1t, p_oneOf (by omega), ob_eq rfl, nI_add, if_neg (nI_in hx (by omega)), nI_clamp (by omega : s + 4 ^ k < 2 ^ 31)]
    by_cases c1 : vs (s + 4 ^ k) = -1
    · rw [if_neg (show ¬ ¬ lg_cmp (vs (s + 4 ^ k)) (-1) = 0 from fun h => h ((lg_cmp_eq _ _).mpr c1)), if_neg (show ¬ (true = true ∧ ¬ vs (s + 4 ^ k) = -1) from fun q => q.2 c1)]
    · rw [if_pos (show ¬ lg_cmp (vs (s + 4 ^ k)) (-1) = 0 from fun h => c1 ((lg_cmp_eq _ _).mp h)), if_pos (show true = true ∧ ¬ vs (s + 4 ^ k) = -1 from ⟨rfl, c1⟩), cp_gain hR hu ho hP ht hk hK.1, ob_eq rfl]
      by_cases c2 : m.1 < vs (s + 4 ^ k) + gn a P kd t k
      · rw [if_neg (show ¬ lg_cmp (vs (s + 4 ^ k) + gn a P kd t k) m.1 ≤ 0 by rw [lg_cmp_le, fa_le64]; rw [fa_lt64] at c2; omega), if_neg (nI_inb hx (by omega)), if_neg (show ¬ ¬ lg_cmp (vs (s + 4 ^ k) + gn a P kd t k) (vs (s + 4 ^ k) + gn a P kd t k) = 0 from fun h => h ((lg_cmp_eq _ _).mpr rfl)), if_neg (nI_inb hx (by omega)), if_pos c2]
      · rw [if_pos (show lg_cmp (vs (s + 4 ^ k) + gn a P kd t k) m.1 ≤ 0 by rw [lg_cmp_le, fa_le64]; rw [fa_lt64] at c2; omega), if_neg c2]
        by_cases c3 : vs (s + 4 ^ k) + gn a P kd t k = m.1
        · rw [if_neg (show ¬ ¬ lg_cmp (vs (s + 4 ^ k) + gn a P kd t k) m.1 = 0 from fun h => h ((lg_cmp_eq _ _).mpr c3)), if_neg (nI_inb hx (by omega)), if_pos c3]
        · rw [if_pos (show ¬ lg_cmp (vs (s + 4 ^ k) + gn a P kd t k) m.1 = 0 from fun h => c3 ((lg_cmp_eq _ _).mp h)), if_neg c3]
theorem cp_chooseLast {a f od : Nat → Int32} {S N P t s n kd fs ft : Nat} {x2 x3 mask : Int32} {vs ws fi : Nat → Int64} (hR : RowN S N a) (ht : t < S) (hK : Kc kd fs ft x2 x3) (hn : n < 60000) (hs : s < n) (fu : Nat) (m : Int64 × Int64 × Int64) :
    lpX4_choose_14 (nI s) (nI t) mask (nI kd) x2 n vs n ws n fi (nI S) (nI N) f od (nI P) (a 67) (fu + 2) m.1 m.2.1 m.2.2 (nI N) = some ((chS vs ws fi s 0 (((7 : Int32)).toInt64 <<< ((((3 : Int32) * nI t)).toInt64 &&& 63)) (nno kd fs t) m).1, (chS vs ws fi s 0 (((7 : Int32)).toInt64 <<< ((((3 : Int32) * nI t)).toInt64 &&& 63)) (nno kd fs t) m).2.1, (chS vs ws fi s 0 (((7 : Int32)).toInt64 <<< ((((3 : Int32) * nI t)).toInt64 &&& 63)) (nno kd fs t) m).2.2, nI (N + 1)) := by
  have hN := hR.2.2.1
  have hS := hR.2.1
  have hend : ∀ x y z : Int64, lpX4_choose_14 (nI s) (nI t) mask (nI kd) x2 n vs n ws n fi (nI S) (nI N) f od (nI P) (a 67) (fu + 1) x y z (nI (N + 1)) = some (x, y, z, nI (N + 1)) := fun x y z => by
    unfold lpX4_choose_14
    rw [if_pos (nI_lt (by omega) (by omega))]
  conv => lhs; unfold lpX4_choose_14
  rw [if_neg (nI_nlt (Nat.le_refl N) (by omega)), if_neg (show ¬ ¬ nI N = nI N from fun h => h rfl), cp_chosen hK (by omega), ob_eq rfl, nI_1 N]
  unfold chS
  cases hnn : nno kd fs t with
  | false =>
    rw [if_neg (show ¬ (if false = true then (0 : Int32) else 1) = 0 by decide), if_neg (show ¬ (false = true ∧ ¬ vs s = -1) from fun q => by cases q.1)]
    exact hend _ _ _
  | true =>
    rw [if_pos (show (if true = true then (0 : Int32) else 1) = 0 by decide), if_neg (nI_in hs (by omega)), nI_clamp (by omega : s < 2 ^ 31)]
    by_cases c1 : vs s = -1
    · rw [if_neg (show ¬ ¬ lg_cmp (vs s) (-1) = 0 from fun h => h ((lg_cmp_eq _ _).mpr c1)), if_neg (show ¬ (true = true ∧ ¬ vs s = -1) from fun q => q.2 c1)]
      exact hend _ _ _
    · rw [if_pos (show ¬ lg_cmp (vs s) (-1) = 0 from fun h => c1 ((lg_cmp_eq _ _).mp h)), if_pos (show true = true ∧ ¬ vs s = -1 from ⟨rfl, c1⟩)]
      by_cases c2 : m.1 < vs s + 0
      · rw [if_neg (show ¬ lg_cmp (vs s + 0) m.1 ≤ 0 by rw [lg_cmp_le, fa_le64]; rw [fa_lt64] at c2; omega), if_neg (nI_inb hs (by omega)), if_neg (show ¬ ¬ lg_cmp (vs s + 0) (vs s + 0) = 0 from fun h => h ((lg_cmp_eq _ _).mpr rfl)), if_neg (nI_inb hs (by omega)), if_pos c2]
        exact hend _ _ _
      · rw [if_pos (show lg_cmp (vs s + 0) m.1 ≤ 0 by rw [lg_cmp_le, fa_le64]; rw [fa_lt64] at c2; omega), if_neg c2]
        by_cases c3 : vs s + 0 = m.1
        · rw [if_neg (show ¬ ¬ lg_cmp (vs s + 0) m.1 = 0 from fun h => h ((lg_cmp_eq _ _).mpr c3)), if_neg (nI_inb hs (by omega)), if_pos c3]
          exact hend _ _ _
        · rw [if_pos (show ¬ lg_cmp (vs s + 0) m.1 = 0 from fun h => c3 ((lg_cmp_eq _ _).mp h)), if_neg c3]
          exact hend _ _ _
theorem cp_chooseLoop {a f od : Nat → Int32} {S N P t s n kd fs ft : Nat} {x2 x3 mask : Int32} {vs ws fi : Nat → Int64} (hR : RowN S N a) (hu : Nu N a f) (ho : ∀ t, t < S → od t = odF a t) (hP : P ≤ S) (ht : t < S) (hK : Kc kd fs ft x2 x3) (hn : n < 60000) (hs : s < n) (hb : ∀ k, k < N → bt mask k = true → s + 4 ^ k < n) : ∀ (fu k : Nat), k ≤ N → N - k < fu →
    lpX4_choose_14 (nI s) (nI t) mask (nI kd) x2 n vs n ws n fi (nI S) (nI N) f od (nI P) (a 67) (fu + 1) (chF vs ws fi s (gn a P kd t) t (bt mask) k).1 (chF vs ws fi s (gn a P kd t) t (bt mask) k).2.1 (chF vs ws fi s (gn a P kd t) t (bt mask) k).2.2 (nI k) = some ((chE vs ws fi s (gn a P kd t) t (bt mask) (nno kd fs t) N).1, (chE vs ws fi s (gn a P kd t) t (bt mask) (nno kd fs t) N).2.1, (chE vs ws fi s (gn a P kd t) t (bt mask) (nno kd fs t) N).2.2, nI (N + 1))
  | 0, _, _, h => by omega
  | fu + 1, k, hk, hf => by
    by_cases e : k = N
    · subst e
      exact cp_chooseLast hR ht hK hn hs fu _
    · rw [cp_chooseStep hR hu ho hP ht hK hn hb (fu + 1) k (by omega)]
      exact cp_chooseLoop hR hu ho hP ht hK hn hs hb fu (k + 1) (by omega) (by omega)
theorem cp_choose {a f od : Nat → Int32} {S N P t s n kd fs ft : Nat} {x2 x3 mask : Int32} {vs ws fi : Nat → Int64} (hR : RowN S N a) (hu : Nu N a f) (ho : ∀ t, t < S → od t = odF a t) (hP : P ≤ S) (ht : t < S) (hK : Kc kd fs ft x2 x3) (hn : n < 60000) (hs : s < n) (hb : ∀ k, k < N → bt mask k = true → s + 4 ^ k < n) :
    pX4_choose (nI s) (nI t) mask (nI kd) x2 n vs n ws n fi (nI S) (nI N) f od (nI P) (a 67) = some (vp_updL vs s (chE vs ws fi s (gn a P kd t) t (bt mask) (nno kd fs t) N).1, vp_updL ws s (chE vs ws fi s (gn a P kd t) t (bt mask) (nno kd fs t) N).2.1, vp_updL fi s (chE vs ws fi s (gn a P kd t) t (bt mask) (nno kd fs t) N).2.2) := by
  have hN := hR.2.2.1
  unfold pX4_choose
  rw [ob_eq (show lpX4_choose_14 (nI s) (nI t) mask (nI kd) x2 n vs n ws n fi (nI S) (nI N) f od (nI P) (a 67) lpF (-1 : Int64) (0 : Int64) (0 : Int64) (0 : Int32) = _ from cp_chooseLoop hR hu ho hP ht hK hn hs hb 99999 0 (by omega) (by omega))]
  unfold pX4_put
  rw [if_neg (nI_in hs (by omega)), if_neg (nI_in hs (by omega)), if_neg (nI_in hs (by omega)), nI_clamp (by omega : s < 2 ^ 31), ob_eq rfl]
theorem cp_holds {er : Nat → Int32} {s t n e : Nat} (hs : s < n) (hn : n < 60000) (he : er s = nI e) (he9 : e < 60000) (ht : t < 60000) : pX6_holds (nI s) (nI t) n er = some (if e ≤ t then 1 else 0) := by
  unfold pX6_holds
  rw [if_neg (nI_in hs (by omega)), nI_clamp (by omega : s < 2 ^ 31), he]
  by_cases c : e ≤ t
  · rw [if_neg (nI_nlt c (by omega)), if_pos c]
  · rw [if_pos (nI_lt (by omega) (by omega)), if_neg c]
theorem cp_possible {a sn wt : Nat → Int32} {S N s t n : Nat} {b : Bool} (hS : S ≤ 12) (hs : s < n) (hn : n < 60000) (hsn : ∀ t, t < S → sn t = msk (obs a · t) N) (hN : N ≤ 6) (ht : t < S) (hw : wt s = wm a N (tx b a N s) s) : ∃ m, pX6_possible (nI s) (nI t) n wt (nI S) sn = some m ∧ ∀ k, k < N → bt m k = psb b a N s k t := by
  unfold pX6_possible
  rw [c_targetsIn hS hsn (by omega), ob_eq rfl, if_pos ht, if_neg (nI_in hs (by omega)), nI_clamp (by omega : s < 2 ^ 31), hw]
  refine ⟨_, rfl, fun k hk => ?_⟩
  rw [b_and, msk_bt _ N (by omega) k (by omega), decide_eq_true hk, Bool.true_and, wm_bt hN hk]
  rfl
/-- what the class's rows hold of the slots from u on -/
def CI (a : Nat → Int32) (S N P kd fs ft : Nat) (e : Nat → Nat) (u i : Nat) (vs ws fi : Nat → Int64) : Prop :=
  vs i = Vd a S N P kd fs ft (S - max u (e i)) i ∧ (kd = 0 → ws i = Wd a S N P (S - max u (e i)) i ∧ fi i = lN (Fn a S N P (S - max u (e i)) i))
theorem cp_next {b : Bool} {a : Nat → Int32} {S N P s0 : Nat} {e st : Nat → Nat} {sz : Nat} {states wanting earliest : Nat → Int32} (hR : RowN S N a) (hv : RVc b a S N P s0 e st sz (4 ^ N) states wanting earliest) {q t k : Nat} (hq : q < sz) (ht : t < S) (he : e (st q) ≤ t) (hk : k < N) (hp : psb b a N (st q) k t = true) : ∃ r, q < r ∧ r < sz ∧ st r = st q + 4 ^ k ∧ e (st r) ≤ t + 1 := by
  have hN := hR.2.2.1
  have hS := hR.2.1
  obtain ⟨h1, h2, h3, h4, h5, h6, h7, h8, h9⟩ := hv
  obtain ⟨q1, q2, q3⟩ := h1 q hq
  unfold psb at hp
  rw [Bool.and_eq_true] at hp
  have hbt : bt (wm a N (tx b a N (st q)) (st q)) k = true := by rw [wm_bt hN hk]; exact hp.2
  have hle := (h9 (st q) q2 q3).2 k hk hbt
  have hbn := bnF_le (S - e (st q)) (e (st q)) t he (by omega) hp.1
  have hpw := hp.2
  rw [Bool.and_eq_true, decide_eq_true_eq] at hpw
  have hgn := gd_step hR hk (h8 (st q) q3).2 hpw.1
  obtain ⟨r, r1, r2⟩ := h3 (st q + 4 ^ k) hgn.1 (by omega)
  refine ⟨r, ?_, r1, r2, by rw [r2]; omega⟩
  have hp4 := pow_pos4 k
  rcases Nat.lt_trichotomy q r with h | h | h
  · exact h
  · subst h; omega
  · have := h2 r q h hq
    omega
theorem cp_step2 {b : Bool} {a f od sn : Nat → Int32} {S N P s0 t n l kd fs ft : Nat} {x2 x3 : Int32} {e st : Nat → Nat} {sz : Nat} {states wanting earliest : Nat → Int32} (hR : RowN S N a) (hu : Nu N a f) (ho : ∀ t, t < S → od t = odF a t) (hsn : ∀ t, t < S → sn t = msk (obs a · t) N) (hP : P ≤ S) (ht : t < S) (hK : Kc kd fs ft x2 x3) (hb : b = kb kd) (hf0 : kd = 0 → fs = 0 ∧ ft = 0) (hn : n < 60000) (hn4 : 4 ^ N ≤ n) (hl : l < 60000) (hl4 : 4 ^ N ≤ l)
    (hv : RVc b a S N P s0 e st sz (4 ^ N) states wanting earliest) : ∀ (fu q : Nat) (vs ws fi : Nat → Int64), q ≤ sz → sz - q < fu → (∀ r, r < sz → CI a S N P kd fs ft e (if r < q then t else t + 1) (st r) vs ws fi) →
    ∃ vs' ws' fi', lpX4_stepBack_2_2 (nI t) (nI kd) x2 x3 n n n (nI S) (nI N) f sn od (nI P) (a 67) (nI sz) l states l wanting l earliest fu (nI q) vs ws fi = some (nI sz, vs', ws', fi') ∧ ∀ r, r < sz → CI a S N P kd fs ft e t (st r) vs' ws' fi'
  | 0, _, _, _, _, _, h, _ => by omega
  | fu + 1, q, vs, ws, fi, hq, hf, hi => by
    have hN := hR.2.2.1
    have hS := hR.2.1
    have hp := pow_le6 hN
    have hsz := hv.2.2.2.1
    by_cases eq : q = sz
    · subst eq
      refine ⟨vs, ws, fi, ?_, fun r hr => ?_⟩
      · unfold lpX4_stepBack_2_2
        rw [if_pos (nI_le (Nat.le_refl _) (by omega))]
      · have := hi r hr
        rw [if_pos hr] at this
        exact this
    · have hqs : q < sz := by omega
      obtain ⟨q1, q2, q3⟩ := hv.1 q hqs
      have he13 := hv.2.2.2.2.2.2.1 (st q)
      have heq := hv.2.2.2.2.1 (st q) q2
      have heS := (hv.2.2.2.2.2.2.2.1 (st q) q3).1
      by_cases c : e (st q) ≤ t
      · obtain ⟨m1, m2, m3⟩ := cp_possible (b := b) (n := l) hS (show st q < l by omega) (by omega) hsn hN ht (hv.2.2.2.2.2.2.2.2 (st q) q2 q3).1
        obtain ⟨m, a1, a2⟩ := cp_allowed (a := a) (P := P) (t := t) (x := m1) hK (by omega) (by omega)
        have hok : ∀ k, k < N → bt m k = okc a N P kd fs ft (st q) k t := fun k hk => by
          rw [a2 k (by omega), m3 k hk, hb]; rfl
        have hnx : ∀ k, k < N → bt m k = true → ∃ r, q < r ∧ r < sz ∧ st r = st q + 4 ^ k ∧ e (st r) ≤ t + 1 := fun k hk h => by
          rw [a2 k (by omega), m3 k hk, Bool.and_eq_true] at h
          exact cp_next hR hv hqs ht c hk h.1
        have hbn : ∀ k, k < N → bt m k = true → st q + 4 ^ k < n := fun k hk h => by
          obtain ⟨r, r1, r2, r3, r4⟩ := hnx k hk h
          have := (hv.1 r r2).2.1
          omega
        have hch := cp_choose (vs := vs) (ws := ws) (fi := fi) hR hu ho hP ht hK hn (show st q < n by omega) hbn
        obtain ⟨d, hd⟩ : ∃ d, S = t + (d + 1) := ⟨S - t - 1, by omega⟩
        have hiq := hi q hqs
        rw [if_neg (Nat.lt_irrefl q)] at hiq
        have hself : S - max (t + 1) (e (st q)) = d := by omega
        unfold CI at hiq
        rw [hself] at hiq
        have hnv : ∀ k, k < N → bt m k = true → CI a S N P kd fs ft e (t + 1) (st q + 4 ^ k) vs ws fi ∧ S - max (t + 1) (e (st q + 4 ^ k)) = d := fun k hk h => by
          obtain ⟨r, r1, r2, r3, r4⟩ := hnx k hk h
          have h5 := hi r r2
          rw [if_neg (by omega), r3] at h5
          rw [r3] at r4
          exact ⟨h5, by omega⟩
        have hV := chE_V (ws := ws) (fi := fi) (vs := vs) (c := bt m) (s := st q) hR (show d < 12 by omega) (show t = S - (d + 1) by omega) hok hiq.1 (fun k hk h => by
          obtain ⟨g1, g2⟩ := hnv k hk h
          have g3 := g1.1
          rw [g2] at g3
          exact g3)
        have hWF : kd = 0 → (chE vs ws fi (st q) (gn a P kd t) t (bt m) (nno kd fs t) N).2.1 = Wd a S N P (d + 1) (st q) ∧ (chE vs ws fi (st q) (gn a P kd t) t (bt m) (nno kd fs t) N).2.2 = lN (Fn a S N P (d + 1) (st q)) := fun h0 => by
          obtain ⟨f1, f2⟩ := hf0 h0
          subst h0 f1 f2
          refine chE_W (ws := ws) (fi := fi) (vs := vs) (c := bt m) (s := st q) hR (show d < 12 by omega) (by omega) (show t = S - (d + 1) by omega) hok hiq.1 (fun k hk h => ?_) (hiq.2 rfl).1 (fun k hk h => ?_) (hiq.2 rfl).2 (fun k hk h => ?_)
          · obtain ⟨g1, g2⟩ := hnv k hk h
            have g3 := g1.1
            rw [g2] at g3
            exact g3
          · obtain ⟨g1, g2⟩ := hnv k hk h
            have g3 := (g1.2 rfl).1
            rw [g2] at g3
            exact g3
          · obtain ⟨g1, g2⟩ := hnv k hk h
            have g3 := (g1.2 rfl).2
            rw [g2] at g3
            exact g3
        obtain ⟨vs', ws', fi', i1, i2⟩ := cp_step2 hR hu ho hsn hP ht hK hb hf0 hn hn4 hl hl4 hv fu (q + 1) (vp_updL vs (st q) (chE vs ws fi (st q) (gn a P kd t) t (bt m) (nno kd fs t) N).1) (vp_updL ws (st q) (chE vs ws fi (st q) (gn a P kd t) t (bt m) (nno kd fs t) N).2.1) (vp_updL fi (st q) (chE vs ws fi (st q) (gn a P kd t) t (bt m) (nno kd fs t) N).2.2) (by omega) (by omega) (fun r hr => by
          by_cases er : r = q
          · subst er
            rw [if_pos (by omega)]
            unfold CI
            rw [pk_uLs, pk_uLs, pk_uLs, show S - max t (e (st r)) = d + 1 by omega]
            exact ⟨hV, hWF⟩
          · have hne : st r ≠ st q := fun h => by
              rcases Nat.lt_trichotomy r q with h2 | h2 | h2
              · have := hv.2.1 r q h2 hqs; omega
              · exact er h2
              · have := hv.2.1 q r h2 hr; omega
            have h5 := hi r hr
            unfold CI at h5 ⊢
            rw [pk_uLn hne, pk_uLn hne, pk_uLn hne]
            by_cases hrq : r < q
            · rw [if_pos hrq] at h5
              rw [if_pos (by omega)]
              exact h5
            · rw [if_neg hrq] at h5
              rw [if_neg (by omega)]
              exact h5)
        refine ⟨vs', ws', fi', ?_, i2⟩
        unfold lpX4_stepBack_2_2
        rw [if_neg (nI_ge hqs (by omega)), if_neg (nI_in (show q < l by omega) (by omega)), nI_clamp (by omega : q < 2 ^ 31), q1, cp_holds (show st q < l by omega) (by omega) heq (by omega) (by omega), ob_eq rfl, if_pos c, if_neg (show ¬ (1 : Int32) = 0 by decide), m2, ob_eq rfl, a1, ob_eq rfl, hch, ob_eq rfl, nI_1 q]
        exact i1
      · obtain ⟨vs', ws', fi', i1, i2⟩ := cp_step2 hR hu ho hsn hP ht hK hb hf0 hn hn4 hl hl4 hv fu (q + 1) vs ws fi (by omega) (by omega) (fun r hr => by
          have h5 := hi r hr
          by_cases er : r = q
          · subst er
            rw [if_neg (Nat.lt_irrefl r)] at h5
            rw [if_pos (by omega)]
            unfold CI at h5 ⊢
            rw [show max t (e (st r)) = max (t + 1) (e (st r)) by omega]
            exact h5
          · by_cases hrq : r < q
            · rw [if_pos hrq] at h5
              rw [if_pos (by omega)]
              exact h5
            · rw [if_neg hrq] at h5
              rw [if_neg (by omega)]
              exact h5)
        refine ⟨vs', ws', fi', ?_, i2⟩
        unfold lpX4_stepBack_2_2
        rw [if_neg (nI_ge hqs (by omega)), if_neg (nI_in (show q < l by omega) (by omega)), nI_clamp (by omega : q < 2 ^ 31), q1, cp_holds (show st q < l by omega) (by omega) heq (by omega) (by omega), ob_eq rfl, if_neg c, if_pos rfl, nI_1 q]
        exact i1
theorem cp_step3 {b : Bool} {a f od sn : Nat → Int32} {S N P s0 t n l kd fs ft : Nat} {x2 x3 : Int32} {e st : Nat → Nat} {sz : Nat} {states wanting earliest : Nat → Int32} (hR : RowN S N a) (hu : Nu N a f) (ho : ∀ t, t < S → od t = odF a t) (hsn : ∀ t, t < S → sn t = msk (obs a · t) N) (hP : P ≤ S) (ht : t < S) (hK : Kc kd fs ft x2 x3) (hb : b = kb kd) (hf0 : kd = 0 → fs = 0 ∧ ft = 0) (hn : n < 60000) (hn4 : 4 ^ N ≤ n) (hl : l < 60000) (hl4 : 4 ^ N ≤ l)
    (hv : RVc b a S N P s0 e st sz (4 ^ N) states wanting earliest) : ∀ (fu q : Nat) (vs ws fi : Nat → Int64), q ≤ sz → sz - q < fu → (∀ r, r < sz → CI a S N P kd fs ft e (if r < q then t else t + 1) (st r) vs ws fi) →
    ∃ vs' ws' fi', lpX4_stepBack_3_2 (nI t) (nI kd) x2 x3 n n n (nI S) (nI N) f sn od (nI P) (a 67) (nI sz) l states l wanting l earliest fu (nI q) vs ws fi = some (nI sz, vs', ws', fi') ∧ ∀ r, r < sz → CI a S N P kd fs ft e t (st r) vs' ws' fi'
  | 0, _, _, _, _, _, h, _ => by omega
  | fu + 1, q, vs, ws, fi, hq, hf, hi => by
    have hN := hR.2.2.1
    have hS := hR.2.1
    have hp := pow_le6 hN
    have hsz := hv.2.2.2.1
    by_cases eq : q = sz
    · subst eq
      refine ⟨vs, ws, fi, ?_, fun r hr => ?_⟩
      · unfold lpX4_stepBack_3_2
        rw [if_pos (nI_le (Nat.le_refl _) (by omega))]
      · have := hi r hr
        rw [if_pos hr] at this
        exact this
    · have hqs : q < sz := by omega
      obtain ⟨q1, q2, q3⟩ := hv.1 q hqs
      have he13 := hv.2.2.2.2.2.2.1 (st q)
      have heq := hv.2.2.2.2.1 (st q) q2
      have heS := (hv.2.2.2.2.2.2.2.1 (st q) q3).1
      by_cases c : e (st q) ≤ t
      · obtain ⟨m1, m2, m3⟩ := cp_possible (b := b) (n := l) hS (show st q < l by omega) (by omega) hsn hN ht (hv.2.2.2.2.2.2.2.2 (st q) q2 q3).1
        obtain ⟨m, a1, a2⟩ := cp_allowed (a := a) (P := P) (t := t) (x := m1) hK (by omega) (by omega)
        have hok : ∀ k, k < N → bt m k = okc a N P kd fs ft (st q) k t := fun k hk => by
          rw [a2 k (by omega), m3 k hk, hb]; rfl
        have hnx : ∀ k, k < N → bt m k = true → ∃ r, q < r ∧ r < sz ∧ st r = st q + 4 ^ k ∧ e (st r) ≤ t + 1 := fun k hk h => by
          rw [a2 k (by omega), m3 k hk, Bool.and_eq_true] at h
          exact cp_next hR hv hqs ht c hk h.1
        have hbn : ∀ k, k < N → bt m k = true → st q + 4 ^ k < n := fun k hk h => by
          obtain ⟨r, r1, r2, r3, r4⟩ := hnx k hk h
          have := (hv.1 r r2).2.1
          omega
        have hch := cp_choose (vs := vs) (ws := ws) (fi := fi) hR hu ho hP ht hK hn (show st q < n by omega) hbn
        obtain ⟨d, hd⟩ : ∃ d, S = t + (d + 1) := ⟨S - t - 1, by omega⟩
        have hiq := hi q hqs
        rw [if_neg (Nat.lt_irrefl q)] at hiq
        have hself : S - max (t + 1) (e (st q)) = d := by omega
        unfold CI at hiq
        rw [hself] at hiq
        have hnv : ∀ k, k < N → bt m k = true → CI a S N P kd fs ft e (t + 1) (st q + 4 ^ k) vs ws fi ∧ S - max (t + 1) (e (st q + 4 ^ k)) = d := fun k hk h => by
          obtain ⟨r, r1, r2, r3, r4⟩ := hnx k hk h
          have h5 := hi r r2
          rw [if_neg (by omega), r3] at h5
          rw [r3] at r4
          exact ⟨h5, by omega⟩
        have hV := chE_V (ws := ws) (fi := fi) (vs := vs) (c := bt m) (s := st q) hR (show d < 12 by omega) (show t = S - (d + 1) by omega) hok hiq.1 (fun k hk h => by
          obtain ⟨g1, g2⟩ := hnv k hk h
          have g3 := g1.1
          rw [g2] at g3
          exact g3)
        have hWF : kd = 0 → (chE vs ws fi (st q) (gn a P kd t) t (bt m) (nno kd fs t) N).2.1 = Wd a S N P (d + 1) (st q) ∧ (chE vs ws fi (st q) (gn a P kd t) t (bt m) (nno kd fs t) N).2.2 = lN (Fn a S N P (d + 1) (st q)) := fun h0 => by
          obtain ⟨f1, f2⟩ := hf0 h0
          subst h0 f1 f2
          refine chE_W (ws := ws) (fi := fi) (vs := vs) (c := bt m) (s := st q) hR (show d < 12 by omega) (by omega) (show t = S - (d + 1) by omega) hok hiq.1 (fun k hk h => ?_) (hiq.2 rfl).1 (fun k hk h => ?_) (hiq.2 rfl).2 (fun k hk h => ?_)
          · obtain ⟨g1, g2⟩ := hnv k hk h
            have g3 := g1.1
            rw [g2] at g3
            exact g3
          · obtain ⟨g1, g2⟩ := hnv k hk h
            have g3 := (g1.2 rfl).1
            rw [g2] at g3
            exact g3
          · obtain ⟨g1, g2⟩ := hnv k hk h
            have g3 := (g1.2 rfl).2
            rw [g2] at g3
            exact g3
        obtain ⟨vs', ws', fi', i1, i2⟩ := cp_step3 hR hu ho hsn hP ht hK hb hf0 hn hn4 hl hl4 hv fu (q + 1) (vp_updL vs (st q) (chE vs ws fi (st q) (gn a P kd t) t (bt m) (nno kd fs t) N).1) (vp_updL ws (st q) (chE vs ws fi (st q) (gn a P kd t) t (bt m) (nno kd fs t) N).2.1) (vp_updL fi (st q) (chE vs ws fi (st q) (gn a P kd t) t (bt m) (nno kd fs t) N).2.2) (by omega) (by omega) (fun r hr => by
          by_cases er : r = q
          · subst er
            rw [if_pos (by omega)]
            unfold CI
            rw [pk_uLs, pk_uLs, pk_uLs, show S - max t (e (st r)) = d + 1 by omega]
            exact ⟨hV, hWF⟩
          · have hne : st r ≠ st q := fun h => by
              rcases Nat.lt_trichotomy r q with h2 | h2 | h2
              · have := hv.2.1 r q h2 hqs; omega
              · exact er h2
              · have := hv.2.1 q r h2 hr; omega
            have h5 := hi r hr
            unfold CI at h5 ⊢
            rw [pk_uLn hne, pk_uLn hne, pk_uLn hne]
            by_cases hrq : r < q
            · rw [if_pos hrq] at h5
              rw [if_pos (by omega)]
              exact h5
            · rw [if_neg hrq] at h5
              rw [if_neg (by omega)]
              exact h5)
        refine ⟨vs', ws', fi', ?_, i2⟩
        unfold lpX4_stepBack_3_2
        rw [if_neg (nI_ge hqs (by omega)), if_neg (nI_in (show q < l by omega) (by omega)), nI_clamp (by omega : q < 2 ^ 31), q1, cp_holds (show st q < l by omega) (by omega) heq (by omega) (by omega), ob_eq rfl, if_pos c, if_neg (show ¬ (1 : Int32) = 0 by decide), m2, ob_eq rfl, a1, ob_eq rfl, hch, ob_eq rfl, nI_1 q]
        exact i1
      · obtain ⟨vs', ws', fi', i1, i2⟩ := cp_step3 hR hu ho hsn hP ht hK hb hf0 hn hn4 hl hl4 hv fu (q + 1) vs ws fi (by omega) (by omega) (fun r hr => by
          have h5 := hi r hr
          by_cases er : r = q
          · subst er
            rw [if_neg (Nat.lt_irrefl r)] at h5
            rw [if_pos (by omega)]
            unfold CI at h5 ⊢
            rw [show max t (e (st r)) = max (t + 1) (e (st r)) by omega]
            exact h5
          · by_cases hrq : r < q
            · rw [if_pos hrq] at h5
              rw [if_pos (by omega)]
              exact h5
            · rw [if_neg hrq] at h5
              rw [if_neg (by omega)]
              exact h5)
        refine ⟨vs', ws', fi', ?_, i2⟩
        unfold lpX4_stepBack_3_2
        rw [if_neg (nI_ge hqs (by omega)), if_neg (nI_in (show q < l by omega) (by omega)), nI_clamp (by omega : q < 2 ^ 31), q1, cp_holds (show st q < l by omega) (by omega) heq (by omega) (by omega), ob_eq rfl, if_neg c, if_pos rfl, nI_1 q]
        exact i1
