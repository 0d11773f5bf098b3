/-! THE READER: scanning a text -/
/-- the first place from t on without p, at most d places on -/
def scn (p : Nat → Bool) : Nat → Nat → Nat
  | 0, t => t
  | d + 1, t => if p t then scn p d (t + 1) else t
theorem scn_ge (p : Nat → Bool) : ∀ d t, t ≤ scn p d t
  | 0, t => Nat.le_refl _
  | d + 1, t => by
    unfold scn
    by_cases h : p t = true
    · rw [if_pos h]
      have := scn_ge p d (t + 1)
      omega
    · rw [if_neg h]
      exact Nat.le_refl _
theorem scn_le (p : Nat → Bool) : ∀ d t, scn p d t ≤ t + d
  | 0, t => Nat.le_refl _
  | d + 1, t => by
    unfold scn
    by_cases h : p t = true
    · rw [if_pos h]
      have := scn_le p d (t + 1)
      omega
    · rw [if_neg h]
      omega
theorem scn_stop (p : Nat → Bool) : ∀ d t, scn p d t < t + d → p (scn p d t) = false
  | 0, t, h => by
    unfold scn at h
    omega
  | d + 1, t, h => by
    unfold scn at h ⊢
    by_cases c : p t = true
    · rw [if_pos c] at h ⊢
      exact scn_stop p d (t + 1) (by omega)
    · rw [if_neg c]
      exact Bool.eq_false_iff.mpr c
theorem scn_gt {p : Nat → Bool} {d t : Nat} (hd : 0 < d) (h : p t = true) : t < scn p d t := by
  obtain ⟨e, rfl⟩ : ∃ e, d = e + 1 := ⟨d - 1, by omega⟩
  unfold scn
  rw [if_pos h]
  have := scn_ge p e (t + 1)
  omega
theorem scn_no {p : Nat → Bool} {d t : Nat} (h : p t = false) : scn p d t = t := by
  cases d with
  | zero => rfl
  | succ d =>
    unfold scn
    rw [if_neg (by rw [h]; decide)]
def iS (b : Nat → Int32) (i : Nat) : Bool := decide (b i = 32)
def iL (b : Nat → Int32) (i : Nat) : Bool := decide (97 ≤ (b i).toInt ∧ (b i).toInt ≤ 122)
def iD (b : Nat → Int32) (i : Nat) : Bool := decide (48 ≤ (b i).toInt ∧ (b i).toInt ≤ 57)
theorem l97 : (97 : Int64).toInt = 97 := by decide
theorem l122 : (122 : Int64).toInt = 122 := by decide
theorem l48 : (48 : Int64).toInt = 48 := by decide
theorem l57 : (57 : Int64).toInt = 57 := by decide
theorem k97 : (97 : Int32).toInt = 97 := by decide
theorem k122 : (122 : Int32).toInt = 122 := by decide
theorem k48 : (48 : Int32).toInt = 48 := by decide
theorem k57 : (57 : Int32).toInt = 57 := by decide
theorem km1 : (-1 : Int32).toInt = -1 := by decide
theorem m_see {b : Nat → Int32} {n t : Nat} (hn : n ≤ 500) (h : t < n) : pX9_see (nI t) b (nI n) = some (b t) := by
  unfold pX9_see
  rw [if_neg (nI_ge h (by omega)), if_neg (in_ok rfl (by omega : t < 500) (by omega)), clampN (x := nI t) rfl (by omega)]
theorem m_seeE {b : Nat → Int32} {n t : Nat} (hn : n ≤ 500) (ht : t < 60000) (h : n ≤ t) : pX9_see (nI t) b (nI n) = some (-1) := by
  unfold pX9_see
  rw [if_pos (nI_le h (by omega))]
theorem in_L (b : Nat → Int32) (t : Nat) : pX9_isIn (b t).toInt64 (97 : Int64) (122 : Int64) = some (if iL b t then 1 else 0) := by
  rw [isIn_eq, l97, l122, Int32.toInt_toInt64]
  unfold iL
  by_cases c : 97 ≤ (b t).toInt ∧ (b t).toInt ≤ 122
  · rw [if_pos c, decide_eq_true c]; rfl
  · rw [if_neg c, decide_eq_false c]; rfl
theorem in_D (b : Nat → Int32) (t : Nat) : pX9_isIn (b t).toInt64 (48 : Int64) (57 : Int64) = some (if iD b t then 1 else 0) := by
  rw [isIn_eq, l48, l57, Int32.toInt_toInt64]
  unfold iD
  by_cases c : 48 ≤ (b t).toInt ∧ (b t).toInt ≤ 57
  · rw [if_pos c, decide_eq_true c]; rfl
  · rw [if_neg c, decide_eq_false c]; rfl
theorem in_LE : pX9_isIn (-1 : Int32).toInt64 (97 : Int64) (122 : Int64) = some 0 := by
  rw [isIn_eq, l97, l122, Int32.toInt_toInt64, km1, if_neg (by omega)]
theorem in_DE : pX9_isIn (-1 : Int32).toInt64 (48 : Int64) (57 : Int64) = some 0 := by
  rw [isIn_eq, l48, l57, Int32.toInt_toInt64, km1, if_neg (by omega)]
theorem c_isDigit (b : Nat → Int32) (t : Nat) : pX7_isDigit (b t) = some (if iD b t then 1 else 0) := by
  unfold pX7_isDigit iD
  by_cases c1 : 48 ≤ (b t).toInt
  · rw [if_neg (fun h => by rw [fa_lt, k48] at h; omega)]
    by_cases c2 : (b t).toInt ≤ 57
    · rw [if_neg (fun h => by rw [fa_lt, k57] at h; omega), decide_eq_true ⟨c1, c2⟩]; rfl
    · rw [if_pos (by rw [fa_lt, k57]; omega), decide_eq_false (fun h => c2 h.2)]; rfl
  · rw [if_pos (by rw [fa_lt, k48]; omega), decide_eq_false (fun h => c1 h.1)]; rfl
/-- two buffers alike up to n -/
def Al (n : Nat) (b rb : Nat → Int32) : Prop := n ≤ 500 ∧ ∀ i, i < n → rb i = b i
theorem c_skipLoop {b rb : Nat → Int32} {n : Nat} (h : Al n b rb) : ∀ (fu d t : Nat), t + d = n → d < fu → lpX7_skipSpaces_0 rb (nI n) fu (nI t) = some (nI (scn (iS b) d t))
  | 0, _, _, _, h => by omega
  | fu + 1, 0, t, ht, _ => by
    unfold lpX7_skipSpaces_0 scn
    have := h.1
    rw [if_pos (nI_le (by omega) (by omega))]
  | fu + 1, d + 1, t, ht, hf => by
    have h5 := h.1
    unfold lpX7_skipSpaces_0 scn
    rw [if_neg (nI_ge (by omega) (by omega)), if_neg (in_ok rfl (by omega : t < 500) (by omega)), clampN (x := nI t) rfl (by omega), h.2 t (by omega)]
    by_cases c : b t = 32
    · rw [if_neg (fun q => q c), if_pos (show iS b t = true from decide_eq_true c), nI_1 t]
      exact c_skipLoop h fu d (t + 1) (by omega) (by omega)
    · rw [if_pos c, if_neg (show ¬ iS b t = true from fun q => c (of_decide_eq_true q))]
theorem c_skip {b rb : Nat → Int32} {n t : Nat} (h : Al n b rb) (ht : t ≤ n) : pX7_skipSpaces rb (nI n) (nI t) = some (nI (scn (iS b) (n - t) t)) := by
  have h5 := h.1
  unfold pX7_skipSpaces
  rw [ob_eq (c_skipLoop h lpF (n - t) t (by omega) (by have := lpF_big; omega))]
theorem m_skipLoop {b : Nat → Int32} {n : Nat} (hn : n ≤ 500) : ∀ (fu d t : Nat), t + d = n → d < fu → lpX9_next_8 b (nI n) fu (nI t) = some (nI (scn (iS b) d t))
  | 0, _, _, _, h => by omega
  | fu + 1, 0, t, ht, _ => by
    unfold lpX9_next_8 scn
    rw [m_seeE hn (by omega) (by omega), ob_eq rfl, if_pos (by decide)]
  | fu + 1, d + 1, t, ht, hf => by
    unfold lpX9_next_8 scn
    rw [m_see hn (by omega), ob_eq rfl]
    by_cases c : b t = 32
    · rw [if_neg (fun q => q c), if_pos (show iS b t = true from decide_eq_true c), nI_1 t]
      exact m_skipLoop hn fu d (t + 1) (by omega) (by omega)
    · rw [if_pos c, if_neg (show ¬ iS b t = true from fun q => c (of_decide_eq_true q))]
theorem c_wordLoop {b rb : Nat → Int32} {n : Nat} (h : Al n b rb) : ∀ (fu d t : Nat), t + d = n → d < fu → lpX7_takeWord_12 rb (nI n) fu (nI t) = some (nI (scn (iL b) d t))
  | 0, _, _, _, h => by omega
  | fu + 1, 0, t, ht, _ => by
    unfold lpX7_takeWord_12 scn
    have := h.1
    rw [if_pos (nI_le (by omega) (by omega))]
  | fu + 1, d + 1, t, ht, hf => by
    have h5 := h.1
    unfold lpX7_takeWord_12 scn
    rw [if_neg (nI_ge (by omega) (by omega)), if_neg (in_ok rfl (by omega : t < 500) (by omega)), clampN (x := nI t) rfl (by omega), h.2 t (by omega)]
    by_cases c1 : 97 ≤ (b t).toInt
    · rw [if_neg (show ¬ b t < 97 from fun q => by rw [fa_lt, k97] at q; omega)]
      by_cases c2 : (b t).toInt ≤ 122
      · rw [if_neg (show ¬ 122 < b t from fun q => by rw [fa_lt, k122] at q; omega), if_pos (show iL b t = true from decide_eq_true ⟨c1, c2⟩), nI_1 t]
        exact c_wordLoop h fu d (t + 1) (by omega) (by omega)
      · rw [if_pos (show 122 < b t by rw [fa_lt, k122]; omega), if_neg (show ¬ iL b t = true from fun q => c2 (of_decide_eq_true q).2)]
    · rw [if_pos (show b t < 97 by rw [fa_lt, k97]; omega), if_neg (show ¬ iL b t = true from fun q => c1 (of_decide_eq_true q).1)]
theorem m_wordLoop {b : Nat → Int32} {n : Nat} (hn : n ≤ 500) : ∀ (fu d t : Nat), t + d = n → d < fu → lpX9_next_85 b (nI n) fu (nI t) = some (nI (scn (iL b) d t))
  | 0, _, _, _, h => by omega
  | fu + 1, 0, t, ht, _ => by
    unfold lpX9_next_85 scn
    rw [m_seeE hn (by omega) (by omega), ob_eq rfl, in_LE, ob_eq rfl, if_pos rfl]
  | fu + 1, d + 1, t, ht, hf => by
    unfold lpX9_next_85 scn
    rw [m_see hn (by omega), ob_eq rfl, in_L, ob_eq rfl]
    cases c : iL b t with
    | true =>
      rw [if_neg i1t, if_pos rfl, nI_1 t]
      exact m_wordLoop hn fu d (t + 1) (by omega) (by omega)
    | false =>
      rw [if_pos i0f, if_neg (show ¬ false = true by decide)]
/-- the digits' values: alike, or both far too great -/
def Dr (cv mv : Nat) : Prop := (cv = mv ∧ cv < 100000) ∨ (100000 ≤ cv ∧ 100000 ≤ mv ∧ cv ≤ 1000009 ∧ mv ≤ 100000009)
theorem digit_of {b : Nat → Int32} {t : Nat} (h : iD b t = true) : ∃ q : Nat, q ≤ 9 ∧ b t = nI (48 + q) := by
  have h2 := of_decide_eq_true h
  refine ⟨((b t).toInt - 48).toNat, by omega, ?_⟩
  rw [fa_eq, nI_toInt (by omega)]
  omega
theorem cstep {cv q : Nat} : (((10 : Int32) * nI cv) + nI (48 + q)) - (48 : Int32) = nI (10 * cv + q) := by
  have h1 : nI (10 * cv + q) + (48 : Int32) = ((10 : Int32) * nI cv) + nI (48 + q) := by
    rw [show (10 : Int32) * nI cv = nI (10 * cv) from muls rfl rfl rfl, nI_add, show nI (10 * cv + q) + (48 : Int32) = nI (10 * cv + q + 48) from adds rfl rfl rfl]
    congr 1
    omega
  rw [← h1, Int32.add_sub_cancel]
theorem mstep {mv q : Nat} (hm : mv ≤ 100000009) (hq : q ≤ 9) : (((10 : Int64) * lN mv) + (nI (48 + q)).toInt64) - (48 : Int64) = lN (10 * mv + q) := by
  have e1 : (10 : Int64).toInt = 10 := by decide
  have e2 : (lN mv).toInt = mv := lN_toInt (by omega)
  rw [nI_l (by omega), fa_eq64]
  have e3 : (lN (48 + q)).toInt = ((48 + q : Nat) : Int) := lN_toInt (by omega)
  have e4 : (lN (10 * mv + q)).toInt = ((10 * mv + q : Nat) : Int) := lN_toInt (by omega)
  have m1 : ((10 : Int64) * lN mv).toInt = 10 * (mv : Int) := by
    rw [fb_mulL (by rw [e1, e2]; omega) (by rw [e1, e2]; omega), e1, e2]
  have m2 : ((10 : Int64) * lN mv + lN (48 + q)).toInt = 10 * (mv : Int) + ((48 + q : Nat) : Int) := by
    rw [fb_addL (by rw [m1, e3]; omega) (by rw [m1, e3]; omega), m1, e3]
  rw [fb_subL (by rw [m2, l48]; omega) (by rw [m2, l48]; omega), m2, l48, e4]
  omega
theorem digits_both {b rb : Nat → Int32} {n : Nat} (h : Al n b rb) : ∀ (fu d t cv mv : Nat), t + d = n → d < fu → Dr cv mv → ∃ cv' mv', lpX7_takeDigits_2 rb (nI n) fu (nI cv) (nI t) = some (nI cv', nI (scn (iD b) d t)) ∧ lpX9_digits_5 b (nI n) fu (nI t) (lN mv) = some (nI (scn (iD b) d t), lN mv') ∧ Dr cv' mv'
  | 0, _, _, _, _, _, h, _ => by omega
  | fu + 1, 0, t, cv, mv, ht, _, hd => by
    have h5 := h.1
    refine ⟨cv, mv, ?_, ?_, hd⟩
    · unfold lpX7_takeDigits_2 scn
      rw [if_pos (nI_le (by omega) (by omega))]
    · unfold lpX9_digits_5 scn
      rw [m_seeE h5 (by omega) (by omega), ob_eq rfl, in_DE, ob_eq rfl, if_pos rfl]
  | fu + 1, d + 1, t, cv, mv, ht, hf, hd => by
    have h5 := h.1
    unfold lpX7_takeDigits_2 lpX9_digits_5 scn
    rw [if_neg (nI_ge (by omega) (by omega)), if_neg (in_ok rfl (by omega : t < 500) (by omega)), clampN (x := nI t) rfl (by omega), h.2 t (by omega), c_isDigit, ob_eq rfl, m_see h5 (by omega), ob_eq rfl, in_D, ob_eq rfl, ob_eq rfl]
    cases c : iD b t with
    | false =>
      rw [if_pos i0f, if_pos i0f, if_neg (show ¬ false = true by decide)]
      exact ⟨cv, mv, rfl, rfl, hd⟩
    | true =>
      obtain ⟨q, hq, hbq⟩ := digit_of c
      rw [if_neg i1t, if_neg i1t, if_pos rfl, nI_1 t, hbq, cstep]
      have e7 : (10000000 : Int64).toInt = 10000000 := by decide
      rcases hd with ⟨e, hlt⟩ | ⟨d1, d2, d3, d4⟩
      · subst e
        rw [if_pos (show nI cv < (100000 : Int32) from nI_lt (b := 100000) hlt (by omega)), if_neg (fun g => by rw [lg_cmp_ge, fa_le64, e7, lN_toInt (by omega)] at g; omega), mstep (by omega) hq]
        exact digits_both h fu d (t + 1) _ _ (by omega) (by omega) (by unfold Dr; omega)
      · rw [if_neg (show ¬ nI cv < (100000 : Int32) from nI_nlt (b := 100000) (by omega) (by omega))]
        by_cases g : 10000000 ≤ mv
        · rw [if_pos (by rw [lg_cmp_ge, fa_le64, e7, lN_toInt (by omega)]; omega)]
          exact digits_both h fu d (t + 1) _ _ (by omega) (by omega) (Or.inr ⟨d1, d2, d3, d4⟩)
        · rw [if_neg (fun g2 => by rw [lg_cmp_ge, fa_le64, e7, lN_toInt (by omega)] at g2; omega), mstep (by omega) hq]
          exact digits_both h fu d (t + 1) _ _ (by omega) (by omega) (Or.inr ⟨d1, by omega, d3, by omega⟩)
/-- the digits from a place on, read by both -/
def Dg (b rb : Nat → Int32) (n t cv mv : Nat) : Prop := pX7_takeDigits rb (nI n) (nI t) = some (nI cv, nI (scn (iD b) (n - t) t)) ∧ pX9_digits b (nI n) (nI t) = some (nI (scn (iD b) (n - t) t), lN mv) ∧ Dr cv mv
theorem dg_ex {b rb : Nat → Int32} {n t : Nat} (h : Al n b rb) (ht : t ≤ n) : ∃ cv mv, Dg b rb n t cv mv := by
  have h5 := h.1
  obtain ⟨cv, mv, q1, q2, q3⟩ := digits_both h lpF (n - t) t 0 0 (by omega) (by have := lpF_big; omega) (Or.inl ⟨rfl, by omega⟩)
  refine ⟨cv, mv, ?_, ?_, q3⟩
  · unfold pX7_takeDigits
    rw [ob_eq (show lpX7_takeDigits_2 rb (nI n) lpF (0 : Int32) (nI t) = _ from q1)]
  · unfold pX9_digits
    rw [ob_eq (show lpX9_digits_5 b (nI n) lpF (nI t) (0 : Int64) = _ from q2)]
