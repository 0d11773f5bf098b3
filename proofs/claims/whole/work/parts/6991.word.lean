/-! WORDS -/
/-- a word between two places -/
def mt (b : Nat → Int32) (q e : Nat) (w : List Int32) : Bool := decide (e = q + w.length) && decide (∀ s, s < w.length → b (q + s) = w.getD s 0)
def kwd (k : Nat) : List Int32 := strB.getD k []
theorem mt_iff {b : Nat → Int32} {q e : Nat} {w : List Int32} : mt b q e w = true ↔ e = q + w.length ∧ ∀ s, s < w.length → b (q + s) = w.getD s 0 := by
  unfold mt
  rw [Bool.and_eq_true, decide_eq_true_eq, decide_eq_true_eq]
theorem nI_subN {e q : Nat} (h : q ≤ e) : nI e - nI q = nI (e - q) := by
  have h1 : nI (e - q) + nI q = nI e := by rw [nI_add]; congr 1; omega
  rw [← h1, Int32.add_sub_cancel]
def wk (b : Nat → Int32) (q e : Nat) : Nat := if mt b q e (kwd 0) then 0 else if mt b q e (kwd 1) then 1 else if mt b q e (kwd 2) then 2 else if mt b q e (kwd 3) then 3 else 4
theorem wl0 : (kwd 0).length = 5 := rfl
theorem wl1 : (kwd 1).length = 4 := rfl
theorem wl2 : (kwd 2).length = 3 := rfl
theorem wl3 : (kwd 3).length = 6 := rfl
theorem wk_le (b : Nat → Int32) (q e : Nat) : wk b q e ≤ 4 := by
  unfold wk
  cases mt b q e (kwd 0) <;> cases mt b q e (kwd 1) <;> cases mt b q e (kwd 2) <;> cases mt b q e (kwd 3) <;> decide
theorem mt_len {b : Nat → Int32} {q e : Nat} {w : List Int32} (h : mt b q e w = true) : e = q + w.length := (mt_iff.mp h).1
theorem mt_off {b : Nat → Int32} {q e : Nat} {w : List Int32} (h : ¬ e = q + w.length) : mt b q e w = false := Bool.eq_false_iff.mpr (fun c => h (mt_len c))
theorem wk_0 {b : Nat → Int32} {q e : Nat} : wk b q e = 0 ↔ mt b q e (kwd 0) = true := by
  unfold wk
  cases mt b q e (kwd 0) <;> cases mt b q e (kwd 1) <;> cases mt b q e (kwd 2) <;> cases mt b q e (kwd 3) <;> decide
theorem wk_1 {b : Nat → Int32} {q e : Nat} : wk b q e = 1 ↔ mt b q e (kwd 1) = true := by
  unfold wk
  cases h1 : mt b q e (kwd 1) with
  | true =>
    have := mt_len h1
    rw [wl1] at this
    rw [mt_off (w := kwd 0) (by rw [wl0]; omega)]
    cases mt b q e (kwd 2) <;> cases mt b q e (kwd 3) <;> decide
  | false => cases mt b q e (kwd 0) <;> cases mt b q e (kwd 2) <;> cases mt b q e (kwd 3) <;> decide
theorem wk_2 {b : Nat → Int32} {q e : Nat} : wk b q e = 2 ↔ mt b q e (kwd 2) = true := by
  unfold wk
  cases h1 : mt b q e (kwd 2) with
  | true =>
    have := mt_len h1
    rw [wl2] at this
    rw [mt_off (w := kwd 0) (by rw [wl0]; omega), mt_off (w := kwd 1) (by rw [wl1]; omega)]
    cases mt b q e (kwd 3) <;> decide
  | false => cases mt b q e (kwd 0) <;> cases mt b q e (kwd 1) <;> cases mt b q e (kwd 3) <;> decide
theorem wk_3 {b : Nat → Int32} {q e : Nat} : wk b q e = 3 ↔ mt b q e (kwd 3) = true := by
  unfold wk
  cases h1 : mt b q e (kwd 3) with
  | true =>
    have := mt_len h1
    rw [wl3] at this
    rw [mt_off (w := kwd 0) (by rw [wl0]; omega), mt_off (w := kwd 1) (by rw [wl1]; omega), mt_off (w := kwd 2) (by rw [wl2]; omega)]
    decide
  | false => cases mt b q e (kwd 0) <;> cases mt b q e (kwd 1) <;> cases mt b q e (kwd 2) <;> decide
/-! the class's comparison -/
theorem len_0 : pJ0_length_8abf5_1100 = some (nI 5) := by decide +kernel
theorem chr_0 : ∀ s, s < 5 → pJ0_charAt_5068e_1100 (nI s) = some ((kwd 0).getD s 0) := by decide +kernel
theorem c_isLoop0 {b rb : Nat → Int32} {n q : Nat} (h : Al n b rb) (hq : q + 5 ≤ n) : ∀ (fu s : Nat), s ≤ 5 → 5 - s < fu → (∀ r, r < s → b (q + r) = (kwd 0).getD r 0) → (∃ y, lpX7_wordIs_1100_20 rb (nI q) fu (nI s) = some (.inl y) ∧ ∀ r, r < 5 → b (q + r) = (kwd 0).getD r 0) ∨ (lpX7_wordIs_1100_20 rb (nI q) fu (nI s) = some (.inr 0) ∧ ¬ ∀ r, r < 5 → b (q + r) = (kwd 0).getD r 0)
  | 0, _, _, h, _ => by omega
  | fu + 1, s, hs, hf, hr => by
    have h5 := h.1
    unfold lpX7_wordIs_1100_20
    rw [ob_eq len_0]
    by_cases e : s = 5
    · subst e
      rw [if_pos (nI_le (Nat.le_refl _) (by omega))]
      exact Or.inl ⟨_, rfl, hr⟩
    · have e1 : nI q + nI s = nI (q + s) := adds rfl rfl rfl
      rw [if_neg (nI_ge (by omega) (by omega)), if_neg (in_ok e1 (by omega : q + s < 500) (by omega)), clampN e1 (by omega), ob_eq (chr_0 s (by omega)), h.2 _ (by omega)]
      by_cases c : b (q + s) = (kwd 0).getD s 0
      · rw [if_pos c, nI_1 s]
        exact c_isLoop0 h hq fu (s + 1) (by omega) (by omega) (fun r hr2 => by
          by_cases c2 : r = s
          · rw [c2]; exact c
          · exact hr r (by omega))
      · rw [if_neg c]
        exact Or.inr ⟨rfl, fun q2 => c (q2 s (by omega))⟩
theorem c_wordIs0 {b rb : Nat → Int32} {n q e : Nat} (h : Al n b rb) (hq : q ≤ e) (he : e ≤ n) : pX7_wordIs_1100 rb (nI e) (nI q) = some (if mt b q e (kwd 0) then 1 else 0) := by
  have h5 := h.1
  unfold pX7_wordIs_1100
  rw [ob_eq len_0, nI_subN hq]
  by_cases c : e - q = 5
  · rw [if_pos (by rw [c])]
    rcases c_isLoop0 (q := q) h (by omega) lpF 0 (by omega) (by have := lpF_big; omega) (fun r hr => by omega) with ⟨y, q1, q2⟩ | ⟨q1, q2⟩
    · rw [ob_eq (show lpX7_wordIs_1100_20 rb (nI q) lpF (0 : Int32) = _ from q1), if_pos (show mt b q e (kwd 0) = true from mt_iff.mpr ⟨by rw [wl0]; omega, fun s hs => q2 s (by rw [wl0] at hs; exact hs)⟩)]
    · rw [ob_eq (show lpX7_wordIs_1100_20 rb (nI q) lpF (0 : Int32) = _ from q1), if_neg (show ¬ mt b q e (kwd 0) = true from fun g => q2 (fun r hr => (mt_iff.mp g).2 r (by rw [wl0]; exact hr)))]
  · rw [if_neg (fun g => c ((keq 5 (by omega) (by omega)).mp g)), mt_off (by rw [wl0]; omega)]
    rfl
theorem len_1 : pJ0_length_8abf5_1101 = some (nI 4) := by decide +kernel
theorem chr_1 : ∀ s, s < 4 → pJ0_charAt_5068e_1101 (nI s) = some ((kwd 1).getD s 0) := by decide +kernel
theorem c_isLoop1 {b rb : Nat → Int32} {n q : Nat} (h : Al n b rb) (hq : q + 4 ≤ n) : ∀ (fu s : Nat), s ≤ 4 → 4 - s < fu → (∀ r, r < s → b (q + r) = (kwd 1).getD r 0) → (∃ y, lpX7_wordIs_1101_20 rb (nI q) fu (nI s) = some (.inl y) ∧ ∀ r, r < 4 → b (q + r) = (kwd 1).getD r 0) ∨ (lpX7_wordIs_1101_20 rb (nI q) fu (nI s) = some (.inr 0) ∧ ¬ ∀ r, r < 4 → b (q + r) = (kwd 1).getD r 0)
  | 0, _, _, h, _ => by omega
  | fu + 1, s, hs, hf, hr => by
    have h5 := h.1
    unfold lpX7_wordIs_1101_20
    rw [ob_eq len_1]
    by_cases e : s = 4
    · subst e
      rw [if_pos (nI_le (Nat.le_refl _) (by omega))]
      exact Or.inl ⟨_, rfl, hr⟩
    · have e1 : nI q + nI s = nI (q + s) := adds rfl rfl rfl
      rw [if_neg (nI_ge (by omega) (by omega)), if_neg (in_ok e1 (by omega : q + s < 500) (by omega)), clampN e1 (by omega), ob_eq (chr_1 s (by omega)), h.2 _ (by omega)]
      by_cases c : b (q + s) = (kwd 1).getD s 0
      · rw [if_pos c, nI_1 s]
        exact c_isLoop1 h hq fu (s + 1) (by omega) (by omega) (fun r hr2 => by
          by_cases c2 : r = s
          · rw [c2]; exact c
          · exact hr r (by omega))
      · rw [if_neg c]
        exact Or.inr ⟨rfl, fun q2 => c (q2 s (by omega))⟩
theorem c_wordIs1 {b rb : Nat → Int32} {n q e : Nat} (h : Al n b rb) (hq : q ≤ e) (he : e ≤ n) : pX7_wordIs_1101 rb (nI e) (nI q) = some (if mt b q e (kwd 1) then 1 else 0) := by
  have h5 := h.1
  unfold pX7_wordIs_1101
  rw [ob_eq len_1, nI_subN hq]
  by_cases c : e - q = 4
  · rw [if_pos (by rw [c])]
    rcases c_isLoop1 (q := q) h (by omega) lpF 0 (by omega) (by have := lpF_big; omega) (fun r hr => by omega) with ⟨y, q1, q2⟩ | ⟨q1, q2⟩
    · rw [ob_eq (show lpX7_wordIs_1101_20 rb (nI q) lpF (0 : Int32) = _ from q1), if_pos (show mt b q e (kwd 1) = true from mt_iff.mpr ⟨by rw [wl1]; omega, fun s hs => q2 s (by rw [wl1] at hs; exact hs)⟩)]
    · rw [ob_eq (show lpX7_wordIs_1101_20 rb (nI q) lpF (0 : Int32) = _ from q1), if_neg (show ¬ mt b q e (kwd 1) = true from fun g => q2 (fun r hr => (mt_iff.mp g).2 r (by rw [wl1]; exact hr)))]
  · rw [if_neg (fun g => c ((keq 4 (by omega) (by omega)).mp g)), mt_off (by rw [wl1]; omega)]
    rfl
theorem len_2 : pJ0_length_8abf5_1102 = some (nI 3) := by decide +kernel
theorem chr_2 : ∀ s, s < 3 → pJ0_charAt_5068e_1102 (nI s) = some ((kwd 2).getD s 0) := by decide +kernel
theorem c_isLoop2 {b rb : Nat → Int32} {n q : Nat} (h : Al n b rb) (hq : q + 3 ≤ n) : ∀ (fu s : Nat), s ≤ 3 → 3 - s < fu → (∀ r, r < s → b (q + r) = (kwd 2).getD r 0) → (∃ y, lpX7_wordIs_1102_20 rb (nI q) fu (nI s) = some (.inl y) ∧ ∀ r, r < 3 → b (q + r) = (kwd 2).getD r 0) ∨ (lpX7_wordIs_1102_20 rb (nI q) fu (nI s) = some (.inr 0) ∧ ¬ ∀ r, r < 3 → b (q + r) = (kwd 2).getD r 0)
  | 0, _, _, h, _ => by omega
  | fu + 1, s, hs, hf, hr => by
    have h5 := h.1
    unfold lpX7_wordIs_1102_20
    rw [ob_eq len_2]
    by_cases e : s = 3
    · subst e
      rw [if_pos (nI_le (Nat.le_refl _) (by omega))]
      exact Or.inl ⟨_, rfl, hr⟩
    · have e1 : nI q + nI s = nI (q + s) := adds rfl rfl rfl
      rw [if_neg (nI_ge (by omega) (by omega)), if_neg (in_ok e1 (by omega : q + s < 500) (by omega)), clampN e1 (by omega), ob_eq (chr_2 s (by omega)), h.2 _ (by omega)]
      by_cases c : b (q + s) = (kwd 2).getD s 0
      · rw [if_pos c, nI_1 s]
        exact c_isLoop2 h hq fu (s + 1) (by omega) (by omega) (fun r hr2 => by
          by_cases c2 : r = s
          · rw [c2]; exact c
          · exact hr r (by omega))
      · rw [if_neg c]
        exact Or.inr ⟨rfl, fun q2 => c (q2 s (by omega))⟩
theorem c_wordIs2 {b rb : Nat → Int32} {n q e : Nat} (h : Al n b rb) (hq : q ≤ e) (he : e ≤ n) : pX7_wordIs_1102 rb (nI e) (nI q) = some (if mt b q e (kwd 2) then 1 else 0) := by
  have h5 := h.1
  unfold pX7_wordIs_1102
  rw [ob_eq len_2, nI_subN hq]
  by_cases c : e - q = 3
  · rw [if_pos (by rw [c])]
    rcases c_isLoop2 (q := q) h (by omega) lpF 0 (by omega) (by have := lpF_big; omega) (fun r hr => by omega) with ⟨y, q1, q2⟩ | ⟨q1, q2⟩
    · rw [ob_eq (show lpX7_wordIs_1102_20 rb (nI q) lpF (0 : Int32) = _ from q1), if_pos (show mt b q e (kwd 2) = true from mt_iff.mpr ⟨by rw [wl2]; omega, fun s hs => q2 s (by rw [wl2] at hs; exact hs)⟩)]
    · rw [ob_eq (show lpX7_wordIs_1102_20 rb (nI q) lpF (0 : Int32) = _ from q1), if_neg (show ¬ mt b q e (kwd 2) = true from fun g => q2 (fun r hr => (mt_iff.mp g).2 r (by rw [wl2]; exact hr)))]
  · rw [if_neg (fun g => c ((keq 3 (by omega) (by omega)).mp g)), mt_off (by rw [wl2]; omega)]
    rfl
theorem len_3 : pJ0_length_8abf5_1103 = some (nI 6) := by decide +kernel
theorem chr_3 : ∀ s, s < 6 → pJ0_charAt_5068e_1103 (nI s) = some ((kwd 3).getD s 0) := by decide +kernel
theorem c_isLoop3 {b rb : Nat → Int32} {n q : Nat} (h : Al n b rb) (hq : q + 6 ≤ n) : ∀ (fu s : Nat), s ≤ 6 → 6 - s < fu → (∀ r, r < s → b (q + r) = (kwd 3).getD r 0) → (∃ y, lpX7_wordIs_1103_20 rb (nI q) fu (nI s) = some (.inl y) ∧ ∀ r, r < 6 → b (q + r) = (kwd 3).getD r 0) ∨ (lpX7_wordIs_1103_20 rb (nI q) fu (nI s) = some (.inr 0) ∧ ¬ ∀ r, r < 6 → b (q + r) = (kwd 3).getD r 0)
  | 0, _, _, h, _ => by omega
  | fu + 1, s, hs, hf, hr => by
    have h5 := h.1
    unfold lpX7_wordIs_1103_20
    rw [ob_eq len_3]
    by_cases e : s = 6
    · subst e
      rw [if_pos (nI_le (Nat.le_refl _) (by omega))]
      exact Or.inl ⟨_, rfl, hr⟩
    · have e1 : nI q + nI s = nI (q + s) := adds rfl rfl rfl
      rw [if_neg (nI_ge (by omega) (by omega)), if_neg (in_ok e1 (by omega : q + s < 500) (by omega)), clampN e1 (by omega), ob_eq (chr_3 s (by omega)), h.2 _ (by omega)]
      by_cases c : b (q + s) = (kwd 3).getD s 0
      · rw [if_pos c, nI_1 s]
        exact c_isLoop3 h hq fu (s + 1) (by omega) (by omega) (fun r hr2 => by
          by_cases c2 : r = s
          · rw [c2]; exact c
          · exact hr r (by omega))
      · rw [if_neg c]
        exact Or.inr ⟨rfl, fun q2 => c (q2 s (by omega))⟩
theorem c_wordIs3 {b rb : Nat → Int32} {n q e : Nat} (h : Al n b rb) (hq : q ≤ e) (he : e ≤ n) : pX7_wordIs_1103 rb (nI e) (nI q) = some (if mt b q e (kwd 3) then 1 else 0) := by
  have h5 := h.1
  unfold pX7_wordIs_1103
  rw [ob_eq len_3, nI_subN hq]
  by_cases c : e - q = 6
  · rw [if_pos (by rw [c])]
    rcases c_isLoop3 (q := q) h (by omega) lpF 0 (by omega) (by have := lpF_big; omega) (fun r hr => by omega) with ⟨y, q1, q2⟩ | ⟨q1, q2⟩
    · rw [ob_eq (show lpX7_wordIs_1103_20 rb (nI q) lpF (0 : Int32) = _ from q1), if_pos (show mt b q e (kwd 3) = true from mt_iff.mpr ⟨by rw [wl3]; omega, fun s hs => q2 s (by rw [wl3] at hs; exact hs)⟩)]
    · rw [ob_eq (show lpX7_wordIs_1103_20 rb (nI q) lpF (0 : Int32) = _ from q1), if_neg (show ¬ mt b q e (kwd 3) = true from fun g => q2 (fun r hr => (mt_iff.mp g).2 r (by rw [wl3]; exact hr)))]
  · rw [if_neg (fun g => c ((keq 6 (by omega) (by omega)).mp g)), mt_off (by rw [wl3]; omega)]
    rfl
/-! the reference's comparison -/
def ky (i : Nat) : Int32 := (strB.getD 4 []).getD i 0
theorem len_4 : pJ0_length_8abf5_1104 = some (nI 23) := by decide +kernel
theorem chr_4 : ∀ s, s < 23 → pJ0_charAt_5068e_1104 (nI s) = some (ky s) := by decide +kernel
/-- a key word of the reference: it begins at k, is m long, and a space stands behind it -/
def Ky (k m : Nat) (w : List Int32) : Prop := k + m < 23 ∧ w.length = m ∧ ky (k + m) = 32 ∧ (∀ s, s < m → ¬ ky (k + s) = 32) ∧ ∀ s, s < m → ky (k + s) = w.getD s 0
theorem m_to {k m : Nat} {w : List Int32} (h : Ky k m w) : ∀ (fu s : Nat), s ≤ m → m - s < fu → lpX9_wordAt_97 fu (nI (k + s)) = some (nI (k + m))
  | 0, _, _, h => by omega
  | fu + 1, s, hs, hf => by
    obtain ⟨h1, h2, h3, h4, h5⟩ := id h
    unfold lpX9_wordAt_97
    rw [ob_eq (chr_4 _ (by omega))]
    by_cases e : s = m
    · subst e
      rw [if_pos h3]
    · rw [if_neg (h4 s (by omega)), nI_1]
      exact m_to h fu (s + 1) (by omega) (by omega)
theorem m_inner {b : Nat → Int32} {k m q e n : Nat} {w : List Int32} (h : Ky k m w) (hn : n ≤ 500) (hqe : q ≤ e) (he : e ≤ n) : ∀ (fu s : Nat), s ≤ m → m - s < fu → (∀ r, r < s → b (q + r) = w.getD r 0 ∧ q + r < e) → ∃ r, r ≤ m ∧ lpX9_wordAt_15 (nI k) b (nI q) (nI e) fu (nI s) = some (nI r) ∧ (r = m → ∀ s, s < m → b (q + s) = w.getD s 0 ∧ q + s < e) ∧ (r < m → e ≤ q + r ∨ ¬ b (q + r) = w.getD r 0)
  | 0, _, _, h, _ => by omega
  | fu + 1, s, hs, hf, hr => by
    obtain ⟨h1, h2, h3, h4, h5⟩ := id h
    unfold lpX9_wordAt_15
    have e0 : nI k + nI s = nI (k + s) := adds rfl rfl rfl
    rw [e0, ob_eq (chr_4 _ (by omega))]
    by_cases c : s = m
    · subst c
      rw [if_pos h3]
      exact ⟨s, hs, rfl, fun _ => hr, fun g => by omega⟩
    · have e1 : nI q + nI s = nI (q + s) := adds rfl rfl rfl
      rw [if_neg (h4 s (by omega)), e1]
      by_cases c1 : e ≤ q + s
      · rw [if_pos (nI_le c1 (by omega))]
        exact ⟨s, hs, rfl, fun g => absurd g c, fun _ => Or.inl c1⟩
      · rw [if_neg (nI_ge (by omega) (by omega)), if_neg (in_ok rfl (by omega : q + s < 500) (by omega)), clampN (x := nI (q + s)) rfl (by omega), ob_eq (chr_4 _ (by omega)), h5 s (by omega)]
        by_cases c2 : b (q + s) = w.getD s 0
        · rw [if_neg (fun g => g c2), nI_1 s]
          exact m_inner h hn hqe he fu (s + 1) (by omega) (by omega) (fun r hr2 => by
            by_cases c3 : r = s
            · rw [c3]; exact ⟨c2, by omega⟩
            · exact hr r (by omega))
        · rw [if_pos c2]
          exact ⟨s, hs, rfl, fun g => absurd g c, fun _ => Or.inr c2⟩
theorem m_key {b : Nat → Int32} {k m q e n K : Nat} {w : List Int32} (h : Ky k m w) (hn : n ≤ 500) (hqe : q ≤ e) (he : e ≤ n) (fu : Nat) : lpX9_wordAt_4 b (nI q) (nI e) (fu + 1) (nI K) (nI k) = if mt b q e w then some (.inr (nI K)) else lpX9_wordAt_4 b (nI q) (nI e) fu (nI (K + 1)) (nI (k + m + 1)) := by
  obtain ⟨h1, h2, h3, h4, h5⟩ := id h
  obtain ⟨r, r1, r2, r3, r4⟩ := m_inner (b := b) (q := q) h hn hqe he lpF 0 (by omega) (by have := lpF_big; omega) (fun r hr => by omega)
  have e0 : nI k + nI r = nI (k + r) := adds rfl rfl rfl
  have e1 : nI q + nI r = nI (q + r) := adds rfl rfl rfl
  have ht := m_to h lpF 0 (by omega) (by have := lpF_big; omega)
  rw [Nat.add_zero] at ht
  rw [show lpX9_wordAt_4 b (nI q) (nI e) (fu + 1) (nI K) (nI k) = ob (pJ0_length_8abf5_1104) (fun z1 => if z1 ≤ nI k then some (.inl (nI K, nI k)) else ob (lpX9_wordAt_15 (nI k) b (nI q) (nI e) lpF (0 : Int32)) (fun z4 => ob (pJ0_charAt_5068e_1104 (nI k + z4)) (fun z5 => if ¬ z5 = (32 : Int32) then ob (lpX9_wordAt_97 lpF (nI k)) (fun z7 => lpX9_wordAt_4 b (nI q) (nI e) fu (nI K + (1 : Int32)) (z7 + (1 : Int32))) else if ¬ (nI q + z4) = nI e then ob (lpX9_wordAt_97 lpF (nI k)) (fun z8 => lpX9_wordAt_4 b (nI q) (nI e) fu (nI K + (1 : Int32)) (z8 + (1 : Int32))) else some (.inr (nI K))))) from rfl]
  rw [ob_eq len_4, if_neg (nI_ge (by omega) (by omega)), ob_eq (show lpX9_wordAt_15 (nI k) b (nI q) (nI e) lpF (0 : Int32) = _ from r2), e0, e1, ob_eq (chr_4 _ (by omega)), ob_eq ht, nI_1 K, nI_1 (k + m)]
  by_cases c : r = m
  · rw [c, if_neg (fun g => g h3)]
    by_cases c2 : q + m = e
    · rw [if_neg (fun g => g (by rw [c2])), if_pos (mt_iff.mpr ⟨by rw [h2]; omega, fun s hs => (r3 c s (by rw [h2] at hs; exact hs)).1⟩)]
    · rw [if_pos (fun g => c2 ((keq e (by omega) (by omega)).mp g)), mt_off (by rw [h2]; omega), if_neg (by decide)]
  · rw [if_pos (h4 r (by omega)), if_neg (fun g => by
      obtain ⟨g1, g2⟩ := mt_iff.mp g
      rw [h2] at g1 g2
      rcases r4 (by omega) with u | u
      · omega
      · exact u (g2 r (by omega)))]
theorem ky_0 : Ky 1 5 (kwd 0) := ⟨by omega, rfl, by decide +kernel, by decide +kernel, by decide +kernel⟩
theorem ky_1 : Ky 7 4 (kwd 1) := ⟨by omega, rfl, by decide +kernel, by decide +kernel, by decide +kernel⟩
theorem ky_2 : Ky 12 3 (kwd 2) := ⟨by omega, rfl, by decide +kernel, by decide +kernel, by decide +kernel⟩
theorem ky_3 : Ky 16 6 (kwd 3) := ⟨by omega, rfl, by decide +kernel, by decide +kernel, by decide +kernel⟩
theorem m_wordAt {b : Nat → Int32} {n q e : Nat} (hn : n ≤ 500) (hqe : q ≤ e) (he : e ≤ n) : pX9_wordAt b (nI q) (nI e) = some (nI (wk b q e)) := by
  unfold pX9_wordAt wk
  rw [show lpX9_wordAt_4 b (nI q) (nI e) lpF (0 : Int32) (1 : Int32) = lpX9_wordAt_4 b (nI q) (nI e) (99995 + 1 + 1 + 1 + 1 + 1) (nI 0) (nI 1) from rfl, m_key ky_0 hn hqe he]
  cases mt b q e (kwd 0) with
  | true => rfl
  | false =>
    rw [if_neg (by decide), m_key ky_1 hn hqe he]
    cases mt b q e (kwd 1) with
    | true => rfl
    | false =>
      rw [if_neg (by decide), m_key ky_2 hn hqe he]
      cases mt b q e (kwd 2) with
      | true => rfl
      | false =>
        rw [if_neg (by decide), m_key ky_3 hn hqe he]
        cases mt b q e (kwd 3) with
        | true => rfl
        | false =>
          rw [if_neg (by decide)]
          have : lpX9_wordAt_4 b (nI q) (nI e) (99995 + 1) (nI (0 + 1 + 1 + 1 + 1)) (nI (16 + 6 + 1)) = some (.inl (nI (0 + 1 + 1 + 1 + 1), nI (16 + 6 + 1))) := by
            unfold lpX9_wordAt_4
            rw [ob_eq len_4, if_pos (by decide)]
          rw [ob_eq this]
          rfl
