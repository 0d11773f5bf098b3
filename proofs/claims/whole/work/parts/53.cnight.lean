/-! the class's night beside a row -/
def rg (lo hi : Int) (x : Int32) : Prop := lo ≤ x.toInt ∧ x.toInt ≤ hi
/-- the numbers of a night as a text may tell them -/
def RowN (S N : Nat) (a : Nat → Int32) : Prop :=
  1 ≤ S ∧ S ≤ 12 ∧ N ≤ 6 ∧ a 0 = nI S ∧ a 10 = nI N ∧ rg 0 90 (a 1) ∧ rg 0 30 (a 2) ∧ rg (-10) 25 (a 3) ∧ rg 0 359 (a 4) ∧ rg 0 359 (a 5) ∧ rg 0 100 (a 6) ∧ rg 0 100 (a 7) ∧ rg 0 100 (a 8) ∧ rg 0 100 (a 9) ∧
  ∀ k, k < N → rg 0 3 (a (11 + 9 * k)) ∧ rg 0 359 (a (11 + 9 * k + 5)) ∧ rg 1 3 (a (11 + 9 * k + 7)) ∧ rg 1 1000 (a (11 + 9 * k + 8))
def Nu (N : Nat) (a f : Nat → Int32) : Prop := ∀ k w, k < N → w < 9 → f (9 * k + w) = a (11 + 9 * k + w)
def Mo (a m : Nat → Int32) : Prop := ∀ j, j < 6 → m j = a (1 + j)
theorem c_number {N : Nat} {a f : Nat → Int32} {k w : Nat} {x : Int32} (hu : Nu N a f) (hN : N ≤ 6) (hk : k < N) (hx : x = nI w) (hw : w < 9) : pX2_number (nI k) x f = some (a (11 + 9 * k + w)) := by
  rw [p_number hx (by omega), hu k w hk hw]
theorem c_height {N : Nat} {a f : Nat → Int32} {k t : Nat} (hu : Nu N a f) (hN : N ≤ 6) (hk : k < N) : pX2_targetHeight (nI k) (nI t) f = some (hgt a (11 + 9 * k + 1) t) := by
  unfold pX2_targetHeight
  rw [c_number (x := 3) (w := 3) hu hN hk rfl (by omega), ob_eq rfl, c_number (x := 1) (w := 1) hu hN hk rfl (by omega), ob_eq rfl, c_number (x := 2) (w := 2) hu hN hk rfl (by omega), ob_eq rfl]
  rfl
theorem c_moon {a m : Nat → Int32} {t : Nat} (hm : Mo a m) : pX2_heightOfMoon (nI t) m = some (hgt a 1 t) := by
  unfold pX2_heightOfMoon
  rw [hm 0 (by omega), hm 1 (by omega), hm 2 (by omega)]
  rfl
theorem dd_rng {S N : Nat} {a : Nat → Int32} {k t : Nat} (hR : RowN S N a) (hk : k < N) (ht : t < 12) : -360 < (dd a k t).toInt ∧ (dd a k t).toInt < 360 := by
  obtain ⟨-, -, -, -, -, -, -, -, h4, h5, -, -, -, -, hT⟩ := hR
  obtain ⟨-, h6, -, -⟩ := hT k hk
  have ht2 : (nI t).toInt = t := nI_toInt (by omega)
  have h15 : (15 : Int32).toInt = 15 := by decide
  have e1 : ((15 : Int32) * nI t).toInt = 15 * t := by rw [fb_mulI (by rw [ht2, h15]; omega) (by rw [ht2, h15]; omega), ht2, h15]
  have e2 : (a (11 + 9 * k + 5) + (15 : Int32) * nI t).toInt = (a (11 + 9 * k + 5)).toInt + 15 * t := by
    unfold rg at h6
    rw [fb_addI (by rw [e1]; omega) (by rw [e1]; omega), e1]
  have hb : 0 ≤ (a 5).toInt * t ∧ (a 5).toInt * t ≤ 359 * 12 := by
    unfold rg at h5
    constructor
    · exact Int.mul_nonneg h5.1 (by omega)
    · have := Int.mul_le_mul h5.2 (by omega : (t : Int) ≤ 12) (by omega) (by omega)
      exact this
  have e3 : (a 5 * nI t).toInt = (a 5).toInt * t := by rw [fb_mulI (by rw [ht2]; omega) (by rw [ht2]; omega), ht2]
  have e4 : (a 4 + a 5 * nI t).toInt = (a 4).toInt + (a 5).toInt * t := by
    unfold rg at h4
    rw [fb_addI (by rw [e3]; omega) (by rw [e3]; omega), e3]
  have r1 := rm_rng (x := a (11 + 9 * k + 5) + (15 : Int32) * nI t) (by unfold rg at h6; rw [e2]; omega)
  have r2 := rm_rng (x := a 4 + a 5 * nI t) (by unfold rg at h4; rw [e4]; omega)
  unfold dd
  rw [fb_subI (by omega) (by omega)]
  omega
theorem c_dist {S N : Nat} {a m f : Nat → Int32} {k t : Nat} (hR : RowN S N a) (hu : Nu N a f) (hm : Mo a m) (hk : k < N) (ht : t < 12) : pX2_distanceToMoon (nI k) (nI t) m f = some (dst (dd a k t)) := by
  obtain ⟨d1, d2⟩ := dd_rng hR hk ht
  rw [← dsc_dst d1 d2]
  unfold pX2_distanceToMoon
  rw [c_number (x := 5) (w := 5) hu hR.2.2.1 hk rfl (by omega), ob_eq rfl, hm 3 (by omega), hm 4 (by omega)]
  rfl
theorem c_seen {S N : Nat} {a m f : Nat → Int32} {k t : Nat} (hR : RowN S N a) (hu : Nu N a f) (hm : Mo a m) (hk : k < N) (ht : t < 12) : pX2_canBeSeen (nI k) (nI t) m f = some (if obs a k t then 1 else 0) := by
  unfold pX2_canBeSeen
  rw [c_height hu hR.2.2.1 hk, ob_eq rfl, c_number (x := 4) (w := 4) hu hR.2.2.1 hk rfl (by omega), ob_eq rfl]
  unfold obs
  by_cases c1 : a (11 + 9 * k + 4) ≤ hgt a (11 + 9 * k + 1) t
  · rw [if_pos c1, decide_eq_true c1, Bool.true_and, c_number (x := 6) (w := 6) hu hR.2.2.1 hk rfl (by omega), ob_eq rfl, c_moon hm, ob_eq rfl]
    by_cases c2 : hgt a 1 t ≤ 0
    · rw [if_pos c2, decide_eq_true c2, Bool.true_or]
      rfl
    · rw [if_neg c2, decide_eq_false c2, Bool.false_or, c_dist hR hu hm hk ht, ob_eq rfl, hm 5 (by omega)]
      by_cases c3 : dst (dd a k t) < a (11 + 9 * k + 6) * a 6 / (100 : Int32)
      · rw [if_pos c3, decide_eq_true c3]
        rfl
      · rw [if_neg c3, decide_eq_false c3]
        rfl
  · rw [if_neg c1, decide_eq_false c1, Bool.false_and]
    rfl
theorem c_seenLoop {S N : Nat} {a m f : Nat → Int32} {t : Nat} (hR : RowN S N a) (hu : Nu N a f) (hm : Mo a m) (ht : t < 12) : ∀ (fu k : Nat), k ≤ N → N - k < fu → lpX2_targetsSeenIn_4 (nI t) (nI N) m f fu (msk (obs a · t) k) (nI k) = some (msk (obs a · t) N, nI N)
  | 0, _, _, h => by omega
  | fu + 1, k, hk, hf => by
    have hN := hR.2.2.1
    unfold lpX2_targetsSeenIn_4
    by_cases e : k = N
    · subst e
      rw [if_pos (nI_le (Nat.le_refl _) (by omega))]
    · rw [if_neg (nI_ge (by omega) (by omega)), c_seen hR hu hm (by omega) ht, ob_eq rfl, nI_1]
      have ih := c_seenLoop hR hu hm ht fu (k + 1) (by omega) (by omega)
      rw [show msk (obs a · t) (k + 1) = msk (obs a · t) k ||| (if obs a k t then (1 : Int32) <<< (nI k &&& 31) else 0) from rfl] at ih
      cases hb : obs a k t with
      | false =>
        rw [hb] at ih
        rw [if_pos (by decide)]
        rw [show msk (obs a · t) k ||| (if false then (1 : Int32) <<< (nI k &&& 31) else 0) = msk (obs a · t) k from or_zero _] at ih
        exact ih
      | true =>
        rw [hb] at ih
        rw [if_neg (by decide)]
        exact ih
theorem c_targetsSeenIn {S N : Nat} {a m f : Nat → Int32} {t : Nat} (hR : RowN S N a) (hu : Nu N a f) (hm : Mo a m) (ht : t < 12) : pX2_targetsSeenIn (nI t) (nI N) m f = some (msk (obs a · t) N) := by
  unfold pX2_targetsSeenIn
  have hN := hR.2.2.1
  rw [ob_eq (show lpX2_targetsSeenIn_4 (nI t) (nI N) m f lpF (0 : Int32) (0 : Int32) = _ from c_seenLoop hR hu hm ht lpF 0 (by omega) (by have := lpF_big; omega))]
theorem c_settle7 {N : Nat} {a f : Nat → Int32} (hN : N ≤ 6) (hu : Nu N a f) : ∀ (fu k : Nat), k ≤ N → N - k < fu → lpX2_settle_7 (nI N) f fu (nI k) (tmk a k) = some (nI N, tmk a N)
  | 0, _, _, h => by omega
  | fu + 1, k, hk, hf => by
    unfold lpX2_settle_7
    by_cases e : k = N
    · subst e
      rw [if_pos (nI_le (Nat.le_refl _) (by omega))]
    · rw [if_neg (nI_ge (by omega) (by omega)), c_number (x := 0) (w := 0) hu hN (by omega) rfl (by omega), ob_eq rfl, nI_1]
      exact c_settle7 hN hu fu (k + 1) (by omega) (by omega)
/-- the rows of a night that is settled -/
theorem c_settle51 {S N : Nat} {a m f p : Nat → Int32} (hR : RowN S N a) (hu : Nu N a f) (hm : Mo a m) (hp : ∀ j, j < 3 → p j = a (7 + j)) : ∀ (fu t : Nat) (sn od : Nat → Int32), t ≤ S → S - t < fu → (∀ j, j < t → sn j = msk (obs a · j) N) → (∀ j, j < t → od j = odF a j) →
    ∃ sn' od', lpX2_settle_51 (nI S) (nI N) m p f fu (odF a t) (nI t) sn od = some (odF a S, nI S, sn', od') ∧ (∀ j, j < S → sn' j = msk (obs a · j) N) ∧ ∀ j, j < S → od' j = odF a j
  | 0, _, _, _, _, h, _, _ => by omega
  | fu + 1, t, sn, od, ht, hf, h1, h2 => by
    have hS := hR.2.1
    unfold lpX2_settle_51
    by_cases e : t = S
    · subst e
      rw [if_pos (nI_le (Nat.le_refl _) (by omega))]
      exact ⟨sn, od, rfl, h1, h2⟩
    · have e12 : ¬ (12 : Int32) ≤ nI t := nI_ge (a := t) (b := 12) (by omega) (by omega)
      rw [if_neg (nI_ge (by omega) (by omega)), if_neg e12, c_targetsSeenIn hR hu hm (by omega), ob_eq rfl, if_neg (nI_in (by omega : t < 12) (by omega)), nI_1, nI_clamp (by omega), hp 1 (by omega), hp 2 (by omega)]
      exact c_settle51 hR hu hm hp fu (t + 1) (upd sn t (msk (obs a · t) N)) (upd od t (odF a t)) (by omega) (by omega) (fun j hj => by
        by_cases ej : j = t
        · subst ej; exact pk_us
        · rw [pk_un ej]; exact h1 j (by omega)) (fun j hj => by
        by_cases ej : j = t
        · subst ej; exact pk_us
        · rw [pk_un ej]; exact h2 j (by omega))
theorem c_settle {S N : Nat} {a m f p sn od : Nat → Int32} (hR : RowN S N a) (hu : Nu N a f) (hm : Mo a m) (hp : ∀ j, j < 3 → p j = a (7 + j)) :
    ∃ sn' od', pX2_settle (nI S) (nI N) m p f sn od = some (tmk a N, sn', od') ∧ (∀ j, j < S → sn' j = msk (obs a · j) N) ∧ ∀ j, j < S → od' j = odF a j := by
  have hN := hR.2.2.1
  have hS := hR.2.1
  obtain ⟨sn', od', h1, h2, h3⟩ := c_settle51 hR hu hm hp lpF 0 sn od (by omega) (by have := lpF_big; omega) (fun j h => by omega) (fun j h => by omega)
  refine ⟨sn', od', ?_, h2, h3⟩
  unfold pX2_settle
  rw [ob_eq (show lpX2_settle_7 (nI N) f lpF (0 : Int32) (0 : Int32) = _ from c_settle7 hN hu lpF 0 (by omega) (by have := lpF_big; omega)), hp 0 (by omega)]
  rw [ob_eq (show lpX2_settle_51 (nI S) (nI N) m p f lpF ((10000 : Int32) * a 7) (0 : Int32) sn od = _ from h1)]
/-- a night of the class is that of a row -/
def NR (S N : Nat) (a : Nat → Int32) (v : NiS) : Prop :=
  v.1 = nI S ∧ v.2.1 = nI N ∧ v.2.2.1 = tmk a N ∧ Mo a v.2.2.2.1 ∧ (∀ j, j < 3 → v.2.2.2.2.1 j = a (7 + j)) ∧ Nu N a v.2.2.2.2.2.1 ∧ (∀ t, t < S → v.2.2.2.2.2.2.1 t = msk (obs a · t) N) ∧ ∀ t, t < S → v.2.2.2.2.2.2.2 t = odF a t
theorem c_targetsIn {S N : Nat} {a sn : Nat → Int32} {t : Nat} (hS : S ≤ 12) (hs : ∀ t, t < S → sn t = msk (obs a · t) N) (ht : t < 60000) : pX2_targetsIn (nI t) (nI S) sn = some (if t < S then msk (obs a · t) N else 0) := by
  unfold pX2_targetsIn
  rw [if_neg (nI_pos (by omega))]
  by_cases h : t < S
  · have e12 : ¬ (12 : Int32) ≤ nI t := nI_ge (a := t) (b := 12) (by omega) (by omega)
    rw [if_neg (nI_ge h (by omega)), if_neg e12, if_neg (nI_in (by omega : t < 12) (by omega)), nI_clamp (by omega), hs t h, if_pos h]
  · rw [if_pos (nI_le (by omega) (by omega)), if_neg h]
theorem c_oddsIn {S : Nat} {a od : Nat → Int32} {t : Nat} (hS : S ≤ 12) (hs : ∀ t, t < S → od t = odF a t) (ht : t < S) : pX2_oddsIn (nI t) (nI S) od = some (odF a t) := by
  unfold pX2_oddsIn
  have e12 : ¬ (12 : Int32) ≤ nI t := nI_ge (a := t) (b := 12) (by omega) (by omega)
  rw [if_neg (nI_pos (by omega)), if_neg (nI_ge ht (by omega)), if_neg e12, if_neg (nI_in (by omega : t < 12) (by omega)), nI_clamp (by omega), hs t ht]
theorem c_isSeen {S N : Nat} {a sn : Nat → Int32} {k t : Nat} (hS : S ≤ 12) (hN : N ≤ 6) (hs : ∀ t, t < S → sn t = msk (obs a · t) N) (ht : t < S) (hk : k < N) : pX2_isSeen (nI k) (nI t) (nI S) sn = some (if obs a k t then 1 else 0) := by
  unfold pX2_isSeen
  rw [c_targetsIn hS hs (by omega), ob_eq rfl, if_pos ht, p_has _ (by omega : k < 32), ob_eq rfl, msk_bt _ N (by omega) k (by omega), decide_eq_true hk, Bool.true_and]
  cases obs a k t <;> rfl
