/-! THE SKY: what a row of numbers tells; the reference and the class say it alike -/
theorem nI_lt31 {n : Nat} (h : n < 60000) : n < 2 ^ 31 := by omega
theorem i0f : (if false = true then (1 : Int32) else 0) = 0 := rfl
theorem i1t : ¬ (if true = true then (1 : Int32) else 0) = 0 := by decide
theorem nI_inb {c n : Nat} (h : c < n) (hn : n < 2 ^ 31) : ¬ (nI c < 0 ∨ n ≤ c) := fun q => q.elim (nI_pos (by omega)) (fun q => by omega)
theorem in_ok {k n : Nat} {x : Int32} (hx : x = nI k) (h : k < n) (hn : n < 60000) : ¬ (x < 0 ∨ n ≤ x.toNatClampNeg) := by
  subst hx
  exact nI_in h (nI_lt31 hn)
theorem clampN {k : Nat} {x : Int32} (hx : x = nI k) (h : k < 60000) : x.toNatClampNeg = k := by
  subst hx
  exact nI_clamp (nI_lt31 h)
theorem adds {p k q : Nat} {x y : Int32} (hx : x = nI p) (hy : y = nI k) (h : p + k = q) : x + y = nI q := by
  subst hx hy h
  exact nI_add p k
theorem muls {p k q : Nat} {x y : Int32} (hx : x = nI p) (hy : y = nI k) (h : p * k = q) : x * y = nI q := by
  subst hx hy h
  exact nI_mul p k
theorem tgi (k : Nat) {w : Nat} {x : Int32} (hx : x = nI w) : ((11 : Int32) + ((9 : Int32) * nI k)) + x = nI (11 + 9 * k + w) := adds (adds rfl (muls rfl rfl rfl) rfl) hx rfl
theorem p_ofTarget {a : Nat → Int32} {k w : Nat} {x : Int32} (hx : x = nI w) (h : 11 + 9 * k + w < 99) : pX9_ofTarget (nI k) x a = some (a (11 + 9 * k + w)) := by
  unfold pX9_ofTarget
  rw [if_neg (in_ok (tgi k hx) h (by omega)), clampN (tgi k hx) (by omega)]
theorem p_number {f : Nat → Int32} {k w : Nat} {x : Int32} (hx : x = nI w) (h : 9 * k + w < 54) : pX2_number (nI k) x f = some (f (9 * k + w)) := by
  have e : (nI k * (9 : Int32)) + x = nI (9 * k + w) := adds (muls rfl rfl (Nat.mul_comm k 9)) hx rfl
  unfold pX2_number
  rw [e, if_neg (nI_pos (by omega)), if_neg (nI_ge h (by omega)), if_neg (nI_in h (by omega)), nI_clamp (by omega)]
/-- the height of a body whose numbers begin at p -/
def hgt (a : Nat → Int32) (p t : Nat) : Int32 := a p - ((a (p + 1)) * (nI t - a (p + 2))) * (nI t - a (p + 2))
theorem p_heightOf {a : Nat → Int32} {p t : Nat} {x : Int32} (hx : x = nI p) (h : p + 2 < 99) : pX9_heightOf x (nI t) a = some (hgt a p t) := by
  unfold pX9_heightOf
  have e0 : x + (0 : Int32) = nI p := adds hx rfl rfl
  have e1 : x + (1 : Int32) = nI (p + 1) := adds hx rfl rfl
  have e2 : x + (2 : Int32) = nI (p + 2) := adds hx rfl rfl
  rw [if_neg (in_ok e2 h (by omega)), if_neg (in_ok e0 (by omega : p < 99) (by omega)), if_neg (in_ok e1 (by omega : p + 1 < 99) (by omega)), clampN e0 (by omega), clampN e1 (by omega), clampN e2 (by omega)]
  rfl
/-- what is left of a number behind 360 -/
def rm (x : Int32) : Int32 := x - x / (360 : Int32) * (360 : Int32)
theorem rm_rng {x : Int32} (h : 0 ≤ x.toInt) : 0 ≤ (rm x).toInt ∧ (rm x).toInt < 360 := by
  have hr := fb_rng x
  have h360 : (360 : Int32).toInt = 360 := by decide
  have hd : (x / 360).toInt = x.toInt / 360 := by
    rw [Int32.toInt_div, h360, Int.tdiv_eq_ediv_of_nonneg h, fb_bmod (by omega) (by omega)]
  have hm : (x / 360 * 360).toInt = x.toInt / 360 * 360 := by
    rw [fb_mulI (by rw [hd, h360]; omega) (by rw [hd, h360]; omega), hd, h360]
  unfold rm
  rw [fb_subI (by rw [hm]; omega) (by rw [hm]; omega), hm]
  omega
/-- how far a target stands from the moon -/
def dd (a : Nat → Int32) (k t : Nat) : Int32 := rm (a (11 + 9 * k + 5) + (15 : Int32) * nI t) - rm (a 4 + a 5 * nI t)
def dst (d : Int32) : Int32 := if 0 ≤ d then (if d ≤ 180 then d else 360 - d) else (if -d ≤ 180 then -d else 360 - (-d))
def dsc (d : Int32) : Int32 := if (360 - (if 0 ≤ d then d else 0 - d)) < (if 0 ≤ d then d else 0 - d) then 360 - (if 0 ≤ d then d else 0 - d) else (if 0 ≤ d then d else 0 - d)
theorem dsc_dst {d : Int32} (h1 : -360 < d.toInt) (h2 : d.toInt < 360) : dsc d = dst d := by
  have h0 : (0 : Int32).toInt = 0 := by decide
  have h180 : (180 : Int32).toInt = 180 := by decide
  have h360 : (360 : Int32).toInt = 360 := by decide
  have hn : (-d).toInt = -d.toInt := fb_negI (by omega)
  have hz : (0 - d).toInt = -d.toInt := by rw [fb_subI (by omega) (by omega), h0]; omega
  have he : 0 - d = -d := Int32.toInt_inj.mp (by rw [hz, hn])
  have hs : (360 - d).toInt = 360 - d.toInt := by rw [fb_subI (by omega) (by omega), h360]
  have hs2 : (360 - (-d)).toInt = 360 + d.toInt := by rw [fb_subI (by omega) (by omega), h360, hn]; omega
  unfold dsc dst
  by_cases c : 0 ≤ d
  · rw [if_pos c, if_pos c]
    rw [fa_le, h0] at c
    by_cases c2 : d ≤ 180
    · rw [if_pos c2]
      rw [fa_le, h180] at c2
      by_cases c3 : 360 - d < d
      · rw [if_pos c3]
        rw [fa_lt, hs] at c3
        omega
      · rw [if_neg c3]
    · rw [if_neg c2]
      rw [fa_le, h180] at c2
      by_cases c3 : 360 - d < d
      · rw [if_pos c3]
      · rw [if_neg c3]
        rw [fa_lt, hs] at c3
        omega
  · rw [if_neg c, if_neg c, he]
    rw [fa_le, h0] at c
    by_cases c2 : -d ≤ 180
    · rw [if_pos c2]
      rw [fa_le, h180, hn] at c2
      by_cases c3 : 360 - -d < -d
      · rw [if_pos c3]
        rw [fa_lt, hs2, hn] at c3
        omega
      · rw [if_neg c3]
    · rw [if_neg c2]
      rw [fa_le, h180, hn] at c2
      by_cases c3 : 360 - -d < -d
      · rw [if_pos c3]
      · rw [if_neg c3]
        rw [fa_lt, hs2, hn] at c3
        omega
theorem p_distanceOf {a : Nat → Int32} {k t : Nat} (h : k < 6) : pX9_distanceOf (nI k) (nI t) a = some (dst (dd a k t)) := by
  unfold pX9_distanceOf
  rw [p_ofTarget (x := 5) (w := 5) rfl (by omega), ob_eq rfl]
  show (if 0 ≤ dd a k t then (if dd a k t ≤ 180 then some (dd a k t) else some (360 - dd a k t)) else (if -dd a k t ≤ 180 then some (-dd a k t) else some (360 - (-dd a k t)))) = _
  unfold dst
  by_cases c : 0 ≤ dd a k t
  · rw [if_pos c, if_pos c]
    by_cases c2 : dd a k t ≤ 180
    · rw [if_pos c2, if_pos c2]
    · rw [if_neg c2, if_neg c2]
  · rw [if_neg c, if_neg c]
    by_cases c2 : -dd a k t ≤ 180
    · rw [if_pos c2, if_pos c2]
    · rw [if_neg c2, if_neg c2]
/-- whether a target can be observed -/
def obs (a : Nat → Int32) (k t : Nat) : Bool := decide (a (11 + 9 * k + 4) ≤ hgt a (11 + 9 * k + 1) t) && (decide (hgt a 1 t ≤ 0) || !decide (dst (dd a k t) < a (11 + 9 * k + 6) * a 6 / (100 : Int32)))
theorem p_canObserve {a : Nat → Int32} {k t : Nat} (h : k < 6) : pX9_canObserve (nI k) (nI t) a = some (if obs a k t then 1 else 0) := by
  unfold pX9_canObserve
  rw [p_heightOf (p := 11 + 9 * k + 1) (tgi k (w := 1) (x := 1) rfl) (by omega), ob_eq rfl, p_ofTarget (x := 4) (w := 4) rfl (by omega), ob_eq rfl, p_heightOf (x := 1) (p := 1) rfl (by omega), p_distanceOf h]
  unfold obs
  by_cases c1 : a (11 + 9 * k + 4) ≤ hgt a (11 + 9 * k + 1) t
  · rw [if_pos c1, decide_eq_true c1, Bool.true_and, ob_eq rfl]
    by_cases c2 : hgt a 1 t ≤ 0
    · rw [if_pos c2, decide_eq_true c2, Bool.true_or]
      rfl
    · rw [if_neg c2, decide_eq_false c2, Bool.false_or, ob_eq rfl, p_ofTarget (x := 6) (w := 6) rfl (by omega), ob_eq rfl]
      by_cases c3 : dst (dd a k t) < a (11 + 9 * k + 6) * a 6 / (100 : Int32)
      · rw [if_pos c3, decide_eq_true c3]
        rfl
      · rw [if_neg c3, decide_eq_false c3]
        rfl
  · rw [if_neg c1, decide_eq_false c1, Bool.false_and]
    rfl
theorem i01 (b : Bool) : ((if b then (1 : Int32) else 0) = 0) ↔ b = false := by cases b <;> decide
theorem lpF_big : 60000 < lpF := by decide
theorem lp_observable {a : Nat → Int32} {N t : Nat} (hN : N ≤ 6) (ha : a 10 = nI N) : ∀ (fu k : Nat), k ≤ N → N - k < fu → lpX9_observableIn_4 (nI t) a fu (msk (obs a · t) k) (nI k) = some (msk (obs a · t) N, nI N)
  | 0, _, _, h => by omega
  | fu + 1, k, hk, hf => by
    unfold lpX9_observableIn_4
    rw [ha]
    by_cases e : k = N
    · subst e
      rw [if_pos (nI_le (Nat.le_refl _) (by omega))]
    · rw [if_neg (nI_ge (by omega) (by omega)), p_canObserve (by omega), ob_eq rfl, nI_1]
      have ih := lp_observable (t := t) hN ha fu (k + 1) (by omega) (by omega)
      cases hb : obs a k t with
      | false =>
        rw [if_pos (by decide)]
        rw [show msk (obs a · t) (k + 1) = msk (obs a · t) k ||| (if obs a k t then (1 : Int32) <<< (nI k &&& 31) else 0) from rfl, hb] at ih
        exact ih
      | true =>
        rw [if_neg (by decide)]
        rw [show msk (obs a · t) (k + 1) = msk (obs a · t) k ||| (if obs a k t then (1 : Int32) <<< (nI k &&& 31) else 0) from rfl, hb] at ih
        exact ih
theorem p_observableIn {a : Nat → Int32} {N t : Nat} (hN : N ≤ 6) (ha : a 10 = nI N) : pX9_observableIn (nI t) a = some (msk (obs a · t) N) := by
  unfold pX9_observableIn
  rw [ob_eq (show lpX9_observableIn_4 (nI t) a lpF (0 : Int32) (0 : Int32) = _ from lp_observable (t := t) hN ha lpF 0 (by omega) (by have := lpF_big; omega))]
/-- the odds of a clear sky -/
def odF (a : Nat → Int32) : Nat → Int32
  | 0 => (10000 : Int32) * a 7
  | t + 1 => ((odF a t * a 8) + (((1000000 : Int32) - odF a t) * a 9)) / (100 : Int32)
theorem lp_odds {a : Nat → Int32} {T : Nat} (hT : T < 60000) : ∀ (fu t : Nat), t ≤ T → T - t < fu → lpX9_oddsOf_14 (nI T) a fu (odF a t) (nI t) = some (odF a T, nI T)
  | 0, _, _, h => by omega
  | fu + 1, t, ht, hf => by
    unfold lpX9_oddsOf_14
    by_cases e : t = T
    · subst e
      rw [if_pos (nI_le (Nat.le_refl _) (by omega))]
    · rw [if_neg (nI_ge (by omega) (by omega)), nI_1]
      exact lp_odds hT fu (t + 1) (by omega) (by omega)
theorem p_oddsOf {a : Nat → Int32} {t : Nat} (ht : t < 60000) : pX9_oddsOf (nI t) a = some (odF a t) := by
  unfold pX9_oddsOf
  rw [ob_eq (show lpX9_oddsOf_14 (nI t) a lpF ((10000 : Int32) * a 7) (0 : Int32) = _ from lp_odds (a := a) ht lpF 0 (by omega) (by have := lpF_big; omega))]
/-- the teams of the targets below n -/
def tmk (a : Nat → Int32) : Nat → Int32
  | 0 => 0
  | k + 1 => tmk a k ||| ((1 : Int32) <<< (a (11 + 9 * k) &&& 31))
theorem lp_teams {a : Nat → Int32} {N : Nat} (hN : N ≤ 6) (ha : a 10 = nI N) : ∀ (fu k : Nat), k ≤ N → N - k < fu → lpX9_teams_4 a fu (tmk a k) (nI k) = some (tmk a N, nI N)
  | 0, _, _, h => by omega
  | fu + 1, k, hk, hf => by
    unfold lpX9_teams_4
    rw [ha]
    by_cases e : k = N
    · subst e
      rw [if_pos (nI_le (Nat.le_refl _) (by omega))]
    · rw [if_neg (nI_ge (by omega) (by omega)), p_ofTarget (x := 0) (w := 0) rfl (by omega), ob_eq rfl, nI_1]
      exact lp_teams hN ha fu (k + 1) (by omega) (by omega)
theorem p_teams {a : Nat → Int32} {N : Nat} (hN : N ≤ 6) (ha : a 10 = nI N) : pX9_teams a = some (tmk a N) := by
  unfold pX9_teams
  rw [ob_eq (show lpX9_teams_4 a lpF (0 : Int32) (0 : Int32) = _ from lp_teams hN ha lpF 0 (by omega) (by have := lpF_big; omega))]
