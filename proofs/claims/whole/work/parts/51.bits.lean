/-! bits of small sets and of numbers below 2^31 -/
theorem b_1 (i : Nat) : bt 1 i = decide (i = 0) := by
  rcases Nat.lt_or_ge i 32 with h | h
  · exact (by decide +kernel : ∀ i, i < 32 → bt 1 i = decide (i = 0)) i h
  · rw [b_big h, decide_eq_false (by omega)]
theorem bt_one {n i : Nat} (hn : n < 32) (hi : i < 32) : bt ((1 : Int32) <<< (nI n &&& 31)) i = decide (i = n) := by
  rw [b_shl n hn 1 hi, b_1]
  by_cases h : n ≤ i
  · rw [decide_eq_true h, Bool.true_and]
    congr 1
    exact propext ⟨fun e => by omega, fun e => by omega⟩
  · rw [decide_eq_false h, Bool.false_and, decide_eq_false (by omega)]
theorem bt_nI (s i : Nat) (hi : i < 32) : bt (nI s) i = s.testBit i := by
  show (BitVec.ofNat 32 s).getLsbD i = s.testBit i
  rw [BitVec.getLsbD_ofNat, decide_eq_true hi, Bool.true_and]
/-- a bit asked for -/
theorem has_bt (x : Int32) {k : Nat} (hk : k < 32) : ((x >>> (nI k &&& 31)) &&& (1 : Int32)) = if bt x k then 1 else 0 := by
  apply b_ext
  intro i hi
  rw [b_and, b_sshr k hk x hi, b_1]
  by_cases h0 : i = 0
  · subst h0
    rw [if_pos (by omega), decide_eq_true rfl, Bool.and_true, Nat.add_zero]
    cases bt x k
    · exact (b_0 0).symm
    · exact (b_1 0).symm
  · rw [decide_eq_false h0, Bool.and_false]
    cases bt x k
    · exact (b_0 i).symm
    · show false = bt 1 i
      rw [b_1, decide_eq_false h0]
theorem p_has (x : Int32) {k : Nat} (hk : k < 32) : pX8_has x (nI k) = some (if bt x k then 1 else 0) := by
  unfold pX8_has
  rw [has_bt x hk]
  cases bt x k <;> rfl
/-- the numbers below n with a property, as bits -/
def msk (P : Nat → Bool) : Nat → Int32
  | 0 => 0
  | n + 1 => msk P n ||| (if P n then (1 : Int32) <<< (nI n &&& 31) else 0)
theorem msk_bt (P : Nat → Bool) : ∀ n, n ≤ 32 → ∀ i, i < 32 → bt (msk P n) i = (decide (i < n) && P i)
  | 0, _, i, _ => by
    show bt 0 i = _
    rw [b_0, decide_eq_false (by omega), Bool.false_and]
  | n + 1, hn, i, hi => by
    show bt (msk P n ||| _) i = _
    rw [b_or, msk_bt P n (by omega) i hi]
    by_cases h : i = n
    · subst h
      rw [decide_eq_false (by omega), Bool.false_and, Bool.false_or, decide_eq_true (by omega), Bool.true_and]
      cases P i
      · exact b_0 i
      · show bt ((1 : Int32) <<< (nI i &&& 31)) i = true
        rw [bt_one hi hi, decide_eq_true rfl]
    · have e : bt (if P n then (1 : Int32) <<< (nI n &&& 31) else 0) i = false := by
        cases P n
        · exact b_0 i
        · show bt ((1 : Int32) <<< (nI n &&& 31)) i = false
          rw [bt_one (by omega) hi, decide_eq_false h]
      rw [e, Bool.or_false]
      congr 1
      have : (i < n) = (i < n + 1) := propext ⟨fun h2 => by omega, fun h2 => by omega⟩
      rw [decide_eq_decide]
      omega
theorem msk_congr {P Q : Nat → Bool} : ∀ {n : Nat}, (∀ k, k < n → P k = Q k) → msk P n = msk Q n
  | 0, _ => rfl
  | n + 1, h => by
    show msk P n ||| _ = msk Q n ||| _
    rw [msk_congr (fun k hk => h k (by omega)), h n (by omega)]
theorem msk_and {P Q : Nat → Bool} {n : Nat} (hn : n ≤ 32) : msk P n &&& msk Q n = msk (fun k => P k && Q k) n := by
  apply b_ext
  intro i hi
  rw [b_and, msk_bt P n hn i hi, msk_bt Q n hn i hi, msk_bt _ n hn i hi]
  cases decide (i < n) <;> cases P i <;> rfl
theorem or_zero (x : Int32) : x ||| (0 : Int32) = x := by
  apply b_ext
  intro i hi
  rw [b_or, b_0, Bool.or_false]
/-- a set of bits below n is the set of its bits -/
theorem msk_self {x : Int32} {n : Nat} (hn : n ≤ 32) (h : ∀ i, i < 32 → n ≤ i → bt x i = false) : msk (bt x) n = x := by
  apply b_ext
  intro i hi
  rw [msk_bt _ n hn i hi]
  by_cases hin : i < n
  · rw [decide_eq_true hin, Bool.true_and]
  · rw [decide_eq_false hin, Bool.false_and, h i hi (by omega)]
theorem shr_nI {s j : Nat} (hs : s < 2 ^ 31) (hj : j < 32) : nI s >>> (nI j &&& 31) = nI (s / 2 ^ j) := by
  apply b_ext
  intro i hi
  rw [b_sshr j hj _ hi, bt_nI _ i hi, Nat.testBit_div_two_pow]
  by_cases h : j + i < 32
  · rw [if_pos h, bt_nI _ _ h, Nat.add_comm]
  · rw [if_neg h, bt_nI _ 31 (by omega), Nat.testBit_lt_two_pow hs]
    symm
    apply Nat.testBit_lt_two_pow
    exact Nat.lt_of_lt_of_le hs (Nat.pow_le_pow_right (by omega) (by omega))
theorem shl_nI {j : Nat} (hj : j < 32) : (1 : Int32) <<< (nI j &&& 31) = nI (2 ^ j) := by
  apply b_ext
  intro i hi
  rw [bt_one hj hi, bt_nI _ i hi, Nat.testBit_two_pow]
  congr 1
  exact propext ⟨fun e => e.symm, fun e => e.symm⟩
theorem nI_mul (a b : Nat) : nI a * nI b = nI (a * b) := (Int32.ofNat_mul a b).symm
/-- the digit of a number of exposures -/
def dg (s k : Nat) : Nat := s / 4 ^ k % 4
theorem dg_lt (s k : Nat) : dg s k < 4 := Nat.mod_lt _ (by omega)
theorem two_k (k : Nat) : (2 : Int32) * nI k = nI (2 * k) := nI_mul 2 k
theorem p_madeOf {s k : Nat} (hs : s < 2 ^ 31) (hk : 2 * k < 32) : pX8_madeOf (nI s) (nI k) = some (nI (dg s k)) := by
  unfold pX8_madeOf
  rw [two_k, shr_nI hs hk]
  have : nI (s / 2 ^ (2 * k)) &&& (3 : Int32) = nI (s / 2 ^ (2 * k) % 2 ^ 2) := fa_mask _ 2
  rw [this]
  unfold dg
  rw [Nat.pow_mul]
theorem p_madeIn {s k : Nat} (hs : s < 2 ^ 31) (hk : 2 * k < 32) : pX9_madeIn (nI s) (nI k) = some (nI (dg s k)) := p_madeOf hs hk
theorem p_oneOf {k : Nat} (hk : 2 * k < 32) : pX8_oneOf (nI k) = some (nI (4 ^ k)) := by
  unfold pX8_oneOf
  rw [two_k, shl_nI hk, Nat.pow_mul]
theorem one_k {k : Nat} (hk : 2 * k < 32) : (1 : Int32) <<< (((2 : Int32) * nI k) &&& 31) = nI (4 ^ k) := by
  rw [two_k, shl_nI hk, Nat.pow_mul]
