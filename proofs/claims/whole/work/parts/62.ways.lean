/-! IN HOW MANY WAYS, AND BY WHICH PLAN -/
theorem or_lN (a b : Nat) : lN a ||| lN b = lN (a ||| b) := by
  apply Int64.toBitVec_inj.1
  show BitVec.ofNat 64 a ||| BitVec.ofNat 64 b = BitVec.ofNat 64 (a ||| b)
  apply BitVec.eq_of_getLsbD_eq
  intro i hi
  simp [hi]
theorem s_3u : ∀ u, u < 12 → (((((3 : Int32) * nI u)).toInt64 &&& 63).toBitVec.smod 64).toNat = 3 * u := by decide +kernel
theorem shl_8 : ∀ t, t < 12 → ∀ k, k < 8 → (nI k).toInt64 <<< ((((3 : Int32) * nI t)).toInt64 &&& 63) = lN (k * 8 ^ t) := by decide +kernel
theorem lbt (x i : Nat) (hi : i < 64) : (lN x).toBitVec.getLsbD i = x.testBit i := by
  show (BitVec.ofNat 64 x).getLsbD i = x.testBit i
  rw [BitVec.getLsbD_ofNat, decide_eq_true hi, Bool.true_and]
theorem shr_lN {x u : Nat} (hx : x < 2 ^ 63) (hu : u < 12) : lN x >>> ((((3 : Int32) * nI u)).toInt64 &&& 63) = lN (x / 8 ^ u) := by
  apply Int64.toBitVec_inj.1
  rw [Int64.toBitVec_shiftRight]
  show (lN x).toBitVec.sshiftRight (((((3 : Int32) * nI u)).toInt64 &&& 63).toBitVec.smod 64).toNat = (lN (x / 8 ^ u)).toBitVec
  rw [s_3u u hu]
  apply BitVec.eq_of_getLsbD_eq
  intro i hi
  rw [BitVec.getLsbD_sshiftRight, BitVec.msb_eq_getLsbD_last, lbt _ i hi, show (8 : Nat) ^ u = 2 ^ (3 * u) from by rw [Nat.pow_mul], Nat.testBit_div_two_pow, lbt _ _ (by omega : 64 - 1 < 64), decide_eq_false (by omega : ¬ 64 ≤ i), Bool.not_false, Bool.true_and]
  by_cases h : 3 * u + i < 64
  · rw [if_pos h, lbt _ _ h, Nat.add_comm]
  · rw [if_neg h, Nat.testBit_lt_two_pow hx]
    symm
    apply Nat.testBit_lt_two_pow
    exact Nat.lt_of_lt_of_le hx (Nat.pow_le_pow_right (by omega) (by omega))
theorem ext_8 {x u : Nat} (hx : x < 2 ^ 63) (hu : u < 12) : (lN x >>> ((((3 : Int32) * nI u)).toInt64 &&& 63)).toInt32 &&& (7 : Int32) = nI (x / 8 ^ u % 8) := by
  rw [shr_lN hx hu, lN_i]
  exact fa_mask _ 3
theorem Vd_pos {S N : Nat} {a : Nat → Int32} (P : Nat) {kd fs ft : Nat} (hk : kd ≠ 1) : ∀ d s, 0 ≤ (Vd a S N P kd fs ft d s).toInt
  | 0, s => by show 0 ≤ (0 : Int64).toInt; rw [z_toInt]; exact Int.le_refl _
  | d + 1, s => by
    have ih := Vd_pos (S := S) (N := N) (a := a) P (fs := fs) (ft := ft) hk d s
    have h := bst_ge0 (fun k => okc a N P kd fs ft s k (S - (d + 1))) (fun k => if Vd a S N P kd fs ft d (s + 4 ^ k) < 0 then -1 else gn a P kd (S - (d + 1)) k + Vd a S N P kd fs ft d (s + 4 ^ k)) (if nno kd fs (S - (d + 1)) then Vd a S N P kd fs ft d s else -1) N
    have hn : nno kd fs (S - (d + 1)) = true := by unfold nno; rw [decide_eq_false hk]; rfl
    have h1 : (Vd a S N P kd fs ft d s).toInt ≤ (if nno kd fs (S - (d + 1)) then Vd a S N P kd fs ft d s else -1).toInt := by rw [hn]; exact Int.le_refl _
    exact Int.le_trans ih (Int.le_trans h1 h)
def sm (c : Nat → Bool) (w : Nat → Int64) (m0 : Int64) : Nat → Int64
  | 0 => m0
  | k + 1 => if c k = true then sm c w m0 k + w k else sm c w m0 k
theorem sm_none {c : Nat → Bool} {w : Nat → Int64} {m0 : Int64} : ∀ n, (∀ k, k < n → c k = false) → sm c w m0 n = m0
  | 0, _ => rfl
  | n + 1, h => by
    show (if c n = true then sm c w m0 n + w n else sm c w m0 n) = m0
    rw [h n (by omega), if_neg (by decide), sm_none n (fun k hk => h k (by omega))]
theorem sm_shift {c : Nat → Bool} {w : Nat → Int64} {m0 : Int64} : ∀ n, sm c w m0 n = sm c w 0 n + m0
  | 0 => (Int64.zero_add m0).symm
  | n + 1 => by
    show (if c n = true then sm c w m0 n + w n else sm c w m0 n) = (if c n = true then sm c w 0 n + w n else sm c w 0 n) + m0
    rw [sm_shift n]
    cases c n with
    | false => rfl
    | true =>
      show sm c w 0 n + m0 + w n = sm c w 0 n + w n + m0
      rw [Int64.add_assoc, Int64.add_comm m0, ← Int64.add_assoc]
theorem sm_congr {c c' : Nat → Bool} {w w' : Nat → Int64} {m0 : Int64} : ∀ {n : Nat}, (∀ k, k < n → c k = c' k) → (∀ k, k < n → c k = true → w k = w' k) → sm c w m0 n = sm c' w' m0 n
  | 0, _, _ => rfl
  | n + 1, h1, h2 => by
    show (if c n = true then sm c w m0 n + w n else sm c w m0 n) = (if c' n = true then sm c' w' m0 n + w' n else sm c' w' m0 n)
    rw [sm_congr (fun k hk => h1 k (by omega)) (fun k hk => h2 k (by omega)), h1 n (by omega)]
    cases hc : c' n with
    | false => rfl
    | true => rw [h2 n (by omega) (by rw [h1 n (by omega)]; exact hc)]
/-- how many plans of d slots reach the greatest value -/
def Wd (a : Nat → Int32) (S N P : Nat) : Nat → Nat → Int64
  | 0, _ => 1
  | d + 1, s => sm (fun k => okc a N P 0 0 0 s k (S - (d + 1)) && decide (gn a P 0 (S - (d + 1)) k + Vd a S N P 0 0 0 d (s + 4 ^ k) = Vd a S N P 0 0 0 (d + 1) s)) (fun k => Wd a S N P d (s + 4 ^ k)) (if Vd a S N P 0 0 0 d s = Vd a S N P 0 0 0 (d + 1) s then Wd a S N P d s else 0) N
/-- the first target that reaches it, N if there is none -/
def chc (a : Nat → Int32) (S N P d s : Nat) : Nat := fa_first (fun k => okc a N P 0 0 0 s k (S - (d + 1)) && decide (gn a P 0 (S - (d + 1)) k + Vd a S N P 0 0 0 d (s + 4 ^ k) = Vd a S N P 0 0 0 (d + 1) s)) N
def nxt (N s c : Nat) : Nat := if c < N then s + 4 ^ c else s
def enc (N c : Nat) : Nat := if c < N then c else 7
/-- the first plan that reaches it, three bits a slot -/
def Fn (a : Nat → Int32) (S N P : Nat) : Nat → Nat → Nat
  | 0, _ => 0
  | d + 1, s => Fn a S N P d (nxt N s (chc a S N P d s)) + enc N (chc a S N P d s) * 8 ^ (S - (d + 1))
theorem enc_lt {N c : Nat} (hN : N ≤ 6) : enc N c < 8 := by
  unfold enc
  by_cases h : c < N
  · rw [if_pos h]; omega
  · rw [if_neg h]; omega
theorem Fn_div {a : Nat → Int32} {S N P : Nat} : ∀ d s, d ≤ S → ∃ q, Fn a S N P d s = 8 ^ (S - d) * q
  | 0, _, _ => ⟨0, rfl⟩
  | d + 1, s, hd => by
    obtain ⟨q, hq⟩ := Fn_div (a := a) (S := S) (N := N) (P := P) d (nxt N s (chc a S N P d s)) (by omega)
    refine ⟨8 * q + enc N (chc a S N P d s), ?_⟩
    show Fn a S N P d (nxt N s (chc a S N P d s)) + enc N (chc a S N P d s) * 8 ^ (S - (d + 1)) = _
    rw [hq, show S - d = S - (d + 1) + 1 by omega, Nat.pow_succ, Nat.mul_add, Nat.mul_assoc, Nat.mul_comm (enc N _)]
theorem Fn_lt {a : Nat → Int32} {S N P : Nat} (hN : N ≤ 6) : ∀ d s, d ≤ S → Fn a S N P d s < 8 ^ S
  | 0, _, _ => Nat.pow_pos (by omega)
  | d + 1, s, hd => by
    obtain ⟨q, hq⟩ := Fn_div (a := a) (S := S) (N := N) (P := P) d (nxt N s (chc a S N P d s)) (by omega)
    have ih := Fn_lt (a := a) (S := S) (P := P) hN d (nxt N s (chc a S N P d s)) (by omega)
    have he := enc_lt (N := N) (c := chc a S N P d s) hN
    show Fn a S N P d (nxt N s (chc a S N P d s)) + enc N (chc a S N P d s) * 8 ^ (S - (d + 1)) < 8 ^ S
    have e1 : (8 : Nat) ^ S = 8 ^ (S - d) * 8 ^ d := by rw [← Nat.pow_add]; congr 1; omega
    rw [hq] at ih ⊢
    rw [e1] at ih ⊢
    have h1 : q < 8 ^ d := Nat.lt_of_mul_lt_mul_left ih
    have h2 : 8 ^ (S - d) * (q + 1) ≤ 8 ^ (S - d) * 8 ^ d := Nat.mul_le_mul_left _ h1
    have h3 : enc N (chc a S N P d s) * 8 ^ (S - (d + 1)) < 8 ^ (S - d) := by
      rw [show S - d = S - (d + 1) + 1 by omega, Nat.pow_succ, Nat.mul_comm]
      exact Nat.mul_lt_mul_of_pos_left he (Nat.pow_pos (by omega))
    rw [Nat.mul_add, Nat.mul_one] at h2
    omega
theorem Fn_63 {a : Nat → Int32} {S N P d s : Nat} (hN : N ≤ 6) (hS : S ≤ 12) (hd : d ≤ S) : Fn a S N P d s < 2 ^ 63 := by
  have h := Fn_lt (a := a) (S := S) (P := P) hN d s hd
  have h2 : (8 : Nat) ^ S ≤ 8 ^ 12 := Nat.pow_le_pow_right (by omega) hS
  have h3 : (8 : Nat) ^ 12 < 2 ^ 63 := by decide
  omega
/-- the plan's own slot, and the later ones -/
theorem Fn_own {a : Nat → Int32} {S N P d s : Nat} (hN : N ≤ 6) (hd : d < S) : Fn a S N P (d + 1) s / 8 ^ (S - (d + 1)) % 8 = enc N (chc a S N P d s) := by
  obtain ⟨q, hq⟩ := Fn_div (a := a) (S := S) (N := N) (P := P) d (nxt N s (chc a S N P d s)) (by omega : d ≤ S)
  have he := enc_lt (N := N) (c := chc a S N P d s) hN
  show (Fn a S N P d (nxt N s (chc a S N P d s)) + enc N (chc a S N P d s) * 8 ^ (S - (d + 1))) / 8 ^ (S - (d + 1)) % 8 = _
  rw [hq, show S - d = S - (d + 1) + 1 by omega, Nat.pow_succ, Nat.mul_assoc, Nat.add_mul_div_right _ _ (Nat.pow_pos (by omega)), Nat.mul_div_cancel_left _ (Nat.pow_pos (by omega))]
  omega
theorem Fn_later {a : Nat → Int32} {S N P d s u : Nat} (hN : N ≤ 6) (hd : d < S) (hu : S - (d + 1) < u) : Fn a S N P (d + 1) s / 8 ^ u % 8 = Fn a S N P d (nxt N s (chc a S N P d s)) / 8 ^ u % 8 := by
  obtain ⟨q, hq⟩ := Fn_div (a := a) (S := S) (N := N) (P := P) d (nxt N s (chc a S N P d s)) (by omega : d ≤ S)
  have he := enc_lt (N := N) (c := chc a S N P d s) hN
  show (Fn a S N P d (nxt N s (chc a S N P d s)) + enc N (chc a S N P d s) * 8 ^ (S - (d + 1))) / 8 ^ u % 8 = _
  obtain ⟨m, rfl⟩ : ∃ m, u = (S - (d + 1)) + 1 + m := ⟨u - (S - (d + 1)) - 1, by omega⟩
  rw [hq, show S - d = S - (d + 1) + 1 by omega]
  generalize S - (d + 1) = t
  rw [Nat.pow_add 8 (t + 1) m, ← Nat.div_div_eq_div_mul, ← Nat.div_div_eq_div_mul, Nat.mul_div_cancel_left _ (Nat.pow_pos (by omega)), Nat.mul_add_div (Nat.pow_pos (by omega))]
  have hl : enc N (chc a S N P d s) * 8 ^ t < 8 ^ (t + 1) := by
    rw [Nat.pow_succ, Nat.mul_comm]
    exact Nat.mul_lt_mul_of_pos_left he (Nat.pow_pos (by omega))
  rw [Nat.div_eq_of_lt hl, Nat.add_zero]
/-- the class's number of ways -/
theorem chF_2 {vs ws fi : Nat → Int64} {s : Nat} {g : Nat → Int64} {t : Nat} {c : Nat → Bool} {N : Nat} (hpos : ∀ k, k < N → c k = true → ¬ vs (s + 4 ^ k) = -1) : ∀ n, n ≤ N → (chF vs ws fi s g t c n).2.1 = sm (fun k => c k && decide (vs (s + 4 ^ k) + g k = (chF vs ws fi s g t c n).1)) (fun k => ws (s + 4 ^ k)) 0 n
  | 0, _ => rfl
  | n + 1, hn => by
    have ih := chF_2 (fi := fi) (ws := ws) (g := g) (t := t) hpos n (by omega)
    have hge := bst_ge (fun k => c k && !decide (vs (s + 4 ^ k) = -1)) (fun k => vs (s + 4 ^ k) + g k) (-1) n
    rw [← chF_1 vs ws fi s g t c n] at hge
    show (chS vs ws fi (s + 4 ^ n) (g n) ((nI n).toInt64 <<< ((((3 : Int32) * nI t)).toInt64 &&& 63)) (c n) (chF vs ws fi s g t c n)).2.1 = (if (c n && decide (vs (s + 4 ^ n) + g n = (chS vs ws fi (s + 4 ^ n) (g n) ((nI n).toInt64 <<< ((((3 : Int32) * nI t)).toInt64 &&& 63)) (c n) (chF vs ws fi s g t c n)).1)) = true then sm (fun k => c k && decide (vs (s + 4 ^ k) + g k = (chS vs ws fi (s + 4 ^ n) (g n) ((nI n).toInt64 <<< ((((3 : Int32) * nI t)).toInt64 &&& 63)) (c n) (chF vs ws fi s g t c n)).1)) (fun k => ws (s + 4 ^ k)) 0 n + ws (s + 4 ^ n) else sm (fun k => c k && decide (vs (s + 4 ^ k) + g k = (chS vs ws fi (s + 4 ^ n) (g n) ((nI n).toInt64 <<< ((((3 : Int32) * nI t)).toInt64 &&& 63)) (c n) (chF vs ws fi s g t c n)).1)) (fun k => ws (s + 4 ^ k)) 0 n)
    generalize chF vs ws fi s g t c n = m at *
    unfold chS
    cases hc : c n with
    | false =>
      have h1 : ¬ (false = true ∧ ¬ vs (s + 4 ^ n) = -1) := fun q => by cases q.1
      rw [if_neg h1, Bool.false_and, if_neg (by decide : ¬ false = true)]
      exact ih
    | true =>
      have h1 : true = true ∧ ¬ vs (s + 4 ^ n) = -1 := ⟨rfl, hpos n (by omega) hc⟩
      rw [if_pos h1]
      by_cases h2 : m.1 < vs (s + 4 ^ n) + g n
      · rw [if_pos h2]
        show (0 : Int64) + ws (s + 4 ^ n) = (if (true && decide (vs (s + 4 ^ n) + g n = vs (s + 4 ^ n) + g n)) = true then sm (fun k => c k && decide (vs (s + 4 ^ k) + g k = vs (s + 4 ^ n) + g n)) (fun k => ws (s + 4 ^ k)) 0 n + ws (s + 4 ^ n) else _)
        rw [decide_eq_true rfl, if_pos (by decide : (true && true) = true), sm_none n (fun k hk => ?_)]
        cases hck : c k with
        | false => rfl
        | true =>
          have h3 := hge k hk (by show (c k && !decide (vs (s + 4 ^ k) = -1)) = true; rw [hck, decide_eq_false (hpos k (by omega) hck)]; rfl)
          have h3' : (vs (s + 4 ^ k) + g k).toInt ≤ m.1.toInt := h3
          rw [fa_lt64] at h2
          show (true && decide (vs (s + 4 ^ k) + g k = vs (s + 4 ^ n) + g n)) = false
          rw [decide_eq_false (fun e => by rw [e] at h3'; omega)]; rfl
      · rw [if_neg h2]
        by_cases h3 : vs (s + 4 ^ n) + g n = m.1
        · rw [if_pos h3]
          show m.2.1 + ws (s + 4 ^ n) = (if (true && decide (vs (s + 4 ^ n) + g n = m.1)) = true then sm (fun k => c k && decide (vs (s + 4 ^ k) + g k = m.1)) (fun k => ws (s + 4 ^ k)) 0 n + ws (s + 4 ^ n) else _)
          rw [decide_eq_true h3, if_pos (by decide : (true && true) = true), ih]
        · rw [if_neg h3, decide_eq_false h3, if_neg (by decide : ¬ (true && false) = true)]
          exact ih
theorem first_none {p : Nat → Bool} : ∀ n, (∀ k, k < n → p k = false) → fa_first p n = n
  | 0, _ => rfl
  | n + 1, h => by
    unfold fa_first
    rw [first_none n (fun k hk => h k (by omega)), if_neg (Nat.lt_irrefl n), h n (by omega), if_neg (by decide)]
theorem first_congr {p q : Nat → Bool} : ∀ {n : Nat}, (∀ k, k < n → p k = q k) → fa_first p n = fa_first q n
  | 0, _ => rfl
  | n + 1, h => by
    unfold fa_first
    rw [first_congr (fun k hk => h k (by omega)), h n (by omega)]
theorem first_ex {p : Nat → Bool} {n k : Nat} (hk : k < n) (hp : p k = true) : fa_first p n < n := by
  by_cases h : fa_first p n < n
  · exact h
  · have h2 := fa_first_no p n k (by omega)
    rw [hp] at h2
    cases h2
/-- the class's first plan -/
theorem chF_3 {vs ws fi : Nat → Int64} {s : Nat} {g : Nat → Int64} {t : Nat} {c : Nat → Bool} {N : Nat} (hpos : ∀ k, k < N → c k = true → ¬ vs (s + 4 ^ k) = -1) (hv : ∀ k, k < N → c k = true → 0 ≤ (vs (s + 4 ^ k) + g k).toInt) : ∀ n, n ≤ N → fa_first (fun k => c k && decide (vs (s + 4 ^ k) + g k = (chF vs ws fi s g t c n).1)) n < n → (chF vs ws fi s g t c n).2.2 = fi (s + 4 ^ fa_first (fun k => c k && decide (vs (s + 4 ^ k) + g k = (chF vs ws fi s g t c n).1)) n) ||| ((nI (fa_first (fun k => c k && decide (vs (s + 4 ^ k) + g k = (chF vs ws fi s g t c n).1)) n)).toInt64 <<< ((((3 : Int32) * nI t)).toInt64 &&& 63))
  | 0, _, h => absurd h (Nat.not_lt_zero _)
  | n + 1, hn, hlt => by
    have ih := chF_3 (ws := ws) (fi := fi) (t := t) hpos hv n (by omega)
    have hge := bst_ge (fun k => c k && !decide (vs (s + 4 ^ k) = -1)) (fun k => vs (s + 4 ^ k) + g k) (-1) n
    have hsrc := bst_src (fun k => c k && !decide (vs (s + 4 ^ k) = -1)) (fun k => vs (s + 4 ^ k) + g k) (-1) n
    rw [← chF_1 vs ws fi s g t c n] at hge hsrc
    have hstep : chF vs ws fi s g t c (n + 1) = chS vs ws fi (s + 4 ^ n) (g n) ((nI n).toInt64 <<< ((((3 : Int32) * nI t)).toInt64 &&& 63)) (c n) (chF vs ws fi s g t c n) := rfl
    rw [hstep] at hlt ⊢
    generalize chF vs ws fi s g t c n = m at *
    -- where nothing changes
    have same : ∀ p : Nat → Bool, p n = false → fa_first p (n + 1) < n + 1 → fa_first p n < n ∧ fa_first p (n + 1) = fa_first p n := fun p hp hl => by
      have e : fa_first p (n + 1) = if fa_first p n < n then fa_first p n else if p n then n else n + 1 := rfl
      rw [e] at hl ⊢
      by_cases h : fa_first p n < n
      · rw [if_pos h]; exact ⟨h, rfl⟩
      · rw [if_neg h, hp, if_neg (by decide)] at hl
        omega
    unfold chS at hlt ⊢
    cases hc : c n with
    | false =>
      have h1 : ¬ (false = true ∧ ¬ vs (s + 4 ^ n) = -1) := fun q => by cases q.1
      rw [hc] at hlt
      rw [if_neg h1] at hlt ⊢
      obtain ⟨j1, j2⟩ := same _ (by show (c n && _) = false; rw [hc]; rfl) hlt
      rw [j2]
      exact ih j1
    | true =>
      have h1 : true = true ∧ ¬ vs (s + 4 ^ n) = -1 := ⟨rfl, hpos n (by omega) hc⟩
      rw [hc] at hlt
      rw [if_pos h1] at hlt ⊢
      by_cases h2 : m.1 < vs (s + 4 ^ n) + g n
      · rw [if_pos h2] at hlt ⊢
        have hf : fa_first (fun k => c k && decide (vs (s + 4 ^ k) + g k = vs (s + 4 ^ n) + g n)) (n + 1) = n := by
          unfold fa_first
          rw [first_none n (fun k hk => ?_), if_neg (Nat.lt_irrefl n)]
          · show (if (c n && decide (vs (s + 4 ^ n) + g n = vs (s + 4 ^ n) + g n)) = true then n else n + 1) = n
            rw [hc, decide_eq_true rfl]; rfl
          · cases hck : c k with
            | false => rfl
            | true =>
              have h3 := hge k hk (by show (c k && !decide (vs (s + 4 ^ k) = -1)) = true; rw [hck, decide_eq_false (hpos k (by omega) hck)]; rfl)
              have h3' : (vs (s + 4 ^ k) + g k).toInt ≤ m.1.toInt := h3
              rw [fa_lt64] at h2
              show (true && decide (vs (s + 4 ^ k) + g k = vs (s + 4 ^ n) + g n)) = false
              rw [decide_eq_false (fun e => by rw [e] at h3'; omega)]; rfl
        show fi (s + 4 ^ n) ||| _ = _
        rw [show fa_first (fun k => c k && decide (vs (s + 4 ^ k) + g k = (vs (s + 4 ^ n) + g n, (0 : Int64) + ws (s + 4 ^ n), fi (s + 4 ^ n) ||| ((nI n).toInt64 <<< ((((3 : Int32) * nI t)).toInt64 &&& 63))).1)) (n + 1) = n from hf]
      · rw [if_neg h2] at hlt ⊢
        by_cases h3 : vs (s + 4 ^ n) + g n = m.1
        · rw [if_pos h3] at hlt ⊢
          have h4 : 0 ≤ m.1.toInt := by rw [← h3]; exact hv n (by omega) hc
          have h5 : fa_first (fun k => c k && decide (vs (s + 4 ^ k) + g k = m.1)) n < n := by
            rcases hsrc with e | ⟨k, k1, k2, e⟩
            · rw [e, m1_toInt] at h4; omega
            · rw [Bool.and_eq_true] at k2
              exact first_ex k1 (by show (c k && decide (vs (s + 4 ^ k) + g k = m.1)) = true; rw [k2.1, decide_eq_true e.symm]; rfl)
          have h6 : fa_first (fun k => c k && decide (vs (s + 4 ^ k) + g k = m.1)) (n + 1) = fa_first (fun k => c k && decide (vs (s + 4 ^ k) + g k = m.1)) n := by
            conv => lhs; unfold fa_first
            rw [if_pos h5]
          show m.2.2 = fi (s + 4 ^ fa_first (fun k => c k && decide (vs (s + 4 ^ k) + g k = m.1)) (n + 1)) ||| ((nI (fa_first (fun k => c k && decide (vs (s + 4 ^ k) + g k = m.1)) (n + 1))).toInt64 <<< ((((3 : Int32) * nI t)).toInt64 &&& 63))
          rw [h6]
          exact ih h5
        · rw [if_neg h3] at hlt ⊢
          obtain ⟨j1, j2⟩ := same _ (by show (c n && decide (vs (s + 4 ^ n) + g n = m.1)) = false; rw [decide_eq_false h3, Bool.and_false]) hlt
          rw [j2]
          exact ih j1
theorem or_8 {q k t : Nat} (hk : k < 8) : 8 ^ (t + 1) * q ||| k * 8 ^ t = 8 ^ (t + 1) * q + k * 8 ^ t := by
  have e : (8 : Nat) ^ (t + 1) = 2 ^ (3 * (t + 1)) := by rw [Nat.pow_mul]
  have h : k * 8 ^ t < 2 ^ (3 * (t + 1)) := by
    rw [← e, Nat.pow_succ, Nat.mul_comm]
    exact Nat.mul_lt_mul_of_pos_left hk (Nat.pow_pos (by omega))
  rw [e, Nat.two_pow_add_eq_or_of_lt h]
theorem chE_W {S N : Nat} {a : Nat → Int32} (hR : RowN S N a) {P d s t : Nat} {vs ws fi : Nat → Int64} {c : Nat → Bool} (hd : d < 12) (hdS : d < S) (ht : t = S - (d + 1)) (hc : ∀ k, k < N → c k = okc a N P 0 0 0 s k t) (hs : vs s = Vd a S N P 0 0 0 d s) (hn : ∀ k, k < N → c k = true → vs (s + 4 ^ k) = Vd a S N P 0 0 0 d (s + 4 ^ k))
    (hws : ws s = Wd a S N P d s) (hwn : ∀ k, k < N → c k = true → ws (s + 4 ^ k) = Wd a S N P d (s + 4 ^ k)) (hfs : fi s = lN (Fn a S N P d s)) (hfn : ∀ k, k < N → c k = true → fi (s + 4 ^ k) = lN (Fn a S N P d (s + 4 ^ k))) :
    (chE vs ws fi s (gn a P 0 t) t c (nno 0 0 t) N).2.1 = Wd a S N P (d + 1) s ∧ (chE vs ws fi s (gn a P 0 t) t c (nno 0 0 t) N).2.2 = lN (Fn a S N P (d + 1) s) := by
  have hV := chE_V (ws := ws) (fi := fi) hR hd ht hc hs hn
  have hN := hR.2.2.1
  have hS := hR.2.1
  have hVp : ∀ x, 0 ≤ (Vd a S N P 0 0 0 d x).toInt := fun x => Vd_pos P (by decide) d x
  have hVr : ∀ x, (Vd a S N P 0 0 0 d x).toInt ≤ 1000000000 * d := fun x => (Vd_rng hR P 0 0 0 d (by omega) x).2
  have hne : ∀ x, ¬ Vd a S N P 0 0 0 d x = -1 := fun x e => by have := hVp x; rw [e, m1_toInt] at this; omega
  have hpos : ∀ k, k < N → c k = true → ¬ vs (s + 4 ^ k) = -1 := fun k hk h => by rw [hn k hk h]; exact hne _
  have hv : ∀ k, k < N → c k = true → 0 ≤ (vs (s + 4 ^ k) + gn a P 0 t k).toInt := fun k hk h => by
    have h1 := hVp (s + 4 ^ k)
    have h2 := hVr (s + 4 ^ k)
    have h3 := gn_rng hR (P := P) (kd := 0) (t := t) hk
    rw [hn k hk h, fb_addL (by omega) (by omega)]
    omega
  have h2 := chF_2 (ws := ws) (fi := fi) (g := gn a P 0 t) (t := t) hpos N (Nat.le_refl _)
  have h3 := chF_3 (ws := ws) (fi := fi) (t := t) hpos hv N (Nat.le_refl _)
  have hge := bst_ge (fun k => c k && !decide (vs (s + 4 ^ k) = -1)) (fun k => vs (s + 4 ^ k) + gn a P 0 t k) (-1) N
  have hsrc := bst_src (fun k => c k && !decide (vs (s + 4 ^ k) = -1)) (fun k => vs (s + 4 ^ k) + gn a P 0 t k) (-1) N
  rw [← chF_1 vs ws fi s (gn a P 0 t) t c N] at hge hsrc
  have hnn : nno 0 0 t = true := rfl
  unfold chE at hV ⊢
  generalize chF vs ws fi s (gn a P 0 t) t c N = m at *
  have ez : Vd a S N P 0 0 0 d s + 0 = Vd a S N P 0 0 0 d s := Int64.add_zero _
  unfold chS at hV ⊢
  have h1 : nno 0 0 t = true ∧ ¬ vs s = -1 := ⟨hnn, by rw [hs]; exact hne s⟩
  rw [if_pos h1] at hV ⊢
  rw [hs, ez] at hV ⊢
  -- what the two say of a choice
  have hpk : ∀ due : Int64, ∀ k, k < N → (c k && decide (vs (s + 4 ^ k) + gn a P 0 t k = due)) = (okc a N P 0 0 0 s k (S - (d + 1)) && decide (gn a P 0 (S - (d + 1)) k + Vd a S N P 0 0 0 d (s + 4 ^ k) = due)) := fun due k hk => by
    cases hck : c k with
    | false =>
      have := hc k hk
      rw [hck, ht] at this
      rw [← this]; rfl
    | true =>
      have := hc k hk
      rw [hck, ht] at this
      rw [← this, hn k hk hck, Int64.add_comm, ht]
  have hgek : ∀ k, k < N → c k = true → (vs (s + 4 ^ k) + gn a P 0 t k).toInt ≤ m.1.toInt := fun k hk hck => hge k hk (by show (c k && !decide (vs (s + 4 ^ k) = -1)) = true; rw [hck, decide_eq_false (hpos k hk hck)]; rfl)
  obtain ⟨q, hq⟩ := Fn_div (a := a) (S := S) (N := N) (P := P) d s (by omega : d ≤ S)
  have hFs : Fn a S N P (d + 1) s = Fn a S N P d (nxt N s (chc a S N P d s)) + enc N (chc a S N P d s) * 8 ^ (S - (d + 1)) := rfl
  have hWs : Wd a S N P (d + 1) s = sm (fun k => okc a N P 0 0 0 s k (S - (d + 1)) && decide (gn a P 0 (S - (d + 1)) k + Vd a S N P 0 0 0 d (s + 4 ^ k) = Vd a S N P 0 0 0 (d + 1) s)) (fun k => Wd a S N P d (s + 4 ^ k)) (if Vd a S N P 0 0 0 d s = Vd a S N P 0 0 0 (d + 1) s then Wd a S N P d s else 0) N := rfl
  by_cases h4 : m.1 < Vd a S N P 0 0 0 d s
  · rw [if_pos h4] at hV ⊢
    have hV' : Vd a S N P 0 0 0 d s = Vd a S N P 0 0 0 (d + 1) s := hV
    have hno : ∀ k, k < N → (okc a N P 0 0 0 s k (S - (d + 1)) && decide (gn a P 0 (S - (d + 1)) k + Vd a S N P 0 0 0 d (s + 4 ^ k) = Vd a S N P 0 0 0 (d + 1) s)) = false := fun k hk => by
      rw [← hpk _ k hk, ← hV']
      cases hck : c k with
      | false => rfl
      | true =>
        have h5 := hgek k hk hck
        rw [fa_lt64] at h4
        rw [decide_eq_false (fun e => by rw [e] at h5; omega)]; rfl
    refine ⟨?_, ?_⟩
    · show (0 : Int64) + ws s = _
      rw [hWs, sm_none N hno, if_pos hV', Int64.zero_add, hws]
    · show fi s ||| _ = _
      have hch : chc a S N P d s = N := first_none N hno
      rw [hFs, hch, hfs, show ((7 : Int32)).toInt64 <<< ((((3 : Int32) * nI t)).toInt64 &&& 63) = lN (7 * 8 ^ t) from shl_8 t (by omega) 7 (by omega), or_lN]
      unfold nxt enc
      rw [if_neg (Nat.lt_irrefl N), if_neg (Nat.lt_irrefl N), hq, show S - d = t + 1 by omega, or_8 (by omega), ht]
  · rw [if_neg h4] at hV ⊢
    -- a target reaches the greatest value
    have hm0 : 0 ≤ m.1.toInt := by
      have := hVp s
      rw [fa_lt64] at h4
      omega
    have hex : fa_first (fun k => c k && decide (vs (s + 4 ^ k) + gn a P 0 t k = m.1)) N < N := by
      rcases hsrc with e | ⟨k, k1, k2, e⟩
      · rw [e, m1_toInt] at hm0; omega
      · rw [Bool.and_eq_true] at k2
        exact first_ex k1 (by show (c k && decide (vs (s + 4 ^ k) + gn a P 0 t k = m.1)) = true; rw [k2.1, decide_eq_true e.symm]; rfl)
    have hFi : m.1 = Vd a S N P 0 0 0 (d + 1) s → m.2.2 = lN (Fn a S N P (d + 1) s) := fun e => by
      have hch : fa_first (fun k => c k && decide (vs (s + 4 ^ k) + gn a P 0 t k = m.1)) N = chc a S N P d s := by
        rw [e]; exact first_congr (fun k hk => hpk _ k hk)
      have hcy := fa_first_yes _ N hex
      rw [h3 hex]
      rw [hch] at hcy hex ⊢
      have hcc : c (chc a S N P d s) = true := by
        have : (c (chc a S N P d s) && decide (vs (s + 4 ^ chc a S N P d s) + gn a P 0 t (chc a S N P d s) = m.1)) = true := hcy
        rw [Bool.and_eq_true] at this
        exact this.1
      obtain ⟨q2, hq2⟩ := Fn_div (a := a) (S := S) (N := N) (P := P) d (s + 4 ^ chc a S N P d s) (by omega : d ≤ S)
      rw [hfn _ hex hcc, shl_8 t (by omega) _ (by omega), or_lN, hFs]
      unfold nxt enc
      rw [if_pos hex, if_pos hex, hq2, show S - d = t + 1 by omega, or_8 (by omega), ht]
    have hWi : ∀ m0 : Int64, m.1 = Vd a S N P 0 0 0 (d + 1) s → (if Vd a S N P 0 0 0 d s = Vd a S N P 0 0 0 (d + 1) s then Wd a S N P d s else 0) = m0 → m.2.1 + m0 = Wd a S N P (d + 1) s := fun m0 e e0 => by
      rw [hWs, e0, sm_shift, h2, e]
      congr 1
      exact sm_congr (fun k hk => hpk _ k hk) (fun k hk h => hwn k hk (by
        have h' : (c k && decide (vs (s + 4 ^ k) + gn a P 0 t k = Vd a S N P 0 0 0 (d + 1) s)) = true := h
        rw [Bool.and_eq_true] at h'
        exact h'.1))
    by_cases h5 : Vd a S N P 0 0 0 d s = m.1
    · rw [if_pos h5] at hV ⊢
      have hV' : m.1 = Vd a S N P 0 0 0 (d + 1) s := hV
      refine ⟨?_, hFi hV'⟩
      show m.2.1 + ws s = _
      rw [hws]
      exact hWi _ hV' (if_pos (h5.trans hV'))
    · rw [if_neg h5] at hV ⊢
      have hV' : m.1 = Vd a S N P 0 0 0 (d + 1) s := hV
      refine ⟨?_, hFi hV'⟩
      rw [← hWi 0 hV' (if_neg (fun e => h5 (e.trans hV'.symm))), Int64.add_zero]
