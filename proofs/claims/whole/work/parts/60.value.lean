/-! WHAT PLANS ARE WORTH: one recursion, slot by slot from the end -/
theorem od_prod (q p r : Int) (hq : 0 ≤ q ∧ q ≤ 1000000) (hp : 0 ≤ p ∧ p ≤ 100) (hr : 0 ≤ r ∧ r ≤ 100) : 0 ≤ q * p ∧ 0 ≤ (1000000 - q) * r ∧ q * p + (1000000 - q) * r ≤ 100000000 := by
  have m0 : 0 ≤ q * p := Int.mul_nonneg hq.1 hp.1
  have m1 : q * p ≤ q * 100 := Int.mul_le_mul_of_nonneg_left hp.2 hq.1
  have m2 : 0 ≤ (1000000 - q) * r := Int.mul_nonneg (by omega) hr.1
  have m3 : (1000000 - q) * r ≤ (1000000 - q) * 100 := Int.mul_le_mul_of_nonneg_left hr.2 (by omega)
  generalize q * p = x at *
  generalize (1000000 - q) * r = y at *
  omega
theorem od_ok {z : Int} (h0 : 0 ≤ z) (h1 : z ≤ 100000000) : -2147483648 ≤ z ∧ z < 2147483648 := by omega
theorem od_fin {z : Int} (h0 : 0 ≤ z) (h1 : z ≤ 100000000) : -2147483648 ≤ z / 100 ∧ z / 100 < 2147483648 ∧ 0 ≤ z / 100 ∧ z / 100 ≤ 1000000 := by omega
theorem od_two {x y : Int} (h0 : 0 ≤ x) (h1 : 0 ≤ y) (h : x + y ≤ 100000000) : x ≤ 100000000 ∧ y ≤ 100000000 ∧ 0 ≤ x + y := by omega
theorem od_rng {S N : Nat} {a : Nat → Int32} (hR : RowN S N a) : ∀ t, rg 0 1000000 (odF a t)
  | 0 => by
    obtain ⟨-, -, -, -, -, -, -, -, -, -, -, h7, -, -, -⟩ := hR
    unfold rg at h7 ⊢
    show 0 ≤ ((10000 : Int32) * a 7).toInt ∧ ((10000 : Int32) * a 7).toInt ≤ 1000000
    have e : (10000 : Int32).toInt = 10000 := by decide
    rw [fb_mulI (by rw [e]; omega) (by rw [e]; omega), e]
    omega
  | t + 1 => by
    have ih := od_rng hR t
    obtain ⟨-, -, -, -, -, -, -, -, -, -, -, -, h8, h9, -⟩ := hR
    unfold rg at h8 h9 ih ⊢
    have e : (1000000 : Int32).toInt = 1000000 := by decide
    have e1 : (100 : Int32).toInt = 100 := by decide
    obtain ⟨q1, q2, q3⟩ := od_prod _ _ _ ih h8 h9
    obtain ⟨q4, q5, q6⟩ := od_two q1 q2 q3
    have s1 : ((1000000 : Int32) - odF a t).toInt = 1000000 - (odF a t).toInt := by rw [fb_subI (by rw [e]; omega) (by rw [e]; omega), e]
    have p1 : (odF a t * a 8).toInt = (odF a t).toInt * (a 8).toInt := fb_mulI (od_ok q1 q4).1 (od_ok q1 q4).2
    have p2 : (((1000000 : Int32) - odF a t) * a 9).toInt = (1000000 - (odF a t).toInt) * (a 9).toInt := by rw [fb_mulI (by rw [s1]; exact (od_ok q2 q5).1) (by rw [s1]; exact (od_ok q2 q5).2), s1]
    have p3 : ((odF a t * a 8) + (((1000000 : Int32) - odF a t) * a 9)).toInt = (odF a t).toInt * (a 8).toInt + (1000000 - (odF a t).toInt) * (a 9).toInt := by rw [fb_addI (by rw [p1, p2]; exact (od_ok q6 q3).1) (by rw [p1, p2]; exact (od_ok q6 q3).2), p1, p2]
    show 0 ≤ (((odF a t * a 8) + (((1000000 : Int32) - odF a t) * a 9)) / (100 : Int32)).toInt ∧ (((odF a t * a 8) + (((1000000 : Int32) - odF a t) * a 9)) / (100 : Int32)).toInt ≤ 1000000
    obtain ⟨r1, r2, r3, r4⟩ := od_fin q6 q3
    rw [Int32.toInt_div, e1, p3, Int.tdiv_eq_ediv_of_nonneg q6, fb_bmod r1 r2]
    exact ⟨r3, r4⟩
def kb (kd : Nat) : Bool := !(decide (kd = 3) || decide (kd = 5))
def cls (a : Nat → Int32) (P t : Nat) : Bool := decide (t = P) && decide (a 67 = 2)
/-- the odds of a slot, for plans -/
def odP (a : Nat → Int32) (P t : Nat) : Int32 := if t = P ∧ ¬ a 67 = 0 then (if a 67 = 1 then 1000000 else 0) else odF a t
def flt (a : Nat → Int32) (P kd fs ft t k : Nat) : Bool := !cls a P t && (if kd = 2 then !decide (k = ft) else if kd = 1 ∧ t = fs then decide (k = ft) else true)
def gn (a : Nat → Int32) (P kd t k : Nat) : Int64 := if kd = 4 ∨ kd = 5 then 1 else (a (11 + 9 * k + 8)).toInt64 * (odP a P t).toInt64
def nno (kd fs t : Nat) : Bool := !(decide (kd = 1) && decide (t = fs))
def okc (a : Nat → Int32) (N P kd fs ft s k t : Nat) : Bool := psb (kb kd) a N s k t && flt a P kd fs ft t k
/-- the greatest one -/
def bst (c : Nat → Bool) (v : Nat → Int64) (m0 : Int64) : Nat → Int64
  | 0 => m0
  | k + 1 => if c k = true ∧ bst c v m0 k < v k then v k else bst c v m0 k
theorem bst_ge0 (c : Nat → Bool) (v : Nat → Int64) (m0 : Int64) : ∀ n, m0.toInt ≤ (bst c v m0 n).toInt
  | 0 => Int.le_refl _
  | n + 1 => by
    have ih := bst_ge0 c v m0 n
    show m0.toInt ≤ (if c n = true ∧ bst c v m0 n < v n then v n else bst c v m0 n).toInt
    by_cases h : c n = true ∧ bst c v m0 n < v n
    · rw [if_pos h]
      have := (fa_lt64 _ _).mp h.2
      omega
    · rw [if_neg h]; exact ih
theorem bst_ge (c : Nat → Bool) (v : Nat → Int64) (m0 : Int64) : ∀ n k, k < n → c k = true → (v k).toInt ≤ (bst c v m0 n).toInt
  | 0, _, h, _ => by omega
  | n + 1, k, hk, hc => by
    show (v k).toInt ≤ (if c n = true ∧ bst c v m0 n < v n then v n else bst c v m0 n).toInt
    by_cases h : c n = true ∧ bst c v m0 n < v n
    · rw [if_pos h]
      by_cases e : k = n
      · subst e; exact Int.le_refl _
      · have ih := bst_ge c v m0 n k (by omega) hc
        have := (fa_lt64 _ _).mp h.2
        omega
    · rw [if_neg h]
      by_cases e : k = n
      · subst e
        have h2 : ¬ bst c v m0 k < v k := fun q => h ⟨hc, q⟩
        rw [fa_lt64] at h2
        omega
      · exact bst_ge c v m0 n k (by omega) hc
theorem bst_src (c : Nat → Bool) (v : Nat → Int64) (m0 : Int64) : ∀ n, bst c v m0 n = m0 ∨ ∃ k, k < n ∧ c k = true ∧ bst c v m0 n = v k
  | 0 => Or.inl rfl
  | n + 1 => by
    show (if c n = true ∧ bst c v m0 n < v n then v n else bst c v m0 n) = m0 ∨ ∃ k, k < n + 1 ∧ c k = true ∧ (if c n = true ∧ bst c v m0 n < v n then v n else bst c v m0 n) = v k
    by_cases h : c n = true ∧ bst c v m0 n < v n
    · rw [if_pos h]; exact Or.inr ⟨n, by omega, h.1, rfl⟩
    · rw [if_neg h]
      rcases bst_src c v m0 n with e | ⟨k, h1, h2, h3⟩
      · exact Or.inl e
      · exact Or.inr ⟨k, by omega, h2, h3⟩
theorem bst_congr {c c' : Nat → Bool} {v v' : Nat → Int64} {m0 : Int64} : ∀ {n : Nat}, (∀ k, k < n → c k = c' k) → (∀ k, k < n → c k = true → v k = v' k) → bst c v m0 n = bst c' v' m0 n
  | 0, _, _ => rfl
  | n + 1, h1, h2 => by
    show (if c n = true ∧ bst c v m0 n < v n then v n else bst c v m0 n) = (if c' n = true ∧ bst c' v' m0 n < v' n then v' n else bst c' v' m0 n)
    rw [bst_congr (fun k hk => h1 k (by omega)) (fun k hk => h2 k (by omega)), h1 n (by omega)]
    cases hc : c' n with
    | false => rw [if_neg (fun q => by cases q.1), if_neg (fun q => by cases q.1)]
    | true => rw [h2 n (by omega) (by rw [h1 n (by omega)]; exact hc)]
/-- the greatest value of the plans of d slots -/
def Vd (a : Nat → Int32) (S N P kd fs ft : Nat) : Nat → Nat → Int64
  | 0, _ => 0
  | d + 1, s => bst (fun k => okc a N P kd fs ft s k (S - (d + 1))) (fun k => if Vd a S N P kd fs ft d (s + 4 ^ k) < 0 then -1 else gn a P kd (S - (d + 1)) k + Vd a S N P kd fs ft d (s + 4 ^ k)) (if nno kd fs (S - (d + 1)) then Vd a S N P kd fs ft d s else -1) N
theorem m1_toInt : (-1 : Int64).toInt = -1 := by decide
theorem z_toInt : (0 : Int64).toInt = 0 := by decide
theorem val_toInt {S N : Nat} {a : Nat → Int32} (hR : RowN S N a) {k : Nat} (hk : k < N) : 1 ≤ (a (11 + 9 * k + 8)).toInt ∧ (a (11 + 9 * k + 8)).toInt ≤ 1000 := (hR.2.2.2.2.2.2.2.2.2.2.2.2.2.2 k hk).2.2.2
theorem odP_rng {S N : Nat} {a : Nat → Int32} (hR : RowN S N a) (P t : Nat) : 0 ≤ (odP a P t).toInt ∧ (odP a P t).toInt ≤ 1000000 := by
  unfold odP
  by_cases h : t = P ∧ ¬ a 67 = 0
  · rw [if_pos h]
    by_cases h2 : a 67 = 1
    · rw [if_pos h2]; decide
    · rw [if_neg h2]; decide
  · rw [if_neg h]; exact od_rng hR t
theorem gn_rng {S N : Nat} {a : Nat → Int32} (hR : RowN S N a) {P kd t k : Nat} (hk : k < N) : 0 ≤ (gn a P kd t k).toInt ∧ (gn a P kd t k).toInt ≤ 1000000000 := by
  unfold gn
  by_cases h : kd = 4 ∨ kd = 5
  · rw [if_pos h]; decide
  · rw [if_neg h]
    have h1 := val_toInt hR hk
    have h2 := odP_rng hR P t
    have m1 : 0 ≤ (a (11 + 9 * k + 8)).toInt * (odP a P t).toInt ∧ (a (11 + 9 * k + 8)).toInt * (odP a P t).toInt ≤ 1000 * 1000000 := ⟨Int.mul_nonneg (by omega) h2.1, Int.mul_le_mul h1.2 h2.2 h2.1 (by omega)⟩
    rw [fb_mulL (by rw [Int32.toInt_toInt64, Int32.toInt_toInt64]; omega) (by rw [Int32.toInt_toInt64, Int32.toInt_toInt64]; omega), Int32.toInt_toInt64, Int32.toInt_toInt64]
    omega
theorem Vd_rng {S N : Nat} {a : Nat → Int32} (hR : RowN S N a) (P kd fs ft : Nat) : ∀ d, d ≤ 12 → ∀ s, -1 ≤ (Vd a S N P kd fs ft d s).toInt ∧ (Vd a S N P kd fs ft d s).toInt ≤ 1000000000 * d
  | 0, _, s => by
    show -1 ≤ (0 : Int64).toInt ∧ (0 : Int64).toInt ≤ _
    rw [z_toInt]
    omega
  | d + 1, hd, s => by
    have ih := Vd_rng hR P kd fs ft d (by omega)
    have h0 : -1 ≤ (if nno kd fs (S - (d + 1)) then Vd a S N P kd fs ft d s else -1).toInt ∧ (if nno kd fs (S - (d + 1)) then Vd a S N P kd fs ft d s else -1).toInt ≤ 1000000000 * (d + 1 : Nat) := by
      cases nno kd fs (S - (d + 1)) with
      | true =>
        have := ih s
        show -1 ≤ (Vd a S N P kd fs ft d s).toInt ∧ (Vd a S N P kd fs ft d s).toInt ≤ _
        omega
      | false =>
        show -1 ≤ (-1 : Int64).toInt ∧ (-1 : Int64).toInt ≤ _
        rw [m1_toInt]
        omega
    have hv : ∀ k, k < N → -1 ≤ (if Vd a S N P kd fs ft d (s + 4 ^ k) < 0 then -1 else gn a P kd (S - (d + 1)) k + Vd a S N P kd fs ft d (s + 4 ^ k)).toInt ∧ (if Vd a S N P kd fs ft d (s + 4 ^ k) < 0 then -1 else gn a P kd (S - (d + 1)) k + Vd a S N P kd fs ft d (s + 4 ^ k)).toInt ≤ 1000000000 * (d + 1 : Nat) := fun k hk => by
      by_cases c : Vd a S N P kd fs ft d (s + 4 ^ k) < 0
      · rw [if_pos c, m1_toInt]; omega
      · rw [if_neg c]
        have h1 := ih (s + 4 ^ k)
        have h2 := gn_rng hR (P := P) (kd := kd) (t := S - (d + 1)) hk
        rw [fa_lt64, z_toInt] at c
        rw [fb_addL (by omega) (by omega)]
        omega
    have hge := bst_ge0 (fun k => okc a N P kd fs ft s k (S - (d + 1))) (fun k => if Vd a S N P kd fs ft d (s + 4 ^ k) < 0 then -1 else gn a P kd (S - (d + 1)) k + Vd a S N P kd fs ft d (s + 4 ^ k)) (if nno kd fs (S - (d + 1)) then Vd a S N P kd fs ft d s else -1) N
    show -1 ≤ (bst (fun k => okc a N P kd fs ft s k (S - (d + 1))) (fun k => if Vd a S N P kd fs ft d (s + 4 ^ k) < 0 then -1 else gn a P kd (S - (d + 1)) k + Vd a S N P kd fs ft d (s + 4 ^ k)) (if nno kd fs (S - (d + 1)) then Vd a S N P kd fs ft d s else -1) N).toInt ∧ (bst (fun k => okc a N P kd fs ft s k (S - (d + 1))) (fun k => if Vd a S N P kd fs ft d (s + 4 ^ k) < 0 then -1 else gn a P kd (S - (d + 1)) k + Vd a S N P kd fs ft d (s + 4 ^ k)) (if nno kd fs (S - (d + 1)) then Vd a S N P kd fs ft d s else -1) N).toInt ≤ _
    refine ⟨by omega, ?_⟩
    rcases bst_src (fun k => okc a N P kd fs ft s k (S - (d + 1))) (fun k => if Vd a S N P kd fs ft d (s + 4 ^ k) < 0 then -1 else gn a P kd (S - (d + 1)) k + Vd a S N P kd fs ft d (s + 4 ^ k)) (if nno kd fs (S - (d + 1)) then Vd a S N P kd fs ft d s else -1) N with e | ⟨k, k1, k2, e⟩
    · rw [e]; exact h0.2
    · rw [e]; exact (hv k k1).2
/-- one choice of the class: the greatest value so far, in how many ways, by which plan -/
def chS (vs ws fs : Nat → Int64) (x : Nat) (g en : Int64) (c : Bool) (m : Int64 × Int64 × Int64) : Int64 × Int64 × Int64 :=
  if c = true ∧ ¬ vs x = -1 then
    if m.1 < vs x + g then (vs x + g, (0 : Int64) + ws x, fs x ||| en) else if vs x + g = m.1 then (m.1, m.2.1 + ws x, m.2.2) else m
  else m
def chF (vs ws fs : Nat → Int64) (s : Nat) (g : Nat → Int64) (t : Nat) (c : Nat → Bool) : Nat → Int64 × Int64 × Int64
  | 0 => (-1, 0, 0)
  | k + 1 => chS vs ws fs (s + 4 ^ k) (g k) ((nI k).toInt64 <<< ((((3 : Int32) * nI t)).toInt64 &&& 63)) (c k) (chF vs ws fs s g t c k)
def chE (vs ws fs : Nat → Int64) (s : Nat) (g : Nat → Int64) (t : Nat) (c : Nat → Bool) (nn : Bool) (N : Nat) : Int64 × Int64 × Int64 :=
  chS vs ws fs s 0 (((7 : Int32)).toInt64 <<< ((((3 : Int32) * nI t)).toInt64 &&& 63)) nn (chF vs ws fs s g t c N)
theorem chS_1 (vs ws fs : Nat → Int64) (x : Nat) (g en : Int64) (c : Bool) (m : Int64 × Int64 × Int64) : (chS vs ws fs x g en c m).1 = if (c && !decide (vs x = -1)) = true ∧ m.1 < vs x + g then vs x + g else m.1 := by
  unfold chS
  by_cases h : c = true ∧ ¬ vs x = -1
  · have hb : (c && !decide (vs x = -1)) = true := by rw [h.1, decide_eq_false h.2]; rfl
    rw [if_pos h, hb]
    by_cases h2 : m.1 < vs x + g
    · rw [if_pos h2, if_pos ⟨rfl, h2⟩]
    · rw [if_neg h2]
      have h4 : ¬ (true = true ∧ m.1 < vs x + g) := fun q => h2 q.2
      by_cases h3 : vs x + g = m.1
      · rw [if_pos h3, if_neg h4]
      · rw [if_neg h3, if_neg h4]
  · rw [if_neg h, if_neg (fun q => h ?_)]
    have q1 := q.1
    rw [Bool.and_eq_true, Bool.not_eq_true', decide_eq_false_iff_not] at q1
    exact q1
theorem chF_1 (vs ws fs : Nat → Int64) (s : Nat) (g : Nat → Int64) (t : Nat) (c : Nat → Bool) : ∀ n, (chF vs ws fs s g t c n).1 = bst (fun k => c k && !decide (vs (s + 4 ^ k) = -1)) (fun k => vs (s + 4 ^ k) + g k) (-1) n
  | 0 => rfl
  | n + 1 => by
    show (chS vs ws fs (s + 4 ^ n) (g n) _ (c n) (chF vs ws fs s g t c n)).1 = _
    rw [chS_1, chF_1 vs ws fs s g t c n]
    rfl
theorem chE_V {S N : Nat} {a : Nat → Int32} (hR : RowN S N a) {P kd fs ft d s t : Nat} {vs ws fi : Nat → Int64} {c : Nat → Bool} (hd : d < 12) (ht : t = S - (d + 1)) (hc : ∀ k, k < N → c k = okc a N P kd fs ft s k t) (hs : vs s = Vd a S N P kd fs ft d s) (hn : ∀ k, k < N → c k = true → vs (s + 4 ^ k) = Vd a S N P kd fs ft d (s + 4 ^ k)) :
    (chE vs ws fi s (gn a P kd t) t c (nno kd fs t) N).1 = Vd a S N P kd fs ft (d + 1) s := by
  subst ht
  have hV := Vd_rng hR P kd fs ft d (by omega)
  unfold chE
  rw [chS_1, chF_1]
  have hF1 : bst (fun k => c k && !decide (vs (s + 4 ^ k) = -1)) (fun k => vs (s + 4 ^ k) + gn a P kd (S - (d + 1)) k) (-1) N = bst (fun k => okc a N P kd fs ft s k (S - (d + 1)) && !decide (Vd a S N P kd fs ft d (s + 4 ^ k) = -1)) (fun k => Vd a S N P kd fs ft d (s + 4 ^ k) + gn a P kd (S - (d + 1)) k) (-1) N := by
    refine bst_congr (fun k hk => ?_) (fun k hk h => ?_)
    · cases hck : c k with
      | true => rw [← hc k hk, hck, hn k hk hck]
      | false => rw [← hc k hk, hck]; rfl
    · rw [Bool.and_eq_true] at h
      rw [hn k hk h.1]
  rw [hF1, hs]
  generalize hA : bst (fun k => okc a N P kd fs ft s k (S - (d + 1)) && !decide (Vd a S N P kd fs ft d (s + 4 ^ k) = -1)) (fun k => Vd a S N P kd fs ft d (s + 4 ^ k) + gn a P kd (S - (d + 1)) k) (-1) N = A
  have a0 := bst_ge0 (fun k => okc a N P kd fs ft s k (S - (d + 1)) && !decide (Vd a S N P kd fs ft d (s + 4 ^ k) = -1)) (fun k => Vd a S N P kd fs ft d (s + 4 ^ k) + gn a P kd (S - (d + 1)) k) (-1) N
  have a1 := bst_ge (fun k => okc a N P kd fs ft s k (S - (d + 1)) && !decide (Vd a S N P kd fs ft d (s + 4 ^ k) = -1)) (fun k => Vd a S N P kd fs ft d (s + 4 ^ k) + gn a P kd (S - (d + 1)) k) (-1) N
  have a2 := bst_src (fun k => okc a N P kd fs ft s k (S - (d + 1)) && !decide (Vd a S N P kd fs ft d (s + 4 ^ k) = -1)) (fun k => Vd a S N P kd fs ft d (s + 4 ^ k) + gn a P kd (S - (d + 1)) k) (-1) N
  rw [hA] at a0 a1 a2
  show _ = bst (fun k => okc a N P kd fs ft s k (S - (d + 1))) (fun k => if Vd a S N P kd fs ft d (s + 4 ^ k) < 0 then -1 else gn a P kd (S - (d + 1)) k + Vd a S N P kd fs ft d (s + 4 ^ k)) (if nno kd fs (S - (d + 1)) then Vd a S N P kd fs ft d s else -1) N
  have b0 := bst_ge0 (fun k => okc a N P kd fs ft s k (S - (d + 1))) (fun k => if Vd a S N P kd fs ft d (s + 4 ^ k) < 0 then -1 else gn a P kd (S - (d + 1)) k + Vd a S N P kd fs ft d (s + 4 ^ k)) (if nno kd fs (S - (d + 1)) then Vd a S N P kd fs ft d s else -1) N
  have b1 := bst_ge (fun k => okc a N P kd fs ft s k (S - (d + 1))) (fun k => if Vd a S N P kd fs ft d (s + 4 ^ k) < 0 then -1 else gn a P kd (S - (d + 1)) k + Vd a S N P kd fs ft d (s + 4 ^ k)) (if nno kd fs (S - (d + 1)) then Vd a S N P kd fs ft d s else -1) N
  have b2 := bst_src (fun k => okc a N P kd fs ft s k (S - (d + 1))) (fun k => if Vd a S N P kd fs ft d (s + 4 ^ k) < 0 then -1 else gn a P kd (S - (d + 1)) k + Vd a S N P kd fs ft d (s + 4 ^ k)) (if nno kd fs (S - (d + 1)) then Vd a S N P kd fs ft d s else -1) N
  generalize hB : bst (fun k => okc a N P kd fs ft s k (S - (d + 1))) (fun k => if Vd a S N P kd fs ft d (s + 4 ^ k) < 0 then -1 else gn a P kd (S - (d + 1)) k + Vd a S N P kd fs ft d (s + 4 ^ k)) (if nno kd fs (S - (d + 1)) then Vd a S N P kd fs ft d s else -1) N = B
  rw [hB] at b0 b1 b2
  rw [m1_toInt] at a0
  have hVs := hV s
  have hcmp : ∀ k, k < N → okc a N P kd fs ft s k (S - (d + 1)) = true → (Vd a S N P kd fs ft d (s + 4 ^ k) = -1 ∧ (if Vd a S N P kd fs ft d (s + 4 ^ k) < 0 then -1 else gn a P kd (S - (d + 1)) k + Vd a S N P kd fs ft d (s + 4 ^ k)) = -1) ∨ (¬ Vd a S N P kd fs ft d (s + 4 ^ k) = -1 ∧ (if Vd a S N P kd fs ft d (s + 4 ^ k) < 0 then -1 else gn a P kd (S - (d + 1)) k + Vd a S N P kd fs ft d (s + 4 ^ k)) = Vd a S N P kd fs ft d (s + 4 ^ k) + gn a P kd (S - (d + 1)) k) := fun k hk _ => by
    have h1 := hV (s + 4 ^ k)
    by_cases c1 : Vd a S N P kd fs ft d (s + 4 ^ k) = -1
    · refine Or.inl ⟨c1, if_pos ?_⟩
      rw [c1]; decide
    · refine Or.inr ⟨c1, ?_⟩
      have c2 : ¬ Vd a S N P kd fs ft d (s + 4 ^ k) < 0 := fun q => by
        rw [fa_lt64, z_toInt] at q
        exact c1 (Int64.toInt_inj.mp (by rw [m1_toInt]; omega))
      rw [if_neg c2, Int64.add_comm]
  -- both are the greatest of the same numbers
  have hAB : A.toInt ≤ B.toInt := by
    rcases a2 with e | ⟨k, k1, k2, e⟩
    · rw [e, m1_toInt]
      refine Int.le_trans ?_ b0
      cases nno kd fs (S - (d + 1)) with
      | true => exact hVs.1
      | false => exact (by rw [m1_toInt]; exact Int.le_refl _ : (-1 : Int) ≤ (-1 : Int64).toInt)
    · rw [Bool.and_eq_true, Bool.not_eq_true', decide_eq_false_iff_not] at k2
      have h3 := b1 k k1 k2.1
      rcases hcmp k k1 k2.1 with ⟨q, -⟩ | ⟨-, q⟩
      · exact absurd q k2.2
      · have h4 : (if Vd a S N P kd fs ft d (s + 4 ^ k) < 0 then -1 else gn a P kd (S - (d + 1)) k + Vd a S N P kd fs ft d (s + 4 ^ k)).toInt ≤ B.toInt := h3
        rw [q] at h4
        rw [e]
        exact h4
  have z0 : Vd a S N P kd fs ft d s + 0 = Vd a S N P kd fs ft d s := Int64.add_zero _
  rw [z0]
  have hBA : B.toInt ≤ A.toInt ∨ (nno kd fs (S - (d + 1)) = true ∧ B = Vd a S N P kd fs ft d s) := by
    rcases b2 with e | ⟨k, k1, k2, e⟩
    · cases hnn : nno kd fs (S - (d + 1)) with
      | true => rw [hnn] at e; exact Or.inr ⟨rfl, e⟩
      | false =>
        rw [hnn] at e
        refine Or.inl ?_
        rw [e]
        show (-1 : Int64).toInt ≤ A.toInt
        rw [m1_toInt]
        exact a0
    · refine Or.inl ?_
      rcases hcmp k k1 k2 with ⟨-, q⟩ | ⟨q1, q⟩
      · have e2 : B = -1 := e.trans q
        rw [e2, m1_toInt]
        exact a0
      · have e2 : B = Vd a S N P kd fs ft d (s + 4 ^ k) + gn a P kd (S - (d + 1)) k := e.trans q
        rw [e2]
        exact a1 k k1 (by rw [Bool.and_eq_true, Bool.not_eq_true', decide_eq_false_iff_not]; exact ⟨k2, q1⟩)
  by_cases hcc : (nno kd fs (S - (d + 1)) && !decide (Vd a S N P kd fs ft d s = -1)) = true ∧ A < Vd a S N P kd fs ft d s
  · rw [if_pos hcc]
    have q1 := hcc.1
    rw [Bool.and_eq_true] at q1
    rw [q1.1] at b0
    have b0' : (Vd a S N P kd fs ft d s).toInt ≤ B.toInt := b0
    have q2 := (fa_lt64 _ _).mp hcc.2
    rcases hBA with h | ⟨-, h⟩
    · omega
    · exact h.symm
  · rw [if_neg hcc]
    rcases hBA with h | ⟨h1, h2⟩
    · exact Int64.toInt_inj.mp (by omega)
    · by_cases hm : Vd a S N P kd fs ft d s = -1
      · rw [hm] at h2
        rw [h2, m1_toInt] at hAB
        exact Int64.toInt_inj.mp (by rw [h2, m1_toInt]; omega)
      · have h3 : ¬ A < Vd a S N P kd fs ft d s := fun q => hcc ⟨by rw [h1, decide_eq_false hm]; rfl, q⟩
        rw [fa_lt64] at h3
        rw [h2] at hAB
        exact Int64.toInt_inj.mp (by rw [h2]; omega)
