/-! ROWS ALIKE, NIGHTS COPIED, AND THE CHANGES THAT ARE KEPT -/
theorem cpy0 {f g : Nat → Int32} {n k : Nat} (h : k < n) : va_cpy f g 0 0 n k = f k := by
  unfold va_cpy
  rw [if_pos ⟨Nat.zero_le _, by omega⟩]
  congr 1
  omega
theorem hgt_row {a b : Nat → Int32} {p t : Nat} (h : ∀ i, i < 65 → b i = a i) (hp : p + 2 < 65) : hgt b p t = hgt a p t := by
  unfold hgt
  rw [h p (by omega), h (p + 1) (by omega), h (p + 2) (by omega)]
theorem obs_row {a b : Nat → Int32} {k t : Nat} (h : ∀ i, i < 65 → b i = a i) (hk : k < 6) : obs b k t = obs a k t := by
  unfold obs dd
  rw [hgt_row h (by omega), hgt_row h (by omega), h (11 + 9 * k + 4) (by omega), h (11 + 9 * k + 5) (by omega), h (11 + 9 * k + 6) (by omega), h 4 (by omega), h 5 (by omega), h 6 (by omega)]
theorem odF_row {a b : Nat → Int32} (h : ∀ i, i < 65 → b i = a i) : ∀ t, odF b t = odF a t
  | 0 => by
    show (10000 : Int32) * b 7 = (10000 : Int32) * a 7
    rw [h 7 (by omega)]
  | t + 1 => by
    show ((odF b t * b 8) + (((1000000 : Int32) - odF b t) * b 9)) / (100 : Int32) = ((odF a t * a 8) + (((1000000 : Int32) - odF a t) * a 9)) / (100 : Int32)
    rw [odF_row h t, h 8 (by omega), h 9 (by omega)]
theorem tmk_row {a b : Nat → Int32} (h : ∀ i, i < 65 → b i = a i) : ∀ n, n ≤ 6 → tmk b n = tmk a n
  | 0, _ => rfl
  | n + 1, hn => by
    show tmk b n ||| ((1 : Int32) <<< (b (11 + 9 * n) &&& 31)) = tmk a n ||| ((1 : Int32) <<< (a (11 + 9 * n) &&& 31))
    rw [tmk_row h n (by omega), h (11 + 9 * n) (by omega)]
theorem wnt_row {a b : Nat → Int32} {k : Nat} (h : ∀ i, i < 65 → b i = a i) (hk : k < 6) : wnt b k = wnt a k := by
  unfold wnt
  rw [h (11 + 9 * k + 7) (by omega)]
theorem RowN_row {a b : Nat → Int32} {S N : Nat} (h : ∀ i, i < 65 → b i = a i) (hR : RowN S N a) : RowN S N b := by
  obtain ⟨r1, r2, r3, r4, r5, r6, r7, r8, r9, r10, r11, r12, r13, r14, r15⟩ := hR
  refine ⟨r1, r2, r3, ?_, ?_, ?_, ?_, ?_, ?_, ?_, ?_, ?_, ?_, ?_, fun k hk => ?_⟩
  · rw [h 0 (by omega)]; exact r4
  · rw [h 10 (by omega)]; exact r5
  · rw [h 1 (by omega)]; exact r6
  · rw [h 2 (by omega)]; exact r7
  · rw [h 3 (by omega)]; exact r8
  · rw [h 4 (by omega)]; exact r9
  · rw [h 5 (by omega)]; exact r10
  · rw [h 6 (by omega)]; exact r11
  · rw [h 7 (by omega)]; exact r12
  · rw [h 8 (by omega)]; exact r13
  · rw [h 9 (by omega)]; exact r14
  · rw [h (11 + 9 * k) (by omega), h (11 + 9 * k + 5) (by omega), h (11 + 9 * k + 7) (by omega), h (11 + 9 * k + 8) (by omega)]
    exact r15 k hk
theorem Gd_row {a b : Nat → Int32} {N s0 s : Nat} (h : ∀ i, i < 65 → b i = a i) (hN : N ≤ 6) (hg : Gd N a s0 s) : Gd N b s0 s :=
  ⟨hg.1, fun k hk => by rw [wnt_row h (by omega)]; exact hg.2 k hk⟩
theorem NR_row {a b : Nat → Int32} {S N : Nat} {v : NiS} (h : ∀ i, i < 65 → b i = a i) (hN : N ≤ 6) (hn : NR S N a v) : NR S N b v := by
  obtain ⟨n1, n2, n3, n4, n5, n6, n7, n8⟩ := hn
  refine ⟨n1, n2, ?_, fun j hj => ?_, fun j hj => ?_, fun k w hk hw => ?_, fun t ht => ?_, fun t ht => ?_⟩
  · rw [tmk_row h N hN]; exact n3
  · rw [h (1 + j) (by omega)]; exact n4 j hj
  · rw [h (7 + j) (by omega)]; exact n5 j hj
  · rw [h (11 + 9 * k + w) (by omega)]; exact n6 k w hk hw
  · rw [n7 t ht]
    exact msk_congr (fun k hk => (obs_row h (by omega)).symm)
  · rw [odF_row h t]; exact n8 t ht
/-- rows that are alike up to their end -/
theorem SR_row {a b : Nat → Int32} {S N P s0 : Nat} {vn : NiS} {vg : PrS} (h : ∀ i, i < 99 → b i = a i) (hr : SR S N P s0 a vn vg) : SR S N P s0 b vn vg := by
  obtain ⟨⟨hR, hPS, hg⟩, hP, hm, hsk, hov, hps, hn, hp⟩ := hr
  obtain ⟨p1, p2, p3, p4, p5, p6, p7⟩ := hp
  have h6 : ∀ i, i < 65 → b i = a i := fun i hi => h i (by omega)
  have hS := hR.2.1
  have hN := hR.2.2.1
  refine ⟨⟨RowN_row h6 hR, hPS, Gd_row h6 hN hg⟩, ?_, fun k hk => ?_, ?_, fun e => ?_, fun t ht => ?_, NR_row h6 hN hn, p1, ?_, ?_, ?_, p5, fun t ht => ?_, fun t ht => ?_⟩
  · rw [h 65 (by omega)]; exact hP
  · rw [h (69 + k) (by omega)]; exact hm k hk
  · rw [h 67 (by omega)]; exact hsk
  · rw [h 67 (by omega)]; exact hov e
  · rw [h (87 + t) (by omega)]; exact hps t ht
  · rw [h 67 (by omega)]; exact p2
  · rw [h 66 (by omega)]; exact p3
  · rw [h 68 (by omega)]; exact p4
  · rw [h (75 + t) (by omega)]; exact p6 t ht
  · rw [h (87 + t) (by omega)]; exact p7 t ht
/-- a night copied over another, a progress too -/
def cpN (v w : NiS) : NiS := (v.1, v.2.1, v.2.2.1, va_cpy v.2.2.2.1 w.2.2.2.1 0 0 6, va_cpy v.2.2.2.2.1 w.2.2.2.2.1 0 0 3, va_cpy v.2.2.2.2.2.1 w.2.2.2.2.2.1 0 0 54, va_cpy v.2.2.2.2.2.2.1 w.2.2.2.2.2.2.1 0 0 12, va_cpy v.2.2.2.2.2.2.2 w.2.2.2.2.2.2.2 0 0 12)
def cpP (v w : PrS) : PrS := (v.1, v.2.1, v.2.2.1, v.2.2.2.1, v.2.2.2.2.1, va_cpy v.2.2.2.2.2.1 w.2.2.2.2.2.1 0 0 12, va_cpy v.2.2.2.2.2.2 w.2.2.2.2.2.2 0 0 12)
theorem NR_copy {a : Nat → Int32} {S N : Nat} {v : NiS} (w : NiS) (hS : S ≤ 12) (hN : N ≤ 6) (hn : NR S N a v) : NR S N a (cpN v w) := by
  obtain ⟨n1, n2, n3, n4, n5, n6, n7, n8⟩ := hn
  exact ⟨n1, n2, n3, fun j hj => (cpy0 hj).trans (n4 j hj), fun j hj => (cpy0 hj).trans (n5 j hj), fun k w hk hw => (cpy0 (by omega)).trans (n6 k w hk hw), fun t ht => (cpy0 (by omega)).trans (n7 t ht), fun t ht => (cpy0 (by omega)).trans (n8 t ht)⟩
theorem SR_copy {a : Nat → Int32} {S N P s0 : Nat} {vn : NiS} {vg : PrS} (wn : NiS) (wg : PrS) (hr : SR S N P s0 a vn vg) : SR S N P s0 a (cpN vn wn) (cpP vg wg) := by
  obtain ⟨⟨hR, hPS, hg⟩, hP, hm, hsk, hov, hps, hn, hp⟩ := hr
  obtain ⟨p1, p2, p3, p4, p5, p6, p7⟩ := hp
  have hS := hR.2.1
  have hN := hR.2.2.1
  exact ⟨⟨hR, hPS, hg⟩, hP, hm, hsk, hov, hps, NR_copy wn hS hN hn, p1, p2, p3, p4, p5, fun t ht => (cpy0 (by omega)).trans (p6 t ht), fun t ht => (cpy0 (by omega)).trans (p7 t ht)⟩

theorem min8 {n : Nat} (hn : n ≤ 8) : (if (8 : Int32) < (nI n + (1 : Int32)) then (8 : Int32) else (nI n + (1 : Int32))) = nI (if n = 8 then 8 else n + 1) := by
  rw [nI_1 n]
  by_cases e : n = 8
  · subst e; decide
  · rw [if_neg e, if_neg (show ¬ (8 : Int32) < nI (n + 1) from nI_nlt (a := 8) (by omega) (by omega))]
theorem keep_eq {n : Nat} (hn : n ≤ 8) (vhN : Nat → NiS) (vhP : Nat → PrS) (vn : NiS) (vg : PrS) : ∀ nx, nx < 8 → pX1_keep (nI nx) (nI n) vhN vhP vn vg = some (nI ((nx + 1) % 8), nI (if n = 8 then 8 else n + 1), upF vhN nx (cpN vn (vhN nx)), upF vhP nx (cpP vg (vhP nx)))
  | 0, _ => by
    unfold pX1_keep
    rw [if_pos (show nI 0 = (0 : Int32) by decide), min8 hn]
    rfl
  | 1, _ => by
    unfold pX1_keep
    rw [if_neg (show ¬ nI 1 = (0 : Int32) by decide), if_pos (show nI 1 = (1 : Int32) by decide), min8 hn]
    rfl
  | 2, _ => by
    unfold pX1_keep
    rw [if_neg (show ¬ nI 2 = (0 : Int32) by decide), if_neg (show ¬ nI 2 = (1 : Int32) by decide), if_pos (show nI 2 = (2 : Int32) by decide), min8 hn]
    rfl
  | 3, _ => by
    unfold pX1_keep
    rw [if_neg (show ¬ nI 3 = (0 : Int32) by decide), if_neg (show ¬ nI 3 = (1 : Int32) by decide), if_neg (show ¬ nI 3 = (2 : Int32) by decide), if_pos (show nI 3 = (3 : Int32) by decide), min8 hn]
    rfl
  | 4, _ => by
    unfold pX1_keep
    rw [if_neg (show ¬ nI 4 = (0 : Int32) by decide), if_neg (show ¬ nI 4 = (1 : Int32) by decide), if_neg (show ¬ nI 4 = (2 : Int32) by decide), if_neg (show ¬ nI 4 = (3 : Int32) by decide), if_pos (show nI 4 = (4 : Int32) by decide), min8 hn]
    rfl
  | 5, _ => by
    unfold pX1_keep
    rw [if_neg (show ¬ nI 5 = (0 : Int32) by decide), if_neg (show ¬ nI 5 = (1 : Int32) by decide), if_neg (show ¬ nI 5 = (2 : Int32) by decide), if_neg (show ¬ nI 5 = (3 : Int32) by decide), if_neg (show ¬ nI 5 = (4 : Int32) by decide), if_pos (show nI 5 = (5 : Int32) by decide), min8 hn]
    rfl
  | 6, _ => by
    unfold pX1_keep
    rw [if_neg (show ¬ nI 6 = (0 : Int32) by decide), if_neg (show ¬ nI 6 = (1 : Int32) by decide), if_neg (show ¬ nI 6 = (2 : Int32) by decide), if_neg (show ¬ nI 6 = (3 : Int32) by decide), if_neg (show ¬ nI 6 = (4 : Int32) by decide), if_neg (show ¬ nI 6 = (5 : Int32) by decide), if_pos (show nI 6 = (6 : Int32) by decide), min8 hn]
    rfl
  | 7, _ => by
    unfold pX1_keep
    rw [if_neg (show ¬ nI 7 = (0 : Int32) by decide), if_neg (show ¬ nI 7 = (1 : Int32) by decide), if_neg (show ¬ nI 7 = (2 : Int32) by decide), if_neg (show ¬ nI 7 = (3 : Int32) by decide), if_neg (show ¬ nI 7 = (4 : Int32) by decide), if_neg (show ¬ nI 7 = (5 : Int32) by decide), if_neg (show ¬ nI 7 = (6 : Int32) by decide), if_pos (show nI 7 = (7 : Int32) by decide), min8 hn]
    rfl
  | nx + 8, h => by omega
theorem back_eq {n : Nat} (h0 : 0 < n) (vhN : Nat → NiS) (vhP : Nat → PrS) (vn : NiS) (vg : PrS) : ∀ nx, nx < 8 → pX1_takeBack (nI nx) (nI n) vhN vhP vn vg = some (nI ((nx + 7) % 8), nI (n - 1), cpN (vhN ((nx + 7) % 8)) vn, cpP (vhP ((nx + 7) % 8)) vg)
  | 0, _ => by
    unfold pX1_takeBack
    rw [if_pos (show nI 0 = (0 : Int32) by decide), dn_sub h0, dn_eq h0]
    rfl
  | 1, _ => by
    unfold pX1_takeBack
    rw [if_neg (show ¬ nI 1 = (0 : Int32) by decide), if_pos (show nI 1 = (1 : Int32) by decide), dn_sub h0, dn_eq h0]
    rfl
  | 2, _ => by
    unfold pX1_takeBack
    rw [if_neg (show ¬ nI 2 = (0 : Int32) by decide), if_neg (show ¬ nI 2 = (1 : Int32) by decide), if_pos (show nI 2 = (2 : Int32) by decide), dn_sub h0, dn_eq h0]
    rfl
  | 3, _ => by
    unfold pX1_takeBack
    rw [if_neg (show ¬ nI 3 = (0 : Int32) by decide), if_neg (show ¬ nI 3 = (1 : Int32) by decide), if_neg (show ¬ nI 3 = (2 : Int32) by decide), if_pos (show nI 3 = (3 : Int32) by decide), dn_sub h0, dn_eq h0]
    rfl
  | 4, _ => by
    unfold pX1_takeBack
    rw [if_neg (show ¬ nI 4 = (0 : Int32) by decide), if_neg (show ¬ nI 4 = (1 : Int32) by decide), if_neg (show ¬ nI 4 = (2 : Int32) by decide), if_neg (show ¬ nI 4 = (3 : Int32) by decide), if_pos (show nI 4 = (4 : Int32) by decide), dn_sub h0, dn_eq h0]
    rfl
  | 5, _ => by
    unfold pX1_takeBack
    rw [if_neg (show ¬ nI 5 = (0 : Int32) by decide), if_neg (show ¬ nI 5 = (1 : Int32) by decide), if_neg (show ¬ nI 5 = (2 : Int32) by decide), if_neg (show ¬ nI 5 = (3 : Int32) by decide), if_neg (show ¬ nI 5 = (4 : Int32) by decide), if_pos (show nI 5 = (5 : Int32) by decide), dn_sub h0, dn_eq h0]
    rfl
  | 6, _ => by
    unfold pX1_takeBack
    rw [if_neg (show ¬ nI 6 = (0 : Int32) by decide), if_neg (show ¬ nI 6 = (1 : Int32) by decide), if_neg (show ¬ nI 6 = (2 : Int32) by decide), if_neg (show ¬ nI 6 = (3 : Int32) by decide), if_neg (show ¬ nI 6 = (4 : Int32) by decide), if_neg (show ¬ nI 6 = (5 : Int32) by decide), if_pos (show nI 6 = (6 : Int32) by decide), dn_sub h0, dn_eq h0]
    rfl
  | 7, _ => by
    unfold pX1_takeBack
    rw [if_neg (show ¬ nI 7 = (0 : Int32) by decide), if_neg (show ¬ nI 7 = (1 : Int32) by decide), if_neg (show ¬ nI 7 = (2 : Int32) by decide), if_neg (show ¬ nI 7 = (3 : Int32) by decide), if_neg (show ¬ nI 7 = (4 : Int32) by decide), if_neg (show ¬ nI 7 = (5 : Int32) by decide), if_neg (show ¬ nI 7 = (6 : Int32) by decide), if_pos (show nI 7 = (7 : Int32) by decide), dn_sub h0, dn_eq h0]
    rfl
  | nx + 8, h => by omega
/-- the changes that are kept, newest first -/
def HR (vhn vhs : Int32) (vhN : Nat → NiS) (vhP : Nat → PrS) (kept : Nat → Int32) (km : Int32) : Prop :=
  ∃ nx n : Nat, nx < 8 ∧ n ≤ 8 ∧ vhn = nI nx ∧ vhs = nI n ∧ km = nI n ∧ ∀ j, j < n → ∃ S N P s0, SR S N P s0 (fun i => kept (99 * (n - 1 - j) + i)) (vhN ((nx + 7 - j) % 8)) (vhP ((nx + 7 - j) % 8))
theorem ix_99 (n i : Nat) : ((99 : Int32) * nI n) + nI i = nI (99 * n + i) := adds (muls rfl rfl rfl) rfl rfl
theorem m_put {a : Nat → Int32} {n : Nat} (hn : n < 8) {K0 : Nat → Int32} : ∀ (fu i : Nat) (kept : Nat → Int32), i ≤ 99 → 99 - i < fu → (∀ j, j < i → kept (99 * n + j) = a j) → (∀ q, q < 99 * n → kept q = K0 q) → ∃ kept', lpX9_keeps_51 a (nI n) fu (nI i) kept = some (nI 99, kept') ∧ (∀ j, j < 99 → kept' (99 * n + j) = a j) ∧ ∀ q, q < 99 * n → kept' q = K0 q
  | 0, _, _, _, h, _, _ => by omega
  | fu + 1, i, kept, hi, hf, h1, h2 => by
    unfold lpX9_keeps_51
    by_cases e : i = 99
    · subst e
      rw [if_pos (show (99 : Int32) ≤ nI 99 by decide)]
      exact ⟨kept, rfl, h1, h2⟩
    · rw [if_neg (show ¬ (99 : Int32) ≤ nI i from nI_ge (b := 99) (by omega) (by omega)), if_neg (in_ok rfl (by omega : i < 99) (by omega)), if_neg (in_ok (ix_99 n i) (by omega : 99 * n + i < 792) (by omega)), clampN (ix_99 n i) (by omega), clampN (x := nI i) rfl (by omega), nI_1 i]
      refine m_put hn fu (i + 1) _ (by omega) (by omega) (fun j hj => ?_) (fun q hq => ?_)
      · show (if 99 * n + j = 99 * n + i then a i else kept (99 * n + j)) = a j
        by_cases c : j = i
        · rw [if_pos (by omega), c]
        · rw [if_neg (by omega)]; exact h1 j (by omega)
      · show (if q = 99 * n + i then a i else kept q) = K0 q
        rw [if_neg (by omega)]; exact h2 q hq
theorem m_shift {K0 : Nat → Int32} : ∀ (fu i : Nat) (kept : Nat → Int32), i ≤ 693 → 693 - i < fu → (∀ q, q < i → kept q = K0 (q + 99)) → (∀ q, i ≤ q → kept q = K0 q) → ∃ y kept', lpX9_keeps_11 fu (nI i) kept = some (y, kept') ∧ ∀ q, q < 693 → kept' q = K0 (q + 99)
  | 0, _, _, _, h, _, _ => by omega
  | fu + 1, i, kept, hi, hf, h1, h2 => by
    unfold lpX9_keeps_11
    by_cases e : i = 693
    · subst e
      rw [if_pos (show (693 : Int32) ≤ nI 693 by decide)]
      exact ⟨_, kept, rfl, h1⟩
    · have e1 : nI i + (99 : Int32) = nI (i + 99) := adds rfl rfl rfl
      rw [if_neg (show ¬ (693 : Int32) ≤ nI i from nI_ge (b := 693) (by omega) (by omega)), if_neg (in_ok e1 (by omega : i + 99 < 792) (by omega)), if_neg (in_ok rfl (by omega : i < 792) (by omega)), clampN e1 (by omega), clampN (x := nI i) rfl (by omega), nI_1 i]
      refine m_shift fu (i + 1) _ (by omega) (by omega) (fun q hq => ?_) (fun q hq => ?_)
      · show (if q = i then kept (i + 99) else kept q) = K0 (q + 99)
        by_cases c : q = i
        · rw [if_pos c, c]; exact h2 _ (by omega)
        · rw [if_neg c]; exact h1 q (by omega)
      · show (if q = i then kept (i + 99) else kept q) = K0 q
        rw [if_neg (by omega)]; exact h2 q (by omega)
theorem upF_same {α : Type} {f : Nat → α} {i : Nat} {x : α} : upF f i x i = x := by
  show (bif Nat.beq i i then x else f i) = x
  rw [Nat.beq_refl]
  rfl
theorem upF_other {α : Type} {f : Nat → α} {i j : Nat} {x : α} (h : ¬ j = i) : upF f i x j = f j := by
  show (bif Nat.beq j i then x else f j) = f j
  cases e : Nat.beq j i with
  | true => exact absurd (Nat.eq_of_beq_eq_true e) h
  | false => rfl
/-- a change is kept by both -/
theorem h_keep {a kept : Nat → Int32} {vhn vhs km : Int32} {vhN : Nat → NiS} {vhP : Nat → PrS} {S N P s0 : Nat} {vn : NiS} {vg : PrS} (hh : HR vhn vhs vhN vhP kept km) (hr : SR S N P s0 a vn vg) :
    ∃ hn hs hN hP km' kept', pX8_remember vn vg vhn vhs vhN vhP = some (hn, hs, hN, hP) ∧ pX9_keeps a kept km = some (km', kept') ∧ HR hn hs hN hP kept' km' := by
  obtain ⟨nx, n, h1, h2, rfl, rfl, rfl, h3⟩ := hh
  have hc : pX8_remember vn vg (nI nx) (nI n) vhN vhP = some (nI ((nx + 1) % 8), nI (if n = 8 then 8 else n + 1), upF vhN nx (cpN vn (vhN nx)), upF vhP nx (cpP vg (vhP nx))) := by
    unfold pX8_remember
    rw [ob_eq (keep_eq h2 vhN vhP vn vg nx h1)]
    rfl
  refine ⟨nI ((nx + 1) % 8), nI (if n = 8 then 8 else n + 1), upF vhN nx (cpN vn (vhN nx)), upF vhP nx (cpP vg (vhP nx)), nI (if n = 8 then 8 else n + 1), ?_⟩
  have hring : ∀ (kept' : Nat → Int32), (∀ i, i < 99 → kept' (99 * ((if n = 8 then 8 else n + 1) - 1) + i) = a i) → (∀ j, 0 < j → j < (if n = 8 then 8 else n + 1) → ∀ i, i < 99 → kept' (99 * ((if n = 8 then 8 else n + 1) - 1 - j) + i) = kept (99 * (n - 1 - (j - 1)) + i)) → HR (nI ((nx + 1) % 8)) (nI (if n = 8 then 8 else n + 1)) (upF vhN nx (cpN vn (vhN nx))) (upF vhP nx (cpP vg (vhP nx))) kept' (nI (if n = 8 then 8 else n + 1)) := by
    intro kept' k1 k2
    have hd8 : (if n = 8 then 8 else n + 1) ≤ 8 := by
      by_cases c8 : n = 8
      · rw [if_pos c8]; exact Nat.le_refl _
      · rw [if_neg c8]; omega
    refine ⟨(nx + 1) % 8, if n = 8 then 8 else n + 1, by omega, hd8, rfl, rfl, rfl, fun j hj => ?_⟩
    have hj8 : j < 8 := by omega
    by_cases c : j = 0
    · subst c
      have e1 : ((nx + 1) % 8 + 7 - 0) % 8 = nx := by omega
      rw [e1, upF_same, upF_same]
      exact ⟨S, N, P, s0, SR_row (fun i hi => k1 i hi) (SR_copy _ _ hr)⟩
    · have hj2 : j - 1 < n := by
        by_cases c8 : n = 8
        · rw [if_pos c8] at hj; omega
        · rw [if_neg c8] at hj; omega
      obtain ⟨S', N', P', s', h4⟩ := h3 (j - 1) hj2
      have e1 : ((nx + 1) % 8 + 7 - j) % 8 = (nx + 7 - (j - 1)) % 8 := by omega
      have e2 : ¬ (nx + 7 - (j - 1)) % 8 = nx := by omega
      rw [e1, upF_other e2, upF_other e2]
      exact ⟨S', N', P', s', SR_row (fun i hi => k2 j (by omega) hj i hi) h4⟩
  unfold pX9_keeps
  by_cases c8 : n = 8
  · subst c8
    obtain ⟨y, K1, s1, s2⟩ := m_shift (K0 := kept) lpF 0 kept (by omega) (by have := lpF_big; omega) (fun q hq => by omega) (fun q hq => rfl)
    obtain ⟨K2, u1, u2, u3⟩ := m_put (a := a) (n := 7) (by omega) (K0 := K1) lpF 0 K1 (by omega) (by have := lpF_big; omega) (fun q hq => by omega) (fun q hq => rfl)
    refine ⟨K2, hc, ?_, hring K2 (fun i hi => u2 i hi) (fun j h0 hj i hi => ?_)⟩
    · rw [if_neg (show ¬ ¬ nI 8 = (8 : Int32) from fun h => h rfl), ob_eq (show lpX9_keeps_11 lpF (0 : Int32) kept = _ from s1), show nI 8 - (1 : Int32) = nI 7 from by decide, ob_eq (show lpX9_keeps_51 a (nI 7) lpF (0 : Int32) K1 = _ from u1)]
      rfl
    · rw [if_pos rfl] at hj ⊢
      rw [u3 _ (by omega), s2 _ (by omega)]
      exact congrArg kept (by omega)
  · obtain ⟨K2, u1, u2, u3⟩ := m_put (a := a) (n := n) (by omega) (K0 := kept) lpF 0 kept (by omega) (by have := lpF_big; omega) (fun q hq => by omega) (fun q hq => rfl)
    refine ⟨K2, hc, ?_, hring K2 (fun i hi => ?_) (fun j h0 hj i hi => ?_)⟩
    · rw [if_pos (show ¬ nI n = (8 : Int32) from fun h => c8 ((keq 8 (by omega) (by omega)).mp h)), ob_eq (show lpX9_keeps_51 a (nI n) lpF (0 : Int32) kept = _ from u1), if_neg c8, nI_1 n]
    · rw [if_neg c8]
      exact u2 i hi
    · rw [if_neg c8] at hj ⊢
      rw [u3 _ (by have : 99 * (n + 1 - 1 - j) + 99 ≤ 99 * n := by omega
                   omega)]
      exact congrArg kept (by omega)
theorem m_unput {kept : Nat → Int32} {n : Nat} (hn : n < 8) : ∀ (fu i : Nat) (a : Nat → Int32), i ≤ 99 → 99 - i < fu → (∀ j, j < i → a j = kept (99 * n + j)) → ∃ a', lpX9_undo_37 kept (nI n) fu (nI i) a = some (nI 99, a') ∧ ∀ j, j < 99 → a' j = kept (99 * n + j)
  | 0, _, _, _, h, _ => by omega
  | fu + 1, i, a, hi, hf, h1 => by
    unfold lpX9_undo_37
    by_cases e : i = 99
    · subst e
      rw [if_pos (show (99 : Int32) ≤ nI 99 by decide)]
      exact ⟨a, rfl, h1⟩
    · rw [if_neg (show ¬ (99 : Int32) ≤ nI i from nI_ge (b := 99) (by omega) (by omega)), if_neg (in_ok (ix_99 n i) (by omega : 99 * n + i < 792) (by omega)), if_neg (in_ok rfl (by omega : i < 99) (by omega)), clampN (ix_99 n i) (by omega), clampN (x := nI i) rfl (by omega), nI_1 i]
      refine m_unput hn fu (i + 1) _ (by omega) (by omega) (fun j hj => ?_)
      show (if j = i then kept (99 * n + i) else a j) = _
      by_cases c : j = i
      · rw [if_pos c, c]
      · rw [if_neg c]; exact h1 j (by omega)
/-! what is forgotten -/
def fgR (v : ReS) : ReS := (v.1, (0 : Int32), v.2.2.1, v.2.2.2.1, v.2.2.2.2.1, v.2.2.2.2.2.1, v.2.2.2.2.2.2.1, v.2.2.2.2.2.2.2.1, v.2.2.2.2.2.2.2.2.1, v.2.2.2.2.2.2.2.2.2)
def fgP (vp : PlS) : PlS := (vp.1, vp.2.1, vp.2.2.1, vp.2.2.2.1, vp.2.2.2.2.1, vp.2.2.2.2.2.1, vp.2.2.2.2.2.2.1, vp.2.2.2.2.2.2.2.1, vp.2.2.2.2.2.2.2.2.1, (0 : Int32), vp.2.2.2.2.2.2.2.2.2.2.1, vp.2.2.2.2.2.2.2.2.2.2.2.1, vp.2.2.2.2.2.2.2.2.2.2.2.2)
def fgQ (vq : DeS) : DeS := (vq.1, vq.2.1, vq.2.2.1, vq.2.2.2.1, vq.2.2.2.2.1, vq.2.2.2.2.2.1, vq.2.2.2.2.2.2.1, vq.2.2.2.2.2.2.2.1, vq.2.2.2.2.2.2.2.2.1, vq.2.2.2.2.2.2.2.2.2.1, (0 : Int32))
/-- all caches of the class -/
def CA (a : Nat → Int32) (S N P s0 : Nat) (vt vu : ReS) (vp : PlS) (vq : DeS) : Prop := CP a S N P s0 vt vu vp ∧ DV a S N P s0 vt vq
theorem CA_fg {a b : Nat → Int32} {S N P s0 S' N' P' s1 : Nat} {vt vu : ReS} {vp : PlS} {vq : DeS} (h : CA a S N P s0 vt vu vp vq) : CA b S' N' P' s1 (fgR vt) (fgR vu) (fgP vp) (fgQ vq) := by
  obtain ⟨⟨⟨r1, r2, r3, r4, -⟩, ⟨t1, t2, t3, t4, -⟩, ⟨p1, p2, p3, -⟩⟩, ⟨d1, d2, d3, d4, -⟩⟩ := h
  exact ⟨⟨⟨r1, r2, r3, r4, Or.inl rfl⟩, ⟨t1, t2, t3, t4, Or.inl rfl⟩, ⟨p1, p2, p3, Or.inl rfl⟩⟩, ⟨d1, d2, d3, d4, Or.inl rfl⟩⟩
/-- the lengths of all rows, weighed -/
def wg (vt vu : ReS) (vp : PlS) (vq : DeS) : Nat := 6 * vt.2.2.2.2.1 + 6 * vu.2.2.2.2.1 + 6 * vp.2.2.2.1 + 4 * vq.1 + 4 * vq.2.2.2.2.1
theorem wg_fg (vt vu : ReS) (vp : PlS) (vq : DeS) : wg (fgR vt) (fgR vu) (fgP vp) (fgQ vq) = wg vt vu vp vq := rfl
theorem wg_le {a : Nat → Int32} {S N P s0 : Nat} {vt vu : ReS} {vp : PlS} {vq : DeS} (h : CA a S N P s0 vt vu vp vq) : wg vt vu vp vq ≤ 106496 := by
  obtain ⟨⟨⟨r1, r2, -⟩, ⟨t1, t2, -⟩, ⟨p1, -⟩⟩, ⟨d1, d2, d3, -⟩⟩ := h
  have := Len_lt r2
  have := Len_lt t2
  have := Len_lt p1
  have := Len_lt d1
  have := Len_lt d3
  unfold wg
  omega
/-- an undone change -/
theorem w_undo {a kept : Nat → Int32} {vhn vhs km : Int32} {vhN : Nat → NiS} {vhP : Nat → PrS} {S N P s0 : Nat} {vn : NiS} {vg : PrS} {vt vu : ReS} {vp : PlS} {vq : DeS} (hh : HR vhn vhs vhN vhP kept km) (hr : SR S N P s0 a vn vg) (hc : CA a S N P s0 vt vu vp vq) :
    ∃ o vn' vg' hn hs vt' vu' vp' vq' c k v t km' a', pX8_undo vn vg vhn vhs vhN vhP vt vu vp vq = some (o, vn', vg', hn, hs, vt', vu', vp', vq', c, k) ∧ pX9_undo a kept km = some (v, km', t, a') ∧ Ans "java/lang/IllegalStateException" "" o v t ∧ HR hn hs vhN vhP kept km' ∧ (∃ S' N' P' s1, SR S' N' P' s1 a' vn' vg' ∧ CA a' S' N' P' s1 vt' vu' vp' vq') ∧ wg vt' vu' vp' vq' = wg vt vu vp vq ∧ c ≤ 1 ∧ k ≤ 6 := by
  have hh' := hh
  obtain ⟨nx, n, h1, h2, rfl, rfl, rfl, h3⟩ := hh
  unfold pX8_undo pX9_undo
  by_cases c0 : n = 0
  · subst c0
    rw [if_neg (show ¬ ¬ nI 0 = 0 from fun h => h rfl), if_neg (show ¬ ¬ nI 0 = 0 from fun h => h rfl)]
    exact ⟨_, _, _, _, _, _, _, _, _, _, _, _, _, _, _, rfl, rfl, Ans1 _, hh', ⟨S, N, P, s0, hr, hc⟩, rfl, by omega, by omega⟩
  · have h0 : 0 < n := by omega
    have e1 : nI n - (1 : Int32) = nI (n - 1) := by rw [dn_sub h0, dn_eq h0]
    obtain ⟨a', u1, u2⟩ := m_unput (kept := kept) (n := n - 1) (by omega) lpF 0 a (by omega) (by have := lpF_big; omega) (fun j hj => by omega)
    obtain ⟨S', N', P', s', h4⟩ := h3 0 h0
    rw [if_pos (nI_ne0 h0 (by omega)), if_pos (nI_ne0 h0 (by omega)), ob_eq (back_eq h0 vhN vhP vn vg nx h1), e1, ob_eq (show lpX9_undo_37 kept (nI (n - 1)) lpF (0 : Int32) a = _ from u1)]
    refine ⟨_, _, _, _, _, fgR vt, fgR vu, fgP vp, fgQ vq, _, _, _, _, _, _, rfl, rfl, Ans0 _, ⟨(nx + 7) % 8, n - 1, by omega, by omega, rfl, rfl, rfl, fun j hj => ?_⟩, ⟨S', N', P', s', SR_row (fun i hi => u2 i hi) (SR_copy _ _ h4), CA_fg hc⟩, rfl, by omega, by omega⟩
    obtain ⟨S2, N2, P2, s2, h5⟩ := h3 (j + 1) (by omega)
    refine ⟨S2, N2, P2, s2, ?_⟩
    rw [show ((nx + 7) % 8 + 7 - j) % 8 = (nx + 7 - (j + 1)) % 8 by omega, show n - 1 - 1 - j = n - 1 - (j + 1) by omega]
    exact h5
