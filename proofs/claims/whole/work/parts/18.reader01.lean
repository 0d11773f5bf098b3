/-! TelescopeNight$Reader.wordIs(Ljava/lang/String;)Z -/
def lpX7_wordIs_1103_20 (r_bytes : Nat → Int32) (r_wordStart : Int32) : Nat → Int32 → Option ((Int32) ⊕ (Int32))
  | 0, _ => none
  | fu + 1, l2 =>
    ob (pJ0_length_8abf5_1103) (fun z2 =>
    if z2 ≤ l2 then
      some (.inl l2)
    else
      if ((r_wordStart + l2) < 0 ∨ 500 ≤ ((r_wordStart + l2)).toNatClampNeg) then none else
      ob (pJ0_charAt_5068e_1103 l2) (fun z3 =>
      if (r_bytes ((r_wordStart + l2)).toNatClampNeg) = z3 then
        lpX7_wordIs_1103_20 r_bytes r_wordStart fu (l2 + (1 : Int32))
      else
        some (.inr (0 : Int32))))
def pX7_wordIs_1103 (r_bytes : Nat → Int32) (r_at : Int32) (r_wordStart : Int32) : Option (Int32) :=
  ob (pJ0_length_8abf5_1103) (fun z1 =>
  if (r_at - r_wordStart) = z1 then
    ob (lpX7_wordIs_1103_20 r_bytes r_wordStart lpF (0 : Int32)) (fun z4 => match z4 with
    | .inl z4e =>
      some (1 : Int32)
    | .inr z4f => some z4f)
  else
    some (0 : Int32))
def rX7_wordIs_1103 : List Value → List va_E → op_O → Prop := fun avs es r => ∃ (r_bytes : Nat → Int32) (r_values : Nat → Int32) (r_filled : Int32) (r_end : Int32) (r_at : Int32) (r_wordStart : Int32) (r_hasMoon : Int32) (r_hasSky : Int32) (r_error : Int32) (r_errorAt : Int32) (z : Int32), avs = [.ref 0, .ref 1103] ∧ es = (wX7_Reader r_bytes r_values r_filled r_end r_at r_wordStart r_hasMoon r_hasSky r_error r_errorAt) ∧ pX7_wordIs_1103 r_bytes r_at r_wordStart = some z ∧ r = (.inl (some (.int z)), (wX7_Reader r_bytes r_values r_filled r_end r_at r_wordStart r_hasMoon r_hasSky r_error r_errorAt), 0, 0)
def bX7_wordIs_1103 : List (Nat × (op_T ⊕ op_R)) := [(0, .inl (o_aload 1 0)), (1, .inl (o_get 4 7 4)), (4, .inl (o_aload 5 0)), (5, .inl (o_get 8 7 5)), (8, .inl (o_ii 9 (fun x y => x - y))), (9, .inl (o_aload 10 1)), (10, .inr (o_callX [] [] 13 0 rJ0_length_8abf5_1103)), (13, .inl (o_icmpeq 16 18)), (16, .inl (o_push 17 (.int (0)))), (17, .inl (o_zret)), (18, .inl (o_push 19 (.int (0)))), (19, .inl (nrm [0, 1, 2] (o_istore 20 2))), (20, .inl (o_iload 21 2)), (21, .inl (o_aload 22 1)), (22, .inr (o_callX [] [] 25 0 rJ0_length_8abf5_1103)), (25, .inl (o_icmpge 28 55)), (28, .inl (o_aload 29 0)), (29, .inl (o_get 32 7 0)), (32, .inl (o_aload 33 0)), (33, .inl (o_get 36 7 5)), (36, .inl (o_iload 37 2)), (37, .inl (o_ii 38 (fun x y => x + y))), (38, .inl (o_iald 39)), (39, .inl (o_aload 40 1)), (40, .inl (o_iload 41 2)), (41, .inr (o_callX [] [] 44 1 rJ0_charAt_5068e_1103)), (44, .inl (o_icmpeq 47 49)), (47, .inl (o_push 48 (.int (0)))), (48, .inl (o_zret)), (49, .inl (o_iinc 52 2 (1))), (52, .inl (nrm [0, 1, 2] (o_goto 20))), (55, .inl (o_push 56 (.int (1)))), (56, .inl (o_zret))]
set_option maxRecDepth 100000 in
set_option maxHeartbeats 4000000 in
theorem kX7_wordIs_1103 : ∀ q ∈ bX7_wordIs_1103, ok2 4 85 3 cX7_wordIs yX7_wordIs.cls yX7_wordIs.name (some .boolean) (.code yX7_wordIs cX7_wordIs 3 (some .boolean)) [] [] q.1 q.2 := (al_c (s_aload_n (k := 0) (by decide +kernel)) (al_c (s_get (C9 := RX7) (T9 := TX7) (N9 := 10) (ci := 7) (k := 4) iX7 rfl (by decide) w_220 (by decide +kernel)) (al_c (s_aload_n (k := 0) (by decide +kernel)) (al_c (s_get (C9 := RX7) (T9 := TX7) (N9 := 10) (ci := 7) (k := 5) iX7 rfl (by decide) w_221 (by decide +kernel)) (al_c (s_isub (by decide +kernel)) (al_c (s_aload_n (k := 1) (by decide +kernel)) (al_c (s_callX (y := yJ0_length_8abf5) (bytes := cJ0_length_8abf5) (maxL := 1) (ret' := (some .int)) (fr' := 1) (lo' := 20) (n := 0) (ml := []) (mlc := []) qJ0_length_8abf5_1103 w_830 w_831 w_832 w_18 w_833 ⟨by decide +kernel, by decide +kernel, by decide +kernel⟩ rfl (by decide) (by decide) (by decide +kernel)) (al_c (s_icmpeq (off := 5) 18 (by decide) (by decide +kernel)) (al_c (s_iconst (n := 0) (0) (by decide) (by decide +kernel)) (al_c (s_zret rfl (by decide +kernel)) (al_c (s_iconst (n := 0) (0) (by decide) (by decide +kernel)) (al_c (s_nrm [0, 1, 2] (s_istore_n (k := 2) rfl (by decide) (by decide +kernel))) (al_c (s_iload_n (k := 2) (by decide +kernel)) (al_c (s_aload_n (k := 1) (by decide +kernel)) (al_c (s_callX (y := yJ0_length_8abf5) (bytes := cJ0_length_8abf5) (maxL := 1) (ret' := (some .int)) (fr' := 1) (lo' := 20) (n := 0) (ml := []) (mlc := []) qJ0_length_8abf5_1103 w_830 w_831 w_832 w_18 w_833 ⟨by decide +kernel, by decide +kernel, by decide +kernel⟩ rfl (by decide) (by decide) (by decide +kernel)) (al_c (s_icmpge (off := 30) 55 (by decide) (by decide +kernel)) (al_c (s_aload_n (k := 0) (by decide +kernel)) (al_c (s_get (C9 := RX7) (T9 := TX7) (N9 := 10) (ci := 7) (k := 0) iX7 rfl (by decide) w_215 (by decide +kernel)) (al_c (s_aload_n (k := 0) (by decide +kernel)) (al_c (s_get (C9 := RX7) (T9 := TX7) (N9 := 10) (ci := 7) (k := 5) iX7 rfl (by decide) w_221 (by decide +kernel)) (al_c (s_iload_n (k := 2) (by decide +kernel)) (al_c (s_iadd (by decide +kernel)) (al_c (s_iald (by decide +kernel)) (al_c (s_aload_n (k := 1) (by decide +kernel)) (al_c (s_iload_n (k := 2) (by decide +kernel)) (al_c (s_callX (y := yJ0_charAt_5068e) (bytes := cJ0_charAt_5068e) (maxL := 2) (ret' := (some .char)) (fr' := 3) (lo' := 64) (n := 1) (ml := []) (mlc := []) qJ0_charAt_5068e_1103 w_840 w_841 w_842 w_18 w_843 ⟨by decide +kernel, by decide +kernel, by decide +kernel⟩ rfl (by decide) (by decide) (by decide +kernel)) (al_c (s_icmpeq (off := 5) 49 (by decide) (by decide +kernel)) (al_c (s_iconst (n := 0) (0) (by decide) (by decide +kernel)) (al_c (s_zret rfl (by decide +kernel)) (al_c (s_iinc (n := 1) (1) (by decide) (by decide) (by decide +kernel)) (al_c (s_nrm [0, 1, 2] (s_goto (off := -32) 20 (by decide) (by decide +kernel))) (al_c (s_iconst (n := 1) (1) (by decide) (by decide +kernel)) (al_c (s_zret rfl (by decide +kernel)) al_n)))))))))))))))))))))))))))))))))
set_option maxRecDepth 100000 in
set_option maxHeartbeats 4000000 in
theorem lrX7_wordIs_1103_20 (r_bytes : Nat → Int32) (r_values : Nat → Int32) (r_filled : Int32) (r_end : Int32) (r_at : Int32) (r_wordStart : Int32) (r_hasMoon : Int32) (r_hasSky : Int32) (r_error : Int32) (r_errorAt : Int32) : ∀ (fu : Nat) (l2 : Int32) (z : ((Int32) ⊕ (Int32))), lpX7_wordIs_1103_20 r_bytes r_wordStart fu l2 = some z → ∀ (c s : Nat) (r : op_O), (match z with | .inl ze => Rn (lkp bX7_wordIs_1103) 55 [(0, .ref 0), (1, .ref 1103), (2, .int ze)] [] (wX7_Reader r_bytes r_values r_filled r_end r_at r_wordStart r_hasMoon r_hasSky r_error r_errorAt) c s r | .inr zf => r = (.inl (some (.int zf)), (wX7_Reader r_bytes r_values r_filled r_end r_at r_wordStart r_hasMoon r_hasSky r_error r_errorAt), c + 0, s + 0)) → Rn (lkp bX7_wordIs_1103) 20 [(0, .ref 0), (1, .ref 1103), (2, .int l2)] [] (wX7_Reader r_bytes r_values r_filled r_end r_at r_wordStart r_hasMoon r_hasSky r_error r_errorAt) c s r := by
  intro fu
  induction fu with
  | zero => intro l2 z hp; cases hp
  | succ fu ih =>
      intro l2 z hp c s r k
      unfold lpX7_wordIs_1103_20 at hp
      refine Rn.go 2 (pc' := 22) (lv' := [(0, .ref 0), (1, .ref 1103), (2, .int l2)]) (st' := [.ref 1103, .int l2]) (es' := (wX7_Reader r_bytes r_values r_filled r_end r_at r_wordStart r_hasMoon r_hasSky r_error r_errorAt)) (c' := c) (s' := s) rfl ?_
      obtain ⟨z2, hz2, hp⟩ := ob_some hp
      refine Rn.rel (pc' := 25) (lv' := [(0, .ref 0), (1, .ref 1103), (2, .int l2)]) (st' := [.int z2, .int l2]) (es' := (wX7_Reader r_bytes r_values r_filled r_end r_at r_wordStart r_hasMoon r_hasSky r_error r_errorAt)) (dc := 0) (ds := 0) rfl ⟨1103, [], [], .inl (some (.int z2)), [], 0, 0, rfl, rfl, Nat.le_of_ble_eq_true rfl, rfl, ⟨z2, rfl, rfl, hz2, rfl⟩, rfl⟩ ?_
      refine Rn.br (P := z2 ≤ l2) (pc1 := 55) (pc2 := 28) rfl rfl (fun h2 => ?_) (fun h2 => ?_)
      · rw [if_pos h2] at hp
        obtain rfl := Option.some.inj hp
        exact k
      · rw [if_neg h2] at hp
        refine Rn.go 6 (pc' := 38) (lv' := [(0, .ref 0), (1, .ref 1103), (2, .int l2)]) (st' := [.int (r_wordStart + l2), .ref 1]) (es' := (wX7_Reader r_bytes r_values r_filled r_end r_at r_wordStart r_hasMoon r_hasSky r_error r_errorAt)) (c' := c) (s' := s) rfl ?_
        by_cases h3 : ((r_wordStart + l2) < 0 ∨ 500 ≤ ((r_wordStart + l2)).toNatClampNeg)
        · rw [if_pos h3] at hp; cases hp
        · rw [if_neg h3] at hp
          refine Rn.gd (pc' := 39) (lv' := [(0, .ref 0), (1, .ref 1103), (2, .int l2)]) (st' := [.int (r_bytes ((r_wordStart + l2)).toNatClampNeg)]) (es' := (wX7_Reader r_bytes r_values r_filled r_end r_at r_wordStart r_hasMoon r_hasSky r_error r_errorAt)) rfl rfl h3 ?_
          refine Rn.go 2 (pc' := 41) (lv' := [(0, .ref 0), (1, .ref 1103), (2, .int l2)]) (st' := [.int l2, .ref 1103, .int (r_bytes ((r_wordStart + l2)).toNatClampNeg)]) (es' := (wX7_Reader r_bytes r_values r_filled r_end r_at r_wordStart r_hasMoon r_hasSky r_error r_errorAt)) (c' := c) (s' := s) rfl ?_
          obtain ⟨z3, hz3, hp⟩ := ob_some hp
          refine Rn.rel (pc' := 44) (lv' := [(0, .ref 0), (1, .ref 1103), (2, .int l2)]) (st' := [.int z3, .int (r_bytes ((r_wordStart + l2)).toNatClampNeg)]) (es' := (wX7_Reader r_bytes r_values r_filled r_end r_at r_wordStart r_hasMoon r_hasSky r_error r_errorAt)) (dc := 0) (ds := 0) rfl ⟨1103, [.int l2], [], .inl (some (.int z3)), [], 0, 0, rfl, rfl, Nat.le_of_ble_eq_true rfl, rfl, ⟨l2, z3, rfl, rfl, hz3, rfl⟩, rfl⟩ ?_
          refine Rn.br (P := (r_bytes ((r_wordStart + l2)).toNatClampNeg) = z3) (pc1 := 49) (pc2 := 47) rfl rfl (fun h4 => ?_) (fun h4 => ?_)
          · rw [if_pos h4] at hp
            refine Rn.go 2 (pc' := 20) (lv' := [(0, .ref 0), (1, .ref 1103), (2, .int (l2 + (1 : Int32)))]) (st' := []) (es' := (wX7_Reader r_bytes r_values r_filled r_end r_at r_wordStart r_hasMoon r_hasSky r_error r_errorAt)) (c' := c) (s' := s) rfl ?_
            exact ih (l2 + (1 : Int32)) z hp c s r k
          · rw [if_neg h4] at hp
            refine Rn.go 1 (pc' := 48) (lv' := [(0, .ref 0), (1, .ref 1103), (2, .int l2)]) (st' := [.int (0 : Int32)]) (es' := (wX7_Reader r_bytes r_values r_filled r_end r_at r_wordStart r_hasMoon r_hasSky r_error r_errorAt)) (c' := c) (s' := s) rfl ?_
            obtain rfl := Option.some.inj hp
            exact Rn.fin rfl rfl k
set_option maxRecDepth 100000 in
set_option maxHeartbeats 4000000 in
theorem oX7_wordIs_1103 : Of (lkp bX7_wordIs_1103) 3 rX7_wordIs_1103 := by
  intro avs es r h
  obtain ⟨r_bytes, r_values, r_filled, r_end, r_at, r_wordStart, r_hasMoon, r_hasSky, r_error, r_errorAt, z, rfl, rfl, hp, rfl⟩ := h
  refine ⟨Nat.le_of_ble_eq_true rfl, ?_⟩
  unfold pX7_wordIs_1103 at hp
  refine Rn.go 6 (pc' := 10) (lv' := [(0, .ref 0), (1, .ref 1103)]) (st' := [.ref 1103, .int (r_at - r_wordStart)]) (es' := (wX7_Reader r_bytes r_values r_filled r_end r_at r_wordStart r_hasMoon r_hasSky r_error r_errorAt)) (c' := 0) (s' := 0) rfl ?_
  obtain ⟨z1, hz1, hp⟩ := ob_some hp
  refine Rn.rel (pc' := 13) (lv' := [(0, .ref 0), (1, .ref 1103)]) (st' := [.int z1, .int (r_at - r_wordStart)]) (es' := (wX7_Reader r_bytes r_values r_filled r_end r_at r_wordStart r_hasMoon r_hasSky r_error r_errorAt)) (dc := 0) (ds := 0) rfl ⟨1103, [], [], .inl (some (.int z1)), [], 0, 0, rfl, rfl, Nat.le_of_ble_eq_true rfl, rfl, ⟨z1, rfl, rfl, hz1, rfl⟩, rfl⟩ ?_
  refine Rn.br (P := (r_at - r_wordStart) = z1) (pc1 := 18) (pc2 := 16) rfl rfl (fun h1 => ?_) (fun h1 => ?_)
  · rw [if_pos h1] at hp
    refine Rn.go 2 (pc' := 20) (lv' := [(0, .ref 0), (1, .ref 1103), (2, .int (0 : Int32))]) (st' := []) (es' := (wX7_Reader r_bytes r_values r_filled r_end r_at r_wordStart r_hasMoon r_hasSky r_error r_errorAt)) (c' := 0) (s' := 0) rfl ?_
    obtain ⟨z4, hz4, hp⟩ := ob_some hp
    rcases z4 with z4e | z4f
    · dsimp only at hp
      refine lrX7_wordIs_1103_20 r_bytes r_values r_filled r_end r_at r_wordStart r_hasMoon r_hasSky r_error r_errorAt _ (0 : Int32) _ hz4 _ _ _ ?_
      refine Rn.go 1 (pc' := 56) (lv' := [(0, .ref 0), (1, .ref 1103), (2, .int z4e)]) (st' := [.int (1 : Int32)]) (es' := (wX7_Reader r_bytes r_values r_filled r_end r_at r_wordStart r_hasMoon r_hasSky r_error r_errorAt)) (c' := 0) (s' := 0) rfl ?_
      obtain rfl := Option.some.inj hp
      exact Rn.fin rfl rfl rfl
    · obtain rfl := Option.some.inj hp
      exact lrX7_wordIs_1103_20 r_bytes r_values r_filled r_end r_at r_wordStart r_hasMoon r_hasSky r_error r_errorAt _ (0 : Int32) _ hz4 _ _ _ rfl
  · rw [if_neg h1] at hp
    refine Rn.go 1 (pc' := 17) (lv' := [(0, .ref 0), (1, .ref 1103)]) (st' := [.int (0 : Int32)]) (es' := (wX7_Reader r_bytes r_values r_filled r_end r_at r_wordStart r_hasMoon r_hasSky r_error r_errorAt)) (c' := 0) (s' := 0) rfl ?_
    obtain rfl := Option.some.inj hp
    exact Rn.fin rfl rfl rfl
theorem qX7_wordIs_1103 : CtA yX7_wordIs (.code yX7_wordIs cX7_wordIs 3 (some .boolean)) 4 85 [] rX7_wordIs_1103 := CtA.of (by decide +kernel) (fun pc op h => kX7_wordIs_1103 _ (lkp_mem h)) oX7_wordIs_1103
/-! TelescopeNight$Reader.takeNumbers([I[I)Z -/
def lpX7_takeNumbers_10061007_2 (r_bytes : Nat → Int32) (r_end : Int32) : Nat → Int32 → (Nat → Int32) → Int32 → Int32 → Int32 → Option ((Int32 × (Nat → Int32) × Int32 × Int32 × Int32) ⊕ (Int32 × Int32 × Int32 × Int32 × (Nat → Int32)))
  | 0, _, _, _, _, _ => none
  | fu + 1, l3, r_values, r_at, r_error, r_errorAt =>
    if (nI 9) ≤ l3 then
      some (.inl (l3, r_values, r_at, r_error, r_errorAt))
    else
      if (l3 < 0 ∨ 9 ≤ l3.toNatClampNeg) then none else
      ob (pX7_takeNumber l3 (statI 1006 l3.toNatClampNeg) (statI 1007 l3.toNatClampNeg) r_bytes r_values r_end r_at r_error r_errorAt) (fun z1 =>
      if ¬ z1.1 = 0 then
        lpX7_takeNumbers_10061007_2 r_bytes r_end fu (l3 + (1 : Int32)) z1.2.2.2.2 z1.2.1 z1.2.2.1 z1.2.2.2.1
      else
        some (.inr ((0 : Int32), z1.2.1, z1.2.2.1, z1.2.2.2.1, z1.2.2.2.2)))
def pX7_takeNumbers_10061007 (r_bytes : Nat → Int32) (r_values : Nat → Int32) (r_end : Int32) (r_at : Int32) (r_error : Int32) (r_errorAt : Int32) : Option (Int32 × Int32 × Int32 × Int32 × (Nat → Int32)) :=
  ob (lpX7_takeNumbers_10061007_2 r_bytes r_end lpF (0 : Int32) r_values r_at r_error r_errorAt) (fun z2 => match z2 with
  | .inl z2e =>
    ob (pX7_skipSpaces r_bytes r_end z2e.2.2.1) (fun z3 =>
    if r_end ≤ z3 then
      ob (pX7_fail (-2 : Int32) z3) (fun z4 =>
      some ((0 : Int32), z3, z4.1, z4.2, z2e.2.1))
    else
      if (z3 < 0 ∨ 500 ≤ z3.toNatClampNeg) then none else
      if (r_bytes z3.toNatClampNeg) = (59 : Int32) then
        some ((1 : Int32), (z3 + (1 : Int32)), z2e.2.2.2.1, z2e.2.2.2.2, z2e.2.1)
      else
        ob (pX7_fail (-2 : Int32) z3) (fun z5 =>
        some ((0 : Int32), z3, z5.1, z5.2, z2e.2.1)))
  | .inr z2f => some z2f)
def rX7_takeNumbers_10061007 : List Value → List va_E → op_O → Prop := fun avs es r => ∃ (r_bytes : Nat → Int32) (r_values : Nat → Int32) (r_filled : Int32) (r_end : Int32) (r_at : Int32) (r_wordStart : Int32) (r_hasMoon : Int32) (r_hasSky : Int32) (r_error : Int32) (r_errorAt : Int32) (z : Int32 × Int32 × Int32 × Int32 × (Nat → Int32)), avs = [.ref 0, .ref 1006, .ref 1007] ∧ es = (wX7_Reader r_bytes r_values r_filled r_end r_at r_wordStart r_hasMoon r_hasSky r_error r_errorAt) ∧ pX7_takeNumbers_10061007 r_bytes r_values r_end r_at r_error r_errorAt = some z ∧ r = (.inl (some (.int z.1)), (wX7_Reader r_bytes z.2.2.2.2 r_filled r_end z.2.1 r_wordStart r_hasMoon r_hasSky z.2.2.1 z.2.2.2.1), 0, 0)
def bX7_takeNumbers_10061007 : List (Nat × (op_T ⊕ op_R)) := [(0, .inl (o_push 1 (.int (0)))), (1, .inl (nrm [0, 1, 2, 3] (o_istore 2 3))), (2, .inl (o_iload 3 3)), (3, .inl (o_aload 4 1)), (4, .inl (o_alen 5)), (5, .inl (o_icmpge 8 45)), (8, .inl (o_iload 9 3)), (9, .inl (o_aload 10 2)), (10, .inl (o_alen 11)), (11, .inl (o_icmpge 14 45)), (14, .inl (o_iload 15 3)), (15, .inl (o_aload 16 0)), (16, .inl (o_get 19 7 1)), (19, .inl (o_alen 20)), (20, .inl (o_icmpge 23 45)), (23, .inl (o_aload 24 0)), (24, .inl (o_iload 25 3)), (25, .inl (o_aload 26 1)), (26, .inl (o_iload 27 3)), (27, .inl (o_iald 28)), (28, .inl (o_aload 29 2)), (29, .inl (o_iload 30 3)), (30, .inl (o_iald 31)), (31, .inr (o_callV [] [] 34 3 7 rX7_takeNumber)), (34, .inl (o_ifne 37 39)), (37, .inl (o_push 38 (.int (0)))), (38, .inl (o_zret)), (39, .inl (o_iinc 42 3 (1))), (42, .inl (nrm [0, 1, 2, 3] (o_goto 2))), (45, .inl (o_aload 46 0)), (46, .inr (o_callV [] [] 49 0 7 rX7_skipSpaces)), (49, .inl (o_aload 50 0)), (50, .inl (o_get 53 7 4)), (53, .inl (o_aload 54 0)), (54, .inl (o_get 57 7 3)), (57, .inl (o_icmpge 60 74)), (60, .inl (o_aload 61 0)), (61, .inl (o_get 64 7 0)), (64, .inl (o_aload 65 0)), (65, .inl (o_get 68 7 4)), (68, .inl (o_iald 69)), (69, .inl (o_push 71 (.int (59)))), (71, .inl (o_icmpeq 74 86)), (74, .inl (o_aload 75 0)), (75, .inl (o_push 77 (.int (-2)))), (77, .inl (o_aload 78 0)), (78, .inl (o_get 81 7 4)), (81, .inr (o_callV [] [] 84 2 7 rX7_fail)), (84, .inl (o_push 85 (.int (0)))), (85, .inl (o_zret)), (86, .inl (o_aload 87 0)), (87, .inl (o_dup 88)), (88, .inl (o_get 91 7 4)), (91, .inl (o_push 92 (.int (1)))), (92, .inl (o_ii 93 (fun x y => x + y))), (93, .inl (o_put 96 7 4 .int)), (96, .inl (o_push 97 (.int (1)))), (97, .inl (o_zret))]
set_option maxRecDepth 100000 in
set_option maxHeartbeats 4000000 in
theorem kX7_takeNumbers_10061007 : ∀ q ∈ bX7_takeNumbers_10061007, ok2 3 67 4 cX7_takeNumbers yX7_takeNumbers.cls yX7_takeNumbers.name (some .boolean) (.code yX7_takeNumbers cX7_takeNumbers 4 (some .boolean)) [] [] q.1 q.2 := (al_c (s_iconst (n := 0) (0) (by decide) (by decide +kernel)) (al_c (s_nrm [0, 1, 2, 3] (s_istore_n (k := 3) rfl (by decide) (by decide +kernel))) (al_c (s_iload_n (k := 3) (by decide +kernel)) (al_c (s_aload_n (k := 1) (by decide +kernel)) (al_c (s_alen (by decide +kernel)) (al_c (s_icmpge (off := 40) 45 (by decide) (by decide +kernel)) (al_c (s_iload_n (k := 3) (by decide +kernel)) (al_c (s_aload_n (k := 2) (by decide +kernel)) (al_c (s_alen (by decide +kernel)) (al_c (s_icmpge (off := 34) 45 (by decide) (by decide +kernel)) (al_c (s_iload_n (k := 3) (by decide +kernel)) (al_c (s_aload_n (k := 0) (by decide +kernel)) (al_c (s_get (C9 := RX7) (T9 := TX7) (N9 := 10) (ci := 7) (k := 1) iX7 rfl (by decide) w_216 (by decide +kernel)) (al_c (s_alen (by decide +kernel)) (al_c (s_icmpge (off := 25) 45 (by decide) (by decide +kernel)) (al_c (s_aload_n (k := 0) (by decide +kernel)) (al_c (s_iload_n (k := 3) (by decide +kernel)) (al_c (s_aload_n (k := 1) (by decide +kernel)) (al_c (s_iload_n (k := 3) (by decide +kernel)) (al_c (s_iald (by decide +kernel)) (al_c (s_aload_n (k := 2) (by decide +kernel)) (al_c (s_iload_n (k := 3) (by decide +kernel)) (al_c (s_iald (by decide +kernel)) (al_c (s_callV (y := yX7_takeNumber) (bytes := cX7_takeNumber) (maxL := 7) (ret' := (some .boolean)) (fr' := 2) (lo' := 41) (n := 3) (ml := []) (mlc := []) (ci := 7) (q9 := (RX7, TX7, 10)) qX7_takeNumber w_890 w_892 wp_35 w_7 w_893 ⟨by decide +kernel, by decide +kernel, by decide +kernel⟩ rfl rfl (by decide) (by decide) (by decide +kernel)) (al_c (s_ifne (off := 5) 39 (by decide) (by decide +kernel)) (al_c (s_iconst (n := 0) (0) (by decide) (by decide +kernel)) (al_c (s_zret rfl (by decide +kernel)) (al_c (s_iinc (n := 1) (1) (by decide) (by decide) (by decide +kernel)) (al_c (s_nrm [0, 1, 2, 3] (s_goto (off := -40) 2 (by decide) (by decide +kernel))) (al_c (s_aload_n (k := 0) (by decide +kernel)) (al_c (s_callV (y := yX7_skipSpaces) (bytes := cX7_skipSpaces) (maxL := 1) (ret' := none) (fr' := 0) (lo' := 0) (n := 0) (ml := []) (mlc := []) (ci := 7) (q9 := (RX7, TX7, 10)) qX7_skipSpaces w_821 w_823 wp_31 w_7 w_824 ⟨by decide +kernel, by decide +kernel, by decide +kernel⟩ rfl rfl (by decide) (by decide) (by decide +kernel)) (al_c (s_aload_n (k := 0) (by decide +kernel)) (al_c (s_get (C9 := RX7) (T9 := TX7) (N9 := 10) (ci := 7) (k := 4) iX7 rfl (by decide) w_220 (by decide +kernel)) (al_c (s_aload_n (k := 0) (by decide +kernel)) (al_c (s_get (C9 := RX7) (T9 := TX7) (N9 := 10) (ci := 7) (k := 3) iX7 rfl (by decide) w_219 (by decide +kernel)) (al_c (s_icmpge (off := 17) 74 (by decide) (by decide +kernel)) (al_c (s_aload_n (k := 0) (by decide +kernel)) (al_c (s_get (C9 := RX7) (T9 := TX7) (N9 := 10) (ci := 7) (k := 0) iX7 rfl (by decide) w_215 (by decide +kernel)) (al_c (s_aload_n (k := 0) (by decide +kernel)) (al_c (s_get (C9 := RX7) (T9 := TX7) (N9 := 10) (ci := 7) (k := 4) iX7 rfl (by decide) w_220 (by decide +kernel)) (al_c (s_iald (by decide +kernel)) (al_c (s_bipush (n := 59) (59) (by decide) (by decide +kernel)) (al_c (s_icmpeq (off := 15) 86 (by decide) (by decide +kernel)) (al_c (s_aload_n (k := 0) (by decide +kernel)) (al_c (s_bipush (n := -2) (-2) (by decide) (by decide +kernel)) (al_c (s_aload_n (k := 0) (by decide +kernel)) (al_c (s_get (C9 := RX7) (T9 := TX7) (N9 := 10) (ci := 7) (k := 4) iX7 rfl (by decide) w_220 (by decide +kernel)) (al_c (s_callV (y := yX7_fail) (bytes := cX7_fail) (maxL := 3) (ret' := none) (fr' := 0) (lo' := 0) (n := 2) (ml := []) (mlc := []) (ci := 7) (q9 := (RX7, TX7, 10)) qX7_fail w_878 w_880 wp_33 w_7 w_881 ⟨by decide +kernel, by decide +kernel, by decide +kernel⟩ rfl rfl (by decide) (by decide) (by decide +kernel)) (al_c (s_iconst (n := 0) (0) (by decide) (by decide +kernel)) (al_c (s_zret rfl (by decide +kernel)) (al_c (s_aload_n (k := 0) (by decide +kernel)) (al_c (s_dup (by decide +kernel)) (al_c (s_get (C9 := RX7) (T9 := TX7) (N9 := 10) (ci := 7) (k := 4) iX7 rfl (by decide) w_220 (by decide +kernel)) (al_c (s_iconst (n := 1) (1) (by decide) (by decide +kernel)) (al_c (s_iadd (by decide +kernel)) (al_c (s_put (C9 := RX7) (T9 := TX7) (N9 := 10) (ci := 7) (k := 4) iX7 rfl (by decide) w_220 tyX7 tyX7_ok nmX7 rfl (by decide +kernel)) (al_c (s_iconst (n := 1) (1) (by decide) (by decide +kernel)) (al_c (s_zret rfl (by decide +kernel)) al_n))))))))))))))))))))))))))))))))))))))))))))))))))))))))))
set_option maxRecDepth 100000 in
set_option maxHeartbeats 4000000 in
theorem lrX7_takeNumbers_10061007_2 (r_bytes : Nat → Int32) (r_filled : Int32) (r_end : Int32) (r_wordStart : Int32) (r_hasMoon : Int32) (r_hasSky : Int32) : ∀ (fu : Nat) (l3 : Int32) (r_values : Nat → Int32) (r_at : Int32) (r_error : Int32) (r_errorAt : Int32) (z : ((Int32 × (Nat → Int32) × Int32 × Int32 × Int32) ⊕ (Int32 × Int32 × Int32 × Int32 × (Nat → Int32)))), lpX7_takeNumbers_10061007_2 r_bytes r_end fu l3 r_values r_at r_error r_errorAt = some z → ∀ (c s : Nat) (r : op_O), (match z with | .inl ze => Rn (lkp bX7_takeNumbers_10061007) 45 [(0, .ref 0), (1, .ref 1006), (2, .ref 1007), (3, .int ze.1)] [] (wX7_Reader r_bytes ze.2.1 r_filled r_end ze.2.2.1 r_wordStart r_hasMoon r_hasSky ze.2.2.2.1 ze.2.2.2.2) c s r | .inr zf => r = (.inl (some (.int zf.1)), (wX7_Reader r_bytes zf.2.2.2.2 r_filled r_end zf.2.1 r_wordStart r_hasMoon r_hasSky zf.2.2.1 zf.2.2.2.1), c + 0, s + 0)) → Rn (lkp bX7_takeNumbers_10061007) 2 [(0, .ref 0), (1, .ref 1006), (2, .ref 1007), (3, .int l3)] [] (wX7_Reader r_bytes r_values r_filled r_end r_at r_wordStart r_hasMoon r_hasSky r_error r_errorAt) c s r := by
  intro fu
  induction fu with
  | zero => intro l3 r_values r_at r_error r_errorAt z hp; cases hp
  | succ fu ih =>
      intro l3 r_values r_at r_error r_errorAt z hp c s r k
      unfold lpX7_takeNumbers_10061007_2 at hp
      refine Rn.go 3 (pc' := 5) (lv' := [(0, .ref 0), (1, .ref 1006), (2, .ref 1007), (3, .int l3)]) (st' := [.int (nI 9), .int l3]) (es' := (wX7_Reader r_bytes r_values r_filled r_end r_at r_wordStart r_hasMoon r_hasSky r_error r_errorAt)) (c' := c) (s' := s) rfl ?_
      refine Rn.br (P := (nI 9) ≤ l3) (pc1 := 45) (pc2 := 8) rfl rfl (fun h1 => ?_) (fun h1 => ?_)
      · rw [if_pos h1] at hp
        obtain rfl := Option.some.inj hp
        exact k
      · rw [if_neg h1] at hp
        refine Rn.go 3 (pc' := 11) (lv' := [(0, .ref 0), (1, .ref 1006), (2, .ref 1007), (3, .int l3)]) (st' := [.int (nI 9), .int l3]) (es' := (wX7_Reader r_bytes r_values r_filled r_end r_at r_wordStart r_hasMoon r_hasSky r_error r_errorAt)) (c' := c) (s' := s) rfl ?_
        refine Rn.bf rfl rfl h1 ?_
        refine Rn.go 4 (pc' := 20) (lv' := [(0, .ref 0), (1, .ref 1006), (2, .ref 1007), (3, .int l3)]) (st' := [.int (nI 9), .int l3]) (es' := (wX7_Reader r_bytes r_values r_filled r_end r_at r_wordStart r_hasMoon r_hasSky r_error r_errorAt)) (c' := c) (s' := s) rfl ?_
        refine Rn.bf rfl rfl h1 ?_
        refine Rn.go 4 (pc' := 27) (lv' := [(0, .ref 0), (1, .ref 1006), (2, .ref 1007), (3, .int l3)]) (st' := [.int l3, .ref 1006, .int l3, .ref 0]) (es' := (wX7_Reader r_bytes r_values r_filled r_end r_at r_wordStart r_hasMoon r_hasSky r_error r_errorAt)) (c' := c) (s' := s) rfl ?_
        by_cases h2 : (l3 < 0 ∨ 9 ≤ l3.toNatClampNeg)
        · rw [if_pos h2] at hp; cases hp
        · rw [if_neg h2] at hp
          refine Rn.gd (pc' := 28) (lv' := [(0, .ref 0), (1, .ref 1006), (2, .ref 1007), (3, .int l3)]) (st' := [.int (statI 1006 l3.toNatClampNeg), .int l3, .ref 0]) (es' := (wX7_Reader r_bytes r_values r_filled r_end r_at r_wordStart r_hasMoon r_hasSky r_error r_errorAt)) rfl rfl h2 ?_
          refine Rn.go 2 (pc' := 30) (lv' := [(0, .ref 0), (1, .ref 1006), (2, .ref 1007), (3, .int l3)]) (st' := [.int l3, .ref 1007, .int (statI 1006 l3.toNatClampNeg), .int l3, .ref 0]) (es' := (wX7_Reader r_bytes r_values r_filled r_end r_at r_wordStart r_hasMoon r_hasSky r_error r_errorAt)) (c' := c) (s' := s) rfl ?_
          refine Rn.gd (pc' := 31) (lv' := [(0, .ref 0), (1, .ref 1006), (2, .ref 1007), (3, .int l3)]) (st' := [.int (statI 1007 l3.toNatClampNeg), .int (statI 1006 l3.toNatClampNeg), .int l3, .ref 0]) (es' := (wX7_Reader r_bytes r_values r_filled r_end r_at r_wordStart r_hasMoon r_hasSky r_error r_errorAt)) rfl rfl h2 ?_
          obtain ⟨z1, hz1, hp⟩ := ob_some hp
          refine Rn.rel (pc' := 34) (lv' := [(0, .ref 0), (1, .ref 1006), (2, .ref 1007), (3, .int l3)]) (st' := [.int z1.1]) (es' := (wX7_Reader r_bytes z1.2.2.2.2 r_filled r_end z1.2.1 r_wordStart r_hasMoon r_hasSky z1.2.2.1 z1.2.2.2.1)) (dc := 0) (ds := 0) rfl ⟨0, [.int l3, .int (statI 1006 l3.toNatClampNeg), .int (statI 1007 l3.toNatClampNeg)], _, [0, 1, 2], .inl (some (.int z1.1)), (wX7_Reader r_bytes z1.2.2.2.2 r_filled r_end z1.2.1 r_wordStart r_hasMoon r_hasSky z1.2.2.1 z1.2.2.2.1), 0, 0, rfl, rfl, Nat.le_of_ble_eq_true rfl, rfl, ⟨l3, (statI 1006 l3.toNatClampNeg), (statI 1007 l3.toNatClampNeg), r_bytes, r_values, r_filled, r_end, r_at, r_wordStart, r_hasMoon, r_hasSky, r_error, r_errorAt, z1, rfl, rfl, hz1, rfl⟩, rfl⟩ ?_
          refine Rn.br (P := ¬ z1.1 = 0) (pc1 := 39) (pc2 := 37) rfl rfl (fun h3 => ?_) (fun h3 => ?_)
          · rw [if_pos h3] at hp
            refine Rn.go 2 (pc' := 2) (lv' := [(0, .ref 0), (1, .ref 1006), (2, .ref 1007), (3, .int (l3 + (1 : Int32)))]) (st' := []) (es' := (wX7_Reader r_bytes z1.2.2.2.2 r_filled r_end z1.2.1 r_wordStart r_hasMoon r_hasSky z1.2.2.1 z1.2.2.2.1)) (c' := c) (s' := s) rfl ?_
            exact ih (l3 + (1 : Int32)) z1.2.2.2.2 z1.2.1 z1.2.2.1 z1.2.2.2.1 z hp c s r k
          · rw [if_neg h3] at hp
            refine Rn.go 1 (pc' := 38) (lv' := [(0, .ref 0), (1, .ref 1006), (2, .ref 1007), (3, .int l3)]) (st' := [.int (0 : Int32)]) (es' := (wX7_Reader r_bytes z1.2.2.2.2 r_filled r_end z1.2.1 r_wordStart r_hasMoon r_hasSky z1.2.2.1 z1.2.2.2.1)) (c' := c) (s' := s) rfl ?_
            obtain rfl := Option.some.inj hp
            exact Rn.fin rfl rfl k
set_option maxRecDepth 100000 in
set_option maxHeartbeats 4000000 in
theorem oX7_takeNumbers_10061007 : Of (lkp bX7_takeNumbers_10061007) 4 rX7_takeNumbers_10061007 := by
  intro avs es r h
  obtain ⟨r_bytes, r_values, r_filled, r_end, r_at, r_wordStart, r_hasMoon, r_hasSky, r_error, r_errorAt, z, rfl, rfl, hp, rfl⟩ := h
  refine ⟨Nat.le_of_ble_eq_true rfl, ?_⟩
  unfold pX7_takeNumbers_10061007 at hp
  refine Rn.go 2 (pc' := 2) (lv' := [(0, .ref 0), (1, .ref 1006), (2, .ref 1007), (3, .int (0 : Int32))]) (st' := []) (es' := (wX7_Reader r_bytes r_values r_filled r_end r_at r_wordStart r_hasMoon r_hasSky r_error r_errorAt)) (c' := 0) (s' := 0) rfl ?_
  obtain ⟨z2, hz2, hp⟩ := ob_some hp
  rcases z2 with z2e | z2f
  · dsimp only at hp
    refine lrX7_takeNumbers_10061007_2 r_bytes r_filled r_end r_wordStart r_hasMoon r_hasSky _ (0 : Int32) r_values r_at r_error r_errorAt _ hz2 _ _ _ ?_
    refine Rn.go 1 (pc' := 46) (lv' := [(0, .ref 0), (1, .ref 1006), (2, .ref 1007), (3, .int z2e.1)]) (st' := [.ref 0]) (es' := (wX7_Reader r_bytes z2e.2.1 r_filled r_end z2e.2.2.1 r_wordStart r_hasMoon r_hasSky z2e.2.2.2.1 z2e.2.2.2.2)) (c' := 0) (s' := 0) rfl ?_
    obtain ⟨z3, hz3, hp⟩ := ob_some hp
    refine Rn.rel (pc' := 49) (lv' := [(0, .ref 0), (1, .ref 1006), (2, .ref 1007), (3, .int z2e.1)]) (st' := []) (es' := (wX7_Reader r_bytes z2e.2.1 r_filled r_end z3 r_wordStart r_hasMoon r_hasSky z2e.2.2.2.1 z2e.2.2.2.2)) (dc := 0) (ds := 0) rfl ⟨0, [], _, [0, 1, 2], .inl none, (wX7_Reader r_bytes z2e.2.1 r_filled r_end z3 r_wordStart r_hasMoon r_hasSky z2e.2.2.2.1 z2e.2.2.2.2), 0, 0, rfl, rfl, Nat.le_of_ble_eq_true rfl, rfl, ⟨r_bytes, z2e.2.1, r_filled, r_end, z2e.2.2.1, r_wordStart, r_hasMoon, r_hasSky, z2e.2.2.2.1, z2e.2.2.2.2, z3, rfl, rfl, hz3, rfl⟩, rfl⟩ ?_
    refine Rn.go 4 (pc' := 57) (lv' := [(0, .ref 0), (1, .ref 1006), (2, .ref 1007), (3, .int z2e.1)]) (st' := [.int r_end, .int z3]) (es' := (wX7_Reader r_bytes z2e.2.1 r_filled r_end z3 r_wordStart r_hasMoon r_hasSky z2e.2.2.2.1 z2e.2.2.2.2)) (c' := 0) (s' := 0) rfl ?_
    refine Rn.br (P := r_end ≤ z3) (pc1 := 74) (pc2 := 60) rfl rfl (fun h4 => ?_) (fun h4 => ?_)
    · rw [if_pos h4] at hp
      refine Rn.go 4 (pc' := 81) (lv' := [(0, .ref 0), (1, .ref 1006), (2, .ref 1007), (3, .int z2e.1)]) (st' := [.int z3, .int (-2 : Int32), .ref 0]) (es' := (wX7_Reader r_bytes z2e.2.1 r_filled r_end z3 r_wordStart r_hasMoon r_hasSky z2e.2.2.2.1 z2e.2.2.2.2)) (c' := 0) (s' := 0) rfl ?_
      obtain ⟨z4, hz4, hp⟩ := ob_some hp
      refine Rn.rel (pc' := 84) (lv' := [(0, .ref 0), (1, .ref 1006), (2, .ref 1007), (3, .int z2e.1)]) (st' := []) (es' := (wX7_Reader r_bytes z2e.2.1 r_filled r_end z3 r_wordStart r_hasMoon r_hasSky z4.1 z4.2)) (dc := 0) (ds := 0) rfl ⟨0, [.int (-2 : Int32), .int z3], _, [0, 1, 2], .inl none, (wX7_Reader r_bytes z2e.2.1 r_filled r_end z3 r_wordStart r_hasMoon r_hasSky z4.1 z4.2), 0, 0, rfl, rfl, Nat.le_of_ble_eq_true rfl, rfl, ⟨(-2 : Int32), z3, r_bytes, z2e.2.1, r_filled, r_end, z3, r_wordStart, r_hasMoon, r_hasSky, z2e.2.2.2.1, z2e.2.2.2.2, z4, rfl, rfl, hz4, rfl⟩, rfl⟩ ?_
      refine Rn.go 1 (pc' := 85) (lv' := [(0, .ref 0), (1, .ref 1006), (2, .ref 1007), (3, .int z2e.1)]) (st' := [.int (0 : Int32)]) (es' := (wX7_Reader r_bytes z2e.2.1 r_filled r_end z3 r_wordStart r_hasMoon r_hasSky z4.1 z4.2)) (c' := 0) (s' := 0) rfl ?_
      obtain rfl := Option.some.inj hp
      exact Rn.fin rfl rfl rfl
    · rw [if_neg h4] at hp
      refine Rn.go 4 (pc' := 68) (lv' := [(0, .ref 0), (1, .ref 1006), (2, .ref 1007), (3, .int z2e.1)]) (st' := [.int z3, .ref 1]) (es' := (wX7_Reader r_bytes z2e.2.1 r_filled r_end z3 r_wordStart r_hasMoon r_hasSky z2e.2.2.2.1 z2e.2.2.2.2)) (c' := 0) (s' := 0) rfl ?_
      by_cases h5 : (z3 < 0 ∨ 500 ≤ z3.toNatClampNeg)
      · rw [if_pos h5] at hp; cases hp
      · rw [if_neg h5] at hp
        refine Rn.gd (pc' := 69) (lv' := [(0, .ref 0), (1, .ref 1006), (2, .ref 1007), (3, .int z2e.1)]) (st' := [.int (r_bytes z3.toNatClampNeg)]) (es' := (wX7_Reader r_bytes z2e.2.1 r_filled r_end z3 r_wordStart r_hasMoon r_hasSky z2e.2.2.2.1 z2e.2.2.2.2)) rfl rfl h5 ?_
        refine Rn.go 1 (pc' := 71) (lv' := [(0, .ref 0), (1, .ref 1006), (2, .ref 1007), (3, .int z2e.1)]) (st' := [.int (59 : Int32), .int (r_bytes z3.toNatClampNeg)]) (es' := (wX7_Reader r_bytes z2e.2.1 r_filled r_end z3 r_wordStart r_hasMoon r_hasSky z2e.2.2.2.1 z2e.2.2.2.2)) (c' := 0) (s' := 0) rfl ?_
        refine Rn.br (P := (r_bytes z3.toNatClampNeg) = (59 : Int32)) (pc1 := 86) (pc2 := 74) rfl rfl (fun h6 => ?_) (fun h6 => ?_)
        · rw [if_pos h6] at hp
          refine Rn.go 7 (pc' := 97) (lv' := [(0, .ref 0), (1, .ref 1006), (2, .ref 1007), (3, .int z2e.1)]) (st' := [.int (1 : Int32)]) (es' := (wX7_Reader r_bytes z2e.2.1 r_filled r_end (z3 + (1 : Int32)) r_wordStart r_hasMoon r_hasSky z2e.2.2.2.1 z2e.2.2.2.2)) (c' := 0) (s' := 0) rfl ?_
          obtain rfl := Option.some.inj hp
          exact Rn.fin rfl rfl rfl
        · rw [if_neg h6] at hp
          refine Rn.go 4 (pc' := 81) (lv' := [(0, .ref 0), (1, .ref 1006), (2, .ref 1007), (3, .int z2e.1)]) (st' := [.int z3, .int (-2 : Int32), .ref 0]) (es' := (wX7_Reader r_bytes z2e.2.1 r_filled r_end z3 r_wordStart r_hasMoon r_hasSky z2e.2.2.2.1 z2e.2.2.2.2)) (c' := 0) (s' := 0) rfl ?_
          obtain ⟨z5, hz5, hp⟩ := ob_some hp
          refine Rn.rel (pc' := 84) (lv' := [(0, .ref 0), (1, .ref 1006), (2, .ref 1007), (3, .int z2e.1)]) (st' := []) (es' := (wX7_Reader r_bytes z2e.2.1 r_filled r_end z3 r_wordStart r_hasMoon r_hasSky z5.1 z5.2)) (dc := 0) (ds := 0) rfl ⟨0, [.int (-2 : Int32), .int z3], _, [0, 1, 2], .inl none, (wX7_Reader r_bytes z2e.2.1 r_filled r_end z3 r_wordStart r_hasMoon r_hasSky z5.1 z5.2), 0, 0, rfl, rfl, Nat.le_of_ble_eq_true rfl, rfl, ⟨(-2 : Int32), z3, r_bytes, z2e.2.1, r_filled, r_end, z3, r_wordStart, r_hasMoon, r_hasSky, z2e.2.2.2.1, z2e.2.2.2.2, z5, rfl, rfl, hz5, rfl⟩, rfl⟩ ?_
          refine Rn.go 1 (pc' := 85) (lv' := [(0, .ref 0), (1, .ref 1006), (2, .ref 1007), (3, .int z2e.1)]) (st' := [.int (0 : Int32)]) (es' := (wX7_Reader r_bytes z2e.2.1 r_filled r_end z3 r_wordStart r_hasMoon r_hasSky z5.1 z5.2)) (c' := 0) (s' := 0) rfl ?_
          obtain rfl := Option.some.inj hp
          exact Rn.fin rfl rfl rfl
  · obtain rfl := Option.some.inj hp
    exact lrX7_takeNumbers_10061007_2 r_bytes r_filled r_end r_wordStart r_hasMoon r_hasSky _ (0 : Int32) r_values r_at r_error r_errorAt _ hz2 _ _ _ rfl
theorem qX7_takeNumbers_10061007 : CtA yX7_takeNumbers (.code yX7_takeNumbers cX7_takeNumbers 4 (some .boolean)) 3 67 [] rX7_takeNumbers_10061007 := CtA.of (by decide +kernel) (fun pc op h => kX7_takeNumbers_10061007 _ (lkp_mem h)) oX7_takeNumbers_10061007
/-! TelescopeNight$Reader.readTarget(LTelescopeNight$Night;)V -/
def pX7_readTarget (r_bytes : Nat → Int32) (r_values : Nat → Int32) (r_end : Int32) (r_at : Int32) (r_wordStart : Int32) (r_error : Int32) (r_errorAt : Int32) (n_targets : Int32) (n_numbers : Nat → Int32) : Option (Int32 × Int32 × Int32 × (Nat → Int32) × Int32 × (Nat → Int32)) :=
  if n_targets < (6 : Int32) then
    ob (pX7_takeNumbers_10061007 r_bytes r_values r_end r_at r_error r_errorAt) (fun z1 =>
    if z1.1 = 0 then
      some (z1.2.1, z1.2.2.1, z1.2.2.2.1, z1.2.2.2.2, n_targets, n_numbers)
    else
      if (((0 : Int32) < 0 ∨ (n_targets * (9 : Int32)) < 0 ∨ (9 : Int32) < 0) ∨ 9 < ((0 : Int32)).toNatClampNeg + ((9 : Int32)).toNatClampNeg ∨ 54 < ((n_targets * (9 : Int32))).toNatClampNeg + ((9 : Int32)).toNatClampNeg) then none else
      some (z1.2.1, z1.2.2.1, z1.2.2.2.1, z1.2.2.2.2, (n_targets + (1 : Int32)), (va_cpy z1.2.2.2.2 n_numbers 0 (((n_targets * (9 : Int32))).toNatClampNeg) 9)))
  else
    ob (pX7_fail (-4 : Int32) r_wordStart) (fun z2 =>
    some (r_at, z2.1, z2.2, r_values, n_targets, n_numbers))
def rX7_readTarget : List Value → List va_E → op_O → Prop := fun avs es r => ∃ (r_bytes : Nat → Int32) (r_values : Nat → Int32) (r_filled : Int32) (r_end : Int32) (r_at : Int32) (r_wordStart : Int32) (r_hasMoon : Int32) (r_hasSky : Int32) (r_error : Int32) (r_errorAt : Int32) (n_slots : Int32) (n_targets : Int32) (n_teams : Int32) (n_moon : Nat → Int32) (n_percents : Nat → Int32) (n_numbers : Nat → Int32) (n_seen : Nat → Int32) (n_odds : Nat → Int32) (z : Int32 × Int32 × Int32 × (Nat → Int32) × Int32 × (Nat → Int32)), avs = [.ref 0, .ref 3] ∧ es = (wX7_Reader_Night r_bytes r_values r_filled r_end r_at r_wordStart r_hasMoon r_hasSky r_error r_errorAt n_slots n_targets n_teams n_moon n_percents n_numbers n_seen n_odds) ∧ pX7_readTarget r_bytes r_values r_end r_at r_wordStart r_error r_errorAt n_targets n_numbers = some z ∧ r = (.inl none, (wX7_Reader_Night r_bytes z.2.2.2.1 r_filled r_end z.1 r_wordStart r_hasMoon r_hasSky z.2.1 z.2.2.1 n_slots z.2.2.2.2.1 n_teams n_moon n_percents z.2.2.2.2.2 n_seen n_odds), 0, 0)
def bX7_readTarget : List (Nat × (op_T ⊕ op_R)) := [(0, .inl (o_aload 1 1)), (1, .inl (o_get 4 2 1)), (4, .inl (o_push 6 (.int (6)))), (6, .inl (o_icmplt 9 22)), (9, .inl (o_aload 10 0)), (10, .inl (o_push 12 (.int (-4)))), (12, .inl (o_aload 13 0)), (13, .inl (o_get 16 7 5)), (16, .inr (o_callV [] [] 19 2 7 rX7_fail)), (19, .inl (o_goto 68)), (22, .inl (o_aload 23 0)), (23, .inl (o_gets 26 1006)), (26, .inl (o_gets 29 1007)), (29, .inr (o_callV [] [] 32 2 7 rX7_takeNumbers_10061007)), (32, .inl (o_ifeq 35 68)), (35, .inl (o_aload 36 1)), (36, .inl (o_get 39 2 1)), (39, .inl (o_push 41 (.int (9)))), (41, .inl (o_ii 42 (fun x y => x * y))), (42, .inl (o_istore 43 2)), (43, .inl (o_aload 44 0)), (44, .inl (o_get 47 7 1)), (47, .inl (o_push 48 (.int (0)))), (48, .inl (o_aload 49 1)), (49, .inl (o_get 52 2 5)), (52, .inl (o_iload 53 2)), (53, .inl (o_push 55 (.int (9)))), (55, .inl (o_copy 58)), (58, .inl (o_aload 59 1)), (59, .inl (o_dup 60)), (60, .inl (o_get 63 2 1)), (63, .inl (o_push 64 (.int (1)))), (64, .inl (o_ii 65 (fun x y => x + y))), (65, .inl (o_put 68 2 1 .int)), (68, .inl (o_vret))]
set_option maxRecDepth 100000 in
set_option maxHeartbeats 4000000 in
theorem kX7_readTarget : ∀ q ∈ bX7_readTarget, ok2 4 90 3 cX7_readTarget yX7_readTarget.cls yX7_readTarget.name none (.code yX7_readTarget cX7_readTarget 3 none) [] [] q.1 q.2 := (al_c (s_aload_n (k := 1) (by decide +kernel)) (al_c (s_get (C9 := RX2) (T9 := TX2) (N9 := 8) (ci := 2) (k := 1) iX2 rfl (by decide) w_90 (by decide +kernel)) (al_c (s_bipush (n := 6) (6) (by decide) (by decide +kernel)) (al_c (s_icmplt (off := 16) 22 (by decide) (by decide +kernel)) (al_c (s_aload_n (k := 0) (by decide +kernel)) (al_c (s_bipush (n := -4) (-4) (by decide) (by decide +kernel)) (al_c (s_aload_n (k := 0) (by decide +kernel)) (al_c (s_get (C9 := RX7) (T9 := TX7) (N9 := 10) (ci := 7) (k := 5) iX7 rfl (by decide) w_221 (by decide +kernel)) (al_c (s_callV (y := yX7_fail) (bytes := cX7_fail) (maxL := 3) (ret' := none) (fr' := 0) (lo' := 0) (n := 2) (ml := []) (mlc := []) (ci := 7) (q9 := (RX7, TX7, 10)) qX7_fail w_878 w_880 wp_33 w_7 w_881 ⟨by decide +kernel, by decide +kernel, by decide +kernel⟩ rfl rfl (by decide) (by decide) (by decide +kernel)) (al_c (s_goto (off := 49) 68 (by decide) (by decide +kernel)) (al_c (s_aload_n (k := 0) (by decide +kernel)) (al_c (s_gets ("TARGET_LOW", 1006, [(0), (0), (0), (-10), (0), (0), (0), (1), (1)]) (by decide) w_926 (by decide +kernel)) (al_c (s_gets ("TARGET_HIGH", 1007, [(3), (90), (30), (25), (89), (359), (180), (3), (1000)]) (by decide) w_928 (by decide +kernel)) (al_c (s_callV (y := yX7_takeNumbers) (bytes := cX7_takeNumbers) (maxL := 4) (ret' := (some .boolean)) (fr' := 3) (lo' := 67) (n := 2) (ml := []) (mlc := []) (ci := 7) (q9 := (RX7, TX7, 10)) qX7_takeNumbers_10061007 w_886 w_888 wp_34 w_7 w_889 ⟨by decide +kernel, by decide +kernel, by decide +kernel⟩ rfl rfl (by decide) (by decide) (by decide +kernel)) (al_c (s_ifeq (off := 36) 68 (by decide) (by decide +kernel)) (al_c (s_aload_n (k := 1) (by decide +kernel)) (al_c (s_get (C9 := RX2) (T9 := TX2) (N9 := 8) (ci := 2) (k := 1) iX2 rfl (by decide) w_90 (by decide +kernel)) (al_c (s_bipush (n := 9) (9) (by decide) (by decide +kernel)) (al_c (s_imul (by decide +kernel)) (al_c (s_istore_n (k := 2) rfl (by decide) (by decide +kernel)) (al_c (s_aload_n (k := 0) (by decide +kernel)) (al_c (s_get (C9 := RX7) (T9 := TX7) (N9 := 10) (ci := 7) (k := 1) iX7 rfl (by decide) w_216 (by decide +kernel)) (al_c (s_iconst (n := 0) (0) (by decide) (by decide +kernel)) (al_c (s_aload_n (k := 1) (by decide +kernel)) (al_c (s_get (C9 := RX2) (T9 := TX2) (N9 := 8) (ci := 2) (k := 5) iX2 rfl (by decide) w_103 (by decide +kernel)) (al_c (s_iload_n (k := 2) (by decide +kernel)) (al_c (s_bipush (n := 9) (9) (by decide) (by decide +kernel)) (al_c (s_copy w_915 w_427 w_426 w_22 (by decide) (by decide +kernel) (by decide +kernel)) (al_c (s_aload_n (k := 1) (by decide +kernel)) (al_c (s_dup (by decide +kernel)) (al_c (s_get (C9 := RX2) (T9 := TX2) (N9 := 8) (ci := 2) (k := 1) iX2 rfl (by decide) w_90 (by decide +kernel)) (al_c (s_iconst (n := 1) (1) (by decide) (by decide +kernel)) (al_c (s_iadd (by decide +kernel)) (al_c (s_put (C9 := RX2) (T9 := TX2) (N9 := 8) (ci := 2) (k := 1) iX2 rfl (by decide) w_90 tyX2 tyX2_ok nmX2 rfl (by decide +kernel)) (al_c (s_vret rfl (by decide +kernel)) al_n)))))))))))))))))))))))))))))))))))
set_option maxRecDepth 100000 in
set_option maxHeartbeats 4000000 in
theorem oX7_readTarget : Of (lkp bX7_readTarget) 3 rX7_readTarget := by
  intro avs es r h
  obtain ⟨r_bytes, r_values, r_filled, r_end, r_at, r_wordStart, r_hasMoon, r_hasSky, r_error, r_errorAt, n_slots, n_targets, n_teams, n_moon, n_percents, n_numbers, n_seen, n_odds, z, rfl, rfl, hp, rfl⟩ := h
  refine ⟨Nat.le_of_ble_eq_true rfl, ?_⟩
  unfold pX7_readTarget at hp
  refine Rn.go 3 (pc' := 6) (lv' := [(0, .ref 0), (1, .ref 3)]) (st' := [.int (6 : Int32), .int n_targets]) (es' := (wX7_Reader_Night r_bytes r_values r_filled r_end r_at r_wordStart r_hasMoon r_hasSky r_error r_errorAt n_slots n_targets n_teams n_moon n_percents n_numbers n_seen n_odds)) (c' := 0) (s' := 0) rfl ?_
  refine Rn.br (P := n_targets < (6 : Int32)) (pc1 := 22) (pc2 := 9) rfl rfl (fun h1 => ?_) (fun h1 => ?_)
  · rw [if_pos h1] at hp
    refine Rn.go 3 (pc' := 29) (lv' := [(0, .ref 0), (1, .ref 3)]) (st' := [.ref 1007, .ref 1006, .ref 0]) (es' := (wX7_Reader_Night r_bytes r_values r_filled r_end r_at r_wordStart r_hasMoon r_hasSky r_error r_errorAt n_slots n_targets n_teams n_moon n_percents n_numbers n_seen n_odds)) (c' := 0) (s' := 0) rfl ?_
    obtain ⟨z1, hz1, hp⟩ := ob_some hp
    refine Rn.rel (pc' := 32) (lv' := [(0, .ref 0), (1, .ref 3)]) (st' := [.int z1.1]) (es' := (wX7_Reader_Night r_bytes z1.2.2.2.2 r_filled r_end z1.2.1 r_wordStart r_hasMoon r_hasSky z1.2.2.1 z1.2.2.2.1 n_slots n_targets n_teams n_moon n_percents n_numbers n_seen n_odds)) (dc := 0) (ds := 0) rfl ⟨0, [.ref 1006, .ref 1007], _, [0, 1, 2], .inl (some (.int z1.1)), (wX7_Reader r_bytes z1.2.2.2.2 r_filled r_end z1.2.1 r_wordStart r_hasMoon r_hasSky z1.2.2.1 z1.2.2.2.1), 0, 0, rfl, rfl, Nat.le_of_ble_eq_true rfl, rfl, ⟨r_bytes, r_values, r_filled, r_end, r_at, r_wordStart, r_hasMoon, r_hasSky, r_error, r_errorAt, z1, rfl, rfl, hz1, rfl⟩, rfl⟩ ?_
    refine Rn.br (P := z1.1 = 0) (pc1 := 68) (pc2 := 35) rfl rfl (fun h2 => ?_) (fun h2 => ?_)
    · rw [if_pos h2] at hp
      obtain rfl := Option.some.inj hp
      exact Rn.fin rfl rfl rfl
    · rw [if_neg h2] at hp
      refine Rn.go 12 (pc' := 55) (lv' := [(2, .int (n_targets * (9 : Int32))), (0, .ref 0), (1, .ref 3)]) (st' := [.int (9 : Int32), .int (n_targets * (9 : Int32)), .ref 6, .int (0 : Int32), .ref 2]) (es' := (wX7_Reader_Night r_bytes z1.2.2.2.2 r_filled r_end z1.2.1 r_wordStart r_hasMoon r_hasSky z1.2.2.1 z1.2.2.2.1 n_slots n_targets n_teams n_moon n_percents n_numbers n_seen n_odds)) (c' := 0) (s' := 0) rfl ?_
      by_cases h3 : (((0 : Int32) < 0 ∨ (n_targets * (9 : Int32)) < 0 ∨ (9 : Int32) < 0) ∨ 9 < ((0 : Int32)).toNatClampNeg + ((9 : Int32)).toNatClampNeg ∨ 54 < ((n_targets * (9 : Int32))).toNatClampNeg + ((9 : Int32)).toNatClampNeg)
      · rw [if_pos h3] at hp; cases hp
      · rw [if_neg h3] at hp
        refine Rn.gd (pc' := 58) (lv' := [(2, .int (n_targets * (9 : Int32))), (0, .ref 0), (1, .ref 3)]) (st' := []) (es' := (wX7_Reader_Night r_bytes z1.2.2.2.2 r_filled r_end z1.2.1 r_wordStart r_hasMoon r_hasSky z1.2.2.1 z1.2.2.2.1 n_slots n_targets n_teams n_moon n_percents (va_cpy z1.2.2.2.2 n_numbers 0 (((n_targets * (9 : Int32))).toNatClampNeg) 9) n_seen n_odds)) rfl rfl h3 ?_
        refine Rn.go 6 (pc' := 68) (lv' := [(2, .int (n_targets * (9 : Int32))), (0, .ref 0), (1, .ref 3)]) (st' := []) (es' := (wX7_Reader_Night r_bytes z1.2.2.2.2 r_filled r_end z1.2.1 r_wordStart r_hasMoon r_hasSky z1.2.2.1 z1.2.2.2.1 n_slots (n_targets + (1 : Int32)) n_teams n_moon n_percents (va_cpy z1.2.2.2.2 n_numbers 0 (((n_targets * (9 : Int32))).toNatClampNeg) 9) n_seen n_odds)) (c' := 0) (s' := 0) rfl ?_
        obtain rfl := Option.some.inj hp
        exact Rn.fin rfl rfl rfl
  · rw [if_neg h1] at hp
    refine Rn.go 4 (pc' := 16) (lv' := [(0, .ref 0), (1, .ref 3)]) (st' := [.int r_wordStart, .int (-4 : Int32), .ref 0]) (es' := (wX7_Reader_Night r_bytes r_values r_filled r_end r_at r_wordStart r_hasMoon r_hasSky r_error r_errorAt n_slots n_targets n_teams n_moon n_percents n_numbers n_seen n_odds)) (c' := 0) (s' := 0) rfl ?_
    obtain ⟨z2, hz2, hp⟩ := ob_some hp
    refine Rn.rel (pc' := 19) (lv' := [(0, .ref 0), (1, .ref 3)]) (st' := []) (es' := (wX7_Reader_Night r_bytes r_values r_filled r_end r_at r_wordStart r_hasMoon r_hasSky z2.1 z2.2 n_slots n_targets n_teams n_moon n_percents n_numbers n_seen n_odds)) (dc := 0) (ds := 0) rfl ⟨0, [.int (-4 : Int32), .int r_wordStart], _, [0, 1, 2], .inl none, (wX7_Reader r_bytes r_values r_filled r_end r_at r_wordStart r_hasMoon r_hasSky z2.1 z2.2), 0, 0, rfl, rfl, Nat.le_of_ble_eq_true rfl, rfl, ⟨(-4 : Int32), r_wordStart, r_bytes, r_values, r_filled, r_end, r_at, r_wordStart, r_hasMoon, r_hasSky, r_error, r_errorAt, z2, rfl, rfl, hz2, rfl⟩, rfl⟩ ?_
    refine Rn.go 1 (pc' := 68) (lv' := [(0, .ref 0), (1, .ref 3)]) (st' := []) (es' := (wX7_Reader_Night r_bytes r_values r_filled r_end r_at r_wordStart r_hasMoon r_hasSky z2.1 z2.2 n_slots n_targets n_teams n_moon n_percents n_numbers n_seen n_odds)) (c' := 0) (s' := 0) rfl ?_
    obtain rfl := Option.some.inj hp
    exact Rn.fin rfl rfl rfl
theorem qX7_readTarget : CtA yX7_readTarget (.code yX7_readTarget cX7_readTarget 3 none) 4 90 [] rX7_readTarget := CtA.of (by decide +kernel) (fun pc op h => kX7_readTarget _ (lkp_mem h)) oX7_readTarget
/-! TelescopeNight$Reader.takeNumbers([I[I)Z -/
def lpX7_takeNumbers_10041005_2 (r_bytes : Nat → Int32) (r_end : Int32) : Nat → Int32 → (Nat → Int32) → Int32 → Int32 → Int32 → Option ((Int32 × (Nat → Int32) × Int32 × Int32 × Int32) ⊕ (Int32 × Int32 × Int32 × Int32 × (Nat → Int32)))
  | 0, _, _, _, _, _ => none
  | fu + 1, l3, r_values, r_at, r_error, r_errorAt =>
    if (nI 3) ≤ l3 then
      some (.inl (l3, r_values, r_at, r_error, r_errorAt))
    else
      if (nI 9) ≤ l3 then
        some (.inl (l3, r_values, r_at, r_error, r_errorAt))
      else
        if (l3 < 0 ∨ 3 ≤ l3.toNatClampNeg) then none else
        ob (pX7_takeNumber l3 (statI 1004 l3.toNatClampNeg) (statI 1005 l3.toNatClampNeg) r_bytes r_values r_end r_at r_error r_errorAt) (fun z1 =>
        if ¬ z1.1 = 0 then
          lpX7_takeNumbers_10041005_2 r_bytes r_end fu (l3 + (1 : Int32)) z1.2.2.2.2 z1.2.1 z1.2.2.1 z1.2.2.2.1
        else
          some (.inr ((0 : Int32), z1.2.1, z1.2.2.1, z1.2.2.2.1, z1.2.2.2.2)))
def pX7_takeNumbers_10041005 (r_bytes : Nat → Int32) (r_values : Nat → Int32) (r_end : Int32) (r_at : Int32) (r_error : Int32) (r_errorAt : Int32) : Option (Int32 × Int32 × Int32 × Int32 × (Nat → Int32)) :=
  ob (lpX7_takeNumbers_10041005_2 r_bytes r_end lpF (0 : Int32) r_values r_at r_error r_errorAt) (fun z2 => match z2 with
  | .inl z2e =>
    ob (pX7_skipSpaces r_bytes r_end z2e.2.2.1) (fun z3 =>
    if r_end ≤ z3 then
      ob (pX7_fail (-2 : Int32) z3) (fun z4 =>
      some ((0 : Int32), z3, z4.1, z4.2, z2e.2.1))
    else
      if (z3 < 0 ∨ 500 ≤ z3.toNatClampNeg) then none else
      if (r_bytes z3.toNatClampNeg) = (59 : Int32) then
        some ((1 : Int32), (z3 + (1 : Int32)), z2e.2.2.2.1, z2e.2.2.2.2, z2e.2.1)
      else
        ob (pX7_fail (-2 : Int32) z3) (fun z5 =>
        some ((0 : Int32), z3, z5.1, z5.2, z2e.2.1)))
  | .inr z2f => some z2f)
def rX7_takeNumbers_10041005 : List Value → List va_E → op_O → Prop := fun avs es r => ∃ (r_bytes : Nat → Int32) (r_values : Nat → Int32) (r_filled : Int32) (r_end : Int32) (r_at : Int32) (r_wordStart : Int32) (r_hasMoon : Int32) (r_hasSky : Int32) (r_error : Int32) (r_errorAt : Int32) (z : Int32 × Int32 × Int32 × Int32 × (Nat → Int32)), avs = [.ref 0, .ref 1004, .ref 1005] ∧ es = (wX7_Reader r_bytes r_values r_filled r_end r_at r_wordStart r_hasMoon r_hasSky r_error r_errorAt) ∧ pX7_takeNumbers_10041005 r_bytes r_values r_end r_at r_error r_errorAt = some z ∧ r = (.inl (some (.int z.1)), (wX7_Reader r_bytes z.2.2.2.2 r_filled r_end z.2.1 r_wordStart r_hasMoon r_hasSky z.2.2.1 z.2.2.2.1), 0, 0)
def bX7_takeNumbers_10041005 : List (Nat × (op_T ⊕ op_R)) := [(0, .inl (o_push 1 (.int (0)))), (1, .inl (nrm [0, 1, 2, 3] (o_istore 2 3))), (2, .inl (o_iload 3 3)), (3, .inl (o_aload 4 1)), (4, .inl (o_alen 5)), (5, .inl (o_icmpge 8 45)), (8, .inl (o_iload 9 3)), (9, .inl (o_aload 10 2)), (10, .inl (o_alen 11)), (11, .inl (o_icmpge 14 45)), (14, .inl (o_iload 15 3)), (15, .inl (o_aload 16 0)), (16, .inl (o_get 19 7 1)), (19, .inl (o_alen 20)), (20, .inl (o_icmpge 23 45)), (23, .inl (o_aload 24 0)), (24, .inl (o_iload 25 3)), (25, .inl (o_aload 26 1)), (26, .inl (o_iload 27 3)), (27, .inl (o_iald 28)), (28, .inl (o_aload 29 2)), (29, .inl (o_iload 30 3)), (30, .inl (o_iald 31)), (31, .inr (o_callV [] [] 34 3 7 rX7_takeNumber)), (34, .inl (o_ifne 37 39)), (37, .inl (o_push 38 (.int (0)))), (38, .inl (o_zret)), (39, .inl (o_iinc 42 3 (1))), (42, .inl (nrm [0, 1, 2, 3] (o_goto 2))), (45, .inl (o_aload 46 0)), (46, .inr (o_callV [] [] 49 0 7 rX7_skipSpaces)), (49, .inl (o_aload 50 0)), (50, .inl (o_get 53 7 4)), (53, .inl (o_aload 54 0)), (54, .inl (o_get 57 7 3)), (57, .inl (o_icmpge 60 74)), (60, .inl (o_aload 61 0)), (61, .inl (o_get 64 7 0)), (64, .inl (o_aload 65 0)), (65, .inl (o_get 68 7 4)), (68, .inl (o_iald 69)), (69, .inl (o_push 71 (.int (59)))), (71, .inl (o_icmpeq 74 86)), (74, .inl (o_aload 75 0)), (75, .inl (o_push 77 (.int (-2)))), (77, .inl (o_aload 78 0)), (78, .inl (o_get 81 7 4)), (81, .inr (o_callV [] [] 84 2 7 rX7_fail)), (84, .inl (o_push 85 (.int (0)))), (85, .inl (o_zret)), (86, .inl (o_aload 87 0)), (87, .inl (o_dup 88)), (88, .inl (o_get 91 7 4)), (91, .inl (o_push 92 (.int (1)))), (92, .inl (o_ii 93 (fun x y => x + y))), (93, .inl (o_put 96 7 4 .int)), (96, .inl (o_push 97 (.int (1)))), (97, .inl (o_zret))]
set_option maxRecDepth 100000 in
set_option maxHeartbeats 4000000 in
theorem kX7_takeNumbers_10041005 : ∀ q ∈ bX7_takeNumbers_10041005, ok2 3 67 4 cX7_takeNumbers yX7_takeNumbers.cls yX7_takeNumbers.name (some .boolean) (.code yX7_takeNumbers cX7_takeNumbers 4 (some .boolean)) [] [] q.1 q.2 := (al_c (s_iconst (n := 0) (0) (by decide) (by decide +kernel)) (al_c (s_nrm [0, 1, 2, 3] (s_istore_n (k := 3) rfl (by decide) (by decide +kernel))) (al_c (s_iload_n (k := 3) (by decide +kernel)) (al_c (s_aload_n (k := 1) (by decide +kernel)) (al_c (s_alen (by decide +kernel)) (al_c (s_icmpge (off := 40) 45 (by decide) (by decide +kernel)) (al_c (s_iload_n (k := 3) (by decide +kernel)) (al_c (s_aload_n (k := 2) (by decide +kernel)) (al_c (s_alen (by decide +kernel)) (al_c (s_icmpge (off := 34) 45 (by decide) (by decide +kernel)) (al_c (s_iload_n (k := 3) (by decide +kernel)) (al_c (s_aload_n (k := 0) (by decide +kernel)) (al_c (s_get (C9 := RX7) (T9 := TX7) (N9 := 10) (ci := 7) (k := 1) iX7 rfl (by decide) w_216 (by decide +kernel)) (al_c (s_alen (by decide +kernel)) (al_c (s_icmpge (off := 25) 45 (by decide) (by decide +kernel)) (al_c (s_aload_n (k := 0) (by decide +kernel)) (al_c (s_iload_n (k := 3) (by decide +kernel)) (al_c (s_aload_n (k := 1) (by decide +kernel)) (al_c (s_iload_n (k := 3) (by decide +kernel)) (al_c (s_iald (by decide +kernel)) (al_c (s_aload_n (k := 2) (by decide +kernel)) (al_c (s_iload_n (k := 3) (by decide +kernel)) (al_c (s_iald (by decide +kernel)) (al_c (s_callV (y := yX7_takeNumber) (bytes := cX7_takeNumber) (maxL := 7) (ret' := (some .boolean)) (fr' := 2) (lo' := 41) (n := 3) (ml := []) (mlc := []) (ci := 7) (q9 := (RX7, TX7, 10)) qX7_takeNumber w_890 w_892 wp_35 w_7 w_893 ⟨by decide +kernel, by decide +kernel, by decide +kernel⟩ rfl rfl (by decide) (by decide) (by decide +kernel)) (al_c (s_ifne (off := 5) 39 (by decide) (by decide +kernel)) (al_c (s_iconst (n := 0) (0) (by decide) (by decide +kernel)) (al_c (s_zret rfl (by decide +kernel)) (al_c (s_iinc (n := 1) (1) (by decide) (by decide) (by decide +kernel)) (al_c (s_nrm [0, 1, 2, 3] (s_goto (off := -40) 2 (by decide) (by decide +kernel))) (al_c (s_aload_n (k := 0) (by decide +kernel)) (al_c (s_callV (y := yX7_skipSpaces) (bytes := cX7_skipSpaces) (maxL := 1) (ret' := none) (fr' := 0) (lo' := 0) (n := 0) (ml := []) (mlc := []) (ci := 7) (q9 := (RX7, TX7, 10)) qX7_skipSpaces w_821 w_823 wp_31 w_7 w_824 ⟨by decide +kernel, by decide +kernel, by decide +kernel⟩ rfl rfl (by decide) (by decide) (by decide +kernel)) (al_c (s_aload_n (k := 0) (by decide +kernel)) (al_c (s_get (C9 := RX7) (T9 := TX7) (N9 := 10) (ci := 7) (k := 4) iX7 rfl (by decide) w_220 (by decide +kernel)) (al_c (s_aload_n (k := 0) (by decide +kernel)) (al_c (s_get (C9 := RX7) (T9 := TX7) (N9 := 10) (ci := 7) (k := 3) iX7 rfl (by decide) w_219 (by decide +kernel)) (al_c (s_icmpge (off := 17) 74 (by decide) (by decide +kernel)) (al_c (s_aload_n (k := 0) (by decide +kernel)) (al_c (s_get (C9 := RX7) (T9 := TX7) (N9 := 10) (ci := 7) (k := 0) iX7 rfl (by decide) w_215 (by decide +kernel)) (al_c (s_aload_n (k := 0) (by decide +kernel)) (al_c (s_get (C9 := RX7) (T9 := TX7) (N9 := 10) (ci := 7) (k := 4) iX7 rfl (by decide) w_220 (by decide +kernel)) (al_c (s_iald (by decide +kernel)) (al_c (s_bipush (n := 59) (59) (by decide) (by decide +kernel)) (al_c (s_icmpeq (off := 15) 86 (by decide) (by decide +kernel)) (al_c (s_aload_n (k := 0) (by decide +kernel)) (al_c (s_bipush (n := -2) (-2) (by decide) (by decide +kernel)) (al_c (s_aload_n (k := 0) (by decide +kernel)) (al_c (s_get (C9 := RX7) (T9 := TX7) (N9 := 10) (ci := 7) (k := 4) iX7 rfl (by decide) w_220 (by decide +kernel)) (al_c (s_callV (y := yX7_fail) (bytes := cX7_fail) (maxL := 3) (ret' := none) (fr' := 0) (lo' := 0) (n := 2) (ml := []) (mlc := []) (ci := 7) (q9 := (RX7, TX7, 10)) qX7_fail w_878 w_880 wp_33 w_7 w_881 ⟨by decide +kernel, by decide +kernel, by decide +kernel⟩ rfl rfl (by decide) (by decide) (by decide +kernel)) (al_c (s_iconst (n := 0) (0) (by decide) (by decide +kernel)) (al_c (s_zret rfl (by decide +kernel)) (al_c (s_aload_n (k := 0) (by decide +kernel)) (al_c (s_dup (by decide +kernel)) (al_c (s_get (C9 := RX7) (T9 := TX7) (N9 := 10) (ci := 7) (k := 4) iX7 rfl (by decide) w_220 (by decide +kernel)) (al_c (s_iconst (n := 1) (1) (by decide) (by decide +kernel)) (al_c (s_iadd (by decide +kernel)) (al_c (s_put (C9 := RX7) (T9 := TX7) (N9 := 10) (ci := 7) (k := 4) iX7 rfl (by decide) w_220 tyX7 tyX7_ok nmX7 rfl (by decide +kernel)) (al_c (s_iconst (n := 1) (1) (by decide) (by decide +kernel)) (al_c (s_zret rfl (by decide +kernel)) al_n))))))))))))))))))))))))))))))))))))))))))))))))))))))))))
set_option maxRecDepth 100000 in
set_option maxHeartbeats 4000000 in
theorem lrX7_takeNumbers_10041005_2 (r_bytes : Nat → Int32) (r_filled : Int32) (r_end : Int32) (r_wordStart : Int32) (r_hasMoon : Int32) (r_hasSky : Int32) : ∀ (fu : Nat) (l3 : Int32) (r_values : Nat → Int32) (r_at : Int32) (r_error : Int32) (r_errorAt : Int32) (z : ((Int32 × (Nat → Int32) × Int32 × Int32 × Int32) ⊕ (Int32 × Int32 × Int32 × Int32 × (Nat → Int32)))), lpX7_takeNumbers_10041005_2 r_bytes r_end fu l3 r_values r_at r_error r_errorAt = some z → ∀ (c s : Nat) (r : op_O), (match z with | .inl ze => Rn (lkp bX7_takeNumbers_10041005) 45 [(0, .ref 0), (1, .ref 1004), (2, .ref 1005), (3, .int ze.1)] [] (wX7_Reader r_bytes ze.2.1 r_filled r_end ze.2.2.1 r_wordStart r_hasMoon r_hasSky ze.2.2.2.1 ze.2.2.2.2) c s r | .inr zf => r = (.inl (some (.int zf.1)), (wX7_Reader r_bytes zf.2.2.2.2 r_filled r_end zf.2.1 r_wordStart r_hasMoon r_hasSky zf.2.2.1 zf.2.2.2.1), c + 0, s + 0)) → Rn (lkp bX7_takeNumbers_10041005) 2 [(0, .ref 0), (1, .ref 1004), (2, .ref 1005), (3, .int l3)] [] (wX7_Reader r_bytes r_values r_filled r_end r_at r_wordStart r_hasMoon r_hasSky r_error r_errorAt) c s r := by
  intro fu
  induction fu with
  | zero => intro l3 r_values r_at r_error r_errorAt z hp; cases hp
  | succ fu ih =>
      intro l3 r_values r_at r_error r_errorAt z hp c s r k
      unfold lpX7_takeNumbers_10041005_2 at hp
      refine Rn.go 3 (pc' := 5) (lv' := [(0, .ref 0), (1, .ref 1004), (2, .ref 1005), (3, .int l3)]) (st' := [.int (nI 3), .int l3]) (es' := (wX7_Reader r_bytes r_values r_filled r_end r_at r_wordStart r_hasMoon r_hasSky r_error r_errorAt)) (c' := c) (s' := s) rfl ?_
      refine Rn.br (P := (nI 3) ≤ l3) (pc1 := 45) (pc2 := 8) rfl rfl (fun h1 => ?_) (fun h1 => ?_)
      · rw [if_pos h1] at hp
        obtain rfl := Option.some.inj hp
        exact k
      · rw [if_neg h1] at hp
        refine Rn.go 3 (pc' := 11) (lv' := [(0, .ref 0), (1, .ref 1004), (2, .ref 1005), (3, .int l3)]) (st' := [.int (nI 3), .int l3]) (es' := (wX7_Reader r_bytes r_values r_filled r_end r_at r_wordStart r_hasMoon r_hasSky r_error r_errorAt)) (c' := c) (s' := s) rfl ?_
        refine Rn.bf rfl rfl h1 ?_
        refine Rn.go 4 (pc' := 20) (lv' := [(0, .ref 0), (1, .ref 1004), (2, .ref 1005), (3, .int l3)]) (st' := [.int (nI 9), .int l3]) (es' := (wX7_Reader r_bytes r_values r_filled r_end r_at r_wordStart r_hasMoon r_hasSky r_error r_errorAt)) (c' := c) (s' := s) rfl ?_
        refine Rn.br (P := (nI 9) ≤ l3) (pc1 := 45) (pc2 := 23) rfl rfl (fun h2 => ?_) (fun h2 => ?_)
        · rw [if_pos h2] at hp
          obtain rfl := Option.some.inj hp
          exact k
        · rw [if_neg h2] at hp
          refine Rn.go 4 (pc' := 27) (lv' := [(0, .ref 0), (1, .ref 1004), (2, .ref 1005), (3, .int l3)]) (st' := [.int l3, .ref 1004, .int l3, .ref 0]) (es' := (wX7_Reader r_bytes r_values r_filled r_end r_at r_wordStart r_hasMoon r_hasSky r_error r_errorAt)) (c' := c) (s' := s) rfl ?_
          by_cases h3 : (l3 < 0 ∨ 3 ≤ l3.toNatClampNeg)
          · rw [if_pos h3] at hp; cases hp
          · rw [if_neg h3] at hp
            refine Rn.gd (pc' := 28) (lv' := [(0, .ref 0), (1, .ref 1004), (2, .ref 1005), (3, .int l3)]) (st' := [.int (statI 1004 l3.toNatClampNeg), .int l3, .ref 0]) (es' := (wX7_Reader r_bytes r_values r_filled r_end r_at r_wordStart r_hasMoon r_hasSky r_error r_errorAt)) rfl rfl h3 ?_
            refine Rn.go 2 (pc' := 30) (lv' := [(0, .ref 0), (1, .ref 1004), (2, .ref 1005), (3, .int l3)]) (st' := [.int l3, .ref 1005, .int (statI 1004 l3.toNatClampNeg), .int l3, .ref 0]) (es' := (wX7_Reader r_bytes r_values r_filled r_end r_at r_wordStart r_hasMoon r_hasSky r_error r_errorAt)) (c' := c) (s' := s) rfl ?_
            refine Rn.gd (pc' := 31) (lv' := [(0, .ref 0), (1, .ref 1004), (2, .ref 1005), (3, .int l3)]) (st' := [.int (statI 1005 l3.toNatClampNeg), .int (statI 1004 l3.toNatClampNeg), .int l3, .ref 0]) (es' := (wX7_Reader r_bytes r_values r_filled r_end r_at r_wordStart r_hasMoon r_hasSky r_error r_errorAt)) rfl rfl h3 ?_
            obtain ⟨z1, hz1, hp⟩ := ob_some hp
            refine Rn.rel (pc' := 34) (lv' := [(0, .ref 0), (1, .ref 1004), (2, .ref 1005), (3, .int l3)]) (st' := [.int z1.1]) (es' := (wX7_Reader r_bytes z1.2.2.2.2 r_filled r_end z1.2.1 r_wordStart r_hasMoon r_hasSky z1.2.2.1 z1.2.2.2.1)) (dc := 0) (ds := 0) rfl ⟨0, [.int l3, .int (statI 1004 l3.toNatClampNeg), .int (statI 1005 l3.toNatClampNeg)], _, [0, 1, 2], .inl (some (.int z1.1)), (wX7_Reader r_bytes z1.2.2.2.2 r_filled r_end z1.2.1 r_wordStart r_hasMoon r_hasSky z1.2.2.1 z1.2.2.2.1), 0, 0, rfl, rfl, Nat.le_of_ble_eq_true rfl, rfl, ⟨l3, (statI 1004 l3.toNatClampNeg), (statI 1005 l3.toNatClampNeg), r_bytes, r_values, r_filled, r_end, r_at, r_wordStart, r_hasMoon, r_hasSky, r_error, r_errorAt, z1, rfl, rfl, hz1, rfl⟩, rfl⟩ ?_
            refine Rn.br (P := ¬ z1.1 = 0) (pc1 := 39) (pc2 := 37) rfl rfl (fun h4 => ?_) (fun h4 => ?_)
            · rw [if_pos h4] at hp
              refine Rn.go 2 (pc' := 2) (lv' := [(0, .ref 0), (1, .ref 1004), (2, .ref 1005), (3, .int (l3 + (1 : Int32)))]) (st' := []) (es' := (wX7_Reader r_bytes z1.2.2.2.2 r_filled r_end z1.2.1 r_wordStart r_hasMoon r_hasSky z1.2.2.1 z1.2.2.2.1)) (c' := c) (s' := s) rfl ?_
              exact ih (l3 + (1 : Int32)) z1.2.2.2.2 z1.2.1 z1.2.2.1 z1.2.2.2.1 z hp c s r k
            · rw [if_neg h4] at hp
              refine Rn.go 1 (pc' := 38) (lv' := [(0, .ref 0), (1, .ref 1004), (2, .ref 1005), (3, .int l3)]) (st' := [.int (0 : Int32)]) (es' := (wX7_Reader r_bytes z1.2.2.2.2 r_filled r_end z1.2.1 r_wordStart r_hasMoon r_hasSky z1.2.2.1 z1.2.2.2.1)) (c' := c) (s' := s) rfl ?_
              obtain rfl := Option.some.inj hp
              exact Rn.fin rfl rfl k
set_option maxRecDepth 100000 in
set_option maxHeartbeats 4000000 in
theorem oX7_takeNumbers_10041005 : Of (lkp bX7_takeNumbers_10041005) 4 rX7_takeNumbers_10041005 := by
  intro avs es r h
  obtain ⟨r_bytes, r_values, r_filled, r_end, r_at, r_wordStart, r_hasMoon, r_hasSky, r_error, r_errorAt, z, rfl, rfl, hp, rfl⟩ := h
  refine ⟨Nat.le_of_ble_eq_true rfl, ?_⟩
  unfold pX7_takeNumbers_10041005 at hp
  refine Rn.go 2 (pc' := 2) (lv' := [(0, .ref 0), (1, .ref 1004), (2, .ref 1005), (3, .int (0 : Int32))]) (st' := []) (es' := (wX7_Reader r_bytes r_values r_filled r_end r_at r_wordStart r_hasMoon r_hasSky r_error r_errorAt)) (c' := 0) (s' := 0) rfl ?_
  obtain ⟨z2, hz2, hp⟩ := ob_some hp
  rcases z2 with z2e | z2f
  · dsimp only at hp
    refine lrX7_takeNumbers_10041005_2 r_bytes r_filled r_end r_wordStart r_hasMoon r_hasSky _ (0 : Int32) r_values r_at r_error r_errorAt _ hz2 _ _ _ ?_
    refine Rn.go 1 (pc' := 46) (lv' := [(0, .ref 0), (1, .ref 1004), (2, .ref 1005), (3, .int z2e.1)]) (st' := [.ref 0]) (es' := (wX7_Reader r_bytes z2e.2.1 r_filled r_end z2e.2.2.1 r_wordStart r_hasMoon r_hasSky z2e.2.2.2.1 z2e.2.2.2.2)) (c' := 0) (s' := 0) rfl ?_
    obtain ⟨z3, hz3, hp⟩ := ob_some hp
    refine Rn.rel (pc' := 49) (lv' := [(0, .ref 0), (1, .ref 1004), (2, .ref 1005), (3, .int z2e.1)]) (st' := []) (es' := (wX7_Reader r_bytes z2e.2.1 r_filled r_end z3 r_wordStart r_hasMoon r_hasSky z2e.2.2.2.1 z2e.2.2.2.2)) (dc := 0) (ds := 0) rfl ⟨0, [], _, [0, 1, 2], .inl none, (wX7_Reader r_bytes z2e.2.1 r_filled r_end z3 r_wordStart r_hasMoon r_hasSky z2e.2.2.2.1 z2e.2.2.2.2), 0, 0, rfl, rfl, Nat.le_of_ble_eq_true rfl, rfl, ⟨r_bytes, z2e.2.1, r_filled, r_end, z2e.2.2.1, r_wordStart, r_hasMoon, r_hasSky, z2e.2.2.2.1, z2e.2.2.2.2, z3, rfl, rfl, hz3, rfl⟩, rfl⟩ ?_
    refine Rn.go 4 (pc' := 57) (lv' := [(0, .ref 0), (1, .ref 1004), (2, .ref 1005), (3, .int z2e.1)]) (st' := [.int r_end, .int z3]) (es' := (wX7_Reader r_bytes z2e.2.1 r_filled r_end z3 r_wordStart r_hasMoon r_hasSky z2e.2.2.2.1 z2e.2.2.2.2)) (c' := 0) (s' := 0) rfl ?_
    refine Rn.br (P := r_end ≤ z3) (pc1 := 74) (pc2 := 60) rfl rfl (fun h5 => ?_) (fun h5 => ?_)
    · rw [if_pos h5] at hp
      refine Rn.go 4 (pc' := 81) (lv' := [(0, .ref 0), (1, .ref 1004), (2, .ref 1005), (3, .int z2e.1)]) (st' := [.int z3, .int (-2 : Int32), .ref 0]) (es' := (wX7_Reader r_bytes z2e.2.1 r_filled r_end z3 r_wordStart r_hasMoon r_hasSky z2e.2.2.2.1 z2e.2.2.2.2)) (c' := 0) (s' := 0) rfl ?_
      obtain ⟨z4, hz4, hp⟩ := ob_some hp
      refine Rn.rel (pc' := 84) (lv' := [(0, .ref 0), (1, .ref 1004), (2, .ref 1005), (3, .int z2e.1)]) (st' := []) (es' := (wX7_Reader r_bytes z2e.2.1 r_filled r_end z3 r_wordStart r_hasMoon r_hasSky z4.1 z4.2)) (dc := 0) (ds := 0) rfl ⟨0, [.int (-2 : Int32), .int z3], _, [0, 1, 2], .inl none, (wX7_Reader r_bytes z2e.2.1 r_filled r_end z3 r_wordStart r_hasMoon r_hasSky z4.1 z4.2), 0, 0, rfl, rfl, Nat.le_of_ble_eq_true rfl, rfl, ⟨(-2 : Int32), z3, r_bytes, z2e.2.1, r_filled, r_end, z3, r_wordStart, r_hasMoon, r_hasSky, z2e.2.2.2.1, z2e.2.2.2.2, z4, rfl, rfl, hz4, rfl⟩, rfl⟩ ?_
      refine Rn.go 1 (pc' := 85) (lv' := [(0, .ref 0), (1, .ref 1004), (2, .ref 1005), (3, .int z2e.1)]) (st' := [.int (0 : Int32)]) (es' := (wX7_Reader r_bytes z2e.2.1 r_filled r_end z3 r_wordStart r_hasMoon r_hasSky z4.1 z4.2)) (c' := 0) (s' := 0) rfl ?_
      obtain rfl := Option.some.inj hp
      exact Rn.fin rfl rfl rfl
    · rw [if_neg h5] at hp
      refine Rn.go 4 (pc' := 68) (lv' := [(0, .ref 0), (1, .ref 1004), (2, .ref 1005), (3, .int z2e.1)]) (st' := [.int z3, .ref 1]) (es' := (wX7_Reader r_bytes z2e.2.1 r_filled r_end z3 r_wordStart r_hasMoon r_hasSky z2e.2.2.2.1 z2e.2.2.2.2)) (c' := 0) (s' := 0) rfl ?_
      by_cases h6 : (z3 < 0 ∨ 500 ≤ z3.toNatClampNeg)
      · rw [if_pos h6] at hp; cases hp
      · rw [if_neg h6] at hp
        refine Rn.gd (pc' := 69) (lv' := [(0, .ref 0), (1, .ref 1004), (2, .ref 1005), (3, .int z2e.1)]) (st' := [.int (r_bytes z3.toNatClampNeg)]) (es' := (wX7_Reader r_bytes z2e.2.1 r_filled r_end z3 r_wordStart r_hasMoon r_hasSky z2e.2.2.2.1 z2e.2.2.2.2)) rfl rfl h6 ?_
        refine Rn.go 1 (pc' := 71) (lv' := [(0, .ref 0), (1, .ref 1004), (2, .ref 1005), (3, .int z2e.1)]) (st' := [.int (59 : Int32), .int (r_bytes z3.toNatClampNeg)]) (es' := (wX7_Reader r_bytes z2e.2.1 r_filled r_end z3 r_wordStart r_hasMoon r_hasSky z2e.2.2.2.1 z2e.2.2.2.2)) (c' := 0) (s' := 0) rfl ?_
        refine Rn.br (P := (r_bytes z3.toNatClampNeg) = (59 : Int32)) (pc1 := 86) (pc2 := 74) rfl rfl (fun h7 => ?_) (fun h7 => ?_)
        · rw [if_pos h7] at hp
          refine Rn.go 7 (pc' := 97) (lv' := [(0, .ref 0), (1, .ref 1004), (2, .ref 1005), (3, .int z2e.1)]) (st' := [.int (1 : Int32)]) (es' := (wX7_Reader r_bytes z2e.2.1 r_filled r_end (z3 + (1 : Int32)) r_wordStart r_hasMoon r_hasSky z2e.2.2.2.1 z2e.2.2.2.2)) (c' := 0) (s' := 0) rfl ?_
          obtain rfl := Option.some.inj hp
          exact Rn.fin rfl rfl rfl
        · rw [if_neg h7] at hp
          refine Rn.go 4 (pc' := 81) (lv' := [(0, .ref 0), (1, .ref 1004), (2, .ref 1005), (3, .int z2e.1)]) (st' := [.int z3, .int (-2 : Int32), .ref 0]) (es' := (wX7_Reader r_bytes z2e.2.1 r_filled r_end z3 r_wordStart r_hasMoon r_hasSky z2e.2.2.2.1 z2e.2.2.2.2)) (c' := 0) (s' := 0) rfl ?_
          obtain ⟨z5, hz5, hp⟩ := ob_some hp
          refine Rn.rel (pc' := 84) (lv' := [(0, .ref 0), (1, .ref 1004), (2, .ref 1005), (3, .int z2e.1)]) (st' := []) (es' := (wX7_Reader r_bytes z2e.2.1 r_filled r_end z3 r_wordStart r_hasMoon r_hasSky z5.1 z5.2)) (dc := 0) (ds := 0) rfl ⟨0, [.int (-2 : Int32), .int z3], _, [0, 1, 2], .inl none, (wX7_Reader r_bytes z2e.2.1 r_filled r_end z3 r_wordStart r_hasMoon r_hasSky z5.1 z5.2), 0, 0, rfl, rfl, Nat.le_of_ble_eq_true rfl, rfl, ⟨(-2 : Int32), z3, r_bytes, z2e.2.1, r_filled, r_end, z3, r_wordStart, r_hasMoon, r_hasSky, z2e.2.2.2.1, z2e.2.2.2.2, z5, rfl, rfl, hz5, rfl⟩, rfl⟩ ?_
          refine Rn.go 1 (pc' := 85) (lv' := [(0, .ref 0), (1, .ref 1004), (2, .ref 1005), (3, .int z2e.1)]) (st' := [.int (0 : Int32)]) (es' := (wX7_Reader r_bytes z2e.2.1 r_filled r_end z3 r_wordStart r_hasMoon r_hasSky z5.1 z5.2)) (c' := 0) (s' := 0) rfl ?_
          obtain rfl := Option.some.inj hp
          exact Rn.fin rfl rfl rfl
  · obtain rfl := Option.some.inj hp
    exact lrX7_takeNumbers_10041005_2 r_bytes r_filled r_end r_wordStart r_hasMoon r_hasSky _ (0 : Int32) r_values r_at r_error r_errorAt _ hz2 _ _ _ rfl
theorem qX7_takeNumbers_10041005 : CtA yX7_takeNumbers (.code yX7_takeNumbers cX7_takeNumbers 4 (some .boolean)) 3 67 [] rX7_takeNumbers_10041005 := CtA.of (by decide +kernel) (fun pc op h => kX7_takeNumbers_10041005 _ (lkp_mem h)) oX7_takeNumbers_10041005
/-! TelescopeNight$Reader.takeNumbers([I[I)Z -/
def lpX7_takeNumbers_10021003_2 (r_bytes : Nat → Int32) (r_end : Int32) : Nat → Int32 → (Nat → Int32) → Int32 → Int32 → Int32 → Option ((Int32 × (Nat → Int32) × Int32 × Int32 × Int32) ⊕ (Int32 × Int32 × Int32 × Int32 × (Nat → Int32)))
  | 0, _, _, _, _, _ => none
  | fu + 1, l3, r_values, r_at, r_error, r_errorAt =>
    if (nI 6) ≤ l3 then
      some (.inl (l3, r_values, r_at, r_error, r_errorAt))
    else
      if (nI 9) ≤ l3 then
        some (.inl (l3, r_values, r_at, r_error, r_errorAt))
      else
        if (l3 < 0 ∨ 6 ≤ l3.toNatClampNeg) then none else
        ob (pX7_takeNumber l3 (statI 1002 l3.toNatClampNeg) (statI 1003 l3.toNatClampNeg) r_bytes r_values r_end r_at r_error r_errorAt) (fun z1 =>
        if ¬ z1.1 = 0 then
          lpX7_takeNumbers_10021003_2 r_bytes r_end fu (l3 + (1 : Int32)) z1.2.2.2.2 z1.2.1 z1.2.2.1 z1.2.2.2.1
        else
          some (.inr ((0 : Int32), z1.2.1, z1.2.2.1, z1.2.2.2.1, z1.2.2.2.2)))
def pX7_takeNumbers_10021003 (r_bytes : Nat → Int32) (r_values : Nat → Int32) (r_end : Int32) (r_at : Int32) (r_error : Int32) (r_errorAt : Int32) : Option (Int32 × Int32 × Int32 × Int32 × (Nat → Int32)) :=
  ob (lpX7_takeNumbers_10021003_2 r_bytes r_end lpF (0 : Int32) r_values r_at r_error r_errorAt) (fun z2 => match z2 with
  | .inl z2e =>
    ob (pX7_skipSpaces r_bytes r_end z2e.2.2.1) (fun z3 =>
    if r_end ≤ z3 then
      ob (pX7_fail (-2 : Int32) z3) (fun z4 =>
      some ((0 : Int32), z3, z4.1, z4.2, z2e.2.1))
    else
      if (z3 < 0 ∨ 500 ≤ z3.toNatClampNeg) then none else
      if (r_bytes z3.toNatClampNeg) = (59 : Int32) then
        some ((1 : Int32), (z3 + (1 : Int32)), z2e.2.2.2.1, z2e.2.2.2.2, z2e.2.1)
      else
        ob (pX7_fail (-2 : Int32) z3) (fun z5 =>
        some ((0 : Int32), z3, z5.1, z5.2, z2e.2.1)))
  | .inr z2f => some z2f)
def rX7_takeNumbers_10021003 : List Value → List va_E → op_O → Prop := fun avs es r => ∃ (r_bytes : Nat → Int32) (r_values : Nat → Int32) (r_filled : Int32) (r_end : Int32) (r_at : Int32) (r_wordStart : Int32) (r_hasMoon : Int32) (r_hasSky : Int32) (r_error : Int32) (r_errorAt : Int32) (z : Int32 × Int32 × Int32 × Int32 × (Nat → Int32)), avs = [.ref 0, .ref 1002, .ref 1003] ∧ es = (wX7_Reader r_bytes r_values r_filled r_end r_at r_wordStart r_hasMoon r_hasSky r_error r_errorAt) ∧ pX7_takeNumbers_10021003 r_bytes r_values r_end r_at r_error r_errorAt = some z ∧ r = (.inl (some (.int z.1)), (wX7_Reader r_bytes z.2.2.2.2 r_filled r_end z.2.1 r_wordStart r_hasMoon r_hasSky z.2.2.1 z.2.2.2.1), 0, 0)
def bX7_takeNumbers_10021003 : List (Nat × (op_T ⊕ op_R)) := [(0, .inl (o_push 1 (.int (0)))), (1, .inl (nrm [0, 1, 2, 3] (o_istore 2 3))), (2, .inl (o_iload 3 3)), (3, .inl (o_aload 4 1)), (4, .inl (o_alen 5)), (5, .inl (o_icmpge 8 45)), (8, .inl (o_iload 9 3)), (9, .inl (o_aload 10 2)), (10, .inl (o_alen 11)), (11, .inl (o_icmpge 14 45)), (14, .inl (o_iload 15 3)), (15, .inl (o_aload 16 0)), (16, .inl (o_get 19 7 1)), (19, .inl (o_alen 20)), (20, .inl (o_icmpge 23 45)), (23, .inl (o_aload 24 0)), (24, .inl (o_iload 25 3)), (25, .inl (o_aload 26 1)), (26, .inl (o_iload 27 3)), (27, .inl (o_iald 28)), (28, .inl (o_aload 29 2)), (29, .inl (o_iload 30 3)), (30, .inl (o_iald 31)), (31, .inr (o_callV [] [] 34 3 7 rX7_takeNumber)), (34, .inl (o_ifne 37 39)), (37, .inl (o_push 38 (.int (0)))), (38, .inl (o_zret)), (39, .inl (o_iinc 42 3 (1))), (42, .inl (nrm [0, 1, 2, 3] (o_goto 2))), (45, .inl (o_aload 46 0)), (46, .inr (o_callV [] [] 49 0 7 rX7_skipSpaces)), (49, .inl (o_aload 50 0)), (50, .inl (o_get 53 7 4)), (53, .inl (o_aload 54 0)), (54, .inl (o_get 57 7 3)), (57, .inl (o_icmpge 60 74)), (60, .inl (o_aload 61 0)), (61, .inl (o_get 64 7 0)), (64, .inl (o_aload 65 0)), (65, .inl (o_get 68 7 4)), (68, .inl (o_iald 69)), (69, .inl (o_push 71 (.int (59)))), (71, .inl (o_icmpeq 74 86)), (74, .inl (o_aload 75 0)), (75, .inl (o_push 77 (.int (-2)))), (77, .inl (o_aload 78 0)), (78, .inl (o_get 81 7 4)), (81, .inr (o_callV [] [] 84 2 7 rX7_fail)), (84, .inl (o_push 85 (.int (0)))), (85, .inl (o_zret)), (86, .inl (o_aload 87 0)), (87, .inl (o_dup 88)), (88, .inl (o_get 91 7 4)), (91, .inl (o_push 92 (.int (1)))), (92, .inl (o_ii 93 (fun x y => x + y))), (93, .inl (o_put 96 7 4 .int)), (96, .inl (o_push 97 (.int (1)))), (97, .inl (o_zret))]
set_option maxRecDepth 100000 in
set_option maxHeartbeats 4000000 in
theorem kX7_takeNumbers_10021003 : ∀ q ∈ bX7_takeNumbers_10021003, ok2 3 67 4 cX7_takeNumbers yX7_takeNumbers.cls yX7_takeNumbers.name (some .boolean) (.code yX7_takeNumbers cX7_takeNumbers 4 (some .boolean)) [] [] q.1 q.2 := (al_c (s_iconst (n := 0) (0) (by decide) (by decide +kernel)) (al_c (s_nrm [0, 1, 2, 3] (s_istore_n (k := 3) rfl (by decide) (by decide +kernel))) (al_c (s_iload_n (k := 3) (by decide +kernel)) (al_c (s_aload_n (k := 1) (by decide +kernel)) (al_c (s_alen (by decide +kernel)) (al_c (s_icmpge (off := 40) 45 (by decide) (by decide +kernel)) (al_c (s_iload_n (k := 3) (by decide +kernel)) (al_c (s_aload_n (k := 2) (by decide +kernel)) (al_c (s_alen (by decide +kernel)) (al_c (s_icmpge (off := 34) 45 (by decide) (by decide +kernel)) (al_c (s_iload_n (k := 3) (by decide +kernel)) (al_c (s_aload_n (k := 0) (by decide +kernel)) (al_c (s_get (C9 := RX7) (T9 := TX7) (N9 := 10) (ci := 7) (k := 1) iX7 rfl (by decide) w_216 (by decide +kernel)) (al_c (s_alen (by decide +kernel)) (al_c (s_icmpge (off := 25) 45 (by decide) (by decide +kernel)) (al_c (s_aload_n (k := 0) (by decide +kernel)) (al_c (s_iload_n (k := 3) (by decide +kernel)) (al_c (s_aload_n (k := 1) (by decide +kernel)) (al_c (s_iload_n (k := 3) (by decide +kernel)) (al_c (s_iald (by decide +kernel)) (al_c (s_aload_n (k := 2) (by decide +kernel)) (al_c (s_iload_n (k := 3) (by decide +kernel)) (al_c (s_iald (by decide +kernel)) (al_c (s_callV (y := yX7_takeNumber) (bytes := cX7_takeNumber) (maxL := 7) (ret' := (some .boolean)) (fr' := 2) (lo' := 41) (n := 3) (ml := []) (mlc := []) (ci := 7) (q9 := (RX7, TX7, 10)) qX7_takeNumber w_890 w_892 wp_35 w_7 w_893 ⟨by decide +kernel, by decide +kernel, by decide +kernel⟩ rfl rfl (by decide) (by decide) (by decide +kernel)) (al_c (s_ifne (off := 5) 39 (by decide) (by decide +kernel)) (al_c (s_iconst (n := 0) (0) (by decide) (by decide +kernel)) (al_c (s_zret rfl (by decide +kernel)) (al_c (s_iinc (n := 1) (1) (by decide) (by decide) (by decide +kernel)) (al_c (s_nrm [0, 1, 2, 3] (s_goto (off := -40) 2 (by decide) (by decide +kernel))) (al_c (s_aload_n (k := 0) (by decide +kernel)) (al_c (s_callV (y := yX7_skipSpaces) (bytes := cX7_skipSpaces) (maxL := 1) (ret' := none) (fr' := 0) (lo' := 0) (n := 0) (ml := []) (mlc := []) (ci := 7) (q9 := (RX7, TX7, 10)) qX7_skipSpaces w_821 w_823 wp_31 w_7 w_824 ⟨by decide +kernel, by decide +kernel, by decide +kernel⟩ rfl rfl (by decide) (by decide) (by decide +kernel)) (al_c (s_aload_n (k := 0) (by decide +kernel)) (al_c (s_get (C9 := RX7) (T9 := TX7) (N9 := 10) (ci := 7) (k := 4) iX7 rfl (by decide) w_220 (by decide +kernel)) (al_c (s_aload_n (k := 0) (by decide +kernel)) (al_c (s_get (C9 := RX7) (T9 := TX7) (N9 := 10) (ci := 7) (k := 3) iX7 rfl (by decide) w_219 (by decide +kernel)) (al_c (s_icmpge (off := 17) 74 (by decide) (by decide +kernel)) (al_c (s_aload_n (k := 0) (by decide +kernel)) (al_c (s_get (C9 := RX7) (T9 := TX7) (N9 := 10) (ci := 7) (k := 0) iX7 rfl (by decide) w_215 (by decide +kernel)) (al_c (s_aload_n (k := 0) (by decide +kernel)) (al_c (s_get (C9 := RX7) (T9 := TX7) (N9 := 10) (ci := 7) (k := 4) iX7 rfl (by decide) w_220 (by decide +kernel)) (al_c (s_iald (by decide +kernel)) (al_c (s_bipush (n := 59) (59) (by decide) (by decide +kernel)) (al_c (s_icmpeq (off := 15) 86 (by decide) (by decide +kernel)) (al_c (s_aload_n (k := 0) (by decide +kernel)) (al_c (s_bipush (n := -2) (-2) (by decide) (by decide +kernel)) (al_c (s_aload_n (k := 0) (by decide +kernel)) (al_c (s_get (C9 := RX7) (T9 := TX7) (N9 := 10) (ci := 7) (k := 4) iX7 rfl (by decide) w_220 (by decide +kernel)) (al_c (s_callV (y := yX7_fail) (bytes := cX7_fail) (maxL := 3) (ret' := none) (fr' := 0) (lo' := 0) (n := 2) (ml := []) (mlc := []) (ci := 7) (q9 := (RX7, TX7, 10)) qX7_fail w_878 w_880 wp_33 w_7 w_881 ⟨by decide +kernel, by decide +kernel, by decide +kernel⟩ rfl rfl (by decide) (by decide) (by decide +kernel)) (al_c (s_iconst (n := 0) (0) (by decide) (by decide +kernel)) (al_c (s_zret rfl (by decide +kernel)) (al_c (s_aload_n (k := 0) (by decide +kernel)) (al_c (s_dup (by decide +kernel)) (al_c (s_get (C9 := RX7) (T9 := TX7) (N9 := 10) (ci := 7) (k := 4) iX7 rfl (by decide) w_220 (by decide +kernel)) (al_c (s_iconst (n := 1) (1) (by decide) (by decide +kernel)) (al_c (s_iadd (by decide +kernel)) (al_c (s_put (C9 := RX7) (T9 := TX7) (N9 := 10) (ci := 7) (k := 4) iX7 rfl (by decide) w_220 tyX7 tyX7_ok nmX7 rfl (by decide +kernel)) (al_c (s_iconst (n := 1) (1) (by decide) (by decide +kernel)) (al_c (s_zret rfl (by decide +kernel)) al_n))))))))))))))))))))))))))))))))))))))))))))))))))))))))))
set_option maxRecDepth 100000 in
set_option maxHeartbeats 4000000 in
theorem lrX7_takeNumbers_10021003_2 (r_bytes : Nat → Int32) (r_filled : Int32) (r_end : Int32) (r_wordStart : Int32) (r_hasMoon : Int32) (r_hasSky : Int32) : ∀ (fu : Nat) (l3 : Int32) (r_values : Nat → Int32) (r_at : Int32) (r_error : Int32) (r_errorAt : Int32) (z : ((Int32 × (Nat → Int32) × Int32 × Int32 × Int32) ⊕ (Int32 × Int32 × Int32 × Int32 × (Nat → Int32)))), lpX7_takeNumbers_10021003_2 r_bytes r_end fu l3 r_values r_at r_error r_errorAt = some z → ∀ (c s : Nat) (r : op_O), (match z with | .inl ze => Rn (lkp bX7_takeNumbers_10021003) 45 [(0, .ref 0), (1, .ref 1002), (2, .ref 1003), (3, .int ze.1)] [] (wX7_Reader r_bytes ze.2.1 r_filled r_end ze.2.2.1 r_wordStart r_hasMoon r_hasSky ze.2.2.2.1 ze.2.2.2.2) c s r | .inr zf => r = (.inl (some (.int zf.1)), (wX7_Reader r_bytes zf.2.2.2.2 r_filled r_end zf.2.1 r_wordStart r_hasMoon r_hasSky zf.2.2.1 zf.2.2.2.1), c + 0, s + 0)) → Rn (lkp bX7_takeNumbers_10021003) 2 [(0, .ref 0), (1, .ref 1002), (2, .ref 1003), (3, .int l3)] [] (wX7_Reader r_bytes r_values r_filled r_end r_at r_wordStart r_hasMoon r_hasSky r_error r_errorAt) c s r := by
  intro fu
  induction fu with
  | zero => intro l3 r_values r_at r_error r_errorAt z hp; cases hp
  | succ fu ih =>
      intro l3 r_values r_at r_error r_errorAt z hp c s r k
      unfold lpX7_takeNumbers_10021003_2 at hp
      refine Rn.go 3 (pc' := 5) (lv' := [(0, .ref 0), (1, .ref 1002), (2, .ref 1003), (3, .int l3)]) (st' := [.int (nI 6), .int l3]) (es' := (wX7_Reader r_bytes r_values r_filled r_end r_at r_wordStart r_hasMoon r_hasSky r_error r_errorAt)) (c' := c) (s' := s) rfl ?_
      refine Rn.br (P := (nI 6) ≤ l3) (pc1 := 45) (pc2 := 8) rfl rfl (fun h1 => ?_) (fun h1 => ?_)
      · rw [if_pos h1] at hp
        obtain rfl := Option.some.inj hp
        exact k
      · rw [if_neg h1] at hp
        refine Rn.go 3 (pc' := 11) (lv' := [(0, .ref 0), (1, .ref 1002), (2, .ref 1003), (3, .int l3)]) (st' := [.int (nI 6), .int l3]) (es' := (wX7_Reader r_bytes r_values r_filled r_end r_at r_wordStart r_hasMoon r_hasSky r_error r_errorAt)) (c' := c) (s' := s) rfl ?_
        refine Rn.bf rfl rfl h1 ?_
        refine Rn.go 4 (pc' := 20) (lv' := [(0, .ref 0), (1, .ref 1002), (2, .ref 1003), (3, .int l3)]) (st' := [.int (nI 9), .int l3]) (es' := (wX7_Reader r_bytes r_values r_filled r_end r_at r_wordStart r_hasMoon r_hasSky r_error r_errorAt)) (c' := c) (s' := s) rfl ?_
        refine Rn.br (P := (nI 9) ≤ l3) (pc1 := 45) (pc2 := 23) rfl rfl (fun h2 => ?_) (fun h2 => ?_)
        · rw [if_pos h2] at hp
          obtain rfl := Option.some.inj hp
          exact k
        · rw [if_neg h2] at hp
          refine Rn.go 4 (pc' := 27) (lv' := [(0, .ref 0), (1, .ref 1002), (2, .ref 1003), (3, .int l3)]) (st' := [.int l3, .ref 1002, .int l3, .ref 0]) (es' := (wX7_Reader r_bytes r_values r_filled r_end r_at r_wordStart r_hasMoon r_hasSky r_error r_errorAt)) (c' := c) (s' := s) rfl ?_
          by_cases h3 : (l3 < 0 ∨ 6 ≤ l3.toNatClampNeg)
          · rw [if_pos h3] at hp; cases hp
          · rw [if_neg h3] at hp
            refine Rn.gd (pc' := 28) (lv' := [(0, .ref 0), (1, .ref 1002), (2, .ref 1003), (3, .int l3)]) (st' := [.int (statI 1002 l3.toNatClampNeg), .int l3, .ref 0]) (es' := (wX7_Reader r_bytes r_values r_filled r_end r_at r_wordStart r_hasMoon r_hasSky r_error r_errorAt)) rfl rfl h3 ?_
            refine Rn.go 2 (pc' := 30) (lv' := [(0, .ref 0), (1, .ref 1002), (2, .ref 1003), (3, .int l3)]) (st' := [.int l3, .ref 1003, .int (statI 1002 l3.toNatClampNeg), .int l3, .ref 0]) (es' := (wX7_Reader r_bytes r_values r_filled r_end r_at r_wordStart r_hasMoon r_hasSky r_error r_errorAt)) (c' := c) (s' := s) rfl ?_
            refine Rn.gd (pc' := 31) (lv' := [(0, .ref 0), (1, .ref 1002), (2, .ref 1003), (3, .int l3)]) (st' := [.int (statI 1003 l3.toNatClampNeg), .int (statI 1002 l3.toNatClampNeg), .int l3, .ref 0]) (es' := (wX7_Reader r_bytes r_values r_filled r_end r_at r_wordStart r_hasMoon r_hasSky r_error r_errorAt)) rfl rfl h3 ?_
            obtain ⟨z1, hz1, hp⟩ := ob_some hp
            refine Rn.rel (pc' := 34) (lv' := [(0, .ref 0), (1, .ref 1002), (2, .ref 1003), (3, .int l3)]) (st' := [.int z1.1]) (es' := (wX7_Reader r_bytes z1.2.2.2.2 r_filled r_end z1.2.1 r_wordStart r_hasMoon r_hasSky z1.2.2.1 z1.2.2.2.1)) (dc := 0) (ds := 0) rfl ⟨0, [.int l3, .int (statI 1002 l3.toNatClampNeg), .int (statI 1003 l3.toNatClampNeg)], _, [0, 1, 2], .inl (some (.int z1.1)), (wX7_Reader r_bytes z1.2.2.2.2 r_filled r_end z1.2.1 r_wordStart r_hasMoon r_hasSky z1.2.2.1 z1.2.2.2.1), 0, 0, rfl, rfl, Nat.le_of_ble_eq_true rfl, rfl, ⟨l3, (statI 1002 l3.toNatClampNeg), (statI 1003 l3.toNatClampNeg), r_bytes, r_values, r_filled, r_end, r_at, r_wordStart, r_hasMoon, r_hasSky, r_error, r_errorAt, z1, rfl, rfl, hz1, rfl⟩, rfl⟩ ?_
            refine Rn.br (P := ¬ z1.1 = 0) (pc1 := 39) (pc2 := 37) rfl rfl (fun h4 => ?_) (fun h4 => ?_)
            · rw [if_pos h4] at hp
              refine Rn.go 2 (pc' := 2) (lv' := [(0, .ref 0), (1, .ref 1002), (2, .ref 1003), (3, .int (l3 + (1 : Int32)))]) (st' := []) (es' := (wX7_Reader r_bytes z1.2.2.2.2 r_filled r_end z1.2.1 r_wordStart r_hasMoon r_hasSky z1.2.2.1 z1.2.2.2.1)) (c' := c) (s' := s) rfl ?_
              exact ih (l3 + (1 : Int32)) z1.2.2.2.2 z1.2.1 z1.2.2.1 z1.2.2.2.1 z hp c s r k
            · rw [if_neg h4] at hp
              refine Rn.go 1 (pc' := 38) (lv' := [(0, .ref 0), (1, .ref 1002), (2, .ref 1003), (3, .int l3)]) (st' := [.int (0 : Int32)]) (es' := (wX7_Reader r_bytes z1.2.2.2.2 r_filled r_end z1.2.1 r_wordStart r_hasMoon r_hasSky z1.2.2.1 z1.2.2.2.1)) (c' := c) (s' := s) rfl ?_
              obtain rfl := Option.some.inj hp
              exact Rn.fin rfl rfl k
set_option maxRecDepth 100000 in
set_option maxHeartbeats 4000000 in
theorem oX7_takeNumbers_10021003 : Of (lkp bX7_takeNumbers_10021003) 4 rX7_takeNumbers_10021003 := by
  intro avs es r h
  obtain ⟨r_bytes, r_values, r_filled, r_end, r_at, r_wordStart, r_hasMoon, r_hasSky, r_error, r_errorAt, z, rfl, rfl, hp, rfl⟩ := h
  refine ⟨Nat.le_of_ble_eq_true rfl, ?_⟩
  unfold pX7_takeNumbers_10021003 at hp
  refine Rn.go 2 (pc' := 2) (lv' := [(0, .ref 0), (1, .ref 1002), (2, .ref 1003), (3, .int (0 : Int32))]) (st' := []) (es' := (wX7_Reader r_bytes r_values r_filled r_end r_at r_wordStart r_hasMoon r_hasSky r_error r_errorAt)) (c' := 0) (s' := 0) rfl ?_
  obtain ⟨z2, hz2, hp⟩ := ob_some hp
  rcases z2 with z2e | z2f
  · dsimp only at hp
    refine lrX7_takeNumbers_10021003_2 r_bytes r_filled r_end r_wordStart r_hasMoon r_hasSky _ (0 : Int32) r_values r_at r_error r_errorAt _ hz2 _ _ _ ?_
    refine Rn.go 1 (pc' := 46) (lv' := [(0, .ref 0), (1, .ref 1002), (2, .ref 1003), (3, .int z2e.1)]) (st' := [.ref 0]) (es' := (wX7_Reader r_bytes z2e.2.1 r_filled r_end z2e.2.2.1 r_wordStart r_hasMoon r_hasSky z2e.2.2.2.1 z2e.2.2.2.2)) (c' := 0) (s' := 0) rfl ?_
    obtain ⟨z3, hz3, hp⟩ := ob_some hp
    refine Rn.rel (pc' := 49) (lv' := [(0, .ref 0), (1, .ref 1002), (2, .ref 1003), (3, .int z2e.1)]) (st' := []) (es' := (wX7_Reader r_bytes z2e.2.1 r_filled r_end z3 r_wordStart r_hasMoon r_hasSky z2e.2.2.2.1 z2e.2.2.2.2)) (dc := 0) (ds := 0) rfl ⟨0, [], _, [0, 1, 2], .inl none, (wX7_Reader r_bytes z2e.2.1 r_filled r_end z3 r_wordStart r_hasMoon r_hasSky z2e.2.2.2.1 z2e.2.2.2.2), 0, 0, rfl, rfl, Nat.le_of_ble_eq_true rfl, rfl, ⟨r_bytes, z2e.2.1, r_filled, r_end, z2e.2.2.1, r_wordStart, r_hasMoon, r_hasSky, z2e.2.2.2.1, z2e.2.2.2.2, z3, rfl, rfl, hz3, rfl⟩, rfl⟩ ?_
    refine Rn.go 4 (pc' := 57) (lv' := [(0, .ref 0), (1, .ref 1002), (2, .ref 1003), (3, .int z2e.1)]) (st' := [.int r_end, .int z3]) (es' := (wX7_Reader r_bytes z2e.2.1 r_filled r_end z3 r_wordStart r_hasMoon r_hasSky z2e.2.2.2.1 z2e.2.2.2.2)) (c' := 0) (s' := 0) rfl ?_
    refine Rn.br (P := r_end ≤ z3) (pc1 := 74) (pc2 := 60) rfl rfl (fun h5 => ?_) (fun h5 => ?_)
    · rw [if_pos h5] at hp
      refine Rn.go 4 (pc' := 81) (lv' := [(0, .ref 0), (1, .ref 1002), (2, .ref 1003), (3, .int z2e.1)]) (st' := [.int z3, .int (-2 : Int32), .ref 0]) (es' := (wX7_Reader r_bytes z2e.2.1 r_filled r_end z3 r_wordStart r_hasMoon r_hasSky z2e.2.2.2.1 z2e.2.2.2.2)) (c' := 0) (s' := 0) rfl ?_
      obtain ⟨z4, hz4, hp⟩ := ob_some hp
      refine Rn.rel (pc' := 84) (lv' := [(0, .ref 0), (1, .ref 1002), (2, .ref 1003), (3, .int z2e.1)]) (st' := []) (es' := (wX7_Reader r_bytes z2e.2.1 r_filled r_end z3 r_wordStart r_hasMoon r_hasSky z4.1 z4.2)) (dc := 0) (ds := 0) rfl ⟨0, [.int (-2 : Int32), .int z3], _, [0, 1, 2], .inl none, (wX7_Reader r_bytes z2e.2.1 r_filled r_end z3 r_wordStart r_hasMoon r_hasSky z4.1 z4.2), 0, 0, rfl, rfl, Nat.le_of_ble_eq_true rfl, rfl, ⟨(-2 : Int32), z3, r_bytes, z2e.2.1, r_filled, r_end, z3, r_wordStart, r_hasMoon, r_hasSky, z2e.2.2.2.1, z2e.2.2.2.2, z4, rfl, rfl, hz4, rfl⟩, rfl⟩ ?_
      refine Rn.go 1 (pc' := 85) (lv' := [(0, .ref 0), (1, .ref 1002), (2, .ref 1003), (3, .int z2e.1)]) (st' := [.int (0 : Int32)]) (es' := (wX7_Reader r_bytes z2e.2.1 r_filled r_end z3 r_wordStart r_hasMoon r_hasSky z4.1 z4.2)) (c' := 0) (s' := 0) rfl ?_
      obtain rfl := Option.some.inj hp
      exact Rn.fin rfl rfl rfl
    · rw [if_neg h5] at hp
      refine Rn.go 4 (pc' := 68) (lv' := [(0, .ref 0), (1, .ref 1002), (2, .ref 1003), (3, .int z2e.1)]) (st' := [.int z3, .ref 1]) (es' := (wX7_Reader r_bytes z2e.2.1 r_filled r_end z3 r_wordStart r_hasMoon r_hasSky z2e.2.2.2.1 z2e.2.2.2.2)) (c' := 0) (s' := 0) rfl ?_
      by_cases h6 : (z3 < 0 ∨ 500 ≤ z3.toNatClampNeg)
      · rw [if_pos h6] at hp; cases hp
      · rw [if_neg h6] at hp
        refine Rn.gd (pc' := 69) (lv' := [(0, .ref 0), (1, .ref 1002), (2, .ref 1003), (3, .int z2e.1)]) (st' := [.int (r_bytes z3.toNatClampNeg)]) (es' := (wX7_Reader r_bytes z2e.2.1 r_filled r_end z3 r_wordStart r_hasMoon r_hasSky z2e.2.2.2.1 z2e.2.2.2.2)) rfl rfl h6 ?_
        refine Rn.go 1 (pc' := 71) (lv' := [(0, .ref 0), (1, .ref 1002), (2, .ref 1003), (3, .int z2e.1)]) (st' := [.int (59 : Int32), .int (r_bytes z3.toNatClampNeg)]) (es' := (wX7_Reader r_bytes z2e.2.1 r_filled r_end z3 r_wordStart r_hasMoon r_hasSky z2e.2.2.2.1 z2e.2.2.2.2)) (c' := 0) (s' := 0) rfl ?_
        refine Rn.br (P := (r_bytes z3.toNatClampNeg) = (59 : Int32)) (pc1 := 86) (pc2 := 74) rfl rfl (fun h7 => ?_) (fun h7 => ?_)
        · rw [if_pos h7] at hp
          refine Rn.go 7 (pc' := 97) (lv' := [(0, .ref 0), (1, .ref 1002), (2, .ref 1003), (3, .int z2e.1)]) (st' := [.int (1 : Int32)]) (es' := (wX7_Reader r_bytes z2e.2.1 r_filled r_end (z3 + (1 : Int32)) r_wordStart r_hasMoon r_hasSky z2e.2.2.2.1 z2e.2.2.2.2)) (c' := 0) (s' := 0) rfl ?_
          obtain rfl := Option.some.inj hp
          exact Rn.fin rfl rfl rfl
        · rw [if_neg h7] at hp
          refine Rn.go 4 (pc' := 81) (lv' := [(0, .ref 0), (1, .ref 1002), (2, .ref 1003), (3, .int z2e.1)]) (st' := [.int z3, .int (-2 : Int32), .ref 0]) (es' := (wX7_Reader r_bytes z2e.2.1 r_filled r_end z3 r_wordStart r_hasMoon r_hasSky z2e.2.2.2.1 z2e.2.2.2.2)) (c' := 0) (s' := 0) rfl ?_
          obtain ⟨z5, hz5, hp⟩ := ob_some hp
          refine Rn.rel (pc' := 84) (lv' := [(0, .ref 0), (1, .ref 1002), (2, .ref 1003), (3, .int z2e.1)]) (st' := []) (es' := (wX7_Reader r_bytes z2e.2.1 r_filled r_end z3 r_wordStart r_hasMoon r_hasSky z5.1 z5.2)) (dc := 0) (ds := 0) rfl ⟨0, [.int (-2 : Int32), .int z3], _, [0, 1, 2], .inl none, (wX7_Reader r_bytes z2e.2.1 r_filled r_end z3 r_wordStart r_hasMoon r_hasSky z5.1 z5.2), 0, 0, rfl, rfl, Nat.le_of_ble_eq_true rfl, rfl, ⟨(-2 : Int32), z3, r_bytes, z2e.2.1, r_filled, r_end, z3, r_wordStart, r_hasMoon, r_hasSky, z2e.2.2.2.1, z2e.2.2.2.2, z5, rfl, rfl, hz5, rfl⟩, rfl⟩ ?_
          refine Rn.go 1 (pc' := 85) (lv' := [(0, .ref 0), (1, .ref 1002), (2, .ref 1003), (3, .int z2e.1)]) (st' := [.int (0 : Int32)]) (es' := (wX7_Reader r_bytes z2e.2.1 r_filled r_end z3 r_wordStart r_hasMoon r_hasSky z5.1 z5.2)) (c' := 0) (s' := 0) rfl ?_
          obtain rfl := Option.some.inj hp
          exact Rn.fin rfl rfl rfl
  · obtain rfl := Option.some.inj hp
    exact lrX7_takeNumbers_10021003_2 r_bytes r_filled r_end r_wordStart r_hasMoon r_hasSky _ (0 : Int32) r_values r_at r_error r_errorAt _ hz2 _ _ _ rfl
theorem qX7_takeNumbers_10021003 : CtA yX7_takeNumbers (.code yX7_takeNumbers cX7_takeNumbers 4 (some .boolean)) 3 67 [] rX7_takeNumbers_10021003 := CtA.of (by decide +kernel) (fun pc op h => kX7_takeNumbers_10021003 _ (lkp_mem h)) oX7_takeNumbers_10021003
/-! TelescopeNight$Reader.readPart(LTelescopeNight$Night;)V -/
def pX7_readPart (r_bytes : Nat → Int32) (r_values : Nat → Int32) (r_end : Int32) (r_at : Int32) (r_hasMoon : Int32) (r_hasSky : Int32) (r_error : Int32) (r_errorAt : Int32) (n_targets : Int32) (n_moon : Nat → Int32) (n_percents : Nat → Int32) (n_numbers : Nat → Int32) : Option (Int32 × Int32 × Int32 × Int32 × Int32 × Int32 × (Nat → Int32) × Int32 × (Nat → Int32) × (Nat → Int32) × (Nat → Int32)) :=
  ob (pX7_takeWord r_bytes r_end r_at) (fun z1 =>
  ob (pX7_wordIs_1101 r_bytes z1.1 z1.2) (fun z2 =>
  if z2 = 0 then
    ob (pX7_wordIs_1102 r_bytes z1.1 z1.2) (fun z3 =>
    if z3 = 0 then
      ob (pX7_wordIs_1103 r_bytes z1.1 z1.2) (fun z4 =>
      if z4 = 0 then
        ob (pX7_fail (-2 : Int32) z1.2) (fun z5 =>
        some (z1.1, z1.2, r_hasMoon, r_hasSky, z5.1, z5.2, r_values, n_targets, n_moon, n_percents, n_numbers))
      else
        ob (pX7_readTarget r_bytes r_values r_end z1.1 z1.2 r_error r_errorAt n_targets n_numbers) (fun z6 =>
        some (z6.1, z1.2, r_hasMoon, r_hasSky, z6.2.1, z6.2.2.1, z6.2.2.2.1, z6.2.2.2.2.1, n_moon, n_percents, z6.2.2.2.2.2)))
    else
      if ¬ r_hasSky = 0 then
        ob (pX7_wordIs_1103 r_bytes z1.1 z1.2) (fun z7 =>
        if z7 = 0 then
          ob (pX7_fail (-2 : Int32) z1.2) (fun z8 =>
          some (z1.1, z1.2, r_hasMoon, r_hasSky, z8.1, z8.2, r_values, n_targets, n_moon, n_percents, n_numbers))
        else
          ob (pX7_readTarget r_bytes r_values r_end z1.1 z1.2 r_error r_errorAt n_targets n_numbers) (fun z9 =>
          some (z9.1, z1.2, r_hasMoon, r_hasSky, z9.2.1, z9.2.2.1, z9.2.2.2.1, z9.2.2.2.2.1, n_moon, n_percents, z9.2.2.2.2.2)))
      else
        ob (pX7_takeNumbers_10041005 r_bytes r_values r_end z1.1 r_error r_errorAt) (fun z10 =>
        if z10.1 = 0 then
          some (z10.2.1, z1.2, r_hasMoon, (1 : Int32), z10.2.2.1, z10.2.2.2.1, z10.2.2.2.2, n_targets, n_moon, n_percents, n_numbers)
        else
          some (z10.2.1, z1.2, r_hasMoon, (1 : Int32), z10.2.2.1, z10.2.2.2.1, z10.2.2.2.2, n_targets, n_moon, (va_cpy z10.2.2.2.2 n_percents 0 0 3), n_numbers)))
  else
    if ¬ r_hasMoon = 0 then
      ob (pX7_wordIs_1102 r_bytes z1.1 z1.2) (fun z11 =>
      if z11 = 0 then
        ob (pX7_wordIs_1103 r_bytes z1.1 z1.2) (fun z12 =>
        if z12 = 0 then
          ob (pX7_fail (-2 : Int32) z1.2) (fun z13 =>
          some (z1.1, z1.2, r_hasMoon, r_hasSky, z13.1, z13.2, r_values, n_targets, n_moon, n_percents, n_numbers))
        else
          ob (pX7_readTarget r_bytes r_values r_end z1.1 z1.2 r_error r_errorAt n_targets n_numbers) (fun z14 =>
          some (z14.1, z1.2, r_hasMoon, r_hasSky, z14.2.1, z14.2.2.1, z14.2.2.2.1, z14.2.2.2.2.1, n_moon, n_percents, z14.2.2.2.2.2)))
      else
        if ¬ r_hasSky = 0 then
          ob (pX7_wordIs_1103 r_bytes z1.1 z1.2) (fun z15 =>
          if z15 = 0 then
            ob (pX7_fail (-2 : Int32) z1.2) (fun z16 =>
            some (z1.1, z1.2, r_hasMoon, r_hasSky, z16.1, z16.2, r_values, n_targets, n_moon, n_percents, n_numbers))
          else
            ob (pX7_readTarget r_bytes r_values r_end z1.1 z1.2 r_error r_errorAt n_targets n_numbers) (fun z17 =>
            some (z17.1, z1.2, r_hasMoon, r_hasSky, z17.2.1, z17.2.2.1, z17.2.2.2.1, z17.2.2.2.2.1, n_moon, n_percents, z17.2.2.2.2.2)))
        else
          ob (pX7_takeNumbers_10041005 r_bytes r_values r_end z1.1 r_error r_errorAt) (fun z18 =>
          if z18.1 = 0 then
            some (z18.2.1, z1.2, r_hasMoon, (1 : Int32), z18.2.2.1, z18.2.2.2.1, z18.2.2.2.2, n_targets, n_moon, n_percents, n_numbers)
          else
            some (z18.2.1, z1.2, r_hasMoon, (1 : Int32), z18.2.2.1, z18.2.2.2.1, z18.2.2.2.2, n_targets, n_moon, (va_cpy z18.2.2.2.2 n_percents 0 0 3), n_numbers)))
    else
      ob (pX7_takeNumbers_10021003 r_bytes r_values r_end z1.1 r_error r_errorAt) (fun z19 =>
      if z19.1 = 0 then
        some (z19.2.1, z1.2, (1 : Int32), r_hasSky, z19.2.2.1, z19.2.2.2.1, z19.2.2.2.2, n_targets, n_moon, n_percents, n_numbers)
      else
        some (z19.2.1, z1.2, (1 : Int32), r_hasSky, z19.2.2.1, z19.2.2.2.1, z19.2.2.2.2, n_targets, (va_cpy z19.2.2.2.2 n_moon 0 0 6), n_percents, n_numbers))))
def rX7_readPart : List Value → List va_E → op_O → Prop := fun avs es r => ∃ (r_bytes : Nat → Int32) (r_values : Nat → Int32) (r_filled : Int32) (r_end : Int32) (r_at : Int32) (r_wordStart : Int32) (r_hasMoon : Int32) (r_hasSky : Int32) (r_error : Int32) (r_errorAt : Int32) (n_slots : Int32) (n_targets : Int32) (n_teams : Int32) (n_moon : Nat → Int32) (n_percents : Nat → Int32) (n_numbers : Nat → Int32) (n_seen : Nat → Int32) (n_odds : Nat → Int32) (z : Int32 × Int32 × Int32 × Int32 × Int32 × Int32 × (Nat → Int32) × Int32 × (Nat → Int32) × (Nat → Int32) × (Nat → Int32)), avs = [.ref 0, .ref 3] ∧ es = (wX7_Reader_Night r_bytes r_values r_filled r_end r_at r_wordStart r_hasMoon r_hasSky r_error r_errorAt n_slots n_targets n_teams n_moon n_percents n_numbers n_seen n_odds) ∧ pX7_readPart r_bytes r_values r_end r_at r_hasMoon r_hasSky r_error r_errorAt n_targets n_moon n_percents n_numbers = some z ∧ r = (.inl none, (wX7_Reader_Night r_bytes z.2.2.2.2.2.2.1 r_filled r_end z.1 z.2.1 z.2.2.1 z.2.2.2.1 z.2.2.2.2.1 z.2.2.2.2.2.1 n_slots z.2.2.2.2.2.2.2.1 n_teams z.2.2.2.2.2.2.2.2.1 z.2.2.2.2.2.2.2.2.2.1 z.2.2.2.2.2.2.2.2.2.2 n_seen n_odds), 0, 0)
def bX7_readPart : List (Nat × (op_T ⊕ op_R)) := [(0, .inl (o_aload 1 0)), (1, .inr (o_callV [] [] 4 0 7 rX7_takeWord)), (4, .inl (o_aload 5 0)), (5, .inl (o_gets 7 1101)), (7, .inr (o_callV [] [] 10 1 7 rX7_wordIs_1101)), (10, .inl (o_ifeq 13 56)), (13, .inl (o_aload 14 0)), (14, .inl (o_get 17 7 6)), (17, .inl (o_ifne 20 56)), (20, .inl (o_aload 21 0)), (21, .inl (o_push 22 (.int (1)))), (22, .inl (o_put 25 7 6 .boolean)), (25, .inl (o_aload 26 0)), (26, .inl (o_gets 29 1002)), (29, .inl (o_gets 32 1003)), (32, .inr (o_callV [] [] 35 2 7 rX7_takeNumbers_10021003)), (35, .inl (o_ifeq 38 134)), (38, .inl (o_aload 39 0)), (39, .inl (o_get 42 7 1)), (42, .inl (o_push 43 (.int (0)))), (43, .inl (o_aload 44 1)), (44, .inl (o_get 47 2 3)), (47, .inl (o_push 48 (.int (0)))), (48, .inl (o_push 50 (.int (6)))), (50, .inl (o_copy 53)), (53, .inl (o_goto 134)), (56, .inl (o_aload 57 0)), (57, .inl (o_gets 59 1102)), (59, .inr (o_callV [] [] 62 1 7 rX7_wordIs_1102)), (62, .inl (o_ifeq 65 107)), (65, .inl (o_aload 66 0)), (66, .inl (o_get 69 7 7)), (69, .inl (o_ifne 72 107)), (72, .inl (o_aload 73 0)), (73, .inl (o_push 74 (.int (1)))), (74, .inl (o_put 77 7 7 .boolean)), (77, .inl (o_aload 78 0)), (78, .inl (o_gets 81 1004)), (81, .inl (o_gets 84 1005)), (84, .inr (o_callV [] [] 87 2 7 rX7_takeNumbers_10041005)), (87, .inl (o_ifeq 90 134)), (90, .inl (o_aload 91 0)), (91, .inl (o_get 94 7 1)), (94, .inl (o_push 95 (.int (0)))), (95, .inl (o_aload 96 1)), (96, .inl (o_get 99 2 4)), (99, .inl (o_push 100 (.int (0)))), (100, .inl (o_push 101 (.int (3)))), (101, .inl (o_copy 104)), (104, .inl (o_goto 134)), (107, .inl (o_aload 108 0)), (108, .inl (o_gets 110 1103)), (110, .inr (o_callV [] [] 113 1 7 rX7_wordIs_1103)), (113, .inl (o_ifeq 116 124)), (116, .inl (o_aload 117 0)), (117, .inl (o_aload 118 1)), (118, .inr (o_callV [] [] 121 1 7 rX7_readTarget)), (121, .inl (o_goto 134)), (124, .inl (o_aload 125 0)), (125, .inl (o_push 127 (.int (-2)))), (127, .inl (o_aload 128 0)), (128, .inl (o_get 131 7 5)), (131, .inr (o_callV [] [] 134 2 7 rX7_fail)), (134, .inl (o_vret))]
set_option maxRecDepth 100000 in
set_option maxHeartbeats 4000000 in
theorem kX7_readPart : ∀ q ∈ bX7_readPart, ok2 5 112 2 cX7_readPart yX7_readPart.cls yX7_readPart.name none (.code yX7_readPart cX7_readPart 2 none) [] [] q.1 q.2 := (al_c (s_aload_n (k := 0) (by decide +kernel)) (al_c (s_callV (y := yX7_takeWord) (bytes := cX7_takeWord) (maxL := 1) (ret' := none) (fr' := 1) (lo' := 20) (n := 0) (ml := []) (mlc := []) (ci := 7) (q9 := (RX7, TX7, 10)) qX7_takeWord w_817 w_819 wp_30 w_7 w_820 ⟨by decide +kernel, by decide +kernel, by decide +kernel⟩ rfl rfl (by decide) (by decide) (by decide +kernel)) (al_c (s_aload_n (k := 0) (by decide +kernel)) (al_c (s_ldcS ("TelescopeNight$Reader", 95, "moon", 1101) (by decide +kernel) rfl rfl (by decide +kernel)) (al_c (s_callV (y := yX7_wordIs) (bytes := cX7_wordIs) (maxL := 3) (ret' := (some .boolean)) (fr' := 4) (lo' := 85) (n := 1) (ml := []) (mlc := []) (ci := 7) (q9 := (RX7, TX7, 10)) qX7_wordIs_1101 w_826 w_828 wp_32 w_7 w_829 ⟨by decide +kernel, by decide +kernel, by decide +kernel⟩ rfl rfl (by decide) (by decide) (by decide +kernel)) (al_c (s_ifeq (off := 46) 56 (by decide) (by decide +kernel)) (al_c (s_aload_n (k := 0) (by decide +kernel)) (al_c (s_get (C9 := RX7) (T9 := TX7) (N9 := 10) (ci := 7) (k := 6) iX7 rfl (by decide) w_222 (by decide +kernel)) (al_c (s_ifne (off := 39) 56 (by decide) (by decide +kernel)) (al_c (s_aload_n (k := 0) (by decide +kernel)) (al_c (s_iconst (n := 1) (1) (by decide) (by decide +kernel)) (al_c (s_put (C9 := RX7) (T9 := TX7) (N9 := 10) (ci := 7) (k := 6) iX7 rfl (by decide) w_222 tyX7 tyX7_ok nmX7 rfl (by decide +kernel)) (al_c (s_aload_n (k := 0) (by decide +kernel)) (al_c (s_gets ("MOON_LOW", 1002, [(0), (0), (-10), (0), (0), (0)]) (by decide) w_911 (by decide +kernel)) (al_c (s_gets ("MOON_HIGH", 1003, [(90), (30), (25), (359), (359), (100)]) (by decide) w_913 (by decide +kernel)) (al_c (s_callV (y := yX7_takeNumbers) (bytes := cX7_takeNumbers) (maxL := 4) (ret' := (some .boolean)) (fr' := 3) (lo' := 67) (n := 2) (ml := []) (mlc := []) (ci := 7) (q9 := (RX7, TX7, 10)) qX7_takeNumbers_10021003 w_886 w_888 wp_34 w_7 w_889 ⟨by decide +kernel, by decide +kernel, by decide +kernel⟩ rfl rfl (by decide) (by decide) (by decide +kernel)) (al_c (s_ifeq (off := 99) 134 (by decide) (by decide +kernel)) (al_c (s_aload_n (k := 0) (by decide +kernel)) (al_c (s_get (C9 := RX7) (T9 := TX7) (N9 := 10) (ci := 7) (k := 1) iX7 rfl (by decide) w_216 (by decide +kernel)) (al_c (s_iconst (n := 0) (0) (by decide) (by decide +kernel)) (al_c (s_aload_n (k := 1) (by decide +kernel)) (al_c (s_get (C9 := RX2) (T9 := TX2) (N9 := 8) (ci := 2) (k := 3) iX2 rfl (by decide) w_96 (by decide +kernel)) (al_c (s_iconst (n := 0) (0) (by decide) (by decide +kernel)) (al_c (s_bipush (n := 6) (6) (by decide) (by decide +kernel)) (al_c (s_copy w_915 w_427 w_426 w_22 (by decide) (by decide +kernel) (by decide +kernel)) (al_c (s_goto (off := 81) 134 (by decide) (by decide +kernel)) (al_c (s_aload_n (k := 0) (by decide +kernel)) (al_c (s_ldcS ("TelescopeNight$Reader", 111, "sky", 1102) (by decide +kernel) rfl rfl (by decide +kernel)) (al_c (s_callV (y := yX7_wordIs) (bytes := cX7_wordIs) (maxL := 3) (ret' := (some .boolean)) (fr' := 4) (lo' := 85) (n := 1) (ml := []) (mlc := []) (ci := 7) (q9 := (RX7, TX7, 10)) qX7_wordIs_1102 w_826 w_828 wp_32 w_7 w_829 ⟨by decide +kernel, by decide +kernel, by decide +kernel⟩ rfl rfl (by decide) (by decide) (by decide +kernel)) (al_c (s_ifeq (off := 45) 107 (by decide) (by decide +kernel)) (al_c (s_aload_n (k := 0) (by decide +kernel)) (al_c (s_get (C9 := RX7) (T9 := TX7) (N9 := 10) (ci := 7) (k := 7) iX7 rfl (by decide) w_223 (by decide +kernel)) (al_c (s_ifne (off := 38) 107 (by decide) (by decide +kernel)) (al_c (s_aload_n (k := 0) (by decide +kernel)) (al_c (s_iconst (n := 1) (1) (by decide) (by decide +kernel)) (al_c (s_put (C9 := RX7) (T9 := TX7) (N9 := 10) (ci := 7) (k := 7) iX7 rfl (by decide) w_223 tyX7 tyX7_ok nmX7 rfl (by decide +kernel)) (al_c (s_aload_n (k := 0) (by decide +kernel)) (al_c (s_gets ("SKY_LOW", 1004, [(0), (0), (0)]) (by decide) w_917 (by decide +kernel)) (al_c (s_gets ("SKY_HIGH", 1005, [(100), (100), (100)]) (by decide) w_919 (by decide +kernel)) (al_c (s_callV (y := yX7_takeNumbers) (bytes := cX7_takeNumbers) (maxL := 4) (ret' := (some .boolean)) (fr' := 3) (lo' := 67) (n := 2) (ml := []) (mlc := []) (ci := 7) (q9 := (RX7, TX7, 10)) qX7_takeNumbers_10041005 w_886 w_888 wp_34 w_7 w_889 ⟨by decide +kernel, by decide +kernel, by decide +kernel⟩ rfl rfl (by decide) (by decide) (by decide +kernel)) (al_c (s_ifeq (off := 47) 134 (by decide) (by decide +kernel)) (al_c (s_aload_n (k := 0) (by decide +kernel)) (al_c (s_get (C9 := RX7) (T9 := TX7) (N9 := 10) (ci := 7) (k := 1) iX7 rfl (by decide) w_216 (by decide +kernel)) (al_c (s_iconst (n := 0) (0) (by decide) (by decide +kernel)) (al_c (s_aload_n (k := 1) (by decide +kernel)) (al_c (s_get (C9 := RX2) (T9 := TX2) (N9 := 8) (ci := 2) (k := 4) iX2 rfl (by decide) w_99 (by decide +kernel)) (al_c (s_iconst (n := 0) (0) (by decide) (by decide +kernel)) (al_c (s_iconst (n := 3) (3) (by decide) (by decide +kernel)) (al_c (s_copy w_915 w_427 w_426 w_22 (by decide) (by decide +kernel) (by decide +kernel)) (al_c (s_goto (off := 30) 134 (by decide) (by decide +kernel)) (al_c (s_aload_n (k := 0) (by decide +kernel)) (al_c (s_ldcS ("TelescopeNight$Reader", 122, "target", 1103) (by decide +kernel) rfl rfl (by decide +kernel)) (al_c (s_callV (y := yX7_wordIs) (bytes := cX7_wordIs) (maxL := 3) (ret' := (some .boolean)) (fr' := 4) (lo' := 85) (n := 1) (ml := []) (mlc := []) (ci := 7) (q9 := (RX7, TX7, 10)) qX7_wordIs_1103 w_826 w_828 wp_32 w_7 w_829 ⟨by decide +kernel, by decide +kernel, by decide +kernel⟩ rfl rfl (by decide) (by decide) (by decide +kernel)) (al_c (s_ifeq (off := 11) 124 (by decide) (by decide +kernel)) (al_c (s_aload_n (k := 0) (by decide +kernel)) (al_c (s_aload_n (k := 1) (by decide +kernel)) (al_c (s_callV (y := yX7_readTarget) (bytes := cX7_readTarget) (maxL := 3) (ret' := none) (fr' := 4) (lo' := 90) (n := 1) (ml := []) (mlc := []) (ci := 7) (q9 := (RX7, TX7, 10)) qX7_readTarget w_922 w_924 wp_39 w_7 w_925 ⟨by decide +kernel, by decide +kernel, by decide +kernel⟩ rfl rfl (by decide) (by decide) (by decide +kernel)) (al_c (s_goto (off := 13) 134 (by decide) (by decide +kernel)) (al_c (s_aload_n (k := 0) (by decide +kernel)) (al_c (s_bipush (n := -2) (-2) (by decide) (by decide +kernel)) (al_c (s_aload_n (k := 0) (by decide +kernel)) (al_c (s_get (C9 := RX7) (T9 := TX7) (N9 := 10) (ci := 7) (k := 5) iX7 rfl (by decide) w_221 (by decide +kernel)) (al_c (s_callV (y := yX7_fail) (bytes := cX7_fail) (maxL := 3) (ret' := none) (fr' := 0) (lo' := 0) (n := 2) (ml := []) (mlc := []) (ci := 7) (q9 := (RX7, TX7, 10)) qX7_fail w_878 w_880 wp_33 w_7 w_881 ⟨by decide +kernel, by decide +kernel, by decide +kernel⟩ rfl rfl (by decide) (by decide) (by decide +kernel)) (al_c (s_vret rfl (by decide +kernel)) al_n))))))))))))))))))))))))))))))))))))))))))))))))))))))))))))))))
set_option maxRecDepth 100000 in
set_option maxHeartbeats 4000000 in
theorem oX7_readPart : Of (lkp bX7_readPart) 2 rX7_readPart := by
  intro avs es r h
  obtain ⟨r_bytes, r_values, r_filled, r_end, r_at, r_wordStart, r_hasMoon, r_hasSky, r_error, r_errorAt, n_slots, n_targets, n_teams, n_moon, n_percents, n_numbers, n_seen, n_odds, z, rfl, rfl, hp, rfl⟩ := h
  refine ⟨Nat.le_of_ble_eq_true rfl, ?_⟩
  unfold pX7_readPart at hp
  refine Rn.go 1 (pc' := 1) (lv' := [(0, .ref 0), (1, .ref 3)]) (st' := [.ref 0]) (es' := (wX7_Reader_Night r_bytes r_values r_filled r_end r_at r_wordStart r_hasMoon r_hasSky r_error r_errorAt n_slots n_targets n_teams n_moon n_percents n_numbers n_seen n_odds)) (c' := 0) (s' := 0) rfl ?_
  obtain ⟨z1, hz1, hp⟩ := ob_some hp
  refine Rn.rel (pc' := 4) (lv' := [(0, .ref 0), (1, .ref 3)]) (st' := []) (es' := (wX7_Reader_Night r_bytes r_values r_filled r_end z1.1 z1.2 r_hasMoon r_hasSky r_error r_errorAt n_slots n_targets n_teams n_moon n_percents n_numbers n_seen n_odds)) (dc := 0) (ds := 0) rfl ⟨0, [], _, [0, 1, 2], .inl none, (wX7_Reader r_bytes r_values r_filled r_end z1.1 z1.2 r_hasMoon r_hasSky r_error r_errorAt), 0, 0, rfl, rfl, Nat.le_of_ble_eq_true rfl, rfl, ⟨r_bytes, r_values, r_filled, r_end, r_at, r_wordStart, r_hasMoon, r_hasSky, r_error, r_errorAt, z1, rfl, rfl, hz1, rfl⟩, rfl⟩ ?_
  refine Rn.go 2 (pc' := 7) (lv' := [(0, .ref 0), (1, .ref 3)]) (st' := [.ref 1101, .ref 0]) (es' := (wX7_Reader_Night r_bytes r_values r_filled r_end z1.1 z1.2 r_hasMoon r_hasSky r_error r_errorAt n_slots n_targets n_teams n_moon n_percents n_numbers n_seen n_odds)) (c' := 0) (s' := 0) rfl ?_
  obtain ⟨z2, hz2, hp⟩ := ob_some hp
  refine Rn.rel (pc' := 10) (lv' := [(0, .ref 0), (1, .ref 3)]) (st' := [.int z2]) (es' := (wX7_Reader_Night r_bytes r_values r_filled r_end z1.1 z1.2 r_hasMoon r_hasSky r_error r_errorAt n_slots n_targets n_teams n_moon n_percents n_numbers n_seen n_odds)) (dc := 0) (ds := 0) rfl ⟨0, [.ref 1101], _, [0, 1, 2], .inl (some (.int z2)), (wX7_Reader r_bytes r_values r_filled r_end z1.1 z1.2 r_hasMoon r_hasSky r_error r_errorAt), 0, 0, rfl, rfl, Nat.le_of_ble_eq_true rfl, rfl, ⟨r_bytes, r_values, r_filled, r_end, z1.1, z1.2, r_hasMoon, r_hasSky, r_error, r_errorAt, z2, rfl, rfl, hz2, rfl⟩, rfl⟩ ?_
  refine Rn.br (P := z2 = 0) (pc1 := 56) (pc2 := 13) rfl rfl (fun h1 => ?_) (fun h1 => ?_)
  · rw [if_pos h1] at hp
    refine Rn.go 2 (pc' := 59) (lv' := [(0, .ref 0), (1, .ref 3)]) (st' := [.ref 1102, .ref 0]) (es' := (wX7_Reader_Night r_bytes r_values r_filled r_end z1.1 z1.2 r_hasMoon r_hasSky r_error r_errorAt n_slots n_targets n_teams n_moon n_percents n_numbers n_seen n_odds)) (c' := 0) (s' := 0) rfl ?_
    obtain ⟨z3, hz3, hp⟩ := ob_some hp
    refine Rn.rel (pc' := 62) (lv' := [(0, .ref 0), (1, .ref 3)]) (st' := [.int z3]) (es' := (wX7_Reader_Night r_bytes r_values r_filled r_end z1.1 z1.2 r_hasMoon r_hasSky r_error r_errorAt n_slots n_targets n_teams n_moon n_percents n_numbers n_seen n_odds)) (dc := 0) (ds := 0) rfl ⟨0, [.ref 1102], _, [0, 1, 2], .inl (some (.int z3)), (wX7_Reader r_bytes r_values r_filled r_end z1.1 z1.2 r_hasMoon r_hasSky r_error r_errorAt), 0, 0, rfl, rfl, Nat.le_of_ble_eq_true rfl, rfl, ⟨r_bytes, r_values, r_filled, r_end, z1.1, z1.2, r_hasMoon, r_hasSky, r_error, r_errorAt, z3, rfl, rfl, hz3, rfl⟩, rfl⟩ ?_
    refine Rn.br (P := z3 = 0) (pc1 := 107) (pc2 := 65) rfl rfl (fun h2 => ?_) (fun h2 => ?_)
    · rw [if_pos h2] at hp
      refine Rn.go 2 (pc' := 110) (lv' := [(0, .ref 0), (1, .ref 3)]) (st' := [.ref 1103, .ref 0]) (es' := (wX7_Reader_Night r_bytes r_values r_filled r_end z1.1 z1.2 r_hasMoon r_hasSky r_error r_errorAt n_slots n_targets n_teams n_moon n_percents n_numbers n_seen n_odds)) (c' := 0) (s' := 0) rfl ?_
      obtain ⟨z4, hz4, hp⟩ := ob_some hp
      refine Rn.rel (pc' := 113) (lv' := [(0, .ref 0), (1, .ref 3)]) (st' := [.int z4]) (es' := (wX7_Reader_Night r_bytes r_values r_filled r_end z1.1 z1.2 r_hasMoon r_hasSky r_error r_errorAt n_slots n_targets n_teams n_moon n_percents n_numbers n_seen n_odds)) (dc := 0) (ds := 0) rfl ⟨0, [.ref 1103], _, [0, 1, 2], .inl (some (.int z4)), (wX7_Reader r_bytes r_values r_filled r_end z1.1 z1.2 r_hasMoon r_hasSky r_error r_errorAt), 0, 0, rfl, rfl, Nat.le_of_ble_eq_true rfl, rfl, ⟨r_bytes, r_values, r_filled, r_end, z1.1, z1.2, r_hasMoon, r_hasSky, r_error, r_errorAt, z4, rfl, rfl, hz4, rfl⟩, rfl⟩ ?_
      refine Rn.br (P := z4 = 0) (pc1 := 124) (pc2 := 116) rfl rfl (fun h3 => ?_) (fun h3 => ?_)
      · rw [if_pos h3] at hp
        refine Rn.go 4 (pc' := 131) (lv' := [(0, .ref 0), (1, .ref 3)]) (st' := [.int z1.2, .int (-2 : Int32), .ref 0]) (es' := (wX7_Reader_Night r_bytes r_values r_filled r_end z1.1 z1.2 r_hasMoon r_hasSky r_error r_errorAt n_slots n_targets n_teams n_moon n_percents n_numbers n_seen n_odds)) (c' := 0) (s' := 0) rfl ?_
        obtain ⟨z5, hz5, hp⟩ := ob_some hp
        refine Rn.rel (pc' := 134) (lv' := [(0, .ref 0), (1, .ref 3)]) (st' := []) (es' := (wX7_Reader_Night r_bytes r_values r_filled r_end z1.1 z1.2 r_hasMoon r_hasSky z5.1 z5.2 n_slots n_targets n_teams n_moon n_percents n_numbers n_seen n_odds)) (dc := 0) (ds := 0) rfl ⟨0, [.int (-2 : Int32), .int z1.2], _, [0, 1, 2], .inl none, (wX7_Reader r_bytes r_values r_filled r_end z1.1 z1.2 r_hasMoon r_hasSky z5.1 z5.2), 0, 0, rfl, rfl, Nat.le_of_ble_eq_true rfl, rfl, ⟨(-2 : Int32), z1.2, r_bytes, r_values, r_filled, r_end, z1.1, z1.2, r_hasMoon, r_hasSky, r_error, r_errorAt, z5, rfl, rfl, hz5, rfl⟩, rfl⟩ ?_
        obtain rfl := Option.some.inj hp
        exact Rn.fin rfl rfl rfl
      · rw [if_neg h3] at hp
        refine Rn.go 2 (pc' := 118) (lv' := [(0, .ref 0), (1, .ref 3)]) (st' := [.ref 3, .ref 0]) (es' := (wX7_Reader_Night r_bytes r_values r_filled r_end z1.1 z1.2 r_hasMoon r_hasSky r_error r_errorAt n_slots n_targets n_teams n_moon n_percents n_numbers n_seen n_odds)) (c' := 0) (s' := 0) rfl ?_
        obtain ⟨z6, hz6, hp⟩ := ob_some hp
        refine Rn.rel (pc' := 121) (lv' := [(0, .ref 0), (1, .ref 3)]) (st' := []) (es' := (wX7_Reader_Night r_bytes z6.2.2.2.1 r_filled r_end z6.1 z1.2 r_hasMoon r_hasSky z6.2.1 z6.2.2.1 n_slots z6.2.2.2.2.1 n_teams n_moon n_percents z6.2.2.2.2.2 n_seen n_odds)) (dc := 0) (ds := 0) rfl ⟨0, [.ref 3], _, [0, 1, 2, 3, 4, 5, 6, 7, 8], .inl none, (wX7_Reader_Night r_bytes z6.2.2.2.1 r_filled r_end z6.1 z1.2 r_hasMoon r_hasSky z6.2.1 z6.2.2.1 n_slots z6.2.2.2.2.1 n_teams n_moon n_percents z6.2.2.2.2.2 n_seen n_odds), 0, 0, rfl, rfl, Nat.le_of_ble_eq_true rfl, rfl, ⟨r_bytes, r_values, r_filled, r_end, z1.1, z1.2, r_hasMoon, r_hasSky, r_error, r_errorAt, n_slots, n_targets, n_teams, n_moon, n_percents, n_numbers, n_seen, n_odds, z6, rfl, rfl, hz6, rfl⟩, rfl⟩ ?_
        refine Rn.go 1 (pc' := 134) (lv' := [(0, .ref 0), (1, .ref 3)]) (st' := []) (es' := (wX7_Reader_Night r_bytes z6.2.2.2.1 r_filled r_end z6.1 z1.2 r_hasMoon r_hasSky z6.2.1 z6.2.2.1 n_slots z6.2.2.2.2.1 n_teams n_moon n_percents z6.2.2.2.2.2 n_seen n_odds)) (c' := 0) (s' := 0) rfl ?_
        obtain rfl := Option.some.inj hp
        exact Rn.fin rfl rfl rfl
    · rw [if_neg h2] at hp
      refine Rn.go 2 (pc' := 69) (lv' := [(0, .ref 0), (1, .ref 3)]) (st' := [.int r_hasSky]) (es' := (wX7_Reader_Night r_bytes r_values r_filled r_end z1.1 z1.2 r_hasMoon r_hasSky r_error r_errorAt n_slots n_targets n_teams n_moon n_percents n_numbers n_seen n_odds)) (c' := 0) (s' := 0) rfl ?_
      refine Rn.br (P := ¬ r_hasSky = 0) (pc1 := 107) (pc2 := 72) rfl rfl (fun h4 => ?_) (fun h4 => ?_)
      · rw [if_pos h4] at hp
        refine Rn.go 2 (pc' := 110) (lv' := [(0, .ref 0), (1, .ref 3)]) (st' := [.ref 1103, .ref 0]) (es' := (wX7_Reader_Night r_bytes r_values r_filled r_end z1.1 z1.2 r_hasMoon r_hasSky r_error r_errorAt n_slots n_targets n_teams n_moon n_percents n_numbers n_seen n_odds)) (c' := 0) (s' := 0) rfl ?_
        obtain ⟨z7, hz7, hp⟩ := ob_some hp
        refine Rn.rel (pc' := 113) (lv' := [(0, .ref 0), (1, .ref 3)]) (st' := [.int z7]) (es' := (wX7_Reader_Night r_bytes r_values r_filled r_end z1.1 z1.2 r_hasMoon r_hasSky r_error r_errorAt n_slots n_targets n_teams n_moon n_percents n_numbers n_seen n_odds)) (dc := 0) (ds := 0) rfl ⟨0, [.ref 1103], _, [0, 1, 2], .inl (some (.int z7)), (wX7_Reader r_bytes r_values r_filled r_end z1.1 z1.2 r_hasMoon r_hasSky r_error r_errorAt), 0, 0, rfl, rfl, Nat.le_of_ble_eq_true rfl, rfl, ⟨r_bytes, r_values, r_filled, r_end, z1.1, z1.2, r_hasMoon, r_hasSky, r_error, r_errorAt, z7, rfl, rfl, hz7, rfl⟩, rfl⟩ ?_
        refine Rn.br (P := z7 = 0) (pc1 := 124) (pc2 := 116) rfl rfl (fun h5 => ?_) (fun h5 => ?_)
        · rw [if_pos h5] at hp
          refine Rn.go 4 (pc' := 131) (lv' := [(0, .ref 0), (1, .ref 3)]) (st' := [.int z1.2, .int (-2 : Int32), .ref 0]) (es' := (wX7_Reader_Night r_bytes r_values r_filled r_end z1.1 z1.2 r_hasMoon r_hasSky r_error r_errorAt n_slots n_targets n_teams n_moon n_percents n_numbers n_seen n_odds)) (c' := 0) (s' := 0) rfl ?_
          obtain ⟨z8, hz8, hp⟩ := ob_some hp
          refine Rn.rel (pc' := 134) (lv' := [(0, .ref 0), (1, .ref 3)]) (st' := []) (es' := (wX7_Reader_Night r_bytes r_values r_filled r_end z1.1 z1.2 r_hasMoon r_hasSky z8.1 z8.2 n_slots n_targets n_teams n_moon n_percents n_numbers n_seen n_odds)) (dc := 0) (ds := 0) rfl ⟨0, [.int (-2 : Int32), .int z1.2], _, [0, 1, 2], .inl none, (wX7_Reader r_bytes r_values r_filled r_end z1.1 z1.2 r_hasMoon r_hasSky z8.1 z8.2), 0, 0, rfl, rfl, Nat.le_of_ble_eq_true rfl, rfl, ⟨(-2 : Int32), z1.2, r_bytes, r_values, r_filled, r_end, z1.1, z1.2, r_hasMoon, r_hasSky, r_error, r_errorAt, z8, rfl, rfl, hz8, rfl⟩, rfl⟩ ?_
          obtain rfl := Option.some.inj hp
          exact Rn.fin rfl rfl rfl
        · rw [if_neg h5] at hp
          refine Rn.go 2 (pc' := 118) (lv' := [(0, .ref 0), (1, .ref 3)]) (st' := [.ref 3, .ref 0]) (es' := (wX7_Reader_Night r_bytes r_values r_filled r_end z1.1 z1.2 r_hasMoon r_hasSky r_error r_errorAt n_slots n_targets n_teams n_moon n_percents n_numbers n_seen n_odds)) (c' := 0) (s' := 0) rfl ?_
          obtain ⟨z9, hz9, hp⟩ := ob_some hp
          refine Rn.rel (pc' := 121) (lv' := [(0, .ref 0), (1, .ref 3)]) (st' := []) (es' := (wX7_Reader_Night r_bytes z9.2.2.2.1 r_filled r_end z9.1 z1.2 r_hasMoon r_hasSky z9.2.1 z9.2.2.1 n_slots z9.2.2.2.2.1 n_teams n_moon n_percents z9.2.2.2.2.2 n_seen n_odds)) (dc := 0) (ds := 0) rfl ⟨0, [.ref 3], _, [0, 1, 2, 3, 4, 5, 6, 7, 8], .inl none, (wX7_Reader_Night r_bytes z9.2.2.2.1 r_filled r_end z9.1 z1.2 r_hasMoon r_hasSky z9.2.1 z9.2.2.1 n_slots z9.2.2.2.2.1 n_teams n_moon n_percents z9.2.2.2.2.2 n_seen n_odds), 0, 0, rfl, rfl, Nat.le_of_ble_eq_true rfl, rfl, ⟨r_bytes, r_values, r_filled, r_end, z1.1, z1.2, r_hasMoon, r_hasSky, r_error, r_errorAt, n_slots, n_targets, n_teams, n_moon, n_percents, n_numbers, n_seen, n_odds, z9, rfl, rfl, hz9, rfl⟩, rfl⟩ ?_
          refine Rn.go 1 (pc' := 134) (lv' := [(0, .ref 0), (1, .ref 3)]) (st' := []) (es' := (wX7_Reader_Night r_bytes z9.2.2.2.1 r_filled r_end z9.1 z1.2 r_hasMoon r_hasSky z9.2.1 z9.2.2.1 n_slots z9.2.2.2.2.1 n_teams n_moon n_percents z9.2.2.2.2.2 n_seen n_odds)) (c' := 0) (s' := 0) rfl ?_
          obtain rfl := Option.some.inj hp
          exact Rn.fin rfl rfl rfl
      · rw [if_neg h4] at hp
        refine Rn.go 6 (pc' := 84) (lv' := [(0, .ref 0), (1, .ref 3)]) (st' := [.ref 1005, .ref 1004, .ref 0]) (es' := (wX7_Reader_Night r_bytes r_values r_filled r_end z1.1 z1.2 r_hasMoon (1 : Int32) r_error r_errorAt n_slots n_targets n_teams n_moon n_percents n_numbers n_seen n_odds)) (c' := 0) (s' := 0) rfl ?_
        obtain ⟨z10, hz10, hp⟩ := ob_some hp
        refine Rn.rel (pc' := 87) (lv' := [(0, .ref 0), (1, .ref 3)]) (st' := [.int z10.1]) (es' := (wX7_Reader_Night r_bytes z10.2.2.2.2 r_filled r_end z10.2.1 z1.2 r_hasMoon (1 : Int32) z10.2.2.1 z10.2.2.2.1 n_slots n_targets n_teams n_moon n_percents n_numbers n_seen n_odds)) (dc := 0) (ds := 0) rfl ⟨0, [.ref 1004, .ref 1005], _, [0, 1, 2], .inl (some (.int z10.1)), (wX7_Reader r_bytes z10.2.2.2.2 r_filled r_end z10.2.1 z1.2 r_hasMoon (1 : Int32) z10.2.2.1 z10.2.2.2.1), 0, 0, rfl, rfl, Nat.le_of_ble_eq_true rfl, rfl, ⟨r_bytes, r_values, r_filled, r_end, z1.1, z1.2, r_hasMoon, (1 : Int32), r_error, r_errorAt, z10, rfl, rfl, hz10, rfl⟩, rfl⟩ ?_
        refine Rn.br (P := z10.1 = 0) (pc1 := 134) (pc2 := 90) rfl rfl (fun h6 => ?_) (fun h6 => ?_)
        · rw [if_pos h6] at hp
          obtain rfl := Option.some.inj hp
          exact Rn.fin rfl rfl rfl
        · rw [if_neg h6] at hp
          refine Rn.go 8 (pc' := 104) (lv' := [(0, .ref 0), (1, .ref 3)]) (st' := []) (es' := (wX7_Reader_Night r_bytes z10.2.2.2.2 r_filled r_end z10.2.1 z1.2 r_hasMoon (1 : Int32) z10.2.2.1 z10.2.2.2.1 n_slots n_targets n_teams n_moon (va_cpy z10.2.2.2.2 n_percents 0 0 3) n_numbers n_seen n_odds)) (c' := 0) (s' := 0) rfl ?_
          refine Rn.go 1 (pc' := 134) (lv' := [(0, .ref 0), (1, .ref 3)]) (st' := []) (es' := (wX7_Reader_Night r_bytes z10.2.2.2.2 r_filled r_end z10.2.1 z1.2 r_hasMoon (1 : Int32) z10.2.2.1 z10.2.2.2.1 n_slots n_targets n_teams n_moon (va_cpy z10.2.2.2.2 n_percents 0 0 3) n_numbers n_seen n_odds)) (c' := 0) (s' := 0) rfl ?_
          obtain rfl := Option.some.inj hp
          exact Rn.fin rfl rfl rfl
  · rw [if_neg h1] at hp
    refine Rn.go 2 (pc' := 17) (lv' := [(0, .ref 0), (1, .ref 3)]) (st' := [.int r_hasMoon]) (es' := (wX7_Reader_Night r_bytes r_values r_filled r_end z1.1 z1.2 r_hasMoon r_hasSky r_error r_errorAt n_slots n_targets n_teams n_moon n_percents n_numbers n_seen n_odds)) (c' := 0) (s' := 0) rfl ?_
    refine Rn.br (P := ¬ r_hasMoon = 0) (pc1 := 56) (pc2 := 20) rfl rfl (fun h7 => ?_) (fun h7 => ?_)
    · rw [if_pos h7] at hp
      refine Rn.go 2 (pc' := 59) (lv' := [(0, .ref 0), (1, .ref 3)]) (st' := [.ref 1102, .ref 0]) (es' := (wX7_Reader_Night r_bytes r_values r_filled r_end z1.1 z1.2 r_hasMoon r_hasSky r_error r_errorAt n_slots n_targets n_teams n_moon n_percents n_numbers n_seen n_odds)) (c' := 0) (s' := 0) rfl ?_
      obtain ⟨z11, hz11, hp⟩ := ob_some hp
      refine Rn.rel (pc' := 62) (lv' := [(0, .ref 0), (1, .ref 3)]) (st' := [.int z11]) (es' := (wX7_Reader_Night r_bytes r_values r_filled r_end z1.1 z1.2 r_hasMoon r_hasSky r_error r_errorAt n_slots n_targets n_teams n_moon n_percents n_numbers n_seen n_odds)) (dc := 0) (ds := 0) rfl ⟨0, [.ref 1102], _, [0, 1, 2], .inl (some (.int z11)), (wX7_Reader r_bytes r_values r_filled r_end z1.1 z1.2 r_hasMoon r_hasSky r_error r_errorAt), 0, 0, rfl, rfl, Nat.le_of_ble_eq_true rfl, rfl, ⟨r_bytes, r_values, r_filled, r_end, z1.1, z1.2, r_hasMoon, r_hasSky, r_error, r_errorAt, z11, rfl, rfl, hz11, rfl⟩, rfl⟩ ?_
      refine Rn.br (P := z11 = 0) (pc1 := 107) (pc2 := 65) rfl rfl (fun h8 => ?_) (fun h8 => ?_)
      · rw [if_pos h8] at hp
        refine Rn.go 2 (pc' := 110) (lv' := [(0, .ref 0), (1, .ref 3)]) (st' := [.ref 1103, .ref 0]) (es' := (wX7_Reader_Night r_bytes r_values r_filled r_end z1.1 z1.2 r_hasMoon r_hasSky r_error r_errorAt n_slots n_targets n_teams n_moon n_percents n_numbers n_seen n_odds)) (c' := 0) (s' := 0) rfl ?_
        obtain ⟨z12, hz12, hp⟩ := ob_some hp
        refine Rn.rel (pc' := 113) (lv' := [(0, .ref 0), (1, .ref 3)]) (st' := [.int z12]) (es' := (wX7_Reader_Night r_bytes r_values r_filled r_end z1.1 z1.2 r_hasMoon r_hasSky r_error r_errorAt n_slots n_targets n_teams n_moon n_percents n_numbers n_seen n_odds)) (dc := 0) (ds := 0) rfl ⟨0, [.ref 1103], _, [0, 1, 2], .inl (some (.int z12)), (wX7_Reader r_bytes r_values r_filled r_end z1.1 z1.2 r_hasMoon r_hasSky r_error r_errorAt), 0, 0, rfl, rfl, Nat.le_of_ble_eq_true rfl, rfl, ⟨r_bytes, r_values, r_filled, r_end, z1.1, z1.2, r_hasMoon, r_hasSky, r_error, r_errorAt, z12, rfl, rfl, hz12, rfl⟩, rfl⟩ ?_
        refine Rn.br (P := z12 = 0) (pc1 := 124) (pc2 := 116) rfl rfl (fun h9 => ?_) (fun h9 => ?_)
        · rw [if_pos h9] at hp
          refine Rn.go 4 (pc' := 131) (lv' := [(0, .ref 0), (1, .ref 3)]) (st' := [.int z1.2, .int (-2 : Int32), .ref 0]) (es' := (wX7_Reader_Night r_bytes r_values r_filled r_end z1.1 z1.2 r_hasMoon r_hasSky r_error r_errorAt n_slots n_targets n_teams n_moon n_percents n_numbers n_seen n_odds)) (c' := 0) (s' := 0) rfl ?_
          obtain ⟨z13, hz13, hp⟩ := ob_some hp
          refine Rn.rel (pc' := 134) (lv' := [(0, .ref 0), (1, .ref 3)]) (st' := []) (es' := (wX7_Reader_Night r_bytes r_values r_filled r_end z1.1 z1.2 r_hasMoon r_hasSky z13.1 z13.2 n_slots n_targets n_teams n_moon n_percents n_numbers n_seen n_odds)) (dc := 0) (ds := 0) rfl ⟨0, [.int (-2 : Int32), .int z1.2], _, [0, 1, 2], .inl none, (wX7_Reader r_bytes r_values r_filled r_end z1.1 z1.2 r_hasMoon r_hasSky z13.1 z13.2), 0, 0, rfl, rfl, Nat.le_of_ble_eq_true rfl, rfl, ⟨(-2 : Int32), z1.2, r_bytes, r_values, r_filled, r_end, z1.1, z1.2, r_hasMoon, r_hasSky, r_error, r_errorAt, z13, rfl, rfl, hz13, rfl⟩, rfl⟩ ?_
          obtain rfl := Option.some.inj hp
          exact Rn.fin rfl rfl rfl
        · rw [if_neg h9] at hp
          refine Rn.go 2 (pc' := 118) (lv' := [(0, .ref 0), (1, .ref 3)]) (st' := [.ref 3, .ref 0]) (es' := (wX7_Reader_Night r_bytes r_values r_filled r_end z1.1 z1.2 r_hasMoon r_hasSky r_error r_errorAt n_slots n_targets n_teams n_moon n_percents n_numbers n_seen n_odds)) (c' := 0) (s' := 0) rfl ?_
          obtain ⟨z14, hz14, hp⟩ := ob_some hp
          refine Rn.rel (pc' := 121) (lv' := [(0, .ref 0), (1, .ref 3)]) (st' := []) (es' := (wX7_Reader_Night r_bytes z14.2.2.2.1 r_filled r_end z14.1 z1.2 r_hasMoon r_hasSky z14.2.1 z14.2.2.1 n_slots z14.2.2.2.2.1 n_teams n_moon n_percents z14.2.2.2.2.2 n_seen n_odds)) (dc := 0) (ds := 0) rfl ⟨0, [.ref 3], _, [0, 1, 2, 3, 4, 5, 6, 7, 8], .inl none, (wX7_Reader_Night r_bytes z14.2.2.2.1 r_filled r_end z14.1 z1.2 r_hasMoon r_hasSky z14.2.1 z14.2.2.1 n_slots z14.2.2.2.2.1 n_teams n_moon n_percents z14.2.2.2.2.2 n_seen n_odds), 0, 0, rfl, rfl, Nat.le_of_ble_eq_true rfl, rfl, ⟨r_bytes, r_values, r_filled, r_end, z1.1, z1.2, r_hasMoon, r_hasSky, r_error, r_errorAt, n_slots, n_targets, n_teams, n_moon, n_percents, n_numbers, n_seen, n_odds, z14, rfl, rfl, hz14, rfl⟩, rfl⟩ ?_
          refine Rn.go 1 (pc' := 134) (lv' := [(0, .ref 0), (1, .ref 3)]) (st' := []) (es' := (wX7_Reader_Night r_bytes z14.2.2.2.1 r_filled r_end z14.1 z1.2 r_hasMoon r_hasSky z14.2.1 z14.2.2.1 n_slots z14.2.2.2.2.1 n_teams n_moon n_percents z14.2.2.2.2.2 n_seen n_odds)) (c' := 0) (s' := 0) rfl ?_
          obtain rfl := Option.some.inj hp
          exact Rn.fin rfl rfl rfl
      · rw [if_neg h8] at hp
        refine Rn.go 2 (pc' := 69) (lv' := [(0, .ref 0), (1, .ref 3)]) (st' := [.int r_hasSky]) (es' := (wX7_Reader_Night r_bytes r_values r_filled r_end z1.1 z1.2 r_hasMoon r_hasSky r_error r_errorAt n_slots n_targets n_teams n_moon n_percents n_numbers n_seen n_odds)) (c' := 0) (s' := 0) rfl ?_
        refine Rn.br (P := ¬ r_hasSky = 0) (pc1 := 107) (pc2 := 72) rfl rfl (fun h10 => ?_) (fun h10 => ?_)
        · rw [if_pos h10] at hp
          refine Rn.go 2 (pc' := 110) (lv' := [(0, .ref 0), (1, .ref 3)]) (st' := [.ref 1103, .ref 0]) (es' := (wX7_Reader_Night r_bytes r_values r_filled r_end z1.1 z1.2 r_hasMoon r_hasSky r_error r_errorAt n_slots n_targets n_teams n_moon n_percents n_numbers n_seen n_odds)) (c' := 0) (s' := 0) rfl ?_
          obtain ⟨z15, hz15, hp⟩ := ob_some hp
          refine Rn.rel (pc' := 113) (lv' := [(0, .ref 0), (1, .ref 3)]) (st' := [.int z15]) (es' := (wX7_Reader_Night r_bytes r_values r_filled r_end z1.1 z1.2 r_hasMoon r_hasSky r_error r_errorAt n_slots n_targets n_teams n_moon n_percents n_numbers n_seen n_odds)) (dc := 0) (ds := 0) rfl ⟨0, [.ref 1103], _, [0, 1, 2], .inl (some (.int z15)), (wX7_Reader r_bytes r_values r_filled r_end z1.1 z1.2 r_hasMoon r_hasSky r_error r_errorAt), 0, 0, rfl, rfl, Nat.le_of_ble_eq_true rfl, rfl, ⟨r_bytes, r_values, r_filled, r_end, z1.1, z1.2, r_hasMoon, r_hasSky, r_error, r_errorAt, z15, rfl, rfl, hz15, rfl⟩, rfl⟩ ?_
          refine Rn.br (P := z15 = 0) (pc1 := 124) (pc2 := 116) rfl rfl (fun h11 => ?_) (fun h11 => ?_)
          · rw [if_pos h11] at hp
            refine Rn.go 4 (pc' := 131) (lv' := [(0, .ref 0), (1, .ref 3)]) (st' := [.int z1.2, .int (-2 : Int32), .ref 0]) (es' := (wX7_Reader_Night r_bytes r_values r_filled r_end z1.1 z1.2 r_hasMoon r_hasSky r_error r_errorAt n_slots n_targets n_teams n_moon n_percents n_numbers n_seen n_odds)) (c' := 0) (s' := 0) rfl ?_
            obtain ⟨z16, hz16, hp⟩ := ob_some hp
            refine Rn.rel (pc' := 134) (lv' := [(0, .ref 0), (1, .ref 3)]) (st' := []) (es' := (wX7_Reader_Night r_bytes r_values r_filled r_end z1.1 z1.2 r_hasMoon r_hasSky z16.1 z16.2 n_slots n_targets n_teams n_moon n_percents n_numbers n_seen n_odds)) (dc := 0) (ds := 0) rfl ⟨0, [.int (-2 : Int32), .int z1.2], _, [0, 1, 2], .inl none, (wX7_Reader r_bytes r_values r_filled r_end z1.1 z1.2 r_hasMoon r_hasSky z16.1 z16.2), 0, 0, rfl, rfl, Nat.le_of_ble_eq_true rfl, rfl, ⟨(-2 : Int32), z1.2, r_bytes, r_values, r_filled, r_end, z1.1, z1.2, r_hasMoon, r_hasSky, r_error, r_errorAt, z16, rfl, rfl, hz16, rfl⟩, rfl⟩ ?_
            obtain rfl := Option.some.inj hp
            exact Rn.fin rfl rfl rfl
          · rw [if_neg h11] at hp
            refine Rn.go 2 (pc' := 118) (lv' := [(0, .ref 0), (1, .ref 3)]) (st' := [.ref 3, .ref 0]) (es' := (wX7_Reader_Night r_bytes r_values r_filled r_end z1.1 z1.2 r_hasMoon r_hasSky r_error r_errorAt n_slots n_targets n_teams n_moon n_percents n_numbers n_seen n_odds)) (c' := 0) (s' := 0) rfl ?_
            obtain ⟨z17, hz17, hp⟩ := ob_some hp
            refine Rn.rel (pc' := 121) (lv' := [(0, .ref 0), (1, .ref 3)]) (st' := []) (es' := (wX7_Reader_Night r_bytes z17.2.2.2.1 r_filled r_end z17.1 z1.2 r_hasMoon r_hasSky z17.2.1 z17.2.2.1 n_slots z17.2.2.2.2.1 n_teams n_moon n_percents z17.2.2.2.2.2 n_seen n_odds)) (dc := 0) (ds := 0) rfl ⟨0, [.ref 3], _, [0, 1, 2, 3, 4, 5, 6, 7, 8], .inl none, (wX7_Reader_Night r_bytes z17.2.2.2.1 r_filled r_end z17.1 z1.2 r_hasMoon r_hasSky z17.2.1 z17.2.2.1 n_slots z17.2.2.2.2.1 n_teams n_moon n_percents z17.2.2.2.2.2 n_seen n_odds), 0, 0, rfl, rfl, Nat.le_of_ble_eq_true rfl, rfl, ⟨r_bytes, r_values, r_filled, r_end, z1.1, z1.2, r_hasMoon, r_hasSky, r_error, r_errorAt, n_slots, n_targets, n_teams, n_moon, n_percents, n_numbers, n_seen, n_odds, z17, rfl, rfl, hz17, rfl⟩, rfl⟩ ?_
            refine Rn.go 1 (pc' := 134) (lv' := [(0, .ref 0), (1, .ref 3)]) (st' := []) (es' := (wX7_Reader_Night r_bytes z17.2.2.2.1 r_filled r_end z17.1 z1.2 r_hasMoon r_hasSky z17.2.1 z17.2.2.1 n_slots z17.2.2.2.2.1 n_teams n_moon n_percents z17.2.2.2.2.2 n_seen n_odds)) (c' := 0) (s' := 0) rfl ?_
            obtain rfl := Option.some.inj hp
            exact Rn.fin rfl rfl rfl
        · rw [if_neg h10] at hp
          refine Rn.go 6 (pc' := 84) (lv' := [(0, .ref 0), (1, .ref 3)]) (st' := [.ref 1005, .ref 1004, .ref 0]) (es' := (wX7_Reader_Night r_bytes r_values r_filled r_end z1.1 z1.2 r_hasMoon (1 : Int32) r_error r_errorAt n_slots n_targets n_teams n_moon n_percents n_numbers n_seen n_odds)) (c' := 0) (s' := 0) rfl ?_
          obtain ⟨z18, hz18, hp⟩ := ob_some hp
          refine Rn.rel (pc' := 87) (lv' := [(0, .ref 0), (1, .ref 3)]) (st' := [.int z18.1]) (es' := (wX7_Reader_Night r_bytes z18.2.2.2.2 r_filled r_end z18.2.1 z1.2 r_hasMoon (1 : Int32) z18.2.2.1 z18.2.2.2.1 n_slots n_targets n_teams n_moon n_percents n_numbers n_seen n_odds)) (dc := 0) (ds := 0) rfl ⟨0, [.ref 1004, .ref 1005], _, [0, 1, 2], .inl (some (.int z18.1)), (wX7_Reader r_bytes z18.2.2.2.2 r_filled r_end z18.2.1 z1.2 r_hasMoon (1 : Int32) z18.2.2.1 z18.2.2.2.1), 0, 0, rfl, rfl, Nat.le_of_ble_eq_true rfl, rfl, ⟨r_bytes, r_values, r_filled, r_end, z1.1, z1.2, r_hasMoon, (1 : Int32), r_error, r_errorAt, z18, rfl, rfl, hz18, rfl⟩, rfl⟩ ?_
          refine Rn.br (P := z18.1 = 0) (pc1 := 134) (pc2 := 90) rfl rfl (fun h12 => ?_) (fun h12 => ?_)
          · rw [if_pos h12] at hp
            obtain rfl := Option.some.inj hp
            exact Rn.fin rfl rfl rfl
          · rw [if_neg h12] at hp
            refine Rn.go 8 (pc' := 104) (lv' := [(0, .ref 0), (1, .ref 3)]) (st' := []) (es' := (wX7_Reader_Night r_bytes z18.2.2.2.2 r_filled r_end z18.2.1 z1.2 r_hasMoon (1 : Int32) z18.2.2.1 z18.2.2.2.1 n_slots n_targets n_teams n_moon (va_cpy z18.2.2.2.2 n_percents 0 0 3) n_numbers n_seen n_odds)) (c' := 0) (s' := 0) rfl ?_
            refine Rn.go 1 (pc' := 134) (lv' := [(0, .ref 0), (1, .ref 3)]) (st' := []) (es' := (wX7_Reader_Night r_bytes z18.2.2.2.2 r_filled r_end z18.2.1 z1.2 r_hasMoon (1 : Int32) z18.2.2.1 z18.2.2.2.1 n_slots n_targets n_teams n_moon (va_cpy z18.2.2.2.2 n_percents 0 0 3) n_numbers n_seen n_odds)) (c' := 0) (s' := 0) rfl ?_
            obtain rfl := Option.some.inj hp
            exact Rn.fin rfl rfl rfl
    · rw [if_neg h7] at hp
      refine Rn.go 6 (pc' := 32) (lv' := [(0, .ref 0), (1, .ref 3)]) (st' := [.ref 1003, .ref 1002, .ref 0]) (es' := (wX7_Reader_Night r_bytes r_values r_filled r_end z1.1 z1.2 (1 : Int32) r_hasSky r_error r_errorAt n_slots n_targets n_teams n_moon n_percents n_numbers n_seen n_odds)) (c' := 0) (s' := 0) rfl ?_
      obtain ⟨z19, hz19, hp⟩ := ob_some hp
      refine Rn.rel (pc' := 35) (lv' := [(0, .ref 0), (1, .ref 3)]) (st' := [.int z19.1]) (es' := (wX7_Reader_Night r_bytes z19.2.2.2.2 r_filled r_end z19.2.1 z1.2 (1 : Int32) r_hasSky z19.2.2.1 z19.2.2.2.1 n_slots n_targets n_teams n_moon n_percents n_numbers n_seen n_odds)) (dc := 0) (ds := 0) rfl ⟨0, [.ref 1002, .ref 1003], _, [0, 1, 2], .inl (some (.int z19.1)), (wX7_Reader r_bytes z19.2.2.2.2 r_filled r_end z19.2.1 z1.2 (1 : Int32) r_hasSky z19.2.2.1 z19.2.2.2.1), 0, 0, rfl, rfl, Nat.le_of_ble_eq_true rfl, rfl, ⟨r_bytes, r_values, r_filled, r_end, z1.1, z1.2, (1 : Int32), r_hasSky, r_error, r_errorAt, z19, rfl, rfl, hz19, rfl⟩, rfl⟩ ?_
      refine Rn.br (P := z19.1 = 0) (pc1 := 134) (pc2 := 38) rfl rfl (fun h13 => ?_) (fun h13 => ?_)
      · rw [if_pos h13] at hp
        obtain rfl := Option.some.inj hp
        exact Rn.fin rfl rfl rfl
      · rw [if_neg h13] at hp
        refine Rn.go 8 (pc' := 53) (lv' := [(0, .ref 0), (1, .ref 3)]) (st' := []) (es' := (wX7_Reader_Night r_bytes z19.2.2.2.2 r_filled r_end z19.2.1 z1.2 (1 : Int32) r_hasSky z19.2.2.1 z19.2.2.2.1 n_slots n_targets n_teams (va_cpy z19.2.2.2.2 n_moon 0 0 6) n_percents n_numbers n_seen n_odds)) (c' := 0) (s' := 0) rfl ?_
        refine Rn.go 1 (pc' := 134) (lv' := [(0, .ref 0), (1, .ref 3)]) (st' := []) (es' := (wX7_Reader_Night r_bytes z19.2.2.2.2 r_filled r_end z19.2.1 z1.2 (1 : Int32) r_hasSky z19.2.2.1 z19.2.2.2.1 n_slots n_targets n_teams (va_cpy z19.2.2.2.2 n_moon 0 0 6) n_percents n_numbers n_seen n_odds)) (c' := 0) (s' := 0) rfl ?_
        obtain rfl := Option.some.inj hp
        exact Rn.fin rfl rfl rfl
theorem qX7_readPart : CtA yX7_readPart (.code yX7_readPart cX7_readPart 2 none) 5 112 [] rX7_readPart := CtA.of (by decide +kernel) (fun pc op h => kX7_readPart _ (lkp_mem h)) oX7_readPart
/-! TelescopeNight$Reader.read(ILTelescopeNight$Night;)Z -/
def lpX7_read_53 (r_bytes : Nat → Int32) (r_end : Int32) : Nat → Int32 → (Nat → Int32) → Int32 → Int32 → Int32 → Int32 → Int32 → Int32 → Int32 → (Nat → Int32) → (Nat → Int32) → (Nat → Int32) → Option (Int32 × (Nat → Int32) × Int32 × Int32 × Int32 × Int32 × Int32 × Int32 × Int32 × (Nat → Int32) × (Nat → Int32) × (Nat → Int32))
  | 0, _, _, _, _, _, _, _, _, _, _, _, _ => none
  | fu + 1, l3, r_values, r_at, r_wordStart, r_hasMoon, r_hasSky, r_error, r_errorAt, n_targets, n_moon, n_percents, n_numbers =>
    if (500 : Int32) ≤ l3 then
      some (l3, r_values, r_at, r_wordStart, r_hasMoon, r_hasSky, r_error, r_errorAt, n_targets, n_moon, n_percents, n_numbers)
    else
      if ¬ r_error = 0 then
        some (l3, r_values, r_at, r_wordStart, r_hasMoon, r_hasSky, r_error, r_errorAt, n_targets, n_moon, n_percents, n_numbers)
      else
        ob (pX7_atEnd r_bytes r_end r_at) (fun z3 =>
        if ¬ z3.1 = 0 then
          some (l3, r_values, z3.2, r_wordStart, r_hasMoon, r_hasSky, r_error, r_errorAt, n_targets, n_moon, n_percents, n_numbers)
        else
          ob (pX7_readPart r_bytes r_values r_end z3.2 r_hasMoon r_hasSky r_error r_errorAt n_targets n_moon n_percents n_numbers) (fun z4 =>
          lpX7_read_53 r_bytes r_end fu (l3 + (1 : Int32)) z4.2.2.2.2.2.2.1 z4.1 z4.2.1 z4.2.2.1 z4.2.2.2.1 z4.2.2.2.2.1 z4.2.2.2.2.2.1 z4.2.2.2.2.2.2.2.1 z4.2.2.2.2.2.2.2.2.1 z4.2.2.2.2.2.2.2.2.2.1 z4.2.2.2.2.2.2.2.2.2.2))
def pX7_read (x1 : Int32) (r_bytes : Nat → Int32) (r_values : Nat → Int32) (r_filled : Int32) (n_moon : Nat → Int32) (n_percents : Nat → Int32) (n_numbers : Nat → Int32) (n_seen : Nat → Int32) (n_odds : Nat → Int32) : Option (Int32 × Int32 × Int32 × Int32 × Int32 × Int32 × Int32 × Int32 × (Nat → Int32) × Int32 × Int32 × Int32 × (Nat → Int32) × (Nat → Int32) × (Nat → Int32) × (Nat → Int32) × (Nat → Int32)) :=
  ob (pX2_setDefaults n_moon n_percents) (fun z1 =>
  ob (pX7_readHead r_bytes r_values (if r_filled < x1 then r_filled else x1) (0 : Int32) (0 : Int32) (-1 : Int32) (6 : Int32)) (fun z2 =>
  ob (lpX7_read_53 r_bytes (if r_filled < x1 then r_filled else x1) lpF (0 : Int32) z2.2.2.2.2.1 z2.1 z2.2.1 (0 : Int32) (0 : Int32) z2.2.2.1 z2.2.2.2.1 (0 : Int32) z1.1 z1.2 n_numbers) (fun z5 =>
  ob (pX2_settle z2.2.2.2.2.2 z5.2.2.2.2.2.2.2.2.1 z5.2.2.2.2.2.2.2.2.2.1 z5.2.2.2.2.2.2.2.2.2.2.1 z5.2.2.2.2.2.2.2.2.2.2.2 n_seen n_odds) (fun z6 =>
  if ¬ z5.2.2.2.2.2.2.1 = 0 then
    some ((0 : Int32), (if r_filled < x1 then r_filled else x1), z5.2.2.1, z5.2.2.2.1, z5.2.2.2.2.1, z5.2.2.2.2.2.1, z5.2.2.2.2.2.2.1, z5.2.2.2.2.2.2.2.1, z5.2.1, z2.2.2.2.2.2, z5.2.2.2.2.2.2.2.2.1, z6.1, z5.2.2.2.2.2.2.2.2.2.1, z5.2.2.2.2.2.2.2.2.2.2.1, z5.2.2.2.2.2.2.2.2.2.2.2, z6.2.1, z6.2.2)
  else
    some ((1 : Int32), (if r_filled < x1 then r_filled else x1), z5.2.2.1, z5.2.2.2.1, z5.2.2.2.2.1, z5.2.2.2.2.2.1, z5.2.2.2.2.2.2.1, z5.2.2.2.2.2.2.2.1, z5.2.1, z2.2.2.2.2.2, z5.2.2.2.2.2.2.2.2.1, z6.1, z5.2.2.2.2.2.2.2.2.2.1, z5.2.2.2.2.2.2.2.2.2.2.1, z5.2.2.2.2.2.2.2.2.2.2.2, z6.2.1, z6.2.2)))))
def rX7_read : List Value → List va_E → op_O → Prop := fun avs es r => ∃ (x1 : Int32) (r_bytes : Nat → Int32) (r_values : Nat → Int32) (r_filled : Int32) (r_end : Int32) (r_at : Int32) (r_wordStart : Int32) (r_hasMoon : Int32) (r_hasSky : Int32) (r_error : Int32) (r_errorAt : Int32) (n_slots : Int32) (n_targets : Int32) (n_teams : Int32) (n_moon : Nat → Int32) (n_percents : Nat → Int32) (n_numbers : Nat → Int32) (n_seen : Nat → Int32) (n_odds : Nat → Int32) (z : Int32 × Int32 × Int32 × Int32 × Int32 × Int32 × Int32 × Int32 × (Nat → Int32) × Int32 × Int32 × Int32 × (Nat → Int32) × (Nat → Int32) × (Nat → Int32) × (Nat → Int32) × (Nat → Int32)), avs = [.ref 0, .int x1, .ref 3] ∧ es = (wX7_Reader_Night r_bytes r_values r_filled r_end r_at r_wordStart r_hasMoon r_hasSky r_error r_errorAt n_slots n_targets n_teams n_moon n_percents n_numbers n_seen n_odds) ∧ pX7_read x1 r_bytes r_values r_filled n_moon n_percents n_numbers n_seen n_odds = some z ∧ r = (.inl (some (.int z.1)), (wX7_Reader_Night r_bytes z.2.2.2.2.2.2.2.2.1 (0 : Int32) z.2.1 z.2.2.1 z.2.2.2.1 z.2.2.2.2.1 z.2.2.2.2.2.1 z.2.2.2.2.2.2.1 z.2.2.2.2.2.2.2.1 z.2.2.2.2.2.2.2.2.2.1 z.2.2.2.2.2.2.2.2.2.2.1 z.2.2.2.2.2.2.2.2.2.2.2.1 z.2.2.2.2.2.2.2.2.2.2.2.2.1 z.2.2.2.2.2.2.2.2.2.2.2.2.2.1 z.2.2.2.2.2.2.2.2.2.2.2.2.2.2.1 z.2.2.2.2.2.2.2.2.2.2.2.2.2.2.2.1 z.2.2.2.2.2.2.2.2.2.2.2.2.2.2.2.2), 0, 0)
def bX7_read : List (Nat × (op_T ⊕ op_R)) := [(0, .inl (o_aload 1 0)), (1, .inl (o_iload 2 1)), (2, .inl (o_aload 3 0)), (3, .inl (o_get 6 7 2)), (6, .inl (o_min 9)), (9, .inl (o_put 12 7 3 .int)), (12, .inl (o_aload 13 0)), (13, .inl (o_push 14 (.int (0)))), (14, .inl (o_put 17 7 4 .int)), (17, .inl (o_aload 18 0)), (18, .inl (o_push 19 (.int (0)))), (19, .inl (o_put 22 7 6 .boolean)), (22, .inl (o_aload 23 0)), (23, .inl (o_push 24 (.int (0)))), (24, .inl (o_put 27 7 7 .boolean)), (27, .inl (o_aload 28 0)), (28, .inl (o_push 29 (.int (0)))), (29, .inl (o_put 32 7 8 .int)), (32, .inl (o_aload 33 0)), (33, .inl (o_push 34 (.int (-1)))), (34, .inl (o_put 37 7 9 .int)), (37, .inl (o_aload 38 0)), (38, .inl (o_push 39 (.int (0)))), (39, .inl (o_put 42 7 2 .int)), (42, .inl (o_aload 43 2)), (43, .inr (o_callV [] [] 46 0 2 rX2_setDefaults)), (46, .inl (o_aload 47 0)), (47, .inl (o_aload 48 2)), (48, .inr (o_callV [] [] 51 1 7 rX7_readHead)), (51, .inl (o_push 52 (.int (0)))), (52, .inl (nrm [0, 1, 2, 3] (o_istore 53 3))), (53, .inl (o_iload 54 3)), (54, .inl (o_push 57 (.int (500)))), (57, .inl (o_icmpge 60 85)), (60, .inl (o_aload 61 0)), (61, .inl (o_get 64 7 8)), (64, .inl (o_ifne 67 85)), (67, .inl (o_aload 68 0)), (68, .inr (o_callV [] [] 71 0 7 rX7_atEnd)), (71, .inl (o_ifne 74 85)), (74, .inl (o_aload 75 0)), (75, .inl (o_aload 76 2)), (76, .inr (o_callV [] [] 79 1 7 rX7_readPart)), (79, .inl (o_iinc 82 3 (1))), (82, .inl (nrm [0, 1, 2, 3] (o_goto 53))), (85, .inl (o_aload 86 2)), (86, .inr (o_callV [] [] 89 0 2 rX2_settle)), (89, .inl (o_aload 90 0)), (90, .inl (o_get 93 7 8)), (93, .inl (o_ifne 96 100)), (96, .inl (o_push 97 (.int (1)))), (97, .inl (o_goto 101)), (100, .inl (o_push 101 (.int (0)))), (101, .inl (o_zret))]
set_option maxRecDepth 100000 in
set_option maxHeartbeats 4000000 in
theorem kX7_read : ∀ q ∈ bX7_read, ok2 6 133 4 cX7_read yX7_read.cls yX7_read.name (some .boolean) (.code yX7_read cX7_read 4 (some .boolean)) [] [] q.1 q.2 := (al_c (s_aload_n (k := 0) (by decide +kernel)) (al_c (s_iload_n (k := 1) (by decide +kernel)) (al_c (s_aload_n (k := 0) (by decide +kernel)) (al_c (s_get (C9 := RX7) (T9 := TX7) (N9 := 10) (ci := 7) (k := 2) iX7 rfl (by decide) w_217 (by decide +kernel)) (al_c (s_min w_811 w_78 w_4 w_79 (by decide) (by decide) (by decide +kernel)) (al_c (s_put (C9 := RX7) (T9 := TX7) (N9 := 10) (ci := 7) (k := 3) iX7 rfl (by decide) w_219 tyX7 tyX7_ok nmX7 rfl (by decide +kernel)) (al_c (s_aload_n (k := 0) (by decide +kernel)) (al_c (s_iconst (n := 0) (0) (by decide) (by decide +kernel)) (al_c (s_put (C9 := RX7) (T9 := TX7) (N9 := 10) (ci := 7) (k := 4) iX7 rfl (by decide) w_220 tyX7 tyX7_ok nmX7 rfl (by decide +kernel)) (al_c (s_aload_n (k := 0) (by decide +kernel)) (al_c (s_iconst (n := 0) (0) (by decide) (by decide +kernel)) (al_c (s_put (C9 := RX7) (T9 := TX7) (N9 := 10) (ci := 7) (k := 6) iX7 rfl (by decide) w_222 tyX7 tyX7_ok nmX7 rfl (by decide +kernel)) (al_c (s_aload_n (k := 0) (by decide +kernel)) (al_c (s_iconst (n := 0) (0) (by decide) (by decide +kernel)) (al_c (s_put (C9 := RX7) (T9 := TX7) (N9 := 10) (ci := 7) (k := 7) iX7 rfl (by decide) w_223 tyX7 tyX7_ok nmX7 rfl (by decide +kernel)) (al_c (s_aload_n (k := 0) (by decide +kernel)) (al_c (s_iconst (n := 0) (0) (by decide) (by decide +kernel)) (al_c (s_put (C9 := RX7) (T9 := TX7) (N9 := 10) (ci := 7) (k := 8) iX7 rfl (by decide) w_225 tyX7 tyX7_ok nmX7 rfl (by decide +kernel)) (al_c (s_aload_n (k := 0) (by decide +kernel)) (al_c (s_iconst (n := -1) (-1) (by decide) (by decide +kernel)) (al_c (s_put (C9 := RX7) (T9 := TX7) (N9 := 10) (ci := 7) (k := 9) iX7 rfl (by decide) w_226 tyX7 tyX7_ok nmX7 rfl (by decide +kernel)) (al_c (s_aload_n (k := 0) (by decide +kernel)) (al_c (s_iconst (n := 0) (0) (by decide) (by decide +kernel)) (al_c (s_put (C9 := RX7) (T9 := TX7) (N9 := 10) (ci := 7) (k := 2) iX7 rfl (by decide) w_217 tyX7 tyX7_ok nmX7 rfl (by decide +kernel)) (al_c (s_aload_n (k := 2) (by decide +kernel)) (al_c (s_callV (y := yX2_setDefaults) (bytes := cX2_setDefaults) (maxL := 1) (ret' := none) (fr' := 1) (lo' := 23) (n := 0) (ml := []) (mlc := []) (ci := 2) (q9 := (RX2, TX2, 8)) qX2_setDefaults w_812 w_40 w_41 w_2 w_42 ⟨by decide +kernel, by decide +kernel, by decide +kernel⟩ rfl rfl (by decide) (by decide) (by decide +kernel)) (al_c (s_aload_n (k := 0) (by decide +kernel)) (al_c (s_aload_n (k := 2) (by decide +kernel)) (al_c (s_callV (y := yX7_readHead) (bytes := cX7_readHead) (maxL := 2) (ret' := none) (fr' := 5) (lo' := 107) (n := 1) (ml := []) (mlc := []) (ci := 7) (q9 := (RX7, TX7, 10)) qX7_readHead w_813 w_815 wp_29 w_7 w_816 ⟨by decide +kernel, by decide +kernel, by decide +kernel⟩ rfl rfl (by decide) (by decide) (by decide +kernel)) (al_c (s_iconst (n := 0) (0) (by decide) (by decide +kernel)) (al_c (s_nrm [0, 1, 2, 3] (s_istore_n (k := 3) rfl (by decide) (by decide +kernel))) (al_c (s_iload_n (k := 3) (by decide +kernel)) (al_c (s_sipush (n := 500) (500) (by decide) (by decide +kernel)) (al_c (s_icmpge (off := 28) 85 (by decide) (by decide +kernel)) (al_c (s_aload_n (k := 0) (by decide +kernel)) (al_c (s_get (C9 := RX7) (T9 := TX7) (N9 := 10) (ci := 7) (k := 8) iX7 rfl (by decide) w_225 (by decide +kernel)) (al_c (s_ifne (off := 21) 85 (by decide) (by decide +kernel)) (al_c (s_aload_n (k := 0) (by decide +kernel)) (al_c (s_callV (y := yX7_atEnd) (bytes := cX7_atEnd) (maxL := 1) (ret' := (some .boolean)) (fr' := 1) (lo' := 20) (n := 0) (ml := []) (mlc := []) (ci := 7) (q9 := (RX7, TX7, 10)) qX7_atEnd w_902 w_904 wp_37 w_7 w_905 ⟨by decide +kernel, by decide +kernel, by decide +kernel⟩ rfl rfl (by decide) (by decide) (by decide +kernel)) (al_c (s_ifne (off := 14) 85 (by decide) (by decide +kernel)) (al_c (s_aload_n (k := 0) (by decide +kernel)) (al_c (s_aload_n (k := 2) (by decide +kernel)) (al_c (s_callV (y := yX7_readPart) (bytes := cX7_readPart) (maxL := 2) (ret' := none) (fr' := 5) (lo' := 112) (n := 1) (ml := []) (mlc := []) (ci := 7) (q9 := (RX7, TX7, 10)) qX7_readPart w_906 w_908 wp_38 w_7 w_909 ⟨by decide +kernel, by decide +kernel, by decide +kernel⟩ rfl rfl (by decide) (by decide) (by decide +kernel)) (al_c (s_iinc (n := 1) (1) (by decide) (by decide) (by decide +kernel)) (al_c (s_nrm [0, 1, 2, 3] (s_goto (off := -29) 53 (by decide) (by decide +kernel))) (al_c (s_aload_n (k := 2) (by decide +kernel)) (al_c (s_callV (y := yX2_settle) (bytes := cX2_settle) (maxL := 3) (ret' := none) (fr' := 4) (lo' := 94) (n := 0) (ml := []) (mlc := []) (ci := 2) (q9 := (RX2, TX2, 8)) qX2_settle w_930 w_47 w_48 w_2 w_49 ⟨by decide +kernel, by decide +kernel, by decide +kernel⟩ rfl rfl (by decide) (by decide) (by decide +kernel)) (al_c (s_aload_n (k := 0) (by decide +kernel)) (al_c (s_get (C9 := RX7) (T9 := TX7) (N9 := 10) (ci := 7) (k := 8) iX7 rfl (by decide) w_225 (by decide +kernel)) (al_c (s_ifne (off := 7) 100 (by decide) (by decide +kernel)) (al_c (s_iconst (n := 1) (1) (by decide) (by decide +kernel)) (al_c (s_goto (off := 4) 101 (by decide) (by decide +kernel)) (al_c (s_iconst (n := 0) (0) (by decide) (by decide +kernel)) (al_c (s_zret rfl (by decide +kernel)) al_n))))))))))))))))))))))))))))))))))))))))))))))))))))))
set_option maxRecDepth 100000 in
set_option maxHeartbeats 4000000 in
theorem lrX7_read_53 (l1 : Int32) (r_bytes : Nat → Int32) (r_filled : Int32) (r_end : Int32) (n_slots : Int32) (n_teams : Int32) (n_seen : Nat → Int32) (n_odds : Nat → Int32) : ∀ (fu : Nat) (l3 : Int32) (r_values : Nat → Int32) (r_at : Int32) (r_wordStart : Int32) (r_hasMoon : Int32) (r_hasSky : Int32) (r_error : Int32) (r_errorAt : Int32) (n_targets : Int32) (n_moon : Nat → Int32) (n_percents : Nat → Int32) (n_numbers : Nat → Int32) (z : (Int32 × (Nat → Int32) × Int32 × Int32 × Int32 × Int32 × Int32 × Int32 × Int32 × (Nat → Int32) × (Nat → Int32) × (Nat → Int32))), lpX7_read_53 r_bytes r_end fu l3 r_values r_at r_wordStart r_hasMoon r_hasSky r_error r_errorAt n_targets n_moon n_percents n_numbers = some z → ∀ (c s : Nat) (r : op_O), Rn (lkp bX7_read) 85 [(0, .ref 0), (1, .int l1), (2, .ref 3), (3, .int z.1)] [] (wX7_Reader_Night r_bytes z.2.1 r_filled r_end z.2.2.1 z.2.2.2.1 z.2.2.2.2.1 z.2.2.2.2.2.1 z.2.2.2.2.2.2.1 z.2.2.2.2.2.2.2.1 n_slots z.2.2.2.2.2.2.2.2.1 n_teams z.2.2.2.2.2.2.2.2.2.1 z.2.2.2.2.2.2.2.2.2.2.1 z.2.2.2.2.2.2.2.2.2.2.2 n_seen n_odds) c s r → Rn (lkp bX7_read) 53 [(0, .ref 0), (1, .int l1), (2, .ref 3), (3, .int l3)] [] (wX7_Reader_Night r_bytes r_values r_filled r_end r_at r_wordStart r_hasMoon r_hasSky r_error r_errorAt n_slots n_targets n_teams n_moon n_percents n_numbers n_seen n_odds) c s r := by
  intro fu
  induction fu with
  | zero => intro l3 r_values r_at r_wordStart r_hasMoon r_hasSky r_error r_errorAt n_targets n_moon n_percents n_numbers z hp; cases hp
  | succ fu ih =>
      intro l3 r_values r_at r_wordStart r_hasMoon r_hasSky r_error r_errorAt n_targets n_moon n_percents n_numbers z hp c s r k
      unfold lpX7_read_53 at hp
      refine Rn.go 2 (pc' := 57) (lv' := [(0, .ref 0), (1, .int l1), (2, .ref 3), (3, .int l3)]) (st' := [.int (500 : Int32), .int l3]) (es' := (wX7_Reader_Night r_bytes r_values r_filled r_end r_at r_wordStart r_hasMoon r_hasSky r_error r_errorAt n_slots n_targets n_teams n_moon n_percents n_numbers n_seen n_odds)) (c' := c) (s' := s) rfl ?_
      refine Rn.br (P := (500 : Int32) ≤ l3) (pc1 := 85) (pc2 := 60) rfl rfl (fun h1 => ?_) (fun h1 => ?_)
      · rw [if_pos h1] at hp
        obtain rfl := Option.some.inj hp
        exact k
      · rw [if_neg h1] at hp
        refine Rn.go 2 (pc' := 64) (lv' := [(0, .ref 0), (1, .int l1), (2, .ref 3), (3, .int l3)]) (st' := [.int r_error]) (es' := (wX7_Reader_Night r_bytes r_values r_filled r_end r_at r_wordStart r_hasMoon r_hasSky r_error r_errorAt n_slots n_targets n_teams n_moon n_percents n_numbers n_seen n_odds)) (c' := c) (s' := s) rfl ?_
        refine Rn.br (P := ¬ r_error = 0) (pc1 := 85) (pc2 := 67) rfl rfl (fun h2 => ?_) (fun h2 => ?_)
        · rw [if_pos h2] at hp
          obtain rfl := Option.some.inj hp
          exact k
        · rw [if_neg h2] at hp
          refine Rn.go 1 (pc' := 68) (lv' := [(0, .ref 0), (1, .int l1), (2, .ref 3), (3, .int l3)]) (st' := [.ref 0]) (es' := (wX7_Reader_Night r_bytes r_values r_filled r_end r_at r_wordStart r_hasMoon r_hasSky r_error r_errorAt n_slots n_targets n_teams n_moon n_percents n_numbers n_seen n_odds)) (c' := c) (s' := s) rfl ?_
          obtain ⟨z3, hz3, hp⟩ := ob_some hp
          refine Rn.rel (pc' := 71) (lv' := [(0, .ref 0), (1, .int l1), (2, .ref 3), (3, .int l3)]) (st' := [.int z3.1]) (es' := (wX7_Reader_Night r_bytes r_values r_filled r_end z3.2 r_wordStart r_hasMoon r_hasSky r_error r_errorAt n_slots n_targets n_teams n_moon n_percents n_numbers n_seen n_odds)) (dc := 0) (ds := 0) rfl ⟨0, [], _, [0, 1, 2], .inl (some (.int z3.1)), (wX7_Reader r_bytes r_values r_filled r_end z3.2 r_wordStart r_hasMoon r_hasSky r_error r_errorAt), 0, 0, rfl, rfl, Nat.le_of_ble_eq_true rfl, rfl, ⟨r_bytes, r_values, r_filled, r_end, r_at, r_wordStart, r_hasMoon, r_hasSky, r_error, r_errorAt, z3, rfl, rfl, hz3, rfl⟩, rfl⟩ ?_
          refine Rn.br (P := ¬ z3.1 = 0) (pc1 := 85) (pc2 := 74) rfl rfl (fun h3 => ?_) (fun h3 => ?_)
          · rw [if_pos h3] at hp
            obtain rfl := Option.some.inj hp
            exact k
          · rw [if_neg h3] at hp
            refine Rn.go 2 (pc' := 76) (lv' := [(0, .ref 0), (1, .int l1), (2, .ref 3), (3, .int l3)]) (st' := [.ref 3, .ref 0]) (es' := (wX7_Reader_Night r_bytes r_values r_filled r_end z3.2 r_wordStart r_hasMoon r_hasSky r_error r_errorAt n_slots n_targets n_teams n_moon n_percents n_numbers n_seen n_odds)) (c' := c) (s' := s) rfl ?_
            obtain ⟨z4, hz4, hp⟩ := ob_some hp
            refine Rn.rel (pc' := 79) (lv' := [(0, .ref 0), (1, .int l1), (2, .ref 3), (3, .int l3)]) (st' := []) (es' := (wX7_Reader_Night r_bytes z4.2.2.2.2.2.2.1 r_filled r_end z4.1 z4.2.1 z4.2.2.1 z4.2.2.2.1 z4.2.2.2.2.1 z4.2.2.2.2.2.1 n_slots z4.2.2.2.2.2.2.2.1 n_teams z4.2.2.2.2.2.2.2.2.1 z4.2.2.2.2.2.2.2.2.2.1 z4.2.2.2.2.2.2.2.2.2.2 n_seen n_odds)) (dc := 0) (ds := 0) rfl ⟨0, [.ref 3], _, [0, 1, 2, 3, 4, 5, 6, 7, 8], .inl none, (wX7_Reader_Night r_bytes z4.2.2.2.2.2.2.1 r_filled r_end z4.1 z4.2.1 z4.2.2.1 z4.2.2.2.1 z4.2.2.2.2.1 z4.2.2.2.2.2.1 n_slots z4.2.2.2.2.2.2.2.1 n_teams z4.2.2.2.2.2.2.2.2.1 z4.2.2.2.2.2.2.2.2.2.1 z4.2.2.2.2.2.2.2.2.2.2 n_seen n_odds), 0, 0, rfl, rfl, Nat.le_of_ble_eq_true rfl, rfl, ⟨r_bytes, r_values, r_filled, r_end, z3.2, r_wordStart, r_hasMoon, r_hasSky, r_error, r_errorAt, n_slots, n_targets, n_teams, n_moon, n_percents, n_numbers, n_seen, n_odds, z4, rfl, rfl, hz4, rfl⟩, rfl⟩ ?_
            refine Rn.go 2 (pc' := 53) (lv' := [(0, .ref 0), (1, .int l1), (2, .ref 3), (3, .int (l3 + (1 : Int32)))]) (st' := []) (es' := (wX7_Reader_Night r_bytes z4.2.2.2.2.2.2.1 r_filled r_end z4.1 z4.2.1 z4.2.2.1 z4.2.2.2.1 z4.2.2.2.2.1 z4.2.2.2.2.2.1 n_slots z4.2.2.2.2.2.2.2.1 n_teams z4.2.2.2.2.2.2.2.2.1 z4.2.2.2.2.2.2.2.2.2.1 z4.2.2.2.2.2.2.2.2.2.2 n_seen n_odds)) (c' := c) (s' := s) rfl ?_
            exact ih (l3 + (1 : Int32)) z4.2.2.2.2.2.2.1 z4.1 z4.2.1 z4.2.2.1 z4.2.2.2.1 z4.2.2.2.2.1 z4.2.2.2.2.2.1 z4.2.2.2.2.2.2.2.1 z4.2.2.2.2.2.2.2.2.1 z4.2.2.2.2.2.2.2.2.2.1 z4.2.2.2.2.2.2.2.2.2.2 z hp c s r k
set_option maxRecDepth 100000 in
set_option maxHeartbeats 4000000 in
theorem oX7_read : Of (lkp bX7_read) 4 rX7_read := by
  intro avs es r h
  obtain ⟨x1, r_bytes, r_values, r_filled, r_end, r_at, r_wordStart, r_hasMoon, r_hasSky, r_error, r_errorAt, n_slots, n_targets, n_teams, n_moon, n_percents, n_numbers, n_seen, n_odds, z, rfl, rfl, hp, rfl⟩ := h
  refine ⟨Nat.le_of_ble_eq_true rfl, ?_⟩
  unfold pX7_read at hp
  refine Rn.go 25 (pc' := 43) (lv' := [(0, .ref 0), (1, .int x1), (2, .ref 3)]) (st' := [.ref 3]) (es' := (wX7_Reader_Night r_bytes r_values (0 : Int32) (if r_filled < x1 then r_filled else x1) (0 : Int32) r_wordStart (0 : Int32) (0 : Int32) (0 : Int32) (-1 : Int32) n_slots n_targets n_teams n_moon n_percents n_numbers n_seen n_odds)) (c' := 0) (s' := 0) rfl ?_
  obtain ⟨z1, hz1, hp⟩ := ob_some hp
  refine Rn.rel (pc' := 46) (lv' := [(0, .ref 0), (1, .int x1), (2, .ref 3)]) (st' := []) (es' := (wX7_Reader_Night r_bytes r_values (0 : Int32) (if r_filled < x1 then r_filled else x1) (0 : Int32) r_wordStart (0 : Int32) (0 : Int32) (0 : Int32) (-1 : Int32) (6 : Int32) (0 : Int32) n_teams z1.1 z1.2 n_numbers n_seen n_odds)) (dc := 0) (ds := 0) rfl ⟨3, [], _, [3, 4, 5, 6, 7, 8], .inl none, (wX2_Night (6 : Int32) (0 : Int32) n_teams z1.1 z1.2 n_numbers n_seen n_odds), 0, 0, rfl, rfl, Nat.le_of_ble_eq_true rfl, rfl, ⟨n_slots, n_targets, n_teams, n_moon, n_percents, n_numbers, n_seen, n_odds, z1, rfl, rfl, hz1, rfl⟩, rfl⟩ ?_
  refine Rn.go 2 (pc' := 48) (lv' := [(0, .ref 0), (1, .int x1), (2, .ref 3)]) (st' := [.ref 3, .ref 0]) (es' := (wX7_Reader_Night r_bytes r_values (0 : Int32) (if r_filled < x1 then r_filled else x1) (0 : Int32) r_wordStart (0 : Int32) (0 : Int32) (0 : Int32) (-1 : Int32) (6 : Int32) (0 : Int32) n_teams z1.1 z1.2 n_numbers n_seen n_odds)) (c' := 0) (s' := 0) rfl ?_
  obtain ⟨z2, hz2, hp⟩ := ob_some hp
  refine Rn.rel (pc' := 51) (lv' := [(0, .ref 0), (1, .int x1), (2, .ref 3)]) (st' := []) (es' := (wX7_Reader_Night r_bytes z2.2.2.2.2.1 (0 : Int32) (if r_filled < x1 then r_filled else x1) z2.1 z2.2.1 (0 : Int32) (0 : Int32) z2.2.2.1 z2.2.2.2.1 z2.2.2.2.2.2 (0 : Int32) n_teams z1.1 z1.2 n_numbers n_seen n_odds)) (dc := 0) (ds := 0) rfl ⟨0, [.ref 3], _, [0, 1, 2, 3, 4, 5, 6, 7, 8], .inl none, (wX7_Reader_Night r_bytes z2.2.2.2.2.1 (0 : Int32) (if r_filled < x1 then r_filled else x1) z2.1 z2.2.1 (0 : Int32) (0 : Int32) z2.2.2.1 z2.2.2.2.1 z2.2.2.2.2.2 (0 : Int32) n_teams z1.1 z1.2 n_numbers n_seen n_odds), 0, 0, rfl, rfl, Nat.le_of_ble_eq_true rfl, rfl, ⟨r_bytes, r_values, (0 : Int32), (if r_filled < x1 then r_filled else x1), (0 : Int32), r_wordStart, (0 : Int32), (0 : Int32), (0 : Int32), (-1 : Int32), (6 : Int32), (0 : Int32), n_teams, z1.1, z1.2, n_numbers, n_seen, n_odds, z2, rfl, rfl, hz2, rfl⟩, rfl⟩ ?_
  refine Rn.go 2 (pc' := 53) (lv' := [(0, .ref 0), (1, .int x1), (2, .ref 3), (3, .int (0 : Int32))]) (st' := []) (es' := (wX7_Reader_Night r_bytes z2.2.2.2.2.1 (0 : Int32) (if r_filled < x1 then r_filled else x1) z2.1 z2.2.1 (0 : Int32) (0 : Int32) z2.2.2.1 z2.2.2.2.1 z2.2.2.2.2.2 (0 : Int32) n_teams z1.1 z1.2 n_numbers n_seen n_odds)) (c' := 0) (s' := 0) rfl ?_
  obtain ⟨z5, hz5, hp⟩ := ob_some hp
  refine lrX7_read_53 x1 r_bytes (0 : Int32) (if r_filled < x1 then r_filled else x1) z2.2.2.2.2.2 n_teams n_seen n_odds _ (0 : Int32) z2.2.2.2.2.1 z2.1 z2.2.1 (0 : Int32) (0 : Int32) z2.2.2.1 z2.2.2.2.1 (0 : Int32) z1.1 z1.2 n_numbers z5 hz5 _ _ _ ?_
  refine Rn.go 1 (pc' := 86) (lv' := [(0, .ref 0), (1, .int x1), (2, .ref 3), (3, .int z5.1)]) (st' := [.ref 3]) (es' := (wX7_Reader_Night r_bytes z5.2.1 (0 : Int32) (if r_filled < x1 then r_filled else x1) z5.2.2.1 z5.2.2.2.1 z5.2.2.2.2.1 z5.2.2.2.2.2.1 z5.2.2.2.2.2.2.1 z5.2.2.2.2.2.2.2.1 z2.2.2.2.2.2 z5.2.2.2.2.2.2.2.2.1 n_teams z5.2.2.2.2.2.2.2.2.2.1 z5.2.2.2.2.2.2.2.2.2.2.1 z5.2.2.2.2.2.2.2.2.2.2.2 n_seen n_odds)) (c' := 0) (s' := 0) rfl ?_
  obtain ⟨z6, hz6, hp⟩ := ob_some hp
  refine Rn.rel (pc' := 89) (lv' := [(0, .ref 0), (1, .int x1), (2, .ref 3), (3, .int z5.1)]) (st' := []) (es' := (wX7_Reader_Night r_bytes z5.2.1 (0 : Int32) (if r_filled < x1 then r_filled else x1) z5.2.2.1 z5.2.2.2.1 z5.2.2.2.2.1 z5.2.2.2.2.2.1 z5.2.2.2.2.2.2.1 z5.2.2.2.2.2.2.2.1 z2.2.2.2.2.2 z5.2.2.2.2.2.2.2.2.1 z6.1 z5.2.2.2.2.2.2.2.2.2.1 z5.2.2.2.2.2.2.2.2.2.2.1 z5.2.2.2.2.2.2.2.2.2.2.2 z6.2.1 z6.2.2)) (dc := 0) (ds := 0) rfl ⟨3, [], _, [3, 4, 5, 6, 7, 8], .inl none, (wX2_Night z2.2.2.2.2.2 z5.2.2.2.2.2.2.2.2.1 z6.1 z5.2.2.2.2.2.2.2.2.2.1 z5.2.2.2.2.2.2.2.2.2.2.1 z5.2.2.2.2.2.2.2.2.2.2.2 z6.2.1 z6.2.2), 0, 0, rfl, rfl, Nat.le_of_ble_eq_true rfl, rfl, ⟨z2.2.2.2.2.2, z5.2.2.2.2.2.2.2.2.1, n_teams, z5.2.2.2.2.2.2.2.2.2.1, z5.2.2.2.2.2.2.2.2.2.2.1, z5.2.2.2.2.2.2.2.2.2.2.2, n_seen, n_odds, z6, rfl, rfl, hz6, rfl⟩, rfl⟩ ?_
  refine Rn.go 2 (pc' := 93) (lv' := [(0, .ref 0), (1, .int x1), (2, .ref 3), (3, .int z5.1)]) (st' := [.int z5.2.2.2.2.2.2.1]) (es' := (wX7_Reader_Night r_bytes z5.2.1 (0 : Int32) (if r_filled < x1 then r_filled else x1) z5.2.2.1 z5.2.2.2.1 z5.2.2.2.2.1 z5.2.2.2.2.2.1 z5.2.2.2.2.2.2.1 z5.2.2.2.2.2.2.2.1 z2.2.2.2.2.2 z5.2.2.2.2.2.2.2.2.1 z6.1 z5.2.2.2.2.2.2.2.2.2.1 z5.2.2.2.2.2.2.2.2.2.2.1 z5.2.2.2.2.2.2.2.2.2.2.2 z6.2.1 z6.2.2)) (c' := 0) (s' := 0) rfl ?_
  refine Rn.br (P := ¬ z5.2.2.2.2.2.2.1 = 0) (pc1 := 100) (pc2 := 96) rfl rfl (fun h4 => ?_) (fun h4 => ?_)
  · rw [if_pos h4] at hp
    refine Rn.go 1 (pc' := 101) (lv' := [(0, .ref 0), (1, .int x1), (2, .ref 3), (3, .int z5.1)]) (st' := [.int (0 : Int32)]) (es' := (wX7_Reader_Night r_bytes z5.2.1 (0 : Int32) (if r_filled < x1 then r_filled else x1) z5.2.2.1 z5.2.2.2.1 z5.2.2.2.2.1 z5.2.2.2.2.2.1 z5.2.2.2.2.2.2.1 z5.2.2.2.2.2.2.2.1 z2.2.2.2.2.2 z5.2.2.2.2.2.2.2.2.1 z6.1 z5.2.2.2.2.2.2.2.2.2.1 z5.2.2.2.2.2.2.2.2.2.2.1 z5.2.2.2.2.2.2.2.2.2.2.2 z6.2.1 z6.2.2)) (c' := 0) (s' := 0) rfl ?_
    obtain rfl := Option.some.inj hp
    exact Rn.fin rfl rfl rfl
  · rw [if_neg h4] at hp
    refine Rn.go 2 (pc' := 101) (lv' := [(0, .ref 0), (1, .int x1), (2, .ref 3), (3, .int z5.1)]) (st' := [.int (1 : Int32)]) (es' := (wX7_Reader_Night r_bytes z5.2.1 (0 : Int32) (if r_filled < x1 then r_filled else x1) z5.2.2.1 z5.2.2.2.1 z5.2.2.2.2.1 z5.2.2.2.2.2.1 z5.2.2.2.2.2.2.1 z5.2.2.2.2.2.2.2.1 z2.2.2.2.2.2 z5.2.2.2.2.2.2.2.2.1 z6.1 z5.2.2.2.2.2.2.2.2.2.1 z5.2.2.2.2.2.2.2.2.2.2.1 z5.2.2.2.2.2.2.2.2.2.2.2 z6.2.1 z6.2.2)) (c' := 0) (s' := 0) rfl ?_
    obtain rfl := Option.some.inj hp
    exact Rn.fin rfl rfl rfl
theorem qX7_read : CtA yX7_read (.code yX7_read cX7_read 4 (some .boolean)) 6 133 [] rX7_read := CtA.of (by decide +kernel) (fun pc op h => kX7_read _ (lkp_mem h)) oX7_read
