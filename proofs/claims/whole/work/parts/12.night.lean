/-! java/util/Arrays.fill([II)V -/
def lpJ7_fill_53178_6_5 (l1 : Int32) (l3 : Int32) : Nat → Int32 → (Nat → Int32) → Option (Int32 × (Nat → Int32))
  | 0, _, _ => none
  | fu + 1, l2, a0 =>
    if l3 ≤ l2 then
      some (l2, a0)
    else
      if (l2 < 0 ∨ 6 ≤ l2.toNatClampNeg) then none else
      lpJ7_fill_53178_6_5 l1 l3 fu (l2 + (1 : Int32)) (upd a0 l2.toNatClampNeg l1)
def pJ7_fill_53178_6 (x1 : Int32) (a0 : Nat → Int32) : Option ((Nat → Int32)) :=
  ob (lpJ7_fill_53178_6_5 x1 (nI 6) lpF (0 : Int32) a0) (fun z1 =>
  some z1.2)
def rJ7_fill_53178_6 : List Value → List va_E → op_O → Prop := fun avs es r => ∃ (x1 : Int32) (a0 : Nat → Int32) (z : (Nat → Int32)), avs = [.ref 0, .int x1] ∧ es = [kI 6 a0] ∧ pJ7_fill_53178_6 x1 a0 = some z ∧ r = (.inl none, [kI 6 z], 0, 0)
def bJ7_fill_53178_6 : List (Nat × (op_T ⊕ op_R)) := [(0, .inl (o_push 1 (.int (0)))), (1, .inl (o_istore 2 2)), (2, .inl (o_aload 3 0)), (3, .inl (o_alen 4)), (4, .inl (nrm [0, 1, 2, 3] (o_istore 5 3))), (5, .inl (o_iload 6 2)), (6, .inl (o_iload 7 3)), (7, .inl (o_icmpge 10 20)), (10, .inl (o_aload 11 0)), (11, .inl (o_iload 12 2)), (12, .inl (o_iload 13 1)), (13, .inl (o_iast 14)), (14, .inl (o_iinc 17 2 (1))), (17, .inl (nrm [0, 1, 2, 3] (o_goto 5))), (20, .inl (o_vret))]
set_option maxRecDepth 100000 in
set_option maxHeartbeats 4000000 in
theorem kJ7_fill_53178_6 : ∀ q ∈ bJ7_fill_53178_6, ok2 0 0 4 cJ7_fill_53178 yJ7_fill_53178.cls yJ7_fill_53178.name none (.code yJ7_fill_53178 cJ7_fill_53178 4 none) [] [] q.1 q.2 := (al_c (s_iconst (n := 0) (0) (by decide) (by decide +kernel)) (al_c (s_istore_n (k := 2) rfl (by decide) (by decide +kernel)) (al_c (s_aload_n (k := 0) (by decide +kernel)) (al_c (s_alen (by decide +kernel)) (al_c (s_nrm [0, 1, 2, 3] (s_istore_n (k := 3) rfl (by decide) (by decide +kernel))) (al_c (s_iload_n (k := 2) (by decide +kernel)) (al_c (s_iload_n (k := 3) (by decide +kernel)) (al_c (s_icmpge (off := 13) 20 (by decide) (by decide +kernel)) (al_c (s_aload_n (k := 0) (by decide +kernel)) (al_c (s_iload_n (k := 2) (by decide +kernel)) (al_c (s_iload_n (k := 1) (by decide +kernel)) (al_c (s_iast (by decide +kernel)) (al_c (s_iinc (n := 1) (1) (by decide) (by decide) (by decide +kernel)) (al_c (s_nrm [0, 1, 2, 3] (s_goto (off := -12) 5 (by decide) (by decide +kernel))) (al_c (s_vret rfl (by decide +kernel)) al_n)))))))))))))))
set_option maxRecDepth 100000 in
set_option maxHeartbeats 4000000 in
theorem lrJ7_fill_53178_6_5 (l1 : Int32) (l3 : Int32) : ∀ (fu : Nat) (l2 : Int32) (a0 : Nat → Int32) (z : (Int32 × (Nat → Int32))), lpJ7_fill_53178_6_5 l1 l3 fu l2 a0 = some z → ∀ (c s : Nat) (r : op_O), Rn (lkp bJ7_fill_53178_6) 20 [(0, .ref 0), (1, .int l1), (2, .int z.1), (3, .int l3)] [] [kI 6 z.2] c s r → Rn (lkp bJ7_fill_53178_6) 5 [(0, .ref 0), (1, .int l1), (2, .int l2), (3, .int l3)] [] [kI 6 a0] c s r := by
  intro fu
  induction fu with
  | zero => intro l2 a0 z hp; cases hp
  | succ fu ih =>
      intro l2 a0 z hp c s r k
      unfold lpJ7_fill_53178_6_5 at hp
      refine Rn.go 2 (pc' := 7) (lv' := [(0, .ref 0), (1, .int l1), (2, .int l2), (3, .int l3)]) (st' := [.int l3, .int l2]) (es' := [kI 6 a0]) (c' := c) (s' := s) rfl ?_
      refine Rn.br (P := l3 ≤ l2) (pc1 := 20) (pc2 := 10) rfl rfl (fun h1 => ?_) (fun h1 => ?_)
      · rw [if_pos h1] at hp
        obtain rfl := Option.some.inj hp
        exact k
      · rw [if_neg h1] at hp
        refine Rn.go 3 (pc' := 13) (lv' := [(0, .ref 0), (1, .int l1), (2, .int l2), (3, .int l3)]) (st' := [.int l1, .int l2, .ref 0]) (es' := [kI 6 a0]) (c' := c) (s' := s) rfl ?_
        by_cases h2 : (l2 < 0 ∨ 6 ≤ l2.toNatClampNeg)
        · rw [if_pos h2] at hp; cases hp
        · rw [if_neg h2] at hp
          refine Rn.gd (pc' := 14) (lv' := [(0, .ref 0), (1, .int l1), (2, .int l2), (3, .int l3)]) (st' := []) (es' := [kI 6 (upd a0 l2.toNatClampNeg l1)]) rfl rfl h2 ?_
          refine Rn.go 2 (pc' := 5) (lv' := [(0, .ref 0), (1, .int l1), (2, .int (l2 + (1 : Int32))), (3, .int l3)]) (st' := []) (es' := [kI 6 (upd a0 l2.toNatClampNeg l1)]) (c' := c) (s' := s) rfl ?_
          exact ih (l2 + (1 : Int32)) (upd a0 l2.toNatClampNeg l1) z hp c s r k
set_option maxRecDepth 100000 in
set_option maxHeartbeats 4000000 in
theorem oJ7_fill_53178_6 : Of (lkp bJ7_fill_53178_6) 4 rJ7_fill_53178_6 := by
  intro avs es r h
  obtain ⟨x1, a0, z, rfl, rfl, hp, rfl⟩ := h
  refine ⟨Nat.le_of_ble_eq_true rfl, ?_⟩
  unfold pJ7_fill_53178_6 at hp
  refine Rn.go 5 (pc' := 5) (lv' := [(0, .ref 0), (1, .int x1), (2, .int (0 : Int32)), (3, .int (nI 6))]) (st' := []) (es' := [kI 6 a0]) (c' := 0) (s' := 0) rfl ?_
  obtain ⟨z1, hz1, hp⟩ := ob_some hp
  refine lrJ7_fill_53178_6_5 x1 (nI 6) _ (0 : Int32) a0 z1 hz1 _ _ _ ?_
  obtain rfl := Option.some.inj hp
  exact Rn.fin rfl rfl rfl
theorem qJ7_fill_53178_6 : CtA yJ7_fill_53178 (.code yJ7_fill_53178 cJ7_fill_53178 4 none) 0 0 [] rJ7_fill_53178_6 := CtA.of (by decide +kernel) (fun pc op h => kJ7_fill_53178_6 _ (lkp_mem h)) oJ7_fill_53178_6
/-! TelescopeNight$Night.setDefaults()V -/
def pX2_setDefaults (n_moon : Nat → Int32) (n_percents : Nat → Int32) : Option ((Nat → Int32) × (Nat → Int32)) :=
  ob (pJ7_fill_53178_6 (0 : Int32) n_moon) (fun z1 =>
  some ((upd (upd z1 1 ((1 : Int32))) 2 ((-10 : Int32))), (upd (upd (upd n_percents 0 ((50 : Int32))) 1 ((80 : Int32))) 2 ((30 : Int32)))))
def rX2_setDefaults : List Value → List va_E → op_O → Prop := fun avs es r => ∃ (n_slots : Int32) (n_targets : Int32) (n_teams : Int32) (n_moon : Nat → Int32) (n_percents : Nat → Int32) (n_numbers : Nat → Int32) (n_seen : Nat → Int32) (n_odds : Nat → Int32) (z : (Nat → Int32) × (Nat → Int32)), avs = [.ref 0] ∧ es = (wX2_Night n_slots n_targets n_teams n_moon n_percents n_numbers n_seen n_odds) ∧ pX2_setDefaults n_moon n_percents = some z ∧ r = (.inl none, (wX2_Night (6 : Int32) (0 : Int32) n_teams z.1 z.2 n_numbers n_seen n_odds), 0, 0)
def bX2_setDefaults : List (Nat × (op_T ⊕ op_R)) := [(0, .inl (o_aload 1 0)), (1, .inl (o_push 3 (.int (6)))), (3, .inl (o_put 6 2 0 .int)), (6, .inl (o_aload 7 0)), (7, .inl (o_push 8 (.int (0)))), (8, .inl (o_put 11 2 1 .int)), (11, .inl (o_aload 12 0)), (12, .inl (o_get 15 2 3)), (15, .inl (o_push 16 (.int (0)))), (16, .inr (o_callS [] [] 19 2 rJ7_fill_53178_6)), (19, .inl (o_aload 20 0)), (20, .inl (o_get 23 2 3)), (23, .inl (o_push 24 (.int (1)))), (24, .inl (o_push 25 (.int (1)))), (25, .inl (o_iast 26)), (26, .inl (o_aload 27 0)), (27, .inl (o_get 30 2 3)), (30, .inl (o_push 31 (.int (2)))), (31, .inl (o_push 33 (.int (-10)))), (33, .inl (o_iast 34)), (34, .inl (o_aload 35 0)), (35, .inl (o_get 38 2 4)), (38, .inl (o_push 39 (.int (0)))), (39, .inl (o_push 41 (.int (50)))), (41, .inl (o_iast 42)), (42, .inl (o_aload 43 0)), (43, .inl (o_get 46 2 4)), (46, .inl (o_push 47 (.int (1)))), (47, .inl (o_push 49 (.int (80)))), (49, .inl (o_iast 50)), (50, .inl (o_aload 51 0)), (51, .inl (o_get 54 2 4)), (54, .inl (o_push 55 (.int (2)))), (55, .inl (o_push 57 (.int (30)))), (57, .inl (o_iast 58)), (58, .inl (o_vret))]
set_option maxRecDepth 100000 in
set_option maxHeartbeats 4000000 in
theorem kX2_setDefaults : ∀ q ∈ bX2_setDefaults, ok2 1 23 1 cX2_setDefaults yX2_setDefaults.cls yX2_setDefaults.name none (.code yX2_setDefaults cX2_setDefaults 1 none) [] [] q.1 q.2 := (al_c (s_aload_n (k := 0) (by decide +kernel)) (al_c (s_bipush (n := 6) (6) (by decide) (by decide +kernel)) (al_c (s_put (C9 := RX2) (T9 := TX2) (N9 := 8) (ci := 2) (k := 0) iX2 rfl (by decide) w_81 tyX2 tyX2_ok nmX2 rfl (by decide +kernel)) (al_c (s_aload_n (k := 0) (by decide +kernel)) (al_c (s_iconst (n := 0) (0) (by decide) (by decide +kernel)) (al_c (s_put (C9 := RX2) (T9 := TX2) (N9 := 8) (ci := 2) (k := 1) iX2 rfl (by decide) w_87 tyX2 tyX2_ok nmX2 rfl (by decide +kernel)) (al_c (s_aload_n (k := 0) (by decide +kernel)) (al_c (s_get (C9 := RX2) (T9 := TX2) (N9 := 8) (ci := 2) (k := 3) iX2 rfl (by decide) w_95 (by decide +kernel)) (al_c (s_iconst (n := 0) (0) (by decide) (by decide +kernel)) (al_c (s_callS (y := yJ7_fill_53178) (bytes := cJ7_fill_53178) (maxL := 4) (ret' := none) (fr' := 0) (lo' := 0) (n := 2) (ml := []) (mlc := []) qJ7_fill_53178_6 w_43 w_44 w_3 w_45 ⟨by decide +kernel, by decide +kernel, by decide +kernel⟩ (by decide) (by decide) (by decide +kernel)) (al_c (s_aload_n (k := 0) (by decide +kernel)) (al_c (s_get (C9 := RX2) (T9 := TX2) (N9 := 8) (ci := 2) (k := 3) iX2 rfl (by decide) w_95 (by decide +kernel)) (al_c (s_iconst (n := 1) (1) (by decide) (by decide +kernel)) (al_c (s_iconst (n := 1) (1) (by decide) (by decide +kernel)) (al_c (s_iast (by decide +kernel)) (al_c (s_aload_n (k := 0) (by decide +kernel)) (al_c (s_get (C9 := RX2) (T9 := TX2) (N9 := 8) (ci := 2) (k := 3) iX2 rfl (by decide) w_95 (by decide +kernel)) (al_c (s_iconst (n := 2) (2) (by decide) (by decide +kernel)) (al_c (s_bipush (n := -10) (-10) (by decide) (by decide +kernel)) (al_c (s_iast (by decide +kernel)) (al_c (s_aload_n (k := 0) (by decide +kernel)) (al_c (s_get (C9 := RX2) (T9 := TX2) (N9 := 8) (ci := 2) (k := 4) iX2 rfl (by decide) w_97 (by decide +kernel)) (al_c (s_iconst (n := 0) (0) (by decide) (by decide +kernel)) (al_c (s_bipush (n := 50) (50) (by decide) (by decide +kernel)) (al_c (s_iast (by decide +kernel)) (al_c (s_aload_n (k := 0) (by decide +kernel)) (al_c (s_get (C9 := RX2) (T9 := TX2) (N9 := 8) (ci := 2) (k := 4) iX2 rfl (by decide) w_97 (by decide +kernel)) (al_c (s_iconst (n := 1) (1) (by decide) (by decide +kernel)) (al_c (s_bipush (n := 80) (80) (by decide) (by decide +kernel)) (al_c (s_iast (by decide +kernel)) (al_c (s_aload_n (k := 0) (by decide +kernel)) (al_c (s_get (C9 := RX2) (T9 := TX2) (N9 := 8) (ci := 2) (k := 4) iX2 rfl (by decide) w_97 (by decide +kernel)) (al_c (s_iconst (n := 2) (2) (by decide) (by decide +kernel)) (al_c (s_bipush (n := 30) (30) (by decide) (by decide +kernel)) (al_c (s_iast (by decide +kernel)) (al_c (s_vret rfl (by decide +kernel)) al_n))))))))))))))))))))))))))))))))))))
set_option maxRecDepth 100000 in
set_option maxHeartbeats 4000000 in
theorem oX2_setDefaults : Of (lkp bX2_setDefaults) 1 rX2_setDefaults := by
  intro avs es r h
  obtain ⟨n_slots, n_targets, n_teams, n_moon, n_percents, n_numbers, n_seen, n_odds, z, rfl, rfl, hp, rfl⟩ := h
  refine ⟨Nat.le_of_ble_eq_true rfl, ?_⟩
  unfold pX2_setDefaults at hp
  refine Rn.go 9 (pc' := 16) (lv' := [(0, .ref 0)]) (st' := [.int (0 : Int32), .ref 1]) (es' := (wX2_Night (6 : Int32) (0 : Int32) n_teams n_moon n_percents n_numbers n_seen n_odds)) (c' := 0) (s' := 0) rfl ?_
  obtain ⟨z1, hz1, hp⟩ := ob_some hp
  refine Rn.rel (pc' := 19) (lv' := [(0, .ref 0)]) (st' := []) (es' := (wX2_Night (6 : Int32) (0 : Int32) n_teams z1 n_percents n_numbers n_seen n_odds)) (dc := 0) (ds := 0) rfl ⟨[.ref 1, .int (0 : Int32)], [1], .inl none, [kI 6 z1], 0, 0, rfl, rfl, Nat.le_of_ble_eq_true rfl, ⟨(0 : Int32), n_moon, z1, rfl, rfl, hz1, rfl⟩, rfl⟩ ?_
  refine Rn.go 5 (pc' := 26) (lv' := [(0, .ref 0)]) (st' := []) (es' := (wX2_Night (6 : Int32) (0 : Int32) n_teams (upd z1 1 ((1 : Int32))) n_percents n_numbers n_seen n_odds)) (c' := 0) (s' := 0) rfl ?_
  refine Rn.go 5 (pc' := 34) (lv' := [(0, .ref 0)]) (st' := []) (es' := (wX2_Night (6 : Int32) (0 : Int32) n_teams (upd (upd z1 1 ((1 : Int32))) 2 ((-10 : Int32))) n_percents n_numbers n_seen n_odds)) (c' := 0) (s' := 0) rfl ?_
  refine Rn.go 5 (pc' := 42) (lv' := [(0, .ref 0)]) (st' := []) (es' := (wX2_Night (6 : Int32) (0 : Int32) n_teams (upd (upd z1 1 ((1 : Int32))) 2 ((-10 : Int32))) (upd n_percents 0 ((50 : Int32))) n_numbers n_seen n_odds)) (c' := 0) (s' := 0) rfl ?_
  refine Rn.go 5 (pc' := 50) (lv' := [(0, .ref 0)]) (st' := []) (es' := (wX2_Night (6 : Int32) (0 : Int32) n_teams (upd (upd z1 1 ((1 : Int32))) 2 ((-10 : Int32))) (upd (upd n_percents 0 ((50 : Int32))) 1 ((80 : Int32))) n_numbers n_seen n_odds)) (c' := 0) (s' := 0) rfl ?_
  refine Rn.go 5 (pc' := 58) (lv' := [(0, .ref 0)]) (st' := []) (es' := (wX2_Night (6 : Int32) (0 : Int32) n_teams (upd (upd z1 1 ((1 : Int32))) 2 ((-10 : Int32))) (upd (upd (upd n_percents 0 ((50 : Int32))) 1 ((80 : Int32))) 2 ((30 : Int32))) n_numbers n_seen n_odds)) (c' := 0) (s' := 0) rfl ?_
  obtain rfl := Option.some.inj hp
  exact Rn.fin rfl rfl rfl
theorem qX2_setDefaults : CtA yX2_setDefaults (.code yX2_setDefaults cX2_setDefaults 1 none) 1 23 [] rX2_setDefaults := CtA.of (by decide +kernel) (fun pc op h => kX2_setDefaults _ (lkp_mem h)) oX2_setDefaults
/-! TelescopeNight$Night.number(II)I -/
def pX2_number (x1 : Int32) (x2 : Int32) (n_numbers : Nat → Int32) : Option (Int32) :=
  if ((x1 * (9 : Int32)) + x2) < 0 then
    some (0 : Int32)
  else
    if (nI 54) ≤ ((x1 * (9 : Int32)) + x2) then
      some (0 : Int32)
    else
      if (((x1 * (9 : Int32)) + x2) < 0 ∨ 54 ≤ (((x1 * (9 : Int32)) + x2)).toNatClampNeg) then none else
      some (n_numbers (((x1 * (9 : Int32)) + x2)).toNatClampNeg)
def rX2_number : List Value → List va_E → op_O → Prop := fun avs es r => ∃ (x1 : Int32) (x2 : Int32) (n_slots : Int32) (n_targets : Int32) (n_teams : Int32) (n_moon : Nat → Int32) (n_percents : Nat → Int32) (n_numbers : Nat → Int32) (n_seen : Nat → Int32) (n_odds : Nat → Int32) (z : Int32), avs = [.ref 0, .int x1, .int x2] ∧ es = (wX2_Night n_slots n_targets n_teams n_moon n_percents n_numbers n_seen n_odds) ∧ pX2_number x1 x2 n_numbers = some z ∧ r = (.inl (some (.int z)), (wX2_Night n_slots n_targets n_teams n_moon n_percents n_numbers n_seen n_odds), 0, 0)
def bX2_number : List (Nat × (op_T ⊕ op_R)) := [(0, .inl (o_iload 1 1)), (1, .inl (o_push 3 (.int (9)))), (3, .inl (o_ii 4 (fun x y => x * y))), (4, .inl (o_iload 5 2)), (5, .inl (o_ii 6 (fun x y => x + y))), (6, .inl (o_istore 7 3)), (7, .inl (o_iload 8 3)), (8, .inl (o_iflt 11 29)), (11, .inl (o_iload 12 3)), (12, .inl (o_aload 13 0)), (13, .inl (o_get 16 2 5)), (16, .inl (o_alen 17)), (17, .inl (o_icmpge 20 29)), (20, .inl (o_aload 21 0)), (21, .inl (o_get 24 2 5)), (24, .inl (o_iload 25 3)), (25, .inl (o_iald 26)), (26, .inl (o_goto 30)), (29, .inl (o_push 30 (.int (0)))), (30, .inl (o_iret))]
set_option maxRecDepth 100000 in
set_option maxHeartbeats 4000000 in
theorem kX2_number : ∀ q ∈ bX2_number, ok2 0 0 4 cX2_number yX2_number.cls yX2_number.name (some .int) (.code yX2_number cX2_number 4 (some .int)) [] [] q.1 q.2 := (al_c (s_iload_n (k := 1) (by decide +kernel)) (al_c (s_bipush (n := 9) (9) (by decide) (by decide +kernel)) (al_c (s_imul (by decide +kernel)) (al_c (s_iload_n (k := 2) (by decide +kernel)) (al_c (s_iadd (by decide +kernel)) (al_c (s_istore_n (k := 3) rfl (by decide) (by decide +kernel)) (al_c (s_iload_n (k := 3) (by decide +kernel)) (al_c (s_iflt (off := 21) 29 (by decide) (by decide +kernel)) (al_c (s_iload_n (k := 3) (by decide +kernel)) (al_c (s_aload_n (k := 0) (by decide +kernel)) (al_c (s_get (C9 := RX2) (T9 := TX2) (N9 := 8) (ci := 2) (k := 5) iX2 rfl (by decide) w_102 (by decide +kernel)) (al_c (s_alen (by decide +kernel)) (al_c (s_icmpge (off := 12) 29 (by decide) (by decide +kernel)) (al_c (s_aload_n (k := 0) (by decide +kernel)) (al_c (s_get (C9 := RX2) (T9 := TX2) (N9 := 8) (ci := 2) (k := 5) iX2 rfl (by decide) w_102 (by decide +kernel)) (al_c (s_iload_n (k := 3) (by decide +kernel)) (al_c (s_iald (by decide +kernel)) (al_c (s_goto (off := 4) 30 (by decide) (by decide +kernel)) (al_c (s_iconst (n := 0) (0) (by decide) (by decide +kernel)) (al_c (s_iret rfl (by decide +kernel)) al_n))))))))))))))))))))
set_option maxRecDepth 100000 in
set_option maxHeartbeats 4000000 in
theorem oX2_number : Of (lkp bX2_number) 4 rX2_number := by
  intro avs es r h
  obtain ⟨x1, x2, n_slots, n_targets, n_teams, n_moon, n_percents, n_numbers, n_seen, n_odds, z, rfl, rfl, hp, rfl⟩ := h
  refine ⟨Nat.le_of_ble_eq_true rfl, ?_⟩
  unfold pX2_number at hp
  refine Rn.go 7 (pc' := 8) (lv' := [(3, .int ((x1 * (9 : Int32)) + x2)), (0, .ref 0), (1, .int x1), (2, .int x2)]) (st' := [.int ((x1 * (9 : Int32)) + x2)]) (es' := (wX2_Night n_slots n_targets n_teams n_moon n_percents n_numbers n_seen n_odds)) (c' := 0) (s' := 0) rfl ?_
  refine Rn.br (P := ((x1 * (9 : Int32)) + x2) < 0) (pc1 := 29) (pc2 := 11) rfl rfl (fun h1 => ?_) (fun h1 => ?_)
  · rw [if_pos h1] at hp
    refine Rn.go 1 (pc' := 30) (lv' := [(3, .int ((x1 * (9 : Int32)) + x2)), (0, .ref 0), (1, .int x1), (2, .int x2)]) (st' := [.int (0 : Int32)]) (es' := (wX2_Night n_slots n_targets n_teams n_moon n_percents n_numbers n_seen n_odds)) (c' := 0) (s' := 0) rfl ?_
    obtain rfl := Option.some.inj hp
    exact Rn.fin rfl rfl rfl
  · rw [if_neg h1] at hp
    refine Rn.go 4 (pc' := 17) (lv' := [(3, .int ((x1 * (9 : Int32)) + x2)), (0, .ref 0), (1, .int x1), (2, .int x2)]) (st' := [.int (nI 54), .int ((x1 * (9 : Int32)) + x2)]) (es' := (wX2_Night n_slots n_targets n_teams n_moon n_percents n_numbers n_seen n_odds)) (c' := 0) (s' := 0) rfl ?_
    refine Rn.br (P := (nI 54) ≤ ((x1 * (9 : Int32)) + x2)) (pc1 := 29) (pc2 := 20) rfl rfl (fun h2 => ?_) (fun h2 => ?_)
    · rw [if_pos h2] at hp
      refine Rn.go 1 (pc' := 30) (lv' := [(3, .int ((x1 * (9 : Int32)) + x2)), (0, .ref 0), (1, .int x1), (2, .int x2)]) (st' := [.int (0 : Int32)]) (es' := (wX2_Night n_slots n_targets n_teams n_moon n_percents n_numbers n_seen n_odds)) (c' := 0) (s' := 0) rfl ?_
      obtain rfl := Option.some.inj hp
      exact Rn.fin rfl rfl rfl
    · rw [if_neg h2] at hp
      refine Rn.go 3 (pc' := 25) (lv' := [(3, .int ((x1 * (9 : Int32)) + x2)), (0, .ref 0), (1, .int x1), (2, .int x2)]) (st' := [.int ((x1 * (9 : Int32)) + x2), .ref 3]) (es' := (wX2_Night n_slots n_targets n_teams n_moon n_percents n_numbers n_seen n_odds)) (c' := 0) (s' := 0) rfl ?_
      by_cases h3 : (((x1 * (9 : Int32)) + x2) < 0 ∨ 54 ≤ (((x1 * (9 : Int32)) + x2)).toNatClampNeg)
      · rw [if_pos h3] at hp; cases hp
      · rw [if_neg h3] at hp
        refine Rn.gd (pc' := 26) (lv' := [(3, .int ((x1 * (9 : Int32)) + x2)), (0, .ref 0), (1, .int x1), (2, .int x2)]) (st' := [.int (n_numbers (((x1 * (9 : Int32)) + x2)).toNatClampNeg)]) (es' := (wX2_Night n_slots n_targets n_teams n_moon n_percents n_numbers n_seen n_odds)) rfl rfl h3 ?_
        refine Rn.go 1 (pc' := 30) (lv' := [(3, .int ((x1 * (9 : Int32)) + x2)), (0, .ref 0), (1, .int x1), (2, .int x2)]) (st' := [.int (n_numbers (((x1 * (9 : Int32)) + x2)).toNatClampNeg)]) (es' := (wX2_Night n_slots n_targets n_teams n_moon n_percents n_numbers n_seen n_odds)) (c' := 0) (s' := 0) rfl ?_
        obtain rfl := Option.some.inj hp
        exact Rn.fin rfl rfl rfl
theorem qX2_number : CtA yX2_number (.code yX2_number cX2_number 4 (some .int)) 0 0 [] rX2_number := CtA.of (by decide +kernel) (fun pc op h => kX2_number _ (lkp_mem h)) oX2_number
/-! TelescopeNight$Night.targetHeight(II)I -/
def pX2_targetHeight (x1 : Int32) (x2 : Int32) (n_numbers : Nat → Int32) : Option (Int32) :=
  ob (pX2_number x1 (3 : Int32) n_numbers) (fun z1 =>
  ob (pX2_number x1 (1 : Int32) n_numbers) (fun z2 =>
  ob (pX2_number x1 (2 : Int32) n_numbers) (fun z3 =>
  some (z2 - ((z3 * (x2 - z1)) * (x2 - z1))))))
def rX2_targetHeight : List Value → List va_E → op_O → Prop := fun avs es r => ∃ (x1 : Int32) (x2 : Int32) (n_slots : Int32) (n_targets : Int32) (n_teams : Int32) (n_moon : Nat → Int32) (n_percents : Nat → Int32) (n_numbers : Nat → Int32) (n_seen : Nat → Int32) (n_odds : Nat → Int32) (z : Int32), avs = [.ref 0, .int x1, .int x2] ∧ es = (wX2_Night n_slots n_targets n_teams n_moon n_percents n_numbers n_seen n_odds) ∧ pX2_targetHeight x1 x2 n_numbers = some z ∧ r = (.inl (some (.int z)), (wX2_Night n_slots n_targets n_teams n_moon n_percents n_numbers n_seen n_odds), 0, 0)
def bX2_targetHeight : List (Nat × (op_T ⊕ op_R)) := [(0, .inl (o_iload 1 2)), (1, .inl (o_aload 2 0)), (2, .inl (o_iload 3 1)), (3, .inl (o_push 4 (.int (3)))), (4, .inr (o_callV [] [] 7 2 2 rX2_number)), (7, .inl (o_ii 8 (fun x y => x - y))), (8, .inl (o_istore 9 3)), (9, .inl (o_aload 10 0)), (10, .inl (o_iload 11 1)), (11, .inl (o_push 12 (.int (1)))), (12, .inr (o_callV [] [] 15 2 2 rX2_number)), (15, .inl (o_aload 16 0)), (16, .inl (o_iload 17 1)), (17, .inl (o_push 18 (.int (2)))), (18, .inr (o_callV [] [] 21 2 2 rX2_number)), (21, .inl (o_iload 22 3)), (22, .inl (o_ii 23 (fun x y => x * y))), (23, .inl (o_iload 24 3)), (24, .inl (o_ii 25 (fun x y => x * y))), (25, .inl (o_ii 26 (fun x y => x - y))), (26, .inl (o_iret))]
set_option maxRecDepth 100000 in
set_option maxHeartbeats 4000000 in
theorem kX2_targetHeight : ∀ q ∈ bX2_targetHeight, ok2 1 23 4 cX2_targetHeight yX2_targetHeight.cls yX2_targetHeight.name (some .int) (.code yX2_targetHeight cX2_targetHeight 4 (some .int)) [] [] q.1 q.2 := (al_c (s_iload_n (k := 2) (by decide +kernel)) (al_c (s_aload_n (k := 0) (by decide +kernel)) (al_c (s_iload_n (k := 1) (by decide +kernel)) (al_c (s_iconst (n := 3) (3) (by decide) (by decide +kernel)) (al_c (s_callV (y := yX2_number) (bytes := cX2_number) (maxL := 4) (ret' := (some .int)) (fr' := 0) (lo' := 0) (n := 2) (ml := []) (mlc := []) (ci := 2) (q9 := (RX2, TX2, 8)) qX2_number w_50 w_51 w_52 w_2 w_53 ⟨by decide +kernel, by decide +kernel, by decide +kernel⟩ rfl rfl (by decide) (by decide) (by decide +kernel)) (al_c (s_isub (by decide +kernel)) (al_c (s_istore_n (k := 3) rfl (by decide) (by decide +kernel)) (al_c (s_aload_n (k := 0) (by decide +kernel)) (al_c (s_iload_n (k := 1) (by decide +kernel)) (al_c (s_iconst (n := 1) (1) (by decide) (by decide +kernel)) (al_c (s_callV (y := yX2_number) (bytes := cX2_number) (maxL := 4) (ret' := (some .int)) (fr' := 0) (lo' := 0) (n := 2) (ml := []) (mlc := []) (ci := 2) (q9 := (RX2, TX2, 8)) qX2_number w_50 w_51 w_52 w_2 w_53 ⟨by decide +kernel, by decide +kernel, by decide +kernel⟩ rfl rfl (by decide) (by decide) (by decide +kernel)) (al_c (s_aload_n (k := 0) (by decide +kernel)) (al_c (s_iload_n (k := 1) (by decide +kernel)) (al_c (s_iconst (n := 2) (2) (by decide) (by decide +kernel)) (al_c (s_callV (y := yX2_number) (bytes := cX2_number) (maxL := 4) (ret' := (some .int)) (fr' := 0) (lo' := 0) (n := 2) (ml := []) (mlc := []) (ci := 2) (q9 := (RX2, TX2, 8)) qX2_number w_50 w_51 w_52 w_2 w_53 ⟨by decide +kernel, by decide +kernel, by decide +kernel⟩ rfl rfl (by decide) (by decide) (by decide +kernel)) (al_c (s_iload_n (k := 3) (by decide +kernel)) (al_c (s_imul (by decide +kernel)) (al_c (s_iload_n (k := 3) (by decide +kernel)) (al_c (s_imul (by decide +kernel)) (al_c (s_isub (by decide +kernel)) (al_c (s_iret rfl (by decide +kernel)) al_n)))))))))))))))))))))
set_option maxRecDepth 100000 in
set_option maxHeartbeats 4000000 in
theorem oX2_targetHeight : Of (lkp bX2_targetHeight) 4 rX2_targetHeight := by
  intro avs es r h
  obtain ⟨x1, x2, n_slots, n_targets, n_teams, n_moon, n_percents, n_numbers, n_seen, n_odds, z, rfl, rfl, hp, rfl⟩ := h
  refine ⟨Nat.le_of_ble_eq_true rfl, ?_⟩
  unfold pX2_targetHeight at hp
  refine Rn.go 4 (pc' := 4) (lv' := [(0, .ref 0), (1, .int x1), (2, .int x2)]) (st' := [.int (3 : Int32), .int x1, .ref 0, .int x2]) (es' := (wX2_Night n_slots n_targets n_teams n_moon n_percents n_numbers n_seen n_odds)) (c' := 0) (s' := 0) rfl ?_
  obtain ⟨z1, hz1, hp⟩ := ob_some hp
  refine Rn.rel (pc' := 7) (lv' := [(0, .ref 0), (1, .int x1), (2, .int x2)]) (st' := [.int z1, .int x2]) (es' := (wX2_Night n_slots n_targets n_teams n_moon n_percents n_numbers n_seen n_odds)) (dc := 0) (ds := 0) rfl ⟨0, [.int x1, .int (3 : Int32)], _, [0, 1, 2, 3, 4, 5], .inl (some (.int z1)), (wX2_Night n_slots n_targets n_teams n_moon n_percents n_numbers n_seen n_odds), 0, 0, rfl, rfl, Nat.le_of_ble_eq_true rfl, rfl, ⟨x1, (3 : Int32), n_slots, n_targets, n_teams, n_moon, n_percents, n_numbers, n_seen, n_odds, z1, rfl, rfl, hz1, rfl⟩, rfl⟩ ?_
  refine Rn.go 5 (pc' := 12) (lv' := [(3, .int (x2 - z1)), (0, .ref 0), (1, .int x1), (2, .int x2)]) (st' := [.int (1 : Int32), .int x1, .ref 0]) (es' := (wX2_Night n_slots n_targets n_teams n_moon n_percents n_numbers n_seen n_odds)) (c' := 0) (s' := 0) rfl ?_
  obtain ⟨z2, hz2, hp⟩ := ob_some hp
  refine Rn.rel (pc' := 15) (lv' := [(3, .int (x2 - z1)), (0, .ref 0), (1, .int x1), (2, .int x2)]) (st' := [.int z2]) (es' := (wX2_Night n_slots n_targets n_teams n_moon n_percents n_numbers n_seen n_odds)) (dc := 0) (ds := 0) rfl ⟨0, [.int x1, .int (1 : Int32)], _, [0, 1, 2, 3, 4, 5], .inl (some (.int z2)), (wX2_Night n_slots n_targets n_teams n_moon n_percents n_numbers n_seen n_odds), 0, 0, rfl, rfl, Nat.le_of_ble_eq_true rfl, rfl, ⟨x1, (1 : Int32), n_slots, n_targets, n_teams, n_moon, n_percents, n_numbers, n_seen, n_odds, z2, rfl, rfl, hz2, rfl⟩, rfl⟩ ?_
  refine Rn.go 3 (pc' := 18) (lv' := [(3, .int (x2 - z1)), (0, .ref 0), (1, .int x1), (2, .int x2)]) (st' := [.int (2 : Int32), .int x1, .ref 0, .int z2]) (es' := (wX2_Night n_slots n_targets n_teams n_moon n_percents n_numbers n_seen n_odds)) (c' := 0) (s' := 0) rfl ?_
  obtain ⟨z3, hz3, hp⟩ := ob_some hp
  refine Rn.rel (pc' := 21) (lv' := [(3, .int (x2 - z1)), (0, .ref 0), (1, .int x1), (2, .int x2)]) (st' := [.int z3, .int z2]) (es' := (wX2_Night n_slots n_targets n_teams n_moon n_percents n_numbers n_seen n_odds)) (dc := 0) (ds := 0) rfl ⟨0, [.int x1, .int (2 : Int32)], _, [0, 1, 2, 3, 4, 5], .inl (some (.int z3)), (wX2_Night n_slots n_targets n_teams n_moon n_percents n_numbers n_seen n_odds), 0, 0, rfl, rfl, Nat.le_of_ble_eq_true rfl, rfl, ⟨x1, (2 : Int32), n_slots, n_targets, n_teams, n_moon, n_percents, n_numbers, n_seen, n_odds, z3, rfl, rfl, hz3, rfl⟩, rfl⟩ ?_
  refine Rn.go 5 (pc' := 26) (lv' := [(3, .int (x2 - z1)), (0, .ref 0), (1, .int x1), (2, .int x2)]) (st' := [.int (z2 - ((z3 * (x2 - z1)) * (x2 - z1)))]) (es' := (wX2_Night n_slots n_targets n_teams n_moon n_percents n_numbers n_seen n_odds)) (c' := 0) (s' := 0) rfl ?_
  obtain rfl := Option.some.inj hp
  exact Rn.fin rfl rfl rfl
theorem qX2_targetHeight : CtA yX2_targetHeight (.code yX2_targetHeight cX2_targetHeight 4 (some .int)) 1 23 [] rX2_targetHeight := CtA.of (by decide +kernel) (fun pc op h => kX2_targetHeight _ (lkp_mem h)) oX2_targetHeight
/-! TelescopeNight$Night.heightOfMoon(I)I -/
def pX2_heightOfMoon (x1 : Int32) (n_moon : Nat → Int32) : Option (Int32) :=
  some ((n_moon 0) - (((n_moon 1) * (x1 - (n_moon 2))) * (x1 - (n_moon 2))))
def rX2_heightOfMoon : List Value → List va_E → op_O → Prop := fun avs es r => ∃ (x1 : Int32) (n_slots : Int32) (n_targets : Int32) (n_teams : Int32) (n_moon : Nat → Int32) (n_percents : Nat → Int32) (n_numbers : Nat → Int32) (n_seen : Nat → Int32) (n_odds : Nat → Int32) (z : Int32), avs = [.ref 0, .int x1] ∧ es = (wX2_Night n_slots n_targets n_teams n_moon n_percents n_numbers n_seen n_odds) ∧ pX2_heightOfMoon x1 n_moon = some z ∧ r = (.inl (some (.int z)), (wX2_Night n_slots n_targets n_teams n_moon n_percents n_numbers n_seen n_odds), 0, 0)
def bX2_heightOfMoon : List (Nat × (op_T ⊕ op_R)) := [(0, .inl (o_iload 1 1)), (1, .inl (o_aload 2 0)), (2, .inl (o_get 5 2 3)), (5, .inl (o_push 6 (.int (2)))), (6, .inl (o_iald 7)), (7, .inl (o_ii 8 (fun x y => x - y))), (8, .inl (o_istore 9 2)), (9, .inl (o_aload 10 0)), (10, .inl (o_get 13 2 3)), (13, .inl (o_push 14 (.int (0)))), (14, .inl (o_iald 15)), (15, .inl (o_aload 16 0)), (16, .inl (o_get 19 2 3)), (19, .inl (o_push 20 (.int (1)))), (20, .inl (o_iald 21)), (21, .inl (o_iload 22 2)), (22, .inl (o_ii 23 (fun x y => x * y))), (23, .inl (o_iload 24 2)), (24, .inl (o_ii 25 (fun x y => x * y))), (25, .inl (o_ii 26 (fun x y => x - y))), (26, .inl (o_iret))]
set_option maxRecDepth 100000 in
set_option maxHeartbeats 4000000 in
theorem kX2_heightOfMoon : ∀ q ∈ bX2_heightOfMoon, ok2 0 0 3 cX2_heightOfMoon yX2_heightOfMoon.cls yX2_heightOfMoon.name (some .int) (.code yX2_heightOfMoon cX2_heightOfMoon 3 (some .int)) [] [] q.1 q.2 := (al_c (s_iload_n (k := 1) (by decide +kernel)) (al_c (s_aload_n (k := 0) (by decide +kernel)) (al_c (s_get (C9 := RX2) (T9 := TX2) (N9 := 8) (ci := 2) (k := 3) iX2 rfl (by decide) w_95 (by decide +kernel)) (al_c (s_iconst (n := 2) (2) (by decide) (by decide +kernel)) (al_c (s_iald (by decide +kernel)) (al_c (s_isub (by decide +kernel)) (al_c (s_istore_n (k := 2) rfl (by decide) (by decide +kernel)) (al_c (s_aload_n (k := 0) (by decide +kernel)) (al_c (s_get (C9 := RX2) (T9 := TX2) (N9 := 8) (ci := 2) (k := 3) iX2 rfl (by decide) w_95 (by decide +kernel)) (al_c (s_iconst (n := 0) (0) (by decide) (by decide +kernel)) (al_c (s_iald (by decide +kernel)) (al_c (s_aload_n (k := 0) (by decide +kernel)) (al_c (s_get (C9 := RX2) (T9 := TX2) (N9 := 8) (ci := 2) (k := 3) iX2 rfl (by decide) w_95 (by decide +kernel)) (al_c (s_iconst (n := 1) (1) (by decide) (by decide +kernel)) (al_c (s_iald (by decide +kernel)) (al_c (s_iload_n (k := 2) (by decide +kernel)) (al_c (s_imul (by decide +kernel)) (al_c (s_iload_n (k := 2) (by decide +kernel)) (al_c (s_imul (by decide +kernel)) (al_c (s_isub (by decide +kernel)) (al_c (s_iret rfl (by decide +kernel)) al_n)))))))))))))))))))))
set_option maxRecDepth 100000 in
set_option maxHeartbeats 4000000 in
theorem oX2_heightOfMoon : Of (lkp bX2_heightOfMoon) 3 rX2_heightOfMoon := by
  intro avs es r h
  obtain ⟨x1, n_slots, n_targets, n_teams, n_moon, n_percents, n_numbers, n_seen, n_odds, z, rfl, rfl, hp, rfl⟩ := h
  refine ⟨Nat.le_of_ble_eq_true rfl, ?_⟩
  unfold pX2_heightOfMoon at hp
  refine Rn.go 5 (pc' := 7) (lv' := [(0, .ref 0), (1, .int x1)]) (st' := [.int (n_moon 2), .int x1]) (es' := (wX2_Night n_slots n_targets n_teams n_moon n_percents n_numbers n_seen n_odds)) (c' := 0) (s' := 0) rfl ?_
  refine Rn.go 6 (pc' := 15) (lv' := [(2, .int (x1 - (n_moon 2))), (0, .ref 0), (1, .int x1)]) (st' := [.int (n_moon 0)]) (es' := (wX2_Night n_slots n_targets n_teams n_moon n_percents n_numbers n_seen n_odds)) (c' := 0) (s' := 0) rfl ?_
  refine Rn.go 4 (pc' := 21) (lv' := [(2, .int (x1 - (n_moon 2))), (0, .ref 0), (1, .int x1)]) (st' := [.int (n_moon 1), .int (n_moon 0)]) (es' := (wX2_Night n_slots n_targets n_teams n_moon n_percents n_numbers n_seen n_odds)) (c' := 0) (s' := 0) rfl ?_
  refine Rn.go 5 (pc' := 26) (lv' := [(2, .int (x1 - (n_moon 2))), (0, .ref 0), (1, .int x1)]) (st' := [.int ((n_moon 0) - (((n_moon 1) * (x1 - (n_moon 2))) * (x1 - (n_moon 2))))]) (es' := (wX2_Night n_slots n_targets n_teams n_moon n_percents n_numbers n_seen n_odds)) (c' := 0) (s' := 0) rfl ?_
  obtain rfl := Option.some.inj hp
  exact Rn.fin rfl rfl rfl
theorem qX2_heightOfMoon : CtA yX2_heightOfMoon (.code yX2_heightOfMoon cX2_heightOfMoon 3 (some .int)) 0 0 [] rX2_heightOfMoon := CtA.of (by decide +kernel) (fun pc op h => kX2_heightOfMoon _ (lkp_mem h)) oX2_heightOfMoon
/-! TelescopeNight$Night.distanceToMoon(II)I -/
def pX2_distanceToMoon (x1 : Int32) (x2 : Int32) (n_moon : Nat → Int32) (n_numbers : Nat → Int32) : Option (Int32) :=
  ob (pX2_number x1 (5 : Int32) n_numbers) (fun z1 =>
  some (if ((360 : Int32) - (if 0 ≤ (((z1 + ((15 : Int32) * x2)) - (z1 + ((15 : Int32) * x2)) / (360 : Int32) * (360 : Int32)) - (((n_moon 3) + ((n_moon 4) * x2)) - ((n_moon 3) + ((n_moon 4) * x2)) / (360 : Int32) * (360 : Int32))) then (((z1 + ((15 : Int32) * x2)) - (z1 + ((15 : Int32) * x2)) / (360 : Int32) * (360 : Int32)) - (((n_moon 3) + ((n_moon 4) * x2)) - ((n_moon 3) + ((n_moon 4) * x2)) / (360 : Int32) * (360 : Int32))) else 0 - (((z1 + ((15 : Int32) * x2)) - (z1 + ((15 : Int32) * x2)) / (360 : Int32) * (360 : Int32)) - (((n_moon 3) + ((n_moon 4) * x2)) - ((n_moon 3) + ((n_moon 4) * x2)) / (360 : Int32) * (360 : Int32))))) < (if 0 ≤ (((z1 + ((15 : Int32) * x2)) - (z1 + ((15 : Int32) * x2)) / (360 : Int32) * (360 : Int32)) - (((n_moon 3) + ((n_moon 4) * x2)) - ((n_moon 3) + ((n_moon 4) * x2)) / (360 : Int32) * (360 : Int32))) then (((z1 + ((15 : Int32) * x2)) - (z1 + ((15 : Int32) * x2)) / (360 : Int32) * (360 : Int32)) - (((n_moon 3) + ((n_moon 4) * x2)) - ((n_moon 3) + ((n_moon 4) * x2)) / (360 : Int32) * (360 : Int32))) else 0 - (((z1 + ((15 : Int32) * x2)) - (z1 + ((15 : Int32) * x2)) / (360 : Int32) * (360 : Int32)) - (((n_moon 3) + ((n_moon 4) * x2)) - ((n_moon 3) + ((n_moon 4) * x2)) / (360 : Int32) * (360 : Int32)))) then ((360 : Int32) - (if 0 ≤ (((z1 + ((15 : Int32) * x2)) - (z1 + ((15 : Int32) * x2)) / (360 : Int32) * (360 : Int32)) - (((n_moon 3) + ((n_moon 4) * x2)) - ((n_moon 3) + ((n_moon 4) * x2)) / (360 : Int32) * (360 : Int32))) then (((z1 + ((15 : Int32) * x2)) - (z1 + ((15 : Int32) * x2)) / (360 : Int32) * (360 : Int32)) - (((n_moon 3) + ((n_moon 4) * x2)) - ((n_moon 3) + ((n_moon 4) * x2)) / (360 : Int32) * (360 : Int32))) else 0 - (((z1 + ((15 : Int32) * x2)) - (z1 + ((15 : Int32) * x2)) / (360 : Int32) * (360 : Int32)) - (((n_moon 3) + ((n_moon 4) * x2)) - ((n_moon 3) + ((n_moon 4) * x2)) / (360 : Int32) * (360 : Int32))))) else (if 0 ≤ (((z1 + ((15 : Int32) * x2)) - (z1 + ((15 : Int32) * x2)) / (360 : Int32) * (360 : Int32)) - (((n_moon 3) + ((n_moon 4) * x2)) - ((n_moon 3) + ((n_moon 4) * x2)) / (360 : Int32) * (360 : Int32))) then (((z1 + ((15 : Int32) * x2)) - (z1 + ((15 : Int32) * x2)) / (360 : Int32) * (360 : Int32)) - (((n_moon 3) + ((n_moon 4) * x2)) - ((n_moon 3) + ((n_moon 4) * x2)) / (360 : Int32) * (360 : Int32))) else 0 - (((z1 + ((15 : Int32) * x2)) - (z1 + ((15 : Int32) * x2)) / (360 : Int32) * (360 : Int32)) - (((n_moon 3) + ((n_moon 4) * x2)) - ((n_moon 3) + ((n_moon 4) * x2)) / (360 : Int32) * (360 : Int32))))))
def rX2_distanceToMoon : List Value → List va_E → op_O → Prop := fun avs es r => ∃ (x1 : Int32) (x2 : Int32) (n_slots : Int32) (n_targets : Int32) (n_teams : Int32) (n_moon : Nat → Int32) (n_percents : Nat → Int32) (n_numbers : Nat → Int32) (n_seen : Nat → Int32) (n_odds : Nat → Int32) (z : Int32), avs = [.ref 0, .int x1, .int x2] ∧ es = (wX2_Night n_slots n_targets n_teams n_moon n_percents n_numbers n_seen n_odds) ∧ pX2_distanceToMoon x1 x2 n_moon n_numbers = some z ∧ r = (.inl (some (.int z)), (wX2_Night n_slots n_targets n_teams n_moon n_percents n_numbers n_seen n_odds), 0, 0)
def bX2_distanceToMoon : List (Nat × (op_T ⊕ op_R)) := [(0, .inl (o_aload 1 0)), (1, .inl (o_iload 2 1)), (2, .inl (o_push 3 (.int (5)))), (3, .inr (o_callV [] [] 6 2 2 rX2_number)), (6, .inl (o_push 8 (.int (15)))), (8, .inl (o_iload 9 2)), (9, .inl (o_ii 10 (fun x y => x * y))), (10, .inl (o_ii 11 (fun x y => x + y))), (11, .inl (o_push 14 (.int (360)))), (14, .inl (o_irem 15)), (15, .inl (o_istore 16 3)), (16, .inl (o_aload 17 0)), (17, .inl (o_get 20 2 3)), (20, .inl (o_push 21 (.int (3)))), (21, .inl (o_iald 22)), (22, .inl (o_aload 23 0)), (23, .inl (o_get 26 2 3)), (26, .inl (o_push 27 (.int (4)))), (27, .inl (o_iald 28)), (28, .inl (o_iload 29 2)), (29, .inl (o_ii 30 (fun x y => x * y))), (30, .inl (o_ii 31 (fun x y => x + y))), (31, .inl (o_push 34 (.int (360)))), (34, .inl (o_irem 35)), (35, .inl (o_istore 37 4)), (37, .inl (o_iload 38 3)), (38, .inl (o_iload 40 4)), (40, .inl (o_ii 41 (fun x y => x - y))), (41, .inl (o_abs 44)), (44, .inl (o_istore 46 5)), (46, .inl (o_iload 48 5)), (48, .inl (o_push 51 (.int (360)))), (51, .inl (o_iload 53 5)), (53, .inl (o_ii 54 (fun x y => x - y))), (54, .inl (o_min 57)), (57, .inl (o_iret))]
set_option maxRecDepth 100000 in
set_option maxHeartbeats 4000000 in
theorem kX2_distanceToMoon : ∀ q ∈ bX2_distanceToMoon, ok2 1 23 6 cX2_distanceToMoon yX2_distanceToMoon.cls yX2_distanceToMoon.name (some .int) (.code yX2_distanceToMoon cX2_distanceToMoon 6 (some .int)) [] [] q.1 q.2 := (al_c (s_aload_n (k := 0) (by decide +kernel)) (al_c (s_iload_n (k := 1) (by decide +kernel)) (al_c (s_iconst (n := 5) (5) (by decide) (by decide +kernel)) (al_c (s_callV (y := yX2_number) (bytes := cX2_number) (maxL := 4) (ret' := (some .int)) (fr' := 0) (lo' := 0) (n := 2) (ml := []) (mlc := []) (ci := 2) (q9 := (RX2, TX2, 8)) qX2_number w_50 w_51 w_52 w_2 w_53 ⟨by decide +kernel, by decide +kernel, by decide +kernel⟩ rfl rfl (by decide) (by decide) (by decide +kernel)) (al_c (s_bipush (n := 15) (15) (by decide) (by decide +kernel)) (al_c (s_iload_n (k := 2) (by decide +kernel)) (al_c (s_imul (by decide +kernel)) (al_c (s_iadd (by decide +kernel)) (al_c (s_sipush (n := 360) (360) (by decide) (by decide +kernel)) (al_c (s_irem (by decide +kernel)) (al_c (s_istore_n (k := 3) rfl (by decide) (by decide +kernel)) (al_c (s_aload_n (k := 0) (by decide +kernel)) (al_c (s_get (C9 := RX2) (T9 := TX2) (N9 := 8) (ci := 2) (k := 3) iX2 rfl (by decide) w_95 (by decide +kernel)) (al_c (s_iconst (n := 3) (3) (by decide) (by decide +kernel)) (al_c (s_iald (by decide +kernel)) (al_c (s_aload_n (k := 0) (by decide +kernel)) (al_c (s_get (C9 := RX2) (T9 := TX2) (N9 := 8) (ci := 2) (k := 3) iX2 rfl (by decide) w_95 (by decide +kernel)) (al_c (s_iconst (n := 4) (4) (by decide) (by decide +kernel)) (al_c (s_iald (by decide +kernel)) (al_c (s_iload_n (k := 2) (by decide +kernel)) (al_c (s_imul (by decide +kernel)) (al_c (s_iadd (by decide +kernel)) (al_c (s_sipush (n := 360) (360) (by decide) (by decide +kernel)) (al_c (s_irem (by decide +kernel)) (al_c (s_istore (by decide) (by decide +kernel)) (al_c (s_iload_n (k := 3) (by decide +kernel)) (al_c (s_iload (by decide +kernel)) (al_c (s_isub (by decide +kernel)) (al_c (s_abs w_74 w_75 w_4 w_76 (by decide) (by decide) (by decide +kernel)) (al_c (s_istore (by decide) (by decide +kernel)) (al_c (s_iload (by decide +kernel)) (al_c (s_sipush (n := 360) (360) (by decide) (by decide +kernel)) (al_c (s_iload (by decide +kernel)) (al_c (s_isub (by decide +kernel)) (al_c (s_min w_77 w_78 w_4 w_79 (by decide) (by decide) (by decide +kernel)) (al_c (s_iret rfl (by decide +kernel)) al_n))))))))))))))))))))))))))))))))))))
set_option maxRecDepth 100000 in
set_option maxHeartbeats 4000000 in
theorem oX2_distanceToMoon : Of (lkp bX2_distanceToMoon) 6 rX2_distanceToMoon := by
  intro avs es r h
  obtain ⟨x1, x2, n_slots, n_targets, n_teams, n_moon, n_percents, n_numbers, n_seen, n_odds, z, rfl, rfl, hp, rfl⟩ := h
  refine ⟨Nat.le_of_ble_eq_true rfl, ?_⟩
  unfold pX2_distanceToMoon at hp
  refine Rn.go 3 (pc' := 3) (lv' := [(0, .ref 0), (1, .int x1), (2, .int x2)]) (st' := [.int (5 : Int32), .int x1, .ref 0]) (es' := (wX2_Night n_slots n_targets n_teams n_moon n_percents n_numbers n_seen n_odds)) (c' := 0) (s' := 0) rfl ?_
  obtain ⟨z1, hz1, hp⟩ := ob_some hp
  refine Rn.rel (pc' := 6) (lv' := [(0, .ref 0), (1, .int x1), (2, .int x2)]) (st' := [.int z1]) (es' := (wX2_Night n_slots n_targets n_teams n_moon n_percents n_numbers n_seen n_odds)) (dc := 0) (ds := 0) rfl ⟨0, [.int x1, .int (5 : Int32)], _, [0, 1, 2, 3, 4, 5], .inl (some (.int z1)), (wX2_Night n_slots n_targets n_teams n_moon n_percents n_numbers n_seen n_odds), 0, 0, rfl, rfl, Nat.le_of_ble_eq_true rfl, rfl, ⟨x1, (5 : Int32), n_slots, n_targets, n_teams, n_moon, n_percents, n_numbers, n_seen, n_odds, z1, rfl, rfl, hz1, rfl⟩, rfl⟩ ?_
  refine Rn.go 6 (pc' := 15) (lv' := [(0, .ref 0), (1, .int x1), (2, .int x2)]) (st' := [.int ((z1 + ((15 : Int32) * x2)) - (z1 + ((15 : Int32) * x2)) / (360 : Int32) * (360 : Int32))]) (es' := (wX2_Night n_slots n_targets n_teams n_moon n_percents n_numbers n_seen n_odds)) (c' := 0) (s' := 0) rfl ?_
  refine Rn.go 5 (pc' := 22) (lv' := [(3, .int ((z1 + ((15 : Int32) * x2)) - (z1 + ((15 : Int32) * x2)) / (360 : Int32) * (360 : Int32))), (0, .ref 0), (1, .int x1), (2, .int x2)]) (st' := [.int (n_moon 3)]) (es' := (wX2_Night n_slots n_targets n_teams n_moon n_percents n_numbers n_seen n_odds)) (c' := 0) (s' := 0) rfl ?_
  refine Rn.go 4 (pc' := 28) (lv' := [(3, .int ((z1 + ((15 : Int32) * x2)) - (z1 + ((15 : Int32) * x2)) / (360 : Int32) * (360 : Int32))), (0, .ref 0), (1, .int x1), (2, .int x2)]) (st' := [.int (n_moon 4), .int (n_moon 3)]) (es' := (wX2_Night n_slots n_targets n_teams n_moon n_percents n_numbers n_seen n_odds)) (c' := 0) (s' := 0) rfl ?_
  refine Rn.go 5 (pc' := 35) (lv' := [(3, .int ((z1 + ((15 : Int32) * x2)) - (z1 + ((15 : Int32) * x2)) / (360 : Int32) * (360 : Int32))), (0, .ref 0), (1, .int x1), (2, .int x2)]) (st' := [.int (((n_moon 3) + ((n_moon 4) * x2)) - ((n_moon 3) + ((n_moon 4) * x2)) / (360 : Int32) * (360 : Int32))]) (es' := (wX2_Night n_slots n_targets n_teams n_moon n_percents n_numbers n_seen n_odds)) (c' := 0) (s' := 0) rfl ?_
  refine Rn.go 11 (pc' := 57) (lv' := [(5, .int (if 0 ≤ (((z1 + ((15 : Int32) * x2)) - (z1 + ((15 : Int32) * x2)) / (360 : Int32) * (360 : Int32)) - (((n_moon 3) + ((n_moon 4) * x2)) - ((n_moon 3) + ((n_moon 4) * x2)) / (360 : Int32) * (360 : Int32))) then (((z1 + ((15 : Int32) * x2)) - (z1 + ((15 : Int32) * x2)) / (360 : Int32) * (360 : Int32)) - (((n_moon 3) + ((n_moon 4) * x2)) - ((n_moon 3) + ((n_moon 4) * x2)) / (360 : Int32) * (360 : Int32))) else 0 - (((z1 + ((15 : Int32) * x2)) - (z1 + ((15 : Int32) * x2)) / (360 : Int32) * (360 : Int32)) - (((n_moon 3) + ((n_moon 4) * x2)) - ((n_moon 3) + ((n_moon 4) * x2)) / (360 : Int32) * (360 : Int32))))), (4, .int (((n_moon 3) + ((n_moon 4) * x2)) - ((n_moon 3) + ((n_moon 4) * x2)) / (360 : Int32) * (360 : Int32))), (3, .int ((z1 + ((15 : Int32) * x2)) - (z1 + ((15 : Int32) * x2)) / (360 : Int32) * (360 : Int32))), (0, .ref 0), (1, .int x1), (2, .int x2)]) (st' := [.int (if ((360 : Int32) - (if 0 ≤ (((z1 + ((15 : Int32) * x2)) - (z1 + ((15 : Int32) * x2)) / (360 : Int32) * (360 : Int32)) - (((n_moon 3) + ((n_moon 4) * x2)) - ((n_moon 3) + ((n_moon 4) * x2)) / (360 : Int32) * (360 : Int32))) then (((z1 + ((15 : Int32) * x2)) - (z1 + ((15 : Int32) * x2)) / (360 : Int32) * (360 : Int32)) - (((n_moon 3) + ((n_moon 4) * x2)) - ((n_moon 3) + ((n_moon 4) * x2)) / (360 : Int32) * (360 : Int32))) else 0 - (((z1 + ((15 : Int32) * x2)) - (z1 + ((15 : Int32) * x2)) / (360 : Int32) * (360 : Int32)) - (((n_moon 3) + ((n_moon 4) * x2)) - ((n_moon 3) + ((n_moon 4) * x2)) / (360 : Int32) * (360 : Int32))))) < (if 0 ≤ (((z1 + ((15 : Int32) * x2)) - (z1 + ((15 : Int32) * x2)) / (360 : Int32) * (360 : Int32)) - (((n_moon 3) + ((n_moon 4) * x2)) - ((n_moon 3) + ((n_moon 4) * x2)) / (360 : Int32) * (360 : Int32))) then (((z1 + ((15 : Int32) * x2)) - (z1 + ((15 : Int32) * x2)) / (360 : Int32) * (360 : Int32)) - (((n_moon 3) + ((n_moon 4) * x2)) - ((n_moon 3) + ((n_moon 4) * x2)) / (360 : Int32) * (360 : Int32))) else 0 - (((z1 + ((15 : Int32) * x2)) - (z1 + ((15 : Int32) * x2)) / (360 : Int32) * (360 : Int32)) - (((n_moon 3) + ((n_moon 4) * x2)) - ((n_moon 3) + ((n_moon 4) * x2)) / (360 : Int32) * (360 : Int32)))) then ((360 : Int32) - (if 0 ≤ (((z1 + ((15 : Int32) * x2)) - (z1 + ((15 : Int32) * x2)) / (360 : Int32) * (360 : Int32)) - (((n_moon 3) + ((n_moon 4) * x2)) - ((n_moon 3) + ((n_moon 4) * x2)) / (360 : Int32) * (360 : Int32))) then (((z1 + ((15 : Int32) * x2)) - (z1 + ((15 : Int32) * x2)) / (360 : Int32) * (360 : Int32)) - (((n_moon 3) + ((n_moon 4) * x2)) - ((n_moon 3) + ((n_moon 4) * x2)) / (360 : Int32) * (360 : Int32))) else 0 - (((z1 + ((15 : Int32) * x2)) - (z1 + ((15 : Int32) * x2)) / (360 : Int32) * (360 : Int32)) - (((n_moon 3) + ((n_moon 4) * x2)) - ((n_moon 3) + ((n_moon 4) * x2)) / (360 : Int32) * (360 : Int32))))) else (if 0 ≤ (((z1 + ((15 : Int32) * x2)) - (z1 + ((15 : Int32) * x2)) / (360 : Int32) * (360 : Int32)) - (((n_moon 3) + ((n_moon 4) * x2)) - ((n_moon 3) + ((n_moon 4) * x2)) / (360 : Int32) * (360 : Int32))) then (((z1 + ((15 : Int32) * x2)) - (z1 + ((15 : Int32) * x2)) / (360 : Int32) * (360 : Int32)) - (((n_moon 3) + ((n_moon 4) * x2)) - ((n_moon 3) + ((n_moon 4) * x2)) / (360 : Int32) * (360 : Int32))) else 0 - (((z1 + ((15 : Int32) * x2)) - (z1 + ((15 : Int32) * x2)) / (360 : Int32) * (360 : Int32)) - (((n_moon 3) + ((n_moon 4) * x2)) - ((n_moon 3) + ((n_moon 4) * x2)) / (360 : Int32) * (360 : Int32)))))]) (es' := (wX2_Night n_slots n_targets n_teams n_moon n_percents n_numbers n_seen n_odds)) (c' := 0) (s' := 0) rfl ?_
  obtain rfl := Option.some.inj hp
  exact Rn.fin rfl rfl rfl
theorem qX2_distanceToMoon : CtA yX2_distanceToMoon (.code yX2_distanceToMoon cX2_distanceToMoon 6 (some .int)) 1 23 [] rX2_distanceToMoon := CtA.of (by decide +kernel) (fun pc op h => kX2_distanceToMoon _ (lkp_mem h)) oX2_distanceToMoon
/-! TelescopeNight$Night.canBeSeen(II)Z -/
def pX2_canBeSeen (x1 : Int32) (x2 : Int32) (n_moon : Nat → Int32) (n_numbers : Nat → Int32) : Option (Int32) :=
  ob (pX2_targetHeight x1 x2 n_numbers) (fun z1 =>
  ob (pX2_number x1 (4 : Int32) n_numbers) (fun z2 =>
  if z2 ≤ z1 then
    ob (pX2_number x1 (6 : Int32) n_numbers) (fun z3 =>
    ob (pX2_heightOfMoon x2 n_moon) (fun z4 =>
    if z4 ≤ 0 then
      some (1 : Int32)
    else
      ob (pX2_distanceToMoon x1 x2 n_moon n_numbers) (fun z5 =>
      if z5 < ((z3 * (n_moon 5)) / (100 : Int32)) then
        some (0 : Int32)
      else
        some (1 : Int32))))
  else
    some (0 : Int32)))
def rX2_canBeSeen : List Value → List va_E → op_O → Prop := fun avs es r => ∃ (x1 : Int32) (x2 : Int32) (n_slots : Int32) (n_targets : Int32) (n_teams : Int32) (n_moon : Nat → Int32) (n_percents : Nat → Int32) (n_numbers : Nat → Int32) (n_seen : Nat → Int32) (n_odds : Nat → Int32) (z : Int32), avs = [.ref 0, .int x1, .int x2] ∧ es = (wX2_Night n_slots n_targets n_teams n_moon n_percents n_numbers n_seen n_odds) ∧ pX2_canBeSeen x1 x2 n_moon n_numbers = some z ∧ r = (.inl (some (.int z)), (wX2_Night n_slots n_targets n_teams n_moon n_percents n_numbers n_seen n_odds), 0, 0)
def bX2_canBeSeen : List (Nat × (op_T ⊕ op_R)) := [(0, .inl (o_aload 1 0)), (1, .inl (o_iload 2 1)), (2, .inl (o_iload 3 2)), (3, .inr (o_callV [] [] 6 2 2 rX2_targetHeight)), (6, .inl (o_aload 7 0)), (7, .inl (o_iload 8 1)), (8, .inl (o_push 9 (.int (4)))), (9, .inr (o_callV [] [] 12 2 2 rX2_number)), (12, .inl (o_icmpge 15 17)), (15, .inl (o_push 16 (.int (0)))), (16, .inl (o_zret)), (17, .inl (o_aload 18 0)), (18, .inl (o_iload 19 1)), (19, .inl (o_push 21 (.int (6)))), (21, .inr (o_callV [] [] 24 2 2 rX2_number)), (24, .inl (o_aload 25 0)), (25, .inl (o_get 28 2 3)), (28, .inl (o_push 29 (.int (5)))), (29, .inl (o_iald 30)), (30, .inl (o_ii 31 (fun x y => x * y))), (31, .inl (o_push 33 (.int (100)))), (33, .inl (o_idiv 34)), (34, .inl (o_istore 35 3)), (35, .inl (o_aload 36 0)), (36, .inl (o_iload 37 2)), (37, .inr (o_callV [] [] 40 1 2 rX2_heightOfMoon)), (40, .inl (o_ifle 43 53)), (43, .inl (o_aload 44 0)), (44, .inl (o_iload 45 1)), (45, .inl (o_iload 46 2)), (46, .inr (o_callV [] [] 49 2 2 rX2_distanceToMoon)), (49, .inl (o_iload 50 3)), (50, .inl (o_icmplt 53 57)), (53, .inl (o_push 54 (.int (1)))), (54, .inl (o_goto 58)), (57, .inl (o_push 58 (.int (0)))), (58, .inl (o_zret))]
set_option maxRecDepth 100000 in
set_option maxHeartbeats 4000000 in
theorem kX2_canBeSeen : ∀ q ∈ bX2_canBeSeen, ok2 2 48 4 cX2_canBeSeen yX2_canBeSeen.cls yX2_canBeSeen.name (some .boolean) (.code yX2_canBeSeen cX2_canBeSeen 4 (some .boolean)) [] [] q.1 q.2 := (al_c (s_aload_n (k := 0) (by decide +kernel)) (al_c (s_iload_n (k := 1) (by decide +kernel)) (al_c (s_iload_n (k := 2) (by decide +kernel)) (al_c (s_callV (y := yX2_targetHeight) (bytes := cX2_targetHeight) (maxL := 4) (ret' := (some .int)) (fr' := 1) (lo' := 23) (n := 2) (ml := []) (mlc := []) (ci := 2) (q9 := (RX2, TX2, 8)) qX2_targetHeight w_62 w_63 w_64 w_2 w_65 ⟨by decide +kernel, by decide +kernel, by decide +kernel⟩ rfl rfl (by decide) (by decide) (by decide +kernel)) (al_c (s_aload_n (k := 0) (by decide +kernel)) (al_c (s_iload_n (k := 1) (by decide +kernel)) (al_c (s_iconst (n := 4) (4) (by decide) (by decide +kernel)) (al_c (s_callV (y := yX2_number) (bytes := cX2_number) (maxL := 4) (ret' := (some .int)) (fr' := 0) (lo' := 0) (n := 2) (ml := []) (mlc := []) (ci := 2) (q9 := (RX2, TX2, 8)) qX2_number w_50 w_51 w_52 w_2 w_53 ⟨by decide +kernel, by decide +kernel, by decide +kernel⟩ rfl rfl (by decide) (by decide) (by decide +kernel)) (al_c (s_icmpge (off := 5) 17 (by decide) (by decide +kernel)) (al_c (s_iconst (n := 0) (0) (by decide) (by decide +kernel)) (al_c (s_zret rfl (by decide +kernel)) (al_c (s_aload_n (k := 0) (by decide +kernel)) (al_c (s_iload_n (k := 1) (by decide +kernel)) (al_c (s_bipush (n := 6) (6) (by decide) (by decide +kernel)) (al_c (s_callV (y := yX2_number) (bytes := cX2_number) (maxL := 4) (ret' := (some .int)) (fr' := 0) (lo' := 0) (n := 2) (ml := []) (mlc := []) (ci := 2) (q9 := (RX2, TX2, 8)) qX2_number w_50 w_51 w_52 w_2 w_53 ⟨by decide +kernel, by decide +kernel, by decide +kernel⟩ rfl rfl (by decide) (by decide) (by decide +kernel)) (al_c (s_aload_n (k := 0) (by decide +kernel)) (al_c (s_get (C9 := RX2) (T9 := TX2) (N9 := 8) (ci := 2) (k := 3) iX2 rfl (by decide) w_95 (by decide +kernel)) (al_c (s_iconst (n := 5) (5) (by decide) (by decide +kernel)) (al_c (s_iald (by decide +kernel)) (al_c (s_imul (by decide +kernel)) (al_c (s_bipush (n := 100) (100) (by decide) (by decide +kernel)) (al_c (s_idiv (by decide +kernel)) (al_c (s_istore_n (k := 3) rfl (by decide) (by decide +kernel)) (al_c (s_aload_n (k := 0) (by decide +kernel)) (al_c (s_iload_n (k := 2) (by decide +kernel)) (al_c (s_callV (y := yX2_heightOfMoon) (bytes := cX2_heightOfMoon) (maxL := 3) (ret' := (some .int)) (fr' := 0) (lo' := 0) (n := 1) (ml := []) (mlc := []) (ci := 2) (q9 := (RX2, TX2, 8)) qX2_heightOfMoon w_66 w_67 w_68 w_2 w_69 ⟨by decide +kernel, by decide +kernel, by decide +kernel⟩ rfl rfl (by decide) (by decide) (by decide +kernel)) (al_c (s_ifle (off := 13) 53 (by decide) (by decide +kernel)) (al_c (s_aload_n (k := 0) (by decide +kernel)) (al_c (s_iload_n (k := 1) (by decide +kernel)) (al_c (s_iload_n (k := 2) (by decide +kernel)) (al_c (s_callV (y := yX2_distanceToMoon) (bytes := cX2_distanceToMoon) (maxL := 6) (ret' := (some .int)) (fr' := 1) (lo' := 23) (n := 2) (ml := []) (mlc := []) (ci := 2) (q9 := (RX2, TX2, 8)) qX2_distanceToMoon w_70 w_71 w_72 w_2 w_73 ⟨by decide +kernel, by decide +kernel, by decide +kernel⟩ rfl rfl (by decide) (by decide) (by decide +kernel)) (al_c (s_iload_n (k := 3) (by decide +kernel)) (al_c (s_icmplt (off := 7) 57 (by decide) (by decide +kernel)) (al_c (s_iconst (n := 1) (1) (by decide) (by decide +kernel)) (al_c (s_goto (off := 4) 58 (by decide) (by decide +kernel)) (al_c (s_iconst (n := 0) (0) (by decide) (by decide +kernel)) (al_c (s_zret rfl (by decide +kernel)) al_n)))))))))))))))))))))))))))))))))))))
set_option maxRecDepth 100000 in
set_option maxHeartbeats 4000000 in
theorem oX2_canBeSeen : Of (lkp bX2_canBeSeen) 4 rX2_canBeSeen := by
  intro avs es r h
  obtain ⟨x1, x2, n_slots, n_targets, n_teams, n_moon, n_percents, n_numbers, n_seen, n_odds, z, rfl, rfl, hp, rfl⟩ := h
  refine ⟨Nat.le_of_ble_eq_true rfl, ?_⟩
  unfold pX2_canBeSeen at hp
  refine Rn.go 3 (pc' := 3) (lv' := [(0, .ref 0), (1, .int x1), (2, .int x2)]) (st' := [.int x2, .int x1, .ref 0]) (es' := (wX2_Night n_slots n_targets n_teams n_moon n_percents n_numbers n_seen n_odds)) (c' := 0) (s' := 0) rfl ?_
  obtain ⟨z1, hz1, hp⟩ := ob_some hp
  refine Rn.rel (pc' := 6) (lv' := [(0, .ref 0), (1, .int x1), (2, .int x2)]) (st' := [.int z1]) (es' := (wX2_Night n_slots n_targets n_teams n_moon n_percents n_numbers n_seen n_odds)) (dc := 0) (ds := 0) rfl ⟨0, [.int x1, .int x2], _, [0, 1, 2, 3, 4, 5], .inl (some (.int z1)), (wX2_Night n_slots n_targets n_teams n_moon n_percents n_numbers n_seen n_odds), 0, 0, rfl, rfl, Nat.le_of_ble_eq_true rfl, rfl, ⟨x1, x2, n_slots, n_targets, n_teams, n_moon, n_percents, n_numbers, n_seen, n_odds, z1, rfl, rfl, hz1, rfl⟩, rfl⟩ ?_
  refine Rn.go 3 (pc' := 9) (lv' := [(0, .ref 0), (1, .int x1), (2, .int x2)]) (st' := [.int (4 : Int32), .int x1, .ref 0, .int z1]) (es' := (wX2_Night n_slots n_targets n_teams n_moon n_percents n_numbers n_seen n_odds)) (c' := 0) (s' := 0) rfl ?_
  obtain ⟨z2, hz2, hp⟩ := ob_some hp
  refine Rn.rel (pc' := 12) (lv' := [(0, .ref 0), (1, .int x1), (2, .int x2)]) (st' := [.int z2, .int z1]) (es' := (wX2_Night n_slots n_targets n_teams n_moon n_percents n_numbers n_seen n_odds)) (dc := 0) (ds := 0) rfl ⟨0, [.int x1, .int (4 : Int32)], _, [0, 1, 2, 3, 4, 5], .inl (some (.int z2)), (wX2_Night n_slots n_targets n_teams n_moon n_percents n_numbers n_seen n_odds), 0, 0, rfl, rfl, Nat.le_of_ble_eq_true rfl, rfl, ⟨x1, (4 : Int32), n_slots, n_targets, n_teams, n_moon, n_percents, n_numbers, n_seen, n_odds, z2, rfl, rfl, hz2, rfl⟩, rfl⟩ ?_
  refine Rn.br (P := z2 ≤ z1) (pc1 := 17) (pc2 := 15) rfl rfl (fun h1 => ?_) (fun h1 => ?_)
  · rw [if_pos h1] at hp
    refine Rn.go 3 (pc' := 21) (lv' := [(0, .ref 0), (1, .int x1), (2, .int x2)]) (st' := [.int (6 : Int32), .int x1, .ref 0]) (es' := (wX2_Night n_slots n_targets n_teams n_moon n_percents n_numbers n_seen n_odds)) (c' := 0) (s' := 0) rfl ?_
    obtain ⟨z3, hz3, hp⟩ := ob_some hp
    refine Rn.rel (pc' := 24) (lv' := [(0, .ref 0), (1, .int x1), (2, .int x2)]) (st' := [.int z3]) (es' := (wX2_Night n_slots n_targets n_teams n_moon n_percents n_numbers n_seen n_odds)) (dc := 0) (ds := 0) rfl ⟨0, [.int x1, .int (6 : Int32)], _, [0, 1, 2, 3, 4, 5], .inl (some (.int z3)), (wX2_Night n_slots n_targets n_teams n_moon n_percents n_numbers n_seen n_odds), 0, 0, rfl, rfl, Nat.le_of_ble_eq_true rfl, rfl, ⟨x1, (6 : Int32), n_slots, n_targets, n_teams, n_moon, n_percents, n_numbers, n_seen, n_odds, z3, rfl, rfl, hz3, rfl⟩, rfl⟩ ?_
    refine Rn.go 4 (pc' := 30) (lv' := [(0, .ref 0), (1, .int x1), (2, .int x2)]) (st' := [.int (n_moon 5), .int z3]) (es' := (wX2_Night n_slots n_targets n_teams n_moon n_percents n_numbers n_seen n_odds)) (c' := 0) (s' := 0) rfl ?_
    refine Rn.go 3 (pc' := 34) (lv' := [(0, .ref 0), (1, .int x1), (2, .int x2)]) (st' := [.int ((z3 * (n_moon 5)) / (100 : Int32))]) (es' := (wX2_Night n_slots n_targets n_teams n_moon n_percents n_numbers n_seen n_odds)) (c' := 0) (s' := 0) rfl ?_
    refine Rn.go 3 (pc' := 37) (lv' := [(3, .int ((z3 * (n_moon 5)) / (100 : Int32))), (0, .ref 0), (1, .int x1), (2, .int x2)]) (st' := [.int x2, .ref 0]) (es' := (wX2_Night n_slots n_targets n_teams n_moon n_percents n_numbers n_seen n_odds)) (c' := 0) (s' := 0) rfl ?_
    obtain ⟨z4, hz4, hp⟩ := ob_some hp
    refine Rn.rel (pc' := 40) (lv' := [(3, .int ((z3 * (n_moon 5)) / (100 : Int32))), (0, .ref 0), (1, .int x1), (2, .int x2)]) (st' := [.int z4]) (es' := (wX2_Night n_slots n_targets n_teams n_moon n_percents n_numbers n_seen n_odds)) (dc := 0) (ds := 0) rfl ⟨0, [.int x2], _, [0, 1, 2, 3, 4, 5], .inl (some (.int z4)), (wX2_Night n_slots n_targets n_teams n_moon n_percents n_numbers n_seen n_odds), 0, 0, rfl, rfl, Nat.le_of_ble_eq_true rfl, rfl, ⟨x2, n_slots, n_targets, n_teams, n_moon, n_percents, n_numbers, n_seen, n_odds, z4, rfl, rfl, hz4, rfl⟩, rfl⟩ ?_
    refine Rn.br (P := z4 ≤ 0) (pc1 := 53) (pc2 := 43) rfl rfl (fun h2 => ?_) (fun h2 => ?_)
    · rw [if_pos h2] at hp
      refine Rn.go 2 (pc' := 58) (lv' := [(3, .int ((z3 * (n_moon 5)) / (100 : Int32))), (0, .ref 0), (1, .int x1), (2, .int x2)]) (st' := [.int (1 : Int32)]) (es' := (wX2_Night n_slots n_targets n_teams n_moon n_percents n_numbers n_seen n_odds)) (c' := 0) (s' := 0) rfl ?_
      obtain rfl := Option.some.inj hp
      exact Rn.fin rfl rfl rfl
    · rw [if_neg h2] at hp
      refine Rn.go 3 (pc' := 46) (lv' := [(3, .int ((z3 * (n_moon 5)) / (100 : Int32))), (0, .ref 0), (1, .int x1), (2, .int x2)]) (st' := [.int x2, .int x1, .ref 0]) (es' := (wX2_Night n_slots n_targets n_teams n_moon n_percents n_numbers n_seen n_odds)) (c' := 0) (s' := 0) rfl ?_
      obtain ⟨z5, hz5, hp⟩ := ob_some hp
      refine Rn.rel (pc' := 49) (lv' := [(3, .int ((z3 * (n_moon 5)) / (100 : Int32))), (0, .ref 0), (1, .int x1), (2, .int x2)]) (st' := [.int z5]) (es' := (wX2_Night n_slots n_targets n_teams n_moon n_percents n_numbers n_seen n_odds)) (dc := 0) (ds := 0) rfl ⟨0, [.int x1, .int x2], _, [0, 1, 2, 3, 4, 5], .inl (some (.int z5)), (wX2_Night n_slots n_targets n_teams n_moon n_percents n_numbers n_seen n_odds), 0, 0, rfl, rfl, Nat.le_of_ble_eq_true rfl, rfl, ⟨x1, x2, n_slots, n_targets, n_teams, n_moon, n_percents, n_numbers, n_seen, n_odds, z5, rfl, rfl, hz5, rfl⟩, rfl⟩ ?_
      refine Rn.go 1 (pc' := 50) (lv' := [(3, .int ((z3 * (n_moon 5)) / (100 : Int32))), (0, .ref 0), (1, .int x1), (2, .int x2)]) (st' := [.int ((z3 * (n_moon 5)) / (100 : Int32)), .int z5]) (es' := (wX2_Night n_slots n_targets n_teams n_moon n_percents n_numbers n_seen n_odds)) (c' := 0) (s' := 0) rfl ?_
      refine Rn.br (P := z5 < ((z3 * (n_moon 5)) / (100 : Int32))) (pc1 := 57) (pc2 := 53) rfl rfl (fun h3 => ?_) (fun h3 => ?_)
      · rw [if_pos h3] at hp
        refine Rn.go 1 (pc' := 58) (lv' := [(3, .int ((z3 * (n_moon 5)) / (100 : Int32))), (0, .ref 0), (1, .int x1), (2, .int x2)]) (st' := [.int (0 : Int32)]) (es' := (wX2_Night n_slots n_targets n_teams n_moon n_percents n_numbers n_seen n_odds)) (c' := 0) (s' := 0) rfl ?_
        obtain rfl := Option.some.inj hp
        exact Rn.fin rfl rfl rfl
      · rw [if_neg h3] at hp
        refine Rn.go 2 (pc' := 58) (lv' := [(3, .int ((z3 * (n_moon 5)) / (100 : Int32))), (0, .ref 0), (1, .int x1), (2, .int x2)]) (st' := [.int (1 : Int32)]) (es' := (wX2_Night n_slots n_targets n_teams n_moon n_percents n_numbers n_seen n_odds)) (c' := 0) (s' := 0) rfl ?_
        obtain rfl := Option.some.inj hp
        exact Rn.fin rfl rfl rfl
  · rw [if_neg h1] at hp
    refine Rn.go 1 (pc' := 16) (lv' := [(0, .ref 0), (1, .int x1), (2, .int x2)]) (st' := [.int (0 : Int32)]) (es' := (wX2_Night n_slots n_targets n_teams n_moon n_percents n_numbers n_seen n_odds)) (c' := 0) (s' := 0) rfl ?_
    obtain rfl := Option.some.inj hp
    exact Rn.fin rfl rfl rfl
theorem qX2_canBeSeen : CtA yX2_canBeSeen (.code yX2_canBeSeen cX2_canBeSeen 4 (some .boolean)) 2 48 [] rX2_canBeSeen := CtA.of (by decide +kernel) (fun pc op h => kX2_canBeSeen _ (lkp_mem h)) oX2_canBeSeen
/-! TelescopeNight$Night.targetsSeenIn(I)I -/
def lpX2_targetsSeenIn_4 (l1 : Int32) (n_targets : Int32) (n_moon : Nat → Int32) (n_numbers : Nat → Int32) : Nat → Int32 → Int32 → Option (Int32 × Int32)
  | 0, _, _ => none
  | fu + 1, l2, l3 =>
    if n_targets ≤ l3 then
      some (l2, l3)
    else
      ob (pX2_canBeSeen l3 l1 n_moon n_numbers) (fun z1 =>
      if z1 = 0 then
        lpX2_targetsSeenIn_4 l1 n_targets n_moon n_numbers fu l2 (l3 + (1 : Int32))
      else
        lpX2_targetsSeenIn_4 l1 n_targets n_moon n_numbers fu (l2 ||| ((1 : Int32) <<< (l3 &&& 31))) (l3 + (1 : Int32)))
def pX2_targetsSeenIn (x1 : Int32) (n_targets : Int32) (n_moon : Nat → Int32) (n_numbers : Nat → Int32) : Option (Int32) :=
  ob (lpX2_targetsSeenIn_4 x1 n_targets n_moon n_numbers lpF (0 : Int32) (0 : Int32)) (fun z2 =>
  some z2.1)
def rX2_targetsSeenIn : List Value → List va_E → op_O → Prop := fun avs es r => ∃ (x1 : Int32) (n_slots : Int32) (n_targets : Int32) (n_teams : Int32) (n_moon : Nat → Int32) (n_percents : Nat → Int32) (n_numbers : Nat → Int32) (n_seen : Nat → Int32) (n_odds : Nat → Int32) (z : Int32), avs = [.ref 0, .int x1] ∧ es = (wX2_Night n_slots n_targets n_teams n_moon n_percents n_numbers n_seen n_odds) ∧ pX2_targetsSeenIn x1 n_targets n_moon n_numbers = some z ∧ r = (.inl (some (.int z)), (wX2_Night n_slots n_targets n_teams n_moon n_percents n_numbers n_seen n_odds), 0, 0)
def bX2_targetsSeenIn : List (Nat × (op_T ⊕ op_R)) := [(0, .inl (o_push 1 (.int (0)))), (1, .inl (o_istore 2 2)), (2, .inl (o_push 3 (.int (0)))), (3, .inl (nrm [0, 1, 2, 3] (o_istore 4 3))), (4, .inl (o_iload 5 3)), (5, .inl (o_aload 6 0)), (6, .inl (o_get 9 2 1)), (9, .inl (o_icmpge 12 33)), (12, .inl (o_aload 13 0)), (13, .inl (o_iload 14 3)), (14, .inl (o_iload 15 1)), (15, .inr (o_callV [] [] 18 2 2 rX2_canBeSeen)), (18, .inl (o_ifeq 21 27)), (21, .inl (o_iload 22 2)), (22, .inl (o_push 23 (.int (1)))), (23, .inl (o_iload 24 3)), (24, .inl (o_ii 25 (fun x y => x <<< (y &&& 31)))), (25, .inl (o_ii 26 (fun x y => x ||| y))), (26, .inl (o_istore 27 2)), (27, .inl (o_iinc 30 3 (1))), (30, .inl (nrm [0, 1, 2, 3] (o_goto 4))), (33, .inl (o_iload 34 2)), (34, .inl (o_iret))]
set_option maxRecDepth 100000 in
set_option maxHeartbeats 4000000 in
theorem kX2_targetsSeenIn : ∀ q ∈ bX2_targetsSeenIn, ok2 3 71 4 cX2_targetsSeenIn yX2_targetsSeenIn.cls yX2_targetsSeenIn.name (some .int) (.code yX2_targetsSeenIn cX2_targetsSeenIn 4 (some .int)) [] [] q.1 q.2 := (al_c (s_iconst (n := 0) (0) (by decide) (by decide +kernel)) (al_c (s_istore_n (k := 2) rfl (by decide) (by decide +kernel)) (al_c (s_iconst (n := 0) (0) (by decide) (by decide +kernel)) (al_c (s_nrm [0, 1, 2, 3] (s_istore_n (k := 3) rfl (by decide) (by decide +kernel))) (al_c (s_iload_n (k := 3) (by decide +kernel)) (al_c (s_aload_n (k := 0) (by decide +kernel)) (al_c (s_get (C9 := RX2) (T9 := TX2) (N9 := 8) (ci := 2) (k := 1) iX2 rfl (by decide) w_87 (by decide +kernel)) (al_c (s_icmpge (off := 24) 33 (by decide) (by decide +kernel)) (al_c (s_aload_n (k := 0) (by decide +kernel)) (al_c (s_iload_n (k := 3) (by decide +kernel)) (al_c (s_iload_n (k := 1) (by decide +kernel)) (al_c (s_callV (y := yX2_canBeSeen) (bytes := cX2_canBeSeen) (maxL := 4) (ret' := (some .boolean)) (fr' := 2) (lo' := 48) (n := 2) (ml := []) (mlc := []) (ci := 2) (q9 := (RX2, TX2, 8)) qX2_canBeSeen w_58 w_60 wp_1 w_2 w_61 ⟨by decide +kernel, by decide +kernel, by decide +kernel⟩ rfl rfl (by decide) (by decide) (by decide +kernel)) (al_c (s_ifeq (off := 9) 27 (by decide) (by decide +kernel)) (al_c (s_iload_n (k := 2) (by decide +kernel)) (al_c (s_iconst (n := 1) (1) (by decide) (by decide +kernel)) (al_c (s_iload_n (k := 3) (by decide +kernel)) (al_c (s_ishl (by decide +kernel)) (al_c (s_ior (by decide +kernel)) (al_c (s_istore_n (k := 2) rfl (by decide) (by decide +kernel)) (al_c (s_iinc (n := 1) (1) (by decide) (by decide) (by decide +kernel)) (al_c (s_nrm [0, 1, 2, 3] (s_goto (off := -26) 4 (by decide) (by decide +kernel))) (al_c (s_iload_n (k := 2) (by decide +kernel)) (al_c (s_iret rfl (by decide +kernel)) al_n)))))))))))))))))))))))
set_option maxRecDepth 100000 in
set_option maxHeartbeats 4000000 in
theorem lrX2_targetsSeenIn_4 (l1 : Int32) (n_slots : Int32) (n_targets : Int32) (n_teams : Int32) (n_moon : Nat → Int32) (n_percents : Nat → Int32) (n_numbers : Nat → Int32) (n_seen : Nat → Int32) (n_odds : Nat → Int32) : ∀ (fu : Nat) (l2 : Int32) (l3 : Int32) (z : (Int32 × Int32)), lpX2_targetsSeenIn_4 l1 n_targets n_moon n_numbers fu l2 l3 = some z → ∀ (c s : Nat) (r : op_O), Rn (lkp bX2_targetsSeenIn) 33 [(0, .ref 0), (1, .int l1), (2, .int z.1), (3, .int z.2)] [] (wX2_Night n_slots n_targets n_teams n_moon n_percents n_numbers n_seen n_odds) c s r → Rn (lkp bX2_targetsSeenIn) 4 [(0, .ref 0), (1, .int l1), (2, .int l2), (3, .int l3)] [] (wX2_Night n_slots n_targets n_teams n_moon n_percents n_numbers n_seen n_odds) c s r := by
  intro fu
  induction fu with
  | zero => intro l2 l3 z hp; cases hp
  | succ fu ih =>
      intro l2 l3 z hp c s r k
      unfold lpX2_targetsSeenIn_4 at hp
      refine Rn.go 3 (pc' := 9) (lv' := [(0, .ref 0), (1, .int l1), (2, .int l2), (3, .int l3)]) (st' := [.int n_targets, .int l3]) (es' := (wX2_Night n_slots n_targets n_teams n_moon n_percents n_numbers n_seen n_odds)) (c' := c) (s' := s) rfl ?_
      refine Rn.br (P := n_targets ≤ l3) (pc1 := 33) (pc2 := 12) rfl rfl (fun h1 => ?_) (fun h1 => ?_)
      · rw [if_pos h1] at hp
        obtain rfl := Option.some.inj hp
        exact k
      · rw [if_neg h1] at hp
        refine Rn.go 3 (pc' := 15) (lv' := [(0, .ref 0), (1, .int l1), (2, .int l2), (3, .int l3)]) (st' := [.int l1, .int l3, .ref 0]) (es' := (wX2_Night n_slots n_targets n_teams n_moon n_percents n_numbers n_seen n_odds)) (c' := c) (s' := s) rfl ?_
        obtain ⟨z1, hz1, hp⟩ := ob_some hp
        refine Rn.rel (pc' := 18) (lv' := [(0, .ref 0), (1, .int l1), (2, .int l2), (3, .int l3)]) (st' := [.int z1]) (es' := (wX2_Night n_slots n_targets n_teams n_moon n_percents n_numbers n_seen n_odds)) (dc := 0) (ds := 0) rfl ⟨0, [.int l3, .int l1], _, [0, 1, 2, 3, 4, 5], .inl (some (.int z1)), (wX2_Night n_slots n_targets n_teams n_moon n_percents n_numbers n_seen n_odds), 0, 0, rfl, rfl, Nat.le_of_ble_eq_true rfl, rfl, ⟨l3, l1, n_slots, n_targets, n_teams, n_moon, n_percents, n_numbers, n_seen, n_odds, z1, rfl, rfl, hz1, rfl⟩, rfl⟩ ?_
        refine Rn.br (P := z1 = 0) (pc1 := 27) (pc2 := 21) rfl rfl (fun h2 => ?_) (fun h2 => ?_)
        · rw [if_pos h2] at hp
          refine Rn.go 2 (pc' := 4) (lv' := [(0, .ref 0), (1, .int l1), (2, .int l2), (3, .int (l3 + (1 : Int32)))]) (st' := []) (es' := (wX2_Night n_slots n_targets n_teams n_moon n_percents n_numbers n_seen n_odds)) (c' := c) (s' := s) rfl ?_
          exact ih l2 (l3 + (1 : Int32)) z hp c s r k
        · rw [if_neg h2] at hp
          refine Rn.go 8 (pc' := 4) (lv' := [(0, .ref 0), (1, .int l1), (2, .int (l2 ||| ((1 : Int32) <<< (l3 &&& 31)))), (3, .int (l3 + (1 : Int32)))]) (st' := []) (es' := (wX2_Night n_slots n_targets n_teams n_moon n_percents n_numbers n_seen n_odds)) (c' := c) (s' := s) rfl ?_
          exact ih (l2 ||| ((1 : Int32) <<< (l3 &&& 31))) (l3 + (1 : Int32)) z hp c s r k
set_option maxRecDepth 100000 in
set_option maxHeartbeats 4000000 in
theorem oX2_targetsSeenIn : Of (lkp bX2_targetsSeenIn) 4 rX2_targetsSeenIn := by
  intro avs es r h
  obtain ⟨x1, n_slots, n_targets, n_teams, n_moon, n_percents, n_numbers, n_seen, n_odds, z, rfl, rfl, hp, rfl⟩ := h
  refine ⟨Nat.le_of_ble_eq_true rfl, ?_⟩
  unfold pX2_targetsSeenIn at hp
  refine Rn.go 4 (pc' := 4) (lv' := [(0, .ref 0), (1, .int x1), (2, .int (0 : Int32)), (3, .int (0 : Int32))]) (st' := []) (es' := (wX2_Night n_slots n_targets n_teams n_moon n_percents n_numbers n_seen n_odds)) (c' := 0) (s' := 0) rfl ?_
  obtain ⟨z2, hz2, hp⟩ := ob_some hp
  refine lrX2_targetsSeenIn_4 x1 n_slots n_targets n_teams n_moon n_percents n_numbers n_seen n_odds _ (0 : Int32) (0 : Int32) z2 hz2 _ _ _ ?_
  refine Rn.go 1 (pc' := 34) (lv' := [(0, .ref 0), (1, .int x1), (2, .int z2.1), (3, .int z2.2)]) (st' := [.int z2.1]) (es' := (wX2_Night n_slots n_targets n_teams n_moon n_percents n_numbers n_seen n_odds)) (c' := 0) (s' := 0) rfl ?_
  obtain rfl := Option.some.inj hp
  exact Rn.fin rfl rfl rfl
theorem qX2_targetsSeenIn : CtA yX2_targetsSeenIn (.code yX2_targetsSeenIn cX2_targetsSeenIn 4 (some .int)) 3 71 [] rX2_targetsSeenIn := CtA.of (by decide +kernel) (fun pc op h => kX2_targetsSeenIn _ (lkp_mem h)) oX2_targetsSeenIn
/-! TelescopeNight$Night.settle()V -/
def lpX2_settle_51 (n_slots : Int32) (n_targets : Int32) (n_moon : Nat → Int32) (n_percents : Nat → Int32) (n_numbers : Nat → Int32) : Nat → Int32 → Int32 → (Nat → Int32) → (Nat → Int32) → Option (Int32 × Int32 × (Nat → Int32) × (Nat → Int32))
  | 0, _, _, _, _ => none
  | fu + 1, l1, l2, n_seen, n_odds =>
    if n_slots ≤ l2 then
      some (l1, l2, n_seen, n_odds)
    else
      if (12 : Int32) ≤ l2 then
        some (l1, l2, n_seen, n_odds)
      else
        ob (pX2_targetsSeenIn l2 n_targets n_moon n_numbers) (fun z3 =>
        if (l2 < 0 ∨ 12 ≤ l2.toNatClampNeg) then none else
        lpX2_settle_51 n_slots n_targets n_moon n_percents n_numbers fu (((l1 * (n_percents 1)) + (((1000000 : Int32) - l1) * (n_percents 2))) / (100 : Int32)) (l2 + (1 : Int32)) (upd n_seen l2.toNatClampNeg z3) (upd n_odds l2.toNatClampNeg l1))
def lpX2_settle_7 (n_targets : Int32) (n_numbers : Nat → Int32) : Nat → Int32 → Int32 → Option (Int32 × Int32)
  | 0, _, _ => none
  | fu + 1, l1, n_teams =>
    if n_targets ≤ l1 then
      some (l1, n_teams)
    else
      ob (pX2_number l1 (0 : Int32) n_numbers) (fun z1 =>
      lpX2_settle_7 n_targets n_numbers fu (l1 + (1 : Int32)) (n_teams ||| ((1 : Int32) <<< (z1 &&& 31))))
def pX2_settle (n_slots : Int32) (n_targets : Int32) (n_moon : Nat → Int32) (n_percents : Nat → Int32) (n_numbers : Nat → Int32) (n_seen : Nat → Int32) (n_odds : Nat → Int32) : Option (Int32 × (Nat → Int32) × (Nat → Int32)) :=
  ob (lpX2_settle_7 n_targets n_numbers lpF (0 : Int32) (0 : Int32)) (fun z2 =>
  ob (lpX2_settle_51 n_slots n_targets n_moon n_percents n_numbers lpF ((10000 : Int32) * (n_percents 0)) (0 : Int32) n_seen n_odds) (fun z4 =>
  some (z2.2, z4.2.2.1, z4.2.2.2)))
def rX2_settle : List Value → List va_E → op_O → Prop := fun avs es r => ∃ (n_slots : Int32) (n_targets : Int32) (n_teams : Int32) (n_moon : Nat → Int32) (n_percents : Nat → Int32) (n_numbers : Nat → Int32) (n_seen : Nat → Int32) (n_odds : Nat → Int32) (z : Int32 × (Nat → Int32) × (Nat → Int32)), avs = [.ref 0] ∧ es = (wX2_Night n_slots n_targets n_teams n_moon n_percents n_numbers n_seen n_odds) ∧ pX2_settle n_slots n_targets n_moon n_percents n_numbers n_seen n_odds = some z ∧ r = (.inl none, (wX2_Night n_slots n_targets z.1 n_moon n_percents n_numbers z.2.1 z.2.2), 0, 0)
def bX2_settle : List (Nat × (op_T ⊕ op_R)) := [(0, .inl (o_aload 1 0)), (1, .inl (o_push 2 (.int (0)))), (2, .inl (o_put 5 2 2 .int)), (5, .inl (o_push 6 (.int (0)))), (6, .inl (nrm [0, 1] (o_istore 7 1))), (7, .inl (o_iload 8 1)), (8, .inl (o_aload 9 0)), (9, .inl (o_get 12 2 1)), (12, .inl (o_icmpge 15 38)), (15, .inl (o_aload 16 0)), (16, .inl (o_dup 17)), (17, .inl (o_get 20 2 2)), (20, .inl (o_push 21 (.int (1)))), (21, .inl (o_aload 22 0)), (22, .inl (o_iload 23 1)), (23, .inl (o_push 24 (.int (0)))), (24, .inr (o_callV [] [] 27 2 2 rX2_number)), (27, .inl (o_ii 28 (fun x y => x <<< (y &&& 31)))), (28, .inl (o_ii 29 (fun x y => x ||| y))), (29, .inl (o_put 32 2 2 .int)), (32, .inl (o_iinc 35 1 (1))), (35, .inl (nrm [0, 1] (o_goto 7))), (38, .inl (o_push 41 (.int (10000)))), (41, .inl (o_aload 42 0)), (42, .inl (o_get 45 2 4)), (45, .inl (o_push 46 (.int (0)))), (46, .inl (o_iald 47)), (47, .inl (o_ii 48 (fun x y => x * y))), (48, .inl (o_istore 49 1)), (49, .inl (o_push 50 (.int (0)))), (50, .inl (nrm [0, 1, 2] (o_istore 51 2))), (51, .inl (o_iload 52 2)), (52, .inl (o_aload 53 0)), (53, .inl (o_get 56 2 0)), (56, .inl (o_icmpge 59 113)), (59, .inl (o_iload 60 2)), (60, .inl (o_push 62 (.int (12)))), (62, .inl (o_icmpge 65 113)), (65, .inl (o_aload 66 0)), (66, .inl (o_get 69 2 6)), (69, .inl (o_iload 70 2)), (70, .inl (o_aload 71 0)), (71, .inl (o_iload 72 2)), (72, .inr (o_callV [] [] 75 1 2 rX2_targetsSeenIn)), (75, .inl (o_iast 76)), (76, .inl (o_aload 77 0)), (77, .inl (o_get 80 2 7)), (80, .inl (o_iload 81 2)), (81, .inl (o_iload 82 1)), (82, .inl (o_iast 83)), (83, .inl (o_iload 84 1)), (84, .inl (o_aload 85 0)), (85, .inl (o_get 88 2 4)), (88, .inl (o_push 89 (.int (1)))), (89, .inl (o_iald 90)), (90, .inl (o_ii 91 (fun x y => x * y))), (91, .inl (o_push 93 (.int (1000000)))), (93, .inl (o_iload 94 1)), (94, .inl (o_ii 95 (fun x y => x - y))), (95, .inl (o_aload 96 0)), (96, .inl (o_get 99 2 4)), (99, .inl (o_push 100 (.int (2)))), (100, .inl (o_iald 101)), (101, .inl (o_ii 102 (fun x y => x * y))), (102, .inl (o_ii 103 (fun x y => x + y))), (103, .inl (o_push 105 (.int (100)))), (105, .inl (o_idiv 106)), (106, .inl (o_istore 107 1)), (107, .inl (o_iinc 110 2 (1))), (110, .inl (nrm [0, 1, 2] (o_goto 51))), (113, .inl (o_vret))]
set_option maxRecDepth 100000 in
set_option maxHeartbeats 4000000 in
theorem kX2_settle : ∀ q ∈ bX2_settle, ok2 4 94 3 cX2_settle yX2_settle.cls yX2_settle.name none (.code yX2_settle cX2_settle 3 none) [] [] q.1 q.2 := (al_c (s_aload_n (k := 0) (by decide +kernel)) (al_c (s_iconst (n := 0) (0) (by decide) (by decide +kernel)) (al_c (s_put (C9 := RX2) (T9 := TX2) (N9 := 8) (ci := 2) (k := 2) iX2 rfl (by decide) w_93 tyX2 tyX2_ok nmX2 rfl (by decide +kernel)) (al_c (s_iconst (n := 0) (0) (by decide) (by decide +kernel)) (al_c (s_nrm [0, 1] (s_istore_n (k := 1) rfl (by decide) (by decide +kernel))) (al_c (s_iload_n (k := 1) (by decide +kernel)) (al_c (s_aload_n (k := 0) (by decide +kernel)) (al_c (s_get (C9 := RX2) (T9 := TX2) (N9 := 8) (ci := 2) (k := 1) iX2 rfl (by decide) w_87 (by decide +kernel)) (al_c (s_icmpge (off := 26) 38 (by decide) (by decide +kernel)) (al_c (s_aload_n (k := 0) (by decide +kernel)) (al_c (s_dup (by decide +kernel)) (al_c (s_get (C9 := RX2) (T9 := TX2) (N9 := 8) (ci := 2) (k := 2) iX2 rfl (by decide) w_93 (by decide +kernel)) (al_c (s_iconst (n := 1) (1) (by decide) (by decide +kernel)) (al_c (s_aload_n (k := 0) (by decide +kernel)) (al_c (s_iload_n (k := 1) (by decide +kernel)) (al_c (s_iconst (n := 0) (0) (by decide) (by decide +kernel)) (al_c (s_callV (y := yX2_number) (bytes := cX2_number) (maxL := 4) (ret' := (some .int)) (fr' := 0) (lo' := 0) (n := 2) (ml := []) (mlc := []) (ci := 2) (q9 := (RX2, TX2, 8)) qX2_number w_50 w_51 w_52 w_2 w_53 ⟨by decide +kernel, by decide +kernel, by decide +kernel⟩ rfl rfl (by decide) (by decide) (by decide +kernel)) (al_c (s_ishl (by decide +kernel)) (al_c (s_ior (by decide +kernel)) (al_c (s_put (C9 := RX2) (T9 := TX2) (N9 := 8) (ci := 2) (k := 2) iX2 rfl (by decide) w_93 tyX2 tyX2_ok nmX2 rfl (by decide +kernel)) (al_c (s_iinc (n := 1) (1) (by decide) (by decide) (by decide +kernel)) (al_c (s_nrm [0, 1] (s_goto (off := -28) 7 (by decide) (by decide +kernel))) (al_c (s_sipush (n := 10000) (10000) (by decide) (by decide +kernel)) (al_c (s_aload_n (k := 0) (by decide +kernel)) (al_c (s_get (C9 := RX2) (T9 := TX2) (N9 := 8) (ci := 2) (k := 4) iX2 rfl (by decide) w_97 (by decide +kernel)) (al_c (s_iconst (n := 0) (0) (by decide) (by decide +kernel)) (al_c (s_iald (by decide +kernel)) (al_c (s_imul (by decide +kernel)) (al_c (s_istore_n (k := 1) rfl (by decide) (by decide +kernel)) (al_c (s_iconst (n := 0) (0) (by decide) (by decide +kernel)) (al_c (s_nrm [0, 1, 2] (s_istore_n (k := 2) rfl (by decide) (by decide +kernel))) (al_c (s_iload_n (k := 2) (by decide +kernel)) (al_c (s_aload_n (k := 0) (by decide +kernel)) (al_c (s_get (C9 := RX2) (T9 := TX2) (N9 := 8) (ci := 2) (k := 0) iX2 rfl (by decide) w_81 (by decide +kernel)) (al_c (s_icmpge (off := 57) 113 (by decide) (by decide +kernel)) (al_c (s_iload_n (k := 2) (by decide +kernel)) (al_c (s_bipush (n := 12) (12) (by decide) (by decide +kernel)) (al_c (s_icmpge (off := 51) 113 (by decide) (by decide +kernel)) (al_c (s_aload_n (k := 0) (by decide +kernel)) (al_c (s_get (C9 := RX2) (T9 := TX2) (N9 := 8) (ci := 2) (k := 6) iX2 rfl (by decide) w_104 (by decide +kernel)) (al_c (s_iload_n (k := 2) (by decide +kernel)) (al_c (s_aload_n (k := 0) (by decide +kernel)) (al_c (s_iload_n (k := 2) (by decide +kernel)) (al_c (s_callV (y := yX2_targetsSeenIn) (bytes := cX2_targetsSeenIn) (maxL := 4) (ret' := (some .int)) (fr' := 3) (lo' := 71) (n := 1) (ml := []) (mlc := []) (ci := 2) (q9 := (RX2, TX2, 8)) qX2_targetsSeenIn w_54 w_56 wp_0 w_2 w_57 ⟨by decide +kernel, by decide +kernel, by decide +kernel⟩ rfl rfl (by decide) (by decide) (by decide +kernel)) (al_c (s_iast (by decide +kernel)) (al_c (s_aload_n (k := 0) (by decide +kernel)) (al_c (s_get (C9 := RX2) (T9 := TX2) (N9 := 8) (ci := 2) (k := 7) iX2 rfl (by decide) w_105 (by decide +kernel)) (al_c (s_iload_n (k := 2) (by decide +kernel)) (al_c (s_iload_n (k := 1) (by decide +kernel)) (al_c (s_iast (by decide +kernel)) (al_c (s_iload_n (k := 1) (by decide +kernel)) (al_c (s_aload_n (k := 0) (by decide +kernel)) (al_c (s_get (C9 := RX2) (T9 := TX2) (N9 := 8) (ci := 2) (k := 4) iX2 rfl (by decide) w_97 (by decide +kernel)) (al_c (s_iconst (n := 1) (1) (by decide) (by decide +kernel)) (al_c (s_iald (by decide +kernel)) (al_c (s_imul (by decide +kernel)) (al_c (s_ldc (1000000) w_80 (by decide +kernel)) (al_c (s_iload_n (k := 1) (by decide +kernel)) (al_c (s_isub (by decide +kernel)) (al_c (s_aload_n (k := 0) (by decide +kernel)) (al_c (s_get (C9 := RX2) (T9 := TX2) (N9 := 8) (ci := 2) (k := 4) iX2 rfl (by decide) w_97 (by decide +kernel)) (al_c (s_iconst (n := 2) (2) (by decide) (by decide +kernel)) (al_c (s_iald (by decide +kernel)) (al_c (s_imul (by decide +kernel)) (al_c (s_iadd (by decide +kernel)) (al_c (s_bipush (n := 100) (100) (by decide) (by decide +kernel)) (al_c (s_idiv (by decide +kernel)) (al_c (s_istore_n (k := 1) rfl (by decide) (by decide +kernel)) (al_c (s_iinc (n := 1) (1) (by decide) (by decide) (by decide +kernel)) (al_c (s_nrm [0, 1, 2] (s_goto (off := -59) 51 (by decide) (by decide +kernel))) (al_c (s_vret rfl (by decide +kernel)) al_n)))))))))))))))))))))))))))))))))))))))))))))))))))))))))))))))))))))))
set_option maxRecDepth 100000 in
set_option maxHeartbeats 4000000 in
theorem lrX2_settle_51 (n_slots : Int32) (n_targets : Int32) (n_teams : Int32) (n_moon : Nat → Int32) (n_percents : Nat → Int32) (n_numbers : Nat → Int32) : ∀ (fu : Nat) (l1 : Int32) (l2 : Int32) (n_seen : Nat → Int32) (n_odds : Nat → Int32) (z : (Int32 × Int32 × (Nat → Int32) × (Nat → Int32))), lpX2_settle_51 n_slots n_targets n_moon n_percents n_numbers fu l1 l2 n_seen n_odds = some z → ∀ (c s : Nat) (r : op_O), Rn (lkp bX2_settle) 113 [(0, .ref 0), (1, .int z.1), (2, .int z.2.1)] [] (wX2_Night n_slots n_targets n_teams n_moon n_percents n_numbers z.2.2.1 z.2.2.2) c s r → Rn (lkp bX2_settle) 51 [(0, .ref 0), (1, .int l1), (2, .int l2)] [] (wX2_Night n_slots n_targets n_teams n_moon n_percents n_numbers n_seen n_odds) c s r := by
  intro fu
  induction fu with
  | zero => intro l1 l2 n_seen n_odds z hp; cases hp
  | succ fu ih =>
      intro l1 l2 n_seen n_odds z hp c s r k
      unfold lpX2_settle_51 at hp
      refine Rn.go 3 (pc' := 56) (lv' := [(0, .ref 0), (1, .int l1), (2, .int l2)]) (st' := [.int n_slots, .int l2]) (es' := (wX2_Night n_slots n_targets n_teams n_moon n_percents n_numbers n_seen n_odds)) (c' := c) (s' := s) rfl ?_
      refine Rn.br (P := n_slots ≤ l2) (pc1 := 113) (pc2 := 59) rfl rfl (fun h2 => ?_) (fun h2 => ?_)
      · rw [if_pos h2] at hp
        obtain rfl := Option.some.inj hp
        exact k
      · rw [if_neg h2] at hp
        refine Rn.go 2 (pc' := 62) (lv' := [(0, .ref 0), (1, .int l1), (2, .int l2)]) (st' := [.int (12 : Int32), .int l2]) (es' := (wX2_Night n_slots n_targets n_teams n_moon n_percents n_numbers n_seen n_odds)) (c' := c) (s' := s) rfl ?_
        refine Rn.br (P := (12 : Int32) ≤ l2) (pc1 := 113) (pc2 := 65) rfl rfl (fun h3 => ?_) (fun h3 => ?_)
        · rw [if_pos h3] at hp
          obtain rfl := Option.some.inj hp
          exact k
        · rw [if_neg h3] at hp
          refine Rn.go 5 (pc' := 72) (lv' := [(0, .ref 0), (1, .int l1), (2, .int l2)]) (st' := [.int l2, .ref 0, .int l2, .ref 4]) (es' := (wX2_Night n_slots n_targets n_teams n_moon n_percents n_numbers n_seen n_odds)) (c' := c) (s' := s) rfl ?_
          obtain ⟨z3, hz3, hp⟩ := ob_some hp
          refine Rn.rel (pc' := 75) (lv' := [(0, .ref 0), (1, .int l1), (2, .int l2)]) (st' := [.int z3, .int l2, .ref 4]) (es' := (wX2_Night n_slots n_targets n_teams n_moon n_percents n_numbers n_seen n_odds)) (dc := 0) (ds := 0) rfl ⟨0, [.int l2], _, [0, 1, 2, 3, 4, 5], .inl (some (.int z3)), (wX2_Night n_slots n_targets n_teams n_moon n_percents n_numbers n_seen n_odds), 0, 0, rfl, rfl, Nat.le_of_ble_eq_true rfl, rfl, ⟨l2, n_slots, n_targets, n_teams, n_moon, n_percents, n_numbers, n_seen, n_odds, z3, rfl, rfl, hz3, rfl⟩, rfl⟩ ?_
          by_cases h4 : (l2 < 0 ∨ 12 ≤ l2.toNatClampNeg)
          · rw [if_pos h4] at hp; cases hp
          · rw [if_neg h4] at hp
            refine Rn.gd (pc' := 76) (lv' := [(0, .ref 0), (1, .int l1), (2, .int l2)]) (st' := []) (es' := (wX2_Night n_slots n_targets n_teams n_moon n_percents n_numbers (upd n_seen l2.toNatClampNeg z3) n_odds)) rfl rfl h4 ?_
            refine Rn.go 4 (pc' := 82) (lv' := [(0, .ref 0), (1, .int l1), (2, .int l2)]) (st' := [.int l1, .int l2, .ref 5]) (es' := (wX2_Night n_slots n_targets n_teams n_moon n_percents n_numbers (upd n_seen l2.toNatClampNeg z3) n_odds)) (c' := c) (s' := s) rfl ?_
            refine Rn.gd (pc' := 83) (lv' := [(0, .ref 0), (1, .int l1), (2, .int l2)]) (st' := []) (es' := (wX2_Night n_slots n_targets n_teams n_moon n_percents n_numbers (upd n_seen l2.toNatClampNeg z3) (upd n_odds l2.toNatClampNeg l1))) rfl rfl h4 ?_
            refine Rn.go 5 (pc' := 90) (lv' := [(0, .ref 0), (1, .int l1), (2, .int l2)]) (st' := [.int (n_percents 1), .int l1]) (es' := (wX2_Night n_slots n_targets n_teams n_moon n_percents n_numbers (upd n_seen l2.toNatClampNeg z3) (upd n_odds l2.toNatClampNeg l1))) (c' := c) (s' := s) rfl ?_
            refine Rn.go 8 (pc' := 101) (lv' := [(0, .ref 0), (1, .int l1), (2, .int l2)]) (st' := [.int (n_percents 2), .int ((1000000 : Int32) - l1), .int (l1 * (n_percents 1))]) (es' := (wX2_Night n_slots n_targets n_teams n_moon n_percents n_numbers (upd n_seen l2.toNatClampNeg z3) (upd n_odds l2.toNatClampNeg l1))) (c' := c) (s' := s) rfl ?_
            refine Rn.go 4 (pc' := 106) (lv' := [(0, .ref 0), (1, .int l1), (2, .int l2)]) (st' := [.int (((l1 * (n_percents 1)) + (((1000000 : Int32) - l1) * (n_percents 2))) / (100 : Int32))]) (es' := (wX2_Night n_slots n_targets n_teams n_moon n_percents n_numbers (upd n_seen l2.toNatClampNeg z3) (upd n_odds l2.toNatClampNeg l1))) (c' := c) (s' := s) rfl ?_
            refine Rn.go 3 (pc' := 51) (lv' := [(0, .ref 0), (1, .int (((l1 * (n_percents 1)) + (((1000000 : Int32) - l1) * (n_percents 2))) / (100 : Int32))), (2, .int (l2 + (1 : Int32)))]) (st' := []) (es' := (wX2_Night n_slots n_targets n_teams n_moon n_percents n_numbers (upd n_seen l2.toNatClampNeg z3) (upd n_odds l2.toNatClampNeg l1))) (c' := c) (s' := s) rfl ?_
            exact ih (((l1 * (n_percents 1)) + (((1000000 : Int32) - l1) * (n_percents 2))) / (100 : Int32)) (l2 + (1 : Int32)) (upd n_seen l2.toNatClampNeg z3) (upd n_odds l2.toNatClampNeg l1) z hp c s r k
set_option maxRecDepth 100000 in
set_option maxHeartbeats 4000000 in
theorem lrX2_settle_7 (n_slots : Int32) (n_targets : Int32) (n_moon : Nat → Int32) (n_percents : Nat → Int32) (n_numbers : Nat → Int32) (n_seen : Nat → Int32) (n_odds : Nat → Int32) : ∀ (fu : Nat) (l1 : Int32) (n_teams : Int32) (z : (Int32 × Int32)), lpX2_settle_7 n_targets n_numbers fu l1 n_teams = some z → ∀ (c s : Nat) (r : op_O), Rn (lkp bX2_settle) 38 [(0, .ref 0), (1, .int z.1)] [] (wX2_Night n_slots n_targets z.2 n_moon n_percents n_numbers n_seen n_odds) c s r → Rn (lkp bX2_settle) 7 [(0, .ref 0), (1, .int l1)] [] (wX2_Night n_slots n_targets n_teams n_moon n_percents n_numbers n_seen n_odds) c s r := by
  intro fu
  induction fu with
  | zero => intro l1 n_teams z hp; cases hp
  | succ fu ih =>
      intro l1 n_teams z hp c s r k
      unfold lpX2_settle_7 at hp
      refine Rn.go 3 (pc' := 12) (lv' := [(0, .ref 0), (1, .int l1)]) (st' := [.int n_targets, .int l1]) (es' := (wX2_Night n_slots n_targets n_teams n_moon n_percents n_numbers n_seen n_odds)) (c' := c) (s' := s) rfl ?_
      refine Rn.br (P := n_targets ≤ l1) (pc1 := 38) (pc2 := 15) rfl rfl (fun h1 => ?_) (fun h1 => ?_)
      · rw [if_pos h1] at hp
        obtain rfl := Option.some.inj hp
        exact k
      · rw [if_neg h1] at hp
        refine Rn.go 7 (pc' := 24) (lv' := [(0, .ref 0), (1, .int l1)]) (st' := [.int (0 : Int32), .int l1, .ref 0, .int (1 : Int32), .int n_teams, .ref 0]) (es' := (wX2_Night n_slots n_targets n_teams n_moon n_percents n_numbers n_seen n_odds)) (c' := c) (s' := s) rfl ?_
        obtain ⟨z1, hz1, hp⟩ := ob_some hp
        refine Rn.rel (pc' := 27) (lv' := [(0, .ref 0), (1, .int l1)]) (st' := [.int z1, .int (1 : Int32), .int n_teams, .ref 0]) (es' := (wX2_Night n_slots n_targets n_teams n_moon n_percents n_numbers n_seen n_odds)) (dc := 0) (ds := 0) rfl ⟨0, [.int l1, .int (0 : Int32)], _, [0, 1, 2, 3, 4, 5], .inl (some (.int z1)), (wX2_Night n_slots n_targets n_teams n_moon n_percents n_numbers n_seen n_odds), 0, 0, rfl, rfl, Nat.le_of_ble_eq_true rfl, rfl, ⟨l1, (0 : Int32), n_slots, n_targets, n_teams, n_moon, n_percents, n_numbers, n_seen, n_odds, z1, rfl, rfl, hz1, rfl⟩, rfl⟩ ?_
        refine Rn.go 5 (pc' := 7) (lv' := [(0, .ref 0), (1, .int (l1 + (1 : Int32)))]) (st' := []) (es' := (wX2_Night n_slots n_targets (n_teams ||| ((1 : Int32) <<< (z1 &&& 31))) n_moon n_percents n_numbers n_seen n_odds)) (c' := c) (s' := s) rfl ?_
        exact ih (l1 + (1 : Int32)) (n_teams ||| ((1 : Int32) <<< (z1 &&& 31))) z hp c s r k
set_option maxRecDepth 100000 in
set_option maxHeartbeats 4000000 in
theorem oX2_settle : Of (lkp bX2_settle) 3 rX2_settle := by
  intro avs es r h
  obtain ⟨n_slots, n_targets, n_teams, n_moon, n_percents, n_numbers, n_seen, n_odds, z, rfl, rfl, hp, rfl⟩ := h
  refine ⟨Nat.le_of_ble_eq_true rfl, ?_⟩
  unfold pX2_settle at hp
  refine Rn.go 5 (pc' := 7) (lv' := [(0, .ref 0), (1, .int (0 : Int32))]) (st' := []) (es' := (wX2_Night n_slots n_targets (0 : Int32) n_moon n_percents n_numbers n_seen n_odds)) (c' := 0) (s' := 0) rfl ?_
  obtain ⟨z2, hz2, hp⟩ := ob_some hp
  refine lrX2_settle_7 n_slots n_targets n_moon n_percents n_numbers n_seen n_odds _ (0 : Int32) (0 : Int32) z2 hz2 _ _ _ ?_
  refine Rn.go 5 (pc' := 47) (lv' := [(0, .ref 0), (1, .int z2.1)]) (st' := [.int (n_percents 0), .int (10000 : Int32)]) (es' := (wX2_Night n_slots n_targets z2.2 n_moon n_percents n_numbers n_seen n_odds)) (c' := 0) (s' := 0) rfl ?_
  refine Rn.go 4 (pc' := 51) (lv' := [(0, .ref 0), (1, .int ((10000 : Int32) * (n_percents 0))), (2, .int (0 : Int32))]) (st' := []) (es' := (wX2_Night n_slots n_targets z2.2 n_moon n_percents n_numbers n_seen n_odds)) (c' := 0) (s' := 0) rfl ?_
  obtain ⟨z4, hz4, hp⟩ := ob_some hp
  refine lrX2_settle_51 n_slots n_targets z2.2 n_moon n_percents n_numbers _ ((10000 : Int32) * (n_percents 0)) (0 : Int32) n_seen n_odds z4 hz4 _ _ _ ?_
  obtain rfl := Option.some.inj hp
  exact Rn.fin rfl rfl rfl
theorem qX2_settle : CtA yX2_settle (.code yX2_settle cX2_settle 3 none) 4 94 [] rX2_settle := CtA.of (by decide +kernel) (fun pc op h => kX2_settle _ (lkp_mem h)) oX2_settle
/-! TelescopeNight$Night.<init>()V -/
def pX2_init  : Option (Int32 × (Nat → Int32) × (Nat → Int32) × (Nat → Int32) × (Nat → Int32) × Nat × Nat) :=
  ob (pX2_setDefaults (fun _ => 0) (fun _ => 0)) (fun z1 =>
  ob (pX2_settle (6 : Int32) (0 : Int32) z1.1 z1.2 (fun _ => 0) (fun _ => 0) (fun _ => 0)) (fun z2 =>
  some (z2.1, z1.1, z1.2, z2.2.1, z2.2.2, 5, 87)))
def rX2_init : List Value → List va_E → op_O → Prop := fun avs es r => ∃  (z : Int32 × (Nat → Int32) × (Nat → Int32) × (Nat → Int32) × (Nat → Int32) × Nat × Nat), avs = [.ref 0] ∧ es = [kO 2 [.int 0, .int 0, .int 0, .null, .null, .null, .null, .null]] ∧ pX2_init = some z ∧ r = (.inl none, [kO 2 [.int (6 : Int32), .int (0 : Int32), .int z.1, .ref 1, .ref 2, .ref 3, .ref 4, .ref 5], kI 6 z.2.1, kI 3 z.2.2.1, kI 54 (fun _ => 0), kI 12 z.2.2.2.1, kI 12 z.2.2.2.2.1], z.2.2.2.2.2.1, z.2.2.2.2.2.2)
def bX2_init : List (Nat × (op_T ⊕ op_R)) := [(0, .inl (o_aload 1 0)), (1, .inl (o_objInit 4)), (4, .inl (o_aload 5 0)), (5, .inl (o_push 7 (.int (6)))), (7, .inl (o_newa 9 0)), (9, .inl (o_put 12 2 3 (.array .int))), (12, .inl (o_aload 13 0)), (13, .inl (o_push 14 (.int (3)))), (14, .inl (o_newa 16 0)), (16, .inl (o_put 19 2 4 (.array .int))), (19, .inl (o_aload 20 0)), (20, .inl (o_push 22 (.int (54)))), (22, .inl (o_newa 24 0)), (24, .inl (o_put 27 2 5 (.array .int))), (27, .inl (o_aload 28 0)), (28, .inl (o_push 30 (.int (12)))), (30, .inl (o_newa 32 0)), (32, .inl (o_put 35 2 6 (.array .int))), (35, .inl (o_aload 36 0)), (36, .inl (o_push 38 (.int (12)))), (38, .inl (o_newa 40 0)), (40, .inl (o_put 43 2 7 (.array .int))), (43, .inl (o_aload 44 0)), (44, .inr (o_callV [] [] 47 0 2 rX2_setDefaults)), (47, .inl (o_aload 48 0)), (48, .inr (o_callV [] [] 51 0 2 rX2_settle)), (51, .inl (o_vret))]
set_option maxRecDepth 100000 in
set_option maxHeartbeats 4000000 in
theorem kX2_init : ∀ q ∈ bX2_init, ok2 5 116 1 cX2_init yX2_init.cls yX2_init.name none (.code yX2_init cX2_init 1 none) [] [] q.1 q.2 := (al_c (s_aload_n (k := 0) (by decide +kernel)) (al_c (s_objInit w_38 w_31 w_32 (by decide) (by decide) (by decide +kernel)) (al_c (s_aload_n (k := 0) (by decide +kernel)) (al_c (s_bipush (n := 6) (6) (by decide) (by decide +kernel)) (al_c (s_newa (at9 := .int) (Or.inl ⟨rfl, rfl⟩) w_123 (by decide +kernel)) (al_c (s_putF (C9 := RX2) (T9 := TX2) (N9 := 8) (ci := 2) (k := 3) iX2 rfl (by decide) w_95 tyX2 tyX2_ok nmX2 rfl rfl rfl (by decide +kernel)) (al_c (s_aload_n (k := 0) (by decide +kernel)) (al_c (s_iconst (n := 3) (3) (by decide) (by decide +kernel)) (al_c (s_newa (at9 := .int) (Or.inl ⟨rfl, rfl⟩) w_123 (by decide +kernel)) (al_c (s_putF (C9 := RX2) (T9 := TX2) (N9 := 8) (ci := 2) (k := 4) iX2 rfl (by decide) w_97 tyX2 tyX2_ok nmX2 rfl rfl rfl (by decide +kernel)) (al_c (s_aload_n (k := 0) (by decide +kernel)) (al_c (s_bipush (n := 54) (54) (by decide) (by decide +kernel)) (al_c (s_newa (at9 := .int) (Or.inl ⟨rfl, rfl⟩) w_123 (by decide +kernel)) (al_c (s_putF (C9 := RX2) (T9 := TX2) (N9 := 8) (ci := 2) (k := 5) iX2 rfl (by decide) w_102 tyX2 tyX2_ok nmX2 rfl rfl rfl (by decide +kernel)) (al_c (s_aload_n (k := 0) (by decide +kernel)) (al_c (s_bipush (n := 12) (12) (by decide) (by decide +kernel)) (al_c (s_newa (at9 := .int) (Or.inl ⟨rfl, rfl⟩) w_123 (by decide +kernel)) (al_c (s_putF (C9 := RX2) (T9 := TX2) (N9 := 8) (ci := 2) (k := 6) iX2 rfl (by decide) w_104 tyX2 tyX2_ok nmX2 rfl rfl rfl (by decide +kernel)) (al_c (s_aload_n (k := 0) (by decide +kernel)) (al_c (s_bipush (n := 12) (12) (by decide) (by decide +kernel)) (al_c (s_newa (at9 := .int) (Or.inl ⟨rfl, rfl⟩) w_123 (by decide +kernel)) (al_c (s_putF (C9 := RX2) (T9 := TX2) (N9 := 8) (ci := 2) (k := 7) iX2 rfl (by decide) w_105 tyX2 tyX2_ok nmX2 rfl rfl rfl (by decide +kernel)) (al_c (s_aload_n (k := 0) (by decide +kernel)) (al_c (s_callV (y := yX2_setDefaults) (bytes := cX2_setDefaults) (maxL := 1) (ret' := none) (fr' := 1) (lo' := 23) (n := 0) (ml := []) (mlc := []) (ci := 2) (q9 := (RX2, TX2, 8)) qX2_setDefaults w_39 w_40 w_41 w_2 w_42 ⟨by decide +kernel, by decide +kernel, by decide +kernel⟩ rfl rfl (by decide) (by decide) (by decide +kernel)) (al_c (s_aload_n (k := 0) (by decide +kernel)) (al_c (s_callV (y := yX2_settle) (bytes := cX2_settle) (maxL := 3) (ret' := none) (fr' := 4) (lo' := 94) (n := 0) (ml := []) (mlc := []) (ci := 2) (q9 := (RX2, TX2, 8)) qX2_settle w_46 w_47 w_48 w_2 w_49 ⟨by decide +kernel, by decide +kernel, by decide +kernel⟩ rfl rfl (by decide) (by decide) (by decide +kernel)) (al_c (s_vret rfl (by decide +kernel)) al_n)))))))))))))))))))))))))))
set_option maxRecDepth 100000 in
set_option maxHeartbeats 4000000 in
theorem oX2_init : Of (lkp bX2_init) 1 rX2_init := by
  intro avs es r h
  obtain ⟨z, rfl, rfl, hp, rfl⟩ := h
  refine ⟨Nat.le_of_ble_eq_true rfl, ?_⟩
  unfold pX2_init at hp
  refine Rn.go 5 (pc' := 9) (lv' := [(0, .ref 0)]) (st' := [.ref 1, .ref 0]) (es' := [kO 2 [.int 0, .int 0, .int 0, .null, .null, .null, .null, .null], kI 6 (fun _ => 0)]) (c' := 1) (s' := 6) rfl ?_
  refine Rn.go 4 (pc' := 16) (lv' := [(0, .ref 0)]) (st' := [.ref 2, .ref 0]) (es' := [kO 2 [.int 0, .int 0, .int 0, .ref 1, .null, .null, .null, .null], kI 6 (fun _ => 0), kI 3 (fun _ => 0)]) (c' := 2) (s' := 9) rfl ?_
  refine Rn.go 4 (pc' := 24) (lv' := [(0, .ref 0)]) (st' := [.ref 3, .ref 0]) (es' := [kO 2 [.int 0, .int 0, .int 0, .ref 1, .ref 2, .null, .null, .null], kI 6 (fun _ => 0), kI 3 (fun _ => 0), kI 54 (fun _ => 0)]) (c' := 3) (s' := 63) rfl ?_
  refine Rn.go 4 (pc' := 32) (lv' := [(0, .ref 0)]) (st' := [.ref 4, .ref 0]) (es' := [kO 2 [.int 0, .int 0, .int 0, .ref 1, .ref 2, .ref 3, .null, .null], kI 6 (fun _ => 0), kI 3 (fun _ => 0), kI 54 (fun _ => 0), kI 12 (fun _ => 0)]) (c' := 4) (s' := 75) rfl ?_
  refine Rn.go 4 (pc' := 40) (lv' := [(0, .ref 0)]) (st' := [.ref 5, .ref 0]) (es' := [kO 2 [.int 0, .int 0, .int 0, .ref 1, .ref 2, .ref 3, .ref 4, .null], kI 6 (fun _ => 0), kI 3 (fun _ => 0), kI 54 (fun _ => 0), kI 12 (fun _ => 0), kI 12 (fun _ => 0)]) (c' := 5) (s' := 87) rfl ?_
  refine Rn.go 2 (pc' := 44) (lv' := [(0, .ref 0)]) (st' := [.ref 0]) (es' := [kO 2 [.int 0, .int 0, .int 0, .ref 1, .ref 2, .ref 3, .ref 4, .ref 5], kI 6 (fun _ => 0), kI 3 (fun _ => 0), kI 54 (fun _ => 0), kI 12 (fun _ => 0), kI 12 (fun _ => 0)]) (c' := 5) (s' := 87) rfl ?_
  obtain ⟨z1, hz1, hp⟩ := ob_some hp
  refine Rn.rel (pc' := 47) (lv' := [(0, .ref 0)]) (st' := []) (es' := [kO 2 [.int (6 : Int32), .int (0 : Int32), .int 0, .ref 1, .ref 2, .ref 3, .ref 4, .ref 5], kI 6 z1.1, kI 3 z1.2, kI 54 (fun _ => 0), kI 12 (fun _ => 0), kI 12 (fun _ => 0)]) (dc := 0) (ds := 0) rfl ⟨0, [], _, [0, 1, 2, 3, 4, 5], .inl none, (wX2_Night (6 : Int32) (0 : Int32) 0 z1.1 z1.2 (fun _ => 0) (fun _ => 0) (fun _ => 0)), 0, 0, rfl, rfl, Nat.le_of_ble_eq_true rfl, rfl, ⟨0, 0, 0, (fun _ => 0), (fun _ => 0), (fun _ => 0), (fun _ => 0), (fun _ => 0), z1, rfl, rfl, hz1, rfl⟩, rfl⟩ ?_
  refine Rn.go 1 (pc' := 48) (lv' := [(0, .ref 0)]) (st' := [.ref 0]) (es' := [kO 2 [.int (6 : Int32), .int (0 : Int32), .int 0, .ref 1, .ref 2, .ref 3, .ref 4, .ref 5], kI 6 z1.1, kI 3 z1.2, kI 54 (fun _ => 0), kI 12 (fun _ => 0), kI 12 (fun _ => 0)]) (c' := 5) (s' := 87) rfl ?_
  obtain ⟨z2, hz2, hp⟩ := ob_some hp
  refine Rn.rel (pc' := 51) (lv' := [(0, .ref 0)]) (st' := []) (es' := [kO 2 [.int (6 : Int32), .int (0 : Int32), .int z2.1, .ref 1, .ref 2, .ref 3, .ref 4, .ref 5], kI 6 z1.1, kI 3 z1.2, kI 54 (fun _ => 0), kI 12 z2.2.1, kI 12 z2.2.2]) (dc := 0) (ds := 0) rfl ⟨0, [], _, [0, 1, 2, 3, 4, 5], .inl none, (wX2_Night (6 : Int32) (0 : Int32) z2.1 z1.1 z1.2 (fun _ => 0) z2.2.1 z2.2.2), 0, 0, rfl, rfl, Nat.le_of_ble_eq_true rfl, rfl, ⟨(6 : Int32), (0 : Int32), 0, z1.1, z1.2, (fun _ => 0), (fun _ => 0), (fun _ => 0), z2, rfl, rfl, hz2, rfl⟩, rfl⟩ ?_
  obtain rfl := Option.some.inj hp
  exact Rn.fin rfl rfl rfl
theorem qX2_init : CtA yX2_init (.code yX2_init cX2_init 1 none) 5 116 [] rX2_init := CtA.of (by decide +kernel) (fun pc op h => kX2_init _ (lkp_mem h)) oX2_init
/-! TelescopeNight$Night.copyFrom(LTelescopeNight$Night;)V -/
def pX2_copyFrom (n_moon : Nat → Int32) (n_percents : Nat → Int32) (n_numbers : Nat → Int32) (n_seen : Nat → Int32) (n_odds : Nat → Int32) (n2_slots : Int32) (n2_targets : Int32) (n2_teams : Int32) (n2_moon : Nat → Int32) (n2_percents : Nat → Int32) (n2_numbers : Nat → Int32) (n2_seen : Nat → Int32) (n2_odds : Nat → Int32) : Option (Int32 × Int32 × Int32 × (Nat → Int32) × (Nat → Int32) × (Nat → Int32) × (Nat → Int32) × (Nat → Int32)) :=
  some (n2_slots, n2_targets, n2_teams, (va_cpy n2_moon n_moon 0 0 6), (va_cpy n2_percents n_percents 0 0 3), (va_cpy n2_numbers n_numbers 0 0 54), (va_cpy n2_seen n_seen 0 0 12), (va_cpy n2_odds n_odds 0 0 12))
def rX2_copyFrom : List Value → List va_E → op_O → Prop := fun avs es r => ∃ (n_slots : Int32) (n_targets : Int32) (n_teams : Int32) (n_moon : Nat → Int32) (n_percents : Nat → Int32) (n_numbers : Nat → Int32) (n_seen : Nat → Int32) (n_odds : Nat → Int32) (n2_slots : Int32) (n2_targets : Int32) (n2_teams : Int32) (n2_moon : Nat → Int32) (n2_percents : Nat → Int32) (n2_numbers : Nat → Int32) (n2_seen : Nat → Int32) (n2_odds : Nat → Int32) (z : Int32 × Int32 × Int32 × (Nat → Int32) × (Nat → Int32) × (Nat → Int32) × (Nat → Int32) × (Nat → Int32)), avs = [.ref 0, .ref 6] ∧ es = (wX2_copyFrom n_slots n_targets n_teams n_moon n_percents n_numbers n_seen n_odds n2_slots n2_targets n2_teams n2_moon n2_percents n2_numbers n2_seen n2_odds) ∧ pX2_copyFrom n_moon n_percents n_numbers n_seen n_odds n2_slots n2_targets n2_teams n2_moon n2_percents n2_numbers n2_seen n2_odds = some z ∧ r = (.inl none, (wX2_copyFrom z.1 z.2.1 z.2.2.1 z.2.2.2.1 z.2.2.2.2.1 z.2.2.2.2.2.1 z.2.2.2.2.2.2.1 z.2.2.2.2.2.2.2 n2_slots n2_targets n2_teams n2_moon n2_percents n2_numbers n2_seen n2_odds), 0, 0)
def bX2_copyFrom : List (Nat × (op_T ⊕ op_R)) := [(0, .inl (o_aload 1 0)), (1, .inl (o_aload 2 1)), (2, .inl (o_get 5 2 0)), (5, .inl (o_put 8 2 0 .int)), (8, .inl (o_aload 9 0)), (9, .inl (o_aload 10 1)), (10, .inl (o_get 13 2 1)), (13, .inl (o_put 16 2 1 .int)), (16, .inl (o_aload 17 0)), (17, .inl (o_aload 18 1)), (18, .inl (o_get 21 2 2)), (21, .inl (o_put 24 2 2 .int)), (24, .inl (o_aload 25 1)), (25, .inl (o_get 28 2 3)), (28, .inl (o_push 29 (.int (0)))), (29, .inl (o_aload 30 0)), (30, .inl (o_get 33 2 3)), (33, .inl (o_push 34 (.int (0)))), (34, .inl (o_push 36 (.int (6)))), (36, .inl (o_copy 39)), (39, .inl (o_aload 40 1)), (40, .inl (o_get 43 2 4)), (43, .inl (o_push 44 (.int (0)))), (44, .inl (o_aload 45 0)), (45, .inl (o_get 48 2 4)), (48, .inl (o_push 49 (.int (0)))), (49, .inl (o_push 50 (.int (3)))), (50, .inl (o_copy 53)), (53, .inl (o_aload 54 1)), (54, .inl (o_get 57 2 5)), (57, .inl (o_push 58 (.int (0)))), (58, .inl (o_aload 59 0)), (59, .inl (o_get 62 2 5)), (62, .inl (o_push 63 (.int (0)))), (63, .inl (o_push 65 (.int (54)))), (65, .inl (o_copy 68)), (68, .inl (o_aload 69 1)), (69, .inl (o_get 72 2 6)), (72, .inl (o_push 73 (.int (0)))), (73, .inl (o_aload 74 0)), (74, .inl (o_get 77 2 6)), (77, .inl (o_push 78 (.int (0)))), (78, .inl (o_push 80 (.int (12)))), (80, .inl (o_copy 83)), (83, .inl (o_aload 84 1)), (84, .inl (o_get 87 2 7)), (87, .inl (o_push 88 (.int (0)))), (88, .inl (o_aload 89 0)), (89, .inl (o_get 92 2 7)), (92, .inl (o_push 93 (.int (0)))), (93, .inl (o_push 95 (.int (12)))), (95, .inl (o_copy 98)), (98, .inl (o_vret))]
set_option maxRecDepth 100000 in
set_option maxHeartbeats 4000000 in
theorem kX2_copyFrom : ∀ q ∈ bX2_copyFrom, ok2 1 60 2 cX2_copyFrom yX2_copyFrom.cls yX2_copyFrom.name none (.code yX2_copyFrom cX2_copyFrom 2 none) [] [] q.1 q.2 := (al_c (s_aload_n (k := 0) (by decide +kernel)) (al_c (s_aload_n (k := 1) (by decide +kernel)) (al_c (s_get (C9 := RX2) (T9 := TX2) (N9 := 8) (ci := 2) (k := 0) iX2 rfl (by decide) w_81 (by decide +kernel)) (al_c (s_put (C9 := RX2) (T9 := TX2) (N9 := 8) (ci := 2) (k := 0) iX2 rfl (by decide) w_81 tyX2 tyX2_ok nmX2 rfl (by decide +kernel)) (al_c (s_aload_n (k := 0) (by decide +kernel)) (al_c (s_aload_n (k := 1) (by decide +kernel)) (al_c (s_get (C9 := RX2) (T9 := TX2) (N9 := 8) (ci := 2) (k := 1) iX2 rfl (by decide) w_87 (by decide +kernel)) (al_c (s_put (C9 := RX2) (T9 := TX2) (N9 := 8) (ci := 2) (k := 1) iX2 rfl (by decide) w_87 tyX2 tyX2_ok nmX2 rfl (by decide +kernel)) (al_c (s_aload_n (k := 0) (by decide +kernel)) (al_c (s_aload_n (k := 1) (by decide +kernel)) (al_c (s_get (C9 := RX2) (T9 := TX2) (N9 := 8) (ci := 2) (k := 2) iX2 rfl (by decide) w_93 (by decide +kernel)) (al_c (s_put (C9 := RX2) (T9 := TX2) (N9 := 8) (ci := 2) (k := 2) iX2 rfl (by decide) w_93 tyX2 tyX2_ok nmX2 rfl (by decide +kernel)) (al_c (s_aload_n (k := 1) (by decide +kernel)) (al_c (s_get (C9 := RX2) (T9 := TX2) (N9 := 8) (ci := 2) (k := 3) iX2 rfl (by decide) w_95 (by decide +kernel)) (al_c (s_iconst (n := 0) (0) (by decide) (by decide +kernel)) (al_c (s_aload_n (k := 0) (by decide +kernel)) (al_c (s_get (C9 := RX2) (T9 := TX2) (N9 := 8) (ci := 2) (k := 3) iX2 rfl (by decide) w_95 (by decide +kernel)) (al_c (s_iconst (n := 0) (0) (by decide) (by decide +kernel)) (al_c (s_bipush (n := 6) (6) (by decide) (by decide +kernel)) (al_c (s_copy w_425 w_427 w_426 w_22 (by decide) (by decide +kernel) (by decide +kernel)) (al_c (s_aload_n (k := 1) (by decide +kernel)) (al_c (s_get (C9 := RX2) (T9 := TX2) (N9 := 8) (ci := 2) (k := 4) iX2 rfl (by decide) w_97 (by decide +kernel)) (al_c (s_iconst (n := 0) (0) (by decide) (by decide +kernel)) (al_c (s_aload_n (k := 0) (by decide +kernel)) (al_c (s_get (C9 := RX2) (T9 := TX2) (N9 := 8) (ci := 2) (k := 4) iX2 rfl (by decide) w_97 (by decide +kernel)) (al_c (s_iconst (n := 0) (0) (by decide) (by decide +kernel)) (al_c (s_iconst (n := 3) (3) (by decide) (by decide +kernel)) (al_c (s_copy w_425 w_427 w_426 w_22 (by decide) (by decide +kernel) (by decide +kernel)) (al_c (s_aload_n (k := 1) (by decide +kernel)) (al_c (s_get (C9 := RX2) (T9 := TX2) (N9 := 8) (ci := 2) (k := 5) iX2 rfl (by decide) w_102 (by decide +kernel)) (al_c (s_iconst (n := 0) (0) (by decide) (by decide +kernel)) (al_c (s_aload_n (k := 0) (by decide +kernel)) (al_c (s_get (C9 := RX2) (T9 := TX2) (N9 := 8) (ci := 2) (k := 5) iX2 rfl (by decide) w_102 (by decide +kernel)) (al_c (s_iconst (n := 0) (0) (by decide) (by decide +kernel)) (al_c (s_bipush (n := 54) (54) (by decide) (by decide +kernel)) (al_c (s_copy w_425 w_427 w_426 w_22 (by decide) (by decide +kernel) (by decide +kernel)) (al_c (s_aload_n (k := 1) (by decide +kernel)) (al_c (s_get (C9 := RX2) (T9 := TX2) (N9 := 8) (ci := 2) (k := 6) iX2 rfl (by decide) w_104 (by decide +kernel)) (al_c (s_iconst (n := 0) (0) (by decide) (by decide +kernel)) (al_c (s_aload_n (k := 0) (by decide +kernel)) (al_c (s_get (C9 := RX2) (T9 := TX2) (N9 := 8) (ci := 2) (k := 6) iX2 rfl (by decide) w_104 (by decide +kernel)) (al_c (s_iconst (n := 0) (0) (by decide) (by decide +kernel)) (al_c (s_bipush (n := 12) (12) (by decide) (by decide +kernel)) (al_c (s_copy w_425 w_427 w_426 w_22 (by decide) (by decide +kernel) (by decide +kernel)) (al_c (s_aload_n (k := 1) (by decide +kernel)) (al_c (s_get (C9 := RX2) (T9 := TX2) (N9 := 8) (ci := 2) (k := 7) iX2 rfl (by decide) w_105 (by decide +kernel)) (al_c (s_iconst (n := 0) (0) (by decide) (by decide +kernel)) (al_c (s_aload_n (k := 0) (by decide +kernel)) (al_c (s_get (C9 := RX2) (T9 := TX2) (N9 := 8) (ci := 2) (k := 7) iX2 rfl (by decide) w_105 (by decide +kernel)) (al_c (s_iconst (n := 0) (0) (by decide) (by decide +kernel)) (al_c (s_bipush (n := 12) (12) (by decide) (by decide +kernel)) (al_c (s_copy w_425 w_427 w_426 w_22 (by decide) (by decide +kernel) (by decide +kernel)) (al_c (s_vret rfl (by decide +kernel)) al_n)))))))))))))))))))))))))))))))))))))))))))))))))))))
set_option maxRecDepth 100000 in
set_option maxHeartbeats 4000000 in
theorem oX2_copyFrom : Of (lkp bX2_copyFrom) 2 rX2_copyFrom := by
  intro avs es r h
  obtain ⟨n_slots, n_targets, n_teams, n_moon, n_percents, n_numbers, n_seen, n_odds, n2_slots, n2_targets, n2_teams, n2_moon, n2_percents, n2_numbers, n2_seen, n2_odds, z, rfl, rfl, hp, rfl⟩ := h
  refine ⟨Nat.le_of_ble_eq_true rfl, ?_⟩
  unfold pX2_copyFrom at hp
  refine Rn.go 20 (pc' := 39) (lv' := [(0, .ref 0), (1, .ref 6)]) (st' := []) (es' := (wX2_copyFrom n2_slots n2_targets n2_teams (va_cpy n2_moon n_moon 0 0 6) n_percents n_numbers n_seen n_odds n2_slots n2_targets n2_teams n2_moon n2_percents n2_numbers n2_seen n2_odds)) (c' := 0) (s' := 0) rfl ?_
  refine Rn.go 8 (pc' := 53) (lv' := [(0, .ref 0), (1, .ref 6)]) (st' := []) (es' := (wX2_copyFrom n2_slots n2_targets n2_teams (va_cpy n2_moon n_moon 0 0 6) (va_cpy n2_percents n_percents 0 0 3) n_numbers n_seen n_odds n2_slots n2_targets n2_teams n2_moon n2_percents n2_numbers n2_seen n2_odds)) (c' := 0) (s' := 0) rfl ?_
  refine Rn.go 8 (pc' := 68) (lv' := [(0, .ref 0), (1, .ref 6)]) (st' := []) (es' := (wX2_copyFrom n2_slots n2_targets n2_teams (va_cpy n2_moon n_moon 0 0 6) (va_cpy n2_percents n_percents 0 0 3) (va_cpy n2_numbers n_numbers 0 0 54) n_seen n_odds n2_slots n2_targets n2_teams n2_moon n2_percents n2_numbers n2_seen n2_odds)) (c' := 0) (s' := 0) rfl ?_
  refine Rn.go 8 (pc' := 83) (lv' := [(0, .ref 0), (1, .ref 6)]) (st' := []) (es' := (wX2_copyFrom n2_slots n2_targets n2_teams (va_cpy n2_moon n_moon 0 0 6) (va_cpy n2_percents n_percents 0 0 3) (va_cpy n2_numbers n_numbers 0 0 54) (va_cpy n2_seen n_seen 0 0 12) n_odds n2_slots n2_targets n2_teams n2_moon n2_percents n2_numbers n2_seen n2_odds)) (c' := 0) (s' := 0) rfl ?_
  refine Rn.go 8 (pc' := 98) (lv' := [(0, .ref 0), (1, .ref 6)]) (st' := []) (es' := (wX2_copyFrom n2_slots n2_targets n2_teams (va_cpy n2_moon n_moon 0 0 6) (va_cpy n2_percents n_percents 0 0 3) (va_cpy n2_numbers n_numbers 0 0 54) (va_cpy n2_seen n_seen 0 0 12) (va_cpy n2_odds n_odds 0 0 12) n2_slots n2_targets n2_teams n2_moon n2_percents n2_numbers n2_seen n2_odds)) (c' := 0) (s' := 0) rfl ?_
  obtain rfl := Option.some.inj hp
  exact Rn.fin rfl rfl rfl
theorem qX2_copyFrom : CtA yX2_copyFrom (.code yX2_copyFrom cX2_copyFrom 2 none) 1 60 [] rX2_copyFrom := CtA.of (by decide +kernel) (fun pc op h => kX2_copyFrom _ (lkp_mem h)) oX2_copyFrom
/-! TelescopeNight$Night.targetsIn(I)I -/
def pX2_targetsIn (x1 : Int32) (n_slots : Int32) (n_seen : Nat → Int32) : Option (Int32) :=
  if x1 < 0 then
    some (0 : Int32)
  else
    if n_slots ≤ x1 then
      some (0 : Int32)
    else
      if (12 : Int32) ≤ x1 then
        some (0 : Int32)
      else
        if (x1 < 0 ∨ 12 ≤ x1.toNatClampNeg) then none else
        some (n_seen x1.toNatClampNeg)
def rX2_targetsIn : List Value → List va_E → op_O → Prop := fun avs es r => ∃ (x1 : Int32) (n_slots : Int32) (n_targets : Int32) (n_teams : Int32) (n_moon : Nat → Int32) (n_percents : Nat → Int32) (n_numbers : Nat → Int32) (n_seen : Nat → Int32) (n_odds : Nat → Int32) (z : Int32), avs = [.ref 0, .int x1] ∧ es = (wX2_Night n_slots n_targets n_teams n_moon n_percents n_numbers n_seen n_odds) ∧ pX2_targetsIn x1 n_slots n_seen = some z ∧ r = (.inl (some (.int z)), (wX2_Night n_slots n_targets n_teams n_moon n_percents n_numbers n_seen n_odds), 0, 0)
def bX2_targetsIn : List (Nat × (op_T ⊕ op_R)) := [(0, .inl (o_iload 1 1)), (1, .inl (o_iflt 4 27)), (4, .inl (o_iload 5 1)), (5, .inl (o_aload 6 0)), (6, .inl (o_get 9 2 0)), (9, .inl (o_icmpge 12 27)), (12, .inl (o_iload 13 1)), (13, .inl (o_push 15 (.int (12)))), (15, .inl (o_icmpge 18 27)), (18, .inl (o_aload 19 0)), (19, .inl (o_get 22 2 6)), (22, .inl (o_iload 23 1)), (23, .inl (o_iald 24)), (24, .inl (o_goto 28)), (27, .inl (o_push 28 (.int (0)))), (28, .inl (o_iret))]
set_option maxRecDepth 100000 in
set_option maxHeartbeats 4000000 in
theorem kX2_targetsIn : ∀ q ∈ bX2_targetsIn, ok2 0 0 2 cX2_targetsIn yX2_targetsIn.cls yX2_targetsIn.name (some .int) (.code yX2_targetsIn cX2_targetsIn 2 (some .int)) [] [] q.1 q.2 := (al_c (s_iload_n (k := 1) (by decide +kernel)) (al_c (s_iflt (off := 26) 27 (by decide) (by decide +kernel)) (al_c (s_iload_n (k := 1) (by decide +kernel)) (al_c (s_aload_n (k := 0) (by decide +kernel)) (al_c (s_get (C9 := RX2) (T9 := TX2) (N9 := 8) (ci := 2) (k := 0) iX2 rfl (by decide) w_81 (by decide +kernel)) (al_c (s_icmpge (off := 18) 27 (by decide) (by decide +kernel)) (al_c (s_iload_n (k := 1) (by decide +kernel)) (al_c (s_bipush (n := 12) (12) (by decide) (by decide +kernel)) (al_c (s_icmpge (off := 12) 27 (by decide) (by decide +kernel)) (al_c (s_aload_n (k := 0) (by decide +kernel)) (al_c (s_get (C9 := RX2) (T9 := TX2) (N9 := 8) (ci := 2) (k := 6) iX2 rfl (by decide) w_104 (by decide +kernel)) (al_c (s_iload_n (k := 1) (by decide +kernel)) (al_c (s_iald (by decide +kernel)) (al_c (s_goto (off := 4) 28 (by decide) (by decide +kernel)) (al_c (s_iconst (n := 0) (0) (by decide) (by decide +kernel)) (al_c (s_iret rfl (by decide +kernel)) al_n))))))))))))))))
set_option maxRecDepth 100000 in
set_option maxHeartbeats 4000000 in
theorem oX2_targetsIn : Of (lkp bX2_targetsIn) 2 rX2_targetsIn := by
  intro avs es r h
  obtain ⟨x1, n_slots, n_targets, n_teams, n_moon, n_percents, n_numbers, n_seen, n_odds, z, rfl, rfl, hp, rfl⟩ := h
  refine ⟨Nat.le_of_ble_eq_true rfl, ?_⟩
  unfold pX2_targetsIn at hp
  refine Rn.go 1 (pc' := 1) (lv' := [(0, .ref 0), (1, .int x1)]) (st' := [.int x1]) (es' := (wX2_Night n_slots n_targets n_teams n_moon n_percents n_numbers n_seen n_odds)) (c' := 0) (s' := 0) rfl ?_
  refine Rn.br (P := x1 < 0) (pc1 := 27) (pc2 := 4) rfl rfl (fun h1 => ?_) (fun h1 => ?_)
  · rw [if_pos h1] at hp
    refine Rn.go 1 (pc' := 28) (lv' := [(0, .ref 0), (1, .int x1)]) (st' := [.int (0 : Int32)]) (es' := (wX2_Night n_slots n_targets n_teams n_moon n_percents n_numbers n_seen n_odds)) (c' := 0) (s' := 0) rfl ?_
    obtain rfl := Option.some.inj hp
    exact Rn.fin rfl rfl rfl
  · rw [if_neg h1] at hp
    refine Rn.go 3 (pc' := 9) (lv' := [(0, .ref 0), (1, .int x1)]) (st' := [.int n_slots, .int x1]) (es' := (wX2_Night n_slots n_targets n_teams n_moon n_percents n_numbers n_seen n_odds)) (c' := 0) (s' := 0) rfl ?_
    refine Rn.br (P := n_slots ≤ x1) (pc1 := 27) (pc2 := 12) rfl rfl (fun h2 => ?_) (fun h2 => ?_)
    · rw [if_pos h2] at hp
      refine Rn.go 1 (pc' := 28) (lv' := [(0, .ref 0), (1, .int x1)]) (st' := [.int (0 : Int32)]) (es' := (wX2_Night n_slots n_targets n_teams n_moon n_percents n_numbers n_seen n_odds)) (c' := 0) (s' := 0) rfl ?_
      obtain rfl := Option.some.inj hp
      exact Rn.fin rfl rfl rfl
    · rw [if_neg h2] at hp
      refine Rn.go 2 (pc' := 15) (lv' := [(0, .ref 0), (1, .int x1)]) (st' := [.int (12 : Int32), .int x1]) (es' := (wX2_Night n_slots n_targets n_teams n_moon n_percents n_numbers n_seen n_odds)) (c' := 0) (s' := 0) rfl ?_
      refine Rn.br (P := (12 : Int32) ≤ x1) (pc1 := 27) (pc2 := 18) rfl rfl (fun h3 => ?_) (fun h3 => ?_)
      · rw [if_pos h3] at hp
        refine Rn.go 1 (pc' := 28) (lv' := [(0, .ref 0), (1, .int x1)]) (st' := [.int (0 : Int32)]) (es' := (wX2_Night n_slots n_targets n_teams n_moon n_percents n_numbers n_seen n_odds)) (c' := 0) (s' := 0) rfl ?_
        obtain rfl := Option.some.inj hp
        exact Rn.fin rfl rfl rfl
      · rw [if_neg h3] at hp
        refine Rn.go 3 (pc' := 23) (lv' := [(0, .ref 0), (1, .int x1)]) (st' := [.int x1, .ref 4]) (es' := (wX2_Night n_slots n_targets n_teams n_moon n_percents n_numbers n_seen n_odds)) (c' := 0) (s' := 0) rfl ?_
        by_cases h4 : (x1 < 0 ∨ 12 ≤ x1.toNatClampNeg)
        · rw [if_pos h4] at hp; cases hp
        · rw [if_neg h4] at hp
          refine Rn.gd (pc' := 24) (lv' := [(0, .ref 0), (1, .int x1)]) (st' := [.int (n_seen x1.toNatClampNeg)]) (es' := (wX2_Night n_slots n_targets n_teams n_moon n_percents n_numbers n_seen n_odds)) rfl rfl h4 ?_
          refine Rn.go 1 (pc' := 28) (lv' := [(0, .ref 0), (1, .int x1)]) (st' := [.int (n_seen x1.toNatClampNeg)]) (es' := (wX2_Night n_slots n_targets n_teams n_moon n_percents n_numbers n_seen n_odds)) (c' := 0) (s' := 0) rfl ?_
          obtain rfl := Option.some.inj hp
          exact Rn.fin rfl rfl rfl
theorem qX2_targetsIn : CtA yX2_targetsIn (.code yX2_targetsIn cX2_targetsIn 2 (some .int)) 0 0 [] rX2_targetsIn := CtA.of (by decide +kernel) (fun pc op h => kX2_targetsIn _ (lkp_mem h)) oX2_targetsIn
/-! TelescopeNight.has(II)Z -/
def pX8_has (x0 : Int32) (x1 : Int32) : Option (Int32) :=
  if ((x0 >>> (x1 &&& 31)) &&& (1 : Int32)) = 0 then
    some (0 : Int32)
  else
    some (1 : Int32)
def rX8_has : List Value → List va_E → op_O → Prop := fun avs es r => ∃ (x0 : Int32) (x1 : Int32) (z : Int32), avs = [.int x0, .int x1] ∧ es = [] ∧ pX8_has x0 x1 = some z ∧ r = (.inl (some (.int z)), [], 0, 0)
def bX8_has : List (Nat × (op_T ⊕ op_R)) := [(0, .inl (o_iload 1 0)), (1, .inl (o_iload 2 1)), (2, .inl (o_ii 3 (fun x y => x >>> (y &&& 31)))), (3, .inl (o_push 4 (.int (1)))), (4, .inl (o_ii 5 (fun x y => x &&& y))), (5, .inl (o_ifeq 8 12)), (8, .inl (o_push 9 (.int (1)))), (9, .inl (o_goto 13)), (12, .inl (o_push 13 (.int (0)))), (13, .inl (o_zret))]
set_option maxRecDepth 100000 in
set_option maxHeartbeats 4000000 in
theorem kX8_has : ∀ q ∈ bX8_has, ok2 0 0 2 cX8_has yX8_has.cls yX8_has.name (some .boolean) (.code yX8_has cX8_has 2 (some .boolean)) [] [] q.1 q.2 := (al_c (s_iload_n (k := 0) (by decide +kernel)) (al_c (s_iload_n (k := 1) (by decide +kernel)) (al_c (s_ishr (by decide +kernel)) (al_c (s_iconst (n := 1) (1) (by decide) (by decide +kernel)) (al_c (s_iand (by decide +kernel)) (al_c (s_ifeq (off := 7) 12 (by decide) (by decide +kernel)) (al_c (s_iconst (n := 1) (1) (by decide) (by decide +kernel)) (al_c (s_goto (off := 4) 13 (by decide) (by decide +kernel)) (al_c (s_iconst (n := 0) (0) (by decide) (by decide +kernel)) (al_c (s_zret rfl (by decide +kernel)) al_n))))))))))
set_option maxRecDepth 100000 in
set_option maxHeartbeats 4000000 in
theorem oX8_has : Of (lkp bX8_has) 2 rX8_has := by
  intro avs es r h
  obtain ⟨x0, x1, z, rfl, rfl, hp, rfl⟩ := h
  refine ⟨Nat.le_of_ble_eq_true rfl, ?_⟩
  unfold pX8_has at hp
  refine Rn.go 5 (pc' := 5) (lv' := [(0, .int x0), (1, .int x1)]) (st' := [.int ((x0 >>> (x1 &&& 31)) &&& (1 : Int32))]) (es' := []) (c' := 0) (s' := 0) rfl ?_
  refine Rn.br (P := ((x0 >>> (x1 &&& 31)) &&& (1 : Int32)) = 0) (pc1 := 12) (pc2 := 8) rfl rfl (fun h1 => ?_) (fun h1 => ?_)
  · rw [if_pos h1] at hp
    refine Rn.go 1 (pc' := 13) (lv' := [(0, .int x0), (1, .int x1)]) (st' := [.int (0 : Int32)]) (es' := []) (c' := 0) (s' := 0) rfl ?_
    obtain rfl := Option.some.inj hp
    exact Rn.fin rfl rfl rfl
  · rw [if_neg h1] at hp
    refine Rn.go 2 (pc' := 13) (lv' := [(0, .int x0), (1, .int x1)]) (st' := [.int (1 : Int32)]) (es' := []) (c' := 0) (s' := 0) rfl ?_
    obtain rfl := Option.some.inj hp
    exact Rn.fin rfl rfl rfl
theorem qX8_has : CtA yX8_has (.code yX8_has cX8_has 2 (some .boolean)) 0 0 [] rX8_has := CtA.of (by decide +kernel) (fun pc op h => kX8_has _ (lkp_mem h)) oX8_has
/-! TelescopeNight$Night.isSeen(II)Z -/
def pX2_isSeen (x1 : Int32) (x2 : Int32) (n_slots : Int32) (n_seen : Nat → Int32) : Option (Int32) :=
  ob (pX2_targetsIn x2 n_slots n_seen) (fun z1 =>
  ob (pX8_has z1 x1) (fun z2 =>
  if (z2 = 0 ∨ z2 = 1) then some z2 else none))
def rX2_isSeen : List Value → List va_E → op_O → Prop := fun avs es r => ∃ (x1 : Int32) (x2 : Int32) (n_slots : Int32) (n_targets : Int32) (n_teams : Int32) (n_moon : Nat → Int32) (n_percents : Nat → Int32) (n_numbers : Nat → Int32) (n_seen : Nat → Int32) (n_odds : Nat → Int32) (z : Int32), avs = [.ref 0, .int x1, .int x2] ∧ es = (wX2_Night n_slots n_targets n_teams n_moon n_percents n_numbers n_seen n_odds) ∧ pX2_isSeen x1 x2 n_slots n_seen = some z ∧ r = (.inl (some (.int z)), (wX2_Night n_slots n_targets n_teams n_moon n_percents n_numbers n_seen n_odds), 0, 0)
def bX2_isSeen : List (Nat × (op_T ⊕ op_R)) := [(0, .inl (o_aload 1 0)), (1, .inl (o_iload 2 2)), (2, .inr (o_callV [] [] 5 1 2 rX2_targetsIn)), (5, .inl (o_iload 6 1)), (6, .inr (o_callS [] [] 9 2 rX8_has)), (9, .inl (o_zret))]
set_option maxRecDepth 100000 in
set_option maxHeartbeats 4000000 in
theorem kX2_isSeen : ∀ q ∈ bX2_isSeen, ok2 1 21 3 cX2_isSeen yX2_isSeen.cls yX2_isSeen.name (some .boolean) (.code yX2_isSeen cX2_isSeen 3 (some .boolean)) [] [] q.1 q.2 := (al_c (s_aload_n (k := 0) (by decide +kernel)) (al_c (s_iload_n (k := 2) (by decide +kernel)) (al_c (s_callV (y := yX2_targetsIn) (bytes := cX2_targetsIn) (maxL := 2) (ret' := (some .int)) (fr' := 0) (lo' := 0) (n := 1) (ml := []) (mlc := []) (ci := 2) (q9 := (RX2, TX2, 8)) qX2_targetsIn w_1010 w_514 w_515 w_2 w_516 ⟨by decide +kernel, by decide +kernel, by decide +kernel⟩ rfl rfl (by decide) (by decide) (by decide +kernel)) (al_c (s_iload_n (k := 1) (by decide +kernel)) (al_c (s_callSN (host := "TelescopeNight") (index := 88) (y := yX8_has) (bytes := cX8_has) (maxL := 2) (ret' := (some .boolean)) (fr' := 0) (lo' := 0) (n := 2) (ml := []) (mlc := []) qX8_has (by decide +kernel) w_473 w_1 w_474 ⟨by decide +kernel, by decide +kernel, by decide +kernel⟩ (by decide) (by decide) (by decide +kernel)) (al_c (s_zret rfl (by decide +kernel)) al_n))))))
set_option maxRecDepth 100000 in
set_option maxHeartbeats 4000000 in
theorem oX2_isSeen : Of (lkp bX2_isSeen) 3 rX2_isSeen := by
  intro avs es r h
  obtain ⟨x1, x2, n_slots, n_targets, n_teams, n_moon, n_percents, n_numbers, n_seen, n_odds, z, rfl, rfl, hp, rfl⟩ := h
  refine ⟨Nat.le_of_ble_eq_true rfl, ?_⟩
  unfold pX2_isSeen at hp
  refine Rn.go 2 (pc' := 2) (lv' := [(0, .ref 0), (1, .int x1), (2, .int x2)]) (st' := [.int x2, .ref 0]) (es' := (wX2_Night n_slots n_targets n_teams n_moon n_percents n_numbers n_seen n_odds)) (c' := 0) (s' := 0) rfl ?_
  obtain ⟨z1, hz1, hp⟩ := ob_some hp
  refine Rn.rel (pc' := 5) (lv' := [(0, .ref 0), (1, .int x1), (2, .int x2)]) (st' := [.int z1]) (es' := (wX2_Night n_slots n_targets n_teams n_moon n_percents n_numbers n_seen n_odds)) (dc := 0) (ds := 0) rfl ⟨0, [.int x2], _, [0, 1, 2, 3, 4, 5], .inl (some (.int z1)), (wX2_Night n_slots n_targets n_teams n_moon n_percents n_numbers n_seen n_odds), 0, 0, rfl, rfl, Nat.le_of_ble_eq_true rfl, rfl, ⟨x2, n_slots, n_targets, n_teams, n_moon, n_percents, n_numbers, n_seen, n_odds, z1, rfl, rfl, hz1, rfl⟩, rfl⟩ ?_
  refine Rn.go 1 (pc' := 6) (lv' := [(0, .ref 0), (1, .int x1), (2, .int x2)]) (st' := [.int x1, .int z1]) (es' := (wX2_Night n_slots n_targets n_teams n_moon n_percents n_numbers n_seen n_odds)) (c' := 0) (s' := 0) rfl ?_
  obtain ⟨z2, hz2, hp⟩ := ob_some hp
  refine Rn.rel (pc' := 9) (lv' := [(0, .ref 0), (1, .int x1), (2, .int x2)]) (st' := [.int z2]) (es' := (wX2_Night n_slots n_targets n_teams n_moon n_percents n_numbers n_seen n_odds)) (dc := 0) (ds := 0) rfl ⟨[.int z1, .int x1], [], .inl (some (.int z2)), [], 0, 0, rfl, rfl, Nat.le_of_ble_eq_true rfl, ⟨z1, x1, z2, rfl, rfl, hz2, rfl⟩, rfl⟩ ?_
  by_cases h1 : (z2 = 0 ∨ z2 = 1)
  · rw [if_pos h1] at hp
    obtain rfl := Option.some.inj hp
    exact Rn.finz rfl rfl h1 rfl
  · rw [if_neg h1] at hp; cases hp
theorem qX2_isSeen : CtA yX2_isSeen (.code yX2_isSeen cX2_isSeen 3 (some .boolean)) 1 21 [] rX2_isSeen := CtA.of (by decide +kernel) (fun pc op h => kX2_isSeen _ (lkp_mem h)) oX2_isSeen
/-! TelescopeNight$Night.oddsIn(I)I -/
def pX2_oddsIn (x1 : Int32) (n_slots : Int32) (n_odds : Nat → Int32) : Option (Int32) :=
  if x1 < 0 then
    some (0 : Int32)
  else
    if n_slots ≤ x1 then
      some (0 : Int32)
    else
      if (12 : Int32) ≤ x1 then
        some (0 : Int32)
      else
        if (x1 < 0 ∨ 12 ≤ x1.toNatClampNeg) then none else
        some (n_odds x1.toNatClampNeg)
def rX2_oddsIn : List Value → List va_E → op_O → Prop := fun avs es r => ∃ (x1 : Int32) (n_slots : Int32) (n_targets : Int32) (n_teams : Int32) (n_moon : Nat → Int32) (n_percents : Nat → Int32) (n_numbers : Nat → Int32) (n_seen : Nat → Int32) (n_odds : Nat → Int32) (z : Int32), avs = [.ref 0, .int x1] ∧ es = (wX2_Night n_slots n_targets n_teams n_moon n_percents n_numbers n_seen n_odds) ∧ pX2_oddsIn x1 n_slots n_odds = some z ∧ r = (.inl (some (.int z)), (wX2_Night n_slots n_targets n_teams n_moon n_percents n_numbers n_seen n_odds), 0, 0)
def bX2_oddsIn : List (Nat × (op_T ⊕ op_R)) := [(0, .inl (o_iload 1 1)), (1, .inl (o_iflt 4 27)), (4, .inl (o_iload 5 1)), (5, .inl (o_aload 6 0)), (6, .inl (o_get 9 2 0)), (9, .inl (o_icmpge 12 27)), (12, .inl (o_iload 13 1)), (13, .inl (o_push 15 (.int (12)))), (15, .inl (o_icmpge 18 27)), (18, .inl (o_aload 19 0)), (19, .inl (o_get 22 2 7)), (22, .inl (o_iload 23 1)), (23, .inl (o_iald 24)), (24, .inl (o_goto 28)), (27, .inl (o_push 28 (.int (0)))), (28, .inl (o_iret))]
set_option maxRecDepth 100000 in
set_option maxHeartbeats 4000000 in
theorem kX2_oddsIn : ∀ q ∈ bX2_oddsIn, ok2 0 0 2 cX2_oddsIn yX2_oddsIn.cls yX2_oddsIn.name (some .int) (.code yX2_oddsIn cX2_oddsIn 2 (some .int)) [] [] q.1 q.2 := (al_c (s_iload_n (k := 1) (by decide +kernel)) (al_c (s_iflt (off := 26) 27 (by decide) (by decide +kernel)) (al_c (s_iload_n (k := 1) (by decide +kernel)) (al_c (s_aload_n (k := 0) (by decide +kernel)) (al_c (s_get (C9 := RX2) (T9 := TX2) (N9 := 8) (ci := 2) (k := 0) iX2 rfl (by decide) w_81 (by decide +kernel)) (al_c (s_icmpge (off := 18) 27 (by decide) (by decide +kernel)) (al_c (s_iload_n (k := 1) (by decide +kernel)) (al_c (s_bipush (n := 12) (12) (by decide) (by decide +kernel)) (al_c (s_icmpge (off := 12) 27 (by decide) (by decide +kernel)) (al_c (s_aload_n (k := 0) (by decide +kernel)) (al_c (s_get (C9 := RX2) (T9 := TX2) (N9 := 8) (ci := 2) (k := 7) iX2 rfl (by decide) w_105 (by decide +kernel)) (al_c (s_iload_n (k := 1) (by decide +kernel)) (al_c (s_iald (by decide +kernel)) (al_c (s_goto (off := 4) 28 (by decide) (by decide +kernel)) (al_c (s_iconst (n := 0) (0) (by decide) (by decide +kernel)) (al_c (s_iret rfl (by decide +kernel)) al_n))))))))))))))))
set_option maxRecDepth 100000 in
set_option maxHeartbeats 4000000 in
theorem oX2_oddsIn : Of (lkp bX2_oddsIn) 2 rX2_oddsIn := by
  intro avs es r h
  obtain ⟨x1, n_slots, n_targets, n_teams, n_moon, n_percents, n_numbers, n_seen, n_odds, z, rfl, rfl, hp, rfl⟩ := h
  refine ⟨Nat.le_of_ble_eq_true rfl, ?_⟩
  unfold pX2_oddsIn at hp
  refine Rn.go 1 (pc' := 1) (lv' := [(0, .ref 0), (1, .int x1)]) (st' := [.int x1]) (es' := (wX2_Night n_slots n_targets n_teams n_moon n_percents n_numbers n_seen n_odds)) (c' := 0) (s' := 0) rfl ?_
  refine Rn.br (P := x1 < 0) (pc1 := 27) (pc2 := 4) rfl rfl (fun h1 => ?_) (fun h1 => ?_)
  · rw [if_pos h1] at hp
    refine Rn.go 1 (pc' := 28) (lv' := [(0, .ref 0), (1, .int x1)]) (st' := [.int (0 : Int32)]) (es' := (wX2_Night n_slots n_targets n_teams n_moon n_percents n_numbers n_seen n_odds)) (c' := 0) (s' := 0) rfl ?_
    obtain rfl := Option.some.inj hp
    exact Rn.fin rfl rfl rfl
  · rw [if_neg h1] at hp
    refine Rn.go 3 (pc' := 9) (lv' := [(0, .ref 0), (1, .int x1)]) (st' := [.int n_slots, .int x1]) (es' := (wX2_Night n_slots n_targets n_teams n_moon n_percents n_numbers n_seen n_odds)) (c' := 0) (s' := 0) rfl ?_
    refine Rn.br (P := n_slots ≤ x1) (pc1 := 27) (pc2 := 12) rfl rfl (fun h2 => ?_) (fun h2 => ?_)
    · rw [if_pos h2] at hp
      refine Rn.go 1 (pc' := 28) (lv' := [(0, .ref 0), (1, .int x1)]) (st' := [.int (0 : Int32)]) (es' := (wX2_Night n_slots n_targets n_teams n_moon n_percents n_numbers n_seen n_odds)) (c' := 0) (s' := 0) rfl ?_
      obtain rfl := Option.some.inj hp
      exact Rn.fin rfl rfl rfl
    · rw [if_neg h2] at hp
      refine Rn.go 2 (pc' := 15) (lv' := [(0, .ref 0), (1, .int x1)]) (st' := [.int (12 : Int32), .int x1]) (es' := (wX2_Night n_slots n_targets n_teams n_moon n_percents n_numbers n_seen n_odds)) (c' := 0) (s' := 0) rfl ?_
      refine Rn.br (P := (12 : Int32) ≤ x1) (pc1 := 27) (pc2 := 18) rfl rfl (fun h3 => ?_) (fun h3 => ?_)
      · rw [if_pos h3] at hp
        refine Rn.go 1 (pc' := 28) (lv' := [(0, .ref 0), (1, .int x1)]) (st' := [.int (0 : Int32)]) (es' := (wX2_Night n_slots n_targets n_teams n_moon n_percents n_numbers n_seen n_odds)) (c' := 0) (s' := 0) rfl ?_
        obtain rfl := Option.some.inj hp
        exact Rn.fin rfl rfl rfl
      · rw [if_neg h3] at hp
        refine Rn.go 3 (pc' := 23) (lv' := [(0, .ref 0), (1, .int x1)]) (st' := [.int x1, .ref 5]) (es' := (wX2_Night n_slots n_targets n_teams n_moon n_percents n_numbers n_seen n_odds)) (c' := 0) (s' := 0) rfl ?_
        by_cases h4 : (x1 < 0 ∨ 12 ≤ x1.toNatClampNeg)
        · rw [if_pos h4] at hp; cases hp
        · rw [if_neg h4] at hp
          refine Rn.gd (pc' := 24) (lv' := [(0, .ref 0), (1, .int x1)]) (st' := [.int (n_odds x1.toNatClampNeg)]) (es' := (wX2_Night n_slots n_targets n_teams n_moon n_percents n_numbers n_seen n_odds)) rfl rfl h4 ?_
          refine Rn.go 1 (pc' := 28) (lv' := [(0, .ref 0), (1, .int x1)]) (st' := [.int (n_odds x1.toNatClampNeg)]) (es' := (wX2_Night n_slots n_targets n_teams n_moon n_percents n_numbers n_seen n_odds)) (c' := 0) (s' := 0) rfl ?_
          obtain rfl := Option.some.inj hp
          exact Rn.fin rfl rfl rfl
theorem qX2_oddsIn : CtA yX2_oddsIn (.code yX2_oddsIn cX2_oddsIn 2 (some .int)) 0 0 [] rX2_oddsIn := CtA.of (by decide +kernel) (fun pc op h => kX2_oddsIn _ (lkp_mem h)) oX2_oddsIn
/-! TelescopeNight$Night.slotsOf(I)I -/
def lpX2_slotsOf_4 (l1 : Int32) (n_slots : Int32) (n_seen : Nat → Int32) : Nat → Int32 → Int32 → Option (Int32 × Int32)
  | 0, _, _ => none
  | fu + 1, l2, l3 =>
    if n_slots ≤ l3 then
      some (l2, l3)
    else
      ob (pX2_isSeen l1 l3 n_slots n_seen) (fun z1 =>
      if z1 = 0 then
        lpX2_slotsOf_4 l1 n_slots n_seen fu l2 (l3 + (1 : Int32))
      else
        lpX2_slotsOf_4 l1 n_slots n_seen fu (l2 ||| ((1 : Int32) <<< (l3 &&& 31))) (l3 + (1 : Int32)))
def pX2_slotsOf (x1 : Int32) (n_slots : Int32) (n_seen : Nat → Int32) : Option (Int32) :=
  ob (lpX2_slotsOf_4 x1 n_slots n_seen lpF (0 : Int32) (0 : Int32)) (fun z2 =>
  some z2.1)
def rX2_slotsOf : List Value → List va_E → op_O → Prop := fun avs es r => ∃ (x1 : Int32) (n_slots : Int32) (n_targets : Int32) (n_teams : Int32) (n_moon : Nat → Int32) (n_percents : Nat → Int32) (n_numbers : Nat → Int32) (n_seen : Nat → Int32) (n_odds : Nat → Int32) (z : Int32), avs = [.ref 0, .int x1] ∧ es = (wX2_Night n_slots n_targets n_teams n_moon n_percents n_numbers n_seen n_odds) ∧ pX2_slotsOf x1 n_slots n_seen = some z ∧ r = (.inl (some (.int z)), (wX2_Night n_slots n_targets n_teams n_moon n_percents n_numbers n_seen n_odds), 0, 0)
def bX2_slotsOf : List (Nat × (op_T ⊕ op_R)) := [(0, .inl (o_push 1 (.int (0)))), (1, .inl (o_istore 2 2)), (2, .inl (o_push 3 (.int (0)))), (3, .inl (nrm [0, 1, 2, 3] (o_istore 4 3))), (4, .inl (o_iload 5 3)), (5, .inl (o_aload 6 0)), (6, .inl (o_get 9 2 0)), (9, .inl (o_icmpge 12 33)), (12, .inl (o_aload 13 0)), (13, .inl (o_iload 14 1)), (14, .inl (o_iload 15 3)), (15, .inr (o_callV [] [] 18 2 2 rX2_isSeen)), (18, .inl (o_ifeq 21 27)), (21, .inl (o_iload 22 2)), (22, .inl (o_push 23 (.int (1)))), (23, .inl (o_iload 24 3)), (24, .inl (o_ii 25 (fun x y => x <<< (y &&& 31)))), (25, .inl (o_ii 26 (fun x y => x ||| y))), (26, .inl (o_istore 27 2)), (27, .inl (o_iinc 30 3 (1))), (30, .inl (nrm [0, 1, 2, 3] (o_goto 4))), (33, .inl (o_iload 34 2)), (34, .inl (o_iret))]
set_option maxRecDepth 100000 in
set_option maxHeartbeats 4000000 in
theorem kX2_slotsOf : ∀ q ∈ bX2_slotsOf, ok2 2 43 4 cX2_slotsOf yX2_slotsOf.cls yX2_slotsOf.name (some .int) (.code yX2_slotsOf cX2_slotsOf 4 (some .int)) [] [] q.1 q.2 := (al_c (s_iconst (n := 0) (0) (by decide) (by decide +kernel)) (al_c (s_istore_n (k := 2) rfl (by decide) (by decide +kernel)) (al_c (s_iconst (n := 0) (0) (by decide) (by decide +kernel)) (al_c (s_nrm [0, 1, 2, 3] (s_istore_n (k := 3) rfl (by decide) (by decide +kernel))) (al_c (s_iload_n (k := 3) (by decide +kernel)) (al_c (s_aload_n (k := 0) (by decide +kernel)) (al_c (s_get (C9 := RX2) (T9 := TX2) (N9 := 8) (ci := 2) (k := 0) iX2 rfl (by decide) w_81 (by decide +kernel)) (al_c (s_icmpge (off := 24) 33 (by decide) (by decide +kernel)) (al_c (s_aload_n (k := 0) (by decide +kernel)) (al_c (s_iload_n (k := 1) (by decide +kernel)) (al_c (s_iload_n (k := 3) (by decide +kernel)) (al_c (s_callV (y := yX2_isSeen) (bytes := cX2_isSeen) (maxL := 3) (ret' := (some .boolean)) (fr' := 1) (lo' := 21) (n := 2) (ml := []) (mlc := []) (ci := 2) (q9 := (RX2, TX2, 8)) qX2_isSeen w_1006 w_1007 w_1008 w_2 w_1009 ⟨by decide +kernel, by decide +kernel, by decide +kernel⟩ rfl rfl (by decide) (by decide) (by decide +kernel)) (al_c (s_ifeq (off := 9) 27 (by decide) (by decide +kernel)) (al_c (s_iload_n (k := 2) (by decide +kernel)) (al_c (s_iconst (n := 1) (1) (by decide) (by decide +kernel)) (al_c (s_iload_n (k := 3) (by decide +kernel)) (al_c (s_ishl (by decide +kernel)) (al_c (s_ior (by decide +kernel)) (al_c (s_istore_n (k := 2) rfl (by decide) (by decide +kernel)) (al_c (s_iinc (n := 1) (1) (by decide) (by decide) (by decide +kernel)) (al_c (s_nrm [0, 1, 2, 3] (s_goto (off := -26) 4 (by decide) (by decide +kernel))) (al_c (s_iload_n (k := 2) (by decide +kernel)) (al_c (s_iret rfl (by decide +kernel)) al_n)))))))))))))))))))))))
set_option maxRecDepth 100000 in
set_option maxHeartbeats 4000000 in
theorem lrX2_slotsOf_4 (l1 : Int32) (n_slots : Int32) (n_targets : Int32) (n_teams : Int32) (n_moon : Nat → Int32) (n_percents : Nat → Int32) (n_numbers : Nat → Int32) (n_seen : Nat → Int32) (n_odds : Nat → Int32) : ∀ (fu : Nat) (l2 : Int32) (l3 : Int32) (z : (Int32 × Int32)), lpX2_slotsOf_4 l1 n_slots n_seen fu l2 l3 = some z → ∀ (c s : Nat) (r : op_O), Rn (lkp bX2_slotsOf) 33 [(0, .ref 0), (1, .int l1), (2, .int z.1), (3, .int z.2)] [] (wX2_Night n_slots n_targets n_teams n_moon n_percents n_numbers n_seen n_odds) c s r → Rn (lkp bX2_slotsOf) 4 [(0, .ref 0), (1, .int l1), (2, .int l2), (3, .int l3)] [] (wX2_Night n_slots n_targets n_teams n_moon n_percents n_numbers n_seen n_odds) c s r := by
  intro fu
  induction fu with
  | zero => intro l2 l3 z hp; cases hp
  | succ fu ih =>
      intro l2 l3 z hp c s r k
      unfold lpX2_slotsOf_4 at hp
      refine Rn.go 3 (pc' := 9) (lv' := [(0, .ref 0), (1, .int l1), (2, .int l2), (3, .int l3)]) (st' := [.int n_slots, .int l3]) (es' := (wX2_Night n_slots n_targets n_teams n_moon n_percents n_numbers n_seen n_odds)) (c' := c) (s' := s) rfl ?_
      refine Rn.br (P := n_slots ≤ l3) (pc1 := 33) (pc2 := 12) rfl rfl (fun h1 => ?_) (fun h1 => ?_)
      · rw [if_pos h1] at hp
        obtain rfl := Option.some.inj hp
        exact k
      · rw [if_neg h1] at hp
        refine Rn.go 3 (pc' := 15) (lv' := [(0, .ref 0), (1, .int l1), (2, .int l2), (3, .int l3)]) (st' := [.int l3, .int l1, .ref 0]) (es' := (wX2_Night n_slots n_targets n_teams n_moon n_percents n_numbers n_seen n_odds)) (c' := c) (s' := s) rfl ?_
        obtain ⟨z1, hz1, hp⟩ := ob_some hp
        refine Rn.rel (pc' := 18) (lv' := [(0, .ref 0), (1, .int l1), (2, .int l2), (3, .int l3)]) (st' := [.int z1]) (es' := (wX2_Night n_slots n_targets n_teams n_moon n_percents n_numbers n_seen n_odds)) (dc := 0) (ds := 0) rfl ⟨0, [.int l1, .int l3], _, [0, 1, 2, 3, 4, 5], .inl (some (.int z1)), (wX2_Night n_slots n_targets n_teams n_moon n_percents n_numbers n_seen n_odds), 0, 0, rfl, rfl, Nat.le_of_ble_eq_true rfl, rfl, ⟨l1, l3, n_slots, n_targets, n_teams, n_moon, n_percents, n_numbers, n_seen, n_odds, z1, rfl, rfl, hz1, rfl⟩, rfl⟩ ?_
        refine Rn.br (P := z1 = 0) (pc1 := 27) (pc2 := 21) rfl rfl (fun h2 => ?_) (fun h2 => ?_)
        · rw [if_pos h2] at hp
          refine Rn.go 2 (pc' := 4) (lv' := [(0, .ref 0), (1, .int l1), (2, .int l2), (3, .int (l3 + (1 : Int32)))]) (st' := []) (es' := (wX2_Night n_slots n_targets n_teams n_moon n_percents n_numbers n_seen n_odds)) (c' := c) (s' := s) rfl ?_
          exact ih l2 (l3 + (1 : Int32)) z hp c s r k
        · rw [if_neg h2] at hp
          refine Rn.go 8 (pc' := 4) (lv' := [(0, .ref 0), (1, .int l1), (2, .int (l2 ||| ((1 : Int32) <<< (l3 &&& 31)))), (3, .int (l3 + (1 : Int32)))]) (st' := []) (es' := (wX2_Night n_slots n_targets n_teams n_moon n_percents n_numbers n_seen n_odds)) (c' := c) (s' := s) rfl ?_
          exact ih (l2 ||| ((1 : Int32) <<< (l3 &&& 31))) (l3 + (1 : Int32)) z hp c s r k
set_option maxRecDepth 100000 in
set_option maxHeartbeats 4000000 in
theorem oX2_slotsOf : Of (lkp bX2_slotsOf) 4 rX2_slotsOf := by
  intro avs es r h
  obtain ⟨x1, n_slots, n_targets, n_teams, n_moon, n_percents, n_numbers, n_seen, n_odds, z, rfl, rfl, hp, rfl⟩ := h
  refine ⟨Nat.le_of_ble_eq_true rfl, ?_⟩
  unfold pX2_slotsOf at hp
  refine Rn.go 4 (pc' := 4) (lv' := [(0, .ref 0), (1, .int x1), (2, .int (0 : Int32)), (3, .int (0 : Int32))]) (st' := []) (es' := (wX2_Night n_slots n_targets n_teams n_moon n_percents n_numbers n_seen n_odds)) (c' := 0) (s' := 0) rfl ?_
  obtain ⟨z2, hz2, hp⟩ := ob_some hp
  refine lrX2_slotsOf_4 x1 n_slots n_targets n_teams n_moon n_percents n_numbers n_seen n_odds _ (0 : Int32) (0 : Int32) z2 hz2 _ _ _ ?_
  refine Rn.go 1 (pc' := 34) (lv' := [(0, .ref 0), (1, .int x1), (2, .int z2.1), (3, .int z2.2)]) (st' := [.int z2.1]) (es' := (wX2_Night n_slots n_targets n_teams n_moon n_percents n_numbers n_seen n_odds)) (c' := 0) (s' := 0) rfl ?_
  obtain rfl := Option.some.inj hp
  exact Rn.fin rfl rfl rfl
theorem qX2_slotsOf : CtA yX2_slotsOf (.code yX2_slotsOf cX2_slotsOf 4 (some .int)) 2 43 [] rX2_slotsOf := CtA.of (by decide +kernel) (fun pc op h => kX2_slotsOf _ (lkp_mem h)) oX2_slotsOf
/-! TelescopeNight.madeOf(II)I -/
def pX8_madeOf (x0 : Int32) (x1 : Int32) : Option (Int32) :=
  some ((x0 >>> (((2 : Int32) * x1) &&& 31)) &&& (3 : Int32))
def rX8_madeOf : List Value → List va_E → op_O → Prop := fun avs es r => ∃ (x0 : Int32) (x1 : Int32) (z : Int32), avs = [.int x0, .int x1] ∧ es = [] ∧ pX8_madeOf x0 x1 = some z ∧ r = (.inl (some (.int z)), [], 0, 0)
def bX8_madeOf : List (Nat × (op_T ⊕ op_R)) := [(0, .inl (o_iload 1 0)), (1, .inl (o_push 2 (.int (2)))), (2, .inl (o_iload 3 1)), (3, .inl (o_ii 4 (fun x y => x * y))), (4, .inl (o_ii 5 (fun x y => x >>> (y &&& 31)))), (5, .inl (o_push 6 (.int (3)))), (6, .inl (o_ii 7 (fun x y => x &&& y))), (7, .inl (o_iret))]
set_option maxRecDepth 100000 in
set_option maxHeartbeats 4000000 in
theorem kX8_madeOf : ∀ q ∈ bX8_madeOf, ok2 0 0 2 cX8_madeOf yX8_madeOf.cls yX8_madeOf.name (some .int) (.code yX8_madeOf cX8_madeOf 2 (some .int)) [] [] q.1 q.2 := (al_c (s_iload_n (k := 0) (by decide +kernel)) (al_c (s_iconst (n := 2) (2) (by decide) (by decide +kernel)) (al_c (s_iload_n (k := 1) (by decide +kernel)) (al_c (s_imul (by decide +kernel)) (al_c (s_ishr (by decide +kernel)) (al_c (s_iconst (n := 3) (3) (by decide) (by decide +kernel)) (al_c (s_iand (by decide +kernel)) (al_c (s_iret rfl (by decide +kernel)) al_n))))))))
set_option maxRecDepth 100000 in
set_option maxHeartbeats 4000000 in
theorem oX8_madeOf : Of (lkp bX8_madeOf) 2 rX8_madeOf := by
  intro avs es r h
  obtain ⟨x0, x1, z, rfl, rfl, hp, rfl⟩ := h
  refine ⟨Nat.le_of_ble_eq_true rfl, ?_⟩
  unfold pX8_madeOf at hp
  refine Rn.go 7 (pc' := 7) (lv' := [(0, .int x0), (1, .int x1)]) (st' := [.int ((x0 >>> (((2 : Int32) * x1) &&& 31)) &&& (3 : Int32))]) (es' := []) (c' := 0) (s' := 0) rfl ?_
  obtain rfl := Option.some.inj hp
  exact Rn.fin rfl rfl rfl
theorem qX8_madeOf : CtA yX8_madeOf (.code yX8_madeOf cX8_madeOf 2 (some .int)) 0 0 [] rX8_madeOf := CtA.of (by decide +kernel) (fun pc op h => kX8_madeOf _ (lkp_mem h)) oX8_madeOf
/-! TelescopeNight$Night.turnCounts(I)I -/
def lpX2_turnCounts_4 (l1 : Int32) (n_targets : Int32) (n_numbers : Nat → Int32) : Nat → Int32 → Int32 → Option (Int32 × Int32)
  | 0, _, _ => none
  | fu + 1, l2, l3 =>
    if n_targets ≤ l3 then
      some (l2, l3)
    else
      ob (pX8_madeOf l1 l3) (fun z1 =>
      ob (pX2_number l3 (0 : Int32) n_numbers) (fun z2 =>
      lpX2_turnCounts_4 l1 n_targets n_numbers fu (l2 + (z1 <<< (((8 : Int32) * z2) &&& 31))) (l3 + (1 : Int32))))
def pX2_turnCounts (x1 : Int32) (n_targets : Int32) (n_numbers : Nat → Int32) : Option (Int32) :=
  ob (lpX2_turnCounts_4 x1 n_targets n_numbers lpF (0 : Int32) (0 : Int32)) (fun z3 =>
  some z3.1)
def rX2_turnCounts : List Value → List va_E → op_O → Prop := fun avs es r => ∃ (x1 : Int32) (n_slots : Int32) (n_targets : Int32) (n_teams : Int32) (n_moon : Nat → Int32) (n_percents : Nat → Int32) (n_numbers : Nat → Int32) (n_seen : Nat → Int32) (n_odds : Nat → Int32) (z : Int32), avs = [.ref 0, .int x1] ∧ es = (wX2_Night n_slots n_targets n_teams n_moon n_percents n_numbers n_seen n_odds) ∧ pX2_turnCounts x1 n_targets n_numbers = some z ∧ r = (.inl (some (.int z)), (wX2_Night n_slots n_targets n_teams n_moon n_percents n_numbers n_seen n_odds), 0, 0)
def bX2_turnCounts : List (Nat × (op_T ⊕ op_R)) := [(0, .inl (o_push 1 (.int (0)))), (1, .inl (o_istore 2 2)), (2, .inl (o_push 3 (.int (0)))), (3, .inl (nrm [0, 1, 2, 3] (o_istore 4 3))), (4, .inl (o_iload 5 3)), (5, .inl (o_aload 6 0)), (6, .inl (o_get 9 2 1)), (9, .inl (o_icmpge 12 36)), (12, .inl (o_iload 13 2)), (13, .inl (o_iload 14 1)), (14, .inl (o_iload 15 3)), (15, .inr (o_callS [] [] 18 2 rX8_madeOf)), (18, .inl (o_push 20 (.int (8)))), (20, .inl (o_aload 21 0)), (21, .inl (o_iload 22 3)), (22, .inl (o_push 23 (.int (0)))), (23, .inr (o_callV [] [] 26 2 2 rX2_number)), (26, .inl (o_ii 27 (fun x y => x * y))), (27, .inl (o_ii 28 (fun x y => x <<< (y &&& 31)))), (28, .inl (o_ii 29 (fun x y => x + y))), (29, .inl (o_istore 30 2)), (30, .inl (o_iinc 33 3 (1))), (33, .inl (nrm [0, 1, 2, 3] (o_goto 4))), (36, .inl (o_iload 37 2)), (37, .inl (o_iret))]
set_option maxRecDepth 100000 in
set_option maxHeartbeats 4000000 in
theorem kX2_turnCounts : ∀ q ∈ bX2_turnCounts, ok2 1 23 4 cX2_turnCounts yX2_turnCounts.cls yX2_turnCounts.name (some .int) (.code yX2_turnCounts cX2_turnCounts 4 (some .int)) [] [] q.1 q.2 := (al_c (s_iconst (n := 0) (0) (by decide) (by decide +kernel)) (al_c (s_istore_n (k := 2) rfl (by decide) (by decide +kernel)) (al_c (s_iconst (n := 0) (0) (by decide) (by decide +kernel)) (al_c (s_nrm [0, 1, 2, 3] (s_istore_n (k := 3) rfl (by decide) (by decide +kernel))) (al_c (s_iload_n (k := 3) (by decide +kernel)) (al_c (s_aload_n (k := 0) (by decide +kernel)) (al_c (s_get (C9 := RX2) (T9 := TX2) (N9 := 8) (ci := 2) (k := 1) iX2 rfl (by decide) w_87 (by decide +kernel)) (al_c (s_icmpge (off := 27) 36 (by decide) (by decide +kernel)) (al_c (s_iload_n (k := 2) (by decide +kernel)) (al_c (s_iload_n (k := 1) (by decide +kernel)) (al_c (s_iload_n (k := 3) (by decide +kernel)) (al_c (s_callSN (host := "TelescopeNight") (index := 94) (y := yX8_madeOf) (bytes := cX8_madeOf) (maxL := 2) (ret' := (some .int)) (fr' := 0) (lo' := 0) (n := 2) (ml := []) (mlc := []) qX8_madeOf (by decide +kernel) w_467 w_1 w_468 ⟨by decide +kernel, by decide +kernel, by decide +kernel⟩ (by decide) (by decide) (by decide +kernel)) (al_c (s_bipush (n := 8) (8) (by decide) (by decide +kernel)) (al_c (s_aload_n (k := 0) (by decide +kernel)) (al_c (s_iload_n (k := 3) (by decide +kernel)) (al_c (s_iconst (n := 0) (0) (by decide) (by decide +kernel)) (al_c (s_callV (y := yX2_number) (bytes := cX2_number) (maxL := 4) (ret' := (some .int)) (fr' := 0) (lo' := 0) (n := 2) (ml := []) (mlc := []) (ci := 2) (q9 := (RX2, TX2, 8)) qX2_number w_50 w_51 w_52 w_2 w_53 ⟨by decide +kernel, by decide +kernel, by decide +kernel⟩ rfl rfl (by decide) (by decide) (by decide +kernel)) (al_c (s_imul (by decide +kernel)) (al_c (s_ishl (by decide +kernel)) (al_c (s_iadd (by decide +kernel)) (al_c (s_istore_n (k := 2) rfl (by decide) (by decide +kernel)) (al_c (s_iinc (n := 1) (1) (by decide) (by decide) (by decide +kernel)) (al_c (s_nrm [0, 1, 2, 3] (s_goto (off := -29) 4 (by decide) (by decide +kernel))) (al_c (s_iload_n (k := 2) (by decide +kernel)) (al_c (s_iret rfl (by decide +kernel)) al_n)))))))))))))))))))))))))
set_option maxRecDepth 100000 in
set_option maxHeartbeats 4000000 in
theorem lrX2_turnCounts_4 (l1 : Int32) (n_slots : Int32) (n_targets : Int32) (n_teams : Int32) (n_moon : Nat → Int32) (n_percents : Nat → Int32) (n_numbers : Nat → Int32) (n_seen : Nat → Int32) (n_odds : Nat → Int32) : ∀ (fu : Nat) (l2 : Int32) (l3 : Int32) (z : (Int32 × Int32)), lpX2_turnCounts_4 l1 n_targets n_numbers fu l2 l3 = some z → ∀ (c s : Nat) (r : op_O), Rn (lkp bX2_turnCounts) 36 [(0, .ref 0), (1, .int l1), (2, .int z.1), (3, .int z.2)] [] (wX2_Night n_slots n_targets n_teams n_moon n_percents n_numbers n_seen n_odds) c s r → Rn (lkp bX2_turnCounts) 4 [(0, .ref 0), (1, .int l1), (2, .int l2), (3, .int l3)] [] (wX2_Night n_slots n_targets n_teams n_moon n_percents n_numbers n_seen n_odds) c s r := by
  intro fu
  induction fu with
  | zero => intro l2 l3 z hp; cases hp
  | succ fu ih =>
      intro l2 l3 z hp c s r k
      unfold lpX2_turnCounts_4 at hp
      refine Rn.go 3 (pc' := 9) (lv' := [(0, .ref 0), (1, .int l1), (2, .int l2), (3, .int l3)]) (st' := [.int n_targets, .int l3]) (es' := (wX2_Night n_slots n_targets n_teams n_moon n_percents n_numbers n_seen n_odds)) (c' := c) (s' := s) rfl ?_
      refine Rn.br (P := n_targets ≤ l3) (pc1 := 36) (pc2 := 12) rfl rfl (fun h1 => ?_) (fun h1 => ?_)
      · rw [if_pos h1] at hp
        obtain rfl := Option.some.inj hp
        exact k
      · rw [if_neg h1] at hp
        refine Rn.go 3 (pc' := 15) (lv' := [(0, .ref 0), (1, .int l1), (2, .int l2), (3, .int l3)]) (st' := [.int l3, .int l1, .int l2]) (es' := (wX2_Night n_slots n_targets n_teams n_moon n_percents n_numbers n_seen n_odds)) (c' := c) (s' := s) rfl ?_
        obtain ⟨z1, hz1, hp⟩ := ob_some hp
        refine Rn.rel (pc' := 18) (lv' := [(0, .ref 0), (1, .int l1), (2, .int l2), (3, .int l3)]) (st' := [.int z1, .int l2]) (es' := (wX2_Night n_slots n_targets n_teams n_moon n_percents n_numbers n_seen n_odds)) (dc := 0) (ds := 0) rfl ⟨[.int l1, .int l3], [], .inl (some (.int z1)), [], 0, 0, rfl, rfl, Nat.le_of_ble_eq_true rfl, ⟨l1, l3, z1, rfl, rfl, hz1, rfl⟩, rfl⟩ ?_
        refine Rn.go 4 (pc' := 23) (lv' := [(0, .ref 0), (1, .int l1), (2, .int l2), (3, .int l3)]) (st' := [.int (0 : Int32), .int l3, .ref 0, .int (8 : Int32), .int z1, .int l2]) (es' := (wX2_Night n_slots n_targets n_teams n_moon n_percents n_numbers n_seen n_odds)) (c' := c) (s' := s) rfl ?_
        obtain ⟨z2, hz2, hp⟩ := ob_some hp
        refine Rn.rel (pc' := 26) (lv' := [(0, .ref 0), (1, .int l1), (2, .int l2), (3, .int l3)]) (st' := [.int z2, .int (8 : Int32), .int z1, .int l2]) (es' := (wX2_Night n_slots n_targets n_teams n_moon n_percents n_numbers n_seen n_odds)) (dc := 0) (ds := 0) rfl ⟨0, [.int l3, .int (0 : Int32)], _, [0, 1, 2, 3, 4, 5], .inl (some (.int z2)), (wX2_Night n_slots n_targets n_teams n_moon n_percents n_numbers n_seen n_odds), 0, 0, rfl, rfl, Nat.le_of_ble_eq_true rfl, rfl, ⟨l3, (0 : Int32), n_slots, n_targets, n_teams, n_moon, n_percents, n_numbers, n_seen, n_odds, z2, rfl, rfl, hz2, rfl⟩, rfl⟩ ?_
        refine Rn.go 6 (pc' := 4) (lv' := [(0, .ref 0), (1, .int l1), (2, .int (l2 + (z1 <<< (((8 : Int32) * z2) &&& 31)))), (3, .int (l3 + (1 : Int32)))]) (st' := []) (es' := (wX2_Night n_slots n_targets n_teams n_moon n_percents n_numbers n_seen n_odds)) (c' := c) (s' := s) rfl ?_
        exact ih (l2 + (z1 <<< (((8 : Int32) * z2) &&& 31))) (l3 + (1 : Int32)) z hp c s r k
set_option maxRecDepth 100000 in
set_option maxHeartbeats 4000000 in
theorem oX2_turnCounts : Of (lkp bX2_turnCounts) 4 rX2_turnCounts := by
  intro avs es r h
  obtain ⟨x1, n_slots, n_targets, n_teams, n_moon, n_percents, n_numbers, n_seen, n_odds, z, rfl, rfl, hp, rfl⟩ := h
  refine ⟨Nat.le_of_ble_eq_true rfl, ?_⟩
  unfold pX2_turnCounts at hp
  refine Rn.go 4 (pc' := 4) (lv' := [(0, .ref 0), (1, .int x1), (2, .int (0 : Int32)), (3, .int (0 : Int32))]) (st' := []) (es' := (wX2_Night n_slots n_targets n_teams n_moon n_percents n_numbers n_seen n_odds)) (c' := 0) (s' := 0) rfl ?_
  obtain ⟨z3, hz3, hp⟩ := ob_some hp
  refine lrX2_turnCounts_4 x1 n_slots n_targets n_teams n_moon n_percents n_numbers n_seen n_odds _ (0 : Int32) (0 : Int32) z3 hz3 _ _ _ ?_
  refine Rn.go 1 (pc' := 37) (lv' := [(0, .ref 0), (1, .int x1), (2, .int z3.1), (3, .int z3.2)]) (st' := [.int z3.1]) (es' := (wX2_Night n_slots n_targets n_teams n_moon n_percents n_numbers n_seen n_odds)) (c' := 0) (s' := 0) rfl ?_
  obtain rfl := Option.some.inj hp
  exact Rn.fin rfl rfl rfl
theorem qX2_turnCounts : CtA yX2_turnCounts (.code yX2_turnCounts cX2_turnCounts 4 (some .int)) 1 23 [] rX2_turnCounts := CtA.of (by decide +kernel) (fun pc op h => kX2_turnCounts _ (lkp_mem h)) oX2_turnCounts
/-! TelescopeNight.turnsIn(II)I -/
def pX8_turnsIn (x0 : Int32) (x1 : Int32) : Option (Int32) :=
  some ((x0 >>> (((8 : Int32) * x1) &&& 31)) &&& (255 : Int32))
def rX8_turnsIn : List Value → List va_E → op_O → Prop := fun avs es r => ∃ (x0 : Int32) (x1 : Int32) (z : Int32), avs = [.int x0, .int x1] ∧ es = [] ∧ pX8_turnsIn x0 x1 = some z ∧ r = (.inl (some (.int z)), [], 0, 0)
def bX8_turnsIn : List (Nat × (op_T ⊕ op_R)) := [(0, .inl (o_iload 1 0)), (1, .inl (o_push 3 (.int (8)))), (3, .inl (o_iload 4 1)), (4, .inl (o_ii 5 (fun x y => x * y))), (5, .inl (o_ii 6 (fun x y => x >>> (y &&& 31)))), (6, .inl (o_push 9 (.int (255)))), (9, .inl (o_ii 10 (fun x y => x &&& y))), (10, .inl (o_iret))]
set_option maxRecDepth 100000 in
set_option maxHeartbeats 4000000 in
theorem kX8_turnsIn : ∀ q ∈ bX8_turnsIn, ok2 0 0 2 cX8_turnsIn yX8_turnsIn.cls yX8_turnsIn.name (some .int) (.code yX8_turnsIn cX8_turnsIn 2 (some .int)) [] [] q.1 q.2 := (al_c (s_iload_n (k := 0) (by decide +kernel)) (al_c (s_bipush (n := 8) (8) (by decide) (by decide +kernel)) (al_c (s_iload_n (k := 1) (by decide +kernel)) (al_c (s_imul (by decide +kernel)) (al_c (s_ishr (by decide +kernel)) (al_c (s_sipush (n := 255) (255) (by decide) (by decide +kernel)) (al_c (s_iand (by decide +kernel)) (al_c (s_iret rfl (by decide +kernel)) al_n))))))))
set_option maxRecDepth 100000 in
set_option maxHeartbeats 4000000 in
theorem oX8_turnsIn : Of (lkp bX8_turnsIn) 2 rX8_turnsIn := by
  intro avs es r h
  obtain ⟨x0, x1, z, rfl, rfl, hp, rfl⟩ := h
  refine ⟨Nat.le_of_ble_eq_true rfl, ?_⟩
  unfold pX8_turnsIn at hp
  refine Rn.go 7 (pc' := 10) (lv' := [(0, .int x0), (1, .int x1)]) (st' := [.int ((x0 >>> (((8 : Int32) * x1) &&& 31)) &&& (255 : Int32))]) (es' := []) (c' := 0) (s' := 0) rfl ?_
  obtain rfl := Option.some.inj hp
  exact Rn.fin rfl rfl rfl
theorem qX8_turnsIn : CtA yX8_turnsIn (.code yX8_turnsIn cX8_turnsIn 2 (some .int)) 0 0 [] rX8_turnsIn := CtA.of (by decide +kernel) (fun pc op h => kX8_turnsIn _ (lkp_mem h)) oX8_turnsIn
/-! TelescopeNight$Night.teamsInTurn(II)I -/
def lpX2_teamsInTurn_27 (l3 : Int32) (l4 : Int32) : Nat → Int32 → Int32 → Int32 → Option (Int32 × Int32 × Int32)
  | 0, _, _, _ => none
  | fu + 1, l5, l6, l7 =>
    if (4 : Int32) ≤ l7 then
      some (l5, l6, l7)
    else
      ob (pX8_turnsIn l3 l7) (fun z2 =>
      ob (pX8_has l4 l7) (fun z3 =>
      if z3 = 0 then
        lpX2_teamsInTurn_27 l3 l4 fu l5 l6 (l7 + (1 : Int32))
      else
        if l5 < z2 then
          lpX2_teamsInTurn_27 l3 l4 fu l5 l6 (l7 + (1 : Int32))
        else
          if l5 ≤ z2 then
            lpX2_teamsInTurn_27 l3 l4 fu z2 (l6 ||| ((1 : Int32) <<< (l7 &&& 31))) (l7 + (1 : Int32))
          else
            lpX2_teamsInTurn_27 l3 l4 fu z2 ((1 : Int32) <<< (l7 &&& 31)) (l7 + (1 : Int32))))
def pX2_teamsInTurn (x1 : Int32) (x2 : Int32) (n_targets : Int32) (n_teams : Int32) (n_numbers : Nat → Int32) : Option (Int32) :=
  ob (pX2_turnCounts x1 n_targets n_numbers) (fun z1 =>
  ob (lpX2_teamsInTurn_27 z1 (n_teams &&& (x2 ^^^ (-1 : Int32))) lpF (256 : Int32) (0 : Int32) (0 : Int32)) (fun z4 =>
  some z4.2.1))
def rX2_teamsInTurn : List Value → List va_E → op_O → Prop := fun avs es r => ∃ (x1 : Int32) (x2 : Int32) (n_slots : Int32) (n_targets : Int32) (n_teams : Int32) (n_moon : Nat → Int32) (n_percents : Nat → Int32) (n_numbers : Nat → Int32) (n_seen : Nat → Int32) (n_odds : Nat → Int32) (z : Int32), avs = [.ref 0, .int x1, .int x2] ∧ es = (wX2_Night n_slots n_targets n_teams n_moon n_percents n_numbers n_seen n_odds) ∧ pX2_teamsInTurn x1 x2 n_targets n_teams n_numbers = some z ∧ r = (.inl (some (.int z)), (wX2_Night n_slots n_targets n_teams n_moon n_percents n_numbers n_seen n_odds), 0, 0)
def bX2_teamsInTurn : List (Nat × (op_T ⊕ op_R)) := [(0, .inl (o_aload 1 0)), (1, .inl (o_iload 2 1)), (2, .inr (o_callV [] [] 5 1 2 rX2_turnCounts)), (5, .inl (o_istore 6 3)), (6, .inl (o_aload 7 0)), (7, .inl (o_get 10 2 2)), (10, .inl (o_iload 11 2)), (11, .inl (o_push 12 (.int (-1)))), (12, .inl (o_ii 13 (fun x y => x ^^^ y))), (13, .inl (o_ii 14 (fun x y => x &&& y))), (14, .inl (o_istore 16 4)), (16, .inl (o_push 19 (.int (256)))), (19, .inl (o_istore 21 5)), (21, .inl (o_push 22 (.int (0)))), (22, .inl (o_istore 24 6)), (24, .inl (o_push 25 (.int (0)))), (25, .inl (nrm [0, 1, 2, 3, 4, 5, 6, 7] (o_istore 27 7))), (27, .inl (o_iload 29 7)), (29, .inl (o_push 30 (.int (4)))), (30, .inl (o_icmpge 33 91)), (33, .inl (o_iload 34 3)), (34, .inl (o_iload 36 7)), (36, .inr (o_callS [] [] 39 2 rX8_turnsIn)), (39, .inl (o_istore 41 8)), (41, .inl (o_iload 43 4)), (43, .inl (o_iload 45 7)), (45, .inr (o_callS [] [] 48 2 rX8_has)), (48, .inl (o_ifeq 51 85)), (51, .inl (o_iload 53 8)), (53, .inl (o_iload 55 5)), (55, .inl (o_icmpgt 58 85)), (58, .inl (o_iload 60 8)), (60, .inl (o_iload 62 5)), (62, .inl (o_icmpge 65 72)), (65, .inl (o_push 66 (.int (1)))), (66, .inl (o_iload 68 7)), (68, .inl (o_ii 69 (fun x y => x <<< (y &&& 31)))), (69, .inl (o_goto 79)), (72, .inl (o_iload 74 6)), (74, .inl (o_push 75 (.int (1)))), (75, .inl (o_iload 77 7)), (77, .inl (o_ii 78 (fun x y => x <<< (y &&& 31)))), (78, .inl (o_ii 79 (fun x y => x ||| y))), (79, .inl (o_istore 81 6)), (81, .inl (o_iload 83 8)), (83, .inl (o_istore 85 5)), (85, .inl (o_iinc 88 7 (1))), (88, .inl (nrm [0, 1, 2, 3, 4, 5, 6, 7] (o_goto 27))), (91, .inl (o_iload 93 6)), (93, .inl (o_iret))]
set_option maxRecDepth 100000 in
set_option maxHeartbeats 4000000 in
theorem kX2_teamsInTurn : ∀ q ∈ bX2_teamsInTurn, ok2 2 46 9 cX2_teamsInTurn yX2_teamsInTurn.cls yX2_teamsInTurn.name (some .int) (.code yX2_teamsInTurn cX2_teamsInTurn 9 (some .int)) [] [] q.1 q.2 := (al_c (s_aload_n (k := 0) (by decide +kernel)) (al_c (s_iload_n (k := 1) (by decide +kernel)) (al_c (s_callV (y := yX2_turnCounts) (bytes := cX2_turnCounts) (maxL := 4) (ret' := (some .int)) (fr' := 1) (lo' := 23) (n := 1) (ml := []) (mlc := []) (ci := 2) (q9 := (RX2, TX2, 8)) qX2_turnCounts w_462 w_463 w_464 w_2 w_465 ⟨by decide +kernel, by decide +kernel, by decide +kernel⟩ rfl rfl (by decide) (by decide) (by decide +kernel)) (al_c (s_istore_n (k := 3) rfl (by decide) (by decide +kernel)) (al_c (s_aload_n (k := 0) (by decide +kernel)) (al_c (s_get (C9 := RX2) (T9 := TX2) (N9 := 8) (ci := 2) (k := 2) iX2 rfl (by decide) w_93 (by decide +kernel)) (al_c (s_iload_n (k := 2) (by decide +kernel)) (al_c (s_iconst (n := -1) (-1) (by decide) (by decide +kernel)) (al_c (s_ixor (by decide +kernel)) (al_c (s_iand (by decide +kernel)) (al_c (s_istore (by decide) (by decide +kernel)) (al_c (s_sipush (n := 256) (256) (by decide) (by decide +kernel)) (al_c (s_istore (by decide) (by decide +kernel)) (al_c (s_iconst (n := 0) (0) (by decide) (by decide +kernel)) (al_c (s_istore (by decide) (by decide +kernel)) (al_c (s_iconst (n := 0) (0) (by decide) (by decide +kernel)) (al_c (s_nrm [0, 1, 2, 3, 4, 5, 6, 7] (s_istore (by decide) (by decide +kernel))) (al_c (s_iload (by decide +kernel)) (al_c (s_iconst (n := 4) (4) (by decide) (by decide +kernel)) (al_c (s_icmpge (off := 61) 91 (by decide) (by decide +kernel)) (al_c (s_iload_n (k := 3) (by decide +kernel)) (al_c (s_iload (by decide +kernel)) (al_c (s_callSN (host := "TelescopeNight") (index := 100) (y := yX8_turnsIn) (bytes := cX8_turnsIn) (maxL := 2) (ret' := (some .int)) (fr' := 0) (lo' := 0) (n := 2) (ml := []) (mlc := []) qX8_turnsIn (by decide +kernel) w_470 w_1 w_471 ⟨by decide +kernel, by decide +kernel, by decide +kernel⟩ (by decide) (by decide) (by decide +kernel)) (al_c (s_istore (by decide) (by decide +kernel)) (al_c (s_iload (by decide +kernel)) (al_c (s_iload (by decide +kernel)) (al_c (s_callSN (host := "TelescopeNight") (index := 88) (y := yX8_has) (bytes := cX8_has) (maxL := 2) (ret' := (some .boolean)) (fr' := 0) (lo' := 0) (n := 2) (ml := []) (mlc := []) qX8_has (by decide +kernel) w_473 w_1 w_474 ⟨by decide +kernel, by decide +kernel, by decide +kernel⟩ (by decide) (by decide) (by decide +kernel)) (al_c (s_ifeq (off := 37) 85 (by decide) (by decide +kernel)) (al_c (s_iload (by decide +kernel)) (al_c (s_iload (by decide +kernel)) (al_c (s_icmpgt (off := 30) 85 (by decide) (by decide +kernel)) (al_c (s_iload (by decide +kernel)) (al_c (s_iload (by decide +kernel)) (al_c (s_icmpge (off := 10) 72 (by decide) (by decide +kernel)) (al_c (s_iconst (n := 1) (1) (by decide) (by decide +kernel)) (al_c (s_iload (by decide +kernel)) (al_c (s_ishl (by decide +kernel)) (al_c (s_goto (off := 10) 79 (by decide) (by decide +kernel)) (al_c (s_iload (by decide +kernel)) (al_c (s_iconst (n := 1) (1) (by decide) (by decide +kernel)) (al_c (s_iload (by decide +kernel)) (al_c (s_ishl (by decide +kernel)) (al_c (s_ior (by decide +kernel)) (al_c (s_istore (by decide) (by decide +kernel)) (al_c (s_iload (by decide +kernel)) (al_c (s_istore (by decide) (by decide +kernel)) (al_c (s_iinc (n := 1) (1) (by decide) (by decide) (by decide +kernel)) (al_c (s_nrm [0, 1, 2, 3, 4, 5, 6, 7] (s_goto (off := -61) 27 (by decide) (by decide +kernel))) (al_c (s_iload (by decide +kernel)) (al_c (s_iret rfl (by decide +kernel)) al_n))))))))))))))))))))))))))))))))))))))))))))))))))
set_option maxRecDepth 100000 in
set_option maxHeartbeats 4000000 in
theorem lrX2_teamsInTurn_27 (l1 : Int32) (l2 : Int32) (l3 : Int32) (l4 : Int32) (n_slots : Int32) (n_targets : Int32) (n_teams : Int32) (n_moon : Nat → Int32) (n_percents : Nat → Int32) (n_numbers : Nat → Int32) (n_seen : Nat → Int32) (n_odds : Nat → Int32) : ∀ (fu : Nat) (l5 : Int32) (l6 : Int32) (l7 : Int32) (z : (Int32 × Int32 × Int32)), lpX2_teamsInTurn_27 l3 l4 fu l5 l6 l7 = some z → ∀ (c s : Nat) (r : op_O), Rn (lkp bX2_teamsInTurn) 91 [(0, .ref 0), (1, .int l1), (2, .int l2), (3, .int l3), (4, .int l4), (5, .int z.1), (6, .int z.2.1), (7, .int z.2.2)] [] (wX2_Night n_slots n_targets n_teams n_moon n_percents n_numbers n_seen n_odds) c s r → Rn (lkp bX2_teamsInTurn) 27 [(0, .ref 0), (1, .int l1), (2, .int l2), (3, .int l3), (4, .int l4), (5, .int l5), (6, .int l6), (7, .int l7)] [] (wX2_Night n_slots n_targets n_teams n_moon n_percents n_numbers n_seen n_odds) c s r := by
  intro fu
  induction fu with
  | zero => intro l5 l6 l7 z hp; cases hp
  | succ fu ih =>
      intro l5 l6 l7 z hp c s r k
      unfold lpX2_teamsInTurn_27 at hp
      refine Rn.go 2 (pc' := 30) (lv' := [(0, .ref 0), (1, .int l1), (2, .int l2), (3, .int l3), (4, .int l4), (5, .int l5), (6, .int l6), (7, .int l7)]) (st' := [.int (4 : Int32), .int l7]) (es' := (wX2_Night n_slots n_targets n_teams n_moon n_percents n_numbers n_seen n_odds)) (c' := c) (s' := s) rfl ?_
      refine Rn.br (P := (4 : Int32) ≤ l7) (pc1 := 91) (pc2 := 33) rfl rfl (fun h1 => ?_) (fun h1 => ?_)
      · rw [if_pos h1] at hp
        obtain rfl := Option.some.inj hp
        exact k
      · rw [if_neg h1] at hp
        refine Rn.go 2 (pc' := 36) (lv' := [(0, .ref 0), (1, .int l1), (2, .int l2), (3, .int l3), (4, .int l4), (5, .int l5), (6, .int l6), (7, .int l7)]) (st' := [.int l7, .int l3]) (es' := (wX2_Night n_slots n_targets n_teams n_moon n_percents n_numbers n_seen n_odds)) (c' := c) (s' := s) rfl ?_
        obtain ⟨z2, hz2, hp⟩ := ob_some hp
        refine Rn.rel (pc' := 39) (lv' := [(0, .ref 0), (1, .int l1), (2, .int l2), (3, .int l3), (4, .int l4), (5, .int l5), (6, .int l6), (7, .int l7)]) (st' := [.int z2]) (es' := (wX2_Night n_slots n_targets n_teams n_moon n_percents n_numbers n_seen n_odds)) (dc := 0) (ds := 0) rfl ⟨[.int l3, .int l7], [], .inl (some (.int z2)), [], 0, 0, rfl, rfl, Nat.le_of_ble_eq_true rfl, ⟨l3, l7, z2, rfl, rfl, hz2, rfl⟩, rfl⟩ ?_
        refine Rn.go 3 (pc' := 45) (lv' := [(8, .int z2), (0, .ref 0), (1, .int l1), (2, .int l2), (3, .int l3), (4, .int l4), (5, .int l5), (6, .int l6), (7, .int l7)]) (st' := [.int l7, .int l4]) (es' := (wX2_Night n_slots n_targets n_teams n_moon n_percents n_numbers n_seen n_odds)) (c' := c) (s' := s) rfl ?_
        obtain ⟨z3, hz3, hp⟩ := ob_some hp
        refine Rn.rel (pc' := 48) (lv' := [(8, .int z2), (0, .ref 0), (1, .int l1), (2, .int l2), (3, .int l3), (4, .int l4), (5, .int l5), (6, .int l6), (7, .int l7)]) (st' := [.int z3]) (es' := (wX2_Night n_slots n_targets n_teams n_moon n_percents n_numbers n_seen n_odds)) (dc := 0) (ds := 0) rfl ⟨[.int l4, .int l7], [], .inl (some (.int z3)), [], 0, 0, rfl, rfl, Nat.le_of_ble_eq_true rfl, ⟨l4, l7, z3, rfl, rfl, hz3, rfl⟩, rfl⟩ ?_
        refine Rn.br (P := z3 = 0) (pc1 := 85) (pc2 := 51) rfl rfl (fun h2 => ?_) (fun h2 => ?_)
        · rw [if_pos h2] at hp
          refine Rn.go 2 (pc' := 27) (lv' := [(0, .ref 0), (1, .int l1), (2, .int l2), (3, .int l3), (4, .int l4), (5, .int l5), (6, .int l6), (7, .int (l7 + (1 : Int32)))]) (st' := []) (es' := (wX2_Night n_slots n_targets n_teams n_moon n_percents n_numbers n_seen n_odds)) (c' := c) (s' := s) rfl ?_
          exact ih l5 l6 (l7 + (1 : Int32)) z hp c s r k
        · rw [if_neg h2] at hp
          refine Rn.go 2 (pc' := 55) (lv' := [(8, .int z2), (0, .ref 0), (1, .int l1), (2, .int l2), (3, .int l3), (4, .int l4), (5, .int l5), (6, .int l6), (7, .int l7)]) (st' := [.int l5, .int z2]) (es' := (wX2_Night n_slots n_targets n_teams n_moon n_percents n_numbers n_seen n_odds)) (c' := c) (s' := s) rfl ?_
          refine Rn.br (P := l5 < z2) (pc1 := 85) (pc2 := 58) rfl rfl (fun h3 => ?_) (fun h3 => ?_)
          · rw [if_pos h3] at hp
            refine Rn.go 2 (pc' := 27) (lv' := [(0, .ref 0), (1, .int l1), (2, .int l2), (3, .int l3), (4, .int l4), (5, .int l5), (6, .int l6), (7, .int (l7 + (1 : Int32)))]) (st' := []) (es' := (wX2_Night n_slots n_targets n_teams n_moon n_percents n_numbers n_seen n_odds)) (c' := c) (s' := s) rfl ?_
            exact ih l5 l6 (l7 + (1 : Int32)) z hp c s r k
          · rw [if_neg h3] at hp
            refine Rn.go 2 (pc' := 62) (lv' := [(8, .int z2), (0, .ref 0), (1, .int l1), (2, .int l2), (3, .int l3), (4, .int l4), (5, .int l5), (6, .int l6), (7, .int l7)]) (st' := [.int l5, .int z2]) (es' := (wX2_Night n_slots n_targets n_teams n_moon n_percents n_numbers n_seen n_odds)) (c' := c) (s' := s) rfl ?_
            refine Rn.br (P := l5 ≤ z2) (pc1 := 72) (pc2 := 65) rfl rfl (fun h4 => ?_) (fun h4 => ?_)
            · rw [if_pos h4] at hp
              refine Rn.go 10 (pc' := 27) (lv' := [(0, .ref 0), (1, .int l1), (2, .int l2), (3, .int l3), (4, .int l4), (5, .int z2), (6, .int (l6 ||| ((1 : Int32) <<< (l7 &&& 31)))), (7, .int (l7 + (1 : Int32)))]) (st' := []) (es' := (wX2_Night n_slots n_targets n_teams n_moon n_percents n_numbers n_seen n_odds)) (c' := c) (s' := s) rfl ?_
              exact ih z2 (l6 ||| ((1 : Int32) <<< (l7 &&& 31))) (l7 + (1 : Int32)) z hp c s r k
            · rw [if_neg h4] at hp
              refine Rn.go 9 (pc' := 27) (lv' := [(0, .ref 0), (1, .int l1), (2, .int l2), (3, .int l3), (4, .int l4), (5, .int z2), (6, .int ((1 : Int32) <<< (l7 &&& 31))), (7, .int (l7 + (1 : Int32)))]) (st' := []) (es' := (wX2_Night n_slots n_targets n_teams n_moon n_percents n_numbers n_seen n_odds)) (c' := c) (s' := s) rfl ?_
              exact ih z2 ((1 : Int32) <<< (l7 &&& 31)) (l7 + (1 : Int32)) z hp c s r k
set_option maxRecDepth 100000 in
set_option maxHeartbeats 4000000 in
theorem oX2_teamsInTurn : Of (lkp bX2_teamsInTurn) 9 rX2_teamsInTurn := by
  intro avs es r h
  obtain ⟨x1, x2, n_slots, n_targets, n_teams, n_moon, n_percents, n_numbers, n_seen, n_odds, z, rfl, rfl, hp, rfl⟩ := h
  refine ⟨Nat.le_of_ble_eq_true rfl, ?_⟩
  unfold pX2_teamsInTurn at hp
  refine Rn.go 2 (pc' := 2) (lv' := [(0, .ref 0), (1, .int x1), (2, .int x2)]) (st' := [.int x1, .ref 0]) (es' := (wX2_Night n_slots n_targets n_teams n_moon n_percents n_numbers n_seen n_odds)) (c' := 0) (s' := 0) rfl ?_
  obtain ⟨z1, hz1, hp⟩ := ob_some hp
  refine Rn.rel (pc' := 5) (lv' := [(0, .ref 0), (1, .int x1), (2, .int x2)]) (st' := [.int z1]) (es' := (wX2_Night n_slots n_targets n_teams n_moon n_percents n_numbers n_seen n_odds)) (dc := 0) (ds := 0) rfl ⟨0, [.int x1], _, [0, 1, 2, 3, 4, 5], .inl (some (.int z1)), (wX2_Night n_slots n_targets n_teams n_moon n_percents n_numbers n_seen n_odds), 0, 0, rfl, rfl, Nat.le_of_ble_eq_true rfl, rfl, ⟨x1, n_slots, n_targets, n_teams, n_moon, n_percents, n_numbers, n_seen, n_odds, z1, rfl, rfl, hz1, rfl⟩, rfl⟩ ?_
  refine Rn.go 14 (pc' := 27) (lv' := [(0, .ref 0), (1, .int x1), (2, .int x2), (3, .int z1), (4, .int (n_teams &&& (x2 ^^^ (-1 : Int32)))), (5, .int (256 : Int32)), (6, .int (0 : Int32)), (7, .int (0 : Int32))]) (st' := []) (es' := (wX2_Night n_slots n_targets n_teams n_moon n_percents n_numbers n_seen n_odds)) (c' := 0) (s' := 0) rfl ?_
  obtain ⟨z4, hz4, hp⟩ := ob_some hp
  refine lrX2_teamsInTurn_27 x1 x2 z1 (n_teams &&& (x2 ^^^ (-1 : Int32))) n_slots n_targets n_teams n_moon n_percents n_numbers n_seen n_odds _ (256 : Int32) (0 : Int32) (0 : Int32) z4 hz4 _ _ _ ?_
  refine Rn.go 1 (pc' := 93) (lv' := [(0, .ref 0), (1, .int x1), (2, .int x2), (3, .int z1), (4, .int (n_teams &&& (x2 ^^^ (-1 : Int32)))), (5, .int z4.1), (6, .int z4.2.1), (7, .int z4.2.2)]) (st' := [.int z4.2.1]) (es' := (wX2_Night n_slots n_targets n_teams n_moon n_percents n_numbers n_seen n_odds)) (c' := 0) (s' := 0) rfl ?_
  obtain rfl := Option.some.inj hp
  exact Rn.fin rfl rfl rfl
theorem qX2_teamsInTurn : CtA yX2_teamsInTurn (.code yX2_teamsInTurn cX2_teamsInTurn 9 (some .int)) 2 46 [] rX2_teamsInTurn := CtA.of (by decide +kernel) (fun pc op h => kX2_teamsInTurn _ (lkp_mem h)) oX2_teamsInTurn
/-! TelescopeNight$Night.wanting(II)I -/
def lpX2_wanting_5 (l1 : Int32) (l2 : Int32) (n_targets : Int32) (n_numbers : Nat → Int32) : Nat → Int32 → Int32 → Option (Int32 × Int32)
  | 0, _, _ => none
  | fu + 1, l3, l4 =>
    if n_targets ≤ l4 then
      some (l3, l4)
    else
      ob (pX8_madeOf l1 l4) (fun z1 =>
      ob (pX2_number l4 (7 : Int32) n_numbers) (fun z2 =>
      if z2 ≤ z1 then
        lpX2_wanting_5 l1 l2 n_targets n_numbers fu l3 (l4 + (1 : Int32))
      else
        ob (pX2_number l4 (0 : Int32) n_numbers) (fun z3 =>
        ob (pX8_has l2 z3) (fun z4 =>
        if z4 = 0 then
          lpX2_wanting_5 l1 l2 n_targets n_numbers fu l3 (l4 + (1 : Int32))
        else
          lpX2_wanting_5 l1 l2 n_targets n_numbers fu (l3 ||| ((1 : Int32) <<< (l4 &&& 31))) (l4 + (1 : Int32))))))
def pX2_wanting (x1 : Int32) (x2 : Int32) (n_targets : Int32) (n_numbers : Nat → Int32) : Option (Int32) :=
  ob (lpX2_wanting_5 x1 x2 n_targets n_numbers lpF (0 : Int32) (0 : Int32)) (fun z5 =>
  some z5.1)
def rX2_wanting : List Value → List va_E → op_O → Prop := fun avs es r => ∃ (x1 : Int32) (x2 : Int32) (n_slots : Int32) (n_targets : Int32) (n_teams : Int32) (n_moon : Nat → Int32) (n_percents : Nat → Int32) (n_numbers : Nat → Int32) (n_seen : Nat → Int32) (n_odds : Nat → Int32) (z : Int32), avs = [.ref 0, .int x1, .int x2] ∧ es = (wX2_Night n_slots n_targets n_teams n_moon n_percents n_numbers n_seen n_odds) ∧ pX2_wanting x1 x2 n_targets n_numbers = some z ∧ r = (.inl (some (.int z)), (wX2_Night n_slots n_targets n_teams n_moon n_percents n_numbers n_seen n_odds), 0, 0)
def bX2_wanting : List (Nat × (op_T ⊕ op_R)) := [(0, .inl (o_push 1 (.int (0)))), (1, .inl (o_istore 2 3)), (2, .inl (o_push 3 (.int (0)))), (3, .inl (nrm [0, 1, 2, 3, 4] (o_istore 5 4))), (5, .inl (o_iload 7 4)), (7, .inl (o_aload 8 0)), (8, .inl (o_get 11 2 1)), (11, .inl (o_icmpge 14 58)), (14, .inl (o_iload 15 1)), (15, .inl (o_iload 17 4)), (17, .inr (o_callS [] [] 20 2 rX8_madeOf)), (20, .inl (o_aload 21 0)), (21, .inl (o_iload 23 4)), (23, .inl (o_push 25 (.int (7)))), (25, .inr (o_callV [] [] 28 2 2 rX2_number)), (28, .inl (o_icmpge 31 52)), (31, .inl (o_iload 32 2)), (32, .inl (o_aload 33 0)), (33, .inl (o_iload 35 4)), (35, .inl (o_push 36 (.int (0)))), (36, .inr (o_callV [] [] 39 2 2 rX2_number)), (39, .inr (o_callS [] [] 42 2 rX8_has)), (42, .inl (o_ifeq 45 52)), (45, .inl (o_iload 46 3)), (46, .inl (o_push 47 (.int (1)))), (47, .inl (o_iload 49 4)), (49, .inl (o_ii 50 (fun x y => x <<< (y &&& 31)))), (50, .inl (o_ii 51 (fun x y => x ||| y))), (51, .inl (o_istore 52 3)), (52, .inl (o_iinc 55 4 (1))), (55, .inl (nrm [0, 1, 2, 3, 4] (o_goto 5))), (58, .inl (o_iload 59 3)), (59, .inl (o_iret))]
set_option maxRecDepth 100000 in
set_option maxHeartbeats 4000000 in
theorem kX2_wanting : ∀ q ∈ bX2_wanting, ok2 1 23 5 cX2_wanting yX2_wanting.cls yX2_wanting.name (some .int) (.code yX2_wanting cX2_wanting 5 (some .int)) [] [] q.1 q.2 := (al_c (s_iconst (n := 0) (0) (by decide) (by decide +kernel)) (al_c (s_istore_n (k := 3) rfl (by decide) (by decide +kernel)) (al_c (s_iconst (n := 0) (0) (by decide) (by decide +kernel)) (al_c (s_nrm [0, 1, 2, 3, 4] (s_istore (by decide) (by decide +kernel))) (al_c (s_iload (by decide +kernel)) (al_c (s_aload_n (k := 0) (by decide +kernel)) (al_c (s_get (C9 := RX2) (T9 := TX2) (N9 := 8) (ci := 2) (k := 1) iX2 rfl (by decide) w_87 (by decide +kernel)) (al_c (s_icmpge (off := 47) 58 (by decide) (by decide +kernel)) (al_c (s_iload_n (k := 1) (by decide +kernel)) (al_c (s_iload (by decide +kernel)) (al_c (s_callSN (host := "TelescopeNight") (index := 94) (y := yX8_madeOf) (bytes := cX8_madeOf) (maxL := 2) (ret' := (some .int)) (fr' := 0) (lo' := 0) (n := 2) (ml := []) (mlc := []) qX8_madeOf (by decide +kernel) w_467 w_1 w_468 ⟨by decide +kernel, by decide +kernel, by decide +kernel⟩ (by decide) (by decide) (by decide +kernel)) (al_c (s_aload_n (k := 0) (by decide +kernel)) (al_c (s_iload (by decide +kernel)) (al_c (s_bipush (n := 7) (7) (by decide) (by decide +kernel)) (al_c (s_callV (y := yX2_number) (bytes := cX2_number) (maxL := 4) (ret' := (some .int)) (fr' := 0) (lo' := 0) (n := 2) (ml := []) (mlc := []) (ci := 2) (q9 := (RX2, TX2, 8)) qX2_number w_50 w_51 w_52 w_2 w_53 ⟨by decide +kernel, by decide +kernel, by decide +kernel⟩ rfl rfl (by decide) (by decide) (by decide +kernel)) (al_c (s_icmpge (off := 24) 52 (by decide) (by decide +kernel)) (al_c (s_iload_n (k := 2) (by decide +kernel)) (al_c (s_aload_n (k := 0) (by decide +kernel)) (al_c (s_iload (by decide +kernel)) (al_c (s_iconst (n := 0) (0) (by decide) (by decide +kernel)) (al_c (s_callV (y := yX2_number) (bytes := cX2_number) (maxL := 4) (ret' := (some .int)) (fr' := 0) (lo' := 0) (n := 2) (ml := []) (mlc := []) (ci := 2) (q9 := (RX2, TX2, 8)) qX2_number w_50 w_51 w_52 w_2 w_53 ⟨by decide +kernel, by decide +kernel, by decide +kernel⟩ rfl rfl (by decide) (by decide) (by decide +kernel)) (al_c (s_callSN (host := "TelescopeNight") (index := 88) (y := yX8_has) (bytes := cX8_has) (maxL := 2) (ret' := (some .boolean)) (fr' := 0) (lo' := 0) (n := 2) (ml := []) (mlc := []) qX8_has (by decide +kernel) w_473 w_1 w_474 ⟨by decide +kernel, by decide +kernel, by decide +kernel⟩ (by decide) (by decide) (by decide +kernel)) (al_c (s_ifeq (off := 10) 52 (by decide) (by decide +kernel)) (al_c (s_iload_n (k := 3) (by decide +kernel)) (al_c (s_iconst (n := 1) (1) (by decide) (by decide +kernel)) (al_c (s_iload (by decide +kernel)) (al_c (s_ishl (by decide +kernel)) (al_c (s_ior (by decide +kernel)) (al_c (s_istore_n (k := 3) rfl (by decide) (by decide +kernel)) (al_c (s_iinc (n := 1) (1) (by decide) (by decide) (by decide +kernel)) (al_c (s_nrm [0, 1, 2, 3, 4] (s_goto (off := -50) 5 (by decide) (by decide +kernel))) (al_c (s_iload_n (k := 3) (by decide +kernel)) (al_c (s_iret rfl (by decide +kernel)) al_n)))))))))))))))))))))))))))))))))
set_option maxRecDepth 100000 in
set_option maxHeartbeats 4000000 in
theorem lrX2_wanting_5 (l1 : Int32) (l2 : Int32) (n_slots : Int32) (n_targets : Int32) (n_teams : Int32) (n_moon : Nat → Int32) (n_percents : Nat → Int32) (n_numbers : Nat → Int32) (n_seen : Nat → Int32) (n_odds : Nat → Int32) : ∀ (fu : Nat) (l3 : Int32) (l4 : Int32) (z : (Int32 × Int32)), lpX2_wanting_5 l1 l2 n_targets n_numbers fu l3 l4 = some z → ∀ (c s : Nat) (r : op_O), Rn (lkp bX2_wanting) 58 [(0, .ref 0), (1, .int l1), (2, .int l2), (3, .int z.1), (4, .int z.2)] [] (wX2_Night n_slots n_targets n_teams n_moon n_percents n_numbers n_seen n_odds) c s r → Rn (lkp bX2_wanting) 5 [(0, .ref 0), (1, .int l1), (2, .int l2), (3, .int l3), (4, .int l4)] [] (wX2_Night n_slots n_targets n_teams n_moon n_percents n_numbers n_seen n_odds) c s r := by
  intro fu
  induction fu with
  | zero => intro l3 l4 z hp; cases hp
  | succ fu ih =>
      intro l3 l4 z hp c s r k
      unfold lpX2_wanting_5 at hp
      refine Rn.go 3 (pc' := 11) (lv' := [(0, .ref 0), (1, .int l1), (2, .int l2), (3, .int l3), (4, .int l4)]) (st' := [.int n_targets, .int l4]) (es' := (wX2_Night n_slots n_targets n_teams n_moon n_percents n_numbers n_seen n_odds)) (c' := c) (s' := s) rfl ?_
      refine Rn.br (P := n_targets ≤ l4) (pc1 := 58) (pc2 := 14) rfl rfl (fun h1 => ?_) (fun h1 => ?_)
      · rw [if_pos h1] at hp
        obtain rfl := Option.some.inj hp
        exact k
      · rw [if_neg h1] at hp
        refine Rn.go 2 (pc' := 17) (lv' := [(0, .ref 0), (1, .int l1), (2, .int l2), (3, .int l3), (4, .int l4)]) (st' := [.int l4, .int l1]) (es' := (wX2_Night n_slots n_targets n_teams n_moon n_percents n_numbers n_seen n_odds)) (c' := c) (s' := s) rfl ?_
        obtain ⟨z1, hz1, hp⟩ := ob_some hp
        refine Rn.rel (pc' := 20) (lv' := [(0, .ref 0), (1, .int l1), (2, .int l2), (3, .int l3), (4, .int l4)]) (st' := [.int z1]) (es' := (wX2_Night n_slots n_targets n_teams n_moon n_percents n_numbers n_seen n_odds)) (dc := 0) (ds := 0) rfl ⟨[.int l1, .int l4], [], .inl (some (.int z1)), [], 0, 0, rfl, rfl, Nat.le_of_ble_eq_true rfl, ⟨l1, l4, z1, rfl, rfl, hz1, rfl⟩, rfl⟩ ?_
        refine Rn.go 3 (pc' := 25) (lv' := [(0, .ref 0), (1, .int l1), (2, .int l2), (3, .int l3), (4, .int l4)]) (st' := [.int (7 : Int32), .int l4, .ref 0, .int z1]) (es' := (wX2_Night n_slots n_targets n_teams n_moon n_percents n_numbers n_seen n_odds)) (c' := c) (s' := s) rfl ?_
        obtain ⟨z2, hz2, hp⟩ := ob_some hp
        refine Rn.rel (pc' := 28) (lv' := [(0, .ref 0), (1, .int l1), (2, .int l2), (3, .int l3), (4, .int l4)]) (st' := [.int z2, .int z1]) (es' := (wX2_Night n_slots n_targets n_teams n_moon n_percents n_numbers n_seen n_odds)) (dc := 0) (ds := 0) rfl ⟨0, [.int l4, .int (7 : Int32)], _, [0, 1, 2, 3, 4, 5], .inl (some (.int z2)), (wX2_Night n_slots n_targets n_teams n_moon n_percents n_numbers n_seen n_odds), 0, 0, rfl, rfl, Nat.le_of_ble_eq_true rfl, rfl, ⟨l4, (7 : Int32), n_slots, n_targets, n_teams, n_moon, n_percents, n_numbers, n_seen, n_odds, z2, rfl, rfl, hz2, rfl⟩, rfl⟩ ?_
        refine Rn.br (P := z2 ≤ z1) (pc1 := 52) (pc2 := 31) rfl rfl (fun h2 => ?_) (fun h2 => ?_)
        · rw [if_pos h2] at hp
          refine Rn.go 2 (pc' := 5) (lv' := [(0, .ref 0), (1, .int l1), (2, .int l2), (3, .int l3), (4, .int (l4 + (1 : Int32)))]) (st' := []) (es' := (wX2_Night n_slots n_targets n_teams n_moon n_percents n_numbers n_seen n_odds)) (c' := c) (s' := s) rfl ?_
          exact ih l3 (l4 + (1 : Int32)) z hp c s r k
        · rw [if_neg h2] at hp
          refine Rn.go 4 (pc' := 36) (lv' := [(0, .ref 0), (1, .int l1), (2, .int l2), (3, .int l3), (4, .int l4)]) (st' := [.int (0 : Int32), .int l4, .ref 0, .int l2]) (es' := (wX2_Night n_slots n_targets n_teams n_moon n_percents n_numbers n_seen n_odds)) (c' := c) (s' := s) rfl ?_
          obtain ⟨z3, hz3, hp⟩ := ob_some hp
          refine Rn.rel (pc' := 39) (lv' := [(0, .ref 0), (1, .int l1), (2, .int l2), (3, .int l3), (4, .int l4)]) (st' := [.int z3, .int l2]) (es' := (wX2_Night n_slots n_targets n_teams n_moon n_percents n_numbers n_seen n_odds)) (dc := 0) (ds := 0) rfl ⟨0, [.int l4, .int (0 : Int32)], _, [0, 1, 2, 3, 4, 5], .inl (some (.int z3)), (wX2_Night n_slots n_targets n_teams n_moon n_percents n_numbers n_seen n_odds), 0, 0, rfl, rfl, Nat.le_of_ble_eq_true rfl, rfl, ⟨l4, (0 : Int32), n_slots, n_targets, n_teams, n_moon, n_percents, n_numbers, n_seen, n_odds, z3, rfl, rfl, hz3, rfl⟩, rfl⟩ ?_
          obtain ⟨z4, hz4, hp⟩ := ob_some hp
          refine Rn.rel (pc' := 42) (lv' := [(0, .ref 0), (1, .int l1), (2, .int l2), (3, .int l3), (4, .int l4)]) (st' := [.int z4]) (es' := (wX2_Night n_slots n_targets n_teams n_moon n_percents n_numbers n_seen n_odds)) (dc := 0) (ds := 0) rfl ⟨[.int l2, .int z3], [], .inl (some (.int z4)), [], 0, 0, rfl, rfl, Nat.le_of_ble_eq_true rfl, ⟨l2, z3, z4, rfl, rfl, hz4, rfl⟩, rfl⟩ ?_
          refine Rn.br (P := z4 = 0) (pc1 := 52) (pc2 := 45) rfl rfl (fun h3 => ?_) (fun h3 => ?_)
          · rw [if_pos h3] at hp
            refine Rn.go 2 (pc' := 5) (lv' := [(0, .ref 0), (1, .int l1), (2, .int l2), (3, .int l3), (4, .int (l4 + (1 : Int32)))]) (st' := []) (es' := (wX2_Night n_slots n_targets n_teams n_moon n_percents n_numbers n_seen n_odds)) (c' := c) (s' := s) rfl ?_
            exact ih l3 (l4 + (1 : Int32)) z hp c s r k
          · rw [if_neg h3] at hp
            refine Rn.go 8 (pc' := 5) (lv' := [(0, .ref 0), (1, .int l1), (2, .int l2), (3, .int (l3 ||| ((1 : Int32) <<< (l4 &&& 31)))), (4, .int (l4 + (1 : Int32)))]) (st' := []) (es' := (wX2_Night n_slots n_targets n_teams n_moon n_percents n_numbers n_seen n_odds)) (c' := c) (s' := s) rfl ?_
            exact ih (l3 ||| ((1 : Int32) <<< (l4 &&& 31))) (l4 + (1 : Int32)) z hp c s r k
set_option maxRecDepth 100000 in
set_option maxHeartbeats 4000000 in
theorem oX2_wanting : Of (lkp bX2_wanting) 5 rX2_wanting := by
  intro avs es r h
  obtain ⟨x1, x2, n_slots, n_targets, n_teams, n_moon, n_percents, n_numbers, n_seen, n_odds, z, rfl, rfl, hp, rfl⟩ := h
  refine ⟨Nat.le_of_ble_eq_true rfl, ?_⟩
  unfold pX2_wanting at hp
  refine Rn.go 4 (pc' := 5) (lv' := [(0, .ref 0), (1, .int x1), (2, .int x2), (3, .int (0 : Int32)), (4, .int (0 : Int32))]) (st' := []) (es' := (wX2_Night n_slots n_targets n_teams n_moon n_percents n_numbers n_seen n_odds)) (c' := 0) (s' := 0) rfl ?_
  obtain ⟨z5, hz5, hp⟩ := ob_some hp
  refine lrX2_wanting_5 x1 x2 n_slots n_targets n_teams n_moon n_percents n_numbers n_seen n_odds _ (0 : Int32) (0 : Int32) z5 hz5 _ _ _ ?_
  refine Rn.go 1 (pc' := 59) (lv' := [(0, .ref 0), (1, .int x1), (2, .int x2), (3, .int z5.1), (4, .int z5.2)]) (st' := [.int z5.1]) (es' := (wX2_Night n_slots n_targets n_teams n_moon n_percents n_numbers n_seen n_odds)) (c' := 0) (s' := 0) rfl ?_
  obtain rfl := Option.some.inj hp
  exact Rn.fin rfl rfl rfl
theorem qX2_wanting : CtA yX2_wanting (.code yX2_wanting cX2_wanting 5 (some .int)) 1 23 [] rX2_wanting := CtA.of (by decide +kernel) (fun pc op h => kX2_wanting _ (lkp_mem h)) oX2_wanting
/-! TelescopeNight$Night.dearest(I)I -/
def lpX2_dearest_4 (l1 : Int32) (n_targets : Int32) (n_numbers : Nat → Int32) : Nat → Int32 → Int32 → Option (Int32 × Int32)
  | 0, _, _ => none
  | fu + 1, l2, l3 =>
    if n_targets ≤ l3 then
      some (l2, l3)
    else
      ob (pX8_has l1 l3) (fun z1 =>
      if z1 = 0 then
        lpX2_dearest_4 l1 n_targets n_numbers fu l2 (l3 + (1 : Int32))
      else
        if l2 = (-1 : Int32) then
          lpX2_dearest_4 l1 n_targets n_numbers fu l3 (l3 + (1 : Int32))
        else
          ob (pX2_number l3 (8 : Int32) n_numbers) (fun z2 =>
          ob (pX2_number l2 (8 : Int32) n_numbers) (fun z3 =>
          if z2 ≤ z3 then
            lpX2_dearest_4 l1 n_targets n_numbers fu l2 (l3 + (1 : Int32))
          else
            lpX2_dearest_4 l1 n_targets n_numbers fu l3 (l3 + (1 : Int32)))))
def pX2_dearest (x1 : Int32) (n_targets : Int32) (n_numbers : Nat → Int32) : Option (Int32) :=
  ob (lpX2_dearest_4 x1 n_targets n_numbers lpF (-1 : Int32) (0 : Int32)) (fun z4 =>
  some z4.1)
def rX2_dearest : List Value → List va_E → op_O → Prop := fun avs es r => ∃ (x1 : Int32) (n_slots : Int32) (n_targets : Int32) (n_teams : Int32) (n_moon : Nat → Int32) (n_percents : Nat → Int32) (n_numbers : Nat → Int32) (n_seen : Nat → Int32) (n_odds : Nat → Int32) (z : Int32), avs = [.ref 0, .int x1] ∧ es = (wX2_Night n_slots n_targets n_teams n_moon n_percents n_numbers n_seen n_odds) ∧ pX2_dearest x1 n_targets n_numbers = some z ∧ r = (.inl (some (.int z)), (wX2_Night n_slots n_targets n_teams n_moon n_percents n_numbers n_seen n_odds), 0, 0)
def bX2_dearest : List (Nat × (op_T ⊕ op_R)) := [(0, .inl (o_push 1 (.int (-1)))), (1, .inl (o_istore 2 2)), (2, .inl (o_push 3 (.int (0)))), (3, .inl (nrm [0, 1, 2, 3] (o_istore 4 3))), (4, .inl (o_iload 5 3)), (5, .inl (o_aload 6 0)), (6, .inl (o_get 9 2 1)), (9, .inl (o_icmpge 12 50)), (12, .inl (o_iload 13 1)), (13, .inl (o_iload 14 3)), (14, .inr (o_callS [] [] 17 2 rX8_has)), (17, .inl (o_ifeq 20 44)), (20, .inl (o_iload 21 2)), (21, .inl (o_push 22 (.int (-1)))), (22, .inl (o_icmpeq 25 42)), (25, .inl (o_aload 26 0)), (26, .inl (o_iload 27 3)), (27, .inl (o_push 29 (.int (8)))), (29, .inr (o_callV [] [] 32 2 2 rX2_number)), (32, .inl (o_aload 33 0)), (33, .inl (o_iload 34 2)), (34, .inl (o_push 36 (.int (8)))), (36, .inr (o_callV [] [] 39 2 2 rX2_number)), (39, .inl (o_icmple 42 44)), (42, .inl (o_iload 43 3)), (43, .inl (o_istore 44 2)), (44, .inl (o_iinc 47 3 (1))), (47, .inl (nrm [0, 1, 2, 3] (o_goto 4))), (50, .inl (o_iload 51 2)), (51, .inl (o_iret))]
set_option maxRecDepth 100000 in
set_option maxHeartbeats 4000000 in
theorem kX2_dearest : ∀ q ∈ bX2_dearest, ok2 1 23 4 cX2_dearest yX2_dearest.cls yX2_dearest.name (some .int) (.code yX2_dearest cX2_dearest 4 (some .int)) [] [] q.1 q.2 := (al_c (s_iconst (n := -1) (-1) (by decide) (by decide +kernel)) (al_c (s_istore_n (k := 2) rfl (by decide) (by decide +kernel)) (al_c (s_iconst (n := 0) (0) (by decide) (by decide +kernel)) (al_c (s_nrm [0, 1, 2, 3] (s_istore_n (k := 3) rfl (by decide) (by decide +kernel))) (al_c (s_iload_n (k := 3) (by decide +kernel)) (al_c (s_aload_n (k := 0) (by decide +kernel)) (al_c (s_get (C9 := RX2) (T9 := TX2) (N9 := 8) (ci := 2) (k := 1) iX2 rfl (by decide) w_87 (by decide +kernel)) (al_c (s_icmpge (off := 41) 50 (by decide) (by decide +kernel)) (al_c (s_iload_n (k := 1) (by decide +kernel)) (al_c (s_iload_n (k := 3) (by decide +kernel)) (al_c (s_callSN (host := "TelescopeNight") (index := 88) (y := yX8_has) (bytes := cX8_has) (maxL := 2) (ret' := (some .boolean)) (fr' := 0) (lo' := 0) (n := 2) (ml := []) (mlc := []) qX8_has (by decide +kernel) w_473 w_1 w_474 ⟨by decide +kernel, by decide +kernel, by decide +kernel⟩ (by decide) (by decide) (by decide +kernel)) (al_c (s_ifeq (off := 27) 44 (by decide) (by decide +kernel)) (al_c (s_iload_n (k := 2) (by decide +kernel)) (al_c (s_iconst (n := -1) (-1) (by decide) (by decide +kernel)) (al_c (s_icmpeq (off := 20) 42 (by decide) (by decide +kernel)) (al_c (s_aload_n (k := 0) (by decide +kernel)) (al_c (s_iload_n (k := 3) (by decide +kernel)) (al_c (s_bipush (n := 8) (8) (by decide) (by decide +kernel)) (al_c (s_callV (y := yX2_number) (bytes := cX2_number) (maxL := 4) (ret' := (some .int)) (fr' := 0) (lo' := 0) (n := 2) (ml := []) (mlc := []) (ci := 2) (q9 := (RX2, TX2, 8)) qX2_number w_50 w_51 w_52 w_2 w_53 ⟨by decide +kernel, by decide +kernel, by decide +kernel⟩ rfl rfl (by decide) (by decide) (by decide +kernel)) (al_c (s_aload_n (k := 0) (by decide +kernel)) (al_c (s_iload_n (k := 2) (by decide +kernel)) (al_c (s_bipush (n := 8) (8) (by decide) (by decide +kernel)) (al_c (s_callV (y := yX2_number) (bytes := cX2_number) (maxL := 4) (ret' := (some .int)) (fr' := 0) (lo' := 0) (n := 2) (ml := []) (mlc := []) (ci := 2) (q9 := (RX2, TX2, 8)) qX2_number w_50 w_51 w_52 w_2 w_53 ⟨by decide +kernel, by decide +kernel, by decide +kernel⟩ rfl rfl (by decide) (by decide) (by decide +kernel)) (al_c (s_icmple (off := 5) 44 (by decide) (by decide +kernel)) (al_c (s_iload_n (k := 3) (by decide +kernel)) (al_c (s_istore_n (k := 2) rfl (by decide) (by decide +kernel)) (al_c (s_iinc (n := 1) (1) (by decide) (by decide) (by decide +kernel)) (al_c (s_nrm [0, 1, 2, 3] (s_goto (off := -43) 4 (by decide) (by decide +kernel))) (al_c (s_iload_n (k := 2) (by decide +kernel)) (al_c (s_iret rfl (by decide +kernel)) al_n))))))))))))))))))))))))))))))
set_option maxRecDepth 100000 in
set_option maxHeartbeats 4000000 in
theorem lrX2_dearest_4 (l1 : Int32) (n_slots : Int32) (n_targets : Int32) (n_teams : Int32) (n_moon : Nat → Int32) (n_percents : Nat → Int32) (n_numbers : Nat → Int32) (n_seen : Nat → Int32) (n_odds : Nat → Int32) : ∀ (fu : Nat) (l2 : Int32) (l3 : Int32) (z : (Int32 × Int32)), lpX2_dearest_4 l1 n_targets n_numbers fu l2 l3 = some z → ∀ (c s : Nat) (r : op_O), Rn (lkp bX2_dearest) 50 [(0, .ref 0), (1, .int l1), (2, .int z.1), (3, .int z.2)] [] (wX2_Night n_slots n_targets n_teams n_moon n_percents n_numbers n_seen n_odds) c s r → Rn (lkp bX2_dearest) 4 [(0, .ref 0), (1, .int l1), (2, .int l2), (3, .int l3)] [] (wX2_Night n_slots n_targets n_teams n_moon n_percents n_numbers n_seen n_odds) c s r := by
  intro fu
  induction fu with
  | zero => intro l2 l3 z hp; cases hp
  | succ fu ih =>
      intro l2 l3 z hp c s r k
      unfold lpX2_dearest_4 at hp
      refine Rn.go 3 (pc' := 9) (lv' := [(0, .ref 0), (1, .int l1), (2, .int l2), (3, .int l3)]) (st' := [.int n_targets, .int l3]) (es' := (wX2_Night n_slots n_targets n_teams n_moon n_percents n_numbers n_seen n_odds)) (c' := c) (s' := s) rfl ?_
      refine Rn.br (P := n_targets ≤ l3) (pc1 := 50) (pc2 := 12) rfl rfl (fun h1 => ?_) (fun h1 => ?_)
      · rw [if_pos h1] at hp
        obtain rfl := Option.some.inj hp
        exact k
      · rw [if_neg h1] at hp
        refine Rn.go 2 (pc' := 14) (lv' := [(0, .ref 0), (1, .int l1), (2, .int l2), (3, .int l3)]) (st' := [.int l3, .int l1]) (es' := (wX2_Night n_slots n_targets n_teams n_moon n_percents n_numbers n_seen n_odds)) (c' := c) (s' := s) rfl ?_
        obtain ⟨z1, hz1, hp⟩ := ob_some hp
        refine Rn.rel (pc' := 17) (lv' := [(0, .ref 0), (1, .int l1), (2, .int l2), (3, .int l3)]) (st' := [.int z1]) (es' := (wX2_Night n_slots n_targets n_teams n_moon n_percents n_numbers n_seen n_odds)) (dc := 0) (ds := 0) rfl ⟨[.int l1, .int l3], [], .inl (some (.int z1)), [], 0, 0, rfl, rfl, Nat.le_of_ble_eq_true rfl, ⟨l1, l3, z1, rfl, rfl, hz1, rfl⟩, rfl⟩ ?_
        refine Rn.br (P := z1 = 0) (pc1 := 44) (pc2 := 20) rfl rfl (fun h2 => ?_) (fun h2 => ?_)
        · rw [if_pos h2] at hp
          refine Rn.go 2 (pc' := 4) (lv' := [(0, .ref 0), (1, .int l1), (2, .int l2), (3, .int (l3 + (1 : Int32)))]) (st' := []) (es' := (wX2_Night n_slots n_targets n_teams n_moon n_percents n_numbers n_seen n_odds)) (c' := c) (s' := s) rfl ?_
          exact ih l2 (l3 + (1 : Int32)) z hp c s r k
        · rw [if_neg h2] at hp
          refine Rn.go 2 (pc' := 22) (lv' := [(0, .ref 0), (1, .int l1), (2, .int l2), (3, .int l3)]) (st' := [.int (-1 : Int32), .int l2]) (es' := (wX2_Night n_slots n_targets n_teams n_moon n_percents n_numbers n_seen n_odds)) (c' := c) (s' := s) rfl ?_
          refine Rn.br (P := l2 = (-1 : Int32)) (pc1 := 42) (pc2 := 25) rfl rfl (fun h3 => ?_) (fun h3 => ?_)
          · rw [if_pos h3] at hp
            refine Rn.go 4 (pc' := 4) (lv' := [(0, .ref 0), (1, .int l1), (2, .int l3), (3, .int (l3 + (1 : Int32)))]) (st' := []) (es' := (wX2_Night n_slots n_targets n_teams n_moon n_percents n_numbers n_seen n_odds)) (c' := c) (s' := s) rfl ?_
            exact ih l3 (l3 + (1 : Int32)) z hp c s r k
          · rw [if_neg h3] at hp
            refine Rn.go 3 (pc' := 29) (lv' := [(0, .ref 0), (1, .int l1), (2, .int l2), (3, .int l3)]) (st' := [.int (8 : Int32), .int l3, .ref 0]) (es' := (wX2_Night n_slots n_targets n_teams n_moon n_percents n_numbers n_seen n_odds)) (c' := c) (s' := s) rfl ?_
            obtain ⟨z2, hz2, hp⟩ := ob_some hp
            refine Rn.rel (pc' := 32) (lv' := [(0, .ref 0), (1, .int l1), (2, .int l2), (3, .int l3)]) (st' := [.int z2]) (es' := (wX2_Night n_slots n_targets n_teams n_moon n_percents n_numbers n_seen n_odds)) (dc := 0) (ds := 0) rfl ⟨0, [.int l3, .int (8 : Int32)], _, [0, 1, 2, 3, 4, 5], .inl (some (.int z2)), (wX2_Night n_slots n_targets n_teams n_moon n_percents n_numbers n_seen n_odds), 0, 0, rfl, rfl, Nat.le_of_ble_eq_true rfl, rfl, ⟨l3, (8 : Int32), n_slots, n_targets, n_teams, n_moon, n_percents, n_numbers, n_seen, n_odds, z2, rfl, rfl, hz2, rfl⟩, rfl⟩ ?_
            refine Rn.go 3 (pc' := 36) (lv' := [(0, .ref 0), (1, .int l1), (2, .int l2), (3, .int l3)]) (st' := [.int (8 : Int32), .int l2, .ref 0, .int z2]) (es' := (wX2_Night n_slots n_targets n_teams n_moon n_percents n_numbers n_seen n_odds)) (c' := c) (s' := s) rfl ?_
            obtain ⟨z3, hz3, hp⟩ := ob_some hp
            refine Rn.rel (pc' := 39) (lv' := [(0, .ref 0), (1, .int l1), (2, .int l2), (3, .int l3)]) (st' := [.int z3, .int z2]) (es' := (wX2_Night n_slots n_targets n_teams n_moon n_percents n_numbers n_seen n_odds)) (dc := 0) (ds := 0) rfl ⟨0, [.int l2, .int (8 : Int32)], _, [0, 1, 2, 3, 4, 5], .inl (some (.int z3)), (wX2_Night n_slots n_targets n_teams n_moon n_percents n_numbers n_seen n_odds), 0, 0, rfl, rfl, Nat.le_of_ble_eq_true rfl, rfl, ⟨l2, (8 : Int32), n_slots, n_targets, n_teams, n_moon, n_percents, n_numbers, n_seen, n_odds, z3, rfl, rfl, hz3, rfl⟩, rfl⟩ ?_
            refine Rn.br (P := z2 ≤ z3) (pc1 := 44) (pc2 := 42) rfl rfl (fun h4 => ?_) (fun h4 => ?_)
            · rw [if_pos h4] at hp
              refine Rn.go 2 (pc' := 4) (lv' := [(0, .ref 0), (1, .int l1), (2, .int l2), (3, .int (l3 + (1 : Int32)))]) (st' := []) (es' := (wX2_Night n_slots n_targets n_teams n_moon n_percents n_numbers n_seen n_odds)) (c' := c) (s' := s) rfl ?_
              exact ih l2 (l3 + (1 : Int32)) z hp c s r k
            · rw [if_neg h4] at hp
              refine Rn.go 4 (pc' := 4) (lv' := [(0, .ref 0), (1, .int l1), (2, .int l3), (3, .int (l3 + (1 : Int32)))]) (st' := []) (es' := (wX2_Night n_slots n_targets n_teams n_moon n_percents n_numbers n_seen n_odds)) (c' := c) (s' := s) rfl ?_
              exact ih l3 (l3 + (1 : Int32)) z hp c s r k
set_option maxRecDepth 100000 in
set_option maxHeartbeats 4000000 in
theorem oX2_dearest : Of (lkp bX2_dearest) 4 rX2_dearest := by
  intro avs es r h
  obtain ⟨x1, n_slots, n_targets, n_teams, n_moon, n_percents, n_numbers, n_seen, n_odds, z, rfl, rfl, hp, rfl⟩ := h
  refine ⟨Nat.le_of_ble_eq_true rfl, ?_⟩
  unfold pX2_dearest at hp
  refine Rn.go 4 (pc' := 4) (lv' := [(0, .ref 0), (1, .int x1), (2, .int (-1 : Int32)), (3, .int (0 : Int32))]) (st' := []) (es' := (wX2_Night n_slots n_targets n_teams n_moon n_percents n_numbers n_seen n_odds)) (c' := 0) (s' := 0) rfl ?_
  obtain ⟨z4, hz4, hp⟩ := ob_some hp
  refine lrX2_dearest_4 x1 n_slots n_targets n_teams n_moon n_percents n_numbers n_seen n_odds _ (-1 : Int32) (0 : Int32) z4 hz4 _ _ _ ?_
  refine Rn.go 1 (pc' := 51) (lv' := [(0, .ref 0), (1, .int x1), (2, .int z4.1), (3, .int z4.2)]) (st' := [.int z4.1]) (es' := (wX2_Night n_slots n_targets n_teams n_moon n_percents n_numbers n_seen n_odds)) (c' := 0) (s' := 0) rfl ?_
  obtain rfl := Option.some.inj hp
  exact Rn.fin rfl rfl rfl
theorem qX2_dearest : CtA yX2_dearest (.code yX2_dearest cX2_dearest 4 (some .int)) 1 23 [] rX2_dearest := CtA.of (by decide +kernel) (fun pc op h => kX2_dearest _ (lkp_mem h)) oX2_dearest
