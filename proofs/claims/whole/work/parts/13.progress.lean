/-! TelescopeNight$Progress.<init>()V -/
def pX5_init  : Option (Nat × Nat) :=
  some (2, 24)
def rX5_init : List Value → List va_E → op_O → Prop := fun avs es r => ∃  (z : Nat × Nat), avs = [.ref 0] ∧ es = [kO 5 [.int 0, .int 0, .int 0, .int 0, .int 0, .null, .null]] ∧ pX5_init = some z ∧ r = (.inl none, [kO 5 [.int 0, .int 0, .int 0, .int 0, .int 0, .ref 1, .ref 2], kI 12 (fun _ => 0), kI 12 (fun _ => 0)], z.1, z.2)
def bX5_init : List (Nat × (op_T ⊕ op_R)) := [(0, .inl (o_aload 1 0)), (1, .inl (o_objInit 4)), (4, .inl (o_aload 5 0)), (5, .inl (o_push 7 (.int (12)))), (7, .inl (o_newa 9 0)), (9, .inl (o_put 12 5 5 (.array .int))), (12, .inl (o_aload 13 0)), (13, .inl (o_push 15 (.int (12)))), (15, .inl (o_newa 17 0)), (17, .inl (o_put 20 5 6 (.array .int))), (20, .inl (o_vret))]
set_option maxRecDepth 100000 in
set_option maxHeartbeats 4000000 in
theorem kX5_init : ∀ q ∈ bX5_init, ok2 1 20 1 cX5_init yX5_init.cls yX5_init.name none (.code yX5_init cX5_init 1 none) [] [] q.1 q.2 := (al_c (s_aload_n (k := 0) (by decide +kernel)) (al_c (s_objInit w_129 w_31 w_32 (by decide) (by decide) (by decide +kernel)) (al_c (s_aload_n (k := 0) (by decide +kernel)) (al_c (s_bipush (n := 12) (12) (by decide) (by decide +kernel)) (al_c (s_newa (at9 := .int) (Or.inl ⟨rfl, rfl⟩) w_123 (by decide +kernel)) (al_c (s_putF (C9 := RX5) (T9 := TX5) (N9 := 7) (ci := 5) (k := 5) iX5 rfl (by decide) w_150 tyX5 tyX5_ok nmX5 rfl rfl rfl (by decide +kernel)) (al_c (s_aload_n (k := 0) (by decide +kernel)) (al_c (s_bipush (n := 12) (12) (by decide) (by decide +kernel)) (al_c (s_newa (at9 := .int) (Or.inl ⟨rfl, rfl⟩) w_123 (by decide +kernel)) (al_c (s_putF (C9 := RX5) (T9 := TX5) (N9 := 7) (ci := 5) (k := 6) iX5 rfl (by decide) w_152 tyX5 tyX5_ok nmX5 rfl rfl rfl (by decide +kernel)) (al_c (s_vret rfl (by decide +kernel)) al_n)))))))))))
set_option maxRecDepth 100000 in
set_option maxHeartbeats 4000000 in
theorem oX5_init : Of (lkp bX5_init) 1 rX5_init := by
  intro avs es r h
  obtain ⟨z, rfl, rfl, hp, rfl⟩ := h
  refine ⟨Nat.le_of_ble_eq_true rfl, ?_⟩
  unfold pX5_init at hp
  refine Rn.go 5 (pc' := 9) (lv' := [(0, .ref 0)]) (st' := [.ref 1, .ref 0]) (es' := [kO 5 [.int 0, .int 0, .int 0, .int 0, .int 0, .null, .null], kI 12 (fun _ => 0)]) (c' := 1) (s' := 12) rfl ?_
  refine Rn.go 4 (pc' := 17) (lv' := [(0, .ref 0)]) (st' := [.ref 2, .ref 0]) (es' := [kO 5 [.int 0, .int 0, .int 0, .int 0, .int 0, .ref 1, .null], kI 12 (fun _ => 0), kI 12 (fun _ => 0)]) (c' := 2) (s' := 24) rfl ?_
  refine Rn.go 1 (pc' := 20) (lv' := [(0, .ref 0)]) (st' := []) (es' := [kO 5 [.int 0, .int 0, .int 0, .int 0, .int 0, .ref 1, .ref 2], kI 12 (fun _ => 0), kI 12 (fun _ => 0)]) (c' := 2) (s' := 24) rfl ?_
  obtain rfl := Option.some.inj hp
  exact Rn.fin rfl rfl rfl
theorem qX5_init : CtA yX5_init (.code yX5_init cX5_init 1 none) 1 20 [] rX5_init := CtA.of (by decide +kernel) (fun pc op h => kX5_init _ (lkp_mem h)) oX5_init
/-! TelescopeNight$Progress.begin()V -/
def pX5_begin  : Option (Unit) :=
  some ()
def rX5_begin : List Value → List va_E → op_O → Prop := fun avs es r => ∃ (g_present : Int32) (g_sky : Int32) (g_points : Int32) (g_waived : Int32) (g_made : Int32) (g_pastTargets : Nat → Int32) (g_pastSkies : Nat → Int32) (z : Unit), avs = [.ref 0] ∧ es = (wX5_Progress g_present g_sky g_points g_waived g_made g_pastTargets g_pastSkies) ∧ pX5_begin = some z ∧ r = (.inl none, (wX5_Progress (0 : Int32) (0 : Int32) (0 : Int32) (0 : Int32) (0 : Int32) g_pastTargets g_pastSkies), 0, 0)
def bX5_begin : List (Nat × (op_T ⊕ op_R)) := [(0, .inl (o_aload 1 0)), (1, .inl (o_push 2 (.int (0)))), (2, .inl (o_put 5 5 0 .int)), (5, .inl (o_aload 6 0)), (6, .inl (o_push 7 (.int (0)))), (7, .inl (o_put 10 5 1 .int)), (10, .inl (o_aload 11 0)), (11, .inl (o_push 12 (.int (0)))), (12, .inl (o_put 15 5 2 .int)), (15, .inl (o_aload 16 0)), (16, .inl (o_push 17 (.int (0)))), (17, .inl (o_put 20 5 3 .int)), (20, .inl (o_aload 21 0)), (21, .inl (o_push 22 (.int (0)))), (22, .inl (o_put 25 5 4 .int)), (25, .inl (o_vret))]
set_option maxRecDepth 100000 in
set_option maxHeartbeats 4000000 in
theorem kX5_begin : ∀ q ∈ bX5_begin, ok2 0 0 1 cX5_begin yX5_begin.cls yX5_begin.name none (.code yX5_begin cX5_begin 1 none) [] [] q.1 q.2 := (al_c (s_aload_n (k := 0) (by decide +kernel)) (al_c (s_iconst (n := 0) (0) (by decide) (by decide +kernel)) (al_c (s_put (C9 := RX5) (T9 := TX5) (N9 := 7) (ci := 5) (k := 0) iX5 rfl (by decide) w_130 tyX5 tyX5_ok nmX5 rfl (by decide +kernel)) (al_c (s_aload_n (k := 0) (by decide +kernel)) (al_c (s_iconst (n := 0) (0) (by decide) (by decide +kernel)) (al_c (s_put (C9 := RX5) (T9 := TX5) (N9 := 7) (ci := 5) (k := 1) iX5 rfl (by decide) w_135 tyX5 tyX5_ok nmX5 rfl (by decide +kernel)) (al_c (s_aload_n (k := 0) (by decide +kernel)) (al_c (s_iconst (n := 0) (0) (by decide) (by decide +kernel)) (al_c (s_put (C9 := RX5) (T9 := TX5) (N9 := 7) (ci := 5) (k := 2) iX5 rfl (by decide) w_139 tyX5 tyX5_ok nmX5 rfl (by decide +kernel)) (al_c (s_aload_n (k := 0) (by decide +kernel)) (al_c (s_iconst (n := 0) (0) (by decide) (by decide +kernel)) (al_c (s_put (C9 := RX5) (T9 := TX5) (N9 := 7) (ci := 5) (k := 3) iX5 rfl (by decide) w_141 tyX5 tyX5_ok nmX5 rfl (by decide +kernel)) (al_c (s_aload_n (k := 0) (by decide +kernel)) (al_c (s_iconst (n := 0) (0) (by decide) (by decide +kernel)) (al_c (s_put (C9 := RX5) (T9 := TX5) (N9 := 7) (ci := 5) (k := 4) iX5 rfl (by decide) w_145 tyX5 tyX5_ok nmX5 rfl (by decide +kernel)) (al_c (s_vret rfl (by decide +kernel)) al_n))))))))))))))))
set_option maxRecDepth 100000 in
set_option maxHeartbeats 4000000 in
theorem oX5_begin : Of (lkp bX5_begin) 1 rX5_begin := by
  intro avs es r h
  obtain ⟨g_present, g_sky, g_points, g_waived, g_made, g_pastTargets, g_pastSkies, z, rfl, rfl, hp, rfl⟩ := h
  refine ⟨Nat.le_of_ble_eq_true rfl, ?_⟩
  unfold pX5_begin at hp
  refine Rn.go 15 (pc' := 25) (lv' := [(0, .ref 0)]) (st' := []) (es' := (wX5_Progress (0 : Int32) (0 : Int32) (0 : Int32) (0 : Int32) (0 : Int32) g_pastTargets g_pastSkies)) (c' := 0) (s' := 0) rfl ?_
  obtain rfl := Option.some.inj hp
  exact Rn.fin rfl rfl rfl
theorem qX5_begin : CtA yX5_begin (.code yX5_begin cX5_begin 1 none) 0 0 [] rX5_begin := CtA.of (by decide +kernel) (fun pc op h => kX5_begin _ (lkp_mem h)) oX5_begin
/-! TelescopeNight$Progress.copyFrom(LTelescopeNight$Progress;)V -/
def pX5_copyFrom (g_pastTargets : Nat → Int32) (g_pastSkies : Nat → Int32) (g2_present : Int32) (g2_sky : Int32) (g2_points : Int32) (g2_waived : Int32) (g2_made : Int32) (g2_pastTargets : Nat → Int32) (g2_pastSkies : Nat → Int32) : Option (Int32 × Int32 × Int32 × Int32 × Int32 × (Nat → Int32) × (Nat → Int32)) :=
  some (g2_present, g2_sky, g2_points, g2_waived, g2_made, (va_cpy g2_pastTargets g_pastTargets 0 0 12), (va_cpy g2_pastSkies g_pastSkies 0 0 12))
def rX5_copyFrom : List Value → List va_E → op_O → Prop := fun avs es r => ∃ (g_present : Int32) (g_sky : Int32) (g_points : Int32) (g_waived : Int32) (g_made : Int32) (g_pastTargets : Nat → Int32) (g_pastSkies : Nat → Int32) (g2_present : Int32) (g2_sky : Int32) (g2_points : Int32) (g2_waived : Int32) (g2_made : Int32) (g2_pastTargets : Nat → Int32) (g2_pastSkies : Nat → Int32) (z : Int32 × Int32 × Int32 × Int32 × Int32 × (Nat → Int32) × (Nat → Int32)), avs = [.ref 0, .ref 3] ∧ es = (wX5_copyFrom g_present g_sky g_points g_waived g_made g_pastTargets g_pastSkies g2_present g2_sky g2_points g2_waived g2_made g2_pastTargets g2_pastSkies) ∧ pX5_copyFrom g_pastTargets g_pastSkies g2_present g2_sky g2_points g2_waived g2_made g2_pastTargets g2_pastSkies = some z ∧ r = (.inl none, (wX5_copyFrom z.1 z.2.1 z.2.2.1 z.2.2.2.1 z.2.2.2.2.1 z.2.2.2.2.2.1 z.2.2.2.2.2.2 g2_present g2_sky g2_points g2_waived g2_made g2_pastTargets g2_pastSkies), 0, 0)
def bX5_copyFrom : List (Nat × (op_T ⊕ op_R)) := [(0, .inl (o_aload 1 0)), (1, .inl (o_aload 2 1)), (2, .inl (o_get 5 5 0)), (5, .inl (o_put 8 5 0 .int)), (8, .inl (o_aload 9 0)), (9, .inl (o_aload 10 1)), (10, .inl (o_get 13 5 1)), (13, .inl (o_put 16 5 1 .int)), (16, .inl (o_aload 17 0)), (17, .inl (o_aload 18 1)), (18, .inl (o_get 21 5 2)), (21, .inl (o_put 24 5 2 .int)), (24, .inl (o_aload 25 0)), (25, .inl (o_aload 26 1)), (26, .inl (o_get 29 5 3)), (29, .inl (o_put 32 5 3 .int)), (32, .inl (o_aload 33 0)), (33, .inl (o_aload 34 1)), (34, .inl (o_get 37 5 4)), (37, .inl (o_put 40 5 4 .int)), (40, .inl (o_aload 41 1)), (41, .inl (o_get 44 5 5)), (44, .inl (o_push 45 (.int (0)))), (45, .inl (o_aload 46 0)), (46, .inl (o_get 49 5 5)), (49, .inl (o_push 50 (.int (0)))), (50, .inl (o_push 52 (.int (12)))), (52, .inl (o_copy 55)), (55, .inl (o_aload 56 1)), (56, .inl (o_get 59 5 6)), (59, .inl (o_push 60 (.int (0)))), (60, .inl (o_aload 61 0)), (61, .inl (o_get 64 5 6)), (64, .inl (o_push 65 (.int (0)))), (65, .inl (o_push 67 (.int (12)))), (67, .inl (o_copy 70)), (70, .inl (o_vret))]
set_option maxRecDepth 100000 in
set_option maxHeartbeats 4000000 in
theorem kX5_copyFrom : ∀ q ∈ bX5_copyFrom, ok2 1 60 2 cX5_copyFrom yX5_copyFrom.cls yX5_copyFrom.name none (.code yX5_copyFrom cX5_copyFrom 2 none) [] [] q.1 q.2 := (al_c (s_aload_n (k := 0) (by decide +kernel)) (al_c (s_aload_n (k := 1) (by decide +kernel)) (al_c (s_get (C9 := RX5) (T9 := TX5) (N9 := 7) (ci := 5) (k := 0) iX5 rfl (by decide) w_130 (by decide +kernel)) (al_c (s_put (C9 := RX5) (T9 := TX5) (N9 := 7) (ci := 5) (k := 0) iX5 rfl (by decide) w_130 tyX5 tyX5_ok nmX5 rfl (by decide +kernel)) (al_c (s_aload_n (k := 0) (by decide +kernel)) (al_c (s_aload_n (k := 1) (by decide +kernel)) (al_c (s_get (C9 := RX5) (T9 := TX5) (N9 := 7) (ci := 5) (k := 1) iX5 rfl (by decide) w_135 (by decide +kernel)) (al_c (s_put (C9 := RX5) (T9 := TX5) (N9 := 7) (ci := 5) (k := 1) iX5 rfl (by decide) w_135 tyX5 tyX5_ok nmX5 rfl (by decide +kernel)) (al_c (s_aload_n (k := 0) (by decide +kernel)) (al_c (s_aload_n (k := 1) (by decide +kernel)) (al_c (s_get (C9 := RX5) (T9 := TX5) (N9 := 7) (ci := 5) (k := 2) iX5 rfl (by decide) w_139 (by decide +kernel)) (al_c (s_put (C9 := RX5) (T9 := TX5) (N9 := 7) (ci := 5) (k := 2) iX5 rfl (by decide) w_139 tyX5 tyX5_ok nmX5 rfl (by decide +kernel)) (al_c (s_aload_n (k := 0) (by decide +kernel)) (al_c (s_aload_n (k := 1) (by decide +kernel)) (al_c (s_get (C9 := RX5) (T9 := TX5) (N9 := 7) (ci := 5) (k := 3) iX5 rfl (by decide) w_141 (by decide +kernel)) (al_c (s_put (C9 := RX5) (T9 := TX5) (N9 := 7) (ci := 5) (k := 3) iX5 rfl (by decide) w_141 tyX5 tyX5_ok nmX5 rfl (by decide +kernel)) (al_c (s_aload_n (k := 0) (by decide +kernel)) (al_c (s_aload_n (k := 1) (by decide +kernel)) (al_c (s_get (C9 := RX5) (T9 := TX5) (N9 := 7) (ci := 5) (k := 4) iX5 rfl (by decide) w_145 (by decide +kernel)) (al_c (s_put (C9 := RX5) (T9 := TX5) (N9 := 7) (ci := 5) (k := 4) iX5 rfl (by decide) w_145 tyX5 tyX5_ok nmX5 rfl (by decide +kernel)) (al_c (s_aload_n (k := 1) (by decide +kernel)) (al_c (s_get (C9 := RX5) (T9 := TX5) (N9 := 7) (ci := 5) (k := 5) iX5 rfl (by decide) w_150 (by decide +kernel)) (al_c (s_iconst (n := 0) (0) (by decide) (by decide +kernel)) (al_c (s_aload_n (k := 0) (by decide +kernel)) (al_c (s_get (C9 := RX5) (T9 := TX5) (N9 := 7) (ci := 5) (k := 5) iX5 rfl (by decide) w_150 (by decide +kernel)) (al_c (s_iconst (n := 0) (0) (by decide) (by decide +kernel)) (al_c (s_bipush (n := 12) (12) (by decide) (by decide +kernel)) (al_c (s_copy w_432 w_427 w_426 w_22 (by decide) (by decide +kernel) (by decide +kernel)) (al_c (s_aload_n (k := 1) (by decide +kernel)) (al_c (s_get (C9 := RX5) (T9 := TX5) (N9 := 7) (ci := 5) (k := 6) iX5 rfl (by decide) w_152 (by decide +kernel)) (al_c (s_iconst (n := 0) (0) (by decide) (by decide +kernel)) (al_c (s_aload_n (k := 0) (by decide +kernel)) (al_c (s_get (C9 := RX5) (T9 := TX5) (N9 := 7) (ci := 5) (k := 6) iX5 rfl (by decide) w_152 (by decide +kernel)) (al_c (s_iconst (n := 0) (0) (by decide) (by decide +kernel)) (al_c (s_bipush (n := 12) (12) (by decide) (by decide +kernel)) (al_c (s_copy w_432 w_427 w_426 w_22 (by decide) (by decide +kernel) (by decide +kernel)) (al_c (s_vret rfl (by decide +kernel)) al_n)))))))))))))))))))))))))))))))))))))
set_option maxRecDepth 100000 in
set_option maxHeartbeats 4000000 in
theorem oX5_copyFrom : Of (lkp bX5_copyFrom) 2 rX5_copyFrom := by
  intro avs es r h
  obtain ⟨g_present, g_sky, g_points, g_waived, g_made, g_pastTargets, g_pastSkies, g2_present, g2_sky, g2_points, g2_waived, g2_made, g2_pastTargets, g2_pastSkies, z, rfl, rfl, hp, rfl⟩ := h
  refine ⟨Nat.le_of_ble_eq_true rfl, ?_⟩
  unfold pX5_copyFrom at hp
  refine Rn.go 28 (pc' := 55) (lv' := [(0, .ref 0), (1, .ref 3)]) (st' := []) (es' := (wX5_copyFrom g2_present g2_sky g2_points g2_waived g2_made (va_cpy g2_pastTargets g_pastTargets 0 0 12) g_pastSkies g2_present g2_sky g2_points g2_waived g2_made g2_pastTargets g2_pastSkies)) (c' := 0) (s' := 0) rfl ?_
  refine Rn.go 8 (pc' := 70) (lv' := [(0, .ref 0), (1, .ref 3)]) (st' := []) (es' := (wX5_copyFrom g2_present g2_sky g2_points g2_waived g2_made (va_cpy g2_pastTargets g_pastTargets 0 0 12) (va_cpy g2_pastSkies g_pastSkies 0 0 12) g2_present g2_sky g2_points g2_waived g2_made g2_pastTargets g2_pastSkies)) (c' := 0) (s' := 0) rfl ?_
  obtain rfl := Option.some.inj hp
  exact Rn.fin rfl rfl rfl
theorem qX5_copyFrom : CtA yX5_copyFrom (.code yX5_copyFrom cX5_copyFrom 2 none) 1 60 [] rX5_copyFrom := CtA.of (by decide +kernel) (fun pc op h => kX5_copyFrom _ (lkp_mem h)) oX5_copyFrom
/-! TelescopeNight$Progress.moveOn(I)V -/
def pX5_moveOn (x1 : Int32) (g_present : Int32) (g_sky : Int32) (g_pastTargets : Nat → Int32) (g_pastSkies : Nat → Int32) : Option (Int32 × (Nat → Int32) × (Nat → Int32)) :=
  if (12 : Int32) ≤ g_present then
    some (g_present, g_pastTargets, g_pastSkies)
  else
    if (g_present < 0 ∨ 12 ≤ g_present.toNatClampNeg) then none else
    some ((g_present + (1 : Int32)), (upd g_pastTargets g_present.toNatClampNeg x1), (upd g_pastSkies g_present.toNatClampNeg g_sky))
def rX5_moveOn : List Value → List va_E → op_O → Prop := fun avs es r => ∃ (x1 : Int32) (g_present : Int32) (g_sky : Int32) (g_points : Int32) (g_waived : Int32) (g_made : Int32) (g_pastTargets : Nat → Int32) (g_pastSkies : Nat → Int32) (z : Int32 × (Nat → Int32) × (Nat → Int32)), avs = [.ref 0, .int x1] ∧ es = (wX5_Progress g_present g_sky g_points g_waived g_made g_pastTargets g_pastSkies) ∧ pX5_moveOn x1 g_present g_sky g_pastTargets g_pastSkies = some z ∧ r = (.inl none, (wX5_Progress z.1 (0 : Int32) g_points g_waived g_made z.2.1 z.2.2), 0, 0)
def bX5_moveOn : List (Nat × (op_T ⊕ op_R)) := [(0, .inl (o_aload 1 0)), (1, .inl (o_get 4 5 0)), (4, .inl (o_push 6 (.int (12)))), (6, .inl (o_icmpge 9 42)), (9, .inl (o_aload 10 0)), (10, .inl (o_get 13 5 5)), (13, .inl (o_aload 14 0)), (14, .inl (o_get 17 5 0)), (17, .inl (o_iload 18 1)), (18, .inl (o_iast 19)), (19, .inl (o_aload 20 0)), (20, .inl (o_get 23 5 6)), (23, .inl (o_aload 24 0)), (24, .inl (o_get 27 5 0)), (27, .inl (o_aload 28 0)), (28, .inl (o_get 31 5 1)), (31, .inl (o_iast 32)), (32, .inl (o_aload 33 0)), (33, .inl (o_dup 34)), (34, .inl (o_get 37 5 0)), (37, .inl (o_push 38 (.int (1)))), (38, .inl (o_ii 39 (fun x y => x + y))), (39, .inl (o_put 42 5 0 .int)), (42, .inl (o_aload 43 0)), (43, .inl (o_push 44 (.int (0)))), (44, .inl (o_put 47 5 1 .int)), (47, .inl (o_vret))]
set_option maxRecDepth 100000 in
set_option maxHeartbeats 4000000 in
theorem kX5_moveOn : ∀ q ∈ bX5_moveOn, ok2 0 0 2 cX5_moveOn yX5_moveOn.cls yX5_moveOn.name none (.code yX5_moveOn cX5_moveOn 2 none) [] [] q.1 q.2 := (al_c (s_aload_n (k := 0) (by decide +kernel)) (al_c (s_get (C9 := RX5) (T9 := TX5) (N9 := 7) (ci := 5) (k := 0) iX5 rfl (by decide) w_130 (by decide +kernel)) (al_c (s_bipush (n := 12) (12) (by decide) (by decide +kernel)) (al_c (s_icmpge (off := 36) 42 (by decide) (by decide +kernel)) (al_c (s_aload_n (k := 0) (by decide +kernel)) (al_c (s_get (C9 := RX5) (T9 := TX5) (N9 := 7) (ci := 5) (k := 5) iX5 rfl (by decide) w_150 (by decide +kernel)) (al_c (s_aload_n (k := 0) (by decide +kernel)) (al_c (s_get (C9 := RX5) (T9 := TX5) (N9 := 7) (ci := 5) (k := 0) iX5 rfl (by decide) w_130 (by decide +kernel)) (al_c (s_iload_n (k := 1) (by decide +kernel)) (al_c (s_iast (by decide +kernel)) (al_c (s_aload_n (k := 0) (by decide +kernel)) (al_c (s_get (C9 := RX5) (T9 := TX5) (N9 := 7) (ci := 5) (k := 6) iX5 rfl (by decide) w_152 (by decide +kernel)) (al_c (s_aload_n (k := 0) (by decide +kernel)) (al_c (s_get (C9 := RX5) (T9 := TX5) (N9 := 7) (ci := 5) (k := 0) iX5 rfl (by decide) w_130 (by decide +kernel)) (al_c (s_aload_n (k := 0) (by decide +kernel)) (al_c (s_get (C9 := RX5) (T9 := TX5) (N9 := 7) (ci := 5) (k := 1) iX5 rfl (by decide) w_135 (by decide +kernel)) (al_c (s_iast (by decide +kernel)) (al_c (s_aload_n (k := 0) (by decide +kernel)) (al_c (s_dup (by decide +kernel)) (al_c (s_get (C9 := RX5) (T9 := TX5) (N9 := 7) (ci := 5) (k := 0) iX5 rfl (by decide) w_130 (by decide +kernel)) (al_c (s_iconst (n := 1) (1) (by decide) (by decide +kernel)) (al_c (s_iadd (by decide +kernel)) (al_c (s_put (C9 := RX5) (T9 := TX5) (N9 := 7) (ci := 5) (k := 0) iX5 rfl (by decide) w_130 tyX5 tyX5_ok nmX5 rfl (by decide +kernel)) (al_c (s_aload_n (k := 0) (by decide +kernel)) (al_c (s_iconst (n := 0) (0) (by decide) (by decide +kernel)) (al_c (s_put (C9 := RX5) (T9 := TX5) (N9 := 7) (ci := 5) (k := 1) iX5 rfl (by decide) w_135 tyX5 tyX5_ok nmX5 rfl (by decide +kernel)) (al_c (s_vret rfl (by decide +kernel)) al_n)))))))))))))))))))))))))))
set_option maxRecDepth 100000 in
set_option maxHeartbeats 4000000 in
theorem oX5_moveOn : Of (lkp bX5_moveOn) 2 rX5_moveOn := by
  intro avs es r h
  obtain ⟨x1, g_present, g_sky, g_points, g_waived, g_made, g_pastTargets, g_pastSkies, z, rfl, rfl, hp, rfl⟩ := h
  refine ⟨Nat.le_of_ble_eq_true rfl, ?_⟩
  unfold pX5_moveOn at hp
  refine Rn.go 3 (pc' := 6) (lv' := [(0, .ref 0), (1, .int x1)]) (st' := [.int (12 : Int32), .int g_present]) (es' := (wX5_Progress g_present g_sky g_points g_waived g_made g_pastTargets g_pastSkies)) (c' := 0) (s' := 0) rfl ?_
  refine Rn.br (P := (12 : Int32) ≤ g_present) (pc1 := 42) (pc2 := 9) rfl rfl (fun h1 => ?_) (fun h1 => ?_)
  · rw [if_pos h1] at hp
    refine Rn.go 3 (pc' := 47) (lv' := [(0, .ref 0), (1, .int x1)]) (st' := []) (es' := (wX5_Progress g_present (0 : Int32) g_points g_waived g_made g_pastTargets g_pastSkies)) (c' := 0) (s' := 0) rfl ?_
    obtain rfl := Option.some.inj hp
    exact Rn.fin rfl rfl rfl
  · rw [if_neg h1] at hp
    refine Rn.go 5 (pc' := 18) (lv' := [(0, .ref 0), (1, .int x1)]) (st' := [.int x1, .int g_present, .ref 1]) (es' := (wX5_Progress g_present g_sky g_points g_waived g_made g_pastTargets g_pastSkies)) (c' := 0) (s' := 0) rfl ?_
    by_cases h2 : (g_present < 0 ∨ 12 ≤ g_present.toNatClampNeg)
    · rw [if_pos h2] at hp; cases hp
    · rw [if_neg h2] at hp
      refine Rn.gd (pc' := 19) (lv' := [(0, .ref 0), (1, .int x1)]) (st' := []) (es' := (wX5_Progress g_present g_sky g_points g_waived g_made (upd g_pastTargets g_present.toNatClampNeg x1) g_pastSkies)) rfl rfl h2 ?_
      refine Rn.go 6 (pc' := 31) (lv' := [(0, .ref 0), (1, .int x1)]) (st' := [.int g_sky, .int g_present, .ref 2]) (es' := (wX5_Progress g_present g_sky g_points g_waived g_made (upd g_pastTargets g_present.toNatClampNeg x1) g_pastSkies)) (c' := 0) (s' := 0) rfl ?_
      refine Rn.gd (pc' := 32) (lv' := [(0, .ref 0), (1, .int x1)]) (st' := []) (es' := (wX5_Progress g_present g_sky g_points g_waived g_made (upd g_pastTargets g_present.toNatClampNeg x1) (upd g_pastSkies g_present.toNatClampNeg g_sky))) rfl rfl h2 ?_
      refine Rn.go 9 (pc' := 47) (lv' := [(0, .ref 0), (1, .int x1)]) (st' := []) (es' := (wX5_Progress (g_present + (1 : Int32)) (0 : Int32) g_points g_waived g_made (upd g_pastTargets g_present.toNatClampNeg x1) (upd g_pastSkies g_present.toNatClampNeg g_sky))) (c' := 0) (s' := 0) rfl ?_
      obtain rfl := Option.some.inj hp
      exact Rn.fin rfl rfl rfl
theorem qX5_moveOn : CtA yX5_moveOn (.code yX5_moveOn cX5_moveOn 2 none) 0 0 [] rX5_moveOn := CtA.of (by decide +kernel) (fun pc op h => kX5_moveOn _ (lkp_mem h)) oX5_moveOn
/-! TelescopeNight$Progress.skyBefore()I -/
def pX5_skyBefore (g_present : Int32) (g_pastSkies : Nat → Int32) : Option (Int32) :=
  if g_present ≤ 0 then
    some (0 : Int32)
  else
    if ((g_present - (1 : Int32)) < 0 ∨ 12 ≤ ((g_present - (1 : Int32))).toNatClampNeg) then none else
    some (g_pastSkies ((g_present - (1 : Int32))).toNatClampNeg)
def rX5_skyBefore : List Value → List va_E → op_O → Prop := fun avs es r => ∃ (g_present : Int32) (g_sky : Int32) (g_points : Int32) (g_waived : Int32) (g_made : Int32) (g_pastTargets : Nat → Int32) (g_pastSkies : Nat → Int32) (z : Int32), avs = [.ref 0] ∧ es = (wX5_Progress g_present g_sky g_points g_waived g_made g_pastTargets g_pastSkies) ∧ pX5_skyBefore g_present g_pastSkies = some z ∧ r = (.inl (some (.int z)), (wX5_Progress g_present g_sky g_points g_waived g_made g_pastTargets g_pastSkies), 0, 0)
def bX5_skyBefore : List (Nat × (op_T ⊕ op_R)) := [(0, .inl (o_aload 1 0)), (1, .inl (o_get 4 5 0)), (4, .inl (o_ifle 7 21)), (7, .inl (o_aload 8 0)), (8, .inl (o_get 11 5 6)), (11, .inl (o_aload 12 0)), (12, .inl (o_get 15 5 0)), (15, .inl (o_push 16 (.int (1)))), (16, .inl (o_ii 17 (fun x y => x - y))), (17, .inl (o_iald 18)), (18, .inl (o_goto 22)), (21, .inl (o_push 22 (.int (0)))), (22, .inl (o_iret))]
set_option maxRecDepth 100000 in
set_option maxHeartbeats 4000000 in
theorem kX5_skyBefore : ∀ q ∈ bX5_skyBefore, ok2 0 0 1 cX5_skyBefore yX5_skyBefore.cls yX5_skyBefore.name (some .int) (.code yX5_skyBefore cX5_skyBefore 1 (some .int)) [] [] q.1 q.2 := (al_c (s_aload_n (k := 0) (by decide +kernel)) (al_c (s_get (C9 := RX5) (T9 := TX5) (N9 := 7) (ci := 5) (k := 0) iX5 rfl (by decide) w_130 (by decide +kernel)) (al_c (s_ifle (off := 17) 21 (by decide) (by decide +kernel)) (al_c (s_aload_n (k := 0) (by decide +kernel)) (al_c (s_get (C9 := RX5) (T9 := TX5) (N9 := 7) (ci := 5) (k := 6) iX5 rfl (by decide) w_152 (by decide +kernel)) (al_c (s_aload_n (k := 0) (by decide +kernel)) (al_c (s_get (C9 := RX5) (T9 := TX5) (N9 := 7) (ci := 5) (k := 0) iX5 rfl (by decide) w_130 (by decide +kernel)) (al_c (s_iconst (n := 1) (1) (by decide) (by decide +kernel)) (al_c (s_isub (by decide +kernel)) (al_c (s_iald (by decide +kernel)) (al_c (s_goto (off := 4) 22 (by decide) (by decide +kernel)) (al_c (s_iconst (n := 0) (0) (by decide) (by decide +kernel)) (al_c (s_iret rfl (by decide +kernel)) al_n)))))))))))))
set_option maxRecDepth 100000 in
set_option maxHeartbeats 4000000 in
theorem oX5_skyBefore : Of (lkp bX5_skyBefore) 1 rX5_skyBefore := by
  intro avs es r h
  obtain ⟨g_present, g_sky, g_points, g_waived, g_made, g_pastTargets, g_pastSkies, z, rfl, rfl, hp, rfl⟩ := h
  refine ⟨Nat.le_of_ble_eq_true rfl, ?_⟩
  unfold pX5_skyBefore at hp
  refine Rn.go 2 (pc' := 4) (lv' := [(0, .ref 0)]) (st' := [.int g_present]) (es' := (wX5_Progress g_present g_sky g_points g_waived g_made g_pastTargets g_pastSkies)) (c' := 0) (s' := 0) rfl ?_
  refine Rn.br (P := g_present ≤ 0) (pc1 := 21) (pc2 := 7) rfl rfl (fun h1 => ?_) (fun h1 => ?_)
  · rw [if_pos h1] at hp
    refine Rn.go 1 (pc' := 22) (lv' := [(0, .ref 0)]) (st' := [.int (0 : Int32)]) (es' := (wX5_Progress g_present g_sky g_points g_waived g_made g_pastTargets g_pastSkies)) (c' := 0) (s' := 0) rfl ?_
    obtain rfl := Option.some.inj hp
    exact Rn.fin rfl rfl rfl
  · rw [if_neg h1] at hp
    refine Rn.go 6 (pc' := 17) (lv' := [(0, .ref 0)]) (st' := [.int (g_present - (1 : Int32)), .ref 2]) (es' := (wX5_Progress g_present g_sky g_points g_waived g_made g_pastTargets g_pastSkies)) (c' := 0) (s' := 0) rfl ?_
    by_cases h2 : ((g_present - (1 : Int32)) < 0 ∨ 12 ≤ ((g_present - (1 : Int32))).toNatClampNeg)
    · rw [if_pos h2] at hp; cases hp
    · rw [if_neg h2] at hp
      refine Rn.gd (pc' := 18) (lv' := [(0, .ref 0)]) (st' := [.int (g_pastSkies ((g_present - (1 : Int32))).toNatClampNeg)]) (es' := (wX5_Progress g_present g_sky g_points g_waived g_made g_pastTargets g_pastSkies)) rfl rfl h2 ?_
      refine Rn.go 1 (pc' := 22) (lv' := [(0, .ref 0)]) (st' := [.int (g_pastSkies ((g_present - (1 : Int32))).toNatClampNeg)]) (es' := (wX5_Progress g_present g_sky g_points g_waived g_made g_pastTargets g_pastSkies)) (c' := 0) (s' := 0) rfl ?_
      obtain rfl := Option.some.inj hp
      exact Rn.fin rfl rfl rfl
theorem qX5_skyBefore : CtA yX5_skyBefore (.code yX5_skyBefore cX5_skyBefore 1 (some .int)) 0 0 [] rX5_skyBefore := CtA.of (by decide +kernel) (fun pc op h => kX5_skyBefore _ (lkp_mem h)) oX5_skyBefore
