theorem qX1_init : CtA yX1_init (.code yX1_init cX1_init 2 none) 6 136 [] rX1_init := CtA.of (by decide +kernel) (fun pc op h => kX1_init _ (lkp_mem h)) oX1_init
/-! TelescopeNight$History.keep(LTelescopeNight$Night;LTelescopeNight$Progress;)V -/
def rX1_keep : List Value → List va_E → op_O → Prop := fun avs es r => ∃ (vhn : Int32) (vhs : Int32) (vhN : Nat → NiS) (vhP : Nat → PrS) (vn : NiS) (vg : PrS) (z : Int32 × Int32 × (Nat → NiS) × (Nat → PrS)), avs = [.ref 0, .ref 75, .ref 81] ∧ es = (wHK vhn vhs vhN vhP vn vg) ∧ pX1_keep vhn vhs vhN vhP vn vg = some z ∧ r = (.inl none, (wHK z.1 z.2.1 z.2.2.1 z.2.2.2 vn vg), 0, 0)
def bX1_keep : List (Nat × (op_T ⊕ op_R)) := [(0, .inl (o_aload 1 0)), (1, .inl (o_get 4 1 0)), (4, .inl (o_aload 5 0)), (5, .inl (o_get 8 1 2)), (8, .inl (o_aald 9)), (9, .inl (o_aload 10 1)), (10, .inr (o_callV [] [] 13 1 2 rX2_copyFrom)), (13, .inl (o_aload 14 0)), (14, .inl (o_get 17 1 1)), (17, .inl (o_aload 18 0)), (18, .inl (o_get 21 1 2)), (21, .inl (o_aald 22)), (22, .inl (o_aload 23 2)), (23, .inr (o_callV [] [] 26 1 5 rX5_copyFrom)), (26, .inl (o_aload 27 0)), (27, .inl (o_aload 28 0)), (28, .inl (o_get 31 1 2)), (31, .inl (o_push 32 (.int (1)))), (32, .inl (o_ii 33 (fun x y => x + y))), (33, .inl (o_push 35 (.int (8)))), (35, .inl (o_irem 36)), (36, .inl (o_put 39 1 2 .int)), (39, .inl (o_aload 40 0)), (40, .inl (o_aload 41 0)), (41, .inl (o_get 44 1 3)), (44, .inl (o_push 45 (.int (1)))), (45, .inl (o_ii 46 (fun x y => x + y))), (46, .inl (o_push 48 (.int (8)))), (48, .inl (o_min 51)), (51, .inl (o_put 54 1 3 .int)), (54, .inl (o_vret))]
set_option maxRecDepth 100000 in
set_option maxHeartbeats 4000000 in
theorem kX1_keep : ∀ q ∈ bX1_keep, ok2 2 81 3 cX1_keep yX1_keep.cls yX1_keep.name none (.code yX1_keep cX1_keep 3 none) [] [] q.1 q.2 := (al_c (s_aload_n (k := 0) (by decide +kernel)) (al_c (s_get (C9 := RX1) (T9 := TX1) (N9 := 4) (ci := 1) (k := 0) iX1 rfl (by decide) w_261 (by decide +kernel)) (al_c (s_aload_n (k := 0) (by decide +kernel)) (al_c (s_get (C9 := RX1) (T9 := TX1) (N9 := 4) (ci := 1) (k := 2) iX1 rfl (by decide) w_263 (by decide +kernel)) (al_c (s_aald (by decide +kernel)) (al_c (s_aload_n (k := 1) (by decide +kernel)) (al_c (s_callV (y := yX2_copyFrom) (bytes := cX2_copyFrom) (maxL := 2) (ret' := none) (fr' := 1) (lo' := 60) (n := 1) (ml := []) (mlc := []) (ci := 2) (q9 := (RX2, TX2, 8)) qX2_copyFrom w_421 w_422 w_423 w_2 w_424 ⟨by decide +kernel, by decide +kernel, by decide +kernel⟩ rfl rfl (by decide) (by decide) (by decide +kernel)) (al_c (s_aload_n (k := 0) (by decide +kernel)) (al_c (s_get (C9 := RX1) (T9 := TX1) (N9 := 4) (ci := 1) (k := 1) iX1 rfl (by decide) w_262 (by decide +kernel)) (al_c (s_aload_n (k := 0) (by decide +kernel)) (al_c (s_get (C9 := RX1) (T9 := TX1) (N9 := 4) (ci := 1) (k := 2) iX1 rfl (by decide) w_263 (by decide +kernel)) (al_c (s_aald (by decide +kernel)) (al_c (s_aload_n (k := 2) (by decide +kernel)) (al_c (s_callV (y := yX5_copyFrom) (bytes := cX5_copyFrom) (maxL := 2) (ret' := none) (fr' := 1) (lo' := 60) (n := 1) (ml := []) (mlc := []) (ci := 5) (q9 := (RX5, TX5, 7)) qX5_copyFrom w_428 w_429 w_430 w_5 w_431 ⟨by decide +kernel, by decide +kernel, by decide +kernel⟩ rfl rfl (by decide) (by decide) (by decide +kernel)) (al_c (s_aload_n (k := 0) (by decide +kernel)) (al_c (s_aload_n (k := 0) (by decide +kernel)) (al_c (s_get (C9 := RX1) (T9 := TX1) (N9 := 4) (ci := 1) (k := 2) iX1 rfl (by decide) w_263 (by decide +kernel)) (al_c (s_iconst (n := 1) (1) (by decide) (by decide +kernel)) (al_c (s_iadd (by decide +kernel)) (al_c (s_bipush (n := 8) (8) (by decide) (by decide +kernel)) (al_c (s_irem (by decide +kernel)) (al_c (s_put (C9 := RX1) (T9 := TX1) (N9 := 4) (ci := 1) (k := 2) iX1 rfl (by decide) w_263 tyX1 tyX1_ok nmX1 rfl (by decide +kernel)) (al_c (s_aload_n (k := 0) (by decide +kernel)) (al_c (s_aload_n (k := 0) (by decide +kernel)) (al_c (s_get (C9 := RX1) (T9 := TX1) (N9 := 4) (ci := 1) (k := 3) iX1 rfl (by decide) w_264 (by decide +kernel)) (al_c (s_iconst (n := 1) (1) (by decide) (by decide +kernel)) (al_c (s_iadd (by decide +kernel)) (al_c (s_bipush (n := 8) (8) (by decide) (by decide +kernel)) (al_c (s_min w_433 w_78 w_4 w_79 (by decide) (by decide) (by decide +kernel)) (al_c (s_put (C9 := RX1) (T9 := TX1) (N9 := 4) (ci := 1) (k := 3) iX1 rfl (by decide) w_264 tyX1 tyX1_ok nmX1 rfl (by decide +kernel)) (al_c (s_vret rfl (by decide +kernel)) al_n)))))))))))))))))))))))))))))))
set_option maxRecDepth 100000 in
set_option maxHeartbeats 4000000 in
theorem oX1_keep : Of (lkp bX1_keep) 3 rX1_keep := by
  intro avs es r h
  obtain ⟨vhn, vhs, vhN, vhP, vn, vg, z, rfl, rfl, hp, rfl⟩ := h
  refine ⟨Nat.le_of_ble_eq_true rfl, ?_⟩
  unfold pX1_keep at hp
  by_cases h1 : vhn = (0 : Int32)
  · subst h1
    rw [if_pos rfl] at hp
    refine Rn.go 5 (pc' := 9) (lv' := [(0, .ref 0), (1, .ref 75), (2, .ref 81)]) (st' := [.ref 2]) (es' := (wHK (0 : Int32) vhs vhN vhP vn vg)) (c' := 0) (s' := 0) rfl ?_
    refine Rn.go 1 (pc' := 10) (lv' := [(0, .ref 0), (1, .ref 75), (2, .ref 81)]) (st' := [.ref 75, .ref 2]) (es' := (wHK (0 : Int32) vhs vhN vhP vn vg)) (c' := 0) (s' := 0) rfl ?_
    obtain ⟨z1, hz1, hp⟩ := ob_some hp
    refine Rn.rel (pc' := 13) (lv' := [(0, .ref 0), (1, .ref 75), (2, .ref 81)]) (st' := []) (es' := (wHK (0 : Int32) vhs (upF vhN 0 z1) vhP vn vg)) (dc := 0) (ds := 0) rfl ⟨2, [.ref 75], _, [2, 3, 4, 5, 6, 7, 75, 76, 77, 78, 79, 80], .inl none, (wX2_copyFrom z1.1 z1.2.1 z1.2.2.1 z1.2.2.2.1 z1.2.2.2.2.1 z1.2.2.2.2.2.1 z1.2.2.2.2.2.2.1 z1.2.2.2.2.2.2.2 vn.1 vn.2.1 vn.2.2.1 vn.2.2.2.1 vn.2.2.2.2.1 vn.2.2.2.2.2.1 vn.2.2.2.2.2.2.1 vn.2.2.2.2.2.2.2), 0, 0, rfl, rfl, Nat.le_of_ble_eq_true rfl, rfl, ⟨(vhN 0).1, (vhN 0).2.1, (vhN 0).2.2.1, (vhN 0).2.2.2.1, (vhN 0).2.2.2.2.1, (vhN 0).2.2.2.2.2.1, (vhN 0).2.2.2.2.2.2.1, (vhN 0).2.2.2.2.2.2.2, vn.1, vn.2.1, vn.2.2.1, vn.2.2.2.1, vn.2.2.2.2.1, vn.2.2.2.2.2.1, vn.2.2.2.2.2.2.1, vn.2.2.2.2.2.2.2, z1, rfl, rfl, hz1, rfl⟩, rfl⟩ ?_
    refine Rn.go 5 (pc' := 22) (lv' := [(0, .ref 0), (1, .ref 75), (2, .ref 81)]) (st' := [.ref 51]) (es' := (wHK (0 : Int32) vhs (upF vhN 0 z1) vhP vn vg)) (c' := 0) (s' := 0) rfl ?_
    refine Rn.go 1 (pc' := 23) (lv' := [(0, .ref 0), (1, .ref 75), (2, .ref 81)]) (st' := [.ref 81, .ref 51]) (es' := (wHK (0 : Int32) vhs (upF vhN 0 z1) vhP vn vg)) (c' := 0) (s' := 0) rfl ?_
    obtain ⟨z2, hz2, hp⟩ := ob_some hp
    refine Rn.rel (pc' := 26) (lv' := [(0, .ref 0), (1, .ref 75), (2, .ref 81)]) (st' := []) (es' := (wHK (0 : Int32) vhs (upF vhN 0 z1) (upF vhP 0 z2) vn vg)) (dc := 0) (ds := 0) rfl ⟨51, [.ref 81], _, [51, 52, 53, 81, 82, 83], .inl none, (wX5_copyFrom z2.1 z2.2.1 z2.2.2.1 z2.2.2.2.1 z2.2.2.2.2.1 z2.2.2.2.2.2.1 z2.2.2.2.2.2.2 vg.1 vg.2.1 vg.2.2.1 vg.2.2.2.1 vg.2.2.2.2.1 vg.2.2.2.2.2.1 vg.2.2.2.2.2.2), 0, 0, rfl, rfl, Nat.le_of_ble_eq_true rfl, rfl, ⟨(vhP 0).1, (vhP 0).2.1, (vhP 0).2.2.1, (vhP 0).2.2.2.1, (vhP 0).2.2.2.2.1, (vhP 0).2.2.2.2.2.1, (vhP 0).2.2.2.2.2.2, vg.1, vg.2.1, vg.2.2.1, vg.2.2.2.1, vg.2.2.2.2.1, vg.2.2.2.2.2.1, vg.2.2.2.2.2.2, z2, rfl, rfl, hz2, rfl⟩, rfl⟩ ?_
    refine Rn.go 7 (pc' := 36) (lv' := [(0, .ref 0), (1, .ref 75), (2, .ref 81)]) (st' := [.int (1 : Int32), .ref 0]) (es' := (wHK (0 : Int32) vhs (upF vhN 0 z1) (upF vhP 0 z2) vn vg)) (c' := 0) (s' := 0) rfl ?_
    refine Rn.go 9 (pc' := 54) (lv' := [(0, .ref 0), (1, .ref 75), (2, .ref 81)]) (st' := []) (es' := (wHK (1 : Int32) (if (8 : Int32) < (vhs + (1 : Int32)) then (8 : Int32) else (vhs + (1 : Int32))) (upF vhN 0 z1) (upF vhP 0 z2) vn vg)) (c' := 0) (s' := 0) rfl ?_
    obtain rfl := Option.some.inj hp
    exact Rn.fin rfl rfl rfl
  rw [if_neg h1] at hp
  by_cases h2 : vhn = (1 : Int32)
  · subst h2
    rw [if_pos rfl] at hp
    refine Rn.go 5 (pc' := 9) (lv' := [(0, .ref 0), (1, .ref 75), (2, .ref 81)]) (st' := [.ref 8]) (es' := (wHK (1 : Int32) vhs vhN vhP vn vg)) (c' := 0) (s' := 0) rfl ?_
    refine Rn.go 1 (pc' := 10) (lv' := [(0, .ref 0), (1, .ref 75), (2, .ref 81)]) (st' := [.ref 75, .ref 8]) (es' := (wHK (1 : Int32) vhs vhN vhP vn vg)) (c' := 0) (s' := 0) rfl ?_
    obtain ⟨z3, hz3, hp⟩ := ob_some hp
    refine Rn.rel (pc' := 13) (lv' := [(0, .ref 0), (1, .ref 75), (2, .ref 81)]) (st' := []) (es' := (wHK (1 : Int32) vhs (upF vhN 1 z3) vhP vn vg)) (dc := 0) (ds := 0) rfl ⟨8, [.ref 75], _, [8, 9, 10, 11, 12, 13, 75, 76, 77, 78, 79, 80], .inl none, (wX2_copyFrom z3.1 z3.2.1 z3.2.2.1 z3.2.2.2.1 z3.2.2.2.2.1 z3.2.2.2.2.2.1 z3.2.2.2.2.2.2.1 z3.2.2.2.2.2.2.2 vn.1 vn.2.1 vn.2.2.1 vn.2.2.2.1 vn.2.2.2.2.1 vn.2.2.2.2.2.1 vn.2.2.2.2.2.2.1 vn.2.2.2.2.2.2.2), 0, 0, rfl, rfl, Nat.le_of_ble_eq_true rfl, rfl, ⟨(vhN 1).1, (vhN 1).2.1, (vhN 1).2.2.1, (vhN 1).2.2.2.1, (vhN 1).2.2.2.2.1, (vhN 1).2.2.2.2.2.1, (vhN 1).2.2.2.2.2.2.1, (vhN 1).2.2.2.2.2.2.2, vn.1, vn.2.1, vn.2.2.1, vn.2.2.2.1, vn.2.2.2.2.1, vn.2.2.2.2.2.1, vn.2.2.2.2.2.2.1, vn.2.2.2.2.2.2.2, z3, rfl, rfl, hz3, rfl⟩, rfl⟩ ?_
    refine Rn.go 5 (pc' := 22) (lv' := [(0, .ref 0), (1, .ref 75), (2, .ref 81)]) (st' := [.ref 54]) (es' := (wHK (1 : Int32) vhs (upF vhN 1 z3) vhP vn vg)) (c' := 0) (s' := 0) rfl ?_
    refine Rn.go 1 (pc' := 23) (lv' := [(0, .ref 0), (1, .ref 75), (2, .ref 81)]) (st' := [.ref 81, .ref 54]) (es' := (wHK (1 : Int32) vhs (upF vhN 1 z3) vhP vn vg)) (c' := 0) (s' := 0) rfl ?_
    obtain ⟨z4, hz4, hp⟩ := ob_some hp
    refine Rn.rel (pc' := 26) (lv' := [(0, .ref 0), (1, .ref 75), (2, .ref 81)]) (st' := []) (es' := (wHK (1 : Int32) vhs (upF vhN 1 z3) (upF vhP 1 z4) vn vg)) (dc := 0) (ds := 0) rfl ⟨54, [.ref 81], _, [54, 55, 56, 81, 82, 83], .inl none, (wX5_copyFrom z4.1 z4.2.1 z4.2.2.1 z4.2.2.2.1 z4.2.2.2.2.1 z4.2.2.2.2.2.1 z4.2.2.2.2.2.2 vg.1 vg.2.1 vg.2.2.1 vg.2.2.2.1 vg.2.2.2.2.1 vg.2.2.2.2.2.1 vg.2.2.2.2.2.2), 0, 0, rfl, rfl, Nat.le_of_ble_eq_true rfl, rfl, ⟨(vhP 1).1, (vhP 1).2.1, (vhP 1).2.2.1, (vhP 1).2.2.2.1, (vhP 1).2.2.2.2.1, (vhP 1).2.2.2.2.2.1, (vhP 1).2.2.2.2.2.2, vg.1, vg.2.1, vg.2.2.1, vg.2.2.2.1, vg.2.2.2.2.1, vg.2.2.2.2.2.1, vg.2.2.2.2.2.2, z4, rfl, rfl, hz4, rfl⟩, rfl⟩ ?_
    refine Rn.go 7 (pc' := 36) (lv' := [(0, .ref 0), (1, .ref 75), (2, .ref 81)]) (st' := [.int (2 : Int32), .ref 0]) (es' := (wHK (1 : Int32) vhs (upF vhN 1 z3) (upF vhP 1 z4) vn vg)) (c' := 0) (s' := 0) rfl ?_
    refine Rn.go 9 (pc' := 54) (lv' := [(0, .ref 0), (1, .ref 75), (2, .ref 81)]) (st' := []) (es' := (wHK (2 : Int32) (if (8 : Int32) < (vhs + (1 : Int32)) then (8 : Int32) else (vhs + (1 : Int32))) (upF vhN 1 z3) (upF vhP 1 z4) vn vg)) (c' := 0) (s' := 0) rfl ?_
    obtain rfl := Option.some.inj hp
    exact Rn.fin rfl rfl rfl
  rw [if_neg h2] at hp
  by_cases h3 : vhn = (2 : Int32)
  · subst h3
    rw [if_pos rfl] at hp
    refine Rn.go 5 (pc' := 9) (lv' := [(0, .ref 0), (1, .ref 75), (2, .ref 81)]) (st' := [.ref 14]) (es' := (wHK (2 : Int32) vhs vhN vhP vn vg)) (c' := 0) (s' := 0) rfl ?_
    refine Rn.go 1 (pc' := 10) (lv' := [(0, .ref 0), (1, .ref 75), (2, .ref 81)]) (st' := [.ref 75, .ref 14]) (es' := (wHK (2 : Int32) vhs vhN vhP vn vg)) (c' := 0) (s' := 0) rfl ?_
    obtain ⟨z5, hz5, hp⟩ := ob_some hp
    refine Rn.rel (pc' := 13) (lv' := [(0, .ref 0), (1, .ref 75), (2, .ref 81)]) (st' := []) (es' := (wHK (2 : Int32) vhs (upF vhN 2 z5) vhP vn vg)) (dc := 0) (ds := 0) rfl ⟨14, [.ref 75], _, [14, 15, 16, 17, 18, 19, 75, 76, 77, 78, 79, 80], .inl none, (wX2_copyFrom z5.1 z5.2.1 z5.2.2.1 z5.2.2.2.1 z5.2.2.2.2.1 z5.2.2.2.2.2.1 z5.2.2.2.2.2.2.1 z5.2.2.2.2.2.2.2 vn.1 vn.2.1 vn.2.2.1 vn.2.2.2.1 vn.2.2.2.2.1 vn.2.2.2.2.2.1 vn.2.2.2.2.2.2.1 vn.2.2.2.2.2.2.2), 0, 0, rfl, rfl, Nat.le_of_ble_eq_true rfl, rfl, ⟨(vhN 2).1, (vhN 2).2.1, (vhN 2).2.2.1, (vhN 2).2.2.2.1, (vhN 2).2.2.2.2.1, (vhN 2).2.2.2.2.2.1, (vhN 2).2.2.2.2.2.2.1, (vhN 2).2.2.2.2.2.2.2, vn.1, vn.2.1, vn.2.2.1, vn.2.2.2.1, vn.2.2.2.2.1, vn.2.2.2.2.2.1, vn.2.2.2.2.2.2.1, vn.2.2.2.2.2.2.2, z5, rfl, rfl, hz5, rfl⟩, rfl⟩ ?_
    refine Rn.go 5 (pc' := 22) (lv' := [(0, .ref 0), (1, .ref 75), (2, .ref 81)]) (st' := [.ref 57]) (es' := (wHK (2 : Int32) vhs (upF vhN 2 z5) vhP vn vg)) (c' := 0) (s' := 0) rfl ?_
    refine Rn.go 1 (pc' := 23) (lv' := [(0, .ref 0), (1, .ref 75), (2, .ref 81)]) (st' := [.ref 81, .ref 57]) (es' := (wHK (2 : Int32) vhs (upF vhN 2 z5) vhP vn vg)) (c' := 0) (s' := 0) rfl ?_
    obtain ⟨z6, hz6, hp⟩ := ob_some hp
    refine Rn.rel (pc' := 26) (lv' := [(0, .ref 0), (1, .ref 75), (2, .ref 81)]) (st' := []) (es' := (wHK (2 : Int32) vhs (upF vhN 2 z5) (upF vhP 2 z6) vn vg)) (dc := 0) (ds := 0) rfl ⟨57, [.ref 81], _, [57, 58, 59, 81, 82, 83], .inl none, (wX5_copyFrom z6.1 z6.2.1 z6.2.2.1 z6.2.2.2.1 z6.2.2.2.2.1 z6.2.2.2.2.2.1 z6.2.2.2.2.2.2 vg.1 vg.2.1 vg.2.2.1 vg.2.2.2.1 vg.2.2.2.2.1 vg.2.2.2.2.2.1 vg.2.2.2.2.2.2), 0, 0, rfl, rfl, Nat.le_of_ble_eq_true rfl, rfl, ⟨(vhP 2).1, (vhP 2).2.1, (vhP 2).2.2.1, (vhP 2).2.2.2.1, (vhP 2).2.2.2.2.1, (vhP 2).2.2.2.2.2.1, (vhP 2).2.2.2.2.2.2, vg.1, vg.2.1, vg.2.2.1, vg.2.2.2.1, vg.2.2.2.2.1, vg.2.2.2.2.2.1, vg.2.2.2.2.2.2, z6, rfl, rfl, hz6, rfl⟩, rfl⟩ ?_
    refine Rn.go 7 (pc' := 36) (lv' := [(0, .ref 0), (1, .ref 75), (2, .ref 81)]) (st' := [.int (3 : Int32), .ref 0]) (es' := (wHK (2 : Int32) vhs (upF vhN 2 z5) (upF vhP 2 z6) vn vg)) (c' := 0) (s' := 0) rfl ?_
    refine Rn.go 9 (pc' := 54) (lv' := [(0, .ref 0), (1, .ref 75), (2, .ref 81)]) (st' := []) (es' := (wHK (3 : Int32) (if (8 : Int32) < (vhs + (1 : Int32)) then (8 : Int32) else (vhs + (1 : Int32))) (upF vhN 2 z5) (upF vhP 2 z6) vn vg)) (c' := 0) (s' := 0) rfl ?_
    obtain rfl := Option.some.inj hp
    exact Rn.fin rfl rfl rfl
  rw [if_neg h3] at hp
  by_cases h4 : vhn = (3 : Int32)
  · subst h4
    rw [if_pos rfl] at hp
    refine Rn.go 5 (pc' := 9) (lv' := [(0, .ref 0), (1, .ref 75), (2, .ref 81)]) (st' := [.ref 20]) (es' := (wHK (3 : Int32) vhs vhN vhP vn vg)) (c' := 0) (s' := 0) rfl ?_
    refine Rn.go 1 (pc' := 10) (lv' := [(0, .ref 0), (1, .ref 75), (2, .ref 81)]) (st' := [.ref 75, .ref 20]) (es' := (wHK (3 : Int32) vhs vhN vhP vn vg)) (c' := 0) (s' := 0) rfl ?_
    obtain ⟨z7, hz7, hp⟩ := ob_some hp
    refine Rn.rel (pc' := 13) (lv' := [(0, .ref 0), (1, .ref 75), (2, .ref 81)]) (st' := []) (es' := (wHK (3 : Int32) vhs (upF vhN 3 z7) vhP vn vg)) (dc := 0) (ds := 0) rfl ⟨20, [.ref 75], _, [20, 21, 22, 23, 24, 25, 75, 76, 77, 78, 79, 80], .inl none, (wX2_copyFrom z7.1 z7.2.1 z7.2.2.1 z7.2.2.2.1 z7.2.2.2.2.1 z7.2.2.2.2.2.1 z7.2.2.2.2.2.2.1 z7.2.2.2.2.2.2.2 vn.1 vn.2.1 vn.2.2.1 vn.2.2.2.1 vn.2.2.2.2.1 vn.2.2.2.2.2.1 vn.2.2.2.2.2.2.1 vn.2.2.2.2.2.2.2), 0, 0, rfl, rfl, Nat.le_of_ble_eq_true rfl, rfl, ⟨(vhN 3).1, (vhN 3).2.1, (vhN 3).2.2.1, (vhN 3).2.2.2.1, (vhN 3).2.2.2.2.1, (vhN 3).2.2.2.2.2.1, (vhN 3).2.2.2.2.2.2.1, (vhN 3).2.2.2.2.2.2.2, vn.1, vn.2.1, vn.2.2.1, vn.2.2.2.1, vn.2.2.2.2.1, vn.2.2.2.2.2.1, vn.2.2.2.2.2.2.1, vn.2.2.2.2.2.2.2, z7, rfl, rfl, hz7, rfl⟩, rfl⟩ ?_
    refine Rn.go 5 (pc' := 22) (lv' := [(0, .ref 0), (1, .ref 75), (2, .ref 81)]) (st' := [.ref 60]) (es' := (wHK (3 : Int32) vhs (upF vhN 3 z7) vhP vn vg)) (c' := 0) (s' := 0) rfl ?_
    refine Rn.go 1 (pc' := 23) (lv' := [(0, .ref 0), (1, .ref 75), (2, .ref 81)]) (st' := [.ref 81, .ref 60]) (es' := (wHK (3 : Int32) vhs (upF vhN 3 z7) vhP vn vg)) (c' := 0) (s' := 0) rfl ?_
    obtain ⟨z8, hz8, hp⟩ := ob_some hp
    refine Rn.rel (pc' := 26) (lv' := [(0, .ref 0), (1, .ref 75), (2, .ref 81)]) (st' := []) (es' := (wHK (3 : Int32) vhs (upF vhN 3 z7) (upF vhP 3 z8) vn vg)) (dc := 0) (ds := 0) rfl ⟨60, [.ref 81], _, [60, 61, 62, 81, 82, 83], .inl none, (wX5_copyFrom z8.1 z8.2.1 z8.2.2.1 z8.2.2.2.1 z8.2.2.2.2.1 z8.2.2.2.2.2.1 z8.2.2.2.2.2.2 vg.1 vg.2.1 vg.2.2.1 vg.2.2.2.1 vg.2.2.2.2.1 vg.2.2.2.2.2.1 vg.2.2.2.2.2.2), 0, 0, rfl, rfl, Nat.le_of_ble_eq_true rfl, rfl, ⟨(vhP 3).1, (vhP 3).2.1, (vhP 3).2.2.1, (vhP 3).2.2.2.1, (vhP 3).2.2.2.2.1, (vhP 3).2.2.2.2.2.1, (vhP 3).2.2.2.2.2.2, vg.1, vg.2.1, vg.2.2.1, vg.2.2.2.1, vg.2.2.2.2.1, vg.2.2.2.2.2.1, vg.2.2.2.2.2.2, z8, rfl, rfl, hz8, rfl⟩, rfl⟩ ?_
    refine Rn.go 7 (pc' := 36) (lv' := [(0, .ref 0), (1, .ref 75), (2, .ref 81)]) (st' := [.int (4 : Int32), .ref 0]) (es' := (wHK (3 : Int32) vhs (upF vhN 3 z7) (upF vhP 3 z8) vn vg)) (c' := 0) (s' := 0) rfl ?_
    refine Rn.go 9 (pc' := 54) (lv' := [(0, .ref 0), (1, .ref 75), (2, .ref 81)]) (st' := []) (es' := (wHK (4 : Int32) (if (8 : Int32) < (vhs + (1 : Int32)) then (8 : Int32) else (vhs + (1 : Int32))) (upF vhN 3 z7) (upF vhP 3 z8) vn vg)) (c' := 0) (s' := 0) rfl ?_
    obtain rfl := Option.some.inj hp
    exact Rn.fin rfl rfl rfl
  rw [if_neg h4] at hp
  by_cases h5 : vhn = (4 : Int32)
  · subst h5
    rw [if_pos rfl] at hp
    refine Rn.go 5 (pc' := 9) (lv' := [(0, .ref 0), (1, .ref 75), (2, .ref 81)]) (st' := [.ref 26]) (es' := (wHK (4 : Int32) vhs vhN vhP vn vg)) (c' := 0) (s' := 0) rfl ?_
    refine Rn.go 1 (pc' := 10) (lv' := [(0, .ref 0), (1, .ref 75), (2, .ref 81)]) (st' := [.ref 75, .ref 26]) (es' := (wHK (4 : Int32) vhs vhN vhP vn vg)) (c' := 0) (s' := 0) rfl ?_
    obtain ⟨z9, hz9, hp⟩ := ob_some hp
    refine Rn.rel (pc' := 13) (lv' := [(0, .ref 0), (1, .ref 75), (2, .ref 81)]) (st' := []) (es' := (wHK (4 : Int32) vhs (upF vhN 4 z9) vhP vn vg)) (dc := 0) (ds := 0) rfl ⟨26, [.ref 75], _, [26, 27, 28, 29, 30, 31, 75, 76, 77, 78, 79, 80], .inl none, (wX2_copyFrom z9.1 z9.2.1 z9.2.2.1 z9.2.2.2.1 z9.2.2.2.2.1 z9.2.2.2.2.2.1 z9.2.2.2.2.2.2.1 z9.2.2.2.2.2.2.2 vn.1 vn.2.1 vn.2.2.1 vn.2.2.2.1 vn.2.2.2.2.1 vn.2.2.2.2.2.1 vn.2.2.2.2.2.2.1 vn.2.2.2.2.2.2.2), 0, 0, rfl, rfl, Nat.le_of_ble_eq_true rfl, rfl, ⟨(vhN 4).1, (vhN 4).2.1, (vhN 4).2.2.1, (vhN 4).2.2.2.1, (vhN 4).2.2.2.2.1, (vhN 4).2.2.2.2.2.1, (vhN 4).2.2.2.2.2.2.1, (vhN 4).2.2.2.2.2.2.2, vn.1, vn.2.1, vn.2.2.1, vn.2.2.2.1, vn.2.2.2.2.1, vn.2.2.2.2.2.1, vn.2.2.2.2.2.2.1, vn.2.2.2.2.2.2.2, z9, rfl, rfl, hz9, rfl⟩, rfl⟩ ?_
    refine Rn.go 5 (pc' := 22) (lv' := [(0, .ref 0), (1, .ref 75), (2, .ref 81)]) (st' := [.ref 63]) (es' := (wHK (4 : Int32) vhs (upF vhN 4 z9) vhP vn vg)) (c' := 0) (s' := 0) rfl ?_
    refine Rn.go 1 (pc' := 23) (lv' := [(0, .ref 0), (1, .ref 75), (2, .ref 81)]) (st' := [.ref 81, .ref 63]) (es' := (wHK (4 : Int32) vhs (upF vhN 4 z9) vhP vn vg)) (c' := 0) (s' := 0) rfl ?_
    obtain ⟨z10, hz10, hp⟩ := ob_some hp
    refine Rn.rel (pc' := 26) (lv' := [(0, .ref 0), (1, .ref 75), (2, .ref 81)]) (st' := []) (es' := (wHK (4 : Int32) vhs (upF vhN 4 z9) (upF vhP 4 z10) vn vg)) (dc := 0) (ds := 0) rfl ⟨63, [.ref 81], _, [63, 64, 65, 81, 82, 83], .inl none, (wX5_copyFrom z10.1 z10.2.1 z10.2.2.1 z10.2.2.2.1 z10.2.2.2.2.1 z10.2.2.2.2.2.1 z10.2.2.2.2.2.2 vg.1 vg.2.1 vg.2.2.1 vg.2.2.2.1 vg.2.2.2.2.1 vg.2.2.2.2.2.1 vg.2.2.2.2.2.2), 0, 0, rfl, rfl, Nat.le_of_ble_eq_true rfl, rfl, ⟨(vhP 4).1, (vhP 4).2.1, (vhP 4).2.2.1, (vhP 4).2.2.2.1, (vhP 4).2.2.2.2.1, (vhP 4).2.2.2.2.2.1, (vhP 4).2.2.2.2.2.2, vg.1, vg.2.1, vg.2.2.1, vg.2.2.2.1, vg.2.2.2.2.1, vg.2.2.2.2.2.1, vg.2.2.2.2.2.2, z10, rfl, rfl, hz10, rfl⟩, rfl⟩ ?_
    refine Rn.go 7 (pc' := 36) (lv' := [(0, .ref 0), (1, .ref 75), (2, .ref 81)]) (st' := [.int (5 : Int32), .ref 0]) (es' := (wHK (4 : Int32) vhs (upF vhN 4 z9) (upF vhP 4 z10) vn vg)) (c' := 0) (s' := 0) rfl ?_
    refine Rn.go 9 (pc' := 54) (lv' := [(0, .ref 0), (1, .ref 75), (2, .ref 81)]) (st' := []) (es' := (wHK (5 : Int32) (if (8 : Int32) < (vhs + (1 : Int32)) then (8 : Int32) else (vhs + (1 : Int32))) (upF vhN 4 z9) (upF vhP 4 z10) vn vg)) (c' := 0) (s' := 0) rfl ?_
    obtain rfl := Option.some.inj hp
    exact Rn.fin rfl rfl rfl
  rw [if_neg h5] at hp
  by_cases h6 : vhn = (5 : Int32)
  · subst h6
    rw [if_pos rfl] at hp
    refine Rn.go 5 (pc' := 9) (lv' := [(0, .ref 0), (1, .ref 75), (2, .ref 81)]) (st' := [.ref 32]) (es' := (wHK (5 : Int32) vhs vhN vhP vn vg)) (c' := 0) (s' := 0) rfl ?_
    refine Rn.go 1 (pc' := 10) (lv' := [(0, .ref 0), (1, .ref 75), (2, .ref 81)]) (st' := [.ref 75, .ref 32]) (es' := (wHK (5 : Int32) vhs vhN vhP vn vg)) (c' := 0) (s' := 0) rfl ?_
    obtain ⟨z11, hz11, hp⟩ := ob_some hp
    refine Rn.rel (pc' := 13) (lv' := [(0, .ref 0), (1, .ref 75), (2, .ref 81)]) (st' := []) (es' := (wHK (5 : Int32) vhs (upF vhN 5 z11) vhP vn vg)) (dc := 0) (ds := 0) rfl ⟨32, [.ref 75], _, [32, 33, 34, 35, 36, 37, 75, 76, 77, 78, 79, 80], .inl none, (wX2_copyFrom z11.1 z11.2.1 z11.2.2.1 z11.2.2.2.1 z11.2.2.2.2.1 z11.2.2.2.2.2.1 z11.2.2.2.2.2.2.1 z11.2.2.2.2.2.2.2 vn.1 vn.2.1 vn.2.2.1 vn.2.2.2.1 vn.2.2.2.2.1 vn.2.2.2.2.2.1 vn.2.2.2.2.2.2.1 vn.2.2.2.2.2.2.2), 0, 0, rfl, rfl, Nat.le_of_ble_eq_true rfl, rfl, ⟨(vhN 5).1, (vhN 5).2.1, (vhN 5).2.2.1, (vhN 5).2.2.2.1, (vhN 5).2.2.2.2.1, (vhN 5).2.2.2.2.2.1, (vhN 5).2.2.2.2.2.2.1, (vhN 5).2.2.2.2.2.2.2, vn.1, vn.2.1, vn.2.2.1, vn.2.2.2.1, vn.2.2.2.2.1, vn.2.2.2.2.2.1, vn.2.2.2.2.2.2.1, vn.2.2.2.2.2.2.2, z11, rfl, rfl, hz11, rfl⟩, rfl⟩ ?_
    refine Rn.go 5 (pc' := 22) (lv' := [(0, .ref 0), (1, .ref 75), (2, .ref 81)]) (st' := [.ref 66]) (es' := (wHK (5 : Int32) vhs (upF vhN 5 z11) vhP vn vg)) (c' := 0) (s' := 0) rfl ?_
    refine Rn.go 1 (pc' := 23) (lv' := [(0, .ref 0), (1, .ref 75), (2, .ref 81)]) (st' := [.ref 81, .ref 66]) (es' := (wHK (5 : Int32) vhs (upF vhN 5 z11) vhP vn vg)) (c' := 0) (s' := 0) rfl ?_
    obtain ⟨z12, hz12, hp⟩ := ob_some hp
    refine Rn.rel (pc' := 26) (lv' := [(0, .ref 0), (1, .ref 75), (2, .ref 81)]) (st' := []) (es' := (wHK (5 : Int32) vhs (upF vhN 5 z11) (upF vhP 5 z12) vn vg)) (dc := 0) (ds := 0) rfl ⟨66, [.ref 81], _, [66, 67, 68, 81, 82, 83], .inl none, (wX5_copyFrom z12.1 z12.2.1 z12.2.2.1 z12.2.2.2.1 z12.2.2.2.2.1 z12.2.2.2.2.2.1 z12.2.2.2.2.2.2 vg.1 vg.2.1 vg.2.2.1 vg.2.2.2.1 vg.2.2.2.2.1 vg.2.2.2.2.2.1 vg.2.2.2.2.2.2), 0, 0, rfl, rfl, Nat.le_of_ble_eq_true rfl, rfl, ⟨(vhP 5).1, (vhP 5).2.1, (vhP 5).2.2.1, (vhP 5).2.2.2.1, (vhP 5).2.2.2.2.1, (vhP 5).2.2.2.2.2.1, (vhP 5).2.2.2.2.2.2, vg.1, vg.2.1, vg.2.2.1, vg.2.2.2.1, vg.2.2.2.2.1, vg.2.2.2.2.2.1, vg.2.2.2.2.2.2, z12, rfl, rfl, hz12, rfl⟩, rfl⟩ ?_
    refine Rn.go 7 (pc' := 36) (lv' := [(0, .ref 0), (1, .ref 75), (2, .ref 81)]) (st' := [.int (6 : Int32), .ref 0]) (es' := (wHK (5 : Int32) vhs (upF vhN 5 z11) (upF vhP 5 z12) vn vg)) (c' := 0) (s' := 0) rfl ?_
    refine Rn.go 9 (pc' := 54) (lv' := [(0, .ref 0), (1, .ref 75), (2, .ref 81)]) (st' := []) (es' := (wHK (6 : Int32) (if (8 : Int32) < (vhs + (1 : Int32)) then (8 : Int32) else (vhs + (1 : Int32))) (upF vhN 5 z11) (upF vhP 5 z12) vn vg)) (c' := 0) (s' := 0) rfl ?_
    obtain rfl := Option.some.inj hp
    exact Rn.fin rfl rfl rfl
  rw [if_neg h6] at hp
  by_cases h7 : vhn = (6 : Int32)
  · subst h7
    rw [if_pos rfl] at hp
    refine Rn.go 5 (pc' := 9) (lv' := [(0, .ref 0), (1, .ref 75), (2, .ref 81)]) (st' := [.ref 38]) (es' := (wHK (6 : Int32) vhs vhN vhP vn vg)) (c' := 0) (s' := 0) rfl ?_
    refine Rn.go 1 (pc' := 10) (lv' := [(0, .ref 0), (1, .ref 75), (2, .ref 81)]) (st' := [.ref 75, .ref 38]) (es' := (wHK (6 : Int32) vhs vhN vhP vn vg)) (c' := 0) (s' := 0) rfl ?_
    obtain ⟨z13, hz13, hp⟩ := ob_some hp
    refine Rn.rel (pc' := 13) (lv' := [(0, .ref 0), (1, .ref 75), (2, .ref 81)]) (st' := []) (es' := (wHK (6 : Int32) vhs (upF vhN 6 z13) vhP vn vg)) (dc := 0) (ds := 0) rfl ⟨38, [.ref 75], _, [38, 39, 40, 41, 42, 43, 75, 76, 77, 78, 79, 80], .inl none, (wX2_copyFrom z13.1 z13.2.1 z13.2.2.1 z13.2.2.2.1 z13.2.2.2.2.1 z13.2.2.2.2.2.1 z13.2.2.2.2.2.2.1 z13.2.2.2.2.2.2.2 vn.1 vn.2.1 vn.2.2.1 vn.2.2.2.1 vn.2.2.2.2.1 vn.2.2.2.2.2.1 vn.2.2.2.2.2.2.1 vn.2.2.2.2.2.2.2), 0, 0, rfl, rfl, Nat.le_of_ble_eq_true rfl, rfl, ⟨(vhN 6).1, (vhN 6).2.1, (vhN 6).2.2.1, (vhN 6).2.2.2.1, (vhN 6).2.2.2.2.1, (vhN 6).2.2.2.2.2.1, (vhN 6).2.2.2.2.2.2.1, (vhN 6).2.2.2.2.2.2.2, vn.1, vn.2.1, vn.2.2.1, vn.2.2.2.1, vn.2.2.2.2.1, vn.2.2.2.2.2.1, vn.2.2.2.2.2.2.1, vn.2.2.2.2.2.2.2, z13, rfl, rfl, hz13, rfl⟩, rfl⟩ ?_
    refine Rn.go 5 (pc' := 22) (lv' := [(0, .ref 0), (1, .ref 75), (2, .ref 81)]) (st' := [.ref 69]) (es' := (wHK (6 : Int32) vhs (upF vhN 6 z13) vhP vn vg)) (c' := 0) (s' := 0) rfl ?_
    refine Rn.go 1 (pc' := 23) (lv' := [(0, .ref 0), (1, .ref 75), (2, .ref 81)]) (st' := [.ref 81, .ref 69]) (es' := (wHK (6 : Int32) vhs (upF vhN 6 z13) vhP vn vg)) (c' := 0) (s' := 0) rfl ?_
    obtain ⟨z14, hz14, hp⟩ := ob_some hp
    refine Rn.rel (pc' := 26) (lv' := [(0, .ref 0), (1, .ref 75), (2, .ref 81)]) (st' := []) (es' := (wHK (6 : Int32) vhs (upF vhN 6 z13) (upF vhP 6 z14) vn vg)) (dc := 0) (ds := 0) rfl ⟨69, [.ref 81], _, [69, 70, 71, 81, 82, 83], .inl none, (wX5_copyFrom z14.1 z14.2.1 z14.2.2.1 z14.2.2.2.1 z14.2.2.2.2.1 z14.2.2.2.2.2.1 z14.2.2.2.2.2.2 vg.1 vg.2.1 vg.2.2.1 vg.2.2.2.1 vg.2.2.2.2.1 vg.2.2.2.2.2.1 vg.2.2.2.2.2.2), 0, 0, rfl, rfl, Nat.le_of_ble_eq_true rfl, rfl, ⟨(vhP 6).1, (vhP 6).2.1, (vhP 6).2.2.1, (vhP 6).2.2.2.1, (vhP 6).2.2.2.2.1, (vhP 6).2.2.2.2.2.1, (vhP 6).2.2.2.2.2.2, vg.1, vg.2.1, vg.2.2.1, vg.2.2.2.1, vg.2.2.2.2.1, vg.2.2.2.2.2.1, vg.2.2.2.2.2.2, z14, rfl, rfl, hz14, rfl⟩, rfl⟩ ?_
    refine Rn.go 7 (pc' := 36) (lv' := [(0, .ref 0), (1, .ref 75), (2, .ref 81)]) (st' := [.int (7 : Int32), .ref 0]) (es' := (wHK (6 : Int32) vhs (upF vhN 6 z13) (upF vhP 6 z14) vn vg)) (c' := 0) (s' := 0) rfl ?_
    refine Rn.go 9 (pc' := 54) (lv' := [(0, .ref 0), (1, .ref 75), (2, .ref 81)]) (st' := []) (es' := (wHK (7 : Int32) (if (8 : Int32) < (vhs + (1 : Int32)) then (8 : Int32) else (vhs + (1 : Int32))) (upF vhN 6 z13) (upF vhP 6 z14) vn vg)) (c' := 0) (s' := 0) rfl ?_
    obtain rfl := Option.some.inj hp
    exact Rn.fin rfl rfl rfl
  rw [if_neg h7] at hp
  by_cases h8 : vhn = (7 : Int32)
  · subst h8
    rw [if_pos rfl] at hp
    refine Rn.go 5 (pc' := 9) (lv' := [(0, .ref 0), (1, .ref 75), (2, .ref 81)]) (st' := [.ref 44]) (es' := (wHK (7 : Int32) vhs vhN vhP vn vg)) (c' := 0) (s' := 0) rfl ?_
    refine Rn.go 1 (pc' := 10) (lv' := [(0, .ref 0), (1, .ref 75), (2, .ref 81)]) (st' := [.ref 75, .ref 44]) (es' := (wHK (7 : Int32) vhs vhN vhP vn vg)) (c' := 0) (s' := 0) rfl ?_
    obtain ⟨z15, hz15, hp⟩ := ob_some hp
    refine Rn.rel (pc' := 13) (lv' := [(0, .ref 0), (1, .ref 75), (2, .ref 81)]) (st' := []) (es' := (wHK (7 : Int32) vhs (upF vhN 7 z15) vhP vn vg)) (dc := 0) (ds := 0) rfl ⟨44, [.ref 75], _, [44, 45, 46, 47, 48, 49, 75, 76, 77, 78, 79, 80], .inl none, (wX2_copyFrom z15.1 z15.2.1 z15.2.2.1 z15.2.2.2.1 z15.2.2.2.2.1 z15.2.2.2.2.2.1 z15.2.2.2.2.2.2.1 z15.2.2.2.2.2.2.2 vn.1 vn.2.1 vn.2.2.1 vn.2.2.2.1 vn.2.2.2.2.1 vn.2.2.2.2.2.1 vn.2.2.2.2.2.2.1 vn.2.2.2.2.2.2.2), 0, 0, rfl, rfl, Nat.le_of_ble_eq_true rfl, rfl, ⟨(vhN 7).1, (vhN 7).2.1, (vhN 7).2.2.1, (vhN 7).2.2.2.1, (vhN 7).2.2.2.2.1, (vhN 7).2.2.2.2.2.1, (vhN 7).2.2.2.2.2.2.1, (vhN 7).2.2.2.2.2.2.2, vn.1, vn.2.1, vn.2.2.1, vn.2.2.2.1, vn.2.2.2.2.1, vn.2.2.2.2.2.1, vn.2.2.2.2.2.2.1, vn.2.2.2.2.2.2.2, z15, rfl, rfl, hz15, rfl⟩, rfl⟩ ?_
    refine Rn.go 5 (pc' := 22) (lv' := [(0, .ref 0), (1, .ref 75), (2, .ref 81)]) (st' := [.ref 72]) (es' := (wHK (7 : Int32) vhs (upF vhN 7 z15) vhP vn vg)) (c' := 0) (s' := 0) rfl ?_
    refine Rn.go 1 (pc' := 23) (lv' := [(0, .ref 0), (1, .ref 75), (2, .ref 81)]) (st' := [.ref 81, .ref 72]) (es' := (wHK (7 : Int32) vhs (upF vhN 7 z15) vhP vn vg)) (c' := 0) (s' := 0) rfl ?_
    obtain ⟨z16, hz16, hp⟩ := ob_some hp
    refine Rn.rel (pc' := 26) (lv' := [(0, .ref 0), (1, .ref 75), (2, .ref 81)]) (st' := []) (es' := (wHK (7 : Int32) vhs (upF vhN 7 z15) (upF vhP 7 z16) vn vg)) (dc := 0) (ds := 0) rfl ⟨72, [.ref 81], _, [72, 73, 74, 81, 82, 83], .inl none, (wX5_copyFrom z16.1 z16.2.1 z16.2.2.1 z16.2.2.2.1 z16.2.2.2.2.1 z16.2.2.2.2.2.1 z16.2.2.2.2.2.2 vg.1 vg.2.1 vg.2.2.1 vg.2.2.2.1 vg.2.2.2.2.1 vg.2.2.2.2.2.1 vg.2.2.2.2.2.2), 0, 0, rfl, rfl, Nat.le_of_ble_eq_true rfl, rfl, ⟨(vhP 7).1, (vhP 7).2.1, (vhP 7).2.2.1, (vhP 7).2.2.2.1, (vhP 7).2.2.2.2.1, (vhP 7).2.2.2.2.2.1, (vhP 7).2.2.2.2.2.2, vg.1, vg.2.1, vg.2.2.1, vg.2.2.2.1, vg.2.2.2.2.1, vg.2.2.2.2.2.1, vg.2.2.2.2.2.2, z16, rfl, rfl, hz16, rfl⟩, rfl⟩ ?_
    refine Rn.go 7 (pc' := 36) (lv' := [(0, .ref 0), (1, .ref 75), (2, .ref 81)]) (st' := [.int (0 : Int32), .ref 0]) (es' := (wHK (7 : Int32) vhs (upF vhN 7 z15) (upF vhP 7 z16) vn vg)) (c' := 0) (s' := 0) rfl ?_
    refine Rn.go 9 (pc' := 54) (lv' := [(0, .ref 0), (1, .ref 75), (2, .ref 81)]) (st' := []) (es' := (wHK (0 : Int32) (if (8 : Int32) < (vhs + (1 : Int32)) then (8 : Int32) else (vhs + (1 : Int32))) (upF vhN 7 z15) (upF vhP 7 z16) vn vg)) (c' := 0) (s' := 0) rfl ?_
    obtain rfl := Option.some.inj hp
    exact Rn.fin rfl rfl rfl
  rw [if_neg h8] at hp
  cases hp
theorem qX1_keep : CtA yX1_keep (.code yX1_keep cX1_keep 3 none) 2 81 [] rX1_keep := CtA.of (by decide +kernel) (fun pc op h => kX1_keep _ (lkp_mem h)) oX1_keep
/-! TelescopeNight$History.takeBack(LTelescopeNight$Night;LTelescopeNight$Progress;)V -/
def rX1_takeBack : List Value → List va_E → op_O → Prop := fun avs es r => ∃ (vhn : Int32) (vhs : Int32) (vhN : Nat → NiS) (vhP : Nat → PrS) (vn : NiS) (vg : PrS) (z : Int32 × Int32 × NiS × PrS), avs = [.ref 0, .ref 75, .ref 81] ∧ es = (wHK vhn vhs vhN vhP vn vg) ∧ pX1_takeBack vhn vhs vhN vhP vn vg = some z ∧ r = (.inl none, (wHK z.1 z.2.1 vhN vhP z.2.2.1 z.2.2.2), 0, 0)
def bX1_takeBack : List (Nat × (op_T ⊕ op_R)) := [(0, .inl (o_aload 1 0)), (1, .inl (o_aload 2 0)), (2, .inl (o_get 5 1 2)), (5, .inl (o_push 7 (.int (8)))), (7, .inl (o_ii 8 (fun x y => x + y))), (8, .inl (o_push 9 (.int (1)))), (9, .inl (o_ii 10 (fun x y => x - y))), (10, .inl (o_push 12 (.int (8)))), (12, .inl (o_irem 13)), (13, .inl (o_put 16 1 2 .int)), (16, .inl (o_aload 17 0)), (17, .inl (o_dup 18)), (18, .inl (o_get 21 1 3)), (21, .inl (o_push 22 (.int (1)))), (22, .inl (o_ii 23 (fun x y => x - y))), (23, .inl (o_put 26 1 3 .int)), (26, .inl (o_aload 27 1)), (27, .inl (o_aload 28 0)), (28, .inl (o_get 31 1 0)), (31, .inl (o_aload 32 0)), (32, .inl (o_get 35 1 2)), (35, .inl (o_aald 36)), (36, .inr (o_callV [] [] 39 1 2 rX2_copyFrom)), (39, .inl (o_aload 40 2)), (40, .inl (o_aload 41 0)), (41, .inl (o_get 44 1 1)), (44, .inl (o_aload 45 0)), (45, .inl (o_get 48 1 2)), (48, .inl (o_aald 49)), (49, .inr (o_callV [] [] 52 1 5 rX5_copyFrom)), (52, .inl (o_vret))]
set_option maxRecDepth 100000 in
set_option maxHeartbeats 4000000 in
theorem kX1_takeBack : ∀ q ∈ bX1_takeBack, ok2 2 81 3 cX1_takeBack yX1_takeBack.cls yX1_takeBack.name none (.code yX1_takeBack cX1_takeBack 3 none) [] [] q.1 q.2 := (al_c (s_aload_n (k := 0) (by decide +kernel)) (al_c (s_aload_n (k := 0) (by decide +kernel)) (al_c (s_get (C9 := RX1) (T9 := TX1) (N9 := 4) (ci := 1) (k := 2) iX1 rfl (by decide) w_263 (by decide +kernel)) (al_c (s_bipush (n := 8) (8) (by decide) (by decide +kernel)) (al_c (s_iadd (by decide +kernel)) (al_c (s_iconst (n := 1) (1) (by decide) (by decide +kernel)) (al_c (s_isub (by decide +kernel)) (al_c (s_bipush (n := 8) (8) (by decide) (by decide +kernel)) (al_c (s_irem (by decide +kernel)) (al_c (s_put (C9 := RX1) (T9 := TX1) (N9 := 4) (ci := 1) (k := 2) iX1 rfl (by decide) w_263 tyX1 tyX1_ok nmX1 rfl (by decide +kernel)) (al_c (s_aload_n (k := 0) (by decide +kernel)) (al_c (s_dup (by decide +kernel)) (al_c (s_get (C9 := RX1) (T9 := TX1) (N9 := 4) (ci := 1) (k := 3) iX1 rfl (by decide) w_264 (by decide +kernel)) (al_c (s_iconst (n := 1) (1) (by decide) (by decide +kernel)) (al_c (s_isub (by decide +kernel)) (al_c (s_put (C9 := RX1) (T9 := TX1) (N9 := 4) (ci := 1) (k := 3) iX1 rfl (by decide) w_264 tyX1 tyX1_ok nmX1 rfl (by decide +kernel)) (al_c (s_aload_n (k := 1) (by decide +kernel)) (al_c (s_aload_n (k := 0) (by decide +kernel)) (al_c (s_get (C9 := RX1) (T9 := TX1) (N9 := 4) (ci := 1) (k := 0) iX1 rfl (by decide) w_261 (by decide +kernel)) (al_c (s_aload_n (k := 0) (by decide +kernel)) (al_c (s_get (C9 := RX1) (T9 := TX1) (N9 := 4) (ci := 1) (k := 2) iX1 rfl (by decide) w_263 (by decide +kernel)) (al_c (s_aald (by decide +kernel)) (al_c (s_callV (y := yX2_copyFrom) (bytes := cX2_copyFrom) (maxL := 2) (ret' := none) (fr' := 1) (lo' := 60) (n := 1) (ml := []) (mlc := []) (ci := 2) (q9 := (RX2, TX2, 8)) qX2_copyFrom w_421 w_422 w_423 w_2 w_424 ⟨by decide +kernel, by decide +kernel, by decide +kernel⟩ rfl rfl (by decide) (by decide) (by decide +kernel)) (al_c (s_aload_n (k := 2) (by decide +kernel)) (al_c (s_aload_n (k := 0) (by decide +kernel)) (al_c (s_get (C9 := RX1) (T9 := TX1) (N9 := 4) (ci := 1) (k := 1) iX1 rfl (by decide) w_262 (by decide +kernel)) (al_c (s_aload_n (k := 0) (by decide +kernel)) (al_c (s_get (C9 := RX1) (T9 := TX1) (N9 := 4) (ci := 1) (k := 2) iX1 rfl (by decide) w_263 (by decide +kernel)) (al_c (s_aald (by decide +kernel)) (al_c (s_callV (y := yX5_copyFrom) (bytes := cX5_copyFrom) (maxL := 2) (ret' := none) (fr' := 1) (lo' := 60) (n := 1) (ml := []) (mlc := []) (ci := 5) (q9 := (RX5, TX5, 7)) qX5_copyFrom w_428 w_429 w_430 w_5 w_431 ⟨by decide +kernel, by decide +kernel, by decide +kernel⟩ rfl rfl (by decide) (by decide) (by decide +kernel)) (al_c (s_vret rfl (by decide +kernel)) al_n)))))))))))))))))))))))))))))))
set_option maxRecDepth 100000 in
set_option maxHeartbeats 4000000 in
theorem oX1_takeBack : Of (lkp bX1_takeBack) 3 rX1_takeBack := by
  intro avs es r h
  obtain ⟨vhn, vhs, vhN, vhP, vn, vg, z, rfl, rfl, hp, rfl⟩ := h
  refine ⟨Nat.le_of_ble_eq_true rfl, ?_⟩
  unfold pX1_takeBack at hp
  by_cases h1 : vhn = (0 : Int32)
  · subst h1
    rw [if_pos rfl] at hp
    refine Rn.go 9 (pc' := 13) (lv' := [(0, .ref 0), (1, .ref 75), (2, .ref 81)]) (st' := [.int (7 : Int32), .ref 0]) (es' := (wHK (0 : Int32) vhs vhN vhP vn vg)) (c' := 0) (s' := 0) rfl ?_
    refine Rn.go 13 (pc' := 36) (lv' := [(0, .ref 0), (1, .ref 75), (2, .ref 81)]) (st' := [.ref 44, .ref 75]) (es' := (wHK (7 : Int32) (vhs - (1 : Int32)) vhN vhP vn vg)) (c' := 0) (s' := 0) rfl ?_
    obtain ⟨z1, hz1, hp⟩ := ob_some hp
    refine Rn.rel (pc' := 39) (lv' := [(0, .ref 0), (1, .ref 75), (2, .ref 81)]) (st' := []) (es' := (wHK (7 : Int32) (vhs - (1 : Int32)) vhN vhP z1 vg)) (dc := 0) (ds := 0) rfl ⟨75, [.ref 44], _, [75, 76, 77, 78, 79, 80, 44, 45, 46, 47, 48, 49], .inl none, (wX2_copyFrom z1.1 z1.2.1 z1.2.2.1 z1.2.2.2.1 z1.2.2.2.2.1 z1.2.2.2.2.2.1 z1.2.2.2.2.2.2.1 z1.2.2.2.2.2.2.2 ((vhN 7).1) ((vhN 7).2.1) ((vhN 7).2.2.1) ((vhN 7).2.2.2.1) ((vhN 7).2.2.2.2.1) ((vhN 7).2.2.2.2.2.1) ((vhN 7).2.2.2.2.2.2.1) ((vhN 7).2.2.2.2.2.2.2)), 0, 0, rfl, rfl, Nat.le_of_ble_eq_true rfl, rfl, ⟨vn.1, vn.2.1, vn.2.2.1, vn.2.2.2.1, vn.2.2.2.2.1, vn.2.2.2.2.2.1, vn.2.2.2.2.2.2.1, vn.2.2.2.2.2.2.2, (vhN 7).1, (vhN 7).2.1, (vhN 7).2.2.1, (vhN 7).2.2.2.1, (vhN 7).2.2.2.2.1, (vhN 7).2.2.2.2.2.1, (vhN 7).2.2.2.2.2.2.1, (vhN 7).2.2.2.2.2.2.2, z1, rfl, rfl, hz1, rfl⟩, rfl⟩ ?_
    refine Rn.go 6 (pc' := 49) (lv' := [(0, .ref 0), (1, .ref 75), (2, .ref 81)]) (st' := [.ref 72, .ref 81]) (es' := (wHK (7 : Int32) (vhs - (1 : Int32)) vhN vhP z1 vg)) (c' := 0) (s' := 0) rfl ?_
    obtain ⟨z2, hz2, hp⟩ := ob_some hp
    refine Rn.rel (pc' := 52) (lv' := [(0, .ref 0), (1, .ref 75), (2, .ref 81)]) (st' := []) (es' := (wHK (7 : Int32) (vhs - (1 : Int32)) vhN vhP z1 z2)) (dc := 0) (ds := 0) rfl ⟨81, [.ref 72], _, [81, 82, 83, 72, 73, 74], .inl none, (wX5_copyFrom z2.1 z2.2.1 z2.2.2.1 z2.2.2.2.1 z2.2.2.2.2.1 z2.2.2.2.2.2.1 z2.2.2.2.2.2.2 ((vhP 7).1) ((vhP 7).2.1) ((vhP 7).2.2.1) ((vhP 7).2.2.2.1) ((vhP 7).2.2.2.2.1) ((vhP 7).2.2.2.2.2.1) ((vhP 7).2.2.2.2.2.2)), 0, 0, rfl, rfl, Nat.le_of_ble_eq_true rfl, rfl, ⟨vg.1, vg.2.1, vg.2.2.1, vg.2.2.2.1, vg.2.2.2.2.1, vg.2.2.2.2.2.1, vg.2.2.2.2.2.2, (vhP 7).1, (vhP 7).2.1, (vhP 7).2.2.1, (vhP 7).2.2.2.1, (vhP 7).2.2.2.2.1, (vhP 7).2.2.2.2.2.1, (vhP 7).2.2.2.2.2.2, z2, rfl, rfl, hz2, rfl⟩, rfl⟩ ?_
    obtain rfl := Option.some.inj hp
    exact Rn.fin rfl rfl rfl
  rw [if_neg h1] at hp
  by_cases h2 : vhn = (1 : Int32)
  · subst h2
    rw [if_pos rfl] at hp
    refine Rn.go 9 (pc' := 13) (lv' := [(0, .ref 0), (1, .ref 75), (2, .ref 81)]) (st' := [.int (0 : Int32), .ref 0]) (es' := (wHK (1 : Int32) vhs vhN vhP vn vg)) (c' := 0) (s' := 0) rfl ?_
    refine Rn.go 13 (pc' := 36) (lv' := [(0, .ref 0), (1, .ref 75), (2, .ref 81)]) (st' := [.ref 2, .ref 75]) (es' := (wHK (0 : Int32) (vhs - (1 : Int32)) vhN vhP vn vg)) (c' := 0) (s' := 0) rfl ?_
    obtain ⟨z3, hz3, hp⟩ := ob_some hp
    refine Rn.rel (pc' := 39) (lv' := [(0, .ref 0), (1, .ref 75), (2, .ref 81)]) (st' := []) (es' := (wHK (0 : Int32) (vhs - (1 : Int32)) vhN vhP z3 vg)) (dc := 0) (ds := 0) rfl ⟨75, [.ref 2], _, [75, 76, 77, 78, 79, 80, 2, 3, 4, 5, 6, 7], .inl none, (wX2_copyFrom z3.1 z3.2.1 z3.2.2.1 z3.2.2.2.1 z3.2.2.2.2.1 z3.2.2.2.2.2.1 z3.2.2.2.2.2.2.1 z3.2.2.2.2.2.2.2 ((vhN 0).1) ((vhN 0).2.1) ((vhN 0).2.2.1) ((vhN 0).2.2.2.1) ((vhN 0).2.2.2.2.1) ((vhN 0).2.2.2.2.2.1) ((vhN 0).2.2.2.2.2.2.1) ((vhN 0).2.2.2.2.2.2.2)), 0, 0, rfl, rfl, Nat.le_of_ble_eq_true rfl, rfl, ⟨vn.1, vn.2.1, vn.2.2.1, vn.2.2.2.1, vn.2.2.2.2.1, vn.2.2.2.2.2.1, vn.2.2.2.2.2.2.1, vn.2.2.2.2.2.2.2, (vhN 0).1, (vhN 0).2.1, (vhN 0).2.2.1, (vhN 0).2.2.2.1, (vhN 0).2.2.2.2.1, (vhN 0).2.2.2.2.2.1, (vhN 0).2.2.2.2.2.2.1, (vhN 0).2.2.2.2.2.2.2, z3, rfl, rfl, hz3, rfl⟩, rfl⟩ ?_
    refine Rn.go 6 (pc' := 49) (lv' := [(0, .ref 0), (1, .ref 75), (2, .ref 81)]) (st' := [.ref 51, .ref 81]) (es' := (wHK (0 : Int32) (vhs - (1 : Int32)) vhN vhP z3 vg)) (c' := 0) (s' := 0) rfl ?_
    obtain ⟨z4, hz4, hp⟩ := ob_some hp
    refine Rn.rel (pc' := 52) (lv' := [(0, .ref 0), (1, .ref 75), (2, .ref 81)]) (st' := []) (es' := (wHK (0 : Int32) (vhs - (1 : Int32)) vhN vhP z3 z4)) (dc := 0) (ds := 0) rfl ⟨81, [.ref 51], _, [81, 82, 83, 51, 52, 53], .inl none, (wX5_copyFrom z4.1 z4.2.1 z4.2.2.1 z4.2.2.2.1 z4.2.2.2.2.1 z4.2.2.2.2.2.1 z4.2.2.2.2.2.2 ((vhP 0).1) ((vhP 0).2.1) ((vhP 0).2.2.1) ((vhP 0).2.2.2.1) ((vhP 0).2.2.2.2.1) ((vhP 0).2.2.2.2.2.1) ((vhP 0).2.2.2.2.2.2)), 0, 0, rfl, rfl, Nat.le_of_ble_eq_true rfl, rfl, ⟨vg.1, vg.2.1, vg.2.2.1, vg.2.2.2.1, vg.2.2.2.2.1, vg.2.2.2.2.2.1, vg.2.2.2.2.2.2, (vhP 0).1, (vhP 0).2.1, (vhP 0).2.2.1, (vhP 0).2.2.2.1, (vhP 0).2.2.2.2.1, (vhP 0).2.2.2.2.2.1, (vhP 0).2.2.2.2.2.2, z4, rfl, rfl, hz4, rfl⟩, rfl⟩ ?_
    obtain rfl := Option.some.inj hp
    exact Rn.fin rfl rfl rfl
  rw [if_neg h2] at hp
  by_cases h3 : vhn = (2 : Int32)
  · subst h3
    rw [if_pos rfl] at hp
    refine Rn.go 9 (pc' := 13) (lv' := [(0, .ref 0), (1, .ref 75), (2, .ref 81)]) (st' := [.int (1 : Int32), .ref 0]) (es' := (wHK (2 : Int32) vhs vhN vhP vn vg)) (c' := 0) (s' := 0) rfl ?_
    refine Rn.go 13 (pc' := 36) (lv' := [(0, .ref 0), (1, .ref 75), (2, .ref 81)]) (st' := [.ref 8, .ref 75]) (es' := (wHK (1 : Int32) (vhs - (1 : Int32)) vhN vhP vn vg)) (c' := 0) (s' := 0) rfl ?_
    obtain ⟨z5, hz5, hp⟩ := ob_some hp
    refine Rn.rel (pc' := 39) (lv' := [(0, .ref 0), (1, .ref 75), (2, .ref 81)]) (st' := []) (es' := (wHK (1 : Int32) (vhs - (1 : Int32)) vhN vhP z5 vg)) (dc := 0) (ds := 0) rfl ⟨75, [.ref 8], _, [75, 76, 77, 78, 79, 80, 8, 9, 10, 11, 12, 13], .inl none, (wX2_copyFrom z5.1 z5.2.1 z5.2.2.1 z5.2.2.2.1 z5.2.2.2.2.1 z5.2.2.2.2.2.1 z5.2.2.2.2.2.2.1 z5.2.2.2.2.2.2.2 ((vhN 1).1) ((vhN 1).2.1) ((vhN 1).2.2.1) ((vhN 1).2.2.2.1) ((vhN 1).2.2.2.2.1) ((vhN 1).2.2.2.2.2.1) ((vhN 1).2.2.2.2.2.2.1) ((vhN 1).2.2.2.2.2.2.2)), 0, 0, rfl, rfl, Nat.le_of_ble_eq_true rfl, rfl, ⟨vn.1, vn.2.1, vn.2.2.1, vn.2.2.2.1, vn.2.2.2.2.1, vn.2.2.2.2.2.1, vn.2.2.2.2.2.2.1, vn.2.2.2.2.2.2.2, (vhN 1).1, (vhN 1).2.1, (vhN 1).2.2.1, (vhN 1).2.2.2.1, (vhN 1).2.2.2.2.1, (vhN 1).2.2.2.2.2.1, (vhN 1).2.2.2.2.2.2.1, (vhN 1).2.2.2.2.2.2.2, z5, rfl, rfl, hz5, rfl⟩, rfl⟩ ?_
    refine Rn.go 6 (pc' := 49) (lv' := [(0, .ref 0), (1, .ref 75), (2, .ref 81)]) (st' := [.ref 54, .ref 81]) (es' := (wHK (1 : Int32) (vhs - (1 : Int32)) vhN vhP z5 vg)) (c' := 0) (s' := 0) rfl ?_
    obtain ⟨z6, hz6, hp⟩ := ob_some hp
    refine Rn.rel (pc' := 52) (lv' := [(0, .ref 0), (1, .ref 75), (2, .ref 81)]) (st' := []) (es' := (wHK (1 : Int32) (vhs - (1 : Int32)) vhN vhP z5 z6)) (dc := 0) (ds := 0) rfl ⟨81, [.ref 54], _, [81, 82, 83, 54, 55, 56], .inl none, (wX5_copyFrom z6.1 z6.2.1 z6.2.2.1 z6.2.2.2.1 z6.2.2.2.2.1 z6.2.2.2.2.2.1 z6.2.2.2.2.2.2 ((vhP 1).1) ((vhP 1).2.1) ((vhP 1).2.2.1) ((vhP 1).2.2.2.1) ((vhP 1).2.2.2.2.1) ((vhP 1).2.2.2.2.2.1) ((vhP 1).2.2.2.2.2.2)), 0, 0, rfl, rfl, Nat.le_of_ble_eq_true rfl, rfl, ⟨vg.1, vg.2.1, vg.2.2.1, vg.2.2.2.1, vg.2.2.2.2.1, vg.2.2.2.2.2.1, vg.2.2.2.2.2.2, (vhP 1).1, (vhP 1).2.1, (vhP 1).2.2.1, (vhP 1).2.2.2.1, (vhP 1).2.2.2.2.1, (vhP 1).2.2.2.2.2.1, (vhP 1).2.2.2.2.2.2, z6, rfl, rfl, hz6, rfl⟩, rfl⟩ ?_
    obtain rfl := Option.some.inj hp
    exact Rn.fin rfl rfl rfl
  rw [if_neg h3] at hp
  by_cases h4 : vhn = (3 : Int32)
  · subst h4
    rw [if_pos rfl] at hp
    refine Rn.go 9 (pc' := 13) (lv' := [(0, .ref 0), (1, .ref 75), (2, .ref 81)]) (st' := [.int (2 : Int32), .ref 0]) (es' := (wHK (3 : Int32) vhs vhN vhP vn vg)) (c' := 0) (s' := 0) rfl ?_
    refine Rn.go 13 (pc' := 36) (lv' := [(0, .ref 0), (1, .ref 75), (2, .ref 81)]) (st' := [.ref 14, .ref 75]) (es' := (wHK (2 : Int32) (vhs - (1 : Int32)) vhN vhP vn vg)) (c' := 0) (s' := 0) rfl ?_
    obtain ⟨z7, hz7, hp⟩ := ob_some hp
    refine Rn.rel (pc' := 39) (lv' := [(0, .ref 0), (1, .ref 75), (2, .ref 81)]) (st' := []) (es' := (wHK (2 : Int32) (vhs - (1 : Int32)) vhN vhP z7 vg)) (dc := 0) (ds := 0) rfl ⟨75, [.ref 14], _, [75, 76, 77, 78, 79, 80, 14, 15, 16, 17, 18, 19], .inl none, (wX2_copyFrom z7.1 z7.2.1 z7.2.2.1 z7.2.2.2.1 z7.2.2.2.2.1 z7.2.2.2.2.2.1 z7.2.2.2.2.2.2.1 z7.2.2.2.2.2.2.2 ((vhN 2).1) ((vhN 2).2.1) ((vhN 2).2.2.1) ((vhN 2).2.2.2.1) ((vhN 2).2.2.2.2.1) ((vhN 2).2.2.2.2.2.1) ((vhN 2).2.2.2.2.2.2.1) ((vhN 2).2.2.2.2.2.2.2)), 0, 0, rfl, rfl, Nat.le_of_ble_eq_true rfl, rfl, ⟨vn.1, vn.2.1, vn.2.2.1, vn.2.2.2.1, vn.2.2.2.2.1, vn.2.2.2.2.2.1, vn.2.2.2.2.2.2.1, vn.2.2.2.2.2.2.2, (vhN 2).1, (vhN 2).2.1, (vhN 2).2.2.1, (vhN 2).2.2.2.1, (vhN 2).2.2.2.2.1, (vhN 2).2.2.2.2.2.1, (vhN 2).2.2.2.2.2.2.1, (vhN 2).2.2.2.2.2.2.2, z7, rfl, rfl, hz7, rfl⟩, rfl⟩ ?_
    refine Rn.go 6 (pc' := 49) (lv' := [(0, .ref 0), (1, .ref 75), (2, .ref 81)]) (st' := [.ref 57, .ref 81]) (es' := (wHK (2 : Int32) (vhs - (1 : Int32)) vhN vhP z7 vg)) (c' := 0) (s' := 0) rfl ?_
    obtain ⟨z8, hz8, hp⟩ := ob_some hp
    refine Rn.rel (pc' := 52) (lv' := [(0, .ref 0), (1, .ref 75), (2, .ref 81)]) (st' := []) (es' := (wHK (2 : Int32) (vhs - (1 : Int32)) vhN vhP z7 z8)) (dc := 0) (ds := 0) rfl ⟨81, [.ref 57], _, [81, 82, 83, 57, 58, 59], .inl none, (wX5_copyFrom z8.1 z8.2.1 z8.2.2.1 z8.2.2.2.1 z8.2.2.2.2.1 z8.2.2.2.2.2.1 z8.2.2.2.2.2.2 ((vhP 2).1) ((vhP 2).2.1) ((vhP 2).2.2.1) ((vhP 2).2.2.2.1) ((vhP 2).2.2.2.2.1) ((vhP 2).2.2.2.2.2.1) ((vhP 2).2.2.2.2.2.2)), 0, 0, rfl, rfl, Nat.le_of_ble_eq_true rfl, rfl, ⟨vg.1, vg.2.1, vg.2.2.1, vg.2.2.2.1, vg.2.2.2.2.1, vg.2.2.2.2.2.1, vg.2.2.2.2.2.2, (vhP 2).1, (vhP 2).2.1, (vhP 2).2.2.1, (vhP 2).2.2.2.1, (vhP 2).2.2.2.2.1, (vhP 2).2.2.2.2.2.1, (vhP 2).2.2.2.2.2.2, z8, rfl, rfl, hz8, rfl⟩, rfl⟩ ?_
    obtain rfl := Option.some.inj hp
    exact Rn.fin rfl rfl rfl
  rw [if_neg h4] at hp
  by_cases h5 : vhn = (4 : Int32)
  · subst h5
    rw [if_pos rfl] at hp
    refine Rn.go 9 (pc' := 13) (lv' := [(0, .ref 0), (1, .ref 75), (2, .ref 81)]) (st' := [.int (3 : Int32), .ref 0]) (es' := (wHK (4 : Int32) vhs vhN vhP vn vg)) (c' := 0) (s' := 0) rfl ?_
    refine Rn.go 13 (pc' := 36) (lv' := [(0, .ref 0), (1, .ref 75), (2, .ref 81)]) (st' := [.ref 20, .ref 75]) (es' := (wHK (3 : Int32) (vhs - (1 : Int32)) vhN vhP vn vg)) (c' := 0) (s' := 0) rfl ?_
    obtain ⟨z9, hz9, hp⟩ := ob_some hp
    refine Rn.rel (pc' := 39) (lv' := [(0, .ref 0), (1, .ref 75), (2, .ref 81)]) (st' := []) (es' := (wHK (3 : Int32) (vhs - (1 : Int32)) vhN vhP z9 vg)) (dc := 0) (ds := 0) rfl ⟨75, [.ref 20], _, [75, 76, 77, 78, 79, 80, 20, 21, 22, 23, 24, 25], .inl none, (wX2_copyFrom z9.1 z9.2.1 z9.2.2.1 z9.2.2.2.1 z9.2.2.2.2.1 z9.2.2.2.2.2.1 z9.2.2.2.2.2.2.1 z9.2.2.2.2.2.2.2 ((vhN 3).1) ((vhN 3).2.1) ((vhN 3).2.2.1) ((vhN 3).2.2.2.1) ((vhN 3).2.2.2.2.1) ((vhN 3).2.2.2.2.2.1) ((vhN 3).2.2.2.2.2.2.1) ((vhN 3).2.2.2.2.2.2.2)), 0, 0, rfl, rfl, Nat.le_of_ble_eq_true rfl, rfl, ⟨vn.1, vn.2.1, vn.2.2.1, vn.2.2.2.1, vn.2.2.2.2.1, vn.2.2.2.2.2.1, vn.2.2.2.2.2.2.1, vn.2.2.2.2.2.2.2, (vhN 3).1, (vhN 3).2.1, (vhN 3).2.2.1, (vhN 3).2.2.2.1, (vhN 3).2.2.2.2.1, (vhN 3).2.2.2.2.2.1, (vhN 3).2.2.2.2.2.2.1, (vhN 3).2.2.2.2.2.2.2, z9, rfl, rfl, hz9, rfl⟩, rfl⟩ ?_
    refine Rn.go 6 (pc' := 49) (lv' := [(0, .ref 0), (1, .ref 75), (2, .ref 81)]) (st' := [.ref 60, .ref 81]) (es' := (wHK (3 : Int32) (vhs - (1 : Int32)) vhN vhP z9 vg)) (c' := 0) (s' := 0) rfl ?_
    obtain ⟨z10, hz10, hp⟩ := ob_some hp
    refine Rn.rel (pc' := 52) (lv' := [(0, .ref 0), (1, .ref 75), (2, .ref 81)]) (st' := []) (es' := (wHK (3 : Int32) (vhs - (1 : Int32)) vhN vhP z9 z10)) (dc := 0) (ds := 0) rfl ⟨81, [.ref 60], _, [81, 82, 83, 60, 61, 62], .inl none, (wX5_copyFrom z10.1 z10.2.1 z10.2.2.1 z10.2.2.2.1 z10.2.2.2.2.1 z10.2.2.2.2.2.1 z10.2.2.2.2.2.2 ((vhP 3).1) ((vhP 3).2.1) ((vhP 3).2.2.1) ((vhP 3).2.2.2.1) ((vhP 3).2.2.2.2.1) ((vhP 3).2.2.2.2.2.1) ((vhP 3).2.2.2.2.2.2)), 0, 0, rfl, rfl, Nat.le_of_ble_eq_true rfl, rfl, ⟨vg.1, vg.2.1, vg.2.2.1, vg.2.2.2.1, vg.2.2.2.2.1, vg.2.2.2.2.2.1, vg.2.2.2.2.2.2, (vhP 3).1, (vhP 3).2.1, (vhP 3).2.2.1, (vhP 3).2.2.2.1, (vhP 3).2.2.2.2.1, (vhP 3).2.2.2.2.2.1, (vhP 3).2.2.2.2.2.2, z10, rfl, rfl, hz10, rfl⟩, rfl⟩ ?_
    obtain rfl := Option.some.inj hp
    exact Rn.fin rfl rfl rfl
  rw [if_neg h5] at hp
  by_cases h6 : vhn = (5 : Int32)
  · subst h6
    rw [if_pos rfl] at hp
    refine Rn.go 9 (pc' := 13) (lv' := [(0, .ref 0), (1, .ref 75), (2, .ref 81)]) (st' := [.int (4 : Int32), .ref 0]) (es' := (wHK (5 : Int32) vhs vhN vhP vn vg)) (c' := 0) (s' := 0) rfl ?_
    refine Rn.go 13 (pc' := 36) (lv' := [(0, .ref 0), (1, .ref 75), (2, .ref 81)]) (st' := [.ref 26, .ref 75]) (es' := (wHK (4 : Int32) (vhs - (1 : Int32)) vhN vhP vn vg)) (c' := 0) (s' := 0) rfl ?_
    obtain ⟨z11, hz11, hp⟩ := ob_some hp
    refine Rn.rel (pc' := 39) (lv' := [(0, .ref 0), (1, .ref 75), (2, .ref 81)]) (st' := []) (es' := (wHK (4 : Int32) (vhs - (1 : Int32)) vhN vhP z11 vg)) (dc := 0) (ds := 0) rfl ⟨75, [.ref 26], _, [75, 76, 77, 78, 79, 80, 26, 27, 28, 29, 30, 31], .inl none, (wX2_copyFrom z11.1 z11.2.1 z11.2.2.1 z11.2.2.2.1 z11.2.2.2.2.1 z11.2.2.2.2.2.1 z11.2.2.2.2.2.2.1 z11.2.2.2.2.2.2.2 ((vhN 4).1) ((vhN 4).2.1) ((vhN 4).2.2.1) ((vhN 4).2.2.2.1) ((vhN 4).2.2.2.2.1) ((vhN 4).2.2.2.2.2.1) ((vhN 4).2.2.2.2.2.2.1) ((vhN 4).2.2.2.2.2.2.2)), 0, 0, rfl, rfl, Nat.le_of_ble_eq_true rfl, rfl, ⟨vn.1, vn.2.1, vn.2.2.1, vn.2.2.2.1, vn.2.2.2.2.1, vn.2.2.2.2.2.1, vn.2.2.2.2.2.2.1, vn.2.2.2.2.2.2.2, (vhN 4).1, (vhN 4).2.1, (vhN 4).2.2.1, (vhN 4).2.2.2.1, (vhN 4).2.2.2.2.1, (vhN 4).2.2.2.2.2.1, (vhN 4).2.2.2.2.2.2.1, (vhN 4).2.2.2.2.2.2.2, z11, rfl, rfl, hz11, rfl⟩, rfl⟩ ?_
    refine Rn.go 6 (pc' := 49) (lv' := [(0, .ref 0), (1, .ref 75), (2, .ref 81)]) (st' := [.ref 63, .ref 81]) (es' := (wHK (4 : Int32) (vhs - (1 : Int32)) vhN vhP z11 vg)) (c' := 0) (s' := 0) rfl ?_
    obtain ⟨z12, hz12, hp⟩ := ob_some hp
    refine Rn.rel (pc' := 52) (lv' := [(0, .ref 0), (1, .ref 75), (2, .ref 81)]) (st' := []) (es' := (wHK (4 : Int32) (vhs - (1 : Int32)) vhN vhP z11 z12)) (dc := 0) (ds := 0) rfl ⟨81, [.ref 63], _, [81, 82, 83, 63, 64, 65], .inl none, (wX5_copyFrom z12.1 z12.2.1 z12.2.2.1 z12.2.2.2.1 z12.2.2.2.2.1 z12.2.2.2.2.2.1 z12.2.2.2.2.2.2 ((vhP 4).1) ((vhP 4).2.1) ((vhP 4).2.2.1) ((vhP 4).2.2.2.1) ((vhP 4).2.2.2.2.1) ((vhP 4).2.2.2.2.2.1) ((vhP 4).2.2.2.2.2.2)), 0, 0, rfl, rfl, Nat.le_of_ble_eq_true rfl, rfl, ⟨vg.1, vg.2.1, vg.2.2.1, vg.2.2.2.1, vg.2.2.2.2.1, vg.2.2.2.2.2.1, vg.2.2.2.2.2.2, (vhP 4).1, (vhP 4).2.1, (vhP 4).2.2.1, (vhP 4).2.2.2.1, (vhP 4).2.2.2.2.1, (vhP 4).2.2.2.2.2.1, (vhP 4).2.2.2.2.2.2, z12, rfl, rfl, hz12, rfl⟩, rfl⟩ ?_
    obtain rfl := Option.some.inj hp
    exact Rn.fin rfl rfl rfl
  rw [if_neg h6] at hp
  by_cases h7 : vhn = (6 : Int32)
  · subst h7
    rw [if_pos rfl] at hp
    refine Rn.go 9 (pc' := 13) (lv' := [(0, .ref 0), (1, .ref 75), (2, .ref 81)]) (st' := [.int (5 : Int32), .ref 0]) (es' := (wHK (6 : Int32) vhs vhN vhP vn vg)) (c' := 0) (s' := 0) rfl ?_
    refine Rn.go 13 (pc' := 36) (lv' := [(0, .ref 0), (1, .ref 75), (2, .ref 81)]) (st' := [.ref 32, .ref 75]) (es' := (wHK (5 : Int32) (vhs - (1 : Int32)) vhN vhP vn vg)) (c' := 0) (s' := 0) rfl ?_
    obtain ⟨z13, hz13, hp⟩ := ob_some hp
    refine Rn.rel (pc' := 39) (lv' := [(0, .ref 0), (1, .ref 75), (2, .ref 81)]) (st' := []) (es' := (wHK (5 : Int32) (vhs - (1 : Int32)) vhN vhP z13 vg)) (dc := 0) (ds := 0) rfl ⟨75, [.ref 32], _, [75, 76, 77, 78, 79, 80, 32, 33, 34, 35, 36, 37], .inl none, (wX2_copyFrom z13.1 z13.2.1 z13.2.2.1 z13.2.2.2.1 z13.2.2.2.2.1 z13.2.2.2.2.2.1 z13.2.2.2.2.2.2.1 z13.2.2.2.2.2.2.2 ((vhN 5).1) ((vhN 5).2.1) ((vhN 5).2.2.1) ((vhN 5).2.2.2.1) ((vhN 5).2.2.2.2.1) ((vhN 5).2.2.2.2.2.1) ((vhN 5).2.2.2.2.2.2.1) ((vhN 5).2.2.2.2.2.2.2)), 0, 0, rfl, rfl, Nat.le_of_ble_eq_true rfl, rfl, ⟨vn.1, vn.2.1, vn.2.2.1, vn.2.2.2.1, vn.2.2.2.2.1, vn.2.2.2.2.2.1, vn.2.2.2.2.2.2.1, vn.2.2.2.2.2.2.2, (vhN 5).1, (vhN 5).2.1, (vhN 5).2.2.1, (vhN 5).2.2.2.1, (vhN 5).2.2.2.2.1, (vhN 5).2.2.2.2.2.1, (vhN 5).2.2.2.2.2.2.1, (vhN 5).2.2.2.2.2.2.2, z13, rfl, rfl, hz13, rfl⟩, rfl⟩ ?_
    refine Rn.go 6 (pc' := 49) (lv' := [(0, .ref 0), (1, .ref 75), (2, .ref 81)]) (st' := [.ref 66, .ref 81]) (es' := (wHK (5 : Int32) (vhs - (1 : Int32)) vhN vhP z13 vg)) (c' := 0) (s' := 0) rfl ?_
    obtain ⟨z14, hz14, hp⟩ := ob_some hp
    refine Rn.rel (pc' := 52) (lv' := [(0, .ref 0), (1, .ref 75), (2, .ref 81)]) (st' := []) (es' := (wHK (5 : Int32) (vhs - (1 : Int32)) vhN vhP z13 z14)) (dc := 0) (ds := 0) rfl ⟨81, [.ref 66], _, [81, 82, 83, 66, 67, 68], .inl none, (wX5_copyFrom z14.1 z14.2.1 z14.2.2.1 z14.2.2.2.1 z14.2.2.2.2.1 z14.2.2.2.2.2.1 z14.2.2.2.2.2.2 ((vhP 5).1) ((vhP 5).2.1) ((vhP 5).2.2.1) ((vhP 5).2.2.2.1) ((vhP 5).2.2.2.2.1) ((vhP 5).2.2.2.2.2.1) ((vhP 5).2.2.2.2.2.2)), 0, 0, rfl, rfl, Nat.le_of_ble_eq_true rfl, rfl, ⟨vg.1, vg.2.1, vg.2.2.1, vg.2.2.2.1, vg.2.2.2.2.1, vg.2.2.2.2.2.1, vg.2.2.2.2.2.2, (vhP 5).1, (vhP 5).2.1, (vhP 5).2.2.1, (vhP 5).2.2.2.1, (vhP 5).2.2.2.2.1, (vhP 5).2.2.2.2.2.1, (vhP 5).2.2.2.2.2.2, z14, rfl, rfl, hz14, rfl⟩, rfl⟩ ?_
    obtain rfl := Option.some.inj hp
    exact Rn.fin rfl rfl rfl
  rw [if_neg h7] at hp
  by_cases h8 : vhn = (7 : Int32)
  · subst h8
    rw [if_pos rfl] at hp
    refine Rn.go 9 (pc' := 13) (lv' := [(0, .ref 0), (1, .ref 75), (2, .ref 81)]) (st' := [.int (6 : Int32), .ref 0]) (es' := (wHK (7 : Int32) vhs vhN vhP vn vg)) (c' := 0) (s' := 0) rfl ?_
    refine Rn.go 13 (pc' := 36) (lv' := [(0, .ref 0), (1, .ref 75), (2, .ref 81)]) (st' := [.ref 38, .ref 75]) (es' := (wHK (6 : Int32) (vhs - (1 : Int32)) vhN vhP vn vg)) (c' := 0) (s' := 0) rfl ?_
    obtain ⟨z15, hz15, hp⟩ := ob_some hp
    refine Rn.rel (pc' := 39) (lv' := [(0, .ref 0), (1, .ref 75), (2, .ref 81)]) (st' := []) (es' := (wHK (6 : Int32) (vhs - (1 : Int32)) vhN vhP z15 vg)) (dc := 0) (ds := 0) rfl ⟨75, [.ref 38], _, [75, 76, 77, 78, 79, 80, 38, 39, 40, 41, 42, 43], .inl none, (wX2_copyFrom z15.1 z15.2.1 z15.2.2.1 z15.2.2.2.1 z15.2.2.2.2.1 z15.2.2.2.2.2.1 z15.2.2.2.2.2.2.1 z15.2.2.2.2.2.2.2 ((vhN 6).1) ((vhN 6).2.1) ((vhN 6).2.2.1) ((vhN 6).2.2.2.1) ((vhN 6).2.2.2.2.1) ((vhN 6).2.2.2.2.2.1) ((vhN 6).2.2.2.2.2.2.1) ((vhN 6).2.2.2.2.2.2.2)), 0, 0, rfl, rfl, Nat.le_of_ble_eq_true rfl, rfl, ⟨vn.1, vn.2.1, vn.2.2.1, vn.2.2.2.1, vn.2.2.2.2.1, vn.2.2.2.2.2.1, vn.2.2.2.2.2.2.1, vn.2.2.2.2.2.2.2, (vhN 6).1, (vhN 6).2.1, (vhN 6).2.2.1, (vhN 6).2.2.2.1, (vhN 6).2.2.2.2.1, (vhN 6).2.2.2.2.2.1, (vhN 6).2.2.2.2.2.2.1, (vhN 6).2.2.2.2.2.2.2, z15, rfl, rfl, hz15, rfl⟩, rfl⟩ ?_
    refine Rn.go 6 (pc' := 49) (lv' := [(0, .ref 0), (1, .ref 75), (2, .ref 81)]) (st' := [.ref 69, .ref 81]) (es' := (wHK (6 : Int32) (vhs - (1 : Int32)) vhN vhP z15 vg)) (c' := 0) (s' := 0) rfl ?_
    obtain ⟨z16, hz16, hp⟩ := ob_some hp
    refine Rn.rel (pc' := 52) (lv' := [(0, .ref 0), (1, .ref 75), (2, .ref 81)]) (st' := []) (es' := (wHK (6 : Int32) (vhs - (1 : Int32)) vhN vhP z15 z16)) (dc := 0) (ds := 0) rfl ⟨81, [.ref 69], _, [81, 82, 83, 69, 70, 71], .inl none, (wX5_copyFrom z16.1 z16.2.1 z16.2.2.1 z16.2.2.2.1 z16.2.2.2.2.1 z16.2.2.2.2.2.1 z16.2.2.2.2.2.2 ((vhP 6).1) ((vhP 6).2.1) ((vhP 6).2.2.1) ((vhP 6).2.2.2.1) ((vhP 6).2.2.2.2.1) ((vhP 6).2.2.2.2.2.1) ((vhP 6).2.2.2.2.2.2)), 0, 0, rfl, rfl, Nat.le_of_ble_eq_true rfl, rfl, ⟨vg.1, vg.2.1, vg.2.2.1, vg.2.2.2.1, vg.2.2.2.2.1, vg.2.2.2.2.2.1, vg.2.2.2.2.2.2, (vhP 6).1, (vhP 6).2.1, (vhP 6).2.2.1, (vhP 6).2.2.2.1, (vhP 6).2.2.2.2.1, (vhP 6).2.2.2.2.2.1, (vhP 6).2.2.2.2.2.2, z16, rfl, rfl, hz16, rfl⟩, rfl⟩ ?_
    obtain rfl := Option.some.inj hp
    exact Rn.fin rfl rfl rfl
  rw [if_neg h8] at hp
  cases hp
theorem qX1_takeBack : CtA yX1_takeBack (.code yX1_takeBack cX1_takeBack 3 none) 2 81 [] rX1_takeBack := CtA.of (by decide +kernel) (fun pc op h => kX1_takeBack _ (lkp_mem h)) oX1_takeBack
