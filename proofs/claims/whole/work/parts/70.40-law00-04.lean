/-! TelescopeNightLaw.turnsOf(LTelescopeNight;I[J)I -/
def rL_turnsOf_1 : List Value → List va_E → op_O → Prop := fun avs es r => ∃ (x1 : Int32) (vr : RdS) (vd : NiS) (vn : NiS) (vg : PrS) (vhn : Int32) (vhs : Int32) (vhN : Nat → NiS) (vhP : Nat → PrS) (vt : ReS) (vu : ReS) (vp : PlS) (vq : DeS) (ve : Int32) (vo : Nat → Int64) (z : Int32 × (Nat → Int64) × Nat × Nat), avs = [.ref 0, .int x1, .ref 113] ∧ es = (wTO vr vd vn vg vhn vhs vhN vhP vt vu vp vq ve vo) ∧ pL_turnsOf_1 x1 vn vg vo = some z ∧ r = (.inl (some (.int z.1)), (wTO vr vd vn vg vhn vhs vhN vhP vt vu vp vq ve z.2.1), z.2.2.1, z.2.2.2)
def bL_turnsOf_1 : List (Nat × (op_T ⊕ op_R)) := [(0, .inl (o_aload 1 2)), (1, .inl (o_push 2 (.int (0)))), (2, .inl (o_aload 3 0)), (3, .inl (o_iload 4 1)), (4, .inr (o_callVH [] [] 7 1 8 3 [("java/lang/IndexOutOfBoundsException", 13)] rX8_turnsOf)), (7, .inl (o_i2l 8)), (8, .inl (o_last 9)), (9, .inl (o_goto 15)), (13, .inl (o_push 14 (.int (1)))), (14, .inl (o_iret)), (15, .inl (o_push 16 (.int (0)))), (16, .inl (o_iret))]
set_option maxRecDepth 100000 in
set_option maxHeartbeats 4000000 in
theorem kL_turnsOf_1 : ∀ q ∈ bL_turnsOf_1, ok2 8 132 4 cL_turnsOf yL_turnsOf.cls yL_turnsOf.name (some .int) (.codeWith yL_turnsOf cL_turnsOf 4 (some .int) [(0, 9, 12, 28)]) (tableOf [(0, 9, 12, 28)]) [] q.1 q.2 := (al_c (s_aload_n (k := 2) (by decide +kernel)) (al_c (s_iconst (n := 0) (0) (by decide) (by decide +kernel)) (al_c (s_aload_n (k := 0) (by decide +kernel)) (al_c (s_iload_n (k := 1) (by decide +kernel)) (al_c (s_callVH (tb := tableOf [(0, 9, 12, 28)]) (by decide) (fun q hq => by rcases List.mem_singleton.mp hq with rfl; exact ⟨[], ⟨0, 9, 12, 28⟩, [], "java/lang/IndexOutOfBoundsException", rfl, (fun z hz => by cases hz), by decide, by decide, w_948, by decide, Or.inr ⟨3, rfl, by decide +kernel, rfl⟩⟩) (y := yX8_turnsOf) (bytes := cX8_turnsOf) (maxL := 2) (ret' := (some .int)) (fr' := 7) (lo' := 111) (n := 1) (ml := []) (mlc := []) (ci := 8) (q9 := (RX8, TX8, 10)) qX8_turnsOf w_1128 w_1129 w_1130 w_1 w_1131 ⟨by decide +kernel, by decide +kernel, by decide +kernel⟩ rfl rfl (by decide) (by decide) (by decide +kernel)) (al_c (s_i2l (by decide +kernel)) (al_c (s_last (by decide +kernel)) (al_c (s_goto (off := 6) 15 (by decide) (by decide +kernel)) (al_c (s_iconst (n := 1) (1) (by decide) (by decide +kernel)) (al_c (s_iret rfl (by decide +kernel)) (al_c (s_iconst (n := 0) (0) (by decide) (by decide +kernel)) (al_c (s_iret rfl (by decide +kernel)) al_n))))))))))))
set_option maxRecDepth 100000 in
set_option maxHeartbeats 4000000 in
theorem oL_turnsOf_1 : Of (lkp bL_turnsOf_1) 4 rL_turnsOf_1 := by
  intro avs es r h
  obtain ⟨x1, vr, vd, vn, vg, vhn, vhs, vhN, vhP, vt, vu, vp, vq, ve, vo, z, rfl, rfl, hp, rfl⟩ := h
  refine ⟨Nat.le_of_ble_eq_true rfl, ?_⟩
  unfold pL_turnsOf_1 at hp
  refine Rn.go 4 (pc' := 4) (lv' := [(0, .ref 0), (1, .int x1), (2, .ref 113)]) (st' := [.int x1, .ref 0, .int (0 : Int32), .ref 113]) (es' := (wTO vr vd vn vg vhn vhs vhN vhP vt vu vp vq ve vo)) (c' := 0) (s' := 0) rfl ?_
  obtain ⟨z1, hz1, hp⟩ := ob_some hp
  obtain ⟨(z1v | z1e), z1r⟩ := z1
  · dsimp only at hp
    refine Rn.rel (pc' := 7) (lv' := [(0, .ref 0), (1, .int x1), (2, .ref 113)]) (st' := [.int z1v, .int (0 : Int32), .ref 113]) (es' := (wTO vr vd vn vg vhn vhs vhN vhP vt vu vp vq ve vo)) (dc := z1r.1) (ds := z1r.2) rfl ⟨0, [.int x1], _, [0, 1, 2, 3, 4, 5, 6, 7, 8, 9, 10, 11, 12, 13, 14, 15, 16, 17, 18, 19, 20, 21, 22, 23, 24, 25, 26, 27, 28, 29, 30, 31, 32, 33, 34, 35, 36, 37, 38, 39, 40, 41, 42, 43, 44, 45, 46, 47, 48, 49, 50, 51, 52, 53, 54, 55, 56, 57, 58, 59, 60, 61, 62, 63, 64, 65, 66, 67, 68, 69, 70, 71, 72, 73, 74, 75, 76, 77, 78, 79, 80, 81, 82, 83, 84, 85, 86, 87, 88, 89, 90, 91, 92, 93, 94, 95, 96, 97, 98, 99, 100, 101, 102, 103, 104, 105, 106, 107, 108, 109, 110, 111, 112], .inl (some (.int z1v)), (wTN vr vd vn vg vhn vhs vhN vhP vt vu vp vq ve), z1r.1, z1r.2, rfl, rfl, Nat.le_of_ble_eq_true rfl, rfl, ⟨x1, vr, vd, vn, vg, vhn, vhs, vhN, vhP, vt, vu, vp, vq, ve, (.inl z1v, z1r), rfl, rfl, hz1, rfl⟩, rfl, Or.inl ⟨_, rfl, rfl⟩⟩ ?_
    refine Rn.go0 2 (pc' := 9) (lv' := [(0, .ref 0), (1, .int x1), (2, .ref 113)]) (st' := []) (es' := (wTO vr vd vn vg vhn vhs vhN vhP vt vu vp vq ve (vp_updL vo 0 z1v.toInt64))) rfl ?_
    refine Rn.go0 2 (pc' := 16) (lv' := [(0, .ref 0), (1, .int x1), (2, .ref 113)]) (st' := [.int (0 : Int32)]) (es' := (wTO vr vd vn vg vhn vhs vhN vhP vt vu vp vq ve (vp_updL vo 0 z1v.toInt64))) rfl ?_
    obtain rfl := Option.some.inj hp
    exact Rn.fin rfl rfl rfl
  · dsimp only at hp
    by_cases h1 : z1e = "java/lang/IndexOutOfBoundsException"
    · subst h1
      rw [if_pos rfl] at hp
      refine Rn.rel (pc' := 13) (lv' := [(0, .ref 0), (1, .int x1), (2, .ref 113)]) (st' := []) (es' := (wTO vr vd vn vg vhn vhs vhN vhP vt vu vp vq ve vo)) (dc := z1r.1) (ds := z1r.2) rfl ⟨0, [.int x1], _, [0, 1, 2, 3, 4, 5, 6, 7, 8, 9, 10, 11, 12, 13, 14, 15, 16, 17, 18, 19, 20, 21, 22, 23, 24, 25, 26, 27, 28, 29, 30, 31, 32, 33, 34, 35, 36, 37, 38, 39, 40, 41, 42, 43, 44, 45, 46, 47, 48, 49, 50, 51, 52, 53, 54, 55, 56, 57, 58, 59, 60, 61, 62, 63, 64, 65, 66, 67, 68, 69, 70, 71, 72, 73, 74, 75, 76, 77, 78, 79, 80, 81, 82, 83, 84, 85, 86, 87, 88, 89, 90, 91, 92, 93, 94, 95, 96, 97, 98, 99, 100, 101, 102, 103, 104, 105, 106, 107, 108, 109, 110, 111, 112], .inr "java/lang/IndexOutOfBoundsException", (wTN vr vd vn vg vhn vhs vhN vhP vt vu vp vq ve), z1r.1, z1r.2, rfl, rfl, Nat.le_of_ble_eq_true rfl, rfl, ⟨x1, vr, vd, vn, vg, vhn, vhs, vhN, vhP, vt, vu, vp, vq, ve, (.inr "java/lang/IndexOutOfBoundsException", z1r), rfl, rfl, hz1, rfl⟩, rfl, Or.inr ⟨("java/lang/IndexOutOfBoundsException", 13), List.mem_cons_self, rfl, rfl⟩⟩ ?_
      refine Rn.go 1 (pc' := 14) (lv' := [(0, .ref 0), (1, .int x1), (2, .ref 113)]) (st' := [.int (1 : Int32)]) (es' := (wTO vr vd vn vg vhn vhs vhN vhP vt vu vp vq ve vo)) (c' := (0 + z1r.1)) (s' := (0 + z1r.2)) rfl ?_
      obtain rfl := Option.some.inj hp
      exact Rn.fin rfl rfl rfl
    rw [if_neg h1] at hp
    cases hp
theorem qL_turnsOf_1 : CtA yL_turnsOf (.codeWith yL_turnsOf cL_turnsOf 4 (some .int) [(0, 9, 12, 28)]) 8 132 [] rL_turnsOf_1 := CtA.ofH (by decide +kernel) (fun pc op h => kL_turnsOf_1 _ (lkp_mem h)) oL_turnsOf_1
/-! TelescopeNightLaw.exposures(LTelescopeNight;I[J)I -/
def rL_exposures_1 : List Value → List va_E → op_O → Prop := fun avs es r => ∃ (x1 : Int32) (vr : RdS) (vd : NiS) (vn : NiS) (vg : PrS) (vhn : Int32) (vhs : Int32) (vhN : Nat → NiS) (vhP : Nat → PrS) (vt : ReS) (vu : ReS) (vp : PlS) (vq : DeS) (ve : Int32) (vo : Nat → Int64) (z : Int32 × (Nat → Int64) × Nat × Nat), avs = [.ref 0, .int x1, .ref 113] ∧ es = (wTO vr vd vn vg vhn vhs vhN vhP vt vu vp vq ve vo) ∧ pL_exposures_1 x1 vn vg vo = some z ∧ r = (.inl (some (.int z.1)), (wTO vr vd vn vg vhn vhs vhN vhP vt vu vp vq ve z.2.1), z.2.2.1, z.2.2.2)
def bL_exposures_1 : List (Nat × (op_T ⊕ op_R)) := [(0, .inl (o_aload 1 2)), (1, .inl (o_push 2 (.int (0)))), (2, .inl (o_aload 3 0)), (3, .inl (o_iload 4 1)), (4, .inr (o_callVH [] [] 7 1 8 3 [("java/lang/IndexOutOfBoundsException", 13)] rX8_exposures)), (7, .inl (o_i2l 8)), (8, .inl (o_last 9)), (9, .inl (o_goto 15)), (13, .inl (o_push 14 (.int (1)))), (14, .inl (o_iret)), (15, .inl (o_push 16 (.int (0)))), (16, .inl (o_iret))]
set_option maxRecDepth 100000 in
set_option maxHeartbeats 4000000 in
theorem kL_exposures_1 : ∀ q ∈ bL_exposures_1, ok2 8 132 4 cL_exposures yL_exposures.cls yL_exposures.name (some .int) (.codeWith yL_exposures cL_exposures 4 (some .int) [(0, 9, 12, 28)]) (tableOf [(0, 9, 12, 28)]) [] q.1 q.2 := (al_c (s_aload_n (k := 2) (by decide +kernel)) (al_c (s_iconst (n := 0) (0) (by decide) (by decide +kernel)) (al_c (s_aload_n (k := 0) (by decide +kernel)) (al_c (s_iload_n (k := 1) (by decide +kernel)) (al_c (s_callVH (tb := tableOf [(0, 9, 12, 28)]) (by decide) (fun q hq => by rcases List.mem_singleton.mp hq with rfl; exact ⟨[], ⟨0, 9, 12, 28⟩, [], "java/lang/IndexOutOfBoundsException", rfl, (fun z hz => by cases hz), by decide, by decide, w_948, by decide, Or.inr ⟨3, rfl, by decide +kernel, rfl⟩⟩) (y := yX8_exposures) (bytes := cX8_exposures) (maxL := 2) (ret' := (some .int)) (fr' := 7) (lo' := 111) (n := 1) (ml := []) (mlc := []) (ci := 8) (q9 := (RX8, TX8, 10)) qX8_exposures w_1137 w_1138 w_1139 w_1 w_1140 ⟨by decide +kernel, by decide +kernel, by decide +kernel⟩ rfl rfl (by decide) (by decide) (by decide +kernel)) (al_c (s_i2l (by decide +kernel)) (al_c (s_last (by decide +kernel)) (al_c (s_goto (off := 6) 15 (by decide) (by decide +kernel)) (al_c (s_iconst (n := 1) (1) (by decide) (by decide +kernel)) (al_c (s_iret rfl (by decide +kernel)) (al_c (s_iconst (n := 0) (0) (by decide) (by decide +kernel)) (al_c (s_iret rfl (by decide +kernel)) al_n))))))))))))
set_option maxRecDepth 100000 in
set_option maxHeartbeats 4000000 in
theorem oL_exposures_1 : Of (lkp bL_exposures_1) 4 rL_exposures_1 := by
  intro avs es r h
  obtain ⟨x1, vr, vd, vn, vg, vhn, vhs, vhN, vhP, vt, vu, vp, vq, ve, vo, z, rfl, rfl, hp, rfl⟩ := h
  refine ⟨Nat.le_of_ble_eq_true rfl, ?_⟩
  unfold pL_exposures_1 at hp
  refine Rn.go 4 (pc' := 4) (lv' := [(0, .ref 0), (1, .int x1), (2, .ref 113)]) (st' := [.int x1, .ref 0, .int (0 : Int32), .ref 113]) (es' := (wTO vr vd vn vg vhn vhs vhN vhP vt vu vp vq ve vo)) (c' := 0) (s' := 0) rfl ?_
  obtain ⟨z1, hz1, hp⟩ := ob_some hp
  obtain ⟨(z1v | z1e), z1r⟩ := z1
  · dsimp only at hp
    refine Rn.rel (pc' := 7) (lv' := [(0, .ref 0), (1, .int x1), (2, .ref 113)]) (st' := [.int z1v, .int (0 : Int32), .ref 113]) (es' := (wTO vr vd vn vg vhn vhs vhN vhP vt vu vp vq ve vo)) (dc := z1r.1) (ds := z1r.2) rfl ⟨0, [.int x1], _, [0, 1, 2, 3, 4, 5, 6, 7, 8, 9, 10, 11, 12, 13, 14, 15, 16, 17, 18, 19, 20, 21, 22, 23, 24, 25, 26, 27, 28, 29, 30, 31, 32, 33, 34, 35, 36, 37, 38, 39, 40, 41, 42, 43, 44, 45, 46, 47, 48, 49, 50, 51, 52, 53, 54, 55, 56, 57, 58, 59, 60, 61, 62, 63, 64, 65, 66, 67, 68, 69, 70, 71, 72, 73, 74, 75, 76, 77, 78, 79, 80, 81, 82, 83, 84, 85, 86, 87, 88, 89, 90, 91, 92, 93, 94, 95, 96, 97, 98, 99, 100, 101, 102, 103, 104, 105, 106, 107, 108, 109, 110, 111, 112], .inl (some (.int z1v)), (wTN vr vd vn vg vhn vhs vhN vhP vt vu vp vq ve), z1r.1, z1r.2, rfl, rfl, Nat.le_of_ble_eq_true rfl, rfl, ⟨x1, vr, vd, vn, vg, vhn, vhs, vhN, vhP, vt, vu, vp, vq, ve, (.inl z1v, z1r), rfl, rfl, hz1, rfl⟩, rfl, Or.inl ⟨_, rfl, rfl⟩⟩ ?_
    refine Rn.go0 2 (pc' := 9) (lv' := [(0, .ref 0), (1, .int x1), (2, .ref 113)]) (st' := []) (es' := (wTO vr vd vn vg vhn vhs vhN vhP vt vu vp vq ve (vp_updL vo 0 z1v.toInt64))) rfl ?_
    refine Rn.go0 2 (pc' := 16) (lv' := [(0, .ref 0), (1, .int x1), (2, .ref 113)]) (st' := [.int (0 : Int32)]) (es' := (wTO vr vd vn vg vhn vhs vhN vhP vt vu vp vq ve (vp_updL vo 0 z1v.toInt64))) rfl ?_
    obtain rfl := Option.some.inj hp
    exact Rn.fin rfl rfl rfl
  · dsimp only at hp
    by_cases h1 : z1e = "java/lang/IndexOutOfBoundsException"
    · subst h1
      rw [if_pos rfl] at hp
      refine Rn.rel (pc' := 13) (lv' := [(0, .ref 0), (1, .int x1), (2, .ref 113)]) (st' := []) (es' := (wTO vr vd vn vg vhn vhs vhN vhP vt vu vp vq ve vo)) (dc := z1r.1) (ds := z1r.2) rfl ⟨0, [.int x1], _, [0, 1, 2, 3, 4, 5, 6, 7, 8, 9, 10, 11, 12, 13, 14, 15, 16, 17, 18, 19, 20, 21, 22, 23, 24, 25, 26, 27, 28, 29, 30, 31, 32, 33, 34, 35, 36, 37, 38, 39, 40, 41, 42, 43, 44, 45, 46, 47, 48, 49, 50, 51, 52, 53, 54, 55, 56, 57, 58, 59, 60, 61, 62, 63, 64, 65, 66, 67, 68, 69, 70, 71, 72, 73, 74, 75, 76, 77, 78, 79, 80, 81, 82, 83, 84, 85, 86, 87, 88, 89, 90, 91, 92, 93, 94, 95, 96, 97, 98, 99, 100, 101, 102, 103, 104, 105, 106, 107, 108, 109, 110, 111, 112], .inr "java/lang/IndexOutOfBoundsException", (wTN vr vd vn vg vhn vhs vhN vhP vt vu vp vq ve), z1r.1, z1r.2, rfl, rfl, Nat.le_of_ble_eq_true rfl, rfl, ⟨x1, vr, vd, vn, vg, vhn, vhs, vhN, vhP, vt, vu, vp, vq, ve, (.inr "java/lang/IndexOutOfBoundsException", z1r), rfl, rfl, hz1, rfl⟩, rfl, Or.inr ⟨("java/lang/IndexOutOfBoundsException", 13), List.mem_cons_self, rfl, rfl⟩⟩ ?_
      refine Rn.go 1 (pc' := 14) (lv' := [(0, .ref 0), (1, .int x1), (2, .ref 113)]) (st' := [.int (1 : Int32)]) (es' := (wTO vr vd vn vg vhn vhs vhN vhP vt vu vp vq ve vo)) (c' := (0 + z1r.1)) (s' := (0 + z1r.2)) rfl ?_
      obtain rfl := Option.some.inj hp
      exact Rn.fin rfl rfl rfl
    rw [if_neg h1] at hp
    cases hp
theorem qL_exposures_1 : CtA yL_exposures (.codeWith yL_exposures cL_exposures 4 (some .int) [(0, 9, 12, 28)]) 8 132 [] rL_exposures_1 := CtA.ofH (by decide +kernel) (fun pc op h => kL_exposures_1 _ (lkp_mem h)) oL_exposures_1
/-! TelescopeNightLaw.past(LTelescopeNight;II[J)I -/
def rL_past_1 : List Value → List va_E → op_O → Prop := fun avs es r => ∃ (x1 : Int32) (x2 : Int32) (vr : RdS) (vd : NiS) (vn : NiS) (vg : PrS) (vhn : Int32) (vhs : Int32) (vhN : Nat → NiS) (vhP : Nat → PrS) (vt : ReS) (vu : ReS) (vp : PlS) (vq : DeS) (ve : Int32) (vo : Nat → Int64) (z : Int32 × (Nat → Int64) × Nat × Nat), avs = [.ref 0, .int x1, .int x2, .ref 113] ∧ es = (wTO vr vd vn vg vhn vhs vhN vhP vt vu vp vq ve vo) ∧ pL_past_1 x1 x2 vn vg vo = some z ∧ r = (.inl (some (.int z.1)), (wTO vr vd vn vg vhn vhs vhN vhP vt vu vp vq ve z.2.1), z.2.2.1, z.2.2.2)
def bL_past_1 : List (Nat × (op_T ⊕ op_R)) := [(0, .inl (o_aload 1 3)), (1, .inl (o_push 2 (.int (0)))), (2, .inl (o_aload 3 0)), (3, .inl (o_iload 4 1)), (4, .inl (o_iload 5 2)), (5, .inr (o_callVH [] [] 8 2 8 4 [("java/lang/IndexOutOfBoundsException", 15), ("java/lang/IllegalArgumentException", 19)] rX8_past)), (8, .inl (o_i2l 9)), (9, .inl (o_last 10)), (10, .inl (o_goto 21)), (15, .inl (o_push 16 (.int (1)))), (16, .inl (o_iret)), (19, .inl (o_push 20 (.int (2)))), (20, .inl (o_iret)), (21, .inl (o_push 22 (.int (0)))), (22, .inl (o_iret))]
set_option maxRecDepth 100000 in
set_option maxHeartbeats 4000000 in
theorem kL_past_1 : ∀ q ∈ bL_past_1, ok2 8 133 5 cL_past yL_past.cls yL_past.name (some .int) (.codeWith yL_past cL_past 5 (some .int) [(0, 10, 13, 28), (0, 10, 17, 19)]) (tableOf [(0, 10, 13, 28), (0, 10, 17, 19)]) [] q.1 q.2 := (al_c (s_aload_n (k := 3) (by decide +kernel)) (al_c (s_iconst (n := 0) (0) (by decide) (by decide +kernel)) (al_c (s_aload_n (k := 0) (by decide +kernel)) (al_c (s_iload_n (k := 1) (by decide +kernel)) (al_c (s_iload_n (k := 2) (by decide +kernel)) (al_c (s_callVH (tb := tableOf [(0, 10, 13, 28), (0, 10, 17, 19)]) (by decide) (fun q hq => by rcases List.mem_cons.mp hq with rfl | hq; exact ⟨[], ⟨0, 10, 13, 28⟩, [⟨0, 10, 17, 19⟩], "java/lang/IndexOutOfBoundsException", rfl, (fun z hz => by cases hz), by decide, by decide, w_948, by decide, Or.inl ⟨by decide +kernel, rfl⟩⟩; rcases List.mem_singleton.mp hq with rfl; exact ⟨[⟨0, 10, 13, 28⟩], ⟨0, 10, 17, 19⟩, [], "java/lang/IllegalArgumentException", rfl, (fun z hz => by rcases List.mem_singleton.mp hz with rfl; exact ⟨by decide, "java/lang/IndexOutOfBoundsException", w_948, by decide⟩), by decide, by decide, w_786, by decide, Or.inl ⟨by decide +kernel, rfl⟩⟩) (y := yX8_past) (bytes := cX8_past) (maxL := 3) (ret' := (some .int)) (fr' := 7) (lo' := 111) (n := 2) (ml := []) (mlc := []) (ci := 8) (q9 := (RX8, TX8, 10)) qX8_past w_1144 w_1145 w_1146 w_1 w_1147 ⟨by decide +kernel, by decide +kernel, by decide +kernel⟩ rfl rfl (by decide) (by decide) (by decide +kernel)) (al_c (s_i2l (by decide +kernel)) (al_c (s_last (by decide +kernel)) (al_c (s_goto (off := 11) 21 (by decide) (by decide +kernel)) (al_c (s_iconst (n := 1) (1) (by decide) (by decide +kernel)) (al_c (s_iret rfl (by decide +kernel)) (al_c (s_iconst (n := 2) (2) (by decide) (by decide +kernel)) (al_c (s_iret rfl (by decide +kernel)) (al_c (s_iconst (n := 0) (0) (by decide) (by decide +kernel)) (al_c (s_iret rfl (by decide +kernel)) al_n)))))))))))))))
set_option maxRecDepth 100000 in
set_option maxHeartbeats 4000000 in
theorem oL_past_1 : Of (lkp bL_past_1) 5 rL_past_1 := by
  intro avs es r h
  obtain ⟨x1, x2, vr, vd, vn, vg, vhn, vhs, vhN, vhP, vt, vu, vp, vq, ve, vo, z, rfl, rfl, hp, rfl⟩ := h
  refine ⟨Nat.le_of_ble_eq_true rfl, ?_⟩
  unfold pL_past_1 at hp
  refine Rn.go 5 (pc' := 5) (lv' := [(0, .ref 0), (1, .int x1), (2, .int x2), (3, .ref 113)]) (st' := [.int x2, .int x1, .ref 0, .int (0 : Int32), .ref 113]) (es' := (wTO vr vd vn vg vhn vhs vhN vhP vt vu vp vq ve vo)) (c' := 0) (s' := 0) rfl ?_
  obtain ⟨z1, hz1, hp⟩ := ob_some hp
  obtain ⟨(z1v | z1e), z1r⟩ := z1
  · dsimp only at hp
    refine Rn.rel (pc' := 8) (lv' := [(0, .ref 0), (1, .int x1), (2, .int x2), (3, .ref 113)]) (st' := [.int z1v, .int (0 : Int32), .ref 113]) (es' := (wTO vr vd vn vg vhn vhs vhN vhP vt vu vp vq ve vo)) (dc := z1r.1) (ds := z1r.2) rfl ⟨0, [.int x1, .int x2], _, [0, 1, 2, 3, 4, 5, 6, 7, 8, 9, 10, 11, 12, 13, 14, 15, 16, 17, 18, 19, 20, 21, 22, 23, 24, 25, 26, 27, 28, 29, 30, 31, 32, 33, 34, 35, 36, 37, 38, 39, 40, 41, 42, 43, 44, 45, 46, 47, 48, 49, 50, 51, 52, 53, 54, 55, 56, 57, 58, 59, 60, 61, 62, 63, 64, 65, 66, 67, 68, 69, 70, 71, 72, 73, 74, 75, 76, 77, 78, 79, 80, 81, 82, 83, 84, 85, 86, 87, 88, 89, 90, 91, 92, 93, 94, 95, 96, 97, 98, 99, 100, 101, 102, 103, 104, 105, 106, 107, 108, 109, 110, 111, 112], .inl (some (.int z1v)), (wTN vr vd vn vg vhn vhs vhN vhP vt vu vp vq ve), z1r.1, z1r.2, rfl, rfl, Nat.le_of_ble_eq_true rfl, rfl, ⟨x1, x2, vr, vd, vn, vg, vhn, vhs, vhN, vhP, vt, vu, vp, vq, ve, (.inl z1v, z1r), rfl, rfl, hz1, rfl⟩, rfl, Or.inl ⟨_, rfl, rfl⟩⟩ ?_
    refine Rn.go0 2 (pc' := 10) (lv' := [(0, .ref 0), (1, .int x1), (2, .int x2), (3, .ref 113)]) (st' := []) (es' := (wTO vr vd vn vg vhn vhs vhN vhP vt vu vp vq ve (vp_updL vo 0 z1v.toInt64))) rfl ?_
    refine Rn.go0 2 (pc' := 22) (lv' := [(0, .ref 0), (1, .int x1), (2, .int x2), (3, .ref 113)]) (st' := [.int (0 : Int32)]) (es' := (wTO vr vd vn vg vhn vhs vhN vhP vt vu vp vq ve (vp_updL vo 0 z1v.toInt64))) rfl ?_
    obtain rfl := Option.some.inj hp
    exact Rn.fin rfl rfl rfl
  · dsimp only at hp
    by_cases h1 : z1e = "java/lang/IndexOutOfBoundsException"
    · subst h1
      rw [if_pos rfl] at hp
      refine Rn.rel (pc' := 15) (lv' := [(0, .ref 0), (1, .int x1), (2, .int x2), (3, .ref 113)]) (st' := []) (es' := (wTO vr vd vn vg vhn vhs vhN vhP vt vu vp vq ve vo)) (dc := z1r.1) (ds := z1r.2) rfl ⟨0, [.int x1, .int x2], _, [0, 1, 2, 3, 4, 5, 6, 7, 8, 9, 10, 11, 12, 13, 14, 15, 16, 17, 18, 19, 20, 21, 22, 23, 24, 25, 26, 27, 28, 29, 30, 31, 32, 33, 34, 35, 36, 37, 38, 39, 40, 41, 42, 43, 44, 45, 46, 47, 48, 49, 50, 51, 52, 53, 54, 55, 56, 57, 58, 59, 60, 61, 62, 63, 64, 65, 66, 67, 68, 69, 70, 71, 72, 73, 74, 75, 76, 77, 78, 79, 80, 81, 82, 83, 84, 85, 86, 87, 88, 89, 90, 91, 92, 93, 94, 95, 96, 97, 98, 99, 100, 101, 102, 103, 104, 105, 106, 107, 108, 109, 110, 111, 112], .inr "java/lang/IndexOutOfBoundsException", (wTN vr vd vn vg vhn vhs vhN vhP vt vu vp vq ve), z1r.1, z1r.2, rfl, rfl, Nat.le_of_ble_eq_true rfl, rfl, ⟨x1, x2, vr, vd, vn, vg, vhn, vhs, vhN, vhP, vt, vu, vp, vq, ve, (.inr "java/lang/IndexOutOfBoundsException", z1r), rfl, rfl, hz1, rfl⟩, rfl, Or.inr ⟨("java/lang/IndexOutOfBoundsException", 15), List.mem_cons_self, rfl, rfl⟩⟩ ?_
      refine Rn.go 1 (pc' := 16) (lv' := [(0, .ref 0), (1, .int x1), (2, .int x2), (3, .ref 113)]) (st' := [.int (1 : Int32)]) (es' := (wTO vr vd vn vg vhn vhs vhN vhP vt vu vp vq ve vo)) (c' := (0 + z1r.1)) (s' := (0 + z1r.2)) rfl ?_
      obtain rfl := Option.some.inj hp
      exact Rn.fin rfl rfl rfl
    rw [if_neg h1] at hp
    by_cases h2 : z1e = "java/lang/IllegalArgumentException"
    · subst h2
      rw [if_pos rfl] at hp
      refine Rn.rel (pc' := 19) (lv' := [(0, .ref 0), (1, .int x1), (2, .int x2), (3, .ref 113)]) (st' := []) (es' := (wTO vr vd vn vg vhn vhs vhN vhP vt vu vp vq ve vo)) (dc := z1r.1) (ds := z1r.2) rfl ⟨0, [.int x1, .int x2], _, [0, 1, 2, 3, 4, 5, 6, 7, 8, 9, 10, 11, 12, 13, 14, 15, 16, 17, 18, 19, 20, 21, 22, 23, 24, 25, 26, 27, 28, 29, 30, 31, 32, 33, 34, 35, 36, 37, 38, 39, 40, 41, 42, 43, 44, 45, 46, 47, 48, 49, 50, 51, 52, 53, 54, 55, 56, 57, 58, 59, 60, 61, 62, 63, 64, 65, 66, 67, 68, 69, 70, 71, 72, 73, 74, 75, 76, 77, 78, 79, 80, 81, 82, 83, 84, 85, 86, 87, 88, 89, 90, 91, 92, 93, 94, 95, 96, 97, 98, 99, 100, 101, 102, 103, 104, 105, 106, 107, 108, 109, 110, 111, 112], .inr "java/lang/IllegalArgumentException", (wTN vr vd vn vg vhn vhs vhN vhP vt vu vp vq ve), z1r.1, z1r.2, rfl, rfl, Nat.le_of_ble_eq_true rfl, rfl, ⟨x1, x2, vr, vd, vn, vg, vhn, vhs, vhN, vhP, vt, vu, vp, vq, ve, (.inr "java/lang/IllegalArgumentException", z1r), rfl, rfl, hz1, rfl⟩, rfl, Or.inr ⟨("java/lang/IllegalArgumentException", 19), (List.mem_cons_of_mem _ List.mem_cons_self), rfl, rfl⟩⟩ ?_
      refine Rn.go 1 (pc' := 20) (lv' := [(0, .ref 0), (1, .int x1), (2, .int x2), (3, .ref 113)]) (st' := [.int (2 : Int32)]) (es' := (wTO vr vd vn vg vhn vhs vhN vhP vt vu vp vq ve vo)) (c' := (0 + z1r.1)) (s' := (0 + z1r.2)) rfl ?_
      obtain rfl := Option.some.inj hp
      exact Rn.fin rfl rfl rfl
    rw [if_neg h2] at hp
    cases hp
theorem qL_past_1 : CtA yL_past (.codeWith yL_past cL_past 5 (some .int) [(0, 10, 13, 28), (0, 10, 17, 19)]) 8 133 [] rL_past_1 := CtA.ofH (by decide +kernel) (fun pc op h => kL_past_1 _ (lkp_mem h)) oL_past_1
/-! TelescopeNightLaw.planned(LTelescopeNight;I[J)I -/
def rL_planned_1 : List Value → List va_E → op_O → Prop := fun avs es r => ∃ (x1 : Int32) (vr : RdS) (vd : NiS) (vn : NiS) (vg : PrS) (vhn : Int32) (vhs : Int32) (vhN : Nat → NiS) (vhP : Nat → PrS) (vt : ReS) (vu : ReS) (vp : PlS) (vq : DeS) (ve : Int32) (vo : Nat → Int64) (z : Int32 × ReS × ReS × PlS × (Nat → Int64) × Nat × Nat), avs = [.ref 0, .int x1, .ref 113] ∧ es = (wTO vr vd vn vg vhn vhs vhN vhP vt vu vp vq ve vo) ∧ pL_planned_1 x1 vn vg vt vu vp vo = some z ∧ r = (.inl (some (.int z.1)), (wTO vr vd vn vg vhn vhs vhN vhP z.2.1 z.2.2.1 z.2.2.2.1 vq ve z.2.2.2.2.1), z.2.2.2.2.2.1, z.2.2.2.2.2.2)
def bL_planned_1 : List (Nat × (op_T ⊕ op_R)) := [(0, .inl (o_aload 1 2)), (1, .inl (o_push 2 (.int (0)))), (2, .inl (o_aload 3 0)), (3, .inl (o_iload 4 1)), (4, .inr (o_callVH [99, 100, 101, 103, 104, 105, 95, 96, 97] [99, 100, 101, 103, 104, 105, 95, 96, 97] 7 1 8 3 [("java/lang/IndexOutOfBoundsException", 13)] rX8_planned)), (7, .inl (o_i2l 8)), (8, .inl (o_last 9)), (9, .inl (o_goto 15)), (13, .inl (o_push 14 (.int (1)))), (14, .inl (o_iret)), (15, .inl (o_push 16 (.int (0)))), (16, .inl (o_iret))]
set_option maxRecDepth 100000 in
set_option maxHeartbeats 4000000 in
theorem kL_planned_1 : ∀ q ∈ bL_planned_1, ok2 9 188 4 cL_planned yL_planned.cls yL_planned.name (some .int) (.codeWith yL_planned cL_planned 4 (some .int) [(0, 9, 12, 28)]) (tableOf [(0, 9, 12, 28)]) [99, 100, 101, 103, 104, 105, 95, 96, 97] q.1 q.2 := (al_c (s_aload_n (k := 2) (by decide +kernel)) (al_c (s_iconst (n := 0) (0) (by decide) (by decide +kernel)) (al_c (s_aload_n (k := 0) (by decide +kernel)) (al_c (s_iload_n (k := 1) (by decide +kernel)) (al_c (s_callVH (tb := tableOf [(0, 9, 12, 28)]) (by decide) (fun q hq => by rcases List.mem_singleton.mp hq with rfl; exact ⟨[], ⟨0, 9, 12, 28⟩, [], "java/lang/IndexOutOfBoundsException", rfl, (fun z hz => by cases hz), by decide, by decide, w_948, by decide, Or.inr ⟨3, rfl, by decide +kernel, rfl⟩⟩) (y := yX8_planned) (bytes := cX8_planned) (maxL := 2) (ret' := (some .int)) (fr' := 8) (lo' := 167) (n := 1) (ml := [99, 100, 101, 103, 104, 105, 95, 96, 97]) (mlc := [99, 100, 101, 103, 104, 105, 95, 96, 97]) (ci := 8) (q9 := (RX8, TX8, 10)) qX8_planned w_1152 w_1153 w_1154 w_1 w_1155 ⟨by decide +kernel, by decide +kernel, by decide +kernel⟩ rfl rfl (by decide) (by decide) (by decide +kernel)) (al_c (s_i2l (by decide +kernel)) (al_c (s_last (by decide +kernel)) (al_c (s_goto (off := 6) 15 (by decide) (by decide +kernel)) (al_c (s_iconst (n := 1) (1) (by decide) (by decide +kernel)) (al_c (s_iret rfl (by decide +kernel)) (al_c (s_iconst (n := 0) (0) (by decide) (by decide +kernel)) (al_c (s_iret rfl (by decide +kernel)) al_n))))))))))))
set_option maxRecDepth 100000 in
set_option maxHeartbeats 4000000 in
theorem oL_planned_1 : Of (lkp bL_planned_1) 4 rL_planned_1 := by
  intro avs es r h
  obtain ⟨x1, vr, vd, vn, vg, vhn, vhs, vhN, vhP, vt, vu, vp, vq, ve, vo, z, rfl, rfl, hp, rfl⟩ := h
  refine ⟨Nat.le_of_ble_eq_true rfl, ?_⟩
  unfold pL_planned_1 at hp
  refine Rn.go 4 (pc' := 4) (lv' := [(0, .ref 0), (1, .int x1), (2, .ref 113)]) (st' := [.int x1, .ref 0, .int (0 : Int32), .ref 113]) (es' := (wTO vr vd vn vg vhn vhs vhN vhP vt vu vp vq ve vo)) (c' := 0) (s' := 0) rfl ?_
  obtain ⟨z1, hz1, hp⟩ := ob_some hp
  obtain ⟨(z1v | z1e), z1r⟩ := z1
  · dsimp only at hp
    refine Rn.rel (pc' := 7) (lv' := [(0, .ref 0), (1, .int x1), (2, .ref 113)]) (st' := [.int z1v, .int (0 : Int32), .ref 113]) (es' := (wTO vr vd vn vg vhn vhs vhN vhP z1r.1 z1r.2.1 z1r.2.2.1 vq ve vo)) (dc := z1r.2.2.2.1) (ds := z1r.2.2.2.2) rfl ⟨0, [.int x1], _, [0, 1, 2, 3, 4, 5, 6, 7, 8, 9, 10, 11, 12, 13, 14, 15, 16, 17, 18, 19, 20, 21, 22, 23, 24, 25, 26, 27, 28, 29, 30, 31, 32, 33, 34, 35, 36, 37, 38, 39, 40, 41, 42, 43, 44, 45, 46, 47, 48, 49, 50, 51, 52, 53, 54, 55, 56, 57, 58, 59, 60, 61, 62, 63, 64, 65, 66, 67, 68, 69, 70, 71, 72, 73, 74, 75, 76, 77, 78, 79, 80, 81, 82, 83, 84, 85, 86, 87, 88, 89, 90, 91, 92, 93, 94, 95, 96, 97, 98, 99, 100, 101, 102, 103, 104, 105, 106, 107, 108, 109, 110, 111, 112], .inl (some (.int z1v)), (wTN vr vd vn vg vhn vhs vhN vhP z1r.1 z1r.2.1 z1r.2.2.1 vq ve), z1r.2.2.2.1, z1r.2.2.2.2, rfl, rfl, Nat.le_of_ble_eq_true rfl, rfl, ⟨x1, vr, vd, vn, vg, vhn, vhs, vhN, vhP, vt, vu, vp, vq, ve, (.inl z1v, z1r), rfl, rfl, hz1, rfl⟩, rfl, Or.inl ⟨_, rfl, rfl⟩⟩ ?_
    refine Rn.go0 2 (pc' := 9) (lv' := [(0, .ref 0), (1, .int x1), (2, .ref 113)]) (st' := []) (es' := (wTO vr vd vn vg vhn vhs vhN vhP z1r.1 z1r.2.1 z1r.2.2.1 vq ve (vp_updL vo 0 z1v.toInt64))) rfl ?_
    refine Rn.go0 2 (pc' := 16) (lv' := [(0, .ref 0), (1, .int x1), (2, .ref 113)]) (st' := [.int (0 : Int32)]) (es' := (wTO vr vd vn vg vhn vhs vhN vhP z1r.1 z1r.2.1 z1r.2.2.1 vq ve (vp_updL vo 0 z1v.toInt64))) rfl ?_
    obtain rfl := Option.some.inj hp
    exact Rn.fin rfl rfl rfl
  · dsimp only at hp
    by_cases h1 : z1e = "java/lang/IndexOutOfBoundsException"
    · subst h1
      rw [if_pos rfl] at hp
      refine Rn.rel (pc' := 13) (lv' := [(0, .ref 0), (1, .int x1), (2, .ref 113)]) (st' := []) (es' := (wTO vr vd vn vg vhn vhs vhN vhP z1r.1 z1r.2.1 z1r.2.2.1 vq ve vo)) (dc := z1r.2.2.2.1) (ds := z1r.2.2.2.2) rfl ⟨0, [.int x1], _, [0, 1, 2, 3, 4, 5, 6, 7, 8, 9, 10, 11, 12, 13, 14, 15, 16, 17, 18, 19, 20, 21, 22, 23, 24, 25, 26, 27, 28, 29, 30, 31, 32, 33, 34, 35, 36, 37, 38, 39, 40, 41, 42, 43, 44, 45, 46, 47, 48, 49, 50, 51, 52, 53, 54, 55, 56, 57, 58, 59, 60, 61, 62, 63, 64, 65, 66, 67, 68, 69, 70, 71, 72, 73, 74, 75, 76, 77, 78, 79, 80, 81, 82, 83, 84, 85, 86, 87, 88, 89, 90, 91, 92, 93, 94, 95, 96, 97, 98, 99, 100, 101, 102, 103, 104, 105, 106, 107, 108, 109, 110, 111, 112], .inr "java/lang/IndexOutOfBoundsException", (wTN vr vd vn vg vhn vhs vhN vhP z1r.1 z1r.2.1 z1r.2.2.1 vq ve), z1r.2.2.2.1, z1r.2.2.2.2, rfl, rfl, Nat.le_of_ble_eq_true rfl, rfl, ⟨x1, vr, vd, vn, vg, vhn, vhs, vhN, vhP, vt, vu, vp, vq, ve, (.inr "java/lang/IndexOutOfBoundsException", z1r), rfl, rfl, hz1, rfl⟩, rfl, Or.inr ⟨("java/lang/IndexOutOfBoundsException", 13), List.mem_cons_self, rfl, rfl⟩⟩ ?_
      refine Rn.go 1 (pc' := 14) (lv' := [(0, .ref 0), (1, .int x1), (2, .ref 113)]) (st' := [.int (1 : Int32)]) (es' := (wTO vr vd vn vg vhn vhs vhN vhP z1r.1 z1r.2.1 z1r.2.2.1 vq ve vo)) (c' := (0 + z1r.2.2.2.1)) (s' := (0 + z1r.2.2.2.2)) rfl ?_
      obtain rfl := Option.some.inj hp
      exact Rn.fin rfl rfl rfl
    rw [if_neg h1] at hp
    cases hp
theorem qL_planned_1 : CtA yL_planned (.codeWith yL_planned cL_planned 4 (some .int) [(0, 9, 12, 28)]) 9 188 [99, 100, 101, 103, 104, 105, 95, 96, 97] rL_planned_1 := CtA.ofH (by decide +kernel) (fun pc op h => kL_planned_1 _ (lkp_mem h)) oL_planned_1
