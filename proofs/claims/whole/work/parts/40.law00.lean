/-! TelescopeNightLaw.append(LTelescopeNight;IIIII[J)I -/
def pL_append_1 (x1 : Int32) (x2 : Int32) (x3 : Int32) (x4 : Int32) (x5 : Int32) (vr : RdS) (vo : Nat → Int64) : Option (Int32 × RdS × (Nat → Int64) × Nat × Nat) :=
  ob (pX8_append x1 x2 x3 x4 x5 vr) (fun z1 => match z1 with
  | (.inl z1v, z1r) =>
    some ((0 : Int32), z1r.1, (vp_updL vo 0 z1v.toInt64), (0 + z1r.2.1), (0 + z1r.2.2))
  | (.inr z1e, z1r) =>
    if z1e = "java/lang/IllegalStateException" then
      some ((1 : Int32), z1r.1, vo, (0 + z1r.2.1), (0 + z1r.2.2))
    else none)
def rL_append_1 : List Value → List va_E → op_O → Prop := fun avs es r => ∃ (x1 : Int32) (x2 : Int32) (x3 : Int32) (x4 : Int32) (x5 : Int32) (vr : RdS) (vd : NiS) (vn : NiS) (vg : PrS) (vhn : Int32) (vhs : Int32) (vhN : Nat → NiS) (vhP : Nat → PrS) (vt : ReS) (vu : ReS) (vp : PlS) (vq : DeS) (ve : Int32) (vo : Nat → Int64) (z : Int32 × RdS × (Nat → Int64) × Nat × Nat), avs = [.ref 0, .int x1, .int x2, .int x3, .int x4, .int x5, .ref 113] ∧ es = (wTO vr vd vn vg vhn vhs vhN vhP vt vu vp vq ve vo) ∧ pL_append_1 x1 x2 x3 x4 x5 vr vo = some z ∧ r = (.inl (some (.int z.1)), (wTO z.2.1 vd vn vg vhn vhs vhN vhP vt vu vp vq ve z.2.2.1), z.2.2.2.1, z.2.2.2.2)
def bL_append_1 : List (Nat × (op_T ⊕ op_R)) := [(0, .inl (o_aload 2 6)), (2, .inl (o_push 3 (.int (0)))), (3, .inl (o_aload 4 0)), (4, .inl (o_iload 5 1)), (5, .inl (o_iload 6 2)), (6, .inl (o_iload 7 3)), (7, .inl (o_iload 9 4)), (9, .inl (o_iload 11 5)), (11, .inr (o_callVH [] [] 14 5 8 7 [("java/lang/IllegalStateException", 21)] rX8_append)), (14, .inl (o_i2l 15)), (15, .inl (o_last 16)), (16, .inl (o_goto 23)), (21, .inl (o_push 22 (.int (1)))), (22, .inl (o_iret)), (23, .inl (o_push 24 (.int (0)))), (24, .inl (o_iret))]
set_option maxRecDepth 100000 in
set_option maxHeartbeats 4000000 in
theorem kL_append_1 : ∀ q ∈ bL_append_1, ok2 7 115 8 cL_append yL_append.cls yL_append.name (some .int) (.codeWith yL_append cL_append 8 (some .int) [(0, 16, 19, 13)]) (tableOf [(0, 16, 19, 13)]) [] q.1 q.2 := (al_c (s_aload (by decide +kernel)) (al_c (s_iconst (n := 0) (0) (by decide) (by decide +kernel)) (al_c (s_aload_n (k := 0) (by decide +kernel)) (al_c (s_iload_n (k := 1) (by decide +kernel)) (al_c (s_iload_n (k := 2) (by decide +kernel)) (al_c (s_iload_n (k := 3) (by decide +kernel)) (al_c (s_iload (by decide +kernel)) (al_c (s_iload (by decide +kernel)) (al_c (s_callVH (tb := tableOf [(0, 16, 19, 13)]) (by decide) (fun q hq => by rcases List.mem_singleton.mp hq with rfl; exact ⟨[], ⟨0, 16, 19, 13⟩, [], "java/lang/IllegalStateException", rfl, (fun z hz => by cases hz), by decide, by decide, w_701, by decide, Or.inl ⟨by decide +kernel, rfl⟩⟩) (y := yX8_append) (bytes := cX8_append) (maxL := 6) (ret' := (some .int)) (fr' := 6) (lo' := 90) (n := 5) (ml := []) (mlc := []) (ci := 8) (q9 := (RX8, TX8, 10)) qX8_append w_702 w_703 w_704 w_1 w_705 ⟨by decide +kernel, by decide +kernel, by decide +kernel⟩ rfl rfl (by decide) (by decide) (by decide +kernel)) (al_c (s_i2l (by decide +kernel)) (al_c (s_last (by decide +kernel)) (al_c (s_goto (off := 7) 23 (by decide) (by decide +kernel)) (al_c (s_iconst (n := 1) (1) (by decide) (by decide +kernel)) (al_c (s_iret rfl (by decide +kernel)) (al_c (s_iconst (n := 0) (0) (by decide) (by decide +kernel)) (al_c (s_iret rfl (by decide +kernel)) al_n))))))))))))))))
set_option maxRecDepth 100000 in
set_option maxHeartbeats 4000000 in
theorem oL_append_1 : Of (lkp bL_append_1) 8 rL_append_1 := by
  intro avs es r h
  obtain ⟨x1, x2, x3, x4, x5, vr, vd, vn, vg, vhn, vhs, vhN, vhP, vt, vu, vp, vq, ve, vo, z, rfl, rfl, hp, rfl⟩ := h
  refine ⟨Nat.le_of_ble_eq_true rfl, ?_⟩
  unfold pL_append_1 at hp
  refine Rn.go 8 (pc' := 11) (lv' := [(0, .ref 0), (1, .int x1), (2, .int x2), (3, .int x3), (4, .int x4), (5, .int x5), (6, .ref 113)]) (st' := [.int x5, .int x4, .int x3, .int x2, .int x1, .ref 0, .int (0 : Int32), .ref 113]) (es' := (wTO vr vd vn vg vhn vhs vhN vhP vt vu vp vq ve vo)) (c' := 0) (s' := 0) rfl ?_
  obtain ⟨z1, hz1, hp⟩ := ob_some hp
  obtain ⟨(z1v | z1e), z1r⟩ := z1
  · dsimp only at hp
    refine Rn.rel (pc' := 14) (lv' := [(0, .ref 0), (1, .int x1), (2, .int x2), (3, .int x3), (4, .int x4), (5, .int x5), (6, .ref 113)]) (st' := [.int z1v, .int (0 : Int32), .ref 113]) (es' := (wTO z1r.1 vd vn vg vhn vhs vhN vhP vt vu vp vq ve vo)) (dc := z1r.2.1) (ds := z1r.2.2) rfl ⟨0, [.int x1, .int x2, .int x3, .int x4, .int x5], _, [0, 1, 2, 3, 4, 5, 6, 7, 8, 9, 10, 11, 12, 13, 14, 15, 16, 17, 18, 19, 20, 21, 22, 23, 24, 25, 26, 27, 28, 29, 30, 31, 32, 33, 34, 35, 36, 37, 38, 39, 40, 41, 42, 43, 44, 45, 46, 47, 48, 49, 50, 51, 52, 53, 54, 55, 56, 57, 58, 59, 60, 61, 62, 63, 64, 65, 66, 67, 68, 69, 70, 71, 72, 73, 74, 75, 76, 77, 78, 79, 80, 81, 82, 83, 84, 85, 86, 87, 88, 89, 90, 91, 92, 93, 94, 95, 96, 97, 98, 99, 100, 101, 102, 103, 104, 105, 106, 107, 108, 109, 110, 111, 112], .inl (some (.int z1v)), (wTN z1r.1 vd vn vg vhn vhs vhN vhP vt vu vp vq ve), z1r.2.1, z1r.2.2, rfl, rfl, Nat.le_of_ble_eq_true rfl, rfl, ⟨x1, x2, x3, x4, x5, vr, vd, vn, vg, vhn, vhs, vhN, vhP, vt, vu, vp, vq, ve, (.inl z1v, z1r), rfl, rfl, hz1, rfl⟩, rfl, Or.inl ⟨_, rfl, rfl⟩⟩ ?_
    refine Rn.go 2 (pc' := 16) (lv' := [(0, .ref 0), (1, .int x1), (2, .int x2), (3, .int x3), (4, .int x4), (5, .int x5), (6, .ref 113)]) (st' := []) (es' := (wTO z1r.1 vd vn vg vhn vhs vhN vhP vt vu vp vq ve (vp_updL vo 0 z1v.toInt64))) (c' := (0 + z1r.2.1)) (s' := (0 + z1r.2.2)) rfl ?_
    refine Rn.go 2 (pc' := 24) (lv' := [(0, .ref 0), (1, .int x1), (2, .int x2), (3, .int x3), (4, .int x4), (5, .int x5), (6, .ref 113)]) (st' := [.int (0 : Int32)]) (es' := (wTO z1r.1 vd vn vg vhn vhs vhN vhP vt vu vp vq ve (vp_updL vo 0 z1v.toInt64))) (c' := (0 + z1r.2.1)) (s' := (0 + z1r.2.2)) rfl ?_
    obtain rfl := Option.some.inj hp
    exact Rn.fin rfl rfl rfl
  · dsimp only at hp
    by_cases h1 : z1e = "java/lang/IllegalStateException"
    · subst h1
      rw [if_pos rfl] at hp
      refine Rn.rel (pc' := 21) (lv' := [(0, .ref 0), (1, .int x1), (2, .int x2), (3, .int x3), (4, .int x4), (5, .int x5), (6, .ref 113)]) (st' := []) (es' := (wTO z1r.1 vd vn vg vhn vhs vhN vhP vt vu vp vq ve vo)) (dc := z1r.2.1) (ds := z1r.2.2) rfl ⟨0, [.int x1, .int x2, .int x3, .int x4, .int x5], _, [0, 1, 2, 3, 4, 5, 6, 7, 8, 9, 10, 11, 12, 13, 14, 15, 16, 17, 18, 19, 20, 21, 22, 23, 24, 25, 26, 27, 28, 29, 30, 31, 32, 33, 34, 35, 36, 37, 38, 39, 40, 41, 42, 43, 44, 45, 46, 47, 48, 49, 50, 51, 52, 53, 54, 55, 56, 57, 58, 59, 60, 61, 62, 63, 64, 65, 66, 67, 68, 69, 70, 71, 72, 73, 74, 75, 76, 77, 78, 79, 80, 81, 82, 83, 84, 85, 86, 87, 88, 89, 90, 91, 92, 93, 94, 95, 96, 97, 98, 99, 100, 101, 102, 103, 104, 105, 106, 107, 108, 109, 110, 111, 112], .inr "java/lang/IllegalStateException", (wTN z1r.1 vd vn vg vhn vhs vhN vhP vt vu vp vq ve), z1r.2.1, z1r.2.2, rfl, rfl, Nat.le_of_ble_eq_true rfl, rfl, ⟨x1, x2, x3, x4, x5, vr, vd, vn, vg, vhn, vhs, vhN, vhP, vt, vu, vp, vq, ve, (.inr "java/lang/IllegalStateException", z1r), rfl, rfl, hz1, rfl⟩, rfl, Or.inr ⟨("java/lang/IllegalStateException", 21), List.mem_cons_self, rfl, rfl⟩⟩ ?_
      refine Rn.go 1 (pc' := 22) (lv' := [(0, .ref 0), (1, .int x1), (2, .int x2), (3, .int x3), (4, .int x4), (5, .int x5), (6, .ref 113)]) (st' := [.int (1 : Int32)]) (es' := (wTO z1r.1 vd vn vg vhn vhs vhN vhP vt vu vp vq ve vo)) (c' := (0 + z1r.2.1)) (s' := (0 + z1r.2.2)) rfl ?_
      obtain rfl := Option.some.inj hp
      exact Rn.fin rfl rfl rfl
    rw [if_neg h1] at hp
    cases hp
theorem qL_append_1 : CtA yL_append (.codeWith yL_append cL_append 8 (some .int) [(0, 16, 19, 13)]) 7 115 [] rL_append_1 := CtA.ofH (by decide +kernel) (fun pc op h => kL_append_1 _ (lkp_mem h)) oL_append_1
/-! TelescopeNightLaw.load(LTelescopeNight;I[J)I -/
def pL_load_1 (x1 : Int32) (vr : RdS) (vd : NiS) (vn : NiS) (vg : PrS) (vhn : Int32) (vhs : Int32) (vhN : Nat → NiS) (vhP : Nat → PrS) (vt : ReS) (vu : ReS) (vp : PlS) (vq : DeS) (ve : Int32) (vo : Nat → Int64) : Option (Int32 × Int32 × RdS × NiS × NiS × PrS × Int32 × Int32 × (Nat → NiS) × (Nat → PrS) × ReS × ReS × PlS × DeS × (Nat → Int64) × Nat × Nat) :=
  ob (pX8_load x1 vr vd vn vg vhn vhs vhN vhP vt vu vp vq ve) (fun z1 => match z1 with
  | (.inl z1v, z1r) =>
    some ((0 : Int32), z1r.1, z1r.2.1, z1r.2.2.1, z1r.2.2.2.1, z1r.2.2.2.2.1, z1r.2.2.2.2.2.1, z1r.2.2.2.2.2.2.1, z1r.2.2.2.2.2.2.2.1, z1r.2.2.2.2.2.2.2.2.1, z1r.2.2.2.2.2.2.2.2.2.1, z1r.2.2.2.2.2.2.2.2.2.2.1, z1r.2.2.2.2.2.2.2.2.2.2.2.1, z1r.2.2.2.2.2.2.2.2.2.2.2.2.1, (vp_updL vo 0 z1v.toInt64), (0 + z1r.2.2.2.2.2.2.2.2.2.2.2.2.2.1), (0 + z1r.2.2.2.2.2.2.2.2.2.2.2.2.2.2))
  | (.inr z1e, z1r) =>
    if z1e = "java/lang/IllegalArgumentException" then
      some ((1 : Int32), z1r.1, z1r.2.1, z1r.2.2.1, z1r.2.2.2.1, z1r.2.2.2.2.1, z1r.2.2.2.2.2.1, z1r.2.2.2.2.2.2.1, z1r.2.2.2.2.2.2.2.1, z1r.2.2.2.2.2.2.2.2.1, z1r.2.2.2.2.2.2.2.2.2.1, z1r.2.2.2.2.2.2.2.2.2.2.1, z1r.2.2.2.2.2.2.2.2.2.2.2.1, z1r.2.2.2.2.2.2.2.2.2.2.2.2.1, vo, (0 + z1r.2.2.2.2.2.2.2.2.2.2.2.2.2.1), (0 + z1r.2.2.2.2.2.2.2.2.2.2.2.2.2.2))
    else none)
def rL_load_1 : List Value → List va_E → op_O → Prop := fun avs es r => ∃ (x1 : Int32) (vr : RdS) (vd : NiS) (vn : NiS) (vg : PrS) (vhn : Int32) (vhs : Int32) (vhN : Nat → NiS) (vhP : Nat → PrS) (vt : ReS) (vu : ReS) (vp : PlS) (vq : DeS) (ve : Int32) (vo : Nat → Int64) (z : Int32 × Int32 × RdS × NiS × NiS × PrS × Int32 × Int32 × (Nat → NiS) × (Nat → PrS) × ReS × ReS × PlS × DeS × (Nat → Int64) × Nat × Nat), avs = [.ref 0, .int x1, .ref 113] ∧ es = (wTO vr vd vn vg vhn vhs vhN vhP vt vu vp vq ve vo) ∧ pL_load_1 x1 vr vd vn vg vhn vhs vhN vhP vt vu vp vq ve vo = some z ∧ r = (.inl (some (.int z.1)), (wTO z.2.2.1 z.2.2.2.1 z.2.2.2.2.1 z.2.2.2.2.2.1 z.2.2.2.2.2.2.1 z.2.2.2.2.2.2.2.1 z.2.2.2.2.2.2.2.2.1 z.2.2.2.2.2.2.2.2.2.1 z.2.2.2.2.2.2.2.2.2.2.1 z.2.2.2.2.2.2.2.2.2.2.2.1 z.2.2.2.2.2.2.2.2.2.2.2.2.1 z.2.2.2.2.2.2.2.2.2.2.2.2.2.1 z.2.1 z.2.2.2.2.2.2.2.2.2.2.2.2.2.2.1), z.2.2.2.2.2.2.2.2.2.2.2.2.2.2.2.1, z.2.2.2.2.2.2.2.2.2.2.2.2.2.2.2.2)
def bL_load_1 : List (Nat × (op_T ⊕ op_R)) := [(0, .inl (o_aload 1 2)), (1, .inl (o_push 2 (.int (0)))), (2, .inl (o_aload 3 0)), (3, .inl (o_iload 4 1)), (4, .inr (o_callVH [] [] 7 1 8 3 [("java/lang/IllegalArgumentException", 13)] rX8_load)), (7, .inl (o_i2l 8)), (8, .inl (o_last 9)), (9, .inl (o_goto 15)), (13, .inl (o_push 14 (.int (1)))), (14, .inl (o_iret)), (15, .inl (o_push 16 (.int (0)))), (16, .inl (o_iret))]
set_option maxRecDepth 100000 in
set_option maxHeartbeats 4000000 in
theorem kL_load_1 : ∀ q ∈ bL_load_1, ok2 8 178 4 cL_load yL_load.cls yL_load.name (some .int) (.codeWith yL_load cL_load 4 (some .int) [(0, 9, 12, 19)]) (tableOf [(0, 9, 12, 19)]) [] q.1 q.2 := (al_c (s_aload_n (k := 2) (by decide +kernel)) (al_c (s_iconst (n := 0) (0) (by decide) (by decide +kernel)) (al_c (s_aload_n (k := 0) (by decide +kernel)) (al_c (s_iload_n (k := 1) (by decide +kernel)) (al_c (s_callVH (tb := tableOf [(0, 9, 12, 19)]) (by decide) (fun q hq => by rcases List.mem_singleton.mp hq with rfl; exact ⟨[], ⟨0, 9, 12, 19⟩, [], "java/lang/IllegalArgumentException", rfl, (fun z hz => by cases hz), by decide, by decide, w_786, by decide, Or.inr ⟨3, rfl, by decide +kernel, rfl⟩⟩) (y := yX8_load) (bytes := cX8_load) (maxL := 3) (ret' := (some .int)) (fr' := 7) (lo' := 156) (n := 1) (ml := []) (mlc := []) (ci := 8) (q9 := (RX8, TX8, 10)) qX8_load w_787 w_788 w_789 w_1 w_790 ⟨by decide +kernel, by decide +kernel, by decide +kernel⟩ rfl rfl (by decide) (by decide) (by decide +kernel)) (al_c (s_i2l (by decide +kernel)) (al_c (s_last (by decide +kernel)) (al_c (s_goto (off := 6) 15 (by decide) (by decide +kernel)) (al_c (s_iconst (n := 1) (1) (by decide) (by decide +kernel)) (al_c (s_iret rfl (by decide +kernel)) (al_c (s_iconst (n := 0) (0) (by decide) (by decide +kernel)) (al_c (s_iret rfl (by decide +kernel)) al_n))))))))))))
set_option maxRecDepth 100000 in
set_option maxHeartbeats 4000000 in
theorem oL_load_1 : Of (lkp bL_load_1) 4 rL_load_1 := by
  intro avs es r h
  obtain ⟨x1, vr, vd, vn, vg, vhn, vhs, vhN, vhP, vt, vu, vp, vq, ve, vo, z, rfl, rfl, hp, rfl⟩ := h
  refine ⟨Nat.le_of_ble_eq_true rfl, ?_⟩
  unfold pL_load_1 at hp
  refine Rn.go 4 (pc' := 4) (lv' := [(0, .ref 0), (1, .int x1), (2, .ref 113)]) (st' := [.int x1, .ref 0, .int (0 : Int32), .ref 113]) (es' := (wTO vr vd vn vg vhn vhs vhN vhP vt vu vp vq ve vo)) (c' := 0) (s' := 0) rfl ?_
  obtain ⟨z1, hz1, hp⟩ := ob_some hp
  obtain ⟨(z1v | z1e), z1r⟩ := z1
  · dsimp only at hp
    refine Rn.rel (pc' := 7) (lv' := [(0, .ref 0), (1, .int x1), (2, .ref 113)]) (st' := [.int z1v, .int (0 : Int32), .ref 113]) (es' := (wTO z1r.2.1 z1r.2.2.1 z1r.2.2.2.1 z1r.2.2.2.2.1 z1r.2.2.2.2.2.1 z1r.2.2.2.2.2.2.1 z1r.2.2.2.2.2.2.2.1 z1r.2.2.2.2.2.2.2.2.1 z1r.2.2.2.2.2.2.2.2.2.1 z1r.2.2.2.2.2.2.2.2.2.2.1 z1r.2.2.2.2.2.2.2.2.2.2.2.1 z1r.2.2.2.2.2.2.2.2.2.2.2.2.1 z1r.1 vo)) (dc := z1r.2.2.2.2.2.2.2.2.2.2.2.2.2.1) (ds := z1r.2.2.2.2.2.2.2.2.2.2.2.2.2.2) rfl ⟨0, [.int x1], _, [0, 1, 2, 3, 4, 5, 6, 7, 8, 9, 10, 11, 12, 13, 14, 15, 16, 17, 18, 19, 20, 21, 22, 23, 24, 25, 26, 27, 28, 29, 30, 31, 32, 33, 34, 35, 36, 37, 38, 39, 40, 41, 42, 43, 44, 45, 46, 47, 48, 49, 50, 51, 52, 53, 54, 55, 56, 57, 58, 59, 60, 61, 62, 63, 64, 65, 66, 67, 68, 69, 70, 71, 72, 73, 74, 75, 76, 77, 78, 79, 80, 81, 82, 83, 84, 85, 86, 87, 88, 89, 90, 91, 92, 93, 94, 95, 96, 97, 98, 99, 100, 101, 102, 103, 104, 105, 106, 107, 108, 109, 110, 111, 112], .inl (some (.int z1v)), (wTN z1r.2.1 z1r.2.2.1 z1r.2.2.2.1 z1r.2.2.2.2.1 z1r.2.2.2.2.2.1 z1r.2.2.2.2.2.2.1 z1r.2.2.2.2.2.2.2.1 z1r.2.2.2.2.2.2.2.2.1 z1r.2.2.2.2.2.2.2.2.2.1 z1r.2.2.2.2.2.2.2.2.2.2.1 z1r.2.2.2.2.2.2.2.2.2.2.2.1 z1r.2.2.2.2.2.2.2.2.2.2.2.2.1 z1r.1), z1r.2.2.2.2.2.2.2.2.2.2.2.2.2.1, z1r.2.2.2.2.2.2.2.2.2.2.2.2.2.2, rfl, rfl, Nat.le_of_ble_eq_true rfl, rfl, ⟨x1, vr, vd, vn, vg, vhn, vhs, vhN, vhP, vt, vu, vp, vq, ve, (.inl z1v, z1r), rfl, rfl, hz1, rfl⟩, rfl, Or.inl ⟨_, rfl, rfl⟩⟩ ?_
    refine Rn.go 2 (pc' := 9) (lv' := [(0, .ref 0), (1, .int x1), (2, .ref 113)]) (st' := []) (es' := (wTO z1r.2.1 z1r.2.2.1 z1r.2.2.2.1 z1r.2.2.2.2.1 z1r.2.2.2.2.2.1 z1r.2.2.2.2.2.2.1 z1r.2.2.2.2.2.2.2.1 z1r.2.2.2.2.2.2.2.2.1 z1r.2.2.2.2.2.2.2.2.2.1 z1r.2.2.2.2.2.2.2.2.2.2.1 z1r.2.2.2.2.2.2.2.2.2.2.2.1 z1r.2.2.2.2.2.2.2.2.2.2.2.2.1 z1r.1 (vp_updL vo 0 z1v.toInt64))) (c' := (0 + z1r.2.2.2.2.2.2.2.2.2.2.2.2.2.1)) (s' := (0 + z1r.2.2.2.2.2.2.2.2.2.2.2.2.2.2)) rfl ?_
    refine Rn.go 2 (pc' := 16) (lv' := [(0, .ref 0), (1, .int x1), (2, .ref 113)]) (st' := [.int (0 : Int32)]) (es' := (wTO z1r.2.1 z1r.2.2.1 z1r.2.2.2.1 z1r.2.2.2.2.1 z1r.2.2.2.2.2.1 z1r.2.2.2.2.2.2.1 z1r.2.2.2.2.2.2.2.1 z1r.2.2.2.2.2.2.2.2.1 z1r.2.2.2.2.2.2.2.2.2.1 z1r.2.2.2.2.2.2.2.2.2.2.1 z1r.2.2.2.2.2.2.2.2.2.2.2.1 z1r.2.2.2.2.2.2.2.2.2.2.2.2.1 z1r.1 (vp_updL vo 0 z1v.toInt64))) (c' := (0 + z1r.2.2.2.2.2.2.2.2.2.2.2.2.2.1)) (s' := (0 + z1r.2.2.2.2.2.2.2.2.2.2.2.2.2.2)) rfl ?_
    obtain rfl := Option.some.inj hp
    exact Rn.fin rfl rfl rfl
  · dsimp only at hp
    by_cases h1 : z1e = "java/lang/IllegalArgumentException"
    · subst h1
      rw [if_pos rfl] at hp
      refine Rn.rel (pc' := 13) (lv' := [(0, .ref 0), (1, .int x1), (2, .ref 113)]) (st' := []) (es' := (wTO z1r.2.1 z1r.2.2.1 z1r.2.2.2.1 z1r.2.2.2.2.1 z1r.2.2.2.2.2.1 z1r.2.2.2.2.2.2.1 z1r.2.2.2.2.2.2.2.1 z1r.2.2.2.2.2.2.2.2.1 z1r.2.2.2.2.2.2.2.2.2.1 z1r.2.2.2.2.2.2.2.2.2.2.1 z1r.2.2.2.2.2.2.2.2.2.2.2.1 z1r.2.2.2.2.2.2.2.2.2.2.2.2.1 z1r.1 vo)) (dc := z1r.2.2.2.2.2.2.2.2.2.2.2.2.2.1) (ds := z1r.2.2.2.2.2.2.2.2.2.2.2.2.2.2) rfl ⟨0, [.int x1], _, [0, 1, 2, 3, 4, 5, 6, 7, 8, 9, 10, 11, 12, 13, 14, 15, 16, 17, 18, 19, 20, 21, 22, 23, 24, 25, 26, 27, 28, 29, 30, 31, 32, 33, 34, 35, 36, 37, 38, 39, 40, 41, 42, 43, 44, 45, 46, 47, 48, 49, 50, 51, 52, 53, 54, 55, 56, 57, 58, 59, 60, 61, 62, 63, 64, 65, 66, 67, 68, 69, 70, 71, 72, 73, 74, 75, 76, 77, 78, 79, 80, 81, 82, 83, 84, 85, 86, 87, 88, 89, 90, 91, 92, 93, 94, 95, 96, 97, 98, 99, 100, 101, 102, 103, 104, 105, 106, 107, 108, 109, 110, 111, 112], .inr "java/lang/IllegalArgumentException", (wTN z1r.2.1 z1r.2.2.1 z1r.2.2.2.1 z1r.2.2.2.2.1 z1r.2.2.2.2.2.1 z1r.2.2.2.2.2.2.1 z1r.2.2.2.2.2.2.2.1 z1r.2.2.2.2.2.2.2.2.1 z1r.2.2.2.2.2.2.2.2.2.1 z1r.2.2.2.2.2.2.2.2.2.2.1 z1r.2.2.2.2.2.2.2.2.2.2.2.1 z1r.2.2.2.2.2.2.2.2.2.2.2.2.1 z1r.1), z1r.2.2.2.2.2.2.2.2.2.2.2.2.2.1, z1r.2.2.2.2.2.2.2.2.2.2.2.2.2.2, rfl, rfl, Nat.le_of_ble_eq_true rfl, rfl, ⟨x1, vr, vd, vn, vg, vhn, vhs, vhN, vhP, vt, vu, vp, vq, ve, (.inr "java/lang/IllegalArgumentException", z1r), rfl, rfl, hz1, rfl⟩, rfl, Or.inr ⟨("java/lang/IllegalArgumentException", 13), List.mem_cons_self, rfl, rfl⟩⟩ ?_
      refine Rn.go 1 (pc' := 14) (lv' := [(0, .ref 0), (1, .int x1), (2, .ref 113)]) (st' := [.int (1 : Int32)]) (es' := (wTO z1r.2.1 z1r.2.2.1 z1r.2.2.2.1 z1r.2.2.2.2.1 z1r.2.2.2.2.2.1 z1r.2.2.2.2.2.2.1 z1r.2.2.2.2.2.2.2.1 z1r.2.2.2.2.2.2.2.2.1 z1r.2.2.2.2.2.2.2.2.2.1 z1r.2.2.2.2.2.2.2.2.2.2.1 z1r.2.2.2.2.2.2.2.2.2.2.2.1 z1r.2.2.2.2.2.2.2.2.2.2.2.2.1 z1r.1 vo)) (c' := (0 + z1r.2.2.2.2.2.2.2.2.2.2.2.2.2.1)) (s' := (0 + z1r.2.2.2.2.2.2.2.2.2.2.2.2.2.2)) rfl ?_
      obtain rfl := Option.some.inj hp
      exact Rn.fin rfl rfl rfl
    rw [if_neg h1] at hp
    cases hp
theorem qL_load_1 : CtA yL_load (.codeWith yL_load cL_load 4 (some .int) [(0, 9, 12, 19)]) 8 178 [] rL_load_1 := CtA.ofH (by decide +kernel) (fun pc op h => kL_load_1 _ (lkp_mem h)) oL_load_1
/-! TelescopeNightLaw.count(LTelescopeNight;I[J)I -/
def pL_count_1 (x1 : Int32) (vn : NiS) (vg : PrS) (vo : Nat → Int64) : Option (Int32 × (Nat → Int64) × Nat × Nat) :=
  ob (pX8_count x1 vn vg) (fun z1 => match z1 with
  | (.inl z1v, z1r) =>
    some ((0 : Int32), (vp_updL vo 0 z1v.toInt64), (0 + z1r.1), (0 + z1r.2))
  | (.inr z1e, z1r) =>
    if z1e = "java/lang/IllegalArgumentException" then
      some ((1 : Int32), vo, (0 + z1r.1), (0 + z1r.2))
    else none)
def rL_count_1 : List Value → List va_E → op_O → Prop := fun avs es r => ∃ (x1 : Int32) (vr : RdS) (vd : NiS) (vn : NiS) (vg : PrS) (vhn : Int32) (vhs : Int32) (vhN : Nat → NiS) (vhP : Nat → PrS) (vt : ReS) (vu : ReS) (vp : PlS) (vq : DeS) (ve : Int32) (vo : Nat → Int64) (z : Int32 × (Nat → Int64) × Nat × Nat), avs = [.ref 0, .int x1, .ref 113] ∧ es = (wTO vr vd vn vg vhn vhs vhN vhP vt vu vp vq ve vo) ∧ pL_count_1 x1 vn vg vo = some z ∧ r = (.inl (some (.int z.1)), (wTO vr vd vn vg vhn vhs vhN vhP vt vu vp vq ve z.2.1), z.2.2.1, z.2.2.2)
def bL_count_1 : List (Nat × (op_T ⊕ op_R)) := [(0, .inl (o_aload 1 2)), (1, .inl (o_push 2 (.int (0)))), (2, .inl (o_aload 3 0)), (3, .inl (o_iload 4 1)), (4, .inr (o_callVH [] [] 7 1 8 3 [("java/lang/IllegalArgumentException", 13)] rX8_count)), (7, .inl (o_i2l 8)), (8, .inl (o_last 9)), (9, .inl (o_goto 15)), (13, .inl (o_push 14 (.int (1)))), (14, .inl (o_iret)), (15, .inl (o_push 16 (.int (0)))), (16, .inl (o_iret))]
set_option maxRecDepth 100000 in
set_option maxHeartbeats 4000000 in
theorem kL_count_1 : ∀ q ∈ bL_count_1, ok2 7 111 4 cL_count yL_count.cls yL_count.name (some .int) (.codeWith yL_count cL_count 4 (some .int) [(0, 9, 12, 19)]) (tableOf [(0, 9, 12, 19)]) [] q.1 q.2 := (al_c (s_aload_n (k := 2) (by decide +kernel)) (al_c (s_iconst (n := 0) (0) (by decide) (by decide +kernel)) (al_c (s_aload_n (k := 0) (by decide +kernel)) (al_c (s_iload_n (k := 1) (by decide +kernel)) (al_c (s_callVH (tb := tableOf [(0, 9, 12, 19)]) (by decide) (fun q hq => by rcases List.mem_singleton.mp hq with rfl; exact ⟨[], ⟨0, 9, 12, 19⟩, [], "java/lang/IllegalArgumentException", rfl, (fun z hz => by cases hz), by decide, by decide, w_786, by decide, Or.inr ⟨3, rfl, by decide +kernel, rfl⟩⟩) (y := yX8_count) (bytes := cX8_count) (maxL := 2) (ret' := (some .int)) (fr' := 6) (lo' := 90) (n := 1) (ml := []) (mlc := []) (ci := 8) (q9 := (RX8, TX8, 10)) qX8_count w_935 w_936 w_937 w_1 w_938 ⟨by decide +kernel, by decide +kernel, by decide +kernel⟩ rfl rfl (by decide) (by decide) (by decide +kernel)) (al_c (s_i2l (by decide +kernel)) (al_c (s_last (by decide +kernel)) (al_c (s_goto (off := 6) 15 (by decide) (by decide +kernel)) (al_c (s_iconst (n := 1) (1) (by decide) (by decide +kernel)) (al_c (s_iret rfl (by decide +kernel)) (al_c (s_iconst (n := 0) (0) (by decide) (by decide +kernel)) (al_c (s_iret rfl (by decide +kernel)) al_n))))))))))))
set_option maxRecDepth 100000 in
set_option maxHeartbeats 4000000 in
theorem oL_count_1 : Of (lkp bL_count_1) 4 rL_count_1 := by
  intro avs es r h
  obtain ⟨x1, vr, vd, vn, vg, vhn, vhs, vhN, vhP, vt, vu, vp, vq, ve, vo, z, rfl, rfl, hp, rfl⟩ := h
  refine ⟨Nat.le_of_ble_eq_true rfl, ?_⟩
  unfold pL_count_1 at hp
  refine Rn.go 4 (pc' := 4) (lv' := [(0, .ref 0), (1, .int x1), (2, .ref 113)]) (st' := [.int x1, .ref 0, .int (0 : Int32), .ref 113]) (es' := (wTO vr vd vn vg vhn vhs vhN vhP vt vu vp vq ve vo)) (c' := 0) (s' := 0) rfl ?_
  obtain ⟨z1, hz1, hp⟩ := ob_some hp
  obtain ⟨(z1v | z1e), z1r⟩ := z1
  · dsimp only at hp
    refine Rn.rel (pc' := 7) (lv' := [(0, .ref 0), (1, .int x1), (2, .ref 113)]) (st' := [.int z1v, .int (0 : Int32), .ref 113]) (es' := (wTO vr vd vn vg vhn vhs vhN vhP vt vu vp vq ve vo)) (dc := z1r.1) (ds := z1r.2) rfl ⟨0, [.int x1], _, [0, 1, 2, 3, 4, 5, 6, 7, 8, 9, 10, 11, 12, 13, 14, 15, 16, 17, 18, 19, 20, 21, 22, 23, 24, 25, 26, 27, 28, 29, 30, 31, 32, 33, 34, 35, 36, 37, 38, 39, 40, 41, 42, 43, 44, 45, 46, 47, 48, 49, 50, 51, 52, 53, 54, 55, 56, 57, 58, 59, 60, 61, 62, 63, 64, 65, 66, 67, 68, 69, 70, 71, 72, 73, 74, 75, 76, 77, 78, 79, 80, 81, 82, 83, 84, 85, 86, 87, 88, 89, 90, 91, 92, 93, 94, 95, 96, 97, 98, 99, 100, 101, 102, 103, 104, 105, 106, 107, 108, 109, 110, 111, 112], .inl (some (.int z1v)), (wTN vr vd vn vg vhn vhs vhN vhP vt vu vp vq ve), z1r.1, z1r.2, rfl, rfl, Nat.le_of_ble_eq_true rfl, rfl, ⟨x1, vr, vd, vn, vg, vhn, vhs, vhN, vhP, vt, vu, vp, vq, ve, (.inl z1v, z1r), rfl, rfl, hz1, rfl⟩, rfl, Or.inl ⟨_, rfl, rfl⟩⟩ ?_
    refine Rn.go 2 (pc' := 9) (lv' := [(0, .ref 0), (1, .int x1), (2, .ref 113)]) (st' := []) (es' := (wTO vr vd vn vg vhn vhs vhN vhP vt vu vp vq ve (vp_updL vo 0 z1v.toInt64))) (c' := (0 + z1r.1)) (s' := (0 + z1r.2)) rfl ?_
    refine Rn.go 2 (pc' := 16) (lv' := [(0, .ref 0), (1, .int x1), (2, .ref 113)]) (st' := [.int (0 : Int32)]) (es' := (wTO vr vd vn vg vhn vhs vhN vhP vt vu vp vq ve (vp_updL vo 0 z1v.toInt64))) (c' := (0 + z1r.1)) (s' := (0 + z1r.2)) rfl ?_
    obtain rfl := Option.some.inj hp
    exact Rn.fin rfl rfl rfl
  · dsimp only at hp
    by_cases h1 : z1e = "java/lang/IllegalArgumentException"
    · subst h1
      rw [if_pos rfl] at hp
      refine Rn.rel (pc' := 13) (lv' := [(0, .ref 0), (1, .int x1), (2, .ref 113)]) (st' := []) (es' := (wTO vr vd vn vg vhn vhs vhN vhP vt vu vp vq ve vo)) (dc := z1r.1) (ds := z1r.2) rfl ⟨0, [.int x1], _, [0, 1, 2, 3, 4, 5, 6, 7, 8, 9, 10, 11, 12, 13, 14, 15, 16, 17, 18, 19, 20, 21, 22, 23, 24, 25, 26, 27, 28, 29, 30, 31, 32, 33, 34, 35, 36, 37, 38, 39, 40, 41, 42, 43, 44, 45, 46, 47, 48, 49, 50, 51, 52, 53, 54, 55, 56, 57, 58, 59, 60, 61, 62, 63, 64, 65, 66, 67, 68, 69, 70, 71, 72, 73, 74, 75, 76, 77, 78, 79, 80, 81, 82, 83, 84, 85, 86, 87, 88, 89, 90, 91, 92, 93, 94, 95, 96, 97, 98, 99, 100, 101, 102, 103, 104, 105, 106, 107, 108, 109, 110, 111, 112], .inr "java/lang/IllegalArgumentException", (wTN vr vd vn vg vhn vhs vhN vhP vt vu vp vq ve), z1r.1, z1r.2, rfl, rfl, Nat.le_of_ble_eq_true rfl, rfl, ⟨x1, vr, vd, vn, vg, vhn, vhs, vhN, vhP, vt, vu, vp, vq, ve, (.inr "java/lang/IllegalArgumentException", z1r), rfl, rfl, hz1, rfl⟩, rfl, Or.inr ⟨("java/lang/IllegalArgumentException", 13), List.mem_cons_self, rfl, rfl⟩⟩ ?_
      refine Rn.go 1 (pc' := 14) (lv' := [(0, .ref 0), (1, .int x1), (2, .ref 113)]) (st' := [.int (1 : Int32)]) (es' := (wTO vr vd vn vg vhn vhs vhN vhP vt vu vp vq ve vo)) (c' := (0 + z1r.1)) (s' := (0 + z1r.2)) rfl ?_
      obtain rfl := Option.some.inj hp
      exact Rn.fin rfl rfl rfl
    rw [if_neg h1] at hp
    cases hp
theorem qL_count_1 : CtA yL_count (.codeWith yL_count cL_count 4 (some .int) [(0, 9, 12, 19)]) 7 111 [] rL_count_1 := CtA.ofH (by decide +kernel) (fun pc op h => kL_count_1 _ (lkp_mem h)) oL_count_1
/-! TelescopeNightLaw.height(LTelescopeNight;II[J)I -/
def pL_height_1 (x1 : Int32) (x2 : Int32) (vn : NiS) (vo : Nat → Int64) : Option (Int32 × (Nat → Int64) × Nat × Nat) :=
  ob (pX8_height x1 x2 vn) (fun z1 => match z1 with
  | (.inl z1v, z1r) =>
    some ((0 : Int32), (vp_updL vo 0 z1v.toInt64), (0 + z1r.1), (0 + z1r.2))
  | (.inr z1e, z1r) =>
    if z1e = "java/lang/IndexOutOfBoundsException" then
      some ((1 : Int32), vo, (0 + z1r.1), (0 + z1r.2))
    else none)
def rL_height_1 : List Value → List va_E → op_O → Prop := fun avs es r => ∃ (x1 : Int32) (x2 : Int32) (vr : RdS) (vd : NiS) (vn : NiS) (vg : PrS) (vhn : Int32) (vhs : Int32) (vhN : Nat → NiS) (vhP : Nat → PrS) (vt : ReS) (vu : ReS) (vp : PlS) (vq : DeS) (ve : Int32) (vo : Nat → Int64) (z : Int32 × (Nat → Int64) × Nat × Nat), avs = [.ref 0, .int x1, .int x2, .ref 113] ∧ es = (wTO vr vd vn vg vhn vhs vhN vhP vt vu vp vq ve vo) ∧ pL_height_1 x1 x2 vn vo = some z ∧ r = (.inl (some (.int z.1)), (wTO vr vd vn vg vhn vhs vhN vhP vt vu vp vq ve z.2.1), z.2.2.1, z.2.2.2)
def bL_height_1 : List (Nat × (op_T ⊕ op_R)) := [(0, .inl (o_aload 1 3)), (1, .inl (o_push 2 (.int (0)))), (2, .inl (o_aload 3 0)), (3, .inl (o_iload 4 1)), (4, .inl (o_iload 5 2)), (5, .inr (o_callVH [] [] 8 2 8 4 [("java/lang/IndexOutOfBoundsException", 15)] rX8_height)), (8, .inl (o_i2l 9)), (9, .inl (o_last 10)), (10, .inl (o_goto 17)), (15, .inl (o_push 16 (.int (1)))), (16, .inl (o_iret)), (17, .inl (o_push 18 (.int (0)))), (18, .inl (o_iret))]
set_option maxRecDepth 100000 in
set_option maxHeartbeats 4000000 in
theorem kL_height_1 : ∀ q ∈ bL_height_1, ok2 8 133 5 cL_height yL_height.cls yL_height.name (some .int) (.codeWith yL_height cL_height 5 (some .int) [(0, 10, 13, 28)]) (tableOf [(0, 10, 13, 28)]) [] q.1 q.2 := (al_c (s_aload_n (k := 3) (by decide +kernel)) (al_c (s_iconst (n := 0) (0) (by decide) (by decide +kernel)) (al_c (s_aload_n (k := 0) (by decide +kernel)) (al_c (s_iload_n (k := 1) (by decide +kernel)) (al_c (s_iload_n (k := 2) (by decide +kernel)) (al_c (s_callVH (tb := tableOf [(0, 10, 13, 28)]) (by decide) (fun q hq => by rcases List.mem_singleton.mp hq with rfl; exact ⟨[], ⟨0, 10, 13, 28⟩, [], "java/lang/IndexOutOfBoundsException", rfl, (fun z hz => by cases hz), by decide, by decide, w_948, by decide, Or.inl ⟨by decide +kernel, rfl⟩⟩) (y := yX8_height) (bytes := cX8_height) (maxL := 3) (ret' := (some .int)) (fr' := 7) (lo' := 111) (n := 2) (ml := []) (mlc := []) (ci := 8) (q9 := (RX8, TX8, 10)) qX8_height w_949 w_950 w_951 w_1 w_952 ⟨by decide +kernel, by decide +kernel, by decide +kernel⟩ rfl rfl (by decide) (by decide) (by decide +kernel)) (al_c (s_i2l (by decide +kernel)) (al_c (s_last (by decide +kernel)) (al_c (s_goto (off := 7) 17 (by decide) (by decide +kernel)) (al_c (s_iconst (n := 1) (1) (by decide) (by decide +kernel)) (al_c (s_iret rfl (by decide +kernel)) (al_c (s_iconst (n := 0) (0) (by decide) (by decide +kernel)) (al_c (s_iret rfl (by decide +kernel)) al_n)))))))))))))
set_option maxRecDepth 100000 in
set_option maxHeartbeats 4000000 in
theorem oL_height_1 : Of (lkp bL_height_1) 5 rL_height_1 := by
  intro avs es r h
  obtain ⟨x1, x2, vr, vd, vn, vg, vhn, vhs, vhN, vhP, vt, vu, vp, vq, ve, vo, z, rfl, rfl, hp, rfl⟩ := h
  refine ⟨Nat.le_of_ble_eq_true rfl, ?_⟩
  unfold pL_height_1 at hp
  refine Rn.go 5 (pc' := 5) (lv' := [(0, .ref 0), (1, .int x1), (2, .int x2), (3, .ref 113)]) (st' := [.int x2, .int x1, .ref 0, .int (0 : Int32), .ref 113]) (es' := (wTO vr vd vn vg vhn vhs vhN vhP vt vu vp vq ve vo)) (c' := 0) (s' := 0) rfl ?_
  obtain ⟨z1, hz1, hp⟩ := ob_some hp
  obtain ⟨(z1v | z1e), z1r⟩ := z1
  · dsimp only at hp
    refine Rn.rel (pc' := 8) (lv' := [(0, .ref 0), (1, .int x1), (2, .int x2), (3, .ref 113)]) (st' := [.int z1v, .int (0 : Int32), .ref 113]) (es' := (wTO vr vd vn vg vhn vhs vhN vhP vt vu vp vq ve vo)) (dc := z1r.1) (ds := z1r.2) rfl ⟨0, [.int x1, .int x2], _, [0, 1, 2, 3, 4, 5, 6, 7, 8, 9, 10, 11, 12, 13, 14, 15, 16, 17, 18, 19, 20, 21, 22, 23, 24, 25, 26, 27, 28, 29, 30, 31, 32, 33, 34, 35, 36, 37, 38, 39, 40, 41, 42, 43, 44, 45, 46, 47, 48, 49, 50, 51, 52, 53, 54, 55, 56, 57, 58, 59, 60, 61, 62, 63, 64, 65, 66, 67, 68, 69, 70, 71, 72, 73, 74, 75, 76, 77, 78, 79, 80, 81, 82, 83, 84, 85, 86, 87, 88, 89, 90, 91, 92, 93, 94, 95, 96, 97, 98, 99, 100, 101, 102, 103, 104, 105, 106, 107, 108, 109, 110, 111, 112], .inl (some (.int z1v)), (wTN vr vd vn vg vhn vhs vhN vhP vt vu vp vq ve), z1r.1, z1r.2, rfl, rfl, Nat.le_of_ble_eq_true rfl, rfl, ⟨x1, x2, vr, vd, vn, vg, vhn, vhs, vhN, vhP, vt, vu, vp, vq, ve, (.inl z1v, z1r), rfl, rfl, hz1, rfl⟩, rfl, Or.inl ⟨_, rfl, rfl⟩⟩ ?_
    refine Rn.go 2 (pc' := 10) (lv' := [(0, .ref 0), (1, .int x1), (2, .int x2), (3, .ref 113)]) (st' := []) (es' := (wTO vr vd vn vg vhn vhs vhN vhP vt vu vp vq ve (vp_updL vo 0 z1v.toInt64))) (c' := (0 + z1r.1)) (s' := (0 + z1r.2)) rfl ?_
    refine Rn.go 2 (pc' := 18) (lv' := [(0, .ref 0), (1, .int x1), (2, .int x2), (3, .ref 113)]) (st' := [.int (0 : Int32)]) (es' := (wTO vr vd vn vg vhn vhs vhN vhP vt vu vp vq ve (vp_updL vo 0 z1v.toInt64))) (c' := (0 + z1r.1)) (s' := (0 + z1r.2)) rfl ?_
    obtain rfl := Option.some.inj hp
    exact Rn.fin rfl rfl rfl
  · dsimp only at hp
    by_cases h1 : z1e = "java/lang/IndexOutOfBoundsException"
    · subst h1
      rw [if_pos rfl] at hp
      refine Rn.rel (pc' := 15) (lv' := [(0, .ref 0), (1, .int x1), (2, .int x2), (3, .ref 113)]) (st' := []) (es' := (wTO vr vd vn vg vhn vhs vhN vhP vt vu vp vq ve vo)) (dc := z1r.1) (ds := z1r.2) rfl ⟨0, [.int x1, .int x2], _, [0, 1, 2, 3, 4, 5, 6, 7, 8, 9, 10, 11, 12, 13, 14, 15, 16, 17, 18, 19, 20, 21, 22, 23, 24, 25, 26, 27, 28, 29, 30, 31, 32, 33, 34, 35, 36, 37, 38, 39, 40, 41, 42, 43, 44, 45, 46, 47, 48, 49, 50, 51, 52, 53, 54, 55, 56, 57, 58, 59, 60, 61, 62, 63, 64, 65, 66, 67, 68, 69, 70, 71, 72, 73, 74, 75, 76, 77, 78, 79, 80, 81, 82, 83, 84, 85, 86, 87, 88, 89, 90, 91, 92, 93, 94, 95, 96, 97, 98, 99, 100, 101, 102, 103, 104, 105, 106, 107, 108, 109, 110, 111, 112], .inr "java/lang/IndexOutOfBoundsException", (wTN vr vd vn vg vhn vhs vhN vhP vt vu vp vq ve), z1r.1, z1r.2, rfl, rfl, Nat.le_of_ble_eq_true rfl, rfl, ⟨x1, x2, vr, vd, vn, vg, vhn, vhs, vhN, vhP, vt, vu, vp, vq, ve, (.inr "java/lang/IndexOutOfBoundsException", z1r), rfl, rfl, hz1, rfl⟩, rfl, Or.inr ⟨("java/lang/IndexOutOfBoundsException", 15), List.mem_cons_self, rfl, rfl⟩⟩ ?_
      refine Rn.go 1 (pc' := 16) (lv' := [(0, .ref 0), (1, .int x1), (2, .int x2), (3, .ref 113)]) (st' := [.int (1 : Int32)]) (es' := (wTO vr vd vn vg vhn vhs vhN vhP vt vu vp vq ve vo)) (c' := (0 + z1r.1)) (s' := (0 + z1r.2)) rfl ?_
      obtain rfl := Option.some.inj hp
      exact Rn.fin rfl rfl rfl
    rw [if_neg h1] at hp
    cases hp
theorem qL_height_1 : CtA yL_height (.codeWith yL_height cL_height 5 (some .int) [(0, 10, 13, 28)]) 8 133 [] rL_height_1 := CtA.ofH (by decide +kernel) (fun pc op h => kL_height_1 _ (lkp_mem h)) oL_height_1
/-! TelescopeNightLaw.moonHeight(LTelescopeNight;I[J)I -/
def pL_moonHeight_1 (x1 : Int32) (vn : NiS) (vo : Nat → Int64) : Option (Int32 × (Nat → Int64) × Nat × Nat) :=
  ob (pX8_moonHeight x1 vn) (fun z1 => match z1 with
  | (.inl z1v, z1r) =>
    some ((0 : Int32), (vp_updL vo 0 z1v.toInt64), (0 + z1r.1), (0 + z1r.2))
  | (.inr z1e, z1r) =>
    if z1e = "java/lang/IndexOutOfBoundsException" then
      some ((1 : Int32), vo, (0 + z1r.1), (0 + z1r.2))
    else none)
def rL_moonHeight_1 : List Value → List va_E → op_O → Prop := fun avs es r => ∃ (x1 : Int32) (vr : RdS) (vd : NiS) (vn : NiS) (vg : PrS) (vhn : Int32) (vhs : Int32) (vhN : Nat → NiS) (vhP : Nat → PrS) (vt : ReS) (vu : ReS) (vp : PlS) (vq : DeS) (ve : Int32) (vo : Nat → Int64) (z : Int32 × (Nat → Int64) × Nat × Nat), avs = [.ref 0, .int x1, .ref 113] ∧ es = (wTO vr vd vn vg vhn vhs vhN vhP vt vu vp vq ve vo) ∧ pL_moonHeight_1 x1 vn vo = some z ∧ r = (.inl (some (.int z.1)), (wTO vr vd vn vg vhn vhs vhN vhP vt vu vp vq ve z.2.1), z.2.2.1, z.2.2.2)
def bL_moonHeight_1 : List (Nat × (op_T ⊕ op_R)) := [(0, .inl (o_aload 1 2)), (1, .inl (o_push 2 (.int (0)))), (2, .inl (o_aload 3 0)), (3, .inl (o_iload 4 1)), (4, .inr (o_callVH [] [] 7 1 8 3 [("java/lang/IndexOutOfBoundsException", 13)] rX8_moonHeight)), (7, .inl (o_i2l 8)), (8, .inl (o_last 9)), (9, .inl (o_goto 15)), (13, .inl (o_push 14 (.int (1)))), (14, .inl (o_iret)), (15, .inl (o_push 16 (.int (0)))), (16, .inl (o_iret))]
set_option maxRecDepth 100000 in
set_option maxHeartbeats 4000000 in
theorem kL_moonHeight_1 : ∀ q ∈ bL_moonHeight_1, ok2 8 132 4 cL_moonHeight yL_moonHeight.cls yL_moonHeight.name (some .int) (.codeWith yL_moonHeight cL_moonHeight 4 (some .int) [(0, 9, 12, 28)]) (tableOf [(0, 9, 12, 28)]) [] q.1 q.2 := (al_c (s_aload_n (k := 2) (by decide +kernel)) (al_c (s_iconst (n := 0) (0) (by decide) (by decide +kernel)) (al_c (s_aload_n (k := 0) (by decide +kernel)) (al_c (s_iload_n (k := 1) (by decide +kernel)) (al_c (s_callVH (tb := tableOf [(0, 9, 12, 28)]) (by decide) (fun q hq => by rcases List.mem_singleton.mp hq with rfl; exact ⟨[], ⟨0, 9, 12, 28⟩, [], "java/lang/IndexOutOfBoundsException", rfl, (fun z hz => by cases hz), by decide, by decide, w_948, by decide, Or.inr ⟨3, rfl, by decide +kernel, rfl⟩⟩) (y := yX8_moonHeight) (bytes := cX8_moonHeight) (maxL := 2) (ret' := (some .int)) (fr' := 7) (lo' := 111) (n := 1) (ml := []) (mlc := []) (ci := 8) (q9 := (RX8, TX8, 10)) qX8_moonHeight w_982 w_983 w_984 w_1 w_985 ⟨by decide +kernel, by decide +kernel, by decide +kernel⟩ rfl rfl (by decide) (by decide) (by decide +kernel)) (al_c (s_i2l (by decide +kernel)) (al_c (s_last (by decide +kernel)) (al_c (s_goto (off := 6) 15 (by decide) (by decide +kernel)) (al_c (s_iconst (n := 1) (1) (by decide) (by decide +kernel)) (al_c (s_iret rfl (by decide +kernel)) (al_c (s_iconst (n := 0) (0) (by decide) (by decide +kernel)) (al_c (s_iret rfl (by decide +kernel)) al_n))))))))))))
set_option maxRecDepth 100000 in
set_option maxHeartbeats 4000000 in
theorem oL_moonHeight_1 : Of (lkp bL_moonHeight_1) 4 rL_moonHeight_1 := by
  intro avs es r h
  obtain ⟨x1, vr, vd, vn, vg, vhn, vhs, vhN, vhP, vt, vu, vp, vq, ve, vo, z, rfl, rfl, hp, rfl⟩ := h
  refine ⟨Nat.le_of_ble_eq_true rfl, ?_⟩
  unfold pL_moonHeight_1 at hp
  refine Rn.go 4 (pc' := 4) (lv' := [(0, .ref 0), (1, .int x1), (2, .ref 113)]) (st' := [.int x1, .ref 0, .int (0 : Int32), .ref 113]) (es' := (wTO vr vd vn vg vhn vhs vhN vhP vt vu vp vq ve vo)) (c' := 0) (s' := 0) rfl ?_
  obtain ⟨z1, hz1, hp⟩ := ob_some hp
  obtain ⟨(z1v | z1e), z1r⟩ := z1
  · dsimp only at hp
    refine Rn.rel (pc' := 7) (lv' := [(0, .ref 0), (1, .int x1), (2, .ref 113)]) (st' := [.int z1v, .int (0 : Int32), .ref 113]) (es' := (wTO vr vd vn vg vhn vhs vhN vhP vt vu vp vq ve vo)) (dc := z1r.1) (ds := z1r.2) rfl ⟨0, [.int x1], _, [0, 1, 2, 3, 4, 5, 6, 7, 8, 9, 10, 11, 12, 13, 14, 15, 16, 17, 18, 19, 20, 21, 22, 23, 24, 25, 26, 27, 28, 29, 30, 31, 32, 33, 34, 35, 36, 37, 38, 39, 40, 41, 42, 43, 44, 45, 46, 47, 48, 49, 50, 51, 52, 53, 54, 55, 56, 57, 58, 59, 60, 61, 62, 63, 64, 65, 66, 67, 68, 69, 70, 71, 72, 73, 74, 75, 76, 77, 78, 79, 80, 81, 82, 83, 84, 85, 86, 87, 88, 89, 90, 91, 92, 93, 94, 95, 96, 97, 98, 99, 100, 101, 102, 103, 104, 105, 106, 107, 108, 109, 110, 111, 112], .inl (some (.int z1v)), (wTN vr vd vn vg vhn vhs vhN vhP vt vu vp vq ve), z1r.1, z1r.2, rfl, rfl, Nat.le_of_ble_eq_true rfl, rfl, ⟨x1, vr, vd, vn, vg, vhn, vhs, vhN, vhP, vt, vu, vp, vq, ve, (.inl z1v, z1r), rfl, rfl, hz1, rfl⟩, rfl, Or.inl ⟨_, rfl, rfl⟩⟩ ?_
    refine Rn.go 2 (pc' := 9) (lv' := [(0, .ref 0), (1, .int x1), (2, .ref 113)]) (st' := []) (es' := (wTO vr vd vn vg vhn vhs vhN vhP vt vu vp vq ve (vp_updL vo 0 z1v.toInt64))) (c' := (0 + z1r.1)) (s' := (0 + z1r.2)) rfl ?_
    refine Rn.go 2 (pc' := 16) (lv' := [(0, .ref 0), (1, .int x1), (2, .ref 113)]) (st' := [.int (0 : Int32)]) (es' := (wTO vr vd vn vg vhn vhs vhN vhP vt vu vp vq ve (vp_updL vo 0 z1v.toInt64))) (c' := (0 + z1r.1)) (s' := (0 + z1r.2)) rfl ?_
    obtain rfl := Option.some.inj hp
    exact Rn.fin rfl rfl rfl
  · dsimp only at hp
    by_cases h1 : z1e = "java/lang/IndexOutOfBoundsException"
    · subst h1
      rw [if_pos rfl] at hp
      refine Rn.rel (pc' := 13) (lv' := [(0, .ref 0), (1, .int x1), (2, .ref 113)]) (st' := []) (es' := (wTO vr vd vn vg vhn vhs vhN vhP vt vu vp vq ve vo)) (dc := z1r.1) (ds := z1r.2) rfl ⟨0, [.int x1], _, [0, 1, 2, 3, 4, 5, 6, 7, 8, 9, 10, 11, 12, 13, 14, 15, 16, 17, 18, 19, 20, 21, 22, 23, 24, 25, 26, 27, 28, 29, 30, 31, 32, 33, 34, 35, 36, 37, 38, 39, 40, 41, 42, 43, 44, 45, 46, 47, 48, 49, 50, 51, 52, 53, 54, 55, 56, 57, 58, 59, 60, 61, 62, 63, 64, 65, 66, 67, 68, 69, 70, 71, 72, 73, 74, 75, 76, 77, 78, 79, 80, 81, 82, 83, 84, 85, 86, 87, 88, 89, 90, 91, 92, 93, 94, 95, 96, 97, 98, 99, 100, 101, 102, 103, 104, 105, 106, 107, 108, 109, 110, 111, 112], .inr "java/lang/IndexOutOfBoundsException", (wTN vr vd vn vg vhn vhs vhN vhP vt vu vp vq ve), z1r.1, z1r.2, rfl, rfl, Nat.le_of_ble_eq_true rfl, rfl, ⟨x1, vr, vd, vn, vg, vhn, vhs, vhN, vhP, vt, vu, vp, vq, ve, (.inr "java/lang/IndexOutOfBoundsException", z1r), rfl, rfl, hz1, rfl⟩, rfl, Or.inr ⟨("java/lang/IndexOutOfBoundsException", 13), List.mem_cons_self, rfl, rfl⟩⟩ ?_
      refine Rn.go 1 (pc' := 14) (lv' := [(0, .ref 0), (1, .int x1), (2, .ref 113)]) (st' := [.int (1 : Int32)]) (es' := (wTO vr vd vn vg vhn vhs vhN vhP vt vu vp vq ve vo)) (c' := (0 + z1r.1)) (s' := (0 + z1r.2)) rfl ?_
      obtain rfl := Option.some.inj hp
      exact Rn.fin rfl rfl rfl
    rw [if_neg h1] at hp
    cases hp
theorem qL_moonHeight_1 : CtA yL_moonHeight (.codeWith yL_moonHeight cL_moonHeight 4 (some .int) [(0, 9, 12, 28)]) 8 132 [] rL_moonHeight_1 := CtA.ofH (by decide +kernel) (fun pc op h => kL_moonHeight_1 _ (lkp_mem h)) oL_moonHeight_1
/-! TelescopeNightLaw.moonDistance(LTelescopeNight;II[J)I -/
def pL_moonDistance_1 (x1 : Int32) (x2 : Int32) (vn : NiS) (vo : Nat → Int64) : Option (Int32 × (Nat → Int64) × Nat × Nat) :=
  ob (pX8_moonDistance x1 x2 vn) (fun z1 => match z1 with
  | (.inl z1v, z1r) =>
    some ((0 : Int32), (vp_updL vo 0 z1v.toInt64), (0 + z1r.1), (0 + z1r.2))
  | (.inr z1e, z1r) =>
    if z1e = "java/lang/IndexOutOfBoundsException" then
      some ((1 : Int32), vo, (0 + z1r.1), (0 + z1r.2))
    else none)
def rL_moonDistance_1 : List Value → List va_E → op_O → Prop := fun avs es r => ∃ (x1 : Int32) (x2 : Int32) (vr : RdS) (vd : NiS) (vn : NiS) (vg : PrS) (vhn : Int32) (vhs : Int32) (vhN : Nat → NiS) (vhP : Nat → PrS) (vt : ReS) (vu : ReS) (vp : PlS) (vq : DeS) (ve : Int32) (vo : Nat → Int64) (z : Int32 × (Nat → Int64) × Nat × Nat), avs = [.ref 0, .int x1, .int x2, .ref 113] ∧ es = (wTO vr vd vn vg vhn vhs vhN vhP vt vu vp vq ve vo) ∧ pL_moonDistance_1 x1 x2 vn vo = some z ∧ r = (.inl (some (.int z.1)), (wTO vr vd vn vg vhn vhs vhN vhP vt vu vp vq ve z.2.1), z.2.2.1, z.2.2.2)
def bL_moonDistance_1 : List (Nat × (op_T ⊕ op_R)) := [(0, .inl (o_aload 1 3)), (1, .inl (o_push 2 (.int (0)))), (2, .inl (o_aload 3 0)), (3, .inl (o_iload 4 1)), (4, .inl (o_iload 5 2)), (5, .inr (o_callVH [] [] 8 2 8 4 [("java/lang/IndexOutOfBoundsException", 15)] rX8_moonDistance)), (8, .inl (o_i2l 9)), (9, .inl (o_last 10)), (10, .inl (o_goto 17)), (15, .inl (o_push 16 (.int (1)))), (16, .inl (o_iret)), (17, .inl (o_push 18 (.int (0)))), (18, .inl (o_iret))]
set_option maxRecDepth 100000 in
set_option maxHeartbeats 4000000 in
theorem kL_moonDistance_1 : ∀ q ∈ bL_moonDistance_1, ok2 8 133 5 cL_moonDistance yL_moonDistance.cls yL_moonDistance.name (some .int) (.codeWith yL_moonDistance cL_moonDistance 5 (some .int) [(0, 10, 13, 28)]) (tableOf [(0, 10, 13, 28)]) [] q.1 q.2 := (al_c (s_aload_n (k := 3) (by decide +kernel)) (al_c (s_iconst (n := 0) (0) (by decide) (by decide +kernel)) (al_c (s_aload_n (k := 0) (by decide +kernel)) (al_c (s_iload_n (k := 1) (by decide +kernel)) (al_c (s_iload_n (k := 2) (by decide +kernel)) (al_c (s_callVH (tb := tableOf [(0, 10, 13, 28)]) (by decide) (fun q hq => by rcases List.mem_singleton.mp hq with rfl; exact ⟨[], ⟨0, 10, 13, 28⟩, [], "java/lang/IndexOutOfBoundsException", rfl, (fun z hz => by cases hz), by decide, by decide, w_948, by decide, Or.inl ⟨by decide +kernel, rfl⟩⟩) (y := yX8_moonDistance) (bytes := cX8_moonDistance) (maxL := 3) (ret' := (some .int)) (fr' := 7) (lo' := 111) (n := 2) (ml := []) (mlc := []) (ci := 8) (q9 := (RX8, TX8, 10)) qX8_moonDistance w_990 w_991 w_992 w_1 w_993 ⟨by decide +kernel, by decide +kernel, by decide +kernel⟩ rfl rfl (by decide) (by decide) (by decide +kernel)) (al_c (s_i2l (by decide +kernel)) (al_c (s_last (by decide +kernel)) (al_c (s_goto (off := 7) 17 (by decide) (by decide +kernel)) (al_c (s_iconst (n := 1) (1) (by decide) (by decide +kernel)) (al_c (s_iret rfl (by decide +kernel)) (al_c (s_iconst (n := 0) (0) (by decide) (by decide +kernel)) (al_c (s_iret rfl (by decide +kernel)) al_n)))))))))))))
set_option maxRecDepth 100000 in
set_option maxHeartbeats 4000000 in
theorem oL_moonDistance_1 : Of (lkp bL_moonDistance_1) 5 rL_moonDistance_1 := by
  intro avs es r h
  obtain ⟨x1, x2, vr, vd, vn, vg, vhn, vhs, vhN, vhP, vt, vu, vp, vq, ve, vo, z, rfl, rfl, hp, rfl⟩ := h
  refine ⟨Nat.le_of_ble_eq_true rfl, ?_⟩
  unfold pL_moonDistance_1 at hp
  refine Rn.go 5 (pc' := 5) (lv' := [(0, .ref 0), (1, .int x1), (2, .int x2), (3, .ref 113)]) (st' := [.int x2, .int x1, .ref 0, .int (0 : Int32), .ref 113]) (es' := (wTO vr vd vn vg vhn vhs vhN vhP vt vu vp vq ve vo)) (c' := 0) (s' := 0) rfl ?_
  obtain ⟨z1, hz1, hp⟩ := ob_some hp
  obtain ⟨(z1v | z1e), z1r⟩ := z1
  · dsimp only at hp
    refine Rn.rel (pc' := 8) (lv' := [(0, .ref 0), (1, .int x1), (2, .int x2), (3, .ref 113)]) (st' := [.int z1v, .int (0 : Int32), .ref 113]) (es' := (wTO vr vd vn vg vhn vhs vhN vhP vt vu vp vq ve vo)) (dc := z1r.1) (ds := z1r.2) rfl ⟨0, [.int x1, .int x2], _, [0, 1, 2, 3, 4, 5, 6, 7, 8, 9, 10, 11, 12, 13, 14, 15, 16, 17, 18, 19, 20, 21, 22, 23, 24, 25, 26, 27, 28, 29, 30, 31, 32, 33, 34, 35, 36, 37, 38, 39, 40, 41, 42, 43, 44, 45, 46, 47, 48, 49, 50, 51, 52, 53, 54, 55, 56, 57, 58, 59, 60, 61, 62, 63, 64, 65, 66, 67, 68, 69, 70, 71, 72, 73, 74, 75, 76, 77, 78, 79, 80, 81, 82, 83, 84, 85, 86, 87, 88, 89, 90, 91, 92, 93, 94, 95, 96, 97, 98, 99, 100, 101, 102, 103, 104, 105, 106, 107, 108, 109, 110, 111, 112], .inl (some (.int z1v)), (wTN vr vd vn vg vhn vhs vhN vhP vt vu vp vq ve), z1r.1, z1r.2, rfl, rfl, Nat.le_of_ble_eq_true rfl, rfl, ⟨x1, x2, vr, vd, vn, vg, vhn, vhs, vhN, vhP, vt, vu, vp, vq, ve, (.inl z1v, z1r), rfl, rfl, hz1, rfl⟩, rfl, Or.inl ⟨_, rfl, rfl⟩⟩ ?_
    refine Rn.go 2 (pc' := 10) (lv' := [(0, .ref 0), (1, .int x1), (2, .int x2), (3, .ref 113)]) (st' := []) (es' := (wTO vr vd vn vg vhn vhs vhN vhP vt vu vp vq ve (vp_updL vo 0 z1v.toInt64))) (c' := (0 + z1r.1)) (s' := (0 + z1r.2)) rfl ?_
    refine Rn.go 2 (pc' := 18) (lv' := [(0, .ref 0), (1, .int x1), (2, .int x2), (3, .ref 113)]) (st' := [.int (0 : Int32)]) (es' := (wTO vr vd vn vg vhn vhs vhN vhP vt vu vp vq ve (vp_updL vo 0 z1v.toInt64))) (c' := (0 + z1r.1)) (s' := (0 + z1r.2)) rfl ?_
    obtain rfl := Option.some.inj hp
    exact Rn.fin rfl rfl rfl
  · dsimp only at hp
    by_cases h1 : z1e = "java/lang/IndexOutOfBoundsException"
    · subst h1
      rw [if_pos rfl] at hp
      refine Rn.rel (pc' := 15) (lv' := [(0, .ref 0), (1, .int x1), (2, .int x2), (3, .ref 113)]) (st' := []) (es' := (wTO vr vd vn vg vhn vhs vhN vhP vt vu vp vq ve vo)) (dc := z1r.1) (ds := z1r.2) rfl ⟨0, [.int x1, .int x2], _, [0, 1, 2, 3, 4, 5, 6, 7, 8, 9, 10, 11, 12, 13, 14, 15, 16, 17, 18, 19, 20, 21, 22, 23, 24, 25, 26, 27, 28, 29, 30, 31, 32, 33, 34, 35, 36, 37, 38, 39, 40, 41, 42, 43, 44, 45, 46, 47, 48, 49, 50, 51, 52, 53, 54, 55, 56, 57, 58, 59, 60, 61, 62, 63, 64, 65, 66, 67, 68, 69, 70, 71, 72, 73, 74, 75, 76, 77, 78, 79, 80, 81, 82, 83, 84, 85, 86, 87, 88, 89, 90, 91, 92, 93, 94, 95, 96, 97, 98, 99, 100, 101, 102, 103, 104, 105, 106, 107, 108, 109, 110, 111, 112], .inr "java/lang/IndexOutOfBoundsException", (wTN vr vd vn vg vhn vhs vhN vhP vt vu vp vq ve), z1r.1, z1r.2, rfl, rfl, Nat.le_of_ble_eq_true rfl, rfl, ⟨x1, x2, vr, vd, vn, vg, vhn, vhs, vhN, vhP, vt, vu, vp, vq, ve, (.inr "java/lang/IndexOutOfBoundsException", z1r), rfl, rfl, hz1, rfl⟩, rfl, Or.inr ⟨("java/lang/IndexOutOfBoundsException", 15), List.mem_cons_self, rfl, rfl⟩⟩ ?_
      refine Rn.go 1 (pc' := 16) (lv' := [(0, .ref 0), (1, .int x1), (2, .int x2), (3, .ref 113)]) (st' := [.int (1 : Int32)]) (es' := (wTO vr vd vn vg vhn vhs vhN vhP vt vu vp vq ve vo)) (c' := (0 + z1r.1)) (s' := (0 + z1r.2)) rfl ?_
      obtain rfl := Option.some.inj hp
      exact Rn.fin rfl rfl rfl
    rw [if_neg h1] at hp
    cases hp
theorem qL_moonDistance_1 : CtA yL_moonDistance (.codeWith yL_moonDistance cL_moonDistance 5 (some .int) [(0, 10, 13, 28)]) 8 133 [] rL_moonDistance_1 := CtA.ofH (by decide +kernel) (fun pc op h => kL_moonDistance_1 _ (lkp_mem h)) oL_moonDistance_1
/-! TelescopeNightLaw.window(LTelescopeNight;I[J)I -/
def pL_window_1 (x1 : Int32) (vn : NiS) (vo : Nat → Int64) : Option (Int32 × (Nat → Int64) × Nat × Nat) :=
  ob (pX8_window x1 vn) (fun z1 => match z1 with
  | (.inl z1v, z1r) =>
    some ((0 : Int32), (vp_updL vo 0 z1v.toInt64), (0 + z1r.1), (0 + z1r.2))
  | (.inr z1e, z1r) =>
    if z1e = "java/lang/IndexOutOfBoundsException" then
      some ((1 : Int32), vo, (0 + z1r.1), (0 + z1r.2))
    else none)
def rL_window_1 : List Value → List va_E → op_O → Prop := fun avs es r => ∃ (x1 : Int32) (vr : RdS) (vd : NiS) (vn : NiS) (vg : PrS) (vhn : Int32) (vhs : Int32) (vhN : Nat → NiS) (vhP : Nat → PrS) (vt : ReS) (vu : ReS) (vp : PlS) (vq : DeS) (ve : Int32) (vo : Nat → Int64) (z : Int32 × (Nat → Int64) × Nat × Nat), avs = [.ref 0, .int x1, .ref 113] ∧ es = (wTO vr vd vn vg vhn vhs vhN vhP vt vu vp vq ve vo) ∧ pL_window_1 x1 vn vo = some z ∧ r = (.inl (some (.int z.1)), (wTO vr vd vn vg vhn vhs vhN vhP vt vu vp vq ve z.2.1), z.2.2.1, z.2.2.2)
def bL_window_1 : List (Nat × (op_T ⊕ op_R)) := [(0, .inl (o_aload 1 2)), (1, .inl (o_push 2 (.int (0)))), (2, .inl (o_aload 3 0)), (3, .inl (o_iload 4 1)), (4, .inr (o_callVH [] [] 7 1 8 3 [("java/lang/IndexOutOfBoundsException", 13)] rX8_window)), (7, .inl (o_i2l 8)), (8, .inl (o_last 9)), (9, .inl (o_goto 15)), (13, .inl (o_push 14 (.int (1)))), (14, .inl (o_iret)), (15, .inl (o_push 16 (.int (0)))), (16, .inl (o_iret))]
set_option maxRecDepth 100000 in
set_option maxHeartbeats 4000000 in
theorem kL_window_1 : ∀ q ∈ bL_window_1, ok2 8 132 4 cL_window yL_window.cls yL_window.name (some .int) (.codeWith yL_window cL_window 4 (some .int) [(0, 9, 12, 28)]) (tableOf [(0, 9, 12, 28)]) [] q.1 q.2 := (al_c (s_aload_n (k := 2) (by decide +kernel)) (al_c (s_iconst (n := 0) (0) (by decide) (by decide +kernel)) (al_c (s_aload_n (k := 0) (by decide +kernel)) (al_c (s_iload_n (k := 1) (by decide +kernel)) (al_c (s_callVH (tb := tableOf [(0, 9, 12, 28)]) (by decide) (fun q hq => by rcases List.mem_singleton.mp hq with rfl; exact ⟨[], ⟨0, 9, 12, 28⟩, [], "java/lang/IndexOutOfBoundsException", rfl, (fun z hz => by cases hz), by decide, by decide, w_948, by decide, Or.inr ⟨3, rfl, by decide +kernel, rfl⟩⟩) (y := yX8_window) (bytes := cX8_window) (maxL := 2) (ret' := (some .int)) (fr' := 7) (lo' := 111) (n := 1) (ml := []) (mlc := []) (ci := 8) (q9 := (RX8, TX8, 10)) qX8_window w_998 w_999 w_1000 w_1 w_1001 ⟨by decide +kernel, by decide +kernel, by decide +kernel⟩ rfl rfl (by decide) (by decide) (by decide +kernel)) (al_c (s_i2l (by decide +kernel)) (al_c (s_last (by decide +kernel)) (al_c (s_goto (off := 6) 15 (by decide) (by decide +kernel)) (al_c (s_iconst (n := 1) (1) (by decide) (by decide +kernel)) (al_c (s_iret rfl (by decide +kernel)) (al_c (s_iconst (n := 0) (0) (by decide) (by decide +kernel)) (al_c (s_iret rfl (by decide +kernel)) al_n))))))))))))
set_option maxRecDepth 100000 in
set_option maxHeartbeats 4000000 in
theorem oL_window_1 : Of (lkp bL_window_1) 4 rL_window_1 := by
  intro avs es r h
  obtain ⟨x1, vr, vd, vn, vg, vhn, vhs, vhN, vhP, vt, vu, vp, vq, ve, vo, z, rfl, rfl, hp, rfl⟩ := h
  refine ⟨Nat.le_of_ble_eq_true rfl, ?_⟩
  unfold pL_window_1 at hp
  refine Rn.go 4 (pc' := 4) (lv' := [(0, .ref 0), (1, .int x1), (2, .ref 113)]) (st' := [.int x1, .ref 0, .int (0 : Int32), .ref 113]) (es' := (wTO vr vd vn vg vhn vhs vhN vhP vt vu vp vq ve vo)) (c' := 0) (s' := 0) rfl ?_
  obtain ⟨z1, hz1, hp⟩ := ob_some hp
  obtain ⟨(z1v | z1e), z1r⟩ := z1
  · dsimp only at hp
    refine Rn.rel (pc' := 7) (lv' := [(0, .ref 0), (1, .int x1), (2, .ref 113)]) (st' := [.int z1v, .int (0 : Int32), .ref 113]) (es' := (wTO vr vd vn vg vhn vhs vhN vhP vt vu vp vq ve vo)) (dc := z1r.1) (ds := z1r.2) rfl ⟨0, [.int x1], _, [0, 1, 2, 3, 4, 5, 6, 7, 8, 9, 10, 11, 12, 13, 14, 15, 16, 17, 18, 19, 20, 21, 22, 23, 24, 25, 26, 27, 28, 29, 30, 31, 32, 33, 34, 35, 36, 37, 38, 39, 40, 41, 42, 43, 44, 45, 46, 47, 48, 49, 50, 51, 52, 53, 54, 55, 56, 57, 58, 59, 60, 61, 62, 63, 64, 65, 66, 67, 68, 69, 70, 71, 72, 73, 74, 75, 76, 77, 78, 79, 80, 81, 82, 83, 84, 85, 86, 87, 88, 89, 90, 91, 92, 93, 94, 95, 96, 97, 98, 99, 100, 101, 102, 103, 104, 105, 106, 107, 108, 109, 110, 111, 112], .inl (some (.int z1v)), (wTN vr vd vn vg vhn vhs vhN vhP vt vu vp vq ve), z1r.1, z1r.2, rfl, rfl, Nat.le_of_ble_eq_true rfl, rfl, ⟨x1, vr, vd, vn, vg, vhn, vhs, vhN, vhP, vt, vu, vp, vq, ve, (.inl z1v, z1r), rfl, rfl, hz1, rfl⟩, rfl, Or.inl ⟨_, rfl, rfl⟩⟩ ?_
    refine Rn.go 2 (pc' := 9) (lv' := [(0, .ref 0), (1, .int x1), (2, .ref 113)]) (st' := []) (es' := (wTO vr vd vn vg vhn vhs vhN vhP vt vu vp vq ve (vp_updL vo 0 z1v.toInt64))) (c' := (0 + z1r.1)) (s' := (0 + z1r.2)) rfl ?_
    refine Rn.go 2 (pc' := 16) (lv' := [(0, .ref 0), (1, .int x1), (2, .ref 113)]) (st' := [.int (0 : Int32)]) (es' := (wTO vr vd vn vg vhn vhs vhN vhP vt vu vp vq ve (vp_updL vo 0 z1v.toInt64))) (c' := (0 + z1r.1)) (s' := (0 + z1r.2)) rfl ?_
    obtain rfl := Option.some.inj hp
    exact Rn.fin rfl rfl rfl
  · dsimp only at hp
    by_cases h1 : z1e = "java/lang/IndexOutOfBoundsException"
    · subst h1
      rw [if_pos rfl] at hp
      refine Rn.rel (pc' := 13) (lv' := [(0, .ref 0), (1, .int x1), (2, .ref 113)]) (st' := []) (es' := (wTO vr vd vn vg vhn vhs vhN vhP vt vu vp vq ve vo)) (dc := z1r.1) (ds := z1r.2) rfl ⟨0, [.int x1], _, [0, 1, 2, 3, 4, 5, 6, 7, 8, 9, 10, 11, 12, 13, 14, 15, 16, 17, 18, 19, 20, 21, 22, 23, 24, 25, 26, 27, 28, 29, 30, 31, 32, 33, 34, 35, 36, 37, 38, 39, 40, 41, 42, 43, 44, 45, 46, 47, 48, 49, 50, 51, 52, 53, 54, 55, 56, 57, 58, 59, 60, 61, 62, 63, 64, 65, 66, 67, 68, 69, 70, 71, 72, 73, 74, 75, 76, 77, 78, 79, 80, 81, 82, 83, 84, 85, 86, 87, 88, 89, 90, 91, 92, 93, 94, 95, 96, 97, 98, 99, 100, 101, 102, 103, 104, 105, 106, 107, 108, 109, 110, 111, 112], .inr "java/lang/IndexOutOfBoundsException", (wTN vr vd vn vg vhn vhs vhN vhP vt vu vp vq ve), z1r.1, z1r.2, rfl, rfl, Nat.le_of_ble_eq_true rfl, rfl, ⟨x1, vr, vd, vn, vg, vhn, vhs, vhN, vhP, vt, vu, vp, vq, ve, (.inr "java/lang/IndexOutOfBoundsException", z1r), rfl, rfl, hz1, rfl⟩, rfl, Or.inr ⟨("java/lang/IndexOutOfBoundsException", 13), List.mem_cons_self, rfl, rfl⟩⟩ ?_
      refine Rn.go 1 (pc' := 14) (lv' := [(0, .ref 0), (1, .int x1), (2, .ref 113)]) (st' := [.int (1 : Int32)]) (es' := (wTO vr vd vn vg vhn vhs vhN vhP vt vu vp vq ve vo)) (c' := (0 + z1r.1)) (s' := (0 + z1r.2)) rfl ?_
      obtain rfl := Option.some.inj hp
      exact Rn.fin rfl rfl rfl
    rw [if_neg h1] at hp
    cases hp
theorem qL_window_1 : CtA yL_window (.codeWith yL_window cL_window 4 (some .int) [(0, 9, 12, 28)]) 8 132 [] rL_window_1 := CtA.ofH (by decide +kernel) (fun pc op h => kL_window_1 _ (lkp_mem h)) oL_window_1
/-! TelescopeNightLaw.observable(LTelescopeNight;I[J)I -/
def pL_observable_1 (x1 : Int32) (vn : NiS) (vo : Nat → Int64) : Option (Int32 × (Nat → Int64) × Nat × Nat) :=
  ob (pX8_observable x1 vn) (fun z1 => match z1 with
  | (.inl z1v, z1r) =>
    some ((0 : Int32), (vp_updL vo 0 z1v.toInt64), (0 + z1r.1), (0 + z1r.2))
  | (.inr z1e, z1r) =>
    if z1e = "java/lang/IndexOutOfBoundsException" then
      some ((1 : Int32), vo, (0 + z1r.1), (0 + z1r.2))
    else none)
def rL_observable_1 : List Value → List va_E → op_O → Prop := fun avs es r => ∃ (x1 : Int32) (vr : RdS) (vd : NiS) (vn : NiS) (vg : PrS) (vhn : Int32) (vhs : Int32) (vhN : Nat → NiS) (vhP : Nat → PrS) (vt : ReS) (vu : ReS) (vp : PlS) (vq : DeS) (ve : Int32) (vo : Nat → Int64) (z : Int32 × (Nat → Int64) × Nat × Nat), avs = [.ref 0, .int x1, .ref 113] ∧ es = (wTO vr vd vn vg vhn vhs vhN vhP vt vu vp vq ve vo) ∧ pL_observable_1 x1 vn vo = some z ∧ r = (.inl (some (.int z.1)), (wTO vr vd vn vg vhn vhs vhN vhP vt vu vp vq ve z.2.1), z.2.2.1, z.2.2.2)
def bL_observable_1 : List (Nat × (op_T ⊕ op_R)) := [(0, .inl (o_aload 1 2)), (1, .inl (o_push 2 (.int (0)))), (2, .inl (o_aload 3 0)), (3, .inl (o_iload 4 1)), (4, .inr (o_callVH [] [] 7 1 8 3 [("java/lang/IndexOutOfBoundsException", 13)] rX8_observable)), (7, .inl (o_i2l 8)), (8, .inl (o_last 9)), (9, .inl (o_goto 15)), (13, .inl (o_push 14 (.int (1)))), (14, .inl (o_iret)), (15, .inl (o_push 16 (.int (0)))), (16, .inl (o_iret))]
set_option maxRecDepth 100000 in
set_option maxHeartbeats 4000000 in
theorem kL_observable_1 : ∀ q ∈ bL_observable_1, ok2 8 132 4 cL_observable yL_observable.cls yL_observable.name (some .int) (.codeWith yL_observable cL_observable 4 (some .int) [(0, 9, 12, 28)]) (tableOf [(0, 9, 12, 28)]) [] q.1 q.2 := (al_c (s_aload_n (k := 2) (by decide +kernel)) (al_c (s_iconst (n := 0) (0) (by decide) (by decide +kernel)) (al_c (s_aload_n (k := 0) (by decide +kernel)) (al_c (s_iload_n (k := 1) (by decide +kernel)) (al_c (s_callVH (tb := tableOf [(0, 9, 12, 28)]) (by decide) (fun q hq => by rcases List.mem_singleton.mp hq with rfl; exact ⟨[], ⟨0, 9, 12, 28⟩, [], "java/lang/IndexOutOfBoundsException", rfl, (fun z hz => by cases hz), by decide, by decide, w_948, by decide, Or.inr ⟨3, rfl, by decide +kernel, rfl⟩⟩) (y := yX8_observable) (bytes := cX8_observable) (maxL := 2) (ret' := (some .int)) (fr' := 7) (lo' := 111) (n := 1) (ml := []) (mlc := []) (ci := 8) (q9 := (RX8, TX8, 10)) qX8_observable w_1014 w_1015 w_1016 w_1 w_1017 ⟨by decide +kernel, by decide +kernel, by decide +kernel⟩ rfl rfl (by decide) (by decide) (by decide +kernel)) (al_c (s_i2l (by decide +kernel)) (al_c (s_last (by decide +kernel)) (al_c (s_goto (off := 6) 15 (by decide) (by decide +kernel)) (al_c (s_iconst (n := 1) (1) (by decide) (by decide +kernel)) (al_c (s_iret rfl (by decide +kernel)) (al_c (s_iconst (n := 0) (0) (by decide) (by decide +kernel)) (al_c (s_iret rfl (by decide +kernel)) al_n))))))))))))
set_option maxRecDepth 100000 in
set_option maxHeartbeats 4000000 in
theorem oL_observable_1 : Of (lkp bL_observable_1) 4 rL_observable_1 := by
  intro avs es r h
  obtain ⟨x1, vr, vd, vn, vg, vhn, vhs, vhN, vhP, vt, vu, vp, vq, ve, vo, z, rfl, rfl, hp, rfl⟩ := h
  refine ⟨Nat.le_of_ble_eq_true rfl, ?_⟩
  unfold pL_observable_1 at hp
  refine Rn.go 4 (pc' := 4) (lv' := [(0, .ref 0), (1, .int x1), (2, .ref 113)]) (st' := [.int x1, .ref 0, .int (0 : Int32), .ref 113]) (es' := (wTO vr vd vn vg vhn vhs vhN vhP vt vu vp vq ve vo)) (c' := 0) (s' := 0) rfl ?_
  obtain ⟨z1, hz1, hp⟩ := ob_some hp
  obtain ⟨(z1v | z1e), z1r⟩ := z1
  · dsimp only at hp
    refine Rn.rel (pc' := 7) (lv' := [(0, .ref 0), (1, .int x1), (2, .ref 113)]) (st' := [.int z1v, .int (0 : Int32), .ref 113]) (es' := (wTO vr vd vn vg vhn vhs vhN vhP vt vu vp vq ve vo)) (dc := z1r.1) (ds := z1r.2) rfl ⟨0, [.int x1], _, [0, 1, 2, 3, 4, 5, 6, 7, 8, 9, 10, 11, 12, 13, 14, 15, 16, 17, 18, 19, 20, 21, 22, 23, 24, 25, 26, 27, 28, 29, 30, 31, 32, 33, 34, 35, 36, 37, 38, 39, 40, 41, 42, 43, 44, 45, 46, 47, 48, 49, 50, 51, 52, 53, 54, 55, 56, 57, 58, 59, 60, 61, 62, 63, 64, 65, 66, 67, 68, 69, 70, 71, 72, 73, 74, 75, 76, 77, 78, 79, 80, 81, 82, 83, 84, 85, 86, 87, 88, 89, 90, 91, 92, 93, 94, 95, 96, 97, 98, 99, 100, 101, 102, 103, 104, 105, 106, 107, 108, 109, 110, 111, 112], .inl (some (.int z1v)), (wTN vr vd vn vg vhn vhs vhN vhP vt vu vp vq ve), z1r.1, z1r.2, rfl, rfl, Nat.le_of_ble_eq_true rfl, rfl, ⟨x1, vr, vd, vn, vg, vhn, vhs, vhN, vhP, vt, vu, vp, vq, ve, (.inl z1v, z1r), rfl, rfl, hz1, rfl⟩, rfl, Or.inl ⟨_, rfl, rfl⟩⟩ ?_
    refine Rn.go 2 (pc' := 9) (lv' := [(0, .ref 0), (1, .int x1), (2, .ref 113)]) (st' := []) (es' := (wTO vr vd vn vg vhn vhs vhN vhP vt vu vp vq ve (vp_updL vo 0 z1v.toInt64))) (c' := (0 + z1r.1)) (s' := (0 + z1r.2)) rfl ?_
    refine Rn.go 2 (pc' := 16) (lv' := [(0, .ref 0), (1, .int x1), (2, .ref 113)]) (st' := [.int (0 : Int32)]) (es' := (wTO vr vd vn vg vhn vhs vhN vhP vt vu vp vq ve (vp_updL vo 0 z1v.toInt64))) (c' := (0 + z1r.1)) (s' := (0 + z1r.2)) rfl ?_
    obtain rfl := Option.some.inj hp
    exact Rn.fin rfl rfl rfl
  · dsimp only at hp
    by_cases h1 : z1e = "java/lang/IndexOutOfBoundsException"
    · subst h1
      rw [if_pos rfl] at hp
      refine Rn.rel (pc' := 13) (lv' := [(0, .ref 0), (1, .int x1), (2, .ref 113)]) (st' := []) (es' := (wTO vr vd vn vg vhn vhs vhN vhP vt vu vp vq ve vo)) (dc := z1r.1) (ds := z1r.2) rfl ⟨0, [.int x1], _, [0, 1, 2, 3, 4, 5, 6, 7, 8, 9, 10, 11, 12, 13, 14, 15, 16, 17, 18, 19, 20, 21, 22, 23, 24, 25, 26, 27, 28, 29, 30, 31, 32, 33, 34, 35, 36, 37, 38, 39, 40, 41, 42, 43, 44, 45, 46, 47, 48, 49, 50, 51, 52, 53, 54, 55, 56, 57, 58, 59, 60, 61, 62, 63, 64, 65, 66, 67, 68, 69, 70, 71, 72, 73, 74, 75, 76, 77, 78, 79, 80, 81, 82, 83, 84, 85, 86, 87, 88, 89, 90, 91, 92, 93, 94, 95, 96, 97, 98, 99, 100, 101, 102, 103, 104, 105, 106, 107, 108, 109, 110, 111, 112], .inr "java/lang/IndexOutOfBoundsException", (wTN vr vd vn vg vhn vhs vhN vhP vt vu vp vq ve), z1r.1, z1r.2, rfl, rfl, Nat.le_of_ble_eq_true rfl, rfl, ⟨x1, vr, vd, vn, vg, vhn, vhs, vhN, vhP, vt, vu, vp, vq, ve, (.inr "java/lang/IndexOutOfBoundsException", z1r), rfl, rfl, hz1, rfl⟩, rfl, Or.inr ⟨("java/lang/IndexOutOfBoundsException", 13), List.mem_cons_self, rfl, rfl⟩⟩ ?_
      refine Rn.go 1 (pc' := 14) (lv' := [(0, .ref 0), (1, .int x1), (2, .ref 113)]) (st' := [.int (1 : Int32)]) (es' := (wTO vr vd vn vg vhn vhs vhN vhP vt vu vp vq ve vo)) (c' := (0 + z1r.1)) (s' := (0 + z1r.2)) rfl ?_
      obtain rfl := Option.some.inj hp
      exact Rn.fin rfl rfl rfl
    rw [if_neg h1] at hp
    cases hp
theorem qL_observable_1 : CtA yL_observable (.codeWith yL_observable cL_observable 4 (some .int) [(0, 9, 12, 28)]) 8 132 [] rL_observable_1 := CtA.ofH (by decide +kernel) (fun pc op h => kL_observable_1 _ (lkp_mem h)) oL_observable_1
/-! TelescopeNightLaw.highestSlot(LTelescopeNight;I[J)I -/
def pL_highestSlot_1 (x1 : Int32) (vn : NiS) (vo : Nat → Int64) : Option (Int32 × (Nat → Int64) × Nat × Nat) :=
  ob (pX8_highestSlot x1 vn) (fun z1 => match z1 with
  | (.inl z1v, z1r) =>
    some ((0 : Int32), (vp_updL vo 0 z1v.toInt64), (0 + z1r.1), (0 + z1r.2))
  | (.inr z1e, z1r) =>
    if z1e = "java/lang/IndexOutOfBoundsException" then
      some ((1 : Int32), vo, (0 + z1r.1), (0 + z1r.2))
    else if z1e = "java/util/NoSuchElementException" then
      some ((2 : Int32), vo, (0 + z1r.1), (0 + z1r.2))
    else none)
def rL_highestSlot_1 : List Value → List va_E → op_O → Prop := fun avs es r => ∃ (x1 : Int32) (vr : RdS) (vd : NiS) (vn : NiS) (vg : PrS) (vhn : Int32) (vhs : Int32) (vhN : Nat → NiS) (vhP : Nat → PrS) (vt : ReS) (vu : ReS) (vp : PlS) (vq : DeS) (ve : Int32) (vo : Nat → Int64) (z : Int32 × (Nat → Int64) × Nat × Nat), avs = [.ref 0, .int x1, .ref 113] ∧ es = (wTO vr vd vn vg vhn vhs vhN vhP vt vu vp vq ve vo) ∧ pL_highestSlot_1 x1 vn vo = some z ∧ r = (.inl (some (.int z.1)), (wTO vr vd vn vg vhn vhs vhN vhP vt vu vp vq ve z.2.1), z.2.2.1, z.2.2.2)
def bL_highestSlot_1 : List (Nat × (op_T ⊕ op_R)) := [(0, .inl (o_aload 1 2)), (1, .inl (o_push 2 (.int (0)))), (2, .inl (o_aload 3 0)), (3, .inl (o_iload 4 1)), (4, .inr (o_callVH [] [] 7 1 8 3 [("java/lang/IndexOutOfBoundsException", 13), ("java/util/NoSuchElementException", 16)] rX8_highestSlot)), (7, .inl (o_i2l 8)), (8, .inl (o_last 9)), (9, .inl (o_goto 18)), (13, .inl (o_push 14 (.int (1)))), (14, .inl (o_iret)), (16, .inl (o_push 17 (.int (2)))), (17, .inl (o_iret)), (18, .inl (o_push 19 (.int (0)))), (19, .inl (o_iret))]
set_option maxRecDepth 100000 in
set_option maxHeartbeats 4000000 in
theorem kL_highestSlot_1 : ∀ q ∈ bL_highestSlot_1, ok2 8 136 4 cL_highestSlot yL_highestSlot.cls yL_highestSlot.name (some .int) (.codeWith yL_highestSlot cL_highestSlot 4 (some .int) [(0, 9, 12, 28), (0, 9, 15, 45)]) (tableOf [(0, 9, 12, 28), (0, 9, 15, 45)]) [] q.1 q.2 := (al_c (s_aload_n (k := 2) (by decide +kernel)) (al_c (s_iconst (n := 0) (0) (by decide) (by decide +kernel)) (al_c (s_aload_n (k := 0) (by decide +kernel)) (al_c (s_iload_n (k := 1) (by decide +kernel)) (al_c (s_callVH (tb := tableOf [(0, 9, 12, 28), (0, 9, 15, 45)]) (by decide) (fun q hq => by rcases List.mem_cons.mp hq with rfl | hq; exact ⟨[], ⟨0, 9, 12, 28⟩, [⟨0, 9, 15, 45⟩], "java/lang/IndexOutOfBoundsException", rfl, (fun z hz => by cases hz), by decide, by decide, w_948, by decide, Or.inr ⟨3, rfl, by decide +kernel, rfl⟩⟩; rcases List.mem_singleton.mp hq with rfl; exact ⟨[⟨0, 9, 12, 28⟩], ⟨0, 9, 15, 45⟩, [], "java/util/NoSuchElementException", rfl, (fun z hz => by rcases List.mem_singleton.mp hz with rfl; exact ⟨by decide, "java/lang/IndexOutOfBoundsException", w_948, by decide⟩), by decide, by decide, w_1022, by decide, Or.inr ⟨3, rfl, by decide +kernel, rfl⟩⟩) (y := yX8_highestSlot) (bytes := cX8_highestSlot) (maxL := 6) (ret' := (some .int)) (fr' := 7) (lo' := 111) (n := 1) (ml := []) (mlc := []) (ci := 8) (q9 := (RX8, TX8, 10)) qX8_highestSlot w_1023 w_1024 w_1025 w_1 w_1026 ⟨by decide +kernel, by decide +kernel, by decide +kernel⟩ rfl rfl (by decide) (by decide) (by decide +kernel)) (al_c (s_i2l (by decide +kernel)) (al_c (s_last (by decide +kernel)) (al_c (s_goto (off := 9) 18 (by decide) (by decide +kernel)) (al_c (s_iconst (n := 1) (1) (by decide) (by decide +kernel)) (al_c (s_iret rfl (by decide +kernel)) (al_c (s_iconst (n := 2) (2) (by decide) (by decide +kernel)) (al_c (s_iret rfl (by decide +kernel)) (al_c (s_iconst (n := 0) (0) (by decide) (by decide +kernel)) (al_c (s_iret rfl (by decide +kernel)) al_n))))))))))))))
set_option maxRecDepth 100000 in
set_option maxHeartbeats 4000000 in
theorem oL_highestSlot_1 : Of (lkp bL_highestSlot_1) 4 rL_highestSlot_1 := by
  intro avs es r h
  obtain ⟨x1, vr, vd, vn, vg, vhn, vhs, vhN, vhP, vt, vu, vp, vq, ve, vo, z, rfl, rfl, hp, rfl⟩ := h
  refine ⟨Nat.le_of_ble_eq_true rfl, ?_⟩
  unfold pL_highestSlot_1 at hp
  refine Rn.go 4 (pc' := 4) (lv' := [(0, .ref 0), (1, .int x1), (2, .ref 113)]) (st' := [.int x1, .ref 0, .int (0 : Int32), .ref 113]) (es' := (wTO vr vd vn vg vhn vhs vhN vhP vt vu vp vq ve vo)) (c' := 0) (s' := 0) rfl ?_
  obtain ⟨z1, hz1, hp⟩ := ob_some hp
  obtain ⟨(z1v | z1e), z1r⟩ := z1
  · dsimp only at hp
    refine Rn.rel (pc' := 7) (lv' := [(0, .ref 0), (1, .int x1), (2, .ref 113)]) (st' := [.int z1v, .int (0 : Int32), .ref 113]) (es' := (wTO vr vd vn vg vhn vhs vhN vhP vt vu vp vq ve vo)) (dc := z1r.1) (ds := z1r.2) rfl ⟨0, [.int x1], _, [0, 1, 2, 3, 4, 5, 6, 7, 8, 9, 10, 11, 12, 13, 14, 15, 16, 17, 18, 19, 20, 21, 22, 23, 24, 25, 26, 27, 28, 29, 30, 31, 32, 33, 34, 35, 36, 37, 38, 39, 40, 41, 42, 43, 44, 45, 46, 47, 48, 49, 50, 51, 52, 53, 54, 55, 56, 57, 58, 59, 60, 61, 62, 63, 64, 65, 66, 67, 68, 69, 70, 71, 72, 73, 74, 75, 76, 77, 78, 79, 80, 81, 82, 83, 84, 85, 86, 87, 88, 89, 90, 91, 92, 93, 94, 95, 96, 97, 98, 99, 100, 101, 102, 103, 104, 105, 106, 107, 108, 109, 110, 111, 112], .inl (some (.int z1v)), (wTN vr vd vn vg vhn vhs vhN vhP vt vu vp vq ve), z1r.1, z1r.2, rfl, rfl, Nat.le_of_ble_eq_true rfl, rfl, ⟨x1, vr, vd, vn, vg, vhn, vhs, vhN, vhP, vt, vu, vp, vq, ve, (.inl z1v, z1r), rfl, rfl, hz1, rfl⟩, rfl, Or.inl ⟨_, rfl, rfl⟩⟩ ?_
    refine Rn.go 2 (pc' := 9) (lv' := [(0, .ref 0), (1, .int x1), (2, .ref 113)]) (st' := []) (es' := (wTO vr vd vn vg vhn vhs vhN vhP vt vu vp vq ve (vp_updL vo 0 z1v.toInt64))) (c' := (0 + z1r.1)) (s' := (0 + z1r.2)) rfl ?_
    refine Rn.go 2 (pc' := 19) (lv' := [(0, .ref 0), (1, .int x1), (2, .ref 113)]) (st' := [.int (0 : Int32)]) (es' := (wTO vr vd vn vg vhn vhs vhN vhP vt vu vp vq ve (vp_updL vo 0 z1v.toInt64))) (c' := (0 + z1r.1)) (s' := (0 + z1r.2)) rfl ?_
    obtain rfl := Option.some.inj hp
    exact Rn.fin rfl rfl rfl
  · dsimp only at hp
    by_cases h1 : z1e = "java/lang/IndexOutOfBoundsException"
    · subst h1
      rw [if_pos rfl] at hp
      refine Rn.rel (pc' := 13) (lv' := [(0, .ref 0), (1, .int x1), (2, .ref 113)]) (st' := []) (es' := (wTO vr vd vn vg vhn vhs vhN vhP vt vu vp vq ve vo)) (dc := z1r.1) (ds := z1r.2) rfl ⟨0, [.int x1], _, [0, 1, 2, 3, 4, 5, 6, 7, 8, 9, 10, 11, 12, 13, 14, 15, 16, 17, 18, 19, 20, 21, 22, 23, 24, 25, 26, 27, 28, 29, 30, 31, 32, 33, 34, 35, 36, 37, 38, 39, 40, 41, 42, 43, 44, 45, 46, 47, 48, 49, 50, 51, 52, 53, 54, 55, 56, 57, 58, 59, 60, 61, 62, 63, 64, 65, 66, 67, 68, 69, 70, 71, 72, 73, 74, 75, 76, 77, 78, 79, 80, 81, 82, 83, 84, 85, 86, 87, 88, 89, 90, 91, 92, 93, 94, 95, 96, 97, 98, 99, 100, 101, 102, 103, 104, 105, 106, 107, 108, 109, 110, 111, 112], .inr "java/lang/IndexOutOfBoundsException", (wTN vr vd vn vg vhn vhs vhN vhP vt vu vp vq ve), z1r.1, z1r.2, rfl, rfl, Nat.le_of_ble_eq_true rfl, rfl, ⟨x1, vr, vd, vn, vg, vhn, vhs, vhN, vhP, vt, vu, vp, vq, ve, (.inr "java/lang/IndexOutOfBoundsException", z1r), rfl, rfl, hz1, rfl⟩, rfl, Or.inr ⟨("java/lang/IndexOutOfBoundsException", 13), List.mem_cons_self, rfl, rfl⟩⟩ ?_
      refine Rn.go 1 (pc' := 14) (lv' := [(0, .ref 0), (1, .int x1), (2, .ref 113)]) (st' := [.int (1 : Int32)]) (es' := (wTO vr vd vn vg vhn vhs vhN vhP vt vu vp vq ve vo)) (c' := (0 + z1r.1)) (s' := (0 + z1r.2)) rfl ?_
      obtain rfl := Option.some.inj hp
      exact Rn.fin rfl rfl rfl
    rw [if_neg h1] at hp
    by_cases h2 : z1e = "java/util/NoSuchElementException"
    · subst h2
      rw [if_pos rfl] at hp
      refine Rn.rel (pc' := 16) (lv' := [(0, .ref 0), (1, .int x1), (2, .ref 113)]) (st' := []) (es' := (wTO vr vd vn vg vhn vhs vhN vhP vt vu vp vq ve vo)) (dc := z1r.1) (ds := z1r.2) rfl ⟨0, [.int x1], _, [0, 1, 2, 3, 4, 5, 6, 7, 8, 9, 10, 11, 12, 13, 14, 15, 16, 17, 18, 19, 20, 21, 22, 23, 24, 25, 26, 27, 28, 29, 30, 31, 32, 33, 34, 35, 36, 37, 38, 39, 40, 41, 42, 43, 44, 45, 46, 47, 48, 49, 50, 51, 52, 53, 54, 55, 56, 57, 58, 59, 60, 61, 62, 63, 64, 65, 66, 67, 68, 69, 70, 71, 72, 73, 74, 75, 76, 77, 78, 79, 80, 81, 82, 83, 84, 85, 86, 87, 88, 89, 90, 91, 92, 93, 94, 95, 96, 97, 98, 99, 100, 101, 102, 103, 104, 105, 106, 107, 108, 109, 110, 111, 112], .inr "java/util/NoSuchElementException", (wTN vr vd vn vg vhn vhs vhN vhP vt vu vp vq ve), z1r.1, z1r.2, rfl, rfl, Nat.le_of_ble_eq_true rfl, rfl, ⟨x1, vr, vd, vn, vg, vhn, vhs, vhN, vhP, vt, vu, vp, vq, ve, (.inr "java/util/NoSuchElementException", z1r), rfl, rfl, hz1, rfl⟩, rfl, Or.inr ⟨("java/util/NoSuchElementException", 16), (List.mem_cons_of_mem _ List.mem_cons_self), rfl, rfl⟩⟩ ?_
      refine Rn.go 1 (pc' := 17) (lv' := [(0, .ref 0), (1, .int x1), (2, .ref 113)]) (st' := [.int (2 : Int32)]) (es' := (wTO vr vd vn vg vhn vhs vhN vhP vt vu vp vq ve vo)) (c' := (0 + z1r.1)) (s' := (0 + z1r.2)) rfl ?_
      obtain rfl := Option.some.inj hp
      exact Rn.fin rfl rfl rfl
    rw [if_neg h2] at hp
    cases hp
theorem qL_highestSlot_1 : CtA yL_highestSlot (.codeWith yL_highestSlot cL_highestSlot 4 (some .int) [(0, 9, 12, 28), (0, 9, 15, 45)]) 8 136 [] rL_highestSlot_1 := CtA.ofH (by decide +kernel) (fun pc op h => kL_highestSlot_1 _ (lkp_mem h)) oL_highestSlot_1
/-! TelescopeNightLaw.latestStart(LTelescopeNight;I[J)I -/
def pL_latestStart_1 (x1 : Int32) (vn : NiS) (vg : PrS) (vo : Nat → Int64) : Option (Int32 × (Nat → Int64) × Nat × Nat) :=
  ob (pX8_latestStart x1 vn vg) (fun z1 => match z1 with
  | (.inl z1v, z1r) =>
    some ((0 : Int32), (vp_updL vo 0 z1v.toInt64), (0 + z1r.1), (0 + z1r.2))
  | (.inr z1e, z1r) =>
    if z1e = "java/lang/IndexOutOfBoundsException" then
      some ((1 : Int32), vo, (0 + z1r.1), (0 + z1r.2))
    else if z1e = "java/util/NoSuchElementException" then
      some ((2 : Int32), vo, (0 + z1r.1), (0 + z1r.2))
    else none)
def rL_latestStart_1 : List Value → List va_E → op_O → Prop := fun avs es r => ∃ (x1 : Int32) (vr : RdS) (vd : NiS) (vn : NiS) (vg : PrS) (vhn : Int32) (vhs : Int32) (vhN : Nat → NiS) (vhP : Nat → PrS) (vt : ReS) (vu : ReS) (vp : PlS) (vq : DeS) (ve : Int32) (vo : Nat → Int64) (z : Int32 × (Nat → Int64) × Nat × Nat), avs = [.ref 0, .int x1, .ref 113] ∧ es = (wTO vr vd vn vg vhn vhs vhN vhP vt vu vp vq ve vo) ∧ pL_latestStart_1 x1 vn vg vo = some z ∧ r = (.inl (some (.int z.1)), (wTO vr vd vn vg vhn vhs vhN vhP vt vu vp vq ve z.2.1), z.2.2.1, z.2.2.2)
def bL_latestStart_1 : List (Nat × (op_T ⊕ op_R)) := [(0, .inl (o_aload 1 2)), (1, .inl (o_push 2 (.int (0)))), (2, .inl (o_aload 3 0)), (3, .inl (o_iload 4 1)), (4, .inr (o_callVH [] [] 7 1 8 3 [("java/lang/IndexOutOfBoundsException", 13), ("java/util/NoSuchElementException", 16)] rX8_latestStart)), (7, .inl (o_i2l 8)), (8, .inl (o_last 9)), (9, .inl (o_goto 18)), (13, .inl (o_push 14 (.int (1)))), (14, .inl (o_iret)), (16, .inl (o_push 17 (.int (2)))), (17, .inl (o_iret)), (18, .inl (o_push 19 (.int (0)))), (19, .inl (o_iret))]
set_option maxRecDepth 100000 in
set_option maxHeartbeats 4000000 in
theorem kL_latestStart_1 : ∀ q ∈ bL_latestStart_1, ok2 8 134 4 cL_latestStart yL_latestStart.cls yL_latestStart.name (some .int) (.codeWith yL_latestStart cL_latestStart 4 (some .int) [(0, 9, 12, 28), (0, 9, 15, 45)]) (tableOf [(0, 9, 12, 28), (0, 9, 15, 45)]) [] q.1 q.2 := (al_c (s_aload_n (k := 2) (by decide +kernel)) (al_c (s_iconst (n := 0) (0) (by decide) (by decide +kernel)) (al_c (s_aload_n (k := 0) (by decide +kernel)) (al_c (s_iload_n (k := 1) (by decide +kernel)) (al_c (s_callVH (tb := tableOf [(0, 9, 12, 28), (0, 9, 15, 45)]) (by decide) (fun q hq => by rcases List.mem_cons.mp hq with rfl | hq; exact ⟨[], ⟨0, 9, 12, 28⟩, [⟨0, 9, 15, 45⟩], "java/lang/IndexOutOfBoundsException", rfl, (fun z hz => by cases hz), by decide, by decide, w_948, by decide, Or.inr ⟨3, rfl, by decide +kernel, rfl⟩⟩; rcases List.mem_singleton.mp hq with rfl; exact ⟨[⟨0, 9, 12, 28⟩], ⟨0, 9, 15, 45⟩, [], "java/util/NoSuchElementException", rfl, (fun z hz => by rcases List.mem_singleton.mp hz with rfl; exact ⟨by decide, "java/lang/IndexOutOfBoundsException", w_948, by decide⟩), by decide, by decide, w_1022, by decide, Or.inr ⟨3, rfl, by decide +kernel, rfl⟩⟩) (y := yX8_latestStart) (bytes := cX8_latestStart) (maxL := 4) (ret' := (some .int)) (fr' := 7) (lo' := 111) (n := 1) (ml := []) (mlc := []) (ci := 8) (q9 := (RX8, TX8, 10)) qX8_latestStart w_1047 w_1048 w_1049 w_1 w_1050 ⟨by decide +kernel, by decide +kernel, by decide +kernel⟩ rfl rfl (by decide) (by decide) (by decide +kernel)) (al_c (s_i2l (by decide +kernel)) (al_c (s_last (by decide +kernel)) (al_c (s_goto (off := 9) 18 (by decide) (by decide +kernel)) (al_c (s_iconst (n := 1) (1) (by decide) (by decide +kernel)) (al_c (s_iret rfl (by decide +kernel)) (al_c (s_iconst (n := 2) (2) (by decide) (by decide +kernel)) (al_c (s_iret rfl (by decide +kernel)) (al_c (s_iconst (n := 0) (0) (by decide) (by decide +kernel)) (al_c (s_iret rfl (by decide +kernel)) al_n))))))))))))))
set_option maxRecDepth 100000 in
set_option maxHeartbeats 4000000 in
theorem oL_latestStart_1 : Of (lkp bL_latestStart_1) 4 rL_latestStart_1 := by
  intro avs es r h
  obtain ⟨x1, vr, vd, vn, vg, vhn, vhs, vhN, vhP, vt, vu, vp, vq, ve, vo, z, rfl, rfl, hp, rfl⟩ := h
  refine ⟨Nat.le_of_ble_eq_true rfl, ?_⟩
  unfold pL_latestStart_1 at hp
  refine Rn.go 4 (pc' := 4) (lv' := [(0, .ref 0), (1, .int x1), (2, .ref 113)]) (st' := [.int x1, .ref 0, .int (0 : Int32), .ref 113]) (es' := (wTO vr vd vn vg vhn vhs vhN vhP vt vu vp vq ve vo)) (c' := 0) (s' := 0) rfl ?_
  obtain ⟨z1, hz1, hp⟩ := ob_some hp
  obtain ⟨(z1v | z1e), z1r⟩ := z1
  · dsimp only at hp
    refine Rn.rel (pc' := 7) (lv' := [(0, .ref 0), (1, .int x1), (2, .ref 113)]) (st' := [.int z1v, .int (0 : Int32), .ref 113]) (es' := (wTO vr vd vn vg vhn vhs vhN vhP vt vu vp vq ve vo)) (dc := z1r.1) (ds := z1r.2) rfl ⟨0, [.int x1], _, [0, 1, 2, 3, 4, 5, 6, 7, 8, 9, 10, 11, 12, 13, 14, 15, 16, 17, 18, 19, 20, 21, 22, 23, 24, 25, 26, 27, 28, 29, 30, 31, 32, 33, 34, 35, 36, 37, 38, 39, 40, 41, 42, 43, 44, 45, 46, 47, 48, 49, 50, 51, 52, 53, 54, 55, 56, 57, 58, 59, 60, 61, 62, 63, 64, 65, 66, 67, 68, 69, 70, 71, 72, 73, 74, 75, 76, 77, 78, 79, 80, 81, 82, 83, 84, 85, 86, 87, 88, 89, 90, 91, 92, 93, 94, 95, 96, 97, 98, 99, 100, 101, 102, 103, 104, 105, 106, 107, 108, 109, 110, 111, 112], .inl (some (.int z1v)), (wTN vr vd vn vg vhn vhs vhN vhP vt vu vp vq ve), z1r.1, z1r.2, rfl, rfl, Nat.le_of_ble_eq_true rfl, rfl, ⟨x1, vr, vd, vn, vg, vhn, vhs, vhN, vhP, vt, vu, vp, vq, ve, (.inl z1v, z1r), rfl, rfl, hz1, rfl⟩, rfl, Or.inl ⟨_, rfl, rfl⟩⟩ ?_
    refine Rn.go 2 (pc' := 9) (lv' := [(0, .ref 0), (1, .int x1), (2, .ref 113)]) (st' := []) (es' := (wTO vr vd vn vg vhn vhs vhN vhP vt vu vp vq ve (vp_updL vo 0 z1v.toInt64))) (c' := (0 + z1r.1)) (s' := (0 + z1r.2)) rfl ?_
    refine Rn.go 2 (pc' := 19) (lv' := [(0, .ref 0), (1, .int x1), (2, .ref 113)]) (st' := [.int (0 : Int32)]) (es' := (wTO vr vd vn vg vhn vhs vhN vhP vt vu vp vq ve (vp_updL vo 0 z1v.toInt64))) (c' := (0 + z1r.1)) (s' := (0 + z1r.2)) rfl ?_
    obtain rfl := Option.some.inj hp
    exact Rn.fin rfl rfl rfl
  · dsimp only at hp
    by_cases h1 : z1e = "java/lang/IndexOutOfBoundsException"
    · subst h1
      rw [if_pos rfl] at hp
      refine Rn.rel (pc' := 13) (lv' := [(0, .ref 0), (1, .int x1), (2, .ref 113)]) (st' := []) (es' := (wTO vr vd vn vg vhn vhs vhN vhP vt vu vp vq ve vo)) (dc := z1r.1) (ds := z1r.2) rfl ⟨0, [.int x1], _, [0, 1, 2, 3, 4, 5, 6, 7, 8, 9, 10, 11, 12, 13, 14, 15, 16, 17, 18, 19, 20, 21, 22, 23, 24, 25, 26, 27, 28, 29, 30, 31, 32, 33, 34, 35, 36, 37, 38, 39, 40, 41, 42, 43, 44, 45, 46, 47, 48, 49, 50, 51, 52, 53, 54, 55, 56, 57, 58, 59, 60, 61, 62, 63, 64, 65, 66, 67, 68, 69, 70, 71, 72, 73, 74, 75, 76, 77, 78, 79, 80, 81, 82, 83, 84, 85, 86, 87, 88, 89, 90, 91, 92, 93, 94, 95, 96, 97, 98, 99, 100, 101, 102, 103, 104, 105, 106, 107, 108, 109, 110, 111, 112], .inr "java/lang/IndexOutOfBoundsException", (wTN vr vd vn vg vhn vhs vhN vhP vt vu vp vq ve), z1r.1, z1r.2, rfl, rfl, Nat.le_of_ble_eq_true rfl, rfl, ⟨x1, vr, vd, vn, vg, vhn, vhs, vhN, vhP, vt, vu, vp, vq, ve, (.inr "java/lang/IndexOutOfBoundsException", z1r), rfl, rfl, hz1, rfl⟩, rfl, Or.inr ⟨("java/lang/IndexOutOfBoundsException", 13), List.mem_cons_self, rfl, rfl⟩⟩ ?_
      refine Rn.go 1 (pc' := 14) (lv' := [(0, .ref 0), (1, .int x1), (2, .ref 113)]) (st' := [.int (1 : Int32)]) (es' := (wTO vr vd vn vg vhn vhs vhN vhP vt vu vp vq ve vo)) (c' := (0 + z1r.1)) (s' := (0 + z1r.2)) rfl ?_
      obtain rfl := Option.some.inj hp
      exact Rn.fin rfl rfl rfl
    rw [if_neg h1] at hp
    by_cases h2 : z1e = "java/util/NoSuchElementException"
    · subst h2
      rw [if_pos rfl] at hp
      refine Rn.rel (pc' := 16) (lv' := [(0, .ref 0), (1, .int x1), (2, .ref 113)]) (st' := []) (es' := (wTO vr vd vn vg vhn vhs vhN vhP vt vu vp vq ve vo)) (dc := z1r.1) (ds := z1r.2) rfl ⟨0, [.int x1], _, [0, 1, 2, 3, 4, 5, 6, 7, 8, 9, 10, 11, 12, 13, 14, 15, 16, 17, 18, 19, 20, 21, 22, 23, 24, 25, 26, 27, 28, 29, 30, 31, 32, 33, 34, 35, 36, 37, 38, 39, 40, 41, 42, 43, 44, 45, 46, 47, 48, 49, 50, 51, 52, 53, 54, 55, 56, 57, 58, 59, 60, 61, 62, 63, 64, 65, 66, 67, 68, 69, 70, 71, 72, 73, 74, 75, 76, 77, 78, 79, 80, 81, 82, 83, 84, 85, 86, 87, 88, 89, 90, 91, 92, 93, 94, 95, 96, 97, 98, 99, 100, 101, 102, 103, 104, 105, 106, 107, 108, 109, 110, 111, 112], .inr "java/util/NoSuchElementException", (wTN vr vd vn vg vhn vhs vhN vhP vt vu vp vq ve), z1r.1, z1r.2, rfl, rfl, Nat.le_of_ble_eq_true rfl, rfl, ⟨x1, vr, vd, vn, vg, vhn, vhs, vhN, vhP, vt, vu, vp, vq, ve, (.inr "java/util/NoSuchElementException", z1r), rfl, rfl, hz1, rfl⟩, rfl, Or.inr ⟨("java/util/NoSuchElementException", 16), (List.mem_cons_of_mem _ List.mem_cons_self), rfl, rfl⟩⟩ ?_
      refine Rn.go 1 (pc' := 17) (lv' := [(0, .ref 0), (1, .int x1), (2, .ref 113)]) (st' := [.int (2 : Int32)]) (es' := (wTO vr vd vn vg vhn vhs vhN vhP vt vu vp vq ve vo)) (c' := (0 + z1r.1)) (s' := (0 + z1r.2)) rfl ?_
      obtain rfl := Option.some.inj hp
      exact Rn.fin rfl rfl rfl
    rw [if_neg h2] at hp
    cases hp
theorem qL_latestStart_1 : CtA yL_latestStart (.codeWith yL_latestStart cL_latestStart 4 (some .int) [(0, 9, 12, 28), (0, 9, 15, 45)]) 8 134 [] rL_latestStart_1 := CtA.ofH (by decide +kernel) (fun pc op h => kL_latestStart_1 _ (lkp_mem h)) oL_latestStart_1
/-! TelescopeNightLaw.clearOdds(LTelescopeNight;I[J)I -/
def pL_clearOdds_1 (x1 : Int32) (vn : NiS) (vo : Nat → Int64) : Option (Int32 × (Nat → Int64) × Nat × Nat) :=
  ob (pX8_clearOdds x1 vn) (fun z1 => match z1 with
  | (.inl z1v, z1r) =>
    some ((0 : Int32), (vp_updL vo 0 z1v.toInt64), (0 + z1r.1), (0 + z1r.2))
  | (.inr z1e, z1r) =>
    if z1e = "java/lang/IndexOutOfBoundsException" then
      some ((1 : Int32), vo, (0 + z1r.1), (0 + z1r.2))
    else none)
def rL_clearOdds_1 : List Value → List va_E → op_O → Prop := fun avs es r => ∃ (x1 : Int32) (vr : RdS) (vd : NiS) (vn : NiS) (vg : PrS) (vhn : Int32) (vhs : Int32) (vhN : Nat → NiS) (vhP : Nat → PrS) (vt : ReS) (vu : ReS) (vp : PlS) (vq : DeS) (ve : Int32) (vo : Nat → Int64) (z : Int32 × (Nat → Int64) × Nat × Nat), avs = [.ref 0, .int x1, .ref 113] ∧ es = (wTO vr vd vn vg vhn vhs vhN vhP vt vu vp vq ve vo) ∧ pL_clearOdds_1 x1 vn vo = some z ∧ r = (.inl (some (.int z.1)), (wTO vr vd vn vg vhn vhs vhN vhP vt vu vp vq ve z.2.1), z.2.2.1, z.2.2.2)
def bL_clearOdds_1 : List (Nat × (op_T ⊕ op_R)) := [(0, .inl (o_aload 1 2)), (1, .inl (o_push 2 (.int (0)))), (2, .inl (o_aload 3 0)), (3, .inl (o_iload 4 1)), (4, .inr (o_callVH [] [] 7 1 8 3 [("java/lang/IndexOutOfBoundsException", 13)] rX8_clearOdds)), (7, .inl (o_i2l 8)), (8, .inl (o_last 9)), (9, .inl (o_goto 15)), (13, .inl (o_push 14 (.int (1)))), (14, .inl (o_iret)), (15, .inl (o_push 16 (.int (0)))), (16, .inl (o_iret))]
set_option maxRecDepth 100000 in
set_option maxHeartbeats 4000000 in
theorem kL_clearOdds_1 : ∀ q ∈ bL_clearOdds_1, ok2 8 132 4 cL_clearOdds yL_clearOdds.cls yL_clearOdds.name (some .int) (.codeWith yL_clearOdds cL_clearOdds 4 (some .int) [(0, 9, 12, 28)]) (tableOf [(0, 9, 12, 28)]) [] q.1 q.2 := (al_c (s_aload_n (k := 2) (by decide +kernel)) (al_c (s_iconst (n := 0) (0) (by decide) (by decide +kernel)) (al_c (s_aload_n (k := 0) (by decide +kernel)) (al_c (s_iload_n (k := 1) (by decide +kernel)) (al_c (s_callVH (tb := tableOf [(0, 9, 12, 28)]) (by decide) (fun q hq => by rcases List.mem_singleton.mp hq with rfl; exact ⟨[], ⟨0, 9, 12, 28⟩, [], "java/lang/IndexOutOfBoundsException", rfl, (fun z hz => by cases hz), by decide, by decide, w_948, by decide, Or.inr ⟨3, rfl, by decide +kernel, rfl⟩⟩) (y := yX8_clearOdds) (bytes := cX8_clearOdds) (maxL := 2) (ret' := (some .int)) (fr' := 7) (lo' := 111) (n := 1) (ml := []) (mlc := []) (ci := 8) (q9 := (RX8, TX8, 10)) qX8_clearOdds w_1056 w_1057 w_1058 w_1 w_1059 ⟨by decide +kernel, by decide +kernel, by decide +kernel⟩ rfl rfl (by decide) (by decide) (by decide +kernel)) (al_c (s_i2l (by decide +kernel)) (al_c (s_last (by decide +kernel)) (al_c (s_goto (off := 6) 15 (by decide) (by decide +kernel)) (al_c (s_iconst (n := 1) (1) (by decide) (by decide +kernel)) (al_c (s_iret rfl (by decide +kernel)) (al_c (s_iconst (n := 0) (0) (by decide) (by decide +kernel)) (al_c (s_iret rfl (by decide +kernel)) al_n))))))))))))
set_option maxRecDepth 100000 in
set_option maxHeartbeats 4000000 in
theorem oL_clearOdds_1 : Of (lkp bL_clearOdds_1) 4 rL_clearOdds_1 := by
  intro avs es r h
  obtain ⟨x1, vr, vd, vn, vg, vhn, vhs, vhN, vhP, vt, vu, vp, vq, ve, vo, z, rfl, rfl, hp, rfl⟩ := h
  refine ⟨Nat.le_of_ble_eq_true rfl, ?_⟩
  unfold pL_clearOdds_1 at hp
  refine Rn.go 4 (pc' := 4) (lv' := [(0, .ref 0), (1, .int x1), (2, .ref 113)]) (st' := [.int x1, .ref 0, .int (0 : Int32), .ref 113]) (es' := (wTO vr vd vn vg vhn vhs vhN vhP vt vu vp vq ve vo)) (c' := 0) (s' := 0) rfl ?_
  obtain ⟨z1, hz1, hp⟩ := ob_some hp
  obtain ⟨(z1v | z1e), z1r⟩ := z1
  · dsimp only at hp
    refine Rn.rel (pc' := 7) (lv' := [(0, .ref 0), (1, .int x1), (2, .ref 113)]) (st' := [.int z1v, .int (0 : Int32), .ref 113]) (es' := (wTO vr vd vn vg vhn vhs vhN vhP vt vu vp vq ve vo)) (dc := z1r.1) (ds := z1r.2) rfl ⟨0, [.int x1], _, [0, 1, 2, 3, 4, 5, 6, 7, 8, 9, 10, 11, 12, 13, 14, 15, 16, 17, 18, 19, 20, 21, 22, 23, 24, 25, 26, 27, 28, 29, 30, 31, 32, 33, 34, 35, 36, 37, 38, 39, 40, 41, 42, 43, 44, 45, 46, 47, 48, 49, 50, 51, 52, 53, 54, 55, 56, 57, 58, 59, 60, 61, 62, 63, 64, 65, 66, 67, 68, 69, 70, 71, 72, 73, 74, 75, 76, 77, 78, 79, 80, 81, 82, 83, 84, 85, 86, 87, 88, 89, 90, 91, 92, 93, 94, 95, 96, 97, 98, 99, 100, 101, 102, 103, 104, 105, 106, 107, 108, 109, 110, 111, 112], .inl (some (.int z1v)), (wTN vr vd vn vg vhn vhs vhN vhP vt vu vp vq ve), z1r.1, z1r.2, rfl, rfl, Nat.le_of_ble_eq_true rfl, rfl, ⟨x1, vr, vd, vn, vg, vhn, vhs, vhN, vhP, vt, vu, vp, vq, ve, (.inl z1v, z1r), rfl, rfl, hz1, rfl⟩, rfl, Or.inl ⟨_, rfl, rfl⟩⟩ ?_
    refine Rn.go 2 (pc' := 9) (lv' := [(0, .ref 0), (1, .int x1), (2, .ref 113)]) (st' := []) (es' := (wTO vr vd vn vg vhn vhs vhN vhP vt vu vp vq ve (vp_updL vo 0 z1v.toInt64))) (c' := (0 + z1r.1)) (s' := (0 + z1r.2)) rfl ?_
    refine Rn.go 2 (pc' := 16) (lv' := [(0, .ref 0), (1, .int x1), (2, .ref 113)]) (st' := [.int (0 : Int32)]) (es' := (wTO vr vd vn vg vhn vhs vhN vhP vt vu vp vq ve (vp_updL vo 0 z1v.toInt64))) (c' := (0 + z1r.1)) (s' := (0 + z1r.2)) rfl ?_
    obtain rfl := Option.some.inj hp
    exact Rn.fin rfl rfl rfl
  · dsimp only at hp
    by_cases h1 : z1e = "java/lang/IndexOutOfBoundsException"
    · subst h1
      rw [if_pos rfl] at hp
      refine Rn.rel (pc' := 13) (lv' := [(0, .ref 0), (1, .int x1), (2, .ref 113)]) (st' := []) (es' := (wTO vr vd vn vg vhn vhs vhN vhP vt vu vp vq ve vo)) (dc := z1r.1) (ds := z1r.2) rfl ⟨0, [.int x1], _, [0, 1, 2, 3, 4, 5, 6, 7, 8, 9, 10, 11, 12, 13, 14, 15, 16, 17, 18, 19, 20, 21, 22, 23, 24, 25, 26, 27, 28, 29, 30, 31, 32, 33, 34, 35, 36, 37, 38, 39, 40, 41, 42, 43, 44, 45, 46, 47, 48, 49, 50, 51, 52, 53, 54, 55, 56, 57, 58, 59, 60, 61, 62, 63, 64, 65, 66, 67, 68, 69, 70, 71, 72, 73, 74, 75, 76, 77, 78, 79, 80, 81, 82, 83, 84, 85, 86, 87, 88, 89, 90, 91, 92, 93, 94, 95, 96, 97, 98, 99, 100, 101, 102, 103, 104, 105, 106, 107, 108, 109, 110, 111, 112], .inr "java/lang/IndexOutOfBoundsException", (wTN vr vd vn vg vhn vhs vhN vhP vt vu vp vq ve), z1r.1, z1r.2, rfl, rfl, Nat.le_of_ble_eq_true rfl, rfl, ⟨x1, vr, vd, vn, vg, vhn, vhs, vhN, vhP, vt, vu, vp, vq, ve, (.inr "java/lang/IndexOutOfBoundsException", z1r), rfl, rfl, hz1, rfl⟩, rfl, Or.inr ⟨("java/lang/IndexOutOfBoundsException", 13), List.mem_cons_self, rfl, rfl⟩⟩ ?_
      refine Rn.go 1 (pc' := 14) (lv' := [(0, .ref 0), (1, .int x1), (2, .ref 113)]) (st' := [.int (1 : Int32)]) (es' := (wTO vr vd vn vg vhn vhs vhN vhP vt vu vp vq ve vo)) (c' := (0 + z1r.1)) (s' := (0 + z1r.2)) rfl ?_
      obtain rfl := Option.some.inj hp
      exact Rn.fin rfl rfl rfl
    rw [if_neg h1] at hp
    cases hp
theorem qL_clearOdds_1 : CtA yL_clearOdds (.codeWith yL_clearOdds cL_clearOdds 4 (some .int) [(0, 9, 12, 28)]) 8 132 [] rL_clearOdds_1 := CtA.ofH (by decide +kernel) (fun pc op h => kL_clearOdds_1 _ (lkp_mem h)) oL_clearOdds_1
/-! TelescopeNightLaw.clearRun(LTelescopeNight;II[J)I -/
def pL_clearRun_1 (x1 : Int32) (x2 : Int32) (vn : NiS) (vo : Nat → Int64) : Option (Int32 × (Nat → Int64) × Nat × Nat) :=
  ob (pX8_clearRun x1 x2 vn) (fun z1 => match z1 with
  | (.inl z1v, z1r) =>
    some ((0 : Int32), (vp_updL vo 0 z1v.toInt64), (0 + z1r.1), (0 + z1r.2))
  | (.inr z1e, z1r) =>
    if z1e = "java/lang/IndexOutOfBoundsException" then
      some ((1 : Int32), vo, (0 + z1r.1), (0 + z1r.2))
    else if z1e = "java/lang/IllegalArgumentException" then
      some ((2 : Int32), vo, (0 + z1r.1), (0 + z1r.2))
    else none)
def rL_clearRun_1 : List Value → List va_E → op_O → Prop := fun avs es r => ∃ (x1 : Int32) (x2 : Int32) (vr : RdS) (vd : NiS) (vn : NiS) (vg : PrS) (vhn : Int32) (vhs : Int32) (vhN : Nat → NiS) (vhP : Nat → PrS) (vt : ReS) (vu : ReS) (vp : PlS) (vq : DeS) (ve : Int32) (vo : Nat → Int64) (z : Int32 × (Nat → Int64) × Nat × Nat), avs = [.ref 0, .int x1, .int x2, .ref 113] ∧ es = (wTO vr vd vn vg vhn vhs vhN vhP vt vu vp vq ve vo) ∧ pL_clearRun_1 x1 x2 vn vo = some z ∧ r = (.inl (some (.int z.1)), (wTO vr vd vn vg vhn vhs vhN vhP vt vu vp vq ve z.2.1), z.2.2.1, z.2.2.2)
def bL_clearRun_1 : List (Nat × (op_T ⊕ op_R)) := [(0, .inl (o_aload 1 3)), (1, .inl (o_push 2 (.int (0)))), (2, .inl (o_aload 3 0)), (3, .inl (o_iload 4 1)), (4, .inl (o_iload 5 2)), (5, .inr (o_callVH [] [] 8 2 8 4 [("java/lang/IndexOutOfBoundsException", 15), ("java/lang/IllegalArgumentException", 19)] rX8_clearRun)), (8, .inl (o_i2l 9)), (9, .inl (o_last 10)), (10, .inl (o_goto 21)), (15, .inl (o_push 16 (.int (1)))), (16, .inl (o_iret)), (19, .inl (o_push 20 (.int (2)))), (20, .inl (o_iret)), (21, .inl (o_push 22 (.int (0)))), (22, .inl (o_iret))]
set_option maxRecDepth 100000 in
set_option maxHeartbeats 4000000 in
theorem kL_clearRun_1 : ∀ q ∈ bL_clearRun_1, ok2 8 135 5 cL_clearRun yL_clearRun.cls yL_clearRun.name (some .int) (.codeWith yL_clearRun cL_clearRun 5 (some .int) [(0, 10, 13, 28), (0, 10, 17, 19)]) (tableOf [(0, 10, 13, 28), (0, 10, 17, 19)]) [] q.1 q.2 := (al_c (s_aload_n (k := 3) (by decide +kernel)) (al_c (s_iconst (n := 0) (0) (by decide) (by decide +kernel)) (al_c (s_aload_n (k := 0) (by decide +kernel)) (al_c (s_iload_n (k := 1) (by decide +kernel)) (al_c (s_iload_n (k := 2) (by decide +kernel)) (al_c (s_callVH (tb := tableOf [(0, 10, 13, 28), (0, 10, 17, 19)]) (by decide) (fun q hq => by rcases List.mem_cons.mp hq with rfl | hq; exact ⟨[], ⟨0, 10, 13, 28⟩, [⟨0, 10, 17, 19⟩], "java/lang/IndexOutOfBoundsException", rfl, (fun z hz => by cases hz), by decide, by decide, w_948, by decide, Or.inl ⟨by decide +kernel, rfl⟩⟩; rcases List.mem_singleton.mp hq with rfl; exact ⟨[⟨0, 10, 13, 28⟩], ⟨0, 10, 17, 19⟩, [], "java/lang/IllegalArgumentException", rfl, (fun z hz => by rcases List.mem_singleton.mp hz with rfl; exact ⟨by decide, "java/lang/IndexOutOfBoundsException", w_948, by decide⟩), by decide, by decide, w_786, by decide, Or.inl ⟨by decide +kernel, rfl⟩⟩) (y := yX8_clearRun) (bytes := cX8_clearRun) (maxL := 5) (ret' := (some .int)) (fr' := 7) (lo' := 111) (n := 2) (ml := []) (mlc := []) (ci := 8) (q9 := (RX8, TX8, 10)) qX8_clearRun w_1064 w_1065 w_1066 w_1 w_1067 ⟨by decide +kernel, by decide +kernel, by decide +kernel⟩ rfl rfl (by decide) (by decide) (by decide +kernel)) (al_c (s_i2l (by decide +kernel)) (al_c (s_last (by decide +kernel)) (al_c (s_goto (off := 11) 21 (by decide) (by decide +kernel)) (al_c (s_iconst (n := 1) (1) (by decide) (by decide +kernel)) (al_c (s_iret rfl (by decide +kernel)) (al_c (s_iconst (n := 2) (2) (by decide) (by decide +kernel)) (al_c (s_iret rfl (by decide +kernel)) (al_c (s_iconst (n := 0) (0) (by decide) (by decide +kernel)) (al_c (s_iret rfl (by decide +kernel)) al_n)))))))))))))))
set_option maxRecDepth 100000 in
set_option maxHeartbeats 4000000 in
theorem oL_clearRun_1 : Of (lkp bL_clearRun_1) 5 rL_clearRun_1 := by
  intro avs es r h
  obtain ⟨x1, x2, vr, vd, vn, vg, vhn, vhs, vhN, vhP, vt, vu, vp, vq, ve, vo, z, rfl, rfl, hp, rfl⟩ := h
  refine ⟨Nat.le_of_ble_eq_true rfl, ?_⟩
  unfold pL_clearRun_1 at hp
  refine Rn.go 5 (pc' := 5) (lv' := [(0, .ref 0), (1, .int x1), (2, .int x2), (3, .ref 113)]) (st' := [.int x2, .int x1, .ref 0, .int (0 : Int32), .ref 113]) (es' := (wTO vr vd vn vg vhn vhs vhN vhP vt vu vp vq ve vo)) (c' := 0) (s' := 0) rfl ?_
  obtain ⟨z1, hz1, hp⟩ := ob_some hp
  obtain ⟨(z1v | z1e), z1r⟩ := z1
  · dsimp only at hp
    refine Rn.rel (pc' := 8) (lv' := [(0, .ref 0), (1, .int x1), (2, .int x2), (3, .ref 113)]) (st' := [.int z1v, .int (0 : Int32), .ref 113]) (es' := (wTO vr vd vn vg vhn vhs vhN vhP vt vu vp vq ve vo)) (dc := z1r.1) (ds := z1r.2) rfl ⟨0, [.int x1, .int x2], _, [0, 1, 2, 3, 4, 5, 6, 7, 8, 9, 10, 11, 12, 13, 14, 15, 16, 17, 18, 19, 20, 21, 22, 23, 24, 25, 26, 27, 28, 29, 30, 31, 32, 33, 34, 35, 36, 37, 38, 39, 40, 41, 42, 43, 44, 45, 46, 47, 48, 49, 50, 51, 52, 53, 54, 55, 56, 57, 58, 59, 60, 61, 62, 63, 64, 65, 66, 67, 68, 69, 70, 71, 72, 73, 74, 75, 76, 77, 78, 79, 80, 81, 82, 83, 84, 85, 86, 87, 88, 89, 90, 91, 92, 93, 94, 95, 96, 97, 98, 99, 100, 101, 102, 103, 104, 105, 106, 107, 108, 109, 110, 111, 112], .inl (some (.int z1v)), (wTN vr vd vn vg vhn vhs vhN vhP vt vu vp vq ve), z1r.1, z1r.2, rfl, rfl, Nat.le_of_ble_eq_true rfl, rfl, ⟨x1, x2, vr, vd, vn, vg, vhn, vhs, vhN, vhP, vt, vu, vp, vq, ve, (.inl z1v, z1r), rfl, rfl, hz1, rfl⟩, rfl, Or.inl ⟨_, rfl, rfl⟩⟩ ?_
    refine Rn.go 2 (pc' := 10) (lv' := [(0, .ref 0), (1, .int x1), (2, .int x2), (3, .ref 113)]) (st' := []) (es' := (wTO vr vd vn vg vhn vhs vhN vhP vt vu vp vq ve (vp_updL vo 0 z1v.toInt64))) (c' := (0 + z1r.1)) (s' := (0 + z1r.2)) rfl ?_
    refine Rn.go 2 (pc' := 22) (lv' := [(0, .ref 0), (1, .int x1), (2, .int x2), (3, .ref 113)]) (st' := [.int (0 : Int32)]) (es' := (wTO vr vd vn vg vhn vhs vhN vhP vt vu vp vq ve (vp_updL vo 0 z1v.toInt64))) (c' := (0 + z1r.1)) (s' := (0 + z1r.2)) rfl ?_
    obtain rfl := Option.some.inj hp
    exact Rn.fin rfl rfl rfl
  · dsimp only at hp
    by_cases h1 : z1e = "java/lang/IndexOutOfBoundsException"
    · subst h1
      rw [if_pos rfl] at hp
      refine Rn.rel (pc' := 15) (lv' := [(0, .ref 0), (1, .int x1), (2, .int x2), (3, .ref 113)]) (st' := []) (es' := (wTO vr vd vn vg vhn vhs vhN vhP vt vu vp vq ve vo)) (dc := z1r.1) (ds := z1r.2) rfl ⟨0, [.int x1, .int x2], _, [0, 1, 2, 3, 4, 5, 6, 7, 8, 9, 10, 11, 12, 13, 14, 15, 16, 17, 18, 19, 20, 21, 22, 23, 24, 25, 26, 27, 28, 29, 30, 31, 32, 33, 34, 35, 36, 37, 38, 39, 40, 41, 42, 43, 44, 45, 46, 47, 48, 49, 50, 51, 52, 53, 54, 55, 56, 57, 58, 59, 60, 61, 62, 63, 64, 65, 66, 67, 68, 69, 70, 71, 72, 73, 74, 75, 76, 77, 78, 79, 80, 81, 82, 83, 84, 85, 86, 87, 88, 89, 90, 91, 92, 93, 94, 95, 96, 97, 98, 99, 100, 101, 102, 103, 104, 105, 106, 107, 108, 109, 110, 111, 112], .inr "java/lang/IndexOutOfBoundsException", (wTN vr vd vn vg vhn vhs vhN vhP vt vu vp vq ve), z1r.1, z1r.2, rfl, rfl, Nat.le_of_ble_eq_true rfl, rfl, ⟨x1, x2, vr, vd, vn, vg, vhn, vhs, vhN, vhP, vt, vu, vp, vq, ve, (.inr "java/lang/IndexOutOfBoundsException", z1r), rfl, rfl, hz1, rfl⟩, rfl, Or.inr ⟨("java/lang/IndexOutOfBoundsException", 15), List.mem_cons_self, rfl, rfl⟩⟩ ?_
      refine Rn.go 1 (pc' := 16) (lv' := [(0, .ref 0), (1, .int x1), (2, .int x2), (3, .ref 113)]) (st' := [.int (1 : Int32)]) (es' := (wTO vr vd vn vg vhn vhs vhN vhP vt vu vp vq ve vo)) (c' := (0 + z1r.1)) (s' := (0 + z1r.2)) rfl ?_
      obtain rfl := Option.some.inj hp
      exact Rn.fin rfl rfl rfl
    rw [if_neg h1] at hp
    by_cases h2 : z1e = "java/lang/IllegalArgumentException"
    · subst h2
      rw [if_pos rfl] at hp
      refine Rn.rel (pc' := 19) (lv' := [(0, .ref 0), (1, .int x1), (2, .int x2), (3, .ref 113)]) (st' := []) (es' := (wTO vr vd vn vg vhn vhs vhN vhP vt vu vp vq ve vo)) (dc := z1r.1) (ds := z1r.2) rfl ⟨0, [.int x1, .int x2], _, [0, 1, 2, 3, 4, 5, 6, 7, 8, 9, 10, 11, 12, 13, 14, 15, 16, 17, 18, 19, 20, 21, 22, 23, 24, 25, 26, 27, 28, 29, 30, 31, 32, 33, 34, 35, 36, 37, 38, 39, 40, 41, 42, 43, 44, 45, 46, 47, 48, 49, 50, 51, 52, 53, 54, 55, 56, 57, 58, 59, 60, 61, 62, 63, 64, 65, 66, 67, 68, 69, 70, 71, 72, 73, 74, 75, 76, 77, 78, 79, 80, 81, 82, 83, 84, 85, 86, 87, 88, 89, 90, 91, 92, 93, 94, 95, 96, 97, 98, 99, 100, 101, 102, 103, 104, 105, 106, 107, 108, 109, 110, 111, 112], .inr "java/lang/IllegalArgumentException", (wTN vr vd vn vg vhn vhs vhN vhP vt vu vp vq ve), z1r.1, z1r.2, rfl, rfl, Nat.le_of_ble_eq_true rfl, rfl, ⟨x1, x2, vr, vd, vn, vg, vhn, vhs, vhN, vhP, vt, vu, vp, vq, ve, (.inr "java/lang/IllegalArgumentException", z1r), rfl, rfl, hz1, rfl⟩, rfl, Or.inr ⟨("java/lang/IllegalArgumentException", 19), (List.mem_cons_of_mem _ List.mem_cons_self), rfl, rfl⟩⟩ ?_
      refine Rn.go 1 (pc' := 20) (lv' := [(0, .ref 0), (1, .int x1), (2, .int x2), (3, .ref 113)]) (st' := [.int (2 : Int32)]) (es' := (wTO vr vd vn vg vhn vhs vhN vhP vt vu vp vq ve vo)) (c' := (0 + z1r.1)) (s' := (0 + z1r.2)) rfl ?_
      obtain rfl := Option.some.inj hp
      exact Rn.fin rfl rfl rfl
    rw [if_neg h2] at hp
    cases hp
theorem qL_clearRun_1 : CtA yL_clearRun (.codeWith yL_clearRun cL_clearRun 5 (some .int) [(0, 10, 13, 28), (0, 10, 17, 19)]) 8 135 [] rL_clearRun_1 := CtA.ofH (by decide +kernel) (fun pc op h => kL_clearRun_1 _ (lkp_mem h)) oL_clearRun_1
/-! TelescopeNightLaw.look(LTelescopeNight;Z[J)I -/
def pL_look_1 (x1 : Int32) (vn : NiS) (vg : PrS) (vhn : Int32) (vhs : Int32) (vhN : Nat → NiS) (vhP : Nat → PrS) (vt : ReS) (vu : ReS) (vp : PlS) (vq : DeS) (vo : Nat → Int64) : Option (Int32 × PrS × Int32 × Int32 × (Nat → NiS) × (Nat → PrS) × ReS × ReS × PlS × DeS × (Nat → Int64) × Nat × Nat) :=
  ob (pX8_look x1 vn vg vhn vhs vhN vhP vt vu vp vq) (fun z1 => match z1 with
  | (.inl z1v, z1r) =>
    some ((0 : Int32), z1r.1, z1r.2.1, z1r.2.2.1, z1r.2.2.2.1, z1r.2.2.2.2.1, z1r.2.2.2.2.2.1, z1r.2.2.2.2.2.2.1, z1r.2.2.2.2.2.2.2.1, z1r.2.2.2.2.2.2.2.2.1, (vp_updL vo 0 z1v.toInt64), (0 + z1r.2.2.2.2.2.2.2.2.2.1), (0 + z1r.2.2.2.2.2.2.2.2.2.2))
  | (.inr z1e, z1r) =>
    if z1e = "java/lang/IllegalStateException" then
      some ((1 : Int32), z1r.1, z1r.2.1, z1r.2.2.1, z1r.2.2.2.1, z1r.2.2.2.2.1, z1r.2.2.2.2.2.1, z1r.2.2.2.2.2.2.1, z1r.2.2.2.2.2.2.2.1, z1r.2.2.2.2.2.2.2.2.1, vo, (0 + z1r.2.2.2.2.2.2.2.2.2.1), (0 + z1r.2.2.2.2.2.2.2.2.2.2))
    else none)
def rL_look_1 : List Value → List va_E → op_O → Prop := fun avs es r => ∃ (x1 : Int32) (vr : RdS) (vd : NiS) (vn : NiS) (vg : PrS) (vhn : Int32) (vhs : Int32) (vhN : Nat → NiS) (vhP : Nat → PrS) (vt : ReS) (vu : ReS) (vp : PlS) (vq : DeS) (ve : Int32) (vo : Nat → Int64) (z : Int32 × PrS × Int32 × Int32 × (Nat → NiS) × (Nat → PrS) × ReS × ReS × PlS × DeS × (Nat → Int64) × Nat × Nat), avs = [.ref 0, .int x1, .ref 113] ∧ es = (wTO vr vd vn vg vhn vhs vhN vhP vt vu vp vq ve vo) ∧ pL_look_1 x1 vn vg vhn vhs vhN vhP vt vu vp vq vo = some z ∧ r = (.inl (some (.int z.1)), (wTO vr vd vn z.2.1 z.2.2.1 z.2.2.2.1 z.2.2.2.2.1 z.2.2.2.2.2.1 z.2.2.2.2.2.2.1 z.2.2.2.2.2.2.2.1 z.2.2.2.2.2.2.2.2.1 z.2.2.2.2.2.2.2.2.2.1 ve z.2.2.2.2.2.2.2.2.2.2.1), z.2.2.2.2.2.2.2.2.2.2.2.1, z.2.2.2.2.2.2.2.2.2.2.2.2)
def bL_look_1 : List (Nat × (op_T ⊕ op_R)) := [(0, .inl (o_aload 1 2)), (1, .inl (o_push 2 (.int (0)))), (2, .inl (o_aload 3 0)), (3, .inl (o_iload 4 1)), (4, .inr (o_callVH [] [] 7 1 8 3 [("java/lang/IllegalStateException", 13)] rX8_look)), (7, .inl (o_i2l 8)), (8, .inl (o_last 9)), (9, .inl (o_goto 15)), (13, .inl (o_push 14 (.int (1)))), (14, .inl (o_iret)), (15, .inl (o_push 16 (.int (0)))), (16, .inl (o_iret))]
set_option maxRecDepth 100000 in
set_option maxHeartbeats 4000000 in
theorem kL_look_1 : ∀ q ∈ bL_look_1, ok2 7 144 4 cL_look yL_look.cls yL_look.name (some .int) (.codeWith yL_look cL_look 4 (some .int) [(0, 9, 12, 13)]) (tableOf [(0, 9, 12, 13)]) [] q.1 q.2 := (al_c (s_aload_n (k := 2) (by decide +kernel)) (al_c (s_iconst (n := 0) (0) (by decide) (by decide +kernel)) (al_c (s_aload_n (k := 0) (by decide +kernel)) (al_c (s_iload_n (k := 1) (by decide +kernel)) (al_c (s_callVH (tb := tableOf [(0, 9, 12, 13)]) (by decide) (fun q hq => by rcases List.mem_singleton.mp hq with rfl; exact ⟨[], ⟨0, 9, 12, 13⟩, [], "java/lang/IllegalStateException", rfl, (fun z hz => by cases hz), by decide, by decide, w_701, by decide, Or.inr ⟨3, rfl, by decide +kernel, rfl⟩⟩) (y := yX8_look) (bytes := cX8_look) (maxL := 2) (ret' := (some .int)) (fr' := 6) (lo' := 123) (n := 1) (ml := []) (mlc := []) (ci := 8) (q9 := (RX8, TX8, 10)) qX8_look w_1072 w_1073 w_1074 w_1 w_1075 ⟨by decide +kernel, by decide +kernel, by decide +kernel⟩ rfl rfl (by decide) (by decide) (by decide +kernel)) (al_c (s_i2l (by decide +kernel)) (al_c (s_last (by decide +kernel)) (al_c (s_goto (off := 6) 15 (by decide) (by decide +kernel)) (al_c (s_iconst (n := 1) (1) (by decide) (by decide +kernel)) (al_c (s_iret rfl (by decide +kernel)) (al_c (s_iconst (n := 0) (0) (by decide) (by decide +kernel)) (al_c (s_iret rfl (by decide +kernel)) al_n))))))))))))
set_option maxRecDepth 100000 in
set_option maxHeartbeats 4000000 in
theorem oL_look_1 : Of (lkp bL_look_1) 4 rL_look_1 := by
  intro avs es r h
  obtain ⟨x1, vr, vd, vn, vg, vhn, vhs, vhN, vhP, vt, vu, vp, vq, ve, vo, z, rfl, rfl, hp, rfl⟩ := h
  refine ⟨Nat.le_of_ble_eq_true rfl, ?_⟩
  unfold pL_look_1 at hp
  refine Rn.go 4 (pc' := 4) (lv' := [(0, .ref 0), (1, .int x1), (2, .ref 113)]) (st' := [.int x1, .ref 0, .int (0 : Int32), .ref 113]) (es' := (wTO vr vd vn vg vhn vhs vhN vhP vt vu vp vq ve vo)) (c' := 0) (s' := 0) rfl ?_
  obtain ⟨z1, hz1, hp⟩ := ob_some hp
  obtain ⟨(z1v | z1e), z1r⟩ := z1
  · dsimp only at hp
    refine Rn.rel (pc' := 7) (lv' := [(0, .ref 0), (1, .int x1), (2, .ref 113)]) (st' := [.int z1v, .int (0 : Int32), .ref 113]) (es' := (wTO vr vd vn z1r.1 z1r.2.1 z1r.2.2.1 z1r.2.2.2.1 z1r.2.2.2.2.1 z1r.2.2.2.2.2.1 z1r.2.2.2.2.2.2.1 z1r.2.2.2.2.2.2.2.1 z1r.2.2.2.2.2.2.2.2.1 ve vo)) (dc := z1r.2.2.2.2.2.2.2.2.2.1) (ds := z1r.2.2.2.2.2.2.2.2.2.2) rfl ⟨0, [.int x1], _, [0, 1, 2, 3, 4, 5, 6, 7, 8, 9, 10, 11, 12, 13, 14, 15, 16, 17, 18, 19, 20, 21, 22, 23, 24, 25, 26, 27, 28, 29, 30, 31, 32, 33, 34, 35, 36, 37, 38, 39, 40, 41, 42, 43, 44, 45, 46, 47, 48, 49, 50, 51, 52, 53, 54, 55, 56, 57, 58, 59, 60, 61, 62, 63, 64, 65, 66, 67, 68, 69, 70, 71, 72, 73, 74, 75, 76, 77, 78, 79, 80, 81, 82, 83, 84, 85, 86, 87, 88, 89, 90, 91, 92, 93, 94, 95, 96, 97, 98, 99, 100, 101, 102, 103, 104, 105, 106, 107, 108, 109, 110, 111, 112], .inl (some (.int z1v)), (wTN vr vd vn z1r.1 z1r.2.1 z1r.2.2.1 z1r.2.2.2.1 z1r.2.2.2.2.1 z1r.2.2.2.2.2.1 z1r.2.2.2.2.2.2.1 z1r.2.2.2.2.2.2.2.1 z1r.2.2.2.2.2.2.2.2.1 ve), z1r.2.2.2.2.2.2.2.2.2.1, z1r.2.2.2.2.2.2.2.2.2.2, rfl, rfl, Nat.le_of_ble_eq_true rfl, rfl, ⟨x1, vr, vd, vn, vg, vhn, vhs, vhN, vhP, vt, vu, vp, vq, ve, (.inl z1v, z1r), rfl, rfl, hz1, rfl⟩, rfl, Or.inl ⟨_, rfl, rfl⟩⟩ ?_
    refine Rn.go 2 (pc' := 9) (lv' := [(0, .ref 0), (1, .int x1), (2, .ref 113)]) (st' := []) (es' := (wTO vr vd vn z1r.1 z1r.2.1 z1r.2.2.1 z1r.2.2.2.1 z1r.2.2.2.2.1 z1r.2.2.2.2.2.1 z1r.2.2.2.2.2.2.1 z1r.2.2.2.2.2.2.2.1 z1r.2.2.2.2.2.2.2.2.1 ve (vp_updL vo 0 z1v.toInt64))) (c' := (0 + z1r.2.2.2.2.2.2.2.2.2.1)) (s' := (0 + z1r.2.2.2.2.2.2.2.2.2.2)) rfl ?_
    refine Rn.go 2 (pc' := 16) (lv' := [(0, .ref 0), (1, .int x1), (2, .ref 113)]) (st' := [.int (0 : Int32)]) (es' := (wTO vr vd vn z1r.1 z1r.2.1 z1r.2.2.1 z1r.2.2.2.1 z1r.2.2.2.2.1 z1r.2.2.2.2.2.1 z1r.2.2.2.2.2.2.1 z1r.2.2.2.2.2.2.2.1 z1r.2.2.2.2.2.2.2.2.1 ve (vp_updL vo 0 z1v.toInt64))) (c' := (0 + z1r.2.2.2.2.2.2.2.2.2.1)) (s' := (0 + z1r.2.2.2.2.2.2.2.2.2.2)) rfl ?_
    obtain rfl := Option.some.inj hp
    exact Rn.fin rfl rfl rfl
  · dsimp only at hp
    by_cases h1 : z1e = "java/lang/IllegalStateException"
    · subst h1
      rw [if_pos rfl] at hp
      refine Rn.rel (pc' := 13) (lv' := [(0, .ref 0), (1, .int x1), (2, .ref 113)]) (st' := []) (es' := (wTO vr vd vn z1r.1 z1r.2.1 z1r.2.2.1 z1r.2.2.2.1 z1r.2.2.2.2.1 z1r.2.2.2.2.2.1 z1r.2.2.2.2.2.2.1 z1r.2.2.2.2.2.2.2.1 z1r.2.2.2.2.2.2.2.2.1 ve vo)) (dc := z1r.2.2.2.2.2.2.2.2.2.1) (ds := z1r.2.2.2.2.2.2.2.2.2.2) rfl ⟨0, [.int x1], _, [0, 1, 2, 3, 4, 5, 6, 7, 8, 9, 10, 11, 12, 13, 14, 15, 16, 17, 18, 19, 20, 21, 22, 23, 24, 25, 26, 27, 28, 29, 30, 31, 32, 33, 34, 35, 36, 37, 38, 39, 40, 41, 42, 43, 44, 45, 46, 47, 48, 49, 50, 51, 52, 53, 54, 55, 56, 57, 58, 59, 60, 61, 62, 63, 64, 65, 66, 67, 68, 69, 70, 71, 72, 73, 74, 75, 76, 77, 78, 79, 80, 81, 82, 83, 84, 85, 86, 87, 88, 89, 90, 91, 92, 93, 94, 95, 96, 97, 98, 99, 100, 101, 102, 103, 104, 105, 106, 107, 108, 109, 110, 111, 112], .inr "java/lang/IllegalStateException", (wTN vr vd vn z1r.1 z1r.2.1 z1r.2.2.1 z1r.2.2.2.1 z1r.2.2.2.2.1 z1r.2.2.2.2.2.1 z1r.2.2.2.2.2.2.1 z1r.2.2.2.2.2.2.2.1 z1r.2.2.2.2.2.2.2.2.1 ve), z1r.2.2.2.2.2.2.2.2.2.1, z1r.2.2.2.2.2.2.2.2.2.2, rfl, rfl, Nat.le_of_ble_eq_true rfl, rfl, ⟨x1, vr, vd, vn, vg, vhn, vhs, vhN, vhP, vt, vu, vp, vq, ve, (.inr "java/lang/IllegalStateException", z1r), rfl, rfl, hz1, rfl⟩, rfl, Or.inr ⟨("java/lang/IllegalStateException", 13), List.mem_cons_self, rfl, rfl⟩⟩ ?_
      refine Rn.go 1 (pc' := 14) (lv' := [(0, .ref 0), (1, .int x1), (2, .ref 113)]) (st' := [.int (1 : Int32)]) (es' := (wTO vr vd vn z1r.1 z1r.2.1 z1r.2.2.1 z1r.2.2.2.1 z1r.2.2.2.2.1 z1r.2.2.2.2.2.1 z1r.2.2.2.2.2.2.1 z1r.2.2.2.2.2.2.2.1 z1r.2.2.2.2.2.2.2.2.1 ve vo)) (c' := (0 + z1r.2.2.2.2.2.2.2.2.2.1)) (s' := (0 + z1r.2.2.2.2.2.2.2.2.2.2)) rfl ?_
      obtain rfl := Option.some.inj hp
      exact Rn.fin rfl rfl rfl
    rw [if_neg h1] at hp
    cases hp
theorem qL_look_1 : CtA yL_look (.codeWith yL_look cL_look 4 (some .int) [(0, 9, 12, 13)]) 7 144 [] rL_look_1 := CtA.ofH (by decide +kernel) (fun pc op h => kL_look_1 _ (lkp_mem h)) oL_look_1
/-! TelescopeNightLaw.expose(LTelescopeNight;I[J)I -/
def pL_expose_1 (x1 : Int32) (vn : NiS) (vg : PrS) (vhn : Int32) (vhs : Int32) (vhN : Nat → NiS) (vhP : Nat → PrS) (vt : ReS) (vu : ReS) (vp : PlS) (vq : DeS) (vo : Nat → Int64) : Option (Int32 × PrS × Int32 × Int32 × (Nat → NiS) × (Nat → PrS) × ReS × ReS × PlS × DeS × (Nat → Int64) × Nat × Nat) :=
  ob (pX8_expose x1 vn vg vhn vhs vhN vhP vt vu vp vq) (fun z1 => match z1 with
  | (.inl z1v, z1r) =>
    some ((0 : Int32), z1r.1, z1r.2.1, z1r.2.2.1, z1r.2.2.2.1, z1r.2.2.2.2.1, z1r.2.2.2.2.2.1, z1r.2.2.2.2.2.2.1, z1r.2.2.2.2.2.2.2.1, z1r.2.2.2.2.2.2.2.2.1, (vp_updL vo 0 z1v.toInt64), (0 + z1r.2.2.2.2.2.2.2.2.2.1), (0 + z1r.2.2.2.2.2.2.2.2.2.2))
  | (.inr z1e, z1r) =>
    if z1e = "java/lang/IndexOutOfBoundsException" then
      some ((1 : Int32), z1r.1, z1r.2.1, z1r.2.2.1, z1r.2.2.2.1, z1r.2.2.2.2.1, z1r.2.2.2.2.2.1, z1r.2.2.2.2.2.2.1, z1r.2.2.2.2.2.2.2.1, z1r.2.2.2.2.2.2.2.2.1, vo, (0 + z1r.2.2.2.2.2.2.2.2.2.1), (0 + z1r.2.2.2.2.2.2.2.2.2.2))
    else if z1e = "java/lang/IllegalStateException" then
      some ((2 : Int32), z1r.1, z1r.2.1, z1r.2.2.1, z1r.2.2.2.1, z1r.2.2.2.2.1, z1r.2.2.2.2.2.1, z1r.2.2.2.2.2.2.1, z1r.2.2.2.2.2.2.2.1, z1r.2.2.2.2.2.2.2.2.1, vo, (0 + z1r.2.2.2.2.2.2.2.2.2.1), (0 + z1r.2.2.2.2.2.2.2.2.2.2))
    else none)
def rL_expose_1 : List Value → List va_E → op_O → Prop := fun avs es r => ∃ (x1 : Int32) (vr : RdS) (vd : NiS) (vn : NiS) (vg : PrS) (vhn : Int32) (vhs : Int32) (vhN : Nat → NiS) (vhP : Nat → PrS) (vt : ReS) (vu : ReS) (vp : PlS) (vq : DeS) (ve : Int32) (vo : Nat → Int64) (z : Int32 × PrS × Int32 × Int32 × (Nat → NiS) × (Nat → PrS) × ReS × ReS × PlS × DeS × (Nat → Int64) × Nat × Nat), avs = [.ref 0, .int x1, .ref 113] ∧ es = (wTO vr vd vn vg vhn vhs vhN vhP vt vu vp vq ve vo) ∧ pL_expose_1 x1 vn vg vhn vhs vhN vhP vt vu vp vq vo = some z ∧ r = (.inl (some (.int z.1)), (wTO vr vd vn z.2.1 z.2.2.1 z.2.2.2.1 z.2.2.2.2.1 z.2.2.2.2.2.1 z.2.2.2.2.2.2.1 z.2.2.2.2.2.2.2.1 z.2.2.2.2.2.2.2.2.1 z.2.2.2.2.2.2.2.2.2.1 ve z.2.2.2.2.2.2.2.2.2.2.1), z.2.2.2.2.2.2.2.2.2.2.2.1, z.2.2.2.2.2.2.2.2.2.2.2.2)
def bL_expose_1 : List (Nat × (op_T ⊕ op_R)) := [(0, .inl (o_aload 1 2)), (1, .inl (o_push 2 (.int (0)))), (2, .inl (o_aload 3 0)), (3, .inl (o_iload 4 1)), (4, .inr (o_callVH [] [] 7 1 8 3 [("java/lang/IndexOutOfBoundsException", 13), ("java/lang/IllegalStateException", 16)] rX8_expose)), (7, .inl (o_i2l 8)), (8, .inl (o_last 9)), (9, .inl (o_goto 18)), (13, .inl (o_push 14 (.int (1)))), (14, .inl (o_iret)), (16, .inl (o_push 17 (.int (2)))), (17, .inl (o_iret)), (18, .inl (o_push 19 (.int (0)))), (19, .inl (o_iret))]
set_option maxRecDepth 100000 in
set_option maxHeartbeats 4000000 in
theorem kL_expose_1 : ∀ q ∈ bL_expose_1, ok2 8 144 4 cL_expose yL_expose.cls yL_expose.name (some .int) (.codeWith yL_expose cL_expose 4 (some .int) [(0, 9, 12, 28), (0, 9, 15, 13)]) (tableOf [(0, 9, 12, 28), (0, 9, 15, 13)]) [] q.1 q.2 := (al_c (s_aload_n (k := 2) (by decide +kernel)) (al_c (s_iconst (n := 0) (0) (by decide) (by decide +kernel)) (al_c (s_aload_n (k := 0) (by decide +kernel)) (al_c (s_iload_n (k := 1) (by decide +kernel)) (al_c (s_callVH (tb := tableOf [(0, 9, 12, 28), (0, 9, 15, 13)]) (by decide) (fun q hq => by rcases List.mem_cons.mp hq with rfl | hq; exact ⟨[], ⟨0, 9, 12, 28⟩, [⟨0, 9, 15, 13⟩], "java/lang/IndexOutOfBoundsException", rfl, (fun z hz => by cases hz), by decide, by decide, w_948, by decide, Or.inr ⟨3, rfl, by decide +kernel, rfl⟩⟩; rcases List.mem_singleton.mp hq with rfl; exact ⟨[⟨0, 9, 12, 28⟩], ⟨0, 9, 15, 13⟩, [], "java/lang/IllegalStateException", rfl, (fun z hz => by rcases List.mem_singleton.mp hz with rfl; exact ⟨by decide, "java/lang/IndexOutOfBoundsException", w_948, by decide⟩), by decide, by decide, w_701, by decide, Or.inr ⟨3, rfl, by decide +kernel, rfl⟩⟩) (y := yX8_expose) (bytes := cX8_expose) (maxL := 2) (ret' := (some .int)) (fr' := 7) (lo' := 123) (n := 1) (ml := []) (mlc := []) (ci := 8) (q9 := (RX8, TX8, 10)) qX8_expose w_1089 w_1090 w_1091 w_1 w_1092 ⟨by decide +kernel, by decide +kernel, by decide +kernel⟩ rfl rfl (by decide) (by decide) (by decide +kernel)) (al_c (s_i2l (by decide +kernel)) (al_c (s_last (by decide +kernel)) (al_c (s_goto (off := 9) 18 (by decide) (by decide +kernel)) (al_c (s_iconst (n := 1) (1) (by decide) (by decide +kernel)) (al_c (s_iret rfl (by decide +kernel)) (al_c (s_iconst (n := 2) (2) (by decide) (by decide +kernel)) (al_c (s_iret rfl (by decide +kernel)) (al_c (s_iconst (n := 0) (0) (by decide) (by decide +kernel)) (al_c (s_iret rfl (by decide +kernel)) al_n))))))))))))))
set_option maxRecDepth 100000 in
set_option maxHeartbeats 4000000 in
theorem oL_expose_1 : Of (lkp bL_expose_1) 4 rL_expose_1 := by
  intro avs es r h
  obtain ⟨x1, vr, vd, vn, vg, vhn, vhs, vhN, vhP, vt, vu, vp, vq, ve, vo, z, rfl, rfl, hp, rfl⟩ := h
  refine ⟨Nat.le_of_ble_eq_true rfl, ?_⟩
  unfold pL_expose_1 at hp
  refine Rn.go 4 (pc' := 4) (lv' := [(0, .ref 0), (1, .int x1), (2, .ref 113)]) (st' := [.int x1, .ref 0, .int (0 : Int32), .ref 113]) (es' := (wTO vr vd vn vg vhn vhs vhN vhP vt vu vp vq ve vo)) (c' := 0) (s' := 0) rfl ?_
  obtain ⟨z1, hz1, hp⟩ := ob_some hp
  obtain ⟨(z1v | z1e), z1r⟩ := z1
  · dsimp only at hp
    refine Rn.rel (pc' := 7) (lv' := [(0, .ref 0), (1, .int x1), (2, .ref 113)]) (st' := [.int z1v, .int (0 : Int32), .ref 113]) (es' := (wTO vr vd vn z1r.1 z1r.2.1 z1r.2.2.1 z1r.2.2.2.1 z1r.2.2.2.2.1 z1r.2.2.2.2.2.1 z1r.2.2.2.2.2.2.1 z1r.2.2.2.2.2.2.2.1 z1r.2.2.2.2.2.2.2.2.1 ve vo)) (dc := z1r.2.2.2.2.2.2.2.2.2.1) (ds := z1r.2.2.2.2.2.2.2.2.2.2) rfl ⟨0, [.int x1], _, [0, 1, 2, 3, 4, 5, 6, 7, 8, 9, 10, 11, 12, 13, 14, 15, 16, 17, 18, 19, 20, 21, 22, 23, 24, 25, 26, 27, 28, 29, 30, 31, 32, 33, 34, 35, 36, 37, 38, 39, 40, 41, 42, 43, 44, 45, 46, 47, 48, 49, 50, 51, 52, 53, 54, 55, 56, 57, 58, 59, 60, 61, 62, 63, 64, 65, 66, 67, 68, 69, 70, 71, 72, 73, 74, 75, 76, 77, 78, 79, 80, 81, 82, 83, 84, 85, 86, 87, 88, 89, 90, 91, 92, 93, 94, 95, 96, 97, 98, 99, 100, 101, 102, 103, 104, 105, 106, 107, 108, 109, 110, 111, 112], .inl (some (.int z1v)), (wTN vr vd vn z1r.1 z1r.2.1 z1r.2.2.1 z1r.2.2.2.1 z1r.2.2.2.2.1 z1r.2.2.2.2.2.1 z1r.2.2.2.2.2.2.1 z1r.2.2.2.2.2.2.2.1 z1r.2.2.2.2.2.2.2.2.1 ve), z1r.2.2.2.2.2.2.2.2.2.1, z1r.2.2.2.2.2.2.2.2.2.2, rfl, rfl, Nat.le_of_ble_eq_true rfl, rfl, ⟨x1, vr, vd, vn, vg, vhn, vhs, vhN, vhP, vt, vu, vp, vq, ve, (.inl z1v, z1r), rfl, rfl, hz1, rfl⟩, rfl, Or.inl ⟨_, rfl, rfl⟩⟩ ?_
    refine Rn.go 2 (pc' := 9) (lv' := [(0, .ref 0), (1, .int x1), (2, .ref 113)]) (st' := []) (es' := (wTO vr vd vn z1r.1 z1r.2.1 z1r.2.2.1 z1r.2.2.2.1 z1r.2.2.2.2.1 z1r.2.2.2.2.2.1 z1r.2.2.2.2.2.2.1 z1r.2.2.2.2.2.2.2.1 z1r.2.2.2.2.2.2.2.2.1 ve (vp_updL vo 0 z1v.toInt64))) (c' := (0 + z1r.2.2.2.2.2.2.2.2.2.1)) (s' := (0 + z1r.2.2.2.2.2.2.2.2.2.2)) rfl ?_
    refine Rn.go 2 (pc' := 19) (lv' := [(0, .ref 0), (1, .int x1), (2, .ref 113)]) (st' := [.int (0 : Int32)]) (es' := (wTO vr vd vn z1r.1 z1r.2.1 z1r.2.2.1 z1r.2.2.2.1 z1r.2.2.2.2.1 z1r.2.2.2.2.2.1 z1r.2.2.2.2.2.2.1 z1r.2.2.2.2.2.2.2.1 z1r.2.2.2.2.2.2.2.2.1 ve (vp_updL vo 0 z1v.toInt64))) (c' := (0 + z1r.2.2.2.2.2.2.2.2.2.1)) (s' := (0 + z1r.2.2.2.2.2.2.2.2.2.2)) rfl ?_
    obtain rfl := Option.some.inj hp
    exact Rn.fin rfl rfl rfl
  · dsimp only at hp
    by_cases h1 : z1e = "java/lang/IndexOutOfBoundsException"
    · subst h1
      rw [if_pos rfl] at hp
      refine Rn.rel (pc' := 13) (lv' := [(0, .ref 0), (1, .int x1), (2, .ref 113)]) (st' := []) (es' := (wTO vr vd vn z1r.1 z1r.2.1 z1r.2.2.1 z1r.2.2.2.1 z1r.2.2.2.2.1 z1r.2.2.2.2.2.1 z1r.2.2.2.2.2.2.1 z1r.2.2.2.2.2.2.2.1 z1r.2.2.2.2.2.2.2.2.1 ve vo)) (dc := z1r.2.2.2.2.2.2.2.2.2.1) (ds := z1r.2.2.2.2.2.2.2.2.2.2) rfl ⟨0, [.int x1], _, [0, 1, 2, 3, 4, 5, 6, 7, 8, 9, 10, 11, 12, 13, 14, 15, 16, 17, 18, 19, 20, 21, 22, 23, 24, 25, 26, 27, 28, 29, 30, 31, 32, 33, 34, 35, 36, 37, 38, 39, 40, 41, 42, 43, 44, 45, 46, 47, 48, 49, 50, 51, 52, 53, 54, 55, 56, 57, 58, 59, 60, 61, 62, 63, 64, 65, 66, 67, 68, 69, 70, 71, 72, 73, 74, 75, 76, 77, 78, 79, 80, 81, 82, 83, 84, 85, 86, 87, 88, 89, 90, 91, 92, 93, 94, 95, 96, 97, 98, 99, 100, 101, 102, 103, 104, 105, 106, 107, 108, 109, 110, 111, 112], .inr "java/lang/IndexOutOfBoundsException", (wTN vr vd vn z1r.1 z1r.2.1 z1r.2.2.1 z1r.2.2.2.1 z1r.2.2.2.2.1 z1r.2.2.2.2.2.1 z1r.2.2.2.2.2.2.1 z1r.2.2.2.2.2.2.2.1 z1r.2.2.2.2.2.2.2.2.1 ve), z1r.2.2.2.2.2.2.2.2.2.1, z1r.2.2.2.2.2.2.2.2.2.2, rfl, rfl, Nat.le_of_ble_eq_true rfl, rfl, ⟨x1, vr, vd, vn, vg, vhn, vhs, vhN, vhP, vt, vu, vp, vq, ve, (.inr "java/lang/IndexOutOfBoundsException", z1r), rfl, rfl, hz1, rfl⟩, rfl, Or.inr ⟨("java/lang/IndexOutOfBoundsException", 13), List.mem_cons_self, rfl, rfl⟩⟩ ?_
      refine Rn.go 1 (pc' := 14) (lv' := [(0, .ref 0), (1, .int x1), (2, .ref 113)]) (st' := [.int (1 : Int32)]) (es' := (wTO vr vd vn z1r.1 z1r.2.1 z1r.2.2.1 z1r.2.2.2.1 z1r.2.2.2.2.1 z1r.2.2.2.2.2.1 z1r.2.2.2.2.2.2.1 z1r.2.2.2.2.2.2.2.1 z1r.2.2.2.2.2.2.2.2.1 ve vo)) (c' := (0 + z1r.2.2.2.2.2.2.2.2.2.1)) (s' := (0 + z1r.2.2.2.2.2.2.2.2.2.2)) rfl ?_
      obtain rfl := Option.some.inj hp
      exact Rn.fin rfl rfl rfl
    rw [if_neg h1] at hp
    by_cases h2 : z1e = "java/lang/IllegalStateException"
    · subst h2
      rw [if_pos rfl] at hp
      refine Rn.rel (pc' := 16) (lv' := [(0, .ref 0), (1, .int x1), (2, .ref 113)]) (st' := []) (es' := (wTO vr vd vn z1r.1 z1r.2.1 z1r.2.2.1 z1r.2.2.2.1 z1r.2.2.2.2.1 z1r.2.2.2.2.2.1 z1r.2.2.2.2.2.2.1 z1r.2.2.2.2.2.2.2.1 z1r.2.2.2.2.2.2.2.2.1 ve vo)) (dc := z1r.2.2.2.2.2.2.2.2.2.1) (ds := z1r.2.2.2.2.2.2.2.2.2.2) rfl ⟨0, [.int x1], _, [0, 1, 2, 3, 4, 5, 6, 7, 8, 9, 10, 11, 12, 13, 14, 15, 16, 17, 18, 19, 20, 21, 22, 23, 24, 25, 26, 27, 28, 29, 30, 31, 32, 33, 34, 35, 36, 37, 38, 39, 40, 41, 42, 43, 44, 45, 46, 47, 48, 49, 50, 51, 52, 53, 54, 55, 56, 57, 58, 59, 60, 61, 62, 63, 64, 65, 66, 67, 68, 69, 70, 71, 72, 73, 74, 75, 76, 77, 78, 79, 80, 81, 82, 83, 84, 85, 86, 87, 88, 89, 90, 91, 92, 93, 94, 95, 96, 97, 98, 99, 100, 101, 102, 103, 104, 105, 106, 107, 108, 109, 110, 111, 112], .inr "java/lang/IllegalStateException", (wTN vr vd vn z1r.1 z1r.2.1 z1r.2.2.1 z1r.2.2.2.1 z1r.2.2.2.2.1 z1r.2.2.2.2.2.1 z1r.2.2.2.2.2.2.1 z1r.2.2.2.2.2.2.2.1 z1r.2.2.2.2.2.2.2.2.1 ve), z1r.2.2.2.2.2.2.2.2.2.1, z1r.2.2.2.2.2.2.2.2.2.2, rfl, rfl, Nat.le_of_ble_eq_true rfl, rfl, ⟨x1, vr, vd, vn, vg, vhn, vhs, vhN, vhP, vt, vu, vp, vq, ve, (.inr "java/lang/IllegalStateException", z1r), rfl, rfl, hz1, rfl⟩, rfl, Or.inr ⟨("java/lang/IllegalStateException", 16), (List.mem_cons_of_mem _ List.mem_cons_self), rfl, rfl⟩⟩ ?_
      refine Rn.go 1 (pc' := 17) (lv' := [(0, .ref 0), (1, .int x1), (2, .ref 113)]) (st' := [.int (2 : Int32)]) (es' := (wTO vr vd vn z1r.1 z1r.2.1 z1r.2.2.1 z1r.2.2.2.1 z1r.2.2.2.2.1 z1r.2.2.2.2.2.1 z1r.2.2.2.2.2.2.1 z1r.2.2.2.2.2.2.2.1 z1r.2.2.2.2.2.2.2.2.1 ve vo)) (c' := (0 + z1r.2.2.2.2.2.2.2.2.2.1)) (s' := (0 + z1r.2.2.2.2.2.2.2.2.2.2)) rfl ?_
      obtain rfl := Option.some.inj hp
      exact Rn.fin rfl rfl rfl
    rw [if_neg h2] at hp
    cases hp
theorem qL_expose_1 : CtA yL_expose (.codeWith yL_expose cL_expose 4 (some .int) [(0, 9, 12, 28), (0, 9, 15, 13)]) 8 144 [] rL_expose_1 := CtA.ofH (by decide +kernel) (fun pc op h => kL_expose_1 _ (lkp_mem h)) oL_expose_1
/-! TelescopeNightLaw.pass(LTelescopeNight;[J)I -/
def pL_pass_1 (vn : NiS) (vg : PrS) (vhn : Int32) (vhs : Int32) (vhN : Nat → NiS) (vhP : Nat → PrS) (vt : ReS) (vu : ReS) (vp : PlS) (vq : DeS) (vo : Nat → Int64) : Option (Int32 × PrS × Int32 × Int32 × (Nat → NiS) × (Nat → PrS) × ReS × ReS × PlS × DeS × (Nat → Int64) × Nat × Nat) :=
  ob (pX8_pass vn vg vhn vhs vhN vhP vt vu vp vq) (fun z1 => match z1 with
  | (.inl z1v, z1r) =>
    some ((0 : Int32), z1r.1, z1r.2.1, z1r.2.2.1, z1r.2.2.2.1, z1r.2.2.2.2.1, z1r.2.2.2.2.2.1, z1r.2.2.2.2.2.2.1, z1r.2.2.2.2.2.2.2.1, z1r.2.2.2.2.2.2.2.2.1, (vp_updL vo 0 z1v.toInt64), (0 + z1r.2.2.2.2.2.2.2.2.2.1), (0 + z1r.2.2.2.2.2.2.2.2.2.2))
  | (.inr z1e, z1r) =>
    if z1e = "java/lang/IllegalStateException" then
      some ((1 : Int32), z1r.1, z1r.2.1, z1r.2.2.1, z1r.2.2.2.1, z1r.2.2.2.2.1, z1r.2.2.2.2.2.1, z1r.2.2.2.2.2.2.1, z1r.2.2.2.2.2.2.2.1, z1r.2.2.2.2.2.2.2.2.1, vo, (0 + z1r.2.2.2.2.2.2.2.2.2.1), (0 + z1r.2.2.2.2.2.2.2.2.2.2))
    else none)
def rL_pass_1 : List Value → List va_E → op_O → Prop := fun avs es r => ∃ (vr : RdS) (vd : NiS) (vn : NiS) (vg : PrS) (vhn : Int32) (vhs : Int32) (vhN : Nat → NiS) (vhP : Nat → PrS) (vt : ReS) (vu : ReS) (vp : PlS) (vq : DeS) (ve : Int32) (vo : Nat → Int64) (z : Int32 × PrS × Int32 × Int32 × (Nat → NiS) × (Nat → PrS) × ReS × ReS × PlS × DeS × (Nat → Int64) × Nat × Nat), avs = [.ref 0, .ref 113] ∧ es = (wTO vr vd vn vg vhn vhs vhN vhP vt vu vp vq ve vo) ∧ pL_pass_1 vn vg vhn vhs vhN vhP vt vu vp vq vo = some z ∧ r = (.inl (some (.int z.1)), (wTO vr vd vn z.2.1 z.2.2.1 z.2.2.2.1 z.2.2.2.2.1 z.2.2.2.2.2.1 z.2.2.2.2.2.2.1 z.2.2.2.2.2.2.2.1 z.2.2.2.2.2.2.2.2.1 z.2.2.2.2.2.2.2.2.2.1 ve z.2.2.2.2.2.2.2.2.2.2.1), z.2.2.2.2.2.2.2.2.2.2.2.1, z.2.2.2.2.2.2.2.2.2.2.2.2)
def bL_pass_1 : List (Nat × (op_T ⊕ op_R)) := [(0, .inl (o_aload 1 1)), (1, .inl (o_push 2 (.int (0)))), (2, .inl (o_aload 3 0)), (3, .inr (o_callVH [] [] 6 0 8 2 [("java/lang/IllegalStateException", 12)] rX8_pass)), (6, .inl (o_i2l 7)), (7, .inl (o_last 8)), (8, .inl (o_goto 14)), (12, .inl (o_push 13 (.int (1)))), (13, .inl (o_iret)), (14, .inl (o_push 15 (.int (0)))), (15, .inl (o_iret))]
set_option maxRecDepth 100000 in
set_option maxHeartbeats 4000000 in
theorem kL_pass_1 : ∀ q ∈ bL_pass_1, ok2 7 143 3 cL_pass yL_pass.cls yL_pass.name (some .int) (.codeWith yL_pass cL_pass 3 (some .int) [(0, 8, 11, 13)]) (tableOf [(0, 8, 11, 13)]) [] q.1 q.2 := (al_c (s_aload_n (k := 1) (by decide +kernel)) (al_c (s_iconst (n := 0) (0) (by decide) (by decide +kernel)) (al_c (s_aload_n (k := 0) (by decide +kernel)) (al_c (s_callVH (tb := tableOf [(0, 8, 11, 13)]) (by decide) (fun q hq => by rcases List.mem_singleton.mp hq with rfl; exact ⟨[], ⟨0, 8, 11, 13⟩, [], "java/lang/IllegalStateException", rfl, (fun z hz => by cases hz), by decide, by decide, w_701, by decide, Or.inr ⟨2, rfl, by decide +kernel, rfl⟩⟩) (y := yX8_pass) (bytes := cX8_pass) (maxL := 1) (ret' := (some .int)) (fr' := 6) (lo' := 123) (n := 0) (ml := []) (mlc := []) (ci := 8) (q9 := (RX8, TX8, 10)) qX8_pass w_1107 w_1108 w_1109 w_1 w_1110 ⟨by decide +kernel, by decide +kernel, by decide +kernel⟩ rfl rfl (by decide) (by decide) (by decide +kernel)) (al_c (s_i2l (by decide +kernel)) (al_c (s_last (by decide +kernel)) (al_c (s_goto (off := 6) 14 (by decide) (by decide +kernel)) (al_c (s_iconst (n := 1) (1) (by decide) (by decide +kernel)) (al_c (s_iret rfl (by decide +kernel)) (al_c (s_iconst (n := 0) (0) (by decide) (by decide +kernel)) (al_c (s_iret rfl (by decide +kernel)) al_n)))))))))))
set_option maxRecDepth 100000 in
set_option maxHeartbeats 4000000 in
theorem oL_pass_1 : Of (lkp bL_pass_1) 3 rL_pass_1 := by
  intro avs es r h
  obtain ⟨vr, vd, vn, vg, vhn, vhs, vhN, vhP, vt, vu, vp, vq, ve, vo, z, rfl, rfl, hp, rfl⟩ := h
  refine ⟨Nat.le_of_ble_eq_true rfl, ?_⟩
  unfold pL_pass_1 at hp
  refine Rn.go 3 (pc' := 3) (lv' := [(0, .ref 0), (1, .ref 113)]) (st' := [.ref 0, .int (0 : Int32), .ref 113]) (es' := (wTO vr vd vn vg vhn vhs vhN vhP vt vu vp vq ve vo)) (c' := 0) (s' := 0) rfl ?_
  obtain ⟨z1, hz1, hp⟩ := ob_some hp
  obtain ⟨(z1v | z1e), z1r⟩ := z1
  · dsimp only at hp
    refine Rn.rel (pc' := 6) (lv' := [(0, .ref 0), (1, .ref 113)]) (st' := [.int z1v, .int (0 : Int32), .ref 113]) (es' := (wTO vr vd vn z1r.1 z1r.2.1 z1r.2.2.1 z1r.2.2.2.1 z1r.2.2.2.2.1 z1r.2.2.2.2.2.1 z1r.2.2.2.2.2.2.1 z1r.2.2.2.2.2.2.2.1 z1r.2.2.2.2.2.2.2.2.1 ve vo)) (dc := z1r.2.2.2.2.2.2.2.2.2.1) (ds := z1r.2.2.2.2.2.2.2.2.2.2) rfl ⟨0, [], _, [0, 1, 2, 3, 4, 5, 6, 7, 8, 9, 10, 11, 12, 13, 14, 15, 16, 17, 18, 19, 20, 21, 22, 23, 24, 25, 26, 27, 28, 29, 30, 31, 32, 33, 34, 35, 36, 37, 38, 39, 40, 41, 42, 43, 44, 45, 46, 47, 48, 49, 50, 51, 52, 53, 54, 55, 56, 57, 58, 59, 60, 61, 62, 63, 64, 65, 66, 67, 68, 69, 70, 71, 72, 73, 74, 75, 76, 77, 78, 79, 80, 81, 82, 83, 84, 85, 86, 87, 88, 89, 90, 91, 92, 93, 94, 95, 96, 97, 98, 99, 100, 101, 102, 103, 104, 105, 106, 107, 108, 109, 110, 111, 112], .inl (some (.int z1v)), (wTN vr vd vn z1r.1 z1r.2.1 z1r.2.2.1 z1r.2.2.2.1 z1r.2.2.2.2.1 z1r.2.2.2.2.2.1 z1r.2.2.2.2.2.2.1 z1r.2.2.2.2.2.2.2.1 z1r.2.2.2.2.2.2.2.2.1 ve), z1r.2.2.2.2.2.2.2.2.2.1, z1r.2.2.2.2.2.2.2.2.2.2, rfl, rfl, Nat.le_of_ble_eq_true rfl, rfl, ⟨vr, vd, vn, vg, vhn, vhs, vhN, vhP, vt, vu, vp, vq, ve, (.inl z1v, z1r), rfl, rfl, hz1, rfl⟩, rfl, Or.inl ⟨_, rfl, rfl⟩⟩ ?_
    refine Rn.go 2 (pc' := 8) (lv' := [(0, .ref 0), (1, .ref 113)]) (st' := []) (es' := (wTO vr vd vn z1r.1 z1r.2.1 z1r.2.2.1 z1r.2.2.2.1 z1r.2.2.2.2.1 z1r.2.2.2.2.2.1 z1r.2.2.2.2.2.2.1 z1r.2.2.2.2.2.2.2.1 z1r.2.2.2.2.2.2.2.2.1 ve (vp_updL vo 0 z1v.toInt64))) (c' := (0 + z1r.2.2.2.2.2.2.2.2.2.1)) (s' := (0 + z1r.2.2.2.2.2.2.2.2.2.2)) rfl ?_
    refine Rn.go 2 (pc' := 15) (lv' := [(0, .ref 0), (1, .ref 113)]) (st' := [.int (0 : Int32)]) (es' := (wTO vr vd vn z1r.1 z1r.2.1 z1r.2.2.1 z1r.2.2.2.1 z1r.2.2.2.2.1 z1r.2.2.2.2.2.1 z1r.2.2.2.2.2.2.1 z1r.2.2.2.2.2.2.2.1 z1r.2.2.2.2.2.2.2.2.1 ve (vp_updL vo 0 z1v.toInt64))) (c' := (0 + z1r.2.2.2.2.2.2.2.2.2.1)) (s' := (0 + z1r.2.2.2.2.2.2.2.2.2.2)) rfl ?_
    obtain rfl := Option.some.inj hp
    exact Rn.fin rfl rfl rfl
  · dsimp only at hp
    by_cases h1 : z1e = "java/lang/IllegalStateException"
    · subst h1
      rw [if_pos rfl] at hp
      refine Rn.rel (pc' := 12) (lv' := [(0, .ref 0), (1, .ref 113)]) (st' := []) (es' := (wTO vr vd vn z1r.1 z1r.2.1 z1r.2.2.1 z1r.2.2.2.1 z1r.2.2.2.2.1 z1r.2.2.2.2.2.1 z1r.2.2.2.2.2.2.1 z1r.2.2.2.2.2.2.2.1 z1r.2.2.2.2.2.2.2.2.1 ve vo)) (dc := z1r.2.2.2.2.2.2.2.2.2.1) (ds := z1r.2.2.2.2.2.2.2.2.2.2) rfl ⟨0, [], _, [0, 1, 2, 3, 4, 5, 6, 7, 8, 9, 10, 11, 12, 13, 14, 15, 16, 17, 18, 19, 20, 21, 22, 23, 24, 25, 26, 27, 28, 29, 30, 31, 32, 33, 34, 35, 36, 37, 38, 39, 40, 41, 42, 43, 44, 45, 46, 47, 48, 49, 50, 51, 52, 53, 54, 55, 56, 57, 58, 59, 60, 61, 62, 63, 64, 65, 66, 67, 68, 69, 70, 71, 72, 73, 74, 75, 76, 77, 78, 79, 80, 81, 82, 83, 84, 85, 86, 87, 88, 89, 90, 91, 92, 93, 94, 95, 96, 97, 98, 99, 100, 101, 102, 103, 104, 105, 106, 107, 108, 109, 110, 111, 112], .inr "java/lang/IllegalStateException", (wTN vr vd vn z1r.1 z1r.2.1 z1r.2.2.1 z1r.2.2.2.1 z1r.2.2.2.2.1 z1r.2.2.2.2.2.1 z1r.2.2.2.2.2.2.1 z1r.2.2.2.2.2.2.2.1 z1r.2.2.2.2.2.2.2.2.1 ve), z1r.2.2.2.2.2.2.2.2.2.1, z1r.2.2.2.2.2.2.2.2.2.2, rfl, rfl, Nat.le_of_ble_eq_true rfl, rfl, ⟨vr, vd, vn, vg, vhn, vhs, vhN, vhP, vt, vu, vp, vq, ve, (.inr "java/lang/IllegalStateException", z1r), rfl, rfl, hz1, rfl⟩, rfl, Or.inr ⟨("java/lang/IllegalStateException", 12), List.mem_cons_self, rfl, rfl⟩⟩ ?_
      refine Rn.go 1 (pc' := 13) (lv' := [(0, .ref 0), (1, .ref 113)]) (st' := [.int (1 : Int32)]) (es' := (wTO vr vd vn z1r.1 z1r.2.1 z1r.2.2.1 z1r.2.2.2.1 z1r.2.2.2.2.1 z1r.2.2.2.2.2.1 z1r.2.2.2.2.2.2.1 z1r.2.2.2.2.2.2.2.1 z1r.2.2.2.2.2.2.2.2.1 ve vo)) (c' := (0 + z1r.2.2.2.2.2.2.2.2.2.1)) (s' := (0 + z1r.2.2.2.2.2.2.2.2.2.2)) rfl ?_
      obtain rfl := Option.some.inj hp
      exact Rn.fin rfl rfl rfl
    rw [if_neg h1] at hp
    cases hp
theorem qL_pass_1 : CtA yL_pass (.codeWith yL_pass cL_pass 3 (some .int) [(0, 8, 11, 13)]) 7 143 [] rL_pass_1 := CtA.ofH (by decide +kernel) (fun pc op h => kL_pass_1 _ (lkp_mem h)) oL_pass_1
/-! TelescopeNightLaw.waive(LTelescopeNight;I[J)I -/
def pL_waive_1 (x1 : Int32) (vn : NiS) (vg : PrS) (vhn : Int32) (vhs : Int32) (vhN : Nat → NiS) (vhP : Nat → PrS) (vt : ReS) (vu : ReS) (vp : PlS) (vq : DeS) (vo : Nat → Int64) : Option (Int32 × PrS × Int32 × Int32 × (Nat → NiS) × (Nat → PrS) × ReS × ReS × PlS × DeS × (Nat → Int64) × Nat × Nat) :=
  ob (pX8_waive x1 vn vg vhn vhs vhN vhP vt vu vp vq) (fun z1 => match z1 with
  | (.inl z1v, z1r) =>
    some ((0 : Int32), z1r.1, z1r.2.1, z1r.2.2.1, z1r.2.2.2.1, z1r.2.2.2.2.1, z1r.2.2.2.2.2.1, z1r.2.2.2.2.2.2.1, z1r.2.2.2.2.2.2.2.1, z1r.2.2.2.2.2.2.2.2.1, (vp_updL vo 0 z1v.toInt64), (0 + z1r.2.2.2.2.2.2.2.2.2.1), (0 + z1r.2.2.2.2.2.2.2.2.2.2))
  | (.inr z1e, z1r) =>
    if z1e = "java/lang/IndexOutOfBoundsException" then
      some ((1 : Int32), z1r.1, z1r.2.1, z1r.2.2.1, z1r.2.2.2.1, z1r.2.2.2.2.1, z1r.2.2.2.2.2.1, z1r.2.2.2.2.2.2.1, z1r.2.2.2.2.2.2.2.1, z1r.2.2.2.2.2.2.2.2.1, vo, (0 + z1r.2.2.2.2.2.2.2.2.2.1), (0 + z1r.2.2.2.2.2.2.2.2.2.2))
    else if z1e = "java/lang/IllegalStateException" then
      some ((2 : Int32), z1r.1, z1r.2.1, z1r.2.2.1, z1r.2.2.2.1, z1r.2.2.2.2.1, z1r.2.2.2.2.2.1, z1r.2.2.2.2.2.2.1, z1r.2.2.2.2.2.2.2.1, z1r.2.2.2.2.2.2.2.2.1, vo, (0 + z1r.2.2.2.2.2.2.2.2.2.1), (0 + z1r.2.2.2.2.2.2.2.2.2.2))
    else none)
def rL_waive_1 : List Value → List va_E → op_O → Prop := fun avs es r => ∃ (x1 : Int32) (vr : RdS) (vd : NiS) (vn : NiS) (vg : PrS) (vhn : Int32) (vhs : Int32) (vhN : Nat → NiS) (vhP : Nat → PrS) (vt : ReS) (vu : ReS) (vp : PlS) (vq : DeS) (ve : Int32) (vo : Nat → Int64) (z : Int32 × PrS × Int32 × Int32 × (Nat → NiS) × (Nat → PrS) × ReS × ReS × PlS × DeS × (Nat → Int64) × Nat × Nat), avs = [.ref 0, .int x1, .ref 113] ∧ es = (wTO vr vd vn vg vhn vhs vhN vhP vt vu vp vq ve vo) ∧ pL_waive_1 x1 vn vg vhn vhs vhN vhP vt vu vp vq vo = some z ∧ r = (.inl (some (.int z.1)), (wTO vr vd vn z.2.1 z.2.2.1 z.2.2.2.1 z.2.2.2.2.1 z.2.2.2.2.2.1 z.2.2.2.2.2.2.1 z.2.2.2.2.2.2.2.1 z.2.2.2.2.2.2.2.2.1 z.2.2.2.2.2.2.2.2.2.1 ve z.2.2.2.2.2.2.2.2.2.2.1), z.2.2.2.2.2.2.2.2.2.2.2.1, z.2.2.2.2.2.2.2.2.2.2.2.2)
def bL_waive_1 : List (Nat × (op_T ⊕ op_R)) := [(0, .inl (o_aload 1 2)), (1, .inl (o_push 2 (.int (0)))), (2, .inl (o_aload 3 0)), (3, .inl (o_iload 4 1)), (4, .inr (o_callVH [] [] 7 1 8 3 [("java/lang/IndexOutOfBoundsException", 13), ("java/lang/IllegalStateException", 16)] rX8_waive)), (7, .inl (o_i2l 8)), (8, .inl (o_last 9)), (9, .inl (o_goto 18)), (13, .inl (o_push 14 (.int (1)))), (14, .inl (o_iret)), (16, .inl (o_push 17 (.int (2)))), (17, .inl (o_iret)), (18, .inl (o_push 19 (.int (0)))), (19, .inl (o_iret))]
set_option maxRecDepth 100000 in
set_option maxHeartbeats 4000000 in
theorem kL_waive_1 : ∀ q ∈ bL_waive_1, ok2 8 144 4 cL_waive yL_waive.cls yL_waive.name (some .int) (.codeWith yL_waive cL_waive 4 (some .int) [(0, 9, 12, 28), (0, 9, 15, 13)]) (tableOf [(0, 9, 12, 28), (0, 9, 15, 13)]) [] q.1 q.2 := (al_c (s_aload_n (k := 2) (by decide +kernel)) (al_c (s_iconst (n := 0) (0) (by decide) (by decide +kernel)) (al_c (s_aload_n (k := 0) (by decide +kernel)) (al_c (s_iload_n (k := 1) (by decide +kernel)) (al_c (s_callVH (tb := tableOf [(0, 9, 12, 28), (0, 9, 15, 13)]) (by decide) (fun q hq => by rcases List.mem_cons.mp hq with rfl | hq; exact ⟨[], ⟨0, 9, 12, 28⟩, [⟨0, 9, 15, 13⟩], "java/lang/IndexOutOfBoundsException", rfl, (fun z hz => by cases hz), by decide, by decide, w_948, by decide, Or.inr ⟨3, rfl, by decide +kernel, rfl⟩⟩; rcases List.mem_singleton.mp hq with rfl; exact ⟨[⟨0, 9, 12, 28⟩], ⟨0, 9, 15, 13⟩, [], "java/lang/IllegalStateException", rfl, (fun z hz => by rcases List.mem_singleton.mp hz with rfl; exact ⟨by decide, "java/lang/IndexOutOfBoundsException", w_948, by decide⟩), by decide, by decide, w_701, by decide, Or.inr ⟨3, rfl, by decide +kernel, rfl⟩⟩) (y := yX8_waive) (bytes := cX8_waive) (maxL := 2) (ret' := (some .int)) (fr' := 7) (lo' := 123) (n := 1) (ml := []) (mlc := []) (ci := 8) (q9 := (RX8, TX8, 10)) qX8_waive w_1115 w_1116 w_1117 w_1 w_1118 ⟨by decide +kernel, by decide +kernel, by decide +kernel⟩ rfl rfl (by decide) (by decide) (by decide +kernel)) (al_c (s_i2l (by decide +kernel)) (al_c (s_last (by decide +kernel)) (al_c (s_goto (off := 9) 18 (by decide) (by decide +kernel)) (al_c (s_iconst (n := 1) (1) (by decide) (by decide +kernel)) (al_c (s_iret rfl (by decide +kernel)) (al_c (s_iconst (n := 2) (2) (by decide) (by decide +kernel)) (al_c (s_iret rfl (by decide +kernel)) (al_c (s_iconst (n := 0) (0) (by decide) (by decide +kernel)) (al_c (s_iret rfl (by decide +kernel)) al_n))))))))))))))
set_option maxRecDepth 100000 in
set_option maxHeartbeats 4000000 in
theorem oL_waive_1 : Of (lkp bL_waive_1) 4 rL_waive_1 := by
  intro avs es r h
  obtain ⟨x1, vr, vd, vn, vg, vhn, vhs, vhN, vhP, vt, vu, vp, vq, ve, vo, z, rfl, rfl, hp, rfl⟩ := h
  refine ⟨Nat.le_of_ble_eq_true rfl, ?_⟩
  unfold pL_waive_1 at hp
  refine Rn.go 4 (pc' := 4) (lv' := [(0, .ref 0), (1, .int x1), (2, .ref 113)]) (st' := [.int x1, .ref 0, .int (0 : Int32), .ref 113]) (es' := (wTO vr vd vn vg vhn vhs vhN vhP vt vu vp vq ve vo)) (c' := 0) (s' := 0) rfl ?_
  obtain ⟨z1, hz1, hp⟩ := ob_some hp
  obtain ⟨(z1v | z1e), z1r⟩ := z1
  · dsimp only at hp
    refine Rn.rel (pc' := 7) (lv' := [(0, .ref 0), (1, .int x1), (2, .ref 113)]) (st' := [.int z1v, .int (0 : Int32), .ref 113]) (es' := (wTO vr vd vn z1r.1 z1r.2.1 z1r.2.2.1 z1r.2.2.2.1 z1r.2.2.2.2.1 z1r.2.2.2.2.2.1 z1r.2.2.2.2.2.2.1 z1r.2.2.2.2.2.2.2.1 z1r.2.2.2.2.2.2.2.2.1 ve vo)) (dc := z1r.2.2.2.2.2.2.2.2.2.1) (ds := z1r.2.2.2.2.2.2.2.2.2.2) rfl ⟨0, [.int x1], _, [0, 1, 2, 3, 4, 5, 6, 7, 8, 9, 10, 11, 12, 13, 14, 15, 16, 17, 18, 19, 20, 21, 22, 23, 24, 25, 26, 27, 28, 29, 30, 31, 32, 33, 34, 35, 36, 37, 38, 39, 40, 41, 42, 43, 44, 45, 46, 47, 48, 49, 50, 51, 52, 53, 54, 55, 56, 57, 58, 59, 60, 61, 62, 63, 64, 65, 66, 67, 68, 69, 70, 71, 72, 73, 74, 75, 76, 77, 78, 79, 80, 81, 82, 83, 84, 85, 86, 87, 88, 89, 90, 91, 92, 93, 94, 95, 96, 97, 98, 99, 100, 101, 102, 103, 104, 105, 106, 107, 108, 109, 110, 111, 112], .inl (some (.int z1v)), (wTN vr vd vn z1r.1 z1r.2.1 z1r.2.2.1 z1r.2.2.2.1 z1r.2.2.2.2.1 z1r.2.2.2.2.2.1 z1r.2.2.2.2.2.2.1 z1r.2.2.2.2.2.2.2.1 z1r.2.2.2.2.2.2.2.2.1 ve), z1r.2.2.2.2.2.2.2.2.2.1, z1r.2.2.2.2.2.2.2.2.2.2, rfl, rfl, Nat.le_of_ble_eq_true rfl, rfl, ⟨x1, vr, vd, vn, vg, vhn, vhs, vhN, vhP, vt, vu, vp, vq, ve, (.inl z1v, z1r), rfl, rfl, hz1, rfl⟩, rfl, Or.inl ⟨_, rfl, rfl⟩⟩ ?_
    refine Rn.go 2 (pc' := 9) (lv' := [(0, .ref 0), (1, .int x1), (2, .ref 113)]) (st' := []) (es' := (wTO vr vd vn z1r.1 z1r.2.1 z1r.2.2.1 z1r.2.2.2.1 z1r.2.2.2.2.1 z1r.2.2.2.2.2.1 z1r.2.2.2.2.2.2.1 z1r.2.2.2.2.2.2.2.1 z1r.2.2.2.2.2.2.2.2.1 ve (vp_updL vo 0 z1v.toInt64))) (c' := (0 + z1r.2.2.2.2.2.2.2.2.2.1)) (s' := (0 + z1r.2.2.2.2.2.2.2.2.2.2)) rfl ?_
    refine Rn.go 2 (pc' := 19) (lv' := [(0, .ref 0), (1, .int x1), (2, .ref 113)]) (st' := [.int (0 : Int32)]) (es' := (wTO vr vd vn z1r.1 z1r.2.1 z1r.2.2.1 z1r.2.2.2.1 z1r.2.2.2.2.1 z1r.2.2.2.2.2.1 z1r.2.2.2.2.2.2.1 z1r.2.2.2.2.2.2.2.1 z1r.2.2.2.2.2.2.2.2.1 ve (vp_updL vo 0 z1v.toInt64))) (c' := (0 + z1r.2.2.2.2.2.2.2.2.2.1)) (s' := (0 + z1r.2.2.2.2.2.2.2.2.2.2)) rfl ?_
    obtain rfl := Option.some.inj hp
    exact Rn.fin rfl rfl rfl
  · dsimp only at hp
    by_cases h1 : z1e = "java/lang/IndexOutOfBoundsException"
    · subst h1
      rw [if_pos rfl] at hp
      refine Rn.rel (pc' := 13) (lv' := [(0, .ref 0), (1, .int x1), (2, .ref 113)]) (st' := []) (es' := (wTO vr vd vn z1r.1 z1r.2.1 z1r.2.2.1 z1r.2.2.2.1 z1r.2.2.2.2.1 z1r.2.2.2.2.2.1 z1r.2.2.2.2.2.2.1 z1r.2.2.2.2.2.2.2.1 z1r.2.2.2.2.2.2.2.2.1 ve vo)) (dc := z1r.2.2.2.2.2.2.2.2.2.1) (ds := z1r.2.2.2.2.2.2.2.2.2.2) rfl ⟨0, [.int x1], _, [0, 1, 2, 3, 4, 5, 6, 7, 8, 9, 10, 11, 12, 13, 14, 15, 16, 17, 18, 19, 20, 21, 22, 23, 24, 25, 26, 27, 28, 29, 30, 31, 32, 33, 34, 35, 36, 37, 38, 39, 40, 41, 42, 43, 44, 45, 46, 47, 48, 49, 50, 51, 52, 53, 54, 55, 56, 57, 58, 59, 60, 61, 62, 63, 64, 65, 66, 67, 68, 69, 70, 71, 72, 73, 74, 75, 76, 77, 78, 79, 80, 81, 82, 83, 84, 85, 86, 87, 88, 89, 90, 91, 92, 93, 94, 95, 96, 97, 98, 99, 100, 101, 102, 103, 104, 105, 106, 107, 108, 109, 110, 111, 112], .inr "java/lang/IndexOutOfBoundsException", (wTN vr vd vn z1r.1 z1r.2.1 z1r.2.2.1 z1r.2.2.2.1 z1r.2.2.2.2.1 z1r.2.2.2.2.2.1 z1r.2.2.2.2.2.2.1 z1r.2.2.2.2.2.2.2.1 z1r.2.2.2.2.2.2.2.2.1 ve), z1r.2.2.2.2.2.2.2.2.2.1, z1r.2.2.2.2.2.2.2.2.2.2, rfl, rfl, Nat.le_of_ble_eq_true rfl, rfl, ⟨x1, vr, vd, vn, vg, vhn, vhs, vhN, vhP, vt, vu, vp, vq, ve, (.inr "java/lang/IndexOutOfBoundsException", z1r), rfl, rfl, hz1, rfl⟩, rfl, Or.inr ⟨("java/lang/IndexOutOfBoundsException", 13), List.mem_cons_self, rfl, rfl⟩⟩ ?_
      refine Rn.go 1 (pc' := 14) (lv' := [(0, .ref 0), (1, .int x1), (2, .ref 113)]) (st' := [.int (1 : Int32)]) (es' := (wTO vr vd vn z1r.1 z1r.2.1 z1r.2.2.1 z1r.2.2.2.1 z1r.2.2.2.2.1 z1r.2.2.2.2.2.1 z1r.2.2.2.2.2.2.1 z1r.2.2.2.2.2.2.2.1 z1r.2.2.2.2.2.2.2.2.1 ve vo)) (c' := (0 + z1r.2.2.2.2.2.2.2.2.2.1)) (s' := (0 + z1r.2.2.2.2.2.2.2.2.2.2)) rfl ?_
      obtain rfl := Option.some.inj hp
      exact Rn.fin rfl rfl rfl
    rw [if_neg h1] at hp
    by_cases h2 : z1e = "java/lang/IllegalStateException"
    · subst h2
      rw [if_pos rfl] at hp
      refine Rn.rel (pc' := 16) (lv' := [(0, .ref 0), (1, .int x1), (2, .ref 113)]) (st' := []) (es' := (wTO vr vd vn z1r.1 z1r.2.1 z1r.2.2.1 z1r.2.2.2.1 z1r.2.2.2.2.1 z1r.2.2.2.2.2.1 z1r.2.2.2.2.2.2.1 z1r.2.2.2.2.2.2.2.1 z1r.2.2.2.2.2.2.2.2.1 ve vo)) (dc := z1r.2.2.2.2.2.2.2.2.2.1) (ds := z1r.2.2.2.2.2.2.2.2.2.2) rfl ⟨0, [.int x1], _, [0, 1, 2, 3, 4, 5, 6, 7, 8, 9, 10, 11, 12, 13, 14, 15, 16, 17, 18, 19, 20, 21, 22, 23, 24, 25, 26, 27, 28, 29, 30, 31, 32, 33, 34, 35, 36, 37, 38, 39, 40, 41, 42, 43, 44, 45, 46, 47, 48, 49, 50, 51, 52, 53, 54, 55, 56, 57, 58, 59, 60, 61, 62, 63, 64, 65, 66, 67, 68, 69, 70, 71, 72, 73, 74, 75, 76, 77, 78, 79, 80, 81, 82, 83, 84, 85, 86, 87, 88, 89, 90, 91, 92, 93, 94, 95, 96, 97, 98, 99, 100, 101, 102, 103, 104, 105, 106, 107, 108, 109, 110, 111, 112], .inr "java/lang/IllegalStateException", (wTN vr vd vn z1r.1 z1r.2.1 z1r.2.2.1 z1r.2.2.2.1 z1r.2.2.2.2.1 z1r.2.2.2.2.2.1 z1r.2.2.2.2.2.2.1 z1r.2.2.2.2.2.2.2.1 z1r.2.2.2.2.2.2.2.2.1 ve), z1r.2.2.2.2.2.2.2.2.2.1, z1r.2.2.2.2.2.2.2.2.2.2, rfl, rfl, Nat.le_of_ble_eq_true rfl, rfl, ⟨x1, vr, vd, vn, vg, vhn, vhs, vhN, vhP, vt, vu, vp, vq, ve, (.inr "java/lang/IllegalStateException", z1r), rfl, rfl, hz1, rfl⟩, rfl, Or.inr ⟨("java/lang/IllegalStateException", 16), (List.mem_cons_of_mem _ List.mem_cons_self), rfl, rfl⟩⟩ ?_
      refine Rn.go 1 (pc' := 17) (lv' := [(0, .ref 0), (1, .int x1), (2, .ref 113)]) (st' := [.int (2 : Int32)]) (es' := (wTO vr vd vn z1r.1 z1r.2.1 z1r.2.2.1 z1r.2.2.2.1 z1r.2.2.2.2.1 z1r.2.2.2.2.2.1 z1r.2.2.2.2.2.2.1 z1r.2.2.2.2.2.2.2.1 z1r.2.2.2.2.2.2.2.2.1 ve vo)) (c' := (0 + z1r.2.2.2.2.2.2.2.2.2.1)) (s' := (0 + z1r.2.2.2.2.2.2.2.2.2.2)) rfl ?_
      obtain rfl := Option.some.inj hp
      exact Rn.fin rfl rfl rfl
    rw [if_neg h2] at hp
    cases hp
theorem qL_waive_1 : CtA yL_waive (.codeWith yL_waive cL_waive 4 (some .int) [(0, 9, 12, 28), (0, 9, 15, 13)]) 8 144 [] rL_waive_1 := CtA.ofH (by decide +kernel) (fun pc op h => kL_waive_1 _ (lkp_mem h)) oL_waive_1
/-! TelescopeNightLaw.turnsOf(LTelescopeNight;I[J)I -/
def pL_turnsOf_1 (x1 : Int32) (vn : NiS) (vg : PrS) (vo : Nat → Int64) : Option (Int32 × (Nat → Int64) × Nat × Nat) :=
  ob (pX8_turnsOf x1 vn vg) (fun z1 => match z1 with
  | (.inl z1v, z1r) =>
    some ((0 : Int32), (vp_updL vo 0 z1v.toInt64), (0 + z1r.1), (0 + z1r.2))
  | (.inr z1e, z1r) =>
    if z1e = "java/lang/IndexOutOfBoundsException" then
      some ((1 : Int32), vo, (0 + z1r.1), (0 + z1r.2))
    else none)
def rL_turnsOf_1 : List Value → List va_E → op_O → Prop := fun avs es r => ∃ (x1 : Int32) (vr : RdS) (vd : NiS) (vn : NiS) (vg : PrS) (vhn : Int32) (vhs : Int32) (vhN : Nat → NiS) (vhP : Nat → PrS) (vt : ReS) (vu : ReS) (vp : PlS) (vq : DeS) (ve : Int32) (vo : Nat → Int64) (z : Int32 × (Nat → Int64) × Nat × Nat), avs = [.ref 0, .int x1, .ref 113] ∧ es = (wTO vr vd vn vg vhn vhs vhN vhP vt vu vp vq ve vo) ∧ pL_turnsOf_1 x1 vn vg vo = some z ∧ r = (.inl (some (.int z.1)), (wTO vr vd vn vg vhn vhs vhN vhP vt vu vp vq ve z.2.1), z.2.2.1, z.2.2.2)
def bL_turnsOf_1 : List (Nat × (op_T ⊕ op_R)) := [(0, .inl (o_aload 1 2)), (1, .inl (o_push 2 (.int (0)))), (2, .inl (o_aload 3 0)), (3, .inl (o_iload 4 1)), (4, .inr (o_callVH [] [] 7 1 8 3 [("java/lang/IndexOutOfBoundsException", 13)] rX8_turnsOf)), (7, .inl (o_i2l 8)), (8, .inl (o_last 9)), (9, .inl (o_goto 15)), (13, .inl (o_push 14 (.int (1)))), (14, .inl (o_iret)), (15, .inl (o_push 16 (.int (0)))), (16, .inl (o_iret))]
set_option maxRecDepth 100000 in
set_option maxHeartbeats 4000000 in
theorem kL_turnsOf_1 : ∀ q ∈ bL_turnsOf_1, ok2 8 132 4 cL_turnsOf yL_turnsOf.cls yL_turnsOf.name (some .int) (.codeWith yL_turnsOf cL_turnsOf 4 (some .int) [(0, 9, 12, 28)]) (tableOf [(0, 9, 12, 28)]) [] q.1 q.2 := (al_c (s_aload_n (k := 2) (by decide +kernel)) (al_c (s_iconst (n := 0) (0) (by decide) (by decide +kernel)) (al_c (s_aload_n (k := 0) (by decide +kernel)) (al_c (s_iload_n (k := 1) (by decide +kernel)) (al_c (s_callVH (tb := tableOf [(0, 9, 12, 28)]) (by decide) (fun q hq => by rcases List.mem_singleton.mp hq with rfl; exact ⟨[], ⟨0, 9, 12, 28⟩, [], "java/lang/IndexOutOfBoundsException", rfl, (fun z hz => by cases hz), by decide, by decide, w_948, by decide, Or.inr ⟨3, rfl, by decide +kernel, rfl⟩⟩) (y := yX8_turnsOf) (bytes := cX8_turnsOf) (maxL := 2) (ret' := (some .int)) (fr' := 7) (lo' := 111) (n := 1) (ml := []) (mlc := []) (ci := 8) (q9 := (RX8, TX8, 10)) qX8_turnsOf w_1128 w_1129 w_1130 w_1 w_1131 ⟨by decide +kernel, by decide +kernel, by decide +kernel⟩ rfl rfl (by decide) (by decide) (by decide +kernel)) (al_c (s_i2l (by decide +kernel)) (al_c (s_last (by decide +kernel)) (al_c (s_goto (off := 6) 15 (by decide) (by decide +kernel)) (al_c (s_iconst (n := 1) (1) (by decide) (by decide +kernel)) (al_c (s_iret rfl (by decide +kernel)) (al_c (s_iconst (n := 0) (0) (by decide) (by decide +kernel)) (al_c (s_iret rfl (by decide +kernel)) al_n))))))))))))
set_option maxRecDepth 100000 in
set_option maxHeartbeats 4000000 in
theorem oL_turnsOf_1 : Of (lkp bL_turnsOf_1) 4 rL_turnsOf_1 := by
  intro avs es r h
  obtain ⟨x1, vr, vd, vn, vg, vhn, vhs, vhN, vhP, vt, vu, vp, vq, ve, vo, z, rfl, rfl, hp, rfl⟩ := h
  refine ⟨Nat.le_of_ble_eq_true rfl, ?_⟩
  unfold pL_turnsOf_1 at hp
  refine Rn.go 4 (pc' := 4) (lv' := [(0, .ref 0), (1, .int x1), (2, .ref 113)]) (st' := [.int x1, .ref 0, .int (0 : Int32), .ref 113]) (es' := (wTO vr vd vn vg vhn vhs vhN vhP vt vu vp vq ve vo)) (c' := 0) (s' := 0) rfl ?_
  obtain ⟨z1, hz1, hp⟩ := ob_some hp
  obtain ⟨(z1v | z1e), z1r⟩ := z1
  · dsimp only at hp
    refine Rn.rel (pc' := 7) (lv' := [(0, .ref 0), (1, .int x1), (2, .ref 113)]) (st' := [.int z1v, .int (0 : Int32), .ref 113]) (es' := (wTO vr vd vn vg vhn vhs vhN vhP vt vu vp vq ve vo)) (dc := z1r.1) (ds := z1r.2) rfl ⟨0, [.int x1], _, [0, 1, 2, 3, 4, 5, 6, 7, 8, 9, 10, 11, 12, 13, 14, 15, 16, 17, 18, 19, 20, 21, 22, 23, 24, 25, 26, 27, 28, 29, 30, 31, 32, 33, 34, 35, 36, 37, 38, 39, 40, 41, 42, 43, 44, 45, 46, 47, 48, 49, 50, 51, 52, 53, 54, 55, 56, 57, 58, 59, 60, 61, 62, 63, 64, 65, 66, 67, 68, 69, 70, 71, 72, 73, 74, 75, 76, 77, 78, 79, 80, 81, 82, 83, 84, 85, 86, 87, 88, 89, 90, 91, 92, 93, 94, 95, 96, 97, 98, 99, 100, 101, 102, 103, 104, 105, 106, 107, 108, 109, 110, 111, 112], .inl (some (.int z1v)), (wTN vr vd vn vg vhn vhs vhN vhP vt vu vp vq ve), z1r.1, z1r.2, rfl, rfl, Nat.le_of_ble_eq_true rfl, rfl, ⟨x1, vr, vd, vn, vg, vhn, vhs, vhN, vhP, vt, vu, vp, vq, ve, (.inl z1v, z1r), rfl, rfl, hz1, rfl⟩, rfl, Or.inl ⟨_, rfl, rfl⟩⟩ ?_
    refine Rn.go 2 (pc' := 9) (lv' := [(0, .ref 0), (1, .int x1), (2, .ref 113)]) (st' := []) (es' := (wTO vr vd vn vg vhn vhs vhN vhP vt vu vp vq ve (vp_updL vo 0 z1v.toInt64))) (c' := (0 + z1r.1)) (s' := (0 + z1r.2)) rfl ?_
    refine Rn.go 2 (pc' := 16) (lv' := [(0, .ref 0), (1, .int x1), (2, .ref 113)]) (st' := [.int (0 : Int32)]) (es' := (wTO vr vd vn vg vhn vhs vhN vhP vt vu vp vq ve (vp_updL vo 0 z1v.toInt64))) (c' := (0 + z1r.1)) (s' := (0 + z1r.2)) rfl ?_
    obtain rfl := Option.some.inj hp
    exact Rn.fin rfl rfl rfl
  · dsimp only at hp
    by_cases h1 : z1e = "java/lang/IndexOutOfBoundsException"
    · subst h1
      rw [if_pos rfl] at hp
      refine Rn.rel (pc' := 13) (lv' := [(0, .ref 0), (1, .int x1), (2, .ref 113)]) (st' := []) (es' := (wTO vr vd vn vg vhn vhs vhN vhP vt vu vp vq ve vo)) (dc := z1r.1) (ds := z1r.2) rfl ⟨0, [.int x1], _, [0, 1, 2, 3, 4, 5, 6, 7, 8, 9, 10, 11, 12, 13, 14, 15, 16, 17, 18, 19, 20, 21, 22, 23, 24, 25, 26, 27, 28, 29, 30, 31, 32, 33, 34, 35, 36, 37, 38, 39, 40, 41, 42, 43, 44, 45, 46, 47, 48, 49, 50, 51, 52, 53, 54, 55, 56, 57, 58, 59, 60, 61, 62, 63, 64, 65, 66, 67, 68, 69, 70, 71, 72, 73, 74, 75, 76, 77, 78, 79, 80, 81, 82, 83, 84, 85, 86, 87, 88, 89, 90, 91, 92, 93, 94, 95, 96, 97, 98, 99, 100, 101, 102, 103, 104, 105, 106, 107, 108, 109, 110, 111, 112], .inr "java/lang/IndexOutOfBoundsException", (wTN vr vd vn vg vhn vhs vhN vhP vt vu vp vq ve), z1r.1, z1r.2, rfl, rfl, Nat.le_of_ble_eq_true rfl, rfl, ⟨x1, vr, vd, vn, vg, vhn, vhs, vhN, vhP, vt, vu, vp, vq, ve, (.inr "java/lang/IndexOutOfBoundsException", z1r), rfl, rfl, hz1, rfl⟩, rfl, Or.inr ⟨("java/lang/IndexOutOfBoundsException", 13), List.mem_cons_self, rfl, rfl⟩⟩ ?_
      refine Rn.go 1 (pc' := 14) (lv' := [(0, .ref 0), (1, .int x1), (2, .ref 113)]) (st' := [.int (1 : Int32)]) (es' := (wTO vr vd vn vg vhn vhs vhN vhP vt vu vp vq ve vo)) (c' := (0 + z1r.1)) (s' := (0 + z1r.2)) rfl ?_
      obtain rfl := Option.some.inj hp
      exact Rn.fin rfl rfl rfl
    rw [if_neg h1] at hp
    cases hp
theorem qL_turnsOf_1 : CtA yL_turnsOf (.codeWith yL_turnsOf cL_turnsOf 4 (some .int) [(0, 9, 12, 28)]) 8 132 [] rL_turnsOf_1 := CtA.ofH (by decide +kernel) (fun pc op h => kL_turnsOf_1 _ (lkp_mem h)) oL_turnsOf_1
/-! TelescopeNightLaw.exposures(LTelescopeNight;I[J)I -/
def pL_exposures_1 (x1 : Int32) (vn : NiS) (vg : PrS) (vo : Nat → Int64) : Option (Int32 × (Nat → Int64) × Nat × Nat) :=
  ob (pX8_exposures x1 vn vg) (fun z1 => match z1 with
  | (.inl z1v, z1r) =>
    some ((0 : Int32), (vp_updL vo 0 z1v.toInt64), (0 + z1r.1), (0 + z1r.2))
  | (.inr z1e, z1r) =>
    if z1e = "java/lang/IndexOutOfBoundsException" then
      some ((1 : Int32), vo, (0 + z1r.1), (0 + z1r.2))
    else none)
def rL_exposures_1 : List Value → List va_E → op_O → Prop := fun avs es r => ∃ (x1 : Int32) (vr : RdS) (vd : NiS) (vn : NiS) (vg : PrS) (vhn : Int32) (vhs : Int32) (vhN : Nat → NiS) (vhP : Nat → PrS) (vt : ReS) (vu : ReS) (vp : PlS) (vq : DeS) (ve : Int32) (vo : Nat → Int64) (z : Int32 × (Nat → Int64) × Nat × Nat), avs = [.ref 0, .int x1, .ref 113] ∧ es = (wTO vr vd vn vg vhn vhs vhN vhP vt vu vp vq ve vo) ∧ pL_exposures_1 x1 vn vg vo = some z ∧ r = (.inl (some (.int z.1)), (wTO vr vd vn vg vhn vhs vhN vhP vt vu vp vq ve z.2.1), z.2.2.1, z.2.2.2)
def bL_exposures_1 : List (Nat × (op_T ⊕ op_R)) := [(0, .inl (o_aload 1 2)), (1, .inl (o_push 2 (.int (0)))), (2, .inl (o_aload 3 0)), (3, .inl (o_iload 4 1)), (4, .inr (o_callVH [] [] 7 1 8 3 [("java/lang/IndexOutOfBoundsException", 13)] rX8_exposures)), (7, .inl (o_i2l 8)), (8, .inl (o_last 9)), (9, .inl (o_goto 15)), (13, .inl (o_push 14 (.int (1)))), (14, .inl (o_iret)), (15, .inl (o_push 16 (.int (0)))), (16, .inl (o_iret))]
set_option maxRecDepth 100000 in
set_option maxHeartbeats 4000000 in
theorem kL_exposures_1 : ∀ q ∈ bL_exposures_1, ok2 8 132 4 cL_exposures yL_exposures.cls yL_exposures.name (some .int) (.codeWith yL_exposures cL_exposures 4 (some .int) [(0, 9, 12, 28)]) (tableOf [(0, 9, 12, 28)]) [] q.1 q.2 := (al_c (s_aload_n (k := 2) (by decide +kernel)) (al_c (s_iconst (n := 0) (0) (by decide) (by decide +kernel)) (al_c (s_aload_n (k := 0) (by decide +kernel)) (al_c (s_iload_n (k := 1) (by decide +kernel)) (al_c (s_callVH (tb := tableOf [(0, 9, 12, 28)]) (by decide) (fun q hq => by rcases List.mem_singleton.mp hq with rfl; exact ⟨[], ⟨0, 9, 12, 28⟩, [], "java/lang/IndexOutOfBoundsException", rfl, (fun z hz => by cases hz), by decide, by decide, w_948, by decide, Or.inr ⟨3, rfl, by decide +kernel, rfl⟩⟩) (y := yX8_exposures) (bytes := cX8_exposures) (maxL := 2) (ret' := (some .int)) (fr' := 7) (lo' := 111) (n := 1) (ml := []) (mlc := []) (ci := 8) (q9 := (RX8, TX8, 10)) qX8_exposures w_1137 w_1138 w_1139 w_1 w_1140 ⟨by decide +kernel, by decide +kernel, by decide +kernel⟩ rfl rfl (by decide) (by decide) (by decide +kernel)) (al_c (s_i2l (by decide +kernel)) (al_c (s_last (by decide +kernel)) (al_c (s_goto (off := 6) 15 (by decide) (by decide +kernel)) (al_c (s_iconst (n := 1) (1) (by decide) (by decide +kernel)) (al_c (s_iret rfl (by decide +kernel)) (al_c (s_iconst (n := 0) (0) (by decide) (by decide +kernel)) (al_c (s_iret rfl (by decide +kernel)) al_n))))))))))))
set_option maxRecDepth 100000 in
set_option maxHeartbeats 4000000 in
theorem oL_exposures_1 : Of (lkp bL_exposures_1) 4 rL_exposures_1 := by
  intro avs es r h
  obtain ⟨x1, vr, vd, vn, vg, vhn, vhs, vhN, vhP, vt, vu, vp, vq, ve, vo, z, rfl, rfl, hp, rfl⟩ := h
  refine ⟨Nat.le_of_ble_eq_true rfl, ?_⟩
  unfold pL_exposures_1 at hp
  refine Rn.go 4 (pc' := 4) (lv' := [(0, .ref 0), (1, .int x1), (2, .ref 113)]) (st' := [.int x1, .ref 0, .int (0 : Int32), .ref 113]) (es' := (wTO vr vd vn vg vhn vhs vhN vhP vt vu vp vq ve vo)) (c' := 0) (s' := 0) rfl ?_
  obtain ⟨z1, hz1, hp⟩ := ob_some hp
  obtain ⟨(z1v | z1e), z1r⟩ := z1
  · dsimp only at hp
    refine Rn.rel (pc' := 7) (lv' := [(0, .ref 0), (1, .int x1), (2, .ref 113)]) (st' := [.int z1v, .int (0 : Int32), .ref 113]) (es' := (wTO vr vd vn vg vhn vhs vhN vhP vt vu vp vq ve vo)) (dc := z1r.1) (ds := z1r.2) rfl ⟨0, [.int x1], _, [0, 1, 2, 3, 4, 5, 6, 7, 8, 9, 10, 11, 12, 13, 14, 15, 16, 17, 18, 19, 20, 21, 22, 23, 24, 25, 26, 27, 28, 29, 30, 31, 32, 33, 34, 35, 36, 37, 38, 39, 40, 41, 42, 43, 44, 45, 46, 47, 48, 49, 50, 51, 52, 53, 54, 55, 56, 57, 58, 59, 60, 61, 62, 63, 64, 65, 66, 67, 68, 69, 70, 71, 72, 73, 74, 75, 76, 77, 78, 79, 80, 81, 82, 83, 84, 85, 86, 87, 88, 89, 90, 91, 92, 93, 94, 95, 96, 97, 98, 99, 100, 101, 102, 103, 104, 105, 106, 107, 108, 109, 110, 111, 112], .inl (some (.int z1v)), (wTN vr vd vn vg vhn vhs vhN vhP vt vu vp vq ve), z1r.1, z1r.2, rfl, rfl, Nat.le_of_ble_eq_true rfl, rfl, ⟨x1, vr, vd, vn, vg, vhn, vhs, vhN, vhP, vt, vu, vp, vq, ve, (.inl z1v, z1r), rfl, rfl, hz1, rfl⟩, rfl, Or.inl ⟨_, rfl, rfl⟩⟩ ?_
    refine Rn.go 2 (pc' := 9) (lv' := [(0, .ref 0), (1, .int x1), (2, .ref 113)]) (st' := []) (es' := (wTO vr vd vn vg vhn vhs vhN vhP vt vu vp vq ve (vp_updL vo 0 z1v.toInt64))) (c' := (0 + z1r.1)) (s' := (0 + z1r.2)) rfl ?_
    refine Rn.go 2 (pc' := 16) (lv' := [(0, .ref 0), (1, .int x1), (2, .ref 113)]) (st' := [.int (0 : Int32)]) (es' := (wTO vr vd vn vg vhn vhs vhN vhP vt vu vp vq ve (vp_updL vo 0 z1v.toInt64))) (c' := (0 + z1r.1)) (s' := (0 + z1r.2)) rfl ?_
    obtain rfl := Option.some.inj hp
    exact Rn.fin rfl rfl rfl
  · dsimp only at hp
    by_cases h1 : z1e = "java/lang/IndexOutOfBoundsException"
    · subst h1
      rw [if_pos rfl] at hp
      refine Rn.rel (pc' := 13) (lv' := [(0, .ref 0), (1, .int x1), (2, .ref 113)]) (st' := []) (es' := (wTO vr vd vn vg vhn vhs vhN vhP vt vu vp vq ve vo)) (dc := z1r.1) (ds := z1r.2) rfl ⟨0, [.int x1], _, [0, 1, 2, 3, 4, 5, 6, 7, 8, 9, 10, 11, 12, 13, 14, 15, 16, 17, 18, 19, 20, 21, 22, 23, 24, 25, 26, 27, 28, 29, 30, 31, 32, 33, 34, 35, 36, 37, 38, 39, 40, 41, 42, 43, 44, 45, 46, 47, 48, 49, 50, 51, 52, 53, 54, 55, 56, 57, 58, 59, 60, 61, 62, 63, 64, 65, 66, 67, 68, 69, 70, 71, 72, 73, 74, 75, 76, 77, 78, 79, 80, 81, 82, 83, 84, 85, 86, 87, 88, 89, 90, 91, 92, 93, 94, 95, 96, 97, 98, 99, 100, 101, 102, 103, 104, 105, 106, 107, 108, 109, 110, 111, 112], .inr "java/lang/IndexOutOfBoundsException", (wTN vr vd vn vg vhn vhs vhN vhP vt vu vp vq ve), z1r.1, z1r.2, rfl, rfl, Nat.le_of_ble_eq_true rfl, rfl, ⟨x1, vr, vd, vn, vg, vhn, vhs, vhN, vhP, vt, vu, vp, vq, ve, (.inr "java/lang/IndexOutOfBoundsException", z1r), rfl, rfl, hz1, rfl⟩, rfl, Or.inr ⟨("java/lang/IndexOutOfBoundsException", 13), List.mem_cons_self, rfl, rfl⟩⟩ ?_
      refine Rn.go 1 (pc' := 14) (lv' := [(0, .ref 0), (1, .int x1), (2, .ref 113)]) (st' := [.int (1 : Int32)]) (es' := (wTO vr vd vn vg vhn vhs vhN vhP vt vu vp vq ve vo)) (c' := (0 + z1r.1)) (s' := (0 + z1r.2)) rfl ?_
      obtain rfl := Option.some.inj hp
      exact Rn.fin rfl rfl rfl
    rw [if_neg h1] at hp
    cases hp
theorem qL_exposures_1 : CtA yL_exposures (.codeWith yL_exposures cL_exposures 4 (some .int) [(0, 9, 12, 28)]) 8 132 [] rL_exposures_1 := CtA.ofH (by decide +kernel) (fun pc op h => kL_exposures_1 _ (lkp_mem h)) oL_exposures_1
/-! TelescopeNightLaw.past(LTelescopeNight;II[J)I -/
def pL_past_1 (x1 : Int32) (x2 : Int32) (vn : NiS) (vg : PrS) (vo : Nat → Int64) : Option (Int32 × (Nat → Int64) × Nat × Nat) :=
  ob (pX8_past x1 x2 vn vg) (fun z1 => match z1 with
  | (.inl z1v, z1r) =>
    some ((0 : Int32), (vp_updL vo 0 z1v.toInt64), (0 + z1r.1), (0 + z1r.2))
  | (.inr z1e, z1r) =>
    if z1e = "java/lang/IndexOutOfBoundsException" then
      some ((1 : Int32), vo, (0 + z1r.1), (0 + z1r.2))
    else if z1e = "java/lang/IllegalArgumentException" then
      some ((2 : Int32), vo, (0 + z1r.1), (0 + z1r.2))
    else none)
def rL_past_1 : List Value → List va_E → op_O → Prop := fun avs es r => ∃ (x1 : Int32) (x2 : Int32) (vr : RdS) (vd : NiS) (vn : NiS) (vg : PrS) (vhn : Int32) (vhs : Int32) (vhN : Nat → NiS) (vhP : Nat → PrS) (vt : ReS) (vu : ReS) (vp : PlS) (vq : DeS) (ve : Int32) (vo : Nat → Int64) (z : Int32 × (Nat → Int64) × Nat × Nat), avs = [.ref 0, .int x1, .int x2, .ref 113] ∧ es = (wTO vr vd vn vg vhn vhs vhN vhP vt vu vp vq ve vo) ∧ pL_past_1 x1 x2 vn vg vo = some z ∧ r = (.inl (some (.int z.1)), (wTO vr vd vn vg vhn vhs vhN vhP vt vu vp vq ve z.2.1), z.2.2.1, z.2.2.2)
def bL_past_1 : List (Nat × (op_T ⊕ op_R)) := [(0, .inl (o_aload 1 3)), (1, .inl (o_push 2 (.int (0)))), (2, .inl (o_aload 3 0)), (3, .inl (o_iload 4 1)), (4, .inl (o_iload 5 2)), (5, .inr (o_callVH [] [] 8 2 8 4 [("java/lang/IndexOutOfBoundsException", 15), ("java/lang/IllegalArgumentException", 19)] rX8_past)), (8, .inl (o_i2l 9)), (9, .inl (o_last 10)), (10, .inl (o_goto 21)), (15, .inl (o_push 16 (.int (1)))), (16, .inl (o_iret)), (19, .inl (o_push 20 (.int (2)))), (20, .inl (o_iret)), (21, .inl (o_push 22 (.int (0)))), (22, .inl (o_iret))]
set_option maxRecDepth 100000 in
set_option maxHeartbeats 4000000 in
theorem kL_past_1 : ∀ q ∈ bL_past_1, ok2 8 133 5 cL_past yL_past.cls yL_past.name (some .int) (.codeWith yL_past cL_past 5 (some .int) [(0, 10, 13, 28), (0, 10, 17, 19)]) (tableOf [(0, 10, 13, 28), (0, 10, 17, 19)]) [] q.1 q.2 := (al_c (s_aload_n (k := 3) (by decide +kernel)) (al_c (s_iconst (n := 0) (0) (by decide) (by decide +kernel)) (al_c (s_aload_n (k := 0) (by decide +kernel)) (al_c (s_iload_n (k := 1) (by decide +kernel)) (al_c (s_iload_n (k := 2) (by decide +kernel)) (al_c (s_callVH (tb := tableOf [(0, 10, 13, 28), (0, 10, 17, 19)]) (by decide) (fun q hq => by rcases List.mem_cons.mp hq with rfl | hq; exact ⟨[], ⟨0, 10, 13, 28⟩, [⟨0, 10, 17, 19⟩], "java/lang/IndexOutOfBoundsException", rfl, (fun z hz => by cases hz), by decide, by decide, w_948, by decide, Or.inl ⟨by decide +kernel, rfl⟩⟩; rcases List.mem_singleton.mp hq with rfl; exact ⟨[⟨0, 10, 13, 28⟩], ⟨0, 10, 17, 19⟩, [], "java/lang/IllegalArgumentException", rfl, (fun z hz => by rcases List.mem_singleton.mp hz with rfl; exact ⟨by decide, "java/lang/IndexOutOfBoundsException", w_948, by decide⟩), by decide, by decide, w_786, by decide, Or.inl ⟨by decide +kernel, rfl⟩⟩) (y := yX8_past) (bytes := cX8_past) (maxL := 3) (ret' := (some .int)) (fr' := 7) (lo' := 111) (n := 2) (ml := []) (mlc := []) (ci := 8) (q9 := (RX8, TX8, 10)) qX8_past w_1144 w_1145 w_1146 w_1 w_1147 ⟨by decide +kernel, by decide +kernel, by decide +kernel⟩ rfl rfl (by decide) (by decide) (by decide +kernel)) (al_c (s_i2l (by decide +kernel)) (al_c (s_last (by decide +kernel)) (al_c (s_goto (off := 11) 21 (by decide) (by decide +kernel)) (al_c (s_iconst (n := 1) (1) (by decide) (by decide +kernel)) (al_c (s_iret rfl (by decide +kernel)) (al_c (s_iconst (n := 2) (2) (by decide) (by decide +kernel)) (al_c (s_iret rfl (by decide +kernel)) (al_c (s_iconst (n := 0) (0) (by decide) (by decide +kernel)) (al_c (s_iret rfl (by decide +kernel)) al_n)))))))))))))))
set_option maxRecDepth 100000 in
set_option maxHeartbeats 4000000 in
theorem oL_past_1 : Of (lkp bL_past_1) 5 rL_past_1 := by
  intro avs es r h
  obtain ⟨x1, x2, vr, vd, vn, vg, vhn, vhs, vhN, vhP, vt, vu, vp, vq, ve, vo, z, rfl, rfl, hp, rfl⟩ := h
  refine ⟨Nat.le_of_ble_eq_true rfl, ?_⟩
  unfold pL_past_1 at hp
  refine Rn.go 5 (pc' := 5) (lv' := [(0, .ref 0), (1, .int x1), (2, .int x2), (3, .ref 113)]) (st' := [.int x2, .int x1, .ref 0, .int (0 : Int32), .ref 113]) (es' := (wTO vr vd vn vg vhn vhs vhN vhP vt vu vp vq ve vo)) (c' := 0) (s' := 0) rfl ?_
  obtain ⟨z1, hz1, hp⟩ := ob_some hp
  obtain ⟨(z1v | z1e), z1r⟩ := z1
  · dsimp only at hp
    refine Rn.rel (pc' := 8) (lv' := [(0, .ref 0), (1, .int x1), (2, .int x2), (3, .ref 113)]) (st' := [.int z1v, .int (0 : Int32), .ref 113]) (es' := (wTO vr vd vn vg vhn vhs vhN vhP vt vu vp vq ve vo)) (dc := z1r.1) (ds := z1r.2) rfl ⟨0, [.int x1, .int x2], _, [0, 1, 2, 3, 4, 5, 6, 7, 8, 9, 10, 11, 12, 13, 14, 15, 16, 17, 18, 19, 20, 21, 22, 23, 24, 25, 26, 27, 28, 29, 30, 31, 32, 33, 34, 35, 36, 37, 38, 39, 40, 41, 42, 43, 44, 45, 46, 47, 48, 49, 50, 51, 52, 53, 54, 55, 56, 57, 58, 59, 60, 61, 62, 63, 64, 65, 66, 67, 68, 69, 70, 71, 72, 73, 74, 75, 76, 77, 78, 79, 80, 81, 82, 83, 84, 85, 86, 87, 88, 89, 90, 91, 92, 93, 94, 95, 96, 97, 98, 99, 100, 101, 102, 103, 104, 105, 106, 107, 108, 109, 110, 111, 112], .inl (some (.int z1v)), (wTN vr vd vn vg vhn vhs vhN vhP vt vu vp vq ve), z1r.1, z1r.2, rfl, rfl, Nat.le_of_ble_eq_true rfl, rfl, ⟨x1, x2, vr, vd, vn, vg, vhn, vhs, vhN, vhP, vt, vu, vp, vq, ve, (.inl z1v, z1r), rfl, rfl, hz1, rfl⟩, rfl, Or.inl ⟨_, rfl, rfl⟩⟩ ?_
    refine Rn.go 2 (pc' := 10) (lv' := [(0, .ref 0), (1, .int x1), (2, .int x2), (3, .ref 113)]) (st' := []) (es' := (wTO vr vd vn vg vhn vhs vhN vhP vt vu vp vq ve (vp_updL vo 0 z1v.toInt64))) (c' := (0 + z1r.1)) (s' := (0 + z1r.2)) rfl ?_
    refine Rn.go 2 (pc' := 22) (lv' := [(0, .ref 0), (1, .int x1), (2, .int x2), (3, .ref 113)]) (st' := [.int (0 : Int32)]) (es' := (wTO vr vd vn vg vhn vhs vhN vhP vt vu vp vq ve (vp_updL vo 0 z1v.toInt64))) (c' := (0 + z1r.1)) (s' := (0 + z1r.2)) rfl ?_
    obtain rfl := Option.some.inj hp
    exact Rn.fin rfl rfl rfl
  · dsimp only at hp
    by_cases h1 : z1e = "java/lang/IndexOutOfBoundsException"
    · subst h1
      rw [if_pos rfl] at hp
      refine Rn.rel (pc' := 15) (lv' := [(0, .ref 0), (1, .int x1), (2, .int x2), (3, .ref 113)]) (st' := []) (es' := (wTO vr vd vn vg vhn vhs vhN vhP vt vu vp vq ve vo)) (dc := z1r.1) (ds := z1r.2) rfl ⟨0, [.int x1, .int x2], _, [0, 1, 2, 3, 4, 5, 6, 7, 8, 9, 10, 11, 12, 13, 14, 15, 16, 17, 18, 19, 20, 21, 22, 23, 24, 25, 26, 27, 28, 29, 30, 31, 32, 33, 34, 35, 36, 37, 38, 39, 40, 41, 42, 43, 44, 45, 46, 47, 48, 49, 50, 51, 52, 53, 54, 55, 56, 57, 58, 59, 60, 61, 62, 63, 64, 65, 66, 67, 68, 69, 70, 71, 72, 73, 74, 75, 76, 77, 78, 79, 80, 81, 82, 83, 84, 85, 86, 87, 88, 89, 90, 91, 92, 93, 94, 95, 96, 97, 98, 99, 100, 101, 102, 103, 104, 105, 106, 107, 108, 109, 110, 111, 112], .inr "java/lang/IndexOutOfBoundsException", (wTN vr vd vn vg vhn vhs vhN vhP vt vu vp vq ve), z1r.1, z1r.2, rfl, rfl, Nat.le_of_ble_eq_true rfl, rfl, ⟨x1, x2, vr, vd, vn, vg, vhn, vhs, vhN, vhP, vt, vu, vp, vq, ve, (.inr "java/lang/IndexOutOfBoundsException", z1r), rfl, rfl, hz1, rfl⟩, rfl, Or.inr ⟨("java/lang/IndexOutOfBoundsException", 15), List.mem_cons_self, rfl, rfl⟩⟩ ?_
      refine Rn.go 1 (pc' := 16) (lv' := [(0, .ref 0), (1, .int x1), (2, .int x2), (3, .ref 113)]) (st' := [.int (1 : Int32)]) (es' := (wTO vr vd vn vg vhn vhs vhN vhP vt vu vp vq ve vo)) (c' := (0 + z1r.1)) (s' := (0 + z1r.2)) rfl ?_
      obtain rfl := Option.some.inj hp
      exact Rn.fin rfl rfl rfl
    rw [if_neg h1] at hp
    by_cases h2 : z1e = "java/lang/IllegalArgumentException"
    · subst h2
      rw [if_pos rfl] at hp
      refine Rn.rel (pc' := 19) (lv' := [(0, .ref 0), (1, .int x1), (2, .int x2), (3, .ref 113)]) (st' := []) (es' := (wTO vr vd vn vg vhn vhs vhN vhP vt vu vp vq ve vo)) (dc := z1r.1) (ds := z1r.2) rfl ⟨0, [.int x1, .int x2], _, [0, 1, 2, 3, 4, 5, 6, 7, 8, 9, 10, 11, 12, 13, 14, 15, 16, 17, 18, 19, 20, 21, 22, 23, 24, 25, 26, 27, 28, 29, 30, 31, 32, 33, 34, 35, 36, 37, 38, 39, 40, 41, 42, 43, 44, 45, 46, 47, 48, 49, 50, 51, 52, 53, 54, 55, 56, 57, 58, 59, 60, 61, 62, 63, 64, 65, 66, 67, 68, 69, 70, 71, 72, 73, 74, 75, 76, 77, 78, 79, 80, 81, 82, 83, 84, 85, 86, 87, 88, 89, 90, 91, 92, 93, 94, 95, 96, 97, 98, 99, 100, 101, 102, 103, 104, 105, 106, 107, 108, 109, 110, 111, 112], .inr "java/lang/IllegalArgumentException", (wTN vr vd vn vg vhn vhs vhN vhP vt vu vp vq ve), z1r.1, z1r.2, rfl, rfl, Nat.le_of_ble_eq_true rfl, rfl, ⟨x1, x2, vr, vd, vn, vg, vhn, vhs, vhN, vhP, vt, vu, vp, vq, ve, (.inr "java/lang/IllegalArgumentException", z1r), rfl, rfl, hz1, rfl⟩, rfl, Or.inr ⟨("java/lang/IllegalArgumentException", 19), (List.mem_cons_of_mem _ List.mem_cons_self), rfl, rfl⟩⟩ ?_
      refine Rn.go 1 (pc' := 20) (lv' := [(0, .ref 0), (1, .int x1), (2, .int x2), (3, .ref 113)]) (st' := [.int (2 : Int32)]) (es' := (wTO vr vd vn vg vhn vhs vhN vhP vt vu vp vq ve vo)) (c' := (0 + z1r.1)) (s' := (0 + z1r.2)) rfl ?_
      obtain rfl := Option.some.inj hp
      exact Rn.fin rfl rfl rfl
    rw [if_neg h2] at hp
    cases hp
theorem qL_past_1 : CtA yL_past (.codeWith yL_past cL_past 5 (some .int) [(0, 10, 13, 28), (0, 10, 17, 19)]) 8 133 [] rL_past_1 := CtA.ofH (by decide +kernel) (fun pc op h => kL_past_1 _ (lkp_mem h)) oL_past_1
/-! TelescopeNightLaw.planned(LTelescopeNight;I[J)I -/
def pL_planned_1 (x1 : Int32) (vn : NiS) (vg : PrS) (vt : ReS) (vu : ReS) (vp : PlS) (vo : Nat → Int64) : Option (Int32 × ReS × ReS × PlS × (Nat → Int64) × Nat × Nat) :=
  ob (pX8_planned x1 vn vg vt vu vp) (fun z1 => match z1 with
  | (.inl z1v, z1r) =>
    some ((0 : Int32), z1r.1, z1r.2.1, z1r.2.2.1, (vp_updL vo 0 z1v.toInt64), (0 + z1r.2.2.2.1), (0 + z1r.2.2.2.2))
  | (.inr z1e, z1r) =>
    if z1e = "java/lang/IndexOutOfBoundsException" then
      some ((1 : Int32), z1r.1, z1r.2.1, z1r.2.2.1, vo, (0 + z1r.2.2.2.1), (0 + z1r.2.2.2.2))
    else none)
def rL_planned_1 : List Value → List va_E → op_O → Prop := fun avs es r => ∃ (x1 : Int32) (vr : RdS) (vd : NiS) (vn : NiS) (vg : PrS) (vhn : Int32) (vhs : Int32) (vhN : Nat → NiS) (vhP : Nat → PrS) (vt : ReS) (vu : ReS) (vp : PlS) (vq : DeS) (ve : Int32) (vo : Nat → Int64) (z : Int32 × ReS × ReS × PlS × (Nat → Int64) × Nat × Nat), avs = [.ref 0, .int x1, .ref 113] ∧ es = (wTO vr vd vn vg vhn vhs vhN vhP vt vu vp vq ve vo) ∧ pL_planned_1 x1 vn vg vt vu vp vo = some z ∧ r = (.inl (some (.int z.1)), (wTO vr vd vn vg vhn vhs vhN vhP z.2.1 z.2.2.1 z.2.2.2.1 vq ve z.2.2.2.2.1), z.2.2.2.2.2.1, z.2.2.2.2.2.2)
def bL_planned_1 : List (Nat × (op_T ⊕ op_R)) := [(0, .inl (o_aload 1 2)), (1, .inl (o_push 2 (.int (0)))), (2, .inl (o_aload 3 0)), (3, .inl (o_iload 4 1)), (4, .inr (o_callVH [99, 100, 101, 103, 104, 105, 95, 96, 97] [99, 100, 101, 103, 104, 105, 95, 96, 97] 7 1 8 3 [("java/lang/IndexOutOfBoundsException", 13)] rX8_planned)), (7, .inl (o_i2l 8)), (8, .inl (o_last 9)), (9, .inl (o_goto 15)), (13, .inl (o_push 14 (.int (1)))), (14, .inl (o_iret)), (15, .inl (o_push 16 (.int (0)))), (16, .inl (o_iret))]
set_option maxRecDepth 100000 in
set_option maxHeartbeats 4000000 in
theorem kL_planned_1 : ∀ q ∈ bL_planned_1, ok2 9 188 4 cL_planned yL_planned.cls yL_planned.name (some .int) (.codeWith yL_planned cL_planned 4 (some .int) [(0, 9, 12, 28)]) (tableOf [(0, 9, 12, 28)]) [99, 100, 101, 103, 104, 105, 95, 96, 97] q.1 q.2 := (al_c (s_aload_n (k := 2) (by decide +kernel)) (al_c (s_iconst (n := 0) (0) (by decide) (by decide +kernel)) (al_c (s_aload_n (k := 0) (by decide +kernel)) (al_c (s_iload_n (k := 1) (by decide +kernel)) (al_c (s_callVH (tb := tableOf [(0, 9, 12, 28)]) (by decide) (fun q hq => by rcases List.mem_singleton.mp hq with rfl; exact ⟨[], ⟨0, 9, 12, 28⟩, [], "java/lang/IndexOutOfBoundsException", rfl, (fun z hz => by cases hz), by decide, by decide, w_948, by decide, Or.inr ⟨3, rfl, by decide +kernel, rfl⟩⟩) (y := yX8_planned) (bytes := cX8_planned) (maxL := 2) (ret' := (some .int)) (fr' := 8) (lo' := 167) (n := 1) (ml := [99, 100, 101, 103, 104, 105, 95, 96, 97]) (mlc := [99, 100, 101, 103, 104, 105, 95, 96, 97]) (ci := 8) (q9 := (RX8, TX8, 10)) qX8_planned w_1152 w_1153 w_1154 w_1 w_1155 ⟨by decide +kernel, by decide +kernel, by decide +kernel⟩ rfl rfl (by decide) (by decide) (by decide +kernel)) (al_c (s_i2l (by decide +kernel)) (al_c (s_last (by decide +kernel)) (al_c (s_goto (off := 6) 15 (by decide) (by decide +kernel)) (al_c (s_iconst (n := 1) (1) (by decide) (by decide +kernel)) (al_c (s_iret rfl (by decide +kernel)) (al_c (s_iconst (n := 0) (0) (by decide) (by decide +kernel)) (al_c (s_iret rfl (by decide +kernel)) al_n))))))))))))
set_option maxRecDepth 100000 in
set_option maxHeartbeats 4000000 in
theorem oL_planned_1 : Of (lkp bL_planned_1) 4 rL_planned_1 := by
  intro avs es r h
  obtain ⟨x1, vr, vd, vn, vg, vhn, vhs, vhN, vhP, vt, vu, vp, vq, ve, vo, z, rfl, rfl, hp, rfl⟩ := h
  refine ⟨Nat.le_of_ble_eq_true rfl, ?_⟩
  unfold pL_planned_1 at hp
  refine Rn.go 4 (pc' := 4) (lv' := [(0, .ref 0), (1, .int x1), (2, .ref 113)]) (st' := [.int x1, .ref 0, .int (0 : Int32), .ref 113]) (es' := (wTO vr vd vn vg vhn vhs vhN vhP vt vu vp vq ve vo)) (c' := 0) (s' := 0) rfl ?_
  obtain ⟨z1, hz1, hp⟩ := ob_some hp
  obtain ⟨(z1v | z1e), z1r⟩ := z1
  · dsimp only at hp
    refine Rn.rel (pc' := 7) (lv' := [(0, .ref 0), (1, .int x1), (2, .ref 113)]) (st' := [.int z1v, .int (0 : Int32), .ref 113]) (es' := (wTO vr vd vn vg vhn vhs vhN vhP z1r.1 z1r.2.1 z1r.2.2.1 vq ve vo)) (dc := z1r.2.2.2.1) (ds := z1r.2.2.2.2) rfl ⟨0, [.int x1], _, [0, 1, 2, 3, 4, 5, 6, 7, 8, 9, 10, 11, 12, 13, 14, 15, 16, 17, 18, 19, 20, 21, 22, 23, 24, 25, 26, 27, 28, 29, 30, 31, 32, 33, 34, 35, 36, 37, 38, 39, 40, 41, 42, 43, 44, 45, 46, 47, 48, 49, 50, 51, 52, 53, 54, 55, 56, 57, 58, 59, 60, 61, 62, 63, 64, 65, 66, 67, 68, 69, 70, 71, 72, 73, 74, 75, 76, 77, 78, 79, 80, 81, 82, 83, 84, 85, 86, 87, 88, 89, 90, 91, 92, 93, 94, 95, 96, 97, 98, 99, 100, 101, 102, 103, 104, 105, 106, 107, 108, 109, 110, 111, 112], .inl (some (.int z1v)), (wTN vr vd vn vg vhn vhs vhN vhP z1r.1 z1r.2.1 z1r.2.2.1 vq ve), z1r.2.2.2.1, z1r.2.2.2.2, rfl, rfl, Nat.le_of_ble_eq_true rfl, rfl, ⟨x1, vr, vd, vn, vg, vhn, vhs, vhN, vhP, vt, vu, vp, vq, ve, (.inl z1v, z1r), rfl, rfl, hz1, rfl⟩, rfl, Or.inl ⟨_, rfl, rfl⟩⟩ ?_
    refine Rn.go 2 (pc' := 9) (lv' := [(0, .ref 0), (1, .int x1), (2, .ref 113)]) (st' := []) (es' := (wTO vr vd vn vg vhn vhs vhN vhP z1r.1 z1r.2.1 z1r.2.2.1 vq ve (vp_updL vo 0 z1v.toInt64))) (c' := (0 + z1r.2.2.2.1)) (s' := (0 + z1r.2.2.2.2)) rfl ?_
    refine Rn.go 2 (pc' := 16) (lv' := [(0, .ref 0), (1, .int x1), (2, .ref 113)]) (st' := [.int (0 : Int32)]) (es' := (wTO vr vd vn vg vhn vhs vhN vhP z1r.1 z1r.2.1 z1r.2.2.1 vq ve (vp_updL vo 0 z1v.toInt64))) (c' := (0 + z1r.2.2.2.1)) (s' := (0 + z1r.2.2.2.2)) rfl ?_
    obtain rfl := Option.some.inj hp
    exact Rn.fin rfl rfl rfl
  · dsimp only at hp
    by_cases h1 : z1e = "java/lang/IndexOutOfBoundsException"
    · subst h1
      rw [if_pos rfl] at hp
      refine Rn.rel (pc' := 13) (lv' := [(0, .ref 0), (1, .int x1), (2, .ref 113)]) (st' := []) (es' := (wTO vr vd vn vg vhn vhs vhN vhP z1r.1 z1r.2.1 z1r.2.2.1 vq ve vo)) (dc := z1r.2.2.2.1) (ds := z1r.2.2.2.2) rfl ⟨0, [.int x1], _, [0, 1, 2, 3, 4, 5, 6, 7, 8, 9, 10, 11, 12, 13, 14, 15, 16, 17, 18, 19, 20, 21, 22, 23, 24, 25, 26, 27, 28, 29, 30, 31, 32, 33, 34, 35, 36, 37, 38, 39, 40, 41, 42, 43, 44, 45, 46, 47, 48, 49, 50, 51, 52, 53, 54, 55, 56, 57, 58, 59, 60, 61, 62, 63, 64, 65, 66, 67, 68, 69, 70, 71, 72, 73, 74, 75, 76, 77, 78, 79, 80, 81, 82, 83, 84, 85, 86, 87, 88, 89, 90, 91, 92, 93, 94, 95, 96, 97, 98, 99, 100, 101, 102, 103, 104, 105, 106, 107, 108, 109, 110, 111, 112], .inr "java/lang/IndexOutOfBoundsException", (wTN vr vd vn vg vhn vhs vhN vhP z1r.1 z1r.2.1 z1r.2.2.1 vq ve), z1r.2.2.2.1, z1r.2.2.2.2, rfl, rfl, Nat.le_of_ble_eq_true rfl, rfl, ⟨x1, vr, vd, vn, vg, vhn, vhs, vhN, vhP, vt, vu, vp, vq, ve, (.inr "java/lang/IndexOutOfBoundsException", z1r), rfl, rfl, hz1, rfl⟩, rfl, Or.inr ⟨("java/lang/IndexOutOfBoundsException", 13), List.mem_cons_self, rfl, rfl⟩⟩ ?_
      refine Rn.go 1 (pc' := 14) (lv' := [(0, .ref 0), (1, .int x1), (2, .ref 113)]) (st' := [.int (1 : Int32)]) (es' := (wTO vr vd vn vg vhn vhs vhN vhP z1r.1 z1r.2.1 z1r.2.2.1 vq ve vo)) (c' := (0 + z1r.2.2.2.1)) (s' := (0 + z1r.2.2.2.2)) rfl ?_
      obtain rfl := Option.some.inj hp
      exact Rn.fin rfl rfl rfl
    rw [if_neg h1] at hp
    cases hp
theorem qL_planned_1 : CtA yL_planned (.codeWith yL_planned cL_planned 4 (some .int) [(0, 9, 12, 28)]) 9 188 [99, 100, 101, 103, 104, 105, 95, 96, 97] rL_planned_1 := CtA.ofH (by decide +kernel) (fun pc op h => kL_planned_1 _ (lkp_mem h)) oL_planned_1
/-! TelescopeNightLaw.planValueWith(LTelescopeNight;II[J)I -/
def pL_planValueWith_1 (x1 : Int32) (x2 : Int32) (vn : NiS) (vg : PrS) (vt : ReS) (vu : ReS) (vp : PlS) (vo : Nat → Int64) : Option (Int32 × ReS × ReS × PlS × (Nat → Int64) × Nat × Nat) :=
  ob (pX8_planValueWith x1 x2 vn vg vt vu vp) (fun z1 => match z1 with
  | (.inl z1v, z1r) =>
    some ((0 : Int32), z1r.1, z1r.2.1, z1r.2.2.1, (vp_updL vo 0 z1v), (0 + z1r.2.2.2.1), (0 + z1r.2.2.2.2))
  | (.inr z1e, z1r) =>
    if z1e = "java/lang/IndexOutOfBoundsException" then
      some ((1 : Int32), z1r.1, z1r.2.1, z1r.2.2.1, vo, (0 + z1r.2.2.2.1), (0 + z1r.2.2.2.2))
    else if z1e = "java/util/NoSuchElementException" then
      some ((2 : Int32), z1r.1, z1r.2.1, z1r.2.2.1, vo, (0 + z1r.2.2.2.1), (0 + z1r.2.2.2.2))
    else none)
def rL_planValueWith_1 : List Value → List va_E → op_O → Prop := fun avs es r => ∃ (x1 : Int32) (x2 : Int32) (vr : RdS) (vd : NiS) (vn : NiS) (vg : PrS) (vhn : Int32) (vhs : Int32) (vhN : Nat → NiS) (vhP : Nat → PrS) (vt : ReS) (vu : ReS) (vp : PlS) (vq : DeS) (ve : Int32) (vo : Nat → Int64) (z : Int32 × ReS × ReS × PlS × (Nat → Int64) × Nat × Nat), avs = [.ref 0, .int x1, .int x2, .ref 113] ∧ es = (wTO vr vd vn vg vhn vhs vhN vhP vt vu vp vq ve vo) ∧ pL_planValueWith_1 x1 x2 vn vg vt vu vp vo = some z ∧ r = (.inl (some (.int z.1)), (wTO vr vd vn vg vhn vhs vhN vhP z.2.1 z.2.2.1 z.2.2.2.1 vq ve z.2.2.2.2.1), z.2.2.2.2.2.1, z.2.2.2.2.2.2)
def bL_planValueWith_1 : List (Nat × (op_T ⊕ op_R)) := [(0, .inl (o_aload 1 3)), (1, .inl (o_push 2 (.int (0)))), (2, .inl (o_aload 3 0)), (3, .inl (o_iload 4 1)), (4, .inl (o_iload 5 2)), (5, .inr (o_callVH [99, 100, 101, 103, 104, 105, 95, 96, 97] [99, 100, 101, 103, 104, 105, 95, 96, 97] 8 2 8 4 [("java/lang/IndexOutOfBoundsException", 14), ("java/util/NoSuchElementException", 18)] rX8_planValueWith)), (8, .inl (o_last 9)), (9, .inl (o_goto 20)), (14, .inl (o_push 15 (.int (1)))), (15, .inl (o_iret)), (18, .inl (o_push 19 (.int (2)))), (19, .inl (o_iret)), (20, .inl (o_push 21 (.int (0)))), (21, .inl (o_iret))]
set_option maxRecDepth 100000 in
set_option maxHeartbeats 4000000 in
theorem kL_planValueWith_1 : ∀ q ∈ bL_planValueWith_1, ok2 9 171 5 cL_planValueWith yL_planValueWith.cls yL_planValueWith.name (some .int) (.codeWith yL_planValueWith cL_planValueWith 5 (some .int) [(0, 9, 12, 28), (0, 9, 16, 45)]) (tableOf [(0, 9, 12, 28), (0, 9, 16, 45)]) [99, 100, 101, 103, 104, 105, 95, 96, 97] q.1 q.2 := (al_c (s_aload_n (k := 3) (by decide +kernel)) (al_c (s_iconst (n := 0) (0) (by decide) (by decide +kernel)) (al_c (s_aload_n (k := 0) (by decide +kernel)) (al_c (s_iload_n (k := 1) (by decide +kernel)) (al_c (s_iload_n (k := 2) (by decide +kernel)) (al_c (s_callVH (tb := tableOf [(0, 9, 12, 28), (0, 9, 16, 45)]) (by decide) (fun q hq => by rcases List.mem_cons.mp hq with rfl | hq; exact ⟨[], ⟨0, 9, 12, 28⟩, [⟨0, 9, 16, 45⟩], "java/lang/IndexOutOfBoundsException", rfl, (fun z hz => by cases hz), by decide, by decide, w_948, by decide, Or.inl ⟨by decide +kernel, rfl⟩⟩; rcases List.mem_singleton.mp hq with rfl; exact ⟨[⟨0, 9, 12, 28⟩], ⟨0, 9, 16, 45⟩, [], "java/util/NoSuchElementException", rfl, (fun z hz => by rcases List.mem_singleton.mp hz with rfl; exact ⟨by decide, "java/lang/IndexOutOfBoundsException", w_948, by decide⟩), by decide, by decide, w_1022, by decide, Or.inl ⟨by decide +kernel, rfl⟩⟩) (y := yX8_planValueWith) (bytes := cX8_planValueWith) (maxL := 5) (ret' := (some .long)) (fr' := 8) (lo' := 147) (n := 2) (ml := [99, 100, 101, 103, 104, 105, 95, 96, 97]) (mlc := [99, 100, 101, 103, 104, 105, 95, 96, 97]) (ci := 8) (q9 := (RX8, TX8, 10)) qX8_planValueWith w_1168 w_1169 w_1170 w_1 w_1171 ⟨by decide +kernel, by decide +kernel, by decide +kernel⟩ rfl rfl (by decide) (by decide) (by decide +kernel)) (al_c (s_last (by decide +kernel)) (al_c (s_goto (off := 11) 20 (by decide) (by decide +kernel)) (al_c (s_iconst (n := 1) (1) (by decide) (by decide +kernel)) (al_c (s_iret rfl (by decide +kernel)) (al_c (s_iconst (n := 2) (2) (by decide) (by decide +kernel)) (al_c (s_iret rfl (by decide +kernel)) (al_c (s_iconst (n := 0) (0) (by decide) (by decide +kernel)) (al_c (s_iret rfl (by decide +kernel)) al_n))))))))))))))
set_option maxRecDepth 100000 in
set_option maxHeartbeats 4000000 in
theorem oL_planValueWith_1 : Of (lkp bL_planValueWith_1) 5 rL_planValueWith_1 := by
  intro avs es r h
  obtain ⟨x1, x2, vr, vd, vn, vg, vhn, vhs, vhN, vhP, vt, vu, vp, vq, ve, vo, z, rfl, rfl, hp, rfl⟩ := h
  refine ⟨Nat.le_of_ble_eq_true rfl, ?_⟩
  unfold pL_planValueWith_1 at hp
  refine Rn.go 5 (pc' := 5) (lv' := [(0, .ref 0), (1, .int x1), (2, .int x2), (3, .ref 113)]) (st' := [.int x2, .int x1, .ref 0, .int (0 : Int32), .ref 113]) (es' := (wTO vr vd vn vg vhn vhs vhN vhP vt vu vp vq ve vo)) (c' := 0) (s' := 0) rfl ?_
  obtain ⟨z1, hz1, hp⟩ := ob_some hp
  obtain ⟨(z1v | z1e), z1r⟩ := z1
  · dsimp only at hp
    refine Rn.rel (pc' := 8) (lv' := [(0, .ref 0), (1, .int x1), (2, .int x2), (3, .ref 113)]) (st' := [.long z1v, .int (0 : Int32), .ref 113]) (es' := (wTO vr vd vn vg vhn vhs vhN vhP z1r.1 z1r.2.1 z1r.2.2.1 vq ve vo)) (dc := z1r.2.2.2.1) (ds := z1r.2.2.2.2) rfl ⟨0, [.int x1, .int x2], _, [0, 1, 2, 3, 4, 5, 6, 7, 8, 9, 10, 11, 12, 13, 14, 15, 16, 17, 18, 19, 20, 21, 22, 23, 24, 25, 26, 27, 28, 29, 30, 31, 32, 33, 34, 35, 36, 37, 38, 39, 40, 41, 42, 43, 44, 45, 46, 47, 48, 49, 50, 51, 52, 53, 54, 55, 56, 57, 58, 59, 60, 61, 62, 63, 64, 65, 66, 67, 68, 69, 70, 71, 72, 73, 74, 75, 76, 77, 78, 79, 80, 81, 82, 83, 84, 85, 86, 87, 88, 89, 90, 91, 92, 93, 94, 95, 96, 97, 98, 99, 100, 101, 102, 103, 104, 105, 106, 107, 108, 109, 110, 111, 112], .inl (some (.long z1v)), (wTN vr vd vn vg vhn vhs vhN vhP z1r.1 z1r.2.1 z1r.2.2.1 vq ve), z1r.2.2.2.1, z1r.2.2.2.2, rfl, rfl, Nat.le_of_ble_eq_true rfl, rfl, ⟨x1, x2, vr, vd, vn, vg, vhn, vhs, vhN, vhP, vt, vu, vp, vq, ve, (.inl z1v, z1r), rfl, rfl, hz1, rfl⟩, rfl, Or.inl ⟨_, rfl, rfl⟩⟩ ?_
    refine Rn.go 1 (pc' := 9) (lv' := [(0, .ref 0), (1, .int x1), (2, .int x2), (3, .ref 113)]) (st' := []) (es' := (wTO vr vd vn vg vhn vhs vhN vhP z1r.1 z1r.2.1 z1r.2.2.1 vq ve (vp_updL vo 0 z1v))) (c' := (0 + z1r.2.2.2.1)) (s' := (0 + z1r.2.2.2.2)) rfl ?_
    refine Rn.go 2 (pc' := 21) (lv' := [(0, .ref 0), (1, .int x1), (2, .int x2), (3, .ref 113)]) (st' := [.int (0 : Int32)]) (es' := (wTO vr vd vn vg vhn vhs vhN vhP z1r.1 z1r.2.1 z1r.2.2.1 vq ve (vp_updL vo 0 z1v))) (c' := (0 + z1r.2.2.2.1)) (s' := (0 + z1r.2.2.2.2)) rfl ?_
    obtain rfl := Option.some.inj hp
    exact Rn.fin rfl rfl rfl
  · dsimp only at hp
    by_cases h1 : z1e = "java/lang/IndexOutOfBoundsException"
    · subst h1
      rw [if_pos rfl] at hp
      refine Rn.rel (pc' := 14) (lv' := [(0, .ref 0), (1, .int x1), (2, .int x2), (3, .ref 113)]) (st' := []) (es' := (wTO vr vd vn vg vhn vhs vhN vhP z1r.1 z1r.2.1 z1r.2.2.1 vq ve vo)) (dc := z1r.2.2.2.1) (ds := z1r.2.2.2.2) rfl ⟨0, [.int x1, .int x2], _, [0, 1, 2, 3, 4, 5, 6, 7, 8, 9, 10, 11, 12, 13, 14, 15, 16, 17, 18, 19, 20, 21, 22, 23, 24, 25, 26, 27, 28, 29, 30, 31, 32, 33, 34, 35, 36, 37, 38, 39, 40, 41, 42, 43, 44, 45, 46, 47, 48, 49, 50, 51, 52, 53, 54, 55, 56, 57, 58, 59, 60, 61, 62, 63, 64, 65, 66, 67, 68, 69, 70, 71, 72, 73, 74, 75, 76, 77, 78, 79, 80, 81, 82, 83, 84, 85, 86, 87, 88, 89, 90, 91, 92, 93, 94, 95, 96, 97, 98, 99, 100, 101, 102, 103, 104, 105, 106, 107, 108, 109, 110, 111, 112], .inr "java/lang/IndexOutOfBoundsException", (wTN vr vd vn vg vhn vhs vhN vhP z1r.1 z1r.2.1 z1r.2.2.1 vq ve), z1r.2.2.2.1, z1r.2.2.2.2, rfl, rfl, Nat.le_of_ble_eq_true rfl, rfl, ⟨x1, x2, vr, vd, vn, vg, vhn, vhs, vhN, vhP, vt, vu, vp, vq, ve, (.inr "java/lang/IndexOutOfBoundsException", z1r), rfl, rfl, hz1, rfl⟩, rfl, Or.inr ⟨("java/lang/IndexOutOfBoundsException", 14), List.mem_cons_self, rfl, rfl⟩⟩ ?_
      refine Rn.go 1 (pc' := 15) (lv' := [(0, .ref 0), (1, .int x1), (2, .int x2), (3, .ref 113)]) (st' := [.int (1 : Int32)]) (es' := (wTO vr vd vn vg vhn vhs vhN vhP z1r.1 z1r.2.1 z1r.2.2.1 vq ve vo)) (c' := (0 + z1r.2.2.2.1)) (s' := (0 + z1r.2.2.2.2)) rfl ?_
      obtain rfl := Option.some.inj hp
      exact Rn.fin rfl rfl rfl
    rw [if_neg h1] at hp
    by_cases h2 : z1e = "java/util/NoSuchElementException"
    · subst h2
      rw [if_pos rfl] at hp
      refine Rn.rel (pc' := 18) (lv' := [(0, .ref 0), (1, .int x1), (2, .int x2), (3, .ref 113)]) (st' := []) (es' := (wTO vr vd vn vg vhn vhs vhN vhP z1r.1 z1r.2.1 z1r.2.2.1 vq ve vo)) (dc := z1r.2.2.2.1) (ds := z1r.2.2.2.2) rfl ⟨0, [.int x1, .int x2], _, [0, 1, 2, 3, 4, 5, 6, 7, 8, 9, 10, 11, 12, 13, 14, 15, 16, 17, 18, 19, 20, 21, 22, 23, 24, 25, 26, 27, 28, 29, 30, 31, 32, 33, 34, 35, 36, 37, 38, 39, 40, 41, 42, 43, 44, 45, 46, 47, 48, 49, 50, 51, 52, 53, 54, 55, 56, 57, 58, 59, 60, 61, 62, 63, 64, 65, 66, 67, 68, 69, 70, 71, 72, 73, 74, 75, 76, 77, 78, 79, 80, 81, 82, 83, 84, 85, 86, 87, 88, 89, 90, 91, 92, 93, 94, 95, 96, 97, 98, 99, 100, 101, 102, 103, 104, 105, 106, 107, 108, 109, 110, 111, 112], .inr "java/util/NoSuchElementException", (wTN vr vd vn vg vhn vhs vhN vhP z1r.1 z1r.2.1 z1r.2.2.1 vq ve), z1r.2.2.2.1, z1r.2.2.2.2, rfl, rfl, Nat.le_of_ble_eq_true rfl, rfl, ⟨x1, x2, vr, vd, vn, vg, vhn, vhs, vhN, vhP, vt, vu, vp, vq, ve, (.inr "java/util/NoSuchElementException", z1r), rfl, rfl, hz1, rfl⟩, rfl, Or.inr ⟨("java/util/NoSuchElementException", 18), (List.mem_cons_of_mem _ List.mem_cons_self), rfl, rfl⟩⟩ ?_
      refine Rn.go 1 (pc' := 19) (lv' := [(0, .ref 0), (1, .int x1), (2, .int x2), (3, .ref 113)]) (st' := [.int (2 : Int32)]) (es' := (wTO vr vd vn vg vhn vhs vhN vhP z1r.1 z1r.2.1 z1r.2.2.1 vq ve vo)) (c' := (0 + z1r.2.2.2.1)) (s' := (0 + z1r.2.2.2.2)) rfl ?_
      obtain rfl := Option.some.inj hp
      exact Rn.fin rfl rfl rfl
    rw [if_neg h2] at hp
    cases hp
theorem qL_planValueWith_1 : CtA yL_planValueWith (.codeWith yL_planValueWith cL_planValueWith 5 (some .int) [(0, 9, 12, 28), (0, 9, 16, 45)]) 9 171 [99, 100, 101, 103, 104, 105, 95, 96, 97] rL_planValueWith_1 := CtA.ofH (by decide +kernel) (fun pc op h => kL_planValueWith_1 _ (lkp_mem h)) oL_planValueWith_1
/-! TelescopeNightLaw.worth(LTelescopeNight;I[J)I -/
def pL_worth_1 (x1 : Int32) (vn : NiS) (vg : PrS) (vt : ReS) (vu : ReS) (vp : PlS) (vo : Nat → Int64) : Option (Int32 × ReS × ReS × PlS × (Nat → Int64) × Nat × Nat) :=
  ob (pX8_worth x1 vn vg vt vu vp) (fun z1 => match z1 with
  | (.inl z1v, z1r) =>
    some ((0 : Int32), z1r.1, z1r.2.1, z1r.2.2.1, (vp_updL vo 0 z1v), (0 + z1r.2.2.2.1), (0 + z1r.2.2.2.2))
  | (.inr z1e, z1r) =>
    if z1e = "java/lang/IndexOutOfBoundsException" then
      some ((1 : Int32), z1r.1, z1r.2.1, z1r.2.2.1, vo, (0 + z1r.2.2.2.1), (0 + z1r.2.2.2.2))
    else none)
def rL_worth_1 : List Value → List va_E → op_O → Prop := fun avs es r => ∃ (x1 : Int32) (vr : RdS) (vd : NiS) (vn : NiS) (vg : PrS) (vhn : Int32) (vhs : Int32) (vhN : Nat → NiS) (vhP : Nat → PrS) (vt : ReS) (vu : ReS) (vp : PlS) (vq : DeS) (ve : Int32) (vo : Nat → Int64) (z : Int32 × ReS × ReS × PlS × (Nat → Int64) × Nat × Nat), avs = [.ref 0, .int x1, .ref 113] ∧ es = (wTO vr vd vn vg vhn vhs vhN vhP vt vu vp vq ve vo) ∧ pL_worth_1 x1 vn vg vt vu vp vo = some z ∧ r = (.inl (some (.int z.1)), (wTO vr vd vn vg vhn vhs vhN vhP z.2.1 z.2.2.1 z.2.2.2.1 vq ve z.2.2.2.2.1), z.2.2.2.2.2.1, z.2.2.2.2.2.2)
def bL_worth_1 : List (Nat × (op_T ⊕ op_R)) := [(0, .inl (o_aload 1 2)), (1, .inl (o_push 2 (.int (0)))), (2, .inl (o_aload 3 0)), (3, .inl (o_iload 4 1)), (4, .inr (o_callVH [99, 100, 101, 103, 104, 105, 95, 96, 97] [99, 100, 101, 103, 104, 105, 95, 96, 97] 7 1 8 3 [("java/lang/IndexOutOfBoundsException", 12)] rX8_worth)), (7, .inl (o_last 8)), (8, .inl (o_goto 14)), (12, .inl (o_push 13 (.int (1)))), (13, .inl (o_iret)), (14, .inl (o_push 15 (.int (0)))), (15, .inl (o_iret))]
set_option maxRecDepth 100000 in
set_option maxHeartbeats 4000000 in
theorem kL_worth_1 : ∀ q ∈ bL_worth_1, ok2 8 188 4 cL_worth yL_worth.cls yL_worth.name (some .int) (.codeWith yL_worth cL_worth 4 (some .int) [(0, 8, 11, 28)]) (tableOf [(0, 8, 11, 28)]) [99, 100, 101, 103, 104, 105, 95, 96, 97] q.1 q.2 := (al_c (s_aload_n (k := 2) (by decide +kernel)) (al_c (s_iconst (n := 0) (0) (by decide) (by decide +kernel)) (al_c (s_aload_n (k := 0) (by decide +kernel)) (al_c (s_iload_n (k := 1) (by decide +kernel)) (al_c (s_callVH (tb := tableOf [(0, 8, 11, 28)]) (by decide) (fun q hq => by rcases List.mem_singleton.mp hq with rfl; exact ⟨[], ⟨0, 8, 11, 28⟩, [], "java/lang/IndexOutOfBoundsException", rfl, (fun z hz => by cases hz), by decide, by decide, w_948, by decide, Or.inr ⟨3, rfl, by decide +kernel, rfl⟩⟩) (y := yX8_worth) (bytes := cX8_worth) (maxL := 2) (ret' := (some .long)) (fr' := 7) (lo' := 167) (n := 1) (ml := [99, 100, 101, 103, 104, 105, 95, 96, 97]) (mlc := [99, 100, 101, 103, 104, 105, 95, 96, 97]) (ci := 8) (q9 := (RX8, TX8, 10)) qX8_worth w_1177 w_1178 w_1179 w_1 w_1180 ⟨by decide +kernel, by decide +kernel, by decide +kernel⟩ rfl rfl (by decide) (by decide) (by decide +kernel)) (al_c (s_last (by decide +kernel)) (al_c (s_goto (off := 6) 14 (by decide) (by decide +kernel)) (al_c (s_iconst (n := 1) (1) (by decide) (by decide +kernel)) (al_c (s_iret rfl (by decide +kernel)) (al_c (s_iconst (n := 0) (0) (by decide) (by decide +kernel)) (al_c (s_iret rfl (by decide +kernel)) al_n)))))))))))
set_option maxRecDepth 100000 in
set_option maxHeartbeats 4000000 in
theorem oL_worth_1 : Of (lkp bL_worth_1) 4 rL_worth_1 := by
  intro avs es r h
  obtain ⟨x1, vr, vd, vn, vg, vhn, vhs, vhN, vhP, vt, vu, vp, vq, ve, vo, z, rfl, rfl, hp, rfl⟩ := h
  refine ⟨Nat.le_of_ble_eq_true rfl, ?_⟩
  unfold pL_worth_1 at hp
  refine Rn.go 4 (pc' := 4) (lv' := [(0, .ref 0), (1, .int x1), (2, .ref 113)]) (st' := [.int x1, .ref 0, .int (0 : Int32), .ref 113]) (es' := (wTO vr vd vn vg vhn vhs vhN vhP vt vu vp vq ve vo)) (c' := 0) (s' := 0) rfl ?_
  obtain ⟨z1, hz1, hp⟩ := ob_some hp
  obtain ⟨(z1v | z1e), z1r⟩ := z1
  · dsimp only at hp
    refine Rn.rel (pc' := 7) (lv' := [(0, .ref 0), (1, .int x1), (2, .ref 113)]) (st' := [.long z1v, .int (0 : Int32), .ref 113]) (es' := (wTO vr vd vn vg vhn vhs vhN vhP z1r.1 z1r.2.1 z1r.2.2.1 vq ve vo)) (dc := z1r.2.2.2.1) (ds := z1r.2.2.2.2) rfl ⟨0, [.int x1], _, [0, 1, 2, 3, 4, 5, 6, 7, 8, 9, 10, 11, 12, 13, 14, 15, 16, 17, 18, 19, 20, 21, 22, 23, 24, 25, 26, 27, 28, 29, 30, 31, 32, 33, 34, 35, 36, 37, 38, 39, 40, 41, 42, 43, 44, 45, 46, 47, 48, 49, 50, 51, 52, 53, 54, 55, 56, 57, 58, 59, 60, 61, 62, 63, 64, 65, 66, 67, 68, 69, 70, 71, 72, 73, 74, 75, 76, 77, 78, 79, 80, 81, 82, 83, 84, 85, 86, 87, 88, 89, 90, 91, 92, 93, 94, 95, 96, 97, 98, 99, 100, 101, 102, 103, 104, 105, 106, 107, 108, 109, 110, 111, 112], .inl (some (.long z1v)), (wTN vr vd vn vg vhn vhs vhN vhP z1r.1 z1r.2.1 z1r.2.2.1 vq ve), z1r.2.2.2.1, z1r.2.2.2.2, rfl, rfl, Nat.le_of_ble_eq_true rfl, rfl, ⟨x1, vr, vd, vn, vg, vhn, vhs, vhN, vhP, vt, vu, vp, vq, ve, (.inl z1v, z1r), rfl, rfl, hz1, rfl⟩, rfl, Or.inl ⟨_, rfl, rfl⟩⟩ ?_
    refine Rn.go 1 (pc' := 8) (lv' := [(0, .ref 0), (1, .int x1), (2, .ref 113)]) (st' := []) (es' := (wTO vr vd vn vg vhn vhs vhN vhP z1r.1 z1r.2.1 z1r.2.2.1 vq ve (vp_updL vo 0 z1v))) (c' := (0 + z1r.2.2.2.1)) (s' := (0 + z1r.2.2.2.2)) rfl ?_
    refine Rn.go 2 (pc' := 15) (lv' := [(0, .ref 0), (1, .int x1), (2, .ref 113)]) (st' := [.int (0 : Int32)]) (es' := (wTO vr vd vn vg vhn vhs vhN vhP z1r.1 z1r.2.1 z1r.2.2.1 vq ve (vp_updL vo 0 z1v))) (c' := (0 + z1r.2.2.2.1)) (s' := (0 + z1r.2.2.2.2)) rfl ?_
    obtain rfl := Option.some.inj hp
    exact Rn.fin rfl rfl rfl
  · dsimp only at hp
    by_cases h1 : z1e = "java/lang/IndexOutOfBoundsException"
    · subst h1
      rw [if_pos rfl] at hp
      refine Rn.rel (pc' := 12) (lv' := [(0, .ref 0), (1, .int x1), (2, .ref 113)]) (st' := []) (es' := (wTO vr vd vn vg vhn vhs vhN vhP z1r.1 z1r.2.1 z1r.2.2.1 vq ve vo)) (dc := z1r.2.2.2.1) (ds := z1r.2.2.2.2) rfl ⟨0, [.int x1], _, [0, 1, 2, 3, 4, 5, 6, 7, 8, 9, 10, 11, 12, 13, 14, 15, 16, 17, 18, 19, 20, 21, 22, 23, 24, 25, 26, 27, 28, 29, 30, 31, 32, 33, 34, 35, 36, 37, 38, 39, 40, 41, 42, 43, 44, 45, 46, 47, 48, 49, 50, 51, 52, 53, 54, 55, 56, 57, 58, 59, 60, 61, 62, 63, 64, 65, 66, 67, 68, 69, 70, 71, 72, 73, 74, 75, 76, 77, 78, 79, 80, 81, 82, 83, 84, 85, 86, 87, 88, 89, 90, 91, 92, 93, 94, 95, 96, 97, 98, 99, 100, 101, 102, 103, 104, 105, 106, 107, 108, 109, 110, 111, 112], .inr "java/lang/IndexOutOfBoundsException", (wTN vr vd vn vg vhn vhs vhN vhP z1r.1 z1r.2.1 z1r.2.2.1 vq ve), z1r.2.2.2.1, z1r.2.2.2.2, rfl, rfl, Nat.le_of_ble_eq_true rfl, rfl, ⟨x1, vr, vd, vn, vg, vhn, vhs, vhN, vhP, vt, vu, vp, vq, ve, (.inr "java/lang/IndexOutOfBoundsException", z1r), rfl, rfl, hz1, rfl⟩, rfl, Or.inr ⟨("java/lang/IndexOutOfBoundsException", 12), List.mem_cons_self, rfl, rfl⟩⟩ ?_
      refine Rn.go 1 (pc' := 13) (lv' := [(0, .ref 0), (1, .int x1), (2, .ref 113)]) (st' := [.int (1 : Int32)]) (es' := (wTO vr vd vn vg vhn vhs vhN vhP z1r.1 z1r.2.1 z1r.2.2.1 vq ve vo)) (c' := (0 + z1r.2.2.2.1)) (s' := (0 + z1r.2.2.2.2)) rfl ?_
      obtain rfl := Option.some.inj hp
      exact Rn.fin rfl rfl rfl
    rw [if_neg h1] at hp
    cases hp
theorem qL_worth_1 : CtA yL_worth (.codeWith yL_worth cL_worth 4 (some .int) [(0, 8, 11, 28)]) 8 188 [99, 100, 101, 103, 104, 105, 95, 96, 97] rL_worth_1 := CtA.ofH (by decide +kernel) (fun pc op h => kL_worth_1 _ (lkp_mem h)) oL_worth_1
/-! TelescopeNightLaw.meanValueOf(LTelescopeNight;I[J)I -/
def pL_meanValueOf_1 (x1 : Int32) (vn : NiS) (vg : PrS) (vt : ReS) (vq : DeS) (vo : Nat → Int64) : Option (Int32 × ReS × DeS × (Nat → Int64) × Nat × Nat) :=
  ob (pX8_meanValueOf x1 vn vg vt vq) (fun z1 => match z1 with
  | (.inl z1v, z1r) =>
    some ((0 : Int32), z1r.1, z1r.2.1, (vp_updL vo 0 z1v), (0 + z1r.2.2.1), (0 + z1r.2.2.2))
  | (.inr z1e, z1r) =>
    if z1e = "java/lang/IndexOutOfBoundsException" then
      some ((1 : Int32), z1r.1, z1r.2.1, vo, (0 + z1r.2.2.1), (0 + z1r.2.2.2))
    else if z1e = "java/lang/IllegalStateException" then
      some ((2 : Int32), z1r.1, z1r.2.1, vo, (0 + z1r.2.2.1), (0 + z1r.2.2.2))
    else none)
def rL_meanValueOf_1 : List Value → List va_E → op_O → Prop := fun avs es r => ∃ (x1 : Int32) (vr : RdS) (vd : NiS) (vn : NiS) (vg : PrS) (vhn : Int32) (vhs : Int32) (vhN : Nat → NiS) (vhP : Nat → PrS) (vt : ReS) (vu : ReS) (vp : PlS) (vq : DeS) (ve : Int32) (vo : Nat → Int64) (z : Int32 × ReS × DeS × (Nat → Int64) × Nat × Nat), avs = [.ref 0, .int x1, .ref 113] ∧ es = (wTO vr vd vn vg vhn vhs vhN vhP vt vu vp vq ve vo) ∧ pL_meanValueOf_1 x1 vn vg vt vq vo = some z ∧ r = (.inl (some (.int z.1)), (wTO vr vd vn vg vhn vhs vhN vhP z.2.1 vu vp z.2.2.1 ve z.2.2.2.1), z.2.2.2.2.1, z.2.2.2.2.2)
def bL_meanValueOf_1 : List (Nat × (op_T ⊕ op_R)) := [(0, .inl (o_aload 1 2)), (1, .inl (o_push 2 (.int (0)))), (2, .inl (o_aload 3 0)), (3, .inl (o_iload 4 1)), (4, .inr (o_callVH [95, 96, 97, 108, 109, 111, 112] [95, 96, 97, 108, 109, 111, 112] 7 1 8 3 [("java/lang/IndexOutOfBoundsException", 12), ("java/lang/IllegalStateException", 15)] rX8_meanValueOf)), (7, .inl (o_last 8)), (8, .inl (o_goto 17)), (12, .inl (o_push 13 (.int (1)))), (13, .inl (o_iret)), (15, .inl (o_push 16 (.int (2)))), (16, .inl (o_iret)), (17, .inl (o_push 18 (.int (0)))), (18, .inl (o_iret))]
set_option maxRecDepth 100000 in
set_option maxHeartbeats 4000000 in
theorem kL_meanValueOf_1 : ∀ q ∈ bL_meanValueOf_1, ok2 8 189 4 cL_meanValueOf yL_meanValueOf.cls yL_meanValueOf.name (some .int) (.codeWith yL_meanValueOf cL_meanValueOf 4 (some .int) [(0, 8, 11, 28), (0, 8, 14, 13)]) (tableOf [(0, 8, 11, 28), (0, 8, 14, 13)]) [95, 96, 97, 108, 109, 111, 112] q.1 q.2 := (al_c (s_aload_n (k := 2) (by decide +kernel)) (al_c (s_iconst (n := 0) (0) (by decide) (by decide +kernel)) (al_c (s_aload_n (k := 0) (by decide +kernel)) (al_c (s_iload_n (k := 1) (by decide +kernel)) (al_c (s_callVH (tb := tableOf [(0, 8, 11, 28), (0, 8, 14, 13)]) (by decide) (fun q hq => by rcases List.mem_cons.mp hq with rfl | hq; exact ⟨[], ⟨0, 8, 11, 28⟩, [⟨0, 8, 14, 13⟩], "java/lang/IndexOutOfBoundsException", rfl, (fun z hz => by cases hz), by decide, by decide, w_948, by decide, Or.inr ⟨3, rfl, by decide +kernel, rfl⟩⟩; rcases List.mem_singleton.mp hq with rfl; exact ⟨[⟨0, 8, 11, 28⟩], ⟨0, 8, 14, 13⟩, [], "java/lang/IllegalStateException", rfl, (fun z hz => by rcases List.mem_singleton.mp hz with rfl; exact ⟨by decide, "java/lang/IndexOutOfBoundsException", w_948, by decide⟩), by decide, by decide, w_701, by decide, Or.inr ⟨3, rfl, by decide +kernel, rfl⟩⟩) (y := yX8_meanValueOf) (bytes := cX8_meanValueOf) (maxL := 2) (ret' := (some .long)) (fr' := 7) (lo' := 168) (n := 1) (ml := [95, 96, 97, 108, 109, 111, 112]) (mlc := [95, 96, 97, 108, 109, 111, 112]) (ci := 8) (q9 := (RX8, TX8, 10)) qX8_meanValueOf w_1184 w_1185 w_1186 w_1 w_1187 ⟨by decide +kernel, by decide +kernel, by decide +kernel⟩ rfl rfl (by decide) (by decide) (by decide +kernel)) (al_c (s_last (by decide +kernel)) (al_c (s_goto (off := 9) 17 (by decide) (by decide +kernel)) (al_c (s_iconst (n := 1) (1) (by decide) (by decide +kernel)) (al_c (s_iret rfl (by decide +kernel)) (al_c (s_iconst (n := 2) (2) (by decide) (by decide +kernel)) (al_c (s_iret rfl (by decide +kernel)) (al_c (s_iconst (n := 0) (0) (by decide) (by decide +kernel)) (al_c (s_iret rfl (by decide +kernel)) al_n)))))))))))))
set_option maxRecDepth 100000 in
set_option maxHeartbeats 4000000 in
theorem oL_meanValueOf_1 : Of (lkp bL_meanValueOf_1) 4 rL_meanValueOf_1 := by
  intro avs es r h
  obtain ⟨x1, vr, vd, vn, vg, vhn, vhs, vhN, vhP, vt, vu, vp, vq, ve, vo, z, rfl, rfl, hp, rfl⟩ := h
  refine ⟨Nat.le_of_ble_eq_true rfl, ?_⟩
  unfold pL_meanValueOf_1 at hp
  refine Rn.go 4 (pc' := 4) (lv' := [(0, .ref 0), (1, .int x1), (2, .ref 113)]) (st' := [.int x1, .ref 0, .int (0 : Int32), .ref 113]) (es' := (wTO vr vd vn vg vhn vhs vhN vhP vt vu vp vq ve vo)) (c' := 0) (s' := 0) rfl ?_
  obtain ⟨z1, hz1, hp⟩ := ob_some hp
  obtain ⟨(z1v | z1e), z1r⟩ := z1
  · dsimp only at hp
    refine Rn.rel (pc' := 7) (lv' := [(0, .ref 0), (1, .int x1), (2, .ref 113)]) (st' := [.long z1v, .int (0 : Int32), .ref 113]) (es' := (wTO vr vd vn vg vhn vhs vhN vhP z1r.1 vu vp z1r.2.1 ve vo)) (dc := z1r.2.2.1) (ds := z1r.2.2.2) rfl ⟨0, [.int x1], _, [0, 1, 2, 3, 4, 5, 6, 7, 8, 9, 10, 11, 12, 13, 14, 15, 16, 17, 18, 19, 20, 21, 22, 23, 24, 25, 26, 27, 28, 29, 30, 31, 32, 33, 34, 35, 36, 37, 38, 39, 40, 41, 42, 43, 44, 45, 46, 47, 48, 49, 50, 51, 52, 53, 54, 55, 56, 57, 58, 59, 60, 61, 62, 63, 64, 65, 66, 67, 68, 69, 70, 71, 72, 73, 74, 75, 76, 77, 78, 79, 80, 81, 82, 83, 84, 85, 86, 87, 88, 89, 90, 91, 92, 93, 94, 95, 96, 97, 98, 99, 100, 101, 102, 103, 104, 105, 106, 107, 108, 109, 110, 111, 112], .inl (some (.long z1v)), (wTN vr vd vn vg vhn vhs vhN vhP z1r.1 vu vp z1r.2.1 ve), z1r.2.2.1, z1r.2.2.2, rfl, rfl, Nat.le_of_ble_eq_true rfl, rfl, ⟨x1, vr, vd, vn, vg, vhn, vhs, vhN, vhP, vt, vu, vp, vq, ve, (.inl z1v, z1r), rfl, rfl, hz1, rfl⟩, rfl, Or.inl ⟨_, rfl, rfl⟩⟩ ?_
    refine Rn.go 1 (pc' := 8) (lv' := [(0, .ref 0), (1, .int x1), (2, .ref 113)]) (st' := []) (es' := (wTO vr vd vn vg vhn vhs vhN vhP z1r.1 vu vp z1r.2.1 ve (vp_updL vo 0 z1v))) (c' := (0 + z1r.2.2.1)) (s' := (0 + z1r.2.2.2)) rfl ?_
    refine Rn.go 2 (pc' := 18) (lv' := [(0, .ref 0), (1, .int x1), (2, .ref 113)]) (st' := [.int (0 : Int32)]) (es' := (wTO vr vd vn vg vhn vhs vhN vhP z1r.1 vu vp z1r.2.1 ve (vp_updL vo 0 z1v))) (c' := (0 + z1r.2.2.1)) (s' := (0 + z1r.2.2.2)) rfl ?_
    obtain rfl := Option.some.inj hp
    exact Rn.fin rfl rfl rfl
  · dsimp only at hp
    by_cases h1 : z1e = "java/lang/IndexOutOfBoundsException"
    · subst h1
      rw [if_pos rfl] at hp
      refine Rn.rel (pc' := 12) (lv' := [(0, .ref 0), (1, .int x1), (2, .ref 113)]) (st' := []) (es' := (wTO vr vd vn vg vhn vhs vhN vhP z1r.1 vu vp z1r.2.1 ve vo)) (dc := z1r.2.2.1) (ds := z1r.2.2.2) rfl ⟨0, [.int x1], _, [0, 1, 2, 3, 4, 5, 6, 7, 8, 9, 10, 11, 12, 13, 14, 15, 16, 17, 18, 19, 20, 21, 22, 23, 24, 25, 26, 27, 28, 29, 30, 31, 32, 33, 34, 35, 36, 37, 38, 39, 40, 41, 42, 43, 44, 45, 46, 47, 48, 49, 50, 51, 52, 53, 54, 55, 56, 57, 58, 59, 60, 61, 62, 63, 64, 65, 66, 67, 68, 69, 70, 71, 72, 73, 74, 75, 76, 77, 78, 79, 80, 81, 82, 83, 84, 85, 86, 87, 88, 89, 90, 91, 92, 93, 94, 95, 96, 97, 98, 99, 100, 101, 102, 103, 104, 105, 106, 107, 108, 109, 110, 111, 112], .inr "java/lang/IndexOutOfBoundsException", (wTN vr vd vn vg vhn vhs vhN vhP z1r.1 vu vp z1r.2.1 ve), z1r.2.2.1, z1r.2.2.2, rfl, rfl, Nat.le_of_ble_eq_true rfl, rfl, ⟨x1, vr, vd, vn, vg, vhn, vhs, vhN, vhP, vt, vu, vp, vq, ve, (.inr "java/lang/IndexOutOfBoundsException", z1r), rfl, rfl, hz1, rfl⟩, rfl, Or.inr ⟨("java/lang/IndexOutOfBoundsException", 12), List.mem_cons_self, rfl, rfl⟩⟩ ?_
      refine Rn.go 1 (pc' := 13) (lv' := [(0, .ref 0), (1, .int x1), (2, .ref 113)]) (st' := [.int (1 : Int32)]) (es' := (wTO vr vd vn vg vhn vhs vhN vhP z1r.1 vu vp z1r.2.1 ve vo)) (c' := (0 + z1r.2.2.1)) (s' := (0 + z1r.2.2.2)) rfl ?_
      obtain rfl := Option.some.inj hp
      exact Rn.fin rfl rfl rfl
    rw [if_neg h1] at hp
    by_cases h2 : z1e = "java/lang/IllegalStateException"
    · subst h2
      rw [if_pos rfl] at hp
      refine Rn.rel (pc' := 15) (lv' := [(0, .ref 0), (1, .int x1), (2, .ref 113)]) (st' := []) (es' := (wTO vr vd vn vg vhn vhs vhN vhP z1r.1 vu vp z1r.2.1 ve vo)) (dc := z1r.2.2.1) (ds := z1r.2.2.2) rfl ⟨0, [.int x1], _, [0, 1, 2, 3, 4, 5, 6, 7, 8, 9, 10, 11, 12, 13, 14, 15, 16, 17, 18, 19, 20, 21, 22, 23, 24, 25, 26, 27, 28, 29, 30, 31, 32, 33, 34, 35, 36, 37, 38, 39, 40, 41, 42, 43, 44, 45, 46, 47, 48, 49, 50, 51, 52, 53, 54, 55, 56, 57, 58, 59, 60, 61, 62, 63, 64, 65, 66, 67, 68, 69, 70, 71, 72, 73, 74, 75, 76, 77, 78, 79, 80, 81, 82, 83, 84, 85, 86, 87, 88, 89, 90, 91, 92, 93, 94, 95, 96, 97, 98, 99, 100, 101, 102, 103, 104, 105, 106, 107, 108, 109, 110, 111, 112], .inr "java/lang/IllegalStateException", (wTN vr vd vn vg vhn vhs vhN vhP z1r.1 vu vp z1r.2.1 ve), z1r.2.2.1, z1r.2.2.2, rfl, rfl, Nat.le_of_ble_eq_true rfl, rfl, ⟨x1, vr, vd, vn, vg, vhn, vhs, vhN, vhP, vt, vu, vp, vq, ve, (.inr "java/lang/IllegalStateException", z1r), rfl, rfl, hz1, rfl⟩, rfl, Or.inr ⟨("java/lang/IllegalStateException", 15), (List.mem_cons_of_mem _ List.mem_cons_self), rfl, rfl⟩⟩ ?_
      refine Rn.go 1 (pc' := 16) (lv' := [(0, .ref 0), (1, .int x1), (2, .ref 113)]) (st' := [.int (2 : Int32)]) (es' := (wTO vr vd vn vg vhn vhs vhN vhP z1r.1 vu vp z1r.2.1 ve vo)) (c' := (0 + z1r.2.2.1)) (s' := (0 + z1r.2.2.2)) rfl ?_
      obtain rfl := Option.some.inj hp
      exact Rn.fin rfl rfl rfl
    rw [if_neg h2] at hp
    cases hp
theorem qL_meanValueOf_1 : CtA yL_meanValueOf (.codeWith yL_meanValueOf cL_meanValueOf 4 (some .int) [(0, 8, 11, 28), (0, 8, 14, 13)]) 8 189 [95, 96, 97, 108, 109, 111, 112] rL_meanValueOf_1 := CtA.ofH (by decide +kernel) (fun pc op h => kL_meanValueOf_1 _ (lkp_mem h)) oL_meanValueOf_1
/-! TelescopeNightLaw.decision(LTelescopeNight;[J)I -/
def pL_decision_1 (vn : NiS) (vg : PrS) (vt : ReS) (vq : DeS) (vo : Nat → Int64) : Option (Int32 × ReS × DeS × (Nat → Int64) × Nat × Nat) :=
  ob (pX8_decision vn vg vt vq) (fun z1 => match z1 with
  | (.inl z1v, z1r) =>
    some ((0 : Int32), z1r.1, z1r.2.1, (vp_updL vo 0 z1v.toInt64), (0 + z1r.2.2.1), (0 + z1r.2.2.2))
  | (.inr z1e, z1r) =>
    if z1e = "java/lang/IllegalStateException" then
      some ((1 : Int32), z1r.1, z1r.2.1, vo, (0 + z1r.2.2.1), (0 + z1r.2.2.2))
    else none)
def rL_decision_1 : List Value → List va_E → op_O → Prop := fun avs es r => ∃ (vr : RdS) (vd : NiS) (vn : NiS) (vg : PrS) (vhn : Int32) (vhs : Int32) (vhN : Nat → NiS) (vhP : Nat → PrS) (vt : ReS) (vu : ReS) (vp : PlS) (vq : DeS) (ve : Int32) (vo : Nat → Int64) (z : Int32 × ReS × DeS × (Nat → Int64) × Nat × Nat), avs = [.ref 0, .ref 113] ∧ es = (wTO vr vd vn vg vhn vhs vhN vhP vt vu vp vq ve vo) ∧ pL_decision_1 vn vg vt vq vo = some z ∧ r = (.inl (some (.int z.1)), (wTO vr vd vn vg vhn vhs vhN vhP z.2.1 vu vp z.2.2.1 ve z.2.2.2.1), z.2.2.2.2.1, z.2.2.2.2.2)
def bL_decision_1 : List (Nat × (op_T ⊕ op_R)) := [(0, .inl (o_aload 1 1)), (1, .inl (o_push 2 (.int (0)))), (2, .inl (o_aload 3 0)), (3, .inr (o_callVH [95, 96, 97, 108, 109, 111, 112] [95, 96, 97, 108, 109, 111, 112] 6 0 8 2 [("java/lang/IllegalStateException", 12)] rX8_decision)), (6, .inl (o_i2l 7)), (7, .inl (o_last 8)), (8, .inl (o_goto 14)), (12, .inl (o_push 13 (.int (1)))), (13, .inl (o_iret)), (14, .inl (o_push 15 (.int (0)))), (15, .inl (o_iret))]
set_option maxRecDepth 100000 in
set_option maxHeartbeats 4000000 in
theorem kL_decision_1 : ∀ q ∈ bL_decision_1, ok2 8 187 3 cL_decision yL_decision.cls yL_decision.name (some .int) (.codeWith yL_decision cL_decision 3 (some .int) [(0, 8, 11, 13)]) (tableOf [(0, 8, 11, 13)]) [95, 96, 97, 108, 109, 111, 112] q.1 q.2 := (al_c (s_aload_n (k := 1) (by decide +kernel)) (al_c (s_iconst (n := 0) (0) (by decide) (by decide +kernel)) (al_c (s_aload_n (k := 0) (by decide +kernel)) (al_c (s_callVH (tb := tableOf [(0, 8, 11, 13)]) (by decide) (fun q hq => by rcases List.mem_singleton.mp hq with rfl; exact ⟨[], ⟨0, 8, 11, 13⟩, [], "java/lang/IllegalStateException", rfl, (fun z hz => by cases hz), by decide, by decide, w_701, by decide, Or.inr ⟨2, rfl, by decide +kernel, rfl⟩⟩) (y := yX8_decision) (bytes := cX8_decision) (maxL := 1) (ret' := (some .int)) (fr' := 7) (lo' := 167) (n := 0) (ml := [95, 96, 97, 108, 109, 111, 112]) (mlc := [95, 96, 97, 108, 109, 111, 112]) (ci := 8) (q9 := (RX8, TX8, 10)) qX8_decision w_1195 w_1196 w_1197 w_1 w_1198 ⟨by decide +kernel, by decide +kernel, by decide +kernel⟩ rfl rfl (by decide) (by decide) (by decide +kernel)) (al_c (s_i2l (by decide +kernel)) (al_c (s_last (by decide +kernel)) (al_c (s_goto (off := 6) 14 (by decide) (by decide +kernel)) (al_c (s_iconst (n := 1) (1) (by decide) (by decide +kernel)) (al_c (s_iret rfl (by decide +kernel)) (al_c (s_iconst (n := 0) (0) (by decide) (by decide +kernel)) (al_c (s_iret rfl (by decide +kernel)) al_n)))))))))))
set_option maxRecDepth 100000 in
set_option maxHeartbeats 4000000 in
theorem oL_decision_1 : Of (lkp bL_decision_1) 3 rL_decision_1 := by
  intro avs es r h
  obtain ⟨vr, vd, vn, vg, vhn, vhs, vhN, vhP, vt, vu, vp, vq, ve, vo, z, rfl, rfl, hp, rfl⟩ := h
  refine ⟨Nat.le_of_ble_eq_true rfl, ?_⟩
  unfold pL_decision_1 at hp
  refine Rn.go 3 (pc' := 3) (lv' := [(0, .ref 0), (1, .ref 113)]) (st' := [.ref 0, .int (0 : Int32), .ref 113]) (es' := (wTO vr vd vn vg vhn vhs vhN vhP vt vu vp vq ve vo)) (c' := 0) (s' := 0) rfl ?_
  obtain ⟨z1, hz1, hp⟩ := ob_some hp
  obtain ⟨(z1v | z1e), z1r⟩ := z1
  · dsimp only at hp
    refine Rn.rel (pc' := 6) (lv' := [(0, .ref 0), (1, .ref 113)]) (st' := [.int z1v, .int (0 : Int32), .ref 113]) (es' := (wTO vr vd vn vg vhn vhs vhN vhP z1r.1 vu vp z1r.2.1 ve vo)) (dc := z1r.2.2.1) (ds := z1r.2.2.2) rfl ⟨0, [], _, [0, 1, 2, 3, 4, 5, 6, 7, 8, 9, 10, 11, 12, 13, 14, 15, 16, 17, 18, 19, 20, 21, 22, 23, 24, 25, 26, 27, 28, 29, 30, 31, 32, 33, 34, 35, 36, 37, 38, 39, 40, 41, 42, 43, 44, 45, 46, 47, 48, 49, 50, 51, 52, 53, 54, 55, 56, 57, 58, 59, 60, 61, 62, 63, 64, 65, 66, 67, 68, 69, 70, 71, 72, 73, 74, 75, 76, 77, 78, 79, 80, 81, 82, 83, 84, 85, 86, 87, 88, 89, 90, 91, 92, 93, 94, 95, 96, 97, 98, 99, 100, 101, 102, 103, 104, 105, 106, 107, 108, 109, 110, 111, 112], .inl (some (.int z1v)), (wTN vr vd vn vg vhn vhs vhN vhP z1r.1 vu vp z1r.2.1 ve), z1r.2.2.1, z1r.2.2.2, rfl, rfl, Nat.le_of_ble_eq_true rfl, rfl, ⟨vr, vd, vn, vg, vhn, vhs, vhN, vhP, vt, vu, vp, vq, ve, (.inl z1v, z1r), rfl, rfl, hz1, rfl⟩, rfl, Or.inl ⟨_, rfl, rfl⟩⟩ ?_
    refine Rn.go 2 (pc' := 8) (lv' := [(0, .ref 0), (1, .ref 113)]) (st' := []) (es' := (wTO vr vd vn vg vhn vhs vhN vhP z1r.1 vu vp z1r.2.1 ve (vp_updL vo 0 z1v.toInt64))) (c' := (0 + z1r.2.2.1)) (s' := (0 + z1r.2.2.2)) rfl ?_
    refine Rn.go 2 (pc' := 15) (lv' := [(0, .ref 0), (1, .ref 113)]) (st' := [.int (0 : Int32)]) (es' := (wTO vr vd vn vg vhn vhs vhN vhP z1r.1 vu vp z1r.2.1 ve (vp_updL vo 0 z1v.toInt64))) (c' := (0 + z1r.2.2.1)) (s' := (0 + z1r.2.2.2)) rfl ?_
    obtain rfl := Option.some.inj hp
    exact Rn.fin rfl rfl rfl
  · dsimp only at hp
    by_cases h1 : z1e = "java/lang/IllegalStateException"
    · subst h1
      rw [if_pos rfl] at hp
      refine Rn.rel (pc' := 12) (lv' := [(0, .ref 0), (1, .ref 113)]) (st' := []) (es' := (wTO vr vd vn vg vhn vhs vhN vhP z1r.1 vu vp z1r.2.1 ve vo)) (dc := z1r.2.2.1) (ds := z1r.2.2.2) rfl ⟨0, [], _, [0, 1, 2, 3, 4, 5, 6, 7, 8, 9, 10, 11, 12, 13, 14, 15, 16, 17, 18, 19, 20, 21, 22, 23, 24, 25, 26, 27, 28, 29, 30, 31, 32, 33, 34, 35, 36, 37, 38, 39, 40, 41, 42, 43, 44, 45, 46, 47, 48, 49, 50, 51, 52, 53, 54, 55, 56, 57, 58, 59, 60, 61, 62, 63, 64, 65, 66, 67, 68, 69, 70, 71, 72, 73, 74, 75, 76, 77, 78, 79, 80, 81, 82, 83, 84, 85, 86, 87, 88, 89, 90, 91, 92, 93, 94, 95, 96, 97, 98, 99, 100, 101, 102, 103, 104, 105, 106, 107, 108, 109, 110, 111, 112], .inr "java/lang/IllegalStateException", (wTN vr vd vn vg vhn vhs vhN vhP z1r.1 vu vp z1r.2.1 ve), z1r.2.2.1, z1r.2.2.2, rfl, rfl, Nat.le_of_ble_eq_true rfl, rfl, ⟨vr, vd, vn, vg, vhn, vhs, vhN, vhP, vt, vu, vp, vq, ve, (.inr "java/lang/IllegalStateException", z1r), rfl, rfl, hz1, rfl⟩, rfl, Or.inr ⟨("java/lang/IllegalStateException", 12), List.mem_cons_self, rfl, rfl⟩⟩ ?_
      refine Rn.go 1 (pc' := 13) (lv' := [(0, .ref 0), (1, .ref 113)]) (st' := [.int (1 : Int32)]) (es' := (wTO vr vd vn vg vhn vhs vhN vhP z1r.1 vu vp z1r.2.1 ve vo)) (c' := (0 + z1r.2.2.1)) (s' := (0 + z1r.2.2.2)) rfl ?_
      obtain rfl := Option.some.inj hp
      exact Rn.fin rfl rfl rfl
    rw [if_neg h1] at hp
    cases hp
theorem qL_decision_1 : CtA yL_decision (.codeWith yL_decision cL_decision 3 (some .int) [(0, 8, 11, 13)]) 8 187 [95, 96, 97, 108, 109, 111, 112] rL_decision_1 := CtA.ofH (by decide +kernel) (fun pc op h => kL_decision_1 _ (lkp_mem h)) oL_decision_1
/-! TelescopeNightLaw.meanExposures(LTelescopeNight;I[J)I -/
def pL_meanExposures_1 (x1 : Int32) (vn : NiS) (vg : PrS) (vt : ReS) (vq : DeS) (vo : Nat → Int64) : Option (Int32 × ReS × DeS × (Nat → Int64) × Nat × Nat) :=
  ob (pX8_meanExposures x1 vn vg vt vq) (fun z1 => match z1 with
  | (.inl z1v, z1r) =>
    some ((0 : Int32), z1r.1, z1r.2.1, (vp_updL vo 0 z1v), (0 + z1r.2.2.1), (0 + z1r.2.2.2))
  | (.inr z1e, z1r) =>
    if z1e = "java/lang/IndexOutOfBoundsException" then
      some ((1 : Int32), z1r.1, z1r.2.1, vo, (0 + z1r.2.2.1), (0 + z1r.2.2.2))
    else none)
def rL_meanExposures_1 : List Value → List va_E → op_O → Prop := fun avs es r => ∃ (x1 : Int32) (vr : RdS) (vd : NiS) (vn : NiS) (vg : PrS) (vhn : Int32) (vhs : Int32) (vhN : Nat → NiS) (vhP : Nat → PrS) (vt : ReS) (vu : ReS) (vp : PlS) (vq : DeS) (ve : Int32) (vo : Nat → Int64) (z : Int32 × ReS × DeS × (Nat → Int64) × Nat × Nat), avs = [.ref 0, .int x1, .ref 113] ∧ es = (wTO vr vd vn vg vhn vhs vhN vhP vt vu vp vq ve vo) ∧ pL_meanExposures_1 x1 vn vg vt vq vo = some z ∧ r = (.inl (some (.int z.1)), (wTO vr vd vn vg vhn vhs vhN vhP z.2.1 vu vp z.2.2.1 ve z.2.2.2.1), z.2.2.2.2.1, z.2.2.2.2.2)
def bL_meanExposures_1 : List (Nat × (op_T ⊕ op_R)) := [(0, .inl (o_aload 1 2)), (1, .inl (o_push 2 (.int (0)))), (2, .inl (o_aload 3 0)), (3, .inl (o_iload 4 1)), (4, .inr (o_callVH [95, 96, 97, 108, 109, 111, 112] [95, 96, 97, 108, 109, 111, 112] 7 1 8 3 [("java/lang/IndexOutOfBoundsException", 12)] rX8_meanExposures)), (7, .inl (o_last 8)), (8, .inl (o_goto 14)), (12, .inl (o_push 13 (.int (1)))), (13, .inl (o_iret)), (14, .inl (o_push 15 (.int (0)))), (15, .inl (o_iret))]
set_option maxRecDepth 100000 in
set_option maxHeartbeats 4000000 in
theorem kL_meanExposures_1 : ∀ q ∈ bL_meanExposures_1, ok2 8 194 4 cL_meanExposures yL_meanExposures.cls yL_meanExposures.name (some .int) (.codeWith yL_meanExposures cL_meanExposures 4 (some .int) [(0, 8, 11, 28)]) (tableOf [(0, 8, 11, 28)]) [95, 96, 97, 108, 109, 111, 112] q.1 q.2 := (al_c (s_aload_n (k := 2) (by decide +kernel)) (al_c (s_iconst (n := 0) (0) (by decide) (by decide +kernel)) (al_c (s_aload_n (k := 0) (by decide +kernel)) (al_c (s_iload_n (k := 1) (by decide +kernel)) (al_c (s_callVH (tb := tableOf [(0, 8, 11, 28)]) (by decide) (fun q hq => by rcases List.mem_singleton.mp hq with rfl; exact ⟨[], ⟨0, 8, 11, 28⟩, [], "java/lang/IndexOutOfBoundsException", rfl, (fun z hz => by cases hz), by decide, by decide, w_948, by decide, Or.inr ⟨3, rfl, by decide +kernel, rfl⟩⟩) (y := yX8_meanExposures) (bytes := cX8_meanExposures) (maxL := 2) (ret' := (some .long)) (fr' := 7) (lo' := 173) (n := 1) (ml := [95, 96, 97, 108, 109, 111, 112]) (mlc := [95, 96, 97, 108, 109, 111, 112]) (ci := 8) (q9 := (RX8, TX8, 10)) qX8_meanExposures w_1207 w_1208 w_1209 w_1 w_1210 ⟨by decide +kernel, by decide +kernel, by decide +kernel⟩ rfl rfl (by decide) (by decide) (by decide +kernel)) (al_c (s_last (by decide +kernel)) (al_c (s_goto (off := 6) 14 (by decide) (by decide +kernel)) (al_c (s_iconst (n := 1) (1) (by decide) (by decide +kernel)) (al_c (s_iret rfl (by decide +kernel)) (al_c (s_iconst (n := 0) (0) (by decide) (by decide +kernel)) (al_c (s_iret rfl (by decide +kernel)) al_n)))))))))))
set_option maxRecDepth 100000 in
set_option maxHeartbeats 4000000 in
theorem oL_meanExposures_1 : Of (lkp bL_meanExposures_1) 4 rL_meanExposures_1 := by
  intro avs es r h
  obtain ⟨x1, vr, vd, vn, vg, vhn, vhs, vhN, vhP, vt, vu, vp, vq, ve, vo, z, rfl, rfl, hp, rfl⟩ := h
  refine ⟨Nat.le_of_ble_eq_true rfl, ?_⟩
  unfold pL_meanExposures_1 at hp
  refine Rn.go 4 (pc' := 4) (lv' := [(0, .ref 0), (1, .int x1), (2, .ref 113)]) (st' := [.int x1, .ref 0, .int (0 : Int32), .ref 113]) (es' := (wTO vr vd vn vg vhn vhs vhN vhP vt vu vp vq ve vo)) (c' := 0) (s' := 0) rfl ?_
  obtain ⟨z1, hz1, hp⟩ := ob_some hp
  obtain ⟨(z1v | z1e), z1r⟩ := z1
  · dsimp only at hp
    refine Rn.rel (pc' := 7) (lv' := [(0, .ref 0), (1, .int x1), (2, .ref 113)]) (st' := [.long z1v, .int (0 : Int32), .ref 113]) (es' := (wTO vr vd vn vg vhn vhs vhN vhP z1r.1 vu vp z1r.2.1 ve vo)) (dc := z1r.2.2.1) (ds := z1r.2.2.2) rfl ⟨0, [.int x1], _, [0, 1, 2, 3, 4, 5, 6, 7, 8, 9, 10, 11, 12, 13, 14, 15, 16, 17, 18, 19, 20, 21, 22, 23, 24, 25, 26, 27, 28, 29, 30, 31, 32, 33, 34, 35, 36, 37, 38, 39, 40, 41, 42, 43, 44, 45, 46, 47, 48, 49, 50, 51, 52, 53, 54, 55, 56, 57, 58, 59, 60, 61, 62, 63, 64, 65, 66, 67, 68, 69, 70, 71, 72, 73, 74, 75, 76, 77, 78, 79, 80, 81, 82, 83, 84, 85, 86, 87, 88, 89, 90, 91, 92, 93, 94, 95, 96, 97, 98, 99, 100, 101, 102, 103, 104, 105, 106, 107, 108, 109, 110, 111, 112], .inl (some (.long z1v)), (wTN vr vd vn vg vhn vhs vhN vhP z1r.1 vu vp z1r.2.1 ve), z1r.2.2.1, z1r.2.2.2, rfl, rfl, Nat.le_of_ble_eq_true rfl, rfl, ⟨x1, vr, vd, vn, vg, vhn, vhs, vhN, vhP, vt, vu, vp, vq, ve, (.inl z1v, z1r), rfl, rfl, hz1, rfl⟩, rfl, Or.inl ⟨_, rfl, rfl⟩⟩ ?_
    refine Rn.go 1 (pc' := 8) (lv' := [(0, .ref 0), (1, .int x1), (2, .ref 113)]) (st' := []) (es' := (wTO vr vd vn vg vhn vhs vhN vhP z1r.1 vu vp z1r.2.1 ve (vp_updL vo 0 z1v))) (c' := (0 + z1r.2.2.1)) (s' := (0 + z1r.2.2.2)) rfl ?_
    refine Rn.go 2 (pc' := 15) (lv' := [(0, .ref 0), (1, .int x1), (2, .ref 113)]) (st' := [.int (0 : Int32)]) (es' := (wTO vr vd vn vg vhn vhs vhN vhP z1r.1 vu vp z1r.2.1 ve (vp_updL vo 0 z1v))) (c' := (0 + z1r.2.2.1)) (s' := (0 + z1r.2.2.2)) rfl ?_
    obtain rfl := Option.some.inj hp
    exact Rn.fin rfl rfl rfl
  · dsimp only at hp
    by_cases h1 : z1e = "java/lang/IndexOutOfBoundsException"
    · subst h1
      rw [if_pos rfl] at hp
      refine Rn.rel (pc' := 12) (lv' := [(0, .ref 0), (1, .int x1), (2, .ref 113)]) (st' := []) (es' := (wTO vr vd vn vg vhn vhs vhN vhP z1r.1 vu vp z1r.2.1 ve vo)) (dc := z1r.2.2.1) (ds := z1r.2.2.2) rfl ⟨0, [.int x1], _, [0, 1, 2, 3, 4, 5, 6, 7, 8, 9, 10, 11, 12, 13, 14, 15, 16, 17, 18, 19, 20, 21, 22, 23, 24, 25, 26, 27, 28, 29, 30, 31, 32, 33, 34, 35, 36, 37, 38, 39, 40, 41, 42, 43, 44, 45, 46, 47, 48, 49, 50, 51, 52, 53, 54, 55, 56, 57, 58, 59, 60, 61, 62, 63, 64, 65, 66, 67, 68, 69, 70, 71, 72, 73, 74, 75, 76, 77, 78, 79, 80, 81, 82, 83, 84, 85, 86, 87, 88, 89, 90, 91, 92, 93, 94, 95, 96, 97, 98, 99, 100, 101, 102, 103, 104, 105, 106, 107, 108, 109, 110, 111, 112], .inr "java/lang/IndexOutOfBoundsException", (wTN vr vd vn vg vhn vhs vhN vhP z1r.1 vu vp z1r.2.1 ve), z1r.2.2.1, z1r.2.2.2, rfl, rfl, Nat.le_of_ble_eq_true rfl, rfl, ⟨x1, vr, vd, vn, vg, vhn, vhs, vhN, vhP, vt, vu, vp, vq, ve, (.inr "java/lang/IndexOutOfBoundsException", z1r), rfl, rfl, hz1, rfl⟩, rfl, Or.inr ⟨("java/lang/IndexOutOfBoundsException", 12), List.mem_cons_self, rfl, rfl⟩⟩ ?_
      refine Rn.go 1 (pc' := 13) (lv' := [(0, .ref 0), (1, .int x1), (2, .ref 113)]) (st' := [.int (1 : Int32)]) (es' := (wTO vr vd vn vg vhn vhs vhN vhP z1r.1 vu vp z1r.2.1 ve vo)) (c' := (0 + z1r.2.2.1)) (s' := (0 + z1r.2.2.2)) rfl ?_
      obtain rfl := Option.some.inj hp
      exact Rn.fin rfl rfl rfl
    rw [if_neg h1] at hp
    cases hp
theorem qL_meanExposures_1 : CtA yL_meanExposures (.codeWith yL_meanExposures cL_meanExposures 4 (some .int) [(0, 8, 11, 28)]) 8 194 [95, 96, 97, 108, 109, 111, 112] rL_meanExposures_1 := CtA.ofH (by decide +kernel) (fun pc op h => kL_meanExposures_1 _ (lkp_mem h)) oL_meanExposures_1
/-! TelescopeNightLaw.finishOdds(LTelescopeNight;I[J)I -/
def pL_finishOdds_1 (x1 : Int32) (vn : NiS) (vg : PrS) (vt : ReS) (vq : DeS) (vo : Nat → Int64) : Option (Int32 × ReS × DeS × (Nat → Int64) × Nat × Nat) :=
  ob (pX8_finishOdds x1 vn vg vt vq) (fun z1 => match z1 with
  | (.inl z1v, z1r) =>
    some ((0 : Int32), z1r.1, z1r.2.1, (vp_updL vo 0 z1v), (0 + z1r.2.2.1), (0 + z1r.2.2.2))
  | (.inr z1e, z1r) =>
    if z1e = "java/lang/IndexOutOfBoundsException" then
      some ((1 : Int32), z1r.1, z1r.2.1, vo, (0 + z1r.2.2.1), (0 + z1r.2.2.2))
    else none)
def rL_finishOdds_1 : List Value → List va_E → op_O → Prop := fun avs es r => ∃ (x1 : Int32) (vr : RdS) (vd : NiS) (vn : NiS) (vg : PrS) (vhn : Int32) (vhs : Int32) (vhN : Nat → NiS) (vhP : Nat → PrS) (vt : ReS) (vu : ReS) (vp : PlS) (vq : DeS) (ve : Int32) (vo : Nat → Int64) (z : Int32 × ReS × DeS × (Nat → Int64) × Nat × Nat), avs = [.ref 0, .int x1, .ref 113] ∧ es = (wTO vr vd vn vg vhn vhs vhN vhP vt vu vp vq ve vo) ∧ pL_finishOdds_1 x1 vn vg vt vq vo = some z ∧ r = (.inl (some (.int z.1)), (wTO vr vd vn vg vhn vhs vhN vhP z.2.1 vu vp z.2.2.1 ve z.2.2.2.1), z.2.2.2.2.1, z.2.2.2.2.2)
def bL_finishOdds_1 : List (Nat × (op_T ⊕ op_R)) := [(0, .inl (o_aload 1 2)), (1, .inl (o_push 2 (.int (0)))), (2, .inl (o_aload 3 0)), (3, .inl (o_iload 4 1)), (4, .inr (o_callVH [95, 96, 97, 108, 109, 111, 112] [95, 96, 97, 108, 109, 111, 112] 7 1 8 3 [("java/lang/IndexOutOfBoundsException", 12)] rX8_finishOdds)), (7, .inl (o_last 8)), (8, .inl (o_goto 14)), (12, .inl (o_push 13 (.int (1)))), (13, .inl (o_iret)), (14, .inl (o_push 15 (.int (0)))), (15, .inl (o_iret))]
set_option maxRecDepth 100000 in
set_option maxHeartbeats 4000000 in
theorem kL_finishOdds_1 : ∀ q ∈ bL_finishOdds_1, ok2 8 194 4 cL_finishOdds yL_finishOdds.cls yL_finishOdds.name (some .int) (.codeWith yL_finishOdds cL_finishOdds 4 (some .int) [(0, 8, 11, 28)]) (tableOf [(0, 8, 11, 28)]) [95, 96, 97, 108, 109, 111, 112] q.1 q.2 := (al_c (s_aload_n (k := 2) (by decide +kernel)) (al_c (s_iconst (n := 0) (0) (by decide) (by decide +kernel)) (al_c (s_aload_n (k := 0) (by decide +kernel)) (al_c (s_iload_n (k := 1) (by decide +kernel)) (al_c (s_callVH (tb := tableOf [(0, 8, 11, 28)]) (by decide) (fun q hq => by rcases List.mem_singleton.mp hq with rfl; exact ⟨[], ⟨0, 8, 11, 28⟩, [], "java/lang/IndexOutOfBoundsException", rfl, (fun z hz => by cases hz), by decide, by decide, w_948, by decide, Or.inr ⟨3, rfl, by decide +kernel, rfl⟩⟩) (y := yX8_finishOdds) (bytes := cX8_finishOdds) (maxL := 2) (ret' := (some .long)) (fr' := 7) (lo' := 173) (n := 1) (ml := [95, 96, 97, 108, 109, 111, 112]) (mlc := [95, 96, 97, 108, 109, 111, 112]) (ci := 8) (q9 := (RX8, TX8, 10)) qX8_finishOdds w_1214 w_1215 w_1216 w_1 w_1217 ⟨by decide +kernel, by decide +kernel, by decide +kernel⟩ rfl rfl (by decide) (by decide) (by decide +kernel)) (al_c (s_last (by decide +kernel)) (al_c (s_goto (off := 6) 14 (by decide) (by decide +kernel)) (al_c (s_iconst (n := 1) (1) (by decide) (by decide +kernel)) (al_c (s_iret rfl (by decide +kernel)) (al_c (s_iconst (n := 0) (0) (by decide) (by decide +kernel)) (al_c (s_iret rfl (by decide +kernel)) al_n)))))))))))
set_option maxRecDepth 100000 in
set_option maxHeartbeats 4000000 in
theorem oL_finishOdds_1 : Of (lkp bL_finishOdds_1) 4 rL_finishOdds_1 := by
  intro avs es r h
  obtain ⟨x1, vr, vd, vn, vg, vhn, vhs, vhN, vhP, vt, vu, vp, vq, ve, vo, z, rfl, rfl, hp, rfl⟩ := h
  refine ⟨Nat.le_of_ble_eq_true rfl, ?_⟩
  unfold pL_finishOdds_1 at hp
  refine Rn.go 4 (pc' := 4) (lv' := [(0, .ref 0), (1, .int x1), (2, .ref 113)]) (st' := [.int x1, .ref 0, .int (0 : Int32), .ref 113]) (es' := (wTO vr vd vn vg vhn vhs vhN vhP vt vu vp vq ve vo)) (c' := 0) (s' := 0) rfl ?_
  obtain ⟨z1, hz1, hp⟩ := ob_some hp
  obtain ⟨(z1v | z1e), z1r⟩ := z1
  · dsimp only at hp
    refine Rn.rel (pc' := 7) (lv' := [(0, .ref 0), (1, .int x1), (2, .ref 113)]) (st' := [.long z1v, .int (0 : Int32), .ref 113]) (es' := (wTO vr vd vn vg vhn vhs vhN vhP z1r.1 vu vp z1r.2.1 ve vo)) (dc := z1r.2.2.1) (ds := z1r.2.2.2) rfl ⟨0, [.int x1], _, [0, 1, 2, 3, 4, 5, 6, 7, 8, 9, 10, 11, 12, 13, 14, 15, 16, 17, 18, 19, 20, 21, 22, 23, 24, 25, 26, 27, 28, 29, 30, 31, 32, 33, 34, 35, 36, 37, 38, 39, 40, 41, 42, 43, 44, 45, 46, 47, 48, 49, 50, 51, 52, 53, 54, 55, 56, 57, 58, 59, 60, 61, 62, 63, 64, 65, 66, 67, 68, 69, 70, 71, 72, 73, 74, 75, 76, 77, 78, 79, 80, 81, 82, 83, 84, 85, 86, 87, 88, 89, 90, 91, 92, 93, 94, 95, 96, 97, 98, 99, 100, 101, 102, 103, 104, 105, 106, 107, 108, 109, 110, 111, 112], .inl (some (.long z1v)), (wTN vr vd vn vg vhn vhs vhN vhP z1r.1 vu vp z1r.2.1 ve), z1r.2.2.1, z1r.2.2.2, rfl, rfl, Nat.le_of_ble_eq_true rfl, rfl, ⟨x1, vr, vd, vn, vg, vhn, vhs, vhN, vhP, vt, vu, vp, vq, ve, (.inl z1v, z1r), rfl, rfl, hz1, rfl⟩, rfl, Or.inl ⟨_, rfl, rfl⟩⟩ ?_
    refine Rn.go 1 (pc' := 8) (lv' := [(0, .ref 0), (1, .int x1), (2, .ref 113)]) (st' := []) (es' := (wTO vr vd vn vg vhn vhs vhN vhP z1r.1 vu vp z1r.2.1 ve (vp_updL vo 0 z1v))) (c' := (0 + z1r.2.2.1)) (s' := (0 + z1r.2.2.2)) rfl ?_
    refine Rn.go 2 (pc' := 15) (lv' := [(0, .ref 0), (1, .int x1), (2, .ref 113)]) (st' := [.int (0 : Int32)]) (es' := (wTO vr vd vn vg vhn vhs vhN vhP z1r.1 vu vp z1r.2.1 ve (vp_updL vo 0 z1v))) (c' := (0 + z1r.2.2.1)) (s' := (0 + z1r.2.2.2)) rfl ?_
    obtain rfl := Option.some.inj hp
    exact Rn.fin rfl rfl rfl
  · dsimp only at hp
    by_cases h1 : z1e = "java/lang/IndexOutOfBoundsException"
    · subst h1
      rw [if_pos rfl] at hp
      refine Rn.rel (pc' := 12) (lv' := [(0, .ref 0), (1, .int x1), (2, .ref 113)]) (st' := []) (es' := (wTO vr vd vn vg vhn vhs vhN vhP z1r.1 vu vp z1r.2.1 ve vo)) (dc := z1r.2.2.1) (ds := z1r.2.2.2) rfl ⟨0, [.int x1], _, [0, 1, 2, 3, 4, 5, 6, 7, 8, 9, 10, 11, 12, 13, 14, 15, 16, 17, 18, 19, 20, 21, 22, 23, 24, 25, 26, 27, 28, 29, 30, 31, 32, 33, 34, 35, 36, 37, 38, 39, 40, 41, 42, 43, 44, 45, 46, 47, 48, 49, 50, 51, 52, 53, 54, 55, 56, 57, 58, 59, 60, 61, 62, 63, 64, 65, 66, 67, 68, 69, 70, 71, 72, 73, 74, 75, 76, 77, 78, 79, 80, 81, 82, 83, 84, 85, 86, 87, 88, 89, 90, 91, 92, 93, 94, 95, 96, 97, 98, 99, 100, 101, 102, 103, 104, 105, 106, 107, 108, 109, 110, 111, 112], .inr "java/lang/IndexOutOfBoundsException", (wTN vr vd vn vg vhn vhs vhN vhP z1r.1 vu vp z1r.2.1 ve), z1r.2.2.1, z1r.2.2.2, rfl, rfl, Nat.le_of_ble_eq_true rfl, rfl, ⟨x1, vr, vd, vn, vg, vhn, vhs, vhN, vhP, vt, vu, vp, vq, ve, (.inr "java/lang/IndexOutOfBoundsException", z1r), rfl, rfl, hz1, rfl⟩, rfl, Or.inr ⟨("java/lang/IndexOutOfBoundsException", 12), List.mem_cons_self, rfl, rfl⟩⟩ ?_
      refine Rn.go 1 (pc' := 13) (lv' := [(0, .ref 0), (1, .int x1), (2, .ref 113)]) (st' := [.int (1 : Int32)]) (es' := (wTO vr vd vn vg vhn vhs vhN vhP z1r.1 vu vp z1r.2.1 ve vo)) (c' := (0 + z1r.2.2.1)) (s' := (0 + z1r.2.2.2)) rfl ?_
      obtain rfl := Option.some.inj hp
      exact Rn.fin rfl rfl rfl
    rw [if_neg h1] at hp
    cases hp
theorem qL_finishOdds_1 : CtA yL_finishOdds (.codeWith yL_finishOdds cL_finishOdds 4 (some .int) [(0, 8, 11, 28)]) 8 194 [95, 96, 97, 108, 109, 111, 112] rL_finishOdds_1 := CtA.ofH (by decide +kernel) (fun pc op h => kL_finishOdds_1 _ (lkp_mem h)) oL_finishOdds_1
/-! TelescopeNightLaw.worthOfClear(LTelescopeNight;[J)I -/
def pL_worthOfClear_1 (vn : NiS) (vg : PrS) (vt : ReS) (vq : DeS) (vo : Nat → Int64) : Option (Int32 × ReS × DeS × (Nat → Int64) × Nat × Nat) :=
  ob (pX8_worthOfClear vn vg vt vq) (fun z1 => match z1 with
  | (.inl z1v, z1r) =>
    some ((0 : Int32), z1r.1, z1r.2.1, (vp_updL vo 0 z1v), (0 + z1r.2.2.1), (0 + z1r.2.2.2))
  | (.inr z1e, z1r) =>
    if z1e = "java/lang/IllegalStateException" then
      some ((1 : Int32), z1r.1, z1r.2.1, vo, (0 + z1r.2.2.1), (0 + z1r.2.2.2))
    else none)
def rL_worthOfClear_1 : List Value → List va_E → op_O → Prop := fun avs es r => ∃ (vr : RdS) (vd : NiS) (vn : NiS) (vg : PrS) (vhn : Int32) (vhs : Int32) (vhN : Nat → NiS) (vhP : Nat → PrS) (vt : ReS) (vu : ReS) (vp : PlS) (vq : DeS) (ve : Int32) (vo : Nat → Int64) (z : Int32 × ReS × DeS × (Nat → Int64) × Nat × Nat), avs = [.ref 0, .ref 113] ∧ es = (wTO vr vd vn vg vhn vhs vhN vhP vt vu vp vq ve vo) ∧ pL_worthOfClear_1 vn vg vt vq vo = some z ∧ r = (.inl (some (.int z.1)), (wTO vr vd vn vg vhn vhs vhN vhP z.2.1 vu vp z.2.2.1 ve z.2.2.2.1), z.2.2.2.2.1, z.2.2.2.2.2)
def bL_worthOfClear_1 : List (Nat × (op_T ⊕ op_R)) := [(0, .inl (o_aload 1 1)), (1, .inl (o_push 2 (.int (0)))), (2, .inl (o_aload 3 0)), (3, .inr (o_callVH [95, 96, 97, 108, 109, 111, 112] [95, 96, 97, 108, 109, 111, 112] 6 0 8 2 [("java/lang/IllegalStateException", 11)] rX8_worthOfClear)), (6, .inl (o_last 7)), (7, .inl (o_goto 13)), (11, .inl (o_push 12 (.int (1)))), (12, .inl (o_iret)), (13, .inl (o_push 14 (.int (0)))), (14, .inl (o_iret))]
set_option maxRecDepth 100000 in
set_option maxHeartbeats 4000000 in
theorem kL_worthOfClear_1 : ∀ q ∈ bL_worthOfClear_1, ok2 8 189 3 cL_worthOfClear yL_worthOfClear.cls yL_worthOfClear.name (some .int) (.codeWith yL_worthOfClear cL_worthOfClear 3 (some .int) [(0, 7, 10, 13)]) (tableOf [(0, 7, 10, 13)]) [95, 96, 97, 108, 109, 111, 112] q.1 q.2 := (al_c (s_aload_n (k := 1) (by decide +kernel)) (al_c (s_iconst (n := 0) (0) (by decide) (by decide +kernel)) (al_c (s_aload_n (k := 0) (by decide +kernel)) (al_c (s_callVH (tb := tableOf [(0, 7, 10, 13)]) (by decide) (fun q hq => by rcases List.mem_singleton.mp hq with rfl; exact ⟨[], ⟨0, 7, 10, 13⟩, [], "java/lang/IllegalStateException", rfl, (fun z hz => by cases hz), by decide, by decide, w_701, by decide, Or.inr ⟨2, rfl, by decide +kernel, rfl⟩⟩) (y := yX8_worthOfClear) (bytes := cX8_worthOfClear) (maxL := 1) (ret' := (some .long)) (fr' := 7) (lo' := 169) (n := 0) (ml := [95, 96, 97, 108, 109, 111, 112]) (mlc := [95, 96, 97, 108, 109, 111, 112]) (ci := 8) (q9 := (RX8, TX8, 10)) qX8_worthOfClear w_1221 w_1222 w_1223 w_1 w_1224 ⟨by decide +kernel, by decide +kernel, by decide +kernel⟩ rfl rfl (by decide) (by decide) (by decide +kernel)) (al_c (s_last (by decide +kernel)) (al_c (s_goto (off := 6) 13 (by decide) (by decide +kernel)) (al_c (s_iconst (n := 1) (1) (by decide) (by decide +kernel)) (al_c (s_iret rfl (by decide +kernel)) (al_c (s_iconst (n := 0) (0) (by decide) (by decide +kernel)) (al_c (s_iret rfl (by decide +kernel)) al_n))))))))))
set_option maxRecDepth 100000 in
set_option maxHeartbeats 4000000 in
theorem oL_worthOfClear_1 : Of (lkp bL_worthOfClear_1) 3 rL_worthOfClear_1 := by
  intro avs es r h
  obtain ⟨vr, vd, vn, vg, vhn, vhs, vhN, vhP, vt, vu, vp, vq, ve, vo, z, rfl, rfl, hp, rfl⟩ := h
  refine ⟨Nat.le_of_ble_eq_true rfl, ?_⟩
  unfold pL_worthOfClear_1 at hp
  refine Rn.go 3 (pc' := 3) (lv' := [(0, .ref 0), (1, .ref 113)]) (st' := [.ref 0, .int (0 : Int32), .ref 113]) (es' := (wTO vr vd vn vg vhn vhs vhN vhP vt vu vp vq ve vo)) (c' := 0) (s' := 0) rfl ?_
  obtain ⟨z1, hz1, hp⟩ := ob_some hp
  obtain ⟨(z1v | z1e), z1r⟩ := z1
  · dsimp only at hp
    refine Rn.rel (pc' := 6) (lv' := [(0, .ref 0), (1, .ref 113)]) (st' := [.long z1v, .int (0 : Int32), .ref 113]) (es' := (wTO vr vd vn vg vhn vhs vhN vhP z1r.1 vu vp z1r.2.1 ve vo)) (dc := z1r.2.2.1) (ds := z1r.2.2.2) rfl ⟨0, [], _, [0, 1, 2, 3, 4, 5, 6, 7, 8, 9, 10, 11, 12, 13, 14, 15, 16, 17, 18, 19, 20, 21, 22, 23, 24, 25, 26, 27, 28, 29, 30, 31, 32, 33, 34, 35, 36, 37, 38, 39, 40, 41, 42, 43, 44, 45, 46, 47, 48, 49, 50, 51, 52, 53, 54, 55, 56, 57, 58, 59, 60, 61, 62, 63, 64, 65, 66, 67, 68, 69, 70, 71, 72, 73, 74, 75, 76, 77, 78, 79, 80, 81, 82, 83, 84, 85, 86, 87, 88, 89, 90, 91, 92, 93, 94, 95, 96, 97, 98, 99, 100, 101, 102, 103, 104, 105, 106, 107, 108, 109, 110, 111, 112], .inl (some (.long z1v)), (wTN vr vd vn vg vhn vhs vhN vhP z1r.1 vu vp z1r.2.1 ve), z1r.2.2.1, z1r.2.2.2, rfl, rfl, Nat.le_of_ble_eq_true rfl, rfl, ⟨vr, vd, vn, vg, vhn, vhs, vhN, vhP, vt, vu, vp, vq, ve, (.inl z1v, z1r), rfl, rfl, hz1, rfl⟩, rfl, Or.inl ⟨_, rfl, rfl⟩⟩ ?_
    refine Rn.go 1 (pc' := 7) (lv' := [(0, .ref 0), (1, .ref 113)]) (st' := []) (es' := (wTO vr vd vn vg vhn vhs vhN vhP z1r.1 vu vp z1r.2.1 ve (vp_updL vo 0 z1v))) (c' := (0 + z1r.2.2.1)) (s' := (0 + z1r.2.2.2)) rfl ?_
    refine Rn.go 2 (pc' := 14) (lv' := [(0, .ref 0), (1, .ref 113)]) (st' := [.int (0 : Int32)]) (es' := (wTO vr vd vn vg vhn vhs vhN vhP z1r.1 vu vp z1r.2.1 ve (vp_updL vo 0 z1v))) (c' := (0 + z1r.2.2.1)) (s' := (0 + z1r.2.2.2)) rfl ?_
    obtain rfl := Option.some.inj hp
    exact Rn.fin rfl rfl rfl
  · dsimp only at hp
    by_cases h1 : z1e = "java/lang/IllegalStateException"
    · subst h1
      rw [if_pos rfl] at hp
      refine Rn.rel (pc' := 11) (lv' := [(0, .ref 0), (1, .ref 113)]) (st' := []) (es' := (wTO vr vd vn vg vhn vhs vhN vhP z1r.1 vu vp z1r.2.1 ve vo)) (dc := z1r.2.2.1) (ds := z1r.2.2.2) rfl ⟨0, [], _, [0, 1, 2, 3, 4, 5, 6, 7, 8, 9, 10, 11, 12, 13, 14, 15, 16, 17, 18, 19, 20, 21, 22, 23, 24, 25, 26, 27, 28, 29, 30, 31, 32, 33, 34, 35, 36, 37, 38, 39, 40, 41, 42, 43, 44, 45, 46, 47, 48, 49, 50, 51, 52, 53, 54, 55, 56, 57, 58, 59, 60, 61, 62, 63, 64, 65, 66, 67, 68, 69, 70, 71, 72, 73, 74, 75, 76, 77, 78, 79, 80, 81, 82, 83, 84, 85, 86, 87, 88, 89, 90, 91, 92, 93, 94, 95, 96, 97, 98, 99, 100, 101, 102, 103, 104, 105, 106, 107, 108, 109, 110, 111, 112], .inr "java/lang/IllegalStateException", (wTN vr vd vn vg vhn vhs vhN vhP z1r.1 vu vp z1r.2.1 ve), z1r.2.2.1, z1r.2.2.2, rfl, rfl, Nat.le_of_ble_eq_true rfl, rfl, ⟨vr, vd, vn, vg, vhn, vhs, vhN, vhP, vt, vu, vp, vq, ve, (.inr "java/lang/IllegalStateException", z1r), rfl, rfl, hz1, rfl⟩, rfl, Or.inr ⟨("java/lang/IllegalStateException", 11), List.mem_cons_self, rfl, rfl⟩⟩ ?_
      refine Rn.go 1 (pc' := 12) (lv' := [(0, .ref 0), (1, .ref 113)]) (st' := [.int (1 : Int32)]) (es' := (wTO vr vd vn vg vhn vhs vhN vhP z1r.1 vu vp z1r.2.1 ve vo)) (c' := (0 + z1r.2.2.1)) (s' := (0 + z1r.2.2.2)) rfl ?_
      obtain rfl := Option.some.inj hp
      exact Rn.fin rfl rfl rfl
    rw [if_neg h1] at hp
    cases hp
theorem qL_worthOfClear_1 : CtA yL_worthOfClear (.codeWith yL_worthOfClear cL_worthOfClear 3 (some .int) [(0, 7, 10, 13)]) 8 189 [95, 96, 97, 108, 109, 111, 112] rL_worthOfClear_1 := CtA.ofH (by decide +kernel) (fun pc op h => kL_worthOfClear_1 _ (lkp_mem h)) oL_worthOfClear_1
/-! TelescopeNightLaw.undo(LTelescopeNight;[J)I -/
def pL_undo_1 (vn : NiS) (vg : PrS) (vhn : Int32) (vhs : Int32) (vhN : Nat → NiS) (vhP : Nat → PrS) (vt : ReS) (vu : ReS) (vp : PlS) (vq : DeS) (vo : Nat → Int64) : Option (Int32 × NiS × PrS × Int32 × Int32 × ReS × ReS × PlS × DeS × (Nat → Int64) × Nat × Nat) :=
  ob (pX8_undo vn vg vhn vhs vhN vhP vt vu vp vq) (fun z1 => match z1 with
  | (.inl z1v, z1r) =>
    some ((0 : Int32), z1r.1, z1r.2.1, z1r.2.2.1, z1r.2.2.2.1, z1r.2.2.2.2.1, z1r.2.2.2.2.2.1, z1r.2.2.2.2.2.2.1, z1r.2.2.2.2.2.2.2.1, (vp_updL vo 0 z1v.toInt64), (0 + z1r.2.2.2.2.2.2.2.2.1), (0 + z1r.2.2.2.2.2.2.2.2.2))
  | (.inr z1e, z1r) =>
    if z1e = "java/lang/IllegalStateException" then
      some ((1 : Int32), z1r.1, z1r.2.1, z1r.2.2.1, z1r.2.2.2.1, z1r.2.2.2.2.1, z1r.2.2.2.2.2.1, z1r.2.2.2.2.2.2.1, z1r.2.2.2.2.2.2.2.1, vo, (0 + z1r.2.2.2.2.2.2.2.2.1), (0 + z1r.2.2.2.2.2.2.2.2.2))
    else none)
def rL_undo_1 : List Value → List va_E → op_O → Prop := fun avs es r => ∃ (vr : RdS) (vd : NiS) (vn : NiS) (vg : PrS) (vhn : Int32) (vhs : Int32) (vhN : Nat → NiS) (vhP : Nat → PrS) (vt : ReS) (vu : ReS) (vp : PlS) (vq : DeS) (ve : Int32) (vo : Nat → Int64) (z : Int32 × NiS × PrS × Int32 × Int32 × ReS × ReS × PlS × DeS × (Nat → Int64) × Nat × Nat), avs = [.ref 0, .ref 113] ∧ es = (wTO vr vd vn vg vhn vhs vhN vhP vt vu vp vq ve vo) ∧ pL_undo_1 vn vg vhn vhs vhN vhP vt vu vp vq vo = some z ∧ r = (.inl (some (.int z.1)), (wTO vr vd z.2.1 z.2.2.1 z.2.2.2.1 z.2.2.2.2.1 vhN vhP z.2.2.2.2.2.1 z.2.2.2.2.2.2.1 z.2.2.2.2.2.2.2.1 z.2.2.2.2.2.2.2.2.1 ve z.2.2.2.2.2.2.2.2.2.1), z.2.2.2.2.2.2.2.2.2.2.1, z.2.2.2.2.2.2.2.2.2.2.2)
def bL_undo_1 : List (Nat × (op_T ⊕ op_R)) := [(0, .inl (o_aload 1 1)), (1, .inl (o_push 2 (.int (0)))), (2, .inl (o_aload 3 0)), (3, .inr (o_callVH [] [] 6 0 8 2 [("java/lang/IllegalStateException", 12)] rX8_undo)), (6, .inl (o_i2l 7)), (7, .inl (o_last 8)), (8, .inl (o_goto 14)), (12, .inl (o_push 13 (.int (1)))), (13, .inl (o_iret)), (14, .inl (o_push 15 (.int (0)))), (15, .inl (o_iret))]
set_option maxRecDepth 100000 in
set_option maxHeartbeats 4000000 in
theorem kL_undo_1 : ∀ q ∈ bL_undo_1, ok2 7 123 3 cL_undo yL_undo.cls yL_undo.name (some .int) (.codeWith yL_undo cL_undo 3 (some .int) [(0, 8, 11, 13)]) (tableOf [(0, 8, 11, 13)]) [] q.1 q.2 := (al_c (s_aload_n (k := 1) (by decide +kernel)) (al_c (s_iconst (n := 0) (0) (by decide) (by decide +kernel)) (al_c (s_aload_n (k := 0) (by decide +kernel)) (al_c (s_callVH (tb := tableOf [(0, 8, 11, 13)]) (by decide) (fun q hq => by rcases List.mem_singleton.mp hq with rfl; exact ⟨[], ⟨0, 8, 11, 13⟩, [], "java/lang/IllegalStateException", rfl, (fun z hz => by cases hz), by decide, by decide, w_701, by decide, Or.inr ⟨2, rfl, by decide +kernel, rfl⟩⟩) (y := yX8_undo) (bytes := cX8_undo) (maxL := 1) (ret' := (some .int)) (fr' := 6) (lo' := 103) (n := 0) (ml := []) (mlc := []) (ci := 8) (q9 := (RX8, TX8, 10)) qX8_undo w_1232 w_1233 w_1234 w_1 w_1235 ⟨by decide +kernel, by decide +kernel, by decide +kernel⟩ rfl rfl (by decide) (by decide) (by decide +kernel)) (al_c (s_i2l (by decide +kernel)) (al_c (s_last (by decide +kernel)) (al_c (s_goto (off := 6) 14 (by decide) (by decide +kernel)) (al_c (s_iconst (n := 1) (1) (by decide) (by decide +kernel)) (al_c (s_iret rfl (by decide +kernel)) (al_c (s_iconst (n := 0) (0) (by decide) (by decide +kernel)) (al_c (s_iret rfl (by decide +kernel)) al_n)))))))))))
set_option maxRecDepth 100000 in
set_option maxHeartbeats 4000000 in
theorem oL_undo_1 : Of (lkp bL_undo_1) 3 rL_undo_1 := by
  intro avs es r h
  obtain ⟨vr, vd, vn, vg, vhn, vhs, vhN, vhP, vt, vu, vp, vq, ve, vo, z, rfl, rfl, hp, rfl⟩ := h
  refine ⟨Nat.le_of_ble_eq_true rfl, ?_⟩
  unfold pL_undo_1 at hp
  refine Rn.go 3 (pc' := 3) (lv' := [(0, .ref 0), (1, .ref 113)]) (st' := [.ref 0, .int (0 : Int32), .ref 113]) (es' := (wTO vr vd vn vg vhn vhs vhN vhP vt vu vp vq ve vo)) (c' := 0) (s' := 0) rfl ?_
  obtain ⟨z1, hz1, hp⟩ := ob_some hp
  obtain ⟨(z1v | z1e), z1r⟩ := z1
  · dsimp only at hp
    refine Rn.rel (pc' := 6) (lv' := [(0, .ref 0), (1, .ref 113)]) (st' := [.int z1v, .int (0 : Int32), .ref 113]) (es' := (wTO vr vd z1r.1 z1r.2.1 z1r.2.2.1 z1r.2.2.2.1 vhN vhP z1r.2.2.2.2.1 z1r.2.2.2.2.2.1 z1r.2.2.2.2.2.2.1 z1r.2.2.2.2.2.2.2.1 ve vo)) (dc := z1r.2.2.2.2.2.2.2.2.1) (ds := z1r.2.2.2.2.2.2.2.2.2) rfl ⟨0, [], _, [0, 1, 2, 3, 4, 5, 6, 7, 8, 9, 10, 11, 12, 13, 14, 15, 16, 17, 18, 19, 20, 21, 22, 23, 24, 25, 26, 27, 28, 29, 30, 31, 32, 33, 34, 35, 36, 37, 38, 39, 40, 41, 42, 43, 44, 45, 46, 47, 48, 49, 50, 51, 52, 53, 54, 55, 56, 57, 58, 59, 60, 61, 62, 63, 64, 65, 66, 67, 68, 69, 70, 71, 72, 73, 74, 75, 76, 77, 78, 79, 80, 81, 82, 83, 84, 85, 86, 87, 88, 89, 90, 91, 92, 93, 94, 95, 96, 97, 98, 99, 100, 101, 102, 103, 104, 105, 106, 107, 108, 109, 110, 111, 112], .inl (some (.int z1v)), (wTN vr vd z1r.1 z1r.2.1 z1r.2.2.1 z1r.2.2.2.1 vhN vhP z1r.2.2.2.2.1 z1r.2.2.2.2.2.1 z1r.2.2.2.2.2.2.1 z1r.2.2.2.2.2.2.2.1 ve), z1r.2.2.2.2.2.2.2.2.1, z1r.2.2.2.2.2.2.2.2.2, rfl, rfl, Nat.le_of_ble_eq_true rfl, rfl, ⟨vr, vd, vn, vg, vhn, vhs, vhN, vhP, vt, vu, vp, vq, ve, (.inl z1v, z1r), rfl, rfl, hz1, rfl⟩, rfl, Or.inl ⟨_, rfl, rfl⟩⟩ ?_
    refine Rn.go 2 (pc' := 8) (lv' := [(0, .ref 0), (1, .ref 113)]) (st' := []) (es' := (wTO vr vd z1r.1 z1r.2.1 z1r.2.2.1 z1r.2.2.2.1 vhN vhP z1r.2.2.2.2.1 z1r.2.2.2.2.2.1 z1r.2.2.2.2.2.2.1 z1r.2.2.2.2.2.2.2.1 ve (vp_updL vo 0 z1v.toInt64))) (c' := (0 + z1r.2.2.2.2.2.2.2.2.1)) (s' := (0 + z1r.2.2.2.2.2.2.2.2.2)) rfl ?_
    refine Rn.go 2 (pc' := 15) (lv' := [(0, .ref 0), (1, .ref 113)]) (st' := [.int (0 : Int32)]) (es' := (wTO vr vd z1r.1 z1r.2.1 z1r.2.2.1 z1r.2.2.2.1 vhN vhP z1r.2.2.2.2.1 z1r.2.2.2.2.2.1 z1r.2.2.2.2.2.2.1 z1r.2.2.2.2.2.2.2.1 ve (vp_updL vo 0 z1v.toInt64))) (c' := (0 + z1r.2.2.2.2.2.2.2.2.1)) (s' := (0 + z1r.2.2.2.2.2.2.2.2.2)) rfl ?_
    obtain rfl := Option.some.inj hp
    exact Rn.fin rfl rfl rfl
  · dsimp only at hp
    by_cases h1 : z1e = "java/lang/IllegalStateException"
    · subst h1
      rw [if_pos rfl] at hp
      refine Rn.rel (pc' := 12) (lv' := [(0, .ref 0), (1, .ref 113)]) (st' := []) (es' := (wTO vr vd z1r.1 z1r.2.1 z1r.2.2.1 z1r.2.2.2.1 vhN vhP z1r.2.2.2.2.1 z1r.2.2.2.2.2.1 z1r.2.2.2.2.2.2.1 z1r.2.2.2.2.2.2.2.1 ve vo)) (dc := z1r.2.2.2.2.2.2.2.2.1) (ds := z1r.2.2.2.2.2.2.2.2.2) rfl ⟨0, [], _, [0, 1, 2, 3, 4, 5, 6, 7, 8, 9, 10, 11, 12, 13, 14, 15, 16, 17, 18, 19, 20, 21, 22, 23, 24, 25, 26, 27, 28, 29, 30, 31, 32, 33, 34, 35, 36, 37, 38, 39, 40, 41, 42, 43, 44, 45, 46, 47, 48, 49, 50, 51, 52, 53, 54, 55, 56, 57, 58, 59, 60, 61, 62, 63, 64, 65, 66, 67, 68, 69, 70, 71, 72, 73, 74, 75, 76, 77, 78, 79, 80, 81, 82, 83, 84, 85, 86, 87, 88, 89, 90, 91, 92, 93, 94, 95, 96, 97, 98, 99, 100, 101, 102, 103, 104, 105, 106, 107, 108, 109, 110, 111, 112], .inr "java/lang/IllegalStateException", (wTN vr vd z1r.1 z1r.2.1 z1r.2.2.1 z1r.2.2.2.1 vhN vhP z1r.2.2.2.2.1 z1r.2.2.2.2.2.1 z1r.2.2.2.2.2.2.1 z1r.2.2.2.2.2.2.2.1 ve), z1r.2.2.2.2.2.2.2.2.1, z1r.2.2.2.2.2.2.2.2.2, rfl, rfl, Nat.le_of_ble_eq_true rfl, rfl, ⟨vr, vd, vn, vg, vhn, vhs, vhN, vhP, vt, vu, vp, vq, ve, (.inr "java/lang/IllegalStateException", z1r), rfl, rfl, hz1, rfl⟩, rfl, Or.inr ⟨("java/lang/IllegalStateException", 12), List.mem_cons_self, rfl, rfl⟩⟩ ?_
      refine Rn.go 1 (pc' := 13) (lv' := [(0, .ref 0), (1, .ref 113)]) (st' := [.int (1 : Int32)]) (es' := (wTO vr vd z1r.1 z1r.2.1 z1r.2.2.1 z1r.2.2.2.1 vhN vhP z1r.2.2.2.2.1 z1r.2.2.2.2.2.1 z1r.2.2.2.2.2.2.1 z1r.2.2.2.2.2.2.2.1 ve vo)) (c' := (0 + z1r.2.2.2.2.2.2.2.2.1)) (s' := (0 + z1r.2.2.2.2.2.2.2.2.2)) rfl ?_
      obtain rfl := Option.some.inj hp
      exact Rn.fin rfl rfl rfl
    rw [if_neg h1] at hp
    cases hp
theorem qL_undo_1 : CtA yL_undo (.codeWith yL_undo cL_undo 3 (some .int) [(0, 8, 11, 13)]) 7 123 [] rL_undo_1 := CtA.ofH (by decide +kernel) (fun pc op h => kL_undo_1 _ (lkp_mem h)) oL_undo_1
/-! TelescopeNightLaw.law([I)Z -/
