/-! TelescopeNight.count(I)I -/
def rX8_count : List Value → List va_E → op_O → Prop := fun avs es r => ∃ (x1 : Int32) (vr : RdS) (vd : NiS) (vn : NiS) (vg : PrS) (vhn : Int32) (vhs : Int32) (vhN : Nat → NiS) (vhP : Nat → PrS) (vt : ReS) (vu : ReS) (vp : PlS) (vq : DeS) (ve : Int32) (z : (Int32 ⊕ String) × Nat × Nat), avs = [.ref 0, .int x1] ∧ es = (wTN vr vd vn vg vhn vhs vhN vhP vt vu vp vq ve) ∧ pX8_count x1 vn vg = some z ∧ r = ((match z.1 with | .inl v => Sum.inl (some (.int v)) | .inr e => Sum.inr e), (wTN vr vd vn vg vhn vhs vhN vhP vt vu vp vq ve), z.2.1, z.2.2)
def bX8_count : List (Nat × (op_T ⊕ op_R)) := [(0, .inl (o_iload 1 1)), (1, .inl (o_table (0) (6) 97 [44, 52, 60, 68, 76, 84, 92])), (44, .inl (o_aload 45 0)), (45, .inl (o_get 48 8 2)), (48, .inl (o_get 51 2 0)), (51, .inl (o_iret)), (52, .inl (o_aload 53 0)), (53, .inl (o_get 56 8 2)), (56, .inl (o_get 59 2 1)), (59, .inl (o_iret)), (60, .inl (o_aload 61 0)), (61, .inl (o_get 64 8 2)), (64, .inl (o_get 67 2 2)), (67, .inl (o_iret)), (68, .inl (o_aload 69 0)), (69, .inl (o_get 72 8 3)), (72, .inl (o_get 75 5 0)), (75, .inl (o_iret)), (76, .inl (o_aload 77 0)), (77, .inl (o_get 80 8 3)), (80, .inl (o_get 83 5 2)), (83, .inl (o_iret)), (84, .inl (o_aload 85 0)), (85, .inl (o_get 88 8 3)), (88, .inl (o_get 91 5 1)), (91, .inl (o_iret)), (92, .inl (o_aload 93 0)), (93, .inr (o_callV [] [] 96 0 8 rX8_allMade)), (96, .inl (o_iret)), (97, .inl (o_throw "java/lang/IllegalArgumentException"))]
set_option maxRecDepth 100000 in
set_option maxHeartbeats 4000000 in
theorem kX8_count : ∀ q ∈ bX8_count, ok2 6 90 2 cX8_count yX8_count.cls yX8_count.name (some .int) (.code yX8_count cX8_count 2 (some .int)) [] [] q.1 q.2 := (al_c (s_iload_n (k := 1) (by decide +kernel)) (al_c (s_table (d := 96) (offs := #[43, 51, 59, 67, 75, 83, 91]) (len := 43) (by decide) (tb_ok (by decide)) (by decide +kernel)) (al_c (s_aload_n (k := 0) (by decide +kernel)) (al_c (s_get (C9 := RX8) (T9 := TX8) (N9 := 10) (ci := 8) (k := 2) iX8 rfl (by decide) w_376 (by decide +kernel)) (al_c (s_get (C9 := RX2) (T9 := TX2) (N9 := 8) (ci := 2) (k := 0) iX2 rfl (by decide) w_83 (by decide +kernel)) (al_c (s_iret rfl (by decide +kernel)) (al_c (s_aload_n (k := 0) (by decide +kernel)) (al_c (s_get (C9 := RX8) (T9 := TX8) (N9 := 10) (ci := 8) (k := 2) iX8 rfl (by decide) w_376 (by decide +kernel)) (al_c (s_get (C9 := RX2) (T9 := TX2) (N9 := 8) (ci := 2) (k := 1) iX2 rfl (by decide) w_88 (by decide +kernel)) (al_c (s_iret rfl (by decide +kernel)) (al_c (s_aload_n (k := 0) (by decide +kernel)) (al_c (s_get (C9 := RX8) (T9 := TX8) (N9 := 10) (ci := 8) (k := 2) iX8 rfl (by decide) w_376 (by decide +kernel)) (al_c (s_get (C9 := RX2) (T9 := TX2) (N9 := 8) (ci := 2) (k := 2) iX2 rfl (by decide) w_94 (by decide +kernel)) (al_c (s_iret rfl (by decide +kernel)) (al_c (s_aload_n (k := 0) (by decide +kernel)) (al_c (s_get (C9 := RX8) (T9 := TX8) (N9 := 10) (ci := 8) (k := 3) iX8 rfl (by decide) w_377 (by decide +kernel)) (al_c (s_get (C9 := RX5) (T9 := TX5) (N9 := 7) (ci := 5) (k := 0) iX5 rfl (by decide) w_133 (by decide +kernel)) (al_c (s_iret rfl (by decide +kernel)) (al_c (s_aload_n (k := 0) (by decide +kernel)) (al_c (s_get (C9 := RX8) (T9 := TX8) (N9 := 10) (ci := 8) (k := 3) iX8 rfl (by decide) w_377 (by decide +kernel)) (al_c (s_get (C9 := RX5) (T9 := TX5) (N9 := 7) (ci := 5) (k := 2) iX5 rfl (by decide) w_140 (by decide +kernel)) (al_c (s_iret rfl (by decide +kernel)) (al_c (s_aload_n (k := 0) (by decide +kernel)) (al_c (s_get (C9 := RX8) (T9 := TX8) (N9 := 10) (ci := 8) (k := 3) iX8 rfl (by decide) w_377 (by decide +kernel)) (al_c (s_get (C9 := RX5) (T9 := TX5) (N9 := 7) (ci := 5) (k := 1) iX5 rfl (by decide) w_136 (by decide +kernel)) (al_c (s_iret rfl (by decide +kernel)) (al_c (s_aload_n (k := 0) (by decide +kernel)) (al_c (s_callV (y := yX8_allMade) (bytes := cX8_allMade) (maxL := 3) (ret' := (some .int)) (fr' := 1) (lo' := 21) (n := 0) (ml := []) (mlc := []) (ci := 8) (q9 := (RX8, TX8, 10)) qX8_allMade w_939 w_941 wp_40 w_1 w_942 ⟨by decide +kernel, by decide +kernel, by decide +kernel⟩ rfl rfl (by decide) (by decide) (by decide +kernel)) (al_c (s_iret rfl (by decide +kernel)) (al_c (s_throw (ik := 92) (is := 137) (ic := 96) (text := "there is no such number") (names := ["java/lang/RuntimeException", "java/lang/Exception"]) (by decide +kernel) (by decide +kernel) w_791 w_17 (by decide +kernel) th_1_4 th_1_5 (by decide) (fun w hw => by rcases List.mem_cons.mp hw with rfl | hw; exact rfl; rcases List.mem_cons.mp hw with rfl | hw; exact rfl; exact th_1_7 w hw) (by decide) (by decide) (by decide +kernel) (by decide +kernel) (by decide +kernel) (by decide +kernel) (by decide +kernel)) al_n))))))))))))))))))))))))))))))
set_option maxRecDepth 100000 in
set_option maxHeartbeats 4000000 in
theorem oX8_count : Of (lkp bX8_count) 2 rX8_count := by
  intro avs es r h
  obtain ⟨x1, vr, vd, vn, vg, vhn, vhs, vhN, vhP, vt, vu, vp, vq, ve, z, rfl, rfl, hp, rfl⟩ := h
  refine ⟨Nat.le_of_ble_eq_true rfl, ?_⟩
  unfold pX8_count at hp
  refine Rn.go 1 (pc' := 1) (lv' := [(0, .ref 0), (1, .int x1)]) (st' := [.int x1]) (es' := (wTN vr vd vn vg vhn vhs vhN vhP vt vu vp vq ve)) (c' := 0) (s' := 0) rfl ?_
  by_cases h1 : x1 = (0 : Int32)
  · rw [if_pos h1] at hp
    refine Rn.tbi (0 : Int32) h1 (pc' := 44) rfl rfl ?_
    refine Rn.go 3 (pc' := 51) (lv' := [(0, .ref 0), (1, .int x1)]) (st' := [.int vn.1]) (es' := (wTN vr vd vn vg vhn vhs vhN vhP vt vu vp vq ve)) (c' := 0) (s' := 0) rfl ?_
    obtain rfl := Option.some.inj hp
    exact Rn.fin rfl rfl rfl
  rw [if_neg h1] at hp
  by_cases h2 : x1 = (1 : Int32)
  · rw [if_pos h2] at hp
    refine Rn.tbi (1 : Int32) h2 (pc' := 52) rfl rfl ?_
    refine Rn.go 3 (pc' := 59) (lv' := [(0, .ref 0), (1, .int x1)]) (st' := [.int vn.2.1]) (es' := (wTN vr vd vn vg vhn vhs vhN vhP vt vu vp vq ve)) (c' := 0) (s' := 0) rfl ?_
    obtain rfl := Option.some.inj hp
    exact Rn.fin rfl rfl rfl
  rw [if_neg h2] at hp
  by_cases h3 : x1 = (2 : Int32)
  · rw [if_pos h3] at hp
    refine Rn.tbi (2 : Int32) h3 (pc' := 60) rfl rfl ?_
    refine Rn.go 3 (pc' := 67) (lv' := [(0, .ref 0), (1, .int x1)]) (st' := [.int vn.2.2.1]) (es' := (wTN vr vd vn vg vhn vhs vhN vhP vt vu vp vq ve)) (c' := 0) (s' := 0) rfl ?_
    obtain rfl := Option.some.inj hp
    exact Rn.fin rfl rfl rfl
  rw [if_neg h3] at hp
  by_cases h4 : x1 = (3 : Int32)
  · rw [if_pos h4] at hp
    refine Rn.tbi (3 : Int32) h4 (pc' := 68) rfl rfl ?_
    refine Rn.go 3 (pc' := 75) (lv' := [(0, .ref 0), (1, .int x1)]) (st' := [.int vg.1]) (es' := (wTN vr vd vn vg vhn vhs vhN vhP vt vu vp vq ve)) (c' := 0) (s' := 0) rfl ?_
    obtain rfl := Option.some.inj hp
    exact Rn.fin rfl rfl rfl
  rw [if_neg h4] at hp
  by_cases h5 : x1 = (4 : Int32)
  · rw [if_pos h5] at hp
    refine Rn.tbi (4 : Int32) h5 (pc' := 76) rfl rfl ?_
    refine Rn.go 3 (pc' := 83) (lv' := [(0, .ref 0), (1, .int x1)]) (st' := [.int vg.2.2.1]) (es' := (wTN vr vd vn vg vhn vhs vhN vhP vt vu vp vq ve)) (c' := 0) (s' := 0) rfl ?_
    obtain rfl := Option.some.inj hp
    exact Rn.fin rfl rfl rfl
  rw [if_neg h5] at hp
  by_cases h6 : x1 = (5 : Int32)
  · rw [if_pos h6] at hp
    refine Rn.tbi (5 : Int32) h6 (pc' := 84) rfl rfl ?_
    refine Rn.go 3 (pc' := 91) (lv' := [(0, .ref 0), (1, .int x1)]) (st' := [.int vg.2.1]) (es' := (wTN vr vd vn vg vhn vhs vhN vhP vt vu vp vq ve)) (c' := 0) (s' := 0) rfl ?_
    obtain rfl := Option.some.inj hp
    exact Rn.fin rfl rfl rfl
  rw [if_neg h6] at hp
  by_cases h7 : x1 = (6 : Int32)
  · rw [if_pos h7] at hp
    refine Rn.tbi (6 : Int32) h7 (pc' := 92) rfl rfl ?_
    refine Rn.go 1 (pc' := 93) (lv' := [(0, .ref 0), (1, .int x1)]) (st' := [.ref 0]) (es' := (wTN vr vd vn vg vhn vhs vhN vhP vt vu vp vq ve)) (c' := 0) (s' := 0) rfl ?_
    obtain ⟨z1, hz1, hp⟩ := ob_some hp
    refine Rn.rel (pc' := 96) (lv' := [(0, .ref 0), (1, .int x1)]) (st' := [.int z1]) (es' := (wTN vr vd vn vg vhn vhs vhN vhP vt vu vp vq ve)) (dc := 0) (ds := 0) rfl ⟨0, [], _, [0, 1, 2, 3, 4, 5, 6, 7, 8, 9, 10, 11, 12, 13, 14, 15, 16, 17, 18, 19, 20, 21, 22, 23, 24, 25, 26, 27, 28, 29, 30, 31, 32, 33, 34, 35, 36, 37, 38, 39, 40, 41, 42, 43, 44, 45, 46, 47, 48, 49, 50, 51, 52, 53, 54, 55, 56, 57, 58, 59, 60, 61, 62, 63, 64, 65, 66, 67, 68, 69, 70, 71, 72, 73, 74, 75, 76, 77, 78, 79, 80, 81, 82, 83, 84, 85, 86, 87, 88, 89, 90, 91, 92, 93, 94, 95, 96, 97, 98, 99, 100, 101, 102, 103, 104, 105, 106, 107, 108, 109, 110, 111, 112], .inl (some (.int z1)), (wTN vr vd vn vg vhn vhs vhN vhP vt vu vp vq ve), 0, 0, rfl, rfl, Nat.le_of_ble_eq_true rfl, rfl, ⟨vr, vd, vn, vg, vhn, vhs, vhN, vhP, vt, vu, vp, vq, ve, z1, rfl, rfl, hz1, rfl⟩, rfl⟩ ?_
    obtain rfl := Option.some.inj hp
    exact Rn.fin rfl rfl rfl
  rw [if_neg h7] at hp
  refine Rn.tbd (tb_out 7 _ (fun k hk => by match k, hk with | 0, _ => exact h1 | 1, _ => exact h2 | 2, _ => exact h3 | 3, _ => exact h4 | 4, _ => exact h5 | 5, _ => exact h6 | 6, _ => exact h7)) rfl ?_
  obtain rfl := Option.some.inj hp
  exact Rn.fin rfl rfl rfl
theorem qX8_count : CtA yX8_count (.code yX8_count cX8_count 2 (some .int)) 6 90 [] rX8_count := CtA.of (by decide +kernel) (fun pc op h => kX8_count _ (lkp_mem h)) oX8_count
/-! TelescopeNight.checkTarget(I)V -/
def rX8_checkTarget : List Value → List va_E → op_O → Prop := fun avs es r => ∃ (x1 : Int32) (vr : RdS) (vd : NiS) (vn : NiS) (vg : PrS) (vhn : Int32) (vhs : Int32) (vhN : Nat → NiS) (vhP : Nat → PrS) (vt : ReS) (vu : ReS) (vp : PlS) (vq : DeS) (ve : Int32) (z : (Unit ⊕ String) × Nat × Nat), avs = [.ref 0, .int x1] ∧ es = (wTN vr vd vn vg vhn vhs vhN vhP vt vu vp vq ve) ∧ pX8_checkTarget x1 vn = some z ∧ r = ((match z.1 with | .inl _ => Sum.inl none | .inr e => Sum.inr e), (wTN vr vd vn vg vhn vhs vhN vhP vt vu vp vq ve), z.2.1, z.2.2)
def bX8_checkTarget : List (Nat × (op_T ⊕ op_R)) := [(0, .inl (o_iload 1 1)), (1, .inl (o_iflt 4 15)), (4, .inl (o_iload 5 1)), (5, .inl (o_aload 6 0)), (6, .inl (o_get 9 8 2)), (9, .inl (o_get 12 2 1)), (12, .inl (o_icmplt 15 26)), (15, .inl (o_throw "java/lang/IndexOutOfBoundsException")), (26, .inl (o_vret))]
set_option maxRecDepth 100000 in
set_option maxHeartbeats 4000000 in
theorem kX8_checkTarget : ∀ q ∈ bX8_checkTarget, ok2 6 90 2 cX8_checkTarget yX8_checkTarget.cls yX8_checkTarget.name none (.code yX8_checkTarget cX8_checkTarget 2 none) [] [] q.1 q.2 := (al_c (s_iload_n (k := 1) (by decide +kernel)) (al_c (s_iflt (off := 14) 15 (by decide) (by decide +kernel)) (al_c (s_iload_n (k := 1) (by decide +kernel)) (al_c (s_aload_n (k := 0) (by decide +kernel)) (al_c (s_get (C9 := RX8) (T9 := TX8) (N9 := 10) (ci := 8) (k := 2) iX8 rfl (by decide) w_376 (by decide +kernel)) (al_c (s_get (C9 := RX2) (T9 := TX2) (N9 := 8) (ci := 2) (k := 1) iX2 rfl (by decide) w_88 (by decide +kernel)) (al_c (s_icmplt (off := 14) 26 (by decide) (by decide +kernel)) (al_c (s_throwW (ik := 230) (is := 313) (ic := 234) (text := "there is no such target") (names := ["java/lang/RuntimeException", "java/lang/Exception"]) (by decide +kernel) (by decide +kernel) w_957 w_23 (by decide +kernel) th_2_4 th_2_5 (by decide) (fun w hw => by rcases List.mem_cons.mp hw with rfl | hw; exact rfl; rcases List.mem_cons.mp hw with rfl | hw; exact rfl; exact th_2_7 w hw) (by decide) (by decide) (by decide +kernel) (by decide +kernel) (by decide +kernel) (by decide +kernel) (by decide +kernel)) (al_c (s_vret rfl (by decide +kernel)) al_n)))))))))
set_option maxRecDepth 100000 in
set_option maxHeartbeats 4000000 in
theorem oX8_checkTarget : Of (lkp bX8_checkTarget) 2 rX8_checkTarget := by
  intro avs es r h
  obtain ⟨x1, vr, vd, vn, vg, vhn, vhs, vhN, vhP, vt, vu, vp, vq, ve, z, rfl, rfl, hp, rfl⟩ := h
  refine ⟨Nat.le_of_ble_eq_true rfl, ?_⟩
  unfold pX8_checkTarget at hp
  refine Rn.go 1 (pc' := 1) (lv' := [(0, .ref 0), (1, .int x1)]) (st' := [.int x1]) (es' := (wTN vr vd vn vg vhn vhs vhN vhP vt vu vp vq ve)) (c' := 0) (s' := 0) rfl ?_
  refine Rn.br (P := x1 < 0) (pc1 := 15) (pc2 := 4) rfl rfl (fun h1 => ?_) (fun h1 => ?_)
  · rw [if_pos h1] at hp
    obtain rfl := Option.some.inj hp
    exact Rn.fin rfl rfl rfl
  · rw [if_neg h1] at hp
    refine Rn.go 4 (pc' := 12) (lv' := [(0, .ref 0), (1, .int x1)]) (st' := [.int vn.2.1, .int x1]) (es' := (wTN vr vd vn vg vhn vhs vhN vhP vt vu vp vq ve)) (c' := 0) (s' := 0) rfl ?_
    refine Rn.br (P := x1 < vn.2.1) (pc1 := 26) (pc2 := 15) rfl rfl (fun h2 => ?_) (fun h2 => ?_)
    · rw [if_pos h2] at hp
      obtain rfl := Option.some.inj hp
      exact Rn.fin rfl rfl rfl
    · rw [if_neg h2] at hp
      obtain rfl := Option.some.inj hp
      exact Rn.fin rfl rfl rfl
theorem qX8_checkTarget : CtA yX8_checkTarget (.code yX8_checkTarget cX8_checkTarget 2 none) 6 90 [] rX8_checkTarget := CtA.of (by decide +kernel) (fun pc op h => kX8_checkTarget _ (lkp_mem h)) oX8_checkTarget
/-! TelescopeNight.checkSlot(I)V -/
def rX8_checkSlot : List Value → List va_E → op_O → Prop := fun avs es r => ∃ (x1 : Int32) (vr : RdS) (vd : NiS) (vn : NiS) (vg : PrS) (vhn : Int32) (vhs : Int32) (vhN : Nat → NiS) (vhP : Nat → PrS) (vt : ReS) (vu : ReS) (vp : PlS) (vq : DeS) (ve : Int32) (z : (Unit ⊕ String) × Nat × Nat), avs = [.ref 0, .int x1] ∧ es = (wTN vr vd vn vg vhn vhs vhN vhP vt vu vp vq ve) ∧ pX8_checkSlot x1 vn = some z ∧ r = ((match z.1 with | .inl _ => Sum.inl none | .inr e => Sum.inr e), (wTN vr vd vn vg vhn vhs vhN vhP vt vu vp vq ve), z.2.1, z.2.2)
def bX8_checkSlot : List (Nat × (op_T ⊕ op_R)) := [(0, .inl (o_iload 1 1)), (1, .inl (o_iflt 4 15)), (4, .inl (o_iload 5 1)), (5, .inl (o_aload 6 0)), (6, .inl (o_get 9 8 2)), (9, .inl (o_get 12 2 0)), (12, .inl (o_icmplt 15 26)), (15, .inl (o_throw "java/lang/IndexOutOfBoundsException")), (26, .inl (o_vret))]
set_option maxRecDepth 100000 in
set_option maxHeartbeats 4000000 in
theorem kX8_checkSlot : ∀ q ∈ bX8_checkSlot, ok2 6 90 2 cX8_checkSlot yX8_checkSlot.cls yX8_checkSlot.name none (.code yX8_checkSlot cX8_checkSlot 2 none) [] [] q.1 q.2 := (al_c (s_iload_n (k := 1) (by decide +kernel)) (al_c (s_iflt (off := 14) 15 (by decide) (by decide +kernel)) (al_c (s_iload_n (k := 1) (by decide +kernel)) (al_c (s_aload_n (k := 0) (by decide +kernel)) (al_c (s_get (C9 := RX8) (T9 := TX8) (N9 := 10) (ci := 8) (k := 2) iX8 rfl (by decide) w_376 (by decide +kernel)) (al_c (s_get (C9 := RX2) (T9 := TX2) (N9 := 8) (ci := 2) (k := 0) iX2 rfl (by decide) w_83 (by decide +kernel)) (al_c (s_icmplt (off := 14) 26 (by decide) (by decide +kernel)) (al_c (s_throwW (ik := 230) (is := 315) (ic := 234) (text := "there is no such slot") (names := ["java/lang/RuntimeException", "java/lang/Exception"]) (by decide +kernel) (by decide +kernel) w_957 w_23 (by decide +kernel) th_2_4 th_2_5 (by decide) (fun w hw => by rcases List.mem_cons.mp hw with rfl | hw; exact rfl; rcases List.mem_cons.mp hw with rfl | hw; exact rfl; exact th_2_7 w hw) (by decide) (by decide) (by decide +kernel) (by decide +kernel) (by decide +kernel) (by decide +kernel) (by decide +kernel)) (al_c (s_vret rfl (by decide +kernel)) al_n)))))))))
set_option maxRecDepth 100000 in
set_option maxHeartbeats 4000000 in
theorem oX8_checkSlot : Of (lkp bX8_checkSlot) 2 rX8_checkSlot := by
  intro avs es r h
  obtain ⟨x1, vr, vd, vn, vg, vhn, vhs, vhN, vhP, vt, vu, vp, vq, ve, z, rfl, rfl, hp, rfl⟩ := h
  refine ⟨Nat.le_of_ble_eq_true rfl, ?_⟩
  unfold pX8_checkSlot at hp
  refine Rn.go 1 (pc' := 1) (lv' := [(0, .ref 0), (1, .int x1)]) (st' := [.int x1]) (es' := (wTN vr vd vn vg vhn vhs vhN vhP vt vu vp vq ve)) (c' := 0) (s' := 0) rfl ?_
  refine Rn.br (P := x1 < 0) (pc1 := 15) (pc2 := 4) rfl rfl (fun h1 => ?_) (fun h1 => ?_)
  · rw [if_pos h1] at hp
    obtain rfl := Option.some.inj hp
    exact Rn.fin rfl rfl rfl
  · rw [if_neg h1] at hp
    refine Rn.go 4 (pc' := 12) (lv' := [(0, .ref 0), (1, .int x1)]) (st' := [.int vn.1, .int x1]) (es' := (wTN vr vd vn vg vhn vhs vhN vhP vt vu vp vq ve)) (c' := 0) (s' := 0) rfl ?_
    refine Rn.br (P := x1 < vn.1) (pc1 := 26) (pc2 := 15) rfl rfl (fun h2 => ?_) (fun h2 => ?_)
    · rw [if_pos h2] at hp
      obtain rfl := Option.some.inj hp
      exact Rn.fin rfl rfl rfl
    · rw [if_neg h2] at hp
      obtain rfl := Option.some.inj hp
      exact Rn.fin rfl rfl rfl
theorem qX8_checkSlot : CtA yX8_checkSlot (.code yX8_checkSlot cX8_checkSlot 2 none) 6 90 [] rX8_checkSlot := CtA.of (by decide +kernel) (fun pc op h => kX8_checkSlot _ (lkp_mem h)) oX8_checkSlot
