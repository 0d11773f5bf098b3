/-! java/lang/String.length()I -/
def rJ0_length_8abf5_1104 : List Value → List va_E → op_O → Prop := fun avs es r => ∃  (z : Int32), avs = [.ref 1104] ∧ es = [] ∧ pJ0_length_8abf5_1104 = some z ∧ r = (.inl (some (.int z)), [], 0, 0)
def bJ0_length_8abf5_1104 : List (Nat × (op_T ⊕ op_R)) := [(0, .inl (o_aload 1 0)), (1, .inl (o_sval 4)), (4, .inl (o_blen 5)), (5, .inl (o_aload 6 0)), (6, .inr (o_callX [] [] 9 0 rJ0_coder_7d493_1104)), (9, .inl (o_ii 10 (fun x y => x >>> (y &&& 31)))), (10, .inl (o_iret))]
set_option maxRecDepth 100000 in
set_option maxHeartbeats 4000000 in
theorem kJ0_length_8abf5_1104 : ∀ q ∈ bJ0_length_8abf5_1104, ok2 1 20 1 cJ0_length_8abf5 yJ0_length_8abf5.cls yJ0_length_8abf5.name (some .int) (.code yJ0_length_8abf5 cJ0_length_8abf5 1 (some .int)) [] [] q.1 q.2 := (al_c (s_aload_n (k := 0) (by decide +kernel)) (al_c (s_sval w_1758 (by decide +kernel)) (al_c (s_blen (by decide +kernel)) (al_c (s_aload_n (k := 0) (by decide +kernel)) (al_c (s_callX (y := yJ0_coder_7d493) (bytes := cJ0_coder_7d493) (maxL := 1) (ret' := (some .byte)) (fr' := 0) (lo' := 0) (n := 0) (ml := []) (mlc := []) qJ0_coder_7d493_1104 w_834 w_835 w_836 w_18 w_837 ⟨by decide +kernel, by decide +kernel, by decide +kernel⟩ rfl (by decide) (by decide) (by decide +kernel)) (al_c (s_ishr (by decide +kernel)) (al_c (s_iret rfl (by decide +kernel)) al_n)))))))
set_option maxRecDepth 100000 in
set_option maxHeartbeats 4000000 in
theorem oJ0_length_8abf5_1104 : Of (lkp bJ0_length_8abf5_1104) 1 rJ0_length_8abf5_1104 := by
  intro avs es r h
  obtain ⟨z, rfl, rfl, hp, rfl⟩ := h
  refine ⟨Nat.le_of_ble_eq_true rfl, ?_⟩
  unfold pJ0_length_8abf5_1104 at hp
  refine Rn.go 4 (pc' := 6) (lv' := [(0, .ref 1104)]) (st' := [.ref 1104, .int (nI (strN.getD (1124 - 1120) 0))]) (es' := []) (c' := 0) (s' := 0) rfl ?_
  obtain ⟨z1, hz1, hp⟩ := ob_some hp
  refine Rn.rel (pc' := 9) (lv' := [(0, .ref 1104)]) (st' := [.int z1, .int (nI (strN.getD (1124 - 1120) 0))]) (es' := []) (dc := 0) (ds := 0) rfl ⟨1104, [], [], .inl (some (.int z1)), [], 0, 0, rfl, rfl, Nat.le_of_ble_eq_true rfl, rfl, ⟨z1, rfl, rfl, hz1, rfl⟩, rfl⟩ ?_
  refine Rn.go 1 (pc' := 10) (lv' := [(0, .ref 1104)]) (st' := [.int ((nI (strN.getD (1124 - 1120) 0)) >>> (z1 &&& 31))]) (es' := []) (c' := 0) (s' := 0) rfl ?_
  obtain rfl := Option.some.inj hp
  exact Rn.fin rfl rfl rfl
theorem qJ0_length_8abf5_1104 : CtA yJ0_length_8abf5 (.code yJ0_length_8abf5 cJ0_length_8abf5 1 (some .int)) 1 20 [] rJ0_length_8abf5_1104 := CtA.of (by decide +kernel) (fun pc op h => kJ0_length_8abf5_1104 _ (lkp_mem h)) oJ0_length_8abf5_1104
/-! java/lang/String.isLatin1()Z -/
def rJ0_isLatin1_aae02_1104 : List Value → List va_E → op_O → Prop := fun avs es r => ∃  (z : Int32), avs = [.ref 1104] ∧ es = [] ∧ pJ0_isLatin1_aae02_1104 = some z ∧ r = (.inl (some (.int z)), [], 0, 0)
def bJ0_isLatin1_aae02_1104 : List (Nat × (op_T ⊕ op_R)) := [(0, .inl (o_push 3 (.int 1))), (3, .inl (o_ifeq 6 17)), (6, .inl (o_aload 7 0)), (7, .inl (o_scod 10)), (10, .inl (o_ifne 13 17)), (13, .inl (o_push 14 (.int (1)))), (14, .inl (o_goto 18)), (17, .inl (o_push 18 (.int (0)))), (18, .inl (o_zret))]
set_option maxRecDepth 100000 in
set_option maxHeartbeats 4000000 in
theorem kJ0_isLatin1_aae02_1104 : ∀ q ∈ bJ0_isLatin1_aae02_1104, ok2 0 0 1 cJ0_isLatin1_aae02 yJ0_isLatin1_aae02.cls yJ0_isLatin1_aae02.name (some .boolean) (.code yJ0_isLatin1_aae02 cJ0_isLatin1_aae02 1 (some .boolean)) [] [] q.1 q.2 := (al_c (s_getZ w_838 (by decide +kernel)) (al_c (s_ifeq (off := 14) 17 (by decide) (by decide +kernel)) (al_c (s_aload_n (k := 0) (by decide +kernel)) (al_c (s_scod w_1759 (by decide +kernel)) (al_c (s_ifne (off := 7) 17 (by decide) (by decide +kernel)) (al_c (s_iconst (n := 1) (1) (by decide) (by decide +kernel)) (al_c (s_goto (off := 4) 18 (by decide) (by decide +kernel)) (al_c (s_iconst (n := 0) (0) (by decide) (by decide +kernel)) (al_c (s_zret rfl (by decide +kernel)) al_n)))))))))
set_option maxRecDepth 100000 in
set_option maxHeartbeats 4000000 in
theorem oJ0_isLatin1_aae02_1104 : Of (lkp bJ0_isLatin1_aae02_1104) 1 rJ0_isLatin1_aae02_1104 := by
  intro avs es r h
  obtain ⟨z, rfl, rfl, hp, rfl⟩ := h
  refine ⟨Nat.le_of_ble_eq_true rfl, ?_⟩
  unfold pJ0_isLatin1_aae02_1104 at hp
  refine Rn.go 7 (pc' := 18) (lv' := [(0, .ref 1104)]) (st' := [.int (1 : Int32)]) (es' := []) (c' := 0) (s' := 0) rfl ?_
  obtain rfl := Option.some.inj hp
  exact Rn.fin rfl rfl rfl
theorem qJ0_isLatin1_aae02_1104 : CtA yJ0_isLatin1_aae02 (.code yJ0_isLatin1_aae02 cJ0_isLatin1_aae02 1 (some .boolean)) 0 0 [] rJ0_isLatin1_aae02_1104 := CtA.of (by decide +kernel) (fun pc op h => kJ0_isLatin1_aae02_1104 _ (lkp_mem h)) oJ0_isLatin1_aae02_1104
/-! java/lang/StringLatin1.charAt([BI)C -/
def rJ1_charAt_3b067_1124 : List Value → List va_E → op_O → Prop := fun avs es r => ∃ (x1 : Int32) (z : Int32), avs = [.ref 1124, .int x1] ∧ es = [] ∧ pJ1_charAt_3b067_1124 x1 = some z ∧ r = (.inl (some (.int z)), [], 0, 0)
def bJ1_charAt_3b067_1124 : List (Nat × (op_T ⊕ op_R)) := [(0, .inl (o_iload 1 1)), (1, .inl (o_aload 2 0)), (2, .inl (o_blen 3)), (3, .inr (o_callS [] [] 6 2 rJ0_checkIndex_df160)), (6, .inl (o_aload 7 0)), (7, .inl (o_iload 8 1)), (8, .inl (o_bald 9)), (9, .inl (o_push 12 (.int (255)))), (12, .inl (o_ii 13 (fun x y => x &&& y))), (13, .inl (o_i2c 14)), (14, .inl (o_nret .char))]
set_option maxRecDepth 100000 in
set_option maxHeartbeats 4000000 in
theorem kJ1_charAt_3b067_1124 : ∀ q ∈ bJ1_charAt_3b067_1124, ok2 2 43 2 cJ1_charAt_3b067 yJ1_charAt_3b067.cls yJ1_charAt_3b067.name (some .char) (.code yJ1_charAt_3b067 cJ1_charAt_3b067 2 (some .char)) [] [] q.1 q.2 := (al_c (s_iload_n (k := 1) (by decide +kernel)) (al_c (s_aload_n (k := 0) (by decide +kernel)) (al_c (s_blen (by decide +kernel)) (al_c (s_callS (y := yJ0_checkIndex_df160) (bytes := cJ0_checkIndex_df160) (maxL := 2) (ret' := none) (fr' := 1) (lo' := 22) (n := 2) (ml := []) (mlc := []) qJ0_checkIndex_df160 w_851 w_852 w_18 w_853 ⟨by decide +kernel, by decide +kernel, by decide +kernel⟩ (by decide) (by decide) (by decide +kernel)) (al_c (s_aload_n (k := 0) (by decide +kernel)) (al_c (s_iload_n (k := 1) (by decide +kernel)) (al_c (s_bald (by decide +kernel)) (al_c (s_sipush (n := 255) (255) (by decide) (by decide +kernel)) (al_c (s_iand (by decide +kernel)) (al_c (s_i2c (by decide +kernel)) (al_c (s_nret rfl (by decide +kernel)) al_n)))))))))))
set_option maxRecDepth 100000 in
set_option maxHeartbeats 4000000 in
theorem oJ1_charAt_3b067_1124 : Of (lkp bJ1_charAt_3b067_1124) 2 rJ1_charAt_3b067_1124 := by
  intro avs es r h
  obtain ⟨x1, z, rfl, rfl, hp, rfl⟩ := h
  refine ⟨Nat.le_of_ble_eq_true rfl, ?_⟩
  unfold pJ1_charAt_3b067_1124 at hp
  refine Rn.go 3 (pc' := 3) (lv' := [(0, .ref 1124), (1, .int x1)]) (st' := [.int (nI (strN.getD (1124 - 1120) 0)), .int x1]) (es' := []) (c' := 0) (s' := 0) rfl ?_
  obtain ⟨z1, hz1, hp⟩ := ob_some hp
  refine Rn.rel (pc' := 6) (lv' := [(0, .ref 1124), (1, .int x1)]) (st' := []) (es' := []) (dc := 0) (ds := 0) rfl ⟨[.int x1, .int (nI (strN.getD (1124 - 1120) 0))], [], .inl none, [], 0, 0, rfl, rfl, Nat.le_of_ble_eq_true rfl, ⟨x1, (nI (strN.getD (1124 - 1120) 0)), z1, rfl, rfl, hz1, rfl⟩, rfl⟩ ?_
  refine Rn.go 2 (pc' := 8) (lv' := [(0, .ref 1124), (1, .int x1)]) (st' := [.int x1, .ref 1124]) (es' := []) (c' := 0) (s' := 0) rfl ?_
  by_cases h1 : (x1 < 0 ∨ (strN.getD (1124 - 1120) 0) ≤ x1.toNatClampNeg)
  · rw [if_pos h1] at hp; cases hp
  · rw [if_neg h1] at hp
    refine Rn.gd (pc' := 9) (lv' := [(0, .ref 1124), (1, .int x1)]) (st' := [.int ((strB.getD (1124 - 1120) []).getD x1.toNatClampNeg 0)]) (es' := []) rfl rfl h1 ?_
    refine Rn.go 3 (pc' := 14) (lv' := [(0, .ref 1124), (1, .int x1)]) (st' := [.int (((((strB.getD (1124 - 1120) []).getD x1.toNatClampNeg 0) &&& (255 : Int32))).toUInt32 % 65536).toInt32]) (es' := []) (c' := 0) (s' := 0) rfl ?_
    by_cases h2 : (narrow .char (.int (((((strB.getD (1124 - 1120) []).getD x1.toNatClampNeg 0) &&& (255 : Int32))).toUInt32 % 65536).toInt32) = .int (((((strB.getD (1124 - 1120) []).getD x1.toNatClampNeg 0) &&& (255 : Int32))).toUInt32 % 65536).toInt32)
    · rw [if_pos h2] at hp
      obtain rfl := Option.some.inj hp
      exact Rn.finz rfl rfl h2 rfl
    · rw [if_neg h2] at hp; cases hp
theorem qJ1_charAt_3b067_1124 : CtA yJ1_charAt_3b067 (.code yJ1_charAt_3b067 cJ1_charAt_3b067 2 (some .char)) 2 43 [] rJ1_charAt_3b067_1124 := CtA.of (by decide +kernel) (fun pc op h => kJ1_charAt_3b067_1124 _ (lkp_mem h)) oJ1_charAt_3b067_1124
/-! java/lang/String.charAt(I)C -/
def rJ0_charAt_5068e_1104 : List Value → List va_E → op_O → Prop := fun avs es r => ∃ (x1 : Int32) (z : Int32), avs = [.ref 1104, .int x1] ∧ es = [] ∧ pJ0_charAt_5068e_1104 x1 = some z ∧ r = (.inl (some (.int z)), [], 0, 0)
def bJ0_charAt_5068e_1104 : List (Nat × (op_T ⊕ op_R)) := [(0, .inl (o_aload 1 0)), (1, .inr (o_callX [] [] 4 0 rJ0_isLatin1_aae02_1104)), (4, .inl (o_ifeq 7 16)), (7, .inl (o_aload 8 0)), (8, .inl (o_sval 11)), (11, .inl (o_iload 12 1)), (12, .inr (o_callS [] [] 15 2 rJ1_charAt_3b067_1124)), (15, .inl (o_nret .char))]
set_option maxRecDepth 100000 in
set_option maxHeartbeats 4000000 in
theorem kJ0_charAt_5068e_1104 : ∀ q ∈ bJ0_charAt_5068e_1104, ok2 3 64 2 cJ0_charAt_5068e yJ0_charAt_5068e.cls yJ0_charAt_5068e.name (some .char) (.code yJ0_charAt_5068e cJ0_charAt_5068e 2 (some .char)) [] [] q.1 q.2 := (al_c (s_aload_n (k := 0) (by decide +kernel)) (al_c (s_callX (y := yJ0_isLatin1_aae02) (bytes := cJ0_isLatin1_aae02) (maxL := 1) (ret' := (some .boolean)) (fr' := 0) (lo' := 0) (n := 0) (ml := []) (mlc := []) qJ0_isLatin1_aae02_1104 w_844 w_845 w_846 w_18 w_847 ⟨by decide +kernel, by decide +kernel, by decide +kernel⟩ rfl (by decide) (by decide) (by decide +kernel)) (al_c (s_ifeq (off := 12) 16 (by decide) (by decide +kernel)) (al_c (s_aload_n (k := 0) (by decide +kernel)) (al_c (s_sval w_1758 (by decide +kernel)) (al_c (s_iload_n (k := 1) (by decide +kernel)) (al_c (s_callS (y := yJ1_charAt_3b067) (bytes := cJ1_charAt_3b067) (maxL := 2) (ret' := (some .char)) (fr' := 2) (lo' := 43) (n := 2) (ml := []) (mlc := []) qJ1_charAt_3b067_1124 w_848 w_849 w_19 w_850 ⟨by decide +kernel, by decide +kernel, by decide +kernel⟩ (by decide) (by decide) (by decide +kernel)) (al_c (s_nret rfl (by decide +kernel)) al_n))))))))
set_option maxRecDepth 100000 in
set_option maxHeartbeats 4000000 in
theorem oJ0_charAt_5068e_1104 : Of (lkp bJ0_charAt_5068e_1104) 2 rJ0_charAt_5068e_1104 := by
  intro avs es r h
  obtain ⟨x1, z, rfl, rfl, hp, rfl⟩ := h
  refine ⟨Nat.le_of_ble_eq_true rfl, ?_⟩
  unfold pJ0_charAt_5068e_1104 at hp
  refine Rn.go 1 (pc' := 1) (lv' := [(0, .ref 1104), (1, .int x1)]) (st' := [.ref 1104]) (es' := []) (c' := 0) (s' := 0) rfl ?_
  obtain ⟨z1, hz1, hp⟩ := ob_some hp
  refine Rn.rel (pc' := 4) (lv' := [(0, .ref 1104), (1, .int x1)]) (st' := [.int z1]) (es' := []) (dc := 0) (ds := 0) rfl ⟨1104, [], [], .inl (some (.int z1)), [], 0, 0, rfl, rfl, Nat.le_of_ble_eq_true rfl, rfl, ⟨z1, rfl, rfl, hz1, rfl⟩, rfl⟩ ?_
  refine Rn.br (P := z1 = 0) (pc1 := 16) (pc2 := 7) rfl rfl (fun h1 => ?_) (fun h1 => ?_)
  · rw [if_pos h1] at hp
    cases hp
  · rw [if_neg h1] at hp
    refine Rn.go 3 (pc' := 12) (lv' := [(0, .ref 1104), (1, .int x1)]) (st' := [.int x1, .ref 1124]) (es' := []) (c' := 0) (s' := 0) rfl ?_
    obtain ⟨z2, hz2, hp⟩ := ob_some hp
    refine Rn.rel (pc' := 15) (lv' := [(0, .ref 1104), (1, .int x1)]) (st' := [.int z2]) (es' := []) (dc := 0) (ds := 0) rfl ⟨[.ref 1124, .int x1], [], .inl (some (.int z2)), [], 0, 0, rfl, rfl, Nat.le_of_ble_eq_true rfl, ⟨x1, z2, rfl, rfl, hz2, rfl⟩, rfl⟩ ?_
    by_cases h2 : (narrow .char (.int z2) = .int z2)
    · rw [if_pos h2] at hp
      obtain rfl := Option.some.inj hp
      exact Rn.finz rfl rfl h2 rfl
    · rw [if_neg h2] at hp; cases hp
theorem qJ0_charAt_5068e_1104 : CtA yJ0_charAt_5068e (.code yJ0_charAt_5068e cJ0_charAt_5068e 2 (some .char)) 3 64 [] rJ0_charAt_5068e_1104 := CtA.of (by decide +kernel) (fun pc op h => kJ0_charAt_5068e_1104 _ (lkp_mem h)) oJ0_charAt_5068e_1104
