/-! TelescopeNight$Reader.<init>()V -/
def rX7_init : List Value → List va_E → op_O → Prop := fun avs es r => ∃  (z : Nat × Nat), avs = [.ref 0] ∧ es = [kO 7 [.null, .null, .int 0, .int 0, .int 0, .int 0, .int 0, .int 0, .int 0, .int 0]] ∧ pX7_init = some z ∧ r = (.inl none, [kO 7 [.ref 1, .ref 2, .int 0, .int 0, .int 0, .int 0, .int 0, .int 0, .int 0, .int (-1 : Int32)], kI 500 (fun _ => 0), kI 9 (fun _ => 0)], z.1, z.2)
def bX7_init : List (Nat × (op_T ⊕ op_R)) := [(0, .inl (o_aload 1 0)), (1, .inl (o_objInit 4)), (4, .inl (o_aload 5 0)), (5, .inl (o_push 8 (.int (500)))), (8, .inl (o_newa 10 0)), (10, .inl (o_put 13 7 0 (.array .int))), (13, .inl (o_aload 14 0)), (14, .inl (o_push 16 (.int (9)))), (16, .inl (o_newa 18 0)), (18, .inl (o_put 21 7 1 (.array .int))), (21, .inl (o_aload 22 0)), (22, .inl (o_push 23 (.int (-1)))), (23, .inl (o_put 26 7 9 .int)), (26, .inl (o_vret))]
set_option maxRecDepth 100000 in
set_option maxHeartbeats 4000000 in
theorem kX7_init : ∀ q ∈ bX7_init, ok2 1 20 1 cX7_init yX7_init.cls yX7_init.name none (.code yX7_init cX7_init 1 none) [] [] q.1 q.2 := (al_c (s_aload_n (k := 0) (by decide +kernel)) (al_c (s_objInit w_214 w_31 w_32 (by decide) (by decide) (by decide +kernel)) (al_c (s_aload_n (k := 0) (by decide +kernel)) (al_c (s_sipush (n := 500) (500) (by decide) (by decide +kernel)) (al_c (s_newa (at9 := .int) (Or.inl ⟨rfl, rfl⟩) w_123 (by decide +kernel)) (al_c (s_putF (C9 := RX7) (T9 := TX7) (N9 := 10) (ci := 7) (k := 0) iX7 rfl (by decide) w_215 tyX7 tyX7_ok nmX7 rfl rfl rfl (by decide +kernel)) (al_c (s_aload_n (k := 0) (by decide +kernel)) (al_c (s_bipush (n := 9) (9) (by decide) (by decide +kernel)) (al_c (s_newa (at9 := .int) (Or.inl ⟨rfl, rfl⟩) w_123 (by decide +kernel)) (al_c (s_putF (C9 := RX7) (T9 := TX7) (N9 := 10) (ci := 7) (k := 1) iX7 rfl (by decide) w_216 tyX7 tyX7_ok nmX7 rfl rfl rfl (by decide +kernel)) (al_c (s_aload_n (k := 0) (by decide +kernel)) (al_c (s_iconst (n := -1) (-1) (by decide) (by decide +kernel)) (al_c (s_put (C9 := RX7) (T9 := TX7) (N9 := 10) (ci := 7) (k := 9) iX7 rfl (by decide) w_226 tyX7 tyX7_ok nmX7 rfl (by decide +kernel)) (al_c (s_vret rfl (by decide +kernel)) al_n))))))))))))))
set_option maxRecDepth 100000 in
set_option maxHeartbeats 4000000 in
theorem oX7_init : Of (lkp bX7_init) 1 rX7_init := by
  intro avs es r h
  obtain ⟨z, rfl, rfl, hp, rfl⟩ := h
  refine ⟨Nat.le_of_ble_eq_true rfl, ?_⟩
  unfold pX7_init at hp
  refine Rn.go 5 (pc' := 10) (lv' := [(0, .ref 0)]) (st' := [.ref 1, .ref 0]) (es' := [kO 7 [.null, .null, .int 0, .int 0, .int 0, .int 0, .int 0, .int 0, .int 0, .int 0], kI 500 (fun _ => 0)]) (c' := 1) (s' := 500) rfl ?_
  refine Rn.go 4 (pc' := 18) (lv' := [(0, .ref 0)]) (st' := [.ref 2, .ref 0]) (es' := [kO 7 [.ref 1, .null, .int 0, .int 0, .int 0, .int 0, .int 0, .int 0, .int 0, .int 0], kI 500 (fun _ => 0), kI 9 (fun _ => 0)]) (c' := 2) (s' := 509) rfl ?_
  refine Rn.go 4 (pc' := 26) (lv' := [(0, .ref 0)]) (st' := []) (es' := [kO 7 [.ref 1, .ref 2, .int 0, .int 0, .int 0, .int 0, .int 0, .int 0, .int 0, .int (-1 : Int32)], kI 500 (fun _ => 0), kI 9 (fun _ => 0)]) (c' := 2) (s' := 509) rfl ?_
  obtain rfl := Option.some.inj hp
  exact Rn.fin rfl rfl rfl
theorem qX7_init : CtA yX7_init (.code yX7_init cX7_init 1 none) 1 20 [] rX7_init := CtA.of (by decide +kernel) (fun pc op h => kX7_init _ (lkp_mem h)) oX7_init
/-! TelescopeNight$Reader.hasRoom()Z -/
def rX7_hasRoom : List Value → List va_E → op_O → Prop := fun avs es r => ∃ (r_bytes : Nat → Int32) (r_values : Nat → Int32) (r_filled : Int32) (r_end : Int32) (r_at : Int32) (r_wordStart : Int32) (r_hasMoon : Int32) (r_hasSky : Int32) (r_error : Int32) (r_errorAt : Int32) (z : Int32), avs = [.ref 0] ∧ es = (wX7_Reader r_bytes r_values r_filled r_end r_at r_wordStart r_hasMoon r_hasSky r_error r_errorAt) ∧ pX7_hasRoom r_filled = some z ∧ r = (.inl (some (.int z)), (wX7_Reader r_bytes r_values r_filled r_end r_at r_wordStart r_hasMoon r_hasSky r_error r_errorAt), 0, 0)
def bX7_hasRoom : List (Nat × (op_T ⊕ op_R)) := [(0, .inl (o_aload 1 0)), (1, .inl (o_get 4 7 2)), (4, .inl (o_push 6 (.int (20)))), (6, .inl (o_ii 7 (fun x y => x + y))), (7, .inl (o_push 10 (.int (500)))), (10, .inl (o_icmpgt 13 17)), (13, .inl (o_push 14 (.int (1)))), (14, .inl (o_goto 18)), (17, .inl (o_push 18 (.int (0)))), (18, .inl (o_zret))]
set_option maxRecDepth 100000 in
set_option maxHeartbeats 4000000 in
theorem kX7_hasRoom : ∀ q ∈ bX7_hasRoom, ok2 0 0 1 cX7_hasRoom yX7_hasRoom.cls yX7_hasRoom.name (some .boolean) (.code yX7_hasRoom cX7_hasRoom 1 (some .boolean)) [] [] q.1 q.2 := (al_c (s_aload_n (k := 0) (by decide +kernel)) (al_c (s_get (C9 := RX7) (T9 := TX7) (N9 := 10) (ci := 7) (k := 2) iX7 rfl (by decide) w_217 (by decide +kernel)) (al_c (s_bipush (n := 20) (20) (by decide) (by decide +kernel)) (al_c (s_iadd (by decide +kernel)) (al_c (s_sipush (n := 500) (500) (by decide) (by decide +kernel)) (al_c (s_icmpgt (off := 7) 17 (by decide) (by decide +kernel)) (al_c (s_iconst (n := 1) (1) (by decide) (by decide +kernel)) (al_c (s_goto (off := 4) 18 (by decide) (by decide +kernel)) (al_c (s_iconst (n := 0) (0) (by decide) (by decide +kernel)) (al_c (s_zret rfl (by decide +kernel)) al_n))))))))))
set_option maxRecDepth 100000 in
set_option maxHeartbeats 4000000 in
theorem oX7_hasRoom : Of (lkp bX7_hasRoom) 1 rX7_hasRoom := by
  intro avs es r h
  obtain ⟨r_bytes, r_values, r_filled, r_end, r_at, r_wordStart, r_hasMoon, r_hasSky, r_error, r_errorAt, z, rfl, rfl, hp, rfl⟩ := h
  refine ⟨Nat.le_of_ble_eq_true rfl, ?_⟩
  unfold pX7_hasRoom at hp
  refine Rn.go 5 (pc' := 10) (lv' := [(0, .ref 0)]) (st' := [.int (500 : Int32), .int (r_filled + (20 : Int32))]) (es' := (wX7_Reader r_bytes r_values r_filled r_end r_at r_wordStart r_hasMoon r_hasSky r_error r_errorAt)) (c' := 0) (s' := 0) rfl ?_
  refine Rn.br (P := (500 : Int32) < (r_filled + (20 : Int32))) (pc1 := 17) (pc2 := 13) rfl rfl (fun h1 => ?_) (fun h1 => ?_)
  · rw [if_pos h1] at hp
    refine Rn.go 1 (pc' := 18) (lv' := [(0, .ref 0)]) (st' := [.int (0 : Int32)]) (es' := (wX7_Reader r_bytes r_values r_filled r_end r_at r_wordStart r_hasMoon r_hasSky r_error r_errorAt)) (c' := 0) (s' := 0) rfl ?_
    obtain rfl := Option.some.inj hp
    exact Rn.fin rfl rfl rfl
  · rw [if_neg h1] at hp
    refine Rn.go 2 (pc' := 18) (lv' := [(0, .ref 0)]) (st' := [.int (1 : Int32)]) (es' := (wX7_Reader r_bytes r_values r_filled r_end r_at r_wordStart r_hasMoon r_hasSky r_error r_errorAt)) (c' := 0) (s' := 0) rfl ?_
    obtain rfl := Option.some.inj hp
    exact Rn.fin rfl rfl rfl
theorem qX7_hasRoom : CtA yX7_hasRoom (.code yX7_hasRoom cX7_hasRoom 1 (some .boolean)) 0 0 [] rX7_hasRoom := CtA.of (by decide +kernel) (fun pc op h => kX7_hasRoom _ (lkp_mem h)) oX7_hasRoom
/-! TelescopeNight$Reader.add(I)V -/
def rX7_add : List Value → List va_E → op_O → Prop := fun avs es r => ∃ (x1 : Int32) (r_bytes : Nat → Int32) (r_values : Nat → Int32) (r_filled : Int32) (r_end : Int32) (r_at : Int32) (r_wordStart : Int32) (r_hasMoon : Int32) (r_hasSky : Int32) (r_error : Int32) (r_errorAt : Int32) (z : Int32 × (Nat → Int32)), avs = [.ref 0, .int x1] ∧ es = (wX7_Reader r_bytes r_values r_filled r_end r_at r_wordStart r_hasMoon r_hasSky r_error r_errorAt) ∧ pX7_add x1 r_bytes r_filled = some z ∧ r = (.inl none, (wX7_Reader z.2 r_values z.1 r_end r_at r_wordStart r_hasMoon r_hasSky r_error r_errorAt), 0, 0)
def bX7_add : List (Nat × (op_T ⊕ op_R)) := [(0, .inl (o_push 2 (.int (24)))), (2, .inl (nrm [0, 1, 2] (o_istore 3 2))), (3, .inl (o_iload 4 2)), (4, .inl (o_iflt 7 49)), (7, .inl (o_aload 8 0)), (8, .inl (o_get 11 7 2)), (11, .inl (o_push 14 (.int (500)))), (14, .inl (o_icmpge 17 49)), (17, .inl (o_aload 18 0)), (18, .inl (o_get 21 7 0)), (21, .inl (o_aload 22 0)), (22, .inl (o_get 25 7 2)), (25, .inl (o_iload 26 1)), (26, .inl (o_iload 27 2)), (27, .inl (o_ii 28 (fun x y => x >>> (y &&& 31)))), (28, .inl (o_push 31 (.int (255)))), (31, .inl (o_ii 32 (fun x y => x &&& y))), (32, .inl (o_iast 33)), (33, .inl (o_aload 34 0)), (34, .inl (o_dup 35)), (35, .inl (o_get 38 7 2)), (38, .inl (o_push 39 (.int (1)))), (39, .inl (o_ii 40 (fun x y => x + y))), (40, .inl (o_put 43 7 2 .int)), (43, .inl (o_iinc 46 2 (-8))), (46, .inl (nrm [0, 1, 2] (o_goto 3))), (49, .inl (o_vret))]
set_option maxRecDepth 100000 in
set_option maxHeartbeats 4000000 in
theorem kX7_add : ∀ q ∈ bX7_add, ok2 0 0 3 cX7_add yX7_add.cls yX7_add.name none (.code yX7_add cX7_add 3 none) [] [] q.1 q.2 := (al_c (s_bipush (n := 24) (24) (by decide) (by decide +kernel)) (al_c (s_nrm [0, 1, 2] (s_istore_n (k := 2) rfl (by decide) (by decide +kernel))) (al_c (s_iload_n (k := 2) (by decide +kernel)) (al_c (s_iflt (off := 45) 49 (by decide) (by decide +kernel)) (al_c (s_aload_n (k := 0) (by decide +kernel)) (al_c (s_get (C9 := RX7) (T9 := TX7) (N9 := 10) (ci := 7) (k := 2) iX7 rfl (by decide) w_217 (by decide +kernel)) (al_c (s_sipush (n := 500) (500) (by decide) (by decide +kernel)) (al_c (s_icmpge (off := 35) 49 (by decide) (by decide +kernel)) (al_c (s_aload_n (k := 0) (by decide +kernel)) (al_c (s_get (C9 := RX7) (T9 := TX7) (N9 := 10) (ci := 7) (k := 0) iX7 rfl (by decide) w_215 (by decide +kernel)) (al_c (s_aload_n (k := 0) (by decide +kernel)) (al_c (s_get (C9 := RX7) (T9 := TX7) (N9 := 10) (ci := 7) (k := 2) iX7 rfl (by decide) w_217 (by decide +kernel)) (al_c (s_iload_n (k := 1) (by decide +kernel)) (al_c (s_iload_n (k := 2) (by decide +kernel)) (al_c (s_ishr (by decide +kernel)) (al_c (s_sipush (n := 255) (255) (by decide) (by decide +kernel)) (al_c (s_iand (by decide +kernel)) (al_c (s_iast (by decide +kernel)) (al_c (s_aload_n (k := 0) (by decide +kernel)) (al_c (s_dup (by decide +kernel)) (al_c (s_get (C9 := RX7) (T9 := TX7) (N9 := 10) (ci := 7) (k := 2) iX7 rfl (by decide) w_217 (by decide +kernel)) (al_c (s_iconst (n := 1) (1) (by decide) (by decide +kernel)) (al_c (s_iadd (by decide +kernel)) (al_c (s_put (C9 := RX7) (T9 := TX7) (N9 := 10) (ci := 7) (k := 2) iX7 rfl (by decide) w_217 tyX7 tyX7_ok nmX7 rfl (by decide +kernel)) (al_c (s_iinc (n := -8) (-8) (by decide) (by decide) (by decide +kernel)) (al_c (s_nrm [0, 1, 2] (s_goto (off := -43) 3 (by decide) (by decide +kernel))) (al_c (s_vret rfl (by decide +kernel)) al_n)))))))))))))))))))))))))))
set_option maxRecDepth 100000 in
set_option maxHeartbeats 4000000 in
theorem lrX7_add_3 (l1 : Int32) (r_values : Nat → Int32) (r_end : Int32) (r_at : Int32) (r_wordStart : Int32) (r_hasMoon : Int32) (r_hasSky : Int32) (r_error : Int32) (r_errorAt : Int32) : ∀ (fu : Nat) (l2 : Int32) (r_bytes : Nat → Int32) (r_filled : Int32) (z : (Int32 × (Nat → Int32) × Int32)), lpX7_add_3 l1 fu l2 r_bytes r_filled = some z → ∀ (c s : Nat) (r : op_O), Rn (lkp bX7_add) 49 [(0, .ref 0), (1, .int l1), (2, .int z.1)] [] (wX7_Reader z.2.1 r_values z.2.2 r_end r_at r_wordStart r_hasMoon r_hasSky r_error r_errorAt) c s r → Rn (lkp bX7_add) 3 [(0, .ref 0), (1, .int l1), (2, .int l2)] [] (wX7_Reader r_bytes r_values r_filled r_end r_at r_wordStart r_hasMoon r_hasSky r_error r_errorAt) c s r := by
  intro fu
  induction fu with
  | zero => intro l2 r_bytes r_filled z hp; cases hp
  | succ fu ih =>
      intro l2 r_bytes r_filled z hp c s r k
      unfold lpX7_add_3 at hp
      refine Rn.go 1 (pc' := 4) (lv' := [(0, .ref 0), (1, .int l1), (2, .int l2)]) (st' := [.int l2]) (es' := (wX7_Reader r_bytes r_values r_filled r_end r_at r_wordStart r_hasMoon r_hasSky r_error r_errorAt)) (c' := c) (s' := s) rfl ?_
      refine Rn.br (P := l2 < 0) (pc1 := 49) (pc2 := 7) rfl rfl (fun h1 => ?_) (fun h1 => ?_)
      · rw [if_pos h1] at hp
        obtain rfl := Option.some.inj hp
        exact k
      · rw [if_neg h1] at hp
        refine Rn.go 3 (pc' := 14) (lv' := [(0, .ref 0), (1, .int l1), (2, .int l2)]) (st' := [.int (500 : Int32), .int r_filled]) (es' := (wX7_Reader r_bytes r_values r_filled r_end r_at r_wordStart r_hasMoon r_hasSky r_error r_errorAt)) (c' := c) (s' := s) rfl ?_
        refine Rn.br (P := (500 : Int32) ≤ r_filled) (pc1 := 49) (pc2 := 17) rfl rfl (fun h2 => ?_) (fun h2 => ?_)
        · rw [if_pos h2] at hp
          obtain rfl := Option.some.inj hp
          exact k
        · rw [if_neg h2] at hp
          refine Rn.go 9 (pc' := 32) (lv' := [(0, .ref 0), (1, .int l1), (2, .int l2)]) (st' := [.int ((l1 >>> (l2 &&& 31)) &&& (255 : Int32)), .int r_filled, .ref 1]) (es' := (wX7_Reader r_bytes r_values r_filled r_end r_at r_wordStart r_hasMoon r_hasSky r_error r_errorAt)) (c' := c) (s' := s) rfl ?_
          by_cases h3 : (r_filled < 0 ∨ 500 ≤ r_filled.toNatClampNeg)
          · rw [if_pos h3] at hp; cases hp
          · rw [if_neg h3] at hp
            refine Rn.gd (pc' := 33) (lv' := [(0, .ref 0), (1, .int l1), (2, .int l2)]) (st' := []) (es' := (wX7_Reader (upd r_bytes r_filled.toNatClampNeg (((l1 >>> (l2 &&& 31)) &&& (255 : Int32)))) r_values r_filled r_end r_at r_wordStart r_hasMoon r_hasSky r_error r_errorAt)) rfl rfl h3 ?_
            refine Rn.go 8 (pc' := 3) (lv' := [(0, .ref 0), (1, .int l1), (2, .int (l2 + (-8 : Int32)))]) (st' := []) (es' := (wX7_Reader (upd r_bytes r_filled.toNatClampNeg (((l1 >>> (l2 &&& 31)) &&& (255 : Int32)))) r_values (r_filled + (1 : Int32)) r_end r_at r_wordStart r_hasMoon r_hasSky r_error r_errorAt)) (c' := c) (s' := s) rfl ?_
            exact ih (l2 + (-8 : Int32)) (upd r_bytes r_filled.toNatClampNeg (((l1 >>> (l2 &&& 31)) &&& (255 : Int32)))) (r_filled + (1 : Int32)) z hp c s r k
set_option maxRecDepth 100000 in
set_option maxHeartbeats 4000000 in
theorem oX7_add : Of (lkp bX7_add) 3 rX7_add := by
  intro avs es r h
  obtain ⟨x1, r_bytes, r_values, r_filled, r_end, r_at, r_wordStart, r_hasMoon, r_hasSky, r_error, r_errorAt, z, rfl, rfl, hp, rfl⟩ := h
  refine ⟨Nat.le_of_ble_eq_true rfl, ?_⟩
  unfold pX7_add at hp
  refine Rn.go 2 (pc' := 3) (lv' := [(0, .ref 0), (1, .int x1), (2, .int (24 : Int32))]) (st' := []) (es' := (wX7_Reader r_bytes r_values r_filled r_end r_at r_wordStart r_hasMoon r_hasSky r_error r_errorAt)) (c' := 0) (s' := 0) rfl ?_
  obtain ⟨z1, hz1, hp⟩ := ob_some hp
  refine lrX7_add_3 x1 r_values r_end r_at r_wordStart r_hasMoon r_hasSky r_error r_errorAt _ (24 : Int32) r_bytes r_filled z1 hz1 _ _ _ ?_
  obtain rfl := Option.some.inj hp
  exact Rn.fin rfl rfl rfl
theorem qX7_add : CtA yX7_add (.code yX7_add cX7_add 3 none) 0 0 [] rX7_add := CtA.of (by decide +kernel) (fun pc op h => kX7_add _ (lkp_mem h)) oX7_add
/-! TelescopeNight$Reader.skipSpaces()V -/
def rX7_skipSpaces : List Value → List va_E → op_O → Prop := fun avs es r => ∃ (r_bytes : Nat → Int32) (r_values : Nat → Int32) (r_filled : Int32) (r_end : Int32) (r_at : Int32) (r_wordStart : Int32) (r_hasMoon : Int32) (r_hasSky : Int32) (r_error : Int32) (r_errorAt : Int32) (z : Int32), avs = [.ref 0] ∧ es = (wX7_Reader r_bytes r_values r_filled r_end r_at r_wordStart r_hasMoon r_hasSky r_error r_errorAt) ∧ pX7_skipSpaces r_bytes r_end r_at = some z ∧ r = (.inl none, (wX7_Reader r_bytes r_values r_filled r_end z r_wordStart r_hasMoon r_hasSky r_error r_errorAt), 0, 0)
def bX7_skipSpaces : List (Nat × (op_T ⊕ op_R)) := [(0, .inl (o_aload 1 0)), (1, .inl (o_get 4 7 4)), (4, .inl (o_aload 5 0)), (5, .inl (o_get 8 7 3)), (8, .inl (o_icmpge 11 38)), (11, .inl (o_aload 12 0)), (12, .inl (o_get 15 7 0)), (15, .inl (o_aload 16 0)), (16, .inl (o_get 19 7 4)), (19, .inl (o_iald 20)), (20, .inl (o_push 22 (.int (32)))), (22, .inl (o_icmpne 25 38)), (25, .inl (o_aload 26 0)), (26, .inl (o_dup 27)), (27, .inl (o_get 30 7 4)), (30, .inl (o_push 31 (.int (1)))), (31, .inl (o_ii 32 (fun x y => x + y))), (32, .inl (o_put 35 7 4 .int)), (35, .inl (nrm [0] (o_goto 0))), (38, .inl (o_vret))]
set_option maxRecDepth 100000 in
set_option maxHeartbeats 4000000 in
theorem kX7_skipSpaces : ∀ q ∈ bX7_skipSpaces, ok2 0 0 1 cX7_skipSpaces yX7_skipSpaces.cls yX7_skipSpaces.name none (.code yX7_skipSpaces cX7_skipSpaces 1 none) [] [] q.1 q.2 := (al_c (s_aload_n (k := 0) (by decide +kernel)) (al_c (s_get (C9 := RX7) (T9 := TX7) (N9 := 10) (ci := 7) (k := 4) iX7 rfl (by decide) w_220 (by decide +kernel)) (al_c (s_aload_n (k := 0) (by decide +kernel)) (al_c (s_get (C9 := RX7) (T9 := TX7) (N9 := 10) (ci := 7) (k := 3) iX7 rfl (by decide) w_219 (by decide +kernel)) (al_c (s_icmpge (off := 30) 38 (by decide) (by decide +kernel)) (al_c (s_aload_n (k := 0) (by decide +kernel)) (al_c (s_get (C9 := RX7) (T9 := TX7) (N9 := 10) (ci := 7) (k := 0) iX7 rfl (by decide) w_215 (by decide +kernel)) (al_c (s_aload_n (k := 0) (by decide +kernel)) (al_c (s_get (C9 := RX7) (T9 := TX7) (N9 := 10) (ci := 7) (k := 4) iX7 rfl (by decide) w_220 (by decide +kernel)) (al_c (s_iald (by decide +kernel)) (al_c (s_bipush (n := 32) (32) (by decide) (by decide +kernel)) (al_c (s_icmpne (off := 16) 38 (by decide) (by decide +kernel)) (al_c (s_aload_n (k := 0) (by decide +kernel)) (al_c (s_dup (by decide +kernel)) (al_c (s_get (C9 := RX7) (T9 := TX7) (N9 := 10) (ci := 7) (k := 4) iX7 rfl (by decide) w_220 (by decide +kernel)) (al_c (s_iconst (n := 1) (1) (by decide) (by decide +kernel)) (al_c (s_iadd (by decide +kernel)) (al_c (s_put (C9 := RX7) (T9 := TX7) (N9 := 10) (ci := 7) (k := 4) iX7 rfl (by decide) w_220 tyX7 tyX7_ok nmX7 rfl (by decide +kernel)) (al_c (s_nrm [0] (s_goto (off := -35) 0 (by decide) (by decide +kernel))) (al_c (s_vret rfl (by decide +kernel)) al_n))))))))))))))))))))
set_option maxRecDepth 100000 in
set_option maxHeartbeats 4000000 in
theorem lrX7_skipSpaces_0 (r_bytes : Nat → Int32) (r_values : Nat → Int32) (r_filled : Int32) (r_end : Int32) (r_wordStart : Int32) (r_hasMoon : Int32) (r_hasSky : Int32) (r_error : Int32) (r_errorAt : Int32) : ∀ (fu : Nat) (r_at : Int32) (z : (Int32)), lpX7_skipSpaces_0 r_bytes r_end fu r_at = some z → ∀ (c s : Nat) (r : op_O), Rn (lkp bX7_skipSpaces) 38 [(0, .ref 0)] [] (wX7_Reader r_bytes r_values r_filled r_end z r_wordStart r_hasMoon r_hasSky r_error r_errorAt) c s r → Rn (lkp bX7_skipSpaces) 0 [(0, .ref 0)] [] (wX7_Reader r_bytes r_values r_filled r_end r_at r_wordStart r_hasMoon r_hasSky r_error r_errorAt) c s r := by
  intro fu
  induction fu with
  | zero => intro r_at z hp; cases hp
  | succ fu ih =>
      intro r_at z hp c s r k
      unfold lpX7_skipSpaces_0 at hp
      refine Rn.go 4 (pc' := 8) (lv' := [(0, .ref 0)]) (st' := [.int r_end, .int r_at]) (es' := (wX7_Reader r_bytes r_values r_filled r_end r_at r_wordStart r_hasMoon r_hasSky r_error r_errorAt)) (c' := c) (s' := s) rfl ?_
      refine Rn.br (P := r_end ≤ r_at) (pc1 := 38) (pc2 := 11) rfl rfl (fun h1 => ?_) (fun h1 => ?_)
      · rw [if_pos h1] at hp
        obtain rfl := Option.some.inj hp
        exact k
      · rw [if_neg h1] at hp
        refine Rn.go 4 (pc' := 19) (lv' := [(0, .ref 0)]) (st' := [.int r_at, .ref 1]) (es' := (wX7_Reader r_bytes r_values r_filled r_end r_at r_wordStart r_hasMoon r_hasSky r_error r_errorAt)) (c' := c) (s' := s) rfl ?_
        by_cases h2 : (r_at < 0 ∨ 500 ≤ r_at.toNatClampNeg)
        · rw [if_pos h2] at hp; cases hp
        · rw [if_neg h2] at hp
          refine Rn.gd (pc' := 20) (lv' := [(0, .ref 0)]) (st' := [.int (r_bytes r_at.toNatClampNeg)]) (es' := (wX7_Reader r_bytes r_values r_filled r_end r_at r_wordStart r_hasMoon r_hasSky r_error r_errorAt)) rfl rfl h2 ?_
          refine Rn.go 1 (pc' := 22) (lv' := [(0, .ref 0)]) (st' := [.int (32 : Int32), .int (r_bytes r_at.toNatClampNeg)]) (es' := (wX7_Reader r_bytes r_values r_filled r_end r_at r_wordStart r_hasMoon r_hasSky r_error r_errorAt)) (c' := c) (s' := s) rfl ?_
          refine Rn.br (P := ¬ (r_bytes r_at.toNatClampNeg) = (32 : Int32)) (pc1 := 38) (pc2 := 25) rfl rfl (fun h3 => ?_) (fun h3 => ?_)
          · rw [if_pos h3] at hp
            obtain rfl := Option.some.inj hp
            exact k
          · rw [if_neg h3] at hp
            refine Rn.go 7 (pc' := 0) (lv' := [(0, .ref 0)]) (st' := []) (es' := (wX7_Reader r_bytes r_values r_filled r_end (r_at + (1 : Int32)) r_wordStart r_hasMoon r_hasSky r_error r_errorAt)) (c' := c) (s' := s) rfl ?_
            exact ih (r_at + (1 : Int32)) z hp c s r k
set_option maxRecDepth 100000 in
set_option maxHeartbeats 4000000 in
theorem oX7_skipSpaces : Of (lkp bX7_skipSpaces) 1 rX7_skipSpaces := by
  intro avs es r h
  obtain ⟨r_bytes, r_values, r_filled, r_end, r_at, r_wordStart, r_hasMoon, r_hasSky, r_error, r_errorAt, z, rfl, rfl, hp, rfl⟩ := h
  refine ⟨Nat.le_of_ble_eq_true rfl, ?_⟩
  unfold pX7_skipSpaces at hp
  obtain ⟨z1, hz1, hp⟩ := ob_some hp
  refine lrX7_skipSpaces_0 r_bytes r_values r_filled r_end r_wordStart r_hasMoon r_hasSky r_error r_errorAt _ r_at z1 hz1 _ _ _ ?_
  obtain rfl := Option.some.inj hp
  exact Rn.fin rfl rfl rfl
theorem qX7_skipSpaces : CtA yX7_skipSpaces (.code yX7_skipSpaces cX7_skipSpaces 1 none) 0 0 [] rX7_skipSpaces := CtA.of (by decide +kernel) (fun pc op h => kX7_skipSpaces _ (lkp_mem h)) oX7_skipSpaces
/-! TelescopeNight$Reader.takeWord()V -/
def rX7_takeWord : List Value → List va_E → op_O → Prop := fun avs es r => ∃ (r_bytes : Nat → Int32) (r_values : Nat → Int32) (r_filled : Int32) (r_end : Int32) (r_at : Int32) (r_wordStart : Int32) (r_hasMoon : Int32) (r_hasSky : Int32) (r_error : Int32) (r_errorAt : Int32) (z : Int32 × Int32), avs = [.ref 0] ∧ es = (wX7_Reader r_bytes r_values r_filled r_end r_at r_wordStart r_hasMoon r_hasSky r_error r_errorAt) ∧ pX7_takeWord r_bytes r_end r_at = some z ∧ r = (.inl none, (wX7_Reader r_bytes r_values r_filled r_end z.1 z.2 r_hasMoon r_hasSky r_error r_errorAt), 0, 0)
def bX7_takeWord : List (Nat × (op_T ⊕ op_R)) := [(0, .inl (o_aload 1 0)), (1, .inr (o_callV [] [] 4 0 7 rX7_skipSpaces)), (4, .inl (o_aload 5 0)), (5, .inl (o_aload 6 0)), (6, .inl (o_get 9 7 4)), (9, .inl (nrm [0] (o_put 12 7 5 .int))), (12, .inl (o_aload 13 0)), (13, .inl (o_get 16 7 4)), (16, .inl (o_aload 17 0)), (17, .inl (o_get 20 7 3)), (20, .inl (o_icmpge 23 64)), (23, .inl (o_aload 24 0)), (24, .inl (o_get 27 7 0)), (27, .inl (o_aload 28 0)), (28, .inl (o_get 31 7 4)), (31, .inl (o_iald 32)), (32, .inl (o_push 34 (.int (97)))), (34, .inl (o_icmplt 37 64)), (37, .inl (o_aload 38 0)), (38, .inl (o_get 41 7 0)), (41, .inl (o_aload 42 0)), (42, .inl (o_get 45 7 4)), (45, .inl (o_iald 46)), (46, .inl (o_push 48 (.int (122)))), (48, .inl (o_icmpgt 51 64)), (51, .inl (o_aload 52 0)), (52, .inl (o_dup 53)), (53, .inl (o_get 56 7 4)), (56, .inl (o_push 57 (.int (1)))), (57, .inl (o_ii 58 (fun x y => x + y))), (58, .inl (o_put 61 7 4 .int)), (61, .inl (nrm [0] (o_goto 12))), (64, .inl (o_vret))]
set_option maxRecDepth 100000 in
set_option maxHeartbeats 4000000 in
theorem kX7_takeWord : ∀ q ∈ bX7_takeWord, ok2 1 20 1 cX7_takeWord yX7_takeWord.cls yX7_takeWord.name none (.code yX7_takeWord cX7_takeWord 1 none) [] [] q.1 q.2 := (al_c (s_aload_n (k := 0) (by decide +kernel)) (al_c (s_callV (y := yX7_skipSpaces) (bytes := cX7_skipSpaces) (maxL := 1) (ret' := none) (fr' := 0) (lo' := 0) (n := 0) (ml := []) (mlc := []) (ci := 7) (q9 := (RX7, TX7, 10)) qX7_skipSpaces w_821 w_823 wp_31 w_7 w_824 ⟨by decide +kernel, by decide +kernel, by decide +kernel⟩ rfl rfl (by decide) (by decide) (by decide +kernel)) (al_c (s_aload_n (k := 0) (by decide +kernel)) (al_c (s_aload_n (k := 0) (by decide +kernel)) (al_c (s_get (C9 := RX7) (T9 := TX7) (N9 := 10) (ci := 7) (k := 4) iX7 rfl (by decide) w_220 (by decide +kernel)) (al_c (s_nrm [0] (s_put (C9 := RX7) (T9 := TX7) (N9 := 10) (ci := 7) (k := 5) iX7 rfl (by decide) w_221 tyX7 tyX7_ok nmX7 rfl (by decide +kernel))) (al_c (s_aload_n (k := 0) (by decide +kernel)) (al_c (s_get (C9 := RX7) (T9 := TX7) (N9 := 10) (ci := 7) (k := 4) iX7 rfl (by decide) w_220 (by decide +kernel)) (al_c (s_aload_n (k := 0) (by decide +kernel)) (al_c (s_get (C9 := RX7) (T9 := TX7) (N9 := 10) (ci := 7) (k := 3) iX7 rfl (by decide) w_219 (by decide +kernel)) (al_c (s_icmpge (off := 44) 64 (by decide) (by decide +kernel)) (al_c (s_aload_n (k := 0) (by decide +kernel)) (al_c (s_get (C9 := RX7) (T9 := TX7) (N9 := 10) (ci := 7) (k := 0) iX7 rfl (by decide) w_215 (by decide +kernel)) (al_c (s_aload_n (k := 0) (by decide +kernel)) (al_c (s_get (C9 := RX7) (T9 := TX7) (N9 := 10) (ci := 7) (k := 4) iX7 rfl (by decide) w_220 (by decide +kernel)) (al_c (s_iald (by decide +kernel)) (al_c (s_bipush (n := 97) (97) (by decide) (by decide +kernel)) (al_c (s_icmplt (off := 30) 64 (by decide) (by decide +kernel)) (al_c (s_aload_n (k := 0) (by decide +kernel)) (al_c (s_get (C9 := RX7) (T9 := TX7) (N9 := 10) (ci := 7) (k := 0) iX7 rfl (by decide) w_215 (by decide +kernel)) (al_c (s_aload_n (k := 0) (by decide +kernel)) (al_c (s_get (C9 := RX7) (T9 := TX7) (N9 := 10) (ci := 7) (k := 4) iX7 rfl (by decide) w_220 (by decide +kernel)) (al_c (s_iald (by decide +kernel)) (al_c (s_bipush (n := 122) (122) (by decide) (by decide +kernel)) (al_c (s_icmpgt (off := 16) 64 (by decide) (by decide +kernel)) (al_c (s_aload_n (k := 0) (by decide +kernel)) (al_c (s_dup (by decide +kernel)) (al_c (s_get (C9 := RX7) (T9 := TX7) (N9 := 10) (ci := 7) (k := 4) iX7 rfl (by decide) w_220 (by decide +kernel)) (al_c (s_iconst (n := 1) (1) (by decide) (by decide +kernel)) (al_c (s_iadd (by decide +kernel)) (al_c (s_put (C9 := RX7) (T9 := TX7) (N9 := 10) (ci := 7) (k := 4) iX7 rfl (by decide) w_220 tyX7 tyX7_ok nmX7 rfl (by decide +kernel)) (al_c (s_nrm [0] (s_goto (off := -49) 12 (by decide) (by decide +kernel))) (al_c (s_vret rfl (by decide +kernel)) al_n)))))))))))))))))))))))))))))))))
set_option maxRecDepth 100000 in
set_option maxHeartbeats 4000000 in
theorem lrX7_takeWord_12 (r_bytes : Nat → Int32) (r_values : Nat → Int32) (r_filled : Int32) (r_end : Int32) (r_wordStart : Int32) (r_hasMoon : Int32) (r_hasSky : Int32) (r_error : Int32) (r_errorAt : Int32) : ∀ (fu : Nat) (r_at : Int32) (z : (Int32)), lpX7_takeWord_12 r_bytes r_end fu r_at = some z → ∀ (c s : Nat) (r : op_O), Rn (lkp bX7_takeWord) 64 [(0, .ref 0)] [] (wX7_Reader r_bytes r_values r_filled r_end z r_wordStart r_hasMoon r_hasSky r_error r_errorAt) c s r → Rn (lkp bX7_takeWord) 12 [(0, .ref 0)] [] (wX7_Reader r_bytes r_values r_filled r_end r_at r_wordStart r_hasMoon r_hasSky r_error r_errorAt) c s r := by
  intro fu
  induction fu with
  | zero => intro r_at z hp; cases hp
  | succ fu ih =>
      intro r_at z hp c s r k
      unfold lpX7_takeWord_12 at hp
      refine Rn.go 4 (pc' := 20) (lv' := [(0, .ref 0)]) (st' := [.int r_end, .int r_at]) (es' := (wX7_Reader r_bytes r_values r_filled r_end r_at r_wordStart r_hasMoon r_hasSky r_error r_errorAt)) (c' := c) (s' := s) rfl ?_
      refine Rn.br (P := r_end ≤ r_at) (pc1 := 64) (pc2 := 23) rfl rfl (fun h1 => ?_) (fun h1 => ?_)
      · rw [if_pos h1] at hp
        obtain rfl := Option.some.inj hp
        exact k
      · rw [if_neg h1] at hp
        refine Rn.go 4 (pc' := 31) (lv' := [(0, .ref 0)]) (st' := [.int r_at, .ref 1]) (es' := (wX7_Reader r_bytes r_values r_filled r_end r_at r_wordStart r_hasMoon r_hasSky r_error r_errorAt)) (c' := c) (s' := s) rfl ?_
        by_cases h2 : (r_at < 0 ∨ 500 ≤ r_at.toNatClampNeg)
        · rw [if_pos h2] at hp; cases hp
        · rw [if_neg h2] at hp
          refine Rn.gd (pc' := 32) (lv' := [(0, .ref 0)]) (st' := [.int (r_bytes r_at.toNatClampNeg)]) (es' := (wX7_Reader r_bytes r_values r_filled r_end r_at r_wordStart r_hasMoon r_hasSky r_error r_errorAt)) rfl rfl h2 ?_
          refine Rn.go 1 (pc' := 34) (lv' := [(0, .ref 0)]) (st' := [.int (97 : Int32), .int (r_bytes r_at.toNatClampNeg)]) (es' := (wX7_Reader r_bytes r_values r_filled r_end r_at r_wordStart r_hasMoon r_hasSky r_error r_errorAt)) (c' := c) (s' := s) rfl ?_
          refine Rn.br (P := (r_bytes r_at.toNatClampNeg) < (97 : Int32)) (pc1 := 64) (pc2 := 37) rfl rfl (fun h3 => ?_) (fun h3 => ?_)
          · rw [if_pos h3] at hp
            obtain rfl := Option.some.inj hp
            exact k
          · rw [if_neg h3] at hp
            refine Rn.go 4 (pc' := 45) (lv' := [(0, .ref 0)]) (st' := [.int r_at, .ref 1]) (es' := (wX7_Reader r_bytes r_values r_filled r_end r_at r_wordStart r_hasMoon r_hasSky r_error r_errorAt)) (c' := c) (s' := s) rfl ?_
            refine Rn.gd (pc' := 46) (lv' := [(0, .ref 0)]) (st' := [.int (r_bytes r_at.toNatClampNeg)]) (es' := (wX7_Reader r_bytes r_values r_filled r_end r_at r_wordStart r_hasMoon r_hasSky r_error r_errorAt)) rfl rfl h2 ?_
            refine Rn.go 1 (pc' := 48) (lv' := [(0, .ref 0)]) (st' := [.int (122 : Int32), .int (r_bytes r_at.toNatClampNeg)]) (es' := (wX7_Reader r_bytes r_values r_filled r_end r_at r_wordStart r_hasMoon r_hasSky r_error r_errorAt)) (c' := c) (s' := s) rfl ?_
            refine Rn.br (P := (122 : Int32) < (r_bytes r_at.toNatClampNeg)) (pc1 := 64) (pc2 := 51) rfl rfl (fun h4 => ?_) (fun h4 => ?_)
            · rw [if_pos h4] at hp
              obtain rfl := Option.some.inj hp
              exact k
            · rw [if_neg h4] at hp
              refine Rn.go 7 (pc' := 12) (lv' := [(0, .ref 0)]) (st' := []) (es' := (wX7_Reader r_bytes r_values r_filled r_end (r_at + (1 : Int32)) r_wordStart r_hasMoon r_hasSky r_error r_errorAt)) (c' := c) (s' := s) rfl ?_
              exact ih (r_at + (1 : Int32)) z hp c s r k
set_option maxRecDepth 100000 in
set_option maxHeartbeats 4000000 in
theorem oX7_takeWord : Of (lkp bX7_takeWord) 1 rX7_takeWord := by
  intro avs es r h
  obtain ⟨r_bytes, r_values, r_filled, r_end, r_at, r_wordStart, r_hasMoon, r_hasSky, r_error, r_errorAt, z, rfl, rfl, hp, rfl⟩ := h
  refine ⟨Nat.le_of_ble_eq_true rfl, ?_⟩
  unfold pX7_takeWord at hp
  refine Rn.go 1 (pc' := 1) (lv' := [(0, .ref 0)]) (st' := [.ref 0]) (es' := (wX7_Reader r_bytes r_values r_filled r_end r_at r_wordStart r_hasMoon r_hasSky r_error r_errorAt)) (c' := 0) (s' := 0) rfl ?_
  obtain ⟨z1, hz1, hp⟩ := ob_some hp
  refine Rn.rel (pc' := 4) (lv' := [(0, .ref 0)]) (st' := []) (es' := (wX7_Reader r_bytes r_values r_filled r_end z1 r_wordStart r_hasMoon r_hasSky r_error r_errorAt)) (dc := 0) (ds := 0) rfl ⟨0, [], _, [0, 1, 2], .inl none, (wX7_Reader r_bytes r_values r_filled r_end z1 r_wordStart r_hasMoon r_hasSky r_error r_errorAt), 0, 0, rfl, rfl, Nat.le_of_ble_eq_true rfl, rfl, ⟨r_bytes, r_values, r_filled, r_end, r_at, r_wordStart, r_hasMoon, r_hasSky, r_error, r_errorAt, z1, rfl, rfl, hz1, rfl⟩, rfl⟩ ?_
  refine Rn.go 4 (pc' := 12) (lv' := [(0, .ref 0)]) (st' := []) (es' := (wX7_Reader r_bytes r_values r_filled r_end z1 z1 r_hasMoon r_hasSky r_error r_errorAt)) (c' := 0) (s' := 0) rfl ?_
  obtain ⟨z2, hz2, hp⟩ := ob_some hp
  refine lrX7_takeWord_12 r_bytes r_values r_filled r_end z1 r_hasMoon r_hasSky r_error r_errorAt _ z1 z2 hz2 _ _ _ ?_
  obtain rfl := Option.some.inj hp
  exact Rn.fin rfl rfl rfl
theorem qX7_takeWord : CtA yX7_takeWord (.code yX7_takeWord cX7_takeWord 1 none) 1 20 [] rX7_takeWord := CtA.of (by decide +kernel) (fun pc op h => kX7_takeWord _ (lkp_mem h)) oX7_takeWord
/-! java/lang/String.coder()B -/
def rJ0_coder_7d493_1100 : List Value → List va_E → op_O → Prop := fun avs es r => ∃  (z : Int32), avs = [.ref 1100] ∧ es = [] ∧ pJ0_coder_7d493_1100 = some z ∧ r = (.inl (some (.int z)), [], 0, 0)
def bJ0_coder_7d493_1100 : List (Nat × (op_T ⊕ op_R)) := [(0, .inl (o_push 3 (.int 1))), (3, .inl (o_ifeq 6 13)), (6, .inl (o_aload 7 0)), (7, .inl (o_scod 10)), (10, .inl (o_goto 14)), (13, .inl (o_push 14 (.int (1)))), (14, .inl (o_nret .byte))]
set_option maxRecDepth 100000 in
set_option maxHeartbeats 4000000 in
theorem kJ0_coder_7d493_1100 : ∀ q ∈ bJ0_coder_7d493_1100, ok2 0 0 1 cJ0_coder_7d493 yJ0_coder_7d493.cls yJ0_coder_7d493.name (some .byte) (.code yJ0_coder_7d493 cJ0_coder_7d493 1 (some .byte)) [] [] q.1 q.2 := (al_c (s_getZ w_838 (by decide +kernel)) (al_c (s_ifeq (off := 10) 13 (by decide) (by decide +kernel)) (al_c (s_aload_n (k := 0) (by decide +kernel)) (al_c (s_scod w_1759 (by decide +kernel)) (al_c (s_goto (off := 4) 14 (by decide) (by decide +kernel)) (al_c (s_iconst (n := 1) (1) (by decide) (by decide +kernel)) (al_c (s_nret rfl (by decide +kernel)) al_n)))))))
set_option maxRecDepth 100000 in
set_option maxHeartbeats 4000000 in
theorem oJ0_coder_7d493_1100 : Of (lkp bJ0_coder_7d493_1100) 1 rJ0_coder_7d493_1100 := by
  intro avs es r h
  obtain ⟨z, rfl, rfl, hp, rfl⟩ := h
  refine ⟨Nat.le_of_ble_eq_true rfl, ?_⟩
  unfold pJ0_coder_7d493_1100 at hp
  refine Rn.go 5 (pc' := 14) (lv' := [(0, .ref 1100)]) (st' := [.int (0 : Int32)]) (es' := []) (c' := 0) (s' := 0) rfl ?_
  by_cases h1 : (narrow .byte (.int (0 : Int32)) = .int (0 : Int32))
  · rw [if_pos h1] at hp
    obtain rfl := Option.some.inj hp
    exact Rn.finz rfl rfl h1 rfl
  · rw [if_neg h1] at hp; cases hp
theorem qJ0_coder_7d493_1100 : CtA yJ0_coder_7d493 (.code yJ0_coder_7d493 cJ0_coder_7d493 1 (some .byte)) 0 0 [] rJ0_coder_7d493_1100 := CtA.of (by decide +kernel) (fun pc op h => kJ0_coder_7d493_1100 _ (lkp_mem h)) oJ0_coder_7d493_1100
/-! java/lang/String.length()I -/
def rJ0_length_8abf5_1100 : List Value → List va_E → op_O → Prop := fun avs es r => ∃  (z : Int32), avs = [.ref 1100] ∧ es = [] ∧ pJ0_length_8abf5_1100 = some z ∧ r = (.inl (some (.int z)), [], 0, 0)
def bJ0_length_8abf5_1100 : List (Nat × (op_T ⊕ op_R)) := [(0, .inl (o_aload 1 0)), (1, .inl (o_sval 4)), (4, .inl (o_blen 5)), (5, .inl (o_aload 6 0)), (6, .inr (o_callX [] [] 9 0 rJ0_coder_7d493_1100)), (9, .inl (o_ii 10 (fun x y => x >>> (y &&& 31)))), (10, .inl (o_iret))]
set_option maxRecDepth 100000 in
set_option maxHeartbeats 4000000 in
theorem kJ0_length_8abf5_1100 : ∀ q ∈ bJ0_length_8abf5_1100, ok2 1 20 1 cJ0_length_8abf5 yJ0_length_8abf5.cls yJ0_length_8abf5.name (some .int) (.code yJ0_length_8abf5 cJ0_length_8abf5 1 (some .int)) [] [] q.1 q.2 := (al_c (s_aload_n (k := 0) (by decide +kernel)) (al_c (s_sval w_1758 (by decide +kernel)) (al_c (s_blen (by decide +kernel)) (al_c (s_aload_n (k := 0) (by decide +kernel)) (al_c (s_callX (y := yJ0_coder_7d493) (bytes := cJ0_coder_7d493) (maxL := 1) (ret' := (some .byte)) (fr' := 0) (lo' := 0) (n := 0) (ml := []) (mlc := []) qJ0_coder_7d493_1100 w_834 w_835 w_836 w_18 w_837 ⟨by decide +kernel, by decide +kernel, by decide +kernel⟩ rfl (by decide) (by decide) (by decide +kernel)) (al_c (s_ishr (by decide +kernel)) (al_c (s_iret rfl (by decide +kernel)) al_n)))))))
set_option maxRecDepth 100000 in
set_option maxHeartbeats 4000000 in
theorem oJ0_length_8abf5_1100 : Of (lkp bJ0_length_8abf5_1100) 1 rJ0_length_8abf5_1100 := by
  intro avs es r h
  obtain ⟨z, rfl, rfl, hp, rfl⟩ := h
  refine ⟨Nat.le_of_ble_eq_true rfl, ?_⟩
  unfold pJ0_length_8abf5_1100 at hp
  refine Rn.go 4 (pc' := 6) (lv' := [(0, .ref 1100)]) (st' := [.ref 1100, .int (nI (strN.getD (1120 - 1120) 0))]) (es' := []) (c' := 0) (s' := 0) rfl ?_
  obtain ⟨z1, hz1, hp⟩ := ob_some hp
  refine Rn.rel (pc' := 9) (lv' := [(0, .ref 1100)]) (st' := [.int z1, .int (nI (strN.getD (1120 - 1120) 0))]) (es' := []) (dc := 0) (ds := 0) rfl ⟨1100, [], [], .inl (some (.int z1)), [], 0, 0, rfl, rfl, Nat.le_of_ble_eq_true rfl, rfl, ⟨z1, rfl, rfl, hz1, rfl⟩, rfl⟩ ?_
  refine Rn.go 1 (pc' := 10) (lv' := [(0, .ref 1100)]) (st' := [.int ((nI (strN.getD (1120 - 1120) 0)) >>> (z1 &&& 31))]) (es' := []) (c' := 0) (s' := 0) rfl ?_
  obtain rfl := Option.some.inj hp
  exact Rn.fin rfl rfl rfl
theorem qJ0_length_8abf5_1100 : CtA yJ0_length_8abf5 (.code yJ0_length_8abf5 cJ0_length_8abf5 1 (some .int)) 1 20 [] rJ0_length_8abf5_1100 := CtA.of (by decide +kernel) (fun pc op h => kJ0_length_8abf5_1100 _ (lkp_mem h)) oJ0_length_8abf5_1100
/-! java/lang/String.isLatin1()Z -/
def rJ0_isLatin1_aae02_1100 : List Value → List va_E → op_O → Prop := fun avs es r => ∃  (z : Int32), avs = [.ref 1100] ∧ es = [] ∧ pJ0_isLatin1_aae02_1100 = some z ∧ r = (.inl (some (.int z)), [], 0, 0)
def bJ0_isLatin1_aae02_1100 : List (Nat × (op_T ⊕ op_R)) := [(0, .inl (o_push 3 (.int 1))), (3, .inl (o_ifeq 6 17)), (6, .inl (o_aload 7 0)), (7, .inl (o_scod 10)), (10, .inl (o_ifne 13 17)), (13, .inl (o_push 14 (.int (1)))), (14, .inl (o_goto 18)), (17, .inl (o_push 18 (.int (0)))), (18, .inl (o_zret))]
set_option maxRecDepth 100000 in
set_option maxHeartbeats 4000000 in
theorem kJ0_isLatin1_aae02_1100 : ∀ q ∈ bJ0_isLatin1_aae02_1100, ok2 0 0 1 cJ0_isLatin1_aae02 yJ0_isLatin1_aae02.cls yJ0_isLatin1_aae02.name (some .boolean) (.code yJ0_isLatin1_aae02 cJ0_isLatin1_aae02 1 (some .boolean)) [] [] q.1 q.2 := (al_c (s_getZ w_838 (by decide +kernel)) (al_c (s_ifeq (off := 14) 17 (by decide) (by decide +kernel)) (al_c (s_aload_n (k := 0) (by decide +kernel)) (al_c (s_scod w_1759 (by decide +kernel)) (al_c (s_ifne (off := 7) 17 (by decide) (by decide +kernel)) (al_c (s_iconst (n := 1) (1) (by decide) (by decide +kernel)) (al_c (s_goto (off := 4) 18 (by decide) (by decide +kernel)) (al_c (s_iconst (n := 0) (0) (by decide) (by decide +kernel)) (al_c (s_zret rfl (by decide +kernel)) al_n)))))))))
set_option maxRecDepth 100000 in
set_option maxHeartbeats 4000000 in
theorem oJ0_isLatin1_aae02_1100 : Of (lkp bJ0_isLatin1_aae02_1100) 1 rJ0_isLatin1_aae02_1100 := by
  intro avs es r h
  obtain ⟨z, rfl, rfl, hp, rfl⟩ := h
  refine ⟨Nat.le_of_ble_eq_true rfl, ?_⟩
  unfold pJ0_isLatin1_aae02_1100 at hp
  refine Rn.go 7 (pc' := 18) (lv' := [(0, .ref 1100)]) (st' := [.int (1 : Int32)]) (es' := []) (c' := 0) (s' := 0) rfl ?_
  obtain rfl := Option.some.inj hp
  exact Rn.fin rfl rfl rfl
theorem qJ0_isLatin1_aae02_1100 : CtA yJ0_isLatin1_aae02 (.code yJ0_isLatin1_aae02 cJ0_isLatin1_aae02 1 (some .boolean)) 0 0 [] rJ0_isLatin1_aae02_1100 := CtA.of (by decide +kernel) (fun pc op h => kJ0_isLatin1_aae02_1100 _ (lkp_mem h)) oJ0_isLatin1_aae02_1100
/-! jdk/internal/util/Preconditions.checkIndex(IILjava/util/function/BiFunction;)I -/
def rJ3_checkIndex_8e157_1140 : List Value → List va_E → op_O → Prop := fun avs es r => ∃ (x0 : Int32) (x1 : Int32) (z : Int32), avs = [.int x0, .int x1, .ref 1140] ∧ es = [] ∧ pJ3_checkIndex_8e157_1140 x0 x1 = some z ∧ r = (.inl (some (.int z)), [], 0, 0)
def bJ3_checkIndex_8e157_1140 : List (Nat × (op_T ⊕ op_R)) := [(0, .inl (o_iload 1 0)), (1, .inl (o_iflt 4 9)), (4, .inl (o_iload 5 0)), (5, .inl (o_iload 6 1)), (6, .inl (o_icmplt 9 16)), (16, .inl (o_iload 17 0)), (17, .inl (o_iret))]
set_option maxRecDepth 100000 in
set_option maxHeartbeats 4000000 in
theorem kJ3_checkIndex_8e157_1140 : ∀ q ∈ bJ3_checkIndex_8e157_1140, ok2 0 0 3 cJ3_checkIndex_8e157 yJ3_checkIndex_8e157.cls yJ3_checkIndex_8e157.name (some .int) (.code yJ3_checkIndex_8e157 cJ3_checkIndex_8e157 3 (some .int)) [] [] q.1 q.2 := (al_c (s_iload_n (k := 0) (by decide +kernel)) (al_c (s_iflt (off := 8) 9 (by decide) (by decide +kernel)) (al_c (s_iload_n (k := 0) (by decide +kernel)) (al_c (s_iload_n (k := 1) (by decide +kernel)) (al_c (s_icmplt (off := 10) 16 (by decide) (by decide +kernel)) (al_c (s_iload_n (k := 0) (by decide +kernel)) (al_c (s_iret rfl (by decide +kernel)) al_n)))))))
set_option maxRecDepth 100000 in
set_option maxHeartbeats 4000000 in
theorem oJ3_checkIndex_8e157_1140 : Of (lkp bJ3_checkIndex_8e157_1140) 3 rJ3_checkIndex_8e157_1140 := by
  intro avs es r h
  obtain ⟨x0, x1, z, rfl, rfl, hp, rfl⟩ := h
  refine ⟨Nat.le_of_ble_eq_true rfl, ?_⟩
  unfold pJ3_checkIndex_8e157_1140 at hp
  refine Rn.go 1 (pc' := 1) (lv' := [(0, .int x0), (1, .int x1), (2, .ref 1140)]) (st' := [.int x0]) (es' := []) (c' := 0) (s' := 0) rfl ?_
  refine Rn.br (P := x0 < 0) (pc1 := 9) (pc2 := 4) rfl rfl (fun h1 => ?_) (fun h1 => ?_)
  · rw [if_pos h1] at hp
    cases hp
  · rw [if_neg h1] at hp
    refine Rn.go 2 (pc' := 6) (lv' := [(0, .int x0), (1, .int x1), (2, .ref 1140)]) (st' := [.int x1, .int x0]) (es' := []) (c' := 0) (s' := 0) rfl ?_
    refine Rn.br (P := x0 < x1) (pc1 := 16) (pc2 := 9) rfl rfl (fun h2 => ?_) (fun h2 => ?_)
    · rw [if_pos h2] at hp
      refine Rn.go 1 (pc' := 17) (lv' := [(0, .int x0), (1, .int x1), (2, .ref 1140)]) (st' := [.int x0]) (es' := []) (c' := 0) (s' := 0) rfl ?_
      obtain rfl := Option.some.inj hp
      exact Rn.fin rfl rfl rfl
    · rw [if_neg h2] at hp
      cases hp
theorem qJ3_checkIndex_8e157_1140 : CtA yJ3_checkIndex_8e157 (.code yJ3_checkIndex_8e157 cJ3_checkIndex_8e157 3 (some .int)) 0 0 [] rJ3_checkIndex_8e157_1140 := CtA.of (by decide +kernel) (fun pc op h => kJ3_checkIndex_8e157_1140 _ (lkp_mem h)) oJ3_checkIndex_8e157_1140
/-! jdk/internal/util/Preconditions.checkIndex(IILjava/util/function/BiFunction;)I -/
def rJ3_checkIndex_8e157_null : List Value → List va_E → op_O → Prop := fun avs es r => ∃ (x0 : Int32) (x1 : Int32) (z : Int32), avs = [.int x0, .int x1, .null] ∧ es = [] ∧ pJ3_checkIndex_8e157_null x0 x1 = some z ∧ r = (.inl (some (.int z)), [], 0, 0)
def bJ3_checkIndex_8e157_null : List (Nat × (op_T ⊕ op_R)) := [(0, .inl (o_iload 1 0)), (1, .inl (o_iflt 4 9)), (4, .inl (o_iload 5 0)), (5, .inl (o_iload 6 1)), (6, .inl (o_icmplt 9 16)), (16, .inl (o_iload 17 0)), (17, .inl (o_iret))]
set_option maxRecDepth 100000 in
set_option maxHeartbeats 4000000 in
theorem kJ3_checkIndex_8e157_null : ∀ q ∈ bJ3_checkIndex_8e157_null, ok2 0 0 3 cJ3_checkIndex_8e157 yJ3_checkIndex_8e157.cls yJ3_checkIndex_8e157.name (some .int) (.code yJ3_checkIndex_8e157 cJ3_checkIndex_8e157 3 (some .int)) [] [] q.1 q.2 := (al_c (s_iload_n (k := 0) (by decide +kernel)) (al_c (s_iflt (off := 8) 9 (by decide) (by decide +kernel)) (al_c (s_iload_n (k := 0) (by decide +kernel)) (al_c (s_iload_n (k := 1) (by decide +kernel)) (al_c (s_icmplt (off := 10) 16 (by decide) (by decide +kernel)) (al_c (s_iload_n (k := 0) (by decide +kernel)) (al_c (s_iret rfl (by decide +kernel)) al_n)))))))
set_option maxRecDepth 100000 in
set_option maxHeartbeats 4000000 in
theorem oJ3_checkIndex_8e157_null : Of (lkp bJ3_checkIndex_8e157_null) 3 rJ3_checkIndex_8e157_null := by
  intro avs es r h
  obtain ⟨x0, x1, z, rfl, rfl, hp, rfl⟩ := h
  refine ⟨Nat.le_of_ble_eq_true rfl, ?_⟩
  unfold pJ3_checkIndex_8e157_null at hp
  refine Rn.go 1 (pc' := 1) (lv' := [(0, .int x0), (1, .int x1), (2, .null)]) (st' := [.int x0]) (es' := []) (c' := 0) (s' := 0) rfl ?_
  refine Rn.br (P := x0 < 0) (pc1 := 9) (pc2 := 4) rfl rfl (fun h1 => ?_) (fun h1 => ?_)
  · rw [if_pos h1] at hp
    cases hp
  · rw [if_neg h1] at hp
    refine Rn.go 2 (pc' := 6) (lv' := [(0, .int x0), (1, .int x1), (2, .null)]) (st' := [.int x1, .int x0]) (es' := []) (c' := 0) (s' := 0) rfl ?_
    refine Rn.br (P := x0 < x1) (pc1 := 16) (pc2 := 9) rfl rfl (fun h2 => ?_) (fun h2 => ?_)
    · rw [if_pos h2] at hp
      refine Rn.go 1 (pc' := 17) (lv' := [(0, .int x0), (1, .int x1), (2, .null)]) (st' := [.int x0]) (es' := []) (c' := 0) (s' := 0) rfl ?_
      obtain rfl := Option.some.inj hp
      exact Rn.fin rfl rfl rfl
    · rw [if_neg h2] at hp
      cases hp
theorem qJ3_checkIndex_8e157_null : CtA yJ3_checkIndex_8e157 (.code yJ3_checkIndex_8e157 cJ3_checkIndex_8e157 3 (some .int)) 0 0 [] rJ3_checkIndex_8e157_null := CtA.of (by decide +kernel) (fun pc op h => kJ3_checkIndex_8e157_null _ (lkp_mem h)) oJ3_checkIndex_8e157_null
/-! java/lang/String.checkIndex(II)V -/
def rJ0_checkIndex_df160 : List Value → List va_E → op_O → Prop := fun avs es r => ∃ (x0 : Int32) (x1 : Int32) (z : Unit), avs = [.int x0, .int x1] ∧ es = [] ∧ pJ0_checkIndex_df160 x0 x1 = some z ∧ r = (.inl none, [], 0, 0)
def bJ0_checkIndex_df160 : List (Nat × (op_T ⊕ op_R)) := [(0, .inl (o_iload 1 0)), (1, .inl (o_iload 2 1)), (2, .inr (o_gfc [] [] 8 3 rJ3_checkIndex_8e157_1140 rJ3_checkIndex_8e157_null)), (8, .inl (o_pop 9)), (9, .inl (o_vret))]
set_option maxRecDepth 100000 in
set_option maxHeartbeats 4000000 in
theorem kJ0_checkIndex_df160 : ∀ q ∈ bJ0_checkIndex_df160, ok2 1 22 2 cJ0_checkIndex_df160 yJ0_checkIndex_df160.cls yJ0_checkIndex_df160.name none (.code yJ0_checkIndex_df160 cJ0_checkIndex_df160 2 none) [] [] q.1 q.2 := (al_c (s_iload_n (k := 0) (by decide +kernel)) (al_c (s_iload_n (k := 1) (by decide +kernel)) (al_c (s_gfc (s_callS (y := yJ3_checkIndex_8e157) (bytes := cJ3_checkIndex_8e157) (maxL := 3) (ret' := (some .int)) (fr' := 0) (lo' := 0) (n := 3) (ml := []) (mlc := []) qJ3_checkIndex_8e157_1140 w_856 w_857 w_20 w_858 ⟨by decide +kernel, by decide +kernel, by decide +kernel⟩ (by decide) (by decide) (by decide +kernel)) (s_callS (y := yJ3_checkIndex_8e157) (bytes := cJ3_checkIndex_8e157) (maxL := 3) (ret' := (some .int)) (fr' := 0) (lo' := 0) (n := 3) (ml := []) (mlc := []) qJ3_checkIndex_8e157_null w_856 w_857 w_20 w_858 ⟨by decide +kernel, by decide +kernel, by decide +kernel⟩ (by decide) (by decide) (by decide +kernel)) w_854 (by decide +kernel)) (al_c (s_pop (by decide +kernel)) (al_c (s_vret rfl (by decide +kernel)) al_n)))))
set_option maxRecDepth 100000 in
set_option maxHeartbeats 4000000 in
theorem oJ0_checkIndex_df160 : Of (lkp bJ0_checkIndex_df160) 2 rJ0_checkIndex_df160 := by
  intro avs es r h
  obtain ⟨x0, x1, z, rfl, rfl, hp, rfl⟩ := h
  refine ⟨Nat.le_of_ble_eq_true rfl, ?_⟩
  unfold pJ0_checkIndex_df160 at hp
  refine Rn.go 2 (pc' := 2) (lv' := [(0, .int x0), (1, .int x1)]) (st' := [.int x1, .int x0]) (es' := []) (c' := 0) (s' := 0) rfl ?_
  obtain ⟨z1, hz1, hp⟩ := ob_some hp
  refine Rn.rel (pc' := 8) (lv' := [(0, .int x0), (1, .int x1)]) (st' := [.int z1]) (es' := []) (dc := 0) (ds := 0) rfl ⟨⟨[.int x0, .int x1, .ref 1140], [], .inl (some (.int z1)), [], 0, 0, rfl, rfl, Nat.le_of_ble_eq_true rfl, ⟨x0, x1, z1, rfl, rfl, hz1, rfl⟩, rfl⟩, ⟨[.int x0, .int x1, .null], [], .inl (some (.int z1)), [], 0, 0, rfl, rfl, Nat.le_of_ble_eq_true rfl, ⟨x0, x1, z1, rfl, rfl, hz1, rfl⟩, rfl⟩⟩ ?_
  refine Rn.go 1 (pc' := 9) (lv' := [(0, .int x0), (1, .int x1)]) (st' := []) (es' := []) (c' := 0) (s' := 0) rfl ?_
  obtain rfl := Option.some.inj hp
  exact Rn.fin rfl rfl rfl
theorem qJ0_checkIndex_df160 : CtA yJ0_checkIndex_df160 (.code yJ0_checkIndex_df160 cJ0_checkIndex_df160 2 none) 1 22 [] rJ0_checkIndex_df160 := CtA.of (by decide +kernel) (fun pc op h => kJ0_checkIndex_df160 _ (lkp_mem h)) oJ0_checkIndex_df160
/-! java/lang/StringLatin1.charAt([BI)C -/
def rJ1_charAt_3b067_1120 : List Value → List va_E → op_O → Prop := fun avs es r => ∃ (x1 : Int32) (z : Int32), avs = [.ref 1120, .int x1] ∧ es = [] ∧ pJ1_charAt_3b067_1120 x1 = some z ∧ r = (.inl (some (.int z)), [], 0, 0)
def bJ1_charAt_3b067_1120 : List (Nat × (op_T ⊕ op_R)) := [(0, .inl (o_iload 1 1)), (1, .inl (o_aload 2 0)), (2, .inl (o_blen 3)), (3, .inr (o_callS [] [] 6 2 rJ0_checkIndex_df160)), (6, .inl (o_aload 7 0)), (7, .inl (o_iload 8 1)), (8, .inl (o_bald 9)), (9, .inl (o_push 12 (.int (255)))), (12, .inl (o_ii 13 (fun x y => x &&& y))), (13, .inl (o_i2c 14)), (14, .inl (o_nret .char))]
set_option maxRecDepth 100000 in
set_option maxHeartbeats 4000000 in
theorem kJ1_charAt_3b067_1120 : ∀ q ∈ bJ1_charAt_3b067_1120, ok2 2 43 2 cJ1_charAt_3b067 yJ1_charAt_3b067.cls yJ1_charAt_3b067.name (some .char) (.code yJ1_charAt_3b067 cJ1_charAt_3b067 2 (some .char)) [] [] q.1 q.2 := (al_c (s_iload_n (k := 1) (by decide +kernel)) (al_c (s_aload_n (k := 0) (by decide +kernel)) (al_c (s_blen (by decide +kernel)) (al_c (s_callS (y := yJ0_checkIndex_df160) (bytes := cJ0_checkIndex_df160) (maxL := 2) (ret' := none) (fr' := 1) (lo' := 22) (n := 2) (ml := []) (mlc := []) qJ0_checkIndex_df160 w_851 w_852 w_18 w_853 ⟨by decide +kernel, by decide +kernel, by decide +kernel⟩ (by decide) (by decide) (by decide +kernel)) (al_c (s_aload_n (k := 0) (by decide +kernel)) (al_c (s_iload_n (k := 1) (by decide +kernel)) (al_c (s_bald (by decide +kernel)) (al_c (s_sipush (n := 255) (255) (by decide) (by decide +kernel)) (al_c (s_iand (by decide +kernel)) (al_c (s_i2c (by decide +kernel)) (al_c (s_nret rfl (by decide +kernel)) al_n)))))))))))
set_option maxRecDepth 100000 in
set_option maxHeartbeats 4000000 in
theorem oJ1_charAt_3b067_1120 : Of (lkp bJ1_charAt_3b067_1120) 2 rJ1_charAt_3b067_1120 := by
  intro avs es r h
  obtain ⟨x1, z, rfl, rfl, hp, rfl⟩ := h
  refine ⟨Nat.le_of_ble_eq_true rfl, ?_⟩
  unfold pJ1_charAt_3b067_1120 at hp
  refine Rn.go 3 (pc' := 3) (lv' := [(0, .ref 1120), (1, .int x1)]) (st' := [.int (nI (strN.getD (1120 - 1120) 0)), .int x1]) (es' := []) (c' := 0) (s' := 0) rfl ?_
  obtain ⟨z1, hz1, hp⟩ := ob_some hp
  refine Rn.rel (pc' := 6) (lv' := [(0, .ref 1120), (1, .int x1)]) (st' := []) (es' := []) (dc := 0) (ds := 0) rfl ⟨[.int x1, .int (nI (strN.getD (1120 - 1120) 0))], [], .inl none, [], 0, 0, rfl, rfl, Nat.le_of_ble_eq_true rfl, ⟨x1, (nI (strN.getD (1120 - 1120) 0)), z1, rfl, rfl, hz1, rfl⟩, rfl⟩ ?_
  refine Rn.go 2 (pc' := 8) (lv' := [(0, .ref 1120), (1, .int x1)]) (st' := [.int x1, .ref 1120]) (es' := []) (c' := 0) (s' := 0) rfl ?_
  by_cases h1 : (x1 < 0 ∨ (strN.getD (1120 - 1120) 0) ≤ x1.toNatClampNeg)
  · rw [if_pos h1] at hp; cases hp
  · rw [if_neg h1] at hp
    refine Rn.gd (pc' := 9) (lv' := [(0, .ref 1120), (1, .int x1)]) (st' := [.int ((strB.getD (1120 - 1120) []).getD x1.toNatClampNeg 0)]) (es' := []) rfl rfl h1 ?_
    refine Rn.go 3 (pc' := 14) (lv' := [(0, .ref 1120), (1, .int x1)]) (st' := [.int (((((strB.getD (1120 - 1120) []).getD x1.toNatClampNeg 0) &&& (255 : Int32))).toUInt32 % 65536).toInt32]) (es' := []) (c' := 0) (s' := 0) rfl ?_
    by_cases h2 : (narrow .char (.int (((((strB.getD (1120 - 1120) []).getD x1.toNatClampNeg 0) &&& (255 : Int32))).toUInt32 % 65536).toInt32) = .int (((((strB.getD (1120 - 1120) []).getD x1.toNatClampNeg 0) &&& (255 : Int32))).toUInt32 % 65536).toInt32)
    · rw [if_pos h2] at hp
      obtain rfl := Option.some.inj hp
      exact Rn.finz rfl rfl h2 rfl
    · rw [if_neg h2] at hp; cases hp
theorem qJ1_charAt_3b067_1120 : CtA yJ1_charAt_3b067 (.code yJ1_charAt_3b067 cJ1_charAt_3b067 2 (some .char)) 2 43 [] rJ1_charAt_3b067_1120 := CtA.of (by decide +kernel) (fun pc op h => kJ1_charAt_3b067_1120 _ (lkp_mem h)) oJ1_charAt_3b067_1120
/-! java/lang/String.charAt(I)C -/
def rJ0_charAt_5068e_1100 : List Value → List va_E → op_O → Prop := fun avs es r => ∃ (x1 : Int32) (z : Int32), avs = [.ref 1100, .int x1] ∧ es = [] ∧ pJ0_charAt_5068e_1100 x1 = some z ∧ r = (.inl (some (.int z)), [], 0, 0)
def bJ0_charAt_5068e_1100 : List (Nat × (op_T ⊕ op_R)) := [(0, .inl (o_aload 1 0)), (1, .inr (o_callX [] [] 4 0 rJ0_isLatin1_aae02_1100)), (4, .inl (o_ifeq 7 16)), (7, .inl (o_aload 8 0)), (8, .inl (o_sval 11)), (11, .inl (o_iload 12 1)), (12, .inr (o_callS [] [] 15 2 rJ1_charAt_3b067_1120)), (15, .inl (o_nret .char))]
set_option maxRecDepth 100000 in
set_option maxHeartbeats 4000000 in
theorem kJ0_charAt_5068e_1100 : ∀ q ∈ bJ0_charAt_5068e_1100, ok2 3 64 2 cJ0_charAt_5068e yJ0_charAt_5068e.cls yJ0_charAt_5068e.name (some .char) (.code yJ0_charAt_5068e cJ0_charAt_5068e 2 (some .char)) [] [] q.1 q.2 := (al_c (s_aload_n (k := 0) (by decide +kernel)) (al_c (s_callX (y := yJ0_isLatin1_aae02) (bytes := cJ0_isLatin1_aae02) (maxL := 1) (ret' := (some .boolean)) (fr' := 0) (lo' := 0) (n := 0) (ml := []) (mlc := []) qJ0_isLatin1_aae02_1100 w_844 w_845 w_846 w_18 w_847 ⟨by decide +kernel, by decide +kernel, by decide +kernel⟩ rfl (by decide) (by decide) (by decide +kernel)) (al_c (s_ifeq (off := 12) 16 (by decide) (by decide +kernel)) (al_c (s_aload_n (k := 0) (by decide +kernel)) (al_c (s_sval w_1758 (by decide +kernel)) (al_c (s_iload_n (k := 1) (by decide +kernel)) (al_c (s_callS (y := yJ1_charAt_3b067) (bytes := cJ1_charAt_3b067) (maxL := 2) (ret' := (some .char)) (fr' := 2) (lo' := 43) (n := 2) (ml := []) (mlc := []) qJ1_charAt_3b067_1120 w_848 w_849 w_19 w_850 ⟨by decide +kernel, by decide +kernel, by decide +kernel⟩ (by decide) (by decide) (by decide +kernel)) (al_c (s_nret rfl (by decide +kernel)) al_n))))))))
set_option maxRecDepth 100000 in
set_option maxHeartbeats 4000000 in
theorem oJ0_charAt_5068e_1100 : Of (lkp bJ0_charAt_5068e_1100) 2 rJ0_charAt_5068e_1100 := by
  intro avs es r h
  obtain ⟨x1, z, rfl, rfl, hp, rfl⟩ := h
  refine ⟨Nat.le_of_ble_eq_true rfl, ?_⟩
  unfold pJ0_charAt_5068e_1100 at hp
  refine Rn.go 1 (pc' := 1) (lv' := [(0, .ref 1100), (1, .int x1)]) (st' := [.ref 1100]) (es' := []) (c' := 0) (s' := 0) rfl ?_
  obtain ⟨z1, hz1, hp⟩ := ob_some hp
  refine Rn.rel (pc' := 4) (lv' := [(0, .ref 1100), (1, .int x1)]) (st' := [.int z1]) (es' := []) (dc := 0) (ds := 0) rfl ⟨1100, [], [], .inl (some (.int z1)), [], 0, 0, rfl, rfl, Nat.le_of_ble_eq_true rfl, rfl, ⟨z1, rfl, rfl, hz1, rfl⟩, rfl⟩ ?_
  refine Rn.br (P := z1 = 0) (pc1 := 16) (pc2 := 7) rfl rfl (fun h1 => ?_) (fun h1 => ?_)
  · rw [if_pos h1] at hp
    cases hp
  · rw [if_neg h1] at hp
    refine Rn.go 3 (pc' := 12) (lv' := [(0, .ref 1100), (1, .int x1)]) (st' := [.int x1, .ref 1120]) (es' := []) (c' := 0) (s' := 0) rfl ?_
    obtain ⟨z2, hz2, hp⟩ := ob_some hp
    refine Rn.rel (pc' := 15) (lv' := [(0, .ref 1100), (1, .int x1)]) (st' := [.int z2]) (es' := []) (dc := 0) (ds := 0) rfl ⟨[.ref 1120, .int x1], [], .inl (some (.int z2)), [], 0, 0, rfl, rfl, Nat.le_of_ble_eq_true rfl, ⟨x1, z2, rfl, rfl, hz2, rfl⟩, rfl⟩ ?_
    by_cases h2 : (narrow .char (.int z2) = .int z2)
    · rw [if_pos h2] at hp
      obtain rfl := Option.some.inj hp
      exact Rn.finz rfl rfl h2 rfl
    · rw [if_neg h2] at hp; cases hp
theorem qJ0_charAt_5068e_1100 : CtA yJ0_charAt_5068e (.code yJ0_charAt_5068e cJ0_charAt_5068e 2 (some .char)) 3 64 [] rJ0_charAt_5068e_1100 := CtA.of (by decide +kernel) (fun pc op h => kJ0_charAt_5068e_1100 _ (lkp_mem h)) oJ0_charAt_5068e_1100
/-! TelescopeNight$Reader.wordIs(Ljava/lang/String;)Z -/
def rX7_wordIs_1100 : List Value → List va_E → op_O → Prop := fun avs es r => ∃ (r_bytes : Nat → Int32) (r_values : Nat → Int32) (r_filled : Int32) (r_end : Int32) (r_at : Int32) (r_wordStart : Int32) (r_hasMoon : Int32) (r_hasSky : Int32) (r_error : Int32) (r_errorAt : Int32) (z : Int32), avs = [.ref 0, .ref 1100] ∧ es = (wX7_Reader r_bytes r_values r_filled r_end r_at r_wordStart r_hasMoon r_hasSky r_error r_errorAt) ∧ pX7_wordIs_1100 r_bytes r_at r_wordStart = some z ∧ r = (.inl (some (.int z)), (wX7_Reader r_bytes r_values r_filled r_end r_at r_wordStart r_hasMoon r_hasSky r_error r_errorAt), 0, 0)
def bX7_wordIs_1100 : List (Nat × (op_T ⊕ op_R)) := [(0, .inl (o_aload 1 0)), (1, .inl (o_get 4 7 4)), (4, .inl (o_aload 5 0)), (5, .inl (o_get 8 7 5)), (8, .inl (o_ii 9 (fun x y => x - y))), (9, .inl (o_aload 10 1)), (10, .inr (o_callX [] [] 13 0 rJ0_length_8abf5_1100)), (13, .inl (o_icmpeq 16 18)), (16, .inl (o_push 17 (.int (0)))), (17, .inl (o_zret)), (18, .inl (o_push 19 (.int (0)))), (19, .inl (nrm [0, 1, 2] (o_istore 20 2))), (20, .inl (o_iload 21 2)), (21, .inl (o_aload 22 1)), (22, .inr (o_callX [] [] 25 0 rJ0_length_8abf5_1100)), (25, .inl (o_icmpge 28 55)), (28, .inl (o_aload 29 0)), (29, .inl (o_get 32 7 0)), (32, .inl (o_aload 33 0)), (33, .inl (o_get 36 7 5)), (36, .inl (o_iload 37 2)), (37, .inl (o_ii 38 (fun x y => x + y))), (38, .inl (o_iald 39)), (39, .inl (o_aload 40 1)), (40, .inl (o_iload 41 2)), (41, .inr (o_callX [] [] 44 1 rJ0_charAt_5068e_1100)), (44, .inl (o_icmpeq 47 49)), (47, .inl (o_push 48 (.int (0)))), (48, .inl (o_zret)), (49, .inl (o_iinc 52 2 (1))), (52, .inl (nrm [0, 1, 2] (o_goto 20))), (55, .inl (o_push 56 (.int (1)))), (56, .inl (o_zret))]
set_option maxRecDepth 100000 in
set_option maxHeartbeats 4000000 in
theorem kX7_wordIs_1100 : ∀ q ∈ bX7_wordIs_1100, ok2 4 85 3 cX7_wordIs yX7_wordIs.cls yX7_wordIs.name (some .boolean) (.code yX7_wordIs cX7_wordIs 3 (some .boolean)) [] [] q.1 q.2 := (al_c (s_aload_n (k := 0) (by decide +kernel)) (al_c (s_get (C9 := RX7) (T9 := TX7) (N9 := 10) (ci := 7) (k := 4) iX7 rfl (by decide) w_220 (by decide +kernel)) (al_c (s_aload_n (k := 0) (by decide +kernel)) (al_c (s_get (C9 := RX7) (T9 := TX7) (N9 := 10) (ci := 7) (k := 5) iX7 rfl (by decide) w_221 (by decide +kernel)) (al_c (s_isub (by decide +kernel)) (al_c (s_aload_n (k := 1) (by decide +kernel)) (al_c (s_callX (y := yJ0_length_8abf5) (bytes := cJ0_length_8abf5) (maxL := 1) (ret' := (some .int)) (fr' := 1) (lo' := 20) (n := 0) (ml := []) (mlc := []) qJ0_length_8abf5_1100 w_830 w_831 w_832 w_18 w_833 ⟨by decide +kernel, by decide +kernel, by decide +kernel⟩ rfl (by decide) (by decide) (by decide +kernel)) (al_c (s_icmpeq (off := 5) 18 (by decide) (by decide +kernel)) (al_c (s_iconst (n := 0) (0) (by decide) (by decide +kernel)) (al_c (s_zret rfl (by decide +kernel)) (al_c (s_iconst (n := 0) (0) (by decide) (by decide +kernel)) (al_c (s_nrm [0, 1, 2] (s_istore_n (k := 2) rfl (by decide) (by decide +kernel))) (al_c (s_iload_n (k := 2) (by decide +kernel)) (al_c (s_aload_n (k := 1) (by decide +kernel)) (al_c (s_callX (y := yJ0_length_8abf5) (bytes := cJ0_length_8abf5) (maxL := 1) (ret' := (some .int)) (fr' := 1) (lo' := 20) (n := 0) (ml := []) (mlc := []) qJ0_length_8abf5_1100 w_830 w_831 w_832 w_18 w_833 ⟨by decide +kernel, by decide +kernel, by decide +kernel⟩ rfl (by decide) (by decide) (by decide +kernel)) (al_c (s_icmpge (off := 30) 55 (by decide) (by decide +kernel)) (al_c (s_aload_n (k := 0) (by decide +kernel)) (al_c (s_get (C9 := RX7) (T9 := TX7) (N9 := 10) (ci := 7) (k := 0) iX7 rfl (by decide) w_215 (by decide +kernel)) (al_c (s_aload_n (k := 0) (by decide +kernel)) (al_c (s_get (C9 := RX7) (T9 := TX7) (N9 := 10) (ci := 7) (k := 5) iX7 rfl (by decide) w_221 (by decide +kernel)) (al_c (s_iload_n (k := 2) (by decide +kernel)) (al_c (s_iadd (by decide +kernel)) (al_c (s_iald (by decide +kernel)) (al_c (s_aload_n (k := 1) (by decide +kernel)) (al_c (s_iload_n (k := 2) (by decide +kernel)) (al_c (s_callX (y := yJ0_charAt_5068e) (bytes := cJ0_charAt_5068e) (maxL := 2) (ret' := (some .char)) (fr' := 3) (lo' := 64) (n := 1) (ml := []) (mlc := []) qJ0_charAt_5068e_1100 w_840 w_841 w_842 w_18 w_843 ⟨by decide +kernel, by decide +kernel, by decide +kernel⟩ rfl (by decide) (by decide) (by decide +kernel)) (al_c (s_icmpeq (off := 5) 49 (by decide) (by decide +kernel)) (al_c (s_iconst (n := 0) (0) (by decide) (by decide +kernel)) (al_c (s_zret rfl (by decide +kernel)) (al_c (s_iinc (n := 1) (1) (by decide) (by decide) (by decide +kernel)) (al_c (s_nrm [0, 1, 2] (s_goto (off := -32) 20 (by decide) (by decide +kernel))) (al_c (s_iconst (n := 1) (1) (by decide) (by decide +kernel)) (al_c (s_zret rfl (by decide +kernel)) al_n)))))))))))))))))))))))))))))))))
set_option maxRecDepth 100000 in
set_option maxHeartbeats 4000000 in
theorem lrX7_wordIs_1100_20 (r_bytes : Nat → Int32) (r_values : Nat → Int32) (r_filled : Int32) (r_end : Int32) (r_at : Int32) (r_wordStart : Int32) (r_hasMoon : Int32) (r_hasSky : Int32) (r_error : Int32) (r_errorAt : Int32) : ∀ (fu : Nat) (l2 : Int32) (z : ((Int32) ⊕ (Int32))), lpX7_wordIs_1100_20 r_bytes r_wordStart fu l2 = some z → ∀ (c s : Nat) (r : op_O), (match z with | .inl ze => Rn (lkp bX7_wordIs_1100) 55 [(0, .ref 0), (1, .ref 1100), (2, .int ze)] [] (wX7_Reader r_bytes r_values r_filled r_end r_at r_wordStart r_hasMoon r_hasSky r_error r_errorAt) c s r | .inr zf => r = (.inl (some (.int zf)), (wX7_Reader r_bytes r_values r_filled r_end r_at r_wordStart r_hasMoon r_hasSky r_error r_errorAt), c + 0, s + 0)) → Rn (lkp bX7_wordIs_1100) 20 [(0, .ref 0), (1, .ref 1100), (2, .int l2)] [] (wX7_Reader r_bytes r_values r_filled r_end r_at r_wordStart r_hasMoon r_hasSky r_error r_errorAt) c s r := by
  intro fu
  induction fu with
  | zero => intro l2 z hp; cases hp
  | succ fu ih =>
      intro l2 z hp c s r k
      unfold lpX7_wordIs_1100_20 at hp
      refine Rn.go 2 (pc' := 22) (lv' := [(0, .ref 0), (1, .ref 1100), (2, .int l2)]) (st' := [.ref 1100, .int l2]) (es' := (wX7_Reader r_bytes r_values r_filled r_end r_at r_wordStart r_hasMoon r_hasSky r_error r_errorAt)) (c' := c) (s' := s) rfl ?_
      obtain ⟨z2, hz2, hp⟩ := ob_some hp
      refine Rn.rel (pc' := 25) (lv' := [(0, .ref 0), (1, .ref 1100), (2, .int l2)]) (st' := [.int z2, .int l2]) (es' := (wX7_Reader r_bytes r_values r_filled r_end r_at r_wordStart r_hasMoon r_hasSky r_error r_errorAt)) (dc := 0) (ds := 0) rfl ⟨1100, [], [], .inl (some (.int z2)), [], 0, 0, rfl, rfl, Nat.le_of_ble_eq_true rfl, rfl, ⟨z2, rfl, rfl, hz2, rfl⟩, rfl⟩ ?_
      refine Rn.br (P := z2 ≤ l2) (pc1 := 55) (pc2 := 28) rfl rfl (fun h2 => ?_) (fun h2 => ?_)
      · rw [if_pos h2] at hp
        obtain rfl := Option.some.inj hp
        exact k
      · rw [if_neg h2] at hp
        refine Rn.go 6 (pc' := 38) (lv' := [(0, .ref 0), (1, .ref 1100), (2, .int l2)]) (st' := [.int (r_wordStart + l2), .ref 1]) (es' := (wX7_Reader r_bytes r_values r_filled r_end r_at r_wordStart r_hasMoon r_hasSky r_error r_errorAt)) (c' := c) (s' := s) rfl ?_
        by_cases h3 : ((r_wordStart + l2) < 0 ∨ 500 ≤ ((r_wordStart + l2)).toNatClampNeg)
        · rw [if_pos h3] at hp; cases hp
        · rw [if_neg h3] at hp
          refine Rn.gd (pc' := 39) (lv' := [(0, .ref 0), (1, .ref 1100), (2, .int l2)]) (st' := [.int (r_bytes ((r_wordStart + l2)).toNatClampNeg)]) (es' := (wX7_Reader r_bytes r_values r_filled r_end r_at r_wordStart r_hasMoon r_hasSky r_error r_errorAt)) rfl rfl h3 ?_
          refine Rn.go 2 (pc' := 41) (lv' := [(0, .ref 0), (1, .ref 1100), (2, .int l2)]) (st' := [.int l2, .ref 1100, .int (r_bytes ((r_wordStart + l2)).toNatClampNeg)]) (es' := (wX7_Reader r_bytes r_values r_filled r_end r_at r_wordStart r_hasMoon r_hasSky r_error r_errorAt)) (c' := c) (s' := s) rfl ?_
          obtain ⟨z3, hz3, hp⟩ := ob_some hp
          refine Rn.rel (pc' := 44) (lv' := [(0, .ref 0), (1, .ref 1100), (2, .int l2)]) (st' := [.int z3, .int (r_bytes ((r_wordStart + l2)).toNatClampNeg)]) (es' := (wX7_Reader r_bytes r_values r_filled r_end r_at r_wordStart r_hasMoon r_hasSky r_error r_errorAt)) (dc := 0) (ds := 0) rfl ⟨1100, [.int l2], [], .inl (some (.int z3)), [], 0, 0, rfl, rfl, Nat.le_of_ble_eq_true rfl, rfl, ⟨l2, z3, rfl, rfl, hz3, rfl⟩, rfl⟩ ?_
          refine Rn.br (P := (r_bytes ((r_wordStart + l2)).toNatClampNeg) = z3) (pc1 := 49) (pc2 := 47) rfl rfl (fun h4 => ?_) (fun h4 => ?_)
          · rw [if_pos h4] at hp
            refine Rn.go 2 (pc' := 20) (lv' := [(0, .ref 0), (1, .ref 1100), (2, .int (l2 + (1 : Int32)))]) (st' := []) (es' := (wX7_Reader r_bytes r_values r_filled r_end r_at r_wordStart r_hasMoon r_hasSky r_error r_errorAt)) (c' := c) (s' := s) rfl ?_
            exact ih (l2 + (1 : Int32)) z hp c s r k
          · rw [if_neg h4] at hp
            refine Rn.go 1 (pc' := 48) (lv' := [(0, .ref 0), (1, .ref 1100), (2, .int l2)]) (st' := [.int (0 : Int32)]) (es' := (wX7_Reader r_bytes r_values r_filled r_end r_at r_wordStart r_hasMoon r_hasSky r_error r_errorAt)) (c' := c) (s' := s) rfl ?_
            obtain rfl := Option.some.inj hp
            exact Rn.fin rfl rfl k
set_option maxRecDepth 100000 in
set_option maxHeartbeats 4000000 in
theorem oX7_wordIs_1100 : Of (lkp bX7_wordIs_1100) 3 rX7_wordIs_1100 := by
  intro avs es r h
  obtain ⟨r_bytes, r_values, r_filled, r_end, r_at, r_wordStart, r_hasMoon, r_hasSky, r_error, r_errorAt, z, rfl, rfl, hp, rfl⟩ := h
  refine ⟨Nat.le_of_ble_eq_true rfl, ?_⟩
  unfold pX7_wordIs_1100 at hp
  refine Rn.go 6 (pc' := 10) (lv' := [(0, .ref 0), (1, .ref 1100)]) (st' := [.ref 1100, .int (r_at - r_wordStart)]) (es' := (wX7_Reader r_bytes r_values r_filled r_end r_at r_wordStart r_hasMoon r_hasSky r_error r_errorAt)) (c' := 0) (s' := 0) rfl ?_
  obtain ⟨z1, hz1, hp⟩ := ob_some hp
  refine Rn.rel (pc' := 13) (lv' := [(0, .ref 0), (1, .ref 1100)]) (st' := [.int z1, .int (r_at - r_wordStart)]) (es' := (wX7_Reader r_bytes r_values r_filled r_end r_at r_wordStart r_hasMoon r_hasSky r_error r_errorAt)) (dc := 0) (ds := 0) rfl ⟨1100, [], [], .inl (some (.int z1)), [], 0, 0, rfl, rfl, Nat.le_of_ble_eq_true rfl, rfl, ⟨z1, rfl, rfl, hz1, rfl⟩, rfl⟩ ?_
  refine Rn.br (P := (r_at - r_wordStart) = z1) (pc1 := 18) (pc2 := 16) rfl rfl (fun h1 => ?_) (fun h1 => ?_)
  · rw [if_pos h1] at hp
    refine Rn.go 2 (pc' := 20) (lv' := [(0, .ref 0), (1, .ref 1100), (2, .int (0 : Int32))]) (st' := []) (es' := (wX7_Reader r_bytes r_values r_filled r_end r_at r_wordStart r_hasMoon r_hasSky r_error r_errorAt)) (c' := 0) (s' := 0) rfl ?_
    obtain ⟨z4, hz4, hp⟩ := ob_some hp
    rcases z4 with z4e | z4f
    · dsimp only at hp
      refine lrX7_wordIs_1100_20 r_bytes r_values r_filled r_end r_at r_wordStart r_hasMoon r_hasSky r_error r_errorAt _ (0 : Int32) _ hz4 _ _ _ ?_
      refine Rn.go 1 (pc' := 56) (lv' := [(0, .ref 0), (1, .ref 1100), (2, .int z4e)]) (st' := [.int (1 : Int32)]) (es' := (wX7_Reader r_bytes r_values r_filled r_end r_at r_wordStart r_hasMoon r_hasSky r_error r_errorAt)) (c' := 0) (s' := 0) rfl ?_
      obtain rfl := Option.some.inj hp
      exact Rn.fin rfl rfl rfl
    · obtain rfl := Option.some.inj hp
      exact lrX7_wordIs_1100_20 r_bytes r_values r_filled r_end r_at r_wordStart r_hasMoon r_hasSky r_error r_errorAt _ (0 : Int32) _ hz4 _ _ _ rfl
  · rw [if_neg h1] at hp
    refine Rn.go 1 (pc' := 17) (lv' := [(0, .ref 0), (1, .ref 1100)]) (st' := [.int (0 : Int32)]) (es' := (wX7_Reader r_bytes r_values r_filled r_end r_at r_wordStart r_hasMoon r_hasSky r_error r_errorAt)) (c' := 0) (s' := 0) rfl ?_
    obtain rfl := Option.some.inj hp
    exact Rn.fin rfl rfl rfl
theorem qX7_wordIs_1100 : CtA yX7_wordIs (.code yX7_wordIs cX7_wordIs 3 (some .boolean)) 4 85 [] rX7_wordIs_1100 := CtA.of (by decide +kernel) (fun pc op h => kX7_wordIs_1100 _ (lkp_mem h)) oX7_wordIs_1100
/-! TelescopeNight$Reader.fail(II)V -/
def rX7_fail : List Value → List va_E → op_O → Prop := fun avs es r => ∃ (x1 : Int32) (x2 : Int32) (r_bytes : Nat → Int32) (r_values : Nat → Int32) (r_filled : Int32) (r_end : Int32) (r_at : Int32) (r_wordStart : Int32) (r_hasMoon : Int32) (r_hasSky : Int32) (r_error : Int32) (r_errorAt : Int32) (z : Int32 × Int32), avs = [.ref 0, .int x1, .int x2] ∧ es = (wX7_Reader r_bytes r_values r_filled r_end r_at r_wordStart r_hasMoon r_hasSky r_error r_errorAt) ∧ pX7_fail x1 x2 = some z ∧ r = (.inl none, (wX7_Reader r_bytes r_values r_filled r_end r_at r_wordStart r_hasMoon r_hasSky z.1 z.2), 0, 0)
def bX7_fail : List (Nat × (op_T ⊕ op_R)) := [(0, .inl (o_aload 1 0)), (1, .inl (o_iload 2 1)), (2, .inl (o_put 5 7 8 .int)), (5, .inl (o_aload 6 0)), (6, .inl (o_iload 7 2)), (7, .inl (o_put 10 7 9 .int)), (10, .inl (o_vret))]
set_option maxRecDepth 100000 in
set_option maxHeartbeats 4000000 in
theorem kX7_fail : ∀ q ∈ bX7_fail, ok2 0 0 3 cX7_fail yX7_fail.cls yX7_fail.name none (.code yX7_fail cX7_fail 3 none) [] [] q.1 q.2 := (al_c (s_aload_n (k := 0) (by decide +kernel)) (al_c (s_iload_n (k := 1) (by decide +kernel)) (al_c (s_put (C9 := RX7) (T9 := TX7) (N9 := 10) (ci := 7) (k := 8) iX7 rfl (by decide) w_225 tyX7 tyX7_ok nmX7 rfl (by decide +kernel)) (al_c (s_aload_n (k := 0) (by decide +kernel)) (al_c (s_iload_n (k := 2) (by decide +kernel)) (al_c (s_put (C9 := RX7) (T9 := TX7) (N9 := 10) (ci := 7) (k := 9) iX7 rfl (by decide) w_226 tyX7 tyX7_ok nmX7 rfl (by decide +kernel)) (al_c (s_vret rfl (by decide +kernel)) al_n)))))))
set_option maxRecDepth 100000 in
set_option maxHeartbeats 4000000 in
theorem oX7_fail : Of (lkp bX7_fail) 3 rX7_fail := by
  intro avs es r h
  obtain ⟨x1, x2, r_bytes, r_values, r_filled, r_end, r_at, r_wordStart, r_hasMoon, r_hasSky, r_error, r_errorAt, z, rfl, rfl, hp, rfl⟩ := h
  refine ⟨Nat.le_of_ble_eq_true rfl, ?_⟩
  unfold pX7_fail at hp
  refine Rn.go 6 (pc' := 10) (lv' := [(0, .ref 0), (1, .int x1), (2, .int x2)]) (st' := []) (es' := (wX7_Reader r_bytes r_values r_filled r_end r_at r_wordStart r_hasMoon r_hasSky x1 x2)) (c' := 0) (s' := 0) rfl ?_
  obtain rfl := Option.some.inj hp
  exact Rn.fin rfl rfl rfl
theorem qX7_fail : CtA yX7_fail (.code yX7_fail cX7_fail 3 none) 0 0 [] rX7_fail := CtA.of (by decide +kernel) (fun pc op h => kX7_fail _ (lkp_mem h)) oX7_fail
/-! TelescopeNight$Reader.isDigit(I)Z -/
def rX7_isDigit : List Value → List va_E → op_O → Prop := fun avs es r => ∃ (x0 : Int32) (z : Int32), avs = [.int x0] ∧ es = [] ∧ pX7_isDigit x0 = some z ∧ r = (.inl (some (.int z)), [], 0, 0)
def bX7_isDigit : List (Nat × (op_T ⊕ op_R)) := [(0, .inl (o_iload 1 0)), (1, .inl (o_push 3 (.int (48)))), (3, .inl (o_icmplt 6 16)), (6, .inl (o_iload 7 0)), (7, .inl (o_push 9 (.int (57)))), (9, .inl (o_icmpgt 12 16)), (12, .inl (o_push 13 (.int (1)))), (13, .inl (o_goto 17)), (16, .inl (o_push 17 (.int (0)))), (17, .inl (o_zret))]
set_option maxRecDepth 100000 in
set_option maxHeartbeats 4000000 in
theorem kX7_isDigit : ∀ q ∈ bX7_isDigit, ok2 0 0 1 cX7_isDigit yX7_isDigit.cls yX7_isDigit.name (some .boolean) (.code yX7_isDigit cX7_isDigit 1 (some .boolean)) [] [] q.1 q.2 := (al_c (s_iload_n (k := 0) (by decide +kernel)) (al_c (s_bipush (n := 48) (48) (by decide) (by decide +kernel)) (al_c (s_icmplt (off := 13) 16 (by decide) (by decide +kernel)) (al_c (s_iload_n (k := 0) (by decide +kernel)) (al_c (s_bipush (n := 57) (57) (by decide) (by decide +kernel)) (al_c (s_icmpgt (off := 7) 16 (by decide) (by decide +kernel)) (al_c (s_iconst (n := 1) (1) (by decide) (by decide +kernel)) (al_c (s_goto (off := 4) 17 (by decide) (by decide +kernel)) (al_c (s_iconst (n := 0) (0) (by decide) (by decide +kernel)) (al_c (s_zret rfl (by decide +kernel)) al_n))))))))))
set_option maxRecDepth 100000 in
set_option maxHeartbeats 4000000 in
theorem oX7_isDigit : Of (lkp bX7_isDigit) 1 rX7_isDigit := by
  intro avs es r h
  obtain ⟨x0, z, rfl, rfl, hp, rfl⟩ := h
  refine ⟨Nat.le_of_ble_eq_true rfl, ?_⟩
  unfold pX7_isDigit at hp
  refine Rn.go 2 (pc' := 3) (lv' := [(0, .int x0)]) (st' := [.int (48 : Int32), .int x0]) (es' := []) (c' := 0) (s' := 0) rfl ?_
  refine Rn.br (P := x0 < (48 : Int32)) (pc1 := 16) (pc2 := 6) rfl rfl (fun h1 => ?_) (fun h1 => ?_)
  · rw [if_pos h1] at hp
    refine Rn.go 1 (pc' := 17) (lv' := [(0, .int x0)]) (st' := [.int (0 : Int32)]) (es' := []) (c' := 0) (s' := 0) rfl ?_
    obtain rfl := Option.some.inj hp
    exact Rn.fin rfl rfl rfl
  · rw [if_neg h1] at hp
    refine Rn.go 2 (pc' := 9) (lv' := [(0, .int x0)]) (st' := [.int (57 : Int32), .int x0]) (es' := []) (c' := 0) (s' := 0) rfl ?_
    refine Rn.br (P := (57 : Int32) < x0) (pc1 := 16) (pc2 := 12) rfl rfl (fun h2 => ?_) (fun h2 => ?_)
    · rw [if_pos h2] at hp
      refine Rn.go 1 (pc' := 17) (lv' := [(0, .int x0)]) (st' := [.int (0 : Int32)]) (es' := []) (c' := 0) (s' := 0) rfl ?_
      obtain rfl := Option.some.inj hp
      exact Rn.fin rfl rfl rfl
    · rw [if_neg h2] at hp
      refine Rn.go 2 (pc' := 17) (lv' := [(0, .int x0)]) (st' := [.int (1 : Int32)]) (es' := []) (c' := 0) (s' := 0) rfl ?_
      obtain rfl := Option.some.inj hp
      exact Rn.fin rfl rfl rfl
theorem qX7_isDigit : CtA yX7_isDigit (.code yX7_isDigit cX7_isDigit 1 (some .boolean)) 0 0 [] rX7_isDigit := CtA.of (by decide +kernel) (fun pc op h => kX7_isDigit _ (lkp_mem h)) oX7_isDigit
/-! TelescopeNight$Reader.takeDigits()I -/
def rX7_takeDigits : List Value → List va_E → op_O → Prop := fun avs es r => ∃ (r_bytes : Nat → Int32) (r_values : Nat → Int32) (r_filled : Int32) (r_end : Int32) (r_at : Int32) (r_wordStart : Int32) (r_hasMoon : Int32) (r_hasSky : Int32) (r_error : Int32) (r_errorAt : Int32) (z : Int32 × Int32), avs = [.ref 0] ∧ es = (wX7_Reader r_bytes r_values r_filled r_end r_at r_wordStart r_hasMoon r_hasSky r_error r_errorAt) ∧ pX7_takeDigits r_bytes r_end r_at = some z ∧ r = (.inl (some (.int z.1)), (wX7_Reader r_bytes r_values r_filled r_end z.2 r_wordStart r_hasMoon r_hasSky r_error r_errorAt), 0, 0)
def bX7_takeDigits : List (Nat × (op_T ⊕ op_R)) := [(0, .inl (o_push 1 (.int (0)))), (1, .inl (nrm [0, 1] (o_istore 2 1))), (2, .inl (o_aload 3 0)), (3, .inl (o_get 6 7 4)), (6, .inl (o_aload 7 0)), (7, .inl (o_get 10 7 3)), (10, .inl (o_icmpge 13 69)), (13, .inl (o_aload 14 0)), (14, .inl (o_get 17 7 0)), (17, .inl (o_aload 18 0)), (18, .inl (o_get 21 7 4)), (21, .inl (o_iald 22)), (22, .inr (o_callS [] [] 25 1 rX7_isDigit)), (25, .inl (o_ifeq 28 69)), (28, .inl (o_iload 29 1)), (29, .inl (o_push 31 (.int (100000)))), (31, .inl (o_icmplt 34 38)), (34, .inl (o_iload 35 1)), (35, .inl (o_goto 55)), (38, .inl (o_push 40 (.int (10)))), (40, .inl (o_iload 41 1)), (41, .inl (o_ii 42 (fun x y => x * y))), (42, .inl (o_aload 43 0)), (43, .inl (o_get 46 7 0)), (46, .inl (o_aload 47 0)), (47, .inl (o_get 50 7 4)), (50, .inl (o_iald 51)), (51, .inl (o_ii 52 (fun x y => x + y))), (52, .inl (o_push 54 (.int (48)))), (54, .inl (o_ii 55 (fun x y => x - y))), (55, .inl (o_istore 56 1)), (56, .inl (o_aload 57 0)), (57, .inl (o_dup 58)), (58, .inl (o_get 61 7 4)), (61, .inl (o_push 62 (.int (1)))), (62, .inl (o_ii 63 (fun x y => x + y))), (63, .inl (o_put 66 7 4 .int)), (66, .inl (nrm [0, 1] (o_goto 2))), (69, .inl (o_iload 70 1)), (70, .inl (o_iret))]
set_option maxRecDepth 100000 in
set_option maxHeartbeats 4000000 in
theorem kX7_takeDigits : ∀ q ∈ bX7_takeDigits, ok2 1 20 2 cX7_takeDigits yX7_takeDigits.cls yX7_takeDigits.name (some .int) (.code yX7_takeDigits cX7_takeDigits 2 (some .int)) [] [] q.1 q.2 := (al_c (s_iconst (n := 0) (0) (by decide) (by decide +kernel)) (al_c (s_nrm [0, 1] (s_istore_n (k := 1) rfl (by decide) (by decide +kernel))) (al_c (s_aload_n (k := 0) (by decide +kernel)) (al_c (s_get (C9 := RX7) (T9 := TX7) (N9 := 10) (ci := 7) (k := 4) iX7 rfl (by decide) w_220 (by decide +kernel)) (al_c (s_aload_n (k := 0) (by decide +kernel)) (al_c (s_get (C9 := RX7) (T9 := TX7) (N9 := 10) (ci := 7) (k := 3) iX7 rfl (by decide) w_219 (by decide +kernel)) (al_c (s_icmpge (off := 59) 69 (by decide) (by decide +kernel)) (al_c (s_aload_n (k := 0) (by decide +kernel)) (al_c (s_get (C9 := RX7) (T9 := TX7) (N9 := 10) (ci := 7) (k := 0) iX7 rfl (by decide) w_215 (by decide +kernel)) (al_c (s_aload_n (k := 0) (by decide +kernel)) (al_c (s_get (C9 := RX7) (T9 := TX7) (N9 := 10) (ci := 7) (k := 4) iX7 rfl (by decide) w_220 (by decide +kernel)) (al_c (s_iald (by decide +kernel)) (al_c (s_callS (y := yX7_isDigit) (bytes := cX7_isDigit) (maxL := 1) (ret' := (some .boolean)) (fr' := 0) (lo' := 0) (n := 1) (ml := []) (mlc := []) qX7_isDigit w_894 w_895 w_7 w_896 ⟨by decide +kernel, by decide +kernel, by decide +kernel⟩ (by decide) (by decide) (by decide +kernel)) (al_c (s_ifeq (off := 44) 69 (by decide) (by decide +kernel)) (al_c (s_iload_n (k := 1) (by decide +kernel)) (al_c (s_ldc (100000) w_901 (by decide +kernel)) (al_c (s_icmplt (off := 7) 38 (by decide) (by decide +kernel)) (al_c (s_iload_n (k := 1) (by decide +kernel)) (al_c (s_goto (off := 20) 55 (by decide) (by decide +kernel)) (al_c (s_bipush (n := 10) (10) (by decide) (by decide +kernel)) (al_c (s_iload_n (k := 1) (by decide +kernel)) (al_c (s_imul (by decide +kernel)) (al_c (s_aload_n (k := 0) (by decide +kernel)) (al_c (s_get (C9 := RX7) (T9 := TX7) (N9 := 10) (ci := 7) (k := 0) iX7 rfl (by decide) w_215 (by decide +kernel)) (al_c (s_aload_n (k := 0) (by decide +kernel)) (al_c (s_get (C9 := RX7) (T9 := TX7) (N9 := 10) (ci := 7) (k := 4) iX7 rfl (by decide) w_220 (by decide +kernel)) (al_c (s_iald (by decide +kernel)) (al_c (s_iadd (by decide +kernel)) (al_c (s_bipush (n := 48) (48) (by decide) (by decide +kernel)) (al_c (s_isub (by decide +kernel)) (al_c (s_istore_n (k := 1) rfl (by decide) (by decide +kernel)) (al_c (s_aload_n (k := 0) (by decide +kernel)) (al_c (s_dup (by decide +kernel)) (al_c (s_get (C9 := RX7) (T9 := TX7) (N9 := 10) (ci := 7) (k := 4) iX7 rfl (by decide) w_220 (by decide +kernel)) (al_c (s_iconst (n := 1) (1) (by decide) (by decide +kernel)) (al_c (s_iadd (by decide +kernel)) (al_c (s_put (C9 := RX7) (T9 := TX7) (N9 := 10) (ci := 7) (k := 4) iX7 rfl (by decide) w_220 tyX7 tyX7_ok nmX7 rfl (by decide +kernel)) (al_c (s_nrm [0, 1] (s_goto (off := -64) 2 (by decide) (by decide +kernel))) (al_c (s_iload_n (k := 1) (by decide +kernel)) (al_c (s_iret rfl (by decide +kernel)) al_n))))))))))))))))))))))))))))))))))))))))
set_option maxRecDepth 100000 in
set_option maxHeartbeats 4000000 in
theorem lrX7_takeDigits_2 (r_bytes : Nat → Int32) (r_values : Nat → Int32) (r_filled : Int32) (r_end : Int32) (r_wordStart : Int32) (r_hasMoon : Int32) (r_hasSky : Int32) (r_error : Int32) (r_errorAt : Int32) : ∀ (fu : Nat) (l1 : Int32) (r_at : Int32) (z : (Int32 × Int32)), lpX7_takeDigits_2 r_bytes r_end fu l1 r_at = some z → ∀ (c s : Nat) (r : op_O), Rn (lkp bX7_takeDigits) 69 [(0, .ref 0), (1, .int z.1)] [] (wX7_Reader r_bytes r_values r_filled r_end z.2 r_wordStart r_hasMoon r_hasSky r_error r_errorAt) c s r → Rn (lkp bX7_takeDigits) 2 [(0, .ref 0), (1, .int l1)] [] (wX7_Reader r_bytes r_values r_filled r_end r_at r_wordStart r_hasMoon r_hasSky r_error r_errorAt) c s r := by
  intro fu
  induction fu with
  | zero => intro l1 r_at z hp; cases hp
  | succ fu ih =>
      intro l1 r_at z hp c s r k
      unfold lpX7_takeDigits_2 at hp
      refine Rn.go 4 (pc' := 10) (lv' := [(0, .ref 0), (1, .int l1)]) (st' := [.int r_end, .int r_at]) (es' := (wX7_Reader r_bytes r_values r_filled r_end r_at r_wordStart r_hasMoon r_hasSky r_error r_errorAt)) (c' := c) (s' := s) rfl ?_
      refine Rn.br (P := r_end ≤ r_at) (pc1 := 69) (pc2 := 13) rfl rfl (fun h1 => ?_) (fun h1 => ?_)
      · rw [if_pos h1] at hp
        obtain rfl := Option.some.inj hp
        exact k
      · rw [if_neg h1] at hp
        refine Rn.go 4 (pc' := 21) (lv' := [(0, .ref 0), (1, .int l1)]) (st' := [.int r_at, .ref 1]) (es' := (wX7_Reader r_bytes r_values r_filled r_end r_at r_wordStart r_hasMoon r_hasSky r_error r_errorAt)) (c' := c) (s' := s) rfl ?_
        by_cases h2 : (r_at < 0 ∨ 500 ≤ r_at.toNatClampNeg)
        · rw [if_pos h2] at hp; cases hp
        · rw [if_neg h2] at hp
          refine Rn.gd (pc' := 22) (lv' := [(0, .ref 0), (1, .int l1)]) (st' := [.int (r_bytes r_at.toNatClampNeg)]) (es' := (wX7_Reader r_bytes r_values r_filled r_end r_at r_wordStart r_hasMoon r_hasSky r_error r_errorAt)) rfl rfl h2 ?_
          obtain ⟨z1, hz1, hp⟩ := ob_some hp
          refine Rn.rel (pc' := 25) (lv' := [(0, .ref 0), (1, .int l1)]) (st' := [.int z1]) (es' := (wX7_Reader r_bytes r_values r_filled r_end r_at r_wordStart r_hasMoon r_hasSky r_error r_errorAt)) (dc := 0) (ds := 0) rfl ⟨[.int (r_bytes r_at.toNatClampNeg)], [], .inl (some (.int z1)), [], 0, 0, rfl, rfl, Nat.le_of_ble_eq_true rfl, ⟨(r_bytes r_at.toNatClampNeg), z1, rfl, rfl, hz1, rfl⟩, rfl⟩ ?_
          refine Rn.br (P := z1 = 0) (pc1 := 69) (pc2 := 28) rfl rfl (fun h3 => ?_) (fun h3 => ?_)
          · rw [if_pos h3] at hp
            obtain rfl := Option.some.inj hp
            exact k
          · rw [if_neg h3] at hp
            refine Rn.go 2 (pc' := 31) (lv' := [(0, .ref 0), (1, .int l1)]) (st' := [.int (100000 : Int32), .int l1]) (es' := (wX7_Reader r_bytes r_values r_filled r_end r_at r_wordStart r_hasMoon r_hasSky r_error r_errorAt)) (c' := c) (s' := s) rfl ?_
            refine Rn.br (P := l1 < (100000 : Int32)) (pc1 := 38) (pc2 := 34) rfl rfl (fun h4 => ?_) (fun h4 => ?_)
            · rw [if_pos h4] at hp
              refine Rn.go 7 (pc' := 50) (lv' := [(0, .ref 0), (1, .int l1)]) (st' := [.int r_at, .ref 1, .int ((10 : Int32) * l1)]) (es' := (wX7_Reader r_bytes r_values r_filled r_end r_at r_wordStart r_hasMoon r_hasSky r_error r_errorAt)) (c' := c) (s' := s) rfl ?_
              refine Rn.gd (pc' := 51) (lv' := [(0, .ref 0), (1, .int l1)]) (st' := [.int (r_bytes r_at.toNatClampNeg), .int ((10 : Int32) * l1)]) (es' := (wX7_Reader r_bytes r_values r_filled r_end r_at r_wordStart r_hasMoon r_hasSky r_error r_errorAt)) rfl rfl h2 ?_
              refine Rn.go 11 (pc' := 2) (lv' := [(0, .ref 0), (1, .int ((((10 : Int32) * l1) + (r_bytes r_at.toNatClampNeg)) - (48 : Int32)))]) (st' := []) (es' := (wX7_Reader r_bytes r_values r_filled r_end (r_at + (1 : Int32)) r_wordStart r_hasMoon r_hasSky r_error r_errorAt)) (c' := c) (s' := s) rfl ?_
              exact ih ((((10 : Int32) * l1) + (r_bytes r_at.toNatClampNeg)) - (48 : Int32)) (r_at + (1 : Int32)) z hp c s r k
            · rw [if_neg h4] at hp
              refine Rn.go 10 (pc' := 2) (lv' := [(0, .ref 0), (1, .int l1)]) (st' := []) (es' := (wX7_Reader r_bytes r_values r_filled r_end (r_at + (1 : Int32)) r_wordStart r_hasMoon r_hasSky r_error r_errorAt)) (c' := c) (s' := s) rfl ?_
              exact ih l1 (r_at + (1 : Int32)) z hp c s r k
set_option maxRecDepth 100000 in
set_option maxHeartbeats 4000000 in
theorem oX7_takeDigits : Of (lkp bX7_takeDigits) 2 rX7_takeDigits := by
  intro avs es r h
  obtain ⟨r_bytes, r_values, r_filled, r_end, r_at, r_wordStart, r_hasMoon, r_hasSky, r_error, r_errorAt, z, rfl, rfl, hp, rfl⟩ := h
  refine ⟨Nat.le_of_ble_eq_true rfl, ?_⟩
  unfold pX7_takeDigits at hp
  refine Rn.go 2 (pc' := 2) (lv' := [(0, .ref 0), (1, .int (0 : Int32))]) (st' := []) (es' := (wX7_Reader r_bytes r_values r_filled r_end r_at r_wordStart r_hasMoon r_hasSky r_error r_errorAt)) (c' := 0) (s' := 0) rfl ?_
  obtain ⟨z2, hz2, hp⟩ := ob_some hp
  refine lrX7_takeDigits_2 r_bytes r_values r_filled r_end r_wordStart r_hasMoon r_hasSky r_error r_errorAt _ (0 : Int32) r_at z2 hz2 _ _ _ ?_
  refine Rn.go 1 (pc' := 70) (lv' := [(0, .ref 0), (1, .int z2.1)]) (st' := [.int z2.1]) (es' := (wX7_Reader r_bytes r_values r_filled r_end z2.2 r_wordStart r_hasMoon r_hasSky r_error r_errorAt)) (c' := 0) (s' := 0) rfl ?_
  obtain rfl := Option.some.inj hp
  exact Rn.fin rfl rfl rfl
theorem qX7_takeDigits : CtA yX7_takeDigits (.code yX7_takeDigits cX7_takeDigits 2 (some .int)) 1 20 [] rX7_takeDigits := CtA.of (by decide +kernel) (fun pc op h => kX7_takeDigits _ (lkp_mem h)) oX7_takeDigits
/-! TelescopeNight$Reader.takeNumber(III)Z -/
def rX7_takeNumber : List Value → List va_E → op_O → Prop := fun avs es r => ∃ (x1 : Int32) (x2 : Int32) (x3 : Int32) (r_bytes : Nat → Int32) (r_values : Nat → Int32) (r_filled : Int32) (r_end : Int32) (r_at : Int32) (r_wordStart : Int32) (r_hasMoon : Int32) (r_hasSky : Int32) (r_error : Int32) (r_errorAt : Int32) (z : Int32 × Int32 × Int32 × Int32 × (Nat → Int32)), avs = [.ref 0, .int x1, .int x2, .int x3] ∧ es = (wX7_Reader r_bytes r_values r_filled r_end r_at r_wordStart r_hasMoon r_hasSky r_error r_errorAt) ∧ pX7_takeNumber x1 x2 x3 r_bytes r_values r_end r_at r_error r_errorAt = some z ∧ r = (.inl (some (.int z.1)), (wX7_Reader r_bytes z.2.2.2.2 r_filled r_end z.2.1 r_wordStart r_hasMoon r_hasSky z.2.2.1 z.2.2.2.1), 0, 0)
def bX7_takeNumber : List (Nat × (op_T ⊕ op_R)) := [(0, .inl (o_aload 1 0)), (1, .inr (o_callV [] [] 4 0 7 rX7_skipSpaces)), (4, .inl (o_aload 5 0)), (5, .inl (o_get 8 7 4)), (8, .inl (o_istore 10 4)), (10, .inl (o_iload 11 2)), (11, .inl (o_ifge 14 43)), (14, .inl (o_aload 15 0)), (15, .inl (o_get 18 7 4)), (18, .inl (o_aload 19 0)), (19, .inl (o_get 22 7 3)), (22, .inl (o_icmpge 25 43)), (25, .inl (o_aload 26 0)), (26, .inl (o_get 29 7 0)), (29, .inl (o_aload 30 0)), (30, .inl (o_get 33 7 4)), (33, .inl (o_iald 34)), (34, .inl (o_push 36 (.int (45)))), (36, .inl (o_icmpne 39 43)), (39, .inl (o_push 40 (.int (1)))), (40, .inl (o_goto 44)), (43, .inl (o_push 44 (.int (0)))), (44, .inl (o_istore 46 5)), (46, .inl (o_iload 48 5)), (48, .inl (o_ifeq 51 61)), (51, .inl (o_aload 52 0)), (52, .inl (o_dup 53)), (53, .inl (o_get 56 7 4)), (56, .inl (o_push 57 (.int (1)))), (57, .inl (o_ii 58 (fun x y => x + y))), (58, .inl (o_put 61 7 4 .int)), (61, .inl (o_aload 62 0)), (62, .inl (o_get 65 7 4)), (65, .inl (o_aload 66 0)), (66, .inl (o_get 69 7 3)), (69, .inl (o_icmpge 72 87)), (72, .inl (o_aload 73 0)), (73, .inl (o_get 76 7 0)), (76, .inl (o_aload 77 0)), (77, .inl (o_get 80 7 4)), (80, .inl (o_iald 81)), (81, .inr (o_callS [] [] 84 1 rX7_isDigit)), (84, .inl (o_ifne 87 97)), (87, .inl (o_aload 88 0)), (88, .inl (o_push 90 (.int (-2)))), (90, .inl (o_iload 92 4)), (92, .inr (o_callV [] [] 95 2 7 rX7_fail)), (95, .inl (o_push 96 (.int (0)))), (96, .inl (o_zret)), (97, .inl (o_iload 99 5)), (99, .inl (o_ifeq 102 110)), (102, .inl (o_aload 103 0)), (103, .inr (o_callV [] [] 106 0 7 rX7_takeDigits)), (106, .inl (o_ineg 107)), (107, .inl (o_goto 114)), (110, .inl (o_aload 111 0)), (111, .inr (o_callV [] [] 114 0 7 rX7_takeDigits)), (114, .inl (o_istore 116 6)), (116, .inl (o_iload 118 6)), (118, .inl (o_iload 119 2)), (119, .inl (o_icmplt 122 128)), (122, .inl (o_iload 124 6)), (124, .inl (o_iload 125 3)), (125, .inl (o_icmple 128 138)), (128, .inl (o_aload 129 0)), (129, .inl (o_push 131 (.int (-3)))), (131, .inl (o_iload 133 4)), (133, .inr (o_callV [] [] 136 2 7 rX7_fail)), (136, .inl (o_push 137 (.int (0)))), (137, .inl (o_zret)), (138, .inl (o_aload 139 0)), (139, .inl (o_get 142 7 1)), (142, .inl (o_iload 143 1)), (143, .inl (o_iload 145 6)), (145, .inl (o_iast 146)), (146, .inl (o_push 147 (.int (1)))), (147, .inl (o_zret))]
set_option maxRecDepth 100000 in
set_option maxHeartbeats 4000000 in
theorem kX7_takeNumber : ∀ q ∈ bX7_takeNumber, ok2 2 41 7 cX7_takeNumber yX7_takeNumber.cls yX7_takeNumber.name (some .boolean) (.code yX7_takeNumber cX7_takeNumber 7 (some .boolean)) [] [] q.1 q.2 := (al_c (s_aload_n (k := 0) (by decide +kernel)) (al_c (s_callV (y := yX7_skipSpaces) (bytes := cX7_skipSpaces) (maxL := 1) (ret' := none) (fr' := 0) (lo' := 0) (n := 0) (ml := []) (mlc := []) (ci := 7) (q9 := (RX7, TX7, 10)) qX7_skipSpaces w_821 w_823 wp_31 w_7 w_824 ⟨by decide +kernel, by decide +kernel, by decide +kernel⟩ rfl rfl (by decide) (by decide) (by decide +kernel)) (al_c (s_aload_n (k := 0) (by decide +kernel)) (al_c (s_get (C9 := RX7) (T9 := TX7) (N9 := 10) (ci := 7) (k := 4) iX7 rfl (by decide) w_220 (by decide +kernel)) (al_c (s_istore (by decide) (by decide +kernel)) (al_c (s_iload_n (k := 2) (by decide +kernel)) (al_c (s_ifge (off := 32) 43 (by decide) (by decide +kernel)) (al_c (s_aload_n (k := 0) (by decide +kernel)) (al_c (s_get (C9 := RX7) (T9 := TX7) (N9 := 10) (ci := 7) (k := 4) iX7 rfl (by decide) w_220 (by decide +kernel)) (al_c (s_aload_n (k := 0) (by decide +kernel)) (al_c (s_get (C9 := RX7) (T9 := TX7) (N9 := 10) (ci := 7) (k := 3) iX7 rfl (by decide) w_219 (by decide +kernel)) (al_c (s_icmpge (off := 21) 43 (by decide) (by decide +kernel)) (al_c (s_aload_n (k := 0) (by decide +kernel)) (al_c (s_get (C9 := RX7) (T9 := TX7) (N9 := 10) (ci := 7) (k := 0) iX7 rfl (by decide) w_215 (by decide +kernel)) (al_c (s_aload_n (k := 0) (by decide +kernel)) (al_c (s_get (C9 := RX7) (T9 := TX7) (N9 := 10) (ci := 7) (k := 4) iX7 rfl (by decide) w_220 (by decide +kernel)) (al_c (s_iald (by decide +kernel)) (al_c (s_bipush (n := 45) (45) (by decide) (by decide +kernel)) (al_c (s_icmpne (off := 7) 43 (by decide) (by decide +kernel)) (al_c (s_iconst (n := 1) (1) (by decide) (by decide +kernel)) (al_c (s_goto (off := 4) 44 (by decide) (by decide +kernel)) (al_c (s_iconst (n := 0) (0) (by decide) (by decide +kernel)) (al_c (s_istore (by decide) (by decide +kernel)) (al_c (s_iload (by decide +kernel)) (al_c (s_ifeq (off := 13) 61 (by decide) (by decide +kernel)) (al_c (s_aload_n (k := 0) (by decide +kernel)) (al_c (s_dup (by decide +kernel)) (al_c (s_get (C9 := RX7) (T9 := TX7) (N9 := 10) (ci := 7) (k := 4) iX7 rfl (by decide) w_220 (by decide +kernel)) (al_c (s_iconst (n := 1) (1) (by decide) (by decide +kernel)) (al_c (s_iadd (by decide +kernel)) (al_c (s_put (C9 := RX7) (T9 := TX7) (N9 := 10) (ci := 7) (k := 4) iX7 rfl (by decide) w_220 tyX7 tyX7_ok nmX7 rfl (by decide +kernel)) (al_c (s_aload_n (k := 0) (by decide +kernel)) (al_c (s_get (C9 := RX7) (T9 := TX7) (N9 := 10) (ci := 7) (k := 4) iX7 rfl (by decide) w_220 (by decide +kernel)) (al_c (s_aload_n (k := 0) (by decide +kernel)) (al_c (s_get (C9 := RX7) (T9 := TX7) (N9 := 10) (ci := 7) (k := 3) iX7 rfl (by decide) w_219 (by decide +kernel)) (al_c (s_icmpge (off := 18) 87 (by decide) (by decide +kernel)) (al_c (s_aload_n (k := 0) (by decide +kernel)) (al_c (s_get (C9 := RX7) (T9 := TX7) (N9 := 10) (ci := 7) (k := 0) iX7 rfl (by decide) w_215 (by decide +kernel)) (al_c (s_aload_n (k := 0) (by decide +kernel)) (al_c (s_get (C9 := RX7) (T9 := TX7) (N9 := 10) (ci := 7) (k := 4) iX7 rfl (by decide) w_220 (by decide +kernel)) (al_c (s_iald (by decide +kernel)) (al_c (s_callS (y := yX7_isDigit) (bytes := cX7_isDigit) (maxL := 1) (ret' := (some .boolean)) (fr' := 0) (lo' := 0) (n := 1) (ml := []) (mlc := []) qX7_isDigit w_894 w_895 w_7 w_896 ⟨by decide +kernel, by decide +kernel, by decide +kernel⟩ (by decide) (by decide) (by decide +kernel)) (al_c (s_ifne (off := 13) 97 (by decide) (by decide +kernel)) (al_c (s_aload_n (k := 0) (by decide +kernel)) (al_c (s_bipush (n := -2) (-2) (by decide) (by decide +kernel)) (al_c (s_iload (by decide +kernel)) (al_c (s_callV (y := yX7_fail) (bytes := cX7_fail) (maxL := 3) (ret' := none) (fr' := 0) (lo' := 0) (n := 2) (ml := []) (mlc := []) (ci := 7) (q9 := (RX7, TX7, 10)) qX7_fail w_878 w_880 wp_33 w_7 w_881 ⟨by decide +kernel, by decide +kernel, by decide +kernel⟩ rfl rfl (by decide) (by decide) (by decide +kernel)) (al_c (s_iconst (n := 0) (0) (by decide) (by decide +kernel)) (al_c (s_zret rfl (by decide +kernel)) (al_c (s_iload (by decide +kernel)) (al_c (s_ifeq (off := 11) 110 (by decide) (by decide +kernel)) (al_c (s_aload_n (k := 0) (by decide +kernel)) (al_c (s_callV (y := yX7_takeDigits) (bytes := cX7_takeDigits) (maxL := 2) (ret' := (some .int)) (fr' := 1) (lo' := 20) (n := 0) (ml := []) (mlc := []) (ci := 7) (q9 := (RX7, TX7, 10)) qX7_takeDigits w_897 w_899 wp_36 w_7 w_900 ⟨by decide +kernel, by decide +kernel, by decide +kernel⟩ rfl rfl (by decide) (by decide) (by decide +kernel)) (al_c (s_ineg (by decide +kernel)) (al_c (s_goto (off := 7) 114 (by decide) (by decide +kernel)) (al_c (s_aload_n (k := 0) (by decide +kernel)) (al_c (s_callV (y := yX7_takeDigits) (bytes := cX7_takeDigits) (maxL := 2) (ret' := (some .int)) (fr' := 1) (lo' := 20) (n := 0) (ml := []) (mlc := []) (ci := 7) (q9 := (RX7, TX7, 10)) qX7_takeDigits w_897 w_899 wp_36 w_7 w_900 ⟨by decide +kernel, by decide +kernel, by decide +kernel⟩ rfl rfl (by decide) (by decide) (by decide +kernel)) (al_c (s_istore (by decide) (by decide +kernel)) (al_c (s_iload (by decide +kernel)) (al_c (s_iload_n (k := 2) (by decide +kernel)) (al_c (s_icmplt (off := 9) 128 (by decide) (by decide +kernel)) (al_c (s_iload (by decide +kernel)) (al_c (s_iload_n (k := 3) (by decide +kernel)) (al_c (s_icmple (off := 13) 138 (by decide) (by decide +kernel)) (al_c (s_aload_n (k := 0) (by decide +kernel)) (al_c (s_bipush (n := -3) (-3) (by decide) (by decide +kernel)) (al_c (s_iload (by decide +kernel)) (al_c (s_callV (y := yX7_fail) (bytes := cX7_fail) (maxL := 3) (ret' := none) (fr' := 0) (lo' := 0) (n := 2) (ml := []) (mlc := []) (ci := 7) (q9 := (RX7, TX7, 10)) qX7_fail w_878 w_880 wp_33 w_7 w_881 ⟨by decide +kernel, by decide +kernel, by decide +kernel⟩ rfl rfl (by decide) (by decide) (by decide +kernel)) (al_c (s_iconst (n := 0) (0) (by decide) (by decide +kernel)) (al_c (s_zret rfl (by decide +kernel)) (al_c (s_aload_n (k := 0) (by decide +kernel)) (al_c (s_get (C9 := RX7) (T9 := TX7) (N9 := 10) (ci := 7) (k := 1) iX7 rfl (by decide) w_216 (by decide +kernel)) (al_c (s_iload_n (k := 1) (by decide +kernel)) (al_c (s_iload (by decide +kernel)) (al_c (s_iast (by decide +kernel)) (al_c (s_iconst (n := 1) (1) (by decide) (by decide +kernel)) (al_c (s_zret rfl (by decide +kernel)) al_n)))))))))))))))))))))))))))))))))))))))))))))))))))))))))))))))))))))))))))))
set_option maxRecDepth 100000 in
set_option maxHeartbeats 4000000 in
theorem oX7_takeNumber : Of (lkp bX7_takeNumber) 7 rX7_takeNumber := by
  intro avs es r h
  obtain ⟨x1, x2, x3, r_bytes, r_values, r_filled, r_end, r_at, r_wordStart, r_hasMoon, r_hasSky, r_error, r_errorAt, z, rfl, rfl, hp, rfl⟩ := h
  refine ⟨Nat.le_of_ble_eq_true rfl, ?_⟩
  unfold pX7_takeNumber at hp
  refine Rn.go 1 (pc' := 1) (lv' := [(0, .ref 0), (1, .int x1), (2, .int x2), (3, .int x3)]) (st' := [.ref 0]) (es' := (wX7_Reader r_bytes r_values r_filled r_end r_at r_wordStart r_hasMoon r_hasSky r_error r_errorAt)) (c' := 0) (s' := 0) rfl ?_
  obtain ⟨z1, hz1, hp⟩ := ob_some hp
  refine Rn.rel (pc' := 4) (lv' := [(0, .ref 0), (1, .int x1), (2, .int x2), (3, .int x3)]) (st' := []) (es' := (wX7_Reader r_bytes r_values r_filled r_end z1 r_wordStart r_hasMoon r_hasSky r_error r_errorAt)) (dc := 0) (ds := 0) rfl ⟨0, [], _, [0, 1, 2], .inl none, (wX7_Reader r_bytes r_values r_filled r_end z1 r_wordStart r_hasMoon r_hasSky r_error r_errorAt), 0, 0, rfl, rfl, Nat.le_of_ble_eq_true rfl, rfl, ⟨r_bytes, r_values, r_filled, r_end, r_at, r_wordStart, r_hasMoon, r_hasSky, r_error, r_errorAt, z1, rfl, rfl, hz1, rfl⟩, rfl⟩ ?_
  refine Rn.go 4 (pc' := 11) (lv' := [(4, .int z1), (0, .ref 0), (1, .int x1), (2, .int x2), (3, .int x3)]) (st' := [.int x2]) (es' := (wX7_Reader r_bytes r_values r_filled r_end z1 r_wordStart r_hasMoon r_hasSky r_error r_errorAt)) (c' := 0) (s' := 0) rfl ?_
  refine Rn.br (P := 0 ≤ x2) (pc1 := 43) (pc2 := 14) rfl rfl (fun h1 => ?_) (fun h1 => ?_)
  · rw [if_pos h1] at hp
    refine Rn.go 8 (pc' := 69) (lv' := [(5, .int (0 : Int32)), (4, .int z1), (0, .ref 0), (1, .int x1), (2, .int x2), (3, .int x3)]) (st' := [.int r_end, .int z1]) (es' := (wX7_Reader r_bytes r_values r_filled r_end z1 r_wordStart r_hasMoon r_hasSky r_error r_errorAt)) (c' := 0) (s' := 0) rfl ?_
    refine Rn.br (P := r_end ≤ z1) (pc1 := 87) (pc2 := 72) rfl rfl (fun h2 => ?_) (fun h2 => ?_)
    · rw [if_pos h2] at hp
      refine Rn.go 3 (pc' := 92) (lv' := [(5, .int (0 : Int32)), (4, .int z1), (0, .ref 0), (1, .int x1), (2, .int x2), (3, .int x3)]) (st' := [.int z1, .int (-2 : Int32), .ref 0]) (es' := (wX7_Reader r_bytes r_values r_filled r_end z1 r_wordStart r_hasMoon r_hasSky r_error r_errorAt)) (c' := 0) (s' := 0) rfl ?_
      obtain ⟨z2, hz2, hp⟩ := ob_some hp
      refine Rn.rel (pc' := 95) (lv' := [(5, .int (0 : Int32)), (4, .int z1), (0, .ref 0), (1, .int x1), (2, .int x2), (3, .int x3)]) (st' := []) (es' := (wX7_Reader r_bytes r_values r_filled r_end z1 r_wordStart r_hasMoon r_hasSky z2.1 z2.2)) (dc := 0) (ds := 0) rfl ⟨0, [.int (-2 : Int32), .int z1], _, [0, 1, 2], .inl none, (wX7_Reader r_bytes r_values r_filled r_end z1 r_wordStart r_hasMoon r_hasSky z2.1 z2.2), 0, 0, rfl, rfl, Nat.le_of_ble_eq_true rfl, rfl, ⟨(-2 : Int32), z1, r_bytes, r_values, r_filled, r_end, z1, r_wordStart, r_hasMoon, r_hasSky, r_error, r_errorAt, z2, rfl, rfl, hz2, rfl⟩, rfl⟩ ?_
      refine Rn.go 1 (pc' := 96) (lv' := [(5, .int (0 : Int32)), (4, .int z1), (0, .ref 0), (1, .int x1), (2, .int x2), (3, .int x3)]) (st' := [.int (0 : Int32)]) (es' := (wX7_Reader r_bytes r_values r_filled r_end z1 r_wordStart r_hasMoon r_hasSky z2.1 z2.2)) (c' := 0) (s' := 0) rfl ?_
      obtain rfl := Option.some.inj hp
      exact Rn.fin rfl rfl rfl
    · rw [if_neg h2] at hp
      refine Rn.go 4 (pc' := 80) (lv' := [(5, .int (0 : Int32)), (4, .int z1), (0, .ref 0), (1, .int x1), (2, .int x2), (3, .int x3)]) (st' := [.int z1, .ref 1]) (es' := (wX7_Reader r_bytes r_values r_filled r_end z1 r_wordStart r_hasMoon r_hasSky r_error r_errorAt)) (c' := 0) (s' := 0) rfl ?_
      by_cases h3 : (z1 < 0 ∨ 500 ≤ z1.toNatClampNeg)
      · rw [if_pos h3] at hp; cases hp
      · rw [if_neg h3] at hp
        refine Rn.gd (pc' := 81) (lv' := [(5, .int (0 : Int32)), (4, .int z1), (0, .ref 0), (1, .int x1), (2, .int x2), (3, .int x3)]) (st' := [.int (r_bytes z1.toNatClampNeg)]) (es' := (wX7_Reader r_bytes r_values r_filled r_end z1 r_wordStart r_hasMoon r_hasSky r_error r_errorAt)) rfl rfl h3 ?_
        obtain ⟨z3, hz3, hp⟩ := ob_some hp
        refine Rn.rel (pc' := 84) (lv' := [(5, .int (0 : Int32)), (4, .int z1), (0, .ref 0), (1, .int x1), (2, .int x2), (3, .int x3)]) (st' := [.int z3]) (es' := (wX7_Reader r_bytes r_values r_filled r_end z1 r_wordStart r_hasMoon r_hasSky r_error r_errorAt)) (dc := 0) (ds := 0) rfl ⟨[.int (r_bytes z1.toNatClampNeg)], [], .inl (some (.int z3)), [], 0, 0, rfl, rfl, Nat.le_of_ble_eq_true rfl, ⟨(r_bytes z1.toNatClampNeg), z3, rfl, rfl, hz3, rfl⟩, rfl⟩ ?_
        refine Rn.br (P := ¬ z3 = 0) (pc1 := 97) (pc2 := 87) rfl rfl (fun h4 => ?_) (fun h4 => ?_)
        · rw [if_pos h4] at hp
          refine Rn.go 3 (pc' := 111) (lv' := [(5, .int (0 : Int32)), (4, .int z1), (0, .ref 0), (1, .int x1), (2, .int x2), (3, .int x3)]) (st' := [.ref 0]) (es' := (wX7_Reader r_bytes r_values r_filled r_end z1 r_wordStart r_hasMoon r_hasSky r_error r_errorAt)) (c' := 0) (s' := 0) rfl ?_
          obtain ⟨z4, hz4, hp⟩ := ob_some hp
          refine Rn.rel (pc' := 114) (lv' := [(5, .int (0 : Int32)), (4, .int z1), (0, .ref 0), (1, .int x1), (2, .int x2), (3, .int x3)]) (st' := [.int z4.1]) (es' := (wX7_Reader r_bytes r_values r_filled r_end z4.2 r_wordStart r_hasMoon r_hasSky r_error r_errorAt)) (dc := 0) (ds := 0) rfl ⟨0, [], _, [0, 1, 2], .inl (some (.int z4.1)), (wX7_Reader r_bytes r_values r_filled r_end z4.2 r_wordStart r_hasMoon r_hasSky r_error r_errorAt), 0, 0, rfl, rfl, Nat.le_of_ble_eq_true rfl, rfl, ⟨r_bytes, r_values, r_filled, r_end, z1, r_wordStart, r_hasMoon, r_hasSky, r_error, r_errorAt, z4, rfl, rfl, hz4, rfl⟩, rfl⟩ ?_
          refine Rn.go 3 (pc' := 119) (lv' := [(6, .int z4.1), (5, .int (0 : Int32)), (4, .int z1), (0, .ref 0), (1, .int x1), (2, .int x2), (3, .int x3)]) (st' := [.int x2, .int z4.1]) (es' := (wX7_Reader r_bytes r_values r_filled r_end z4.2 r_wordStart r_hasMoon r_hasSky r_error r_errorAt)) (c' := 0) (s' := 0) rfl ?_
          refine Rn.br (P := z4.1 < x2) (pc1 := 128) (pc2 := 122) rfl rfl (fun h5 => ?_) (fun h5 => ?_)
          · rw [if_pos h5] at hp
            refine Rn.go 3 (pc' := 133) (lv' := [(6, .int z4.1), (5, .int (0 : Int32)), (4, .int z1), (0, .ref 0), (1, .int x1), (2, .int x2), (3, .int x3)]) (st' := [.int z1, .int (-3 : Int32), .ref 0]) (es' := (wX7_Reader r_bytes r_values r_filled r_end z4.2 r_wordStart r_hasMoon r_hasSky r_error r_errorAt)) (c' := 0) (s' := 0) rfl ?_
            obtain ⟨z5, hz5, hp⟩ := ob_some hp
            refine Rn.rel (pc' := 136) (lv' := [(6, .int z4.1), (5, .int (0 : Int32)), (4, .int z1), (0, .ref 0), (1, .int x1), (2, .int x2), (3, .int x3)]) (st' := []) (es' := (wX7_Reader r_bytes r_values r_filled r_end z4.2 r_wordStart r_hasMoon r_hasSky z5.1 z5.2)) (dc := 0) (ds := 0) rfl ⟨0, [.int (-3 : Int32), .int z1], _, [0, 1, 2], .inl none, (wX7_Reader r_bytes r_values r_filled r_end z4.2 r_wordStart r_hasMoon r_hasSky z5.1 z5.2), 0, 0, rfl, rfl, Nat.le_of_ble_eq_true rfl, rfl, ⟨(-3 : Int32), z1, r_bytes, r_values, r_filled, r_end, z4.2, r_wordStart, r_hasMoon, r_hasSky, r_error, r_errorAt, z5, rfl, rfl, hz5, rfl⟩, rfl⟩ ?_
            refine Rn.go 1 (pc' := 137) (lv' := [(6, .int z4.1), (5, .int (0 : Int32)), (4, .int z1), (0, .ref 0), (1, .int x1), (2, .int x2), (3, .int x3)]) (st' := [.int (0 : Int32)]) (es' := (wX7_Reader r_bytes r_values r_filled r_end z4.2 r_wordStart r_hasMoon r_hasSky z5.1 z5.2)) (c' := 0) (s' := 0) rfl ?_
            obtain rfl := Option.some.inj hp
            exact Rn.fin rfl rfl rfl
          · rw [if_neg h5] at hp
            refine Rn.go 2 (pc' := 125) (lv' := [(6, .int z4.1), (5, .int (0 : Int32)), (4, .int z1), (0, .ref 0), (1, .int x1), (2, .int x2), (3, .int x3)]) (st' := [.int x3, .int z4.1]) (es' := (wX7_Reader r_bytes r_values r_filled r_end z4.2 r_wordStart r_hasMoon r_hasSky r_error r_errorAt)) (c' := 0) (s' := 0) rfl ?_
            refine Rn.br (P := z4.1 ≤ x3) (pc1 := 138) (pc2 := 128) rfl rfl (fun h6 => ?_) (fun h6 => ?_)
            · rw [if_pos h6] at hp
              refine Rn.go 4 (pc' := 145) (lv' := [(6, .int z4.1), (5, .int (0 : Int32)), (4, .int z1), (0, .ref 0), (1, .int x1), (2, .int x2), (3, .int x3)]) (st' := [.int z4.1, .int x1, .ref 2]) (es' := (wX7_Reader r_bytes r_values r_filled r_end z4.2 r_wordStart r_hasMoon r_hasSky r_error r_errorAt)) (c' := 0) (s' := 0) rfl ?_
              by_cases h7 : (x1 < 0 ∨ 9 ≤ x1.toNatClampNeg)
              · rw [if_pos h7] at hp; cases hp
              · rw [if_neg h7] at hp
                refine Rn.gd (pc' := 146) (lv' := [(6, .int z4.1), (5, .int (0 : Int32)), (4, .int z1), (0, .ref 0), (1, .int x1), (2, .int x2), (3, .int x3)]) (st' := []) (es' := (wX7_Reader r_bytes (upd r_values x1.toNatClampNeg z4.1) r_filled r_end z4.2 r_wordStart r_hasMoon r_hasSky r_error r_errorAt)) rfl rfl h7 ?_
                refine Rn.go 1 (pc' := 147) (lv' := [(6, .int z4.1), (5, .int (0 : Int32)), (4, .int z1), (0, .ref 0), (1, .int x1), (2, .int x2), (3, .int x3)]) (st' := [.int (1 : Int32)]) (es' := (wX7_Reader r_bytes (upd r_values x1.toNatClampNeg z4.1) r_filled r_end z4.2 r_wordStart r_hasMoon r_hasSky r_error r_errorAt)) (c' := 0) (s' := 0) rfl ?_
                obtain rfl := Option.some.inj hp
                exact Rn.fin rfl rfl rfl
            · rw [if_neg h6] at hp
              refine Rn.go 3 (pc' := 133) (lv' := [(6, .int z4.1), (5, .int (0 : Int32)), (4, .int z1), (0, .ref 0), (1, .int x1), (2, .int x2), (3, .int x3)]) (st' := [.int z1, .int (-3 : Int32), .ref 0]) (es' := (wX7_Reader r_bytes r_values r_filled r_end z4.2 r_wordStart r_hasMoon r_hasSky r_error r_errorAt)) (c' := 0) (s' := 0) rfl ?_
              obtain ⟨z6, hz6, hp⟩ := ob_some hp
              refine Rn.rel (pc' := 136) (lv' := [(6, .int z4.1), (5, .int (0 : Int32)), (4, .int z1), (0, .ref 0), (1, .int x1), (2, .int x2), (3, .int x3)]) (st' := []) (es' := (wX7_Reader r_bytes r_values r_filled r_end z4.2 r_wordStart r_hasMoon r_hasSky z6.1 z6.2)) (dc := 0) (ds := 0) rfl ⟨0, [.int (-3 : Int32), .int z1], _, [0, 1, 2], .inl none, (wX7_Reader r_bytes r_values r_filled r_end z4.2 r_wordStart r_hasMoon r_hasSky z6.1 z6.2), 0, 0, rfl, rfl, Nat.le_of_ble_eq_true rfl, rfl, ⟨(-3 : Int32), z1, r_bytes, r_values, r_filled, r_end, z4.2, r_wordStart, r_hasMoon, r_hasSky, r_error, r_errorAt, z6, rfl, rfl, hz6, rfl⟩, rfl⟩ ?_
              refine Rn.go 1 (pc' := 137) (lv' := [(6, .int z4.1), (5, .int (0 : Int32)), (4, .int z1), (0, .ref 0), (1, .int x1), (2, .int x2), (3, .int x3)]) (st' := [.int (0 : Int32)]) (es' := (wX7_Reader r_bytes r_values r_filled r_end z4.2 r_wordStart r_hasMoon r_hasSky z6.1 z6.2)) (c' := 0) (s' := 0) rfl ?_
              obtain rfl := Option.some.inj hp
              exact Rn.fin rfl rfl rfl
        · rw [if_neg h4] at hp
          refine Rn.go 3 (pc' := 92) (lv' := [(5, .int (0 : Int32)), (4, .int z1), (0, .ref 0), (1, .int x1), (2, .int x2), (3, .int x3)]) (st' := [.int z1, .int (-2 : Int32), .ref 0]) (es' := (wX7_Reader r_bytes r_values r_filled r_end z1 r_wordStart r_hasMoon r_hasSky r_error r_errorAt)) (c' := 0) (s' := 0) rfl ?_
          obtain ⟨z7, hz7, hp⟩ := ob_some hp
          refine Rn.rel (pc' := 95) (lv' := [(5, .int (0 : Int32)), (4, .int z1), (0, .ref 0), (1, .int x1), (2, .int x2), (3, .int x3)]) (st' := []) (es' := (wX7_Reader r_bytes r_values r_filled r_end z1 r_wordStart r_hasMoon r_hasSky z7.1 z7.2)) (dc := 0) (ds := 0) rfl ⟨0, [.int (-2 : Int32), .int z1], _, [0, 1, 2], .inl none, (wX7_Reader r_bytes r_values r_filled r_end z1 r_wordStart r_hasMoon r_hasSky z7.1 z7.2), 0, 0, rfl, rfl, Nat.le_of_ble_eq_true rfl, rfl, ⟨(-2 : Int32), z1, r_bytes, r_values, r_filled, r_end, z1, r_wordStart, r_hasMoon, r_hasSky, r_error, r_errorAt, z7, rfl, rfl, hz7, rfl⟩, rfl⟩ ?_
          refine Rn.go 1 (pc' := 96) (lv' := [(5, .int (0 : Int32)), (4, .int z1), (0, .ref 0), (1, .int x1), (2, .int x2), (3, .int x3)]) (st' := [.int (0 : Int32)]) (es' := (wX7_Reader r_bytes r_values r_filled r_end z1 r_wordStart r_hasMoon r_hasSky z7.1 z7.2)) (c' := 0) (s' := 0) rfl ?_
          obtain rfl := Option.some.inj hp
          exact Rn.fin rfl rfl rfl
  · rw [if_neg h1] at hp
    refine Rn.go 4 (pc' := 22) (lv' := [(4, .int z1), (0, .ref 0), (1, .int x1), (2, .int x2), (3, .int x3)]) (st' := [.int r_end, .int z1]) (es' := (wX7_Reader r_bytes r_values r_filled r_end z1 r_wordStart r_hasMoon r_hasSky r_error r_errorAt)) (c' := 0) (s' := 0) rfl ?_
    refine Rn.br (P := r_end ≤ z1) (pc1 := 43) (pc2 := 25) rfl rfl (fun h8 => ?_) (fun h8 => ?_)
    · rw [if_pos h8] at hp
      refine Rn.go 8 (pc' := 69) (lv' := [(5, .int (0 : Int32)), (4, .int z1), (0, .ref 0), (1, .int x1), (2, .int x2), (3, .int x3)]) (st' := [.int r_end, .int z1]) (es' := (wX7_Reader r_bytes r_values r_filled r_end z1 r_wordStart r_hasMoon r_hasSky r_error r_errorAt)) (c' := 0) (s' := 0) rfl ?_
      refine Rn.bt rfl rfl h8 ?_
      refine Rn.go 3 (pc' := 92) (lv' := [(5, .int (0 : Int32)), (4, .int z1), (0, .ref 0), (1, .int x1), (2, .int x2), (3, .int x3)]) (st' := [.int z1, .int (-2 : Int32), .ref 0]) (es' := (wX7_Reader r_bytes r_values r_filled r_end z1 r_wordStart r_hasMoon r_hasSky r_error r_errorAt)) (c' := 0) (s' := 0) rfl ?_
      obtain ⟨z8, hz8, hp⟩ := ob_some hp
      refine Rn.rel (pc' := 95) (lv' := [(5, .int (0 : Int32)), (4, .int z1), (0, .ref 0), (1, .int x1), (2, .int x2), (3, .int x3)]) (st' := []) (es' := (wX7_Reader r_bytes r_values r_filled r_end z1 r_wordStart r_hasMoon r_hasSky z8.1 z8.2)) (dc := 0) (ds := 0) rfl ⟨0, [.int (-2 : Int32), .int z1], _, [0, 1, 2], .inl none, (wX7_Reader r_bytes r_values r_filled r_end z1 r_wordStart r_hasMoon r_hasSky z8.1 z8.2), 0, 0, rfl, rfl, Nat.le_of_ble_eq_true rfl, rfl, ⟨(-2 : Int32), z1, r_bytes, r_values, r_filled, r_end, z1, r_wordStart, r_hasMoon, r_hasSky, r_error, r_errorAt, z8, rfl, rfl, hz8, rfl⟩, rfl⟩ ?_
      refine Rn.go 1 (pc' := 96) (lv' := [(5, .int (0 : Int32)), (4, .int z1), (0, .ref 0), (1, .int x1), (2, .int x2), (3, .int x3)]) (st' := [.int (0 : Int32)]) (es' := (wX7_Reader r_bytes r_values r_filled r_end z1 r_wordStart r_hasMoon r_hasSky z8.1 z8.2)) (c' := 0) (s' := 0) rfl ?_
      obtain rfl := Option.some.inj hp
      exact Rn.fin rfl rfl rfl
    · rw [if_neg h8] at hp
      refine Rn.go 4 (pc' := 33) (lv' := [(4, .int z1), (0, .ref 0), (1, .int x1), (2, .int x2), (3, .int x3)]) (st' := [.int z1, .ref 1]) (es' := (wX7_Reader r_bytes r_values r_filled r_end z1 r_wordStart r_hasMoon r_hasSky r_error r_errorAt)) (c' := 0) (s' := 0) rfl ?_
      by_cases h9 : (z1 < 0 ∨ 500 ≤ z1.toNatClampNeg)
      · rw [if_pos h9] at hp; cases hp
      · rw [if_neg h9] at hp
        refine Rn.gd (pc' := 34) (lv' := [(4, .int z1), (0, .ref 0), (1, .int x1), (2, .int x2), (3, .int x3)]) (st' := [.int (r_bytes z1.toNatClampNeg)]) (es' := (wX7_Reader r_bytes r_values r_filled r_end z1 r_wordStart r_hasMoon r_hasSky r_error r_errorAt)) rfl rfl h9 ?_
        refine Rn.go 1 (pc' := 36) (lv' := [(4, .int z1), (0, .ref 0), (1, .int x1), (2, .int x2), (3, .int x3)]) (st' := [.int (45 : Int32), .int (r_bytes z1.toNatClampNeg)]) (es' := (wX7_Reader r_bytes r_values r_filled r_end z1 r_wordStart r_hasMoon r_hasSky r_error r_errorAt)) (c' := 0) (s' := 0) rfl ?_
        refine Rn.br (P := ¬ (r_bytes z1.toNatClampNeg) = (45 : Int32)) (pc1 := 43) (pc2 := 39) rfl rfl (fun h10 => ?_) (fun h10 => ?_)
        · rw [if_pos h10] at hp
          refine Rn.go 8 (pc' := 69) (lv' := [(5, .int (0 : Int32)), (4, .int z1), (0, .ref 0), (1, .int x1), (2, .int x2), (3, .int x3)]) (st' := [.int r_end, .int z1]) (es' := (wX7_Reader r_bytes r_values r_filled r_end z1 r_wordStart r_hasMoon r_hasSky r_error r_errorAt)) (c' := 0) (s' := 0) rfl ?_
          refine Rn.bf rfl rfl h8 ?_
          refine Rn.go 4 (pc' := 80) (lv' := [(5, .int (0 : Int32)), (4, .int z1), (0, .ref 0), (1, .int x1), (2, .int x2), (3, .int x3)]) (st' := [.int z1, .ref 1]) (es' := (wX7_Reader r_bytes r_values r_filled r_end z1 r_wordStart r_hasMoon r_hasSky r_error r_errorAt)) (c' := 0) (s' := 0) rfl ?_
          refine Rn.gd (pc' := 81) (lv' := [(5, .int (0 : Int32)), (4, .int z1), (0, .ref 0), (1, .int x1), (2, .int x2), (3, .int x3)]) (st' := [.int (r_bytes z1.toNatClampNeg)]) (es' := (wX7_Reader r_bytes r_values r_filled r_end z1 r_wordStart r_hasMoon r_hasSky r_error r_errorAt)) rfl rfl h9 ?_
          obtain ⟨z9, hz9, hp⟩ := ob_some hp
          refine Rn.rel (pc' := 84) (lv' := [(5, .int (0 : Int32)), (4, .int z1), (0, .ref 0), (1, .int x1), (2, .int x2), (3, .int x3)]) (st' := [.int z9]) (es' := (wX7_Reader r_bytes r_values r_filled r_end z1 r_wordStart r_hasMoon r_hasSky r_error r_errorAt)) (dc := 0) (ds := 0) rfl ⟨[.int (r_bytes z1.toNatClampNeg)], [], .inl (some (.int z9)), [], 0, 0, rfl, rfl, Nat.le_of_ble_eq_true rfl, ⟨(r_bytes z1.toNatClampNeg), z9, rfl, rfl, hz9, rfl⟩, rfl⟩ ?_
          refine Rn.br (P := ¬ z9 = 0) (pc1 := 97) (pc2 := 87) rfl rfl (fun h11 => ?_) (fun h11 => ?_)
          · rw [if_pos h11] at hp
            refine Rn.go 3 (pc' := 111) (lv' := [(5, .int (0 : Int32)), (4, .int z1), (0, .ref 0), (1, .int x1), (2, .int x2), (3, .int x3)]) (st' := [.ref 0]) (es' := (wX7_Reader r_bytes r_values r_filled r_end z1 r_wordStart r_hasMoon r_hasSky r_error r_errorAt)) (c' := 0) (s' := 0) rfl ?_
            obtain ⟨z10, hz10, hp⟩ := ob_some hp
            refine Rn.rel (pc' := 114) (lv' := [(5, .int (0 : Int32)), (4, .int z1), (0, .ref 0), (1, .int x1), (2, .int x2), (3, .int x3)]) (st' := [.int z10.1]) (es' := (wX7_Reader r_bytes r_values r_filled r_end z10.2 r_wordStart r_hasMoon r_hasSky r_error r_errorAt)) (dc := 0) (ds := 0) rfl ⟨0, [], _, [0, 1, 2], .inl (some (.int z10.1)), (wX7_Reader r_bytes r_values r_filled r_end z10.2 r_wordStart r_hasMoon r_hasSky r_error r_errorAt), 0, 0, rfl, rfl, Nat.le_of_ble_eq_true rfl, rfl, ⟨r_bytes, r_values, r_filled, r_end, z1, r_wordStart, r_hasMoon, r_hasSky, r_error, r_errorAt, z10, rfl, rfl, hz10, rfl⟩, rfl⟩ ?_
            refine Rn.go 3 (pc' := 119) (lv' := [(6, .int z10.1), (5, .int (0 : Int32)), (4, .int z1), (0, .ref 0), (1, .int x1), (2, .int x2), (3, .int x3)]) (st' := [.int x2, .int z10.1]) (es' := (wX7_Reader r_bytes r_values r_filled r_end z10.2 r_wordStart r_hasMoon r_hasSky r_error r_errorAt)) (c' := 0) (s' := 0) rfl ?_
            refine Rn.br (P := z10.1 < x2) (pc1 := 128) (pc2 := 122) rfl rfl (fun h12 => ?_) (fun h12 => ?_)
            · rw [if_pos h12] at hp
              refine Rn.go 3 (pc' := 133) (lv' := [(6, .int z10.1), (5, .int (0 : Int32)), (4, .int z1), (0, .ref 0), (1, .int x1), (2, .int x2), (3, .int x3)]) (st' := [.int z1, .int (-3 : Int32), .ref 0]) (es' := (wX7_Reader r_bytes r_values r_filled r_end z10.2 r_wordStart r_hasMoon r_hasSky r_error r_errorAt)) (c' := 0) (s' := 0) rfl ?_
              obtain ⟨z11, hz11, hp⟩ := ob_some hp
              refine Rn.rel (pc' := 136) (lv' := [(6, .int z10.1), (5, .int (0 : Int32)), (4, .int z1), (0, .ref 0), (1, .int x1), (2, .int x2), (3, .int x3)]) (st' := []) (es' := (wX7_Reader r_bytes r_values r_filled r_end z10.2 r_wordStart r_hasMoon r_hasSky z11.1 z11.2)) (dc := 0) (ds := 0) rfl ⟨0, [.int (-3 : Int32), .int z1], _, [0, 1, 2], .inl none, (wX7_Reader r_bytes r_values r_filled r_end z10.2 r_wordStart r_hasMoon r_hasSky z11.1 z11.2), 0, 0, rfl, rfl, Nat.le_of_ble_eq_true rfl, rfl, ⟨(-3 : Int32), z1, r_bytes, r_values, r_filled, r_end, z10.2, r_wordStart, r_hasMoon, r_hasSky, r_error, r_errorAt, z11, rfl, rfl, hz11, rfl⟩, rfl⟩ ?_
              refine Rn.go 1 (pc' := 137) (lv' := [(6, .int z10.1), (5, .int (0 : Int32)), (4, .int z1), (0, .ref 0), (1, .int x1), (2, .int x2), (3, .int x3)]) (st' := [.int (0 : Int32)]) (es' := (wX7_Reader r_bytes r_values r_filled r_end z10.2 r_wordStart r_hasMoon r_hasSky z11.1 z11.2)) (c' := 0) (s' := 0) rfl ?_
              obtain rfl := Option.some.inj hp
              exact Rn.fin rfl rfl rfl
            · rw [if_neg h12] at hp
              refine Rn.go 2 (pc' := 125) (lv' := [(6, .int z10.1), (5, .int (0 : Int32)), (4, .int z1), (0, .ref 0), (1, .int x1), (2, .int x2), (3, .int x3)]) (st' := [.int x3, .int z10.1]) (es' := (wX7_Reader r_bytes r_values r_filled r_end z10.2 r_wordStart r_hasMoon r_hasSky r_error r_errorAt)) (c' := 0) (s' := 0) rfl ?_
              refine Rn.br (P := z10.1 ≤ x3) (pc1 := 138) (pc2 := 128) rfl rfl (fun h13 => ?_) (fun h13 => ?_)
              · rw [if_pos h13] at hp
                refine Rn.go 4 (pc' := 145) (lv' := [(6, .int z10.1), (5, .int (0 : Int32)), (4, .int z1), (0, .ref 0), (1, .int x1), (2, .int x2), (3, .int x3)]) (st' := [.int z10.1, .int x1, .ref 2]) (es' := (wX7_Reader r_bytes r_values r_filled r_end z10.2 r_wordStart r_hasMoon r_hasSky r_error r_errorAt)) (c' := 0) (s' := 0) rfl ?_
                by_cases h14 : (x1 < 0 ∨ 9 ≤ x1.toNatClampNeg)
                · rw [if_pos h14] at hp; cases hp
                · rw [if_neg h14] at hp
                  refine Rn.gd (pc' := 146) (lv' := [(6, .int z10.1), (5, .int (0 : Int32)), (4, .int z1), (0, .ref 0), (1, .int x1), (2, .int x2), (3, .int x3)]) (st' := []) (es' := (wX7_Reader r_bytes (upd r_values x1.toNatClampNeg z10.1) r_filled r_end z10.2 r_wordStart r_hasMoon r_hasSky r_error r_errorAt)) rfl rfl h14 ?_
                  refine Rn.go 1 (pc' := 147) (lv' := [(6, .int z10.1), (5, .int (0 : Int32)), (4, .int z1), (0, .ref 0), (1, .int x1), (2, .int x2), (3, .int x3)]) (st' := [.int (1 : Int32)]) (es' := (wX7_Reader r_bytes (upd r_values x1.toNatClampNeg z10.1) r_filled r_end z10.2 r_wordStart r_hasMoon r_hasSky r_error r_errorAt)) (c' := 0) (s' := 0) rfl ?_
                  obtain rfl := Option.some.inj hp
                  exact Rn.fin rfl rfl rfl
              · rw [if_neg h13] at hp
                refine Rn.go 3 (pc' := 133) (lv' := [(6, .int z10.1), (5, .int (0 : Int32)), (4, .int z1), (0, .ref 0), (1, .int x1), (2, .int x2), (3, .int x3)]) (st' := [.int z1, .int (-3 : Int32), .ref 0]) (es' := (wX7_Reader r_bytes r_values r_filled r_end z10.2 r_wordStart r_hasMoon r_hasSky r_error r_errorAt)) (c' := 0) (s' := 0) rfl ?_
                obtain ⟨z12, hz12, hp⟩ := ob_some hp
                refine Rn.rel (pc' := 136) (lv' := [(6, .int z10.1), (5, .int (0 : Int32)), (4, .int z1), (0, .ref 0), (1, .int x1), (2, .int x2), (3, .int x3)]) (st' := []) (es' := (wX7_Reader r_bytes r_values r_filled r_end z10.2 r_wordStart r_hasMoon r_hasSky z12.1 z12.2)) (dc := 0) (ds := 0) rfl ⟨0, [.int (-3 : Int32), .int z1], _, [0, 1, 2], .inl none, (wX7_Reader r_bytes r_values r_filled r_end z10.2 r_wordStart r_hasMoon r_hasSky z12.1 z12.2), 0, 0, rfl, rfl, Nat.le_of_ble_eq_true rfl, rfl, ⟨(-3 : Int32), z1, r_bytes, r_values, r_filled, r_end, z10.2, r_wordStart, r_hasMoon, r_hasSky, r_error, r_errorAt, z12, rfl, rfl, hz12, rfl⟩, rfl⟩ ?_
                refine Rn.go 1 (pc' := 137) (lv' := [(6, .int z10.1), (5, .int (0 : Int32)), (4, .int z1), (0, .ref 0), (1, .int x1), (2, .int x2), (3, .int x3)]) (st' := [.int (0 : Int32)]) (es' := (wX7_Reader r_bytes r_values r_filled r_end z10.2 r_wordStart r_hasMoon r_hasSky z12.1 z12.2)) (c' := 0) (s' := 0) rfl ?_
                obtain rfl := Option.some.inj hp
                exact Rn.fin rfl rfl rfl
          · rw [if_neg h11] at hp
            refine Rn.go 3 (pc' := 92) (lv' := [(5, .int (0 : Int32)), (4, .int z1), (0, .ref 0), (1, .int x1), (2, .int x2), (3, .int x3)]) (st' := [.int z1, .int (-2 : Int32), .ref 0]) (es' := (wX7_Reader r_bytes r_values r_filled r_end z1 r_wordStart r_hasMoon r_hasSky r_error r_errorAt)) (c' := 0) (s' := 0) rfl ?_
            obtain ⟨z13, hz13, hp⟩ := ob_some hp
            refine Rn.rel (pc' := 95) (lv' := [(5, .int (0 : Int32)), (4, .int z1), (0, .ref 0), (1, .int x1), (2, .int x2), (3, .int x3)]) (st' := []) (es' := (wX7_Reader r_bytes r_values r_filled r_end z1 r_wordStart r_hasMoon r_hasSky z13.1 z13.2)) (dc := 0) (ds := 0) rfl ⟨0, [.int (-2 : Int32), .int z1], _, [0, 1, 2], .inl none, (wX7_Reader r_bytes r_values r_filled r_end z1 r_wordStart r_hasMoon r_hasSky z13.1 z13.2), 0, 0, rfl, rfl, Nat.le_of_ble_eq_true rfl, rfl, ⟨(-2 : Int32), z1, r_bytes, r_values, r_filled, r_end, z1, r_wordStart, r_hasMoon, r_hasSky, r_error, r_errorAt, z13, rfl, rfl, hz13, rfl⟩, rfl⟩ ?_
            refine Rn.go 1 (pc' := 96) (lv' := [(5, .int (0 : Int32)), (4, .int z1), (0, .ref 0), (1, .int x1), (2, .int x2), (3, .int x3)]) (st' := [.int (0 : Int32)]) (es' := (wX7_Reader r_bytes r_values r_filled r_end z1 r_wordStart r_hasMoon r_hasSky z13.1 z13.2)) (c' := 0) (s' := 0) rfl ?_
            obtain rfl := Option.some.inj hp
            exact Rn.fin rfl rfl rfl
        · rw [if_neg h10] at hp
          refine Rn.go 15 (pc' := 69) (lv' := [(5, .int (1 : Int32)), (4, .int z1), (0, .ref 0), (1, .int x1), (2, .int x2), (3, .int x3)]) (st' := [.int r_end, .int (z1 + (1 : Int32))]) (es' := (wX7_Reader r_bytes r_values r_filled r_end (z1 + (1 : Int32)) r_wordStart r_hasMoon r_hasSky r_error r_errorAt)) (c' := 0) (s' := 0) rfl ?_
          refine Rn.br (P := r_end ≤ (z1 + (1 : Int32))) (pc1 := 87) (pc2 := 72) rfl rfl (fun h15 => ?_) (fun h15 => ?_)
          · rw [if_pos h15] at hp
            refine Rn.go 3 (pc' := 92) (lv' := [(5, .int (1 : Int32)), (4, .int z1), (0, .ref 0), (1, .int x1), (2, .int x2), (3, .int x3)]) (st' := [.int z1, .int (-2 : Int32), .ref 0]) (es' := (wX7_Reader r_bytes r_values r_filled r_end (z1 + (1 : Int32)) r_wordStart r_hasMoon r_hasSky r_error r_errorAt)) (c' := 0) (s' := 0) rfl ?_
            obtain ⟨z14, hz14, hp⟩ := ob_some hp
            refine Rn.rel (pc' := 95) (lv' := [(5, .int (1 : Int32)), (4, .int z1), (0, .ref 0), (1, .int x1), (2, .int x2), (3, .int x3)]) (st' := []) (es' := (wX7_Reader r_bytes r_values r_filled r_end (z1 + (1 : Int32)) r_wordStart r_hasMoon r_hasSky z14.1 z14.2)) (dc := 0) (ds := 0) rfl ⟨0, [.int (-2 : Int32), .int z1], _, [0, 1, 2], .inl none, (wX7_Reader r_bytes r_values r_filled r_end (z1 + (1 : Int32)) r_wordStart r_hasMoon r_hasSky z14.1 z14.2), 0, 0, rfl, rfl, Nat.le_of_ble_eq_true rfl, rfl, ⟨(-2 : Int32), z1, r_bytes, r_values, r_filled, r_end, (z1 + (1 : Int32)), r_wordStart, r_hasMoon, r_hasSky, r_error, r_errorAt, z14, rfl, rfl, hz14, rfl⟩, rfl⟩ ?_
            refine Rn.go 1 (pc' := 96) (lv' := [(5, .int (1 : Int32)), (4, .int z1), (0, .ref 0), (1, .int x1), (2, .int x2), (3, .int x3)]) (st' := [.int (0 : Int32)]) (es' := (wX7_Reader r_bytes r_values r_filled r_end (z1 + (1 : Int32)) r_wordStart r_hasMoon r_hasSky z14.1 z14.2)) (c' := 0) (s' := 0) rfl ?_
            obtain rfl := Option.some.inj hp
            exact Rn.fin rfl rfl rfl
          · rw [if_neg h15] at hp
            refine Rn.go 4 (pc' := 80) (lv' := [(5, .int (1 : Int32)), (4, .int z1), (0, .ref 0), (1, .int x1), (2, .int x2), (3, .int x3)]) (st' := [.int (z1 + (1 : Int32)), .ref 1]) (es' := (wX7_Reader r_bytes r_values r_filled r_end (z1 + (1 : Int32)) r_wordStart r_hasMoon r_hasSky r_error r_errorAt)) (c' := 0) (s' := 0) rfl ?_
            by_cases h16 : ((z1 + (1 : Int32)) < 0 ∨ 500 ≤ ((z1 + (1 : Int32))).toNatClampNeg)
            · rw [if_pos h16] at hp; cases hp
            · rw [if_neg h16] at hp
              refine Rn.gd (pc' := 81) (lv' := [(5, .int (1 : Int32)), (4, .int z1), (0, .ref 0), (1, .int x1), (2, .int x2), (3, .int x3)]) (st' := [.int (r_bytes ((z1 + (1 : Int32))).toNatClampNeg)]) (es' := (wX7_Reader r_bytes r_values r_filled r_end (z1 + (1 : Int32)) r_wordStart r_hasMoon r_hasSky r_error r_errorAt)) rfl rfl h16 ?_
              obtain ⟨z15, hz15, hp⟩ := ob_some hp
              refine Rn.rel (pc' := 84) (lv' := [(5, .int (1 : Int32)), (4, .int z1), (0, .ref 0), (1, .int x1), (2, .int x2), (3, .int x3)]) (st' := [.int z15]) (es' := (wX7_Reader r_bytes r_values r_filled r_end (z1 + (1 : Int32)) r_wordStart r_hasMoon r_hasSky r_error r_errorAt)) (dc := 0) (ds := 0) rfl ⟨[.int (r_bytes ((z1 + (1 : Int32))).toNatClampNeg)], [], .inl (some (.int z15)), [], 0, 0, rfl, rfl, Nat.le_of_ble_eq_true rfl, ⟨(r_bytes ((z1 + (1 : Int32))).toNatClampNeg), z15, rfl, rfl, hz15, rfl⟩, rfl⟩ ?_
              refine Rn.br (P := ¬ z15 = 0) (pc1 := 97) (pc2 := 87) rfl rfl (fun h17 => ?_) (fun h17 => ?_)
              · rw [if_pos h17] at hp
                refine Rn.go 3 (pc' := 103) (lv' := [(5, .int (1 : Int32)), (4, .int z1), (0, .ref 0), (1, .int x1), (2, .int x2), (3, .int x3)]) (st' := [.ref 0]) (es' := (wX7_Reader r_bytes r_values r_filled r_end (z1 + (1 : Int32)) r_wordStart r_hasMoon r_hasSky r_error r_errorAt)) (c' := 0) (s' := 0) rfl ?_
                obtain ⟨z16, hz16, hp⟩ := ob_some hp
                refine Rn.rel (pc' := 106) (lv' := [(5, .int (1 : Int32)), (4, .int z1), (0, .ref 0), (1, .int x1), (2, .int x2), (3, .int x3)]) (st' := [.int z16.1]) (es' := (wX7_Reader r_bytes r_values r_filled r_end z16.2 r_wordStart r_hasMoon r_hasSky r_error r_errorAt)) (dc := 0) (ds := 0) rfl ⟨0, [], _, [0, 1, 2], .inl (some (.int z16.1)), (wX7_Reader r_bytes r_values r_filled r_end z16.2 r_wordStart r_hasMoon r_hasSky r_error r_errorAt), 0, 0, rfl, rfl, Nat.le_of_ble_eq_true rfl, rfl, ⟨r_bytes, r_values, r_filled, r_end, (z1 + (1 : Int32)), r_wordStart, r_hasMoon, r_hasSky, r_error, r_errorAt, z16, rfl, rfl, hz16, rfl⟩, rfl⟩ ?_
                refine Rn.go 5 (pc' := 119) (lv' := [(6, .int (-z16.1)), (5, .int (1 : Int32)), (4, .int z1), (0, .ref 0), (1, .int x1), (2, .int x2), (3, .int x3)]) (st' := [.int x2, .int (-z16.1)]) (es' := (wX7_Reader r_bytes r_values r_filled r_end z16.2 r_wordStart r_hasMoon r_hasSky r_error r_errorAt)) (c' := 0) (s' := 0) rfl ?_
                refine Rn.br (P := (-z16.1) < x2) (pc1 := 128) (pc2 := 122) rfl rfl (fun h18 => ?_) (fun h18 => ?_)
                · rw [if_pos h18] at hp
                  refine Rn.go 3 (pc' := 133) (lv' := [(6, .int (-z16.1)), (5, .int (1 : Int32)), (4, .int z1), (0, .ref 0), (1, .int x1), (2, .int x2), (3, .int x3)]) (st' := [.int z1, .int (-3 : Int32), .ref 0]) (es' := (wX7_Reader r_bytes r_values r_filled r_end z16.2 r_wordStart r_hasMoon r_hasSky r_error r_errorAt)) (c' := 0) (s' := 0) rfl ?_
                  obtain ⟨z17, hz17, hp⟩ := ob_some hp
                  refine Rn.rel (pc' := 136) (lv' := [(6, .int (-z16.1)), (5, .int (1 : Int32)), (4, .int z1), (0, .ref 0), (1, .int x1), (2, .int x2), (3, .int x3)]) (st' := []) (es' := (wX7_Reader r_bytes r_values r_filled r_end z16.2 r_wordStart r_hasMoon r_hasSky z17.1 z17.2)) (dc := 0) (ds := 0) rfl ⟨0, [.int (-3 : Int32), .int z1], _, [0, 1, 2], .inl none, (wX7_Reader r_bytes r_values r_filled r_end z16.2 r_wordStart r_hasMoon r_hasSky z17.1 z17.2), 0, 0, rfl, rfl, Nat.le_of_ble_eq_true rfl, rfl, ⟨(-3 : Int32), z1, r_bytes, r_values, r_filled, r_end, z16.2, r_wordStart, r_hasMoon, r_hasSky, r_error, r_errorAt, z17, rfl, rfl, hz17, rfl⟩, rfl⟩ ?_
                  refine Rn.go 1 (pc' := 137) (lv' := [(6, .int (-z16.1)), (5, .int (1 : Int32)), (4, .int z1), (0, .ref 0), (1, .int x1), (2, .int x2), (3, .int x3)]) (st' := [.int (0 : Int32)]) (es' := (wX7_Reader r_bytes r_values r_filled r_end z16.2 r_wordStart r_hasMoon r_hasSky z17.1 z17.2)) (c' := 0) (s' := 0) rfl ?_
                  obtain rfl := Option.some.inj hp
                  exact Rn.fin rfl rfl rfl
                · rw [if_neg h18] at hp
                  refine Rn.go 2 (pc' := 125) (lv' := [(6, .int (-z16.1)), (5, .int (1 : Int32)), (4, .int z1), (0, .ref 0), (1, .int x1), (2, .int x2), (3, .int x3)]) (st' := [.int x3, .int (-z16.1)]) (es' := (wX7_Reader r_bytes r_values r_filled r_end z16.2 r_wordStart r_hasMoon r_hasSky r_error r_errorAt)) (c' := 0) (s' := 0) rfl ?_
                  refine Rn.br (P := (-z16.1) ≤ x3) (pc1 := 138) (pc2 := 128) rfl rfl (fun h19 => ?_) (fun h19 => ?_)
                  · rw [if_pos h19] at hp
                    refine Rn.go 4 (pc' := 145) (lv' := [(6, .int (-z16.1)), (5, .int (1 : Int32)), (4, .int z1), (0, .ref 0), (1, .int x1), (2, .int x2), (3, .int x3)]) (st' := [.int (-z16.1), .int x1, .ref 2]) (es' := (wX7_Reader r_bytes r_values r_filled r_end z16.2 r_wordStart r_hasMoon r_hasSky r_error r_errorAt)) (c' := 0) (s' := 0) rfl ?_
                    by_cases h20 : (x1 < 0 ∨ 9 ≤ x1.toNatClampNeg)
                    · rw [if_pos h20] at hp; cases hp
                    · rw [if_neg h20] at hp
                      refine Rn.gd (pc' := 146) (lv' := [(6, .int (-z16.1)), (5, .int (1 : Int32)), (4, .int z1), (0, .ref 0), (1, .int x1), (2, .int x2), (3, .int x3)]) (st' := []) (es' := (wX7_Reader r_bytes (upd r_values x1.toNatClampNeg ((-z16.1))) r_filled r_end z16.2 r_wordStart r_hasMoon r_hasSky r_error r_errorAt)) rfl rfl h20 ?_
                      refine Rn.go 1 (pc' := 147) (lv' := [(6, .int (-z16.1)), (5, .int (1 : Int32)), (4, .int z1), (0, .ref 0), (1, .int x1), (2, .int x2), (3, .int x3)]) (st' := [.int (1 : Int32)]) (es' := (wX7_Reader r_bytes (upd r_values x1.toNatClampNeg ((-z16.1))) r_filled r_end z16.2 r_wordStart r_hasMoon r_hasSky r_error r_errorAt)) (c' := 0) (s' := 0) rfl ?_
                      obtain rfl := Option.some.inj hp
                      exact Rn.fin rfl rfl rfl
                  · rw [if_neg h19] at hp
                    refine Rn.go 3 (pc' := 133) (lv' := [(6, .int (-z16.1)), (5, .int (1 : Int32)), (4, .int z1), (0, .ref 0), (1, .int x1), (2, .int x2), (3, .int x3)]) (st' := [.int z1, .int (-3 : Int32), .ref 0]) (es' := (wX7_Reader r_bytes r_values r_filled r_end z16.2 r_wordStart r_hasMoon r_hasSky r_error r_errorAt)) (c' := 0) (s' := 0) rfl ?_
                    obtain ⟨z18, hz18, hp⟩ := ob_some hp
                    refine Rn.rel (pc' := 136) (lv' := [(6, .int (-z16.1)), (5, .int (1 : Int32)), (4, .int z1), (0, .ref 0), (1, .int x1), (2, .int x2), (3, .int x3)]) (st' := []) (es' := (wX7_Reader r_bytes r_values r_filled r_end z16.2 r_wordStart r_hasMoon r_hasSky z18.1 z18.2)) (dc := 0) (ds := 0) rfl ⟨0, [.int (-3 : Int32), .int z1], _, [0, 1, 2], .inl none, (wX7_Reader r_bytes r_values r_filled r_end z16.2 r_wordStart r_hasMoon r_hasSky z18.1 z18.2), 0, 0, rfl, rfl, Nat.le_of_ble_eq_true rfl, rfl, ⟨(-3 : Int32), z1, r_bytes, r_values, r_filled, r_end, z16.2, r_wordStart, r_hasMoon, r_hasSky, r_error, r_errorAt, z18, rfl, rfl, hz18, rfl⟩, rfl⟩ ?_
                    refine Rn.go 1 (pc' := 137) (lv' := [(6, .int (-z16.1)), (5, .int (1 : Int32)), (4, .int z1), (0, .ref 0), (1, .int x1), (2, .int x2), (3, .int x3)]) (st' := [.int (0 : Int32)]) (es' := (wX7_Reader r_bytes r_values r_filled r_end z16.2 r_wordStart r_hasMoon r_hasSky z18.1 z18.2)) (c' := 0) (s' := 0) rfl ?_
                    obtain rfl := Option.some.inj hp
                    exact Rn.fin rfl rfl rfl
              · rw [if_neg h17] at hp
                refine Rn.go 3 (pc' := 92) (lv' := [(5, .int (1 : Int32)), (4, .int z1), (0, .ref 0), (1, .int x1), (2, .int x2), (3, .int x3)]) (st' := [.int z1, .int (-2 : Int32), .ref 0]) (es' := (wX7_Reader r_bytes r_values r_filled r_end (z1 + (1 : Int32)) r_wordStart r_hasMoon r_hasSky r_error r_errorAt)) (c' := 0) (s' := 0) rfl ?_
                obtain ⟨z19, hz19, hp⟩ := ob_some hp
                refine Rn.rel (pc' := 95) (lv' := [(5, .int (1 : Int32)), (4, .int z1), (0, .ref 0), (1, .int x1), (2, .int x2), (3, .int x3)]) (st' := []) (es' := (wX7_Reader r_bytes r_values r_filled r_end (z1 + (1 : Int32)) r_wordStart r_hasMoon r_hasSky z19.1 z19.2)) (dc := 0) (ds := 0) rfl ⟨0, [.int (-2 : Int32), .int z1], _, [0, 1, 2], .inl none, (wX7_Reader r_bytes r_values r_filled r_end (z1 + (1 : Int32)) r_wordStart r_hasMoon r_hasSky z19.1 z19.2), 0, 0, rfl, rfl, Nat.le_of_ble_eq_true rfl, rfl, ⟨(-2 : Int32), z1, r_bytes, r_values, r_filled, r_end, (z1 + (1 : Int32)), r_wordStart, r_hasMoon, r_hasSky, r_error, r_errorAt, z19, rfl, rfl, hz19, rfl⟩, rfl⟩ ?_
                refine Rn.go 1 (pc' := 96) (lv' := [(5, .int (1 : Int32)), (4, .int z1), (0, .ref 0), (1, .int x1), (2, .int x2), (3, .int x3)]) (st' := [.int (0 : Int32)]) (es' := (wX7_Reader r_bytes r_values r_filled r_end (z1 + (1 : Int32)) r_wordStart r_hasMoon r_hasSky z19.1 z19.2)) (c' := 0) (s' := 0) rfl ?_
                obtain rfl := Option.some.inj hp
                exact Rn.fin rfl rfl rfl
theorem qX7_takeNumber : CtA yX7_takeNumber (.code yX7_takeNumber cX7_takeNumber 7 (some .boolean)) 2 41 [] rX7_takeNumber := CtA.of (by decide +kernel) (fun pc op h => kX7_takeNumber _ (lkp_mem h)) oX7_takeNumber
/-! TelescopeNight$Reader.takeNumbers([I[I)Z -/
def rX7_takeNumbers_10001001 : List Value → List va_E → op_O → Prop := fun avs es r => ∃ (r_bytes : Nat → Int32) (r_values : Nat → Int32) (r_filled : Int32) (r_end : Int32) (r_at : Int32) (r_wordStart : Int32) (r_hasMoon : Int32) (r_hasSky : Int32) (r_error : Int32) (r_errorAt : Int32) (z : Int32 × Int32 × Int32 × Int32 × (Nat → Int32)), avs = [.ref 0, .ref 1000, .ref 1001] ∧ es = (wX7_Reader r_bytes r_values r_filled r_end r_at r_wordStart r_hasMoon r_hasSky r_error r_errorAt) ∧ pX7_takeNumbers_10001001 r_bytes r_values r_end r_at r_error r_errorAt = some z ∧ r = (.inl (some (.int z.1)), (wX7_Reader r_bytes z.2.2.2.2 r_filled r_end z.2.1 r_wordStart r_hasMoon r_hasSky z.2.2.1 z.2.2.2.1), 0, 0)
def bX7_takeNumbers_10001001 : List (Nat × (op_T ⊕ op_R)) := [(0, .inl (o_push 1 (.int (0)))), (1, .inl (nrm [0, 1, 2, 3] (o_istore 2 3))), (2, .inl (o_iload 3 3)), (3, .inl (o_aload 4 1)), (4, .inl (o_alen 5)), (5, .inl (o_icmpge 8 45)), (8, .inl (o_iload 9 3)), (9, .inl (o_aload 10 2)), (10, .inl (o_alen 11)), (11, .inl (o_icmpge 14 45)), (14, .inl (o_iload 15 3)), (15, .inl (o_aload 16 0)), (16, .inl (o_get 19 7 1)), (19, .inl (o_alen 20)), (20, .inl (o_icmpge 23 45)), (23, .inl (o_aload 24 0)), (24, .inl (o_iload 25 3)), (25, .inl (o_aload 26 1)), (26, .inl (o_iload 27 3)), (27, .inl (o_iald 28)), (28, .inl (o_aload 29 2)), (29, .inl (o_iload 30 3)), (30, .inl (o_iald 31)), (31, .inr (o_callV [] [] 34 3 7 rX7_takeNumber)), (34, .inl (o_ifne 37 39)), (37, .inl (o_push 38 (.int (0)))), (38, .inl (o_zret)), (39, .inl (o_iinc 42 3 (1))), (42, .inl (nrm [0, 1, 2, 3] (o_goto 2))), (45, .inl (o_aload 46 0)), (46, .inr (o_callV [] [] 49 0 7 rX7_skipSpaces)), (49, .inl (o_aload 50 0)), (50, .inl (o_get 53 7 4)), (53, .inl (o_aload 54 0)), (54, .inl (o_get 57 7 3)), (57, .inl (o_icmpge 60 74)), (60, .inl (o_aload 61 0)), (61, .inl (o_get 64 7 0)), (64, .inl (o_aload 65 0)), (65, .inl (o_get 68 7 4)), (68, .inl (o_iald 69)), (69, .inl (o_push 71 (.int (59)))), (71, .inl (o_icmpeq 74 86)), (74, .inl (o_aload 75 0)), (75, .inl (o_push 77 (.int (-2)))), (77, .inl (o_aload 78 0)), (78, .inl (o_get 81 7 4)), (81, .inr (o_callV [] [] 84 2 7 rX7_fail)), (84, .inl (o_push 85 (.int (0)))), (85, .inl (o_zret)), (86, .inl (o_aload 87 0)), (87, .inl (o_dup 88)), (88, .inl (o_get 91 7 4)), (91, .inl (o_push 92 (.int (1)))), (92, .inl (o_ii 93 (fun x y => x + y))), (93, .inl (o_put 96 7 4 .int)), (96, .inl (o_push 97 (.int (1)))), (97, .inl (o_zret))]
set_option maxRecDepth 100000 in
set_option maxHeartbeats 4000000 in
theorem kX7_takeNumbers_10001001 : ∀ q ∈ bX7_takeNumbers_10001001, ok2 3 67 4 cX7_takeNumbers yX7_takeNumbers.cls yX7_takeNumbers.name (some .boolean) (.code yX7_takeNumbers cX7_takeNumbers 4 (some .boolean)) [] [] q.1 q.2 := (al_c (s_iconst (n := 0) (0) (by decide) (by decide +kernel)) (al_c (s_nrm [0, 1, 2, 3] (s_istore_n (k := 3) rfl (by decide) (by decide +kernel))) (al_c (s_iload_n (k := 3) (by decide +kernel)) (al_c (s_aload_n (k := 1) (by decide +kernel)) (al_c (s_alen (by decide +kernel)) (al_c (s_icmpge (off := 40) 45 (by decide) (by decide +kernel)) (al_c (s_iload_n (k := 3) (by decide +kernel)) (al_c (s_aload_n (k := 2) (by decide +kernel)) (al_c (s_alen (by decide +kernel)) (al_c (s_icmpge (off := 34) 45 (by decide) (by decide +kernel)) (al_c (s_iload_n (k := 3) (by decide +kernel)) (al_c (s_aload_n (k := 0) (by decide +kernel)) (al_c (s_get (C9 := RX7) (T9 := TX7) (N9 := 10) (ci := 7) (k := 1) iX7 rfl (by decide) w_216 (by decide +kernel)) (al_c (s_alen (by decide +kernel)) (al_c (s_icmpge (off := 25) 45 (by decide) (by decide +kernel)) (al_c (s_aload_n (k := 0) (by decide +kernel)) (al_c (s_iload_n (k := 3) (by decide +kernel)) (al_c (s_aload_n (k := 1) (by decide +kernel)) (al_c (s_iload_n (k := 3) (by decide +kernel)) (al_c (s_iald (by decide +kernel)) (al_c (s_aload_n (k := 2) (by decide +kernel)) (al_c (s_iload_n (k := 3) (by decide +kernel)) (al_c (s_iald (by decide +kernel)) (al_c (s_callV (y := yX7_takeNumber) (bytes := cX7_takeNumber) (maxL := 7) (ret' := (some .boolean)) (fr' := 2) (lo' := 41) (n := 3) (ml := []) (mlc := []) (ci := 7) (q9 := (RX7, TX7, 10)) qX7_takeNumber w_890 w_892 wp_35 w_7 w_893 ⟨by decide +kernel, by decide +kernel, by decide +kernel⟩ rfl rfl (by decide) (by decide) (by decide +kernel)) (al_c (s_ifne (off := 5) 39 (by decide) (by decide +kernel)) (al_c (s_iconst (n := 0) (0) (by decide) (by decide +kernel)) (al_c (s_zret rfl (by decide +kernel)) (al_c (s_iinc (n := 1) (1) (by decide) (by decide) (by decide +kernel)) (al_c (s_nrm [0, 1, 2, 3] (s_goto (off := -40) 2 (by decide) (by decide +kernel))) (al_c (s_aload_n (k := 0) (by decide +kernel)) (al_c (s_callV (y := yX7_skipSpaces) (bytes := cX7_skipSpaces) (maxL := 1) (ret' := none) (fr' := 0) (lo' := 0) (n := 0) (ml := []) (mlc := []) (ci := 7) (q9 := (RX7, TX7, 10)) qX7_skipSpaces w_821 w_823 wp_31 w_7 w_824 ⟨by decide +kernel, by decide +kernel, by decide +kernel⟩ rfl rfl (by decide) (by decide) (by decide +kernel)) (al_c (s_aload_n (k := 0) (by decide +kernel)) (al_c (s_get (C9 := RX7) (T9 := TX7) (N9 := 10) (ci := 7) (k := 4) iX7 rfl (by decide) w_220 (by decide +kernel)) (al_c (s_aload_n (k := 0) (by decide +kernel)) (al_c (s_get (C9 := RX7) (T9 := TX7) (N9 := 10) (ci := 7) (k := 3) iX7 rfl (by decide) w_219 (by decide +kernel)) (al_c (s_icmpge (off := 17) 74 (by decide) (by decide +kernel)) (al_c (s_aload_n (k := 0) (by decide +kernel)) (al_c (s_get (C9 := RX7) (T9 := TX7) (N9 := 10) (ci := 7) (k := 0) iX7 rfl (by decide) w_215 (by decide +kernel)) (al_c (s_aload_n (k := 0) (by decide +kernel)) (al_c (s_get (C9 := RX7) (T9 := TX7) (N9 := 10) (ci := 7) (k := 4) iX7 rfl (by decide) w_220 (by decide +kernel)) (al_c (s_iald (by decide +kernel)) (al_c (s_bipush (n := 59) (59) (by decide) (by decide +kernel)) (al_c (s_icmpeq (off := 15) 86 (by decide) (by decide +kernel)) (al_c (s_aload_n (k := 0) (by decide +kernel)) (al_c (s_bipush (n := -2) (-2) (by decide) (by decide +kernel)) (al_c (s_aload_n (k := 0) (by decide +kernel)) (al_c (s_get (C9 := RX7) (T9 := TX7) (N9 := 10) (ci := 7) (k := 4) iX7 rfl (by decide) w_220 (by decide +kernel)) (al_c (s_callV (y := yX7_fail) (bytes := cX7_fail) (maxL := 3) (ret' := none) (fr' := 0) (lo' := 0) (n := 2) (ml := []) (mlc := []) (ci := 7) (q9 := (RX7, TX7, 10)) qX7_fail w_878 w_880 wp_33 w_7 w_881 ⟨by decide +kernel, by decide +kernel, by decide +kernel⟩ rfl rfl (by decide) (by decide) (by decide +kernel)) (al_c (s_iconst (n := 0) (0) (by decide) (by decide +kernel)) (al_c (s_zret rfl (by decide +kernel)) (al_c (s_aload_n (k := 0) (by decide +kernel)) (al_c (s_dup (by decide +kernel)) (al_c (s_get (C9 := RX7) (T9 := TX7) (N9 := 10) (ci := 7) (k := 4) iX7 rfl (by decide) w_220 (by decide +kernel)) (al_c (s_iconst (n := 1) (1) (by decide) (by decide +kernel)) (al_c (s_iadd (by decide +kernel)) (al_c (s_put (C9 := RX7) (T9 := TX7) (N9 := 10) (ci := 7) (k := 4) iX7 rfl (by decide) w_220 tyX7 tyX7_ok nmX7 rfl (by decide +kernel)) (al_c (s_iconst (n := 1) (1) (by decide) (by decide +kernel)) (al_c (s_zret rfl (by decide +kernel)) al_n))))))))))))))))))))))))))))))))))))))))))))))))))))))))))
set_option maxRecDepth 100000 in
set_option maxHeartbeats 4000000 in
theorem lrX7_takeNumbers_10001001_2 (r_bytes : Nat → Int32) (r_filled : Int32) (r_end : Int32) (r_wordStart : Int32) (r_hasMoon : Int32) (r_hasSky : Int32) : ∀ (fu : Nat) (l3 : Int32) (r_values : Nat → Int32) (r_at : Int32) (r_error : Int32) (r_errorAt : Int32) (z : ((Int32 × (Nat → Int32) × Int32 × Int32 × Int32) ⊕ (Int32 × Int32 × Int32 × Int32 × (Nat → Int32)))), lpX7_takeNumbers_10001001_2 r_bytes r_end fu l3 r_values r_at r_error r_errorAt = some z → ∀ (c s : Nat) (r : op_O), (match z with | .inl ze => Rn (lkp bX7_takeNumbers_10001001) 45 [(0, .ref 0), (1, .ref 1000), (2, .ref 1001), (3, .int ze.1)] [] (wX7_Reader r_bytes ze.2.1 r_filled r_end ze.2.2.1 r_wordStart r_hasMoon r_hasSky ze.2.2.2.1 ze.2.2.2.2) c s r | .inr zf => r = (.inl (some (.int zf.1)), (wX7_Reader r_bytes zf.2.2.2.2 r_filled r_end zf.2.1 r_wordStart r_hasMoon r_hasSky zf.2.2.1 zf.2.2.2.1), c + 0, s + 0)) → Rn (lkp bX7_takeNumbers_10001001) 2 [(0, .ref 0), (1, .ref 1000), (2, .ref 1001), (3, .int l3)] [] (wX7_Reader r_bytes r_values r_filled r_end r_at r_wordStart r_hasMoon r_hasSky r_error r_errorAt) c s r := by
  intro fu
  induction fu with
  | zero => intro l3 r_values r_at r_error r_errorAt z hp; cases hp
  | succ fu ih =>
      intro l3 r_values r_at r_error r_errorAt z hp c s r k
      unfold lpX7_takeNumbers_10001001_2 at hp
      refine Rn.go 3 (pc' := 5) (lv' := [(0, .ref 0), (1, .ref 1000), (2, .ref 1001), (3, .int l3)]) (st' := [.int (nI 1), .int l3]) (es' := (wX7_Reader r_bytes r_values r_filled r_end r_at r_wordStart r_hasMoon r_hasSky r_error r_errorAt)) (c' := c) (s' := s) rfl ?_
      refine Rn.br (P := (nI 1) ≤ l3) (pc1 := 45) (pc2 := 8) rfl rfl (fun h1 => ?_) (fun h1 => ?_)
      · rw [if_pos h1] at hp
        obtain rfl := Option.some.inj hp
        exact k
      · rw [if_neg h1] at hp
        refine Rn.go 3 (pc' := 11) (lv' := [(0, .ref 0), (1, .ref 1000), (2, .ref 1001), (3, .int l3)]) (st' := [.int (nI 1), .int l3]) (es' := (wX7_Reader r_bytes r_values r_filled r_end r_at r_wordStart r_hasMoon r_hasSky r_error r_errorAt)) (c' := c) (s' := s) rfl ?_
        refine Rn.bf rfl rfl h1 ?_
        refine Rn.go 4 (pc' := 20) (lv' := [(0, .ref 0), (1, .ref 1000), (2, .ref 1001), (3, .int l3)]) (st' := [.int (nI 9), .int l3]) (es' := (wX7_Reader r_bytes r_values r_filled r_end r_at r_wordStart r_hasMoon r_hasSky r_error r_errorAt)) (c' := c) (s' := s) rfl ?_
        refine Rn.br (P := (nI 9) ≤ l3) (pc1 := 45) (pc2 := 23) rfl rfl (fun h2 => ?_) (fun h2 => ?_)
        · rw [if_pos h2] at hp
          obtain rfl := Option.some.inj hp
          exact k
        · rw [if_neg h2] at hp
          refine Rn.go 4 (pc' := 27) (lv' := [(0, .ref 0), (1, .ref 1000), (2, .ref 1001), (3, .int l3)]) (st' := [.int l3, .ref 1000, .int l3, .ref 0]) (es' := (wX7_Reader r_bytes r_values r_filled r_end r_at r_wordStart r_hasMoon r_hasSky r_error r_errorAt)) (c' := c) (s' := s) rfl ?_
          by_cases h3 : (l3 < 0 ∨ 1 ≤ l3.toNatClampNeg)
          · rw [if_pos h3] at hp; cases hp
          · rw [if_neg h3] at hp
            refine Rn.gd (pc' := 28) (lv' := [(0, .ref 0), (1, .ref 1000), (2, .ref 1001), (3, .int l3)]) (st' := [.int (statI 1000 l3.toNatClampNeg), .int l3, .ref 0]) (es' := (wX7_Reader r_bytes r_values r_filled r_end r_at r_wordStart r_hasMoon r_hasSky r_error r_errorAt)) rfl rfl h3 ?_
            refine Rn.go 2 (pc' := 30) (lv' := [(0, .ref 0), (1, .ref 1000), (2, .ref 1001), (3, .int l3)]) (st' := [.int l3, .ref 1001, .int (statI 1000 l3.toNatClampNeg), .int l3, .ref 0]) (es' := (wX7_Reader r_bytes r_values r_filled r_end r_at r_wordStart r_hasMoon r_hasSky r_error r_errorAt)) (c' := c) (s' := s) rfl ?_
            refine Rn.gd (pc' := 31) (lv' := [(0, .ref 0), (1, .ref 1000), (2, .ref 1001), (3, .int l3)]) (st' := [.int (statI 1001 l3.toNatClampNeg), .int (statI 1000 l3.toNatClampNeg), .int l3, .ref 0]) (es' := (wX7_Reader r_bytes r_values r_filled r_end r_at r_wordStart r_hasMoon r_hasSky r_error r_errorAt)) rfl rfl h3 ?_
            obtain ⟨z1, hz1, hp⟩ := ob_some hp
            refine Rn.rel (pc' := 34) (lv' := [(0, .ref 0), (1, .ref 1000), (2, .ref 1001), (3, .int l3)]) (st' := [.int z1.1]) (es' := (wX7_Reader r_bytes z1.2.2.2.2 r_filled r_end z1.2.1 r_wordStart r_hasMoon r_hasSky z1.2.2.1 z1.2.2.2.1)) (dc := 0) (ds := 0) rfl ⟨0, [.int l3, .int (statI 1000 l3.toNatClampNeg), .int (statI 1001 l3.toNatClampNeg)], _, [0, 1, 2], .inl (some (.int z1.1)), (wX7_Reader r_bytes z1.2.2.2.2 r_filled r_end z1.2.1 r_wordStart r_hasMoon r_hasSky z1.2.2.1 z1.2.2.2.1), 0, 0, rfl, rfl, Nat.le_of_ble_eq_true rfl, rfl, ⟨l3, (statI 1000 l3.toNatClampNeg), (statI 1001 l3.toNatClampNeg), r_bytes, r_values, r_filled, r_end, r_at, r_wordStart, r_hasMoon, r_hasSky, r_error, r_errorAt, z1, rfl, rfl, hz1, rfl⟩, rfl⟩ ?_
            refine Rn.br (P := ¬ z1.1 = 0) (pc1 := 39) (pc2 := 37) rfl rfl (fun h4 => ?_) (fun h4 => ?_)
            · rw [if_pos h4] at hp
              refine Rn.go 2 (pc' := 2) (lv' := [(0, .ref 0), (1, .ref 1000), (2, .ref 1001), (3, .int (l3 + (1 : Int32)))]) (st' := []) (es' := (wX7_Reader r_bytes z1.2.2.2.2 r_filled r_end z1.2.1 r_wordStart r_hasMoon r_hasSky z1.2.2.1 z1.2.2.2.1)) (c' := c) (s' := s) rfl ?_
              exact ih (l3 + (1 : Int32)) z1.2.2.2.2 z1.2.1 z1.2.2.1 z1.2.2.2.1 z hp c s r k
            · rw [if_neg h4] at hp
              refine Rn.go 1 (pc' := 38) (lv' := [(0, .ref 0), (1, .ref 1000), (2, .ref 1001), (3, .int l3)]) (st' := [.int (0 : Int32)]) (es' := (wX7_Reader r_bytes z1.2.2.2.2 r_filled r_end z1.2.1 r_wordStart r_hasMoon r_hasSky z1.2.2.1 z1.2.2.2.1)) (c' := c) (s' := s) rfl ?_
              obtain rfl := Option.some.inj hp
              exact Rn.fin rfl rfl k
set_option maxRecDepth 100000 in
set_option maxHeartbeats 4000000 in
theorem oX7_takeNumbers_10001001 : Of (lkp bX7_takeNumbers_10001001) 4 rX7_takeNumbers_10001001 := by
  intro avs es r h
  obtain ⟨r_bytes, r_values, r_filled, r_end, r_at, r_wordStart, r_hasMoon, r_hasSky, r_error, r_errorAt, z, rfl, rfl, hp, rfl⟩ := h
  refine ⟨Nat.le_of_ble_eq_true rfl, ?_⟩
  unfold pX7_takeNumbers_10001001 at hp
  refine Rn.go 2 (pc' := 2) (lv' := [(0, .ref 0), (1, .ref 1000), (2, .ref 1001), (3, .int (0 : Int32))]) (st' := []) (es' := (wX7_Reader r_bytes r_values r_filled r_end r_at r_wordStart r_hasMoon r_hasSky r_error r_errorAt)) (c' := 0) (s' := 0) rfl ?_
  obtain ⟨z2, hz2, hp⟩ := ob_some hp
  rcases z2 with z2e | z2f
  · dsimp only at hp
    refine lrX7_takeNumbers_10001001_2 r_bytes r_filled r_end r_wordStart r_hasMoon r_hasSky _ (0 : Int32) r_values r_at r_error r_errorAt _ hz2 _ _ _ ?_
    refine Rn.go 1 (pc' := 46) (lv' := [(0, .ref 0), (1, .ref 1000), (2, .ref 1001), (3, .int z2e.1)]) (st' := [.ref 0]) (es' := (wX7_Reader r_bytes z2e.2.1 r_filled r_end z2e.2.2.1 r_wordStart r_hasMoon r_hasSky z2e.2.2.2.1 z2e.2.2.2.2)) (c' := 0) (s' := 0) rfl ?_
    obtain ⟨z3, hz3, hp⟩ := ob_some hp
    refine Rn.rel (pc' := 49) (lv' := [(0, .ref 0), (1, .ref 1000), (2, .ref 1001), (3, .int z2e.1)]) (st' := []) (es' := (wX7_Reader r_bytes z2e.2.1 r_filled r_end z3 r_wordStart r_hasMoon r_hasSky z2e.2.2.2.1 z2e.2.2.2.2)) (dc := 0) (ds := 0) rfl ⟨0, [], _, [0, 1, 2], .inl none, (wX7_Reader r_bytes z2e.2.1 r_filled r_end z3 r_wordStart r_hasMoon r_hasSky z2e.2.2.2.1 z2e.2.2.2.2), 0, 0, rfl, rfl, Nat.le_of_ble_eq_true rfl, rfl, ⟨r_bytes, z2e.2.1, r_filled, r_end, z2e.2.2.1, r_wordStart, r_hasMoon, r_hasSky, z2e.2.2.2.1, z2e.2.2.2.2, z3, rfl, rfl, hz3, rfl⟩, rfl⟩ ?_
    refine Rn.go 4 (pc' := 57) (lv' := [(0, .ref 0), (1, .ref 1000), (2, .ref 1001), (3, .int z2e.1)]) (st' := [.int r_end, .int z3]) (es' := (wX7_Reader r_bytes z2e.2.1 r_filled r_end z3 r_wordStart r_hasMoon r_hasSky z2e.2.2.2.1 z2e.2.2.2.2)) (c' := 0) (s' := 0) rfl ?_
    refine Rn.br (P := r_end ≤ z3) (pc1 := 74) (pc2 := 60) rfl rfl (fun h5 => ?_) (fun h5 => ?_)
    · rw [if_pos h5] at hp
      refine Rn.go 4 (pc' := 81) (lv' := [(0, .ref 0), (1, .ref 1000), (2, .ref 1001), (3, .int z2e.1)]) (st' := [.int z3, .int (-2 : Int32), .ref 0]) (es' := (wX7_Reader r_bytes z2e.2.1 r_filled r_end z3 r_wordStart r_hasMoon r_hasSky z2e.2.2.2.1 z2e.2.2.2.2)) (c' := 0) (s' := 0) rfl ?_
      obtain ⟨z4, hz4, hp⟩ := ob_some hp
      refine Rn.rel (pc' := 84) (lv' := [(0, .ref 0), (1, .ref 1000), (2, .ref 1001), (3, .int z2e.1)]) (st' := []) (es' := (wX7_Reader r_bytes z2e.2.1 r_filled r_end z3 r_wordStart r_hasMoon r_hasSky z4.1 z4.2)) (dc := 0) (ds := 0) rfl ⟨0, [.int (-2 : Int32), .int z3], _, [0, 1, 2], .inl none, (wX7_Reader r_bytes z2e.2.1 r_filled r_end z3 r_wordStart r_hasMoon r_hasSky z4.1 z4.2), 0, 0, rfl, rfl, Nat.le_of_ble_eq_true rfl, rfl, ⟨(-2 : Int32), z3, r_bytes, z2e.2.1, r_filled, r_end, z3, r_wordStart, r_hasMoon, r_hasSky, z2e.2.2.2.1, z2e.2.2.2.2, z4, rfl, rfl, hz4, rfl⟩, rfl⟩ ?_
      refine Rn.go 1 (pc' := 85) (lv' := [(0, .ref 0), (1, .ref 1000), (2, .ref 1001), (3, .int z2e.1)]) (st' := [.int (0 : Int32)]) (es' := (wX7_Reader r_bytes z2e.2.1 r_filled r_end z3 r_wordStart r_hasMoon r_hasSky z4.1 z4.2)) (c' := 0) (s' := 0) rfl ?_
      obtain rfl := Option.some.inj hp
      exact Rn.fin rfl rfl rfl
    · rw [if_neg h5] at hp
      refine Rn.go 4 (pc' := 68) (lv' := [(0, .ref 0), (1, .ref 1000), (2, .ref 1001), (3, .int z2e.1)]) (st' := [.int z3, .ref 1]) (es' := (wX7_Reader r_bytes z2e.2.1 r_filled r_end z3 r_wordStart r_hasMoon r_hasSky z2e.2.2.2.1 z2e.2.2.2.2)) (c' := 0) (s' := 0) rfl ?_
      by_cases h6 : (z3 < 0 ∨ 500 ≤ z3.toNatClampNeg)
      · rw [if_pos h6] at hp; cases hp
      · rw [if_neg h6] at hp
        refine Rn.gd (pc' := 69) (lv' := [(0, .ref 0), (1, .ref 1000), (2, .ref 1001), (3, .int z2e.1)]) (st' := [.int (r_bytes z3.toNatClampNeg)]) (es' := (wX7_Reader r_bytes z2e.2.1 r_filled r_end z3 r_wordStart r_hasMoon r_hasSky z2e.2.2.2.1 z2e.2.2.2.2)) rfl rfl h6 ?_
        refine Rn.go 1 (pc' := 71) (lv' := [(0, .ref 0), (1, .ref 1000), (2, .ref 1001), (3, .int z2e.1)]) (st' := [.int (59 : Int32), .int (r_bytes z3.toNatClampNeg)]) (es' := (wX7_Reader r_bytes z2e.2.1 r_filled r_end z3 r_wordStart r_hasMoon r_hasSky z2e.2.2.2.1 z2e.2.2.2.2)) (c' := 0) (s' := 0) rfl ?_
        refine Rn.br (P := (r_bytes z3.toNatClampNeg) = (59 : Int32)) (pc1 := 86) (pc2 := 74) rfl rfl (fun h7 => ?_) (fun h7 => ?_)
        · rw [if_pos h7] at hp
          refine Rn.go 7 (pc' := 97) (lv' := [(0, .ref 0), (1, .ref 1000), (2, .ref 1001), (3, .int z2e.1)]) (st' := [.int (1 : Int32)]) (es' := (wX7_Reader r_bytes z2e.2.1 r_filled r_end (z3 + (1 : Int32)) r_wordStart r_hasMoon r_hasSky z2e.2.2.2.1 z2e.2.2.2.2)) (c' := 0) (s' := 0) rfl ?_
          obtain rfl := Option.some.inj hp
          exact Rn.fin rfl rfl rfl
        · rw [if_neg h7] at hp
          refine Rn.go 4 (pc' := 81) (lv' := [(0, .ref 0), (1, .ref 1000), (2, .ref 1001), (3, .int z2e.1)]) (st' := [.int z3, .int (-2 : Int32), .ref 0]) (es' := (wX7_Reader r_bytes z2e.2.1 r_filled r_end z3 r_wordStart r_hasMoon r_hasSky z2e.2.2.2.1 z2e.2.2.2.2)) (c' := 0) (s' := 0) rfl ?_
          obtain ⟨z5, hz5, hp⟩ := ob_some hp
          refine Rn.rel (pc' := 84) (lv' := [(0, .ref 0), (1, .ref 1000), (2, .ref 1001), (3, .int z2e.1)]) (st' := []) (es' := (wX7_Reader r_bytes z2e.2.1 r_filled r_end z3 r_wordStart r_hasMoon r_hasSky z5.1 z5.2)) (dc := 0) (ds := 0) rfl ⟨0, [.int (-2 : Int32), .int z3], _, [0, 1, 2], .inl none, (wX7_Reader r_bytes z2e.2.1 r_filled r_end z3 r_wordStart r_hasMoon r_hasSky z5.1 z5.2), 0, 0, rfl, rfl, Nat.le_of_ble_eq_true rfl, rfl, ⟨(-2 : Int32), z3, r_bytes, z2e.2.1, r_filled, r_end, z3, r_wordStart, r_hasMoon, r_hasSky, z2e.2.2.2.1, z2e.2.2.2.2, z5, rfl, rfl, hz5, rfl⟩, rfl⟩ ?_
          refine Rn.go 1 (pc' := 85) (lv' := [(0, .ref 0), (1, .ref 1000), (2, .ref 1001), (3, .int z2e.1)]) (st' := [.int (0 : Int32)]) (es' := (wX7_Reader r_bytes z2e.2.1 r_filled r_end z3 r_wordStart r_hasMoon r_hasSky z5.1 z5.2)) (c' := 0) (s' := 0) rfl ?_
          obtain rfl := Option.some.inj hp
          exact Rn.fin rfl rfl rfl
  · obtain rfl := Option.some.inj hp
    exact lrX7_takeNumbers_10001001_2 r_bytes r_filled r_end r_wordStart r_hasMoon r_hasSky _ (0 : Int32) r_values r_at r_error r_errorAt _ hz2 _ _ _ rfl
theorem qX7_takeNumbers_10001001 : CtA yX7_takeNumbers (.code yX7_takeNumbers cX7_takeNumbers 4 (some .boolean)) 3 67 [] rX7_takeNumbers_10001001 := CtA.of (by decide +kernel) (fun pc op h => kX7_takeNumbers_10001001 _ (lkp_mem h)) oX7_takeNumbers_10001001
/-! TelescopeNight$Reader.readHead(LTelescopeNight$Night;)V -/
def rX7_readHead : List Value → List va_E → op_O → Prop := fun avs es r => ∃ (r_bytes : Nat → Int32) (r_values : Nat → Int32) (r_filled : Int32) (r_end : Int32) (r_at : Int32) (r_wordStart : Int32) (r_hasMoon : Int32) (r_hasSky : Int32) (r_error : Int32) (r_errorAt : Int32) (n_slots : Int32) (n_targets : Int32) (n_teams : Int32) (n_moon : Nat → Int32) (n_percents : Nat → Int32) (n_numbers : Nat → Int32) (n_seen : Nat → Int32) (n_odds : Nat → Int32) (z : Int32 × Int32 × Int32 × Int32 × (Nat → Int32) × Int32), avs = [.ref 0, .ref 3] ∧ es = (wX7_Reader_Night r_bytes r_values r_filled r_end r_at r_wordStart r_hasMoon r_hasSky r_error r_errorAt n_slots n_targets n_teams n_moon n_percents n_numbers n_seen n_odds) ∧ pX7_readHead r_bytes r_values r_end r_at r_error r_errorAt n_slots = some z ∧ r = (.inl none, (wX7_Reader_Night r_bytes z.2.2.2.2.1 r_filled r_end z.1 z.2.1 r_hasMoon r_hasSky z.2.2.1 z.2.2.2.1 z.2.2.2.2.2 n_targets n_teams n_moon n_percents n_numbers n_seen n_odds), 0, 0)
def bX7_readHead : List (Nat × (op_T ⊕ op_R)) := [(0, .inl (o_aload 1 0)), (1, .inr (o_callV [] [] 4 0 7 rX7_takeWord)), (4, .inl (o_aload 5 0)), (5, .inl (o_gets 7 1100)), (7, .inr (o_callV [] [] 10 1 7 rX7_wordIs_1100)), (10, .inl (o_ifne 13 26)), (13, .inl (o_aload 14 0)), (14, .inl (o_push 16 (.int (-2)))), (16, .inl (o_aload 17 0)), (17, .inl (o_get 20 7 5)), (20, .inr (o_callV [] [] 23 2 7 rX7_fail)), (23, .inl (o_goto 49)), (26, .inl (o_aload 27 0)), (27, .inl (o_gets 30 1000)), (30, .inl (o_gets 33 1001)), (33, .inr (o_callV [] [] 36 2 7 rX7_takeNumbers_10001001)), (36, .inl (o_ifeq 39 49)), (39, .inl (o_aload 40 1)), (40, .inl (o_aload 41 0)), (41, .inl (o_get 44 7 1)), (44, .inl (o_push 45 (.int (0)))), (45, .inl (o_iald 46)), (46, .inl (o_put 49 2 0 .int)), (49, .inl (o_vret))]
set_option maxRecDepth 100000 in
set_option maxHeartbeats 4000000 in
theorem kX7_readHead : ∀ q ∈ bX7_readHead, ok2 5 107 2 cX7_readHead yX7_readHead.cls yX7_readHead.name none (.code yX7_readHead cX7_readHead 2 none) [] [] q.1 q.2 := (al_c (s_aload_n (k := 0) (by decide +kernel)) (al_c (s_callV (y := yX7_takeWord) (bytes := cX7_takeWord) (maxL := 1) (ret' := none) (fr' := 1) (lo' := 20) (n := 0) (ml := []) (mlc := []) (ci := 7) (q9 := (RX7, TX7, 10)) qX7_takeWord w_817 w_819 wp_30 w_7 w_820 ⟨by decide +kernel, by decide +kernel, by decide +kernel⟩ rfl rfl (by decide) (by decide) (by decide +kernel)) (al_c (s_aload_n (k := 0) (by decide +kernel)) (al_c (s_ldcS ("TelescopeNight$Reader", 69, "night", 1100) (by decide +kernel) rfl rfl (by decide +kernel)) (al_c (s_callV (y := yX7_wordIs) (bytes := cX7_wordIs) (maxL := 3) (ret' := (some .boolean)) (fr' := 4) (lo' := 85) (n := 1) (ml := []) (mlc := []) (ci := 7) (q9 := (RX7, TX7, 10)) qX7_wordIs_1100 w_826 w_828 wp_32 w_7 w_829 ⟨by decide +kernel, by decide +kernel, by decide +kernel⟩ rfl rfl (by decide) (by decide) (by decide +kernel)) (al_c (s_ifne (off := 16) 26 (by decide) (by decide +kernel)) (al_c (s_aload_n (k := 0) (by decide +kernel)) (al_c (s_bipush (n := -2) (-2) (by decide) (by decide +kernel)) (al_c (s_aload_n (k := 0) (by decide +kernel)) (al_c (s_get (C9 := RX7) (T9 := TX7) (N9 := 10) (ci := 7) (k := 5) iX7 rfl (by decide) w_221 (by decide +kernel)) (al_c (s_callV (y := yX7_fail) (bytes := cX7_fail) (maxL := 3) (ret' := none) (fr' := 0) (lo' := 0) (n := 2) (ml := []) (mlc := []) (ci := 7) (q9 := (RX7, TX7, 10)) qX7_fail w_878 w_880 wp_33 w_7 w_881 ⟨by decide +kernel, by decide +kernel, by decide +kernel⟩ rfl rfl (by decide) (by decide) (by decide +kernel)) (al_c (s_goto (off := 26) 49 (by decide) (by decide +kernel)) (al_c (s_aload_n (k := 0) (by decide +kernel)) (al_c (s_gets ("NIGHT_LOW", 1000, [(1)]) (by decide) w_882 (by decide +kernel)) (al_c (s_gets ("NIGHT_HIGH", 1001, [(12)]) (by decide) w_884 (by decide +kernel)) (al_c (s_callV (y := yX7_takeNumbers) (bytes := cX7_takeNumbers) (maxL := 4) (ret' := (some .boolean)) (fr' := 3) (lo' := 67) (n := 2) (ml := []) (mlc := []) (ci := 7) (q9 := (RX7, TX7, 10)) qX7_takeNumbers_10001001 w_886 w_888 wp_34 w_7 w_889 ⟨by decide +kernel, by decide +kernel, by decide +kernel⟩ rfl rfl (by decide) (by decide) (by decide +kernel)) (al_c (s_ifeq (off := 13) 49 (by decide) (by decide +kernel)) (al_c (s_aload_n (k := 1) (by decide +kernel)) (al_c (s_aload_n (k := 0) (by decide +kernel)) (al_c (s_get (C9 := RX7) (T9 := TX7) (N9 := 10) (ci := 7) (k := 1) iX7 rfl (by decide) w_216 (by decide +kernel)) (al_c (s_iconst (n := 0) (0) (by decide) (by decide +kernel)) (al_c (s_iald (by decide +kernel)) (al_c (s_put (C9 := RX2) (T9 := TX2) (N9 := 8) (ci := 2) (k := 0) iX2 rfl (by decide) w_82 tyX2 tyX2_ok nmX2 rfl (by decide +kernel)) (al_c (s_vret rfl (by decide +kernel)) al_n))))))))))))))))))))))))
set_option maxRecDepth 100000 in
set_option maxHeartbeats 4000000 in
theorem oX7_readHead : Of (lkp bX7_readHead) 2 rX7_readHead := by
  intro avs es r h
  obtain ⟨r_bytes, r_values, r_filled, r_end, r_at, r_wordStart, r_hasMoon, r_hasSky, r_error, r_errorAt, n_slots, n_targets, n_teams, n_moon, n_percents, n_numbers, n_seen, n_odds, z, rfl, rfl, hp, rfl⟩ := h
  refine ⟨Nat.le_of_ble_eq_true rfl, ?_⟩
  unfold pX7_readHead at hp
  refine Rn.go 1 (pc' := 1) (lv' := [(0, .ref 0), (1, .ref 3)]) (st' := [.ref 0]) (es' := (wX7_Reader_Night r_bytes r_values r_filled r_end r_at r_wordStart r_hasMoon r_hasSky r_error r_errorAt n_slots n_targets n_teams n_moon n_percents n_numbers n_seen n_odds)) (c' := 0) (s' := 0) rfl ?_
  obtain ⟨z1, hz1, hp⟩ := ob_some hp
  refine Rn.rel (pc' := 4) (lv' := [(0, .ref 0), (1, .ref 3)]) (st' := []) (es' := (wX7_Reader_Night r_bytes r_values r_filled r_end z1.1 z1.2 r_hasMoon r_hasSky r_error r_errorAt n_slots n_targets n_teams n_moon n_percents n_numbers n_seen n_odds)) (dc := 0) (ds := 0) rfl ⟨0, [], _, [0, 1, 2], .inl none, (wX7_Reader r_bytes r_values r_filled r_end z1.1 z1.2 r_hasMoon r_hasSky r_error r_errorAt), 0, 0, rfl, rfl, Nat.le_of_ble_eq_true rfl, rfl, ⟨r_bytes, r_values, r_filled, r_end, r_at, r_wordStart, r_hasMoon, r_hasSky, r_error, r_errorAt, z1, rfl, rfl, hz1, rfl⟩, rfl⟩ ?_
  refine Rn.go 2 (pc' := 7) (lv' := [(0, .ref 0), (1, .ref 3)]) (st' := [.ref 1100, .ref 0]) (es' := (wX7_Reader_Night r_bytes r_values r_filled r_end z1.1 z1.2 r_hasMoon r_hasSky r_error r_errorAt n_slots n_targets n_teams n_moon n_percents n_numbers n_seen n_odds)) (c' := 0) (s' := 0) rfl ?_
  obtain ⟨z2, hz2, hp⟩ := ob_some hp
  refine Rn.rel (pc' := 10) (lv' := [(0, .ref 0), (1, .ref 3)]) (st' := [.int z2]) (es' := (wX7_Reader_Night r_bytes r_values r_filled r_end z1.1 z1.2 r_hasMoon r_hasSky r_error r_errorAt n_slots n_targets n_teams n_moon n_percents n_numbers n_seen n_odds)) (dc := 0) (ds := 0) rfl ⟨0, [.ref 1100], _, [0, 1, 2], .inl (some (.int z2)), (wX7_Reader r_bytes r_values r_filled r_end z1.1 z1.2 r_hasMoon r_hasSky r_error r_errorAt), 0, 0, rfl, rfl, Nat.le_of_ble_eq_true rfl, rfl, ⟨r_bytes, r_values, r_filled, r_end, z1.1, z1.2, r_hasMoon, r_hasSky, r_error, r_errorAt, z2, rfl, rfl, hz2, rfl⟩, rfl⟩ ?_
  refine Rn.br (P := ¬ z2 = 0) (pc1 := 26) (pc2 := 13) rfl rfl (fun h1 => ?_) (fun h1 => ?_)
  · rw [if_pos h1] at hp
    refine Rn.go 3 (pc' := 33) (lv' := [(0, .ref 0), (1, .ref 3)]) (st' := [.ref 1001, .ref 1000, .ref 0]) (es' := (wX7_Reader_Night r_bytes r_values r_filled r_end z1.1 z1.2 r_hasMoon r_hasSky r_error r_errorAt n_slots n_targets n_teams n_moon n_percents n_numbers n_seen n_odds)) (c' := 0) (s' := 0) rfl ?_
    obtain ⟨z3, hz3, hp⟩ := ob_some hp
    refine Rn.rel (pc' := 36) (lv' := [(0, .ref 0), (1, .ref 3)]) (st' := [.int z3.1]) (es' := (wX7_Reader_Night r_bytes z3.2.2.2.2 r_filled r_end z3.2.1 z1.2 r_hasMoon r_hasSky z3.2.2.1 z3.2.2.2.1 n_slots n_targets n_teams n_moon n_percents n_numbers n_seen n_odds)) (dc := 0) (ds := 0) rfl ⟨0, [.ref 1000, .ref 1001], _, [0, 1, 2], .inl (some (.int z3.1)), (wX7_Reader r_bytes z3.2.2.2.2 r_filled r_end z3.2.1 z1.2 r_hasMoon r_hasSky z3.2.2.1 z3.2.2.2.1), 0, 0, rfl, rfl, Nat.le_of_ble_eq_true rfl, rfl, ⟨r_bytes, r_values, r_filled, r_end, z1.1, z1.2, r_hasMoon, r_hasSky, r_error, r_errorAt, z3, rfl, rfl, hz3, rfl⟩, rfl⟩ ?_
    refine Rn.br (P := z3.1 = 0) (pc1 := 49) (pc2 := 39) rfl rfl (fun h2 => ?_) (fun h2 => ?_)
    · rw [if_pos h2] at hp
      obtain rfl := Option.some.inj hp
      exact Rn.fin rfl rfl rfl
    · rw [if_neg h2] at hp
      refine Rn.go 5 (pc' := 46) (lv' := [(0, .ref 0), (1, .ref 3)]) (st' := [.int (z3.2.2.2.2 0), .ref 3]) (es' := (wX7_Reader_Night r_bytes z3.2.2.2.2 r_filled r_end z3.2.1 z1.2 r_hasMoon r_hasSky z3.2.2.1 z3.2.2.2.1 n_slots n_targets n_teams n_moon n_percents n_numbers n_seen n_odds)) (c' := 0) (s' := 0) rfl ?_
      refine Rn.go 1 (pc' := 49) (lv' := [(0, .ref 0), (1, .ref 3)]) (st' := []) (es' := (wX7_Reader_Night r_bytes z3.2.2.2.2 r_filled r_end z3.2.1 z1.2 r_hasMoon r_hasSky z3.2.2.1 z3.2.2.2.1 (z3.2.2.2.2 0) n_targets n_teams n_moon n_percents n_numbers n_seen n_odds)) (c' := 0) (s' := 0) rfl ?_
      obtain rfl := Option.some.inj hp
      exact Rn.fin rfl rfl rfl
  · rw [if_neg h1] at hp
    refine Rn.go 4 (pc' := 20) (lv' := [(0, .ref 0), (1, .ref 3)]) (st' := [.int z1.2, .int (-2 : Int32), .ref 0]) (es' := (wX7_Reader_Night r_bytes r_values r_filled r_end z1.1 z1.2 r_hasMoon r_hasSky r_error r_errorAt n_slots n_targets n_teams n_moon n_percents n_numbers n_seen n_odds)) (c' := 0) (s' := 0) rfl ?_
    obtain ⟨z4, hz4, hp⟩ := ob_some hp
    refine Rn.rel (pc' := 23) (lv' := [(0, .ref 0), (1, .ref 3)]) (st' := []) (es' := (wX7_Reader_Night r_bytes r_values r_filled r_end z1.1 z1.2 r_hasMoon r_hasSky z4.1 z4.2 n_slots n_targets n_teams n_moon n_percents n_numbers n_seen n_odds)) (dc := 0) (ds := 0) rfl ⟨0, [.int (-2 : Int32), .int z1.2], _, [0, 1, 2], .inl none, (wX7_Reader r_bytes r_values r_filled r_end z1.1 z1.2 r_hasMoon r_hasSky z4.1 z4.2), 0, 0, rfl, rfl, Nat.le_of_ble_eq_true rfl, rfl, ⟨(-2 : Int32), z1.2, r_bytes, r_values, r_filled, r_end, z1.1, z1.2, r_hasMoon, r_hasSky, r_error, r_errorAt, z4, rfl, rfl, hz4, rfl⟩, rfl⟩ ?_
    refine Rn.go 1 (pc' := 49) (lv' := [(0, .ref 0), (1, .ref 3)]) (st' := []) (es' := (wX7_Reader_Night r_bytes r_values r_filled r_end z1.1 z1.2 r_hasMoon r_hasSky z4.1 z4.2 n_slots n_targets n_teams n_moon n_percents n_numbers n_seen n_odds)) (c' := 0) (s' := 0) rfl ?_
    obtain rfl := Option.some.inj hp
    exact Rn.fin rfl rfl rfl
theorem qX7_readHead : CtA yX7_readHead (.code yX7_readHead cX7_readHead 2 none) 5 107 [] rX7_readHead := CtA.of (by decide +kernel) (fun pc op h => kX7_readHead _ (lkp_mem h)) oX7_readHead
/-! TelescopeNight$Reader.atEnd()Z -/
def rX7_atEnd : List Value → List va_E → op_O → Prop := fun avs es r => ∃ (r_bytes : Nat → Int32) (r_values : Nat → Int32) (r_filled : Int32) (r_end : Int32) (r_at : Int32) (r_wordStart : Int32) (r_hasMoon : Int32) (r_hasSky : Int32) (r_error : Int32) (r_errorAt : Int32) (z : Int32 × Int32), avs = [.ref 0] ∧ es = (wX7_Reader r_bytes r_values r_filled r_end r_at r_wordStart r_hasMoon r_hasSky r_error r_errorAt) ∧ pX7_atEnd r_bytes r_end r_at = some z ∧ r = (.inl (some (.int z.1)), (wX7_Reader r_bytes r_values r_filled r_end z.2 r_wordStart r_hasMoon r_hasSky r_error r_errorAt), 0, 0)
def bX7_atEnd : List (Nat × (op_T ⊕ op_R)) := [(0, .inl (o_aload 1 0)), (1, .inr (o_callV [] [] 4 0 7 rX7_skipSpaces)), (4, .inl (o_aload 5 0)), (5, .inl (o_get 8 7 4)), (8, .inl (o_aload 9 0)), (9, .inl (o_get 12 7 3)), (12, .inl (o_icmplt 15 19)), (15, .inl (o_push 16 (.int (1)))), (16, .inl (o_goto 20)), (19, .inl (o_push 20 (.int (0)))), (20, .inl (o_zret))]
set_option maxRecDepth 100000 in
set_option maxHeartbeats 4000000 in
theorem kX7_atEnd : ∀ q ∈ bX7_atEnd, ok2 1 20 1 cX7_atEnd yX7_atEnd.cls yX7_atEnd.name (some .boolean) (.code yX7_atEnd cX7_atEnd 1 (some .boolean)) [] [] q.1 q.2 := (al_c (s_aload_n (k := 0) (by decide +kernel)) (al_c (s_callV (y := yX7_skipSpaces) (bytes := cX7_skipSpaces) (maxL := 1) (ret' := none) (fr' := 0) (lo' := 0) (n := 0) (ml := []) (mlc := []) (ci := 7) (q9 := (RX7, TX7, 10)) qX7_skipSpaces w_821 w_823 wp_31 w_7 w_824 ⟨by decide +kernel, by decide +kernel, by decide +kernel⟩ rfl rfl (by decide) (by decide) (by decide +kernel)) (al_c (s_aload_n (k := 0) (by decide +kernel)) (al_c (s_get (C9 := RX7) (T9 := TX7) (N9 := 10) (ci := 7) (k := 4) iX7 rfl (by decide) w_220 (by decide +kernel)) (al_c (s_aload_n (k := 0) (by decide +kernel)) (al_c (s_get (C9 := RX7) (T9 := TX7) (N9 := 10) (ci := 7) (k := 3) iX7 rfl (by decide) w_219 (by decide +kernel)) (al_c (s_icmplt (off := 7) 19 (by decide) (by decide +kernel)) (al_c (s_iconst (n := 1) (1) (by decide) (by decide +kernel)) (al_c (s_goto (off := 4) 20 (by decide) (by decide +kernel)) (al_c (s_iconst (n := 0) (0) (by decide) (by decide +kernel)) (al_c (s_zret rfl (by decide +kernel)) al_n)))))))))))
set_option maxRecDepth 100000 in
set_option maxHeartbeats 4000000 in
theorem oX7_atEnd : Of (lkp bX7_atEnd) 1 rX7_atEnd := by
  intro avs es r h
  obtain ⟨r_bytes, r_values, r_filled, r_end, r_at, r_wordStart, r_hasMoon, r_hasSky, r_error, r_errorAt, z, rfl, rfl, hp, rfl⟩ := h
  refine ⟨Nat.le_of_ble_eq_true rfl, ?_⟩
  unfold pX7_atEnd at hp
  refine Rn.go 1 (pc' := 1) (lv' := [(0, .ref 0)]) (st' := [.ref 0]) (es' := (wX7_Reader r_bytes r_values r_filled r_end r_at r_wordStart r_hasMoon r_hasSky r_error r_errorAt)) (c' := 0) (s' := 0) rfl ?_
  obtain ⟨z1, hz1, hp⟩ := ob_some hp
  refine Rn.rel (pc' := 4) (lv' := [(0, .ref 0)]) (st' := []) (es' := (wX7_Reader r_bytes r_values r_filled r_end z1 r_wordStart r_hasMoon r_hasSky r_error r_errorAt)) (dc := 0) (ds := 0) rfl ⟨0, [], _, [0, 1, 2], .inl none, (wX7_Reader r_bytes r_values r_filled r_end z1 r_wordStart r_hasMoon r_hasSky r_error r_errorAt), 0, 0, rfl, rfl, Nat.le_of_ble_eq_true rfl, rfl, ⟨r_bytes, r_values, r_filled, r_end, r_at, r_wordStart, r_hasMoon, r_hasSky, r_error, r_errorAt, z1, rfl, rfl, hz1, rfl⟩, rfl⟩ ?_
  refine Rn.go 4 (pc' := 12) (lv' := [(0, .ref 0)]) (st' := [.int r_end, .int z1]) (es' := (wX7_Reader r_bytes r_values r_filled r_end z1 r_wordStart r_hasMoon r_hasSky r_error r_errorAt)) (c' := 0) (s' := 0) rfl ?_
  refine Rn.br (P := z1 < r_end) (pc1 := 19) (pc2 := 15) rfl rfl (fun h1 => ?_) (fun h1 => ?_)
  · rw [if_pos h1] at hp
    refine Rn.go 1 (pc' := 20) (lv' := [(0, .ref 0)]) (st' := [.int (0 : Int32)]) (es' := (wX7_Reader r_bytes r_values r_filled r_end z1 r_wordStart r_hasMoon r_hasSky r_error r_errorAt)) (c' := 0) (s' := 0) rfl ?_
    obtain rfl := Option.some.inj hp
    exact Rn.fin rfl rfl rfl
  · rw [if_neg h1] at hp
    refine Rn.go 2 (pc' := 20) (lv' := [(0, .ref 0)]) (st' := [.int (1 : Int32)]) (es' := (wX7_Reader r_bytes r_values r_filled r_end z1 r_wordStart r_hasMoon r_hasSky r_error r_errorAt)) (c' := 0) (s' := 0) rfl ?_
    obtain rfl := Option.some.inj hp
    exact Rn.fin rfl rfl rfl
theorem qX7_atEnd : CtA yX7_atEnd (.code yX7_atEnd cX7_atEnd 1 (some .boolean)) 1 20 [] rX7_atEnd := CtA.of (by decide +kernel) (fun pc op h => kX7_atEnd _ (lkp_mem h)) oX7_atEnd
/-! java/lang/String.coder()B -/
def rJ0_coder_7d493_1101 : List Value → List va_E → op_O → Prop := fun avs es r => ∃  (z : Int32), avs = [.ref 1101] ∧ es = [] ∧ pJ0_coder_7d493_1101 = some z ∧ r = (.inl (some (.int z)), [], 0, 0)
def bJ0_coder_7d493_1101 : List (Nat × (op_T ⊕ op_R)) := [(0, .inl (o_push 3 (.int 1))), (3, .inl (o_ifeq 6 13)), (6, .inl (o_aload 7 0)), (7, .inl (o_scod 10)), (10, .inl (o_goto 14)), (13, .inl (o_push 14 (.int (1)))), (14, .inl (o_nret .byte))]
set_option maxRecDepth 100000 in
set_option maxHeartbeats 4000000 in
theorem kJ0_coder_7d493_1101 : ∀ q ∈ bJ0_coder_7d493_1101, ok2 0 0 1 cJ0_coder_7d493 yJ0_coder_7d493.cls yJ0_coder_7d493.name (some .byte) (.code yJ0_coder_7d493 cJ0_coder_7d493 1 (some .byte)) [] [] q.1 q.2 := (al_c (s_getZ w_838 (by decide +kernel)) (al_c (s_ifeq (off := 10) 13 (by decide) (by decide +kernel)) (al_c (s_aload_n (k := 0) (by decide +kernel)) (al_c (s_scod w_1759 (by decide +kernel)) (al_c (s_goto (off := 4) 14 (by decide) (by decide +kernel)) (al_c (s_iconst (n := 1) (1) (by decide) (by decide +kernel)) (al_c (s_nret rfl (by decide +kernel)) al_n)))))))
set_option maxRecDepth 100000 in
set_option maxHeartbeats 4000000 in
theorem oJ0_coder_7d493_1101 : Of (lkp bJ0_coder_7d493_1101) 1 rJ0_coder_7d493_1101 := by
  intro avs es r h
  obtain ⟨z, rfl, rfl, hp, rfl⟩ := h
  refine ⟨Nat.le_of_ble_eq_true rfl, ?_⟩
  unfold pJ0_coder_7d493_1101 at hp
  refine Rn.go 5 (pc' := 14) (lv' := [(0, .ref 1101)]) (st' := [.int (0 : Int32)]) (es' := []) (c' := 0) (s' := 0) rfl ?_
  by_cases h1 : (narrow .byte (.int (0 : Int32)) = .int (0 : Int32))
  · rw [if_pos h1] at hp
    obtain rfl := Option.some.inj hp
    exact Rn.finz rfl rfl h1 rfl
  · rw [if_neg h1] at hp; cases hp
theorem qJ0_coder_7d493_1101 : CtA yJ0_coder_7d493 (.code yJ0_coder_7d493 cJ0_coder_7d493 1 (some .byte)) 0 0 [] rJ0_coder_7d493_1101 := CtA.of (by decide +kernel) (fun pc op h => kJ0_coder_7d493_1101 _ (lkp_mem h)) oJ0_coder_7d493_1101
/-! java/lang/String.length()I -/
def rJ0_length_8abf5_1101 : List Value → List va_E → op_O → Prop := fun avs es r => ∃  (z : Int32), avs = [.ref 1101] ∧ es = [] ∧ pJ0_length_8abf5_1101 = some z ∧ r = (.inl (some (.int z)), [], 0, 0)
def bJ0_length_8abf5_1101 : List (Nat × (op_T ⊕ op_R)) := [(0, .inl (o_aload 1 0)), (1, .inl (o_sval 4)), (4, .inl (o_blen 5)), (5, .inl (o_aload 6 0)), (6, .inr (o_callX [] [] 9 0 rJ0_coder_7d493_1101)), (9, .inl (o_ii 10 (fun x y => x >>> (y &&& 31)))), (10, .inl (o_iret))]
set_option maxRecDepth 100000 in
set_option maxHeartbeats 4000000 in
theorem kJ0_length_8abf5_1101 : ∀ q ∈ bJ0_length_8abf5_1101, ok2 1 20 1 cJ0_length_8abf5 yJ0_length_8abf5.cls yJ0_length_8abf5.name (some .int) (.code yJ0_length_8abf5 cJ0_length_8abf5 1 (some .int)) [] [] q.1 q.2 := (al_c (s_aload_n (k := 0) (by decide +kernel)) (al_c (s_sval w_1758 (by decide +kernel)) (al_c (s_blen (by decide +kernel)) (al_c (s_aload_n (k := 0) (by decide +kernel)) (al_c (s_callX (y := yJ0_coder_7d493) (bytes := cJ0_coder_7d493) (maxL := 1) (ret' := (some .byte)) (fr' := 0) (lo' := 0) (n := 0) (ml := []) (mlc := []) qJ0_coder_7d493_1101 w_834 w_835 w_836 w_18 w_837 ⟨by decide +kernel, by decide +kernel, by decide +kernel⟩ rfl (by decide) (by decide) (by decide +kernel)) (al_c (s_ishr (by decide +kernel)) (al_c (s_iret rfl (by decide +kernel)) al_n)))))))
set_option maxRecDepth 100000 in
set_option maxHeartbeats 4000000 in
theorem oJ0_length_8abf5_1101 : Of (lkp bJ0_length_8abf5_1101) 1 rJ0_length_8abf5_1101 := by
  intro avs es r h
  obtain ⟨z, rfl, rfl, hp, rfl⟩ := h
  refine ⟨Nat.le_of_ble_eq_true rfl, ?_⟩
  unfold pJ0_length_8abf5_1101 at hp
  refine Rn.go 4 (pc' := 6) (lv' := [(0, .ref 1101)]) (st' := [.ref 1101, .int (nI (strN.getD (1121 - 1120) 0))]) (es' := []) (c' := 0) (s' := 0) rfl ?_
  obtain ⟨z1, hz1, hp⟩ := ob_some hp
  refine Rn.rel (pc' := 9) (lv' := [(0, .ref 1101)]) (st' := [.int z1, .int (nI (strN.getD (1121 - 1120) 0))]) (es' := []) (dc := 0) (ds := 0) rfl ⟨1101, [], [], .inl (some (.int z1)), [], 0, 0, rfl, rfl, Nat.le_of_ble_eq_true rfl, rfl, ⟨z1, rfl, rfl, hz1, rfl⟩, rfl⟩ ?_
  refine Rn.go 1 (pc' := 10) (lv' := [(0, .ref 1101)]) (st' := [.int ((nI (strN.getD (1121 - 1120) 0)) >>> (z1 &&& 31))]) (es' := []) (c' := 0) (s' := 0) rfl ?_
  obtain rfl := Option.some.inj hp
  exact Rn.fin rfl rfl rfl
theorem qJ0_length_8abf5_1101 : CtA yJ0_length_8abf5 (.code yJ0_length_8abf5 cJ0_length_8abf5 1 (some .int)) 1 20 [] rJ0_length_8abf5_1101 := CtA.of (by decide +kernel) (fun pc op h => kJ0_length_8abf5_1101 _ (lkp_mem h)) oJ0_length_8abf5_1101
/-! java/lang/String.isLatin1()Z -/
def rJ0_isLatin1_aae02_1101 : List Value → List va_E → op_O → Prop := fun avs es r => ∃  (z : Int32), avs = [.ref 1101] ∧ es = [] ∧ pJ0_isLatin1_aae02_1101 = some z ∧ r = (.inl (some (.int z)), [], 0, 0)
def bJ0_isLatin1_aae02_1101 : List (Nat × (op_T ⊕ op_R)) := [(0, .inl (o_push 3 (.int 1))), (3, .inl (o_ifeq 6 17)), (6, .inl (o_aload 7 0)), (7, .inl (o_scod 10)), (10, .inl (o_ifne 13 17)), (13, .inl (o_push 14 (.int (1)))), (14, .inl (o_goto 18)), (17, .inl (o_push 18 (.int (0)))), (18, .inl (o_zret))]
set_option maxRecDepth 100000 in
set_option maxHeartbeats 4000000 in
theorem kJ0_isLatin1_aae02_1101 : ∀ q ∈ bJ0_isLatin1_aae02_1101, ok2 0 0 1 cJ0_isLatin1_aae02 yJ0_isLatin1_aae02.cls yJ0_isLatin1_aae02.name (some .boolean) (.code yJ0_isLatin1_aae02 cJ0_isLatin1_aae02 1 (some .boolean)) [] [] q.1 q.2 := (al_c (s_getZ w_838 (by decide +kernel)) (al_c (s_ifeq (off := 14) 17 (by decide) (by decide +kernel)) (al_c (s_aload_n (k := 0) (by decide +kernel)) (al_c (s_scod w_1759 (by decide +kernel)) (al_c (s_ifne (off := 7) 17 (by decide) (by decide +kernel)) (al_c (s_iconst (n := 1) (1) (by decide) (by decide +kernel)) (al_c (s_goto (off := 4) 18 (by decide) (by decide +kernel)) (al_c (s_iconst (n := 0) (0) (by decide) (by decide +kernel)) (al_c (s_zret rfl (by decide +kernel)) al_n)))))))))
set_option maxRecDepth 100000 in
set_option maxHeartbeats 4000000 in
theorem oJ0_isLatin1_aae02_1101 : Of (lkp bJ0_isLatin1_aae02_1101) 1 rJ0_isLatin1_aae02_1101 := by
  intro avs es r h
  obtain ⟨z, rfl, rfl, hp, rfl⟩ := h
  refine ⟨Nat.le_of_ble_eq_true rfl, ?_⟩
  unfold pJ0_isLatin1_aae02_1101 at hp
  refine Rn.go 7 (pc' := 18) (lv' := [(0, .ref 1101)]) (st' := [.int (1 : Int32)]) (es' := []) (c' := 0) (s' := 0) rfl ?_
  obtain rfl := Option.some.inj hp
  exact Rn.fin rfl rfl rfl
theorem qJ0_isLatin1_aae02_1101 : CtA yJ0_isLatin1_aae02 (.code yJ0_isLatin1_aae02 cJ0_isLatin1_aae02 1 (some .boolean)) 0 0 [] rJ0_isLatin1_aae02_1101 := CtA.of (by decide +kernel) (fun pc op h => kJ0_isLatin1_aae02_1101 _ (lkp_mem h)) oJ0_isLatin1_aae02_1101
/-! java/lang/StringLatin1.charAt([BI)C -/
def rJ1_charAt_3b067_1121 : List Value → List va_E → op_O → Prop := fun avs es r => ∃ (x1 : Int32) (z : Int32), avs = [.ref 1121, .int x1] ∧ es = [] ∧ pJ1_charAt_3b067_1121 x1 = some z ∧ r = (.inl (some (.int z)), [], 0, 0)
def bJ1_charAt_3b067_1121 : List (Nat × (op_T ⊕ op_R)) := [(0, .inl (o_iload 1 1)), (1, .inl (o_aload 2 0)), (2, .inl (o_blen 3)), (3, .inr (o_callS [] [] 6 2 rJ0_checkIndex_df160)), (6, .inl (o_aload 7 0)), (7, .inl (o_iload 8 1)), (8, .inl (o_bald 9)), (9, .inl (o_push 12 (.int (255)))), (12, .inl (o_ii 13 (fun x y => x &&& y))), (13, .inl (o_i2c 14)), (14, .inl (o_nret .char))]
set_option maxRecDepth 100000 in
set_option maxHeartbeats 4000000 in
theorem kJ1_charAt_3b067_1121 : ∀ q ∈ bJ1_charAt_3b067_1121, ok2 2 43 2 cJ1_charAt_3b067 yJ1_charAt_3b067.cls yJ1_charAt_3b067.name (some .char) (.code yJ1_charAt_3b067 cJ1_charAt_3b067 2 (some .char)) [] [] q.1 q.2 := (al_c (s_iload_n (k := 1) (by decide +kernel)) (al_c (s_aload_n (k := 0) (by decide +kernel)) (al_c (s_blen (by decide +kernel)) (al_c (s_callS (y := yJ0_checkIndex_df160) (bytes := cJ0_checkIndex_df160) (maxL := 2) (ret' := none) (fr' := 1) (lo' := 22) (n := 2) (ml := []) (mlc := []) qJ0_checkIndex_df160 w_851 w_852 w_18 w_853 ⟨by decide +kernel, by decide +kernel, by decide +kernel⟩ (by decide) (by decide) (by decide +kernel)) (al_c (s_aload_n (k := 0) (by decide +kernel)) (al_c (s_iload_n (k := 1) (by decide +kernel)) (al_c (s_bald (by decide +kernel)) (al_c (s_sipush (n := 255) (255) (by decide) (by decide +kernel)) (al_c (s_iand (by decide +kernel)) (al_c (s_i2c (by decide +kernel)) (al_c (s_nret rfl (by decide +kernel)) al_n)))))))))))
set_option maxRecDepth 100000 in
set_option maxHeartbeats 4000000 in
theorem oJ1_charAt_3b067_1121 : Of (lkp bJ1_charAt_3b067_1121) 2 rJ1_charAt_3b067_1121 := by
  intro avs es r h
  obtain ⟨x1, z, rfl, rfl, hp, rfl⟩ := h
  refine ⟨Nat.le_of_ble_eq_true rfl, ?_⟩
  unfold pJ1_charAt_3b067_1121 at hp
  refine Rn.go 3 (pc' := 3) (lv' := [(0, .ref 1121), (1, .int x1)]) (st' := [.int (nI (strN.getD (1121 - 1120) 0)), .int x1]) (es' := []) (c' := 0) (s' := 0) rfl ?_
  obtain ⟨z1, hz1, hp⟩ := ob_some hp
  refine Rn.rel (pc' := 6) (lv' := [(0, .ref 1121), (1, .int x1)]) (st' := []) (es' := []) (dc := 0) (ds := 0) rfl ⟨[.int x1, .int (nI (strN.getD (1121 - 1120) 0))], [], .inl none, [], 0, 0, rfl, rfl, Nat.le_of_ble_eq_true rfl, ⟨x1, (nI (strN.getD (1121 - 1120) 0)), z1, rfl, rfl, hz1, rfl⟩, rfl⟩ ?_
  refine Rn.go 2 (pc' := 8) (lv' := [(0, .ref 1121), (1, .int x1)]) (st' := [.int x1, .ref 1121]) (es' := []) (c' := 0) (s' := 0) rfl ?_
  by_cases h1 : (x1 < 0 ∨ (strN.getD (1121 - 1120) 0) ≤ x1.toNatClampNeg)
  · rw [if_pos h1] at hp; cases hp
  · rw [if_neg h1] at hp
    refine Rn.gd (pc' := 9) (lv' := [(0, .ref 1121), (1, .int x1)]) (st' := [.int ((strB.getD (1121 - 1120) []).getD x1.toNatClampNeg 0)]) (es' := []) rfl rfl h1 ?_
    refine Rn.go 3 (pc' := 14) (lv' := [(0, .ref 1121), (1, .int x1)]) (st' := [.int (((((strB.getD (1121 - 1120) []).getD x1.toNatClampNeg 0) &&& (255 : Int32))).toUInt32 % 65536).toInt32]) (es' := []) (c' := 0) (s' := 0) rfl ?_
    by_cases h2 : (narrow .char (.int (((((strB.getD (1121 - 1120) []).getD x1.toNatClampNeg 0) &&& (255 : Int32))).toUInt32 % 65536).toInt32) = .int (((((strB.getD (1121 - 1120) []).getD x1.toNatClampNeg 0) &&& (255 : Int32))).toUInt32 % 65536).toInt32)
    · rw [if_pos h2] at hp
      obtain rfl := Option.some.inj hp
      exact Rn.finz rfl rfl h2 rfl
    · rw [if_neg h2] at hp; cases hp
theorem qJ1_charAt_3b067_1121 : CtA yJ1_charAt_3b067 (.code yJ1_charAt_3b067 cJ1_charAt_3b067 2 (some .char)) 2 43 [] rJ1_charAt_3b067_1121 := CtA.of (by decide +kernel) (fun pc op h => kJ1_charAt_3b067_1121 _ (lkp_mem h)) oJ1_charAt_3b067_1121
/-! java/lang/String.charAt(I)C -/
def rJ0_charAt_5068e_1101 : List Value → List va_E → op_O → Prop := fun avs es r => ∃ (x1 : Int32) (z : Int32), avs = [.ref 1101, .int x1] ∧ es = [] ∧ pJ0_charAt_5068e_1101 x1 = some z ∧ r = (.inl (some (.int z)), [], 0, 0)
def bJ0_charAt_5068e_1101 : List (Nat × (op_T ⊕ op_R)) := [(0, .inl (o_aload 1 0)), (1, .inr (o_callX [] [] 4 0 rJ0_isLatin1_aae02_1101)), (4, .inl (o_ifeq 7 16)), (7, .inl (o_aload 8 0)), (8, .inl (o_sval 11)), (11, .inl (o_iload 12 1)), (12, .inr (o_callS [] [] 15 2 rJ1_charAt_3b067_1121)), (15, .inl (o_nret .char))]
set_option maxRecDepth 100000 in
set_option maxHeartbeats 4000000 in
theorem kJ0_charAt_5068e_1101 : ∀ q ∈ bJ0_charAt_5068e_1101, ok2 3 64 2 cJ0_charAt_5068e yJ0_charAt_5068e.cls yJ0_charAt_5068e.name (some .char) (.code yJ0_charAt_5068e cJ0_charAt_5068e 2 (some .char)) [] [] q.1 q.2 := (al_c (s_aload_n (k := 0) (by decide +kernel)) (al_c (s_callX (y := yJ0_isLatin1_aae02) (bytes := cJ0_isLatin1_aae02) (maxL := 1) (ret' := (some .boolean)) (fr' := 0) (lo' := 0) (n := 0) (ml := []) (mlc := []) qJ0_isLatin1_aae02_1101 w_844 w_845 w_846 w_18 w_847 ⟨by decide +kernel, by decide +kernel, by decide +kernel⟩ rfl (by decide) (by decide) (by decide +kernel)) (al_c (s_ifeq (off := 12) 16 (by decide) (by decide +kernel)) (al_c (s_aload_n (k := 0) (by decide +kernel)) (al_c (s_sval w_1758 (by decide +kernel)) (al_c (s_iload_n (k := 1) (by decide +kernel)) (al_c (s_callS (y := yJ1_charAt_3b067) (bytes := cJ1_charAt_3b067) (maxL := 2) (ret' := (some .char)) (fr' := 2) (lo' := 43) (n := 2) (ml := []) (mlc := []) qJ1_charAt_3b067_1121 w_848 w_849 w_19 w_850 ⟨by decide +kernel, by decide +kernel, by decide +kernel⟩ (by decide) (by decide) (by decide +kernel)) (al_c (s_nret rfl (by decide +kernel)) al_n))))))))
set_option maxRecDepth 100000 in
set_option maxHeartbeats 4000000 in
theorem oJ0_charAt_5068e_1101 : Of (lkp bJ0_charAt_5068e_1101) 2 rJ0_charAt_5068e_1101 := by
  intro avs es r h
  obtain ⟨x1, z, rfl, rfl, hp, rfl⟩ := h
  refine ⟨Nat.le_of_ble_eq_true rfl, ?_⟩
  unfold pJ0_charAt_5068e_1101 at hp
  refine Rn.go 1 (pc' := 1) (lv' := [(0, .ref 1101), (1, .int x1)]) (st' := [.ref 1101]) (es' := []) (c' := 0) (s' := 0) rfl ?_
  obtain ⟨z1, hz1, hp⟩ := ob_some hp
  refine Rn.rel (pc' := 4) (lv' := [(0, .ref 1101), (1, .int x1)]) (st' := [.int z1]) (es' := []) (dc := 0) (ds := 0) rfl ⟨1101, [], [], .inl (some (.int z1)), [], 0, 0, rfl, rfl, Nat.le_of_ble_eq_true rfl, rfl, ⟨z1, rfl, rfl, hz1, rfl⟩, rfl⟩ ?_
  refine Rn.br (P := z1 = 0) (pc1 := 16) (pc2 := 7) rfl rfl (fun h1 => ?_) (fun h1 => ?_)
  · rw [if_pos h1] at hp
    cases hp
  · rw [if_neg h1] at hp
    refine Rn.go 3 (pc' := 12) (lv' := [(0, .ref 1101), (1, .int x1)]) (st' := [.int x1, .ref 1121]) (es' := []) (c' := 0) (s' := 0) rfl ?_
    obtain ⟨z2, hz2, hp⟩ := ob_some hp
    refine Rn.rel (pc' := 15) (lv' := [(0, .ref 1101), (1, .int x1)]) (st' := [.int z2]) (es' := []) (dc := 0) (ds := 0) rfl ⟨[.ref 1121, .int x1], [], .inl (some (.int z2)), [], 0, 0, rfl, rfl, Nat.le_of_ble_eq_true rfl, ⟨x1, z2, rfl, rfl, hz2, rfl⟩, rfl⟩ ?_
    by_cases h2 : (narrow .char (.int z2) = .int z2)
    · rw [if_pos h2] at hp
      obtain rfl := Option.some.inj hp
      exact Rn.finz rfl rfl h2 rfl
    · rw [if_neg h2] at hp; cases hp
theorem qJ0_charAt_5068e_1101 : CtA yJ0_charAt_5068e (.code yJ0_charAt_5068e cJ0_charAt_5068e 2 (some .char)) 3 64 [] rJ0_charAt_5068e_1101 := CtA.of (by decide +kernel) (fun pc op h => kJ0_charAt_5068e_1101 _ (lkp_mem h)) oJ0_charAt_5068e_1101
/-! TelescopeNight$Reader.wordIs(Ljava/lang/String;)Z -/
def rX7_wordIs_1101 : List Value → List va_E → op_O → Prop := fun avs es r => ∃ (r_bytes : Nat → Int32) (r_values : Nat → Int32) (r_filled : Int32) (r_end : Int32) (r_at : Int32) (r_wordStart : Int32) (r_hasMoon : Int32) (r_hasSky : Int32) (r_error : Int32) (r_errorAt : Int32) (z : Int32), avs = [.ref 0, .ref 1101] ∧ es = (wX7_Reader r_bytes r_values r_filled r_end r_at r_wordStart r_hasMoon r_hasSky r_error r_errorAt) ∧ pX7_wordIs_1101 r_bytes r_at r_wordStart = some z ∧ r = (.inl (some (.int z)), (wX7_Reader r_bytes r_values r_filled r_end r_at r_wordStart r_hasMoon r_hasSky r_error r_errorAt), 0, 0)
def bX7_wordIs_1101 : List (Nat × (op_T ⊕ op_R)) := [(0, .inl (o_aload 1 0)), (1, .inl (o_get 4 7 4)), (4, .inl (o_aload 5 0)), (5, .inl (o_get 8 7 5)), (8, .inl (o_ii 9 (fun x y => x - y))), (9, .inl (o_aload 10 1)), (10, .inr (o_callX [] [] 13 0 rJ0_length_8abf5_1101)), (13, .inl (o_icmpeq 16 18)), (16, .inl (o_push 17 (.int (0)))), (17, .inl (o_zret)), (18, .inl (o_push 19 (.int (0)))), (19, .inl (nrm [0, 1, 2] (o_istore 20 2))), (20, .inl (o_iload 21 2)), (21, .inl (o_aload 22 1)), (22, .inr (o_callX [] [] 25 0 rJ0_length_8abf5_1101)), (25, .inl (o_icmpge 28 55)), (28, .inl (o_aload 29 0)), (29, .inl (o_get 32 7 0)), (32, .inl (o_aload 33 0)), (33, .inl (o_get 36 7 5)), (36, .inl (o_iload 37 2)), (37, .inl (o_ii 38 (fun x y => x + y))), (38, .inl (o_iald 39)), (39, .inl (o_aload 40 1)), (40, .inl (o_iload 41 2)), (41, .inr (o_callX [] [] 44 1 rJ0_charAt_5068e_1101)), (44, .inl (o_icmpeq 47 49)), (47, .inl (o_push 48 (.int (0)))), (48, .inl (o_zret)), (49, .inl (o_iinc 52 2 (1))), (52, .inl (nrm [0, 1, 2] (o_goto 20))), (55, .inl (o_push 56 (.int (1)))), (56, .inl (o_zret))]
set_option maxRecDepth 100000 in
set_option maxHeartbeats 4000000 in
theorem kX7_wordIs_1101 : ∀ q ∈ bX7_wordIs_1101, ok2 4 85 3 cX7_wordIs yX7_wordIs.cls yX7_wordIs.name (some .boolean) (.code yX7_wordIs cX7_wordIs 3 (some .boolean)) [] [] q.1 q.2 := (al_c (s_aload_n (k := 0) (by decide +kernel)) (al_c (s_get (C9 := RX7) (T9 := TX7) (N9 := 10) (ci := 7) (k := 4) iX7 rfl (by decide) w_220 (by decide +kernel)) (al_c (s_aload_n (k := 0) (by decide +kernel)) (al_c (s_get (C9 := RX7) (T9 := TX7) (N9 := 10) (ci := 7) (k := 5) iX7 rfl (by decide) w_221 (by decide +kernel)) (al_c (s_isub (by decide +kernel)) (al_c (s_aload_n (k := 1) (by decide +kernel)) (al_c (s_callX (y := yJ0_length_8abf5) (bytes := cJ0_length_8abf5) (maxL := 1) (ret' := (some .int)) (fr' := 1) (lo' := 20) (n := 0) (ml := []) (mlc := []) qJ0_length_8abf5_1101 w_830 w_831 w_832 w_18 w_833 ⟨by decide +kernel, by decide +kernel, by decide +kernel⟩ rfl (by decide) (by decide) (by decide +kernel)) (al_c (s_icmpeq (off := 5) 18 (by decide) (by decide +kernel)) (al_c (s_iconst (n := 0) (0) (by decide) (by decide +kernel)) (al_c (s_zret rfl (by decide +kernel)) (al_c (s_iconst (n := 0) (0) (by decide) (by decide +kernel)) (al_c (s_nrm [0, 1, 2] (s_istore_n (k := 2) rfl (by decide) (by decide +kernel))) (al_c (s_iload_n (k := 2) (by decide +kernel)) (al_c (s_aload_n (k := 1) (by decide +kernel)) (al_c (s_callX (y := yJ0_length_8abf5) (bytes := cJ0_length_8abf5) (maxL := 1) (ret' := (some .int)) (fr' := 1) (lo' := 20) (n := 0) (ml := []) (mlc := []) qJ0_length_8abf5_1101 w_830 w_831 w_832 w_18 w_833 ⟨by decide +kernel, by decide +kernel, by decide +kernel⟩ rfl (by decide) (by decide) (by decide +kernel)) (al_c (s_icmpge (off := 30) 55 (by decide) (by decide +kernel)) (al_c (s_aload_n (k := 0) (by decide +kernel)) (al_c (s_get (C9 := RX7) (T9 := TX7) (N9 := 10) (ci := 7) (k := 0) iX7 rfl (by decide) w_215 (by decide +kernel)) (al_c (s_aload_n (k := 0) (by decide +kernel)) (al_c (s_get (C9 := RX7) (T9 := TX7) (N9 := 10) (ci := 7) (k := 5) iX7 rfl (by decide) w_221 (by decide +kernel)) (al_c (s_iload_n (k := 2) (by decide +kernel)) (al_c (s_iadd (by decide +kernel)) (al_c (s_iald (by decide +kernel)) (al_c (s_aload_n (k := 1) (by decide +kernel)) (al_c (s_iload_n (k := 2) (by decide +kernel)) (al_c (s_callX (y := yJ0_charAt_5068e) (bytes := cJ0_charAt_5068e) (maxL := 2) (ret' := (some .char)) (fr' := 3) (lo' := 64) (n := 1) (ml := []) (mlc := []) qJ0_charAt_5068e_1101 w_840 w_841 w_842 w_18 w_843 ⟨by decide +kernel, by decide +kernel, by decide +kernel⟩ rfl (by decide) (by decide) (by decide +kernel)) (al_c (s_icmpeq (off := 5) 49 (by decide) (by decide +kernel)) (al_c (s_iconst (n := 0) (0) (by decide) (by decide +kernel)) (al_c (s_zret rfl (by decide +kernel)) (al_c (s_iinc (n := 1) (1) (by decide) (by decide) (by decide +kernel)) (al_c (s_nrm [0, 1, 2] (s_goto (off := -32) 20 (by decide) (by decide +kernel))) (al_c (s_iconst (n := 1) (1) (by decide) (by decide +kernel)) (al_c (s_zret rfl (by decide +kernel)) al_n)))))))))))))))))))))))))))))))))
set_option maxRecDepth 100000 in
set_option maxHeartbeats 4000000 in
theorem lrX7_wordIs_1101_20 (r_bytes : Nat → Int32) (r_values : Nat → Int32) (r_filled : Int32) (r_end : Int32) (r_at : Int32) (r_wordStart : Int32) (r_hasMoon : Int32) (r_hasSky : Int32) (r_error : Int32) (r_errorAt : Int32) : ∀ (fu : Nat) (l2 : Int32) (z : ((Int32) ⊕ (Int32))), lpX7_wordIs_1101_20 r_bytes r_wordStart fu l2 = some z → ∀ (c s : Nat) (r : op_O), (match z with | .inl ze => Rn (lkp bX7_wordIs_1101) 55 [(0, .ref 0), (1, .ref 1101), (2, .int ze)] [] (wX7_Reader r_bytes r_values r_filled r_end r_at r_wordStart r_hasMoon r_hasSky r_error r_errorAt) c s r | .inr zf => r = (.inl (some (.int zf)), (wX7_Reader r_bytes r_values r_filled r_end r_at r_wordStart r_hasMoon r_hasSky r_error r_errorAt), c + 0, s + 0)) → Rn (lkp bX7_wordIs_1101) 20 [(0, .ref 0), (1, .ref 1101), (2, .int l2)] [] (wX7_Reader r_bytes r_values r_filled r_end r_at r_wordStart r_hasMoon r_hasSky r_error r_errorAt) c s r := by
  intro fu
  induction fu with
  | zero => intro l2 z hp; cases hp
  | succ fu ih =>
      intro l2 z hp c s r k
      unfold lpX7_wordIs_1101_20 at hp
      refine Rn.go 2 (pc' := 22) (lv' := [(0, .ref 0), (1, .ref 1101), (2, .int l2)]) (st' := [.ref 1101, .int l2]) (es' := (wX7_Reader r_bytes r_values r_filled r_end r_at r_wordStart r_hasMoon r_hasSky r_error r_errorAt)) (c' := c) (s' := s) rfl ?_
      obtain ⟨z2, hz2, hp⟩ := ob_some hp
      refine Rn.rel (pc' := 25) (lv' := [(0, .ref 0), (1, .ref 1101), (2, .int l2)]) (st' := [.int z2, .int l2]) (es' := (wX7_Reader r_bytes r_values r_filled r_end r_at r_wordStart r_hasMoon r_hasSky r_error r_errorAt)) (dc := 0) (ds := 0) rfl ⟨1101, [], [], .inl (some (.int z2)), [], 0, 0, rfl, rfl, Nat.le_of_ble_eq_true rfl, rfl, ⟨z2, rfl, rfl, hz2, rfl⟩, rfl⟩ ?_
      refine Rn.br (P := z2 ≤ l2) (pc1 := 55) (pc2 := 28) rfl rfl (fun h2 => ?_) (fun h2 => ?_)
      · rw [if_pos h2] at hp
        obtain rfl := Option.some.inj hp
        exact k
      · rw [if_neg h2] at hp
        refine Rn.go 6 (pc' := 38) (lv' := [(0, .ref 0), (1, .ref 1101), (2, .int l2)]) (st' := [.int (r_wordStart + l2), .ref 1]) (es' := (wX7_Reader r_bytes r_values r_filled r_end r_at r_wordStart r_hasMoon r_hasSky r_error r_errorAt)) (c' := c) (s' := s) rfl ?_
        by_cases h3 : ((r_wordStart + l2) < 0 ∨ 500 ≤ ((r_wordStart + l2)).toNatClampNeg)
        · rw [if_pos h3] at hp; cases hp
        · rw [if_neg h3] at hp
          refine Rn.gd (pc' := 39) (lv' := [(0, .ref 0), (1, .ref 1101), (2, .int l2)]) (st' := [.int (r_bytes ((r_wordStart + l2)).toNatClampNeg)]) (es' := (wX7_Reader r_bytes r_values r_filled r_end r_at r_wordStart r_hasMoon r_hasSky r_error r_errorAt)) rfl rfl h3 ?_
          refine Rn.go 2 (pc' := 41) (lv' := [(0, .ref 0), (1, .ref 1101), (2, .int l2)]) (st' := [.int l2, .ref 1101, .int (r_bytes ((r_wordStart + l2)).toNatClampNeg)]) (es' := (wX7_Reader r_bytes r_values r_filled r_end r_at r_wordStart r_hasMoon r_hasSky r_error r_errorAt)) (c' := c) (s' := s) rfl ?_
          obtain ⟨z3, hz3, hp⟩ := ob_some hp
          refine Rn.rel (pc' := 44) (lv' := [(0, .ref 0), (1, .ref 1101), (2, .int l2)]) (st' := [.int z3, .int (r_bytes ((r_wordStart + l2)).toNatClampNeg)]) (es' := (wX7_Reader r_bytes r_values r_filled r_end r_at r_wordStart r_hasMoon r_hasSky r_error r_errorAt)) (dc := 0) (ds := 0) rfl ⟨1101, [.int l2], [], .inl (some (.int z3)), [], 0, 0, rfl, rfl, Nat.le_of_ble_eq_true rfl, rfl, ⟨l2, z3, rfl, rfl, hz3, rfl⟩, rfl⟩ ?_
          refine Rn.br (P := (r_bytes ((r_wordStart + l2)).toNatClampNeg) = z3) (pc1 := 49) (pc2 := 47) rfl rfl (fun h4 => ?_) (fun h4 => ?_)
          · rw [if_pos h4] at hp
            refine Rn.go 2 (pc' := 20) (lv' := [(0, .ref 0), (1, .ref 1101), (2, .int (l2 + (1 : Int32)))]) (st' := []) (es' := (wX7_Reader r_bytes r_values r_filled r_end r_at r_wordStart r_hasMoon r_hasSky r_error r_errorAt)) (c' := c) (s' := s) rfl ?_
            exact ih (l2 + (1 : Int32)) z hp c s r k
          · rw [if_neg h4] at hp
            refine Rn.go 1 (pc' := 48) (lv' := [(0, .ref 0), (1, .ref 1101), (2, .int l2)]) (st' := [.int (0 : Int32)]) (es' := (wX7_Reader r_bytes r_values r_filled r_end r_at r_wordStart r_hasMoon r_hasSky r_error r_errorAt)) (c' := c) (s' := s) rfl ?_
            obtain rfl := Option.some.inj hp
            exact Rn.fin rfl rfl k
set_option maxRecDepth 100000 in
set_option maxHeartbeats 4000000 in
theorem oX7_wordIs_1101 : Of (lkp bX7_wordIs_1101) 3 rX7_wordIs_1101 := by
  intro avs es r h
  obtain ⟨r_bytes, r_values, r_filled, r_end, r_at, r_wordStart, r_hasMoon, r_hasSky, r_error, r_errorAt, z, rfl, rfl, hp, rfl⟩ := h
  refine ⟨Nat.le_of_ble_eq_true rfl, ?_⟩
  unfold pX7_wordIs_1101 at hp
  refine Rn.go 6 (pc' := 10) (lv' := [(0, .ref 0), (1, .ref 1101)]) (st' := [.ref 1101, .int (r_at - r_wordStart)]) (es' := (wX7_Reader r_bytes r_values r_filled r_end r_at r_wordStart r_hasMoon r_hasSky r_error r_errorAt)) (c' := 0) (s' := 0) rfl ?_
  obtain ⟨z1, hz1, hp⟩ := ob_some hp
  refine Rn.rel (pc' := 13) (lv' := [(0, .ref 0), (1, .ref 1101)]) (st' := [.int z1, .int (r_at - r_wordStart)]) (es' := (wX7_Reader r_bytes r_values r_filled r_end r_at r_wordStart r_hasMoon r_hasSky r_error r_errorAt)) (dc := 0) (ds := 0) rfl ⟨1101, [], [], .inl (some (.int z1)), [], 0, 0, rfl, rfl, Nat.le_of_ble_eq_true rfl, rfl, ⟨z1, rfl, rfl, hz1, rfl⟩, rfl⟩ ?_
  refine Rn.br (P := (r_at - r_wordStart) = z1) (pc1 := 18) (pc2 := 16) rfl rfl (fun h1 => ?_) (fun h1 => ?_)
  · rw [if_pos h1] at hp
    refine Rn.go 2 (pc' := 20) (lv' := [(0, .ref 0), (1, .ref 1101), (2, .int (0 : Int32))]) (st' := []) (es' := (wX7_Reader r_bytes r_values r_filled r_end r_at r_wordStart r_hasMoon r_hasSky r_error r_errorAt)) (c' := 0) (s' := 0) rfl ?_
    obtain ⟨z4, hz4, hp⟩ := ob_some hp
    rcases z4 with z4e | z4f
    · dsimp only at hp
      refine lrX7_wordIs_1101_20 r_bytes r_values r_filled r_end r_at r_wordStart r_hasMoon r_hasSky r_error r_errorAt _ (0 : Int32) _ hz4 _ _ _ ?_
      refine Rn.go 1 (pc' := 56) (lv' := [(0, .ref 0), (1, .ref 1101), (2, .int z4e)]) (st' := [.int (1 : Int32)]) (es' := (wX7_Reader r_bytes r_values r_filled r_end r_at r_wordStart r_hasMoon r_hasSky r_error r_errorAt)) (c' := 0) (s' := 0) rfl ?_
      obtain rfl := Option.some.inj hp
      exact Rn.fin rfl rfl rfl
    · obtain rfl := Option.some.inj hp
      exact lrX7_wordIs_1101_20 r_bytes r_values r_filled r_end r_at r_wordStart r_hasMoon r_hasSky r_error r_errorAt _ (0 : Int32) _ hz4 _ _ _ rfl
  · rw [if_neg h1] at hp
    refine Rn.go 1 (pc' := 17) (lv' := [(0, .ref 0), (1, .ref 1101)]) (st' := [.int (0 : Int32)]) (es' := (wX7_Reader r_bytes r_values r_filled r_end r_at r_wordStart r_hasMoon r_hasSky r_error r_errorAt)) (c' := 0) (s' := 0) rfl ?_
    obtain rfl := Option.some.inj hp
    exact Rn.fin rfl rfl rfl
theorem qX7_wordIs_1101 : CtA yX7_wordIs (.code yX7_wordIs cX7_wordIs 3 (some .boolean)) 4 85 [] rX7_wordIs_1101 := CtA.of (by decide +kernel) (fun pc op h => kX7_wordIs_1101 _ (lkp_mem h)) oX7_wordIs_1101
/-! java/lang/String.coder()B -/
def rJ0_coder_7d493_1102 : List Value → List va_E → op_O → Prop := fun avs es r => ∃  (z : Int32), avs = [.ref 1102] ∧ es = [] ∧ pJ0_coder_7d493_1102 = some z ∧ r = (.inl (some (.int z)), [], 0, 0)
def bJ0_coder_7d493_1102 : List (Nat × (op_T ⊕ op_R)) := [(0, .inl (o_push 3 (.int 1))), (3, .inl (o_ifeq 6 13)), (6, .inl (o_aload 7 0)), (7, .inl (o_scod 10)), (10, .inl (o_goto 14)), (13, .inl (o_push 14 (.int (1)))), (14, .inl (o_nret .byte))]
set_option maxRecDepth 100000 in
set_option maxHeartbeats 4000000 in
theorem kJ0_coder_7d493_1102 : ∀ q ∈ bJ0_coder_7d493_1102, ok2 0 0 1 cJ0_coder_7d493 yJ0_coder_7d493.cls yJ0_coder_7d493.name (some .byte) (.code yJ0_coder_7d493 cJ0_coder_7d493 1 (some .byte)) [] [] q.1 q.2 := (al_c (s_getZ w_838 (by decide +kernel)) (al_c (s_ifeq (off := 10) 13 (by decide) (by decide +kernel)) (al_c (s_aload_n (k := 0) (by decide +kernel)) (al_c (s_scod w_1759 (by decide +kernel)) (al_c (s_goto (off := 4) 14 (by decide) (by decide +kernel)) (al_c (s_iconst (n := 1) (1) (by decide) (by decide +kernel)) (al_c (s_nret rfl (by decide +kernel)) al_n)))))))
set_option maxRecDepth 100000 in
set_option maxHeartbeats 4000000 in
theorem oJ0_coder_7d493_1102 : Of (lkp bJ0_coder_7d493_1102) 1 rJ0_coder_7d493_1102 := by
  intro avs es r h
  obtain ⟨z, rfl, rfl, hp, rfl⟩ := h
  refine ⟨Nat.le_of_ble_eq_true rfl, ?_⟩
  unfold pJ0_coder_7d493_1102 at hp
  refine Rn.go 5 (pc' := 14) (lv' := [(0, .ref 1102)]) (st' := [.int (0 : Int32)]) (es' := []) (c' := 0) (s' := 0) rfl ?_
  by_cases h1 : (narrow .byte (.int (0 : Int32)) = .int (0 : Int32))
  · rw [if_pos h1] at hp
    obtain rfl := Option.some.inj hp
    exact Rn.finz rfl rfl h1 rfl
  · rw [if_neg h1] at hp; cases hp
theorem qJ0_coder_7d493_1102 : CtA yJ0_coder_7d493 (.code yJ0_coder_7d493 cJ0_coder_7d493 1 (some .byte)) 0 0 [] rJ0_coder_7d493_1102 := CtA.of (by decide +kernel) (fun pc op h => kJ0_coder_7d493_1102 _ (lkp_mem h)) oJ0_coder_7d493_1102
/-! java/lang/String.length()I -/
def rJ0_length_8abf5_1102 : List Value → List va_E → op_O → Prop := fun avs es r => ∃  (z : Int32), avs = [.ref 1102] ∧ es = [] ∧ pJ0_length_8abf5_1102 = some z ∧ r = (.inl (some (.int z)), [], 0, 0)
def bJ0_length_8abf5_1102 : List (Nat × (op_T ⊕ op_R)) := [(0, .inl (o_aload 1 0)), (1, .inl (o_sval 4)), (4, .inl (o_blen 5)), (5, .inl (o_aload 6 0)), (6, .inr (o_callX [] [] 9 0 rJ0_coder_7d493_1102)), (9, .inl (o_ii 10 (fun x y => x >>> (y &&& 31)))), (10, .inl (o_iret))]
set_option maxRecDepth 100000 in
set_option maxHeartbeats 4000000 in
theorem kJ0_length_8abf5_1102 : ∀ q ∈ bJ0_length_8abf5_1102, ok2 1 20 1 cJ0_length_8abf5 yJ0_length_8abf5.cls yJ0_length_8abf5.name (some .int) (.code yJ0_length_8abf5 cJ0_length_8abf5 1 (some .int)) [] [] q.1 q.2 := (al_c (s_aload_n (k := 0) (by decide +kernel)) (al_c (s_sval w_1758 (by decide +kernel)) (al_c (s_blen (by decide +kernel)) (al_c (s_aload_n (k := 0) (by decide +kernel)) (al_c (s_callX (y := yJ0_coder_7d493) (bytes := cJ0_coder_7d493) (maxL := 1) (ret' := (some .byte)) (fr' := 0) (lo' := 0) (n := 0) (ml := []) (mlc := []) qJ0_coder_7d493_1102 w_834 w_835 w_836 w_18 w_837 ⟨by decide +kernel, by decide +kernel, by decide +kernel⟩ rfl (by decide) (by decide) (by decide +kernel)) (al_c (s_ishr (by decide +kernel)) (al_c (s_iret rfl (by decide +kernel)) al_n)))))))
set_option maxRecDepth 100000 in
set_option maxHeartbeats 4000000 in
theorem oJ0_length_8abf5_1102 : Of (lkp bJ0_length_8abf5_1102) 1 rJ0_length_8abf5_1102 := by
  intro avs es r h
  obtain ⟨z, rfl, rfl, hp, rfl⟩ := h
  refine ⟨Nat.le_of_ble_eq_true rfl, ?_⟩
  unfold pJ0_length_8abf5_1102 at hp
  refine Rn.go 4 (pc' := 6) (lv' := [(0, .ref 1102)]) (st' := [.ref 1102, .int (nI (strN.getD (1122 - 1120) 0))]) (es' := []) (c' := 0) (s' := 0) rfl ?_
  obtain ⟨z1, hz1, hp⟩ := ob_some hp
  refine Rn.rel (pc' := 9) (lv' := [(0, .ref 1102)]) (st' := [.int z1, .int (nI (strN.getD (1122 - 1120) 0))]) (es' := []) (dc := 0) (ds := 0) rfl ⟨1102, [], [], .inl (some (.int z1)), [], 0, 0, rfl, rfl, Nat.le_of_ble_eq_true rfl, rfl, ⟨z1, rfl, rfl, hz1, rfl⟩, rfl⟩ ?_
  refine Rn.go 1 (pc' := 10) (lv' := [(0, .ref 1102)]) (st' := [.int ((nI (strN.getD (1122 - 1120) 0)) >>> (z1 &&& 31))]) (es' := []) (c' := 0) (s' := 0) rfl ?_
  obtain rfl := Option.some.inj hp
  exact Rn.fin rfl rfl rfl
theorem qJ0_length_8abf5_1102 : CtA yJ0_length_8abf5 (.code yJ0_length_8abf5 cJ0_length_8abf5 1 (some .int)) 1 20 [] rJ0_length_8abf5_1102 := CtA.of (by decide +kernel) (fun pc op h => kJ0_length_8abf5_1102 _ (lkp_mem h)) oJ0_length_8abf5_1102
/-! java/lang/String.isLatin1()Z -/
def rJ0_isLatin1_aae02_1102 : List Value → List va_E → op_O → Prop := fun avs es r => ∃  (z : Int32), avs = [.ref 1102] ∧ es = [] ∧ pJ0_isLatin1_aae02_1102 = some z ∧ r = (.inl (some (.int z)), [], 0, 0)
def bJ0_isLatin1_aae02_1102 : List (Nat × (op_T ⊕ op_R)) := [(0, .inl (o_push 3 (.int 1))), (3, .inl (o_ifeq 6 17)), (6, .inl (o_aload 7 0)), (7, .inl (o_scod 10)), (10, .inl (o_ifne 13 17)), (13, .inl (o_push 14 (.int (1)))), (14, .inl (o_goto 18)), (17, .inl (o_push 18 (.int (0)))), (18, .inl (o_zret))]
set_option maxRecDepth 100000 in
set_option maxHeartbeats 4000000 in
theorem kJ0_isLatin1_aae02_1102 : ∀ q ∈ bJ0_isLatin1_aae02_1102, ok2 0 0 1 cJ0_isLatin1_aae02 yJ0_isLatin1_aae02.cls yJ0_isLatin1_aae02.name (some .boolean) (.code yJ0_isLatin1_aae02 cJ0_isLatin1_aae02 1 (some .boolean)) [] [] q.1 q.2 := (al_c (s_getZ w_838 (by decide +kernel)) (al_c (s_ifeq (off := 14) 17 (by decide) (by decide +kernel)) (al_c (s_aload_n (k := 0) (by decide +kernel)) (al_c (s_scod w_1759 (by decide +kernel)) (al_c (s_ifne (off := 7) 17 (by decide) (by decide +kernel)) (al_c (s_iconst (n := 1) (1) (by decide) (by decide +kernel)) (al_c (s_goto (off := 4) 18 (by decide) (by decide +kernel)) (al_c (s_iconst (n := 0) (0) (by decide) (by decide +kernel)) (al_c (s_zret rfl (by decide +kernel)) al_n)))))))))
set_option maxRecDepth 100000 in
set_option maxHeartbeats 4000000 in
theorem oJ0_isLatin1_aae02_1102 : Of (lkp bJ0_isLatin1_aae02_1102) 1 rJ0_isLatin1_aae02_1102 := by
  intro avs es r h
  obtain ⟨z, rfl, rfl, hp, rfl⟩ := h
  refine ⟨Nat.le_of_ble_eq_true rfl, ?_⟩
  unfold pJ0_isLatin1_aae02_1102 at hp
  refine Rn.go 7 (pc' := 18) (lv' := [(0, .ref 1102)]) (st' := [.int (1 : Int32)]) (es' := []) (c' := 0) (s' := 0) rfl ?_
  obtain rfl := Option.some.inj hp
  exact Rn.fin rfl rfl rfl
theorem qJ0_isLatin1_aae02_1102 : CtA yJ0_isLatin1_aae02 (.code yJ0_isLatin1_aae02 cJ0_isLatin1_aae02 1 (some .boolean)) 0 0 [] rJ0_isLatin1_aae02_1102 := CtA.of (by decide +kernel) (fun pc op h => kJ0_isLatin1_aae02_1102 _ (lkp_mem h)) oJ0_isLatin1_aae02_1102
/-! java/lang/StringLatin1.charAt([BI)C -/
def rJ1_charAt_3b067_1122 : List Value → List va_E → op_O → Prop := fun avs es r => ∃ (x1 : Int32) (z : Int32), avs = [.ref 1122, .int x1] ∧ es = [] ∧ pJ1_charAt_3b067_1122 x1 = some z ∧ r = (.inl (some (.int z)), [], 0, 0)
def bJ1_charAt_3b067_1122 : List (Nat × (op_T ⊕ op_R)) := [(0, .inl (o_iload 1 1)), (1, .inl (o_aload 2 0)), (2, .inl (o_blen 3)), (3, .inr (o_callS [] [] 6 2 rJ0_checkIndex_df160)), (6, .inl (o_aload 7 0)), (7, .inl (o_iload 8 1)), (8, .inl (o_bald 9)), (9, .inl (o_push 12 (.int (255)))), (12, .inl (o_ii 13 (fun x y => x &&& y))), (13, .inl (o_i2c 14)), (14, .inl (o_nret .char))]
set_option maxRecDepth 100000 in
set_option maxHeartbeats 4000000 in
theorem kJ1_charAt_3b067_1122 : ∀ q ∈ bJ1_charAt_3b067_1122, ok2 2 43 2 cJ1_charAt_3b067 yJ1_charAt_3b067.cls yJ1_charAt_3b067.name (some .char) (.code yJ1_charAt_3b067 cJ1_charAt_3b067 2 (some .char)) [] [] q.1 q.2 := (al_c (s_iload_n (k := 1) (by decide +kernel)) (al_c (s_aload_n (k := 0) (by decide +kernel)) (al_c (s_blen (by decide +kernel)) (al_c (s_callS (y := yJ0_checkIndex_df160) (bytes := cJ0_checkIndex_df160) (maxL := 2) (ret' := none) (fr' := 1) (lo' := 22) (n := 2) (ml := []) (mlc := []) qJ0_checkIndex_df160 w_851 w_852 w_18 w_853 ⟨by decide +kernel, by decide +kernel, by decide +kernel⟩ (by decide) (by decide) (by decide +kernel)) (al_c (s_aload_n (k := 0) (by decide +kernel)) (al_c (s_iload_n (k := 1) (by decide +kernel)) (al_c (s_bald (by decide +kernel)) (al_c (s_sipush (n := 255) (255) (by decide) (by decide +kernel)) (al_c (s_iand (by decide +kernel)) (al_c (s_i2c (by decide +kernel)) (al_c (s_nret rfl (by decide +kernel)) al_n)))))))))))
set_option maxRecDepth 100000 in
set_option maxHeartbeats 4000000 in
theorem oJ1_charAt_3b067_1122 : Of (lkp bJ1_charAt_3b067_1122) 2 rJ1_charAt_3b067_1122 := by
  intro avs es r h
  obtain ⟨x1, z, rfl, rfl, hp, rfl⟩ := h
  refine ⟨Nat.le_of_ble_eq_true rfl, ?_⟩
  unfold pJ1_charAt_3b067_1122 at hp
  refine Rn.go 3 (pc' := 3) (lv' := [(0, .ref 1122), (1, .int x1)]) (st' := [.int (nI (strN.getD (1122 - 1120) 0)), .int x1]) (es' := []) (c' := 0) (s' := 0) rfl ?_
  obtain ⟨z1, hz1, hp⟩ := ob_some hp
  refine Rn.rel (pc' := 6) (lv' := [(0, .ref 1122), (1, .int x1)]) (st' := []) (es' := []) (dc := 0) (ds := 0) rfl ⟨[.int x1, .int (nI (strN.getD (1122 - 1120) 0))], [], .inl none, [], 0, 0, rfl, rfl, Nat.le_of_ble_eq_true rfl, ⟨x1, (nI (strN.getD (1122 - 1120) 0)), z1, rfl, rfl, hz1, rfl⟩, rfl⟩ ?_
  refine Rn.go 2 (pc' := 8) (lv' := [(0, .ref 1122), (1, .int x1)]) (st' := [.int x1, .ref 1122]) (es' := []) (c' := 0) (s' := 0) rfl ?_
  by_cases h1 : (x1 < 0 ∨ (strN.getD (1122 - 1120) 0) ≤ x1.toNatClampNeg)
  · rw [if_pos h1] at hp; cases hp
  · rw [if_neg h1] at hp
    refine Rn.gd (pc' := 9) (lv' := [(0, .ref 1122), (1, .int x1)]) (st' := [.int ((strB.getD (1122 - 1120) []).getD x1.toNatClampNeg 0)]) (es' := []) rfl rfl h1 ?_
    refine Rn.go 3 (pc' := 14) (lv' := [(0, .ref 1122), (1, .int x1)]) (st' := [.int (((((strB.getD (1122 - 1120) []).getD x1.toNatClampNeg 0) &&& (255 : Int32))).toUInt32 % 65536).toInt32]) (es' := []) (c' := 0) (s' := 0) rfl ?_
    by_cases h2 : (narrow .char (.int (((((strB.getD (1122 - 1120) []).getD x1.toNatClampNeg 0) &&& (255 : Int32))).toUInt32 % 65536).toInt32) = .int (((((strB.getD (1122 - 1120) []).getD x1.toNatClampNeg 0) &&& (255 : Int32))).toUInt32 % 65536).toInt32)
    · rw [if_pos h2] at hp
      obtain rfl := Option.some.inj hp
      exact Rn.finz rfl rfl h2 rfl
    · rw [if_neg h2] at hp; cases hp
theorem qJ1_charAt_3b067_1122 : CtA yJ1_charAt_3b067 (.code yJ1_charAt_3b067 cJ1_charAt_3b067 2 (some .char)) 2 43 [] rJ1_charAt_3b067_1122 := CtA.of (by decide +kernel) (fun pc op h => kJ1_charAt_3b067_1122 _ (lkp_mem h)) oJ1_charAt_3b067_1122
/-! java/lang/String.charAt(I)C -/
def rJ0_charAt_5068e_1102 : List Value → List va_E → op_O → Prop := fun avs es r => ∃ (x1 : Int32) (z : Int32), avs = [.ref 1102, .int x1] ∧ es = [] ∧ pJ0_charAt_5068e_1102 x1 = some z ∧ r = (.inl (some (.int z)), [], 0, 0)
def bJ0_charAt_5068e_1102 : List (Nat × (op_T ⊕ op_R)) := [(0, .inl (o_aload 1 0)), (1, .inr (o_callX [] [] 4 0 rJ0_isLatin1_aae02_1102)), (4, .inl (o_ifeq 7 16)), (7, .inl (o_aload 8 0)), (8, .inl (o_sval 11)), (11, .inl (o_iload 12 1)), (12, .inr (o_callS [] [] 15 2 rJ1_charAt_3b067_1122)), (15, .inl (o_nret .char))]
set_option maxRecDepth 100000 in
set_option maxHeartbeats 4000000 in
theorem kJ0_charAt_5068e_1102 : ∀ q ∈ bJ0_charAt_5068e_1102, ok2 3 64 2 cJ0_charAt_5068e yJ0_charAt_5068e.cls yJ0_charAt_5068e.name (some .char) (.code yJ0_charAt_5068e cJ0_charAt_5068e 2 (some .char)) [] [] q.1 q.2 := (al_c (s_aload_n (k := 0) (by decide +kernel)) (al_c (s_callX (y := yJ0_isLatin1_aae02) (bytes := cJ0_isLatin1_aae02) (maxL := 1) (ret' := (some .boolean)) (fr' := 0) (lo' := 0) (n := 0) (ml := []) (mlc := []) qJ0_isLatin1_aae02_1102 w_844 w_845 w_846 w_18 w_847 ⟨by decide +kernel, by decide +kernel, by decide +kernel⟩ rfl (by decide) (by decide) (by decide +kernel)) (al_c (s_ifeq (off := 12) 16 (by decide) (by decide +kernel)) (al_c (s_aload_n (k := 0) (by decide +kernel)) (al_c (s_sval w_1758 (by decide +kernel)) (al_c (s_iload_n (k := 1) (by decide +kernel)) (al_c (s_callS (y := yJ1_charAt_3b067) (bytes := cJ1_charAt_3b067) (maxL := 2) (ret' := (some .char)) (fr' := 2) (lo' := 43) (n := 2) (ml := []) (mlc := []) qJ1_charAt_3b067_1122 w_848 w_849 w_19 w_850 ⟨by decide +kernel, by decide +kernel, by decide +kernel⟩ (by decide) (by decide) (by decide +kernel)) (al_c (s_nret rfl (by decide +kernel)) al_n))))))))
set_option maxRecDepth 100000 in
set_option maxHeartbeats 4000000 in
theorem oJ0_charAt_5068e_1102 : Of (lkp bJ0_charAt_5068e_1102) 2 rJ0_charAt_5068e_1102 := by
  intro avs es r h
  obtain ⟨x1, z, rfl, rfl, hp, rfl⟩ := h
  refine ⟨Nat.le_of_ble_eq_true rfl, ?_⟩
  unfold pJ0_charAt_5068e_1102 at hp
  refine Rn.go 1 (pc' := 1) (lv' := [(0, .ref 1102), (1, .int x1)]) (st' := [.ref 1102]) (es' := []) (c' := 0) (s' := 0) rfl ?_
  obtain ⟨z1, hz1, hp⟩ := ob_some hp
  refine Rn.rel (pc' := 4) (lv' := [(0, .ref 1102), (1, .int x1)]) (st' := [.int z1]) (es' := []) (dc := 0) (ds := 0) rfl ⟨1102, [], [], .inl (some (.int z1)), [], 0, 0, rfl, rfl, Nat.le_of_ble_eq_true rfl, rfl, ⟨z1, rfl, rfl, hz1, rfl⟩, rfl⟩ ?_
  refine Rn.br (P := z1 = 0) (pc1 := 16) (pc2 := 7) rfl rfl (fun h1 => ?_) (fun h1 => ?_)
  · rw [if_pos h1] at hp
    cases hp
  · rw [if_neg h1] at hp
    refine Rn.go 3 (pc' := 12) (lv' := [(0, .ref 1102), (1, .int x1)]) (st' := [.int x1, .ref 1122]) (es' := []) (c' := 0) (s' := 0) rfl ?_
    obtain ⟨z2, hz2, hp⟩ := ob_some hp
    refine Rn.rel (pc' := 15) (lv' := [(0, .ref 1102), (1, .int x1)]) (st' := [.int z2]) (es' := []) (dc := 0) (ds := 0) rfl ⟨[.ref 1122, .int x1], [], .inl (some (.int z2)), [], 0, 0, rfl, rfl, Nat.le_of_ble_eq_true rfl, ⟨x1, z2, rfl, rfl, hz2, rfl⟩, rfl⟩ ?_
    by_cases h2 : (narrow .char (.int z2) = .int z2)
    · rw [if_pos h2] at hp
      obtain rfl := Option.some.inj hp
      exact Rn.finz rfl rfl h2 rfl
    · rw [if_neg h2] at hp; cases hp
theorem qJ0_charAt_5068e_1102 : CtA yJ0_charAt_5068e (.code yJ0_charAt_5068e cJ0_charAt_5068e 2 (some .char)) 3 64 [] rJ0_charAt_5068e_1102 := CtA.of (by decide +kernel) (fun pc op h => kJ0_charAt_5068e_1102 _ (lkp_mem h)) oJ0_charAt_5068e_1102
/-! TelescopeNight$Reader.wordIs(Ljava/lang/String;)Z -/
def rX7_wordIs_1102 : List Value → List va_E → op_O → Prop := fun avs es r => ∃ (r_bytes : Nat → Int32) (r_values : Nat → Int32) (r_filled : Int32) (r_end : Int32) (r_at : Int32) (r_wordStart : Int32) (r_hasMoon : Int32) (r_hasSky : Int32) (r_error : Int32) (r_errorAt : Int32) (z : Int32), avs = [.ref 0, .ref 1102] ∧ es = (wX7_Reader r_bytes r_values r_filled r_end r_at r_wordStart r_hasMoon r_hasSky r_error r_errorAt) ∧ pX7_wordIs_1102 r_bytes r_at r_wordStart = some z ∧ r = (.inl (some (.int z)), (wX7_Reader r_bytes r_values r_filled r_end r_at r_wordStart r_hasMoon r_hasSky r_error r_errorAt), 0, 0)
def bX7_wordIs_1102 : List (Nat × (op_T ⊕ op_R)) := [(0, .inl (o_aload 1 0)), (1, .inl (o_get 4 7 4)), (4, .inl (o_aload 5 0)), (5, .inl (o_get 8 7 5)), (8, .inl (o_ii 9 (fun x y => x - y))), (9, .inl (o_aload 10 1)), (10, .inr (o_callX [] [] 13 0 rJ0_length_8abf5_1102)), (13, .inl (o_icmpeq 16 18)), (16, .inl (o_push 17 (.int (0)))), (17, .inl (o_zret)), (18, .inl (o_push 19 (.int (0)))), (19, .inl (nrm [0, 1, 2] (o_istore 20 2))), (20, .inl (o_iload 21 2)), (21, .inl (o_aload 22 1)), (22, .inr (o_callX [] [] 25 0 rJ0_length_8abf5_1102)), (25, .inl (o_icmpge 28 55)), (28, .inl (o_aload 29 0)), (29, .inl (o_get 32 7 0)), (32, .inl (o_aload 33 0)), (33, .inl (o_get 36 7 5)), (36, .inl (o_iload 37 2)), (37, .inl (o_ii 38 (fun x y => x + y))), (38, .inl (o_iald 39)), (39, .inl (o_aload 40 1)), (40, .inl (o_iload 41 2)), (41, .inr (o_callX [] [] 44 1 rJ0_charAt_5068e_1102)), (44, .inl (o_icmpeq 47 49)), (47, .inl (o_push 48 (.int (0)))), (48, .inl (o_zret)), (49, .inl (o_iinc 52 2 (1))), (52, .inl (nrm [0, 1, 2] (o_goto 20))), (55, .inl (o_push 56 (.int (1)))), (56, .inl (o_zret))]
set_option maxRecDepth 100000 in
set_option maxHeartbeats 4000000 in
theorem kX7_wordIs_1102 : ∀ q ∈ bX7_wordIs_1102, ok2 4 85 3 cX7_wordIs yX7_wordIs.cls yX7_wordIs.name (some .boolean) (.code yX7_wordIs cX7_wordIs 3 (some .boolean)) [] [] q.1 q.2 := (al_c (s_aload_n (k := 0) (by decide +kernel)) (al_c (s_get (C9 := RX7) (T9 := TX7) (N9 := 10) (ci := 7) (k := 4) iX7 rfl (by decide) w_220 (by decide +kernel)) (al_c (s_aload_n (k := 0) (by decide +kernel)) (al_c (s_get (C9 := RX7) (T9 := TX7) (N9 := 10) (ci := 7) (k := 5) iX7 rfl (by decide) w_221 (by decide +kernel)) (al_c (s_isub (by decide +kernel)) (al_c (s_aload_n (k := 1) (by decide +kernel)) (al_c (s_callX (y := yJ0_length_8abf5) (bytes := cJ0_length_8abf5) (maxL := 1) (ret' := (some .int)) (fr' := 1) (lo' := 20) (n := 0) (ml := []) (mlc := []) qJ0_length_8abf5_1102 w_830 w_831 w_832 w_18 w_833 ⟨by decide +kernel, by decide +kernel, by decide +kernel⟩ rfl (by decide) (by decide) (by decide +kernel)) (al_c (s_icmpeq (off := 5) 18 (by decide) (by decide +kernel)) (al_c (s_iconst (n := 0) (0) (by decide) (by decide +kernel)) (al_c (s_zret rfl (by decide +kernel)) (al_c (s_iconst (n := 0) (0) (by decide) (by decide +kernel)) (al_c (s_nrm [0, 1, 2] (s_istore_n (k := 2) rfl (by decide) (by decide +kernel))) (al_c (s_iload_n (k := 2) (by decide +kernel)) (al_c (s_aload_n (k := 1) (by decide +kernel)) (al_c (s_callX (y := yJ0_length_8abf5) (bytes := cJ0_length_8abf5) (maxL := 1) (ret' := (some .int)) (fr' := 1) (lo' := 20) (n := 0) (ml := []) (mlc := []) qJ0_length_8abf5_1102 w_830 w_831 w_832 w_18 w_833 ⟨by decide +kernel, by decide +kernel, by decide +kernel⟩ rfl (by decide) (by decide) (by decide +kernel)) (al_c (s_icmpge (off := 30) 55 (by decide) (by decide +kernel)) (al_c (s_aload_n (k := 0) (by decide +kernel)) (al_c (s_get (C9 := RX7) (T9 := TX7) (N9 := 10) (ci := 7) (k := 0) iX7 rfl (by decide) w_215 (by decide +kernel)) (al_c (s_aload_n (k := 0) (by decide +kernel)) (al_c (s_get (C9 := RX7) (T9 := TX7) (N9 := 10) (ci := 7) (k := 5) iX7 rfl (by decide) w_221 (by decide +kernel)) (al_c (s_iload_n (k := 2) (by decide +kernel)) (al_c (s_iadd (by decide +kernel)) (al_c (s_iald (by decide +kernel)) (al_c (s_aload_n (k := 1) (by decide +kernel)) (al_c (s_iload_n (k := 2) (by decide +kernel)) (al_c (s_callX (y := yJ0_charAt_5068e) (bytes := cJ0_charAt_5068e) (maxL := 2) (ret' := (some .char)) (fr' := 3) (lo' := 64) (n := 1) (ml := []) (mlc := []) qJ0_charAt_5068e_1102 w_840 w_841 w_842 w_18 w_843 ⟨by decide +kernel, by decide +kernel, by decide +kernel⟩ rfl (by decide) (by decide) (by decide +kernel)) (al_c (s_icmpeq (off := 5) 49 (by decide) (by decide +kernel)) (al_c (s_iconst (n := 0) (0) (by decide) (by decide +kernel)) (al_c (s_zret rfl (by decide +kernel)) (al_c (s_iinc (n := 1) (1) (by decide) (by decide) (by decide +kernel)) (al_c (s_nrm [0, 1, 2] (s_goto (off := -32) 20 (by decide) (by decide +kernel))) (al_c (s_iconst (n := 1) (1) (by decide) (by decide +kernel)) (al_c (s_zret rfl (by decide +kernel)) al_n)))))))))))))))))))))))))))))))))
set_option maxRecDepth 100000 in
set_option maxHeartbeats 4000000 in
theorem lrX7_wordIs_1102_20 (r_bytes : Nat → Int32) (r_values : Nat → Int32) (r_filled : Int32) (r_end : Int32) (r_at : Int32) (r_wordStart : Int32) (r_hasMoon : Int32) (r_hasSky : Int32) (r_error : Int32) (r_errorAt : Int32) : ∀ (fu : Nat) (l2 : Int32) (z : ((Int32) ⊕ (Int32))), lpX7_wordIs_1102_20 r_bytes r_wordStart fu l2 = some z → ∀ (c s : Nat) (r : op_O), (match z with | .inl ze => Rn (lkp bX7_wordIs_1102) 55 [(0, .ref 0), (1, .ref 1102), (2, .int ze)] [] (wX7_Reader r_bytes r_values r_filled r_end r_at r_wordStart r_hasMoon r_hasSky r_error r_errorAt) c s r | .inr zf => r = (.inl (some (.int zf)), (wX7_Reader r_bytes r_values r_filled r_end r_at r_wordStart r_hasMoon r_hasSky r_error r_errorAt), c + 0, s + 0)) → Rn (lkp bX7_wordIs_1102) 20 [(0, .ref 0), (1, .ref 1102), (2, .int l2)] [] (wX7_Reader r_bytes r_values r_filled r_end r_at r_wordStart r_hasMoon r_hasSky r_error r_errorAt) c s r := by
  intro fu
  induction fu with
  | zero => intro l2 z hp; cases hp
  | succ fu ih =>
      intro l2 z hp c s r k
      unfold lpX7_wordIs_1102_20 at hp
      refine Rn.go 2 (pc' := 22) (lv' := [(0, .ref 0), (1, .ref 1102), (2, .int l2)]) (st' := [.ref 1102, .int l2]) (es' := (wX7_Reader r_bytes r_values r_filled r_end r_at r_wordStart r_hasMoon r_hasSky r_error r_errorAt)) (c' := c) (s' := s) rfl ?_
      obtain ⟨z2, hz2, hp⟩ := ob_some hp
      refine Rn.rel (pc' := 25) (lv' := [(0, .ref 0), (1, .ref 1102), (2, .int l2)]) (st' := [.int z2, .int l2]) (es' := (wX7_Reader r_bytes r_values r_filled r_end r_at r_wordStart r_hasMoon r_hasSky r_error r_errorAt)) (dc := 0) (ds := 0) rfl ⟨1102, [], [], .inl (some (.int z2)), [], 0, 0, rfl, rfl, Nat.le_of_ble_eq_true rfl, rfl, ⟨z2, rfl, rfl, hz2, rfl⟩, rfl⟩ ?_
      refine Rn.br (P := z2 ≤ l2) (pc1 := 55) (pc2 := 28) rfl rfl (fun h2 => ?_) (fun h2 => ?_)
      · rw [if_pos h2] at hp
        obtain rfl := Option.some.inj hp
        exact k
      · rw [if_neg h2] at hp
        refine Rn.go 6 (pc' := 38) (lv' := [(0, .ref 0), (1, .ref 1102), (2, .int l2)]) (st' := [.int (r_wordStart + l2), .ref 1]) (es' := (wX7_Reader r_bytes r_values r_filled r_end r_at r_wordStart r_hasMoon r_hasSky r_error r_errorAt)) (c' := c) (s' := s) rfl ?_
        by_cases h3 : ((r_wordStart + l2) < 0 ∨ 500 ≤ ((r_wordStart + l2)).toNatClampNeg)
        · rw [if_pos h3] at hp; cases hp
        · rw [if_neg h3] at hp
          refine Rn.gd (pc' := 39) (lv' := [(0, .ref 0), (1, .ref 1102), (2, .int l2)]) (st' := [.int (r_bytes ((r_wordStart + l2)).toNatClampNeg)]) (es' := (wX7_Reader r_bytes r_values r_filled r_end r_at r_wordStart r_hasMoon r_hasSky r_error r_errorAt)) rfl rfl h3 ?_
          refine Rn.go 2 (pc' := 41) (lv' := [(0, .ref 0), (1, .ref 1102), (2, .int l2)]) (st' := [.int l2, .ref 1102, .int (r_bytes ((r_wordStart + l2)).toNatClampNeg)]) (es' := (wX7_Reader r_bytes r_values r_filled r_end r_at r_wordStart r_hasMoon r_hasSky r_error r_errorAt)) (c' := c) (s' := s) rfl ?_
          obtain ⟨z3, hz3, hp⟩ := ob_some hp
          refine Rn.rel (pc' := 44) (lv' := [(0, .ref 0), (1, .ref 1102), (2, .int l2)]) (st' := [.int z3, .int (r_bytes ((r_wordStart + l2)).toNatClampNeg)]) (es' := (wX7_Reader r_bytes r_values r_filled r_end r_at r_wordStart r_hasMoon r_hasSky r_error r_errorAt)) (dc := 0) (ds := 0) rfl ⟨1102, [.int l2], [], .inl (some (.int z3)), [], 0, 0, rfl, rfl, Nat.le_of_ble_eq_true rfl, rfl, ⟨l2, z3, rfl, rfl, hz3, rfl⟩, rfl⟩ ?_
          refine Rn.br (P := (r_bytes ((r_wordStart + l2)).toNatClampNeg) = z3) (pc1 := 49) (pc2 := 47) rfl rfl (fun h4 => ?_) (fun h4 => ?_)
          · rw [if_pos h4] at hp
            refine Rn.go 2 (pc' := 20) (lv' := [(0, .ref 0), (1, .ref 1102), (2, .int (l2 + (1 : Int32)))]) (st' := []) (es' := (wX7_Reader r_bytes r_values r_filled r_end r_at r_wordStart r_hasMoon r_hasSky r_error r_errorAt)) (c' := c) (s' := s) rfl ?_
            exact ih (l2 + (1 : Int32)) z hp c s r k
          · rw [if_neg h4] at hp
            refine Rn.go 1 (pc' := 48) (lv' := [(0, .ref 0), (1, .ref 1102), (2, .int l2)]) (st' := [.int (0 : Int32)]) (es' := (wX7_Reader r_bytes r_values r_filled r_end r_at r_wordStart r_hasMoon r_hasSky r_error r_errorAt)) (c' := c) (s' := s) rfl ?_
            obtain rfl := Option.some.inj hp
            exact Rn.fin rfl rfl k
set_option maxRecDepth 100000 in
set_option maxHeartbeats 4000000 in
theorem oX7_wordIs_1102 : Of (lkp bX7_wordIs_1102) 3 rX7_wordIs_1102 := by
  intro avs es r h
  obtain ⟨r_bytes, r_values, r_filled, r_end, r_at, r_wordStart, r_hasMoon, r_hasSky, r_error, r_errorAt, z, rfl, rfl, hp, rfl⟩ := h
  refine ⟨Nat.le_of_ble_eq_true rfl, ?_⟩
  unfold pX7_wordIs_1102 at hp
  refine Rn.go 6 (pc' := 10) (lv' := [(0, .ref 0), (1, .ref 1102)]) (st' := [.ref 1102, .int (r_at - r_wordStart)]) (es' := (wX7_Reader r_bytes r_values r_filled r_end r_at r_wordStart r_hasMoon r_hasSky r_error r_errorAt)) (c' := 0) (s' := 0) rfl ?_
  obtain ⟨z1, hz1, hp⟩ := ob_some hp
  refine Rn.rel (pc' := 13) (lv' := [(0, .ref 0), (1, .ref 1102)]) (st' := [.int z1, .int (r_at - r_wordStart)]) (es' := (wX7_Reader r_bytes r_values r_filled r_end r_at r_wordStart r_hasMoon r_hasSky r_error r_errorAt)) (dc := 0) (ds := 0) rfl ⟨1102, [], [], .inl (some (.int z1)), [], 0, 0, rfl, rfl, Nat.le_of_ble_eq_true rfl, rfl, ⟨z1, rfl, rfl, hz1, rfl⟩, rfl⟩ ?_
  refine Rn.br (P := (r_at - r_wordStart) = z1) (pc1 := 18) (pc2 := 16) rfl rfl (fun h1 => ?_) (fun h1 => ?_)
  · rw [if_pos h1] at hp
    refine Rn.go 2 (pc' := 20) (lv' := [(0, .ref 0), (1, .ref 1102), (2, .int (0 : Int32))]) (st' := []) (es' := (wX7_Reader r_bytes r_values r_filled r_end r_at r_wordStart r_hasMoon r_hasSky r_error r_errorAt)) (c' := 0) (s' := 0) rfl ?_
    obtain ⟨z4, hz4, hp⟩ := ob_some hp
    rcases z4 with z4e | z4f
    · dsimp only at hp
      refine lrX7_wordIs_1102_20 r_bytes r_values r_filled r_end r_at r_wordStart r_hasMoon r_hasSky r_error r_errorAt _ (0 : Int32) _ hz4 _ _ _ ?_
      refine Rn.go 1 (pc' := 56) (lv' := [(0, .ref 0), (1, .ref 1102), (2, .int z4e)]) (st' := [.int (1 : Int32)]) (es' := (wX7_Reader r_bytes r_values r_filled r_end r_at r_wordStart r_hasMoon r_hasSky r_error r_errorAt)) (c' := 0) (s' := 0) rfl ?_
      obtain rfl := Option.some.inj hp
      exact Rn.fin rfl rfl rfl
    · obtain rfl := Option.some.inj hp
      exact lrX7_wordIs_1102_20 r_bytes r_values r_filled r_end r_at r_wordStart r_hasMoon r_hasSky r_error r_errorAt _ (0 : Int32) _ hz4 _ _ _ rfl
  · rw [if_neg h1] at hp
    refine Rn.go 1 (pc' := 17) (lv' := [(0, .ref 0), (1, .ref 1102)]) (st' := [.int (0 : Int32)]) (es' := (wX7_Reader r_bytes r_values r_filled r_end r_at r_wordStart r_hasMoon r_hasSky r_error r_errorAt)) (c' := 0) (s' := 0) rfl ?_
    obtain rfl := Option.some.inj hp
    exact Rn.fin rfl rfl rfl
theorem qX7_wordIs_1102 : CtA yX7_wordIs (.code yX7_wordIs cX7_wordIs 3 (some .boolean)) 4 85 [] rX7_wordIs_1102 := CtA.of (by decide +kernel) (fun pc op h => kX7_wordIs_1102 _ (lkp_mem h)) oX7_wordIs_1102
/-! java/lang/String.coder()B -/
def rJ0_coder_7d493_1103 : List Value → List va_E → op_O → Prop := fun avs es r => ∃  (z : Int32), avs = [.ref 1103] ∧ es = [] ∧ pJ0_coder_7d493_1103 = some z ∧ r = (.inl (some (.int z)), [], 0, 0)
def bJ0_coder_7d493_1103 : List (Nat × (op_T ⊕ op_R)) := [(0, .inl (o_push 3 (.int 1))), (3, .inl (o_ifeq 6 13)), (6, .inl (o_aload 7 0)), (7, .inl (o_scod 10)), (10, .inl (o_goto 14)), (13, .inl (o_push 14 (.int (1)))), (14, .inl (o_nret .byte))]
set_option maxRecDepth 100000 in
set_option maxHeartbeats 4000000 in
theorem kJ0_coder_7d493_1103 : ∀ q ∈ bJ0_coder_7d493_1103, ok2 0 0 1 cJ0_coder_7d493 yJ0_coder_7d493.cls yJ0_coder_7d493.name (some .byte) (.code yJ0_coder_7d493 cJ0_coder_7d493 1 (some .byte)) [] [] q.1 q.2 := (al_c (s_getZ w_838 (by decide +kernel)) (al_c (s_ifeq (off := 10) 13 (by decide) (by decide +kernel)) (al_c (s_aload_n (k := 0) (by decide +kernel)) (al_c (s_scod w_1759 (by decide +kernel)) (al_c (s_goto (off := 4) 14 (by decide) (by decide +kernel)) (al_c (s_iconst (n := 1) (1) (by decide) (by decide +kernel)) (al_c (s_nret rfl (by decide +kernel)) al_n)))))))
set_option maxRecDepth 100000 in
set_option maxHeartbeats 4000000 in
theorem oJ0_coder_7d493_1103 : Of (lkp bJ0_coder_7d493_1103) 1 rJ0_coder_7d493_1103 := by
  intro avs es r h
  obtain ⟨z, rfl, rfl, hp, rfl⟩ := h
  refine ⟨Nat.le_of_ble_eq_true rfl, ?_⟩
  unfold pJ0_coder_7d493_1103 at hp
  refine Rn.go 5 (pc' := 14) (lv' := [(0, .ref 1103)]) (st' := [.int (0 : Int32)]) (es' := []) (c' := 0) (s' := 0) rfl ?_
  by_cases h1 : (narrow .byte (.int (0 : Int32)) = .int (0 : Int32))
  · rw [if_pos h1] at hp
    obtain rfl := Option.some.inj hp
    exact Rn.finz rfl rfl h1 rfl
  · rw [if_neg h1] at hp; cases hp
theorem qJ0_coder_7d493_1103 : CtA yJ0_coder_7d493 (.code yJ0_coder_7d493 cJ0_coder_7d493 1 (some .byte)) 0 0 [] rJ0_coder_7d493_1103 := CtA.of (by decide +kernel) (fun pc op h => kJ0_coder_7d493_1103 _ (lkp_mem h)) oJ0_coder_7d493_1103
/-! java/lang/String.length()I -/
def rJ0_length_8abf5_1103 : List Value → List va_E → op_O → Prop := fun avs es r => ∃  (z : Int32), avs = [.ref 1103] ∧ es = [] ∧ pJ0_length_8abf5_1103 = some z ∧ r = (.inl (some (.int z)), [], 0, 0)
def bJ0_length_8abf5_1103 : List (Nat × (op_T ⊕ op_R)) := [(0, .inl (o_aload 1 0)), (1, .inl (o_sval 4)), (4, .inl (o_blen 5)), (5, .inl (o_aload 6 0)), (6, .inr (o_callX [] [] 9 0 rJ0_coder_7d493_1103)), (9, .inl (o_ii 10 (fun x y => x >>> (y &&& 31)))), (10, .inl (o_iret))]
set_option maxRecDepth 100000 in
set_option maxHeartbeats 4000000 in
theorem kJ0_length_8abf5_1103 : ∀ q ∈ bJ0_length_8abf5_1103, ok2 1 20 1 cJ0_length_8abf5 yJ0_length_8abf5.cls yJ0_length_8abf5.name (some .int) (.code yJ0_length_8abf5 cJ0_length_8abf5 1 (some .int)) [] [] q.1 q.2 := (al_c (s_aload_n (k := 0) (by decide +kernel)) (al_c (s_sval w_1758 (by decide +kernel)) (al_c (s_blen (by decide +kernel)) (al_c (s_aload_n (k := 0) (by decide +kernel)) (al_c (s_callX (y := yJ0_coder_7d493) (bytes := cJ0_coder_7d493) (maxL := 1) (ret' := (some .byte)) (fr' := 0) (lo' := 0) (n := 0) (ml := []) (mlc := []) qJ0_coder_7d493_1103 w_834 w_835 w_836 w_18 w_837 ⟨by decide +kernel, by decide +kernel, by decide +kernel⟩ rfl (by decide) (by decide) (by decide +kernel)) (al_c (s_ishr (by decide +kernel)) (al_c (s_iret rfl (by decide +kernel)) al_n)))))))
set_option maxRecDepth 100000 in
set_option maxHeartbeats 4000000 in
theorem oJ0_length_8abf5_1103 : Of (lkp bJ0_length_8abf5_1103) 1 rJ0_length_8abf5_1103 := by
  intro avs es r h
  obtain ⟨z, rfl, rfl, hp, rfl⟩ := h
  refine ⟨Nat.le_of_ble_eq_true rfl, ?_⟩
  unfold pJ0_length_8abf5_1103 at hp
  refine Rn.go 4 (pc' := 6) (lv' := [(0, .ref 1103)]) (st' := [.ref 1103, .int (nI (strN.getD (1123 - 1120) 0))]) (es' := []) (c' := 0) (s' := 0) rfl ?_
  obtain ⟨z1, hz1, hp⟩ := ob_some hp
  refine Rn.rel (pc' := 9) (lv' := [(0, .ref 1103)]) (st' := [.int z1, .int (nI (strN.getD (1123 - 1120) 0))]) (es' := []) (dc := 0) (ds := 0) rfl ⟨1103, [], [], .inl (some (.int z1)), [], 0, 0, rfl, rfl, Nat.le_of_ble_eq_true rfl, rfl, ⟨z1, rfl, rfl, hz1, rfl⟩, rfl⟩ ?_
  refine Rn.go 1 (pc' := 10) (lv' := [(0, .ref 1103)]) (st' := [.int ((nI (strN.getD (1123 - 1120) 0)) >>> (z1 &&& 31))]) (es' := []) (c' := 0) (s' := 0) rfl ?_
  obtain rfl := Option.some.inj hp
  exact Rn.fin rfl rfl rfl
theorem qJ0_length_8abf5_1103 : CtA yJ0_length_8abf5 (.code yJ0_length_8abf5 cJ0_length_8abf5 1 (some .int)) 1 20 [] rJ0_length_8abf5_1103 := CtA.of (by decide +kernel) (fun pc op h => kJ0_length_8abf5_1103 _ (lkp_mem h)) oJ0_length_8abf5_1103
/-! java/lang/String.isLatin1()Z -/
def rJ0_isLatin1_aae02_1103 : List Value → List va_E → op_O → Prop := fun avs es r => ∃  (z : Int32), avs = [.ref 1103] ∧ es = [] ∧ pJ0_isLatin1_aae02_1103 = some z ∧ r = (.inl (some (.int z)), [], 0, 0)
def bJ0_isLatin1_aae02_1103 : List (Nat × (op_T ⊕ op_R)) := [(0, .inl (o_push 3 (.int 1))), (3, .inl (o_ifeq 6 17)), (6, .inl (o_aload 7 0)), (7, .inl (o_scod 10)), (10, .inl (o_ifne 13 17)), (13, .inl (o_push 14 (.int (1)))), (14, .inl (o_goto 18)), (17, .inl (o_push 18 (.int (0)))), (18, .inl (o_zret))]
set_option maxRecDepth 100000 in
set_option maxHeartbeats 4000000 in
theorem kJ0_isLatin1_aae02_1103 : ∀ q ∈ bJ0_isLatin1_aae02_1103, ok2 0 0 1 cJ0_isLatin1_aae02 yJ0_isLatin1_aae02.cls yJ0_isLatin1_aae02.name (some .boolean) (.code yJ0_isLatin1_aae02 cJ0_isLatin1_aae02 1 (some .boolean)) [] [] q.1 q.2 := (al_c (s_getZ w_838 (by decide +kernel)) (al_c (s_ifeq (off := 14) 17 (by decide) (by decide +kernel)) (al_c (s_aload_n (k := 0) (by decide +kernel)) (al_c (s_scod w_1759 (by decide +kernel)) (al_c (s_ifne (off := 7) 17 (by decide) (by decide +kernel)) (al_c (s_iconst (n := 1) (1) (by decide) (by decide +kernel)) (al_c (s_goto (off := 4) 18 (by decide) (by decide +kernel)) (al_c (s_iconst (n := 0) (0) (by decide) (by decide +kernel)) (al_c (s_zret rfl (by decide +kernel)) al_n)))))))))
set_option maxRecDepth 100000 in
set_option maxHeartbeats 4000000 in
theorem oJ0_isLatin1_aae02_1103 : Of (lkp bJ0_isLatin1_aae02_1103) 1 rJ0_isLatin1_aae02_1103 := by
  intro avs es r h
  obtain ⟨z, rfl, rfl, hp, rfl⟩ := h
  refine ⟨Nat.le_of_ble_eq_true rfl, ?_⟩
  unfold pJ0_isLatin1_aae02_1103 at hp
  refine Rn.go 7 (pc' := 18) (lv' := [(0, .ref 1103)]) (st' := [.int (1 : Int32)]) (es' := []) (c' := 0) (s' := 0) rfl ?_
  obtain rfl := Option.some.inj hp
  exact Rn.fin rfl rfl rfl
theorem qJ0_isLatin1_aae02_1103 : CtA yJ0_isLatin1_aae02 (.code yJ0_isLatin1_aae02 cJ0_isLatin1_aae02 1 (some .boolean)) 0 0 [] rJ0_isLatin1_aae02_1103 := CtA.of (by decide +kernel) (fun pc op h => kJ0_isLatin1_aae02_1103 _ (lkp_mem h)) oJ0_isLatin1_aae02_1103
/-! java/lang/StringLatin1.charAt([BI)C -/
def rJ1_charAt_3b067_1123 : List Value → List va_E → op_O → Prop := fun avs es r => ∃ (x1 : Int32) (z : Int32), avs = [.ref 1123, .int x1] ∧ es = [] ∧ pJ1_charAt_3b067_1123 x1 = some z ∧ r = (.inl (some (.int z)), [], 0, 0)
def bJ1_charAt_3b067_1123 : List (Nat × (op_T ⊕ op_R)) := [(0, .inl (o_iload 1 1)), (1, .inl (o_aload 2 0)), (2, .inl (o_blen 3)), (3, .inr (o_callS [] [] 6 2 rJ0_checkIndex_df160)), (6, .inl (o_aload 7 0)), (7, .inl (o_iload 8 1)), (8, .inl (o_bald 9)), (9, .inl (o_push 12 (.int (255)))), (12, .inl (o_ii 13 (fun x y => x &&& y))), (13, .inl (o_i2c 14)), (14, .inl (o_nret .char))]
set_option maxRecDepth 100000 in
set_option maxHeartbeats 4000000 in
theorem kJ1_charAt_3b067_1123 : ∀ q ∈ bJ1_charAt_3b067_1123, ok2 2 43 2 cJ1_charAt_3b067 yJ1_charAt_3b067.cls yJ1_charAt_3b067.name (some .char) (.code yJ1_charAt_3b067 cJ1_charAt_3b067 2 (some .char)) [] [] q.1 q.2 := (al_c (s_iload_n (k := 1) (by decide +kernel)) (al_c (s_aload_n (k := 0) (by decide +kernel)) (al_c (s_blen (by decide +kernel)) (al_c (s_callS (y := yJ0_checkIndex_df160) (bytes := cJ0_checkIndex_df160) (maxL := 2) (ret' := none) (fr' := 1) (lo' := 22) (n := 2) (ml := []) (mlc := []) qJ0_checkIndex_df160 w_851 w_852 w_18 w_853 ⟨by decide +kernel, by decide +kernel, by decide +kernel⟩ (by decide) (by decide) (by decide +kernel)) (al_c (s_aload_n (k := 0) (by decide +kernel)) (al_c (s_iload_n (k := 1) (by decide +kernel)) (al_c (s_bald (by decide +kernel)) (al_c (s_sipush (n := 255) (255) (by decide) (by decide +kernel)) (al_c (s_iand (by decide +kernel)) (al_c (s_i2c (by decide +kernel)) (al_c (s_nret rfl (by decide +kernel)) al_n)))))))))))
set_option maxRecDepth 100000 in
set_option maxHeartbeats 4000000 in
theorem oJ1_charAt_3b067_1123 : Of (lkp bJ1_charAt_3b067_1123) 2 rJ1_charAt_3b067_1123 := by
  intro avs es r h
  obtain ⟨x1, z, rfl, rfl, hp, rfl⟩ := h
  refine ⟨Nat.le_of_ble_eq_true rfl, ?_⟩
  unfold pJ1_charAt_3b067_1123 at hp
  refine Rn.go 3 (pc' := 3) (lv' := [(0, .ref 1123), (1, .int x1)]) (st' := [.int (nI (strN.getD (1123 - 1120) 0)), .int x1]) (es' := []) (c' := 0) (s' := 0) rfl ?_
  obtain ⟨z1, hz1, hp⟩ := ob_some hp
  refine Rn.rel (pc' := 6) (lv' := [(0, .ref 1123), (1, .int x1)]) (st' := []) (es' := []) (dc := 0) (ds := 0) rfl ⟨[.int x1, .int (nI (strN.getD (1123 - 1120) 0))], [], .inl none, [], 0, 0, rfl, rfl, Nat.le_of_ble_eq_true rfl, ⟨x1, (nI (strN.getD (1123 - 1120) 0)), z1, rfl, rfl, hz1, rfl⟩, rfl⟩ ?_
  refine Rn.go 2 (pc' := 8) (lv' := [(0, .ref 1123), (1, .int x1)]) (st' := [.int x1, .ref 1123]) (es' := []) (c' := 0) (s' := 0) rfl ?_
  by_cases h1 : (x1 < 0 ∨ (strN.getD (1123 - 1120) 0) ≤ x1.toNatClampNeg)
  · rw [if_pos h1] at hp; cases hp
  · rw [if_neg h1] at hp
    refine Rn.gd (pc' := 9) (lv' := [(0, .ref 1123), (1, .int x1)]) (st' := [.int ((strB.getD (1123 - 1120) []).getD x1.toNatClampNeg 0)]) (es' := []) rfl rfl h1 ?_
    refine Rn.go 3 (pc' := 14) (lv' := [(0, .ref 1123), (1, .int x1)]) (st' := [.int (((((strB.getD (1123 - 1120) []).getD x1.toNatClampNeg 0) &&& (255 : Int32))).toUInt32 % 65536).toInt32]) (es' := []) (c' := 0) (s' := 0) rfl ?_
    by_cases h2 : (narrow .char (.int (((((strB.getD (1123 - 1120) []).getD x1.toNatClampNeg 0) &&& (255 : Int32))).toUInt32 % 65536).toInt32) = .int (((((strB.getD (1123 - 1120) []).getD x1.toNatClampNeg 0) &&& (255 : Int32))).toUInt32 % 65536).toInt32)
    · rw [if_pos h2] at hp
      obtain rfl := Option.some.inj hp
      exact Rn.finz rfl rfl h2 rfl
    · rw [if_neg h2] at hp; cases hp
theorem qJ1_charAt_3b067_1123 : CtA yJ1_charAt_3b067 (.code yJ1_charAt_3b067 cJ1_charAt_3b067 2 (some .char)) 2 43 [] rJ1_charAt_3b067_1123 := CtA.of (by decide +kernel) (fun pc op h => kJ1_charAt_3b067_1123 _ (lkp_mem h)) oJ1_charAt_3b067_1123
/-! java/lang/String.charAt(I)C -/
def rJ0_charAt_5068e_1103 : List Value → List va_E → op_O → Prop := fun avs es r => ∃ (x1 : Int32) (z : Int32), avs = [.ref 1103, .int x1] ∧ es = [] ∧ pJ0_charAt_5068e_1103 x1 = some z ∧ r = (.inl (some (.int z)), [], 0, 0)
def bJ0_charAt_5068e_1103 : List (Nat × (op_T ⊕ op_R)) := [(0, .inl (o_aload 1 0)), (1, .inr (o_callX [] [] 4 0 rJ0_isLatin1_aae02_1103)), (4, .inl (o_ifeq 7 16)), (7, .inl (o_aload 8 0)), (8, .inl (o_sval 11)), (11, .inl (o_iload 12 1)), (12, .inr (o_callS [] [] 15 2 rJ1_charAt_3b067_1123)), (15, .inl (o_nret .char))]
set_option maxRecDepth 100000 in
set_option maxHeartbeats 4000000 in
theorem kJ0_charAt_5068e_1103 : ∀ q ∈ bJ0_charAt_5068e_1103, ok2 3 64 2 cJ0_charAt_5068e yJ0_charAt_5068e.cls yJ0_charAt_5068e.name (some .char) (.code yJ0_charAt_5068e cJ0_charAt_5068e 2 (some .char)) [] [] q.1 q.2 := (al_c (s_aload_n (k := 0) (by decide +kernel)) (al_c (s_callX (y := yJ0_isLatin1_aae02) (bytes := cJ0_isLatin1_aae02) (maxL := 1) (ret' := (some .boolean)) (fr' := 0) (lo' := 0) (n := 0) (ml := []) (mlc := []) qJ0_isLatin1_aae02_1103 w_844 w_845 w_846 w_18 w_847 ⟨by decide +kernel, by decide +kernel, by decide +kernel⟩ rfl (by decide) (by decide) (by decide +kernel)) (al_c (s_ifeq (off := 12) 16 (by decide) (by decide +kernel)) (al_c (s_aload_n (k := 0) (by decide +kernel)) (al_c (s_sval w_1758 (by decide +kernel)) (al_c (s_iload_n (k := 1) (by decide +kernel)) (al_c (s_callS (y := yJ1_charAt_3b067) (bytes := cJ1_charAt_3b067) (maxL := 2) (ret' := (some .char)) (fr' := 2) (lo' := 43) (n := 2) (ml := []) (mlc := []) qJ1_charAt_3b067_1123 w_848 w_849 w_19 w_850 ⟨by decide +kernel, by decide +kernel, by decide +kernel⟩ (by decide) (by decide) (by decide +kernel)) (al_c (s_nret rfl (by decide +kernel)) al_n))))))))
set_option maxRecDepth 100000 in
set_option maxHeartbeats 4000000 in
theorem oJ0_charAt_5068e_1103 : Of (lkp bJ0_charAt_5068e_1103) 2 rJ0_charAt_5068e_1103 := by
  intro avs es r h
  obtain ⟨x1, z, rfl, rfl, hp, rfl⟩ := h
  refine ⟨Nat.le_of_ble_eq_true rfl, ?_⟩
  unfold pJ0_charAt_5068e_1103 at hp
  refine Rn.go 1 (pc' := 1) (lv' := [(0, .ref 1103), (1, .int x1)]) (st' := [.ref 1103]) (es' := []) (c' := 0) (s' := 0) rfl ?_
  obtain ⟨z1, hz1, hp⟩ := ob_some hp
  refine Rn.rel (pc' := 4) (lv' := [(0, .ref 1103), (1, .int x1)]) (st' := [.int z1]) (es' := []) (dc := 0) (ds := 0) rfl ⟨1103, [], [], .inl (some (.int z1)), [], 0, 0, rfl, rfl, Nat.le_of_ble_eq_true rfl, rfl, ⟨z1, rfl, rfl, hz1, rfl⟩, rfl⟩ ?_
  refine Rn.br (P := z1 = 0) (pc1 := 16) (pc2 := 7) rfl rfl (fun h1 => ?_) (fun h1 => ?_)
  · rw [if_pos h1] at hp
    cases hp
  · rw [if_neg h1] at hp
    refine Rn.go 3 (pc' := 12) (lv' := [(0, .ref 1103), (1, .int x1)]) (st' := [.int x1, .ref 1123]) (es' := []) (c' := 0) (s' := 0) rfl ?_
    obtain ⟨z2, hz2, hp⟩ := ob_some hp
    refine Rn.rel (pc' := 15) (lv' := [(0, .ref 1103), (1, .int x1)]) (st' := [.int z2]) (es' := []) (dc := 0) (ds := 0) rfl ⟨[.ref 1123, .int x1], [], .inl (some (.int z2)), [], 0, 0, rfl, rfl, Nat.le_of_ble_eq_true rfl, ⟨x1, z2, rfl, rfl, hz2, rfl⟩, rfl⟩ ?_
    by_cases h2 : (narrow .char (.int z2) = .int z2)
    · rw [if_pos h2] at hp
      obtain rfl := Option.some.inj hp
      exact Rn.finz rfl rfl h2 rfl
    · rw [if_neg h2] at hp; cases hp
theorem qJ0_charAt_5068e_1103 : CtA yJ0_charAt_5068e (.code yJ0_charAt_5068e cJ0_charAt_5068e 2 (some .char)) 3 64 [] rJ0_charAt_5068e_1103 := CtA.of (by decide +kernel) (fun pc op h => kJ0_charAt_5068e_1103 _ (lkp_mem h)) oJ0_charAt_5068e_1103
/-! TelescopeNight$Reader.wordIs(Ljava/lang/String;)Z -/
def rX7_wordIs_1103 : List Value → List va_E → op_O → Prop := fun avs es r => ∃ (r_bytes : Nat → Int32) (r_values : Nat → Int32) (r_filled : Int32) (r_end : Int32) (r_at : Int32) (r_wordStart : Int32) (r_hasMoon : Int32) (r_hasSky : Int32) (r_error : Int32) (r_errorAt : Int32) (z : Int32), avs = [.ref 0, .ref 1103] ∧ es = (wX7_Reader r_bytes r_values r_filled r_end r_at r_wordStart r_hasMoon r_hasSky r_error r_errorAt) ∧ pX7_wordIs_1103 r_bytes r_at r_wordStart = some z ∧ r = (.inl (some (.int z)), (wX7_Reader r_bytes r_values r_filled r_end r_at r_wordStart r_hasMoon r_hasSky r_error r_errorAt), 0, 0)
def bX7_wordIs_1103 : List (Nat × (op_T ⊕ op_R)) := [(0, .inl (o_aload 1 0)), (1, .inl (o_get 4 7 4)), (4, .inl (o_aload 5 0)), (5, .inl (o_get 8 7 5)), (8, .inl (o_ii 9 (fun x y => x - y))), (9, .inl (o_aload 10 1)), (10, .inr (o_callX [] [] 13 0 rJ0_length_8abf5_1103)), (13, .inl (o_icmpeq 16 18)), (16, .inl (o_push 17 (.int (0)))), (17, .inl (o_zret)), (18, .inl (o_push 19 (.int (0)))), (19, .inl (nrm [0, 1, 2] (o_istore 20 2))), (20, .inl (o_iload 21 2)), (21, .inl (o_aload 22 1)), (22, .inr (o_callX [] [] 25 0 rJ0_length_8abf5_1103)), (25, .inl (o_icmpge 28 55)), (28, .inl (o_aload 29 0)), (29, .inl (o_get 32 7 0)), (32, .inl (o_aload 33 0)), (33, .inl (o_get 36 7 5)), (36, .inl (o_iload 37 2)), (37, .inl (o_ii 38 (fun x y => x + y))), (38, .inl (o_iald 39)), (39, .inl (o_aload 40 1)), (40, .inl (o_iload 41 2)), (41, .inr (o_callX [] [] 44 1 rJ0_charAt_5068e_1103)), (44, .inl (o_icmpeq 47 49)), (47, .inl (o_push 48 (.int (0)))), (48, .inl (o_zret)), (49, .inl (o_iinc 52 2 (1))), (52, .inl (nrm [0, 1, 2] (o_goto 20))), (55, .inl (o_push 56 (.int (1)))), (56, .inl (o_zret))]
set_option maxRecDepth 100000 in
set_option maxHeartbeats 4000000 in
theorem kX7_wordIs_1103 : ∀ q ∈ bX7_wordIs_1103, ok2 4 85 3 cX7_wordIs yX7_wordIs.cls yX7_wordIs.name (some .boolean) (.code yX7_wordIs cX7_wordIs 3 (some .boolean)) [] [] q.1 q.2 := (al_c (s_aload_n (k := 0) (by decide +kernel)) (al_c (s_get (C9 := RX7) (T9 := TX7) (N9 := 10) (ci := 7) (k := 4) iX7 rfl (by decide) w_220 (by decide +kernel)) (al_c (s_aload_n (k := 0) (by decide +kernel)) (al_c (s_get (C9 := RX7) (T9 := TX7) (N9 := 10) (ci := 7) (k := 5) iX7 rfl (by decide) w_221 (by decide +kernel)) (al_c (s_isub (by decide +kernel)) (al_c (s_aload_n (k := 1) (by decide +kernel)) (al_c (s_callX (y := yJ0_length_8abf5) (bytes := cJ0_length_8abf5) (maxL := 1) (ret' := (some .int)) (fr' := 1) (lo' := 20) (n := 0) (ml := []) (mlc := []) qJ0_length_8abf5_1103 w_830 w_831 w_832 w_18 w_833 ⟨by decide +kernel, by decide +kernel, by decide +kernel⟩ rfl (by decide) (by decide) (by decide +kernel)) (al_c (s_icmpeq (off := 5) 18 (by decide) (by decide +kernel)) (al_c (s_iconst (n := 0) (0) (by decide) (by decide +kernel)) (al_c (s_zret rfl (by decide +kernel)) (al_c (s_iconst (n := 0) (0) (by decide) (by decide +kernel)) (al_c (s_nrm [0, 1, 2] (s_istore_n (k := 2) rfl (by decide) (by decide +kernel))) (al_c (s_iload_n (k := 2) (by decide +kernel)) (al_c (s_aload_n (k := 1) (by decide +kernel)) (al_c (s_callX (y := yJ0_length_8abf5) (bytes := cJ0_length_8abf5) (maxL := 1) (ret' := (some .int)) (fr' := 1) (lo' := 20) (n := 0) (ml := []) (mlc := []) qJ0_length_8abf5_1103 w_830 w_831 w_832 w_18 w_833 ⟨by decide +kernel, by decide +kernel, by decide +kernel⟩ rfl (by decide) (by decide) (by decide +kernel)) (al_c (s_icmpge (off := 30) 55 (by decide) (by decide +kernel)) (al_c (s_aload_n (k := 0) (by decide +kernel)) (al_c (s_get (C9 := RX7) (T9 := TX7) (N9 := 10) (ci := 7) (k := 0) iX7 rfl (by decide) w_215 (by decide +kernel)) (al_c (s_aload_n (k := 0) (by decide +kernel)) (al_c (s_get (C9 := RX7) (T9 := TX7) (N9 := 10) (ci := 7) (k := 5) iX7 rfl (by decide) w_221 (by decide +kernel)) (al_c (s_iload_n (k := 2) (by decide +kernel)) (al_c (s_iadd (by decide +kernel)) (al_c (s_iald (by decide +kernel)) (al_c (s_aload_n (k := 1) (by decide +kernel)) (al_c (s_iload_n (k := 2) (by decide +kernel)) (al_c (s_callX (y := yJ0_charAt_5068e) (bytes := cJ0_charAt_5068e) (maxL := 2) (ret' := (some .char)) (fr' := 3) (lo' := 64) (n := 1) (ml := []) (mlc := []) qJ0_charAt_5068e_1103 w_840 w_841 w_842 w_18 w_843 ⟨by decide +kernel, by decide +kernel, by decide +kernel⟩ rfl (by decide) (by decide) (by decide +kernel)) (al_c (s_icmpeq (off := 5) 49 (by decide) (by decide +kernel)) (al_c (s_iconst (n := 0) (0) (by decide) (by decide +kernel)) (al_c (s_zret rfl (by decide +kernel)) (al_c (s_iinc (n := 1) (1) (by decide) (by decide) (by decide +kernel)) (al_c (s_nrm [0, 1, 2] (s_goto (off := -32) 20 (by decide) (by decide +kernel))) (al_c (s_iconst (n := 1) (1) (by decide) (by decide +kernel)) (al_c (s_zret rfl (by decide +kernel)) al_n)))))))))))))))))))))))))))))))))
set_option maxRecDepth 100000 in
set_option maxHeartbeats 4000000 in
theorem lrX7_wordIs_1103_20 (r_bytes : Nat → Int32) (r_values : Nat → Int32) (r_filled : Int32) (r_end : Int32) (r_at : Int32) (r_wordStart : Int32) (r_hasMoon : Int32) (r_hasSky : Int32) (r_error : Int32) (r_errorAt : Int32) : ∀ (fu : Nat) (l2 : Int32) (z : ((Int32) ⊕ (Int32))), lpX7_wordIs_1103_20 r_bytes r_wordStart fu l2 = some z → ∀ (c s : Nat) (r : op_O), (match z with | .inl ze => Rn (lkp bX7_wordIs_1103) 55 [(0, .ref 0), (1, .ref 1103), (2, .int ze)] [] (wX7_Reader r_bytes r_values r_filled r_end r_at r_wordStart r_hasMoon r_hasSky r_error r_errorAt) c s r | .inr zf => r = (.inl (some (.int zf)), (wX7_Reader r_bytes r_values r_filled r_end r_at r_wordStart r_hasMoon r_hasSky r_error r_errorAt), c + 0, s + 0)) → Rn (lkp bX7_wordIs_1103) 20 [(0, .ref 0), (1, .ref 1103), (2, .int l2)] [] (wX7_Reader r_bytes r_values r_filled r_end r_at r_wordStart r_hasMoon r_hasSky r_error r_errorAt) c s r := by
  intro fu
  induction fu with
  | zero => intro l2 z hp; cases hp
  | succ fu ih =>
      intro l2 z hp c s r k
      unfold lpX7_wordIs_1103_20 at hp
      refine Rn.go 2 (pc' := 22) (lv' := [(0, .ref 0), (1, .ref 1103), (2, .int l2)]) (st' := [.ref 1103, .int l2]) (es' := (wX7_Reader r_bytes r_values r_filled r_end r_at r_wordStart r_hasMoon r_hasSky r_error r_errorAt)) (c' := c) (s' := s) rfl ?_
      obtain ⟨z2, hz2, hp⟩ := ob_some hp
      refine Rn.rel (pc' := 25) (lv' := [(0, .ref 0), (1, .ref 1103), (2, .int l2)]) (st' := [.int z2, .int l2]) (es' := (wX7_Reader r_bytes r_values r_filled r_end r_at r_wordStart r_hasMoon r_hasSky r_error r_errorAt)) (dc := 0) (ds := 0) rfl ⟨1103, [], [], .inl (some (.int z2)), [], 0, 0, rfl, rfl, Nat.le_of_ble_eq_true rfl, rfl, ⟨z2, rfl, rfl, hz2, rfl⟩, rfl⟩ ?_
      refine Rn.br (P := z2 ≤ l2) (pc1 := 55) (pc2 := 28) rfl rfl (fun h2 => ?_) (fun h2 => ?_)
      · rw [if_pos h2] at hp
        obtain rfl := Option.some.inj hp
        exact k
      · rw [if_neg h2] at hp
        refine Rn.go 6 (pc' := 38) (lv' := [(0, .ref 0), (1, .ref 1103), (2, .int l2)]) (st' := [.int (r_wordStart + l2), .ref 1]) (es' := (wX7_Reader r_bytes r_values r_filled r_end r_at r_wordStart r_hasMoon r_hasSky r_error r_errorAt)) (c' := c) (s' := s) rfl ?_
        by_cases h3 : ((r_wordStart + l2) < 0 ∨ 500 ≤ ((r_wordStart + l2)).toNatClampNeg)
        · rw [if_pos h3] at hp; cases hp
        · rw [if_neg h3] at hp
          refine Rn.gd (pc' := 39) (lv' := [(0, .ref 0), (1, .ref 1103), (2, .int l2)]) (st' := [.int (r_bytes ((r_wordStart + l2)).toNatClampNeg)]) (es' := (wX7_Reader r_bytes r_values r_filled r_end r_at r_wordStart r_hasMoon r_hasSky r_error r_errorAt)) rfl rfl h3 ?_
          refine Rn.go 2 (pc' := 41) (lv' := [(0, .ref 0), (1, .ref 1103), (2, .int l2)]) (st' := [.int l2, .ref 1103, .int (r_bytes ((r_wordStart + l2)).toNatClampNeg)]) (es' := (wX7_Reader r_bytes r_values r_filled r_end r_at r_wordStart r_hasMoon r_hasSky r_error r_errorAt)) (c' := c) (s' := s) rfl ?_
          obtain ⟨z3, hz3, hp⟩ := ob_some hp
          refine Rn.rel (pc' := 44) (lv' := [(0, .ref 0), (1, .ref 1103), (2, .int l2)]) (st' := [.int z3, .int (r_bytes ((r_wordStart + l2)).toNatClampNeg)]) (es' := (wX7_Reader r_bytes r_values r_filled r_end r_at r_wordStart r_hasMoon r_hasSky r_error r_errorAt)) (dc := 0) (ds := 0) rfl ⟨1103, [.int l2], [], .inl (some (.int z3)), [], 0, 0, rfl, rfl, Nat.le_of_ble_eq_true rfl, rfl, ⟨l2, z3, rfl, rfl, hz3, rfl⟩, rfl⟩ ?_
          refine Rn.br (P := (r_bytes ((r_wordStart + l2)).toNatClampNeg) = z3) (pc1 := 49) (pc2 := 47) rfl rfl (fun h4 => ?_) (fun h4 => ?_)
          · rw [if_pos h4] at hp
            refine Rn.go 2 (pc' := 20) (lv' := [(0, .ref 0), (1, .ref 1103), (2, .int (l2 + (1 : Int32)))]) (st' := []) (es' := (wX7_Reader r_bytes r_values r_filled r_end r_at r_wordStart r_hasMoon r_hasSky r_error r_errorAt)) (c' := c) (s' := s) rfl ?_
            exact ih (l2 + (1 : Int32)) z hp c s r k
          · rw [if_neg h4] at hp
            refine Rn.go 1 (pc' := 48) (lv' := [(0, .ref 0), (1, .ref 1103), (2, .int l2)]) (st' := [.int (0 : Int32)]) (es' := (wX7_Reader r_bytes r_values r_filled r_end r_at r_wordStart r_hasMoon r_hasSky r_error r_errorAt)) (c' := c) (s' := s) rfl ?_
            obtain rfl := Option.some.inj hp
            exact Rn.fin rfl rfl k
set_option maxRecDepth 100000 in
set_option maxHeartbeats 4000000 in
theorem oX7_wordIs_1103 : Of (lkp bX7_wordIs_1103) 3 rX7_wordIs_1103 := by
  intro avs es r h
  obtain ⟨r_bytes, r_values, r_filled, r_end, r_at, r_wordStart, r_hasMoon, r_hasSky, r_error, r_errorAt, z, rfl, rfl, hp, rfl⟩ := h
  refine ⟨Nat.le_of_ble_eq_true rfl, ?_⟩
  unfold pX7_wordIs_1103 at hp
  refine Rn.go 6 (pc' := 10) (lv' := [(0, .ref 0), (1, .ref 1103)]) (st' := [.ref 1103, .int (r_at - r_wordStart)]) (es' := (wX7_Reader r_bytes r_values r_filled r_end r_at r_wordStart r_hasMoon r_hasSky r_error r_errorAt)) (c' := 0) (s' := 0) rfl ?_
  obtain ⟨z1, hz1, hp⟩ := ob_some hp
  refine Rn.rel (pc' := 13) (lv' := [(0, .ref 0), (1, .ref 1103)]) (st' := [.int z1, .int (r_at - r_wordStart)]) (es' := (wX7_Reader r_bytes r_values r_filled r_end r_at r_wordStart r_hasMoon r_hasSky r_error r_errorAt)) (dc := 0) (ds := 0) rfl ⟨1103, [], [], .inl (some (.int z1)), [], 0, 0, rfl, rfl, Nat.le_of_ble_eq_true rfl, rfl, ⟨z1, rfl, rfl, hz1, rfl⟩, rfl⟩ ?_
  refine Rn.br (P := (r_at - r_wordStart) = z1) (pc1 := 18) (pc2 := 16) rfl rfl (fun h1 => ?_) (fun h1 => ?_)
  · rw [if_pos h1] at hp
    refine Rn.go 2 (pc' := 20) (lv' := [(0, .ref 0), (1, .ref 1103), (2, .int (0 : Int32))]) (st' := []) (es' := (wX7_Reader r_bytes r_values r_filled r_end r_at r_wordStart r_hasMoon r_hasSky r_error r_errorAt)) (c' := 0) (s' := 0) rfl ?_
    obtain ⟨z4, hz4, hp⟩ := ob_some hp
    rcases z4 with z4e | z4f
    · dsimp only at hp
      refine lrX7_wordIs_1103_20 r_bytes r_values r_filled r_end r_at r_wordStart r_hasMoon r_hasSky r_error r_errorAt _ (0 : Int32) _ hz4 _ _ _ ?_
      refine Rn.go 1 (pc' := 56) (lv' := [(0, .ref 0), (1, .ref 1103), (2, .int z4e)]) (st' := [.int (1 : Int32)]) (es' := (wX7_Reader r_bytes r_values r_filled r_end r_at r_wordStart r_hasMoon r_hasSky r_error r_errorAt)) (c' := 0) (s' := 0) rfl ?_
      obtain rfl := Option.some.inj hp
      exact Rn.fin rfl rfl rfl
    · obtain rfl := Option.some.inj hp
      exact lrX7_wordIs_1103_20 r_bytes r_values r_filled r_end r_at r_wordStart r_hasMoon r_hasSky r_error r_errorAt _ (0 : Int32) _ hz4 _ _ _ rfl
  · rw [if_neg h1] at hp
    refine Rn.go 1 (pc' := 17) (lv' := [(0, .ref 0), (1, .ref 1103)]) (st' := [.int (0 : Int32)]) (es' := (wX7_Reader r_bytes r_values r_filled r_end r_at r_wordStart r_hasMoon r_hasSky r_error r_errorAt)) (c' := 0) (s' := 0) rfl ?_
    obtain rfl := Option.some.inj hp
    exact Rn.fin rfl rfl rfl
theorem qX7_wordIs_1103 : CtA yX7_wordIs (.code yX7_wordIs cX7_wordIs 3 (some .boolean)) 4 85 [] rX7_wordIs_1103 := CtA.of (by decide +kernel) (fun pc op h => kX7_wordIs_1103 _ (lkp_mem h)) oX7_wordIs_1103
