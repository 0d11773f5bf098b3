/-! TelescopeNight$Outlook.<init>(LTelescopeNight$Night;)V -/
def rX3_init : List Value → List va_E → op_O → Prop := fun avs es r => ∃ (n_slots : Int32) (n_targets : Int32) (n_teams : Int32) (n_moon : Nat → Int32) (n_percents : Nat → Int32) (n_numbers : Nat → Int32) (n_seen : Nat → Int32) (n_odds : Nat → Int32) (z : Nat × Nat), avs = [.ref 0, .ref 1] ∧ es = (wX3_init n_slots n_targets n_teams n_moon n_percents n_numbers n_seen n_odds) ∧ pX3_init = some z ∧ r = (.inl none, [kO 3 [.ref 1, .ref 7, .ref 8], kO 2 [.int n_slots, .int n_targets, .int n_teams, .ref 2, .ref 3, .ref 4, .ref 5, .ref 6], kI 6 n_moon, kI 3 n_percents, kI 54 n_numbers, kI 12 n_seen, kI 12 n_odds, kL 0 (fun _ => 0), kL 0 (fun _ => 0)], z.1, z.2)
def bX3_init : List (Nat × (op_T ⊕ op_R)) := [(0, .inl (o_aload 1 0)), (1, .inl (o_objInit 4)), (4, .inl (o_aload 5 0)), (5, .inl (o_push 6 (.int (0)))), (6, .inl (o_newa 8 1)), (8, .inl (o_put 11 3 1 (.array .long))), (11, .inl (o_aload 12 0)), (12, .inl (o_push 13 (.int (0)))), (13, .inl (o_newa 15 1)), (15, .inl (o_put 18 3 2 (.array .long))), (18, .inl (o_aload 19 0)), (19, .inl (o_aload 20 1)), (20, .inl (o_put 23 3 0 (.object RX2))), (23, .inl (o_vret))]
set_option maxRecDepth 100000 in
set_option maxHeartbeats 4000000 in
theorem kX3_init : ∀ q ∈ bX3_init, ok2 1 20 2 cX3_init yX3_init.cls yX3_init.name none (.code yX3_init cX3_init 2 none) [] [] q.1 q.2 := (al_c (s_aload_n (k := 0) (by decide +kernel)) (al_c (s_objInit w_338 w_31 w_32 (by decide) (by decide) (by decide +kernel)) (al_c (s_aload_n (k := 0) (by decide +kernel)) (al_c (s_iconst (n := 0) (0) (by decide) (by decide +kernel)) (al_c (s_newa (at9 := .long) (Or.inr (Or.inl ⟨rfl, rfl⟩)) w_326 (by decide +kernel)) (al_c (s_put (C9 := RX3) (T9 := TX3) (N9 := 3) (ci := 3) (k := 1) iX3 rfl (by decide) w_340 tyX3 tyX3_ok nmX3 rfl (by decide +kernel)) (al_c (s_aload_n (k := 0) (by decide +kernel)) (al_c (s_iconst (n := 0) (0) (by decide) (by decide +kernel)) (al_c (s_newa (at9 := .long) (Or.inr (Or.inl ⟨rfl, rfl⟩)) w_326 (by decide +kernel)) (al_c (s_put (C9 := RX3) (T9 := TX3) (N9 := 3) (ci := 3) (k := 2) iX3 rfl (by decide) w_341 tyX3 tyX3_ok nmX3 rfl (by decide +kernel)) (al_c (s_aload_n (k := 0) (by decide +kernel)) (al_c (s_aload_n (k := 1) (by decide +kernel)) (al_c (s_putF (C9 := RX3) (T9 := TX3) (N9 := 3) (ci := 3) (k := 0) iX3 rfl (by decide) w_339 tyX3 tyX3_ok nmX3 rfl rfl rfl (by decide +kernel)) (al_c (s_vret rfl (by decide +kernel)) al_n))))))))))))))
set_option maxRecDepth 100000 in
set_option maxHeartbeats 4000000 in
theorem oX3_init : Of (lkp bX3_init) 2 rX3_init := by
  intro avs es r h
  obtain ⟨n_slots, n_targets, n_teams, n_moon, n_percents, n_numbers, n_seen, n_odds, z, rfl, rfl, hp, rfl⟩ := h
  refine ⟨Nat.le_of_ble_eq_true rfl, ?_⟩
  unfold pX3_init at hp
  refine Rn.go 5 (pc' := 8) (lv' := [(0, .ref 0), (1, .ref 1)]) (st' := [.ref 7, .ref 0]) (es' := [kO 3 [.null, .null, .null], kO 2 [.int n_slots, .int n_targets, .int n_teams, .ref 2, .ref 3, .ref 4, .ref 5, .ref 6], kI 6 n_moon, kI 3 n_percents, kI 54 n_numbers, kI 12 n_seen, kI 12 n_odds, kL 0 (fun _ => 0)]) (c' := 1) (s' := 0) rfl ?_
  refine Rn.go 4 (pc' := 15) (lv' := [(0, .ref 0), (1, .ref 1)]) (st' := [.ref 8, .ref 0]) (es' := [kO 3 [.null, .ref 7, .null], kO 2 [.int n_slots, .int n_targets, .int n_teams, .ref 2, .ref 3, .ref 4, .ref 5, .ref 6], kI 6 n_moon, kI 3 n_percents, kI 54 n_numbers, kI 12 n_seen, kI 12 n_odds, kL 0 (fun _ => 0), kL 0 (fun _ => 0)]) (c' := 2) (s' := 0) rfl ?_
  refine Rn.go 4 (pc' := 23) (lv' := [(0, .ref 0), (1, .ref 1)]) (st' := []) (es' := [kO 3 [.ref 1, .ref 7, .ref 8], kO 2 [.int n_slots, .int n_targets, .int n_teams, .ref 2, .ref 3, .ref 4, .ref 5, .ref 6], kI 6 n_moon, kI 3 n_percents, kI 54 n_numbers, kI 12 n_seen, kI 12 n_odds, kL 0 (fun _ => 0), kL 0 (fun _ => 0)]) (c' := 2) (s' := 0) rfl ?_
  obtain rfl := Option.some.inj hp
  exact Rn.fin rfl rfl rfl
theorem qX3_init : CtA yX3_init (.code yX3_init cX3_init 2 none) 1 20 [] rX3_init := CtA.of (by decide +kernel) (fun pc op h => kX3_init _ (lkp_mem h)) oX3_init
/-! TelescopeNight$Outlook.makeRoom(I)V -/
def rX3_makeRoom : List Value → List va_E → op_O → Prop := fun avs es r => ∃ (x1 : Int32) (o_clearN : Nat) (o_clear : Nat → Int64) (o_cloudyN : Nat) (o_cloudy : Nat → Int64) (n_slots : Int32) (n_targets : Int32) (n_teams : Int32) (n_moon : Nat → Int32) (n_percents : Nat → Int32) (n_numbers : Nat → Int32) (n_seen : Nat → Int32) (n_odds : Nat → Int32) (z : Nat × (Nat → Int64) × Nat × (Nat → Int64) × Nat × Nat), avs = [.ref 0, .int x1] ∧ es = (wX3_Outlook o_clearN o_clear o_cloudyN o_cloudy n_slots n_targets n_teams n_moon n_percents n_numbers n_seen n_odds) ∧ pX3_makeRoom x1 o_clearN o_clear o_cloudyN o_cloudy = some z ∧ r = (.inl none, (wX3_Outlook z.1 z.2.1 z.2.2.1 z.2.2.2.1 n_slots n_targets n_teams n_moon n_percents n_numbers n_seen n_odds), z.2.2.2.2.1, z.2.2.2.2.2)
def bX3_makeRoom : List (Nat × (op_T ⊕ op_R)) := [(0, .inl (o_aload 1 0)), (1, .inl (o_get 4 3 1)), (4, .inl (o_alen 5)), (5, .inl (o_iload 6 1)), (6, .inl (o_icmpge 9 23)), (9, .inl (o_aload 10 0)), (10, .inl (o_iload 11 1)), (11, .inl (o_newa 13 1)), (13, .inl (o_putM [7, 9, 8] 16 3 1)), (16, .inl (o_aload 17 0)), (17, .inl (o_iload 18 1)), (18, .inl (o_newa 20 1)), (20, .inl (o_putM [7, 9, 8] 23 3 2)), (23, .inl (o_vret))]
set_option maxRecDepth 100000 in
set_option maxHeartbeats 4000000 in
theorem kX3_makeRoom : ∀ q ∈ bX3_makeRoom, ok2 0 0 2 cX3_makeRoom yX3_makeRoom.cls yX3_makeRoom.name none (.code yX3_makeRoom cX3_makeRoom 2 none) [] [7, 9, 8] q.1 q.2 := (al_c (s_aload_n (k := 0) (by decide +kernel)) (al_c (s_get (C9 := RX3) (T9 := TX3) (N9 := 3) (ci := 3) (k := 1) iX3 rfl (by decide) w_340 (by decide +kernel)) (al_c (s_alen (by decide +kernel)) (al_c (s_iload_n (k := 1) (by decide +kernel)) (al_c (s_icmpge (off := 17) 23 (by decide) (by decide +kernel)) (al_c (s_aload_n (k := 0) (by decide +kernel)) (al_c (s_iload_n (k := 1) (by decide +kernel)) (al_c (s_newa (at9 := .long) (Or.inr (Or.inl ⟨rfl, rfl⟩)) w_326 (by decide +kernel)) (al_c (s_putM (C9 := RX3) (T9 := TX3) (N9 := 3) (ci := 3) (k := 1) iX3 rfl (by decide) w_340 tyX3 tyX3_ok nmX3 rfl (ta := .long) rfl (by decide +kernel)) (al_c (s_aload_n (k := 0) (by decide +kernel)) (al_c (s_iload_n (k := 1) (by decide +kernel)) (al_c (s_newa (at9 := .long) (Or.inr (Or.inl ⟨rfl, rfl⟩)) w_326 (by decide +kernel)) (al_c (s_putM (C9 := RX3) (T9 := TX3) (N9 := 3) (ci := 3) (k := 2) iX3 rfl (by decide) w_341 tyX3 tyX3_ok nmX3 rfl (ta := .long) rfl (by decide +kernel)) (al_c (s_vret rfl (by decide +kernel)) al_n))))))))))))))
set_option maxRecDepth 100000 in
set_option maxHeartbeats 4000000 in
theorem oX3_makeRoom : Of (lkp bX3_makeRoom) 2 rX3_makeRoom := by
  intro avs es r h
  obtain ⟨x1, o_clearN, o_clear, o_cloudyN, o_cloudy, n_slots, n_targets, n_teams, n_moon, n_percents, n_numbers, n_seen, n_odds, z, rfl, rfl, hp, rfl⟩ := h
  refine ⟨Nat.le_of_ble_eq_true rfl, ?_⟩
  unfold pX3_makeRoom at hp
  refine Rn.go 4 (pc' := 6) (lv' := [(0, .ref 0), (1, .int x1)]) (st' := [.int x1, .int (nI o_clearN)]) (es' := (wX3_Outlook o_clearN o_clear o_cloudyN o_cloudy n_slots n_targets n_teams n_moon n_percents n_numbers n_seen n_odds)) (c' := 0) (s' := 0) rfl ?_
  refine Rn.br (P := x1 ≤ (nI o_clearN)) (pc1 := 23) (pc2 := 9) rfl rfl (fun h1 => ?_) (fun h1 => ?_)
  · rw [if_pos h1] at hp
    obtain rfl := Option.some.inj hp
    exact Rn.fin rfl rfl rfl
  · rw [if_neg h1] at hp
    refine Rn.go 2 (pc' := 11) (lv' := [(0, .ref 0), (1, .int x1)]) (st' := [.int x1, .ref 0]) (es' := (wX3_Outlook o_clearN o_clear o_cloudyN o_cloudy n_slots n_targets n_teams n_moon n_percents n_numbers n_seen n_odds)) (c' := 0) (s' := 0) rfl ?_
    by_cases h2 : (x1 < 0 ∨ 60000000 < x1.toNatClampNeg)
    · rw [if_pos h2] at hp; cases hp
    · rw [if_neg h2] at hp
      refine Rn.gd (pc' := 13) (lv' := [(0, .ref 0), (1, .int x1)]) (st' := [.ref 9, .ref 0]) (es' := [kO 3 [.ref 1, .ref 7, .ref 8], kO 2 [.int n_slots, .int n_targets, .int n_teams, .ref 2, .ref 3, .ref 4, .ref 5, .ref 6], kI 6 n_moon, kI 3 n_percents, kI 54 n_numbers, kI 12 n_seen, kI 12 n_odds, kL o_clearN o_clear, kL o_cloudyN o_cloudy, kL x1.toNatClampNeg (fun _ => 0)]) rfl rfl h2 ?_
      refine Rn.go 3 (pc' := 18) (lv' := [(0, .ref 0), (1, .int x1)]) (st' := [.int x1, .ref 0]) (es' := (wX3_Outlook x1.toNatClampNeg (fun _ => 0) o_cloudyN o_cloudy n_slots n_targets n_teams n_moon n_percents n_numbers n_seen n_odds)) (c' := 1) (s' := (0 + x1.toNatClampNeg)) rfl ?_
      refine Rn.gd (pc' := 20) (lv' := [(0, .ref 0), (1, .int x1)]) (st' := [.ref 9, .ref 0]) (es' := [kO 3 [.ref 1, .ref 7, .ref 8], kO 2 [.int n_slots, .int n_targets, .int n_teams, .ref 2, .ref 3, .ref 4, .ref 5, .ref 6], kI 6 n_moon, kI 3 n_percents, kI 54 n_numbers, kI 12 n_seen, kI 12 n_odds, kL x1.toNatClampNeg (fun _ => 0), kL o_cloudyN o_cloudy, kL x1.toNatClampNeg (fun _ => 0)]) rfl rfl h2 ?_
      refine Rn.go 1 (pc' := 23) (lv' := [(0, .ref 0), (1, .int x1)]) (st' := []) (es' := (wX3_Outlook x1.toNatClampNeg (fun _ => 0) x1.toNatClampNeg (fun _ => 0) n_slots n_targets n_teams n_moon n_percents n_numbers n_seen n_odds)) (c' := 2) (s' := ((0 + x1.toNatClampNeg) + x1.toNatClampNeg)) rfl ?_
      obtain rfl := Option.some.inj hp
      exact Rn.fin rfl rfl rfl
theorem qX3_makeRoom : CtA yX3_makeRoom (.code yX3_makeRoom cX3_makeRoom 2 none) 0 0 [7, 9, 8] rX3_makeRoom := CtA.of (by decide +kernel) (fun pc op h => kX3_makeRoom _ (lkp_mem h)) oX3_makeRoom
/-! TelescopeNight$Outlook.put(IJJ)V -/
def rX3_put : List Value → List va_E → op_O → Prop := fun avs es r => ∃ (x1 : Int32) (x2 : Int64) (x3 : Int64) (o_clearN : Nat) (o_clear : Nat → Int64) (o_cloudyN : Nat) (o_cloudy : Nat → Int64) (n_slots : Int32) (n_targets : Int32) (n_teams : Int32) (n_moon : Nat → Int32) (n_percents : Nat → Int32) (n_numbers : Nat → Int32) (n_seen : Nat → Int32) (n_odds : Nat → Int32) (z : (Nat → Int64) × (Nat → Int64)), avs = [.ref 0, .int x1, .long x2, .long x3] ∧ es = (wX3_Outlook o_clearN o_clear o_cloudyN o_cloudy n_slots n_targets n_teams n_moon n_percents n_numbers n_seen n_odds) ∧ pX3_put x1 x2 x3 o_clearN o_clear o_cloudyN o_cloudy = some z ∧ r = (.inl none, (wX3_Outlook o_clearN z.1 o_cloudyN z.2 n_slots n_targets n_teams n_moon n_percents n_numbers n_seen n_odds), 0, 0)
def bX3_put : List (Nat × (op_T ⊕ op_R)) := [(0, .inl (o_aload 1 0)), (1, .inl (o_get 4 3 1)), (4, .inl (o_iload 5 1)), (5, .inl (o_lload 6 2)), (6, .inl (o_last 7)), (7, .inl (o_aload 8 0)), (8, .inl (o_get 11 3 2)), (11, .inl (o_iload 12 1)), (12, .inl (o_lload 14 4)), (14, .inl (o_last 15)), (15, .inl (o_vret))]
set_option maxRecDepth 100000 in
set_option maxHeartbeats 4000000 in
theorem kX3_put : ∀ q ∈ bX3_put, ok2 0 0 6 cX3_put yX3_put.cls yX3_put.name none (.code yX3_put cX3_put 6 none) [] [] q.1 q.2 := (al_c (s_aload_n (k := 0) (by decide +kernel)) (al_c (s_get (C9 := RX3) (T9 := TX3) (N9 := 3) (ci := 3) (k := 1) iX3 rfl (by decide) w_340 (by decide +kernel)) (al_c (s_iload_n (k := 1) (by decide +kernel)) (al_c (s_lload_n (k := 2) (by decide +kernel)) (al_c (s_last (by decide +kernel)) (al_c (s_aload_n (k := 0) (by decide +kernel)) (al_c (s_get (C9 := RX3) (T9 := TX3) (N9 := 3) (ci := 3) (k := 2) iX3 rfl (by decide) w_341 (by decide +kernel)) (al_c (s_iload_n (k := 1) (by decide +kernel)) (al_c (s_lload (by decide +kernel)) (al_c (s_last (by decide +kernel)) (al_c (s_vret rfl (by decide +kernel)) al_n)))))))))))
set_option maxRecDepth 100000 in
set_option maxHeartbeats 4000000 in
theorem oX3_put : Of (lkp bX3_put) 6 rX3_put := by
  intro avs es r h
  obtain ⟨x1, x2, x3, o_clearN, o_clear, o_cloudyN, o_cloudy, n_slots, n_targets, n_teams, n_moon, n_percents, n_numbers, n_seen, n_odds, z, rfl, rfl, hp, rfl⟩ := h
  refine ⟨Nat.le_of_ble_eq_true rfl, ?_⟩
  unfold pX3_put at hp
  refine Rn.go 4 (pc' := 6) (lv' := [(0, .ref 0), (1, .int x1), (2, .long x2), (4, .long x3)]) (st' := [.long x2, .int x1, .ref 7]) (es' := (wX3_Outlook o_clearN o_clear o_cloudyN o_cloudy n_slots n_targets n_teams n_moon n_percents n_numbers n_seen n_odds)) (c' := 0) (s' := 0) rfl ?_
  by_cases h1 : (x1 < 0 ∨ o_clearN ≤ x1.toNatClampNeg)
  · rw [if_pos h1] at hp; cases hp
  · rw [if_neg h1] at hp
    refine Rn.gd (pc' := 7) (lv' := [(0, .ref 0), (1, .int x1), (2, .long x2), (4, .long x3)]) (st' := []) (es' := (wX3_Outlook o_clearN (vp_updL o_clear x1.toNatClampNeg x2) o_cloudyN o_cloudy n_slots n_targets n_teams n_moon n_percents n_numbers n_seen n_odds)) rfl rfl h1 ?_
    refine Rn.go 4 (pc' := 14) (lv' := [(0, .ref 0), (1, .int x1), (2, .long x2), (4, .long x3)]) (st' := [.long x3, .int x1, .ref 8]) (es' := (wX3_Outlook o_clearN (vp_updL o_clear x1.toNatClampNeg x2) o_cloudyN o_cloudy n_slots n_targets n_teams n_moon n_percents n_numbers n_seen n_odds)) (c' := 0) (s' := 0) rfl ?_
    by_cases h2 : (x1 < 0 ∨ o_cloudyN ≤ x1.toNatClampNeg)
    · rw [if_pos h2] at hp; cases hp
    · rw [if_neg h2] at hp
      refine Rn.gd (pc' := 15) (lv' := [(0, .ref 0), (1, .int x1), (2, .long x2), (4, .long x3)]) (st' := []) (es' := (wX3_Outlook o_clearN (vp_updL o_clear x1.toNatClampNeg x2) o_cloudyN (vp_updL o_cloudy x1.toNatClampNeg x3) n_slots n_targets n_teams n_moon n_percents n_numbers n_seen n_odds)) rfl rfl h2 ?_
      obtain rfl := Option.some.inj hp
      exact Rn.fin rfl rfl rfl
theorem qX3_put : CtA yX3_put (.code yX3_put cX3_put 6 none) 0 0 [] rX3_put := CtA.of (by decide +kernel) (fun pc op h => kX3_put _ (lkp_mem h)) oX3_put
/-! TelescopeNight.mixed(IJJ)J -/
def rX8_mixed : List Value → List va_E → op_O → Prop := fun avs es r => ∃ (x0 : Int32) (x1 : Int64) (x2 : Int64) (z : Int64), avs = [.int x0, .long x1, .long x2] ∧ es = [] ∧ pX8_mixed x0 x1 x2 = some z ∧ r = (.inl (some (.long z)), [], 0, 0)
def bX8_mixed : List (Nat × (op_T ⊕ op_R)) := [(0, .inl (o_iload 1 0)), (1, .inl (o_i2l 2)), (2, .inl (o_lload 3 1)), (3, .inl (o_ll 4 (fun x y => x * y))), (4, .inl (o_push 6 (.int (100)))), (6, .inl (o_iload 7 0)), (7, .inl (o_ii 8 (fun x y => x - y))), (8, .inl (o_i2l 9)), (9, .inl (o_lload 10 3)), (10, .inl (o_ll 11 (fun x y => x * y))), (11, .inl (o_ll 12 (fun x y => x + y))), (12, .inl (o_push 15 (.long (100)))), (15, .inl (o_ldiv 16)), (16, .inl (o_lret))]
set_option maxRecDepth 100000 in
set_option maxHeartbeats 4000000 in
theorem kX8_mixed : ∀ q ∈ bX8_mixed, ok2 0 0 5 cX8_mixed yX8_mixed.cls yX8_mixed.name (some .long) (.code yX8_mixed cX8_mixed 5 (some .long)) [] [] q.1 q.2 := (al_c (s_iload_n (k := 0) (by decide +kernel)) (al_c (s_i2l (by decide +kernel)) (al_c (s_lload_n (k := 1) (by decide +kernel)) (al_c (s_lmul (by decide +kernel)) (al_c (s_bipush (n := 100) (100) (by decide) (by decide +kernel)) (al_c (s_iload_n (k := 0) (by decide +kernel)) (al_c (s_isub (by decide +kernel)) (al_c (s_i2l (by decide +kernel)) (al_c (s_lload_n (k := 3) (by decide +kernel)) (al_c (s_lmul (by decide +kernel)) (al_c (s_ladd (by decide +kernel)) (al_c (s_ldc2 (100) w_648 (by decide +kernel)) (al_c (s_ldiv (by decide +kernel)) (al_c (s_lret rfl (by decide +kernel)) al_n))))))))))))))
set_option maxRecDepth 100000 in
set_option maxHeartbeats 4000000 in
theorem oX8_mixed : Of (lkp bX8_mixed) 5 rX8_mixed := by
  intro avs es r h
  obtain ⟨x0, x1, x2, z, rfl, rfl, hp, rfl⟩ := h
  refine ⟨Nat.le_of_ble_eq_true rfl, ?_⟩
  unfold pX8_mixed at hp
  refine Rn.go 13 (pc' := 16) (lv' := [(0, .int x0), (1, .long x1), (3, .long x2)]) (st' := [.long (((x0.toInt64 * x1) + ((((100 : Int32) - x0)).toInt64 * x2)) / (100 : Int64))]) (es' := []) (c' := 0) (s' := 0) rfl ?_
  obtain rfl := Option.some.inj hp
  exact Rn.fin rfl rfl rfl
theorem qX8_mixed : CtA yX8_mixed (.code yX8_mixed cX8_mixed 5 (some .long)) 0 0 [] rX8_mixed := CtA.of (by decide +kernel) (fun pc op h => kX8_mixed _ (lkp_mem h)) oX8_mixed
/-! TelescopeNight$Outlook.behindClear(I)J -/
def rX3_behindClear : List Value → List va_E → op_O → Prop := fun avs es r => ∃ (x1 : Int32) (o_clearN : Nat) (o_clear : Nat → Int64) (o_cloudyN : Nat) (o_cloudy : Nat → Int64) (n_slots : Int32) (n_targets : Int32) (n_teams : Int32) (n_moon : Nat → Int32) (n_percents : Nat → Int32) (n_numbers : Nat → Int32) (n_seen : Nat → Int32) (n_odds : Nat → Int32) (z : Int64), avs = [.ref 0, .int x1] ∧ es = (wX3_Outlook o_clearN o_clear o_cloudyN o_cloudy n_slots n_targets n_teams n_moon n_percents n_numbers n_seen n_odds) ∧ pX3_behindClear x1 o_clearN o_clear o_cloudyN o_cloudy n_percents = some z ∧ r = (.inl (some (.long z)), (wX3_Outlook o_clearN o_clear o_cloudyN o_cloudy n_slots n_targets n_teams n_moon n_percents n_numbers n_seen n_odds), 0, 0)
def bX3_behindClear : List (Nat × (op_T ⊕ op_R)) := [(0, .inl (o_aload 1 0)), (1, .inl (o_get 4 3 0)), (4, .inl (o_get 7 2 4)), (7, .inl (o_push 8 (.int (1)))), (8, .inl (o_iald 9)), (9, .inl (o_aload 10 0)), (10, .inl (o_get 13 3 1)), (13, .inl (o_iload 14 1)), (14, .inl (o_lald 15)), (15, .inl (o_aload 16 0)), (16, .inl (o_get 19 3 2)), (19, .inl (o_iload 20 1)), (20, .inl (o_lald 21)), (21, .inr (o_callS [] [] 24 3 rX8_mixed)), (24, .inl (o_lret))]
set_option maxRecDepth 100000 in
set_option maxHeartbeats 4000000 in
theorem kX3_behindClear : ∀ q ∈ bX3_behindClear, ok2 1 24 2 cX3_behindClear yX3_behindClear.cls yX3_behindClear.name (some .long) (.code yX3_behindClear cX3_behindClear 2 (some .long)) [] [] q.1 q.2 := (al_c (s_aload_n (k := 0) (by decide +kernel)) (al_c (s_get (C9 := RX3) (T9 := TX3) (N9 := 3) (ci := 3) (k := 0) iX3 rfl (by decide) w_339 (by decide +kernel)) (al_c (s_get (C9 := RX2) (T9 := TX2) (N9 := 8) (ci := 2) (k := 4) iX2 rfl (by decide) w_98 (by decide +kernel)) (al_c (s_iconst (n := 1) (1) (by decide) (by decide +kernel)) (al_c (s_iald (by decide +kernel)) (al_c (s_aload_n (k := 0) (by decide +kernel)) (al_c (s_get (C9 := RX3) (T9 := TX3) (N9 := 3) (ci := 3) (k := 1) iX3 rfl (by decide) w_340 (by decide +kernel)) (al_c (s_iload_n (k := 1) (by decide +kernel)) (al_c (s_lald (by decide +kernel)) (al_c (s_aload_n (k := 0) (by decide +kernel)) (al_c (s_get (C9 := RX3) (T9 := TX3) (N9 := 3) (ci := 3) (k := 2) iX3 rfl (by decide) w_341 (by decide +kernel)) (al_c (s_iload_n (k := 1) (by decide +kernel)) (al_c (s_lald (by decide +kernel)) (al_c (s_callSN (host := "TelescopeNight") (index := 26) (y := yX8_mixed) (bytes := cX8_mixed) (maxL := 5) (ret' := (some .long)) (fr' := 0) (lo' := 0) (n := 3) (ml := []) (mlc := []) qX8_mixed (by decide +kernel) w_646 w_1 w_647 ⟨by decide +kernel, by decide +kernel, by decide +kernel⟩ (by decide) (by decide) (by decide +kernel)) (al_c (s_lret rfl (by decide +kernel)) al_n)))))))))))))))
set_option maxRecDepth 100000 in
set_option maxHeartbeats 4000000 in
theorem oX3_behindClear : Of (lkp bX3_behindClear) 2 rX3_behindClear := by
  intro avs es r h
  obtain ⟨x1, o_clearN, o_clear, o_cloudyN, o_cloudy, n_slots, n_targets, n_teams, n_moon, n_percents, n_numbers, n_seen, n_odds, z, rfl, rfl, hp, rfl⟩ := h
  refine ⟨Nat.le_of_ble_eq_true rfl, ?_⟩
  unfold pX3_behindClear at hp
  refine Rn.go 5 (pc' := 9) (lv' := [(0, .ref 0), (1, .int x1)]) (st' := [.int (n_percents 1)]) (es' := (wX3_Outlook o_clearN o_clear o_cloudyN o_cloudy n_slots n_targets n_teams n_moon n_percents n_numbers n_seen n_odds)) (c' := 0) (s' := 0) rfl ?_
  refine Rn.go 3 (pc' := 14) (lv' := [(0, .ref 0), (1, .int x1)]) (st' := [.int x1, .ref 7, .int (n_percents 1)]) (es' := (wX3_Outlook o_clearN o_clear o_cloudyN o_cloudy n_slots n_targets n_teams n_moon n_percents n_numbers n_seen n_odds)) (c' := 0) (s' := 0) rfl ?_
  by_cases h1 : (x1 < 0 ∨ o_clearN ≤ x1.toNatClampNeg)
  · rw [if_pos h1] at hp; cases hp
  · rw [if_neg h1] at hp
    refine Rn.gd (pc' := 15) (lv' := [(0, .ref 0), (1, .int x1)]) (st' := [.long (o_clear x1.toNatClampNeg), .int (n_percents 1)]) (es' := (wX3_Outlook o_clearN o_clear o_cloudyN o_cloudy n_slots n_targets n_teams n_moon n_percents n_numbers n_seen n_odds)) rfl rfl h1 ?_
    refine Rn.go 3 (pc' := 20) (lv' := [(0, .ref 0), (1, .int x1)]) (st' := [.int x1, .ref 8, .long (o_clear x1.toNatClampNeg), .int (n_percents 1)]) (es' := (wX3_Outlook o_clearN o_clear o_cloudyN o_cloudy n_slots n_targets n_teams n_moon n_percents n_numbers n_seen n_odds)) (c' := 0) (s' := 0) rfl ?_
    by_cases h2 : (x1 < 0 ∨ o_cloudyN ≤ x1.toNatClampNeg)
    · rw [if_pos h2] at hp; cases hp
    · rw [if_neg h2] at hp
      refine Rn.gd (pc' := 21) (lv' := [(0, .ref 0), (1, .int x1)]) (st' := [.long (o_cloudy x1.toNatClampNeg), .long (o_clear x1.toNatClampNeg), .int (n_percents 1)]) (es' := (wX3_Outlook o_clearN o_clear o_cloudyN o_cloudy n_slots n_targets n_teams n_moon n_percents n_numbers n_seen n_odds)) rfl rfl h2 ?_
      obtain ⟨z1, hz1, hp⟩ := ob_some hp
      refine Rn.rel (pc' := 24) (lv' := [(0, .ref 0), (1, .int x1)]) (st' := [.long z1]) (es' := (wX3_Outlook o_clearN o_clear o_cloudyN o_cloudy n_slots n_targets n_teams n_moon n_percents n_numbers n_seen n_odds)) (dc := 0) (ds := 0) rfl ⟨[.int (n_percents 1), .long (o_clear x1.toNatClampNeg), .long (o_cloudy x1.toNatClampNeg)], [], .inl (some (.long z1)), [], 0, 0, rfl, rfl, Nat.le_of_ble_eq_true rfl, ⟨(n_percents 1), (o_clear x1.toNatClampNeg), (o_cloudy x1.toNatClampNeg), z1, rfl, rfl, hz1, rfl⟩, rfl⟩ ?_
      obtain rfl := Option.some.inj hp
      exact Rn.fin rfl rfl rfl
theorem qX3_behindClear : CtA yX3_behindClear (.code yX3_behindClear cX3_behindClear 2 (some .long)) 1 24 [] rX3_behindClear := CtA.of (by decide +kernel) (fun pc op h => kX3_behindClear _ (lkp_mem h)) oX3_behindClear
/-! TelescopeNight$Outlook.behindCloudy(I)J -/
def rX3_behindCloudy : List Value → List va_E → op_O → Prop := fun avs es r => ∃ (x1 : Int32) (o_clearN : Nat) (o_clear : Nat → Int64) (o_cloudyN : Nat) (o_cloudy : Nat → Int64) (n_slots : Int32) (n_targets : Int32) (n_teams : Int32) (n_moon : Nat → Int32) (n_percents : Nat → Int32) (n_numbers : Nat → Int32) (n_seen : Nat → Int32) (n_odds : Nat → Int32) (z : Int64), avs = [.ref 0, .int x1] ∧ es = (wX3_Outlook o_clearN o_clear o_cloudyN o_cloudy n_slots n_targets n_teams n_moon n_percents n_numbers n_seen n_odds) ∧ pX3_behindCloudy x1 o_clearN o_clear o_cloudyN o_cloudy n_percents = some z ∧ r = (.inl (some (.long z)), (wX3_Outlook o_clearN o_clear o_cloudyN o_cloudy n_slots n_targets n_teams n_moon n_percents n_numbers n_seen n_odds), 0, 0)
def bX3_behindCloudy : List (Nat × (op_T ⊕ op_R)) := [(0, .inl (o_aload 1 0)), (1, .inl (o_get 4 3 0)), (4, .inl (o_get 7 2 4)), (7, .inl (o_push 8 (.int (2)))), (8, .inl (o_iald 9)), (9, .inl (o_aload 10 0)), (10, .inl (o_get 13 3 1)), (13, .inl (o_iload 14 1)), (14, .inl (o_lald 15)), (15, .inl (o_aload 16 0)), (16, .inl (o_get 19 3 2)), (19, .inl (o_iload 20 1)), (20, .inl (o_lald 21)), (21, .inr (o_callS [] [] 24 3 rX8_mixed)), (24, .inl (o_lret))]
set_option maxRecDepth 100000 in
set_option maxHeartbeats 4000000 in
theorem kX3_behindCloudy : ∀ q ∈ bX3_behindCloudy, ok2 1 24 2 cX3_behindCloudy yX3_behindCloudy.cls yX3_behindCloudy.name (some .long) (.code yX3_behindCloudy cX3_behindCloudy 2 (some .long)) [] [] q.1 q.2 := (al_c (s_aload_n (k := 0) (by decide +kernel)) (al_c (s_get (C9 := RX3) (T9 := TX3) (N9 := 3) (ci := 3) (k := 0) iX3 rfl (by decide) w_339 (by decide +kernel)) (al_c (s_get (C9 := RX2) (T9 := TX2) (N9 := 8) (ci := 2) (k := 4) iX2 rfl (by decide) w_98 (by decide +kernel)) (al_c (s_iconst (n := 2) (2) (by decide) (by decide +kernel)) (al_c (s_iald (by decide +kernel)) (al_c (s_aload_n (k := 0) (by decide +kernel)) (al_c (s_get (C9 := RX3) (T9 := TX3) (N9 := 3) (ci := 3) (k := 1) iX3 rfl (by decide) w_340 (by decide +kernel)) (al_c (s_iload_n (k := 1) (by decide +kernel)) (al_c (s_lald (by decide +kernel)) (al_c (s_aload_n (k := 0) (by decide +kernel)) (al_c (s_get (C9 := RX3) (T9 := TX3) (N9 := 3) (ci := 3) (k := 2) iX3 rfl (by decide) w_341 (by decide +kernel)) (al_c (s_iload_n (k := 1) (by decide +kernel)) (al_c (s_lald (by decide +kernel)) (al_c (s_callSN (host := "TelescopeNight") (index := 26) (y := yX8_mixed) (bytes := cX8_mixed) (maxL := 5) (ret' := (some .long)) (fr' := 0) (lo' := 0) (n := 3) (ml := []) (mlc := []) qX8_mixed (by decide +kernel) w_646 w_1 w_647 ⟨by decide +kernel, by decide +kernel, by decide +kernel⟩ (by decide) (by decide) (by decide +kernel)) (al_c (s_lret rfl (by decide +kernel)) al_n)))))))))))))))
set_option maxRecDepth 100000 in
set_option maxHeartbeats 4000000 in
theorem oX3_behindCloudy : Of (lkp bX3_behindCloudy) 2 rX3_behindCloudy := by
  intro avs es r h
  obtain ⟨x1, o_clearN, o_clear, o_cloudyN, o_cloudy, n_slots, n_targets, n_teams, n_moon, n_percents, n_numbers, n_seen, n_odds, z, rfl, rfl, hp, rfl⟩ := h
  refine ⟨Nat.le_of_ble_eq_true rfl, ?_⟩
  unfold pX3_behindCloudy at hp
  refine Rn.go 5 (pc' := 9) (lv' := [(0, .ref 0), (1, .int x1)]) (st' := [.int (n_percents 2)]) (es' := (wX3_Outlook o_clearN o_clear o_cloudyN o_cloudy n_slots n_targets n_teams n_moon n_percents n_numbers n_seen n_odds)) (c' := 0) (s' := 0) rfl ?_
  refine Rn.go 3 (pc' := 14) (lv' := [(0, .ref 0), (1, .int x1)]) (st' := [.int x1, .ref 7, .int (n_percents 2)]) (es' := (wX3_Outlook o_clearN o_clear o_cloudyN o_cloudy n_slots n_targets n_teams n_moon n_percents n_numbers n_seen n_odds)) (c' := 0) (s' := 0) rfl ?_
  by_cases h1 : (x1 < 0 ∨ o_clearN ≤ x1.toNatClampNeg)
  · rw [if_pos h1] at hp; cases hp
  · rw [if_neg h1] at hp
    refine Rn.gd (pc' := 15) (lv' := [(0, .ref 0), (1, .int x1)]) (st' := [.long (o_clear x1.toNatClampNeg), .int (n_percents 2)]) (es' := (wX3_Outlook o_clearN o_clear o_cloudyN o_cloudy n_slots n_targets n_teams n_moon n_percents n_numbers n_seen n_odds)) rfl rfl h1 ?_
    refine Rn.go 3 (pc' := 20) (lv' := [(0, .ref 0), (1, .int x1)]) (st' := [.int x1, .ref 8, .long (o_clear x1.toNatClampNeg), .int (n_percents 2)]) (es' := (wX3_Outlook o_clearN o_clear o_cloudyN o_cloudy n_slots n_targets n_teams n_moon n_percents n_numbers n_seen n_odds)) (c' := 0) (s' := 0) rfl ?_
    by_cases h2 : (x1 < 0 ∨ o_cloudyN ≤ x1.toNatClampNeg)
    · rw [if_pos h2] at hp; cases hp
    · rw [if_neg h2] at hp
      refine Rn.gd (pc' := 21) (lv' := [(0, .ref 0), (1, .int x1)]) (st' := [.long (o_cloudy x1.toNatClampNeg), .long (o_clear x1.toNatClampNeg), .int (n_percents 2)]) (es' := (wX3_Outlook o_clearN o_clear o_cloudyN o_cloudy n_slots n_targets n_teams n_moon n_percents n_numbers n_seen n_odds)) rfl rfl h2 ?_
      obtain ⟨z1, hz1, hp⟩ := ob_some hp
      refine Rn.rel (pc' := 24) (lv' := [(0, .ref 0), (1, .int x1)]) (st' := [.long z1]) (es' := (wX3_Outlook o_clearN o_clear o_cloudyN o_cloudy n_slots n_targets n_teams n_moon n_percents n_numbers n_seen n_odds)) (dc := 0) (ds := 0) rfl ⟨[.int (n_percents 2), .long (o_clear x1.toNatClampNeg), .long (o_cloudy x1.toNatClampNeg)], [], .inl (some (.long z1)), [], 0, 0, rfl, rfl, Nat.le_of_ble_eq_true rfl, ⟨(n_percents 2), (o_clear x1.toNatClampNeg), (o_cloudy x1.toNatClampNeg), z1, rfl, rfl, hz1, rfl⟩, rfl⟩ ?_
      obtain rfl := Option.some.inj hp
      exact Rn.fin rfl rfl rfl
theorem qX3_behindCloudy : CtA yX3_behindCloudy (.code yX3_behindCloudy cX3_behindCloudy 2 (some .long)) 1 24 [] rX3_behindCloudy := CtA.of (by decide +kernel) (fun pc op h => kX3_behindCloudy _ (lkp_mem h)) oX3_behindCloudy
