/-! STRING LITERALS as things that stand still: 1100 + i is literal i, 1120 + i its row of bytes; 1140 what makes texts of wrong indices -/
section Str9
variable {fr lo nL : Nat} {cc : ByteArray} {own mn : String} {ret : Option FieldType} {hd : Cond} {tb : List ExceptionTableEntry} {ml : List Nat} {pc : Nat}
theorem s_ldcS {index : Nat} (q : String × Nat × String × Nat) (hq : q ∈ strL) (ho9 : q.1 = own) (hi9 : q.2.1 = index) (hdg : decode cc pc = .ok (.ldc index, 2)) : ok1 fr lo nL cc own mn ret hd tb ml pc (o_gets (pc + 2) q.2.2.2) := by
  intro p l e R s m args below meth c A D ct ad0 n0 C lv st es r cells slots ad H locs ls Q ho hS hl hk
  obtain ⟨hx, hb, hml, hown, hts, hA, hK, hlocks, hmn, hr, htr, hRf, hRl, hG, htb⟩ := C
  cases ho
  have hz := hG.2.2.1 q hq
  rw [← hS.2.2.2.2 _ (Or.inr (strL_ext q hq)), ho9, hi9] at hz
  exact va_ldcS hx hb hown hz hdg (hk.2.2 ad H locs ls hS hl)
theorem s_getZ {index : Nat} (hlk : Cond.fieldLink own index "java/lang/String" "COMPACT_STRINGS" "Z" ∈ GW) (hdg : decode cc pc = .ok (.getstatic index, 3)) : ok1 fr lo nL cc own mn ret hd tb ml pc (o_push (pc + 3) (.int 1)) := by
  intro p l e R s m args below meth c A D ct ad0 n0 C lv st es r cells slots ad H locs ls Q ho hS hl hk
  obtain ⟨hx, hb, hml, hown, hts, hA, hK, hlocks, hmn, hr, htr, hRf, hRl, hG, htb⟩ := C
  cases ho
  exact va_gets hx hb hG.2.2.2.1 hS.2.2.1 hown (hts _ (List.mem_cons_of_mem _ hlk)) (fun _ h => h) hdg (hk.2.2 ad H locs ls hS hl)
/-- the static that makes texts of wrong indices, and the static call behind it that takes it as its last argument -/
def o_gfc (ml mlc : List Nat) (pc' n : Nat) (R1 R2 : List Value → List va_E → op_O → Prop) : op_R := fun lv st es x => o_callS ml mlc pc' n R1 lv (.ref 1140 :: st) es x ∧ o_callS ml mlc pc' n R2 lv (.null :: st) es x
theorem s_gfc {index mp n : Nat} {mlc : List Nat} {R1 R2 : List Value → List va_E → op_O → Prop} (h1 : ok0 fr lo nL cc own mn ret hd tb ml (pc + 3) (o_callS ml mlc mp n R1)) (h2 : ok0 fr lo nL cc own mn ret hd tb ml (pc + 3) (o_callS ml mlc mp n R2)) (hlk : Cond.fieldLink own index "jdk/internal/util/Preconditions" "SIOOBE_FORMATTER" "Ljava/util/function/BiFunction;" ∈ GW) (hdg : decode cc pc = .ok (.getstatic index, 3)) : ok0 fr lo nL cc own mn ret hd tb ml pc (o_gfc ml mlc mp n R1 R2) := by
  intro p l e R s m args below meth c A D ct ad0 n0 C lv st es r cells slots ad H locs ls Q ho hS hl hk
  obtain ⟨hx, hb, hml, hown, hts, hA, hK, hlocks, hmn, hr, htr, hRf, hRl, hG, htb⟩ := id C
  rcases hG.2.2.2.2.1 with hz | hz
  · rw [← hS.2.2.2.2 1140 (Or.inr (by omega))] at hz
    exact va_gets hx hb hz hS.2.2.1 hown (hts _ (List.mem_cons_of_mem _ hlk)) (fun _ h => h) hdg (h1 p l e R s m args below meth c A D ct ad0 n0 C lv (.ref 1140 :: st) es r cells slots ad H locs ls Q ho.1 hS hl hk)
  · exact va_gets hx hb hz hS.2.2.1 hown (hts _ (List.mem_cons_of_mem _ hlk)) (fun _ h => h) hdg (h2 p l e R s m args below meth c A D ct ad0 n0 C lv (.null :: st) es r cells slots ad H locs ls Q ho.2 hS hl hk)
/-- the two fields of a literal -/
def o_sval (pc' : Nat) : op_T := fun lv st es => match st with
  | .ref a :: rest => (match Nat.ble 1100 a && Nat.blt a 1105 with
    | true => some (.inl (pc', lv, .ref (a + 20) :: rest, es, 0, 0))
    | false => none)
  | _ => none
def o_scod (pc' : Nat) : op_T := fun lv st es => match st with
  | .ref a :: rest => (match Nat.ble 1100 a && Nat.blt a 1105 with
    | true => some (.inl (pc', lv, .int 0 :: rest, es, 0, 0))
    | false => none)
  | _ => none
theorem str_ix {a : Nat} (h : (Nat.ble 1100 a && Nat.blt a 1105) = true) : ∃ i, i < 5 ∧ a = 1100 + i := by
  rw [Bool.and_eq_true] at h
  have h1 := Nat.le_of_ble_eq_true h.1
  have h2 : a + 1 ≤ 1105 := Nat.le_of_ble_eq_true h.2
  exact ⟨a - 1100, by omega, by omega⟩
theorem s_sval {index : Nat} (hlk : Cond.fieldLink own index "java/lang/String" "value" "[B" ∈ GW) (hdg : decode cc pc = .ok (.getfield index, 3)) : ok1 fr lo nL cc own mn ret hd tb ml pc (o_sval (pc + 3)) := by
  intro p l e R s m args below meth c A D ct ad0 n0 C lv st es r cells slots ad H locs ls Q ho hS hl hk
  obtain ⟨hx, hb, hml, hown, hts, hA, hK, hlocks, hmn, hr, htr, hRf, hRl, hG, htb⟩ := C
  change o_sval (pc + 3) lv st es = some r at ho
  unfold o_sval at ho
  split at ho
  · rename_i a rest
    split at ho
    · rename_i ha
      cases ho
      obtain ⟨i, hi, rfl⟩ := str_ix ha
      have hz := (hG.2.1.1 i hi).2.2.1
      have hk3 := hk.2.2 ad H locs ls hS hl
      have e1 : ad0 (1100 + i) = ad (1100 + i) := (hS.2.2.2.2 _ (Or.inr (by omega))).symm
      have e2 : ad0 (1120 + i) = ad (1100 + i + 20) := by
        rw [show 1100 + i + 20 = 1120 + i by omega]
        exact (hS.2.2.2.2 _ (Or.inr (by omega))).symm
      dsimp only at hz
      rw [e1, e2] at hz
      exact vk_getf hx hb hz hS.2.2.1 hown (hts _ (List.mem_cons_of_mem _ hlk)) (fun _ h => h) hdg hk3
    · cases ho
  · cases ho
theorem s_scod {index : Nat} (hlk : Cond.fieldLink own index "java/lang/String" "coder" "B" ∈ GW) (hdg : decode cc pc = .ok (.getfield index, 3)) : ok1 fr lo nL cc own mn ret hd tb ml pc (o_scod (pc + 3)) := by
  intro p l e R s m args below meth c A D ct ad0 n0 C lv st es r cells slots ad H locs ls Q ho hS hl hk
  obtain ⟨hx, hb, hml, hown, hts, hA, hK, hlocks, hmn, hr, htr, hRf, hRl, hG, htb⟩ := C
  change o_scod (pc + 3) lv st es = some r at ho
  unfold o_scod at ho
  split at ho
  · rename_i a rest
    split at ho
    · rename_i ha
      cases ho
      obtain ⟨i, hi, rfl⟩ := str_ix ha
      have hz := (hG.2.1.1 i hi).2.1
      have e1 : ad0 (1100 + i) = ad (1100 + i) := (hS.2.2.2.2 _ (Or.inr (by omega))).symm
      dsimp only at hz
      rw [e1] at hz
      exact vk_getf hx hb hz hS.2.2.1 hown (hts _ (List.mem_cons_of_mem _ hlk)) (fun _ h => h) hdg (hk.2.2 ad H locs ls hS hl)
    · cases ho
  · cases ho
theorem byt_ix {a : Nat} (h : (Nat.ble 1120 a && Nat.blt a 1125) = true) : ∃ i, i < 5 ∧ a = 1120 + i := by
  rw [Bool.and_eq_true] at h
  have h1 := Nat.le_of_ble_eq_true h.1
  have h2 : a + 1 ≤ 1125 := Nat.le_of_ble_eq_true h.2
  exact ⟨a - 1120, by omega, by omega⟩
def o_blen (pc' : Nat) : op_T := fun lv st es => match st with
  | .ref a :: rest => (match Nat.ble 1120 a && Nat.blt a 1125 with
    | true => some (.inl (pc', lv, .int (nI (strN.getD (a - 1120) 0)) :: rest, es, 0, 0))
    | false => none)
  | _ => none
theorem s_blen (hdg : decode cc pc = .ok (.arraylength, 1)) : ok1 fr lo nL cc own mn ret hd tb ml pc (o_blen (pc + 1)) := by
  intro p l e R s m args below meth c A D ct ad0 n0 C lv st es r cells slots ad H locs ls Q ho hS hl hk
  obtain ⟨hx, hb, hml, hown, hts, hA, hK, hlocks, hmn, hr, htr, hRf, hRl, hG, htb⟩ := C
  change o_blen (pc + 1) lv st es = some r at ho
  unfold o_blen at ho
  split at ho
  · rename_i a rest
    split at ho
    · rename_i ha
      cases ho
      obtain ⟨i, hi, rfl⟩ := byt_ix ha
      have hz := (hG.2.1.1 i hi).2.2.2
      have e1 : ad0 (1120 + i) = ad (1120 + i) := (hS.2.2.2.2 _ (Or.inr (by omega))).symm
      dsimp only at hz
      rw [e1] at hz
      exact va_tlen hx hb hz hS.2.2.1 (by rw [Nat.add_sub_cancel_left]; rfl) hdg (hk.2.2 ad H locs ls hS hl)
    · cases ho
  · cases ho
def o_bald (pc' : Nat) : op_T := fun lv st es => match st with
  | .int i :: .ref a :: rest => (match Nat.ble 1120 a && Nat.blt a 1125 with
    | true => if i < 0 ∨ strN.getD (a - 1120) 0 ≤ i.toNatClampNeg then none else some (.inl (pc', lv, .int ((strB.getD (a - 1120) []).getD i.toNatClampNeg 0) :: rest, es, 0, 0))
    | false => none)
  | _ => none
theorem s_bald (hdg : decode cc pc = .ok (.baload, 1)) : ok1 fr lo nL cc own mn ret hd tb ml pc (o_bald (pc + 1)) := by
  intro p l e R s m args below meth c A D ct ad0 n0 C lv st es r cells slots ad H locs ls Q ho hS hl hk
  obtain ⟨hx, hb, hml, hown, hts, hA, hK, hlocks, hmn, hr, htr, hRf, hRl, hG, htb⟩ := C
  change o_bald (pc + 1) lv st es = some r at ho
  unfold o_bald at ho
  split at ho
  · rename_i k a rest
    split at ho
    · rename_i ha
      split at ho
      · cases ho
      · rename_i hin
        cases ho
        obtain ⟨i, hi, rfl⟩ := byt_ix ha
        have hz := (hG.2.1.1 i hi).2.2.2
        have e1 : ad0 (1120 + i) = ad (1120 + i) := (hS.2.2.2.2 _ (Or.inr (by omega))).symm
        dsimp only at hz
        rw [e1] at hz
        rw [Nat.add_sub_cancel_left] at hin hk
        exact va_tb hx hb hz hS.2.2.1 hin rfl hdg (hk.2.2 ad H locs ls hS hl)
    · cases ho
  · cases ho
def o_i2c (pc' : Nat) : op_T := fun lv st es => match st with
  | .int x :: rest => some (.inl (pc', lv, .int ((x.toUInt32 % 65536).toInt32) :: rest, es, 0, 0))
  | _ => none
theorem s_i2c (hdg : decode cc pc = .ok (.i2c, 1)) : ok1 fr lo nL cc own mn ret hd tb ml pc (o_i2c (pc + 1)) := by
  intro p l e R s m args below meth c A D ct ad0 n0 C lv st es r cells slots ad H locs ls Q ho hS hl hk
  obtain ⟨hx, hb, hml, hown, hts, hA, hK, hlocks, hmn, hr, htr, hRf, hRl, hG, htb⟩ := C
  change o_i2c (pc + 1) lv st es = some r at ho
  unfold o_i2c at ho
  split at ho
  · rename_i x rest
    cases ho
    exact lv_i2c hx hb hdg rfl (hk.2.2 ad H locs ls hS hl)
  · cases ho
def o_pop (pc' : Nat) : op_T := fun lv st es => match st with
  | .int x :: rest => some (.inl (pc', lv, rest, es, 0, 0))
  | _ => none
theorem s_pop (hdg : decode cc pc = .ok (.pop, 1)) : ok1 fr lo nL cc own mn ret hd tb ml pc (o_pop (pc + 1)) := by
  intro p l e R s m args below meth c A D ct ad0 n0 C lv st es r cells slots ad H locs ls Q ho hS hl hk
  obtain ⟨hx, hb, hml, hown, hts, hA, hK, hlocks, hmn, hr, htr, hRf, hRl, hG, htb⟩ := C
  change o_pop (pc + 1) lv st es = some r at ho
  unfold o_pop at ho
  split at ho
  · rename_i x rest
    cases ho
    exact lv_pop hx hb hdg rfl (hk.2.2 ad H locs ls hS hl)
  · cases ho
/-- an answer of a narrow type -/
def o_nret (ty : FieldType) : op_T := fun _ st es => match st with
  | [.int v] => if narrow ty (.int v) = .int v then some (.inr (.inl (some (.int v)), es, 0, 0)) else none
  | _ => none
theorem s_nret {ty : FieldType} (hret : ret = some ty) (hdg : decode cc pc = .ok (.ireturn, 1)) : ok1 fr lo nL cc own mn ret hd tb ml pc (o_nret ty) := by
  intro p l e R s m args below meth c A D ct ad0 n0 C lv st es r cells slots ad H locs ls Q ho hS hl hk
  obtain ⟨hx, hb, hml, hown, hts, hA, hK, hlocks, hmn, hr, htr, hRf, hRl, hG, htb⟩ := C
  change o_nret ty lv st es = some r at ho
  unfold o_nret at ho
  split at ho
  · rename_i v
    split at ho
    · rename_i hv
      cases ho
      obtain ⟨mc, ms, rfl, h1, h2, -, -⟩ := hk
      refine W.widen (k := mc) (n := ms) h1 h2 (vx_ret ?_)
      exact W.zret hx hb (hr.trans hret) hv (fun t ht hW => ⟨_, rfl, rfl, rfl, ⟨ad, hS.2.2.2.2, hS.2.2.2.1, by rw [ht]; exact hS.1, hS.2.1⟩, hS.2.2.1.F ht⟩) hS.2.2.1.2.2 hdg hlocks
    · cases ho
  · cases ho
/-- a call whose receiver is a literal -/
def o_callX (ml mlc : List Nat) (pc' k : Nat) (Rl : List Value → List va_E → op_O → Prop) : op_R := fun lv st es x =>
  ∃ (b : Nat) (as : List Value) (pl : List Nat) (o : Option Value ⊕ String) (ec : List va_E) (mc ms : Nat), (st.take (k + 1)).reverse = .ref b :: as ∧ as.length = k ∧ cs (st.drop (k + 1)) ≤ 8 ∧ (Nat.ble 1100 b && Nat.blt b 1105) = true ∧
    Rl (rn_t (toC pl) (.ref b :: as)) (sl pl es) (o, ec, mc, ms) ∧ rs_d ml mlc pc' lv (st.drop (k + 1)) pl es o ec mc ms = some x
end Str9
section CallX9
variable {fr lo nL : Nat} {cc : ByteArray} {own mn : String} {ret : Option FieldType} {hd : Cond} {pc : Nat}
variable {y : MethodName} {bytes : ByteArray} {maxL fr' lo' n index : Nat} {ret' : Option FieldType} {F : List Value → List va_E → op_O → Prop} {ml mlc : List Nat}
theorem s_callX (hM : CtA y (.code y bytes maxL ret') fr' lo' mlc F) (h1 : Cond.methodLink own index y ∈ GW) (h2 : Cond.instanceMethod y ∈ GW) (h3 : Cond.selects y.cls y y ∈ GW) (h4 : Cond.initialized y.cls ∈ GW) (h5 : Cond.code y bytes maxL ret' ∈ GW)
    (hdd : y.cls ≠ "java/lang/invoke/MethodHandle" ∧ y.cls ≠ "java/lang/invoke/VarHandle" ∧ (parseMethodDescriptor y.desc).map (fun d => d.parameters.length) = some n) (hq9 : "java/lang/String" = y.cls) (hfr : fr' + 1 ≤ fr) (hlo : 8 + (maxL + 11) + lo' ≤ lo) (hdg : decode cc pc = .ok (.invokevirtual index, 3)) : ok0 fr lo nL cc own mn ret hd [] ml pc (o_callX ml mlc (pc + 3) n F) := by
  intro p l e R s m args below meth c A D ct ad0 n0 C lv st es r cells slots ad H locs ls Q ho hS hl hk
  obtain ⟨hx, hb, hml, hown, hts, hA, hK, hlocks, hmn, hr, htr, hRf, hRl, hG, htb⟩ := C
  obtain ⟨b, as, pl, o, ec, mc, ms, hsp, hn9, hcs, he, hF, ho2⟩ := ho
  obtain ⟨c1, c2, c3, c4, -⟩ := ck_facts (rs_ck ho2)
  have hl1 : pl.length ≤ 1000 := by omega
  have hMet := hM l htr _ _ _ _ _ _ hF D ct (fun i => ad (frC pl es.length i)) H.size
  have e1 := rn_back (ad := ad) (es := es) hl1 (.ref b :: as)
  rw [e1] at hMet
  have e2 : (sl pl es).length = pl.length := by unfold sl; rw [List.length_map]
  rw [e2] at hMet
  have hrec : ∃ cell : Cell, H[ad b]? = some cell ∧ cell.vm.isStatics = false ∧ s.vm.findClass y.cls = some cell.cls := by
    obtain ⟨i, hi, rfl⟩ := str_ix he
    have this : ∃ cell : Cell, H[ad0 (1100 + i)]? = some cell ∧ cell.vm.isStatics = false ∧ s.vm.findClass "java/lang/String" = some cell.cls := vk_recv (adK := fun i => ad0 (1100 + i)) (i := i) hG.2.1 hi hS.2.2.1
    rw [← hS.2.2.2.2 (1100 + i) (Or.inr (by omega)), hq9] at this
    exact this
  have hrun := vx_runV (e := e) (below := below) (meth := meth) (locs := locs) (nL := nL) (own := own) (rest := rn_t ad (st.drop (n + 1))) (g := F0 m pc ls (rn_t ad st)) (As := rn_t ad as) (b := ad b) ⟨hx, hb, hml, hown, hts⟩ hMet (cwV n hts (gd_M (ws := [.methodLink own index y, .instanceMethod y, .selects y.cls y y, .initialized y.cls]) h5 (by intro w hw; simp only [List.mem_cons, List.not_mem_nil, or_false] at hw; rcases hw with rfl | rfl | rfl | rfl <;> assumption)) rfl rfl rfl ⟨rfl, hdd.1, hdd.2.1, hdd.2.2⟩ ⟨by show fr' + 1 ≤ R.frames; omega, by show 8 + (maxL + 11) + lo' ≤ R.locals; omega⟩)
    ⟨pre_blind, hrec, fun U hU hW => ⟨rfl, pre_world hS hA hK hG c1 c2 hl1 U hU hW⟩⟩ rfl (by show (List.map _ as).length = n; rw [List.length_map]; exact hn9) hl.1 (by
      show rn_t ad st = _
      rw [st_split (ad := ad) hsp]
      show (Value.ref (ad b) :: rn_t ad as).reverse ++ _ = _
      rw [List.reverse_cons, List.append_assoc]; rfl) (lv_room (by rw [rn_t_cat]; exact hcs)) hdg (pt_room ho2 hk)
  exact call_go hrun hS hA hl hlocks htb ho2 hk
end CallX9
