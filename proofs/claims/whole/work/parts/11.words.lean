/-! words, and what the printed methods share -/
abbrev kO (ci : Nat) (fs : List Value) : va_E := .inr (ci, fs)
abbrev kI (n : Nat) (f : Nat → Int32) : va_E := .inl (0, n, .inl f)
abbrev kL (n : Nat) (f : Nat → Int64) : va_E := .inl (1, n, .inr (.inl f))
abbrev kZ (n : Nat) (f : Nat → Int32) : va_E := .inl (2, n, .inl f)
abbrev kQ (c n : Nat) (g : Nat → Option Nat) : va_E := .inl (c, n, .inr (.inr (.inr (.inr g))))
def gL (l : List Nat) : Nat → Option Nat := fun k => l[k]?
def ob {α β : Type} (x : Option α) (f : α → Option β) : Option β := match x with
  | none => none
  | some a => f a
theorem ob_some {α β : Type} {x : Option α} {f : α → Option β} {b : β} (h : ob x f = some b) : ∃ a, x = some a ∧ f a = some b := by
  cases x with
  | none => cases h
  | some a => exact ⟨a, rfl, h⟩
theorem ob_eq {α β : Type} {x : Option α} {f : α → Option β} {a : α} (h : x = some a) : ob x f = f a := by rw [h]; rfl
/-- how often a loop may go round -/
def lpF : Nat := 100000
def statI (a k : Nat) : Int32 := ((statV a).getD []).getD k 0
theorem Rn.finz {body : op_B} {pc : Nat} {lv : List (Nat × Value)} {st : List Value} {es es' : List va_E} {c s : Nat} {r : op_O} {f : op_T} {P : Prop} {inst : Decidable P} {o : Option Value ⊕ String} (hb : body pc = some (.inl f)) (hf : f lv st es = if P then some (.inr (o, es', 0, 0)) else none) (h : P) (he : r = (o, es', c + 0, s + 0)) : Rn body pc lv st es c s r := by
  rw [if_pos h] at hf
  refine ⟨1, ?_⟩
  unfold ex
  rw [hb]
  show (match f lv st es with
      | none => False
      | some (.inl (pc', lv', st', es', dc, ds)) => ex body 0 pc' lv' st' es' (c + dc) (s + ds) r
      | some (.inr (o, es', dc, ds)) => r = (o, es', c + dc, s + ds))
  rw [hf]
  exact he
theorem Rn.gp {body : op_B} {pc pc' : Nat} {lv lv' : List (Nat × Value)} {st st' : List Value} {es es' : List va_E} {c s : Nat} {r : op_O} {f : op_T} {P : Prop} {inst : Decidable P} {dc ds : Nat} (hb : body pc = some (.inl f)) (hf : f lv st es = if P then some (.inl (pc', lv', st', es', dc, ds)) else none) (h : P) (hk : Rn body pc' lv' st' es' (c + dc) (s + ds) r) : Rn body pc lv st es c s r := by
  rw [if_pos h] at hf
  exact Rn.sp hb hf hk
theorem Rn.tbi {body : op_B} {pc pc' : Nat} {lv : List (Nat × Value)} {rest : List Value} {es : List va_E} {c s : Nat} {r : op_O} {f : op_T} {x : Int32} (a : Int32) (hx : x = a) (hb : body pc = some (.inl f)) (hf : f lv (.int a :: rest) es = some (.inl (pc', lv, rest, es, 0, 0))) (k : Rn body pc' lv rest es c s r) : Rn body pc lv (.int x :: rest) es c s r := by
  subst hx
  exact Rn.sp hb hf k
theorem Rn.tbd {body : op_B} {pc d : Nat} {lv : List (Nat × Value)} {rest : List Value} {es : List va_E} {c s : Nat} {r : op_O} {lo hi : Int} {tg : List Nat} {x : Int32} (hx : x.toInt < lo ∨ hi < x.toInt) (hb : body pc = some (.inl (o_table lo hi d tg))) (k : Rn body d lv rest es c s r) : Rn body pc lv (.int x :: rest) es c s r := by
  have hf : o_table lo hi d tg lv (.int x :: rest) es = some (.inl (d, lv, rest, es, 0, 0)) := by
    show (if x.toInt < lo then some (Sum.inl (d, lv, rest, es, 0, 0)) else if hi < x.toInt then some (Sum.inl (d, lv, rest, es, 0, 0)) else _) = _
    by_cases h : x.toInt < lo
    · rw [if_pos h]
    · rw [if_neg h, if_pos (hx.resolve_left h)]
  exact Rn.sp (dc := 0) (ds := 0) hb hf k
theorem tb_out (n : Nat) (x : Int32) (h : ∀ k : Nat, k < n → ¬ x = nI k) : x.toInt < 0 ∨ ((n : Int) - 1) < x.toInt := by
  by_cases h0 : x.toInt < 0
  · exact Or.inl h0
  · refine Or.inr ?_
    by_cases h1 : x.toInt < n
    · exfalso
      have hr := x.toInt_lt
      have e : x = nI x.toInt.toNat := by
        apply Int32.toInt_inj.mp
        rw [nI_toInt (by omega)]
        omega
      exact h _ (by omega) e
    · omega
theorem tb_ok {tg : List Nat} {offs : Array Int} {pc : Nat} (h : (List.range tg.length).all (fun k => match tg[k]?, offs[k]? with
    | some t, some o => decide ((pc : Int) + o = (t : Int))
    | _, _ => false) = true) : ∀ k t : Nat, tg[k]? = some t → ∃ off, offs[k]? = some off ∧ (pc : Int) + off = (t : Int) := by
  intro k t ht
  have hk : k < tg.length := (List.getElem?_eq_some_iff.mp ht).1
  have h1 := List.all_eq_true.mp h k (List.mem_range.mpr hk)
  rw [ht] at h1
  cases ho : offs[k]? with
  | none => rw [ho] at h1; cases h1
  | some o => rw [ho] at h1; exact ⟨o, rfl, of_decide_eq_true h1⟩
theorem gw_t {w : Cond} (i : Nat) (h : tables_1[i]? = some w) (g : goodWord w = true) : w ∈ GW := List.mem_filter.mpr ⟨List.mem_append_right _ (List.mem_of_getElem? h), g⟩
theorem gw_p {w : Cond} (i : Nat) (h : (k2_sels lw_privs)[i]? = some w) (g : goodWord w = true) : w ∈ GW := List.mem_filter.mpr ⟨List.mem_append_left _ (List.mem_of_getElem? h), g⟩
theorem iX0 : ∀ w ∈ u_ws RX0 TX0 8, w ∈ GW := by decide +kernel
theorem dX0 : ∀ j, j < ([.null, .null, .null, .null, .null, .int 0, .int 0, .int 0] : List Value).length → defaultValue (tyX0 j) = vp_V [.null, .null, .null, .null, .null, .int 0, .int 0, .int 0] j := by
  intro j hj
  match j, hj with
  | 0, _ => exact rfl
  | 1, _ => exact rfl
  | 2, _ => exact rfl
  | 3, _ => exact rfl
  | 4, _ => exact rfl
  | 5, _ => exact rfl
  | 6, _ => exact rfl
  | 7, _ => exact rfl
  | k + 8, hk => exact absurd hk (by show ¬ (k + 8 < 8); omega)
theorem iX1 : ∀ w ∈ u_ws RX1 TX1 4, w ∈ GW := by decide +kernel
theorem dX1 : ∀ j, j < ([.null, .null, .int 0, .int 0] : List Value).length → defaultValue (tyX1 j) = vp_V [.null, .null, .int 0, .int 0] j := by
  intro j hj
  match j, hj with
  | 0, _ => exact rfl
  | 1, _ => exact rfl
  | 2, _ => exact rfl
  | 3, _ => exact rfl
  | k + 4, hk => exact absurd hk (by show ¬ (k + 4 < 4); omega)
theorem iX2 : ∀ w ∈ u_ws RX2 TX2 8, w ∈ GW := by decide +kernel
theorem dX2 : ∀ j, j < ([.int 0, .int 0, .int 0, .null, .null, .null, .null, .null] : List Value).length → defaultValue (tyX2 j) = vp_V [.int 0, .int 0, .int 0, .null, .null, .null, .null, .null] j := by
  intro j hj
  match j, hj with
  | 0, _ => exact rfl
  | 1, _ => exact rfl
  | 2, _ => exact rfl
  | 3, _ => exact rfl
  | 4, _ => exact rfl
  | 5, _ => exact rfl
  | 6, _ => exact rfl
  | 7, _ => exact rfl
  | k + 8, hk => exact absurd hk (by show ¬ (k + 8 < 8); omega)
theorem iX3 : ∀ w ∈ u_ws RX3 TX3 3, w ∈ GW := by decide +kernel
theorem dX3 : ∀ j, j < ([.null, .null, .null] : List Value).length → defaultValue (tyX3 j) = vp_V [.null, .null, .null] j := by
  intro j hj
  match j, hj with
  | 0, _ => exact rfl
  | 1, _ => exact rfl
  | 2, _ => exact rfl
  | k + 3, hk => exact absurd hk (by show ¬ (k + 3 < 3); omega)
theorem iX4 : ∀ w ∈ u_ws RX4 TX4 14, w ∈ GW := by decide +kernel
theorem dX4 : ∀ j, j < ([.null, .null, .null, .null, .int 0, .int 0, .int 0, .null, .null, .null, .int 0, .long 0, .long 0, .long 0] : List Value).length → defaultValue (tyX4 j) = vp_V [.null, .null, .null, .null, .int 0, .int 0, .int 0, .null, .null, .null, .int 0, .long 0, .long 0, .long 0] j := by
  intro j hj
  match j, hj with
  | 0, _ => exact rfl
  | 1, _ => exact rfl
  | 2, _ => exact rfl
  | 3, _ => exact rfl
  | 4, _ => exact rfl
  | 5, _ => exact rfl
  | 6, _ => exact rfl
  | 7, _ => exact rfl
  | 8, _ => exact rfl
  | 9, _ => exact rfl
  | 10, _ => exact rfl
  | 11, _ => exact rfl
  | 12, _ => exact rfl
  | 13, _ => exact rfl
  | k + 14, hk => exact absurd hk (by show ¬ (k + 14 < 14); omega)
theorem iX5 : ∀ w ∈ u_ws RX5 TX5 7, w ∈ GW := by decide +kernel
theorem dX5 : ∀ j, j < ([.int 0, .int 0, .int 0, .int 0, .int 0, .null, .null] : List Value).length → defaultValue (tyX5 j) = vp_V [.int 0, .int 0, .int 0, .int 0, .int 0, .null, .null] j := by
  intro j hj
  match j, hj with
  | 0, _ => exact rfl
  | 1, _ => exact rfl
  | 2, _ => exact rfl
  | 3, _ => exact rfl
  | 4, _ => exact rfl
  | 5, _ => exact rfl
  | 6, _ => exact rfl
  | k + 7, hk => exact absurd hk (by show ¬ (k + 7 < 7); omega)
theorem iX6 : ∀ w ∈ u_ws RX6 TX6 9, w ∈ GW := by decide +kernel
theorem dX6 : ∀ j, j < ([.null, .null, .int 0, .int 0, .int 0, .int 0, .null, .null, .null] : List Value).length → defaultValue (tyX6 j) = vp_V [.null, .null, .int 0, .int 0, .int 0, .int 0, .null, .null, .null] j := by
  intro j hj
  match j, hj with
  | 0, _ => exact rfl
  | 1, _ => exact rfl
  | 2, _ => exact rfl
  | 3, _ => exact rfl
  | 4, _ => exact rfl
  | 5, _ => exact rfl
  | 6, _ => exact rfl
  | 7, _ => exact rfl
  | 8, _ => exact rfl
  | k + 9, hk => exact absurd hk (by show ¬ (k + 9 < 9); omega)
theorem iX7 : ∀ w ∈ u_ws RX7 TX7 10, w ∈ GW := by decide +kernel
theorem dX7 : ∀ j, j < ([.null, .null, .int 0, .int 0, .int 0, .int 0, .int 0, .int 0, .int 0, .int 0] : List Value).length → defaultValue (tyX7 j) = vp_V [.null, .null, .int 0, .int 0, .int 0, .int 0, .int 0, .int 0, .int 0, .int 0] j := by
  intro j hj
  match j, hj with
  | 0, _ => exact rfl
  | 1, _ => exact rfl
  | 2, _ => exact rfl
  | 3, _ => exact rfl
  | 4, _ => exact rfl
  | 5, _ => exact rfl
  | 6, _ => exact rfl
  | 7, _ => exact rfl
  | 8, _ => exact rfl
  | 9, _ => exact rfl
  | k + 10, hk => exact absurd hk (by show ¬ (k + 10 < 10); omega)
theorem iX8 : ∀ w ∈ u_ws RX8 TX8 10, w ∈ GW := by decide +kernel
theorem dX8 : ∀ j, j < ([.null, .null, .null, .null, .null, .null, .null, .null, .null, .int 0] : List Value).length → defaultValue (tyX8 j) = vp_V [.null, .null, .null, .null, .null, .null, .null, .null, .null, .int 0] j := by
  intro j hj
  match j, hj with
  | 0, _ => exact rfl
  | 1, _ => exact rfl
  | 2, _ => exact rfl
  | 3, _ => exact rfl
  | 4, _ => exact rfl
  | 5, _ => exact rfl
  | 6, _ => exact rfl
  | 7, _ => exact rfl
  | 8, _ => exact rfl
  | 9, _ => exact rfl
  | k + 10, hk => exact absurd hk (by show ¬ (k + 10 < 10); omega)
theorem iX9 : ∀ w ∈ u_ws RX9 TX9 36, w ∈ GW := by decide +kernel
theorem dX9 : ∀ j, j < ([.null, .null, .null, .int 0, .int 0, .null, .int 0, .int 0, .int 0, .int 0, .int 0, .int 0, .int 0, .int 0, .long 0, .int 0, .int 0, .null, .null, .null, .null, .null, .int 0, .int 0, .null, .null, .null, .null, .null, .null, .null, .null, .null, .null, .int 0, .int 0] : List Value).length → defaultValue (tyX9 j) = vp_V [.null, .null, .null, .int 0, .int 0, .null, .int 0, .int 0, .int 0, .int 0, .int 0, .int 0, .int 0, .int 0, .long 0, .int 0, .int 0, .null, .null, .null, .null, .null, .int 0, .int 0, .null, .null, .null, .null, .null, .null, .null, .null, .null, .null, .int 0, .int 0] j := by
  intro j hj
  match j, hj with
  | 0, _ => exact rfl
  | 1, _ => exact rfl
  | 2, _ => exact rfl
  | 3, _ => exact rfl
  | 4, _ => exact rfl
  | 5, _ => exact rfl
  | 6, _ => exact rfl
  | 7, _ => exact rfl
  | 8, _ => exact rfl
  | 9, _ => exact rfl
  | 10, _ => exact rfl
  | 11, _ => exact rfl
  | 12, _ => exact rfl
  | 13, _ => exact rfl
  | 14, _ => exact rfl
  | 15, _ => exact rfl
  | 16, _ => exact rfl
  | 17, _ => exact rfl
  | 18, _ => exact rfl
  | 19, _ => exact rfl
  | 20, _ => exact rfl
  | 21, _ => exact rfl
  | 22, _ => exact rfl
  | 23, _ => exact rfl
  | 24, _ => exact rfl
  | 25, _ => exact rfl
  | 26, _ => exact rfl
  | 27, _ => exact rfl
  | 28, _ => exact rfl
  | 29, _ => exact rfl
  | 30, _ => exact rfl
  | 31, _ => exact rfl
  | 32, _ => exact rfl
  | 33, _ => exact rfl
  | 34, _ => exact rfl
  | 35, _ => exact rfl
  | k + 36, hk => exact absurd hk (by show ¬ (k + 36 < 36); omega)
theorem w_1 : (Jvm.Cond.initialized "TelescopeNight") ∈ GW := gw_t 1 (by decide +kernel) (by decide +kernel)
theorem w_2 : (Jvm.Cond.initialized "TelescopeNight$Night") ∈ GW := gw_t 2 (by decide +kernel) (by decide +kernel)
theorem w_3 : (Jvm.Cond.initialized "java/util/Arrays") ∈ GW := gw_t 3 (by decide +kernel) (by decide +kernel)
theorem w_4 : (Jvm.Cond.initialized "java/lang/Math") ∈ GW := gw_t 4 (by decide +kernel) (by decide +kernel)
theorem w_5 : (Jvm.Cond.initialized "TelescopeNight$Progress") ∈ GW := gw_t 5 (by decide +kernel) (by decide +kernel)
theorem w_6 : (Jvm.Cond.initialized "TelescopeNight$Reach") ∈ GW := gw_t 6 (by decide +kernel) (by decide +kernel)
theorem w_9 : (Jvm.Cond.initialized "TelescopeNight$Plans") ∈ GW := gw_t 9 (by decide +kernel) (by decide +kernel)
theorem w_10 : (Jvm.Cond.initialized "TelescopeNight$Decisions") ∈ GW := gw_t 10 (by decide +kernel) (by decide +kernel)
theorem w_11 : (Jvm.Cond.initialized "TelescopeNight$Outlook") ∈ GW := gw_t 11 (by decide +kernel) (by decide +kernel)
theorem w_22 : (Jvm.Cond.initialized "java/lang/System") ∈ GW := gw_t 22 (by decide +kernel) (by decide +kernel)
theorem w_31 : (Jvm.Cond.instanceMethod ({ cls := "java/lang/Object", name := "<init>", desc := "()V" } : Jvm.MethodName)) ∈ GW := gw_t 31 (by decide +kernel) (by decide +kernel)
theorem w_32 : (Jvm.Cond.code ({ cls := "java/lang/Object", name := "<init>", desc := "()V" } : Jvm.MethodName) object_method_1_code (1 : Nat) (Option.none : Option Jvm.ClassFile.FieldType)) ∈ GW := gw_t 32 (by decide +kernel) (by decide +kernel)
theorem w_38 : (Jvm.Cond.methodLink "TelescopeNight$Night" (3 : Nat) ({ cls := "java/lang/Object", name := "<init>", desc := "()V" } : Jvm.MethodName)) ∈ GW := gw_t 38 (by decide +kernel) (by decide +kernel)
theorem w_39 : (Jvm.Cond.methodLink "TelescopeNight$Night" (27 : Nat) ({ cls := "TelescopeNight$Night", name := "setDefaults", desc := "()V" } : Jvm.MethodName)) ∈ GW := gw_t 39 (by decide +kernel) (by decide +kernel)
theorem w_40 : (Jvm.Cond.instanceMethod ({ cls := "TelescopeNight$Night", name := "setDefaults", desc := "()V" } : Jvm.MethodName)) ∈ GW := gw_t 40 (by decide +kernel) (by decide +kernel)
theorem w_41 : (Jvm.Cond.selects "TelescopeNight$Night" ({ cls := "TelescopeNight$Night", name := "setDefaults", desc := "()V" } : Jvm.MethodName) ({ cls := "TelescopeNight$Night", name := "setDefaults", desc := "()V" } : Jvm.MethodName)) ∈ GW := gw_t 41 (by decide +kernel) (by decide +kernel)
theorem w_42 : (Jvm.Cond.code ({ cls := "TelescopeNight$Night", name := "setDefaults", desc := "()V" } : Jvm.MethodName) prog_4_method_2_code (1 : Nat) (Option.none : Option Jvm.ClassFile.FieldType)) ∈ GW := gw_t 42 (by decide +kernel) (by decide +kernel)
theorem w_43 : (Jvm.Cond.methodLink "TelescopeNight$Night" (40 : Nat) ({ cls := "java/util/Arrays", name := "fill", desc := "([II)V" } : Jvm.MethodName)) ∈ GW := gw_t 43 (by decide +kernel) (by decide +kernel)
theorem w_44 : (Jvm.Cond.static ({ cls := "java/util/Arrays", name := "fill", desc := "([II)V" } : Jvm.MethodName)) ∈ GW := gw_t 44 (by decide +kernel) (by decide +kernel)
theorem w_45 : (Jvm.Cond.code ({ cls := "java/util/Arrays", name := "fill", desc := "([II)V" } : Jvm.MethodName) prog_28_method_103_code (4 : Nat) (Option.none : Option Jvm.ClassFile.FieldType)) ∈ GW := gw_t 45 (by decide +kernel) (by decide +kernel)
theorem w_46 : (Jvm.Cond.methodLink "TelescopeNight$Night" (30 : Nat) ({ cls := "TelescopeNight$Night", name := "settle", desc := "()V" } : Jvm.MethodName)) ∈ GW := gw_t 46 (by decide +kernel) (by decide +kernel)
theorem w_47 : (Jvm.Cond.instanceMethod ({ cls := "TelescopeNight$Night", name := "settle", desc := "()V" } : Jvm.MethodName)) ∈ GW := gw_t 47 (by decide +kernel) (by decide +kernel)
theorem w_48 : (Jvm.Cond.selects "TelescopeNight$Night" ({ cls := "TelescopeNight$Night", name := "settle", desc := "()V" } : Jvm.MethodName) ({ cls := "TelescopeNight$Night", name := "settle", desc := "()V" } : Jvm.MethodName)) ∈ GW := gw_t 48 (by decide +kernel) (by decide +kernel)
theorem w_49 : (Jvm.Cond.code ({ cls := "TelescopeNight$Night", name := "settle", desc := "()V" } : Jvm.MethodName) prog_4_method_4_code (3 : Nat) (Option.none : Option Jvm.ClassFile.FieldType)) ∈ GW := gw_t 49 (by decide +kernel) (by decide +kernel)
theorem w_50 : (Jvm.Cond.methodLink "TelescopeNight$Night" (55 : Nat) ({ cls := "TelescopeNight$Night", name := "number", desc := "(II)I" } : Jvm.MethodName)) ∈ GW := gw_t 50 (by decide +kernel) (by decide +kernel)
theorem w_51 : (Jvm.Cond.instanceMethod ({ cls := "TelescopeNight$Night", name := "number", desc := "(II)I" } : Jvm.MethodName)) ∈ GW := gw_t 51 (by decide +kernel) (by decide +kernel)
theorem w_52 : (Jvm.Cond.selects "TelescopeNight$Night" ({ cls := "TelescopeNight$Night", name := "number", desc := "(II)I" } : Jvm.MethodName) ({ cls := "TelescopeNight$Night", name := "number", desc := "(II)I" } : Jvm.MethodName)) ∈ GW := gw_t 52 (by decide +kernel) (by decide +kernel)
theorem w_53 : (Jvm.Cond.code ({ cls := "TelescopeNight$Night", name := "number", desc := "(II)I" } : Jvm.MethodName) prog_4_method_7_code (4 : Nat) (Option.some Jvm.ClassFile.FieldType.int)) ∈ GW := gw_t 53 (by decide +kernel) (by decide +kernel)
theorem w_54 : (Jvm.Cond.methodLink "TelescopeNight$Night" (59 : Nat) ({ cls := "TelescopeNight$Night", name := "targetsSeenIn", desc := "(I)I" } : Jvm.MethodName)) ∈ GW := gw_t 54 (by decide +kernel) (by decide +kernel)
theorem w_56 : (Jvm.Cond.instanceMethod ({ cls := "TelescopeNight$Night", name := "targetsSeenIn", desc := "(I)I" } : Jvm.MethodName)) ∈ GW := gw_t 56 (by decide +kernel) (by decide +kernel)
theorem w_57 : (Jvm.Cond.code ({ cls := "TelescopeNight$Night", name := "targetsSeenIn", desc := "(I)I" } : Jvm.MethodName) prog_4_method_5_code (4 : Nat) (Option.some Jvm.ClassFile.FieldType.int)) ∈ GW := gw_t 57 (by decide +kernel) (by decide +kernel)
theorem w_58 : (Jvm.Cond.methodLink "TelescopeNight$Night" (64 : Nat) ({ cls := "TelescopeNight$Night", name := "canBeSeen", desc := "(II)Z" } : Jvm.MethodName)) ∈ GW := gw_t 58 (by decide +kernel) (by decide +kernel)
theorem w_60 : (Jvm.Cond.instanceMethod ({ cls := "TelescopeNight$Night", name := "canBeSeen", desc := "(II)Z" } : Jvm.MethodName)) ∈ GW := gw_t 60 (by decide +kernel) (by decide +kernel)
theorem w_61 : (Jvm.Cond.code ({ cls := "TelescopeNight$Night", name := "canBeSeen", desc := "(II)Z" } : Jvm.MethodName) prog_4_method_6_code (4 : Nat) (Option.some Jvm.ClassFile.FieldType.boolean)) ∈ GW := gw_t 61 (by decide +kernel) (by decide +kernel)
theorem w_62 : (Jvm.Cond.methodLink "TelescopeNight$Night" (68 : Nat) ({ cls := "TelescopeNight$Night", name := "targetHeight", desc := "(II)I" } : Jvm.MethodName)) ∈ GW := gw_t 62 (by decide +kernel) (by decide +kernel)
theorem w_63 : (Jvm.Cond.instanceMethod ({ cls := "TelescopeNight$Night", name := "targetHeight", desc := "(II)I" } : Jvm.MethodName)) ∈ GW := gw_t 63 (by decide +kernel) (by decide +kernel)
theorem w_64 : (Jvm.Cond.selects "TelescopeNight$Night" ({ cls := "TelescopeNight$Night", name := "targetHeight", desc := "(II)I" } : Jvm.MethodName) ({ cls := "TelescopeNight$Night", name := "targetHeight", desc := "(II)I" } : Jvm.MethodName)) ∈ GW := gw_t 64 (by decide +kernel) (by decide +kernel)
theorem w_65 : (Jvm.Cond.code ({ cls := "TelescopeNight$Night", name := "targetHeight", desc := "(II)I" } : Jvm.MethodName) prog_4_method_8_code (4 : Nat) (Option.some Jvm.ClassFile.FieldType.int)) ∈ GW := gw_t 65 (by decide +kernel) (by decide +kernel)
theorem w_66 : (Jvm.Cond.methodLink "TelescopeNight$Night" (71 : Nat) ({ cls := "TelescopeNight$Night", name := "heightOfMoon", desc := "(I)I" } : Jvm.MethodName)) ∈ GW := gw_t 66 (by decide +kernel) (by decide +kernel)
theorem w_67 : (Jvm.Cond.instanceMethod ({ cls := "TelescopeNight$Night", name := "heightOfMoon", desc := "(I)I" } : Jvm.MethodName)) ∈ GW := gw_t 67 (by decide +kernel) (by decide +kernel)
theorem w_68 : (Jvm.Cond.selects "TelescopeNight$Night" ({ cls := "TelescopeNight$Night", name := "heightOfMoon", desc := "(I)I" } : Jvm.MethodName) ({ cls := "TelescopeNight$Night", name := "heightOfMoon", desc := "(I)I" } : Jvm.MethodName)) ∈ GW := gw_t 68 (by decide +kernel) (by decide +kernel)
theorem w_69 : (Jvm.Cond.code ({ cls := "TelescopeNight$Night", name := "heightOfMoon", desc := "(I)I" } : Jvm.MethodName) prog_4_method_9_code (3 : Nat) (Option.some Jvm.ClassFile.FieldType.int)) ∈ GW := gw_t 69 (by decide +kernel) (by decide +kernel)
theorem w_70 : (Jvm.Cond.methodLink "TelescopeNight$Night" (74 : Nat) ({ cls := "TelescopeNight$Night", name := "distanceToMoon", desc := "(II)I" } : Jvm.MethodName)) ∈ GW := gw_t 70 (by decide +kernel) (by decide +kernel)
theorem w_71 : (Jvm.Cond.instanceMethod ({ cls := "TelescopeNight$Night", name := "distanceToMoon", desc := "(II)I" } : Jvm.MethodName)) ∈ GW := gw_t 71 (by decide +kernel) (by decide +kernel)
theorem w_72 : (Jvm.Cond.selects "TelescopeNight$Night" ({ cls := "TelescopeNight$Night", name := "distanceToMoon", desc := "(II)I" } : Jvm.MethodName) ({ cls := "TelescopeNight$Night", name := "distanceToMoon", desc := "(II)I" } : Jvm.MethodName)) ∈ GW := gw_t 72 (by decide +kernel) (by decide +kernel)
theorem w_73 : (Jvm.Cond.code ({ cls := "TelescopeNight$Night", name := "distanceToMoon", desc := "(II)I" } : Jvm.MethodName) prog_4_method_10_code (6 : Nat) (Option.some Jvm.ClassFile.FieldType.int)) ∈ GW := gw_t 73 (by decide +kernel) (by decide +kernel)
theorem w_74 : (Jvm.Cond.methodLink "TelescopeNight$Night" (77 : Nat) ({ cls := "java/lang/Math", name := "abs", desc := "(I)I" } : Jvm.MethodName)) ∈ GW := gw_t 74 (by decide +kernel) (by decide +kernel)
theorem w_75 : (Jvm.Cond.static ({ cls := "java/lang/Math", name := "abs", desc := "(I)I" } : Jvm.MethodName)) ∈ GW := gw_t 75 (by decide +kernel) (by decide +kernel)
theorem w_76 : (Jvm.Cond.code ({ cls := "java/lang/Math", name := "abs", desc := "(I)I" } : Jvm.MethodName) prog_19_method_59_code (1 : Nat) (Option.some Jvm.ClassFile.FieldType.int)) ∈ GW := gw_t 76 (by decide +kernel) (by decide +kernel)
theorem w_77 : (Jvm.Cond.methodLink "TelescopeNight$Night" (82 : Nat) ({ cls := "java/lang/Math", name := "min", desc := "(II)I" } : Jvm.MethodName)) ∈ GW := gw_t 77 (by decide +kernel) (by decide +kernel)
theorem w_78 : (Jvm.Cond.static ({ cls := "java/lang/Math", name := "min", desc := "(II)I" } : Jvm.MethodName)) ∈ GW := gw_t 78 (by decide +kernel) (by decide +kernel)
theorem w_79 : (Jvm.Cond.code ({ cls := "java/lang/Math", name := "min", desc := "(II)I" } : Jvm.MethodName) prog_19_method_69_code (2 : Nat) (Option.some Jvm.ClassFile.FieldType.int)) ∈ GW := gw_t 79 (by decide +kernel) (by decide +kernel)
theorem w_80 : (Jvm.Cond.constant "TelescopeNight$Night" (63 : Nat) (1000000 : Int32)) ∈ GW := gw_t 80 (by decide +kernel) (by decide +kernel)
theorem w_81 : (Jvm.Cond.fieldLink "TelescopeNight$Night" (33 : Nat) "TelescopeNight$Night" "slots" "I") ∈ GW := gw_t 81 (by decide +kernel) (by decide +kernel)
theorem w_84 : (Jvm.Cond.fieldLink "TelescopeNight$Plans" (92 : Nat) "TelescopeNight$Night" "slots" "I") ∈ GW := gw_t 84 (by decide +kernel) (by decide +kernel)
theorem w_85 : (Jvm.Cond.fieldLink "TelescopeNight$Reach" (94 : Nat) "TelescopeNight$Night" "slots" "I") ∈ GW := gw_t 85 (by decide +kernel) (by decide +kernel)
theorem w_86 : (Jvm.Cond.fieldLink "TelescopeNight$Decisions" (82 : Nat) "TelescopeNight$Night" "slots" "I") ∈ GW := gw_t 86 (by decide +kernel) (by decide +kernel)
theorem w_87 : (Jvm.Cond.fieldLink "TelescopeNight$Night" (37 : Nat) "TelescopeNight$Night" "targets" "I") ∈ GW := gw_t 87 (by decide +kernel) (by decide +kernel)
theorem w_89 : (Jvm.Cond.fieldLink "TelescopeNight$Reach" (75 : Nat) "TelescopeNight$Night" "targets" "I") ∈ GW := gw_t 89 (by decide +kernel) (by decide +kernel)
theorem w_91 : (Jvm.Cond.fieldLink "TelescopeNight$Plans" (131 : Nat) "TelescopeNight$Night" "targets" "I") ∈ GW := gw_t 91 (by decide +kernel) (by decide +kernel)
theorem w_92 : (Jvm.Cond.fieldLink "TelescopeNight$Decisions" (164 : Nat) "TelescopeNight$Night" "targets" "I") ∈ GW := gw_t 92 (by decide +kernel) (by decide +kernel)
theorem w_93 : (Jvm.Cond.fieldLink "TelescopeNight$Night" (46 : Nat) "TelescopeNight$Night" "teams" "I") ∈ GW := gw_t 93 (by decide +kernel) (by decide +kernel)
theorem w_95 : (Jvm.Cond.fieldLink "TelescopeNight$Night" (11 : Nat) "TelescopeNight$Night" "moon" "[I") ∈ GW := gw_t 95 (by decide +kernel) (by decide +kernel)
theorem w_97 : (Jvm.Cond.fieldLink "TelescopeNight$Night" (15 : Nat) "TelescopeNight$Night" "percents" "[I") ∈ GW := gw_t 97 (by decide +kernel) (by decide +kernel)
theorem w_98 : (Jvm.Cond.fieldLink "TelescopeNight$Outlook" (20 : Nat) "TelescopeNight$Night" "percents" "[I") ∈ GW := gw_t 98 (by decide +kernel) (by decide +kernel)
theorem w_100 : (Jvm.Cond.fieldLink "TelescopeNight$Decisions" (98 : Nat) "TelescopeNight$Night" "percents" "[I") ∈ GW := gw_t 100 (by decide +kernel) (by decide +kernel)
theorem w_102 : (Jvm.Cond.fieldLink "TelescopeNight$Night" (18 : Nat) "TelescopeNight$Night" "numbers" "[I") ∈ GW := gw_t 102 (by decide +kernel) (by decide +kernel)
theorem w_104 : (Jvm.Cond.fieldLink "TelescopeNight$Night" (21 : Nat) "TelescopeNight$Night" "seen" "[I") ∈ GW := gw_t 104 (by decide +kernel) (by decide +kernel)
theorem w_105 : (Jvm.Cond.fieldLink "TelescopeNight$Night" (24 : Nat) "TelescopeNight$Night" "odds" "[I") ∈ GW := gw_t 105 (by decide +kernel) (by decide +kernel)
theorem w_123 : (Jvm.Cond.arrayClass Jvm.ClassFile.FieldType.int) ∈ GW := gw_t 123 (by decide +kernel) (by decide +kernel)
theorem w_129 : (Jvm.Cond.methodLink "TelescopeNight$Progress" (3 : Nat) ({ cls := "java/lang/Object", name := "<init>", desc := "()V" } : Jvm.MethodName)) ∈ GW := gw_t 129 (by decide +kernel) (by decide +kernel)
theorem w_130 : (Jvm.Cond.fieldLink "TelescopeNight$Progress" (18 : Nat) "TelescopeNight$Progress" "present" "I") ∈ GW := gw_t 130 (by decide +kernel) (by decide +kernel)
theorem w_131 : (Jvm.Cond.fieldLink "TelescopeNight$Decisions" (53 : Nat) "TelescopeNight$Progress" "present" "I") ∈ GW := gw_t 131 (by decide +kernel) (by decide +kernel)
theorem w_132 : (Jvm.Cond.fieldLink "TelescopeNight$Reach" (57 : Nat) "TelescopeNight$Progress" "present" "I") ∈ GW := gw_t 132 (by decide +kernel) (by decide +kernel)
theorem w_134 : (Jvm.Cond.fieldLink "TelescopeNight$Plans" (97 : Nat) "TelescopeNight$Progress" "present" "I") ∈ GW := gw_t 134 (by decide +kernel) (by decide +kernel)
theorem w_135 : (Jvm.Cond.fieldLink "TelescopeNight$Progress" (22 : Nat) "TelescopeNight$Progress" "sky" "I") ∈ GW := gw_t 135 (by decide +kernel) (by decide +kernel)
theorem w_137 : (Jvm.Cond.fieldLink "TelescopeNight$Decisions" (87 : Nat) "TelescopeNight$Progress" "sky" "I") ∈ GW := gw_t 137 (by decide +kernel) (by decide +kernel)
theorem w_138 : (Jvm.Cond.fieldLink "TelescopeNight$Plans" (126 : Nat) "TelescopeNight$Progress" "sky" "I") ∈ GW := gw_t 138 (by decide +kernel) (by decide +kernel)
theorem w_139 : (Jvm.Cond.fieldLink "TelescopeNight$Progress" (25 : Nat) "TelescopeNight$Progress" "points" "I") ∈ GW := gw_t 139 (by decide +kernel) (by decide +kernel)
theorem w_141 : (Jvm.Cond.fieldLink "TelescopeNight$Progress" (28 : Nat) "TelescopeNight$Progress" "waived" "I") ∈ GW := gw_t 141 (by decide +kernel) (by decide +kernel)
theorem w_142 : (Jvm.Cond.fieldLink "TelescopeNight$Reach" (60 : Nat) "TelescopeNight$Progress" "waived" "I") ∈ GW := gw_t 142 (by decide +kernel) (by decide +kernel)
theorem w_143 : (Jvm.Cond.fieldLink "TelescopeNight$Plans" (155 : Nat) "TelescopeNight$Progress" "waived" "I") ∈ GW := gw_t 143 (by decide +kernel) (by decide +kernel)
theorem w_145 : (Jvm.Cond.fieldLink "TelescopeNight$Progress" (31 : Nat) "TelescopeNight$Progress" "made" "I") ∈ GW := gw_t 145 (by decide +kernel) (by decide +kernel)
theorem w_146 : (Jvm.Cond.fieldLink "TelescopeNight$Decisions" (43 : Nat) "TelescopeNight$Progress" "made" "I") ∈ GW := gw_t 146 (by decide +kernel) (by decide +kernel)
theorem w_147 : (Jvm.Cond.fieldLink "TelescopeNight$Plans" (48 : Nat) "TelescopeNight$Progress" "made" "I") ∈ GW := gw_t 147 (by decide +kernel) (by decide +kernel)
theorem w_148 : (Jvm.Cond.fieldLink "TelescopeNight$Reach" (49 : Nat) "TelescopeNight$Progress" "made" "I") ∈ GW := gw_t 148 (by decide +kernel) (by decide +kernel)
theorem w_150 : (Jvm.Cond.fieldLink "TelescopeNight$Progress" (9 : Nat) "TelescopeNight$Progress" "pastTargets" "[I") ∈ GW := gw_t 150 (by decide +kernel) (by decide +kernel)
theorem w_152 : (Jvm.Cond.fieldLink "TelescopeNight$Progress" (15 : Nat) "TelescopeNight$Progress" "pastSkies" "[I") ∈ GW := gw_t 152 (by decide +kernel) (by decide +kernel)
theorem w_174 : (Jvm.Cond.methodLink "TelescopeNight$Reach" (3 : Nat) ({ cls := "java/lang/Object", name := "<init>", desc := "()V" } : Jvm.MethodName)) ∈ GW := gw_t 174 (by decide +kernel) (by decide +kernel)
theorem w_175 : (Jvm.Cond.fieldLink "TelescopeNight$Reach" (21 : Nat) "TelescopeNight$Reach" "night" "LTelescopeNight$Night;") ∈ GW := gw_t 175 (by decide +kernel) (by decide +kernel)
theorem w_176 : (Jvm.Cond.fieldLink "TelescopeNight$Reach" (25 : Nat) "TelescopeNight$Reach" "progress" "LTelescopeNight$Progress;") ∈ GW := gw_t 176 (by decide +kernel) (by decide +kernel)
theorem w_177 : (Jvm.Cond.fieldLink "TelescopeNight$Reach" (29 : Nat) "TelescopeNight$Reach" "withTurns" "Z") ∈ GW := gw_t 177 (by decide +kernel) (by decide +kernel)
theorem w_178 : (Jvm.Cond.fieldLink "TelescopeNight$Reach" (33 : Nat) "TelescopeNight$Reach" "known" "Z") ∈ GW := gw_t 178 (by decide +kernel) (by decide +kernel)
theorem w_179 : (Jvm.Cond.fieldLink "TelescopeNight$Reach" (54 : Nat) "TelescopeNight$Reach" "span" "I") ∈ GW := gw_t 179 (by decide +kernel) (by decide +kernel)
theorem w_180 : (Jvm.Cond.fieldLink "TelescopeNight$Plans" (74 : Nat) "TelescopeNight$Reach" "span" "I") ∈ GW := gw_t 180 (by decide +kernel) (by decide +kernel)
theorem w_181 : (Jvm.Cond.fieldLink "TelescopeNight$Decisions" (120 : Nat) "TelescopeNight$Reach" "span" "I") ∈ GW := gw_t 181 (by decide +kernel) (by decide +kernel)
theorem w_182 : (Jvm.Cond.fieldLink "TelescopeNight$Reach" (36 : Nat) "TelescopeNight$Reach" "size" "I") ∈ GW := gw_t 182 (by decide +kernel) (by decide +kernel)
theorem w_183 : (Jvm.Cond.fieldLink "TelescopeNight$Plans" (81 : Nat) "TelescopeNight$Reach" "size" "I") ∈ GW := gw_t 183 (by decide +kernel) (by decide +kernel)
theorem w_184 : (Jvm.Cond.fieldLink "TelescopeNight$Decisions" (127 : Nat) "TelescopeNight$Reach" "size" "I") ∈ GW := gw_t 184 (by decide +kernel) (by decide +kernel)
theorem w_185 : (Jvm.Cond.fieldLink "TelescopeNight$Reach" (9 : Nat) "TelescopeNight$Reach" "states" "[I") ∈ GW := gw_t 185 (by decide +kernel) (by decide +kernel)
theorem w_186 : (Jvm.Cond.fieldLink "TelescopeNight$Plans" (84 : Nat) "TelescopeNight$Reach" "states" "[I") ∈ GW := gw_t 186 (by decide +kernel) (by decide +kernel)
theorem w_187 : (Jvm.Cond.fieldLink "TelescopeNight$Decisions" (130 : Nat) "TelescopeNight$Reach" "states" "[I") ∈ GW := gw_t 187 (by decide +kernel) (by decide +kernel)
theorem w_188 : (Jvm.Cond.fieldLink "TelescopeNight$Reach" (15 : Nat) "TelescopeNight$Reach" "wanting" "[I") ∈ GW := gw_t 188 (by decide +kernel) (by decide +kernel)
theorem w_189 : (Jvm.Cond.fieldLink "TelescopeNight$Reach" (18 : Nat) "TelescopeNight$Reach" "earliest" "[I") ∈ GW := gw_t 189 (by decide +kernel) (by decide +kernel)
theorem w_280 : (Jvm.Cond.methodLink "TelescopeNight$Plans" (3 : Nat) ({ cls := "java/lang/Object", name := "<init>", desc := "()V" } : Jvm.MethodName)) ∈ GW := gw_t 280 (by decide +kernel) (by decide +kernel)
theorem w_281 : (Jvm.Cond.fieldLink "TelescopeNight$Plans" (21 : Nat) "TelescopeNight$Plans" "night" "LTelescopeNight$Night;") ∈ GW := gw_t 281 (by decide +kernel) (by decide +kernel)
theorem w_282 : (Jvm.Cond.fieldLink "TelescopeNight$Plans" (25 : Nat) "TelescopeNight$Plans" "progress" "LTelescopeNight$Progress;") ∈ GW := gw_t 282 (by decide +kernel) (by decide +kernel)
theorem w_283 : (Jvm.Cond.fieldLink "TelescopeNight$Plans" (29 : Nat) "TelescopeNight$Plans" "turnReach" "LTelescopeNight$Reach;") ∈ GW := gw_t 283 (by decide +kernel) (by decide +kernel)
theorem w_284 : (Jvm.Cond.fieldLink "TelescopeNight$Plans" (33 : Nat) "TelescopeNight$Plans" "freeReach" "LTelescopeNight$Reach;") ∈ GW := gw_t 284 (by decide +kernel) (by decide +kernel)
theorem w_285 : (Jvm.Cond.fieldLink "TelescopeNight$Plans" (60 : Nat) "TelescopeNight$Plans" "kind" "I") ∈ GW := gw_t 285 (by decide +kernel) (by decide +kernel)
theorem w_286 : (Jvm.Cond.fieldLink "TelescopeNight$Plans" (63 : Nat) "TelescopeNight$Plans" "chosenSlot" "I") ∈ GW := gw_t 286 (by decide +kernel) (by decide +kernel)
theorem w_287 : (Jvm.Cond.fieldLink "TelescopeNight$Plans" (66 : Nat) "TelescopeNight$Plans" "chosenTarget" "I") ∈ GW := gw_t 287 (by decide +kernel) (by decide +kernel)
theorem w_288 : (Jvm.Cond.fieldLink "TelescopeNight$Plans" (9 : Nat) "TelescopeNight$Plans" "values" "[J") ∈ GW := gw_t 288 (by decide +kernel) (by decide +kernel)
theorem w_289 : (Jvm.Cond.fieldLink "TelescopeNight$Plans" (15 : Nat) "TelescopeNight$Plans" "ways" "[J") ∈ GW := gw_t 289 (by decide +kernel) (by decide +kernel)
theorem w_290 : (Jvm.Cond.fieldLink "TelescopeNight$Plans" (18 : Nat) "TelescopeNight$Plans" "firsts" "[J") ∈ GW := gw_t 290 (by decide +kernel) (by decide +kernel)
theorem w_291 : (Jvm.Cond.fieldLink "TelescopeNight$Plans" (36 : Nat) "TelescopeNight$Plans" "known" "Z") ∈ GW := gw_t 291 (by decide +kernel) (by decide +kernel)
theorem w_292 : (Jvm.Cond.fieldLink "TelescopeNight$Plans" (44 : Nat) "TelescopeNight$Plans" "bestValue" "J") ∈ GW := gw_t 292 (by decide +kernel) (by decide +kernel)
theorem w_294 : (Jvm.Cond.fieldLink "TelescopeNight$Plans" (54 : Nat) "TelescopeNight$Plans" "bestWays" "J") ∈ GW := gw_t 294 (by decide +kernel) (by decide +kernel)
theorem w_296 : (Jvm.Cond.fieldLink "TelescopeNight$Plans" (57 : Nat) "TelescopeNight$Plans" "bestFirst" "J") ∈ GW := gw_t 296 (by decide +kernel) (by decide +kernel)
theorem w_326 : (Jvm.Cond.arrayClass Jvm.ClassFile.FieldType.long) ∈ GW := gw_t 326 (by decide +kernel) (by decide +kernel)
theorem w_332 : (Jvm.Cond.methodLink "TelescopeNight$Decisions" (3 : Nat) ({ cls := "java/lang/Object", name := "<init>", desc := "()V" } : Jvm.MethodName)) ∈ GW := gw_t 332 (by decide +kernel) (by decide +kernel)
theorem w_333 : (Jvm.Cond.classLink "TelescopeNight$Decisions" (23 : Nat) "TelescopeNight$Outlook") ∈ GW := gw_t 333 (by decide +kernel) (by decide +kernel)
theorem w_334 : (Jvm.Cond.instantiable "TelescopeNight$Outlook" (3 : Nat)) ∈ GW := gw_t 334 (by decide +kernel) (by decide +kernel)
theorem w_335 : (Jvm.Cond.methodLink "TelescopeNight$Decisions" (25 : Nat) ({ cls := "TelescopeNight$Outlook", name := "<init>", desc := "(LTelescopeNight$Night;)V" } : Jvm.MethodName)) ∈ GW := gw_t 335 (by decide +kernel) (by decide +kernel)
theorem w_336 : (Jvm.Cond.instanceMethod ({ cls := "TelescopeNight$Outlook", name := "<init>", desc := "(LTelescopeNight$Night;)V" } : Jvm.MethodName)) ∈ GW := gw_t 336 (by decide +kernel) (by decide +kernel)
theorem w_337 : (Jvm.Cond.code ({ cls := "TelescopeNight$Outlook", name := "<init>", desc := "(LTelescopeNight$Night;)V" } : Jvm.MethodName) prog_5_method_1_code (2 : Nat) (Option.none : Option Jvm.ClassFile.FieldType)) ∈ GW := gw_t 337 (by decide +kernel) (by decide +kernel)
theorem w_338 : (Jvm.Cond.methodLink "TelescopeNight$Outlook" (1 : Nat) ({ cls := "java/lang/Object", name := "<init>", desc := "()V" } : Jvm.MethodName)) ∈ GW := gw_t 338 (by decide +kernel) (by decide +kernel)
theorem w_339 : (Jvm.Cond.fieldLink "TelescopeNight$Outlook" (16 : Nat) "TelescopeNight$Outlook" "night" "LTelescopeNight$Night;") ∈ GW := gw_t 339 (by decide +kernel) (by decide +kernel)
theorem w_340 : (Jvm.Cond.fieldLink "TelescopeNight$Outlook" (7 : Nat) "TelescopeNight$Outlook" "clear" "[J") ∈ GW := gw_t 340 (by decide +kernel) (by decide +kernel)
theorem w_341 : (Jvm.Cond.fieldLink "TelescopeNight$Outlook" (13 : Nat) "TelescopeNight$Outlook" "cloudy" "[J") ∈ GW := gw_t 341 (by decide +kernel) (by decide +kernel)
theorem w_349 : (Jvm.Cond.fieldLink "TelescopeNight$Decisions" (9 : Nat) "TelescopeNight$Decisions" "night" "LTelescopeNight$Night;") ∈ GW := gw_t 349 (by decide +kernel) (by decide +kernel)
theorem w_350 : (Jvm.Cond.fieldLink "TelescopeNight$Decisions" (15 : Nat) "TelescopeNight$Decisions" "progress" "LTelescopeNight$Progress;") ∈ GW := gw_t 350 (by decide +kernel) (by decide +kernel)
theorem w_351 : (Jvm.Cond.fieldLink "TelescopeNight$Decisions" (19 : Nat) "TelescopeNight$Decisions" "reach" "LTelescopeNight$Reach;") ∈ GW := gw_t 351 (by decide +kernel) (by decide +kernel)
theorem w_352 : (Jvm.Cond.fieldLink "TelescopeNight$Decisions" (28 : Nat) "TelescopeNight$Decisions" "best" "LTelescopeNight$Outlook;") ∈ GW := gw_t 352 (by decide +kernel) (by decide +kernel)
theorem w_353 : (Jvm.Cond.fieldLink "TelescopeNight$Decisions" (32 : Nat) "TelescopeNight$Decisions" "followed" "LTelescopeNight$Outlook;") ∈ GW := gw_t 353 (by decide +kernel) (by decide +kernel)
theorem w_354 : (Jvm.Cond.fieldLink "TelescopeNight$Decisions" (109 : Nat) "TelescopeNight$Decisions" "kind" "I") ∈ GW := gw_t 354 (by decide +kernel) (by decide +kernel)
theorem w_355 : (Jvm.Cond.fieldLink "TelescopeNight$Decisions" (112 : Nat) "TelescopeNight$Decisions" "counted" "I") ∈ GW := gw_t 355 (by decide +kernel) (by decide +kernel)
theorem w_356 : (Jvm.Cond.fieldLink "TelescopeNight$Decisions" (35 : Nat) "TelescopeNight$Decisions" "known" "Z") ∈ GW := gw_t 356 (by decide +kernel) (by decide +kernel)
theorem w_425 : (Jvm.Cond.methodLink "TelescopeNight$Night" (49 : Nat) ({ cls := "java/lang/System", name := "arraycopy", desc := "(Ljava/lang/Object;ILjava/lang/Object;II)V" } : Jvm.MethodName)) ∈ GW := gw_t 425 (by decide +kernel) (by decide +kernel)
theorem w_426 : (Jvm.Cond.static ({ cls := "java/lang/System", name := "arraycopy", desc := "(Ljava/lang/Object;ILjava/lang/Object;II)V" } : Jvm.MethodName)) ∈ GW := gw_t 426 (by decide +kernel) (by decide +kernel)
theorem w_427 : (Jvm.Cond.native ({ cls := "java/lang/System", name := "arraycopy", desc := "(Ljava/lang/Object;ILjava/lang/Object;II)V" } : Jvm.MethodName)) ∈ GW := gw_t 427 (by decide +kernel) (by decide +kernel)
theorem w_432 : (Jvm.Cond.methodLink "TelescopeNight$Progress" (34 : Nat) ({ cls := "java/lang/System", name := "arraycopy", desc := "(Ljava/lang/Object;ILjava/lang/Object;II)V" } : Jvm.MethodName)) ∈ GW := gw_t 432 (by decide +kernel) (by decide +kernel)
theorem w_459 : (Jvm.Cond.instanceMethod ({ cls := "TelescopeNight$Night", name := "teamsInTurn", desc := "(II)I" } : Jvm.MethodName)) ∈ GW := gw_t 459 (by decide +kernel) (by decide +kernel)
theorem w_460 : (Jvm.Cond.selects "TelescopeNight$Night" ({ cls := "TelescopeNight$Night", name := "teamsInTurn", desc := "(II)I" } : Jvm.MethodName) ({ cls := "TelescopeNight$Night", name := "teamsInTurn", desc := "(II)I" } : Jvm.MethodName)) ∈ GW := gw_t 460 (by decide +kernel) (by decide +kernel)
theorem w_461 : (Jvm.Cond.code ({ cls := "TelescopeNight$Night", name := "teamsInTurn", desc := "(II)I" } : Jvm.MethodName) prog_4_method_16_code (9 : Nat) (Option.some Jvm.ClassFile.FieldType.int)) ∈ GW := gw_t 461 (by decide +kernel) (by decide +kernel)
theorem w_462 : (Jvm.Cond.methodLink "TelescopeNight$Night" (97 : Nat) ({ cls := "TelescopeNight$Night", name := "turnCounts", desc := "(I)I" } : Jvm.MethodName)) ∈ GW := gw_t 462 (by decide +kernel) (by decide +kernel)
theorem w_463 : (Jvm.Cond.instanceMethod ({ cls := "TelescopeNight$Night", name := "turnCounts", desc := "(I)I" } : Jvm.MethodName)) ∈ GW := gw_t 463 (by decide +kernel) (by decide +kernel)
theorem w_464 : (Jvm.Cond.selects "TelescopeNight$Night" ({ cls := "TelescopeNight$Night", name := "turnCounts", desc := "(I)I" } : Jvm.MethodName) ({ cls := "TelescopeNight$Night", name := "turnCounts", desc := "(I)I" } : Jvm.MethodName)) ∈ GW := gw_t 464 (by decide +kernel) (by decide +kernel)
theorem w_465 : (Jvm.Cond.code ({ cls := "TelescopeNight$Night", name := "turnCounts", desc := "(I)I" } : Jvm.MethodName) prog_4_method_15_code (4 : Nat) (Option.some Jvm.ClassFile.FieldType.int)) ∈ GW := gw_t 465 (by decide +kernel) (by decide +kernel)
theorem w_467 : (Jvm.Cond.static ({ cls := "TelescopeNight", name := "madeOf", desc := "(II)I" } : Jvm.MethodName)) ∈ GW := gw_t 467 (by decide +kernel) (by decide +kernel)
theorem w_468 : (Jvm.Cond.code ({ cls := "TelescopeNight", name := "madeOf", desc := "(II)I" } : Jvm.MethodName) prog_1_method_51_code (2 : Nat) (Option.some Jvm.ClassFile.FieldType.int)) ∈ GW := gw_t 468 (by decide +kernel) (by decide +kernel)
theorem w_470 : (Jvm.Cond.static ({ cls := "TelescopeNight", name := "turnsIn", desc := "(II)I" } : Jvm.MethodName)) ∈ GW := gw_t 470 (by decide +kernel) (by decide +kernel)
theorem w_471 : (Jvm.Cond.code ({ cls := "TelescopeNight", name := "turnsIn", desc := "(II)I" } : Jvm.MethodName) prog_1_method_53_code (2 : Nat) (Option.some Jvm.ClassFile.FieldType.int)) ∈ GW := gw_t 471 (by decide +kernel) (by decide +kernel)
theorem w_473 : (Jvm.Cond.static ({ cls := "TelescopeNight", name := "has", desc := "(II)Z" } : Jvm.MethodName)) ∈ GW := gw_t 473 (by decide +kernel) (by decide +kernel)
theorem w_474 : (Jvm.Cond.code ({ cls := "TelescopeNight", name := "has", desc := "(II)Z" } : Jvm.MethodName) prog_1_method_50_code (2 : Nat) (Option.some Jvm.ClassFile.FieldType.boolean)) ∈ GW := gw_t 474 (by decide +kernel) (by decide +kernel)
theorem w_483 : (Jvm.Cond.methodLink "TelescopeNight$Plans" (40 : Nat) ({ cls := "TelescopeNight$Plans", name := "most", desc := "(III)J" } : Jvm.MethodName)) ∈ GW := gw_t 483 (by decide +kernel) (by decide +kernel)
theorem w_484 : (Jvm.Cond.instanceMethod ({ cls := "TelescopeNight$Plans", name := "most", desc := "(III)J" } : Jvm.MethodName)) ∈ GW := gw_t 484 (by decide +kernel) (by decide +kernel)
theorem w_485 : (Jvm.Cond.selects "TelescopeNight$Plans" ({ cls := "TelescopeNight$Plans", name := "most", desc := "(III)J" } : Jvm.MethodName) ({ cls := "TelescopeNight$Plans", name := "most", desc := "(III)J" } : Jvm.MethodName)) ∈ GW := gw_t 485 (by decide +kernel) (by decide +kernel)
theorem w_486 : (Jvm.Cond.code ({ cls := "TelescopeNight$Plans", name := "most", desc := "(III)J" } : Jvm.MethodName) prog_6_method_5_code (6 : Nat) (Option.some Jvm.ClassFile.FieldType.long)) ∈ GW := gw_t 486 (by decide +kernel) (by decide +kernel)
theorem w_487 : (Jvm.Cond.methodLink "TelescopeNight$Plans" (69 : Nat) ({ cls := "TelescopeNight$Reach", name := "update", desc := "()V" } : Jvm.MethodName)) ∈ GW := gw_t 487 (by decide +kernel) (by decide +kernel)
theorem w_488 : (Jvm.Cond.instanceMethod ({ cls := "TelescopeNight$Reach", name := "update", desc := "()V" } : Jvm.MethodName)) ∈ GW := gw_t 488 (by decide +kernel) (by decide +kernel)
theorem w_489 : (Jvm.Cond.selects "TelescopeNight$Reach" ({ cls := "TelescopeNight$Reach", name := "update", desc := "()V" } : Jvm.MethodName) ({ cls := "TelescopeNight$Reach", name := "update", desc := "()V" } : Jvm.MethodName)) ∈ GW := gw_t 489 (by decide +kernel) (by decide +kernel)
theorem w_490 : (Jvm.Cond.code ({ cls := "TelescopeNight$Reach", name := "update", desc := "()V" } : Jvm.MethodName) prog_8_method_3_code (3 : Nat) (Option.none : Option Jvm.ClassFile.FieldType)) ∈ GW := gw_t 490 (by decide +kernel) (by decide +kernel)
theorem w_491 : (Jvm.Cond.methodLink "TelescopeNight$Reach" (40 : Nat) ({ cls := "TelescopeNight$Reach", name := "makeRoom", desc := "()V" } : Jvm.MethodName)) ∈ GW := gw_t 491 (by decide +kernel) (by decide +kernel)
theorem w_493 : (Jvm.Cond.instanceMethod ({ cls := "TelescopeNight$Reach", name := "makeRoom", desc := "()V" } : Jvm.MethodName)) ∈ GW := gw_t 493 (by decide +kernel) (by decide +kernel)
theorem w_494 : (Jvm.Cond.code ({ cls := "TelescopeNight$Reach", name := "makeRoom", desc := "()V" } : Jvm.MethodName) prog_8_method_4_code (1 : Nat) (Option.none : Option Jvm.ClassFile.FieldType)) ∈ GW := gw_t 494 (by decide +kernel) (by decide +kernel)
theorem w_496 : (Jvm.Cond.static ({ cls := "TelescopeNight", name := "oneOf", desc := "(I)I" } : Jvm.MethodName)) ∈ GW := gw_t 496 (by decide +kernel) (by decide +kernel)
theorem w_497 : (Jvm.Cond.code ({ cls := "TelescopeNight", name := "oneOf", desc := "(I)I" } : Jvm.MethodName) prog_1_method_52_code (1 : Nat) (Option.some Jvm.ClassFile.FieldType.int)) ∈ GW := gw_t 497 (by decide +kernel) (by decide +kernel)
theorem w_498 : (Jvm.Cond.methodLink "TelescopeNight$Reach" (43 : Nat) ({ cls := "java/util/Arrays", name := "fill", desc := "([II)V" } : Jvm.MethodName)) ∈ GW := gw_t 498 (by decide +kernel) (by decide +kernel)
theorem w_499 : (Jvm.Cond.methodLink "TelescopeNight$Reach" (63 : Nat) ({ cls := "TelescopeNight$Night", name := "teamsInTurn", desc := "(II)I" } : Jvm.MethodName)) ∈ GW := gw_t 499 (by decide +kernel) (by decide +kernel)
theorem w_500 : (Jvm.Cond.methodLink "TelescopeNight$Reach" (69 : Nat) ({ cls := "TelescopeNight$Night", name := "wanting", desc := "(II)I" } : Jvm.MethodName)) ∈ GW := gw_t 500 (by decide +kernel) (by decide +kernel)
theorem w_501 : (Jvm.Cond.instanceMethod ({ cls := "TelescopeNight$Night", name := "wanting", desc := "(II)I" } : Jvm.MethodName)) ∈ GW := gw_t 501 (by decide +kernel) (by decide +kernel)
theorem w_502 : (Jvm.Cond.selects "TelescopeNight$Night" ({ cls := "TelescopeNight$Night", name := "wanting", desc := "(II)I" } : Jvm.MethodName) ({ cls := "TelescopeNight$Night", name := "wanting", desc := "(II)I" } : Jvm.MethodName)) ∈ GW := gw_t 502 (by decide +kernel) (by decide +kernel)
theorem w_503 : (Jvm.Cond.code ({ cls := "TelescopeNight$Night", name := "wanting", desc := "(II)I" } : Jvm.MethodName) prog_4_method_17_code (5 : Nat) (Option.some Jvm.ClassFile.FieldType.int)) ∈ GW := gw_t 503 (by decide +kernel) (by decide +kernel)
theorem w_504 : (Jvm.Cond.methodLink "TelescopeNight$Reach" (71 : Nat) ({ cls := "TelescopeNight$Reach", name := "reachFrom", desc := "(I)V" } : Jvm.MethodName)) ∈ GW := gw_t 504 (by decide +kernel) (by decide +kernel)
theorem w_506 : (Jvm.Cond.instanceMethod ({ cls := "TelescopeNight$Reach", name := "reachFrom", desc := "(I)V" } : Jvm.MethodName)) ∈ GW := gw_t 506 (by decide +kernel) (by decide +kernel)
theorem w_507 : (Jvm.Cond.code ({ cls := "TelescopeNight$Reach", name := "reachFrom", desc := "(I)V" } : Jvm.MethodName) prog_8_method_5_code (4 : Nat) (Option.none : Option Jvm.ClassFile.FieldType)) ∈ GW := gw_t 507 (by decide +kernel) (by decide +kernel)
theorem w_509 : (Jvm.Cond.methodLink "TelescopeNight$Reach" (86 : Nat) ({ cls := "TelescopeNight$Reach", name := "behindNext", desc := "(II)I" } : Jvm.MethodName)) ∈ GW := gw_t 509 (by decide +kernel) (by decide +kernel)
theorem w_511 : (Jvm.Cond.instanceMethod ({ cls := "TelescopeNight$Reach", name := "behindNext", desc := "(II)I" } : Jvm.MethodName)) ∈ GW := gw_t 511 (by decide +kernel) (by decide +kernel)
theorem w_512 : (Jvm.Cond.code ({ cls := "TelescopeNight$Reach", name := "behindNext", desc := "(II)I" } : Jvm.MethodName) prog_8_method_6_code (4 : Nat) (Option.some Jvm.ClassFile.FieldType.int)) ∈ GW := gw_t 512 (by decide +kernel) (by decide +kernel)
theorem w_513 : (Jvm.Cond.methodLink "TelescopeNight$Reach" (97 : Nat) ({ cls := "TelescopeNight$Night", name := "targetsIn", desc := "(I)I" } : Jvm.MethodName)) ∈ GW := gw_t 513 (by decide +kernel) (by decide +kernel)
theorem w_514 : (Jvm.Cond.instanceMethod ({ cls := "TelescopeNight$Night", name := "targetsIn", desc := "(I)I" } : Jvm.MethodName)) ∈ GW := gw_t 514 (by decide +kernel) (by decide +kernel)
theorem w_515 : (Jvm.Cond.selects "TelescopeNight$Night" ({ cls := "TelescopeNight$Night", name := "targetsIn", desc := "(I)I" } : Jvm.MethodName) ({ cls := "TelescopeNight$Night", name := "targetsIn", desc := "(I)I" } : Jvm.MethodName)) ∈ GW := gw_t 515 (by decide +kernel) (by decide +kernel)
theorem w_516 : (Jvm.Cond.code ({ cls := "TelescopeNight$Night", name := "targetsIn", desc := "(I)I" } : Jvm.MethodName) prog_4_method_12_code (2 : Nat) (Option.some Jvm.ClassFile.FieldType.int)) ∈ GW := gw_t 516 (by decide +kernel) (by decide +kernel)
theorem w_517 : (Jvm.Cond.methodLink "TelescopeNight$Reach" (89 : Nat) ({ cls := "java/lang/Math", name := "min", desc := "(II)I" } : Jvm.MethodName)) ∈ GW := gw_t 517 (by decide +kernel) (by decide +kernel)
theorem w_518 : (Jvm.Cond.methodLink "TelescopeNight$Plans" (77 : Nat) ({ cls := "TelescopeNight$Plans", name := "makeRoom", desc := "(I)V" } : Jvm.MethodName)) ∈ GW := gw_t 518 (by decide +kernel) (by decide +kernel)
theorem w_520 : (Jvm.Cond.instanceMethod ({ cls := "TelescopeNight$Plans", name := "makeRoom", desc := "(I)V" } : Jvm.MethodName)) ∈ GW := gw_t 520 (by decide +kernel) (by decide +kernel)
theorem w_521 : (Jvm.Cond.code ({ cls := "TelescopeNight$Plans", name := "makeRoom", desc := "(I)V" } : Jvm.MethodName) prog_6_method_6_code (2 : Nat) (Option.none : Option Jvm.ClassFile.FieldType)) ∈ GW := gw_t 521 (by decide +kernel) (by decide +kernel)
theorem w_522 : (Jvm.Cond.methodLink "TelescopeNight$Plans" (88 : Nat) ({ cls := "TelescopeNight$Plans", name := "put", desc := "(IJJJ)V" } : Jvm.MethodName)) ∈ GW := gw_t 522 (by decide +kernel) (by decide +kernel)
theorem w_524 : (Jvm.Cond.instanceMethod ({ cls := "TelescopeNight$Plans", name := "put", desc := "(IJJJ)V" } : Jvm.MethodName)) ∈ GW := gw_t 524 (by decide +kernel) (by decide +kernel)
theorem w_525 : (Jvm.Cond.code ({ cls := "TelescopeNight$Plans", name := "put", desc := "(IJJJ)V" } : Jvm.MethodName) prog_6_method_7_code (8 : Nat) (Option.none : Option Jvm.ClassFile.FieldType)) ∈ GW := gw_t 525 (by decide +kernel) (by decide +kernel)
theorem w_526 : (Jvm.Cond.methodLink "TelescopeNight$Plans" (100 : Nat) ({ cls := "TelescopeNight$Plans", name := "stepBack", desc := "(LTelescopeNight$Reach;I)V" } : Jvm.MethodName)) ∈ GW := gw_t 526 (by decide +kernel) (by decide +kernel)
theorem w_528 : (Jvm.Cond.instanceMethod ({ cls := "TelescopeNight$Plans", name := "stepBack", desc := "(LTelescopeNight$Reach;I)V" } : Jvm.MethodName)) ∈ GW := gw_t 528 (by decide +kernel) (by decide +kernel)
theorem w_529 : (Jvm.Cond.code ({ cls := "TelescopeNight$Plans", name := "stepBack", desc := "(LTelescopeNight$Reach;I)V" } : Jvm.MethodName) prog_6_method_8_code (5 : Nat) (Option.none : Option Jvm.ClassFile.FieldType)) ∈ GW := gw_t 529 (by decide +kernel) (by decide +kernel)
theorem w_530 : (Jvm.Cond.methodLink "TelescopeNight$Plans" (104 : Nat) ({ cls := "TelescopeNight$Reach", name := "holds", desc := "(II)Z" } : Jvm.MethodName)) ∈ GW := gw_t 530 (by decide +kernel) (by decide +kernel)
theorem w_531 : (Jvm.Cond.instanceMethod ({ cls := "TelescopeNight$Reach", name := "holds", desc := "(II)Z" } : Jvm.MethodName)) ∈ GW := gw_t 531 (by decide +kernel) (by decide +kernel)
theorem w_532 : (Jvm.Cond.selects "TelescopeNight$Reach" ({ cls := "TelescopeNight$Reach", name := "holds", desc := "(II)Z" } : Jvm.MethodName) ({ cls := "TelescopeNight$Reach", name := "holds", desc := "(II)Z" } : Jvm.MethodName)) ∈ GW := gw_t 532 (by decide +kernel) (by decide +kernel)
theorem w_533 : (Jvm.Cond.code ({ cls := "TelescopeNight$Reach", name := "holds", desc := "(II)Z" } : Jvm.MethodName) prog_8_method_7_code (3 : Nat) (Option.some Jvm.ClassFile.FieldType.boolean)) ∈ GW := gw_t 533 (by decide +kernel) (by decide +kernel)
theorem w_534 : (Jvm.Cond.methodLink "TelescopeNight$Plans" (108 : Nat) ({ cls := "TelescopeNight$Reach", name := "possible", desc := "(II)I" } : Jvm.MethodName)) ∈ GW := gw_t 534 (by decide +kernel) (by decide +kernel)
theorem w_535 : (Jvm.Cond.instanceMethod ({ cls := "TelescopeNight$Reach", name := "possible", desc := "(II)I" } : Jvm.MethodName)) ∈ GW := gw_t 535 (by decide +kernel) (by decide +kernel)
theorem w_536 : (Jvm.Cond.selects "TelescopeNight$Reach" ({ cls := "TelescopeNight$Reach", name := "possible", desc := "(II)I" } : Jvm.MethodName) ({ cls := "TelescopeNight$Reach", name := "possible", desc := "(II)I" } : Jvm.MethodName)) ∈ GW := gw_t 536 (by decide +kernel) (by decide +kernel)
theorem w_537 : (Jvm.Cond.code ({ cls := "TelescopeNight$Reach", name := "possible", desc := "(II)I" } : Jvm.MethodName) prog_8_method_8_code (3 : Nat) (Option.some Jvm.ClassFile.FieldType.int)) ∈ GW := gw_t 537 (by decide +kernel) (by decide +kernel)
theorem w_538 : (Jvm.Cond.methodLink "TelescopeNight$Plans" (112 : Nat) ({ cls := "TelescopeNight$Plans", name := "allowed", desc := "(II)I" } : Jvm.MethodName)) ∈ GW := gw_t 538 (by decide +kernel) (by decide +kernel)
theorem w_540 : (Jvm.Cond.instanceMethod ({ cls := "TelescopeNight$Plans", name := "allowed", desc := "(II)I" } : Jvm.MethodName)) ∈ GW := gw_t 540 (by decide +kernel) (by decide +kernel)
theorem w_541 : (Jvm.Cond.code ({ cls := "TelescopeNight$Plans", name := "allowed", desc := "(II)I" } : Jvm.MethodName) prog_6_method_9_code (3 : Nat) (Option.some Jvm.ClassFile.FieldType.int)) ∈ GW := gw_t 541 (by decide +kernel) (by decide +kernel)
theorem w_542 : (Jvm.Cond.methodLink "TelescopeNight$Plans" (119 : Nat) ({ cls := "TelescopeNight$Plans", name := "isCloudyNow", desc := "(I)Z" } : Jvm.MethodName)) ∈ GW := gw_t 542 (by decide +kernel) (by decide +kernel)
theorem w_544 : (Jvm.Cond.instanceMethod ({ cls := "TelescopeNight$Plans", name := "isCloudyNow", desc := "(I)Z" } : Jvm.MethodName)) ∈ GW := gw_t 544 (by decide +kernel) (by decide +kernel)
theorem w_545 : (Jvm.Cond.code ({ cls := "TelescopeNight$Plans", name := "isCloudyNow", desc := "(I)Z" } : Jvm.MethodName) prog_6_method_10_code (2 : Nat) (Option.some Jvm.ClassFile.FieldType.boolean)) ∈ GW := gw_t 545 (by decide +kernel) (by decide +kernel)
theorem w_546 : (Jvm.Cond.methodLink "TelescopeNight$Plans" (123 : Nat) ({ cls := "TelescopeNight$Plans", name := "isChosen", desc := "(I)Z" } : Jvm.MethodName)) ∈ GW := gw_t 546 (by decide +kernel) (by decide +kernel)
theorem w_548 : (Jvm.Cond.instanceMethod ({ cls := "TelescopeNight$Plans", name := "isChosen", desc := "(I)Z" } : Jvm.MethodName)) ∈ GW := gw_t 548 (by decide +kernel) (by decide +kernel)
theorem w_549 : (Jvm.Cond.code ({ cls := "TelescopeNight$Plans", name := "isChosen", desc := "(I)Z" } : Jvm.MethodName) prog_6_method_11_code (2 : Nat) (Option.some Jvm.ClassFile.FieldType.boolean)) ∈ GW := gw_t 549 (by decide +kernel) (by decide +kernel)
theorem w_550 : (Jvm.Cond.methodLink "TelescopeNight$Plans" (115 : Nat) ({ cls := "TelescopeNight$Plans", name := "choose", desc := "(III)V" } : Jvm.MethodName)) ∈ GW := gw_t 550 (by decide +kernel) (by decide +kernel)
theorem w_552 : (Jvm.Cond.instanceMethod ({ cls := "TelescopeNight$Plans", name := "choose", desc := "(III)V" } : Jvm.MethodName)) ∈ GW := gw_t 552 (by decide +kernel) (by decide +kernel)
theorem w_553 : (Jvm.Cond.code ({ cls := "TelescopeNight$Plans", name := "choose", desc := "(III)V" } : Jvm.MethodName) prog_6_method_12_code (15 : Nat) (Option.none : Option Jvm.ClassFile.FieldType)) ∈ GW := gw_t 553 (by decide +kernel) (by decide +kernel)
theorem w_554 : (Jvm.Cond.constantLong "TelescopeNight$Plans" (129 : Nat) (-1 : Int64)) ∈ GW := gw_t 554 (by decide +kernel) (by decide +kernel)
theorem w_557 : (Jvm.Cond.methodLink "TelescopeNight$Plans" (141 : Nat) ({ cls := "TelescopeNight$Plans", name := "gain", desc := "(II)J" } : Jvm.MethodName)) ∈ GW := gw_t 557 (by decide +kernel) (by decide +kernel)
theorem w_559 : (Jvm.Cond.instanceMethod ({ cls := "TelescopeNight$Plans", name := "gain", desc := "(II)J" } : Jvm.MethodName)) ∈ GW := gw_t 559 (by decide +kernel) (by decide +kernel)
theorem w_560 : (Jvm.Cond.code ({ cls := "TelescopeNight$Plans", name := "gain", desc := "(II)J" } : Jvm.MethodName) prog_6_method_13_code (3 : Nat) (Option.some Jvm.ClassFile.FieldType.long)) ∈ GW := gw_t 560 (by decide +kernel) (by decide +kernel)
theorem w_561 : (Jvm.Cond.methodLink "TelescopeNight$Plans" (145 : Nat) ({ cls := "TelescopeNight$Night", name := "number", desc := "(II)I" } : Jvm.MethodName)) ∈ GW := gw_t 561 (by decide +kernel) (by decide +kernel)
theorem w_562 : (Jvm.Cond.methodLink "TelescopeNight$Plans" (148 : Nat) ({ cls := "TelescopeNight$Plans", name := "oddsOf", desc := "(I)I" } : Jvm.MethodName)) ∈ GW := gw_t 562 (by decide +kernel) (by decide +kernel)
theorem w_564 : (Jvm.Cond.instanceMethod ({ cls := "TelescopeNight$Plans", name := "oddsOf", desc := "(I)I" } : Jvm.MethodName)) ∈ GW := gw_t 564 (by decide +kernel) (by decide +kernel)
theorem w_565 : (Jvm.Cond.code ({ cls := "TelescopeNight$Plans", name := "oddsOf", desc := "(I)I" } : Jvm.MethodName) prog_6_method_14_code (2 : Nat) (Option.some Jvm.ClassFile.FieldType.int)) ∈ GW := gw_t 565 (by decide +kernel) (by decide +kernel)
theorem w_566 : (Jvm.Cond.constant "TelescopeNight$Plans" (151 : Nat) (1000000 : Int32)) ∈ GW := gw_t 566 (by decide +kernel) (by decide +kernel)
theorem w_567 : (Jvm.Cond.methodLink "TelescopeNight$Plans" (152 : Nat) ({ cls := "TelescopeNight$Night", name := "oddsIn", desc := "(I)I" } : Jvm.MethodName)) ∈ GW := gw_t 567 (by decide +kernel) (by decide +kernel)
theorem w_568 : (Jvm.Cond.instanceMethod ({ cls := "TelescopeNight$Night", name := "oddsIn", desc := "(I)I" } : Jvm.MethodName)) ∈ GW := gw_t 568 (by decide +kernel) (by decide +kernel)
theorem w_569 : (Jvm.Cond.selects "TelescopeNight$Night" ({ cls := "TelescopeNight$Night", name := "oddsIn", desc := "(I)I" } : Jvm.MethodName) ({ cls := "TelescopeNight$Night", name := "oddsIn", desc := "(I)I" } : Jvm.MethodName)) ∈ GW := gw_t 569 (by decide +kernel) (by decide +kernel)
theorem w_570 : (Jvm.Cond.code ({ cls := "TelescopeNight$Night", name := "oddsIn", desc := "(I)I" } : Jvm.MethodName) prog_4_method_13_code (2 : Nat) (Option.some Jvm.ClassFile.FieldType.int)) ∈ GW := gw_t 570 (by decide +kernel) (by decide +kernel)
theorem w_592 : (Jvm.Cond.methodLink "TelescopeNight$Plans" (158 : Nat) ({ cls := "TelescopeNight$Night", name := "teamsInTurn", desc := "(II)I" } : Jvm.MethodName)) ∈ GW := gw_t 592 (by decide +kernel) (by decide +kernel)
theorem w_593 : (Jvm.Cond.methodLink "TelescopeNight$Plans" (161 : Nat) ({ cls := "TelescopeNight$Night", name := "targetsIn", desc := "(I)I" } : Jvm.MethodName)) ∈ GW := gw_t 593 (by decide +kernel) (by decide +kernel)
theorem w_594 : (Jvm.Cond.methodLink "TelescopeNight$Plans" (164 : Nat) ({ cls := "TelescopeNight$Night", name := "wanting", desc := "(II)I" } : Jvm.MethodName)) ∈ GW := gw_t 594 (by decide +kernel) (by decide +kernel)
theorem w_595 : (Jvm.Cond.methodLink "TelescopeNight$Plans" (167 : Nat) ({ cls := "TelescopeNight$Night", name := "dearest", desc := "(I)I" } : Jvm.MethodName)) ∈ GW := gw_t 595 (by decide +kernel) (by decide +kernel)
theorem w_596 : (Jvm.Cond.instanceMethod ({ cls := "TelescopeNight$Night", name := "dearest", desc := "(I)I" } : Jvm.MethodName)) ∈ GW := gw_t 596 (by decide +kernel) (by decide +kernel)
theorem w_597 : (Jvm.Cond.selects "TelescopeNight$Night" ({ cls := "TelescopeNight$Night", name := "dearest", desc := "(I)I" } : Jvm.MethodName) ({ cls := "TelescopeNight$Night", name := "dearest", desc := "(I)I" } : Jvm.MethodName)) ∈ GW := gw_t 597 (by decide +kernel) (by decide +kernel)
theorem w_598 : (Jvm.Cond.code ({ cls := "TelescopeNight$Night", name := "dearest", desc := "(I)I" } : Jvm.MethodName) prog_4_method_18_code (4 : Nat) (Option.some Jvm.ClassFile.FieldType.int)) ∈ GW := gw_t 598 (by decide +kernel) (by decide +kernel)
theorem w_607 : (Jvm.Cond.methodLink "TelescopeNight$Decisions" (39 : Nat) ({ cls := "TelescopeNight$Decisions", name := "prepare", desc := "(II)V" } : Jvm.MethodName)) ∈ GW := gw_t 607 (by decide +kernel) (by decide +kernel)
theorem w_609 : (Jvm.Cond.instanceMethod ({ cls := "TelescopeNight$Decisions", name := "prepare", desc := "(II)V" } : Jvm.MethodName)) ∈ GW := gw_t 609 (by decide +kernel) (by decide +kernel)
theorem w_610 : (Jvm.Cond.code ({ cls := "TelescopeNight$Decisions", name := "prepare", desc := "(II)V" } : Jvm.MethodName) prog_2_method_11_code (4 : Nat) (Option.none : Option Jvm.ClassFile.FieldType)) ∈ GW := gw_t 610 (by decide +kernel) (by decide +kernel)
theorem w_611 : (Jvm.Cond.methodLink "TelescopeNight$Decisions" (115 : Nat) ({ cls := "TelescopeNight$Reach", name := "update", desc := "()V" } : Jvm.MethodName)) ∈ GW := gw_t 611 (by decide +kernel) (by decide +kernel)
theorem w_612 : (Jvm.Cond.methodLink "TelescopeNight$Decisions" (123 : Nat) ({ cls := "TelescopeNight$Outlook", name := "makeRoom", desc := "(I)V" } : Jvm.MethodName)) ∈ GW := gw_t 612 (by decide +kernel) (by decide +kernel)
theorem w_613 : (Jvm.Cond.instanceMethod ({ cls := "TelescopeNight$Outlook", name := "makeRoom", desc := "(I)V" } : Jvm.MethodName)) ∈ GW := gw_t 613 (by decide +kernel) (by decide +kernel)
theorem w_614 : (Jvm.Cond.selects "TelescopeNight$Outlook" ({ cls := "TelescopeNight$Outlook", name := "makeRoom", desc := "(I)V" } : Jvm.MethodName) ({ cls := "TelescopeNight$Outlook", name := "makeRoom", desc := "(I)V" } : Jvm.MethodName)) ∈ GW := gw_t 614 (by decide +kernel) (by decide +kernel)
theorem w_615 : (Jvm.Cond.code ({ cls := "TelescopeNight$Outlook", name := "makeRoom", desc := "(I)V" } : Jvm.MethodName) prog_5_method_2_code (2 : Nat) (Option.none : Option Jvm.ClassFile.FieldType)) ∈ GW := gw_t 615 (by decide +kernel) (by decide +kernel)
theorem w_616 : (Jvm.Cond.methodLink "TelescopeNight$Decisions" (133 : Nat) ({ cls := "TelescopeNight$Decisions", name := "startAtEnd", desc := "(I)V" } : Jvm.MethodName)) ∈ GW := gw_t 616 (by decide +kernel) (by decide +kernel)
theorem w_618 : (Jvm.Cond.instanceMethod ({ cls := "TelescopeNight$Decisions", name := "startAtEnd", desc := "(I)V" } : Jvm.MethodName)) ∈ GW := gw_t 618 (by decide +kernel) (by decide +kernel)
theorem w_619 : (Jvm.Cond.code ({ cls := "TelescopeNight$Decisions", name := "startAtEnd", desc := "(I)V" } : Jvm.MethodName) prog_2_method_12_code (2 : Nat) (Option.none : Option Jvm.ClassFile.FieldType)) ∈ GW := gw_t 619 (by decide +kernel) (by decide +kernel)
theorem w_620 : (Jvm.Cond.methodLink "TelescopeNight$Decisions" (139 : Nat) ({ cls := "TelescopeNight$Outlook", name := "put", desc := "(IJJ)V" } : Jvm.MethodName)) ∈ GW := gw_t 620 (by decide +kernel) (by decide +kernel)
theorem w_621 : (Jvm.Cond.instanceMethod ({ cls := "TelescopeNight$Outlook", name := "put", desc := "(IJJ)V" } : Jvm.MethodName)) ∈ GW := gw_t 621 (by decide +kernel) (by decide +kernel)
theorem w_622 : (Jvm.Cond.selects "TelescopeNight$Outlook" ({ cls := "TelescopeNight$Outlook", name := "put", desc := "(IJJ)V" } : Jvm.MethodName) ({ cls := "TelescopeNight$Outlook", name := "put", desc := "(IJJ)V" } : Jvm.MethodName)) ∈ GW := gw_t 622 (by decide +kernel) (by decide +kernel)
theorem w_623 : (Jvm.Cond.code ({ cls := "TelescopeNight$Outlook", name := "put", desc := "(IJJ)V" } : Jvm.MethodName) prog_5_method_3_code (6 : Nat) (Option.none : Option Jvm.ClassFile.FieldType)) ∈ GW := gw_t 623 (by decide +kernel) (by decide +kernel)
theorem w_624 : (Jvm.Cond.methodLink "TelescopeNight$Decisions" (72 : Nat) ({ cls := "TelescopeNight$Decisions", name := "atEnd", desc := "(I)J" } : Jvm.MethodName)) ∈ GW := gw_t 624 (by decide +kernel) (by decide +kernel)
theorem w_626 : (Jvm.Cond.instanceMethod ({ cls := "TelescopeNight$Decisions", name := "atEnd", desc := "(I)J" } : Jvm.MethodName)) ∈ GW := gw_t 626 (by decide +kernel) (by decide +kernel)
theorem w_627 : (Jvm.Cond.code ({ cls := "TelescopeNight$Decisions", name := "atEnd", desc := "(I)J" } : Jvm.MethodName) prog_2_method_14_code (3 : Nat) (Option.some Jvm.ClassFile.FieldType.long)) ∈ GW := gw_t 627 (by decide +kernel) (by decide +kernel)
theorem w_629 : (Jvm.Cond.methodLink "TelescopeNight$Decisions" (150 : Nat) ({ cls := "TelescopeNight$Night", name := "number", desc := "(II)I" } : Jvm.MethodName)) ∈ GW := gw_t 629 (by decide +kernel) (by decide +kernel)
theorem w_630 : (Jvm.Cond.constantLong "TelescopeNight$Decisions" (153 : Nat) (1000000 : Int64)) ∈ GW := gw_t 630 (by decide +kernel) (by decide +kernel)
theorem w_631 : (Jvm.Cond.methodLink "TelescopeNight$Decisions" (136 : Nat) ({ cls := "TelescopeNight$Decisions", name := "stepBack", desc := "(I)V" } : Jvm.MethodName)) ∈ GW := gw_t 631 (by decide +kernel) (by decide +kernel)
theorem w_633 : (Jvm.Cond.instanceMethod ({ cls := "TelescopeNight$Decisions", name := "stepBack", desc := "(I)V" } : Jvm.MethodName)) ∈ GW := gw_t 633 (by decide +kernel) (by decide +kernel)
theorem w_634 : (Jvm.Cond.code ({ cls := "TelescopeNight$Decisions", name := "stepBack", desc := "(I)V" } : Jvm.MethodName) prog_2_method_13_code (7 : Nat) (Option.none : Option Jvm.ClassFile.FieldType)) ∈ GW := gw_t 634 (by decide +kernel) (by decide +kernel)
theorem w_635 : (Jvm.Cond.methodLink "TelescopeNight$Decisions" (143 : Nat) ({ cls := "TelescopeNight$Reach", name := "holds", desc := "(II)Z" } : Jvm.MethodName)) ∈ GW := gw_t 635 (by decide +kernel) (by decide +kernel)
theorem w_636 : (Jvm.Cond.methodLink "TelescopeNight$Decisions" (56 : Nat) ({ cls := "TelescopeNight$Decisions", name := "bestChoice", desc := "(II)I" } : Jvm.MethodName)) ∈ GW := gw_t 636 (by decide +kernel) (by decide +kernel)
theorem w_638 : (Jvm.Cond.instanceMethod ({ cls := "TelescopeNight$Decisions", name := "bestChoice", desc := "(II)I" } : Jvm.MethodName)) ∈ GW := gw_t 638 (by decide +kernel) (by decide +kernel)
theorem w_639 : (Jvm.Cond.code ({ cls := "TelescopeNight$Decisions", name := "bestChoice", desc := "(II)I" } : Jvm.MethodName) prog_2_method_16_code (10 : Nat) (Option.some Jvm.ClassFile.FieldType.int)) ∈ GW := gw_t 639 (by decide +kernel) (by decide +kernel)
theorem w_640 : (Jvm.Cond.methodLink "TelescopeNight$Decisions" (161 : Nat) ({ cls := "TelescopeNight$Reach", name := "possible", desc := "(II)I" } : Jvm.MethodName)) ∈ GW := gw_t 640 (by decide +kernel) (by decide +kernel)
theorem w_641 : (Jvm.Cond.methodLink "TelescopeNight$Decisions" (158 : Nat) ({ cls := "TelescopeNight$Outlook", name := "behindClear", desc := "(I)J" } : Jvm.MethodName)) ∈ GW := gw_t 641 (by decide +kernel) (by decide +kernel)
theorem w_642 : (Jvm.Cond.instanceMethod ({ cls := "TelescopeNight$Outlook", name := "behindClear", desc := "(I)J" } : Jvm.MethodName)) ∈ GW := gw_t 642 (by decide +kernel) (by decide +kernel)
theorem w_643 : (Jvm.Cond.selects "TelescopeNight$Outlook" ({ cls := "TelescopeNight$Outlook", name := "behindClear", desc := "(I)J" } : Jvm.MethodName) ({ cls := "TelescopeNight$Outlook", name := "behindClear", desc := "(I)J" } : Jvm.MethodName)) ∈ GW := gw_t 643 (by decide +kernel) (by decide +kernel)
theorem w_644 : (Jvm.Cond.code ({ cls := "TelescopeNight$Outlook", name := "behindClear", desc := "(I)J" } : Jvm.MethodName) prog_5_method_4_code (2 : Nat) (Option.some Jvm.ClassFile.FieldType.long)) ∈ GW := gw_t 644 (by decide +kernel) (by decide +kernel)
theorem w_646 : (Jvm.Cond.static ({ cls := "TelescopeNight", name := "mixed", desc := "(IJJ)J" } : Jvm.MethodName)) ∈ GW := gw_t 646 (by decide +kernel) (by decide +kernel)
theorem w_647 : (Jvm.Cond.code ({ cls := "TelescopeNight", name := "mixed", desc := "(IJJ)J" } : Jvm.MethodName) prog_1_method_54_code (5 : Nat) (Option.some Jvm.ClassFile.FieldType.long)) ∈ GW := gw_t 647 (by decide +kernel) (by decide +kernel)
theorem w_648 : (Jvm.Cond.constantLong "TelescopeNight" (321 : Nat) (100 : Int64)) ∈ GW := gw_t 648 (by decide +kernel) (by decide +kernel)
theorem w_650 : (Jvm.Cond.methodLink "TelescopeNight$Decisions" (79 : Nat) ({ cls := "TelescopeNight$Decisions", name := "valueOf", desc := "(II)J" } : Jvm.MethodName)) ∈ GW := gw_t 650 (by decide +kernel) (by decide +kernel)
theorem w_652 : (Jvm.Cond.instanceMethod ({ cls := "TelescopeNight$Decisions", name := "valueOf", desc := "(II)J" } : Jvm.MethodName)) ∈ GW := gw_t 652 (by decide +kernel) (by decide +kernel)
theorem w_653 : (Jvm.Cond.code ({ cls := "TelescopeNight$Decisions", name := "valueOf", desc := "(II)J" } : Jvm.MethodName) prog_2_method_15_code (5 : Nat) (Option.some Jvm.ClassFile.FieldType.long)) ∈ GW := gw_t 653 (by decide +kernel) (by decide +kernel)
theorem w_655 : (Jvm.Cond.methodLink "TelescopeNight$Decisions" (60 : Nat) ({ cls := "TelescopeNight$Decisions", name := "bestIfClear", desc := "(II)J" } : Jvm.MethodName)) ∈ GW := gw_t 655 (by decide +kernel) (by decide +kernel)
theorem w_657 : (Jvm.Cond.instanceMethod ({ cls := "TelescopeNight$Decisions", name := "bestIfClear", desc := "(II)J" } : Jvm.MethodName)) ∈ GW := gw_t 657 (by decide +kernel) (by decide +kernel)
theorem w_658 : (Jvm.Cond.code ({ cls := "TelescopeNight$Decisions", name := "bestIfClear", desc := "(II)J" } : Jvm.MethodName) prog_2_method_17_code (3 : Nat) (Option.some Jvm.ClassFile.FieldType.long)) ∈ GW := gw_t 658 (by decide +kernel) (by decide +kernel)
theorem w_659 : (Jvm.Cond.methodLink "TelescopeNight$Decisions" (64 : Nat) ({ cls := "TelescopeNight$Outlook", name := "behindCloudy", desc := "(I)J" } : Jvm.MethodName)) ∈ GW := gw_t 659 (by decide +kernel) (by decide +kernel)
theorem w_660 : (Jvm.Cond.instanceMethod ({ cls := "TelescopeNight$Outlook", name := "behindCloudy", desc := "(I)J" } : Jvm.MethodName)) ∈ GW := gw_t 660 (by decide +kernel) (by decide +kernel)
theorem w_661 : (Jvm.Cond.selects "TelescopeNight$Outlook" ({ cls := "TelescopeNight$Outlook", name := "behindCloudy", desc := "(I)J" } : Jvm.MethodName) ({ cls := "TelescopeNight$Outlook", name := "behindCloudy", desc := "(I)J" } : Jvm.MethodName)) ∈ GW := gw_t 661 (by decide +kernel) (by decide +kernel)
theorem w_662 : (Jvm.Cond.code ({ cls := "TelescopeNight$Outlook", name := "behindCloudy", desc := "(I)J" } : Jvm.MethodName) prog_5_method_5_code (2 : Nat) (Option.some Jvm.ClassFile.FieldType.long)) ∈ GW := gw_t 662 (by decide +kernel) (by decide +kernel)
theorem w_663 : (Jvm.Cond.methodLink "TelescopeNight$Decisions" (75 : Nat) ({ cls := "TelescopeNight$Decisions", name := "followedIfClear", desc := "(III)J" } : Jvm.MethodName)) ∈ GW := gw_t 663 (by decide +kernel) (by decide +kernel)
theorem w_665 : (Jvm.Cond.instanceMethod ({ cls := "TelescopeNight$Decisions", name := "followedIfClear", desc := "(III)J" } : Jvm.MethodName)) ∈ GW := gw_t 665 (by decide +kernel) (by decide +kernel)
theorem w_666 : (Jvm.Cond.code ({ cls := "TelescopeNight$Decisions", name := "followedIfClear", desc := "(III)J" } : Jvm.MethodName) prog_2_method_18_code (6 : Nat) (Option.some Jvm.ClassFile.FieldType.long)) ∈ GW := gw_t 666 (by decide +kernel) (by decide +kernel)
theorem w_667 : (Jvm.Cond.methodLink "TelescopeNight$Decisions" (170 : Nat) ({ cls := "TelescopeNight$Night", name := "dearest", desc := "(I)I" } : Jvm.MethodName)) ∈ GW := gw_t 667 (by decide +kernel) (by decide +kernel)
theorem w_668 : (Jvm.Cond.methodLink "TelescopeNight$Decisions" (173 : Nat) ({ cls := "TelescopeNight$Decisions", name := "gain", desc := "(I)J" } : Jvm.MethodName)) ∈ GW := gw_t 668 (by decide +kernel) (by decide +kernel)
theorem w_670 : (Jvm.Cond.instanceMethod ({ cls := "TelescopeNight$Decisions", name := "gain", desc := "(I)J" } : Jvm.MethodName)) ∈ GW := gw_t 670 (by decide +kernel) (by decide +kernel)
theorem w_671 : (Jvm.Cond.code ({ cls := "TelescopeNight$Decisions", name := "gain", desc := "(I)J" } : Jvm.MethodName) prog_2_method_19_code (2 : Nat) (Option.some Jvm.ClassFile.FieldType.long)) ∈ GW := gw_t 671 (by decide +kernel) (by decide +kernel)
theorem w_672 : (Jvm.Cond.methodLink "TelescopeNight$Decisions" (49 : Nat) ({ cls := "TelescopeNight$Decisions", name := "isOver", desc := "()Z" } : Jvm.MethodName)) ∈ GW := gw_t 672 (by decide +kernel) (by decide +kernel)
theorem w_674 : (Jvm.Cond.instanceMethod ({ cls := "TelescopeNight$Decisions", name := "isOver", desc := "()Z" } : Jvm.MethodName)) ∈ GW := gw_t 674 (by decide +kernel) (by decide +kernel)
theorem w_675 : (Jvm.Cond.code ({ cls := "TelescopeNight$Decisions", name := "isOver", desc := "()Z" } : Jvm.MethodName) prog_2_method_8_code (1 : Nat) (Option.some Jvm.ClassFile.FieldType.boolean)) ∈ GW := gw_t 675 (by decide +kernel) (by decide +kernel)
theorem w_676 : (Jvm.Cond.methodLink "TelescopeNight$Decisions" (68 : Nat) ({ cls := "TelescopeNight$Decisions", name := "meanNow", desc := "(JJ)J" } : Jvm.MethodName)) ∈ GW := gw_t 676 (by decide +kernel) (by decide +kernel)
theorem w_678 : (Jvm.Cond.instanceMethod ({ cls := "TelescopeNight$Decisions", name := "meanNow", desc := "(JJ)J" } : Jvm.MethodName)) ∈ GW := gw_t 678 (by decide +kernel) (by decide +kernel)
theorem w_679 : (Jvm.Cond.code ({ cls := "TelescopeNight$Decisions", name := "meanNow", desc := "(JJ)J" } : Jvm.MethodName) prog_2_method_9_code (5 : Nat) (Option.some Jvm.ClassFile.FieldType.long)) ∈ GW := gw_t 679 (by decide +kernel) (by decide +kernel)
theorem w_680 : (Jvm.Cond.methodLink "TelescopeNight$Decisions" (90 : Nat) ({ cls := "TelescopeNight$Decisions", name := "percentNow", desc := "()I" } : Jvm.MethodName)) ∈ GW := gw_t 680 (by decide +kernel) (by decide +kernel)
theorem w_682 : (Jvm.Cond.instanceMethod ({ cls := "TelescopeNight$Decisions", name := "percentNow", desc := "()I" } : Jvm.MethodName)) ∈ GW := gw_t 682 (by decide +kernel) (by decide +kernel)
theorem w_683 : (Jvm.Cond.code ({ cls := "TelescopeNight$Decisions", name := "percentNow", desc := "()I" } : Jvm.MethodName) prog_2_method_10_code (2 : Nat) (Option.some Jvm.ClassFile.FieldType.int)) ∈ GW := gw_t 683 (by decide +kernel) (by decide +kernel)
theorem w_684 : (Jvm.Cond.methodLink "TelescopeNight$Decisions" (102 : Nat) ({ cls := "TelescopeNight$Progress", name := "skyBefore", desc := "()I" } : Jvm.MethodName)) ∈ GW := gw_t 684 (by decide +kernel) (by decide +kernel)
theorem w_685 : (Jvm.Cond.instanceMethod ({ cls := "TelescopeNight$Progress", name := "skyBefore", desc := "()I" } : Jvm.MethodName)) ∈ GW := gw_t 685 (by decide +kernel) (by decide +kernel)
theorem w_686 : (Jvm.Cond.selects "TelescopeNight$Progress" ({ cls := "TelescopeNight$Progress", name := "skyBefore", desc := "()I" } : Jvm.MethodName) ({ cls := "TelescopeNight$Progress", name := "skyBefore", desc := "()I" } : Jvm.MethodName)) ∈ GW := gw_t 686 (by decide +kernel) (by decide +kernel)
theorem w_687 : (Jvm.Cond.code ({ cls := "TelescopeNight$Progress", name := "skyBefore", desc := "()I" } : Jvm.MethodName) prog_7_method_5_code (1 : Nat) (Option.some Jvm.ClassFile.FieldType.int)) ∈ GW := gw_t 687 (by decide +kernel) (by decide +kernel)
theorem w_688 : (Jvm.Cond.methodLink "TelescopeNight$Decisions" (105 : Nat) ({ cls := "TelescopeNight$Night", name := "oddsIn", desc := "(I)I" } : Jvm.MethodName)) ∈ GW := gw_t 688 (by decide +kernel) (by decide +kernel)
theorem w_1006 : (Jvm.Cond.methodLink "TelescopeNight$Night" (91 : Nat) ({ cls := "TelescopeNight$Night", name := "isSeen", desc := "(II)Z" } : Jvm.MethodName)) ∈ GW := gw_t 1006 (by decide +kernel) (by decide +kernel)
theorem w_1007 : (Jvm.Cond.instanceMethod ({ cls := "TelescopeNight$Night", name := "isSeen", desc := "(II)Z" } : Jvm.MethodName)) ∈ GW := gw_t 1007 (by decide +kernel) (by decide +kernel)
theorem w_1008 : (Jvm.Cond.selects "TelescopeNight$Night" ({ cls := "TelescopeNight$Night", name := "isSeen", desc := "(II)Z" } : Jvm.MethodName) ({ cls := "TelescopeNight$Night", name := "isSeen", desc := "(II)Z" } : Jvm.MethodName)) ∈ GW := gw_t 1008 (by decide +kernel) (by decide +kernel)
theorem w_1009 : (Jvm.Cond.code ({ cls := "TelescopeNight$Night", name := "isSeen", desc := "(II)Z" } : Jvm.MethodName) prog_4_method_11_code (3 : Nat) (Option.some Jvm.ClassFile.FieldType.boolean)) ∈ GW := gw_t 1009 (by decide +kernel) (by decide +kernel)
theorem w_1010 : (Jvm.Cond.methodLink "TelescopeNight$Night" (85 : Nat) ({ cls := "TelescopeNight$Night", name := "targetsIn", desc := "(I)I" } : Jvm.MethodName)) ∈ GW := gw_t 1010 (by decide +kernel) (by decide +kernel)
theorem wp_0 : Cond.selects "TelescopeNight$Night" ⟨"TelescopeNight$Night", "targetsSeenIn", "(I)I"⟩ ⟨"TelescopeNight$Night", "targetsSeenIn", "(I)I"⟩ ∈ GW := gw_p 0 (by decide +kernel) (by decide +kernel)
theorem wp_1 : Cond.selects "TelescopeNight$Night" ⟨"TelescopeNight$Night", "canBeSeen", "(II)Z"⟩ ⟨"TelescopeNight$Night", "canBeSeen", "(II)Z"⟩ ∈ GW := gw_p 1 (by decide +kernel) (by decide +kernel)
theorem wp_4 : Cond.selects "TelescopeNight$Reach" ⟨"TelescopeNight$Reach", "makeRoom", "()V"⟩ ⟨"TelescopeNight$Reach", "makeRoom", "()V"⟩ ∈ GW := gw_p 4 (by decide +kernel) (by decide +kernel)
theorem wp_5 : Cond.selects "TelescopeNight$Reach" ⟨"TelescopeNight$Reach", "reachFrom", "(I)V"⟩ ⟨"TelescopeNight$Reach", "reachFrom", "(I)V"⟩ ∈ GW := gw_p 5 (by decide +kernel) (by decide +kernel)
theorem wp_6 : Cond.selects "TelescopeNight$Reach" ⟨"TelescopeNight$Reach", "behindNext", "(II)I"⟩ ⟨"TelescopeNight$Reach", "behindNext", "(II)I"⟩ ∈ GW := gw_p 6 (by decide +kernel) (by decide +kernel)
theorem wp_7 : Cond.selects "TelescopeNight$Plans" ⟨"TelescopeNight$Plans", "makeRoom", "(I)V"⟩ ⟨"TelescopeNight$Plans", "makeRoom", "(I)V"⟩ ∈ GW := gw_p 7 (by decide +kernel) (by decide +kernel)
theorem wp_8 : Cond.selects "TelescopeNight$Plans" ⟨"TelescopeNight$Plans", "put", "(IJJJ)V"⟩ ⟨"TelescopeNight$Plans", "put", "(IJJJ)V"⟩ ∈ GW := gw_p 8 (by decide +kernel) (by decide +kernel)
theorem wp_9 : Cond.selects "TelescopeNight$Plans" ⟨"TelescopeNight$Plans", "stepBack", "(LTelescopeNight$Reach;I)V"⟩ ⟨"TelescopeNight$Plans", "stepBack", "(LTelescopeNight$Reach;I)V"⟩ ∈ GW := gw_p 9 (by decide +kernel) (by decide +kernel)
theorem wp_10 : Cond.selects "TelescopeNight$Plans" ⟨"TelescopeNight$Plans", "allowed", "(II)I"⟩ ⟨"TelescopeNight$Plans", "allowed", "(II)I"⟩ ∈ GW := gw_p 10 (by decide +kernel) (by decide +kernel)
theorem wp_11 : Cond.selects "TelescopeNight$Plans" ⟨"TelescopeNight$Plans", "isCloudyNow", "(I)Z"⟩ ⟨"TelescopeNight$Plans", "isCloudyNow", "(I)Z"⟩ ∈ GW := gw_p 11 (by decide +kernel) (by decide +kernel)
theorem wp_12 : Cond.selects "TelescopeNight$Plans" ⟨"TelescopeNight$Plans", "isChosen", "(I)Z"⟩ ⟨"TelescopeNight$Plans", "isChosen", "(I)Z"⟩ ∈ GW := gw_p 12 (by decide +kernel) (by decide +kernel)
theorem wp_13 : Cond.selects "TelescopeNight$Plans" ⟨"TelescopeNight$Plans", "choose", "(III)V"⟩ ⟨"TelescopeNight$Plans", "choose", "(III)V"⟩ ∈ GW := gw_p 13 (by decide +kernel) (by decide +kernel)
theorem wp_14 : Cond.selects "TelescopeNight$Plans" ⟨"TelescopeNight$Plans", "gain", "(II)J"⟩ ⟨"TelescopeNight$Plans", "gain", "(II)J"⟩ ∈ GW := gw_p 14 (by decide +kernel) (by decide +kernel)
theorem wp_15 : Cond.selects "TelescopeNight$Plans" ⟨"TelescopeNight$Plans", "oddsOf", "(I)I"⟩ ⟨"TelescopeNight$Plans", "oddsOf", "(I)I"⟩ ∈ GW := gw_p 15 (by decide +kernel) (by decide +kernel)
theorem wp_16 : Cond.selects "TelescopeNight$Decisions" ⟨"TelescopeNight$Decisions", "prepare", "(II)V"⟩ ⟨"TelescopeNight$Decisions", "prepare", "(II)V"⟩ ∈ GW := gw_p 16 (by decide +kernel) (by decide +kernel)
theorem wp_17 : Cond.selects "TelescopeNight$Decisions" ⟨"TelescopeNight$Decisions", "startAtEnd", "(I)V"⟩ ⟨"TelescopeNight$Decisions", "startAtEnd", "(I)V"⟩ ∈ GW := gw_p 17 (by decide +kernel) (by decide +kernel)
theorem wp_18 : Cond.selects "TelescopeNight$Decisions" ⟨"TelescopeNight$Decisions", "atEnd", "(I)J"⟩ ⟨"TelescopeNight$Decisions", "atEnd", "(I)J"⟩ ∈ GW := gw_p 18 (by decide +kernel) (by decide +kernel)
theorem wp_19 : Cond.selects "TelescopeNight$Decisions" ⟨"TelescopeNight$Decisions", "stepBack", "(I)V"⟩ ⟨"TelescopeNight$Decisions", "stepBack", "(I)V"⟩ ∈ GW := gw_p 19 (by decide +kernel) (by decide +kernel)
theorem wp_20 : Cond.selects "TelescopeNight$Decisions" ⟨"TelescopeNight$Decisions", "bestChoice", "(II)I"⟩ ⟨"TelescopeNight$Decisions", "bestChoice", "(II)I"⟩ ∈ GW := gw_p 20 (by decide +kernel) (by decide +kernel)
theorem wp_21 : Cond.selects "TelescopeNight$Decisions" ⟨"TelescopeNight$Decisions", "valueOf", "(II)J"⟩ ⟨"TelescopeNight$Decisions", "valueOf", "(II)J"⟩ ∈ GW := gw_p 21 (by decide +kernel) (by decide +kernel)
theorem wp_22 : Cond.selects "TelescopeNight$Decisions" ⟨"TelescopeNight$Decisions", "bestIfClear", "(II)J"⟩ ⟨"TelescopeNight$Decisions", "bestIfClear", "(II)J"⟩ ∈ GW := gw_p 22 (by decide +kernel) (by decide +kernel)
theorem wp_23 : Cond.selects "TelescopeNight$Decisions" ⟨"TelescopeNight$Decisions", "followedIfClear", "(III)J"⟩ ⟨"TelescopeNight$Decisions", "followedIfClear", "(III)J"⟩ ∈ GW := gw_p 23 (by decide +kernel) (by decide +kernel)
theorem wp_24 : Cond.selects "TelescopeNight$Decisions" ⟨"TelescopeNight$Decisions", "gain", "(I)J"⟩ ⟨"TelescopeNight$Decisions", "gain", "(I)J"⟩ ∈ GW := gw_p 24 (by decide +kernel) (by decide +kernel)
theorem wp_25 : Cond.selects "TelescopeNight$Decisions" ⟨"TelescopeNight$Decisions", "isOver", "()Z"⟩ ⟨"TelescopeNight$Decisions", "isOver", "()Z"⟩ ∈ GW := gw_p 25 (by decide +kernel) (by decide +kernel)
theorem wp_26 : Cond.selects "TelescopeNight$Decisions" ⟨"TelescopeNight$Decisions", "meanNow", "(JJ)J"⟩ ⟨"TelescopeNight$Decisions", "meanNow", "(JJ)J"⟩ ∈ GW := gw_p 26 (by decide +kernel) (by decide +kernel)
theorem wp_27 : Cond.selects "TelescopeNight$Decisions" ⟨"TelescopeNight$Decisions", "percentNow", "()I"⟩ ⟨"TelescopeNight$Decisions", "percentNow", "()I"⟩ ∈ GW := gw_p 27 (by decide +kernel) (by decide +kernel)
