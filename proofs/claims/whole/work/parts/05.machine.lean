abbrev op_O : Type := (Option Value ⊕ String) × List va_E × Nat × Nat
abbrev op_S : Type := Nat × List (Nat × Value) × List Value × List va_E × Nat × Nat
abbrev op_T : Type := List (Nat × Value) → List Value → List va_E → Option (op_S ⊕ op_O)
abbrev op_R : Type := List (Nat × Value) → List Value → List va_E → (op_S ⊕ op_O) → Prop
abbrev op_B : Type := Nat → Option (op_T ⊕ op_R)
/-- the abstract machine: at most n steps, cells and slots counted -/
def ex (body : op_B) : Nat → Nat → List (Nat × Value) → List Value → List va_E → Nat → Nat → op_O → Prop
  | 0, _, _, _, _, _, _, _ => False
  | n + 1, pc, lv, st, es, c, s, r => match body pc with
    | none => False
    | some (.inl f) => (match f lv st es with
      | none => False
      | some (.inl (pc', lv', st', es', dc, ds)) => ex body n pc' lv' st' es' (c + dc) (s + ds) r
      | some (.inr (o, es', dc, ds)) => r = (o, es', c + dc, s + ds))
    | some (.inr g) => ∃ x, g lv st es x ∧ (match x with
      | .inl (pc', lv', st', es', dc, ds) => ex body n pc' lv' st' es' (c + dc) (s + ds) r
      | .inr (o, es', dc, ds) => r = (o, es', c + dc, s + ds))
theorem ex_mono {body : op_B} : ∀ {n pc : Nat} {lv : List (Nat × Value)} {st : List Value} {es : List va_E} {c s : Nat} {r : op_O}, ex body n pc lv st es c s r → c ≤ r.2.2.1 ∧ s ≤ r.2.2.2
  | 0, _, _, _, _, _, _, _, h => by cases h
  | n + 1, pc, lv, st, es, c, s, r, h => by
    unfold ex at h
    split at h
    · cases h
    · split at h
      · cases h
      · have := ex_mono h
        exact ⟨by omega, by omega⟩
      · subst h
        exact ⟨Nat.le_add_right _ _, Nat.le_add_right _ _⟩
    · obtain ⟨x, -, h⟩ := h
      split at h
      · have := ex_mono h
        exact ⟨by omega, by omega⟩
      · subst h
        exact ⟨Nat.le_add_right _ _, Nat.le_add_right _ _⟩
theorem ex_add {body : op_B} : ∀ {n pc : Nat} {lv : List (Nat × Value)} {st : List Value} {es : List va_E} {c s : Nat} {r : op_O}, ex body n pc lv st es c s r → ex body (n + 1) pc lv st es c s r
  | 0, _, _, _, _, _, _, _, h => by cases h
  | n + 1, pc, lv, st, es, c, s, r, h => by
    unfold ex at h ⊢
    split at h
    · cases h
    · split at h
      · cases h
      · exact ex_add h
      · exact h
    · obtain ⟨x, hg, h⟩ := h
      refine ⟨x, hg, ?_⟩
      split at h
      · exact ex_add h
      · exact h
theorem ex_le {body : op_B} {n pc : Nat} {lv : List (Nat × Value)} {st : List Value} {es : List va_E} {c s : Nat} {r : op_O} (h : ex body n pc lv st es c s r) (k : Nat) : ex body (n + k) pc lv st es c s r := by
  induction k with
  | zero => exact h
  | succ k ih => exact ex_add ih
/-- the words of the tables that stay as classes are linked -/
def GW : List Cond := lw_tbl.filter goodWord
theorem GW_good {w : Cond} (h : w ∈ GW) : goodWord w = true := (List.mem_filter.mp h).2
def tysF (ct : Nat → ClassId) : List (ClassId × FieldType) := [(ct 0, .int), (ct 1, .long), (ct 2, .boolean), (ct 3, .object RX2), (ct 4, .object RX5)]
/-- private methods of nest mates -/
def nestL : List (String × Nat × MethodName × String) := [("TelescopeNight", 12, ⟨"TelescopeNight$Progress", "<init>", "()V"⟩, "TelescopeNight"), ("TelescopeNight", 20, ⟨"TelescopeNight$Reader", "<init>", "()V"⟩, "TelescopeNight"), ("TelescopeNight$History", 24, ⟨"TelescopeNight$Progress", "<init>", "()V"⟩, "TelescopeNight"), ("TelescopeNight$Night", 94, ⟨"TelescopeNight", "madeOf", "(II)I"⟩, "TelescopeNight"), ("TelescopeNight$Night", 100, ⟨"TelescopeNight", "turnsIn", "(II)I"⟩, "TelescopeNight"), ("TelescopeNight$Night", 88, ⟨"TelescopeNight", "has", "(II)Z"⟩, "TelescopeNight"), ("TelescopeNight$Reach", 78, ⟨"TelescopeNight", "oneOf", "(I)I"⟩, "TelescopeNight"), ("TelescopeNight$Reach", 82, ⟨"TelescopeNight", "has", "(II)Z"⟩, "TelescopeNight"), ("TelescopeNight$Plans", 134, ⟨"TelescopeNight", "has", "(II)Z"⟩, "TelescopeNight"), ("TelescopeNight$Plans", 137, ⟨"TelescopeNight", "oneOf", "(I)I"⟩, "TelescopeNight"), ("TelescopeNight$Decisions", 147, ⟨"TelescopeNight", "madeOf", "(II)I"⟩, "TelescopeNight"), ("TelescopeNight$Outlook", 26, ⟨"TelescopeNight", "mixed", "(IJJ)J"⟩, "TelescopeNight"), ("TelescopeNight$Decisions", 167, ⟨"TelescopeNight", "has", "(II)Z"⟩, "TelescopeNight"), ("TelescopeNight$Decisions", 155, ⟨"TelescopeNight", "oneOf", "(I)I"⟩, "TelescopeNight"), ("TelescopeNight$Decisions", 94, ⟨"TelescopeNight", "mixed", "(IJJ)J"⟩, "TelescopeNight")]
def castL : List (String × String) := [("java/lang/IllegalStateException", "java/lang/IllegalStateException"), ("java/lang/IllegalArgumentException", "java/lang/IllegalArgumentException"), ("java/lang/IndexOutOfBoundsException", "java/lang/IndexOutOfBoundsException"), ("java/util/NoSuchElementException", "java/util/NoSuchElementException")]
def ncastL : List (String × String) := [("java/util/NoSuchElementException", "java/lang/IndexOutOfBoundsException"), ("java/lang/IllegalArgumentException", "java/lang/IndexOutOfBoundsException"), ("java/lang/IllegalStateException", "java/lang/IndexOutOfBoundsException")]
/-- static tables of the reader: name, place, length, numbers -/
def statL : List (String × Nat × List Int32) := [("NIGHT_LOW", 1000, [1]), ("NIGHT_HIGH", 1001, [12]), ("MOON_LOW", 1002, [0, 0, (-10), 0, 0, 0]), ("MOON_HIGH", 1003, [90, 30, 25, 359, 359, 100]), ("SKY_LOW", 1004, [0, 0, 0]), ("SKY_HIGH", 1005, [100, 100, 100]), ("TARGET_LOW", 1006, [0, 0, 0, (-10), 0, 0, 0, 1, 1]), ("TARGET_HIGH", 1007, [3, 90, 30, 25, 89, 359, 180, 3, 1000])]
/-- texts of exceptions -/
def msgL : List (String × Nat × String) := [("TelescopeNight", 80, "the text buffer is full"), ("TelescopeNight", 94, "the length is out of range"), ("TelescopeNight", 137, "there is no such number"), ("TelescopeNight", 313, "there is no such target"), ("TelescopeNight", 315, "there is no such slot"), ("TelescopeNight", 174, "the target can be observed in no slot"), ("TelescopeNight", 180, "the target cannot be observed often enough"), ("TelescopeNight", 185, "the last slot is in front of the first one"), ("TelescopeNight", 194, "there is no sky to look at"), ("TelescopeNight", 311, "an exposure of this target cannot be made"), ("TelescopeNight", 208, "the night is over"), ("TelescopeNight", 319, "there is no such team"), ("TelescopeNight", 219, "the team has no turns to waive"), ("TelescopeNight", 232, "the slot is not over"), ("TelescopeNight", 317, "the slot is over"), ("TelescopeNight", 260, "no plan gives the slot this target"), ("TelescopeNight", 276, "the sky is not known"), ("TelescopeNight", 291, "there is no change to undo")]
/-- what stands still: links of nest mates, casts, statics that nobody writes, texts -/
def GF0 (ad : Nat → Nat) (A : Nat → Prop) (U : State) (H : Heap) : Prop :=
  (∀ q ∈ nestL, va_Nw (.methodLinkNest q.1 q.2.1 q.2.2.1 q.2.2.2) U) ∧ (∀ q ∈ castL, va_Nw (.castable q.1 q.2) U) ∧ (∀ q ∈ ncastL, va_Nc q.1 q.2 U) ∧
  vx_Zq Bundle.tN "UNASSIGNED_STACK" Bundle.steD A U H ∧ vx_Zq Bundle.tN "SUPPRESSED_SENTINEL" Bundle.listD A U H ∧
  (∀ q ∈ statL, va_Z RX7 q.1 "[I" (.ref (ad q.2.1)) A U H ∧ va_T .int (ad q.2.1) q.2.2.length (fun j => .int (q.2.2.getD j 0)) A U H) ∧
  (∀ q ∈ msgL, ∃ sa, vk_R q.1 q.2.1 q.2.2 sa U) ∧ va_AO RX2 U ∧ va_AO RX5 U
theorem statL_ext : ∀ q ∈ statL, 1000 ≤ q.2.1 := by decide +kernel
theorem statL_ext2 : ∀ q ∈ statL, q.2.1 < 2000 := by decide +kernel
theorem GF0.warm {ad : Nat → Nat} {A : Nat → Prop} {s U : State} {H : Heap} (hW : s.WarmedH U.vm) (h : GF0 ad A s H) : GF0 ad A U H := by
  obtain ⟨h1, h2, h3, h4, h5, h6, h7, h8, h9⟩ := h
  refine ⟨fun q hq => va_Nw.warmM hW (h1 q hq), fun q hq => va_Nw.warmC hW (h2 q hq), fun q hq => ?_, h4.moved hW.alike, h5.moved hW.alike, fun q hq => ⟨(h6 q hq).1.moved hW.alike, (h6 q hq).2.moved hW.alike⟩, fun q hq => ?_, h8.moved hW.alike, h9.moved hW.alike⟩
  · obtain ⟨c, t, a1, a2, a3⟩ := h3 q hq
    exact ⟨c, t, by rw [hW.alike.findClass]; exact a1, by rw [hW.alike.findClass]; exact a2, by rw [hW.alike.assignable]; exact a3⟩
  · obtain ⟨sa, a1⟩ := h7 q hq
    exact ⟨sa, vk_R.warm hW a1⟩
theorem GF0.kept {ad : Nat → Nat} {A : Nat → Prop} {U : State} {H H1 : Heap} (h : GF0 ad A U H) (hq : ∀ a : Nat, a < H.size → ¬ A a → H1[a]? = H[a]?) : GF0 ad A U H1 :=
  ⟨h.1, h.2.1, h.2.2.1, h.2.2.2.1.kept hq, h.2.2.2.2.1.kept hq, fun q hm => ⟨(h.2.2.2.2.2.1 q hm).1.kept hq, (h.2.2.2.2.2.1 q hm).2.kept hq⟩, h.2.2.2.2.2.2⟩
theorem GF0.narrow {ad : Nat → Nat} {A B : Nat → Prop} {U : State} {H : Heap} (h : GF0 ad A U H) (hAB : ∀ q, B q → A q) : GF0 ad B U H :=
  ⟨h.1, h.2.1, h.2.2.1, h.2.2.2.1.narrow hAB, h.2.2.2.2.1.narrow hAB, fun q hm => ⟨(h.2.2.2.2.2.1 q hm).1.narrow hAB, (h.2.2.2.2.2.1 q hm).2.narrow hAB⟩, h.2.2.2.2.2.2⟩
theorem GF0.re {ad ad' : Nat → Nat} {A : Nat → Prop} {U : State} {H : Heap} (h : GF0 ad A U H) (he : ∀ i, 1000 ≤ i → i < 2000 → ad' i = ad i) : GF0 ad' A U H :=
  ⟨h.1, h.2.1, h.2.2.1, h.2.2.2.1, h.2.2.2.2.1, fun q hm => by rw [he _ (statL_ext q hm) (statL_ext2 q hm)]; exact h.2.2.2.2.2.1 q hm, h.2.2.2.2.2.2⟩
/-- string literals: their places, their bytes -/
def strL : List (String × Nat × String × Nat) := [("TelescopeNight$Reader", 69, "night", 1100), ("TelescopeNight$Reader", 95, "moon", 1101), ("TelescopeNight$Reader", 111, "sky", 1102), ("TelescopeNight$Reader", 122, "target", 1103), ("TelescopeNightModel", 93, " night moon sky target ", 1104)]
def strB : List (List Int32) := [[110, 105, 103, 104, 116], [109, 111, 111, 110], [115, 107, 121], [116, 97, 114, 103, 101, 116], [32, 110, 105, 103, 104, 116, 32, 109, 111, 111, 110, 32, 115, 107, 121, 32, 116, 97, 114, 103, 101, 116, 32]]
def strN : List Nat := [5, 4, 3, 6, 23]
/-- constructors that are declared where they are named -/
def declL : List MethodName := [⟨"java/lang/RuntimeException", "<init>", "(Ljava/lang/String;)V"⟩, ⟨"java/lang/Exception", "<init>", "(Ljava/lang/String;)V"⟩, ⟨"java/lang/Throwable", "<init>", "(Ljava/lang/String;)V"⟩]
/-- words that aren't kept by themselves, of an exception that is made -/
def badW (E : String) : List Cond := .castable E E :: declL.map Cond.declares
/-- what makes texts of wrong indices may be null -/
def FMT (ad : Nat → Nat) (A : Nat → Prop) (U : State) (H : Heap) : Prop := va_Z "jdk/internal/util/Preconditions" "SIOOBE_FORMATTER" "Ljava/util/function/BiFunction;" (.ref (ad 1140)) A U H ∨ va_Z "jdk/internal/util/Preconditions" "SIOOBE_FORMATTER" "Ljava/util/function/BiFunction;" .null A U H
theorem FMT.moved {ad : Nat → Nat} {A : Nat → Prop} {u U : State} {H : Heap} (hvm : u.vm.Alike U.vm) (h : FMT ad A u H) : FMT ad A U H := h.elim (fun h => Or.inl (h.moved hvm)) (fun h => Or.inr (h.moved hvm))
theorem FMT.kept {ad : Nat → Nat} {A : Nat → Prop} {U : State} {H H1 : Heap} (h : FMT ad A U H) (hq : ∀ a : Nat, a < H.size → ¬ A a → H1[a]? = H[a]?) : FMT ad A U H1 := h.elim (fun h => Or.inl (h.kept hq)) (fun h => Or.inr (h.kept hq))
theorem FMT.narrow {ad : Nat → Nat} {A B : Nat → Prop} {U : State} {H : Heap} (h : FMT ad A U H) (hAB : ∀ q, B q → A q) : FMT ad B U H := h.elim (fun h => Or.inl (h.narrow hAB)) (fun h => Or.inr (h.narrow hAB))
def GS (ad : Nat → Nat) (A : Nat → Prop) (U : State) (H : Heap) : Prop :=
  vk_S 5 strN strB (fun i => ad (1100 + i)) (fun i => ad (1120 + i)) A U H ∧ (∀ q ∈ strL, vk_R q.1 q.2.1 q.2.2.1 (ad q.2.2.2) U) ∧
  va_Z "java/lang/String" "COMPACT_STRINGS" "Z" (.int 1) A U H ∧ FMT ad A U H ∧ (∀ y ∈ declL, va_Nw (.declares y) U)
theorem strL_ext : ∀ q ∈ strL, 1000 ≤ q.2.2.2 := by decide +kernel
theorem strL_ext2 : ∀ q ∈ strL, q.2.2.2 < 2000 := by decide +kernel
theorem GS.warm {ad : Nat → Nat} {A : Nat → Prop} {s U : State} {H : Heap} (hW : s.WarmedH U.vm) (h : GS ad A s H) : GS ad A U H :=
  ⟨h.1.moved hW.alike, fun q hq => vk_R.warm hW (h.2.1 q hq), h.2.2.1.moved hW.alike, h.2.2.2.1.moved hW.alike, fun y hy => va_Nw.warmD hW (h.2.2.2.2 y hy)⟩
theorem GS.kept {ad : Nat → Nat} {A : Nat → Prop} {U : State} {H H1 : Heap} (h : GS ad A U H) (hq : ∀ a : Nat, a < H.size → ¬ A a → H1[a]? = H[a]?) : GS ad A U H1 :=
  ⟨h.1.kept hq, h.2.1, h.2.2.1.kept hq, h.2.2.2.1.kept hq, h.2.2.2.2⟩
theorem GS.narrow {ad : Nat → Nat} {A B : Nat → Prop} {U : State} {H : Heap} (h : GS ad A U H) (hAB : ∀ q, B q → A q) : GS ad B U H :=
  ⟨h.1.narrow hAB, h.2.1, h.2.2.1.narrow hAB, h.2.2.2.1.narrow hAB, h.2.2.2.2⟩
theorem vk_S_re {N : Nat} {len : List Nat} {byt : List (List Int32)} {adK adV adK' adV' : Nat → Nat} {A : Nat → Prop} {U : State} {H : Heap} (h : vk_S N len byt adK adV A U H) (hK : ∀ i, i < N → adK' i = adK i) (hV : ∀ i, i < N → adV' i = adV i) : vk_S N len byt adK' adV' A U H :=
  ⟨fun i hi => by rw [hK i hi, hV i hi]; exact h.1 i hi, fun i j hi hj e => h.2 i j hi hj (by rw [← hK i hi, ← hK j hj]; exact e)⟩
theorem GS.re {ad ad' : Nat → Nat} {A : Nat → Prop} {U : State} {H : Heap} (h : GS ad A U H) (he : ∀ i, 1000 ≤ i → i < 2000 → ad' i = ad i) : GS ad' A U H :=
  ⟨vk_S_re h.1 (fun i hi => he _ (by omega) (by omega)) (fun i hi => he _ (by omega) (by omega)), fun q hq => by rw [he _ (strL_ext q hq) (strL_ext2 q hq)]; exact h.2.1 q hq, h.2.2.1, h.2.2.2.1.elim (fun g => Or.inl (by rw [he 1140 (by omega) (by omega)]; exact g)) Or.inr, h.2.2.2.2⟩
def GF (ad : Nat → Nat) (A : Nat → Prop) (U : State) (H : Heap) : Prop := GF0 ad A U H ∧ GS ad A U H
theorem GF.warm {ad : Nat → Nat} {A : Nat → Prop} {s U : State} {H : Heap} (hW : s.WarmedH U.vm) (h : GF ad A s H) : GF ad A U H := ⟨h.1.warm hW, h.2.warm hW⟩
theorem GF.kept {ad : Nat → Nat} {A : Nat → Prop} {U : State} {H H1 : Heap} (h : GF ad A U H) (hq : ∀ a : Nat, a < H.size → ¬ A a → H1[a]? = H[a]?) : GF ad A U H1 := ⟨h.1.kept hq, h.2.kept hq⟩
theorem GF.narrow {ad : Nat → Nat} {A B : Nat → Prop} {U : State} {H : Heap} (h : GF ad A U H) (hAB : ∀ q, B q → A q) : GF ad B U H := ⟨h.1.narrow hAB, h.2.narrow hAB⟩
theorem GF.re {ad ad' : Nat → Nat} {A : Nat → Prop} {U : State} {H : Heap} (h : GF ad A U H) (he : ∀ i, 1000 ≤ i → i < 2000 → ad' i = ad i) : GF ad' A U H := ⟨h.1.re he, h.2.re he⟩
/-- the method that runs, and what it may use -/
def Cx (fr lo nL : Nat) (cc : ByteArray) (own mn : String) (ret : Option FieldType) (hd : Cond) (tb : List ExceptionTableEntry) (p : Program) (l : Launch) (R : Room) (s : State) (m : MethodId) (args : Array Value) (meth : Method) (c : Code) (A : Nat → Prop) (D : va_G) (ct : Nat → ClassId) (ad0 : Nat → Nat) : Prop :=
  p.tables.exec = Jvm.exec ∧ c.code = cc ∧ c.maxLocals = nL ∧ s.vm.findClass own = some m.cls ∧ (∀ w ∈ hd :: GW, w.before args s = true) ∧ (∀ q, s.heap.size ≤ q → A q) ∧ va_K D vwCl (tysF ct) s ∧ meth.locks = false ∧ meth.name = mn ∧ meth.sig.returnType = ret ∧ l.stackTraces = false ∧ R.frames = fr ∧ R.locals = lo ∧ GF ad0 A s s.heap ∧ c.exceptionTable.toList = tb
/-- places that keep their cells: those of the start that aren't listed, and things that stand still -/
def kp (n0 : Nat) (ml : List Nat) (i : Nat) : Prop := (i < n0 ∧ i ∉ ml) ∨ 1000 ≤ i
/-- the heap holds the world -/
def Sm (s : State) (A : Nat → Prop) (D : va_G) (ct : Nat → ClassId) (ad0 : Nat → Nat) (n0 : Nat) (ml : List Nat) (ad : Nat → Nat) (es : List va_E) (H : Heap) (locs : List Loc) : Prop :=
  va_P D vwCl (rn_w ad ct es) H ∧ va_D A (rn_w ad ct es) ∧ va_S A s.heap H locs ∧ (∀ i, i < n0 → i ∉ ml → i < es.length) ∧ ∀ i, kp n0 ml i → ad i = ad0 i
def wd (D : va_G) (ct : Nat → ClassId) (ad0 : Nat → Nat) (n0 : Nat) (ml : List Nat) (A : Nat → Prop) (es : List va_E) (t : State) : Prop :=
  ∃ ad : Nat → Nat, (∀ i, kp n0 ml i → ad i = ad0 i) ∧ (∀ i, i < n0 → i ∉ ml → i < es.length) ∧ va_P D vwCl (rn_w ad ct es) t.heap ∧ va_D A (rn_w ad ct es)
def qc (D : va_G) (ct : Nat → ClassId) (ad0 : Nat → Nat) (n0 : Nat) (ml : List Nat) (A : Nat → Prop) (o : Option Value ⊕ String) (es : List va_E) : Array Value → State → Outcome → State → Prop := fun _ st oc t =>
  ∃ v, o = .inl v ∧ rf_t v.toList = [] ∧ oc = .returned v ∧ wd D ct ad0 n0 ml A es t ∧ va_F A st t
def xc (D : va_G) (ct : Nat → ClassId) (ad0 : Nat → Nat) (n0 : Nat) (ml : List Nat) (A : Nat → Prop) (o : Option Value ⊕ String) (es : List va_E) : String → State → State → Prop := fun E st t =>
  o = .inr E ∧ wd D ct ad0 n0 ml A es t ∧ va_F A st t
def pt (p : Program) (l : Launch) (e : Env) (R : Room) (s : State) (m : MethodId) (args : Array Value) (below : List Frame) (meth : Method) (c : Code) (A : Nat → Prop) (D : va_G) (ct : Nat → ClassId) (ad0 : Nat → Nat) (n0 : Nat) (ml : List Nat) (nL cells slots : Nat) (Q : State → Prop) : op_S ⊕ op_O → Prop
  | .inl (pc', lv', st', es', dc, ds) => cells + dc ≤ R.cells ∧ slots + ds ≤ R.slots ∧ ∀ (ad' : Nat → Nat) (H' : Heap) (locs' : List Loc) (ls' : Array Slot), Sm s A D ct ad0 n0 ml ad' es' H' locs' → lv_has ls' nL (rn_l ad' lv') →
      W p l e R s m args below meth c H' locs' (cells + dc) (slots + ds) Q (F0 m pc' ls' (rn_t ad' st'))
  | .inr (o, es', dc, ds) => ∃ mc ms, Q = vx_MQ below (qc D ct ad0 n0 ml A o es') (xc D ct ad0 n0 ml A o es') args s mc ms A ∧ cells + dc ≤ mc ∧ slots + ds ≤ ms ∧ mc ≤ R.cells ∧ ms ≤ R.slots
/-- an instruction's step is the machine's -/
def ok0 (fr lo nL : Nat) (cc : ByteArray) (own mn : String) (ret : Option FieldType) (hd : Cond) (tb : List ExceptionTableEntry) (ml : List Nat) (pc : Nat) (op : op_R) : Prop :=
  ∀ (p : Program) (l : Launch) (e : Env) (R : Room) (s : State) (m : MethodId) (args : Array Value) (below : List Frame) (meth : Method) (c : Code) (A : Nat → Prop) (D : va_G) (ct : Nat → ClassId) (ad0 : Nat → Nat) (n0 : Nat),
    Cx fr lo nL cc own mn ret hd tb p l R s m args meth c A D ct ad0 →
    ∀ (lv : List (Nat × Value)) (st : List Value) (es : List va_E) (r : op_S ⊕ op_O) (cells slots : Nat) (ad : Nat → Nat) (H : Heap) (locs : List Loc) (ls : Array Slot) (Q : State → Prop),
      op lv st es r → Sm s A D ct ad0 n0 ml ad es H locs → lv_has ls nL (rn_l ad lv) → pt p l e R s m args below meth c A D ct ad0 n0 ml nL cells slots Q r →
      W p l e R s m args below meth c H locs cells slots Q (F0 m pc ls (rn_t ad st))
def ok1 (fr lo nL : Nat) (cc : ByteArray) (own mn : String) (ret : Option FieldType) (hd : Cond) (tb : List ExceptionTableEntry) (ml : List Nat) (pc : Nat) (op : op_T) : Prop := ok0 fr lo nL cc own mn ret hd tb ml pc (fun lv st es r => op lv st es = some r)
def ok2 (fr lo nL : Nat) (cc : ByteArray) (own mn : String) (ret : Option FieldType) (hd : Cond) (tb : List ExceptionTableEntry) (ml : List Nat) (pc : Nat) : op_T ⊕ op_R → Prop
  | .inl f => ok1 fr lo nL cc own mn ret hd tb ml pc f
  | .inr g => ok0 fr lo nL cc own mn ret hd tb ml pc g
theorem ex_sound {fr lo nL : Nat} {cc : ByteArray} {own mn : String} {ret : Option FieldType} {hd : Cond} {tb : List ExceptionTableEntry} {ml : List Nat} {body : op_B} (hok : ∀ pc op, body pc = some op → ok2 fr lo nL cc own mn ret hd tb ml pc op)
    {p : Program} {l : Launch} {e : Env} {R : Room} {s : State} {m : MethodId} {args : Array Value} {below : List Frame} {meth : Method} {c : Code} {A : Nat → Prop} {D : va_G} {ct : Nat → ClassId} {ad0 : Nat → Nat} {n0 : Nat}
    (C : Cx fr lo nL cc own mn ret hd tb p l R s m args meth c A D ct ad0) {o : Option Value ⊕ String} {es' : List va_E} {mc ms : Nat} (hmc : mc ≤ R.cells) (hms : ms ≤ R.slots) :
    ∀ (n pc : Nat) (lv : List (Nat × Value)) (st : List Value) (es : List va_E) (cells slots : Nat), ex body n pc lv st es cells slots (o, es', mc, ms) →
      ∀ (ad : Nat → Nat) (H : Heap) (locs : List Loc) (ls : Array Slot), Sm s A D ct ad0 n0 ml ad es H locs → lv_has ls nL (rn_l ad lv) →
        W p l e R s m args below meth c H locs cells slots (vx_MQ below (qc D ct ad0 n0 ml A o es') (xc D ct ad0 n0 ml A o es') args s mc ms A) (F0 m pc ls (rn_t ad st)) := by
  intro n
  induction n with
  | zero => intro pc lv st es cells slots h; cases h
  | succ n ih =>
    intro pc lv st es cells slots h ad H locs ls hS hl
    unfold ex at h
    split at h
    · cases h
    · rename_i f hop
      have hf := hok pc _ hop
      split at h
      · cases h
      · rename_i pc' lv' st' es2 dc ds hr
        have hm := ex_mono h
        exact hf p l e R s m args below meth c A D ct ad0 n0 C lv st es _ cells slots ad H locs ls _ hr hS hl ⟨Nat.le_trans hm.1 hmc, Nat.le_trans hm.2 hms, fun ad' H' locs' ls' hS' hl' => ih pc' lv' st' es2 _ _ h ad' H' locs' ls' hS' hl'⟩
      · rename_i o2 es2 dc ds hr
        cases h
        exact hf p l e R s m args below meth c A D ct ad0 n0 C lv st es _ cells slots ad H locs ls _ hr hS hl ⟨_, _, rfl, Nat.le_refl _, Nat.le_refl _, hmc, hms⟩
    · rename_i g hop
      have hg := hok pc _ hop
      obtain ⟨x, hr, h⟩ := h
      split at h
      · rename_i pc' lv' st' es2 dc ds
        have hm := ex_mono h
        exact hg p l e R s m args below meth c A D ct ad0 n0 C lv st es _ cells slots ad H locs ls _ hr hS hl ⟨Nat.le_trans hm.1 hmc, Nat.le_trans hm.2 hms, fun ad' H' locs' ls' hS' hl' => ih pc' lv' st' es2 _ _ h ad' H' locs' ls' hS' hl'⟩
      · rename_i o2 es2 dc ds
        cases h
        exact hg p l e R s m args below meth c A D ct ad0 n0 C lv st es _ cells slots ad H locs ls _ hr hS hl ⟨_, _, rfl, Nat.le_refl _, Nat.le_refl _, hmc, hms⟩
/-- a method's start -/
def pcw (D : va_G) (ct : Nat → ClassId) (ad : Nat → Nat) (es : List va_E) (sz : Nat) (U : State) : Prop :=
  U.heap.size = sz ∧ va_P D vwCl (rn_w ad ct es) U.heap ∧ va_K D vwCl (tysF ct) U ∧ va_D (fun _ => True) (rn_w ad ct es) ∧ GF ad (va_A (rn_w ad ct es) sz) U U.heap
/-- a method's contract: what Rl says comes about -/
def Ct (l : Launch) (y : MethodName) (hd : Cond) (fr lo : Nat) (ml : List Nat) (Rl : List Value → List va_E → op_O → Prop) : Prop :=
  ∀ (avs : List Value) (es : List va_E) (o : Option Value ⊕ String) (es' : List va_E) (mc ms : Nat), Rl avs es (o, es', mc, ms) → ∀ (D : va_G) (ct : Nat → ClassId) (ad : Nat → Nat) (sz : Nat),
    vx_Met l y (hd :: GW) { frames := fr, cells := mc, slots := ms, locals := lo } (va_Pc (rn_t ad avs) (pcw D ct ad es sz)) (qc D ct ad es.length ml (va_A (rn_w ad ct es) sz) o es') (xc D ct ad es.length ml (va_A (rn_w ad ct es) sz) o es') mc ms (va_A (rn_w ad ct es) sz)
def CtA (y : MethodName) (hd : Cond) (fr lo : Nat) (ml : List Nat) (Rl : List Value → List va_E → op_O → Prop) : Prop := ∀ l : Launch, l.stackTraces = false → Ct l y hd fr lo ml Rl
/-- a run of the abstract machine -/
def Rn (body : op_B) (pc : Nat) (lv : List (Nat × Value)) (st : List Value) (es : List va_E) (c s : Nat) (r : op_O) : Prop := ∃ n, ex body n pc lv st es c s r
/-- Rl says no more than the abstract machine does -/
def Of (body : op_B) (maxL : Nat) (Rl : List Value → List va_E → op_O → Prop) : Prop :=
  ∀ (avs : List Value) (es : List va_E) (r : op_O), Rl avs es r → (lg_sl avs).length ≤ maxL ∧ Rn body 0 (lv_args 0 avs) [] es 0 0 r
theorem CtA.of {y : MethodName} {cc : ByteArray} {maxL fr lo : Nat} {ret : Option FieldType} {ml : List Nat} {body : op_B} {Rl : List Value → List va_E → op_O → Prop} (hy : plainName y.cls = true)
    (hok : ∀ pc op, body pc = some op → ok2 fr lo maxL cc y.cls y.name ret (.code y cc maxL ret) [] ml pc op) (hF : Of body maxL Rl) : CtA y (.code y cc maxL ret) fr lo ml Rl := by
  intro l hl avs es o es' mc ms h D ct ad sz
  obtain ⟨hlen, n, hex⟩ := hF avs es _ h
  refine vx_ofW (cc := cc) (maxL := maxL) (ret := ret) hy rfl ?_
  intro p e s m args below meth c s₁ B hml ht hv
  obtain ⟨rfl, hsz, hP, hK, hD0, hG⟩ := hv
  subst hsz
  have hD := hD0.self (sz := s.heap.size)
  have hts := atoms_spec (ws := Cond.code y cc maxL ret :: GW) B.pre
  have hown : s.vm.findClass y.cls = some m.cls := findClass_of_methodNamed B.named
  have hin : meth.name = y.name := (name_of_methodNamed B.named B.method).1
  have htb : c.exceptionTable.toList = [] := List.eq_nil_iff_forall_not_mem.mpr fun x hx => ht x hx
  rw [lg_entry_eq]
  have hl0 := lv_entry (rn_t ad avs) (n := maxL) (by rw [rn_sl]; exact hlen)
  rw [rn_args] at hl0
  exact ex_sound hok (n0 := es.length) ⟨B.exec, B.bytes, hml, hown, hts, fun q h => Or.inr h, hK, B.notSynchronized, hin, B.returns, hl, rfl, rfl, hG, htb⟩ (Nat.le_refl _) (Nat.le_refl _) n 0 (lv_args 0 avs) [] es 0 0 hex ad s.heap [] _ ⟨hP, hD, va_S.rf, fun _ h _ => h, fun _ _ => rfl⟩ hl0
