/-! FROM THE LAW'S ENTRY to the abstract machine -/
theorem arr_k {args : Array Value} {s : State} {ty : FieldType} (h : (Cond.arrayClass ty).before args s = true) : ∃ cA, ArrOfT s cA ty ∧ s.vm.findClass ("[" ++ ty.toString) = some cA := by
  obtain ⟨c, k, comp, h1, h2, h3⟩ := Cond.arrayClass_spec (args := args) (first := s) (o := none) (s := s) (idx := []) h
  exact ⟨c, fun n z => ⟨fun k h => (by cases h), k, h2, comp, h3⟩, h1⟩
theorem arr_o {args : Array Value} {s : State} {C : String} (h : (Cond.arrayOver (.object C)).before args s = true) : ∃ cA, ArrOfT s cA (.object C) ∧ va_RA s cA (.object C) := by
  obtain ⟨comp, c, k, h1, -, h2, h3, h4⟩ := Cond.arrayOver_spec (args := args) (first := s) (o := none) (s := s) (idx := []) h
  exact ⟨c, fun N z => ⟨(fun k h => by cases h), k, h2, comp, h3⟩, k, comp, h2, h3, h1, h4⟩
def ctF (c0 c1 c2 c3 c4 : ClassId) : Nat → ClassId
  | 0 => c0
  | 1 => c1
  | 2 => c2
  | 3 => c3
  | _ => c4
theorem st_K {args : Array Value} {s : State} (hts : ∀ w ∈ lw_tbl, w.before args s = true) : ∃ (D : va_G) (ct : Nat → ClassId), va_K D vwCl (tysF ct) s := by
  have hG : ∀ w ∈ GW, w.before args s = true := fun w hw => hts w (List.mem_filter.mp hw).1
  have h0 : ∀ k : Nat, ∃ d : ClassId × (Nat → Nat), ∀ q, vwCl[k]? = some q → u_Kn s q.1 q.2.1 q.2.2 d.1 d.2 := by
    intro k
    match k with
    | 0 => obtain ⟨c, iS, h⟩ := u_known (C := RX0) (T := TX0) (N := 8) (n := 8) hG iX0 (hG _ w_328); exact ⟨(c, iS), fun q hq => by cases hq; exact h⟩
    | 1 => obtain ⟨c, iS, h⟩ := u_known (C := RX1) (T := TX1) (N := 4) (n := 4) hG iX1 (hG _ w_250); exact ⟨(c, iS), fun q hq => by cases hq; exact h⟩
    | 2 => obtain ⟨c, iS, h⟩ := u_known (C := RX2) (T := TX2) (N := 8) (n := 8) hG iX2 (hG _ w_34); exact ⟨(c, iS), fun q hq => by cases hq; exact h⟩
    | 3 => obtain ⟨c, iS, h⟩ := u_known (C := RX3) (T := TX3) (N := 3) (n := 3) hG iX3 (hG _ w_334); exact ⟨(c, iS), fun q hq => by cases hq; exact h⟩
    | 4 => obtain ⟨c, iS, h⟩ := u_known (C := RX4) (T := TX4) (N := 14) (n := 14) hG iX4 (hG _ w_276); exact ⟨(c, iS), fun q hq => by cases hq; exact h⟩
    | 5 => obtain ⟨c, iS, h⟩ := u_known (C := RX5) (T := TX5) (N := 7) (n := 7) hG iX5 (hG _ w_125); exact ⟨(c, iS), fun q hq => by cases hq; exact h⟩
    | 6 => obtain ⟨c, iS, h⟩ := u_known (C := RX6) (T := TX6) (N := 9) (n := 9) hG iX6 (hG _ w_170); exact ⟨(c, iS), fun q hq => by cases hq; exact h⟩
    | 7 => obtain ⟨c, iS, h⟩ := u_known (C := RX7) (T := TX7) (N := 10) (n := 10) hG iX7 (hG _ w_210); exact ⟨(c, iS), fun q hq => by cases hq; exact h⟩
    | 8 => obtain ⟨c, iS, h⟩ := u_known (C := RX8) (T := TX8) (N := 10) (n := 10) hG iX8 (hG _ w_26); exact ⟨(c, iS), fun q hq => by cases hq; exact h⟩
    | 9 => obtain ⟨c, iS, h⟩ := u_known (C := RX9) (T := TX9) (N := 36) (n := 36) hG iX9 (hG _ w_1242); exact ⟨(c, iS), fun q hq => by cases hq; exact h⟩
    | k + 10 => exact ⟨(0, fun _ => 0), fun q hq => by cases hq⟩
  obtain ⟨d, hd⟩ := Classical.axiomOfChoice h0
  obtain ⟨c0, a0, b0⟩ := arr_k (ty := .int) (hts _ (by decide +kernel))
  obtain ⟨c1, a1, b1⟩ := arr_k (ty := .long) (hts _ (by decide +kernel))
  obtain ⟨c2, a2, b2⟩ := arr_k (ty := .boolean) (hts _ (by decide +kernel))
  obtain ⟨c3, a3, b3⟩ := arr_o (C := RX2) (hts _ (by decide +kernel))
  obtain ⟨c4, a4, b4⟩ := arr_o (C := RX5) (hts _ (by decide +kernel))
  refine ⟨(fun k => (d k).1, fun k => (d k).2), ctF c0 c1 c2 c3 c4, fun c q h => hd c q h, fun k q hq => ?_⟩
  match k, hq with
  | 0, hq => cases hq; exact ⟨a0, b0⟩
  | 1, hq => cases hq; exact ⟨a1, b1⟩
  | 2, hq => cases hq; exact ⟨a2, b2⟩
  | 3, hq => cases hq; exact ⟨a3, b3⟩
  | 4, hq => cases hq; exact ⟨a4, b4⟩
  | k + 5, hq => cases hq
/-- what the Statement gives of the start, as a list -/
def stF : List Cond := flatC (Jvm.Cond.and given_1 narrow_1)
def strT (i : Nat) : Term := match strL[i]? with
  | some q => .string q.1 q.2.1
  | none => .string "" 0
theorem f_nest : ∀ q ∈ nestL, Cond.methodLinkNest q.1 q.2.1 q.2.2.1 q.2.2.2 ∈ lw_tbl := by decide +kernel
theorem f_cast : ∀ q ∈ castL, Cond.castable q.1 q.2 ∈ lw_tbl := by decide +kernel
theorem f_decl : ∀ y ∈ declL, Cond.declares y ∈ lw_tbl := by decide +kernel
theorem f_ncast : ∀ q ∈ ncastL, Cond.not (.castable q.1 q.2) ∈ stF := by decide +kernel
theorem f_stat1 : ∀ q ∈ statL, Cond.arrayOf (.static RX7 q.1 "[I") .int ∈ stF := by decide +kernel
theorem f_stat2 : ∀ q ∈ statL, Cond.eq (.length (.static RX7 q.1 "[I")) (.int (Int32.ofNat q.2.2.length)) ∈ stF := by decide +kernel
theorem f_stat3 : ∀ q ∈ statL, ∀ j, j < q.2.2.length → Cond.eq (.elem (.static RX7 q.1 "[I") (.int (Int32.ofNat j))) (.int (q.2.2.getD j 0)) ∈ stF := by decide +kernel
theorem f_stat4 : ∀ q ∈ statL, Cond.laysStatic RX7 q.1 "[I" ∈ lw_tbl := by decide +kernel
theorem f_msg1 : ∀ q ∈ msgL, Cond.stringRef q.1 q.2.1 q.2.2 ∈ lw_tbl := by decide +kernel
theorem f_msg2 : ∀ q ∈ msgL, Cond.exactly (.string q.1 q.2.1) "java/lang/String" ∈ stF := by decide +kernel
theorem f_str1 : ∀ q ∈ strL, Cond.stringRef q.1 q.2.1 q.2.2.1 ∈ lw_tbl := by decide +kernel
theorem f_str2 : ∀ i, i < 5 → Cond.exactly (strT i) "java/lang/String" ∈ stF := by decide +kernel
theorem f_str3 : ∀ i, i < 5 → Cond.eq (.field (strT i) "java/lang/String" "coder" "B") (.int 0) ∈ stF := by decide +kernel
theorem f_str4 : ∀ i, i < 5 → Cond.arrayOf (.field (strT i) "java/lang/String" "value" "[B") .byte ∈ stF := by decide +kernel
theorem f_str5 : ∀ i, i < 5 → Cond.eq (.length (.field (strT i) "java/lang/String" "value" "[B")) (.int (Int32.ofNat (strN.getD i 0))) ∈ stF := by decide +kernel
/-- where the letters of each text begin among what the Statement gives -/
def st9 : List Nat := [217, 228, 239, 250, 984]
theorem f_str6p : ∀ i, i < 5 → ∀ j, j < strN.getD i 0 → stF[st9.getD i 0 + j]? = some (Cond.eq (.elem (.field (strT i) "java/lang/String" "value" "[B") (.int (Int32.ofNat j))) (.int ((strB.getD i []).getD j 0))) := by decide +kernel
theorem f_str6 : ∀ i, i < 5 → ∀ j, j < strN.getD i 0 → Cond.eq (.elem (.field (strT i) "java/lang/String" "value" "[B") (.int (Int32.ofNat j))) (.int ((strB.getD i []).getD j 0)) ∈ stF := fun i hi j hj => List.mem_of_getElem? (f_str6p i hi j hj)
theorem f_str7 : ∀ i, i < 5 → ∀ j, j < 5 → i ≠ j → (Cond.not (Cond.eq (strT i) (strT j)) ∈ stF ∨ Cond.not (Cond.eq (strT j) (strT i)) ∈ stF) := by decide +kernel
theorem f_str8 : ∀ i q, strL[i]? = some q → q.2.2.2 = 1100 + i ∧ i < 5 ∧ strT i = .string q.1 q.2.1 := by
  intro i q h
  match i, h with
  | 0, h => cases h; exact ⟨rfl, by omega, rfl⟩
  | 1, h => cases h; exact ⟨rfl, by omega, rfl⟩
  | 2, h => cases h; exact ⟨rfl, by omega, rfl⟩
  | 3, h => cases h; exact ⟨rfl, by omega, rfl⟩
  | 4, h => cases h; exact ⟨rfl, by omega, rfl⟩
  | i + 5, h => cases h
theorem f_stat5 : ∀ i q, statL[i]? = some q → q.2.1 = 1000 + i ∧ i < 8 := by
  intro i q h
  match i, h with
  | 0, h => cases h; exact ⟨rfl, by omega⟩
  | 1, h => cases h; exact ⟨rfl, by omega⟩
  | 2, h => cases h; exact ⟨rfl, by omega⟩
  | 3, h => cases h; exact ⟨rfl, by omega⟩
  | 4, h => cases h; exact ⟨rfl, by omega⟩
  | 5, h => cases h; exact ⟨rfl, by omega⟩
  | 6, h => cases h; exact ⟨rfl, by omega⟩
  | 7, h => cases h; exact ⟨rfl, by omega⟩
  | i + 8, h => cases h
/-- where the things that stand still lie -/
def adS (b ft : Nat) (adV adK stt : Nat → Nat) (k : Nat) : Nat := if k = 1999 then b else if k = 1140 then ft else if 1120 ≤ k then adV (k - 1120) else if 1100 ≤ k then adK (k - 1100) else stt (k - 1000)
theorem st_G {b L : Nat} {xs : Nat → Int32} {s : State} (hts : ∀ w ∈ lw_tbl, w.before #[Value.ref b] s = true) (hX : va_X b L xs s s.heap) (hbl : b < s.heap.size) (hL : L ≤ 3072) (hgv : (Jvm.Cond.and given_1 narrow_1).before #[Value.ref b] s = true) :
    ∃ ad : Nat → Nat, GF ad (fun q => s.heap.size ≤ q) s s.heap ∧ va_T .int (ad 1999) L (fun j => .int (xs j)) (fun q => s.heap.size ≤ q) s s.heap ∧ ad 1999 = b := by
  have hs : ∀ c ∈ stF, c.before #[Value.ref b] s = true := flat_of_before _ hgv
  have hA : ∀ a : Nat, a < s.heap.size → ¬ (fun q : Nat => s.heap.size ≤ q) a := fun a h => Nat.not_le.mpr h
  have hst : ∀ i : Nat, ∃ t : Nat, ∀ q, statL[i]? = some q → (Term.static RX7 q.1 "[I").eval #[Value.ref b] s none [] s = some (.ref t) ∧ va_T .int t q.2.2.length (fun j => .int (q.2.2.getD j 0)) (fun q => s.heap.size ≤ q) s s.heap := by
    intro i
    cases hq : statL[i]? with
    | none => exact ⟨0, fun q h => by cases h⟩
    | some q =>
      have hm : q ∈ statL := List.mem_of_getElem? hq
      have hlen : q.2.2.length < 2 ^ 31 := (by decide +kernel : ∀ q ∈ statL, q.2.2.length < 2 ^ 31) q hm
      obtain ⟨t, h1, h2⟩ := va_Tof (f := fun j => .int (q.2.2.getD j 0)) (A := fun q : Nat => s.heap.size ≤ q) hlen (hs _ (f_stat1 q hm)) (va_eqt (hs _ (f_stat2 q hm))) (fun j hj => va_eqt (hs _ (f_stat3 q hm j hj))) hA
      exact ⟨t, fun q' h => by cases h; exact ⟨h1, h2⟩⟩
  obtain ⟨stt, hstt⟩ := Classical.axiomOfChoice hst
  obtain ⟨adK, adV, hS1, hS2⟩ := vk_Sof (N := 5) (tm := strT) (len := strN) (byt := strB) (A := fun q : Nat => s.heap.size ≤ q) (args := #[Value.ref b]) (s := s) (by decide +kernel) (fun i hi => hs _ (f_str2 i hi)) (fun i hi => hs _ (f_str3 i hi)) (fun i hi => hs _ (f_str4 i hi)) (fun i hi => hs _ (f_str5 i hi)) (fun i hi j hj => hs _ (f_str6 i hi j hj)) (fun i j hi hj hij => (f_str7 i hi j hj hij).elim (fun h => Or.inl (hs _ h)) (fun h => Or.inr (hs _ h))) hA
  have hZ := va_Zqof (C := "jdk/internal/util/Preconditions") (n := "SIOOBE_FORMATTER") (d := "Ljava/util/function/BiFunction;") (A := fun q : Nat => s.heap.size ≤ q) (hts _ (by decide +kernel)) (hts _ (by decide +kernel)) (hs _ (by decide +kernel)) hA
  obtain ⟨ft, hft⟩ : ∃ ft : Nat, va_Z "jdk/internal/util/Preconditions" "SIOOBE_FORMATTER" "Ljava/util/function/BiFunction;" (.ref ft) (fun q => s.heap.size ≤ q) s s.heap ∨ va_Z "jdk/internal/util/Preconditions" "SIOOBE_FORMATTER" "Ljava/util/function/BiFunction;" .null (fun q => s.heap.size ≤ q) s s.heap := by
    rcases hZ with h | ⟨t, h⟩
    · exact ⟨0, Or.inr h⟩
    · exact ⟨t, Or.inl h⟩
  have eK : ∀ i, i < 5 → adS b ft adV adK stt (1100 + i) = adK i := fun i hi => by
    unfold adS
    rw [if_neg (by omega), if_neg (by omega), if_neg (by omega), if_pos (by omega), Nat.add_sub_cancel_left]
  have eV : ∀ i, i < 5 → adS b ft adV adK stt (1120 + i) = adV i := fun i hi => by
    unfold adS
    rw [if_neg (by omega), if_neg (by omega), if_pos (by omega), Nat.add_sub_cancel_left]
  have eS : ∀ i, i < 8 → adS b ft adV adK stt (1000 + i) = stt i := fun i hi => by
    unfold adS
    rw [if_neg (by omega), if_neg (by omega), if_neg (by omega), if_neg (by omega), Nat.add_sub_cancel_left]
  have eF : adS b ft adV adK stt 1140 = ft := rfl
  refine ⟨adS b ft adV adK stt, ⟨⟨fun q hq => va_Nw.of rfl (hts _ (f_nest q hq)), fun q hq => va_Nw.of rfl (hts _ (f_cast q hq)), fun q hq => va_Nc.of (hs _ (f_ncast q hq)), ?_, ?_, fun q hq => ?_, fun q hq => ?_, ?_, ?_⟩, vk_S_re hS1 eK eV, fun q hq => ?_, ?_, ?_, fun y hy => va_Nw.of rfl (hts _ (f_decl y hy))⟩, ?_, rfl⟩
  · exact vx_Zqof (hts _ (by decide +kernel)) (hts _ (by decide +kernel)) (hs _ (by decide +kernel)) hA
  · exact vx_Zqof (hts _ (by decide +kernel)) (hts _ (by decide +kernel)) (hs _ (by decide +kernel)) hA
  · obtain ⟨i, hi⟩ := List.getElem?_of_mem hq
    obtain ⟨h1, h2⟩ := f_stat5 i q hi
    obtain ⟨h3, h4⟩ := hstt i q hi
    rw [h1, eS i h2]
    exact ⟨va_Zref (hts _ (f_stat4 q hq)) (hts _ (by decide +kernel)) h3 hA, h4⟩
  · obtain ⟨a, -, -, -, q1, -⟩ := Cond.exactly_spec (args := #[Value.ref b]) (first := s) (o := none) (s := s) (idx := []) (hs _ (f_msg2 q hq))
    exact ⟨a, vk_R.of (A := #[Value.ref b]) (hts _ (f_msg1 q hq)) q1⟩
  · exact va_AO.of (hts _ (by decide +kernel))
  · exact va_AO.of (hts _ (by decide +kernel))
  · obtain ⟨i, hi⟩ := List.getElem?_of_mem hq
    obtain ⟨h1, h2, h3⟩ := f_str8 i q hi
    rw [h1, eK i h2]
    exact vk_R.of (A := #[Value.ref b]) (hts _ (f_str1 q hq)) (by rw [← h3]; exact hS2 i h2)
  · exact va_Zof (hts _ (by decide +kernel)) (hts _ (by decide +kernel)) (va_eqi (hs _ (by decide +kernel))) hA
  · exact hft
  · obtain ⟨scr, h1, h2, h3, h4, h5⟩ := hX
    exact ⟨scr, h1, h2, h3, Nat.le_of_eq h4.symm, by rw [h4], h5, Nat.not_le.mpr hbl⟩
/-- the law's run, out of its pure text -/
theorem start_of {p : Program} {e : Env} {s : State} {m : MethodId} {below : List Frame} {meth : Method} {c : Code} (l : Launch) (hflags : l.flags = flags0) {b L : Nat} {xs : Nat → Int32} (hL : L ≤ 3072) (C0 : lw_At p s m meth c b L xs)
    (hpure : ∃ z, pL_law_1999 L xs = some z ∧ z.1 = 1 ∧ z.2.2.1 ≤ 601024 ∧ z.2.2.2 ≤ 7293034) : W p l e room_1 s m #[Value.ref b] below meth c s.heap [] 0 0 (lw_Z below #[Value.ref b] s) (entryFrame m ([Value.ref b] : List Value).toArray 8) := by
  obtain ⟨hx, hb, hr, hml, hown, hts, hX, hbl, hlocks, hgv⟩ := C0
  obtain ⟨z, hz, z1, z2, z3⟩ := hpure
  obtain ⟨n, hn⟩ := oL_law L xs z hz
  obtain ⟨D, ct, hK⟩ := st_K hts
  obtain ⟨ad, hG, hT, hadb⟩ := st_G hts hX hbl hL hgv
  have hl := lv_entry ([.ref b]) (n := 8) (Nat.le_of_ble_eq_true rfl)
  rw [lg_entry_eq]
  generalize (lg_sl ([.ref b]) ++ List.replicate (8 - (lg_sl ([.ref b])).length) Slot.unset).toArray = ls at hl ⊢
  have hl : lv_has ls 8 (rn_l ad [(0, .ref 1999)]) := by
    show lv_has ls 8 [(0, .ref (ad 1999))]
    rw [hadb]
    exact hl
  have hst : l.stackTraces = false := by
    unfold Launch.stackTraces
    rw [hflags]
    decide +kernel
  have key := ex_soundS (kL_law_1999 L xs meth.name c.exceptionTable.toList) (p := p) (l := l) (e := e) (R := room_1) (s := s) (m := m) (args := #[Value.ref b]) (below := below) (meth := meth) (c := c) (A := fun q => s.heap.size ≤ q) (D := D) (ct := ct) (ad0 := ad) (n0 := 0)
    ⟨hx, hb, hml, hown, fun w hw => by
        rcases List.mem_cons.mp hw with rfl | hw
        · rfl
        · exact hts w (List.mem_filter.mp hw).1, fun q h => h, hK, hlocks, rfl, hr, hst, rfl, rfl, hG, rfl⟩ hT (o := .inl (some (.int z.1))) (es' := z.2.1) (mc := z.2.2.1) (ms := z.2.2.2) z2 z3 n 0 [(0, .ref 1999)] [] [] 0 0 hn ad s.heap [] ls ⟨fun k q h => by simp [rn_w] at h, ⟨fun i j x y h => by simp [rn_w] at h, fun k q h => by simp [rn_w] at h⟩, va_S.rf, fun i h => absurd h (Nat.not_lt_zero i), fun _ _ => rfl⟩ hl
  intro T hT9 X
  obtain ⟨t, a1, o, b1, b2, b3⟩ := key T hT9 X
  refine ⟨t, a1, o, b1, b2, ?_⟩
  rcases b3 with ⟨⟨v, hv, -, ho, -, -⟩, LL, hF, hfree⟩ | ⟨q, ho, E, ce, LL, hx9, -⟩
  · cases hv
    rw [z1] at ho
    refine ⟨ho, hF.1, hF.2.1, ?_⟩
    have h5 := (hF.2.2.drop_fresh (L := []) (J := LL) hfree).mono z2 z3
    exact h5
  · cases hx9.1
