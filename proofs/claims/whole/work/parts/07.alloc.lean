/-- no reference lies in [a, b) -/
def nr (a b : Nat) (l : List Nat) : Bool := l.all (fun x => Nat.blt x a || Nat.ble b x)
theorem nr_ok {a b : Nat} {l : List Nat} (h : nr a b l = true) : ∀ x ∈ l, x < a ∨ b ≤ x := by
  intro x hx
  have := List.all_eq_true.mp h x hx
  rw [Bool.or_eq_true] at this
  rcases this with g | g
  · exact Or.inl (Nat.le_of_ble_eq_true g)
  · exact Or.inr (Nat.le_of_ble_eq_true g)
def fr_ok (a b : Nat) (es : List va_E) (lv : List (Nat × Value)) (st : List Value) : Bool := nr a b (rf_s es) && (nr a b (rf_l lv) && nr a b (rf_t st))
theorem grow {s : State} {A : Nat → Prop} {D : va_G} {ct : Nat → ClassId} {ad0 : Nat → Nat} {n0 nL : Nat} {ml : List Nat} {ad : Nat → Nat} {es : List va_E} {H H1 : Heap} {locs locs1 : List Loc} {lv : List (Nat × Value)} {st : List Value} {ls : Array Slot} {q : Nat} {e : va_E}
    (hS : Sm s A D ct ad0 n0 ml ad es H locs) (hf : fr_ok es.length (es.length + 1) es lv st = true) (hl : lv_has ls nL (rn_l ad lv)) (hlen : es.length < 1000) (he : rf_e e = [])
    (hP1 : va_P D vwCl (rn_w ad ct es ++ [(q, rn_e ad ct e)]) H1) (hD1 : va_D A (rn_w ad ct es ++ [(q, rn_e ad ct e)])) (hS1 : va_S A s.heap H1 locs1) :
    ∃ ad' : Nat → Nat, Sm s A D ct ad0 n0 ml ad' (es ++ [e]) H1 locs1 ∧ lv_has ls nL (rn_l ad' lv) ∧ rn_t ad' (.ref es.length :: st) = .ref q :: rn_t ad st := by
  simp only [fr_ok, Bool.and_eq_true] at hf
  obtain ⟨f1, f2, f3⟩ := hf
  have g : ∀ x, (x < es.length ∨ es.length + 1 ≤ x) → (if x = es.length then q else ad x) = ad x := fun x hx => if_neg (by omega)
  have w1 : rn_w (fun k => if k = es.length then q else ad k) ct es = rn_w ad ct es := rn_w_congr (fun a ha => g a (nr_ok f1 a ha)) (fun i hi => g i (Or.inl hi))
  have w2 : rn_e (fun k => if k = es.length then q else ad k) ct e = rn_e ad ct e := rn_e_congr (fun a ha => by rw [he] at ha; cases ha)
  have w3 : rn_w (fun k => if k = es.length then q else ad k) ct (es ++ [e]) = rn_w ad ct es ++ [(q, rn_e ad ct e)] := by
    rw [← rn_w_push, w1, w2]
    show _ ++ [((if es.length = es.length then q else _), _)] = _
    rw [if_pos rfl]
  refine ⟨fun k => if k = es.length then q else ad k, ⟨by rw [w3]; exact hP1, by rw [w3]; exact hD1, hS1, fun i h1 h2 => by rw [List.length_append]; exact Nat.lt_of_lt_of_le (hS.2.2.2.1 i h1 h2) (Nat.le_add_right _ _), fun i hi => ?_⟩, ?_, ?_⟩
  · show (if i = es.length then q else ad i) = ad0 i
    rw [if_neg (by
      rcases hi with ⟨h8, h7⟩ | h8
      · have := hS.2.2.2.1 i h8 h7; omega
      · omega)]
    exact hS.2.2.2.2 i hi
  · rw [rn_l_congr (g := ad) fun a ha => g a (nr_ok f2 a ha)]; exact hl
  · show Value.ref (if es.length = es.length then q else _) :: rn_t _ st = _
    rw [if_pos rfl, rn_t_congr (g := ad) fun a ha => g a (nr_ok f3 a ha)]
def o_new (pc' ci : Nat) (fs : List Value) : op_T := fun lv st es => if fr_ok es.length (es.length + 1) es lv st && Nat.blt es.length 1000 then some (.inl (pc', lv, .ref es.length :: st, es ++ [.inr (ci, fs)], 1, fs.length)) else none
theorem s_new {fr lo nL : Nat} {cc : ByteArray} {own mn : String} {ret : Option FieldType} {hd : Cond} {tb : List ExceptionTableEntry} {ml : List Nat} {pc : Nat} {C9 : String} {T9 : u_T} {ci index : Nat} {fs : List Value} (hin : ∀ w ∈ u_ws C9 T9 fs.length, w ∈ GW) (hc : vwCl[ci]? = some (C9, T9, fs.length)) (ty0 : Nat → FieldType) (hty : ∀ k, k < fs.length → parseFieldDescriptor (T9 k).2.2.1 = some (ty0 k)) (hcl : Cond.classLink own index C9 ∈ GW) (hin2 : Cond.instantiable C9 fs.length ∈ GW) (hini : Cond.initialized C9 ∈ GW) (hfs : ∀ j, j < fs.length → defaultValue (ty0 j) = vp_V fs j) (hrf : rf_t fs = []) (hdg : decode cc pc = .ok (.new index, 3)) : ok1 fr lo nL cc own mn ret hd tb ml pc (o_new (pc + 3) ci fs) := by
  intro p l e R s m args below meth c A D ct ad0 n0 C lv st es r cells slots ad H locs ls Q ho hS hl hk
  obtain ⟨hx, hb, hml, hown, hts, hA, hK, hlocks, hmn, hr, htr, hRf, hRl, hG, htb⟩ := C
  unfold o_new at ho
  split at ho
  · rename_i hf
    cases ho
    rw [Bool.and_eq_true] at hf
    refine va_new (C := C9) (T := T9) (N := fs.length) (fs := fs) hx hb hts (fun w h => List.mem_cons_of_mem _ (hin w h)) ty0 hty hown (hts _ (List.mem_cons_of_mem _ hcl)) (hts _ (List.mem_cons_of_mem _ hin2)) (hts _ (List.mem_cons_of_mem _ hini)) hK hS.1 hS.2.1 hS.2.2.1 hA hc hfs hk.1 hk.2.1 hdg (fun q H1 hP1 hD1 hS1 => ?_)
    have e9 : rn_e ad ct (.inr (ci, fs)) = .inr (ci, fs) := by
      show Sum.inr (ci, rn_t ad fs) = _
      rw [rn_t_none hrf]
    obtain ⟨ad', h1, h2, h3⟩ := grow (e := .inr (ci, fs)) (q := q) hS hf.1 hl (Nat.le_of_ble_eq_true hf.2) hrf (by rw [e9]; exact hP1) (by rw [e9]; exact hD1) hS1
    have := hk.2.2 ad' H1 locs ls h1 h2
    rw [h3] at this
    exact this
  · cases ho
/-- new arrays of numbers -/
def az (c n : Nat) : va_E := match c with
  | 0 => .inl (0, n, .inl (fun _ => 0))
  | 1 => .inl (1, n, .inr (.inl (fun _ => 0)))
  | _ => .inl (2, n, .inl (fun _ => 0))
def o_newa (pc' c : Nat) : op_T := fun lv st es => match st with
  | .int n :: rest => if n < 0 ∨ 60000000 < n.toNatClampNeg then none else (if fr_ok es.length (es.length + 1) es lv rest && Nat.blt es.length 1000 then some (.inl (pc', lv, .ref es.length :: rest, es ++ [az c n.toNatClampNeg], 1, n.toNatClampNeg)) else none)
  | _ => none
theorem s_newa {fr lo nL : Nat} {cc : ByteArray} {own mn : String} {ret : Option FieldType} {hd : Cond} {tb : List ExceptionTableEntry} {ml : List Nat} {pc : Nat} {c9 : Nat} {at9 : ArrayType} (hat : (c9 = 0 ∧ at9 = .int) ∨ (c9 = 1 ∧ at9 = .long) ∨ (c9 = 2 ∧ at9 = .boolean)) (hcl : Cond.arrayClass (newarray.typeOf at9) ∈ GW) (hdg : decode cc pc = .ok (.newarray at9, 2)) : ok1 fr lo nL cc own mn ret hd tb ml pc (o_newa (pc + 2) c9) := by
  intro p l e R s m args below meth c A D ct ad0 n0 C lv st es r cells slots ad H locs ls Q ho hS hl hk
  obtain ⟨hx, hb, hml, hown, hts, hA, hK, hlocks, hmn, hr, htr, hRf, hRl, hG, htb⟩ := C
  unfold o_newa at ho
  split at ho
  · rename_i n rest
    split at ho
    · cases ho
    · rename_i hn
      split at ho
      · rename_i hf
        cases ho
        rw [Bool.and_eq_true] at hf
        have hn0 : ¬ n < 0 := fun h => hn (Or.inl h)
        have hn1 : n.toNatClampNeg ≤ 60000000 := Nat.not_lt.mp fun h => hn (Or.inr h)
        rcases hat with ⟨rfl, rfl⟩ | ⟨rfl, rfl⟩ | ⟨rfl, rfl⟩
        · refine va_newa (atype := .int) (ty := .int) (N' := n.toNatClampNeg) (a0 := (n.toNatClampNeg, .inl (fun _ => 0))) hx hb (hts _ (List.mem_cons_of_mem _ hcl)) rfl hK hS.1 hS.2.1 hS.2.2.1 hA (fun _ => rfl) hn0 rfl (show _ * 4 ≤ _ by omega) hk.1 hk.2.1 hdg (fun q cA H1 hK1 hP1 hD1 hS1 => ?_)
          have e9 : cA = ct 0 := Option.some.inj ((hK1.2 5 _ rfl).2.symm.trans (hK.2 0 _ rfl).2)
          subst e9
          obtain ⟨ad', h1, h2, h3⟩ := grow (e := az 0 n.toNatClampNeg) (q := q) hS hf.1 hl (Nat.le_of_ble_eq_true hf.2) rfl hP1 hD1 hS1
          have := hk.2.2 ad' H1 locs ls h1 h2
          rw [h3] at this
          exact this
        · refine va_newa (atype := .long) (ty := .long) (N' := n.toNatClampNeg) (a0 := (n.toNatClampNeg, .inr (.inl (fun _ => 0)))) hx hb (hts _ (List.mem_cons_of_mem _ hcl)) rfl hK hS.1 hS.2.1 hS.2.2.1 hA (fun _ => rfl) hn0 rfl (show _ * 8 ≤ _ by omega) hk.1 hk.2.1 hdg (fun q cA H1 hK1 hP1 hD1 hS1 => ?_)
          have e9 : cA = ct 1 := Option.some.inj ((hK1.2 5 _ rfl).2.symm.trans (hK.2 1 _ rfl).2)
          subst e9
          obtain ⟨ad', h1, h2, h3⟩ := grow (e := az 1 n.toNatClampNeg) (q := q) hS hf.1 hl (Nat.le_of_ble_eq_true hf.2) rfl hP1 hD1 hS1
          have := hk.2.2 ad' H1 locs ls h1 h2
          rw [h3] at this
          exact this
        · refine va_newa (atype := .boolean) (ty := .boolean) (N' := n.toNatClampNeg) (a0 := (n.toNatClampNeg, .inl (fun _ => 0))) hx hb (hts _ (List.mem_cons_of_mem _ hcl)) rfl hK hS.1 hS.2.1 hS.2.2.1 hA (fun _ => rfl) hn0 rfl (show _ * 1 ≤ _ by omega) hk.1 hk.2.1 hdg (fun q cA H1 hK1 hP1 hD1 hS1 => ?_)
          have e9 : cA = ct 2 := Option.some.inj ((hK1.2 5 _ rfl).2.symm.trans (hK.2 2 _ rfl).2)
          subst e9
          obtain ⟨ad', h1, h2, h3⟩ := grow (e := az 2 n.toNatClampNeg) (q := q) hS hf.1 hl (Nat.le_of_ble_eq_true hf.2) rfl hP1 hD1 hS1
          have := hk.2.2 ad' H1 locs ls h1 h2
          rw [h3] at this
          exact this
      · cases ho
  · cases ho
/-- a new array of references -/
def o_newq (pc' c : Nat) : op_T := fun lv st es => match st with
  | .int n :: rest => if n < 0 ∨ 60000000 < n.toNatClampNeg then none else (if fr_ok es.length (es.length + 1) es lv rest && Nat.blt es.length 1000 then some (.inl (pc', lv, .ref es.length :: rest, es ++ [.inl (c, n.toNatClampNeg, .inr (.inr (.inr (.inr (fun _ => none)))))], 1, n.toNatClampNeg)) else none)
  | _ => none
theorem s_newq {fr lo nL : Nat} {cc : ByteArray} {own mn : String} {ret : Option FieldType} {hd : Cond} {tb : List ExceptionTableEntry} {ml : List Nat} {pc : Nat} {c9 index : Nat} {C9 : String} (hat : (c9 = 3 ∧ C9 = RX2) ∨ (c9 = 4 ∧ C9 = RX5)) (hcl : Cond.classLink own index C9 ∈ GW) (hdg : decode cc pc = .ok (.anewarray index, 3)) : ok1 fr lo nL cc own mn ret hd tb ml pc (o_newq (pc + 3) c9) := by
  intro p l e R s m args below meth c A D ct ad0 n0 C lv st es r cells slots ad H locs ls Q ho hS hl hk
  obtain ⟨hx, hb, hml, hown, hts, hA, hK, hlocks, hmn, hr, htr, hRf, hRl, hG, htb⟩ := C
  unfold o_newq at ho
  split at ho
  · rename_i n rest
    split at ho
    · cases ho
    · rename_i hn
      split at ho
      · rename_i hf
        cases ho
        rw [Bool.and_eq_true] at hf
        have hn0 : ¬ n < 0 := fun h => hn (Or.inl h)
        have hn1 : n.toNatClampNeg ≤ 60000000 := Nat.not_lt.mp fun h => hn (Or.inr h)
        have hrf : rf_e (.inl (c9, n.toNatClampNeg, .inr (.inr (.inr (.inr (fun _ => none)))))) = [] := List.filterMap_eq_nil_iff.mpr fun _ _ => rfl
        have e8 : rn_e ad ct (.inl (c9, n.toNatClampNeg, .inr (.inr (.inr (.inr (fun _ => none)))))) = .inl (ct c9, n.toNatClampNeg, .inr (.inr (.inr (.inr (fun _ => none))))) := by
          show Sum.inl (ct c9, n.toNatClampNeg, Sum.inr (Sum.inr (Sum.inr (Sum.inr (rn_g ad n.toNatClampNeg (fun _ => none)))))) = _
          rw [rn_g_eq]
          show Sum.inl (ct c9, n.toNatClampNeg, Sum.inr (Sum.inr (Sum.inr (Sum.inr (fun k => if k < n.toNatClampNeg then none else none))))) = _
          have : (fun k => if k < n.toNatClampNeg then (none : Option Nat) else none) = fun _ => none := by funext k; exact ite_self _
          rw [this]
        rcases hat with ⟨rfl, rfl⟩ | ⟨rfl, rfl⟩
        · refine va_newq (N' := n.toNatClampNeg) hx hb hown (hts _ (List.mem_cons_of_mem _ hcl)) hG.1.2.2.2.2.2.2.2.1 hK hS.1 hS.2.1 hS.2.2.1 hA hn0 rfl (by omega) hk.1 hk.2.1 hdg (fun q cA H1 hK1 hP1 hD1 hS1 => ?_)
          have e9 : cA = ct 3 := by
            obtain ⟨_, _, _, _, _, g1⟩ := (hK1.2 5 _ rfl).2
            obtain ⟨_, _, _, _, _, g2⟩ := (hK.2 3 _ rfl).2
            exact Option.some.inj (g1.symm.trans g2)
          subst e9
          obtain ⟨ad', h1, h2, h3⟩ := grow (q := q) hS hf.1 hl (Nat.le_of_ble_eq_true hf.2) hrf (by rw [e8]; exact hP1) (by rw [e8]; exact hD1) hS1
          have := hk.2.2 ad' H1 locs ls h1 h2
          rw [h3] at this
          exact this
        · refine va_newq (N' := n.toNatClampNeg) hx hb hown (hts _ (List.mem_cons_of_mem _ hcl)) hG.1.2.2.2.2.2.2.2.2 hK hS.1 hS.2.1 hS.2.2.1 hA hn0 rfl (by omega) hk.1 hk.2.1 hdg (fun q cA H1 hK1 hP1 hD1 hS1 => ?_)
          have e9 : cA = ct 4 := by
            obtain ⟨_, _, _, _, _, g1⟩ := (hK1.2 5 _ rfl).2
            obtain ⟨_, _, _, _, _, g2⟩ := (hK.2 4 _ rfl).2
            exact Option.some.inj (g1.symm.trans g2)
          subst e9
          obtain ⟨ad', h1, h2, h3⟩ := grow (q := q) hS hf.1 hl (Nat.le_of_ble_eq_true hf.2) hrf (by rw [e8]; exact hP1) (by rw [e8]; exact hD1) hS1
          have := hk.2.2 ad' H1 locs ls h1 h2
          rw [h3] at this
          exact this
      · cases ho
  · cases ho
/-- a cell into an array of references -/
def o_aast (pc' c ci : Nat) : op_T := fun lv st es => match st with
  | .ref v :: .int i :: .ref a :: rest => match es[a]?, es[v]? with
    | some (.inl (c9, n, .inr (.inr (.inr (.inr g))))), some (.inr (cj, _)) => if c9 = c ∧ cj = ci then (if i < 0 ∨ n ≤ i.toNatClampNeg then none else some (.inl (pc', lv, rest, es.set a (.inl (c9, n, .inr (.inr (.inr (.inr (va_up g i.toNatClampNeg (some v))))))), 0, 0))) else none
    | _, _ => none
  | _ => none
theorem s_aast {fr lo nL : Nat} {cc : ByteArray} {own mn : String} {ret : Option FieldType} {hd : Cond} {tb : List ExceptionTableEntry} {ml : List Nat} {pc : Nat} {c9 ci : Nat} {q9 : vw_C} (hc : vwCl[ci]? = some q9) (hat : ∀ ct : Nat → ClassId, (tysF ct)[c9]? = some (ct c9, .object q9.1)) (hdg : decode cc pc = .ok (.aastore, 1)) : ok1 fr lo nL cc own mn ret hd tb ml pc (o_aast (pc + 1) c9 ci) := by
  intro p l e R s m args below meth c A D ct ad0 n0 C lv st es r cells slots ad H locs ls Q ho hS hl hk
  obtain ⟨hx, hb, hml, hown, hts, hA, hK, hlocks, hmn, hr, htr, hRf, hRl, hG, htb⟩ := C
  unfold o_aast at ho
  split at ho
  · rename_i v i a rest
    split at ho
    · rename_i d9 n g cj fs he1 he2
      split at ho
      · rename_i hcc
        obtain ⟨rfl, rfl⟩ := hcc
        split at ho
        · cases ho
        · rename_i hin
          cases ho
          have hlt : i.toNatClampNeg < n := Nat.not_le.mp fun q => hin (Or.inr q)
          refine va_astq hx hb hK hS.1 hS.2.1 hS.2.2.1 a d9 v cj (rn_w_at he1) (hat ct) (rn_w_at he2) hc hin hdg (fun H1 locs1 hP1 hD1 hS1 => ?_)
          have e8 : rn_e ad ct (.inl (d9, n, .inr (.inr (.inr (.inr (va_up g i.toNatClampNeg (some v))))))) = .inl (ct d9, n, .inr (.inr (.inr (.inr (va_up (rn_g ad n g) i.toNatClampNeg (some (ad v))))))) := by
            rw [rn_g_eq]
            show Sum.inl (ct d9, n, Sum.inr (Sum.inr (Sum.inr (Sum.inr (rn_g ad n (va_up g i.toNatClampNeg (some v))))))) = _
            rw [rn_g_eq]
            show Sum.inl (ct d9, n, Sum.inr (Sum.inr (Sum.inr (Sum.inr (fun k => if k < n then (va_up g i.toNatClampNeg (some v) k).map ad else none))))) = _
            have : (fun k => if k < n then (va_up g i.toNatClampNeg (some v) k).map ad else none) = va_up (fun k => if k < n then (g k).map ad else none) i.toNatClampNeg (some (ad v)) := by
              funext k
              unfold va_up
              by_cases hk9 : k = i.toNatClampNeg
              · subst hk9; rw [if_pos hlt, if_pos rfl, if_pos rfl]; rfl
              · rw [if_neg hk9, if_neg hk9]
            rw [this]
          have e9 := rn_w_set (ad := ad) (ct := ct) (es := es) (k := a) (e := .inl (d9, n, .inr (.inr (.inr (.inr (va_up g i.toNatClampNeg (some v)))))))
          rw [e8] at e9
          exact hk.2.2 ad H1 locs1 ls ⟨e9 ▸ hP1, e9 ▸ hD1, hS1, by rw [List.length_set]; exact hS.2.2.2.1, hS.2.2.2.2⟩ hl
      · cases ho
    · cases ho
  · cases ho
/-- Object.<init> -/
def cs (st : List Value) : Nat := (st.map fun v => v.category).sum
def o_objInit (pc' : Nat) : op_T := fun lv st es => match st with
  | .ref _ :: rest => if cs rest ≤ 8 then some (.inl (pc', lv, rest, es, 0, 0)) else none
  | _ => none
theorem s_objInit {fr lo nL : Nat} {cc : ByteArray} {own mn : String} {ret : Option FieldType} {hd : Cond} {tb : List ExceptionTableEntry} {ml : List Nat} {pc : Nat} {idx : Nat} (h1 : Cond.methodLink own idx Lib.objectInit ∈ GW) (h2 : Cond.instanceMethod Lib.objectInit ∈ GW) (h3 : Cond.code Lib.objectInit ⟨#[0xb1]⟩ 1 none ∈ GW) (hf : 1 ≤ fr) (hlo : 20 ≤ lo) (hdg : decode cc pc = .ok (.invokespecial idx, 3)) : ok1 fr lo nL cc own mn ret hd tb ml pc (o_objInit (pc + 3)) := by
  intro p l e R s m args below meth c A D ct ad0 n0 C lv st es r cells slots ad H locs ls Q ho hS hl hk
  obtain ⟨hx, hb, hml, hown, hts, hA, hK, hlocks, hmn, hr, htr, hRf, hRl, hG, htb⟩ := C
  unfold o_objInit at ho
  split at ho
  · rename_i a rest
    split at ho
    · rename_i hcs
      cases ho
      have hroom := lv_room (m := m) (pc := pc) (ls := ls) (rest := rn_t ad (.ref a :: rest)) (st := List.map (rn_v ad) rest) (by rw [show List.map (rn_v ad) rest = rn_t ad rest from rfl, rn_t_cat]; exact hcs)
      refine W.objInit hx hb hown (hts _ (List.mem_cons_of_mem _ h1)) (hts _ (List.mem_cons_of_mem _ h2)) (hts _ (List.mem_cons_of_mem _ h3)) rfl (by rw [hml]; exact hl.1) rfl hdg (by omega) (by omega) ?_
      exact hk.2.2 ad H locs ls hS hl
    · cases ho
  · cases ho
/-- Math.min, Math.abs -/
def o_min (pc' : Nat) : op_T := fun lv st es => match st with
  | .int y :: .int x :: rest => if cs rest ≤ 8 then some (.inl (pc', lv, .int (if y < x then y else x) :: rest, es, 0, 0)) else none
  | _ => none
theorem s_min {fr lo nL : Nat} {cc : ByteArray} {own mn : String} {ret : Option FieldType} {hd : Cond} {tb : List ExceptionTableEntry} {ml : List Nat} {pc : Nat} {idx : Nat} (h1 : Cond.methodLink own idx Lib.Math.min.name ∈ GW) (h2 : Cond.static Lib.Math.min.name ∈ GW) (h3 : Cond.initialized "java/lang/Math" ∈ GW) (h4 : Cond.code Lib.Math.min.name Lib.Math.min.code 2 (some .int) ∈ GW) (hf : 1 ≤ fr) (hlo : 21 ≤ lo) (hdg : decode cc pc = .ok (.invokestatic idx, 3)) : ok1 fr lo nL cc own mn ret hd tb ml pc (o_min (pc + 3)) := by
  intro p l e R s m args below meth c A D ct ad0 n0 C lv st es r cells slots ad H locs ls Q ho hS hl hk
  obtain ⟨hx, hb, hml, hown, hts, hA, hK, hlocks, hmn, hr, htr, hRf, hRl, hG, htb⟩ := C
  unfold o_min at ho
  split at ho
  · rename_i y x rest
    split at ho
    · rename_i hcs
      cases ho
      have hq : ((List.map (rn_v ad) rest).map fun v => v.category).sum ≤ 8 := by rw [show List.map (rn_v ad) rest = rn_t ad rest from rfl, rn_t_cat]; exact hcs
      exact va_mmin hx hb (hml.trans hl.1.symm) hown (hts _ (List.mem_cons_of_mem _ h1)) (hts _ (List.mem_cons_of_mem _ h2)) (hts _ (List.mem_cons_of_mem _ h3)) (hts _ (List.mem_cons_of_mem _ h4)) (by omega) (by omega) (Nat.le_trans (Nat.le_add_right _ _) hk.1) (Nat.le_trans (Nat.le_add_right _ _) hk.2.1) hdg (hk.2.2 ad H locs ls hS hl)
    · cases ho
  · cases ho
def o_abs (pc' : Nat) : op_T := fun lv st es => match st with
  | .int x :: rest => if cs rest ≤ 8 then some (.inl (pc', lv, .int (if 0 ≤ x then x else 0 - x) :: rest, es, 0, 0)) else none
  | _ => none
theorem s_abs {fr lo nL : Nat} {cc : ByteArray} {own mn : String} {ret : Option FieldType} {hd : Cond} {tb : List ExceptionTableEntry} {ml : List Nat} {pc : Nat} {idx : Nat} (h1 : Cond.methodLink own idx Lib.Math.abs.name ∈ GW) (h2 : Cond.static Lib.Math.abs.name ∈ GW) (h3 : Cond.initialized "java/lang/Math" ∈ GW) (h4 : Cond.code Lib.Math.abs.name Lib.Math.abs.code 1 (some .int) ∈ GW) (hf : 1 ≤ fr) (hlo : 21 ≤ lo) (hdg : decode cc pc = .ok (.invokestatic idx, 3)) : ok1 fr lo nL cc own mn ret hd tb ml pc (o_abs (pc + 3)) := by
  intro p l e R s m args below meth c A D ct ad0 n0 C lv st es r cells slots ad H locs ls Q ho hS hl hk
  obtain ⟨hx, hb, hml, hown, hts, hA, hK, hlocks, hmn, hr, htr, hRf, hRl, hG, htb⟩ := C
  unfold o_abs at ho
  split at ho
  · rename_i x rest
    split at ho
    · rename_i hcs
      cases ho
      have hq : ((List.map (rn_v ad) rest).map fun v => v.category).sum ≤ 8 := by rw [show List.map (rn_v ad) rest = rn_t ad rest from rfl, rn_t_cat]; exact hcs
      exact va_mabs hx hb (hml.trans hl.1.symm) hown (hts _ (List.mem_cons_of_mem _ h1)) (hts _ (List.mem_cons_of_mem _ h2)) (hts _ (List.mem_cons_of_mem _ h3)) (hts _ (List.mem_cons_of_mem _ h4)) (by omega) (by omega) (Nat.le_trans (Nat.le_add_right _ _) hk.1) (Nat.le_trans (Nat.le_add_right _ _) hk.2.1) hdg (hk.2.2 ad H locs ls hS hl)
    · cases ho
  · cases ho
/-- System.arraycopy of ints -/
def o_copy (pc' : Nat) : op_T := fun lv st es => match st with
  | .int n :: .int dp :: .ref b :: .int sp :: .ref a :: rest => match es[a]?, es[b]? with
    | some (.inl (0, n0, .inl f)), some (.inl (0, n1, .inl g)) => if cs rest ≤ 8 then (if (sp < 0 ∨ dp < 0 ∨ n < 0) ∨ n0 < sp.toNatClampNeg + n.toNatClampNeg ∨ n1 < dp.toNatClampNeg + n.toNatClampNeg then none else
        some (.inl (pc', lv, rest, es.set b (.inl (0, n1, .inl (va_cpy f g sp.toNatClampNeg dp.toNatClampNeg n.toNatClampNeg))), 0, 0))) else none
    | _, _ => none
  | _ => none
theorem s_copy {fr lo nL : Nat} {cc : ByteArray} {own mn : String} {ret : Option FieldType} {hd : Cond} {tb : List ExceptionTableEntry} {ml : List Nat} {pc : Nat} {idx : Nat} (h1 : Cond.methodLink own idx arraycopyName ∈ GW) (h2 : Cond.native arraycopyName ∈ GW) (h3 : Cond.static arraycopyName ∈ GW) (h4 : Cond.initialized "java/lang/System" ∈ GW) (hf : 1 ≤ fr) (hlo : 8 + (nativeFrameWords "java/lang/System" "arraycopy" 5 + 11) ≤ lo) (hdg : decode cc pc = .ok (.invokestatic idx, 3)) : ok1 fr lo nL cc own mn ret hd tb ml pc (o_copy (pc + 3)) := by
  intro p l e R s m args below meth c A D ct ad0 n0 C lv st es r cells slots ad H locs ls Q ho hS hl hk
  obtain ⟨hx, hb, hml, hown, hts, hA, hK, hlocks, hmn, hr, htr, hRf, hRl, hG, htb⟩ := C
  unfold o_copy at ho
  split at ho
  · rename_i n dp b sp a rest
    split at ho
    · rename_i z0 f z1 g he1 he2
      split at ho
      · rename_i hcs
        split at ho
        · cases ho
        · rename_i hn
          cases ho
          have hq : ((List.map (rn_v ad) rest).map fun v => v.category).sum ≤ 8 := by rw [show List.map (rn_v ad) rest = rn_t ad rest from rfl, rn_t_cat]; exact hcs
          have g1 : ¬ sp < 0 := fun h => hn (Or.inl (Or.inl h))
          have g2 : ¬ dp < 0 := fun h => hn (Or.inl (Or.inr (Or.inl h)))
          have g3 : ¬ n < 0 := fun h => hn (Or.inl (Or.inr (Or.inr h)))
          have g4 : sp.toNatClampNeg + n.toNatClampNeg ≤ z0 := Nat.not_lt.mp fun h => hn (Or.inr (Or.inl h))
          have g5 : dp.toNatClampNeg + n.toNatClampNeg ≤ z1 := Nat.not_lt.mp fun h => hn (Or.inr (Or.inr h))
          refine va_copyi (ty := .int) hx hb (hml.trans hl.1.symm) hown (hts _ (List.mem_cons_of_mem _ h1)) (hts _ (List.mem_cons_of_mem _ h2)) (hts _ (List.mem_cons_of_mem _ h3)) (hts _ (List.mem_cons_of_mem _ h4)) hK hS.1 hS.2.1 hS.2.2.1 a b 0 0 (rn_w_at he1) (rn_w_at he2) rfl rfl rfl g1 g2 g3 g4 g5 (fun _ _ => rfl) (by omega) (by omega) hdg (fun H1 locs1 hP1 hD1 hS1 => ?_)
          have e9 := rn_w_set (ad := ad) (ct := ct) (es := es) (k := b) (e := .inl (0, z1, .inl (va_cpy f g sp.toNatClampNeg dp.toNatClampNeg n.toNatClampNeg)))
          exact hk.2.2 ad H1 locs1 ls ⟨e9 ▸ hP1, e9 ▸ hD1, hS1, by rw [List.length_set]; exact hS.2.2.2.1, hS.2.2.2.2⟩ hl
      · cases ho
    · cases ho
  · cases ho
/-- throw new E(text) -/
def o_throw (E : String) : op_T := fun _ st es => if cs st ≤ 8 then some (.inr (.inr E, es, 1, 6)) else none
theorem thrown {s : State} {A : Nat → Prop} {D : va_G} {ct : Nat → ClassId} {ad0 : Nat → Nat} {n0 : Nat} {ml : List Nat} {ad : Nat → Nat} {es : List va_E} {H : Heap} {locs : List Loc} {E : String} (hS : Sm s A D ct ad0 n0 ml ad es H locs) (t : State) (h1 : H.size ≤ t.heap.size) (h2 : ∀ q : Nat, q < H.size → t.heap[q]? = H[q]?) : xc D ct ad0 n0 ml A (.inr E) es E s t :=
  ⟨rfl, ⟨ad, hS.2.2.2.2, hS.2.2.2.1, hS.1.kept (fun k q hk => h2 q.1 (hS.1 k q hk).lt), hS.2.1⟩, Nat.le_trans hS.2.2.1.1 h1, fun q g1 g2 => (h2 q (Nat.lt_of_lt_of_le g1 hS.2.2.1.1)).trans (hS.2.2.1.2.1 q g1 g2)⟩
theorem bad_ok {ad : Nat → Nat} {A : Nat → Prop} {U : State} {H : Heap} {args : Array Value} {E : String} (hG : GF ad A U H) (h6 : (E, E) ∈ castL) : ∀ w ∈ badW E, w.before args U = true :=
  vx_c (va_Nw.use rfl (hG.1.2.1 _ h6)) (fun w hw => by
    obtain ⟨y, hy, rfl⟩ := List.mem_map.mp hw
    exact va_Nw.use rfl (hG.2.2.2.2.2 y hy))
theorem s_throw {fr lo nL : Nat} {cc : ByteArray} {own mn : String} {ret : Option FieldType} {hd : Cond} {ml : List Nat} {pc : Nat} {ik is ic : Nat} {E text : String} {names : List String} (hcls : Bundle.fit E = true) (hnames : ∀ n ∈ names, Bundle.fit n = true) (h1 : Cond.classLink own ik E ∈ GW) (h2 : Cond.initialized E ∈ GW) (h3 : (own, is, text) ∈ msgL) (h4 : ∀ w ∈ (vx_atS own ic E names).filter goodWord, w ∈ GW) (h5 : ∀ w ∈ (vx_atS own ic E names).filter (fun w => !goodWord w), w ∈ badW E) (h6 : (E, E) ∈ castL) (h7 : ∀ w ∈ Cond.classLink own ik E :: Cond.initialized E :: vx_atS own ic E names, vx_ot w = true) (hf : names.length + 3 < fr) (hlo : 8 + (13 * (names.length + 1) + 43) ≤ lo)
    (d0 : decode cc pc = .ok (.new ik, 3)) (d3 : decode cc (pc + 3) = .ok (.dup, 1)) (d4 : decode cc (pc + 4) = .ok (.ldc is, 2)) (d6 : decode cc (pc + 6) = .ok (.invokespecial ic, 3)) (d9 : decode cc (pc + 9) = .ok (.athrow, 1)) : ok1 fr lo nL cc own mn ret hd [] ml pc (o_throw E) := by
  intro p l e R s m args below meth c A D ct ad0 n0 C lv st es r cells slots ad H locs ls Q ho hS hl hk
  obtain ⟨hx, hb, hml, hown, hts, hA, hK, hlocks, hmn, hr, htr, hRf, hRl, hG, htb⟩ := C
  unfold o_throw at ho
  split at ho
  · rename_i hcs
    cases ho
    obtain ⟨mc, ms, rfl, k1, k2, k3, k4⟩ := hk
    have hq : ((rn_t ad st).map fun v => v.category).sum ≤ 8 := by rw [rn_t_cat]; exact hcs
    obtain ⟨sa, hsa⟩ := hG.1.2.2.2.2.2.2.1 _ h3
    exact vx_throwS (A := A) hx hb htr hown hcls hnames (hts _ (List.mem_cons_of_mem _ h1)) (hts _ (List.mem_cons_of_mem _ h2)) hsa (vx_hat (fun w hw => hts w (List.mem_cons_of_mem _ (h4 w hw))) h5 (bad_ok hG h6)) h7 hG.1.2.2.2.1 hG.1.2.2.2.2.1 hS.2.2.1 (by rw [hml]; exact hl.1) d0 d3 d4 d6 d9 (by rw [htb]; intro x hx9; cases hx9) (by omega) (by omega) (by omega) (by omega) hlocks (fun t _ g1 g2 => thrown hS t g1 g2) hS.2.2.1.2.2 k1 k2
  · cases ho
theorem s_throwW {fr lo nL : Nat} {cc : ByteArray} {own mn : String} {ret : Option FieldType} {hd : Cond} {ml : List Nat} {pc : Nat} {ik is ic : Nat} {E text : String} {names : List String} (hcls : Bundle.fit E = true) (hnames : ∀ n ∈ names, Bundle.fit n = true) (h1 : Cond.classLink own ik E ∈ GW) (h2 : Cond.initialized E ∈ GW) (h3 : (own, is, text) ∈ msgL) (h4 : ∀ w ∈ (vx_atS own ic E names).filter goodWord, w ∈ GW) (h5 : ∀ w ∈ (vx_atS own ic E names).filter (fun w => !goodWord w), w ∈ badW E) (h6 : (E, E) ∈ castL) (h7 : ∀ w ∈ Cond.classLink own ik E :: Cond.initialized E :: vx_atS own ic E names, vx_ot w = true) (hf : names.length + 3 < fr) (hlo : 8 + (13 * (names.length + 1) + 43) ≤ lo)
    (d0 : decode cc pc = .ok (.new ik, 3)) (d3 : decode cc (pc + 3) = .ok (.dup, 1)) (d4 : decode cc (pc + 4) = .ok (.ldc_w is, 3)) (d7 : decode cc (pc + 7) = .ok (.invokespecial ic, 3)) (d10 : decode cc (pc + 10) = .ok (.athrow, 1)) : ok1 fr lo nL cc own mn ret hd [] ml pc (o_throw E) := by
  intro p l e R s m args below meth c A D ct ad0 n0 C lv st es r cells slots ad H locs ls Q ho hS hl hk
  obtain ⟨hx, hb, hml, hown, hts, hA, hK, hlocks, hmn, hr, htr, hRf, hRl, hG, htb⟩ := C
  unfold o_throw at ho
  split at ho
  · rename_i hcs
    cases ho
    obtain ⟨mc, ms, rfl, k1, k2, k3, k4⟩ := hk
    have hq : ((rn_t ad st).map fun v => v.category).sum ≤ 8 := by rw [rn_t_cat]; exact hcs
    obtain ⟨sa, hsa⟩ := hG.1.2.2.2.2.2.2.1 _ h3
    exact vx_throwSW (A := A) hx hb htr hown hcls hnames (hts _ (List.mem_cons_of_mem _ h1)) (hts _ (List.mem_cons_of_mem _ h2)) hsa (vx_hat (fun w hw => hts w (List.mem_cons_of_mem _ (h4 w hw))) h5 (bad_ok hG h6)) h7 hG.1.2.2.2.1 hG.1.2.2.2.2.1 hS.2.2.1 (by rw [hml]; exact hl.1) d0 d3 d4 d7 d10 (by rw [htb]; intro x hx9; cases hx9) (by omega) (by omega) (by omega) (by omega) hlocks (fun t _ g1 g2 => thrown hS t g1 g2) hS.2.2.1.2.2 k1 k2
  · cases ho
