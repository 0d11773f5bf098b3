def o_push (pc' : Nat) (v : Value) : op_T := fun lv st es => some (.inl (pc', lv, v :: st, es, 0, 0))
theorem s_iconst {fr lo nL : Nat} {cc : ByteArray} {own mn : String} {ret : Option FieldType} {hd : Cond} {tb : List ExceptionTableEntry} {ml : List Nat} {pc : Nat} {n : Int} (v : Int32) (hv : Int32.ofInt n = v) (hdg : decode cc pc = .ok (.iconst n, 1)) : ok1 fr lo nL cc own mn ret hd tb ml pc (o_push (pc + 1) (.int v)) := by
  intro p l e R s m args below meth c A D ct ad0 n0 C lv st es r cells slots ad H locs ls Q ho hS hl hk
  obtain ⟨hx, hb, hml, hown, hts, hA, hK, hlocks, hmn, hr, htr, hRf, hRl, hG, htb⟩ := C
  cases ho
  exact lv_iconst hx hb hdg hv (hk.2.2 ad H locs ls hS hl)

theorem s_bipush {fr lo nL : Nat} {cc : ByteArray} {own mn : String} {ret : Option FieldType} {hd : Cond} {tb : List ExceptionTableEntry} {ml : List Nat} {pc : Nat} {n : Int} (v : Int32) (hv : (Int8.ofInt n).toInt32 = v) (hdg : decode cc pc = .ok (.bipush n, 2)) : ok1 fr lo nL cc own mn ret hd tb ml pc (o_push (pc + 2) (.int v)) := by
  intro p l e R s m args below meth c A D ct ad0 n0 C lv st es r cells slots ad H locs ls Q ho hS hl hk
  obtain ⟨hx, hb, hml, hown, hts, hA, hK, hlocks, hmn, hr, htr, hRf, hRl, hG, htb⟩ := C
  cases ho
  exact lv_bipush hx hb hdg hv (hk.2.2 ad H locs ls hS hl)

theorem s_sipush {fr lo nL : Nat} {cc : ByteArray} {own mn : String} {ret : Option FieldType} {hd : Cond} {tb : List ExceptionTableEntry} {ml : List Nat} {pc : Nat} {n : Int} (v : Int32) (hv : (Int16.ofInt n).toInt32 = v) (hdg : decode cc pc = .ok (.sipush n, 3)) : ok1 fr lo nL cc own mn ret hd tb ml pc (o_push (pc + 3) (.int v)) := by
  intro p l e R s m args below meth c A D ct ad0 n0 C lv st es r cells slots ad H locs ls Q ho hS hl hk
  obtain ⟨hx, hb, hml, hown, hts, hA, hK, hlocks, hmn, hr, htr, hRf, hRl, hG, htb⟩ := C
  cases ho
  exact lv_sipush hx hb hdg hv (hk.2.2 ad H locs ls hS hl)

theorem s_lconst {fr lo nL : Nat} {cc : ByteArray} {own mn : String} {ret : Option FieldType} {hd : Cond} {tb : List ExceptionTableEntry} {ml : List Nat} {pc : Nat} {n : Fin 2} (v : Int64) (hv : Int64.ofNat (n : Nat) = v) (hdg : decode cc pc = .ok (.lconst n, 1)) : ok1 fr lo nL cc own mn ret hd tb ml pc (o_push (pc + 1) (.long v)) := by
  intro p l e R s m args below meth c A D ct ad0 n0 C lv st es r cells slots ad H locs ls Q ho hS hl hk
  obtain ⟨hx, hb, hml, hown, hts, hA, hK, hlocks, hmn, hr, htr, hRf, hRl, hG, htb⟩ := C
  cases ho
  exact lv_lconst hx hb hdg hv (hk.2.2 ad H locs ls hS hl)

theorem s_ldc {fr lo nL : Nat} {cc : ByteArray} {own mn : String} {ret : Option FieldType} {hd : Cond} {tb : List ExceptionTableEntry} {ml : List Nat} {pc : Nat} {index : Nat} (v : Int32) (hc : Cond.constant own index v ∈ GW) (hdg : decode cc pc = .ok (.ldc index, 2)) : ok1 fr lo nL cc own mn ret hd tb ml pc (o_push (pc + 2) (.int v)) := by
  intro p l e R s m args below meth c A D ct ad0 n0 C lv st es r cells slots ad H locs ls Q ho hS hl hk
  obtain ⟨hx, hb, hml, hown, hts, hA, hK, hlocks, hmn, hr, htr, hRf, hRl, hG, htb⟩ := C
  cases ho
  exact lv_ldc hx hb hown (hts _ (List.mem_cons_of_mem _ hc)) hdg (hk.2.2 ad H locs ls hS hl)

theorem s_ldc2 {fr lo nL : Nat} {cc : ByteArray} {own mn : String} {ret : Option FieldType} {hd : Cond} {tb : List ExceptionTableEntry} {ml : List Nat} {pc : Nat} {index : Nat} (v : Int64) (hc : Cond.constantLong own index v ∈ GW) (hdg : decode cc pc = .ok (.ldc2_w index, 3)) : ok1 fr lo nL cc own mn ret hd tb ml pc (o_push (pc + 3) (.long v)) := by
  intro p l e R s m args below meth c A D ct ad0 n0 C lv st es r cells slots ad H locs ls Q ho hS hl hk
  obtain ⟨hx, hb, hml, hown, hts, hA, hK, hlocks, hmn, hr, htr, hRf, hRl, hG, htb⟩ := C
  cases ho
  exact lv_ldc2 hx hb hown (hts _ (List.mem_cons_of_mem _ hc)) hdg (hk.2.2 ad H locs ls hS hl)

def o_iload (pc' i : Nat) : op_T := fun lv st es => match lkv lv i with
  | some (.int x) => some (.inl (pc', lv, .int x :: st, es, 0, 0))
  | _ => none
theorem s_iload_n {fr lo nL : Nat} {cc : ByteArray} {own mn : String} {ret : Option FieldType} {hd : Cond} {tb : List ExceptionTableEntry} {ml : List Nat} {pc : Nat} {k : Fin 4} (hdg : decode cc pc = .ok (.iload_n k, 1)) : ok1 fr lo nL cc own mn ret hd tb ml pc (o_iload (pc + 1) k.val) := by
  intro p l e R s m args below meth c A D ct ad0 n0 C lv st es r cells slots ad H locs ls Q ho hS hl hk
  obtain ⟨hx, hb, hml, hown, hts, hA, hK, hlocks, hmn, hr, htr, hRf, hRl, hG, htb⟩ := C
  unfold o_iload at ho
  split at ho
  · rename_i x hx1
    cases ho
    exact lv_iload_n hx hb hdg rfl (rn_l_has hl hx1) (hk.2.2 ad H locs ls hS hl)
  · cases ho

theorem s_iload {fr lo nL : Nat} {cc : ByteArray} {own mn : String} {ret : Option FieldType} {hd : Cond} {tb : List ExceptionTableEntry} {ml : List Nat} {pc : Nat} {i : Nat} (hdg : decode cc pc = .ok (.iload i, 2)) : ok1 fr lo nL cc own mn ret hd tb ml pc (o_iload (pc + 2) i) := by
  intro p l e R s m args below meth c A D ct ad0 n0 C lv st es r cells slots ad H locs ls Q ho hS hl hk
  obtain ⟨hx, hb, hml, hown, hts, hA, hK, hlocks, hmn, hr, htr, hRf, hRl, hG, htb⟩ := C
  unfold o_iload at ho
  split at ho
  · rename_i x hx1
    cases ho
    exact lv_iload hx hb hdg (rn_l_has hl hx1) (hk.2.2 ad H locs ls hS hl)
  · cases ho

def o_lload (pc' i : Nat) : op_T := fun lv st es => match lkv lv i with
  | some (.long x) => some (.inl (pc', lv, .long x :: st, es, 0, 0))
  | _ => none
theorem s_lload_n {fr lo nL : Nat} {cc : ByteArray} {own mn : String} {ret : Option FieldType} {hd : Cond} {tb : List ExceptionTableEntry} {ml : List Nat} {pc : Nat} {k : Fin 4} (hdg : decode cc pc = .ok (.lload_n k, 1)) : ok1 fr lo nL cc own mn ret hd tb ml pc (o_lload (pc + 1) k.val) := by
  intro p l e R s m args below meth c A D ct ad0 n0 C lv st es r cells slots ad H locs ls Q ho hS hl hk
  obtain ⟨hx, hb, hml, hown, hts, hA, hK, hlocks, hmn, hr, htr, hRf, hRl, hG, htb⟩ := C
  unfold o_lload at ho
  split at ho
  · rename_i x hx1
    cases ho
    exact lv_lload_n hx hb hdg rfl (rn_l_has hl hx1) (hk.2.2 ad H locs ls hS hl)
  · cases ho

theorem s_lload {fr lo nL : Nat} {cc : ByteArray} {own mn : String} {ret : Option FieldType} {hd : Cond} {tb : List ExceptionTableEntry} {ml : List Nat} {pc : Nat} {i : Nat} (hdg : decode cc pc = .ok (.lload i, 2)) : ok1 fr lo nL cc own mn ret hd tb ml pc (o_lload (pc + 2) i) := by
  intro p l e R s m args below meth c A D ct ad0 n0 C lv st es r cells slots ad H locs ls Q ho hS hl hk
  obtain ⟨hx, hb, hml, hown, hts, hA, hK, hlocks, hmn, hr, htr, hRf, hRl, hG, htb⟩ := C
  unfold o_lload at ho
  split at ho
  · rename_i x hx1
    cases ho
    exact lv_lload hx hb hdg (rn_l_has hl hx1) (hk.2.2 ad H locs ls hS hl)
  · cases ho

def o_aload (pc' i : Nat) : op_T := fun lv st es => match lkv lv i with
  | some (.ref x) => some (.inl (pc', lv, .ref x :: st, es, 0, 0))
  | _ => none
theorem s_aload_n {fr lo nL : Nat} {cc : ByteArray} {own mn : String} {ret : Option FieldType} {hd : Cond} {tb : List ExceptionTableEntry} {ml : List Nat} {pc : Nat} {k : Fin 4} (hdg : decode cc pc = .ok (.aload_n k, 1)) : ok1 fr lo nL cc own mn ret hd tb ml pc (o_aload (pc + 1) k.val) := by
  intro p l e R s m args below meth c A D ct ad0 n0 C lv st es r cells slots ad H locs ls Q ho hS hl hk
  obtain ⟨hx, hb, hml, hown, hts, hA, hK, hlocks, hmn, hr, htr, hRf, hRl, hG, htb⟩ := C
  unfold o_aload at ho
  split at ho
  · rename_i x hx1
    cases ho
    exact lv_aload_n hx hb hdg rfl (rn_l_has hl hx1) (hk.2.2 ad H locs ls hS hl)
  · cases ho

theorem s_aload {fr lo nL : Nat} {cc : ByteArray} {own mn : String} {ret : Option FieldType} {hd : Cond} {tb : List ExceptionTableEntry} {ml : List Nat} {pc : Nat} {i : Nat} (hdg : decode cc pc = .ok (.aload i, 2)) : ok1 fr lo nL cc own mn ret hd tb ml pc (o_aload (pc + 2) i) := by
  intro p l e R s m args below meth c A D ct ad0 n0 C lv st es r cells slots ad H locs ls Q ho hS hl hk
  obtain ⟨hx, hb, hml, hown, hts, hA, hK, hlocks, hmn, hr, htr, hRf, hRl, hG, htb⟩ := C
  unfold o_aload at ho
  split at ho
  · rename_i x hx1
    cases ho
    exact lv_aload hx hb hdg (rn_l_has hl hx1) (hk.2.2 ad H locs ls hS hl)
  · cases ho

def o_istore (pc' i : Nat) : op_T := fun lv st es => match st with
  | .int x :: rest => some (.inl (pc', ls_1 i (.int x) lv, rest, es, 0, 0))
  | _ => none
theorem s_istore_n {fr lo nL : Nat} {cc : ByteArray} {own mn : String} {ret : Option FieldType} {hd : Cond} {tb : List ExceptionTableEntry} {ml : List Nat} {pc : Nat} {k : Fin 4} {i : Nat} (he : k.val = i) (hi : i < nL) (hdg : decode cc pc = .ok (.istore_n k, 1)) : ok1 fr lo nL cc own mn ret hd tb ml pc (o_istore (pc + 1) i) := by
  intro p l e R s m args below meth c A D ct ad0 n0 C lv st es r cells slots ad H locs ls Q ho hS hl hk
  obtain ⟨hx, hb, hml, hown, hts, hA, hK, hlocks, hmn, hr, htr, hRf, hRl, hG, htb⟩ := C
  unfold o_istore at ho
  split at ho
  · rename_i x rest
    cases ho
    exact lv_istore_n hx hb hdg he hl hi (rn_ls1 (v := .int x)) (fun ls' hl' => hk.2.2 ad H locs ls' hS hl')
  · cases ho

theorem s_istore {fr lo nL : Nat} {cc : ByteArray} {own mn : String} {ret : Option FieldType} {hd : Cond} {tb : List ExceptionTableEntry} {ml : List Nat} {pc : Nat} {i : Nat} (hi : i < nL) (hdg : decode cc pc = .ok (.istore i, 2)) : ok1 fr lo nL cc own mn ret hd tb ml pc (o_istore (pc + 2) i) := by
  intro p l e R s m args below meth c A D ct ad0 n0 C lv st es r cells slots ad H locs ls Q ho hS hl hk
  obtain ⟨hx, hb, hml, hown, hts, hA, hK, hlocks, hmn, hr, htr, hRf, hRl, hG, htb⟩ := C
  unfold o_istore at ho
  split at ho
  · rename_i x rest
    cases ho
    exact lv_istore hx hb hdg hl hi (rn_ls1 (v := .int x)) (fun ls' hl' => hk.2.2 ad H locs ls' hS hl')
  · cases ho

def o_lstore (pc' i : Nat) : op_T := fun lv st es => match st with
  | .long x :: rest => some (.inl (pc', ls_2 i (.long x) lv, rest, es, 0, 0))
  | _ => none
theorem s_lstore_n {fr lo nL : Nat} {cc : ByteArray} {own mn : String} {ret : Option FieldType} {hd : Cond} {tb : List ExceptionTableEntry} {ml : List Nat} {pc : Nat} {k : Fin 4} {i : Nat} (he : k.val = i) (hi : i + 1 < nL) (hdg : decode cc pc = .ok (.lstore_n k, 1)) : ok1 fr lo nL cc own mn ret hd tb ml pc (o_lstore (pc + 1) i) := by
  intro p l e R s m args below meth c A D ct ad0 n0 C lv st es r cells slots ad H locs ls Q ho hS hl hk
  obtain ⟨hx, hb, hml, hown, hts, hA, hK, hlocks, hmn, hr, htr, hRf, hRl, hG, htb⟩ := C
  unfold o_lstore at ho
  split at ho
  · rename_i x rest
    cases ho
    exact lv_lstore_n hx hb hdg he hl hi (rn_ls2 (v := .long x)) (fun ls' hl' => hk.2.2 ad H locs ls' hS hl')
  · cases ho

theorem s_lstore {fr lo nL : Nat} {cc : ByteArray} {own mn : String} {ret : Option FieldType} {hd : Cond} {tb : List ExceptionTableEntry} {ml : List Nat} {pc : Nat} {i : Nat} (hi : i + 1 < nL) (hdg : decode cc pc = .ok (.lstore i, 2)) : ok1 fr lo nL cc own mn ret hd tb ml pc (o_lstore (pc + 2) i) := by
  intro p l e R s m args below meth c A D ct ad0 n0 C lv st es r cells slots ad H locs ls Q ho hS hl hk
  obtain ⟨hx, hb, hml, hown, hts, hA, hK, hlocks, hmn, hr, htr, hRf, hRl, hG, htb⟩ := C
  unfold o_lstore at ho
  split at ho
  · rename_i x rest
    cases ho
    exact lv_lstore hx hb hdg hl hi (rn_ls2 (v := .long x)) (fun ls' hl' => hk.2.2 ad H locs ls' hS hl')
  · cases ho

def o_astore (pc' i : Nat) : op_T := fun lv st es => match st with
  | .ref x :: rest => some (.inl (pc', ls_1 i (.ref x) lv, rest, es, 0, 0))
  | _ => none
theorem s_astore_n {fr lo nL : Nat} {cc : ByteArray} {own mn : String} {ret : Option FieldType} {hd : Cond} {tb : List ExceptionTableEntry} {ml : List Nat} {pc : Nat} {k : Fin 4} {i : Nat} (he : k.val = i) (hi : i < nL) (hdg : decode cc pc = .ok (.astore_n k, 1)) : ok1 fr lo nL cc own mn ret hd tb ml pc (o_astore (pc + 1) i) := by
  intro p l e R s m args below meth c A D ct ad0 n0 C lv st es r cells slots ad H locs ls Q ho hS hl hk
  obtain ⟨hx, hb, hml, hown, hts, hA, hK, hlocks, hmn, hr, htr, hRf, hRl, hG, htb⟩ := C
  unfold o_astore at ho
  split at ho
  · rename_i x rest
    cases ho
    exact lv_astore_n hx hb hdg he hl hi (rn_ls1 (v := .ref x)) (fun ls' hl' => hk.2.2 ad H locs ls' hS hl')
  · cases ho

theorem s_astore {fr lo nL : Nat} {cc : ByteArray} {own mn : String} {ret : Option FieldType} {hd : Cond} {tb : List ExceptionTableEntry} {ml : List Nat} {pc : Nat} {i : Nat} (hi : i < nL) (hdg : decode cc pc = .ok (.astore i, 2)) : ok1 fr lo nL cc own mn ret hd tb ml pc (o_astore (pc + 2) i) := by
  intro p l e R s m args below meth c A D ct ad0 n0 C lv st es r cells slots ad H locs ls Q ho hS hl hk
  obtain ⟨hx, hb, hml, hown, hts, hA, hK, hlocks, hmn, hr, htr, hRf, hRl, hG, htb⟩ := C
  unfold o_astore at ho
  split at ho
  · rename_i x rest
    cases ho
    exact lv_astore hx hb hdg hl hi (rn_ls1 (v := .ref x)) (fun ls' hl' => hk.2.2 ad H locs ls' hS hl')
  · cases ho

def o_iinc (pc' i : Nat) (d : Int32) : op_T := fun lv st es => match lkv lv i with
  | some (.int x) => some (.inl (pc', ls_1 i (.int (x + d)) lv, st, es, 0, 0))
  | _ => none
theorem s_iinc {fr lo nL : Nat} {cc : ByteArray} {own mn : String} {ret : Option FieldType} {hd : Cond} {tb : List ExceptionTableEntry} {ml : List Nat} {pc : Nat} {i : Nat} {n : Int} (d : Int32) (hd9 : Int32.ofInt n = d) (hi : i < nL) (hdg : decode cc pc = .ok (.iinc i n, 3)) : ok1 fr lo nL cc own mn ret hd tb ml pc (o_iinc (pc + 3) i d) := by
  intro p l e R s m args below meth c A D ct ad0 n0 C lv st es r cells slots ad H locs ls Q ho hS hl hk
  obtain ⟨hx, hb, hml, hown, hts, hA, hK, hlocks, hmn, hr, htr, hRf, hRl, hG, htb⟩ := C
  unfold o_iinc at ho
  split at ho
  · rename_i x hx1
    cases ho
    obtain ⟨k, hk1⟩ := List.getElem?_of_mem (rn_l_in (ad := ad) hx1)
    exact lv_iinc (v := x + d) hx hb hdg hl hk1 (by rw [hd9]) hi (rn_ls1 (v := .int (x + d))) (fun ls' hl' => hk.2.2 ad H locs ls' hS hl')
  · cases ho

def o_ii (pc' : Nat) (f : Int32 → Int32 → Int32) : op_T := fun lv st es => match st with
  | .int y :: .int x :: rest => some (.inl (pc', lv, .int (f x y) :: rest, es, 0, 0))
  | _ => none
def o_ll (pc' : Nat) (f : Int64 → Int64 → Int64) : op_T := fun lv st es => match st with
  | .long y :: .long x :: rest => some (.inl (pc', lv, .long (f x y) :: rest, es, 0, 0))
  | _ => none
theorem s_iadd {fr lo nL : Nat} {cc : ByteArray} {own mn : String} {ret : Option FieldType} {hd : Cond} {tb : List ExceptionTableEntry} {ml : List Nat} {pc : Nat} (hdg : decode cc pc = .ok (.iadd, 1)) : ok1 fr lo nL cc own mn ret hd tb ml pc (o_ii (pc + 1) (fun x y => x + y)) := by
  intro p l e R s m args below meth c A D ct ad0 n0 C lv st es r cells slots ad H locs ls Q ho hS hl hk
  obtain ⟨hx, hb, hml, hown, hts, hA, hK, hlocks, hmn, hr, htr, hRf, hRl, hG, htb⟩ := C
  unfold o_ii at ho
  split at ho
  · rename_i y x rest
    cases ho
    exact lv_iadd hx hb hdg (hk.2.2 ad H locs ls hS hl)
  · cases ho

theorem s_isub {fr lo nL : Nat} {cc : ByteArray} {own mn : String} {ret : Option FieldType} {hd : Cond} {tb : List ExceptionTableEntry} {ml : List Nat} {pc : Nat} (hdg : decode cc pc = .ok (.isub, 1)) : ok1 fr lo nL cc own mn ret hd tb ml pc (o_ii (pc + 1) (fun x y => x - y)) := by
  intro p l e R s m args below meth c A D ct ad0 n0 C lv st es r cells slots ad H locs ls Q ho hS hl hk
  obtain ⟨hx, hb, hml, hown, hts, hA, hK, hlocks, hmn, hr, htr, hRf, hRl, hG, htb⟩ := C
  unfold o_ii at ho
  split at ho
  · rename_i y x rest
    cases ho
    exact lv_isub hx hb hdg (hk.2.2 ad H locs ls hS hl)
  · cases ho

theorem s_imul {fr lo nL : Nat} {cc : ByteArray} {own mn : String} {ret : Option FieldType} {hd : Cond} {tb : List ExceptionTableEntry} {ml : List Nat} {pc : Nat} (hdg : decode cc pc = .ok (.imul, 1)) : ok1 fr lo nL cc own mn ret hd tb ml pc (o_ii (pc + 1) (fun x y => x * y)) := by
  intro p l e R s m args below meth c A D ct ad0 n0 C lv st es r cells slots ad H locs ls Q ho hS hl hk
  obtain ⟨hx, hb, hml, hown, hts, hA, hK, hlocks, hmn, hr, htr, hRf, hRl, hG, htb⟩ := C
  unfold o_ii at ho
  split at ho
  · rename_i y x rest
    cases ho
    exact lv_imul hx hb hdg (hk.2.2 ad H locs ls hS hl)
  · cases ho

theorem s_iand {fr lo nL : Nat} {cc : ByteArray} {own mn : String} {ret : Option FieldType} {hd : Cond} {tb : List ExceptionTableEntry} {ml : List Nat} {pc : Nat} (hdg : decode cc pc = .ok (.iand, 1)) : ok1 fr lo nL cc own mn ret hd tb ml pc (o_ii (pc + 1) (fun x y => x &&& y)) := by
  intro p l e R s m args below meth c A D ct ad0 n0 C lv st es r cells slots ad H locs ls Q ho hS hl hk
  obtain ⟨hx, hb, hml, hown, hts, hA, hK, hlocks, hmn, hr, htr, hRf, hRl, hG, htb⟩ := C
  unfold o_ii at ho
  split at ho
  · rename_i y x rest
    cases ho
    exact lv_iand hx hb hdg (hk.2.2 ad H locs ls hS hl)
  · cases ho

theorem s_ior {fr lo nL : Nat} {cc : ByteArray} {own mn : String} {ret : Option FieldType} {hd : Cond} {tb : List ExceptionTableEntry} {ml : List Nat} {pc : Nat} (hdg : decode cc pc = .ok (.ior, 1)) : ok1 fr lo nL cc own mn ret hd tb ml pc (o_ii (pc + 1) (fun x y => x ||| y)) := by
  intro p l e R s m args below meth c A D ct ad0 n0 C lv st es r cells slots ad H locs ls Q ho hS hl hk
  obtain ⟨hx, hb, hml, hown, hts, hA, hK, hlocks, hmn, hr, htr, hRf, hRl, hG, htb⟩ := C
  unfold o_ii at ho
  split at ho
  · rename_i y x rest
    cases ho
    exact lv_ior hx hb hdg (hk.2.2 ad H locs ls hS hl)
  · cases ho

theorem s_ixor {fr lo nL : Nat} {cc : ByteArray} {own mn : String} {ret : Option FieldType} {hd : Cond} {tb : List ExceptionTableEntry} {ml : List Nat} {pc : Nat} (hdg : decode cc pc = .ok (.ixor, 1)) : ok1 fr lo nL cc own mn ret hd tb ml pc (o_ii (pc + 1) (fun x y => x ^^^ y)) := by
  intro p l e R s m args below meth c A D ct ad0 n0 C lv st es r cells slots ad H locs ls Q ho hS hl hk
  obtain ⟨hx, hb, hml, hown, hts, hA, hK, hlocks, hmn, hr, htr, hRf, hRl, hG, htb⟩ := C
  unfold o_ii at ho
  split at ho
  · rename_i y x rest
    cases ho
    exact lv_ixor hx hb hdg (hk.2.2 ad H locs ls hS hl)
  · cases ho

theorem s_ishl {fr lo nL : Nat} {cc : ByteArray} {own mn : String} {ret : Option FieldType} {hd : Cond} {tb : List ExceptionTableEntry} {ml : List Nat} {pc : Nat} (hdg : decode cc pc = .ok (.ishl, 1)) : ok1 fr lo nL cc own mn ret hd tb ml pc (o_ii (pc + 1) (fun x y => x <<< (y &&& 31))) := by
  intro p l e R s m args below meth c A D ct ad0 n0 C lv st es r cells slots ad H locs ls Q ho hS hl hk
  obtain ⟨hx, hb, hml, hown, hts, hA, hK, hlocks, hmn, hr, htr, hRf, hRl, hG, htb⟩ := C
  unfold o_ii at ho
  split at ho
  · rename_i y x rest
    cases ho
    exact lv_ishl hx hb hdg (hk.2.2 ad H locs ls hS hl)
  · cases ho

theorem s_ishr {fr lo nL : Nat} {cc : ByteArray} {own mn : String} {ret : Option FieldType} {hd : Cond} {tb : List ExceptionTableEntry} {ml : List Nat} {pc : Nat} (hdg : decode cc pc = .ok (.ishr, 1)) : ok1 fr lo nL cc own mn ret hd tb ml pc (o_ii (pc + 1) (fun x y => x >>> (y &&& 31))) := by
  intro p l e R s m args below meth c A D ct ad0 n0 C lv st es r cells slots ad H locs ls Q ho hS hl hk
  obtain ⟨hx, hb, hml, hown, hts, hA, hK, hlocks, hmn, hr, htr, hRf, hRl, hG, htb⟩ := C
  unfold o_ii at ho
  split at ho
  · rename_i y x rest
    cases ho
    exact lv_ishr hx hb hdg (hk.2.2 ad H locs ls hS hl)
  · cases ho

theorem s_ladd {fr lo nL : Nat} {cc : ByteArray} {own mn : String} {ret : Option FieldType} {hd : Cond} {tb : List ExceptionTableEntry} {ml : List Nat} {pc : Nat} (hdg : decode cc pc = .ok (.ladd, 1)) : ok1 fr lo nL cc own mn ret hd tb ml pc (o_ll (pc + 1) (fun x y => x + y)) := by
  intro p l e R s m args below meth c A D ct ad0 n0 C lv st es r cells slots ad H locs ls Q ho hS hl hk
  obtain ⟨hx, hb, hml, hown, hts, hA, hK, hlocks, hmn, hr, htr, hRf, hRl, hG, htb⟩ := C
  unfold o_ll at ho
  split at ho
  · rename_i y x rest
    cases ho
    exact lv_ladd hx hb hdg (hk.2.2 ad H locs ls hS hl)
  · cases ho

theorem s_lsub {fr lo nL : Nat} {cc : ByteArray} {own mn : String} {ret : Option FieldType} {hd : Cond} {tb : List ExceptionTableEntry} {ml : List Nat} {pc : Nat} (hdg : decode cc pc = .ok (.lsub, 1)) : ok1 fr lo nL cc own mn ret hd tb ml pc (o_ll (pc + 1) (fun x y => x - y)) := by
  intro p l e R s m args below meth c A D ct ad0 n0 C lv st es r cells slots ad H locs ls Q ho hS hl hk
  obtain ⟨hx, hb, hml, hown, hts, hA, hK, hlocks, hmn, hr, htr, hRf, hRl, hG, htb⟩ := C
  unfold o_ll at ho
  split at ho
  · rename_i y x rest
    cases ho
    exact lv_lsub hx hb hdg (hk.2.2 ad H locs ls hS hl)
  · cases ho

theorem s_lmul {fr lo nL : Nat} {cc : ByteArray} {own mn : String} {ret : Option FieldType} {hd : Cond} {tb : List ExceptionTableEntry} {ml : List Nat} {pc : Nat} (hdg : decode cc pc = .ok (.lmul, 1)) : ok1 fr lo nL cc own mn ret hd tb ml pc (o_ll (pc + 1) (fun x y => x * y)) := by
  intro p l e R s m args below meth c A D ct ad0 n0 C lv st es r cells slots ad H locs ls Q ho hS hl hk
  obtain ⟨hx, hb, hml, hown, hts, hA, hK, hlocks, hmn, hr, htr, hRf, hRl, hG, htb⟩ := C
  unfold o_ll at ho
  split at ho
  · rename_i y x rest
    cases ho
    exact lv_lmul hx hb hdg (hk.2.2 ad H locs ls hS hl)
  · cases ho

theorem s_lor {fr lo nL : Nat} {cc : ByteArray} {own mn : String} {ret : Option FieldType} {hd : Cond} {tb : List ExceptionTableEntry} {ml : List Nat} {pc : Nat} (hdg : decode cc pc = .ok (.lor, 1)) : ok1 fr lo nL cc own mn ret hd tb ml pc (o_ll (pc + 1) (fun x y => x ||| y)) := by
  intro p l e R s m args below meth c A D ct ad0 n0 C lv st es r cells slots ad H locs ls Q ho hS hl hk
  obtain ⟨hx, hb, hml, hown, hts, hA, hK, hlocks, hmn, hr, htr, hRf, hRl, hG, htb⟩ := C
  unfold o_ll at ho
  split at ho
  · rename_i y x rest
    cases ho
    exact lv_lor hx hb hdg (hk.2.2 ad H locs ls hS hl)
  · cases ho

def o_idiv (pc' : Nat) : op_T := fun lv st es => match st with
  | .int y :: .int x :: rest => if y = 0 then none else some (.inl (pc', lv, .int (x / y) :: rest, es, 0, 0))
  | _ => none
theorem s_idiv {fr lo nL : Nat} {cc : ByteArray} {own mn : String} {ret : Option FieldType} {hd : Cond} {tb : List ExceptionTableEntry} {ml : List Nat} {pc : Nat} (hdg : decode cc pc = .ok (.idiv, 1)) : ok1 fr lo nL cc own mn ret hd tb ml pc (o_idiv (pc + 1)) := by
  intro p l e R s m args below meth c A D ct ad0 n0 C lv st es r cells slots ad H locs ls Q ho hS hl hk
  obtain ⟨hx, hb, hml, hown, hts, hA, hK, hlocks, hmn, hr, htr, hRf, hRl, hG, htb⟩ := C
  unfold o_idiv at ho
  split at ho
  · rename_i y x rest
    split at ho
    · cases ho
    · rename_i hne
      cases ho
      exact lv_idiv hx hb hdg hne (hk.2.2 ad H locs ls hS hl)
  · cases ho

def o_irem (pc' : Nat) : op_T := fun lv st es => match st with
  | .int y :: .int x :: rest => if y = 0 then none else some (.inl (pc', lv, .int (x - x / y * y) :: rest, es, 0, 0))
  | _ => none
theorem s_irem {fr lo nL : Nat} {cc : ByteArray} {own mn : String} {ret : Option FieldType} {hd : Cond} {tb : List ExceptionTableEntry} {ml : List Nat} {pc : Nat} (hdg : decode cc pc = .ok (.irem, 1)) : ok1 fr lo nL cc own mn ret hd tb ml pc (o_irem (pc + 1)) := by
  intro p l e R s m args below meth c A D ct ad0 n0 C lv st es r cells slots ad H locs ls Q ho hS hl hk
  obtain ⟨hx, hb, hml, hown, hts, hA, hK, hlocks, hmn, hr, htr, hRf, hRl, hG, htb⟩ := C
  unfold o_irem at ho
  split at ho
  · rename_i y x rest
    split at ho
    · cases ho
    · rename_i hne
      cases ho
      exact lv_irem hx hb hdg hne (hk.2.2 ad H locs ls hS hl)
  · cases ho

def o_ldiv (pc' : Nat) : op_T := fun lv st es => match st with
  | .long y :: .long x :: rest => if y = 0 then none else some (.inl (pc', lv, .long (x / y) :: rest, es, 0, 0))
  | _ => none
theorem s_ldiv {fr lo nL : Nat} {cc : ByteArray} {own mn : String} {ret : Option FieldType} {hd : Cond} {tb : List ExceptionTableEntry} {ml : List Nat} {pc : Nat} (hdg : decode cc pc = .ok (.ldiv, 1)) : ok1 fr lo nL cc own mn ret hd tb ml pc (o_ldiv (pc + 1)) := by
  intro p l e R s m args below meth c A D ct ad0 n0 C lv st es r cells slots ad H locs ls Q ho hS hl hk
  obtain ⟨hx, hb, hml, hown, hts, hA, hK, hlocks, hmn, hr, htr, hRf, hRl, hG, htb⟩ := C
  unfold o_ldiv at ho
  split at ho
  · rename_i y x rest
    split at ho
    · cases ho
    · rename_i hne
      cases ho
      exact lv_ldiv hx hb hdg hne (hk.2.2 ad H locs ls hS hl)
  · cases ho

def o_ineg (pc' : Nat) : op_T := fun lv st es => match st with
  | .int x :: rest => some (.inl (pc', lv, .int (-x) :: rest, es, 0, 0))
  | _ => none
theorem s_ineg {fr lo nL : Nat} {cc : ByteArray} {own mn : String} {ret : Option FieldType} {hd : Cond} {tb : List ExceptionTableEntry} {ml : List Nat} {pc : Nat} (hdg : decode cc pc = .ok (.ineg, 1)) : ok1 fr lo nL cc own mn ret hd tb ml pc (o_ineg (pc + 1)) := by
  intro p l e R s m args below meth c A D ct ad0 n0 C lv st es r cells slots ad H locs ls Q ho hS hl hk
  obtain ⟨hx, hb, hml, hown, hts, hA, hK, hlocks, hmn, hr, htr, hRf, hRl, hG, htb⟩ := C
  unfold o_ineg at ho
  split at ho
  · rename_i x rest
    cases ho
    exact lv_ineg hx hb hdg (hk.2.2 ad H locs ls hS hl)
  · cases ho

def o_lneg (pc' : Nat) : op_T := fun lv st es => match st with
  | .long x :: rest => some (.inl (pc', lv, .long (-x) :: rest, es, 0, 0))
  | _ => none
theorem s_lneg {fr lo nL : Nat} {cc : ByteArray} {own mn : String} {ret : Option FieldType} {hd : Cond} {tb : List ExceptionTableEntry} {ml : List Nat} {pc : Nat} (hdg : decode cc pc = .ok (.lneg, 1)) : ok1 fr lo nL cc own mn ret hd tb ml pc (o_lneg (pc + 1)) := by
  intro p l e R s m args below meth c A D ct ad0 n0 C lv st es r cells slots ad H locs ls Q ho hS hl hk
  obtain ⟨hx, hb, hml, hown, hts, hA, hK, hlocks, hmn, hr, htr, hRf, hRl, hG, htb⟩ := C
  unfold o_lneg at ho
  split at ho
  · rename_i x rest
    cases ho
    exact lv_lneg hx hb hdg (hk.2.2 ad H locs ls hS hl)
  · cases ho

def o_i2l (pc' : Nat) : op_T := fun lv st es => match st with
  | .int x :: rest => some (.inl (pc', lv, .long (x.toInt64) :: rest, es, 0, 0))
  | _ => none
theorem s_i2l {fr lo nL : Nat} {cc : ByteArray} {own mn : String} {ret : Option FieldType} {hd : Cond} {tb : List ExceptionTableEntry} {ml : List Nat} {pc : Nat} (hdg : decode cc pc = .ok (.i2l, 1)) : ok1 fr lo nL cc own mn ret hd tb ml pc (o_i2l (pc + 1)) := by
  intro p l e R s m args below meth c A D ct ad0 n0 C lv st es r cells slots ad H locs ls Q ho hS hl hk
  obtain ⟨hx, hb, hml, hown, hts, hA, hK, hlocks, hmn, hr, htr, hRf, hRl, hG, htb⟩ := C
  unfold o_i2l at ho
  split at ho
  · rename_i x rest
    cases ho
    exact lv_i2l hx hb hdg rfl (hk.2.2 ad H locs ls hS hl)
  · cases ho

def o_l2i (pc' : Nat) : op_T := fun lv st es => match st with
  | .long x :: rest => some (.inl (pc', lv, .int (x.toInt32) :: rest, es, 0, 0))
  | _ => none
theorem s_l2i {fr lo nL : Nat} {cc : ByteArray} {own mn : String} {ret : Option FieldType} {hd : Cond} {tb : List ExceptionTableEntry} {ml : List Nat} {pc : Nat} (hdg : decode cc pc = .ok (.l2i, 1)) : ok1 fr lo nL cc own mn ret hd tb ml pc (o_l2i (pc + 1)) := by
  intro p l e R s m args below meth c A D ct ad0 n0 C lv st es r cells slots ad H locs ls Q ho hS hl hk
  obtain ⟨hx, hb, hml, hown, hts, hA, hK, hlocks, hmn, hr, htr, hRf, hRl, hG, htb⟩ := C
  unfold o_l2i at ho
  split at ho
  · rename_i x rest
    cases ho
    exact lv_l2i hx hb hdg rfl (hk.2.2 ad H locs ls hS hl)
  · cases ho

def o_lshl (pc' : Nat) : op_T := fun lv st es => match st with
  | .int y :: .long x :: rest => some (.inl (pc', lv, .long (x <<< (y.toInt64 &&& 63)) :: rest, es, 0, 0))
  | _ => none
theorem s_lshl {fr lo nL : Nat} {cc : ByteArray} {own mn : String} {ret : Option FieldType} {hd : Cond} {tb : List ExceptionTableEntry} {ml : List Nat} {pc : Nat} (hdg : decode cc pc = .ok (.lshl, 1)) : ok1 fr lo nL cc own mn ret hd tb ml pc (o_lshl (pc + 1)) := by
  intro p l e R s m args below meth c A D ct ad0 n0 C lv st es r cells slots ad H locs ls Q ho hS hl hk
  obtain ⟨hx, hb, hml, hown, hts, hA, hK, hlocks, hmn, hr, htr, hRf, hRl, hG, htb⟩ := C
  unfold o_lshl at ho
  split at ho
  · rename_i y x rest
    cases ho
    exact lv_lshl hx hb hdg rfl (hk.2.2 ad H locs ls hS hl)
  · cases ho

def o_lshr (pc' : Nat) : op_T := fun lv st es => match st with
  | .int y :: .long x :: rest => some (.inl (pc', lv, .long (x >>> (y.toInt64 &&& 63)) :: rest, es, 0, 0))
  | _ => none
theorem s_lshr {fr lo nL : Nat} {cc : ByteArray} {own mn : String} {ret : Option FieldType} {hd : Cond} {tb : List ExceptionTableEntry} {ml : List Nat} {pc : Nat} (hdg : decode cc pc = .ok (.lshr, 1)) : ok1 fr lo nL cc own mn ret hd tb ml pc (o_lshr (pc + 1)) := by
  intro p l e R s m args below meth c A D ct ad0 n0 C lv st es r cells slots ad H locs ls Q ho hS hl hk
  obtain ⟨hx, hb, hml, hown, hts, hA, hK, hlocks, hmn, hr, htr, hRf, hRl, hG, htb⟩ := C
  unfold o_lshr at ho
  split at ho
  · rename_i y x rest
    cases ho
    exact lv_lshr hx hb hdg rfl (hk.2.2 ad H locs ls hS hl)
  · cases ho

def o_lcmp (pc' : Nat) : op_T := fun lv st es => match st with
  | .long y :: .long x :: rest => some (.inl (pc', lv, .int (lg_cmp x y) :: rest, es, 0, 0))
  | _ => none
theorem s_lcmp {fr lo nL : Nat} {cc : ByteArray} {own mn : String} {ret : Option FieldType} {hd : Cond} {tb : List ExceptionTableEntry} {ml : List Nat} {pc : Nat} (hdg : decode cc pc = .ok (.lcmp, 1)) : ok1 fr lo nL cc own mn ret hd tb ml pc (o_lcmp (pc + 1)) := by
  intro p l e R s m args below meth c A D ct ad0 n0 C lv st es r cells slots ad H locs ls Q ho hS hl hk
  obtain ⟨hx, hb, hml, hown, hts, hA, hK, hlocks, hmn, hr, htr, hRf, hRl, hG, htb⟩ := C
  unfold o_lcmp at ho
  split at ho
  · rename_i y x rest
    cases ho
    exact W.lcmp hx hb hdg (hk.2.2 ad H locs ls hS hl)
  · cases ho

def o_dup (pc' : Nat) : op_T := fun lv st es => match st with
  | v :: rest => if v.category = 1 then some (.inl (pc', lv, v :: v :: rest, es, 0, 0)) else none
  | _ => none
theorem s_dup {fr lo nL : Nat} {cc : ByteArray} {own mn : String} {ret : Option FieldType} {hd : Cond} {tb : List ExceptionTableEntry} {ml : List Nat} {pc : Nat} (hdg : decode cc pc = .ok (.dup, 1)) : ok1 fr lo nL cc own mn ret hd tb ml pc (o_dup (pc + 1)) := by
  intro p l e R s m args below meth c A D ct ad0 n0 C lv st es r cells slots ad H locs ls Q ho hS hl hk
  obtain ⟨hx, hb, hml, hown, hts, hA, hK, hlocks, hmn, hr, htr, hRf, hRl, hG, htb⟩ := C
  unfold o_dup at ho
  split at ho
  · rename_i v rest
    split at ho
    · rename_i hc
      cases ho
      exact lv_dup hx hb hdg ((rn_v_cat v).trans hc) (hk.2.2 ad H locs ls hS hl)
    · cases ho
  · cases ho

def o_dup2 (pc' : Nat) : op_T := fun lv st es => match st with
  | v :: w :: rest => if v.category = 1 then (if w.category = 1 then some (.inl (pc', lv, v :: w :: v :: w :: rest, es, 0, 0)) else none) else none
  | _ => none
theorem s_dup2 {fr lo nL : Nat} {cc : ByteArray} {own mn : String} {ret : Option FieldType} {hd : Cond} {tb : List ExceptionTableEntry} {ml : List Nat} {pc : Nat} (hdg : decode cc pc = .ok (.dup2, 1)) : ok1 fr lo nL cc own mn ret hd tb ml pc (o_dup2 (pc + 1)) := by
  intro p l e R s m args below meth c A D ct ad0 n0 C lv st es r cells slots ad H locs ls Q ho hS hl hk
  obtain ⟨hx, hb, hml, hown, hts, hA, hK, hlocks, hmn, hr, htr, hRf, hRl, hG, htb⟩ := C
  unfold o_dup2 at ho
  split at ho
  · rename_i v w rest
    split at ho
    · rename_i hc
      split at ho
      · rename_i hc2
        cases ho
        exact lv_dup2_11 hx hb hdg ((rn_v_cat v).trans hc) ((rn_v_cat w).trans hc2) (hk.2.2 ad H locs ls hS hl)
      · cases ho
    · cases ho
  · cases ho

def o_ifeq (pc' tgt : Nat) : op_T := fun lv st es => match st with
  | .int x :: rest => if x = 0 then some (.inl (tgt, lv, rest, es, 0, 0)) else some (.inl (pc', lv, rest, es, 0, 0))
  | _ => none
theorem s_ifeq {fr lo nL : Nat} {cc : ByteArray} {own mn : String} {ret : Option FieldType} {hd : Cond} {tb : List ExceptionTableEntry} {ml : List Nat} {pc : Nat} {off : Int} (tgt : Nat) (ht : (pc : Int) + off = (tgt : Int)) (hdg : decode cc pc = .ok (.ifCond .eq off, 3)) : ok1 fr lo nL cc own mn ret hd tb ml pc (o_ifeq (pc + 3) tgt) := by
  intro p l e R s m args below meth c A D ct ad0 n0 C lv st es r cells slots ad H locs ls Q ho hS hl hk
  obtain ⟨hx, hb, hml, hown, hts, hA, hK, hlocks, hmn, hr, htr, hRf, hRl, hG, htb⟩ := C
  unfold o_ifeq at ho
  split at ho
  · rename_i x rest
    split at ho
    · rename_i hc
      cases ho
      exact lv_if_eq hx hb hdg ht (fun _ => hk.2.2 ad H locs ls hS hl) (fun h => absurd hc h)
    · rename_i hc
      cases ho
      exact lv_if_eq hx hb hdg ht (fun h => absurd h hc) (fun _ => hk.2.2 ad H locs ls hS hl)
  · cases ho

def o_ifne (pc' tgt : Nat) : op_T := fun lv st es => match st with
  | .int x :: rest => if ¬ x = 0 then some (.inl (tgt, lv, rest, es, 0, 0)) else some (.inl (pc', lv, rest, es, 0, 0))
  | _ => none
theorem s_ifne {fr lo nL : Nat} {cc : ByteArray} {own mn : String} {ret : Option FieldType} {hd : Cond} {tb : List ExceptionTableEntry} {ml : List Nat} {pc : Nat} {off : Int} (tgt : Nat) (ht : (pc : Int) + off = (tgt : Int)) (hdg : decode cc pc = .ok (.ifCond .ne off, 3)) : ok1 fr lo nL cc own mn ret hd tb ml pc (o_ifne (pc + 3) tgt) := by
  intro p l e R s m args below meth c A D ct ad0 n0 C lv st es r cells slots ad H locs ls Q ho hS hl hk
  obtain ⟨hx, hb, hml, hown, hts, hA, hK, hlocks, hmn, hr, htr, hRf, hRl, hG, htb⟩ := C
  unfold o_ifne at ho
  split at ho
  · rename_i x rest
    split at ho
    · rename_i hc
      cases ho
      exact lv_if_ne hx hb hdg ht (fun _ => hk.2.2 ad H locs ls hS hl) (fun h => absurd h hc)
    · rename_i hc
      cases ho
      exact lv_if_ne hx hb hdg ht (fun h => absurd h hc) (fun _ => hk.2.2 ad H locs ls hS hl)
  · cases ho

def o_iflt (pc' tgt : Nat) : op_T := fun lv st es => match st with
  | .int x :: rest => if x < 0 then some (.inl (tgt, lv, rest, es, 0, 0)) else some (.inl (pc', lv, rest, es, 0, 0))
  | _ => none
theorem s_iflt {fr lo nL : Nat} {cc : ByteArray} {own mn : String} {ret : Option FieldType} {hd : Cond} {tb : List ExceptionTableEntry} {ml : List Nat} {pc : Nat} {off : Int} (tgt : Nat) (ht : (pc : Int) + off = (tgt : Int)) (hdg : decode cc pc = .ok (.ifCond .lt off, 3)) : ok1 fr lo nL cc own mn ret hd tb ml pc (o_iflt (pc + 3) tgt) := by
  intro p l e R s m args below meth c A D ct ad0 n0 C lv st es r cells slots ad H locs ls Q ho hS hl hk
  obtain ⟨hx, hb, hml, hown, hts, hA, hK, hlocks, hmn, hr, htr, hRf, hRl, hG, htb⟩ := C
  unfold o_iflt at ho
  split at ho
  · rename_i x rest
    split at ho
    · rename_i hc
      cases ho
      exact lv_if_lt hx hb hdg ht (fun _ => hk.2.2 ad H locs ls hS hl) (fun h => absurd hc h)
    · rename_i hc
      cases ho
      exact lv_if_lt hx hb hdg ht (fun h => absurd h hc) (fun _ => hk.2.2 ad H locs ls hS hl)
  · cases ho

def o_ifge (pc' tgt : Nat) : op_T := fun lv st es => match st with
  | .int x :: rest => if 0 ≤ x then some (.inl (tgt, lv, rest, es, 0, 0)) else some (.inl (pc', lv, rest, es, 0, 0))
  | _ => none
theorem s_ifge {fr lo nL : Nat} {cc : ByteArray} {own mn : String} {ret : Option FieldType} {hd : Cond} {tb : List ExceptionTableEntry} {ml : List Nat} {pc : Nat} {off : Int} (tgt : Nat) (ht : (pc : Int) + off = (tgt : Int)) (hdg : decode cc pc = .ok (.ifCond .ge off, 3)) : ok1 fr lo nL cc own mn ret hd tb ml pc (o_ifge (pc + 3) tgt) := by
  intro p l e R s m args below meth c A D ct ad0 n0 C lv st es r cells slots ad H locs ls Q ho hS hl hk
  obtain ⟨hx, hb, hml, hown, hts, hA, hK, hlocks, hmn, hr, htr, hRf, hRl, hG, htb⟩ := C
  unfold o_ifge at ho
  split at ho
  · rename_i x rest
    split at ho
    · rename_i hc
      cases ho
      exact lv_if_ge hx hb hdg ht (fun _ => hk.2.2 ad H locs ls hS hl) (fun h => absurd hc h)
    · rename_i hc
      cases ho
      exact lv_if_ge hx hb hdg ht (fun h => absurd h hc) (fun _ => hk.2.2 ad H locs ls hS hl)
  · cases ho

def o_ifgt (pc' tgt : Nat) : op_T := fun lv st es => match st with
  | .int x :: rest => if 0 < x then some (.inl (tgt, lv, rest, es, 0, 0)) else some (.inl (pc', lv, rest, es, 0, 0))
  | _ => none
theorem s_ifgt {fr lo nL : Nat} {cc : ByteArray} {own mn : String} {ret : Option FieldType} {hd : Cond} {tb : List ExceptionTableEntry} {ml : List Nat} {pc : Nat} {off : Int} (tgt : Nat) (ht : (pc : Int) + off = (tgt : Int)) (hdg : decode cc pc = .ok (.ifCond .gt off, 3)) : ok1 fr lo nL cc own mn ret hd tb ml pc (o_ifgt (pc + 3) tgt) := by
  intro p l e R s m args below meth c A D ct ad0 n0 C lv st es r cells slots ad H locs ls Q ho hS hl hk
  obtain ⟨hx, hb, hml, hown, hts, hA, hK, hlocks, hmn, hr, htr, hRf, hRl, hG, htb⟩ := C
  unfold o_ifgt at ho
  split at ho
  · rename_i x rest
    split at ho
    · rename_i hc
      cases ho
      exact lv_if_gt hx hb hdg ht (fun _ => hk.2.2 ad H locs ls hS hl) (fun h => absurd hc h)
    · rename_i hc
      cases ho
      exact lv_if_gt hx hb hdg ht (fun h => absurd h hc) (fun _ => hk.2.2 ad H locs ls hS hl)
  · cases ho

def o_ifle (pc' tgt : Nat) : op_T := fun lv st es => match st with
  | .int x :: rest => if x ≤ 0 then some (.inl (tgt, lv, rest, es, 0, 0)) else some (.inl (pc', lv, rest, es, 0, 0))
  | _ => none
theorem s_ifle {fr lo nL : Nat} {cc : ByteArray} {own mn : String} {ret : Option FieldType} {hd : Cond} {tb : List ExceptionTableEntry} {ml : List Nat} {pc : Nat} {off : Int} (tgt : Nat) (ht : (pc : Int) + off = (tgt : Int)) (hdg : decode cc pc = .ok (.ifCond .le off, 3)) : ok1 fr lo nL cc own mn ret hd tb ml pc (o_ifle (pc + 3) tgt) := by
  intro p l e R s m args below meth c A D ct ad0 n0 C lv st es r cells slots ad H locs ls Q ho hS hl hk
  obtain ⟨hx, hb, hml, hown, hts, hA, hK, hlocks, hmn, hr, htr, hRf, hRl, hG, htb⟩ := C
  unfold o_ifle at ho
  split at ho
  · rename_i x rest
    split at ho
    · rename_i hc
      cases ho
      exact lv_if_le hx hb hdg ht (fun _ => hk.2.2 ad H locs ls hS hl) (fun h => absurd hc h)
    · rename_i hc
      cases ho
      exact lv_if_le hx hb hdg ht (fun h => absurd h hc) (fun _ => hk.2.2 ad H locs ls hS hl)
  · cases ho

def o_icmpeq (pc' tgt : Nat) : op_T := fun lv st es => match st with
  | .int y :: .int x :: rest => if x = y then some (.inl (tgt, lv, rest, es, 0, 0)) else some (.inl (pc', lv, rest, es, 0, 0))
  | _ => none
theorem s_icmpeq {fr lo nL : Nat} {cc : ByteArray} {own mn : String} {ret : Option FieldType} {hd : Cond} {tb : List ExceptionTableEntry} {ml : List Nat} {pc : Nat} {off : Int} (tgt : Nat) (ht : (pc : Int) + off = (tgt : Int)) (hdg : decode cc pc = .ok (.if_icmp .eq off, 3)) : ok1 fr lo nL cc own mn ret hd tb ml pc (o_icmpeq (pc + 3) tgt) := by
  intro p l e R s m args below meth c A D ct ad0 n0 C lv st es r cells slots ad H locs ls Q ho hS hl hk
  obtain ⟨hx, hb, hml, hown, hts, hA, hK, hlocks, hmn, hr, htr, hRf, hRl, hG, htb⟩ := C
  unfold o_icmpeq at ho
  split at ho
  · rename_i y x rest
    split at ho
    · rename_i hc
      cases ho
      exact lv_icmp_eq hx hb hdg ht (fun _ => hk.2.2 ad H locs ls hS hl) (fun h => absurd hc h)
    · rename_i hc
      cases ho
      exact lv_icmp_eq hx hb hdg ht (fun h => absurd h hc) (fun _ => hk.2.2 ad H locs ls hS hl)
  · cases ho

def o_icmpne (pc' tgt : Nat) : op_T := fun lv st es => match st with
  | .int y :: .int x :: rest => if ¬ x = y then some (.inl (tgt, lv, rest, es, 0, 0)) else some (.inl (pc', lv, rest, es, 0, 0))
  | _ => none
theorem s_icmpne {fr lo nL : Nat} {cc : ByteArray} {own mn : String} {ret : Option FieldType} {hd : Cond} {tb : List ExceptionTableEntry} {ml : List Nat} {pc : Nat} {off : Int} (tgt : Nat) (ht : (pc : Int) + off = (tgt : Int)) (hdg : decode cc pc = .ok (.if_icmp .ne off, 3)) : ok1 fr lo nL cc own mn ret hd tb ml pc (o_icmpne (pc + 3) tgt) := by
  intro p l e R s m args below meth c A D ct ad0 n0 C lv st es r cells slots ad H locs ls Q ho hS hl hk
  obtain ⟨hx, hb, hml, hown, hts, hA, hK, hlocks, hmn, hr, htr, hRf, hRl, hG, htb⟩ := C
  unfold o_icmpne at ho
  split at ho
  · rename_i y x rest
    split at ho
    · rename_i hc
      cases ho
      exact lv_icmp_ne hx hb hdg ht (fun _ => hk.2.2 ad H locs ls hS hl) (fun h => absurd h hc)
    · rename_i hc
      cases ho
      exact lv_icmp_ne hx hb hdg ht (fun h => absurd h hc) (fun _ => hk.2.2 ad H locs ls hS hl)
  · cases ho

def o_icmplt (pc' tgt : Nat) : op_T := fun lv st es => match st with
  | .int y :: .int x :: rest => if x < y then some (.inl (tgt, lv, rest, es, 0, 0)) else some (.inl (pc', lv, rest, es, 0, 0))
  | _ => none
theorem s_icmplt {fr lo nL : Nat} {cc : ByteArray} {own mn : String} {ret : Option FieldType} {hd : Cond} {tb : List ExceptionTableEntry} {ml : List Nat} {pc : Nat} {off : Int} (tgt : Nat) (ht : (pc : Int) + off = (tgt : Int)) (hdg : decode cc pc = .ok (.if_icmp .lt off, 3)) : ok1 fr lo nL cc own mn ret hd tb ml pc (o_icmplt (pc + 3) tgt) := by
  intro p l e R s m args below meth c A D ct ad0 n0 C lv st es r cells slots ad H locs ls Q ho hS hl hk
  obtain ⟨hx, hb, hml, hown, hts, hA, hK, hlocks, hmn, hr, htr, hRf, hRl, hG, htb⟩ := C
  unfold o_icmplt at ho
  split at ho
  · rename_i y x rest
    split at ho
    · rename_i hc
      cases ho
      exact lv_icmp_lt hx hb hdg ht (fun _ => hk.2.2 ad H locs ls hS hl) (fun h => absurd hc h)
    · rename_i hc
      cases ho
      exact lv_icmp_lt hx hb hdg ht (fun h => absurd h hc) (fun _ => hk.2.2 ad H locs ls hS hl)
  · cases ho

def o_icmpge (pc' tgt : Nat) : op_T := fun lv st es => match st with
  | .int y :: .int x :: rest => if y ≤ x then some (.inl (tgt, lv, rest, es, 0, 0)) else some (.inl (pc', lv, rest, es, 0, 0))
  | _ => none
theorem s_icmpge {fr lo nL : Nat} {cc : ByteArray} {own mn : String} {ret : Option FieldType} {hd : Cond} {tb : List ExceptionTableEntry} {ml : List Nat} {pc : Nat} {off : Int} (tgt : Nat) (ht : (pc : Int) + off = (tgt : Int)) (hdg : decode cc pc = .ok (.if_icmp .ge off, 3)) : ok1 fr lo nL cc own mn ret hd tb ml pc (o_icmpge (pc + 3) tgt) := by
  intro p l e R s m args below meth c A D ct ad0 n0 C lv st es r cells slots ad H locs ls Q ho hS hl hk
  obtain ⟨hx, hb, hml, hown, hts, hA, hK, hlocks, hmn, hr, htr, hRf, hRl, hG, htb⟩ := C
  unfold o_icmpge at ho
  split at ho
  · rename_i y x rest
    split at ho
    · rename_i hc
      cases ho
      exact lv_icmp_ge hx hb hdg ht (fun _ => hk.2.2 ad H locs ls hS hl) (fun h => absurd hc h)
    · rename_i hc
      cases ho
      exact lv_icmp_ge hx hb hdg ht (fun h => absurd h hc) (fun _ => hk.2.2 ad H locs ls hS hl)
  · cases ho

def o_icmpgt (pc' tgt : Nat) : op_T := fun lv st es => match st with
  | .int y :: .int x :: rest => if y < x then some (.inl (tgt, lv, rest, es, 0, 0)) else some (.inl (pc', lv, rest, es, 0, 0))
  | _ => none
theorem s_icmpgt {fr lo nL : Nat} {cc : ByteArray} {own mn : String} {ret : Option FieldType} {hd : Cond} {tb : List ExceptionTableEntry} {ml : List Nat} {pc : Nat} {off : Int} (tgt : Nat) (ht : (pc : Int) + off = (tgt : Int)) (hdg : decode cc pc = .ok (.if_icmp .gt off, 3)) : ok1 fr lo nL cc own mn ret hd tb ml pc (o_icmpgt (pc + 3) tgt) := by
  intro p l e R s m args below meth c A D ct ad0 n0 C lv st es r cells slots ad H locs ls Q ho hS hl hk
  obtain ⟨hx, hb, hml, hown, hts, hA, hK, hlocks, hmn, hr, htr, hRf, hRl, hG, htb⟩ := C
  unfold o_icmpgt at ho
  split at ho
  · rename_i y x rest
    split at ho
    · rename_i hc
      cases ho
      exact lv_icmp_gt hx hb hdg ht (fun _ => hk.2.2 ad H locs ls hS hl) (fun h => absurd hc h)
    · rename_i hc
      cases ho
      exact lv_icmp_gt hx hb hdg ht (fun h => absurd h hc) (fun _ => hk.2.2 ad H locs ls hS hl)
  · cases ho

def o_icmple (pc' tgt : Nat) : op_T := fun lv st es => match st with
  | .int y :: .int x :: rest => if x ≤ y then some (.inl (tgt, lv, rest, es, 0, 0)) else some (.inl (pc', lv, rest, es, 0, 0))
  | _ => none
theorem s_icmple {fr lo nL : Nat} {cc : ByteArray} {own mn : String} {ret : Option FieldType} {hd : Cond} {tb : List ExceptionTableEntry} {ml : List Nat} {pc : Nat} {off : Int} (tgt : Nat) (ht : (pc : Int) + off = (tgt : Int)) (hdg : decode cc pc = .ok (.if_icmp .le off, 3)) : ok1 fr lo nL cc own mn ret hd tb ml pc (o_icmple (pc + 3) tgt) := by
  intro p l e R s m args below meth c A D ct ad0 n0 C lv st es r cells slots ad H locs ls Q ho hS hl hk
  obtain ⟨hx, hb, hml, hown, hts, hA, hK, hlocks, hmn, hr, htr, hRf, hRl, hG, htb⟩ := C
  unfold o_icmple at ho
  split at ho
  · rename_i y x rest
    split at ho
    · rename_i hc
      cases ho
      exact lv_icmp_le hx hb hdg ht (fun _ => hk.2.2 ad H locs ls hS hl) (fun h => absurd hc h)
    · rename_i hc
      cases ho
      exact lv_icmp_le hx hb hdg ht (fun h => absurd h hc) (fun _ => hk.2.2 ad H locs ls hS hl)
  · cases ho

def o_goto (tgt : Nat) : op_T := fun lv st es => some (.inl (tgt, lv, st, es, 0, 0))
theorem s_goto {fr lo nL : Nat} {cc : ByteArray} {own mn : String} {ret : Option FieldType} {hd : Cond} {tb : List ExceptionTableEntry} {ml : List Nat} {pc : Nat} {off : Int} (tgt : Nat) (ht : (pc : Int) + off = (tgt : Int)) (hdg : decode cc pc = .ok (.goto off, 3)) : ok1 fr lo nL cc own mn ret hd tb ml pc (o_goto tgt) := by
  intro p l e R s m args below meth c A D ct ad0 n0 C lv st es r cells slots ad H locs ls Q ho hS hl hk
  obtain ⟨hx, hb, hml, hown, hts, hA, hK, hlocks, hmn, hr, htr, hRf, hRl, hG, htb⟩ := C
  cases ho
  exact lv_goto hx hb hdg ht (hk.2.2 ad H locs ls hS hl)

def o_table (lo hi : Int) (dflt : Nat) (tg : List Nat) : op_T := fun lv st es => match st with
  | .int x :: rest => if x.toInt < lo then some (.inl (dflt, lv, rest, es, 0, 0)) else if hi < x.toInt then some (.inl (dflt, lv, rest, es, 0, 0)) else match tg[(x.toInt - lo).toNat]? with
    | some t => some (.inl (t, lv, rest, es, 0, 0))
    | none => none
  | _ => none
theorem s_table {fr lo nL : Nat} {cc : ByteArray} {own mn : String} {ret : Option FieldType} {hd : Cond} {tb : List ExceptionTableEntry} {ml : List Nat} {pc : Nat} {d lo9 hi9 : Int} {offs : Array Int} {len dflt : Nat} {tg : List Nat} (hd9 : (pc : Int) + d = (dflt : Int)) (ht : ∀ k t : Nat, tg[k]? = some t → ∃ off, offs[k]? = some off ∧ (pc : Int) + off = (t : Int)) (hdg : decode cc pc = .ok (.tableswitch d lo9 hi9 offs, len)) : ok1 fr lo nL cc own mn ret hd tb ml pc (o_table lo9 hi9 dflt tg) := by
  intro p l e R s m args below meth c A D ct ad0 n0 C lv st es r cells slots ad H locs ls Q ho hS hl hk
  obtain ⟨hx, hb, hml, hown, hts, hA, hK, hlocks, hmn, hr, htr, hRf, hRl, hG, htb⟩ := C
  unfold o_table at ho
  split at ho
  · rename_i x rest
    split at ho
    · rename_i h1
      cases ho
      exact lv_tableOut hx hb hdg (Or.inl h1) hd9 (hk.2.2 ad H locs ls hS hl)
    · rename_i h1
      split at ho
      · rename_i h2
        cases ho
        exact lv_tableOut hx hb hdg (Or.inr h2) hd9 (hk.2.2 ad H locs ls hS hl)
      · rename_i h2
        split at ho
        · rename_i t h3
          cases ho
          obtain ⟨off, g1, g2⟩ := ht _ _ h3
          exact lv_tableIn hx hb hdg h1 h2 g1 g2 (hk.2.2 ad H locs ls hS hl)
        · cases ho
  · cases ho

def o_iret : op_T := fun _ st es => match st with
  | [.int v] => some (.inr (.inl (some (.int v)), es, 0, 0))
  | _ => none
theorem s_iret {fr lo nL : Nat} {cc : ByteArray} {own mn : String} {ret : Option FieldType} {hd : Cond} {tb : List ExceptionTableEntry} {ml : List Nat} {pc : Nat} (hret : ret = some .int) (hdg : decode cc pc = .ok (.ireturn, 1)) : ok1 fr lo nL cc own mn ret hd tb ml pc (o_iret) := by
  intro p l e R s m args below meth c A D ct ad0 n0 C lv st es r cells slots ad H locs ls Q ho hS hl hk
  obtain ⟨hx, hb, hml, hown, hts, hA, hK, hlocks, hmn, hr, htr, hRf, hRl, hG, htb⟩ := C
  unfold o_iret at ho
  split at ho
  · rename_i v
    cases ho
    obtain ⟨mc, ms, rfl, h1, h2, -, -⟩ := hk
    refine W.widen (k := mc) (n := ms) h1 h2 (vx_ret ?_)
    exact W.iret hx hb (hr.trans hret) (fun t ht hW => ⟨_, rfl, rfl, rfl, ⟨ad, hS.2.2.2.2, hS.2.2.2.1, by rw [ht]; exact hS.1, hS.2.1⟩, hS.2.2.1.F ht⟩) hS.2.2.1.2.2 hdg hlocks
  · cases ho

def o_zret : op_T := fun _ st es => match st with
  | [.int v] => if v = 0 ∨ v = 1 then some (.inr (.inl (some (.int v)), es, 0, 0)) else none
  | _ => none
theorem s_zret {fr lo nL : Nat} {cc : ByteArray} {own mn : String} {ret : Option FieldType} {hd : Cond} {tb : List ExceptionTableEntry} {ml : List Nat} {pc : Nat} (hret : ret = some .boolean) (hdg : decode cc pc = .ok (.ireturn, 1)) : ok1 fr lo nL cc own mn ret hd tb ml pc (o_zret) := by
  intro p l e R s m args below meth c A D ct ad0 n0 C lv st es r cells slots ad H locs ls Q ho hS hl hk
  obtain ⟨hx, hb, hml, hown, hts, hA, hK, hlocks, hmn, hr, htr, hRf, hRl, hG, htb⟩ := C
  unfold o_zret at ho
  split at ho
  · rename_i v
    split at ho
    · rename_i hv
      cases ho
      obtain ⟨mc, ms, rfl, h1, h2, -, -⟩ := hk
      refine W.widen (k := mc) (n := ms) h1 h2 (vx_ret ?_)
      exact W.zret hx hb (hr.trans hret) (by rcases hv with rfl | rfl <;> decide) (fun t ht hW => ⟨_, rfl, rfl, rfl, ⟨ad, hS.2.2.2.2, hS.2.2.2.1, by rw [ht]; exact hS.1, hS.2.1⟩, hS.2.2.1.F ht⟩) hS.2.2.1.2.2 hdg hlocks
    · cases ho
  · cases ho

def o_lret : op_T := fun _ st es => match st with
  | [.long v] => some (.inr (.inl (some (.long v)), es, 0, 0))
  | _ => none
theorem s_lret {fr lo nL : Nat} {cc : ByteArray} {own mn : String} {ret : Option FieldType} {hd : Cond} {tb : List ExceptionTableEntry} {ml : List Nat} {pc : Nat} (hret : ret = some .long) (hdg : decode cc pc = .ok (.lreturn, 1)) : ok1 fr lo nL cc own mn ret hd tb ml pc (o_lret) := by
  intro p l e R s m args below meth c A D ct ad0 n0 C lv st es r cells slots ad H locs ls Q ho hS hl hk
  obtain ⟨hx, hb, hml, hown, hts, hA, hK, hlocks, hmn, hr, htr, hRf, hRl, hG, htb⟩ := C
  unfold o_lret at ho
  split at ho
  · rename_i v
    cases ho
    obtain ⟨mc, ms, rfl, h1, h2, -, -⟩ := hk
    refine W.widen (k := mc) (n := ms) h1 h2 (vx_ret ?_)
    exact W.lret hx hb (hr.trans hret) (fun t ht hW => ⟨_, rfl, rfl, rfl, ⟨ad, hS.2.2.2.2, hS.2.2.2.1, by rw [ht]; exact hS.1, hS.2.1⟩, hS.2.2.1.F ht⟩) hS.2.2.1.2.2 hdg hlocks
  · cases ho

def o_vret : op_T := fun _ st es => match st with
  | [] => some (.inr (.inl none, es, 0, 0))
  | _ => none
theorem s_vret {fr lo nL : Nat} {cc : ByteArray} {own mn : String} {ret : Option FieldType} {hd : Cond} {tb : List ExceptionTableEntry} {ml : List Nat} {pc : Nat} (hret : ret = none) (hdg : decode cc pc = .ok (.return_, 1)) : ok1 fr lo nL cc own mn ret hd tb ml pc (o_vret) := by
  intro p l e R s m args below meth c A D ct ad0 n0 C lv st es r cells slots ad H locs ls Q ho hS hl hk
  obtain ⟨hx, hb, hml, hown, hts, hA, hK, hlocks, hmn, hr, htr, hRf, hRl, hG, htb⟩ := C
  unfold o_vret at ho
  split at ho
  · cases ho
    obtain ⟨mc, ms, rfl, h1, h2, -, -⟩ := hk
    refine W.widen (k := mc) (n := ms) h1 h2 (vx_ret ?_)
    exact W.vret hx hb (hr.trans hret) (fun t ht hW => ⟨_, rfl, rfl, rfl, ⟨ad, hS.2.2.2.2, hS.2.2.2.1, by rw [ht]; exact hS.1, hS.2.1⟩, hS.2.2.1.F ht⟩) hS.2.2.1.2.2 hdg hlocks
  · cases ho

def o_get (pc' ci k : Nat) : op_T := fun lv st es => match st with
  | .ref a :: rest => match es[a]? with
    | some (.inr (cj, fs)) => (match Nat.beq cj ci with
      | true => (match fs[k]? with
        | some v => some (.inl (pc', lv, v :: rest, es, 0, 0))
        | none => none)
      | false => none)
    | _ => none
  | _ => none
theorem s_get {fr lo nL : Nat} {cc : ByteArray} {own mn : String} {ret : Option FieldType} {hd : Cond} {tb : List ExceptionTableEntry} {ml : List Nat} {pc : Nat} {C9 : String} {T9 : u_T} {N9 ci k index : Nat} (hin : ∀ w ∈ u_ws C9 T9 N9, w ∈ GW) (hc : vwCl[ci]? = some (C9, T9, N9)) (hk9 : k < N9) (hlk : Cond.fieldLink own index (T9 k).1 (T9 k).2.1 (T9 k).2.2.1 ∈ GW) (hdg : decode cc pc = .ok (.getfield index, 3)) : ok1 fr lo nL cc own mn ret hd tb ml pc (o_get (pc + 3) ci k) := by
  intro p l e R s m args below meth c A D ct ad0 n0 C lv st es r cells slots ad H locs ls Q ho hS hl hk
  obtain ⟨hx, hb, hml, hown, hts, hA, hK, hlocks, hmn, hr, htr, hRf, hRl, hG, htb⟩ := C
  unfold o_get at ho
  split at ho
  · rename_i a rest
    split at ho
    · rename_i cj fs he
      split at ho
      · rename_i hcj
        obtain rfl := Nat.eq_of_beq_eq_true hcj
        split at ho
        · rename_i v hv
          cases ho
          exact va_get (C := C9) (T := T9) (N := N9) hx hb hts (fun w h => List.mem_cons_of_mem _ (hin w h)) hown hK hS.1 a (rn_w_at he) hc k hk9 (hts _ (List.mem_cons_of_mem _ hlk)) (fun _ h => h) (v := rn_v ad v) (by rw [List.getElem?_map, hv]; rfl) hdg (hk.2.2 ad H locs ls hS hl)
        · cases ho
      · cases ho
    · cases ho
  · cases ho

/-- a value that a field of that type may hold -/
def pv (ty : FieldType) (v : Value) : Bool := match ty, v with
  | .int, .int _ => true
  | .long, .long _ => true
  | .boolean, .int x => decide (x = 0 ∨ x = 1)
  | .array _, .ref _ => true
  | .object _, .ref _ => true
  | _, _ => false
theorem pv_ok {ty : FieldType} {v : Value} (h : pv ty v = true) (ad : Nat → Nat) : narrow ty (rn_v ad v) = rn_v ad v ∧ fits ty (rn_v ad v) = true := by
  unfold pv at h
  split at h
  · exact ⟨rfl, rfl⟩
  · exact ⟨rfl, rfl⟩
  · rename_i x
    rcases of_decide_eq_true h with rfl | rfl
    · exact ⟨(by decide : narrow .boolean (.int 0) = .int 0), (by decide : fits .boolean (.int 0) = true)⟩
    · exact ⟨(by decide : narrow .boolean (.int 1) = .int 1), (by decide : fits .boolean (.int 1) = true)⟩
  · exact ⟨rfl, rfl⟩
  · exact ⟨rfl, rfl⟩
  · cases h
def o_put (pc' ci k : Nat) (ty : FieldType) : op_T := fun lv st es => match st with
  | v :: .ref a :: rest => match es[a]? with
    | some (.inr (cj, fs)) => if cj = ci then (if k < fs.length then (if pv ty v = true then some (.inl (pc', lv, rest, es.set a (.inr (ci, fs.set k v)), 0, 0)) else none) else none) else none
    | _ => none
  | _ => none
theorem s_put {fr lo nL : Nat} {cc : ByteArray} {own mn : String} {ret : Option FieldType} {hd : Cond} {tb : List ExceptionTableEntry} {ml : List Nat} {pc : Nat} {C9 : String} {T9 : u_T} {N9 ci k index : Nat} (hin : ∀ w ∈ u_ws C9 T9 N9, w ∈ GW) (hc : vwCl[ci]? = some (C9, T9, N9)) (hk9 : k < N9) (hlk : Cond.fieldLink own index (T9 k).1 (T9 k).2.1 (T9 k).2.2.1 ∈ GW) (ty0 : Nat → FieldType) (hty : ∀ k, k < N9 → parseFieldDescriptor (T9 k).2.2.1 = some (ty0 k)) (hnm : ∀ a, a < N9 → ∀ b, b < N9 → a ≠ b → (T9 a).2.1 ≠ (T9 b).2.1) (hfin : (T9 k).2.2.2 = false) (hdg : decode cc pc = .ok (.putfield index, 3)) : ok1 fr lo nL cc own mn ret hd tb ml pc (o_put (pc + 3) ci k (ty0 k)) := by
  intro p l e R s m args below meth c A D ct ad0 n0 C lv st es r cells slots ad H locs ls Q ho hS hl hk
  obtain ⟨hx, hb, hml, hown, hts, hA, hK, hlocks, hmn, hr, htr, hRf, hRl, hG, htb⟩ := C
  unfold o_put at ho
  split at ho
  · rename_i v a rest
    split at ho
    · rename_i cj fs he
      split at ho
      · rename_i hcj
        subst hcj
        split at ho
        · rename_i hlt
          split at ho
          · rename_i hpv
            cases ho
            obtain ⟨g1, g2⟩ := pv_ok hpv ad
            refine va_put (D := D) (C := C9) (T := T9) (N := N9) (ty := ty0 k) (v := rn_v ad v) hx hb hts (fun w h => List.mem_cons_of_mem _ (hin w h)) ty0 hty hnm hown hK hS.1 hS.2.1 hS.2.2.1 a (rn_w_at he) hc k hk9 (hts _ (List.mem_cons_of_mem _ hlk)) (fun _ h => h) hfin (hty k hk9) g1 g2 (by rw [List.length_map]; exact hlt) hdg (fun H1 locs1 hP1 hD1 hS1 => ?_)
            have e9 : (rn_w ad ct es).set a (ad a, Sum.inr (cj, (fs.map (rn_v ad)).set k (rn_v ad v))) = rn_w ad ct (es.set a (.inr (cj, fs.set k v))) := by
              rw [← rn_w_set, ← List.map_set]; rfl
            exact hk.2.2 ad H1 locs1 ls ⟨e9 ▸ hP1, e9 ▸ hD1, hS1, by rw [List.length_set]; exact hS.2.2.2.1, hS.2.2.2.2⟩ hl
          · cases ho
        · cases ho
      · cases ho
    · cases ho
  · cases ho

theorem s_putF {fr lo nL : Nat} {cc : ByteArray} {own mn : String} {ret : Option FieldType} {hd : Cond} {tb : List ExceptionTableEntry} {ml : List Nat} {pc : Nat} {C9 : String} {T9 : u_T} {N9 ci k index : Nat} (hin : ∀ w ∈ u_ws C9 T9 N9, w ∈ GW) (hc : vwCl[ci]? = some (C9, T9, N9)) (hk9 : k < N9) (hlk : Cond.fieldLink own index (T9 k).1 (T9 k).2.1 (T9 k).2.2.1 ∈ GW) (ty0 : Nat → FieldType) (hty : ∀ k, k < N9 → parseFieldDescriptor (T9 k).2.2.1 = some (ty0 k)) (hnm : ∀ a, a < N9 → ∀ b, b < N9 → a ≠ b → (T9 a).2.1 ≠ (T9 b).2.1) (hfin : (T9 k).2.2.2 = true) (hmi : mn = "<init>") (hdc : (T9 k).1 = own) (hdg : decode cc pc = .ok (.putfield index, 3)) : ok1 fr lo nL cc own mn ret hd tb ml pc (o_put (pc + 3) ci k (ty0 k)) := by
  intro p l e R s m args below meth c A D ct ad0 n0 C lv st es r cells slots ad H locs ls Q ho hS hl hk
  obtain ⟨hx, hb, hml, hown, hts, hA, hK, hlocks, hmn, hr, htr, hRf, hRl, hG, htb⟩ := C
  unfold o_put at ho
  split at ho
  · rename_i v a rest
    split at ho
    · rename_i cj fs he
      split at ho
      · rename_i hcj
        subst hcj
        split at ho
        · rename_i hlt
          split at ho
          · rename_i hpv
            cases ho
            obtain ⟨g1, g2⟩ := pv_ok hpv ad
            refine va_putF (D := D) (C := C9) (T := T9) (N := N9) (ty := ty0 k) (v := rn_v ad v) hx hb hts (fun w h => List.mem_cons_of_mem _ (hin w h)) ty0 hty hnm hown hK hS.1 hS.2.1 hS.2.2.1 a (rn_w_at he) hc k hk9 (hts _ (List.mem_cons_of_mem _ hlk)) (fun _ h => h) hfin (hmn.trans hmi) hdc (hty k hk9) g1 g2 (by rw [List.length_map]; exact hlt) hdg (fun H1 locs1 hP1 hD1 hS1 => ?_)
            have e9 : (rn_w ad ct es).set a (ad a, Sum.inr (cj, (fs.map (rn_v ad)).set k (rn_v ad v))) = rn_w ad ct (es.set a (.inr (cj, fs.set k v))) := by
              rw [← rn_w_set, ← List.map_set]; rfl
            exact hk.2.2 ad H1 locs1 ls ⟨e9 ▸ hP1, e9 ▸ hD1, hS1, by rw [List.length_set]; exact hS.2.2.2.1, hS.2.2.2.2⟩ hl
          · cases ho
        · cases ho
      · cases ho
    · cases ho
  · cases ho

def statV (a : Nat) : Option (List Int32) := (statL.find? (fun q => q.2.1 == a)).map (fun q => q.2.2)
theorem statV_in {a : Nat} {vs : List Int32} (h : statV a = some vs) : ∃ q ∈ statL, q.2.1 = a ∧ q.2.2 = vs := by
  unfold statV at h
  cases hf : statL.find? (fun q => q.2.1 == a) with
  | none => rw [hf] at h; cases h
  | some q =>
    rw [hf] at h
    cases h
    exact ⟨q, List.mem_of_find?_eq_some hf, by have := List.find?_some hf; exact beq_iff_eq.mp this, rfl⟩
def o_gets (pc' a : Nat) : op_T := fun lv st es => some (.inl (pc', lv, .ref a :: st, es, 0, 0))
theorem s_gets {fr lo nL : Nat} {cc : ByteArray} {own mn : String} {ret : Option FieldType} {hd : Cond} {tb : List ExceptionTableEntry} {ml : List Nat} {pc : Nat} {index : Nat} (q : String × Nat × List Int32) (hq : q ∈ statL) (hlk : Cond.fieldLink own index RX7 q.1 "[I" ∈ GW) (hdg : decode cc pc = .ok (.getstatic index, 3)) : ok1 fr lo nL cc own mn ret hd tb ml pc (o_gets (pc + 3) q.2.1) := by
  intro p l e R s m args below meth c A D ct ad0 n0 C lv st es r cells slots ad H locs ls Q ho hS hl hk
  obtain ⟨hx, hb, hml, hown, hts, hA, hK, hlocks, hmn, hr, htr, hRf, hRl, hG, htb⟩ := C
  cases ho
  have hz := (hG.1.2.2.2.2.2.1 q hq).1
  refine va_gets (v := .ref (ad q.2.1)) hx hb (C := RX7) (n := q.1) (d := "[I") ?_ hS.2.2.1 hown (hts _ (List.mem_cons_of_mem _ hlk)) (fun _ h => h) hdg (hk.2.2 ad H locs ls hS hl)
  rw [hS.2.2.2.2 _ (Or.inr (statL_ext q hq))]
  exact hz

def o_iald (pc' : Nat) : op_T := fun lv st es => match st with
  | .int i :: .ref a :: rest => match es[a]? with
    | some (.inl (0, n, .inl f)) => if i < 0 ∨ n ≤ i.toNatClampNeg then none else some (.inl (pc', lv, .int (f i.toNatClampNeg) :: rest, es, 0, 0))
    | none => (match statV a with
      | some vs => if i < 0 ∨ vs.length ≤ i.toNatClampNeg then none else some (.inl (pc', lv, .int (vs.getD i.toNatClampNeg 0) :: rest, es, 0, 0))
      | none => none)
    | _ => none
  | _ => none
theorem s_iald {fr lo nL : Nat} {cc : ByteArray} {own mn : String} {ret : Option FieldType} {hd : Cond} {tb : List ExceptionTableEntry} {ml : List Nat} {pc : Nat} (hdg : decode cc pc = .ok (.iaload, 1)) : ok1 fr lo nL cc own mn ret hd tb ml pc (o_iald (pc + 1)) := by
  intro p l e R s m args below meth c A D ct ad0 n0 C lv st es r cells slots ad H locs ls Q ho hS hl hk
  obtain ⟨hx, hb, hml, hown, hts, hA, hK, hlocks, hmn, hr, htr, hRf, hRl, hG, htb⟩ := C
  unfold o_iald at ho
  split at ho
  · rename_i i a rest
    split at ho
    · rename_i n f he
      split at ho
      · cases ho
      · rename_i hin
        cases ho
        exact va_iald hx hb hK hS.1 a 0 (rn_w_at he) rfl hin hdg (hk.2.2 ad H locs ls hS hl)
    · split at ho
      · rename_i vs hvs
        split at ho
        · cases ho
        · rename_i hin
          cases ho
          obtain ⟨q, hq, rfl, rfl⟩ := statV_in hvs
          have hz := (hG.1.2.2.2.2.2.1 q hq).2
          rw [← hS.2.2.2.2 _ (Or.inr (statL_ext q hq))] at hz
          exact va_ti hx hb hz hS.2.2.1 hin rfl hdg (hk.2.2 ad H locs ls hS hl)
      · cases ho
    · cases ho
  · cases ho

def o_lald (pc' : Nat) : op_T := fun lv st es => match st with
  | .int i :: .ref a :: rest => match es[a]? with
    | some (.inl (1, n, .inr (.inl f))) => if i < 0 ∨ n ≤ i.toNatClampNeg then none else some (.inl (pc', lv, .long (f i.toNatClampNeg) :: rest, es, 0, 0))
    | _ => none
  | _ => none
theorem s_lald {fr lo nL : Nat} {cc : ByteArray} {own mn : String} {ret : Option FieldType} {hd : Cond} {tb : List ExceptionTableEntry} {ml : List Nat} {pc : Nat} (hdg : decode cc pc = .ok (.laload, 1)) : ok1 fr lo nL cc own mn ret hd tb ml pc (o_lald (pc + 1)) := by
  intro p l e R s m args below meth c A D ct ad0 n0 C lv st es r cells slots ad H locs ls Q ho hS hl hk
  obtain ⟨hx, hb, hml, hown, hts, hA, hK, hlocks, hmn, hr, htr, hRf, hRl, hG, htb⟩ := C
  unfold o_lald at ho
  split at ho
  · rename_i i a rest
    split at ho
    · rename_i n f he
      split at ho
      · cases ho
      · rename_i hin
        cases ho
        exact va_lald hx hb hK hS.1 a 1 (rn_w_at he) rfl hin hdg (hk.2.2 ad H locs ls hS hl)
    · cases ho
  · cases ho

def o_zald (pc' : Nat) : op_T := fun lv st es => match st with
  | .int i :: .ref a :: rest => match es[a]? with
    | some (.inl (2, n, .inl f)) => if i < 0 ∨ n ≤ i.toNatClampNeg then none else some (.inl (pc', lv, .int (f i.toNatClampNeg) :: rest, es, 0, 0))
    | _ => none
  | _ => none
theorem s_zald {fr lo nL : Nat} {cc : ByteArray} {own mn : String} {ret : Option FieldType} {hd : Cond} {tb : List ExceptionTableEntry} {ml : List Nat} {pc : Nat} (hdg : decode cc pc = .ok (.baload, 1)) : ok1 fr lo nL cc own mn ret hd tb ml pc (o_zald (pc + 1)) := by
  intro p l e R s m args below meth c A D ct ad0 n0 C lv st es r cells slots ad H locs ls Q ho hS hl hk
  obtain ⟨hx, hb, hml, hown, hts, hA, hK, hlocks, hmn, hr, htr, hRf, hRl, hG, htb⟩ := C
  unfold o_zald at ho
  split at ho
  · rename_i i a rest
    split at ho
    · rename_i n f he
      split at ho
      · cases ho
      · rename_i hin
        cases ho
        exact va_zald hx hb hK hS.1 a 2 (rn_w_at he) rfl hin hdg (hk.2.2 ad H locs ls hS hl)
    · cases ho
  · cases ho

def o_aald (pc' : Nat) : op_T := fun lv st es => match st with
  | .int i :: .ref a :: rest => match es[a]? with
    | some (.inl (c, n, .inr (.inr (.inr (.inr g))))) => if c = 3 ∨ c = 4 then (if i < 0 ∨ n ≤ i.toNatClampNeg then none else some (.inl (pc', lv, va_rf (g i.toNatClampNeg) :: rest, es, 0, 0))) else none
    | _ => none
  | _ => none
theorem s_aald {fr lo nL : Nat} {cc : ByteArray} {own mn : String} {ret : Option FieldType} {hd : Cond} {tb : List ExceptionTableEntry} {ml : List Nat} {pc : Nat} (hdg : decode cc pc = .ok (.aaload, 1)) : ok1 fr lo nL cc own mn ret hd tb ml pc (o_aald (pc + 1)) := by
  intro p l e R s m args below meth c A D ct ad0 n0 C lv st es r cells slots ad H locs ls Q ho hS hl hk
  obtain ⟨hx, hb, hml, hown, hts, hA, hK, hlocks, hmn, hr, htr, hRf, hRl, hG, htb⟩ := C
  unfold o_aald at ho
  split at ho
  · rename_i i a rest
    split at ho
    · rename_i c9 n g he
      split at ho
      · rename_i hc9
        split at ho
        · cases ho
        · rename_i hin
          cases ho
          have hlt : i.toNatClampNeg < n := Nat.not_le.mp fun q => hin (Or.inr q)
          have e9 : va_rf (rn_g ad n g i.toNatClampNeg) = rn_v ad (va_rf (g i.toNatClampNeg)) := by
            rw [rn_g_eq]
            show va_rf (if i.toNatClampNeg < n then (g i.toNatClampNeg).map ad else none) = _
            rw [if_pos hlt]
            cases g i.toNatClampNeg <;> rfl
          have hk3 := hk.2.2 ad H locs ls hS hl
          rcases hc9 with rfl | rfl
          · exact va_aldq hx hb hK hS.1 a 3 (rn_w_at he) rfl hin hdg (by rw [e9]; exact hk3)
          · exact va_aldq hx hb hK hS.1 a 4 (rn_w_at he) rfl hin hdg (by rw [e9]; exact hk3)
      · cases ho
    · cases ho
  · cases ho

def o_iast (pc' : Nat) : op_T := fun lv st es => match st with
  | .int x :: .int i :: .ref a :: rest => match es[a]? with
    | some (.inl (0, n, .inl f)) => if i < 0 ∨ n ≤ i.toNatClampNeg then none else some (.inl (pc', lv, rest, es.set a (.inl (0, n, .inl (upd f i.toNatClampNeg x))), 0, 0))
    | _ => none
  | _ => none
theorem s_iast {fr lo nL : Nat} {cc : ByteArray} {own mn : String} {ret : Option FieldType} {hd : Cond} {tb : List ExceptionTableEntry} {ml : List Nat} {pc : Nat} (hdg : decode cc pc = .ok (.iastore, 1)) : ok1 fr lo nL cc own mn ret hd tb ml pc (o_iast (pc + 1)) := by
  intro p l e R s m args below meth c A D ct ad0 n0 C lv st es r cells slots ad H locs ls Q ho hS hl hk
  obtain ⟨hx, hb, hml, hown, hts, hA, hK, hlocks, hmn, hr, htr, hRf, hRl, hG, htb⟩ := C
  unfold o_iast at ho
  split at ho
  · rename_i x i a rest
    split at ho
    · rename_i n f he
      split at ho
      · cases ho
      · rename_i hin
        cases ho
        refine va_iast hx hb hK hS.1 hS.2.1 hS.2.2.1 a 0 (rn_w_at he) rfl hin hdg (fun H1 locs1 hP1 hD1 hS1 => ?_)
        have e9 := rn_w_set (ad := ad) (ct := ct) (es := es) (k := a) (e := .inl (0, n, .inl (upd f i.toNatClampNeg x)))
        exact hk.2.2 ad H1 locs1 ls ⟨e9 ▸ hP1, e9 ▸ hD1, hS1, by rw [List.length_set]; exact hS.2.2.2.1, hS.2.2.2.2⟩ hl
    · cases ho
  · cases ho

def o_last (pc' : Nat) : op_T := fun lv st es => match st with
  | .long x :: .int i :: .ref a :: rest => match es[a]? with
    | some (.inl (1, n, .inr (.inl f))) => if i < 0 ∨ n ≤ i.toNatClampNeg then none else some (.inl (pc', lv, rest, es.set a (.inl (1, n, .inr (.inl (vp_updL f i.toNatClampNeg x)))), 0, 0))
    | _ => none
  | _ => none
theorem s_last {fr lo nL : Nat} {cc : ByteArray} {own mn : String} {ret : Option FieldType} {hd : Cond} {tb : List ExceptionTableEntry} {ml : List Nat} {pc : Nat} (hdg : decode cc pc = .ok (.lastore, 1)) : ok1 fr lo nL cc own mn ret hd tb ml pc (o_last (pc + 1)) := by
  intro p l e R s m args below meth c A D ct ad0 n0 C lv st es r cells slots ad H locs ls Q ho hS hl hk
  obtain ⟨hx, hb, hml, hown, hts, hA, hK, hlocks, hmn, hr, htr, hRf, hRl, hG, htb⟩ := C
  unfold o_last at ho
  split at ho
  · rename_i x i a rest
    split at ho
    · rename_i n f he
      split at ho
      · cases ho
      · rename_i hin
        cases ho
        refine va_last hx hb hK hS.1 hS.2.1 hS.2.2.1 a 1 (rn_w_at he) rfl hin hdg (fun H1 locs1 hP1 hD1 hS1 => ?_)
        have e9 := rn_w_set (ad := ad) (ct := ct) (es := es) (k := a) (e := .inl (1, n, .inr (.inl (vp_updL f i.toNatClampNeg x))))
        exact hk.2.2 ad H1 locs1 ls ⟨e9 ▸ hP1, e9 ▸ hD1, hS1, by rw [List.length_set]; exact hS.2.2.2.1, hS.2.2.2.2⟩ hl
    · cases ho
  · cases ho

def o_zast (pc' : Nat) : op_T := fun lv st es => match st with
  | .int x :: .int i :: .ref a :: rest => match es[a]? with
    | some (.inl (2, n, .inl f)) => if i < 0 ∨ n ≤ i.toNatClampNeg then none else some (.inl (pc', lv, rest, es.set a (.inl (2, n, .inl (upd f i.toNatClampNeg (vp_nar .boolean x)))), 0, 0))
    | _ => none
  | _ => none
theorem s_zast {fr lo nL : Nat} {cc : ByteArray} {own mn : String} {ret : Option FieldType} {hd : Cond} {tb : List ExceptionTableEntry} {ml : List Nat} {pc : Nat} (hdg : decode cc pc = .ok (.bastore, 1)) : ok1 fr lo nL cc own mn ret hd tb ml pc (o_zast (pc + 1)) := by
  intro p l e R s m args below meth c A D ct ad0 n0 C lv st es r cells slots ad H locs ls Q ho hS hl hk
  obtain ⟨hx, hb, hml, hown, hts, hA, hK, hlocks, hmn, hr, htr, hRf, hRl, hG, htb⟩ := C
  unfold o_zast at ho
  split at ho
  · rename_i x i a rest
    split at ho
    · rename_i n f he
      split at ho
      · cases ho
      · rename_i hin
        cases ho
        refine va_zast hx hb hK hS.1 hS.2.1 hS.2.2.1 a 2 (rn_w_at he) rfl hin hdg (fun H1 locs1 hP1 hD1 hS1 => ?_)
        have e9 := rn_w_set (ad := ad) (ct := ct) (es := es) (k := a) (e := .inl (2, n, .inl (upd f i.toNatClampNeg (vp_nar .boolean x))))
        exact hk.2.2 ad H1 locs1 ls ⟨e9 ▸ hP1, e9 ▸ hD1, hS1, by rw [List.length_set]; exact hS.2.2.2.1, hS.2.2.2.2⟩ hl
    · cases ho
  · cases ho

def o_alen (pc' : Nat) : op_T := fun lv st es => match st with
  | .ref a :: rest => match es[a]? with
    | some (.inl (c, n, z)) => if c < 5 then some (.inl (pc', lv, .int (nI n) :: rest, es, 0, 0)) else none
    | none => (match statV a with
      | some vs => some (.inl (pc', lv, .int (nI vs.length) :: rest, es, 0, 0))
      | none => none)
    | _ => none
  | _ => none
theorem s_alen {fr lo nL : Nat} {cc : ByteArray} {own mn : String} {ret : Option FieldType} {hd : Cond} {tb : List ExceptionTableEntry} {ml : List Nat} {pc : Nat} (hdg : decode cc pc = .ok (.arraylength, 1)) : ok1 fr lo nL cc own mn ret hd tb ml pc (o_alen (pc + 1)) := by
  intro p l e R s m args below meth c A D ct ad0 n0 C lv st es r cells slots ad H locs ls Q ho hS hl hk
  obtain ⟨hx, hb, hml, hown, hts, hA, hK, hlocks, hmn, hr, htr, hRf, hRl, hG, htb⟩ := C
  unfold o_alen at ho
  split at ho
  · rename_i a rest
    split at ho
    · rename_i c9 n z he
      split at ho
      · rename_i hc9
        cases ho
        have hk3 := hk.2.2 ad H locs ls hS hl
        have he3 := rn_w_at (ad := ad) (ct := ct) he
        obtain ⟨x, hx9, hx8⟩ : ∃ x : vp_A, rn_e ad ct (.inl (c9, n, z)) = .inl (ct c9, x) ∧ x.1 = n := by
          rcases z with z | z | z | z | z <;> exact ⟨_, rfl, rfl⟩
        rw [hx9] at he3
        obtain ⟨ty, hty⟩ : ∃ ty, (tysF ct)[c9]? = some (ct c9, ty) := by
          have h5 : ∀ z : Nat, z < 5 → z = 0 ∨ z = 1 ∨ z = 2 ∨ z = 3 ∨ z = 4 := by omega
          rcases h5 c9 hc9 with rfl | rfl | rfl | rfl | rfl <;> exact ⟨_, rfl⟩
        exact va_alen hx hb hK hS.1 a c9 he3 hty (by rw [hx8]; rfl) hdg hk3
      · cases ho
    · split at ho
      · rename_i vs hvs
        cases ho
        obtain ⟨q, hq, rfl, rfl⟩ := statV_in hvs
        have hz := (hG.1.2.2.2.2.2.1 q hq).2
        rw [← hS.2.2.2.2 _ (Or.inr (statL_ext q hq))] at hz
        exact va_tlen hx hb hz hS.2.2.1 rfl hdg (hk.2.2 ad H locs ls hS hl)
      · cases ho
    · cases ho
  · cases ho

