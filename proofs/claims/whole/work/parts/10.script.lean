/-! THE LAW'S OWN BODY: its script is the thing 1999 that stands still -/
def okS (sN : Nat) (sF : Nat → Int32) (fr lo nL : Nat) (cc : ByteArray) (own mn : String) (ret : Option FieldType) (hd : Cond) (tb : List ExceptionTableEntry) (ml : List Nat) (pc : Nat) (op : op_T ⊕ op_R) : Prop :=
  ∀ (p : Program) (l : Launch) (e : Env) (R : Room) (s : State) (m : MethodId) (args : Array Value) (below : List Frame) (meth : Method) (c : Code) (A : Nat → Prop) (D : va_G) (ct : Nat → ClassId) (ad0 : Nat → Nat) (n0 : Nat),
    Cx fr lo nL cc own mn ret hd tb p l R s m args meth c A D ct ad0 → va_T .int (ad0 1999) sN (fun j => .int (sF j)) A s s.heap →
    ∀ (lv : List (Nat × Value)) (st : List Value) (es : List va_E) (r : op_S ⊕ op_O) (cells slots : Nat) (ad : Nat → Nat) (H : Heap) (locs : List Loc) (ls : Array Slot) (Q : State → Prop),
      (match op with
        | .inl f => f lv st es = some r
        | .inr g => g lv st es r) → Sm s A D ct ad0 n0 ml ad es H locs → lv_has ls nL (rn_l ad lv) → pt p l e R s m args below meth c A D ct ad0 n0 ml nL cells slots Q r →
      W p l e R s m args below meth c H locs cells slots Q (F0 m pc ls (rn_t ad st))
theorem okS_of {sN : Nat} {sF : Nat → Int32} {fr lo nL : Nat} {cc : ByteArray} {own mn : String} {ret : Option FieldType} {hd : Cond} {tb : List ExceptionTableEntry} {ml : List Nat} {pc : Nat} {op : op_T ⊕ op_R} (h : ok2 fr lo nL cc own mn ret hd tb ml pc op) : okS sN sF fr lo nL cc own mn ret hd tb ml pc op := by
  intro p l e R s m args below meth c A D ct ad0 n0 C _ lv st es r cells slots ad H locs ls Q ho hS hl hk
  cases op with
  | inl f => exact h p l e R s m args below meth c A D ct ad0 n0 C lv st es r cells slots ad H locs ls Q ho hS hl hk
  | inr g => exact h p l e R s m args below meth c A D ct ad0 n0 C lv st es r cells slots ad H locs ls Q ho hS hl hk
def o_slen (sN pc' : Nat) : op_T := fun lv st es => match st with
  | .ref a :: rest => (match Nat.beq a 1999 with
    | true => some (.inl (pc', lv, .int (nI sN) :: rest, es, 0, 0))
    | false => none)
  | _ => none
def o_sld (sN : Nat) (sF : Nat → Int32) (pc' : Nat) : op_T := fun lv st es => match st with
  | .int i :: .ref a :: rest => (match Nat.beq a 1999 with
    | true => if i < 0 ∨ sN ≤ i.toNatClampNeg then none else some (.inl (pc', lv, .int (sF i.toNatClampNeg) :: rest, es, 0, 0))
    | false => none)
  | _ => none
section Scr9
variable {sN : Nat} {sF : Nat → Int32} {fr lo nL : Nat} {cc : ByteArray} {own mn : String} {ret : Option FieldType} {hd : Cond} {tb : List ExceptionTableEntry} {ml : List Nat} {pc : Nat}
theorem s_slen (hdg : decode cc pc = .ok (.arraylength, 1)) : okS sN sF fr lo nL cc own mn ret hd tb ml pc (.inl (o_slen sN (pc + 1))) := by
  intro p l e R s m args below meth c A D ct ad0 n0 C hX lv st es r cells slots ad H locs ls Q ho hS hl hk
  obtain ⟨hx, hb, hml, hown, hts, hA, hK, hlocks, hmn, hr, htr, hRf, hRl, hG, htb⟩ := C
  change o_slen sN (pc + 1) lv st es = some r at ho
  unfold o_slen at ho
  split at ho
  · rename_i a rest
    split at ho
    · rename_i ha
      obtain rfl := Nat.eq_of_beq_eq_true ha
      cases ho
      rw [← hS.2.2.2.2 1999 (Or.inr (by omega))] at hX
      exact va_tlen hx hb hX hS.2.2.1 rfl hdg (hk.2.2 ad H locs ls hS hl)
    · cases ho
  · cases ho
theorem s_sld (hdg : decode cc pc = .ok (.iaload, 1)) : okS sN sF fr lo nL cc own mn ret hd tb ml pc (.inl (o_sld sN sF (pc + 1))) := by
  intro p l e R s m args below meth c A D ct ad0 n0 C hX lv st es r cells slots ad H locs ls Q ho hS hl hk
  obtain ⟨hx, hb, hml, hown, hts, hA, hK, hlocks, hmn, hr, htr, hRf, hRl, hG, htb⟩ := C
  change o_sld sN sF (pc + 1) lv st es = some r at ho
  unfold o_sld at ho
  split at ho
  · rename_i i a rest
    split at ho
    · rename_i ha
      obtain rfl := Nat.eq_of_beq_eq_true ha
      split at ho
      · cases ho
      · rename_i hin
        cases ho
        rw [← hS.2.2.2.2 1999 (Or.inr (by omega))] at hX
        exact va_ti hx hb hX hS.2.2.1 hin rfl hdg (hk.2.2 ad H locs ls hS hl)
    · cases ho
  · cases ho
end Scr9
theorem bif_ok {α : Type} {c : Bool} {a b : Option α} {P : α → Prop} (ha : ∀ x, a = some x → P x) (hb : ∀ x, b = some x → P x) : ∀ x, (bif c then a else b) = some x → P x := by
  cases c
  · exact hb
  · exact ha
theorem ex_soundS {sN : Nat} {sF : Nat → Int32} {fr lo nL : Nat} {cc : ByteArray} {own mn : String} {ret : Option FieldType} {hd : Cond} {tb : List ExceptionTableEntry} {ml : List Nat} {body : op_B} (hok : ∀ pc op, body pc = some op → okS sN sF fr lo nL cc own mn ret hd tb ml pc op)
    {p : Program} {l : Launch} {e : Env} {R : Room} {s : State} {m : MethodId} {args : Array Value} {below : List Frame} {meth : Method} {c : Code} {A : Nat → Prop} {D : va_G} {ct : Nat → ClassId} {ad0 : Nat → Nat} {n0 : Nat}
    (C : Cx fr lo nL cc own mn ret hd tb p l R s m args meth c A D ct ad0) (hX : va_T .int (ad0 1999) sN (fun j => .int (sF j)) A s s.heap) {o : Option Value ⊕ String} {es' : List va_E} {mc ms : Nat} (hmc : mc ≤ R.cells) (hms : ms ≤ R.slots) :
    ∀ (n pc : Nat) (lv : List (Nat × Value)) (st : List Value) (es : List va_E) (cells slots : Nat), ex body n pc lv st es cells slots (o, es', mc, ms) →
      ∀ (ad : Nat → Nat) (H : Heap) (locs : List Loc) (ls : Array Slot), Sm s A D ct ad0 n0 ml ad es H locs → lv_has ls nL (rn_l ad lv) →
        W p l e R s m args below meth c H locs cells slots (vx_MQ below (qc D ct ad0 n0 ml A o es') (xc D ct ad0 n0 ml A o es') args s mc ms A) (F0 m pc ls (rn_t ad st)) := by
  intro n
  induction n with
  | zero => intro pc lv st es cells slots h; cases h
  | succ n ih =>
    intro pc lv st es cells slots h ad H locs ls hS hl
    unfold ex at h
    split at h
    · cases h
    · rename_i f hop
      have hf := hok pc _ hop
      split at h
      · cases h
      · rename_i pc' lv' st' es2 dc ds hr
        have hm := ex_mono h
        exact hf p l e R s m args below meth c A D ct ad0 n0 C hX lv st es _ cells slots ad H locs ls _ hr hS hl ⟨Nat.le_trans hm.1 hmc, Nat.le_trans hm.2 hms, fun ad' H' locs' ls' hS' hl' => ih pc' lv' st' es2 _ _ h ad' H' locs' ls' hS' hl'⟩
      · rename_i o2 es2 dc ds hr
        cases h
        exact hf p l e R s m args below meth c A D ct ad0 n0 C hX lv st es _ cells slots ad H locs ls _ hr hS hl ⟨_, _, rfl, Nat.le_refl _, Nat.le_refl _, hmc, hms⟩
    · rename_i g hop
      have hg := hok pc _ hop
      obtain ⟨x, hr, h⟩ := h
      split at h
      · rename_i pc' lv' st' es2 dc ds
        have hm := ex_mono h
        exact hg p l e R s m args below meth c A D ct ad0 n0 C hX lv st es _ cells slots ad H locs ls _ hr hS hl ⟨Nat.le_trans hm.1 hmc, Nat.le_trans hm.2 hms, fun ad' H' locs' ls' hS' hl' => ih pc' lv' st' es2 _ _ h ad' H' locs' ls' hS' hl'⟩
      · rename_i o2 es2 dc ds
        cases h
        exact hg p l e R s m args below meth c A D ct ad0 n0 C hX lv st es _ cells slots ad H locs ls _ hr hS hl ⟨_, _, rfl, Nat.le_refl _, Nat.le_refl _, hmc, hms⟩
