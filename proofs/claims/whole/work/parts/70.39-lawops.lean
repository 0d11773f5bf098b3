/-! calls in the law's own body: they return, whatever its table of handlers is -/
def o_callSH (ml mlc : List Nat) (pc' k : Nat) (Rl : List Value → List va_E → op_O → Prop) : op_R := fun lv st es x =>
  ∃ (as : List Value) (pl : List Nat) (o : Option Value ⊕ String) (ec : List va_E) (mc ms : Nat), (st.take k).reverse = as ∧ as.length = k ∧ cs (st.drop k) ≤ 8 ∧
    Rl (rn_t (toC pl) as) (sl pl es) (o, ec, mc, ms) ∧ ckc ml mlc pl es ec lv (st.drop k) = true ∧ ∃ v, o = .inl v ∧ x = .inl (pc', lv, v.toList ++ st.drop k, pb pl es ec, mc, ms)
def o_callIH (ml mlc : List Nat) (pc' k : Nat) (Rl : List Value → List va_E → op_O → Prop) : op_R := fun lv st es x =>
  ∃ (b : Nat) (as : List Value) (pl : List Nat) (o : Option Value ⊕ String) (ec : List va_E) (mc ms : Nat), (st.take (k + 1)).reverse = .ref b :: as ∧ as.length = k ∧ cs (st.drop (k + 1)) ≤ 8 ∧
    Rl (rn_t (toC pl) (.ref b :: as)) (sl pl es) (o, ec, mc, ms) ∧ ckc ml mlc pl es ec lv (st.drop (k + 1)) = true ∧ ∃ v, o = .inl v ∧ x = .inl (pc', lv, v.toList ++ st.drop (k + 1), pb pl es ec, mc, ms)
section CallL9
variable {fr lo nL : Nat} {cc : ByteArray} {own mn : String} {ret : Option FieldType} {hd : Cond} {pc : Nat} {tb : List ExceptionTableEntry}
variable {y : MethodName} {bytes : ByteArray} {maxL fr' lo' n ci index : Nat} {ret' : Option FieldType} {F : List Value → List va_E → op_O → Prop} {ml mlc : List Nat} {q9 : vw_C}
theorem s_callSH {hh : List (Nat × Nat × Nat × Nat)} (h0 : 0 < nL) (hM : CtA y (.codeWith y bytes maxL ret' hh) fr' lo' mlc F) (h1 : Cond.methodLink own index y ∈ GW) (h2 : Cond.static y ∈ GW) (h4 : Cond.initialized y.cls ∈ GW) (h5 : Cond.codeWith y bytes maxL ret' hh ∈ GW)
    (hdd : y.cls ≠ "java/lang/invoke/MethodHandle" ∧ y.cls ≠ "java/lang/invoke/VarHandle" ∧ (parseMethodDescriptor y.desc).map (fun d => d.parameters.length) = some n) (hfr : fr' + 1 ≤ fr) (hlo : 8 + (maxL + 11) + lo' ≤ lo) (hdg : decode cc pc = .ok (.invokestatic index, 3)) : ok0 fr lo nL cc own mn ret hd tb ml pc (o_callSH ml mlc (pc + 3) n F) := by
  intro p l e R s m args below meth c A D ct ad0 n0 C lv st es r cells slots ad H locs ls Q ho hS hl hk
  obtain ⟨hx, hb, hml, hown, hts, hA, hK, hlocks, hmn, hr, htr, hRf, hRl, hG, htb⟩ := C
  obtain ⟨as, pl, o, ec, mc, ms, hsp, hn9, hcs, hF, hck, v9, ho1, ho2⟩ := ho
  obtain ⟨c1, c2, c3, c4, -⟩ := ck_facts hck
  have hl1 : pl.length ≤ 1000 := by omega
  have hroom : cells + mc ≤ R.cells ∧ slots + ms ≤ R.slots := by subst ho2; exact ⟨hk.1, hk.2.1⟩
  have hMet := hM l htr _ _ _ _ _ _ hF D ct (fun i => ad (frC pl es.length i)) H.size
  have e1 := rn_back (ad := ad) (es := es) hl1 as
  rw [e1] at hMet
  have e2 : (sl pl es).length = pl.length := by unfold sl; rw [List.length_map]
  rw [e2] at hMet
  have hrun := vx_runSX (e := e) (below := below) (meth := meth) (locs := locs) (nL := nL) (own := own) (rest := rn_t ad (st.drop n)) (g := F0 m pc ls (rn_t ad st)) (As := rn_t ad as) ⟨hx, hb, hml, hown, hts⟩ hMet (vx_cwSW n hts (gd_M (ws := [.methodLink own index y, .static y, .initialized y.cls]) h5 (by intro w hw; simp only [List.mem_cons, List.not_mem_nil, or_false] at hw; rcases hw with rfl | rfl | rfl <;> assumption)) rfl rfl rfl hdd ⟨by show fr' + 1 ≤ R.frames; omega, by show 8 + (maxL + 11) + lo' ≤ R.locals; omega⟩)
    ⟨pre_blind, fun U hU hW => ⟨rfl, pre_world hS hA hK hG c1 c2 hl1 U hU hW⟩⟩ rfl (by show (List.map _ as).length = n; rw [List.length_map]; exact hn9) hl.1 (by
      show rn_t ad st = _
      rw [st_split (ad := ad) (k := n) hsp]) (lv_room (by rw [rn_t_cat]; exact hcs)) hdg hroom
  exact call_goH (i := 0) (hs := []) hrun hx hb hown (fun w hw => hts w (List.mem_cons_of_mem _ hw)) hG h0 hS hA hl htb (fun q hq => by cases hq) hck (Or.inl ⟨v9, ho1, ho2⟩) hk
theorem s_callIH (h0 : 0 < nL) (hM : CtA y (.code y bytes maxL none) fr' lo' mlc F) (hyn : y.name = "<init>") (h1 : Cond.methodLink own index y ∈ GW) (h2 : Cond.instanceMethod y ∈ GW) (h4 : Cond.initialized y.cls ∈ GW) (h5 : Cond.code y bytes maxL none ∈ GW)
    (hdd : y.cls ≠ "java/lang/invoke/MethodHandle" ∧ y.cls ≠ "java/lang/invoke/VarHandle" ∧ (parseMethodDescriptor y.desc).map (fun d => d.parameters.length) = some n) (hfr : fr' + 1 ≤ fr) (hlo : 8 + (maxL + 11) + lo' ≤ lo) (hdg : decode cc pc = .ok (.invokespecial index, 3)) : ok0 fr lo nL cc own mn ret hd tb ml pc (o_callIH ml mlc (pc + 3) n F) := by
  intro p l e R s m args below meth c A D ct ad0 n0 C lv st es r cells slots ad H locs ls Q ho hS hl hk
  obtain ⟨hx, hb, hml, hown, hts, hA, hK, hlocks, hmn, hr, htr, hRf, hRl, hG, htb⟩ := C
  obtain ⟨b, as, pl, o, ec, mc, ms, hsp, hn9, hcs, hF, hck, v9, ho1, ho2⟩ := ho
  obtain ⟨c1, c2, c3, c4, -⟩ := ck_facts hck
  have hl1 : pl.length ≤ 1000 := by omega
  have hroom : cells + mc ≤ R.cells ∧ slots + ms ≤ R.slots := by subst ho2; exact ⟨hk.1, hk.2.1⟩
  have hMet := hM l htr _ _ _ _ _ _ hF D ct (fun i => ad (frC pl es.length i)) H.size
  have e1 := rn_back (ad := ad) (es := es) hl1 (.ref b :: as)
  rw [e1] at hMet
  have e2 : (sl pl es).length = pl.length := by unfold sl; rw [List.length_map]
  rw [e2] at hMet
  have hrun := vx_runI (e := e) (below := below) (meth := meth) (locs := locs) (nL := nL) (own := own) (rest := rn_t ad (st.drop (n + 1))) (g := F0 m pc ls (rn_t ad st)) (As := rn_t ad as) (b := ad b) ⟨hx, hb, hml, hown, hts⟩ hMet (cwI n hts (gd_M (ws := []) h5 (fun w hw => by cases hw)) rfl rfl rfl (hts _ (List.mem_cons_of_mem _ h4)) (hts _ (List.mem_cons_of_mem _ h1)) (hts _ (List.mem_cons_of_mem _ h2)) hyn hdd ⟨by show fr' + 1 ≤ R.frames; omega, by show 8 + (maxL + 11) + lo' ≤ R.locals; omega⟩)
    ⟨pre_blind, fun U hU hW => ⟨rfl, pre_world hS hA hK hG c1 c2 hl1 U hU hW⟩⟩ rfl (by show (List.map _ as).length = n; rw [List.length_map]; exact hn9) hl.1 (by
      show rn_t ad st = _
      rw [st_split (ad := ad) hsp]
      show (Value.ref (ad b) :: rn_t ad as).reverse ++ _ = _
      rw [List.reverse_cons, List.append_assoc]; rfl) (lv_room (by rw [rn_t_cat]; exact hcs)) hdg hroom
  exact call_goH (i := 0) (hs := []) hrun hx hb hown (fun w hw => hts w (List.mem_cons_of_mem _ hw)) hG h0 hS hA hl htb (fun q hq => by cases hq) hck (Or.inl ⟨v9, ho1, ho2⟩) hk
end CallL9
