/-! METHODS WITH HANDLERS: a call whose exception is caught in the same method; what is caught is laid into a local and forgotten -/
theorem fl1_has {ad : Nat → Nat} {ls : Array Slot} {nL i : Nat} {lv : List (Nat × Value)} {v : Value} (h : lv_has ls nL ((i, v) :: (rn_l ad lv).filter (fun q => !(q.1 == i) && !(q.1 + 1 == i && q.2.category == 2)))) : lv_has ls nL (rn_l ad (fl1 i lv)) := by
  have e : (i, rn_v ad (.int 0)) :: (rn_l ad lv).filter (fun q => !(q.1 == i) && !(q.1 + 1 == i && q.2.category == 2)) = (i, rn_v ad (.int 0)) :: rn_l ad (fl1 i lv) := rn_ls1 (v := .int 0)
  have e2 := (List.cons.inj e).2
  refine ⟨h.1, h.2.1, fun q hq => h.2.2 q (List.mem_cons_of_mem _ ?_)⟩
  rw [e2]
  exact hq
def o_callVH (ml mlc : List Nat) (pc' k ci i : Nat) (hs : List (String × Nat)) (Rl : List Value → List va_E → op_O → Prop) : op_R := fun lv st es x =>
  ∃ (b : Nat) (as fs : List Value) (pl : List Nat) (o : Option Value ⊕ String) (ec : List va_E) (mc ms : Nat), (st.take (k + 1)).reverse = .ref b :: as ∧ as.length = k ∧ cs (st.drop (k + 1)) ≤ 8 ∧ es[b]? = some (.inr (ci, fs)) ∧
    Rl (rn_t (toC pl) (.ref b :: as)) (sl pl es) (o, ec, mc, ms) ∧ ckc ml mlc pl es ec lv (st.drop (k + 1)) = true ∧
    ((∃ v, o = .inl v ∧ x = .inl (pc', lv, v.toList ++ st.drop (k + 1), pb pl es ec, mc, ms)) ∨ (∃ q ∈ hs, o = .inr q.1 ∧ x = .inl (q.2, fl1 i lv, [], pb pl es ec, mc, ms)))
/-- a row of the table that takes the exception q.1 and goes on at q.2, behind the store of it into the local i -/
def hdl (cc : ByteArray) (own : String) (tb : List ExceptionTableEntry) (pc i : Nat) (q : String × Nat) : Prop :=
  ∃ (pre : List ExceptionTableEntry) (x : ExceptionTableEntry) (suf : List ExceptionTableEntry) (nm : String), tb = pre ++ x :: suf ∧ (∀ z ∈ pre, z.catchType ≠ 0 ∧ ∃ nm', Cond.classLink own z.catchType nm' ∈ GW ∧ (q.1, nm') ∈ ncastL) ∧ covers x pc = true ∧ x.catchType ≠ 0 ∧
    Cond.classLink own x.catchType nm ∈ GW ∧ (q.1, nm) ∈ castL ∧ ((decode cc x.handlerPc = .ok (.astore i, 2) ∧ q.2 = x.handlerPc + 2) ∨ ∃ k : Fin 4, k.val = i ∧ decode cc x.handlerPc = .ok (.astore_n k, 1) ∧ q.2 = x.handlerPc + 1)
section GoH9
variable {p : Program} {l : Launch} {e : Env} {R : Room} {s : State} {m : MethodId} {args : Array Value} {below : List Frame} {meth : Method} {c : Code} {A : Nat → Prop} {D : va_G} {ct : Nat → ClassId} {ad0 : Nat → Nat} {n0 nL : Nat} {H : Heap} {locs : List Loc} {cells slots mc ms pc i : Nat} {ls : Array Slot} {ad : Nat → Nat} {es ec : List va_E} {lv : List (Nat × Value)} {rest st0 : List Value} {pl ml mlc : List Nat} {o : Option Value ⊕ String} {a : Array Value} {Q : State → Prop} {r : op_S ⊕ op_O} {cc : ByteArray} {own : String} {tb : List ExceptionTableEntry} {hs : List (String × Nat)}
theorem call_goH (hr : vx_Run p l e R s m args below meth c H locs cells slots mc ms (F0 m pc ls st0) (rn_t ad rest) (qc D ct (fun i => ad (frC pl es.length i)) pl.length mlc (va_A (rn_w (fun i => ad (frC pl es.length i)) ct (sl pl es)) H.size) o ec a) (xc D ct (fun i => ad (frC pl es.length i)) pl.length mlc (va_A (rn_w (fun i => ad (frC pl es.length i)) ct (sl pl es)) H.size) o ec) (va_A (rn_w (fun i => ad (frC pl es.length i)) ct (sl pl es)) H.size))
    (hx : p.tables.exec = Jvm.exec) (hb : c.code = cc) (hown : s.vm.findClass own = some m.cls) (hW9 : ∀ w ∈ GW, w.before args s = true) (hG : GF ad0 A s s.heap) (hi : i < nL)
    (hS : Sm s A D ct ad0 n0 ml ad es H locs) (hA : ∀ q, s.heap.size ≤ q → A q) (hl : lv_has ls nL (rn_l ad lv)) (htb : c.exceptionTable.toList = tb) (hhs : ∀ q ∈ hs, hdl cc own tb pc i q) (hck : ckc ml mlc pl es ec lv rest = true)
    (ho : (∃ v, o = .inl v ∧ r = .inl (pc + 3, lv, v.toList ++ rest, pb pl es ec, mc, ms)) ∨ (∃ q ∈ hs, o = .inr q.1 ∧ r = .inl (q.2, fl1 i lv, [], pb pl es ec, mc, ms)))
    (hk : pt p l e R s m args below meth c A D ct ad0 n0 ml nL cells slots Q r) : W p l e R s m args below meth c H locs cells slots Q (F0 m pc ls st0) := by
  obtain ⟨hP, hD, hSS, hn0, had⟩ := hS
  have hS : Sm s A D ct ad0 n0 ml ad es H locs := ⟨hP, hD, hSS, hn0, had⟩
  obtain ⟨h1, h2, h3, h4, h5, h6, h60, h7, h8, h9, h10⟩ := ck_facts hck
  have hAA := sl_sub hS hA h2 (by omega)
  have back : ∀ (t : State) (L : List Loc), wd D ct (fun i => ad (frC pl es.length i)) pl.length mlc (va_A (rn_w (fun i => ad (frC pl es.length i)) ct (sl pl es)) H.size) ec t → (∀ st₀ : State, st₀.heap = H → va_F (va_A (rn_w (fun i => ad (frC pl es.length i)) ct (sl pl es)) H.size) st₀ t → (∀ q ∈ L, va_A (rn_w (fun i => ad (frC pl es.length i)) ct (sl pl es)) H.size q.base) →
      ∃ ad' : Nat → Nat, Sm s A D ct ad0 n0 ml ad' (pb pl es ec) t.heap (locs ++ L) ∧ rn_l ad' lv = rn_l ad lv ∧ rn_t ad' rest = rn_t ad rest) := by
    intro t L hw st₀ h0 hF hL
    obtain ⟨ad2, had2, hl2, hP2, hD2⟩ := hw
    obtain ⟨hz, hkp⟩ := hF
    rw [h0] at hz hkp
    obtain ⟨b1, b2⟩ := world_back hP hD hck had2 hP2 hD2 hAA hkp
    obtain ⟨b3, b4⟩ := nad_lv (ad := ad) (ad2 := ad2) hck
    refine ⟨nad ad ad2 pl mlc es.length (ec.length - pl.length), ⟨b1, b2, ⟨Nat.le_trans hSS.1 hz, fun q g1 g2 => ?_, fun q hq => ?_⟩, fun i h1 h2 => by rw [pb_len h3]; exact Nat.lt_of_lt_of_le (hn0 i h1 h2) (Nat.le_add_right _ _), fun i hi => ?_⟩, b3, b4⟩
    · rw [hkp q (Nat.lt_of_lt_of_le g1 hSS.1) (fun z => g2 (hAA q z))]
      exact hSS.2.1 q g1 g2
    · rcases List.mem_append.mp hq with g | g
      · exact hSS.2.2 q g
      · exact hAA _ (hL q g)
    · have hi9 : i ∉ mvd pl mlc := by
        rcases hi with ⟨g1, g2⟩ | g1
        · exact fun hm => g2 (h10 i hm)
        · exact mvd_lt h2 (by omega)
      rw [nad_far (by
        rcases hi with ⟨g1, g2⟩ | g1
        · exact Or.inl (hn0 i g1 g2)
        · omega) hi9]
      exact had i hi
  intro T hT X
  rcases hr T hT X with ⟨v, st₀, t, T', L, h0, X', hL, e1, e2, ⟨v', rfl, hrf, hv, hw, hF⟩, st⟩ | ⟨q, st₀, t, T', L, E, ce, h0, X', hL, e1, e2, ⟨rfl, hw, hF⟩, hce, hcv, hcl, st⟩
  · cases hv
    rcases ho with ⟨v9, hv9, rfl⟩ | ⟨q, hq, hv9, rfl⟩
    · cases hv9
      obtain ⟨ad', g1, g2, g3⟩ := back t L hw st₀ h0 hF hL
      have hkk := hk.2.2 ad' T'.heap (locs ++ L) ls (by rw [e1]; exact g1) (by rw [g2]; exact hl)
      have e9 : rn_t ad' (v.toList ++ rest) = v.toList ++ rn_t ad rest := by
        show List.map (rn_v ad') (v.toList ++ rest) = _
        rw [List.map_append]
        show rn_t ad' v.toList ++ rn_t ad' rest = _
        rw [g3, rn_t_none hrf]
      rw [e9] at hkk
      obtain ⟨t2, a1, b1⟩ := hkk T' rfl X'
      exact ⟨t2, st t2 a1, b1⟩
    · cases hv9
  · rcases ho with ⟨v9, hv9, rfl⟩ | ⟨q9, hq, hv9, rfl⟩
    · cases hv9
    · cases hv9
      obtain ⟨ad', g1, g2, g3⟩ := back t L hw st₀ h0 hF hL
      have hl2 : lv_has ls nL (rn_l ad' lv) := by rw [g2]; exact hl
      obtain ⟨pre, x, suf, nm, t1, t2, t3, t4, t5, t6, t7⟩ := hhs q9 hq
      have hvw : vx_W p l e R s m args below meth c T'.heap (locs ++ L) (cells + mc) (slots + ms) Q (F0 m pc ls (rn_t ad rest)) q := by
        refine vx_catch (name := nm) hown pre x suf (htb.trans t1) (fun z hz => ?_) t3 t4 (hW9 _ t5) (va_Nw.use rfl (hG.1.2.1 _ t6)) (by rw [e1]; exact hce) hcv hcl ?_
        · obtain ⟨y1, nm', y2, y3⟩ := t2 z hz
          exact Or.inr ⟨y1, nm', hW9 _ y2, hG.1.2.2.1 _ y3⟩
        · rcases t7 with ⟨d1, d2⟩ | ⟨k, d0, d1, d2⟩
          · refine lv_astore hx hb d1 hl2 hi rfl (fun ls' hl' => ?_)
            rw [← d2]
            exact hk.2.2 ad' T'.heap (locs ++ L) ls' (by rw [e1]; exact g1) (fl1_has hl')
          · refine lv_astore_n hx hb d1 d0 hl2 hi rfl (fun ls' hl' => ?_)
            rw [← d2]
            exact hk.2.2 ad' T'.heap (locs ++ L) ls' (by rw [e1]; exact g1) (fl1_has hl')
      obtain ⟨t9, a1, b1⟩ := hvw T' rfl X'
      exact ⟨t9, st.trans a1, b1⟩
end GoH9
section CallH9
variable {fr lo nL : Nat} {cc : ByteArray} {own mn : String} {ret : Option FieldType} {hd : Cond} {pc : Nat}
variable {y : MethodName} {bytes : ByteArray} {maxL fr' lo' n ci index : Nat} {ret' : Option FieldType} {F : List Value → List va_E → op_O → Prop} {ml mlc : List Nat} {q9 : vw_C}
theorem s_callVH {tb : List ExceptionTableEntry} {hs : List (String × Nat)} {i : Nat} (hi : i < nL) (hhs : ∀ q ∈ hs, hdl cc own tb pc i q) (hM : CtA y (.code y bytes maxL ret') fr' lo' mlc F) (h1 : Cond.methodLink own index y ∈ GW) (h2 : Cond.instanceMethod y ∈ GW) (h3 : Cond.selects y.cls y y ∈ GW) (h4 : Cond.initialized y.cls ∈ GW) (h5 : Cond.code y bytes maxL ret' ∈ GW)
    (hdd : y.cls ≠ "java/lang/invoke/MethodHandle" ∧ y.cls ≠ "java/lang/invoke/VarHandle" ∧ (parseMethodDescriptor y.desc).map (fun d => d.parameters.length) = some n) (hc : vwCl[ci]? = some q9) (hq9 : q9.1 = y.cls) (hfr : fr' + 1 ≤ fr) (hlo : 8 + (maxL + 11) + lo' ≤ lo) (hdg : decode cc pc = .ok (.invokevirtual index, 3)) : ok0 fr lo nL cc own mn ret hd tb ml pc (o_callVH ml mlc (pc + 3) n ci i hs F) := by
  intro p l e R s m args below meth c A D ct ad0 n0 C lv st es r cells slots ad H locs ls Q ho hS hl hk
  obtain ⟨hx, hb, hml, hown, hts, hA, hK, hlocks, hmn, hr, htr, hRf, hRl, hG, htb⟩ := C
  obtain ⟨b, as, fs, pl, o, ec, mc, ms, hsp, hn9, hcs, he, hF, hck, ho2⟩ := ho
  obtain ⟨c1, c2, c3, c4, -⟩ := ck_facts hck
  have hl1 : pl.length ≤ 1000 := by omega
  have hroom : cells + mc ≤ R.cells ∧ slots + ms ≤ R.slots := by
    rcases ho2 with ⟨v, -, rfl⟩ | ⟨q, -, -, rfl⟩
    · exact ⟨hk.1, hk.2.1⟩
    · exact ⟨hk.1, hk.2.1⟩
  have hMet := hM l htr _ _ _ _ _ _ hF D ct (fun i => ad (frC pl es.length i)) H.size
  have e1 := rn_back (ad := ad) (es := es) hl1 (.ref b :: as)
  rw [e1] at hMet
  have e2 : (sl pl es).length = pl.length := by unfold sl; rw [List.length_map]
  rw [e2] at hMet
  have hrun := vx_runV (e := e) (below := below) (meth := meth) (locs := locs) (nL := nL) (own := own) (rest := rn_t ad (st.drop (n + 1))) (g := F0 m pc ls (rn_t ad st)) (As := rn_t ad as) (b := ad b) ⟨hx, hb, hml, hown, hts⟩ hMet (cwV n hts (gd_M (ws := [.methodLink own index y, .instanceMethod y, .selects y.cls y y, .initialized y.cls]) h5 (by intro w hw; simp only [List.mem_cons, List.not_mem_nil, or_false] at hw; rcases hw with rfl | rfl | rfl | rfl <;> assumption)) rfl rfl rfl ⟨rfl, hdd.1, hdd.2.1, hdd.2.2⟩ ⟨by show fr' + 1 ≤ R.frames; omega, by show 8 + (maxL + 11) + lo' ≤ R.locals; omega⟩)
    ⟨pre_blind, by rw [← hq9]; exact va_recv hK hS.1 hc (rn_w_at he), fun U hU hW => ⟨rfl, pre_world hS hA hK hG c1 c2 hl1 U hU hW⟩⟩ rfl (by show (List.map _ as).length = n; rw [List.length_map]; exact hn9) hl.1 (by
      show rn_t ad st = _
      rw [st_split (ad := ad) hsp]
      show (Value.ref (ad b) :: rn_t ad as).reverse ++ _ = _
      rw [List.reverse_cons, List.append_assoc]; rfl) (lv_room (by rw [rn_t_cat]; exact hcs)) hdg hroom
  exact call_goH hrun hx hb hown (fun w hw => hts w (List.mem_cons_of_mem _ hw)) hG hi hS hA hl htb hhs hck ho2 hk
/-- a static call of a method with handlers -/
theorem s_callSW {hh : List (Nat × Nat × Nat × Nat)} (hM : CtA y (.codeWith y bytes maxL ret' hh) fr' lo' mlc F) (h1 : Cond.methodLink own index y ∈ GW) (h2 : Cond.static y ∈ GW) (h4 : Cond.initialized y.cls ∈ GW) (h5 : Cond.codeWith y bytes maxL ret' hh ∈ GW)
    (hdd : y.cls ≠ "java/lang/invoke/MethodHandle" ∧ y.cls ≠ "java/lang/invoke/VarHandle" ∧ (parseMethodDescriptor y.desc).map (fun d => d.parameters.length) = some n) (hfr : fr' + 1 ≤ fr) (hlo : 8 + (maxL + 11) + lo' ≤ lo) (hdg : decode cc pc = .ok (.invokestatic index, 3)) : ok0 fr lo nL cc own mn ret hd [] ml pc (o_callS ml mlc (pc + 3) n F) := by
  intro p l e R s m args below meth c A D ct ad0 n0 C lv st es r cells slots ad H locs ls Q ho hS hl hk
  obtain ⟨hx, hb, hml, hown, hts, hA, hK, hlocks, hmn, hr, htr, hRf, hRl, hG, htb⟩ := C
  obtain ⟨as, pl, o, ec, mc, ms, hsp, hn9, hcs, hF, ho2⟩ := ho
  obtain ⟨c1, c2, c3, c4, -⟩ := ck_facts (rs_ck ho2)
  have hl1 : pl.length ≤ 1000 := by omega
  have hMet := hM l htr _ _ _ _ _ _ hF D ct (fun i => ad (frC pl es.length i)) H.size
  have e1 := rn_back (ad := ad) (es := es) hl1 as
  rw [e1] at hMet
  have e2 : (sl pl es).length = pl.length := by unfold sl; rw [List.length_map]
  rw [e2] at hMet
  have hrun := vx_runSX (e := e) (below := below) (meth := meth) (locs := locs) (nL := nL) (own := own) (rest := rn_t ad (st.drop n)) (g := F0 m pc ls (rn_t ad st)) (As := rn_t ad as) ⟨hx, hb, hml, hown, hts⟩ hMet (vx_cwSW n hts (gd_M (ws := [.methodLink own index y, .static y, .initialized y.cls]) h5 (by intro w hw; simp only [List.mem_cons, List.not_mem_nil, or_false] at hw; rcases hw with rfl | rfl | rfl <;> assumption)) rfl rfl rfl hdd ⟨by show fr' + 1 ≤ R.frames; omega, by show 8 + (maxL + 11) + lo' ≤ R.locals; omega⟩)
    ⟨pre_blind, fun U hU hW => ⟨rfl, pre_world hS hA hK hG c1 c2 hl1 U hU hW⟩⟩ rfl (by show (List.map _ as).length = n; rw [List.length_map]; exact hn9) hl.1 (by
      show rn_t ad st = _
      rw [st_split (ad := ad) (k := n) hsp]) (lv_room (by rw [rn_t_cat]; exact hcs)) hdg (pt_room ho2 hk)
  exact call_go hrun hS hA hl hlocks htb ho2 hk
end CallH9
theorem CtA.ofH {y : MethodName} {cc : ByteArray} {maxL fr lo : Nat} {ret : Option FieldType} {hh : List (Nat × Nat × Nat × Nat)} {ml : List Nat} {body : op_B} {Rl : List Value → List va_E → op_O → Prop} (hy : plainName y.cls = true)
    (hok : ∀ pc op, body pc = some op → ok2 fr lo maxL cc y.cls y.name ret (.codeWith y cc maxL ret hh) (tableOf hh) ml pc op) (hF : Of body maxL Rl) : CtA y (.codeWith y cc maxL ret hh) fr lo ml Rl := by
  intro l hl avs es o es' mc ms h D ct ad sz
  obtain ⟨hlen, n, hex⟩ := hF avs es _ h
  refine vx_ofWH (cc := cc) (maxL := maxL) (ret := ret) (hh := hh) hy rfl ?_
  intro p e s m args below meth c s₁ B hml hv
  obtain ⟨rfl, hsz, hP, hK, hD0, hG⟩ := hv
  subst hsz
  have hD := hD0.self (sz := s.heap.size)
  have hts := atoms_spec (ws := Cond.codeWith y cc maxL ret hh :: GW) B.pre
  have hown : s.vm.findClass y.cls = some m.cls := findClass_of_methodNamed B.named
  have hin : meth.name = y.name := (name_of_methodNamed B.named B.method).1
  have htb : c.exceptionTable.toList = tableOf hh := vx_table (x := y) B (hts _ List.mem_cons_self)
  rw [lg_entry_eq]
  have hl0 := lv_entry (rn_t ad avs) (n := maxL) (by rw [rn_sl]; exact hlen)
  rw [rn_args] at hl0
  exact ex_sound hok (n0 := es.length) ⟨B.exec, B.bytes, hml, hown, hts, fun q h => Or.inr h, hK, B.notSynchronized, hin, B.returns, hl, rfl, rfl, hG, htb⟩ (Nat.le_refl _) (Nat.le_refl _) n 0 (lv_args 0 avs) [] es 0 0 hex ad s.heap [] _ ⟨hP, hD, va_S.rf, fun _ h _ => h, fun _ _ => rfl⟩ hl0
