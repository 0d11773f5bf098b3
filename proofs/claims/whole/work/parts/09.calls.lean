/-- what a call gives -/
def rs_d (ml mlc : List Nat) (pc' : Nat) (lv : List (Nat × Value)) (rest : List Value) (pl : List Nat) (es : List va_E) (o : Option Value ⊕ String) (ec : List va_E) (mc ms : Nat) : Option (op_S ⊕ op_O) :=
  if ckc ml mlc pl es ec lv rest = true then (match o with
      | .inl v => some (.inl (pc', lv, v.toList ++ rest, pb pl es ec, mc, ms))
      | .inr E => some (.inr (.inr E, pb pl es ec, mc, ms))) else none
section Go9
variable {p : Program} {l : Launch} {e : Env} {R : Room} {s : State} {m : MethodId} {args : Array Value} {below : List Frame} {meth : Method} {c : Code} {A : Nat → Prop} {D : va_G} {ct : Nat → ClassId} {ad0 : Nat → Nat} {n0 nL : Nat} {H : Heap} {locs : List Loc} {cells slots mc ms pc : Nat} {ls : Array Slot} {ad : Nat → Nat} {es ec : List va_E} {lv : List (Nat × Value)} {rest st0 : List Value} {pl ml mlc : List Nat} {o : Option Value ⊕ String} {a : Array Value} {Q : State → Prop} {r : op_S ⊕ op_O}
theorem sl_sub (hS : Sm s A D ct ad0 n0 ml ad es H locs) (hA : ∀ q, s.heap.size ≤ q → A q) (hpl : ∀ p ∈ pl, p < es.length) (hlen : pl.length ≤ 1000) : ∀ q, va_A (rn_w (fun i => ad (frC pl es.length i)) ct (sl pl es)) H.size q → A q := by
  intro q h
  rcases h with ⟨k, x, h⟩ | h
  · obtain ⟨p9, -, h2⟩ := sl_world hpl hlen k _ h
    exact hS.2.1.2 p9 _ h2
  · exact hA q (Nat.le_trans hS.2.2.1.1 h)
theorem call_go (hr : vx_Run p l e R s m args below meth c H locs cells slots mc ms (F0 m pc ls st0) (rn_t ad rest) (qc D ct (fun i => ad (frC pl es.length i)) pl.length mlc (va_A (rn_w (fun i => ad (frC pl es.length i)) ct (sl pl es)) H.size) o ec a) (xc D ct (fun i => ad (frC pl es.length i)) pl.length mlc (va_A (rn_w (fun i => ad (frC pl es.length i)) ct (sl pl es)) H.size) o ec) (va_A (rn_w (fun i => ad (frC pl es.length i)) ct (sl pl es)) H.size))
    (hS : Sm s A D ct ad0 n0 ml ad es H locs) (hA : ∀ q, s.heap.size ≤ q → A q) (hl : lv_has ls nL (rn_l ad lv)) (hlocks : meth.locks = false) (htb : c.exceptionTable.toList = []) (ho : rs_d ml mlc (pc + 3) lv rest pl es o ec mc ms = some r)
    (hk : pt p l e R s m args below meth c A D ct ad0 n0 ml nL cells slots Q r) : W p l e R s m args below meth c H locs cells slots Q (F0 m pc ls st0) := by
  unfold rs_d at ho
  split at ho
  · rename_i hck
    obtain ⟨hP, hD, hSS, hn0, had⟩ := hS
    have hS : Sm s A D ct ad0 n0 ml ad es H locs := ⟨hP, hD, hSS, hn0, had⟩
    obtain ⟨h1, h2, h3, h4, h5, h6, h60, h7, h8, h9, h10⟩ := ck_facts hck
    have hAA := sl_sub hS hA h2 (by omega)
    have back : ∀ (t : State) (L : List Loc), wd D ct (fun i => ad (frC pl es.length i)) pl.length mlc (va_A (rn_w (fun i => ad (frC pl es.length i)) ct (sl pl es)) H.size) ec t → (∀ st₀ : State, st₀.heap = H → va_F (va_A (rn_w (fun i => ad (frC pl es.length i)) ct (sl pl es)) H.size) st₀ t → (∀ q ∈ L, va_A (rn_w (fun i => ad (frC pl es.length i)) ct (sl pl es)) H.size q.base) →
        ∃ ad' : Nat → Nat, Sm s A D ct ad0 n0 ml ad' (pb pl es ec) t.heap (locs ++ L) ∧ rn_l ad' lv = rn_l ad lv ∧ rn_t ad' rest = rn_t ad rest) := by
      intro t L hw st₀ h0 hF hL
      obtain ⟨ad2, had2, hl2, hP2, hD2⟩ := hw
      obtain ⟨hz, hkp⟩ := hF
      rw [h0] at hz hkp
      obtain ⟨b1, b2⟩ := world_back hP hD hck had2 hP2 hD2 hAA hkp
      obtain ⟨b3, b4⟩ := nad_lv (ad := ad) (ad2 := ad2) hck
      refine ⟨nad ad ad2 pl mlc es.length (ec.length - pl.length), ⟨b1, b2, ⟨Nat.le_trans hSS.1 hz, fun q g1 g2 => ?_, fun q hq => ?_⟩, fun i h1 h2 => by rw [pb_len h3]; exact Nat.lt_of_lt_of_le (hn0 i h1 h2) (Nat.le_add_right _ _), fun i hi => ?_⟩, b3, b4⟩
      · rw [hkp q (Nat.lt_of_lt_of_le g1 hSS.1) (fun z => g2 (hAA q z))]
        exact hSS.2.1 q g1 g2
      · rcases List.mem_append.mp hq with g | g
        · exact hSS.2.2 q g
        · exact hAA _ (hL q g)
      · have hi9 : i ∉ mvd pl mlc := by
          rcases hi with ⟨g1, g2⟩ | g1
          · exact fun hm => g2 (h10 i hm)
          · exact mvd_lt h2 (by omega)
        rw [nad_far (by
          rcases hi with ⟨g1, g2⟩ | g1
          · exact Or.inl (hn0 i g1 g2)
          · omega) hi9]
        exact had i hi
    intro T hT X
    rcases hr T hT X with ⟨v, st₀, t, T', L, h0, X', hL, e1, e2, ⟨v', rfl, hrf, hv, hw, hF⟩, st⟩ | ⟨q, st₀, t, T', L, E, ce, h0, X', hL, e1, e2, ⟨rfl, hw, hF⟩, hce, hcv, hcl, st⟩
    · cases hv
      cases ho
      obtain ⟨ad', g1, g2, g3⟩ := back t L hw st₀ h0 hF hL
      have hkk := hk.2.2 ad' T'.heap (locs ++ L) ls (by rw [e1]; exact g1) (by rw [g2]; exact hl)
      have e9 : rn_t ad' (v.toList ++ rest) = v.toList ++ rn_t ad rest := by
        show List.map (rn_v ad') (v.toList ++ rest) = _
        rw [List.map_append]
        show rn_t ad' v.toList ++ rn_t ad' rest = _
        rw [g3, rn_t_none hrf]
      rw [e9] at hkk
      obtain ⟨t2, a1, b1⟩ := hkk T' rfl X'
      exact ⟨t2, st t2 a1, b1⟩
    · cases ho
      obtain ⟨mc9, ms9, rfl, k1, k2, k3, k4⟩ := hk
      obtain ⟨ad', g1, g2, g3⟩ := back t L hw st₀ h0 hF hL
      have hvw : vx_W p l e R s m args below meth c T'.heap (locs ++ L) (cells + mc) (slots + ms) (vx_MQ below (qc D ct ad0 n0 ml A (.inr E) (pb pl es ec)) (xc D ct ad0 n0 ml A (.inr E) (pb pl es ec)) args s mc9 ms9 A) (F0 m pc ls (rn_t ad rest)) q :=
        vx_out (by rw [htb]; intro x hx9; cases hx9) hlocks (by rw [e1]; exact hce) hcv hcl (fun t3 ht3 _ => ⟨rfl, ⟨ad', g1.2.2.2.2, g1.2.2.2.1, by rw [ht3, e1]; exact g1.1, g1.2.1⟩, by rw [ht3, e1]; exact g1.2.2.1.1, fun q h1 h2 => by rw [ht3, e1]; exact g1.2.2.1.2.1 q h1 h2⟩) g1.2.2.1.2.2 k1 k2
      obtain ⟨t2, a1, b1⟩ := hvw T' rfl X'
      exact ⟨t2, st.trans a1, b1⟩
  · cases ho
/-- what the callee's start asks for -/
theorem pre_blind {sz : Nat} {av : List Value} {adc : Nat → Nat} {ec : List va_E} : FrameBlind (va_Pc av (pcw D ct adc ec sz)) := by
  intro a U g mk q
  obtain ⟨h1, h2, h3, h4, h5, h6⟩ := q
  exact ⟨h1, h2, h3, va_K.moved (u := U) (U := U.calling g mk a) (Vm.Alike.refl U.vm) h4, h5, GF.warm (s := U) (U := U.calling g mk a) (State.WarmedH.refl U) h6⟩
theorem rn_back (hlen : pl.length ≤ 1000) (as : List Value) : rn_t (fun i => ad (frC pl es.length i)) (rn_t (toC pl) as) = rn_t ad as := by
  show List.map _ (List.map _ as) = List.map _ as
  rw [List.map_map]
  refine List.map_congr_left fun v _ => ?_
  show rn_v _ (rn_v _ v) = _
  rw [rn_v_comp]
  exact rn_v_congr fun a _ => by rw [frC_toC hlen]
theorem pre_world (hS : Sm s A D ct ad0 n0 ml ad es H locs) (hA : ∀ q, s.heap.size ≤ q → A q) (hK : va_K D vwCl (tysF ct) s) (hG : GF ad0 A s s.heap) (hnd : va_nd pl = true) (hpl : ∀ p ∈ pl, p < es.length) (hlen : pl.length ≤ 1000) (U : State) (hU : U.heap = H) (hW : s.WarmedH U.vm) : pcw D ct (fun i => ad (frC pl es.length i)) (sl pl es) H.size U := by
  refine ⟨by rw [hU], fun k q hk => ?_, va_K.moved hW.alike hK, ⟨fun i j x y hi hj hxy => ?_, fun _ _ _ => trivial⟩, ?_⟩
  · obtain ⟨p9, -, h2⟩ := sl_world hpl hlen k _ hk
    rw [hU]
    exact hS.1 p9 q h2
  · obtain ⟨p9, g1, g2⟩ := sl_world hpl hlen i _ hi
    obtain ⟨p8, g3, g4⟩ := sl_world hpl hlen j _ hj
    have := hS.2.1.1 p9 p8 x y g2 g4 hxy
    subst this
    exact va_nd_inj pl hnd i j p9 g1 g3
  · have h1 : GF ad0 A s H := hG.kept hS.2.2.1.2.1
    have h2 := h1.narrow (sl_sub hS hA hpl hlen)
    have h3 := h2.re (ad' := fun i => ad (frC pl es.length i)) (fun i g1 g2 => by
      show ad (frC pl es.length i) = ad0 i
      rw [frC_out (by omega) g1, if_pos g2]
      exact hS.2.2.2.2 i (Or.inr g1))
    rw [hU]
    exact GF.warm hW h3
end Go9
theorem gd_M {hd cw : Cond} {ws : List Cond} (hcw : cw ∈ GW) (h : ∀ w ∈ ws, w ∈ GW) : GoodIn (hd :: GW) (ws ++ (cw :: GW)) := by
  intro w hw
  have hm : w ∈ GW := by
    rcases List.mem_append.mp hw with h1 | h1
    · exact h w h1
    · rcases List.mem_cons.mp h1 with rfl | h1
      · exact hcw
      · exact h1
  exact ⟨List.mem_cons_of_mem _ hm, good_of_word (GW_good hm)⟩
/-- a call of an instance method by its name; its receiver is a cell of the class ci -/
def o_callV (ml mlc : List Nat) (pc' k ci : Nat) (Rl : List Value → List va_E → op_O → Prop) : op_R := fun lv st es x =>
  ∃ (b : Nat) (as fs : List Value) (pl : List Nat) (o : Option Value ⊕ String) (ec : List va_E) (mc ms : Nat), (st.take (k + 1)).reverse = .ref b :: as ∧ as.length = k ∧ cs (st.drop (k + 1)) ≤ 8 ∧ es[b]? = some (.inr (ci, fs)) ∧
    Rl (rn_t (toC pl) (.ref b :: as)) (sl pl es) (o, ec, mc, ms) ∧ rs_d ml mlc pc' lv (st.drop (k + 1)) pl es o ec mc ms = some x
def o_callS (ml mlc : List Nat) (pc' k : Nat) (Rl : List Value → List va_E → op_O → Prop) : op_R := fun lv st es x =>
  ∃ (as : List Value) (pl : List Nat) (o : Option Value ⊕ String) (ec : List va_E) (mc ms : Nat), (st.take k).reverse = as ∧ as.length = k ∧ cs (st.drop k) ≤ 8 ∧
    Rl (rn_t (toC pl) as) (sl pl es) (o, ec, mc, ms) ∧ rs_d ml mlc pc' lv (st.drop k) pl es o ec mc ms = some x
def o_callI (ml mlc : List Nat) (pc' k : Nat) (Rl : List Value → List va_E → op_O → Prop) : op_R := fun lv st es x =>
  ∃ (b : Nat) (as : List Value) (pl : List Nat) (o : Option Value ⊕ String) (ec : List va_E) (mc ms : Nat), (st.take (k + 1)).reverse = .ref b :: as ∧ as.length = k ∧ cs (st.drop (k + 1)) ≤ 8 ∧
    Rl (rn_t (toC pl) (.ref b :: as)) (sl pl es) (o, ec, mc, ms) ∧ rs_d ml mlc pc' lv (st.drop (k + 1)) pl es o ec mc ms = some x
theorem rs_ck {ml mlc : List Nat} {pc' : Nat} {lv : List (Nat × Value)} {rest : List Value} {pl : List Nat} {es : List va_E} {o : Option Value ⊕ String} {ec : List va_E} {mc ms : Nat} {r : op_S ⊕ op_O} (h : rs_d ml mlc pc' lv rest pl es o ec mc ms = some r) : ckc ml mlc pl es ec lv rest = true := by
  unfold rs_d at h
  split at h
  · assumption
  · cases h
theorem pt_room {p : Program} {l : Launch} {e : Env} {R : Room} {s : State} {m : MethodId} {args : Array Value} {below : List Frame} {meth : Method} {c : Code} {A : Nat → Prop} {D : va_G} {ct : Nat → ClassId} {ad0 : Nat → Nat} {n0 nL cells slots : Nat} {Q : State → Prop} {ml mlc : List Nat} {pc' : Nat} {lv : List (Nat × Value)} {rest : List Value} {pl : List Nat} {es : List va_E} {o : Option Value ⊕ String} {ec : List va_E} {mc ms : Nat} {r : op_S ⊕ op_O} (h : rs_d ml mlc pc' lv rest pl es o ec mc ms = some r) (hk : pt p l e R s m args below meth c A D ct ad0 n0 ml nL cells slots Q r) : cells + mc ≤ R.cells ∧ slots + ms ≤ R.slots := by
  unfold rs_d at h
  split at h
  · cases o with
    | inl v => cases h; exact ⟨hk.1, hk.2.1⟩
    | inr E => cases h; obtain ⟨a, b, -, h1, h2, h3, h4⟩ := hk; exact ⟨by omega, by omega⟩
  · cases h
theorem st_split {ad : Nat → Nat} {st : List Value} {k : Nat} {as : List Value} (h : (st.take k).reverse = as) : rn_t ad st = (rn_t ad as).reverse ++ rn_t ad (st.drop k) := by
  subst h
  show List.map _ st = (List.map _ _).reverse ++ List.map _ _
  rw [← List.map_reverse, List.reverse_reverse, ← List.map_append, List.take_append_drop]
section Calls9
variable {fr lo nL : Nat} {cc : ByteArray} {own mn : String} {ret : Option FieldType} {hd : Cond} {pc : Nat}
variable {y : MethodName} {bytes : ByteArray} {maxL fr' lo' n ci index : Nat} {ret' : Option FieldType} {F : List Value → List va_E → op_O → Prop} {ml mlc : List Nat} {q9 : vw_C}
theorem s_callV (hM : CtA y (.code y bytes maxL ret') fr' lo' mlc F) (h1 : Cond.methodLink own index y ∈ GW) (h2 : Cond.instanceMethod y ∈ GW) (h3 : Cond.selects y.cls y y ∈ GW) (h4 : Cond.initialized y.cls ∈ GW) (h5 : Cond.code y bytes maxL ret' ∈ GW)
    (hdd : y.cls ≠ "java/lang/invoke/MethodHandle" ∧ y.cls ≠ "java/lang/invoke/VarHandle" ∧ (parseMethodDescriptor y.desc).map (fun d => d.parameters.length) = some n) (hc : vwCl[ci]? = some q9) (hq9 : q9.1 = y.cls) (hfr : fr' + 1 ≤ fr) (hlo : 8 + (maxL + 11) + lo' ≤ lo) (hdg : decode cc pc = .ok (.invokevirtual index, 3)) : ok0 fr lo nL cc own mn ret hd [] ml pc (o_callV ml mlc (pc + 3) n ci F) := by
  intro p l e R s m args below meth c A D ct ad0 n0 C lv st es r cells slots ad H locs ls Q ho hS hl hk
  obtain ⟨hx, hb, hml, hown, hts, hA, hK, hlocks, hmn, hr, htr, hRf, hRl, hG, htb⟩ := C
  obtain ⟨b, as, fs, pl, o, ec, mc, ms, hsp, hn9, hcs, he, hF, ho2⟩ := ho
  obtain ⟨c1, c2, c3, c4, -⟩ := ck_facts (rs_ck ho2)
  have hl1 : pl.length ≤ 1000 := by omega
  have hMet := hM l htr _ _ _ _ _ _ hF D ct (fun i => ad (frC pl es.length i)) H.size
  have e1 := rn_back (ad := ad) (es := es) hl1 (.ref b :: as)
  rw [e1] at hMet
  have e2 : (sl pl es).length = pl.length := by unfold sl; rw [List.length_map]
  rw [e2] at hMet
  have hrun := vx_runV (e := e) (below := below) (meth := meth) (locs := locs) (nL := nL) (own := own) (rest := rn_t ad (st.drop (n + 1))) (g := F0 m pc ls (rn_t ad st)) (As := rn_t ad as) (b := ad b) ⟨hx, hb, hml, hown, hts⟩ hMet (cwV n hts (gd_M (ws := [.methodLink own index y, .instanceMethod y, .selects y.cls y y, .initialized y.cls]) h5 (by intro w hw; simp only [List.mem_cons, List.not_mem_nil, or_false] at hw; rcases hw with rfl | rfl | rfl | rfl <;> assumption)) rfl rfl rfl ⟨rfl, hdd.1, hdd.2.1, hdd.2.2⟩ ⟨by show fr' + 1 ≤ R.frames; omega, by show 8 + (maxL + 11) + lo' ≤ R.locals; omega⟩)
    ⟨pre_blind, by rw [← hq9]; exact va_recv hK hS.1 hc (rn_w_at he), fun U hU hW => ⟨rfl, pre_world hS hA hK hG c1 c2 hl1 U hU hW⟩⟩ rfl (by show (List.map _ as).length = n; rw [List.length_map]; exact hn9) hl.1 (by
      show rn_t ad st = _
      rw [st_split (ad := ad) hsp]
      show (Value.ref (ad b) :: rn_t ad as).reverse ++ _ = _
      rw [List.reverse_cons, List.append_assoc]; rfl) (lv_room (by rw [rn_t_cat]; exact hcs)) hdg (pt_room ho2 hk)
  exact call_go hrun hS hA hl hlocks htb ho2 hk
theorem s_callVN {host : String} (hM : CtA y (.code y bytes maxL ret') fr' lo' mlc F) (h1 : (own, index, y, host) ∈ nestL) (h2 : Cond.instanceMethod y ∈ GW) (h3 : Cond.selects y.cls y y ∈ GW) (h4 : Cond.initialized y.cls ∈ GW) (h5 : Cond.code y bytes maxL ret' ∈ GW)
    (hdd : y.cls ≠ "java/lang/invoke/MethodHandle" ∧ y.cls ≠ "java/lang/invoke/VarHandle" ∧ (parseMethodDescriptor y.desc).map (fun d => d.parameters.length) = some n) (hc : vwCl[ci]? = some q9) (hq9 : q9.1 = y.cls) (hfr : fr' + 1 ≤ fr) (hlo : 8 + (maxL + 11) + lo' ≤ lo) (hdg : decode cc pc = .ok (.invokevirtual index, 3)) : ok0 fr lo nL cc own mn ret hd [] ml pc (o_callV ml mlc (pc + 3) n ci F) := by
  intro p l e R s m args below meth c A D ct ad0 n0 C lv st es r cells slots ad H locs ls Q ho hS hl hk
  obtain ⟨hx, hb, hml, hown, hts, hA, hK, hlocks, hmn, hr, htr, hRf, hRl, hG, htb⟩ := C
  obtain ⟨b, as, fs, pl, o, ec, mc, ms, hsp, hn9, hcs, he, hF, ho2⟩ := ho
  obtain ⟨c1, c2, c3, c4, -⟩ := ck_facts (rs_ck ho2)
  have hl1 : pl.length ≤ 1000 := by omega
  have hMet := hM l htr _ _ _ _ _ _ hF D ct (fun i => ad (frC pl es.length i)) H.size
  have e1 := rn_back (ad := ad) (es := es) hl1 (.ref b :: as)
  rw [e1] at hMet
  have e2 : (sl pl es).length = pl.length := by unfold sl; rw [List.length_map]
  rw [e2] at hMet
  have hrun := vx_runVN (e := e) (below := below) (meth := meth) (locs := locs) (nL := nL) (own := own) (C := y.cls) (rest := rn_t ad (st.drop (n + 1))) (g := F0 m pc ls (rn_t ad st)) (As := rn_t ad as) (b := ad b) ⟨hx, hb, hml, hown, hts⟩ hMet ⟨va_cnB n hts (gd_M (ws := []) h5 (fun w hw => by cases hw)) rfl rfl rfl (hG.1.1 _ h1) (hts _ (List.mem_cons_of_mem _ h4)) hdd ⟨by show fr' + 1 ≤ R.frames; omega, by show 8 + (maxL + 11) + lo' ≤ R.locals; omega⟩, hts _ (List.mem_cons_of_mem _ h2), hts _ (List.mem_cons_of_mem _ h3)⟩
    ⟨pre_blind, by rw [← hq9]; exact va_recv hK hS.1 hc (rn_w_at he), fun U hU hW => ⟨rfl, pre_world hS hA hK hG c1 c2 hl1 U hU hW⟩⟩ rfl (by show (List.map _ as).length = n; rw [List.length_map]; exact hn9) hl.1 (by
      show rn_t ad st = _
      rw [st_split (ad := ad) hsp]
      show (Value.ref (ad b) :: rn_t ad as).reverse ++ _ = _
      rw [List.reverse_cons, List.append_assoc]; rfl) (lv_room (by rw [rn_t_cat]; exact hcs)) hdg (pt_room ho2 hk)
  exact call_go hrun hS hA hl hlocks htb ho2 hk
theorem s_callS (hM : CtA y (.code y bytes maxL ret') fr' lo' mlc F) (h1 : Cond.methodLink own index y ∈ GW) (h2 : Cond.static y ∈ GW) (h4 : Cond.initialized y.cls ∈ GW) (h5 : Cond.code y bytes maxL ret' ∈ GW)
    (hdd : y.cls ≠ "java/lang/invoke/MethodHandle" ∧ y.cls ≠ "java/lang/invoke/VarHandle" ∧ (parseMethodDescriptor y.desc).map (fun d => d.parameters.length) = some n) (hfr : fr' + 1 ≤ fr) (hlo : 8 + (maxL + 11) + lo' ≤ lo) (hdg : decode cc pc = .ok (.invokestatic index, 3)) : ok0 fr lo nL cc own mn ret hd [] ml pc (o_callS ml mlc (pc + 3) n F) := by
  intro p l e R s m args below meth c A D ct ad0 n0 C lv st es r cells slots ad H locs ls Q ho hS hl hk
  obtain ⟨hx, hb, hml, hown, hts, hA, hK, hlocks, hmn, hr, htr, hRf, hRl, hG, htb⟩ := C
  obtain ⟨as, pl, o, ec, mc, ms, hsp, hn9, hcs, hF, ho2⟩ := ho
  obtain ⟨c1, c2, c3, c4, -⟩ := ck_facts (rs_ck ho2)
  have hl1 : pl.length ≤ 1000 := by omega
  have hMet := hM l htr _ _ _ _ _ _ hF D ct (fun i => ad (frC pl es.length i)) H.size
  have e1 := rn_back (ad := ad) (es := es) hl1 as
  rw [e1] at hMet
  have e2 : (sl pl es).length = pl.length := by unfold sl; rw [List.length_map]
  rw [e2] at hMet
  have hrun := vx_runS (e := e) (below := below) (meth := meth) (locs := locs) (nL := nL) (own := own) (rest := rn_t ad (st.drop n)) (g := F0 m pc ls (rn_t ad st)) (As := rn_t ad as) ⟨hx, hb, hml, hown, hts⟩ hMet (va_cwS n hts (gd_M (ws := [.methodLink own index y, .static y, .initialized y.cls]) h5 (by intro w hw; simp only [List.mem_cons, List.not_mem_nil, or_false] at hw; rcases hw with rfl | rfl | rfl <;> assumption)) rfl rfl rfl hdd ⟨by show fr' + 1 ≤ R.frames; omega, by show 8 + (maxL + 11) + lo' ≤ R.locals; omega⟩)
    ⟨pre_blind, fun U hU hW => ⟨rfl, pre_world hS hA hK hG c1 c2 hl1 U hU hW⟩⟩ rfl (by show (List.map _ as).length = n; rw [List.length_map]; exact hn9) hl.1 (by
      show rn_t ad st = _
      rw [st_split (ad := ad) (k := n) hsp]) (lv_room (by rw [rn_t_cat]; exact hcs)) hdg (pt_room ho2 hk)
  exact call_go hrun hS hA hl hlocks htb ho2 hk
theorem s_callSN {host : String} (hM : CtA y (.code y bytes maxL ret') fr' lo' mlc F) (h1 : (own, index, y, host) ∈ nestL) (h2 : Cond.static y ∈ GW) (h4 : Cond.initialized y.cls ∈ GW) (h5 : Cond.code y bytes maxL ret' ∈ GW)
    (hdd : y.cls ≠ "java/lang/invoke/MethodHandle" ∧ y.cls ≠ "java/lang/invoke/VarHandle" ∧ (parseMethodDescriptor y.desc).map (fun d => d.parameters.length) = some n) (hfr : fr' + 1 ≤ fr) (hlo : 8 + (maxL + 11) + lo' ≤ lo) (hdg : decode cc pc = .ok (.invokestatic index, 3)) : ok0 fr lo nL cc own mn ret hd [] ml pc (o_callS ml mlc (pc + 3) n F) := by
  intro p l e R s m args below meth c A D ct ad0 n0 C lv st es r cells slots ad H locs ls Q ho hS hl hk
  obtain ⟨hx, hb, hml, hown, hts, hA, hK, hlocks, hmn, hr, htr, hRf, hRl, hG, htb⟩ := C
  obtain ⟨as, pl, o, ec, mc, ms, hsp, hn9, hcs, hF, ho2⟩ := ho
  obtain ⟨c1, c2, c3, c4, -⟩ := ck_facts (rs_ck ho2)
  have hl1 : pl.length ≤ 1000 := by omega
  have hMet := hM l htr _ _ _ _ _ _ hF D ct (fun i => ad (frC pl es.length i)) H.size
  have e1 := rn_back (ad := ad) (es := es) hl1 as
  rw [e1] at hMet
  have e2 : (sl pl es).length = pl.length := by unfold sl; rw [List.length_map]
  rw [e2] at hMet
  have hrun := vx_runSN (e := e) (below := below) (meth := meth) (locs := locs) (nL := nL) (own := own) (rest := rn_t ad (st.drop n)) (g := F0 m pc ls (rn_t ad st)) (As := rn_t ad as) ⟨hx, hb, hml, hown, hts⟩ hMet ⟨va_cnB n hts (gd_M (ws := []) h5 (fun w hw => by cases hw)) rfl rfl rfl (hG.1.1 _ h1) (hts _ (List.mem_cons_of_mem _ h4)) hdd ⟨by show fr' + 1 ≤ R.frames; omega, by show 8 + (maxL + 11) + lo' ≤ R.locals; omega⟩, hts _ (List.mem_cons_of_mem _ h2), trivial⟩
    ⟨pre_blind, fun U hU hW => ⟨rfl, pre_world hS hA hK hG c1 c2 hl1 U hU hW⟩⟩ rfl (by show (List.map _ as).length = n; rw [List.length_map]; exact hn9) hl.1 (by
      show rn_t ad st = _
      rw [st_split (ad := ad) (k := n) hsp]) (lv_room (by rw [rn_t_cat]; exact hcs)) hdg (pt_room ho2 hk)
  exact call_go hrun hS hA hl hlocks htb ho2 hk
theorem s_callI (hM : CtA y (.code y bytes maxL none) fr' lo' mlc F) (hyn : y.name = "<init>") (h1 : Cond.methodLink own index y ∈ GW) (h2 : Cond.instanceMethod y ∈ GW) (h4 : Cond.initialized y.cls ∈ GW) (h5 : Cond.code y bytes maxL none ∈ GW)
    (hdd : y.cls ≠ "java/lang/invoke/MethodHandle" ∧ y.cls ≠ "java/lang/invoke/VarHandle" ∧ (parseMethodDescriptor y.desc).map (fun d => d.parameters.length) = some n) (hfr : fr' + 1 ≤ fr) (hlo : 8 + (maxL + 11) + lo' ≤ lo) (hdg : decode cc pc = .ok (.invokespecial index, 3)) : ok0 fr lo nL cc own mn ret hd [] ml pc (o_callI ml mlc (pc + 3) n F) := by
  intro p l e R s m args below meth c A D ct ad0 n0 C lv st es r cells slots ad H locs ls Q ho hS hl hk
  obtain ⟨hx, hb, hml, hown, hts, hA, hK, hlocks, hmn, hr, htr, hRf, hRl, hG, htb⟩ := C
  obtain ⟨b, as, pl, o, ec, mc, ms, hsp, hn9, hcs, hF, ho2⟩ := ho
  obtain ⟨c1, c2, c3, c4, -⟩ := ck_facts (rs_ck ho2)
  have hl1 : pl.length ≤ 1000 := by omega
  have hMet := hM l htr _ _ _ _ _ _ hF D ct (fun i => ad (frC pl es.length i)) H.size
  have e1 := rn_back (ad := ad) (es := es) hl1 (.ref b :: as)
  rw [e1] at hMet
  have e2 : (sl pl es).length = pl.length := by unfold sl; rw [List.length_map]
  rw [e2] at hMet
  have hrun := vx_runI (e := e) (below := below) (meth := meth) (locs := locs) (nL := nL) (own := own) (rest := rn_t ad (st.drop (n + 1))) (g := F0 m pc ls (rn_t ad st)) (As := rn_t ad as) (b := ad b) ⟨hx, hb, hml, hown, hts⟩ hMet (cwI n hts (gd_M (ws := []) h5 (fun w hw => by cases hw)) rfl rfl rfl (hts _ (List.mem_cons_of_mem _ h4)) (hts _ (List.mem_cons_of_mem _ h1)) (hts _ (List.mem_cons_of_mem _ h2)) hyn hdd ⟨by show fr' + 1 ≤ R.frames; omega, by show 8 + (maxL + 11) + lo' ≤ R.locals; omega⟩)
    ⟨pre_blind, fun U hU hW => ⟨rfl, pre_world hS hA hK hG c1 c2 hl1 U hU hW⟩⟩ rfl (by show (List.map _ as).length = n; rw [List.length_map]; exact hn9) hl.1 (by
      show rn_t ad st = _
      rw [st_split (ad := ad) hsp]
      show (Value.ref (ad b) :: rn_t ad as).reverse ++ _ = _
      rw [List.reverse_cons, List.append_assoc]; rfl) (lv_room (by rw [rn_t_cat]; exact hcs)) hdg (pt_room ho2 hk)
  exact call_go hrun hS hA hl hlocks htb ho2 hk
theorem s_callIN {host : String} (hM : CtA y (.code y bytes maxL none) fr' lo' mlc F) (hyn : y.name = "<init>") (h1 : (own, index, y, host) ∈ nestL) (h2 : Cond.instanceMethod y ∈ GW) (h4 : Cond.initialized y.cls ∈ GW) (h5 : Cond.code y bytes maxL none ∈ GW)
    (hdd : y.cls ≠ "java/lang/invoke/MethodHandle" ∧ y.cls ≠ "java/lang/invoke/VarHandle" ∧ (parseMethodDescriptor y.desc).map (fun d => d.parameters.length) = some n) (hfr : fr' + 1 ≤ fr) (hlo : 8 + (maxL + 11) + lo' ≤ lo) (hdg : decode cc pc = .ok (.invokespecial index, 3)) : ok0 fr lo nL cc own mn ret hd [] ml pc (o_callI ml mlc (pc + 3) n F) := by
  intro p l e R s m args below meth c A D ct ad0 n0 C lv st es r cells slots ad H locs ls Q ho hS hl hk
  obtain ⟨hx, hb, hml, hown, hts, hA, hK, hlocks, hmn, hr, htr, hRf, hRl, hG, htb⟩ := C
  obtain ⟨b, as, pl, o, ec, mc, ms, hsp, hn9, hcs, hF, ho2⟩ := ho
  obtain ⟨c1, c2, c3, c4, -⟩ := ck_facts (rs_ck ho2)
  have hl1 : pl.length ≤ 1000 := by omega
  have hMet := hM l htr _ _ _ _ _ _ hF D ct (fun i => ad (frC pl es.length i)) H.size
  have e1 := rn_back (ad := ad) (es := es) hl1 (.ref b :: as)
  rw [e1] at hMet
  have e2 : (sl pl es).length = pl.length := by unfold sl; rw [List.length_map]
  rw [e2] at hMet
  have hrun := vx_runIN (e := e) (below := below) (meth := meth) (locs := locs) (nL := nL) (own := own) (rest := rn_t ad (st.drop (n + 1))) (g := F0 m pc ls (rn_t ad st)) (As := rn_t ad as) (b := ad b) ⟨hx, hb, hml, hown, hts⟩ hMet ⟨va_cnB n hts (gd_M (ws := []) h5 (fun w hw => by cases hw)) rfl rfl rfl (hG.1.1 _ h1) (hts _ (List.mem_cons_of_mem _ h4)) hdd ⟨by show fr' + 1 ≤ R.frames; omega, by show 8 + (maxL + 11) + lo' ≤ R.locals; omega⟩, hyn, hts _ (List.mem_cons_of_mem _ h2)⟩
    ⟨pre_blind, fun U hU hW => ⟨rfl, pre_world hS hA hK hG c1 c2 hl1 U hU hW⟩⟩ rfl (by show (List.map _ as).length = n; rw [List.length_map]; exact hn9) hl.1 (by
      show rn_t ad st = _
      rw [st_split (ad := ad) hsp]
      show (Value.ref (ad b) :: rn_t ad as).reverse ++ _ = _
      rw [List.reverse_cons, List.append_assoc]; rfl) (lv_room (by rw [rn_t_cat]; exact hcs)) hdg (pt_room ho2 hk)
  exact call_go hrun hS hA hl hlocks htb ho2 hk
end Calls9
