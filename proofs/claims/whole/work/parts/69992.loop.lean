/-! THE LAW'S LOOP, ITS START, ITS END -/
abbrev LZ : Type := Int32 × Nat × Nat × RdS × NiS × NiS × PrS × Int32 × Int32 × (Nat → NiS) × (Nat → PrS) × ReS × ReS × PlS × DeS × Int32 × (Nat → Int32) × (Nat → Int32) × (Nat → Int32) × Int32 × Int32 × (Nat → Int32) × Int32 × Int32 × Int32 × Int32 × Int32 × Int32 × Int32 × Int32 × Int64 × Int32 × Int32 × (Nat → Int32) × (Nat → Int32) × (Nat → Int32) × (Nat → Int64) × (Nat → Int32) × Int32 × Int32 × (Nat → Int64) × (Nat → Int64) × (Nat → Int64) × (Nat → Int64) × (Nat → Int64) × (Nat → Int64) × (Nat → Int64) × (Nat → Int64) × (Nat → Int64) × (Nat → Int64) × Int32 × Int32 × (Nat → Int64)
def LQ (z : LZ) : Prop := z.2.1 ≤ 601024 ∧ z.2.2.1 ≤ 7293034
theorem ex_ite {c : Prop} {inst : Decidable c} {A B : Option LZ} (h1 : c → ∃ z, A = some z ∧ LQ z) (h2 : ¬ c → ∃ z, B = some z ∧ LQ z) : ∃ z, (@ite _ c inst A B) = some z ∧ LQ z := by
  by_cases c
  · rename_i h
    rw [if_pos h]
    exact h1 h
  · rename_i h
    rw [if_neg h]
    exact h2 h
theorem ex_ob {β : Type} {x : Option β} {y : β} {f : β → Option LZ} (h : x = some y) (h2 : ∃ z, f y = some z ∧ LQ z) : ∃ z, ob x f = some z ∧ LQ z := by
  rw [ob_eq h]
  exact h2
theorem LI_next {K kc ks : Nat} {vr : RdS} {vn : NiS} {vg : PrS} {vhn vhs : Int32} {vhN : Nat → NiS} {vhP : Nat → PrS} {vt vu : ReS} {vp : PlS} {vq : DeS} {ve : Int32} {m_a m_kept : Nat → Int32} {m_keptMany : Int32} {m_buffer : Nat → Int32} {m_buffered m_errorAt m_fixedSlot m_giving m_givenTarget : Int32} (h : LI K kc ks vr vn vg vhn vhs vhN vhP vt vu vp vq ve m_a m_kept m_keptMany m_buffer m_buffered m_errorAt m_fixedSlot m_giving m_givenTarget) : LI (K + 1) kc ks vr vn vg vhn vhs vhN vhP vt vu vp vq ve m_a m_kept m_keptMany m_buffer m_buffered m_errorAt m_fixedSlot m_giving m_givenTarget := by
  obtain ⟨h1, h2, h3, h4, h5, h6, h7, h8⟩ := h
  exact ⟨h1, h2, h3, h4, h5, h6, by omega, by omega⟩
theorem LI_end {K kc ks : Nat} {vr : RdS} {vn : NiS} {vg : PrS} {vhn vhs : Int32} {vhN : Nat → NiS} {vhP : Nat → PrS} {vt vu : ReS} {vp : PlS} {vq : DeS} {ve : Int32} {m_a m_kept : Nat → Int32} {m_keptMany : Int32} {m_buffer : Nat → Int32} {m_buffered m_errorAt m_fixedSlot m_giving m_givenTarget : Int32} (h : LI K kc ks vr vn vg vhn vhs vhN vhP vt vu vp vq ve m_a m_kept m_keptMany m_buffer m_buffered m_errorAt m_fixedSlot m_giving m_givenTarget) (hK : 6 * K ≤ 3072) : kc ≤ 601024 ∧ ks ≤ 7293034 := by
  obtain ⟨h1, ⟨S, N, P, s0, hr, hc⟩, h3, h4, h5, h6, h7, h8⟩ := h
  have := wg_le hc
  omega
theorem sub6 {n : Nat} (hn : n ≤ 3072) : (nI n - (6 : Int32)).toInt = (n : Int) - 6 := by
  have e6 : (6 : Int32).toInt = 6 := by decide
  rw [fb_subI (by rw [nI_toInt (by omega), e6]; omega) (by rw [nI_toInt (by omega), e6]; omega), nI_toInt (by omega), e6]
theorem law_loop {sN : Nat} {sF : Nat → Int32} (hsN : sN ≤ 3072) : ∀ (fu K : Nat) (kc : Nat) (ks : Nat) (vr : RdS) (vd : NiS) (vn : NiS) (vg : PrS) (vhn : Int32) (vhs : Int32) (vhN : (Nat → NiS)) (vhP : (Nat → PrS)) (vt : ReS) (vu : ReS) (vp : PlS) (vq : DeS) (ve : Int32) (m_a : (Nat → Int32)) (m_fresh : (Nat → Int32)) (m_kept : (Nat → Int32)) (m_keptMany : Int32) (m_thrown : Int32) (m_buffer : (Nat → Int32)) (m_buffered : Int32) (m_size : Int32) (m_at : Int32) (m_behind : Int32) (m_kind : Int32) (m_wrong : Int32) (m_wrongAt : Int32) (m_errorAt : Int32) (m_number : Int64) (m_hasMoon : Int32) (m_hasSky : Int32) (m_turnsBy : (Nat → Int32)) (m_inTurnAt : (Nat → Int32)) (m_isState : (Nat → Int32)) (m_best : (Nat → Int64)) (m_seen : (Nat → Int32)) (m_fixedSlot : Int32) (m_fixedTarget : Int32) (m_ways : (Nat → Int64)) (m_waysNow : (Nat → Int64)) (m_clears : (Nat → Int64)) (m_clouds : (Nat → Int64)) (m_clearsNow : (Nat → Int64)) (m_cloudsNow : (Nat → Int64)) (m_givesClear : (Nat → Int64)) (m_givesCloudy : (Nat → Int64)) (m_givesClearNow : (Nat → Int64)) (m_givesCloudyNow : (Nat → Int64)) (m_giving : Int32) (m_givenTarget : Int32) (vo : (Nat → Int64)), 6 * K ≤ 3072 → 512 - K < fu → LI K kc ks vr vn vg vhn vhs vhN vhP vt vu vp vq ve m_a m_kept m_keptMany m_buffer m_buffered m_errorAt m_fixedSlot m_giving m_givenTarget → ∃ z, lpL_law_1999_23 sN sF fu (nI (6 * K)) kc ks vr vd vn vg vhn vhs vhN vhP vt vu vp vq ve m_a m_fresh m_kept m_keptMany m_thrown m_buffer m_buffered m_size m_at m_behind m_kind m_wrong m_wrongAt m_errorAt m_number m_hasMoon m_hasSky m_turnsBy m_inTurnAt m_isState m_best m_seen m_fixedSlot m_fixedTarget m_ways m_waysNow m_clears m_clouds m_clearsNow m_cloudsNow m_givesClear m_givesCloudy m_givesClearNow m_givesCloudyNow m_giving m_givenTarget vo = some z ∧ LQ z
  | 0, _, _, _, _, _, _, _, _, _, _, _, _, _, _, _, _, _, _, _, _, _, _, _, _, _, _, _, _, _, _, _, _, _, _, _, _, _, _, _, _, _, _, _, _, _, _, _, _, _, _, _, _, _, _, h, _ => by omega
  | fu + 1, K, kc, ks, vr, vd, vn, vg, vhn, vhs, vhN, vhP, vt, vu, vp, vq, ve, m_a, m_fresh, m_kept, m_keptMany, m_thrown, m_buffer, m_buffered, m_size, m_at, m_behind, m_kind, m_wrong, m_wrongAt, m_errorAt, m_number, m_hasMoon, m_hasSky, m_turnsBy, m_inTurnAt, m_isState, m_best, m_seen, m_fixedSlot, m_fixedTarget, m_ways, m_waysNow, m_clears, m_clouds, m_clearsNow, m_cloudsNow, m_givesClear, m_givesCloudy, m_givesClearNow, m_givesCloudyNow, m_giving, m_givenTarget, vo, hK, hf, hI => by
    have e6 : nI (6 * K) + (6 : Int32) = nI (6 * (K + 1)) := adds (p := 6 * K) (k := 6) rfl rfl (by omega)
    unfold lpL_law_1999_23
    rw [e6, clampN (x := nI (6 * K)) rfl (by omega)]
    refine ex_ite (fun _ => ⟨_, rfl, LI_end hI hK⟩) (fun hlt => ?_)
    have h1 : 6 * K + 6 ≤ sN := by
      rw [fa_lt, sub6 hsN, nI_toInt (by omega)] at hlt
      omega
    have hK2 : 6 * (K + 1) ≤ 3072 := by omega
    refine ex_ite (fun h => absurd h (nI_inb (by omega) (by omega))) (fun _ => ?_)
    refine ex_ite (fun _ => ?_) (fun _ => ?_)
    · obtain ⟨z, hz, hz2⟩ := law0 (sF := sF) h1 hsN hI
      exact ex_ob hz (law_loop hsN fu (K + 1) _ _ _ _ _ _ _ _ _ _ _ _ _ _ _ _ _ _ _ _ _ _ _ _ _ _ _ _ _ _ _ _ _ _ _ _ _ _ _ _ _ _ _ _ _ _ _ _ _ _ _ _ hK2 (by omega) hz2)
    refine ex_ite (fun _ => ?_) (fun _ => ?_)
    · obtain ⟨z, hz, hz2⟩ := law1 (sF := sF) h1 hsN hI
      exact ex_ob hz (law_loop hsN fu (K + 1) _ _ _ _ _ _ _ _ _ _ _ _ _ _ _ _ _ _ _ _ _ _ _ _ _ _ _ _ _ _ _ _ _ _ _ _ _ _ _ _ _ _ _ _ _ _ _ _ _ _ _ _ hK2 (by omega) hz2)
    refine ex_ite (fun _ => ?_) (fun _ => ?_)
    · obtain ⟨z, hz, hz2⟩ := law2 (sF := sF) h1 hsN hI
      exact ex_ob hz (law_loop hsN fu (K + 1) _ _ _ _ _ _ _ _ _ _ _ _ _ _ _ _ _ _ _ _ _ _ _ _ _ _ _ _ _ _ _ _ _ _ _ _ _ _ _ _ _ _ _ _ _ _ _ _ _ _ _ _ hK2 (by omega) hz2)
    refine ex_ite (fun _ => ?_) (fun _ => ?_)
    · obtain ⟨z, hz, hz2⟩ := law3 (sF := sF) h1 hsN hI
      exact ex_ob hz (law_loop hsN fu (K + 1) _ _ _ _ _ _ _ _ _ _ _ _ _ _ _ _ _ _ _ _ _ _ _ _ _ _ _ _ _ _ _ _ _ _ _ _ _ _ _ _ _ _ _ _ _ _ _ _ _ _ _ _ hK2 (by omega) hz2)
    refine ex_ite (fun _ => ?_) (fun _ => ?_)
    · obtain ⟨z, hz, hz2⟩ := law4 (sF := sF) h1 hsN hI
      exact ex_ob hz (law_loop hsN fu (K + 1) _ _ _ _ _ _ _ _ _ _ _ _ _ _ _ _ _ _ _ _ _ _ _ _ _ _ _ _ _ _ _ _ _ _ _ _ _ _ _ _ _ _ _ _ _ _ _ _ _ _ _ _ hK2 (by omega) hz2)
    refine ex_ite (fun _ => ?_) (fun _ => ?_)
    · obtain ⟨z, hz, hz2⟩ := law5 (sF := sF) h1 hsN hI
      exact ex_ob hz (law_loop hsN fu (K + 1) _ _ _ _ _ _ _ _ _ _ _ _ _ _ _ _ _ _ _ _ _ _ _ _ _ _ _ _ _ _ _ _ _ _ _ _ _ _ _ _ _ _ _ _ _ _ _ _ _ _ _ _ hK2 (by omega) hz2)
    refine ex_ite (fun _ => ?_) (fun _ => ?_)
    · obtain ⟨z, hz, hz2⟩ := law6 (sF := sF) h1 hsN hI
      exact ex_ob hz (law_loop hsN fu (K + 1) _ _ _ _ _ _ _ _ _ _ _ _ _ _ _ _ _ _ _ _ _ _ _ _ _ _ _ _ _ _ _ _ _ _ _ _ _ _ _ _ _ _ _ _ _ _ _ _ _ _ _ _ hK2 (by omega) hz2)
    refine ex_ite (fun _ => ?_) (fun _ => ?_)
    · obtain ⟨z, hz, hz2⟩ := law7 (sF := sF) h1 hsN hI
      exact ex_ob hz (law_loop hsN fu (K + 1) _ _ _ _ _ _ _ _ _ _ _ _ _ _ _ _ _ _ _ _ _ _ _ _ _ _ _ _ _ _ _ _ _ _ _ _ _ _ _ _ _ _ _ _ _ _ _ _ _ _ _ _ hK2 (by omega) hz2)
    refine ex_ite (fun _ => ?_) (fun _ => ?_)
    · obtain ⟨z, hz, hz2⟩ := law8 (sF := sF) h1 hsN hI
      exact ex_ob hz (law_loop hsN fu (K + 1) _ _ _ _ _ _ _ _ _ _ _ _ _ _ _ _ _ _ _ _ _ _ _ _ _ _ _ _ _ _ _ _ _ _ _ _ _ _ _ _ _ _ _ _ _ _ _ _ _ _ _ _ hK2 (by omega) hz2)
    refine ex_ite (fun _ => ?_) (fun _ => ?_)
    · obtain ⟨z, hz, hz2⟩ := law9 (sF := sF) h1 hsN hI
      exact ex_ob hz (law_loop hsN fu (K + 1) _ _ _ _ _ _ _ _ _ _ _ _ _ _ _ _ _ _ _ _ _ _ _ _ _ _ _ _ _ _ _ _ _ _ _ _ _ _ _ _ _ _ _ _ _ _ _ _ _ _ _ _ hK2 (by omega) hz2)
    refine ex_ite (fun _ => ?_) (fun _ => ?_)
    · obtain ⟨z, hz, hz2⟩ := law10 (sF := sF) h1 hsN hI
      exact ex_ob hz (law_loop hsN fu (K + 1) _ _ _ _ _ _ _ _ _ _ _ _ _ _ _ _ _ _ _ _ _ _ _ _ _ _ _ _ _ _ _ _ _ _ _ _ _ _ _ _ _ _ _ _ _ _ _ _ _ _ _ _ hK2 (by omega) hz2)
    refine ex_ite (fun _ => ?_) (fun _ => ?_)
    · obtain ⟨z, hz, hz2⟩ := law11 (sF := sF) h1 hsN hI
      exact ex_ob hz (law_loop hsN fu (K + 1) _ _ _ _ _ _ _ _ _ _ _ _ _ _ _ _ _ _ _ _ _ _ _ _ _ _ _ _ _ _ _ _ _ _ _ _ _ _ _ _ _ _ _ _ _ _ _ _ _ _ _ _ hK2 (by omega) hz2)
    refine ex_ite (fun _ => ?_) (fun _ => ?_)
    · obtain ⟨z, hz, hz2⟩ := law12 (sF := sF) h1 hsN hI
      exact ex_ob hz (law_loop hsN fu (K + 1) _ _ _ _ _ _ _ _ _ _ _ _ _ _ _ _ _ _ _ _ _ _ _ _ _ _ _ _ _ _ _ _ _ _ _ _ _ _ _ _ _ _ _ _ _ _ _ _ _ _ _ _ hK2 (by omega) hz2)
    refine ex_ite (fun _ => ?_) (fun _ => ?_)
    · obtain ⟨z, hz, hz2⟩ := law13 (sF := sF) h1 hsN hI
      exact ex_ob hz (law_loop hsN fu (K + 1) _ _ _ _ _ _ _ _ _ _ _ _ _ _ _ _ _ _ _ _ _ _ _ _ _ _ _ _ _ _ _ _ _ _ _ _ _ _ _ _ _ _ _ _ _ _ _ _ _ _ _ _ hK2 (by omega) hz2)
    refine ex_ite (fun _ => ?_) (fun _ => ?_)
    · obtain ⟨z, hz, hz2⟩ := law14 (sF := sF) h1 hsN hI
      exact ex_ob hz (law_loop hsN fu (K + 1) _ _ _ _ _ _ _ _ _ _ _ _ _ _ _ _ _ _ _ _ _ _ _ _ _ _ _ _ _ _ _ _ _ _ _ _ _ _ _ _ _ _ _ _ _ _ _ _ _ _ _ _ hK2 (by omega) hz2)
    refine ex_ite (fun _ => ?_) (fun _ => ?_)
    · obtain ⟨z, hz, hz2⟩ := law15 (sF := sF) h1 hsN hI
      exact ex_ob hz (law_loop hsN fu (K + 1) _ _ _ _ _ _ _ _ _ _ _ _ _ _ _ _ _ _ _ _ _ _ _ _ _ _ _ _ _ _ _ _ _ _ _ _ _ _ _ _ _ _ _ _ _ _ _ _ _ _ _ _ hK2 (by omega) hz2)
    refine ex_ite (fun _ => ?_) (fun _ => ?_)
    · obtain ⟨z, hz, hz2⟩ := law16 (sF := sF) h1 hsN hI
      exact ex_ob hz (law_loop hsN fu (K + 1) _ _ _ _ _ _ _ _ _ _ _ _ _ _ _ _ _ _ _ _ _ _ _ _ _ _ _ _ _ _ _ _ _ _ _ _ _ _ _ _ _ _ _ _ _ _ _ _ _ _ _ _ hK2 (by omega) hz2)
    refine ex_ite (fun _ => ?_) (fun _ => ?_)
    · obtain ⟨z, hz, hz2⟩ := law17 (sF := sF) h1 hsN hI
      exact ex_ob hz (law_loop hsN fu (K + 1) _ _ _ _ _ _ _ _ _ _ _ _ _ _ _ _ _ _ _ _ _ _ _ _ _ _ _ _ _ _ _ _ _ _ _ _ _ _ _ _ _ _ _ _ _ _ _ _ _ _ _ _ hK2 (by omega) hz2)
    refine ex_ite (fun _ => ?_) (fun _ => ?_)
    · obtain ⟨z, hz, hz2⟩ := law18 (sF := sF) h1 hsN hI
      exact ex_ob hz (law_loop hsN fu (K + 1) _ _ _ _ _ _ _ _ _ _ _ _ _ _ _ _ _ _ _ _ _ _ _ _ _ _ _ _ _ _ _ _ _ _ _ _ _ _ _ _ _ _ _ _ _ _ _ _ _ _ _ _ hK2 (by omega) hz2)
    refine ex_ite (fun _ => ?_) (fun _ => ?_)
    · obtain ⟨z, hz, hz2⟩ := law19 (sF := sF) h1 hsN hI
      exact ex_ob hz (law_loop hsN fu (K + 1) _ _ _ _ _ _ _ _ _ _ _ _ _ _ _ _ _ _ _ _ _ _ _ _ _ _ _ _ _ _ _ _ _ _ _ _ _ _ _ _ _ _ _ _ _ _ _ _ _ _ _ _ hK2 (by omega) hz2)
    refine ex_ite (fun _ => ?_) (fun _ => ?_)
    · obtain ⟨z, hz, hz2⟩ := law20 (sF := sF) h1 hsN hI
      exact ex_ob hz (law_loop hsN fu (K + 1) _ _ _ _ _ _ _ _ _ _ _ _ _ _ _ _ _ _ _ _ _ _ _ _ _ _ _ _ _ _ _ _ _ _ _ _ _ _ _ _ _ _ _ _ _ _ _ _ _ _ _ _ hK2 (by omega) hz2)
    refine ex_ite (fun _ => ?_) (fun _ => ?_)
    · obtain ⟨z, hz, hz2⟩ := law21 (sF := sF) h1 hsN hI
      exact ex_ob hz (law_loop hsN fu (K + 1) _ _ _ _ _ _ _ _ _ _ _ _ _ _ _ _ _ _ _ _ _ _ _ _ _ _ _ _ _ _ _ _ _ _ _ _ _ _ _ _ _ _ _ _ _ _ _ _ _ _ _ _ hK2 (by omega) hz2)
    refine ex_ite (fun _ => ?_) (fun _ => ?_)
    · obtain ⟨z, hz, hz2⟩ := law22 (sF := sF) h1 hsN hI
      exact ex_ob hz (law_loop hsN fu (K + 1) _ _ _ _ _ _ _ _ _ _ _ _ _ _ _ _ _ _ _ _ _ _ _ _ _ _ _ _ _ _ _ _ _ _ _ _ _ _ _ _ _ _ _ _ _ _ _ _ _ _ _ _ hK2 (by omega) hz2)
    refine ex_ite (fun _ => ?_) (fun _ => ?_)
    · obtain ⟨z, hz, hz2⟩ := law23 (sF := sF) h1 hsN hI
      exact ex_ob hz (law_loop hsN fu (K + 1) _ _ _ _ _ _ _ _ _ _ _ _ _ _ _ _ _ _ _ _ _ _ _ _ _ _ _ _ _ _ _ _ _ _ _ _ _ _ _ _ _ _ _ _ _ _ _ _ _ _ _ _ hK2 (by omega) hz2)
    refine ex_ite (fun _ => ?_) (fun _ => ?_)
    · obtain ⟨z, hz, hz2⟩ := law24 (sF := sF) h1 hsN hI
      exact ex_ob hz (law_loop hsN fu (K + 1) _ _ _ _ _ _ _ _ _ _ _ _ _ _ _ _ _ _ _ _ _ _ _ _ _ _ _ _ _ _ _ _ _ _ _ _ _ _ _ _ _ _ _ _ _ _ _ _ _ _ _ _ hK2 (by omega) hz2)
    refine ex_ite (fun _ => ?_) (fun _ => ?_)
    · obtain ⟨z, hz, hz2⟩ := law25 (sF := sF) h1 hsN hI
      exact ex_ob hz (law_loop hsN fu (K + 1) _ _ _ _ _ _ _ _ _ _ _ _ _ _ _ _ _ _ _ _ _ _ _ _ _ _ _ _ _ _ _ _ _ _ _ _ _ _ _ _ _ _ _ _ _ _ _ _ _ _ _ _ hK2 (by omega) hz2)
    refine ex_ite (fun _ => ?_) (fun _ => ?_)
    · obtain ⟨z, hz, hz2⟩ := law26 (sF := sF) h1 hsN hI
      exact ex_ob hz (law_loop hsN fu (K + 1) _ _ _ _ _ _ _ _ _ _ _ _ _ _ _ _ _ _ _ _ _ _ _ _ _ _ _ _ _ _ _ _ _ _ _ _ _ _ _ _ _ _ _ _ _ _ _ _ _ _ _ _ hK2 (by omega) hz2)
    refine ex_ite (fun _ => ?_) (fun _ => ?_)
    · obtain ⟨z, hz, hz2⟩ := law27 (sF := sF) h1 hsN hI
      exact ex_ob hz (law_loop hsN fu (K + 1) _ _ _ _ _ _ _ _ _ _ _ _ _ _ _ _ _ _ _ _ _ _ _ _ _ _ _ _ _ _ _ _ _ _ _ _ _ _ _ _ _ _ _ _ _ _ _ _ _ _ _ _ hK2 (by omega) hz2)
    refine ex_ite (fun _ => ?_) (fun _ => ?_)
    · obtain ⟨z, hz, hz2⟩ := law28 (sF := sF) h1 hsN hI
      exact ex_ob hz (law_loop hsN fu (K + 1) _ _ _ _ _ _ _ _ _ _ _ _ _ _ _ _ _ _ _ _ _ _ _ _ _ _ _ _ _ _ _ _ _ _ _ _ _ _ _ _ _ _ _ _ _ _ _ _ _ _ _ _ hK2 (by omega) hz2)
    refine ex_ite (fun _ => ?_) (fun _ => ?_)
    · obtain ⟨z, hz, hz2⟩ := law29 (sF := sF) h1 hsN hI
      exact ex_ob hz (law_loop hsN fu (K + 1) _ _ _ _ _ _ _ _ _ _ _ _ _ _ _ _ _ _ _ _ _ _ _ _ _ _ _ _ _ _ _ _ _ _ _ _ _ _ _ _ _ _ _ _ _ _ _ _ _ _ _ _ hK2 (by omega) hz2)
    refine ex_ite (fun _ => ?_) (fun _ => ?_)
    · obtain ⟨z, hz, hz2⟩ := law30 (sF := sF) h1 hsN hI
      exact ex_ob hz (law_loop hsN fu (K + 1) _ _ _ _ _ _ _ _ _ _ _ _ _ _ _ _ _ _ _ _ _ _ _ _ _ _ _ _ _ _ _ _ _ _ _ _ _ _ _ _ _ _ _ _ _ _ _ _ _ _ _ _ hK2 (by omega) hz2)
    refine ex_ite (fun _ => ?_) (fun _ => ?_)
    · obtain ⟨z, hz, hz2⟩ := law31 (sF := sF) h1 hsN hI
      exact ex_ob hz (law_loop hsN fu (K + 1) _ _ _ _ _ _ _ _ _ _ _ _ _ _ _ _ _ _ _ _ _ _ _ _ _ _ _ _ _ _ _ _ _ _ _ _ _ _ _ _ _ _ _ _ _ _ _ _ _ _ _ _ hK2 (by omega) hz2)
    refine ex_ite (fun _ => ?_) (fun _ => ?_)
    · obtain ⟨z, hz, hz2⟩ := law32 (sF := sF) h1 hsN hI
      exact ex_ob hz (law_loop hsN fu (K + 1) _ _ _ _ _ _ _ _ _ _ _ _ _ _ _ _ _ _ _ _ _ _ _ _ _ _ _ _ _ _ _ _ _ _ _ _ _ _ _ _ _ _ _ _ _ _ _ _ _ _ _ _ hK2 (by omega) hz2)
    refine ex_ite (fun _ => ?_) (fun _ => ?_)
    · obtain ⟨z, hz, hz2⟩ := law33 (sF := sF) h1 hsN hI
      exact ex_ob hz (law_loop hsN fu (K + 1) _ _ _ _ _ _ _ _ _ _ _ _ _ _ _ _ _ _ _ _ _ _ _ _ _ _ _ _ _ _ _ _ _ _ _ _ _ _ _ _ _ _ _ _ _ _ _ _ _ _ _ _ hK2 (by omega) hz2)
    refine ex_ite (fun _ => ?_) (fun _ => ?_)
    · obtain ⟨z, hz, hz2⟩ := law34 (sF := sF) h1 hsN hI
      exact ex_ob hz (law_loop hsN fu (K + 1) _ _ _ _ _ _ _ _ _ _ _ _ _ _ _ _ _ _ _ _ _ _ _ _ _ _ _ _ _ _ _ _ _ _ _ _ _ _ _ _ _ _ _ _ _ _ _ _ _ _ _ _ hK2 (by omega) hz2)
    refine ex_ite (fun _ => ?_) (fun _ => ?_)
    · obtain ⟨z, hz, hz2⟩ := law35 (sF := sF) h1 hsN hI
      exact ex_ob hz (law_loop hsN fu (K + 1) _ _ _ _ _ _ _ _ _ _ _ _ _ _ _ _ _ _ _ _ _ _ _ _ _ _ _ _ _ _ _ _ _ _ _ _ _ _ _ _ _ _ _ _ _ _ _ _ _ _ _ _ hK2 (by omega) hz2)
    refine ex_ite (fun _ => ?_) (fun _ => ?_)
    · obtain ⟨z, hz, hz2⟩ := law36 (sF := sF) h1 hsN hI
      exact ex_ob hz (law_loop hsN fu (K + 1) _ _ _ _ _ _ _ _ _ _ _ _ _ _ _ _ _ _ _ _ _ _ _ _ _ _ _ _ _ _ _ _ _ _ _ _ _ _ _ _ _ _ _ _ _ _ _ _ _ _ _ _ hK2 (by omega) hz2)
    refine ex_ite (fun _ => ?_) (fun _ => ?_)
    · obtain ⟨z, hz, hz2⟩ := law37 (sF := sF) h1 hsN hI
      exact ex_ob hz (law_loop hsN fu (K + 1) _ _ _ _ _ _ _ _ _ _ _ _ _ _ _ _ _ _ _ _ _ _ _ _ _ _ _ _ _ _ _ _ _ _ _ _ _ _ _ _ _ _ _ _ _ _ _ _ _ _ _ _ hK2 (by omega) hz2)
    exact law_loop hsN fu (K + 1) _ _ _ _ _ _ _ _ _ _ _ _ _ _ _ _ _ _ _ _ _ _ _ _ _ _ _ _ _ _ _ _ _ _ _ _ _ _ _ _ _ _ _ _ _ _ _ _ _ _ _ _ hK2 (by omega) (LI_next hI)
