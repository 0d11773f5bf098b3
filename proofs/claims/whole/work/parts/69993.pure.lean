/-! THE START, AND THE PURE THEOREM -/
theorem init2 : ∃ tm mo pe sn od, pX2_init = some (tm, mo, pe, sn, od, 5, 87) ∧ ∀ fr, Bg 6 fr → NR 6 0 fr ((6 : Int32), (0 : Int32), tm, mo, pe, (fun _ => 0), sn, od) := by
  obtain ⟨mo, pe, h1, h2⟩ := c_defaults (fun _ => 0) (fun _ => 0)
  obtain ⟨fr0, f1, f2⟩ := m_begins (6 : Int32) (fun _ => 0)
  have hD := DR_begin (S := 6) (fun _ => 0) f2 rfl (by omega) (by omega) h2
  obtain ⟨sn, od, s1, s2, s3⟩ := c_settle (sn := fun _ => 0) (od := fun _ => 0) hD.1 hD.2.2.2.2.1 hD.2.2.1 hD.2.2.2.1
  refine ⟨tmk fr0 0, mo, pe, sn, od, ?_, fun fr hf => ?_⟩
  · unfold pX2_init
    rw [ob_eq h1, ob_eq (show pX2_settle (6 : Int32) (0 : Int32) mo pe (fun _ => 0) (fun _ => 0) (fun _ => 0) = _ from s1)]
  · have hall : ∀ i, i < 65 → fr i = fr0 i := fun i hi => by
      obtain ⟨g0, g1, g2, g3, g4, g5, g6, g7, g8, g9, g10⟩ := hf
      obtain ⟨k0, k1, k2, k3, k4, k5, k6, k7, k8, k9, k10⟩ := f2
      by_cases c : 10 ≤ i
      · rw [g10 i c (by omega), k10 i c (by omega)]
      · match i, (show i < 10 by omega) with
        | 0, _ => exact g0.trans k0.symm
        | 1, _ => exact g1.trans k1.symm
        | 2, _ => exact g2.trans k2.symm
        | 3, _ => exact g3.trans k3.symm
        | 4, _ => exact g4.trans k4.symm
        | 5, _ => exact g5.trans k5.symm
        | 6, _ => exact g6.trans k6.symm
        | 7, _ => exact g7.trans k7.symm
        | 8, _ => exact g8.trans k8.symm
        | 9, _ => exact g9.trans k9.symm
    exact NR_row hall (by omega) ⟨rfl, rfl, rfl, hD.2.2.1, hD.2.2.2.1, hD.2.2.2.2.1, s2, s3⟩
theorem init1 : ∃ vhN c k, pX1_init = some (vhN, c, k) ∧ c ≤ 300 ∧ k ≤ 3000 := by
  obtain ⟨tm, mo, pe, sn, od, h, -⟩ := init2
  unfold pX1_init
  rw [ob_eq h, ob_eq (show pX5_init = some (2, 24) from rfl), ob_eq h, ob_eq (show pX5_init = some (2, 24) from rfl), ob_eq h, ob_eq (show pX5_init = some (2, 24) from rfl), ob_eq h, ob_eq (show pX5_init = some (2, 24) from rfl), ob_eq h, ob_eq (show pX5_init = some (2, 24) from rfl), ob_eq h, ob_eq (show pX5_init = some (2, 24) from rfl), ob_eq h, ob_eq (show pX5_init = some (2, 24) from rfl), ob_eq h, ob_eq (show pX5_init = some (2, 24) from rfl)]
  exact ⟨_, _, _, rfl, by dsimp only; omega, by dsimp only; omega⟩
theorem init6 (x : Int32) (h : x = 0 ∨ x = 1) : pX6_init x = some (x, 3, 0) := by
  unfold pX6_init
  rcases h with rfl | rfl
  · rw [if_pos (by decide +kernel)]
  · rw [if_pos (by decide +kernel)]
theorem init0 : ∃ c k, pX0_init = some (c, k) ∧ c ≤ 100 ∧ k ≤ 100 := by
  exact ⟨_, _, rfl, by decide, by decide⟩
theorem init8 : ∃ vn vt vu vd vhN c k, pX8_init = some (vn, vt, vu, vd, vhN, c, k) ∧ (∀ fr, Bg 6 fr → NR 6 0 fr vn) ∧ vt = ((1 : Int32), 0, 0, 0, 0, (fun _ => 0), 0, (fun _ => 0), 0, (fun _ => 0)) ∧ vu = ((0 : Int32), 0, 0, 0, 0, (fun _ => 0), 0, (fun _ => 0), 0, (fun _ => 0)) ∧ c ≤ 600 ∧ k ≤ 6000 := by
  obtain ⟨tm, mo, pe, sn, od, h, hn⟩ := init2
  obtain ⟨vhN, c1, k1, g1, g2, g3⟩ := init1
  obtain ⟨c0, k0, g4, g5, g6⟩ := init0
  unfold pX8_init
  rw [ob_eq h, ob_eq (show pX5_init = some (2, 24) from rfl), ob_eq (init6 1 (Or.inr rfl)), ob_eq (init6 0 (Or.inl rfl)), ob_eq (show pX7_init = some (2, 509) from rfl), ob_eq h, ob_eq g1, ob_eq (show pX4_init = some (3, 0) from rfl), ob_eq g4]
  exact ⟨_, _, _, _, _, _, _, rfl, hn, rfl, rfl, by dsimp only; omega, by dsimp only; omega⟩
theorem init9 : ∃ fr, pX9_init = some (fr, 19, 103906) ∧ Bg 6 fr := by
  obtain ⟨fr, f1, f2⟩ := m_begins (6 : Int32) (fun _ => 0)
  unfold pX9_init
  rw [ob_eq f1]
  exact ⟨fr, rfl, f2⟩
theorem ex_fin {x : Option LZ} {f : LZ → Option (Int32 × List va_E × Nat × Nat)} (h : ∃ z, x = some z ∧ LQ z) (hf : ∀ z, LQ z → ∃ r, f z = some r ∧ r.1 = 1 ∧ r.2.2.1 ≤ 601024 ∧ r.2.2.2 ≤ 7293034) : ∃ r, ob x f = some r ∧ r.1 = 1 ∧ r.2.2.1 ≤ 601024 ∧ r.2.2.2 ≤ 7293034 := by
  obtain ⟨z, h1, h2⟩ := h
  rw [ob_eq h1]
  exact hf z h2
theorem law_pure (L : Nat) (xs : Nat → Int32) (hL : L ≤ 3072) : ∃ z, pL_law_1999 L xs = some z ∧ z.1 = 1 ∧ z.2.2.1 ≤ 601024 ∧ z.2.2.2 ≤ 7293034 := by
  obtain ⟨vn, vt, vu, vd, vhN, c, k, h1, h2, rfl, rfl, h3, h4⟩ := init8
  obtain ⟨fr, g1, g2⟩ := init9
  have hrow : RowN 6 0 fr := Bg_row (S := 6) g2 rfl (by omega) (by omega)
  unfold pL_law_1999
  rw [ob_eq h1, ob_eq g1]
  refine ex_fin (law_loop hL lpF 0 _ _ _ _ _ _ _ _ _ _ _ _ _ _ _ _ _ _ _ _ _ _ _ _ _ _ _ _ _ _ _ _ _ _ _ _ _ _ _ _ _ _ _ _ _ _ _ _ _ _ _ _ (by omega) (by have := lpF_big; omega) ?_) (fun z hz => ⟨_, rfl, rfl, hz.1, hz.2⟩)
  refine ⟨⟨0, by omega, rfl, rfl, fun i hi => by omega⟩, ⟨6, 0, 0, 0, SR_fresh hrow (h2 fr g2) (fun i h5 h6 => g2.2.2.2.2.2.2.2.2.2.2 i (by omega) h6) _ _, ⟨⟨⟨rfl, Or.inl rfl, rfl, rfl, Or.inl rfl⟩, ⟨rfl, Or.inl rfl, rfl, rfl, Or.inl rfl⟩, ⟨Or.inl rfl, rfl, rfl, Or.inl rfl⟩⟩, ⟨Or.inl rfl, rfl, Or.inl rfl, rfl, Or.inl rfl⟩⟩⟩, ⟨0, 0, by omega, by omega, rfl, rfl, rfl, fun j hj => by omega⟩, rfl, rfl, ⟨0, by omega, fun e => absurd e (by decide)⟩, ?_, ?_⟩
  · dsimp only
    omega
  · dsimp only
    omega
