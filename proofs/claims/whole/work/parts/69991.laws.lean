/-! THE LAW, CALL BY CALL -/
theorem tl {α : Type} {t k : Int32} {x y : Int64} {A : Option α} (h : t = k) (h2 : k = 0 → x = y) : (if t = k then (if ¬ k = 0 then A else if lg_cmp x y = 0 then A else none) else none) = A := by
  rw [if_pos h]
  by_cases c : k = 0
  · rw [if_neg (fun g => g c), if_pos (by rw [lg_cmp_eq]; exact h2 c)]
  · rw [if_pos c]
theorem upL0 (vo : Nat → Int64) (x : Int64) : vp_updL vo 0 x 0 = x := rfl
/-- what holds in front of each call of the law -/
def LI (K kc ks : Nat) (vr : RdS) (vn : NiS) (vg : PrS) (vhn vhs : Int32) (vhN : Nat → NiS) (vhP : Nat → PrS) (vt vu : ReS) (vp : PlS) (vq : DeS) (ve : Int32) (m_a m_kept : Nat → Int32) (m_keptMany : Int32) (m_buffer : Nat → Int32) (m_buffered m_errorAt m_fixedSlot m_giving m_givenTarget : Int32) : Prop :=
  RdR vr m_buffer m_buffered ∧ St m_a vn vg vt vu vp vq ∧ HR vhn vhs vhN vhP m_kept m_keptMany ∧ ve = m_errorAt ∧ m_fixedSlot = -1 ∧ (∃ tg, Hg m_giving m_givenTarget tg) ∧ kc ≤ 1000 + 20 * K ∧ ks ≤ 200000 + 40 * K + wg vt vu vp vq
theorem CA_B {a : Nat → Int32} {S N P s0 c k : Nat} {vt vu vt' vu' : ReS} {vp vp' : PlS} {vq : DeS} (h : CA a S N P s0 vt vu vp vq) (hc : CC a S N P s0 vt vu vp vt' vu' vp' c k) : CA a S N P s0 vt' vu' vp' vq ∧ c ≤ 14 ∧ k + wg vt vu vp vq ≤ wg vt' vu' vp' vq + 6 := by
  obtain ⟨h1, h2, h3, h4⟩ := hc
  refine ⟨⟨h1, h2 vq h.2⟩, h3, ?_⟩
  unfold wg
  omega
theorem CA_D {a : Nat → Int32} {S N P s0 c k : Nat} {vt vu vt' : ReS} {vp : PlS} {vq vq' : DeS} (h : CA a S N P s0 vt vu vp vq) (hc : CDG a S N P s0 vt vq vt' vq' c k) : CA a S N P s0 vt' vu vp vq' ∧ c ≤ 9 ∧ k + wg vt vu vp vq ≤ wg vt' vu vp vq' + 6 := by
  obtain ⟨h1, h3, h4⟩ := hc
  refine ⟨⟨⟨h1.1, h.1.2.1, h.1.2.2⟩, h1.2⟩, h3, ?_⟩
  unfold wg
  omega
theorem CA_cd {a : Nat → Int32} {S N P s0 : Nat} {vt vu : ReS} {vp : PlS} {vq : DeS} (h : CA a S N P s0 vt vu vp vq) : CD a S N P s0 vt vq := ⟨h.1.1, h.2⟩
theorem law3 {sN K : Nat} {sF : Nat → Int32} {kc : Nat} {ks : Nat} {vr : RdS} {vn : NiS} {vg : PrS} {vhn : Int32} {vhs : Int32} {vhN : (Nat → NiS)} {vhP : (Nat → PrS)} {vt : ReS} {vu : ReS} {vp : PlS} {vq : DeS} {ve : Int32} {m_a : (Nat → Int32)} {m_kept : (Nat → Int32)} {m_keptMany : Int32} {m_thrown : Int32} {m_buffer : (Nat → Int32)} {m_buffered : Int32} {m_errorAt : Int32} {m_fixedSlot : Int32} {m_giving : Int32} {m_givenTarget : Int32} {vo : (Nat → Int64)} (h1 : 6 * K + 6 ≤ sN) (hsN : sN ≤ 3072) (hI : LI K kc ks vr vn vg vhn vhs vhN vhP vt vu vp vq ve m_a m_kept m_keptMany m_buffer m_buffered m_errorAt m_fixedSlot m_giving m_givenTarget) : ∃ z, lpL_law_1999_381 sN sF (nI (6 * K)) vn vg m_a kc ks m_thrown vo = some z ∧ LI (K + 1) z.1 z.2.1 vr vn vg vhn vhs vhN vhP vt vu vp vq ve m_a m_kept m_keptMany m_buffer m_buffered m_errorAt m_fixedSlot m_giving m_givenTarget := by
  obtain ⟨hb, ⟨S, N, P, s0, hr, hc⟩, hh, he, hf, ⟨tg, hg⟩, hk, hs⟩ := hI
  have e1 : nI (6 * K) + (1 : Int32) = nI (6 * K + 1) := adds rfl rfl rfl
  obtain ⟨o, c, k, v, t, q1, q2, q3, q4, q5⟩ := s_count hr (sF (6 * K + 1))
  have hp : ∃ (kk : Int32) (vo' : Nat → Int64), pL_count_1 (sF (6 * K + 1)) vn vg vo = some (kk, vo', 0 + c, 0 + k) ∧ t = kk ∧ (kk = 0 → vo' 0 = v.toInt64) := by
    unfold pL_count_1
    rw [ob_eq q1]
    rcases q3 with ⟨rfl, rfl⟩ | ⟨rfl, rfl⟩ | ⟨g, rfl, rfl⟩
    · exact ⟨_, _, rfl, rfl, fun _ => upL0 _ _⟩
    · refine ⟨1, vo, ?_, rfl, fun e => absurd e (by decide)⟩
      dsimp only
      rw [if_pos rfl]
    · exact absurd rfl g
  obtain ⟨kk, vo', p1, p2, p3⟩ := hp
  unfold lpL_law_1999_381
  rw [if_neg (in_ok e1 (show 6 * K + 1 < sN by omega) (by omega)), clampN e1 (by omega), ob_eq p1, ob_eq q2, ob_eq (show pX9_thrown (v, t).2 = some t from rfl)]
  dsimp only
  rw [tl p2 p3]
  exact ⟨_, rfl, hb, ⟨S, N, P, s0, hr, hc⟩, hh, he, hf, ⟨tg, hg⟩, by show kc + (0 + c) ≤ _; omega, by show ks + (0 + k) ≤ _; omega⟩
theorem law4 {sN K : Nat} {sF : Nat → Int32} {kc : Nat} {ks : Nat} {vr : RdS} {vn : NiS} {vg : PrS} {vhn : Int32} {vhs : Int32} {vhN : (Nat → NiS)} {vhP : (Nat → PrS)} {vt : ReS} {vu : ReS} {vp : PlS} {vq : DeS} {ve : Int32} {m_a : (Nat → Int32)} {m_kept : (Nat → Int32)} {m_keptMany : Int32} {m_thrown : Int32} {m_buffer : (Nat → Int32)} {m_buffered : Int32} {m_errorAt : Int32} {m_fixedSlot : Int32} {m_giving : Int32} {m_givenTarget : Int32} {vo : (Nat → Int64)} (h1 : 6 * K + 6 ≤ sN) (hsN : sN ≤ 3072) (hI : LI K kc ks vr vn vg vhn vhs vhN vhP vt vu vp vq ve m_a m_kept m_keptMany m_buffer m_buffered m_errorAt m_fixedSlot m_giving m_givenTarget) : ∃ z, lpL_law_1999_437 sN sF (nI (6 * K)) vn m_a kc ks m_thrown vo = some z ∧ LI (K + 1) z.1 z.2.1 vr vn vg vhn vhs vhN vhP vt vu vp vq ve m_a m_kept m_keptMany m_buffer m_buffered m_errorAt m_fixedSlot m_giving m_givenTarget := by
  obtain ⟨hb, ⟨S, N, P, s0, hr, hc⟩, hh, he, hf, ⟨tg, hg⟩, hk, hs⟩ := hI
  have e1 : nI (6 * K) + (1 : Int32) = nI (6 * K + 1) := adds rfl rfl rfl
  have e2 : nI (6 * K) + (2 : Int32) = nI (6 * K + 2) := adds rfl rfl rfl
  obtain ⟨o, c, k, v, t, q1, q2, q3, q4, q5⟩ := s_height hr (sF (6 * K + 1)) (sF (6 * K + 2))
  have hp : ∃ (kk : Int32) (vo' : Nat → Int64), pL_height_1 (sF (6 * K + 1)) (sF (6 * K + 2)) vn vo = some (kk, vo', 0 + c, 0 + k) ∧ t = kk ∧ (kk = 0 → vo' 0 = v.toInt64) := by
    unfold pL_height_1
    rw [ob_eq q1]
    rcases q3 with ⟨rfl, rfl⟩ | ⟨rfl, rfl⟩ | ⟨g, rfl, rfl⟩
    · exact ⟨_, _, rfl, rfl, fun _ => upL0 _ _⟩
    · refine ⟨1, vo, ?_, rfl, fun e => absurd e (by decide)⟩
      dsimp only
      rw [if_pos rfl]
    · exact absurd rfl g
  obtain ⟨kk, vo', p1, p2, p3⟩ := hp
  unfold lpL_law_1999_437
  rw [if_neg (in_ok e1 (show 6 * K + 1 < sN by omega) (by omega)), if_neg (in_ok e2 (show 6 * K + 2 < sN by omega) (by omega)), clampN e1 (by omega), clampN e2 (by omega), ob_eq p1, ob_eq q2, ob_eq (show pX9_thrown (v, t).2 = some t from rfl)]
  dsimp only
  rw [tl p2 p3]
  exact ⟨_, rfl, hb, ⟨S, N, P, s0, hr, hc⟩, hh, he, hf, ⟨tg, hg⟩, by show kc + (0 + c) ≤ _; omega, by show ks + (0 + k) ≤ _; omega⟩
theorem law5 {sN K : Nat} {sF : Nat → Int32} {kc : Nat} {ks : Nat} {vr : RdS} {vn : NiS} {vg : PrS} {vhn : Int32} {vhs : Int32} {vhN : (Nat → NiS)} {vhP : (Nat → PrS)} {vt : ReS} {vu : ReS} {vp : PlS} {vq : DeS} {ve : Int32} {m_a : (Nat → Int32)} {m_kept : (Nat → Int32)} {m_keptMany : Int32} {m_thrown : Int32} {m_buffer : (Nat → Int32)} {m_buffered : Int32} {m_errorAt : Int32} {m_fixedSlot : Int32} {m_giving : Int32} {m_givenTarget : Int32} {vo : (Nat → Int64)} (h1 : 6 * K + 6 ≤ sN) (hsN : sN ≤ 3072) (hI : LI K kc ks vr vn vg vhn vhs vhN vhP vt vu vp vq ve m_a m_kept m_keptMany m_buffer m_buffered m_errorAt m_fixedSlot m_giving m_givenTarget) : ∃ z, lpL_law_1999_505 sN sF (nI (6 * K)) vn m_a kc ks m_thrown vo = some z ∧ LI (K + 1) z.1 z.2.1 vr vn vg vhn vhs vhN vhP vt vu vp vq ve m_a m_kept m_keptMany m_buffer m_buffered m_errorAt m_fixedSlot m_giving m_givenTarget := by
  obtain ⟨hb, ⟨S, N, P, s0, hr, hc⟩, hh, he, hf, ⟨tg, hg⟩, hk, hs⟩ := hI
  have e1 : nI (6 * K) + (1 : Int32) = nI (6 * K + 1) := adds rfl rfl rfl
  obtain ⟨o, c, k, v, t, q1, q2, q3, q4, q5⟩ := s_moonHeight hr (sF (6 * K + 1))
  have hp : ∃ (kk : Int32) (vo' : Nat → Int64), pL_moonHeight_1 (sF (6 * K + 1)) vn vo = some (kk, vo', 0 + c, 0 + k) ∧ t = kk ∧ (kk = 0 → vo' 0 = v.toInt64) := by
    unfold pL_moonHeight_1
    rw [ob_eq q1]
    rcases q3 with ⟨rfl, rfl⟩ | ⟨rfl, rfl⟩ | ⟨g, rfl, rfl⟩
    · exact ⟨_, _, rfl, rfl, fun _ => upL0 _ _⟩
    · refine ⟨1, vo, ?_, rfl, fun e => absurd e (by decide)⟩
      dsimp only
      rw [if_pos rfl]
    · exact absurd rfl g
  obtain ⟨kk, vo', p1, p2, p3⟩ := hp
  unfold lpL_law_1999_505
  rw [if_neg (in_ok e1 (show 6 * K + 1 < sN by omega) (by omega)), clampN e1 (by omega), ob_eq p1, ob_eq q2, ob_eq (show pX9_thrown (v, t).2 = some t from rfl)]
  dsimp only
  rw [tl p2 p3]
  exact ⟨_, rfl, hb, ⟨S, N, P, s0, hr, hc⟩, hh, he, hf, ⟨tg, hg⟩, by show kc + (0 + c) ≤ _; omega, by show ks + (0 + k) ≤ _; omega⟩
theorem law6 {sN K : Nat} {sF : Nat → Int32} {kc : Nat} {ks : Nat} {vr : RdS} {vn : NiS} {vg : PrS} {vhn : Int32} {vhs : Int32} {vhN : (Nat → NiS)} {vhP : (Nat → PrS)} {vt : ReS} {vu : ReS} {vp : PlS} {vq : DeS} {ve : Int32} {m_a : (Nat → Int32)} {m_kept : (Nat → Int32)} {m_keptMany : Int32} {m_thrown : Int32} {m_buffer : (Nat → Int32)} {m_buffered : Int32} {m_errorAt : Int32} {m_fixedSlot : Int32} {m_giving : Int32} {m_givenTarget : Int32} {vo : (Nat → Int64)} (h1 : 6 * K + 6 ≤ sN) (hsN : sN ≤ 3072) (hI : LI K kc ks vr vn vg vhn vhs vhN vhP vt vu vp vq ve m_a m_kept m_keptMany m_buffer m_buffered m_errorAt m_fixedSlot m_giving m_givenTarget) : ∃ z, lpL_law_1999_561 sN sF (nI (6 * K)) vn m_a kc ks m_thrown vo = some z ∧ LI (K + 1) z.1 z.2.1 vr vn vg vhn vhs vhN vhP vt vu vp vq ve m_a m_kept m_keptMany m_buffer m_buffered m_errorAt m_fixedSlot m_giving m_givenTarget := by
  obtain ⟨hb, ⟨S, N, P, s0, hr, hc⟩, hh, he, hf, ⟨tg, hg⟩, hk, hs⟩ := hI
  have e1 : nI (6 * K) + (1 : Int32) = nI (6 * K + 1) := adds rfl rfl rfl
  have e2 : nI (6 * K) + (2 : Int32) = nI (6 * K + 2) := adds rfl rfl rfl
  obtain ⟨o, c, k, v, t, q1, q2, q3, q4, q5⟩ := s_moonDistance hr (sF (6 * K + 1)) (sF (6 * K + 2))
  have hp : ∃ (kk : Int32) (vo' : Nat → Int64), pL_moonDistance_1 (sF (6 * K + 1)) (sF (6 * K + 2)) vn vo = some (kk, vo', 0 + c, 0 + k) ∧ t = kk ∧ (kk = 0 → vo' 0 = v.toInt64) := by
    unfold pL_moonDistance_1
    rw [ob_eq q1]
    rcases q3 with ⟨rfl, rfl⟩ | ⟨rfl, rfl⟩ | ⟨g, rfl, rfl⟩
    · exact ⟨_, _, rfl, rfl, fun _ => upL0 _ _⟩
    · refine ⟨1, vo, ?_, rfl, fun e => absurd e (by decide)⟩
      dsimp only
      rw [if_pos rfl]
    · exact absurd rfl g
  obtain ⟨kk, vo', p1, p2, p3⟩ := hp
  unfold lpL_law_1999_561
  rw [if_neg (in_ok e1 (show 6 * K + 1 < sN by omega) (by omega)), if_neg (in_ok e2 (show 6 * K + 2 < sN by omega) (by omega)), clampN e1 (by omega), clampN e2 (by omega), ob_eq p1, ob_eq q2, ob_eq (show pX9_thrown (v, t).2 = some t from rfl)]
  dsimp only
  rw [tl p2 p3]
  exact ⟨_, rfl, hb, ⟨S, N, P, s0, hr, hc⟩, hh, he, hf, ⟨tg, hg⟩, by show kc + (0 + c) ≤ _; omega, by show ks + (0 + k) ≤ _; omega⟩
theorem law7 {sN K : Nat} {sF : Nat → Int32} {kc : Nat} {ks : Nat} {vr : RdS} {vn : NiS} {vg : PrS} {vhn : Int32} {vhs : Int32} {vhN : (Nat → NiS)} {vhP : (Nat → PrS)} {vt : ReS} {vu : ReS} {vp : PlS} {vq : DeS} {ve : Int32} {m_a : (Nat → Int32)} {m_kept : (Nat → Int32)} {m_keptMany : Int32} {m_thrown : Int32} {m_buffer : (Nat → Int32)} {m_buffered : Int32} {m_errorAt : Int32} {m_fixedSlot : Int32} {m_giving : Int32} {m_givenTarget : Int32} {vo : (Nat → Int64)} (h1 : 6 * K + 6 ≤ sN) (hsN : sN ≤ 3072) (hI : LI K kc ks vr vn vg vhn vhs vhN vhP vt vu vp vq ve m_a m_kept m_keptMany m_buffer m_buffered m_errorAt m_fixedSlot m_giving m_givenTarget) : ∃ z, lpL_law_1999_629 sN sF (nI (6 * K)) vn m_a kc ks m_thrown vo = some z ∧ LI (K + 1) z.1 z.2.1 vr vn vg vhn vhs vhN vhP vt vu vp vq ve m_a m_kept m_keptMany m_buffer m_buffered m_errorAt m_fixedSlot m_giving m_givenTarget := by
  obtain ⟨hb, ⟨S, N, P, s0, hr, hc⟩, hh, he, hf, ⟨tg, hg⟩, hk, hs⟩ := hI
  have e1 : nI (6 * K) + (1 : Int32) = nI (6 * K + 1) := adds rfl rfl rfl
  obtain ⟨o, c, k, v, t, q1, q2, q3, q4, q5⟩ := s_window hr (sF (6 * K + 1))
  have hp : ∃ (kk : Int32) (vo' : Nat → Int64), pL_window_1 (sF (6 * K + 1)) vn vo = some (kk, vo', 0 + c, 0 + k) ∧ t = kk ∧ (kk = 0 → vo' 0 = v.toInt64) := by
    unfold pL_window_1
    rw [ob_eq q1]
    rcases q3 with ⟨rfl, rfl⟩ | ⟨rfl, rfl⟩ | ⟨g, rfl, rfl⟩
    · exact ⟨_, _, rfl, rfl, fun _ => upL0 _ _⟩
    · refine ⟨1, vo, ?_, rfl, fun e => absurd e (by decide)⟩
      dsimp only
      rw [if_pos rfl]
    · exact absurd rfl g
  obtain ⟨kk, vo', p1, p2, p3⟩ := hp
  unfold lpL_law_1999_629
  rw [if_neg (in_ok e1 (show 6 * K + 1 < sN by omega) (by omega)), clampN e1 (by omega), ob_eq p1, ob_eq q2, ob_eq (show pX9_thrown (v, t).2 = some t from rfl)]
  dsimp only
  rw [tl p2 p3]
  exact ⟨_, rfl, hb, ⟨S, N, P, s0, hr, hc⟩, hh, he, hf, ⟨tg, hg⟩, by show kc + (0 + c) ≤ _; omega, by show ks + (0 + k) ≤ _; omega⟩
theorem law8 {sN K : Nat} {sF : Nat → Int32} {kc : Nat} {ks : Nat} {vr : RdS} {vn : NiS} {vg : PrS} {vhn : Int32} {vhs : Int32} {vhN : (Nat → NiS)} {vhP : (Nat → PrS)} {vt : ReS} {vu : ReS} {vp : PlS} {vq : DeS} {ve : Int32} {m_a : (Nat → Int32)} {m_kept : (Nat → Int32)} {m_keptMany : Int32} {m_thrown : Int32} {m_buffer : (Nat → Int32)} {m_buffered : Int32} {m_errorAt : Int32} {m_fixedSlot : Int32} {m_giving : Int32} {m_givenTarget : Int32} {vo : (Nat → Int64)} (h1 : 6 * K + 6 ≤ sN) (hsN : sN ≤ 3072) (hI : LI K kc ks vr vn vg vhn vhs vhN vhP vt vu vp vq ve m_a m_kept m_keptMany m_buffer m_buffered m_errorAt m_fixedSlot m_giving m_givenTarget) : ∃ z, lpL_law_1999_685 sN sF (nI (6 * K)) vn m_a kc ks m_thrown vo = some z ∧ LI (K + 1) z.1 z.2.1 vr vn vg vhn vhs vhN vhP vt vu vp vq ve m_a m_kept m_keptMany m_buffer m_buffered m_errorAt m_fixedSlot m_giving m_givenTarget := by
  obtain ⟨hb, ⟨S, N, P, s0, hr, hc⟩, hh, he, hf, ⟨tg, hg⟩, hk, hs⟩ := hI
  have e1 : nI (6 * K) + (1 : Int32) = nI (6 * K + 1) := adds rfl rfl rfl
  obtain ⟨o, c, k, v, t, q1, q2, q3, q4, q5⟩ := s_observable hr (sF (6 * K + 1))
  have hp : ∃ (kk : Int32) (vo' : Nat → Int64), pL_observable_1 (sF (6 * K + 1)) vn vo = some (kk, vo', 0 + c, 0 + k) ∧ t = kk ∧ (kk = 0 → vo' 0 = v.toInt64) := by
    unfold pL_observable_1
    rw [ob_eq q1]
    rcases q3 with ⟨rfl, rfl⟩ | ⟨rfl, rfl⟩ | ⟨g, rfl, rfl⟩
    · exact ⟨_, _, rfl, rfl, fun _ => upL0 _ _⟩
    · refine ⟨1, vo, ?_, rfl, fun e => absurd e (by decide)⟩
      dsimp only
      rw [if_pos rfl]
    · exact absurd rfl g
  obtain ⟨kk, vo', p1, p2, p3⟩ := hp
  unfold lpL_law_1999_685
  rw [if_neg (in_ok e1 (show 6 * K + 1 < sN by omega) (by omega)), clampN e1 (by omega), ob_eq p1, ob_eq q2, ob_eq (show pX9_thrown (v, t).2 = some t from rfl)]
  dsimp only
  rw [tl p2 p3]
  exact ⟨_, rfl, hb, ⟨S, N, P, s0, hr, hc⟩, hh, he, hf, ⟨tg, hg⟩, by show kc + (0 + c) ≤ _; omega, by show ks + (0 + k) ≤ _; omega⟩
theorem law9 {sN K : Nat} {sF : Nat → Int32} {kc : Nat} {ks : Nat} {vr : RdS} {vn : NiS} {vg : PrS} {vhn : Int32} {vhs : Int32} {vhN : (Nat → NiS)} {vhP : (Nat → PrS)} {vt : ReS} {vu : ReS} {vp : PlS} {vq : DeS} {ve : Int32} {m_a : (Nat → Int32)} {m_kept : (Nat → Int32)} {m_keptMany : Int32} {m_thrown : Int32} {m_buffer : (Nat → Int32)} {m_buffered : Int32} {m_errorAt : Int32} {m_fixedSlot : Int32} {m_giving : Int32} {m_givenTarget : Int32} {vo : (Nat → Int64)} (h1 : 6 * K + 6 ≤ sN) (hsN : sN ≤ 3072) (hI : LI K kc ks vr vn vg vhn vhs vhN vhP vt vu vp vq ve m_a m_kept m_keptMany m_buffer m_buffered m_errorAt m_fixedSlot m_giving m_givenTarget) : ∃ z, lpL_law_1999_741 sN sF (nI (6 * K)) vn m_a kc ks m_thrown vo = some z ∧ LI (K + 1) z.1 z.2.1 vr vn vg vhn vhs vhN vhP vt vu vp vq ve m_a m_kept m_keptMany m_buffer m_buffered m_errorAt m_fixedSlot m_giving m_givenTarget := by
  obtain ⟨hb, ⟨S, N, P, s0, hr, hc⟩, hh, he, hf, ⟨tg, hg⟩, hk, hs⟩ := hI
  have e1 : nI (6 * K) + (1 : Int32) = nI (6 * K + 1) := adds rfl rfl rfl
  obtain ⟨o, c, k, v, t, q1, q2, q3, q4, q5⟩ := s_highest hr (sF (6 * K + 1))
  have hp : ∃ (kk : Int32) (vo' : Nat → Int64), pL_highestSlot_1 (sF (6 * K + 1)) vn vo = some (kk, vo', 0 + c, 0 + k) ∧ t = kk ∧ (kk = 0 → vo' 0 = v.toInt64) := by
    unfold pL_highestSlot_1
    rw [ob_eq q1]
    rcases q3 with ⟨rfl, rfl⟩ | ⟨rfl, rfl⟩ | ⟨g, rfl, rfl⟩
    · exact ⟨_, _, rfl, rfl, fun _ => upL0 _ _⟩
    · refine ⟨1, vo, ?_, rfl, fun e => absurd e (by decide)⟩
      dsimp only
      rw [if_pos rfl]
    · refine ⟨2, vo, ?_, rfl, fun e => absurd e (by decide)⟩
      dsimp only
      rw [if_neg (by decide +kernel), if_pos rfl]
  obtain ⟨kk, vo', p1, p2, p3⟩ := hp
  unfold lpL_law_1999_741
  rw [if_neg (in_ok e1 (show 6 * K + 1 < sN by omega) (by omega)), clampN e1 (by omega), ob_eq p1, ob_eq q2, ob_eq (show pX9_thrown (v, t).2 = some t from rfl)]
  dsimp only
  rw [tl p2 p3]
  exact ⟨_, rfl, hb, ⟨S, N, P, s0, hr, hc⟩, hh, he, hf, ⟨tg, hg⟩, by show kc + (0 + c) ≤ _; omega, by show ks + (0 + k) ≤ _; omega⟩
theorem law10 {sN K : Nat} {sF : Nat → Int32} {kc : Nat} {ks : Nat} {vr : RdS} {vn : NiS} {vg : PrS} {vhn : Int32} {vhs : Int32} {vhN : (Nat → NiS)} {vhP : (Nat → PrS)} {vt : ReS} {vu : ReS} {vp : PlS} {vq : DeS} {ve : Int32} {m_a : (Nat → Int32)} {m_kept : (Nat → Int32)} {m_keptMany : Int32} {m_thrown : Int32} {m_buffer : (Nat → Int32)} {m_buffered : Int32} {m_errorAt : Int32} {m_fixedSlot : Int32} {m_giving : Int32} {m_givenTarget : Int32} {vo : (Nat → Int64)} (h1 : 6 * K + 6 ≤ sN) (hsN : sN ≤ 3072) (hI : LI K kc ks vr vn vg vhn vhs vhN vhP vt vu vp vq ve m_a m_kept m_keptMany m_buffer m_buffered m_errorAt m_fixedSlot m_giving m_givenTarget) : ∃ z, lpL_law_1999_797 sN sF (nI (6 * K)) vn vg m_a kc ks m_thrown vo = some z ∧ LI (K + 1) z.1 z.2.1 vr vn vg vhn vhs vhN vhP vt vu vp vq ve m_a m_kept m_keptMany m_buffer m_buffered m_errorAt m_fixedSlot m_giving m_givenTarget := by
  obtain ⟨hb, ⟨S, N, P, s0, hr, hc⟩, hh, he, hf, ⟨tg, hg⟩, hk, hs⟩ := hI
  have e1 : nI (6 * K) + (1 : Int32) = nI (6 * K + 1) := adds rfl rfl rfl
  obtain ⟨o, c, k, v, t, q1, q2, q3, q4, q5⟩ := s_latest hr (sF (6 * K + 1))
  have hp : ∃ (kk : Int32) (vo' : Nat → Int64), pL_latestStart_1 (sF (6 * K + 1)) vn vg vo = some (kk, vo', 0 + c, 0 + k) ∧ t = kk ∧ (kk = 0 → vo' 0 = v.toInt64) := by
    unfold pL_latestStart_1
    rw [ob_eq q1]
    rcases q3 with ⟨rfl, rfl⟩ | ⟨rfl, rfl⟩ | ⟨g, rfl, rfl⟩
    · exact ⟨_, _, rfl, rfl, fun _ => upL0 _ _⟩
    · refine ⟨1, vo, ?_, rfl, fun e => absurd e (by decide)⟩
      dsimp only
      rw [if_pos rfl]
    · refine ⟨2, vo, ?_, rfl, fun e => absurd e (by decide)⟩
      dsimp only
      rw [if_neg (by decide +kernel), if_pos rfl]
  obtain ⟨kk, vo', p1, p2, p3⟩ := hp
  unfold lpL_law_1999_797
  rw [if_neg (in_ok e1 (show 6 * K + 1 < sN by omega) (by omega)), clampN e1 (by omega), ob_eq p1, ob_eq q2, ob_eq (show pX9_thrown (v, t).2 = some t from rfl)]
  dsimp only
  rw [tl p2 p3]
  exact ⟨_, rfl, hb, ⟨S, N, P, s0, hr, hc⟩, hh, he, hf, ⟨tg, hg⟩, by show kc + (0 + c) ≤ _; omega, by show ks + (0 + k) ≤ _; omega⟩
theorem law11 {sN K : Nat} {sF : Nat → Int32} {kc : Nat} {ks : Nat} {vr : RdS} {vn : NiS} {vg : PrS} {vhn : Int32} {vhs : Int32} {vhN : (Nat → NiS)} {vhP : (Nat → PrS)} {vt : ReS} {vu : ReS} {vp : PlS} {vq : DeS} {ve : Int32} {m_a : (Nat → Int32)} {m_kept : (Nat → Int32)} {m_keptMany : Int32} {m_thrown : Int32} {m_buffer : (Nat → Int32)} {m_buffered : Int32} {m_errorAt : Int32} {m_fixedSlot : Int32} {m_giving : Int32} {m_givenTarget : Int32} {vo : (Nat → Int64)} (h1 : 6 * K + 6 ≤ sN) (hsN : sN ≤ 3072) (hI : LI K kc ks vr vn vg vhn vhs vhN vhP vt vu vp vq ve m_a m_kept m_keptMany m_buffer m_buffered m_errorAt m_fixedSlot m_giving m_givenTarget) : ∃ z, lpL_law_1999_853 sN sF (nI (6 * K)) vn m_a kc ks m_thrown vo = some z ∧ LI (K + 1) z.1 z.2.1 vr vn vg vhn vhs vhN vhP vt vu vp vq ve m_a m_kept m_keptMany m_buffer m_buffered m_errorAt m_fixedSlot m_giving m_givenTarget := by
  obtain ⟨hb, ⟨S, N, P, s0, hr, hc⟩, hh, he, hf, ⟨tg, hg⟩, hk, hs⟩ := hI
  have e1 : nI (6 * K) + (1 : Int32) = nI (6 * K + 1) := adds rfl rfl rfl
  obtain ⟨o, c, k, v, t, q1, q2, q3, q4, q5⟩ := s_clearOdds hr (sF (6 * K + 1))
  have hp : ∃ (kk : Int32) (vo' : Nat → Int64), pL_clearOdds_1 (sF (6 * K + 1)) vn vo = some (kk, vo', 0 + c, 0 + k) ∧ t = kk ∧ (kk = 0 → vo' 0 = v.toInt64) := by
    unfold pL_clearOdds_1
    rw [ob_eq q1]
    rcases q3 with ⟨rfl, rfl⟩ | ⟨rfl, rfl⟩ | ⟨g, rfl, rfl⟩
    · exact ⟨_, _, rfl, rfl, fun _ => upL0 _ _⟩
    · refine ⟨1, vo, ?_, rfl, fun e => absurd e (by decide)⟩
      dsimp only
      rw [if_pos rfl]
    · exact absurd rfl g
  obtain ⟨kk, vo', p1, p2, p3⟩ := hp
  unfold lpL_law_1999_853
  rw [if_neg (in_ok e1 (show 6 * K + 1 < sN by omega) (by omega)), clampN e1 (by omega), ob_eq p1, ob_eq q2, ob_eq (show pX9_thrown (v, t).2 = some t from rfl)]
  dsimp only
  rw [tl p2 p3]
  exact ⟨_, rfl, hb, ⟨S, N, P, s0, hr, hc⟩, hh, he, hf, ⟨tg, hg⟩, by show kc + (0 + c) ≤ _; omega, by show ks + (0 + k) ≤ _; omega⟩
theorem law12 {sN K : Nat} {sF : Nat → Int32} {kc : Nat} {ks : Nat} {vr : RdS} {vn : NiS} {vg : PrS} {vhn : Int32} {vhs : Int32} {vhN : (Nat → NiS)} {vhP : (Nat → PrS)} {vt : ReS} {vu : ReS} {vp : PlS} {vq : DeS} {ve : Int32} {m_a : (Nat → Int32)} {m_kept : (Nat → Int32)} {m_keptMany : Int32} {m_thrown : Int32} {m_buffer : (Nat → Int32)} {m_buffered : Int32} {m_errorAt : Int32} {m_fixedSlot : Int32} {m_giving : Int32} {m_givenTarget : Int32} {vo : (Nat → Int64)} (h1 : 6 * K + 6 ≤ sN) (hsN : sN ≤ 3072) (hI : LI K kc ks vr vn vg vhn vhs vhN vhP vt vu vp vq ve m_a m_kept m_keptMany m_buffer m_buffered m_errorAt m_fixedSlot m_giving m_givenTarget) : ∃ z, lpL_law_1999_909 sN sF (nI (6 * K)) vn m_a kc ks m_thrown vo = some z ∧ LI (K + 1) z.1 z.2.1 vr vn vg vhn vhs vhN vhP vt vu vp vq ve m_a m_kept m_keptMany m_buffer m_buffered m_errorAt m_fixedSlot m_giving m_givenTarget := by
  obtain ⟨hb, ⟨S, N, P, s0, hr, hc⟩, hh, he, hf, ⟨tg, hg⟩, hk, hs⟩ := hI
  have e1 : nI (6 * K) + (1 : Int32) = nI (6 * K + 1) := adds rfl rfl rfl
  have e2 : nI (6 * K) + (2 : Int32) = nI (6 * K + 2) := adds rfl rfl rfl
  obtain ⟨o, c, k, v, t, q1, q2, q3, q4, q5⟩ := s_clearRun hr (sF (6 * K + 1)) (sF (6 * K + 2))
  have hp : ∃ (kk : Int32) (vo' : Nat → Int64), pL_clearRun_1 (sF (6 * K + 1)) (sF (6 * K + 2)) vn vo = some (kk, vo', 0 + c, 0 + k) ∧ t = kk ∧ (kk = 0 → vo' 0 = v.toInt64) := by
    unfold pL_clearRun_1
    rw [ob_eq q1]
    rcases q3 with ⟨rfl, rfl⟩ | ⟨rfl, rfl⟩ | ⟨g, rfl, rfl⟩
    · exact ⟨_, _, rfl, rfl, fun _ => upL0 _ _⟩
    · refine ⟨1, vo, ?_, rfl, fun e => absurd e (by decide)⟩
      dsimp only
      rw [if_pos rfl]
    · refine ⟨2, vo, ?_, rfl, fun e => absurd e (by decide)⟩
      dsimp only
      rw [if_neg (by decide +kernel), if_pos rfl]
  obtain ⟨kk, vo', p1, p2, p3⟩ := hp
  unfold lpL_law_1999_909
  rw [if_neg (in_ok e1 (show 6 * K + 1 < sN by omega) (by omega)), if_neg (in_ok e2 (show 6 * K + 2 < sN by omega) (by omega)), clampN e1 (by omega), clampN e2 (by omega), ob_eq p1, ob_eq q2, ob_eq (show pX9_thrown (v, t).2 = some t from rfl)]
  dsimp only
  rw [tl p2 p3]
  exact ⟨_, rfl, hb, ⟨S, N, P, s0, hr, hc⟩, hh, he, hf, ⟨tg, hg⟩, by show kc + (0 + c) ≤ _; omega, by show ks + (0 + k) ≤ _; omega⟩
theorem law19 {sN K : Nat} {sF : Nat → Int32} {kc : Nat} {ks : Nat} {vr : RdS} {vn : NiS} {vg : PrS} {vhn : Int32} {vhs : Int32} {vhN : (Nat → NiS)} {vhP : (Nat → PrS)} {vt : ReS} {vu : ReS} {vp : PlS} {vq : DeS} {ve : Int32} {m_a : (Nat → Int32)} {m_kept : (Nat → Int32)} {m_keptMany : Int32} {m_thrown : Int32} {m_buffer : (Nat → Int32)} {m_buffered : Int32} {m_errorAt : Int32} {m_fixedSlot : Int32} {m_giving : Int32} {m_givenTarget : Int32} {vo : (Nat → Int64)} (h1 : 6 * K + 6 ≤ sN) (hsN : sN ≤ 3072) (hI : LI K kc ks vr vn vg vhn vhs vhN vhP vt vu vp vq ve m_a m_kept m_keptMany m_buffer m_buffered m_errorAt m_fixedSlot m_giving m_givenTarget) : ∃ z, lpL_law_1999_1229 sN sF (nI (6 * K)) vn vg m_a kc ks m_thrown vo = some z ∧ LI (K + 1) z.1 z.2.1 vr vn vg vhn vhs vhN vhP vt vu vp vq ve m_a m_kept m_keptMany m_buffer m_buffered m_errorAt m_fixedSlot m_giving m_givenTarget := by
  obtain ⟨hb, ⟨S, N, P, s0, hr, hc⟩, hh, he, hf, ⟨tg, hg⟩, hk, hs⟩ := hI
  have e1 : nI (6 * K) + (1 : Int32) = nI (6 * K + 1) := adds rfl rfl rfl
  obtain ⟨o, c, k, v, t, q1, q2, q3, q4, q5⟩ := s_turnsOf hr (sF (6 * K + 1))
  have hp : ∃ (kk : Int32) (vo' : Nat → Int64), pL_turnsOf_1 (sF (6 * K + 1)) vn vg vo = some (kk, vo', 0 + c, 0 + k) ∧ t = kk ∧ (kk = 0 → vo' 0 = v.toInt64) := by
    unfold pL_turnsOf_1
    rw [ob_eq q1]
    rcases q3 with ⟨rfl, rfl⟩ | ⟨rfl, rfl⟩ | ⟨g, rfl, rfl⟩
    · exact ⟨_, _, rfl, rfl, fun _ => upL0 _ _⟩
    · refine ⟨1, vo, ?_, rfl, fun e => absurd e (by decide)⟩
      dsimp only
      rw [if_pos rfl]
    · exact absurd rfl g
  obtain ⟨kk, vo', p1, p2, p3⟩ := hp
  unfold lpL_law_1999_1229
  rw [if_neg (in_ok e1 (show 6 * K + 1 < sN by omega) (by omega)), clampN e1 (by omega), ob_eq p1, ob_eq q2, ob_eq (show pX9_thrown (v, t).2 = some t from rfl)]
  dsimp only
  rw [tl p2 p3]
  exact ⟨_, rfl, hb, ⟨S, N, P, s0, hr, hc⟩, hh, he, hf, ⟨tg, hg⟩, by show kc + (0 + c) ≤ _; omega, by show ks + (0 + k) ≤ _; omega⟩
theorem law20 {sN K : Nat} {sF : Nat → Int32} {kc : Nat} {ks : Nat} {vr : RdS} {vn : NiS} {vg : PrS} {vhn : Int32} {vhs : Int32} {vhN : (Nat → NiS)} {vhP : (Nat → PrS)} {vt : ReS} {vu : ReS} {vp : PlS} {vq : DeS} {ve : Int32} {m_a : (Nat → Int32)} {m_kept : (Nat → Int32)} {m_keptMany : Int32} {m_thrown : Int32} {m_buffer : (Nat → Int32)} {m_buffered : Int32} {m_errorAt : Int32} {m_fixedSlot : Int32} {m_giving : Int32} {m_givenTarget : Int32} {vo : (Nat → Int64)} (h1 : 6 * K + 6 ≤ sN) (hsN : sN ≤ 3072) (hI : LI K kc ks vr vn vg vhn vhs vhN vhP vt vu vp vq ve m_a m_kept m_keptMany m_buffer m_buffered m_errorAt m_fixedSlot m_giving m_givenTarget) : ∃ z, lpL_law_1999_1285 sN sF (nI (6 * K)) vn vg m_a kc ks m_thrown vo = some z ∧ LI (K + 1) z.1 z.2.1 vr vn vg vhn vhs vhN vhP vt vu vp vq ve m_a m_kept m_keptMany m_buffer m_buffered m_errorAt m_fixedSlot m_giving m_givenTarget := by
  obtain ⟨hb, ⟨S, N, P, s0, hr, hc⟩, hh, he, hf, ⟨tg, hg⟩, hk, hs⟩ := hI
  have e1 : nI (6 * K) + (1 : Int32) = nI (6 * K + 1) := adds rfl rfl rfl
  obtain ⟨o, c, k, v, t, q1, q2, q3, q4, q5⟩ := s_exposures hr (sF (6 * K + 1))
  have hp : ∃ (kk : Int32) (vo' : Nat → Int64), pL_exposures_1 (sF (6 * K + 1)) vn vg vo = some (kk, vo', 0 + c, 0 + k) ∧ t = kk ∧ (kk = 0 → vo' 0 = v.toInt64) := by
    unfold pL_exposures_1
    rw [ob_eq q1]
    rcases q3 with ⟨rfl, rfl⟩ | ⟨rfl, rfl⟩ | ⟨g, rfl, rfl⟩
    · exact ⟨_, _, rfl, rfl, fun _ => upL0 _ _⟩
    · refine ⟨1, vo, ?_, rfl, fun e => absurd e (by decide)⟩
      dsimp only
      rw [if_pos rfl]
    · exact absurd rfl g
  obtain ⟨kk, vo', p1, p2, p3⟩ := hp
  unfold lpL_law_1999_1285
  rw [if_neg (in_ok e1 (show 6 * K + 1 < sN by omega) (by omega)), clampN e1 (by omega), ob_eq p1, ob_eq q2, ob_eq (show pX9_thrown (v, t).2 = some t from rfl)]
  dsimp only
  rw [tl p2 p3]
  exact ⟨_, rfl, hb, ⟨S, N, P, s0, hr, hc⟩, hh, he, hf, ⟨tg, hg⟩, by show kc + (0 + c) ≤ _; omega, by show ks + (0 + k) ≤ _; omega⟩
theorem law21 {sN K : Nat} {sF : Nat → Int32} {kc : Nat} {ks : Nat} {vr : RdS} {vn : NiS} {vg : PrS} {vhn : Int32} {vhs : Int32} {vhN : (Nat → NiS)} {vhP : (Nat → PrS)} {vt : ReS} {vu : ReS} {vp : PlS} {vq : DeS} {ve : Int32} {m_a : (Nat → Int32)} {m_kept : (Nat → Int32)} {m_keptMany : Int32} {m_thrown : Int32} {m_buffer : (Nat → Int32)} {m_buffered : Int32} {m_errorAt : Int32} {m_fixedSlot : Int32} {m_giving : Int32} {m_givenTarget : Int32} {vo : (Nat → Int64)} (h1 : 6 * K + 6 ≤ sN) (hsN : sN ≤ 3072) (hI : LI K kc ks vr vn vg vhn vhs vhN vhP vt vu vp vq ve m_a m_kept m_keptMany m_buffer m_buffered m_errorAt m_fixedSlot m_giving m_givenTarget) : ∃ z, lpL_law_1999_1341 sN sF (nI (6 * K)) vn vg m_a kc ks m_thrown vo = some z ∧ LI (K + 1) z.1 z.2.1 vr vn vg vhn vhs vhN vhP vt vu vp vq ve m_a m_kept m_keptMany m_buffer m_buffered m_errorAt m_fixedSlot m_giving m_givenTarget := by
  obtain ⟨hb, ⟨S, N, P, s0, hr, hc⟩, hh, he, hf, ⟨tg, hg⟩, hk, hs⟩ := hI
  have e1 : nI (6 * K) + (1 : Int32) = nI (6 * K + 1) := adds rfl rfl rfl
  have e2 : nI (6 * K) + (2 : Int32) = nI (6 * K + 2) := adds rfl rfl rfl
  obtain ⟨o, c, k, v, t, q1, q2, q3, q4, q5⟩ := s_past hr (sF (6 * K + 1)) (sF (6 * K + 2))
  have hp : ∃ (kk : Int32) (vo' : Nat → Int64), pL_past_1 (sF (6 * K + 1)) (sF (6 * K + 2)) vn vg vo = some (kk, vo', 0 + c, 0 + k) ∧ t = kk ∧ (kk = 0 → vo' 0 = v.toInt64) := by
    unfold pL_past_1
    rw [ob_eq q1]
    rcases q3 with ⟨rfl, rfl⟩ | ⟨rfl, rfl⟩ | ⟨g, rfl, rfl⟩
    · exact ⟨_, _, rfl, rfl, fun _ => upL0 _ _⟩
    · refine ⟨1, vo, ?_, rfl, fun e => absurd e (by decide)⟩
      dsimp only
      rw [if_pos rfl]
    · refine ⟨2, vo, ?_, rfl, fun e => absurd e (by decide)⟩
      dsimp only
      rw [if_neg (by decide +kernel), if_pos rfl]
  obtain ⟨kk, vo', p1, p2, p3⟩ := hp
  unfold lpL_law_1999_1341
  rw [if_neg (in_ok e1 (show 6 * K + 1 < sN by omega) (by omega)), if_neg (in_ok e2 (show 6 * K + 2 < sN by omega) (by omega)), clampN e1 (by omega), clampN e2 (by omega), ob_eq p1, ob_eq q2, ob_eq (show pX9_thrown (v, t).2 = some t from rfl)]
  dsimp only
  rw [tl p2 p3]
  exact ⟨_, rfl, hb, ⟨S, N, P, s0, hr, hc⟩, hh, he, hf, ⟨tg, hg⟩, by show kc + (0 + c) ≤ _; omega, by show ks + (0 + k) ≤ _; omega⟩
theorem law2 {sN K : Nat} {sF : Nat → Int32} {kc : Nat} {ks : Nat} {vr : RdS} {vn : NiS} {vg : PrS} {vhn : Int32} {vhs : Int32} {vhN : (Nat → NiS)} {vhP : (Nat → PrS)} {vt : ReS} {vu : ReS} {vp : PlS} {vq : DeS} {ve : Int32} {m_a : (Nat → Int32)} {m_kept : (Nat → Int32)} {m_keptMany : Int32} {m_thrown : Int32} {m_buffer : (Nat → Int32)} {m_buffered : Int32} {m_errorAt : Int32} {m_fixedSlot : Int32} {m_giving : Int32} {m_givenTarget : Int32} (h1 : 6 * K + 6 ≤ sN) (hsN : sN ≤ 3072) (hI : LI K kc ks vr vn vg vhn vhs vhN vhP vt vu vp vq ve m_a m_kept m_keptMany m_buffer m_buffered m_errorAt m_fixedSlot m_giving m_givenTarget) : ∃ z, lpL_law_1999_368 sN sF ve m_errorAt m_thrown = some z ∧ LI (K + 1) kc ks vr vn vg vhn vhs vhN vhP vt vu vp vq ve m_a m_kept m_keptMany m_buffer m_buffered m_errorAt m_fixedSlot m_giving m_givenTarget := by
  obtain ⟨hb, ⟨S, N, P, s0, hr, hc⟩, hh, he, hf, ⟨tg, hg⟩, hk, hs⟩ := hI
  unfold lpL_law_1999_368
  rw [ob_eq (show pX8_errorPosition ve = some ve from rfl), ob_eq (show pX9_errorPosition m_errorAt = some m_errorAt from rfl), if_pos he]
  exact ⟨_, rfl, hb, ⟨S, N, P, s0, hr, hc⟩, hh, he, hf, ⟨tg, hg⟩, by omega, by omega⟩
theorem law18 {sN K : Nat} {sF : Nat → Int32} {kc : Nat} {ks : Nat} {vr : RdS} {vn : NiS} {vg : PrS} {vhn : Int32} {vhs : Int32} {vhN : (Nat → NiS)} {vhP : (Nat → PrS)} {vt : ReS} {vu : ReS} {vp : PlS} {vq : DeS} {ve : Int32} {m_a : (Nat → Int32)} {m_kept : (Nat → Int32)} {m_keptMany : Int32} {m_thrown : Int32} {m_buffer : (Nat → Int32)} {m_buffered : Int32} {m_errorAt : Int32} {m_turnsBy : (Nat → Int32)} {m_fixedSlot : Int32} {m_giving : Int32} {m_givenTarget : Int32} (h1 : 6 * K + 6 ≤ sN) (hsN : sN ≤ 3072) (hI : LI K kc ks vr vn vg vhn vhs vhN vhP vt vu vp vq ve m_a m_kept m_keptMany m_buffer m_buffered m_errorAt m_fixedSlot m_giving m_givenTarget) : ∃ z, lpL_law_1999_1216 sN sF vn vg m_a m_thrown m_turnsBy = some z ∧ LI (K + 1) kc ks vr vn vg vhn vhs vhN vhP vt vu vp vq ve m_a m_kept m_keptMany m_buffer m_buffered m_errorAt m_fixedSlot m_giving m_givenTarget := by
  obtain ⟨hb, ⟨S, N, P, s0, hr, hc⟩, hh, he, hf, ⟨tg, hg⟩, hk, hs⟩ := hI
  obtain ⟨v, tb', q1, q2⟩ := s_inTurn (tb := m_turnsBy) hr
  unfold lpL_law_1999_1216
  rw [ob_eq q1, ob_eq q2, if_pos rfl]
  exact ⟨_, rfl, hb, ⟨S, N, P, s0, hr, hc⟩, hh, he, hf, ⟨tg, hg⟩, by omega, by omega⟩
theorem law22 {sN K : Nat} {sF : Nat → Int32} {kc : Nat} {ks : Nat} {vr : RdS} {vn : NiS} {vg : PrS} {vhn : Int32} {vhs : Int32} {vhN : (Nat → NiS)} {vhP : (Nat → PrS)} {vt : ReS} {vu : ReS} {vp : PlS} {vq : DeS} {ve : Int32} {m_a : (Nat → Int32)} {m_kept : (Nat → Int32)} {m_keptMany : Int32} {m_thrown : Int32} {m_buffer : (Nat → Int32)} {m_buffered : Int32} {m_errorAt : Int32} {m_turnsBy : (Nat → Int32)} {m_inTurnAt : (Nat → Int32)} {m_isState : (Nat → Int32)} {m_best : (Nat → Int64)} {m_seen : (Nat → Int32)} {m_fixedSlot : Int32} {m_fixedTarget : Int32} {m_giving : Int32} {m_givenTarget : Int32} (h1 : 6 * K + 6 ≤ sN) (hsN : sN ≤ 3072) (hI : LI K kc ks vr vn vg vhn vhs vhN vhP vt vu vp vq ve m_a m_kept m_keptMany m_buffer m_buffered m_errorAt m_fixedSlot m_giving m_givenTarget) : ∃ z, lpL_law_1999_1409 sN sF vn vg m_a m_fixedSlot m_fixedTarget kc ks vt vu vp m_thrown m_turnsBy m_inTurnAt m_isState m_best m_seen = some z ∧ LI (K + 1) z.1 z.2.1 vr vn vg vhn vhs vhN vhP z.2.2.1 z.2.2.2.1 z.2.2.2.2.1 vq ve m_a m_kept m_keptMany m_buffer m_buffered m_errorAt m_fixedSlot m_giving m_givenTarget := by
  obtain ⟨hb, ⟨S, N, P, s0, hr, hc⟩, hh, he, hf, ⟨tg, hg⟩, hk, hs⟩ := hI
  subst hf
  obtain ⟨v, vt', vu', vp', c, k, m, q1, q2, q4⟩ := w_planValue (tb := m_turnsBy) (it := m_inTurnAt) (is := m_isState) (sn := m_seen) (best := m_best) (fT := m_fixedTarget) hr hc.1
  unfold lpL_law_1999_1409
  rw [ob_eq q1, ob_eq q2, if_pos (by rw [lg_cmp_eq])]
  obtain ⟨hc2, c3, c4⟩ := CA_B hc q4
  exact ⟨_, rfl, hb, ⟨S, N, P, s0, hr, hc2⟩, hh, he, rfl, ⟨tg, hg⟩, by show kc + c ≤ _; omega, by show ks + k ≤ _ + wg vt' vu' vp' vq; omega⟩
theorem law25 {sN K : Nat} {sF : Nat → Int32} {kc : Nat} {ks : Nat} {vr : RdS} {vn : NiS} {vg : PrS} {vhn : Int32} {vhs : Int32} {vhN : (Nat → NiS)} {vhP : (Nat → PrS)} {vt : ReS} {vu : ReS} {vp : PlS} {vq : DeS} {ve : Int32} {m_a : (Nat → Int32)} {m_kept : (Nat → Int32)} {m_keptMany : Int32} {m_thrown : Int32} {m_buffer : (Nat → Int32)} {m_buffered : Int32} {m_errorAt : Int32} {m_turnsBy : (Nat → Int32)} {m_inTurnAt : (Nat → Int32)} {m_isState : (Nat → Int32)} {m_best : (Nat → Int64)} {m_seen : (Nat → Int32)} {m_fixedSlot : Int32} {m_fixedTarget : Int32} {m_ways : (Nat → Int64)} {m_waysNow : (Nat → Int64)} {m_giving : Int32} {m_givenTarget : Int32} (h1 : 6 * K + 6 ≤ sN) (hsN : sN ≤ 3072) (hI : LI K kc ks vr vn vg vhn vhs vhN vhP vt vu vp vq ve m_a m_kept m_keptMany m_buffer m_buffered m_errorAt m_fixedSlot m_giving m_givenTarget) : ∃ z, lpL_law_1999_1546 sN sF vn vg m_a m_fixedSlot m_fixedTarget kc ks vt vu vp m_thrown m_turnsBy m_inTurnAt m_isState m_best m_seen m_ways m_waysNow = some z ∧ LI (K + 1) z.1 z.2.1 vr vn vg vhn vhs vhN vhP z.2.2.1 z.2.2.2.1 z.2.2.2.2.1 vq ve m_a m_kept m_keptMany m_buffer m_buffered m_errorAt m_fixedSlot m_giving m_givenTarget := by
  obtain ⟨hb, ⟨S, N, P, s0, hr, hc⟩, hh, he, hf, ⟨tg, hg⟩, hk, hs⟩ := hI
  subst hf
  obtain ⟨v, vt', vu', vp', c, k, m, q1, q2, q4⟩ := w_planCount (tb := m_turnsBy) (it := m_inTurnAt) (is := m_isState) (sn := m_seen) (best := m_best) (fT := m_fixedTarget) (ws := m_ways) (wn := m_waysNow) hr hc.1
  unfold lpL_law_1999_1546
  rw [ob_eq q1, ob_eq q2, if_pos (by rw [lg_cmp_eq])]
  obtain ⟨hc2, c3, c4⟩ := CA_B hc q4
  exact ⟨_, rfl, hb, ⟨S, N, P, s0, hr, hc2⟩, hh, he, rfl, ⟨tg, hg⟩, by show kc + c ≤ _; omega, by show ks + k ≤ _ + wg vt' vu' vp' vq; omega⟩
theorem law27 {sN K : Nat} {sF : Nat → Int32} {kc : Nat} {ks : Nat} {vr : RdS} {vn : NiS} {vg : PrS} {vhn : Int32} {vhs : Int32} {vhN : (Nat → NiS)} {vhP : (Nat → PrS)} {vt : ReS} {vu : ReS} {vp : PlS} {vq : DeS} {ve : Int32} {m_a : (Nat → Int32)} {m_kept : (Nat → Int32)} {m_keptMany : Int32} {m_thrown : Int32} {m_buffer : (Nat → Int32)} {m_buffered : Int32} {m_errorAt : Int32} {m_turnsBy : (Nat → Int32)} {m_inTurnAt : (Nat → Int32)} {m_isState : (Nat → Int32)} {m_best : (Nat → Int64)} {m_seen : (Nat → Int32)} {m_fixedSlot : Int32} {m_fixedTarget : Int32} {m_giving : Int32} {m_givenTarget : Int32} (h1 : 6 * K + 6 ≤ sN) (hsN : sN ≤ 3072) (hI : LI K kc ks vr vn vg vhn vhs vhN vhP vt vu vp vq ve m_a m_kept m_keptMany m_buffer m_buffered m_errorAt m_fixedSlot m_giving m_givenTarget) : ∃ z, lpL_law_1999_1615 sN sF vn vg m_a m_fixedSlot m_fixedTarget kc ks vt vu vp m_thrown m_turnsBy m_inTurnAt m_isState m_best m_seen = some z ∧ LI (K + 1) z.1 z.2.1 vr vn vg vhn vhs vhN vhP z.2.2.1 z.2.2.2.1 z.2.2.2.2.1 vq ve m_a m_kept m_keptMany m_buffer m_buffered m_errorAt m_fixedSlot m_giving m_givenTarget := by
  obtain ⟨hb, ⟨S, N, P, s0, hr, hc⟩, hh, he, hf, ⟨tg, hg⟩, hk, hs⟩ := hI
  subst hf
  obtain ⟨v, vt', vu', vp', c, k, m, q1, q2, q4⟩ := w_price (tb := m_turnsBy) (it := m_inTurnAt) (is := m_isState) (sn := m_seen) (best := m_best) (fT := m_fixedTarget) hr hc.1
  unfold lpL_law_1999_1615
  rw [ob_eq q1, ob_eq q2, if_pos (by rw [lg_cmp_eq])]
  obtain ⟨hc2, c3, c4⟩ := CA_B hc q4
  exact ⟨_, rfl, hb, ⟨S, N, P, s0, hr, hc2⟩, hh, he, rfl, ⟨tg, hg⟩, by show kc + c ≤ _; omega, by show ks + k ≤ _ + wg vt' vu' vp' vq; omega⟩
theorem law23 {sN K : Nat} {sF : Nat → Int32} {kc : Nat} {ks : Nat} {vr : RdS} {vn : NiS} {vg : PrS} {vhn : Int32} {vhs : Int32} {vhN : (Nat → NiS)} {vhP : (Nat → PrS)} {vt : ReS} {vu : ReS} {vp : PlS} {vq : DeS} {ve : Int32} {m_a : (Nat → Int32)} {m_kept : (Nat → Int32)} {m_keptMany : Int32} {m_thrown : Int32} {m_buffer : (Nat → Int32)} {m_buffered : Int32} {m_errorAt : Int32} {m_turnsBy : (Nat → Int32)} {m_inTurnAt : (Nat → Int32)} {m_isState : (Nat → Int32)} {m_best : (Nat → Int64)} {m_seen : (Nat → Int32)} {m_fixedSlot : Int32} {m_fixedTarget : Int32} {m_giving : Int32} {m_givenTarget : Int32} {vo : (Nat → Int64)} (h1 : 6 * K + 6 ≤ sN) (hsN : sN ≤ 3072) (hI : LI K kc ks vr vn vg vhn vhs vhN vhP vt vu vp vq ve m_a m_kept m_keptMany m_buffer m_buffered m_errorAt m_fixedSlot m_giving m_givenTarget) : ∃ z, lpL_law_1999_1423 sN sF (nI (6 * K)) vn vg m_a m_fixedSlot m_fixedTarget kc ks vt vu vp m_thrown m_turnsBy m_inTurnAt m_isState m_best m_seen vo = some z ∧ LI (K + 1) z.1 z.2.1 vr vn vg vhn vhs vhN vhP z.2.2.1 z.2.2.2.1 z.2.2.2.2.1 vq ve m_a m_kept m_keptMany m_buffer m_buffered m_errorAt m_fixedSlot m_giving m_givenTarget := by
  obtain ⟨hb, ⟨S, N, P, s0, hr, hc⟩, hh, he, hf, ⟨tg, hg⟩, hk, hs⟩ := hI
  have e1 : nI (6 * K) + (1 : Int32) = nI (6 * K + 1) := adds rfl rfl rfl
  subst hf
  obtain ⟨o, vt', vu', vp', c, k, v, t, m, q1, q2, q3, q4⟩ := w_planned (tb := m_turnsBy) (it := m_inTurnAt) (is := m_isState) (sn := m_seen) (best := m_best) (fT := m_fixedTarget) hr hc.1 (sF (6 * K + 1))
  have hp : ∃ (kk : Int32) (vo' : Nat → Int64), pL_planned_1 (sF (6 * K + 1)) vn vg vt vu vp vo = some (kk, vt', vu', vp', vo', 0 + c, 0 + k) ∧ t = kk ∧ (kk = 0 → vo' 0 = v.toInt64) := by
    unfold pL_planned_1
    rw [ob_eq q1]
    rcases q3 with ⟨rfl, rfl⟩ | ⟨rfl, rfl⟩ | ⟨g, rfl, rfl⟩
    · exact ⟨_, _, rfl, rfl, fun _ => upL0 _ _⟩
    · refine ⟨1, vo, ?_, rfl, fun e => absurd e (by decide)⟩
      dsimp only
      rw [if_pos rfl]
    · exact absurd rfl g
  obtain ⟨kk, vo', p1, p2, p3⟩ := hp
  unfold lpL_law_1999_1423
  rw [if_neg (in_ok e1 (show 6 * K + 1 < sN by omega) (by omega)), clampN e1 (by omega), ob_eq p1, ob_eq q2, ob_eq (show pX9_thrown (v, t, m).2.1 = some t from rfl)]
  dsimp only
  rw [tl p2 p3]
  obtain ⟨hc2, c3, c4⟩ := CA_B hc q4
  exact ⟨_, rfl, hb, ⟨S, N, P, s0, hr, hc2⟩, hh, he, rfl, ⟨tg, hg⟩, by show kc + (0 + c) ≤ _; omega, by show ks + (0 + k) ≤ _ + wg vt' vu' vp' vq; omega⟩
theorem law26 {sN K : Nat} {sF : Nat → Int32} {kc : Nat} {ks : Nat} {vr : RdS} {vn : NiS} {vg : PrS} {vhn : Int32} {vhs : Int32} {vhN : (Nat → NiS)} {vhP : (Nat → PrS)} {vt : ReS} {vu : ReS} {vp : PlS} {vq : DeS} {ve : Int32} {m_a : (Nat → Int32)} {m_kept : (Nat → Int32)} {m_keptMany : Int32} {m_thrown : Int32} {m_buffer : (Nat → Int32)} {m_buffered : Int32} {m_errorAt : Int32} {m_turnsBy : (Nat → Int32)} {m_inTurnAt : (Nat → Int32)} {m_isState : (Nat → Int32)} {m_best : (Nat → Int64)} {m_seen : (Nat → Int32)} {m_fixedSlot : Int32} {m_fixedTarget : Int32} {m_giving : Int32} {m_givenTarget : Int32} {vo : (Nat → Int64)} (h1 : 6 * K + 6 ≤ sN) (hsN : sN ≤ 3072) (hI : LI K kc ks vr vn vg vhn vhs vhN vhP vt vu vp vq ve m_a m_kept m_keptMany m_buffer m_buffered m_errorAt m_fixedSlot m_giving m_givenTarget) : ∃ z, lpL_law_1999_1560 sN sF (nI (6 * K)) vn vg m_a m_fixedSlot m_fixedTarget kc ks vt vu vp m_thrown m_turnsBy m_inTurnAt m_isState m_best m_seen vo = some z ∧ LI (K + 1) z.1 z.2.1 vr vn vg vhn vhs vhN vhP z.2.2.1 z.2.2.2.1 z.2.2.2.2.1 vq ve m_a m_kept m_keptMany m_buffer m_buffered m_errorAt m_fixedSlot m_giving m_givenTarget := by
  obtain ⟨hb, ⟨S, N, P, s0, hr, hc⟩, hh, he, hf, ⟨tg, hg⟩, hk, hs⟩ := hI
  have e1 : nI (6 * K) + (1 : Int32) = nI (6 * K + 1) := adds rfl rfl rfl
  subst hf
  obtain ⟨o, vt', vu', vp', c, k, v, t, m, q1, q2, q3, q4⟩ := w_worth (tb := m_turnsBy) (it := m_inTurnAt) (is := m_isState) (sn := m_seen) (best := m_best) (fT := m_fixedTarget) hr hc.1 (sF (6 * K + 1))
  have hp : ∃ (kk : Int32) (vo' : Nat → Int64), pL_worth_1 (sF (6 * K + 1)) vn vg vt vu vp vo = some (kk, vt', vu', vp', vo', 0 + c, 0 + k) ∧ t = kk ∧ (kk = 0 → vo' 0 = v) := by
    unfold pL_worth_1
    rw [ob_eq q1]
    rcases q3 with ⟨rfl, rfl⟩ | ⟨rfl, rfl⟩ | ⟨g, rfl, rfl⟩
    · exact ⟨_, _, rfl, rfl, fun _ => upL0 _ _⟩
    · refine ⟨1, vo, ?_, rfl, fun e => absurd e (by decide)⟩
      dsimp only
      rw [if_pos rfl]
    · exact absurd rfl g
  obtain ⟨kk, vo', p1, p2, p3⟩ := hp
  unfold lpL_law_1999_1560
  rw [if_neg (in_ok e1 (show 6 * K + 1 < sN by omega) (by omega)), clampN e1 (by omega), ob_eq p1, ob_eq q2, ob_eq (show pX9_thrown (v, t, m).2.1 = some t from rfl)]
  dsimp only
  rw [tl p2 p3]
  obtain ⟨hc2, c3, c4⟩ := CA_B hc q4
  exact ⟨_, rfl, hb, ⟨S, N, P, s0, hr, hc2⟩, hh, he, rfl, ⟨tg, hg⟩, by show kc + (0 + c) ≤ _; omega, by show ks + (0 + k) ≤ _ + wg vt' vu' vp' vq; omega⟩
theorem law24 {sN K : Nat} {sF : Nat → Int32} {kc : Nat} {ks : Nat} {vr : RdS} {vn : NiS} {vg : PrS} {vhn : Int32} {vhs : Int32} {vhN : (Nat → NiS)} {vhP : (Nat → PrS)} {vt : ReS} {vu : ReS} {vp : PlS} {vq : DeS} {ve : Int32} {m_a : (Nat → Int32)} {m_kept : (Nat → Int32)} {m_keptMany : Int32} {m_thrown : Int32} {m_buffer : (Nat → Int32)} {m_buffered : Int32} {m_errorAt : Int32} {m_turnsBy : (Nat → Int32)} {m_inTurnAt : (Nat → Int32)} {m_isState : (Nat → Int32)} {m_best : (Nat → Int64)} {m_seen : (Nat → Int32)} {m_fixedSlot : Int32} {m_fixedTarget : Int32} {m_giving : Int32} {m_givenTarget : Int32} {vo : (Nat → Int64)} (h1 : 6 * K + 6 ≤ sN) (hsN : sN ≤ 3072) (hI : LI K kc ks vr vn vg vhn vhs vhN vhP vt vu vp vq ve m_a m_kept m_keptMany m_buffer m_buffered m_errorAt m_fixedSlot m_giving m_givenTarget) : ∃ z, lpL_law_1999_1479 sN sF (nI (6 * K)) vn vg m_a kc ks vt vu vp m_thrown m_turnsBy m_inTurnAt m_isState m_best m_seen m_fixedSlot m_fixedTarget vo = some z ∧ LI (K + 1) z.1 z.2.1 vr vn vg vhn vhs vhN vhP z.2.2.1 z.2.2.2.1 z.2.2.2.2.1 vq ve m_a m_kept m_keptMany m_buffer m_buffered m_errorAt z.2.2.2.2.2.2.2.2.2.2.2.1 m_giving m_givenTarget := by
  obtain ⟨hb, ⟨S, N, P, s0, hr, hc⟩, hh, he, hf, ⟨tg, hg⟩, hk, hs⟩ := hI
  have e1 : nI (6 * K) + (1 : Int32) = nI (6 * K + 1) := adds rfl rfl rfl
  have e2 : nI (6 * K) + (2 : Int32) = nI (6 * K + 2) := adds rfl rfl rfl
  subst hf
  obtain ⟨o, vt', vu', vp', c, k, v, t, fT', m, q1, q2, q3, q4⟩ := w_with (tb := m_turnsBy) (it := m_inTurnAt) (is := m_isState) (sn := m_seen) (best := m_best) (fT := m_fixedTarget) hr hc.1 (sF (6 * K + 1)) (sF (6 * K + 2))
  have hp : ∃ (kk : Int32) (vo' : Nat → Int64), pL_planValueWith_1 (sF (6 * K + 1)) (sF (6 * K + 2)) vn vg vt vu vp vo = some (kk, vt', vu', vp', vo', 0 + c, 0 + k) ∧ t = kk ∧ (kk = 0 → vo' 0 = v) := by
    unfold pL_planValueWith_1
    rw [ob_eq q1]
    rcases q3 with ⟨rfl, rfl⟩ | ⟨rfl, rfl⟩ | ⟨g, rfl, rfl⟩
    · exact ⟨_, _, rfl, rfl, fun _ => upL0 _ _⟩
    · refine ⟨1, vo, ?_, rfl, fun e => absurd e (by decide)⟩
      dsimp only
      rw [if_pos rfl]
    · refine ⟨2, vo, ?_, rfl, fun e => absurd e (by decide)⟩
      dsimp only
      rw [if_neg (by decide +kernel), if_pos rfl]
  obtain ⟨kk, vo', p1, p2, p3⟩ := hp
  unfold lpL_law_1999_1479
  rw [if_neg (in_ok e1 (show 6 * K + 1 < sN by omega) (by omega)), if_neg (in_ok e2 (show 6 * K + 2 < sN by omega) (by omega)), clampN e1 (by omega), clampN e2 (by omega), ob_eq p1, ob_eq q2, ob_eq (show pX9_thrown (v, t, (-1 : Int32), fT', m).2.1 = some t from rfl)]
  dsimp only
  rw [tl p2 p3]
  obtain ⟨hc2, c3, c4⟩ := CA_B hc q4
  exact ⟨_, rfl, hb, ⟨S, N, P, s0, hr, hc2⟩, hh, he, rfl, ⟨tg, hg⟩, by show kc + (0 + c) ≤ _; omega, by show ks + (0 + k) ≤ _ + wg vt' vu' vp' vq; omega⟩
theorem law28 {sN K : Nat} {sF : Nat → Int32} {kc : Nat} {ks : Nat} {vr : RdS} {vn : NiS} {vg : PrS} {vhn : Int32} {vhs : Int32} {vhN : (Nat → NiS)} {vhP : (Nat → PrS)} {vt : ReS} {vu : ReS} {vp : PlS} {vq : DeS} {ve : Int32} {m_a : (Nat → Int32)} {m_kept : (Nat → Int32)} {m_keptMany : Int32} {m_thrown : Int32} {m_buffer : (Nat → Int32)} {m_buffered : Int32} {m_errorAt : Int32} {m_turnsBy : (Nat → Int32)} {m_inTurnAt : (Nat → Int32)} {m_isState : (Nat → Int32)} {m_best : (Nat → Int64)} {m_seen : (Nat → Int32)} {m_fixedSlot : Int32} {m_fixedTarget : Int32} {m_giving : Int32} {m_givenTarget : Int32} (h1 : 6 * K + 6 ≤ sN) (hsN : sN ≤ 3072) (hI : LI K kc ks vr vn vg vhn vhs vhN vhP vt vu vp vq ve m_a m_kept m_keptMany m_buffer m_buffered m_errorAt m_fixedSlot m_giving m_givenTarget) : ∃ z, lpL_law_1999_1629 sN sF (nI (6 * K)) vn vg m_a m_fixedSlot m_fixedTarget kc ks vt vu vp m_thrown m_turnsBy m_inTurnAt m_isState m_best m_seen = some z ∧ LI (K + 1) z.1 z.2.1 vr vn vg vhn vhs vhN vhP z.2.2.1 z.2.2.2.1 z.2.2.2.2.1 vq ve m_a m_kept m_keptMany m_buffer m_buffered m_errorAt m_fixedSlot m_giving m_givenTarget := by
  obtain ⟨hb, ⟨S, N, P, s0, hr, hc⟩, hh, he, hf, ⟨tg, hg⟩, hk, hs⟩ := hI
  have e1 : nI (6 * K) + (1 : Int32) = nI (6 * K + 1) := adds rfl rfl rfl
  subst hf
  unfold lpL_law_1999_1629
  rw [if_neg (in_ok e1 (show 6 * K + 1 < sN by omega) (by omega)), clampN e1 (by omega)]
  by_cases cx : sF (6 * K + 1) = 0
  · obtain ⟨v, vt', vu', vp', c, k, m, q1, q2, q4⟩ := w_most (tb := m_turnsBy) (it := m_inTurnAt) (is := m_isState) (sn := m_seen) (best := m_best) (fT := m_fixedTarget) hr hc.1 0 (Or.inl rfl)
    rw [if_pos cx, ob_eq q1, ob_eq q2, if_pos rfl]
    obtain ⟨hc2, c3, c4⟩ := CA_B hc q4
    exact ⟨_, rfl, hb, ⟨S, N, P, s0, hr, hc2⟩, hh, he, rfl, ⟨tg, hg⟩, by show kc + c ≤ _; omega, by show ks + k ≤ _ + wg vt' vu' vp' vq; omega⟩
  · obtain ⟨v, vt', vu', vp', c, k, m, q1, q2, q4⟩ := w_most (tb := m_turnsBy) (it := m_inTurnAt) (is := m_isState) (sn := m_seen) (best := m_best) (fT := m_fixedTarget) hr hc.1 1 (Or.inr rfl)
    rw [if_neg cx, ob_eq q1, ob_eq q2, if_pos rfl]
    obtain ⟨hc2, c3, c4⟩ := CA_B hc q4
    exact ⟨_, rfl, hb, ⟨S, N, P, s0, hr, hc2⟩, hh, he, rfl, ⟨tg, hg⟩, by show kc + c ≤ _; omega, by show ks + k ≤ _ + wg vt' vu' vp' vq; omega⟩
theorem law29 {sN K : Nat} {sF : Nat → Int32} {kc : Nat} {ks : Nat} {vr : RdS} {vn : NiS} {vg : PrS} {vhn : Int32} {vhs : Int32} {vhN : (Nat → NiS)} {vhP : (Nat → PrS)} {vt : ReS} {vu : ReS} {vp : PlS} {vq : DeS} {ve : Int32} {m_a : (Nat → Int32)} {m_kept : (Nat → Int32)} {m_keptMany : Int32} {m_thrown : Int32} {m_buffer : (Nat → Int32)} {m_buffered : Int32} {m_errorAt : Int32} {m_turnsBy : (Nat → Int32)} {m_inTurnAt : (Nat → Int32)} {m_isState : (Nat → Int32)} {m_seen : (Nat → Int32)} {m_fixedSlot : Int32} {m_giving : Int32} {m_givenTarget : Int32} (h1 : 6 * K + 6 ≤ sN) (hsN : sN ≤ 3072) (hI : LI K kc ks vr vn vg vhn vhs vhN vhP vt vu vp vq ve m_a m_kept m_keptMany m_buffer m_buffered m_errorAt m_fixedSlot m_giving m_givenTarget) : ∃ z, lpL_law_1999_1670 sN sF vn vg m_a vp m_thrown m_turnsBy m_inTurnAt m_isState m_seen = some z ∧ LI (K + 1) kc ks vr vn vg vhn vhs vhN vhP vt vu z.1 vq ve m_a m_kept m_keptMany m_buffer m_buffered m_errorAt m_fixedSlot m_giving m_givenTarget := by
  obtain ⟨hb, ⟨S, N, P, s0, hr, hc⟩, hh, he, hf, ⟨tg, hg⟩, hk, hs⟩ := hI
  obtain ⟨v, m, q1, q2⟩ := w_greedy (tb := m_turnsBy) (it := m_inTurnAt) (is := m_isState) (sn := m_seen) hr
  unfold lpL_law_1999_1670
  rw [ob_eq q1, ob_eq q2, if_pos (by rw [lg_cmp_eq])]
  exact ⟨_, rfl, hb, ⟨S, N, P, s0, hr, ⟨hc.1.1, hc.1.2.1, hc.1.2.2⟩, hc.2⟩, hh, he, hf, ⟨tg, hg⟩, by omega, by show ks ≤ _ + wg vt vu vp vq; omega⟩
theorem law30 {sN K : Nat} {sF : Nat → Int32} {kc : Nat} {ks : Nat} {vr : RdS} {vn : NiS} {vg : PrS} {vhn : Int32} {vhs : Int32} {vhN : (Nat → NiS)} {vhP : (Nat → PrS)} {vt : ReS} {vu : ReS} {vp : PlS} {vq : DeS} {ve : Int32} {m_a : (Nat → Int32)} {m_kept : (Nat → Int32)} {m_keptMany : Int32} {m_thrown : Int32} {m_buffer : (Nat → Int32)} {m_buffered : Int32} {m_errorAt : Int32} {m_turnsBy : (Nat → Int32)} {m_inTurnAt : (Nat → Int32)} {m_isState : (Nat → Int32)} {m_seen : (Nat → Int32)} {m_fixedSlot : Int32} {m_clears : (Nat → Int64)} {m_clouds : (Nat → Int64)} {m_clearsNow : (Nat → Int64)} {m_cloudsNow : (Nat → Int64)} {m_givesClear : (Nat → Int64)} {m_givesCloudy : (Nat → Int64)} {m_givesClearNow : (Nat → Int64)} {m_givesCloudyNow : (Nat → Int64)} {m_giving : Int32} {m_givenTarget : Int32} (h1 : 6 * K + 6 ≤ sN) (hsN : sN ≤ 3072) (hI : LI K kc ks vr vn vg vhn vhs vhN vhP vt vu vp vq ve m_a m_kept m_keptMany m_buffer m_buffered m_errorAt m_fixedSlot m_giving m_givenTarget) : ∃ z, lpL_law_1999_1684 sN sF vn vg m_a m_giving m_givenTarget kc ks vt vq m_thrown m_turnsBy m_inTurnAt m_isState m_seen m_clears m_clouds m_clearsNow m_cloudsNow m_givesClear m_givesCloudy m_givesClearNow m_givesCloudyNow = some z ∧ LI (K + 1) z.1 z.2.1 vr vn vg vhn vhs vhN vhP z.2.2.1 vu vp z.2.2.2.1 ve m_a m_kept m_keptMany m_buffer m_buffered m_errorAt m_fixedSlot m_giving m_givenTarget := by
  obtain ⟨hb, ⟨S, N, P, s0, hr, hc⟩, hh, he, hf, ⟨tg, hg⟩, hk, hs⟩ := hI
  obtain ⟨v, vt', vq', c, k, m, q1, q2, q4⟩ := w_mean (tb := m_turnsBy) (it := m_inTurnAt) (is := m_isState) (sn := m_seen) (cl := m_clears) (cd := m_clouds) (c1 := m_clearsNow) (c2 := m_cloudsNow) (gc := m_givesClear) (gy := m_givesCloudy) (c3 := m_givesClearNow) (c4 := m_givesCloudyNow) hr (CA_cd hc) hg
  unfold lpL_law_1999_1684
  rw [ob_eq q1, ob_eq q2, if_pos (by rw [lg_cmp_eq])]
  obtain ⟨hc2, d3, d4⟩ := CA_D hc q4
  exact ⟨_, rfl, hb, ⟨S, N, P, s0, hr, hc2⟩, hh, he, hf, ⟨tg, hg⟩, by show kc + c ≤ _; omega, by show ks + k ≤ _ + wg vt' vu vp vq'; omega⟩
theorem law31 {sN K : Nat} {sF : Nat → Int32} {kc : Nat} {ks : Nat} {vr : RdS} {vn : NiS} {vg : PrS} {vhn : Int32} {vhs : Int32} {vhN : (Nat → NiS)} {vhP : (Nat → PrS)} {vt : ReS} {vu : ReS} {vp : PlS} {vq : DeS} {ve : Int32} {m_a : (Nat → Int32)} {m_kept : (Nat → Int32)} {m_keptMany : Int32} {m_thrown : Int32} {m_buffer : (Nat → Int32)} {m_buffered : Int32} {m_errorAt : Int32} {m_turnsBy : (Nat → Int32)} {m_inTurnAt : (Nat → Int32)} {m_isState : (Nat → Int32)} {m_seen : (Nat → Int32)} {m_fixedSlot : Int32} {m_clears : (Nat → Int64)} {m_clouds : (Nat → Int64)} {m_clearsNow : (Nat → Int64)} {m_cloudsNow : (Nat → Int64)} {m_givesClear : (Nat → Int64)} {m_givesCloudy : (Nat → Int64)} {m_givesClearNow : (Nat → Int64)} {m_givesCloudyNow : (Nat → Int64)} {m_giving : Int32} {m_givenTarget : Int32} {vo : (Nat → Int64)} (h1 : 6 * K + 6 ≤ sN) (hsN : sN ≤ 3072) (hI : LI K kc ks vr vn vg vhn vhs vhN vhP vt vu vp vq ve m_a m_kept m_keptMany m_buffer m_buffered m_errorAt m_fixedSlot m_giving m_givenTarget) : ∃ z, lpL_law_1999_1698 sN sF (nI (6 * K)) vn vg m_a m_giving m_givenTarget kc ks vt vq m_thrown m_turnsBy m_inTurnAt m_isState m_seen m_clears m_clouds m_clearsNow m_cloudsNow m_givesClear m_givesCloudy m_givesClearNow m_givesCloudyNow vo = some z ∧ LI (K + 1) z.1 z.2.1 vr vn vg vhn vhs vhN vhP z.2.2.1 vu vp z.2.2.2.1 ve m_a m_kept m_keptMany m_buffer m_buffered m_errorAt m_fixedSlot m_giving m_givenTarget := by
  obtain ⟨hb, ⟨S, N, P, s0, hr, hc⟩, hh, he, hf, ⟨tg, hg⟩, hk, hs⟩ := hI
  have e1 : nI (6 * K) + (1 : Int32) = nI (6 * K + 1) := adds rfl rfl rfl
  obtain ⟨o, vt', vq', c, k, v, t, m, q1, q2, q3, q4⟩ := w_meanOf (tb := m_turnsBy) (it := m_inTurnAt) (is := m_isState) (sn := m_seen) (cl := m_clears) (cd := m_clouds) (c1 := m_clearsNow) (c2 := m_cloudsNow) (gc := m_givesClear) (gy := m_givesCloudy) (c3 := m_givesClearNow) (c4 := m_givesCloudyNow) hr (CA_cd hc) hg (sF (6 * K + 1))
  have hp : ∃ (kk : Int32) (vo' : Nat → Int64), pL_meanValueOf_1 (sF (6 * K + 1)) vn vg vt vq vo = some (kk, vt', vq', vo', 0 + c, 0 + k) ∧ t = kk ∧ (kk = 0 → vo' 0 = v) := by
    unfold pL_meanValueOf_1
    rw [ob_eq q1]
    rcases q3 with ⟨rfl, rfl⟩ | ⟨rfl, rfl⟩ | ⟨g, rfl, rfl⟩
    · exact ⟨_, _, rfl, rfl, fun _ => upL0 _ _⟩
    · refine ⟨1, vo, ?_, rfl, fun e => absurd e (by decide)⟩
      dsimp only
      rw [if_pos rfl]
    · refine ⟨2, vo, ?_, rfl, fun e => absurd e (by decide)⟩
      dsimp only
      rw [if_neg (by decide +kernel), if_pos rfl]
  obtain ⟨kk, vo', p1, p2, p3⟩ := hp
  unfold lpL_law_1999_1698
  rw [if_neg (in_ok e1 (show 6 * K + 1 < sN by omega) (by omega)), clampN e1 (by omega), ob_eq p1, ob_eq q2, ob_eq (show pX9_thrown (v, t, m).2.1 = some t from rfl)]
  dsimp only
  rw [tl p2 p3]
  obtain ⟨hc2, d3, d4⟩ := CA_D hc q4
  exact ⟨_, rfl, hb, ⟨S, N, P, s0, hr, hc2⟩, hh, he, hf, ⟨tg, hg⟩, by show kc + (0 + c) ≤ _; omega, by show ks + (0 + k) ≤ _ + wg vt' vu vp vq'; omega⟩
theorem law32 {sN K : Nat} {sF : Nat → Int32} {kc : Nat} {ks : Nat} {vr : RdS} {vn : NiS} {vg : PrS} {vhn : Int32} {vhs : Int32} {vhN : (Nat → NiS)} {vhP : (Nat → PrS)} {vt : ReS} {vu : ReS} {vp : PlS} {vq : DeS} {ve : Int32} {m_a : (Nat → Int32)} {m_kept : (Nat → Int32)} {m_keptMany : Int32} {m_thrown : Int32} {m_buffer : (Nat → Int32)} {m_buffered : Int32} {m_errorAt : Int32} {m_turnsBy : (Nat → Int32)} {m_inTurnAt : (Nat → Int32)} {m_isState : (Nat → Int32)} {m_seen : (Nat → Int32)} {m_fixedSlot : Int32} {m_clears : (Nat → Int64)} {m_clouds : (Nat → Int64)} {m_clearsNow : (Nat → Int64)} {m_cloudsNow : (Nat → Int64)} {m_givesClear : (Nat → Int64)} {m_givesCloudy : (Nat → Int64)} {m_givesClearNow : (Nat → Int64)} {m_givesCloudyNow : (Nat → Int64)} {m_giving : Int32} {m_givenTarget : Int32} {vo : (Nat → Int64)} (h1 : 6 * K + 6 ≤ sN) (hsN : sN ≤ 3072) (hI : LI K kc ks vr vn vg vhn vhs vhN vhP vt vu vp vq ve m_a m_kept m_keptMany m_buffer m_buffered m_errorAt m_fixedSlot m_giving m_givenTarget) : ∃ z, lpL_law_1999_1753 sN sF vn vg m_a m_giving m_givenTarget kc ks vt vq m_thrown m_turnsBy m_inTurnAt m_isState m_seen m_clears m_clouds m_clearsNow m_cloudsNow m_givesClear m_givesCloudy m_givesClearNow m_givesCloudyNow vo = some z ∧ LI (K + 1) z.1 z.2.1 vr vn vg vhn vhs vhN vhP z.2.2.1 vu vp z.2.2.2.1 ve m_a m_kept m_keptMany m_buffer m_buffered m_errorAt m_fixedSlot m_giving m_givenTarget := by
  obtain ⟨hb, ⟨S, N, P, s0, hr, hc⟩, hh, he, hf, ⟨tg, hg⟩, hk, hs⟩ := hI
  obtain ⟨o, vt', vq', c, k, v, t, m, q1, q2, q3, q4⟩ := w_decision (tb := m_turnsBy) (it := m_inTurnAt) (is := m_isState) (sn := m_seen) (cl := m_clears) (cd := m_clouds) (c1 := m_clearsNow) (c2 := m_cloudsNow) (gc := m_givesClear) (gy := m_givesCloudy) (c3 := m_givesClearNow) (c4 := m_givesCloudyNow) hr (CA_cd hc) hg 
  have hp : ∃ (kk : Int32) (vo' : Nat → Int64), pL_decision_1  vn vg vt vq vo = some (kk, vt', vq', vo', 0 + c, 0 + k) ∧ t = kk ∧ (kk = 0 → vo' 0 = v.toInt64) := by
    unfold pL_decision_1
    rw [ob_eq q1]
    rcases q3 with ⟨rfl, rfl⟩ | ⟨rfl, rfl⟩ | ⟨g, rfl, rfl⟩
    · exact ⟨_, _, rfl, rfl, fun _ => upL0 _ _⟩
    · refine ⟨1, vo, ?_, rfl, fun e => absurd e (by decide)⟩
      dsimp only
      rw [if_pos rfl]
    · exact absurd rfl g
  obtain ⟨kk, vo', p1, p2, p3⟩ := hp
  unfold lpL_law_1999_1753
  rw [ob_eq p1, ob_eq q2, ob_eq (show pX9_thrown (v, t, m).2.1 = some t from rfl)]
  dsimp only
  rw [tl p2 p3]
  obtain ⟨hc2, d3, d4⟩ := CA_D hc q4
  exact ⟨_, rfl, hb, ⟨S, N, P, s0, hr, hc2⟩, hh, he, hf, ⟨tg, hg⟩, by show kc + (0 + c) ≤ _; omega, by show ks + (0 + k) ≤ _ + wg vt' vu vp vq'; omega⟩
theorem law36 {sN K : Nat} {sF : Nat → Int32} {kc : Nat} {ks : Nat} {vr : RdS} {vn : NiS} {vg : PrS} {vhn : Int32} {vhs : Int32} {vhN : (Nat → NiS)} {vhP : (Nat → PrS)} {vt : ReS} {vu : ReS} {vp : PlS} {vq : DeS} {ve : Int32} {m_a : (Nat → Int32)} {m_kept : (Nat → Int32)} {m_keptMany : Int32} {m_thrown : Int32} {m_buffer : (Nat → Int32)} {m_buffered : Int32} {m_errorAt : Int32} {m_turnsBy : (Nat → Int32)} {m_inTurnAt : (Nat → Int32)} {m_isState : (Nat → Int32)} {m_seen : (Nat → Int32)} {m_fixedSlot : Int32} {m_clears : (Nat → Int64)} {m_clouds : (Nat → Int64)} {m_clearsNow : (Nat → Int64)} {m_cloudsNow : (Nat → Int64)} {m_givesClear : (Nat → Int64)} {m_givesCloudy : (Nat → Int64)} {m_givesClearNow : (Nat → Int64)} {m_givesCloudyNow : (Nat → Int64)} {m_giving : Int32} {m_givenTarget : Int32} {vo : (Nat → Int64)} (h1 : 6 * K + 6 ≤ sN) (hsN : sN ≤ 3072) (hI : LI K kc ks vr vn vg vhn vhs vhN vhP vt vu vp vq ve m_a m_kept m_keptMany m_buffer m_buffered m_errorAt m_fixedSlot m_giving m_givenTarget) : ∃ z, lpL_law_1999_1921 sN sF vn vg m_a m_giving m_givenTarget kc ks vt vq m_thrown m_turnsBy m_inTurnAt m_isState m_seen m_clears m_clouds m_clearsNow m_cloudsNow m_givesClear m_givesCloudy m_givesClearNow m_givesCloudyNow vo = some z ∧ LI (K + 1) z.1 z.2.1 vr vn vg vhn vhs vhN vhP z.2.2.1 vu vp z.2.2.2.1 ve m_a m_kept m_keptMany m_buffer m_buffered m_errorAt m_fixedSlot m_giving m_givenTarget := by
  obtain ⟨hb, ⟨S, N, P, s0, hr, hc⟩, hh, he, hf, ⟨tg, hg⟩, hk, hs⟩ := hI
  obtain ⟨o, vt', vq', c, k, v, t, m, q1, q2, q3, q4⟩ := w_worthC (tb := m_turnsBy) (it := m_inTurnAt) (is := m_isState) (sn := m_seen) (cl := m_clears) (cd := m_clouds) (c1 := m_clearsNow) (c2 := m_cloudsNow) (gc := m_givesClear) (gy := m_givesCloudy) (c3 := m_givesClearNow) (c4 := m_givesCloudyNow) hr (CA_cd hc) hg 
  have hp : ∃ (kk : Int32) (vo' : Nat → Int64), pL_worthOfClear_1  vn vg vt vq vo = some (kk, vt', vq', vo', 0 + c, 0 + k) ∧ t = kk ∧ (kk = 0 → vo' 0 = v) := by
    unfold pL_worthOfClear_1
    rw [ob_eq q1]
    rcases q3 with ⟨rfl, rfl⟩ | ⟨rfl, rfl⟩ | ⟨g, rfl, rfl⟩
    · exact ⟨_, _, rfl, rfl, fun _ => upL0 _ _⟩
    · refine ⟨1, vo, ?_, rfl, fun e => absurd e (by decide)⟩
      dsimp only
      rw [if_pos rfl]
    · exact absurd rfl g
  obtain ⟨kk, vo', p1, p2, p3⟩ := hp
  unfold lpL_law_1999_1921
  rw [ob_eq p1, ob_eq q2, ob_eq (show pX9_thrown (v, t, m).2.1 = some t from rfl)]
  dsimp only
  rw [tl p2 p3]
  obtain ⟨hc2, d3, d4⟩ := CA_D hc q4
  exact ⟨_, rfl, hb, ⟨S, N, P, s0, hr, hc2⟩, hh, he, hf, ⟨tg, hg⟩, by show kc + (0 + c) ≤ _; omega, by show ks + (0 + k) ≤ _ + wg vt' vu vp vq'; omega⟩
theorem law33 {sN K : Nat} {sF : Nat → Int32} {kc : Nat} {ks : Nat} {vr : RdS} {vn : NiS} {vg : PrS} {vhn : Int32} {vhs : Int32} {vhN : (Nat → NiS)} {vhP : (Nat → PrS)} {vt : ReS} {vu : ReS} {vp : PlS} {vq : DeS} {ve : Int32} {m_a : (Nat → Int32)} {m_kept : (Nat → Int32)} {m_keptMany : Int32} {m_thrown : Int32} {m_buffer : (Nat → Int32)} {m_buffered : Int32} {m_errorAt : Int32} {m_turnsBy : (Nat → Int32)} {m_inTurnAt : (Nat → Int32)} {m_isState : (Nat → Int32)} {m_seen : (Nat → Int32)} {m_fixedSlot : Int32} {m_clears : (Nat → Int64)} {m_clouds : (Nat → Int64)} {m_clearsNow : (Nat → Int64)} {m_cloudsNow : (Nat → Int64)} {m_givesClear : (Nat → Int64)} {m_givesCloudy : (Nat → Int64)} {m_givesClearNow : (Nat → Int64)} {m_givesCloudyNow : (Nat → Int64)} {m_giving : Int32} {m_givenTarget : Int32} {vo : (Nat → Int64)} (h1 : 6 * K + 6 ≤ sN) (hsN : sN ≤ 3072) (hI : LI K kc ks vr vn vg vhn vhs vhN vhP vt vu vp vq ve m_a m_kept m_keptMany m_buffer m_buffered m_errorAt m_fixedSlot m_giving m_givenTarget) : ∃ z, lpL_law_1999_1797 sN sF (nI (6 * K)) vn vg m_a kc ks vt vq m_thrown m_turnsBy m_inTurnAt m_isState m_seen m_clears m_clouds m_clearsNow m_cloudsNow m_givesClear m_givesCloudy m_givesClearNow m_givesCloudyNow m_giving m_givenTarget vo = some z ∧ LI (K + 1) z.1 z.2.1 vr vn vg vhn vhs vhN vhP z.2.2.1 vu vp z.2.2.2.1 ve m_a m_kept m_keptMany m_buffer m_buffered m_errorAt m_fixedSlot z.2.2.2.2.2.2.2.2.2.2.2.2.2.2.2.2.2.1 z.2.2.2.2.2.2.2.2.2.2.2.2.2.2.2.2.2.2.1 := by
  obtain ⟨hb, ⟨S, N, P, s0, hr, hc⟩, hh, he, hf, ⟨tg, hg⟩, hk, hs⟩ := hI
  have e1 : nI (6 * K) + (1 : Int32) = nI (6 * K + 1) := adds rfl rfl rfl
  obtain ⟨o, vt', vq', c, k, v, t, g', gt', m, q1, q2, q3, q4, q5⟩ := w_meanExp (tb := m_turnsBy) (it := m_inTurnAt) (is := m_isState) (sn := m_seen) (cl := m_clears) (cd := m_clouds) (c1 := m_clearsNow) (c2 := m_cloudsNow) (gc := m_givesClear) (gy := m_givesCloudy) (c3 := m_givesClearNow) (c4 := m_givesCloudyNow) hr (CA_cd hc) hg (sF (6 * K + 1))
  have hp : ∃ (kk : Int32) (vo' : Nat → Int64), pL_meanExposures_1 (sF (6 * K + 1)) vn vg vt vq vo = some (kk, vt', vq', vo', 0 + c, 0 + k) ∧ t = kk ∧ (kk = 0 → vo' 0 = v) := by
    unfold pL_meanExposures_1
    rw [ob_eq q1]
    rcases q3 with ⟨rfl, rfl⟩ | ⟨rfl, rfl⟩ | ⟨g, rfl, rfl⟩
    · exact ⟨_, _, rfl, rfl, fun _ => upL0 _ _⟩
    · refine ⟨1, vo, ?_, rfl, fun e => absurd e (by decide)⟩
      dsimp only
      rw [if_pos rfl]
    · exact absurd rfl g
  obtain ⟨kk, vo', p1, p2, p3⟩ := hp
  unfold lpL_law_1999_1797
  rw [if_neg (in_ok e1 (show 6 * K + 1 < sN by omega) (by omega)), clampN e1 (by omega), ob_eq p1, ob_eq q2, ob_eq (show pX9_thrown (v, t, g', gt', m).2.1 = some t from rfl)]
  dsimp only
  rw [tl p2 p3]
  obtain ⟨hc2, d3, d4⟩ := CA_D hc q4
  exact ⟨_, rfl, hb, ⟨S, N, P, s0, hr, hc2⟩, hh, he, hf, q5, by show kc + (0 + c) ≤ _; omega, by show ks + (0 + k) ≤ _ + wg vt' vu vp vq'; omega⟩
theorem law34 {sN K : Nat} {sF : Nat → Int32} {kc : Nat} {ks : Nat} {vr : RdS} {vn : NiS} {vg : PrS} {vhn : Int32} {vhs : Int32} {vhN : (Nat → NiS)} {vhP : (Nat → PrS)} {vt : ReS} {vu : ReS} {vp : PlS} {vq : DeS} {ve : Int32} {m_a : (Nat → Int32)} {m_kept : (Nat → Int32)} {m_keptMany : Int32} {m_thrown : Int32} {m_buffer : (Nat → Int32)} {m_buffered : Int32} {m_errorAt : Int32} {m_turnsBy : (Nat → Int32)} {m_inTurnAt : (Nat → Int32)} {m_isState : (Nat → Int32)} {m_seen : (Nat → Int32)} {m_fixedSlot : Int32} {m_clears : (Nat → Int64)} {m_clouds : (Nat → Int64)} {m_clearsNow : (Nat → Int64)} {m_cloudsNow : (Nat → Int64)} {m_givesClear : (Nat → Int64)} {m_givesCloudy : (Nat → Int64)} {m_givesClearNow : (Nat → Int64)} {m_givesCloudyNow : (Nat → Int64)} {m_giving : Int32} {m_givenTarget : Int32} {vo : (Nat → Int64)} (h1 : 6 * K + 6 ≤ sN) (hsN : sN ≤ 3072) (hI : LI K kc ks vr vn vg vhn vhs vhN vhP vt vu vp vq ve m_a m_kept m_keptMany m_buffer m_buffered m_errorAt m_fixedSlot m_giving m_givenTarget) : ∃ z, lpL_law_1999_1852 sN sF (nI (6 * K)) vn vg m_a kc ks vt vq m_thrown m_turnsBy m_inTurnAt m_isState m_seen m_clears m_clouds m_clearsNow m_cloudsNow m_givesClear m_givesCloudy m_givesClearNow m_givesCloudyNow m_giving m_givenTarget vo = some z ∧ LI (K + 1) z.1 z.2.1 vr vn vg vhn vhs vhN vhP z.2.2.1 vu vp z.2.2.2.1 ve m_a m_kept m_keptMany m_buffer m_buffered m_errorAt m_fixedSlot z.2.2.2.2.2.2.2.2.2.2.2.2.2.2.2.2.2.1 z.2.2.2.2.2.2.2.2.2.2.2.2.2.2.2.2.2.2.1 := by
  obtain ⟨hb, ⟨S, N, P, s0, hr, hc⟩, hh, he, hf, ⟨tg, hg⟩, hk, hs⟩ := hI
  have e1 : nI (6 * K) + (1 : Int32) = nI (6 * K + 1) := adds rfl rfl rfl
  obtain ⟨o, vt', vq', c, k, v, t, g', gt', m, q1, q2, q3, q4, q5⟩ := w_finish (tb := m_turnsBy) (it := m_inTurnAt) (is := m_isState) (sn := m_seen) (cl := m_clears) (cd := m_clouds) (c1 := m_clearsNow) (c2 := m_cloudsNow) (gc := m_givesClear) (gy := m_givesCloudy) (c3 := m_givesClearNow) (c4 := m_givesCloudyNow) hr (CA_cd hc) hg (sF (6 * K + 1))
  have hp : ∃ (kk : Int32) (vo' : Nat → Int64), pL_finishOdds_1 (sF (6 * K + 1)) vn vg vt vq vo = some (kk, vt', vq', vo', 0 + c, 0 + k) ∧ t = kk ∧ (kk = 0 → vo' 0 = v) := by
    unfold pL_finishOdds_1
    rw [ob_eq q1]
    rcases q3 with ⟨rfl, rfl⟩ | ⟨rfl, rfl⟩ | ⟨g, rfl, rfl⟩
    · exact ⟨_, _, rfl, rfl, fun _ => upL0 _ _⟩
    · refine ⟨1, vo, ?_, rfl, fun e => absurd e (by decide)⟩
      dsimp only
      rw [if_pos rfl]
    · exact absurd rfl g
  obtain ⟨kk, vo', p1, p2, p3⟩ := hp
  unfold lpL_law_1999_1852
  rw [if_neg (in_ok e1 (show 6 * K + 1 < sN by omega) (by omega)), clampN e1 (by omega), ob_eq p1, ob_eq q2, ob_eq (show pX9_thrown (v, t, g', gt', m).2.1 = some t from rfl)]
  dsimp only
  rw [tl p2 p3]
  obtain ⟨hc2, d3, d4⟩ := CA_D hc q4
  exact ⟨_, rfl, hb, ⟨S, N, P, s0, hr, hc2⟩, hh, he, hf, q5, by show kc + (0 + c) ≤ _; omega, by show ks + (0 + k) ≤ _ + wg vt' vu vp vq'; omega⟩
theorem law35 {sN K : Nat} {sF : Nat → Int32} {kc : Nat} {ks : Nat} {vr : RdS} {vn : NiS} {vg : PrS} {vhn : Int32} {vhs : Int32} {vhN : (Nat → NiS)} {vhP : (Nat → PrS)} {vt : ReS} {vu : ReS} {vp : PlS} {vq : DeS} {ve : Int32} {m_a : (Nat → Int32)} {m_kept : (Nat → Int32)} {m_keptMany : Int32} {m_thrown : Int32} {m_buffer : (Nat → Int32)} {m_buffered : Int32} {m_errorAt : Int32} {m_turnsBy : (Nat → Int32)} {m_inTurnAt : (Nat → Int32)} {m_isState : (Nat → Int32)} {m_seen : (Nat → Int32)} {m_fixedSlot : Int32} {m_clears : (Nat → Int64)} {m_clouds : (Nat → Int64)} {m_clearsNow : (Nat → Int64)} {m_cloudsNow : (Nat → Int64)} {m_givesClear : (Nat → Int64)} {m_givesCloudy : (Nat → Int64)} {m_givesClearNow : (Nat → Int64)} {m_givesCloudyNow : (Nat → Int64)} {m_giving : Int32} {m_givenTarget : Int32} (h1 : 6 * K + 6 ≤ sN) (hsN : sN ≤ 3072) (hI : LI K kc ks vr vn vg vhn vhs vhN vhP vt vu vp vq ve m_a m_kept m_keptMany m_buffer m_buffered m_errorAt m_fixedSlot m_giving m_givenTarget) : ∃ z, lpL_law_1999_1907 sN sF vn vg m_a kc ks vt vq m_thrown m_turnsBy m_inTurnAt m_isState m_seen m_clears m_clouds m_clearsNow m_cloudsNow m_givesClear m_givesCloudy m_givesClearNow m_givesCloudyNow m_giving m_givenTarget = some z ∧ LI (K + 1) z.1 z.2.1 vr vn vg vhn vhs vhN vhP z.2.2.1 vu vp z.2.2.2.1 ve m_a m_kept m_keptMany m_buffer m_buffered m_errorAt m_fixedSlot z.2.2.2.2.2.2.2.2.2.2.2.2.2.2.2.2.2.1 z.2.2.2.2.2.2.2.2.2.2.2.2.2.2.2.2.2.2 := by
  obtain ⟨hb, ⟨S, N, P, s0, hr, hc⟩, hh, he, hf, ⟨tg, hg⟩, hk, hs⟩ := hI
  obtain ⟨v, vt', vq', c, k, g', gt', m, q1, q2, q4, q5⟩ := w_greedyMean (tb := m_turnsBy) (it := m_inTurnAt) (is := m_isState) (sn := m_seen) (cl := m_clears) (cd := m_clouds) (c1 := m_clearsNow) (c2 := m_cloudsNow) (gc := m_givesClear) (gy := m_givesCloudy) (c3 := m_givesClearNow) (c4 := m_givesCloudyNow) hr (CA_cd hc)
  unfold lpL_law_1999_1907
  rw [ob_eq q1, ob_eq q2, if_pos (by rw [lg_cmp_eq])]
  obtain ⟨hc2, d3, d4⟩ := CA_D hc q4
  exact ⟨_, rfl, hb, ⟨S, N, P, s0, hr, hc2⟩, hh, he, hf, q5, by show kc + c ≤ _; omega, by show ks + k ≤ _ + wg vt' vu vp vq'; omega⟩
theorem law14 {sN K : Nat} {sF : Nat → Int32} {kc : Nat} {ks : Nat} {vr : RdS} {vn : NiS} {vg : PrS} {vhn : Int32} {vhs : Int32} {vhN : (Nat → NiS)} {vhP : (Nat → PrS)} {vt : ReS} {vu : ReS} {vp : PlS} {vq : DeS} {ve : Int32} {m_a : (Nat → Int32)} {m_kept : (Nat → Int32)} {m_keptMany : Int32} {m_thrown : Int32} {m_buffer : (Nat → Int32)} {m_buffered : Int32} {m_errorAt : Int32} {m_turnsBy : (Nat → Int32)} {m_fixedSlot : Int32} {m_giving : Int32} {m_givenTarget : Int32} {vo : (Nat → Int64)} (h1 : 6 * K + 6 ≤ sN) (hsN : sN ≤ 3072) (hI : LI K kc ks vr vn vg vhn vhs vhN vhP vt vu vp vq ve m_a m_kept m_keptMany m_buffer m_buffered m_errorAt m_fixedSlot m_giving m_givenTarget) : ∃ z, lpL_law_1999_1049 sN sF (nI (6 * K)) vn kc ks vg vhn vhs vhN vhP vt vu vp vq m_a m_kept m_keptMany m_thrown m_turnsBy vo = some z ∧ LI (K + 1) z.1 z.2.1 vr vn z.2.2.1 z.2.2.2.1 z.2.2.2.2.1 z.2.2.2.2.2.1 z.2.2.2.2.2.2.1 z.2.2.2.2.2.2.2.1 z.2.2.2.2.2.2.2.2.1 z.2.2.2.2.2.2.2.2.2.1 z.2.2.2.2.2.2.2.2.2.2.1 ve z.2.2.2.2.2.2.2.2.2.2.2.1 z.2.2.2.2.2.2.2.2.2.2.2.2.1 z.2.2.2.2.2.2.2.2.2.2.2.2.2.1 m_buffer m_buffered m_errorAt m_fixedSlot m_giving m_givenTarget := by
  obtain ⟨hb, ⟨S, N, P, s0, hr, hc⟩, hh, he, hf, ⟨tg, hg⟩, hk, hs⟩ := hI
  have e1 : nI (6 * K) + (1 : Int32) = nI (6 * K + 1) := adds rfl rfl rfl
  obtain ⟨o, vg', hn, hs', hN, hP, vt', vu', vp', vq', c, k, v, t, km', a', kept', tb', q1, q2, q3, a1, a2, a3, a4, a5⟩ := w_expose (tb := m_turnsBy) hh hr hc (sF (6 * K + 1))
  have hp : ∃ (kk : Int32) (vo' : Nat → Int64), pL_expose_1 (sF (6 * K + 1)) vn vg vhn vhs vhN vhP vt vu vp vq vo = some (kk, vg', hn, hs', hN, hP, vt', vu', vp', vq', vo', 0 + c, 0 + k) ∧ t = kk ∧ (kk = 0 → vo' 0 = v.toInt64) := by
    unfold pL_expose_1
    rw [ob_eq q1]
    rcases q3 with ⟨rfl, rfl⟩ | ⟨rfl, rfl⟩ | ⟨g, rfl, rfl⟩
    · exact ⟨_, _, rfl, rfl, fun _ => upL0 _ _⟩
    · refine ⟨1, vo, ?_, rfl, fun e => absurd e (by decide)⟩
      dsimp only
      rw [if_pos rfl]
    · refine ⟨2, vo, ?_, rfl, fun e => absurd e (by decide)⟩
      dsimp only
      rw [if_neg (by decide +kernel), if_pos rfl]
  obtain ⟨kk, vo', p1, p2, p3⟩ := hp
  unfold lpL_law_1999_1049
  rw [if_neg (in_ok e1 (show 6 * K + 1 < sN by omega) (by omega)), clampN e1 (by omega), ob_eq p1, ob_eq q2, ob_eq (show pX9_thrown (v, km', t, a', kept', tb').2.2.1 = some t from rfl)]
  dsimp only
  rw [tl p2 p3]
  exact ⟨_, rfl, hb, a2, a1, he, hf, ⟨tg, hg⟩, by show kc + (0 + c) ≤ _; omega, by show ks + (0 + k) ≤ _ + wg vt' vu' vp' vq'; omega⟩
theorem law16 {sN K : Nat} {sF : Nat → Int32} {kc : Nat} {ks : Nat} {vr : RdS} {vn : NiS} {vg : PrS} {vhn : Int32} {vhs : Int32} {vhN : (Nat → NiS)} {vhP : (Nat → PrS)} {vt : ReS} {vu : ReS} {vp : PlS} {vq : DeS} {ve : Int32} {m_a : (Nat → Int32)} {m_kept : (Nat → Int32)} {m_keptMany : Int32} {m_thrown : Int32} {m_buffer : (Nat → Int32)} {m_buffered : Int32} {m_errorAt : Int32} {m_turnsBy : (Nat → Int32)} {m_fixedSlot : Int32} {m_giving : Int32} {m_givenTarget : Int32} {vo : (Nat → Int64)} (h1 : 6 * K + 6 ≤ sN) (hsN : sN ≤ 3072) (hI : LI K kc ks vr vn vg vhn vhs vhN vhP vt vu vp vq ve m_a m_kept m_keptMany m_buffer m_buffered m_errorAt m_fixedSlot m_giving m_givenTarget) : ∃ z, lpL_law_1999_1149 sN sF (nI (6 * K)) vn kc ks vg vhn vhs vhN vhP vt vu vp vq m_a m_kept m_keptMany m_thrown m_turnsBy vo = some z ∧ LI (K + 1) z.1 z.2.1 vr vn z.2.2.1 z.2.2.2.1 z.2.2.2.2.1 z.2.2.2.2.2.1 z.2.2.2.2.2.2.1 z.2.2.2.2.2.2.2.1 z.2.2.2.2.2.2.2.2.1 z.2.2.2.2.2.2.2.2.2.1 z.2.2.2.2.2.2.2.2.2.2.1 ve z.2.2.2.2.2.2.2.2.2.2.2.1 z.2.2.2.2.2.2.2.2.2.2.2.2.1 z.2.2.2.2.2.2.2.2.2.2.2.2.2.1 m_buffer m_buffered m_errorAt m_fixedSlot m_giving m_givenTarget := by
  obtain ⟨hb, ⟨S, N, P, s0, hr, hc⟩, hh, he, hf, ⟨tg, hg⟩, hk, hs⟩ := hI
  have e1 : nI (6 * K) + (1 : Int32) = nI (6 * K + 1) := adds rfl rfl rfl
  obtain ⟨o, vg', hn, hs', hN, hP, vt', vu', vp', vq', c, k, v, t, km', a', kept', tb', q1, q2, q3, a1, a2, a3, a4, a5⟩ := w_waive (tb := m_turnsBy) hh hr hc (sF (6 * K + 1))
  have hp : ∃ (kk : Int32) (vo' : Nat → Int64), pL_waive_1 (sF (6 * K + 1)) vn vg vhn vhs vhN vhP vt vu vp vq vo = some (kk, vg', hn, hs', hN, hP, vt', vu', vp', vq', vo', 0 + c, 0 + k) ∧ t = kk ∧ (kk = 0 → vo' 0 = v.toInt64) := by
    unfold pL_waive_1
    rw [ob_eq q1]
    rcases q3 with ⟨rfl, rfl⟩ | ⟨rfl, rfl⟩ | ⟨g, rfl, rfl⟩
    · exact ⟨_, _, rfl, rfl, fun _ => upL0 _ _⟩
    · refine ⟨1, vo, ?_, rfl, fun e => absurd e (by decide)⟩
      dsimp only
      rw [if_pos rfl]
    · refine ⟨2, vo, ?_, rfl, fun e => absurd e (by decide)⟩
      dsimp only
      rw [if_neg (by decide +kernel), if_pos rfl]
  obtain ⟨kk, vo', p1, p2, p3⟩ := hp
  unfold lpL_law_1999_1149
  rw [if_neg (in_ok e1 (show 6 * K + 1 < sN by omega) (by omega)), clampN e1 (by omega), ob_eq p1, ob_eq q2, ob_eq (show pX9_thrown (v, km', t, a', kept', tb').2.2.1 = some t from rfl)]
  dsimp only
  rw [tl p2 p3]
  exact ⟨_, rfl, hb, a2, a1, he, hf, ⟨tg, hg⟩, by show kc + (0 + c) ≤ _; omega, by show ks + (0 + k) ≤ _ + wg vt' vu' vp' vq'; omega⟩
theorem law15 {sN K : Nat} {sF : Nat → Int32} {kc : Nat} {ks : Nat} {vr : RdS} {vn : NiS} {vg : PrS} {vhn : Int32} {vhs : Int32} {vhN : (Nat → NiS)} {vhP : (Nat → PrS)} {vt : ReS} {vu : ReS} {vp : PlS} {vq : DeS} {ve : Int32} {m_a : (Nat → Int32)} {m_kept : (Nat → Int32)} {m_keptMany : Int32} {m_thrown : Int32} {m_buffer : (Nat → Int32)} {m_buffered : Int32} {m_errorAt : Int32} {m_fixedSlot : Int32} {m_giving : Int32} {m_givenTarget : Int32} {vo : (Nat → Int64)} (h1 : 6 * K + 6 ≤ sN) (hsN : sN ≤ 3072) (hI : LI K kc ks vr vn vg vhn vhs vhN vhP vt vu vp vq ve m_a m_kept m_keptMany m_buffer m_buffered m_errorAt m_fixedSlot m_giving m_givenTarget) : ∃ z, lpL_law_1999_1105 sN sF vn kc ks vg vhn vhs vhN vhP vt vu vp vq m_a m_kept m_keptMany m_thrown vo = some z ∧ LI (K + 1) z.1 z.2.1 vr vn z.2.2.1 z.2.2.2.1 z.2.2.2.2.1 z.2.2.2.2.2.1 z.2.2.2.2.2.2.1 z.2.2.2.2.2.2.2.1 z.2.2.2.2.2.2.2.2.1 z.2.2.2.2.2.2.2.2.2.1 z.2.2.2.2.2.2.2.2.2.2.1 ve z.2.2.2.2.2.2.2.2.2.2.2.1 z.2.2.2.2.2.2.2.2.2.2.2.2.1 z.2.2.2.2.2.2.2.2.2.2.2.2.2.1 m_buffer m_buffered m_errorAt m_fixedSlot m_giving m_givenTarget := by
  obtain ⟨hb, ⟨S, N, P, s0, hr, hc⟩, hh, he, hf, ⟨tg, hg⟩, hk, hs⟩ := hI
  obtain ⟨o, vg', hn, hs', hN, hP, vt', vu', vp', vq', c, k, v, t, km', a', kept', q1, q2, q3, a1, a2, a3, a4, a5⟩ := w_pass hh hr hc 
  have hp : ∃ (kk : Int32) (vo' : Nat → Int64), pL_pass_1  vn vg vhn vhs vhN vhP vt vu vp vq vo = some (kk, vg', hn, hs', hN, hP, vt', vu', vp', vq', vo', 0 + c, 0 + k) ∧ t = kk ∧ (kk = 0 → vo' 0 = v.toInt64) := by
    unfold pL_pass_1
    rw [ob_eq q1]
    rcases q3 with ⟨rfl, rfl⟩ | ⟨rfl, rfl⟩ | ⟨g, rfl, rfl⟩
    · exact ⟨_, _, rfl, rfl, fun _ => upL0 _ _⟩
    · refine ⟨1, vo, ?_, rfl, fun e => absurd e (by decide)⟩
      dsimp only
      rw [if_pos rfl]
    · exact absurd rfl g
  obtain ⟨kk, vo', p1, p2, p3⟩ := hp
  unfold lpL_law_1999_1105
  rw [ob_eq p1, ob_eq q2, ob_eq (show pX9_thrown (v, km', t, a', kept').2.2.1 = some t from rfl)]
  dsimp only
  rw [tl p2 p3]
  exact ⟨_, rfl, hb, a2, a1, he, hf, ⟨tg, hg⟩, by show kc + (0 + c) ≤ _; omega, by show ks + (0 + k) ≤ _ + wg vt' vu' vp' vq'; omega⟩
theorem law13 {sN K : Nat} {sF : Nat → Int32} {kc : Nat} {ks : Nat} {vr : RdS} {vn : NiS} {vg : PrS} {vhn : Int32} {vhs : Int32} {vhN : (Nat → NiS)} {vhP : (Nat → PrS)} {vt : ReS} {vu : ReS} {vp : PlS} {vq : DeS} {ve : Int32} {m_a : (Nat → Int32)} {m_kept : (Nat → Int32)} {m_keptMany : Int32} {m_thrown : Int32} {m_buffer : (Nat → Int32)} {m_buffered : Int32} {m_errorAt : Int32} {m_turnsBy : (Nat → Int32)} {m_fixedSlot : Int32} {m_giving : Int32} {m_givenTarget : Int32} {vo : (Nat → Int64)} (h1 : 6 * K + 6 ≤ sN) (hsN : sN ≤ 3072) (hI : LI K kc ks vr vn vg vhn vhs vhN vhP vt vu vp vq ve m_a m_kept m_keptMany m_buffer m_buffered m_errorAt m_fixedSlot m_giving m_givenTarget) : ∃ z, lpL_law_1999_977 sN sF (nI (6 * K)) vn kc ks vg vhn vhs vhN vhP vt vu vp vq m_a m_kept m_keptMany m_thrown m_turnsBy vo = some z ∧ LI (K + 1) z.1 z.2.1 vr vn z.2.2.1 z.2.2.2.1 z.2.2.2.2.1 z.2.2.2.2.2.1 z.2.2.2.2.2.2.1 z.2.2.2.2.2.2.2.1 z.2.2.2.2.2.2.2.2.1 z.2.2.2.2.2.2.2.2.2.1 z.2.2.2.2.2.2.2.2.2.2.1 ve z.2.2.2.2.2.2.2.2.2.2.2.1 z.2.2.2.2.2.2.2.2.2.2.2.2.1 z.2.2.2.2.2.2.2.2.2.2.2.2.2.1 m_buffer m_buffered m_errorAt m_fixedSlot m_giving m_givenTarget := by
  obtain ⟨hb, ⟨S, N, P, s0, hr, hc⟩, hh, he, hf, ⟨tg, hg⟩, hk, hs⟩ := hI
  have e1 : nI (6 * K) + (1 : Int32) = nI (6 * K + 1) := adds rfl rfl rfl
  unfold lpL_law_1999_977
  rw [if_neg (in_ok e1 (show 6 * K + 1 < sN by omega) (by omega)), clampN e1 (by omega)]
  by_cases cx : sF (6 * K + 1) = 0
  · obtain ⟨o, vg', hn, hs', hN, hP, vt', vu', vp', vq', c, k, v, t, km', a', kept', tb', q1, q2, q3, a1, a2, a3, a4, a5⟩ := w_look (tb := m_turnsBy) hh hr hc (0 : Int32)
    have hp : ∃ (kk : Int32) (vo' : Nat → Int64), pL_look_1 (0 : Int32) vn vg vhn vhs vhN vhP vt vu vp vq vo = some (kk, vg', hn, hs', hN, hP, vt', vu', vp', vq', vo', 0 + c, 0 + k) ∧ t = kk ∧ (kk = 0 → vo' 0 = v.toInt64) := by
      unfold pL_look_1
      rw [ob_eq q1]
      rcases q3 with ⟨rfl, rfl⟩ | ⟨rfl, rfl⟩ | ⟨g, rfl, rfl⟩
      · exact ⟨_, _, rfl, rfl, fun _ => upL0 _ _⟩
      · refine ⟨1, vo, ?_, rfl, fun e => absurd e (by decide)⟩
        dsimp only
        rw [if_pos rfl]
      · exact absurd rfl g
    obtain ⟨kk, vo', p1, p2, p3⟩ := hp
    rw [if_pos cx, ob_eq p1, ob_eq q2, ob_eq (show pX9_thrown (v, km', t, a', kept', tb').2.2.1 = some t from rfl)]
    dsimp only
    rw [tl p2 p3]
    exact ⟨_, rfl, hb, a2, a1, he, hf, ⟨tg, hg⟩, by show kc + (0 + c) ≤ _; omega, by show ks + (0 + k) ≤ _ + wg vt' vu' vp' vq'; omega⟩
  · obtain ⟨o, vg', hn, hs', hN, hP, vt', vu', vp', vq', c, k, v, t, km', a', kept', tb', q1, q2, q3, a1, a2, a3, a4, a5⟩ := w_look (tb := m_turnsBy) hh hr hc (1 : Int32)
    have hp : ∃ (kk : Int32) (vo' : Nat → Int64), pL_look_1 (1 : Int32) vn vg vhn vhs vhN vhP vt vu vp vq vo = some (kk, vg', hn, hs', hN, hP, vt', vu', vp', vq', vo', 0 + c, 0 + k) ∧ t = kk ∧ (kk = 0 → vo' 0 = v.toInt64) := by
      unfold pL_look_1
      rw [ob_eq q1]
      rcases q3 with ⟨rfl, rfl⟩ | ⟨rfl, rfl⟩ | ⟨g, rfl, rfl⟩
      · exact ⟨_, _, rfl, rfl, fun _ => upL0 _ _⟩
      · refine ⟨1, vo, ?_, rfl, fun e => absurd e (by decide)⟩
        dsimp only
        rw [if_pos rfl]
      · exact absurd rfl g
    obtain ⟨kk, vo', p1, p2, p3⟩ := hp
    rw [if_neg cx, ob_eq p1, ob_eq q2, ob_eq (show pX9_thrown (v, km', t, a', kept', tb').2.2.1 = some t from rfl)]
    dsimp only
    rw [tl p2 p3]
    exact ⟨_, rfl, hb, a2, a1, he, hf, ⟨tg, hg⟩, by show kc + (0 + c) ≤ _; omega, by show ks + (0 + k) ≤ _ + wg vt' vu' vp' vq'; omega⟩
theorem law17 {sN K : Nat} {sF : Nat → Int32} {kc : Nat} {ks : Nat} {vr : RdS} {vn : NiS} {vg : PrS} {vhn : Int32} {vhs : Int32} {vhN : (Nat → NiS)} {vhP : (Nat → PrS)} {vt : ReS} {vu : ReS} {vp : PlS} {vq : DeS} {ve : Int32} {m_a : (Nat → Int32)} {m_kept : (Nat → Int32)} {m_keptMany : Int32} {m_thrown : Int32} {m_buffer : (Nat → Int32)} {m_buffered : Int32} {m_errorAt : Int32} {m_fixedSlot : Int32} {m_giving : Int32} {m_givenTarget : Int32} (h1 : 6 * K + 6 ≤ sN) (hsN : sN ≤ 3072) (hI : LI K kc ks vr vn vg vhn vhs vhN vhP vt vu vp vq ve m_a m_kept m_keptMany m_buffer m_buffered m_errorAt m_fixedSlot m_giving m_givenTarget) : ∃ z, lpL_law_1999_1205 sN sF vn vg vhn vhs vhN vhP vt vu vp vq m_a m_kept m_keptMany m_thrown = some z ∧ LI (K + 1) kc ks vr vn z.1 z.2.1 z.2.2.1 z.2.2.2.1 z.2.2.2.2.1 z.2.2.2.2.2.1 z.2.2.2.2.2.2.1 z.2.2.2.2.2.2.2.1 z.2.2.2.2.2.2.2.2.1 ve z.2.2.2.2.2.2.2.2.2.1 z.2.2.2.2.2.2.2.2.2.2.1 z.2.2.2.2.2.2.2.2.2.2.2.1 m_buffer m_buffered m_errorAt m_fixedSlot m_giving m_givenTarget := by
  obtain ⟨hb, ⟨S, N, P, s0, hr, hc⟩, hh, he, hf, ⟨tg, hg⟩, hk, hs⟩ := hI
  obtain ⟨hn, hs', hN, hP, km', a', kept', q1, q2, a1, a2, a3, a4, a5⟩ := w_restart hh hr hc
  unfold lpL_law_1999_1205
  rw [ob_eq q1, ob_eq q2]
  exact ⟨_, rfl, hb, a2, a1, he, hf, ⟨tg, hg⟩, by omega, by show ks ≤ _ + wg (fgR vt) (fgR vu) (fgP vp) (fgQ vq); omega⟩
theorem law37 {sN K : Nat} {sF : Nat → Int32} {kc : Nat} {ks : Nat} {vr : RdS} {vn : NiS} {vg : PrS} {vhn : Int32} {vhs : Int32} {vhN : (Nat → NiS)} {vhP : (Nat → PrS)} {vt : ReS} {vu : ReS} {vp : PlS} {vq : DeS} {ve : Int32} {m_a : (Nat → Int32)} {m_kept : (Nat → Int32)} {m_keptMany : Int32} {m_thrown : Int32} {m_buffer : (Nat → Int32)} {m_buffered : Int32} {m_errorAt : Int32} {m_fixedSlot : Int32} {m_giving : Int32} {m_givenTarget : Int32} {vo : (Nat → Int64)} (h1 : 6 * K + 6 ≤ sN) (hsN : sN ≤ 3072) (hI : LI K kc ks vr vn vg vhn vhs vhN vhP vt vu vp vq ve m_a m_kept m_keptMany m_buffer m_buffered m_errorAt m_fixedSlot m_giving m_givenTarget) : ∃ z, lpL_law_1999_1964 sN sF vhN vhP m_kept kc ks vn vg vhn vhs vt vu vp vq m_a m_keptMany m_thrown vo = some z ∧ LI (K + 1) z.1 z.2.1 vr z.2.2.1 z.2.2.2.1 z.2.2.2.2.1 z.2.2.2.2.2.1 vhN vhP z.2.2.2.2.2.2.1 z.2.2.2.2.2.2.2.1 z.2.2.2.2.2.2.2.2.1 z.2.2.2.2.2.2.2.2.2.1 ve z.2.2.2.2.2.2.2.2.2.2.1 m_kept z.2.2.2.2.2.2.2.2.2.2.2.1 m_buffer m_buffered m_errorAt m_fixedSlot m_giving m_givenTarget := by
  obtain ⟨hb, ⟨S, N, P, s0, hr, hc⟩, hh, he, hf, ⟨tg, hg⟩, hk, hs⟩ := hI
  obtain ⟨o, vn', vg', hn, hs', vt', vu', vp', vq', c, k, v, t, km', a', q1, q2, q3, a1, a2, a3, a4, a5⟩ := w_undo hh hr hc
  have hp : ∃ (kk : Int32) (vo' : Nat → Int64), pL_undo_1 vn vg vhn vhs vhN vhP vt vu vp vq vo = some (kk, vn', vg', hn, hs', vt', vu', vp', vq', vo', 0 + c, 0 + k) ∧ t = kk ∧ (kk = 0 → vo' 0 = v.toInt64) := by
    unfold pL_undo_1
    rw [ob_eq q1]
    rcases q3 with ⟨rfl, rfl⟩ | ⟨rfl, rfl⟩ | ⟨g, rfl, rfl⟩
    · exact ⟨_, _, rfl, rfl, fun _ => upL0 _ _⟩
    · refine ⟨1, vo, ?_, rfl, fun e => absurd e (by decide)⟩
      dsimp only
      rw [if_pos rfl]
    · exact absurd rfl g
  obtain ⟨kk, vo', p1, p2, p3⟩ := hp
  unfold lpL_law_1999_1964
  rw [ob_eq p1, ob_eq q2, ob_eq (show pX9_thrown (v, km', t, a').2.2.1 = some t from rfl)]
  dsimp only
  rw [tl p2 p3]
  exact ⟨_, rfl, hb, a2, a1, he, hf, ⟨tg, hg⟩, by show kc + (0 + c) ≤ _; omega, by show ks + (0 + k) ≤ _ + wg vt' vu' vp' vq'; omega⟩
theorem law1 {sN K : Nat} {sF : Nat → Int32} {kc : Nat} {ks : Nat} {vr : RdS} {vd : NiS} {vn : NiS} {vg : PrS} {vhn : Int32} {vhs : Int32} {vhN : (Nat → NiS)} {vhP : (Nat → PrS)} {vt : ReS} {vu : ReS} {vp : PlS} {vq : DeS} {ve : Int32} {m_a : (Nat → Int32)} {m_fresh : (Nat → Int32)} {m_kept : (Nat → Int32)} {m_keptMany : Int32} {m_thrown : Int32} {m_buffer : (Nat → Int32)} {m_buffered : Int32} {m_size : Int32} {m_at : Int32} {m_behind : Int32} {m_kind : Int32} {m_wrong : Int32} {m_wrongAt : Int32} {m_errorAt : Int32} {m_number : Int64} {m_hasMoon : Int32} {m_hasSky : Int32} {m_fixedSlot : Int32} {m_giving : Int32} {m_givenTarget : Int32} {vo : (Nat → Int64)} (h1 : 6 * K + 6 ≤ sN) (hsN : sN ≤ 3072) (hI : LI K kc ks vr vn vg vhn vhs vhN vhP vt vu vp vq ve m_a m_kept m_keptMany m_buffer m_buffered m_errorAt m_fixedSlot m_giving m_givenTarget) : ∃ z, lpL_law_1999_312 sN sF (nI (6 * K)) m_buffer kc ks vr vd vn vg vhn vhs vhN vhP vt vu vp vq ve m_a m_fresh m_kept m_keptMany m_thrown m_buffered m_size m_at m_behind m_kind m_wrong m_wrongAt m_errorAt m_number m_hasMoon m_hasSky vo = some z ∧ LI (K + 1) z.1 z.2.1 z.2.2.1 z.2.2.2.2.1 z.2.2.2.2.2.1 z.2.2.2.2.2.2.1 z.2.2.2.2.2.2.2.1 z.2.2.2.2.2.2.2.2.1 z.2.2.2.2.2.2.2.2.2.1 z.2.2.2.2.2.2.2.2.2.2.1 z.2.2.2.2.2.2.2.2.2.2.2.1 z.2.2.2.2.2.2.2.2.2.2.2.2.1 z.2.2.2.2.2.2.2.2.2.2.2.2.2.1 z.2.2.2.2.2.2.2.2.2.2.2.2.2.2.1 z.2.2.2.2.2.2.2.2.2.2.2.2.2.2.2.1 z.2.2.2.2.2.2.2.2.2.2.2.2.2.2.2.2.2.1 z.2.2.2.2.2.2.2.2.2.2.2.2.2.2.2.2.2.2.1 m_buffer z.2.2.2.2.2.2.2.2.2.2.2.2.2.2.2.2.2.2.2.2.1 z.2.2.2.2.2.2.2.2.2.2.2.2.2.2.2.2.2.2.2.2.2.2.2.2.2.2.2.1 m_fixedSlot m_giving m_givenTarget := by
  obtain ⟨hb, ⟨S, N, P, s0, hr, hc⟩, hh, he, hf, ⟨tg, hg⟩, hk, hs⟩ := hI
  have e1 : nI (6 * K) + (1 : Int32) = nI (6 * K + 1) := adds rfl rfl rfl
  obtain ⟨o, ve', vr', vd', vn', vg', hn, hs', hN, hP, vt', vu', vp', vq', c, k, v, t, km', mb', sz, at', bh, kd, wr, wA, eA, num', hm2, hs2, a', fresh', kept', q1, q2, q3, ⟨a1, a2, a3, a4, a5⟩, b1, b2⟩ := w_load (vd := vd) (fresh := m_fresh) (m1 := m_size) (m2 := m_at) (m3 := m_behind) (m4 := m_kind) (m5 := m_wrong) (m6 := m_wrongAt) (m8 := m_hasMoon) (m9 := m_hasSky) (num := m_number) hh hr hc hb he (sF (6 * K + 1))
  have hp : ∃ (kk : Int32) (vo' : Nat → Int64), pL_load_1 (sF (6 * K + 1)) vr vd vn vg vhn vhs vhN vhP vt vu vp vq ve vo = some (kk, ve', vr', vd', vn', vg', hn, hs', hN, hP, vt', vu', vp', vq', vo', 0 + c, 0 + k) ∧ t = kk ∧ (kk = 0 → vo' 0 = v.toInt64) := by
    unfold pL_load_1
    rw [ob_eq q1]
    rcases q3 with ⟨rfl, rfl⟩ | ⟨rfl, rfl⟩ | ⟨g, rfl, rfl⟩
    · exact ⟨_, _, rfl, rfl, fun _ => upL0 _ _⟩
    · refine ⟨1, vo, ?_, rfl, fun e => absurd e (by decide)⟩
      dsimp only
      rw [if_pos rfl]
    · exact absurd rfl g
  obtain ⟨kk, vo', p1, p2, p3⟩ := hp
  unfold lpL_law_1999_312
  rw [if_neg (in_ok e1 (show 6 * K + 1 < sN by omega) (by omega)), clampN e1 (by omega), ob_eq p1, ob_eq q2, ob_eq (show pX9_thrown (v, km', t, mb', sz, at', bh, kd, wr, wA, eA, num', hm2, hs2, a', fresh', kept').2.2.1 = some t from rfl)]
  dsimp only
  rw [tl p2 p3]
  exact ⟨_, rfl, b1, a2, a1, b2, hf, ⟨tg, hg⟩, by show kc + (0 + c) ≤ _; omega, by show ks + (0 + k) ≤ _ + wg vt' vu' vp' vq'; omega⟩
theorem law0 {sN K : Nat} {sF : Nat → Int32} {kc : Nat} {ks : Nat} {vr : RdS} {vn : NiS} {vg : PrS} {vhn : Int32} {vhs : Int32} {vhN : (Nat → NiS)} {vhP : (Nat → PrS)} {vt : ReS} {vu : ReS} {vp : PlS} {vq : DeS} {ve : Int32} {m_a : (Nat → Int32)} {m_kept : (Nat → Int32)} {m_keptMany : Int32} {m_thrown : Int32} {m_buffer : (Nat → Int32)} {m_buffered : Int32} {m_errorAt : Int32} {m_fixedSlot : Int32} {m_giving : Int32} {m_givenTarget : Int32} {vo : (Nat → Int64)} (h1 : 6 * K + 6 ≤ sN) (hsN : sN ≤ 3072) (hI : LI K kc ks vr vn vg vhn vhs vhN vhP vt vu vp vq ve m_a m_kept m_keptMany m_buffer m_buffered m_errorAt m_fixedSlot m_giving m_givenTarget) : ∃ z, lpL_law_1999_208 sN sF (nI (6 * K)) kc ks vr m_thrown m_buffer m_buffered vo = some z ∧ LI (K + 1) z.1 z.2.1 z.2.2.1 vn vg vhn vhs vhN vhP vt vu vp vq ve m_a m_kept m_keptMany z.2.2.2.2.1 z.2.2.2.2.2.1 m_errorAt m_fixedSlot m_giving m_givenTarget := by
  obtain ⟨hb, ⟨S, N, P, s0, hr, hc⟩, hh, he, hf, ⟨tg, hg⟩, hk, hs⟩ := hI
  have e1 : nI (6 * K) + (1 : Int32) = nI (6 * K + 1) := adds rfl rfl rfl
  have e2 : nI (6 * K) + (2 : Int32) = nI (6 * K + 2) := adds rfl rfl rfl
  have e3 : nI (6 * K) + (3 : Int32) = nI (6 * K + 3) := adds rfl rfl rfl
  have e4 : nI (6 * K) + (4 : Int32) = nI (6 * K + 4) := adds rfl rfl rfl
  have e5 : nI (6 * K) + (5 : Int32) = nI (6 * K + 5) := adds rfl rfl rfl
  obtain ⟨o, vr', c, k, v, t, mb', b', q1, q2, q3, b1, q4, q5⟩ := w_append hb (sF (6 * K + 1)) (sF (6 * K + 2)) (sF (6 * K + 3)) (sF (6 * K + 4)) (sF (6 * K + 5))
  have hp : ∃ (kk : Int32) (vo' : Nat → Int64), pL_append_1 (sF (6 * K + 1)) (sF (6 * K + 2)) (sF (6 * K + 3)) (sF (6 * K + 4)) (sF (6 * K + 5)) vr vo = some (kk, vr', vo', 0 + c, 0 + k) ∧ t = kk ∧ (kk = 0 → vo' 0 = v.toInt64) := by
    unfold pL_append_1
    rw [ob_eq q1]
    rcases q3 with ⟨rfl, rfl⟩ | ⟨rfl, rfl⟩ | ⟨g, rfl, rfl⟩
    · exact ⟨_, _, rfl, rfl, fun _ => upL0 _ _⟩
    · refine ⟨1, vo, ?_, rfl, fun e => absurd e (by decide)⟩
      dsimp only
      rw [if_pos rfl]
    · exact absurd rfl g
  obtain ⟨kk, vo', p1, p2, p3⟩ := hp
  unfold lpL_law_1999_208
  rw [if_neg (in_ok e1 (show 6 * K + 1 < sN by omega) (by omega)), if_neg (in_ok e2 (show 6 * K + 2 < sN by omega) (by omega)), if_neg (in_ok e3 (show 6 * K + 3 < sN by omega) (by omega)), if_neg (in_ok e4 (show 6 * K + 4 < sN by omega) (by omega)), if_neg (in_ok e5 (show 6 * K + 5 < sN by omega) (by omega)), clampN e1 (by omega), clampN e2 (by omega), clampN e3 (by omega), clampN e4 (by omega), clampN e5 (by omega), ob_eq p1, ob_eq q2, ob_eq (show pX9_thrown (v, t, mb', b').2.1 = some t from rfl)]
  dsimp only
  rw [tl p2 p3]
  exact ⟨_, rfl, b1, ⟨S, N, P, s0, hr, hc⟩, hh, he, hf, ⟨tg, hg⟩, by show kc + (0 + c) ≤ _; omega, by show ks + (0 + k) ≤ _; omega⟩
