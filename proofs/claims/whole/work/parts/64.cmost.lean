/-! THE CLASS'S PLANS, FROM THE END TO THE PRESENT -/
/-- the night and the progress of the class beside a row -/
def PR (P s0 : Nat) (a : Nat → Int32) (v : PrS) : Prop :=
  v.1 = nI P ∧ v.2.1 = a 67 ∧ v.2.2.1 = a 66 ∧ v.2.2.2.1 = a 68 ∧ v.2.2.2.2.1 = nI s0 ∧ (∀ t, t < P → v.2.2.2.2.2.1 t = a (75 + t)) ∧ ∀ t, t < P → v.2.2.2.2.2.2 t = a (87 + t)
def sky3 (x : Int32) : Prop := x = 0 ∨ x = 1 ∨ x = 2
def SR (S N P s0 : Nat) (a : Nat → Int32) (vn : NiS) (vg : PrS) : Prop :=
  Sit S N P s0 a ∧ a 65 = nI P ∧ (∀ k, k < 6 → a (69 + k) = nI (dg s0 k)) ∧ sky3 (a 67) ∧ (P = S → a 67 = 0) ∧ (∀ t, t < P → sky3 (a (87 + t))) ∧ NR S N a vn ∧ PR P s0 a vg
def PV (a : Nat → Int32) (S N P s0 : Nat) (v : PlS) : Prop :=
  Len v.2.2.2.1 ∧ v.2.2.2.2.2.1 = v.2.2.2.1 ∧ v.2.2.2.2.2.2.2.1 = v.2.2.2.1 ∧ (v.2.2.2.2.2.2.2.2.2.1 = 0 ∨ (v.2.2.2.2.2.2.2.2.2.2.1 = Vd a S N P 0 0 0 (S - P) s0 ∧ v.2.2.2.2.2.2.2.2.2.2.2.1 = Wd a S N P (S - P) s0 ∧ v.2.2.2.2.2.2.2.2.2.2.2.2 = lN (Fn a S N P (S - P) s0)))
theorem cp_room {N n : Nat} {vs ws fi : Nat → Int64} (hN : N ≤ 6) (hl : Len n) : ∃ n' vs' ws' fi' c k, pX4_makeRoom (nI (4 ^ N)) n vs n ws n fi = some (n', vs', n', ws', n', fi', c, k) ∧ 4 ^ N ≤ n' ∧ Len n' ∧ c ≤ 3 ∧ k + 6 * n ≤ 6 * n' := by
  have hp := pow_le6 hN
  have hn := Len_lt hl
  unfold pX4_makeRoom
  by_cases hc : nI (4 ^ N) ≤ nI n
  · rw [if_pos hc]
    exact ⟨n, vs, ws, fi, 0, 0, rfl, (nI_leI (by omega) (by omega)).mp hc, hl, by omega, by omega⟩
  · have hc2 : n < 4 ^ N := by
      rw [nI_leI (by omega) (by omega)] at hc
      omega
    have h2 := Len_two hl hc2
    rw [if_neg hc, nI_clamp (by omega : 4 ^ N < 2 ^ 31), if_neg (fun q => q.elim (nI_pos (by omega)) (fun q => by omega))]
    exact ⟨4 ^ N, _, _, _, 3, ((0 + 4 ^ N) + 4 ^ N) + 4 ^ N, rfl, Nat.le_refl _, Or.inr ⟨N, hN, rfl⟩, by omega, by omega⟩
theorem cp_init2 {a : Nat → Int32} {S N P s0 n l kd fs ft : Nat} {b : Bool} {e st : Nat → Nat} {sz : Nat} {states wanting earliest : Nat → Int32} (hR : RowN S N a) (hn : n < 60000) (hn4 : 4 ^ N ≤ n) (hl : l < 60000) (hl4 : 4 ^ N ≤ l) (hv : RVc b a S N P s0 e st sz (4 ^ N) states wanting earliest) : ∀ (fu q : Nat) (vs ws fi : Nat → Int64), q ≤ sz → sz - q < fu → (∀ r, r < q → CI a S N P kd fs ft e S (st r) vs ws fi) →
    ∃ vs' ws' fi', lpX4_most_61_3 n n n (nI sz) l states fu (nI q) vs ws fi = some (nI sz, vs', ws', fi') ∧ ∀ r, r < sz → CI a S N P kd fs ft e S (st r) vs' ws' fi'
  | 0, _, _, _, _, _, h, _ => by omega
  | fu + 1, q, vs, ws, fi, hq, hf, hi => by
    have hN := hR.2.2.1
    have hp := pow_le6 hN
    have hsz := hv.2.2.2.1
    by_cases eq : q = sz
    · subst eq
      refine ⟨vs, ws, fi, ?_, hi⟩
      unfold lpX4_most_61_3
      rw [if_pos (nI_le (Nat.le_refl _) (by omega))]
    · have hqs : q < sz := by omega
      obtain ⟨q1, q2, q3⟩ := hv.1 q hqs
      have heS := (hv.2.2.2.2.2.2.2.1 (st q) q3).1
      obtain ⟨vs', ws', fi', i1, i2⟩ := cp_init2 hR hn hn4 hl hl4 hv fu (q + 1) (vp_updL vs (st q) 0) (vp_updL ws (st q) 1) (vp_updL fi (st q) 0) (by omega) (by omega) (fun r hr => by
        by_cases er : r = q
        · subst er
          unfold CI
          rw [pk_uLs, pk_uLs, pk_uLs, show S - max S (e (st r)) = 0 by omega]
          exact ⟨rfl, fun _ => ⟨rfl, rfl⟩⟩
        · have hne : st r ≠ st q := fun h => by have := hv.2.1 r q (by omega) hqs; omega
          have h5 := hi r (by omega)
          unfold CI at h5 ⊢
          rw [pk_uLn hne, pk_uLn hne, pk_uLn hne]
          exact h5)
      refine ⟨vs', ws', fi', ?_, i2⟩
      unfold lpX4_most_61_3 pX4_put
      rw [if_neg (nI_ge hqs (by omega)), if_neg (nI_in (show q < l by omega) (by omega)), nI_clamp (by omega : q < 2 ^ 31), q1, if_neg (nI_in (show st q < n by omega) (by omega)), if_neg (nI_in (show st q < n by omega) (by omega)), if_neg (nI_in (show st q < n by omega) (by omega)), nI_clamp (by omega : st q < 2 ^ 31), ob_eq rfl, nI_1 q]
      exact i1
theorem cp_down2 {b : Bool} {a f od sn : Nat → Int32} {S N P s0 n l kd fs ft : Nat} {x2 x3 : Int32} {e st : Nat → Nat} {sz : Nat} {states wanting earliest : Nat → Int32} (hR : RowN S N a) (hu : Nu N a f) (ho : ∀ t, t < S → od t = odF a t) (hsn : ∀ t, t < S → sn t = msk (obs a · t) N) (hP : P ≤ S) (hK : Kc kd fs ft x2 x3) (hb : b = kb kd) (hf0 : kd = 0 → fs = 0 ∧ ft = 0) (hn : n < 60000) (hn4 : 4 ^ N ≤ n) (hl : l < 60000) (hl4 : 4 ^ N ≤ l)
    (hv : RVc b a S N P s0 e st sz (4 ^ N) states wanting earliest) : ∀ (fu u : Nat) (vs ws fi : Nat → Int64), P ≤ u → u ≤ S → u - P < fu → (∀ r, r < sz → CI a S N P kd fs ft e u (st r) vs ws fi) →
    ∃ y vs' ws' fi', lpX4_most_103_4 (nI kd) x2 x3 n n n (nI S) (nI N) f sn od (nI P) (a 67) (nI sz) l states l wanting l earliest fu (nI u + (-1 : Int32)) vs ws fi = some (y, vs', ws', fi') ∧ ∀ r, r < sz → CI a S N P kd fs ft e P (st r) vs' ws' fi'
  | 0, _, _, _, _, _, _, h, _ => by omega
  | fu + 1, u, vs, ws, fi, hu1, hu2, hf, hi => by
    have hN := hR.2.2.1
    have hS := hR.2.1
    have hp := pow_le6 hN
    have hsz := hv.2.2.2.1
    by_cases e1 : u = P
    · subst e1
      refine ⟨nI u + (-1 : Int32), vs, ws, fi, ?_, hi⟩
      unfold lpX4_most_103_4
      rw [if_pos (dn_lt (by omega))]
    · obtain ⟨t, rfl⟩ : ∃ t, u = t + 1 := ⟨u - 1, by omega⟩
      obtain ⟨v1, w1, f1, j1, j2⟩ := cp_step2 hR hu ho hsn hP (show t < S by omega) hK hb hf0 hn hn4 hl hl4 hv lpF 0 vs ws fi (by omega) (by have := lpF_big; omega) (fun r hr => by rw [if_neg (by omega)]; exact hi r hr)
      obtain ⟨y, vs', ws', fi', i1, i2⟩ := cp_down2 hR hu ho hsn hP hK hb hf0 hn hn4 hl hl4 hv fu t v1 w1 f1 (by omega) (by omega) (by omega) j2
      refine ⟨y, vs', ws', fi', ?_, i2⟩
      unfold lpX4_most_103_4 pX4_stepBack_2
      rw [pk_m1, if_neg (nI_nlt (by omega) (by omega)), ob_eq (show lpX4_stepBack_2_2 (nI t) (nI kd) x2 x3 n n n (nI S) (nI N) f sn od (nI P) (a 67) (nI sz) l states l wanting l earliest lpF (0 : Int32) vs ws fi = _ from j1), ob_eq rfl]
      exact i1
theorem cp_all2 {b : Bool} {a f od sn : Nat → Int32} {S N P s0 n l kd fs ft : Nat} {x2 x3 sp sz : Int32} {states wanting earliest : Nat → Int32} {vs ws fi : Nat → Int64} (hi : Sit S N P s0 a) (hu : Nu N a f) (ho : ∀ t, t < S → od t = odF a t) (hsn : ∀ t, t < S → sn t = msk (obs a · t) N) (hK : Kc kd fs ft x2 x3) (hb : b = kb kd) (hf0 : kd = 0 → fs = 0 ∧ ft = 0) (hn : n < 60000) (hn4 : 4 ^ N ≤ n) (hl : l < 60000) {wT kn : Int32}
    (hv : RVk b a S N P s0 (wT, kn, sp, sz, l, states, l, wanting, l, earliest)) : ∃ y z vs1 ws1 fi1 vs' ws' fi', lpX4_most_61_3 n n n sz l states lpF (0 : Int32) vs ws fi = some (y, vs1, ws1, fi1) ∧ lpX4_most_103_4 (nI kd) x2 x3 n n n (nI S) (nI N) f sn od (nI P) (a 67) sz l states l wanting l earliest lpF (nI S - (1 : Int32)) vs1 ws1 fi1 = some (z, vs', ws', fi') ∧
      vs' s0 = Vd a S N P kd fs ft (S - P) s0 ∧ (kd = 0 → ws' s0 = Wd a S N P (S - P) s0 ∧ fi' s0 = lN (Fn a S N P (S - P) s0)) := by
  obtain ⟨hR, hP, hg⟩ := hi
  have hN := hR.2.2.1
  have hS := hR.2.1
  have h1S := hR.1
  have hp := pow_le6 hN
  have hF := lpF_big
  obtain ⟨-, hl4, e, st, z, hz, hv⟩ := hv
  simp only at hz hl4 hv
  subst hz
  have hsz := hv.2.2.2.1
  obtain ⟨vs1, ws1, fi1, i1, i2⟩ := cp_init2 (kd := kd) (fs := fs) (ft := ft) hR hn hn4 hl hl4 hv lpF 0 vs ws fi (by omega) (by omega) (fun r hr => by omega)
  obtain ⟨y, vs', ws', fi', j1, j2⟩ := cp_down2 hR hu ho hsn hP hK hb hf0 hn hn4 hl hl4 hv lpF S vs1 ws1 fi1 hP (Nat.le_refl _) (by omega) i2
  obtain ⟨h1, h2, h3, h4, h5, h6, h7, h8, h9⟩ := hv
  obtain ⟨q, q1, q2⟩ := h3 s0 hg.1 (by omega)
  have hq := j2 q q1
  rw [q2] at hq
  unfold CI at hq
  rw [h6, Nat.max_self] at hq
  refine ⟨nI z, y, vs1, ws1, fi1, vs', ws', fi', i1, ?_, hq.1, hq.2⟩
  rw [dn_sub (by omega)]
  exact j1
theorem cp_init3 {a : Nat → Int32} {S N P s0 n l kd fs ft : Nat} {b : Bool} {e st : Nat → Nat} {sz : Nat} {states wanting earliest : Nat → Int32} (hR : RowN S N a) (hn : n < 60000) (hn4 : 4 ^ N ≤ n) (hl : l < 60000) (hl4 : 4 ^ N ≤ l) (hv : RVc b a S N P s0 e st sz (4 ^ N) states wanting earliest) : ∀ (fu q : Nat) (vs ws fi : Nat → Int64), q ≤ sz → sz - q < fu → (∀ r, r < q → CI a S N P kd fs ft e S (st r) vs ws fi) →
    ∃ vs' ws' fi', lpX4_most_61 n n n (nI sz) l states fu (nI q) vs ws fi = some (nI sz, vs', ws', fi') ∧ ∀ r, r < sz → CI a S N P kd fs ft e S (st r) vs' ws' fi'
  | 0, _, _, _, _, _, h, _ => by omega
  | fu + 1, q, vs, ws, fi, hq, hf, hi => by
    have hN := hR.2.2.1
    have hp := pow_le6 hN
    have hsz := hv.2.2.2.1
    by_cases eq : q = sz
    · subst eq
      refine ⟨vs, ws, fi, ?_, hi⟩
      unfold lpX4_most_61
      rw [if_pos (nI_le (Nat.le_refl _) (by omega))]
    · have hqs : q < sz := by omega
      obtain ⟨q1, q2, q3⟩ := hv.1 q hqs
      have heS := (hv.2.2.2.2.2.2.2.1 (st q) q3).1
      obtain ⟨vs', ws', fi', i1, i2⟩ := cp_init3 hR hn hn4 hl hl4 hv fu (q + 1) (vp_updL vs (st q) 0) (vp_updL ws (st q) 1) (vp_updL fi (st q) 0) (by omega) (by omega) (fun r hr => by
        by_cases er : r = q
        · subst er
          unfold CI
          rw [pk_uLs, pk_uLs, pk_uLs, show S - max S (e (st r)) = 0 by omega]
          exact ⟨rfl, fun _ => ⟨rfl, rfl⟩⟩
        · have hne : st r ≠ st q := fun h => by have := hv.2.1 r q (by omega) hqs; omega
          have h5 := hi r (by omega)
          unfold CI at h5 ⊢
          rw [pk_uLn hne, pk_uLn hne, pk_uLn hne]
          exact h5)
      refine ⟨vs', ws', fi', ?_, i2⟩
      unfold lpX4_most_61 pX4_put
      rw [if_neg (nI_ge hqs (by omega)), if_neg (nI_in (show q < l by omega) (by omega)), nI_clamp (by omega : q < 2 ^ 31), q1, if_neg (nI_in (show st q < n by omega) (by omega)), if_neg (nI_in (show st q < n by omega) (by omega)), if_neg (nI_in (show st q < n by omega) (by omega)), nI_clamp (by omega : st q < 2 ^ 31), ob_eq rfl, nI_1 q]
      exact i1
theorem cp_down3 {b : Bool} {a f od sn : Nat → Int32} {S N P s0 n l kd fs ft : Nat} {x2 x3 : Int32} {e st : Nat → Nat} {sz : Nat} {states wanting earliest : Nat → Int32} (hR : RowN S N a) (hu : Nu N a f) (ho : ∀ t, t < S → od t = odF a t) (hsn : ∀ t, t < S → sn t = msk (obs a · t) N) (hP : P ≤ S) (hK : Kc kd fs ft x2 x3) (hb : b = kb kd) (hf0 : kd = 0 → fs = 0 ∧ ft = 0) (hn : n < 60000) (hn4 : 4 ^ N ≤ n) (hl : l < 60000) (hl4 : 4 ^ N ≤ l)
    (hv : RVc b a S N P s0 e st sz (4 ^ N) states wanting earliest) : ∀ (fu u : Nat) (vs ws fi : Nat → Int64), P ≤ u → u ≤ S → u - P < fu → (∀ r, r < sz → CI a S N P kd fs ft e u (st r) vs ws fi) →
    ∃ y vs' ws' fi', lpX4_most_103 (nI kd) x2 x3 n n n (nI S) (nI N) f sn od (nI P) (a 67) (nI sz) l states l wanting l earliest fu (nI u + (-1 : Int32)) vs ws fi = some (y, vs', ws', fi') ∧ ∀ r, r < sz → CI a S N P kd fs ft e P (st r) vs' ws' fi'
  | 0, _, _, _, _, _, _, h, _ => by omega
  | fu + 1, u, vs, ws, fi, hu1, hu2, hf, hi => by
    have hN := hR.2.2.1
    have hS := hR.2.1
    have hp := pow_le6 hN
    have hsz := hv.2.2.2.1
    by_cases e1 : u = P
    · subst e1
      refine ⟨nI u + (-1 : Int32), vs, ws, fi, ?_, hi⟩
      unfold lpX4_most_103
      rw [if_pos (dn_lt (by omega))]
    · obtain ⟨t, rfl⟩ : ∃ t, u = t + 1 := ⟨u - 1, by omega⟩
      obtain ⟨v1, w1, f1, j1, j2⟩ := cp_step3 hR hu ho hsn hP (show t < S by omega) hK hb hf0 hn hn4 hl hl4 hv lpF 0 vs ws fi (by omega) (by have := lpF_big; omega) (fun r hr => by rw [if_neg (by omega)]; exact hi r hr)
      obtain ⟨y, vs', ws', fi', i1, i2⟩ := cp_down3 hR hu ho hsn hP hK hb hf0 hn hn4 hl hl4 hv fu t v1 w1 f1 (by omega) (by omega) (by omega) j2
      refine ⟨y, vs', ws', fi', ?_, i2⟩
      unfold lpX4_most_103 pX4_stepBack_3
      rw [pk_m1, if_neg (nI_nlt (by omega) (by omega)), ob_eq (show lpX4_stepBack_3_2 (nI t) (nI kd) x2 x3 n n n (nI S) (nI N) f sn od (nI P) (a 67) (nI sz) l states l wanting l earliest lpF (0 : Int32) vs ws fi = _ from j1), ob_eq rfl]
      exact i1
theorem cp_all3 {b : Bool} {a f od sn : Nat → Int32} {S N P s0 n l kd fs ft : Nat} {x2 x3 sp sz : Int32} {states wanting earliest : Nat → Int32} {vs ws fi : Nat → Int64} (hi : Sit S N P s0 a) (hu : Nu N a f) (ho : ∀ t, t < S → od t = odF a t) (hsn : ∀ t, t < S → sn t = msk (obs a · t) N) (hK : Kc kd fs ft x2 x3) (hb : b = kb kd) (hf0 : kd = 0 → fs = 0 ∧ ft = 0) (hn : n < 60000) (hn4 : 4 ^ N ≤ n) (hl : l < 60000) {wT kn : Int32}
    (hv : RVk b a S N P s0 (wT, kn, sp, sz, l, states, l, wanting, l, earliest)) : ∃ y z vs1 ws1 fi1 vs' ws' fi', lpX4_most_61 n n n sz l states lpF (0 : Int32) vs ws fi = some (y, vs1, ws1, fi1) ∧ lpX4_most_103 (nI kd) x2 x3 n n n (nI S) (nI N) f sn od (nI P) (a 67) sz l states l wanting l earliest lpF (nI S - (1 : Int32)) vs1 ws1 fi1 = some (z, vs', ws', fi') ∧
      vs' s0 = Vd a S N P kd fs ft (S - P) s0 ∧ (kd = 0 → ws' s0 = Wd a S N P (S - P) s0 ∧ fi' s0 = lN (Fn a S N P (S - P) s0)) := by
  obtain ⟨hR, hP, hg⟩ := hi
  have hN := hR.2.2.1
  have hS := hR.2.1
  have h1S := hR.1
  have hp := pow_le6 hN
  have hF := lpF_big
  obtain ⟨-, hl4, e, st, z, hz, hv⟩ := hv
  simp only at hz hl4 hv
  subst hz
  have hsz := hv.2.2.2.1
  obtain ⟨vs1, ws1, fi1, i1, i2⟩ := cp_init3 (kd := kd) (fs := fs) (ft := ft) hR hn hn4 hl hl4 hv lpF 0 vs ws fi (by omega) (by omega) (fun r hr => by omega)
  obtain ⟨y, vs', ws', fi', j1, j2⟩ := cp_down3 hR hu ho hsn hP hK hb hf0 hn hn4 hl hl4 hv lpF S vs1 ws1 fi1 hP (Nat.le_refl _) (by omega) i2
  obtain ⟨h1, h2, h3, h4, h5, h6, h7, h8, h9⟩ := hv
  obtain ⟨q, q1, q2⟩ := h3 s0 hg.1 (by omega)
  have hq := j2 q q1
  rw [q2] at hq
  unfold CI at hq
  rw [h6, Nat.max_self] at hq
  refine ⟨nI z, y, vs1, ws1, fi1, vs', ws', fi', i1, ?_, hq.1, hq.2⟩
  rw [dn_sub (by omega)]
  exact j1
/-- the most that plans with turns reach -/
theorem cp_most2 {a f od sn : Nat → Int32} {S N P s0 n kd fs ft : Nat} {x2 x3 : Int32} {vs ws fi : Nat → Int64} {vt vu : ReS} (hi : Sit S N P s0 a) (hu : Nu N a f) (ho : ∀ t, t < S → od t = odF a t) (hsn : ∀ t, t < S → sn t = msk (obs a · t) N) (hK : Kc kd fs ft x2 x3) (hb : kb kd = true) (hf0 : kd = 0 → fs = 0 ∧ ft = 0) (hl : Len n) (hv : RV true a S N P s0 vt) :
    ∃ kn sp sz m st wt er n' vs' ws' fi' c k, pX4_most (nI kd) x2 x3 n vs n ws n fi (nI S) (nI N) (tmk a N) f sn od (nI P) (a 67) (a 68) (nI s0) vt.1 vt.2.1 vt.2.2.1 vt.2.2.2.1 vt.2.2.2.2.1 vt.2.2.2.2.2.1 vt.2.2.2.2.2.2.1 vt.2.2.2.2.2.2.2.1 vt.2.2.2.2.2.2.2.2.1 vt.2.2.2.2.2.2.2.2.2 vu.1 vu.2.1 vu.2.2.1 vu.2.2.2.1 vu.2.2.2.2.1 vu.2.2.2.2.2.1 vu.2.2.2.2.2.2.1 vu.2.2.2.2.2.2.2.1 vu.2.2.2.2.2.2.2.2.1 vu.2.2.2.2.2.2.2.2.2 = some (Vd a S N P kd fs ft (S - P) s0, nI kd, x2, x3, kn, sp, sz, m, st, m, wt, m, er, vu.2.1, vu.2.2.1, vu.2.2.2.1, vu.2.2.2.2.1, vu.2.2.2.2.2.1, vu.2.2.2.2.2.2.1, vu.2.2.2.2.2.2.2.1, vu.2.2.2.2.2.2.2.2.1, vu.2.2.2.2.2.2.2.2.2, n', vs', n', ws', n', fi', c, k) ∧
      RV true a S N P s0 (vt.1, kn, sp, sz, m, st, m, wt, m, er) ∧ RVk true a S N P s0 (vt.1, kn, sp, sz, m, st, m, wt, m, er) ∧ Len n' ∧ s0 < n' ∧ (kd = 0 → ws' s0 = Wd a S N P (S - P) s0 ∧ fi' s0 = lN (Fn a S N P (S - P) s0)) ∧ c ≤ 6 ∧ k + 6 * vt.2.2.2.2.1 + 6 * n ≤ 6 * m + 6 * n' := by
  obtain ⟨kn, sp, sz, m, st, wt, er, c1, k1, u1, u2, u3, u4, u5⟩ := c_update hi hu hsn hv
  have hR := hi.1
  have hN := hR.2.2.1
  have hp := pow_le6 hN
  have hs0 := hi.2.2.1
  obtain ⟨n', vs', ws', fi', c2, k2, r1, r2, r3, r4, r5⟩ := cp_room (vs := vs) (ws := ws) (fi := fi) hN hl
  have hn' := Len_lt r3
  have hm := Len_lt u2.2.1
  have hm' : m ≤ 4096 := hm
  obtain ⟨y, z, vs1, ws1, fi1, vs2, ws2, fi2, a1, a2, a3, a4⟩ := cp_all2 (n := n') (kd := kd) (vs := vs') (ws := ws') (fi := fi') hi hu ho hsn hK hb.symm hf0 (by omega) r2 (by omega) u3
  refine ⟨kn, sp, sz, m, st, wt, er, n', vs2, ws2, fi2, (0 + c1) + c2, (0 + k1) + k2, ?_, u2, u3, r3, by omega, a4, by omega, by omega⟩
  have hk3 : ¬ kd = 3 := fun h => by subst h; cases hb
  have hk5 : ¬ kd = 5 := fun h => by subst h; cases hb
  have hk6 := hK.1
  have hsp : sp = nI (4 ^ N) := u3.1
  unfold pX4_most
  rw [if_neg (show ¬ nI kd = (3 : Int32) from fun h => hk3 ((keq 3 (by omega) (by omega)).mp h)), if_pos (show ¬ nI kd = (5 : Int32) from fun h => hk5 ((keq 5 (by omega) (by omega)).mp h)), ob_eq u1]
  rw [show ((kn, sp, sz, m, st, m, wt, m, er, c1, k1) : Int32 × Int32 × Int32 × Nat × (Nat → Int32) × Nat × (Nat → Int32) × Nat × (Nat → Int32) × Nat × Nat).2.1 = nI (4 ^ N) from hsp, ob_eq r1, ob_eq a1, ob_eq a2, if_neg (nI_in (show s0 < n' by omega) (by omega)), nI_clamp (by omega : s0 < 2 ^ 31)]
  show some (vs2 s0, _) = _
  rw [a3, hsp]
/-- the most that plans without turns reach -/
theorem cp_most3 {a f od sn : Nat → Int32} {S N P s0 n kd fs ft : Nat} {x2 x3 : Int32} {vs ws fi : Nat → Int64} {vt vu : ReS} (hi : Sit S N P s0 a) (hu : Nu N a f) (ho : ∀ t, t < S → od t = odF a t) (hsn : ∀ t, t < S → sn t = msk (obs a · t) N) (hK : Kc kd fs ft x2 x3) (hb : kb kd = false) (hl : Len n) (hv : RV false a S N P s0 vu) :
    ∃ kn sp sz m st wt er n' vs' ws' fi' c k, pX4_most (nI kd) x2 x3 n vs n ws n fi (nI S) (nI N) (tmk a N) f sn od (nI P) (a 67) (a 68) (nI s0) vt.1 vt.2.1 vt.2.2.1 vt.2.2.2.1 vt.2.2.2.2.1 vt.2.2.2.2.2.1 vt.2.2.2.2.2.2.1 vt.2.2.2.2.2.2.2.1 vt.2.2.2.2.2.2.2.2.1 vt.2.2.2.2.2.2.2.2.2 vu.1 vu.2.1 vu.2.2.1 vu.2.2.2.1 vu.2.2.2.2.1 vu.2.2.2.2.2.1 vu.2.2.2.2.2.2.1 vu.2.2.2.2.2.2.2.1 vu.2.2.2.2.2.2.2.2.1 vu.2.2.2.2.2.2.2.2.2 = some (Vd a S N P kd fs ft (S - P) s0, nI kd, x2, x3, vt.2.1, vt.2.2.1, vt.2.2.2.1, vt.2.2.2.2.1, vt.2.2.2.2.2.1, vt.2.2.2.2.2.2.1, vt.2.2.2.2.2.2.2.1, vt.2.2.2.2.2.2.2.2.1, vt.2.2.2.2.2.2.2.2.2, kn, sp, sz, m, st, m, wt, m, er, n', vs', n', ws', n', fi', c, k) ∧
      RV false a S N P s0 (vu.1, kn, sp, sz, m, st, m, wt, m, er) ∧ Len n' ∧ c ≤ 6 ∧ k + 6 * vu.2.2.2.2.1 + 6 * n ≤ 6 * m + 6 * n' := by
  obtain ⟨kn, sp, sz, m, st, wt, er, c1, k1, u1, u2, u3, u4, u5⟩ := c_update hi hu hsn hv
  have hR := hi.1
  have hN := hR.2.2.1
  have hp := pow_le6 hN
  have hs0 := hi.2.2.1
  obtain ⟨n', vs', ws', fi', c2, k2, r1, r2, r3, r4, r5⟩ := cp_room (vs := vs) (ws := ws) (fi := fi) hN hl
  have hn' := Len_lt r3
  have hm := Len_lt u2.2.1
  have hm' : m ≤ 4096 := hm
  have hk6 := hK.1
  have hk0 : ¬ kd = 0 := fun h => by subst h; cases hb
  have hsp : sp = nI (4 ^ N) := u3.1
  obtain ⟨y, z, vs1, ws1, fi1, vs2, ws2, fi2, a1, a2, a3, a4⟩ := cp_all3 (n := n') (kd := kd) (vs := vs') (ws := ws') (fi := fi') hi hu ho hsn hK hb.symm (fun h => absurd h hk0) (by omega) r2 (by omega) u3
  refine ⟨kn, sp, sz, m, st, wt, er, n', vs2, ws2, fi2, (0 + c1) + c2, (0 + k1) + k2, ?_, u2, r3, by omega, by omega⟩
  unfold pX4_most
  by_cases hk3 : kd = 3
  · rw [if_pos (show nI kd = (3 : Int32) by rw [hk3]; rfl), ob_eq u1]
    rw [show ((kn, sp, sz, m, st, m, wt, m, er, c1, k1) : Int32 × Int32 × Int32 × Nat × (Nat → Int32) × Nat × (Nat → Int32) × Nat × (Nat → Int32) × Nat × Nat).2.1 = nI (4 ^ N) from hsp, ob_eq r1, ob_eq a1, ob_eq a2, if_neg (nI_in (show s0 < n' by omega) (by omega)), nI_clamp (by omega : s0 < 2 ^ 31)]
    show some (vs2 s0, _) = _
    rw [a3, hsp]
  · have hk5 : kd = 5 := by
      by_cases h : kd = 5
      · exact h
      · unfold kb at hb
        rw [decide_eq_false hk3, decide_eq_false h] at hb
        cases hb
    rw [if_neg (show ¬ nI kd = (3 : Int32) from fun h => hk3 ((keq 3 (by omega) (by omega)).mp h)), if_neg (show ¬ ¬ nI kd = (5 : Int32) from fun h => h (by rw [hk5]; rfl)), ob_eq u1]
    rw [show ((kn, sp, sz, m, st, m, wt, m, er, c1, k1) : Int32 × Int32 × Int32 × Nat × (Nat → Int32) × Nat × (Nat → Int32) × Nat × (Nat → Int32) × Nat × Nat).2.1 = nI (4 ^ N) from hsp, ob_eq r1, ob_eq a1, ob_eq a2, if_neg (nI_in (show s0 < n' by omega) (by omega)), nI_clamp (by omega : s0 < 2 ^ 31)]
    show some (vs2 s0, _) = _
    rw [a3, hsp]
