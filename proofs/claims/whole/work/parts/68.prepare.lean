/-! THE CLASS'S DECISIONS, PREPARED -/
def DV (a : Nat → Int32) (S N P s0 : Nat) (vt : ReS) (v : DeS) : Prop :=
  Len v.1 ∧ v.2.2.1 = v.1 ∧ Len v.2.2.2.2.1 ∧ v.2.2.2.2.2.2.1 = v.2.2.2.2.1 ∧ (v.2.2.2.2.2.2.2.2.2.2 = 0 ∨ (RVk true a S N P s0 vt ∧ 4 ^ N ≤ v.1 ∧ (P < S → At a N P s0 v.1 (Md a S N (S - (P + 1))) v.2.1 v.2.2.2.1)))
theorem cd_run {S N P s0 n nw l tg : Nat} {a f pr sn : Nat → Int32} {kd g gt wT kn sp sz : Int32} {st wt er : Nat → Int32} {bc bd wc wd : Nat → Int64} (hi : Sit S N P s0 a) (hu : Nu N a f) (hpr : Pc a pr) (hsn : ∀ t, t < S → sn t = msk (obs a · t) N) (hn : n < 60000) (hn4 : 4 ^ N ≤ n) (hnw : nw < 60000) (hnw4 : ¬ kd = 0 → 4 ^ N ≤ nw) (hl : l < 60000) (hK : kd = 0 ∨ Kq kd g) (hq : Hq N g gt tg) (hv : RVk true a S N P s0 (wT, kn, sp, sz, l, st, l, wt, l, er)) :
    ∃ y z b1 b2 b3 b4 bc' bd' wc' wd', lpX0_prepare_75 kd gt f sz l st n n nw nw lpF (0 : Int32) bc bd wc wd = some (y, b1, b2, b3, b4) ∧ lpX0_prepare_115 kd gt (nI S) (nI N) pr f sn (nI P) sz l st l wt l er n n nw nw lpF (nI S - (1 : Int32)) b1 b2 b3 b4 = some (z, bc', bd', wc', wd') ∧
      (P < S → At a N P s0 n (Md a S N (S - (P + 1))) bc' bd') ∧ (¬ kd = 0 → P < S → At a N P s0 nw (Gv a S N g gt tg (S - (P + 1))) wc' wd') := by
  obtain ⟨hR, hP, hg⟩ := hi
  have hN := hR.2.2.1
  have hS := hR.2.1
  have h1S := hR.1
  have hp := pow_le6 hN
  have hF := lpF_big
  have hs0 := hg.1
  obtain ⟨-, hl4, e, str, z, hz, hv⟩ := hv
  simp only at hz hl4 hv
  subst hz
  have hsz := hv.2.2.2.1
  obtain ⟨b1, b2, b3, b4, i1, i2⟩ := cd_init (kd := kd) (nw := nw) hR hu hn hn4 hnw hnw4 hl hl4 hK hq hv lpF 0 bc bd wc wd (by omega) (by omega) (fun r hr => by omega)
  obtain ⟨y, bc', bd', wc', wd', j1, j2⟩ := cd_down hR hu hpr hsn hP hn hn4 hnw hnw4 hl hl4 hK hv lpF S b1 b2 b3 b4 h1S (Nat.le_refl _) (by omega) (fun h => by omega) i2
  have hv2 := hv
  obtain ⟨h1, h2, h3, h4, h5, h6, h7, h8, h9⟩ := hv
  obtain ⟨q, q1, q2⟩ := h3 s0 hg.1 (by omega)
  have hself : P < S → DI a S N kd g gt tg e (P + 1) s0 bc' bd' wc' wd' := fun hPS => by rw [← q2]; exact j2 hPS q q1
  have hnx : P < S → ∀ k, k < N → psb true a N s0 k P = true → s0 + 4 ^ k < 4 ^ N ∧ DI a S N kd g gt tg e (P + 1) (s0 + 4 ^ k) bc' bd' wc' wd' ∧ e (s0 + 4 ^ k) ≤ P + 1 := fun hPS k hk h => by
    obtain ⟨r, r1, r2, r3, r4⟩ := cp_next hR hv2 q1 hPS (by rw [q2, h6]; exact Nat.le_refl _) hk (by rw [q2]; exact h)
    have g1 := j2 hPS r r2
    have g2 := (h1 r r2).2.1
    rw [r3, q2] at g1 r4 g2
    exact ⟨g2, g1, r4⟩
  refine ⟨nI z, y, b1, b2, b3, b4, bc', bd', wc', wd', i1, ?_, fun hPS => ?_, fun hk0 hPS => ?_⟩
  · rw [dn_sub (by omega)]
    exact j1
  · have g1 := hself hPS
    unfold DI at g1
    rw [h6, show S - max (P + 1) P = S - (P + 1) by omega] at g1
    refine ⟨by omega, g1.1, g1.2.1, fun k hk h => ?_⟩
    obtain ⟨k1, k2, k3⟩ := hnx hPS k hk h
    unfold DI at k2
    rw [show S - max (P + 1) (e (s0 + 4 ^ k)) = S - (P + 1) by omega] at k2
    exact ⟨by omega, k2.1, k2.2.1⟩
  · have hw4 := hnw4 hk0
    have g1 := hself hPS
    unfold DI at g1
    rw [h6, show S - max (P + 1) P = S - (P + 1) by omega] at g1
    refine ⟨by omega, (g1.2.2 hk0).1, (g1.2.2 hk0).2, fun k hk h => ?_⟩
    obtain ⟨k1, k2, k3⟩ := hnx hPS k hk h
    unfold DI at k2
    rw [show S - max (P + 1) (e (s0 + 4 ^ k)) = S - (P + 1) by omega] at k2
    exact ⟨by omega, (k2.2.2 hk0).1, (k2.2.2 hk0).2⟩
theorem cd_prepare {S N P s0 tg : Nat} {a f pr sn : Nat → Int32} {kd g gt : Int32} {vt : ReS} {vq : DeS} (hi : Sit S N P s0 a) (hu : Nu N a f) (hpr : Pc a pr) (hsn : ∀ t, t < S → sn t = msk (obs a · t) N) (hK : kd = 0 ∨ Kq kd g) (hq : Hq N g gt tg) (hv : RV true a S N P s0 vt) (hd : DV a S N P s0 vt vq) :
    ∃ kd' ct' kq kn sp sz m st wt er nb bc bd nw wc wd c k, pX0_prepare kd gt vq.2.2.2.2.2.2.2.2.1 vq.2.2.2.2.2.2.2.2.2.1 vq.2.2.2.2.2.2.2.2.2.2 (nI S) (nI N) (tmk a N) pr f sn (nI P) (a 68) (nI s0) vt.1 vt.2.1 vt.2.2.1 vt.2.2.2.1 vt.2.2.2.2.1 vt.2.2.2.2.2.1 vt.2.2.2.2.2.2.1 vt.2.2.2.2.2.2.2.1 vt.2.2.2.2.2.2.2.2.1 vt.2.2.2.2.2.2.2.2.2 vq.1 vq.2.1 vq.2.2.1 vq.2.2.2.1 vq.2.2.2.2.1 vq.2.2.2.2.2.1 vq.2.2.2.2.2.2.1 vq.2.2.2.2.2.2.2.1 = some (kd', ct', kq, kn, sp, sz, m, st, m, wt, m, er, nb, bc, nb, bd, nw, wc, nw, wd, c, k) ∧
      RV true a S N P s0 (vt.1, kn, sp, sz, m, st, m, wt, m, er) ∧ RVk true a S N P s0 (vt.1, kn, sp, sz, m, st, m, wt, m, er) ∧ Len nb ∧ Len nw ∧ 4 ^ N ≤ nb ∧ (P < S → At a N P s0 nb (Md a S N (S - (P + 1))) bc bd) ∧ (¬ kd = 0 → kd' = kd ∧ ct' = gt ∧ (P < S → At a N P s0 nw (Gv a S N g gt tg (S - (P + 1))) wc wd)) ∧ c ≤ 7 ∧ k + 6 * vt.2.2.2.2.1 + 4 * vq.1 + 4 * vq.2.2.2.2.1 ≤ 6 * m + 4 * nb + 4 * nw := by
  obtain ⟨nb, bc, nb2, bd, nw, wc, nw2, wd, kd0, ct0, kq⟩ := vq
  obtain ⟨d1, d2, d3, d4, d5⟩ := hd
  simp only at d1 d2 d3 d4 d5 ⊢
  subst d2 d4
  have hN := hi.1.2.2.1
  have hnw := Len_lt d3
  -- the work itself, whatever was known
  have work : ∃ kn sp sz m st wt er c1 k1 nb' b1 b2 c2 k2 nw' w1 w2 c3 k3 y z e1 e2 e3 e4 bc' bd' wc' wd', pX6_update vt.1 vt.2.1 vt.2.2.1 vt.2.2.2.1 vt.2.2.2.2.1 vt.2.2.2.2.2.1 vt.2.2.2.2.2.2.1 vt.2.2.2.2.2.2.2.1 vt.2.2.2.2.2.2.2.2.1 vt.2.2.2.2.2.2.2.2.2 (nI S) (nI N) (tmk a N) f sn (nI P) (a 68) (nI s0) = some (kn, nI (4 ^ N), sz, m, st, m, wt, m, er, c1, k1) ∧ sp = nI (4 ^ N) ∧ pX3_makeRoom (nI (4 ^ N)) nb2 bc nb2 bd = some (nb', b1, nb', b2, c2, k2) ∧ pX3_makeRoom (if kd = 0 then 0 else nI (4 ^ N)) nw2 wc nw2 wd = some (nw', w1, nw', w2, c3, k3) ∧ lpX0_prepare_75 kd gt f sz m st nb' nb' nw' nw' lpF (0 : Int32) b1 b2 w1 w2 = some (y, e1, e2, e3, e4) ∧ lpX0_prepare_115 kd gt (nI S) (nI N) pr f sn (nI P) sz m st m wt m er nb' nb' nw' nw' lpF (nI S - (1 : Int32)) e1 e2 e3 e4 = some (z, bc', bd', wc', wd') ∧
      RV true a S N P s0 (vt.1, kn, sp, sz, m, st, m, wt, m, er) ∧ RVk true a S N P s0 (vt.1, kn, sp, sz, m, st, m, wt, m, er) ∧ Len nb' ∧ Len nw' ∧ 4 ^ N ≤ nb' ∧ (P < S → At a N P s0 nb' (Md a S N (S - (P + 1))) bc' bd') ∧ (¬ kd = 0 → P < S → At a N P s0 nw' (Gv a S N g gt tg (S - (P + 1))) wc' wd') ∧ c1 ≤ 3 ∧ c2 ≤ 2 ∧ c3 ≤ 2 ∧ k1 + 6 * vt.2.2.2.2.1 ≤ 6 * m ∧ k2 + 4 * nb2 ≤ 4 * nb' ∧ k3 + 4 * nw2 ≤ 4 * nw' := by
    obtain ⟨kn, sp, sz, m, st, wt, er, c1, k1, u1, u2, u3, u4, u5⟩ := c_update hi hu hsn hv
    obtain ⟨nb', b1, b2, c2, k2, r1, r2, r3, r4, r5⟩ := cd_room (bc := bc) (bd := bd) hN d1
    have hw : ∃ nw' w1 w2 c3 k3, pX3_makeRoom (if kd = 0 then 0 else nI (4 ^ N)) nw2 wc nw2 wd = some (nw', w1, nw', w2, c3, k3) ∧ (¬ kd = 0 → 4 ^ N ≤ nw') ∧ Len nw' ∧ c3 ≤ 2 ∧ k3 + 4 * nw2 ≤ 4 * nw' := by
      by_cases c : kd = 0
      · rw [if_pos c, cd_room0 d3]
        exact ⟨nw2, wc, wd, 0, 0, rfl, fun h => absurd c h, d3, by omega, by omega⟩
      · rw [if_neg c]
        obtain ⟨nw', w1, w2, c3, k3, s1, s2, s3, s4, s5⟩ := cd_room (bc := wc) (bd := wd) hN d3
        exact ⟨nw', w1, w2, c3, k3, s1, fun _ => s2, s3, s4, s5⟩
    obtain ⟨nw', w1, w2, c3, k3, s1, s2, s3, s4, s5⟩ := hw
    have l1 := Len_lt r3
    have l2 := Len_lt s3
    have l3 : m ≤ 4096 := Len_lt u2.2.1
    obtain ⟨y, z, e1, e2, e3, e4, bc', bd', wc', wd', p1, p2, p3, p4⟩ := cd_run (bc := b1) (bd := b2) (wc := w1) (wd := w2) hi hu hpr hsn (by omega) r2 (by omega) s2 (by omega) hK hq u3
    have hsp : sp = nI (4 ^ N) := u3.1
    rw [hsp] at u1
    exact ⟨kn, sp, sz, m, st, wt, er, c1, k1, nb', b1, b2, c2, k2, nw', w1, w2, c3, k3, y, z, e1, e2, e3, e4, bc', bd', wc', wd', u1, hsp, r1, s1, p1, p2, u2, u3, r3, s3, r2, p3, p4, u4, r4, s4, u5, r5, s5⟩
  obtain ⟨kn, sp, sz, m, st, wt, er, c1, k1, nb', b1, b2, c2, k2, nw', w1, w2, c3, k3, y, z, e1, e2, e3, e4, bc', bd', wc', wd', o1, o2, o3, o4, o5, o6, o7, o8, o9, o10, o11, o12, o13, o14, o15, o16, o17, o18, o19⟩ := work
  subst o2
  unfold pX0_prepare
  by_cases ck : kd = 0
  · rw [if_pos ck] at o4
    by_cases hk : kq = 0
    · refine ⟨kd, gt, 1, kn, nI (4 ^ N), sz, m, st, wt, er, nb', bc', bd', nw', wc', wd', ((0 + c1) + c2) + c3, ((0 + k1) + k2) + k3, ?_, o7, o8, o9, o10, o11, o12, fun h => absurd ck h, by omega, by omega⟩
      rw [if_pos hk, ob_eq o1, ob_eq o3, if_neg (show ¬ ¬ kd = 0 from fun h => h ck), ob_eq o4, ob_eq o5, ob_eq o6]
    · obtain ⟨v1, v2, v3, v4, v5⟩ := hv
      obtain ⟨wT, kn0, sp0, sz0, m0, st0, wn0, wt0, en0, er0⟩ := vt
      simp only at v1 v2 v3 v4 v5 d5
      subst v3 v4
      obtain ⟨x1, x2, x3⟩ := d5.resolve_left hk
      refine ⟨kd0, ct0, kq, kn0, sp0, sz0, en0, st0, wt0, er0, nb2, bc, bd, nw2, wc, wd, 0, 0, ?_, ⟨v1, v2, rfl, rfl, v5⟩, x1, d1, d3, x2, x3, fun h => absurd ck h, by omega, by show 0 + 6 * en0 + 4 * nb2 + 4 * nw2 ≤ _; omega⟩
      rw [if_neg hk, if_neg (show ¬ ¬ kd = 0 from fun h => h ck)]
  · rw [if_neg ck] at o4
    refine ⟨kd, gt, 1, kn, nI (4 ^ N), sz, m, st, wt, er, nb', bc', bd', nw', wc', wd', ((0 + c1) + c2) + c3, ((0 + k1) + k2) + k3, ?_, o7, o8, o9, o10, o11, o12, fun _ => ⟨rfl, rfl, o13 ck⟩, by omega, by omega⟩
    by_cases hk : kq = 0
    · rw [if_pos hk, ob_eq o1, ob_eq o3, if_pos ck, ob_eq o4, ob_eq o5, ob_eq o6]
    · rw [if_neg hk, if_pos ck, ob_eq o1, ob_eq o3, ob_eq o4, ob_eq o5, ob_eq o6]
