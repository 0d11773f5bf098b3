/-! WHAT CAN COME ABOUT: the class's list of states -/
theorem c_fillLoop {x : Int32} {n : Nat} (hn : n < 60000) : ∀ (fu k : Nat) (f : Nat → Int32), k ≤ n → n - k < fu → (∀ i, i < k → f i = x) → ∃ f', lpJ7_fill_53178_5 x (nI n) n fu (nI k) f = some (nI n, f') ∧ ∀ i, i < n → f' i = x
  | 0, _, _, _, h, _ => by omega
  | fu + 1, k, f, hk, hf, h => by
    unfold lpJ7_fill_53178_5
    by_cases e : k = n
    · subst e
      rw [if_pos (nI_le (Nat.le_refl _) (by omega))]
      exact ⟨f, rfl, h⟩
    · rw [if_neg (nI_ge (by omega) (by omega)), if_neg (nI_in (by omega : k < n) (by omega)), nI_1, nI_clamp (by omega)]
      refine c_fillLoop hn fu (k + 1) (upd f k x) (by omega) (by omega) (fun i hi => ?_)
      by_cases ei : i = k
      · subst ei; exact pk_us
      · rw [pk_un ei]; exact h i (by omega)
theorem c_fill {x : Int32} {n : Nat} (f : Nat → Int32) (hn : n < 60000) : ∃ f', pJ7_fill_53178 x n f = some f' ∧ ∀ i, i < n → f' i = x := by
  obtain ⟨f', h1, h2⟩ := c_fillLoop (x := x) hn lpF 0 f (by omega) (by have := lpF_big; omega) (fun i hi => by omega)
  refine ⟨f', ?_, h2⟩
  unfold pJ7_fill_53178
  rw [ob_eq (show lpJ7_fill_53178_5 x (nI n) n lpF (0 : Int32) f = _ from h1)]
/-- the earliest slots behind the exposures of the targets below k -/
def rfE (a : Nat → Int32) (S : Nat) (P : Nat → Bool) (j : Nat) (e : Nat → Nat) : Nat → (Nat → Nat)
  | 0 => e
  | k + 1 => fun i => if P k = true ∧ i = j + 4 ^ k then (if bnF a k (S - e j) (e j) < rfE a S P j e k i then bnF a k (S - e j) (e j) else rfE a S P j e k i) else rfE a S P j e k i
theorem rfE_low {a : Nat → Int32} {S j : Nat} {P : Nat → Bool} {e : Nat → Nat} {i : Nat} (hi : i ≤ j) : ∀ k, rfE a S P j e k i = e i
  | 0 => rfl
  | k + 1 => by
    show (if P k = true ∧ i = j + 4 ^ k then _ else rfE a S P j e k i) = e i
    have := pow_pos4 k
    rw [if_neg (fun q => by omega), rfE_low hi k]
theorem rfE_le {a : Nat → Int32} {S j : Nat} {P : Nat → Bool} {e : Nat → Nat} {i : Nat} : ∀ k, rfE a S P j e k i ≤ e i
  | 0 => Nat.le_refl _
  | k + 1 => by
    have ih := rfE_le (a := a) (S := S) (j := j) (P := P) (e := e) (i := i) k
    show (if P k = true ∧ i = j + 4 ^ k then (if bnF a k (S - e j) (e j) < rfE a S P j e k i then bnF a k (S - e j) (e j) else rfE a S P j e k i) else rfE a S P j e k i) ≤ e i
    by_cases h : P k = true ∧ i = j + 4 ^ k
    · rw [if_pos h]
      by_cases h2 : bnF a k (S - e j) (e j) < rfE a S P j e k i
      · rw [if_pos h2]; omega
      · rw [if_neg h2]; exact ih
    · rw [if_neg h]; exact ih
theorem rfE_mono {a : Nat → Int32} {S j : Nat} {P : Nat → Bool} {e : Nat → Nat} {i : Nat} : ∀ k d, rfE a S P j e (k + d) i ≤ rfE a S P j e k i
  | k, 0 => Nat.le_refl _
  | k, d + 1 => by
    have ih := rfE_mono (a := a) (S := S) (j := j) (P := P) (e := e) (i := i) k d
    show (if P (k + d) = true ∧ i = j + 4 ^ (k + d) then (if bnF a (k + d) (S - e j) (e j) < rfE a S P j e (k + d) i then bnF a (k + d) (S - e j) (e j) else rfE a S P j e (k + d) i) else rfE a S P j e (k + d) i) ≤ _
    by_cases h : P (k + d) = true ∧ i = j + 4 ^ (k + d)
    · rw [if_pos h]
      by_cases h2 : bnF a (k + d) (S - e j) (e j) < rfE a S P j e (k + d) i
      · rw [if_pos h2]; omega
      · rw [if_neg h2]; exact ih
    · rw [if_neg h]; exact ih
theorem rfE_hit {a : Nat → Int32} {S j : Nat} {P : Nat → Bool} {e : Nat → Nat} {k N : Nat} (hk : k < N) (hP : P k = true) : rfE a S P j e N (j + 4 ^ k) ≤ bnF a k (S - e j) (e j) := by
  have h1 : rfE a S P j e (k + 1) (j + 4 ^ k) ≤ bnF a k (S - e j) (e j) := by
    show (if P k = true ∧ j + 4 ^ k = j + 4 ^ k then (if bnF a k (S - e j) (e j) < rfE a S P j e k (j + 4 ^ k) then bnF a k (S - e j) (e j) else rfE a S P j e k (j + 4 ^ k)) else rfE a S P j e k (j + 4 ^ k)) ≤ _
    rw [if_pos ⟨hP, rfl⟩]
    by_cases h2 : bnF a k (S - e j) (e j) < rfE a S P j e k (j + 4 ^ k)
    · rw [if_pos h2]
      exact Nat.le_refl _
    · rw [if_neg h2]
      omega
  have h2 := rfE_mono (a := a) (S := S) (j := j) (P := P) (e := e) (i := j + 4 ^ k) (k + 1) (N - (k + 1))
  rw [show k + 1 + (N - (k + 1)) = N by omega] at h2
  exact Nat.le_trans h2 h1
/-- an entry that changed came by an exposure -/
theorem rfE_src {a : Nat → Int32} {S j : Nat} {P : Nat → Bool} {e : Nat → Nat} {i : Nat} : ∀ k, rfE a S P j e k i = e i ∨ ∃ q, q < k ∧ P q = true ∧ i = j + 4 ^ q ∧ rfE a S P j e k i = bnF a q (S - e j) (e j)
  | 0 => Or.inl rfl
  | k + 1 => by
    have ih := rfE_src (a := a) (S := S) (j := j) (P := P) (e := e) (i := i) k
    have ih2 : rfE a S P j e k i = e i ∨ ∃ q, q < k + 1 ∧ P q = true ∧ i = j + 4 ^ q ∧ rfE a S P j e k i = bnF a q (S - e j) (e j) := ih.elim Or.inl (fun ⟨q, h1, h2⟩ => Or.inr ⟨q, by omega, h2⟩)
    show (if P k = true ∧ i = j + 4 ^ k then (if bnF a k (S - e j) (e j) < rfE a S P j e k i then bnF a k (S - e j) (e j) else rfE a S P j e k i) else rfE a S P j e k i) = e i ∨ ∃ q, q < k + 1 ∧ P q = true ∧ i = j + 4 ^ q ∧ (if P k = true ∧ i = j + 4 ^ k then (if bnF a k (S - e j) (e j) < rfE a S P j e k i then bnF a k (S - e j) (e j) else rfE a S P j e k i) else rfE a S P j e k i) = bnF a q (S - e j) (e j)
    by_cases h : P k = true ∧ i = j + 4 ^ k
    · rw [if_pos h]
      by_cases h2 : bnF a k (S - e j) (e j) < rfE a S P j e k i
      · rw [if_pos h2]
        exact Or.inr ⟨k, by omega, h.1, h.2, rfl⟩
      · rw [if_neg h2]; exact ih2
    · rw [if_neg h]; exact ih2
theorem c_reachLoop {S N : Nat} {a sn wt : Nat → Int32} {x : Int32} {j wN eN : Nat} {e : Nat → Nat} (hR : RowN S N a) (hs : ∀ t, t < S → sn t = msk (obs a · t) N) (hj : j < 4 ^ N) (hwN : 4 ^ N ≤ wN) (heN : 4 ^ N ≤ eN) (hw9 : wN < 60000) (he9 : eN < 60000) (hwt : wt j = wm a N x j) (hej : e j ≤ S) (he : ∀ i, e i ≤ 13) :
    ∀ (fu k : Nat) (er : Nat → Int32), k ≤ N → N - k < fu → (∀ i, i < 4 ^ N → er i = nI (rfE a S (bt (wm a N x j)) j e k i)) →
      ∃ er', lpX6_reachFrom_2 (nI j) (nI (4 ^ N)) wN wt eN (nI S) (nI N) sn fu (nI k) er = some (nI N, er') ∧ ∀ i, i < 4 ^ N → er' i = nI (rfE a S (bt (wm a N x j)) j e N i)
  | 0, _, _, _, h, _ => by omega
  | fu + 1, k, er, hk, hf, h => by
    have hN := hR.2.2.1
    have hS := hR.2.1
    have hp := pow_le6 hN
    unfold lpX6_reachFrom_2
    by_cases ek : k = N
    · subst ek
      rw [if_pos (nI_le (Nat.le_refl _) (by omega))]
      exact ⟨er, rfl, h⟩
    · rw [if_neg (nI_ge (by omega) (by omega)), p_oneOf (by omega), ob_eq rfl, if_neg (nI_in (by omega : j < wN) (by omega)), nI_clamp (by omega : j < 2 ^ 31), hwt, p_has _ (by omega : k < 32), ob_eq rfl, nI_1, nI_add]
      cases hb : bt (wm a N x j) k with
      | false =>
        rw [if_pos (by decide)]
        refine c_reachLoop (x := x) hR hs hj hwN heN hw9 he9 hwt hej he fu (k + 1) er (by omega) (by omega) (fun i hi => ?_)
        rw [h i hi]
        show _ = nI (if bt (wm a N x j) k = true ∧ i = j + 4 ^ k then _ else _)
        rw [if_neg (fun q => by rw [hb] at q; cases q.1)]
      | true =>
        have hb2 := hb
        rw [wm_bt hN (by omega)] at hb2
        simp only [Bool.and_eq_true, decide_eq_true_eq] at hb2
        obtain ⟨-, -, w3⟩ := wnt_eq hR (show k < N by omega)
        have hlt : j + 4 ^ k < 4 ^ N := add_lt (by omega) (by omega) hj
        have hb1 := bnF_13 (a := a) (k := k) (S - e j) (e j) (by omega)
        have hr1 := rfE_le (a := a) (S := S) (P := bt (wm a N x j)) (j := j) (e := e) (i := j + 4 ^ k) k
        have he1 := he (j + 4 ^ k)
        rw [if_neg (by decide), if_neg (nI_ge hlt (by omega)), if_neg (nI_in (by omega : j + 4 ^ k < eN) (by omega)), if_neg (nI_inb (by omega : j < eN) (by omega)), h j hj, rfE_low (Nat.le_refl _) k, c_behindNext hS hN hs (by omega) hej, ob_eq rfl, nI_clamp (by omega : j + 4 ^ k < 2 ^ 31), h _ hlt]
        refine c_reachLoop (x := x) hR hs hj hwN heN hw9 he9 hwt hej he fu (k + 1) _ (by omega) (by omega) (fun i hi => ?_)
        show _ = nI (if bt (wm a N x j) k = true ∧ i = j + 4 ^ k then (if bnF a k (S - e j) (e j) < rfE a S (bt (wm a N x j)) j e k i then bnF a k (S - e j) (e j) else rfE a S (bt (wm a N x j)) j e k i) else rfE a S (bt (wm a N x j)) j e k i)
        by_cases ei : i = j + 4 ^ k
        · subst ei
          rw [pk_us, if_pos (show bt (wm a N x j) k = true ∧ j + 4 ^ k = j + 4 ^ k from ⟨hb, rfl⟩)]
          by_cases c : bnF a k (S - e j) (e j) < rfE a S (bt (wm a N x j)) j e k (j + 4 ^ k)
          · rw [if_pos c, if_pos (nI_lt c (by omega))]
          · rw [if_neg c, if_neg (nI_nlt (by omega) (by omega))]
        · rw [pk_un ei, if_neg (fun q => ei q.2), h i hi]
theorem c_reachFrom {S N : Nat} {a sn wt er : Nat → Int32} {x : Int32} {j wN eN : Nat} {e : Nat → Nat} (hR : RowN S N a) (hs : ∀ t, t < S → sn t = msk (obs a · t) N) (hj : j < 4 ^ N) (hwN : 4 ^ N ≤ wN) (heN : 4 ^ N ≤ eN) (hw9 : wN < 60000) (he9 : eN < 60000) (hwt : wt j = wm a N x j) (hej : e j ≤ S) (he : ∀ i, e i ≤ 13) (h : ∀ i, i < 4 ^ N → er i = nI (e i)) :
    ∃ er', pX6_reachFrom (nI j) (nI (4 ^ N)) wN wt eN er (nI S) (nI N) sn = some er' ∧ ∀ i, i < 4 ^ N → er' i = nI (rfE a S (bt (wm a N x j)) j e N i) := by
  have hN := hR.2.2.1
  obtain ⟨er', h1, h2⟩ := c_reachLoop (x := x) hR hs hj hwN heN hw9 he9 hwt hej he lpF 0 er (by omega) (by have := lpF_big; omega) h
  refine ⟨er', ?_, h2⟩
  unfold pX6_reachFrom
  rw [ob_eq (show lpX6_reachFrom_2 (nI j) (nI (4 ^ N)) wN wt eN (nI S) (nI N) sn lpF (0 : Int32) er = _ from h1)]
/-- the teams that may take turns, with turns or without -/
def tx (b : Bool) (a : Nat → Int32) (N s : Nat) : Int32 := if b then itn (thr a N) (fun g => trn a s g N) else a 68 ^^^ (-1 : Int32)
/-- a number of exposures between those made and those wanted -/
def Gd (N : Nat) (a : Nat → Int32) (s0 s : Nat) : Prop := s < 4 ^ N ∧ ∀ k, k < N → dg s0 k ≤ dg s k ∧ dg s k ≤ wnt a k
