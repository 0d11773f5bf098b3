/-! TelescopeNightModel.waive(I)I -/
def pX9_waive (x1 : Int32) (m_a : Nat → Int32) (m_kept : Nat → Int32) (m_keptMany : Int32) (m_turnsBy : Nat → Int32) : Option (Int32 × Int32 × Int32 × (Nat → Int32) × (Nat → Int32) × (Nat → Int32)) :=
  ob (pX9_isTeam x1) (fun z1 =>
  if ¬ z1 = 0 then
    ob (pX9_teams m_a) (fun z2 =>
    if ¬ ((z2 &&& ((m_a 68) ^^^ (-1 : Int32))) &&& ((1 : Int32) <<< (x1 &&& 31))) = 0 then
      ob (pX9_keeps m_a m_kept m_keptMany) (fun z3 =>
      ob (pX9_stateNow (upd m_a 68 (((m_a 68) ||| ((1 : Int32) <<< (x1 &&& 31)))))) (fun z4 =>
      ob (pX9_inTurnBy z4 (upd m_a 68 (((m_a 68) ||| ((1 : Int32) <<< (x1 &&& 31))))) m_turnsBy) (fun z5 =>
      some (z5.1, z3.1, (0 : Int32), (upd m_a 68 (((m_a 68) ||| ((1 : Int32) <<< (x1 &&& 31))))), z3.2, z5.2))))
    else
      some ((0 : Int32), m_keptMany, (2 : Int32), m_a, m_kept, m_turnsBy))
  else
    some ((0 : Int32), m_keptMany, (1 : Int32), m_a, m_kept, m_turnsBy))
/-! TelescopeNightModel.restart()V -/
def lpX9_restart_12  : Nat → Int32 → (Nat → Int32) → Option (Int32 × (Nat → Int32))
  | 0, _, _ => none
  | fu + 1, l1, m_a =>
    if (99 : Int32) ≤ l1 then
      some (l1, m_a)
    else
      if (l1 < 0 ∨ 99 ≤ l1.toNatClampNeg) then none else
      lpX9_restart_12 fu (l1 + (1 : Int32)) (upd m_a l1.toNatClampNeg ((0 : Int32)))
def pX9_restart (m_a : Nat → Int32) (m_kept : Nat → Int32) (m_keptMany : Int32) : Option (Int32 × (Nat → Int32) × (Nat → Int32)) :=
  ob (pX9_keeps m_a m_kept m_keptMany) (fun z1 =>
  ob (lpX9_restart_12 lpF (65 : Int32) m_a) (fun z2 =>
  some (z1.1, z2.2, z1.2)))
/-! TelescopeNightModel.inTurn()I -/
def pX9_inTurn (m_a : Nat → Int32) (m_turnsBy : Nat → Int32) : Option (Int32 × (Nat → Int32)) :=
  ob (pX9_stateNow m_a) (fun z1 =>
  ob (pX9_inTurnBy z1 m_a m_turnsBy) (fun z2 =>
  some (z2.1, z2.2)))
/-! TelescopeNightModel.turnsOf(I)I -/
def lpX9_turnsOf_29 (l1 : Int32) (m_a : Nat → Int32) : Nat → Int32 → Int32 → Option (Int32 × Int32)
  | 0, _, _ => none
  | fu + 1, l2, l3 =>
    if (m_a 10) ≤ l3 then
      some (l2, l3)
    else
      ob (pX9_ofTarget l3 (0 : Int32) m_a) (fun z2 =>
      if ¬ z2 = l1 then
        lpX9_turnsOf_29 l1 m_a fu (l2 + (0 : Int32)) (l3 + (1 : Int32))
      else
        if (((69 : Int32) + l3) < 0 ∨ 99 ≤ (((69 : Int32) + l3)).toNatClampNeg) then none else
        lpX9_turnsOf_29 l1 m_a fu (l2 + (m_a (((69 : Int32) + l3)).toNatClampNeg)) (l3 + (1 : Int32)))
def pX9_turnsOf (x1 : Int32) (m_a : Nat → Int32) : Option (Int32 × Int32) :=
  ob (pX9_isTeam x1) (fun z1 =>
  if z1 = 0 then
    some ((0 : Int32), (1 : Int32))
  else
    ob (lpX9_turnsOf_29 x1 m_a lpF (0 : Int32) (0 : Int32)) (fun z3 =>
    some (z3.1, (0 : Int32))))
/-! TelescopeNightModel.exposures(I)I -/
def pX9_exposures (x1 : Int32) (m_a : Nat → Int32) : Option (Int32 × Int32) :=
  ob (pX9_isTarget x1 m_a) (fun z1 =>
  if z1 = 0 then
    some ((0 : Int32), (1 : Int32))
  else
    if (((69 : Int32) + x1) < 0 ∨ 99 ≤ (((69 : Int32) + x1)).toNatClampNeg) then none else
    some ((m_a (((69 : Int32) + x1)).toNatClampNeg), (0 : Int32)))
/-! TelescopeNightModel.past(II)I -/
def pX9_past (x1 : Int32) (x2 : Int32) (m_a : Nat → Int32) : Option (Int32 × Int32) :=
  ob (pX9_isIn x1.toInt64 (0 : Int64) ((((m_a 65) - (1 : Int32))).toInt64)) (fun z1 =>
  if ¬ z1 = 0 then
    ob (pX9_isIn x2.toInt64 (0 : Int64) (1 : Int64)) (fun z2 =>
    if ¬ z2 = 0 then
      if ¬ x2 = 0 then
        if (((87 : Int32) + x1) < 0 ∨ 99 ≤ (((87 : Int32) + x1)).toNatClampNeg) then none else
        some ((m_a (((87 : Int32) + x1)).toNatClampNeg), (0 : Int32))
      else
        if (((75 : Int32) + x1) < 0 ∨ 99 ≤ (((75 : Int32) + x1)).toNatClampNeg) then none else
        some ((m_a (((75 : Int32) + x1)).toNatClampNeg), (0 : Int32))
    else
      some ((0 : Int32), (2 : Int32)))
  else
    some ((0 : Int32), (1 : Int32)))
/-! TelescopeNightModel.laysStates(Z)V -/
def lpX9_laysStates_151 (m_a : Nat → Int32) : Nat → Int32 → (Nat → Int32) → Option (Int32 × (Nat → Int32))
  | 0, _, _ => none
  | fu + 1, l3, m_seen =>
    if (m_a 0) ≤ l3 then
      some (l3, m_seen)
    else
      ob (pX9_observableIn l3 m_a) (fun z9 =>
      if (l3 < 0 ∨ 12 ≤ l3.toNatClampNeg) then none else
      lpX9_laysStates_151 m_a fu (l3 + (1 : Int32)) (upd m_seen l3.toNatClampNeg z9))
def lpX9_laysStates_30 (l3 : Int32) (m_a : Nat → Int32) : Nat → Int32 → Int32 → Option (Int32 × Int32)
  | 0, _, _ => none
  | fu + 1, l4, l5 =>
    if (6 : Int32) ≤ l5 then
      some (l4, l5)
    else
      if l4 = 0 then
        lpX9_laysStates_30 l3 m_a fu (0 : Int32) (l5 + (1 : Int32))
      else
        ob (pX9_madeIn l3 l5) (fun z2 =>
        if (m_a 10) ≤ l5 then
          if (0 : Int32) < z2 then
            lpX9_laysStates_30 l3 m_a fu (0 : Int32) (l5 + (1 : Int32))
          else
            ob (pX9_madeIn l3 l5) (fun z3 =>
            if (((69 : Int32) + l5) < 0 ∨ 99 ≤ (((69 : Int32) + l5)).toNatClampNeg) then none else
            if z3 < (m_a (((69 : Int32) + l5)).toNatClampNeg) then
              lpX9_laysStates_30 l3 m_a fu (0 : Int32) (l5 + (1 : Int32))
            else
              lpX9_laysStates_30 l3 m_a fu (1 : Int32) (l5 + (1 : Int32)))
        else
          ob (pX9_ofTarget l5 (7 : Int32) m_a) (fun z4 =>
          if z4 < z2 then
            lpX9_laysStates_30 l3 m_a fu (0 : Int32) (l5 + (1 : Int32))
          else
            ob (pX9_madeIn l3 l5) (fun z5 =>
            if (((69 : Int32) + l5) < 0 ∨ 99 ≤ (((69 : Int32) + l5)).toNatClampNeg) then none else
            if z5 < (m_a (((69 : Int32) + l5)).toNatClampNeg) then
              lpX9_laysStates_30 l3 m_a fu (0 : Int32) (l5 + (1 : Int32))
            else
              lpX9_laysStates_30 l3 m_a fu (1 : Int32) (l5 + (1 : Int32)))))
def lpX9_laysStates_17 (l1 : Int32) (l2 : Int32) (m_a : Nat → Int32) : Nat → Int32 → (Nat → Int32) → (Nat → Int32) → (Nat → Int32) → Option (Int32 × (Nat → Int32) × (Nat → Int32) × (Nat → Int32))
  | 0, _, _, _, _ => none
  | fu + 1, l3, m_turnsBy, m_inTurnAt, m_isState =>
    if (4096 : Int32) ≤ l3 then
      some (l3, m_turnsBy, m_inTurnAt, m_isState)
    else
      ob (lpX9_laysStates_30 l3 m_a lpF (1 : Int32) (0 : Int32)) (fun z6 =>
      if (l3 < 0 ∨ 4096 ≤ l3.toNatClampNeg) then none else
      if ¬ z6.1 = 0 then
        if l1 = 0 then
          lpX9_laysStates_17 l1 l2 m_a fu (l3 + (1 : Int32)) m_turnsBy (upd m_inTurnAt l3.toNatClampNeg l2) (upd m_isState l3.toNatClampNeg (vp_nar .boolean z6.1))
        else
          ob (pX9_inTurnBy l3 m_a m_turnsBy) (fun z7 =>
          lpX9_laysStates_17 l1 l2 m_a fu (l3 + (1 : Int32)) z7.2 (upd m_inTurnAt l3.toNatClampNeg z7.1) (upd m_isState l3.toNatClampNeg (vp_nar .boolean z6.1)))
      else
        lpX9_laysStates_17 l1 l2 m_a fu (l3 + (1 : Int32)) m_turnsBy (upd m_inTurnAt l3.toNatClampNeg ((0 : Int32))) (upd m_isState l3.toNatClampNeg (vp_nar .boolean z6.1)))
def pX9_laysStates (x1 : Int32) (m_a : Nat → Int32) (m_turnsBy : Nat → Int32) (m_inTurnAt : Nat → Int32) (m_isState : Nat → Int32) (m_seen : Nat → Int32) : Option ((Nat → Int32) × (Nat → Int32) × (Nat → Int32) × (Nat → Int32)) :=
  ob (pX9_teams m_a) (fun z1 =>
  ob (lpX9_laysStates_17 x1 (z1 &&& ((m_a 68) ^^^ (-1 : Int32))) m_a lpF (0 : Int32) m_turnsBy m_inTurnAt m_isState) (fun z8 =>
  ob (lpX9_laysStates_151 m_a lpF (0 : Int32) m_seen) (fun z10 =>
  some (z8.2.1, z8.2.2.1, z8.2.2.2, z10.2))))
/-! TelescopeNightModel.canAt(III)Z -/
def pX9_canAt (x1 : Int32) (x2 : Int32) (x3 : Int32) (m_a : Nat → Int32) (m_inTurnAt : Nat → Int32) (m_seen : Nat → Int32) : Option (Int32) :=
  if (x2 < 0 ∨ 12 ≤ x2.toNatClampNeg) then none else
  if ¬ (((m_seen x2.toNatClampNeg) >>> (x1 &&& 31)) &&& (1 : Int32)) = (1 : Int32) then
    some (0 : Int32)
  else
    ob (pX9_madeIn x3 x1) (fun z1 =>
    ob (pX9_ofTarget x1 (7 : Int32) m_a) (fun z2 =>
    if z2 ≤ z1 then
      some (0 : Int32)
    else
      if (x3 < 0 ∨ 4096 ≤ x3.toNatClampNeg) then none else
      ob (pX9_ofTarget x1 (0 : Int32) m_a) (fun z3 =>
      if ¬ (((m_inTurnAt x3.toNatClampNeg) >>> (z3 &&& 31)) &&& (1 : Int32)) = (1 : Int32) then
        some (0 : Int32)
      else
        some (1 : Int32))))
/-! TelescopeNightModel.planOdds(I)I -/
def pX9_planOdds (x1 : Int32) (m_a : Nat → Int32) : Option (Int32) :=
  if ¬ x1 = (m_a 65) then
    ob (pX9_oddsOf x1 m_a) (fun z1 =>
    some z1)
  else
    if ¬ (m_a 67) = 0 then
      if ¬ (m_a 67) = (1 : Int32) then
        some (0 : Int32)
      else
        some (1000000 : Int32)
    else
      ob (pX9_oddsOf x1 m_a) (fun z2 =>
      some z2)
/-! TelescopeNightModel.isClosed(I)Z -/
def pX9_isClosed (x1 : Int32) (m_a : Nat → Int32) : Option (Int32) :=
  if ¬ x1 = (m_a 65) then
    some (0 : Int32)
  else
    if ¬ (m_a 67) = (2 : Int32) then
      some (0 : Int32)
    else
      some (1 : Int32)
/-! TelescopeNightModel.plans(IZZ)J -/
def lpX9_plans_132 (l1 : Int32) (l3 : Int32) (l4 : Int32) (l5 : Int64) (l7 : Int32) (m_a : Nat → Int32) (m_inTurnAt : Nat → Int32) (m_best : Nat → Int64) (m_seen : Nat → Int32) (m_fixedSlot : Int32) (m_fixedTarget : Int32) : Nat → Int64 → Int32 → Option (Int64 × Int32)
  | 0, _, _ => none
  | fu + 1, l8, l10 =>
    if (m_a 10) ≤ l10 then
      some (l8, l10)
    else
      ob (pX9_isClosed l4 m_a) (fun z4 =>
      if ¬ z4 = 0 then
        some (l8, l10)
      else
        if l10 = l1 then
          lpX9_plans_132 l1 l3 l4 l5 l7 m_a m_inTurnAt m_best m_seen m_fixedSlot m_fixedTarget fu l8 (l10 + (1 : Int32))
        else
          ob (pX9_canAt l10 l4 l7 m_a m_inTurnAt m_seen) (fun z5 =>
          if z5 = 0 then
            lpX9_plans_132 l1 l3 l4 l5 l7 m_a m_inTurnAt m_best m_seen m_fixedSlot m_fixedTarget fu l8 (l10 + (1 : Int32))
          else
            if ¬ l4 = m_fixedSlot then
              if (((((4096 : Int32) * (l4 + (1 : Int32))) + l7) + ((1 : Int32) <<< (((2 : Int32) * l10) &&& 31))) < 0 ∨ 53248 ≤ (((((4096 : Int32) * (l4 + (1 : Int32))) + l7) + ((1 : Int32) <<< (((2 : Int32) * l10) &&& 31)))).toNatClampNeg) then none else
              if 0 ≤ (lg_cmp ((m_best (((((4096 : Int32) * (l4 + (1 : Int32))) + l7) + ((1 : Int32) <<< (((2 : Int32) * l10) &&& 31)))).toNatClampNeg)) ((0 : Int64))) then
                if l3 = 0 then
                  ob (pX9_ofTarget l10 (8 : Int32) m_a) (fun z6 =>
                  if (lg_cmp (((z6.toInt64 * l5) + (m_best (((((4096 : Int32) * (l4 + (1 : Int32))) + l7) + ((1 : Int32) <<< (((2 : Int32) * l10) &&& 31)))).toNatClampNeg))) l8) ≤ 0 then
                    lpX9_plans_132 l1 l3 l4 l5 l7 m_a m_inTurnAt m_best m_seen m_fixedSlot m_fixedTarget fu l8 (l10 + (1 : Int32))
                  else
                    lpX9_plans_132 l1 l3 l4 l5 l7 m_a m_inTurnAt m_best m_seen m_fixedSlot m_fixedTarget fu ((z6.toInt64 * l5) + (m_best (((((4096 : Int32) * (l4 + (1 : Int32))) + l7) + ((1 : Int32) <<< (((2 : Int32) * l10) &&& 31)))).toNatClampNeg)) (l10 + (1 : Int32)))
                else
                  if (lg_cmp (((1 : Int64) + (m_best (((((4096 : Int32) * (l4 + (1 : Int32))) + l7) + ((1 : Int32) <<< (((2 : Int32) * l10) &&& 31)))).toNatClampNeg))) l8) ≤ 0 then
                    lpX9_plans_132 l1 l3 l4 l5 l7 m_a m_inTurnAt m_best m_seen m_fixedSlot m_fixedTarget fu l8 (l10 + (1 : Int32))
                  else
                    lpX9_plans_132 l1 l3 l4 l5 l7 m_a m_inTurnAt m_best m_seen m_fixedSlot m_fixedTarget fu ((1 : Int64) + (m_best (((((4096 : Int32) * (l4 + (1 : Int32))) + l7) + ((1 : Int32) <<< (((2 : Int32) * l10) &&& 31)))).toNatClampNeg)) (l10 + (1 : Int32))
              else
                if (lg_cmp ((-1 : Int64)) l8) ≤ 0 then
                  lpX9_plans_132 l1 l3 l4 l5 l7 m_a m_inTurnAt m_best m_seen m_fixedSlot m_fixedTarget fu l8 (l10 + (1 : Int32))
                else
                  lpX9_plans_132 l1 l3 l4 l5 l7 m_a m_inTurnAt m_best m_seen m_fixedSlot m_fixedTarget fu (-1 : Int64) (l10 + (1 : Int32))
            else
              if l10 = m_fixedTarget then
                if (((((4096 : Int32) * (l4 + (1 : Int32))) + l7) + ((1 : Int32) <<< (((2 : Int32) * l10) &&& 31))) < 0 ∨ 53248 ≤ (((((4096 : Int32) * (l4 + (1 : Int32))) + l7) + ((1 : Int32) <<< (((2 : Int32) * l10) &&& 31)))).toNatClampNeg) then none else
                if 0 ≤ (lg_cmp ((m_best (((((4096 : Int32) * (l4 + (1 : Int32))) + l7) + ((1 : Int32) <<< (((2 : Int32) * l10) &&& 31)))).toNatClampNeg)) ((0 : Int64))) then
                  if l3 = 0 then
                    ob (pX9_ofTarget l10 (8 : Int32) m_a) (fun z7 =>
                    if (lg_cmp (((z7.toInt64 * l5) + (m_best (((((4096 : Int32) * (l4 + (1 : Int32))) + l7) + ((1 : Int32) <<< (((2 : Int32) * l10) &&& 31)))).toNatClampNeg))) l8) ≤ 0 then
                      lpX9_plans_132 l1 l3 l4 l5 l7 m_a m_inTurnAt m_best m_seen m_fixedSlot m_fixedTarget fu l8 (l10 + (1 : Int32))
                    else
                      lpX9_plans_132 l1 l3 l4 l5 l7 m_a m_inTurnAt m_best m_seen m_fixedSlot m_fixedTarget fu ((z7.toInt64 * l5) + (m_best (((((4096 : Int32) * (l4 + (1 : Int32))) + l7) + ((1 : Int32) <<< (((2 : Int32) * l10) &&& 31)))).toNatClampNeg)) (l10 + (1 : Int32)))
                  else
                    if (lg_cmp (((1 : Int64) + (m_best (((((4096 : Int32) * (l4 + (1 : Int32))) + l7) + ((1 : Int32) <<< (((2 : Int32) * l10) &&& 31)))).toNatClampNeg))) l8) ≤ 0 then
                      lpX9_plans_132 l1 l3 l4 l5 l7 m_a m_inTurnAt m_best m_seen m_fixedSlot m_fixedTarget fu l8 (l10 + (1 : Int32))
                    else
                      lpX9_plans_132 l1 l3 l4 l5 l7 m_a m_inTurnAt m_best m_seen m_fixedSlot m_fixedTarget fu ((1 : Int64) + (m_best (((((4096 : Int32) * (l4 + (1 : Int32))) + l7) + ((1 : Int32) <<< (((2 : Int32) * l10) &&& 31)))).toNatClampNeg)) (l10 + (1 : Int32))
                else
                  if (lg_cmp ((-1 : Int64)) l8) ≤ 0 then
                    lpX9_plans_132 l1 l3 l4 l5 l7 m_a m_inTurnAt m_best m_seen m_fixedSlot m_fixedTarget fu l8 (l10 + (1 : Int32))
                  else
                    lpX9_plans_132 l1 l3 l4 l5 l7 m_a m_inTurnAt m_best m_seen m_fixedSlot m_fixedTarget fu (-1 : Int64) (l10 + (1 : Int32))
              else
                lpX9_plans_132 l1 l3 l4 l5 l7 m_a m_inTurnAt m_best m_seen m_fixedSlot m_fixedTarget fu l8 (l10 + (1 : Int32))))
def lpX9_plans_75 (l1 : Int32) (l3 : Int32) (l4 : Int32) (l5 : Int64) (m_a : Nat → Int32) (m_inTurnAt : Nat → Int32) (m_isState : Nat → Int32) (m_seen : Nat → Int32) (m_fixedSlot : Int32) (m_fixedTarget : Int32) : Nat → Int32 → (Nat → Int64) → Option (Int32 × (Nat → Int64))
  | 0, _, _ => none
  | fu + 1, l7, m_best =>
    if (4096 : Int32) ≤ l7 then
      some (l7, m_best)
    else
      if (l7 < 0 ∨ 4096 ≤ l7.toNatClampNeg) then none else
      if ¬ (m_isState l7.toNatClampNeg) = 0 then
        if ¬ l4 = m_fixedSlot then
          if ((((4096 : Int32) * (l4 + (1 : Int32))) + l7) < 0 ∨ 53248 ≤ ((((4096 : Int32) * (l4 + (1 : Int32))) + l7)).toNatClampNeg) then none else
          ob (lpX9_plans_132 l1 l3 l4 l5 l7 m_a m_inTurnAt m_best m_seen m_fixedSlot m_fixedTarget lpF (m_best ((((4096 : Int32) * (l4 + (1 : Int32))) + l7)).toNatClampNeg) (0 : Int32)) (fun z8 =>
          if ((((4096 : Int32) * l4) + l7) < 0 ∨ 53248 ≤ ((((4096 : Int32) * l4) + l7)).toNatClampNeg) then none else
          lpX9_plans_75 l1 l3 l4 l5 m_a m_inTurnAt m_isState m_seen m_fixedSlot m_fixedTarget fu (l7 + (1 : Int32)) (vp_updL m_best (((((4096 : Int32) * l4) + l7)).toNatClampNeg) z8.1))
        else
          ob (lpX9_plans_132 l1 l3 l4 l5 l7 m_a m_inTurnAt m_best m_seen m_fixedSlot m_fixedTarget lpF (-1 : Int64) (0 : Int32)) (fun z9 =>
          if ((((4096 : Int32) * l4) + l7) < 0 ∨ 53248 ≤ ((((4096 : Int32) * l4) + l7)).toNatClampNeg) then none else
          lpX9_plans_75 l1 l3 l4 l5 m_a m_inTurnAt m_isState m_seen m_fixedSlot m_fixedTarget fu (l7 + (1 : Int32)) (vp_updL m_best (((((4096 : Int32) * l4) + l7)).toNatClampNeg) z9.1))
      else
        lpX9_plans_75 l1 l3 l4 l5 m_a m_inTurnAt m_isState m_seen m_fixedSlot m_fixedTarget fu (l7 + (1 : Int32)) m_best
def lpX9_plans_51 (l1 : Int32) (l3 : Int32) (m_a : Nat → Int32) (m_inTurnAt : Nat → Int32) (m_isState : Nat → Int32) (m_seen : Nat → Int32) (m_fixedSlot : Int32) (m_fixedTarget : Int32) : Nat → Int32 → (Nat → Int64) → Option (Int32 × (Nat → Int64))
  | 0, _, _ => none
  | fu + 1, l4, m_best =>
    if l4 < (m_a 65) then
      some (l4, m_best)
    else
      ob (pX9_planOdds l4 m_a) (fun z3 =>
      ob (lpX9_plans_75 l1 l3 l4 z3.toInt64 m_a m_inTurnAt m_isState m_seen m_fixedSlot m_fixedTarget lpF (0 : Int32) m_best) (fun z10 =>
      lpX9_plans_51 l1 l3 m_a m_inTurnAt m_isState m_seen m_fixedSlot m_fixedTarget fu (l4 + (-1 : Int32)) z10.2))
def lpX9_plans_8 (m_a : Nat → Int32) : Nat → Int32 → (Nat → Int64) → Option (Int32 × (Nat → Int64))
  | 0, _, _ => none
  | fu + 1, l4, m_best =>
    if (4096 : Int32) ≤ l4 then
      some (l4, m_best)
    else
      if ((((4096 : Int32) * (m_a 0)) + l4) < 0 ∨ 53248 ≤ ((((4096 : Int32) * (m_a 0)) + l4)).toNatClampNeg) then none else
      lpX9_plans_8 m_a fu (l4 + (1 : Int32)) (vp_updL m_best (((((4096 : Int32) * (m_a 0)) + l4)).toNatClampNeg) ((0 : Int64)))
def pX9_plans (x1 : Int32) (x2 : Int32) (x3 : Int32) (m_a : Nat → Int32) (m_turnsBy : Nat → Int32) (m_inTurnAt : Nat → Int32) (m_isState : Nat → Int32) (m_best : Nat → Int64) (m_seen : Nat → Int32) (m_fixedSlot : Int32) (m_fixedTarget : Int32) : Option (Int64 × (Nat → Int32) × (Nat → Int32) × (Nat → Int32) × (Nat → Int64) × (Nat → Int32)) :=
  ob (pX9_laysStates x2 m_a m_turnsBy m_inTurnAt m_isState m_seen) (fun z1 =>
  ob (lpX9_plans_8 m_a lpF (0 : Int32) m_best) (fun z2 =>
  ob (lpX9_plans_51 x1 x3 m_a z1.2.1 z1.2.2.1 z1.2.2.2 m_fixedSlot m_fixedTarget lpF ((m_a 0) - (1 : Int32)) z2.2) (fun z11 =>
  ob (pX9_stateNow m_a) (fun z12 =>
  if ((((4096 : Int32) * (m_a 65)) + z12) < 0 ∨ 53248 ≤ ((((4096 : Int32) * (m_a 65)) + z12)).toNatClampNeg) then none else
  some ((z11.2 ((((4096 : Int32) * (m_a 65)) + z12)).toNatClampNeg), z1.1, z1.2.1, z1.2.2.1, z11.2, z1.2.2.2)))))
/-! TelescopeNightModel.planValueWith(II)J -/
def pX9_planValueWith (x1 : Int32) (x2 : Int32) (m_a : Nat → Int32) (m_turnsBy : Nat → Int32) (m_inTurnAt : Nat → Int32) (m_isState : Nat → Int32) (m_best : Nat → Int64) (m_seen : Nat → Int32) (m_fixedSlot : Int32) (m_fixedTarget : Int32) : Option (Int64 × Int32 × Int32 × Int32 × (Nat → Int32) × (Nat → Int32) × (Nat → Int32) × (Nat → Int64) × (Nat → Int32)) :=
  ob (pX9_isIn x1.toInt64 (((m_a 65)).toInt64) ((((m_a 0) - (1 : Int32))).toInt64)) (fun z1 =>
  if z1 = 0 then
    some ((0 : Int64), (1 : Int32), m_fixedSlot, m_fixedTarget, m_turnsBy, m_inTurnAt, m_isState, m_best, m_seen)
  else
    ob (pX9_isTarget x2 m_a) (fun z2 =>
    if z2 = 0 then
      some ((0 : Int64), (1 : Int32), m_fixedSlot, m_fixedTarget, m_turnsBy, m_inTurnAt, m_isState, m_best, m_seen)
    else
      ob (pX9_plans (-1 : Int32) (1 : Int32) (0 : Int32) m_a m_turnsBy m_inTurnAt m_isState m_best m_seen x1 x2) (fun z3 =>
      if 0 ≤ (lg_cmp z3.1 ((0 : Int64))) then
        some (z3.1, (0 : Int32), (-1 : Int32), x2, z3.2.1, z3.2.2.1, z3.2.2.2.1, z3.2.2.2.2.1, z3.2.2.2.2.2)
      else
        some ((0 : Int64), (2 : Int32), (-1 : Int32), x2, z3.2.1, z3.2.2.1, z3.2.2.2.1, z3.2.2.2.2.1, z3.2.2.2.2.2))))
/-! TelescopeNightModel.planCount()J -/
def lpX9_planCount_252 (m_waysNow : Nat → Int64) : Nat → Int32 → (Nat → Int64) → Option (Int32 × (Nat → Int64))
  | 0, _, _ => none
  | fu + 1, l6, m_ways =>
    if (4096 : Int32) ≤ l6 then
      some (l6, m_ways)
    else
      if (l6 < 0 ∨ 4096 ≤ l6.toNatClampNeg) then none else
      lpX9_planCount_252 m_waysNow fu (l6 + (1 : Int32)) (vp_updL m_ways l6.toNatClampNeg ((m_waysNow l6.toNatClampNeg)))
def lpX9_planCount_139 (l3 : Int32) (l4 : Int64) (l6 : Int32) (l7 : Int64) (m_a : Nat → Int32) (m_inTurnAt : Nat → Int32) (m_best : Nat → Int64) (m_seen : Nat → Int32) (m_ways : Nat → Int64) : Nat → Int64 → Int32 → Option (Int64 × Int32)
  | 0, _, _ => none
  | fu + 1, l9, l11 =>
    if (m_a 10) ≤ l11 then
      some (l9, l11)
    else
      ob (pX9_isClosed l3 m_a) (fun z4 =>
      if ¬ z4 = 0 then
        some (l9, l11)
      else
        ob (pX9_canAt l11 l3 l6 m_a m_inTurnAt m_seen) (fun z5 =>
        if z5 = 0 then
          lpX9_planCount_139 l3 l4 l6 l7 m_a m_inTurnAt m_best m_seen m_ways fu l9 (l11 + (1 : Int32))
        else
          ob (pX9_ofTarget l11 (8 : Int32) m_a) (fun z6 =>
          if ((((4096 : Int32) * (l3 + (1 : Int32))) + (l6 + ((1 : Int32) <<< (((2 : Int32) * l11) &&& 31)))) < 0 ∨ 53248 ≤ ((((4096 : Int32) * (l3 + (1 : Int32))) + (l6 + ((1 : Int32) <<< (((2 : Int32) * l11) &&& 31))))).toNatClampNeg) then none else
          if ¬ (lg_cmp (((z6.toInt64 * l4) + (m_best ((((4096 : Int32) * (l3 + (1 : Int32))) + (l6 + ((1 : Int32) <<< (((2 : Int32) * l11) &&& 31))))).toNatClampNeg))) l7) = 0 then
            lpX9_planCount_139 l3 l4 l6 l7 m_a m_inTurnAt m_best m_seen m_ways fu l9 (l11 + (1 : Int32))
          else
            if ((l6 + ((1 : Int32) <<< (((2 : Int32) * l11) &&& 31))) < 0 ∨ 4096 ≤ ((l6 + ((1 : Int32) <<< (((2 : Int32) * l11) &&& 31)))).toNatClampNeg) then none else
            lpX9_planCount_139 l3 l4 l6 l7 m_a m_inTurnAt m_best m_seen m_ways fu (l9 + (m_ways ((l6 + ((1 : Int32) <<< (((2 : Int32) * l11) &&& 31)))).toNatClampNeg)) (l11 + (1 : Int32)))))
def lpX9_planCount_66 (l3 : Int32) (l4 : Int64) (m_a : Nat → Int32) (m_inTurnAt : Nat → Int32) (m_isState : Nat → Int32) (m_best : Nat → Int64) (m_seen : Nat → Int32) (m_ways : Nat → Int64) : Nat → Int32 → (Nat → Int64) → Option (Int32 × (Nat → Int64))
  | 0, _, _ => none
  | fu + 1, l6, m_waysNow =>
    if (4096 : Int32) ≤ l6 then
      some (l6, m_waysNow)
    else
      if (l6 < 0 ∨ 4096 ≤ l6.toNatClampNeg) then none else
      if ¬ (m_isState l6.toNatClampNeg) = 0 then
        if ((((4096 : Int32) * l3) + l6) < 0 ∨ 53248 ≤ ((((4096 : Int32) * l3) + l6)).toNatClampNeg) then none else
        if ((((4096 : Int32) * (l3 + (1 : Int32))) + l6) < 0 ∨ 53248 ≤ ((((4096 : Int32) * (l3 + (1 : Int32))) + l6)).toNatClampNeg) then none else
        if ¬ (lg_cmp ((m_best ((((4096 : Int32) * (l3 + (1 : Int32))) + l6)).toNatClampNeg)) ((m_best ((((4096 : Int32) * l3) + l6)).toNatClampNeg))) = 0 then
          ob (lpX9_planCount_139 l3 l4 l6 (m_best ((((4096 : Int32) * l3) + l6)).toNatClampNeg) m_a m_inTurnAt m_best m_seen m_ways lpF (0 : Int64) (0 : Int32)) (fun z7 =>
          lpX9_planCount_66 l3 l4 m_a m_inTurnAt m_isState m_best m_seen m_ways fu (l6 + (1 : Int32)) (vp_updL m_waysNow l6.toNatClampNeg z7.1))
        else
          ob (lpX9_planCount_139 l3 l4 l6 (m_best ((((4096 : Int32) * l3) + l6)).toNatClampNeg) m_a m_inTurnAt m_best m_seen m_ways lpF (m_ways l6.toNatClampNeg) (0 : Int32)) (fun z8 =>
          lpX9_planCount_66 l3 l4 m_a m_inTurnAt m_isState m_best m_seen m_ways fu (l6 + (1 : Int32)) (vp_updL m_waysNow l6.toNatClampNeg z8.1))
      else
        lpX9_planCount_66 l3 l4 m_a m_inTurnAt m_isState m_best m_seen m_ways fu (l6 + (1 : Int32)) m_waysNow
def lpX9_planCount_44 (m_a : Nat → Int32) (m_inTurnAt : Nat → Int32) (m_isState : Nat → Int32) (m_best : Nat → Int64) (m_seen : Nat → Int32) : Nat → Int32 → (Nat → Int64) → (Nat → Int64) → Option (Int32 × (Nat → Int64) × (Nat → Int64))
  | 0, _, _, _ => none
  | fu + 1, l3, m_ways, m_waysNow =>
    if l3 < (m_a 65) then
      some (l3, m_ways, m_waysNow)
    else
      ob (pX9_planOdds l3 m_a) (fun z3 =>
      ob (lpX9_planCount_66 l3 z3.toInt64 m_a m_inTurnAt m_isState m_best m_seen m_ways lpF (0 : Int32) m_waysNow) (fun z9 =>
      ob (lpX9_planCount_252 z9.2 lpF (0 : Int32) m_ways) (fun z10 =>
      lpX9_planCount_44 m_a m_inTurnAt m_isState m_best m_seen fu (l3 + (-1 : Int32)) z10.2 z9.2)))
def lpX9_planCount_15  : Nat → Int32 → (Nat → Int64) → Option (Int32 × (Nat → Int64))
  | 0, _, _ => none
  | fu + 1, l3, m_ways =>
    if (4096 : Int32) ≤ l3 then
      some (l3, m_ways)
    else
      if (l3 < 0 ∨ 4096 ≤ l3.toNatClampNeg) then none else
      lpX9_planCount_15 fu (l3 + (1 : Int32)) (vp_updL m_ways l3.toNatClampNeg ((1 : Int64)))
def pX9_planCount (m_a : Nat → Int32) (m_turnsBy : Nat → Int32) (m_inTurnAt : Nat → Int32) (m_isState : Nat → Int32) (m_best : Nat → Int64) (m_seen : Nat → Int32) (m_fixedSlot : Int32) (m_fixedTarget : Int32) (m_ways : Nat → Int64) (m_waysNow : Nat → Int64) : Option (Int64 × (Nat → Int32) × (Nat → Int32) × (Nat → Int32) × (Nat → Int64) × (Nat → Int32) × (Nat → Int64) × (Nat → Int64)) :=
  ob (pX9_plans (-1 : Int32) (1 : Int32) (0 : Int32) m_a m_turnsBy m_inTurnAt m_isState m_best m_seen m_fixedSlot m_fixedTarget) (fun z1 =>
  ob (lpX9_planCount_15 lpF (0 : Int32) m_ways) (fun z2 =>
  ob (lpX9_planCount_44 m_a z1.2.2.1 z1.2.2.2.1 z1.2.2.2.2.1 z1.2.2.2.2.2 lpF ((m_a 0) - (1 : Int32)) z2.2 m_waysNow) (fun z11 =>
  ob (pX9_stateNow m_a) (fun z12 =>
  if (z12 < 0 ∨ 4096 ≤ z12.toNatClampNeg) then none else
  some ((z11.2.1 z12.toNatClampNeg), z1.2.1, z1.2.2.1, z1.2.2.2.1, z1.2.2.2.2.1, z1.2.2.2.2.2, z11.2.1, z11.2.2)))))
/-! TelescopeNightModel.planValue()J -/
def pX9_planValue (m_a : Nat → Int32) (m_turnsBy : Nat → Int32) (m_inTurnAt : Nat → Int32) (m_isState : Nat → Int32) (m_best : Nat → Int64) (m_seen : Nat → Int32) (m_fixedSlot : Int32) (m_fixedTarget : Int32) : Option (Int64 × (Nat → Int32) × (Nat → Int32) × (Nat → Int32) × (Nat → Int64) × (Nat → Int32)) :=
  ob (pX9_plans (-1 : Int32) (1 : Int32) (0 : Int32) m_a m_turnsBy m_inTurnAt m_isState m_best m_seen m_fixedSlot m_fixedTarget) (fun z1 =>
  some (z1.1, z1.2.1, z1.2.2.1, z1.2.2.2.1, z1.2.2.2.2.1, z1.2.2.2.2.2))
/-! TelescopeNightModel.firstOf(II)I -/
def lpX9_firstOf_2 (l1 : Int32) (l2 : Int32) (m_a : Nat → Int32) (m_inTurnAt : Nat → Int32) (m_best : Nat → Int64) (m_seen : Nat → Int32) : Nat → Int32 → Option ((Int32) ⊕ (Int32))
  | 0, _ => none
  | fu + 1, l3 =>
    if (m_a 10) ≤ l3 then
      some (.inl l3)
    else
      ob (pX9_isClosed l1 m_a) (fun z1 =>
      if ¬ z1 = 0 then
        some (.inl l3)
      else
        ob (pX9_canAt l3 l1 l2 m_a m_inTurnAt m_seen) (fun z2 =>
        if ¬ z2 = 0 then
          ob (pX9_ofTarget l3 (8 : Int32) m_a) (fun z3 =>
          ob (pX9_planOdds l1 m_a) (fun z4 =>
          if (((((4096 : Int32) * (l1 + (1 : Int32))) + l2) + ((1 : Int32) <<< (((2 : Int32) * l3) &&& 31))) < 0 ∨ 53248 ≤ (((((4096 : Int32) * (l1 + (1 : Int32))) + l2) + ((1 : Int32) <<< (((2 : Int32) * l3) &&& 31)))).toNatClampNeg) then none else
          if ((((4096 : Int32) * l1) + l2) < 0 ∨ 53248 ≤ ((((4096 : Int32) * l1) + l2)).toNatClampNeg) then none else
          if ¬ (lg_cmp (((z3.toInt64 * z4.toInt64) + (m_best (((((4096 : Int32) * (l1 + (1 : Int32))) + l2) + ((1 : Int32) <<< (((2 : Int32) * l3) &&& 31)))).toNatClampNeg))) ((m_best ((((4096 : Int32) * l1) + l2)).toNatClampNeg))) = 0 then
            lpX9_firstOf_2 l1 l2 m_a m_inTurnAt m_best m_seen fu (l3 + (1 : Int32))
          else
            some (.inr l3)))
        else
          lpX9_firstOf_2 l1 l2 m_a m_inTurnAt m_best m_seen fu (l3 + (1 : Int32))))
def pX9_firstOf (x1 : Int32) (x2 : Int32) (m_a : Nat → Int32) (m_inTurnAt : Nat → Int32) (m_best : Nat → Int64) (m_seen : Nat → Int32) : Option (Int32) :=
  ob (lpX9_firstOf_2 x1 x2 m_a m_inTurnAt m_best m_seen lpF (0 : Int32)) (fun z5 => match z5 with
  | .inl z5e =>
    some (-1 : Int32)
  | .inr z5f => some z5f)
/-! TelescopeNightModel.planned(I)I -/
def lpX9_planned_66 (l1 : Int32) (m_a : Nat → Int32) (m_inTurnAt : Nat → Int32) (m_best : Nat → Int64) (m_seen : Nat → Int32) : Nat → Int32 → Int32 → Option (Int32 × Int32)
  | 0, _, _ => none
  | fu + 1, l4, l5 =>
    if l1 ≤ l5 then
      some (l4, l5)
    else
      ob (pX9_firstOf l5 l4 m_a m_inTurnAt m_best m_seen) (fun z4 =>
      if ¬ z4 = (-1 : Int32) then
        lpX9_planned_66 l1 m_a m_inTurnAt m_best m_seen fu (l4 + ((1 : Int32) <<< (((2 : Int32) * z4) &&& 31))) (l5 + (1 : Int32))
      else
        lpX9_planned_66 l1 m_a m_inTurnAt m_best m_seen fu (l4 + (0 : Int32)) (l5 + (1 : Int32)))
def pX9_planned (x1 : Int32) (m_a : Nat → Int32) (m_turnsBy : Nat → Int32) (m_inTurnAt : Nat → Int32) (m_isState : Nat → Int32) (m_best : Nat → Int64) (m_seen : Nat → Int32) (m_fixedSlot : Int32) (m_fixedTarget : Int32) : Option (Int32 × Int32 × (Nat → Int32) × (Nat → Int32) × (Nat → Int32) × (Nat → Int64) × (Nat → Int32)) :=
  ob (pX9_isIn x1.toInt64 (((m_a 65)).toInt64) ((((m_a 0) - (1 : Int32))).toInt64)) (fun z1 =>
  if z1 = 0 then
    some ((0 : Int32), (1 : Int32), m_turnsBy, m_inTurnAt, m_isState, m_best, m_seen)
  else
    ob (pX9_plans (-1 : Int32) (1 : Int32) (0 : Int32) m_a m_turnsBy m_inTurnAt m_isState m_best m_seen m_fixedSlot m_fixedTarget) (fun z2 =>
    ob (pX9_stateNow m_a) (fun z3 =>
    ob (lpX9_planned_66 x1 m_a z2.2.2.1 z2.2.2.2.2.1 z2.2.2.2.2.2 lpF z3 (m_a 65)) (fun z5 =>
    ob (pX9_firstOf x1 z5.1 m_a z2.2.2.1 z2.2.2.2.2.1 z2.2.2.2.2.2) (fun z6 =>
    some (z6, (0 : Int32), z2.2.1, z2.2.2.1, z2.2.2.2.1, z2.2.2.2.2.1, z2.2.2.2.2.2))))))
/-! TelescopeNightModel.worth(I)J -/
def pX9_worth (x1 : Int32) (m_a : Nat → Int32) (m_turnsBy : Nat → Int32) (m_inTurnAt : Nat → Int32) (m_isState : Nat → Int32) (m_best : Nat → Int64) (m_seen : Nat → Int32) (m_fixedSlot : Int32) (m_fixedTarget : Int32) : Option (Int64 × Int32 × (Nat → Int32) × (Nat → Int32) × (Nat → Int32) × (Nat → Int64) × (Nat → Int32)) :=
  ob (pX9_isTarget x1 m_a) (fun z1 =>
  if z1 = 0 then
    some ((0 : Int64), (1 : Int32), m_turnsBy, m_inTurnAt, m_isState, m_best, m_seen)
  else
    ob (pX9_plans (-1 : Int32) (1 : Int32) (0 : Int32) m_a m_turnsBy m_inTurnAt m_isState m_best m_seen m_fixedSlot m_fixedTarget) (fun z2 =>
    ob (pX9_plans x1 (1 : Int32) (0 : Int32) m_a z2.2.1 z2.2.2.1 z2.2.2.2.1 z2.2.2.2.2.1 z2.2.2.2.2.2 m_fixedSlot m_fixedTarget) (fun z3 =>
    some ((z2.1 - z3.1), (0 : Int32), z3.2.1, z3.2.2.1, z3.2.2.2.1, z3.2.2.2.2.1, z3.2.2.2.2.2))))
/-! TelescopeNightModel.priceOfTurns()J -/
def pX9_priceOfTurns (m_a : Nat → Int32) (m_turnsBy : Nat → Int32) (m_inTurnAt : Nat → Int32) (m_isState : Nat → Int32) (m_best : Nat → Int64) (m_seen : Nat → Int32) (m_fixedSlot : Int32) (m_fixedTarget : Int32) : Option (Int64 × (Nat → Int32) × (Nat → Int32) × (Nat → Int32) × (Nat → Int64) × (Nat → Int32)) :=
  ob (pX9_plans (-1 : Int32) (0 : Int32) (0 : Int32) m_a m_turnsBy m_inTurnAt m_isState m_best m_seen m_fixedSlot m_fixedTarget) (fun z1 =>
  ob (pX9_plans (-1 : Int32) (1 : Int32) (0 : Int32) m_a z1.2.1 z1.2.2.1 z1.2.2.2.1 z1.2.2.2.2.1 z1.2.2.2.2.2 m_fixedSlot m_fixedTarget) (fun z2 =>
  some ((z1.1 - z2.1), z2.2.1, z2.2.2.1, z2.2.2.2.1, z2.2.2.2.2.1, z2.2.2.2.2.2)))
/-! TelescopeNightModel.mostExposures(Z)I -/
def pX9_mostExposures (x1 : Int32) (m_a : Nat → Int32) (m_turnsBy : Nat → Int32) (m_inTurnAt : Nat → Int32) (m_isState : Nat → Int32) (m_best : Nat → Int64) (m_seen : Nat → Int32) (m_fixedSlot : Int32) (m_fixedTarget : Int32) : Option (Int32 × (Nat → Int32) × (Nat → Int32) × (Nat → Int32) × (Nat → Int64) × (Nat → Int32)) :=
  ob (pX9_plans (-1 : Int32) x1 (1 : Int32) m_a m_turnsBy m_inTurnAt m_isState m_best m_seen m_fixedSlot m_fixedTarget) (fun z1 =>
  some (z1.1.toInt32, z1.2.1, z1.2.2.1, z1.2.2.2.1, z1.2.2.2.2.1, z1.2.2.2.2.2))
/-! TelescopeNightModel.greedyAt(II)I -/
def lpX9_greedyAt_5 (l1 : Int32) (l2 : Int32) (m_a : Nat → Int32) (m_inTurnAt : Nat → Int32) (m_seen : Nat → Int32) : Nat → Int32 → Int32 → Option (Int32 × Int32)
  | 0, _, _ => none
  | fu + 1, l3, l4 =>
    if (m_a 10) ≤ l4 then
      some (l3, l4)
    else
      ob (pX9_canAt l4 l1 l2 m_a m_inTurnAt m_seen) (fun z1 =>
      if z1 = 0 then
        lpX9_greedyAt_5 l1 l2 m_a m_inTurnAt m_seen fu l3 (l4 + (1 : Int32))
      else
        if l3 = (-1 : Int32) then
          lpX9_greedyAt_5 l1 l2 m_a m_inTurnAt m_seen fu l4 (l4 + (1 : Int32))
        else
          ob (pX9_ofTarget l4 (8 : Int32) m_a) (fun z2 =>
          ob (pX9_ofTarget l3 (8 : Int32) m_a) (fun z3 =>
          if z2 ≤ z3 then
            lpX9_greedyAt_5 l1 l2 m_a m_inTurnAt m_seen fu l3 (l4 + (1 : Int32))
          else
            lpX9_greedyAt_5 l1 l2 m_a m_inTurnAt m_seen fu l4 (l4 + (1 : Int32)))))
def pX9_greedyAt (x1 : Int32) (x2 : Int32) (m_a : Nat → Int32) (m_inTurnAt : Nat → Int32) (m_seen : Nat → Int32) : Option (Int32) :=
  ob (lpX9_greedyAt_5 x1 x2 m_a m_inTurnAt m_seen lpF (-1 : Int32) (0 : Int32)) (fun z4 =>
  some z4.1)
/-! TelescopeNightModel.greedyValue()J -/
def lpX9_greedyValue_26 (m_a : Nat → Int32) (m_inTurnAt : Nat → Int32) (m_seen : Nat → Int32) : Nat → Int32 → Int64 → Int32 → Option (Int32 × Int64 × Int32)
  | 0, _, _, _ => none
  | fu + 1, l1, l2, l4 =>
    if (m_a 0) ≤ l4 then
      some (l1, l2, l4)
    else
      ob (pX9_isClosed l4 m_a) (fun z3 =>
      if z3 = 0 then
        ob (pX9_greedyAt l4 l1 m_a m_inTurnAt m_seen) (fun z4 =>
        if ¬ z4 = (-1 : Int32) then
          ob (pX9_ofTarget z4 (8 : Int32) m_a) (fun z5 =>
          ob (pX9_planOdds l4 m_a) (fun z6 =>
          lpX9_greedyValue_26 m_a m_inTurnAt m_seen fu (l1 + ((1 : Int32) <<< (((2 : Int32) * z4) &&& 31))) (l2 + (z5.toInt64 * z6.toInt64)) (l4 + (1 : Int32))))
        else
          lpX9_greedyValue_26 m_a m_inTurnAt m_seen fu l1 l2 (l4 + (1 : Int32)))
      else
        lpX9_greedyValue_26 m_a m_inTurnAt m_seen fu l1 l2 (l4 + (1 : Int32)))
def pX9_greedyValue (m_a : Nat → Int32) (m_turnsBy : Nat → Int32) (m_inTurnAt : Nat → Int32) (m_isState : Nat → Int32) (m_seen : Nat → Int32) : Option (Int64 × (Nat → Int32) × (Nat → Int32) × (Nat → Int32) × (Nat → Int32)) :=
  ob (pX9_laysStates (1 : Int32) m_a m_turnsBy m_inTurnAt m_isState m_seen) (fun z1 =>
  ob (pX9_stateNow m_a) (fun z2 =>
  ob (lpX9_greedyValue_26 m_a z1.2.1 z1.2.2.2 lpF z2 (0 : Int64) (m_a 65)) (fun z7 =>
  some (z7.2.1, z1.1, z1.2.1, z1.2.2.1, z1.2.2.2))))
/-! TelescopeNightModel.behindSky(IZI)J -/
def pX9_behindSky (x1 : Int32) (x2 : Int32) (x3 : Int32) (m_a : Nat → Int32) (m_clears : Nat → Int64) (m_clouds : Nat → Int64) : Option (Int64) :=
  if (x1 + (1 : Int32)) < (m_a 0) then
    if x2 = 0 then
      if (x3 < 0 ∨ 4096 ≤ x3.toNatClampNeg) then none else
      some (((((m_a 9)).toInt64 * (m_clears x3.toNatClampNeg)) + (((100 : Int64) - ((m_a 9)).toInt64) * (m_clouds x3.toNatClampNeg))) / (100 : Int64))
    else
      if (x3 < 0 ∨ 4096 ≤ x3.toNatClampNeg) then none else
      some (((((m_a 8)).toInt64 * (m_clears x3.toNatClampNeg)) + (((100 : Int64) - ((m_a 8)).toInt64) * (m_clouds x3.toNatClampNeg))) / (100 : Int64))
  else
    some (0 : Int64)
/-! TelescopeNightModel.withExposure(III)J -/
def pX9_withExposure (x1 : Int32) (x2 : Int32) (x3 : Int32) (m_a : Nat → Int32) (m_clears : Nat → Int64) (m_clouds : Nat → Int64) : Option (Int64) :=
  ob (pX9_ofTarget x1 (8 : Int32) m_a) (fun z1 =>
  ob (pX9_behindSky x2 (1 : Int32) (x3 + ((1 : Int32) <<< (((2 : Int32) * x1) &&& 31))) m_a m_clears m_clouds) (fun z2 =>
  some (((1000000 : Int64) * z1.toInt64) + z2)))
/-! TelescopeNightModel.clearIn(II)J -/
def lpX9_clearIn_11 (l1 : Int32) (l2 : Int32) (m_a : Nat → Int32) (m_inTurnAt : Nat → Int32) (m_seen : Nat → Int32) (m_clears : Nat → Int64) (m_clouds : Nat → Int64) : Nat → Int64 → Int32 → Option (Int64 × Int32)
  | 0, _, _ => none
  | fu + 1, l3, l5 =>
    if (m_a 10) ≤ l5 then
      some (l3, l5)
    else
      ob (pX9_canAt l5 l1 l2 m_a m_inTurnAt m_seen) (fun z2 =>
      if ¬ z2 = 0 then
        ob (pX9_withExposure l5 l1 l2 m_a m_clears m_clouds) (fun z3 =>
        if (lg_cmp z3 l3) ≤ 0 then
          lpX9_clearIn_11 l1 l2 m_a m_inTurnAt m_seen m_clears m_clouds fu l3 (l5 + (1 : Int32))
        else
          lpX9_clearIn_11 l1 l2 m_a m_inTurnAt m_seen m_clears m_clouds fu z3 (l5 + (1 : Int32)))
      else
        lpX9_clearIn_11 l1 l2 m_a m_inTurnAt m_seen m_clears m_clouds fu l3 (l5 + (1 : Int32)))
def pX9_clearIn (x1 : Int32) (x2 : Int32) (m_a : Nat → Int32) (m_inTurnAt : Nat → Int32) (m_seen : Nat → Int32) (m_clears : Nat → Int64) (m_clouds : Nat → Int64) : Option (Int64) :=
  ob (pX9_behindSky x1 (1 : Int32) x2 m_a m_clears m_clouds) (fun z1 =>
  ob (lpX9_clearIn_11 x1 x2 m_a m_inTurnAt m_seen m_clears m_clouds lpF z1 (0 : Int32)) (fun z4 =>
  some z4.1))
/-! TelescopeNightModel.decisionAt(II)I -/
def lpX9_decisionAt_10 (l1 : Int32) (l2 : Int32) (l3 : Int64) (m_a : Nat → Int32) (m_inTurnAt : Nat → Int32) (m_seen : Nat → Int32) (m_clears : Nat → Int64) (m_clouds : Nat → Int64) : Nat → Int32 → Option ((Int32) ⊕ (Int32))
  | 0, _ => none
  | fu + 1, l5 =>
    if (m_a 10) ≤ l5 then
      some (.inl l5)
    else
      ob (pX9_canAt l5 l1 l2 m_a m_inTurnAt m_seen) (fun z2 =>
      if z2 = 0 then
        lpX9_decisionAt_10 l1 l2 l3 m_a m_inTurnAt m_seen m_clears m_clouds fu (l5 + (1 : Int32))
      else
        ob (pX9_withExposure l5 l1 l2 m_a m_clears m_clouds) (fun z3 =>
        if ¬ (lg_cmp z3 l3) = 0 then
          lpX9_decisionAt_10 l1 l2 l3 m_a m_inTurnAt m_seen m_clears m_clouds fu (l5 + (1 : Int32))
        else
          some (.inr l5)))
def pX9_decisionAt (x1 : Int32) (x2 : Int32) (m_a : Nat → Int32) (m_inTurnAt : Nat → Int32) (m_seen : Nat → Int32) (m_clears : Nat → Int64) (m_clouds : Nat → Int64) : Option (Int32) :=
  ob (pX9_clearIn x1 x2 m_a m_inTurnAt m_seen m_clears m_clouds) (fun z1 =>
  ob (lpX9_decisionAt_10 x1 x2 z1 m_a m_inTurnAt m_seen m_clears m_clouds lpF (0 : Int32)) (fun z4 => match z4 with
  | .inl z4e =>
    some (-1 : Int32)
  | .inr z4f => some z4f))
/-! TelescopeNightModel.givesAtEnd(I)J -/
def pX9_givesAtEnd (x1 : Int32) (m_a : Nat → Int32) (m_giving : Int32) (m_givenTarget : Int32) : Option (Int64) :=
  if ¬ m_giving = (1 : Int32) then
    some (0 : Int64)
  else
    ob (pX9_madeIn x1 m_givenTarget) (fun z1 =>
    ob (pX9_ofTarget m_givenTarget (7 : Int32) m_a) (fun z2 =>
    if ¬ z1 = z2 then
      some (0 : Int64)
    else
      some (1000000 : Int64)))
/-! TelescopeNightModel.givesBehind(IZI)J -/
def pX9_givesBehind (x1 : Int32) (x2 : Int32) (x3 : Int32) (m_a : Nat → Int32) (m_givesClear : Nat → Int64) (m_givesCloudy : Nat → Int64) (m_giving : Int32) (m_givenTarget : Int32) : Option (Int64) :=
  if (x1 + (1 : Int32)) < (m_a 0) then
    if x2 = 0 then
      if (x3 < 0 ∨ 4096 ≤ x3.toNatClampNeg) then none else
      some (((((m_a 9)).toInt64 * (m_givesClear x3.toNatClampNeg)) + (((100 : Int64) - ((m_a 9)).toInt64) * (m_givesCloudy x3.toNatClampNeg))) / (100 : Int64))
    else
      if (x3 < 0 ∨ 4096 ≤ x3.toNatClampNeg) then none else
      some (((((m_a 8)).toInt64 * (m_givesClear x3.toNatClampNeg)) + (((100 : Int64) - ((m_a 8)).toInt64) * (m_givesCloudy x3.toNatClampNeg))) / (100 : Int64))
  else
    ob (pX9_givesAtEnd x3 m_a m_giving m_givenTarget) (fun z1 =>
    some z1)
/-! TelescopeNightModel.givesUnderClear(II)J -/
def pX9_givesUnderClear (x1 : Int32) (x2 : Int32) (m_a : Nat → Int32) (m_inTurnAt : Nat → Int32) (m_seen : Nat → Int32) (m_clears : Nat → Int64) (m_clouds : Nat → Int64) (m_givesClear : Nat → Int64) (m_givesCloudy : Nat → Int64) (m_giving : Int32) (m_givenTarget : Int32) : Option (Int64) :=
  if ¬ m_giving = (2 : Int32) then
    ob (pX9_decisionAt x1 x2 m_a m_inTurnAt m_seen m_clears m_clouds) (fun z1 =>
    if ¬ z1 = (-1 : Int32) then
      if ¬ m_giving = 0 then
        ob (pX9_givesBehind x1 (1 : Int32) (x2 + ((1 : Int32) <<< (((2 : Int32) * z1) &&& 31))) m_a m_givesClear m_givesCloudy m_giving m_givenTarget) (fun z2 =>
        some ((0 : Int64) + z2))
      else
        if ¬ z1 = m_givenTarget then
          ob (pX9_givesBehind x1 (1 : Int32) (x2 + ((1 : Int32) <<< (((2 : Int32) * z1) &&& 31))) m_a m_givesClear m_givesCloudy m_giving m_givenTarget) (fun z3 =>
          some ((0 : Int64) + z3))
        else
          ob (pX9_givesBehind x1 (1 : Int32) (x2 + ((1 : Int32) <<< (((2 : Int32) * z1) &&& 31))) m_a m_givesClear m_givesCloudy m_giving m_givenTarget) (fun z4 =>
          some ((1000000 : Int64) + z4))
    else
      ob (pX9_givesBehind x1 (1 : Int32) x2 m_a m_givesClear m_givesCloudy m_giving m_givenTarget) (fun z5 =>
      some z5))
  else
    ob (pX9_greedyAt x1 x2 m_a m_inTurnAt m_seen) (fun z6 =>
    if ¬ z6 = (-1 : Int32) then
      ob (pX9_ofTarget z6 (8 : Int32) m_a) (fun z7 =>
      ob (pX9_givesBehind x1 (1 : Int32) (x2 + ((1 : Int32) <<< (((2 : Int32) * z6) &&& 31))) m_a m_givesClear m_givesCloudy m_giving m_givenTarget) (fun z8 =>
      some (((1000000 : Int64) * z7.toInt64) + z8)))
    else
      ob (pX9_givesBehind x1 (1 : Int32) x2 m_a m_givesClear m_givesCloudy m_giving m_givenTarget) (fun z9 =>
      some z9))
/-! TelescopeNightModel.laysMeans()V -/
def lpX9_laysMeans_104 (m_clearsNow : Nat → Int64) (m_cloudsNow : Nat → Int64) (m_givesClearNow : Nat → Int64) (m_givesCloudyNow : Nat → Int64) : Nat → Int32 → (Nat → Int64) → (Nat → Int64) → (Nat → Int64) → (Nat → Int64) → Option (Int32 × (Nat → Int64) × (Nat → Int64) × (Nat → Int64) × (Nat → Int64))
  | 0, _, _, _, _, _ => none
  | fu + 1, l2, m_clears, m_clouds, m_givesClear, m_givesCloudy =>
    if (4096 : Int32) ≤ l2 then
      some (l2, m_clears, m_clouds, m_givesClear, m_givesCloudy)
    else
      if (l2 < 0 ∨ 4096 ≤ l2.toNatClampNeg) then none else
      lpX9_laysMeans_104 m_clearsNow m_cloudsNow m_givesClearNow m_givesCloudyNow fu (l2 + (1 : Int32)) (vp_updL m_clears l2.toNatClampNeg ((m_clearsNow l2.toNatClampNeg))) (vp_updL m_clouds l2.toNatClampNeg ((m_cloudsNow l2.toNatClampNeg))) (vp_updL m_givesClear l2.toNatClampNeg ((m_givesClearNow l2.toNatClampNeg))) (vp_updL m_givesCloudy l2.toNatClampNeg ((m_givesCloudyNow l2.toNatClampNeg)))
def lpX9_laysMeans_27 (l1 : Int32) (m_a : Nat → Int32) (m_inTurnAt : Nat → Int32) (m_isState : Nat → Int32) (m_seen : Nat → Int32) (m_clears : Nat → Int64) (m_clouds : Nat → Int64) (m_givesClear : Nat → Int64) (m_givesCloudy : Nat → Int64) (m_giving : Int32) (m_givenTarget : Int32) : Nat → Int32 → (Nat → Int64) → (Nat → Int64) → (Nat → Int64) → (Nat → Int64) → Option (Int32 × (Nat → Int64) × (Nat → Int64) × (Nat → Int64) × (Nat → Int64))
  | 0, _, _, _, _, _ => none
  | fu + 1, l2, m_clearsNow, m_cloudsNow, m_givesClearNow, m_givesCloudyNow =>
    if (4096 : Int32) ≤ l2 then
      some (l2, m_clearsNow, m_cloudsNow, m_givesClearNow, m_givesCloudyNow)
    else
      if (l2 < 0 ∨ 4096 ≤ l2.toNatClampNeg) then none else
      if ¬ (m_isState l2.toNatClampNeg) = 0 then
        ob (pX9_clearIn l1 l2 m_a m_inTurnAt m_seen m_clears m_clouds) (fun z2 =>
        ob (pX9_behindSky l1 (0 : Int32) l2 m_a m_clears m_clouds) (fun z3 =>
        ob (pX9_givesUnderClear l1 l2 m_a m_inTurnAt m_seen m_clears m_clouds m_givesClear m_givesCloudy m_giving m_givenTarget) (fun z4 =>
        ob (pX9_givesBehind l1 (0 : Int32) l2 m_a m_givesClear m_givesCloudy m_giving m_givenTarget) (fun z5 =>
        lpX9_laysMeans_27 l1 m_a m_inTurnAt m_isState m_seen m_clears m_clouds m_givesClear m_givesCloudy m_giving m_givenTarget fu (l2 + (1 : Int32)) (vp_updL m_clearsNow l2.toNatClampNeg z2) (vp_updL m_cloudsNow l2.toNatClampNeg z3) (vp_updL m_givesClearNow l2.toNatClampNeg z4) (vp_updL m_givesCloudyNow l2.toNatClampNeg z5)))))
      else
        lpX9_laysMeans_27 l1 m_a m_inTurnAt m_isState m_seen m_clears m_clouds m_givesClear m_givesCloudy m_giving m_givenTarget fu (l2 + (1 : Int32)) m_clearsNow m_cloudsNow m_givesClearNow m_givesCloudyNow
def lpX9_laysMeans_14 (m_a : Nat → Int32) (m_inTurnAt : Nat → Int32) (m_isState : Nat → Int32) (m_seen : Nat → Int32) (m_giving : Int32) (m_givenTarget : Int32) : Nat → Int32 → (Nat → Int64) → (Nat → Int64) → (Nat → Int64) → (Nat → Int64) → (Nat → Int64) → (Nat → Int64) → (Nat → Int64) → (Nat → Int64) → Option (Int32 × (Nat → Int64) × (Nat → Int64) × (Nat → Int64) × (Nat → Int64) × (Nat → Int64) × (Nat → Int64) × (Nat → Int64) × (Nat → Int64))
  | 0, _, _, _, _, _, _, _, _, _ => none
  | fu + 1, l1, m_clears, m_clouds, m_clearsNow, m_cloudsNow, m_givesClear, m_givesCloudy, m_givesClearNow, m_givesCloudyNow =>
    if l1 ≤ (m_a 65) then
      some (l1, m_clears, m_clouds, m_clearsNow, m_cloudsNow, m_givesClear, m_givesCloudy, m_givesClearNow, m_givesCloudyNow)
    else
      ob (lpX9_laysMeans_27 l1 m_a m_inTurnAt m_isState m_seen m_clears m_clouds m_givesClear m_givesCloudy m_giving m_givenTarget lpF (0 : Int32) m_clearsNow m_cloudsNow m_givesClearNow m_givesCloudyNow) (fun z6 =>
      ob (lpX9_laysMeans_104 z6.2.1 z6.2.2.1 z6.2.2.2.1 z6.2.2.2.2 lpF (0 : Int32) m_clears m_clouds m_givesClear m_givesCloudy) (fun z7 =>
      lpX9_laysMeans_14 m_a m_inTurnAt m_isState m_seen m_giving m_givenTarget fu (l1 + (-1 : Int32)) z7.2.1 z7.2.2.1 z6.2.1 z6.2.2.1 z7.2.2.2.1 z7.2.2.2.2 z6.2.2.2.1 z6.2.2.2.2))
def pX9_laysMeans (m_a : Nat → Int32) (m_turnsBy : Nat → Int32) (m_inTurnAt : Nat → Int32) (m_isState : Nat → Int32) (m_seen : Nat → Int32) (m_clears : Nat → Int64) (m_clouds : Nat → Int64) (m_clearsNow : Nat → Int64) (m_cloudsNow : Nat → Int64) (m_givesClear : Nat → Int64) (m_givesCloudy : Nat → Int64) (m_givesClearNow : Nat → Int64) (m_givesCloudyNow : Nat → Int64) (m_giving : Int32) (m_givenTarget : Int32) : Option ((Nat → Int32) × (Nat → Int32) × (Nat → Int32) × (Nat → Int32) × (Nat → Int64) × (Nat → Int64) × (Nat → Int64) × (Nat → Int64) × (Nat → Int64) × (Nat → Int64) × (Nat → Int64) × (Nat → Int64)) :=
  ob (pX9_laysStates (1 : Int32) m_a m_turnsBy m_inTurnAt m_isState m_seen) (fun z1 =>
  ob (lpX9_laysMeans_14 m_a z1.2.1 z1.2.2.1 z1.2.2.2 m_giving m_givenTarget lpF ((m_a 0) - (1 : Int32)) m_clears m_clouds m_clearsNow m_cloudsNow m_givesClear m_givesCloudy m_givesClearNow m_givesCloudyNow) (fun z8 =>
  some (z1.1, z1.2.1, z1.2.2.1, z1.2.2.2, z8.2.1, z8.2.2.1, z8.2.2.2.1, z8.2.2.2.2.1, z8.2.2.2.2.2.1, z8.2.2.2.2.2.2.1, z8.2.2.2.2.2.2.2.1, z8.2.2.2.2.2.2.2.2)))
/-! TelescopeNightModel.firstOdds()I -/
def pX9_firstOdds (m_a : Nat → Int32) : Option (Int32) :=
  if ¬ (m_a 65) = 0 then
    if ((((87 : Int32) + (m_a 65)) - (1 : Int32)) < 0 ∨ 99 ≤ ((((87 : Int32) + (m_a 65)) - (1 : Int32))).toNatClampNeg) then none else
    if ¬ (m_a ((((87 : Int32) + (m_a 65)) - (1 : Int32))).toNatClampNeg) = (1 : Int32) then
      if ¬ (m_a ((((87 : Int32) + (m_a 65)) - (1 : Int32))).toNatClampNeg) = (2 : Int32) then
        ob (pX9_oddsOf (m_a 65) m_a) (fun z1 =>
        some (z1 / (10000 : Int32)))
      else
        some (m_a 9)
    else
      some (m_a 8)
  else
    some (m_a 7)
/-! TelescopeNightModel.meanValue()J -/
def pX9_meanValue (m_a : Nat → Int32) (m_turnsBy : Nat → Int32) (m_inTurnAt : Nat → Int32) (m_isState : Nat → Int32) (m_seen : Nat → Int32) (m_clears : Nat → Int64) (m_clouds : Nat → Int64) (m_clearsNow : Nat → Int64) (m_cloudsNow : Nat → Int64) (m_givesClear : Nat → Int64) (m_givesCloudy : Nat → Int64) (m_givesClearNow : Nat → Int64) (m_givesCloudyNow : Nat → Int64) (m_giving : Int32) (m_givenTarget : Int32) : Option (Int64 × (Nat → Int32) × (Nat → Int32) × (Nat → Int32) × (Nat → Int32) × (Nat → Int64) × (Nat → Int64) × (Nat → Int64) × (Nat → Int64) × (Nat → Int64) × (Nat → Int64) × (Nat → Int64) × (Nat → Int64)) :=
  ob (pX9_isOver m_a) (fun z1 =>
  if z1 = 0 then
    ob (pX9_laysMeans m_a m_turnsBy m_inTurnAt m_isState m_seen m_clears m_clouds m_clearsNow m_cloudsNow m_givesClear m_givesCloudy m_givesClearNow m_givesCloudyNow m_giving m_givenTarget) (fun z2 =>
    ob (pX9_stateNow m_a) (fun z3 =>
    ob (pX9_clearIn (m_a 65) z3 m_a z2.2.1 z2.2.2.2.1 z2.2.2.2.2.1 z2.2.2.2.2.2.1) (fun z4 =>
    ob (pX9_behindSky (m_a 65) (0 : Int32) z3 m_a z2.2.2.2.2.1 z2.2.2.2.2.2.1) (fun z5 =>
    if (m_a 67) = 0 then
      ob (pX9_firstOdds m_a) (fun z6 =>
      some ((((z6.toInt64 * z4) + (((100 : Int64) - z6.toInt64) * z5)) / (100 : Int64)), z2.1, z2.2.1, z2.2.2.1, z2.2.2.2.1, z2.2.2.2.2.1, z2.2.2.2.2.2.1, z2.2.2.2.2.2.2.1, z2.2.2.2.2.2.2.2.1, z2.2.2.2.2.2.2.2.2.1, z2.2.2.2.2.2.2.2.2.2.1, z2.2.2.2.2.2.2.2.2.2.2.1, z2.2.2.2.2.2.2.2.2.2.2.2))
    else
      if ¬ (m_a 67) = (1 : Int32) then
        some (z5, z2.1, z2.2.1, z2.2.2.1, z2.2.2.2.1, z2.2.2.2.2.1, z2.2.2.2.2.2.1, z2.2.2.2.2.2.2.1, z2.2.2.2.2.2.2.2.1, z2.2.2.2.2.2.2.2.2.1, z2.2.2.2.2.2.2.2.2.2.1, z2.2.2.2.2.2.2.2.2.2.2.1, z2.2.2.2.2.2.2.2.2.2.2.2)
      else
        some (z4, z2.1, z2.2.1, z2.2.2.1, z2.2.2.2.1, z2.2.2.2.2.1, z2.2.2.2.2.2.1, z2.2.2.2.2.2.2.1, z2.2.2.2.2.2.2.2.1, z2.2.2.2.2.2.2.2.2.1, z2.2.2.2.2.2.2.2.2.2.1, z2.2.2.2.2.2.2.2.2.2.2.1, z2.2.2.2.2.2.2.2.2.2.2.2)))))
  else
    some ((0 : Int64), m_turnsBy, m_inTurnAt, m_isState, m_seen, m_clears, m_clouds, m_clearsNow, m_cloudsNow, m_givesClear, m_givesCloudy, m_givesClearNow, m_givesCloudyNow))
/-! TelescopeNightModel.meanValueOf(I)J -/
def pX9_meanValueOf (x1 : Int32) (m_a : Nat → Int32) (m_turnsBy : Nat → Int32) (m_inTurnAt : Nat → Int32) (m_isState : Nat → Int32) (m_seen : Nat → Int32) (m_clears : Nat → Int64) (m_clouds : Nat → Int64) (m_clearsNow : Nat → Int64) (m_cloudsNow : Nat → Int64) (m_givesClear : Nat → Int64) (m_givesCloudy : Nat → Int64) (m_givesClearNow : Nat → Int64) (m_givesCloudyNow : Nat → Int64) (m_giving : Int32) (m_givenTarget : Int32) : Option (Int64 × Int32 × (Nat → Int32) × (Nat → Int32) × (Nat → Int32) × (Nat → Int32) × (Nat → Int64) × (Nat → Int64) × (Nat → Int64) × (Nat → Int64) × (Nat → Int64) × (Nat → Int64) × (Nat → Int64) × (Nat → Int64)) :=
  ob (pX9_exposeRefusal x1 m_a m_turnsBy) (fun z1 =>
  if z1.1 ≤ 0 then
    ob (pX9_laysMeans m_a z1.2 m_inTurnAt m_isState m_seen m_clears m_clouds m_clearsNow m_cloudsNow m_givesClear m_givesCloudy m_givesClearNow m_givesCloudyNow m_giving m_givenTarget) (fun z2 =>
    ob (pX9_stateNow m_a) (fun z3 =>
    ob (pX9_withExposure x1 (m_a 65) z3 m_a z2.2.2.2.2.1 z2.2.2.2.2.2.1) (fun z4 =>
    some (z4, z1.1, z2.1, z2.2.1, z2.2.2.1, z2.2.2.2.1, z2.2.2.2.2.1, z2.2.2.2.2.2.1, z2.2.2.2.2.2.2.1, z2.2.2.2.2.2.2.2.1, z2.2.2.2.2.2.2.2.2.1, z2.2.2.2.2.2.2.2.2.2.1, z2.2.2.2.2.2.2.2.2.2.2.1, z2.2.2.2.2.2.2.2.2.2.2.2))))
  else
    some ((0 : Int64), z1.1, z1.2, m_inTurnAt, m_isState, m_seen, m_clears, m_clouds, m_clearsNow, m_cloudsNow, m_givesClear, m_givesCloudy, m_givesClearNow, m_givesCloudyNow))
/-! TelescopeNightModel.decision()I -/
def pX9_decision (m_a : Nat → Int32) (m_turnsBy : Nat → Int32) (m_inTurnAt : Nat → Int32) (m_isState : Nat → Int32) (m_seen : Nat → Int32) (m_clears : Nat → Int64) (m_clouds : Nat → Int64) (m_clearsNow : Nat → Int64) (m_cloudsNow : Nat → Int64) (m_givesClear : Nat → Int64) (m_givesCloudy : Nat → Int64) (m_givesClearNow : Nat → Int64) (m_givesCloudyNow : Nat → Int64) (m_giving : Int32) (m_givenTarget : Int32) : Option (Int32 × Int32 × (Nat → Int32) × (Nat → Int32) × (Nat → Int32) × (Nat → Int32) × (Nat → Int64) × (Nat → Int64) × (Nat → Int64) × (Nat → Int64) × (Nat → Int64) × (Nat → Int64) × (Nat → Int64) × (Nat → Int64)) :=
  if ¬ (m_a 67) = 0 then
    if ¬ (m_a 67) = (2 : Int32) then
      ob (pX9_laysMeans m_a m_turnsBy m_inTurnAt m_isState m_seen m_clears m_clouds m_clearsNow m_cloudsNow m_givesClear m_givesCloudy m_givesClearNow m_givesCloudyNow m_giving m_givenTarget) (fun z1 =>
      ob (pX9_stateNow m_a) (fun z2 =>
      ob (pX9_decisionAt (m_a 65) z2 m_a z1.2.1 z1.2.2.2.1 z1.2.2.2.2.1 z1.2.2.2.2.2.1) (fun z3 =>
      some (z3, (0 : Int32), z1.1, z1.2.1, z1.2.2.1, z1.2.2.2.1, z1.2.2.2.2.1, z1.2.2.2.2.2.1, z1.2.2.2.2.2.2.1, z1.2.2.2.2.2.2.2.1, z1.2.2.2.2.2.2.2.2.1, z1.2.2.2.2.2.2.2.2.2.1, z1.2.2.2.2.2.2.2.2.2.2.1, z1.2.2.2.2.2.2.2.2.2.2.2))))
    else
      some ((-1 : Int32), (0 : Int32), m_turnsBy, m_inTurnAt, m_isState, m_seen, m_clears, m_clouds, m_clearsNow, m_cloudsNow, m_givesClear, m_givesCloudy, m_givesClearNow, m_givesCloudyNow)
  else
    some ((0 : Int32), (1 : Int32), m_turnsBy, m_inTurnAt, m_isState, m_seen, m_clears, m_clouds, m_clearsNow, m_cloudsNow, m_givesClear, m_givesCloudy, m_givesClearNow, m_givesCloudyNow)
/-! TelescopeNightModel.gives(II)J -/
def pX9_gives (x1 : Int32) (x2 : Int32) (m_a : Nat → Int32) (m_turnsBy : Nat → Int32) (m_inTurnAt : Nat → Int32) (m_isState : Nat → Int32) (m_seen : Nat → Int32) (m_clears : Nat → Int64) (m_clouds : Nat → Int64) (m_clearsNow : Nat → Int64) (m_cloudsNow : Nat → Int64) (m_givesClear : Nat → Int64) (m_givesCloudy : Nat → Int64) (m_givesClearNow : Nat → Int64) (m_givesCloudyNow : Nat → Int64) : Option (Int64 × Int32 × Int32 × (Nat → Int32) × (Nat → Int32) × (Nat → Int32) × (Nat → Int32) × (Nat → Int64) × (Nat → Int64) × (Nat → Int64) × (Nat → Int64) × (Nat → Int64) × (Nat → Int64) × (Nat → Int64) × (Nat → Int64)) :=
  ob (pX9_stateNow m_a) (fun z1 =>
  ob (pX9_isOver m_a) (fun z2 =>
  if z2 = 0 then
    ob (pX9_laysMeans m_a m_turnsBy m_inTurnAt m_isState m_seen m_clears m_clouds m_clearsNow m_cloudsNow m_givesClear m_givesCloudy m_givesClearNow m_givesCloudyNow x1 x2) (fun z3 =>
    ob (pX9_givesUnderClear (m_a 65) z1 m_a z3.2.1 z3.2.2.2.1 z3.2.2.2.2.1 z3.2.2.2.2.2.1 z3.2.2.2.2.2.2.2.2.1 z3.2.2.2.2.2.2.2.2.2.1 x1 x2) (fun z4 =>
    ob (pX9_givesBehind (m_a 65) (0 : Int32) z1 m_a z3.2.2.2.2.2.2.2.2.1 z3.2.2.2.2.2.2.2.2.2.1 x1 x2) (fun z5 =>
    if (m_a 67) = 0 then
      ob (pX9_firstOdds m_a) (fun z6 =>
      some ((((z6.toInt64 * z4) + (((100 : Int64) - z6.toInt64) * z5)) / (100 : Int64)), x1, x2, z3.1, z3.2.1, z3.2.2.1, z3.2.2.2.1, z3.2.2.2.2.1, z3.2.2.2.2.2.1, z3.2.2.2.2.2.2.1, z3.2.2.2.2.2.2.2.1, z3.2.2.2.2.2.2.2.2.1, z3.2.2.2.2.2.2.2.2.2.1, z3.2.2.2.2.2.2.2.2.2.2.1, z3.2.2.2.2.2.2.2.2.2.2.2))
    else
      if ¬ (m_a 67) = (1 : Int32) then
        some (z5, x1, x2, z3.1, z3.2.1, z3.2.2.1, z3.2.2.2.1, z3.2.2.2.2.1, z3.2.2.2.2.2.1, z3.2.2.2.2.2.2.1, z3.2.2.2.2.2.2.2.1, z3.2.2.2.2.2.2.2.2.1, z3.2.2.2.2.2.2.2.2.2.1, z3.2.2.2.2.2.2.2.2.2.2.1, z3.2.2.2.2.2.2.2.2.2.2.2)
      else
        some (z4, x1, x2, z3.1, z3.2.1, z3.2.2.1, z3.2.2.2.1, z3.2.2.2.2.1, z3.2.2.2.2.2.1, z3.2.2.2.2.2.2.1, z3.2.2.2.2.2.2.2.1, z3.2.2.2.2.2.2.2.2.1, z3.2.2.2.2.2.2.2.2.2.1, z3.2.2.2.2.2.2.2.2.2.2.1, z3.2.2.2.2.2.2.2.2.2.2.2))))
  else
    ob (pX9_givesAtEnd z1 m_a x1 x2) (fun z7 =>
    some (z7, x1, x2, m_turnsBy, m_inTurnAt, m_isState, m_seen, m_clears, m_clouds, m_clearsNow, m_cloudsNow, m_givesClear, m_givesCloudy, m_givesClearNow, m_givesCloudyNow))))
/-! TelescopeNightModel.meanExposures(I)J -/
def pX9_meanExposures (x1 : Int32) (m_a : Nat → Int32) (m_turnsBy : Nat → Int32) (m_inTurnAt : Nat → Int32) (m_isState : Nat → Int32) (m_seen : Nat → Int32) (m_clears : Nat → Int64) (m_clouds : Nat → Int64) (m_clearsNow : Nat → Int64) (m_cloudsNow : Nat → Int64) (m_givesClear : Nat → Int64) (m_givesCloudy : Nat → Int64) (m_givesClearNow : Nat → Int64) (m_givesCloudyNow : Nat → Int64) (m_giving : Int32) (m_givenTarget : Int32) : Option (Int64 × Int32 × Int32 × Int32 × (Nat → Int32) × (Nat → Int32) × (Nat → Int32) × (Nat → Int32) × (Nat → Int64) × (Nat → Int64) × (Nat → Int64) × (Nat → Int64) × (Nat → Int64) × (Nat → Int64) × (Nat → Int64) × (Nat → Int64)) :=
  ob (pX9_isTarget x1 m_a) (fun z1 =>
  if z1 = 0 then
    some ((0 : Int64), (1 : Int32), m_giving, m_givenTarget, m_turnsBy, m_inTurnAt, m_isState, m_seen, m_clears, m_clouds, m_clearsNow, m_cloudsNow, m_givesClear, m_givesCloudy, m_givesClearNow, m_givesCloudyNow)
  else
    ob (pX9_gives (0 : Int32) x1 m_a m_turnsBy m_inTurnAt m_isState m_seen m_clears m_clouds m_clearsNow m_cloudsNow m_givesClear m_givesCloudy m_givesClearNow m_givesCloudyNow) (fun z2 =>
    some (z2.1, (0 : Int32), z2.2.1, z2.2.2.1, z2.2.2.2.1, z2.2.2.2.2.1, z2.2.2.2.2.2.1, z2.2.2.2.2.2.2.1, z2.2.2.2.2.2.2.2.1, z2.2.2.2.2.2.2.2.2.1, z2.2.2.2.2.2.2.2.2.2.1, z2.2.2.2.2.2.2.2.2.2.2.1, z2.2.2.2.2.2.2.2.2.2.2.2.1, z2.2.2.2.2.2.2.2.2.2.2.2.2.1, z2.2.2.2.2.2.2.2.2.2.2.2.2.2.1, z2.2.2.2.2.2.2.2.2.2.2.2.2.2.2)))
/-! TelescopeNightModel.finishOdds(I)J -/
def pX9_finishOdds (x1 : Int32) (m_a : Nat → Int32) (m_turnsBy : Nat → Int32) (m_inTurnAt : Nat → Int32) (m_isState : Nat → Int32) (m_seen : Nat → Int32) (m_clears : Nat → Int64) (m_clouds : Nat → Int64) (m_clearsNow : Nat → Int64) (m_cloudsNow : Nat → Int64) (m_givesClear : Nat → Int64) (m_givesCloudy : Nat → Int64) (m_givesClearNow : Nat → Int64) (m_givesCloudyNow : Nat → Int64) (m_giving : Int32) (m_givenTarget : Int32) : Option (Int64 × Int32 × Int32 × Int32 × (Nat → Int32) × (Nat → Int32) × (Nat → Int32) × (Nat → Int32) × (Nat → Int64) × (Nat → Int64) × (Nat → Int64) × (Nat → Int64) × (Nat → Int64) × (Nat → Int64) × (Nat → Int64) × (Nat → Int64)) :=
  ob (pX9_isTarget x1 m_a) (fun z1 =>
  if z1 = 0 then
    some ((0 : Int64), (1 : Int32), m_giving, m_givenTarget, m_turnsBy, m_inTurnAt, m_isState, m_seen, m_clears, m_clouds, m_clearsNow, m_cloudsNow, m_givesClear, m_givesCloudy, m_givesClearNow, m_givesCloudyNow)
  else
    ob (pX9_gives (1 : Int32) x1 m_a m_turnsBy m_inTurnAt m_isState m_seen m_clears m_clouds m_clearsNow m_cloudsNow m_givesClear m_givesCloudy m_givesClearNow m_givesCloudyNow) (fun z2 =>
    some (z2.1, (0 : Int32), z2.2.1, z2.2.2.1, z2.2.2.2.1, z2.2.2.2.2.1, z2.2.2.2.2.2.1, z2.2.2.2.2.2.2.1, z2.2.2.2.2.2.2.2.1, z2.2.2.2.2.2.2.2.2.1, z2.2.2.2.2.2.2.2.2.2.1, z2.2.2.2.2.2.2.2.2.2.2.1, z2.2.2.2.2.2.2.2.2.2.2.2.1, z2.2.2.2.2.2.2.2.2.2.2.2.2.1, z2.2.2.2.2.2.2.2.2.2.2.2.2.2.1, z2.2.2.2.2.2.2.2.2.2.2.2.2.2.2)))
/-! TelescopeNightModel.greedyMean()J -/
def pX9_greedyMean (m_a : Nat → Int32) (m_turnsBy : Nat → Int32) (m_inTurnAt : Nat → Int32) (m_isState : Nat → Int32) (m_seen : Nat → Int32) (m_clears : Nat → Int64) (m_clouds : Nat → Int64) (m_clearsNow : Nat → Int64) (m_cloudsNow : Nat → Int64) (m_givesClear : Nat → Int64) (m_givesCloudy : Nat → Int64) (m_givesClearNow : Nat → Int64) (m_givesCloudyNow : Nat → Int64) : Option (Int64 × Int32 × Int32 × (Nat → Int32) × (Nat → Int32) × (Nat → Int32) × (Nat → Int32) × (Nat → Int64) × (Nat → Int64) × (Nat → Int64) × (Nat → Int64) × (Nat → Int64) × (Nat → Int64) × (Nat → Int64) × (Nat → Int64)) :=
  ob (pX9_gives (2 : Int32) (-1 : Int32) m_a m_turnsBy m_inTurnAt m_isState m_seen m_clears m_clouds m_clearsNow m_cloudsNow m_givesClear m_givesCloudy m_givesClearNow m_givesCloudyNow) (fun z1 =>
  some (z1.1, z1.2.1, z1.2.2.1, z1.2.2.2.1, z1.2.2.2.2.1, z1.2.2.2.2.2.1, z1.2.2.2.2.2.2.1, z1.2.2.2.2.2.2.2.1, z1.2.2.2.2.2.2.2.2.1, z1.2.2.2.2.2.2.2.2.2.1, z1.2.2.2.2.2.2.2.2.2.2.1, z1.2.2.2.2.2.2.2.2.2.2.2.1, z1.2.2.2.2.2.2.2.2.2.2.2.2.1, z1.2.2.2.2.2.2.2.2.2.2.2.2.2.1, z1.2.2.2.2.2.2.2.2.2.2.2.2.2.2))
/-! TelescopeNightModel.worthOfClear()J -/
def pX9_worthOfClear (m_a : Nat → Int32) (m_turnsBy : Nat → Int32) (m_inTurnAt : Nat → Int32) (m_isState : Nat → Int32) (m_seen : Nat → Int32) (m_clears : Nat → Int64) (m_clouds : Nat → Int64) (m_clearsNow : Nat → Int64) (m_cloudsNow : Nat → Int64) (m_givesClear : Nat → Int64) (m_givesCloudy : Nat → Int64) (m_givesClearNow : Nat → Int64) (m_givesCloudyNow : Nat → Int64) (m_giving : Int32) (m_givenTarget : Int32) : Option (Int64 × Int32 × (Nat → Int32) × (Nat → Int32) × (Nat → Int32) × (Nat → Int32) × (Nat → Int64) × (Nat → Int64) × (Nat → Int64) × (Nat → Int64) × (Nat → Int64) × (Nat → Int64) × (Nat → Int64) × (Nat → Int64)) :=
  ob (pX9_isOver m_a) (fun z1 =>
  if z1 = 0 then
    ob (pX9_laysMeans m_a m_turnsBy m_inTurnAt m_isState m_seen m_clears m_clouds m_clearsNow m_cloudsNow m_givesClear m_givesCloudy m_givesClearNow m_givesCloudyNow m_giving m_givenTarget) (fun z2 =>
    ob (pX9_stateNow m_a) (fun z3 =>
    ob (pX9_clearIn (m_a 65) z3 m_a z2.2.1 z2.2.2.2.1 z2.2.2.2.2.1 z2.2.2.2.2.2.1) (fun z4 =>
    ob (pX9_stateNow m_a) (fun z5 =>
    ob (pX9_behindSky (m_a 65) (0 : Int32) z5 m_a z2.2.2.2.2.1 z2.2.2.2.2.2.1) (fun z6 =>
    some ((z4 - z6), (0 : Int32), z2.1, z2.2.1, z2.2.2.1, z2.2.2.2.1, z2.2.2.2.2.1, z2.2.2.2.2.2.1, z2.2.2.2.2.2.2.1, z2.2.2.2.2.2.2.2.1, z2.2.2.2.2.2.2.2.2.1, z2.2.2.2.2.2.2.2.2.2.1, z2.2.2.2.2.2.2.2.2.2.2.1, z2.2.2.2.2.2.2.2.2.2.2.2))))))
  else
    some ((0 : Int64), (1 : Int32), m_turnsBy, m_inTurnAt, m_isState, m_seen, m_clears, m_clouds, m_clearsNow, m_cloudsNow, m_givesClear, m_givesCloudy, m_givesClearNow, m_givesCloudyNow))
/-! TelescopeNightLaw.append(LTelescopeNight;IIIII[J)I -/
def pL_append_1 (x1 : Int32) (x2 : Int32) (x3 : Int32) (x4 : Int32) (x5 : Int32) (vr : RdS) (vo : Nat → Int64) : Option (Int32 × RdS × (Nat → Int64) × Nat × Nat) :=
  ob (pX8_append x1 x2 x3 x4 x5 vr) (fun z1 => match z1 with
  | (.inl z1v, z1r) =>
    some ((0 : Int32), z1r.1, (vp_updL vo 0 z1v.toInt64), (0 + z1r.2.1), (0 + z1r.2.2))
  | (.inr z1e, z1r) =>
    if z1e = "java/lang/IllegalStateException" then
      some ((1 : Int32), z1r.1, vo, (0 + z1r.2.1), (0 + z1r.2.2))
    else none)
/-! TelescopeNightLaw.load(LTelescopeNight;I[J)I -/
def pL_load_1 (x1 : Int32) (vr : RdS) (vd : NiS) (vn : NiS) (vg : PrS) (vhn : Int32) (vhs : Int32) (vhN : Nat → NiS) (vhP : Nat → PrS) (vt : ReS) (vu : ReS) (vp : PlS) (vq : DeS) (ve : Int32) (vo : Nat → Int64) : Option (Int32 × Int32 × RdS × NiS × NiS × PrS × Int32 × Int32 × (Nat → NiS) × (Nat → PrS) × ReS × ReS × PlS × DeS × (Nat → Int64) × Nat × Nat) :=
  ob (pX8_load x1 vr vd vn vg vhn vhs vhN vhP vt vu vp vq ve) (fun z1 => match z1 with
  | (.inl z1v, z1r) =>
    some ((0 : Int32), z1r.1, z1r.2.1, z1r.2.2.1, z1r.2.2.2.1, z1r.2.2.2.2.1, z1r.2.2.2.2.2.1, z1r.2.2.2.2.2.2.1, z1r.2.2.2.2.2.2.2.1, z1r.2.2.2.2.2.2.2.2.1, z1r.2.2.2.2.2.2.2.2.2.1, z1r.2.2.2.2.2.2.2.2.2.2.1, z1r.2.2.2.2.2.2.2.2.2.2.2.1, z1r.2.2.2.2.2.2.2.2.2.2.2.2.1, (vp_updL vo 0 z1v.toInt64), (0 + z1r.2.2.2.2.2.2.2.2.2.2.2.2.2.1), (0 + z1r.2.2.2.2.2.2.2.2.2.2.2.2.2.2))
  | (.inr z1e, z1r) =>
    if z1e = "java/lang/IllegalArgumentException" then
      some ((1 : Int32), z1r.1, z1r.2.1, z1r.2.2.1, z1r.2.2.2.1, z1r.2.2.2.2.1, z1r.2.2.2.2.2.1, z1r.2.2.2.2.2.2.1, z1r.2.2.2.2.2.2.2.1, z1r.2.2.2.2.2.2.2.2.1, z1r.2.2.2.2.2.2.2.2.2.1, z1r.2.2.2.2.2.2.2.2.2.2.1, z1r.2.2.2.2.2.2.2.2.2.2.2.1, z1r.2.2.2.2.2.2.2.2.2.2.2.2.1, vo, (0 + z1r.2.2.2.2.2.2.2.2.2.2.2.2.2.1), (0 + z1r.2.2.2.2.2.2.2.2.2.2.2.2.2.2))
    else none)
/-! TelescopeNightLaw.count(LTelescopeNight;I[J)I -/
def pL_count_1 (x1 : Int32) (vn : NiS) (vg : PrS) (vo : Nat → Int64) : Option (Int32 × (Nat → Int64) × Nat × Nat) :=
  ob (pX8_count x1 vn vg) (fun z1 => match z1 with
  | (.inl z1v, z1r) =>
    some ((0 : Int32), (vp_updL vo 0 z1v.toInt64), (0 + z1r.1), (0 + z1r.2))
  | (.inr z1e, z1r) =>
    if z1e = "java/lang/IllegalArgumentException" then
      some ((1 : Int32), vo, (0 + z1r.1), (0 + z1r.2))
    else none)
/-! TelescopeNightLaw.height(LTelescopeNight;II[J)I -/
def pL_height_1 (x1 : Int32) (x2 : Int32) (vn : NiS) (vo : Nat → Int64) : Option (Int32 × (Nat → Int64) × Nat × Nat) :=
  ob (pX8_height x1 x2 vn) (fun z1 => match z1 with
  | (.inl z1v, z1r) =>
    some ((0 : Int32), (vp_updL vo 0 z1v.toInt64), (0 + z1r.1), (0 + z1r.2))
  | (.inr z1e, z1r) =>
    if z1e = "java/lang/IndexOutOfBoundsException" then
      some ((1 : Int32), vo, (0 + z1r.1), (0 + z1r.2))
    else none)
/-! TelescopeNightLaw.moonHeight(LTelescopeNight;I[J)I -/
def pL_moonHeight_1 (x1 : Int32) (vn : NiS) (vo : Nat → Int64) : Option (Int32 × (Nat → Int64) × Nat × Nat) :=
  ob (pX8_moonHeight x1 vn) (fun z1 => match z1 with
  | (.inl z1v, z1r) =>
    some ((0 : Int32), (vp_updL vo 0 z1v.toInt64), (0 + z1r.1), (0 + z1r.2))
  | (.inr z1e, z1r) =>
    if z1e = "java/lang/IndexOutOfBoundsException" then
      some ((1 : Int32), vo, (0 + z1r.1), (0 + z1r.2))
    else none)
/-! TelescopeNightLaw.moonDistance(LTelescopeNight;II[J)I -/
def pL_moonDistance_1 (x1 : Int32) (x2 : Int32) (vn : NiS) (vo : Nat → Int64) : Option (Int32 × (Nat → Int64) × Nat × Nat) :=
  ob (pX8_moonDistance x1 x2 vn) (fun z1 => match z1 with
  | (.inl z1v, z1r) =>
    some ((0 : Int32), (vp_updL vo 0 z1v.toInt64), (0 + z1r.1), (0 + z1r.2))
  | (.inr z1e, z1r) =>
    if z1e = "java/lang/IndexOutOfBoundsException" then
      some ((1 : Int32), vo, (0 + z1r.1), (0 + z1r.2))
    else none)
/-! TelescopeNightLaw.window(LTelescopeNight;I[J)I -/
def pL_window_1 (x1 : Int32) (vn : NiS) (vo : Nat → Int64) : Option (Int32 × (Nat → Int64) × Nat × Nat) :=
  ob (pX8_window x1 vn) (fun z1 => match z1 with
  | (.inl z1v, z1r) =>
    some ((0 : Int32), (vp_updL vo 0 z1v.toInt64), (0 + z1r.1), (0 + z1r.2))
  | (.inr z1e, z1r) =>
    if z1e = "java/lang/IndexOutOfBoundsException" then
      some ((1 : Int32), vo, (0 + z1r.1), (0 + z1r.2))
    else none)
/-! TelescopeNightLaw.observable(LTelescopeNight;I[J)I -/
def pL_observable_1 (x1 : Int32) (vn : NiS) (vo : Nat → Int64) : Option (Int32 × (Nat → Int64) × Nat × Nat) :=
  ob (pX8_observable x1 vn) (fun z1 => match z1 with
  | (.inl z1v, z1r) =>
    some ((0 : Int32), (vp_updL vo 0 z1v.toInt64), (0 + z1r.1), (0 + z1r.2))
  | (.inr z1e, z1r) =>
    if z1e = "java/lang/IndexOutOfBoundsException" then
      some ((1 : Int32), vo, (0 + z1r.1), (0 + z1r.2))
    else none)
/-! TelescopeNightLaw.highestSlot(LTelescopeNight;I[J)I -/
def pL_highestSlot_1 (x1 : Int32) (vn : NiS) (vo : Nat → Int64) : Option (Int32 × (Nat → Int64) × Nat × Nat) :=
  ob (pX8_highestSlot x1 vn) (fun z1 => match z1 with
  | (.inl z1v, z1r) =>
    some ((0 : Int32), (vp_updL vo 0 z1v.toInt64), (0 + z1r.1), (0 + z1r.2))
  | (.inr z1e, z1r) =>
    if z1e = "java/lang/IndexOutOfBoundsException" then
      some ((1 : Int32), vo, (0 + z1r.1), (0 + z1r.2))
    else if z1e = "java/util/NoSuchElementException" then
      some ((2 : Int32), vo, (0 + z1r.1), (0 + z1r.2))
    else none)
/-! TelescopeNightLaw.latestStart(LTelescopeNight;I[J)I -/
def pL_latestStart_1 (x1 : Int32) (vn : NiS) (vg : PrS) (vo : Nat → Int64) : Option (Int32 × (Nat → Int64) × Nat × Nat) :=
  ob (pX8_latestStart x1 vn vg) (fun z1 => match z1 with
  | (.inl z1v, z1r) =>
    some ((0 : Int32), (vp_updL vo 0 z1v.toInt64), (0 + z1r.1), (0 + z1r.2))
  | (.inr z1e, z1r) =>
    if z1e = "java/lang/IndexOutOfBoundsException" then
      some ((1 : Int32), vo, (0 + z1r.1), (0 + z1r.2))
    else if z1e = "java/util/NoSuchElementException" then
      some ((2 : Int32), vo, (0 + z1r.1), (0 + z1r.2))
    else none)
/-! TelescopeNightLaw.clearOdds(LTelescopeNight;I[J)I -/
def pL_clearOdds_1 (x1 : Int32) (vn : NiS) (vo : Nat → Int64) : Option (Int32 × (Nat → Int64) × Nat × Nat) :=
  ob (pX8_clearOdds x1 vn) (fun z1 => match z1 with
  | (.inl z1v, z1r) =>
    some ((0 : Int32), (vp_updL vo 0 z1v.toInt64), (0 + z1r.1), (0 + z1r.2))
  | (.inr z1e, z1r) =>
    if z1e = "java/lang/IndexOutOfBoundsException" then
      some ((1 : Int32), vo, (0 + z1r.1), (0 + z1r.2))
    else none)
/-! TelescopeNightLaw.clearRun(LTelescopeNight;II[J)I -/
def pL_clearRun_1 (x1 : Int32) (x2 : Int32) (vn : NiS) (vo : Nat → Int64) : Option (Int32 × (Nat → Int64) × Nat × Nat) :=
  ob (pX8_clearRun x1 x2 vn) (fun z1 => match z1 with
  | (.inl z1v, z1r) =>
    some ((0 : Int32), (vp_updL vo 0 z1v.toInt64), (0 + z1r.1), (0 + z1r.2))
  | (.inr z1e, z1r) =>
    if z1e = "java/lang/IndexOutOfBoundsException" then
      some ((1 : Int32), vo, (0 + z1r.1), (0 + z1r.2))
    else if z1e = "java/lang/IllegalArgumentException" then
      some ((2 : Int32), vo, (0 + z1r.1), (0 + z1r.2))
    else none)
/-! TelescopeNightLaw.look(LTelescopeNight;Z[J)I -/
def pL_look_1 (x1 : Int32) (vn : NiS) (vg : PrS) (vhn : Int32) (vhs : Int32) (vhN : Nat → NiS) (vhP : Nat → PrS) (vt : ReS) (vu : ReS) (vp : PlS) (vq : DeS) (vo : Nat → Int64) : Option (Int32 × PrS × Int32 × Int32 × (Nat → NiS) × (Nat → PrS) × ReS × ReS × PlS × DeS × (Nat → Int64) × Nat × Nat) :=
  ob (pX8_look x1 vn vg vhn vhs vhN vhP vt vu vp vq) (fun z1 => match z1 with
  | (.inl z1v, z1r) =>
    some ((0 : Int32), z1r.1, z1r.2.1, z1r.2.2.1, z1r.2.2.2.1, z1r.2.2.2.2.1, z1r.2.2.2.2.2.1, z1r.2.2.2.2.2.2.1, z1r.2.2.2.2.2.2.2.1, z1r.2.2.2.2.2.2.2.2.1, (vp_updL vo 0 z1v.toInt64), (0 + z1r.2.2.2.2.2.2.2.2.2.1), (0 + z1r.2.2.2.2.2.2.2.2.2.2))
  | (.inr z1e, z1r) =>
    if z1e = "java/lang/IllegalStateException" then
      some ((1 : Int32), z1r.1, z1r.2.1, z1r.2.2.1, z1r.2.2.2.1, z1r.2.2.2.2.1, z1r.2.2.2.2.2.1, z1r.2.2.2.2.2.2.1, z1r.2.2.2.2.2.2.2.1, z1r.2.2.2.2.2.2.2.2.1, vo, (0 + z1r.2.2.2.2.2.2.2.2.2.1), (0 + z1r.2.2.2.2.2.2.2.2.2.2))
    else none)
/-! TelescopeNightLaw.expose(LTelescopeNight;I[J)I -/
def pL_expose_1 (x1 : Int32) (vn : NiS) (vg : PrS) (vhn : Int32) (vhs : Int32) (vhN : Nat → NiS) (vhP : Nat → PrS) (vt : ReS) (vu : ReS) (vp : PlS) (vq : DeS) (vo : Nat → Int64) : Option (Int32 × PrS × Int32 × Int32 × (Nat → NiS) × (Nat → PrS) × ReS × ReS × PlS × DeS × (Nat → Int64) × Nat × Nat) :=
  ob (pX8_expose x1 vn vg vhn vhs vhN vhP vt vu vp vq) (fun z1 => match z1 with
  | (.inl z1v, z1r) =>
    some ((0 : Int32), z1r.1, z1r.2.1, z1r.2.2.1, z1r.2.2.2.1, z1r.2.2.2.2.1, z1r.2.2.2.2.2.1, z1r.2.2.2.2.2.2.1, z1r.2.2.2.2.2.2.2.1, z1r.2.2.2.2.2.2.2.2.1, (vp_updL vo 0 z1v.toInt64), (0 + z1r.2.2.2.2.2.2.2.2.2.1), (0 + z1r.2.2.2.2.2.2.2.2.2.2))
  | (.inr z1e, z1r) =>
    if z1e = "java/lang/IndexOutOfBoundsException" then
      some ((1 : Int32), z1r.1, z1r.2.1, z1r.2.2.1, z1r.2.2.2.1, z1r.2.2.2.2.1, z1r.2.2.2.2.2.1, z1r.2.2.2.2.2.2.1, z1r.2.2.2.2.2.2.2.1, z1r.2.2.2.2.2.2.2.2.1, vo, (0 + z1r.2.2.2.2.2.2.2.2.2.1), (0 + z1r.2.2.2.2.2.2.2.2.2.2))
    else if z1e = "java/lang/IllegalStateException" then
      some ((2 : Int32), z1r.1, z1r.2.1, z1r.2.2.1, z1r.2.2.2.1, z1r.2.2.2.2.1, z1r.2.2.2.2.2.1, z1r.2.2.2.2.2.2.1, z1r.2.2.2.2.2.2.2.1, z1r.2.2.2.2.2.2.2.2.1, vo, (0 + z1r.2.2.2.2.2.2.2.2.2.1), (0 + z1r.2.2.2.2.2.2.2.2.2.2))
    else none)
/-! TelescopeNightLaw.pass(LTelescopeNight;[J)I -/
def pL_pass_1 (vn : NiS) (vg : PrS) (vhn : Int32) (vhs : Int32) (vhN : Nat → NiS) (vhP : Nat → PrS) (vt : ReS) (vu : ReS) (vp : PlS) (vq : DeS) (vo : Nat → Int64) : Option (Int32 × PrS × Int32 × Int32 × (Nat → NiS) × (Nat → PrS) × ReS × ReS × PlS × DeS × (Nat → Int64) × Nat × Nat) :=
  ob (pX8_pass vn vg vhn vhs vhN vhP vt vu vp vq) (fun z1 => match z1 with
  | (.inl z1v, z1r) =>
    some ((0 : Int32), z1r.1, z1r.2.1, z1r.2.2.1, z1r.2.2.2.1, z1r.2.2.2.2.1, z1r.2.2.2.2.2.1, z1r.2.2.2.2.2.2.1, z1r.2.2.2.2.2.2.2.1, z1r.2.2.2.2.2.2.2.2.1, (vp_updL vo 0 z1v.toInt64), (0 + z1r.2.2.2.2.2.2.2.2.2.1), (0 + z1r.2.2.2.2.2.2.2.2.2.2))
  | (.inr z1e, z1r) =>
    if z1e = "java/lang/IllegalStateException" then
      some ((1 : Int32), z1r.1, z1r.2.1, z1r.2.2.1, z1r.2.2.2.1, z1r.2.2.2.2.1, z1r.2.2.2.2.2.1, z1r.2.2.2.2.2.2.1, z1r.2.2.2.2.2.2.2.1, z1r.2.2.2.2.2.2.2.2.1, vo, (0 + z1r.2.2.2.2.2.2.2.2.2.1), (0 + z1r.2.2.2.2.2.2.2.2.2.2))
    else none)
/-! TelescopeNightLaw.waive(LTelescopeNight;I[J)I -/
def pL_waive_1 (x1 : Int32) (vn : NiS) (vg : PrS) (vhn : Int32) (vhs : Int32) (vhN : Nat → NiS) (vhP : Nat → PrS) (vt : ReS) (vu : ReS) (vp : PlS) (vq : DeS) (vo : Nat → Int64) : Option (Int32 × PrS × Int32 × Int32 × (Nat → NiS) × (Nat → PrS) × ReS × ReS × PlS × DeS × (Nat → Int64) × Nat × Nat) :=
  ob (pX8_waive x1 vn vg vhn vhs vhN vhP vt vu vp vq) (fun z1 => match z1 with
  | (.inl z1v, z1r) =>
    some ((0 : Int32), z1r.1, z1r.2.1, z1r.2.2.1, z1r.2.2.2.1, z1r.2.2.2.2.1, z1r.2.2.2.2.2.1, z1r.2.2.2.2.2.2.1, z1r.2.2.2.2.2.2.2.1, z1r.2.2.2.2.2.2.2.2.1, (vp_updL vo 0 z1v.toInt64), (0 + z1r.2.2.2.2.2.2.2.2.2.1), (0 + z1r.2.2.2.2.2.2.2.2.2.2))
  | (.inr z1e, z1r) =>
    if z1e = "java/lang/IndexOutOfBoundsException" then
      some ((1 : Int32), z1r.1, z1r.2.1, z1r.2.2.1, z1r.2.2.2.1, z1r.2.2.2.2.1, z1r.2.2.2.2.2.1, z1r.2.2.2.2.2.2.1, z1r.2.2.2.2.2.2.2.1, z1r.2.2.2.2.2.2.2.2.1, vo, (0 + z1r.2.2.2.2.2.2.2.2.2.1), (0 + z1r.2.2.2.2.2.2.2.2.2.2))
    else if z1e = "java/lang/IllegalStateException" then
      some ((2 : Int32), z1r.1, z1r.2.1, z1r.2.2.1, z1r.2.2.2.1, z1r.2.2.2.2.1, z1r.2.2.2.2.2.1, z1r.2.2.2.2.2.2.1, z1r.2.2.2.2.2.2.2.1, z1r.2.2.2.2.2.2.2.2.1, vo, (0 + z1r.2.2.2.2.2.2.2.2.2.1), (0 + z1r.2.2.2.2.2.2.2.2.2.2))
    else none)
/-! TelescopeNightLaw.turnsOf(LTelescopeNight;I[J)I -/
def pL_turnsOf_1 (x1 : Int32) (vn : NiS) (vg : PrS) (vo : Nat → Int64) : Option (Int32 × (Nat → Int64) × Nat × Nat) :=
  ob (pX8_turnsOf x1 vn vg) (fun z1 => match z1 with
  | (.inl z1v, z1r) =>
    some ((0 : Int32), (vp_updL vo 0 z1v.toInt64), (0 + z1r.1), (0 + z1r.2))
  | (.inr z1e, z1r) =>
    if z1e = "java/lang/IndexOutOfBoundsException" then
      some ((1 : Int32), vo, (0 + z1r.1), (0 + z1r.2))
    else none)
/-! TelescopeNightLaw.exposures(LTelescopeNight;I[J)I -/
def pL_exposures_1 (x1 : Int32) (vn : NiS) (vg : PrS) (vo : Nat → Int64) : Option (Int32 × (Nat → Int64) × Nat × Nat) :=
  ob (pX8_exposures x1 vn vg) (fun z1 => match z1 with
  | (.inl z1v, z1r) =>
    some ((0 : Int32), (vp_updL vo 0 z1v.toInt64), (0 + z1r.1), (0 + z1r.2))
  | (.inr z1e, z1r) =>
    if z1e = "java/lang/IndexOutOfBoundsException" then
      some ((1 : Int32), vo, (0 + z1r.1), (0 + z1r.2))
    else none)
/-! TelescopeNightLaw.past(LTelescopeNight;II[J)I -/
def pL_past_1 (x1 : Int32) (x2 : Int32) (vn : NiS) (vg : PrS) (vo : Nat → Int64) : Option (Int32 × (Nat → Int64) × Nat × Nat) :=
  ob (pX8_past x1 x2 vn vg) (fun z1 => match z1 with
  | (.inl z1v, z1r) =>
    some ((0 : Int32), (vp_updL vo 0 z1v.toInt64), (0 + z1r.1), (0 + z1r.2))
  | (.inr z1e, z1r) =>
    if z1e = "java/lang/IndexOutOfBoundsException" then
      some ((1 : Int32), vo, (0 + z1r.1), (0 + z1r.2))
    else if z1e = "java/lang/IllegalArgumentException" then
      some ((2 : Int32), vo, (0 + z1r.1), (0 + z1r.2))
    else none)
/-! TelescopeNightLaw.planned(LTelescopeNight;I[J)I -/
def pL_planned_1 (x1 : Int32) (vn : NiS) (vg : PrS) (vt : ReS) (vu : ReS) (vp : PlS) (vo : Nat → Int64) : Option (Int32 × ReS × ReS × PlS × (Nat → Int64) × Nat × Nat) :=
  ob (pX8_planned x1 vn vg vt vu vp) (fun z1 => match z1 with
  | (.inl z1v, z1r) =>
    some ((0 : Int32), z1r.1, z1r.2.1, z1r.2.2.1, (vp_updL vo 0 z1v.toInt64), (0 + z1r.2.2.2.1), (0 + z1r.2.2.2.2))
  | (.inr z1e, z1r) =>
    if z1e = "java/lang/IndexOutOfBoundsException" then
      some ((1 : Int32), z1r.1, z1r.2.1, z1r.2.2.1, vo, (0 + z1r.2.2.2.1), (0 + z1r.2.2.2.2))
    else none)
/-! TelescopeNightLaw.planValueWith(LTelescopeNight;II[J)I -/
def pL_planValueWith_1 (x1 : Int32) (x2 : Int32) (vn : NiS) (vg : PrS) (vt : ReS) (vu : ReS) (vp : PlS) (vo : Nat → Int64) : Option (Int32 × ReS × ReS × PlS × (Nat → Int64) × Nat × Nat) :=
  ob (pX8_planValueWith x1 x2 vn vg vt vu vp) (fun z1 => match z1 with
  | (.inl z1v, z1r) =>
    some ((0 : Int32), z1r.1, z1r.2.1, z1r.2.2.1, (vp_updL vo 0 z1v), (0 + z1r.2.2.2.1), (0 + z1r.2.2.2.2))
  | (.inr z1e, z1r) =>
    if z1e = "java/lang/IndexOutOfBoundsException" then
      some ((1 : Int32), z1r.1, z1r.2.1, z1r.2.2.1, vo, (0 + z1r.2.2.2.1), (0 + z1r.2.2.2.2))
    else if z1e = "java/util/NoSuchElementException" then
      some ((2 : Int32), z1r.1, z1r.2.1, z1r.2.2.1, vo, (0 + z1r.2.2.2.1), (0 + z1r.2.2.2.2))
    else none)
/-! TelescopeNightLaw.worth(LTelescopeNight;I[J)I -/
def pL_worth_1 (x1 : Int32) (vn : NiS) (vg : PrS) (vt : ReS) (vu : ReS) (vp : PlS) (vo : Nat → Int64) : Option (Int32 × ReS × ReS × PlS × (Nat → Int64) × Nat × Nat) :=
  ob (pX8_worth x1 vn vg vt vu vp) (fun z1 => match z1 with
  | (.inl z1v, z1r) =>
    some ((0 : Int32), z1r.1, z1r.2.1, z1r.2.2.1, (vp_updL vo 0 z1v), (0 + z1r.2.2.2.1), (0 + z1r.2.2.2.2))
  | (.inr z1e, z1r) =>
    if z1e = "java/lang/IndexOutOfBoundsException" then
      some ((1 : Int32), z1r.1, z1r.2.1, z1r.2.2.1, vo, (0 + z1r.2.2.2.1), (0 + z1r.2.2.2.2))
    else none)
/-! TelescopeNightLaw.meanValueOf(LTelescopeNight;I[J)I -/
def pL_meanValueOf_1 (x1 : Int32) (vn : NiS) (vg : PrS) (vt : ReS) (vq : DeS) (vo : Nat → Int64) : Option (Int32 × ReS × DeS × (Nat → Int64) × Nat × Nat) :=
  ob (pX8_meanValueOf x1 vn vg vt vq) (fun z1 => match z1 with
  | (.inl z1v, z1r) =>
    some ((0 : Int32), z1r.1, z1r.2.1, (vp_updL vo 0 z1v), (0 + z1r.2.2.1), (0 + z1r.2.2.2))
  | (.inr z1e, z1r) =>
    if z1e = "java/lang/IndexOutOfBoundsException" then
      some ((1 : Int32), z1r.1, z1r.2.1, vo, (0 + z1r.2.2.1), (0 + z1r.2.2.2))
    else if z1e = "java/lang/IllegalStateException" then
      some ((2 : Int32), z1r.1, z1r.2.1, vo, (0 + z1r.2.2.1), (0 + z1r.2.2.2))
    else none)
/-! TelescopeNightLaw.decision(LTelescopeNight;[J)I -/
def pL_decision_1 (vn : NiS) (vg : PrS) (vt : ReS) (vq : DeS) (vo : Nat → Int64) : Option (Int32 × ReS × DeS × (Nat → Int64) × Nat × Nat) :=
  ob (pX8_decision vn vg vt vq) (fun z1 => match z1 with
  | (.inl z1v, z1r) =>
    some ((0 : Int32), z1r.1, z1r.2.1, (vp_updL vo 0 z1v.toInt64), (0 + z1r.2.2.1), (0 + z1r.2.2.2))
  | (.inr z1e, z1r) =>
    if z1e = "java/lang/IllegalStateException" then
      some ((1 : Int32), z1r.1, z1r.2.1, vo, (0 + z1r.2.2.1), (0 + z1r.2.2.2))
    else none)
/-! TelescopeNightLaw.meanExposures(LTelescopeNight;I[J)I -/
def pL_meanExposures_1 (x1 : Int32) (vn : NiS) (vg : PrS) (vt : ReS) (vq : DeS) (vo : Nat → Int64) : Option (Int32 × ReS × DeS × (Nat → Int64) × Nat × Nat) :=
  ob (pX8_meanExposures x1 vn vg vt vq) (fun z1 => match z1 with
  | (.inl z1v, z1r) =>
    some ((0 : Int32), z1r.1, z1r.2.1, (vp_updL vo 0 z1v), (0 + z1r.2.2.1), (0 + z1r.2.2.2))
  | (.inr z1e, z1r) =>
    if z1e = "java/lang/IndexOutOfBoundsException" then
      some ((1 : Int32), z1r.1, z1r.2.1, vo, (0 + z1r.2.2.1), (0 + z1r.2.2.2))
    else none)
/-! TelescopeNightLaw.finishOdds(LTelescopeNight;I[J)I -/
def pL_finishOdds_1 (x1 : Int32) (vn : NiS) (vg : PrS) (vt : ReS) (vq : DeS) (vo : Nat → Int64) : Option (Int32 × ReS × DeS × (Nat → Int64) × Nat × Nat) :=
  ob (pX8_finishOdds x1 vn vg vt vq) (fun z1 => match z1 with
  | (.inl z1v, z1r) =>
    some ((0 : Int32), z1r.1, z1r.2.1, (vp_updL vo 0 z1v), (0 + z1r.2.2.1), (0 + z1r.2.2.2))
  | (.inr z1e, z1r) =>
    if z1e = "java/lang/IndexOutOfBoundsException" then
      some ((1 : Int32), z1r.1, z1r.2.1, vo, (0 + z1r.2.2.1), (0 + z1r.2.2.2))
    else none)
/-! TelescopeNightLaw.worthOfClear(LTelescopeNight;[J)I -/
def pL_worthOfClear_1 (vn : NiS) (vg : PrS) (vt : ReS) (vq : DeS) (vo : Nat → Int64) : Option (Int32 × ReS × DeS × (Nat → Int64) × Nat × Nat) :=
  ob (pX8_worthOfClear vn vg vt vq) (fun z1 => match z1 with
  | (.inl z1v, z1r) =>
    some ((0 : Int32), z1r.1, z1r.2.1, (vp_updL vo 0 z1v), (0 + z1r.2.2.1), (0 + z1r.2.2.2))
  | (.inr z1e, z1r) =>
    if z1e = "java/lang/IllegalStateException" then
      some ((1 : Int32), z1r.1, z1r.2.1, vo, (0 + z1r.2.2.1), (0 + z1r.2.2.2))
    else none)
/-! TelescopeNightLaw.undo(LTelescopeNight;[J)I -/
def pL_undo_1 (vn : NiS) (vg : PrS) (vhn : Int32) (vhs : Int32) (vhN : Nat → NiS) (vhP : Nat → PrS) (vt : ReS) (vu : ReS) (vp : PlS) (vq : DeS) (vo : Nat → Int64) : Option (Int32 × NiS × PrS × Int32 × Int32 × ReS × ReS × PlS × DeS × (Nat → Int64) × Nat × Nat) :=
  ob (pX8_undo vn vg vhn vhs vhN vhP vt vu vp vq) (fun z1 => match z1 with
  | (.inl z1v, z1r) =>
    some ((0 : Int32), z1r.1, z1r.2.1, z1r.2.2.1, z1r.2.2.2.1, z1r.2.2.2.2.1, z1r.2.2.2.2.2.1, z1r.2.2.2.2.2.2.1, z1r.2.2.2.2.2.2.2.1, (vp_updL vo 0 z1v.toInt64), (0 + z1r.2.2.2.2.2.2.2.2.1), (0 + z1r.2.2.2.2.2.2.2.2.2))
  | (.inr z1e, z1r) =>
    if z1e = "java/lang/IllegalStateException" then
      some ((1 : Int32), z1r.1, z1r.2.1, z1r.2.2.1, z1r.2.2.2.1, z1r.2.2.2.2.1, z1r.2.2.2.2.2.1, z1r.2.2.2.2.2.2.1, z1r.2.2.2.2.2.2.2.1, vo, (0 + z1r.2.2.2.2.2.2.2.2.1), (0 + z1r.2.2.2.2.2.2.2.2.2))
    else none)
/-! TelescopeNightLaw.law([I)Z -/
def lpL_law_1999_1964 (sN : Nat) (sF : Nat → Int32) (vhN : Nat → NiS) (vhP : Nat → PrS) (m_kept : Nat → Int32) (kc : Nat) (ks : Nat) (vn : NiS) (vg : PrS) (vhn : Int32) (vhs : Int32) (vt : ReS) (vu : ReS) (vp : PlS) (vq : DeS) (m_a : Nat → Int32) (m_keptMany : Int32) (m_thrown : Int32) (vo : Nat → Int64) : Option (Nat × Nat × NiS × PrS × Int32 × Int32 × ReS × ReS × PlS × DeS × (Nat → Int32) × Int32 × Int32 × (Nat → Int64)) :=
    ob (pL_undo_1 vn vg vhn vhs vhN vhP vt vu vp vq vo) (fun z146 =>
    ob (pX9_undo m_a m_kept m_keptMany) (fun z147 =>
    ob (pX9_thrown z147.2.2.1) (fun z148 =>
    if z148 = z146.1 then
      if ¬ z146.1 = 0 then
        some ((kc + z146.2.2.2.2.2.2.2.2.2.2.1), (ks + z146.2.2.2.2.2.2.2.2.2.2.2), z146.2.1, z146.2.2.1, z146.2.2.2.1, z146.2.2.2.2.1, z146.2.2.2.2.2.1, z146.2.2.2.2.2.2.1, z146.2.2.2.2.2.2.2.1, z146.2.2.2.2.2.2.2.2.1, z147.2.2.2, z147.2.1, z147.2.2.1, z146.2.2.2.2.2.2.2.2.2.1)
      else
        if (lg_cmp ((z146.2.2.2.2.2.2.2.2.2.1 0)) z147.1.toInt64) = 0 then
          some ((kc + z146.2.2.2.2.2.2.2.2.2.2.1), (ks + z146.2.2.2.2.2.2.2.2.2.2.2), z146.2.1, z146.2.2.1, z146.2.2.2.1, z146.2.2.2.2.1, z146.2.2.2.2.2.1, z146.2.2.2.2.2.2.1, z146.2.2.2.2.2.2.2.1, z146.2.2.2.2.2.2.2.2.1, z147.2.2.2, z147.2.1, z147.2.2.1, z146.2.2.2.2.2.2.2.2.2.1)
        else
          none
    else
      none)))
def lpL_law_1999_1921 (sN : Nat) (sF : Nat → Int32) (vn : NiS) (vg : PrS) (m_a : Nat → Int32) (m_giving : Int32) (m_givenTarget : Int32) (kc : Nat) (ks : Nat) (vt : ReS) (vq : DeS) (m_thrown : Int32) (m_turnsBy : Nat → Int32) (m_inTurnAt : Nat → Int32) (m_isState : Nat → Int32) (m_seen : Nat → Int32) (m_clears : Nat → Int64) (m_clouds : Nat → Int64) (m_clearsNow : Nat → Int64) (m_cloudsNow : Nat → Int64) (m_givesClear : Nat → Int64) (m_givesCloudy : Nat → Int64) (m_givesClearNow : Nat → Int64) (m_givesCloudyNow : Nat → Int64) (vo : Nat → Int64) : Option (Nat × Nat × ReS × DeS × Int32 × (Nat → Int32) × (Nat → Int32) × (Nat → Int32) × (Nat → Int32) × (Nat → Int64) × (Nat → Int64) × (Nat → Int64) × (Nat → Int64) × (Nat → Int64) × (Nat → Int64) × (Nat → Int64) × (Nat → Int64) × (Nat → Int64)) :=
    ob (pL_worthOfClear_1 vn vg vt vq vo) (fun z142 =>
    ob (pX9_worthOfClear m_a m_turnsBy m_inTurnAt m_isState m_seen m_clears m_clouds m_clearsNow m_cloudsNow m_givesClear m_givesCloudy m_givesClearNow m_givesCloudyNow m_giving m_givenTarget) (fun z143 =>
    ob (pX9_thrown z143.2.1) (fun z144 =>
    if z144 = z142.1 then
      if ¬ z142.1 = 0 then
        some ((kc + z142.2.2.2.2.1), (ks + z142.2.2.2.2.2), z142.2.1, z142.2.2.1, z143.2.1, z143.2.2.1, z143.2.2.2.1, z143.2.2.2.2.1, z143.2.2.2.2.2.1, z143.2.2.2.2.2.2.1, z143.2.2.2.2.2.2.2.1, z143.2.2.2.2.2.2.2.2.1, z143.2.2.2.2.2.2.2.2.2.1, z143.2.2.2.2.2.2.2.2.2.2.1, z143.2.2.2.2.2.2.2.2.2.2.2.1, z143.2.2.2.2.2.2.2.2.2.2.2.2.1, z143.2.2.2.2.2.2.2.2.2.2.2.2.2, z142.2.2.2.1)
      else
        if (lg_cmp ((z142.2.2.2.1 0)) z143.1) = 0 then
          some ((kc + z142.2.2.2.2.1), (ks + z142.2.2.2.2.2), z142.2.1, z142.2.2.1, z143.2.1, z143.2.2.1, z143.2.2.2.1, z143.2.2.2.2.1, z143.2.2.2.2.2.1, z143.2.2.2.2.2.2.1, z143.2.2.2.2.2.2.2.1, z143.2.2.2.2.2.2.2.2.1, z143.2.2.2.2.2.2.2.2.2.1, z143.2.2.2.2.2.2.2.2.2.2.1, z143.2.2.2.2.2.2.2.2.2.2.2.1, z143.2.2.2.2.2.2.2.2.2.2.2.2.1, z143.2.2.2.2.2.2.2.2.2.2.2.2.2, z142.2.2.2.1)
        else
          none
    else
      none)))
def lpL_law_1999_1907 (sN : Nat) (sF : Nat → Int32) (vn : NiS) (vg : PrS) (m_a : Nat → Int32) (kc : Nat) (ks : Nat) (vt : ReS) (vq : DeS) (m_thrown : Int32) (m_turnsBy : Nat → Int32) (m_inTurnAt : Nat → Int32) (m_isState : Nat → Int32) (m_seen : Nat → Int32) (m_clears : Nat → Int64) (m_clouds : Nat → Int64) (m_clearsNow : Nat → Int64) (m_cloudsNow : Nat → Int64) (m_givesClear : Nat → Int64) (m_givesCloudy : Nat → Int64) (m_givesClearNow : Nat → Int64) (m_givesCloudyNow : Nat → Int64) (m_giving : Int32) (m_givenTarget : Int32) : Option (Nat × Nat × ReS × DeS × Int32 × (Nat → Int32) × (Nat → Int32) × (Nat → Int32) × (Nat → Int32) × (Nat → Int64) × (Nat → Int64) × (Nat → Int64) × (Nat → Int64) × (Nat → Int64) × (Nat → Int64) × (Nat → Int64) × (Nat → Int64) × Int32 × Int32) :=
    ob (pX8_greedyMean vn vg vt vq) (fun z139 =>
    ob (pX9_greedyMean m_a m_turnsBy m_inTurnAt m_isState m_seen m_clears m_clouds m_clearsNow m_cloudsNow m_givesClear m_givesCloudy m_givesClearNow m_givesCloudyNow) (fun z140 =>
    if (lg_cmp z139.1 z140.1) = 0 then
      some ((kc + z139.2.2.2.1), (ks + z139.2.2.2.2), z139.2.1, z139.2.2.1, (0 : Int32), z140.2.2.2.1, z140.2.2.2.2.1, z140.2.2.2.2.2.1, z140.2.2.2.2.2.2.1, z140.2.2.2.2.2.2.2.1, z140.2.2.2.2.2.2.2.2.1, z140.2.2.2.2.2.2.2.2.2.1, z140.2.2.2.2.2.2.2.2.2.2.1, z140.2.2.2.2.2.2.2.2.2.2.2.1, z140.2.2.2.2.2.2.2.2.2.2.2.2.1, z140.2.2.2.2.2.2.2.2.2.2.2.2.2.1, z140.2.2.2.2.2.2.2.2.2.2.2.2.2.2, z140.2.1, z140.2.2.1)
    else
      none))
def lpL_law_1999_1852 (sN : Nat) (sF : Nat → Int32) (l4 : Int32) (vn : NiS) (vg : PrS) (m_a : Nat → Int32) (kc : Nat) (ks : Nat) (vt : ReS) (vq : DeS) (m_thrown : Int32) (m_turnsBy : Nat → Int32) (m_inTurnAt : Nat → Int32) (m_isState : Nat → Int32) (m_seen : Nat → Int32) (m_clears : Nat → Int64) (m_clouds : Nat → Int64) (m_clearsNow : Nat → Int64) (m_cloudsNow : Nat → Int64) (m_givesClear : Nat → Int64) (m_givesCloudy : Nat → Int64) (m_givesClearNow : Nat → Int64) (m_givesCloudyNow : Nat → Int64) (m_giving : Int32) (m_givenTarget : Int32) (vo : Nat → Int64) : Option (Nat × Nat × ReS × DeS × Int32 × (Nat → Int32) × (Nat → Int32) × (Nat → Int32) × (Nat → Int32) × (Nat → Int64) × (Nat → Int64) × (Nat → Int64) × (Nat → Int64) × (Nat → Int64) × (Nat → Int64) × (Nat → Int64) × (Nat → Int64) × Int32 × Int32 × (Nat → Int64)) :=
    if ((l4 + (1 : Int32)) < 0 ∨ sN ≤ ((l4 + (1 : Int32))).toNatClampNeg) then none else
    ob (pL_finishOdds_1 (sF ((l4 + (1 : Int32))).toNatClampNeg) vn vg vt vq vo) (fun z135 =>
    ob (pX9_finishOdds (sF ((l4 + (1 : Int32))).toNatClampNeg) m_a m_turnsBy m_inTurnAt m_isState m_seen m_clears m_clouds m_clearsNow m_cloudsNow m_givesClear m_givesCloudy m_givesClearNow m_givesCloudyNow m_giving m_givenTarget) (fun z136 =>
    ob (pX9_thrown z136.2.1) (fun z137 =>
    if z137 = z135.1 then
      if ¬ z135.1 = 0 then
        some ((kc + z135.2.2.2.2.1), (ks + z135.2.2.2.2.2), z135.2.1, z135.2.2.1, z136.2.1, z136.2.2.2.2.1, z136.2.2.2.2.2.1, z136.2.2.2.2.2.2.1, z136.2.2.2.2.2.2.2.1, z136.2.2.2.2.2.2.2.2.1, z136.2.2.2.2.2.2.2.2.2.1, z136.2.2.2.2.2.2.2.2.2.2.1, z136.2.2.2.2.2.2.2.2.2.2.2.1, z136.2.2.2.2.2.2.2.2.2.2.2.2.1, z136.2.2.2.2.2.2.2.2.2.2.2.2.2.1, z136.2.2.2.2.2.2.2.2.2.2.2.2.2.2.1, z136.2.2.2.2.2.2.2.2.2.2.2.2.2.2.2, z136.2.2.1, z136.2.2.2.1, z135.2.2.2.1)
      else
        if (lg_cmp ((z135.2.2.2.1 0)) z136.1) = 0 then
          some ((kc + z135.2.2.2.2.1), (ks + z135.2.2.2.2.2), z135.2.1, z135.2.2.1, z136.2.1, z136.2.2.2.2.1, z136.2.2.2.2.2.1, z136.2.2.2.2.2.2.1, z136.2.2.2.2.2.2.2.1, z136.2.2.2.2.2.2.2.2.1, z136.2.2.2.2.2.2.2.2.2.1, z136.2.2.2.2.2.2.2.2.2.2.1, z136.2.2.2.2.2.2.2.2.2.2.2.1, z136.2.2.2.2.2.2.2.2.2.2.2.2.1, z136.2.2.2.2.2.2.2.2.2.2.2.2.2.1, z136.2.2.2.2.2.2.2.2.2.2.2.2.2.2.1, z136.2.2.2.2.2.2.2.2.2.2.2.2.2.2.2, z136.2.2.1, z136.2.2.2.1, z135.2.2.2.1)
        else
          none
    else
      none)))
def lpL_law_1999_1797 (sN : Nat) (sF : Nat → Int32) (l4 : Int32) (vn : NiS) (vg : PrS) (m_a : Nat → Int32) (kc : Nat) (ks : Nat) (vt : ReS) (vq : DeS) (m_thrown : Int32) (m_turnsBy : Nat → Int32) (m_inTurnAt : Nat → Int32) (m_isState : Nat → Int32) (m_seen : Nat → Int32) (m_clears : Nat → Int64) (m_clouds : Nat → Int64) (m_clearsNow : Nat → Int64) (m_cloudsNow : Nat → Int64) (m_givesClear : Nat → Int64) (m_givesCloudy : Nat → Int64) (m_givesClearNow : Nat → Int64) (m_givesCloudyNow : Nat → Int64) (m_giving : Int32) (m_givenTarget : Int32) (vo : Nat → Int64) : Option (Nat × Nat × ReS × DeS × Int32 × (Nat → Int32) × (Nat → Int32) × (Nat → Int32) × (Nat → Int32) × (Nat → Int64) × (Nat → Int64) × (Nat → Int64) × (Nat → Int64) × (Nat → Int64) × (Nat → Int64) × (Nat → Int64) × (Nat → Int64) × Int32 × Int32 × (Nat → Int64)) :=
    if ((l4 + (1 : Int32)) < 0 ∨ sN ≤ ((l4 + (1 : Int32))).toNatClampNeg) then none else
    ob (pL_meanExposures_1 (sF ((l4 + (1 : Int32))).toNatClampNeg) vn vg vt vq vo) (fun z131 =>
    ob (pX9_meanExposures (sF ((l4 + (1 : Int32))).toNatClampNeg) m_a m_turnsBy m_inTurnAt m_isState m_seen m_clears m_clouds m_clearsNow m_cloudsNow m_givesClear m_givesCloudy m_givesClearNow m_givesCloudyNow m_giving m_givenTarget) (fun z132 =>
    ob (pX9_thrown z132.2.1) (fun z133 =>
    if z133 = z131.1 then
      if ¬ z131.1 = 0 then
        some ((kc + z131.2.2.2.2.1), (ks + z131.2.2.2.2.2), z131.2.1, z131.2.2.1, z132.2.1, z132.2.2.2.2.1, z132.2.2.2.2.2.1, z132.2.2.2.2.2.2.1, z132.2.2.2.2.2.2.2.1, z132.2.2.2.2.2.2.2.2.1, z132.2.2.2.2.2.2.2.2.2.1, z132.2.2.2.2.2.2.2.2.2.2.1, z132.2.2.2.2.2.2.2.2.2.2.2.1, z132.2.2.2.2.2.2.2.2.2.2.2.2.1, z132.2.2.2.2.2.2.2.2.2.2.2.2.2.1, z132.2.2.2.2.2.2.2.2.2.2.2.2.2.2.1, z132.2.2.2.2.2.2.2.2.2.2.2.2.2.2.2, z132.2.2.1, z132.2.2.2.1, z131.2.2.2.1)
      else
        if (lg_cmp ((z131.2.2.2.1 0)) z132.1) = 0 then
          some ((kc + z131.2.2.2.2.1), (ks + z131.2.2.2.2.2), z131.2.1, z131.2.2.1, z132.2.1, z132.2.2.2.2.1, z132.2.2.2.2.2.1, z132.2.2.2.2.2.2.1, z132.2.2.2.2.2.2.2.1, z132.2.2.2.2.2.2.2.2.1, z132.2.2.2.2.2.2.2.2.2.1, z132.2.2.2.2.2.2.2.2.2.2.1, z132.2.2.2.2.2.2.2.2.2.2.2.1, z132.2.2.2.2.2.2.2.2.2.2.2.2.1, z132.2.2.2.2.2.2.2.2.2.2.2.2.2.1, z132.2.2.2.2.2.2.2.2.2.2.2.2.2.2.1, z132.2.2.2.2.2.2.2.2.2.2.2.2.2.2.2, z132.2.2.1, z132.2.2.2.1, z131.2.2.2.1)
        else
          none
    else
      none)))
def lpL_law_1999_1753 (sN : Nat) (sF : Nat → Int32) (vn : NiS) (vg : PrS) (m_a : Nat → Int32) (m_giving : Int32) (m_givenTarget : Int32) (kc : Nat) (ks : Nat) (vt : ReS) (vq : DeS) (m_thrown : Int32) (m_turnsBy : Nat → Int32) (m_inTurnAt : Nat → Int32) (m_isState : Nat → Int32) (m_seen : Nat → Int32) (m_clears : Nat → Int64) (m_clouds : Nat → Int64) (m_clearsNow : Nat → Int64) (m_cloudsNow : Nat → Int64) (m_givesClear : Nat → Int64) (m_givesCloudy : Nat → Int64) (m_givesClearNow : Nat → Int64) (m_givesCloudyNow : Nat → Int64) (vo : Nat → Int64) : Option (Nat × Nat × ReS × DeS × Int32 × (Nat → Int32) × (Nat → Int32) × (Nat → Int32) × (Nat → Int32) × (Nat → Int64) × (Nat → Int64) × (Nat → Int64) × (Nat → Int64) × (Nat → Int64) × (Nat → Int64) × (Nat → Int64) × (Nat → Int64) × (Nat → Int64)) :=
    ob (pL_decision_1 vn vg vt vq vo) (fun z127 =>
    ob (pX9_decision m_a m_turnsBy m_inTurnAt m_isState m_seen m_clears m_clouds m_clearsNow m_cloudsNow m_givesClear m_givesCloudy m_givesClearNow m_givesCloudyNow m_giving m_givenTarget) (fun z128 =>
    ob (pX9_thrown z128.2.1) (fun z129 =>
    if z129 = z127.1 then
      if ¬ z127.1 = 0 then
        some ((kc + z127.2.2.2.2.1), (ks + z127.2.2.2.2.2), z127.2.1, z127.2.2.1, z128.2.1, z128.2.2.1, z128.2.2.2.1, z128.2.2.2.2.1, z128.2.2.2.2.2.1, z128.2.2.2.2.2.2.1, z128.2.2.2.2.2.2.2.1, z128.2.2.2.2.2.2.2.2.1, z128.2.2.2.2.2.2.2.2.2.1, z128.2.2.2.2.2.2.2.2.2.2.1, z128.2.2.2.2.2.2.2.2.2.2.2.1, z128.2.2.2.2.2.2.2.2.2.2.2.2.1, z128.2.2.2.2.2.2.2.2.2.2.2.2.2, z127.2.2.2.1)
      else
        if (lg_cmp ((z127.2.2.2.1 0)) z128.1.toInt64) = 0 then
          some ((kc + z127.2.2.2.2.1), (ks + z127.2.2.2.2.2), z127.2.1, z127.2.2.1, z128.2.1, z128.2.2.1, z128.2.2.2.1, z128.2.2.2.2.1, z128.2.2.2.2.2.1, z128.2.2.2.2.2.2.1, z128.2.2.2.2.2.2.2.1, z128.2.2.2.2.2.2.2.2.1, z128.2.2.2.2.2.2.2.2.2.1, z128.2.2.2.2.2.2.2.2.2.2.1, z128.2.2.2.2.2.2.2.2.2.2.2.1, z128.2.2.2.2.2.2.2.2.2.2.2.2.1, z128.2.2.2.2.2.2.2.2.2.2.2.2.2, z127.2.2.2.1)
        else
          none
    else
      none)))
def lpL_law_1999_1698 (sN : Nat) (sF : Nat → Int32) (l4 : Int32) (vn : NiS) (vg : PrS) (m_a : Nat → Int32) (m_giving : Int32) (m_givenTarget : Int32) (kc : Nat) (ks : Nat) (vt : ReS) (vq : DeS) (m_thrown : Int32) (m_turnsBy : Nat → Int32) (m_inTurnAt : Nat → Int32) (m_isState : Nat → Int32) (m_seen : Nat → Int32) (m_clears : Nat → Int64) (m_clouds : Nat → Int64) (m_clearsNow : Nat → Int64) (m_cloudsNow : Nat → Int64) (m_givesClear : Nat → Int64) (m_givesCloudy : Nat → Int64) (m_givesClearNow : Nat → Int64) (m_givesCloudyNow : Nat → Int64) (vo : Nat → Int64) : Option (Nat × Nat × ReS × DeS × Int32 × (Nat → Int32) × (Nat → Int32) × (Nat → Int32) × (Nat → Int32) × (Nat → Int64) × (Nat → Int64) × (Nat → Int64) × (Nat → Int64) × (Nat → Int64) × (Nat → Int64) × (Nat → Int64) × (Nat → Int64) × (Nat → Int64)) :=
    if ((l4 + (1 : Int32)) < 0 ∨ sN ≤ ((l4 + (1 : Int32))).toNatClampNeg) then none else
    ob (pL_meanValueOf_1 (sF ((l4 + (1 : Int32))).toNatClampNeg) vn vg vt vq vo) (fun z123 =>
    ob (pX9_meanValueOf (sF ((l4 + (1 : Int32))).toNatClampNeg) m_a m_turnsBy m_inTurnAt m_isState m_seen m_clears m_clouds m_clearsNow m_cloudsNow m_givesClear m_givesCloudy m_givesClearNow m_givesCloudyNow m_giving m_givenTarget) (fun z124 =>
    ob (pX9_thrown z124.2.1) (fun z125 =>
    if z125 = z123.1 then
      if ¬ z123.1 = 0 then
        some ((kc + z123.2.2.2.2.1), (ks + z123.2.2.2.2.2), z123.2.1, z123.2.2.1, z124.2.1, z124.2.2.1, z124.2.2.2.1, z124.2.2.2.2.1, z124.2.2.2.2.2.1, z124.2.2.2.2.2.2.1, z124.2.2.2.2.2.2.2.1, z124.2.2.2.2.2.2.2.2.1, z124.2.2.2.2.2.2.2.2.2.1, z124.2.2.2.2.2.2.2.2.2.2.1, z124.2.2.2.2.2.2.2.2.2.2.2.1, z124.2.2.2.2.2.2.2.2.2.2.2.2.1, z124.2.2.2.2.2.2.2.2.2.2.2.2.2, z123.2.2.2.1)
      else
        if (lg_cmp ((z123.2.2.2.1 0)) z124.1) = 0 then
          some ((kc + z123.2.2.2.2.1), (ks + z123.2.2.2.2.2), z123.2.1, z123.2.2.1, z124.2.1, z124.2.2.1, z124.2.2.2.1, z124.2.2.2.2.1, z124.2.2.2.2.2.1, z124.2.2.2.2.2.2.1, z124.2.2.2.2.2.2.2.1, z124.2.2.2.2.2.2.2.2.1, z124.2.2.2.2.2.2.2.2.2.1, z124.2.2.2.2.2.2.2.2.2.2.1, z124.2.2.2.2.2.2.2.2.2.2.2.1, z124.2.2.2.2.2.2.2.2.2.2.2.2.1, z124.2.2.2.2.2.2.2.2.2.2.2.2.2, z123.2.2.2.1)
        else
          none
    else
      none)))
def lpL_law_1999_1684 (sN : Nat) (sF : Nat → Int32) (vn : NiS) (vg : PrS) (m_a : Nat → Int32) (m_giving : Int32) (m_givenTarget : Int32) (kc : Nat) (ks : Nat) (vt : ReS) (vq : DeS) (m_thrown : Int32) (m_turnsBy : Nat → Int32) (m_inTurnAt : Nat → Int32) (m_isState : Nat → Int32) (m_seen : Nat → Int32) (m_clears : Nat → Int64) (m_clouds : Nat → Int64) (m_clearsNow : Nat → Int64) (m_cloudsNow : Nat → Int64) (m_givesClear : Nat → Int64) (m_givesCloudy : Nat → Int64) (m_givesClearNow : Nat → Int64) (m_givesCloudyNow : Nat → Int64) : Option (Nat × Nat × ReS × DeS × Int32 × (Nat → Int32) × (Nat → Int32) × (Nat → Int32) × (Nat → Int32) × (Nat → Int64) × (Nat → Int64) × (Nat → Int64) × (Nat → Int64) × (Nat → Int64) × (Nat → Int64) × (Nat → Int64) × (Nat → Int64)) :=
    ob (pX8_meanValue vn vg vt vq) (fun z120 =>
    ob (pX9_meanValue m_a m_turnsBy m_inTurnAt m_isState m_seen m_clears m_clouds m_clearsNow m_cloudsNow m_givesClear m_givesCloudy m_givesClearNow m_givesCloudyNow m_giving m_givenTarget) (fun z121 =>
    if (lg_cmp z120.1 z121.1) = 0 then
      some ((kc + z120.2.2.2.1), (ks + z120.2.2.2.2), z120.2.1, z120.2.2.1, (0 : Int32), z121.2.1, z121.2.2.1, z121.2.2.2.1, z121.2.2.2.2.1, z121.2.2.2.2.2.1, z121.2.2.2.2.2.2.1, z121.2.2.2.2.2.2.2.1, z121.2.2.2.2.2.2.2.2.1, z121.2.2.2.2.2.2.2.2.2.1, z121.2.2.2.2.2.2.2.2.2.2.1, z121.2.2.2.2.2.2.2.2.2.2.2.1, z121.2.2.2.2.2.2.2.2.2.2.2.2)
    else
      none))
def lpL_law_1999_1670 (sN : Nat) (sF : Nat → Int32) (vn : NiS) (vg : PrS) (m_a : Nat → Int32) (vp : PlS) (m_thrown : Int32) (m_turnsBy : Nat → Int32) (m_inTurnAt : Nat → Int32) (m_isState : Nat → Int32) (m_seen : Nat → Int32) : Option (PlS × Int32 × (Nat → Int32) × (Nat → Int32) × (Nat → Int32) × (Nat → Int32)) :=
    ob (pX8_greedyValue vn vg) (fun z117 =>
    ob (pX9_greedyValue m_a m_turnsBy m_inTurnAt m_isState m_seen) (fun z118 =>
    if (lg_cmp z117 z118.1) = 0 then
      some (((0 : Int32), vp.2.1, vp.2.2.1, vp.2.2.2.1, vp.2.2.2.2.1, vp.2.2.2.2.2.1, vp.2.2.2.2.2.2.1, vp.2.2.2.2.2.2.2.1, vp.2.2.2.2.2.2.2.2.1, vp.2.2.2.2.2.2.2.2.2.1, vp.2.2.2.2.2.2.2.2.2.2.1, vp.2.2.2.2.2.2.2.2.2.2.2.1, vp.2.2.2.2.2.2.2.2.2.2.2.2), (0 : Int32), z118.2.1, z118.2.2.1, z118.2.2.2.1, z118.2.2.2.2)
    else
      none))
def lpL_law_1999_1629 (sN : Nat) (sF : Nat → Int32) (l4 : Int32) (vn : NiS) (vg : PrS) (m_a : Nat → Int32) (m_fixedSlot : Int32) (m_fixedTarget : Int32) (kc : Nat) (ks : Nat) (vt : ReS) (vu : ReS) (vp : PlS) (m_thrown : Int32) (m_turnsBy : Nat → Int32) (m_inTurnAt : Nat → Int32) (m_isState : Nat → Int32) (m_best : Nat → Int64) (m_seen : Nat → Int32) : Option (Nat × Nat × ReS × ReS × PlS × Int32 × (Nat → Int32) × (Nat → Int32) × (Nat → Int32) × (Nat → Int64) × (Nat → Int32)) :=
    if ((l4 + (1 : Int32)) < 0 ∨ sN ≤ ((l4 + (1 : Int32))).toNatClampNeg) then none else
    if (sF ((l4 + (1 : Int32))).toNatClampNeg) = 0 then
      ob (pX8_mostExposures (0 : Int32) vn vg vt vu vp) (fun z112 =>
      ob (pX9_mostExposures (0 : Int32) m_a m_turnsBy m_inTurnAt m_isState m_best m_seen m_fixedSlot m_fixedTarget) (fun z113 =>
      if z112.1 = z113.1 then
        some ((kc + z112.2.2.2.2.1), (ks + z112.2.2.2.2.2), z112.2.1, z112.2.2.1, z112.2.2.2.1, (0 : Int32), z113.2.1, z113.2.2.1, z113.2.2.2.1, z113.2.2.2.2.1, z113.2.2.2.2.2)
      else
        none))
    else
      ob (pX8_mostExposures (1 : Int32) vn vg vt vu vp) (fun z114 =>
      ob (pX9_mostExposures (1 : Int32) m_a m_turnsBy m_inTurnAt m_isState m_best m_seen m_fixedSlot m_fixedTarget) (fun z115 =>
      if z114.1 = z115.1 then
        some ((kc + z114.2.2.2.2.1), (ks + z114.2.2.2.2.2), z114.2.1, z114.2.2.1, z114.2.2.2.1, (0 : Int32), z115.2.1, z115.2.2.1, z115.2.2.2.1, z115.2.2.2.2.1, z115.2.2.2.2.2)
      else
        none))
def lpL_law_1999_1615 (sN : Nat) (sF : Nat → Int32) (vn : NiS) (vg : PrS) (m_a : Nat → Int32) (m_fixedSlot : Int32) (m_fixedTarget : Int32) (kc : Nat) (ks : Nat) (vt : ReS) (vu : ReS) (vp : PlS) (m_thrown : Int32) (m_turnsBy : Nat → Int32) (m_inTurnAt : Nat → Int32) (m_isState : Nat → Int32) (m_best : Nat → Int64) (m_seen : Nat → Int32) : Option (Nat × Nat × ReS × ReS × PlS × Int32 × (Nat → Int32) × (Nat → Int32) × (Nat → Int32) × (Nat → Int64) × (Nat → Int32)) :=
    ob (pX8_priceOfTurns vn vg vt vu vp) (fun z109 =>
    ob (pX9_priceOfTurns m_a m_turnsBy m_inTurnAt m_isState m_best m_seen m_fixedSlot m_fixedTarget) (fun z110 =>
    if (lg_cmp z109.1 z110.1) = 0 then
      some ((kc + z109.2.2.2.2.1), (ks + z109.2.2.2.2.2), z109.2.1, z109.2.2.1, z109.2.2.2.1, (0 : Int32), z110.2.1, z110.2.2.1, z110.2.2.2.1, z110.2.2.2.2.1, z110.2.2.2.2.2)
    else
      none))
def lpL_law_1999_1560 (sN : Nat) (sF : Nat → Int32) (l4 : Int32) (vn : NiS) (vg : PrS) (m_a : Nat → Int32) (m_fixedSlot : Int32) (m_fixedTarget : Int32) (kc : Nat) (ks : Nat) (vt : ReS) (vu : ReS) (vp : PlS) (m_thrown : Int32) (m_turnsBy : Nat → Int32) (m_inTurnAt : Nat → Int32) (m_isState : Nat → Int32) (m_best : Nat → Int64) (m_seen : Nat → Int32) (vo : Nat → Int64) : Option (Nat × Nat × ReS × ReS × PlS × Int32 × (Nat → Int32) × (Nat → Int32) × (Nat → Int32) × (Nat → Int64) × (Nat → Int32) × (Nat → Int64)) :=
    if ((l4 + (1 : Int32)) < 0 ∨ sN ≤ ((l4 + (1 : Int32))).toNatClampNeg) then none else
    ob (pL_worth_1 (sF ((l4 + (1 : Int32))).toNatClampNeg) vn vg vt vu vp vo) (fun z105 =>
    ob (pX9_worth (sF ((l4 + (1 : Int32))).toNatClampNeg) m_a m_turnsBy m_inTurnAt m_isState m_best m_seen m_fixedSlot m_fixedTarget) (fun z106 =>
    ob (pX9_thrown z106.2.1) (fun z107 =>
    if z107 = z105.1 then
      if ¬ z105.1 = 0 then
        some ((kc + z105.2.2.2.2.2.1), (ks + z105.2.2.2.2.2.2), z105.2.1, z105.2.2.1, z105.2.2.2.1, z106.2.1, z106.2.2.1, z106.2.2.2.1, z106.2.2.2.2.1, z106.2.2.2.2.2.1, z106.2.2.2.2.2.2, z105.2.2.2.2.1)
      else
        if (lg_cmp ((z105.2.2.2.2.1 0)) z106.1) = 0 then
          some ((kc + z105.2.2.2.2.2.1), (ks + z105.2.2.2.2.2.2), z105.2.1, z105.2.2.1, z105.2.2.2.1, z106.2.1, z106.2.2.1, z106.2.2.2.1, z106.2.2.2.2.1, z106.2.2.2.2.2.1, z106.2.2.2.2.2.2, z105.2.2.2.2.1)
        else
          none
    else
      none)))
def lpL_law_1999_1546 (sN : Nat) (sF : Nat → Int32) (vn : NiS) (vg : PrS) (m_a : Nat → Int32) (m_fixedSlot : Int32) (m_fixedTarget : Int32) (kc : Nat) (ks : Nat) (vt : ReS) (vu : ReS) (vp : PlS) (m_thrown : Int32) (m_turnsBy : Nat → Int32) (m_inTurnAt : Nat → Int32) (m_isState : Nat → Int32) (m_best : Nat → Int64) (m_seen : Nat → Int32) (m_ways : Nat → Int64) (m_waysNow : Nat → Int64) : Option (Nat × Nat × ReS × ReS × PlS × Int32 × (Nat → Int32) × (Nat → Int32) × (Nat → Int32) × (Nat → Int64) × (Nat → Int32) × (Nat → Int64) × (Nat → Int64)) :=
    ob (pX8_planCount vn vg vt vu vp) (fun z102 =>
    ob (pX9_planCount m_a m_turnsBy m_inTurnAt m_isState m_best m_seen m_fixedSlot m_fixedTarget m_ways m_waysNow) (fun z103 =>
    if (lg_cmp z102.1 z103.1) = 0 then
      some ((kc + z102.2.2.2.2.1), (ks + z102.2.2.2.2.2), z102.2.1, z102.2.2.1, z102.2.2.2.1, (0 : Int32), z103.2.1, z103.2.2.1, z103.2.2.2.1, z103.2.2.2.2.1, z103.2.2.2.2.2.1, z103.2.2.2.2.2.2.1, z103.2.2.2.2.2.2.2)
    else
      none))
def lpL_law_1999_1479 (sN : Nat) (sF : Nat → Int32) (l4 : Int32) (vn : NiS) (vg : PrS) (m_a : Nat → Int32) (kc : Nat) (ks : Nat) (vt : ReS) (vu : ReS) (vp : PlS) (m_thrown : Int32) (m_turnsBy : Nat → Int32) (m_inTurnAt : Nat → Int32) (m_isState : Nat → Int32) (m_best : Nat → Int64) (m_seen : Nat → Int32) (m_fixedSlot : Int32) (m_fixedTarget : Int32) (vo : Nat → Int64) : Option (Nat × Nat × ReS × ReS × PlS × Int32 × (Nat → Int32) × (Nat → Int32) × (Nat → Int32) × (Nat → Int64) × (Nat → Int32) × Int32 × Int32 × (Nat → Int64)) :=
    if ((l4 + (1 : Int32)) < 0 ∨ sN ≤ ((l4 + (1 : Int32))).toNatClampNeg) then none else
    if ((l4 + (2 : Int32)) < 0 ∨ sN ≤ ((l4 + (2 : Int32))).toNatClampNeg) then none else
    ob (pL_planValueWith_1 (sF ((l4 + (1 : Int32))).toNatClampNeg) (sF ((l4 + (2 : Int32))).toNatClampNeg) vn vg vt vu vp vo) (fun z98 =>
    ob (pX9_planValueWith (sF ((l4 + (1 : Int32))).toNatClampNeg) (sF ((l4 + (2 : Int32))).toNatClampNeg) m_a m_turnsBy m_inTurnAt m_isState m_best m_seen m_fixedSlot m_fixedTarget) (fun z99 =>
    ob (pX9_thrown z99.2.1) (fun z100 =>
    if z100 = z98.1 then
      if ¬ z98.1 = 0 then
        some ((kc + z98.2.2.2.2.2.1), (ks + z98.2.2.2.2.2.2), z98.2.1, z98.2.2.1, z98.2.2.2.1, z99.2.1, z99.2.2.2.2.1, z99.2.2.2.2.2.1, z99.2.2.2.2.2.2.1, z99.2.2.2.2.2.2.2.1, z99.2.2.2.2.2.2.2.2, z99.2.2.1, z99.2.2.2.1, z98.2.2.2.2.1)
      else
        if (lg_cmp ((z98.2.2.2.2.1 0)) z99.1) = 0 then
          some ((kc + z98.2.2.2.2.2.1), (ks + z98.2.2.2.2.2.2), z98.2.1, z98.2.2.1, z98.2.2.2.1, z99.2.1, z99.2.2.2.2.1, z99.2.2.2.2.2.1, z99.2.2.2.2.2.2.1, z99.2.2.2.2.2.2.2.1, z99.2.2.2.2.2.2.2.2, z99.2.2.1, z99.2.2.2.1, z98.2.2.2.2.1)
        else
          none
    else
      none)))
def lpL_law_1999_1423 (sN : Nat) (sF : Nat → Int32) (l4 : Int32) (vn : NiS) (vg : PrS) (m_a : Nat → Int32) (m_fixedSlot : Int32) (m_fixedTarget : Int32) (kc : Nat) (ks : Nat) (vt : ReS) (vu : ReS) (vp : PlS) (m_thrown : Int32) (m_turnsBy : Nat → Int32) (m_inTurnAt : Nat → Int32) (m_isState : Nat → Int32) (m_best : Nat → Int64) (m_seen : Nat → Int32) (vo : Nat → Int64) : Option (Nat × Nat × ReS × ReS × PlS × Int32 × (Nat → Int32) × (Nat → Int32) × (Nat → Int32) × (Nat → Int64) × (Nat → Int32) × (Nat → Int64)) :=
    if ((l4 + (1 : Int32)) < 0 ∨ sN ≤ ((l4 + (1 : Int32))).toNatClampNeg) then none else
    ob (pL_planned_1 (sF ((l4 + (1 : Int32))).toNatClampNeg) vn vg vt vu vp vo) (fun z94 =>
    ob (pX9_planned (sF ((l4 + (1 : Int32))).toNatClampNeg) m_a m_turnsBy m_inTurnAt m_isState m_best m_seen m_fixedSlot m_fixedTarget) (fun z95 =>
    ob (pX9_thrown z95.2.1) (fun z96 =>
    if z96 = z94.1 then
      if ¬ z94.1 = 0 then
        some ((kc + z94.2.2.2.2.2.1), (ks + z94.2.2.2.2.2.2), z94.2.1, z94.2.2.1, z94.2.2.2.1, z95.2.1, z95.2.2.1, z95.2.2.2.1, z95.2.2.2.2.1, z95.2.2.2.2.2.1, z95.2.2.2.2.2.2, z94.2.2.2.2.1)
      else
        if (lg_cmp ((z94.2.2.2.2.1 0)) z95.1.toInt64) = 0 then
          some ((kc + z94.2.2.2.2.2.1), (ks + z94.2.2.2.2.2.2), z94.2.1, z94.2.2.1, z94.2.2.2.1, z95.2.1, z95.2.2.1, z95.2.2.2.1, z95.2.2.2.2.1, z95.2.2.2.2.2.1, z95.2.2.2.2.2.2, z94.2.2.2.2.1)
        else
          none
    else
      none)))
def lpL_law_1999_1409 (sN : Nat) (sF : Nat → Int32) (vn : NiS) (vg : PrS) (m_a : Nat → Int32) (m_fixedSlot : Int32) (m_fixedTarget : Int32) (kc : Nat) (ks : Nat) (vt : ReS) (vu : ReS) (vp : PlS) (m_thrown : Int32) (m_turnsBy : Nat → Int32) (m_inTurnAt : Nat → Int32) (m_isState : Nat → Int32) (m_best : Nat → Int64) (m_seen : Nat → Int32) : Option (Nat × Nat × ReS × ReS × PlS × Int32 × (Nat → Int32) × (Nat → Int32) × (Nat → Int32) × (Nat → Int64) × (Nat → Int32)) :=
    ob (pX8_planValue vn vg vt vu vp) (fun z91 =>
    ob (pX9_planValue m_a m_turnsBy m_inTurnAt m_isState m_best m_seen m_fixedSlot m_fixedTarget) (fun z92 =>
    if (lg_cmp z91.1 z92.1) = 0 then
      some ((kc + z91.2.2.2.2.1), (ks + z91.2.2.2.2.2), z91.2.1, z91.2.2.1, z91.2.2.2.1, (0 : Int32), z92.2.1, z92.2.2.1, z92.2.2.2.1, z92.2.2.2.2.1, z92.2.2.2.2.2)
    else
      none))
def lpL_law_1999_1341 (sN : Nat) (sF : Nat → Int32) (l4 : Int32) (vn : NiS) (vg : PrS) (m_a : Nat → Int32) (kc : Nat) (ks : Nat) (m_thrown : Int32) (vo : Nat → Int64) : Option (Nat × Nat × Int32 × (Nat → Int64)) :=
    if ((l4 + (1 : Int32)) < 0 ∨ sN ≤ ((l4 + (1 : Int32))).toNatClampNeg) then none else
    if ((l4 + (2 : Int32)) < 0 ∨ sN ≤ ((l4 + (2 : Int32))).toNatClampNeg) then none else
    ob (pL_past_1 (sF ((l4 + (1 : Int32))).toNatClampNeg) (sF ((l4 + (2 : Int32))).toNatClampNeg) vn vg vo) (fun z87 =>
    ob (pX9_past (sF ((l4 + (1 : Int32))).toNatClampNeg) (sF ((l4 + (2 : Int32))).toNatClampNeg) m_a) (fun z88 =>
    ob (pX9_thrown z88.2) (fun z89 =>
    if z89 = z87.1 then
      if ¬ z87.1 = 0 then
        some ((kc + z87.2.2.1), (ks + z87.2.2.2), z88.2, z87.2.1)
      else
        if (lg_cmp ((z87.2.1 0)) z88.1.toInt64) = 0 then
          some ((kc + z87.2.2.1), (ks + z87.2.2.2), z88.2, z87.2.1)
        else
          none
    else
      none)))
def lpL_law_1999_1285 (sN : Nat) (sF : Nat → Int32) (l4 : Int32) (vn : NiS) (vg : PrS) (m_a : Nat → Int32) (kc : Nat) (ks : Nat) (m_thrown : Int32) (vo : Nat → Int64) : Option (Nat × Nat × Int32 × (Nat → Int64)) :=
    if ((l4 + (1 : Int32)) < 0 ∨ sN ≤ ((l4 + (1 : Int32))).toNatClampNeg) then none else
    ob (pL_exposures_1 (sF ((l4 + (1 : Int32))).toNatClampNeg) vn vg vo) (fun z83 =>
    ob (pX9_exposures (sF ((l4 + (1 : Int32))).toNatClampNeg) m_a) (fun z84 =>
    ob (pX9_thrown z84.2) (fun z85 =>
    if z85 = z83.1 then
      if ¬ z83.1 = 0 then
        some ((kc + z83.2.2.1), (ks + z83.2.2.2), z84.2, z83.2.1)
      else
        if (lg_cmp ((z83.2.1 0)) z84.1.toInt64) = 0 then
          some ((kc + z83.2.2.1), (ks + z83.2.2.2), z84.2, z83.2.1)
        else
          none
    else
      none)))
def lpL_law_1999_1229 (sN : Nat) (sF : Nat → Int32) (l4 : Int32) (vn : NiS) (vg : PrS) (m_a : Nat → Int32) (kc : Nat) (ks : Nat) (m_thrown : Int32) (vo : Nat → Int64) : Option (Nat × Nat × Int32 × (Nat → Int64)) :=
    if ((l4 + (1 : Int32)) < 0 ∨ sN ≤ ((l4 + (1 : Int32))).toNatClampNeg) then none else
    ob (pL_turnsOf_1 (sF ((l4 + (1 : Int32))).toNatClampNeg) vn vg vo) (fun z79 =>
    ob (pX9_turnsOf (sF ((l4 + (1 : Int32))).toNatClampNeg) m_a) (fun z80 =>
    ob (pX9_thrown z80.2) (fun z81 =>
    if z81 = z79.1 then
      if ¬ z79.1 = 0 then
        some ((kc + z79.2.2.1), (ks + z79.2.2.2), z80.2, z79.2.1)
      else
        if (lg_cmp ((z79.2.1 0)) z80.1.toInt64) = 0 then
          some ((kc + z79.2.2.1), (ks + z79.2.2.2), z80.2, z79.2.1)
        else
          none
    else
      none)))
def lpL_law_1999_1216 (sN : Nat) (sF : Nat → Int32) (vn : NiS) (vg : PrS) (m_a : Nat → Int32) (m_thrown : Int32) (m_turnsBy : Nat → Int32) : Option (Int32 × (Nat → Int32)) :=
    ob (pX8_inTurn vn vg) (fun z76 =>
    ob (pX9_inTurn m_a m_turnsBy) (fun z77 =>
    if z76 = z77.1 then
      some ((0 : Int32), z77.2)
    else
      none))
def lpL_law_1999_1205 (sN : Nat) (sF : Nat → Int32) (vn : NiS) (vg : PrS) (vhn : Int32) (vhs : Int32) (vhN : Nat → NiS) (vhP : Nat → PrS) (vt : ReS) (vu : ReS) (vp : PlS) (vq : DeS) (m_a : Nat → Int32) (m_kept : Nat → Int32) (m_keptMany : Int32) (m_thrown : Int32) : Option (PrS × Int32 × Int32 × (Nat → NiS) × (Nat → PrS) × ReS × ReS × PlS × DeS × (Nat → Int32) × (Nat → Int32) × Int32 × Int32) :=
    ob (pX8_restart vn vg vhn vhs vhN vhP) (fun z73 =>
    ob (pX9_restart m_a m_kept m_keptMany) (fun z74 =>
    some (((0 : Int32), (0 : Int32), (0 : Int32), (0 : Int32), (0 : Int32), vg.2.2.2.2.2.1, vg.2.2.2.2.2.2), z73.1, z73.2.1, z73.2.2.1, z73.2.2.2, (vt.1, (0 : Int32), vt.2.2.1, vt.2.2.2.1, vt.2.2.2.2.1, vt.2.2.2.2.2.1, vt.2.2.2.2.2.2.1, vt.2.2.2.2.2.2.2.1, vt.2.2.2.2.2.2.2.2.1, vt.2.2.2.2.2.2.2.2.2), (vu.1, (0 : Int32), vu.2.2.1, vu.2.2.2.1, vu.2.2.2.2.1, vu.2.2.2.2.2.1, vu.2.2.2.2.2.2.1, vu.2.2.2.2.2.2.2.1, vu.2.2.2.2.2.2.2.2.1, vu.2.2.2.2.2.2.2.2.2), (vp.1, vp.2.1, vp.2.2.1, vp.2.2.2.1, vp.2.2.2.2.1, vp.2.2.2.2.2.1, vp.2.2.2.2.2.2.1, vp.2.2.2.2.2.2.2.1, vp.2.2.2.2.2.2.2.2.1, (0 : Int32), vp.2.2.2.2.2.2.2.2.2.2.1, vp.2.2.2.2.2.2.2.2.2.2.2.1, vp.2.2.2.2.2.2.2.2.2.2.2.2), (vq.1, vq.2.1, vq.2.2.1, vq.2.2.2.1, vq.2.2.2.2.1, vq.2.2.2.2.2.1, vq.2.2.2.2.2.2.1, vq.2.2.2.2.2.2.2.1, vq.2.2.2.2.2.2.2.2.1, vq.2.2.2.2.2.2.2.2.2.1, (0 : Int32)), z74.2.1, z74.2.2, z74.1, (0 : Int32))))
def lpL_law_1999_1149 (sN : Nat) (sF : Nat → Int32) (l4 : Int32) (vn : NiS) (kc : Nat) (ks : Nat) (vg : PrS) (vhn : Int32) (vhs : Int32) (vhN : Nat → NiS) (vhP : Nat → PrS) (vt : ReS) (vu : ReS) (vp : PlS) (vq : DeS) (m_a : Nat → Int32) (m_kept : Nat → Int32) (m_keptMany : Int32) (m_thrown : Int32) (m_turnsBy : Nat → Int32) (vo : Nat → Int64) : Option (Nat × Nat × PrS × Int32 × Int32 × (Nat → NiS) × (Nat → PrS) × ReS × ReS × PlS × DeS × (Nat → Int32) × (Nat → Int32) × Int32 × Int32 × (Nat → Int32) × (Nat → Int64)) :=
    if ((l4 + (1 : Int32)) < 0 ∨ sN ≤ ((l4 + (1 : Int32))).toNatClampNeg) then none else
    ob (pL_waive_1 (sF ((l4 + (1 : Int32))).toNatClampNeg) vn vg vhn vhs vhN vhP vt vu vp vq vo) (fun z69 =>
    ob (pX9_waive (sF ((l4 + (1 : Int32))).toNatClampNeg) m_a m_kept m_keptMany m_turnsBy) (fun z70 =>
    ob (pX9_thrown z70.2.2.1) (fun z71 =>
    if z71 = z69.1 then
      if ¬ z69.1 = 0 then
        some ((kc + z69.2.2.2.2.2.2.2.2.2.2.2.1), (ks + z69.2.2.2.2.2.2.2.2.2.2.2.2), z69.2.1, z69.2.2.1, z69.2.2.2.1, z69.2.2.2.2.1, z69.2.2.2.2.2.1, z69.2.2.2.2.2.2.1, z69.2.2.2.2.2.2.2.1, z69.2.2.2.2.2.2.2.2.1, z69.2.2.2.2.2.2.2.2.2.1, z70.2.2.2.1, z70.2.2.2.2.1, z70.2.1, z70.2.2.1, z70.2.2.2.2.2, z69.2.2.2.2.2.2.2.2.2.2.1)
      else
        if (lg_cmp ((z69.2.2.2.2.2.2.2.2.2.2.1 0)) z70.1.toInt64) = 0 then
          some ((kc + z69.2.2.2.2.2.2.2.2.2.2.2.1), (ks + z69.2.2.2.2.2.2.2.2.2.2.2.2), z69.2.1, z69.2.2.1, z69.2.2.2.1, z69.2.2.2.2.1, z69.2.2.2.2.2.1, z69.2.2.2.2.2.2.1, z69.2.2.2.2.2.2.2.1, z69.2.2.2.2.2.2.2.2.1, z69.2.2.2.2.2.2.2.2.2.1, z70.2.2.2.1, z70.2.2.2.2.1, z70.2.1, z70.2.2.1, z70.2.2.2.2.2, z69.2.2.2.2.2.2.2.2.2.2.1)
        else
          none
    else
      none)))
def lpL_law_1999_1105 (sN : Nat) (sF : Nat → Int32) (vn : NiS) (kc : Nat) (ks : Nat) (vg : PrS) (vhn : Int32) (vhs : Int32) (vhN : Nat → NiS) (vhP : Nat → PrS) (vt : ReS) (vu : ReS) (vp : PlS) (vq : DeS) (m_a : Nat → Int32) (m_kept : Nat → Int32) (m_keptMany : Int32) (m_thrown : Int32) (vo : Nat → Int64) : Option (Nat × Nat × PrS × Int32 × Int32 × (Nat → NiS) × (Nat → PrS) × ReS × ReS × PlS × DeS × (Nat → Int32) × (Nat → Int32) × Int32 × Int32 × (Nat → Int64)) :=
    ob (pL_pass_1 vn vg vhn vhs vhN vhP vt vu vp vq vo) (fun z65 =>
    ob (pX9_pass m_a m_kept m_keptMany) (fun z66 =>
    ob (pX9_thrown z66.2.2.1) (fun z67 =>
    if z67 = z65.1 then
      if ¬ z65.1 = 0 then
        some ((kc + z65.2.2.2.2.2.2.2.2.2.2.2.1), (ks + z65.2.2.2.2.2.2.2.2.2.2.2.2), z65.2.1, z65.2.2.1, z65.2.2.2.1, z65.2.2.2.2.1, z65.2.2.2.2.2.1, z65.2.2.2.2.2.2.1, z65.2.2.2.2.2.2.2.1, z65.2.2.2.2.2.2.2.2.1, z65.2.2.2.2.2.2.2.2.2.1, z66.2.2.2.1, z66.2.2.2.2, z66.2.1, z66.2.2.1, z65.2.2.2.2.2.2.2.2.2.2.1)
      else
        if (lg_cmp ((z65.2.2.2.2.2.2.2.2.2.2.1 0)) z66.1.toInt64) = 0 then
          some ((kc + z65.2.2.2.2.2.2.2.2.2.2.2.1), (ks + z65.2.2.2.2.2.2.2.2.2.2.2.2), z65.2.1, z65.2.2.1, z65.2.2.2.1, z65.2.2.2.2.1, z65.2.2.2.2.2.1, z65.2.2.2.2.2.2.1, z65.2.2.2.2.2.2.2.1, z65.2.2.2.2.2.2.2.2.1, z65.2.2.2.2.2.2.2.2.2.1, z66.2.2.2.1, z66.2.2.2.2, z66.2.1, z66.2.2.1, z65.2.2.2.2.2.2.2.2.2.2.1)
        else
          none
    else
      none)))
def lpL_law_1999_1049 (sN : Nat) (sF : Nat → Int32) (l4 : Int32) (vn : NiS) (kc : Nat) (ks : Nat) (vg : PrS) (vhn : Int32) (vhs : Int32) (vhN : Nat → NiS) (vhP : Nat → PrS) (vt : ReS) (vu : ReS) (vp : PlS) (vq : DeS) (m_a : Nat → Int32) (m_kept : Nat → Int32) (m_keptMany : Int32) (m_thrown : Int32) (m_turnsBy : Nat → Int32) (vo : Nat → Int64) : Option (Nat × Nat × PrS × Int32 × Int32 × (Nat → NiS) × (Nat → PrS) × ReS × ReS × PlS × DeS × (Nat → Int32) × (Nat → Int32) × Int32 × Int32 × (Nat → Int32) × (Nat → Int64)) :=
    if ((l4 + (1 : Int32)) < 0 ∨ sN ≤ ((l4 + (1 : Int32))).toNatClampNeg) then none else
    ob (pL_expose_1 (sF ((l4 + (1 : Int32))).toNatClampNeg) vn vg vhn vhs vhN vhP vt vu vp vq vo) (fun z61 =>
    ob (pX9_expose (sF ((l4 + (1 : Int32))).toNatClampNeg) m_a m_kept m_keptMany m_turnsBy) (fun z62 =>
    ob (pX9_thrown z62.2.2.1) (fun z63 =>
    if z63 = z61.1 then
      if ¬ z61.1 = 0 then
        some ((kc + z61.2.2.2.2.2.2.2.2.2.2.2.1), (ks + z61.2.2.2.2.2.2.2.2.2.2.2.2), z61.2.1, z61.2.2.1, z61.2.2.2.1, z61.2.2.2.2.1, z61.2.2.2.2.2.1, z61.2.2.2.2.2.2.1, z61.2.2.2.2.2.2.2.1, z61.2.2.2.2.2.2.2.2.1, z61.2.2.2.2.2.2.2.2.2.1, z62.2.2.2.1, z62.2.2.2.2.1, z62.2.1, z62.2.2.1, z62.2.2.2.2.2, z61.2.2.2.2.2.2.2.2.2.2.1)
      else
        if (lg_cmp ((z61.2.2.2.2.2.2.2.2.2.2.1 0)) z62.1.toInt64) = 0 then
          some ((kc + z61.2.2.2.2.2.2.2.2.2.2.2.1), (ks + z61.2.2.2.2.2.2.2.2.2.2.2.2), z61.2.1, z61.2.2.1, z61.2.2.2.1, z61.2.2.2.2.1, z61.2.2.2.2.2.1, z61.2.2.2.2.2.2.1, z61.2.2.2.2.2.2.2.1, z61.2.2.2.2.2.2.2.2.1, z61.2.2.2.2.2.2.2.2.2.1, z62.2.2.2.1, z62.2.2.2.2.1, z62.2.1, z62.2.2.1, z62.2.2.2.2.2, z61.2.2.2.2.2.2.2.2.2.2.1)
        else
          none
    else
      none)))
def lpL_law_1999_977 (sN : Nat) (sF : Nat → Int32) (l4 : Int32) (vn : NiS) (kc : Nat) (ks : Nat) (vg : PrS) (vhn : Int32) (vhs : Int32) (vhN : Nat → NiS) (vhP : Nat → PrS) (vt : ReS) (vu : ReS) (vp : PlS) (vq : DeS) (m_a : Nat → Int32) (m_kept : Nat → Int32) (m_keptMany : Int32) (m_thrown : Int32) (m_turnsBy : Nat → Int32) (vo : Nat → Int64) : Option (Nat × Nat × PrS × Int32 × Int32 × (Nat → NiS) × (Nat → PrS) × ReS × ReS × PlS × DeS × (Nat → Int32) × (Nat → Int32) × Int32 × Int32 × (Nat → Int32) × (Nat → Int64)) :=
    if ((l4 + (1 : Int32)) < 0 ∨ sN ≤ ((l4 + (1 : Int32))).toNatClampNeg) then none else
    if (sF ((l4 + (1 : Int32))).toNatClampNeg) = 0 then
      ob (pL_look_1 (0 : Int32) vn vg vhn vhs vhN vhP vt vu vp vq vo) (fun z54 =>
      ob (pX9_look (0 : Int32) m_a m_kept m_keptMany m_turnsBy) (fun z55 =>
      ob (pX9_thrown z55.2.2.1) (fun z56 =>
      if z56 = z54.1 then
        if ¬ z54.1 = 0 then
          some ((kc + z54.2.2.2.2.2.2.2.2.2.2.2.1), (ks + z54.2.2.2.2.2.2.2.2.2.2.2.2), z54.2.1, z54.2.2.1, z54.2.2.2.1, z54.2.2.2.2.1, z54.2.2.2.2.2.1, z54.2.2.2.2.2.2.1, z54.2.2.2.2.2.2.2.1, z54.2.2.2.2.2.2.2.2.1, z54.2.2.2.2.2.2.2.2.2.1, z55.2.2.2.1, z55.2.2.2.2.1, z55.2.1, z55.2.2.1, z55.2.2.2.2.2, z54.2.2.2.2.2.2.2.2.2.2.1)
        else
          if (lg_cmp ((z54.2.2.2.2.2.2.2.2.2.2.1 0)) z55.1.toInt64) = 0 then
            some ((kc + z54.2.2.2.2.2.2.2.2.2.2.2.1), (ks + z54.2.2.2.2.2.2.2.2.2.2.2.2), z54.2.1, z54.2.2.1, z54.2.2.2.1, z54.2.2.2.2.1, z54.2.2.2.2.2.1, z54.2.2.2.2.2.2.1, z54.2.2.2.2.2.2.2.1, z54.2.2.2.2.2.2.2.2.1, z54.2.2.2.2.2.2.2.2.2.1, z55.2.2.2.1, z55.2.2.2.2.1, z55.2.1, z55.2.2.1, z55.2.2.2.2.2, z54.2.2.2.2.2.2.2.2.2.2.1)
          else
            none
      else
        none)))
    else
      ob (pL_look_1 (1 : Int32) vn vg vhn vhs vhN vhP vt vu vp vq vo) (fun z57 =>
      ob (pX9_look (1 : Int32) m_a m_kept m_keptMany m_turnsBy) (fun z58 =>
      ob (pX9_thrown z58.2.2.1) (fun z59 =>
      if z59 = z57.1 then
        if ¬ z57.1 = 0 then
          some ((kc + z57.2.2.2.2.2.2.2.2.2.2.2.1), (ks + z57.2.2.2.2.2.2.2.2.2.2.2.2), z57.2.1, z57.2.2.1, z57.2.2.2.1, z57.2.2.2.2.1, z57.2.2.2.2.2.1, z57.2.2.2.2.2.2.1, z57.2.2.2.2.2.2.2.1, z57.2.2.2.2.2.2.2.2.1, z57.2.2.2.2.2.2.2.2.2.1, z58.2.2.2.1, z58.2.2.2.2.1, z58.2.1, z58.2.2.1, z58.2.2.2.2.2, z57.2.2.2.2.2.2.2.2.2.2.1)
        else
          if (lg_cmp ((z57.2.2.2.2.2.2.2.2.2.2.1 0)) z58.1.toInt64) = 0 then
            some ((kc + z57.2.2.2.2.2.2.2.2.2.2.2.1), (ks + z57.2.2.2.2.2.2.2.2.2.2.2.2), z57.2.1, z57.2.2.1, z57.2.2.2.1, z57.2.2.2.2.1, z57.2.2.2.2.2.1, z57.2.2.2.2.2.2.1, z57.2.2.2.2.2.2.2.1, z57.2.2.2.2.2.2.2.2.1, z57.2.2.2.2.2.2.2.2.2.1, z58.2.2.2.1, z58.2.2.2.2.1, z58.2.1, z58.2.2.1, z58.2.2.2.2.2, z57.2.2.2.2.2.2.2.2.2.2.1)
          else
            none
      else
        none)))
def lpL_law_1999_909 (sN : Nat) (sF : Nat → Int32) (l4 : Int32) (vn : NiS) (m_a : Nat → Int32) (kc : Nat) (ks : Nat) (m_thrown : Int32) (vo : Nat → Int64) : Option (Nat × Nat × Int32 × (Nat → Int64)) :=
    if ((l4 + (1 : Int32)) < 0 ∨ sN ≤ ((l4 + (1 : Int32))).toNatClampNeg) then none else
    if ((l4 + (2 : Int32)) < 0 ∨ sN ≤ ((l4 + (2 : Int32))).toNatClampNeg) then none else
    ob (pL_clearRun_1 (sF ((l4 + (1 : Int32))).toNatClampNeg) (sF ((l4 + (2 : Int32))).toNatClampNeg) vn vo) (fun z50 =>
    ob (pX9_clearRun (sF ((l4 + (1 : Int32))).toNatClampNeg) (sF ((l4 + (2 : Int32))).toNatClampNeg) m_a) (fun z51 =>
    ob (pX9_thrown z51.2) (fun z52 =>
    if z52 = z50.1 then
      if ¬ z50.1 = 0 then
        some ((kc + z50.2.2.1), (ks + z50.2.2.2), z51.2, z50.2.1)
      else
        if (lg_cmp ((z50.2.1 0)) z51.1.toInt64) = 0 then
          some ((kc + z50.2.2.1), (ks + z50.2.2.2), z51.2, z50.2.1)
        else
          none
    else
      none)))
def lpL_law_1999_853 (sN : Nat) (sF : Nat → Int32) (l4 : Int32) (vn : NiS) (m_a : Nat → Int32) (kc : Nat) (ks : Nat) (m_thrown : Int32) (vo : Nat → Int64) : Option (Nat × Nat × Int32 × (Nat → Int64)) :=
    if ((l4 + (1 : Int32)) < 0 ∨ sN ≤ ((l4 + (1 : Int32))).toNatClampNeg) then none else
    ob (pL_clearOdds_1 (sF ((l4 + (1 : Int32))).toNatClampNeg) vn vo) (fun z46 =>
    ob (pX9_clearOdds (sF ((l4 + (1 : Int32))).toNatClampNeg) m_a) (fun z47 =>
    ob (pX9_thrown z47.2) (fun z48 =>
    if z48 = z46.1 then
      if ¬ z46.1 = 0 then
        some ((kc + z46.2.2.1), (ks + z46.2.2.2), z47.2, z46.2.1)
      else
        if (lg_cmp ((z46.2.1 0)) z47.1.toInt64) = 0 then
          some ((kc + z46.2.2.1), (ks + z46.2.2.2), z47.2, z46.2.1)
        else
          none
    else
      none)))
def lpL_law_1999_797 (sN : Nat) (sF : Nat → Int32) (l4 : Int32) (vn : NiS) (vg : PrS) (m_a : Nat → Int32) (kc : Nat) (ks : Nat) (m_thrown : Int32) (vo : Nat → Int64) : Option (Nat × Nat × Int32 × (Nat → Int64)) :=
    if ((l4 + (1 : Int32)) < 0 ∨ sN ≤ ((l4 + (1 : Int32))).toNatClampNeg) then none else
    ob (pL_latestStart_1 (sF ((l4 + (1 : Int32))).toNatClampNeg) vn vg vo) (fun z42 =>
    ob (pX9_latestStart (sF ((l4 + (1 : Int32))).toNatClampNeg) m_a) (fun z43 =>
    ob (pX9_thrown z43.2) (fun z44 =>
    if z44 = z42.1 then
      if ¬ z42.1 = 0 then
        some ((kc + z42.2.2.1), (ks + z42.2.2.2), z43.2, z42.2.1)
      else
        if (lg_cmp ((z42.2.1 0)) z43.1.toInt64) = 0 then
          some ((kc + z42.2.2.1), (ks + z42.2.2.2), z43.2, z42.2.1)
        else
          none
    else
      none)))
def lpL_law_1999_741 (sN : Nat) (sF : Nat → Int32) (l4 : Int32) (vn : NiS) (m_a : Nat → Int32) (kc : Nat) (ks : Nat) (m_thrown : Int32) (vo : Nat → Int64) : Option (Nat × Nat × Int32 × (Nat → Int64)) :=
    if ((l4 + (1 : Int32)) < 0 ∨ sN ≤ ((l4 + (1 : Int32))).toNatClampNeg) then none else
    ob (pL_highestSlot_1 (sF ((l4 + (1 : Int32))).toNatClampNeg) vn vo) (fun z38 =>
    ob (pX9_highestSlot (sF ((l4 + (1 : Int32))).toNatClampNeg) m_a) (fun z39 =>
    ob (pX9_thrown z39.2) (fun z40 =>
    if z40 = z38.1 then
      if ¬ z38.1 = 0 then
        some ((kc + z38.2.2.1), (ks + z38.2.2.2), z39.2, z38.2.1)
      else
        if (lg_cmp ((z38.2.1 0)) z39.1.toInt64) = 0 then
          some ((kc + z38.2.2.1), (ks + z38.2.2.2), z39.2, z38.2.1)
        else
          none
    else
      none)))
def lpL_law_1999_685 (sN : Nat) (sF : Nat → Int32) (l4 : Int32) (vn : NiS) (m_a : Nat → Int32) (kc : Nat) (ks : Nat) (m_thrown : Int32) (vo : Nat → Int64) : Option (Nat × Nat × Int32 × (Nat → Int64)) :=
    if ((l4 + (1 : Int32)) < 0 ∨ sN ≤ ((l4 + (1 : Int32))).toNatClampNeg) then none else
    ob (pL_observable_1 (sF ((l4 + (1 : Int32))).toNatClampNeg) vn vo) (fun z34 =>
    ob (pX9_observable (sF ((l4 + (1 : Int32))).toNatClampNeg) m_a) (fun z35 =>
    ob (pX9_thrown z35.2) (fun z36 =>
    if z36 = z34.1 then
      if ¬ z34.1 = 0 then
        some ((kc + z34.2.2.1), (ks + z34.2.2.2), z35.2, z34.2.1)
      else
        if (lg_cmp ((z34.2.1 0)) z35.1.toInt64) = 0 then
          some ((kc + z34.2.2.1), (ks + z34.2.2.2), z35.2, z34.2.1)
        else
          none
    else
      none)))
def lpL_law_1999_629 (sN : Nat) (sF : Nat → Int32) (l4 : Int32) (vn : NiS) (m_a : Nat → Int32) (kc : Nat) (ks : Nat) (m_thrown : Int32) (vo : Nat → Int64) : Option (Nat × Nat × Int32 × (Nat → Int64)) :=
    if ((l4 + (1 : Int32)) < 0 ∨ sN ≤ ((l4 + (1 : Int32))).toNatClampNeg) then none else
    ob (pL_window_1 (sF ((l4 + (1 : Int32))).toNatClampNeg) vn vo) (fun z30 =>
    ob (pX9_window (sF ((l4 + (1 : Int32))).toNatClampNeg) m_a) (fun z31 =>
    ob (pX9_thrown z31.2) (fun z32 =>
    if z32 = z30.1 then
      if ¬ z30.1 = 0 then
        some ((kc + z30.2.2.1), (ks + z30.2.2.2), z31.2, z30.2.1)
      else
        if (lg_cmp ((z30.2.1 0)) z31.1.toInt64) = 0 then
          some ((kc + z30.2.2.1), (ks + z30.2.2.2), z31.2, z30.2.1)
        else
          none
    else
      none)))
def lpL_law_1999_561 (sN : Nat) (sF : Nat → Int32) (l4 : Int32) (vn : NiS) (m_a : Nat → Int32) (kc : Nat) (ks : Nat) (m_thrown : Int32) (vo : Nat → Int64) : Option (Nat × Nat × Int32 × (Nat → Int64)) :=
    if ((l4 + (1 : Int32)) < 0 ∨ sN ≤ ((l4 + (1 : Int32))).toNatClampNeg) then none else
    if ((l4 + (2 : Int32)) < 0 ∨ sN ≤ ((l4 + (2 : Int32))).toNatClampNeg) then none else
    ob (pL_moonDistance_1 (sF ((l4 + (1 : Int32))).toNatClampNeg) (sF ((l4 + (2 : Int32))).toNatClampNeg) vn vo) (fun z26 =>
    ob (pX9_moonDistance (sF ((l4 + (1 : Int32))).toNatClampNeg) (sF ((l4 + (2 : Int32))).toNatClampNeg) m_a) (fun z27 =>
    ob (pX9_thrown z27.2) (fun z28 =>
    if z28 = z26.1 then
      if ¬ z26.1 = 0 then
        some ((kc + z26.2.2.1), (ks + z26.2.2.2), z27.2, z26.2.1)
      else
        if (lg_cmp ((z26.2.1 0)) z27.1.toInt64) = 0 then
          some ((kc + z26.2.2.1), (ks + z26.2.2.2), z27.2, z26.2.1)
        else
          none
    else
      none)))
def lpL_law_1999_505 (sN : Nat) (sF : Nat → Int32) (l4 : Int32) (vn : NiS) (m_a : Nat → Int32) (kc : Nat) (ks : Nat) (m_thrown : Int32) (vo : Nat → Int64) : Option (Nat × Nat × Int32 × (Nat → Int64)) :=
    if ((l4 + (1 : Int32)) < 0 ∨ sN ≤ ((l4 + (1 : Int32))).toNatClampNeg) then none else
    ob (pL_moonHeight_1 (sF ((l4 + (1 : Int32))).toNatClampNeg) vn vo) (fun z22 =>
    ob (pX9_moonHeight (sF ((l4 + (1 : Int32))).toNatClampNeg) m_a) (fun z23 =>
    ob (pX9_thrown z23.2) (fun z24 =>
    if z24 = z22.1 then
      if ¬ z22.1 = 0 then
        some ((kc + z22.2.2.1), (ks + z22.2.2.2), z23.2, z22.2.1)
      else
        if (lg_cmp ((z22.2.1 0)) z23.1.toInt64) = 0 then
          some ((kc + z22.2.2.1), (ks + z22.2.2.2), z23.2, z22.2.1)
        else
          none
    else
      none)))
def lpL_law_1999_437 (sN : Nat) (sF : Nat → Int32) (l4 : Int32) (vn : NiS) (m_a : Nat → Int32) (kc : Nat) (ks : Nat) (m_thrown : Int32) (vo : Nat → Int64) : Option (Nat × Nat × Int32 × (Nat → Int64)) :=
    if ((l4 + (1 : Int32)) < 0 ∨ sN ≤ ((l4 + (1 : Int32))).toNatClampNeg) then none else
    if ((l4 + (2 : Int32)) < 0 ∨ sN ≤ ((l4 + (2 : Int32))).toNatClampNeg) then none else
    ob (pL_height_1 (sF ((l4 + (1 : Int32))).toNatClampNeg) (sF ((l4 + (2 : Int32))).toNatClampNeg) vn vo) (fun z18 =>
    ob (pX9_height (sF ((l4 + (1 : Int32))).toNatClampNeg) (sF ((l4 + (2 : Int32))).toNatClampNeg) m_a) (fun z19 =>
    ob (pX9_thrown z19.2) (fun z20 =>
    if z20 = z18.1 then
      if ¬ z18.1 = 0 then
        some ((kc + z18.2.2.1), (ks + z18.2.2.2), z19.2, z18.2.1)
      else
        if (lg_cmp ((z18.2.1 0)) z19.1.toInt64) = 0 then
          some ((kc + z18.2.2.1), (ks + z18.2.2.2), z19.2, z18.2.1)
        else
          none
    else
      none)))
def lpL_law_1999_381 (sN : Nat) (sF : Nat → Int32) (l4 : Int32) (vn : NiS) (vg : PrS) (m_a : Nat → Int32) (kc : Nat) (ks : Nat) (m_thrown : Int32) (vo : Nat → Int64) : Option (Nat × Nat × Int32 × (Nat → Int64)) :=
    if ((l4 + (1 : Int32)) < 0 ∨ sN ≤ ((l4 + (1 : Int32))).toNatClampNeg) then none else
    ob (pL_count_1 (sF ((l4 + (1 : Int32))).toNatClampNeg) vn vg vo) (fun z14 =>
    ob (pX9_count (sF ((l4 + (1 : Int32))).toNatClampNeg) m_a) (fun z15 =>
    ob (pX9_thrown z15.2) (fun z16 =>
    if z16 = z14.1 then
      if ¬ z14.1 = 0 then
        some ((kc + z14.2.2.1), (ks + z14.2.2.2), z15.2, z14.2.1)
      else
        if (lg_cmp ((z14.2.1 0)) z15.1.toInt64) = 0 then
          some ((kc + z14.2.2.1), (ks + z14.2.2.2), z15.2, z14.2.1)
        else
          none
    else
      none)))
def lpL_law_1999_368 (sN : Nat) (sF : Nat → Int32) (ve : Int32) (m_errorAt : Int32) (m_thrown : Int32) : Option (Int32) :=
    ob (pX8_errorPosition ve) (fun z11 =>
    ob (pX9_errorPosition m_errorAt) (fun z12 =>
    if z11 = z12 then
      some (0 : Int32)
    else
      none))
def lpL_law_1999_312 (sN : Nat) (sF : Nat → Int32) (l4 : Int32) (m_buffer : Nat → Int32) (kc : Nat) (ks : Nat) (vr : RdS) (vd : NiS) (vn : NiS) (vg : PrS) (vhn : Int32) (vhs : Int32) (vhN : Nat → NiS) (vhP : Nat → PrS) (vt : ReS) (vu : ReS) (vp : PlS) (vq : DeS) (ve : Int32) (m_a : Nat → Int32) (m_fresh : Nat → Int32) (m_kept : Nat → Int32) (m_keptMany : Int32) (m_thrown : Int32) (m_buffered : Int32) (m_size : Int32) (m_at : Int32) (m_behind : Int32) (m_kind : Int32) (m_wrong : Int32) (m_wrongAt : Int32) (m_errorAt : Int32) (m_number : Int64) (m_hasMoon : Int32) (m_hasSky : Int32) (vo : Nat → Int64) : Option (Nat × Nat × RdS × NiS × NiS × PrS × Int32 × Int32 × (Nat → NiS) × (Nat → PrS) × ReS × ReS × PlS × DeS × Int32 × (Nat → Int32) × (Nat → Int32) × (Nat → Int32) × Int32 × Int32 × Int32 × Int32 × Int32 × Int32 × Int32 × Int32 × Int32 × Int32 × Int64 × Int32 × Int32 × (Nat → Int64)) :=
    if ((l4 + (1 : Int32)) < 0 ∨ sN ≤ ((l4 + (1 : Int32))).toNatClampNeg) then none else
    ob (pL_load_1 (sF ((l4 + (1 : Int32))).toNatClampNeg) vr vd vn vg vhn vhs vhN vhP vt vu vp vq ve vo) (fun z7 =>
    ob (pX9_load (sF ((l4 + (1 : Int32))).toNatClampNeg) m_a m_fresh m_kept m_keptMany m_buffer m_buffered m_size m_at m_behind m_kind m_wrong m_wrongAt m_errorAt m_number m_hasMoon m_hasSky) (fun z8 =>
    ob (pX9_thrown z8.2.2.1) (fun z9 =>
    if z9 = z7.1 then
      if ¬ z7.1 = 0 then
        some ((kc + z7.2.2.2.2.2.2.2.2.2.2.2.2.2.2.2.1), (ks + z7.2.2.2.2.2.2.2.2.2.2.2.2.2.2.2.2), z7.2.2.1, z7.2.2.2.1, z7.2.2.2.2.1, z7.2.2.2.2.2.1, z7.2.2.2.2.2.2.1, z7.2.2.2.2.2.2.2.1, z7.2.2.2.2.2.2.2.2.1, z7.2.2.2.2.2.2.2.2.2.1, z7.2.2.2.2.2.2.2.2.2.2.1, z7.2.2.2.2.2.2.2.2.2.2.2.1, z7.2.2.2.2.2.2.2.2.2.2.2.2.1, z7.2.2.2.2.2.2.2.2.2.2.2.2.2.1, z7.2.1, z8.2.2.2.2.2.2.2.2.2.2.2.2.2.2.1, z8.2.2.2.2.2.2.2.2.2.2.2.2.2.2.2.1, z8.2.2.2.2.2.2.2.2.2.2.2.2.2.2.2.2, z8.2.1, z8.2.2.1, z8.2.2.2.1, z8.2.2.2.2.1, z8.2.2.2.2.2.1, z8.2.2.2.2.2.2.1, z8.2.2.2.2.2.2.2.1, z8.2.2.2.2.2.2.2.2.1, z8.2.2.2.2.2.2.2.2.2.1, z8.2.2.2.2.2.2.2.2.2.2.1, z8.2.2.2.2.2.2.2.2.2.2.2.1, z8.2.2.2.2.2.2.2.2.2.2.2.2.1, z8.2.2.2.2.2.2.2.2.2.2.2.2.2.1, z7.2.2.2.2.2.2.2.2.2.2.2.2.2.2.1)
      else
        if (lg_cmp ((z7.2.2.2.2.2.2.2.2.2.2.2.2.2.2.1 0)) z8.1.toInt64) = 0 then
          some ((kc + z7.2.2.2.2.2.2.2.2.2.2.2.2.2.2.2.1), (ks + z7.2.2.2.2.2.2.2.2.2.2.2.2.2.2.2.2), z7.2.2.1, z7.2.2.2.1, z7.2.2.2.2.1, z7.2.2.2.2.2.1, z7.2.2.2.2.2.2.1, z7.2.2.2.2.2.2.2.1, z7.2.2.2.2.2.2.2.2.1, z7.2.2.2.2.2.2.2.2.2.1, z7.2.2.2.2.2.2.2.2.2.2.1, z7.2.2.2.2.2.2.2.2.2.2.2.1, z7.2.2.2.2.2.2.2.2.2.2.2.2.1, z7.2.2.2.2.2.2.2.2.2.2.2.2.2.1, z7.2.1, z8.2.2.2.2.2.2.2.2.2.2.2.2.2.2.1, z8.2.2.2.2.2.2.2.2.2.2.2.2.2.2.2.1, z8.2.2.2.2.2.2.2.2.2.2.2.2.2.2.2.2, z8.2.1, z8.2.2.1, z8.2.2.2.1, z8.2.2.2.2.1, z8.2.2.2.2.2.1, z8.2.2.2.2.2.2.1, z8.2.2.2.2.2.2.2.1, z8.2.2.2.2.2.2.2.2.1, z8.2.2.2.2.2.2.2.2.2.1, z8.2.2.2.2.2.2.2.2.2.2.1, z8.2.2.2.2.2.2.2.2.2.2.2.1, z8.2.2.2.2.2.2.2.2.2.2.2.2.1, z8.2.2.2.2.2.2.2.2.2.2.2.2.2.1, z7.2.2.2.2.2.2.2.2.2.2.2.2.2.2.1)
        else
          none
    else
      none)))
def lpL_law_1999_208 (sN : Nat) (sF : Nat → Int32) (l4 : Int32) (kc : Nat) (ks : Nat) (vr : RdS) (m_thrown : Int32) (m_buffer : Nat → Int32) (m_buffered : Int32) (vo : Nat → Int64) : Option (Nat × Nat × RdS × Int32 × (Nat → Int32) × Int32 × (Nat → Int64)) :=
    if ((l4 + (1 : Int32)) < 0 ∨ sN ≤ ((l4 + (1 : Int32))).toNatClampNeg) then none else
    if ((l4 + (2 : Int32)) < 0 ∨ sN ≤ ((l4 + (2 : Int32))).toNatClampNeg) then none else
    if ((l4 + (3 : Int32)) < 0 ∨ sN ≤ ((l4 + (3 : Int32))).toNatClampNeg) then none else
    if ((l4 + (4 : Int32)) < 0 ∨ sN ≤ ((l4 + (4 : Int32))).toNatClampNeg) then none else
    if ((l4 + (5 : Int32)) < 0 ∨ sN ≤ ((l4 + (5 : Int32))).toNatClampNeg) then none else
    ob (pL_append_1 (sF ((l4 + (1 : Int32))).toNatClampNeg) (sF ((l4 + (2 : Int32))).toNatClampNeg) (sF ((l4 + (3 : Int32))).toNatClampNeg) (sF ((l4 + (4 : Int32))).toNatClampNeg) (sF ((l4 + (5 : Int32))).toNatClampNeg) vr vo) (fun z3 =>
    ob (pX9_append (sF ((l4 + (1 : Int32))).toNatClampNeg) (sF ((l4 + (2 : Int32))).toNatClampNeg) (sF ((l4 + (3 : Int32))).toNatClampNeg) (sF ((l4 + (4 : Int32))).toNatClampNeg) (sF ((l4 + (5 : Int32))).toNatClampNeg) m_buffer m_buffered) (fun z4 =>
    ob (pX9_thrown z4.2.1) (fun z5 =>
    if z5 = z3.1 then
      if ¬ z3.1 = 0 then
        some ((kc + z3.2.2.2.1), (ks + z3.2.2.2.2), z3.2.1, z4.2.1, z4.2.2.2, z4.2.2.1, z3.2.2.1)
      else
        if (lg_cmp ((z3.2.2.1 0)) z4.1.toInt64) = 0 then
          some ((kc + z3.2.2.2.1), (ks + z3.2.2.2.2), z3.2.1, z4.2.1, z4.2.2.2, z4.2.2.1, z3.2.2.1)
        else
          none
    else
      none)))
def lpL_law_1999_23 (sN : Nat) (sF : Nat → Int32) : Nat → Int32 → Nat → Nat → RdS → NiS → NiS → PrS → Int32 → Int32 → (Nat → NiS) → (Nat → PrS) → ReS → ReS → PlS → DeS → Int32 → (Nat → Int32) → (Nat → Int32) → (Nat → Int32) → Int32 → Int32 → (Nat → Int32) → Int32 → Int32 → Int32 → Int32 → Int32 → Int32 → Int32 → Int32 → Int64 → Int32 → Int32 → (Nat → Int32) → (Nat → Int32) → (Nat → Int32) → (Nat → Int64) → (Nat → Int32) → Int32 → Int32 → (Nat → Int64) → (Nat → Int64) → (Nat → Int64) → (Nat → Int64) → (Nat → Int64) → (Nat → Int64) → (Nat → Int64) → (Nat → Int64) → (Nat → Int64) → (Nat → Int64) → Int32 → Int32 → (Nat → Int64) → Option (Int32 × Nat × Nat × RdS × NiS × NiS × PrS × Int32 × Int32 × (Nat → NiS) × (Nat → PrS) × ReS × ReS × PlS × DeS × Int32 × (Nat → Int32) × (Nat → Int32) × (Nat → Int32) × Int32 × Int32 × (Nat → Int32) × Int32 × Int32 × Int32 × Int32 × Int32 × Int32 × Int32 × Int32 × Int64 × Int32 × Int32 × (Nat → Int32) × (Nat → Int32) × (Nat → Int32) × (Nat → Int64) × (Nat → Int32) × Int32 × Int32 × (Nat → Int64) × (Nat → Int64) × (Nat → Int64) × (Nat → Int64) × (Nat → Int64) × (Nat → Int64) × (Nat → Int64) × (Nat → Int64) × (Nat → Int64) × (Nat → Int64) × Int32 × Int32 × (Nat → Int64))
  | 0, _, _, _, _, _, _, _, _, _, _, _, _, _, _, _, _, _, _, _, _, _, _, _, _, _, _, _, _, _, _, _, _, _, _, _, _, _, _, _, _, _, _, _, _, _, _, _, _, _, _, _, _, _ => none
  | fu + 1, l4, kc, ks, vr, vd, vn, vg, vhn, vhs, vhN, vhP, vt, vu, vp, vq, ve, m_a, m_fresh, m_kept, m_keptMany, m_thrown, m_buffer, m_buffered, m_size, m_at, m_behind, m_kind, m_wrong, m_wrongAt, m_errorAt, m_number, m_hasMoon, m_hasSky, m_turnsBy, m_inTurnAt, m_isState, m_best, m_seen, m_fixedSlot, m_fixedTarget, m_ways, m_waysNow, m_clears, m_clouds, m_clearsNow, m_cloudsNow, m_givesClear, m_givesCloudy, m_givesClearNow, m_givesCloudyNow, m_giving, m_givenTarget, vo =>
    if ((nI sN) - (6 : Int32)) < l4 then
      some (l4, kc, ks, vr, vd, vn, vg, vhn, vhs, vhN, vhP, vt, vu, vp, vq, ve, m_a, m_fresh, m_kept, m_keptMany, m_thrown, m_buffer, m_buffered, m_size, m_at, m_behind, m_kind, m_wrong, m_wrongAt, m_errorAt, m_number, m_hasMoon, m_hasSky, m_turnsBy, m_inTurnAt, m_isState, m_best, m_seen, m_fixedSlot, m_fixedTarget, m_ways, m_waysNow, m_clears, m_clouds, m_clearsNow, m_cloudsNow, m_givesClear, m_givesCloudy, m_givesClearNow, m_givesCloudyNow, m_giving, m_givenTarget, vo)
    else
      if (l4 < 0 ∨ sN ≤ l4.toNatClampNeg) then none else
      if ((sF l4.toNatClampNeg) &&& (63 : Int32)) = (0 : Int32) then
        ob (lpL_law_1999_208 sN sF l4 kc ks vr m_thrown m_buffer m_buffered vo) (fun z6 =>
        lpL_law_1999_23 sN sF fu (l4 + (6 : Int32)) z6.1 z6.2.1 z6.2.2.1 vd vn vg vhn vhs vhN vhP vt vu vp vq ve m_a m_fresh m_kept m_keptMany z6.2.2.2.1 z6.2.2.2.2.1 z6.2.2.2.2.2.1 m_size m_at m_behind m_kind m_wrong m_wrongAt m_errorAt m_number m_hasMoon m_hasSky m_turnsBy m_inTurnAt m_isState m_best m_seen m_fixedSlot m_fixedTarget m_ways m_waysNow m_clears m_clouds m_clearsNow m_cloudsNow m_givesClear m_givesCloudy m_givesClearNow m_givesCloudyNow m_giving m_givenTarget z6.2.2.2.2.2.2)
      else if ((sF l4.toNatClampNeg) &&& (63 : Int32)) = (1 : Int32) then
        ob (lpL_law_1999_312 sN sF l4 m_buffer kc ks vr vd vn vg vhn vhs vhN vhP vt vu vp vq ve m_a m_fresh m_kept m_keptMany m_thrown m_buffered m_size m_at m_behind m_kind m_wrong m_wrongAt m_errorAt m_number m_hasMoon m_hasSky vo) (fun z10 =>
        lpL_law_1999_23 sN sF fu (l4 + (6 : Int32)) z10.1 z10.2.1 z10.2.2.1 z10.2.2.2.1 z10.2.2.2.2.1 z10.2.2.2.2.2.1 z10.2.2.2.2.2.2.1 z10.2.2.2.2.2.2.2.1 z10.2.2.2.2.2.2.2.2.1 z10.2.2.2.2.2.2.2.2.2.1 z10.2.2.2.2.2.2.2.2.2.2.1 z10.2.2.2.2.2.2.2.2.2.2.2.1 z10.2.2.2.2.2.2.2.2.2.2.2.2.1 z10.2.2.2.2.2.2.2.2.2.2.2.2.2.1 z10.2.2.2.2.2.2.2.2.2.2.2.2.2.2.1 z10.2.2.2.2.2.2.2.2.2.2.2.2.2.2.2.1 z10.2.2.2.2.2.2.2.2.2.2.2.2.2.2.2.2.1 z10.2.2.2.2.2.2.2.2.2.2.2.2.2.2.2.2.2.1 z10.2.2.2.2.2.2.2.2.2.2.2.2.2.2.2.2.2.2.1 z10.2.2.2.2.2.2.2.2.2.2.2.2.2.2.2.2.2.2.2.1 m_buffer z10.2.2.2.2.2.2.2.2.2.2.2.2.2.2.2.2.2.2.2.2.1 z10.2.2.2.2.2.2.2.2.2.2.2.2.2.2.2.2.2.2.2.2.2.1 z10.2.2.2.2.2.2.2.2.2.2.2.2.2.2.2.2.2.2.2.2.2.2.1 z10.2.2.2.2.2.2.2.2.2.2.2.2.2.2.2.2.2.2.2.2.2.2.2.1 z10.2.2.2.2.2.2.2.2.2.2.2.2.2.2.2.2.2.2.2.2.2.2.2.2.1 z10.2.2.2.2.2.2.2.2.2.2.2.2.2.2.2.2.2.2.2.2.2.2.2.2.2.1 z10.2.2.2.2.2.2.2.2.2.2.2.2.2.2.2.2.2.2.2.2.2.2.2.2.2.2.1 z10.2.2.2.2.2.2.2.2.2.2.2.2.2.2.2.2.2.2.2.2.2.2.2.2.2.2.2.1 z10.2.2.2.2.2.2.2.2.2.2.2.2.2.2.2.2.2.2.2.2.2.2.2.2.2.2.2.2.1 z10.2.2.2.2.2.2.2.2.2.2.2.2.2.2.2.2.2.2.2.2.2.2.2.2.2.2.2.2.2.1 z10.2.2.2.2.2.2.2.2.2.2.2.2.2.2.2.2.2.2.2.2.2.2.2.2.2.2.2.2.2.2.1 m_turnsBy m_inTurnAt m_isState m_best m_seen m_fixedSlot m_fixedTarget m_ways m_waysNow m_clears m_clouds m_clearsNow m_cloudsNow m_givesClear m_givesCloudy m_givesClearNow m_givesCloudyNow m_giving m_givenTarget z10.2.2.2.2.2.2.2.2.2.2.2.2.2.2.2.2.2.2.2.2.2.2.2.2.2.2.2.2.2.2.2)
      else if ((sF l4.toNatClampNeg) &&& (63 : Int32)) = (2 : Int32) then
        ob (lpL_law_1999_368 sN sF ve m_errorAt m_thrown) (fun z13 =>
        lpL_law_1999_23 sN sF fu (l4 + (6 : Int32)) kc ks vr vd vn vg vhn vhs vhN vhP vt vu vp vq ve m_a m_fresh m_kept m_keptMany z13 m_buffer m_buffered m_size m_at m_behind m_kind m_wrong m_wrongAt m_errorAt m_number m_hasMoon m_hasSky m_turnsBy m_inTurnAt m_isState m_best m_seen m_fixedSlot m_fixedTarget m_ways m_waysNow m_clears m_clouds m_clearsNow m_cloudsNow m_givesClear m_givesCloudy m_givesClearNow m_givesCloudyNow m_giving m_givenTarget vo)
      else if ((sF l4.toNatClampNeg) &&& (63 : Int32)) = (3 : Int32) then
        ob (lpL_law_1999_381 sN sF l4 vn vg m_a kc ks m_thrown vo) (fun z17 =>
        lpL_law_1999_23 sN sF fu (l4 + (6 : Int32)) z17.1 z17.2.1 vr vd vn vg vhn vhs vhN vhP vt vu vp vq ve m_a m_fresh m_kept m_keptMany z17.2.2.1 m_buffer m_buffered m_size m_at m_behind m_kind m_wrong m_wrongAt m_errorAt m_number m_hasMoon m_hasSky m_turnsBy m_inTurnAt m_isState m_best m_seen m_fixedSlot m_fixedTarget m_ways m_waysNow m_clears m_clouds m_clearsNow m_cloudsNow m_givesClear m_givesCloudy m_givesClearNow m_givesCloudyNow m_giving m_givenTarget z17.2.2.2)
      else if ((sF l4.toNatClampNeg) &&& (63 : Int32)) = (4 : Int32) then
        ob (lpL_law_1999_437 sN sF l4 vn m_a kc ks m_thrown vo) (fun z21 =>
        lpL_law_1999_23 sN sF fu (l4 + (6 : Int32)) z21.1 z21.2.1 vr vd vn vg vhn vhs vhN vhP vt vu vp vq ve m_a m_fresh m_kept m_keptMany z21.2.2.1 m_buffer m_buffered m_size m_at m_behind m_kind m_wrong m_wrongAt m_errorAt m_number m_hasMoon m_hasSky m_turnsBy m_inTurnAt m_isState m_best m_seen m_fixedSlot m_fixedTarget m_ways m_waysNow m_clears m_clouds m_clearsNow m_cloudsNow m_givesClear m_givesCloudy m_givesClearNow m_givesCloudyNow m_giving m_givenTarget z21.2.2.2)
      else if ((sF l4.toNatClampNeg) &&& (63 : Int32)) = (5 : Int32) then
        ob (lpL_law_1999_505 sN sF l4 vn m_a kc ks m_thrown vo) (fun z25 =>
        lpL_law_1999_23 sN sF fu (l4 + (6 : Int32)) z25.1 z25.2.1 vr vd vn vg vhn vhs vhN vhP vt vu vp vq ve m_a m_fresh m_kept m_keptMany z25.2.2.1 m_buffer m_buffered m_size m_at m_behind m_kind m_wrong m_wrongAt m_errorAt m_number m_hasMoon m_hasSky m_turnsBy m_inTurnAt m_isState m_best m_seen m_fixedSlot m_fixedTarget m_ways m_waysNow m_clears m_clouds m_clearsNow m_cloudsNow m_givesClear m_givesCloudy m_givesClearNow m_givesCloudyNow m_giving m_givenTarget z25.2.2.2)
      else if ((sF l4.toNatClampNeg) &&& (63 : Int32)) = (6 : Int32) then
        ob (lpL_law_1999_561 sN sF l4 vn m_a kc ks m_thrown vo) (fun z29 =>
        lpL_law_1999_23 sN sF fu (l4 + (6 : Int32)) z29.1 z29.2.1 vr vd vn vg vhn vhs vhN vhP vt vu vp vq ve m_a m_fresh m_kept m_keptMany z29.2.2.1 m_buffer m_buffered m_size m_at m_behind m_kind m_wrong m_wrongAt m_errorAt m_number m_hasMoon m_hasSky m_turnsBy m_inTurnAt m_isState m_best m_seen m_fixedSlot m_fixedTarget m_ways m_waysNow m_clears m_clouds m_clearsNow m_cloudsNow m_givesClear m_givesCloudy m_givesClearNow m_givesCloudyNow m_giving m_givenTarget z29.2.2.2)
      else if ((sF l4.toNatClampNeg) &&& (63 : Int32)) = (7 : Int32) then
        ob (lpL_law_1999_629 sN sF l4 vn m_a kc ks m_thrown vo) (fun z33 =>
        lpL_law_1999_23 sN sF fu (l4 + (6 : Int32)) z33.1 z33.2.1 vr vd vn vg vhn vhs vhN vhP vt vu vp vq ve m_a m_fresh m_kept m_keptMany z33.2.2.1 m_buffer m_buffered m_size m_at m_behind m_kind m_wrong m_wrongAt m_errorAt m_number m_hasMoon m_hasSky m_turnsBy m_inTurnAt m_isState m_best m_seen m_fixedSlot m_fixedTarget m_ways m_waysNow m_clears m_clouds m_clearsNow m_cloudsNow m_givesClear m_givesCloudy m_givesClearNow m_givesCloudyNow m_giving m_givenTarget z33.2.2.2)
      else if ((sF l4.toNatClampNeg) &&& (63 : Int32)) = (8 : Int32) then
        ob (lpL_law_1999_685 sN sF l4 vn m_a kc ks m_thrown vo) (fun z37 =>
        lpL_law_1999_23 sN sF fu (l4 + (6 : Int32)) z37.1 z37.2.1 vr vd vn vg vhn vhs vhN vhP vt vu vp vq ve m_a m_fresh m_kept m_keptMany z37.2.2.1 m_buffer m_buffered m_size m_at m_behind m_kind m_wrong m_wrongAt m_errorAt m_number m_hasMoon m_hasSky m_turnsBy m_inTurnAt m_isState m_best m_seen m_fixedSlot m_fixedTarget m_ways m_waysNow m_clears m_clouds m_clearsNow m_cloudsNow m_givesClear m_givesCloudy m_givesClearNow m_givesCloudyNow m_giving m_givenTarget z37.2.2.2)
      else if ((sF l4.toNatClampNeg) &&& (63 : Int32)) = (9 : Int32) then
        ob (lpL_law_1999_741 sN sF l4 vn m_a kc ks m_thrown vo) (fun z41 =>
        lpL_law_1999_23 sN sF fu (l4 + (6 : Int32)) z41.1 z41.2.1 vr vd vn vg vhn vhs vhN vhP vt vu vp vq ve m_a m_fresh m_kept m_keptMany z41.2.2.1 m_buffer m_buffered m_size m_at m_behind m_kind m_wrong m_wrongAt m_errorAt m_number m_hasMoon m_hasSky m_turnsBy m_inTurnAt m_isState m_best m_seen m_fixedSlot m_fixedTarget m_ways m_waysNow m_clears m_clouds m_clearsNow m_cloudsNow m_givesClear m_givesCloudy m_givesClearNow m_givesCloudyNow m_giving m_givenTarget z41.2.2.2)
      else if ((sF l4.toNatClampNeg) &&& (63 : Int32)) = (10 : Int32) then
        ob (lpL_law_1999_797 sN sF l4 vn vg m_a kc ks m_thrown vo) (fun z45 =>
        lpL_law_1999_23 sN sF fu (l4 + (6 : Int32)) z45.1 z45.2.1 vr vd vn vg vhn vhs vhN vhP vt vu vp vq ve m_a m_fresh m_kept m_keptMany z45.2.2.1 m_buffer m_buffered m_size m_at m_behind m_kind m_wrong m_wrongAt m_errorAt m_number m_hasMoon m_hasSky m_turnsBy m_inTurnAt m_isState m_best m_seen m_fixedSlot m_fixedTarget m_ways m_waysNow m_clears m_clouds m_clearsNow m_cloudsNow m_givesClear m_givesCloudy m_givesClearNow m_givesCloudyNow m_giving m_givenTarget z45.2.2.2)
      else if ((sF l4.toNatClampNeg) &&& (63 : Int32)) = (11 : Int32) then
        ob (lpL_law_1999_853 sN sF l4 vn m_a kc ks m_thrown vo) (fun z49 =>
        lpL_law_1999_23 sN sF fu (l4 + (6 : Int32)) z49.1 z49.2.1 vr vd vn vg vhn vhs vhN vhP vt vu vp vq ve m_a m_fresh m_kept m_keptMany z49.2.2.1 m_buffer m_buffered m_size m_at m_behind m_kind m_wrong m_wrongAt m_errorAt m_number m_hasMoon m_hasSky m_turnsBy m_inTurnAt m_isState m_best m_seen m_fixedSlot m_fixedTarget m_ways m_waysNow m_clears m_clouds m_clearsNow m_cloudsNow m_givesClear m_givesCloudy m_givesClearNow m_givesCloudyNow m_giving m_givenTarget z49.2.2.2)
      else if ((sF l4.toNatClampNeg) &&& (63 : Int32)) = (12 : Int32) then
        ob (lpL_law_1999_909 sN sF l4 vn m_a kc ks m_thrown vo) (fun z53 =>
        lpL_law_1999_23 sN sF fu (l4 + (6 : Int32)) z53.1 z53.2.1 vr vd vn vg vhn vhs vhN vhP vt vu vp vq ve m_a m_fresh m_kept m_keptMany z53.2.2.1 m_buffer m_buffered m_size m_at m_behind m_kind m_wrong m_wrongAt m_errorAt m_number m_hasMoon m_hasSky m_turnsBy m_inTurnAt m_isState m_best m_seen m_fixedSlot m_fixedTarget m_ways m_waysNow m_clears m_clouds m_clearsNow m_cloudsNow m_givesClear m_givesCloudy m_givesClearNow m_givesCloudyNow m_giving m_givenTarget z53.2.2.2)
      else if ((sF l4.toNatClampNeg) &&& (63 : Int32)) = (13 : Int32) then
        ob (lpL_law_1999_977 sN sF l4 vn kc ks vg vhn vhs vhN vhP vt vu vp vq m_a m_kept m_keptMany m_thrown m_turnsBy vo) (fun z60 =>
        lpL_law_1999_23 sN sF fu (l4 + (6 : Int32)) z60.1 z60.2.1 vr vd vn z60.2.2.1 z60.2.2.2.1 z60.2.2.2.2.1 z60.2.2.2.2.2.1 z60.2.2.2.2.2.2.1 z60.2.2.2.2.2.2.2.1 z60.2.2.2.2.2.2.2.2.1 z60.2.2.2.2.2.2.2.2.2.1 z60.2.2.2.2.2.2.2.2.2.2.1 ve z60.2.2.2.2.2.2.2.2.2.2.2.1 m_fresh z60.2.2.2.2.2.2.2.2.2.2.2.2.1 z60.2.2.2.2.2.2.2.2.2.2.2.2.2.1 z60.2.2.2.2.2.2.2.2.2.2.2.2.2.2.1 m_buffer m_buffered m_size m_at m_behind m_kind m_wrong m_wrongAt m_errorAt m_number m_hasMoon m_hasSky z60.2.2.2.2.2.2.2.2.2.2.2.2.2.2.2.1 m_inTurnAt m_isState m_best m_seen m_fixedSlot m_fixedTarget m_ways m_waysNow m_clears m_clouds m_clearsNow m_cloudsNow m_givesClear m_givesCloudy m_givesClearNow m_givesCloudyNow m_giving m_givenTarget z60.2.2.2.2.2.2.2.2.2.2.2.2.2.2.2.2)
      else if ((sF l4.toNatClampNeg) &&& (63 : Int32)) = (14 : Int32) then
        ob (lpL_law_1999_1049 sN sF l4 vn kc ks vg vhn vhs vhN vhP vt vu vp vq m_a m_kept m_keptMany m_thrown m_turnsBy vo) (fun z64 =>
        lpL_law_1999_23 sN sF fu (l4 + (6 : Int32)) z64.1 z64.2.1 vr vd vn z64.2.2.1 z64.2.2.2.1 z64.2.2.2.2.1 z64.2.2.2.2.2.1 z64.2.2.2.2.2.2.1 z64.2.2.2.2.2.2.2.1 z64.2.2.2.2.2.2.2.2.1 z64.2.2.2.2.2.2.2.2.2.1 z64.2.2.2.2.2.2.2.2.2.2.1 ve z64.2.2.2.2.2.2.2.2.2.2.2.1 m_fresh z64.2.2.2.2.2.2.2.2.2.2.2.2.1 z64.2.2.2.2.2.2.2.2.2.2.2.2.2.1 z64.2.2.2.2.2.2.2.2.2.2.2.2.2.2.1 m_buffer m_buffered m_size m_at m_behind m_kind m_wrong m_wrongAt m_errorAt m_number m_hasMoon m_hasSky z64.2.2.2.2.2.2.2.2.2.2.2.2.2.2.2.1 m_inTurnAt m_isState m_best m_seen m_fixedSlot m_fixedTarget m_ways m_waysNow m_clears m_clouds m_clearsNow m_cloudsNow m_givesClear m_givesCloudy m_givesClearNow m_givesCloudyNow m_giving m_givenTarget z64.2.2.2.2.2.2.2.2.2.2.2.2.2.2.2.2)
      else if ((sF l4.toNatClampNeg) &&& (63 : Int32)) = (15 : Int32) then
        ob (lpL_law_1999_1105 sN sF vn kc ks vg vhn vhs vhN vhP vt vu vp vq m_a m_kept m_keptMany m_thrown vo) (fun z68 =>
        lpL_law_1999_23 sN sF fu (l4 + (6 : Int32)) z68.1 z68.2.1 vr vd vn z68.2.2.1 z68.2.2.2.1 z68.2.2.2.2.1 z68.2.2.2.2.2.1 z68.2.2.2.2.2.2.1 z68.2.2.2.2.2.2.2.1 z68.2.2.2.2.2.2.2.2.1 z68.2.2.2.2.2.2.2.2.2.1 z68.2.2.2.2.2.2.2.2.2.2.1 ve z68.2.2.2.2.2.2.2.2.2.2.2.1 m_fresh z68.2.2.2.2.2.2.2.2.2.2.2.2.1 z68.2.2.2.2.2.2.2.2.2.2.2.2.2.1 z68.2.2.2.2.2.2.2.2.2.2.2.2.2.2.1 m_buffer m_buffered m_size m_at m_behind m_kind m_wrong m_wrongAt m_errorAt m_number m_hasMoon m_hasSky m_turnsBy m_inTurnAt m_isState m_best m_seen m_fixedSlot m_fixedTarget m_ways m_waysNow m_clears m_clouds m_clearsNow m_cloudsNow m_givesClear m_givesCloudy m_givesClearNow m_givesCloudyNow m_giving m_givenTarget z68.2.2.2.2.2.2.2.2.2.2.2.2.2.2.2)
      else if ((sF l4.toNatClampNeg) &&& (63 : Int32)) = (16 : Int32) then
        ob (lpL_law_1999_1149 sN sF l4 vn kc ks vg vhn vhs vhN vhP vt vu vp vq m_a m_kept m_keptMany m_thrown m_turnsBy vo) (fun z72 =>
        lpL_law_1999_23 sN sF fu (l4 + (6 : Int32)) z72.1 z72.2.1 vr vd vn z72.2.2.1 z72.2.2.2.1 z72.2.2.2.2.1 z72.2.2.2.2.2.1 z72.2.2.2.2.2.2.1 z72.2.2.2.2.2.2.2.1 z72.2.2.2.2.2.2.2.2.1 z72.2.2.2.2.2.2.2.2.2.1 z72.2.2.2.2.2.2.2.2.2.2.1 ve z72.2.2.2.2.2.2.2.2.2.2.2.1 m_fresh z72.2.2.2.2.2.2.2.2.2.2.2.2.1 z72.2.2.2.2.2.2.2.2.2.2.2.2.2.1 z72.2.2.2.2.2.2.2.2.2.2.2.2.2.2.1 m_buffer m_buffered m_size m_at m_behind m_kind m_wrong m_wrongAt m_errorAt m_number m_hasMoon m_hasSky z72.2.2.2.2.2.2.2.2.2.2.2.2.2.2.2.1 m_inTurnAt m_isState m_best m_seen m_fixedSlot m_fixedTarget m_ways m_waysNow m_clears m_clouds m_clearsNow m_cloudsNow m_givesClear m_givesCloudy m_givesClearNow m_givesCloudyNow m_giving m_givenTarget z72.2.2.2.2.2.2.2.2.2.2.2.2.2.2.2.2)
      else if ((sF l4.toNatClampNeg) &&& (63 : Int32)) = (17 : Int32) then
        ob (lpL_law_1999_1205 sN sF vn vg vhn vhs vhN vhP vt vu vp vq m_a m_kept m_keptMany m_thrown) (fun z75 =>
        lpL_law_1999_23 sN sF fu (l4 + (6 : Int32)) kc ks vr vd vn z75.1 z75.2.1 z75.2.2.1 z75.2.2.2.1 z75.2.2.2.2.1 z75.2.2.2.2.2.1 z75.2.2.2.2.2.2.1 z75.2.2.2.2.2.2.2.1 z75.2.2.2.2.2.2.2.2.1 ve z75.2.2.2.2.2.2.2.2.2.1 m_fresh z75.2.2.2.2.2.2.2.2.2.2.1 z75.2.2.2.2.2.2.2.2.2.2.2.1 z75.2.2.2.2.2.2.2.2.2.2.2.2 m_buffer m_buffered m_size m_at m_behind m_kind m_wrong m_wrongAt m_errorAt m_number m_hasMoon m_hasSky m_turnsBy m_inTurnAt m_isState m_best m_seen m_fixedSlot m_fixedTarget m_ways m_waysNow m_clears m_clouds m_clearsNow m_cloudsNow m_givesClear m_givesCloudy m_givesClearNow m_givesCloudyNow m_giving m_givenTarget vo)
      else if ((sF l4.toNatClampNeg) &&& (63 : Int32)) = (18 : Int32) then
        ob (lpL_law_1999_1216 sN sF vn vg m_a m_thrown m_turnsBy) (fun z78 =>
        lpL_law_1999_23 sN sF fu (l4 + (6 : Int32)) kc ks vr vd vn vg vhn vhs vhN vhP vt vu vp vq ve m_a m_fresh m_kept m_keptMany z78.1 m_buffer m_buffered m_size m_at m_behind m_kind m_wrong m_wrongAt m_errorAt m_number m_hasMoon m_hasSky z78.2 m_inTurnAt m_isState m_best m_seen m_fixedSlot m_fixedTarget m_ways m_waysNow m_clears m_clouds m_clearsNow m_cloudsNow m_givesClear m_givesCloudy m_givesClearNow m_givesCloudyNow m_giving m_givenTarget vo)
      else if ((sF l4.toNatClampNeg) &&& (63 : Int32)) = (19 : Int32) then
        ob (lpL_law_1999_1229 sN sF l4 vn vg m_a kc ks m_thrown vo) (fun z82 =>
        lpL_law_1999_23 sN sF fu (l4 + (6 : Int32)) z82.1 z82.2.1 vr vd vn vg vhn vhs vhN vhP vt vu vp vq ve m_a m_fresh m_kept m_keptMany z82.2.2.1 m_buffer m_buffered m_size m_at m_behind m_kind m_wrong m_wrongAt m_errorAt m_number m_hasMoon m_hasSky m_turnsBy m_inTurnAt m_isState m_best m_seen m_fixedSlot m_fixedTarget m_ways m_waysNow m_clears m_clouds m_clearsNow m_cloudsNow m_givesClear m_givesCloudy m_givesClearNow m_givesCloudyNow m_giving m_givenTarget z82.2.2.2)
      else if ((sF l4.toNatClampNeg) &&& (63 : Int32)) = (20 : Int32) then
        ob (lpL_law_1999_1285 sN sF l4 vn vg m_a kc ks m_thrown vo) (fun z86 =>
        lpL_law_1999_23 sN sF fu (l4 + (6 : Int32)) z86.1 z86.2.1 vr vd vn vg vhn vhs vhN vhP vt vu vp vq ve m_a m_fresh m_kept m_keptMany z86.2.2.1 m_buffer m_buffered m_size m_at m_behind m_kind m_wrong m_wrongAt m_errorAt m_number m_hasMoon m_hasSky m_turnsBy m_inTurnAt m_isState m_best m_seen m_fixedSlot m_fixedTarget m_ways m_waysNow m_clears m_clouds m_clearsNow m_cloudsNow m_givesClear m_givesCloudy m_givesClearNow m_givesCloudyNow m_giving m_givenTarget z86.2.2.2)
      else if ((sF l4.toNatClampNeg) &&& (63 : Int32)) = (21 : Int32) then
        ob (lpL_law_1999_1341 sN sF l4 vn vg m_a kc ks m_thrown vo) (fun z90 =>
        lpL_law_1999_23 sN sF fu (l4 + (6 : Int32)) z90.1 z90.2.1 vr vd vn vg vhn vhs vhN vhP vt vu vp vq ve m_a m_fresh m_kept m_keptMany z90.2.2.1 m_buffer m_buffered m_size m_at m_behind m_kind m_wrong m_wrongAt m_errorAt m_number m_hasMoon m_hasSky m_turnsBy m_inTurnAt m_isState m_best m_seen m_fixedSlot m_fixedTarget m_ways m_waysNow m_clears m_clouds m_clearsNow m_cloudsNow m_givesClear m_givesCloudy m_givesClearNow m_givesCloudyNow m_giving m_givenTarget z90.2.2.2)
      else if ((sF l4.toNatClampNeg) &&& (63 : Int32)) = (22 : Int32) then
        ob (lpL_law_1999_1409 sN sF vn vg m_a m_fixedSlot m_fixedTarget kc ks vt vu vp m_thrown m_turnsBy m_inTurnAt m_isState m_best m_seen) (fun z93 =>
        lpL_law_1999_23 sN sF fu (l4 + (6 : Int32)) z93.1 z93.2.1 vr vd vn vg vhn vhs vhN vhP z93.2.2.1 z93.2.2.2.1 z93.2.2.2.2.1 vq ve m_a m_fresh m_kept m_keptMany z93.2.2.2.2.2.1 m_buffer m_buffered m_size m_at m_behind m_kind m_wrong m_wrongAt m_errorAt m_number m_hasMoon m_hasSky z93.2.2.2.2.2.2.1 z93.2.2.2.2.2.2.2.1 z93.2.2.2.2.2.2.2.2.1 z93.2.2.2.2.2.2.2.2.2.1 z93.2.2.2.2.2.2.2.2.2.2 m_fixedSlot m_fixedTarget m_ways m_waysNow m_clears m_clouds m_clearsNow m_cloudsNow m_givesClear m_givesCloudy m_givesClearNow m_givesCloudyNow m_giving m_givenTarget vo)
      else if ((sF l4.toNatClampNeg) &&& (63 : Int32)) = (23 : Int32) then
        ob (lpL_law_1999_1423 sN sF l4 vn vg m_a m_fixedSlot m_fixedTarget kc ks vt vu vp m_thrown m_turnsBy m_inTurnAt m_isState m_best m_seen vo) (fun z97 =>
        lpL_law_1999_23 sN sF fu (l4 + (6 : Int32)) z97.1 z97.2.1 vr vd vn vg vhn vhs vhN vhP z97.2.2.1 z97.2.2.2.1 z97.2.2.2.2.1 vq ve m_a m_fresh m_kept m_keptMany z97.2.2.2.2.2.1 m_buffer m_buffered m_size m_at m_behind m_kind m_wrong m_wrongAt m_errorAt m_number m_hasMoon m_hasSky z97.2.2.2.2.2.2.1 z97.2.2.2.2.2.2.2.1 z97.2.2.2.2.2.2.2.2.1 z97.2.2.2.2.2.2.2.2.2.1 z97.2.2.2.2.2.2.2.2.2.2.1 m_fixedSlot m_fixedTarget m_ways m_waysNow m_clears m_clouds m_clearsNow m_cloudsNow m_givesClear m_givesCloudy m_givesClearNow m_givesCloudyNow m_giving m_givenTarget z97.2.2.2.2.2.2.2.2.2.2.2)
      else if ((sF l4.toNatClampNeg) &&& (63 : Int32)) = (24 : Int32) then
        ob (lpL_law_1999_1479 sN sF l4 vn vg m_a kc ks vt vu vp m_thrown m_turnsBy m_inTurnAt m_isState m_best m_seen m_fixedSlot m_fixedTarget vo) (fun z101 =>
        lpL_law_1999_23 sN sF fu (l4 + (6 : Int32)) z101.1 z101.2.1 vr vd vn vg vhn vhs vhN vhP z101.2.2.1 z101.2.2.2.1 z101.2.2.2.2.1 vq ve m_a m_fresh m_kept m_keptMany z101.2.2.2.2.2.1 m_buffer m_buffered m_size m_at m_behind m_kind m_wrong m_wrongAt m_errorAt m_number m_hasMoon m_hasSky z101.2.2.2.2.2.2.1 z101.2.2.2.2.2.2.2.1 z101.2.2.2.2.2.2.2.2.1 z101.2.2.2.2.2.2.2.2.2.1 z101.2.2.2.2.2.2.2.2.2.2.1 z101.2.2.2.2.2.2.2.2.2.2.2.1 z101.2.2.2.2.2.2.2.2.2.2.2.2.1 m_ways m_waysNow m_clears m_clouds m_clearsNow m_cloudsNow m_givesClear m_givesCloudy m_givesClearNow m_givesCloudyNow m_giving m_givenTarget z101.2.2.2.2.2.2.2.2.2.2.2.2.2)
      else if ((sF l4.toNatClampNeg) &&& (63 : Int32)) = (25 : Int32) then
        ob (lpL_law_1999_1546 sN sF vn vg m_a m_fixedSlot m_fixedTarget kc ks vt vu vp m_thrown m_turnsBy m_inTurnAt m_isState m_best m_seen m_ways m_waysNow) (fun z104 =>
        lpL_law_1999_23 sN sF fu (l4 + (6 : Int32)) z104.1 z104.2.1 vr vd vn vg vhn vhs vhN vhP z104.2.2.1 z104.2.2.2.1 z104.2.2.2.2.1 vq ve m_a m_fresh m_kept m_keptMany z104.2.2.2.2.2.1 m_buffer m_buffered m_size m_at m_behind m_kind m_wrong m_wrongAt m_errorAt m_number m_hasMoon m_hasSky z104.2.2.2.2.2.2.1 z104.2.2.2.2.2.2.2.1 z104.2.2.2.2.2.2.2.2.1 z104.2.2.2.2.2.2.2.2.2.1 z104.2.2.2.2.2.2.2.2.2.2.1 m_fixedSlot m_fixedTarget z104.2.2.2.2.2.2.2.2.2.2.2.1 z104.2.2.2.2.2.2.2.2.2.2.2.2 m_clears m_clouds m_clearsNow m_cloudsNow m_givesClear m_givesCloudy m_givesClearNow m_givesCloudyNow m_giving m_givenTarget vo)
      else if ((sF l4.toNatClampNeg) &&& (63 : Int32)) = (26 : Int32) then
        ob (lpL_law_1999_1560 sN sF l4 vn vg m_a m_fixedSlot m_fixedTarget kc ks vt vu vp m_thrown m_turnsBy m_inTurnAt m_isState m_best m_seen vo) (fun z108 =>
        lpL_law_1999_23 sN sF fu (l4 + (6 : Int32)) z108.1 z108.2.1 vr vd vn vg vhn vhs vhN vhP z108.2.2.1 z108.2.2.2.1 z108.2.2.2.2.1 vq ve m_a m_fresh m_kept m_keptMany z108.2.2.2.2.2.1 m_buffer m_buffered m_size m_at m_behind m_kind m_wrong m_wrongAt m_errorAt m_number m_hasMoon m_hasSky z108.2.2.2.2.2.2.1 z108.2.2.2.2.2.2.2.1 z108.2.2.2.2.2.2.2.2.1 z108.2.2.2.2.2.2.2.2.2.1 z108.2.2.2.2.2.2.2.2.2.2.1 m_fixedSlot m_fixedTarget m_ways m_waysNow m_clears m_clouds m_clearsNow m_cloudsNow m_givesClear m_givesCloudy m_givesClearNow m_givesCloudyNow m_giving m_givenTarget z108.2.2.2.2.2.2.2.2.2.2.2)
      else if ((sF l4.toNatClampNeg) &&& (63 : Int32)) = (27 : Int32) then
        ob (lpL_law_1999_1615 sN sF vn vg m_a m_fixedSlot m_fixedTarget kc ks vt vu vp m_thrown m_turnsBy m_inTurnAt m_isState m_best m_seen) (fun z111 =>
        lpL_law_1999_23 sN sF fu (l4 + (6 : Int32)) z111.1 z111.2.1 vr vd vn vg vhn vhs vhN vhP z111.2.2.1 z111.2.2.2.1 z111.2.2.2.2.1 vq ve m_a m_fresh m_kept m_keptMany z111.2.2.2.2.2.1 m_buffer m_buffered m_size m_at m_behind m_kind m_wrong m_wrongAt m_errorAt m_number m_hasMoon m_hasSky z111.2.2.2.2.2.2.1 z111.2.2.2.2.2.2.2.1 z111.2.2.2.2.2.2.2.2.1 z111.2.2.2.2.2.2.2.2.2.1 z111.2.2.2.2.2.2.2.2.2.2 m_fixedSlot m_fixedTarget m_ways m_waysNow m_clears m_clouds m_clearsNow m_cloudsNow m_givesClear m_givesCloudy m_givesClearNow m_givesCloudyNow m_giving m_givenTarget vo)
      else if ((sF l4.toNatClampNeg) &&& (63 : Int32)) = (28 : Int32) then
        ob (lpL_law_1999_1629 sN sF l4 vn vg m_a m_fixedSlot m_fixedTarget kc ks vt vu vp m_thrown m_turnsBy m_inTurnAt m_isState m_best m_seen) (fun z116 =>
        lpL_law_1999_23 sN sF fu (l4 + (6 : Int32)) z116.1 z116.2.1 vr vd vn vg vhn vhs vhN vhP z116.2.2.1 z116.2.2.2.1 z116.2.2.2.2.1 vq ve m_a m_fresh m_kept m_keptMany z116.2.2.2.2.2.1 m_buffer m_buffered m_size m_at m_behind m_kind m_wrong m_wrongAt m_errorAt m_number m_hasMoon m_hasSky z116.2.2.2.2.2.2.1 z116.2.2.2.2.2.2.2.1 z116.2.2.2.2.2.2.2.2.1 z116.2.2.2.2.2.2.2.2.2.1 z116.2.2.2.2.2.2.2.2.2.2 m_fixedSlot m_fixedTarget m_ways m_waysNow m_clears m_clouds m_clearsNow m_cloudsNow m_givesClear m_givesCloudy m_givesClearNow m_givesCloudyNow m_giving m_givenTarget vo)
      else if ((sF l4.toNatClampNeg) &&& (63 : Int32)) = (29 : Int32) then
        ob (lpL_law_1999_1670 sN sF vn vg m_a vp m_thrown m_turnsBy m_inTurnAt m_isState m_seen) (fun z119 =>
        lpL_law_1999_23 sN sF fu (l4 + (6 : Int32)) kc ks vr vd vn vg vhn vhs vhN vhP vt vu z119.1 vq ve m_a m_fresh m_kept m_keptMany z119.2.1 m_buffer m_buffered m_size m_at m_behind m_kind m_wrong m_wrongAt m_errorAt m_number m_hasMoon m_hasSky z119.2.2.1 z119.2.2.2.1 z119.2.2.2.2.1 m_best z119.2.2.2.2.2 m_fixedSlot m_fixedTarget m_ways m_waysNow m_clears m_clouds m_clearsNow m_cloudsNow m_givesClear m_givesCloudy m_givesClearNow m_givesCloudyNow m_giving m_givenTarget vo)
      else if ((sF l4.toNatClampNeg) &&& (63 : Int32)) = (30 : Int32) then
        ob (lpL_law_1999_1684 sN sF vn vg m_a m_giving m_givenTarget kc ks vt vq m_thrown m_turnsBy m_inTurnAt m_isState m_seen m_clears m_clouds m_clearsNow m_cloudsNow m_givesClear m_givesCloudy m_givesClearNow m_givesCloudyNow) (fun z122 =>
        lpL_law_1999_23 sN sF fu (l4 + (6 : Int32)) z122.1 z122.2.1 vr vd vn vg vhn vhs vhN vhP z122.2.2.1 vu vp z122.2.2.2.1 ve m_a m_fresh m_kept m_keptMany z122.2.2.2.2.1 m_buffer m_buffered m_size m_at m_behind m_kind m_wrong m_wrongAt m_errorAt m_number m_hasMoon m_hasSky z122.2.2.2.2.2.1 z122.2.2.2.2.2.2.1 z122.2.2.2.2.2.2.2.1 m_best z122.2.2.2.2.2.2.2.2.1 m_fixedSlot m_fixedTarget m_ways m_waysNow z122.2.2.2.2.2.2.2.2.2.1 z122.2.2.2.2.2.2.2.2.2.2.1 z122.2.2.2.2.2.2.2.2.2.2.2.1 z122.2.2.2.2.2.2.2.2.2.2.2.2.1 z122.2.2.2.2.2.2.2.2.2.2.2.2.2.1 z122.2.2.2.2.2.2.2.2.2.2.2.2.2.2.1 z122.2.2.2.2.2.2.2.2.2.2.2.2.2.2.2.1 z122.2.2.2.2.2.2.2.2.2.2.2.2.2.2.2.2 m_giving m_givenTarget vo)
      else if ((sF l4.toNatClampNeg) &&& (63 : Int32)) = (31 : Int32) then
        ob (lpL_law_1999_1698 sN sF l4 vn vg m_a m_giving m_givenTarget kc ks vt vq m_thrown m_turnsBy m_inTurnAt m_isState m_seen m_clears m_clouds m_clearsNow m_cloudsNow m_givesClear m_givesCloudy m_givesClearNow m_givesCloudyNow vo) (fun z126 =>
        lpL_law_1999_23 sN sF fu (l4 + (6 : Int32)) z126.1 z126.2.1 vr vd vn vg vhn vhs vhN vhP z126.2.2.1 vu vp z126.2.2.2.1 ve m_a m_fresh m_kept m_keptMany z126.2.2.2.2.1 m_buffer m_buffered m_size m_at m_behind m_kind m_wrong m_wrongAt m_errorAt m_number m_hasMoon m_hasSky z126.2.2.2.2.2.1 z126.2.2.2.2.2.2.1 z126.2.2.2.2.2.2.2.1 m_best z126.2.2.2.2.2.2.2.2.1 m_fixedSlot m_fixedTarget m_ways m_waysNow z126.2.2.2.2.2.2.2.2.2.1 z126.2.2.2.2.2.2.2.2.2.2.1 z126.2.2.2.2.2.2.2.2.2.2.2.1 z126.2.2.2.2.2.2.2.2.2.2.2.2.1 z126.2.2.2.2.2.2.2.2.2.2.2.2.2.1 z126.2.2.2.2.2.2.2.2.2.2.2.2.2.2.1 z126.2.2.2.2.2.2.2.2.2.2.2.2.2.2.2.1 z126.2.2.2.2.2.2.2.2.2.2.2.2.2.2.2.2.1 m_giving m_givenTarget z126.2.2.2.2.2.2.2.2.2.2.2.2.2.2.2.2.2)
      else if ((sF l4.toNatClampNeg) &&& (63 : Int32)) = (32 : Int32) then
        ob (lpL_law_1999_1753 sN sF vn vg m_a m_giving m_givenTarget kc ks vt vq m_thrown m_turnsBy m_inTurnAt m_isState m_seen m_clears m_clouds m_clearsNow m_cloudsNow m_givesClear m_givesCloudy m_givesClearNow m_givesCloudyNow vo) (fun z130 =>
        lpL_law_1999_23 sN sF fu (l4 + (6 : Int32)) z130.1 z130.2.1 vr vd vn vg vhn vhs vhN vhP z130.2.2.1 vu vp z130.2.2.2.1 ve m_a m_fresh m_kept m_keptMany z130.2.2.2.2.1 m_buffer m_buffered m_size m_at m_behind m_kind m_wrong m_wrongAt m_errorAt m_number m_hasMoon m_hasSky z130.2.2.2.2.2.1 z130.2.2.2.2.2.2.1 z130.2.2.2.2.2.2.2.1 m_best z130.2.2.2.2.2.2.2.2.1 m_fixedSlot m_fixedTarget m_ways m_waysNow z130.2.2.2.2.2.2.2.2.2.1 z130.2.2.2.2.2.2.2.2.2.2.1 z130.2.2.2.2.2.2.2.2.2.2.2.1 z130.2.2.2.2.2.2.2.2.2.2.2.2.1 z130.2.2.2.2.2.2.2.2.2.2.2.2.2.1 z130.2.2.2.2.2.2.2.2.2.2.2.2.2.2.1 z130.2.2.2.2.2.2.2.2.2.2.2.2.2.2.2.1 z130.2.2.2.2.2.2.2.2.2.2.2.2.2.2.2.2.1 m_giving m_givenTarget z130.2.2.2.2.2.2.2.2.2.2.2.2.2.2.2.2.2)
      else if ((sF l4.toNatClampNeg) &&& (63 : Int32)) = (33 : Int32) then
        ob (lpL_law_1999_1797 sN sF l4 vn vg m_a kc ks vt vq m_thrown m_turnsBy m_inTurnAt m_isState m_seen m_clears m_clouds m_clearsNow m_cloudsNow m_givesClear m_givesCloudy m_givesClearNow m_givesCloudyNow m_giving m_givenTarget vo) (fun z134 =>
        lpL_law_1999_23 sN sF fu (l4 + (6 : Int32)) z134.1 z134.2.1 vr vd vn vg vhn vhs vhN vhP z134.2.2.1 vu vp z134.2.2.2.1 ve m_a m_fresh m_kept m_keptMany z134.2.2.2.2.1 m_buffer m_buffered m_size m_at m_behind m_kind m_wrong m_wrongAt m_errorAt m_number m_hasMoon m_hasSky z134.2.2.2.2.2.1 z134.2.2.2.2.2.2.1 z134.2.2.2.2.2.2.2.1 m_best z134.2.2.2.2.2.2.2.2.1 m_fixedSlot m_fixedTarget m_ways m_waysNow z134.2.2.2.2.2.2.2.2.2.1 z134.2.2.2.2.2.2.2.2.2.2.1 z134.2.2.2.2.2.2.2.2.2.2.2.1 z134.2.2.2.2.2.2.2.2.2.2.2.2.1 z134.2.2.2.2.2.2.2.2.2.2.2.2.2.1 z134.2.2.2.2.2.2.2.2.2.2.2.2.2.2.1 z134.2.2.2.2.2.2.2.2.2.2.2.2.2.2.2.1 z134.2.2.2.2.2.2.2.2.2.2.2.2.2.2.2.2.1 z134.2.2.2.2.2.2.2.2.2.2.2.2.2.2.2.2.2.1 z134.2.2.2.2.2.2.2.2.2.2.2.2.2.2.2.2.2.2.1 z134.2.2.2.2.2.2.2.2.2.2.2.2.2.2.2.2.2.2.2)
      else if ((sF l4.toNatClampNeg) &&& (63 : Int32)) = (34 : Int32) then
        ob (lpL_law_1999_1852 sN sF l4 vn vg m_a kc ks vt vq m_thrown m_turnsBy m_inTurnAt m_isState m_seen m_clears m_clouds m_clearsNow m_cloudsNow m_givesClear m_givesCloudy m_givesClearNow m_givesCloudyNow m_giving m_givenTarget vo) (fun z138 =>
        lpL_law_1999_23 sN sF fu (l4 + (6 : Int32)) z138.1 z138.2.1 vr vd vn vg vhn vhs vhN vhP z138.2.2.1 vu vp z138.2.2.2.1 ve m_a m_fresh m_kept m_keptMany z138.2.2.2.2.1 m_buffer m_buffered m_size m_at m_behind m_kind m_wrong m_wrongAt m_errorAt m_number m_hasMoon m_hasSky z138.2.2.2.2.2.1 z138.2.2.2.2.2.2.1 z138.2.2.2.2.2.2.2.1 m_best z138.2.2.2.2.2.2.2.2.1 m_fixedSlot m_fixedTarget m_ways m_waysNow z138.2.2.2.2.2.2.2.2.2.1 z138.2.2.2.2.2.2.2.2.2.2.1 z138.2.2.2.2.2.2.2.2.2.2.2.1 z138.2.2.2.2.2.2.2.2.2.2.2.2.1 z138.2.2.2.2.2.2.2.2.2.2.2.2.2.1 z138.2.2.2.2.2.2.2.2.2.2.2.2.2.2.1 z138.2.2.2.2.2.2.2.2.2.2.2.2.2.2.2.1 z138.2.2.2.2.2.2.2.2.2.2.2.2.2.2.2.2.1 z138.2.2.2.2.2.2.2.2.2.2.2.2.2.2.2.2.2.1 z138.2.2.2.2.2.2.2.2.2.2.2.2.2.2.2.2.2.2.1 z138.2.2.2.2.2.2.2.2.2.2.2.2.2.2.2.2.2.2.2)
      else if ((sF l4.toNatClampNeg) &&& (63 : Int32)) = (35 : Int32) then
        ob (lpL_law_1999_1907 sN sF vn vg m_a kc ks vt vq m_thrown m_turnsBy m_inTurnAt m_isState m_seen m_clears m_clouds m_clearsNow m_cloudsNow m_givesClear m_givesCloudy m_givesClearNow m_givesCloudyNow m_giving m_givenTarget) (fun z141 =>
        lpL_law_1999_23 sN sF fu (l4 + (6 : Int32)) z141.1 z141.2.1 vr vd vn vg vhn vhs vhN vhP z141.2.2.1 vu vp z141.2.2.2.1 ve m_a m_fresh m_kept m_keptMany z141.2.2.2.2.1 m_buffer m_buffered m_size m_at m_behind m_kind m_wrong m_wrongAt m_errorAt m_number m_hasMoon m_hasSky z141.2.2.2.2.2.1 z141.2.2.2.2.2.2.1 z141.2.2.2.2.2.2.2.1 m_best z141.2.2.2.2.2.2.2.2.1 m_fixedSlot m_fixedTarget m_ways m_waysNow z141.2.2.2.2.2.2.2.2.2.1 z141.2.2.2.2.2.2.2.2.2.2.1 z141.2.2.2.2.2.2.2.2.2.2.2.1 z141.2.2.2.2.2.2.2.2.2.2.2.2.1 z141.2.2.2.2.2.2.2.2.2.2.2.2.2.1 z141.2.2.2.2.2.2.2.2.2.2.2.2.2.2.1 z141.2.2.2.2.2.2.2.2.2.2.2.2.2.2.2.1 z141.2.2.2.2.2.2.2.2.2.2.2.2.2.2.2.2.1 z141.2.2.2.2.2.2.2.2.2.2.2.2.2.2.2.2.2.1 z141.2.2.2.2.2.2.2.2.2.2.2.2.2.2.2.2.2.2 vo)
      else if ((sF l4.toNatClampNeg) &&& (63 : Int32)) = (36 : Int32) then
        ob (lpL_law_1999_1921 sN sF vn vg m_a m_giving m_givenTarget kc ks vt vq m_thrown m_turnsBy m_inTurnAt m_isState m_seen m_clears m_clouds m_clearsNow m_cloudsNow m_givesClear m_givesCloudy m_givesClearNow m_givesCloudyNow vo) (fun z145 =>
        lpL_law_1999_23 sN sF fu (l4 + (6 : Int32)) z145.1 z145.2.1 vr vd vn vg vhn vhs vhN vhP z145.2.2.1 vu vp z145.2.2.2.1 ve m_a m_fresh m_kept m_keptMany z145.2.2.2.2.1 m_buffer m_buffered m_size m_at m_behind m_kind m_wrong m_wrongAt m_errorAt m_number m_hasMoon m_hasSky z145.2.2.2.2.2.1 z145.2.2.2.2.2.2.1 z145.2.2.2.2.2.2.2.1 m_best z145.2.2.2.2.2.2.2.2.1 m_fixedSlot m_fixedTarget m_ways m_waysNow z145.2.2.2.2.2.2.2.2.2.1 z145.2.2.2.2.2.2.2.2.2.2.1 z145.2.2.2.2.2.2.2.2.2.2.2.1 z145.2.2.2.2.2.2.2.2.2.2.2.2.1 z145.2.2.2.2.2.2.2.2.2.2.2.2.2.1 z145.2.2.2.2.2.2.2.2.2.2.2.2.2.2.1 z145.2.2.2.2.2.2.2.2.2.2.2.2.2.2.2.1 z145.2.2.2.2.2.2.2.2.2.2.2.2.2.2.2.2.1 m_giving m_givenTarget z145.2.2.2.2.2.2.2.2.2.2.2.2.2.2.2.2.2)
      else if ((sF l4.toNatClampNeg) &&& (63 : Int32)) = (37 : Int32) then
        ob (lpL_law_1999_1964 sN sF vhN vhP m_kept kc ks vn vg vhn vhs vt vu vp vq m_a m_keptMany m_thrown vo) (fun z149 =>
        lpL_law_1999_23 sN sF fu (l4 + (6 : Int32)) z149.1 z149.2.1 vr vd z149.2.2.1 z149.2.2.2.1 z149.2.2.2.2.1 z149.2.2.2.2.2.1 vhN vhP z149.2.2.2.2.2.2.1 z149.2.2.2.2.2.2.2.1 z149.2.2.2.2.2.2.2.2.1 z149.2.2.2.2.2.2.2.2.2.1 ve z149.2.2.2.2.2.2.2.2.2.2.1 m_fresh m_kept z149.2.2.2.2.2.2.2.2.2.2.2.1 z149.2.2.2.2.2.2.2.2.2.2.2.2.1 m_buffer m_buffered m_size m_at m_behind m_kind m_wrong m_wrongAt m_errorAt m_number m_hasMoon m_hasSky m_turnsBy m_inTurnAt m_isState m_best m_seen m_fixedSlot m_fixedTarget m_ways m_waysNow m_clears m_clouds m_clearsNow m_cloudsNow m_givesClear m_givesCloudy m_givesClearNow m_givesCloudyNow m_giving m_givenTarget z149.2.2.2.2.2.2.2.2.2.2.2.2.2)
      else 
        lpL_law_1999_23 sN sF fu (l4 + (6 : Int32)) kc ks vr vd vn vg vhn vhs vhN vhP vt vu vp vq ve m_a m_fresh m_kept m_keptMany m_thrown m_buffer m_buffered m_size m_at m_behind m_kind m_wrong m_wrongAt m_errorAt m_number m_hasMoon m_hasSky m_turnsBy m_inTurnAt m_isState m_best m_seen m_fixedSlot m_fixedTarget m_ways m_waysNow m_clears m_clouds m_clearsNow m_cloudsNow m_givesClear m_givesCloudy m_givesClearNow m_givesCloudyNow m_giving m_givenTarget vo
def pL_law_1999 (sN : Nat) (sF : Nat → Int32) : Option (Int32 × List va_E × Nat × Nat) :=
  ob (pX8_init) (fun z1 =>
  ob (pX9_init) (fun z2 =>
  ob (lpL_law_1999_23 sN sF lpF (0 : Int32) ((((1 + z1.2.2.2.2.2.1) + 1) + z2.2.1) + 1) ((((10 + z1.2.2.2.2.2.2) + 36) + z2.2.2) + 1) ((fun _ => 0), (fun _ => 0), 0, 0, 0, 0, 0, 0, 0, (-1 : Int32)) z1.2.2.2.1 z1.1 (0, 0, 0, 0, 0, (fun _ => 0), (fun _ => 0)) 0 0 z1.2.2.2.2.1 (upF (upF (upF (upF (upF (upF (upF (fun _ => (0, 0, 0, 0, 0, (fun _ => 0), (fun _ => 0))) 1 (0, 0, 0, 0, 0, (fun _ => 0), (fun _ => 0))) 2 (0, 0, 0, 0, 0, (fun _ => 0), (fun _ => 0))) 3 (0, 0, 0, 0, 0, (fun _ => 0), (fun _ => 0))) 4 (0, 0, 0, 0, 0, (fun _ => 0), (fun _ => 0))) 5 (0, 0, 0, 0, 0, (fun _ => 0), (fun _ => 0))) 6 (0, 0, 0, 0, 0, (fun _ => 0), (fun _ => 0))) 7 (0, 0, 0, 0, 0, (fun _ => 0), (fun _ => 0))) z1.2.1 z1.2.2.1 (0, 0, 0, 0, (fun _ => 0), 0, (fun _ => 0), 0, (fun _ => 0), 0, 0, 0, 0) (0, (fun _ => 0), 0, (fun _ => 0), 0, (fun _ => 0), 0, (fun _ => 0), 0, 0, 0) (-1 : Int32) z2.1 (fun _ => 0) (fun _ => 0) 0 0 (fun _ => 0) 0 0 0 0 0 0 0 (-1 : Int32) 0 0 0 (fun _ => 0) (fun _ => 0) (fun _ => 0) (fun _ => 0) (fun _ => 0) (-1 : Int32) 0 (fun _ => 0) (fun _ => 0) (fun _ => 0) (fun _ => 0) (fun _ => 0) (fun _ => 0) (fun _ => 0) (fun _ => 0) (fun _ => 0) (fun _ => 0) 0 0 (fun _ => 0)) (fun z150 =>
  some ((1 : Int32), (wLaw z150.2.2.2.1 z150.2.2.2.2.1 z150.2.2.2.2.2.1 z150.2.2.2.2.2.2.1 z150.2.2.2.2.2.2.2.1 z150.2.2.2.2.2.2.2.2.1 z150.2.2.2.2.2.2.2.2.2.1 z150.2.2.2.2.2.2.2.2.2.2.1 z150.2.2.2.2.2.2.2.2.2.2.2.1 z150.2.2.2.2.2.2.2.2.2.2.2.2.1 z150.2.2.2.2.2.2.2.2.2.2.2.2.2.1 z150.2.2.2.2.2.2.2.2.2.2.2.2.2.2.1 z150.2.2.2.2.2.2.2.2.2.2.2.2.2.2.2.1 z150.2.2.2.2.2.2.2.2.2.2.2.2.2.2.2.2.1 z150.2.2.2.2.2.2.2.2.2.2.2.2.2.2.2.2.2.1 z150.2.2.2.2.2.2.2.2.2.2.2.2.2.2.2.2.2.2.1 z150.2.2.2.2.2.2.2.2.2.2.2.2.2.2.2.2.2.2.2.1 z150.2.2.2.2.2.2.2.2.2.2.2.2.2.2.2.2.2.2.2.2.1 z150.2.2.2.2.2.2.2.2.2.2.2.2.2.2.2.2.2.2.2.2.2.1 z150.2.2.2.2.2.2.2.2.2.2.2.2.2.2.2.2.2.2.2.2.2.2.1 z150.2.2.2.2.2.2.2.2.2.2.2.2.2.2.2.2.2.2.2.2.2.2.2.1 z150.2.2.2.2.2.2.2.2.2.2.2.2.2.2.2.2.2.2.2.2.2.2.2.2.1 z150.2.2.2.2.2.2.2.2.2.2.2.2.2.2.2.2.2.2.2.2.2.2.2.2.2.1 z150.2.2.2.2.2.2.2.2.2.2.2.2.2.2.2.2.2.2.2.2.2.2.2.2.2.2.1 z150.2.2.2.2.2.2.2.2.2.2.2.2.2.2.2.2.2.2.2.2.2.2.2.2.2.2.2.1 z150.2.2.2.2.2.2.2.2.2.2.2.2.2.2.2.2.2.2.2.2.2.2.2.2.2.2.2.2.1 z150.2.2.2.2.2.2.2.2.2.2.2.2.2.2.2.2.2.2.2.2.2.2.2.2.2.2.2.2.2.1 z150.2.2.2.2.2.2.2.2.2.2.2.2.2.2.2.2.2.2.2.2.2.2.2.2.2.2.2.2.2.2.1 z150.2.2.2.2.2.2.2.2.2.2.2.2.2.2.2.2.2.2.2.2.2.2.2.2.2.2.2.2.2.2.2.1 z150.2.2.2.2.2.2.2.2.2.2.2.2.2.2.2.2.2.2.2.2.2.2.2.2.2.2.2.2.2.2.2.2.1 z150.2.2.2.2.2.2.2.2.2.2.2.2.2.2.2.2.2.2.2.2.2.2.2.2.2.2.2.2.2.2.2.2.2.1 z150.2.2.2.2.2.2.2.2.2.2.2.2.2.2.2.2.2.2.2.2.2.2.2.2.2.2.2.2.2.2.2.2.2.2.1 z150.2.2.2.2.2.2.2.2.2.2.2.2.2.2.2.2.2.2.2.2.2.2.2.2.2.2.2.2.2.2.2.2.2.2.2.1 z150.2.2.2.2.2.2.2.2.2.2.2.2.2.2.2.2.2.2.2.2.2.2.2.2.2.2.2.2.2.2.2.2.2.2.2.2.1 z150.2.2.2.2.2.2.2.2.2.2.2.2.2.2.2.2.2.2.2.2.2.2.2.2.2.2.2.2.2.2.2.2.2.2.2.2.2.1 z150.2.2.2.2.2.2.2.2.2.2.2.2.2.2.2.2.2.2.2.2.2.2.2.2.2.2.2.2.2.2.2.2.2.2.2.2.2.2.1 z150.2.2.2.2.2.2.2.2.2.2.2.2.2.2.2.2.2.2.2.2.2.2.2.2.2.2.2.2.2.2.2.2.2.2.2.2.2.2.2.1 z150.2.2.2.2.2.2.2.2.2.2.2.2.2.2.2.2.2.2.2.2.2.2.2.2.2.2.2.2.2.2.2.2.2.2.2.2.2.2.2.2.1 z150.2.2.2.2.2.2.2.2.2.2.2.2.2.2.2.2.2.2.2.2.2.2.2.2.2.2.2.2.2.2.2.2.2.2.2.2.2.2.2.2.2.1 z150.2.2.2.2.2.2.2.2.2.2.2.2.2.2.2.2.2.2.2.2.2.2.2.2.2.2.2.2.2.2.2.2.2.2.2.2.2.2.2.2.2.2.1 z150.2.2.2.2.2.2.2.2.2.2.2.2.2.2.2.2.2.2.2.2.2.2.2.2.2.2.2.2.2.2.2.2.2.2.2.2.2.2.2.2.2.2.2.1 z150.2.2.2.2.2.2.2.2.2.2.2.2.2.2.2.2.2.2.2.2.2.2.2.2.2.2.2.2.2.2.2.2.2.2.2.2.2.2.2.2.2.2.2.2.1 z150.2.2.2.2.2.2.2.2.2.2.2.2.2.2.2.2.2.2.2.2.2.2.2.2.2.2.2.2.2.2.2.2.2.2.2.2.2.2.2.2.2.2.2.2.2.1 z150.2.2.2.2.2.2.2.2.2.2.2.2.2.2.2.2.2.2.2.2.2.2.2.2.2.2.2.2.2.2.2.2.2.2.2.2.2.2.2.2.2.2.2.2.2.2.1 z150.2.2.2.2.2.2.2.2.2.2.2.2.2.2.2.2.2.2.2.2.2.2.2.2.2.2.2.2.2.2.2.2.2.2.2.2.2.2.2.2.2.2.2.2.2.2.2.1 z150.2.2.2.2.2.2.2.2.2.2.2.2.2.2.2.2.2.2.2.2.2.2.2.2.2.2.2.2.2.2.2.2.2.2.2.2.2.2.2.2.2.2.2.2.2.2.2.2.1 z150.2.2.2.2.2.2.2.2.2.2.2.2.2.2.2.2.2.2.2.2.2.2.2.2.2.2.2.2.2.2.2.2.2.2.2.2.2.2.2.2.2.2.2.2.2.2.2.2.2.1 z150.2.2.2.2.2.2.2.2.2.2.2.2.2.2.2.2.2.2.2.2.2.2.2.2.2.2.2.2.2.2.2.2.2.2.2.2.2.2.2.2.2.2.2.2.2.2.2.2.2.2.1 z150.2.2.2.2.2.2.2.2.2.2.2.2.2.2.2.2.2.2.2.2.2.2.2.2.2.2.2.2.2.2.2.2.2.2.2.2.2.2.2.2.2.2.2.2.2.2.2.2.2.2.2.1 z150.2.2.2.2.2.2.2.2.2.2.2.2.2.2.2.2.2.2.2.2.2.2.2.2.2.2.2.2.2.2.2.2.2.2.2.2.2.2.2.2.2.2.2.2.2.2.2.2.2.2.2.2), z150.2.1, z150.2.2.1))))
