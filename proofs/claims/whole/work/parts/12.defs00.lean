/-! java/util/Arrays.fill([II)V -/
def lpJ7_fill_53178_6_5 (l1 : Int32) (l3 : Int32) : Nat → Int32 → (Nat → Int32) → Option (Int32 × (Nat → Int32))
  | 0, _, _ => none
  | fu + 1, l2, a0 =>
    if l3 ≤ l2 then
      some (l2, a0)
    else
      if (l2 < 0 ∨ 6 ≤ l2.toNatClampNeg) then none else
      lpJ7_fill_53178_6_5 l1 l3 fu (l2 + (1 : Int32)) (upd a0 l2.toNatClampNeg l1)
def pJ7_fill_53178_6 (x1 : Int32) (a0 : Nat → Int32) : Option ((Nat → Int32)) :=
  ob (lpJ7_fill_53178_6_5 x1 (nI 6) lpF (0 : Int32) a0) (fun z1 =>
  some z1.2)
/-! TelescopeNight$Night.setDefaults()V -/
def pX2_setDefaults (n_moon : Nat → Int32) (n_percents : Nat → Int32) : Option ((Nat → Int32) × (Nat → Int32)) :=
  ob (pJ7_fill_53178_6 (0 : Int32) n_moon) (fun z1 =>
  some ((upd (upd z1 1 ((1 : Int32))) 2 ((-10 : Int32))), (upd (upd (upd n_percents 0 ((50 : Int32))) 1 ((80 : Int32))) 2 ((30 : Int32)))))
/-! TelescopeNight$Night.number(II)I -/
def pX2_number (x1 : Int32) (x2 : Int32) (n_numbers : Nat → Int32) : Option (Int32) :=
  if ((x1 * (9 : Int32)) + x2) < 0 then
    some (0 : Int32)
  else
    if (nI 54) ≤ ((x1 * (9 : Int32)) + x2) then
      some (0 : Int32)
    else
      if (((x1 * (9 : Int32)) + x2) < 0 ∨ 54 ≤ (((x1 * (9 : Int32)) + x2)).toNatClampNeg) then none else
      some (n_numbers (((x1 * (9 : Int32)) + x2)).toNatClampNeg)
/-! TelescopeNight$Night.targetHeight(II)I -/
def pX2_targetHeight (x1 : Int32) (x2 : Int32) (n_numbers : Nat → Int32) : Option (Int32) :=
  ob (pX2_number x1 (3 : Int32) n_numbers) (fun z1 =>
  ob (pX2_number x1 (1 : Int32) n_numbers) (fun z2 =>
  ob (pX2_number x1 (2 : Int32) n_numbers) (fun z3 =>
  some (z2 - ((z3 * (x2 - z1)) * (x2 - z1))))))
/-! TelescopeNight$Night.heightOfMoon(I)I -/
def pX2_heightOfMoon (x1 : Int32) (n_moon : Nat → Int32) : Option (Int32) :=
  some ((n_moon 0) - (((n_moon 1) * (x1 - (n_moon 2))) * (x1 - (n_moon 2))))
/-! TelescopeNight$Night.distanceToMoon(II)I -/
def pX2_distanceToMoon (x1 : Int32) (x2 : Int32) (n_moon : Nat → Int32) (n_numbers : Nat → Int32) : Option (Int32) :=
  ob (pX2_number x1 (5 : Int32) n_numbers) (fun z1 =>
  some (if ((360 : Int32) - (if 0 ≤ (((z1 + ((15 : Int32) * x2)) - (z1 + ((15 : Int32) * x2)) / (360 : Int32) * (360 : Int32)) - (((n_moon 3) + ((n_moon 4) * x2)) - ((n_moon 3) + ((n_moon 4) * x2)) / (360 : Int32) * (360 : Int32))) then (((z1 + ((15 : Int32) * x2)) - (z1 + ((15 : Int32) * x2)) / (360 : Int32) * (360 : Int32)) - (((n_moon 3) + ((n_moon 4) * x2)) - ((n_moon 3) + ((n_moon 4) * x2)) / (360 : Int32) * (360 : Int32))) else 0 - (((z1 + ((15 : Int32) * x2)) - (z1 + ((15 : Int32) * x2)) / (360 : Int32) * (360 : Int32)) - (((n_moon 3) + ((n_moon 4) * x2)) - ((n_moon 3) + ((n_moon 4) * x2)) / (360 : Int32) * (360 : Int32))))) < (if 0 ≤ (((z1 + ((15 : Int32) * x2)) - (z1 + ((15 : Int32) * x2)) / (360 : Int32) * (360 : Int32)) - (((n_moon 3) + ((n_moon 4) * x2)) - ((n_moon 3) + ((n_moon 4) * x2)) / (360 : Int32) * (360 : Int32))) then (((z1 + ((15 : Int32) * x2)) - (z1 + ((15 : Int32) * x2)) / (360 : Int32) * (360 : Int32)) - (((n_moon 3) + ((n_moon 4) * x2)) - ((n_moon 3) + ((n_moon 4) * x2)) / (360 : Int32) * (360 : Int32))) else 0 - (((z1 + ((15 : Int32) * x2)) - (z1 + ((15 : Int32) * x2)) / (360 : Int32) * (360 : Int32)) - (((n_moon 3) + ((n_moon 4) * x2)) - ((n_moon 3) + ((n_moon 4) * x2)) / (360 : Int32) * (360 : Int32)))) then ((360 : Int32) - (if 0 ≤ (((z1 + ((15 : Int32) * x2)) - (z1 + ((15 : Int32) * x2)) / (360 : Int32) * (360 : Int32)) - (((n_moon 3) + ((n_moon 4) * x2)) - ((n_moon 3) + ((n_moon 4) * x2)) / (360 : Int32) * (360 : Int32))) then (((z1 + ((15 : Int32) * x2)) - (z1 + ((15 : Int32) * x2)) / (360 : Int32) * (360 : Int32)) - (((n_moon 3) + ((n_moon 4) * x2)) - ((n_moon 3) + ((n_moon 4) * x2)) / (360 : Int32) * (360 : Int32))) else 0 - (((z1 + ((15 : Int32) * x2)) - (z1 + ((15 : Int32) * x2)) / (360 : Int32) * (360 : Int32)) - (((n_moon 3) + ((n_moon 4) * x2)) - ((n_moon 3) + ((n_moon 4) * x2)) / (360 : Int32) * (360 : Int32))))) else (if 0 ≤ (((z1 + ((15 : Int32) * x2)) - (z1 + ((15 : Int32) * x2)) / (360 : Int32) * (360 : Int32)) - (((n_moon 3) + ((n_moon 4) * x2)) - ((n_moon 3) + ((n_moon 4) * x2)) / (360 : Int32) * (360 : Int32))) then (((z1 + ((15 : Int32) * x2)) - (z1 + ((15 : Int32) * x2)) / (360 : Int32) * (360 : Int32)) - (((n_moon 3) + ((n_moon 4) * x2)) - ((n_moon 3) + ((n_moon 4) * x2)) / (360 : Int32) * (360 : Int32))) else 0 - (((z1 + ((15 : Int32) * x2)) - (z1 + ((15 : Int32) * x2)) / (360 : Int32) * (360 : Int32)) - (((n_moon 3) + ((n_moon 4) * x2)) - ((n_moon 3) + ((n_moon 4) * x2)) / (360 : Int32) * (360 : Int32))))))
/-! TelescopeNight$Night.canBeSeen(II)Z -/
def pX2_canBeSeen (x1 : Int32) (x2 : Int32) (n_moon : Nat → Int32) (n_numbers : Nat → Int32) : Option (Int32) :=
  ob (pX2_targetHeight x1 x2 n_numbers) (fun z1 =>
  ob (pX2_number x1 (4 : Int32) n_numbers) (fun z2 =>
  if z2 ≤ z1 then
    ob (pX2_number x1 (6 : Int32) n_numbers) (fun z3 =>
    ob (pX2_heightOfMoon x2 n_moon) (fun z4 =>
    if z4 ≤ 0 then
      some (1 : Int32)
    else
      ob (pX2_distanceToMoon x1 x2 n_moon n_numbers) (fun z5 =>
      if z5 < ((z3 * (n_moon 5)) / (100 : Int32)) then
        some (0 : Int32)
      else
        some (1 : Int32))))
  else
    some (0 : Int32)))
/-! TelescopeNight$Night.targetsSeenIn(I)I -/
def lpX2_targetsSeenIn_4 (l1 : Int32) (n_targets : Int32) (n_moon : Nat → Int32) (n_numbers : Nat → Int32) : Nat → Int32 → Int32 → Option (Int32 × Int32)
  | 0, _, _ => none
  | fu + 1, l2, l3 =>
    if n_targets ≤ l3 then
      some (l2, l3)
    else
      ob (pX2_canBeSeen l3 l1 n_moon n_numbers) (fun z1 =>
      if z1 = 0 then
        lpX2_targetsSeenIn_4 l1 n_targets n_moon n_numbers fu l2 (l3 + (1 : Int32))
      else
        lpX2_targetsSeenIn_4 l1 n_targets n_moon n_numbers fu (l2 ||| ((1 : Int32) <<< (l3 &&& 31))) (l3 + (1 : Int32)))
def pX2_targetsSeenIn (x1 : Int32) (n_targets : Int32) (n_moon : Nat → Int32) (n_numbers : Nat → Int32) : Option (Int32) :=
  ob (lpX2_targetsSeenIn_4 x1 n_targets n_moon n_numbers lpF (0 : Int32) (0 : Int32)) (fun z2 =>
  some z2.1)
/-! TelescopeNight$Night.settle()V -/
def lpX2_settle_51 (n_slots : Int32) (n_targets : Int32) (n_moon : Nat → Int32) (n_percents : Nat → Int32) (n_numbers : Nat → Int32) : Nat → Int32 → Int32 → (Nat → Int32) → (Nat → Int32) → Option (Int32 × Int32 × (Nat → Int32) × (Nat → Int32))
  | 0, _, _, _, _ => none
  | fu + 1, l1, l2, n_seen, n_odds =>
    if n_slots ≤ l2 then
      some (l1, l2, n_seen, n_odds)
    else
      if (12 : Int32) ≤ l2 then
        some (l1, l2, n_seen, n_odds)
      else
        ob (pX2_targetsSeenIn l2 n_targets n_moon n_numbers) (fun z3 =>
        if (l2 < 0 ∨ 12 ≤ l2.toNatClampNeg) then none else
        lpX2_settle_51 n_slots n_targets n_moon n_percents n_numbers fu (((l1 * (n_percents 1)) + (((1000000 : Int32) - l1) * (n_percents 2))) / (100 : Int32)) (l2 + (1 : Int32)) (upd n_seen l2.toNatClampNeg z3) (upd n_odds l2.toNatClampNeg l1))
def lpX2_settle_7 (n_targets : Int32) (n_numbers : Nat → Int32) : Nat → Int32 → Int32 → Option (Int32 × Int32)
  | 0, _, _ => none
  | fu + 1, l1, n_teams =>
    if n_targets ≤ l1 then
      some (l1, n_teams)
    else
      ob (pX2_number l1 (0 : Int32) n_numbers) (fun z1 =>
      lpX2_settle_7 n_targets n_numbers fu (l1 + (1 : Int32)) (n_teams ||| ((1 : Int32) <<< (z1 &&& 31))))
def pX2_settle (n_slots : Int32) (n_targets : Int32) (n_moon : Nat → Int32) (n_percents : Nat → Int32) (n_numbers : Nat → Int32) (n_seen : Nat → Int32) (n_odds : Nat → Int32) : Option (Int32 × (Nat → Int32) × (Nat → Int32)) :=
  ob (lpX2_settle_7 n_targets n_numbers lpF (0 : Int32) (0 : Int32)) (fun z2 =>
  ob (lpX2_settle_51 n_slots n_targets n_moon n_percents n_numbers lpF ((10000 : Int32) * (n_percents 0)) (0 : Int32) n_seen n_odds) (fun z4 =>
  some (z2.2, z4.2.2.1, z4.2.2.2)))
/-! TelescopeNight$Night.<init>()V -/
def pX2_init  : Option (Int32 × (Nat → Int32) × (Nat → Int32) × (Nat → Int32) × (Nat → Int32) × Nat × Nat) :=
  ob (pX2_setDefaults (fun _ => 0) (fun _ => 0)) (fun z1 =>
  ob (pX2_settle (6 : Int32) (0 : Int32) z1.1 z1.2 (fun _ => 0) (fun _ => 0) (fun _ => 0)) (fun z2 =>
  some (z2.1, z1.1, z1.2, z2.2.1, z2.2.2, 5, 87)))
/-! TelescopeNight$Night.copyFrom(LTelescopeNight$Night;)V -/
def pX2_copyFrom (n_moon : Nat → Int32) (n_percents : Nat → Int32) (n_numbers : Nat → Int32) (n_seen : Nat → Int32) (n_odds : Nat → Int32) (n2_slots : Int32) (n2_targets : Int32) (n2_teams : Int32) (n2_moon : Nat → Int32) (n2_percents : Nat → Int32) (n2_numbers : Nat → Int32) (n2_seen : Nat → Int32) (n2_odds : Nat → Int32) : Option (Int32 × Int32 × Int32 × (Nat → Int32) × (Nat → Int32) × (Nat → Int32) × (Nat → Int32) × (Nat → Int32)) :=
  some (n2_slots, n2_targets, n2_teams, (va_cpy n2_moon n_moon 0 0 6), (va_cpy n2_percents n_percents 0 0 3), (va_cpy n2_numbers n_numbers 0 0 54), (va_cpy n2_seen n_seen 0 0 12), (va_cpy n2_odds n_odds 0 0 12))
/-! TelescopeNight$Night.targetsIn(I)I -/
def pX2_targetsIn (x1 : Int32) (n_slots : Int32) (n_seen : Nat → Int32) : Option (Int32) :=
  if x1 < 0 then
    some (0 : Int32)
  else
    if n_slots ≤ x1 then
      some (0 : Int32)
    else
      if (12 : Int32) ≤ x1 then
        some (0 : Int32)
      else
        if (x1 < 0 ∨ 12 ≤ x1.toNatClampNeg) then none else
        some (n_seen x1.toNatClampNeg)
/-! TelescopeNight.has(II)Z -/
def pX8_has (x0 : Int32) (x1 : Int32) : Option (Int32) :=
  if ((x0 >>> (x1 &&& 31)) &&& (1 : Int32)) = 0 then
    some (0 : Int32)
  else
    some (1 : Int32)
/-! TelescopeNight$Night.isSeen(II)Z -/
def pX2_isSeen (x1 : Int32) (x2 : Int32) (n_slots : Int32) (n_seen : Nat → Int32) : Option (Int32) :=
  ob (pX2_targetsIn x2 n_slots n_seen) (fun z1 =>
  ob (pX8_has z1 x1) (fun z2 =>
  if (z2 = 0 ∨ z2 = 1) then some z2 else none))
/-! TelescopeNight$Night.oddsIn(I)I -/
def pX2_oddsIn (x1 : Int32) (n_slots : Int32) (n_odds : Nat → Int32) : Option (Int32) :=
  if x1 < 0 then
    some (0 : Int32)
  else
    if n_slots ≤ x1 then
      some (0 : Int32)
    else
      if (12 : Int32) ≤ x1 then
        some (0 : Int32)
      else
        if (x1 < 0 ∨ 12 ≤ x1.toNatClampNeg) then none else
        some (n_odds x1.toNatClampNeg)
/-! TelescopeNight$Night.slotsOf(I)I -/
def lpX2_slotsOf_4 (l1 : Int32) (n_slots : Int32) (n_seen : Nat → Int32) : Nat → Int32 → Int32 → Option (Int32 × Int32)
  | 0, _, _ => none
  | fu + 1, l2, l3 =>
    if n_slots ≤ l3 then
      some (l2, l3)
    else
      ob (pX2_isSeen l1 l3 n_slots n_seen) (fun z1 =>
      if z1 = 0 then
        lpX2_slotsOf_4 l1 n_slots n_seen fu l2 (l3 + (1 : Int32))
      else
        lpX2_slotsOf_4 l1 n_slots n_seen fu (l2 ||| ((1 : Int32) <<< (l3 &&& 31))) (l3 + (1 : Int32)))
def pX2_slotsOf (x1 : Int32) (n_slots : Int32) (n_seen : Nat → Int32) : Option (Int32) :=
  ob (lpX2_slotsOf_4 x1 n_slots n_seen lpF (0 : Int32) (0 : Int32)) (fun z2 =>
  some z2.1)
/-! TelescopeNight.madeOf(II)I -/
def pX8_madeOf (x0 : Int32) (x1 : Int32) : Option (Int32) :=
  some ((x0 >>> (((2 : Int32) * x1) &&& 31)) &&& (3 : Int32))
/-! TelescopeNight$Night.turnCounts(I)I -/
def lpX2_turnCounts_4 (l1 : Int32) (n_targets : Int32) (n_numbers : Nat → Int32) : Nat → Int32 → Int32 → Option (Int32 × Int32)
  | 0, _, _ => none
  | fu + 1, l2, l3 =>
    if n_targets ≤ l3 then
      some (l2, l3)
    else
      ob (pX8_madeOf l1 l3) (fun z1 =>
      ob (pX2_number l3 (0 : Int32) n_numbers) (fun z2 =>
      lpX2_turnCounts_4 l1 n_targets n_numbers fu (l2 + (z1 <<< (((8 : Int32) * z2) &&& 31))) (l3 + (1 : Int32))))
def pX2_turnCounts (x1 : Int32) (n_targets : Int32) (n_numbers : Nat → Int32) : Option (Int32) :=
  ob (lpX2_turnCounts_4 x1 n_targets n_numbers lpF (0 : Int32) (0 : Int32)) (fun z3 =>
  some z3.1)
/-! TelescopeNight.turnsIn(II)I -/
def pX8_turnsIn (x0 : Int32) (x1 : Int32) : Option (Int32) :=
  some ((x0 >>> (((8 : Int32) * x1) &&& 31)) &&& (255 : Int32))
/-! TelescopeNight$Night.teamsInTurn(II)I -/
def lpX2_teamsInTurn_27 (l3 : Int32) (l4 : Int32) : Nat → Int32 → Int32 → Int32 → Option (Int32 × Int32 × Int32)
  | 0, _, _, _ => none
  | fu + 1, l5, l6, l7 =>
    if (4 : Int32) ≤ l7 then
      some (l5, l6, l7)
    else
      ob (pX8_turnsIn l3 l7) (fun z2 =>
      ob (pX8_has l4 l7) (fun z3 =>
      if z3 = 0 then
        lpX2_teamsInTurn_27 l3 l4 fu l5 l6 (l7 + (1 : Int32))
      else
        if l5 < z2 then
          lpX2_teamsInTurn_27 l3 l4 fu l5 l6 (l7 + (1 : Int32))
        else
          if l5 ≤ z2 then
            lpX2_teamsInTurn_27 l3 l4 fu z2 (l6 ||| ((1 : Int32) <<< (l7 &&& 31))) (l7 + (1 : Int32))
          else
            lpX2_teamsInTurn_27 l3 l4 fu z2 ((1 : Int32) <<< (l7 &&& 31)) (l7 + (1 : Int32))))
def pX2_teamsInTurn (x1 : Int32) (x2 : Int32) (n_targets : Int32) (n_teams : Int32) (n_numbers : Nat → Int32) : Option (Int32) :=
  ob (pX2_turnCounts x1 n_targets n_numbers) (fun z1 =>
  ob (lpX2_teamsInTurn_27 z1 (n_teams &&& (x2 ^^^ (-1 : Int32))) lpF (256 : Int32) (0 : Int32) (0 : Int32)) (fun z4 =>
  some z4.2.1))
/-! TelescopeNight$Night.wanting(II)I -/
def lpX2_wanting_5 (l1 : Int32) (l2 : Int32) (n_targets : Int32) (n_numbers : Nat → Int32) : Nat → Int32 → Int32 → Option (Int32 × Int32)
  | 0, _, _ => none
  | fu + 1, l3, l4 =>
    if n_targets ≤ l4 then
      some (l3, l4)
    else
      ob (pX8_madeOf l1 l4) (fun z1 =>
      ob (pX2_number l4 (7 : Int32) n_numbers) (fun z2 =>
      if z2 ≤ z1 then
        lpX2_wanting_5 l1 l2 n_targets n_numbers fu l3 (l4 + (1 : Int32))
      else
        ob (pX2_number l4 (0 : Int32) n_numbers) (fun z3 =>
        ob (pX8_has l2 z3) (fun z4 =>
        if z4 = 0 then
          lpX2_wanting_5 l1 l2 n_targets n_numbers fu l3 (l4 + (1 : Int32))
        else
          lpX2_wanting_5 l1 l2 n_targets n_numbers fu (l3 ||| ((1 : Int32) <<< (l4 &&& 31))) (l4 + (1 : Int32))))))
def pX2_wanting (x1 : Int32) (x2 : Int32) (n_targets : Int32) (n_numbers : Nat → Int32) : Option (Int32) :=
  ob (lpX2_wanting_5 x1 x2 n_targets n_numbers lpF (0 : Int32) (0 : Int32)) (fun z5 =>
  some z5.1)
/-! TelescopeNight$Night.dearest(I)I -/
def lpX2_dearest_4 (l1 : Int32) (n_targets : Int32) (n_numbers : Nat → Int32) : Nat → Int32 → Int32 → Option (Int32 × Int32)
  | 0, _, _ => none
  | fu + 1, l2, l3 =>
    if n_targets ≤ l3 then
      some (l2, l3)
    else
      ob (pX8_has l1 l3) (fun z1 =>
      if z1 = 0 then
        lpX2_dearest_4 l1 n_targets n_numbers fu l2 (l3 + (1 : Int32))
      else
        if l2 = (-1 : Int32) then
          lpX2_dearest_4 l1 n_targets n_numbers fu l3 (l3 + (1 : Int32))
        else
          ob (pX2_number l3 (8 : Int32) n_numbers) (fun z2 =>
          ob (pX2_number l2 (8 : Int32) n_numbers) (fun z3 =>
          if z2 ≤ z3 then
            lpX2_dearest_4 l1 n_targets n_numbers fu l2 (l3 + (1 : Int32))
          else
            lpX2_dearest_4 l1 n_targets n_numbers fu l3 (l3 + (1 : Int32)))))
def pX2_dearest (x1 : Int32) (n_targets : Int32) (n_numbers : Nat → Int32) : Option (Int32) :=
  ob (lpX2_dearest_4 x1 n_targets n_numbers lpF (-1 : Int32) (0 : Int32)) (fun z4 =>
  some z4.1)
/-! TelescopeNight$Progress.<init>()V -/
def pX5_init  : Option (Nat × Nat) :=
  some (2, 24)
/-! TelescopeNight$Progress.begin()V -/
def pX5_begin  : Option (Unit) :=
  some ()
/-! TelescopeNight$Progress.copyFrom(LTelescopeNight$Progress;)V -/
def pX5_copyFrom (g_pastTargets : Nat → Int32) (g_pastSkies : Nat → Int32) (g2_present : Int32) (g2_sky : Int32) (g2_points : Int32) (g2_waived : Int32) (g2_made : Int32) (g2_pastTargets : Nat → Int32) (g2_pastSkies : Nat → Int32) : Option (Int32 × Int32 × Int32 × Int32 × Int32 × (Nat → Int32) × (Nat → Int32)) :=
  some (g2_present, g2_sky, g2_points, g2_waived, g2_made, (va_cpy g2_pastTargets g_pastTargets 0 0 12), (va_cpy g2_pastSkies g_pastSkies 0 0 12))
/-! TelescopeNight$Progress.moveOn(I)V -/
def pX5_moveOn (x1 : Int32) (g_present : Int32) (g_sky : Int32) (g_pastTargets : Nat → Int32) (g_pastSkies : Nat → Int32) : Option (Int32 × (Nat → Int32) × (Nat → Int32)) :=
  if (12 : Int32) ≤ g_present then
    some (g_present, g_pastTargets, g_pastSkies)
  else
    if (g_present < 0 ∨ 12 ≤ g_present.toNatClampNeg) then none else
    some ((g_present + (1 : Int32)), (upd g_pastTargets g_present.toNatClampNeg x1), (upd g_pastSkies g_present.toNatClampNeg g_sky))
/-! TelescopeNight$Progress.skyBefore()I -/
def pX5_skyBefore (g_present : Int32) (g_pastSkies : Nat → Int32) : Option (Int32) :=
  if g_present ≤ 0 then
    some (0 : Int32)
  else
    if ((g_present - (1 : Int32)) < 0 ∨ 12 ≤ ((g_present - (1 : Int32))).toNatClampNeg) then none else
    some (g_pastSkies ((g_present - (1 : Int32))).toNatClampNeg)
/-! TelescopeNight$Reach.<init>(LTelescopeNight$Night;LTelescopeNight$Progress;Z)V -/
def pX6_init (x3 : Int32) : Option (Int32 × Nat × Nat) :=
  if (pv .boolean (.int x3) = true) then
  some (x3, 3, 0)
  else none
/-! TelescopeNight$Reach.forget()V -/
def pX6_forget  : Option (Unit) :=
  some ()
/-! TelescopeNight.oneOf(I)I -/
def pX8_oneOf (x0 : Int32) : Option (Int32) :=
  some ((1 : Int32) <<< (((2 : Int32) * x0) &&& 31))
/-! TelescopeNight$Reach.makeRoom()V -/
def pX6_makeRoom (t_statesN : Nat) (t_states : Nat → Int32) (t_wantingN : Nat) (t_wanting : Nat → Int32) (t_earliestN : Nat) (t_earliest : Nat → Int32) (n_targets : Int32) : Option (Int32 × Nat × (Nat → Int32) × Nat × (Nat → Int32) × Nat × (Nat → Int32) × Nat × Nat) :=
  ob (pX8_oneOf n_targets) (fun z1 =>
  if z1 ≤ (nI t_statesN) then
    some (z1, t_statesN, t_states, t_wantingN, t_wanting, t_earliestN, t_earliest, 0, 0)
  else
    if (z1 < 0 ∨ 60000000 < z1.toNatClampNeg) then none else
    some (z1, z1.toNatClampNeg, (fun _ => 0), z1.toNatClampNeg, (fun _ => 0), z1.toNatClampNeg, (fun _ => 0), 3, (((0 + z1.toNatClampNeg) + z1.toNatClampNeg) + z1.toNatClampNeg)))
/-! java/util/Arrays.fill([II)V -/
def lpJ7_fill_53178_5 (l1 : Int32) (l3 : Int32) (n0 : Nat) : Nat → Int32 → (Nat → Int32) → Option (Int32 × (Nat → Int32))
  | 0, _, _ => none
  | fu + 1, l2, a0 =>
    if l3 ≤ l2 then
      some (l2, a0)
    else
      if (l2 < 0 ∨ n0 ≤ l2.toNatClampNeg) then none else
      lpJ7_fill_53178_5 l1 l3 n0 fu (l2 + (1 : Int32)) (upd a0 l2.toNatClampNeg l1)
def pJ7_fill_53178 (x1 : Int32) (n0 : Nat) (a0 : Nat → Int32) : Option ((Nat → Int32)) :=
  ob (lpJ7_fill_53178_5 x1 (nI n0) n0 lpF (0 : Int32) a0) (fun z1 =>
  some z1.2)
/-! TelescopeNight$Reach.behindNext(II)I -/
def lpX6_behindNext_2 (l1 : Int32) (n_slots : Int32) (n_seen : Nat → Int32) : Nat → Int32 → Option ((Int32) ⊕ (Int32))
  | 0, _ => none
  | fu + 1, l3 =>
    if n_slots ≤ l3 then
      some (.inl l3)
    else
      ob (pX2_targetsIn l3 n_slots n_seen) (fun z1 =>
      ob (pX8_has z1 l1) (fun z2 =>
      if z2 = 0 then
        lpX6_behindNext_2 l1 n_slots n_seen fu (l3 + (1 : Int32))
      else
        some (.inr (l3 + (1 : Int32)))))
def pX6_behindNext (x1 : Int32) (x2 : Int32) (n_slots : Int32) (n_seen : Nat → Int32) : Option (Int32) :=
  ob (lpX6_behindNext_2 x1 n_slots n_seen lpF x2) (fun z3 => match z3 with
  | .inl z3e =>
    some (13 : Int32)
  | .inr z3f => some z3f)
/-! TelescopeNight$Reach.reachFrom(I)V -/
def lpX6_reachFrom_2 (l1 : Int32) (t_span : Int32) (t_wantingN : Nat) (t_wanting : Nat → Int32) (t_earliestN : Nat) (n_slots : Int32) (n_targets : Int32) (n_seen : Nat → Int32) : Nat → Int32 → (Nat → Int32) → Option (Int32 × (Nat → Int32))
  | 0, _, _ => none
  | fu + 1, l2, t_earliest =>
    if n_targets ≤ l2 then
      some (l2, t_earliest)
    else
      ob (pX8_oneOf l2) (fun z1 =>
      if (l1 < 0 ∨ t_wantingN ≤ l1.toNatClampNeg) then none else
      ob (pX8_has (t_wanting l1.toNatClampNeg) l2) (fun z2 =>
      if z2 = 0 then
        lpX6_reachFrom_2 l1 t_span t_wantingN t_wanting t_earliestN n_slots n_targets n_seen fu (l2 + (1 : Int32)) t_earliest
      else
        if t_span ≤ (l1 + z1) then
          lpX6_reachFrom_2 l1 t_span t_wantingN t_wanting t_earliestN n_slots n_targets n_seen fu (l2 + (1 : Int32)) t_earliest
        else
          if ((l1 + z1) < 0 ∨ t_earliestN ≤ ((l1 + z1)).toNatClampNeg) then none else
          if (l1 < 0 ∨ t_earliestN ≤ l1.toNatClampNeg) then none else
          ob (pX6_behindNext l2 (t_earliest l1.toNatClampNeg) n_slots n_seen) (fun z3 =>
          lpX6_reachFrom_2 l1 t_span t_wantingN t_wanting t_earliestN n_slots n_targets n_seen fu (l2 + (1 : Int32)) (upd t_earliest (((l1 + z1)).toNatClampNeg) ((if z3 < (t_earliest ((l1 + z1)).toNatClampNeg) then z3 else (t_earliest ((l1 + z1)).toNatClampNeg)))))))
def pX6_reachFrom (x1 : Int32) (t_span : Int32) (t_wantingN : Nat) (t_wanting : Nat → Int32) (t_earliestN : Nat) (t_earliest : Nat → Int32) (n_slots : Int32) (n_targets : Int32) (n_seen : Nat → Int32) : Option ((Nat → Int32)) :=
  ob (lpX6_reachFrom_2 x1 t_span t_wantingN t_wanting t_earliestN n_slots n_targets n_seen lpF (0 : Int32) t_earliest) (fun z4 =>
  some z4.2)
/-! TelescopeNight$Reach.update()V -/
def lpX6_update_72 (t_withTurns : Int32) (t_span : Int32) (t_statesN : Nat) (t_wantingN : Nat) (t_earliestN : Nat) (n_slots : Int32) (n_targets : Int32) (n_teams : Int32) (n_numbers : Nat → Int32) (n_seen : Nat → Int32) (g_waived : Int32) : Nat → Int32 → Int32 → (Nat → Int32) → (Nat → Int32) → (Nat → Int32) → Option (Int32 × Int32 × (Nat → Int32) × (Nat → Int32) × (Nat → Int32))
  | 0, _, _, _, _, _ => none
  | fu + 1, l1, t_size, t_states, t_wanting, t_earliest =>
    if t_span ≤ l1 then
      some (l1, t_size, t_states, t_wanting, t_earliest)
    else
      if (l1 < 0 ∨ t_earliestN ≤ l1.toNatClampNeg) then none else
      if (t_earliest l1.toNatClampNeg) = (13 : Int32) then
        lpX6_update_72 t_withTurns t_span t_statesN t_wantingN t_earliestN n_slots n_targets n_teams n_numbers n_seen g_waived fu (l1 + (1 : Int32)) t_size t_states t_wanting t_earliest
      else
        if (t_size < 0 ∨ t_statesN ≤ t_size.toNatClampNeg) then none else
        if t_withTurns = 0 then
          ob (pX2_wanting l1 (g_waived ^^^ (-1 : Int32)) n_targets n_numbers) (fun z3 =>
          if (l1 < 0 ∨ t_wantingN ≤ l1.toNatClampNeg) then none else
          ob (pX6_reachFrom l1 t_span t_wantingN (upd t_wanting l1.toNatClampNeg z3) t_earliestN t_earliest n_slots n_targets n_seen) (fun z4 =>
          lpX6_update_72 t_withTurns t_span t_statesN t_wantingN t_earliestN n_slots n_targets n_teams n_numbers n_seen g_waived fu (l1 + (1 : Int32)) (t_size + (1 : Int32)) (upd t_states t_size.toNatClampNeg l1) (upd t_wanting l1.toNatClampNeg z3) z4))
        else
          ob (pX2_teamsInTurn l1 g_waived n_targets n_teams n_numbers) (fun z5 =>
          ob (pX2_wanting l1 z5 n_targets n_numbers) (fun z6 =>
          if (l1 < 0 ∨ t_wantingN ≤ l1.toNatClampNeg) then none else
          ob (pX6_reachFrom l1 t_span t_wantingN (upd t_wanting l1.toNatClampNeg z6) t_earliestN t_earliest n_slots n_targets n_seen) (fun z7 =>
          lpX6_update_72 t_withTurns t_span t_statesN t_wantingN t_earliestN n_slots n_targets n_teams n_numbers n_seen g_waived fu (l1 + (1 : Int32)) (t_size + (1 : Int32)) (upd t_states t_size.toNatClampNeg l1) (upd t_wanting l1.toNatClampNeg z6) z7)))
def pX6_update (t_withTurns : Int32) (t_known : Int32) (t_span : Int32) (t_size : Int32) (t_statesN : Nat) (t_states : Nat → Int32) (t_wantingN : Nat) (t_wanting : Nat → Int32) (t_earliestN : Nat) (t_earliest : Nat → Int32) (n_slots : Int32) (n_targets : Int32) (n_teams : Int32) (n_numbers : Nat → Int32) (n_seen : Nat → Int32) (g_present : Int32) (g_waived : Int32) (g_made : Int32) : Option (Int32 × Int32 × Int32 × Nat × (Nat → Int32) × Nat × (Nat → Int32) × Nat × (Nat → Int32) × Nat × Nat) :=
  if t_known = 0 then
    ob (pX6_makeRoom t_statesN t_states t_wantingN t_wanting t_earliestN t_earliest n_targets) (fun z1 =>
    ob (pJ7_fill_53178 (13 : Int32) z1.2.2.2.2.2.1 z1.2.2.2.2.2.2.1) (fun z2 =>
    if z1.1 ≤ g_made then
      ob (lpX6_update_72 t_withTurns z1.1 z1.2.1 z1.2.2.2.1 z1.2.2.2.2.2.1 n_slots n_targets n_teams n_numbers n_seen g_waived lpF g_made (0 : Int32) z1.2.2.1 z1.2.2.2.2.1 z2) (fun z8 =>
      some ((1 : Int32), z1.1, z8.2.1, z1.2.1, z8.2.2.1, z1.2.2.2.1, z8.2.2.2.1, z1.2.2.2.2.2.1, z8.2.2.2.2, (0 + z1.2.2.2.2.2.2.2.1), (0 + z1.2.2.2.2.2.2.2.2)))
    else
      if (g_made < 0 ∨ z1.2.2.2.2.2.1 ≤ g_made.toNatClampNeg) then none else
      ob (lpX6_update_72 t_withTurns z1.1 z1.2.1 z1.2.2.2.1 z1.2.2.2.2.2.1 n_slots n_targets n_teams n_numbers n_seen g_waived lpF g_made (0 : Int32) z1.2.2.1 z1.2.2.2.2.1 (upd z2 g_made.toNatClampNeg g_present)) (fun z9 =>
      some ((1 : Int32), z1.1, z9.2.1, z1.2.1, z9.2.2.1, z1.2.2.2.1, z9.2.2.2.1, z1.2.2.2.2.2.1, z9.2.2.2.2, (0 + z1.2.2.2.2.2.2.2.1), (0 + z1.2.2.2.2.2.2.2.2)))))
  else
    some (t_known, t_span, t_size, t_statesN, t_states, t_wantingN, t_wanting, t_earliestN, t_earliest, 0, 0)
/-! TelescopeNight$Reach.holds(II)Z -/
def pX6_holds (x1 : Int32) (x2 : Int32) (t_earliestN : Nat) (t_earliest : Nat → Int32) : Option (Int32) :=
  if (x1 < 0 ∨ t_earliestN ≤ x1.toNatClampNeg) then none else
  if x2 < (t_earliest x1.toNatClampNeg) then
    some (0 : Int32)
  else
    some (1 : Int32)
/-! TelescopeNight$Reach.possible(II)I -/
def pX6_possible (x1 : Int32) (x2 : Int32) (t_wantingN : Nat) (t_wanting : Nat → Int32) (n_slots : Int32) (n_seen : Nat → Int32) : Option (Int32) :=
  ob (pX2_targetsIn x2 n_slots n_seen) (fun z1 =>
  if (x1 < 0 ∨ t_wantingN ≤ x1.toNatClampNeg) then none else
  some (z1 &&& (t_wanting x1.toNatClampNeg)))
/-! TelescopeNight$Plans.<init>(LTelescopeNight$Night;LTelescopeNight$Progress;LTelescopeNight$Reach;LTelescopeNight$Reach;)V -/
def pX4_init  : Option (Nat × Nat) :=
  some (3, 0)
/-! TelescopeNight$Plans.forget()V -/
def pX4_forget  : Option (Unit) :=
  some ()
/-! TelescopeNight$Plans.makeRoom(I)V -/
def pX4_makeRoom (x1 : Int32) (p_valuesN : Nat) (p_values : Nat → Int64) (p_waysN : Nat) (p_ways : Nat → Int64) (p_firstsN : Nat) (p_firsts : Nat → Int64) : Option (Nat × (Nat → Int64) × Nat × (Nat → Int64) × Nat × (Nat → Int64) × Nat × Nat) :=
  if x1 ≤ (nI p_valuesN) then
    some (p_valuesN, p_values, p_waysN, p_ways, p_firstsN, p_firsts, 0, 0)
  else
    if (x1 < 0 ∨ 60000000 < x1.toNatClampNeg) then none else
    some (x1.toNatClampNeg, (fun _ => 0), x1.toNatClampNeg, (fun _ => 0), x1.toNatClampNeg, (fun _ => 0), 3, (((0 + x1.toNatClampNeg) + x1.toNatClampNeg) + x1.toNatClampNeg))
/-! TelescopeNight$Plans.put(IJJJ)V -/
def pX4_put (x1 : Int32) (x2 : Int64) (x3 : Int64) (x4 : Int64) (p_valuesN : Nat) (p_values : Nat → Int64) (p_waysN : Nat) (p_ways : Nat → Int64) (p_firstsN : Nat) (p_firsts : Nat → Int64) : Option ((Nat → Int64) × (Nat → Int64) × (Nat → Int64)) :=
  if (x1 < 0 ∨ p_valuesN ≤ x1.toNatClampNeg) then none else
  if (x1 < 0 ∨ p_waysN ≤ x1.toNatClampNeg) then none else
  if (x1 < 0 ∨ p_firstsN ≤ x1.toNatClampNeg) then none else
  some ((vp_updL p_values x1.toNatClampNeg x2), (vp_updL p_ways x1.toNatClampNeg x3), (vp_updL p_firsts x1.toNatClampNeg x4))
/-! TelescopeNight$Plans.isCloudyNow(I)Z -/
def pX4_isCloudyNow (x1 : Int32) (g_present : Int32) (g_sky : Int32) : Option (Int32) :=
  if ¬ x1 = g_present then
    some (0 : Int32)
  else
    if ¬ g_sky = (2 : Int32) then
      some (0 : Int32)
    else
      some (1 : Int32)
/-! TelescopeNight$Plans.isChosen(I)Z -/
def pX4_isChosen (x1 : Int32) (p_kind : Int32) (p_chosenSlot : Int32) : Option (Int32) :=
  if ¬ p_kind = (1 : Int32) then
    some (0 : Int32)
  else
    if ¬ x1 = p_chosenSlot then
      some (0 : Int32)
    else
      some (1 : Int32)
/-! TelescopeNight$Plans.allowed(II)I -/
def pX4_allowed (x1 : Int32) (x2 : Int32) (p_kind : Int32) (p_chosenSlot : Int32) (p_chosenTarget : Int32) (g_present : Int32) (g_sky : Int32) : Option (Int32) :=
  ob (pX4_isCloudyNow x2 g_present g_sky) (fun z1 =>
  if z1 = 0 then
    if ¬ p_kind = (2 : Int32) then
      ob (pX4_isChosen x2 p_kind p_chosenSlot) (fun z2 =>
      if z2 = 0 then
        some x1
      else
        some (x1 &&& ((1 : Int32) <<< (p_chosenTarget &&& 31))))
    else
      some (x1 &&& (((1 : Int32) <<< (p_chosenTarget &&& 31)) ^^^ (-1 : Int32)))
  else
    some (0 : Int32))
/-! TelescopeNight$Plans.oddsOf(I)I -/
def pX4_oddsOf (x1 : Int32) (n_slots : Int32) (n_odds : Nat → Int32) (g_present : Int32) (g_sky : Int32) : Option (Int32) :=
  if ¬ x1 = g_present then
    ob (pX2_oddsIn x1 n_slots n_odds) (fun z1 =>
    some z1)
  else
    if g_sky = 0 then
      ob (pX2_oddsIn x1 n_slots n_odds) (fun z2 =>
      some z2)
    else
      if ¬ g_sky = (1 : Int32) then
        some (0 : Int32)
      else
        some (1000000 : Int32)
/-! TelescopeNight$Plans.gain(II)J -/
def pX4_gain (x1 : Int32) (x2 : Int32) (p_kind : Int32) (n_slots : Int32) (n_numbers : Nat → Int32) (n_odds : Nat → Int32) (g_present : Int32) (g_sky : Int32) : Option (Int64) :=
  if p_kind = (4 : Int32) then
    some (1 : Int64)
  else
    if ¬ p_kind = (5 : Int32) then
      ob (pX2_number x1 (8 : Int32) n_numbers) (fun z1 =>
      ob (pX4_oddsOf x2 n_slots n_odds g_present g_sky) (fun z2 =>
      some (z1.toInt64 * z2.toInt64)))
    else
      some (1 : Int64)
/-! TelescopeNight$Plans.choose(III)V -/
def lpX4_choose_14 (l1 : Int32) (l2 : Int32) (l3 : Int32) (p_kind : Int32) (p_chosenSlot : Int32) (p_valuesN : Nat) (p_values : Nat → Int64) (p_waysN : Nat) (p_ways : Nat → Int64) (p_firstsN : Nat) (p_firsts : Nat → Int64) (n_slots : Int32) (n_targets : Int32) (n_numbers : Nat → Int32) (n_odds : Nat → Int32) (g_present : Int32) (g_sky : Int32) : Nat → Int64 → Int64 → Int64 → Int32 → Option (Int64 × Int64 × Int64 × Int32)
  | 0, _, _, _, _ => none
  | fu + 1, l4, l6, l8, l10 =>
    if n_targets < l10 then
      some (l4, l6, l8, l10)
    else
      if ¬ l10 = n_targets then
        ob (pX8_has l3 l10) (fun z1 =>
        if ¬ z1 = 0 then
          ob (pX8_oneOf l10) (fun z2 =>
          if ((l1 + z2) < 0 ∨ p_valuesN ≤ ((l1 + z2)).toNatClampNeg) then none else
          if ¬ (lg_cmp ((p_values ((l1 + z2)).toNatClampNeg)) ((-1 : Int64))) = 0 then
            ob (pX4_gain l10 l2 p_kind n_slots n_numbers n_odds g_present g_sky) (fun z3 =>
            if (lg_cmp (((p_values ((l1 + z2)).toNatClampNeg) + z3)) l4) ≤ 0 then
              if ¬ (lg_cmp (((p_values ((l1 + z2)).toNatClampNeg) + z3)) l4) = 0 then
                lpX4_choose_14 l1 l2 l3 p_kind p_chosenSlot p_valuesN p_values p_waysN p_ways p_firstsN p_firsts n_slots n_targets n_numbers n_odds g_present g_sky fu l4 l6 l8 (l10 + (1 : Int32))
              else
                if ((l1 + z2) < 0 ∨ p_waysN ≤ ((l1 + z2)).toNatClampNeg) then none else
                lpX4_choose_14 l1 l2 l3 p_kind p_chosenSlot p_valuesN p_values p_waysN p_ways p_firstsN p_firsts n_slots n_targets n_numbers n_odds g_present g_sky fu l4 (l6 + (p_ways ((l1 + z2)).toNatClampNeg)) l8 (l10 + (1 : Int32))
            else
              if ((l1 + z2) < 0 ∨ p_firstsN ≤ ((l1 + z2)).toNatClampNeg) then none else
              if ¬ (lg_cmp (((p_values ((l1 + z2)).toNatClampNeg) + z3)) (((p_values ((l1 + z2)).toNatClampNeg) + z3))) = 0 then
                lpX4_choose_14 l1 l2 l3 p_kind p_chosenSlot p_valuesN p_values p_waysN p_ways p_firstsN p_firsts n_slots n_targets n_numbers n_odds g_present g_sky fu ((p_values ((l1 + z2)).toNatClampNeg) + z3) (0 : Int64) ((p_firsts ((l1 + z2)).toNatClampNeg) ||| (l10.toInt64 <<< ((((3 : Int32) * l2)).toInt64 &&& 63))) (l10 + (1 : Int32))
              else
                if ((l1 + z2) < 0 ∨ p_waysN ≤ ((l1 + z2)).toNatClampNeg) then none else
                lpX4_choose_14 l1 l2 l3 p_kind p_chosenSlot p_valuesN p_values p_waysN p_ways p_firstsN p_firsts n_slots n_targets n_numbers n_odds g_present g_sky fu ((p_values ((l1 + z2)).toNatClampNeg) + z3) ((0 : Int64) + (p_ways ((l1 + z2)).toNatClampNeg)) ((p_firsts ((l1 + z2)).toNatClampNeg) ||| (l10.toInt64 <<< ((((3 : Int32) * l2)).toInt64 &&& 63))) (l10 + (1 : Int32)))
          else
            lpX4_choose_14 l1 l2 l3 p_kind p_chosenSlot p_valuesN p_values p_waysN p_ways p_firstsN p_firsts n_slots n_targets n_numbers n_odds g_present g_sky fu l4 l6 l8 (l10 + (1 : Int32)))
        else
          lpX4_choose_14 l1 l2 l3 p_kind p_chosenSlot p_valuesN p_values p_waysN p_ways p_firstsN p_firsts n_slots n_targets n_numbers n_odds g_present g_sky fu l4 l6 l8 (l10 + (1 : Int32)))
      else
        ob (pX4_isChosen l2 p_kind p_chosenSlot) (fun z4 =>
        if z4 = 0 then
          if (l1 < 0 ∨ p_valuesN ≤ l1.toNatClampNeg) then none else
          if ¬ (lg_cmp ((p_values l1.toNatClampNeg)) ((-1 : Int64))) = 0 then
            if (lg_cmp (((p_values l1.toNatClampNeg) + (0 : Int64))) l4) ≤ 0 then
              if ¬ (lg_cmp (((p_values l1.toNatClampNeg) + (0 : Int64))) l4) = 0 then
                lpX4_choose_14 l1 l2 l3 p_kind p_chosenSlot p_valuesN p_values p_waysN p_ways p_firstsN p_firsts n_slots n_targets n_numbers n_odds g_present g_sky fu l4 l6 l8 (l10 + (1 : Int32))
              else
                if (l1 < 0 ∨ p_waysN ≤ l1.toNatClampNeg) then none else
                lpX4_choose_14 l1 l2 l3 p_kind p_chosenSlot p_valuesN p_values p_waysN p_ways p_firstsN p_firsts n_slots n_targets n_numbers n_odds g_present g_sky fu l4 (l6 + (p_ways l1.toNatClampNeg)) l8 (l10 + (1 : Int32))
            else
              if (l1 < 0 ∨ p_firstsN ≤ l1.toNatClampNeg) then none else
              if ¬ (lg_cmp (((p_values l1.toNatClampNeg) + (0 : Int64))) (((p_values l1.toNatClampNeg) + (0 : Int64)))) = 0 then
                lpX4_choose_14 l1 l2 l3 p_kind p_chosenSlot p_valuesN p_values p_waysN p_ways p_firstsN p_firsts n_slots n_targets n_numbers n_odds g_present g_sky fu ((p_values l1.toNatClampNeg) + (0 : Int64)) (0 : Int64) ((p_firsts l1.toNatClampNeg) ||| (((7 : Int32)).toInt64 <<< ((((3 : Int32) * l2)).toInt64 &&& 63))) (l10 + (1 : Int32))
              else
                if (l1 < 0 ∨ p_waysN ≤ l1.toNatClampNeg) then none else
                lpX4_choose_14 l1 l2 l3 p_kind p_chosenSlot p_valuesN p_values p_waysN p_ways p_firstsN p_firsts n_slots n_targets n_numbers n_odds g_present g_sky fu ((p_values l1.toNatClampNeg) + (0 : Int64)) ((0 : Int64) + (p_ways l1.toNatClampNeg)) ((p_firsts l1.toNatClampNeg) ||| (((7 : Int32)).toInt64 <<< ((((3 : Int32) * l2)).toInt64 &&& 63))) (l10 + (1 : Int32))
          else
            lpX4_choose_14 l1 l2 l3 p_kind p_chosenSlot p_valuesN p_values p_waysN p_ways p_firstsN p_firsts n_slots n_targets n_numbers n_odds g_present g_sky fu l4 l6 l8 (l10 + (1 : Int32))
        else
          lpX4_choose_14 l1 l2 l3 p_kind p_chosenSlot p_valuesN p_values p_waysN p_ways p_firstsN p_firsts n_slots n_targets n_numbers n_odds g_present g_sky fu l4 l6 l8 (l10 + (1 : Int32)))
def pX4_choose (x1 : Int32) (x2 : Int32) (x3 : Int32) (p_kind : Int32) (p_chosenSlot : Int32) (p_valuesN : Nat) (p_values : Nat → Int64) (p_waysN : Nat) (p_ways : Nat → Int64) (p_firstsN : Nat) (p_firsts : Nat → Int64) (n_slots : Int32) (n_targets : Int32) (n_numbers : Nat → Int32) (n_odds : Nat → Int32) (g_present : Int32) (g_sky : Int32) : Option ((Nat → Int64) × (Nat → Int64) × (Nat → Int64)) :=
  ob (lpX4_choose_14 x1 x2 x3 p_kind p_chosenSlot p_valuesN p_values p_waysN p_ways p_firstsN p_firsts n_slots n_targets n_numbers n_odds g_present g_sky lpF (-1 : Int64) (0 : Int64) (0 : Int64) (0 : Int32)) (fun z5 =>
  ob (pX4_put x1 z5.1 z5.2.1 z5.2.2.1 p_valuesN p_values p_waysN p_ways p_firstsN p_firsts) (fun z6 =>
  some (z6.1, z6.2.1, z6.2.2)))
/-! TelescopeNight$Plans.stepBack(LTelescopeNight$Reach;I)V -/
def lpX4_stepBack_3_2 (l2 : Int32) (p_kind : Int32) (p_chosenSlot : Int32) (p_chosenTarget : Int32) (p_valuesN : Nat) (p_waysN : Nat) (p_firstsN : Nat) (n_slots : Int32) (n_targets : Int32) (n_numbers : Nat → Int32) (n_seen : Nat → Int32) (n_odds : Nat → Int32) (g_present : Int32) (g_sky : Int32) (u_size : Int32) (u_statesN : Nat) (u_states : Nat → Int32) (u_wantingN : Nat) (u_wanting : Nat → Int32) (u_earliestN : Nat) (u_earliest : Nat → Int32) : Nat → Int32 → (Nat → Int64) → (Nat → Int64) → (Nat → Int64) → Option (Int32 × (Nat → Int64) × (Nat → Int64) × (Nat → Int64))
  | 0, _, _, _, _ => none
  | fu + 1, l3, p_values, p_ways, p_firsts =>
    if u_size ≤ l3 then
      some (l3, p_values, p_ways, p_firsts)
    else
      if (l3 < 0 ∨ u_statesN ≤ l3.toNatClampNeg) then none else
      ob (pX6_holds (u_states l3.toNatClampNeg) l2 u_earliestN u_earliest) (fun z1 =>
      if z1 = 0 then
        lpX4_stepBack_3_2 l2 p_kind p_chosenSlot p_chosenTarget p_valuesN p_waysN p_firstsN n_slots n_targets n_numbers n_seen n_odds g_present g_sky u_size u_statesN u_states u_wantingN u_wanting u_earliestN u_earliest fu (l3 + (1 : Int32)) p_values p_ways p_firsts
      else
        ob (pX6_possible (u_states l3.toNatClampNeg) l2 u_wantingN u_wanting n_slots n_seen) (fun z2 =>
        ob (pX4_allowed z2 l2 p_kind p_chosenSlot p_chosenTarget g_present g_sky) (fun z3 =>
        ob (pX4_choose (u_states l3.toNatClampNeg) l2 z3 p_kind p_chosenSlot p_valuesN p_values p_waysN p_ways p_firstsN p_firsts n_slots n_targets n_numbers n_odds g_present g_sky) (fun z4 =>
        lpX4_stepBack_3_2 l2 p_kind p_chosenSlot p_chosenTarget p_valuesN p_waysN p_firstsN n_slots n_targets n_numbers n_seen n_odds g_present g_sky u_size u_statesN u_states u_wantingN u_wanting u_earliestN u_earliest fu (l3 + (1 : Int32)) z4.1 z4.2.1 z4.2.2))))
def pX4_stepBack_3 (x2 : Int32) (p_kind : Int32) (p_chosenSlot : Int32) (p_chosenTarget : Int32) (p_valuesN : Nat) (p_values : Nat → Int64) (p_waysN : Nat) (p_ways : Nat → Int64) (p_firstsN : Nat) (p_firsts : Nat → Int64) (n_slots : Int32) (n_targets : Int32) (n_numbers : Nat → Int32) (n_seen : Nat → Int32) (n_odds : Nat → Int32) (g_present : Int32) (g_sky : Int32) (u_size : Int32) (u_statesN : Nat) (u_states : Nat → Int32) (u_wantingN : Nat) (u_wanting : Nat → Int32) (u_earliestN : Nat) (u_earliest : Nat → Int32) : Option ((Nat → Int64) × (Nat → Int64) × (Nat → Int64)) :=
  ob (lpX4_stepBack_3_2 x2 p_kind p_chosenSlot p_chosenTarget p_valuesN p_waysN p_firstsN n_slots n_targets n_numbers n_seen n_odds g_present g_sky u_size u_statesN u_states u_wantingN u_wanting u_earliestN u_earliest lpF (0 : Int32) p_values p_ways p_firsts) (fun z5 =>
  some (z5.2.1, z5.2.2.1, z5.2.2.2))
/-! TelescopeNight$Plans.stepBack(LTelescopeNight$Reach;I)V -/
def lpX4_stepBack_2_2 (l2 : Int32) (p_kind : Int32) (p_chosenSlot : Int32) (p_chosenTarget : Int32) (p_valuesN : Nat) (p_waysN : Nat) (p_firstsN : Nat) (n_slots : Int32) (n_targets : Int32) (n_numbers : Nat → Int32) (n_seen : Nat → Int32) (n_odds : Nat → Int32) (g_present : Int32) (g_sky : Int32) (t_size : Int32) (t_statesN : Nat) (t_states : Nat → Int32) (t_wantingN : Nat) (t_wanting : Nat → Int32) (t_earliestN : Nat) (t_earliest : Nat → Int32) : Nat → Int32 → (Nat → Int64) → (Nat → Int64) → (Nat → Int64) → Option (Int32 × (Nat → Int64) × (Nat → Int64) × (Nat → Int64))
  | 0, _, _, _, _ => none
  | fu + 1, l3, p_values, p_ways, p_firsts =>
    if t_size ≤ l3 then
      some (l3, p_values, p_ways, p_firsts)
    else
      if (l3 < 0 ∨ t_statesN ≤ l3.toNatClampNeg) then none else
      ob (pX6_holds (t_states l3.toNatClampNeg) l2 t_earliestN t_earliest) (fun z1 =>
      if z1 = 0 then
        lpX4_stepBack_2_2 l2 p_kind p_chosenSlot p_chosenTarget p_valuesN p_waysN p_firstsN n_slots n_targets n_numbers n_seen n_odds g_present g_sky t_size t_statesN t_states t_wantingN t_wanting t_earliestN t_earliest fu (l3 + (1 : Int32)) p_values p_ways p_firsts
      else
        ob (pX6_possible (t_states l3.toNatClampNeg) l2 t_wantingN t_wanting n_slots n_seen) (fun z2 =>
        ob (pX4_allowed z2 l2 p_kind p_chosenSlot p_chosenTarget g_present g_sky) (fun z3 =>
        ob (pX4_choose (t_states l3.toNatClampNeg) l2 z3 p_kind p_chosenSlot p_valuesN p_values p_waysN p_ways p_firstsN p_firsts n_slots n_targets n_numbers n_odds g_present g_sky) (fun z4 =>
        lpX4_stepBack_2_2 l2 p_kind p_chosenSlot p_chosenTarget p_valuesN p_waysN p_firstsN n_slots n_targets n_numbers n_seen n_odds g_present g_sky t_size t_statesN t_states t_wantingN t_wanting t_earliestN t_earliest fu (l3 + (1 : Int32)) z4.1 z4.2.1 z4.2.2))))
def pX4_stepBack_2 (x2 : Int32) (p_kind : Int32) (p_chosenSlot : Int32) (p_chosenTarget : Int32) (p_valuesN : Nat) (p_values : Nat → Int64) (p_waysN : Nat) (p_ways : Nat → Int64) (p_firstsN : Nat) (p_firsts : Nat → Int64) (n_slots : Int32) (n_targets : Int32) (n_numbers : Nat → Int32) (n_seen : Nat → Int32) (n_odds : Nat → Int32) (g_present : Int32) (g_sky : Int32) (t_size : Int32) (t_statesN : Nat) (t_states : Nat → Int32) (t_wantingN : Nat) (t_wanting : Nat → Int32) (t_earliestN : Nat) (t_earliest : Nat → Int32) : Option ((Nat → Int64) × (Nat → Int64) × (Nat → Int64)) :=
  ob (lpX4_stepBack_2_2 x2 p_kind p_chosenSlot p_chosenTarget p_valuesN p_waysN p_firstsN n_slots n_targets n_numbers n_seen n_odds g_present g_sky t_size t_statesN t_states t_wantingN t_wanting t_earliestN t_earliest lpF (0 : Int32) p_values p_ways p_firsts) (fun z5 =>
  some (z5.2.1, z5.2.2.1, z5.2.2.2))
/-! TelescopeNight$Plans.most(III)J -/
def lpX4_most_103 (p_kind : Int32) (p_chosenSlot : Int32) (p_chosenTarget : Int32) (p_valuesN : Nat) (p_waysN : Nat) (p_firstsN : Nat) (n_slots : Int32) (n_targets : Int32) (n_numbers : Nat → Int32) (n_seen : Nat → Int32) (n_odds : Nat → Int32) (g_present : Int32) (g_sky : Int32) (u_size : Int32) (u_statesN : Nat) (u_states : Nat → Int32) (u_wantingN : Nat) (u_wanting : Nat → Int32) (u_earliestN : Nat) (u_earliest : Nat → Int32) : Nat → Int32 → (Nat → Int64) → (Nat → Int64) → (Nat → Int64) → Option (Int32 × (Nat → Int64) × (Nat → Int64) × (Nat → Int64))
  | 0, _, _, _, _ => none
  | fu + 1, l5, p_values, p_ways, p_firsts =>
    if l5 < g_present then
      some (l5, p_values, p_ways, p_firsts)
    else
      ob (pX4_stepBack_3 l5 p_kind p_chosenSlot p_chosenTarget p_valuesN p_values p_waysN p_ways p_firstsN p_firsts n_slots n_targets n_numbers n_seen n_odds g_present g_sky u_size u_statesN u_states u_wantingN u_wanting u_earliestN u_earliest) (fun z5 =>
      lpX4_most_103 p_kind p_chosenSlot p_chosenTarget p_valuesN p_waysN p_firstsN n_slots n_targets n_numbers n_seen n_odds g_present g_sky u_size u_statesN u_states u_wantingN u_wanting u_earliestN u_earliest fu (l5 + (-1 : Int32)) z5.1 z5.2.1 z5.2.2)
def lpX4_most_103_4 (p_kind : Int32) (p_chosenSlot : Int32) (p_chosenTarget : Int32) (p_valuesN : Nat) (p_waysN : Nat) (p_firstsN : Nat) (n_slots : Int32) (n_targets : Int32) (n_numbers : Nat → Int32) (n_seen : Nat → Int32) (n_odds : Nat → Int32) (g_present : Int32) (g_sky : Int32) (t_size : Int32) (t_statesN : Nat) (t_states : Nat → Int32) (t_wantingN : Nat) (t_wanting : Nat → Int32) (t_earliestN : Nat) (t_earliest : Nat → Int32) : Nat → Int32 → (Nat → Int64) → (Nat → Int64) → (Nat → Int64) → Option (Int32 × (Nat → Int64) × (Nat → Int64) × (Nat → Int64))
  | 0, _, _, _, _ => none
  | fu + 1, l5, p_values, p_ways, p_firsts =>
    if l5 < g_present then
      some (l5, p_values, p_ways, p_firsts)
    else
      ob (pX4_stepBack_2 l5 p_kind p_chosenSlot p_chosenTarget p_valuesN p_values p_waysN p_ways p_firstsN p_firsts n_slots n_targets n_numbers n_seen n_odds g_present g_sky t_size t_statesN t_states t_wantingN t_wanting t_earliestN t_earliest) (fun z11 =>
      lpX4_most_103_4 p_kind p_chosenSlot p_chosenTarget p_valuesN p_waysN p_firstsN n_slots n_targets n_numbers n_seen n_odds g_present g_sky t_size t_statesN t_states t_wantingN t_wanting t_earliestN t_earliest fu (l5 + (-1 : Int32)) z11.1 z11.2.1 z11.2.2)
def lpX4_most_61 (p_valuesN : Nat) (p_waysN : Nat) (p_firstsN : Nat) (u_size : Int32) (u_statesN : Nat) (u_states : Nat → Int32) : Nat → Int32 → (Nat → Int64) → (Nat → Int64) → (Nat → Int64) → Option (Int32 × (Nat → Int64) × (Nat → Int64) × (Nat → Int64))
  | 0, _, _, _, _ => none
  | fu + 1, l5, p_values, p_ways, p_firsts =>
    if u_size ≤ l5 then
      some (l5, p_values, p_ways, p_firsts)
    else
      if (l5 < 0 ∨ u_statesN ≤ l5.toNatClampNeg) then none else
      ob (pX4_put (u_states l5.toNatClampNeg) (0 : Int64) (1 : Int64) (0 : Int64) p_valuesN p_values p_waysN p_ways p_firstsN p_firsts) (fun z3 =>
      lpX4_most_61 p_valuesN p_waysN p_firstsN u_size u_statesN u_states fu (l5 + (1 : Int32)) z3.1 z3.2.1 z3.2.2)
def lpX4_most_61_3 (p_valuesN : Nat) (p_waysN : Nat) (p_firstsN : Nat) (t_size : Int32) (t_statesN : Nat) (t_states : Nat → Int32) : Nat → Int32 → (Nat → Int64) → (Nat → Int64) → (Nat → Int64) → Option (Int32 × (Nat → Int64) × (Nat → Int64) × (Nat → Int64))
  | 0, _, _, _, _ => none
  | fu + 1, l5, p_values, p_ways, p_firsts =>
    if t_size ≤ l5 then
      some (l5, p_values, p_ways, p_firsts)
    else
      if (l5 < 0 ∨ t_statesN ≤ l5.toNatClampNeg) then none else
      ob (pX4_put (t_states l5.toNatClampNeg) (0 : Int64) (1 : Int64) (0 : Int64) p_valuesN p_values p_waysN p_ways p_firstsN p_firsts) (fun z9 =>
      lpX4_most_61_3 p_valuesN p_waysN p_firstsN t_size t_statesN t_states fu (l5 + (1 : Int32)) z9.1 z9.2.1 z9.2.2)
def pX4_most (x1 : Int32) (x2 : Int32) (x3 : Int32) (p_valuesN : Nat) (p_values : Nat → Int64) (p_waysN : Nat) (p_ways : Nat → Int64) (p_firstsN : Nat) (p_firsts : Nat → Int64) (n_slots : Int32) (n_targets : Int32) (n_teams : Int32) (n_numbers : Nat → Int32) (n_seen : Nat → Int32) (n_odds : Nat → Int32) (g_present : Int32) (g_sky : Int32) (g_waived : Int32) (g_made : Int32) (t_withTurns : Int32) (t_known : Int32) (t_span : Int32) (t_size : Int32) (t_statesN : Nat) (t_states : Nat → Int32) (t_wantingN : Nat) (t_wanting : Nat → Int32) (t_earliestN : Nat) (t_earliest : Nat → Int32) (u_withTurns : Int32) (u_known : Int32) (u_span : Int32) (u_size : Int32) (u_statesN : Nat) (u_states : Nat → Int32) (u_wantingN : Nat) (u_wanting : Nat → Int32) (u_earliestN : Nat) (u_earliest : Nat → Int32) : Option (Int64 × Int32 × Int32 × Int32 × Int32 × Int32 × Int32 × Nat × (Nat → Int32) × Nat × (Nat → Int32) × Nat × (Nat → Int32) × Int32 × Int32 × Int32 × Nat × (Nat → Int32) × Nat × (Nat → Int32) × Nat × (Nat → Int32) × Nat × (Nat → Int64) × Nat × (Nat → Int64) × Nat × (Nat → Int64) × Nat × Nat) :=
  if x1 = (3 : Int32) then
    ob (pX6_update u_withTurns u_known u_span u_size u_statesN u_states u_wantingN u_wanting u_earliestN u_earliest n_slots n_targets n_teams n_numbers n_seen g_present g_waived g_made) (fun z1 =>
    ob (pX4_makeRoom z1.2.1 p_valuesN p_values p_waysN p_ways p_firstsN p_firsts) (fun z2 =>
    ob (lpX4_most_61 z2.1 z2.2.2.1 z2.2.2.2.2.1 z1.2.2.1 z1.2.2.2.1 z1.2.2.2.2.1 lpF (0 : Int32) z2.2.1 z2.2.2.2.1 z2.2.2.2.2.2.1) (fun z4 =>
    ob (lpX4_most_103 x1 x2 x3 z2.1 z2.2.2.1 z2.2.2.2.2.1 n_slots n_targets n_numbers n_seen n_odds g_present g_sky z1.2.2.1 z1.2.2.2.1 z1.2.2.2.2.1 z1.2.2.2.2.2.1 z1.2.2.2.2.2.2.1 z1.2.2.2.2.2.2.2.1 z1.2.2.2.2.2.2.2.2.1 lpF (n_slots - (1 : Int32)) z4.2.1 z4.2.2.1 z4.2.2.2) (fun z6 =>
    if (g_made < 0 ∨ z2.1 ≤ g_made.toNatClampNeg) then none else
    some ((z6.2.1 g_made.toNatClampNeg), x1, x2, x3, t_known, t_span, t_size, t_statesN, t_states, t_wantingN, t_wanting, t_earliestN, t_earliest, z1.1, z1.2.1, z1.2.2.1, z1.2.2.2.1, z1.2.2.2.2.1, z1.2.2.2.2.2.1, z1.2.2.2.2.2.2.1, z1.2.2.2.2.2.2.2.1, z1.2.2.2.2.2.2.2.2.1, z2.1, z6.2.1, z2.2.2.1, z6.2.2.1, z2.2.2.2.2.1, z6.2.2.2, ((0 + z1.2.2.2.2.2.2.2.2.2.1) + z2.2.2.2.2.2.2.1), ((0 + z1.2.2.2.2.2.2.2.2.2.2) + z2.2.2.2.2.2.2.2))))))
  else
    if ¬ x1 = (5 : Int32) then
      ob (pX6_update t_withTurns t_known t_span t_size t_statesN t_states t_wantingN t_wanting t_earliestN t_earliest n_slots n_targets n_teams n_numbers n_seen g_present g_waived g_made) (fun z7 =>
      ob (pX4_makeRoom z7.2.1 p_valuesN p_values p_waysN p_ways p_firstsN p_firsts) (fun z8 =>
      ob (lpX4_most_61_3 z8.1 z8.2.2.1 z8.2.2.2.2.1 z7.2.2.1 z7.2.2.2.1 z7.2.2.2.2.1 lpF (0 : Int32) z8.2.1 z8.2.2.2.1 z8.2.2.2.2.2.1) (fun z10 =>
      ob (lpX4_most_103_4 x1 x2 x3 z8.1 z8.2.2.1 z8.2.2.2.2.1 n_slots n_targets n_numbers n_seen n_odds g_present g_sky z7.2.2.1 z7.2.2.2.1 z7.2.2.2.2.1 z7.2.2.2.2.2.1 z7.2.2.2.2.2.2.1 z7.2.2.2.2.2.2.2.1 z7.2.2.2.2.2.2.2.2.1 lpF (n_slots - (1 : Int32)) z10.2.1 z10.2.2.1 z10.2.2.2) (fun z12 =>
      if (g_made < 0 ∨ z8.1 ≤ g_made.toNatClampNeg) then none else
      some ((z12.2.1 g_made.toNatClampNeg), x1, x2, x3, z7.1, z7.2.1, z7.2.2.1, z7.2.2.2.1, z7.2.2.2.2.1, z7.2.2.2.2.2.1, z7.2.2.2.2.2.2.1, z7.2.2.2.2.2.2.2.1, z7.2.2.2.2.2.2.2.2.1, u_known, u_span, u_size, u_statesN, u_states, u_wantingN, u_wanting, u_earliestN, u_earliest, z8.1, z12.2.1, z8.2.2.1, z12.2.2.1, z8.2.2.2.2.1, z12.2.2.2, ((0 + z7.2.2.2.2.2.2.2.2.2.1) + z8.2.2.2.2.2.2.1), ((0 + z7.2.2.2.2.2.2.2.2.2.2) + z8.2.2.2.2.2.2.2))))))
    else
      ob (pX6_update u_withTurns u_known u_span u_size u_statesN u_states u_wantingN u_wanting u_earliestN u_earliest n_slots n_targets n_teams n_numbers n_seen g_present g_waived g_made) (fun z13 =>
      ob (pX4_makeRoom z13.2.1 p_valuesN p_values p_waysN p_ways p_firstsN p_firsts) (fun z14 =>
      ob (lpX4_most_61 z14.1 z14.2.2.1 z14.2.2.2.2.1 z13.2.2.1 z13.2.2.2.1 z13.2.2.2.2.1 lpF (0 : Int32) z14.2.1 z14.2.2.2.1 z14.2.2.2.2.2.1) (fun z15 =>
      ob (lpX4_most_103 x1 x2 x3 z14.1 z14.2.2.1 z14.2.2.2.2.1 n_slots n_targets n_numbers n_seen n_odds g_present g_sky z13.2.2.1 z13.2.2.2.1 z13.2.2.2.2.1 z13.2.2.2.2.2.1 z13.2.2.2.2.2.2.1 z13.2.2.2.2.2.2.2.1 z13.2.2.2.2.2.2.2.2.1 lpF (n_slots - (1 : Int32)) z15.2.1 z15.2.2.1 z15.2.2.2) (fun z16 =>
      if (g_made < 0 ∨ z14.1 ≤ g_made.toNatClampNeg) then none else
      some ((z16.2.1 g_made.toNatClampNeg), x1, x2, x3, t_known, t_span, t_size, t_statesN, t_states, t_wantingN, t_wanting, t_earliestN, t_earliest, z13.1, z13.2.1, z13.2.2.1, z13.2.2.2.1, z13.2.2.2.2.1, z13.2.2.2.2.2.1, z13.2.2.2.2.2.2.1, z13.2.2.2.2.2.2.2.1, z13.2.2.2.2.2.2.2.2.1, z14.1, z16.2.1, z14.2.2.1, z16.2.2.1, z14.2.2.2.2.1, z16.2.2.2, ((0 + z13.2.2.2.2.2.2.2.2.2.1) + z14.2.2.2.2.2.2.1), ((0 + z13.2.2.2.2.2.2.2.2.2.2) + z14.2.2.2.2.2.2.2))))))
/-! TelescopeNight$Plans.findBest()V -/
def pX4_findBest (p_kind : Int32) (p_chosenSlot : Int32) (p_chosenTarget : Int32) (p_valuesN : Nat) (p_values : Nat → Int64) (p_waysN : Nat) (p_ways : Nat → Int64) (p_firstsN : Nat) (p_firsts : Nat → Int64) (p_known : Int32) (p_bestValue : Int64) (p_bestWays : Int64) (p_bestFirst : Int64) (n_slots : Int32) (n_targets : Int32) (n_teams : Int32) (n_numbers : Nat → Int32) (n_seen : Nat → Int32) (n_odds : Nat → Int32) (g_present : Int32) (g_sky : Int32) (g_waived : Int32) (g_made : Int32) (t_withTurns : Int32) (t_known : Int32) (t_span : Int32) (t_size : Int32) (t_statesN : Nat) (t_states : Nat → Int32) (t_wantingN : Nat) (t_wanting : Nat → Int32) (t_earliestN : Nat) (t_earliest : Nat → Int32) (u_withTurns : Int32) (u_known : Int32) (u_span : Int32) (u_size : Int32) (u_statesN : Nat) (u_states : Nat → Int32) (u_wantingN : Nat) (u_wanting : Nat → Int32) (u_earliestN : Nat) (u_earliest : Nat → Int32) : Option (Int32 × Int32 × Int32 × Int32 × Int64 × Int64 × Int64 × Int32 × Int32 × Int32 × Nat × (Nat → Int32) × Nat × (Nat → Int32) × Nat × (Nat → Int32) × Int32 × Int32 × Int32 × Nat × (Nat → Int32) × Nat × (Nat → Int32) × Nat × (Nat → Int32) × Nat × (Nat → Int64) × Nat × (Nat → Int64) × Nat × (Nat → Int64) × Nat × Nat) :=
  if ¬ p_known = 0 then
    some (p_kind, p_chosenSlot, p_chosenTarget, p_known, p_bestValue, p_bestWays, p_bestFirst, t_known, t_span, t_size, t_statesN, t_states, t_wantingN, t_wanting, t_earliestN, t_earliest, u_known, u_span, u_size, u_statesN, u_states, u_wantingN, u_wanting, u_earliestN, u_earliest, p_valuesN, p_values, p_waysN, p_ways, p_firstsN, p_firsts, 0, 0)
  else
    ob (pX4_most (0 : Int32) (-1 : Int32) (-1 : Int32) p_valuesN p_values p_waysN p_ways p_firstsN p_firsts n_slots n_targets n_teams n_numbers n_seen n_odds g_present g_sky g_waived g_made t_withTurns t_known t_span t_size t_statesN t_states t_wantingN t_wanting t_earliestN t_earliest u_withTurns u_known u_span u_size u_statesN u_states u_wantingN u_wanting u_earliestN u_earliest) (fun z1 =>
    if (g_made < 0 ∨ z1.2.2.2.2.2.2.2.2.2.2.2.2.2.2.2.2.2.2.2.2.2.2.2.2.1 ≤ g_made.toNatClampNeg) then none else
    if (g_made < 0 ∨ z1.2.2.2.2.2.2.2.2.2.2.2.2.2.2.2.2.2.2.2.2.2.2.2.2.2.2.1 ≤ g_made.toNatClampNeg) then none else
    some (z1.2.1, z1.2.2.1, z1.2.2.2.1, (1 : Int32), z1.1, (z1.2.2.2.2.2.2.2.2.2.2.2.2.2.2.2.2.2.2.2.2.2.2.2.2.2.1 g_made.toNatClampNeg), (z1.2.2.2.2.2.2.2.2.2.2.2.2.2.2.2.2.2.2.2.2.2.2.2.2.2.2.2.1 g_made.toNatClampNeg), z1.2.2.2.2.1, z1.2.2.2.2.2.1, z1.2.2.2.2.2.2.1, z1.2.2.2.2.2.2.2.1, z1.2.2.2.2.2.2.2.2.1, z1.2.2.2.2.2.2.2.2.2.1, z1.2.2.2.2.2.2.2.2.2.2.1, z1.2.2.2.2.2.2.2.2.2.2.2.1, z1.2.2.2.2.2.2.2.2.2.2.2.2.1, z1.2.2.2.2.2.2.2.2.2.2.2.2.2.1, z1.2.2.2.2.2.2.2.2.2.2.2.2.2.2.1, z1.2.2.2.2.2.2.2.2.2.2.2.2.2.2.2.1, z1.2.2.2.2.2.2.2.2.2.2.2.2.2.2.2.2.1, z1.2.2.2.2.2.2.2.2.2.2.2.2.2.2.2.2.2.1, z1.2.2.2.2.2.2.2.2.2.2.2.2.2.2.2.2.2.2.1, z1.2.2.2.2.2.2.2.2.2.2.2.2.2.2.2.2.2.2.2.1, z1.2.2.2.2.2.2.2.2.2.2.2.2.2.2.2.2.2.2.2.2.1, z1.2.2.2.2.2.2.2.2.2.2.2.2.2.2.2.2.2.2.2.2.2.1, z1.2.2.2.2.2.2.2.2.2.2.2.2.2.2.2.2.2.2.2.2.2.2.1, z1.2.2.2.2.2.2.2.2.2.2.2.2.2.2.2.2.2.2.2.2.2.2.2.1, z1.2.2.2.2.2.2.2.2.2.2.2.2.2.2.2.2.2.2.2.2.2.2.2.2.1, z1.2.2.2.2.2.2.2.2.2.2.2.2.2.2.2.2.2.2.2.2.2.2.2.2.2.1, z1.2.2.2.2.2.2.2.2.2.2.2.2.2.2.2.2.2.2.2.2.2.2.2.2.2.2.1, z1.2.2.2.2.2.2.2.2.2.2.2.2.2.2.2.2.2.2.2.2.2.2.2.2.2.2.2.1, (0 + z1.2.2.2.2.2.2.2.2.2.2.2.2.2.2.2.2.2.2.2.2.2.2.2.2.2.2.2.2.1), (0 + z1.2.2.2.2.2.2.2.2.2.2.2.2.2.2.2.2.2.2.2.2.2.2.2.2.2.2.2.2.2)))
/-! TelescopeNight$Plans.targetOfBest(I)I -/
def pX4_targetOfBest (x1 : Int32) (p_bestFirst : Int64) : Option (Int32) :=
  if ¬ (((p_bestFirst >>> ((((3 : Int32) * x1)).toInt64 &&& 63))).toInt32 &&& (7 : Int32)) = (7 : Int32) then
    some (((p_bestFirst >>> ((((3 : Int32) * x1)).toInt64 &&& 63))).toInt32 &&& (7 : Int32))
  else
    some (-1 : Int32)
/-! TelescopeNight$Plans.valueOfGreedy()J -/
def lpX4_valueOfGreedy_24 (p_kind : Int32) (n_slots : Int32) (n_targets : Int32) (n_teams : Int32) (n_numbers : Nat → Int32) (n_seen : Nat → Int32) (n_odds : Nat → Int32) (g_present : Int32) (g_sky : Int32) (g_waived : Int32) : Nat → Int64 → Int32 → Int32 → Option (Int64 × Int32 × Int32)
  | 0, _, _, _ => none
  | fu + 1, l1, l3, l4 =>
    if n_slots ≤ l4 then
      some (l1, l3, l4)
    else
      ob (pX2_teamsInTurn l3 g_waived n_targets n_teams n_numbers) (fun z1 =>
      ob (pX2_targetsIn l4 n_slots n_seen) (fun z2 =>
      ob (pX2_wanting l3 z1 n_targets n_numbers) (fun z3 =>
      ob (pX4_isCloudyNow l4 g_present g_sky) (fun z4 =>
      if z4 = 0 then
        ob (pX2_dearest (z2 &&& z3) n_targets n_numbers) (fun z5 =>
        if z5 = (-1 : Int32) then
          lpX4_valueOfGreedy_24 p_kind n_slots n_targets n_teams n_numbers n_seen n_odds g_present g_sky g_waived fu l1 l3 (l4 + (1 : Int32))
        else
          ob (pX4_gain z5 l4 p_kind n_slots n_numbers n_odds g_present g_sky) (fun z6 =>
          ob (pX8_oneOf z5) (fun z7 =>
          lpX4_valueOfGreedy_24 p_kind n_slots n_targets n_teams n_numbers n_seen n_odds g_present g_sky g_waived fu (l1 + z6) (l3 + z7) (l4 + (1 : Int32)))))
      else
        lpX4_valueOfGreedy_24 p_kind n_slots n_targets n_teams n_numbers n_seen n_odds g_present g_sky g_waived fu l1 l3 (l4 + (1 : Int32))))))
def pX4_valueOfGreedy (n_slots : Int32) (n_targets : Int32) (n_teams : Int32) (n_numbers : Nat → Int32) (n_seen : Nat → Int32) (n_odds : Nat → Int32) (g_present : Int32) (g_sky : Int32) (g_waived : Int32) (g_made : Int32) : Option (Int64) :=
  ob (lpX4_valueOfGreedy_24 (0 : Int32) n_slots n_targets n_teams n_numbers n_seen n_odds g_present g_sky g_waived lpF (0 : Int64) g_made g_present) (fun z8 =>
  some z8.1)
/-! TelescopeNight$Outlook.<init>(LTelescopeNight$Night;)V -/
def pX3_init  : Option (Nat × Nat) :=
  some (2, 0)
/-! TelescopeNight$Outlook.makeRoom(I)V -/
def pX3_makeRoom (x1 : Int32) (o_clearN : Nat) (o_clear : Nat → Int64) (o_cloudyN : Nat) (o_cloudy : Nat → Int64) : Option (Nat × (Nat → Int64) × Nat × (Nat → Int64) × Nat × Nat) :=
  if x1 ≤ (nI o_clearN) then
    some (o_clearN, o_clear, o_cloudyN, o_cloudy, 0, 0)
  else
    if (x1 < 0 ∨ 60000000 < x1.toNatClampNeg) then none else
    some (x1.toNatClampNeg, (fun _ => 0), x1.toNatClampNeg, (fun _ => 0), 2, ((0 + x1.toNatClampNeg) + x1.toNatClampNeg))
/-! TelescopeNight$Outlook.put(IJJ)V -/
def pX3_put (x1 : Int32) (x2 : Int64) (x3 : Int64) (o_clearN : Nat) (o_clear : Nat → Int64) (o_cloudyN : Nat) (o_cloudy : Nat → Int64) : Option ((Nat → Int64) × (Nat → Int64)) :=
  if (x1 < 0 ∨ o_clearN ≤ x1.toNatClampNeg) then none else
  if (x1 < 0 ∨ o_cloudyN ≤ x1.toNatClampNeg) then none else
  some ((vp_updL o_clear x1.toNatClampNeg x2), (vp_updL o_cloudy x1.toNatClampNeg x3))
/-! TelescopeNight.mixed(IJJ)J -/
def pX8_mixed (x0 : Int32) (x1 : Int64) (x2 : Int64) : Option (Int64) :=
  some (((x0.toInt64 * x1) + ((((100 : Int32) - x0)).toInt64 * x2)) / (100 : Int64))
/-! TelescopeNight$Outlook.behindClear(I)J -/
def pX3_behindClear (x1 : Int32) (o_clearN : Nat) (o_clear : Nat → Int64) (o_cloudyN : Nat) (o_cloudy : Nat → Int64) (n_percents : Nat → Int32) : Option (Int64) :=
  if (x1 < 0 ∨ o_clearN ≤ x1.toNatClampNeg) then none else
  if (x1 < 0 ∨ o_cloudyN ≤ x1.toNatClampNeg) then none else
  ob (pX8_mixed (n_percents 1) (o_clear x1.toNatClampNeg) (o_cloudy x1.toNatClampNeg)) (fun z1 =>
  some z1)
/-! TelescopeNight$Outlook.behindCloudy(I)J -/
def pX3_behindCloudy (x1 : Int32) (o_clearN : Nat) (o_clear : Nat → Int64) (o_cloudyN : Nat) (o_cloudy : Nat → Int64) (n_percents : Nat → Int32) : Option (Int64) :=
  if (x1 < 0 ∨ o_clearN ≤ x1.toNatClampNeg) then none else
  if (x1 < 0 ∨ o_cloudyN ≤ x1.toNatClampNeg) then none else
  ob (pX8_mixed (n_percents 2) (o_clear x1.toNatClampNeg) (o_cloudy x1.toNatClampNeg)) (fun z1 =>
  some z1)
/-! TelescopeNight$Decisions.<init>(LTelescopeNight$Night;LTelescopeNight$Progress;LTelescopeNight$Reach;)V -/
def pX0_init  : Option (Nat × Nat) :=
  ob (pX3_init) (fun z1 =>
  ob (pX3_init) (fun z2 =>
  some ((((1 + z1.1) + 1) + z2.1), (((3 + z1.2) + 3) + z2.2))))
/-! TelescopeNight$Decisions.forget()V -/
def pX0_forget  : Option (Unit) :=
  some ()
/-! TelescopeNight$Decisions.atEnd(I)J -/
def pX0_atEnd (x1 : Int32) (q_kind : Int32) (q_counted : Int32) (n_numbers : Nat → Int32) : Option (Int64) :=
  if ¬ q_kind = (2 : Int32) then
    some (0 : Int64)
  else
    ob (pX8_madeOf x1 q_counted) (fun z1 =>
    ob (pX2_number q_counted (7 : Int32) n_numbers) (fun z2 =>
    if z1 < z2 then
      some (0 : Int64)
    else
      some (1000000 : Int64)))
/-! TelescopeNight$Decisions.startAtEnd(I)V -/
def pX0_startAtEnd (x1 : Int32) (q_kind : Int32) (q_counted : Int32) (n_numbers : Nat → Int32) (b_clearN : Nat) (b_clear : Nat → Int64) (b_cloudyN : Nat) (b_cloudy : Nat → Int64) (w_clearN : Nat) (w_clear : Nat → Int64) (w_cloudyN : Nat) (w_cloudy : Nat → Int64) : Option ((Nat → Int64) × (Nat → Int64) × (Nat → Int64) × (Nat → Int64)) :=
  ob (pX3_put x1 (0 : Int64) (0 : Int64) b_clearN b_clear b_cloudyN b_cloudy) (fun z1 =>
  if q_kind = 0 then
    some (z1.1, z1.2, w_clear, w_cloudy)
  else
    ob (pX0_atEnd x1 q_kind q_counted n_numbers) (fun z2 =>
    ob (pX0_atEnd x1 q_kind q_counted n_numbers) (fun z3 =>
    ob (pX3_put x1 z2 z3 w_clearN w_clear w_cloudyN w_cloudy) (fun z4 =>
    some (z1.1, z1.2, z4.1, z4.2)))))
/-! TelescopeNight$Decisions.valueOf(II)J -/
def pX0_valueOf (x1 : Int32) (x2 : Int32) (n_percents : Nat → Int32) (n_numbers : Nat → Int32) (b_clearN : Nat) (b_clear : Nat → Int64) (b_cloudyN : Nat) (b_cloudy : Nat → Int64) : Option (Int64) :=
  ob (pX2_number x2 (8 : Int32) n_numbers) (fun z1 =>
  ob (pX8_oneOf x2) (fun z2 =>
  ob (pX3_behindClear (x1 + z2) b_clearN b_clear b_cloudyN b_cloudy n_percents) (fun z3 =>
  some ((z1.toInt64 * (1000000 : Int64)) + z3))))
/-! TelescopeNight$Decisions.bestChoice(II)I -/
def lpX0_bestChoice_26 (l1 : Int32) (l3 : Int32) (n_targets : Int32) (n_percents : Nat → Int32) (n_numbers : Nat → Int32) (b_clearN : Nat) (b_clear : Nat → Int64) (b_cloudyN : Nat) (b_cloudy : Nat → Int64) : Nat → Int32 → Int64 → Int32 → Option (Int32 × Int64 × Int32)
  | 0, _, _, _ => none
  | fu + 1, l4, l5, l7 =>
    if n_targets ≤ l7 then
      some (l4, l5, l7)
    else
      ob (pX8_has l3 l7) (fun z3 =>
      if ¬ z3 = 0 then
        ob (pX0_valueOf l1 l7 n_percents n_numbers b_clearN b_clear b_cloudyN b_cloudy) (fun z4 =>
        if 0 < (lg_cmp z4 l5) then
          lpX0_bestChoice_26 l1 l3 n_targets n_percents n_numbers b_clearN b_clear b_cloudyN b_cloudy fu l7 z4 (l7 + (1 : Int32))
        else
          if ¬ (lg_cmp z4 l5) = 0 then
            lpX0_bestChoice_26 l1 l3 n_targets n_percents n_numbers b_clearN b_clear b_cloudyN b_cloudy fu l4 l5 (l7 + (1 : Int32))
          else
            if ¬ l4 = (-1 : Int32) then
              lpX0_bestChoice_26 l1 l3 n_targets n_percents n_numbers b_clearN b_clear b_cloudyN b_cloudy fu l4 l5 (l7 + (1 : Int32))
            else
              lpX0_bestChoice_26 l1 l3 n_targets n_percents n_numbers b_clearN b_clear b_cloudyN b_cloudy fu l7 z4 (l7 + (1 : Int32)))
      else
        lpX0_bestChoice_26 l1 l3 n_targets n_percents n_numbers b_clearN b_clear b_cloudyN b_cloudy fu l4 l5 (l7 + (1 : Int32)))
def pX0_bestChoice (x1 : Int32) (x2 : Int32) (n_slots : Int32) (n_targets : Int32) (n_percents : Nat → Int32) (n_numbers : Nat → Int32) (n_seen : Nat → Int32) (t_wantingN : Nat) (t_wanting : Nat → Int32) (b_clearN : Nat) (b_clear : Nat → Int64) (b_cloudyN : Nat) (b_cloudy : Nat → Int64) : Option (Int32) :=
  ob (pX6_possible x1 x2 t_wantingN t_wanting n_slots n_seen) (fun z1 =>
  ob (pX3_behindClear x1 b_clearN b_clear b_cloudyN b_cloudy n_percents) (fun z2 =>
  ob (lpX0_bestChoice_26 x1 z1 n_targets n_percents n_numbers b_clearN b_clear b_cloudyN b_cloudy lpF (-1 : Int32) z2 (0 : Int32)) (fun z5 =>
  some z5.1)))
/-! TelescopeNight$Decisions.bestIfClear(II)J -/
def pX0_bestIfClear (x1 : Int32) (x2 : Int32) (n_percents : Nat → Int32) (n_numbers : Nat → Int32) (b_clearN : Nat) (b_clear : Nat → Int64) (b_cloudyN : Nat) (b_cloudy : Nat → Int64) : Option (Int64) :=
  if ¬ x2 = (-1 : Int32) then
    ob (pX0_valueOf x1 x2 n_percents n_numbers b_clearN b_clear b_cloudyN b_cloudy) (fun z1 =>
    some z1)
  else
    ob (pX3_behindClear x1 b_clearN b_clear b_cloudyN b_cloudy n_percents) (fun z2 =>
    some z2)
/-! TelescopeNight$Decisions.gain(I)J -/
def pX0_gain (x1 : Int32) (q_kind : Int32) (q_counted : Int32) (n_numbers : Nat → Int32) : Option (Int64) :=
  if ¬ q_kind = (3 : Int32) then
    if ¬ q_kind = (1 : Int32) then
      some (0 : Int64)
    else
      if ¬ x1 = q_counted then
        some (0 : Int64)
      else
        some (1000000 : Int64)
  else
    ob (pX2_number x1 (8 : Int32) n_numbers) (fun z1 =>
    some (z1.toInt64 * (1000000 : Int64)))
/-! TelescopeNight$Decisions.followedIfClear(III)J -/
def pX0_followedIfClear (x1 : Int32) (x2 : Int32) (x3 : Int32) (q_kind : Int32) (q_counted : Int32) (n_slots : Int32) (n_targets : Int32) (n_percents : Nat → Int32) (n_numbers : Nat → Int32) (n_seen : Nat → Int32) (t_wantingN : Nat) (t_wanting : Nat → Int32) (w_clearN : Nat) (w_clear : Nat → Int64) (w_cloudyN : Nat) (w_cloudy : Nat → Int64) : Option (Int64) :=
  if ¬ q_kind = (3 : Int32) then
    if ¬ x3 = (-1 : Int32) then
      ob (pX0_gain x3 q_kind q_counted n_numbers) (fun z1 =>
      ob (pX8_oneOf x3) (fun z2 =>
      ob (pX3_behindClear (x1 + z2) w_clearN w_clear w_cloudyN w_cloudy n_percents) (fun z3 =>
      some (z1 + z3))))
    else
      ob (pX3_behindClear x1 w_clearN w_clear w_cloudyN w_cloudy n_percents) (fun z4 =>
      some z4)
  else
    ob (pX6_possible x1 x2 t_wantingN t_wanting n_slots n_seen) (fun z5 =>
    ob (pX2_dearest z5 n_targets n_numbers) (fun z6 =>
    if ¬ z6 = (-1 : Int32) then
      ob (pX0_gain z6 q_kind q_counted n_numbers) (fun z7 =>
      ob (pX8_oneOf z6) (fun z8 =>
      ob (pX3_behindClear (x1 + z8) w_clearN w_clear w_cloudyN w_cloudy n_percents) (fun z9 =>
      some (z7 + z9))))
    else
      ob (pX3_behindClear x1 w_clearN w_clear w_cloudyN w_cloudy n_percents) (fun z10 =>
      some z10)))
/-! TelescopeNight$Decisions.stepBack(I)V -/
def lpX0_stepBack_2 (l1 : Int32) (q_kind : Int32) (q_counted : Int32) (n_slots : Int32) (n_targets : Int32) (n_percents : Nat → Int32) (n_numbers : Nat → Int32) (n_seen : Nat → Int32) (t_size : Int32) (t_statesN : Nat) (t_states : Nat → Int32) (t_wantingN : Nat) (t_wanting : Nat → Int32) (t_earliestN : Nat) (t_earliest : Nat → Int32) (b_clearN : Nat) (b_cloudyN : Nat) (w_clearN : Nat) (w_cloudyN : Nat) : Nat → Int32 → (Nat → Int64) → (Nat → Int64) → (Nat → Int64) → (Nat → Int64) → Option (Int32 × (Nat → Int64) × (Nat → Int64) × (Nat → Int64) × (Nat → Int64))
  | 0, _, _, _, _, _ => none
  | fu + 1, l2, b_clear, b_cloudy, w_clear, w_cloudy =>
    if t_size ≤ l2 then
      some (l2, b_clear, b_cloudy, w_clear, w_cloudy)
    else
      if (l2 < 0 ∨ t_statesN ≤ l2.toNatClampNeg) then none else
      ob (pX6_holds (t_states l2.toNatClampNeg) l1 t_earliestN t_earliest) (fun z1 =>
      if ¬ z1 = 0 then
        ob (pX0_bestChoice (t_states l2.toNatClampNeg) l1 n_slots n_targets n_percents n_numbers n_seen t_wantingN t_wanting b_clearN b_clear b_cloudyN b_cloudy) (fun z2 =>
        ob (pX0_bestIfClear (t_states l2.toNatClampNeg) z2 n_percents n_numbers b_clearN b_clear b_cloudyN b_cloudy) (fun z3 =>
        ob (pX3_behindCloudy (t_states l2.toNatClampNeg) b_clearN b_clear b_cloudyN b_cloudy n_percents) (fun z4 =>
        ob (pX3_put (t_states l2.toNatClampNeg) z3 z4 b_clearN b_clear b_cloudyN b_cloudy) (fun z5 =>
        if q_kind = 0 then
          lpX0_stepBack_2 l1 q_kind q_counted n_slots n_targets n_percents n_numbers n_seen t_size t_statesN t_states t_wantingN t_wanting t_earliestN t_earliest b_clearN b_cloudyN w_clearN w_cloudyN fu (l2 + (1 : Int32)) z5.1 z5.2 w_clear w_cloudy
        else
          ob (pX0_followedIfClear (t_states l2.toNatClampNeg) l1 z2 q_kind q_counted n_slots n_targets n_percents n_numbers n_seen t_wantingN t_wanting w_clearN w_clear w_cloudyN w_cloudy) (fun z6 =>
          ob (pX3_behindCloudy (t_states l2.toNatClampNeg) w_clearN w_clear w_cloudyN w_cloudy n_percents) (fun z7 =>
          ob (pX3_put (t_states l2.toNatClampNeg) z6 z7 w_clearN w_clear w_cloudyN w_cloudy) (fun z8 =>
          lpX0_stepBack_2 l1 q_kind q_counted n_slots n_targets n_percents n_numbers n_seen t_size t_statesN t_states t_wantingN t_wanting t_earliestN t_earliest b_clearN b_cloudyN w_clearN w_cloudyN fu (l2 + (1 : Int32)) z5.1 z5.2 z8.1 z8.2)))))))
      else
        lpX0_stepBack_2 l1 q_kind q_counted n_slots n_targets n_percents n_numbers n_seen t_size t_statesN t_states t_wantingN t_wanting t_earliestN t_earliest b_clearN b_cloudyN w_clearN w_cloudyN fu (l2 + (1 : Int32)) b_clear b_cloudy w_clear w_cloudy)
def pX0_stepBack (x1 : Int32) (q_kind : Int32) (q_counted : Int32) (n_slots : Int32) (n_targets : Int32) (n_percents : Nat → Int32) (n_numbers : Nat → Int32) (n_seen : Nat → Int32) (t_size : Int32) (t_statesN : Nat) (t_states : Nat → Int32) (t_wantingN : Nat) (t_wanting : Nat → Int32) (t_earliestN : Nat) (t_earliest : Nat → Int32) (b_clearN : Nat) (b_clear : Nat → Int64) (b_cloudyN : Nat) (b_cloudy : Nat → Int64) (w_clearN : Nat) (w_clear : Nat → Int64) (w_cloudyN : Nat) (w_cloudy : Nat → Int64) : Option ((Nat → Int64) × (Nat → Int64) × (Nat → Int64) × (Nat → Int64)) :=
  ob (lpX0_stepBack_2 x1 q_kind q_counted n_slots n_targets n_percents n_numbers n_seen t_size t_statesN t_states t_wantingN t_wanting t_earliestN t_earliest b_clearN b_cloudyN w_clearN w_cloudyN lpF (0 : Int32) b_clear b_cloudy w_clear w_cloudy) (fun z9 =>
  some (z9.2.1, z9.2.2.1, z9.2.2.2.1, z9.2.2.2.2))
/-! TelescopeNight$Decisions.prepare(II)V -/
def lpX0_prepare_115 (q_kind : Int32) (q_counted : Int32) (n_slots : Int32) (n_targets : Int32) (n_percents : Nat → Int32) (n_numbers : Nat → Int32) (n_seen : Nat → Int32) (g_present : Int32) (t_size : Int32) (t_statesN : Nat) (t_states : Nat → Int32) (t_wantingN : Nat) (t_wanting : Nat → Int32) (t_earliestN : Nat) (t_earliest : Nat → Int32) (b_clearN : Nat) (b_cloudyN : Nat) (w_clearN : Nat) (w_cloudyN : Nat) : Nat → Int32 → (Nat → Int64) → (Nat → Int64) → (Nat → Int64) → (Nat → Int64) → Option (Int32 × (Nat → Int64) × (Nat → Int64) × (Nat → Int64) × (Nat → Int64))
  | 0, _, _, _, _, _ => none
  | fu + 1, l3, b_clear, b_cloudy, w_clear, w_cloudy =>
    if l3 ≤ g_present then
      some (l3, b_clear, b_cloudy, w_clear, w_cloudy)
    else
      ob (pX0_stepBack l3 q_kind q_counted n_slots n_targets n_percents n_numbers n_seen t_size t_statesN t_states t_wantingN t_wanting t_earliestN t_earliest b_clearN b_clear b_cloudyN b_cloudy w_clearN w_clear w_cloudyN w_cloudy) (fun z6 =>
      lpX0_prepare_115 q_kind q_counted n_slots n_targets n_percents n_numbers n_seen g_present t_size t_statesN t_states t_wantingN t_wanting t_earliestN t_earliest b_clearN b_cloudyN w_clearN w_cloudyN fu (l3 + (-1 : Int32)) z6.1 z6.2.1 z6.2.2.1 z6.2.2.2)
def lpX0_prepare_75 (q_kind : Int32) (q_counted : Int32) (n_numbers : Nat → Int32) (t_size : Int32) (t_statesN : Nat) (t_states : Nat → Int32) (b_clearN : Nat) (b_cloudyN : Nat) (w_clearN : Nat) (w_cloudyN : Nat) : Nat → Int32 → (Nat → Int64) → (Nat → Int64) → (Nat → Int64) → (Nat → Int64) → Option (Int32 × (Nat → Int64) × (Nat → Int64) × (Nat → Int64) × (Nat → Int64))
  | 0, _, _, _, _, _ => none
  | fu + 1, l3, b_clear, b_cloudy, w_clear, w_cloudy =>
    if t_size ≤ l3 then
      some (l3, b_clear, b_cloudy, w_clear, w_cloudy)
    else
      if (l3 < 0 ∨ t_statesN ≤ l3.toNatClampNeg) then none else
      ob (pX0_startAtEnd (t_states l3.toNatClampNeg) q_kind q_counted n_numbers b_clearN b_clear b_cloudyN b_cloudy w_clearN w_clear w_cloudyN w_cloudy) (fun z4 =>
      lpX0_prepare_75 q_kind q_counted n_numbers t_size t_statesN t_states b_clearN b_cloudyN w_clearN w_cloudyN fu (l3 + (1 : Int32)) z4.1 z4.2.1 z4.2.2.1 z4.2.2.2)
def pX0_prepare (x1 : Int32) (x2 : Int32) (q_kind : Int32) (q_counted : Int32) (q_known : Int32) (n_slots : Int32) (n_targets : Int32) (n_teams : Int32) (n_percents : Nat → Int32) (n_numbers : Nat → Int32) (n_seen : Nat → Int32) (g_present : Int32) (g_waived : Int32) (g_made : Int32) (t_withTurns : Int32) (t_known : Int32) (t_span : Int32) (t_size : Int32) (t_statesN : Nat) (t_states : Nat → Int32) (t_wantingN : Nat) (t_wanting : Nat → Int32) (t_earliestN : Nat) (t_earliest : Nat → Int32) (b_clearN : Nat) (b_clear : Nat → Int64) (b_cloudyN : Nat) (b_cloudy : Nat → Int64) (w_clearN : Nat) (w_clear : Nat → Int64) (w_cloudyN : Nat) (w_cloudy : Nat → Int64) : Option (Int32 × Int32 × Int32 × Int32 × Int32 × Int32 × Nat × (Nat → Int32) × Nat × (Nat → Int32) × Nat × (Nat → Int32) × Nat × (Nat → Int64) × Nat × (Nat → Int64) × Nat × (Nat → Int64) × Nat × (Nat → Int64) × Nat × Nat) :=
  if q_known = 0 then
    ob (pX6_update t_withTurns t_known t_span t_size t_statesN t_states t_wantingN t_wanting t_earliestN t_earliest n_slots n_targets n_teams n_numbers n_seen g_present g_waived g_made) (fun z1 =>
    ob (pX3_makeRoom z1.2.1 b_clearN b_clear b_cloudyN b_cloudy) (fun z2 =>
    if ¬ x1 = 0 then
      ob (pX3_makeRoom z1.2.1 w_clearN w_clear w_cloudyN w_cloudy) (fun z3 =>
      ob (lpX0_prepare_75 x1 x2 n_numbers z1.2.2.1 z1.2.2.2.1 z1.2.2.2.2.1 z2.1 z2.2.2.1 z3.1 z3.2.2.1 lpF (0 : Int32) z2.2.1 z2.2.2.2.1 z3.2.1 z3.2.2.2.1) (fun z5 =>
      ob (lpX0_prepare_115 x1 x2 n_slots n_targets n_percents n_numbers n_seen g_present z1.2.2.1 z1.2.2.2.1 z1.2.2.2.2.1 z1.2.2.2.2.2.1 z1.2.2.2.2.2.2.1 z1.2.2.2.2.2.2.2.1 z1.2.2.2.2.2.2.2.2.1 z2.1 z2.2.2.1 z3.1 z3.2.2.1 lpF (n_slots - (1 : Int32)) z5.2.1 z5.2.2.1 z5.2.2.2.1 z5.2.2.2.2) (fun z7 =>
      some (x1, x2, (1 : Int32), z1.1, z1.2.1, z1.2.2.1, z1.2.2.2.1, z1.2.2.2.2.1, z1.2.2.2.2.2.1, z1.2.2.2.2.2.2.1, z1.2.2.2.2.2.2.2.1, z1.2.2.2.2.2.2.2.2.1, z2.1, z7.2.1, z2.2.2.1, z7.2.2.1, z3.1, z7.2.2.2.1, z3.2.2.1, z7.2.2.2.2, (((0 + z1.2.2.2.2.2.2.2.2.2.1) + z2.2.2.2.2.1) + z3.2.2.2.2.1), (((0 + z1.2.2.2.2.2.2.2.2.2.2) + z2.2.2.2.2.2) + z3.2.2.2.2.2)))))
    else
      ob (pX3_makeRoom (0 : Int32) w_clearN w_clear w_cloudyN w_cloudy) (fun z8 =>
      ob (lpX0_prepare_75 x1 x2 n_numbers z1.2.2.1 z1.2.2.2.1 z1.2.2.2.2.1 z2.1 z2.2.2.1 z8.1 z8.2.2.1 lpF (0 : Int32) z2.2.1 z2.2.2.2.1 z8.2.1 z8.2.2.2.1) (fun z9 =>
      ob (lpX0_prepare_115 x1 x2 n_slots n_targets n_percents n_numbers n_seen g_present z1.2.2.1 z1.2.2.2.1 z1.2.2.2.2.1 z1.2.2.2.2.2.1 z1.2.2.2.2.2.2.1 z1.2.2.2.2.2.2.2.1 z1.2.2.2.2.2.2.2.2.1 z2.1 z2.2.2.1 z8.1 z8.2.2.1 lpF (n_slots - (1 : Int32)) z9.2.1 z9.2.2.1 z9.2.2.2.1 z9.2.2.2.2) (fun z10 =>
      some (x1, x2, (1 : Int32), z1.1, z1.2.1, z1.2.2.1, z1.2.2.2.1, z1.2.2.2.2.1, z1.2.2.2.2.2.1, z1.2.2.2.2.2.2.1, z1.2.2.2.2.2.2.2.1, z1.2.2.2.2.2.2.2.2.1, z2.1, z10.2.1, z2.2.2.1, z10.2.2.1, z8.1, z10.2.2.2.1, z8.2.2.1, z10.2.2.2.2, (((0 + z1.2.2.2.2.2.2.2.2.2.1) + z2.2.2.2.2.1) + z8.2.2.2.2.1), (((0 + z1.2.2.2.2.2.2.2.2.2.2) + z2.2.2.2.2.2) + z8.2.2.2.2.2)))))))
  else
    if ¬ x1 = 0 then
      ob (pX6_update t_withTurns t_known t_span t_size t_statesN t_states t_wantingN t_wanting t_earliestN t_earliest n_slots n_targets n_teams n_numbers n_seen g_present g_waived g_made) (fun z11 =>
      ob (pX3_makeRoom z11.2.1 b_clearN b_clear b_cloudyN b_cloudy) (fun z12 =>
      ob (pX3_makeRoom z11.2.1 w_clearN w_clear w_cloudyN w_cloudy) (fun z13 =>
      ob (lpX0_prepare_75 x1 x2 n_numbers z11.2.2.1 z11.2.2.2.1 z11.2.2.2.2.1 z12.1 z12.2.2.1 z13.1 z13.2.2.1 lpF (0 : Int32) z12.2.1 z12.2.2.2.1 z13.2.1 z13.2.2.2.1) (fun z14 =>
      ob (lpX0_prepare_115 x1 x2 n_slots n_targets n_percents n_numbers n_seen g_present z11.2.2.1 z11.2.2.2.1 z11.2.2.2.2.1 z11.2.2.2.2.2.1 z11.2.2.2.2.2.2.1 z11.2.2.2.2.2.2.2.1 z11.2.2.2.2.2.2.2.2.1 z12.1 z12.2.2.1 z13.1 z13.2.2.1 lpF (n_slots - (1 : Int32)) z14.2.1 z14.2.2.1 z14.2.2.2.1 z14.2.2.2.2) (fun z15 =>
      some (x1, x2, (1 : Int32), z11.1, z11.2.1, z11.2.2.1, z11.2.2.2.1, z11.2.2.2.2.1, z11.2.2.2.2.2.1, z11.2.2.2.2.2.2.1, z11.2.2.2.2.2.2.2.1, z11.2.2.2.2.2.2.2.2.1, z12.1, z15.2.1, z12.2.2.1, z15.2.2.1, z13.1, z15.2.2.2.1, z13.2.2.1, z15.2.2.2.2, (((0 + z11.2.2.2.2.2.2.2.2.2.1) + z12.2.2.2.2.1) + z13.2.2.2.2.1), (((0 + z11.2.2.2.2.2.2.2.2.2.2) + z12.2.2.2.2.2) + z13.2.2.2.2.2)))))))
    else
      some (q_kind, q_counted, q_known, t_known, t_span, t_size, t_statesN, t_states, t_wantingN, t_wanting, t_earliestN, t_earliest, b_clearN, b_clear, b_cloudyN, b_cloudy, w_clearN, w_clear, w_cloudyN, w_cloudy, 0, 0)
/-! TelescopeNight$Decisions.isOver()Z -/
def pX0_isOver (n_slots : Int32) (g_present : Int32) : Option (Int32) :=
  if g_present < n_slots then
    some (0 : Int32)
  else
    some (1 : Int32)
/-! TelescopeNight$Decisions.percentNow()I -/
def pX0_percentNow (n_slots : Int32) (n_percents : Nat → Int32) (n_odds : Nat → Int32) (g_present : Int32) (g_pastSkies : Nat → Int32) : Option (Int32) :=
  if ¬ g_present = 0 then
    ob (pX5_skyBefore g_present g_pastSkies) (fun z1 =>
    if ¬ z1 = 0 then
      if ¬ z1 = (1 : Int32) then
        some (n_percents 2)
      else
        some (n_percents 1)
    else
      ob (pX2_oddsIn g_present n_slots n_odds) (fun z2 =>
      some (z2 / (10000 : Int32))))
  else
    some (n_percents 0)
/-! TelescopeNight$Decisions.meanNow(JJ)J -/
def pX0_meanNow (x1 : Int64) (x2 : Int64) (n_slots : Int32) (n_percents : Nat → Int32) (n_odds : Nat → Int32) (g_present : Int32) (g_sky : Int32) (g_pastSkies : Nat → Int32) : Option (Int64) :=
  if ¬ g_sky = 0 then
    if ¬ g_sky = (1 : Int32) then
      some x2
    else
      some x1
  else
    ob (pX0_percentNow n_slots n_percents n_odds g_present g_pastSkies) (fun z1 =>
    ob (pX8_mixed z1 x1 x2) (fun z2 =>
    some z2))
/-! TelescopeNight$Decisions.bestMean()J -/
def pX0_bestMean (q_kind : Int32) (q_counted : Int32) (q_known : Int32) (n_slots : Int32) (n_targets : Int32) (n_teams : Int32) (n_percents : Nat → Int32) (n_numbers : Nat → Int32) (n_seen : Nat → Int32) (n_odds : Nat → Int32) (g_present : Int32) (g_sky : Int32) (g_waived : Int32) (g_made : Int32) (g_pastSkies : Nat → Int32) (t_withTurns : Int32) (t_known : Int32) (t_span : Int32) (t_size : Int32) (t_statesN : Nat) (t_states : Nat → Int32) (t_wantingN : Nat) (t_wanting : Nat → Int32) (t_earliestN : Nat) (t_earliest : Nat → Int32) (b_clearN : Nat) (b_clear : Nat → Int64) (b_cloudyN : Nat) (b_cloudy : Nat → Int64) (w_clearN : Nat) (w_clear : Nat → Int64) (w_cloudyN : Nat) (w_cloudy : Nat → Int64) : Option (Int64 × Int32 × Int32 × Int32 × Int32 × Int32 × Int32 × Nat × (Nat → Int32) × Nat × (Nat → Int32) × Nat × (Nat → Int32) × Nat × (Nat → Int64) × Nat × (Nat → Int64) × Nat × (Nat → Int64) × Nat × (Nat → Int64) × Nat × Nat) :=
  ob (pX0_prepare (0 : Int32) (-1 : Int32) q_kind q_counted q_known n_slots n_targets n_teams n_percents n_numbers n_seen g_present g_waived g_made t_withTurns t_known t_span t_size t_statesN t_states t_wantingN t_wanting t_earliestN t_earliest b_clearN b_clear b_cloudyN b_cloudy w_clearN w_clear w_cloudyN w_cloudy) (fun z1 =>
  ob (pX0_isOver n_slots g_present) (fun z2 =>
  if z2 = 0 then
    ob (pX0_bestChoice g_made g_present n_slots n_targets n_percents n_numbers n_seen z1.2.2.2.2.2.2.2.2.1 z1.2.2.2.2.2.2.2.2.2.1 z1.2.2.2.2.2.2.2.2.2.2.2.2.1 z1.2.2.2.2.2.2.2.2.2.2.2.2.2.1 z1.2.2.2.2.2.2.2.2.2.2.2.2.2.2.1 z1.2.2.2.2.2.2.2.2.2.2.2.2.2.2.2.1) (fun z3 =>
    ob (pX0_bestIfClear g_made z3 n_percents n_numbers z1.2.2.2.2.2.2.2.2.2.2.2.2.1 z1.2.2.2.2.2.2.2.2.2.2.2.2.2.1 z1.2.2.2.2.2.2.2.2.2.2.2.2.2.2.1 z1.2.2.2.2.2.2.2.2.2.2.2.2.2.2.2.1) (fun z4 =>
    ob (pX3_behindCloudy g_made z1.2.2.2.2.2.2.2.2.2.2.2.2.1 z1.2.2.2.2.2.2.2.2.2.2.2.2.2.1 z1.2.2.2.2.2.2.2.2.2.2.2.2.2.2.1 z1.2.2.2.2.2.2.2.2.2.2.2.2.2.2.2.1 n_percents) (fun z5 =>
    ob (pX0_meanNow z4 z5 n_slots n_percents n_odds g_present g_sky g_pastSkies) (fun z6 =>
    some (z6, z1.1, z1.2.1, z1.2.2.1, z1.2.2.2.1, z1.2.2.2.2.1, z1.2.2.2.2.2.1, z1.2.2.2.2.2.2.1, z1.2.2.2.2.2.2.2.1, z1.2.2.2.2.2.2.2.2.1, z1.2.2.2.2.2.2.2.2.2.1, z1.2.2.2.2.2.2.2.2.2.2.1, z1.2.2.2.2.2.2.2.2.2.2.2.1, z1.2.2.2.2.2.2.2.2.2.2.2.2.1, z1.2.2.2.2.2.2.2.2.2.2.2.2.2.1, z1.2.2.2.2.2.2.2.2.2.2.2.2.2.2.1, z1.2.2.2.2.2.2.2.2.2.2.2.2.2.2.2.1, z1.2.2.2.2.2.2.2.2.2.2.2.2.2.2.2.2.1, z1.2.2.2.2.2.2.2.2.2.2.2.2.2.2.2.2.2.1, z1.2.2.2.2.2.2.2.2.2.2.2.2.2.2.2.2.2.2.1, z1.2.2.2.2.2.2.2.2.2.2.2.2.2.2.2.2.2.2.2.1, (0 + z1.2.2.2.2.2.2.2.2.2.2.2.2.2.2.2.2.2.2.2.2.1), (0 + z1.2.2.2.2.2.2.2.2.2.2.2.2.2.2.2.2.2.2.2.2.2))))))
  else
    some ((0 : Int64), z1.1, z1.2.1, z1.2.2.1, z1.2.2.2.1, z1.2.2.2.2.1, z1.2.2.2.2.2.1, z1.2.2.2.2.2.2.1, z1.2.2.2.2.2.2.2.1, z1.2.2.2.2.2.2.2.2.1, z1.2.2.2.2.2.2.2.2.2.1, z1.2.2.2.2.2.2.2.2.2.2.1, z1.2.2.2.2.2.2.2.2.2.2.2.1, z1.2.2.2.2.2.2.2.2.2.2.2.2.1, z1.2.2.2.2.2.2.2.2.2.2.2.2.2.1, z1.2.2.2.2.2.2.2.2.2.2.2.2.2.2.1, z1.2.2.2.2.2.2.2.2.2.2.2.2.2.2.2.1, z1.2.2.2.2.2.2.2.2.2.2.2.2.2.2.2.2.1, z1.2.2.2.2.2.2.2.2.2.2.2.2.2.2.2.2.2.1, z1.2.2.2.2.2.2.2.2.2.2.2.2.2.2.2.2.2.2.1, z1.2.2.2.2.2.2.2.2.2.2.2.2.2.2.2.2.2.2.2.1, (0 + z1.2.2.2.2.2.2.2.2.2.2.2.2.2.2.2.2.2.2.2.2.1), (0 + z1.2.2.2.2.2.2.2.2.2.2.2.2.2.2.2.2.2.2.2.2.2))))
/-! TelescopeNight$Decisions.followedMean(II)J -/
def pX0_followedMean (x1 : Int32) (x2 : Int32) (q_kind : Int32) (q_counted : Int32) (q_known : Int32) (n_slots : Int32) (n_targets : Int32) (n_teams : Int32) (n_percents : Nat → Int32) (n_numbers : Nat → Int32) (n_seen : Nat → Int32) (n_odds : Nat → Int32) (g_present : Int32) (g_sky : Int32) (g_waived : Int32) (g_made : Int32) (g_pastSkies : Nat → Int32) (t_withTurns : Int32) (t_known : Int32) (t_span : Int32) (t_size : Int32) (t_statesN : Nat) (t_states : Nat → Int32) (t_wantingN : Nat) (t_wanting : Nat → Int32) (t_earliestN : Nat) (t_earliest : Nat → Int32) (b_clearN : Nat) (b_clear : Nat → Int64) (b_cloudyN : Nat) (b_cloudy : Nat → Int64) (w_clearN : Nat) (w_clear : Nat → Int64) (w_cloudyN : Nat) (w_cloudy : Nat → Int64) : Option (Int64 × Int32 × Int32 × Int32 × Int32 × Int32 × Int32 × Nat × (Nat → Int32) × Nat × (Nat → Int32) × Nat × (Nat → Int32) × Nat × (Nat → Int64) × Nat × (Nat → Int64) × Nat × (Nat → Int64) × Nat × (Nat → Int64) × Nat × Nat) :=
  ob (pX0_prepare x1 x2 q_kind q_counted q_known n_slots n_targets n_teams n_percents n_numbers n_seen g_present g_waived g_made t_withTurns t_known t_span t_size t_statesN t_states t_wantingN t_wanting t_earliestN t_earliest b_clearN b_clear b_cloudyN b_cloudy w_clearN w_clear w_cloudyN w_cloudy) (fun z1 =>
  ob (pX0_isOver n_slots g_present) (fun z2 =>
  if z2 = 0 then
    ob (pX0_bestChoice g_made g_present n_slots n_targets n_percents n_numbers n_seen z1.2.2.2.2.2.2.2.2.1 z1.2.2.2.2.2.2.2.2.2.1 z1.2.2.2.2.2.2.2.2.2.2.2.2.1 z1.2.2.2.2.2.2.2.2.2.2.2.2.2.1 z1.2.2.2.2.2.2.2.2.2.2.2.2.2.2.1 z1.2.2.2.2.2.2.2.2.2.2.2.2.2.2.2.1) (fun z3 =>
    ob (pX0_followedIfClear g_made g_present z3 z1.1 z1.2.1 n_slots n_targets n_percents n_numbers n_seen z1.2.2.2.2.2.2.2.2.1 z1.2.2.2.2.2.2.2.2.2.1 z1.2.2.2.2.2.2.2.2.2.2.2.2.2.2.2.2.1 z1.2.2.2.2.2.2.2.2.2.2.2.2.2.2.2.2.2.1 z1.2.2.2.2.2.2.2.2.2.2.2.2.2.2.2.2.2.2.1 z1.2.2.2.2.2.2.2.2.2.2.2.2.2.2.2.2.2.2.2.1) (fun z4 =>
    ob (pX3_behindCloudy g_made z1.2.2.2.2.2.2.2.2.2.2.2.2.2.2.2.2.1 z1.2.2.2.2.2.2.2.2.2.2.2.2.2.2.2.2.2.1 z1.2.2.2.2.2.2.2.2.2.2.2.2.2.2.2.2.2.2.1 z1.2.2.2.2.2.2.2.2.2.2.2.2.2.2.2.2.2.2.2.1 n_percents) (fun z5 =>
    ob (pX0_meanNow z4 z5 n_slots n_percents n_odds g_present g_sky g_pastSkies) (fun z6 =>
    some (z6, z1.1, z1.2.1, z1.2.2.1, z1.2.2.2.1, z1.2.2.2.2.1, z1.2.2.2.2.2.1, z1.2.2.2.2.2.2.1, z1.2.2.2.2.2.2.2.1, z1.2.2.2.2.2.2.2.2.1, z1.2.2.2.2.2.2.2.2.2.1, z1.2.2.2.2.2.2.2.2.2.2.1, z1.2.2.2.2.2.2.2.2.2.2.2.1, z1.2.2.2.2.2.2.2.2.2.2.2.2.1, z1.2.2.2.2.2.2.2.2.2.2.2.2.2.1, z1.2.2.2.2.2.2.2.2.2.2.2.2.2.2.1, z1.2.2.2.2.2.2.2.2.2.2.2.2.2.2.2.1, z1.2.2.2.2.2.2.2.2.2.2.2.2.2.2.2.2.1, z1.2.2.2.2.2.2.2.2.2.2.2.2.2.2.2.2.2.1, z1.2.2.2.2.2.2.2.2.2.2.2.2.2.2.2.2.2.2.1, z1.2.2.2.2.2.2.2.2.2.2.2.2.2.2.2.2.2.2.2.1, (0 + z1.2.2.2.2.2.2.2.2.2.2.2.2.2.2.2.2.2.2.2.2.1), (0 + z1.2.2.2.2.2.2.2.2.2.2.2.2.2.2.2.2.2.2.2.2.2))))))
  else
    ob (pX0_atEnd g_made z1.1 z1.2.1 n_numbers) (fun z7 =>
    some (z7, z1.1, z1.2.1, z1.2.2.1, z1.2.2.2.1, z1.2.2.2.2.1, z1.2.2.2.2.2.1, z1.2.2.2.2.2.2.1, z1.2.2.2.2.2.2.2.1, z1.2.2.2.2.2.2.2.2.1, z1.2.2.2.2.2.2.2.2.2.1, z1.2.2.2.2.2.2.2.2.2.2.1, z1.2.2.2.2.2.2.2.2.2.2.2.1, z1.2.2.2.2.2.2.2.2.2.2.2.2.1, z1.2.2.2.2.2.2.2.2.2.2.2.2.2.1, z1.2.2.2.2.2.2.2.2.2.2.2.2.2.2.1, z1.2.2.2.2.2.2.2.2.2.2.2.2.2.2.2.1, z1.2.2.2.2.2.2.2.2.2.2.2.2.2.2.2.2.1, z1.2.2.2.2.2.2.2.2.2.2.2.2.2.2.2.2.2.1, z1.2.2.2.2.2.2.2.2.2.2.2.2.2.2.2.2.2.2.1, z1.2.2.2.2.2.2.2.2.2.2.2.2.2.2.2.2.2.2.2.1, (0 + z1.2.2.2.2.2.2.2.2.2.2.2.2.2.2.2.2.2.2.2.2.1), (0 + z1.2.2.2.2.2.2.2.2.2.2.2.2.2.2.2.2.2.2.2.2.2)))))
/-! TelescopeNight$Decisions.valueNow(I)J -/
def pX0_valueNow (x1 : Int32) (q_kind : Int32) (q_counted : Int32) (q_known : Int32) (n_slots : Int32) (n_targets : Int32) (n_teams : Int32) (n_percents : Nat → Int32) (n_numbers : Nat → Int32) (n_seen : Nat → Int32) (g_present : Int32) (g_waived : Int32) (g_made : Int32) (t_withTurns : Int32) (t_known : Int32) (t_span : Int32) (t_size : Int32) (t_statesN : Nat) (t_states : Nat → Int32) (t_wantingN : Nat) (t_wanting : Nat → Int32) (t_earliestN : Nat) (t_earliest : Nat → Int32) (b_clearN : Nat) (b_clear : Nat → Int64) (b_cloudyN : Nat) (b_cloudy : Nat → Int64) (w_clearN : Nat) (w_clear : Nat → Int64) (w_cloudyN : Nat) (w_cloudy : Nat → Int64) : Option (Int64 × Int32 × Int32 × Int32 × Int32 × Int32 × Int32 × Nat × (Nat → Int32) × Nat × (Nat → Int32) × Nat × (Nat → Int32) × Nat × (Nat → Int64) × Nat × (Nat → Int64) × Nat × (Nat → Int64) × Nat × (Nat → Int64) × Nat × Nat) :=
  ob (pX0_prepare (0 : Int32) (-1 : Int32) q_kind q_counted q_known n_slots n_targets n_teams n_percents n_numbers n_seen g_present g_waived g_made t_withTurns t_known t_span t_size t_statesN t_states t_wantingN t_wanting t_earliestN t_earliest b_clearN b_clear b_cloudyN b_cloudy w_clearN w_clear w_cloudyN w_cloudy) (fun z1 =>
  ob (pX0_valueOf g_made x1 n_percents n_numbers z1.2.2.2.2.2.2.2.2.2.2.2.2.1 z1.2.2.2.2.2.2.2.2.2.2.2.2.2.1 z1.2.2.2.2.2.2.2.2.2.2.2.2.2.2.1 z1.2.2.2.2.2.2.2.2.2.2.2.2.2.2.2.1) (fun z2 =>
  some (z2, z1.1, z1.2.1, z1.2.2.1, z1.2.2.2.1, z1.2.2.2.2.1, z1.2.2.2.2.2.1, z1.2.2.2.2.2.2.1, z1.2.2.2.2.2.2.2.1, z1.2.2.2.2.2.2.2.2.1, z1.2.2.2.2.2.2.2.2.2.1, z1.2.2.2.2.2.2.2.2.2.2.1, z1.2.2.2.2.2.2.2.2.2.2.2.1, z1.2.2.2.2.2.2.2.2.2.2.2.2.1, z1.2.2.2.2.2.2.2.2.2.2.2.2.2.1, z1.2.2.2.2.2.2.2.2.2.2.2.2.2.2.1, z1.2.2.2.2.2.2.2.2.2.2.2.2.2.2.2.1, z1.2.2.2.2.2.2.2.2.2.2.2.2.2.2.2.2.1, z1.2.2.2.2.2.2.2.2.2.2.2.2.2.2.2.2.2.1, z1.2.2.2.2.2.2.2.2.2.2.2.2.2.2.2.2.2.2.1, z1.2.2.2.2.2.2.2.2.2.2.2.2.2.2.2.2.2.2.2.1, (0 + z1.2.2.2.2.2.2.2.2.2.2.2.2.2.2.2.2.2.2.2.2.1), (0 + z1.2.2.2.2.2.2.2.2.2.2.2.2.2.2.2.2.2.2.2.2.2))))
/-! TelescopeNight$Decisions.choiceNow()I -/
def pX0_choiceNow (q_kind : Int32) (q_counted : Int32) (q_known : Int32) (n_slots : Int32) (n_targets : Int32) (n_teams : Int32) (n_percents : Nat → Int32) (n_numbers : Nat → Int32) (n_seen : Nat → Int32) (g_present : Int32) (g_waived : Int32) (g_made : Int32) (t_withTurns : Int32) (t_known : Int32) (t_span : Int32) (t_size : Int32) (t_statesN : Nat) (t_states : Nat → Int32) (t_wantingN : Nat) (t_wanting : Nat → Int32) (t_earliestN : Nat) (t_earliest : Nat → Int32) (b_clearN : Nat) (b_clear : Nat → Int64) (b_cloudyN : Nat) (b_cloudy : Nat → Int64) (w_clearN : Nat) (w_clear : Nat → Int64) (w_cloudyN : Nat) (w_cloudy : Nat → Int64) : Option (Int32 × Int32 × Int32 × Int32 × Int32 × Int32 × Int32 × Nat × (Nat → Int32) × Nat × (Nat → Int32) × Nat × (Nat → Int32) × Nat × (Nat → Int64) × Nat × (Nat → Int64) × Nat × (Nat → Int64) × Nat × (Nat → Int64) × Nat × Nat) :=
  ob (pX0_prepare (0 : Int32) (-1 : Int32) q_kind q_counted q_known n_slots n_targets n_teams n_percents n_numbers n_seen g_present g_waived g_made t_withTurns t_known t_span t_size t_statesN t_states t_wantingN t_wanting t_earliestN t_earliest b_clearN b_clear b_cloudyN b_cloudy w_clearN w_clear w_cloudyN w_cloudy) (fun z1 =>
  ob (pX0_bestChoice g_made g_present n_slots n_targets n_percents n_numbers n_seen z1.2.2.2.2.2.2.2.2.1 z1.2.2.2.2.2.2.2.2.2.1 z1.2.2.2.2.2.2.2.2.2.2.2.2.1 z1.2.2.2.2.2.2.2.2.2.2.2.2.2.1 z1.2.2.2.2.2.2.2.2.2.2.2.2.2.2.1 z1.2.2.2.2.2.2.2.2.2.2.2.2.2.2.2.1) (fun z2 =>
  some (z2, z1.1, z1.2.1, z1.2.2.1, z1.2.2.2.1, z1.2.2.2.2.1, z1.2.2.2.2.2.1, z1.2.2.2.2.2.2.1, z1.2.2.2.2.2.2.2.1, z1.2.2.2.2.2.2.2.2.1, z1.2.2.2.2.2.2.2.2.2.1, z1.2.2.2.2.2.2.2.2.2.2.1, z1.2.2.2.2.2.2.2.2.2.2.2.1, z1.2.2.2.2.2.2.2.2.2.2.2.2.1, z1.2.2.2.2.2.2.2.2.2.2.2.2.2.1, z1.2.2.2.2.2.2.2.2.2.2.2.2.2.2.1, z1.2.2.2.2.2.2.2.2.2.2.2.2.2.2.2.1, z1.2.2.2.2.2.2.2.2.2.2.2.2.2.2.2.2.1, z1.2.2.2.2.2.2.2.2.2.2.2.2.2.2.2.2.2.1, z1.2.2.2.2.2.2.2.2.2.2.2.2.2.2.2.2.2.2.1, z1.2.2.2.2.2.2.2.2.2.2.2.2.2.2.2.2.2.2.2.1, (0 + z1.2.2.2.2.2.2.2.2.2.2.2.2.2.2.2.2.2.2.2.2.1), (0 + z1.2.2.2.2.2.2.2.2.2.2.2.2.2.2.2.2.2.2.2.2.2))))
/-! TelescopeNight$Decisions.clearOverCloudy()J -/
def pX0_clearOverCloudy (q_kind : Int32) (q_counted : Int32) (q_known : Int32) (n_slots : Int32) (n_targets : Int32) (n_teams : Int32) (n_percents : Nat → Int32) (n_numbers : Nat → Int32) (n_seen : Nat → Int32) (g_present : Int32) (g_waived : Int32) (g_made : Int32) (t_withTurns : Int32) (t_known : Int32) (t_span : Int32) (t_size : Int32) (t_statesN : Nat) (t_states : Nat → Int32) (t_wantingN : Nat) (t_wanting : Nat → Int32) (t_earliestN : Nat) (t_earliest : Nat → Int32) (b_clearN : Nat) (b_clear : Nat → Int64) (b_cloudyN : Nat) (b_cloudy : Nat → Int64) (w_clearN : Nat) (w_clear : Nat → Int64) (w_cloudyN : Nat) (w_cloudy : Nat → Int64) : Option (Int64 × Int32 × Int32 × Int32 × Int32 × Int32 × Int32 × Nat × (Nat → Int32) × Nat × (Nat → Int32) × Nat × (Nat → Int32) × Nat × (Nat → Int64) × Nat × (Nat → Int64) × Nat × (Nat → Int64) × Nat × (Nat → Int64) × Nat × Nat) :=
  ob (pX0_prepare (0 : Int32) (-1 : Int32) q_kind q_counted q_known n_slots n_targets n_teams n_percents n_numbers n_seen g_present g_waived g_made t_withTurns t_known t_span t_size t_statesN t_states t_wantingN t_wanting t_earliestN t_earliest b_clearN b_clear b_cloudyN b_cloudy w_clearN w_clear w_cloudyN w_cloudy) (fun z1 =>
  ob (pX0_bestChoice g_made g_present n_slots n_targets n_percents n_numbers n_seen z1.2.2.2.2.2.2.2.2.1 z1.2.2.2.2.2.2.2.2.2.1 z1.2.2.2.2.2.2.2.2.2.2.2.2.1 z1.2.2.2.2.2.2.2.2.2.2.2.2.2.1 z1.2.2.2.2.2.2.2.2.2.2.2.2.2.2.1 z1.2.2.2.2.2.2.2.2.2.2.2.2.2.2.2.1) (fun z2 =>
  ob (pX0_bestIfClear g_made z2 n_percents n_numbers z1.2.2.2.2.2.2.2.2.2.2.2.2.1 z1.2.2.2.2.2.2.2.2.2.2.2.2.2.1 z1.2.2.2.2.2.2.2.2.2.2.2.2.2.2.1 z1.2.2.2.2.2.2.2.2.2.2.2.2.2.2.2.1) (fun z3 =>
  ob (pX3_behindCloudy g_made z1.2.2.2.2.2.2.2.2.2.2.2.2.1 z1.2.2.2.2.2.2.2.2.2.2.2.2.2.1 z1.2.2.2.2.2.2.2.2.2.2.2.2.2.2.1 z1.2.2.2.2.2.2.2.2.2.2.2.2.2.2.2.1 n_percents) (fun z4 =>
  some ((z3 - z4), z1.1, z1.2.1, z1.2.2.1, z1.2.2.2.1, z1.2.2.2.2.1, z1.2.2.2.2.2.1, z1.2.2.2.2.2.2.1, z1.2.2.2.2.2.2.2.1, z1.2.2.2.2.2.2.2.2.1, z1.2.2.2.2.2.2.2.2.2.1, z1.2.2.2.2.2.2.2.2.2.2.1, z1.2.2.2.2.2.2.2.2.2.2.2.1, z1.2.2.2.2.2.2.2.2.2.2.2.2.1, z1.2.2.2.2.2.2.2.2.2.2.2.2.2.1, z1.2.2.2.2.2.2.2.2.2.2.2.2.2.2.1, z1.2.2.2.2.2.2.2.2.2.2.2.2.2.2.2.1, z1.2.2.2.2.2.2.2.2.2.2.2.2.2.2.2.2.1, z1.2.2.2.2.2.2.2.2.2.2.2.2.2.2.2.2.2.1, z1.2.2.2.2.2.2.2.2.2.2.2.2.2.2.2.2.2.2.1, z1.2.2.2.2.2.2.2.2.2.2.2.2.2.2.2.2.2.2.2.1, (0 + z1.2.2.2.2.2.2.2.2.2.2.2.2.2.2.2.2.2.2.2.2.1), (0 + z1.2.2.2.2.2.2.2.2.2.2.2.2.2.2.2.2.2.2.2.2.2))))))
/-! TelescopeNight$Reader.<init>()V -/
def pX7_init  : Option (Nat × Nat) :=
  some (2, 509)
/-! TelescopeNight$Reader.hasRoom()Z -/
def pX7_hasRoom (r_filled : Int32) : Option (Int32) :=
  if (500 : Int32) < (r_filled + (20 : Int32)) then
    some (0 : Int32)
  else
    some (1 : Int32)
/-! TelescopeNight$Reader.add(I)V -/
def lpX7_add_3 (l1 : Int32) : Nat → Int32 → (Nat → Int32) → Int32 → Option (Int32 × (Nat → Int32) × Int32)
  | 0, _, _, _ => none
  | fu + 1, l2, r_bytes, r_filled =>
    if l2 < 0 then
      some (l2, r_bytes, r_filled)
    else
      if (500 : Int32) ≤ r_filled then
        some (l2, r_bytes, r_filled)
      else
        if (r_filled < 0 ∨ 500 ≤ r_filled.toNatClampNeg) then none else
        lpX7_add_3 l1 fu (l2 + (-8 : Int32)) (upd r_bytes r_filled.toNatClampNeg (((l1 >>> (l2 &&& 31)) &&& (255 : Int32)))) (r_filled + (1 : Int32))
def pX7_add (x1 : Int32) (r_bytes : Nat → Int32) (r_filled : Int32) : Option (Int32 × (Nat → Int32)) :=
  ob (lpX7_add_3 x1 lpF (24 : Int32) r_bytes r_filled) (fun z1 =>
  some (z1.2.2, z1.2.1))
/-! TelescopeNight$Reader.skipSpaces()V -/
def lpX7_skipSpaces_0 (r_bytes : Nat → Int32) (r_end : Int32) : Nat → Int32 → Option (Int32)
  | 0, _ => none
  | fu + 1, r_at =>
    if r_end ≤ r_at then
      some r_at
    else
      if (r_at < 0 ∨ 500 ≤ r_at.toNatClampNeg) then none else
      if ¬ (r_bytes r_at.toNatClampNeg) = (32 : Int32) then
        some r_at
      else
        lpX7_skipSpaces_0 r_bytes r_end fu (r_at + (1 : Int32))
def pX7_skipSpaces (r_bytes : Nat → Int32) (r_end : Int32) (r_at : Int32) : Option (Int32) :=
  ob (lpX7_skipSpaces_0 r_bytes r_end lpF r_at) (fun z1 =>
  some z1)
/-! TelescopeNight$Reader.takeWord()V -/
def lpX7_takeWord_12 (r_bytes : Nat → Int32) (r_end : Int32) : Nat → Int32 → Option (Int32)
  | 0, _ => none
  | fu + 1, r_at =>
    if r_end ≤ r_at then
      some r_at
    else
      if (r_at < 0 ∨ 500 ≤ r_at.toNatClampNeg) then none else
      if (r_bytes r_at.toNatClampNeg) < (97 : Int32) then
        some r_at
      else
        if (122 : Int32) < (r_bytes r_at.toNatClampNeg) then
          some r_at
        else
          lpX7_takeWord_12 r_bytes r_end fu (r_at + (1 : Int32))
def pX7_takeWord (r_bytes : Nat → Int32) (r_end : Int32) (r_at : Int32) : Option (Int32 × Int32) :=
  ob (pX7_skipSpaces r_bytes r_end r_at) (fun z1 =>
  ob (lpX7_takeWord_12 r_bytes r_end lpF z1) (fun z2 =>
  some (z2, z1)))
/-! java/lang/String.coder()B -/
def pJ0_coder_7d493_1100  : Option (Int32) :=
  if (narrow .byte (.int (0 : Int32)) = .int (0 : Int32)) then some (0 : Int32) else none
/-! java/lang/String.length()I -/
def pJ0_length_8abf5_1100  : Option (Int32) :=
  ob (pJ0_coder_7d493_1100) (fun z1 =>
  some ((nI (strN.getD (1120 - 1120) 0)) >>> (z1 &&& 31)))
/-! java/lang/String.isLatin1()Z -/
def pJ0_isLatin1_aae02_1100  : Option (Int32) :=
  some (1 : Int32)
/-! jdk/internal/util/Preconditions.checkIndex(IILjava/util/function/BiFunction;)I -/
def pJ3_checkIndex_8e157_1140 (x0 : Int32) (x1 : Int32) : Option (Int32) :=
  if x0 < 0 then
    none
  else
    if x0 < x1 then
      some x0
    else
      none
/-! jdk/internal/util/Preconditions.checkIndex(IILjava/util/function/BiFunction;)I -/
def pJ3_checkIndex_8e157_null (x0 : Int32) (x1 : Int32) : Option (Int32) :=
  if x0 < 0 then
    none
  else
    if x0 < x1 then
      some x0
    else
      none
/-! java/lang/String.checkIndex(II)V -/
def pJ0_checkIndex_df160 (x0 : Int32) (x1 : Int32) : Option (Unit) :=
  ob (pJ3_checkIndex_8e157_1140 x0 x1) (fun z1 =>
  some ())
/-! java/lang/StringLatin1.charAt([BI)C -/
def pJ1_charAt_3b067_1120 (x1 : Int32) : Option (Int32) :=
  ob (pJ0_checkIndex_df160 x1 (nI (strN.getD (1120 - 1120) 0))) (fun z1 =>
  if (x1 < 0 ∨ (strN.getD (1120 - 1120) 0) ≤ x1.toNatClampNeg) then none else
  if (narrow .char (.int (((((strB.getD (1120 - 1120) []).getD x1.toNatClampNeg 0) &&& (255 : Int32))).toUInt32 % 65536).toInt32) = .int (((((strB.getD (1120 - 1120) []).getD x1.toNatClampNeg 0) &&& (255 : Int32))).toUInt32 % 65536).toInt32) then some ((((((strB.getD (1120 - 1120) []).getD x1.toNatClampNeg 0) &&& (255 : Int32))).toUInt32 % 65536).toInt32) else none)
/-! java/lang/String.charAt(I)C -/
def pJ0_charAt_5068e_1100 (x1 : Int32) : Option (Int32) :=
  ob (pJ0_isLatin1_aae02_1100) (fun z1 =>
  if z1 = 0 then
    none
  else
    ob (pJ1_charAt_3b067_1120 x1) (fun z2 =>
    if (narrow .char (.int z2) = .int z2) then some z2 else none))
/-! TelescopeNight$Reader.wordIs(Ljava/lang/String;)Z -/
def lpX7_wordIs_1100_20 (r_bytes : Nat → Int32) (r_wordStart : Int32) : Nat → Int32 → Option ((Int32) ⊕ (Int32))
  | 0, _ => none
  | fu + 1, l2 =>
    ob (pJ0_length_8abf5_1100) (fun z2 =>
    if z2 ≤ l2 then
      some (.inl l2)
    else
      if ((r_wordStart + l2) < 0 ∨ 500 ≤ ((r_wordStart + l2)).toNatClampNeg) then none else
      ob (pJ0_charAt_5068e_1100 l2) (fun z3 =>
      if (r_bytes ((r_wordStart + l2)).toNatClampNeg) = z3 then
        lpX7_wordIs_1100_20 r_bytes r_wordStart fu (l2 + (1 : Int32))
      else
        some (.inr (0 : Int32))))
def pX7_wordIs_1100 (r_bytes : Nat → Int32) (r_at : Int32) (r_wordStart : Int32) : Option (Int32) :=
  ob (pJ0_length_8abf5_1100) (fun z1 =>
  if (r_at - r_wordStart) = z1 then
    ob (lpX7_wordIs_1100_20 r_bytes r_wordStart lpF (0 : Int32)) (fun z4 => match z4 with
    | .inl z4e =>
      some (1 : Int32)
    | .inr z4f => some z4f)
  else
    some (0 : Int32))
/-! TelescopeNight$Reader.fail(II)V -/
def pX7_fail (x1 : Int32) (x2 : Int32) : Option (Int32 × Int32) :=
  some (x1, x2)
/-! TelescopeNight$Reader.isDigit(I)Z -/
def pX7_isDigit (x0 : Int32) : Option (Int32) :=
  if x0 < (48 : Int32) then
    some (0 : Int32)
  else
    if (57 : Int32) < x0 then
      some (0 : Int32)
    else
      some (1 : Int32)
/-! TelescopeNight$Reader.takeDigits()I -/
def lpX7_takeDigits_2 (r_bytes : Nat → Int32) (r_end : Int32) : Nat → Int32 → Int32 → Option (Int32 × Int32)
  | 0, _, _ => none
  | fu + 1, l1, r_at =>
    if r_end ≤ r_at then
      some (l1, r_at)
    else
      if (r_at < 0 ∨ 500 ≤ r_at.toNatClampNeg) then none else
      ob (pX7_isDigit (r_bytes r_at.toNatClampNeg)) (fun z1 =>
      if z1 = 0 then
        some (l1, r_at)
      else
        if l1 < (100000 : Int32) then
          lpX7_takeDigits_2 r_bytes r_end fu ((((10 : Int32) * l1) + (r_bytes r_at.toNatClampNeg)) - (48 : Int32)) (r_at + (1 : Int32))
        else
          lpX7_takeDigits_2 r_bytes r_end fu l1 (r_at + (1 : Int32)))
def pX7_takeDigits (r_bytes : Nat → Int32) (r_end : Int32) (r_at : Int32) : Option (Int32 × Int32) :=
  ob (lpX7_takeDigits_2 r_bytes r_end lpF (0 : Int32) r_at) (fun z2 =>
  some (z2.1, z2.2))
/-! TelescopeNight$Reader.takeNumber(III)Z -/
def pX7_takeNumber (x1 : Int32) (x2 : Int32) (x3 : Int32) (r_bytes : Nat → Int32) (r_values : Nat → Int32) (r_end : Int32) (r_at : Int32) (r_error : Int32) (r_errorAt : Int32) : Option (Int32 × Int32 × Int32 × Int32 × (Nat → Int32)) :=
  ob (pX7_skipSpaces r_bytes r_end r_at) (fun z1 =>
  if 0 ≤ x2 then
    if r_end ≤ z1 then
      ob (pX7_fail (-2 : Int32) z1) (fun z2 =>
      some ((0 : Int32), z1, z2.1, z2.2, r_values))
    else
      if (z1 < 0 ∨ 500 ≤ z1.toNatClampNeg) then none else
      ob (pX7_isDigit (r_bytes z1.toNatClampNeg)) (fun z3 =>
      if ¬ z3 = 0 then
        ob (pX7_takeDigits r_bytes r_end z1) (fun z4 =>
        if z4.1 < x2 then
          ob (pX7_fail (-3 : Int32) z1) (fun z5 =>
          some ((0 : Int32), z4.2, z5.1, z5.2, r_values))
        else
          if z4.1 ≤ x3 then
            if (x1 < 0 ∨ 9 ≤ x1.toNatClampNeg) then none else
            some ((1 : Int32), z4.2, r_error, r_errorAt, (upd r_values x1.toNatClampNeg z4.1))
          else
            ob (pX7_fail (-3 : Int32) z1) (fun z6 =>
            some ((0 : Int32), z4.2, z6.1, z6.2, r_values)))
      else
        ob (pX7_fail (-2 : Int32) z1) (fun z7 =>
        some ((0 : Int32), z1, z7.1, z7.2, r_values)))
  else
    if r_end ≤ z1 then
      ob (pX7_fail (-2 : Int32) z1) (fun z8 =>
      some ((0 : Int32), z1, z8.1, z8.2, r_values))
    else
      if (z1 < 0 ∨ 500 ≤ z1.toNatClampNeg) then none else
      if ¬ (r_bytes z1.toNatClampNeg) = (45 : Int32) then
        ob (pX7_isDigit (r_bytes z1.toNatClampNeg)) (fun z9 =>
        if ¬ z9 = 0 then
          ob (pX7_takeDigits r_bytes r_end z1) (fun z10 =>
          if z10.1 < x2 then
            ob (pX7_fail (-3 : Int32) z1) (fun z11 =>
            some ((0 : Int32), z10.2, z11.1, z11.2, r_values))
          else
            if z10.1 ≤ x3 then
              if (x1 < 0 ∨ 9 ≤ x1.toNatClampNeg) then none else
              some ((1 : Int32), z10.2, r_error, r_errorAt, (upd r_values x1.toNatClampNeg z10.1))
            else
              ob (pX7_fail (-3 : Int32) z1) (fun z12 =>
              some ((0 : Int32), z10.2, z12.1, z12.2, r_values)))
        else
          ob (pX7_fail (-2 : Int32) z1) (fun z13 =>
          some ((0 : Int32), z1, z13.1, z13.2, r_values)))
      else
        if r_end ≤ (z1 + (1 : Int32)) then
          ob (pX7_fail (-2 : Int32) z1) (fun z14 =>
          some ((0 : Int32), (z1 + (1 : Int32)), z14.1, z14.2, r_values))
        else
          if ((z1 + (1 : Int32)) < 0 ∨ 500 ≤ ((z1 + (1 : Int32))).toNatClampNeg) then none else
          ob (pX7_isDigit (r_bytes ((z1 + (1 : Int32))).toNatClampNeg)) (fun z15 =>
          if ¬ z15 = 0 then
            ob (pX7_takeDigits r_bytes r_end (z1 + (1 : Int32))) (fun z16 =>
            if (-z16.1) < x2 then
              ob (pX7_fail (-3 : Int32) z1) (fun z17 =>
              some ((0 : Int32), z16.2, z17.1, z17.2, r_values))
            else
              if (-z16.1) ≤ x3 then
                if (x1 < 0 ∨ 9 ≤ x1.toNatClampNeg) then none else
                some ((1 : Int32), z16.2, r_error, r_errorAt, (upd r_values x1.toNatClampNeg ((-z16.1))))
              else
                ob (pX7_fail (-3 : Int32) z1) (fun z18 =>
                some ((0 : Int32), z16.2, z18.1, z18.2, r_values)))
          else
            ob (pX7_fail (-2 : Int32) z1) (fun z19 =>
            some ((0 : Int32), (z1 + (1 : Int32)), z19.1, z19.2, r_values))))
/-! TelescopeNight$Reader.takeNumbers([I[I)Z -/
def lpX7_takeNumbers_10001001_2 (r_bytes : Nat → Int32) (r_end : Int32) : Nat → Int32 → (Nat → Int32) → Int32 → Int32 → Int32 → Option ((Int32 × (Nat → Int32) × Int32 × Int32 × Int32) ⊕ (Int32 × Int32 × Int32 × Int32 × (Nat → Int32)))
  | 0, _, _, _, _, _ => none
  | fu + 1, l3, r_values, r_at, r_error, r_errorAt =>
    if (nI 1) ≤ l3 then
      some (.inl (l3, r_values, r_at, r_error, r_errorAt))
    else
      if (nI 9) ≤ l3 then
        some (.inl (l3, r_values, r_at, r_error, r_errorAt))
      else
        if (l3 < 0 ∨ 1 ≤ l3.toNatClampNeg) then none else
        ob (pX7_takeNumber l3 (statI 1000 l3.toNatClampNeg) (statI 1001 l3.toNatClampNeg) r_bytes r_values r_end r_at r_error r_errorAt) (fun z1 =>
        if ¬ z1.1 = 0 then
          lpX7_takeNumbers_10001001_2 r_bytes r_end fu (l3 + (1 : Int32)) z1.2.2.2.2 z1.2.1 z1.2.2.1 z1.2.2.2.1
        else
          some (.inr ((0 : Int32), z1.2.1, z1.2.2.1, z1.2.2.2.1, z1.2.2.2.2)))
def pX7_takeNumbers_10001001 (r_bytes : Nat → Int32) (r_values : Nat → Int32) (r_end : Int32) (r_at : Int32) (r_error : Int32) (r_errorAt : Int32) : Option (Int32 × Int32 × Int32 × Int32 × (Nat → Int32)) :=
  ob (lpX7_takeNumbers_10001001_2 r_bytes r_end lpF (0 : Int32) r_values r_at r_error r_errorAt) (fun z2 => match z2 with
  | .inl z2e =>
    ob (pX7_skipSpaces r_bytes r_end z2e.2.2.1) (fun z3 =>
    if r_end ≤ z3 then
      ob (pX7_fail (-2 : Int32) z3) (fun z4 =>
      some ((0 : Int32), z3, z4.1, z4.2, z2e.2.1))
    else
      if (z3 < 0 ∨ 500 ≤ z3.toNatClampNeg) then none else
      if (r_bytes z3.toNatClampNeg) = (59 : Int32) then
        some ((1 : Int32), (z3 + (1 : Int32)), z2e.2.2.2.1, z2e.2.2.2.2, z2e.2.1)
      else
        ob (pX7_fail (-2 : Int32) z3) (fun z5 =>
        some ((0 : Int32), z3, z5.1, z5.2, z2e.2.1)))
  | .inr z2f => some z2f)
/-! TelescopeNight$Reader.readHead(LTelescopeNight$Night;)V -/
def pX7_readHead (r_bytes : Nat → Int32) (r_values : Nat → Int32) (r_end : Int32) (r_at : Int32) (r_error : Int32) (r_errorAt : Int32) (n_slots : Int32) : Option (Int32 × Int32 × Int32 × Int32 × (Nat → Int32) × Int32) :=
  ob (pX7_takeWord r_bytes r_end r_at) (fun z1 =>
  ob (pX7_wordIs_1100 r_bytes z1.1 z1.2) (fun z2 =>
  if ¬ z2 = 0 then
    ob (pX7_takeNumbers_10001001 r_bytes r_values r_end z1.1 r_error r_errorAt) (fun z3 =>
    if z3.1 = 0 then
      some (z3.2.1, z1.2, z3.2.2.1, z3.2.2.2.1, z3.2.2.2.2, n_slots)
    else
      some (z3.2.1, z1.2, z3.2.2.1, z3.2.2.2.1, z3.2.2.2.2, (z3.2.2.2.2 0)))
  else
    ob (pX7_fail (-2 : Int32) z1.2) (fun z4 =>
    some (z1.1, z1.2, z4.1, z4.2, r_values, n_slots))))
/-! TelescopeNight$Reader.atEnd()Z -/
def pX7_atEnd (r_bytes : Nat → Int32) (r_end : Int32) (r_at : Int32) : Option (Int32 × Int32) :=
  ob (pX7_skipSpaces r_bytes r_end r_at) (fun z1 =>
  if z1 < r_end then
    some ((0 : Int32), z1)
  else
    some ((1 : Int32), z1))
/-! java/lang/String.coder()B -/
def pJ0_coder_7d493_1101  : Option (Int32) :=
  if (narrow .byte (.int (0 : Int32)) = .int (0 : Int32)) then some (0 : Int32) else none
/-! java/lang/String.length()I -/
def pJ0_length_8abf5_1101  : Option (Int32) :=
  ob (pJ0_coder_7d493_1101) (fun z1 =>
  some ((nI (strN.getD (1121 - 1120) 0)) >>> (z1 &&& 31)))
/-! java/lang/String.isLatin1()Z -/
def pJ0_isLatin1_aae02_1101  : Option (Int32) :=
  some (1 : Int32)
/-! java/lang/StringLatin1.charAt([BI)C -/
def pJ1_charAt_3b067_1121 (x1 : Int32) : Option (Int32) :=
  ob (pJ0_checkIndex_df160 x1 (nI (strN.getD (1121 - 1120) 0))) (fun z1 =>
  if (x1 < 0 ∨ (strN.getD (1121 - 1120) 0) ≤ x1.toNatClampNeg) then none else
  if (narrow .char (.int (((((strB.getD (1121 - 1120) []).getD x1.toNatClampNeg 0) &&& (255 : Int32))).toUInt32 % 65536).toInt32) = .int (((((strB.getD (1121 - 1120) []).getD x1.toNatClampNeg 0) &&& (255 : Int32))).toUInt32 % 65536).toInt32) then some ((((((strB.getD (1121 - 1120) []).getD x1.toNatClampNeg 0) &&& (255 : Int32))).toUInt32 % 65536).toInt32) else none)
/-! java/lang/String.charAt(I)C -/
def pJ0_charAt_5068e_1101 (x1 : Int32) : Option (Int32) :=
  ob (pJ0_isLatin1_aae02_1101) (fun z1 =>
  if z1 = 0 then
    none
  else
    ob (pJ1_charAt_3b067_1121 x1) (fun z2 =>
    if (narrow .char (.int z2) = .int z2) then some z2 else none))
/-! TelescopeNight$Reader.wordIs(Ljava/lang/String;)Z -/
def lpX7_wordIs_1101_20 (r_bytes : Nat → Int32) (r_wordStart : Int32) : Nat → Int32 → Option ((Int32) ⊕ (Int32))
  | 0, _ => none
  | fu + 1, l2 =>
    ob (pJ0_length_8abf5_1101) (fun z2 =>
    if z2 ≤ l2 then
      some (.inl l2)
    else
      if ((r_wordStart + l2) < 0 ∨ 500 ≤ ((r_wordStart + l2)).toNatClampNeg) then none else
      ob (pJ0_charAt_5068e_1101 l2) (fun z3 =>
      if (r_bytes ((r_wordStart + l2)).toNatClampNeg) = z3 then
        lpX7_wordIs_1101_20 r_bytes r_wordStart fu (l2 + (1 : Int32))
      else
        some (.inr (0 : Int32))))
def pX7_wordIs_1101 (r_bytes : Nat → Int32) (r_at : Int32) (r_wordStart : Int32) : Option (Int32) :=
  ob (pJ0_length_8abf5_1101) (fun z1 =>
  if (r_at - r_wordStart) = z1 then
    ob (lpX7_wordIs_1101_20 r_bytes r_wordStart lpF (0 : Int32)) (fun z4 => match z4 with
    | .inl z4e =>
      some (1 : Int32)
    | .inr z4f => some z4f)
  else
    some (0 : Int32))
/-! java/lang/String.coder()B -/
def pJ0_coder_7d493_1102  : Option (Int32) :=
  if (narrow .byte (.int (0 : Int32)) = .int (0 : Int32)) then some (0 : Int32) else none
/-! java/lang/String.length()I -/
def pJ0_length_8abf5_1102  : Option (Int32) :=
  ob (pJ0_coder_7d493_1102) (fun z1 =>
  some ((nI (strN.getD (1122 - 1120) 0)) >>> (z1 &&& 31)))
/-! java/lang/String.isLatin1()Z -/
def pJ0_isLatin1_aae02_1102  : Option (Int32) :=
  some (1 : Int32)
/-! java/lang/StringLatin1.charAt([BI)C -/
def pJ1_charAt_3b067_1122 (x1 : Int32) : Option (Int32) :=
  ob (pJ0_checkIndex_df160 x1 (nI (strN.getD (1122 - 1120) 0))) (fun z1 =>
  if (x1 < 0 ∨ (strN.getD (1122 - 1120) 0) ≤ x1.toNatClampNeg) then none else
  if (narrow .char (.int (((((strB.getD (1122 - 1120) []).getD x1.toNatClampNeg 0) &&& (255 : Int32))).toUInt32 % 65536).toInt32) = .int (((((strB.getD (1122 - 1120) []).getD x1.toNatClampNeg 0) &&& (255 : Int32))).toUInt32 % 65536).toInt32) then some ((((((strB.getD (1122 - 1120) []).getD x1.toNatClampNeg 0) &&& (255 : Int32))).toUInt32 % 65536).toInt32) else none)
/-! java/lang/String.charAt(I)C -/
def pJ0_charAt_5068e_1102 (x1 : Int32) : Option (Int32) :=
  ob (pJ0_isLatin1_aae02_1102) (fun z1 =>
  if z1 = 0 then
    none
  else
    ob (pJ1_charAt_3b067_1122 x1) (fun z2 =>
    if (narrow .char (.int z2) = .int z2) then some z2 else none))
/-! TelescopeNight$Reader.wordIs(Ljava/lang/String;)Z -/
def lpX7_wordIs_1102_20 (r_bytes : Nat → Int32) (r_wordStart : Int32) : Nat → Int32 → Option ((Int32) ⊕ (Int32))
  | 0, _ => none
  | fu + 1, l2 =>
    ob (pJ0_length_8abf5_1102) (fun z2 =>
    if z2 ≤ l2 then
      some (.inl l2)
    else
      if ((r_wordStart + l2) < 0 ∨ 500 ≤ ((r_wordStart + l2)).toNatClampNeg) then none else
      ob (pJ0_charAt_5068e_1102 l2) (fun z3 =>
      if (r_bytes ((r_wordStart + l2)).toNatClampNeg) = z3 then
        lpX7_wordIs_1102_20 r_bytes r_wordStart fu (l2 + (1 : Int32))
      else
        some (.inr (0 : Int32))))
def pX7_wordIs_1102 (r_bytes : Nat → Int32) (r_at : Int32) (r_wordStart : Int32) : Option (Int32) :=
  ob (pJ0_length_8abf5_1102) (fun z1 =>
  if (r_at - r_wordStart) = z1 then
    ob (lpX7_wordIs_1102_20 r_bytes r_wordStart lpF (0 : Int32)) (fun z4 => match z4 with
    | .inl z4e =>
      some (1 : Int32)
    | .inr z4f => some z4f)
  else
    some (0 : Int32))
/-! java/lang/String.coder()B -/
def pJ0_coder_7d493_1103  : Option (Int32) :=
  if (narrow .byte (.int (0 : Int32)) = .int (0 : Int32)) then some (0 : Int32) else none
/-! java/lang/String.length()I -/
def pJ0_length_8abf5_1103  : Option (Int32) :=
  ob (pJ0_coder_7d493_1103) (fun z1 =>
  some ((nI (strN.getD (1123 - 1120) 0)) >>> (z1 &&& 31)))
/-! java/lang/String.isLatin1()Z -/
def pJ0_isLatin1_aae02_1103  : Option (Int32) :=
  some (1 : Int32)
/-! java/lang/StringLatin1.charAt([BI)C -/
def pJ1_charAt_3b067_1123 (x1 : Int32) : Option (Int32) :=
  ob (pJ0_checkIndex_df160 x1 (nI (strN.getD (1123 - 1120) 0))) (fun z1 =>
  if (x1 < 0 ∨ (strN.getD (1123 - 1120) 0) ≤ x1.toNatClampNeg) then none else
  if (narrow .char (.int (((((strB.getD (1123 - 1120) []).getD x1.toNatClampNeg 0) &&& (255 : Int32))).toUInt32 % 65536).toInt32) = .int (((((strB.getD (1123 - 1120) []).getD x1.toNatClampNeg 0) &&& (255 : Int32))).toUInt32 % 65536).toInt32) then some ((((((strB.getD (1123 - 1120) []).getD x1.toNatClampNeg 0) &&& (255 : Int32))).toUInt32 % 65536).toInt32) else none)
/-! java/lang/String.charAt(I)C -/
def pJ0_charAt_5068e_1103 (x1 : Int32) : Option (Int32) :=
  ob (pJ0_isLatin1_aae02_1103) (fun z1 =>
  if z1 = 0 then
    none
  else
    ob (pJ1_charAt_3b067_1123 x1) (fun z2 =>
    if (narrow .char (.int z2) = .int z2) then some z2 else none))
/-! TelescopeNight$Reader.wordIs(Ljava/lang/String;)Z -/
def lpX7_wordIs_1103_20 (r_bytes : Nat → Int32) (r_wordStart : Int32) : Nat → Int32 → Option ((Int32) ⊕ (Int32))
  | 0, _ => none
  | fu + 1, l2 =>
    ob (pJ0_length_8abf5_1103) (fun z2 =>
    if z2 ≤ l2 then
      some (.inl l2)
    else
      if ((r_wordStart + l2) < 0 ∨ 500 ≤ ((r_wordStart + l2)).toNatClampNeg) then none else
      ob (pJ0_charAt_5068e_1103 l2) (fun z3 =>
      if (r_bytes ((r_wordStart + l2)).toNatClampNeg) = z3 then
        lpX7_wordIs_1103_20 r_bytes r_wordStart fu (l2 + (1 : Int32))
      else
        some (.inr (0 : Int32))))
def pX7_wordIs_1103 (r_bytes : Nat → Int32) (r_at : Int32) (r_wordStart : Int32) : Option (Int32) :=
  ob (pJ0_length_8abf5_1103) (fun z1 =>
  if (r_at - r_wordStart) = z1 then
    ob (lpX7_wordIs_1103_20 r_bytes r_wordStart lpF (0 : Int32)) (fun z4 => match z4 with
    | .inl z4e =>
      some (1 : Int32)
    | .inr z4f => some z4f)
  else
    some (0 : Int32))
/-! TelescopeNight$Reader.takeNumbers([I[I)Z -/
def lpX7_takeNumbers_10061007_2 (r_bytes : Nat → Int32) (r_end : Int32) : Nat → Int32 → (Nat → Int32) → Int32 → Int32 → Int32 → Option ((Int32 × (Nat → Int32) × Int32 × Int32 × Int32) ⊕ (Int32 × Int32 × Int32 × Int32 × (Nat → Int32)))
  | 0, _, _, _, _, _ => none
  | fu + 1, l3, r_values, r_at, r_error, r_errorAt =>
    if (nI 9) ≤ l3 then
      some (.inl (l3, r_values, r_at, r_error, r_errorAt))
    else
      if (l3 < 0 ∨ 9 ≤ l3.toNatClampNeg) then none else
      ob (pX7_takeNumber l3 (statI 1006 l3.toNatClampNeg) (statI 1007 l3.toNatClampNeg) r_bytes r_values r_end r_at r_error r_errorAt) (fun z1 =>
      if ¬ z1.1 = 0 then
        lpX7_takeNumbers_10061007_2 r_bytes r_end fu (l3 + (1 : Int32)) z1.2.2.2.2 z1.2.1 z1.2.2.1 z1.2.2.2.1
      else
        some (.inr ((0 : Int32), z1.2.1, z1.2.2.1, z1.2.2.2.1, z1.2.2.2.2)))
def pX7_takeNumbers_10061007 (r_bytes : Nat → Int32) (r_values : Nat → Int32) (r_end : Int32) (r_at : Int32) (r_error : Int32) (r_errorAt : Int32) : Option (Int32 × Int32 × Int32 × Int32 × (Nat → Int32)) :=
  ob (lpX7_takeNumbers_10061007_2 r_bytes r_end lpF (0 : Int32) r_values r_at r_error r_errorAt) (fun z2 => match z2 with
  | .inl z2e =>
    ob (pX7_skipSpaces r_bytes r_end z2e.2.2.1) (fun z3 =>
    if r_end ≤ z3 then
      ob (pX7_fail (-2 : Int32) z3) (fun z4 =>
      some ((0 : Int32), z3, z4.1, z4.2, z2e.2.1))
    else
      if (z3 < 0 ∨ 500 ≤ z3.toNatClampNeg) then none else
      if (r_bytes z3.toNatClampNeg) = (59 : Int32) then
        some ((1 : Int32), (z3 + (1 : Int32)), z2e.2.2.2.1, z2e.2.2.2.2, z2e.2.1)
      else
        ob (pX7_fail (-2 : Int32) z3) (fun z5 =>
        some ((0 : Int32), z3, z5.1, z5.2, z2e.2.1)))
  | .inr z2f => some z2f)
/-! TelescopeNight$Reader.readTarget(LTelescopeNight$Night;)V -/
def pX7_readTarget (r_bytes : Nat → Int32) (r_values : Nat → Int32) (r_end : Int32) (r_at : Int32) (r_wordStart : Int32) (r_error : Int32) (r_errorAt : Int32) (n_targets : Int32) (n_numbers : Nat → Int32) : Option (Int32 × Int32 × Int32 × (Nat → Int32) × Int32 × (Nat → Int32)) :=
  if n_targets < (6 : Int32) then
    ob (pX7_takeNumbers_10061007 r_bytes r_values r_end r_at r_error r_errorAt) (fun z1 =>
    if z1.1 = 0 then
      some (z1.2.1, z1.2.2.1, z1.2.2.2.1, z1.2.2.2.2, n_targets, n_numbers)
    else
      if (((0 : Int32) < 0 ∨ (n_targets * (9 : Int32)) < 0 ∨ (9 : Int32) < 0) ∨ 9 < ((0 : Int32)).toNatClampNeg + ((9 : Int32)).toNatClampNeg ∨ 54 < ((n_targets * (9 : Int32))).toNatClampNeg + ((9 : Int32)).toNatClampNeg) then none else
      some (z1.2.1, z1.2.2.1, z1.2.2.2.1, z1.2.2.2.2, (n_targets + (1 : Int32)), (va_cpy z1.2.2.2.2 n_numbers 0 (((n_targets * (9 : Int32))).toNatClampNeg) 9)))
  else
    ob (pX7_fail (-4 : Int32) r_wordStart) (fun z2 =>
    some (r_at, z2.1, z2.2, r_values, n_targets, n_numbers))
/-! TelescopeNight$Reader.takeNumbers([I[I)Z -/
def lpX7_takeNumbers_10041005_2 (r_bytes : Nat → Int32) (r_end : Int32) : Nat → Int32 → (Nat → Int32) → Int32 → Int32 → Int32 → Option ((Int32 × (Nat → Int32) × Int32 × Int32 × Int32) ⊕ (Int32 × Int32 × Int32 × Int32 × (Nat → Int32)))
  | 0, _, _, _, _, _ => none
  | fu + 1, l3, r_values, r_at, r_error, r_errorAt =>
    if (nI 3) ≤ l3 then
      some (.inl (l3, r_values, r_at, r_error, r_errorAt))
    else
      if (nI 9) ≤ l3 then
        some (.inl (l3, r_values, r_at, r_error, r_errorAt))
      else
        if (l3 < 0 ∨ 3 ≤ l3.toNatClampNeg) then none else
        ob (pX7_takeNumber l3 (statI 1004 l3.toNatClampNeg) (statI 1005 l3.toNatClampNeg) r_bytes r_values r_end r_at r_error r_errorAt) (fun z1 =>
        if ¬ z1.1 = 0 then
          lpX7_takeNumbers_10041005_2 r_bytes r_end fu (l3 + (1 : Int32)) z1.2.2.2.2 z1.2.1 z1.2.2.1 z1.2.2.2.1
        else
          some (.inr ((0 : Int32), z1.2.1, z1.2.2.1, z1.2.2.2.1, z1.2.2.2.2)))
def pX7_takeNumbers_10041005 (r_bytes : Nat → Int32) (r_values : Nat → Int32) (r_end : Int32) (r_at : Int32) (r_error : Int32) (r_errorAt : Int32) : Option (Int32 × Int32 × Int32 × Int32 × (Nat → Int32)) :=
  ob (lpX7_takeNumbers_10041005_2 r_bytes r_end lpF (0 : Int32) r_values r_at r_error r_errorAt) (fun z2 => match z2 with
  | .inl z2e =>
    ob (pX7_skipSpaces r_bytes r_end z2e.2.2.1) (fun z3 =>
    if r_end ≤ z3 then
      ob (pX7_fail (-2 : Int32) z3) (fun z4 =>
      some ((0 : Int32), z3, z4.1, z4.2, z2e.2.1))
    else
      if (z3 < 0 ∨ 500 ≤ z3.toNatClampNeg) then none else
      if (r_bytes z3.toNatClampNeg) = (59 : Int32) then
        some ((1 : Int32), (z3 + (1 : Int32)), z2e.2.2.2.1, z2e.2.2.2.2, z2e.2.1)
      else
        ob (pX7_fail (-2 : Int32) z3) (fun z5 =>
        some ((0 : Int32), z3, z5.1, z5.2, z2e.2.1)))
  | .inr z2f => some z2f)
/-! TelescopeNight$Reader.takeNumbers([I[I)Z -/
def lpX7_takeNumbers_10021003_2 (r_bytes : Nat → Int32) (r_end : Int32) : Nat → Int32 → (Nat → Int32) → Int32 → Int32 → Int32 → Option ((Int32 × (Nat → Int32) × Int32 × Int32 × Int32) ⊕ (Int32 × Int32 × Int32 × Int32 × (Nat → Int32)))
  | 0, _, _, _, _, _ => none
  | fu + 1, l3, r_values, r_at, r_error, r_errorAt =>
    if (nI 6) ≤ l3 then
      some (.inl (l3, r_values, r_at, r_error, r_errorAt))
    else
      if (nI 9) ≤ l3 then
        some (.inl (l3, r_values, r_at, r_error, r_errorAt))
      else
        if (l3 < 0 ∨ 6 ≤ l3.toNatClampNeg) then none else
        ob (pX7_takeNumber l3 (statI 1002 l3.toNatClampNeg) (statI 1003 l3.toNatClampNeg) r_bytes r_values r_end r_at r_error r_errorAt) (fun z1 =>
        if ¬ z1.1 = 0 then
          lpX7_takeNumbers_10021003_2 r_bytes r_end fu (l3 + (1 : Int32)) z1.2.2.2.2 z1.2.1 z1.2.2.1 z1.2.2.2.1
        else
          some (.inr ((0 : Int32), z1.2.1, z1.2.2.1, z1.2.2.2.1, z1.2.2.2.2)))
def pX7_takeNumbers_10021003 (r_bytes : Nat → Int32) (r_values : Nat → Int32) (r_end : Int32) (r_at : Int32) (r_error : Int32) (r_errorAt : Int32) : Option (Int32 × Int32 × Int32 × Int32 × (Nat → Int32)) :=
  ob (lpX7_takeNumbers_10021003_2 r_bytes r_end lpF (0 : Int32) r_values r_at r_error r_errorAt) (fun z2 => match z2 with
  | .inl z2e =>
    ob (pX7_skipSpaces r_bytes r_end z2e.2.2.1) (fun z3 =>
    if r_end ≤ z3 then
      ob (pX7_fail (-2 : Int32) z3) (fun z4 =>
      some ((0 : Int32), z3, z4.1, z4.2, z2e.2.1))
    else
      if (z3 < 0 ∨ 500 ≤ z3.toNatClampNeg) then none else
      if (r_bytes z3.toNatClampNeg) = (59 : Int32) then
        some ((1 : Int32), (z3 + (1 : Int32)), z2e.2.2.2.1, z2e.2.2.2.2, z2e.2.1)
      else
        ob (pX7_fail (-2 : Int32) z3) (fun z5 =>
        some ((0 : Int32), z3, z5.1, z5.2, z2e.2.1)))
  | .inr z2f => some z2f)
/-! TelescopeNight$Reader.readPart(LTelescopeNight$Night;)V -/
def pX7_readPart (r_bytes : Nat → Int32) (r_values : Nat → Int32) (r_end : Int32) (r_at : Int32) (r_hasMoon : Int32) (r_hasSky : Int32) (r_error : Int32) (r_errorAt : Int32) (n_targets : Int32) (n_moon : Nat → Int32) (n_percents : Nat → Int32) (n_numbers : Nat → Int32) : Option (Int32 × Int32 × Int32 × Int32 × Int32 × Int32 × (Nat → Int32) × Int32 × (Nat → Int32) × (Nat → Int32) × (Nat → Int32)) :=
  ob (pX7_takeWord r_bytes r_end r_at) (fun z1 =>
  ob (pX7_wordIs_1101 r_bytes z1.1 z1.2) (fun z2 =>
  if z2 = 0 then
    ob (pX7_wordIs_1102 r_bytes z1.1 z1.2) (fun z3 =>
    if z3 = 0 then
      ob (pX7_wordIs_1103 r_bytes z1.1 z1.2) (fun z4 =>
      if z4 = 0 then
        ob (pX7_fail (-2 : Int32) z1.2) (fun z5 =>
        some (z1.1, z1.2, r_hasMoon, r_hasSky, z5.1, z5.2, r_values, n_targets, n_moon, n_percents, n_numbers))
      else
        ob (pX7_readTarget r_bytes r_values r_end z1.1 z1.2 r_error r_errorAt n_targets n_numbers) (fun z6 =>
        some (z6.1, z1.2, r_hasMoon, r_hasSky, z6.2.1, z6.2.2.1, z6.2.2.2.1, z6.2.2.2.2.1, n_moon, n_percents, z6.2.2.2.2.2)))
    else
      if ¬ r_hasSky = 0 then
        ob (pX7_wordIs_1103 r_bytes z1.1 z1.2) (fun z7 =>
        if z7 = 0 then
          ob (pX7_fail (-2 : Int32) z1.2) (fun z8 =>
          some (z1.1, z1.2, r_hasMoon, r_hasSky, z8.1, z8.2, r_values, n_targets, n_moon, n_percents, n_numbers))
        else
          ob (pX7_readTarget r_bytes r_values r_end z1.1 z1.2 r_error r_errorAt n_targets n_numbers) (fun z9 =>
          some (z9.1, z1.2, r_hasMoon, r_hasSky, z9.2.1, z9.2.2.1, z9.2.2.2.1, z9.2.2.2.2.1, n_moon, n_percents, z9.2.2.2.2.2)))
      else
        ob (pX7_takeNumbers_10041005 r_bytes r_values r_end z1.1 r_error r_errorAt) (fun z10 =>
        if z10.1 = 0 then
          some (z10.2.1, z1.2, r_hasMoon, (1 : Int32), z10.2.2.1, z10.2.2.2.1, z10.2.2.2.2, n_targets, n_moon, n_percents, n_numbers)
        else
          some (z10.2.1, z1.2, r_hasMoon, (1 : Int32), z10.2.2.1, z10.2.2.2.1, z10.2.2.2.2, n_targets, n_moon, (va_cpy z10.2.2.2.2 n_percents 0 0 3), n_numbers)))
  else
    if ¬ r_hasMoon = 0 then
      ob (pX7_wordIs_1102 r_bytes z1.1 z1.2) (fun z11 =>
      if z11 = 0 then
        ob (pX7_wordIs_1103 r_bytes z1.1 z1.2) (fun z12 =>
        if z12 = 0 then
          ob (pX7_fail (-2 : Int32) z1.2) (fun z13 =>
          some (z1.1, z1.2, r_hasMoon, r_hasSky, z13.1, z13.2, r_values, n_targets, n_moon, n_percents, n_numbers))
        else
          ob (pX7_readTarget r_bytes r_values r_end z1.1 z1.2 r_error r_errorAt n_targets n_numbers) (fun z14 =>
          some (z14.1, z1.2, r_hasMoon, r_hasSky, z14.2.1, z14.2.2.1, z14.2.2.2.1, z14.2.2.2.2.1, n_moon, n_percents, z14.2.2.2.2.2)))
      else
        if ¬ r_hasSky = 0 then
          ob (pX7_wordIs_1103 r_bytes z1.1 z1.2) (fun z15 =>
          if z15 = 0 then
            ob (pX7_fail (-2 : Int32) z1.2) (fun z16 =>
            some (z1.1, z1.2, r_hasMoon, r_hasSky, z16.1, z16.2, r_values, n_targets, n_moon, n_percents, n_numbers))
          else
            ob (pX7_readTarget r_bytes r_values r_end z1.1 z1.2 r_error r_errorAt n_targets n_numbers) (fun z17 =>
            some (z17.1, z1.2, r_hasMoon, r_hasSky, z17.2.1, z17.2.2.1, z17.2.2.2.1, z17.2.2.2.2.1, n_moon, n_percents, z17.2.2.2.2.2)))
        else
          ob (pX7_takeNumbers_10041005 r_bytes r_values r_end z1.1 r_error r_errorAt) (fun z18 =>
          if z18.1 = 0 then
            some (z18.2.1, z1.2, r_hasMoon, (1 : Int32), z18.2.2.1, z18.2.2.2.1, z18.2.2.2.2, n_targets, n_moon, n_percents, n_numbers)
          else
            some (z18.2.1, z1.2, r_hasMoon, (1 : Int32), z18.2.2.1, z18.2.2.2.1, z18.2.2.2.2, n_targets, n_moon, (va_cpy z18.2.2.2.2 n_percents 0 0 3), n_numbers)))
    else
      ob (pX7_takeNumbers_10021003 r_bytes r_values r_end z1.1 r_error r_errorAt) (fun z19 =>
      if z19.1 = 0 then
        some (z19.2.1, z1.2, (1 : Int32), r_hasSky, z19.2.2.1, z19.2.2.2.1, z19.2.2.2.2, n_targets, n_moon, n_percents, n_numbers)
      else
        some (z19.2.1, z1.2, (1 : Int32), r_hasSky, z19.2.2.1, z19.2.2.2.1, z19.2.2.2.2, n_targets, (va_cpy z19.2.2.2.2 n_moon 0 0 6), n_percents, n_numbers))))
/-! TelescopeNight$Reader.read(ILTelescopeNight$Night;)Z -/
def lpX7_read_53 (r_bytes : Nat → Int32) (r_end : Int32) : Nat → Int32 → (Nat → Int32) → Int32 → Int32 → Int32 → Int32 → Int32 → Int32 → Int32 → (Nat → Int32) → (Nat → Int32) → (Nat → Int32) → Option (Int32 × (Nat → Int32) × Int32 × Int32 × Int32 × Int32 × Int32 × Int32 × Int32 × (Nat → Int32) × (Nat → Int32) × (Nat → Int32))
  | 0, _, _, _, _, _, _, _, _, _, _, _, _ => none
  | fu + 1, l3, r_values, r_at, r_wordStart, r_hasMoon, r_hasSky, r_error, r_errorAt, n_targets, n_moon, n_percents, n_numbers =>
    if (500 : Int32) ≤ l3 then
      some (l3, r_values, r_at, r_wordStart, r_hasMoon, r_hasSky, r_error, r_errorAt, n_targets, n_moon, n_percents, n_numbers)
    else
      if ¬ r_error = 0 then
        some (l3, r_values, r_at, r_wordStart, r_hasMoon, r_hasSky, r_error, r_errorAt, n_targets, n_moon, n_percents, n_numbers)
      else
        ob (pX7_atEnd r_bytes r_end r_at) (fun z3 =>
        if ¬ z3.1 = 0 then
          some (l3, r_values, z3.2, r_wordStart, r_hasMoon, r_hasSky, r_error, r_errorAt, n_targets, n_moon, n_percents, n_numbers)
        else
          ob (pX7_readPart r_bytes r_values r_end z3.2 r_hasMoon r_hasSky r_error r_errorAt n_targets n_moon n_percents n_numbers) (fun z4 =>
          lpX7_read_53 r_bytes r_end fu (l3 + (1 : Int32)) z4.2.2.2.2.2.2.1 z4.1 z4.2.1 z4.2.2.1 z4.2.2.2.1 z4.2.2.2.2.1 z4.2.2.2.2.2.1 z4.2.2.2.2.2.2.2.1 z4.2.2.2.2.2.2.2.2.1 z4.2.2.2.2.2.2.2.2.2.1 z4.2.2.2.2.2.2.2.2.2.2))
def pX7_read (x1 : Int32) (r_bytes : Nat → Int32) (r_values : Nat → Int32) (r_filled : Int32) (n_moon : Nat → Int32) (n_percents : Nat → Int32) (n_numbers : Nat → Int32) (n_seen : Nat → Int32) (n_odds : Nat → Int32) : Option (Int32 × Int32 × Int32 × Int32 × Int32 × Int32 × Int32 × Int32 × (Nat → Int32) × Int32 × Int32 × Int32 × (Nat → Int32) × (Nat → Int32) × (Nat → Int32) × (Nat → Int32) × (Nat → Int32)) :=
  ob (pX2_setDefaults n_moon n_percents) (fun z1 =>
  ob (pX7_readHead r_bytes r_values (if r_filled < x1 then r_filled else x1) (0 : Int32) (0 : Int32) (-1 : Int32) (6 : Int32)) (fun z2 =>
  ob (lpX7_read_53 r_bytes (if r_filled < x1 then r_filled else x1) lpF (0 : Int32) z2.2.2.2.2.1 z2.1 z2.2.1 (0 : Int32) (0 : Int32) z2.2.2.1 z2.2.2.2.1 (0 : Int32) z1.1 z1.2 n_numbers) (fun z5 =>
  ob (pX2_settle z2.2.2.2.2.2 z5.2.2.2.2.2.2.2.2.1 z5.2.2.2.2.2.2.2.2.2.1 z5.2.2.2.2.2.2.2.2.2.2.1 z5.2.2.2.2.2.2.2.2.2.2.2 n_seen n_odds) (fun z6 =>
  if ¬ z5.2.2.2.2.2.2.1 = 0 then
    some ((0 : Int32), (if r_filled < x1 then r_filled else x1), z5.2.2.1, z5.2.2.2.1, z5.2.2.2.2.1, z5.2.2.2.2.2.1, z5.2.2.2.2.2.2.1, z5.2.2.2.2.2.2.2.1, z5.2.1, z2.2.2.2.2.2, z5.2.2.2.2.2.2.2.2.1, z6.1, z5.2.2.2.2.2.2.2.2.2.1, z5.2.2.2.2.2.2.2.2.2.2.1, z5.2.2.2.2.2.2.2.2.2.2.2, z6.2.1, z6.2.2)
  else
    some ((1 : Int32), (if r_filled < x1 then r_filled else x1), z5.2.2.1, z5.2.2.2.1, z5.2.2.2.2.1, z5.2.2.2.2.2.1, z5.2.2.2.2.2.2.1, z5.2.2.2.2.2.2.2.1, z5.2.1, z2.2.2.2.2.2, z5.2.2.2.2.2.2.2.2.1, z6.1, z5.2.2.2.2.2.2.2.2.2.1, z5.2.2.2.2.2.2.2.2.2.2.1, z5.2.2.2.2.2.2.2.2.2.2.2, z6.2.1, z6.2.2)))))
/-! TelescopeNight$History.<init>()V -/
def pX1_init  : Option ((Nat → NiS) × Nat × Nat) :=
  ob (pX2_init) (fun z1 =>
  ob (pX5_init) (fun z2 =>
  ob (pX2_init) (fun z3 =>
  ob (pX5_init) (fun z4 =>
  ob (pX2_init) (fun z5 =>
  ob (pX5_init) (fun z6 =>
  ob (pX2_init) (fun z7 =>
  ob (pX5_init) (fun z8 =>
  ob (pX2_init) (fun z9 =>
  ob (pX5_init) (fun z10 =>
  ob (pX2_init) (fun z11 =>
  ob (pX5_init) (fun z12 =>
  ob (pX2_init) (fun z13 =>
  ob (pX5_init) (fun z14 =>
  ob (pX2_init) (fun z15 =>
  ob (pX5_init) (fun z16 =>
  some ((upF (upF (upF (upF (upF (upF (upF (fun _ => ((6 : Int32), (0 : Int32), z1.1, z1.2.1, z1.2.2.1, (fun _ => 0), z1.2.2.2.1, z1.2.2.2.2.1)) 1 ((6 : Int32), (0 : Int32), z3.1, z3.2.1, z3.2.2.1, (fun _ => 0), z3.2.2.2.1, z3.2.2.2.2.1)) 2 ((6 : Int32), (0 : Int32), z5.1, z5.2.1, z5.2.2.1, (fun _ => 0), z5.2.2.2.1, z5.2.2.2.2.1)) 3 ((6 : Int32), (0 : Int32), z7.1, z7.2.1, z7.2.2.1, (fun _ => 0), z7.2.2.2.1, z7.2.2.2.2.1)) 4 ((6 : Int32), (0 : Int32), z9.1, z9.2.1, z9.2.2.1, (fun _ => 0), z9.2.2.2.1, z9.2.2.2.2.1)) 5 ((6 : Int32), (0 : Int32), z11.1, z11.2.1, z11.2.2.1, (fun _ => 0), z11.2.2.2.1, z11.2.2.2.2.1)) 6 ((6 : Int32), (0 : Int32), z13.1, z13.2.1, z13.2.2.1, (fun _ => 0), z13.2.2.2.1, z13.2.2.2.2.1)) 7 ((6 : Int32), (0 : Int32), z15.1, z15.2.1, z15.2.2.1, (fun _ => 0), z15.2.2.2.1, z15.2.2.2.2.1)), (((((((((((((((((((((((((((((((3 + z1.2.2.2.2.2.1) + 1) + z2.1) + 1) + z3.2.2.2.2.2.1) + 1) + z4.1) + 1) + z5.2.2.2.2.2.1) + 1) + z6.1) + 1) + z7.2.2.2.2.2.1) + 1) + z8.1) + 1) + z9.2.2.2.2.2.1) + 1) + z10.1) + 1) + z11.2.2.2.2.2.1) + 1) + z12.1) + 1) + z13.2.2.2.2.2.1) + 1) + z14.1) + 1) + z15.2.2.2.2.2.1) + 1) + z16.1), (((((((((((((((((((((((((((((((24 + z1.2.2.2.2.2.2) + 7) + z2.2) + 8) + z3.2.2.2.2.2.2) + 7) + z4.2) + 8) + z5.2.2.2.2.2.2) + 7) + z6.2) + 8) + z7.2.2.2.2.2.2) + 7) + z8.2) + 8) + z9.2.2.2.2.2.2) + 7) + z10.2) + 8) + z11.2.2.2.2.2.2) + 7) + z12.2) + 8) + z13.2.2.2.2.2.2) + 7) + z14.2) + 8) + z15.2.2.2.2.2.2) + 7) + z16.2))))))))))))))))))
/-! TelescopeNight$History.keep(LTelescopeNight$Night;LTelescopeNight$Progress;)V -/
def pX1_keep (vhn : Int32) (vhs : Int32) (vhN : Nat → NiS) (vhP : Nat → PrS) (vn : NiS) (vg : PrS) : Option (Int32 × Int32 × (Nat → NiS) × (Nat → PrS)) :=
  if vhn = (0 : Int32) then
    ob (pX2_copyFrom ((vhN 0).2.2.2.1) ((vhN 0).2.2.2.2.1) ((vhN 0).2.2.2.2.2.1) ((vhN 0).2.2.2.2.2.2.1) ((vhN 0).2.2.2.2.2.2.2) vn.1 vn.2.1 vn.2.2.1 vn.2.2.2.1 vn.2.2.2.2.1 vn.2.2.2.2.2.1 vn.2.2.2.2.2.2.1 vn.2.2.2.2.2.2.2) (fun z1 =>
    ob (pX5_copyFrom ((vhP 0).2.2.2.2.2.1) ((vhP 0).2.2.2.2.2.2) vg.1 vg.2.1 vg.2.2.1 vg.2.2.2.1 vg.2.2.2.2.1 vg.2.2.2.2.2.1 vg.2.2.2.2.2.2) (fun z2 =>
    some ((1 : Int32), (if (8 : Int32) < (vhs + (1 : Int32)) then (8 : Int32) else (vhs + (1 : Int32))), (upF vhN 0 z1), (upF vhP 0 z2))))
  else if vhn = (1 : Int32) then
    ob (pX2_copyFrom ((vhN 1).2.2.2.1) ((vhN 1).2.2.2.2.1) ((vhN 1).2.2.2.2.2.1) ((vhN 1).2.2.2.2.2.2.1) ((vhN 1).2.2.2.2.2.2.2) vn.1 vn.2.1 vn.2.2.1 vn.2.2.2.1 vn.2.2.2.2.1 vn.2.2.2.2.2.1 vn.2.2.2.2.2.2.1 vn.2.2.2.2.2.2.2) (fun z3 =>
    ob (pX5_copyFrom ((vhP 1).2.2.2.2.2.1) ((vhP 1).2.2.2.2.2.2) vg.1 vg.2.1 vg.2.2.1 vg.2.2.2.1 vg.2.2.2.2.1 vg.2.2.2.2.2.1 vg.2.2.2.2.2.2) (fun z4 =>
    some ((2 : Int32), (if (8 : Int32) < (vhs + (1 : Int32)) then (8 : Int32) else (vhs + (1 : Int32))), (upF vhN 1 z3), (upF vhP 1 z4))))
  else if vhn = (2 : Int32) then
    ob (pX2_copyFrom ((vhN 2).2.2.2.1) ((vhN 2).2.2.2.2.1) ((vhN 2).2.2.2.2.2.1) ((vhN 2).2.2.2.2.2.2.1) ((vhN 2).2.2.2.2.2.2.2) vn.1 vn.2.1 vn.2.2.1 vn.2.2.2.1 vn.2.2.2.2.1 vn.2.2.2.2.2.1 vn.2.2.2.2.2.2.1 vn.2.2.2.2.2.2.2) (fun z5 =>
    ob (pX5_copyFrom ((vhP 2).2.2.2.2.2.1) ((vhP 2).2.2.2.2.2.2) vg.1 vg.2.1 vg.2.2.1 vg.2.2.2.1 vg.2.2.2.2.1 vg.2.2.2.2.2.1 vg.2.2.2.2.2.2) (fun z6 =>
    some ((3 : Int32), (if (8 : Int32) < (vhs + (1 : Int32)) then (8 : Int32) else (vhs + (1 : Int32))), (upF vhN 2 z5), (upF vhP 2 z6))))
  else if vhn = (3 : Int32) then
    ob (pX2_copyFrom ((vhN 3).2.2.2.1) ((vhN 3).2.2.2.2.1) ((vhN 3).2.2.2.2.2.1) ((vhN 3).2.2.2.2.2.2.1) ((vhN 3).2.2.2.2.2.2.2) vn.1 vn.2.1 vn.2.2.1 vn.2.2.2.1 vn.2.2.2.2.1 vn.2.2.2.2.2.1 vn.2.2.2.2.2.2.1 vn.2.2.2.2.2.2.2) (fun z7 =>
    ob (pX5_copyFrom ((vhP 3).2.2.2.2.2.1) ((vhP 3).2.2.2.2.2.2) vg.1 vg.2.1 vg.2.2.1 vg.2.2.2.1 vg.2.2.2.2.1 vg.2.2.2.2.2.1 vg.2.2.2.2.2.2) (fun z8 =>
    some ((4 : Int32), (if (8 : Int32) < (vhs + (1 : Int32)) then (8 : Int32) else (vhs + (1 : Int32))), (upF vhN 3 z7), (upF vhP 3 z8))))
  else if vhn = (4 : Int32) then
    ob (pX2_copyFrom ((vhN 4).2.2.2.1) ((vhN 4).2.2.2.2.1) ((vhN 4).2.2.2.2.2.1) ((vhN 4).2.2.2.2.2.2.1) ((vhN 4).2.2.2.2.2.2.2) vn.1 vn.2.1 vn.2.2.1 vn.2.2.2.1 vn.2.2.2.2.1 vn.2.2.2.2.2.1 vn.2.2.2.2.2.2.1 vn.2.2.2.2.2.2.2) (fun z9 =>
    ob (pX5_copyFrom ((vhP 4).2.2.2.2.2.1) ((vhP 4).2.2.2.2.2.2) vg.1 vg.2.1 vg.2.2.1 vg.2.2.2.1 vg.2.2.2.2.1 vg.2.2.2.2.2.1 vg.2.2.2.2.2.2) (fun z10 =>
    some ((5 : Int32), (if (8 : Int32) < (vhs + (1 : Int32)) then (8 : Int32) else (vhs + (1 : Int32))), (upF vhN 4 z9), (upF vhP 4 z10))))
  else if vhn = (5 : Int32) then
    ob (pX2_copyFrom ((vhN 5).2.2.2.1) ((vhN 5).2.2.2.2.1) ((vhN 5).2.2.2.2.2.1) ((vhN 5).2.2.2.2.2.2.1) ((vhN 5).2.2.2.2.2.2.2) vn.1 vn.2.1 vn.2.2.1 vn.2.2.2.1 vn.2.2.2.2.1 vn.2.2.2.2.2.1 vn.2.2.2.2.2.2.1 vn.2.2.2.2.2.2.2) (fun z11 =>
    ob (pX5_copyFrom ((vhP 5).2.2.2.2.2.1) ((vhP 5).2.2.2.2.2.2) vg.1 vg.2.1 vg.2.2.1 vg.2.2.2.1 vg.2.2.2.2.1 vg.2.2.2.2.2.1 vg.2.2.2.2.2.2) (fun z12 =>
    some ((6 : Int32), (if (8 : Int32) < (vhs + (1 : Int32)) then (8 : Int32) else (vhs + (1 : Int32))), (upF vhN 5 z11), (upF vhP 5 z12))))
  else if vhn = (6 : Int32) then
    ob (pX2_copyFrom ((vhN 6).2.2.2.1) ((vhN 6).2.2.2.2.1) ((vhN 6).2.2.2.2.2.1) ((vhN 6).2.2.2.2.2.2.1) ((vhN 6).2.2.2.2.2.2.2) vn.1 vn.2.1 vn.2.2.1 vn.2.2.2.1 vn.2.2.2.2.1 vn.2.2.2.2.2.1 vn.2.2.2.2.2.2.1 vn.2.2.2.2.2.2.2) (fun z13 =>
    ob (pX5_copyFrom ((vhP 6).2.2.2.2.2.1) ((vhP 6).2.2.2.2.2.2) vg.1 vg.2.1 vg.2.2.1 vg.2.2.2.1 vg.2.2.2.2.1 vg.2.2.2.2.2.1 vg.2.2.2.2.2.2) (fun z14 =>
    some ((7 : Int32), (if (8 : Int32) < (vhs + (1 : Int32)) then (8 : Int32) else (vhs + (1 : Int32))), (upF vhN 6 z13), (upF vhP 6 z14))))
  else if vhn = (7 : Int32) then
    ob (pX2_copyFrom ((vhN 7).2.2.2.1) ((vhN 7).2.2.2.2.1) ((vhN 7).2.2.2.2.2.1) ((vhN 7).2.2.2.2.2.2.1) ((vhN 7).2.2.2.2.2.2.2) vn.1 vn.2.1 vn.2.2.1 vn.2.2.2.1 vn.2.2.2.2.1 vn.2.2.2.2.2.1 vn.2.2.2.2.2.2.1 vn.2.2.2.2.2.2.2) (fun z15 =>
    ob (pX5_copyFrom ((vhP 7).2.2.2.2.2.1) ((vhP 7).2.2.2.2.2.2) vg.1 vg.2.1 vg.2.2.1 vg.2.2.2.1 vg.2.2.2.2.1 vg.2.2.2.2.2.1 vg.2.2.2.2.2.2) (fun z16 =>
    some ((0 : Int32), (if (8 : Int32) < (vhs + (1 : Int32)) then (8 : Int32) else (vhs + (1 : Int32))), (upF vhN 7 z15), (upF vhP 7 z16))))
  else none
/-! TelescopeNight$History.takeBack(LTelescopeNight$Night;LTelescopeNight$Progress;)V -/
def pX1_takeBack (vhn : Int32) (vhs : Int32) (vhN : Nat → NiS) (vhP : Nat → PrS) (vn : NiS) (vg : PrS) : Option (Int32 × Int32 × NiS × PrS) :=
  if vhn = (0 : Int32) then
    ob (pX2_copyFrom vn.2.2.2.1 vn.2.2.2.2.1 vn.2.2.2.2.2.1 vn.2.2.2.2.2.2.1 vn.2.2.2.2.2.2.2 ((vhN 7).1) ((vhN 7).2.1) ((vhN 7).2.2.1) ((vhN 7).2.2.2.1) ((vhN 7).2.2.2.2.1) ((vhN 7).2.2.2.2.2.1) ((vhN 7).2.2.2.2.2.2.1) ((vhN 7).2.2.2.2.2.2.2)) (fun z1 =>
    ob (pX5_copyFrom vg.2.2.2.2.2.1 vg.2.2.2.2.2.2 ((vhP 7).1) ((vhP 7).2.1) ((vhP 7).2.2.1) ((vhP 7).2.2.2.1) ((vhP 7).2.2.2.2.1) ((vhP 7).2.2.2.2.2.1) ((vhP 7).2.2.2.2.2.2)) (fun z2 =>
    some ((7 : Int32), (vhs - (1 : Int32)), z1, z2)))
  else if vhn = (1 : Int32) then
    ob (pX2_copyFrom vn.2.2.2.1 vn.2.2.2.2.1 vn.2.2.2.2.2.1 vn.2.2.2.2.2.2.1 vn.2.2.2.2.2.2.2 ((vhN 0).1) ((vhN 0).2.1) ((vhN 0).2.2.1) ((vhN 0).2.2.2.1) ((vhN 0).2.2.2.2.1) ((vhN 0).2.2.2.2.2.1) ((vhN 0).2.2.2.2.2.2.1) ((vhN 0).2.2.2.2.2.2.2)) (fun z3 =>
    ob (pX5_copyFrom vg.2.2.2.2.2.1 vg.2.2.2.2.2.2 ((vhP 0).1) ((vhP 0).2.1) ((vhP 0).2.2.1) ((vhP 0).2.2.2.1) ((vhP 0).2.2.2.2.1) ((vhP 0).2.2.2.2.2.1) ((vhP 0).2.2.2.2.2.2)) (fun z4 =>
    some ((0 : Int32), (vhs - (1 : Int32)), z3, z4)))
  else if vhn = (2 : Int32) then
    ob (pX2_copyFrom vn.2.2.2.1 vn.2.2.2.2.1 vn.2.2.2.2.2.1 vn.2.2.2.2.2.2.1 vn.2.2.2.2.2.2.2 ((vhN 1).1) ((vhN 1).2.1) ((vhN 1).2.2.1) ((vhN 1).2.2.2.1) ((vhN 1).2.2.2.2.1) ((vhN 1).2.2.2.2.2.1) ((vhN 1).2.2.2.2.2.2.1) ((vhN 1).2.2.2.2.2.2.2)) (fun z5 =>
    ob (pX5_copyFrom vg.2.2.2.2.2.1 vg.2.2.2.2.2.2 ((vhP 1).1) ((vhP 1).2.1) ((vhP 1).2.2.1) ((vhP 1).2.2.2.1) ((vhP 1).2.2.2.2.1) ((vhP 1).2.2.2.2.2.1) ((vhP 1).2.2.2.2.2.2)) (fun z6 =>
    some ((1 : Int32), (vhs - (1 : Int32)), z5, z6)))
  else if vhn = (3 : Int32) then
    ob (pX2_copyFrom vn.2.2.2.1 vn.2.2.2.2.1 vn.2.2.2.2.2.1 vn.2.2.2.2.2.2.1 vn.2.2.2.2.2.2.2 ((vhN 2).1) ((vhN 2).2.1) ((vhN 2).2.2.1) ((vhN 2).2.2.2.1) ((vhN 2).2.2.2.2.1) ((vhN 2).2.2.2.2.2.1) ((vhN 2).2.2.2.2.2.2.1) ((vhN 2).2.2.2.2.2.2.2)) (fun z7 =>
    ob (pX5_copyFrom vg.2.2.2.2.2.1 vg.2.2.2.2.2.2 ((vhP 2).1) ((vhP 2).2.1) ((vhP 2).2.2.1) ((vhP 2).2.2.2.1) ((vhP 2).2.2.2.2.1) ((vhP 2).2.2.2.2.2.1) ((vhP 2).2.2.2.2.2.2)) (fun z8 =>
    some ((2 : Int32), (vhs - (1 : Int32)), z7, z8)))
  else if vhn = (4 : Int32) then
    ob (pX2_copyFrom vn.2.2.2.1 vn.2.2.2.2.1 vn.2.2.2.2.2.1 vn.2.2.2.2.2.2.1 vn.2.2.2.2.2.2.2 ((vhN 3).1) ((vhN 3).2.1) ((vhN 3).2.2.1) ((vhN 3).2.2.2.1) ((vhN 3).2.2.2.2.1) ((vhN 3).2.2.2.2.2.1) ((vhN 3).2.2.2.2.2.2.1) ((vhN 3).2.2.2.2.2.2.2)) (fun z9 =>
    ob (pX5_copyFrom vg.2.2.2.2.2.1 vg.2.2.2.2.2.2 ((vhP 3).1) ((vhP 3).2.1) ((vhP 3).2.2.1) ((vhP 3).2.2.2.1) ((vhP 3).2.2.2.2.1) ((vhP 3).2.2.2.2.2.1) ((vhP 3).2.2.2.2.2.2)) (fun z10 =>
    some ((3 : Int32), (vhs - (1 : Int32)), z9, z10)))
  else if vhn = (5 : Int32) then
    ob (pX2_copyFrom vn.2.2.2.1 vn.2.2.2.2.1 vn.2.2.2.2.2.1 vn.2.2.2.2.2.2.1 vn.2.2.2.2.2.2.2 ((vhN 4).1) ((vhN 4).2.1) ((vhN 4).2.2.1) ((vhN 4).2.2.2.1) ((vhN 4).2.2.2.2.1) ((vhN 4).2.2.2.2.2.1) ((vhN 4).2.2.2.2.2.2.1) ((vhN 4).2.2.2.2.2.2.2)) (fun z11 =>
    ob (pX5_copyFrom vg.2.2.2.2.2.1 vg.2.2.2.2.2.2 ((vhP 4).1) ((vhP 4).2.1) ((vhP 4).2.2.1) ((vhP 4).2.2.2.1) ((vhP 4).2.2.2.2.1) ((vhP 4).2.2.2.2.2.1) ((vhP 4).2.2.2.2.2.2)) (fun z12 =>
    some ((4 : Int32), (vhs - (1 : Int32)), z11, z12)))
  else if vhn = (6 : Int32) then
    ob (pX2_copyFrom vn.2.2.2.1 vn.2.2.2.2.1 vn.2.2.2.2.2.1 vn.2.2.2.2.2.2.1 vn.2.2.2.2.2.2.2 ((vhN 5).1) ((vhN 5).2.1) ((vhN 5).2.2.1) ((vhN 5).2.2.2.1) ((vhN 5).2.2.2.2.1) ((vhN 5).2.2.2.2.2.1) ((vhN 5).2.2.2.2.2.2.1) ((vhN 5).2.2.2.2.2.2.2)) (fun z13 =>
    ob (pX5_copyFrom vg.2.2.2.2.2.1 vg.2.2.2.2.2.2 ((vhP 5).1) ((vhP 5).2.1) ((vhP 5).2.2.1) ((vhP 5).2.2.2.1) ((vhP 5).2.2.2.2.1) ((vhP 5).2.2.2.2.2.1) ((vhP 5).2.2.2.2.2.2)) (fun z14 =>
    some ((5 : Int32), (vhs - (1 : Int32)), z13, z14)))
  else if vhn = (7 : Int32) then
    ob (pX2_copyFrom vn.2.2.2.1 vn.2.2.2.2.1 vn.2.2.2.2.2.1 vn.2.2.2.2.2.2.1 vn.2.2.2.2.2.2.2 ((vhN 6).1) ((vhN 6).2.1) ((vhN 6).2.2.1) ((vhN 6).2.2.2.1) ((vhN 6).2.2.2.2.1) ((vhN 6).2.2.2.2.2.1) ((vhN 6).2.2.2.2.2.2.1) ((vhN 6).2.2.2.2.2.2.2)) (fun z15 =>
    ob (pX5_copyFrom vg.2.2.2.2.2.1 vg.2.2.2.2.2.2 ((vhP 6).1) ((vhP 6).2.1) ((vhP 6).2.2.1) ((vhP 6).2.2.2.1) ((vhP 6).2.2.2.2.1) ((vhP 6).2.2.2.2.2.1) ((vhP 6).2.2.2.2.2.2)) (fun z16 =>
    some ((6 : Int32), (vhs - (1 : Int32)), z15, z16)))
  else none
/-! TelescopeNight.<init>()V -/
def pX8_init  : Option (NiS × ReS × ReS × NiS × (Nat → NiS) × Nat × Nat) :=
  ob (pX2_init) (fun z1 =>
  ob (pX5_init) (fun z2 =>
  ob (pX6_init (1 : Int32)) (fun z3 =>
  ob (pX6_init (0 : Int32)) (fun z4 =>
  ob (pX7_init) (fun z5 =>
  ob (pX2_init) (fun z6 =>
  ob (pX1_init) (fun z7 =>
  ob (pX4_init) (fun z8 =>
  ob (pX0_init) (fun z9 =>
  some (((6 : Int32), (0 : Int32), z1.1, z1.2.1, z1.2.2.1, (fun _ => 0), z1.2.2.2.1, z1.2.2.2.2.1), (z3.1, 0, 0, 0, 0, (fun _ => 0), 0, (fun _ => 0), 0, (fun _ => 0)), (z4.1, 0, 0, 0, 0, (fun _ => 0), 0, (fun _ => 0), 0, (fun _ => 0)), ((6 : Int32), (0 : Int32), z6.1, z6.2.1, z6.2.2.1, (fun _ => 0), z6.2.2.2.1, z6.2.2.2.2.1), z7.1, (((((((((((((((((1 + z1.2.2.2.2.2.1) + 1) + z2.1) + 1) + z3.2.1) + 1) + z4.2.1) + 1) + z5.1) + 1) + z6.2.2.2.2.2.1) + 1) + z7.2.1) + 1) + z8.1) + 1) + z9.1), (((((((((((((((((8 + z1.2.2.2.2.2.2) + 7) + z2.2) + 9) + z3.2.2) + 9) + z4.2.2) + 10) + z5.2) + 8) + z6.2.2.2.2.2.2) + 4) + z7.2.2) + 14) + z8.2) + 8) + z9.2)))))))))))
/-! TelescopeNight.append(IIIII)I -/
def pX8_append (x1 : Int32) (x2 : Int32) (x3 : Int32) (x4 : Int32) (x5 : Int32) (vr : RdS) : Option ((Int32 ⊕ String) × RdS × Nat × Nat) :=
  ob (pX7_hasRoom vr.2.2.1) (fun z1 =>
  if ¬ z1 = 0 then
    ob (pX7_add x1 vr.1 vr.2.2.1) (fun z2 =>
    ob (pX7_add x2 z2.2 z2.1) (fun z3 =>
    ob (pX7_add x3 z3.2 z3.1) (fun z4 =>
    ob (pX7_add x4 z4.2 z4.1) (fun z5 =>
    ob (pX7_add x5 z5.2 z5.1) (fun z6 =>
    some (.inl z6.1, (z6.2, vr.2.1, z6.1, vr.2.2.2.1, vr.2.2.2.2.1, vr.2.2.2.2.2.1, vr.2.2.2.2.2.2.1, vr.2.2.2.2.2.2.2.1, vr.2.2.2.2.2.2.2.2.1, vr.2.2.2.2.2.2.2.2.2), 0, 0))))))
  else
    some (.inr "java/lang/IllegalStateException", vr, 1, 6))
/-! TelescopeNight.forgetAnswers()V -/
def pX8_forgetAnswers  : Option (Unit) :=
  ob (pX6_forget) (fun z1 =>
  ob (pX6_forget) (fun z2 =>
  ob (pX4_forget) (fun z3 =>
  ob (pX0_forget) (fun z4 =>
  some ()))))
/-! TelescopeNight.remember()V -/
def pX8_remember (vn : NiS) (vg : PrS) (vhn : Int32) (vhs : Int32) (vhN : Nat → NiS) (vhP : Nat → PrS) : Option (Int32 × Int32 × (Nat → NiS) × (Nat → PrS)) :=
  ob (pX1_keep vhn vhs vhN vhP vn vg) (fun z1 =>
  ob (pX8_forgetAnswers) (fun z2 =>
  some (z1.1, z1.2.1, z1.2.2.1, z1.2.2.2)))
/-! TelescopeNight.load(I)I -/
def pX8_load (x1 : Int32) (vr : RdS) (vd : NiS) (vn : NiS) (vg : PrS) (vhn : Int32) (vhs : Int32) (vhN : Nat → NiS) (vhP : Nat → PrS) (vt : ReS) (vu : ReS) (vp : PlS) (vq : DeS) (ve : Int32) : Option ((Int32 ⊕ String) × Int32 × RdS × NiS × NiS × PrS × Int32 × Int32 × (Nat → NiS) × (Nat → PrS) × ReS × ReS × PlS × DeS × Nat × Nat) :=
  if x1 < 0 then
    some (.inr "java/lang/IllegalArgumentException", ve, vr, vd, vn, vg, vhn, vhs, vhN, vhP, vt, vu, vp, vq, 1, 6)
  else
    if x1 ≤ vr.2.2.1 then
      ob (pX7_read x1 vr.1 vr.2.1 vr.2.2.1 vd.2.2.2.1 vd.2.2.2.2.1 vd.2.2.2.2.2.1 vd.2.2.2.2.2.2.1 vd.2.2.2.2.2.2.2) (fun z1 =>
      if ¬ z1.1 = 0 then
        ob (pX8_remember vn vg vhn vhs vhN vhP) (fun z2 =>
        ob (pX2_copyFrom vn.2.2.2.1 vn.2.2.2.2.1 vn.2.2.2.2.2.1 vn.2.2.2.2.2.2.1 vn.2.2.2.2.2.2.2 z1.2.2.2.2.2.2.2.2.2.1 z1.2.2.2.2.2.2.2.2.2.2.1 z1.2.2.2.2.2.2.2.2.2.2.2.1 z1.2.2.2.2.2.2.2.2.2.2.2.2.1 z1.2.2.2.2.2.2.2.2.2.2.2.2.2.1 z1.2.2.2.2.2.2.2.2.2.2.2.2.2.2.1 z1.2.2.2.2.2.2.2.2.2.2.2.2.2.2.2.1 z1.2.2.2.2.2.2.2.2.2.2.2.2.2.2.2.2) (fun z3 =>
        ob (pX5_begin) (fun z4 =>
        some (.inl z3.2.1, z1.2.2.2.2.2.2.2.1, (vr.1, z1.2.2.2.2.2.2.2.2.1, (0 : Int32), z1.2.1, z1.2.2.1, z1.2.2.2.1, z1.2.2.2.2.1, z1.2.2.2.2.2.1, z1.2.2.2.2.2.2.1, z1.2.2.2.2.2.2.2.1), z1.2.2.2.2.2.2.2.2.2, z3, ((0 : Int32), (0 : Int32), (0 : Int32), (0 : Int32), (0 : Int32), vg.2.2.2.2.2.1, vg.2.2.2.2.2.2), z2.1, z2.2.1, z2.2.2.1, z2.2.2.2, (vt.1, (0 : Int32), vt.2.2.1, vt.2.2.2.1, vt.2.2.2.2.1, vt.2.2.2.2.2.1, vt.2.2.2.2.2.2.1, vt.2.2.2.2.2.2.2.1, vt.2.2.2.2.2.2.2.2.1, vt.2.2.2.2.2.2.2.2.2), (vu.1, (0 : Int32), vu.2.2.1, vu.2.2.2.1, vu.2.2.2.2.1, vu.2.2.2.2.2.1, vu.2.2.2.2.2.2.1, vu.2.2.2.2.2.2.2.1, vu.2.2.2.2.2.2.2.2.1, vu.2.2.2.2.2.2.2.2.2), (vp.1, vp.2.1, vp.2.2.1, vp.2.2.2.1, vp.2.2.2.2.1, vp.2.2.2.2.2.1, vp.2.2.2.2.2.2.1, vp.2.2.2.2.2.2.2.1, vp.2.2.2.2.2.2.2.2.1, (0 : Int32), vp.2.2.2.2.2.2.2.2.2.2.1, vp.2.2.2.2.2.2.2.2.2.2.2.1, vp.2.2.2.2.2.2.2.2.2.2.2.2), (vq.1, vq.2.1, vq.2.2.1, vq.2.2.2.1, vq.2.2.2.2.1, vq.2.2.2.2.2.1, vq.2.2.2.2.2.2.1, vq.2.2.2.2.2.2.2.1, vq.2.2.2.2.2.2.2.2.1, vq.2.2.2.2.2.2.2.2.2.1, (0 : Int32)), 0, 0))))
      else
        some (.inl z1.2.2.2.2.2.2.1, z1.2.2.2.2.2.2.2.1, (vr.1, z1.2.2.2.2.2.2.2.2.1, (0 : Int32), z1.2.1, z1.2.2.1, z1.2.2.2.1, z1.2.2.2.2.1, z1.2.2.2.2.2.1, z1.2.2.2.2.2.2.1, z1.2.2.2.2.2.2.2.1), z1.2.2.2.2.2.2.2.2.2, vn, vg, vhn, vhs, vhN, vhP, vt, vu, vp, vq, 0, 0))
    else
      some (.inr "java/lang/IllegalArgumentException", ve, vr, vd, vn, vg, vhn, vhs, vhN, vhP, vt, vu, vp, vq, 1, 6)
/-! TelescopeNight.errorPosition()I -/
def pX8_errorPosition (ve : Int32) : Option (Int32) :=
  some ve
/-! TelescopeNight.allMade()I -/
def lpX8_allMade_4 (vn : NiS) (vg : PrS) : Nat → Int32 → Int32 → Option (Int32 × Int32)
  | 0, _, _ => none
  | fu + 1, l1, l2 =>
    if vn.2.1 ≤ l2 then
      some (l1, l2)
    else
      ob (pX8_madeOf vg.2.2.2.2.1 l2) (fun z1 =>
      lpX8_allMade_4 vn vg fu (l1 + z1) (l2 + (1 : Int32)))
def pX8_allMade (vn : NiS) (vg : PrS) : Option (Int32) :=
  ob (lpX8_allMade_4 vn vg lpF (0 : Int32) (0 : Int32)) (fun z2 =>
  some z2.1)
/-! TelescopeNight.count(I)I -/
def pX8_count (x1 : Int32) (vn : NiS) (vg : PrS) : Option ((Int32 ⊕ String) × Nat × Nat) :=
  if x1 = (0 : Int32) then
    some (.inl vn.1, 0, 0)
  else if x1 = (1 : Int32) then
    some (.inl vn.2.1, 0, 0)
  else if x1 = (2 : Int32) then
    some (.inl vn.2.2.1, 0, 0)
  else if x1 = (3 : Int32) then
    some (.inl vg.1, 0, 0)
  else if x1 = (4 : Int32) then
    some (.inl vg.2.2.1, 0, 0)
  else if x1 = (5 : Int32) then
    some (.inl vg.2.1, 0, 0)
  else if x1 = (6 : Int32) then
    ob (pX8_allMade vn vg) (fun z1 =>
    some (.inl z1, 0, 0))
  else 
    some (.inr "java/lang/IllegalArgumentException", 1, 6)
/-! TelescopeNight.checkTarget(I)V -/
def pX8_checkTarget (x1 : Int32) (vn : NiS) : Option ((Unit ⊕ String) × Nat × Nat) :=
  if x1 < 0 then
    some (.inr "java/lang/IndexOutOfBoundsException", 1, 6)
  else
    if x1 < vn.2.1 then
      some (.inl (), 0, 0)
    else
      some (.inr "java/lang/IndexOutOfBoundsException", 1, 6)
/-! TelescopeNight.checkSlot(I)V -/
def pX8_checkSlot (x1 : Int32) (vn : NiS) : Option ((Unit ⊕ String) × Nat × Nat) :=
  if x1 < 0 then
    some (.inr "java/lang/IndexOutOfBoundsException", 1, 6)
  else
    if x1 < vn.1 then
      some (.inl (), 0, 0)
    else
      some (.inr "java/lang/IndexOutOfBoundsException", 1, 6)
/-! TelescopeNight.height(II)I -/
def pX8_height (x1 : Int32) (x2 : Int32) (vn : NiS) : Option ((Int32 ⊕ String) × Nat × Nat) :=
  ob (pX8_checkTarget x1 vn) (fun z1 => match z1 with
  | (.inl z1v, z1r) =>
    ob (pX8_checkSlot x2 vn) (fun z2 => match z2 with
    | (.inl z2v, z2r) =>
      ob (pX2_targetHeight x1 x2 vn.2.2.2.2.2.1) (fun z3 =>
      some (.inl z3, ((0 + z1r.1) + z2r.1), ((0 + z1r.2) + z2r.2)))
    | (.inr z2e, z2r) =>
      some (.inr z2e, ((0 + z1r.1) + z2r.1), ((0 + z1r.2) + z2r.2)))
  | (.inr z1e, z1r) =>
    some (.inr z1e, (0 + z1r.1), (0 + z1r.2)))
/-! TelescopeNight.moonHeight(I)I -/
def pX8_moonHeight (x1 : Int32) (vn : NiS) : Option ((Int32 ⊕ String) × Nat × Nat) :=
  ob (pX8_checkSlot x1 vn) (fun z1 => match z1 with
  | (.inl z1v, z1r) =>
    ob (pX2_heightOfMoon x1 vn.2.2.2.1) (fun z2 =>
    some (.inl z2, (0 + z1r.1), (0 + z1r.2)))
  | (.inr z1e, z1r) =>
    some (.inr z1e, (0 + z1r.1), (0 + z1r.2)))
/-! TelescopeNight.moonDistance(II)I -/
def pX8_moonDistance (x1 : Int32) (x2 : Int32) (vn : NiS) : Option ((Int32 ⊕ String) × Nat × Nat) :=
  ob (pX8_checkTarget x1 vn) (fun z1 => match z1 with
  | (.inl z1v, z1r) =>
    ob (pX8_checkSlot x2 vn) (fun z2 => match z2 with
    | (.inl z2v, z2r) =>
      ob (pX2_distanceToMoon x1 x2 vn.2.2.2.1 vn.2.2.2.2.2.1) (fun z3 =>
      some (.inl z3, ((0 + z1r.1) + z2r.1), ((0 + z1r.2) + z2r.2)))
    | (.inr z2e, z2r) =>
      some (.inr z2e, ((0 + z1r.1) + z2r.1), ((0 + z1r.2) + z2r.2)))
  | (.inr z1e, z1r) =>
    some (.inr z1e, (0 + z1r.1), (0 + z1r.2)))
/-! TelescopeNight.window(I)I -/
def pX8_window (x1 : Int32) (vn : NiS) : Option ((Int32 ⊕ String) × Nat × Nat) :=
  ob (pX8_checkTarget x1 vn) (fun z1 => match z1 with
  | (.inl z1v, z1r) =>
    ob (pX2_slotsOf x1 vn.1 vn.2.2.2.2.2.2.1) (fun z2 =>
    some (.inl z2, (0 + z1r.1), (0 + z1r.2)))
  | (.inr z1e, z1r) =>
    some (.inr z1e, (0 + z1r.1), (0 + z1r.2)))
/-! TelescopeNight.observable(I)I -/
def pX8_observable (x1 : Int32) (vn : NiS) : Option ((Int32 ⊕ String) × Nat × Nat) :=
  ob (pX8_checkSlot x1 vn) (fun z1 => match z1 with
  | (.inl z1v, z1r) =>
    ob (pX2_targetsIn x1 vn.1 vn.2.2.2.2.2.2.1) (fun z2 =>
    some (.inl z2, (0 + z1r.1), (0 + z1r.2)))
  | (.inr z1e, z1r) =>
    some (.inr z1e, (0 + z1r.1), (0 + z1r.2)))
/-! TelescopeNight.highestSlot(I)I -/
def lpX8_highestSlot_12 (l1 : Int32) (vn : NiS) : Nat → Int32 → Int32 → Int32 → Option (Int32 × Int32 × Int32)
  | 0, _, _, _ => none
  | fu + 1, l2, l3, l4 =>
    if vn.1 ≤ l4 then
      some (l2, l3, l4)
    else
      ob (pX2_targetHeight l1 l4 vn.2.2.2.2.2.1) (fun z2 =>
      ob (pX2_isSeen l1 l4 vn.1 vn.2.2.2.2.2.2.1) (fun z3 =>
      if z3 = 0 then
        lpX8_highestSlot_12 l1 vn fu l2 l3 (l4 + (1 : Int32))
      else
        if l2 = (-1 : Int32) then
          lpX8_highestSlot_12 l1 vn fu l4 z2 (l4 + (1 : Int32))
        else
          if z2 ≤ l3 then
            lpX8_highestSlot_12 l1 vn fu l2 l3 (l4 + (1 : Int32))
          else
            lpX8_highestSlot_12 l1 vn fu l4 z2 (l4 + (1 : Int32))))
def pX8_highestSlot (x1 : Int32) (vn : NiS) : Option ((Int32 ⊕ String) × Nat × Nat) :=
  ob (pX8_checkTarget x1 vn) (fun z1 => match z1 with
  | (.inl z1v, z1r) =>
    ob (lpX8_highestSlot_12 x1 vn lpF (-1 : Int32) (0 : Int32) (0 : Int32)) (fun z4 =>
    if ¬ z4.1 = (-1 : Int32) then
      some (.inl z4.1, (0 + z1r.1), (0 + z1r.2))
    else
      some (.inr "java/util/NoSuchElementException", ((0 + z1r.1) + 1), ((0 + z1r.2) + 6)))
  | (.inr z1e, z1r) =>
    some (.inr z1e, (0 + z1r.1), (0 + z1r.2)))
/-! TelescopeNight.latestStart(I)I -/
def lpX8_latestStart_50 (l1 : Int32) (kc : Nat) (ks : Nat) (vn : NiS) (vg : PrS) : Nat → Int32 → Int32 → Option ((Int32 × Int32) ⊕ ((Int32 ⊕ String) × Nat × Nat))
  | 0, _, _ => none
  | fu + 1, l2, l3 =>
    if l3 < vg.1 then
      some (.inl (l2, l3))
    else
      ob (pX2_isSeen l1 l3 vn.1 vn.2.2.2.2.2.2.1) (fun z4 =>
      if z4 = 0 then
        if ¬ l2 = 0 then
          lpX8_latestStart_50 l1 kc ks vn vg fu l2 (l3 + (-1 : Int32))
        else
          some (.inr (.inl l3, kc, ks))
      else
        if ¬ (l2 + (-1 : Int32)) = 0 then
          lpX8_latestStart_50 l1 kc ks vn vg fu (l2 + (-1 : Int32)) (l3 + (-1 : Int32))
        else
          some (.inr (.inl l3, kc, ks)))
def pX8_latestStart (x1 : Int32) (vn : NiS) (vg : PrS) : Option ((Int32 ⊕ String) × Nat × Nat) :=
  ob (pX8_checkTarget x1 vn) (fun z1 => match z1 with
  | (.inl z1v, z1r) =>
    ob (pX2_number x1 (7 : Int32) vn.2.2.2.2.2.1) (fun z2 =>
    ob (pX8_madeOf vg.2.2.2.2.1 x1) (fun z3 =>
    if 0 < (z2 - z3) then
      ob (lpX8_latestStart_50 x1 (0 + z1r.1) (0 + z1r.2) vn vg lpF (z2 - z3) (vn.1 - (1 : Int32))) (fun z5 => match z5 with
      | .inl z5e =>
        some (.inr "java/util/NoSuchElementException", ((0 + z1r.1) + 1), ((0 + z1r.2) + 6))
      | .inr z5f => some z5f)
    else
      some (.inl vn.1, (0 + z1r.1), (0 + z1r.2))))
  | (.inr z1e, z1r) =>
    some (.inr z1e, (0 + z1r.1), (0 + z1r.2)))
/-! TelescopeNight.clearOdds(I)I -/
def pX8_clearOdds (x1 : Int32) (vn : NiS) : Option ((Int32 ⊕ String) × Nat × Nat) :=
  ob (pX8_checkSlot x1 vn) (fun z1 => match z1 with
  | (.inl z1v, z1r) =>
    ob (pX2_oddsIn x1 vn.1 vn.2.2.2.2.2.2.2) (fun z2 =>
    some (.inl z2, (0 + z1r.1), (0 + z1r.2)))
  | (.inr z1e, z1r) =>
    some (.inr z1e, (0 + z1r.1), (0 + z1r.2)))
/-! TelescopeNight.clearRun(II)I -/
def lpX8_clearRun_37 (l2 : Int32) (vn : NiS) : Nat → Int32 → Int32 → Option (Int32 × Int32)
  | 0, _, _ => none
  | fu + 1, l3, l4 =>
    if l2 ≤ l4 then
      some (l3, l4)
    else
      lpX8_clearRun_37 l2 vn fu ((l3 * (vn.2.2.2.2.1 1)) / (100 : Int32)) (l4 + (1 : Int32))
def pX8_clearRun (x1 : Int32) (x2 : Int32) (vn : NiS) : Option ((Int32 ⊕ String) × Nat × Nat) :=
  ob (pX8_checkSlot x1 vn) (fun z1 => match z1 with
  | (.inl z1v, z1r) =>
    ob (pX8_checkSlot x2 vn) (fun z2 => match z2 with
    | (.inl z2v, z2r) =>
      if x1 ≤ x2 then
        ob (pX2_oddsIn x1 vn.1 vn.2.2.2.2.2.2.2) (fun z3 =>
        ob (lpX8_clearRun_37 x2 vn lpF z3 x1) (fun z4 =>
        some (.inl z4.1, ((0 + z1r.1) + z2r.1), ((0 + z1r.2) + z2r.2))))
      else
        some (.inr "java/lang/IllegalArgumentException", (((0 + z1r.1) + z2r.1) + 1), (((0 + z1r.2) + z2r.2) + 6))
    | (.inr z2e, z2r) =>
      some (.inr z2e, ((0 + z1r.1) + z2r.1), ((0 + z1r.2) + z2r.2)))
  | (.inr z1e, z1r) =>
    some (.inr z1e, (0 + z1r.1), (0 + z1r.2)))
/-! TelescopeNight.isOver()Z -/
def pX8_isOver (vn : NiS) (vg : PrS) : Option (Int32) :=
  if vg.1 < vn.1 then
    some (0 : Int32)
  else
    some (1 : Int32)
/-! TelescopeNight.possibleNow()I -/
def pX8_possibleNow (vn : NiS) (vg : PrS) : Option (Int32) :=
  ob (pX8_isOver vn vg) (fun z1 =>
  if ¬ z1 = 0 then
    some (0 : Int32)
  else
    if vg.2.1 = (1 : Int32) then
      ob (pX2_teamsInTurn vg.2.2.2.2.1 vg.2.2.2.1 vn.2.1 vn.2.2.1 vn.2.2.2.2.2.1) (fun z2 =>
      ob (pX2_targetsIn vg.1 vn.1 vn.2.2.2.2.2.2.1) (fun z3 =>
      ob (pX2_wanting vg.2.2.2.2.1 z2 vn.2.1 vn.2.2.2.2.2.1) (fun z4 =>
      some (z3 &&& z4))))
    else
      some (0 : Int32))
/-! TelescopeNight.look(Z)I -/
def pX8_look (x1 : Int32) (vn : NiS) (vg : PrS) (vhn : Int32) (vhs : Int32) (vhN : Nat → NiS) (vhP : Nat → PrS) (vt : ReS) (vu : ReS) (vp : PlS) (vq : DeS) : Option ((Int32 ⊕ String) × PrS × Int32 × Int32 × (Nat → NiS) × (Nat → PrS) × ReS × ReS × PlS × DeS × Nat × Nat) :=
  ob (pX8_isOver vn vg) (fun z1 =>
  if ¬ z1 = 0 then
    some (.inr "java/lang/IllegalStateException", vg, vhn, vhs, vhN, vhP, vt, vu, vp, vq, 1, 6)
  else
    if vg.2.1 = 0 then
      ob (pX8_remember vn vg vhn vhs vhN vhP) (fun z2 =>
      if x1 = 0 then
        ob (pX8_possibleNow vn (vg.1, (2 : Int32), vg.2.2.1, vg.2.2.2.1, vg.2.2.2.2.1, vg.2.2.2.2.2.1, vg.2.2.2.2.2.2)) (fun z3 =>
        some (.inl z3, (vg.1, (2 : Int32), vg.2.2.1, vg.2.2.2.1, vg.2.2.2.2.1, vg.2.2.2.2.2.1, vg.2.2.2.2.2.2), z2.1, z2.2.1, z2.2.2.1, z2.2.2.2, (vt.1, (0 : Int32), vt.2.2.1, vt.2.2.2.1, vt.2.2.2.2.1, vt.2.2.2.2.2.1, vt.2.2.2.2.2.2.1, vt.2.2.2.2.2.2.2.1, vt.2.2.2.2.2.2.2.2.1, vt.2.2.2.2.2.2.2.2.2), (vu.1, (0 : Int32), vu.2.2.1, vu.2.2.2.1, vu.2.2.2.2.1, vu.2.2.2.2.2.1, vu.2.2.2.2.2.2.1, vu.2.2.2.2.2.2.2.1, vu.2.2.2.2.2.2.2.2.1, vu.2.2.2.2.2.2.2.2.2), (vp.1, vp.2.1, vp.2.2.1, vp.2.2.2.1, vp.2.2.2.2.1, vp.2.2.2.2.2.1, vp.2.2.2.2.2.2.1, vp.2.2.2.2.2.2.2.1, vp.2.2.2.2.2.2.2.2.1, (0 : Int32), vp.2.2.2.2.2.2.2.2.2.2.1, vp.2.2.2.2.2.2.2.2.2.2.2.1, vp.2.2.2.2.2.2.2.2.2.2.2.2), (vq.1, vq.2.1, vq.2.2.1, vq.2.2.2.1, vq.2.2.2.2.1, vq.2.2.2.2.2.1, vq.2.2.2.2.2.2.1, vq.2.2.2.2.2.2.2.1, vq.2.2.2.2.2.2.2.2.1, vq.2.2.2.2.2.2.2.2.2.1, (0 : Int32)), 0, 0))
      else
        ob (pX8_possibleNow vn (vg.1, (1 : Int32), vg.2.2.1, vg.2.2.2.1, vg.2.2.2.2.1, vg.2.2.2.2.2.1, vg.2.2.2.2.2.2)) (fun z4 =>
        some (.inl z4, (vg.1, (1 : Int32), vg.2.2.1, vg.2.2.2.1, vg.2.2.2.2.1, vg.2.2.2.2.2.1, vg.2.2.2.2.2.2), z2.1, z2.2.1, z2.2.2.1, z2.2.2.2, (vt.1, (0 : Int32), vt.2.2.1, vt.2.2.2.1, vt.2.2.2.2.1, vt.2.2.2.2.2.1, vt.2.2.2.2.2.2.1, vt.2.2.2.2.2.2.2.1, vt.2.2.2.2.2.2.2.2.1, vt.2.2.2.2.2.2.2.2.2), (vu.1, (0 : Int32), vu.2.2.1, vu.2.2.2.1, vu.2.2.2.2.1, vu.2.2.2.2.2.1, vu.2.2.2.2.2.2.1, vu.2.2.2.2.2.2.2.1, vu.2.2.2.2.2.2.2.2.1, vu.2.2.2.2.2.2.2.2.2), (vp.1, vp.2.1, vp.2.2.1, vp.2.2.2.1, vp.2.2.2.2.1, vp.2.2.2.2.2.1, vp.2.2.2.2.2.2.1, vp.2.2.2.2.2.2.2.1, vp.2.2.2.2.2.2.2.2.1, (0 : Int32), vp.2.2.2.2.2.2.2.2.2.2.1, vp.2.2.2.2.2.2.2.2.2.2.2.1, vp.2.2.2.2.2.2.2.2.2.2.2.2), (vq.1, vq.2.1, vq.2.2.1, vq.2.2.2.1, vq.2.2.2.2.1, vq.2.2.2.2.2.1, vq.2.2.2.2.2.2.1, vq.2.2.2.2.2.2.2.1, vq.2.2.2.2.2.2.2.2.1, vq.2.2.2.2.2.2.2.2.2.1, (0 : Int32)), 0, 0)))
    else
      some (.inr "java/lang/IllegalStateException", vg, vhn, vhs, vhN, vhP, vt, vu, vp, vq, 1, 6))
/-! TelescopeNight.checkPossible(I)V -/
def pX8_checkPossible (x1 : Int32) (vn : NiS) (vg : PrS) : Option ((Unit ⊕ String) × Nat × Nat) :=
  ob (pX8_possibleNow vn vg) (fun z1 =>
  ob (pX8_has z1 x1) (fun z2 =>
  if ¬ z2 = 0 then
    some (.inl (), 0, 0)
  else
    some (.inr "java/lang/IllegalStateException", 1, 6)))
/-! TelescopeNight.expose(I)I -/
def pX8_expose (x1 : Int32) (vn : NiS) (vg : PrS) (vhn : Int32) (vhs : Int32) (vhN : Nat → NiS) (vhP : Nat → PrS) (vt : ReS) (vu : ReS) (vp : PlS) (vq : DeS) : Option ((Int32 ⊕ String) × PrS × Int32 × Int32 × (Nat → NiS) × (Nat → PrS) × ReS × ReS × PlS × DeS × Nat × Nat) :=
  ob (pX8_checkTarget x1 vn) (fun z1 => match z1 with
  | (.inl z1v, z1r) =>
    ob (pX8_checkPossible x1 vn vg) (fun z2 => match z2 with
    | (.inl z2v, z2r) =>
      ob (pX8_remember vn vg vhn vhs vhN vhP) (fun z3 =>
      ob (pX2_number x1 (8 : Int32) vn.2.2.2.2.2.1) (fun z4 =>
      ob (pX8_oneOf x1) (fun z5 =>
      ob (pX5_moveOn x1 vg.1 vg.2.1 vg.2.2.2.2.2.1 vg.2.2.2.2.2.2) (fun z6 =>
      some (.inl (vg.2.2.1 + z4), (z6.1, (0 : Int32), (vg.2.2.1 + z4), vg.2.2.2.1, (vg.2.2.2.2.1 + z5), z6.2.1, z6.2.2), z3.1, z3.2.1, z3.2.2.1, z3.2.2.2, (vt.1, (0 : Int32), vt.2.2.1, vt.2.2.2.1, vt.2.2.2.2.1, vt.2.2.2.2.2.1, vt.2.2.2.2.2.2.1, vt.2.2.2.2.2.2.2.1, vt.2.2.2.2.2.2.2.2.1, vt.2.2.2.2.2.2.2.2.2), (vu.1, (0 : Int32), vu.2.2.1, vu.2.2.2.1, vu.2.2.2.2.1, vu.2.2.2.2.2.1, vu.2.2.2.2.2.2.1, vu.2.2.2.2.2.2.2.1, vu.2.2.2.2.2.2.2.2.1, vu.2.2.2.2.2.2.2.2.2), (vp.1, vp.2.1, vp.2.2.1, vp.2.2.2.1, vp.2.2.2.2.1, vp.2.2.2.2.2.1, vp.2.2.2.2.2.2.1, vp.2.2.2.2.2.2.2.1, vp.2.2.2.2.2.2.2.2.1, (0 : Int32), vp.2.2.2.2.2.2.2.2.2.2.1, vp.2.2.2.2.2.2.2.2.2.2.2.1, vp.2.2.2.2.2.2.2.2.2.2.2.2), (vq.1, vq.2.1, vq.2.2.1, vq.2.2.2.1, vq.2.2.2.2.1, vq.2.2.2.2.2.1, vq.2.2.2.2.2.2.1, vq.2.2.2.2.2.2.2.1, vq.2.2.2.2.2.2.2.2.1, vq.2.2.2.2.2.2.2.2.2.1, (0 : Int32)), ((0 + z1r.1) + z2r.1), ((0 + z1r.2) + z2r.2))))))
    | (.inr z2e, z2r) =>
      some (.inr z2e, vg, vhn, vhs, vhN, vhP, vt, vu, vp, vq, ((0 + z1r.1) + z2r.1), ((0 + z1r.2) + z2r.2)))
  | (.inr z1e, z1r) =>
    some (.inr z1e, vg, vhn, vhs, vhN, vhP, vt, vu, vp, vq, (0 + z1r.1), (0 + z1r.2)))
/-! TelescopeNight.pass()I -/
def pX8_pass (vn : NiS) (vg : PrS) (vhn : Int32) (vhs : Int32) (vhN : Nat → NiS) (vhP : Nat → PrS) (vt : ReS) (vu : ReS) (vp : PlS) (vq : DeS) : Option ((Int32 ⊕ String) × PrS × Int32 × Int32 × (Nat → NiS) × (Nat → PrS) × ReS × ReS × PlS × DeS × Nat × Nat) :=
  ob (pX8_isOver vn vg) (fun z1 =>
  if z1 = 0 then
    ob (pX8_remember vn vg vhn vhs vhN vhP) (fun z2 =>
    ob (pX5_moveOn (-1 : Int32) vg.1 vg.2.1 vg.2.2.2.2.2.1 vg.2.2.2.2.2.2) (fun z3 =>
    some (.inl z3.1, (z3.1, (0 : Int32), vg.2.2.1, vg.2.2.2.1, vg.2.2.2.2.1, z3.2.1, z3.2.2), z2.1, z2.2.1, z2.2.2.1, z2.2.2.2, (vt.1, (0 : Int32), vt.2.2.1, vt.2.2.2.1, vt.2.2.2.2.1, vt.2.2.2.2.2.1, vt.2.2.2.2.2.2.1, vt.2.2.2.2.2.2.2.1, vt.2.2.2.2.2.2.2.2.1, vt.2.2.2.2.2.2.2.2.2), (vu.1, (0 : Int32), vu.2.2.1, vu.2.2.2.1, vu.2.2.2.2.1, vu.2.2.2.2.2.1, vu.2.2.2.2.2.2.1, vu.2.2.2.2.2.2.2.1, vu.2.2.2.2.2.2.2.2.1, vu.2.2.2.2.2.2.2.2.2), (vp.1, vp.2.1, vp.2.2.1, vp.2.2.2.1, vp.2.2.2.2.1, vp.2.2.2.2.2.1, vp.2.2.2.2.2.2.1, vp.2.2.2.2.2.2.2.1, vp.2.2.2.2.2.2.2.2.1, (0 : Int32), vp.2.2.2.2.2.2.2.2.2.2.1, vp.2.2.2.2.2.2.2.2.2.2.2.1, vp.2.2.2.2.2.2.2.2.2.2.2.2), (vq.1, vq.2.1, vq.2.2.1, vq.2.2.2.1, vq.2.2.2.2.1, vq.2.2.2.2.2.1, vq.2.2.2.2.2.2.1, vq.2.2.2.2.2.2.2.1, vq.2.2.2.2.2.2.2.2.1, vq.2.2.2.2.2.2.2.2.2.1, (0 : Int32)), 0, 0)))
  else
    some (.inr "java/lang/IllegalStateException", vg, vhn, vhs, vhN, vhP, vt, vu, vp, vq, 1, 6))
/-! TelescopeNight.checkTeam(I)V -/
def pX8_checkTeam (x1 : Int32) : Option ((Unit ⊕ String) × Nat × Nat) :=
  if x1 < 0 then
    some (.inr "java/lang/IndexOutOfBoundsException", 1, 6)
  else
    if x1 < (4 : Int32) then
      some (.inl (), 0, 0)
    else
      some (.inr "java/lang/IndexOutOfBoundsException", 1, 6)
/-! TelescopeNight.waive(I)I -/
def pX8_waive (x1 : Int32) (vn : NiS) (vg : PrS) (vhn : Int32) (vhs : Int32) (vhN : Nat → NiS) (vhP : Nat → PrS) (vt : ReS) (vu : ReS) (vp : PlS) (vq : DeS) : Option ((Int32 ⊕ String) × PrS × Int32 × Int32 × (Nat → NiS) × (Nat → PrS) × ReS × ReS × PlS × DeS × Nat × Nat) :=
  ob (pX8_checkTeam x1) (fun z1 => match z1 with
  | (.inl z1v, z1r) =>
    ob (pX8_has vn.2.2.1 x1) (fun z2 =>
    if z2 = 0 then
      some (.inr "java/lang/IllegalStateException", vg, vhn, vhs, vhN, vhP, vt, vu, vp, vq, ((0 + z1r.1) + 1), ((0 + z1r.2) + 6))
    else
      ob (pX8_has vg.2.2.2.1 x1) (fun z3 =>
      if z3 = 0 then
        ob (pX8_remember vn vg vhn vhs vhN vhP) (fun z4 =>
        ob (pX2_teamsInTurn vg.2.2.2.2.1 (vg.2.2.2.1 ||| ((1 : Int32) <<< (x1 &&& 31))) vn.2.1 vn.2.2.1 vn.2.2.2.2.2.1) (fun z5 =>
        some (.inl z5, (vg.1, vg.2.1, vg.2.2.1, (vg.2.2.2.1 ||| ((1 : Int32) <<< (x1 &&& 31))), vg.2.2.2.2.1, vg.2.2.2.2.2.1, vg.2.2.2.2.2.2), z4.1, z4.2.1, z4.2.2.1, z4.2.2.2, (vt.1, (0 : Int32), vt.2.2.1, vt.2.2.2.1, vt.2.2.2.2.1, vt.2.2.2.2.2.1, vt.2.2.2.2.2.2.1, vt.2.2.2.2.2.2.2.1, vt.2.2.2.2.2.2.2.2.1, vt.2.2.2.2.2.2.2.2.2), (vu.1, (0 : Int32), vu.2.2.1, vu.2.2.2.1, vu.2.2.2.2.1, vu.2.2.2.2.2.1, vu.2.2.2.2.2.2.1, vu.2.2.2.2.2.2.2.1, vu.2.2.2.2.2.2.2.2.1, vu.2.2.2.2.2.2.2.2.2), (vp.1, vp.2.1, vp.2.2.1, vp.2.2.2.1, vp.2.2.2.2.1, vp.2.2.2.2.2.1, vp.2.2.2.2.2.2.1, vp.2.2.2.2.2.2.2.1, vp.2.2.2.2.2.2.2.2.1, (0 : Int32), vp.2.2.2.2.2.2.2.2.2.2.1, vp.2.2.2.2.2.2.2.2.2.2.2.1, vp.2.2.2.2.2.2.2.2.2.2.2.2), (vq.1, vq.2.1, vq.2.2.1, vq.2.2.2.1, vq.2.2.2.2.1, vq.2.2.2.2.2.1, vq.2.2.2.2.2.2.1, vq.2.2.2.2.2.2.2.1, vq.2.2.2.2.2.2.2.2.1, vq.2.2.2.2.2.2.2.2.2.1, (0 : Int32)), (0 + z1r.1), (0 + z1r.2))))
      else
        some (.inr "java/lang/IllegalStateException", vg, vhn, vhs, vhN, vhP, vt, vu, vp, vq, ((0 + z1r.1) + 1), ((0 + z1r.2) + 6))))
  | (.inr z1e, z1r) =>
    some (.inr z1e, vg, vhn, vhs, vhN, vhP, vt, vu, vp, vq, (0 + z1r.1), (0 + z1r.2)))
/-! TelescopeNight.restart()V -/
def pX8_restart (vn : NiS) (vg : PrS) (vhn : Int32) (vhs : Int32) (vhN : Nat → NiS) (vhP : Nat → PrS) : Option (Int32 × Int32 × (Nat → NiS) × (Nat → PrS)) :=
  ob (pX8_remember vn vg vhn vhs vhN vhP) (fun z1 =>
  ob (pX5_begin) (fun z2 =>
  some (z1.1, z1.2.1, z1.2.2.1, z1.2.2.2)))
/-! TelescopeNight.inTurn()I -/
def pX8_inTurn (vn : NiS) (vg : PrS) : Option (Int32) :=
  ob (pX2_teamsInTurn vg.2.2.2.2.1 vg.2.2.2.1 vn.2.1 vn.2.2.1 vn.2.2.2.2.2.1) (fun z1 =>
  some z1)
/-! TelescopeNight.turnsOf(I)I -/
def pX8_turnsOf (x1 : Int32) (vn : NiS) (vg : PrS) : Option ((Int32 ⊕ String) × Nat × Nat) :=
  ob (pX8_checkTeam x1) (fun z1 => match z1 with
  | (.inl z1v, z1r) =>
    ob (pX2_turnCounts vg.2.2.2.2.1 vn.2.1 vn.2.2.2.2.2.1) (fun z2 =>
    ob (pX8_turnsIn z2 x1) (fun z3 =>
    some (.inl z3, (0 + z1r.1), (0 + z1r.2))))
  | (.inr z1e, z1r) =>
    some (.inr z1e, (0 + z1r.1), (0 + z1r.2)))
/-! TelescopeNight.exposures(I)I -/
def pX8_exposures (x1 : Int32) (vn : NiS) (vg : PrS) : Option ((Int32 ⊕ String) × Nat × Nat) :=
  ob (pX8_checkTarget x1 vn) (fun z1 => match z1 with
  | (.inl z1v, z1r) =>
    ob (pX8_madeOf vg.2.2.2.2.1 x1) (fun z2 =>
    some (.inl z2, (0 + z1r.1), (0 + z1r.2)))
  | (.inr z1e, z1r) =>
    some (.inr z1e, (0 + z1r.1), (0 + z1r.2)))
/-! TelescopeNight.past(II)I -/
def pX8_past (x1 : Int32) (x2 : Int32) (vn : NiS) (vg : PrS) : Option ((Int32 ⊕ String) × Nat × Nat) :=
  ob (pX8_checkSlot x1 vn) (fun z1 => match z1 with
  | (.inl z1v, z1r) =>
    if x1 < vg.1 then
      if x2 = 0 then
        if (x1 < 0 ∨ 12 ≤ x1.toNatClampNeg) then none else
        some (.inl (vg.2.2.2.2.2.1 x1.toNatClampNeg), (0 + z1r.1), (0 + z1r.2))
      else
        if x2 = (1 : Int32) then
          if (x1 < 0 ∨ 12 ≤ x1.toNatClampNeg) then none else
          some (.inl (vg.2.2.2.2.2.2 x1.toNatClampNeg), (0 + z1r.1), (0 + z1r.2))
        else
          some (.inr "java/lang/IllegalArgumentException", ((0 + z1r.1) + 1), ((0 + z1r.2) + 6))
    else
      some (.inr "java/lang/IndexOutOfBoundsException", ((0 + z1r.1) + 1), ((0 + z1r.2) + 6))
  | (.inr z1e, z1r) =>
    some (.inr z1e, (0 + z1r.1), (0 + z1r.2)))
/-! TelescopeNight.planValue()J -/
def pX8_planValue (vn : NiS) (vg : PrS) (vt : ReS) (vu : ReS) (vp : PlS) : Option (Int64 × ReS × ReS × PlS × Nat × Nat) :=
  ob (pX4_findBest vp.1 vp.2.1 vp.2.2.1 vp.2.2.2.1 vp.2.2.2.2.1 vp.2.2.2.2.2.1 vp.2.2.2.2.2.2.1 vp.2.2.2.2.2.2.2.1 vp.2.2.2.2.2.2.2.2.1 vp.2.2.2.2.2.2.2.2.2.1 vp.2.2.2.2.2.2.2.2.2.2.1 vp.2.2.2.2.2.2.2.2.2.2.2.1 vp.2.2.2.2.2.2.2.2.2.2.2.2 vn.1 vn.2.1 vn.2.2.1 vn.2.2.2.2.2.1 vn.2.2.2.2.2.2.1 vn.2.2.2.2.2.2.2 vg.1 vg.2.1 vg.2.2.2.1 vg.2.2.2.2.1 vt.1 vt.2.1 vt.2.2.1 vt.2.2.2.1 vt.2.2.2.2.1 vt.2.2.2.2.2.1 vt.2.2.2.2.2.2.1 vt.2.2.2.2.2.2.2.1 vt.2.2.2.2.2.2.2.2.1 vt.2.2.2.2.2.2.2.2.2 vu.1 vu.2.1 vu.2.2.1 vu.2.2.2.1 vu.2.2.2.2.1 vu.2.2.2.2.2.1 vu.2.2.2.2.2.2.1 vu.2.2.2.2.2.2.2.1 vu.2.2.2.2.2.2.2.2.1 vu.2.2.2.2.2.2.2.2.2) (fun z1 =>
  some (z1.2.2.2.2.1, (vt.1, z1.2.2.2.2.2.2.2.1, z1.2.2.2.2.2.2.2.2.1, z1.2.2.2.2.2.2.2.2.2.1, z1.2.2.2.2.2.2.2.2.2.2.1, z1.2.2.2.2.2.2.2.2.2.2.2.1, z1.2.2.2.2.2.2.2.2.2.2.2.2.1, z1.2.2.2.2.2.2.2.2.2.2.2.2.2.1, z1.2.2.2.2.2.2.2.2.2.2.2.2.2.2.1, z1.2.2.2.2.2.2.2.2.2.2.2.2.2.2.2.1), (vu.1, z1.2.2.2.2.2.2.2.2.2.2.2.2.2.2.2.2.1, z1.2.2.2.2.2.2.2.2.2.2.2.2.2.2.2.2.2.1, z1.2.2.2.2.2.2.2.2.2.2.2.2.2.2.2.2.2.2.1, z1.2.2.2.2.2.2.2.2.2.2.2.2.2.2.2.2.2.2.2.1, z1.2.2.2.2.2.2.2.2.2.2.2.2.2.2.2.2.2.2.2.2.1, z1.2.2.2.2.2.2.2.2.2.2.2.2.2.2.2.2.2.2.2.2.2.1, z1.2.2.2.2.2.2.2.2.2.2.2.2.2.2.2.2.2.2.2.2.2.2.1, z1.2.2.2.2.2.2.2.2.2.2.2.2.2.2.2.2.2.2.2.2.2.2.2.1, z1.2.2.2.2.2.2.2.2.2.2.2.2.2.2.2.2.2.2.2.2.2.2.2.2.1), (z1.1, z1.2.1, z1.2.2.1, z1.2.2.2.2.2.2.2.2.2.2.2.2.2.2.2.2.2.2.2.2.2.2.2.2.2.1, z1.2.2.2.2.2.2.2.2.2.2.2.2.2.2.2.2.2.2.2.2.2.2.2.2.2.2.1, z1.2.2.2.2.2.2.2.2.2.2.2.2.2.2.2.2.2.2.2.2.2.2.2.2.2.2.2.1, z1.2.2.2.2.2.2.2.2.2.2.2.2.2.2.2.2.2.2.2.2.2.2.2.2.2.2.2.2.1, z1.2.2.2.2.2.2.2.2.2.2.2.2.2.2.2.2.2.2.2.2.2.2.2.2.2.2.2.2.2.1, z1.2.2.2.2.2.2.2.2.2.2.2.2.2.2.2.2.2.2.2.2.2.2.2.2.2.2.2.2.2.2.1, z1.2.2.2.1, z1.2.2.2.2.1, z1.2.2.2.2.2.1, z1.2.2.2.2.2.2.1), (0 + z1.2.2.2.2.2.2.2.2.2.2.2.2.2.2.2.2.2.2.2.2.2.2.2.2.2.2.2.2.2.2.2.1), (0 + z1.2.2.2.2.2.2.2.2.2.2.2.2.2.2.2.2.2.2.2.2.2.2.2.2.2.2.2.2.2.2.2.2)))
/-! TelescopeNight.checkSlotAhead(I)V -/
def pX8_checkSlotAhead (x1 : Int32) (vn : NiS) (vg : PrS) : Option ((Unit ⊕ String) × Nat × Nat) :=
  ob (pX8_checkSlot x1 vn) (fun z1 => match z1 with
  | (.inl z1v, z1r) =>
    if vg.1 ≤ x1 then
      some (.inl (), (0 + z1r.1), (0 + z1r.2))
    else
      some (.inr "java/lang/IndexOutOfBoundsException", ((0 + z1r.1) + 1), ((0 + z1r.2) + 6))
  | (.inr z1e, z1r) =>
    some (.inr z1e, (0 + z1r.1), (0 + z1r.2)))
/-! TelescopeNight.planned(I)I -/
def pX8_planned (x1 : Int32) (vn : NiS) (vg : PrS) (vt : ReS) (vu : ReS) (vp : PlS) : Option ((Int32 ⊕ String) × ReS × ReS × PlS × Nat × Nat) :=
  ob (pX8_checkSlotAhead x1 vn vg) (fun z1 => match z1 with
  | (.inl z1v, z1r) =>
    ob (pX4_findBest vp.1 vp.2.1 vp.2.2.1 vp.2.2.2.1 vp.2.2.2.2.1 vp.2.2.2.2.2.1 vp.2.2.2.2.2.2.1 vp.2.2.2.2.2.2.2.1 vp.2.2.2.2.2.2.2.2.1 vp.2.2.2.2.2.2.2.2.2.1 vp.2.2.2.2.2.2.2.2.2.2.1 vp.2.2.2.2.2.2.2.2.2.2.2.1 vp.2.2.2.2.2.2.2.2.2.2.2.2 vn.1 vn.2.1 vn.2.2.1 vn.2.2.2.2.2.1 vn.2.2.2.2.2.2.1 vn.2.2.2.2.2.2.2 vg.1 vg.2.1 vg.2.2.2.1 vg.2.2.2.2.1 vt.1 vt.2.1 vt.2.2.1 vt.2.2.2.1 vt.2.2.2.2.1 vt.2.2.2.2.2.1 vt.2.2.2.2.2.2.1 vt.2.2.2.2.2.2.2.1 vt.2.2.2.2.2.2.2.2.1 vt.2.2.2.2.2.2.2.2.2 vu.1 vu.2.1 vu.2.2.1 vu.2.2.2.1 vu.2.2.2.2.1 vu.2.2.2.2.2.1 vu.2.2.2.2.2.2.1 vu.2.2.2.2.2.2.2.1 vu.2.2.2.2.2.2.2.2.1 vu.2.2.2.2.2.2.2.2.2) (fun z2 =>
    ob (pX4_targetOfBest x1 z2.2.2.2.2.2.2.1) (fun z3 =>
    some (.inl z3, (vt.1, z2.2.2.2.2.2.2.2.1, z2.2.2.2.2.2.2.2.2.1, z2.2.2.2.2.2.2.2.2.2.1, z2.2.2.2.2.2.2.2.2.2.2.1, z2.2.2.2.2.2.2.2.2.2.2.2.1, z2.2.2.2.2.2.2.2.2.2.2.2.2.1, z2.2.2.2.2.2.2.2.2.2.2.2.2.2.1, z2.2.2.2.2.2.2.2.2.2.2.2.2.2.2.1, z2.2.2.2.2.2.2.2.2.2.2.2.2.2.2.2.1), (vu.1, z2.2.2.2.2.2.2.2.2.2.2.2.2.2.2.2.2.1, z2.2.2.2.2.2.2.2.2.2.2.2.2.2.2.2.2.2.1, z2.2.2.2.2.2.2.2.2.2.2.2.2.2.2.2.2.2.2.1, z2.2.2.2.2.2.2.2.2.2.2.2.2.2.2.2.2.2.2.2.1, z2.2.2.2.2.2.2.2.2.2.2.2.2.2.2.2.2.2.2.2.2.1, z2.2.2.2.2.2.2.2.2.2.2.2.2.2.2.2.2.2.2.2.2.2.1, z2.2.2.2.2.2.2.2.2.2.2.2.2.2.2.2.2.2.2.2.2.2.2.1, z2.2.2.2.2.2.2.2.2.2.2.2.2.2.2.2.2.2.2.2.2.2.2.2.1, z2.2.2.2.2.2.2.2.2.2.2.2.2.2.2.2.2.2.2.2.2.2.2.2.2.1), (z2.1, z2.2.1, z2.2.2.1, z2.2.2.2.2.2.2.2.2.2.2.2.2.2.2.2.2.2.2.2.2.2.2.2.2.2.1, z2.2.2.2.2.2.2.2.2.2.2.2.2.2.2.2.2.2.2.2.2.2.2.2.2.2.2.1, z2.2.2.2.2.2.2.2.2.2.2.2.2.2.2.2.2.2.2.2.2.2.2.2.2.2.2.2.1, z2.2.2.2.2.2.2.2.2.2.2.2.2.2.2.2.2.2.2.2.2.2.2.2.2.2.2.2.2.1, z2.2.2.2.2.2.2.2.2.2.2.2.2.2.2.2.2.2.2.2.2.2.2.2.2.2.2.2.2.2.1, z2.2.2.2.2.2.2.2.2.2.2.2.2.2.2.2.2.2.2.2.2.2.2.2.2.2.2.2.2.2.2.1, z2.2.2.2.1, z2.2.2.2.2.1, z2.2.2.2.2.2.1, z2.2.2.2.2.2.2.1), ((0 + z1r.1) + z2.2.2.2.2.2.2.2.2.2.2.2.2.2.2.2.2.2.2.2.2.2.2.2.2.2.2.2.2.2.2.2.1), ((0 + z1r.2) + z2.2.2.2.2.2.2.2.2.2.2.2.2.2.2.2.2.2.2.2.2.2.2.2.2.2.2.2.2.2.2.2.2))))
  | (.inr z1e, z1r) =>
    some (.inr z1e, vt, vu, vp, (0 + z1r.1), (0 + z1r.2)))
/-! TelescopeNight.planValueWith(II)J -/
def pX8_planValueWith (x1 : Int32) (x2 : Int32) (vn : NiS) (vg : PrS) (vt : ReS) (vu : ReS) (vp : PlS) : Option ((Int64 ⊕ String) × ReS × ReS × PlS × Nat × Nat) :=
  ob (pX8_checkSlotAhead x1 vn vg) (fun z1 => match z1 with
  | (.inl z1v, z1r) =>
    ob (pX8_checkTarget x2 vn) (fun z2 => match z2 with
    | (.inl z2v, z2r) =>
      ob (pX4_most (1 : Int32) x1 x2 vp.2.2.2.1 vp.2.2.2.2.1 vp.2.2.2.2.2.1 vp.2.2.2.2.2.2.1 vp.2.2.2.2.2.2.2.1 vp.2.2.2.2.2.2.2.2.1 vn.1 vn.2.1 vn.2.2.1 vn.2.2.2.2.2.1 vn.2.2.2.2.2.2.1 vn.2.2.2.2.2.2.2 vg.1 vg.2.1 vg.2.2.2.1 vg.2.2.2.2.1 vt.1 vt.2.1 vt.2.2.1 vt.2.2.2.1 vt.2.2.2.2.1 vt.2.2.2.2.2.1 vt.2.2.2.2.2.2.1 vt.2.2.2.2.2.2.2.1 vt.2.2.2.2.2.2.2.2.1 vt.2.2.2.2.2.2.2.2.2 vu.1 vu.2.1 vu.2.2.1 vu.2.2.2.1 vu.2.2.2.2.1 vu.2.2.2.2.2.1 vu.2.2.2.2.2.2.1 vu.2.2.2.2.2.2.2.1 vu.2.2.2.2.2.2.2.2.1 vu.2.2.2.2.2.2.2.2.2) (fun z3 =>
      if ¬ (lg_cmp z3.1 ((-1 : Int64))) = 0 then
        some (.inl z3.1, (vt.1, z3.2.2.2.2.1, z3.2.2.2.2.2.1, z3.2.2.2.2.2.2.1, z3.2.2.2.2.2.2.2.1, z3.2.2.2.2.2.2.2.2.1, z3.2.2.2.2.2.2.2.2.2.1, z3.2.2.2.2.2.2.2.2.2.2.1, z3.2.2.2.2.2.2.2.2.2.2.2.1, z3.2.2.2.2.2.2.2.2.2.2.2.2.1), (vu.1, z3.2.2.2.2.2.2.2.2.2.2.2.2.2.1, z3.2.2.2.2.2.2.2.2.2.2.2.2.2.2.1, z3.2.2.2.2.2.2.2.2.2.2.2.2.2.2.2.1, z3.2.2.2.2.2.2.2.2.2.2.2.2.2.2.2.2.1, z3.2.2.2.2.2.2.2.2.2.2.2.2.2.2.2.2.2.1, z3.2.2.2.2.2.2.2.2.2.2.2.2.2.2.2.2.2.2.1, z3.2.2.2.2.2.2.2.2.2.2.2.2.2.2.2.2.2.2.2.1, z3.2.2.2.2.2.2.2.2.2.2.2.2.2.2.2.2.2.2.2.2.1, z3.2.2.2.2.2.2.2.2.2.2.2.2.2.2.2.2.2.2.2.2.2.1), (z3.2.1, z3.2.2.1, z3.2.2.2.1, z3.2.2.2.2.2.2.2.2.2.2.2.2.2.2.2.2.2.2.2.2.2.2.1, z3.2.2.2.2.2.2.2.2.2.2.2.2.2.2.2.2.2.2.2.2.2.2.2.1, z3.2.2.2.2.2.2.2.2.2.2.2.2.2.2.2.2.2.2.2.2.2.2.2.2.1, z3.2.2.2.2.2.2.2.2.2.2.2.2.2.2.2.2.2.2.2.2.2.2.2.2.2.1, z3.2.2.2.2.2.2.2.2.2.2.2.2.2.2.2.2.2.2.2.2.2.2.2.2.2.2.1, z3.2.2.2.2.2.2.2.2.2.2.2.2.2.2.2.2.2.2.2.2.2.2.2.2.2.2.2.1, vp.2.2.2.2.2.2.2.2.2.1, vp.2.2.2.2.2.2.2.2.2.2.1, vp.2.2.2.2.2.2.2.2.2.2.2.1, vp.2.2.2.2.2.2.2.2.2.2.2.2), (((0 + z1r.1) + z2r.1) + z3.2.2.2.2.2.2.2.2.2.2.2.2.2.2.2.2.2.2.2.2.2.2.2.2.2.2.2.2.1), (((0 + z1r.2) + z2r.2) + z3.2.2.2.2.2.2.2.2.2.2.2.2.2.2.2.2.2.2.2.2.2.2.2.2.2.2.2.2.2))
      else
        some (.inr "java/util/NoSuchElementException", (vt.1, z3.2.2.2.2.1, z3.2.2.2.2.2.1, z3.2.2.2.2.2.2.1, z3.2.2.2.2.2.2.2.1, z3.2.2.2.2.2.2.2.2.1, z3.2.2.2.2.2.2.2.2.2.1, z3.2.2.2.2.2.2.2.2.2.2.1, z3.2.2.2.2.2.2.2.2.2.2.2.1, z3.2.2.2.2.2.2.2.2.2.2.2.2.1), (vu.1, z3.2.2.2.2.2.2.2.2.2.2.2.2.2.1, z3.2.2.2.2.2.2.2.2.2.2.2.2.2.2.1, z3.2.2.2.2.2.2.2.2.2.2.2.2.2.2.2.1, z3.2.2.2.2.2.2.2.2.2.2.2.2.2.2.2.2.1, z3.2.2.2.2.2.2.2.2.2.2.2.2.2.2.2.2.2.1, z3.2.2.2.2.2.2.2.2.2.2.2.2.2.2.2.2.2.2.1, z3.2.2.2.2.2.2.2.2.2.2.2.2.2.2.2.2.2.2.2.1, z3.2.2.2.2.2.2.2.2.2.2.2.2.2.2.2.2.2.2.2.2.1, z3.2.2.2.2.2.2.2.2.2.2.2.2.2.2.2.2.2.2.2.2.2.1), (z3.2.1, z3.2.2.1, z3.2.2.2.1, z3.2.2.2.2.2.2.2.2.2.2.2.2.2.2.2.2.2.2.2.2.2.2.1, z3.2.2.2.2.2.2.2.2.2.2.2.2.2.2.2.2.2.2.2.2.2.2.2.1, z3.2.2.2.2.2.2.2.2.2.2.2.2.2.2.2.2.2.2.2.2.2.2.2.2.1, z3.2.2.2.2.2.2.2.2.2.2.2.2.2.2.2.2.2.2.2.2.2.2.2.2.2.1, z3.2.2.2.2.2.2.2.2.2.2.2.2.2.2.2.2.2.2.2.2.2.2.2.2.2.2.1, z3.2.2.2.2.2.2.2.2.2.2.2.2.2.2.2.2.2.2.2.2.2.2.2.2.2.2.2.1, vp.2.2.2.2.2.2.2.2.2.1, vp.2.2.2.2.2.2.2.2.2.2.1, vp.2.2.2.2.2.2.2.2.2.2.2.1, vp.2.2.2.2.2.2.2.2.2.2.2.2), ((((0 + z1r.1) + z2r.1) + z3.2.2.2.2.2.2.2.2.2.2.2.2.2.2.2.2.2.2.2.2.2.2.2.2.2.2.2.2.1) + 1), ((((0 + z1r.2) + z2r.2) + z3.2.2.2.2.2.2.2.2.2.2.2.2.2.2.2.2.2.2.2.2.2.2.2.2.2.2.2.2.2) + 6)))
    | (.inr z2e, z2r) =>
      some (.inr z2e, vt, vu, vp, ((0 + z1r.1) + z2r.1), ((0 + z1r.2) + z2r.2)))
  | (.inr z1e, z1r) =>
    some (.inr z1e, vt, vu, vp, (0 + z1r.1), (0 + z1r.2)))
/-! TelescopeNight.planCount()J -/
def pX8_planCount (vn : NiS) (vg : PrS) (vt : ReS) (vu : ReS) (vp : PlS) : Option (Int64 × ReS × ReS × PlS × Nat × Nat) :=
  ob (pX4_findBest vp.1 vp.2.1 vp.2.2.1 vp.2.2.2.1 vp.2.2.2.2.1 vp.2.2.2.2.2.1 vp.2.2.2.2.2.2.1 vp.2.2.2.2.2.2.2.1 vp.2.2.2.2.2.2.2.2.1 vp.2.2.2.2.2.2.2.2.2.1 vp.2.2.2.2.2.2.2.2.2.2.1 vp.2.2.2.2.2.2.2.2.2.2.2.1 vp.2.2.2.2.2.2.2.2.2.2.2.2 vn.1 vn.2.1 vn.2.2.1 vn.2.2.2.2.2.1 vn.2.2.2.2.2.2.1 vn.2.2.2.2.2.2.2 vg.1 vg.2.1 vg.2.2.2.1 vg.2.2.2.2.1 vt.1 vt.2.1 vt.2.2.1 vt.2.2.2.1 vt.2.2.2.2.1 vt.2.2.2.2.2.1 vt.2.2.2.2.2.2.1 vt.2.2.2.2.2.2.2.1 vt.2.2.2.2.2.2.2.2.1 vt.2.2.2.2.2.2.2.2.2 vu.1 vu.2.1 vu.2.2.1 vu.2.2.2.1 vu.2.2.2.2.1 vu.2.2.2.2.2.1 vu.2.2.2.2.2.2.1 vu.2.2.2.2.2.2.2.1 vu.2.2.2.2.2.2.2.2.1 vu.2.2.2.2.2.2.2.2.2) (fun z1 =>
  some (z1.2.2.2.2.2.1, (vt.1, z1.2.2.2.2.2.2.2.1, z1.2.2.2.2.2.2.2.2.1, z1.2.2.2.2.2.2.2.2.2.1, z1.2.2.2.2.2.2.2.2.2.2.1, z1.2.2.2.2.2.2.2.2.2.2.2.1, z1.2.2.2.2.2.2.2.2.2.2.2.2.1, z1.2.2.2.2.2.2.2.2.2.2.2.2.2.1, z1.2.2.2.2.2.2.2.2.2.2.2.2.2.2.1, z1.2.2.2.2.2.2.2.2.2.2.2.2.2.2.2.1), (vu.1, z1.2.2.2.2.2.2.2.2.2.2.2.2.2.2.2.2.1, z1.2.2.2.2.2.2.2.2.2.2.2.2.2.2.2.2.2.1, z1.2.2.2.2.2.2.2.2.2.2.2.2.2.2.2.2.2.2.1, z1.2.2.2.2.2.2.2.2.2.2.2.2.2.2.2.2.2.2.2.1, z1.2.2.2.2.2.2.2.2.2.2.2.2.2.2.2.2.2.2.2.2.1, z1.2.2.2.2.2.2.2.2.2.2.2.2.2.2.2.2.2.2.2.2.2.1, z1.2.2.2.2.2.2.2.2.2.2.2.2.2.2.2.2.2.2.2.2.2.2.1, z1.2.2.2.2.2.2.2.2.2.2.2.2.2.2.2.2.2.2.2.2.2.2.2.1, z1.2.2.2.2.2.2.2.2.2.2.2.2.2.2.2.2.2.2.2.2.2.2.2.2.1), (z1.1, z1.2.1, z1.2.2.1, z1.2.2.2.2.2.2.2.2.2.2.2.2.2.2.2.2.2.2.2.2.2.2.2.2.2.1, z1.2.2.2.2.2.2.2.2.2.2.2.2.2.2.2.2.2.2.2.2.2.2.2.2.2.2.1, z1.2.2.2.2.2.2.2.2.2.2.2.2.2.2.2.2.2.2.2.2.2.2.2.2.2.2.2.1, z1.2.2.2.2.2.2.2.2.2.2.2.2.2.2.2.2.2.2.2.2.2.2.2.2.2.2.2.2.1, z1.2.2.2.2.2.2.2.2.2.2.2.2.2.2.2.2.2.2.2.2.2.2.2.2.2.2.2.2.2.1, z1.2.2.2.2.2.2.2.2.2.2.2.2.2.2.2.2.2.2.2.2.2.2.2.2.2.2.2.2.2.2.1, z1.2.2.2.1, z1.2.2.2.2.1, z1.2.2.2.2.2.1, z1.2.2.2.2.2.2.1), (0 + z1.2.2.2.2.2.2.2.2.2.2.2.2.2.2.2.2.2.2.2.2.2.2.2.2.2.2.2.2.2.2.2.1), (0 + z1.2.2.2.2.2.2.2.2.2.2.2.2.2.2.2.2.2.2.2.2.2.2.2.2.2.2.2.2.2.2.2.2)))
/-! TelescopeNight.worth(I)J -/
def pX8_worth (x1 : Int32) (vn : NiS) (vg : PrS) (vt : ReS) (vu : ReS) (vp : PlS) : Option ((Int64 ⊕ String) × ReS × ReS × PlS × Nat × Nat) :=
  ob (pX8_checkTarget x1 vn) (fun z1 => match z1 with
  | (.inl z1v, z1r) =>
    ob (pX4_findBest vp.1 vp.2.1 vp.2.2.1 vp.2.2.2.1 vp.2.2.2.2.1 vp.2.2.2.2.2.1 vp.2.2.2.2.2.2.1 vp.2.2.2.2.2.2.2.1 vp.2.2.2.2.2.2.2.2.1 vp.2.2.2.2.2.2.2.2.2.1 vp.2.2.2.2.2.2.2.2.2.2.1 vp.2.2.2.2.2.2.2.2.2.2.2.1 vp.2.2.2.2.2.2.2.2.2.2.2.2 vn.1 vn.2.1 vn.2.2.1 vn.2.2.2.2.2.1 vn.2.2.2.2.2.2.1 vn.2.2.2.2.2.2.2 vg.1 vg.2.1 vg.2.2.2.1 vg.2.2.2.2.1 vt.1 vt.2.1 vt.2.2.1 vt.2.2.2.1 vt.2.2.2.2.1 vt.2.2.2.2.2.1 vt.2.2.2.2.2.2.1 vt.2.2.2.2.2.2.2.1 vt.2.2.2.2.2.2.2.2.1 vt.2.2.2.2.2.2.2.2.2 vu.1 vu.2.1 vu.2.2.1 vu.2.2.2.1 vu.2.2.2.2.1 vu.2.2.2.2.2.1 vu.2.2.2.2.2.2.1 vu.2.2.2.2.2.2.2.1 vu.2.2.2.2.2.2.2.2.1 vu.2.2.2.2.2.2.2.2.2) (fun z2 =>
    ob (pX4_most (2 : Int32) (-1 : Int32) x1 z2.2.2.2.2.2.2.2.2.2.2.2.2.2.2.2.2.2.2.2.2.2.2.2.2.2.1 z2.2.2.2.2.2.2.2.2.2.2.2.2.2.2.2.2.2.2.2.2.2.2.2.2.2.2.1 z2.2.2.2.2.2.2.2.2.2.2.2.2.2.2.2.2.2.2.2.2.2.2.2.2.2.2.2.1 z2.2.2.2.2.2.2.2.2.2.2.2.2.2.2.2.2.2.2.2.2.2.2.2.2.2.2.2.2.1 z2.2.2.2.2.2.2.2.2.2.2.2.2.2.2.2.2.2.2.2.2.2.2.2.2.2.2.2.2.2.1 z2.2.2.2.2.2.2.2.2.2.2.2.2.2.2.2.2.2.2.2.2.2.2.2.2.2.2.2.2.2.2.1 vn.1 vn.2.1 vn.2.2.1 vn.2.2.2.2.2.1 vn.2.2.2.2.2.2.1 vn.2.2.2.2.2.2.2 vg.1 vg.2.1 vg.2.2.2.1 vg.2.2.2.2.1 vt.1 z2.2.2.2.2.2.2.2.1 z2.2.2.2.2.2.2.2.2.1 z2.2.2.2.2.2.2.2.2.2.1 z2.2.2.2.2.2.2.2.2.2.2.1 z2.2.2.2.2.2.2.2.2.2.2.2.1 z2.2.2.2.2.2.2.2.2.2.2.2.2.1 z2.2.2.2.2.2.2.2.2.2.2.2.2.2.1 z2.2.2.2.2.2.2.2.2.2.2.2.2.2.2.1 z2.2.2.2.2.2.2.2.2.2.2.2.2.2.2.2.1 vu.1 z2.2.2.2.2.2.2.2.2.2.2.2.2.2.2.2.2.1 z2.2.2.2.2.2.2.2.2.2.2.2.2.2.2.2.2.2.1 z2.2.2.2.2.2.2.2.2.2.2.2.2.2.2.2.2.2.2.1 z2.2.2.2.2.2.2.2.2.2.2.2.2.2.2.2.2.2.2.2.1 z2.2.2.2.2.2.2.2.2.2.2.2.2.2.2.2.2.2.2.2.2.1 z2.2.2.2.2.2.2.2.2.2.2.2.2.2.2.2.2.2.2.2.2.2.1 z2.2.2.2.2.2.2.2.2.2.2.2.2.2.2.2.2.2.2.2.2.2.2.1 z2.2.2.2.2.2.2.2.2.2.2.2.2.2.2.2.2.2.2.2.2.2.2.2.1 z2.2.2.2.2.2.2.2.2.2.2.2.2.2.2.2.2.2.2.2.2.2.2.2.2.1) (fun z3 =>
    some (.inl (z2.2.2.2.2.1 - z3.1), (vt.1, z3.2.2.2.2.1, z3.2.2.2.2.2.1, z3.2.2.2.2.2.2.1, z3.2.2.2.2.2.2.2.1, z3.2.2.2.2.2.2.2.2.1, z3.2.2.2.2.2.2.2.2.2.1, z3.2.2.2.2.2.2.2.2.2.2.1, z3.2.2.2.2.2.2.2.2.2.2.2.1, z3.2.2.2.2.2.2.2.2.2.2.2.2.1), (vu.1, z3.2.2.2.2.2.2.2.2.2.2.2.2.2.1, z3.2.2.2.2.2.2.2.2.2.2.2.2.2.2.1, z3.2.2.2.2.2.2.2.2.2.2.2.2.2.2.2.1, z3.2.2.2.2.2.2.2.2.2.2.2.2.2.2.2.2.1, z3.2.2.2.2.2.2.2.2.2.2.2.2.2.2.2.2.2.1, z3.2.2.2.2.2.2.2.2.2.2.2.2.2.2.2.2.2.2.1, z3.2.2.2.2.2.2.2.2.2.2.2.2.2.2.2.2.2.2.2.1, z3.2.2.2.2.2.2.2.2.2.2.2.2.2.2.2.2.2.2.2.2.1, z3.2.2.2.2.2.2.2.2.2.2.2.2.2.2.2.2.2.2.2.2.2.1), (z3.2.1, z3.2.2.1, z3.2.2.2.1, z3.2.2.2.2.2.2.2.2.2.2.2.2.2.2.2.2.2.2.2.2.2.2.1, z3.2.2.2.2.2.2.2.2.2.2.2.2.2.2.2.2.2.2.2.2.2.2.2.1, z3.2.2.2.2.2.2.2.2.2.2.2.2.2.2.2.2.2.2.2.2.2.2.2.2.1, z3.2.2.2.2.2.2.2.2.2.2.2.2.2.2.2.2.2.2.2.2.2.2.2.2.2.1, z3.2.2.2.2.2.2.2.2.2.2.2.2.2.2.2.2.2.2.2.2.2.2.2.2.2.2.1, z3.2.2.2.2.2.2.2.2.2.2.2.2.2.2.2.2.2.2.2.2.2.2.2.2.2.2.2.1, z2.2.2.2.1, z2.2.2.2.2.1, z2.2.2.2.2.2.1, z2.2.2.2.2.2.2.1), (((0 + z1r.1) + z2.2.2.2.2.2.2.2.2.2.2.2.2.2.2.2.2.2.2.2.2.2.2.2.2.2.2.2.2.2.2.2.1) + z3.2.2.2.2.2.2.2.2.2.2.2.2.2.2.2.2.2.2.2.2.2.2.2.2.2.2.2.2.1), (((0 + z1r.2) + z2.2.2.2.2.2.2.2.2.2.2.2.2.2.2.2.2.2.2.2.2.2.2.2.2.2.2.2.2.2.2.2.2) + z3.2.2.2.2.2.2.2.2.2.2.2.2.2.2.2.2.2.2.2.2.2.2.2.2.2.2.2.2.2))))
  | (.inr z1e, z1r) =>
    some (.inr z1e, vt, vu, vp, (0 + z1r.1), (0 + z1r.2)))
/-! TelescopeNight.priceOfTurns()J -/
def pX8_priceOfTurns (vn : NiS) (vg : PrS) (vt : ReS) (vu : ReS) (vp : PlS) : Option (Int64 × ReS × ReS × PlS × Nat × Nat) :=
  ob (pX4_findBest vp.1 vp.2.1 vp.2.2.1 vp.2.2.2.1 vp.2.2.2.2.1 vp.2.2.2.2.2.1 vp.2.2.2.2.2.2.1 vp.2.2.2.2.2.2.2.1 vp.2.2.2.2.2.2.2.2.1 vp.2.2.2.2.2.2.2.2.2.1 vp.2.2.2.2.2.2.2.2.2.2.1 vp.2.2.2.2.2.2.2.2.2.2.2.1 vp.2.2.2.2.2.2.2.2.2.2.2.2 vn.1 vn.2.1 vn.2.2.1 vn.2.2.2.2.2.1 vn.2.2.2.2.2.2.1 vn.2.2.2.2.2.2.2 vg.1 vg.2.1 vg.2.2.2.1 vg.2.2.2.2.1 vt.1 vt.2.1 vt.2.2.1 vt.2.2.2.1 vt.2.2.2.2.1 vt.2.2.2.2.2.1 vt.2.2.2.2.2.2.1 vt.2.2.2.2.2.2.2.1 vt.2.2.2.2.2.2.2.2.1 vt.2.2.2.2.2.2.2.2.2 vu.1 vu.2.1 vu.2.2.1 vu.2.2.2.1 vu.2.2.2.2.1 vu.2.2.2.2.2.1 vu.2.2.2.2.2.2.1 vu.2.2.2.2.2.2.2.1 vu.2.2.2.2.2.2.2.2.1 vu.2.2.2.2.2.2.2.2.2) (fun z1 =>
  ob (pX4_most (3 : Int32) (-1 : Int32) (-1 : Int32) z1.2.2.2.2.2.2.2.2.2.2.2.2.2.2.2.2.2.2.2.2.2.2.2.2.2.1 z1.2.2.2.2.2.2.2.2.2.2.2.2.2.2.2.2.2.2.2.2.2.2.2.2.2.2.1 z1.2.2.2.2.2.2.2.2.2.2.2.2.2.2.2.2.2.2.2.2.2.2.2.2.2.2.2.1 z1.2.2.2.2.2.2.2.2.2.2.2.2.2.2.2.2.2.2.2.2.2.2.2.2.2.2.2.2.1 z1.2.2.2.2.2.2.2.2.2.2.2.2.2.2.2.2.2.2.2.2.2.2.2.2.2.2.2.2.2.1 z1.2.2.2.2.2.2.2.2.2.2.2.2.2.2.2.2.2.2.2.2.2.2.2.2.2.2.2.2.2.2.1 vn.1 vn.2.1 vn.2.2.1 vn.2.2.2.2.2.1 vn.2.2.2.2.2.2.1 vn.2.2.2.2.2.2.2 vg.1 vg.2.1 vg.2.2.2.1 vg.2.2.2.2.1 vt.1 z1.2.2.2.2.2.2.2.1 z1.2.2.2.2.2.2.2.2.1 z1.2.2.2.2.2.2.2.2.2.1 z1.2.2.2.2.2.2.2.2.2.2.1 z1.2.2.2.2.2.2.2.2.2.2.2.1 z1.2.2.2.2.2.2.2.2.2.2.2.2.1 z1.2.2.2.2.2.2.2.2.2.2.2.2.2.1 z1.2.2.2.2.2.2.2.2.2.2.2.2.2.2.1 z1.2.2.2.2.2.2.2.2.2.2.2.2.2.2.2.1 vu.1 z1.2.2.2.2.2.2.2.2.2.2.2.2.2.2.2.2.1 z1.2.2.2.2.2.2.2.2.2.2.2.2.2.2.2.2.2.1 z1.2.2.2.2.2.2.2.2.2.2.2.2.2.2.2.2.2.2.1 z1.2.2.2.2.2.2.2.2.2.2.2.2.2.2.2.2.2.2.2.1 z1.2.2.2.2.2.2.2.2.2.2.2.2.2.2.2.2.2.2.2.2.1 z1.2.2.2.2.2.2.2.2.2.2.2.2.2.2.2.2.2.2.2.2.2.1 z1.2.2.2.2.2.2.2.2.2.2.2.2.2.2.2.2.2.2.2.2.2.2.1 z1.2.2.2.2.2.2.2.2.2.2.2.2.2.2.2.2.2.2.2.2.2.2.2.1 z1.2.2.2.2.2.2.2.2.2.2.2.2.2.2.2.2.2.2.2.2.2.2.2.2.1) (fun z2 =>
  some ((z2.1 - z1.2.2.2.2.1), (vt.1, z2.2.2.2.2.1, z2.2.2.2.2.2.1, z2.2.2.2.2.2.2.1, z2.2.2.2.2.2.2.2.1, z2.2.2.2.2.2.2.2.2.1, z2.2.2.2.2.2.2.2.2.2.1, z2.2.2.2.2.2.2.2.2.2.2.1, z2.2.2.2.2.2.2.2.2.2.2.2.1, z2.2.2.2.2.2.2.2.2.2.2.2.2.1), (vu.1, z2.2.2.2.2.2.2.2.2.2.2.2.2.2.1, z2.2.2.2.2.2.2.2.2.2.2.2.2.2.2.1, z2.2.2.2.2.2.2.2.2.2.2.2.2.2.2.2.1, z2.2.2.2.2.2.2.2.2.2.2.2.2.2.2.2.2.1, z2.2.2.2.2.2.2.2.2.2.2.2.2.2.2.2.2.2.1, z2.2.2.2.2.2.2.2.2.2.2.2.2.2.2.2.2.2.2.1, z2.2.2.2.2.2.2.2.2.2.2.2.2.2.2.2.2.2.2.2.1, z2.2.2.2.2.2.2.2.2.2.2.2.2.2.2.2.2.2.2.2.2.1, z2.2.2.2.2.2.2.2.2.2.2.2.2.2.2.2.2.2.2.2.2.2.1), (z2.2.1, z2.2.2.1, z2.2.2.2.1, z2.2.2.2.2.2.2.2.2.2.2.2.2.2.2.2.2.2.2.2.2.2.2.1, z2.2.2.2.2.2.2.2.2.2.2.2.2.2.2.2.2.2.2.2.2.2.2.2.1, z2.2.2.2.2.2.2.2.2.2.2.2.2.2.2.2.2.2.2.2.2.2.2.2.2.1, z2.2.2.2.2.2.2.2.2.2.2.2.2.2.2.2.2.2.2.2.2.2.2.2.2.2.1, z2.2.2.2.2.2.2.2.2.2.2.2.2.2.2.2.2.2.2.2.2.2.2.2.2.2.2.1, z2.2.2.2.2.2.2.2.2.2.2.2.2.2.2.2.2.2.2.2.2.2.2.2.2.2.2.2.1, z1.2.2.2.1, z1.2.2.2.2.1, z1.2.2.2.2.2.1, z1.2.2.2.2.2.2.1), ((0 + z1.2.2.2.2.2.2.2.2.2.2.2.2.2.2.2.2.2.2.2.2.2.2.2.2.2.2.2.2.2.2.2.1) + z2.2.2.2.2.2.2.2.2.2.2.2.2.2.2.2.2.2.2.2.2.2.2.2.2.2.2.2.2.1), ((0 + z1.2.2.2.2.2.2.2.2.2.2.2.2.2.2.2.2.2.2.2.2.2.2.2.2.2.2.2.2.2.2.2.2) + z2.2.2.2.2.2.2.2.2.2.2.2.2.2.2.2.2.2.2.2.2.2.2.2.2.2.2.2.2.2))))
/-! TelescopeNight.mostExposures(Z)I -/
def pX8_mostExposures (x1 : Int32) (vn : NiS) (vg : PrS) (vt : ReS) (vu : ReS) (vp : PlS) : Option (Int32 × ReS × ReS × PlS × Nat × Nat) :=
  if x1 = 0 then
    ob (pX4_most (5 : Int32) (-1 : Int32) (-1 : Int32) vp.2.2.2.1 vp.2.2.2.2.1 vp.2.2.2.2.2.1 vp.2.2.2.2.2.2.1 vp.2.2.2.2.2.2.2.1 vp.2.2.2.2.2.2.2.2.1 vn.1 vn.2.1 vn.2.2.1 vn.2.2.2.2.2.1 vn.2.2.2.2.2.2.1 vn.2.2.2.2.2.2.2 vg.1 vg.2.1 vg.2.2.2.1 vg.2.2.2.2.1 vt.1 vt.2.1 vt.2.2.1 vt.2.2.2.1 vt.2.2.2.2.1 vt.2.2.2.2.2.1 vt.2.2.2.2.2.2.1 vt.2.2.2.2.2.2.2.1 vt.2.2.2.2.2.2.2.2.1 vt.2.2.2.2.2.2.2.2.2 vu.1 vu.2.1 vu.2.2.1 vu.2.2.2.1 vu.2.2.2.2.1 vu.2.2.2.2.2.1 vu.2.2.2.2.2.2.1 vu.2.2.2.2.2.2.2.1 vu.2.2.2.2.2.2.2.2.1 vu.2.2.2.2.2.2.2.2.2) (fun z1 =>
    some (z1.1.toInt32, (vt.1, z1.2.2.2.2.1, z1.2.2.2.2.2.1, z1.2.2.2.2.2.2.1, z1.2.2.2.2.2.2.2.1, z1.2.2.2.2.2.2.2.2.1, z1.2.2.2.2.2.2.2.2.2.1, z1.2.2.2.2.2.2.2.2.2.2.1, z1.2.2.2.2.2.2.2.2.2.2.2.1, z1.2.2.2.2.2.2.2.2.2.2.2.2.1), (vu.1, z1.2.2.2.2.2.2.2.2.2.2.2.2.2.1, z1.2.2.2.2.2.2.2.2.2.2.2.2.2.2.1, z1.2.2.2.2.2.2.2.2.2.2.2.2.2.2.2.1, z1.2.2.2.2.2.2.2.2.2.2.2.2.2.2.2.2.1, z1.2.2.2.2.2.2.2.2.2.2.2.2.2.2.2.2.2.1, z1.2.2.2.2.2.2.2.2.2.2.2.2.2.2.2.2.2.2.1, z1.2.2.2.2.2.2.2.2.2.2.2.2.2.2.2.2.2.2.2.1, z1.2.2.2.2.2.2.2.2.2.2.2.2.2.2.2.2.2.2.2.2.1, z1.2.2.2.2.2.2.2.2.2.2.2.2.2.2.2.2.2.2.2.2.2.1), (z1.2.1, z1.2.2.1, z1.2.2.2.1, z1.2.2.2.2.2.2.2.2.2.2.2.2.2.2.2.2.2.2.2.2.2.2.1, z1.2.2.2.2.2.2.2.2.2.2.2.2.2.2.2.2.2.2.2.2.2.2.2.1, z1.2.2.2.2.2.2.2.2.2.2.2.2.2.2.2.2.2.2.2.2.2.2.2.2.1, z1.2.2.2.2.2.2.2.2.2.2.2.2.2.2.2.2.2.2.2.2.2.2.2.2.2.1, z1.2.2.2.2.2.2.2.2.2.2.2.2.2.2.2.2.2.2.2.2.2.2.2.2.2.2.1, z1.2.2.2.2.2.2.2.2.2.2.2.2.2.2.2.2.2.2.2.2.2.2.2.2.2.2.2.1, vp.2.2.2.2.2.2.2.2.2.1, vp.2.2.2.2.2.2.2.2.2.2.1, vp.2.2.2.2.2.2.2.2.2.2.2.1, vp.2.2.2.2.2.2.2.2.2.2.2.2), (0 + z1.2.2.2.2.2.2.2.2.2.2.2.2.2.2.2.2.2.2.2.2.2.2.2.2.2.2.2.2.1), (0 + z1.2.2.2.2.2.2.2.2.2.2.2.2.2.2.2.2.2.2.2.2.2.2.2.2.2.2.2.2.2)))
  else
    ob (pX4_most (4 : Int32) (-1 : Int32) (-1 : Int32) vp.2.2.2.1 vp.2.2.2.2.1 vp.2.2.2.2.2.1 vp.2.2.2.2.2.2.1 vp.2.2.2.2.2.2.2.1 vp.2.2.2.2.2.2.2.2.1 vn.1 vn.2.1 vn.2.2.1 vn.2.2.2.2.2.1 vn.2.2.2.2.2.2.1 vn.2.2.2.2.2.2.2 vg.1 vg.2.1 vg.2.2.2.1 vg.2.2.2.2.1 vt.1 vt.2.1 vt.2.2.1 vt.2.2.2.1 vt.2.2.2.2.1 vt.2.2.2.2.2.1 vt.2.2.2.2.2.2.1 vt.2.2.2.2.2.2.2.1 vt.2.2.2.2.2.2.2.2.1 vt.2.2.2.2.2.2.2.2.2 vu.1 vu.2.1 vu.2.2.1 vu.2.2.2.1 vu.2.2.2.2.1 vu.2.2.2.2.2.1 vu.2.2.2.2.2.2.1 vu.2.2.2.2.2.2.2.1 vu.2.2.2.2.2.2.2.2.1 vu.2.2.2.2.2.2.2.2.2) (fun z2 =>
    some (z2.1.toInt32, (vt.1, z2.2.2.2.2.1, z2.2.2.2.2.2.1, z2.2.2.2.2.2.2.1, z2.2.2.2.2.2.2.2.1, z2.2.2.2.2.2.2.2.2.1, z2.2.2.2.2.2.2.2.2.2.1, z2.2.2.2.2.2.2.2.2.2.2.1, z2.2.2.2.2.2.2.2.2.2.2.2.1, z2.2.2.2.2.2.2.2.2.2.2.2.2.1), (vu.1, z2.2.2.2.2.2.2.2.2.2.2.2.2.2.1, z2.2.2.2.2.2.2.2.2.2.2.2.2.2.2.1, z2.2.2.2.2.2.2.2.2.2.2.2.2.2.2.2.1, z2.2.2.2.2.2.2.2.2.2.2.2.2.2.2.2.2.1, z2.2.2.2.2.2.2.2.2.2.2.2.2.2.2.2.2.2.1, z2.2.2.2.2.2.2.2.2.2.2.2.2.2.2.2.2.2.2.1, z2.2.2.2.2.2.2.2.2.2.2.2.2.2.2.2.2.2.2.2.1, z2.2.2.2.2.2.2.2.2.2.2.2.2.2.2.2.2.2.2.2.2.1, z2.2.2.2.2.2.2.2.2.2.2.2.2.2.2.2.2.2.2.2.2.2.1), (z2.2.1, z2.2.2.1, z2.2.2.2.1, z2.2.2.2.2.2.2.2.2.2.2.2.2.2.2.2.2.2.2.2.2.2.2.1, z2.2.2.2.2.2.2.2.2.2.2.2.2.2.2.2.2.2.2.2.2.2.2.2.1, z2.2.2.2.2.2.2.2.2.2.2.2.2.2.2.2.2.2.2.2.2.2.2.2.2.1, z2.2.2.2.2.2.2.2.2.2.2.2.2.2.2.2.2.2.2.2.2.2.2.2.2.2.1, z2.2.2.2.2.2.2.2.2.2.2.2.2.2.2.2.2.2.2.2.2.2.2.2.2.2.2.1, z2.2.2.2.2.2.2.2.2.2.2.2.2.2.2.2.2.2.2.2.2.2.2.2.2.2.2.2.1, vp.2.2.2.2.2.2.2.2.2.1, vp.2.2.2.2.2.2.2.2.2.2.1, vp.2.2.2.2.2.2.2.2.2.2.2.1, vp.2.2.2.2.2.2.2.2.2.2.2.2), (0 + z2.2.2.2.2.2.2.2.2.2.2.2.2.2.2.2.2.2.2.2.2.2.2.2.2.2.2.2.2.1), (0 + z2.2.2.2.2.2.2.2.2.2.2.2.2.2.2.2.2.2.2.2.2.2.2.2.2.2.2.2.2.2)))
/-! TelescopeNight.greedyValue()J -/
def pX8_greedyValue (vn : NiS) (vg : PrS) : Option (Int64) :=
  ob (pX4_valueOfGreedy vn.1 vn.2.1 vn.2.2.1 vn.2.2.2.2.2.1 vn.2.2.2.2.2.2.1 vn.2.2.2.2.2.2.2 vg.1 vg.2.1 vg.2.2.2.1 vg.2.2.2.2.1) (fun z1 =>
  some z1)
/-! TelescopeNight.meanValue()J -/
def pX8_meanValue (vn : NiS) (vg : PrS) (vt : ReS) (vq : DeS) : Option (Int64 × ReS × DeS × Nat × Nat) :=
  ob (pX0_bestMean vq.2.2.2.2.2.2.2.2.1 vq.2.2.2.2.2.2.2.2.2.1 vq.2.2.2.2.2.2.2.2.2.2 vn.1 vn.2.1 vn.2.2.1 vn.2.2.2.2.1 vn.2.2.2.2.2.1 vn.2.2.2.2.2.2.1 vn.2.2.2.2.2.2.2 vg.1 vg.2.1 vg.2.2.2.1 vg.2.2.2.2.1 vg.2.2.2.2.2.2 vt.1 vt.2.1 vt.2.2.1 vt.2.2.2.1 vt.2.2.2.2.1 vt.2.2.2.2.2.1 vt.2.2.2.2.2.2.1 vt.2.2.2.2.2.2.2.1 vt.2.2.2.2.2.2.2.2.1 vt.2.2.2.2.2.2.2.2.2 vq.1 vq.2.1 vq.2.2.1 vq.2.2.2.1 vq.2.2.2.2.1 vq.2.2.2.2.2.1 vq.2.2.2.2.2.2.1 vq.2.2.2.2.2.2.2.1) (fun z1 =>
  some (z1.1, (vt.1, z1.2.2.2.2.1, z1.2.2.2.2.2.1, z1.2.2.2.2.2.2.1, z1.2.2.2.2.2.2.2.1, z1.2.2.2.2.2.2.2.2.1, z1.2.2.2.2.2.2.2.2.2.1, z1.2.2.2.2.2.2.2.2.2.2.1, z1.2.2.2.2.2.2.2.2.2.2.2.1, z1.2.2.2.2.2.2.2.2.2.2.2.2.1), (z1.2.2.2.2.2.2.2.2.2.2.2.2.2.1, z1.2.2.2.2.2.2.2.2.2.2.2.2.2.2.1, z1.2.2.2.2.2.2.2.2.2.2.2.2.2.2.2.1, z1.2.2.2.2.2.2.2.2.2.2.2.2.2.2.2.2.1, z1.2.2.2.2.2.2.2.2.2.2.2.2.2.2.2.2.2.1, z1.2.2.2.2.2.2.2.2.2.2.2.2.2.2.2.2.2.2.1, z1.2.2.2.2.2.2.2.2.2.2.2.2.2.2.2.2.2.2.2.1, z1.2.2.2.2.2.2.2.2.2.2.2.2.2.2.2.2.2.2.2.2.1, z1.2.1, z1.2.2.1, z1.2.2.2.1), (0 + z1.2.2.2.2.2.2.2.2.2.2.2.2.2.2.2.2.2.2.2.2.2.1), (0 + z1.2.2.2.2.2.2.2.2.2.2.2.2.2.2.2.2.2.2.2.2.2.2)))
/-! TelescopeNight.meanValueOf(I)J -/
def pX8_meanValueOf (x1 : Int32) (vn : NiS) (vg : PrS) (vt : ReS) (vq : DeS) : Option ((Int64 ⊕ String) × ReS × DeS × Nat × Nat) :=
  ob (pX8_checkTarget x1 vn) (fun z1 => match z1 with
  | (.inl z1v, z1r) =>
    ob (pX8_checkPossible x1 vn vg) (fun z2 => match z2 with
    | (.inl z2v, z2r) =>
      ob (pX0_valueNow x1 vq.2.2.2.2.2.2.2.2.1 vq.2.2.2.2.2.2.2.2.2.1 vq.2.2.2.2.2.2.2.2.2.2 vn.1 vn.2.1 vn.2.2.1 vn.2.2.2.2.1 vn.2.2.2.2.2.1 vn.2.2.2.2.2.2.1 vg.1 vg.2.2.2.1 vg.2.2.2.2.1 vt.1 vt.2.1 vt.2.2.1 vt.2.2.2.1 vt.2.2.2.2.1 vt.2.2.2.2.2.1 vt.2.2.2.2.2.2.1 vt.2.2.2.2.2.2.2.1 vt.2.2.2.2.2.2.2.2.1 vt.2.2.2.2.2.2.2.2.2 vq.1 vq.2.1 vq.2.2.1 vq.2.2.2.1 vq.2.2.2.2.1 vq.2.2.2.2.2.1 vq.2.2.2.2.2.2.1 vq.2.2.2.2.2.2.2.1) (fun z3 =>
      some (.inl z3.1, (vt.1, z3.2.2.2.2.1, z3.2.2.2.2.2.1, z3.2.2.2.2.2.2.1, z3.2.2.2.2.2.2.2.1, z3.2.2.2.2.2.2.2.2.1, z3.2.2.2.2.2.2.2.2.2.1, z3.2.2.2.2.2.2.2.2.2.2.1, z3.2.2.2.2.2.2.2.2.2.2.2.1, z3.2.2.2.2.2.2.2.2.2.2.2.2.1), (z3.2.2.2.2.2.2.2.2.2.2.2.2.2.1, z3.2.2.2.2.2.2.2.2.2.2.2.2.2.2.1, z3.2.2.2.2.2.2.2.2.2.2.2.2.2.2.2.1, z3.2.2.2.2.2.2.2.2.2.2.2.2.2.2.2.2.1, z3.2.2.2.2.2.2.2.2.2.2.2.2.2.2.2.2.2.1, z3.2.2.2.2.2.2.2.2.2.2.2.2.2.2.2.2.2.2.1, z3.2.2.2.2.2.2.2.2.2.2.2.2.2.2.2.2.2.2.2.1, z3.2.2.2.2.2.2.2.2.2.2.2.2.2.2.2.2.2.2.2.2.1, z3.2.1, z3.2.2.1, z3.2.2.2.1), (((0 + z1r.1) + z2r.1) + z3.2.2.2.2.2.2.2.2.2.2.2.2.2.2.2.2.2.2.2.2.2.1), (((0 + z1r.2) + z2r.2) + z3.2.2.2.2.2.2.2.2.2.2.2.2.2.2.2.2.2.2.2.2.2.2)))
    | (.inr z2e, z2r) =>
      some (.inr z2e, vt, vq, ((0 + z1r.1) + z2r.1), ((0 + z1r.2) + z2r.2)))
  | (.inr z1e, z1r) =>
    some (.inr z1e, vt, vq, (0 + z1r.1), (0 + z1r.2)))
/-! TelescopeNight.decision()I -/
def pX8_decision (vn : NiS) (vg : PrS) (vt : ReS) (vq : DeS) : Option ((Int32 ⊕ String) × ReS × DeS × Nat × Nat) :=
  if ¬ vg.2.1 = 0 then
    if ¬ vg.2.1 = (1 : Int32) then
      some (.inl (-1 : Int32), vt, vq, 0, 0)
    else
      ob (pX0_choiceNow vq.2.2.2.2.2.2.2.2.1 vq.2.2.2.2.2.2.2.2.2.1 vq.2.2.2.2.2.2.2.2.2.2 vn.1 vn.2.1 vn.2.2.1 vn.2.2.2.2.1 vn.2.2.2.2.2.1 vn.2.2.2.2.2.2.1 vg.1 vg.2.2.2.1 vg.2.2.2.2.1 vt.1 vt.2.1 vt.2.2.1 vt.2.2.2.1 vt.2.2.2.2.1 vt.2.2.2.2.2.1 vt.2.2.2.2.2.2.1 vt.2.2.2.2.2.2.2.1 vt.2.2.2.2.2.2.2.2.1 vt.2.2.2.2.2.2.2.2.2 vq.1 vq.2.1 vq.2.2.1 vq.2.2.2.1 vq.2.2.2.2.1 vq.2.2.2.2.2.1 vq.2.2.2.2.2.2.1 vq.2.2.2.2.2.2.2.1) (fun z1 =>
      some (.inl z1.1, (vt.1, z1.2.2.2.2.1, z1.2.2.2.2.2.1, z1.2.2.2.2.2.2.1, z1.2.2.2.2.2.2.2.1, z1.2.2.2.2.2.2.2.2.1, z1.2.2.2.2.2.2.2.2.2.1, z1.2.2.2.2.2.2.2.2.2.2.1, z1.2.2.2.2.2.2.2.2.2.2.2.1, z1.2.2.2.2.2.2.2.2.2.2.2.2.1), (z1.2.2.2.2.2.2.2.2.2.2.2.2.2.1, z1.2.2.2.2.2.2.2.2.2.2.2.2.2.2.1, z1.2.2.2.2.2.2.2.2.2.2.2.2.2.2.2.1, z1.2.2.2.2.2.2.2.2.2.2.2.2.2.2.2.2.1, z1.2.2.2.2.2.2.2.2.2.2.2.2.2.2.2.2.2.1, z1.2.2.2.2.2.2.2.2.2.2.2.2.2.2.2.2.2.2.1, z1.2.2.2.2.2.2.2.2.2.2.2.2.2.2.2.2.2.2.2.1, z1.2.2.2.2.2.2.2.2.2.2.2.2.2.2.2.2.2.2.2.2.1, z1.2.1, z1.2.2.1, z1.2.2.2.1), (0 + z1.2.2.2.2.2.2.2.2.2.2.2.2.2.2.2.2.2.2.2.2.2.1), (0 + z1.2.2.2.2.2.2.2.2.2.2.2.2.2.2.2.2.2.2.2.2.2.2)))
  else
    some (.inr "java/lang/IllegalStateException", vt, vq, 1, 6)
/-! TelescopeNight.meanExposures(I)J -/
def pX8_meanExposures (x1 : Int32) (vn : NiS) (vg : PrS) (vt : ReS) (vq : DeS) : Option ((Int64 ⊕ String) × ReS × DeS × Nat × Nat) :=
  ob (pX8_checkTarget x1 vn) (fun z1 => match z1 with
  | (.inl z1v, z1r) =>
    ob (pX0_followedMean (1 : Int32) x1 vq.2.2.2.2.2.2.2.2.1 vq.2.2.2.2.2.2.2.2.2.1 vq.2.2.2.2.2.2.2.2.2.2 vn.1 vn.2.1 vn.2.2.1 vn.2.2.2.2.1 vn.2.2.2.2.2.1 vn.2.2.2.2.2.2.1 vn.2.2.2.2.2.2.2 vg.1 vg.2.1 vg.2.2.2.1 vg.2.2.2.2.1 vg.2.2.2.2.2.2 vt.1 vt.2.1 vt.2.2.1 vt.2.2.2.1 vt.2.2.2.2.1 vt.2.2.2.2.2.1 vt.2.2.2.2.2.2.1 vt.2.2.2.2.2.2.2.1 vt.2.2.2.2.2.2.2.2.1 vt.2.2.2.2.2.2.2.2.2 vq.1 vq.2.1 vq.2.2.1 vq.2.2.2.1 vq.2.2.2.2.1 vq.2.2.2.2.2.1 vq.2.2.2.2.2.2.1 vq.2.2.2.2.2.2.2.1) (fun z2 =>
    some (.inl z2.1, (vt.1, z2.2.2.2.2.1, z2.2.2.2.2.2.1, z2.2.2.2.2.2.2.1, z2.2.2.2.2.2.2.2.1, z2.2.2.2.2.2.2.2.2.1, z2.2.2.2.2.2.2.2.2.2.1, z2.2.2.2.2.2.2.2.2.2.2.1, z2.2.2.2.2.2.2.2.2.2.2.2.1, z2.2.2.2.2.2.2.2.2.2.2.2.2.1), (z2.2.2.2.2.2.2.2.2.2.2.2.2.2.1, z2.2.2.2.2.2.2.2.2.2.2.2.2.2.2.1, z2.2.2.2.2.2.2.2.2.2.2.2.2.2.2.2.1, z2.2.2.2.2.2.2.2.2.2.2.2.2.2.2.2.2.1, z2.2.2.2.2.2.2.2.2.2.2.2.2.2.2.2.2.2.1, z2.2.2.2.2.2.2.2.2.2.2.2.2.2.2.2.2.2.2.1, z2.2.2.2.2.2.2.2.2.2.2.2.2.2.2.2.2.2.2.2.1, z2.2.2.2.2.2.2.2.2.2.2.2.2.2.2.2.2.2.2.2.2.1, z2.2.1, z2.2.2.1, z2.2.2.2.1), ((0 + z1r.1) + z2.2.2.2.2.2.2.2.2.2.2.2.2.2.2.2.2.2.2.2.2.2.1), ((0 + z1r.2) + z2.2.2.2.2.2.2.2.2.2.2.2.2.2.2.2.2.2.2.2.2.2.2)))
  | (.inr z1e, z1r) =>
    some (.inr z1e, vt, vq, (0 + z1r.1), (0 + z1r.2)))
/-! TelescopeNight.finishOdds(I)J -/
def pX8_finishOdds (x1 : Int32) (vn : NiS) (vg : PrS) (vt : ReS) (vq : DeS) : Option ((Int64 ⊕ String) × ReS × DeS × Nat × Nat) :=
  ob (pX8_checkTarget x1 vn) (fun z1 => match z1 with
  | (.inl z1v, z1r) =>
    ob (pX0_followedMean (2 : Int32) x1 vq.2.2.2.2.2.2.2.2.1 vq.2.2.2.2.2.2.2.2.2.1 vq.2.2.2.2.2.2.2.2.2.2 vn.1 vn.2.1 vn.2.2.1 vn.2.2.2.2.1 vn.2.2.2.2.2.1 vn.2.2.2.2.2.2.1 vn.2.2.2.2.2.2.2 vg.1 vg.2.1 vg.2.2.2.1 vg.2.2.2.2.1 vg.2.2.2.2.2.2 vt.1 vt.2.1 vt.2.2.1 vt.2.2.2.1 vt.2.2.2.2.1 vt.2.2.2.2.2.1 vt.2.2.2.2.2.2.1 vt.2.2.2.2.2.2.2.1 vt.2.2.2.2.2.2.2.2.1 vt.2.2.2.2.2.2.2.2.2 vq.1 vq.2.1 vq.2.2.1 vq.2.2.2.1 vq.2.2.2.2.1 vq.2.2.2.2.2.1 vq.2.2.2.2.2.2.1 vq.2.2.2.2.2.2.2.1) (fun z2 =>
    some (.inl z2.1, (vt.1, z2.2.2.2.2.1, z2.2.2.2.2.2.1, z2.2.2.2.2.2.2.1, z2.2.2.2.2.2.2.2.1, z2.2.2.2.2.2.2.2.2.1, z2.2.2.2.2.2.2.2.2.2.1, z2.2.2.2.2.2.2.2.2.2.2.1, z2.2.2.2.2.2.2.2.2.2.2.2.1, z2.2.2.2.2.2.2.2.2.2.2.2.2.1), (z2.2.2.2.2.2.2.2.2.2.2.2.2.2.1, z2.2.2.2.2.2.2.2.2.2.2.2.2.2.2.1, z2.2.2.2.2.2.2.2.2.2.2.2.2.2.2.2.1, z2.2.2.2.2.2.2.2.2.2.2.2.2.2.2.2.2.1, z2.2.2.2.2.2.2.2.2.2.2.2.2.2.2.2.2.2.1, z2.2.2.2.2.2.2.2.2.2.2.2.2.2.2.2.2.2.2.1, z2.2.2.2.2.2.2.2.2.2.2.2.2.2.2.2.2.2.2.2.1, z2.2.2.2.2.2.2.2.2.2.2.2.2.2.2.2.2.2.2.2.2.1, z2.2.1, z2.2.2.1, z2.2.2.2.1), ((0 + z1r.1) + z2.2.2.2.2.2.2.2.2.2.2.2.2.2.2.2.2.2.2.2.2.2.1), ((0 + z1r.2) + z2.2.2.2.2.2.2.2.2.2.2.2.2.2.2.2.2.2.2.2.2.2.2)))
  | (.inr z1e, z1r) =>
    some (.inr z1e, vt, vq, (0 + z1r.1), (0 + z1r.2)))
/-! TelescopeNight.greedyMean()J -/
def pX8_greedyMean (vn : NiS) (vg : PrS) (vt : ReS) (vq : DeS) : Option (Int64 × ReS × DeS × Nat × Nat) :=
  ob (pX0_followedMean (3 : Int32) (-1 : Int32) vq.2.2.2.2.2.2.2.2.1 vq.2.2.2.2.2.2.2.2.2.1 vq.2.2.2.2.2.2.2.2.2.2 vn.1 vn.2.1 vn.2.2.1 vn.2.2.2.2.1 vn.2.2.2.2.2.1 vn.2.2.2.2.2.2.1 vn.2.2.2.2.2.2.2 vg.1 vg.2.1 vg.2.2.2.1 vg.2.2.2.2.1 vg.2.2.2.2.2.2 vt.1 vt.2.1 vt.2.2.1 vt.2.2.2.1 vt.2.2.2.2.1 vt.2.2.2.2.2.1 vt.2.2.2.2.2.2.1 vt.2.2.2.2.2.2.2.1 vt.2.2.2.2.2.2.2.2.1 vt.2.2.2.2.2.2.2.2.2 vq.1 vq.2.1 vq.2.2.1 vq.2.2.2.1 vq.2.2.2.2.1 vq.2.2.2.2.2.1 vq.2.2.2.2.2.2.1 vq.2.2.2.2.2.2.2.1) (fun z1 =>
  some (z1.1, (vt.1, z1.2.2.2.2.1, z1.2.2.2.2.2.1, z1.2.2.2.2.2.2.1, z1.2.2.2.2.2.2.2.1, z1.2.2.2.2.2.2.2.2.1, z1.2.2.2.2.2.2.2.2.2.1, z1.2.2.2.2.2.2.2.2.2.2.1, z1.2.2.2.2.2.2.2.2.2.2.2.1, z1.2.2.2.2.2.2.2.2.2.2.2.2.1), (z1.2.2.2.2.2.2.2.2.2.2.2.2.2.1, z1.2.2.2.2.2.2.2.2.2.2.2.2.2.2.1, z1.2.2.2.2.2.2.2.2.2.2.2.2.2.2.2.1, z1.2.2.2.2.2.2.2.2.2.2.2.2.2.2.2.2.1, z1.2.2.2.2.2.2.2.2.2.2.2.2.2.2.2.2.2.1, z1.2.2.2.2.2.2.2.2.2.2.2.2.2.2.2.2.2.2.1, z1.2.2.2.2.2.2.2.2.2.2.2.2.2.2.2.2.2.2.2.1, z1.2.2.2.2.2.2.2.2.2.2.2.2.2.2.2.2.2.2.2.2.1, z1.2.1, z1.2.2.1, z1.2.2.2.1), (0 + z1.2.2.2.2.2.2.2.2.2.2.2.2.2.2.2.2.2.2.2.2.2.1), (0 + z1.2.2.2.2.2.2.2.2.2.2.2.2.2.2.2.2.2.2.2.2.2.2)))
/-! TelescopeNight.worthOfClear()J -/
def pX8_worthOfClear (vn : NiS) (vg : PrS) (vt : ReS) (vq : DeS) : Option ((Int64 ⊕ String) × ReS × DeS × Nat × Nat) :=
  ob (pX8_isOver vn vg) (fun z1 =>
  if z1 = 0 then
    ob (pX0_clearOverCloudy vq.2.2.2.2.2.2.2.2.1 vq.2.2.2.2.2.2.2.2.2.1 vq.2.2.2.2.2.2.2.2.2.2 vn.1 vn.2.1 vn.2.2.1 vn.2.2.2.2.1 vn.2.2.2.2.2.1 vn.2.2.2.2.2.2.1 vg.1 vg.2.2.2.1 vg.2.2.2.2.1 vt.1 vt.2.1 vt.2.2.1 vt.2.2.2.1 vt.2.2.2.2.1 vt.2.2.2.2.2.1 vt.2.2.2.2.2.2.1 vt.2.2.2.2.2.2.2.1 vt.2.2.2.2.2.2.2.2.1 vt.2.2.2.2.2.2.2.2.2 vq.1 vq.2.1 vq.2.2.1 vq.2.2.2.1 vq.2.2.2.2.1 vq.2.2.2.2.2.1 vq.2.2.2.2.2.2.1 vq.2.2.2.2.2.2.2.1) (fun z2 =>
    some (.inl z2.1, (vt.1, z2.2.2.2.2.1, z2.2.2.2.2.2.1, z2.2.2.2.2.2.2.1, z2.2.2.2.2.2.2.2.1, z2.2.2.2.2.2.2.2.2.1, z2.2.2.2.2.2.2.2.2.2.1, z2.2.2.2.2.2.2.2.2.2.2.1, z2.2.2.2.2.2.2.2.2.2.2.2.1, z2.2.2.2.2.2.2.2.2.2.2.2.2.1), (z2.2.2.2.2.2.2.2.2.2.2.2.2.2.1, z2.2.2.2.2.2.2.2.2.2.2.2.2.2.2.1, z2.2.2.2.2.2.2.2.2.2.2.2.2.2.2.2.1, z2.2.2.2.2.2.2.2.2.2.2.2.2.2.2.2.2.1, z2.2.2.2.2.2.2.2.2.2.2.2.2.2.2.2.2.2.1, z2.2.2.2.2.2.2.2.2.2.2.2.2.2.2.2.2.2.2.1, z2.2.2.2.2.2.2.2.2.2.2.2.2.2.2.2.2.2.2.2.1, z2.2.2.2.2.2.2.2.2.2.2.2.2.2.2.2.2.2.2.2.2.1, z2.2.1, z2.2.2.1, z2.2.2.2.1), (0 + z2.2.2.2.2.2.2.2.2.2.2.2.2.2.2.2.2.2.2.2.2.2.1), (0 + z2.2.2.2.2.2.2.2.2.2.2.2.2.2.2.2.2.2.2.2.2.2.2)))
  else
    some (.inr "java/lang/IllegalStateException", vt, vq, 1, 6))
/-! TelescopeNight.undo()I -/
def pX8_undo (vn : NiS) (vg : PrS) (vhn : Int32) (vhs : Int32) (vhN : Nat → NiS) (vhP : Nat → PrS) (vt : ReS) (vu : ReS) (vp : PlS) (vq : DeS) : Option ((Int32 ⊕ String) × NiS × PrS × Int32 × Int32 × ReS × ReS × PlS × DeS × Nat × Nat) :=
  if ¬ vhs = 0 then
    ob (pX1_takeBack vhn vhs vhN vhP vn vg) (fun z1 =>
    ob (pX8_forgetAnswers) (fun z2 =>
    some (.inl z1.2.1, z1.2.2.1, z1.2.2.2, z1.1, z1.2.1, (vt.1, (0 : Int32), vt.2.2.1, vt.2.2.2.1, vt.2.2.2.2.1, vt.2.2.2.2.2.1, vt.2.2.2.2.2.2.1, vt.2.2.2.2.2.2.2.1, vt.2.2.2.2.2.2.2.2.1, vt.2.2.2.2.2.2.2.2.2), (vu.1, (0 : Int32), vu.2.2.1, vu.2.2.2.1, vu.2.2.2.2.1, vu.2.2.2.2.2.1, vu.2.2.2.2.2.2.1, vu.2.2.2.2.2.2.2.1, vu.2.2.2.2.2.2.2.2.1, vu.2.2.2.2.2.2.2.2.2), (vp.1, vp.2.1, vp.2.2.1, vp.2.2.2.1, vp.2.2.2.2.1, vp.2.2.2.2.2.1, vp.2.2.2.2.2.2.1, vp.2.2.2.2.2.2.2.1, vp.2.2.2.2.2.2.2.2.1, (0 : Int32), vp.2.2.2.2.2.2.2.2.2.2.1, vp.2.2.2.2.2.2.2.2.2.2.2.1, vp.2.2.2.2.2.2.2.2.2.2.2.2), (vq.1, vq.2.1, vq.2.2.1, vq.2.2.2.1, vq.2.2.2.2.1, vq.2.2.2.2.2.1, vq.2.2.2.2.2.2.1, vq.2.2.2.2.2.2.2.1, vq.2.2.2.2.2.2.2.2.1, vq.2.2.2.2.2.2.2.2.2.1, (0 : Int32)), 0, 0)))
  else
    some (.inr "java/lang/IllegalStateException", vn, vg, vhn, vhs, vt, vu, vp, vq, 1, 6)
/-! TelescopeNightModel.begins([II)V -/
def lpX9_begins_99_2  : Nat → Int32 → (Nat → Int32) → Option (Int32 × (Nat → Int32))
  | 0, _, _ => none
  | fu + 1, l2, a0 =>
    if (99 : Int32) ≤ l2 then
      some (l2, a0)
    else
      if (l2 < 0 ∨ 99 ≤ l2.toNatClampNeg) then none else
      lpX9_begins_99_2 fu (l2 + (1 : Int32)) (upd a0 l2.toNatClampNeg ((0 : Int32)))
def pX9_begins_99 (x1 : Int32) (a0 : Nat → Int32) : Option ((Nat → Int32)) :=
  ob (lpX9_begins_99_2 lpF (0 : Int32) a0) (fun z1 =>
  some (upd (upd (upd (upd (upd (upd z1.2 0 x1) 2 ((1 : Int32))) 3 ((-10 : Int32))) 7 ((50 : Int32))) 8 ((80 : Int32))) 9 ((30 : Int32))))
/-! TelescopeNightModel.<init>()V -/
def pX9_init  : Option ((Nat → Int32) × Nat × Nat) :=
  ob (pX9_begins_99 (6 : Int32) (fun _ => 0)) (fun z1 =>
  some (z1, 19, 103906))
/-! TelescopeNightModel.thrown()I -/
def pX9_thrown (m_thrown : Int32) : Option (Int32) :=
  some m_thrown
/-! TelescopeNightModel.isIn(JJJ)Z -/
def pX9_isIn (x0 : Int64) (x1 : Int64) (x2 : Int64) : Option (Int32) :=
  if (lg_cmp x0 x1) < 0 then
    some (0 : Int32)
  else
    if 0 < (lg_cmp x0 x2) then
      some (0 : Int32)
    else
      some (1 : Int32)
/-! TelescopeNightModel.keeps()V -/
def lpX9_keeps_51 (m_a : Nat → Int32) (m_keptMany : Int32) : Nat → Int32 → (Nat → Int32) → Option (Int32 × (Nat → Int32))
  | 0, _, _ => none
  | fu + 1, l1, m_kept =>
    if (99 : Int32) ≤ l1 then
      some (l1, m_kept)
    else
      if (l1 < 0 ∨ 99 ≤ l1.toNatClampNeg) then none else
      if ((((99 : Int32) * m_keptMany) + l1) < 0 ∨ 792 ≤ ((((99 : Int32) * m_keptMany) + l1)).toNatClampNeg) then none else
      lpX9_keeps_51 m_a m_keptMany fu (l1 + (1 : Int32)) (upd m_kept (((((99 : Int32) * m_keptMany) + l1)).toNatClampNeg) ((m_a l1.toNatClampNeg)))
def lpX9_keeps_11  : Nat → Int32 → (Nat → Int32) → Option (Int32 × (Nat → Int32))
  | 0, _, _ => none
  | fu + 1, l1, m_kept =>
    if (693 : Int32) ≤ l1 then
      some (l1, m_kept)
    else
      if ((l1 + (99 : Int32)) < 0 ∨ 792 ≤ ((l1 + (99 : Int32))).toNatClampNeg) then none else
      if (l1 < 0 ∨ 792 ≤ l1.toNatClampNeg) then none else
      lpX9_keeps_11 fu (l1 + (1 : Int32)) (upd m_kept l1.toNatClampNeg ((m_kept ((l1 + (99 : Int32))).toNatClampNeg)))
def pX9_keeps (m_a : Nat → Int32) (m_kept : Nat → Int32) (m_keptMany : Int32) : Option (Int32 × (Nat → Int32)) :=
  if ¬ m_keptMany = (8 : Int32) then
    ob (lpX9_keeps_51 m_a m_keptMany lpF (0 : Int32) m_kept) (fun z1 =>
    some ((m_keptMany + (1 : Int32)), z1.2))
  else
    ob (lpX9_keeps_11 lpF (0 : Int32) m_kept) (fun z2 =>
    ob (lpX9_keeps_51 m_a (m_keptMany - (1 : Int32)) lpF (0 : Int32) z2.2) (fun z3 =>
    some (((m_keptMany - (1 : Int32)) + (1 : Int32)), z3.2)))
/-! TelescopeNightModel.undo()I -/
def lpX9_undo_37 (m_kept : Nat → Int32) (m_keptMany : Int32) : Nat → Int32 → (Nat → Int32) → Option (Int32 × (Nat → Int32))
  | 0, _, _ => none
  | fu + 1, l1, m_a =>
    if (99 : Int32) ≤ l1 then
      some (l1, m_a)
    else
      if ((((99 : Int32) * m_keptMany) + l1) < 0 ∨ 792 ≤ ((((99 : Int32) * m_keptMany) + l1)).toNatClampNeg) then none else
      if (l1 < 0 ∨ 99 ≤ l1.toNatClampNeg) then none else
      lpX9_undo_37 m_kept m_keptMany fu (l1 + (1 : Int32)) (upd m_a l1.toNatClampNeg ((m_kept ((((99 : Int32) * m_keptMany) + l1)).toNatClampNeg)))
def pX9_undo (m_a : Nat → Int32) (m_kept : Nat → Int32) (m_keptMany : Int32) : Option (Int32 × Int32 × Int32 × (Nat → Int32)) :=
  if ¬ m_keptMany = 0 then
    ob (lpX9_undo_37 m_kept (m_keptMany - (1 : Int32)) lpF (0 : Int32) m_a) (fun z1 =>
    some ((m_keptMany - (1 : Int32)), (m_keptMany - (1 : Int32)), (0 : Int32), z1.2))
  else
    some ((0 : Int32), m_keptMany, (1 : Int32), m_a)
/-! TelescopeNightModel.append(IIIII)I -/
def lpX9_append_34 (l1 : Int32) (l2 : Int32) (l3 : Int32) (l4 : Int32) (l5 : Int32) : Nat → Int32 → (Nat → Int32) → Int32 → Option (Int32 × (Nat → Int32) × Int32)
  | 0, _, _, _ => none
  | fu + 1, l6, m_buffer, m_buffered =>
    if (20 : Int32) ≤ l6 then
      some (l6, m_buffer, m_buffered)
    else
      if (4 : Int32) ≤ l6 then
        if (8 : Int32) ≤ l6 then
          if (12 : Int32) ≤ l6 then
            if (16 : Int32) ≤ l6 then
              if (m_buffered < 0 ∨ 500 ≤ m_buffered.toNatClampNeg) then none else
              lpX9_append_34 l1 l2 l3 l4 l5 fu (l6 + (1 : Int32)) (upd m_buffer m_buffered.toNatClampNeg (((l5 >>> (((24 : Int32) - ((8 : Int32) * (l6 - l6 / (4 : Int32) * (4 : Int32)))) &&& 31)) &&& (255 : Int32)))) (m_buffered + (1 : Int32))
            else
              if (m_buffered < 0 ∨ 500 ≤ m_buffered.toNatClampNeg) then none else
              lpX9_append_34 l1 l2 l3 l4 l5 fu (l6 + (1 : Int32)) (upd m_buffer m_buffered.toNatClampNeg (((l4 >>> (((24 : Int32) - ((8 : Int32) * (l6 - l6 / (4 : Int32) * (4 : Int32)))) &&& 31)) &&& (255 : Int32)))) (m_buffered + (1 : Int32))
          else
            if (m_buffered < 0 ∨ 500 ≤ m_buffered.toNatClampNeg) then none else
            lpX9_append_34 l1 l2 l3 l4 l5 fu (l6 + (1 : Int32)) (upd m_buffer m_buffered.toNatClampNeg (((l3 >>> (((24 : Int32) - ((8 : Int32) * (l6 - l6 / (4 : Int32) * (4 : Int32)))) &&& 31)) &&& (255 : Int32)))) (m_buffered + (1 : Int32))
        else
          if (m_buffered < 0 ∨ 500 ≤ m_buffered.toNatClampNeg) then none else
          lpX9_append_34 l1 l2 l3 l4 l5 fu (l6 + (1 : Int32)) (upd m_buffer m_buffered.toNatClampNeg (((l2 >>> (((24 : Int32) - ((8 : Int32) * (l6 - l6 / (4 : Int32) * (4 : Int32)))) &&& 31)) &&& (255 : Int32)))) (m_buffered + (1 : Int32))
      else
        if (m_buffered < 0 ∨ 500 ≤ m_buffered.toNatClampNeg) then none else
        lpX9_append_34 l1 l2 l3 l4 l5 fu (l6 + (1 : Int32)) (upd m_buffer m_buffered.toNatClampNeg (((l1 >>> (((24 : Int32) - ((8 : Int32) * (l6 - l6 / (4 : Int32) * (4 : Int32)))) &&& 31)) &&& (255 : Int32)))) (m_buffered + (1 : Int32))
def pX9_append (x1 : Int32) (x2 : Int32) (x3 : Int32) (x4 : Int32) (x5 : Int32) (m_buffer : Nat → Int32) (m_buffered : Int32) : Option (Int32 × Int32 × Int32 × (Nat → Int32)) :=
  if (m_buffered + (20 : Int32)) ≤ (500 : Int32) then
    ob (lpX9_append_34 x1 x2 x3 x4 x5 lpF (0 : Int32) m_buffer m_buffered) (fun z1 =>
    some (z1.2.2, (0 : Int32), z1.2.2, z1.2.1))
  else
    some ((0 : Int32), (1 : Int32), m_buffered, m_buffer)
/-! TelescopeNightModel.see(I)I -/
def pX9_see (x1 : Int32) (m_buffer : Nat → Int32) (m_size : Int32) : Option (Int32) :=
  if m_size ≤ x1 then
    some (-1 : Int32)
  else
    if (x1 < 0 ∨ 500 ≤ x1.toNatClampNeg) then none else
    some (m_buffer x1.toNatClampNeg)
/-! java/lang/String.coder()B -/
def pJ0_coder_7d493_1104  : Option (Int32) :=
  if (narrow .byte (.int (0 : Int32)) = .int (0 : Int32)) then some (0 : Int32) else none
/-! java/lang/String.length()I -/
def pJ0_length_8abf5_1104  : Option (Int32) :=
  ob (pJ0_coder_7d493_1104) (fun z1 =>
  some ((nI (strN.getD (1124 - 1120) 0)) >>> (z1 &&& 31)))
/-! java/lang/String.isLatin1()Z -/
def pJ0_isLatin1_aae02_1104  : Option (Int32) :=
  some (1 : Int32)
/-! java/lang/StringLatin1.charAt([BI)C -/
def pJ1_charAt_3b067_1124 (x1 : Int32) : Option (Int32) :=
  ob (pJ0_checkIndex_df160 x1 (nI (strN.getD (1124 - 1120) 0))) (fun z1 =>
  if (x1 < 0 ∨ (strN.getD (1124 - 1120) 0) ≤ x1.toNatClampNeg) then none else
  if (narrow .char (.int (((((strB.getD (1124 - 1120) []).getD x1.toNatClampNeg 0) &&& (255 : Int32))).toUInt32 % 65536).toInt32) = .int (((((strB.getD (1124 - 1120) []).getD x1.toNatClampNeg 0) &&& (255 : Int32))).toUInt32 % 65536).toInt32) then some ((((((strB.getD (1124 - 1120) []).getD x1.toNatClampNeg 0) &&& (255 : Int32))).toUInt32 % 65536).toInt32) else none)
/-! java/lang/String.charAt(I)C -/
def pJ0_charAt_5068e_1104 (x1 : Int32) : Option (Int32) :=
  ob (pJ0_isLatin1_aae02_1104) (fun z1 =>
  if z1 = 0 then
    none
  else
    ob (pJ1_charAt_3b067_1124 x1) (fun z2 =>
    if (narrow .char (.int z2) = .int z2) then some z2 else none))
/-! TelescopeNightModel.wordAt()I -/
def lpX9_wordAt_97  : Nat → Int32 → Option (Int32)
  | 0, _ => none
  | fu + 1, l2 =>
    ob (pJ0_charAt_5068e_1104 l2) (fun z6 =>
    if z6 = (32 : Int32) then
      some l2
    else
      lpX9_wordAt_97 fu (l2 + (1 : Int32)))
def lpX9_wordAt_15 (l2 : Int32) (m_buffer : Nat → Int32) (m_at : Int32) (m_behind : Int32) : Nat → Int32 → Option (Int32)
  | 0, _ => none
  | fu + 1, l3 =>
    ob (pJ0_charAt_5068e_1104 (l2 + l3)) (fun z2 =>
    if z2 = (32 : Int32) then
      some l3
    else
      if m_behind ≤ (m_at + l3) then
        some l3
      else
        if ((m_at + l3) < 0 ∨ 500 ≤ ((m_at + l3)).toNatClampNeg) then none else
        ob (pJ0_charAt_5068e_1104 (l2 + l3)) (fun z3 =>
        if ¬ (m_buffer ((m_at + l3)).toNatClampNeg) = z3 then
          some l3
        else
          lpX9_wordAt_15 l2 m_buffer m_at m_behind fu (l3 + (1 : Int32))))
def lpX9_wordAt_4 (m_buffer : Nat → Int32) (m_at : Int32) (m_behind : Int32) : Nat → Int32 → Int32 → Option ((Int32 × Int32) ⊕ (Int32))
  | 0, _, _ => none
  | fu + 1, l1, l2 =>
    ob (pJ0_length_8abf5_1104) (fun z1 =>
    if z1 ≤ l2 then
      some (.inl (l1, l2))
    else
      ob (lpX9_wordAt_15 l2 m_buffer m_at m_behind lpF (0 : Int32)) (fun z4 =>
      ob (pJ0_charAt_5068e_1104 (l2 + z4)) (fun z5 =>
      if ¬ z5 = (32 : Int32) then
        ob (lpX9_wordAt_97 lpF l2) (fun z7 =>
        lpX9_wordAt_4 m_buffer m_at m_behind fu (l1 + (1 : Int32)) (z7 + (1 : Int32)))
      else
        if ¬ (m_at + z4) = m_behind then
          ob (lpX9_wordAt_97 lpF l2) (fun z8 =>
          lpX9_wordAt_4 m_buffer m_at m_behind fu (l1 + (1 : Int32)) (z8 + (1 : Int32)))
        else
          some (.inr l1))))
def pX9_wordAt (m_buffer : Nat → Int32) (m_at : Int32) (m_behind : Int32) : Option (Int32) :=
  ob (lpX9_wordAt_4 m_buffer m_at m_behind lpF (0 : Int32) (1 : Int32)) (fun z9 => match z9 with
  | .inl z9e =>
    some (4 : Int32)
  | .inr z9f => some z9f)
/-! TelescopeNightModel.digits()V -/
def lpX9_digits_5 (m_buffer : Nat → Int32) (m_size : Int32) : Nat → Int32 → Int64 → Option (Int32 × Int64)
  | 0, _, _ => none
  | fu + 1, m_behind, m_number =>
    ob (pX9_see m_behind m_buffer m_size) (fun z1 =>
    ob (pX9_isIn z1.toInt64 (48 : Int64) (57 : Int64)) (fun z2 =>
    if z2 = 0 then
      some (m_behind, m_number)
    else
      if 0 ≤ (lg_cmp m_number ((10000000 : Int64))) then
        lpX9_digits_5 m_buffer m_size fu (m_behind + (1 : Int32)) m_number
      else
        ob (pX9_see m_behind m_buffer m_size) (fun z3 =>
        lpX9_digits_5 m_buffer m_size fu (m_behind + (1 : Int32)) ((((10 : Int64) * m_number) + z3.toInt64) - (48 : Int64)))))
def pX9_digits (m_buffer : Nat → Int32) (m_size : Int32) (m_behind : Int32) : Option (Int32 × Int64) :=
  ob (lpX9_digits_5 m_buffer m_size lpF m_behind (0 : Int64)) (fun z4 =>
  some (z4.1, z4.2))
/-! TelescopeNightModel.next()V -/
def lpX9_next_85 (m_buffer : Nat → Int32) (m_size : Int32) : Nat → Int32 → Option (Int32)
  | 0, _ => none
  | fu + 1, m_behind =>
    ob (pX9_see m_behind m_buffer m_size) (fun z13 =>
    ob (pX9_isIn z13.toInt64 (97 : Int64) (122 : Int64)) (fun z14 =>
    if z14 = 0 then
      some m_behind
    else
      lpX9_next_85 m_buffer m_size fu (m_behind + (1 : Int32))))
def lpX9_next_8 (m_buffer : Nat → Int32) (m_size : Int32) : Nat → Int32 → Option (Int32)
  | 0, _ => none
  | fu + 1, m_at =>
    ob (pX9_see m_at m_buffer m_size) (fun z1 =>
    if ¬ z1 = (32 : Int32) then
      some m_at
    else
      lpX9_next_8 m_buffer m_size fu (m_at + (1 : Int32)))
def pX9_next (m_buffer : Nat → Int32) (m_size : Int32) (m_behind : Int32) (m_number : Int64) : Option (Int32 × Int32 × Int32 × Int64) :=
  ob (lpX9_next_8 m_buffer m_size lpF m_behind) (fun z2 =>
  ob (pX9_see z2 m_buffer m_size) (fun z3 =>
  if z2 < m_size then
    ob (pX9_isIn z3.toInt64 (97 : Int64) (122 : Int64)) (fun z4 =>
    if z4 = 0 then
      ob (pX9_isIn z3.toInt64 (48 : Int64) (57 : Int64)) (fun z5 =>
      if z5 = 0 then
        if ¬ z3 = (59 : Int32) then
          if ¬ z3 = (45 : Int32) then
            some (z2, (z2 + (1 : Int32)), (9 : Int32), m_number)
          else
            ob (pX9_see (z2 + (1 : Int32)) m_buffer m_size) (fun z6 =>
            ob (pX9_isIn z6.toInt64 (48 : Int64) (57 : Int64)) (fun z7 =>
            if z7 = 0 then
              some (z2, (z2 + (1 : Int32)), (9 : Int32), m_number)
            else
              ob (pX9_digits m_buffer m_size (z2 + (1 : Int32))) (fun z8 =>
              some (z2, z8.1, (6 : Int32), (-z8.2)))))
        else
          if ¬ z3 = (45 : Int32) then
            some (z2, (z2 + (1 : Int32)), (7 : Int32), m_number)
          else
            ob (pX9_see (z2 + (1 : Int32)) m_buffer m_size) (fun z9 =>
            ob (pX9_isIn z9.toInt64 (48 : Int64) (57 : Int64)) (fun z10 =>
            if z10 = 0 then
              some (z2, (z2 + (1 : Int32)), (7 : Int32), m_number)
            else
              ob (pX9_digits m_buffer m_size (z2 + (1 : Int32))) (fun z11 =>
              some (z2, z11.1, (6 : Int32), (-z11.2)))))
      else
        ob (pX9_digits m_buffer m_size z2) (fun z12 =>
        some (z2, z12.1, (5 : Int32), z12.2)))
    else
      ob (lpX9_next_85 m_buffer m_size lpF z2) (fun z15 =>
      ob (pX9_wordAt m_buffer z2 z15) (fun z16 =>
      some (z2, z15, z16, m_number))))
  else
    some (z2, z2, (8 : Int32), m_number)))
/-! TelescopeNightModel.fails(I)V -/
def pX9_fails (x1 : Int32) (m_at : Int32) (m_wrong : Int32) (m_wrongAt : Int32) : Option (Int32 × Int32) :=
  if m_wrong = 0 then
    some (x1, m_at)
  else
    some (m_wrong, m_wrongAt)
/-! TelescopeNightModel.is(I)Z -/
def pX9_is (x1 : Int32) (m_kind : Int32) (m_wrong : Int32) : Option (Int32) :=
  if ¬ m_wrong = 0 then
    some (0 : Int32)
  else
    if ¬ m_kind = x1 then
      some (0 : Int32)
    else
      some (1 : Int32)
/-! TelescopeNightModel.must(I)V -/
def pX9_must (x1 : Int32) (m_buffer : Nat → Int32) (m_size : Int32) (m_at : Int32) (m_behind : Int32) (m_kind : Int32) (m_wrong : Int32) (m_wrongAt : Int32) (m_number : Int64) : Option (Int32 × Int32 × Int32 × Int32 × Int32 × Int64) :=
  ob (pX9_is x1 m_kind m_wrong) (fun z1 =>
  if ¬ z1 = 0 then
    if ¬ m_wrong = 0 then
      some (m_at, m_behind, m_kind, m_wrong, m_wrongAt, m_number)
    else
      ob (pX9_next m_buffer m_size m_behind m_number) (fun z2 =>
      some (z2.1, z2.2.1, z2.2.2.1, m_wrong, m_wrongAt, z2.2.2.2))
  else
    ob (pX9_fails (-2 : Int32) m_at m_wrong m_wrongAt) (fun z3 =>
    if ¬ z3.1 = 0 then
      some (m_at, m_behind, m_kind, z3.1, z3.2, m_number)
    else
      ob (pX9_next m_buffer m_size m_behind m_number) (fun z4 =>
      some (z4.1, z4.2.1, z4.2.2.1, z3.1, z3.2, z4.2.2.2))))
/-! TelescopeNightModel.takes(II)I -/
def pX9_takes (x1 : Int32) (x2 : Int32) (m_buffer : Nat → Int32) (m_size : Int32) (m_at : Int32) (m_behind : Int32) (m_kind : Int32) (m_wrong : Int32) (m_wrongAt : Int32) (m_number : Int64) : Option (Int32 × Int32 × Int32 × Int32 × Int32 × Int32 × Int64) :=
  if 0 ≤ x1 then
    ob (pX9_is (5 : Int32) m_kind m_wrong) (fun z1 =>
    if ¬ z1 = 0 then
      ob (pX9_isIn m_number x1.toInt64 x2.toInt64) (fun z2 =>
      if ¬ z2 = 0 then
        if ¬ m_wrong = 0 then
          some ((0 : Int32), m_at, m_behind, m_kind, m_wrong, m_wrongAt, m_number)
        else
          ob (pX9_next m_buffer m_size m_behind m_number) (fun z3 =>
          some (m_number.toInt32, z3.1, z3.2.1, z3.2.2.1, m_wrong, m_wrongAt, z3.2.2.2))
      else
        ob (pX9_fails (-3 : Int32) m_at m_wrong m_wrongAt) (fun z4 =>
        if ¬ z4.1 = 0 then
          some ((0 : Int32), m_at, m_behind, m_kind, z4.1, z4.2, m_number)
        else
          ob (pX9_next m_buffer m_size m_behind m_number) (fun z5 =>
          some (m_number.toInt32, z5.1, z5.2.1, z5.2.2.1, z4.1, z4.2, z5.2.2.2))))
    else
      ob (pX9_fails (-2 : Int32) m_at m_wrong m_wrongAt) (fun z6 =>
      if ¬ z6.1 = 0 then
        some ((0 : Int32), m_at, m_behind, m_kind, z6.1, z6.2, m_number)
      else
        ob (pX9_next m_buffer m_size m_behind m_number) (fun z7 =>
        some (m_number.toInt32, z7.1, z7.2.1, z7.2.2.1, z6.1, z6.2, z7.2.2.2))))
  else
    ob (pX9_is (5 : Int32) m_kind m_wrong) (fun z8 =>
    if ¬ z8 = 0 then
      ob (pX9_isIn m_number x1.toInt64 x2.toInt64) (fun z9 =>
      if ¬ z9 = 0 then
        if ¬ m_wrong = 0 then
          some ((0 : Int32), m_at, m_behind, m_kind, m_wrong, m_wrongAt, m_number)
        else
          ob (pX9_next m_buffer m_size m_behind m_number) (fun z10 =>
          some (m_number.toInt32, z10.1, z10.2.1, z10.2.2.1, m_wrong, m_wrongAt, z10.2.2.2))
      else
        ob (pX9_fails (-3 : Int32) m_at m_wrong m_wrongAt) (fun z11 =>
        if ¬ z11.1 = 0 then
          some ((0 : Int32), m_at, m_behind, m_kind, z11.1, z11.2, m_number)
        else
          ob (pX9_next m_buffer m_size m_behind m_number) (fun z12 =>
          some (m_number.toInt32, z12.1, z12.2.1, z12.2.2.1, z11.1, z11.2, z12.2.2.2))))
    else
      ob (pX9_is (6 : Int32) m_kind m_wrong) (fun z13 =>
      if ¬ z13 = 0 then
        ob (pX9_isIn m_number x1.toInt64 x2.toInt64) (fun z14 =>
        if ¬ z14 = 0 then
          if ¬ m_wrong = 0 then
            some ((0 : Int32), m_at, m_behind, m_kind, m_wrong, m_wrongAt, m_number)
          else
            ob (pX9_next m_buffer m_size m_behind m_number) (fun z15 =>
            some (m_number.toInt32, z15.1, z15.2.1, z15.2.2.1, m_wrong, m_wrongAt, z15.2.2.2))
        else
          ob (pX9_fails (-3 : Int32) m_at m_wrong m_wrongAt) (fun z16 =>
          if ¬ z16.1 = 0 then
            some ((0 : Int32), m_at, m_behind, m_kind, z16.1, z16.2, m_number)
          else
            ob (pX9_next m_buffer m_size m_behind m_number) (fun z17 =>
            some (m_number.toInt32, z17.1, z17.2.1, z17.2.2.1, z16.1, z16.2, z17.2.2.2))))
      else
        ob (pX9_fails (-2 : Int32) m_at m_wrong m_wrongAt) (fun z18 =>
        if ¬ z18.1 = 0 then
          some ((0 : Int32), m_at, m_behind, m_kind, z18.1, z18.2, m_number)
        else
          ob (pX9_next m_buffer m_size m_behind m_number) (fun z19 =>
          some (m_number.toInt32, z19.1, z19.2.1, z19.2.2.1, z18.1, z18.2, z19.2.2.2)))))
/-! TelescopeNightModel.readsBody(I)V -/
def pX9_readsBody (x1 : Int32) (m_fresh : Nat → Int32) (m_buffer : Nat → Int32) (m_size : Int32) (m_at : Int32) (m_behind : Int32) (m_kind : Int32) (m_wrong : Int32) (m_wrongAt : Int32) (m_number : Int64) : Option (Int32 × Int32 × Int32 × Int32 × Int32 × Int64 × (Nat → Int32)) :=
  ob (pX9_takes (0 : Int32) (90 : Int32) m_buffer m_size m_at m_behind m_kind m_wrong m_wrongAt m_number) (fun z1 =>
  if ((x1 + (0 : Int32)) < 0 ∨ 99 ≤ ((x1 + (0 : Int32))).toNatClampNeg) then none else
  ob (pX9_takes (0 : Int32) (30 : Int32) m_buffer m_size z1.2.1 z1.2.2.1 z1.2.2.2.1 z1.2.2.2.2.1 z1.2.2.2.2.2.1 z1.2.2.2.2.2.2) (fun z2 =>
  if ((x1 + (1 : Int32)) < 0 ∨ 99 ≤ ((x1 + (1 : Int32))).toNatClampNeg) then none else
  ob (pX9_takes (-10 : Int32) (25 : Int32) m_buffer m_size z2.2.1 z2.2.2.1 z2.2.2.2.1 z2.2.2.2.2.1 z2.2.2.2.2.2.1 z2.2.2.2.2.2.2) (fun z3 =>
  if ((x1 + (2 : Int32)) < 0 ∨ 99 ≤ ((x1 + (2 : Int32))).toNatClampNeg) then none else
  some (z3.2.1, z3.2.2.1, z3.2.2.2.1, z3.2.2.2.2.1, z3.2.2.2.2.2.1, z3.2.2.2.2.2.2, (upd (upd (upd m_fresh (((x1 + (0 : Int32))).toNatClampNeg) z1.1) (((x1 + (1 : Int32))).toNatClampNeg) z2.1) (((x1 + (2 : Int32))).toNatClampNeg) z3.1)))))
/-! TelescopeNightModel.readsMoon()V -/
def pX9_readsMoon (m_fresh : Nat → Int32) (m_buffer : Nat → Int32) (m_size : Int32) (m_at : Int32) (m_behind : Int32) (m_kind : Int32) (m_wrong : Int32) (m_wrongAt : Int32) (m_number : Int64) (m_hasMoon : Int32) : Option (Int32 × Int32 × Int32 × Int32 × Int32 × Int64 × (Nat → Int32)) :=
  if m_hasMoon = 0 then
    ob (pX9_must (1 : Int32) m_buffer m_size m_at m_behind m_kind m_wrong m_wrongAt m_number) (fun z1 =>
    ob (pX9_readsBody (1 : Int32) m_fresh m_buffer m_size z1.1 z1.2.1 z1.2.2.1 z1.2.2.2.1 z1.2.2.2.2.1 z1.2.2.2.2.2) (fun z2 =>
    ob (pX9_takes (0 : Int32) (359 : Int32) m_buffer m_size z2.1 z2.2.1 z2.2.2.1 z2.2.2.2.1 z2.2.2.2.2.1 z2.2.2.2.2.2.1) (fun z3 =>
    ob (pX9_takes (0 : Int32) (359 : Int32) m_buffer m_size z3.2.1 z3.2.2.1 z3.2.2.2.1 z3.2.2.2.2.1 z3.2.2.2.2.2.1 z3.2.2.2.2.2.2) (fun z4 =>
    ob (pX9_takes (0 : Int32) (100 : Int32) m_buffer m_size z4.2.1 z4.2.2.1 z4.2.2.2.1 z4.2.2.2.2.1 z4.2.2.2.2.2.1 z4.2.2.2.2.2.2) (fun z5 =>
    ob (pX9_must (7 : Int32) m_buffer m_size z5.2.1 z5.2.2.1 z5.2.2.2.1 z5.2.2.2.2.1 z5.2.2.2.2.2.1 z5.2.2.2.2.2.2) (fun z6 =>
    some (z6.1, z6.2.1, z6.2.2.1, z6.2.2.2.1, z6.2.2.2.2.1, z6.2.2.2.2.2, (upd (upd (upd z2.2.2.2.2.2.2 4 z3.1) 5 z4.1) 6 z5.1))))))))
  else
    ob (pX9_fails (-2 : Int32) m_at m_wrong m_wrongAt) (fun z7 =>
    ob (pX9_must (1 : Int32) m_buffer m_size m_at m_behind m_kind z7.1 z7.2 m_number) (fun z8 =>
    ob (pX9_readsBody (1 : Int32) m_fresh m_buffer m_size z8.1 z8.2.1 z8.2.2.1 z8.2.2.2.1 z8.2.2.2.2.1 z8.2.2.2.2.2) (fun z9 =>
    ob (pX9_takes (0 : Int32) (359 : Int32) m_buffer m_size z9.1 z9.2.1 z9.2.2.1 z9.2.2.2.1 z9.2.2.2.2.1 z9.2.2.2.2.2.1) (fun z10 =>
    ob (pX9_takes (0 : Int32) (359 : Int32) m_buffer m_size z10.2.1 z10.2.2.1 z10.2.2.2.1 z10.2.2.2.2.1 z10.2.2.2.2.2.1 z10.2.2.2.2.2.2) (fun z11 =>
    ob (pX9_takes (0 : Int32) (100 : Int32) m_buffer m_size z11.2.1 z11.2.2.1 z11.2.2.2.1 z11.2.2.2.2.1 z11.2.2.2.2.2.1 z11.2.2.2.2.2.2) (fun z12 =>
    ob (pX9_must (7 : Int32) m_buffer m_size z12.2.1 z12.2.2.1 z12.2.2.2.1 z12.2.2.2.2.1 z12.2.2.2.2.2.1 z12.2.2.2.2.2.2) (fun z13 =>
    some (z13.1, z13.2.1, z13.2.2.1, z13.2.2.2.1, z13.2.2.2.2.1, z13.2.2.2.2.2, (upd (upd (upd z9.2.2.2.2.2.2 4 z10.1) 5 z11.1) 6 z12.1)))))))))
/-! TelescopeNightModel.readsSky()V -/
def lpX9_readsSky_20 (m_buffer : Nat → Int32) (m_size : Int32) : Nat → Int32 → (Nat → Int32) → Int32 → Int32 → Int32 → Int32 → Int32 → Int64 → Option (Int32 × (Nat → Int32) × Int32 × Int32 × Int32 × Int32 × Int32 × Int64)
  | 0, _, _, _, _, _, _, _, _ => none
  | fu + 1, l1, m_fresh, m_at, m_behind, m_kind, m_wrong, m_wrongAt, m_number =>
    if (3 : Int32) ≤ l1 then
      some (l1, m_fresh, m_at, m_behind, m_kind, m_wrong, m_wrongAt, m_number)
    else
      ob (pX9_takes (0 : Int32) (100 : Int32) m_buffer m_size m_at m_behind m_kind m_wrong m_wrongAt m_number) (fun z2 =>
      if (((7 : Int32) + l1) < 0 ∨ 99 ≤ (((7 : Int32) + l1)).toNatClampNeg) then none else
      lpX9_readsSky_20 m_buffer m_size fu (l1 + (1 : Int32)) (upd m_fresh ((((7 : Int32) + l1)).toNatClampNeg) z2.1) z2.2.1 z2.2.2.1 z2.2.2.2.1 z2.2.2.2.2.1 z2.2.2.2.2.2.1 z2.2.2.2.2.2.2)
def pX9_readsSky (m_fresh : Nat → Int32) (m_buffer : Nat → Int32) (m_size : Int32) (m_at : Int32) (m_behind : Int32) (m_kind : Int32) (m_wrong : Int32) (m_wrongAt : Int32) (m_number : Int64) (m_hasSky : Int32) : Option (Int32 × Int32 × Int32 × Int32 × Int32 × Int64 × (Nat → Int32)) :=
  if m_hasSky = 0 then
    ob (pX9_must (2 : Int32) m_buffer m_size m_at m_behind m_kind m_wrong m_wrongAt m_number) (fun z1 =>
    ob (lpX9_readsSky_20 m_buffer m_size lpF (0 : Int32) m_fresh z1.1 z1.2.1 z1.2.2.1 z1.2.2.2.1 z1.2.2.2.2.1 z1.2.2.2.2.2) (fun z3 =>
    ob (pX9_must (7 : Int32) m_buffer m_size z3.2.2.1 z3.2.2.2.1 z3.2.2.2.2.1 z3.2.2.2.2.2.1 z3.2.2.2.2.2.2.1 z3.2.2.2.2.2.2.2) (fun z4 =>
    some (z4.1, z4.2.1, z4.2.2.1, z4.2.2.2.1, z4.2.2.2.2.1, z4.2.2.2.2.2, z3.2.1))))
  else
    ob (pX9_fails (-2 : Int32) m_at m_wrong m_wrongAt) (fun z5 =>
    ob (pX9_must (2 : Int32) m_buffer m_size m_at m_behind m_kind z5.1 z5.2 m_number) (fun z6 =>
    ob (lpX9_readsSky_20 m_buffer m_size lpF (0 : Int32) m_fresh z6.1 z6.2.1 z6.2.2.1 z6.2.2.2.1 z6.2.2.2.2.1 z6.2.2.2.2.2) (fun z7 =>
    ob (pX9_must (7 : Int32) m_buffer m_size z7.2.2.1 z7.2.2.2.1 z7.2.2.2.2.1 z7.2.2.2.2.2.1 z7.2.2.2.2.2.2.1 z7.2.2.2.2.2.2.2) (fun z8 =>
    some (z8.1, z8.2.1, z8.2.2.1, z8.2.2.2.1, z8.2.2.2.2.1, z8.2.2.2.2.2, z7.2.1)))))
/-! TelescopeNightModel.readsTarget()V -/
def pX9_readsTarget (m_fresh : Nat → Int32) (m_buffer : Nat → Int32) (m_size : Int32) (m_at : Int32) (m_behind : Int32) (m_kind : Int32) (m_wrong : Int32) (m_wrongAt : Int32) (m_number : Int64) : Option (Int32 × Int32 × Int32 × Int32 × Int32 × Int64 × (Nat → Int32)) :=
  if ¬ (m_fresh 10) = (6 : Int32) then
    ob (pX9_must (3 : Int32) m_buffer m_size m_at m_behind m_kind m_wrong m_wrongAt m_number) (fun z1 =>
    if z1.2.2.2.1 = 0 then
      ob (pX9_takes (0 : Int32) (3 : Int32) m_buffer m_size z1.1 z1.2.1 z1.2.2.1 z1.2.2.2.1 z1.2.2.2.2.1 z1.2.2.2.2.2) (fun z2 =>
      if ((((11 : Int32) + ((9 : Int32) * (m_fresh 10))) + (0 : Int32)) < 0 ∨ 99 ≤ ((((11 : Int32) + ((9 : Int32) * (m_fresh 10))) + (0 : Int32))).toNatClampNeg) then none else
      ob (pX9_readsBody (((11 : Int32) + ((9 : Int32) * (m_fresh 10))) + (1 : Int32)) (upd m_fresh (((((11 : Int32) + ((9 : Int32) * (m_fresh 10))) + (0 : Int32))).toNatClampNeg) z2.1) m_buffer m_size z2.2.1 z2.2.2.1 z2.2.2.2.1 z2.2.2.2.2.1 z2.2.2.2.2.2.1 z2.2.2.2.2.2.2) (fun z3 =>
      ob (pX9_takes (0 : Int32) (89 : Int32) m_buffer m_size z3.1 z3.2.1 z3.2.2.1 z3.2.2.2.1 z3.2.2.2.2.1 z3.2.2.2.2.2.1) (fun z4 =>
      if ((((11 : Int32) + ((9 : Int32) * (m_fresh 10))) + (4 : Int32)) < 0 ∨ 99 ≤ ((((11 : Int32) + ((9 : Int32) * (m_fresh 10))) + (4 : Int32))).toNatClampNeg) then none else
      ob (pX9_takes (0 : Int32) (359 : Int32) m_buffer m_size z4.2.1 z4.2.2.1 z4.2.2.2.1 z4.2.2.2.2.1 z4.2.2.2.2.2.1 z4.2.2.2.2.2.2) (fun z5 =>
      if ((((11 : Int32) + ((9 : Int32) * (m_fresh 10))) + (5 : Int32)) < 0 ∨ 99 ≤ ((((11 : Int32) + ((9 : Int32) * (m_fresh 10))) + (5 : Int32))).toNatClampNeg) then none else
      ob (pX9_takes (0 : Int32) (180 : Int32) m_buffer m_size z5.2.1 z5.2.2.1 z5.2.2.2.1 z5.2.2.2.2.1 z5.2.2.2.2.2.1 z5.2.2.2.2.2.2) (fun z6 =>
      if ((((11 : Int32) + ((9 : Int32) * (m_fresh 10))) + (6 : Int32)) < 0 ∨ 99 ≤ ((((11 : Int32) + ((9 : Int32) * (m_fresh 10))) + (6 : Int32))).toNatClampNeg) then none else
      ob (pX9_takes (1 : Int32) (3 : Int32) m_buffer m_size z6.2.1 z6.2.2.1 z6.2.2.2.1 z6.2.2.2.2.1 z6.2.2.2.2.2.1 z6.2.2.2.2.2.2) (fun z7 =>
      if ((((11 : Int32) + ((9 : Int32) * (m_fresh 10))) + (7 : Int32)) < 0 ∨ 99 ≤ ((((11 : Int32) + ((9 : Int32) * (m_fresh 10))) + (7 : Int32))).toNatClampNeg) then none else
      ob (pX9_takes (1 : Int32) (1000 : Int32) m_buffer m_size z7.2.1 z7.2.2.1 z7.2.2.2.1 z7.2.2.2.2.1 z7.2.2.2.2.2.1 z7.2.2.2.2.2.2) (fun z8 =>
      if ((((11 : Int32) + ((9 : Int32) * (m_fresh 10))) + (8 : Int32)) < 0 ∨ 99 ≤ ((((11 : Int32) + ((9 : Int32) * (m_fresh 10))) + (8 : Int32))).toNatClampNeg) then none else
      ob (pX9_must (7 : Int32) m_buffer m_size z8.2.1 z8.2.2.1 z8.2.2.2.1 z8.2.2.2.2.1 z8.2.2.2.2.2.1 z8.2.2.2.2.2.2) (fun z9 =>
      some (z9.1, z9.2.1, z9.2.2.1, z9.2.2.2.1, z9.2.2.2.2.1, z9.2.2.2.2.2, (upd (upd (upd (upd (upd (upd z3.2.2.2.2.2.2 (((((11 : Int32) + ((9 : Int32) * (m_fresh 10))) + (4 : Int32))).toNatClampNeg) z4.1) (((((11 : Int32) + ((9 : Int32) * (m_fresh 10))) + (5 : Int32))).toNatClampNeg) z5.1) (((((11 : Int32) + ((9 : Int32) * (m_fresh 10))) + (6 : Int32))).toNatClampNeg) z6.1) (((((11 : Int32) + ((9 : Int32) * (m_fresh 10))) + (7 : Int32))).toNatClampNeg) z7.1) (((((11 : Int32) + ((9 : Int32) * (m_fresh 10))) + (8 : Int32))).toNatClampNeg) z8.1) 10 ((((upd (upd (upd (upd (upd z3.2.2.2.2.2.2 (((((11 : Int32) + ((9 : Int32) * (m_fresh 10))) + (4 : Int32))).toNatClampNeg) z4.1) (((((11 : Int32) + ((9 : Int32) * (m_fresh 10))) + (5 : Int32))).toNatClampNeg) z5.1) (((((11 : Int32) + ((9 : Int32) * (m_fresh 10))) + (6 : Int32))).toNatClampNeg) z6.1) (((((11 : Int32) + ((9 : Int32) * (m_fresh 10))) + (7 : Int32))).toNatClampNeg) z7.1) (((((11 : Int32) + ((9 : Int32) * (m_fresh 10))) + (8 : Int32))).toNatClampNeg) z8.1) 10) + (1 : Int32)))))))))))))
    else
      some (z1.1, z1.2.1, z1.2.2.1, z1.2.2.2.1, z1.2.2.2.2.1, z1.2.2.2.2.2, m_fresh))
  else
    ob (pX9_fails (-4 : Int32) m_at m_wrong m_wrongAt) (fun z10 =>
    ob (pX9_must (3 : Int32) m_buffer m_size m_at m_behind m_kind z10.1 z10.2 m_number) (fun z11 =>
    if z11.2.2.2.1 = 0 then
      ob (pX9_takes (0 : Int32) (3 : Int32) m_buffer m_size z11.1 z11.2.1 z11.2.2.1 z11.2.2.2.1 z11.2.2.2.2.1 z11.2.2.2.2.2) (fun z12 =>
      if ((((11 : Int32) + ((9 : Int32) * (m_fresh 10))) + (0 : Int32)) < 0 ∨ 99 ≤ ((((11 : Int32) + ((9 : Int32) * (m_fresh 10))) + (0 : Int32))).toNatClampNeg) then none else
      ob (pX9_readsBody (((11 : Int32) + ((9 : Int32) * (m_fresh 10))) + (1 : Int32)) (upd m_fresh (((((11 : Int32) + ((9 : Int32) * (m_fresh 10))) + (0 : Int32))).toNatClampNeg) z12.1) m_buffer m_size z12.2.1 z12.2.2.1 z12.2.2.2.1 z12.2.2.2.2.1 z12.2.2.2.2.2.1 z12.2.2.2.2.2.2) (fun z13 =>
      ob (pX9_takes (0 : Int32) (89 : Int32) m_buffer m_size z13.1 z13.2.1 z13.2.2.1 z13.2.2.2.1 z13.2.2.2.2.1 z13.2.2.2.2.2.1) (fun z14 =>
      if ((((11 : Int32) + ((9 : Int32) * (m_fresh 10))) + (4 : Int32)) < 0 ∨ 99 ≤ ((((11 : Int32) + ((9 : Int32) * (m_fresh 10))) + (4 : Int32))).toNatClampNeg) then none else
      ob (pX9_takes (0 : Int32) (359 : Int32) m_buffer m_size z14.2.1 z14.2.2.1 z14.2.2.2.1 z14.2.2.2.2.1 z14.2.2.2.2.2.1 z14.2.2.2.2.2.2) (fun z15 =>
      if ((((11 : Int32) + ((9 : Int32) * (m_fresh 10))) + (5 : Int32)) < 0 ∨ 99 ≤ ((((11 : Int32) + ((9 : Int32) * (m_fresh 10))) + (5 : Int32))).toNatClampNeg) then none else
      ob (pX9_takes (0 : Int32) (180 : Int32) m_buffer m_size z15.2.1 z15.2.2.1 z15.2.2.2.1 z15.2.2.2.2.1 z15.2.2.2.2.2.1 z15.2.2.2.2.2.2) (fun z16 =>
      if ((((11 : Int32) + ((9 : Int32) * (m_fresh 10))) + (6 : Int32)) < 0 ∨ 99 ≤ ((((11 : Int32) + ((9 : Int32) * (m_fresh 10))) + (6 : Int32))).toNatClampNeg) then none else
      ob (pX9_takes (1 : Int32) (3 : Int32) m_buffer m_size z16.2.1 z16.2.2.1 z16.2.2.2.1 z16.2.2.2.2.1 z16.2.2.2.2.2.1 z16.2.2.2.2.2.2) (fun z17 =>
      if ((((11 : Int32) + ((9 : Int32) * (m_fresh 10))) + (7 : Int32)) < 0 ∨ 99 ≤ ((((11 : Int32) + ((9 : Int32) * (m_fresh 10))) + (7 : Int32))).toNatClampNeg) then none else
      ob (pX9_takes (1 : Int32) (1000 : Int32) m_buffer m_size z17.2.1 z17.2.2.1 z17.2.2.2.1 z17.2.2.2.2.1 z17.2.2.2.2.2.1 z17.2.2.2.2.2.2) (fun z18 =>
      if ((((11 : Int32) + ((9 : Int32) * (m_fresh 10))) + (8 : Int32)) < 0 ∨ 99 ≤ ((((11 : Int32) + ((9 : Int32) * (m_fresh 10))) + (8 : Int32))).toNatClampNeg) then none else
      ob (pX9_must (7 : Int32) m_buffer m_size z18.2.1 z18.2.2.1 z18.2.2.2.1 z18.2.2.2.2.1 z18.2.2.2.2.2.1 z18.2.2.2.2.2.2) (fun z19 =>
      some (z19.1, z19.2.1, z19.2.2.1, z19.2.2.2.1, z19.2.2.2.2.1, z19.2.2.2.2.2, (upd (upd (upd (upd (upd (upd z13.2.2.2.2.2.2 (((((11 : Int32) + ((9 : Int32) * (m_fresh 10))) + (4 : Int32))).toNatClampNeg) z14.1) (((((11 : Int32) + ((9 : Int32) * (m_fresh 10))) + (5 : Int32))).toNatClampNeg) z15.1) (((((11 : Int32) + ((9 : Int32) * (m_fresh 10))) + (6 : Int32))).toNatClampNeg) z16.1) (((((11 : Int32) + ((9 : Int32) * (m_fresh 10))) + (7 : Int32))).toNatClampNeg) z17.1) (((((11 : Int32) + ((9 : Int32) * (m_fresh 10))) + (8 : Int32))).toNatClampNeg) z18.1) 10 ((((upd (upd (upd (upd (upd z13.2.2.2.2.2.2 (((((11 : Int32) + ((9 : Int32) * (m_fresh 10))) + (4 : Int32))).toNatClampNeg) z14.1) (((((11 : Int32) + ((9 : Int32) * (m_fresh 10))) + (5 : Int32))).toNatClampNeg) z15.1) (((((11 : Int32) + ((9 : Int32) * (m_fresh 10))) + (6 : Int32))).toNatClampNeg) z16.1) (((((11 : Int32) + ((9 : Int32) * (m_fresh 10))) + (7 : Int32))).toNatClampNeg) z17.1) (((((11 : Int32) + ((9 : Int32) * (m_fresh 10))) + (8 : Int32))).toNatClampNeg) z18.1) 10) + (1 : Int32)))))))))))))
    else
      some (z11.1, z11.2.1, z11.2.2.1, z11.2.2.2.1, z11.2.2.2.2.1, z11.2.2.2.2.2, m_fresh)))
/-! TelescopeNightModel.readsAll()V -/
def lpX9_readsAll_25 (m_buffer : Nat → Int32) (m_size : Int32) : Nat → (Nat → Int32) → Int32 → Int32 → Int32 → Int32 → Int32 → Int64 → Int32 → Int32 → Option ((Nat → Int32) × Int32 × Int32 × Int32 × Int32 × Int32 × Int64 × Int32 × Int32)
  | 0, _, _, _, _, _, _, _, _, _ => none
  | fu + 1, m_fresh, m_at, m_behind, m_kind, m_wrong, m_wrongAt, m_number, m_hasMoon, m_hasSky =>
    if ¬ m_wrong = 0 then
      some (m_fresh, m_at, m_behind, m_kind, m_wrong, m_wrongAt, m_number, m_hasMoon, m_hasSky)
    else
      if m_kind = (8 : Int32) then
        some (m_fresh, m_at, m_behind, m_kind, m_wrong, m_wrongAt, m_number, m_hasMoon, m_hasSky)
      else
        ob (pX9_is (1 : Int32) m_kind m_wrong) (fun z5 =>
        if z5 = 0 then
          ob (pX9_is (2 : Int32) m_kind m_wrong) (fun z6 =>
          if z6 = 0 then
            ob (pX9_is (3 : Int32) m_kind m_wrong) (fun z7 =>
            if z7 = 0 then
              ob (pX9_fails (-2 : Int32) m_at m_wrong m_wrongAt) (fun z8 =>
              lpX9_readsAll_25 m_buffer m_size fu m_fresh m_at m_behind m_kind z8.1 z8.2 m_number m_hasMoon m_hasSky)
            else
              ob (pX9_readsTarget m_fresh m_buffer m_size m_at m_behind m_kind m_wrong m_wrongAt m_number) (fun z9 =>
              lpX9_readsAll_25 m_buffer m_size fu z9.2.2.2.2.2.2 z9.1 z9.2.1 z9.2.2.1 z9.2.2.2.1 z9.2.2.2.2.1 z9.2.2.2.2.2.1 m_hasMoon m_hasSky))
          else
            ob (pX9_readsSky m_fresh m_buffer m_size m_at m_behind m_kind m_wrong m_wrongAt m_number m_hasSky) (fun z10 =>
            lpX9_readsAll_25 m_buffer m_size fu z10.2.2.2.2.2.2 z10.1 z10.2.1 z10.2.2.1 z10.2.2.2.1 z10.2.2.2.2.1 z10.2.2.2.2.2.1 m_hasMoon (1 : Int32)))
        else
          ob (pX9_readsMoon m_fresh m_buffer m_size m_at m_behind m_kind m_wrong m_wrongAt m_number m_hasMoon) (fun z11 =>
          lpX9_readsAll_25 m_buffer m_size fu z11.2.2.2.2.2.2 z11.1 z11.2.1 z11.2.2.1 z11.2.2.2.1 z11.2.2.2.2.1 z11.2.2.2.2.2.1 (1 : Int32) m_hasSky))
def pX9_readsAll (m_fresh : Nat → Int32) (m_buffer : Nat → Int32) (m_size : Int32) (m_at : Int32) (m_behind : Int32) (m_kind : Int32) (m_wrong : Int32) (m_wrongAt : Int32) (m_number : Int64) (m_hasMoon : Int32) (m_hasSky : Int32) : Option (Int32 × Int32 × Int32 × Int32 × Int32 × Int64 × Int32 × Int32 × (Nat → Int32)) :=
  ob (pX9_must (0 : Int32) m_buffer m_size m_at m_behind m_kind m_wrong m_wrongAt m_number) (fun z1 =>
  ob (pX9_takes (1 : Int32) (12 : Int32) m_buffer m_size z1.1 z1.2.1 z1.2.2.1 z1.2.2.2.1 z1.2.2.2.2.1 z1.2.2.2.2.2) (fun z2 =>
  ob (pX9_begins_99 z2.1 m_fresh) (fun z3 =>
  ob (pX9_must (7 : Int32) m_buffer m_size z2.2.1 z2.2.2.1 z2.2.2.2.1 z2.2.2.2.2.1 z2.2.2.2.2.2.1 z2.2.2.2.2.2.2) (fun z4 =>
  ob (lpX9_readsAll_25 m_buffer m_size lpF z3 z4.1 z4.2.1 z4.2.2.1 z4.2.2.2.1 z4.2.2.2.2.1 z4.2.2.2.2.2 m_hasMoon m_hasSky) (fun z12 =>
  some (z12.2.1, z12.2.2.1, z12.2.2.2.1, z12.2.2.2.2.1, z12.2.2.2.2.2.1, z12.2.2.2.2.2.2.1, z12.2.2.2.2.2.2.2.1, z12.2.2.2.2.2.2.2.2, z12.1))))))
/-! TelescopeNightModel.load(I)I -/
def lpX9_load_107 (m_fresh : Nat → Int32) : Nat → Int32 → (Nat → Int32) → Option (Int32 × (Nat → Int32))
  | 0, _, _ => none
  | fu + 1, l2, m_a =>
    if (99 : Int32) ≤ l2 then
      some (l2, m_a)
    else
      if (l2 < 0 ∨ 99 ≤ l2.toNatClampNeg) then none else
      lpX9_load_107 m_fresh fu (l2 + (1 : Int32)) (upd m_a l2.toNatClampNeg ((m_fresh l2.toNatClampNeg)))
def pX9_load (x1 : Int32) (m_a : Nat → Int32) (m_fresh : Nat → Int32) (m_kept : Nat → Int32) (m_keptMany : Int32) (m_buffer : Nat → Int32) (m_buffered : Int32) (m_size : Int32) (m_at : Int32) (m_behind : Int32) (m_kind : Int32) (m_wrong : Int32) (m_wrongAt : Int32) (m_errorAt : Int32) (m_number : Int64) (m_hasMoon : Int32) (m_hasSky : Int32) : Option (Int32 × Int32 × Int32 × Int32 × Int32 × Int32 × Int32 × Int32 × Int32 × Int32 × Int32 × Int64 × Int32 × Int32 × (Nat → Int32) × (Nat → Int32) × (Nat → Int32)) :=
  ob (pX9_isIn x1.toInt64 (0 : Int64) m_buffered.toInt64) (fun z1 =>
  if z1 = 0 then
    some ((0 : Int32), m_keptMany, (1 : Int32), m_buffered, m_size, m_at, m_behind, m_kind, m_wrong, m_wrongAt, m_errorAt, m_number, m_hasMoon, m_hasSky, m_a, m_fresh, m_kept)
  else
    ob (pX9_next m_buffer x1 (0 : Int32) m_number) (fun z2 =>
    ob (pX9_readsAll m_fresh m_buffer x1 z2.1 z2.2.1 z2.2.2.1 (0 : Int32) m_wrongAt z2.2.2.2 (0 : Int32) (0 : Int32)) (fun z3 =>
    if ¬ z3.2.2.2.1 = 0 then
      some (z3.2.2.2.1, m_keptMany, (0 : Int32), (0 : Int32), x1, z3.1, z3.2.1, z3.2.2.1, z3.2.2.2.1, z3.2.2.2.2.1, z3.2.2.2.2.1, z3.2.2.2.2.2.1, z3.2.2.2.2.2.2.1, z3.2.2.2.2.2.2.2.1, m_a, z3.2.2.2.2.2.2.2.2, m_kept)
    else
      ob (pX9_keeps m_a m_kept m_keptMany) (fun z4 =>
      ob (lpX9_load_107 z3.2.2.2.2.2.2.2.2 lpF (0 : Int32) m_a) (fun z5 =>
      some ((z5.2 10), z4.1, (0 : Int32), (0 : Int32), x1, z3.1, z3.2.1, z3.2.2.1, z3.2.2.2.1, z3.2.2.2.2.1, (-1 : Int32), z3.2.2.2.2.2.1, z3.2.2.2.2.2.2.1, z3.2.2.2.2.2.2.2.1, z5.2, z3.2.2.2.2.2.2.2.2, z4.2))))))
/-! TelescopeNightModel.errorPosition()I -/
def pX9_errorPosition (m_errorAt : Int32) : Option (Int32) :=
  some m_errorAt
/-! TelescopeNightModel.ofTarget(II)I -/
def pX9_ofTarget (x1 : Int32) (x2 : Int32) (m_a : Nat → Int32) : Option (Int32) :=
  if ((((11 : Int32) + ((9 : Int32) * x1)) + x2) < 0 ∨ 99 ≤ ((((11 : Int32) + ((9 : Int32) * x1)) + x2)).toNatClampNeg) then none else
  some (m_a ((((11 : Int32) + ((9 : Int32) * x1)) + x2)).toNatClampNeg)
/-! TelescopeNightModel.isTarget(I)Z -/
def pX9_isTarget (x1 : Int32) (m_a : Nat → Int32) : Option (Int32) :=
  ob (pX9_isIn x1.toInt64 (0 : Int64) ((((m_a 10) - (1 : Int32))).toInt64)) (fun z1 =>
  if (z1 = 0 ∨ z1 = 1) then some z1 else none)
/-! TelescopeNightModel.isSlot(I)Z -/
def pX9_isSlot (x1 : Int32) (m_a : Nat → Int32) : Option (Int32) :=
  ob (pX9_isIn x1.toInt64 (0 : Int64) ((((m_a 0) - (1 : Int32))).toInt64)) (fun z1 =>
  if (z1 = 0 ∨ z1 = 1) then some z1 else none)
/-! TelescopeNightModel.teams()I -/
def lpX9_teams_4 (m_a : Nat → Int32) : Nat → Int32 → Int32 → Option (Int32 × Int32)
  | 0, _, _ => none
  | fu + 1, l1, l2 =>
    if (m_a 10) ≤ l2 then
      some (l1, l2)
    else
      ob (pX9_ofTarget l2 (0 : Int32) m_a) (fun z1 =>
      lpX9_teams_4 m_a fu (l1 ||| ((1 : Int32) <<< (z1 &&& 31))) (l2 + (1 : Int32)))
def pX9_teams (m_a : Nat → Int32) : Option (Int32) :=
  ob (lpX9_teams_4 m_a lpF (0 : Int32) (0 : Int32)) (fun z2 =>
  some z2.1)
/-! TelescopeNightModel.exposuresMade()I -/
def lpX9_exposuresMade_4 (m_a : Nat → Int32) : Nat → Int32 → Int32 → Option (Int32 × Int32)
  | 0, _, _ => none
  | fu + 1, l1, l2 =>
    if (6 : Int32) ≤ l2 then
      some (l1, l2)
    else
      if (((69 : Int32) + l2) < 0 ∨ 99 ≤ (((69 : Int32) + l2)).toNatClampNeg) then none else
      lpX9_exposuresMade_4 m_a fu (l1 + (m_a (((69 : Int32) + l2)).toNatClampNeg)) (l2 + (1 : Int32))
def pX9_exposuresMade (m_a : Nat → Int32) : Option (Int32) :=
  ob (lpX9_exposuresMade_4 m_a lpF (0 : Int32) (0 : Int32)) (fun z1 =>
  some z1.1)
/-! TelescopeNightModel.count(I)I -/
def pX9_count (x1 : Int32) (m_a : Nat → Int32) : Option (Int32 × Int32) :=
  ob (pX9_isIn x1.toInt64 (0 : Int64) (6 : Int64)) (fun z1 =>
  if z1 = 0 then
    some ((0 : Int32), (1 : Int32))
  else
    if x1 = (0 : Int32) then
      some ((m_a 0), (0 : Int32))
    else if x1 = (1 : Int32) then
      some ((m_a 10), (0 : Int32))
    else if x1 = (2 : Int32) then
      ob (pX9_teams m_a) (fun z2 =>
      some (z2, (0 : Int32)))
    else if x1 = (3 : Int32) then
      some ((m_a 65), (0 : Int32))
    else if x1 = (4 : Int32) then
      some ((m_a 66), (0 : Int32))
    else if x1 = (5 : Int32) then
      some ((m_a 67), (0 : Int32))
    else 
      ob (pX9_exposuresMade m_a) (fun z3 =>
      some (z3, (0 : Int32))))
/-! TelescopeNightModel.heightOf(II)I -/
def pX9_heightOf (x1 : Int32) (x2 : Int32) (m_a : Nat → Int32) : Option (Int32) :=
  if ((x1 + (2 : Int32)) < 0 ∨ 99 ≤ ((x1 + (2 : Int32))).toNatClampNeg) then none else
  if ((x1 + (0 : Int32)) < 0 ∨ 99 ≤ ((x1 + (0 : Int32))).toNatClampNeg) then none else
  if ((x1 + (1 : Int32)) < 0 ∨ 99 ≤ ((x1 + (1 : Int32))).toNatClampNeg) then none else
  some ((m_a ((x1 + (0 : Int32))).toNatClampNeg) - (((m_a ((x1 + (1 : Int32))).toNatClampNeg) * (x2 - (m_a ((x1 + (2 : Int32))).toNatClampNeg))) * (x2 - (m_a ((x1 + (2 : Int32))).toNatClampNeg))))
/-! TelescopeNightModel.distanceOf(II)I -/
def pX9_distanceOf (x1 : Int32) (x2 : Int32) (m_a : Nat → Int32) : Option (Int32) :=
  ob (pX9_ofTarget x1 (5 : Int32) m_a) (fun z1 =>
  if 0 ≤ (((z1 + ((15 : Int32) * x2)) - (z1 + ((15 : Int32) * x2)) / (360 : Int32) * (360 : Int32)) - (((m_a 4) + ((m_a 5) * x2)) - ((m_a 4) + ((m_a 5) * x2)) / (360 : Int32) * (360 : Int32))) then
    if (((z1 + ((15 : Int32) * x2)) - (z1 + ((15 : Int32) * x2)) / (360 : Int32) * (360 : Int32)) - (((m_a 4) + ((m_a 5) * x2)) - ((m_a 4) + ((m_a 5) * x2)) / (360 : Int32) * (360 : Int32))) ≤ (180 : Int32) then
      some (((z1 + ((15 : Int32) * x2)) - (z1 + ((15 : Int32) * x2)) / (360 : Int32) * (360 : Int32)) - (((m_a 4) + ((m_a 5) * x2)) - ((m_a 4) + ((m_a 5) * x2)) / (360 : Int32) * (360 : Int32)))
    else
      some ((360 : Int32) - (((z1 + ((15 : Int32) * x2)) - (z1 + ((15 : Int32) * x2)) / (360 : Int32) * (360 : Int32)) - (((m_a 4) + ((m_a 5) * x2)) - ((m_a 4) + ((m_a 5) * x2)) / (360 : Int32) * (360 : Int32))))
  else
    if (-(((z1 + ((15 : Int32) * x2)) - (z1 + ((15 : Int32) * x2)) / (360 : Int32) * (360 : Int32)) - (((m_a 4) + ((m_a 5) * x2)) - ((m_a 4) + ((m_a 5) * x2)) / (360 : Int32) * (360 : Int32)))) ≤ (180 : Int32) then
      some (-(((z1 + ((15 : Int32) * x2)) - (z1 + ((15 : Int32) * x2)) / (360 : Int32) * (360 : Int32)) - (((m_a 4) + ((m_a 5) * x2)) - ((m_a 4) + ((m_a 5) * x2)) / (360 : Int32) * (360 : Int32))))
    else
      some ((360 : Int32) - (-(((z1 + ((15 : Int32) * x2)) - (z1 + ((15 : Int32) * x2)) / (360 : Int32) * (360 : Int32)) - (((m_a 4) + ((m_a 5) * x2)) - ((m_a 4) + ((m_a 5) * x2)) / (360 : Int32) * (360 : Int32))))))
/-! TelescopeNightModel.canObserve(II)Z -/
def pX9_canObserve (x1 : Int32) (x2 : Int32) (m_a : Nat → Int32) : Option (Int32) :=
  ob (pX9_heightOf (((11 : Int32) + ((9 : Int32) * x1)) + (1 : Int32)) x2 m_a) (fun z1 =>
  ob (pX9_ofTarget x1 (4 : Int32) m_a) (fun z2 =>
  if z2 ≤ z1 then
    ob (pX9_heightOf (1 : Int32) x2 m_a) (fun z3 =>
    if z3 ≤ 0 then
      some (1 : Int32)
    else
      ob (pX9_distanceOf x1 x2 m_a) (fun z4 =>
      ob (pX9_ofTarget x1 (6 : Int32) m_a) (fun z5 =>
      if z4 < ((z5 * (m_a 6)) / (100 : Int32)) then
        some (0 : Int32)
      else
        some (1 : Int32))))
  else
    some (0 : Int32)))
/-! TelescopeNightModel.lacks(II)Z -/
def pX9_lacks (x1 : Int32) (x2 : Int32) (m_a : Nat → Int32) : Option (Int32 × Int32) :=
  ob (pX9_isTarget x1 m_a) (fun z1 =>
  if z1 = 0 then
    some ((1 : Int32), (1 : Int32))
  else
    ob (pX9_isSlot x2 m_a) (fun z2 =>
    if z2 = 0 then
      some ((1 : Int32), (1 : Int32))
    else
      some ((0 : Int32), (0 : Int32))))
/-! TelescopeNightModel.height(II)I -/
def pX9_height (x1 : Int32) (x2 : Int32) (m_a : Nat → Int32) : Option (Int32 × Int32) :=
  ob (pX9_lacks x1 x2 m_a) (fun z1 =>
  if z1.1 = 0 then
    ob (pX9_heightOf (((11 : Int32) + ((9 : Int32) * x1)) + (1 : Int32)) x2 m_a) (fun z2 =>
    some (z2, z1.2))
  else
    some ((0 : Int32), z1.2))
/-! TelescopeNightModel.moonHeight(I)I -/
def pX9_moonHeight (x1 : Int32) (m_a : Nat → Int32) : Option (Int32 × Int32) :=
  ob (pX9_isSlot x1 m_a) (fun z1 =>
  if z1 = 0 then
    some ((0 : Int32), (1 : Int32))
  else
    ob (pX9_heightOf (1 : Int32) x1 m_a) (fun z2 =>
    some (z2, (0 : Int32))))
/-! TelescopeNightModel.moonDistance(II)I -/
def pX9_moonDistance (x1 : Int32) (x2 : Int32) (m_a : Nat → Int32) : Option (Int32 × Int32) :=
  ob (pX9_lacks x1 x2 m_a) (fun z1 =>
  if z1.1 = 0 then
    ob (pX9_distanceOf x1 x2 m_a) (fun z2 =>
    some (z2, z1.2))
  else
    some ((0 : Int32), z1.2))
/-! TelescopeNightModel.window(I)I -/
def lpX9_window_15 (l1 : Int32) (m_a : Nat → Int32) : Nat → Int32 → Int32 → Option (Int32 × Int32)
  | 0, _, _ => none
  | fu + 1, l2, l3 =>
    if (m_a 0) ≤ l3 then
      some (l2, l3)
    else
      ob (pX9_canObserve l1 l3 m_a) (fun z2 =>
      if z2 = 0 then
        lpX9_window_15 l1 m_a fu (l2 ||| (0 : Int32)) (l3 + (1 : Int32))
      else
        lpX9_window_15 l1 m_a fu (l2 ||| ((1 : Int32) <<< (l3 &&& 31))) (l3 + (1 : Int32)))
def pX9_window (x1 : Int32) (m_a : Nat → Int32) : Option (Int32 × Int32) :=
  ob (pX9_lacks x1 (0 : Int32) m_a) (fun z1 =>
  if z1.1 = 0 then
    ob (lpX9_window_15 x1 m_a lpF (0 : Int32) (0 : Int32)) (fun z3 =>
    some (z3.1, z1.2))
  else
    some ((0 : Int32), z1.2))
/-! TelescopeNightModel.observableIn(I)I -/
def lpX9_observableIn_4 (l1 : Int32) (m_a : Nat → Int32) : Nat → Int32 → Int32 → Option (Int32 × Int32)
  | 0, _, _ => none
  | fu + 1, l2, l3 =>
    if (m_a 10) ≤ l3 then
      some (l2, l3)
    else
      ob (pX9_canObserve l3 l1 m_a) (fun z1 =>
      if z1 = 0 then
        lpX9_observableIn_4 l1 m_a fu (l2 ||| (0 : Int32)) (l3 + (1 : Int32))
      else
        lpX9_observableIn_4 l1 m_a fu (l2 ||| ((1 : Int32) <<< (l3 &&& 31))) (l3 + (1 : Int32)))
def pX9_observableIn (x1 : Int32) (m_a : Nat → Int32) : Option (Int32) :=
  ob (lpX9_observableIn_4 x1 m_a lpF (0 : Int32) (0 : Int32)) (fun z2 =>
  some z2.1)
/-! TelescopeNightModel.observable(I)I -/
def pX9_observable (x1 : Int32) (m_a : Nat → Int32) : Option (Int32 × Int32) :=
  ob (pX9_isSlot x1 m_a) (fun z1 =>
  if z1 = 0 then
    some ((0 : Int32), (1 : Int32))
  else
    ob (pX9_observableIn x1 m_a) (fun z2 =>
    some (z2, (0 : Int32))))
/-! TelescopeNightModel.highestSlot(I)I -/
def lpX9_highestSlot_26 (l1 : Int32) (l2 : Int32) (m_a : Nat → Int32) : Nat → Int32 → Int32 → Option (Int32 × Int32)
  | 0, _, _ => none
  | fu + 1, l3, l4 =>
    if (m_a 0) ≤ l4 then
      some (l3, l4)
    else
      ob (pX9_canObserve l1 l4 m_a) (fun z2 =>
      if z2 = 0 then
        lpX9_highestSlot_26 l1 l2 m_a fu l3 (l4 + (1 : Int32))
      else
        if l3 = (-1 : Int32) then
          lpX9_highestSlot_26 l1 l2 m_a fu l4 (l4 + (1 : Int32))
        else
          ob (pX9_heightOf l2 l4 m_a) (fun z3 =>
          ob (pX9_heightOf l2 l3 m_a) (fun z4 =>
          if z3 ≤ z4 then
            lpX9_highestSlot_26 l1 l2 m_a fu l3 (l4 + (1 : Int32))
          else
            lpX9_highestSlot_26 l1 l2 m_a fu l4 (l4 + (1 : Int32)))))
def pX9_highestSlot (x1 : Int32) (m_a : Nat → Int32) : Option (Int32 × Int32) :=
  ob (pX9_lacks x1 (0 : Int32) m_a) (fun z1 =>
  if z1.1 = 0 then
    ob (lpX9_highestSlot_26 x1 (((11 : Int32) + ((9 : Int32) * x1)) + (1 : Int32)) m_a lpF (-1 : Int32) (0 : Int32)) (fun z5 =>
    if ¬ z5.1 = (-1 : Int32) then
      some (z5.1, (0 : Int32))
    else
      some ((0 : Int32), (2 : Int32)))
  else
    some ((0 : Int32), z1.2))
/-! TelescopeNightModel.stillWanted(I)I -/
def pX9_stillWanted (x1 : Int32) (m_a : Nat → Int32) : Option (Int32) :=
  ob (pX9_ofTarget x1 (7 : Int32) m_a) (fun z1 =>
  if (((69 : Int32) + x1) < 0 ∨ 99 ≤ (((69 : Int32) + x1)).toNatClampNeg) then none else
  some (z1 - (m_a (((69 : Int32) + x1)).toNatClampNeg)))
/-! TelescopeNightModel.latestStart(I)I -/
def lpX9_latestStart_24 (l1 : Int32) (m_a : Nat → Int32) : Nat → Int32 → Int32 → Option (Int32 × Int32)
  | 0, _, _ => none
  | fu + 1, l2, l3 =>
    if l2 ≤ 0 then
      some (l2, l3)
    else
      if l3 ≤ (m_a 65) then
        some (l2, l3)
      else
        ob (pX9_canObserve l1 (l3 + (-1 : Int32)) m_a) (fun z3 =>
        if z3 = 0 then
          lpX9_latestStart_24 l1 m_a fu (l2 - (0 : Int32)) (l3 + (-1 : Int32))
        else
          lpX9_latestStart_24 l1 m_a fu (l2 - (1 : Int32)) (l3 + (-1 : Int32)))
def pX9_latestStart (x1 : Int32) (m_a : Nat → Int32) : Option (Int32 × Int32) :=
  ob (pX9_lacks x1 (0 : Int32) m_a) (fun z1 =>
  if z1.1 = 0 then
    ob (pX9_stillWanted x1 m_a) (fun z2 =>
    ob (lpX9_latestStart_24 x1 m_a lpF z2 (m_a 0)) (fun z4 =>
    if z4.1 ≤ 0 then
      some (z4.2, (0 : Int32))
    else
      some ((0 : Int32), (2 : Int32))))
  else
    some ((0 : Int32), z1.2))
/-! TelescopeNightModel.oddsOf(I)I -/
def lpX9_oddsOf_14 (l1 : Int32) (m_a : Nat → Int32) : Nat → Int32 → Int32 → Option (Int32 × Int32)
  | 0, _, _ => none
  | fu + 1, l2, l3 =>
    if l1 ≤ l3 then
      some (l2, l3)
    else
      lpX9_oddsOf_14 l1 m_a fu (((l2 * (m_a 8)) + (((1000000 : Int32) - l2) * (m_a 9))) / (100 : Int32)) (l3 + (1 : Int32))
def pX9_oddsOf (x1 : Int32) (m_a : Nat → Int32) : Option (Int32) :=
  ob (lpX9_oddsOf_14 x1 m_a lpF ((10000 : Int32) * (m_a 7)) (0 : Int32)) (fun z1 =>
  some z1.1)
/-! TelescopeNightModel.clearOdds(I)I -/
def pX9_clearOdds (x1 : Int32) (m_a : Nat → Int32) : Option (Int32 × Int32) :=
  ob (pX9_isSlot x1 m_a) (fun z1 =>
  if z1 = 0 then
    some ((0 : Int32), (1 : Int32))
  else
    ob (pX9_oddsOf x1 m_a) (fun z2 =>
    some (z2, (0 : Int32))))
/-! TelescopeNightModel.clearRun(II)I -/
def lpX9_clearRun_52 (l2 : Int32) (m_a : Nat → Int32) : Nat → Int32 → Int32 → Option (Int32 × Int32)
  | 0, _, _ => none
  | fu + 1, l3, l4 =>
    if l2 ≤ l4 then
      some (l3, l4)
    else
      lpX9_clearRun_52 l2 m_a fu ((l3 * (m_a 8)) / (100 : Int32)) (l4 + (1 : Int32))
def pX9_clearRun (x1 : Int32) (x2 : Int32) (m_a : Nat → Int32) : Option (Int32 × Int32) :=
  ob (pX9_isSlot x1 m_a) (fun z1 =>
  if z1 = 0 then
    some ((0 : Int32), (1 : Int32))
  else
    ob (pX9_isSlot x2 m_a) (fun z2 =>
    if ¬ z2 = 0 then
      if x1 ≤ x2 then
        ob (pX9_oddsOf x1 m_a) (fun z3 =>
        ob (lpX9_clearRun_52 x2 m_a lpF z3 x1) (fun z4 =>
        some (z4.1, (0 : Int32))))
      else
        some ((0 : Int32), (2 : Int32))
    else
      some ((0 : Int32), (1 : Int32))))
/-! TelescopeNightModel.madeIn(II)I -/
def pX9_madeIn (x0 : Int32) (x1 : Int32) : Option (Int32) :=
  some ((x0 >>> (((2 : Int32) * x1) &&& 31)) &&& (3 : Int32))
/-! TelescopeNightModel.stateNow()I -/
def lpX9_stateNow_4 (m_a : Nat → Int32) : Nat → Int32 → Int32 → Option (Int32 × Int32)
  | 0, _, _ => none
  | fu + 1, l1, l2 =>
    if (6 : Int32) ≤ l2 then
      some (l1, l2)
    else
      if (((69 : Int32) + l2) < 0 ∨ 99 ≤ (((69 : Int32) + l2)).toNatClampNeg) then none else
      lpX9_stateNow_4 m_a fu (l1 ||| ((m_a (((69 : Int32) + l2)).toNatClampNeg) <<< (((2 : Int32) * l2) &&& 31))) (l2 + (1 : Int32))
def pX9_stateNow (m_a : Nat → Int32) : Option (Int32) :=
  ob (lpX9_stateNow_4 m_a lpF (0 : Int32) (0 : Int32)) (fun z1 =>
  some z1.1)
/-! TelescopeNightModel.inTurnBy(I)I -/
def lpX9_inTurnBy_126 (l2 : Int32) (l3 : Int32) (m_turnsBy : Nat → Int32) : Nat → Int32 → Int32 → Option (Int32 × Int32)
  | 0, _, _ => none
  | fu + 1, l4, l5 =>
    if (4 : Int32) ≤ l5 then
      some (l4, l5)
    else
      if ¬ ((l2 >>> (l5 &&& 31)) &&& (1 : Int32)) = (1 : Int32) then
        lpX9_inTurnBy_126 l2 l3 m_turnsBy fu (l4 ||| (0 : Int32)) (l5 + (1 : Int32))
      else
        if (l5 < 0 ∨ 4 ≤ l5.toNatClampNeg) then none else
        if ¬ (m_turnsBy l5.toNatClampNeg) = l3 then
          lpX9_inTurnBy_126 l2 l3 m_turnsBy fu (l4 ||| (0 : Int32)) (l5 + (1 : Int32))
        else
          lpX9_inTurnBy_126 l2 l3 m_turnsBy fu (l4 ||| ((1 : Int32) <<< (l5 &&& 31))) (l5 + (1 : Int32))
def lpX9_inTurnBy_79 (l2 : Int32) (m_turnsBy : Nat → Int32) : Nat → Int32 → Int32 → Option (Int32 × Int32)
  | 0, _, _ => none
  | fu + 1, l3, l4 =>
    if (4 : Int32) ≤ l4 then
      some (l3, l4)
    else
      if ¬ ((l2 >>> (l4 &&& 31)) &&& (1 : Int32)) = (1 : Int32) then
        lpX9_inTurnBy_79 l2 m_turnsBy fu l3 (l4 + (1 : Int32))
      else
        if (l4 < 0 ∨ 4 ≤ l4.toNatClampNeg) then none else
        if l3 ≤ (m_turnsBy l4.toNatClampNeg) then
          lpX9_inTurnBy_79 l2 m_turnsBy fu l3 (l4 + (1 : Int32))
        else
          lpX9_inTurnBy_79 l2 m_turnsBy fu (m_turnsBy l4.toNatClampNeg) (l4 + (1 : Int32))
def lpX9_inTurnBy_22 (l1 : Int32) (m_a : Nat → Int32) : Nat → Int32 → (Nat → Int32) → Option (Int32 × (Nat → Int32))
  | 0, _, _ => none
  | fu + 1, l2, m_turnsBy =>
    if (m_a 10) ≤ l2 then
      some (l2, m_turnsBy)
    else
      ob (pX9_ofTarget l2 (0 : Int32) m_a) (fun z2 =>
      if (z2 < 0 ∨ 4 ≤ z2.toNatClampNeg) then none else
      ob (pX9_madeIn l1 l2) (fun z3 =>
      lpX9_inTurnBy_22 l1 m_a fu (l2 + (1 : Int32)) (upd m_turnsBy z2.toNatClampNeg (((m_turnsBy z2.toNatClampNeg) + z3)))))
def lpX9_inTurnBy_2  : Nat → Int32 → (Nat → Int32) → Option (Int32 × (Nat → Int32))
  | 0, _, _ => none
  | fu + 1, l2, m_turnsBy =>
    if (4 : Int32) ≤ l2 then
      some (l2, m_turnsBy)
    else
      if (l2 < 0 ∨ 4 ≤ l2.toNatClampNeg) then none else
      lpX9_inTurnBy_2 fu (l2 + (1 : Int32)) (upd m_turnsBy l2.toNatClampNeg ((0 : Int32)))
def pX9_inTurnBy (x1 : Int32) (m_a : Nat → Int32) (m_turnsBy : Nat → Int32) : Option (Int32 × (Nat → Int32)) :=
  ob (lpX9_inTurnBy_2 lpF (0 : Int32) m_turnsBy) (fun z1 =>
  ob (lpX9_inTurnBy_22 x1 m_a lpF (0 : Int32) z1.2) (fun z4 =>
  ob (pX9_teams m_a) (fun z5 =>
  ob (lpX9_inTurnBy_79 (z5 &&& ((m_a 68) ^^^ (-1 : Int32))) z4.2 lpF (100 : Int32) (0 : Int32)) (fun z6 =>
  ob (lpX9_inTurnBy_126 (z5 &&& ((m_a 68) ^^^ (-1 : Int32))) z6.1 z4.2 lpF (0 : Int32) (0 : Int32)) (fun z7 =>
  some (z7.1, z4.2))))))
/-! TelescopeNightModel.isPossible(IIII)Z -/
def pX9_isPossible (x1 : Int32) (x2 : Int32) (x3 : Int32) (x4 : Int32) (m_a : Nat → Int32) : Option (Int32) :=
  ob (pX9_canObserve x1 x2 m_a) (fun z1 =>
  if z1 = 0 then
    some (0 : Int32)
  else
    ob (pX9_madeIn x3 x1) (fun z2 =>
    ob (pX9_ofTarget x1 (7 : Int32) m_a) (fun z3 =>
    if z3 ≤ z2 then
      some (0 : Int32)
    else
      ob (pX9_ofTarget x1 (0 : Int32) m_a) (fun z4 =>
      if ¬ ((x4 >>> (z4 &&& 31)) &&& (1 : Int32)) = (1 : Int32) then
        some (0 : Int32)
      else
        some (1 : Int32)))))
/-! TelescopeNightModel.possibleNow()I -/
def lpX9_possibleNow_9 (l2 : Int32) (m_a : Nat → Int32) : Nat → Int32 → Int32 → (Nat → Int32) → Option (Int32 × Int32 × (Nat → Int32))
  | 0, _, _, _ => none
  | fu + 1, l1, l3, m_turnsBy =>
    if (m_a 10) ≤ l3 then
      some (l1, l3, m_turnsBy)
    else
      if ¬ (m_a 67) = (1 : Int32) then
        lpX9_possibleNow_9 l2 m_a fu (l1 ||| (0 : Int32)) (l3 + (1 : Int32)) m_turnsBy
      else
        ob (pX9_inTurnBy l2 m_a m_turnsBy) (fun z2 =>
        ob (pX9_isPossible l3 (m_a 65) l2 z2.1 m_a) (fun z3 =>
        if z3 = 0 then
          lpX9_possibleNow_9 l2 m_a fu (l1 ||| (0 : Int32)) (l3 + (1 : Int32)) z2.2
        else
          lpX9_possibleNow_9 l2 m_a fu (l1 ||| ((1 : Int32) <<< (l3 &&& 31))) (l3 + (1 : Int32)) z2.2))
def pX9_possibleNow (m_a : Nat → Int32) (m_turnsBy : Nat → Int32) : Option (Int32 × (Nat → Int32)) :=
  ob (pX9_stateNow m_a) (fun z1 =>
  ob (lpX9_possibleNow_9 z1 m_a lpF (0 : Int32) (0 : Int32) m_turnsBy) (fun z4 =>
  some (z4.1, z4.2.2)))
/-! TelescopeNightModel.isOver()Z -/
def pX9_isOver (m_a : Nat → Int32) : Option (Int32) :=
  if ¬ (m_a 65) = (m_a 0) then
    some (0 : Int32)
  else
    some (1 : Int32)
/-! TelescopeNightModel.look(Z)I -/
def pX9_look (x1 : Int32) (m_a : Nat → Int32) (m_kept : Nat → Int32) (m_keptMany : Int32) (m_turnsBy : Nat → Int32) : Option (Int32 × Int32 × Int32 × (Nat → Int32) × (Nat → Int32) × (Nat → Int32)) :=
  ob (pX9_isOver m_a) (fun z1 =>
  if ¬ z1 = 0 then
    some ((0 : Int32), m_keptMany, (1 : Int32), m_a, m_kept, m_turnsBy)
  else
    if (m_a 67) = 0 then
      ob (pX9_keeps m_a m_kept m_keptMany) (fun z2 =>
      if x1 = 0 then
        ob (pX9_possibleNow (upd m_a 67 ((2 : Int32))) m_turnsBy) (fun z3 =>
        some (z3.1, z2.1, (0 : Int32), (upd m_a 67 ((2 : Int32))), z2.2, z3.2))
      else
        ob (pX9_possibleNow (upd m_a 67 ((1 : Int32))) m_turnsBy) (fun z4 =>
        some (z4.1, z2.1, (0 : Int32), (upd m_a 67 ((1 : Int32))), z2.2, z4.2)))
    else
      some ((0 : Int32), m_keptMany, (1 : Int32), m_a, m_kept, m_turnsBy))
/-! TelescopeNightModel.goesOn(I)V -/
def pX9_goesOn (x1 : Int32) (m_a : Nat → Int32) : Option ((Nat → Int32)) :=
  if (((75 : Int32) + (m_a 65)) < 0 ∨ 99 ≤ (((75 : Int32) + (m_a 65))).toNatClampNeg) then none else
  if (((87 : Int32) + ((upd m_a ((((75 : Int32) + (m_a 65))).toNatClampNeg) x1) 65)) < 0 ∨ 99 ≤ (((87 : Int32) + ((upd m_a ((((75 : Int32) + (m_a 65))).toNatClampNeg) x1) 65))).toNatClampNeg) then none else
  some (upd (upd (upd (upd m_a ((((75 : Int32) + (m_a 65))).toNatClampNeg) x1) ((((87 : Int32) + ((upd m_a ((((75 : Int32) + (m_a 65))).toNatClampNeg) x1) 65))).toNatClampNeg) (((upd m_a ((((75 : Int32) + (m_a 65))).toNatClampNeg) x1) 67))) 65 ((((upd (upd m_a ((((75 : Int32) + (m_a 65))).toNatClampNeg) x1) ((((87 : Int32) + ((upd m_a ((((75 : Int32) + (m_a 65))).toNatClampNeg) x1) 65))).toNatClampNeg) (((upd m_a ((((75 : Int32) + (m_a 65))).toNatClampNeg) x1) 67))) 65) + (1 : Int32)))) 67 ((0 : Int32)))
/-! TelescopeNightModel.exposeRefusal(I)I -/
def pX9_exposeRefusal (x1 : Int32) (m_a : Nat → Int32) (m_turnsBy : Nat → Int32) : Option (Int32 × (Nat → Int32)) :=
  ob (pX9_isTarget x1 m_a) (fun z1 =>
  if ¬ z1 = 0 then
    if ¬ (m_a 67) = (1 : Int32) then
      some ((2 : Int32), m_turnsBy)
    else
      ob (pX9_possibleNow m_a m_turnsBy) (fun z2 =>
      if ¬ ((z2.1 >>> (x1 &&& 31)) &&& (1 : Int32)) = 0 then
        some ((0 : Int32), z2.2)
      else
        some ((2 : Int32), z2.2))
  else
    some ((1 : Int32), m_turnsBy))
/-! TelescopeNightModel.expose(I)I -/
def pX9_expose (x1 : Int32) (m_a : Nat → Int32) (m_kept : Nat → Int32) (m_keptMany : Int32) (m_turnsBy : Nat → Int32) : Option (Int32 × Int32 × Int32 × (Nat → Int32) × (Nat → Int32) × (Nat → Int32)) :=
  ob (pX9_exposeRefusal x1 m_a m_turnsBy) (fun z1 =>
  if z1.1 ≤ 0 then
    ob (pX9_keeps m_a m_kept m_keptMany) (fun z2 =>
    if (((69 : Int32) + x1) < 0 ∨ 99 ≤ (((69 : Int32) + x1)).toNatClampNeg) then none else
    ob (pX9_ofTarget x1 (8 : Int32) (upd m_a ((((69 : Int32) + x1)).toNatClampNeg) (((m_a (((69 : Int32) + x1)).toNatClampNeg) + (1 : Int32))))) (fun z3 =>
    ob (pX9_goesOn x1 (upd (upd m_a ((((69 : Int32) + x1)).toNatClampNeg) (((m_a (((69 : Int32) + x1)).toNatClampNeg) + (1 : Int32)))) 66 ((((upd m_a ((((69 : Int32) + x1)).toNatClampNeg) (((m_a (((69 : Int32) + x1)).toNatClampNeg) + (1 : Int32)))) 66) + z3)))) (fun z4 =>
    some ((z4 66), z2.1, z1.1, z4, z2.2, z1.2))))
  else
    some ((0 : Int32), m_keptMany, z1.1, m_a, m_kept, z1.2))
/-! TelescopeNightModel.pass()I -/
def pX9_pass (m_a : Nat → Int32) (m_kept : Nat → Int32) (m_keptMany : Int32) : Option (Int32 × Int32 × Int32 × (Nat → Int32) × (Nat → Int32)) :=
  ob (pX9_isOver m_a) (fun z1 =>
  if z1 = 0 then
    ob (pX9_keeps m_a m_kept m_keptMany) (fun z2 =>
    ob (pX9_goesOn (-1 : Int32) m_a) (fun z3 =>
    some ((z3 65), z2.1, (0 : Int32), z3, z2.2)))
  else
    some ((0 : Int32), m_keptMany, (1 : Int32), m_a, m_kept))
/-! TelescopeNightModel.isTeam(I)Z -/
def pX9_isTeam (x0 : Int32) : Option (Int32) :=
  ob (pX9_isIn x0.toInt64 (0 : Int64) (3 : Int64)) (fun z1 =>
  if (z1 = 0 ∨ z1 = 1) then some z1 else none)
