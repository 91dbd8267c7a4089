noncomputable def f_Room_isBelow (p0 p1 : Int32) : Option (Int32) :=
  if p0 < 0 then (
    some 0)
  else
    if p1 ≤ p0 then (
      some 0)
    else
      some 1
noncomputable def f_Room_isTick (p0 : Int32) : Option (Int32) :=
  if p0 < 0 then (
    some 0)
  else
    if 9999 < p0 then (
      some 0)
    else
      some 1
noncomputable def f_Room_handIn (p0 p1 : Int32) : Option (Int32) :=
  nm (jush p0 p1) fun x1 =>
  some (x1 &&& 1)
noncomputable def f_Line_mainOf (p0 : Int32) : Option (Int32) :=
  some (1 + (2 * p0))
noncomputable def f_Line_graceOf (p0 : Int32) : Option (Int32) :=
  some (2 + (2 * p0))
noncomputable def f_Line_noteOf (p0 : Int32) : Option (Int32) :=
  nm ((p0 - 1) / 2) fun x1 =>
  some x1
noncomputable def f_Line_latestTick (Line_ticks : Nat → Int32) (Line_count : Int32) : Option (Int32) :=
  if Line_count = 0 then (
    some (-1))
  else
    rd 20 Line_ticks (Line_count - 1) fun x2 =>
    some x2
noncomputable def f_Line_removeLatest (Line_count : Int32) : Option (Int32) :=
  if Line_count ≤ 0 then (
    some Line_count)
  else
    nm (Line_count - 1) fun x2 =>
    some x2
noncomputable def f_Line_countMarks_4_b (Line_marks : Nat → Int32) (Line_count : Int32)  (K4 : Int32 → Int32 → Option (Int32)) (l1 l2 : Int32) : Option (Int32) :=
  if Line_count ≤ l2 then (
    some l1)
  else
    rd 20 Line_marks l2 fun x2 =>
    if x2 = (-1) then (
      nm (l2 + 1) fun x4 =>
      K4 l1 x4)
    else
      nm (l1 + 1) fun x5 =>
      nm (l2 + 1) fun x6 =>
      K4 x5 x6
noncomputable def f_Line_countMarks_4 (Line_marks : Nat → Int32) (Line_count : Int32)  : Nat → Int32 → Int32 → Option (Int32)
  | 0 => fun _ _ => none
  | n + 1 => fun l1 l2 => f_Line_countMarks_4_b Line_marks Line_count  (f_Line_countMarks_4 Line_marks Line_count  n) l1 l2
noncomputable def f_Line_countMarks (Line_marks : Nat → Int32) (Line_count : Int32) : Option (Int32) :=
  f_Line_countMarks_4 Line_marks Line_count fu 0 0
noncomputable def f_Line_isOfKind (Line_kinds : Nat → Int32) (p1 p2 : Int32) : Option (Int32) :=
  rd 20 Line_kinds p1 fun x1 =>
  if p2 = x1 then (
    some 1)
  else
    if p2 = 0 then (
      some 1)
    else
      if p2 = 2 then (
        if x1 = 3 then (
          some 1)
        else
          some 0)
      else
        some 0
noncomputable def f_Line_graces (Line_kinds : Nat → Int32) (p1 : Int32) : Option (Int32) :=
  rd 20 Line_kinds p1 fun x1 =>
  rd 4 sT1 x1 fun x2 =>
  some x2
noncomputable def f_Line_firstGraceTick (Line_kinds Line_ticks : Nat → Int32) (p1 : Int32) : Option (Int32) :=
  rd 20 Line_ticks p1 fun x1 =>
  rd 20 Line_kinds p1 fun x2 =>
  rd 4 sT1 x2 fun x3 =>
  some (x1 - (4 * x3))
noncomputable def f_Line_mayBeBy (Line_marks : Nat → Int32) (p1 p2 : Int32) : Option (Int32) :=
  rd 20 Line_marks p1 fun x1 =>
  if x1 = (-1) then (
    some 1)
  else
    rd 20 Line_marks p1 fun x3 =>
    if x3 = p2 then (
      some 1)
    else
      some 0
noncomputable def f_Rules_mayBecome (p1 p2 : Int32) : Option (Int32) :=
  b1 (f_Room_isBelow p1 5) fun r1 =>
  if r1 = 0 then (
    some 0)
  else
    if p2 < 0 then (
      some 0)
    else
      rd 5 sT2 p1 fun x5 =>
      if x5 < p2 then (
        some 0)
      else
        some 1
noncomputable def f_Line_hasNote (Line_count p1 : Int32) : Option (Int32) :=
  b1 (f_Room_isBelow p1 Line_count) fun r1 =>
  zb r1 <| some r1
noncomputable def f_Line_append (Line_kinds Line_ticks Line_drums Line_marks Line_strokeTicks Line_strokeHeights : Nat → Int32) (Line_count p1 p2 p3 p4 : Int32) : Option ((Nat → Int32) × (Nat → Int32) × (Nat → Int32) × (Nat → Int32) × (Nat → Int32) × (Nat → Int32) × Int32) :=
  if Line_count < 20 then (
    ck 20 Line_count <|
    ck 20 Line_count <|
    ck 20 Line_count <|
    ck 20 Line_count <|
    b1 (f_Line_mainOf Line_count) fun r6 =>
    ck 41 r6 <|
    b1 (f_Line_graceOf Line_count) fun r9 =>
    nm (p2 - 4) fun x11 =>
    ck 41 r9 <|
    b1 (f_Line_mainOf Line_count) fun r13 =>
    rd 4 sT0 p1 fun x15 =>
    ck 41 r13 <|
    b1 (f_Line_graceOf Line_count) fun r17 =>
    ck 41 r17 <|
    nm (Line_count + 1) fun x20 =>
    some ((upd Line_kinds Line_count.toNatClampNeg p1), (upd Line_ticks Line_count.toNatClampNeg p2), (upd Line_drums Line_count.toNatClampNeg p3), (upd Line_marks Line_count.toNatClampNeg p4), (upd (upd Line_strokeTicks r6.toNatClampNeg p2) r9.toNatClampNeg x11), (upd (upd Line_strokeHeights r13.toNatClampNeg x15) r17.toNatClampNeg 1), x20))
  else
    some (Line_kinds, Line_ticks, Line_drums, Line_marks, Line_strokeTicks, Line_strokeHeights, Line_count)
noncomputable def f_Rules_change (Rules_values : Nat → Int32) (p1 p2 : Int32) : Option ((Nat → Int32)) :=
  b1 (f_Rules_mayBecome p1 p2) fun r1 =>
  if r1 = 0 then (
    some Rules_values)
  else
    ck 5 p1 <|
    some (upd Rules_values p1.toNatClampNeg p2)
noncomputable def f_Line_setMark (Line_marks : Nat → Int32) (Line_count p1 p2 : Int32) : Option ((Nat → Int32)) :=
  b1 (f_Line_hasNote Line_count p1) fun r1 =>
  if r1 = 0 then (
    some Line_marks)
  else
    ck 20 p1 <|
    some (upd Line_marks p1.toNatClampNeg p2)
noncomputable def f_Arms_strokeOf (Arms_left Arms_right p1 : Int32) : Option (Int32) :=
  if p1 = 0 then (
    some Arms_left)
  else
    some Arms_right
noncomputable def f_Arms_hold_10   (l1 l2 l3 k1 Arms_left Arms_right : Int32) : Option (Int32 × Int32) :=
  if l1 = 0 then (
    some (k1, l3))
  else
    some (k1, l2)
noncomputable def f_Arms_hold (Arms_left Arms_right p1 p2 p3 : Int32) : Option (Int32 × Int32) :=
  if p1 = 0 then (
    f_Arms_hold_10 p1 p2 p3 p2 Arms_left Arms_right)
  else
    f_Arms_hold_10 p1 p2 p3 p3 Arms_left Arms_right
noncomputable def f_Arms_isInTime (Line_strokeTicks Line_strokeHeights Rules_values : Nat → Int32) (p1 p2 p3 : Int32) : Option (Int32) :=
  if p1 = 0 then (
    some 1)
  else
    rd 5 Rules_values 1 fun x2 =>
    rd 41 Line_strokeHeights p1 fun x3 =>
    nm (jabs (p3 - x3)) fun x4 =>
    nm (x2 * x4) fun x5 =>
    rd 41 Line_strokeTicks p1 fun x6 =>
    rd 5 Rules_values 0 fun x7 =>
    nm (jmax x7 x5) fun x8 =>
    if (p2 - x6) < x8 then (
      some 0)
    else
      some 1
noncomputable def f_Arms_strike (Arms_left Arms_right : Int32) (Line_kinds Line_ticks Line_marks Line_strokeTicks Line_strokeHeights Rules_values : Nat → Int32) (p1 p2 : Int32) : Option (Int32 × Int32 × Int32) :=
  b1 (f_Line_mainOf p1) fun r1 =>
  b1 (f_Arms_strokeOf Arms_left Arms_right (1 - p2)) fun r3 =>
  b1 (f_Line_mayBeBy Line_marks p1 p2) fun r5 =>
  if r5 = 0 then (
    some (0, Arms_left, Arms_right))
  else
    b1 (f_Arms_strokeOf Arms_left Arms_right p2) fun r8 =>
    rd 20 Line_ticks p1 fun x10 =>
    rd 41 Line_strokeHeights r1 fun x11 =>
    b1 (f_Arms_isInTime Line_strokeTicks Line_strokeHeights Rules_values r8 x10 x11) fun r12 =>
    if r12 = 0 then (
      some (0, Arms_left, Arms_right))
    else
      b1 (f_Line_graces Line_kinds p1) fun r15 =>
      if r15 = 0 then (
        b2 (f_Arms_hold Arms_left Arms_right p2 r1 r3) fun y28 y29 =>
        some (1, y28, y29))
      else
        b1 (f_Line_firstGraceTick Line_kinds Line_ticks p1) fun r18 =>
        b1 (f_Arms_isInTime Line_strokeTicks Line_strokeHeights Rules_values r3 r18 1) fun r20 =>
        if r20 = 0 then (
          some (0, Arms_left, Arms_right))
        else
          b1 (f_Line_graceOf p1) fun r23 =>
          b2 (f_Arms_hold Arms_left Arms_right p2 r1 r23) fun y25 y26 =>
          some (1, y25, y26)
noncomputable def f_Arms_areCrossed (Arms_left Arms_right : Int32) (Line_drums : Nat → Int32) : Option (Int32) :=
  if Arms_left = 0 then (
    some 0)
  else
    if Arms_right = 0 then (
      some 0)
    else
      b1 (f_Line_noteOf Arms_right) fun r3 =>
      rd 20 Line_drums r3 fun x5 =>
      b1 (f_Line_noteOf Arms_left) fun r6 =>
      rd 20 Line_drums r6 fun x8 =>
      if x8 ≤ x5 then (
        some 0)
      else
        some 1
noncomputable def f_Arms_awkwardness_85 (Arms_left Arms_right : Int32) (Line_kinds Line_ticks Line_drums Rules_values : Nat → Int32)  (l1 l4 : Int32) : Option (Int32) :=
  b1 (f_Line_graces Line_kinds l1) fun r1 =>
  if r1 ≤ 0 then (
    some l4)
  else
    b1 (f_Line_graces Line_kinds (l1 - 1)) fun r4 =>
    if r4 ≤ 0 then (
      some l4)
    else
      nm (l4 + 3) fun x7 =>
      some x7
noncomputable def f_Arms_awkwardness_34 (Arms_left Arms_right : Int32) (Line_kinds Line_ticks Line_drums Rules_values : Nat → Int32)  (l1 l2 l3 l4 : Int32) : Option (Int32) :=
  if l1 = 0 then (
    some l4)
  else
    if l2 = l3 then (
      nm (l4 + 2) fun x10 =>
      rd 20 Line_ticks l1 fun x11 =>
      rd 20 Line_ticks (l1 - 1) fun x12 =>
      rd 5 Rules_values 3 fun x13 =>
      if x13 ≤ (x11 - x12) then (
        f_Arms_awkwardness_85 Arms_left Arms_right Line_kinds Line_ticks Line_drums Rules_values l1 x10)
      else
        nm (x10 + 1) fun x15 =>
        f_Arms_awkwardness_85 Arms_left Arms_right Line_kinds Line_ticks Line_drums Rules_values l1 x15)
    else
      some l4
noncomputable def f_Arms_awkwardness_12 (Arms_left Arms_right : Int32) (Line_kinds Line_ticks Line_drums Rules_values : Nat → Int32)  (l1 l2 l3 k0 : Int32) : Option (Int32) :=
  rd 20 Line_kinds l1 fun x16 =>
  if x16 = 1 then (
    if l2 = 0 then (
      nm (k0 + 1) fun x19 =>
      f_Arms_awkwardness_34 Arms_left Arms_right Line_kinds Line_ticks Line_drums Rules_values l1 l2 l3 x19)
    else
      f_Arms_awkwardness_34 Arms_left Arms_right Line_kinds Line_ticks Line_drums Rules_values l1 l2 l3 k0)
  else
    f_Arms_awkwardness_34 Arms_left Arms_right Line_kinds Line_ticks Line_drums Rules_values l1 l2 l3 k0
noncomputable def f_Arms_awkwardness (Arms_left Arms_right : Int32) (Line_kinds Line_ticks Line_drums Rules_values : Nat → Int32) (p1 p2 p3 : Int32) : Option (Int32) :=
  b1 (f_Arms_areCrossed Arms_left Arms_right Line_drums) fun r20 =>
  if r20 = 0 then (
    f_Arms_awkwardness_12 Arms_left Arms_right Line_kinds Line_ticks Line_drums Rules_values p1 p2 p3 0)
  else
    f_Arms_awkwardness_12 Arms_left Arms_right Line_kinds Line_ticks Line_drums Rules_values p1 p2 p3 2
noncomputable def f_End_keyOf (p0 p1 p2 : Int32) : Option (Int32) :=
  some ((((p0 * 41) + p1) * 5) + p2)
noncomputable def f_End_handOf (p0 : Int32) : Option (Int32) :=
  nm (p0 / 5) fun x1 =>
  nm (x1 / 41) fun x2 =>
  some x2
noncomputable def f_End_otherStrokeOf (p0 : Int32) : Option (Int32) :=
  nm (p0 / 5) fun x1 =>
  nm (jrem x1 41) fun x2 =>
  some x2
noncomputable def f_End_crossesOf (p0 : Int32) : Option (Int32) :=
  nm (jrem p0 5) fun x1 =>
  some x1
noncomputable def f_End_clear_2_b (End_keys : Nat → Int32)  (K2 : Int32 → (Nat → Int32) → Int32 → Option ((Nat → Int32) × Int32)) (l1 : Int32) (End_wayCounts : Nat → Int32) (End_size : Int32) : Option ((Nat → Int32) × Int32) :=
  if End_size ≤ l1 then (
    some (End_wayCounts, 0))
  else
    rd 410 End_keys l1 fun x2 =>
    ck 410 x2 <|
    nm (l1 + 1) fun x4 =>
    K2 x4 (upd End_wayCounts x2.toNatClampNeg 0) End_size
noncomputable def f_End_clear_2 (End_keys : Nat → Int32)  : Nat → Int32 → (Nat → Int32) → Int32 → Option ((Nat → Int32) × Int32)
  | 0 => fun _ _ _ => none
  | n + 1 => fun l1 End_wayCounts End_size => f_End_clear_2_b End_keys  (f_End_clear_2 End_keys  n) l1 End_wayCounts End_size
noncomputable def f_End_clear (End_keys End_wayCounts : Nat → Int32) (End_size : Int32) : Option ((Nat → Int32) × Int32) :=
  f_End_clear_2 End_keys fu 0 End_wayCounts End_size
noncomputable def f_End_offer_102   (l1 l2 l3 l4 : Int32) (End_keys End_prices End_firsts End_wayCounts : Nat → Int32) (End_size : Int32) : Option ((Nat → Int32) × (Nat → Int32) × (Nat → Int32) × (Nat → Int32) × Int32) :=
  ck 410 l1 <|
  ck 410 l1 <|
  ck 410 l1 <|
  some (End_keys, (upd End_prices l1.toNatClampNeg l2), (upd End_firsts l1.toNatClampNeg l3), (upd End_wayCounts l1.toNatClampNeg l4), End_size)
noncomputable def f_End_offer_53   (l1 l2 l3 l4 : Int32) (End_keys End_prices End_firsts End_wayCounts : Nat → Int32) (End_size : Int32) : Option ((Nat → Int32) × (Nat → Int32) × (Nat → Int32) × (Nat → Int32) × Int32) :=
  rd 410 End_prices l1 fun x4 =>
  if l2 ≤ x4 then (
    rd 410 End_prices l1 fun x6 =>
    if l2 = x6 then (
      rd 410 End_firsts l1 fun x8 =>
      nm (jmin l3 x8) fun x9 =>
      ck 410 l1 <|
      rd 410 End_wayCounts l1 fun x11 =>
      nm (x11 + l4) fun x12 =>
      ck 410 l1 <|
      some (End_keys, End_prices, (upd End_firsts l1.toNatClampNeg x9), (upd End_wayCounts l1.toNatClampNeg x12), End_size))
    else
      f_End_offer_102 l1 l2 l3 l4 End_keys End_prices End_firsts End_wayCounts End_size)
  else
    some (End_keys, End_prices, End_firsts, End_wayCounts, End_size)
noncomputable def f_End_offer (End_keys End_prices End_firsts End_wayCounts : Nat → Int32) (End_size p1 p2 p3 p4 : Int32) : Option ((Nat → Int32) × (Nat → Int32) × (Nat → Int32) × (Nat → Int32) × Int32) :=
  b1 (f_Room_isBelow p1 410) fun r14 =>
  if r14 = 0 then (
    some (End_keys, End_prices, End_firsts, End_wayCounts, End_size))
  else
    rd 410 End_wayCounts p1 fun x17 =>
    if x17 = 0 then (
      if 410 ≤ End_size then (
        f_End_offer_53 p1 p2 p3 p4 End_keys End_prices End_firsts End_wayCounts End_size)
      else
        ck 410 End_size <|
        nm (End_size + 1) fun x21 =>
        f_End_offer_102 p1 p2 p3 p4 (upd End_keys End_size.toNatClampNeg p1) End_prices End_firsts End_wayCounts x21)
    else
      f_End_offer_53 p1 p2 p3 p4 End_keys End_prices End_firsts End_wayCounts End_size
noncomputable def f_Hands_forget (Hands_isKnown : Int32) : Option (Int32) :=
  some 0
noncomputable def f_Hands_withNoteZeroLowest_4_b (Line_count : Int32)  (K4 : Int32 → Int32 → Int32 → Option (Int32)) (l1 l2 l3 : Int32) : Option (Int32) :=
  if Line_count ≤ l3 then (
    some l2)
  else
    nm (jush l1 ((Line_count - 1) - l3)) fun x2 =>
    nm (jshl (x2 &&& 1) l3) fun x3 =>
    nm (l2 ||| x3) fun x4 =>
    nm (l3 + 1) fun x5 =>
    K4 l1 x4 x5
noncomputable def f_Hands_withNoteZeroLowest_4 (Line_count : Int32)  : Nat → Int32 → Int32 → Int32 → Option (Int32)
  | 0 => fun _ _ _ => none
  | n + 1 => fun l1 l2 l3 => f_Hands_withNoteZeroLowest_4_b Line_count  (f_Hands_withNoteZeroLowest_4 Line_count  n) l1 l2 l3
noncomputable def f_Hands_withNoteZeroLowest (Line_count p1 : Int32) : Option (Int32) :=
  f_Hands_withNoteZeroLowest_4 Line_count fu p1 0 0
noncomputable def f_Hands_chooseBest_57 (EndA_keys EndA_prices EndA_firsts EndA_wayCounts : Nat → Int32) (EndA_size Line_count : Int32) (K9 : Int32 → Int32 → Int32 → Int32 → Int32 → Option (Int32 × Int32 × Int32)) (l2 l3 l4 Hands_leastPrice Hands_best Hands_bestWays : Int32) : Option (Int32 × Int32 × Int32) :=
  rd 410 EndA_firsts l3 fun x1 =>
  rd 410 EndA_wayCounts l3 fun x2 =>
  nm (l2 + 1) fun x3 =>
  K9 x1 x3 l4 Hands_best x2
noncomputable def f_Hands_chooseBest_9_b (EndA_keys EndA_prices EndA_firsts EndA_wayCounts : Nat → Int32) (EndA_size Line_count : Int32)  (K9 : Int32 → Int32 → Int32 → Int32 → Int32 → Option (Int32 × Int32 × Int32)) (l1 l2 Hands_leastPrice Hands_best Hands_bestWays : Int32) : Option (Int32 × Int32 × Int32) :=
  if EndA_size ≤ l2 then (
    b1 (f_Hands_withNoteZeroLowest Line_count l1) fun r5 =>
    some (Hands_leastPrice, r5, Hands_bestWays))
  else
    rd 410 EndA_keys l2 fun x7 =>
    rd 410 EndA_prices x7 fun x8 =>
    if Hands_bestWays = 0 then (
      f_Hands_chooseBest_57 EndA_keys EndA_prices EndA_firsts EndA_wayCounts EndA_size Line_count K9 l2 x7 x8 Hands_leastPrice Hands_best Hands_bestWays)
    else
      if Hands_leastPrice ≤ x8 then (
        if x8 = Hands_leastPrice then (
          rd 410 EndA_firsts x7 fun x13 =>
          nm (jmin l1 x13) fun x14 =>
          rd 410 EndA_wayCounts x7 fun x15 =>
          nm (Hands_bestWays + x15) fun x16 =>
          nm (l2 + 1) fun x17 =>
          K9 x14 x17 Hands_leastPrice Hands_best x16)
        else
          nm (l2 + 1) fun x12 =>
          K9 l1 x12 Hands_leastPrice Hands_best Hands_bestWays)
      else
        f_Hands_chooseBest_57 EndA_keys EndA_prices EndA_firsts EndA_wayCounts EndA_size Line_count K9 l2 x7 x8 Hands_leastPrice Hands_best Hands_bestWays
noncomputable def f_Hands_chooseBest_9 (EndA_keys EndA_prices EndA_firsts EndA_wayCounts : Nat → Int32) (EndA_size Line_count : Int32)  : Nat → Int32 → Int32 → Int32 → Int32 → Int32 → Option (Int32 × Int32 × Int32)
  | 0 => fun _ _ _ _ _ => none
  | n + 1 => fun l1 l2 Hands_leastPrice Hands_best Hands_bestWays => f_Hands_chooseBest_9_b EndA_keys EndA_prices EndA_firsts EndA_wayCounts EndA_size Line_count  (f_Hands_chooseBest_9 EndA_keys EndA_prices EndA_firsts EndA_wayCounts EndA_size Line_count  n) l1 l2 Hands_leastPrice Hands_best Hands_bestWays
noncomputable def f_Hands_chooseBest (Hands_leastPrice Hands_best Hands_bestWays : Int32) (EndA_keys EndA_prices EndA_firsts EndA_wayCounts : Nat → Int32) (EndA_size Line_count : Int32) : Option (Int32 × Int32 × Int32) :=
  f_Hands_chooseBest_9 EndA_keys EndA_prices EndA_firsts EndA_wayCounts EndA_size Line_count fu 0 0 Hands_leastPrice Hands_best 0
noncomputable def f_Hands_extend_69 (EndA_prices EndA_firsts EndA_wayCounts Line_kinds Line_ticks Line_drums Line_marks Line_strokeTicks Line_strokeHeights Rules_values : Nat → Int32)  (l1 l2 l3 l4 k0 k1 Arms_left Arms_right : Int32) (EndB_keys EndB_prices EndB_firsts EndB_wayCounts : Nat → Int32) (EndB_size : Int32) : Option (Int32 × Int32 × (Nat → Int32) × (Nat → Int32) × (Nat → Int32) × (Nat → Int32) × Int32) :=
  nm (k0 + k1) fun x1 =>
  rd 5 Rules_values 2 fun x2 =>
  if x1 ≤ x2 then (
    rd 410 EndA_prices l2 fun x4 =>
    b1 (f_Arms_awkwardness Arms_left Arms_right Line_kinds Line_ticks Line_drums Rules_values l1 l3 l4) fun r5 =>
    nm (x4 + r5) fun x7 =>
    b1 (f_Arms_strokeOf Arms_left Arms_right (1 - l3)) fun r8 =>
    b1 (f_End_keyOf l3 r8 x1) fun r10 =>
    rd 410 EndA_firsts l2 fun x12 =>
    rd 410 EndA_wayCounts l2 fun x13 =>
    b5 (f_End_offer EndB_keys EndB_prices EndB_firsts EndB_wayCounts EndB_size r10 x7 ((x12 * 2) + l3) x13) fun y14 y15 y16 y17 y18 =>
    some (Arms_left, Arms_right, y14, y15, y16, y17, y18))
  else
    some (Arms_left, Arms_right, EndB_keys, EndB_prices, EndB_firsts, EndB_wayCounts, EndB_size)
noncomputable def f_Hands_extend_20 (EndA_prices EndA_firsts EndA_wayCounts Line_kinds Line_ticks Line_drums Line_marks Line_strokeTicks Line_strokeHeights Rules_values : Nat → Int32)  (l1 l2 l3 l4 k0 Arms_left Arms_right : Int32) (EndB_keys EndB_prices EndB_firsts EndB_wayCounts : Nat → Int32) (EndB_size : Int32) : Option (Int32 × Int32 × (Nat → Int32) × (Nat → Int32) × (Nat → Int32) × (Nat → Int32) × Int32) :=
  b1 (f_End_otherStrokeOf l2) fun r20 =>
  b2 (f_Arms_hold Arms_left Arms_right l4 k0 r20) fun y22 y23 =>
  b3 (f_Arms_strike y22 y23 Line_kinds Line_ticks Line_marks Line_strokeTicks Line_strokeHeights Rules_values l1 l3) fun r25 y26 y27 =>
  if r25 = 0 then (
    some (y26, y27, EndB_keys, EndB_prices, EndB_firsts, EndB_wayCounts, EndB_size))
  else
    b1 (f_End_crossesOf l2) fun r30 =>
    b1 (f_Arms_areCrossed y26 y27 Line_drums) fun r32 =>
    if r32 = 0 then (
      f_Hands_extend_69 EndA_prices EndA_firsts EndA_wayCounts Line_kinds Line_ticks Line_drums Line_marks Line_strokeTicks Line_strokeHeights Rules_values l1 l2 l3 l4 r30 0 y26 y27 EndB_keys EndB_prices EndB_firsts EndB_wayCounts EndB_size)
    else
      f_Hands_extend_69 EndA_prices EndA_firsts EndA_wayCounts Line_kinds Line_ticks Line_drums Line_marks Line_strokeTicks Line_strokeHeights Rules_values l1 l2 l3 l4 r30 1 y26 y27 EndB_keys EndB_prices EndB_firsts EndB_wayCounts EndB_size
noncomputable def f_Hands_extend (Arms_left Arms_right : Int32) (EndA_prices EndA_firsts EndA_wayCounts EndB_keys EndB_prices EndB_firsts EndB_wayCounts : Nat → Int32) (EndB_size : Int32) (Line_kinds Line_ticks Line_drums Line_marks Line_strokeTicks Line_strokeHeights Rules_values : Nat → Int32) (p1 p2 p3 : Int32) : Option (Int32 × Int32 × (Nat → Int32) × (Nat → Int32) × (Nat → Int32) × (Nat → Int32) × Int32) :=
  b1 (f_End_handOf p2) fun r35 =>
  if p1 = 0 then (
    f_Hands_extend_20 EndA_prices EndA_firsts EndA_wayCounts Line_kinds Line_ticks Line_drums Line_marks Line_strokeTicks Line_strokeHeights Rules_values p1 p2 p3 r35 0 Arms_left Arms_right EndB_keys EndB_prices EndB_firsts EndB_wayCounts EndB_size)
  else
    b1 (f_Line_mainOf (p1 - 1)) fun r38 =>
    f_Hands_extend_20 EndA_prices EndA_firsts EndA_wayCounts Line_kinds Line_ticks Line_drums Line_marks Line_strokeTicks Line_strokeHeights Rules_values p1 p2 p3 r35 r38 Arms_left Arms_right EndB_keys EndB_prices EndB_firsts EndB_wayCounts EndB_size
noncomputable def f_Hands_walk_115 (Line_kinds Line_ticks Line_drums Line_marks Line_strokeTicks Line_strokeHeights : Nat → Int32) (Line_count : Int32) (Rules_values : Nat → Int32)  (l3 Hands_walkPrice Arms_left Arms_right : Int32) : Option (Int32 × Int32 × Int32 × Int32) :=
  rd 5 Rules_values 2 fun x1 =>
  if x1 < l3 then (
    some (0, Hands_walkPrice, Arms_left, Arms_right))
  else
    some (1, Hands_walkPrice, Arms_left, Arms_right)
noncomputable def f_Hands_walk_81 (Line_kinds Line_ticks Line_drums Line_marks Line_strokeTicks Line_strokeHeights : Nat → Int32) (Line_count : Int32) (Rules_values : Nat → Int32) (K23 : Int32 → Int32 → Int32 → Int32 → Int32 → Int32 → Int32 → Int32 → Option (Int32 × Int32 × Int32 × Int32)) (l1 l2 l4 l5 l6 k0 k1 Hands_walkPrice Arms_left Arms_right : Int32) : Option (Int32 × Int32 × Int32 × Int32) :=
  nm (k0 + k1) fun x3 =>
  b1 (f_Arms_awkwardness Arms_left Arms_right Line_kinds Line_ticks Line_drums Rules_values l5 l6 l4) fun r4 =>
  nm (Hands_walkPrice + r4) fun x6 =>
  nm (l5 + 1) fun x7 =>
  K23 l1 l2 x3 l6 x7 x6 Arms_left Arms_right
noncomputable def f_Hands_walk_23_b (Line_kinds Line_ticks Line_drums Line_marks Line_strokeTicks Line_strokeHeights : Nat → Int32) (Line_count : Int32) (Rules_values : Nat → Int32)  (K23 : Int32 → Int32 → Int32 → Int32 → Int32 → Int32 → Int32 → Int32 → Option (Int32 × Int32 × Int32 × Int32)) (l1 l2 l3 l4 l5 Hands_walkPrice Arms_left Arms_right : Int32) : Option (Int32 × Int32 × Int32 × Int32) :=
  if l2 < l5 then (
    f_Hands_walk_115 Line_kinds Line_ticks Line_drums Line_marks Line_strokeTicks Line_strokeHeights Line_count Rules_values l3 Hands_walkPrice Arms_left Arms_right)
  else
    if Line_count ≤ l5 then (
      f_Hands_walk_115 Line_kinds Line_ticks Line_drums Line_marks Line_strokeTicks Line_strokeHeights Line_count Rules_values l3 Hands_walkPrice Arms_left Arms_right)
    else
      b1 (f_Room_handIn l1 l5) fun r10 =>
      b3 (f_Arms_strike Arms_left Arms_right Line_kinds Line_ticks Line_marks Line_strokeTicks Line_strokeHeights Rules_values l5 r10) fun r12 y13 y14 =>
      if r12 = 0 then (
        some (0, Hands_walkPrice, y13, y14))
      else
        b1 (f_Arms_areCrossed y13 y14 Line_drums) fun r17 =>
        if r17 = 0 then (
          f_Hands_walk_81 Line_kinds Line_ticks Line_drums Line_marks Line_strokeTicks Line_strokeHeights Line_count Rules_values K23 l1 l2 l4 l5 r10 l3 0 Hands_walkPrice y13 y14)
        else
          f_Hands_walk_81 Line_kinds Line_ticks Line_drums Line_marks Line_strokeTicks Line_strokeHeights Line_count Rules_values K23 l1 l2 l4 l5 r10 l3 1 Hands_walkPrice y13 y14
noncomputable def f_Hands_walk_23 (Line_kinds Line_ticks Line_drums Line_marks Line_strokeTicks Line_strokeHeights : Nat → Int32) (Line_count : Int32) (Rules_values : Nat → Int32)  : Nat → Int32 → Int32 → Int32 → Int32 → Int32 → Int32 → Int32 → Int32 → Option (Int32 × Int32 × Int32 × Int32)
  | 0 => fun _ _ _ _ _ _ _ _ => none
  | n + 1 => fun l1 l2 l3 l4 l5 Hands_walkPrice Arms_left Arms_right => f_Hands_walk_23_b Line_kinds Line_ticks Line_drums Line_marks Line_strokeTicks Line_strokeHeights Line_count Rules_values  (f_Hands_walk_23 Line_kinds Line_ticks Line_drums Line_marks Line_strokeTicks Line_strokeHeights Line_count Rules_values  n) l1 l2 l3 l4 l5 Hands_walkPrice Arms_left Arms_right
noncomputable def f_Hands_walk (Hands_walkPrice Arms_left Arms_right : Int32) (Line_kinds Line_ticks Line_drums Line_marks Line_strokeTicks Line_strokeHeights : Nat → Int32) (Line_count : Int32) (Rules_values : Nat → Int32) (p1 p2 : Int32) : Option (Int32 × Int32 × Int32 × Int32) :=
  b2 (f_Arms_hold Arms_left Arms_right 0 0 0) fun y20 y21 =>
  f_Hands_walk_23 Line_kinds Line_ticks Line_drums Line_marks Line_strokeTicks Line_strokeHeights Line_count Rules_values fu p1 p2 0 (-1) 0 0 y20 y21
noncomputable def f_Hands_solve_50_b (Line_kinds Line_ticks Line_drums Line_marks Line_strokeTicks Line_strokeHeights : Nat → Int32) (Line_count : Int32) (Rules_values : Nat → Int32) (K30 : Int32 → Int32 → Int32 → Int32 → Int32 → Int32 → Int32 → (Nat → Int32) → (Nat → Int32) → (Nat → Int32) → (Nat → Int32) → Int32 → (Nat → Int32) → (Nat → Int32) → (Nat → Int32) → (Nat → Int32) → Int32 → Option (Int32 × Int32 × Int32 × Int32 × Int32 × Int32 × (Nat → Int32) × (Nat → Int32) × (Nat → Int32) × (Nat → Int32) × Int32 × (Nat → Int32) × (Nat → Int32) × (Nat → Int32) × (Nat → Int32) × Int32)) (K50 : Int32 → Int32 → Int32 → Int32 → Int32 → Int32 → Int32 → Int32 → (Nat → Int32) → (Nat → Int32) → (Nat → Int32) → (Nat → Int32) → Int32 → (Nat → Int32) → (Nat → Int32) → (Nat → Int32) → (Nat → Int32) → Int32 → Option (Int32 × Int32 × Int32 × Int32 × Int32 × Int32 × (Nat → Int32) × (Nat → Int32) × (Nat → Int32) × (Nat → Int32) × Int32 × (Nat → Int32) × (Nat → Int32) × (Nat → Int32) × (Nat → Int32) × Int32)) (l1 l2 Hands_leastPrice Hands_best Hands_bestWays Hands_stuckAt Arms_left Arms_right : Int32) (EndA_keys EndA_prices EndA_firsts EndA_wayCounts : Nat → Int32) (EndA_size : Int32) (EndB_keys EndB_prices EndB_firsts EndB_wayCounts : Nat → Int32) (EndB_size : Int32) : Option (Int32 × Int32 × Int32 × Int32 × Int32 × Int32 × (Nat → Int32) × (Nat → Int32) × (Nat → Int32) × (Nat → Int32) × Int32 × (Nat → Int32) × (Nat → Int32) × (Nat → Int32) × (Nat → Int32) × Int32) :=
  if EndA_size ≤ l2 then (
    if EndB_size = 0 then (
      some (Hands_leastPrice, Hands_best, Hands_bestWays, l1, Arms_left, Arms_right, EndA_keys, EndA_prices, EndA_firsts, EndA_wayCounts, EndA_size, EndB_keys, EndB_prices, EndB_firsts, EndB_wayCounts, EndB_size))
    else
      nm (l1 + 1) fun x3 =>
      K30 x3 Hands_leastPrice Hands_best Hands_bestWays Hands_stuckAt Arms_left Arms_right EndB_keys EndB_prices EndB_firsts EndB_wayCounts EndB_size EndA_keys EndA_prices EndA_firsts EndA_wayCounts EndA_size)
  else
    rd 410 EndA_keys l2 fun x4 =>
    b7 (f_Hands_extend Arms_left Arms_right EndA_prices EndA_firsts EndA_wayCounts EndB_keys EndB_prices EndB_firsts EndB_wayCounts EndB_size Line_kinds Line_ticks Line_drums Line_marks Line_strokeTicks Line_strokeHeights Rules_values l1 x4 0) fun y5 y6 y7 y8 y9 y10 y11 =>
    rd 410 EndA_keys l2 fun x13 =>
    b7 (f_Hands_extend y5 y6 EndA_prices EndA_firsts EndA_wayCounts y7 y8 y9 y10 y11 Line_kinds Line_ticks Line_drums Line_marks Line_strokeTicks Line_strokeHeights Rules_values l1 x13 1) fun y14 y15 y16 y17 y18 y19 y20 =>
    nm (l2 + 1) fun x22 =>
    K50 l1 x22 Hands_leastPrice Hands_best Hands_bestWays Hands_stuckAt y14 y15 EndA_keys EndA_prices EndA_firsts EndA_wayCounts EndA_size y16 y17 y18 y19 y20
noncomputable def f_Hands_solve_50 (Line_kinds Line_ticks Line_drums Line_marks Line_strokeTicks Line_strokeHeights : Nat → Int32) (Line_count : Int32) (Rules_values : Nat → Int32) (K30 : Int32 → Int32 → Int32 → Int32 → Int32 → Int32 → Int32 → (Nat → Int32) → (Nat → Int32) → (Nat → Int32) → (Nat → Int32) → Int32 → (Nat → Int32) → (Nat → Int32) → (Nat → Int32) → (Nat → Int32) → Int32 → Option (Int32 × Int32 × Int32 × Int32 × Int32 × Int32 × (Nat → Int32) × (Nat → Int32) × (Nat → Int32) × (Nat → Int32) × Int32 × (Nat → Int32) × (Nat → Int32) × (Nat → Int32) × (Nat → Int32) × Int32)) : Nat → Int32 → Int32 → Int32 → Int32 → Int32 → Int32 → Int32 → Int32 → (Nat → Int32) → (Nat → Int32) → (Nat → Int32) → (Nat → Int32) → Int32 → (Nat → Int32) → (Nat → Int32) → (Nat → Int32) → (Nat → Int32) → Int32 → Option (Int32 × Int32 × Int32 × Int32 × Int32 × Int32 × (Nat → Int32) × (Nat → Int32) × (Nat → Int32) × (Nat → Int32) × Int32 × (Nat → Int32) × (Nat → Int32) × (Nat → Int32) × (Nat → Int32) × Int32)
  | 0 => fun _ _ _ _ _ _ _ _ _ _ _ _ _ _ _ _ _ _ => none
  | n + 1 => fun l1 l2 Hands_leastPrice Hands_best Hands_bestWays Hands_stuckAt Arms_left Arms_right EndA_keys EndA_prices EndA_firsts EndA_wayCounts EndA_size EndB_keys EndB_prices EndB_firsts EndB_wayCounts EndB_size => f_Hands_solve_50_b Line_kinds Line_ticks Line_drums Line_marks Line_strokeTicks Line_strokeHeights Line_count Rules_values K30 (f_Hands_solve_50 Line_kinds Line_ticks Line_drums Line_marks Line_strokeTicks Line_strokeHeights Line_count Rules_values K30 n) l1 l2 Hands_leastPrice Hands_best Hands_bestWays Hands_stuckAt Arms_left Arms_right EndA_keys EndA_prices EndA_firsts EndA_wayCounts EndA_size EndB_keys EndB_prices EndB_firsts EndB_wayCounts EndB_size
noncomputable def f_Hands_solve_30_b (Line_kinds Line_ticks Line_drums Line_marks Line_strokeTicks Line_strokeHeights : Nat → Int32) (Line_count : Int32) (Rules_values : Nat → Int32)  (K30 : Int32 → Int32 → Int32 → Int32 → Int32 → Int32 → Int32 → (Nat → Int32) → (Nat → Int32) → (Nat → Int32) → (Nat → Int32) → Int32 → (Nat → Int32) → (Nat → Int32) → (Nat → Int32) → (Nat → Int32) → Int32 → Option (Int32 × Int32 × Int32 × Int32 × Int32 × Int32 × (Nat → Int32) × (Nat → Int32) × (Nat → Int32) × (Nat → Int32) × Int32 × (Nat → Int32) × (Nat → Int32) × (Nat → Int32) × (Nat → Int32) × Int32)) (l1 Hands_leastPrice Hands_best Hands_bestWays Hands_stuckAt Arms_left Arms_right : Int32) (EndA_keys EndA_prices EndA_firsts EndA_wayCounts : Nat → Int32) (EndA_size : Int32) (EndB_keys EndB_prices EndB_firsts EndB_wayCounts : Nat → Int32) (EndB_size : Int32) : Option (Int32 × Int32 × Int32 × Int32 × Int32 × Int32 × (Nat → Int32) × (Nat → Int32) × (Nat → Int32) × (Nat → Int32) × Int32 × (Nat → Int32) × (Nat → Int32) × (Nat → Int32) × (Nat → Int32) × Int32) :=
  if Line_count ≤ l1 then (
    b3 (f_Hands_chooseBest Hands_leastPrice Hands_best Hands_bestWays EndA_keys EndA_prices EndA_firsts EndA_wayCounts EndA_size Line_count) fun y24 y25 y26 =>
    some (y24, y25, y26, Hands_stuckAt, Arms_left, Arms_right, EndA_keys, EndA_prices, EndA_firsts, EndA_wayCounts, EndA_size, EndB_keys, EndB_prices, EndB_firsts, EndB_wayCounts, EndB_size))
  else
    b2 (f_End_clear EndB_keys EndB_wayCounts EndB_size) fun y28 y29 =>
    f_Hands_solve_50 Line_kinds Line_ticks Line_drums Line_marks Line_strokeTicks Line_strokeHeights Line_count Rules_values K30 fu l1 0 Hands_leastPrice Hands_best Hands_bestWays Hands_stuckAt Arms_left Arms_right EndA_keys EndA_prices EndA_firsts EndA_wayCounts EndA_size EndB_keys EndB_prices EndB_firsts y28 y29
noncomputable def f_Hands_solve_30 (Line_kinds Line_ticks Line_drums Line_marks Line_strokeTicks Line_strokeHeights : Nat → Int32) (Line_count : Int32) (Rules_values : Nat → Int32)  : Nat → Int32 → Int32 → Int32 → Int32 → Int32 → Int32 → Int32 → (Nat → Int32) → (Nat → Int32) → (Nat → Int32) → (Nat → Int32) → Int32 → (Nat → Int32) → (Nat → Int32) → (Nat → Int32) → (Nat → Int32) → Int32 → Option (Int32 × Int32 × Int32 × Int32 × Int32 × Int32 × (Nat → Int32) × (Nat → Int32) × (Nat → Int32) × (Nat → Int32) × Int32 × (Nat → Int32) × (Nat → Int32) × (Nat → Int32) × (Nat → Int32) × Int32)
  | 0 => fun _ _ _ _ _ _ _ _ _ _ _ _ _ _ _ _ _ => none
  | n + 1 => fun l1 Hands_leastPrice Hands_best Hands_bestWays Hands_stuckAt Arms_left Arms_right EndA_keys EndA_prices EndA_firsts EndA_wayCounts EndA_size EndB_keys EndB_prices EndB_firsts EndB_wayCounts EndB_size => f_Hands_solve_30_b Line_kinds Line_ticks Line_drums Line_marks Line_strokeTicks Line_strokeHeights Line_count Rules_values  (f_Hands_solve_30 Line_kinds Line_ticks Line_drums Line_marks Line_strokeTicks Line_strokeHeights Line_count Rules_values  n) l1 Hands_leastPrice Hands_best Hands_bestWays Hands_stuckAt Arms_left Arms_right EndA_keys EndA_prices EndA_firsts EndA_wayCounts EndA_size EndB_keys EndB_prices EndB_firsts EndB_wayCounts EndB_size
noncomputable def f_Hands_solve (Hands_leastPrice Hands_best Hands_bestWays Hands_stuckAt Arms_left Arms_right : Int32) (EndA_keys EndA_prices EndA_firsts EndA_wayCounts : Nat → Int32) (EndA_size : Int32) (EndB_keys EndB_prices EndB_firsts EndB_wayCounts : Nat → Int32) (EndB_size : Int32) (Line_kinds Line_ticks Line_drums Line_marks Line_strokeTicks Line_strokeHeights : Nat → Int32) (Line_count : Int32) (Rules_values : Nat → Int32) : Option (Int32 × Int32 × Int32 × Int32 × Int32 × Int32 × (Nat → Int32) × (Nat → Int32) × (Nat → Int32) × (Nat → Int32) × Int32 × (Nat → Int32) × (Nat → Int32) × (Nat → Int32) × (Nat → Int32) × Int32) :=
  b2 (f_End_clear EndA_keys EndA_wayCounts EndA_size) fun y31 y32 =>
  b1 (f_End_keyOf 0 0 0) fun r34 =>
  b5 (f_End_offer EndA_keys EndA_prices EndA_firsts y31 y32 r34 0 0 1) fun y36 y37 y38 y39 y40 =>
  f_Hands_solve_30 Line_kinds Line_ticks Line_drums Line_marks Line_strokeTicks Line_strokeHeights Line_count Rules_values fu 0 Hands_leastPrice Hands_best Hands_bestWays (-1) Arms_left Arms_right y36 y37 y38 y39 y40 EndB_keys EndB_prices EndB_firsts EndB_wayCounts EndB_size
noncomputable def f_Hands_exist (Hands_leastPrice Hands_best Hands_bestWays Hands_stuckAt Hands_isKnown Arms_left Arms_right : Int32) (EndA_keys EndA_prices EndA_firsts EndA_wayCounts : Nat → Int32) (EndA_size : Int32) (EndB_keys EndB_prices EndB_firsts EndB_wayCounts : Nat → Int32) (EndB_size : Int32) (Line_kinds Line_ticks Line_drums Line_marks Line_strokeTicks Line_strokeHeights : Nat → Int32) (Line_count : Int32) (Rules_values : Nat → Int32) : Option (Int32 × Int32 × Int32 × Int32 × Int32 × Int32 × Int32 × Int32 × (Nat → Int32) × (Nat → Int32) × (Nat → Int32) × (Nat → Int32) × Int32 × (Nat → Int32) × (Nat → Int32) × (Nat → Int32) × (Nat → Int32) × Int32) :=
  if Hands_isKnown = 0 then (
    b16 (f_Hands_solve Hands_leastPrice Hands_best Hands_bestWays Hands_stuckAt Arms_left Arms_right EndA_keys EndA_prices EndA_firsts EndA_wayCounts EndA_size EndB_keys EndB_prices EndB_firsts EndB_wayCounts EndB_size Line_kinds Line_ticks Line_drums Line_marks Line_strokeTicks Line_strokeHeights Line_count Rules_values) fun y3 y4 y5 y6 y7 y8 y9 y10 y11 y12 y13 y14 y15 y16 y17 y18 =>
    if 0 ≤ y6 then (
      some (0, y3, y4, y5, y6, 1, y7, y8, y9, y10, y11, y12, y13, y14, y15, y16, y17, y18))
    else
      some (1, y3, y4, y5, y6, 1, y7, y8, y9, y10, y11, y12, y13, y14, y15, y16, y17, y18))
  else
    if 0 ≤ Hands_stuckAt then (
      some (0, Hands_leastPrice, Hands_best, Hands_bestWays, Hands_stuckAt, Hands_isKnown, Arms_left, Arms_right, EndA_keys, EndA_prices, EndA_firsts, EndA_wayCounts, EndA_size, EndB_keys, EndB_prices, EndB_firsts, EndB_wayCounts, EndB_size))
    else
      some (1, Hands_leastPrice, Hands_best, Hands_bestWays, Hands_stuckAt, Hands_isKnown, Arms_left, Arms_right, EndA_keys, EndA_prices, EndA_firsts, EndA_wayCounts, EndA_size, EndB_keys, EndB_prices, EndB_firsts, EndB_wayCounts, EndB_size)
noncomputable def f_Basses_isThere (Basses_there p1 : Int32) : Option (Int32) :=
  nm (jush Basses_there p1) fun x1 =>
  if (x1 &&& 1) = 1 then (
    some 1)
  else
    some 0
noncomputable def f_Basses_change (Basses_there p1 p2 : Int32) : Option (Int32) :=
  if p2 = 0 then (
    nm (jshl 1 p1) fun x2 =>
    nm (Basses_there &&& (x2 ^^^ (-1))) fun x3 =>
    some x3)
  else
    nm (jshl 1 p1) fun x4 =>
    nm (Basses_there ||| x4) fun x5 =>
    some x5
noncomputable def f_Basses_written (p0 p1 : Int32) : Option (Int32) :=
  if p0 = 0 then (
    nm (jrem p1 5) fun x6 =>
    some x6)
  else
    if p0 = 1 then (
      nm (jrem p1 5) fun x5 =>
      some (4 - x5))
    else
      nm (jrem p1 8) fun x3 =>
      rd 8 sT3 x3 fun x4 =>
      some x4
noncomputable def f_Tapes_tickAt (Tapes_hits : Nat → Int32) (p1 p2 : Int32) : Option (Int32) :=
  rd 96 Tapes_hits ((p1 * 24) + p2) fun x1 =>
  some x1
noncomputable def f_Tapes_append (Tapes_counts Tapes_hits : Nat → Int32) (p1 p2 : Int32) : Option ((Nat → Int32) × (Nat → Int32)) :=
  rd 4 Tapes_counts p1 fun x1 =>
  if 24 ≤ x1 then (
    some (Tapes_counts, Tapes_hits))
  else
    rd 4 Tapes_counts p1 fun x3 =>
    ck 96 ((p1 * 24) + x3) <|
    rd 4 Tapes_counts p1 fun x5 =>
    nm (x5 + 1) fun x6 =>
    ck 4 p1 <|
    some ((upd Tapes_counts p1.toNatClampNeg x6), (upd Tapes_hits ((p1 * 24) + x3).toNatClampNeg p2))
noncomputable def f_Tapes_removeLatest (Tapes_counts : Nat → Int32) (p1 : Int32) : Option ((Nat → Int32)) :=
  rd 4 Tapes_counts p1 fun x1 =>
  if x1 ≤ 0 then (
    some Tapes_counts)
  else
    rd 4 Tapes_counts p1 fun x3 =>
    nm (x3 - 1) fun x4 =>
    ck 4 p1 <|
    some (upd Tapes_counts p1.toNatClampNeg x4)
noncomputable def f_Tapes_clear (Tapes_counts : Nat → Int32) (p1 : Int32) : Option ((Nat → Int32)) :=
  ck 4 p1 <|
  some (upd Tapes_counts p1.toNatClampNeg 0)
noncomputable def f_Tapes_countAll_4_b (Tapes_counts : Nat → Int32)  (K4 : Int32 → Int32 → Option (Int32)) (l1 l2 : Int32) : Option (Int32) :=
  if 4 ≤ l2 then (
    some l1)
  else
    rd 4 Tapes_counts l2 fun x2 =>
    nm (l1 + x2) fun x3 =>
    nm (l2 + 1) fun x4 =>
    K4 x3 x4
noncomputable def f_Tapes_countAll_4 (Tapes_counts : Nat → Int32)  : Nat → Int32 → Int32 → Option (Int32)
  | 0 => fun _ _ => none
  | n + 1 => fun l1 l2 => f_Tapes_countAll_4_b Tapes_counts  (f_Tapes_countAll_4 Tapes_counts  n) l1 l2
noncomputable def f_Tapes_countAll (Tapes_counts : Nat → Int32) : Option (Int32) :=
  f_Tapes_countAll_4 Tapes_counts fu 0 0
noncomputable def f_Basses_owner_37_b (Basses_there : Int32)  (K37 : Int32 → Int32 → Option (Int32)) (l3 l4 : Int32) : Option (Int32) :=
  if 5 ≤ l4 then (
    some l3)
  else
    b1 (f_Basses_isThere Basses_there l4) fun r2 =>
    if r2 = 0 then (
      nm (l4 + 1) fun x5 =>
      K37 l3 x5)
    else
      some l4
noncomputable def f_Basses_owner_37 (Basses_there : Int32)  : Nat → Int32 → Int32 → Option (Int32)
  | 0 => fun _ _ => none
  | n + 1 => fun l3 l4 => f_Basses_owner_37_b Basses_there  (f_Basses_owner_37 Basses_there  n) l3 l4
noncomputable def f_Basses_owner_9_b (Basses_there : Int32)  (K9 : Int32 → Int32 → Option (Int32)) (l3 l4 : Int32) : Option (Int32) :=
  if l4 < 0 then (
    nm (l3 + 1) fun x7 =>
    f_Basses_owner_37 Basses_there fu l3 x7)
  else
    b1 (f_Basses_isThere Basses_there l4) fun r8 =>
    if r8 = 0 then (
      nm (l4 + (-1)) fun x11 =>
      K9 l3 x11)
    else
      some l4
noncomputable def f_Basses_owner_9 (Basses_there : Int32)  : Nat → Int32 → Int32 → Option (Int32)
  | 0 => fun _ _ => none
  | n + 1 => fun l3 l4 => f_Basses_owner_9_b Basses_there  (f_Basses_owner_9 Basses_there  n) l3 l4
noncomputable def f_Basses_owner (Basses_there p1 p2 : Int32) : Option (Int32) :=
  b1 (f_Basses_written p1 p2) fun r12 =>
  f_Basses_owner_9 Basses_there fu r12 r12
noncomputable def f_Tapes_latestTick (Tapes_counts Tapes_hits : Nat → Int32) (p1 : Int32) : Option (Int32) :=
  rd 4 Tapes_counts p1 fun x1 =>
  if x1 = 0 then (
    some (-1))
  else
    rd 4 Tapes_counts p1 fun x3 =>
    b1 (f_Tapes_tickAt Tapes_hits p1 (x3 - 1)) fun r4 =>
    some r4
noncomputable def f_Basses_notesOf_6_b (Basses_there : Int32)  (K6 : Int32 → Int32 → Int32 → Int32 → Int32 → Int32 → Option (Int32)) (l1 l2 l3 l4 l5 l6 : Int32) : Option (Int32) :=
  if l3 < l6 then (
    some l5)
  else
    b1 (f_Basses_owner Basses_there l4 (l6 - l2)) fun r2 =>
    if r2 = l1 then (
      nm (l5 + 1) fun x6 =>
      nm (l6 + 1) fun x7 =>
      K6 l1 l2 l3 l4 x6 x7)
    else
      nm (l6 + 1) fun x5 =>
      K6 l1 l2 l3 l4 l5 x5
noncomputable def f_Basses_notesOf_6 (Basses_there : Int32)  : Nat → Int32 → Int32 → Int32 → Int32 → Int32 → Int32 → Option (Int32)
  | 0 => fun _ _ _ _ _ _ => none
  | n + 1 => fun l1 l2 l3 l4 l5 l6 => f_Basses_notesOf_6_b Basses_there  (f_Basses_notesOf_6 Basses_there  n) l1 l2 l3 l4 l5 l6
noncomputable def f_Basses_notesOf (Basses_there p1 p2 p3 p4 : Int32) : Option (Int32) :=
  f_Basses_notesOf_6 Basses_there fu p1 p2 p3 p4 0 p2
noncomputable def f_Basses_tooFast_95 (Line_ticks Rules_values : Nat → Int32) (Basses_there : Int32) (K29 : Int32 → Int32 → Int32 → Int32 → Int32 → (Nat → Int32) → Option (Int32 × (Nat → Int32))) (l1 l2 l3 l4 l5 l6 l7 : Int32) (Basses_latestTicks : Nat → Int32) : Option (Int32 × (Nat → Int32)) :=
  ck 5 l6 <|
  nm (l5 + 1) fun x2 =>
  K29 l1 l2 l3 l4 x2 (upd Basses_latestTicks l6.toNatClampNeg l7)
noncomputable def f_Basses_tooFast_29_b (Line_ticks Rules_values : Nat → Int32) (Basses_there : Int32)  (K29 : Int32 → Int32 → Int32 → Int32 → Int32 → (Nat → Int32) → Option (Int32 × (Nat → Int32))) (l1 l2 l3 l4 l5 : Int32) (Basses_latestTicks : Nat → Int32) : Option (Int32 × (Nat → Int32)) :=
  if l2 < l5 then (
    some (l4, Basses_latestTicks))
  else
    b1 (f_Basses_owner Basses_there l3 (l5 - l1)) fun r4 =>
    rd 20 Line_ticks l5 fun x6 =>
    rd 5 Basses_latestTicks r4 fun x7 =>
    if x7 = (-1) then (
      f_Basses_tooFast_95 Line_ticks Rules_values Basses_there K29 l1 l2 l3 l4 l5 r4 x6 Basses_latestTicks)
    else
      rd 5 Rules_values 0 fun x9 =>
      if (2 * x9) ≤ (x6 - x7) then (
        f_Basses_tooFast_95 Line_ticks Rules_values Basses_there K29 l1 l2 l3 l4 l5 r4 x6 Basses_latestTicks)
      else
        nm (l4 + 1) fun x11 =>
        f_Basses_tooFast_95 Line_ticks Rules_values Basses_there K29 l1 l2 l3 x11 l5 r4 x6 Basses_latestTicks
noncomputable def f_Basses_tooFast_29 (Line_ticks Rules_values : Nat → Int32) (Basses_there : Int32)  : Nat → Int32 → Int32 → Int32 → Int32 → Int32 → (Nat → Int32) → Option (Int32 × (Nat → Int32))
  | 0 => fun _ _ _ _ _ _ => none
  | n + 1 => fun l1 l2 l3 l4 l5 Basses_latestTicks => f_Basses_tooFast_29_b Line_ticks Rules_values Basses_there  (f_Basses_tooFast_29 Line_ticks Rules_values Basses_there  n) l1 l2 l3 l4 l5 Basses_latestTicks
noncomputable def f_Basses_tooFast_3_b (Line_ticks Rules_values : Nat → Int32) (Basses_there : Int32)  (K3 : Int32 → Int32 → Int32 → Int32 → (Nat → Int32) → Option (Int32 × (Nat → Int32))) (l1 l2 l3 l4 : Int32) (Basses_latestTicks : Nat → Int32) : Option (Int32 × (Nat → Int32)) :=
  if 5 ≤ l4 then (
    f_Basses_tooFast_29 Line_ticks Rules_values Basses_there fu l1 l2 l3 0 l1 Basses_latestTicks)
  else
    ck 5 l4 <|
    nm (l4 + 1) fun x14 =>
    K3 l1 l2 l3 x14 (upd Basses_latestTicks l4.toNatClampNeg (-1))
noncomputable def f_Basses_tooFast_3 (Line_ticks Rules_values : Nat → Int32) (Basses_there : Int32)  : Nat → Int32 → Int32 → Int32 → Int32 → (Nat → Int32) → Option (Int32 × (Nat → Int32))
  | 0 => fun _ _ _ _ _ => none
  | n + 1 => fun l1 l2 l3 l4 Basses_latestTicks => f_Basses_tooFast_3_b Line_ticks Rules_values Basses_there  (f_Basses_tooFast_3 Line_ticks Rules_values Basses_there  n) l1 l2 l3 l4 Basses_latestTicks
noncomputable def f_Basses_tooFast (Line_ticks Rules_values : Nat → Int32) (Basses_there : Int32) (Basses_latestTicks : Nat → Int32) (p1 p2 p3 : Int32) : Option (Int32 × (Nat → Int32)) :=
  f_Basses_tooFast_3 Line_ticks Rules_values Basses_there fu p1 p2 p3 0 Basses_latestTicks
noncomputable def f_Basses_slowestShape_14_b (Line_ticks Rules_values : Nat → Int32) (Basses_there : Int32)  (K14 : Int32 → Int32 → Int32 → Int32 → Int32 → (Nat → Int32) → Option (Int32 × (Nat → Int32))) (l1 l2 l3 l4 l5 : Int32) (Basses_latestTicks : Nat → Int32) : Option (Int32 × (Nat → Int32)) :=
  if 3 ≤ l5 then (
    some (l3, Basses_latestTicks))
  else
    b2 (f_Basses_tooFast Line_ticks Rules_values Basses_there Basses_latestTicks l1 l2 l5) fun r2 y3 =>
    if l4 ≤ r2 then (
      nm (l5 + 1) fun x6 =>
      K14 l1 l2 l3 l4 x6 y3)
    else
      nm (l5 + 1) fun x7 =>
      K14 l1 l2 l5 r2 x7 y3
noncomputable def f_Basses_slowestShape_14 (Line_ticks Rules_values : Nat → Int32) (Basses_there : Int32)  : Nat → Int32 → Int32 → Int32 → Int32 → Int32 → (Nat → Int32) → Option (Int32 × (Nat → Int32))
  | 0 => fun _ _ _ _ _ _ => none
  | n + 1 => fun l1 l2 l3 l4 l5 Basses_latestTicks => f_Basses_slowestShape_14_b Line_ticks Rules_values Basses_there  (f_Basses_slowestShape_14 Line_ticks Rules_values Basses_there  n) l1 l2 l3 l4 l5 Basses_latestTicks
noncomputable def f_Basses_slowestShape (Line_ticks Rules_values : Nat → Int32) (Basses_there : Int32) (Basses_latestTicks : Nat → Int32) (p1 p2 : Int32) : Option (Int32 × (Nat → Int32)) :=
  b2 (f_Basses_tooFast Line_ticks Rules_values Basses_there Basses_latestTicks p1 p2 0) fun r8 y9 =>
  f_Basses_slowestShape_14 Line_ticks Rules_values Basses_there fu p1 p2 0 r8 1 y9
noncomputable def f_Sheets_areBits (p0 : Int32) : Option (Int32) :=
  if p0 = 0 then (
    some 1)
  else
    if p0 = 8 then (
      some 1)
    else
      if p0 = 16 then (
        some 1)
      else
        if p0 = 32 then (
          some 1)
        else
          some 0
noncomputable def f_Sheets_isMissing (Sheets_bits : Nat → Int32) (p1 : Int32) : Option (Int32) :=
  rd 4 Sheets_bits p1 fun x1 =>
  if x1 = 0 then (
    some 1)
  else
    some 0
noncomputable def f_Sheets_become_25_b   (K25 : Int32 → Int32 → (Nat → Int32) → (Nat → Int32) → (Nat → Int32) → Option ((Nat → Int32) × (Nat → Int32) × (Nat → Int32))) (l1 l4 : Int32) (Sheets_bits Sheets_sizes Sheets_numbers : Nat → Int32) : Option ((Nat → Int32) × (Nat → Int32) × (Nat → Int32)) :=
  if 24 ≤ l4 then (
    some (Sheets_bits, Sheets_sizes, Sheets_numbers))
  else
    ck 96 ((l1 * 24) + l4) <|
    nm (l4 + 1) fun x3 =>
    K25 l1 x3 Sheets_bits Sheets_sizes (upd Sheets_numbers ((l1 * 24) + l4).toNatClampNeg 0)
noncomputable def f_Sheets_become_25   : Nat → Int32 → Int32 → (Nat → Int32) → (Nat → Int32) → (Nat → Int32) → Option ((Nat → Int32) × (Nat → Int32) × (Nat → Int32))
  | 0 => fun _ _ _ _ _ => none
  | n + 1 => fun l1 l4 Sheets_bits Sheets_sizes Sheets_numbers => f_Sheets_become_25_b  (f_Sheets_become_25  n) l1 l4 Sheets_bits Sheets_sizes Sheets_numbers
noncomputable def f_Sheets_become (Sheets_bits Sheets_sizes Sheets_numbers : Nat → Int32) (p1 p2 p3 : Int32) : Option ((Nat → Int32) × (Nat → Int32) × (Nat → Int32)) :=
  ck 4 p1 <|
  if p2 = 0 then (
    ck 4 p1 <|
    f_Sheets_become_25 fu p1 0 (upd Sheets_bits p1.toNatClampNeg p2) (upd Sheets_sizes p1.toNatClampNeg 0) Sheets_numbers)
  else
    ck 4 p1 <|
    f_Sheets_become_25 fu p1 0 (upd Sheets_bits p1.toNatClampNeg p2) (upd Sheets_sizes p1.toNatClampNeg p3) Sheets_numbers
noncomputable def f_Sheets_numberAt (Sheets_numbers : Nat → Int32) (p1 p2 : Int32) : Option (Int32) :=
  rd 96 Sheets_numbers ((p1 * 24) + p2) fun x1 =>
  some x1
noncomputable def f_Sheets_write (Sheets_bits Sheets_numbers : Nat → Int32) (p1 p2 p3 : Int32) : Option ((Nat → Int32)) :=
  rd 4 Sheets_bits p1 fun x1 =>
  nm (32 - x1) fun x2 =>
  nm (jshl p3 x2) fun x3 =>
  nm (jshr x3 x2) fun x4 =>
  ck 96 ((p1 * 24) + p2) <|
  some (upd Sheets_numbers ((p1 * 24) + p2).toNatClampNeg x4)
noncomputable def f_Sheets_hasSpan (Sheets_sizes : Nat → Int32) (p1 p2 p3 : Int32) : Option (Int32) :=
  if p2 < 0 then (
    some 0)
  else
    if p3 < 0 then (
      some 0)
    else
      rd 4 Sheets_sizes p1 fun x3 =>
      if x3 < p2 then (
        some 0)
      else
        rd 4 Sheets_sizes p1 fun x5 =>
        if (x5 - p2) < p3 then (
          some 0)
        else
          some 1
noncomputable def f_Sheets_move (Sheets_numbers : Nat → Int32) (p1 p2 p3 p4 p5 : Int32) : Option ((Nat → Int32)) :=
  mv 96 Sheets_numbers ((p1 * 24) + p2) ((p3 * 24) + p4) p5 fun y1 =>
  some y1
noncomputable def f_Past_keepAct (Past_count : Int32) (Past_acts Past_firsts Past_seconds : Nat → Int32) (Past_slot p1 p2 p3 : Int32) : Option (Int32 × (Nat → Int32) × (Nat → Int32) × (Nat → Int32) × Int32) :=
  nm (jrem (Past_slot + 1) 20) fun x1 =>
  nm (jmin (Past_count + 1) 20) fun x2 =>
  ck 20 x1 <|
  ck 20 x1 <|
  ck 20 x1 <|
  some (x2, (upd Past_acts x1.toNatClampNeg p1), (upd Past_firsts x1.toNatClampNeg p2), (upd Past_seconds x1.toNatClampNeg p3), x1)
noncomputable def f_Past_keepPlace (Past_ticks Past_drums : Nat → Int32) (Past_slot p1 p2 : Int32) : Option ((Nat → Int32) × (Nat → Int32)) :=
  ck 20 Past_slot <|
  ck 20 Past_slot <|
  some ((upd Past_ticks Past_slot.toNatClampNeg p1), (upd Past_drums Past_slot.toNatClampNeg p2))
noncomputable def f_Past_act (Past_acts : Nat → Int32) (Past_slot : Int32) : Option (Int32) :=
  rd 20 Past_acts Past_slot fun x1 =>
  some x1
noncomputable def f_Past_first (Past_firsts : Nat → Int32) (Past_slot : Int32) : Option (Int32) :=
  rd 20 Past_firsts Past_slot fun x1 =>
  some x1
noncomputable def f_Past_second (Past_seconds : Nat → Int32) (Past_slot : Int32) : Option (Int32) :=
  rd 20 Past_seconds Past_slot fun x1 =>
  some x1
noncomputable def f_Past_tick (Past_ticks : Nat → Int32) (Past_slot : Int32) : Option (Int32) :=
  rd 20 Past_ticks Past_slot fun x1 =>
  some x1
noncomputable def f_Past_drum (Past_drums : Nat → Int32) (Past_slot : Int32) : Option (Int32) :=
  rd 20 Past_drums Past_slot fun x1 =>
  some x1
noncomputable def f_Past_hitAt (Past_hits : Nat → Int32) (Past_slot p1 : Int32) : Option (Int32) :=
  rd 480 Past_hits ((Past_slot * 24) + p1) fun x1 =>
  some x1
noncomputable def f_Past_forgetLatest (Past_count Past_slot : Int32) : Option (Int32 × Int32) :=
  if Past_count ≤ 0 then (
    some (Past_count, Past_slot))
  else
    nm (Past_count - 1) fun x2 =>
    nm (jrem ((Past_slot + 20) - 1) 20) fun x3 =>
    some (x2, x3)
noncomputable def f_Reading_leastPrice (Reading_prices : Nat → Int32) : Option (Int32) :=
  rd 525 Reading_prices 0 fun x1 =>
  some x1
noncomputable def f_Past_keepHits_2_b (Tapes_counts Tapes_hits : Nat → Int32) (Past_slot : Int32)  (K2 : Int32 → Int32 → (Nat → Int32) → Option ((Nat → Int32))) (l2 l3 : Int32) (Past_hits : Nat → Int32) : Option ((Nat → Int32)) :=
  rd 4 Tapes_counts l2 fun x1 =>
  if x1 ≤ l3 then (
    some Past_hits)
  else
    b1 (f_Tapes_tickAt Tapes_hits l2 l3) fun r3 =>
    ck 480 ((Past_slot * 24) + l3) <|
    nm (l3 + 1) fun x6 =>
    K2 l2 x6 (upd Past_hits ((Past_slot * 24) + l3).toNatClampNeg r3)
noncomputable def f_Past_keepHits_2 (Tapes_counts Tapes_hits : Nat → Int32) (Past_slot : Int32)  : Nat → Int32 → Int32 → (Nat → Int32) → Option ((Nat → Int32))
  | 0 => fun _ _ _ => none
  | n + 1 => fun l2 l3 Past_hits => f_Past_keepHits_2_b Tapes_counts Tapes_hits Past_slot  (f_Past_keepHits_2 Tapes_counts Tapes_hits Past_slot  n) l2 l3 Past_hits
noncomputable def f_Past_keepHits (Tapes_counts Tapes_hits Past_hits : Nat → Int32) (Past_slot p2 : Int32) : Option ((Nat → Int32)) :=
  f_Past_keepHits_2 Tapes_counts Tapes_hits Past_slot fu p2 0 Past_hits
noncomputable def f_Reading_apart (Line_ticks Tapes_hits : Nat → Int32) (Reading_player p1 p2 : Int32) : Option (Int32) :=
  b1 (f_Tapes_tickAt Tapes_hits Reading_player p2) fun r1 =>
  rd 20 Line_ticks p1 fun x3 =>
  nm (jabs (r1 - x3)) fun x4 =>
  some x4
noncomputable def f_Reading_priceFrom (Line_ticks : Nat → Int32) (Line_count : Int32) (Rules_values Tapes_hits Reading_prices : Nat → Int32) (Reading_player p1 p2 p3 : Int32) : Option (Int32) :=
  if p1 = Line_count then (
    some (40 * (p3 - p2)))
  else
    if p2 = p3 then (
      some (40 * (Line_count - p1)))
    else
      rd 525 Reading_prices (((p1 + 1) * 25) + p2) fun x3 =>
      rd 525 Reading_prices (((p1 * 25) + p2) + 1) fun x4 =>
      nm (jmin x3 x4) fun x5 =>
      nm (40 + x5) fun x6 =>
      b1 (f_Reading_apart Line_ticks Tapes_hits Reading_player p1 p2) fun r7 =>
      rd 5 Rules_values 4 fun x9 =>
      if r7 ≤ x9 then (
        rd 525 Reading_prices ((((p1 + 1) * 25) + p2) + 1) fun x11 =>
        nm (jmin x6 (r7 + x11)) fun x12 =>
        some x12)
      else
        some x6
noncomputable def f_Reading_firstBestMatch_16_b (Line_ticks Rules_values Tapes_hits Reading_prices : Nat → Int32) (Reading_player : Int32)  (K16 : Int32 → Int32 → Int32 → Int32 → Int32 → Option (Int32)) (l1 l2 l3 l4 l5 : Int32) : Option (Int32) :=
  if l3 ≤ l5 then (
    some (-1))
  else
    b1 (f_Reading_apart Line_ticks Tapes_hits Reading_player l1 l5) fun r2 =>
    rd 525 Reading_prices ((((l1 + 1) * 25) + l5) + 1) fun x4 =>
    nm (((40 * (l5 - l2)) + r2) + x4) fun x5 =>
    rd 5 Rules_values 4 fun x6 =>
    if x6 < r2 then (
      nm (l5 + 1) fun x8 =>
      K16 l1 l2 l3 l4 x8)
    else
      if x5 = l4 then (
        some l5)
      else
        nm (l5 + 1) fun x10 =>
        K16 l1 l2 l3 l4 x10
noncomputable def f_Reading_firstBestMatch_16 (Line_ticks Rules_values Tapes_hits Reading_prices : Nat → Int32) (Reading_player : Int32)  : Nat → Int32 → Int32 → Int32 → Int32 → Int32 → Option (Int32)
  | 0 => fun _ _ _ _ _ => none
  | n + 1 => fun l1 l2 l3 l4 l5 => f_Reading_firstBestMatch_16_b Line_ticks Rules_values Tapes_hits Reading_prices Reading_player  (f_Reading_firstBestMatch_16 Line_ticks Rules_values Tapes_hits Reading_prices Reading_player  n) l1 l2 l3 l4 l5
noncomputable def f_Reading_firstBestMatch (Line_ticks Rules_values Tapes_hits Reading_prices : Nat → Int32) (Reading_player p1 p2 p3 : Int32) : Option (Int32) :=
  rd 525 Reading_prices ((p1 * 25) + p2) fun x11 =>
  f_Reading_firstBestMatch_16 Line_ticks Rules_values Tapes_hits Reading_prices Reading_player fu p1 p2 p3 x11 p2
noncomputable def f_Reading_chooseMatches_9_b (Line_ticks : Nat → Int32) (Line_count : Int32) (Rules_values Tapes_hits Reading_prices : Nat → Int32) (Reading_player : Int32)  (K9 : Int32 → Int32 → Int32 → (Nat → Int32) → Int32 → Option ((Nat → Int32) × Int32)) (l1 l2 l3 : Int32) (Reading_matches : Nat → Int32) (Reading_matched : Int32) : Option ((Nat → Int32) × Int32) :=
  if Line_count ≤ l3 then (
    some (Reading_matches, Reading_matched))
  else
    b1 (f_Reading_firstBestMatch Line_ticks Rules_values Tapes_hits Reading_prices Reading_player l3 l2 l1) fun r2 =>
    ck 20 l3 <|
    if r2 = (-1) then (
      nm (l3 + 1) fun x6 =>
      K9 l1 l2 x6 (upd Reading_matches l3.toNatClampNeg r2) Reading_matched)
    else
      nm (Reading_matched + 1) fun x7 =>
      nm (r2 + 1) fun x8 =>
      nm (l3 + 1) fun x9 =>
      K9 l1 x8 x9 (upd Reading_matches l3.toNatClampNeg r2) x7
noncomputable def f_Reading_chooseMatches_9 (Line_ticks : Nat → Int32) (Line_count : Int32) (Rules_values Tapes_hits Reading_prices : Nat → Int32) (Reading_player : Int32)  : Nat → Int32 → Int32 → Int32 → (Nat → Int32) → Int32 → Option ((Nat → Int32) × Int32)
  | 0 => fun _ _ _ _ _ => none
  | n + 1 => fun l1 l2 l3 Reading_matches Reading_matched => f_Reading_chooseMatches_9_b Line_ticks Line_count Rules_values Tapes_hits Reading_prices Reading_player  (f_Reading_chooseMatches_9 Line_ticks Line_count Rules_values Tapes_hits Reading_prices Reading_player  n) l1 l2 l3 Reading_matches Reading_matched
noncomputable def f_Reading_chooseMatches (Line_ticks : Nat → Int32) (Line_count : Int32) (Rules_values Tapes_hits Reading_matches : Nat → Int32) (Reading_matched : Int32) (Reading_prices : Nat → Int32) (Reading_player p1 : Int32) : Option ((Nat → Int32) × Int32) :=
  f_Reading_chooseMatches_9 Line_ticks Line_count Rules_values Tapes_hits Reading_prices Reading_player fu p1 0 0 Reading_matches 0
noncomputable def f_Reading_find_33_b (Line_ticks : Nat → Int32) (Line_count : Int32) (Rules_values Tapes_counts Tapes_hits : Nat → Int32) (K26 : Int32 → Int32 → (Nat → Int32) → Int32 → (Nat → Int32) → Int32 → Option ((Nat → Int32) × Int32 × (Nat → Int32) × Int32)) (K33 : Int32 → Int32 → Int32 → (Nat → Int32) → Int32 → (Nat → Int32) → Int32 → Option ((Nat → Int32) × Int32 × (Nat → Int32) × Int32)) (l2 l3 l4 : Int32) (Reading_matches : Nat → Int32) (Reading_matched : Int32) (Reading_prices : Nat → Int32) (Reading_player : Int32) : Option ((Nat → Int32) × Int32 × (Nat → Int32) × Int32) :=
  if l4 < 0 then (
    nm (l3 + (-1)) fun x2 =>
    K26 l2 x2 Reading_matches Reading_matched Reading_prices Reading_player)
  else
    b1 (f_Reading_priceFrom Line_ticks Line_count Rules_values Tapes_hits Reading_prices Reading_player l3 l4 l2) fun r3 =>
    ck 525 ((l3 * 25) + l4) <|
    nm (l4 + (-1)) fun x6 =>
    K33 l2 l3 x6 Reading_matches Reading_matched (upd Reading_prices ((l3 * 25) + l4).toNatClampNeg r3) Reading_player
noncomputable def f_Reading_find_33 (Line_ticks : Nat → Int32) (Line_count : Int32) (Rules_values Tapes_counts Tapes_hits : Nat → Int32) (K26 : Int32 → Int32 → (Nat → Int32) → Int32 → (Nat → Int32) → Int32 → Option ((Nat → Int32) × Int32 × (Nat → Int32) × Int32)) : Nat → Int32 → Int32 → Int32 → (Nat → Int32) → Int32 → (Nat → Int32) → Int32 → Option ((Nat → Int32) × Int32 × (Nat → Int32) × Int32)
  | 0 => fun _ _ _ _ _ _ _ => none
  | n + 1 => fun l2 l3 l4 Reading_matches Reading_matched Reading_prices Reading_player => f_Reading_find_33_b Line_ticks Line_count Rules_values Tapes_counts Tapes_hits K26 (f_Reading_find_33 Line_ticks Line_count Rules_values Tapes_counts Tapes_hits K26 n) l2 l3 l4 Reading_matches Reading_matched Reading_prices Reading_player
noncomputable def f_Reading_find_26_b (Line_ticks : Nat → Int32) (Line_count : Int32) (Rules_values Tapes_counts Tapes_hits : Nat → Int32)  (K26 : Int32 → Int32 → (Nat → Int32) → Int32 → (Nat → Int32) → Int32 → Option ((Nat → Int32) × Int32 × (Nat → Int32) × Int32)) (l2 l3 : Int32) (Reading_matches : Nat → Int32) (Reading_matched : Int32) (Reading_prices : Nat → Int32) (Reading_player : Int32) : Option ((Nat → Int32) × Int32 × (Nat → Int32) × Int32) :=
  if l3 < 0 then (
    b2 (f_Reading_chooseMatches Line_ticks Line_count Rules_values Tapes_hits Reading_matches Reading_matched Reading_prices Reading_player l2) fun y8 y9 =>
    some (y8, y9, Reading_prices, Reading_player))
  else
    f_Reading_find_33 Line_ticks Line_count Rules_values Tapes_counts Tapes_hits K26 fu l2 l3 l2 Reading_matches Reading_matched Reading_prices Reading_player
noncomputable def f_Reading_find_26 (Line_ticks : Nat → Int32) (Line_count : Int32) (Rules_values Tapes_counts Tapes_hits : Nat → Int32)  : Nat → Int32 → Int32 → (Nat → Int32) → Int32 → (Nat → Int32) → Int32 → Option ((Nat → Int32) × Int32 × (Nat → Int32) × Int32)
  | 0 => fun _ _ _ _ _ _ => none
  | n + 1 => fun l2 l3 Reading_matches Reading_matched Reading_prices Reading_player => f_Reading_find_26_b Line_ticks Line_count Rules_values Tapes_counts Tapes_hits  (f_Reading_find_26 Line_ticks Line_count Rules_values Tapes_counts Tapes_hits  n) l2 l3 Reading_matches Reading_matched Reading_prices Reading_player
noncomputable def f_Reading_find (Line_ticks : Nat → Int32) (Line_count : Int32) (Rules_values Tapes_counts Tapes_hits Reading_matches : Nat → Int32) (Reading_matched : Int32) (Reading_prices : Nat → Int32) (Reading_player p1 : Int32) : Option ((Nat → Int32) × Int32 × (Nat → Int32) × Int32) :=
  rd 4 Tapes_counts p1 fun x11 =>
  f_Reading_find_26 Line_ticks Line_count Rules_values Tapes_counts Tapes_hits fu x11 Line_count Reading_matches Reading_matched Reading_prices p1
noncomputable def f_Room_finding (Room_findings p1 : Int32) : Option (Int32 × Int32) :=
  nm (Room_findings + 1) fun x1 =>
  some (p1, x1)
noncomputable def f_Room_keep (Hands_isKnown Past_count : Int32) (Past_acts Past_firsts Past_seconds : Nat → Int32) (Past_slot p1 p2 p3 : Int32) : Option (Int32 × Int32 × (Nat → Int32) × (Nat → Int32) × (Nat → Int32) × Int32) :=
  b5 (f_Past_keepAct Past_count Past_acts Past_firsts Past_seconds Past_slot p1 p2 p3) fun y1 y2 y3 y4 y5 =>
  b1 (f_Hands_forget Hands_isKnown) fun y7 =>
  some (y7, y1, y2, y3, y4, y5)
noncomputable def f_Room_keepTape (Hands_isKnown : Int32) (Tapes_counts Tapes_hits : Nat → Int32) (Past_count : Int32) (Past_acts Past_firsts Past_seconds Past_hits : Nat → Int32) (Past_slot p1 : Int32) : Option (Int32 × Int32 × (Nat → Int32) × (Nat → Int32) × (Nat → Int32) × (Nat → Int32) × Int32) :=
  rd 4 Tapes_counts p1 fun x1 =>
  b6 (f_Room_keep Hands_isKnown Past_count Past_acts Past_firsts Past_seconds Past_slot 6 p1 x1) fun y2 y3 y4 y5 y6 y7 =>
  b1 (f_Past_keepHits Tapes_counts Tapes_hits Past_hits y7 p1) fun y9 =>
  some (y2, y3, y4, y5, y6, y9, y7)
noncomputable def f_Room_isRun (Line_count p1 p2 : Int32) : Option (Int32) :=
  b1 (f_Line_hasNote Line_count p1) fun r1 =>
  if r1 = 0 then (
    some 0)
  else
    b1 (f_Line_hasNote Line_count p2) fun r4 =>
    if r4 = 0 then (
      some 0)
    else
      if p2 < p1 then (
        some 0)
      else
        some 1
noncomputable def f_Room_note_23   (Room_findings Hands_isKnown : Int32) (Line_kinds Line_ticks Line_drums Line_marks Line_strokeTicks Line_strokeHeights : Nat → Int32) (Line_count Past_count : Int32) (Past_acts Past_firsts Past_seconds : Nat → Int32) (Past_slot : Int32) : Option (Int32 × Int32 × Int32 × (Nat → Int32) × (Nat → Int32) × (Nat → Int32) × (Nat → Int32) × (Nat → Int32) × (Nat → Int32) × Int32 × Int32 × (Nat → Int32) × (Nat → Int32) × (Nat → Int32) × Int32) :=
  b2 (f_Room_finding Room_findings (-100001)) fun r1 y2 =>
  some (r1, y2, Hands_isKnown, Line_kinds, Line_ticks, Line_drums, Line_marks, Line_strokeTicks, Line_strokeHeights, Line_count, Past_count, Past_acts, Past_firsts, Past_seconds, Past_slot)
noncomputable def f_Room_note (Room_findings Hands_isKnown : Int32) (Line_kinds Line_ticks Line_drums Line_marks Line_strokeTicks Line_strokeHeights : Nat → Int32) (Line_count Past_count : Int32) (Past_acts Past_firsts Past_seconds : Nat → Int32) (Past_slot p1 p2 p3 : Int32) : Option (Int32 × Int32 × Int32 × (Nat → Int32) × (Nat → Int32) × (Nat → Int32) × (Nat → Int32) × (Nat → Int32) × (Nat → Int32) × Int32 × Int32 × (Nat → Int32) × (Nat → Int32) × (Nat → Int32) × Int32) :=
  b1 (f_Room_isBelow p1 4) fun r4 =>
  if r4 = 0 then (
    f_Room_note_23 Room_findings Hands_isKnown Line_kinds Line_ticks Line_drums Line_marks Line_strokeTicks Line_strokeHeights Line_count Past_count Past_acts Past_firsts Past_seconds Past_slot)
  else
    b1 (f_Room_isTick p2) fun r7 =>
    if r7 = 0 then (
      f_Room_note_23 Room_findings Hands_isKnown Line_kinds Line_ticks Line_drums Line_marks Line_strokeTicks Line_strokeHeights Line_count Past_count Past_acts Past_firsts Past_seconds Past_slot)
    else
      b1 (f_Room_isBelow p3 5) fun r10 =>
      if r10 = 0 then (
        f_Room_note_23 Room_findings Hands_isKnown Line_kinds Line_ticks Line_drums Line_marks Line_strokeTicks Line_strokeHeights Line_count Past_count Past_acts Past_firsts Past_seconds Past_slot)
      else
        b1 (f_Line_latestTick Line_ticks Line_count) fun r13 =>
        if r13 < p2 then (
          if Line_count < 20 then (
            b6 (f_Room_keep Hands_isKnown Past_count Past_acts Past_firsts Past_seconds Past_slot 0 0 0) fun y17 y18 y19 y20 y21 y22 =>
            b7 (f_Line_append Line_kinds Line_ticks Line_drums Line_marks Line_strokeTicks Line_strokeHeights Line_count p1 p2 p3 (-1)) fun y24 y25 y26 y27 y28 y29 y30 =>
            some ((y30 - 1), Room_findings, y17, y24, y25, y26, y27, y28, y29, y30, y18, y19, y20, y21, y22))
          else
            b2 (f_Room_finding Room_findings (-100005)) fun r32 y33 =>
            some (r32, y33, Hands_isKnown, Line_kinds, Line_ticks, Line_drums, Line_marks, Line_strokeTicks, Line_strokeHeights, Line_count, Past_count, Past_acts, Past_firsts, Past_seconds, Past_slot))
        else
          b2 (f_Room_finding Room_findings (-100003)) fun r35 y36 =>
          some (r35, y36, Hands_isKnown, Line_kinds, Line_ticks, Line_drums, Line_marks, Line_strokeTicks, Line_strokeHeights, Line_count, Past_count, Past_acts, Past_firsts, Past_seconds, Past_slot)
noncomputable def f_Room_drop (Room_findings Hands_isKnown : Int32) (Line_kinds Line_ticks Line_drums Line_marks : Nat → Int32) (Line_count Past_count : Int32) (Past_acts Past_firsts Past_seconds Past_ticks Past_drums : Nat → Int32) (Past_slot : Int32) : Option (Int32 × Int32 × Int32 × Int32 × Int32 × (Nat → Int32) × (Nat → Int32) × (Nat → Int32) × (Nat → Int32) × (Nat → Int32) × Int32) :=
  if Line_count = 0 then (
    b2 (f_Room_finding Room_findings (-100006)) fun r19 y20 =>
    some (r19, y20, Hands_isKnown, Line_count, Past_count, Past_acts, Past_firsts, Past_seconds, Past_ticks, Past_drums, Past_slot))
  else
    nm (Line_count - 1) fun x2 =>
    rd 20 Line_kinds x2 fun x3 =>
    rd 20 Line_marks x2 fun x4 =>
    b6 (f_Room_keep Hands_isKnown Past_count Past_acts Past_firsts Past_seconds Past_slot 1 x3 x4) fun y5 y6 y7 y8 y9 y10 =>
    rd 20 Line_ticks x2 fun x12 =>
    rd 20 Line_drums x2 fun x13 =>
    b2 (f_Past_keepPlace Past_ticks Past_drums y10 x12 x13) fun y14 y15 =>
    b1 (f_Line_removeLatest Line_count) fun y17 =>
    some (y17, Room_findings, y5, y17, y6, y7, y8, y9, y14, y15, y10)
noncomputable def f_Room_as (Room_findings : Int32) (Line_kinds : Nat → Int32) (Line_count p1 p2 : Int32) : Option (Int32 × Int32) :=
  b1 (f_Line_hasNote Line_count p1) fun r1 =>
  if r1 = 0 then (
    b2 (f_Room_finding Room_findings (-100001)) fun r4 y5 =>
    some (r4, y5))
  else
    b1 (f_Room_isBelow p2 4) fun r7 =>
    if r7 = 0 then (
      b2 (f_Room_finding Room_findings (-100001)) fun r16 y17 =>
      some (r16, y17))
    else
      b1 (f_Line_isOfKind Line_kinds p1 p2) fun r10 =>
      if r10 = 0 then (
        b2 (f_Room_finding Room_findings (-100004)) fun r13 y14 =>
        some (r13, y14))
      else
        some (p1, Room_findings)
noncomputable def f_Room_of (Room_findings : Int32) (Line_kinds Line_ticks Line_drums : Nat → Int32) (Line_count p1 p2 : Int32) : Option (Int32 × Int32) :=
  b1 (f_Line_hasNote Line_count p1) fun r1 =>
  if r1 = 0 then (
    b2 (f_Room_finding Room_findings (-100001)) fun r16 y17 =>
    some (r16, y17))
  else
    if p2 = 0 then (
      rd 20 Line_kinds p1 fun x5 =>
      some (x5, Room_findings))
    else
    if p2 = 1 then (
      rd 20 Line_ticks p1 fun x7 =>
      some (x7, Room_findings))
    else
    if p2 = 2 then (
      rd 20 Line_drums p1 fun x9 =>
      some (x9, Room_findings))
    else
    if p2 = 3 then (
      b1 (f_Line_graces Line_kinds p1) fun r11 =>
      some ((1 + r11), Room_findings))
    else
      b2 (f_Room_finding Room_findings (-100001)) fun r13 y14 =>
      some (r13, y14)
noncomputable def f_Room_revert_152_b (Past_acts Past_firsts Past_seconds Past_ticks Past_drums Past_hits : Nat → Int32) (Past_slot : Int32)  (K152 : Int32 → Int32 → Int32 → (Nat → Int32) → (Nat → Int32) → (Nat → Int32) → (Nat → Int32) → (Nat → Int32) → (Nat → Int32) → Int32 → (Nat → Int32) → Int32 → (Nat → Int32) → (Nat → Int32) → Option ((Nat → Int32) × (Nat → Int32) × (Nat → Int32) × (Nat → Int32) × (Nat → Int32) × (Nat → Int32) × Int32 × (Nat → Int32) × Int32 × (Nat → Int32) × (Nat → Int32))) (l1 l2 l3 : Int32) (Line_kinds Line_ticks Line_drums Line_marks Line_strokeTicks Line_strokeHeights : Nat → Int32) (Line_count : Int32) (Rules_values : Nat → Int32) (Basses_there : Int32) (Tapes_counts Tapes_hits : Nat → Int32) : Option ((Nat → Int32) × (Nat → Int32) × (Nat → Int32) × (Nat → Int32) × (Nat → Int32) × (Nat → Int32) × Int32 × (Nat → Int32) × Int32 × (Nat → Int32) × (Nat → Int32)) :=
  if l2 ≤ l3 then (
    some (Line_kinds, Line_ticks, Line_drums, Line_marks, Line_strokeTicks, Line_strokeHeights, Line_count, Rules_values, Basses_there, Tapes_counts, Tapes_hits))
  else
    b1 (f_Past_hitAt Past_hits Past_slot l3) fun r2 =>
    b2 (f_Tapes_append Tapes_counts Tapes_hits l1 r2) fun y4 y5 =>
    nm (l3 + 1) fun x7 =>
    K152 l1 l2 x7 Line_kinds Line_ticks Line_drums Line_marks Line_strokeTicks Line_strokeHeights Line_count Rules_values Basses_there y4 y5
noncomputable def f_Room_revert_152 (Past_acts Past_firsts Past_seconds Past_ticks Past_drums Past_hits : Nat → Int32) (Past_slot : Int32)  : Nat → Int32 → Int32 → Int32 → (Nat → Int32) → (Nat → Int32) → (Nat → Int32) → (Nat → Int32) → (Nat → Int32) → (Nat → Int32) → Int32 → (Nat → Int32) → Int32 → (Nat → Int32) → (Nat → Int32) → Option ((Nat → Int32) × (Nat → Int32) × (Nat → Int32) × (Nat → Int32) × (Nat → Int32) × (Nat → Int32) × Int32 × (Nat → Int32) × Int32 × (Nat → Int32) × (Nat → Int32))
  | 0 => fun _ _ _ _ _ _ _ _ _ _ _ _ _ _ => none
  | n + 1 => fun l1 l2 l3 Line_kinds Line_ticks Line_drums Line_marks Line_strokeTicks Line_strokeHeights Line_count Rules_values Basses_there Tapes_counts Tapes_hits => f_Room_revert_152_b Past_acts Past_firsts Past_seconds Past_ticks Past_drums Past_hits Past_slot  (f_Room_revert_152 Past_acts Past_firsts Past_seconds Past_ticks Past_drums Past_hits Past_slot  n) l1 l2 l3 Line_kinds Line_ticks Line_drums Line_marks Line_strokeTicks Line_strokeHeights Line_count Rules_values Basses_there Tapes_counts Tapes_hits
noncomputable def f_Room_revert (Line_kinds Line_ticks Line_drums Line_marks Line_strokeTicks Line_strokeHeights : Nat → Int32) (Line_count : Int32) (Rules_values : Nat → Int32) (Basses_there : Int32) (Tapes_counts Tapes_hits Past_acts Past_firsts Past_seconds Past_ticks Past_drums Past_hits : Nat → Int32) (Past_slot : Int32) : Option ((Nat → Int32) × (Nat → Int32) × (Nat → Int32) × (Nat → Int32) × (Nat → Int32) × (Nat → Int32) × Int32 × (Nat → Int32) × Int32 × (Nat → Int32) × (Nat → Int32)) :=
  b1 (f_Past_first Past_firsts Past_slot) fun r8 =>
  b1 (f_Past_second Past_seconds Past_slot) fun r10 =>
  b1 (f_Past_act Past_acts Past_slot) fun r12 =>
  if r12 = 0 then (
    b1 (f_Line_removeLatest Line_count) fun y15 =>
    some (Line_kinds, Line_ticks, Line_drums, Line_marks, Line_strokeTicks, Line_strokeHeights, y15, Rules_values, Basses_there, Tapes_counts, Tapes_hits))
  else
  if r12 = 1 then (
    b1 (f_Past_tick Past_ticks Past_slot) fun r18 =>
    b1 (f_Past_drum Past_drums Past_slot) fun r20 =>
    b7 (f_Line_append Line_kinds Line_ticks Line_drums Line_marks Line_strokeTicks Line_strokeHeights Line_count r8 r18 r20 r10) fun y22 y23 y24 y25 y26 y27 y28 =>
    some (y22, y23, y24, y25, y26, y27, y28, Rules_values, Basses_there, Tapes_counts, Tapes_hits))
  else
  if r12 = 2 then (
    b1 (f_Line_setMark Line_marks Line_count r8 r10) fun y31 =>
    some (Line_kinds, Line_ticks, Line_drums, y31, Line_strokeTicks, Line_strokeHeights, Line_count, Rules_values, Basses_there, Tapes_counts, Tapes_hits))
  else
  if r12 = 3 then (
    b1 (f_Rules_change Rules_values r8 r10) fun y34 =>
    some (Line_kinds, Line_ticks, Line_drums, Line_marks, Line_strokeTicks, Line_strokeHeights, Line_count, y34, Basses_there, Tapes_counts, Tapes_hits))
  else
  if r12 = 4 then (
    some (Line_kinds, Line_ticks, Line_drums, Line_marks, Line_strokeTicks, Line_strokeHeights, Line_count, Rules_values, r8, Tapes_counts, Tapes_hits))
  else
  if r12 = 5 then (
    b1 (f_Tapes_removeLatest Tapes_counts r8) fun y38 =>
    some (Line_kinds, Line_ticks, Line_drums, Line_marks, Line_strokeTicks, Line_strokeHeights, Line_count, Rules_values, Basses_there, y38, Tapes_hits))
  else
    b1 (f_Tapes_clear Tapes_counts r8) fun y40 =>
    f_Room_revert_152 Past_acts Past_firsts Past_seconds Past_ticks Past_drums Past_hits Past_slot fu r8 r10 0 Line_kinds Line_ticks Line_drums Line_marks Line_strokeTicks Line_strokeHeights Line_count Rules_values Basses_there y40 Tapes_hits
noncomputable def f_Room_mark_21 (Line_count : Int32)  (Room_findings Hands_isKnown : Int32) (Line_marks : Nat → Int32) (Past_count : Int32) (Past_acts Past_firsts Past_seconds : Nat → Int32) (Past_slot : Int32) : Option (Int32 × Int32 × Int32 × (Nat → Int32) × Int32 × (Nat → Int32) × (Nat → Int32) × (Nat → Int32) × Int32) :=
  b2 (f_Room_finding Room_findings (-100001)) fun r1 y2 =>
  some (r1, y2, Hands_isKnown, Line_marks, Past_count, Past_acts, Past_firsts, Past_seconds, Past_slot)
noncomputable def f_Room_mark (Room_findings Hands_isKnown : Int32) (Line_marks : Nat → Int32) (Line_count Past_count : Int32) (Past_acts Past_firsts Past_seconds : Nat → Int32) (Past_slot p1 p2 : Int32) : Option (Int32 × Int32 × Int32 × (Nat → Int32) × Int32 × (Nat → Int32) × (Nat → Int32) × (Nat → Int32) × Int32) :=
  b1 (f_Line_hasNote Line_count p1) fun r4 =>
  if r4 = 0 then (
    f_Room_mark_21 Line_count Room_findings Hands_isKnown Line_marks Past_count Past_acts Past_firsts Past_seconds Past_slot)
  else
    if p2 < (-1) then (
      f_Room_mark_21 Line_count Room_findings Hands_isKnown Line_marks Past_count Past_acts Past_firsts Past_seconds Past_slot)
    else
      if p2 ≤ 1 then (
        rd 20 Line_marks p1 fun x9 =>
        b6 (f_Room_keep Hands_isKnown Past_count Past_acts Past_firsts Past_seconds Past_slot 2 p1 x9) fun y10 y11 y12 y13 y14 y15 =>
        b1 (f_Line_setMark Line_marks Line_count p1 p2) fun y17 =>
        some (x9, Room_findings, y10, y17, y11, y12, y13, y14, y15))
      else
        f_Room_mark_21 Line_count Room_findings Hands_isKnown Line_marks Past_count Past_acts Past_firsts Past_seconds Past_slot
noncomputable def f_Room_rule (Room_findings Hands_isKnown : Int32) (Rules_values : Nat → Int32) (Past_count : Int32) (Past_acts Past_firsts Past_seconds : Nat → Int32) (Past_slot p1 p2 : Int32) : Option (Int32 × Int32 × Int32 × (Nat → Int32) × Int32 × (Nat → Int32) × (Nat → Int32) × (Nat → Int32) × Int32) :=
  b1 (f_Rules_mayBecome p1 p2) fun r1 =>
  if r1 = 0 then (
    b2 (f_Room_finding Room_findings (-100001)) fun r14 y15 =>
    some (r14, y15, Hands_isKnown, Rules_values, Past_count, Past_acts, Past_firsts, Past_seconds, Past_slot))
  else
    rd 5 Rules_values p1 fun x4 =>
    b6 (f_Room_keep Hands_isKnown Past_count Past_acts Past_firsts Past_seconds Past_slot 3 p1 x4) fun y5 y6 y7 y8 y9 y10 =>
    b1 (f_Rules_change Rules_values p1 p2) fun y12 =>
    some (x4, Room_findings, y5, y12, y6, y7, y8, y9, y10)
noncomputable def f_Room_judge (Room_findings Hands_walkPrice Arms_left Arms_right : Int32) (Line_kinds Line_ticks Line_drums Line_marks Line_strokeTicks Line_strokeHeights : Nat → Int32) (Line_count : Int32) (Rules_values : Nat → Int32) (p1 : Int32) : Option (Int32 × Int32 × Int32 × Int32 × Int32) :=
  nm (jush p1 Line_count) fun x1 =>
  if x1 = 0 then (
    b4 (f_Hands_walk Hands_walkPrice Arms_left Arms_right Line_kinds Line_ticks Line_drums Line_marks Line_strokeTicks Line_strokeHeights Line_count Rules_values p1 (Line_count - 1)) fun r3 y4 y5 y6 =>
    if r3 = 0 then (
      b2 (f_Room_finding Room_findings (-100004)) fun r9 y10 =>
      some (r9, y10, y4, y5, y6))
    else
      some (y4, Room_findings, y4, y5, y6))
  else
    b2 (f_Room_finding Room_findings (-100001)) fun r12 y13 =>
    some (r12, y13, Hands_walkPrice, Arms_left, Arms_right)
noncomputable def f_Room_awkward (Room_findings Hands_leastPrice Hands_best Hands_bestWays Hands_stuckAt Hands_isKnown Arms_left Arms_right : Int32) (EndA_keys EndA_prices EndA_firsts EndA_wayCounts : Nat → Int32) (EndA_size : Int32) (EndB_keys EndB_prices EndB_firsts EndB_wayCounts : Nat → Int32) (EndB_size : Int32) (Line_kinds Line_ticks Line_drums Line_marks Line_strokeTicks Line_strokeHeights : Nat → Int32) (Line_count : Int32) (Rules_values : Nat → Int32) : Option (Int32 × Int32 × Int32 × Int32 × Int32 × Int32 × Int32 × Int32 × Int32 × (Nat → Int32) × (Nat → Int32) × (Nat → Int32) × (Nat → Int32) × Int32 × (Nat → Int32) × (Nat → Int32) × (Nat → Int32) × (Nat → Int32) × Int32) :=
  b18 (f_Hands_exist Hands_leastPrice Hands_best Hands_bestWays Hands_stuckAt Hands_isKnown Arms_left Arms_right EndA_keys EndA_prices EndA_firsts EndA_wayCounts EndA_size EndB_keys EndB_prices EndB_firsts EndB_wayCounts EndB_size Line_kinds Line_ticks Line_drums Line_marks Line_strokeTicks Line_strokeHeights Line_count Rules_values) fun r1 y2 y3 y4 y5 y6 y7 y8 y9 y10 y11 y12 y13 y14 y15 y16 y17 y18 =>
  if r1 = 0 then (
    b2 (f_Room_finding Room_findings (-100006)) fun r31 y32 =>
    some (r31, y32, y2, y3, y4, y5, y6, y7, y8, y9, y10, y11, y12, y13, y14, y15, y16, y17, y18))
  else
    some (y2, Room_findings, y2, y3, y4, y5, y6, y7, y8, y9, y10, y11, y12, y13, y14, y15, y16, y17, y18)
noncomputable def f_Room_hand (Room_findings Hands_leastPrice Hands_best Hands_bestWays Hands_stuckAt Hands_isKnown Arms_left Arms_right : Int32) (EndA_keys EndA_prices EndA_firsts EndA_wayCounts : Nat → Int32) (EndA_size : Int32) (EndB_keys EndB_prices EndB_firsts EndB_wayCounts : Nat → Int32) (EndB_size : Int32) (Line_kinds Line_ticks Line_drums Line_marks Line_strokeTicks Line_strokeHeights : Nat → Int32) (Line_count : Int32) (Rules_values : Nat → Int32) (p1 : Int32) : Option (Int32 × Int32 × Int32 × Int32 × Int32 × Int32 × Int32 × Int32 × Int32 × (Nat → Int32) × (Nat → Int32) × (Nat → Int32) × (Nat → Int32) × Int32 × (Nat → Int32) × (Nat → Int32) × (Nat → Int32) × (Nat → Int32) × Int32) :=
  b1 (f_Line_hasNote Line_count p1) fun r1 =>
  if r1 = 0 then (
    b2 (f_Room_finding Room_findings (-100001)) fun r39 y40 =>
    some (r39, y40, Hands_leastPrice, Hands_best, Hands_bestWays, Hands_stuckAt, Hands_isKnown, Arms_left, Arms_right, EndA_keys, EndA_prices, EndA_firsts, EndA_wayCounts, EndA_size, EndB_keys, EndB_prices, EndB_firsts, EndB_wayCounts, EndB_size))
  else
    b18 (f_Hands_exist Hands_leastPrice Hands_best Hands_bestWays Hands_stuckAt Hands_isKnown Arms_left Arms_right EndA_keys EndA_prices EndA_firsts EndA_wayCounts EndA_size EndB_keys EndB_prices EndB_firsts EndB_wayCounts EndB_size Line_kinds Line_ticks Line_drums Line_marks Line_strokeTicks Line_strokeHeights Line_count Rules_values) fun r4 y5 y6 y7 y8 y9 y10 y11 y12 y13 y14 y15 y16 y17 y18 y19 y20 y21 =>
    if r4 = 0 then (
      b2 (f_Room_finding Room_findings (-100006)) fun r34 y35 =>
      some (r34, y35, y5, y6, y7, y8, y9, y10, y11, y12, y13, y14, y15, y16, y17, y18, y19, y20, y21))
    else
      b1 (f_Room_handIn y6 p1) fun r37 =>
      some (r37, Room_findings, y5, y6, y7, y8, y9, y10, y11, y12, y13, y14, y15, y16, y17, y18, y19, y20, y21)
noncomputable def f_Room_crossed (Room_findings Hands_leastPrice Hands_best Hands_bestWays Hands_stuckAt Hands_walkPrice Hands_isKnown Arms_left Arms_right : Int32) (EndA_keys EndA_prices EndA_firsts EndA_wayCounts : Nat → Int32) (EndA_size : Int32) (EndB_keys EndB_prices EndB_firsts EndB_wayCounts : Nat → Int32) (EndB_size : Int32) (Line_kinds Line_ticks Line_drums Line_marks Line_strokeTicks Line_strokeHeights : Nat → Int32) (Line_count : Int32) (Rules_values : Nat → Int32) (p1 : Int32) : Option (Int32 × Int32 × Int32 × Int32 × Int32 × Int32 × Int32 × Int32 × Int32 × Int32 × (Nat → Int32) × (Nat → Int32) × (Nat → Int32) × (Nat → Int32) × Int32 × (Nat → Int32) × (Nat → Int32) × (Nat → Int32) × (Nat → Int32) × Int32) :=
  b1 (f_Line_hasNote Line_count p1) fun r1 =>
  if r1 = 0 then (
    b2 (f_Room_finding Room_findings (-100001)) fun r45 y46 =>
    some (r45, y46, Hands_leastPrice, Hands_best, Hands_bestWays, Hands_stuckAt, Hands_walkPrice, Hands_isKnown, Arms_left, Arms_right, EndA_keys, EndA_prices, EndA_firsts, EndA_wayCounts, EndA_size, EndB_keys, EndB_prices, EndB_firsts, EndB_wayCounts, EndB_size))
  else
    b18 (f_Hands_exist Hands_leastPrice Hands_best Hands_bestWays Hands_stuckAt Hands_isKnown Arms_left Arms_right EndA_keys EndA_prices EndA_firsts EndA_wayCounts EndA_size EndB_keys EndB_prices EndB_firsts EndB_wayCounts EndB_size Line_kinds Line_ticks Line_drums Line_marks Line_strokeTicks Line_strokeHeights Line_count Rules_values) fun r4 y5 y6 y7 y8 y9 y10 y11 y12 y13 y14 y15 y16 y17 y18 y19 y20 y21 =>
    if r4 = 0 then (
      b2 (f_Room_finding Room_findings (-100006)) fun r42 y43 =>
      some (r42, y43, y5, y6, y7, y8, Hands_walkPrice, y9, y10, y11, y12, y13, y14, y15, y16, y17, y18, y19, y20, y21))
    else
      b4 (f_Hands_walk Hands_walkPrice y10 y11 Line_kinds Line_ticks Line_drums Line_marks Line_strokeTicks Line_strokeHeights Line_count Rules_values y6 p1) fun r34 y35 y36 y37 =>
      b1 (f_Arms_areCrossed y36 y37 Line_drums) fun r39 =>
      if r39 = 0 then (
        some (0, Room_findings, y5, y6, y7, y8, y35, y9, y36, y37, y12, y13, y14, y15, y16, y17, y18, y19, y20, y21))
      else
        some (1, Room_findings, y5, y6, y7, y8, y35, y9, y36, y37, y12, y13, y14, y15, y16, y17, y18, y19, y20, y21)
noncomputable def f_Room_ways (Room_findings Hands_leastPrice Hands_best Hands_bestWays Hands_stuckAt Hands_isKnown Arms_left Arms_right : Int32) (EndA_keys EndA_prices EndA_firsts EndA_wayCounts : Nat → Int32) (EndA_size : Int32) (EndB_keys EndB_prices EndB_firsts EndB_wayCounts : Nat → Int32) (EndB_size : Int32) (Line_kinds Line_ticks Line_drums Line_marks Line_strokeTicks Line_strokeHeights : Nat → Int32) (Line_count : Int32) (Rules_values : Nat → Int32) : Option (Int32 × Int32 × Int32 × Int32 × Int32 × Int32 × Int32 × Int32 × Int32 × (Nat → Int32) × (Nat → Int32) × (Nat → Int32) × (Nat → Int32) × Int32 × (Nat → Int32) × (Nat → Int32) × (Nat → Int32) × (Nat → Int32) × Int32) :=
  b18 (f_Hands_exist Hands_leastPrice Hands_best Hands_bestWays Hands_stuckAt Hands_isKnown Arms_left Arms_right EndA_keys EndA_prices EndA_firsts EndA_wayCounts EndA_size EndB_keys EndB_prices EndB_firsts EndB_wayCounts EndB_size Line_kinds Line_ticks Line_drums Line_marks Line_strokeTicks Line_strokeHeights Line_count Rules_values) fun r1 y2 y3 y4 y5 y6 y7 y8 y9 y10 y11 y12 y13 y14 y15 y16 y17 y18 =>
  if r1 = 0 then (
    b2 (f_Room_finding Room_findings (-100006)) fun r31 y32 =>
    some (r31, y32, y2, y3, y4, y5, y6, y7, y8, y9, y10, y11, y12, y13, y14, y15, y16, y17, y18))
  else
    some (y4, Room_findings, y2, y3, y4, y5, y6, y7, y8, y9, y10, y11, y12, y13, y14, y15, y16, y17, y18)
noncomputable def f_Room_stuck (Hands_leastPrice Hands_best Hands_bestWays Hands_stuckAt Hands_isKnown Arms_left Arms_right : Int32) (EndA_keys EndA_prices EndA_firsts EndA_wayCounts : Nat → Int32) (EndA_size : Int32) (EndB_keys EndB_prices EndB_firsts EndB_wayCounts : Nat → Int32) (EndB_size : Int32) (Line_kinds Line_ticks Line_drums Line_marks Line_strokeTicks Line_strokeHeights : Nat → Int32) (Line_count : Int32) (Rules_values : Nat → Int32) : Option (Int32 × Int32 × Int32 × Int32 × Int32 × Int32 × Int32 × Int32 × (Nat → Int32) × (Nat → Int32) × (Nat → Int32) × (Nat → Int32) × Int32 × (Nat → Int32) × (Nat → Int32) × (Nat → Int32) × (Nat → Int32) × Int32) :=
  b18 (f_Hands_exist Hands_leastPrice Hands_best Hands_bestWays Hands_stuckAt Hands_isKnown Arms_left Arms_right EndA_keys EndA_prices EndA_firsts EndA_wayCounts EndA_size EndB_keys EndB_prices EndB_firsts EndB_wayCounts EndB_size Line_kinds Line_ticks Line_drums Line_marks Line_strokeTicks Line_strokeHeights Line_count Rules_values) fun r1 y2 y3 y4 y5 y6 y7 y8 y9 y10 y11 y12 y13 y14 y15 y16 y17 y18 =>
  if r1 = 0 then (
    some (y5, y2, y3, y4, y5, y6, y7, y8, y9, y10, y11, y12, y13, y14, y15, y16, y17, y18))
  else
    some ((-1), y2, y3, y4, y5, y6, y7, y8, y9, y10, y11, y12, y13, y14, y15, y16, y17, y18)
noncomputable def f_Room_latest (Room_findings Hands_leastPrice Hands_best Hands_bestWays Hands_stuckAt Hands_walkPrice Hands_isKnown Arms_left Arms_right : Int32) (EndA_keys EndA_prices EndA_firsts EndA_wayCounts : Nat → Int32) (EndA_size : Int32) (EndB_keys EndB_prices EndB_firsts EndB_wayCounts : Nat → Int32) (EndB_size : Int32) (Line_kinds Line_ticks Line_drums Line_marks Line_strokeTicks Line_strokeHeights : Nat → Int32) (Line_count : Int32) (Rules_values : Nat → Int32) (p1 p2 : Int32) : Option (Int32 × Int32 × Int32 × Int32 × Int32 × Int32 × Int32 × Int32 × Int32 × Int32 × (Nat → Int32) × (Nat → Int32) × (Nat → Int32) × (Nat → Int32) × Int32 × (Nat → Int32) × (Nat → Int32) × (Nat → Int32) × (Nat → Int32) × Int32) :=
  b1 (f_Room_isBelow p1 2) fun r1 =>
  if r1 = 0 then (
    b2 (f_Room_finding Room_findings (-100001)) fun r4 y5 =>
    some (r4, y5, Hands_leastPrice, Hands_best, Hands_bestWays, Hands_stuckAt, Hands_walkPrice, Hands_isKnown, Arms_left, Arms_right, EndA_keys, EndA_prices, EndA_firsts, EndA_wayCounts, EndA_size, EndB_keys, EndB_prices, EndB_firsts, EndB_wayCounts, EndB_size))
  else
    b1 (f_Line_hasNote Line_count p2) fun r7 =>
    if r7 = 0 then (
      b2 (f_Room_finding Room_findings (-100001)) fun r55 y56 =>
      some (r55, y56, Hands_leastPrice, Hands_best, Hands_bestWays, Hands_stuckAt, Hands_walkPrice, Hands_isKnown, Arms_left, Arms_right, EndA_keys, EndA_prices, EndA_firsts, EndA_wayCounts, EndA_size, EndB_keys, EndB_prices, EndB_firsts, EndB_wayCounts, EndB_size))
    else
      b18 (f_Hands_exist Hands_leastPrice Hands_best Hands_bestWays Hands_stuckAt Hands_isKnown Arms_left Arms_right EndA_keys EndA_prices EndA_firsts EndA_wayCounts EndA_size EndB_keys EndB_prices EndB_firsts EndB_wayCounts EndB_size Line_kinds Line_ticks Line_drums Line_marks Line_strokeTicks Line_strokeHeights Line_count Rules_values) fun r10 y11 y12 y13 y14 y15 y16 y17 y18 y19 y20 y21 y22 y23 y24 y25 y26 y27 =>
      if r10 = 0 then (
        b2 (f_Room_finding Room_findings (-100006)) fun r52 y53 =>
        some (r52, y53, y11, y12, y13, y14, Hands_walkPrice, y15, y16, y17, y18, y19, y20, y21, y22, y23, y24, y25, y26, y27))
      else
        b4 (f_Hands_walk Hands_walkPrice y16 y17 Line_kinds Line_ticks Line_drums Line_marks Line_strokeTicks Line_strokeHeights Line_count Rules_values y12 p2) fun r40 y41 y42 y43 =>
        b1 (f_Arms_strokeOf y42 y43 p1) fun r45 =>
        if r45 = 0 then (
          b2 (f_Room_finding Room_findings (-100006)) fun r49 y50 =>
          some (r49, y50, y11, y12, y13, y14, y41, y15, y42, y43, y18, y19, y20, y21, y22, y23, y24, y25, y26, y27))
        else
          rd 41 Line_strokeTicks r45 fun x48 =>
          some (x48, Room_findings, y11, y12, y13, y14, y41, y15, y42, y43, y18, y19, y20, y21, y22, y23, y24, y25, y26, y27)
noncomputable def f_Room_bass_32   (l1 l2 k0 Room_findings Hands_isKnown Basses_there Past_count : Int32) (Past_acts Past_firsts Past_seconds : Nat → Int32) (Past_slot : Int32) : Option (Int32 × Int32 × Int32 × Int32 × Int32 × (Nat → Int32) × (Nat → Int32) × (Nat → Int32) × Int32) :=
  b6 (f_Room_keep Hands_isKnown Past_count Past_acts Past_firsts Past_seconds Past_slot 4 Basses_there 0) fun y1 y2 y3 y4 y5 y6 =>
  b1 (f_Basses_change Basses_there l1 l2) fun y8 =>
  if k0 = 0 then (
    some (0, Room_findings, y1, y8, y2, y3, y4, y5, y6))
  else
    some (1, Room_findings, y1, y8, y2, y3, y4, y5, y6)
noncomputable def f_Room_bass (Room_findings Hands_isKnown Basses_there Past_count : Int32) (Past_acts Past_firsts Past_seconds : Nat → Int32) (Past_slot p1 p2 : Int32) : Option (Int32 × Int32 × Int32 × Int32 × Int32 × (Nat → Int32) × (Nat → Int32) × (Nat → Int32) × Int32) :=
  b1 (f_Room_isBelow p1 5) fun r11 =>
  if r11 = 0 then (
    b2 (f_Room_finding Room_findings (-100001)) fun r17 y18 =>
    some (r17, y18, Hands_isKnown, Basses_there, Past_count, Past_acts, Past_firsts, Past_seconds, Past_slot))
  else
    b1 (f_Basses_isThere Basses_there p1) fun r14 =>
    if r14 = p2 then (
      f_Room_bass_32 p1 p2 0 Room_findings Hands_isKnown Basses_there Past_count Past_acts Past_firsts Past_seconds Past_slot)
    else
      f_Room_bass_32 p1 p2 1 Room_findings Hands_isKnown Basses_there Past_count Past_acts Past_firsts Past_seconds Past_slot
noncomputable def f_Room_hit (Room_findings Hands_isKnown : Int32) (Tapes_counts Tapes_hits : Nat → Int32) (Past_count : Int32) (Past_acts Past_firsts Past_seconds : Nat → Int32) (Past_slot p1 p2 : Int32) : Option (Int32 × Int32 × Int32 × (Nat → Int32) × (Nat → Int32) × Int32 × (Nat → Int32) × (Nat → Int32) × (Nat → Int32) × Int32) :=
  b1 (f_Room_isBelow p1 4) fun r1 =>
  if r1 = 0 then (
    b2 (f_Room_finding Room_findings (-100001)) fun r4 y5 =>
    some (r4, y5, Hands_isKnown, Tapes_counts, Tapes_hits, Past_count, Past_acts, Past_firsts, Past_seconds, Past_slot))
  else
    b1 (f_Room_isTick p2) fun r7 =>
    if r7 = 0 then (
      b2 (f_Room_finding Room_findings (-100001)) fun r32 y33 =>
      some (r32, y33, Hands_isKnown, Tapes_counts, Tapes_hits, Past_count, Past_acts, Past_firsts, Past_seconds, Past_slot))
    else
      b1 (f_Tapes_latestTick Tapes_counts Tapes_hits p1) fun r10 =>
      if r10 ≤ p2 then (
        rd 4 Tapes_counts p1 fun x13 =>
        if x13 < 24 then (
          b6 (f_Room_keep Hands_isKnown Past_count Past_acts Past_firsts Past_seconds Past_slot 5 p1 0) fun y15 y16 y17 y18 y19 y20 =>
          b2 (f_Tapes_append Tapes_counts Tapes_hits p1 p2) fun y22 y23 =>
          rd 4 y22 p1 fun x25 =>
          some (x25, Room_findings, y15, y22, y23, y16, y17, y18, y19, y20))
        else
          b2 (f_Room_finding Room_findings (-100005)) fun r26 y27 =>
          some (r26, y27, Hands_isKnown, Tapes_counts, Tapes_hits, Past_count, Past_acts, Past_firsts, Past_seconds, Past_slot))
      else
        b2 (f_Room_finding Room_findings (-100003)) fun r29 y30 =>
        some (r29, y30, Hands_isKnown, Tapes_counts, Tapes_hits, Past_count, Past_acts, Past_firsts, Past_seconds, Past_slot)
noncomputable def f_Room_split_29 (Line_count Basses_there : Int32)  (Room_findings : Int32) : Option (Int32 × Int32) :=
  b2 (f_Room_finding Room_findings (-100001)) fun r1 y2 =>
  some (r1, y2)
noncomputable def f_Room_split (Room_findings Line_count Basses_there p1 p2 p3 p4 : Int32) : Option (Int32 × Int32) :=
  b1 (f_Room_isRun Line_count p1 p2) fun r4 =>
  if r4 = 0 then (
    f_Room_split_29 Line_count Basses_there Room_findings)
  else
    b1 (f_Room_isBelow p3 3) fun r7 =>
    if r7 = 0 then (
      f_Room_split_29 Line_count Basses_there Room_findings)
    else
      if p4 < p1 then (
        f_Room_split_29 Line_count Basses_there Room_findings)
      else
        if p4 ≤ p2 then (
          if Basses_there = 0 then (
            b2 (f_Room_finding Room_findings (-100006)) fun r15 y16 =>
            some (r15, y16))
          else
            b1 (f_Basses_owner Basses_there p3 (p4 - p1)) fun r13 =>
            some (r13, Room_findings))
        else
          f_Room_split_29 Line_count Basses_there Room_findings
noncomputable def f_Room_has_26 (Line_count Basses_there : Int32)  (Room_findings : Int32) : Option (Int32 × Int32) :=
  b2 (f_Room_finding Room_findings (-100001)) fun r1 y2 =>
  some (r1, y2)
noncomputable def f_Room_has (Room_findings Line_count Basses_there p1 p2 p3 p4 : Int32) : Option (Int32 × Int32) :=
  b1 (f_Room_isBelow p4 5) fun r4 =>
  if r4 = 0 then (
    f_Room_has_26 Line_count Basses_there Room_findings)
  else
    b1 (f_Room_isRun Line_count p1 p2) fun r7 =>
    if r7 = 0 then (
      f_Room_has_26 Line_count Basses_there Room_findings)
    else
      b1 (f_Room_isBelow p3 3) fun r10 =>
      if r10 = 0 then (
        f_Room_has_26 Line_count Basses_there Room_findings)
      else
        if Basses_there = 0 then (
          b2 (f_Room_finding Room_findings (-100006)) fun r16 y17 =>
          some (r16, y17))
        else
          b1 (f_Basses_notesOf Basses_there p4 p1 p2 p3) fun r14 =>
          some (r14, Room_findings)
noncomputable def f_Room_fast (Room_findings : Int32) (Line_ticks : Nat → Int32) (Line_count : Int32) (Rules_values : Nat → Int32) (Basses_there : Int32) (Basses_latestTicks : Nat → Int32) (p1 p2 p3 : Int32) : Option (Int32 × Int32 × (Nat → Int32)) :=
  b1 (f_Room_isRun Line_count p1 p2) fun r1 =>
  if r1 = 0 then (
    b2 (f_Room_finding Room_findings (-100001)) fun r4 y5 =>
    some (r4, y5, Basses_latestTicks))
  else
    b1 (f_Room_isBelow p3 3) fun r7 =>
    if r7 = 0 then (
      b2 (f_Room_finding Room_findings (-100001)) fun r17 y18 =>
      some (r17, y18, Basses_latestTicks))
    else
      if Basses_there = 0 then (
        b2 (f_Room_finding Room_findings (-100006)) fun r14 y15 =>
        some (r14, y15, Basses_latestTicks))
      else
        b2 (f_Basses_tooFast Line_ticks Rules_values Basses_there Basses_latestTicks p1 p2 p3) fun r11 y12 =>
        some (r11, Room_findings, y12)
noncomputable def f_Room_wipe (Room_findings Hands_isKnown : Int32) (Tapes_counts Tapes_hits : Nat → Int32) (Past_count : Int32) (Past_acts Past_firsts Past_seconds Past_hits : Nat → Int32) (Past_slot p1 : Int32) : Option (Int32 × Int32 × Int32 × (Nat → Int32) × Int32 × (Nat → Int32) × (Nat → Int32) × (Nat → Int32) × (Nat → Int32) × Int32) :=
  b1 (f_Room_isBelow p1 4) fun r1 =>
  if r1 = 0 then (
    b2 (f_Room_finding Room_findings (-100001)) fun r15 y16 =>
    some (r15, y16, Hands_isKnown, Tapes_counts, Past_count, Past_acts, Past_firsts, Past_seconds, Past_hits, Past_slot))
  else
    rd 4 Tapes_counts p1 fun x4 =>
    b7 (f_Room_keepTape Hands_isKnown Tapes_counts Tapes_hits Past_count Past_acts Past_firsts Past_seconds Past_hits Past_slot p1) fun y5 y6 y7 y8 y9 y10 y11 =>
    b1 (f_Tapes_clear Tapes_counts p1) fun y13 =>
    some (x4, Room_findings, y5, y13, y6, y7, y8, y9, y10, y11)
noncomputable def f_Room_shape (Room_findings : Int32) (Line_ticks : Nat → Int32) (Line_count : Int32) (Rules_values : Nat → Int32) (Basses_there : Int32) (Basses_latestTicks : Nat → Int32) (p1 p2 : Int32) : Option (Int32 × Int32 × (Nat → Int32)) :=
  b1 (f_Room_isRun Line_count p1 p2) fun r1 =>
  if r1 = 0 then (
    b2 (f_Room_finding Room_findings (-100001)) fun r11 y12 =>
    some (r11, y12, Basses_latestTicks))
  else
    if Basses_there = 0 then (
      b2 (f_Room_finding Room_findings (-100006)) fun r8 y9 =>
      some (r8, y9, Basses_latestTicks))
    else
      b2 (f_Basses_slowestShape Line_ticks Rules_values Basses_there Basses_latestTicks p1 p2) fun r5 y6 =>
      some (r5, Room_findings, y6)
noncomputable def f_Room_price (Room_findings : Int32) (Line_ticks : Nat → Int32) (Line_count : Int32) (Rules_values Tapes_counts Tapes_hits Reading_matches : Nat → Int32) (Reading_matched : Int32) (Reading_prices : Nat → Int32) (Reading_player p1 : Int32) : Option (Int32 × Int32 × (Nat → Int32) × Int32 × (Nat → Int32) × Int32) :=
  b1 (f_Room_isBelow p1 4) fun r1 =>
  if r1 = 0 then (
    b2 (f_Room_finding Room_findings (-100001)) fun r11 y12 =>
    some (r11, y12, Reading_matches, Reading_matched, Reading_prices, Reading_player))
  else
    b4 (f_Reading_find Line_ticks Line_count Rules_values Tapes_counts Tapes_hits Reading_matches Reading_matched Reading_prices Reading_player p1) fun y4 y5 y6 y7 =>
    b1 (f_Reading_leastPrice y6) fun r9 =>
    some (r9, Room_findings, y4, y5, y6, y7)
noncomputable def f_Room_read (Room_findings : Int32) (Line_ticks : Nat → Int32) (Line_count : Int32) (Rules_values Tapes_counts Tapes_hits Reading_matches : Nat → Int32) (Reading_matched : Int32) (Reading_prices : Nat → Int32) (Reading_player p1 p2 : Int32) : Option (Int32 × Int32 × (Nat → Int32) × Int32 × (Nat → Int32) × Int32) :=
  b1 (f_Room_isBelow p1 4) fun r1 =>
  if r1 = 0 then (
    b2 (f_Room_finding Room_findings (-100001)) fun r4 y5 =>
    some (r4, y5, Reading_matches, Reading_matched, Reading_prices, Reading_player))
  else
    b1 (f_Line_hasNote Line_count p2) fun r7 =>
    if r7 = 0 then (
      b2 (f_Room_finding Room_findings (-100001)) fun r20 y21 =>
      some (r20, y21, Reading_matches, Reading_matched, Reading_prices, Reading_player))
    else
      b4 (f_Reading_find Line_ticks Line_count Rules_values Tapes_counts Tapes_hits Reading_matches Reading_matched Reading_prices Reading_player p1) fun y10 y11 y12 y13 =>
      rd 20 y10 p2 fun x15 =>
      if x15 = (-1) then (
        b2 (f_Room_finding Room_findings (-100006)) fun r17 y18 =>
        some (r17, y18, y10, y11, y12, y13))
      else
        some (x15, Room_findings, y10, y11, y12, y13)
noncomputable def f_Room_late (Room_findings : Int32) (Line_ticks : Nat → Int32) (Line_count : Int32) (Rules_values Tapes_counts Tapes_hits Reading_matches : Nat → Int32) (Reading_matched : Int32) (Reading_prices : Nat → Int32) (Reading_player p1 p2 : Int32) : Option (Int32 × Int32 × (Nat → Int32) × Int32 × (Nat → Int32) × Int32) :=
  b1 (f_Room_isBelow p1 4) fun r1 =>
  if r1 = 0 then (
    b2 (f_Room_finding Room_findings (-100001)) fun r4 y5 =>
    some (r4, y5, Reading_matches, Reading_matched, Reading_prices, Reading_player))
  else
    b1 (f_Line_hasNote Line_count p2) fun r7 =>
    if r7 = 0 then (
      b2 (f_Room_finding Room_findings (-100001)) fun r23 y24 =>
      some (r23, y24, Reading_matches, Reading_matched, Reading_prices, Reading_player))
    else
      b4 (f_Reading_find Line_ticks Line_count Rules_values Tapes_counts Tapes_hits Reading_matches Reading_matched Reading_prices Reading_player p1) fun y10 y11 y12 y13 =>
      rd 20 y10 p2 fun x15 =>
      if x15 = (-1) then (
        b2 (f_Room_finding Room_findings (-100006)) fun r20 y21 =>
        some (r20, y21, y10, y11, y12, y13))
      else
        b1 (f_Tapes_tickAt Tapes_hits p1 x15) fun r17 =>
        rd 20 Line_ticks p2 fun x19 =>
        some ((r17 - x19), Room_findings, y10, y11, y12, y13)
noncomputable def f_Room_missed (Room_findings : Int32) (Line_ticks : Nat → Int32) (Line_count : Int32) (Rules_values Tapes_counts Tapes_hits Reading_matches : Nat → Int32) (Reading_matched : Int32) (Reading_prices : Nat → Int32) (Reading_player p1 p2 : Int32) : Option (Int32 × Int32 × (Nat → Int32) × Int32 × (Nat → Int32) × Int32) :=
  b1 (f_Room_isBelow p1 4) fun r1 =>
  if r1 = 0 then (
    b2 (f_Room_finding Room_findings (-100001)) fun r11 y12 =>
    some (r11, y12, Reading_matches, Reading_matched, Reading_prices, Reading_player))
  else
    b4 (f_Reading_find Line_ticks Line_count Rules_values Tapes_counts Tapes_hits Reading_matches Reading_matched Reading_prices Reading_player p1) fun y4 y5 y6 y7 =>
    if p2 = 0 then (
      some ((Line_count - y5), Room_findings, y4, y5, y6, y7))
    else
      rd 4 Tapes_counts p1 fun x10 =>
      some ((x10 - y5), Room_findings, y4, y5, y6, y7)
noncomputable def f_Room_sheet (Room_findings : Int32) (Sheets_bits Sheets_sizes Sheets_numbers : Nat → Int32) (p1 p2 p3 : Int32) : Option (Int32 × Int32 × (Nat → Int32) × (Nat → Int32) × (Nat → Int32)) :=
  b1 (f_Room_isBelow p1 4) fun r1 =>
  if r1 = 0 then (
    b2 (f_Room_finding Room_findings (-100001)) fun r4 y5 =>
    some (r4, y5, Sheets_bits, Sheets_sizes, Sheets_numbers))
  else
    b1 (f_Sheets_areBits p2) fun r7 =>
    if r7 = 0 then (
      b2 (f_Room_finding Room_findings (-100001)) fun r23 y24 =>
      some (r23, y24, Sheets_bits, Sheets_sizes, Sheets_numbers))
    else
      if 0 ≤ p3 then (
        if p3 ≤ 24 then (
          b3 (f_Sheets_become Sheets_bits Sheets_sizes Sheets_numbers p1 p2 p3) fun y12 y13 y14 =>
          rd 4 y13 p1 fun x16 =>
          some (x16, Room_findings, y12, y13, y14))
        else
          b2 (f_Room_finding Room_findings (-100001)) fun r17 y18 =>
          some (r17, y18, Sheets_bits, Sheets_sizes, Sheets_numbers))
      else
        b2 (f_Room_finding Room_findings (-100003)) fun r20 y21 =>
        some (r20, y21, Sheets_bits, Sheets_sizes, Sheets_numbers)
noncomputable def f_Room_put (Room_findings : Int32) (Sheets_bits Sheets_sizes Sheets_numbers : Nat → Int32) (p1 p2 p3 : Int32) : Option (Int32 × Int32 × (Nat → Int32)) :=
  b1 (f_Room_isBelow p1 4) fun r1 =>
  if r1 = 0 then (
    b2 (f_Room_finding Room_findings (-100001)) fun r19 y20 =>
    some (r19, y20, Sheets_numbers))
  else
    b1 (f_Sheets_isMissing Sheets_bits p1) fun r4 =>
    if r4 = 0 then (
      rd 4 Sheets_sizes p1 fun x7 =>
      b1 (f_Room_isBelow p2 x7) fun r8 =>
      if r8 = 0 then (
        b2 (f_Room_finding Room_findings (-100001)) fun r13 y14 =>
        some (r13, y14, Sheets_numbers))
      else
        b1 (f_Sheets_write Sheets_bits Sheets_numbers p1 p2 p3) fun y11 =>
        some (0, Room_findings, y11))
    else
      b2 (f_Room_finding Room_findings (-100002)) fun r16 y17 =>
      some (r16, y17, Sheets_numbers)
noncomputable def f_Room_copy (Room_findings : Int32) (Sheets_bits Sheets_sizes Sheets_numbers : Nat → Int32) (p1 p2 p3 p4 p5 : Int32) : Option (Int32 × Int32 × (Nat → Int32)) :=
  b1 (f_Room_isBelow p1 4) fun r1 =>
  if r1 = 0 then (
    b2 (f_Room_finding Room_findings (-100001)) fun r4 y5 =>
    some (r4, y5, Sheets_numbers))
  else
    b1 (f_Room_isBelow p3 4) fun r7 =>
    if r7 = 0 then (
      b2 (f_Room_finding Room_findings (-100001)) fun r42 y43 =>
      some (r42, y43, Sheets_numbers))
    else
      b1 (f_Sheets_isMissing Sheets_bits p1) fun r10 =>
      if r10 = 0 then (
        b1 (f_Sheets_isMissing Sheets_bits p3) fun r16 =>
        if r16 = 0 then (
          rd 4 Sheets_bits p1 fun x19 =>
          rd 4 Sheets_bits p3 fun x20 =>
          if x19 = x20 then (
            b1 (f_Sheets_hasSpan Sheets_sizes p1 p2 p5) fun r22 =>
            if r22 = 0 then (
              b2 (f_Room_finding Room_findings (-100001)) fun r25 y26 =>
              some (r25, y26, Sheets_numbers))
            else
              b1 (f_Sheets_hasSpan Sheets_sizes p3 p4 p5) fun r28 =>
              if r28 = 0 then (
                b2 (f_Room_finding Room_findings (-100001)) fun r33 y34 =>
                some (r33, y34, Sheets_numbers))
              else
                b1 (f_Sheets_move Sheets_numbers p1 p2 p3 p4 p5) fun y31 =>
                some (p5, Room_findings, y31))
          else
            b2 (f_Room_finding Room_findings (-100004)) fun r36 y37 =>
            some (r36, y37, Sheets_numbers))
        else
          b2 (f_Room_finding Room_findings (-100002)) fun r39 y40 =>
          some (r39, y40, Sheets_numbers))
      else
        b2 (f_Room_finding Room_findings (-100002)) fun r13 y14 =>
        some (r13, y14, Sheets_numbers)
noncomputable def f_Room_all (Room_findings : Int32) (Line_marks : Nat → Int32) (Line_count Basses_there : Int32) (Tapes_counts : Nat → Int32) (p1 : Int32) : Option (Int32 × Int32) :=
  if p1 = 0 then (
    some (Line_count, Room_findings))
  else
  if p1 = 1 then (
    b1 (f_Line_countMarks Line_marks Line_count) fun r3 =>
    some (r3, Room_findings))
  else
  if p1 = 2 then (
    some (Basses_there, Room_findings))
  else
  if p1 = 3 then (
    b1 (f_Tapes_countAll Tapes_counts) fun r7 =>
    some (r7, Room_findings))
  else
  if p1 = 4 then (
    some (Room_findings, Room_findings))
  else
    b2 (f_Room_finding Room_findings (-100001)) fun r10 y11 =>
    some (r10, y11)
noncomputable def f_Room_tape_120 (Sheets_bits Sheets_sizes Sheets_numbers : Nat → Int32)  (l1 Room_findings Hands_isKnown : Int32) (Tapes_counts Tapes_hits : Nat → Int32) (Past_count : Int32) (Past_acts Past_firsts Past_seconds Past_hits : Nat → Int32) (Past_slot : Int32) : Option (Int32 × Int32 × Int32 × (Nat → Int32) × (Nat → Int32) × Int32 × (Nat → Int32) × (Nat → Int32) × (Nat → Int32) × (Nat → Int32) × Int32) :=
  rd 4 Tapes_counts l1 fun x1 =>
  some (x1, Room_findings, Hands_isKnown, Tapes_counts, Tapes_hits, Past_count, Past_acts, Past_firsts, Past_seconds, Past_hits, Past_slot)
noncomputable def f_Room_tape_56_b (Sheets_bits Sheets_sizes Sheets_numbers : Nat → Int32)  (K56 : Int32 → Int32 → Int32 → Int32 → Int32 → (Nat → Int32) → (Nat → Int32) → Int32 → (Nat → Int32) → (Nat → Int32) → (Nat → Int32) → (Nat → Int32) → Int32 → Option (Int32 × Int32 × Int32 × (Nat → Int32) × (Nat → Int32) × Int32 × (Nat → Int32) × (Nat → Int32) × (Nat → Int32) × (Nat → Int32) × Int32)) (l1 l2 l3 Room_findings Hands_isKnown : Int32) (Tapes_counts Tapes_hits : Nat → Int32) (Past_count : Int32) (Past_acts Past_firsts Past_seconds Past_hits : Nat → Int32) (Past_slot : Int32) : Option (Int32 × Int32 × Int32 × (Nat → Int32) × (Nat → Int32) × Int32 × (Nat → Int32) × (Nat → Int32) × (Nat → Int32) × (Nat → Int32) × Int32) :=
  rd 4 Sheets_sizes l2 fun x2 =>
  if x2 ≤ l3 then (
    f_Room_tape_120 Sheets_bits Sheets_sizes Sheets_numbers l1 Room_findings Hands_isKnown Tapes_counts Tapes_hits Past_count Past_acts Past_firsts Past_seconds Past_hits Past_slot)
  else
    b1 (f_Sheets_numberAt Sheets_numbers l2 l3) fun r4 =>
    b1 (f_Room_isTick r4) fun r6 =>
    if r6 = 0 then (
      f_Room_tape_120 Sheets_bits Sheets_sizes Sheets_numbers l1 Room_findings Hands_isKnown Tapes_counts Tapes_hits Past_count Past_acts Past_firsts Past_seconds Past_hits Past_slot)
    else
      b1 (f_Tapes_latestTick Tapes_counts Tapes_hits l1) fun r9 =>
      if r9 ≤ r4 then (
        b2 (f_Tapes_append Tapes_counts Tapes_hits l1 r4) fun y12 y13 =>
        nm (l3 + 1) fun x15 =>
        K56 l1 l2 x15 Room_findings Hands_isKnown y12 y13 Past_count Past_acts Past_firsts Past_seconds Past_hits Past_slot)
      else
        f_Room_tape_120 Sheets_bits Sheets_sizes Sheets_numbers l1 Room_findings Hands_isKnown Tapes_counts Tapes_hits Past_count Past_acts Past_firsts Past_seconds Past_hits Past_slot
noncomputable def f_Room_tape_56 (Sheets_bits Sheets_sizes Sheets_numbers : Nat → Int32)  : Nat → Int32 → Int32 → Int32 → Int32 → Int32 → (Nat → Int32) → (Nat → Int32) → Int32 → (Nat → Int32) → (Nat → Int32) → (Nat → Int32) → (Nat → Int32) → Int32 → Option (Int32 × Int32 × Int32 × (Nat → Int32) × (Nat → Int32) × Int32 × (Nat → Int32) × (Nat → Int32) × (Nat → Int32) × (Nat → Int32) × Int32)
  | 0 => fun _ _ _ _ _ _ _ _ _ _ _ _ _ => none
  | n + 1 => fun l1 l2 l3 Room_findings Hands_isKnown Tapes_counts Tapes_hits Past_count Past_acts Past_firsts Past_seconds Past_hits Past_slot => f_Room_tape_56_b Sheets_bits Sheets_sizes Sheets_numbers  (f_Room_tape_56 Sheets_bits Sheets_sizes Sheets_numbers  n) l1 l2 l3 Room_findings Hands_isKnown Tapes_counts Tapes_hits Past_count Past_acts Past_firsts Past_seconds Past_hits Past_slot
noncomputable def f_Room_tape (Room_findings Hands_isKnown : Int32) (Tapes_counts Tapes_hits Sheets_bits Sheets_sizes Sheets_numbers : Nat → Int32) (Past_count : Int32) (Past_acts Past_firsts Past_seconds Past_hits : Nat → Int32) (Past_slot p1 p2 : Int32) : Option (Int32 × Int32 × Int32 × (Nat → Int32) × (Nat → Int32) × Int32 × (Nat → Int32) × (Nat → Int32) × (Nat → Int32) × (Nat → Int32) × Int32) :=
  b1 (f_Room_isBelow p1 4) fun r16 =>
  if r16 = 0 then (
    b2 (f_Room_finding Room_findings (-100001)) fun r19 y20 =>
    some (r19, y20, Hands_isKnown, Tapes_counts, Tapes_hits, Past_count, Past_acts, Past_firsts, Past_seconds, Past_hits, Past_slot))
  else
    b1 (f_Room_isBelow p2 4) fun r22 =>
    if r22 = 0 then (
      b2 (f_Room_finding Room_findings (-100001)) fun r41 y42 =>
      some (r41, y42, Hands_isKnown, Tapes_counts, Tapes_hits, Past_count, Past_acts, Past_firsts, Past_seconds, Past_hits, Past_slot))
    else
      b1 (f_Sheets_isMissing Sheets_bits p2) fun r25 =>
      if r25 = 0 then (
        b7 (f_Room_keepTape Hands_isKnown Tapes_counts Tapes_hits Past_count Past_acts Past_firsts Past_seconds Past_hits Past_slot p1) fun y28 y29 y30 y31 y32 y33 y34 =>
        b1 (f_Tapes_clear Tapes_counts p1) fun y36 =>
        f_Room_tape_56 Sheets_bits Sheets_sizes Sheets_numbers fu p1 p2 0 Room_findings y28 y36 Tapes_hits y29 y30 y31 y32 y33 y34)
      else
        b2 (f_Room_finding Room_findings (-100002)) fun r38 y39 =>
        some (r38, y39, Hands_isKnown, Tapes_counts, Tapes_hits, Past_count, Past_acts, Past_firsts, Past_seconds, Past_hits, Past_slot)
noncomputable def f_Room_undo (Room_findings Hands_isKnown : Int32) (Line_kinds Line_ticks Line_drums Line_marks Line_strokeTicks Line_strokeHeights : Nat → Int32) (Line_count : Int32) (Rules_values : Nat → Int32) (Basses_there : Int32) (Tapes_counts Tapes_hits : Nat → Int32) (Past_count : Int32) (Past_acts Past_firsts Past_seconds Past_ticks Past_drums Past_hits : Nat → Int32) (Past_slot : Int32) : Option (Int32 × Int32 × Int32 × (Nat → Int32) × (Nat → Int32) × (Nat → Int32) × (Nat → Int32) × (Nat → Int32) × (Nat → Int32) × Int32 × (Nat → Int32) × Int32 × (Nat → Int32) × (Nat → Int32) × Int32 × Int32) :=
  if Past_count = 0 then (
    b2 (f_Room_finding Room_findings (-100006)) fun r19 y20 =>
    some (r19, y20, Hands_isKnown, Line_kinds, Line_ticks, Line_drums, Line_marks, Line_strokeTicks, Line_strokeHeights, Line_count, Rules_values, Basses_there, Tapes_counts, Tapes_hits, Past_count, Past_slot))
  else
    b11 (f_Room_revert Line_kinds Line_ticks Line_drums Line_marks Line_strokeTicks Line_strokeHeights Line_count Rules_values Basses_there Tapes_counts Tapes_hits Past_acts Past_firsts Past_seconds Past_ticks Past_drums Past_hits Past_slot) fun y2 y3 y4 y5 y6 y7 y8 y9 y10 y11 y12 =>
    b2 (f_Past_forgetLatest Past_count Past_slot) fun y14 y15 =>
    b1 (f_Hands_forget Hands_isKnown) fun y17 =>
    some (y14, Room_findings, y17, y2, y3, y4, y5, y6, y7, y8, y9, y10, y11, y12, y14, y15)
noncomputable def f_Model_finding (Model_findings p1 : Int32) : Option (Int32 × Int32) :=
  nm (Model_findings + 1) fun x1 =>
  some (p1, x1)
noncomputable def f_Model_within (p0 p1 p2 : Int32) : Option (Int32) :=
  if p0 < p1 then (
    some 0)
  else
    if p2 < p0 then (
      some 0)
    else
      some 1
noncomputable def f_Model_keep_52_b (Model_now : Nat → Int32)  (K52 : Int32 → (Nat → Int32) → Int32 → Option ((Nat → Int32) × Int32)) (l1 : Int32) (Model_past : Nat → Int32) (Model_kept : Int32) : Option ((Nat → Int32) × Int32) :=
  if 187 ≤ l1 then (
    nm (Model_kept + 1) fun x2 =>
    some (Model_past, x2))
  else
    rd 187 Model_now l1 fun x3 =>
    ck 3740 ((Model_kept * 187) + l1) <|
    nm (l1 + 1) fun x5 =>
    K52 x5 (upd Model_past ((Model_kept * 187) + l1).toNatClampNeg x3) Model_kept
noncomputable def f_Model_keep_52 (Model_now : Nat → Int32)  : Nat → Int32 → (Nat → Int32) → Int32 → Option ((Nat → Int32) × Int32)
  | 0 => fun _ _ _ => none
  | n + 1 => fun l1 Model_past Model_kept => f_Model_keep_52_b Model_now  (f_Model_keep_52 Model_now  n) l1 Model_past Model_kept
noncomputable def f_Model_keep_11_b (Model_now : Nat → Int32)  (K11 : Int32 → (Nat → Int32) → Int32 → Option ((Nat → Int32) × Int32)) (l1 : Int32) (Model_past : Nat → Int32) (Model_kept : Int32) : Option ((Nat → Int32) × Int32) :=
  if 3553 ≤ l1 then (
    nm (Model_kept - 1) fun x7 =>
    f_Model_keep_52 Model_now fu 0 Model_past x7)
  else
    rd 3740 Model_past (l1 + 187) fun x8 =>
    ck 3740 l1 <|
    nm (l1 + 1) fun x10 =>
    K11 x10 (upd Model_past l1.toNatClampNeg x8) Model_kept
noncomputable def f_Model_keep_11 (Model_now : Nat → Int32)  : Nat → Int32 → (Nat → Int32) → Int32 → Option ((Nat → Int32) × Int32)
  | 0 => fun _ _ _ => none
  | n + 1 => fun l1 Model_past Model_kept => f_Model_keep_11_b Model_now  (f_Model_keep_11 Model_now  n) l1 Model_past Model_kept
noncomputable def f_Model_keep (Model_now Model_past : Nat → Int32) (Model_kept : Int32) : Option ((Nat → Int32) × Int32) :=
  if Model_kept = 20 then (
    f_Model_keep_11 Model_now fu 0 Model_past Model_kept)
  else
    f_Model_keep_52 Model_now fu 0 Model_past Model_kept
noncomputable def f_Model_graces (Model_now : Nat → Int32) (p1 : Int32) : Option (Int32) :=
  rd 187 Model_now (7 + p1) fun x1 =>
  if x1 = 3 then (
    some 2)
  else
    rd 187 Model_now (7 + p1) fun x3 =>
    if x3 = 2 then (
      some 1)
    else
      some 0
noncomputable def f_Model_mostOf (p0 : Int32) : Option (Int32) :=
  if p0 = 0 then (
    some 200)
  else
    if p0 = 3 then (
      some 200)
    else
      if p0 = 2 then (
        some 4)
      else
        some 100
noncomputable def f_Model_isNote (Model_now : Nat → Int32) (p1 : Int32) : Option (Int32) :=
  rd 187 Model_now 0 fun x1 =>
  b1 (f_Model_within p1 0 (x1 - 1)) fun r2 =>
  zb r2 <| some r2
noncomputable def f_Model_isTick (p0 : Int32) : Option (Int32) :=
  b1 (f_Model_within p0 0 9999) fun r1 =>
  zb r1 <| some r1
noncomputable def f_Model_isPlayer (p0 : Int32) : Option (Int32) :=
  b1 (f_Model_within p0 0 3) fun r1 =>
  zb r1 <| some r1
noncomputable def f_Model_undo_26_b (Model_past : Nat → Int32)  (K26 : Int32 → (Nat → Int32) → Int32 → Int32 → Option (Int32 × (Nat → Int32) × Int32 × Int32)) (l1 : Int32) (Model_now : Nat → Int32) (Model_kept Model_findings : Int32) : Option (Int32 × (Nat → Int32) × Int32 × Int32) :=
  if 187 ≤ l1 then (
    some (Model_kept, Model_now, Model_kept, Model_findings))
  else
    rd 3740 Model_past ((Model_kept * 187) + l1) fun x2 =>
    ck 187 l1 <|
    nm (l1 + 1) fun x4 =>
    K26 x4 (upd Model_now l1.toNatClampNeg x2) Model_kept Model_findings
noncomputable def f_Model_undo_26 (Model_past : Nat → Int32)  : Nat → Int32 → (Nat → Int32) → Int32 → Int32 → Option (Int32 × (Nat → Int32) × Int32 × Int32)
  | 0 => fun _ _ _ _ => none
  | n + 1 => fun l1 Model_now Model_kept Model_findings => f_Model_undo_26_b Model_past  (f_Model_undo_26 Model_past  n) l1 Model_now Model_kept Model_findings
noncomputable def f_Model_undo (Model_now Model_past : Nat → Int32) (Model_kept Model_findings : Int32) : Option (Int32 × (Nat → Int32) × Int32 × Int32) :=
  if Model_kept = 0 then (
    b2 (f_Model_finding Model_findings (-100006)) fun r7 y8 =>
    some (r7, Model_now, Model_kept, y8))
  else
    nm (Model_kept - 1) fun x6 =>
    f_Model_undo_26 Model_past fu 0 Model_now x6 Model_findings
noncomputable def f_Model_drop (Model_now Model_past : Nat → Int32) (Model_kept Model_findings : Int32) : Option (Int32 × (Nat → Int32) × (Nat → Int32) × Int32 × Int32) :=
  rd 187 Model_now 0 fun x1 =>
  if x1 = 0 then (
    b2 (f_Model_finding Model_findings (-100006)) fun r10 y11 =>
    some (r10, Model_now, Model_past, Model_kept, y11))
  else
    b2 (f_Model_keep Model_now Model_past Model_kept) fun y3 y4 =>
    rd 187 Model_now 0 fun x6 =>
    nm (x6 - 1) fun x7 =>
    ck 187 0 <|
    rd 187 (upd Model_now (0 : Int32).toNatClampNeg x7) 0 fun x9 =>
    some (x9, (upd Model_now (0 : Int32).toNatClampNeg x7), y3, y4, Model_findings)
noncomputable def f_Model_rule (Model_now Model_past : Nat → Int32) (Model_kept Model_findings p1 p2 : Int32) : Option (Int32 × (Nat → Int32) × (Nat → Int32) × Int32 × Int32) :=
  b1 (f_Model_within p1 0 4) fun r1 =>
  if r1 = 0 then (
    b2 (f_Model_finding Model_findings (-100001)) fun r4 y5 =>
    some (r4, Model_now, Model_past, Model_kept, y5))
  else
    b1 (f_Model_mostOf p1) fun r7 =>
    b1 (f_Model_within p2 0 r7) fun r9 =>
    if r9 = 0 then (
      b2 (f_Model_finding Model_findings (-100001)) fun r17 y18 =>
      some (r17, Model_now, Model_past, Model_kept, y18))
    else
      b2 (f_Model_keep Model_now Model_past Model_kept) fun y12 y13 =>
      rd 187 Model_now (2 + p1) fun x15 =>
      ck 187 (2 + p1) <|
      some (x15, (upd Model_now (2 + p1).toNatClampNeg p2), y12, y13, Model_findings)
noncomputable def f_Model_note_25   (Model_now Model_past : Nat → Int32) (Model_kept Model_findings : Int32) : Option (Int32 × (Nat → Int32) × (Nat → Int32) × Int32 × Int32) :=
  b2 (f_Model_finding Model_findings (-100001)) fun r1 y2 =>
  some (r1, Model_now, Model_past, Model_kept, y2)
noncomputable def f_Model_note_68   (l1 l2 l3 l4 : Int32) (Model_now Model_past : Nat → Int32) (Model_kept Model_findings : Int32) : Option (Int32 × (Nat → Int32) × (Nat → Int32) × Int32 × Int32) :=
  if l4 = 20 then (
    b2 (f_Model_finding Model_findings (-100005)) fun r15 y16 =>
    some (r15, Model_now, Model_past, Model_kept, y16))
  else
    b2 (f_Model_keep Model_now Model_past Model_kept) fun y5 y6 =>
    ck 187 (7 + l4) <|
    ck 187 (27 + l4) <|
    ck 187 (47 + l4) <|
    ck 187 (67 + l4) <|
    rd 187 (upd (upd (upd (upd Model_now (7 + l4).toNatClampNeg l1) (27 + l4).toNatClampNeg l2) (47 + l4).toNatClampNeg l3) (67 + l4).toNatClampNeg (-1)) 0 fun x12 =>
    nm (x12 + 1) fun x13 =>
    ck 187 0 <|
    some (l4, (upd (upd (upd (upd (upd Model_now (7 + l4).toNatClampNeg l1) (27 + l4).toNatClampNeg l2) (47 + l4).toNatClampNeg l3) (67 + l4).toNatClampNeg (-1)) (0 : Int32).toNatClampNeg x13), y5, y6, Model_findings)
noncomputable def f_Model_note (Model_now Model_past : Nat → Int32) (Model_kept Model_findings p1 p2 p3 : Int32) : Option (Int32 × (Nat → Int32) × (Nat → Int32) × Int32 × Int32) :=
  b1 (f_Model_within p1 0 3) fun r18 =>
  if r18 = 0 then (
    f_Model_note_25 Model_now Model_past Model_kept Model_findings)
  else
    b1 (f_Model_isTick p2) fun r21 =>
    if r21 = 0 then (
      f_Model_note_25 Model_now Model_past Model_kept Model_findings)
    else
      b1 (f_Model_within p3 0 4) fun r24 =>
      if r24 = 0 then (
        f_Model_note_25 Model_now Model_past Model_kept Model_findings)
      else
        rd 187 Model_now 0 fun x27 =>
        if x27 ≤ 0 then (
          f_Model_note_68 p1 p2 p3 x27 Model_now Model_past Model_kept Model_findings)
        else
          rd 187 Model_now ((27 + x27) - 1) fun x29 =>
          if x29 < p2 then (
            f_Model_note_68 p1 p2 p3 x27 Model_now Model_past Model_kept Model_findings)
          else
            b2 (f_Model_finding Model_findings (-100003)) fun r31 y32 =>
            some (r31, Model_now, Model_past, Model_kept, y32)
noncomputable def f_Model_as (Model_now : Nat → Int32) (Model_findings p1 p2 : Int32) : Option (Int32 × Int32) :=
  b1 (f_Model_isNote Model_now p1) fun r1 =>
  if r1 = 0 then (
    b2 (f_Model_finding Model_findings (-100001)) fun r4 y5 =>
    some (r4, y5))
  else
    b1 (f_Model_within p2 0 3) fun r7 =>
    if r7 = 0 then (
      b2 (f_Model_finding Model_findings (-100001)) fun r21 y22 =>
      some (r21, y22))
    else
      rd 187 Model_now (7 + p1) fun x10 =>
      if p2 = 0 then (
        some (p1, Model_findings))
      else
        if x10 = p2 then (
          some (p1, Model_findings))
        else
          if p2 = 2 then (
            if x10 = 3 then (
              some (p1, Model_findings))
            else
              b2 (f_Model_finding Model_findings (-100004)) fun r18 y19 =>
              some (r18, y19))
          else
            b2 (f_Model_finding Model_findings (-100004)) fun r14 y15 =>
            some (r14, y15)
noncomputable def f_Model_of (Model_now : Nat → Int32) (Model_findings p1 p2 : Int32) : Option (Int32 × Int32) :=
  b1 (f_Model_isNote Model_now p1) fun r1 =>
  if r1 = 0 then (
    b2 (f_Model_finding Model_findings (-100001)) fun r4 y5 =>
    some (r4, y5))
  else
    b1 (f_Model_within p2 0 3) fun r7 =>
    if r7 = 0 then (
      b2 (f_Model_finding Model_findings (-100001)) fun r18 y19 =>
      some (r18, y19))
    else
      if p2 = 0 then (
        rd 187 Model_now (7 + p1) fun x11 =>
        some (x11, Model_findings))
      else
      if p2 = 1 then (
        rd 187 Model_now (27 + p1) fun x13 =>
        some (x13, Model_findings))
      else
      if p2 = 2 then (
        rd 187 Model_now (47 + p1) fun x15 =>
        some (x15, Model_findings))
      else
        b1 (f_Model_graces Model_now p1) fun r16 =>
        some ((1 + r16), Model_findings)
noncomputable def f_Model_mark (Model_now Model_past : Nat → Int32) (Model_kept Model_findings p1 p2 : Int32) : Option (Int32 × (Nat → Int32) × (Nat → Int32) × Int32 × Int32) :=
  b1 (f_Model_isNote Model_now p1) fun r1 =>
  if r1 = 0 then (
    b2 (f_Model_finding Model_findings (-100001)) fun r4 y5 =>
    some (r4, Model_now, Model_past, Model_kept, y5))
  else
    b1 (f_Model_within p2 (-1) 1) fun r7 =>
    if r7 = 0 then (
      b2 (f_Model_finding Model_findings (-100001)) fun r15 y16 =>
      some (r15, Model_now, Model_past, Model_kept, y16))
    else
      b2 (f_Model_keep Model_now Model_past Model_kept) fun y10 y11 =>
      rd 187 Model_now (67 + p1) fun x13 =>
      ck 187 (67 + p1) <|
      some (x13, (upd Model_now (67 + p1).toNatClampNeg p2), y10, y11, Model_findings)
noncomputable def f_Model_tickOf (Model_now : Nat → Int32) (p1 : Int32) : Option (Int32) :=
  nm ((p1 - 1) / 2) fun x1 =>
  nm (jrem p1 2) fun x2 =>
  if x2 = 1 then (
    rd 187 Model_now (27 + x1) fun x5 =>
    some x5)
  else
    rd 187 Model_now (27 + x1) fun x4 =>
    some (x4 - 4)
noncomputable def f_Model_heightOf (Model_now : Nat → Int32) (p1 : Int32) : Option (Int32) :=
  nm (jrem p1 2) fun x1 =>
  if x1 = 0 then (
    some 1)
  else
    nm ((p1 - 1) / 2) fun x3 =>
    rd 187 Model_now (7 + x3) fun x4 =>
    if x4 = 0 then (
      some 1)
    else
      if x4 = 1 then (
        some 3)
      else
        some 2
noncomputable def f_Model_isCrossed (Model_now : Nat → Int32) (p1 p2 p3 : Int32) : Option (Int32) :=
  if p3 = 0 then (
    some 0)
  else
    rd 187 Model_now (47 + p1) fun x2 =>
    nm ((p3 - 1) / 2) fun x3 =>
    rd 187 Model_now (47 + x3) fun x4 =>
    if p2 = 1 then (
      if x4 ≤ x2 then (
        some 0)
      else
        some 1)
    else
      if x2 ≤ x4 then (
        some 0)
      else
        some 1
noncomputable def f_Model_stateOf (p0 p1 p2 p3 : Int32) : Option (Int32) :=
  nm ((((((p0 * 2) + p1) * 42) + p2) * 5) + p3) fun x1 =>
  some x1
noncomputable def f_Model_keepsTime (Model_now : Nat → Int32) (p1 p2 p3 : Int32) : Option (Int32) :=
  if p1 = 0 then (
    some 1)
  else
    b1 (f_Model_tickOf Model_now p1) fun r2 =>
    nm (p2 - r2) fun x4 =>
    rd 187 Model_now 2 fun x5 =>
    if x4 < x5 then (
      some 0)
    else
      rd 187 Model_now 3 fun x7 =>
      b1 (f_Model_heightOf Model_now p1) fun r8 =>
      nm (jabs (p3 - r8)) fun x10 =>
      if x4 < (x7 * x10) then (
        some 0)
      else
        some 1
noncomputable def f_Model_otherThen (Model_now : Nat → Int32) (p1 p2 : Int32) : Option (Int32) :=
  b1 (f_Model_graces Model_now p1) fun r1 =>
  if r1 ≤ 0 then (
    some p2)
  else
    some (2 + (2 * p1))
noncomputable def f_Model_awkwardness_84 (Model_now : Nat → Int32)  (l1 k0 k1 : Int32) : Option (Int32) :=
  nm (k0 + k1) fun x1 =>
  b1 (f_Model_graces Model_now l1) fun r2 =>
  if r2 ≤ 0 then (
    nm (x1 + 0) fun x5 =>
    some x5)
  else
    b1 (f_Model_graces Model_now (l1 - 1)) fun r6 =>
    if r6 ≤ 0 then (
      nm (x1 + 0) fun x9 =>
      some x9)
    else
      nm (x1 + 3) fun x10 =>
      some x10
noncomputable def f_Model_awkwardness_36 (Model_now : Nat → Int32)  (l1 l2 l3 k0 k1 : Int32) : Option (Int32) :=
  nm (k0 + k1) fun x11 =>
  if l2 = l3 then (
    nm (x11 + 2) fun x13 =>
    rd 187 Model_now (27 + l1) fun x14 =>
    rd 187 Model_now ((27 + l1) - 1) fun x15 =>
    rd 187 Model_now 5 fun x16 =>
    if x16 ≤ (x14 - x15) then (
      f_Model_awkwardness_84 Model_now l1 x13 0)
    else
      f_Model_awkwardness_84 Model_now l1 x13 1)
  else
    some x11
noncomputable def f_Model_awkwardness_10 (Model_now : Nat → Int32)  (l1 l2 l3 k0 : Int32) : Option (Int32) :=
  rd 187 Model_now (7 + l1) fun x18 =>
  if x18 = 1 then (
    if l2 = 0 then (
      f_Model_awkwardness_36 Model_now l1 l2 l3 k0 1)
    else
      f_Model_awkwardness_36 Model_now l1 l2 l3 k0 0)
  else
    f_Model_awkwardness_36 Model_now l1 l2 l3 k0 0
noncomputable def f_Model_awkwardness (Model_now : Nat → Int32) (p1 p2 p3 p4 : Int32) : Option (Int32) :=
  if p4 = 0 then (
    f_Model_awkwardness_10 Model_now p1 p2 p3 0)
  else
    f_Model_awkwardness_10 Model_now p1 p2 p3 2
noncomputable def f_Model_canBe_71 (Model_now : Nat → Int32)  (l1 l3 l5 k0 : Int32) : Option (Int32) :=
  if k0 = 0 then (
    some 0)
  else
    b1 (f_Model_heightOf Model_now (1 + (2 * l1))) fun r2 =>
    b1 (f_Model_keepsTime Model_now l3 l5 r2) fun r4 =>
    if r4 = 0 then (
      some 0)
    else
      some 1
noncomputable def f_Model_canBe_27 (Model_now : Nat → Int32)  (l1 l3 l4 : Int32) : Option (Int32) :=
  rd 187 Model_now (27 + l1) fun x7 =>
  b1 (f_Model_graces Model_now l1) fun r8 =>
  if r8 = 0 then (
    f_Model_canBe_71 Model_now l1 l3 x7 1)
  else
    b1 (f_Model_graces Model_now l1) fun r11 =>
    b1 (f_Model_keepsTime Model_now l4 (x7 - (4 * r11)) 1) fun r13 =>
    if r13 = 0 then (
      f_Model_canBe_71 Model_now l1 l3 x7 0)
    else
      f_Model_canBe_71 Model_now l1 l3 x7 1
noncomputable def f_Model_canBe (Model_now : Nat → Int32) (p1 p2 p3 p4 : Int32) : Option (Int32) :=
  rd 187 Model_now (67 + p1) fun x16 =>
  if x16 < 0 then (
    f_Model_canBe_27 Model_now p1 p3 p4)
  else
    rd 187 Model_now (67 + p1) fun x18 =>
    if x18 = p2 then (
      f_Model_canBe_27 Model_now p1 p3 p4)
    else
      some 0
noncomputable def f_Model_follows_155 (Model_now Model_least Model_ways : Nat → Int32)  (l2 l5 l6 l7 l12 l14 k0 Model_thenCost Model_thenWays : Int32) : Option (Int32 × Int32) :=
  b1 (f_Model_awkwardness Model_now l7 l5 l2 l12) fun r1 =>
  nm (jmin 1000000 (r1 + k0)) fun x3 =>
  if l7 = l6 then (
    some (x3, 1))
  else
    rd 8400 Model_ways l14 fun x5 =>
    some (x3, x5)
noncomputable def f_Model_follows_109 (Model_now Model_least Model_ways : Nat → Int32)  (l2 l5 l6 l7 l11 l12 k0 k1 Model_thenCost Model_thenWays : Int32) : Option (Int32 × Int32) :=
  nm (k0 + k1) fun x6 =>
  rd 187 Model_now 4 fun x7 =>
  if x6 ≤ x7 then (
    b1 (f_Model_stateOf l7 l5 l11 x6) fun r9 =>
    if l7 = l6 then (
      f_Model_follows_155 Model_now Model_least Model_ways l2 l5 l6 l7 l12 r9 0 Model_thenCost Model_thenWays)
    else
      rd 8400 Model_least r9 fun x12 =>
      f_Model_follows_155 Model_now Model_least Model_ways l2 l5 l6 l7 l12 r9 x12 Model_thenCost Model_thenWays)
  else
    some (Model_thenCost, Model_thenWays)
noncomputable def f_Model_follows_46 (Model_now Model_least Model_ways : Nat → Int32)  (l2 l4 l5 l6 l7 l9 k0 Model_thenCost Model_thenWays : Int32) : Option (Int32 × Int32) :=
  b1 (f_Model_canBe Model_now l7 l5 l9 k0) fun r13 =>
  if r13 = 0 then (
    some (1000000, 0))
  else
    b1 (f_Model_otherThen Model_now l7 k0) fun r16 =>
    b1 (f_Model_isCrossed Model_now l7 l5 r16) fun r18 =>
    if r18 = 0 then (
      f_Model_follows_109 Model_now Model_least Model_ways l2 l5 l6 l7 r16 r18 l4 0 1000000 0)
    else
      f_Model_follows_109 Model_now Model_least Model_ways l2 l5 l6 l7 r16 r18 l4 1 1000000 0
noncomputable def f_Model_follows_18 (Model_now Model_least Model_ways : Nat → Int32)  (l2 l3 l4 l5 l6 l7 k0 Model_thenCost Model_thenWays : Int32) : Option (Int32 × Int32) :=
  if l5 = l2 then (
    if l5 = l2 then (
      f_Model_follows_46 Model_now Model_least Model_ways l2 l4 l5 l6 l7 k0 l3 Model_thenCost Model_thenWays)
    else
      f_Model_follows_46 Model_now Model_least Model_ways l2 l4 l5 l6 l7 k0 k0 Model_thenCost Model_thenWays)
  else
    if l5 = l2 then (
      f_Model_follows_46 Model_now Model_least Model_ways l2 l4 l5 l6 l7 l3 l3 Model_thenCost Model_thenWays)
    else
      f_Model_follows_46 Model_now Model_least Model_ways l2 l4 l5 l6 l7 l3 k0 Model_thenCost Model_thenWays
noncomputable def f_Model_follows (Model_now Model_least Model_ways : Nat → Int32) (Model_thenCost Model_thenWays p1 p2 p3 p4 p5 p6 : Int32) : Option (Int32 × Int32) :=
  nm (p1 + 1) fun x24 =>
  if 0 ≤ p1 then (
    f_Model_follows_18 Model_now Model_least Model_ways p2 p3 p4 p5 p6 x24 (1 + (2 * p1)) Model_thenCost Model_thenWays)
  else
    f_Model_follows_18 Model_now Model_least Model_ways p2 p3 p4 p5 p6 x24 0 Model_thenCost Model_thenWays
noncomputable def f_Model_both_14_b (Model_now Model_least Model_ways : Nat → Int32)  (K14 : Int32 → Int32 → Int32 → Int32 → Int32 → Int32 → Int32 → Int32 → Int32 → Int32 → Option (Int32 × Int32 × Int32 × Int32)) (l1 l2 l3 l4 l5 l6 Model_thenCost Model_thenWays Model_bothCost Model_bothWays : Int32) : Option (Int32 × Int32 × Int32 × Int32) :=
  if 2 ≤ l6 then (
    some (Model_thenCost, Model_thenWays, Model_bothCost, Model_bothWays))
  else
    b2 (f_Model_follows Model_now Model_least Model_ways Model_thenCost Model_thenWays l1 l2 l3 l4 l6 l5) fun y2 y3 =>
    if Model_bothCost ≤ y2 then (
      if y2 = Model_bothCost then (
        if 1000000 ≤ y2 then (
          nm (l6 + 1) fun x9 =>
          K14 l1 l2 l3 l4 l5 x9 y2 y3 Model_bothCost Model_bothWays)
        else
          nm (Model_bothWays + y3) fun x10 =>
          nm (l6 + 1) fun x11 =>
          K14 l1 l2 l3 l4 l5 x11 y2 y3 Model_bothCost x10)
      else
        nm (l6 + 1) fun x7 =>
        K14 l1 l2 l3 l4 l5 x7 y2 y3 Model_bothCost Model_bothWays)
    else
      nm (l6 + 1) fun x12 =>
      K14 l1 l2 l3 l4 l5 x12 y2 y3 y2 y3
noncomputable def f_Model_both_14 (Model_now Model_least Model_ways : Nat → Int32)  : Nat → Int32 → Int32 → Int32 → Int32 → Int32 → Int32 → Int32 → Int32 → Int32 → Int32 → Option (Int32 × Int32 × Int32 × Int32)
  | 0 => fun _ _ _ _ _ _ _ _ _ _ => none
  | n + 1 => fun l1 l2 l3 l4 l5 l6 Model_thenCost Model_thenWays Model_bothCost Model_bothWays => f_Model_both_14_b Model_now Model_least Model_ways  (f_Model_both_14 Model_now Model_least Model_ways  n) l1 l2 l3 l4 l5 l6 Model_thenCost Model_thenWays Model_bothCost Model_bothWays
noncomputable def f_Model_both (Model_now Model_least Model_ways : Nat → Int32) (Model_thenCost Model_thenWays Model_bothCost Model_bothWays p1 p2 p3 p4 p5 : Int32) : Option (Int32 × Int32 × Int32 × Int32) :=
  f_Model_both_14 Model_now Model_least Model_ways fu p1 p2 p3 p4 p5 0 Model_thenCost Model_thenWays 1000000 0
noncomputable def f_Model_findHands_31_b (Model_now : Nat → Int32) (K4 : Int32 → Int32 → (Nat → Int32) → (Nat → Int32) → Int32 → Int32 → Int32 → Int32 → Option ((Nat → Int32) × (Nat → Int32) × Int32 × Int32 × Int32 × Int32)) (K10 : Int32 → Int32 → Int32 → (Nat → Int32) → (Nat → Int32) → Int32 → Int32 → Int32 → Int32 → Option ((Nat → Int32) × (Nat → Int32) × Int32 × Int32 × Int32 × Int32)) (K18 : Int32 → Int32 → Int32 → Int32 → (Nat → Int32) → (Nat → Int32) → Int32 → Int32 → Int32 → Int32 → Option ((Nat → Int32) × (Nat → Int32) × Int32 × Int32 × Int32 × Int32)) (K31 : Int32 → Int32 → Int32 → Int32 → Int32 → (Nat → Int32) → (Nat → Int32) → Int32 → Int32 → Int32 → Int32 → Option ((Nat → Int32) × (Nat → Int32) × Int32 × Int32 × Int32 × Int32)) (l1 l2 l3 l4 l5 : Int32) (Model_least Model_ways : Nat → Int32) (Model_thenCost Model_thenWays Model_bothCost Model_bothWays : Int32) : Option ((Nat → Int32) × (Nat → Int32) × Int32 × Int32 × Int32 × Int32) :=
  if 5 ≤ l5 then (
    nm (l4 + 1) fun x2 =>
    K18 l1 l2 l3 x2 Model_least Model_ways Model_thenCost Model_thenWays Model_bothCost Model_bothWays)
  else
    b4 (f_Model_both Model_now Model_least Model_ways Model_thenCost Model_thenWays Model_bothCost Model_bothWays l2 l3 l4 l5 l1) fun y3 y4 y5 y6 =>
    b1 (f_Model_stateOf l2 l3 l4 l5) fun r8 =>
    ck 8400 r8 <|
    ck 8400 r8 <|
    nm (l5 + 1) fun x12 =>
    K31 l1 l2 l3 l4 x12 (upd Model_least r8.toNatClampNeg y5) (upd Model_ways r8.toNatClampNeg y6) y3 y4 y5 y6
noncomputable def f_Model_findHands_31 (Model_now : Nat → Int32) (K4 : Int32 → Int32 → (Nat → Int32) → (Nat → Int32) → Int32 → Int32 → Int32 → Int32 → Option ((Nat → Int32) × (Nat → Int32) × Int32 × Int32 × Int32 × Int32)) (K10 : Int32 → Int32 → Int32 → (Nat → Int32) → (Nat → Int32) → Int32 → Int32 → Int32 → Int32 → Option ((Nat → Int32) × (Nat → Int32) × Int32 × Int32 × Int32 × Int32)) (K18 : Int32 → Int32 → Int32 → Int32 → (Nat → Int32) → (Nat → Int32) → Int32 → Int32 → Int32 → Int32 → Option ((Nat → Int32) × (Nat → Int32) × Int32 × Int32 × Int32 × Int32)) : Nat → Int32 → Int32 → Int32 → Int32 → Int32 → (Nat → Int32) → (Nat → Int32) → Int32 → Int32 → Int32 → Int32 → Option ((Nat → Int32) × (Nat → Int32) × Int32 × Int32 × Int32 × Int32)
  | 0 => fun _ _ _ _ _ _ _ _ _ _ _ => none
  | n + 1 => fun l1 l2 l3 l4 l5 Model_least Model_ways Model_thenCost Model_thenWays Model_bothCost Model_bothWays => f_Model_findHands_31_b Model_now K4 K10 K18 (f_Model_findHands_31 Model_now K4 K10 K18 n) l1 l2 l3 l4 l5 Model_least Model_ways Model_thenCost Model_thenWays Model_bothCost Model_bothWays
noncomputable def f_Model_findHands_18_b (Model_now : Nat → Int32) (K4 : Int32 → Int32 → (Nat → Int32) → (Nat → Int32) → Int32 → Int32 → Int32 → Int32 → Option ((Nat → Int32) × (Nat → Int32) × Int32 × Int32 × Int32 × Int32)) (K10 : Int32 → Int32 → Int32 → (Nat → Int32) → (Nat → Int32) → Int32 → Int32 → Int32 → Int32 → Option ((Nat → Int32) × (Nat → Int32) × Int32 × Int32 × Int32 × Int32)) (K18 : Int32 → Int32 → Int32 → Int32 → (Nat → Int32) → (Nat → Int32) → Int32 → Int32 → Int32 → Int32 → Option ((Nat → Int32) × (Nat → Int32) × Int32 × Int32 × Int32 × Int32)) (l1 l2 l3 l4 : Int32) (Model_least Model_ways : Nat → Int32) (Model_thenCost Model_thenWays Model_bothCost Model_bothWays : Int32) : Option ((Nat → Int32) × (Nat → Int32) × Int32 × Int32 × Int32 × Int32) :=
  if (2 + (2 * l2)) < l4 then (
    nm (l3 + 1) fun x14 =>
    K10 l1 l2 x14 Model_least Model_ways Model_thenCost Model_thenWays Model_bothCost Model_bothWays)
  else
    f_Model_findHands_31 Model_now K4 K10 K18 fu l1 l2 l3 l4 0 Model_least Model_ways Model_thenCost Model_thenWays Model_bothCost Model_bothWays
noncomputable def f_Model_findHands_18 (Model_now : Nat → Int32) (K4 : Int32 → Int32 → (Nat → Int32) → (Nat → Int32) → Int32 → Int32 → Int32 → Int32 → Option ((Nat → Int32) × (Nat → Int32) × Int32 × Int32 × Int32 × Int32)) (K10 : Int32 → Int32 → Int32 → (Nat → Int32) → (Nat → Int32) → Int32 → Int32 → Int32 → Int32 → Option ((Nat → Int32) × (Nat → Int32) × Int32 × Int32 × Int32 × Int32)) : Nat → Int32 → Int32 → Int32 → Int32 → (Nat → Int32) → (Nat → Int32) → Int32 → Int32 → Int32 → Int32 → Option ((Nat → Int32) × (Nat → Int32) × Int32 × Int32 × Int32 × Int32)
  | 0 => fun _ _ _ _ _ _ _ _ _ _ => none
  | n + 1 => fun l1 l2 l3 l4 Model_least Model_ways Model_thenCost Model_thenWays Model_bothCost Model_bothWays => f_Model_findHands_18_b Model_now K4 K10 (f_Model_findHands_18 Model_now K4 K10 n) l1 l2 l3 l4 Model_least Model_ways Model_thenCost Model_thenWays Model_bothCost Model_bothWays
noncomputable def f_Model_findHands_10_b (Model_now : Nat → Int32) (K4 : Int32 → Int32 → (Nat → Int32) → (Nat → Int32) → Int32 → Int32 → Int32 → Int32 → Option ((Nat → Int32) × (Nat → Int32) × Int32 × Int32 × Int32 × Int32)) (K10 : Int32 → Int32 → Int32 → (Nat → Int32) → (Nat → Int32) → Int32 → Int32 → Int32 → Int32 → Option ((Nat → Int32) × (Nat → Int32) × Int32 × Int32 × Int32 × Int32)) (l1 l2 l3 : Int32) (Model_least Model_ways : Nat → Int32) (Model_thenCost Model_thenWays Model_bothCost Model_bothWays : Int32) : Option ((Nat → Int32) × (Nat → Int32) × Int32 × Int32 × Int32 × Int32) :=
  if 2 ≤ l3 then (
    nm (l2 + (-1)) fun x16 =>
    K4 l1 x16 Model_least Model_ways Model_thenCost Model_thenWays Model_bothCost Model_bothWays)
  else
    f_Model_findHands_18 Model_now K4 K10 fu l1 l2 l3 0 Model_least Model_ways Model_thenCost Model_thenWays Model_bothCost Model_bothWays
noncomputable def f_Model_findHands_10 (Model_now : Nat → Int32) (K4 : Int32 → Int32 → (Nat → Int32) → (Nat → Int32) → Int32 → Int32 → Int32 → Int32 → Option ((Nat → Int32) × (Nat → Int32) × Int32 × Int32 × Int32 × Int32)) : Nat → Int32 → Int32 → Int32 → (Nat → Int32) → (Nat → Int32) → Int32 → Int32 → Int32 → Int32 → Option ((Nat → Int32) × (Nat → Int32) × Int32 × Int32 × Int32 × Int32)
  | 0 => fun _ _ _ _ _ _ _ _ _ => none
  | n + 1 => fun l1 l2 l3 Model_least Model_ways Model_thenCost Model_thenWays Model_bothCost Model_bothWays => f_Model_findHands_10_b Model_now K4 (f_Model_findHands_10 Model_now K4 n) l1 l2 l3 Model_least Model_ways Model_thenCost Model_thenWays Model_bothCost Model_bothWays
noncomputable def f_Model_findHands_4_b (Model_now : Nat → Int32)  (K4 : Int32 → Int32 → (Nat → Int32) → (Nat → Int32) → Int32 → Int32 → Int32 → Int32 → Option ((Nat → Int32) × (Nat → Int32) × Int32 × Int32 × Int32 × Int32)) (l1 l2 : Int32) (Model_least Model_ways : Nat → Int32) (Model_thenCost Model_thenWays Model_bothCost Model_bothWays : Int32) : Option ((Nat → Int32) × (Nat → Int32) × Int32 × Int32 × Int32 × Int32) :=
  if l2 < 0 then (
    some (Model_least, Model_ways, Model_thenCost, Model_thenWays, Model_bothCost, Model_bothWays))
  else
    f_Model_findHands_10 Model_now K4 fu l1 l2 0 Model_least Model_ways Model_thenCost Model_thenWays Model_bothCost Model_bothWays
noncomputable def f_Model_findHands_4 (Model_now : Nat → Int32)  : Nat → Int32 → Int32 → (Nat → Int32) → (Nat → Int32) → Int32 → Int32 → Int32 → Int32 → Option ((Nat → Int32) × (Nat → Int32) × Int32 × Int32 × Int32 × Int32)
  | 0 => fun _ _ _ _ _ _ _ _ => none
  | n + 1 => fun l1 l2 Model_least Model_ways Model_thenCost Model_thenWays Model_bothCost Model_bothWays => f_Model_findHands_4_b Model_now  (f_Model_findHands_4 Model_now  n) l1 l2 Model_least Model_ways Model_thenCost Model_thenWays Model_bothCost Model_bothWays
noncomputable def f_Model_findHands (Model_now Model_least Model_ways : Nat → Int32) (Model_thenCost Model_thenWays Model_bothCost Model_bothWays p1 : Int32) : Option ((Nat → Int32) × (Nat → Int32) × Int32 × Int32 × Int32 × Int32) :=
  nm (p1 - 1) fun x18 =>
  f_Model_findHands_4 Model_now fu p1 x18 Model_least Model_ways Model_thenCost Model_thenWays Model_bothCost Model_bothWays
noncomputable def f_Model_costUpTo (Model_now Model_least Model_ways : Nat → Int32) (Model_thenCost Model_thenWays Model_bothCost Model_bothWays p1 : Int32) : Option (Int32 × (Nat → Int32) × (Nat → Int32) × Int32 × Int32 × Int32 × Int32) :=
  if 0 ≤ p1 then (
    b6 (f_Model_findHands Model_now Model_least Model_ways Model_thenCost Model_thenWays Model_bothCost Model_bothWays p1) fun y2 y3 y4 y5 y6 y7 =>
    b4 (f_Model_both Model_now y2 y3 y4 y5 y6 y7 (-1) (-1) 0 0 p1) fun y9 y10 y11 y12 =>
    some (y11, y2, y3, y9, y10, y11, y12))
  else
    some (0, Model_least, Model_ways, Model_thenCost, Model_thenWays, Model_bothCost, 1)
noncomputable def f_Model_findThem_167 (Model_now : Nat → Int32) (K31 : Int32 → Int32 → Int32 → Int32 → Int32 → (Nat → Int32) → (Nat → Int32) → Int32 → Int32 → Int32 → Int32 → (Nat → Int32) → (Nat → Int32) → (Nat → Int32) → Option (Int32 × (Nat → Int32) × (Nat → Int32) × Int32 × Int32 × Int32 × Int32 × (Nat → Int32) × (Nat → Int32) × (Nat → Int32))) (l1 l2 l3 l5 l7 k0 k1 : Int32) (Model_least Model_ways : Nat → Int32) (Model_thenCost Model_thenWays Model_bothCost Model_bothWays : Int32) (Model_handOf Model_crossedAt Model_strokeOf : Nat → Int32) : Option (Int32 × (Nat → Int32) × (Nat → Int32) × Int32 × Int32 × Int32 × Int32 × (Nat → Int32) × (Nat → Int32) × (Nat → Int32)) :=
  nm (k0 + k1) fun x1 =>
  nm (1 + (2 * l5)) fun x2 =>
  ck 40 ((2 * l5) + l7) <|
  ck 40 (((2 * l5) + 1) - l7) <|
  nm (l5 + 1) fun x5 =>
  K31 l1 l2 l3 x1 x5 Model_least Model_ways Model_thenCost Model_thenWays Model_bothCost Model_bothWays Model_handOf Model_crossedAt (upd (upd Model_strokeOf ((2 * l5) + l7).toNatClampNeg x2) (((2 * l5) + 1) - l7).toNatClampNeg l3)
noncomputable def f_Model_findThem_118 (Model_now : Nat → Int32) (K31 : Int32 → Int32 → Int32 → Int32 → Int32 → (Nat → Int32) → (Nat → Int32) → Int32 → Int32 → Int32 → Int32 → (Nat → Int32) → (Nat → Int32) → (Nat → Int32) → Option (Int32 × (Nat → Int32) × (Nat → Int32) × Int32 × Int32 × Int32 × Int32 × (Nat → Int32) × (Nat → Int32) × (Nat → Int32))) (l1 l4 l5 l7 k1 k2 : Int32) (Model_least Model_ways : Nat → Int32) (Model_thenCost Model_thenWays Model_bothCost Model_bothWays : Int32) (Model_handOf Model_crossedAt Model_strokeOf : Nat → Int32) : Option (Int32 × (Nat → Int32) × (Nat → Int32) × Int32 × Int32 × Int32 × Int32 × (Nat → Int32) × (Nat → Int32) × (Nat → Int32)) :=
  b1 (f_Model_otherThen Model_now k1 k2) fun r6 =>
  ck 20 l5 <|
  b1 (f_Model_isCrossed Model_now l5 l7 r6) fun r9 =>
  ck 20 l5 <|
  rd 20 (upd Model_crossedAt l5.toNatClampNeg (vp_nar .boolean r9)) l5 fun x12 =>
  if x12 = 0 then (
    f_Model_findThem_167 Model_now K31 l1 l7 r6 l5 l7 l4 0 Model_least Model_ways Model_thenCost Model_thenWays Model_bothCost Model_bothWays (upd Model_handOf l5.toNatClampNeg l7) (upd Model_crossedAt l5.toNatClampNeg (vp_nar .boolean r9)) Model_strokeOf)
  else
    f_Model_findThem_167 Model_now K31 l1 l7 r6 l5 l7 l4 1 Model_least Model_ways Model_thenCost Model_thenWays Model_bothCost Model_bothWays (upd Model_handOf l5.toNatClampNeg l7) (upd Model_crossedAt l5.toNatClampNeg (vp_nar .boolean r9)) Model_strokeOf
noncomputable def f_Model_findThem_101 (Model_now : Nat → Int32) (K31 : Int32 → Int32 → Int32 → Int32 → Int32 → (Nat → Int32) → (Nat → Int32) → Int32 → Int32 → Int32 → Int32 → (Nat → Int32) → (Nat → Int32) → (Nat → Int32) → Option (Int32 × (Nat → Int32) × (Nat → Int32) × Int32 × Int32 × Int32 × Int32 × (Nat → Int32) × (Nat → Int32) × (Nat → Int32))) (l1 l2 l3 l4 l5 l7 k0 : Int32) (Model_least Model_ways : Nat → Int32) (Model_thenCost Model_thenWays Model_bothCost Model_bothWays : Int32) (Model_handOf Model_crossedAt Model_strokeOf : Nat → Int32) : Option (Int32 × (Nat → Int32) × (Nat → Int32) × Int32 × Int32 × Int32 × Int32 × (Nat → Int32) × (Nat → Int32) × (Nat → Int32)) :=
  if l7 = l2 then (
    f_Model_findThem_118 Model_now K31 l1 l4 l5 l7 l5 l3 Model_least Model_ways Model_thenCost Model_thenWays Model_bothCost Model_bothWays Model_handOf Model_crossedAt Model_strokeOf)
  else
    f_Model_findThem_118 Model_now K31 l1 l4 l5 l7 l5 k0 Model_least Model_ways Model_thenCost Model_thenWays Model_bothCost Model_bothWays Model_handOf Model_crossedAt Model_strokeOf
noncomputable def f_Model_findThem_84 (Model_now : Nat → Int32) (K31 : Int32 → Int32 → Int32 → Int32 → Int32 → (Nat → Int32) → (Nat → Int32) → Int32 → Int32 → Int32 → Int32 → (Nat → Int32) → (Nat → Int32) → (Nat → Int32) → Option (Int32 × (Nat → Int32) × (Nat → Int32) × Int32 × Int32 × Int32 × Int32 × (Nat → Int32) × (Nat → Int32) × (Nat → Int32))) (l1 l2 l3 l4 l5 k0 : Int32) (Model_least Model_ways : Nat → Int32) (Model_thenCost Model_thenWays Model_bothCost Model_bothWays : Int32) (Model_handOf Model_crossedAt Model_strokeOf : Nat → Int32) : Option (Int32 × (Nat → Int32) × (Nat → Int32) × Int32 × Int32 × Int32 × Int32 × (Nat → Int32) × (Nat → Int32) × (Nat → Int32)) :=
  if l5 = 0 then (
    f_Model_findThem_101 Model_now K31 l1 l2 l3 l4 l5 k0 0 Model_least Model_ways Model_thenCost Model_thenWays Model_bothCost Model_bothWays Model_handOf Model_crossedAt Model_strokeOf)
  else
    f_Model_findThem_101 Model_now K31 l1 l2 l3 l4 l5 k0 ((2 * l5) - 1) Model_least Model_ways Model_thenCost Model_thenWays Model_bothCost Model_bothWays Model_handOf Model_crossedAt Model_strokeOf
noncomputable def f_Model_findThem_31_b (Model_now : Nat → Int32)  (K31 : Int32 → Int32 → Int32 → Int32 → Int32 → (Nat → Int32) → (Nat → Int32) → Int32 → Int32 → Int32 → Int32 → (Nat → Int32) → (Nat → Int32) → (Nat → Int32) → Option (Int32 × (Nat → Int32) × (Nat → Int32) × Int32 × Int32 × Int32 × Int32 × (Nat → Int32) × (Nat → Int32) × (Nat → Int32))) (l1 l2 l3 l4 l5 : Int32) (Model_least Model_ways : Nat → Int32) (Model_thenCost Model_thenWays Model_bothCost Model_bothWays : Int32) (Model_handOf Model_crossedAt Model_strokeOf : Nat → Int32) : Option (Int32 × (Nat → Int32) × (Nat → Int32) × Int32 × Int32 × Int32 × Int32 × (Nat → Int32) × (Nat → Int32) × (Nat → Int32)) :=
  if l1 < l5 then (
    some (1, Model_least, Model_ways, Model_thenCost, Model_thenWays, Model_bothCost, Model_bothWays, Model_handOf, Model_crossedAt, Model_strokeOf))
  else
    b4 (f_Model_both Model_now Model_least Model_ways Model_thenCost Model_thenWays Model_bothCost Model_bothWays (l5 - 1) l2 l3 l4 l1) fun y17 y18 y19 y20 =>
    b2 (f_Model_follows Model_now Model_least Model_ways y17 y18 (l5 - 1) l2 l3 l4 0 l1) fun y22 y23 =>
    if y22 = y19 then (
      f_Model_findThem_84 Model_now K31 l1 l2 l3 l4 l5 0 Model_least Model_ways y22 y23 y19 y20 Model_handOf Model_crossedAt Model_strokeOf)
    else
      f_Model_findThem_84 Model_now K31 l1 l2 l3 l4 l5 1 Model_least Model_ways y22 y23 y19 y20 Model_handOf Model_crossedAt Model_strokeOf
noncomputable def f_Model_findThem_31 (Model_now : Nat → Int32)  : Nat → Int32 → Int32 → Int32 → Int32 → Int32 → (Nat → Int32) → (Nat → Int32) → Int32 → Int32 → Int32 → Int32 → (Nat → Int32) → (Nat → Int32) → (Nat → Int32) → Option (Int32 × (Nat → Int32) × (Nat → Int32) × Int32 × Int32 × Int32 × Int32 × (Nat → Int32) × (Nat → Int32) × (Nat → Int32))
  | 0 => fun _ _ _ _ _ _ _ _ _ _ _ _ _ _ => none
  | n + 1 => fun l1 l2 l3 l4 l5 Model_least Model_ways Model_thenCost Model_thenWays Model_bothCost Model_bothWays Model_handOf Model_crossedAt Model_strokeOf => f_Model_findThem_31_b Model_now  (f_Model_findThem_31 Model_now  n) l1 l2 l3 l4 l5 Model_least Model_ways Model_thenCost Model_thenWays Model_bothCost Model_bothWays Model_handOf Model_crossedAt Model_strokeOf
noncomputable def f_Model_findThem (Model_now Model_least Model_ways : Nat → Int32) (Model_thenCost Model_thenWays Model_bothCost Model_bothWays : Int32) (Model_handOf Model_crossedAt Model_strokeOf : Nat → Int32) : Option (Int32 × (Nat → Int32) × (Nat → Int32) × Int32 × Int32 × Int32 × Int32 × (Nat → Int32) × (Nat → Int32) × (Nat → Int32)) :=
  rd 187 Model_now 0 fun x26 =>
  nm (x26 - 1) fun x27 =>
  b7 (f_Model_costUpTo Model_now Model_least Model_ways Model_thenCost Model_thenWays Model_bothCost Model_bothWays x27) fun r28 y29 y30 y31 y32 y33 y34 =>
  if r28 < 1000000 then (
    f_Model_findThem_31 Model_now fu x27 (-1) 0 0 0 y29 y30 y31 y32 y33 y34 Model_handOf Model_crossedAt Model_strokeOf)
  else
    some (0, y29, y30, y31, y32, y33, y34, Model_handOf, Model_crossedAt, Model_strokeOf)
noncomputable def f_Model_bassOf_82_b (Model_now : Nat → Int32)  (K82 : Int32 → Option (Int32)) (l4 : Int32) : Option (Int32) :=
  rd 187 Model_now 1 fun x1 =>
  nm (jshr x1 l4) fun x2 =>
  if (x2 &&& 1) = 0 then (
    nm (l4 + 1) fun x4 =>
    K82 x4)
  else
    some l4
noncomputable def f_Model_bassOf_82 (Model_now : Nat → Int32)  : Nat → Int32 → Option (Int32)
  | 0 => fun _ => none
  | n + 1 => fun l4 => f_Model_bassOf_82_b Model_now  (f_Model_bassOf_82 Model_now  n) l4
noncomputable def f_Model_bassOf_49_b (Model_now : Nat → Int32)  (K49 : Int32 → Int32 → Option (Int32)) (l3 l4 : Int32) : Option (Int32) :=
  if l4 < 0 then (
    if 0 ≤ l4 then (
      some l4)
    else
      f_Model_bassOf_82 Model_now fu l3)
  else
    rd 187 Model_now 1 fun x7 =>
    nm (jshr x7 l4) fun x8 =>
    if (x8 &&& 1) = 0 then (
      nm (l4 + (-1)) fun x11 =>
      K49 l3 x11)
    else
      if 0 ≤ l4 then (
        some l4)
      else
        f_Model_bassOf_82 Model_now fu l3
noncomputable def f_Model_bassOf_49 (Model_now : Nat → Int32)  : Nat → Int32 → Int32 → Option (Int32)
  | 0 => fun _ _ => none
  | n + 1 => fun l3 l4 => f_Model_bassOf_49_b Model_now  (f_Model_bassOf_49 Model_now  n) l3 l4
noncomputable def f_Model_bassOf_45 (Model_now : Nat → Int32)  (k0 : Int32) : Option (Int32) :=
  f_Model_bassOf_49 Model_now fu k0 k0
noncomputable def f_Model_bassOf (Model_now : Nat → Int32) (p1 p2 : Int32) : Option (Int32) :=
  if p1 = 0 then (
    nm (jrem p2 5) fun x19 =>
    f_Model_bassOf_45 Model_now x19)
  else
    if p1 = 1 then (
      nm (jrem p2 5) fun x18 =>
      f_Model_bassOf_45 Model_now (4 - x18))
    else
      nm (jrem p2 8) fun x14 =>
      if 5 ≤ x14 then (
        nm (jrem p2 8) fun x16 =>
        f_Model_bassOf_45 Model_now (8 - x16))
      else
        nm (jrem p2 8) fun x17 =>
        f_Model_bassOf_45 Model_now x17
noncomputable def f_Model_bass_51   (l3 k1 k2 : Int32) (Model_now Model_past : Nat → Int32) (Model_kept Model_findings : Int32) : Option (Int32 × (Nat → Int32) × (Nat → Int32) × Int32 × Int32) :=
  ck 187 k1 <|
  rd 187 (upd Model_now k1.toNatClampNeg k2) 1 fun x2 =>
  if l3 = x2 then (
    some (0, (upd Model_now k1.toNatClampNeg k2), Model_past, Model_kept, Model_findings))
  else
    some (1, (upd Model_now k1.toNatClampNeg k2), Model_past, Model_kept, Model_findings)
noncomputable def f_Model_bass (Model_now Model_past : Nat → Int32) (Model_kept Model_findings p1 p2 : Int32) : Option (Int32 × (Nat → Int32) × (Nat → Int32) × Int32 × Int32) :=
  b1 (f_Model_within p1 0 4) fun r4 =>
  if r4 = 0 then (
    b2 (f_Model_finding Model_findings (-100001)) fun r14 y15 =>
    some (r14, Model_now, Model_past, Model_kept, y15))
  else
    b2 (f_Model_keep Model_now Model_past Model_kept) fun y7 y8 =>
    rd 187 Model_now 1 fun x10 =>
    if p2 = 0 then (
      nm (jshl 1 p1) fun x12 =>
      f_Model_bass_51 x10 1 (x10 &&& (x12 ^^^ (-1))) Model_now y7 y8 Model_findings)
    else
      nm (jshl 1 p1) fun x13 =>
      f_Model_bass_51 x10 1 (x10 ||| x13) Model_now y7 y8 Model_findings
noncomputable def f_Model_tooFast_55 (Model_now : Nat → Int32) (K6 : Int32 → Int32 → Int32 → Int32 → Int32 → Option (Int32)) (l1 l2 l3 l4 l5 l7 : Int32) : Option (Int32) :=
  if l7 < l1 then (
    nm (l4 + 0) fun x2 =>
    nm (l5 + 1) fun x3 =>
    K6 l1 l2 l3 x2 x3)
  else
    rd 187 Model_now (27 + l5) fun x4 =>
    rd 187 Model_now (27 + l7) fun x5 =>
    rd 187 Model_now 2 fun x6 =>
    if (2 * x6) ≤ (x4 - x5) then (
      nm (l4 + 0) fun x8 =>
      nm (l5 + 1) fun x9 =>
      K6 l1 l2 l3 x8 x9)
    else
      nm (l4 + 1) fun x10 =>
      nm (l5 + 1) fun x11 =>
      K6 l1 l2 l3 x10 x11
noncomputable def f_Model_tooFast_29_b (Model_now : Nat → Int32) (K6 : Int32 → Int32 → Int32 → Int32 → Int32 → Option (Int32)) (K29 : Int32 → Int32 → Int32 → Int32 → Int32 → Int32 → Int32 → Option (Int32)) (l1 l2 l3 l4 l5 l6 l7 : Int32) : Option (Int32) :=
  if l7 < l1 then (
    f_Model_tooFast_55 Model_now K6 l1 l2 l3 l4 l5 l7)
  else
    b1 (f_Model_bassOf Model_now l3 (l7 - l1)) fun r13 =>
    if r13 = l6 then (
      f_Model_tooFast_55 Model_now K6 l1 l2 l3 l4 l5 l7)
    else
      nm (l7 + (-1)) fun x16 =>
      K29 l1 l2 l3 l4 l5 l6 x16
noncomputable def f_Model_tooFast_29 (Model_now : Nat → Int32) (K6 : Int32 → Int32 → Int32 → Int32 → Int32 → Option (Int32)) : Nat → Int32 → Int32 → Int32 → Int32 → Int32 → Int32 → Int32 → Option (Int32)
  | 0 => fun _ _ _ _ _ _ _ => none
  | n + 1 => fun l1 l2 l3 l4 l5 l6 l7 => f_Model_tooFast_29_b Model_now K6 (f_Model_tooFast_29 Model_now K6 n) l1 l2 l3 l4 l5 l6 l7
noncomputable def f_Model_tooFast_6_b (Model_now : Nat → Int32)  (K6 : Int32 → Int32 → Int32 → Int32 → Int32 → Option (Int32)) (l1 l2 l3 l4 l5 : Int32) : Option (Int32) :=
  if l2 < l5 then (
    some l4)
  else
    b1 (f_Model_bassOf Model_now l3 (l5 - l1)) fun r18 =>
    nm (l5 - 1) fun x20 =>
    f_Model_tooFast_29 Model_now K6 fu l1 l2 l3 l4 l5 r18 x20
noncomputable def f_Model_tooFast_6 (Model_now : Nat → Int32)  : Nat → Int32 → Int32 → Int32 → Int32 → Int32 → Option (Int32)
  | 0 => fun _ _ _ _ _ => none
  | n + 1 => fun l1 l2 l3 l4 l5 => f_Model_tooFast_6_b Model_now  (f_Model_tooFast_6 Model_now  n) l1 l2 l3 l4 l5
noncomputable def f_Model_tooFast (Model_now : Nat → Int32) (p1 p2 p3 : Int32) : Option (Int32) :=
  f_Model_tooFast_6 Model_now fu p1 p2 p3 0 p1
noncomputable def f_Model_isRun (Model_now : Nat → Int32) (p1 p2 p3 : Int32) : Option (Int32) :=
  b1 (f_Model_isNote Model_now p1) fun r1 =>
  if r1 = 0 then (
    some 0)
  else
    b1 (f_Model_isNote Model_now p2) fun r4 =>
    if r4 = 0 then (
      some 0)
    else
      if p2 < p1 then (
        some 0)
      else
        b1 (f_Model_within p3 0 2) fun r8 =>
        if r8 = 0 then (
          some 0)
        else
          some 1
noncomputable def f_Model_judge_143 (Model_now : Nat → Int32) (K40 : Int32 → Int32 → Int32 → Int32 → Int32 → Int32 → (Nat → Int32) → Option (Int32 × Int32)) (l1 l3 l4 l6 l7 l8 k0 k1 Model_findings : Int32) (N_latest : Nat → Int32) : Option (Int32 × Int32) :=
  nm (k0 + k1) fun x1 =>
  b1 (f_Model_awkwardness Model_now l6 l7 l3 l8) fun r2 =>
  nm (l4 + r2) fun x4 =>
  nm (l6 + 1) fun x5 =>
  K40 l1 l7 x4 x1 x5 Model_findings N_latest
noncomputable def f_Model_judge_40_b (Model_now : Nat → Int32)  (K40 : Int32 → Int32 → Int32 → Int32 → Int32 → Int32 → (Nat → Int32) → Option (Int32 × Int32)) (l1 l3 l4 l5 l6 Model_findings : Int32) (N_latest : Nat → Int32) : Option (Int32 × Int32) :=
  rd 187 Model_now 0 fun x6 =>
  if x6 ≤ l6 then (
    rd 187 Model_now 4 fun x8 =>
    if l5 ≤ x8 then (
      some (l4, Model_findings))
    else
      b2 (f_Model_finding Model_findings (-100004)) fun r10 y11 =>
      some (r10, y11))
  else
    nm (jshr l1 l6) fun x13 =>
    nm (x13 &&& 1) fun x14 =>
    rd 2 N_latest x14 fun x15 =>
    rd 2 N_latest (1 - x14) fun x16 =>
    b1 (f_Model_canBe Model_now l6 x14 x15 x16) fun r17 =>
    if r17 = 0 then (
      b2 (f_Model_finding Model_findings (-100004)) fun r30 y31 =>
      some (r30, y31))
    else
      nm (1 + (2 * l6)) fun x20 =>
      ck 2 x14 <|
      rd 2 (upd N_latest x14.toNatClampNeg x20) (1 - x14) fun x22 =>
      b1 (f_Model_otherThen Model_now l6 x22) fun r23 =>
      ck 2 (1 - x14) <|
      rd 2 (upd (upd N_latest x14.toNatClampNeg x20) (1 - x14).toNatClampNeg r23) (1 - x14) fun x26 =>
      b1 (f_Model_isCrossed Model_now l6 x14 x26) fun r27 =>
      if r27 = 0 then (
        f_Model_judge_143 Model_now K40 l1 l3 l4 l6 x14 r27 l5 0 Model_findings (upd (upd N_latest x14.toNatClampNeg x20) (1 - x14).toNatClampNeg r23))
      else
        f_Model_judge_143 Model_now K40 l1 l3 l4 l6 x14 r27 l5 1 Model_findings (upd (upd N_latest x14.toNatClampNeg x20) (1 - x14).toNatClampNeg r23)
noncomputable def f_Model_judge_40 (Model_now : Nat → Int32)  : Nat → Int32 → Int32 → Int32 → Int32 → Int32 → Int32 → (Nat → Int32) → Option (Int32 × Int32)
  | 0 => fun _ _ _ _ _ _ _ => none
  | n + 1 => fun l1 l3 l4 l5 l6 Model_findings N_latest => f_Model_judge_40_b Model_now  (f_Model_judge_40 Model_now  n) l1 l3 l4 l5 l6 Model_findings N_latest
noncomputable def f_Model_judge (Model_now : Nat → Int32) (Model_findings p1 : Int32) : Option (Int32 × Int32) :=
  rd 187 Model_now 0 fun x33 =>
  nm (jshl 1 x33) fun x34 =>
  b1 (f_Model_within p1 0 (x34 - 1)) fun r35 =>
  if r35 = 0 then (
    b2 (f_Model_finding Model_findings (-100001)) fun r38 y39 =>
    some (r38, y39))
  else
    f_Model_judge_40 Model_now fu p1 (-1) 0 0 0 Model_findings (fun _ => 0)
noncomputable def f_Model_split (Model_now : Nat → Int32) (Model_findings p1 p2 p3 p4 : Int32) : Option (Int32 × Int32) :=
  b1 (f_Model_isRun Model_now p1 p2 p3) fun r1 =>
  if r1 = 0 then (
    b2 (f_Model_finding Model_findings (-100001)) fun r4 y5 =>
    some (r4, y5))
  else
    b1 (f_Model_within p4 p1 p2) fun r7 =>
    if r7 = 0 then (
      b2 (f_Model_finding Model_findings (-100001)) fun r17 y18 =>
      some (r17, y18))
    else
      rd 187 Model_now 1 fun x10 =>
      if x10 = 0 then (
        b2 (f_Model_finding Model_findings (-100006)) fun r14 y15 =>
        some (r14, y15))
      else
        b1 (f_Model_bassOf Model_now p3 (p4 - p1)) fun r12 =>
        some (r12, Model_findings)
noncomputable def f_Model_has_49_b (Model_now : Nat → Int32)  (K49 : Int32 → Int32 → Int32 → Int32 → Int32 → Int32 → Int32 → Option (Int32 × Int32)) (l1 l2 l3 l4 l5 l6 Model_findings : Int32) : Option (Int32 × Int32) :=
  if (l2 - l1) < l6 then (
    some (l5, Model_findings))
  else
    b1 (f_Model_bassOf Model_now l3 l6) fun r2 =>
    if r2 = l4 then (
      nm (l5 + 1) fun x7 =>
      nm (l6 + 1) fun x8 =>
      K49 l1 l2 l3 l4 x7 x8 Model_findings)
    else
      nm (l5 + 0) fun x5 =>
      nm (l6 + 1) fun x6 =>
      K49 l1 l2 l3 l4 x5 x6 Model_findings
noncomputable def f_Model_has_49 (Model_now : Nat → Int32)  : Nat → Int32 → Int32 → Int32 → Int32 → Int32 → Int32 → Int32 → Option (Int32 × Int32)
  | 0 => fun _ _ _ _ _ _ _ => none
  | n + 1 => fun l1 l2 l3 l4 l5 l6 Model_findings => f_Model_has_49_b Model_now  (f_Model_has_49 Model_now  n) l1 l2 l3 l4 l5 l6 Model_findings
noncomputable def f_Model_has (Model_now : Nat → Int32) (Model_findings p1 p2 p3 p4 : Int32) : Option (Int32 × Int32) :=
  b1 (f_Model_isRun Model_now p1 p2 p3) fun r9 =>
  if r9 = 0 then (
    b2 (f_Model_finding Model_findings (-100001)) fun r12 y13 =>
    some (r12, y13))
  else
    b1 (f_Model_within p4 0 4) fun r15 =>
    if r15 = 0 then (
      b2 (f_Model_finding Model_findings (-100001)) fun r23 y24 =>
      some (r23, y24))
    else
      rd 187 Model_now 1 fun x18 =>
      if x18 = 0 then (
        b2 (f_Model_finding Model_findings (-100006)) fun r20 y21 =>
        some (r20, y21))
      else
        f_Model_has_49 Model_now fu p1 p2 p3 p4 0 0 Model_findings
noncomputable def f_Model_fast (Model_now : Nat → Int32) (Model_findings p1 p2 p3 : Int32) : Option (Int32 × Int32) :=
  b1 (f_Model_isRun Model_now p1 p2 p3) fun r1 =>
  if r1 = 0 then (
    b2 (f_Model_finding Model_findings (-100001)) fun r11 y12 =>
    some (r11, y12))
  else
    rd 187 Model_now 1 fun x4 =>
    if x4 = 0 then (
      b2 (f_Model_finding Model_findings (-100006)) fun r8 y9 =>
      some (r8, y9))
    else
      b1 (f_Model_tooFast Model_now p1 p2 p3) fun r6 =>
      some (r6, Model_findings)
noncomputable def f_Model_shape_38_b (Model_now : Nat → Int32)  (K38 : Int32 → Int32 → Int32 → Int32 → Int32 → Option (Int32 × Int32)) (l1 l2 l3 l4 Model_findings : Int32) : Option (Int32 × Int32) :=
  if 3 ≤ l4 then (
    some (l3, Model_findings))
  else
    b1 (f_Model_tooFast Model_now l1 l2 l4) fun r2 =>
    b1 (f_Model_tooFast Model_now l1 l2 l3) fun r4 =>
    if r4 ≤ r2 then (
      nm (l4 + 1) fun x7 =>
      K38 l1 l2 l3 x7 Model_findings)
    else
      nm (l4 + 1) fun x8 =>
      K38 l1 l2 l4 x8 Model_findings
noncomputable def f_Model_shape_38 (Model_now : Nat → Int32)  : Nat → Int32 → Int32 → Int32 → Int32 → Int32 → Option (Int32 × Int32)
  | 0 => fun _ _ _ _ _ => none
  | n + 1 => fun l1 l2 l3 l4 Model_findings => f_Model_shape_38_b Model_now  (f_Model_shape_38 Model_now  n) l1 l2 l3 l4 Model_findings
noncomputable def f_Model_shape (Model_now : Nat → Int32) (Model_findings p1 p2 : Int32) : Option (Int32 × Int32) :=
  b1 (f_Model_isRun Model_now p1 p2 0) fun r9 =>
  if r9 = 0 then (
    b2 (f_Model_finding Model_findings (-100001)) fun r17 y18 =>
    some (r17, y18))
  else
    rd 187 Model_now 1 fun x12 =>
    if x12 = 0 then (
      b2 (f_Model_finding Model_findings (-100006)) fun r14 y15 =>
      some (r14, y15))
    else
      f_Model_shape_38 Model_now fu p1 p2 0 1 Model_findings
noncomputable def f_Model_awkward (Model_now : Nat → Int32) (Model_findings : Int32) (Model_least Model_ways : Nat → Int32) (Model_thenCost Model_thenWays Model_bothCost Model_bothWays : Int32) : Option (Int32 × Int32 × (Nat → Int32) × (Nat → Int32) × Int32 × Int32 × Int32 × Int32) :=
  rd 187 Model_now 0 fun x1 =>
  b7 (f_Model_costUpTo Model_now Model_least Model_ways Model_thenCost Model_thenWays Model_bothCost Model_bothWays (x1 - 1)) fun r2 y3 y4 y5 y6 y7 y8 =>
  if r2 < 1000000 then (
    some (r2, Model_findings, y3, y4, y5, y6, y7, y8))
  else
    b2 (f_Model_finding Model_findings (-100006)) fun r11 y12 =>
    some (r11, y12, y3, y4, y5, y6, y7, y8)
noncomputable def f_Model_ways (Model_now : Nat → Int32) (Model_findings : Int32) (Model_least Model_ways : Nat → Int32) (Model_thenCost Model_thenWays Model_bothCost Model_bothWays : Int32) : Option (Int32 × Int32 × (Nat → Int32) × (Nat → Int32) × Int32 × Int32 × Int32 × Int32) :=
  rd 187 Model_now 0 fun x1 =>
  b7 (f_Model_costUpTo Model_now Model_least Model_ways Model_thenCost Model_thenWays Model_bothCost Model_bothWays (x1 - 1)) fun r2 y3 y4 y5 y6 y7 y8 =>
  if r2 < 1000000 then (
    some (y8, Model_findings, y3, y4, y5, y6, y7, y8))
  else
    b2 (f_Model_finding Model_findings (-100006)) fun r11 y12 =>
    some (r11, y12, y3, y4, y5, y6, y7, y8)
noncomputable def f_Model_stuck_2_b (Model_now : Nat → Int32)  (K2 : Int32 → (Nat → Int32) → (Nat → Int32) → Int32 → Int32 → Int32 → Int32 → Option (Int32 × (Nat → Int32) × (Nat → Int32) × Int32 × Int32 × Int32 × Int32)) (l1 : Int32) (Model_least Model_ways : Nat → Int32) (Model_thenCost Model_thenWays Model_bothCost Model_bothWays : Int32) : Option (Int32 × (Nat → Int32) × (Nat → Int32) × Int32 × Int32 × Int32 × Int32) :=
  rd 187 Model_now 0 fun x1 =>
  if x1 ≤ l1 then (
    some ((-1), Model_least, Model_ways, Model_thenCost, Model_thenWays, Model_bothCost, Model_bothWays))
  else
    b7 (f_Model_costUpTo Model_now Model_least Model_ways Model_thenCost Model_thenWays Model_bothCost Model_bothWays l1) fun r3 y4 y5 y6 y7 y8 y9 =>
    if r3 < 1000000 then (
      nm (l1 + 1) fun x12 =>
      K2 x12 y4 y5 y6 y7 y8 y9)
    else
      some (l1, y4, y5, y6, y7, y8, y9)
noncomputable def f_Model_stuck_2 (Model_now : Nat → Int32)  : Nat → Int32 → (Nat → Int32) → (Nat → Int32) → Int32 → Int32 → Int32 → Int32 → Option (Int32 × (Nat → Int32) × (Nat → Int32) × Int32 × Int32 × Int32 × Int32)
  | 0 => fun _ _ _ _ _ _ _ => none
  | n + 1 => fun l1 Model_least Model_ways Model_thenCost Model_thenWays Model_bothCost Model_bothWays => f_Model_stuck_2_b Model_now  (f_Model_stuck_2 Model_now  n) l1 Model_least Model_ways Model_thenCost Model_thenWays Model_bothCost Model_bothWays
noncomputable def f_Model_stuck (Model_now Model_least Model_ways : Nat → Int32) (Model_thenCost Model_thenWays Model_bothCost Model_bothWays : Int32) : Option (Int32 × (Nat → Int32) × (Nat → Int32) × Int32 × Int32 × Int32 × Int32) :=
  f_Model_stuck_2 Model_now fu 0 Model_least Model_ways Model_thenCost Model_thenWays Model_bothCost Model_bothWays
noncomputable def f_Model_hand (Model_now : Nat → Int32) (Model_findings : Int32) (Model_least Model_ways : Nat → Int32) (Model_thenCost Model_thenWays Model_bothCost Model_bothWays : Int32) (Model_handOf Model_crossedAt Model_strokeOf : Nat → Int32) (p1 : Int32) : Option (Int32 × Int32 × (Nat → Int32) × (Nat → Int32) × Int32 × Int32 × Int32 × Int32 × (Nat → Int32) × (Nat → Int32) × (Nat → Int32)) :=
  b1 (f_Model_isNote Model_now p1) fun r1 =>
  if r1 = 0 then (
    b2 (f_Model_finding Model_findings (-100001)) fun r20 y21 =>
    some (r20, y21, Model_least, Model_ways, Model_thenCost, Model_thenWays, Model_bothCost, Model_bothWays, Model_handOf, Model_crossedAt, Model_strokeOf))
  else
    b10 (f_Model_findThem Model_now Model_least Model_ways Model_thenCost Model_thenWays Model_bothCost Model_bothWays Model_handOf Model_crossedAt Model_strokeOf) fun r4 y5 y6 y7 y8 y9 y10 y11 y12 y13 =>
    if r4 = 0 then (
      b2 (f_Model_finding Model_findings (-100006)) fun r16 y17 =>
      some (r16, y17, y5, y6, y7, y8, y9, y10, y11, y12, y13))
    else
      rd 20 y11 p1 fun x19 =>
      some (x19, Model_findings, y5, y6, y7, y8, y9, y10, y11, y12, y13)
noncomputable def f_Model_crossed (Model_now : Nat → Int32) (Model_findings : Int32) (Model_least Model_ways : Nat → Int32) (Model_thenCost Model_thenWays Model_bothCost Model_bothWays : Int32) (Model_handOf Model_crossedAt Model_strokeOf : Nat → Int32) (p1 : Int32) : Option (Int32 × Int32 × (Nat → Int32) × (Nat → Int32) × Int32 × Int32 × Int32 × Int32 × (Nat → Int32) × (Nat → Int32) × (Nat → Int32)) :=
  b1 (f_Model_isNote Model_now p1) fun r1 =>
  if r1 = 0 then (
    b2 (f_Model_finding Model_findings (-100001)) fun r21 y22 =>
    some (r21, y22, Model_least, Model_ways, Model_thenCost, Model_thenWays, Model_bothCost, Model_bothWays, Model_handOf, Model_crossedAt, Model_strokeOf))
  else
    b10 (f_Model_findThem Model_now Model_least Model_ways Model_thenCost Model_thenWays Model_bothCost Model_bothWays Model_handOf Model_crossedAt Model_strokeOf) fun r4 y5 y6 y7 y8 y9 y10 y11 y12 y13 =>
    if r4 = 0 then (
      b2 (f_Model_finding Model_findings (-100006)) fun r18 y19 =>
      some (r18, y19, y5, y6, y7, y8, y9, y10, y11, y12, y13))
    else
      rd 20 y12 p1 fun x16 =>
      if x16 = 0 then (
        some (0, Model_findings, y5, y6, y7, y8, y9, y10, y11, y12, y13))
      else
        some (1, Model_findings, y5, y6, y7, y8, y9, y10, y11, y12, y13)
noncomputable def f_Model_latest (Model_now : Nat → Int32) (Model_findings : Int32) (Model_least Model_ways : Nat → Int32) (Model_thenCost Model_thenWays Model_bothCost Model_bothWays : Int32) (Model_handOf Model_crossedAt Model_strokeOf : Nat → Int32) (p1 p2 : Int32) : Option (Int32 × Int32 × (Nat → Int32) × (Nat → Int32) × Int32 × Int32 × Int32 × Int32 × (Nat → Int32) × (Nat → Int32) × (Nat → Int32)) :=
  b1 (f_Model_within p1 0 1) fun r1 =>
  if r1 = 0 then (
    b2 (f_Model_finding Model_findings (-100001)) fun r4 y5 =>
    some (r4, y5, Model_least, Model_ways, Model_thenCost, Model_thenWays, Model_bothCost, Model_bothWays, Model_handOf, Model_crossedAt, Model_strokeOf))
  else
    b1 (f_Model_isNote Model_now p2) fun r7 =>
    if r7 = 0 then (
      b2 (f_Model_finding Model_findings (-100001)) fun r32 y33 =>
      some (r32, y33, Model_least, Model_ways, Model_thenCost, Model_thenWays, Model_bothCost, Model_bothWays, Model_handOf, Model_crossedAt, Model_strokeOf))
    else
      b10 (f_Model_findThem Model_now Model_least Model_ways Model_thenCost Model_thenWays Model_bothCost Model_bothWays Model_handOf Model_crossedAt Model_strokeOf) fun r10 y11 y12 y13 y14 y15 y16 y17 y18 y19 =>
      if r10 = 0 then (
        b2 (f_Model_finding Model_findings (-100006)) fun r29 y30 =>
        some (r29, y30, y11, y12, y13, y14, y15, y16, y17, y18, y19))
      else
        rd 40 y19 ((2 * p2) + p1) fun x22 =>
        if x22 = 0 then (
          b2 (f_Model_finding Model_findings (-100006)) fun r26 y27 =>
          some (r26, y27, y11, y12, y13, y14, y15, y16, y17, y18, y19))
        else
          b1 (f_Model_tickOf Model_now x22) fun r24 =>
          some (r24, Model_findings, y11, y12, y13, y14, y15, y16, y17, y18, y19)
noncomputable def f_Model_hitOf (Model_now : Nat → Int32) (p1 p2 : Int32) : Option (Int32) :=
  rd 187 Model_now ((91 + (24 * p1)) + p2) fun x1 =>
  some x1
noncomputable def f_Model_priceFrom (Model_prices : Nat → Int32) (p1 p2 : Int32) : Option (Int32) :=
  rd 525 Model_prices ((25 * p1) + p2) fun x1 =>
  some x1
noncomputable def f_Model_matched (Model_now : Nat → Int32) (p1 p2 p3 : Int32) : Option (Int32) :=
  rd 187 Model_now (27 + p2) fun x1 =>
  b1 (f_Model_hitOf Model_now p1 p3) fun r2 =>
  nm (jabs (x1 - r2)) fun x4 =>
  rd 187 Model_now 6 fun x5 =>
  if x4 ≤ x5 then (
    some x4)
  else
    some 1000000
noncomputable def f_Model_isSheet (p0 : Int32) : Option (Int32) :=
  b1 (f_Model_within p0 0 3) fun r1 =>
  zb r1 <| some r1
noncomputable def f_Model_all_64_b (Model_now : Nat → Int32)  (K64 : Int32 → Int32 → Int32 → Int32 → Int32 → Option (Int32 × Int32)) (l1 l2 l3 l4 Model_findings : Int32) : Option (Int32 × Int32) :=
  if 4 ≤ l4 then (
    if l1 = 0 then (
      rd 187 Model_now 0 fun x7 =>
      some (x7, Model_findings))
    else
      if l1 = 1 then (
        some (l2, Model_findings))
      else
        if l1 = 2 then (
          rd 187 Model_now 1 fun x6 =>
          some (x6, Model_findings))
        else
          if l1 = 3 then (
            some (l3, Model_findings))
          else
            some (Model_findings, Model_findings))
  else
    rd 187 Model_now (87 + l4) fun x8 =>
    nm (l3 + x8) fun x9 =>
    nm (l4 + 1) fun x10 =>
    K64 l1 l2 x9 x10 Model_findings
noncomputable def f_Model_all_64 (Model_now : Nat → Int32)  : Nat → Int32 → Int32 → Int32 → Int32 → Int32 → Option (Int32 × Int32)
  | 0 => fun _ _ _ _ _ => none
  | n + 1 => fun l1 l2 l3 l4 Model_findings => f_Model_all_64_b Model_now  (f_Model_all_64 Model_now  n) l1 l2 l3 l4 Model_findings
noncomputable def f_Model_all_23_b (Model_now : Nat → Int32)  (K23 : Int32 → Int32 → Int32 → Int32 → Int32 → Option (Int32 × Int32)) (l1 l2 l3 l4 Model_findings : Int32) : Option (Int32 × Int32) :=
  rd 187 Model_now 0 fun x11 =>
  if x11 ≤ l4 then (
    f_Model_all_64 Model_now fu l1 l2 l3 0 Model_findings)
  else
    rd 187 Model_now (67 + l4) fun x13 =>
    if x13 < 0 then (
      nm (l2 + 0) fun x15 =>
      nm (l4 + 1) fun x16 =>
      K23 l1 x15 l3 x16 Model_findings)
    else
      nm (l2 + 1) fun x17 =>
      nm (l4 + 1) fun x18 =>
      K23 l1 x17 l3 x18 Model_findings
noncomputable def f_Model_all_23 (Model_now : Nat → Int32)  : Nat → Int32 → Int32 → Int32 → Int32 → Int32 → Option (Int32 × Int32)
  | 0 => fun _ _ _ _ _ => none
  | n + 1 => fun l1 l2 l3 l4 Model_findings => f_Model_all_23_b Model_now  (f_Model_all_23 Model_now  n) l1 l2 l3 l4 Model_findings
noncomputable def f_Model_all (Model_now : Nat → Int32) (Model_findings p1 : Int32) : Option (Int32 × Int32) :=
  b1 (f_Model_within p1 0 4) fun r19 =>
  if r19 = 0 then (
    b2 (f_Model_finding Model_findings (-100001)) fun r22 y23 =>
    some (r22, y23))
  else
    f_Model_all_23 Model_now fu p1 0 0 0 Model_findings
noncomputable def f_Model_hit_54   (l1 l2 l3 : Int32) (Model_now Model_past : Nat → Int32) (Model_kept Model_findings : Int32) : Option (Int32 × (Nat → Int32) × (Nat → Int32) × Int32 × Int32) :=
  if l3 = 24 then (
    b2 (f_Model_finding Model_findings (-100005)) fun r9 y10 =>
    some (r9, Model_now, Model_past, Model_kept, y10))
  else
    b2 (f_Model_keep Model_now Model_past Model_kept) fun y2 y3 =>
    ck 187 ((91 + (24 * l1)) + l3) <|
    rd 187 (upd Model_now ((91 + (24 * l1)) + l3).toNatClampNeg l2) (87 + l1) fun x6 =>
    nm (x6 + 1) fun x7 =>
    ck 187 (87 + l1) <|
    some ((l3 + 1), (upd (upd Model_now ((91 + (24 * l1)) + l3).toNatClampNeg l2) (87 + l1).toNatClampNeg x7), y2, y3, Model_findings)
noncomputable def f_Model_hit (Model_now Model_past : Nat → Int32) (Model_kept Model_findings p1 p2 : Int32) : Option (Int32 × (Nat → Int32) × (Nat → Int32) × Int32 × Int32) :=
  b1 (f_Model_isPlayer p1) fun r12 =>
  if r12 = 0 then (
    b2 (f_Model_finding Model_findings (-100001)) fun r15 y16 =>
    some (r15, Model_now, Model_past, Model_kept, y16))
  else
    b1 (f_Model_isTick p2) fun r18 =>
    if r18 = 0 then (
      b2 (f_Model_finding Model_findings (-100001)) fun r29 y30 =>
      some (r29, Model_now, Model_past, Model_kept, y30))
    else
      rd 187 Model_now (87 + p1) fun x21 =>
      if x21 ≤ 0 then (
        f_Model_hit_54 p1 p2 x21 Model_now Model_past Model_kept Model_findings)
      else
        b1 (f_Model_hitOf Model_now p1 (x21 - 1)) fun r23 =>
        if r23 ≤ p2 then (
          f_Model_hit_54 p1 p2 x21 Model_now Model_past Model_kept Model_findings)
        else
          b2 (f_Model_finding Model_findings (-100003)) fun r26 y27 =>
          some (r26, Model_now, Model_past, Model_kept, y27)
noncomputable def f_Model_wipe (Model_now Model_past : Nat → Int32) (Model_kept Model_findings p1 : Int32) : Option (Int32 × (Nat → Int32) × (Nat → Int32) × Int32 × Int32) :=
  b1 (f_Model_isPlayer p1) fun r1 =>
  if r1 = 0 then (
    b2 (f_Model_finding Model_findings (-100001)) fun r9 y10 =>
    some (r9, Model_now, Model_past, Model_kept, y10))
  else
    b2 (f_Model_keep Model_now Model_past Model_kept) fun y4 y5 =>
    rd 187 Model_now (87 + p1) fun x7 =>
    ck 187 (87 + p1) <|
    some (x7, (upd Model_now (87 + p1).toNatClampNeg 0), y4, y5, Model_findings)
noncomputable def f_Model_findReading_231 (Model_now : Nat → Int32) (K158 : Int32 → Int32 → Int32 → Int32 → Int32 → (Nat → Int32) → (Nat → Int32) → Option ((Nat → Int32) × (Nat → Int32))) (K177 : Int32 → Int32 → Int32 → Int32 → Int32 → Int32 → (Nat → Int32) → (Nat → Int32) → Option ((Nat → Int32) × (Nat → Int32))) (l1 l2 l3 l4 l5 l6 k0 : Int32) (Model_prices Model_hitAt : Nat → Int32) : Option ((Nat → Int32) × (Nat → Int32)) :=
  if k0 = 0 then (
    rd 20 Model_hitAt l5 fun x2 =>
    ck 20 l5 <|
    nm (l6 + (-1)) fun x4 =>
    K177 l1 l2 l3 l4 l5 x4 Model_prices (upd Model_hitAt l5.toNatClampNeg x2))
  else
    ck 20 l5 <|
    nm (l6 + (-1)) fun x6 =>
    K177 l1 l2 l3 l4 l5 x6 Model_prices (upd Model_hitAt l5.toNatClampNeg l6)
noncomputable def f_Model_findReading_177_b (Model_now : Nat → Int32) (K158 : Int32 → Int32 → Int32 → Int32 → Int32 → (Nat → Int32) → (Nat → Int32) → Option ((Nat → Int32) × (Nat → Int32))) (K177 : Int32 → Int32 → Int32 → Int32 → Int32 → Int32 → (Nat → Int32) → (Nat → Int32) → Option ((Nat → Int32) × (Nat → Int32))) (l1 l2 l3 l4 l5 l6 : Int32) (Model_prices Model_hitAt : Nat → Int32) : Option ((Nat → Int32) × (Nat → Int32)) :=
  if l6 < l4 then (
    rd 20 Model_hitAt l5 fun x8 =>
    if x8 < 0 then (
      nm (l5 + 1) fun x10 =>
      K158 l1 l2 l3 l4 x10 Model_prices Model_hitAt)
    else
      rd 20 Model_hitAt l5 fun x11 =>
      nm (x11 + 1) fun x12 =>
      nm (l5 + 1) fun x13 =>
      K158 l1 l2 l3 x12 x13 Model_prices Model_hitAt)
  else
    b1 (f_Model_matched Model_now l1 l5 l6) fun r14 =>
    b1 (f_Model_priceFrom Model_prices (l5 + 1) (l6 + 1)) fun r16 =>
    b1 (f_Model_priceFrom Model_prices l5 l4) fun r18 =>
    if (((40 * (l6 - l4)) + r14) + r16) = r18 then (
      f_Model_findReading_231 Model_now K158 K177 l1 l2 l3 l4 l5 l6 1 Model_prices Model_hitAt)
    else
      f_Model_findReading_231 Model_now K158 K177 l1 l2 l3 l4 l5 l6 0 Model_prices Model_hitAt
noncomputable def f_Model_findReading_177 (Model_now : Nat → Int32) (K158 : Int32 → Int32 → Int32 → Int32 → Int32 → (Nat → Int32) → (Nat → Int32) → Option ((Nat → Int32) × (Nat → Int32))) : Nat → Int32 → Int32 → Int32 → Int32 → Int32 → Int32 → (Nat → Int32) → (Nat → Int32) → Option ((Nat → Int32) × (Nat → Int32))
  | 0 => fun _ _ _ _ _ _ _ _ => none
  | n + 1 => fun l1 l2 l3 l4 l5 l6 Model_prices Model_hitAt => f_Model_findReading_177_b Model_now K158 (f_Model_findReading_177 Model_now K158 n) l1 l2 l3 l4 l5 l6 Model_prices Model_hitAt
noncomputable def f_Model_findReading_158_b (Model_now : Nat → Int32)  (K158 : Int32 → Int32 → Int32 → Int32 → Int32 → (Nat → Int32) → (Nat → Int32) → Option ((Nat → Int32) × (Nat → Int32))) (l1 l2 l3 l4 l5 : Int32) (Model_prices Model_hitAt : Nat → Int32) : Option ((Nat → Int32) × (Nat → Int32)) :=
  if l2 ≤ l5 then (
    some (Model_prices, Model_hitAt))
  else
    ck 20 l5 <|
    nm (l3 - 1) fun x23 =>
    f_Model_findReading_177 Model_now K158 fu l1 l2 l3 l4 l5 x23 Model_prices (upd Model_hitAt l5.toNatClampNeg (-1))
noncomputable def f_Model_findReading_158 (Model_now : Nat → Int32)  : Nat → Int32 → Int32 → Int32 → Int32 → Int32 → (Nat → Int32) → (Nat → Int32) → Option ((Nat → Int32) × (Nat → Int32))
  | 0 => fun _ _ _ _ _ _ _ => none
  | n + 1 => fun l1 l2 l3 l4 l5 Model_prices Model_hitAt => f_Model_findReading_158_b Model_now  (f_Model_findReading_158 Model_now  n) l1 l2 l3 l4 l5 Model_prices Model_hitAt
noncomputable def f_Model_findReading_125 (Model_now : Nat → Int32) (K20 : Int32 → Int32 → Int32 → Int32 → (Nat → Int32) → (Nat → Int32) → Option ((Nat → Int32) × (Nat → Int32))) (K28 : Int32 → Int32 → Int32 → Int32 → Int32 → (Nat → Int32) → (Nat → Int32) → Option ((Nat → Int32) × (Nat → Int32))) (l1 l2 l3 l4 l5 l6 : Int32) (Model_prices Model_hitAt : Nat → Int32) : Option ((Nat → Int32) × (Nat → Int32)) :=
  ck 525 ((25 * l4) + l5) <|
  nm (l5 + (-1)) fun x25 =>
  K28 l1 l2 l3 l4 x25 (upd Model_prices ((25 * l4) + l5).toNatClampNeg l6) Model_hitAt
noncomputable def f_Model_findReading_62 (Model_now : Nat → Int32) (K20 : Int32 → Int32 → Int32 → Int32 → (Nat → Int32) → (Nat → Int32) → Option ((Nat → Int32) × (Nat → Int32))) (K28 : Int32 → Int32 → Int32 → Int32 → Int32 → (Nat → Int32) → (Nat → Int32) → Option ((Nat → Int32) × (Nat → Int32))) (l1 l2 l3 l4 l5 k0 : Int32) (Model_prices Model_hitAt : Nat → Int32) : Option ((Nat → Int32) × (Nat → Int32)) :=
  if l2 ≤ l4 then (
    f_Model_findReading_125 Model_now K20 K28 l1 l2 l3 l4 l5 k0 Model_prices Model_hitAt)
  else
    if l3 ≤ l5 then (
      f_Model_findReading_125 Model_now K20 K28 l1 l2 l3 l4 l5 k0 Model_prices Model_hitAt)
    else
      b1 (f_Model_priceFrom Model_prices l4 (l5 + 1)) fun r28 =>
      nm (jmin k0 (40 + r28)) fun x30 =>
      b1 (f_Model_matched Model_now l1 l4 l5) fun r31 =>
      b1 (f_Model_priceFrom Model_prices (l4 + 1) (l5 + 1)) fun r33 =>
      nm (jmin x30 (r31 + r33)) fun x35 =>
      f_Model_findReading_125 Model_now K20 K28 l1 l2 l3 l4 l5 x35 Model_prices Model_hitAt
noncomputable def f_Model_findReading_28_b (Model_now : Nat → Int32) (K20 : Int32 → Int32 → Int32 → Int32 → (Nat → Int32) → (Nat → Int32) → Option ((Nat → Int32) × (Nat → Int32))) (K28 : Int32 → Int32 → Int32 → Int32 → Int32 → (Nat → Int32) → (Nat → Int32) → Option ((Nat → Int32) × (Nat → Int32))) (l1 l2 l3 l4 l5 : Int32) (Model_prices Model_hitAt : Nat → Int32) : Option ((Nat → Int32) × (Nat → Int32)) :=
  if l5 < 0 then (
    nm (l4 + (-1)) fun x37 =>
    K20 l1 l2 l3 x37 Model_prices Model_hitAt)
  else
    if l4 = l2 then (
      f_Model_findReading_62 Model_now K20 K28 l1 l2 l3 l4 l5 (40 * (l3 - l5)) Model_prices Model_hitAt)
    else
      b1 (f_Model_priceFrom Model_prices (l4 + 1) l5) fun r39 =>
      f_Model_findReading_62 Model_now K20 K28 l1 l2 l3 l4 l5 (40 + r39) Model_prices Model_hitAt
noncomputable def f_Model_findReading_28 (Model_now : Nat → Int32) (K20 : Int32 → Int32 → Int32 → Int32 → (Nat → Int32) → (Nat → Int32) → Option ((Nat → Int32) × (Nat → Int32))) : Nat → Int32 → Int32 → Int32 → Int32 → Int32 → (Nat → Int32) → (Nat → Int32) → Option ((Nat → Int32) × (Nat → Int32))
  | 0 => fun _ _ _ _ _ _ _ => none
  | n + 1 => fun l1 l2 l3 l4 l5 Model_prices Model_hitAt => f_Model_findReading_28_b Model_now K20 (f_Model_findReading_28 Model_now K20 n) l1 l2 l3 l4 l5 Model_prices Model_hitAt
noncomputable def f_Model_findReading_20_b (Model_now : Nat → Int32)  (K20 : Int32 → Int32 → Int32 → Int32 → (Nat → Int32) → (Nat → Int32) → Option ((Nat → Int32) × (Nat → Int32))) (l1 l2 l3 l4 : Int32) (Model_prices Model_hitAt : Nat → Int32) : Option ((Nat → Int32) × (Nat → Int32)) :=
  if l4 < 0 then (
    f_Model_findReading_158 Model_now fu l1 l2 l3 0 0 Model_prices Model_hitAt)
  else
    f_Model_findReading_28 Model_now K20 fu l1 l2 l3 l4 l3 Model_prices Model_hitAt
noncomputable def f_Model_findReading_20 (Model_now : Nat → Int32)  : Nat → Int32 → Int32 → Int32 → Int32 → (Nat → Int32) → (Nat → Int32) → Option ((Nat → Int32) × (Nat → Int32))
  | 0 => fun _ _ _ _ _ _ => none
  | n + 1 => fun l1 l2 l3 l4 Model_prices Model_hitAt => f_Model_findReading_20_b Model_now  (f_Model_findReading_20 Model_now  n) l1 l2 l3 l4 Model_prices Model_hitAt
noncomputable def f_Model_findReading (Model_now Model_prices Model_hitAt : Nat → Int32) (p1 : Int32) : Option ((Nat → Int32) × (Nat → Int32)) :=
  rd 187 Model_now 0 fun x42 =>
  rd 187 Model_now (87 + p1) fun x43 =>
  f_Model_findReading_20 Model_now fu p1 x42 x43 x42 Model_prices Model_hitAt
noncomputable def f_Model_sheet_85_b   (K85 : Int32 → Int32 → Int32 → (Nat → Int32) → (Nat → Int32) → (Nat → Int32) → Option (Int32 × Int32 × (Nat → Int32) × (Nat → Int32) × (Nat → Int32))) (l1 l4 Model_findings : Int32) (Model_bits Model_sizes Model_sheets : Nat → Int32) : Option (Int32 × Int32 × (Nat → Int32) × (Nat → Int32) × (Nat → Int32)) :=
  if 24 ≤ l4 then (
    rd 4 Model_sizes l1 fun x2 =>
    some (x2, Model_findings, Model_bits, Model_sizes, Model_sheets))
  else
    ck 96 ((24 * l1) + l4) <|
    nm (l4 + 1) fun x4 =>
    K85 l1 x4 Model_findings Model_bits Model_sizes (upd Model_sheets ((24 * l1) + l4).toNatClampNeg 0)
noncomputable def f_Model_sheet_85   : Nat → Int32 → Int32 → Int32 → (Nat → Int32) → (Nat → Int32) → (Nat → Int32) → Option (Int32 × Int32 × (Nat → Int32) × (Nat → Int32) × (Nat → Int32))
  | 0 => fun _ _ _ _ _ _ => none
  | n + 1 => fun l1 l4 Model_findings Model_bits Model_sizes Model_sheets => f_Model_sheet_85_b  (f_Model_sheet_85  n) l1 l4 Model_findings Model_bits Model_sizes Model_sheets
noncomputable def f_Model_sheet_36   (l1 l2 l3 Model_findings : Int32) (Model_bits Model_sizes Model_sheets : Nat → Int32) : Option (Int32 × Int32 × (Nat → Int32) × (Nat → Int32) × (Nat → Int32)) :=
  if 0 ≤ l3 then (
    if l3 ≤ 24 then (
      ck 4 l1 <|
      if l2 = 0 then (
        ck 4 l1 <|
        f_Model_sheet_85 fu l1 0 Model_findings (upd Model_bits l1.toNatClampNeg l2) (upd Model_sizes l1.toNatClampNeg 0) Model_sheets)
      else
        ck 4 l1 <|
        f_Model_sheet_85 fu l1 0 Model_findings (upd Model_bits l1.toNatClampNeg l2) (upd Model_sizes l1.toNatClampNeg l3) Model_sheets)
    else
      b2 (f_Model_finding Model_findings (-100001)) fun r11 y12 =>
      some (r11, y12, Model_bits, Model_sizes, Model_sheets))
  else
    b2 (f_Model_finding Model_findings (-100003)) fun r14 y15 =>
    some (r14, y15, Model_bits, Model_sizes, Model_sheets)
noncomputable def f_Model_sheet (Model_findings : Int32) (Model_bits Model_sizes Model_sheets : Nat → Int32) (p1 p2 p3 : Int32) : Option (Int32 × Int32 × (Nat → Int32) × (Nat → Int32) × (Nat → Int32)) :=
  b1 (f_Model_isSheet p1) fun r17 =>
  if r17 = 0 then (
    b2 (f_Model_finding Model_findings (-100001)) fun r20 y21 =>
    some (r20, y21, Model_bits, Model_sizes, Model_sheets))
  else
    if p2 = 0 then (
      f_Model_sheet_36 p1 p2 p3 Model_findings Model_bits Model_sizes Model_sheets)
    else
      if p2 = 8 then (
        f_Model_sheet_36 p1 p2 p3 Model_findings Model_bits Model_sizes Model_sheets)
      else
        if p2 = 16 then (
          f_Model_sheet_36 p1 p2 p3 Model_findings Model_bits Model_sizes Model_sheets)
        else
          if p2 = 32 then (
            f_Model_sheet_36 p1 p2 p3 Model_findings Model_bits Model_sizes Model_sheets)
          else
            b2 (f_Model_finding Model_findings (-100001)) fun r27 y28 =>
            some (r27, y28, Model_bits, Model_sizes, Model_sheets)
noncomputable def f_Model_put (Model_findings : Int32) (Model_bits Model_sizes Model_sheets : Nat → Int32) (p1 p2 p3 : Int32) : Option (Int32 × Int32 × (Nat → Int32)) :=
  b1 (f_Model_isSheet p1) fun r1 =>
  if r1 = 0 then (
    b2 (f_Model_finding Model_findings (-100001)) fun r21 y22 =>
    some (r21, y22, Model_sheets))
  else
    rd 4 Model_bits p1 fun x4 =>
    if x4 = 0 then (
      b2 (f_Model_finding Model_findings (-100002)) fun r18 y19 =>
      some (r18, y19, Model_sheets))
    else
      rd 4 Model_sizes p1 fun x6 =>
      b1 (f_Model_within p2 0 (x6 - 1)) fun r7 =>
      if r7 = 0 then (
        b2 (f_Model_finding Model_findings (-100001)) fun r15 y16 =>
        some (r15, y16, Model_sheets))
      else
        rd 4 Model_bits p1 fun x10 =>
        nm (32 - x10) fun x11 =>
        nm (jshl p3 x11) fun x12 =>
        nm (jshr x12 x11) fun x13 =>
        ck 96 ((24 * p1) + p2) <|
        some (0, Model_findings, (upd Model_sheets ((24 * p1) + p2).toNatClampNeg x13))
noncomputable def f_Model_copy_117 (Model_bits Model_sizes : Nat → Int32)  (Model_findings : Int32) (Model_sheets Model_carried : Nat → Int32) : Option (Int32 × Int32 × (Nat → Int32) × (Nat → Int32)) :=
  b2 (f_Model_finding Model_findings (-100001)) fun r1 y2 =>
  some (r1, y2, Model_sheets, Model_carried)
noncomputable def f_Model_copy_164_b (Model_bits Model_sizes : Nat → Int32)  (K164 : Int32 → Int32 → Int32 → Int32 → Int32 → (Nat → Int32) → (Nat → Int32) → Option (Int32 × Int32 × (Nat → Int32) × (Nat → Int32))) (l3 l4 l5 l6 Model_findings : Int32) (Model_sheets Model_carried : Nat → Int32) : Option (Int32 × Int32 × (Nat → Int32) × (Nat → Int32)) :=
  if l5 ≤ l6 then (
    some (l5, Model_findings, Model_sheets, Model_carried))
  else
    rd 24 Model_carried l6 fun x5 =>
    ck 96 (((24 * l3) + l4) + l6) <|
    nm (l6 + 1) fun x7 =>
    K164 l3 l4 l5 x7 Model_findings (upd Model_sheets (((24 * l3) + l4) + l6).toNatClampNeg x5) Model_carried
noncomputable def f_Model_copy_164 (Model_bits Model_sizes : Nat → Int32)  : Nat → Int32 → Int32 → Int32 → Int32 → Int32 → (Nat → Int32) → (Nat → Int32) → Option (Int32 × Int32 × (Nat → Int32) × (Nat → Int32))
  | 0 => fun _ _ _ _ _ _ _ => none
  | n + 1 => fun l3 l4 l5 l6 Model_findings Model_sheets Model_carried => f_Model_copy_164_b Model_bits Model_sizes  (f_Model_copy_164 Model_bits Model_sizes  n) l3 l4 l5 l6 Model_findings Model_sheets Model_carried
noncomputable def f_Model_copy_127_b (Model_bits Model_sizes : Nat → Int32)  (K127 : Int32 → Int32 → Int32 → Int32 → Int32 → Int32 → Int32 → (Nat → Int32) → (Nat → Int32) → Option (Int32 × Int32 × (Nat → Int32) × (Nat → Int32))) (l1 l2 l3 l4 l5 l6 Model_findings : Int32) (Model_sheets Model_carried : Nat → Int32) : Option (Int32 × Int32 × (Nat → Int32) × (Nat → Int32)) :=
  if l5 ≤ l6 then (
    f_Model_copy_164 Model_bits Model_sizes fu l3 l4 l5 0 Model_findings Model_sheets Model_carried)
  else
    rd 96 Model_sheets (((24 * l1) + l2) + l6) fun x9 =>
    ck 24 l6 <|
    nm (l6 + 1) fun x11 =>
    K127 l1 l2 l3 l4 l5 x11 Model_findings Model_sheets (upd Model_carried l6.toNatClampNeg x9)
noncomputable def f_Model_copy_127 (Model_bits Model_sizes : Nat → Int32)  : Nat → Int32 → Int32 → Int32 → Int32 → Int32 → Int32 → Int32 → (Nat → Int32) → (Nat → Int32) → Option (Int32 × Int32 × (Nat → Int32) × (Nat → Int32))
  | 0 => fun _ _ _ _ _ _ _ _ _ => none
  | n + 1 => fun l1 l2 l3 l4 l5 l6 Model_findings Model_sheets Model_carried => f_Model_copy_127_b Model_bits Model_sizes  (f_Model_copy_127 Model_bits Model_sizes  n) l1 l2 l3 l4 l5 l6 Model_findings Model_sheets Model_carried
noncomputable def f_Model_copy (Model_findings : Int32) (Model_bits Model_sizes Model_sheets Model_carried : Nat → Int32) (p1 p2 p3 p4 p5 : Int32) : Option (Int32 × Int32 × (Nat → Int32) × (Nat → Int32)) :=
  b1 (f_Model_isSheet p1) fun r12 =>
  if r12 = 0 then (
    b2 (f_Model_finding Model_findings (-100001)) fun r15 y16 =>
    some (r15, y16, Model_sheets, Model_carried))
  else
    b1 (f_Model_isSheet p3) fun r18 =>
    if r18 = 0 then (
      b2 (f_Model_finding Model_findings (-100001)) fun r46 y47 =>
      some (r46, y47, Model_sheets, Model_carried))
    else
      rd 4 Model_bits p1 fun x21 =>
      if x21 = 0 then (
        b2 (f_Model_finding Model_findings (-100002)) fun r23 y24 =>
        some (r23, y24, Model_sheets, Model_carried))
      else
        rd 4 Model_bits p3 fun x26 =>
        if x26 = 0 then (
          b2 (f_Model_finding Model_findings (-100002)) fun r43 y44 =>
          some (r43, y44, Model_sheets, Model_carried))
        else
          rd 4 Model_bits p1 fun x28 =>
          rd 4 Model_bits p3 fun x29 =>
          if x28 = x29 then (
            if p2 < 0 then (
              f_Model_copy_117 Model_bits Model_sizes Model_findings Model_sheets Model_carried)
            else
              if p4 < 0 then (
                f_Model_copy_117 Model_bits Model_sizes Model_findings Model_sheets Model_carried)
              else
                if p5 < 0 then (
                  f_Model_copy_117 Model_bits Model_sizes Model_findings Model_sheets Model_carried)
                else
                  rd 4 Model_sizes p1 fun x34 =>
                  nm (lg_cmp ((p2.toInt64) + (p5.toInt64)) (x34.toInt64)) fun x35 =>
                  if 0 < x35 then (
                    f_Model_copy_117 Model_bits Model_sizes Model_findings Model_sheets Model_carried)
                  else
                    rd 4 Model_sizes p3 fun x37 =>
                    nm (lg_cmp ((p4.toInt64) + (p5.toInt64)) (x37.toInt64)) fun x38 =>
                    if x38 ≤ 0 then (
                      f_Model_copy_127 Model_bits Model_sizes fu p1 p2 p3 p4 p5 0 Model_findings Model_sheets Model_carried)
                    else
                      f_Model_copy_117 Model_bits Model_sizes Model_findings Model_sheets Model_carried)
          else
            b2 (f_Model_finding Model_findings (-100004)) fun r40 y41 =>
            some (r40, y41, Model_sheets, Model_carried)
noncomputable def f_Model_tape_132 (Model_bits Model_sizes Model_sheets : Nat → Int32)  (l1 l3 : Int32) (Model_now Model_past : Nat → Int32) (Model_kept Model_findings : Int32) : Option (Int32 × (Nat → Int32) × (Nat → Int32) × Int32 × Int32) :=
  ck 187 (87 + l1) <|
  some (l3, (upd Model_now (87 + l1).toNatClampNeg l3), Model_past, Model_kept, Model_findings)
noncomputable def f_Model_tape_101 (Model_bits Model_sizes Model_sheets : Nat → Int32) (K43 : Int32 → Int32 → Int32 → (Nat → Int32) → (Nat → Int32) → Int32 → Int32 → Option (Int32 × (Nat → Int32) × (Nat → Int32) × Int32 × Int32)) (l1 l2 l3 : Int32) (Model_now Model_past : Nat → Int32) (Model_kept Model_findings : Int32) : Option (Int32 × (Nat → Int32) × (Nat → Int32) × Int32 × Int32) :=
  rd 96 Model_sheets ((24 * l2) + l3) fun x2 =>
  ck 187 ((91 + (24 * l1)) + l3) <|
  nm (l3 + 1) fun x4 =>
  K43 l1 l2 x4 (upd Model_now ((91 + (24 * l1)) + l3).toNatClampNeg x2) Model_past Model_kept Model_findings
noncomputable def f_Model_tape_43_b (Model_bits Model_sizes Model_sheets : Nat → Int32)  (K43 : Int32 → Int32 → Int32 → (Nat → Int32) → (Nat → Int32) → Int32 → Int32 → Option (Int32 × (Nat → Int32) × (Nat → Int32) × Int32 × Int32)) (l1 l2 l3 : Int32) (Model_now Model_past : Nat → Int32) (Model_kept Model_findings : Int32) : Option (Int32 × (Nat → Int32) × (Nat → Int32) × Int32 × Int32) :=
  rd 4 Model_sizes l2 fun x5 =>
  if x5 ≤ l3 then (
    f_Model_tape_132 Model_bits Model_sizes Model_sheets l1 l3 Model_now Model_past Model_kept Model_findings)
  else
    rd 96 Model_sheets ((24 * l2) + l3) fun x7 =>
    b1 (f_Model_isTick x7) fun r8 =>
    if r8 = 0 then (
      f_Model_tape_132 Model_bits Model_sizes Model_sheets l1 l3 Model_now Model_past Model_kept Model_findings)
    else
      if l3 = 0 then (
        f_Model_tape_101 Model_bits Model_sizes Model_sheets K43 l1 l2 l3 Model_now Model_past Model_kept Model_findings)
      else
        rd 96 Model_sheets ((24 * l2) + l3) fun x12 =>
        rd 96 Model_sheets (((24 * l2) + l3) - 1) fun x13 =>
        if x12 < x13 then (
          f_Model_tape_132 Model_bits Model_sizes Model_sheets l1 l3 Model_now Model_past Model_kept Model_findings)
        else
          f_Model_tape_101 Model_bits Model_sizes Model_sheets K43 l1 l2 l3 Model_now Model_past Model_kept Model_findings
noncomputable def f_Model_tape_43 (Model_bits Model_sizes Model_sheets : Nat → Int32)  : Nat → Int32 → Int32 → Int32 → (Nat → Int32) → (Nat → Int32) → Int32 → Int32 → Option (Int32 × (Nat → Int32) × (Nat → Int32) × Int32 × Int32)
  | 0 => fun _ _ _ _ _ _ _ => none
  | n + 1 => fun l1 l2 l3 Model_now Model_past Model_kept Model_findings => f_Model_tape_43_b Model_bits Model_sizes Model_sheets  (f_Model_tape_43 Model_bits Model_sizes Model_sheets  n) l1 l2 l3 Model_now Model_past Model_kept Model_findings
noncomputable def f_Model_tape (Model_now Model_past : Nat → Int32) (Model_kept Model_findings : Int32) (Model_bits Model_sizes Model_sheets : Nat → Int32) (p1 p2 : Int32) : Option (Int32 × (Nat → Int32) × (Nat → Int32) × Int32 × Int32) :=
  b1 (f_Model_isPlayer p1) fun r15 =>
  if r15 = 0 then (
    b2 (f_Model_finding Model_findings (-100001)) fun r18 y19 =>
    some (r18, Model_now, Model_past, Model_kept, y19))
  else
    b1 (f_Model_isSheet p2) fun r21 =>
    if r21 = 0 then (
      b2 (f_Model_finding Model_findings (-100001)) fun r32 y33 =>
      some (r32, Model_now, Model_past, Model_kept, y33))
    else
      rd 4 Model_bits p2 fun x24 =>
      if x24 = 0 then (
        b2 (f_Model_finding Model_findings (-100002)) fun r29 y30 =>
        some (r29, Model_now, Model_past, Model_kept, y30))
      else
        b2 (f_Model_keep Model_now Model_past Model_kept) fun y26 y27 =>
        f_Model_tape_43 Model_bits Model_sizes Model_sheets fu p1 p2 0 Model_now y26 y27 Model_findings
noncomputable def f_Model_price (Model_now : Nat → Int32) (Model_findings : Int32) (Model_prices Model_hitAt : Nat → Int32) (p1 : Int32) : Option (Int32 × Int32 × (Nat → Int32) × (Nat → Int32)) :=
  b1 (f_Model_isPlayer p1) fun r1 =>
  if r1 = 0 then (
    b2 (f_Model_finding Model_findings (-100001)) fun r9 y10 =>
    some (r9, y10, Model_prices, Model_hitAt))
  else
    b2 (f_Model_findReading Model_now Model_prices Model_hitAt p1) fun y4 y5 =>
    b1 (f_Model_priceFrom y4 0 0) fun r7 =>
    some (r7, Model_findings, y4, y5)
noncomputable def f_Model_read (Model_now : Nat → Int32) (Model_findings : Int32) (Model_prices Model_hitAt : Nat → Int32) (p1 p2 : Int32) : Option (Int32 × Int32 × (Nat → Int32) × (Nat → Int32)) :=
  b1 (f_Model_isPlayer p1) fun r1 =>
  if r1 = 0 then (
    b2 (f_Model_finding Model_findings (-100001)) fun r4 y5 =>
    some (r4, y5, Model_prices, Model_hitAt))
  else
    b1 (f_Model_isNote Model_now p2) fun r7 =>
    if r7 = 0 then (
      b2 (f_Model_finding Model_findings (-100001)) fun r19 y20 =>
      some (r19, y20, Model_prices, Model_hitAt))
    else
      b2 (f_Model_findReading Model_now Model_prices Model_hitAt p1) fun y10 y11 =>
      rd 20 y11 p2 fun x13 =>
      if 0 ≤ x13 then (
        rd 20 y11 p2 fun x15 =>
        some (x15, Model_findings, y10, y11))
      else
        b2 (f_Model_finding Model_findings (-100006)) fun r16 y17 =>
        some (r16, y17, y10, y11)
noncomputable def f_Model_late (Model_now : Nat → Int32) (Model_findings : Int32) (Model_prices Model_hitAt : Nat → Int32) (p1 p2 : Int32) : Option (Int32 × Int32 × (Nat → Int32) × (Nat → Int32)) :=
  b1 (f_Model_isPlayer p1) fun r1 =>
  if r1 = 0 then (
    b2 (f_Model_finding Model_findings (-100001)) fun r4 y5 =>
    some (r4, y5, Model_prices, Model_hitAt))
  else
    b1 (f_Model_isNote Model_now p2) fun r7 =>
    if r7 = 0 then (
      b2 (f_Model_finding Model_findings (-100001)) fun r22 y23 =>
      some (r22, y23, Model_prices, Model_hitAt))
    else
      b2 (f_Model_findReading Model_now Model_prices Model_hitAt p1) fun y10 y11 =>
      rd 20 y11 p2 fun x13 =>
      if 0 ≤ x13 then (
        rd 20 y11 p2 fun x15 =>
        b1 (f_Model_hitOf Model_now p1 x15) fun r16 =>
        rd 187 Model_now (27 + p2) fun x18 =>
        some ((r16 - x18), Model_findings, y10, y11))
      else
        b2 (f_Model_finding Model_findings (-100006)) fun r19 y20 =>
        some (r19, y20, y10, y11)
noncomputable def f_Model_missed_24_b (Model_now : Nat → Int32)  (K24 : Int32 → Int32 → Int32 → Int32 → Int32 → (Nat → Int32) → (Nat → Int32) → Option (Int32 × Int32 × (Nat → Int32) × (Nat → Int32))) (l1 l2 l3 l4 Model_findings : Int32) (Model_prices Model_hitAt : Nat → Int32) : Option (Int32 × Int32 × (Nat → Int32) × (Nat → Int32)) :=
  rd 187 Model_now 0 fun x1 =>
  if x1 ≤ l4 then (
    if l2 = 0 then (
      rd 187 Model_now 0 fun x4 =>
      some ((x4 - l3), Model_findings, Model_prices, Model_hitAt))
    else
      rd 187 Model_now (87 + l1) fun x5 =>
      some ((x5 - l3), Model_findings, Model_prices, Model_hitAt))
  else
    rd 20 Model_hitAt l4 fun x6 =>
    if x6 < 0 then (
      nm (l3 + 0) fun x8 =>
      nm (l4 + 1) fun x9 =>
      K24 l1 l2 x8 x9 Model_findings Model_prices Model_hitAt)
    else
      nm (l3 + 1) fun x10 =>
      nm (l4 + 1) fun x11 =>
      K24 l1 l2 x10 x11 Model_findings Model_prices Model_hitAt
noncomputable def f_Model_missed_24 (Model_now : Nat → Int32)  : Nat → Int32 → Int32 → Int32 → Int32 → Int32 → (Nat → Int32) → (Nat → Int32) → Option (Int32 × Int32 × (Nat → Int32) × (Nat → Int32))
  | 0 => fun _ _ _ _ _ _ _ => none
  | n + 1 => fun l1 l2 l3 l4 Model_findings Model_prices Model_hitAt => f_Model_missed_24_b Model_now  (f_Model_missed_24 Model_now  n) l1 l2 l3 l4 Model_findings Model_prices Model_hitAt
noncomputable def f_Model_missed (Model_now : Nat → Int32) (Model_findings : Int32) (Model_prices Model_hitAt : Nat → Int32) (p1 p2 : Int32) : Option (Int32 × Int32 × (Nat → Int32) × (Nat → Int32)) :=
  b1 (f_Model_isPlayer p1) fun r12 =>
  if r12 = 0 then (
    b2 (f_Model_finding Model_findings (-100001)) fun r18 y19 =>
    some (r18, y19, Model_prices, Model_hitAt))
  else
    b2 (f_Model_findReading Model_now Model_prices Model_hitAt p1) fun y15 y16 =>
    f_Model_missed_24 Model_now fu p1 p2 0 0 Model_findings y15 y16
