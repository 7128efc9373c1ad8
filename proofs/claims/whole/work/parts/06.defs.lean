/-! THE METHODS AS FUNCTIONS OF THE CELLS (written by program out of the bytecode) -/
def f_X2_size (o : Nat) (s : Sg) : Option Int32 :=
  some (s o 2)
def f_X2_cell (o : Nat) (x1 : Int32) (x2 : Int32) (s : Sg) : Option Int32 :=
  if x1 < 0 then
    some (nI 0)
  else
    if (s o 2) ≤ x1 then
      some (nI 0)
    else
      if x2 < 0 then
        some (nI 0)
      else
        if x2 < (s o 0) then
          (aget s (o + 1) ((x1 * (s o 0)) + x2)).bind fun (v1 : Int32) =>
          some v1
        else
          some (nI 0)
def f_X2_empty (o : Nat) (s : Sg) : Option Sg :=
  nm_ (sts s o 2 (nI 0)) fun (s1 : Sg) =>
  some s1
def f_X7_isBelow (x0 : Int32) (x1 : Int32) (s : Sg) : Option Int32 :=
  if x0 < 0 then
    some (nI 0)
  else
    if x1 ≤ x0 then
      some (nI 0)
    else
      some (nI 1)
def f_X5_kindOf (t : Nat) (x1 : Int32) (s : Sg) : Option Int32 :=
  (f_X2_cell (t + 3) x1 (nI 0) s).bind fun (v1 : Int32) =>
  (f_X7_isBelow v1 (nI 6) s).bind fun (v2 : Int32) =>
  if v2 = 0 then
    some (nI 0)
  else
    some v1
def f_X5_needed (t : Nat) (x1 : Int32) (s : Sg) : Option Int32 :=
  (f_X5_kindOf t x1 s).bind fun (v1 : Int32) =>
  (tget 2 v1).bind fun (v2 : Int32) =>
  some v2
def f_X5_isSeenByEnough (t : Nat) (x1 : Int32) (s : Sg) : Option Int32 :=
  (f_X2_cell (t + 3) x1 (nI 3) s).bind fun (v1 : Int32) =>
  (f_X5_needed t x1 s).bind fun (v2 : Int32) =>
  if v1 < v2 then
    some (nI 0)
  else
    some (nI 1)
def f_X5_meet (t : Nat) (x1 : Int32) (x2 : Int32) (s : Sg) : Option Int32 :=
  (f_X2_cell (t + 1) x1 (nI 0) s).bind fun (v1 : Int32) =>
  (f_X2_cell (t + 1) x1 (nI 1) s).bind fun (v2 : Int32) =>
  (f_X2_cell (t + 1) x2 (nI 0) s).bind fun (v3 : Int32) =>
  (f_X2_cell (t + 1) x2 (nI 1) s).bind fun (v4 : Int32) =>
  if v1 = v3 then
    some (nI 1)
  else
    if v1 = v4 then
      some (nI 1)
    else
      if v2 = v3 then
        some (nI 1)
      else
        if v2 = v4 then
          some (nI 1)
        else
          some (nI 0)
def b_X5_streetsOf_28 (t : Nat) (s : Sg) (v1 : Int32) (self5 : Int32 → Int32 → Option Int32) (i3 : Int32) (i4 : Int32) : Option Int32 :=
  (f_X2_size (t + 1) s).bind fun (v6 : Int32) =>
  if v6 ≤ i4 then
    some i3
  else
    (f_X5_meet t v1 i4 s).bind fun (v7 : Int32) =>
    nm_ (fun (a8 : Int32) =>
      self5 a8 (i4 + (nI 1))) fun j9 =>
    if v7 = 0 then
      j9 i3
    else
      nm_ (i3 ||| ((nI 1) <<< (i4 &&& 31))) fun (v10 : Int32) =>
      j9 v10
def f_X5_streetsOf (t : Nat) (x1 : Int32) (s : Sg) : Option Int32 :=
  (f_X2_cell (t + 3) x1 (nI 1) s).bind fun (v1 : Int32) =>
  (f_X5_kindOf t x1 s).bind fun (v2 : Int32) =>
  if v2 = (nI 1) then
    lp2_ (b_X5_streetsOf_28 t s v1) fu (nI 0) (nI 0)
  else
    some ((nI 1) <<< (v1 &&& 31))
def f_X7_rankBy (x0 : Int32) (x1 : Int32) (s : Sg) : Option Int32 :=
  if x0 = (nI 3) then
    some (x1 / (nI 2))
  else
    (f_X7_isBelow x0 (nI 6) s).bind fun (v1 : Int32) =>
    if v1 = 0 then
      some x1
    else
      (tget 3 x0).bind fun (v2 : Int32) =>
      some (x1 + v2)
def f_X5_rankGiven (t : Nat) (x1 : Int32) (s : Sg) : Option Int32 :=
  (f_X5_kindOf t x1 s).bind fun (v1 : Int32) =>
  (f_X2_cell (t + 3) x1 (nI 4) s).bind fun (v2 : Int32) =>
  (f_X7_rankBy v1 v2 s).bind fun (v3 : Int32) =>
  some v3
def f_X5_hoursGiven (t : Nat) (x1 : Int32) (s : Sg) : Option Int32 :=
  (f_X5_kindOf t x1 s).bind fun (v1 : Int32) =>
  (tget 4 v1).bind fun (v2 : Int32) =>
  some v2
def b_X0_placeBehind_2 (s : Sg) (x1 : Int32) (self2 : Int32 → Option Int32) (i1 : Int32) : Option Int32 :=
  (f_X2_size 53 s).bind fun (v3 : Int32) =>
  if v3 ≤ i1 then
    some i1
  else
    (f_X2_cell 53 i1 (nI 0) s).bind fun (v4 : Int32) =>
    if x1 < v4 then
      some i1
    else
      self2 (i1 + (nI 1))
def f_X0_placeBehind (x1 : Int32) (s : Sg) : Option Int32 :=
  lp1_ (b_X0_placeBehind_2 s x1) fu (nI 0)
def f_X2_isFull (o : Nat) (s : Sg) : Option Int32 :=
  if (((s o 2) + (nI 1)) * (s o 0)) ≤ (nI (alen (o + 1))) then
    some (nI 0)
  else
    some (nI 1)
def f_X2_insert (o : Nat) (x1 : Int32) (c2 : Nat) (s : Sg) : Option Sg :=
  (f_X2_isFull o s).bind fun (v1 : Int32) =>
  if v1 = 0 then
    if x1 < 0 then
      some s
    else
      if (s o 2) < x1 then
        some s
      else
        if (s o 0) ≤ (nI (alen c2)) then
          nm_ (x1 * (s o 0)) fun (v2 : Int32) =>
          (acpy s (o + 1) v2 (o + 1) (v2 + (s o 0)) (((s o 2) - x1) * (s o 0))).bind fun (s3 : Sg) =>
          (acpy s3 c2 (nI 0) (o + 1) v2 (s3 o 0)).bind fun (s4 : Sg) =>
          nm_ (sts s4 o 2 ((s4 o 2) + (nI 1))) fun (s5 : Sg) =>
          some s5
        else
          some s
  else
    some s
def f_X0_planEvent (t1 : Nat) (x2 : Int32) (s : Sg) : Option Sg :=
  (f_X2_cell (t1 + 3) x2 (nI 2) s).bind fun (v1 : Int32) =>
  (aset s 55 (nI 0) v1).bind fun (s2 : Sg) =>
  (f_X5_streetsOf t1 x2 s2).bind fun (v3 : Int32) =>
  (aset s2 55 (nI 1) v3).bind fun (s4 : Sg) =>
  (f_X2_cell (t1 + 3) x2 (nI 5) s4).bind fun (v5 : Int32) =>
  (aset s4 55 (nI 2) v5).bind fun (s6 : Sg) =>
  (f_X5_rankGiven t1 x2 s6).bind fun (v7 : Int32) =>
  (aset s6 55 (nI 3) v7).bind fun (s8 : Sg) =>
  (aget s8 55 (nI 0)).bind fun (v9 : Int32) =>
  (f_X5_hoursGiven t1 x2 s8).bind fun (v10 : Int32) =>
  (aset s8 55 (nI 4) (v9 + v10)).bind fun (s11 : Sg) =>
  (aset s11 55 (nI 5) ((nI 1) <<< (x2 &&& 31))).bind fun (s12 : Sg) =>
  (aget s12 55 (nI 0)).bind fun (v13 : Int32) =>
  (f_X0_placeBehind v13 s12).bind fun (v14 : Int32) =>
  (f_X2_insert 53 v14 55 s12).bind fun (s15 : Sg) =>
  some s15
def b_X0_plan_59 (t1 : Nat) (self9 : Int32 → Sg → Option Sg) (i7 : Int32) (s8 : Sg) : Option Sg :=
  (f_X2_size (t1 + 3) s8).bind fun (v10 : Int32) =>
  if v10 ≤ i7 then
    some s8
  else
    (f_X5_isSeenByEnough t1 i7 s8).bind fun (v11 : Int32) =>
    nm_ (fun (s12 : Sg) =>
      self9 (i7 + (nI 1)) s12) fun j13 =>
    if v11 = 0 then
      j13 s8
    else
      (f_X0_planEvent t1 i7 s8).bind fun (s14 : Sg) =>
      j13 s14
def b_X0_plan_21 (j5 : Sg → Option Sg) (t1 : Nat) (self17 : Int32 → Sg → Option Sg) (i15 : Int32) (s16 : Sg) : Option Sg :=
  if (s16 52 7) ≤ i15 then
    j5 s16
  else
    (f_X2_cell (t1 + 1) i15 (nI 3) s16).bind fun (v18 : Int32) =>
    (aset s16 56 i15 v18).bind fun (s19 : Sg) =>
    self17 (i15 + (nI 1)) s19
def f_X0_plan (t1 : Nat) (s : Sg) : Option Sg :=
  nm_ (sts s 52 8 (s t1 7)) fun (s1 : Sg) =>
  (f_X2_size (t1 + 1) s1).bind fun (v2 : Int32) =>
  nm_ (sts s1 52 7 v2) fun (s3 : Sg) =>
  nm_ (fun (s4 : Sg) =>
    (f_X2_empty 53 s4).bind fun (s6 : Sg) =>
    lp2_ (b_X0_plan_59 t1) fu (nI 0) s6) fun j5 =>
  lp2_ (b_X0_plan_21 j5 t1) fu (nI 0) s3
def f_X0_addStaged (x1 : Int32) (x2 : Int32) (x3 : Int32) (s : Sg) : Option (Int32 × Sg) :=
  (f_X0_placeBehind x3 s).bind fun (v1 : Int32) =>
  (aset s 55 (nI 0) x3).bind fun (s2 : Sg) =>
  (aset s2 55 (nI 1) ((nI 1) <<< (x1 &&& 31))).bind fun (s3 : Sg) =>
  (aset s3 55 (nI 2) x2).bind fun (s4 : Sg) =>
  (f_X7_rankBy (nI 3) (nI 9) s4).bind fun (v5 : Int32) =>
  (aset s4 55 (nI 3) v5).bind fun (s6 : Sg) =>
  (tget 4 (nI 3)).bind fun (v7 : Int32) =>
  (aset s6 55 (nI 4) (x3 + v7)).bind fun (s8 : Sg) =>
  (aset s8 55 (nI 5) (nI 256)).bind fun (s9 : Sg) =>
  (f_X2_insert 53 v1 55 s9).bind fun (s10 : Sg) =>
  some (v1, s10)
def f_X2_drop (o : Nat) (x1 : Int32) (s : Sg) : Option Sg :=
  (f_X7_isBelow x1 (s o 2) s).bind fun (v1 : Int32) =>
  if v1 = 0 then
    some s
  else
    nm_ (x1 * (s o 0)) fun (v2 : Int32) =>
    (acpy s (o + 1) (v2 + (s o 0)) (o + 1) v2 ((((s o 2) - x1) - (nI 1)) * (s o 0))).bind fun (s3 : Sg) =>
    nm_ (sts s3 o 2 ((s3 o 2) - (nI 1))) fun (s4 : Sg) =>
    some s4
def f_X0_dropStaged (x1 : Int32) (s : Sg) : Option Sg :=
  (f_X2_drop 53 x1 s).bind fun (s1 : Sg) =>
  some s1
def f_X0_streets (s : Sg) : Option Int32 :=
  some (s 52 7)
def f_X0_firstWordOf (x1 : Int32) (s : Sg) : Option Int32 :=
  (f_X7_isBelow x1 (nI 7) s).bind fun (v1 : Int32) =>
  if v1 = 0 then
    some (-1 : Int32)
  else
    (aget s 56 x1).bind fun (v2 : Int32) =>
    some v2
def f_X0_begin (x1 : Int32) (s : Sg) : Option Sg :=
  nm_ (sts s 52 9 (nI 0)) fun (s1 : Sg) =>
  (aget s1 56 x1).bind fun (v2 : Int32) =>
  (aset s1 57 x1 v2).bind fun (s3 : Sg) =>
  (aset s3 58 x1 (nI 1)).bind fun (s4 : Sg) =>
  (aset s4 59 x1 (nI 0)).bind fun (s5 : Sg) =>
  (aset s5 60 x1 (nI 0)).bind fun (s6 : Sg) =>
  some s6
def f_X7_holds (x0 : Int32) (x1 : Int32) (s : Sg) : Option Int32 :=
  if ((x0 >>> (x1 &&& 31)) &&& (nI 1)) = 0 then
    some (nI 0)
  else
    some (nI 1)
def f_X0_yields (x1 : Int32) (x2 : Int32) (x3 : Int32) (s : Sg) : Option Int32 :=
  (aget s 60 x1).bind fun (v1 : Int32) =>
  if v1 ≤ x2 then
    some (nI 1)
  else
    if (s 52 8) = (nI 2) then
      some (nI 1)
    else
      if (s 52 8) = 0 then
        (aget s 59 x1).bind fun (v3 : Int32) =>
        if x3 < v3 then
          some (nI 0)
        else
          some (nI 1)
      else
        (aget s 59 x1).bind fun (v2 : Int32) =>
        if x3 ≤ v2 then
          some (nI 0)
        else
          some (nI 1)
def f_X0_isRenamed (x1 : Int32) (x2 : Int32) (s : Sg) : Option (Int32 × Sg) :=
  (f_X2_cell 53 x2 (nI 3) s).bind fun (v1 : Int32) =>
  (f_X2_cell 53 x2 (nI 1) s).bind fun (v2 : Int32) =>
  (f_X7_holds v2 x1 s).bind fun (v3 : Int32) =>
  if v3 = 0 then
    some ((nI 0), s)
  else
    (f_X2_cell 53 x2 (nI 0) s).bind fun (v4 : Int32) =>
    (f_X0_yields x1 v4 v1 s).bind fun (v5 : Int32) =>
    if v5 = 0 then
      some ((nI 0), s)
    else
      (f_X2_cell 53 x2 (nI 2) s).bind fun (v6 : Int32) =>
      (aset s 57 x1 v6).bind fun (s7 : Sg) =>
      (aset s7 59 x1 v1).bind fun (s8 : Sg) =>
      (f_X2_cell 53 x2 (nI 4) s8).bind fun (v9 : Int32) =>
      (aset s8 60 x1 v9).bind fun (s10 : Sg) =>
      some ((nI 1), s10)
def b_X0_live_3 (x2 : Int32) (x3 : Int32) (x1 : Int32) (self3 : Int32 → Sg → Option (Int32 × Sg)) (i1 : Int32) (s2 : Sg) : Option (Int32 × Sg) :=
  (f_X2_size 53 s2).bind fun (v4 : Int32) =>
  if v4 ≤ (s2 52 9) then
    some (i1, s2)
  else
    (f_X2_cell 53 (s2 52 9) (nI 0) s2).bind fun (v5 : Int32) =>
    if x2 < v5 then
      some (i1, s2)
    else
      (f_X2_cell 53 (s2 52 9) (nI 5) s2).bind fun (v6 : Int32) =>
      nm_ (fun (a7 : Int32) (s8 : Sg) =>
        nm_ (sts s8 52 9 ((s8 52 9) + (nI 1))) fun (s10 : Sg) =>
        self3 a7 s10) fun j9 =>
      if (v6 &&& x3) = 0 then
        j9 i1 s2
      else
        ob2 (f_X0_isRenamed x1 (s2 52 9) s2) fun (v11 : Int32) (s12 : Sg) =>
        if v11 = 0 then
          j9 i1 s12
        else
          j9 (i1 + (nI 1)) s12
def f_X0_live (x1 : Int32) (x2 : Int32) (x3 : Int32) (s : Sg) : Option (Int32 × Sg) :=
  lp2_ (b_X0_live_3 x2 x3 x1) fu (nI 0) s
def f_X0_wordIn (x1 : Int32) (x2 : Int32) (x3 : Int32) (s : Sg) : Option (Int32 × Sg) :=
  (f_X7_isBelow x1 (nI 7) s).bind fun (v1 : Int32) =>
  if v1 = 0 then
    some ((-1 : Int32), s)
  else
    (f_X0_begin x1 s).bind fun (s2 : Sg) =>
    ob2 (f_X0_live x1 x2 x3 s2) fun (v3 : Int32) (s4 : Sg) =>
    (aget s4 57 x1).bind fun (v5 : Int32) =>
    some (v5, s4)
def f_X0_renamings (x1 : Int32) (x2 : Int32) (s : Sg) : Option (Int32 × Sg) :=
  (f_X7_isBelow x1 (nI 7) s).bind fun (v1 : Int32) =>
  if v1 = 0 then
    some ((nI 0), s)
  else
    (f_X0_begin x1 s).bind fun (s2 : Sg) =>
    ob2 (f_X0_live x1 (nI 23) x2 s2) fun (v3 : Int32) (s4 : Sg) =>
    some (v3, s4)
def f_X5_rentAt (t : Nat) (x1 : Int32) (s : Sg) : Option Int32 :=
  (f_X7_isBelow x1 (nI 16) s).bind fun (v1 : Int32) =>
  if v1 = 0 then
    some (nI 0)
  else
    (aget s (t + 9) x1).bind fun (v2 : Int32) =>
    some v2
def b_X0_rentOf_21 (x1 : Int32) (t2 : Nat) (self6 : Int32 → Int32 → Sg → Option (Int32 × Sg)) (i3 : Int32) (i4 : Int32) (s5 : Sg) : Option (Int32 × Sg) :=
  if (nI 24) ≤ i4 then
    some (i3, s5)
  else
    ob2 (f_X0_live x1 i4 (-1 : Int32) s5) fun (v7 : Int32) (s8 : Sg) =>
    (aget s8 57 x1).bind fun (v9 : Int32) =>
    (f_X5_rentAt t2 v9 s8).bind fun (v10 : Int32) =>
    nm_ (i3 + v10) fun (v11 : Int32) =>
    self6 v11 (i4 + (nI 1)) s8
def f_X0_rentOf (x1 : Int32) (t2 : Nat) (s : Sg) : Option (Int32 × Sg) :=
  (f_X7_isBelow x1 (nI 7) s).bind fun (v1 : Int32) =>
  if v1 = 0 then
    some ((nI 0), s)
  else
    (f_X0_begin x1 s).bind fun (s2 : Sg) =>
    lp3_ (b_X0_rentOf_21 x1 t2) fu (nI 0) (nI 0) s2
def b_X0_beginAll_2 (self3 : Int32 → Sg → Option Sg) (i1 : Int32) (s2 : Sg) : Option Sg :=
  if (s2 52 7) ≤ i1 then
    some s2
  else
    (f_X0_begin i1 s2).bind fun (s4 : Sg) =>
    self3 (i1 + (nI 1)) s4
def f_X0_beginAll (s : Sg) : Option Sg :=
  lp2_ (b_X0_beginAll_2) fu (nI 0) s
def b_X0_numberFor_4 (s : Sg) (x1 : Int32) (self3 : Int32 → Int32 → Option Int32) (i1 : Int32) (i2 : Int32) : Option Int32 :=
  if (s 52 7) ≤ i2 then
    some i1
  else
    nm_ (fun (a4 : Int32) =>
      self3 a4 (i2 + (nI 1))) fun j5 =>
    if i2 = x1 then
      j5 i1
    else
      (aget s 57 i2).bind fun (v6 : Int32) =>
      (aget s 57 x1).bind fun (v7 : Int32) =>
      if v6 = v7 then
        j5 (i1 + (nI 1))
      else
        j5 i1
def f_X0_numberFor (x1 : Int32) (s : Sg) : Option Int32 :=
  lp2_ (b_X0_numberFor_4 s x1) fu (nI 1) (nI 0)
def b_X0_liveAll_32 (j6 : Sg → Option Sg) (self10 : Int32 → Sg → Option Sg) (i8 : Int32) (s9 : Sg) : Option Sg :=
  if (s9 52 7) ≤ i8 then
    j6 s9
  else
    ob2 (f_X0_isRenamed i8 (s9 52 9) s9) fun (v11 : Int32) (s12 : Sg) =>
    nm_ (fun (s13 : Sg) =>
      self10 (i8 + (nI 1)) s13) fun j14 =>
    if v11 = 0 then
      j14 s12
    else
      (f_X0_numberFor i8 s12).bind fun (v15 : Int32) =>
      (aset s12 58 i8 v15).bind fun (s16 : Sg) =>
      j14 s16
def b_X0_liveAll_0 (x1 : Int32) (self2 : Sg → Option Sg) (s1 : Sg) : Option Sg :=
  (f_X2_size 53 s1).bind fun (v3 : Int32) =>
  if v3 ≤ (s1 52 9) then
    some s1
  else
    (f_X2_cell 53 (s1 52 9) (nI 0) s1).bind fun (v4 : Int32) =>
    if x1 < v4 then
      some s1
    else
      nm_ (fun (s5 : Sg) =>
        nm_ (sts s5 52 9 ((s5 52 9) + (nI 1))) fun (s7 : Sg) =>
        self2 s7) fun j6 =>
      lp2_ (b_X0_liveAll_32 j6) fu (nI 0) s1
def f_X0_liveAll (x1 : Int32) (s : Sg) : Option Sg :=
  lp1_ (b_X0_liveAll_0 x1) fu s
def f_X0_nameNow (x1 : Int32) (s : Sg) : Option Int32 :=
  (f_X7_isBelow x1 (nI 7) s).bind fun (v1 : Int32) =>
  if v1 = 0 then
    some (-1 : Int32)
  else
    (aget s 58 x1).bind fun (v2 : Int32) =>
    (aget s 57 x1).bind fun (v3 : Int32) =>
    some (((nI 100) * v2) + v3)
def b_X1_write_33 (j8 : Sg → Option Sg) (i3 : Int32) (self11 : Int32 → Sg → Option Sg) (i9 : Int32) (s10 : Sg) : Option Sg :=
  (f_X0_streets s10).bind fun (v12 : Int32) =>
  if v12 ≤ i9 then
    j8 s10
  else
    (f_X0_nameNow i9 s10).bind fun (v13 : Int32) =>
    (aset s10 62 ((i3 * (nI 7)) + i9) v13).bind fun (s14 : Sg) =>
    self11 (i9 + (nI 1)) s14
def b_X1_write_17 (self5 : Int32 → Sg → Option Sg) (i3 : Int32) (s4 : Sg) : Option Sg :=
  if (nI 24) ≤ i3 then
    some s4
  else
    (f_X0_liveAll i3 s4).bind fun (s6 : Sg) =>
    nm_ (fun (s7 : Sg) =>
      self5 (i3 + (nI 1)) s7) fun j8 =>
    lp2_ (b_X1_write_33 j8 i3) fu (nI 0) s6
def f_X1_write (t1 : Nat) (s : Sg) : Option Sg :=
  (f_X0_plan t1 s).bind fun (s1 : Sg) =>
  (f_X0_beginAll s1).bind fun (s2 : Sg) =>
  lp2_ (b_X1_write_17) fu (nI 0) s2
def f_X7_isHour (x0 : Int32) (s : Sg) : Option Int32 :=
  (f_X7_isBelow x0 (nI 24) s).bind fun (v1 : Int32) =>
  some (v1 &&& 1)
def f_X1_at (x1 : Int32) (x2 : Int32) (s : Sg) : Option Int32 :=
  (f_X7_isBelow x1 (nI 7) s).bind fun (v1 : Int32) =>
  if v1 = 0 then
    some (-1 : Int32)
  else
    (f_X7_isHour x2 s).bind fun (v2 : Int32) =>
    if v2 = 0 then
      some (-1 : Int32)
    else
      (aget s 62 ((x2 * (nI 7)) + x1)).bind fun (v3 : Int32) =>
      some v3
def b_X1_having_5 (s : Sg) (x2 : Int32) (x1 : Int32) (self3 : Int32 → Int32 → Option Int32) (i1 : Int32) (i2 : Int32) : Option Int32 :=
  (f_X0_streets s).bind fun (v4 : Int32) =>
  if v4 ≤ i2 then
    some i1
  else
    (f_X1_at i2 x2 s).bind fun (v5 : Int32) =>
    nm_ (fun (a6 : Int32) =>
      self3 a6 (i2 + (nI 1))) fun j7 =>
    if v5 = x1 then
      nm_ (i1 ||| ((nI 1) <<< (i2 &&& 31))) fun (v8 : Int32) =>
      j7 v8
    else
      j7 i1
def f_X1_having (x1 : Int32) (x2 : Int32) (s : Sg) : Option Int32 :=
  lp2_ (b_X1_having_5 s x2 x1) fu (nI 0) (nI 0)
def b_X1_firstHaving_2 (s : Sg) (x2 : Int32) (x1 : Int32) (self2 : Int32 → Option Int32) (i1 : Int32) : Option Int32 :=
  (f_X0_streets s).bind fun (v3 : Int32) =>
  if v3 ≤ i1 then
    some (-1 : Int32)
  else
    (f_X1_at i1 x2 s).bind fun (v4 : Int32) =>
    if v4 = x1 then
      some i1
    else
      self2 (i1 + (nI 1))
def f_X1_firstHaving (x1 : Int32) (x2 : Int32) (s : Sg) : Option Int32 :=
  lp1_ (b_X1_firstHaving_2 s x2 x1) fu (nI 0)
def f_J6_bitCount_0f7a4 (x0 : Int32) (s : Sg) : Option Int32 :=
  nm_ (x0 - (((Int32.toUInt32 x0 >>> (Int32.toUInt32 (nI 1) &&& Int32.toUInt32 31)).toInt32) &&& (nI 1431655765))) fun (v1 : Int32) =>
  nm_ ((v1 &&& (nI 858993459)) + (((Int32.toUInt32 v1 >>> (Int32.toUInt32 (nI 2) &&& Int32.toUInt32 31)).toInt32) &&& (nI 858993459))) fun (v2 : Int32) =>
  nm_ ((v2 + ((Int32.toUInt32 v2 >>> (Int32.toUInt32 (nI 4) &&& Int32.toUInt32 31)).toInt32)) &&& (nI 252645135)) fun (v3 : Int32) =>
  nm_ (v3 + ((Int32.toUInt32 v3 >>> (Int32.toUInt32 (nI 8) &&& Int32.toUInt32 31)).toInt32)) fun (v4 : Int32) =>
  nm_ (v4 + ((Int32.toUInt32 v4 >>> (Int32.toUInt32 (nI 16) &&& Int32.toUInt32 31)).toInt32)) fun (v5 : Int32) =>
  some (v5 &&& (nI 63))
def b_X1_mostAlike_5 (s : Sg) (x1 : Int32) (x2 : Int32) (self3 : Int32 → Int32 → Option Int32) (i1 : Int32) (i2 : Int32) : Option Int32 :=
  (f_X0_streets s).bind fun (v4 : Int32) =>
  if v4 ≤ i2 then
    some i1
  else
    (f_X7_holds x1 i2 s).bind fun (v5 : Int32) =>
    nm_ (fun (a6 : Int32) =>
      self3 a6 (i2 + (nI 1))) fun j7 =>
    if v5 = 0 then
      j7 i1
    else
      (f_X1_at i2 x2 s).bind fun (v8 : Int32) =>
      (f_X1_having v8 x2 s).bind fun (v9 : Int32) =>
      (f_J6_bitCount_0f7a4 (x1 &&& v9) s).bind fun (v10 : Int32) =>
      nm_ (if i1 < v10 then v10 else i1) fun (v11 : Int32) =>
      j7 v11
def f_X1_mostAlike (x1 : Int32) (x2 : Int32) (s : Sg) : Option Int32 :=
  lp2_ (b_X1_mostAlike_5 s x1 x2) fu (nI 0) (nI 0)
def f_X2_add (o : Nat) (c1 : Nat) (s : Sg) : Option Sg :=
  (f_X2_insert o (s o 2) c1 s).bind fun (s1 : Sg) =>
  some s1
def f_X2_copy (o : Nat) (o1 : Nat) (s : Sg) : Option Sg :=
  if (s o1 0) = (s o 0) then
    if (nI (alen (o1 + 1))) = (nI (alen (o + 1))) then
      (acpy s (o1 + 1) (nI 0) (o + 1) (nI 0) (nI (alen (o + 1)))).bind fun (s1 : Sg) =>
      nm_ (sts s1 o 2 (s1 o1 2)) fun (s2 : Sg) =>
      some s2
    else
      some s
  else
    some s
def b_X2_mixInto_5 (s : Sg) (o : Nat) (self3 : Int64 → Int32 → Option Int64) (i1 : Int64) (i2 : Int32) : Option Int64 :=
  if ((s o 2) * (s o 0)) ≤ i2 then
    some i1
  else
    (aget s (o + 1) i2).bind fun (v4 : Int32) =>
    nm_ (((31 : Int64) * i1) + (Int32.toInt64 v4)) fun (v5 : Int64) =>
    self3 v5 (i2 + (nI 1))
def f_X2_mixInto (o : Nat) (x1 : Int64) (s : Sg) : Option Int64 :=
  lp2_ (b_X2_mixInto_5 s o) fu x1 (nI 0)
def b_X3_hourOfOne_3 (x4 : Int32) (x1 : Int32) (x2 : Int32) (self3 : Int32 → Sg → Option (Int32 × Sg)) (i1 : Int32) (s2 : Sg) : Option (Int32 × Sg) :=
  if x4 < i1 then
    some ((-1 : Int32), s2)
  else
    ob2 (f_X0_addStaged x1 x2 i1 s2) fun (v4 : Int32) (s5 : Sg) =>
    ob2 (f_X0_wordIn x1 x4 (-1 : Int32) s5) fun (v6 : Int32) (s7 : Sg) =>
    nm_ (fun (a8 : Int32) =>
      (f_X0_dropStaged v4 s7).bind fun (s10 : Sg) =>
      if a8 = 0 then
        self3 (i1 + (nI 1)) s10
      else
        some (i1, s10)) fun j9 =>
    if v6 = x2 then
      j9 (nI 1)
    else
      j9 (nI 0)
def f_X3_hourOfOne (x1 : Int32) (x2 : Int32) (x3 : Int32) (x4 : Int32) (s : Sg) : Option (Int32 × Sg) :=
  lp2_ (b_X3_hourOfOne_3 x4 x1 x2) fu x3 s
def b_X3_fewestStaged_41 (x3 : Int32) (x1 : Int32) (x2 : Int32) (self8 : Int32 → Sg → Option (Int32 × Sg)) (i6 : Int32) (s7 : Sg) : Option (Int32 × Sg) :=
  if x3 ≤ i6 then
    some ((-1 : Int32), s7)
  else
    ob2 (f_X0_addStaged x1 x2 i6 s7) fun (v9 : Int32) (s10 : Sg) =>
    ob2 (f_X3_hourOfOne x1 x2 (i6 + (nI 1)) x3 s10) fun (v11 : Int32) (s12 : Sg) =>
    nm_ (sts s12 63 4 v11) fun (s13 : Sg) =>
    (f_X0_dropStaged v9 s13).bind fun (s14 : Sg) =>
    if (s14 63 4) = (-1 : Int32) then
      self8 (i6 + (nI 1)) s14
    else
      nm_ (sts s14 63 3 i6) fun (s15 : Sg) =>
      some ((nI 2), s15)
def f_X3_fewestStaged (x1 : Int32) (x2 : Int32) (x3 : Int32) (s : Sg) : Option (Int32 × Sg) :=
  ob2 (f_X0_wordIn x1 x3 (-1 : Int32) s) fun (v1 : Int32) (s2 : Sg) =>
  if v1 = x2 then
    some ((nI 0), s2)
  else
    ob2 (f_X3_hourOfOne x1 x2 (nI 0) x3 s2) fun (v3 : Int32) (s4 : Sg) =>
    nm_ (sts s4 63 3 v3) fun (s5 : Sg) =>
    if (s5 63 3) = (-1 : Int32) then
      lp2_ (b_X3_fewestStaged_41 x3 x1 x2) fu (nI 0) s5
    else
      some ((nI 1), s5)
def f_X3_hourStaged (x1 : Int32) (s : Sg) : Option Int32 :=
  if x1 = 0 then
    some (s 63 3)
  else
    some (s 63 4)
def b_X3_fewestForbidden_18 (v2 : Int32) (x1 : Int32) (self6 : Int32 → Int32 → Sg → Option (Int32 × Sg)) (i3 : Int32) (i4 : Int32) (s5 : Sg) : Option (Int32 × Sg) :=
  if v2 < i4 then
    some (i3, s5)
  else
    nm_ (fun (a7 : Int32) =>
      nm_ (fun (a9 : Int32) (s10 : Sg) =>
        self6 a9 (i4 + (nI 1)) s10) fun j11 =>
      if a7 = 0 then
        j11 i3 s5
      else
        ob2 (f_X0_wordIn x1 (nI 23) (i4 ^^^ (-1 : Int32)) s5) fun (v12 : Int32) (s13 : Sg) =>
        (f_X0_firstWordOf x1 s13).bind fun (v14 : Int32) =>
        if v12 = v14 then
          j11 i4 s13
        else
          j11 i3 s13) fun j8 =>
    nm_ (fun (_ : Unit) =>
      j8 (nI 1)) fun j15 =>
    if i3 = (-1 : Int32) then
      j15 ()
    else
      (f_J6_bitCount_0f7a4 i4 s5).bind fun (v16 : Int32) =>
      (f_J6_bitCount_0f7a4 i3 s5).bind fun (v17 : Int32) =>
      if v17 ≤ v16 then
        j8 (nI 0)
      else
        j15 ()
def f_X3_fewestForbidden (x1 : Int32) (t2 : Nat) (s : Sg) : Option (Int32 × Sg) :=
  (f_X2_size (t2 + 3) s).bind fun (v1 : Int32) =>
  nm_ (((nI 1) <<< (v1 &&& 31)) - (nI 1)) fun (v2 : Int32) =>
  lp3_ (b_X3_fewestForbidden_18 v2 x1) fu (-1 : Int32) (nI 0) s
def b_X3_agrees_2 (o2 : Nat) (x1 : Int32) (self3 : Int32 → Sg → Option (Int32 × Sg)) (i1 : Int32) (s2 : Sg) : Option (Int32 × Sg) :=
  (f_X2_size o2 s2).bind fun (v4 : Int32) =>
  if v4 ≤ i1 then
    some ((nI 1), s2)
  else
    (f_X2_cell o2 i1 (nI 0) s2).bind fun (v5 : Int32) =>
    (f_X2_cell o2 i1 (nI 1) s2).bind fun (v6 : Int32) =>
    ob2 (f_X0_wordIn v5 v6 x1 s2) fun (v7 : Int32) (s8 : Sg) =>
    (f_X2_cell o2 i1 (nI 2) s8).bind fun (v9 : Int32) =>
    if v7 = v9 then
      self3 (i1 + (nI 1)) s8
    else
      some ((nI 0), s8)
def f_X3_agrees (x1 : Int32) (o2 : Nat) (s : Sg) : Option (Int32 × Sg) :=
  lp2_ (b_X3_agrees_2 o2 x1) fu (nI 0) s
def b_X3_trueSets_22 (v2 : Int32) (t1 : Nat) (self7 : Int32 → Int32 → Sg → Option (Int32 × Sg)) (i4 : Int32) (i5 : Int32) (s6 : Sg) : Option (Int32 × Sg) :=
  if v2 < i5 then
    some (i4, s6)
  else
    ob2 (f_X3_agrees i5 (t1 + 5) s6) fun (v8 : Int32) (s9 : Sg) =>
    nm_ (fun (a10 : Int32) (s11 : Sg) =>
      self7 a10 (i5 + (nI 1)) s11) fun j12 =>
    if v8 = 0 then
      j12 i4 s9
    else
      nm_ (sts s9 63 5 ((s9 63 5) &&& i5)) fun (s13 : Sg) =>
      j12 (i4 + (nI 1)) s13
def f_X3_trueSets (t1 : Nat) (s : Sg) : Option (Int32 × Sg) :=
  (f_X2_size (t1 + 3) s).bind fun (v1 : Int32) =>
  nm_ (((nI 1) <<< (v1 &&& 31)) - (nI 1)) fun (v2 : Int32) =>
  nm_ (sts s 63 5 v2) fun (s3 : Sg) =>
  lp3_ (b_X3_trueSets_22 v2 t1) fu (nI 0) (nI 0) s3
def f_X3_inAllTrueSets (s : Sg) : Option Int32 :=
  some (s 63 5)
def b_X5_dearestWord_4 (s : Sg) (t : Nat) (self3 : Int32 → Int32 → Option Int32) (i1 : Int32) (i2 : Int32) : Option Int32 :=
  if (nI 16) ≤ i2 then
    some i1
  else
    (aget s (t + 9) i2).bind fun (v4 : Int32) =>
    (aget s (t + 9) i1).bind fun (v5 : Int32) =>
    nm_ (fun (a6 : Int32) =>
      self3 a6 (i2 + (nI 1))) fun j7 =>
    if v4 ≤ v5 then
      j7 i1
    else
      j7 i2
def f_X5_dearestWord (t : Nat) (s : Sg) : Option Int32 :=
  lp2_ (b_X5_dearestWord_4 s t) fu (nI 0) (nI 1)
def b_X3_weighPairs_10 (t5 : Nat) (x1 : Int32) (x2 : Int32) (x4 : Int32) (v1 : Int32) (x3 : Int32) (self4 : Int32 → Sg → Option Sg) (i2 : Int32) (s3 : Sg) : Option Sg :=
  if (nI 4) ≤ i2 then
    some s3
  else
    (f_X0_plan t5 s3).bind fun (s5 : Sg) =>
    nm_ (fun (s6 : Sg) =>
      nm_ (fun (s8 : Sg) =>
        ob2 (f_X0_rentOf x1 t5 s8) fun (v10 : Int32) (s11 : Sg) =>
        nm_ (fun (a12 : Int32) =>
          (aset s11 64 i2 (v10 - a12)).bind fun (s14 : Sg) =>
          ob2 (f_X0_rentOf x2 t5 s14) fun (v15 : Int32) (s16 : Sg) =>
          nm_ (fun (a17 : Int32) =>
            (aset s16 65 i2 (v15 - a17)).bind fun (s19 : Sg) =>
            self4 (i2 + (nI 1)) s19) fun j18 =>
          if (i2 &&& (nI 2)) = 0 then
            j18 (nI 0)
          else
            j18 x4) fun j13 =>
        if (i2 &&& (nI 1)) = 0 then
          j13 (nI 0)
        else
          j13 x4) fun j9 =>
      if (i2 &&& (nI 2)) = 0 then
        j9 s6
      else
        ob2 (f_X0_addStaged x2 v1 x3 s6) fun (v20 : Int32) (s21 : Sg) =>
        j9 s21) fun j7 =>
    if (i2 &&& (nI 1)) = 0 then
      j7 s5
    else
      ob2 (f_X0_addStaged x1 v1 x3 s5) fun (v22 : Int32) (s23 : Sg) =>
      j7 s23
def f_X3_weighPairs (x1 : Int32) (x2 : Int32) (x3 : Int32) (x4 : Int32) (t5 : Nat) (s : Sg) : Option Sg :=
  (f_X5_dearestWord t5 s).bind fun (v1 : Int32) =>
  lp2_ (b_X3_weighPairs_10 t5 x1 x2 x4 v1 x3) fu (nI 0) s
def b_X3_pairsThatRest_4 (s : Sg) (self3 : Int32 → Int32 → Option Int32) (i1 : Int32) (i2 : Int32) : Option Int32 :=
  if (nI 4) ≤ i2 then
    some i1
  else
    (aget s 64 i2).bind fun (v4 : Int32) =>
    (aget s 64 (i2 ^^^ (nI 1))).bind fun (v5 : Int32) =>
    nm_ (fun (a6 : Int32) =>
      self3 a6 (i2 + (nI 1))) fun j7 =>
    if v4 < v5 then
      j7 i1
    else
      (aget s 65 i2).bind fun (v8 : Int32) =>
      (aget s 65 (i2 ^^^ (nI 2))).bind fun (v9 : Int32) =>
      if v8 < v9 then
        j7 i1
      else
        nm_ (i1 ||| ((nI 1) <<< (i2 &&& 31))) fun (v10 : Int32) =>
        j7 v10
def f_X3_pairsThatRest (s : Sg) : Option Int32 :=
  lp2_ (b_X3_pairsThatRest_4 s) fu (nI 0) (nI 0)
def b_X3_renamingsOfDays_85 (j12 : Int32 → Sg → Option (Int32 × Sg)) (a8 : Int32) (self16 : Int32 → Int32 → Sg → Option (Int32 × Sg)) (i13 : Int32) (i14 : Int32) (s15 : Sg) : Option (Int32 × Sg) :=
  (f_X0_streets s15).bind fun (v17 : Int32) =>
  if v17 ≤ i14 then
    j12 i13 s15
  else
    ob2 (f_X0_renamings i14 a8 s15) fun (v18 : Int32) (s19 : Sg) =>
    nm_ (i13 + v18) fun (v20 : Int32) =>
    self16 v20 (i14 + (nI 1)) s19
def b_X3_renamingsOfDays_22 (t4 : Nat) (s5 : Sg) (j9 : Int64 → Int32 → Option (Int32 × Sg)) (x3 : Int32) (self24 : Int64 → Int32 → Int32 → Option (Int32 × Sg)) (i21 : Int64) (i22 : Int32) (i23 : Int32) : Option (Int32 × Sg) :=
  (f_X2_size (t4 + 3) s5).bind fun (v25 : Int32) =>
  if v25 ≤ i23 then
    j9 i21 i22
  else
    nm_ (((i21 * (1103515245 : Int64)) + (12345 : Int64)) - ((i21 * (1103515245 : Int64)) + (12345 : Int64)) / (2147483648 : Int64) * (2147483648 : Int64)) fun (v26 : Int64) =>
    nm_ (fun (a27 : Int32) =>
      self24 v26 a27 (i23 + (nI 1))) fun j28 =>
    if 0 ≤ (lg_cmp ((v26 / (65536 : Int64)) - (v26 / (65536 : Int64)) / (100 : Int64) * (100 : Int64)) (Int32.toInt64 x3)) then
      j28 i22
    else
      nm_ (i22 ||| ((nI 1) <<< (i23 &&& 31))) fun (v29 : Int32) =>
      j28 v29
def b_X3_renamingsOfDays_10 (x2 : Int32) (t4 : Nat) (x3 : Int32) (self6 : Int64 → Int32 → Int32 → Sg → Option (Int32 × Sg)) (i2 : Int64) (i3 : Int32) (i4 : Int32) (s5 : Sg) : Option (Int32 × Sg) :=
  if x2 ≤ i4 then
    some (i3, s5)
  else
    nm_ (fun (a7 : Int64) (a8 : Int32) =>
      nm_ (fun (a10 : Int32) (s11 : Sg) =>
        self6 a7 a10 (i4 + (nI 1)) s11) fun j12 =>
      lp3_ (b_X3_renamingsOfDays_85 j12 a8) fu i3 (nI 0) s5) fun j9 =>
    lp3_ (b_X3_renamingsOfDays_22 t4 s5 j9 x3) fu i2 (nI 0) (nI 0)
def f_X3_renamingsOfDays (x1 : Int32) (x2 : Int32) (x3 : Int32) (t4 : Nat) (s : Sg) : Option (Int32 × Sg) :=
  nm_ (Int32.toInt64 x1) fun (v1 : Int64) =>
  lp4_ (b_X3_renamingsOfDays_10 x2 t4 x3) fu v1 (nI 0) (nI 0) s
def f_X4_size (s : Sg) : Option Int32 :=
  some (s 49 2)
def f_X4_isFull (s : Sg) : Option Int32 :=
  if (s 49 2) < (nI 150) then
    some (nI 0)
  else
    some (nI 1)
def f_X4_add (x1 : Int32) (s : Sg) : Option Sg :=
  (f_X4_isFull s).bind fun (v1 : Int32) =>
  if v1 = 0 then
    (aset s 50 (s 49 2) x1).bind fun (s2 : Sg) =>
    nm_ (sts s2 49 2 ((s2 49 2) + (nI 1))) fun (s3 : Sg) =>
    some s3
  else
    some s
def f_X4_empty (s : Sg) : Option Sg :=
  nm_ (sts s 49 2 (nI 0)) fun (s1 : Sg) =>
  some s1
def f_X4_byteAt (x1 : Int32) (s : Sg) : Option Int32 :=
  (f_X7_isBelow x1 (s 49 2) s).bind fun (v1 : Int32) =>
  if v1 = 0 then
    some (-1 : Int32)
  else
    (aget s 50 x1).bind fun (v2 : Int32) =>
    some v2
def f_X4_isLetter (x1 : Int32) (s : Sg) : Option Int32 :=
  (f_X4_byteAt x1 s).bind fun (v1 : Int32) =>
  if v1 < (nI 97) then
    some (nI 0)
  else
    (f_X4_byteAt x1 s).bind fun (v2 : Int32) =>
    if (nI 122) < v2 then
      some (nI 0)
    else
      some (nI 1)
def f_X4_isFigure (x1 : Int32) (s : Sg) : Option Int32 :=
  (f_X4_byteAt x1 s).bind fun (v1 : Int32) =>
  if v1 < (nI 48) then
    some (nI 0)
  else
    (f_X4_byteAt x1 s).bind fun (v2 : Int32) =>
    if (nI 57) < v2 then
      some (nI 0)
    else
      some (nI 1)
def b_X4_findToken_110 (j13 : Sg → Option Sg) (self17 : Sg → Option Sg) (s16 : Sg) : Option Sg :=
  if (s16 49 2) ≤ (s16 49 3) then
    j13 s16
  else
    (f_X4_isFigure (s16 49 3) s16).bind fun (v18 : Int32) =>
    if v18 = 0 then
      j13 s16
    else
      nm_ (sts s16 49 3 ((s16 49 3) + (nI 1))) fun (s19 : Sg) =>
      self17 s19
def b_X4_findToken_56 (self21 : Sg → Option Sg) (s20 : Sg) : Option Sg :=
  if (s20 49 2) ≤ (s20 49 3) then
    nm_ (sts s20 49 4 (nI 1)) fun (s22 : Sg) =>
    some s22
  else
    (f_X4_isLetter (s20 49 3) s20).bind fun (v23 : Int32) =>
    if v23 = 0 then
      nm_ (sts s20 49 4 (nI 1)) fun (s24 : Sg) =>
      some s24
    else
      nm_ (sts s20 49 3 ((s20 49 3) + (nI 1))) fun (s25 : Sg) =>
      self21 s25
def b_X4_findToken_0 (j2 : Sg → Option Sg) (self27 : Sg → Option Sg) (s26 : Sg) : Option Sg :=
  if (s26 49 2) ≤ (s26 49 3) then
    j2 s26
  else
    (f_X4_byteAt (s26 49 3) s26).bind fun (v28 : Int32) =>
    if v28 = (nI 32) then
      nm_ (sts s26 49 3 ((s26 49 3) + (nI 1))) fun (s29 : Sg) =>
      self27 s29
    else
      j2 s26
def f_X4_findToken (s : Sg) : Option Sg :=
  nm_ (fun (s1 : Sg) =>
    nm_ (sts s1 49 5 (s1 49 3)) fun (s3 : Sg) =>
    (f_X4_isLetter (s3 49 3) s3).bind fun (v4 : Int32) =>
    if v4 = 0 then
      (f_X4_isFigure (s3 49 3) s3).bind fun (v5 : Int32) =>
      if v5 = 0 then
        if (s3 49 3) < (s3 49 2) then
          (f_X4_byteAt (s3 49 3) s3).bind fun (v6 : Int32) =>
          nm_ (fun (a7 : Int32) =>
            nm_ (sts s3 49 4 a7) fun (s9 : Sg) =>
            nm_ (sts s9 49 3 ((s9 49 3) + (nI 1))) fun (s10 : Sg) =>
            some s10) fun j8 =>
          if v6 = (nI 59) then
            j8 (nI 3)
          else
            j8 (nI 4)
        else
          nm_ (sts s3 49 4 (nI 0)) fun (s11 : Sg) =>
          some s11
      else
        nm_ (fun (s12 : Sg) =>
          if (nI 2) < ((s12 49 3) - (s12 49 5)) then
            nm_ (sts s12 49 4 (nI 4)) fun (s14 : Sg) =>
            some s14
          else
            nm_ (sts s12 49 4 (nI 2)) fun (s15 : Sg) =>
            some s15) fun j13 =>
        lp1_ (b_X4_findToken_110 j13) fu s3
    else
      lp1_ (b_X4_findToken_56) fu s3) fun j2 =>
  lp1_ (b_X4_findToken_0 j2) fu s
def f_X5_forgetPast (t : Nat) (s : Sg) : Option Sg :=
  (f_X2_empty (t + 7) s).bind fun (s1 : Sg) =>
  some s1
def f_J0_coder_7d493 (q : Nat) (s : Sg) : Option Int32 :=
  if (nI 1) = 0 then
    some (vp_nar .byte (nI 1))
  else
    some (vp_nar .byte (nI 0))
def f_J0_length_8abf5 (q : Nat) (s : Sg) : Option Int32 :=
  (f_J0_coder_7d493 q s).bind fun (v1 : Int32) =>
  some ((nI (strLen.getD q 0)) >>> (v1 &&& 31))
def f_J0_isLatin1_aae02 (q : Nat) (s : Sg) : Option Int32 :=
  if (nI 1) = 0 then
    some (nI 0)
  else
    if (nI 0) = 0 then
      some (nI 1)
    else
      some (nI 0)
def f_J3_checkIndex_8e157 (x0 : Int32) (x1 : Int32) (s : Sg) : Option Int32 :=
  if x0 < 0 then
    none
  else
    if x0 < x1 then
      some x0
    else
      none
def f_J0_checkIndex_df160 (x0 : Int32) (x1 : Int32) (s : Sg) : Option Sg :=
  (f_J3_checkIndex_8e157 x0 x1 s).bind fun (v2 : Int32) =>
  some s
def f_J1_charAt_3b067 (q : Nat) (x1 : Int32) (s : Sg) : Option (Int32 × Sg) :=
  (f_J0_checkIndex_df160 x1 (nI (strLen.getD q 0)) s).bind fun (s1 : Sg) =>
  (sget q x1).bind fun (v2 : Int32) =>
  some (vp_nar .char ((Int32.toUInt32 (v2 &&& (nI 255)) % 65536).toInt32), s1)
def f_J0_charAt_5068e (q : Nat) (x1 : Int32) (s : Sg) : Option (Int32 × Sg) :=
  (f_J0_isLatin1_aae02 q s).bind fun (v1 : Int32) =>
  if v1 = 0 then
    none
  else
    ob2 (f_J1_charAt_3b067 q x1 s) fun (v2 : Int32) (s3 : Sg) =>
    some (vp_nar .char v2, s3)
def b_X4_isWord_28 (q : Nat) (self4 : Int32 → Sg → Option (Int32 × Sg)) (i2 : Int32) (s3 : Sg) : Option (Int32 × Sg) :=
  (f_J0_length_8abf5 q s3).bind fun (v5 : Int32) =>
  if v5 ≤ i2 then
    some ((nI 1), s3)
  else
    (f_X4_byteAt ((s3 49 5) + i2) s3).bind fun (v6 : Int32) =>
    ob2 (f_J0_charAt_5068e q i2 s3) fun (v7 : Int32) (s8 : Sg) =>
    if v6 = v7 then
      self4 (i2 + (nI 1)) s8
    else
      some ((nI 0), s8)
def f_X4_isWord (q : Nat) (s : Sg) : Option (Int32 × Sg) :=
  if (s 49 4) = (nI 1) then
    (f_J0_length_8abf5 q s).bind fun (v1 : Int32) =>
    if ((s 49 3) - (s 49 5)) = v1 then
      lp2_ (b_X4_isWord_28 q) fu (nI 0) s
    else
      some ((nI 0), s)
  else
    some ((nI 0), s)
def f_X4_itemCalled (s : Sg) : Option (Int32 × Sg) :=
  ob2 (f_X4_isWord 0 s) fun (v1 : Int32) (s2 : Sg) =>
  if v1 = 0 then
    ob2 (f_X4_isWord 1 s2) fun (v3 : Int32) (s4 : Sg) =>
    if v3 = 0 then
      ob2 (f_X4_isWord 2 s4) fun (v5 : Int32) (s6 : Sg) =>
      if v5 = 0 then
        ob2 (f_X4_isWord 3 s6) fun (v7 : Int32) (s8 : Sg) =>
        if v7 = 0 then
          some ((-1 : Int32), s8)
        else
          some ((nI 3), s8)
      else
        some ((nI 2), s6)
    else
      some ((nI 1), s4)
  else
    some ((nI 0), s2)
def f_X5_hasNoRoomFor (t : Nat) (x1 : Int32) (s : Sg) : Option Int32 :=
  nm_ (fun (_ : Unit) =>
    if x1 = (nI 2) then
      (f_X2_isFull (t + 3) s).bind fun (v2 : Int32) =>
      if v2 = 0 then
        some (nI 0)
      else
        some (nI 1)
    else
      some (nI 0)) fun j1 =>
  if x1 = (nI 1) then
    (f_X2_isFull (t + 1) s).bind fun (v3 : Int32) =>
    if v3 = 0 then
      j1 ()
    else
      some (nI 1)
  else
    j1 ()
def b_X4_value_7 (s : Sg) (self4 : Int32 → Int32 → Option Int32) (i2 : Int32) (i3 : Int32) : Option Int32 :=
  if (s 49 3) ≤ i3 then
    some i2
  else
    (f_X4_byteAt i3 s).bind fun (v5 : Int32) =>
    nm_ ((((nI 10) * i2) + v5) - (nI 48)) fun (v6 : Int32) =>
    self4 v6 (i3 + (nI 1))
def f_X4_value (s : Sg) : Option Int32 :=
  nm_ (s 49 5) fun (v1 : Int32) =>
  lp2_ (b_X4_value_7 s) fu (nI 0) v1
def f_X5_fits (t : Nat) (x1 : Int32) (x2 : Int32) (c3 : Nat) (s : Sg) : Option Int32 :=
  (f_X7_isBelow x1 (nI 4) s).bind fun (v1 : Int32) =>
  if v1 = 0 then
    some (nI 0)
  else
    (tget 0 x1).bind fun (v2 : Int32) =>
    (f_X7_isBelow x2 v2 s).bind fun (v3 : Int32) =>
    if v3 = 0 then
      some (nI 0)
    else
      (aget s c3 x2).bind fun (v4 : Int32) =>
      nm_ (fun (_ : Unit) =>
        nm_ (fun (_ : Unit) =>
          nm_ (fun (_ : Unit) =>
            (tget 1 ((x1 * (nI 6)) + x2)).bind fun (v8 : Int32) =>
            (f_X7_isBelow v4 v8 s).bind fun (v9 : Int32) =>
            some (v9 &&& 1)) fun j7 =>
          if x1 = (nI 2) then
            if x2 = (nI 1) then
              (f_X2_size (t + 1) s).bind fun (v10 : Int32) =>
              (f_X7_isBelow v4 v10 s).bind fun (v11 : Int32) =>
              some (v11 &&& 1)
            else
              j7 ()
          else
            j7 ()) fun j6 =>
        if x1 = (nI 1) then
          if x2 = (nI 2) then
            if (nI 1) ≤ v4 then
              j6 ()
            else
              some (nI 0)
          else
            j6 ()
        else
          j6 ()) fun j5 =>
      if x1 = (nI 1) then
        if x2 = (nI 1) then
          (aget s c3 (nI 0)).bind fun (v12 : Int32) =>
          if v4 = v12 then
            some (nI 0)
          else
            j5 ()
        else
          j5 ()
      else
        j5 ()
def b_X5_begin_38 (t : Nat) (x1 : Int32) (v1 : Int32) (self8 : Int32 → Sg → Option (Int32 × Sg)) (i6 : Int32) (s7 : Sg) : Option (Int32 × Sg) :=
  if (nI 16) ≤ i6 then
    nm_ (sts s7 t 7 x1) fun (s9 : Sg) =>
    some (v1, s9)
  else
    (aset s7 (t + 9) i6 (nI 0)).bind fun (s10 : Sg) =>
    self8 (i6 + (nI 1)) s10
def f_X5_begin (t : Nat) (x1 : Int32) (s : Sg) : Option (Int32 × Sg) :=
  (f_X2_size (t + 1) s).bind fun (v1 : Int32) =>
  (f_X2_empty (t + 1) s).bind fun (s2 : Sg) =>
  (f_X2_empty (t + 3) s2).bind fun (s3 : Sg) =>
  (f_X2_empty (t + 5) s3).bind fun (s4 : Sg) =>
  (f_X2_empty (t + 7) s4).bind fun (s5 : Sg) =>
  lp2_ (b_X5_begin_38 t x1 v1) fu (nI 0) s5
def b_X5_remember_25 (j5 : Sg → Option Sg) (t : Nat) (self12 : Int32 → Sg → Option Sg) (i10 : Int32) (s11 : Sg) : Option Sg :=
  if (nI 48) ≤ i10 then
    j5 s11
  else
    (f_X2_cell (t + 3) (i10 / (nI 6)) (i10 - i10 / (nI 6) * (nI 6)) s11).bind fun (v13 : Int32) =>
    (aset s11 (t + 10) ((nI 2) + i10) v13).bind fun (s14 : Sg) =>
    self12 (i10 + (nI 1)) s14
def f_X5_remember (t : Nat) (s : Sg) : Option Sg :=
  (aset s (t + 10) (nI 0) (s t 7)).bind fun (s1 : Sg) =>
  (f_X2_size (t + 3) s1).bind fun (v2 : Int32) =>
  (aset s1 (t + 10) (nI 1) v2).bind fun (s3 : Sg) =>
  nm_ (fun (s4 : Sg) =>
    (f_X2_isFull (t + 7) s4).bind fun (v6 : Int32) =>
    if v6 = 0 then
      (f_X2_add (t + 7) (t + 10) s4).bind fun (s7 : Sg) =>
      some s7
    else
      (f_X2_drop (t + 7) (nI 0) s4).bind fun (s8 : Sg) =>
      (f_X2_add (t + 7) (t + 10) s8).bind fun (s9 : Sg) =>
      some s9) fun j5 =>
  lp2_ (b_X5_remember_25 j5 t) fu (nI 0) s3
def f_X5_changeRent (t : Nat) (x1 : Int32) (x2 : Int32) (s : Sg) : Option (Int32 × Sg) :=
  (f_X7_isBelow x1 (nI 16) s).bind fun (v1 : Int32) =>
  if v1 = 0 then
    some ((nI 0), s)
  else
    (aget s (t + 9) x1).bind fun (v2 : Int32) =>
    (aset s (t + 9) x1 x2).bind fun (s3 : Sg) =>
    some (v2, s3)
def f_X5_take (t : Nat) (x1 : Int32) (c2 : Nat) (s : Sg) : Option (Int32 × Sg) :=
  if x1 = (nI 0) then
    (aget s c2 (nI 0)).bind fun (v1 : Int32) =>
    ob2 (f_X5_begin t v1 s) fun (v2 : Int32) (s3 : Sg) =>
    some (v2, s3)
  else
    if x1 = (nI 1) then
      (f_X2_empty (t + 7) s).bind fun (s4 : Sg) =>
      (f_X2_add (t + 1) c2 s4).bind fun (s5 : Sg) =>
      (f_X2_size (t + 1) s5).bind fun (v6 : Int32) =>
      some (v6 - (nI 1), s5)
    else
      if x1 = (nI 2) then
        (f_X5_remember t s).bind fun (s7 : Sg) =>
        (f_X2_add (t + 3) c2 s7).bind fun (s8 : Sg) =>
        (f_X2_size (t + 3) s8).bind fun (v9 : Int32) =>
        some (v9 - (nI 1), s8)
      else
        (aget s c2 (nI 0)).bind fun (v10 : Int32) =>
        (aget s c2 (nI 1)).bind fun (v11 : Int32) =>
        ob2 (f_X5_changeRent t v10 v11 s) fun (v12 : Int32) (s13 : Sg) =>
        some (v12, s13)
def b_X4_takeItem_36 (v1 : Int32) (j7 : Sg → Option (Int32 × Sg)) (t1 : Nat) (self13 : Int32 → Sg → Option (Int32 × Sg)) (i11 : Int32) (s12 : Sg) : Option (Int32 × Sg) :=
  (tget 0 v1).bind fun (v14 : Int32) =>
  if v14 ≤ i11 then
    j7 s12
  else
    (f_X4_findToken s12).bind fun (s15 : Sg) =>
    if (s15 49 4) = (nI 2) then
      (f_X4_value s15).bind fun (v16 : Int32) =>
      (aset s15 51 i11 v16).bind fun (s17 : Sg) =>
      (f_X5_fits t1 v1 i11 51 s17).bind fun (v18 : Int32) =>
      if v18 = 0 then
        some ((nI 0), s17)
      else
        self13 (i11 + (nI 1)) s17
    else
      some ((nI 0), s15)
def f_X4_takeItem (t1 : Nat) (x2 : Int32) (s : Sg) : Option (Int32 × Sg) :=
  ob2 (f_X4_itemCalled s) fun (v1 : Int32) (s2 : Sg) =>
  if v1 = (-1 : Int32) then
    some ((nI 0), s2)
  else
    nm_ (fun (a3 : Int32) =>
      if x2 = a3 then
        (f_X5_hasNoRoomFor t1 v1 s2).bind fun (v5 : Int32) =>
        if v5 = 0 then
          nm_ (fun (s6 : Sg) =>
            (f_X4_findToken s6).bind fun (s8 : Sg) =>
            if (s8 49 4) = (nI 3) then
              ob2 (f_X5_take t1 v1 51 s8) fun (v9 : Int32) (s10 : Sg) =>
              some ((nI 1), s10)
            else
              some ((nI 0), s8)) fun j7 =>
          lp2_ (b_X4_takeItem_36 v1 j7 t1) fu (nI 0) s2
        else
          some ((nI 0), s2)
      else
        some ((nI 0), s2)) fun j4 =>
    if v1 = 0 then
      j4 (nI 1)
    else
      j4 (nI 0)
def b_X4_readInto_7 (t1 : Nat) (self4 : Int32 → Sg → Option (Int32 × Sg)) (i2 : Int32) (s3 : Sg) : Option (Int32 × Sg) :=
  if (nI 150) < i2 then
    some ((-10 : Int32) - (s3 49 5), s3)
  else
    (f_X4_findToken s3).bind fun (s5 : Sg) =>
    nm_ (fun (_ : Unit) =>
      nm_ (fun (a7 : Int32) =>
        ob2 (f_X4_takeItem t1 a7 s5) fun (v9 : Int32) (s10 : Sg) =>
        if v9 = 0 then
          some ((-10 : Int32) - (s10 49 5), s10)
        else
          self4 (i2 + (nI 1)) s10) fun j8 =>
      if i2 = 0 then
        j8 (nI 1)
      else
        j8 (nI 0)) fun j6 =>
    if (s5 49 4) = 0 then
      if i2 ≤ 0 then
        j6 ()
      else
        (f_X5_forgetPast t1 s5).bind fun (s11 : Sg) =>
        some (i2, s11)
    else
      j6 ()
def f_X4_readInto (t1 : Nat) (s : Sg) : Option (Int32 × Sg) :=
  nm_ (sts s 49 3 (nI 0)) fun (s1 : Sg) =>
  lp2_ (b_X4_readInto_7 t1) fu (nI 0) s1
def f_X5_dropEvent (t : Nat) (x1 : Int32) (s : Sg) : Option Sg :=
  (f_X5_remember t s).bind fun (s1 : Sg) =>
  (f_X2_drop (t + 3) x1 s1).bind fun (s2 : Sg) =>
  some s2
def f_X5_changeLaw (t : Nat) (x1 : Int32) (s : Sg) : Option (Int32 × Sg) :=
  nm_ (s t 7) fun (v1 : Int32) =>
  (f_X5_remember t s).bind fun (s2 : Sg) =>
  nm_ (sts s2 t 7 x1) fun (s3 : Sg) =>
  some (v1, s3)
def b_X5_goBack_47 (j12 : Sg → Option Sg) (t : Nat) (v2 : Int32) (i6 : Int32) (self16 : Int32 → Sg → Option Sg) (i14 : Int32) (s15 : Sg) : Option Sg :=
  if (nI 6) ≤ i14 then
    j12 s15
  else
    (f_X2_cell (t + 7) v2 (((nI 2) + (i6 * (nI 6))) + i14) s15).bind fun (v17 : Int32) =>
    (aset s15 (t + 11) i14 v17).bind fun (s18 : Sg) =>
    self16 (i14 + (nI 1)) s18
def b_X5_goBack_32 (t : Nat) (v2 : Int32) (self8 : Int32 → Sg → Option Sg) (i6 : Int32) (s7 : Sg) : Option Sg :=
  (f_X2_cell (t + 7) v2 (nI 1) s7).bind fun (v9 : Int32) =>
  if v9 ≤ i6 then
    (f_X2_drop (t + 7) v2 s7).bind fun (s10 : Sg) =>
    some s10
  else
    nm_ (fun (s11 : Sg) =>
      (f_X2_add (t + 3) (t + 11) s11).bind fun (s13 : Sg) =>
      self8 (i6 + (nI 1)) s13) fun j12 =>
    lp2_ (b_X5_goBack_47 j12 t v2 i6) fu (nI 0) s7
def f_X5_goBack (t : Nat) (s : Sg) : Option Sg :=
  (f_X2_size (t + 7) s).bind fun (v1 : Int32) =>
  nm_ (v1 - (nI 1)) fun (v2 : Int32) =>
  (f_X2_cell (t + 7) v2 (nI 0) s).bind fun (v3 : Int32) =>
  nm_ (sts s t 7 v3) fun (s4 : Sg) =>
  (f_X2_empty (t + 3) s4).bind fun (s5 : Sg) =>
  lp2_ (b_X5_goBack_32 t v2) fu (nI 0) s5
def f_X5_copy (t : Nat) (t1 : Nat) (s : Sg) : Option Sg :=
  (f_X2_copy (t + 1) (t1 + 1) s).bind fun (s1 : Sg) =>
  (f_X2_copy (t + 3) (t1 + 3) s1).bind fun (s2 : Sg) =>
  (f_X2_copy (t + 5) (t1 + 5) s2).bind fun (s3 : Sg) =>
  (f_X2_copy (t + 7) (t1 + 7) s3).bind fun (s4 : Sg) =>
  (acpy s4 (t1 + 9) (nI 0) (t + 9) (nI 0) (nI 16)).bind fun (s5 : Sg) =>
  nm_ (sts s5 t 7 (s5 t1 7)) fun (s6 : Sg) =>
  some s6
def b_X5_mixInto_19 (t : Nat) (s : Sg) (self5 : Int64 → Int32 → Option Int64) (i3 : Int64) (i4 : Int32) : Option Int64 :=
  if (nI 16) ≤ i4 then
    (f_X2_mixInto (t + 5) i3 s).bind fun (v6 : Int64) =>
    some v6
  else
    (aget s (t + 9) i4).bind fun (v7 : Int32) =>
    nm_ (((31 : Int64) * i3) + (Int32.toInt64 v7)) fun (v8 : Int64) =>
    self5 v8 (i4 + (nI 1))
def f_X5_mixInto (t : Nat) (x1 : Int64) (s : Sg) : Option Int64 :=
  (f_X2_mixInto (t + 1) x1 s).bind fun (v1 : Int64) =>
  (f_X2_mixInto (t + 3) v1 s).bind fun (v2 : Int64) =>
  lp2_ (b_X5_mixInto_19 t s) fu v2 (nI 0)
def f_X6_shorten (x1 : Int32) (x2 : Int32) (x3 : Int32) (s : Sg) : Option Sg :=
  (f_X7_isBelow x1 (nI 8) s).bind fun (v1 : Int32) =>
  if v1 = 0 then
    some s
  else
    (f_X7_isBelow x2 (nI 8) s).bind fun (v2 : Int32) =>
    if v2 = 0 then
      some s
    else
      (aget s 67 ((x1 * (nI 8)) + x2)).bind fun (v3 : Int32) =>
      nm_ (if x3 < v3 then x3 else v3) fun (v4 : Int32) =>
      (aset s 67 ((x1 * (nI 8)) + x2) v4).bind fun (s5 : Sg) =>
      some s5
def b_X6_measure_116 (j14 : Sg → Option Sg) (i10 : Int32) (i5 : Int32) (self17 : Int32 → Sg → Option Sg) (i15 : Int32) (s16 : Sg) : Option Sg :=
  if (nI 8) ≤ i15 then
    j14 s16
  else
    (aget s16 67 ((i10 * (nI 8)) + i5)).bind fun (v18 : Int32) =>
    (aget s16 67 ((i5 * (nI 8)) + i15)).bind fun (v19 : Int32) =>
    (f_X6_shorten i10 i15 (v18 + v19) s16).bind fun (s20 : Sg) =>
    self17 (i15 + (nI 1)) s20
def b_X6_measure_107 (j9 : Sg → Option Sg) (i5 : Int32) (self12 : Int32 → Sg → Option Sg) (i10 : Int32) (s11 : Sg) : Option Sg :=
  if (nI 8) ≤ i10 then
    j9 s11
  else
    nm_ (fun (s13 : Sg) =>
      self12 (i10 + (nI 1)) s13) fun j14 =>
    lp2_ (b_X6_measure_116 j14 i10 i5) fu (nI 0) s11
def b_X6_measure_99 (self7 : Int32 → Sg → Option Sg) (i5 : Int32) (s6 : Sg) : Option Sg :=
  if (nI 8) ≤ i5 then
    some s6
  else
    nm_ (fun (s8 : Sg) =>
      self7 (i5 + (nI 1)) s8) fun j9 =>
    lp2_ (b_X6_measure_107 j9 i5) fu (nI 0) s6
def b_X6_measure_42 (o1 : Nat) (j4 : Sg → Option Sg) (self23 : Int32 → Sg → Option Sg) (i21 : Int32) (s22 : Sg) : Option Sg :=
  (f_X2_size o1 s22).bind fun (v24 : Int32) =>
  if v24 ≤ i21 then
    j4 s22
  else
    (f_X2_cell o1 i21 (nI 0) s22).bind fun (v25 : Int32) =>
    (f_X2_cell o1 i21 (nI 1) s22).bind fun (v26 : Int32) =>
    (f_X2_cell o1 i21 (nI 2) s22).bind fun (v27 : Int32) =>
    (f_X6_shorten v25 v26 v27 s22).bind fun (s28 : Sg) =>
    (f_X2_cell o1 i21 (nI 2) s28).bind fun (v29 : Int32) =>
    (f_X6_shorten v26 v25 v29 s28).bind fun (s30 : Sg) =>
    self23 (i21 + (nI 1)) s30
def b_X6_measure_2 (j2 : Sg → Option Sg) (self33 : Int32 → Sg → Option Sg) (i31 : Int32) (s32 : Sg) : Option Sg :=
  if (nI (alen 67)) ≤ i31 then
    j2 s32
  else
    nm_ (fun (a34 : Int32) =>
      (aset s32 67 i31 a34).bind fun (s36 : Sg) =>
      self33 (i31 + (nI 1)) s36) fun j35 =>
    if (i31 / (nI 8)) = (i31 - i31 / (nI 8) * (nI 8)) then
      j35 (nI 0)
    else
      j35 (nI 1000000)
def f_X6_measure (o1 : Nat) (s : Sg) : Option Sg :=
  nm_ (fun (s1 : Sg) =>
    nm_ (fun (s3 : Sg) =>
      lp2_ (b_X6_measure_99) fu (nI 0) s3) fun j4 =>
    lp2_ (b_X6_measure_42 o1 j4) fu (nI 0) s1) fun j2 =>
  lp2_ (b_X6_measure_2 j2) fu (nI 0) s
def b_X6_soonest_17 (s : Sg) (x1 : Int32) (x2 : Int32) (self4 : Int32 → Int32 → Option Int32) (i2 : Int32) (i3 : Int32) : Option Int32 :=
  if (nI 8) ≤ i3 then
    some i2
  else
    (aget s 68 ((x1 * (nI 8)) + i3)).bind fun (v5 : Int32) =>
    (aget s 67 ((i3 * (nI 8)) + x2)).bind fun (v6 : Int32) =>
    nm_ (if (v5 + v6) < i2 then (v5 + v6) else i2) fun (v7 : Int32) =>
    self4 v7 (i3 + (nI 1))
def f_X6_soonest (x1 : Int32) (x2 : Int32) (s : Sg) : Option Int32 :=
  (f_X7_isBelow x2 (nI 8) s).bind fun (v1 : Int32) =>
  if v1 = 0 then
    some (nI 1000000)
  else
    lp2_ (b_X6_soonest_17 s x1 x2) fu (nI 1000000) (nI 0)
def f_X6_reach (x1 : Int32) (x2 : Int32) (x3 : Int32) (s : Sg) : Option Sg :=
  (f_X7_isBelow x2 (nI 8) s).bind fun (v1 : Int32) =>
  if v1 = 0 then
    some s
  else
    nm_ ((x1 * (nI 8)) + x2) fun (v2 : Int32) =>
    (aget s 68 v2).bind fun (v3 : Int32) =>
    nm_ (if x3 < v3 then x3 else v3) fun (v4 : Int32) =>
    (aset s 68 v2 v4).bind fun (s5 : Sg) =>
    some s5
def b_X6_goOn_3 (o1 : Nat) (x3 : Int32) (x2 : Int32) (self3 : Int32 → Sg → Option Sg) (i1 : Int32) (s2 : Sg) : Option Sg :=
  (f_X2_size o1 s2).bind fun (v4 : Int32) =>
  if v4 ≤ i1 then
    some s2
  else
    (f_X7_holds (x3 &&& (x2 ^^^ (-1 : Int32))) i1 s2).bind fun (v5 : Int32) =>
    nm_ (fun (s6 : Sg) =>
      self3 (i1 + (nI 1)) s6) fun j7 =>
    if v5 = 0 then
      j7 s2
    else
      (f_X2_cell o1 i1 (nI 0) s2).bind fun (v8 : Int32) =>
      (f_X2_cell o1 i1 (nI 1) s2).bind fun (v9 : Int32) =>
      nm_ (x2 ||| ((nI 1) <<< (i1 &&& 31))) fun (v10 : Int32) =>
      (f_X2_cell o1 i1 (nI 2) s2).bind fun (v11 : Int32) =>
      (f_X6_soonest x2 v8 s2).bind fun (v12 : Int32) =>
      (f_X6_reach v10 v9 (v12 + v11) s2).bind fun (s13 : Sg) =>
      (f_X6_soonest x2 v9 s13).bind fun (v14 : Int32) =>
      (f_X6_reach v10 v8 (v14 + v11) s13).bind fun (s15 : Sg) =>
      j7 s15
def f_X6_goOn (o1 : Nat) (x2 : Int32) (x3 : Int32) (s : Sg) : Option Sg :=
  lp2_ (b_X6_goOn_3 o1 x3 x2) fu (nI 0) s
def b_X6_shortest_100 (j10 : Int32 → Option (Int32 × Sg)) (s7 : Sg) (x3 : Int32) (self13 : Int32 → Int32 → Option (Int32 × Sg)) (i11 : Int32) (i12 : Int32) : Option (Int32 × Sg) :=
  if (nI 8) ≤ i12 then
    j10 i11
  else
    (aget s7 68 ((x3 * (nI 8)) + i12)).bind fun (v14 : Int32) =>
    nm_ (if v14 < i11 then v14 else i11) fun (v15 : Int32) =>
    self13 v15 (i12 + (nI 1))
def b_X6_shortest_64 (x3 : Int32) (j8 : Sg → Option (Int32 × Sg)) (o1 : Nat) (self18 : Int32 → Sg → Option (Int32 × Sg)) (i16 : Int32) (s17 : Sg) : Option (Int32 × Sg) :=
  if x3 ≤ i16 then
    j8 s17
  else
    nm_ (fun (s19 : Sg) =>
      self18 (i16 + (nI 1)) s19) fun j20 =>
    if (i16 &&& x3) = i16 then
      (f_X6_goOn o1 i16 x3 s17).bind fun (s21 : Sg) =>
      j20 s21
    else
      j20 s17
def b_X6_shortest_29 (j5 : Sg → Option (Int32 × Sg)) (self24 : Int32 → Sg → Option (Int32 × Sg)) (i22 : Int32) (s23 : Sg) : Option (Int32 × Sg) :=
  if (nI (alen 68)) ≤ i22 then
    j5 s23
  else
    (aset s23 68 i22 (nI 1000000)).bind fun (s25 : Sg) =>
    self24 (i22 + (nI 1)) s25
def f_X6_shortest (o1 : Nat) (x2 : Int32) (x3 : Int32) (s : Sg) : Option (Int32 × Sg) :=
  (f_X7_isBelow x2 (nI 8) s).bind fun (v1 : Int32) =>
  if v1 = 0 then
    some ((-1 : Int32), s)
  else
    (f_X7_isBelow x3 (nI 128) s).bind fun (v2 : Int32) =>
    if v2 = 0 then
      some ((-1 : Int32), s)
    else
      (f_X6_measure o1 s).bind fun (s3 : Sg) =>
      nm_ (fun (s4 : Sg) =>
        (aset s4 68 x2 (nI 0)).bind fun (s6 : Sg) =>
        nm_ (fun (s7 : Sg) =>
          nm_ (fun (a9 : Int32) =>
            if (nI 1000000) ≤ a9 then
              some ((-1 : Int32), s7)
            else
              some (a9, s7)) fun j10 =>
          lp2_ (b_X6_shortest_100 j10 s7 x3) fu (nI 1000000) (nI 0)) fun j8 =>
        lp2_ (b_X6_shortest_64 x3 j8 o1) fu (nI 0) s6) fun j5 =>
      lp2_ (b_X6_shortest_29 j5) fu (nI 0) s3
def f_X7_refuseBad (s : Sg) : Option (Int32 × Sg) :=
  nm_ (sts s 0 11 ((s 0 11) + (nI 1))) fun (s1 : Sg) =>
  some ((-2 : Int32), s1)
def f_X7_refuseFull (s : Sg) : Option (Int32 × Sg) :=
  nm_ (sts s 0 13 ((s 0 13) + (nI 1))) fun (s1 : Sg) =>
  some ((-4 : Int32), s1)
def b_X7_tell_2 (x1 : Int32) (j1 : Unit → Option (Int32 × Sg)) (s : Sg) (self8 : Int32 → Option (Int32 × Sg)) (i7 : Int32) : Option (Int32 × Sg) :=
  (tget 0 x1).bind fun (v9 : Int32) =>
  if v9 ≤ i7 then
    j1 ()
  else
    (f_X5_fits 1 x1 i7 69 s).bind fun (v10 : Int32) =>
    if v10 = 0 then
      ob2 (f_X7_refuseBad s) fun (v11 : Int32) (s12 : Sg) =>
      some (v11, s12)
    else
      self8 (i7 + (nI 1))
def f_X7_tell (x1 : Int32) (s : Sg) : Option (Int32 × Sg) :=
  nm_ (fun (_ : Unit) =>
    (f_X5_hasNoRoomFor 1 x1 s).bind fun (v2 : Int32) =>
    if v2 = 0 then
      ob2 (f_X5_take 1 x1 69 s) fun (v3 : Int32) (s4 : Sg) =>
      some (v3, s4)
    else
      ob2 (f_X7_refuseFull s) fun (v5 : Int32) (s6 : Sg) =>
      some (v5, s6)) fun j1 =>
  lp1_ (b_X7_tell_2 x1 j1 s) fu (nI 0)
def f_X7_town (x1 : Int32) (s : Sg) : Option (Int32 × Sg) :=
  (aset s 69 (nI 0) x1).bind fun (s1 : Sg) =>
  ob2 (f_X7_tell (nI 0) s1) fun (v2 : Int32) (s3 : Sg) =>
  some (v2, s3)
def f_X7_street (x1 : Int32) (x2 : Int32) (x3 : Int32) (x4 : Int32) (s : Sg) : Option (Int32 × Sg) :=
  (aset s 69 (nI 0) x1).bind fun (s1 : Sg) =>
  (aset s1 69 (nI 1) x2).bind fun (s2 : Sg) =>
  (aset s2 69 (nI 2) x3).bind fun (s3 : Sg) =>
  (aset s3 69 (nI 3) x4).bind fun (s4 : Sg) =>
  ob2 (f_X7_tell (nI 1) s4) fun (v5 : Int32) (s6 : Sg) =>
  some (v5, s6)
def f_X7_event (x1 : Int32) (x2 : Int32) (x3 : Int32) (x4 : Int32) (x5 : Int32) (x6 : Int32) (s : Sg) : Option (Int32 × Sg) :=
  (aset s 69 (nI 0) x1).bind fun (s1 : Sg) =>
  (aset s1 69 (nI 1) x2).bind fun (s2 : Sg) =>
  (aset s2 69 (nI 2) x3).bind fun (s3 : Sg) =>
  (aset s3 69 (nI 3) x4).bind fun (s4 : Sg) =>
  (aset s4 69 (nI 4) x5).bind fun (s5 : Sg) =>
  (aset s5 69 (nI 5) x6).bind fun (s6 : Sg) =>
  ob2 (f_X7_tell (nI 2) s6) fun (v7 : Int32) (s8 : Sg) =>
  some (v7, s8)
def f_X7_back (x1 : Int32) (s : Sg) : Option (Int32 × Sg) :=
  (f_X2_size 4 s).bind fun (v1 : Int32) =>
  (f_X7_isBelow x1 v1 s).bind fun (v2 : Int32) =>
  if v2 = 0 then
    ob2 (f_X7_refuseBad s) fun (v5 : Int32) (s6 : Sg) =>
    some (v5, s6)
  else
    (f_X5_dropEvent 1 x1 s).bind fun (s3 : Sg) =>
    (f_X2_size 4 s3).bind fun (v4 : Int32) =>
    some (v4, s3)
def f_X7_law (x1 : Int32) (s : Sg) : Option (Int32 × Sg) :=
  (tget 1 (nI 0)).bind fun (v1 : Int32) =>
  (f_X7_isBelow x1 v1 s).bind fun (v2 : Int32) =>
  if v2 = 0 then
    ob2 (f_X7_refuseBad s) fun (v5 : Int32) (s6 : Sg) =>
    some (v5, s6)
  else
    ob2 (f_X5_changeLaw 1 x1 s) fun (v3 : Int32) (s4 : Sg) =>
    some (v3, s4)
def f_X7_refuseNo (s : Sg) : Option (Int32 × Sg) :=
  nm_ (sts s 0 12 ((s 0 12) + (nI 1))) fun (s1 : Sg) =>
  some ((-3 : Int32), s1)
def f_X7_undo (s : Sg) : Option (Int32 × Sg) :=
  (f_X2_size 8 s).bind fun (v1 : Int32) =>
  if v1 = 0 then
    ob2 (f_X7_refuseNo s) fun (v4 : Int32) (s5 : Sg) =>
    some (v4, s5)
  else
    (f_X5_goBack 1 s).bind fun (s2 : Sg) =>
    (f_X2_size 4 s2).bind fun (v3 : Int32) =>
    some (v3, s2)
def f_X7_rent (x1 : Int32) (x2 : Int32) (s : Sg) : Option (Int32 × Sg) :=
  (aset s 69 (nI 0) x1).bind fun (s1 : Sg) =>
  (aset s1 69 (nI 1) x2).bind fun (s2 : Sg) =>
  ob2 (f_X7_tell (nI 3) s2) fun (v3 : Int32) (s4 : Sg) =>
  some (v3, s4)
def f_X7_type (x1 : Int32) (s : Sg) : Option (Int32 × Sg) :=
  (f_X7_isBelow x1 (nI 128) s).bind fun (v1 : Int32) =>
  if v1 = 0 then
    ob2 (f_X7_refuseBad s) fun (v7 : Int32) (s8 : Sg) =>
    some (v7, s8)
  else
    (f_X4_isFull s).bind fun (v2 : Int32) =>
    if v2 = 0 then
      (f_X4_add x1 s).bind fun (s3 : Sg) =>
      (f_X4_size s3).bind fun (v4 : Int32) =>
      some (v4, s3)
    else
      ob2 (f_X7_refuseFull s) fun (v5 : Int32) (s6 : Sg) =>
      some (v5, s6)
def f_X7_clear (s : Sg) : Option (Int32 × Sg) :=
  (f_X4_size s).bind fun (v1 : Int32) =>
  (f_X4_empty s).bind fun (s2 : Sg) =>
  some (v1, s2)
def f_X7_read (s : Sg) : Option (Int32 × Sg) :=
  ob2 (f_X4_readInto 13 s) fun (v1 : Int32) (s2 : Sg) =>
  if v1 < 0 then
    some (v1, s2)
  else
    (f_X5_copy 1 13 s2).bind fun (s3 : Sg) =>
    some (v1, s3)
def f_X7_of (x1 : Int32) (x2 : Int32) (s : Sg) : Option (Int32 × Sg) :=
  (f_X2_size 4 s).bind fun (v1 : Int32) =>
  (f_X7_isBelow x1 v1 s).bind fun (v2 : Int32) =>
  if v2 = 0 then
    ob2 (f_X7_refuseBad s) fun (v3 : Int32) (s4 : Sg) =>
    some (v3, s4)
  else
    (f_X7_isBelow x2 (nI 10) s).bind fun (v5 : Int32) =>
    if v5 = 0 then
      ob2 (f_X7_refuseBad s) fun (v11 : Int32) (s12 : Sg) =>
      some (v11, s12)
    else
      if x2 = (nI 6) then
        (f_X5_needed 1 x1 s).bind fun (v6 : Int32) =>
        some (v6, s)
      else
        if x2 = (nI 7) then
          (f_X5_rankGiven 1 x1 s).bind fun (v7 : Int32) =>
          some (v7, s)
        else
          if x2 = (nI 8) then
            (f_X5_hoursGiven 1 x1 s).bind fun (v8 : Int32) =>
            some (v8, s)
          else
            if x2 = (nI 9) then
              (f_X5_streetsOf 1 x1 s).bind fun (v9 : Int32) =>
              some (v9, s)
            else
              (f_X2_cell 4 x1 x2 s).bind fun (v10 : Int32) =>
              some (v10, s)
def f_X7_isStreet (x1 : Int32) (s : Sg) : Option Int32 :=
  (f_X2_size 2 s).bind fun (v1 : Int32) =>
  (f_X7_isBelow x1 v1 s).bind fun (v2 : Int32) =>
  some (v2 &&& 1)
def f_X7_name (x1 : Int32) (x2 : Int32) (s : Sg) : Option (Int32 × Sg) :=
  (f_X7_isStreet x1 s).bind fun (v1 : Int32) =>
  if v1 = 0 then
    ob2 (f_X7_refuseBad s) fun (v2 : Int32) (s3 : Sg) =>
    some (v2, s3)
  else
    (f_X7_isHour x2 s).bind fun (v4 : Int32) =>
    if v4 = 0 then
      ob2 (f_X7_refuseBad s) fun (v7 : Int32) (s8 : Sg) =>
      some (v7, s8)
    else
      (f_X1_write 1 s).bind fun (s5 : Sg) =>
      (f_X1_at x1 x2 s5).bind fun (v6 : Int32) =>
      some (v6, s5)
def f_X7_changes (x1 : Int32) (s : Sg) : Option (Int32 × Sg) :=
  (f_X7_isStreet x1 s).bind fun (v1 : Int32) =>
  if v1 = 0 then
    ob2 (f_X7_refuseBad s) fun (v5 : Int32) (s6 : Sg) =>
    some (v5, s6)
  else
    (f_X0_plan 1 s).bind fun (s2 : Sg) =>
    ob2 (f_X0_renamings x1 (-1 : Int32) s2) fun (v3 : Int32) (s4 : Sg) =>
    some (v3, s4)
def b_X7_which_45 (x3 : Int32) (s9 : Sg) (x1 : Int32) (self12 : Int32 → Int32 → Option (Int32 × Sg)) (i10 : Int32) (i11 : Int32) : Option (Int32 × Sg) :=
  if x3 < i11 then
    some (i10, s9)
  else
    (f_X1_having x1 i11 s9).bind fun (v13 : Int32) =>
    nm_ (i10 ||| v13) fun (v14 : Int32) =>
    self12 v14 (i11 + (nI 1))
def f_X7_which (x1 : Int32) (x2 : Int32) (x3 : Int32) (s : Sg) : Option (Int32 × Sg) :=
  if x1 < 0 then
    ob2 (f_X7_refuseBad s) fun (v1 : Int32) (s2 : Sg) =>
    some (v1, s2)
  else
    (f_X7_isHour x2 s).bind fun (v3 : Int32) =>
    if v3 = 0 then
      ob2 (f_X7_refuseBad s) fun (v4 : Int32) (s5 : Sg) =>
      some (v4, s5)
    else
      (f_X7_isHour x3 s).bind fun (v6 : Int32) =>
      if v6 = 0 then
        ob2 (f_X7_refuseBad s) fun (v7 : Int32) (s8 : Sg) =>
        some (v7, s8)
      else
        if x2 ≤ x3 then
          (f_X1_write 1 s).bind fun (s9 : Sg) =>
          lp2_ (b_X7_which_45 x3 s9 x1) fu (nI 0) x2
        else
          ob2 (f_X7_refuseBad s) fun (v15 : Int32) (s16 : Sg) =>
          some (v15, s16)
def f_X7_letter (x1 : Int32) (x2 : Int32) (x3 : Int32) (s : Sg) : Option (Int32 × Sg) :=
  (f_X7_isStreet x1 s).bind fun (v1 : Int32) =>
  if v1 = 0 then
    ob2 (f_X7_refuseBad s) fun (v2 : Int32) (s3 : Sg) =>
    some (v2, s3)
  else
    (f_X7_isHour x2 s).bind fun (v4 : Int32) =>
    if v4 = 0 then
      ob2 (f_X7_refuseBad s) fun (v5 : Int32) (s6 : Sg) =>
      some (v5, s6)
    else
      (f_X7_isHour x3 s).bind fun (v7 : Int32) =>
      if v7 = 0 then
        ob2 (f_X7_refuseBad s) fun (v8 : Int32) (s9 : Sg) =>
        some (v8, s9)
      else
        if x2 ≤ x3 then
          (f_X1_write 1 s).bind fun (s10 : Sg) =>
          (f_X1_at x1 x2 s10).bind fun (v11 : Int32) =>
          (f_X1_firstHaving v11 x3 s10).bind fun (v12 : Int32) =>
          if v12 = (-1 : Int32) then
            some ((nI 2), s10)
          else
            if v12 = x1 then
              some ((nI 0), s10)
            else
              some ((nI 1), s10)
        else
          ob2 (f_X7_refuseBad s) fun (v13 : Int32) (s14 : Sg) =>
          some (v13, s14)
def f_X7_cab (x1 : Int32) (x2 : Int32) (x3 : Int32) (s : Sg) : Option (Int32 × Sg) :=
  (f_X7_isStreet x1 s).bind fun (v1 : Int32) =>
  if v1 = 0 then
    ob2 (f_X7_refuseBad s) fun (v2 : Int32) (s3 : Sg) =>
    some (v2, s3)
  else
    (f_X7_isHour x2 s).bind fun (v4 : Int32) =>
    if v4 = 0 then
      ob2 (f_X7_refuseBad s) fun (v5 : Int32) (s6 : Sg) =>
      some (v5, s6)
    else
      (f_X7_isHour x3 s).bind fun (v7 : Int32) =>
      if v7 = 0 then
        ob2 (f_X7_refuseBad s) fun (v12 : Int32) (s13 : Sg) =>
        some (v12, s13)
      else
        (f_X1_write 1 s).bind fun (s8 : Sg) =>
        (f_X1_at x1 x2 s8).bind fun (v9 : Int32) =>
        nm_ (if (nI 0) < (x2 - x3) then (x2 - x3) else (nI 0)) fun (v10 : Int32) =>
        (f_X1_firstHaving v9 v10 s8).bind fun (v11 : Int32) =>
        some (v11, s8)
def f_X7_areStreets (x1 : Int32) (s : Sg) : Option Int32 :=
  (f_X2_size 2 s).bind fun (v1 : Int32) =>
  (f_X7_isBelow x1 ((nI 1) <<< (v1 &&& 31)) s).bind fun (v2 : Int32) =>
  some (v2 &&& 1)
def b_X7_find_37 (j7 : Int32 → Option (Int32 × Sg)) (x1 : Int32) (s5 : Sg) (self11 : Int32 → Int32 → Option (Int32 × Sg)) (i9 : Int32) (i10 : Int32) : Option (Int32 × Sg) :=
  if (nI 24) ≤ i10 then
    j7 i9
  else
    (f_X1_mostAlike x1 i10 s5).bind fun (v12 : Int32) =>
    (f_X1_mostAlike x1 i9 s5).bind fun (v13 : Int32) =>
    nm_ (fun (a14 : Int32) =>
      self11 a14 (i10 + (nI 1))) fun j15 =>
    if v13 ≤ v12 then
      j15 i9
    else
      j15 i10
def f_X7_find (x1 : Int32) (x2 : Int32) (s : Sg) : Option (Int32 × Sg) :=
  (f_X7_areStreets x1 s).bind fun (v1 : Int32) =>
  if v1 = 0 then
    ob2 (f_X7_refuseBad s) fun (v2 : Int32) (s3 : Sg) =>
    some (v2, s3)
  else
    (f_X7_isBelow x2 (nI 2) s).bind fun (v4 : Int32) =>
    if v4 = 0 then
      ob2 (f_X7_refuseBad s) fun (v16 : Int32) (s17 : Sg) =>
      some (v16, s17)
    else
      (f_X1_write 1 s).bind fun (s5 : Sg) =>
      nm_ (fun (a6 : Int32) =>
        if x2 = 0 then
          some (a6, s5)
        else
          (f_X1_mostAlike x1 a6 s5).bind fun (v8 : Int32) =>
          some (v8, s5)) fun j7 =>
      lp2_ (b_X7_find_37 j7 x1 s5) fu (nI 0) (nI 1)
def f_X7_stage (x1 : Int32) (x2 : Int32) (x3 : Int32) (x4 : Int32) (s : Sg) : Option (Int32 × Sg) :=
  (f_X7_isStreet x1 s).bind fun (v1 : Int32) =>
  if v1 = 0 then
    ob2 (f_X7_refuseBad s) fun (v2 : Int32) (s3 : Sg) =>
    some ((-10 : Int32), s3)
  else
    (f_X7_isBelow x2 (nI 16) s).bind fun (v4 : Int32) =>
    if v4 = 0 then
      ob2 (f_X7_refuseBad s) fun (v5 : Int32) (s6 : Sg) =>
      some ((-10 : Int32), s6)
    else
      (f_X7_isHour x3 s).bind fun (v7 : Int32) =>
      if v7 = 0 then
        ob2 (f_X7_refuseBad s) fun (v8 : Int32) (s9 : Sg) =>
        some ((-10 : Int32), s9)
      else
        if (-1 : Int32) ≤ x4 then
          (f_X0_plan 1 s).bind fun (s10 : Sg) =>
          ob2 (f_X3_fewestStaged x1 x2 x3 s10) fun (v11 : Int32) (s12 : Sg) =>
          if v11 = (-1 : Int32) then
            some (v11, s12)
          else
            if x4 = (-1 : Int32) then
              some (v11, s12)
            else
              if v11 ≤ x4 then
                some ((-5 : Int32), s12)
              else
                (f_X3_hourStaged x4 s12).bind fun (v13 : Int32) =>
                some (v13, s12)
        else
          ob2 (f_X7_refuseBad s) fun (v14 : Int32) (s15 : Sg) =>
          some ((-10 : Int32), s15)
def f_X7_forbid (x1 : Int32) (s : Sg) : Option (Int32 × Sg) :=
  (f_X7_isStreet x1 s).bind fun (v1 : Int32) =>
  if v1 = 0 then
    ob2 (f_X7_refuseBad s) fun (v5 : Int32) (s6 : Sg) =>
    some (v5, s6)
  else
    (f_X0_plan 1 s).bind fun (s2 : Sg) =>
    ob2 (f_X3_fewestForbidden x1 1 s2) fun (v3 : Int32) (s4 : Sg) =>
    some (v3, s4)
def f_X7_rents (x1 : Int32) (s : Sg) : Option (Int32 × Sg) :=
  (f_X7_isStreet x1 s).bind fun (v1 : Int32) =>
  if v1 = 0 then
    ob2 (f_X7_refuseBad s) fun (v5 : Int32) (s6 : Sg) =>
    some (v5, s6)
  else
    (f_X0_plan 1 s).bind fun (s2 : Sg) =>
    ob2 (f_X0_rentOf x1 1 s2) fun (v3 : Int32) (s4 : Sg) =>
    some (v3, s4)
def f_X7_landlords (x1 : Int32) (x2 : Int32) (x3 : Int32) (x4 : Int32) (s : Sg) : Option (Int32 × Sg) :=
  (f_X7_isStreet x1 s).bind fun (v1 : Int32) =>
  if v1 = 0 then
    ob2 (f_X7_refuseBad s) fun (v2 : Int32) (s3 : Sg) =>
    some (v2, s3)
  else
    (f_X7_isStreet x2 s).bind fun (v4 : Int32) =>
    if v4 = 0 then
      ob2 (f_X7_refuseBad s) fun (v5 : Int32) (s6 : Sg) =>
      some (v5, s6)
    else
      if x1 = x2 then
        ob2 (f_X7_refuseBad s) fun (v7 : Int32) (s8 : Sg) =>
        some (v7, s8)
      else
        (f_X7_isHour x3 s).bind fun (v9 : Int32) =>
        if v9 = 0 then
          ob2 (f_X7_refuseBad s) fun (v10 : Int32) (s11 : Sg) =>
          some (v10, s11)
        else
          (f_X7_isBelow x4 (nI 100) s).bind fun (v12 : Int32) =>
          if v12 = 0 then
            ob2 (f_X7_refuseBad s) fun (v15 : Int32) (s16 : Sg) =>
            some (v15, s16)
          else
            (f_X3_weighPairs x1 x2 x3 x4 1 s).bind fun (s13 : Sg) =>
            (f_X3_pairsThatRest s13).bind fun (v14 : Int32) =>
            some (v14, s13)
def f_X7_round (x1 : Int32) (x2 : Int32) (s : Sg) : Option (Int32 × Sg) :=
  (f_X7_isBelow x1 (nI 8) s).bind fun (v1 : Int32) =>
  if v1 = 0 then
    ob2 (f_X7_refuseBad s) fun (v2 : Int32) (s3 : Sg) =>
    some (v2, s3)
  else
    (f_X7_areStreets x2 s).bind fun (v4 : Int32) =>
    if v4 = 0 then
      ob2 (f_X7_refuseBad s) fun (v7 : Int32) (s8 : Sg) =>
      some (v7, s8)
    else
      ob2 (f_X6_shortest 2 x1 x2 s) fun (v5 : Int32) (s6 : Sg) =>
      some (v5, s6)
def f_X7_reading (x1 : Int32) (x2 : Int32) (x3 : Int32) (s : Sg) : Option (Int32 × Sg) :=
  (f_X7_isStreet x1 s).bind fun (v1 : Int32) =>
  if v1 = 0 then
    ob2 (f_X7_refuseBad s) fun (v2 : Int32) (s3 : Sg) =>
    some (v2, s3)
  else
    (f_X7_isHour x2 s).bind fun (v4 : Int32) =>
    if v4 = 0 then
      ob2 (f_X7_refuseBad s) fun (v5 : Int32) (s6 : Sg) =>
      some (v5, s6)
    else
      (f_X7_isBelow x3 (nI 16) s).bind fun (v7 : Int32) =>
      if v7 = 0 then
        ob2 (f_X7_refuseBad s) fun (v16 : Int32) (s17 : Sg) =>
        some (v16, s17)
      else
        (f_X2_isFull 6 s).bind fun (v8 : Int32) =>
        if v8 = 0 then
          (aset s 69 (nI 0) x1).bind fun (s9 : Sg) =>
          (aset s9 69 (nI 1) x2).bind fun (s10 : Sg) =>
          (aset s10 69 (nI 2) x3).bind fun (s11 : Sg) =>
          (f_X2_add 6 69 s11).bind fun (s12 : Sg) =>
          (f_X2_size 6 s12).bind fun (v13 : Int32) =>
          some (v13 - (nI 1), s12)
        else
          ob2 (f_X7_refuseFull s) fun (v14 : Int32) (s15 : Sg) =>
          some (v14, s15)
def f_X7_burn (s : Sg) : Option (Int32 × Sg) :=
  (f_X2_size 6 s).bind fun (v1 : Int32) =>
  (f_X2_empty 6 s).bind fun (s2 : Sg) =>
  some (v1, s2)
def f_X7_truly (x1 : Int32) (s : Sg) : Option (Int32 × Sg) :=
  (f_X7_isBelow x1 (nI 2) s).bind fun (v1 : Int32) =>
  if v1 = 0 then
    ob2 (f_X7_refuseBad s) fun (v6 : Int32) (s7 : Sg) =>
    some ((-10 : Int32), s7)
  else
    (f_X0_plan 1 s).bind fun (s2 : Sg) =>
    ob2 (f_X3_trueSets 1 s2) fun (v3 : Int32) (s4 : Sg) =>
    if x1 = 0 then
      some (v3, s4)
    else
      if v3 = 0 then
        some ((-1 : Int32), s4)
      else
        (f_X3_inAllTrueSets s4).bind fun (v5 : Int32) =>
        some (v5, s4)
def f_X7_drawn (x1 : Int32) (x2 : Int32) (x3 : Int32) (s : Sg) : Option (Int32 × Sg) :=
  (f_X7_isBelow x1 (nI 1000000) s).bind fun (v1 : Int32) =>
  if v1 = 0 then
    ob2 (f_X7_refuseBad s) fun (v2 : Int32) (s3 : Sg) =>
    some (v2, s3)
  else
    (f_X7_isBelow x2 (nI 31) s).bind fun (v4 : Int32) =>
    if v4 = 0 then
      ob2 (f_X7_refuseBad s) fun (v5 : Int32) (s6 : Sg) =>
      some (v5, s6)
    else
      (f_X7_isBelow x3 (nI 101) s).bind fun (v7 : Int32) =>
      if v7 = 0 then
        ob2 (f_X7_refuseBad s) fun (v11 : Int32) (s12 : Sg) =>
        some (v11, s12)
      else
        (f_X0_plan 1 s).bind fun (s8 : Sg) =>
        ob2 (f_X3_renamingsOfDays x1 x2 x3 1 s8) fun (v9 : Int32) (s10 : Sg) =>
        some (v9, s10)
def f_X7_imageOf (x1 : Int32) (s : Sg) : Option Nat :=
  if x1 = 0 then
    some 25
  else
    some 37
def f_X7_image (x1 : Int32) (s : Sg) : Option (Int32 × Sg) :=
  (f_X7_isBelow x1 (nI 2) s).bind fun (v1 : Int32) =>
  if v1 = 0 then
    ob2 (f_X7_refuseBad s) fun (v5 : Int32) (s6 : Sg) =>
    some (v5, s6)
  else
    (f_X7_imageOf x1 s).bind fun (c2 : Nat) =>
    (f_X5_copy c2 1 s).bind fun (s3 : Sg) =>
    nm_ (sts s3 0 10 ((s3 0 10) ||| ((nI 1) <<< (x1 &&& 31)))) fun (s4 : Sg) =>
    some ((nI 1), s4)
def f_X7_from (x1 : Int32) (s : Sg) : Option (Int32 × Sg) :=
  (f_X7_isBelow x1 (nI 2) s).bind fun (v1 : Int32) =>
  if v1 = 0 then
    ob2 (f_X7_refuseBad s) fun (v7 : Int32) (s8 : Sg) =>
    some (v7, s8)
  else
    (f_X7_holds (s 0 10) x1 s).bind fun (v2 : Int32) =>
    if v2 = 0 then
      ob2 (f_X7_refuseNo s) fun (v5 : Int32) (s6 : Sg) =>
      some (v5, s6)
    else
      (f_X7_imageOf x1 s).bind fun (c3 : Nat) =>
      (f_X5_copy 1 c3 s).bind fun (s4 : Sg) =>
      some ((nI 1), s4)
def f_X7_status (x1 : Int32) (s : Sg) : Option (Int32 × Sg) :=
  if x1 = (nI 0) then
    some (s 0 11, s)
  else
    if x1 = (nI 1) then
      some (s 0 12, s)
    else
      if x1 = (nI 2) then
        some (s 0 13, s)
      else
        ob2 (f_X7_refuseBad s) fun (v1 : Int32) (s2 : Sg) =>
        some ((-1 : Int32), s2)
def f_X7_countOf (x1 : Int32) (s : Sg) : Option Int32 :=
  if x1 = (nI 0) then
    (f_X2_size 2 s).bind fun (v1 : Int32) =>
    some v1
  else
    if x1 = (nI 1) then
      (f_X2_size 4 s).bind fun (v2 : Int32) =>
      some v2
    else
      if x1 = (nI 2) then
        some (s 1 7)
      else
        if x1 = (nI 3) then
          (f_X2_size 6 s).bind fun (v3 : Int32) =>
          some v3
        else
          if x1 = (nI 4) then
            (f_X2_size 8 s).bind fun (v4 : Int32) =>
            some v4
          else
            (f_X4_size s).bind fun (v5 : Int32) =>
            some v5
def f_X7_count (x1 : Int32) (s : Sg) : Option (Int32 × Sg) :=
  (f_X7_isBelow x1 (nI 6) s).bind fun (v1 : Int32) =>
  if v1 = 0 then
    ob2 (f_X7_refuseBad s) fun (v3 : Int32) (s4 : Sg) =>
    some (v3, s4)
  else
    (f_X7_countOf x1 s).bind fun (v2 : Int32) =>
    some (v2, s)
def b_X7_digest_6 (s : Sg) (self3 : Int64 → Int32 → Option Int64) (i1 : Int64) (i2 : Int32) : Option Int64 :=
  if (nI 6) ≤ i2 then
    (f_X5_mixInto 1 i1 s).bind fun (v4 : Int64) =>
    some v4
  else
    (f_X7_countOf i2 s).bind fun (v5 : Int32) =>
    nm_ (((31 : Int64) * i1) + (Int32.toInt64 v5)) fun (v6 : Int64) =>
    self3 v6 (i2 + (nI 1))
def f_X7_digest (s : Sg) : Option Int64 :=
  lp2_ (b_X7_digest_6 s) fu (911 : Int64) (nI 0)
def f_X8_in (x0 : Int64) (x2 : Int64) (x4 : Int64) (s : Sg) : Option Int32 :=
  if (lg_cmp x0 x2) < 0 then
    some (nI 0)
  else
    if 0 < (lg_cmp x0 x4) then
      some (nI 0)
    else
      some (nI 1)
def f_X8_bad (x1 : Int32) (s : Sg) : Option (Int32 × Sg) :=
  (aget s 74 (nI 0)).bind fun (v1 : Int32) =>
  (aset s 74 (nI 0) (v1 + (nI 1))).bind fun (s2 : Sg) =>
  some (x1, s2)
def f_X8_no (s : Sg) : Option (Int32 × Sg) :=
  (aget s 74 (nI 1)).bind fun (v1 : Int32) =>
  (aset s 74 (nI 1) (v1 + (nI 1))).bind fun (s2 : Sg) =>
  some ((-3 : Int32), s2)
def f_X8_full (s : Sg) : Option (Int32 × Sg) :=
  (aget s 74 (nI 2)).bind fun (v1 : Int32) =>
  (aset s 74 (nI 2) (v1 + (nI 1))).bind fun (s2 : Sg) =>
  some ((-4 : Int32), s2)
def b_X8_bits_4 (self3 : Int32 → Int32 → Option Int32) (i1 : Int32) (i2 : Int32) : Option Int32 :=
  if i2 ≤ 0 then
    some i1
  else
    nm_ (i1 + (i2 &&& (nI 1))) fun (v4 : Int32) =>
    nm_ (i2 >>> ((nI 1) &&& 31)) fun (v5 : Int32) =>
    self3 v4 v5
def f_X8_bits (x0 : Int32) (s : Sg) : Option Int32 :=
  lp2_ (b_X8_bits_4) fu (nI 0) x0
def b_X8_begin_2 (c0 : Nat) (x1 : Int32) (self3 : Int32 → Sg → Option Sg) (i1 : Int32) (s2 : Sg) : Option Sg :=
  if (nI 115) ≤ i1 then
    (aset s2 c0 (nI 2) x1).bind fun (s4 : Sg) =>
    some s4
  else
    (aset s2 c0 i1 (nI 0)).bind fun (s5 : Sg) =>
    self3 (i1 + (nI 1)) s5
def f_X8_begin (c0 : Nat) (x1 : Int32) (s : Sg) : Option Sg :=
  lp2_ (b_X8_begin_2 c0 x1) fu (nI 0) s
def f_X8_streets (s : Sg) : Option Int32 :=
  (aget s 71 (nI 0)).bind fun (v1 : Int32) =>
  some v1
def f_X8_events (s : Sg) : Option Int32 :=
  (aget s 71 (nI 1)).bind fun (v1 : Int32) =>
  some v1
def f_X8_isStreet (x1 : Int32) (s : Sg) : Option Int32 :=
  (f_X8_streets s).bind fun (v1 : Int32) =>
  (f_X8_in (Int32.toInt64 x1) (0 : Int64) (Int32.toInt64 (v1 - (nI 1))) s).bind fun (v2 : Int32) =>
  some (v2 &&& 1)
def f_X8_isEvent (x1 : Int32) (s : Sg) : Option Int32 :=
  (f_X8_events s).bind fun (v1 : Int32) =>
  (f_X8_in (Int32.toInt64 x1) (0 : Int64) (Int32.toInt64 (v1 - (nI 1))) s).bind fun (v2 : Int32) =>
  some (v2 &&& 1)
def f_X8_isHour (x0 : Int32) (s : Sg) : Option Int32 :=
  (f_X8_in (Int32.toInt64 x0) (0 : Int64) (23 : Int64) s).bind fun (v1 : Int32) =>
  some (v1 &&& 1)
def f_X8_isWord (x0 : Int32) (s : Sg) : Option Int32 :=
  (f_X8_in (Int32.toInt64 x0) (0 : Int64) (15 : Int64) s).bind fun (v1 : Int32) =>
  some (v1 &&& 1)
def f_X8_areStreets (x1 : Int32) (s : Sg) : Option Int32 :=
  (f_X8_streets s).bind fun (v1 : Int32) =>
  (f_X8_in (Int32.toInt64 x1) (0 : Int64) (Int32.toInt64 (((nI 1) <<< (v1 &&& 31)) - (nI 1))) s).bind fun (v2 : Int32) =>
  some (v2 &&& 1)
def f_X8_has (x1 : Int32) (x2 : Int32) (s : Sg) : Option Int32 :=
  (aget s 71 (((nI 5) + ((nI 4) * x1)) + x2)).bind fun (v1 : Int32) =>
  some v1
def f_X8_told (x1 : Int32) (x2 : Int32) (s : Sg) : Option Int32 :=
  (aget s 71 (((nI 33) + ((nI 6) * x1)) + x2)).bind fun (v1 : Int32) =>
  some v1
def f_X8_town (x1 : Int32) (s : Sg) : Option (Int32 × Sg) :=
  (f_X8_in (Int32.toInt64 x1) (0 : Int64) (2 : Int64) s).bind fun (v1 : Int32) =>
  if v1 = 0 then
    ob2 (f_X8_bad (-2 : Int32) s) fun (v4 : Int32) (s5 : Sg) =>
    some (v4, s5)
  else
    (f_X8_streets s).bind fun (v2 : Int32) =>
    (f_X8_begin 71 x1 s).bind fun (s3 : Sg) =>
    some (v2, s3)
def f_X8_layStreet (c0 : Nat) (x1 : Int32) (x2 : Int32) (x3 : Int32) (x4 : Int32) (s : Sg) : Option Sg :=
  (aget s c0 (nI 0)).bind fun (v1 : Int32) =>
  nm_ ((nI 5) + ((nI 4) * v1)) fun (v2 : Int32) =>
  (aset s c0 (v2 + (nI 0)) x1).bind fun (s3 : Sg) =>
  (aset s3 c0 (v2 + (nI 1)) x2).bind fun (s4 : Sg) =>
  (aset s4 c0 (v2 + (nI 2)) x3).bind fun (s5 : Sg) =>
  (aset s5 c0 (v2 + (nI 3)) x4).bind fun (s6 : Sg) =>
  (aget s6 c0 (nI 0)).bind fun (v7 : Int32) =>
  (aset s6 c0 (nI 0) (v7 + (nI 1))).bind fun (s8 : Sg) =>
  some s8
def f_X8_street (x1 : Int32) (x2 : Int32) (x3 : Int32) (x4 : Int32) (s : Sg) : Option (Int32 × Sg) :=
  (f_X8_in (Int32.toInt64 x1) (0 : Int64) (7 : Int64) s).bind fun (v1 : Int32) =>
  if v1 = 0 then
    ob2 (f_X8_bad (-2 : Int32) s) fun (v2 : Int32) (s3 : Sg) =>
    some (v2, s3)
  else
    (f_X8_in (Int32.toInt64 x2) (0 : Int64) (7 : Int64) s).bind fun (v4 : Int32) =>
    if v4 = 0 then
      ob2 (f_X8_bad (-2 : Int32) s) fun (v5 : Int32) (s6 : Sg) =>
      some (v5, s6)
    else
      if x1 = x2 then
        ob2 (f_X8_bad (-2 : Int32) s) fun (v7 : Int32) (s8 : Sg) =>
        some (v7, s8)
      else
        (f_X8_in (Int32.toInt64 x3) (1 : Int64) (9 : Int64) s).bind fun (v9 : Int32) =>
        if v9 = 0 then
          ob2 (f_X8_bad (-2 : Int32) s) fun (v10 : Int32) (s11 : Sg) =>
          some (v10, s11)
        else
          (f_X8_isWord x4 s).bind fun (v12 : Int32) =>
          if v12 = 0 then
            ob2 (f_X8_bad (-2 : Int32) s) fun (v19 : Int32) (s20 : Sg) =>
            some (v19, s20)
          else
            (f_X8_streets s).bind fun (v13 : Int32) =>
            if v13 = (nI 7) then
              ob2 (f_X8_full s) fun (v17 : Int32) (s18 : Sg) =>
              some (v17, s18)
            else
              (f_X8_layStreet 71 x1 x2 x3 x4 s).bind fun (s14 : Sg) =>
              (aset s14 71 (nI 4) (nI 0)).bind fun (s15 : Sg) =>
              (f_X8_streets s15).bind fun (v16 : Int32) =>
              some (v16 - (nI 1), s15)
def f_X8_layEvent (c0 : Nat) (x1 : Int32) (x2 : Int32) (x3 : Int32) (x4 : Int32) (x5 : Int32) (x6 : Int32) (s : Sg) : Option Sg :=
  (aget s c0 (nI 1)).bind fun (v1 : Int32) =>
  nm_ ((nI 33) + ((nI 6) * v1)) fun (v2 : Int32) =>
  (aset s c0 (v2 + (nI 0)) x1).bind fun (s3 : Sg) =>
  (aset s3 c0 (v2 + (nI 1)) x2).bind fun (s4 : Sg) =>
  (aset s4 c0 (v2 + (nI 2)) x3).bind fun (s5 : Sg) =>
  (aset s5 c0 (v2 + (nI 3)) x4).bind fun (s6 : Sg) =>
  (aset s6 c0 (v2 + (nI 4)) x5).bind fun (s7 : Sg) =>
  (aset s7 c0 (v2 + (nI 5)) x6).bind fun (s8 : Sg) =>
  (aget s8 c0 (nI 1)).bind fun (v9 : Int32) =>
  (aset s8 c0 (nI 1) (v9 + (nI 1))).bind fun (s10 : Sg) =>
  some s10
def b_X8_keep_68 (j7 : Sg → Option Sg) (v5 : Int32) (self16 : Int32 → Sg → Option Sg) (i14 : Int32) (s15 : Sg) : Option Sg :=
  if (nI 48) ≤ i14 then
    j7 s15
  else
    (aget s15 71 ((nI 33) + i14)).bind fun (v17 : Int32) =>
    (aset s15 71 (v5 + i14) v17).bind fun (s18 : Sg) =>
    self16 (i14 + (nI 1)) s18
def b_X8_keep_13 (j20 : Sg → Option Sg) (self24 : Int32 → Sg → Option Sg) (i22 : Int32) (s23 : Sg) : Option Sg :=
  if (nI 350) ≤ i22 then
    j20 s23
  else
    (aget s23 71 ((nI 165) + i22)).bind fun (v25 : Int32) =>
    (aset s23 71 ((nI 115) + i22) v25).bind fun (s26 : Sg) =>
    self24 (i22 + (nI 1)) s26
def f_X8_keep (s : Sg) : Option Sg :=
  (aget s 71 (nI 4)).bind fun (v1 : Int32) =>
  nm_ (fun (s2 : Sg) =>
    (aget s2 71 (nI 4)).bind fun (v4 : Int32) =>
    nm_ ((nI 115) + ((nI 50) * v4)) fun (v5 : Int32) =>
    nm_ (fun (s6 : Sg) =>
      (f_X8_events s6).bind fun (v8 : Int32) =>
      (aset s6 71 (v5 + (nI 48)) v8).bind fun (s9 : Sg) =>
      (aget s9 71 (nI 2)).bind fun (v10 : Int32) =>
      (aset s9 71 (v5 + (nI 49)) v10).bind fun (s11 : Sg) =>
      (aget s11 71 (nI 4)).bind fun (v12 : Int32) =>
      (aset s11 71 (nI 4) (v12 + (nI 1))).bind fun (s13 : Sg) =>
      some s13) fun j7 =>
    lp2_ (b_X8_keep_68 j7 v5) fu (nI 0) s2) fun j3 =>
  if v1 = (nI 8) then
    nm_ (fun (s19 : Sg) =>
      (aset s19 71 (nI 4) (nI 7)).bind fun (s21 : Sg) =>
      j3 s21) fun j20 =>
    lp2_ (b_X8_keep_13 j20) fu (nI 0) s
  else
    j3 s
def f_X8_event (x1 : Int32) (x2 : Int32) (x3 : Int32) (x4 : Int32) (x5 : Int32) (x6 : Int32) (s : Sg) : Option (Int32 × Sg) :=
  (f_X8_in (Int32.toInt64 x1) (0 : Int64) (5 : Int64) s).bind fun (v1 : Int32) =>
  nm_ (fun (a2 : Int32) =>
    if a2 = 0 then
      ob2 (f_X8_bad (-2 : Int32) s) fun (v4 : Int32) (s5 : Sg) =>
      some (v4, s5)
    else
      (f_X8_in (Int32.toInt64 x4) (0 : Int64) (9 : Int64) s).bind fun (v6 : Int32) =>
      if v6 = 0 then
        ob2 (f_X8_bad (-2 : Int32) s) fun (v7 : Int32) (s8 : Sg) =>
        some (v7, s8)
      else
        (f_X8_in (Int32.toInt64 x5) (0 : Int64) (9 : Int64) s).bind fun (v9 : Int32) =>
        if v9 = 0 then
          ob2 (f_X8_bad (-2 : Int32) s) fun (v10 : Int32) (s11 : Sg) =>
          some (v10, s11)
        else
          (f_X8_isWord x6 s).bind fun (v12 : Int32) =>
          if v12 = 0 then
            ob2 (f_X8_bad (-2 : Int32) s) fun (v19 : Int32) (s20 : Sg) =>
            some (v19, s20)
          else
            (f_X8_events s).bind fun (v13 : Int32) =>
            if v13 = (nI 8) then
              ob2 (f_X8_full s) fun (v17 : Int32) (s18 : Sg) =>
              some (v17, s18)
            else
              (f_X8_keep s).bind fun (s14 : Sg) =>
              (f_X8_layEvent 71 x1 x2 x3 x4 x5 x6 s14).bind fun (s15 : Sg) =>
              (f_X8_events s15).bind fun (v16 : Int32) =>
              some (v16 - (nI 1), s15)) fun j3 =>
  nm_ (fun (_ : Unit) =>
    j3 (nI 0)) fun j21 =>
  if v1 = 0 then
    j21 ()
  else
    (f_X8_isStreet x2 s).bind fun (v22 : Int32) =>
    if v22 = 0 then
      j21 ()
    else
      (f_X8_isHour x3 s).bind fun (v23 : Int32) =>
      if v23 = 0 then
        j21 ()
      else
        j3 (nI 1)
def b_X8_back_24 (j5 : Sg → Option (Int32 × Sg)) (self11 : Int32 → Sg → Option (Int32 × Sg)) (i9 : Int32) (s10 : Sg) : Option (Int32 × Sg) :=
  if (nI 42) ≤ i9 then
    j5 s10
  else
    (aget s10 71 (((nI 33) + i9) + (nI 6))).bind fun (v12 : Int32) =>
    (aset s10 71 ((nI 33) + i9) v12).bind fun (s13 : Sg) =>
    self11 (i9 + (nI 1)) s13
def f_X8_back (x1 : Int32) (s : Sg) : Option (Int32 × Sg) :=
  (f_X8_isEvent x1 s).bind fun (v1 : Int32) =>
  if v1 = 0 then
    ob2 (f_X8_bad (-2 : Int32) s) fun (v14 : Int32) (s15 : Sg) =>
    some (v14, s15)
  else
    (f_X8_keep s).bind fun (s2 : Sg) =>
    nm_ ((nI 6) * x1) fun (v3 : Int32) =>
    nm_ (fun (s4 : Sg) =>
      (aget s4 71 (nI 1)).bind fun (v6 : Int32) =>
      (aset s4 71 (nI 1) (v6 - (nI 1))).bind fun (s7 : Sg) =>
      (f_X8_events s7).bind fun (v8 : Int32) =>
      some (v8, s7)) fun j5 =>
    lp2_ (b_X8_back_24 j5) fu v3 s2
def f_X8_law (x1 : Int32) (s : Sg) : Option (Int32 × Sg) :=
  (f_X8_in (Int32.toInt64 x1) (0 : Int64) (2 : Int64) s).bind fun (v1 : Int32) =>
  if v1 = 0 then
    ob2 (f_X8_bad (-2 : Int32) s) fun (v5 : Int32) (s6 : Sg) =>
    some (v5, s6)
  else
    (f_X8_keep s).bind fun (s2 : Sg) =>
    (aget s2 71 (nI 2)).bind fun (v3 : Int32) =>
    (aset s2 71 (nI 2) x1).bind fun (s4 : Sg) =>
    some (v3, s4)
def b_X8_undo_39 (j7 : Sg → Option (Int32 × Sg)) (v5 : Int32) (self15 : Int32 → Sg → Option (Int32 × Sg)) (i13 : Int32) (s14 : Sg) : Option (Int32 × Sg) :=
  if (nI 48) ≤ i13 then
    j7 s14
  else
    (aget s14 71 (v5 + i13)).bind fun (v16 : Int32) =>
    (aset s14 71 ((nI 33) + i13) v16).bind fun (s17 : Sg) =>
    self15 (i13 + (nI 1)) s17
def f_X8_undo (s : Sg) : Option (Int32 × Sg) :=
  (aget s 71 (nI 4)).bind fun (v1 : Int32) =>
  if v1 = 0 then
    ob2 (f_X8_no s) fun (v18 : Int32) (s19 : Sg) =>
    some (v18, s19)
  else
    (aget s 71 (nI 4)).bind fun (v2 : Int32) =>
    (aset s 71 (nI 4) (v2 - (nI 1))).bind fun (s3 : Sg) =>
    (aget s3 71 (nI 4)).bind fun (v4 : Int32) =>
    nm_ ((nI 115) + ((nI 50) * v4)) fun (v5 : Int32) =>
    nm_ (fun (s6 : Sg) =>
      (aget s6 71 (v5 + (nI 48))).bind fun (v8 : Int32) =>
      (aset s6 71 (nI 1) v8).bind fun (s9 : Sg) =>
      (aget s9 71 (v5 + (nI 49))).bind fun (v10 : Int32) =>
      (aset s9 71 (nI 2) v10).bind fun (s11 : Sg) =>
      (f_X8_events s11).bind fun (v12 : Int32) =>
      some (v12, s11)) fun j7 =>
    lp2_ (b_X8_undo_39 j7 v5) fu (nI 0) s3
def f_X8_rent (x1 : Int32) (x2 : Int32) (s : Sg) : Option (Int32 × Sg) :=
  (f_X8_isWord x1 s).bind fun (v1 : Int32) =>
  if v1 = 0 then
    ob2 (f_X8_bad (-2 : Int32) s) fun (v2 : Int32) (s3 : Sg) =>
    some (v2, s3)
  else
    (f_X8_in (Int32.toInt64 x2) (0 : Int64) (99 : Int64) s).bind fun (v4 : Int32) =>
    if v4 = 0 then
      ob2 (f_X8_bad (-2 : Int32) s) fun (v7 : Int32) (s8 : Sg) =>
      some (v7, s8)
    else
      (aget s 71 ((nI 81) + x1)).bind fun (v5 : Int32) =>
      (aset s 71 ((nI 81) + x1) x2).bind fun (s6 : Sg) =>
      some (v5, s6)
def f_X8_mustSee (x0 : Int32) (s : Sg) : Option Int32 :=
  if x0 = (nI 1) then
    some (nI 3)
  else
    if x0 = (nI 3) then
      some (nI 4)
    else
      some (nI 2)
def f_X8_rankOf (x0 : Int32) (x1 : Int32) (s : Sg) : Option Int32 :=
  if x0 = (nI 3) then
    some (x1 / (nI 2))
  else
    if x0 = (nI 4) then
      some (x1 + (nI 1))
    else
      if x0 = (nI 5) then
        some (x1 + (nI 2))
      else
        some x1
def f_X8_standsFor (x0 : Int32) (s : Sg) : Option Int32 :=
  if x0 = (nI 2) then
    some (nI 9)
  else
    if x0 = (nI 5) then
      some (nI 18)
    else
      some (nI 3)
def f_X8_meet (x1 : Int32) (x2 : Int32) (s : Sg) : Option Int32 :=
  (f_X8_has x1 (nI 0) s).bind fun (v1 : Int32) =>
  (f_X8_has x2 (nI 0) s).bind fun (v2 : Int32) =>
  if v1 = v2 then
    some (nI 1)
  else
    (f_X8_has x1 (nI 0) s).bind fun (v3 : Int32) =>
    (f_X8_has x2 (nI 1) s).bind fun (v4 : Int32) =>
    if v3 = v4 then
      some (nI 1)
    else
      (f_X8_has x1 (nI 1) s).bind fun (v5 : Int32) =>
      (f_X8_has x2 (nI 0) s).bind fun (v6 : Int32) =>
      if v5 = v6 then
        some (nI 1)
      else
        (f_X8_has x1 (nI 1) s).bind fun (v7 : Int32) =>
        (f_X8_has x2 (nI 1) s).bind fun (v8 : Int32) =>
        if v7 = v8 then
          some (nI 1)
        else
          some (nI 0)
def b_X8_happensIn_7 (s : Sg) (x1 : Int32) (x2 : Int32) (self4 : Int32 → Int32 → Option Int32) (i2 : Int32) (i3 : Int32) : Option Int32 :=
  (f_X8_streets s).bind fun (v5 : Int32) =>
  if v5 ≤ i3 then
    some i2
  else
    if x1 = (nI 1) then
      (f_X8_meet i3 x2 s).bind fun (v6 : Int32) =>
      nm_ (fun (a7 : Int32) =>
        nm_ (i2 ||| a7) fun (v9 : Int32) =>
        self4 v9 (i3 + (nI 1))) fun j8 =>
      if v6 = 0 then
        j8 (nI 0)
      else
        j8 ((nI 1) <<< (i3 &&& 31))
    else
      some i2
def f_X8_happensIn (x1 : Int32) (x2 : Int32) (s : Sg) : Option Int32 :=
  nm_ ((nI 1) <<< (x2 &&& 31)) fun (v1 : Int32) =>
  lp2_ (b_X8_happensIn_7 s x1 x2) fu v1 (nI 0)
def f_X8_of (x1 : Int32) (x2 : Int32) (s : Sg) : Option (Int32 × Sg) :=
  (f_X8_isEvent x1 s).bind fun (v1 : Int32) =>
  if v1 = 0 then
    ob2 (f_X8_bad (-2 : Int32) s) fun (v2 : Int32) (s3 : Sg) =>
    some (v2, s3)
  else
    (f_X8_in (Int32.toInt64 x2) (0 : Int64) (9 : Int64) s).bind fun (v4 : Int32) =>
    if v4 = 0 then
      ob2 (f_X8_bad (-2 : Int32) s) fun (v13 : Int32) (s14 : Sg) =>
      some (v13, s14)
    else
      (f_X8_told x1 (nI 0) s).bind fun (v5 : Int32) =>
      if x2 = (nI 6) then
        (f_X8_mustSee v5 s).bind fun (v6 : Int32) =>
        some (v6, s)
      else
        if x2 = (nI 7) then
          (f_X8_told x1 (nI 4) s).bind fun (v7 : Int32) =>
          (f_X8_rankOf v5 v7 s).bind fun (v8 : Int32) =>
          some (v8, s)
        else
          if x2 = (nI 8) then
            (f_X8_standsFor v5 s).bind fun (v9 : Int32) =>
            some (v9, s)
          else
            if x2 = (nI 9) then
              (f_X8_told x1 (nI 1) s).bind fun (v10 : Int32) =>
              (f_X8_happensIn v5 v10 s).bind fun (v11 : Int32) =>
              some (v11, s)
            else
              (f_X8_told x1 x2 s).bind fun (v12 : Int32) =>
              some (v12, s)
def b_X8_rename_92 (s : Sg) (j9 : Int32 → Option Sg) (x1 : Int32) (x5 : Int32) (self19 : Int32 → Int32 → Option Sg) (i17 : Int32) (i18 : Int32) : Option Sg :=
  (f_X8_streets s).bind fun (v20 : Int32) =>
  if v20 ≤ i18 then
    j9 i17
  else
    nm_ (fun (a21 : Int32) =>
      nm_ (i17 + a21) fun (v23 : Int32) =>
      self19 v23 (i18 + (nI 1))) fun j22 =>
    nm_ (fun (_ : Unit) =>
      j22 (nI 0)) fun j24 =>
    if i18 = x1 then
      j24 ()
    else
      (aget s 77 i18).bind fun (v25 : Int32) =>
      if v25 = x5 then
        j22 (nI 1)
      else
        j24 ()
def f_X8_rename (x1 : Int32) (x2 : Int32) (x3 : Int32) (x4 : Int32) (x5 : Int32) (s : Sg) : Option Sg :=
  (aget s 80 x1).bind fun (v1 : Int32) =>
  nm_ (fun (a2 : Int32) =>
    (aget s 71 (nI 2)).bind fun (v4 : Int32) =>
    nm_ (fun (a5 : Int32) =>
      nm_ (fun (_ : Unit) =>
        nm_ (fun (a8 : Int32) =>
          (aset s 77 x1 x5).bind fun (s10 : Sg) =>
          (aset s10 78 x1 ((nI 1) + a8)).bind fun (s11 : Sg) =>
          (aset s11 79 x1 x4).bind fun (s12 : Sg) =>
          (f_X8_standsFor x2 s12).bind fun (v13 : Int32) =>
          (aset s12 80 x1 (x3 + v13)).bind fun (s14 : Sg) =>
          (aget s14 81 x1).bind fun (v15 : Int32) =>
          (aset s14 81 x1 (v15 + (nI 1))).bind fun (s16 : Sg) =>
          some s16) fun j9 =>
        lp2_ (b_X8_rename_92 s j9 x1 x5) fu (nI 0) (nI 0)) fun j7 =>
      if a2 = 0 then
        j7 ()
      else
        if a5 = 0 then
          some s
        else
          j7 ()) fun j6 =>
    nm_ (fun (_ : Unit) =>
      j6 (nI 1)) fun j26 =>
    if v4 = (nI 2) then
      j26 ()
    else
      (aget s 71 (nI 2)).bind fun (v27 : Int32) =>
      nm_ (fun (_ : Unit) =>
        (aget s 71 (nI 2)).bind fun (v29 : Int32) =>
        nm_ (fun (_ : Unit) =>
          j6 (nI 0)) fun j30 =>
        if v29 = (nI 1) then
          (aget s 79 x1).bind fun (v31 : Int32) =>
          if x4 ≤ v31 then
            j30 ()
          else
            j26 ()
        else
          j30 ()) fun j28 =>
      if v27 = 0 then
        (aget s 79 x1).bind fun (v32 : Int32) =>
        if v32 ≤ x4 then
          j26 ()
        else
          j28 ()
      else
        j28 ()) fun j3 =>
  if v1 ≤ x3 then
    j3 (nI 0)
  else
    j3 (nI 1)
def b_X8_happen_21 (v2 : Int32) (x1 : Int32) (x5 : Int32) (x3 : Int32) (x6 : Int32) (self5 : Int32 → Sg → Option Sg) (i3 : Int32) (s4 : Sg) : Option Sg :=
  (f_X8_streets s4).bind fun (v6 : Int32) =>
  if v6 ≤ i3 then
    some s4
  else
    nm_ (fun (s7 : Sg) =>
      self5 (i3 + (nI 1)) s7) fun j8 =>
    if ((v2 >>> (i3 &&& 31)) &&& (nI 1)) = (nI 1) then
      (f_X8_rankOf x1 x5 s4).bind fun (v9 : Int32) =>
      (f_X8_rename i3 x1 x3 v9 x6 s4).bind fun (s10 : Sg) =>
      j8 s10
    else
      j8 s4
def f_X8_happen (x1 : Int32) (x2 : Int32) (x3 : Int32) (x4 : Int32) (x5 : Int32) (x6 : Int32) (s : Sg) : Option Sg :=
  (f_X8_mustSee x1 s).bind fun (v1 : Int32) =>
  if v1 ≤ x4 then
    (f_X8_happensIn x1 x2 s).bind fun (v2 : Int32) =>
    lp2_ (b_X8_happen_21 v2 x1 x5 x3 x6) fu (nI 0) s
  else
    some s
def b_X8_run_184 (j11 : Sg → Option Sg) (i3 : Int32) (self14 : Int32 → Sg → Option Sg) (i12 : Int32) (s13 : Sg) : Option Sg :=
  (f_X8_streets s13).bind fun (v15 : Int32) =>
  if v15 ≤ i12 then
    j11 s13
  else
    (aget s13 77 i12).bind fun (v16 : Int32) =>
    (aset s13 75 (((nI 7) * i3) + i12) v16).bind fun (s17 : Sg) =>
    (aget s17 78 i12).bind fun (v18 : Int32) =>
    (aset s17 76 (((nI 7) * i3) + i12) v18).bind fun (s19 : Sg) =>
    self14 (i12 + (nI 1)) s19
def b_X8_run_136 (j9 : Sg → Option Sg) (i3 : Int32) (self22 : Int32 → Sg → Option Sg) (i20 : Int32) (s21 : Sg) : Option Sg :=
  if (s21 70 11) ≤ i20 then
    j9 s21
  else
    (aget s21 83 i20).bind fun (v23 : Int32) =>
    nm_ (fun (s24 : Sg) =>
      self22 (i20 + (nI 1)) s24) fun j25 =>
    if v23 = i3 then
      (aget s21 82 i20).bind fun (v26 : Int32) =>
      (aget s21 84 i20).bind fun (v27 : Int32) =>
      (f_X8_happen (nI 3) v26 i3 (nI 9) (nI 9) v27 s21).bind fun (s28 : Sg) =>
      j25 s28
    else
      j25 s21
def b_X8_run_66 (j7 : Sg → Option Sg) (x1 : Int32) (i3 : Int32) (self31 : Int32 → Sg → Option Sg) (i29 : Int32) (s30 : Sg) : Option Sg :=
  (f_X8_events s30).bind fun (v32 : Int32) =>
  if v32 ≤ i29 then
    j7 s30
  else
    nm_ (fun (s33 : Sg) =>
      self31 (i29 + (nI 1)) s33) fun j34 =>
    if ((x1 >>> (i29 &&& 31)) &&& (nI 1)) = (nI 1) then
      (f_X8_told i29 (nI 2) s30).bind fun (v35 : Int32) =>
      if v35 = i3 then
        (f_X8_told i29 (nI 0) s30).bind fun (v36 : Int32) =>
        (f_X8_told i29 (nI 1) s30).bind fun (v37 : Int32) =>
        (f_X8_told i29 (nI 3) s30).bind fun (v38 : Int32) =>
        (f_X8_told i29 (nI 4) s30).bind fun (v39 : Int32) =>
        (f_X8_told i29 (nI 5) s30).bind fun (v40 : Int32) =>
        (f_X8_happen v36 v37 i3 v38 v39 v40 s30).bind fun (s41 : Sg) =>
        j34 s41
      else
        j34 s30
    else
      j34 s30
def b_X8_run_58 (x1 : Int32) (self5 : Int32 → Sg → Option Sg) (i3 : Int32) (s4 : Sg) : Option Sg :=
  if (nI 24) ≤ i3 then
    some s4
  else
    nm_ (fun (s6 : Sg) =>
      nm_ (fun (s8 : Sg) =>
        nm_ (fun (s10 : Sg) =>
          self5 (i3 + (nI 1)) s10) fun j11 =>
        lp2_ (b_X8_run_184 j11 i3) fu (nI 0) s8) fun j9 =>
      lp2_ (b_X8_run_136 j9 i3) fu (nI 0) s6) fun j7 =>
    lp2_ (b_X8_run_66 j7 x1 i3) fu (nI 0) s4
def b_X8_run_2 (j2 : Sg → Option Sg) (self44 : Int32 → Sg → Option Sg) (i42 : Int32) (s43 : Sg) : Option Sg :=
  (f_X8_streets s43).bind fun (v45 : Int32) =>
  if v45 ≤ i42 then
    j2 s43
  else
    (f_X8_has i42 (nI 3) s43).bind fun (v46 : Int32) =>
    (aset s43 77 i42 v46).bind fun (s47 : Sg) =>
    (aset s47 78 i42 (nI 1)).bind fun (s48 : Sg) =>
    (aset s48 79 i42 (nI 0)).bind fun (s49 : Sg) =>
    (aset s49 80 i42 (nI 0)).bind fun (s50 : Sg) =>
    (aset s50 81 i42 (nI 0)).bind fun (s51 : Sg) =>
    self44 (i42 + (nI 1)) s51
def f_X8_run (x1 : Int32) (s : Sg) : Option Sg :=
  nm_ (fun (s1 : Sg) =>
    lp2_ (b_X8_run_58 x1) fu (nI 0) s1) fun j2 =>
  lp2_ (b_X8_run_2 j2) fu (nI 0) s
def f_X8_allEvents (s : Sg) : Option Int32 :=
  (f_X8_events s).bind fun (v1 : Int32) =>
  some (((nI 1) <<< (v1 &&& 31)) - (nI 1))
def f_X8_runAll (s : Sg) : Option Sg :=
  nm_ (sts s 70 11 (nI 0)) fun (s1 : Sg) =>
  (f_X8_allEvents s1).bind fun (v2 : Int32) =>
  (f_X8_run v2 s1).bind fun (s3 : Sg) =>
  some s3
def f_X8_nameIn (x1 : Int32) (x2 : Int32) (s : Sg) : Option Int32 :=
  (aget s 76 (((nI 7) * x2) + x1)).bind fun (v1 : Int32) =>
  (aget s 75 (((nI 7) * x2) + x1)).bind fun (v2 : Int32) =>
  some (((nI 100) * v1) + v2)
def f_X8_name (x1 : Int32) (x2 : Int32) (s : Sg) : Option (Int32 × Sg) :=
  (f_X8_isStreet x1 s).bind fun (v1 : Int32) =>
  if v1 = 0 then
    ob2 (f_X8_bad (-2 : Int32) s) fun (v2 : Int32) (s3 : Sg) =>
    some (v2, s3)
  else
    (f_X8_isHour x2 s).bind fun (v4 : Int32) =>
    if v4 = 0 then
      ob2 (f_X8_bad (-2 : Int32) s) fun (v7 : Int32) (s8 : Sg) =>
      some (v7, s8)
    else
      (f_X8_runAll s).bind fun (s5 : Sg) =>
      (f_X8_nameIn x1 x2 s5).bind fun (v6 : Int32) =>
      some (v6, s5)
def f_X8_changes (x1 : Int32) (s : Sg) : Option (Int32 × Sg) :=
  (f_X8_isStreet x1 s).bind fun (v1 : Int32) =>
  if v1 = 0 then
    ob2 (f_X8_bad (-2 : Int32) s) fun (v4 : Int32) (s5 : Sg) =>
    some (v4, s5)
  else
    (f_X8_runAll s).bind fun (s2 : Sg) =>
    (aget s2 81 x1).bind fun (v3 : Int32) =>
    some (v3, s2)
def b_X8_whichIn_5 (s : Sg) (x2 : Int32) (x1 : Int32) (self3 : Int32 → Int32 → Option Int32) (i1 : Int32) (i2 : Int32) : Option Int32 :=
  (f_X8_streets s).bind fun (v4 : Int32) =>
  if v4 ≤ i2 then
    some i1
  else
    (f_X8_nameIn i2 x2 s).bind fun (v5 : Int32) =>
    nm_ (fun (a6 : Int32) =>
      nm_ (i1 ||| a6) fun (v8 : Int32) =>
      self3 v8 (i2 + (nI 1))) fun j7 =>
    if v5 = x1 then
      j7 ((nI 1) <<< (i2 &&& 31))
    else
      j7 (nI 0)
def f_X8_whichIn (x1 : Int32) (x2 : Int32) (s : Sg) : Option Int32 :=
  lp2_ (b_X8_whichIn_5 s x2 x1) fu (nI 0) (nI 0)
def b_X8_which_40 (x3 : Int32) (s9 : Sg) (x1 : Int32) (self12 : Int32 → Int32 → Option (Int32 × Sg)) (i10 : Int32) (i11 : Int32) : Option (Int32 × Sg) :=
  if x3 < i11 then
    some (i10, s9)
  else
    (f_X8_whichIn x1 i11 s9).bind fun (v13 : Int32) =>
    nm_ (i10 ||| v13) fun (v14 : Int32) =>
    self12 v14 (i11 + (nI 1))
def f_X8_which (x1 : Int32) (x2 : Int32) (x3 : Int32) (s : Sg) : Option (Int32 × Sg) :=
  if x1 < 0 then
    ob2 (f_X8_bad (-2 : Int32) s) fun (v1 : Int32) (s2 : Sg) =>
    some (v1, s2)
  else
    (f_X8_isHour x2 s).bind fun (v3 : Int32) =>
    if v3 = 0 then
      ob2 (f_X8_bad (-2 : Int32) s) fun (v4 : Int32) (s5 : Sg) =>
      some (v4, s5)
    else
      (f_X8_isHour x3 s).bind fun (v6 : Int32) =>
      if v6 = 0 then
        ob2 (f_X8_bad (-2 : Int32) s) fun (v7 : Int32) (s8 : Sg) =>
        some (v7, s8)
      else
        if x2 ≤ x3 then
          (f_X8_runAll s).bind fun (s9 : Sg) =>
          lp2_ (b_X8_which_40 x3 s9 x1) fu (nI 0) x2
        else
          ob2 (f_X8_bad (-2 : Int32) s) fun (v15 : Int32) (s16 : Sg) =>
          some (v15, s16)
def b_X8_first_2 (x0 : Int32) (j2 : Int32 → Option Int32) (self4 : Int32 → Option Int32) (i3 : Int32) : Option Int32 :=
  if x0 ≤ 0 then
    j2 i3
  else
    if ((x0 >>> (i3 &&& 31)) &&& (nI 1)) = 0 then
      self4 (i3 + (nI 1))
    else
      j2 i3
def f_X8_first (x0 : Int32) (s : Sg) : Option Int32 :=
  nm_ (fun (a1 : Int32) =>
    if x0 = 0 then
      some (-1 : Int32)
    else
      some a1) fun j2 =>
  lp1_ (b_X8_first_2 x0 j2) fu (nI 0)
def f_X8_letter (x1 : Int32) (x2 : Int32) (x3 : Int32) (s : Sg) : Option (Int32 × Sg) :=
  (f_X8_isStreet x1 s).bind fun (v1 : Int32) =>
  if v1 = 0 then
    ob2 (f_X8_bad (-2 : Int32) s) fun (v2 : Int32) (s3 : Sg) =>
    some (v2, s3)
  else
    (f_X8_isHour x2 s).bind fun (v4 : Int32) =>
    if v4 = 0 then
      ob2 (f_X8_bad (-2 : Int32) s) fun (v5 : Int32) (s6 : Sg) =>
      some (v5, s6)
    else
      (f_X8_isHour x3 s).bind fun (v7 : Int32) =>
      if v7 = 0 then
        ob2 (f_X8_bad (-2 : Int32) s) fun (v8 : Int32) (s9 : Sg) =>
        some (v8, s9)
      else
        if x2 ≤ x3 then
          (f_X8_runAll s).bind fun (s10 : Sg) =>
          (f_X8_nameIn x1 x2 s10).bind fun (v11 : Int32) =>
          (f_X8_whichIn v11 x3 s10).bind fun (v12 : Int32) =>
          (f_X8_first v12 s10).bind fun (v13 : Int32) =>
          if v13 = (-1 : Int32) then
            some ((nI 2), s10)
          else
            if v13 = x1 then
              some ((nI 0), s10)
            else
              some ((nI 1), s10)
        else
          ob2 (f_X8_bad (-2 : Int32) s) fun (v14 : Int32) (s15 : Sg) =>
          some (v14, s15)
def f_X8_cab (x1 : Int32) (x2 : Int32) (x3 : Int32) (s : Sg) : Option (Int32 × Sg) :=
  (f_X8_isStreet x1 s).bind fun (v1 : Int32) =>
  if v1 = 0 then
    ob2 (f_X8_bad (-2 : Int32) s) fun (v2 : Int32) (s3 : Sg) =>
    some (v2, s3)
  else
    (f_X8_isHour x2 s).bind fun (v4 : Int32) =>
    if v4 = 0 then
      ob2 (f_X8_bad (-2 : Int32) s) fun (v5 : Int32) (s6 : Sg) =>
      some (v5, s6)
    else
      (f_X8_in (Int32.toInt64 x3) (0 : Int64) (23 : Int64) s).bind fun (v7 : Int32) =>
      if v7 = 0 then
        ob2 (f_X8_bad (-2 : Int32) s) fun (v14 : Int32) (s15 : Sg) =>
        some (v14, s15)
      else
        (f_X8_runAll s).bind fun (s8 : Sg) =>
        (f_X8_nameIn x1 x2 s8).bind fun (v9 : Int32) =>
        nm_ (fun (a10 : Int32) =>
          (f_X8_whichIn v9 a10 s8).bind fun (v12 : Int32) =>
          (f_X8_first v12 s8).bind fun (v13 : Int32) =>
          some (v13, s8)) fun j11 =>
        if x3 ≤ x2 then
          j11 (x2 - x3)
        else
          j11 (nI 0)
def b_X8_find_51 (s5 : Sg) (j14 : Int32 → Option (Int32 × Sg)) (i11 : Int32) (x1 : Int32) (self21 : Int32 → Int32 → Option (Int32 × Sg)) (i19 : Int32) (i20 : Int32) : Option (Int32 × Sg) :=
  (f_X8_streets s5).bind fun (v22 : Int32) =>
  if v22 ≤ i20 then
    j14 i19
  else
    (f_X8_nameIn i20 i11 s5).bind fun (v23 : Int32) =>
    (f_X8_whichIn v23 i11 s5).bind fun (v24 : Int32) =>
    (f_X8_bits (v24 &&& x1) s5).bind fun (v25 : Int32) =>
    nm_ (fun (a26 : Int32) =>
      self21 a26 (i20 + (nI 1))) fun j27 =>
    if v25 ≤ i19 then
      j27 i19
    else
      j27 v25
def b_X8_find_38 (j8 : Int32 → Int32 → Option (Int32 × Sg)) (s5 : Sg) (x1 : Int32) (self12 : Int32 → Int32 → Int32 → Option (Int32 × Sg)) (i9 : Int32) (i10 : Int32) (i11 : Int32) : Option (Int32 × Sg) :=
  if (nI 24) ≤ i11 then
    j8 i9 i10
  else
    nm_ (fun (a13 : Int32) =>
      nm_ (fun (a15 : Int32) =>
        nm_ (fun (a17 : Int32) =>
          self12 a15 a17 (i11 + (nI 1))) fun j18 =>
        if i10 ≤ a13 then
          j18 i10
        else
          j18 a13) fun j16 =>
      if i10 ≤ a13 then
        j16 i9
      else
        j16 i11) fun j14 =>
    lp2_ (b_X8_find_51 s5 j14 i11 x1) fu (nI 0) (nI 0)
def f_X8_find (x1 : Int32) (x2 : Int32) (s : Sg) : Option (Int32 × Sg) :=
  (f_X8_areStreets x1 s).bind fun (v1 : Int32) =>
  if v1 = 0 then
    ob2 (f_X8_bad (-2 : Int32) s) fun (v2 : Int32) (s3 : Sg) =>
    some (v2, s3)
  else
    (f_X8_in (Int32.toInt64 x2) (0 : Int64) (1 : Int64) s).bind fun (v4 : Int32) =>
    if v4 = 0 then
      ob2 (f_X8_bad (-2 : Int32) s) fun (v28 : Int32) (s29 : Sg) =>
      some (v28, s29)
    else
      (f_X8_runAll s).bind fun (s5 : Sg) =>
      nm_ (fun (a6 : Int32) (a7 : Int32) =>
        if x2 = 0 then
          some (a6, s5)
        else
          some (a7, s5)) fun j8 =>
      lp3_ (b_X8_find_38 j8 s5 x1) fu (nI 0) (nI 1000000) (nI 0)
def f_X8_stageOne (x1 : Int32) (x2 : Int32) (x3 : Int32) (x4 : Int32) (s : Sg) : Option Sg :=
  (aset s 82 x1 x2).bind fun (s1 : Sg) =>
  (aset s1 83 x1 x3).bind fun (s2 : Sg) =>
  (aset s2 84 x1 x4).bind fun (s3 : Sg) =>
  some s3
def f_X8_gives (x1 : Int32) (x2 : Int32) (x3 : Int32) (x4 : Int32) (x5 : Int32) (x6 : Int32) (s : Sg) : Option (Int32 × Sg) :=
  nm_ (sts s 70 11 x1) fun (s1 : Sg) =>
  (f_X8_stageOne (nI 0) x4 x2 x5 s1).bind fun (s2 : Sg) =>
  (f_X8_stageOne (nI 1) x4 x3 x5 s2).bind fun (s3 : Sg) =>
  (f_X8_allEvents s3).bind fun (v4 : Int32) =>
  (f_X8_run v4 s3).bind fun (s5 : Sg) =>
  (aget s5 75 (((nI 7) * x6) + x4)).bind fun (v6 : Int32) =>
  nm_ (fun (a7 : Int32) =>
    if a7 = 0 then
      some (a7 &&& 1, s5)
    else
      nm_ (sts s5 70 15 x1) fun (s9 : Sg) =>
      nm_ (sts s9 70 16 x2) fun (s10 : Sg) =>
      nm_ (sts s10 70 17 x3) fun (s11 : Sg) =>
      some (a7 &&& 1, s11)) fun j8 =>
  if v6 = x5 then
    j8 (nI 1)
  else
    j8 (nI 0)
def b_X8_tryStages_61 (x3 : Int32) (j10 : Sg → Option (Int32 × Sg)) (i5 : Int32) (x1 : Int32) (x2 : Int32) (self13 : Int32 → Sg → Option (Int32 × Sg)) (i11 : Int32) (s12 : Sg) : Option (Int32 × Sg) :=
  if x3 < i11 then
    j10 s12
  else
    ob2 (f_X8_gives (nI 2) i5 i11 x1 x2 x3 s12) fun (v14 : Int32) (s15 : Sg) =>
    if v14 = 0 then
      self13 (i11 + (nI 1)) s15
    else
      some ((nI 1), s15)
def b_X8_tryStages_49 (x3 : Int32) (x1 : Int32) (x2 : Int32) (self7 : Int32 → Sg → Option (Int32 × Sg)) (i5 : Int32) (s6 : Sg) : Option (Int32 × Sg) :=
  if x3 < i5 then
    some ((nI 0), s6)
  else
    nm_ (i5 + (nI 1)) fun (v8 : Int32) =>
    nm_ (fun (s9 : Sg) =>
      self7 (i5 + (nI 1)) s9) fun j10 =>
    lp2_ (b_X8_tryStages_61 x3 j10 i5 x1 x2) fu v8 s6
def b_X8_tryStages_18 (x3 : Int32) (j4 : Sg → Option (Int32 × Sg)) (x1 : Int32) (x2 : Int32) (self18 : Int32 → Sg → Option (Int32 × Sg)) (i16 : Int32) (s17 : Sg) : Option (Int32 × Sg) :=
  if x3 < i16 then
    j4 s17
  else
    ob2 (f_X8_gives (nI 1) i16 (nI 0) x1 x2 x3 s17) fun (v19 : Int32) (s20 : Sg) =>
    if v19 = 0 then
      self18 (i16 + (nI 1)) s20
    else
      some ((nI 1), s20)
def f_X8_tryStages (x1 : Int32) (x2 : Int32) (x3 : Int32) (s : Sg) : Option (Int32 × Sg) :=
  ob2 (f_X8_gives (nI 0) (nI 0) (nI 0) x1 x2 x3 s) fun (v1 : Int32) (s2 : Sg) =>
  if v1 = 0 then
    nm_ (fun (s3 : Sg) =>
      lp2_ (b_X8_tryStages_49 x3 x1 x2) fu (nI 0) s3) fun j4 =>
    lp2_ (b_X8_tryStages_18 x3 j4 x1 x2) fu (nI 0) s2
  else
    some ((nI 1), s2)
def f_X8_stage (x1 : Int32) (x2 : Int32) (x3 : Int32) (x4 : Int32) (s : Sg) : Option (Int32 × Sg) :=
  (f_X8_isStreet x1 s).bind fun (v1 : Int32) =>
  if v1 = 0 then
    ob2 (f_X8_bad (-10 : Int32) s) fun (v2 : Int32) (s3 : Sg) =>
    some (v2, s3)
  else
    (f_X8_isWord x2 s).bind fun (v4 : Int32) =>
    if v4 = 0 then
      ob2 (f_X8_bad (-10 : Int32) s) fun (v5 : Int32) (s6 : Sg) =>
      some (v5, s6)
    else
      (f_X8_isHour x3 s).bind fun (v7 : Int32) =>
      if v7 = 0 then
        ob2 (f_X8_bad (-10 : Int32) s) fun (v8 : Int32) (s9 : Sg) =>
        some (v8, s9)
      else
        if (-1 : Int32) ≤ x4 then
          ob2 (f_X8_tryStages x1 x2 x3 s) fun (v10 : Int32) (s11 : Sg) =>
          if v10 = 0 then
            some ((-1 : Int32), s11)
          else
            if x4 = (-1 : Int32) then
              some (s11 70 15, s11)
            else
              if x4 < (s11 70 15) then
                if x4 = 0 then
                  some (s11 70 16, s11)
                else
                  some (s11 70 17, s11)
              else
                some ((-5 : Int32), s11)
        else
          ob2 (f_X8_bad (-10 : Int32) s) fun (v12 : Int32) (s13 : Sg) =>
          some (v12, s13)
def b_X8_forbid_24 (x1 : Int32) (self6 : Int32 → Int32 → Sg → Option (Int32 × Sg)) (i3 : Int32) (i4 : Int32) (s5 : Sg) : Option (Int32 × Sg) :=
  (f_X8_events s5).bind fun (v7 : Int32) =>
  if ((nI 1) <<< (v7 &&& 31)) ≤ i4 then
    some (i3, s5)
  else
    nm_ (fun (a8 : Int32) (s9 : Sg) =>
      self6 a8 (i4 + (nI 1)) s9) fun j10 =>
    nm_ (fun (_ : Unit) =>
      (f_X8_allEvents s5).bind fun (v12 : Int32) =>
      (f_X8_run (v12 &&& (i4 ^^^ (-1 : Int32))) s5).bind fun (s13 : Sg) =>
      (aget s13 75 ((nI 161) + x1)).bind fun (v14 : Int32) =>
      (f_X8_has x1 (nI 3) s13).bind fun (v15 : Int32) =>
      nm_ (fun (a16 : Int32) =>
        j10 a16 s13) fun j17 =>
      if v14 = v15 then
        j17 i4
      else
        j17 i3) fun j11 =>
    if i3 = (-1 : Int32) then
      j11 ()
    else
      (f_X8_bits i4 s5).bind fun (v18 : Int32) =>
      (f_X8_bits i3 s5).bind fun (v19 : Int32) =>
      if v19 ≤ v18 then
        j10 i3 s5
      else
        j11 ()
def f_X8_forbid (x1 : Int32) (s : Sg) : Option (Int32 × Sg) :=
  (f_X8_isStreet x1 s).bind fun (v1 : Int32) =>
  if v1 = 0 then
    ob2 (f_X8_bad (-2 : Int32) s) fun (v20 : Int32) (s21 : Sg) =>
    some (v20, s21)
  else
    nm_ (sts s 70 11 (nI 0)) fun (s2 : Sg) =>
    lp3_ (b_X8_forbid_24 x1) fu (-1 : Int32) (nI 0) s2
def b_X8_rentNow_4 (s : Sg) (x1 : Int32) (self3 : Int32 → Int32 → Option Int32) (i1 : Int32) (i2 : Int32) : Option Int32 :=
  if (nI 24) ≤ i2 then
    some i1
  else
    (aget s 75 (((nI 7) * i2) + x1)).bind fun (v4 : Int32) =>
    (aget s 71 ((nI 81) + v4)).bind fun (v5 : Int32) =>
    nm_ (i1 + v5) fun (v6 : Int32) =>
    self3 v6 (i2 + (nI 1))
def f_X8_rentNow (x1 : Int32) (s : Sg) : Option Int32 :=
  lp2_ (b_X8_rentNow_4 s x1) fu (nI 0) (nI 0)
def f_X8_rents (x1 : Int32) (s : Sg) : Option (Int32 × Sg) :=
  (f_X8_isStreet x1 s).bind fun (v1 : Int32) =>
  if v1 = 0 then
    ob2 (f_X8_bad (-2 : Int32) s) fun (v4 : Int32) (s5 : Sg) =>
    some (v4, s5)
  else
    (f_X8_runAll s).bind fun (s2 : Sg) =>
    (f_X8_rentNow x1 s2).bind fun (v3 : Int32) =>
    some (v3, s2)
def b_X8_dearest_4 (s : Sg) (self3 : Int32 → Int32 → Option Int32) (i1 : Int32) (i2 : Int32) : Option Int32 :=
  if (nI 16) ≤ i2 then
    some i1
  else
    (aget s 71 ((nI 81) + i2)).bind fun (v4 : Int32) =>
    (aget s 71 ((nI 81) + i1)).bind fun (v5 : Int32) =>
    nm_ (fun (a6 : Int32) =>
      self3 a6 (i2 + (nI 1))) fun j7 =>
    if v4 ≤ v5 then
      j7 i1
    else
      j7 i2
def f_X8_dearest (s : Sg) : Option Int32 :=
  lp2_ (b_X8_dearest_4 s) fu (nI 0) (nI 1)
def b_X8_layGets_9 (x1 : Int32) (x2 : Int32) (x4 : Int32) (x3 : Int32) (v1 : Int32) (self4 : Int32 → Sg → Option Sg) (i2 : Int32) (s3 : Sg) : Option Sg :=
  if (nI 4) ≤ i2 then
    some s3
  else
    nm_ (sts s3 70 11 (nI 0)) fun (s5 : Sg) =>
    nm_ (fun (s6 : Sg) =>
      nm_ (fun (s8 : Sg) =>
        (f_X8_allEvents s8).bind fun (v10 : Int32) =>
        (f_X8_run v10 s8).bind fun (s11 : Sg) =>
        (f_X8_rentNow x1 s11).bind fun (v12 : Int32) =>
        nm_ (fun (a13 : Int32) =>
          (aset s11 85 i2 (v12 - a13)).bind fun (s15 : Sg) =>
          (f_X8_rentNow x2 s15).bind fun (v16 : Int32) =>
          nm_ (fun (a17 : Int32) =>
            (aset s15 86 i2 (v16 - a17)).bind fun (s19 : Sg) =>
            self4 (i2 + (nI 1)) s19) fun j18 =>
          if i2 ≤ (nI 1) then
            j18 (nI 0)
          else
            j18 x4) fun j14 =>
        if (i2 &&& (nI 1)) = (nI 1) then
          j14 x4
        else
          j14 (nI 0)) fun j9 =>
      if i2 ≤ (nI 1) then
        j9 s6
      else
        (f_X8_stageOne (s6 70 11) x2 x3 v1 s6).bind fun (s20 : Sg) =>
        nm_ (sts s20 70 11 ((s20 70 11) + (nI 1))) fun (s21 : Sg) =>
        j9 s21) fun j7 =>
    if (i2 &&& (nI 1)) = (nI 1) then
      (f_X8_stageOne (s5 70 11) x1 x3 v1 s5).bind fun (s22 : Sg) =>
      nm_ (sts s22 70 11 ((s22 70 11) + (nI 1))) fun (s23 : Sg) =>
      j7 s23
    else
      j7 s5
def f_X8_layGets (x1 : Int32) (x2 : Int32) (x3 : Int32) (x4 : Int32) (s : Sg) : Option Sg :=
  (f_X8_dearest s).bind fun (v1 : Int32) =>
  lp2_ (b_X8_layGets_9 x1 x2 x4 x3 v1) fu (nI 0) s
def b_X8_landlords_63 (s13 : Sg) (self16 : Int32 → Int32 → Option (Int32 × Sg)) (i14 : Int32) (i15 : Int32) : Option (Int32 × Sg) :=
  if (nI 4) ≤ i15 then
    some (i14, s13)
  else
    (aget s13 85 i15).bind fun (v17 : Int32) =>
    (aget s13 85 (i15 ^^^ (nI 1))).bind fun (v18 : Int32) =>
    nm_ (fun (a19 : Int32) =>
      nm_ (fun (a21 : Int32) =>
        nm_ (i14 ||| a21) fun (v23 : Int32) =>
        self16 v23 (i15 + (nI 1))) fun j22 =>
      if a19 = 0 then
        j22 (nI 0)
      else
        j22 ((nI 1) <<< (i15 &&& 31))) fun j20 =>
    nm_ (fun (_ : Unit) =>
      j20 (nI 0)) fun j24 =>
    if v17 < v18 then
      j24 ()
    else
      (aget s13 86 i15).bind fun (v25 : Int32) =>
      (aget s13 86 (i15 ^^^ (nI 2))).bind fun (v26 : Int32) =>
      if v25 < v26 then
        j24 ()
      else
        j20 (nI 1)
def f_X8_landlords (x1 : Int32) (x2 : Int32) (x3 : Int32) (x4 : Int32) (s : Sg) : Option (Int32 × Sg) :=
  (f_X8_isStreet x1 s).bind fun (v1 : Int32) =>
  if v1 = 0 then
    ob2 (f_X8_bad (-2 : Int32) s) fun (v2 : Int32) (s3 : Sg) =>
    some (v2, s3)
  else
    (f_X8_isStreet x2 s).bind fun (v4 : Int32) =>
    if v4 = 0 then
      ob2 (f_X8_bad (-2 : Int32) s) fun (v5 : Int32) (s6 : Sg) =>
      some (v5, s6)
    else
      if x1 = x2 then
        ob2 (f_X8_bad (-2 : Int32) s) fun (v7 : Int32) (s8 : Sg) =>
        some (v7, s8)
      else
        (f_X8_isHour x3 s).bind fun (v9 : Int32) =>
        if v9 = 0 then
          ob2 (f_X8_bad (-2 : Int32) s) fun (v10 : Int32) (s11 : Sg) =>
          some (v10, s11)
        else
          (f_X8_in (Int32.toInt64 x4) (0 : Int64) (99 : Int64) s).bind fun (v12 : Int32) =>
          if v12 = 0 then
            ob2 (f_X8_bad (-2 : Int32) s) fun (v27 : Int32) (s28 : Sg) =>
            some (v27, s28)
          else
            (f_X8_layGets x1 x2 x3 x4 s).bind fun (s13 : Sg) =>
            lp2_ (b_X8_landlords_63 s13) fu (nI 0) (nI 0)
def b_X8_goAlong_6 (x2 : Int32) (x1 : Int32) (x3 : Int32) (self4 : Int32 → Int32 → Sg → Option (Int32 × Sg)) (i1 : Int32) (i2 : Int32) (s3 : Sg) : Option (Int32 × Sg) :=
  if (nI 128) ≤ i2 then
    some (i1 &&& 1, s3)
  else
    (aget s3 87 (((nI 128) * x2) + i2)).bind fun (v5 : Int32) =>
    (f_X8_has x1 (nI 2) s3).bind fun (v6 : Int32) =>
    nm_ (v5 + v6) fun (v7 : Int32) =>
    nm_ (((nI 128) * x3) + (i2 ||| ((nI 1) <<< (x1 &&& 31)))) fun (v8 : Int32) =>
    nm_ (fun (a9 : Int32) =>
      (aget s3 87 v8).bind fun (v11 : Int32) =>
      nm_ (fun (a12 : Int32) =>
        (aset s3 87 v8 a12).bind fun (s14 : Sg) =>
        self4 a9 (i2 + (nI 1)) s14) fun j13 =>
      if v11 ≤ v7 then
        (aget s3 87 v8).bind fun (v15 : Int32) =>
        j13 v15
      else
        j13 v7) fun j10 =>
    nm_ (fun (_ : Unit) =>
      j10 (nI 1)) fun j16 =>
    if i1 = 0 then
      (aget s3 87 v8).bind fun (v17 : Int32) =>
      if v17 ≤ v7 then
        j10 (nI 0)
      else
        j16 ()
    else
      j16 ()
def f_X8_goAlong (x1 : Int32) (x2 : Int32) (x3 : Int32) (s : Sg) : Option (Int32 × Sg) :=
  lp3_ (b_X8_goAlong_6 x2 x1 x3) fu (nI 0) (nI 0) s
def b_X8_round_165 (j10 : Int32 → Option (Int32 × Sg)) (x2 : Int32) (s7 : Sg) (self13 : Int32 → Int32 → Option (Int32 × Sg)) (i11 : Int32) (i12 : Int32) : Option (Int32 × Sg) :=
  if (nI 1024) ≤ i12 then
    j10 i11
  else
    nm_ (fun (a14 : Int32) =>
      self13 a14 (i12 + (nI 1))) fun j15 =>
    nm_ (fun (_ : Unit) =>
      j15 i11) fun j16 =>
    if (i12 &&& x2) = x2 then
      (aget s7 87 i12).bind fun (v17 : Int32) =>
      if i11 ≤ v17 then
        j16 ()
      else
        (aget s7 87 i12).bind fun (v18 : Int32) =>
        j15 v18
    else
      j16 ()
def b_X8_round_74 (j24 : Int32 → Sg → Option (Int32 × Sg)) (self28 : Int32 → Int32 → Sg → Option (Int32 × Sg)) (i25 : Int32) (i26 : Int32) (s27 : Sg) : Option (Int32 × Sg) :=
  (f_X8_streets s27).bind fun (v29 : Int32) =>
  if v29 ≤ i26 then
    j24 i25 s27
  else
    (f_X8_has i26 (nI 0) s27).bind fun (v30 : Int32) =>
    (f_X8_has i26 (nI 1) s27).bind fun (v31 : Int32) =>
    ob2 (f_X8_goAlong i26 v30 v31 s27) fun (v32 : Int32) (s33 : Sg) =>
    nm_ (fun (a34 : Int32) =>
      (f_X8_has i26 (nI 1) s33).bind fun (v36 : Int32) =>
      (f_X8_has i26 (nI 0) s33).bind fun (v37 : Int32) =>
      ob2 (f_X8_goAlong i26 v36 v37 s33) fun (v38 : Int32) (s39 : Sg) =>
      nm_ (fun (a40 : Int32) =>
        self28 a40 (i26 + (nI 1)) s39) fun j41 =>
      nm_ (fun (_ : Unit) =>
        j41 (nI 1)) fun j42 =>
      if v38 = 0 then
        if a34 = 0 then
          j41 (nI 0)
        else
          j42 ()
      else
        j42 ()) fun j35 =>
    nm_ (fun (_ : Unit) =>
      j35 (nI 1)) fun j43 =>
    if v32 = 0 then
      if i25 = 0 then
        j35 (nI 0)
      else
        j43 ()
    else
      j43 ()
def b_X8_round_65 (j8 : Sg → Option (Int32 × Sg)) (self21 : Int32 → Sg → Option (Int32 × Sg)) (i19 : Int32) (s20 : Sg) : Option (Int32 × Sg) :=
  if i19 = 0 then
    j8 s20
  else
    nm_ (fun (a22 : Int32) (s23 : Sg) =>
      self21 a22 s23) fun j24 =>
    lp3_ (b_X8_round_74 j24) fu (nI 0) (nI 0) s20
def b_X8_round_29 (j6 : Sg → Option (Int32 × Sg)) (x1 : Int32) (self46 : Int32 → Sg → Option (Int32 × Sg)) (i44 : Int32) (s45 : Sg) : Option (Int32 × Sg) :=
  if (nI 1024) ≤ i44 then
    j6 s45
  else
    nm_ (fun (a47 : Int32) =>
      (aset s45 87 i44 a47).bind fun (s49 : Sg) =>
      self46 (i44 + (nI 1)) s49) fun j48 =>
    if i44 = ((nI 128) * x1) then
      j48 (nI 0)
    else
      j48 (nI 1000000)
def f_X8_round (x1 : Int32) (x2 : Int32) (s : Sg) : Option (Int32 × Sg) :=
  (f_X8_in (Int32.toInt64 x1) (0 : Int64) (7 : Int64) s).bind fun (v1 : Int32) =>
  if v1 = 0 then
    ob2 (f_X8_bad (-2 : Int32) s) fun (v2 : Int32) (s3 : Sg) =>
    some (v2, s3)
  else
    (f_X8_areStreets x2 s).bind fun (v4 : Int32) =>
    if v4 = 0 then
      ob2 (f_X8_bad (-2 : Int32) s) fun (v50 : Int32) (s51 : Sg) =>
      some (v50, s51)
    else
      nm_ (fun (s5 : Sg) =>
        nm_ (fun (s7 : Sg) =>
          nm_ (fun (a9 : Int32) =>
            if a9 = (nI 1000000) then
              some ((-1 : Int32), s7)
            else
              some (a9, s7)) fun j10 =>
          lp2_ (b_X8_round_165 j10 x2 s7) fu (nI 1000000) (nI 0)) fun j8 =>
        lp2_ (b_X8_round_65 j8) fu (nI 1) s5) fun j6 =>
      lp2_ (b_X8_round_29 j6 x1) fu (nI 0) s
def f_X8_reading (x1 : Int32) (x2 : Int32) (x3 : Int32) (s : Sg) : Option (Int32 × Sg) :=
  (f_X8_isStreet x1 s).bind fun (v1 : Int32) =>
  if v1 = 0 then
    ob2 (f_X8_bad (-2 : Int32) s) fun (v2 : Int32) (s3 : Sg) =>
    some (v2, s3)
  else
    (f_X8_isHour x2 s).bind fun (v4 : Int32) =>
    if v4 = 0 then
      ob2 (f_X8_bad (-2 : Int32) s) fun (v5 : Int32) (s6 : Sg) =>
      some (v5, s6)
    else
      (f_X8_isWord x3 s).bind fun (v7 : Int32) =>
      if v7 = 0 then
        ob2 (f_X8_bad (-2 : Int32) s) fun (v19 : Int32) (s20 : Sg) =>
        some (v19, s20)
      else
        (aget s 71 (nI 3)).bind fun (v8 : Int32) =>
        if v8 = (nI 6) then
          ob2 (f_X8_full s) fun (v17 : Int32) (s18 : Sg) =>
          some (v17, s18)
        else
          (aget s 71 (nI 3)).bind fun (v9 : Int32) =>
          nm_ ((nI 97) + ((nI 3) * v9)) fun (v10 : Int32) =>
          (aset s 71 v10 x1).bind fun (s11 : Sg) =>
          (aset s11 71 (v10 + (nI 1)) x2).bind fun (s12 : Sg) =>
          (aset s12 71 (v10 + (nI 2)) x3).bind fun (s13 : Sg) =>
          (aget s13 71 (nI 3)).bind fun (v14 : Int32) =>
          (aset s13 71 (nI 3) (v14 + (nI 1))).bind fun (s15 : Sg) =>
          (aget s15 71 (nI 3)).bind fun (v16 : Int32) =>
          some (v16 - (nI 1), s15)
def f_X8_burn (s : Sg) : Option (Int32 × Sg) :=
  (aget s 71 (nI 3)).bind fun (v1 : Int32) =>
  (aset s 71 (nI 3) (nI 0)).bind fun (s2 : Sg) =>
  some (v1, s2)
def b_X8_areRead_4 (s : Sg) (self3 : Int32 → Int32 → Option Int32) (i1 : Int32) (i2 : Int32) : Option Int32 :=
  (aget s 71 (nI 3)).bind fun (v4 : Int32) =>
  if v4 ≤ i2 then
    some (i1 &&& 1)
  else
    nm_ ((nI 97) + ((nI 3) * i2)) fun (v5 : Int32) =>
    nm_ (fun (a6 : Int32) =>
      self3 a6 (i2 + (nI 1))) fun j7 =>
    nm_ (fun (_ : Unit) =>
      j7 (nI 0)) fun j8 =>
    if i1 = 0 then
      j8 ()
    else
      (aget s 71 (v5 + (nI 1))).bind fun (v9 : Int32) =>
      (aget s 71 v5).bind fun (v10 : Int32) =>
      (aget s 75 (((nI 7) * v9) + v10)).bind fun (v11 : Int32) =>
      (aget s 71 (v5 + (nI 2))).bind fun (v12 : Int32) =>
      if v11 = v12 then
        j7 (nI 1)
      else
        j8 ()
def f_X8_areRead (s : Sg) : Option Int32 :=
  lp2_ (b_X8_areRead_4 s) fu (nI 1) (nI 0)
def b_X8_truly_32 (j7 : Int32 → Int32 → Sg → Option (Int32 × Sg)) (self12 : Int32 → Int32 → Int32 → Sg → Option (Int32 × Sg)) (i8 : Int32) (i9 : Int32) (i10 : Int32) (s11 : Sg) : Option (Int32 × Sg) :=
  (f_X8_events s11).bind fun (v13 : Int32) =>
  if ((nI 1) <<< (v13 &&& 31)) ≤ i10 then
    j7 i8 i9 s11
  else
    (f_X8_run i10 s11).bind fun (s14 : Sg) =>
    (f_X8_areRead s14).bind fun (v15 : Int32) =>
    nm_ (fun (a16 : Int32) =>
      nm_ (i8 + a16) fun (v18 : Int32) =>
      nm_ (fun (a19 : Int32) =>
        nm_ (i9 &&& a19) fun (v21 : Int32) =>
        self12 v18 v21 (i10 + (nI 1)) s14) fun j20 =>
      if v15 = 0 then
        j20 (-1 : Int32)
      else
        j20 i10) fun j17 =>
    if v15 = 0 then
      j17 (nI 0)
    else
      j17 (nI 1)
def f_X8_truly (x1 : Int32) (s : Sg) : Option (Int32 × Sg) :=
  (f_X8_in (Int32.toInt64 x1) (0 : Int64) (1 : Int64) s).bind fun (v1 : Int32) =>
  if v1 = 0 then
    ob2 (f_X8_bad (-10 : Int32) s) fun (v22 : Int32) (s23 : Sg) =>
    some (v22, s23)
  else
    (f_X8_allEvents s).bind fun (v2 : Int32) =>
    nm_ (sts s 70 11 (nI 0)) fun (s3 : Sg) =>
    nm_ (fun (a4 : Int32) (a5 : Int32) (s6 : Sg) =>
      if x1 = 0 then
        some (a4, s6)
      else
        if a4 = 0 then
          some ((-1 : Int32), s6)
        else
          some (a5, s6)) fun j7 =>
    lp4_ (b_X8_truly_32 j7) fu (nI 0) v2 (nI 0) s3
def b_X8_drawn_139 (s18 : Sg) (j20 : Int32 → Option (Int32 × Sg)) (self23 : Int32 → Int32 → Option (Int32 × Sg)) (i21 : Int32) (i22 : Int32) : Option (Int32 × Sg) :=
  (f_X8_streets s18).bind fun (v24 : Int32) =>
  if v24 ≤ i22 then
    j20 i21
  else
    (aget s18 81 i22).bind fun (v25 : Int32) =>
    nm_ (i21 + v25) fun (v26 : Int32) =>
    self23 v26 (i22 + (nI 1))
def b_X8_drawn_70 (s13 : Sg) (j17 : Int64 → Int32 → Option (Int32 × Sg)) (x3 : Int32) (self30 : Int64 → Int32 → Int32 → Option (Int32 × Sg)) (i27 : Int64) (i28 : Int32) (i29 : Int32) : Option (Int32 × Sg) :=
  (f_X8_events s13).bind fun (v31 : Int32) =>
  if v31 ≤ i29 then
    j17 i27 i28
  else
    nm_ (((i27 * (1103515245 : Int64)) + (12345 : Int64)) - ((i27 * (1103515245 : Int64)) + (12345 : Int64)) / (2147483648 : Int64) * (2147483648 : Int64)) fun (v32 : Int64) =>
    nm_ (fun (a33 : Int32) =>
      nm_ (i28 ||| a33) fun (v35 : Int32) =>
      self30 v32 v35 (i29 + (nI 1))) fun j34 =>
    if 0 ≤ (lg_cmp ((v32 / (65536 : Int64)) - (v32 / (65536 : Int64)) / (100 : Int64) * (100 : Int64)) (Int32.toInt64 x3)) then
      j34 (nI 0)
    else
      j34 ((nI 1) <<< (i29 &&& 31))
def b_X8_drawn_58 (x2 : Int32) (x3 : Int32) (self14 : Int64 → Int32 → Int32 → Sg → Option (Int32 × Sg)) (i10 : Int64) (i11 : Int32) (i12 : Int32) (s13 : Sg) : Option (Int32 × Sg) :=
  if x2 ≤ i12 then
    some (i11, s13)
  else
    nm_ (fun (a15 : Int64) (a16 : Int32) =>
      (f_X8_run a16 s13).bind fun (s18 : Sg) =>
      nm_ (fun (a19 : Int32) =>
        self14 a15 a19 (i12 + (nI 1)) s18) fun j20 =>
      lp2_ (b_X8_drawn_139 s18 j20) fu i11 (nI 0)) fun j17 =>
    lp3_ (b_X8_drawn_70 s13 j17 x3) fu i10 (nI 0) (nI 0)
def f_X8_drawn (x1 : Int32) (x2 : Int32) (x3 : Int32) (s : Sg) : Option (Int32 × Sg) :=
  (f_X8_in (Int32.toInt64 x1) (0 : Int64) (999999 : Int64) s).bind fun (v1 : Int32) =>
  if v1 = 0 then
    ob2 (f_X8_bad (-2 : Int32) s) fun (v2 : Int32) (s3 : Sg) =>
    some (v2, s3)
  else
    (f_X8_in (Int32.toInt64 x2) (0 : Int64) (30 : Int64) s).bind fun (v4 : Int32) =>
    if v4 = 0 then
      ob2 (f_X8_bad (-2 : Int32) s) fun (v5 : Int32) (s6 : Sg) =>
      some (v5, s6)
    else
      (f_X8_in (Int32.toInt64 x3) (0 : Int64) (100 : Int64) s).bind fun (v7 : Int32) =>
      if v7 = 0 then
        ob2 (f_X8_bad (-2 : Int32) s) fun (v36 : Int32) (s37 : Sg) =>
        some (v36, s37)
      else
        nm_ (Int32.toInt64 x1) fun (v8 : Int64) =>
        nm_ (sts s 70 11 (nI 0)) fun (s9 : Sg) =>
        lp4_ (b_X8_drawn_58 x2 x3) fu v8 (nI 0) (nI 0) s9
def f_X8_type (x1 : Int32) (s : Sg) : Option (Int32 × Sg) :=
  (f_X8_in (Int32.toInt64 x1) (0 : Int64) (127 : Int64) s).bind fun (v1 : Int32) =>
  if v1 = 0 then
    ob2 (f_X8_bad (-2 : Int32) s) fun (v6 : Int32) (s7 : Sg) =>
    some (v6, s7)
  else
    if (s 70 22) = (nI 150) then
      ob2 (f_X8_full s) fun (v4 : Int32) (s5 : Sg) =>
      some (v4, s5)
    else
      (aset s 88 (s 70 22) x1).bind fun (s2 : Sg) =>
      nm_ (sts s2 70 22 ((s2 70 22) + (nI 1))) fun (s3 : Sg) =>
      some (s3 70 22, s3)
def f_X8_clear (s : Sg) : Option (Int32 × Sg) :=
  nm_ (s 70 22) fun (v1 : Int32) =>
  nm_ (sts s 70 22 (nI 0)) fun (s2 : Sg) =>
  some (v1, s2)
def f_X8_isSmall (x0 : Int32) (s : Sg) : Option Int32 :=
  (f_X8_in (Int32.toInt64 x0) (97 : Int64) (122 : Int64) s).bind fun (v1 : Int32) =>
  some (v1 &&& 1)
def f_X8_isFigure (x0 : Int32) (s : Sg) : Option Int32 :=
  (f_X8_in (Int32.toInt64 x0) (48 : Int64) (57 : Int64) s).bind fun (v1 : Int32) =>
  some (v1 &&& 1)
def b_X8_look_218 (j18 : Sg → Option Sg) (self24 : Int32 → Sg → Option Sg) (i22 : Int32) (s23 : Sg) : Option Sg :=
  if (s23 70 24) ≤ i22 then
    j18 s23
  else
    if (nI 2) ≤ i22 then
      j18 s23
    else
      if (s23 70 25) = (nI 2) then
        (aget s23 88 ((s23 70 23) + i22)).bind fun (v25 : Int32) =>
        nm_ (sts s23 70 26 ((((nI 10) * (s23 70 26)) + v25) - (nI 48))) fun (s26 : Sg) =>
        self24 (i22 + (nI 1)) s26
      else
        j18 s23
def b_X8_look_136 (j16 : Sg → Option Sg) (self29 : Int32 → Sg → Option Sg) (i27 : Int32) (s28 : Sg) : Option Sg :=
  if i27 = 0 then
    j16 s28
  else
    if (s28 70 22) ≤ ((s28 70 23) + (s28 70 24)) then
      j16 s28
    else
      (aget s28 88 ((s28 70 23) + (s28 70 24))).bind fun (v30 : Int32) =>
      nm_ (fun (a31 : Int32) =>
        nm_ (fun (a33 : Int32) =>
          nm_ (sts s28 70 24 ((s28 70 24) + a33)) fun (s35 : Sg) =>
          self29 a31 s35) fun j34 =>
        if a31 = 0 then
          j34 (nI 0)
        else
          j34 (nI 1)) fun j32 =>
      if (s28 70 25) = (nI 1) then
        (f_X8_isSmall v30 s28).bind fun (v37 : Int32) =>
        j32 v37
      else
        (f_X8_isFigure v30 s28).bind fun (v36 : Int32) =>
        j32 v36
def b_X8_look_5 (j3 : Sg → Option Sg) (self40 : Sg → Option Sg) (s39 : Sg) : Option Sg :=
  if (s39 70 22) ≤ (s39 70 23) then
    j3 s39
  else
    (aget s39 88 (s39 70 23)).bind fun (v41 : Int32) =>
    if v41 = (nI 32) then
      nm_ (sts s39 70 23 ((s39 70 23) + (nI 1))) fun (s42 : Sg) =>
      self40 s42
    else
      j3 s39
def f_X8_look (x1 : Int32) (s : Sg) : Option Sg :=
  nm_ (sts s 70 23 x1) fun (s1 : Sg) =>
  nm_ (fun (s2 : Sg) =>
    nm_ (sts s2 70 24 (nI 0)) fun (s4 : Sg) =>
    nm_ (sts s4 70 25 (nI 0)) fun (s5 : Sg) =>
    nm_ (sts s5 70 26 (nI 0)) fun (s6 : Sg) =>
    if (s6 70 23) = (s6 70 22) then
      some s6
    else
      (aget s6 88 (s6 70 23)).bind fun (v7 : Int32) =>
      (f_X8_isSmall v7 s6).bind fun (v8 : Int32) =>
      nm_ (fun (a9 : Int32) =>
        nm_ (sts s6 70 25 a9) fun (s11 : Sg) =>
        nm_ (sts s11 70 24 (nI 1)) fun (s12 : Sg) =>
        nm_ (fun (a13 : Int32) =>
          nm_ (fun (s15 : Sg) =>
            nm_ (fun (s17 : Sg) =>
              if (s17 70 25) = (nI 2) then
                if (s17 70 24) ≤ (nI 2) then
                  nm_ (sts s17 70 25 (s17 70 25)) fun (s20 : Sg) =>
                  some s20
                else
                  nm_ (sts s17 70 25 (nI 4)) fun (s21 : Sg) =>
                  some s21
              else
                nm_ (sts s17 70 25 (s17 70 25)) fun (s19 : Sg) =>
                some s19) fun j18 =>
            lp2_ (b_X8_look_218 j18) fu (nI 0) s15) fun j16 =>
          lp2_ (b_X8_look_136 j16) fu a13 s12) fun j14 =>
        if (nI 3) ≤ (s12 70 25) then
          j14 (nI 0)
        else
          j14 (nI 1)) fun j10 =>
      if v8 = 0 then
        (f_X8_isFigure v7 s6).bind fun (v38 : Int32) =>
        if v38 = 0 then
          if v7 = (nI 59) then
            j10 (nI 3)
          else
            j10 (nI 4)
        else
          j10 (nI 2)
      else
        j10 (nI 1)) fun j3 =>
  lp1_ (b_X8_look_5 j3) fu s1
def f_X8_goOn (s : Sg) : Option Sg :=
  (f_X8_look ((s 70 23) + (s 70 24)) s).bind fun (s1 : Sg) =>
  some s1
def b_X8_isCalled_26 (x1 : Int32) (s : Sg) (x2 : Int32) (x3 : Int32) (x4 : Int32) (x5 : Int32) (x6 : Int32) (x7 : Int32) (self5 : Int32 → Int32 → Option Int32) (i3 : Int32) (i4 : Int32) : Option Int32 :=
  if x1 ≤ i4 then
    some (i3 &&& 1)
  else
    if i3 = 0 then
      some (i3 &&& 1)
    else
      (aget s 88 ((s 70 23) + i4)).bind fun (v6 : Int32) =>
      nm_ (fun (a7 : Int32) =>
        nm_ (fun (a9 : Int32) =>
          self5 a9 (i4 + (nI 1))) fun j10 =>
        if v6 = a7 then
          j10 (nI 1)
        else
          j10 (nI 0)) fun j8 =>
      if i4 = 0 then
        j8 x2
      else
        if i4 = (nI 1) then
          j8 x3
        else
          if i4 = (nI 2) then
            j8 x4
          else
            if i4 = (nI 3) then
              j8 x5
            else
              if i4 = (nI 4) then
                j8 x6
              else
                j8 x7
def f_X8_isCalled (x1 : Int32) (x2 : Int32) (x3 : Int32) (x4 : Int32) (x5 : Int32) (x6 : Int32) (x7 : Int32) (s : Sg) : Option Int32 :=
  nm_ (fun (a1 : Int32) =>
    lp2_ (b_X8_isCalled_26 x1 s x2 x3 x4 x5 x6 x7) fu a1 (nI 0)) fun j2 =>
  nm_ (fun (_ : Unit) =>
    j2 (nI 0)) fun j11 =>
  if (s 70 25) = (nI 1) then
    if (s 70 24) = x1 then
      j2 (nI 1)
    else
      j11 ()
  else
    j11 ()
def f_X8_takes (x1 : Int32) (x2 : Int32) (x3 : Int32) (s : Sg) : Option (Int32 × Sg) :=
  if (s 70 25) = (nI 2) then
    (f_X8_in (Int32.toInt64 (s 70 26)) (Int32.toInt64 x2) (Int32.toInt64 x3) s).bind fun (v1 : Int32) =>
    if v1 = 0 then
      some ((nI 0), s)
    else
      (aset s 90 x1 (s 70 26)).bind fun (s2 : Sg) =>
      (f_X8_goOn s2).bind fun (s3 : Sg) =>
      some ((nI 1), s3)
  else
    some ((nI 0), s)
def f_X8_readsFirst (s : Sg) : Option (Int32 × Sg) :=
  (f_X8_isCalled (nI 4) (nI 116) (nI 111) (nI 119) (nI 110) (nI 0) (nI 0) s).bind fun (v1 : Int32) =>
  if v1 = 0 then
    some ((nI 0), s)
  else
    (f_X8_goOn s).bind fun (s2 : Sg) =>
    ob2 (f_X8_takes (nI 0) (nI 0) (nI 2) s2) fun (v3 : Int32) (s4 : Sg) =>
    nm_ (fun (a5 : Int32) =>
      (f_X8_begin 89 a5 s4).bind fun (s7 : Sg) =>
      if v3 = 0 then
        some ((nI 0), s7)
      else
        if (s7 70 25) = (nI 3) then
          some ((nI 1), s7)
        else
          some ((nI 0), s7)) fun j6 =>
    if v3 = 0 then
      j6 (nI 0)
    else
      (aget s4 90 (nI 0)).bind fun (v8 : Int32) =>
      j6 v8
def f_X8_readsStreet (s : Sg) : Option (Int32 × Sg) :=
  (aget s 89 (nI 0)).bind fun (v1 : Int32) =>
  if v1 = (nI 7) then
    some ((nI 0), s)
  else
    (f_X8_goOn s).bind fun (s2 : Sg) =>
    ob2 (f_X8_takes (nI 0) (nI 0) (nI 7) s2) fun (v3 : Int32) (s4 : Sg) =>
    if v3 = 0 then
      some ((nI 0), s4)
    else
      nm_ (fun (_ : Unit) =>
        ob2 (f_X8_takes (nI 1) (nI 0) (nI 7) s4) fun (v6 : Int32) (s7 : Sg) =>
        if v6 = 0 then
          some ((nI 0), s7)
        else
          ob2 (f_X8_takes (nI 2) (nI 1) (nI 9) s7) fun (v8 : Int32) (s9 : Sg) =>
          if v8 = 0 then
            some ((nI 0), s9)
          else
            ob2 (f_X8_takes (nI 3) (nI 0) (nI 15) s9) fun (v10 : Int32) (s11 : Sg) =>
            if v10 = 0 then
              some ((nI 0), s11)
            else
              (aget s11 90 (nI 0)).bind fun (v12 : Int32) =>
              (aget s11 90 (nI 1)).bind fun (v13 : Int32) =>
              (aget s11 90 (nI 2)).bind fun (v14 : Int32) =>
              (aget s11 90 (nI 3)).bind fun (v15 : Int32) =>
              (f_X8_layStreet 89 v12 v13 v14 v15 s11).bind fun (s16 : Sg) =>
              some ((nI 1), s16)) fun j5 =>
      if (s4 70 25) = (nI 2) then
        (aget s4 90 (nI 0)).bind fun (v17 : Int32) =>
        if (s4 70 26) = v17 then
          some ((nI 0), s4)
        else
          j5 ()
      else
        j5 ()
def f_X8_readsEvent (s : Sg) : Option (Int32 × Sg) :=
  (aget s 89 (nI 1)).bind fun (v1 : Int32) =>
  if v1 = (nI 8) then
    some ((nI 0), s)
  else
    (f_X8_goOn s).bind fun (s2 : Sg) =>
    ob2 (f_X8_takes (nI 0) (nI 0) (nI 5) s2) fun (v3 : Int32) (s4 : Sg) =>
    if v3 = 0 then
      some ((nI 0), s4)
    else
      (aget s4 89 (nI 0)).bind fun (v5 : Int32) =>
      ob2 (f_X8_takes (nI 1) (nI 0) (v5 - (nI 1)) s4) fun (v6 : Int32) (s7 : Sg) =>
      if v6 = 0 then
        some ((nI 0), s7)
      else
        ob2 (f_X8_takes (nI 2) (nI 0) (nI 23) s7) fun (v8 : Int32) (s9 : Sg) =>
        if v8 = 0 then
          some ((nI 0), s9)
        else
          ob2 (f_X8_takes (nI 3) (nI 0) (nI 9) s9) fun (v10 : Int32) (s11 : Sg) =>
          if v10 = 0 then
            some ((nI 0), s11)
          else
            ob2 (f_X8_takes (nI 4) (nI 0) (nI 9) s11) fun (v12 : Int32) (s13 : Sg) =>
            if v12 = 0 then
              some ((nI 0), s13)
            else
              ob2 (f_X8_takes (nI 5) (nI 0) (nI 15) s13) fun (v14 : Int32) (s15 : Sg) =>
              if v14 = 0 then
                some ((nI 0), s15)
              else
                (aget s15 90 (nI 0)).bind fun (v16 : Int32) =>
                (aget s15 90 (nI 1)).bind fun (v17 : Int32) =>
                (aget s15 90 (nI 2)).bind fun (v18 : Int32) =>
                (aget s15 90 (nI 3)).bind fun (v19 : Int32) =>
                (aget s15 90 (nI 4)).bind fun (v20 : Int32) =>
                (aget s15 90 (nI 5)).bind fun (v21 : Int32) =>
                (f_X8_layEvent 89 v16 v17 v18 v19 v20 v21 s15).bind fun (s22 : Sg) =>
                some ((nI 1), s22)
def f_X8_readsRent (s : Sg) : Option (Int32 × Sg) :=
  (f_X8_goOn s).bind fun (s1 : Sg) =>
  ob2 (f_X8_takes (nI 0) (nI 0) (nI 15) s1) fun (v2 : Int32) (s3 : Sg) =>
  if v2 = 0 then
    some ((nI 0), s3)
  else
    ob2 (f_X8_takes (nI 1) (nI 0) (nI 99) s3) fun (v4 : Int32) (s5 : Sg) =>
    if v4 = 0 then
      some ((nI 0), s5)
    else
      (aget s5 90 (nI 0)).bind fun (v6 : Int32) =>
      (aget s5 90 (nI 1)).bind fun (v7 : Int32) =>
      (aset s5 89 ((nI 81) + v6) v7).bind fun (s8 : Sg) =>
      some ((nI 1), s8)
def f_X8_readsItem (s : Sg) : Option (Int32 × Sg) :=
  (f_X8_isCalled (nI 6) (nI 115) (nI 116) (nI 114) (nI 101) (nI 101) (nI 116) s).bind fun (v1 : Int32) =>
  if v1 = 0 then
    (f_X8_isCalled (nI 5) (nI 101) (nI 118) (nI 101) (nI 110) (nI 116) (nI 0) s).bind fun (v2 : Int32) =>
    if v2 = 0 then
      (f_X8_isCalled (nI 4) (nI 114) (nI 101) (nI 110) (nI 116) (nI 0) (nI 0) s).bind fun (v3 : Int32) =>
      if v3 = 0 then
        some ((nI 0), s)
      else
        ob2 (f_X8_readsRent s) fun (v4 : Int32) (s5 : Sg) =>
        if v4 = 0 then
          some ((nI 0), s5)
        else
          some ((nI 1), s5)
    else
      ob2 (f_X8_readsEvent s) fun (v6 : Int32) (s7 : Sg) =>
      some (v6 &&& 1, s7)
  else
    ob2 (f_X8_readsStreet s) fun (v8 : Int32) (s9 : Sg) =>
    some (v8 &&& 1, s9)
def b_X8_read_68 (a5 : Int32) (self10 : Int32 → Sg → Option (Int32 × Sg)) (i8 : Int32) (s9 : Sg) : Option (Int32 × Sg) :=
  if (nI 115) ≤ i8 then
    some (a5, s9)
  else
    (aget s9 89 i8).bind fun (v11 : Int32) =>
    (aset s9 71 i8 v11).bind fun (s12 : Sg) =>
    self10 (i8 + (nI 1)) s12
def b_X8_read_26 (j7 : Int32 → Sg → Option (Int32 × Sg)) (self15 : Int32 → Sg → Option (Int32 × Sg)) (i13 : Int32) (s14 : Sg) : Option (Int32 × Sg) :=
  if (s14 70 25) = 0 then
    j7 i13 s14
  else
    ob2 (f_X8_readsItem s14) fun (v16 : Int32) (s17 : Sg) =>
    if v16 = 0 then
      some ((-10 : Int32) - (s17 70 23), s17)
    else
      if (s17 70 25) = (nI 3) then
        (f_X8_goOn s17).bind fun (s18 : Sg) =>
        self15 (i13 + (nI 1)) s18
      else
        some ((-10 : Int32) - (s17 70 23), s17)
def f_X8_read (s : Sg) : Option (Int32 × Sg) :=
  (f_X8_look (nI 0) s).bind fun (s1 : Sg) =>
  ob2 (f_X8_readsFirst s1) fun (v2 : Int32) (s3 : Sg) =>
  if v2 = 0 then
    some ((-10 : Int32) - (s3 70 23), s3)
  else
    (f_X8_goOn s3).bind fun (s4 : Sg) =>
    nm_ (fun (a5 : Int32) (s6 : Sg) =>
      lp2_ (b_X8_read_68 a5) fu (nI 0) s6) fun j7 =>
    lp2_ (b_X8_read_26 j7) fu (nI 1) s4
def b_X8_image_19 (j3 : Sg → Option (Int32 × Sg)) (x1 : Int32) (self7 : Int32 → Sg → Option (Int32 × Sg)) (i5 : Int32) (s6 : Sg) : Option (Int32 × Sg) :=
  if (nI 515) ≤ i5 then
    j3 s6
  else
    (aget s6 71 i5).bind fun (v8 : Int32) =>
    (aset s6 72 (((nI 515) * x1) + i5) v8).bind fun (s9 : Sg) =>
    self7 (i5 + (nI 1)) s9
def f_X8_image (x1 : Int32) (s : Sg) : Option (Int32 × Sg) :=
  (f_X8_in (Int32.toInt64 x1) (0 : Int64) (1 : Int64) s).bind fun (v1 : Int32) =>
  if v1 = 0 then
    ob2 (f_X8_bad (-2 : Int32) s) fun (v10 : Int32) (s11 : Sg) =>
    some (v10, s11)
  else
    nm_ (fun (s2 : Sg) =>
      (zset s2 73 x1 (nI 1)).bind fun (s4 : Sg) =>
      some ((nI 1), s4)) fun j3 =>
    lp2_ (b_X8_image_19 j3 x1) fu (nI 0) s
def b_X8_from_33 (x1 : Int32) (self5 : Int32 → Sg → Option (Int32 × Sg)) (i3 : Int32) (s4 : Sg) : Option (Int32 × Sg) :=
  if (nI 515) ≤ i3 then
    some ((nI 1), s4)
  else
    (aget s4 72 (((nI 515) * x1) + i3)).bind fun (v6 : Int32) =>
    (aset s4 71 i3 v6).bind fun (s7 : Sg) =>
    self5 (i3 + (nI 1)) s7
def f_X8_from (x1 : Int32) (s : Sg) : Option (Int32 × Sg) :=
  (f_X8_in (Int32.toInt64 x1) (0 : Int64) (1 : Int64) s).bind fun (v1 : Int32) =>
  if v1 = 0 then
    ob2 (f_X8_bad (-2 : Int32) s) fun (v10 : Int32) (s11 : Sg) =>
    some (v10, s11)
  else
    (aget s 73 x1).bind fun (v2 : Int32) =>
    if v2 = 0 then
      ob2 (f_X8_no s) fun (v8 : Int32) (s9 : Sg) =>
      some (v8, s9)
    else
      lp2_ (b_X8_from_33 x1) fu (nI 0) s
def f_X8_status (x1 : Int32) (s : Sg) : Option (Int32 × Sg) :=
  (f_X8_in (Int32.toInt64 x1) (0 : Int64) (2 : Int64) s).bind fun (v1 : Int32) =>
  if v1 = 0 then
    ob2 (f_X8_bad (-1 : Int32) s) fun (v2 : Int32) (s3 : Sg) =>
    some (v2, s3)
  else
    (aget s 74 x1).bind fun (v4 : Int32) =>
    some (v4, s)
def f_X8_counted (x1 : Int32) (s : Sg) : Option Int32 :=
  if (nI 5) ≤ x1 then
    some (s 70 22)
  else
    (aget s 71 x1).bind fun (v1 : Int32) =>
    some v1
def f_X8_count (x1 : Int32) (s : Sg) : Option (Int32 × Sg) :=
  (f_X8_in (Int32.toInt64 x1) (0 : Int64) (5 : Int64) s).bind fun (v1 : Int32) =>
  if v1 = 0 then
    ob2 (f_X8_bad (-2 : Int32) s) fun (v2 : Int32) (s3 : Sg) =>
    some (v2, s3)
  else
    (f_X8_counted x1 s).bind fun (v4 : Int32) =>
    some (v4, s)
def b_X8_sums_6 (x4 : Int32) (s : Sg) (x3 : Int32) (self3 : Int64 → Int32 → Option Int64) (i1 : Int64) (i2 : Int32) : Option Int64 :=
  if x4 ≤ i2 then
    some i1
  else
    (aget s 71 (x3 + i2)).bind fun (v4 : Int32) =>
    nm_ (((31 : Int64) * i1) + (Int32.toInt64 v4)) fun (v5 : Int64) =>
    self3 v5 (i2 + (nI 1))
def f_X8_sums (x1 : Int64) (x3 : Int32) (x4 : Int32) (s : Sg) : Option Int64 :=
  lp2_ (b_X8_sums_6 x4 s x3) fu x1 (nI 0)
def b_X8_digest_6 (j2 : Int64 → Option Int64) (s : Sg) (self12 : Int64 → Int32 → Option Int64) (i10 : Int64) (i11 : Int32) : Option Int64 :=
  if (nI 6) ≤ i11 then
    j2 i10
  else
    (f_X8_counted i11 s).bind fun (v13 : Int32) =>
    nm_ (((31 : Int64) * i10) + (Int32.toInt64 v13)) fun (v14 : Int64) =>
    self12 v14 (i11 + (nI 1))
def f_X8_digest (s : Sg) : Option Int64 :=
  nm_ (fun (a1 : Int64) =>
    (f_X8_streets s).bind fun (v3 : Int32) =>
    (f_X8_sums a1 (nI 5) ((nI 4) * v3) s).bind fun (v4 : Int64) =>
    (f_X8_events s).bind fun (v5 : Int32) =>
    (f_X8_sums v4 (nI 33) ((nI 6) * v5) s).bind fun (v6 : Int64) =>
    (f_X8_sums v6 (nI 81) (nI 16) s).bind fun (v7 : Int64) =>
    (aget s 71 (nI 3)).bind fun (v8 : Int32) =>
    (f_X8_sums v7 (nI 97) ((nI 3) * v8) s).bind fun (v9 : Int64) =>
    some v9) fun j2 =>
  lp2_ (b_X8_digest_6 j2 s) fu (911 : Int64) (nI 0)
