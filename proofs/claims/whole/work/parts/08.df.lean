def f_S_length (j : Nat) (w : Wd) : Option (Int32 × Wd) := if j < 5 then some (nI (lenS.getD j 0), w) else none
def f_S_charAt (j : Nat) (i : Int32) (w : Wd) : Option (Int32 × Wd) := if j < 5 ∧ 0 ≤ i ∧ i.toNatClampNeg < lenS.getD j 0 then some ((bytS.getD j []).getD i.toNatClampNeg 0, w) else none
def f_X0_addGuess (p0 : Nat) (p1 : Int32) (p2 : Int32) (w : Wd) : Option (Unit × Wd) :=
  gI w p0 0 6 fun x1 =>
  if x1 < (6 : Int32) then
    gR w p0 0 1 fun r2 =>
    gI w p0 0 6 fun x3 =>
    aI w r2 14 x3 p1 fun w4 =>
    gR w4 p0 0 2 fun r5 =>
    gI w4 p0 0 6 fun x6 =>
    aI w4 r5 14 x6 p2 fun w7 =>
    gI w7 p0 0 6 fun x8 =>
    pI w7 p0 0 6 (x8 + (1 : Int32)) fun w9 =>
    some ((), w9)
  else
    some ((), w)
def f_X0_addNote (p0 : Nat) (p1 : Int32) (p2 : Int32) (p3 : Int32) (p4 : Int32) (w : Wd) : Option (Unit × Wd) :=
  gI w p0 0 7 fun x1 =>
  if x1 < (6 : Int32) then
    gI w p0 0 7 fun x2 =>
    nm ((x2 * (4 : Int32))) fun x3 =>
    gR w p0 0 3 fun r4 =>
    aI w r4 14 x3 p1 fun w5 =>
    gR w5 p0 0 3 fun r6 =>
    aI w5 r6 14 (x3 + (1 : Int32)) p2 fun w7 =>
    gR w7 p0 0 3 fun r8 =>
    aI w7 r8 14 (x3 + (2 : Int32)) p3 fun w9 =>
    gR w9 p0 0 3 fun r10 =>
    aI w9 r10 14 (x3 + (3 : Int32)) p4 fun w11 =>
    gI w11 p0 0 7 fun x12 =>
    pI w11 p0 0 7 (x12 + (1 : Int32)) fun w13 =>
    some ((), w13)
  else
    some ((), w)
def f_X0_copyFrom (p0 : Nat) (p1 : Nat) (w : Wd) : Option (Unit × Wd) :=
  gI w p1 0 6 fun x1 =>
  pI w p0 0 6 x1 fun w2 =>
  gI w2 p1 0 7 fun x3 =>
  pI w2 p0 0 7 x3 fun w4 =>
  gR w4 p1 0 1 fun r5 =>
  gR w4 p0 0 1 fun r6 =>
  cpI w4 r5 (0 : Int32) r6 (0 : Int32) (6 : Int32) fun w7 =>
  gR w7 p1 0 2 fun r8 =>
  gR w7 p0 0 2 fun r9 =>
  cpI w7 r8 (0 : Int32) r9 (0 : Int32) (6 : Int32) fun w10 =>
  gR w10 p1 0 3 fun r11 =>
  gR w10 p0 0 3 fun r12 =>
  cpI w10 r11 (0 : Int32) r12 (0 : Int32) (24 : Int32) fun w13 =>
  some ((), w13)
def f_X6_ground (p0 : Nat) (p1 : Int32) (p2 : Int32) (p3 : Int32) (w : Wd) : Option (Int32 × Wd) :=
  some (p1, w)
def f_X3_ground (p0 : Nat) (p1 : Int32) (p2 : Int32) (p3 : Int32) (w : Wd) : Option (Int32 × Wd) :=
  calO w p0 (f_X6_ground p0 p1 p2 p3 w) fun x2 w1 =>
  some ((x2 + (irm p2 (4 : Int32))), w1)
def f_X4_ground (p0 : Nat) (p1 : Int32) (p2 : Int32) (p3 : Int32) (w : Wd) : Option (Int32 × Wd) :=
  some ((0 : Int32), w)
def f_X9_ground_25 (s0 : Int32) (w : Wd) : Option (Int32 × Wd) :=
  some (s0, w)
def f_X9_ground (p0 : Nat) (p1 : Int32) (p2 : Int32) (p3 : Int32) (w : Wd) : Option (Int32 × Wd) :=
  calO w p0 (f_X6_ground p0 p1 p2 p3 w) fun x2 w1 =>
  if p3 < (5 : Int32) then
    f_X9_ground_25 x2 w1
  else
    f_X9_ground_25 (((x2 + (1 : Int32)) / (2 : Int32))) w1
def f_X8_ground (p0 : Nat) (p1 : Int32) (p2 : Int32) (p3 : Int32) (w : Wd) : Option (Int32 × Wd) :=
  calO w p0 (f_X9_ground p0 p1 p2 p3 w) fun x2 w1 =>
  some ((x2 + (1 : Int32)), w1)
def u_ground (a : Nat) (x0 x1 x2 : Int32) (w : Wd) : Option (Int32 × Wd) := if isO w a 3 then f_X3_ground a x0 x1 x2 w else if isO w a 4 then f_X4_ground a x0 x1 x2 w else if isO w a 5 then f_X6_ground a x0 x1 x2 w else if isO w a 6 then f_X6_ground a x0 x1 x2 w else if isO w a 8 then f_X8_ground a x0 x1 x2 w else if isO w a 9 then f_X9_ground a x0 x1 x2 w else none
def f_X0_notesFit_71 (rec3 : Nat → Int32 → Int32 → Int32 → Int32 → Wd → Option (Int32 × Wd)) (v0 : Nat) (v1 : Int32) (v2 : Int32) (v3 : Int32) (v4 : Int32) (w : Wd) : Option (Int32 × Wd) :=
  rec3 v0 v1 v2 v3 ((v4 + (1 : Int32))) w
def f_X0_notesFit_3 : Nat → Nat → Int32 → Int32 → Int32 → Int32 → Wd → Option (Int32 × Wd)
  | 0, _, _, _, _, _, _ => none
  | n + 1, v0, v1, v2, v3, v4, w =>
    gI w v0 0 7 fun x1 =>
    if x1 ≤ v4 then
      rZ (1 : Int32) w
    else
      nm ((v4 * (4 : Int32))) fun x2 =>
      gR w v0 0 3 fun r3 =>
      lI w r3 14 x2 fun x4 =>
      if x4 = v1 then
        gR w v0 0 0 fun r5 =>
        lR w r5 18 v2 fun r6 =>
        gR w v0 0 3 fun r7 =>
        lI w r7 14 (x2 + (1 : Int32)) fun x8 =>
        gR w v0 0 3 fun r9 =>
        lI w r9 14 (x2 + (2 : Int32)) fun x10 =>
        cal (u_ground r6 v3 x8 x10 w) fun x12 w11 =>
        gR w11 v0 0 3 fun r13 =>
        lI w11 r13 14 (x2 + (3 : Int32)) fun x14 =>
        if x12 = x14 then
          f_X0_notesFit_71 (f_X0_notesFit_3 n) v0 v1 v2 v3 v4 w11
        else
          rZ (0 : Int32) w11
      else
        f_X0_notesFit_71 (f_X0_notesFit_3 n) v0 v1 v2 v3 v4 w
def f_X0_notesFit (p0 : Nat) (p1 : Int32) (p2 : Int32) (p3 : Int32) (w : Wd) : Option (Int32 × Wd) :=
  f_X0_notesFit_3 4096 p0 p1 p2 p3 (0 : Int32) w
def f_X0_fittingKinds_30 (rec5 : Nat → Int32 → Int32 → Int32 → Int32 → Wd → Option (Int32 × Wd)) (v0 : Nat) (v1 : Int32) (v2 : Int32) (v3 : Int32) (v4 : Int32) (w : Wd) : Option (Int32 × Wd) :=
  rec5 v0 v1 v2 v3 ((v4 + (1 : Int32))) w
def f_X0_fittingKinds_5 : Nat → Nat → Int32 → Int32 → Int32 → Int32 → Wd → Option (Int32 × Wd)
  | 0, _, _, _, _, _, _ => none
  | n + 1, v0, v1, v2, v3, v4, w =>
    if (6 : Int32) ≤ v4 then
      some (v3, w)
    else
      calV w v0 0 (f_X0_notesFit v0 v1 v4 v2 w) fun x2 w1 =>
      if x2 = 0 then
        f_X0_fittingKinds_30 (f_X0_fittingKinds_5 n) v0 v1 v2 v3 v4 w1
      else
        nm ((v3 ||| ((1 : Int32) <<< (v4 &&& 31)))) fun x3 =>
        f_X0_fittingKinds_30 (f_X0_fittingKinds_5 n) v0 v1 v2 x3 v4 w1
def f_X0_fittingKinds (p0 : Nat) (p1 : Int32) (p2 : Int32) (w : Wd) : Option (Int32 × Wd) :=
  f_X0_fittingKinds_5 4096 p0 p1 p2 (0 : Int32) (0 : Int32) w
def f_X0_fittingLike_40 (rec5 : Nat → Int32 → Int32 → Int32 → Int32 → Wd → Option (Int32 × Wd)) (v0 : Nat) (v1 : Int32) (v2 : Int32) (v3 : Int32) (v4 : Int32) (w : Wd) : Option (Int32 × Wd) :=
  rec5 v0 v1 v2 v3 ((v4 + (1 : Int32))) w
def f_X0_fittingLike_5 : Nat → Nat → Int32 → Int32 → Int32 → Int32 → Wd → Option (Int32 × Wd)
  | 0, _, _, _, _, _, _ => none
  | n + 1, v0, v1, v2, v3, v4, w =>
    if v1 < v4 then
      some (v3, w)
    else
      if ((iush v2 v4) &&& (1 : Int32)) = (1 : Int32) then
        gR w v0 0 5 fun r1 =>
        lI w r1 14 v4 fun x2 =>
        gR w v0 0 5 fun r3 =>
        lI w r3 14 v1 fun x4 =>
        if x2 = x4 then
          f_X0_fittingLike_40 (f_X0_fittingLike_5 n) v0 v1 v2 ((v3 + (1 : Int32))) v4 w
        else
          f_X0_fittingLike_40 (f_X0_fittingLike_5 n) v0 v1 v2 v3 v4 w
      else
        f_X0_fittingLike_40 (f_X0_fittingLike_5 n) v0 v1 v2 v3 v4 w
def f_X0_fittingLike (p0 : Nat) (p1 : Int32) (p2 : Int32) (w : Wd) : Option (Int32 × Wd) :=
  f_X0_fittingLike_5 4096 p0 p1 p2 (0 : Int32) (0 : Int32) w
def f_X0_fittingRates_26 (rec5 : Nat → Int32 → Int32 → Int32 → Int32 → Wd → Option (Int32 × Wd)) (v0 : Nat) (v1 : Int32) (v2 : Int32) (v3 : Int32) (v4 : Int32) (w : Wd) : Option (Int32 × Wd) :=
  rec5 v0 v1 v2 v3 ((v4 + (1 : Int32))) w
def f_X0_fittingRates_5 : Nat → Nat → Int32 → Int32 → Int32 → Int32 → Wd → Option (Int32 × Wd)
  | 0, _, _, _, _, _, _ => none
  | n + 1, v0, v1, v2, v3, v4, w =>
    if (9 : Int32) < v4 then
      some (v3, w)
    else
      calV w v0 0 (f_X0_notesFit v0 v1 v2 v4 w) fun x2 w1 =>
      if x2 = 0 then
        f_X0_fittingRates_26 (f_X0_fittingRates_5 n) v0 v1 v2 v3 v4 w1
      else
        f_X0_fittingRates_26 (f_X0_fittingRates_5 n) v0 v1 v2 ((v3 + (1 : Int32))) v4 w1
def f_X0_fittingRates (p0 : Nat) (p1 : Int32) (p2 : Int32) (w : Wd) : Option (Int32 × Wd) :=
  f_X0_fittingRates_5 4096 p0 p1 p2 (0 : Int32) (1 : Int32) w
def f_J6_bitCount_0f7a4 (p0 : Int32) (w : Wd) : Option (Int32 × Wd) :=
  nm ((p0 - ((iush p0 (1 : Int32)) &&& (1431655765 : Int32)))) fun x1 =>
  nm (((x1 &&& (858993459 : Int32)) + ((iush x1 (2 : Int32)) &&& (858993459 : Int32)))) fun x2 =>
  nm (((x2 + (iush x2 (4 : Int32))) &&& (252645135 : Int32))) fun x3 =>
  nm ((x3 + (iush x3 (8 : Int32)))) fun x4 =>
  nm ((x4 + (iush x4 (16 : Int32)))) fun x5 =>
  some ((x5 &&& (63 : Int32)), w)
def f_X11_likeLetters (p0 : Int32) (p1 : Int32) (w : Wd) : Option (Int32 × Wd) :=
  cal (f_J6_bitCount_0f7a4 (p0 ^^^ p1) w) fun x2 w1 =>
  some (((5 : Int32) - x2), w1)
def f_X0_wordFits_2 : Nat → Nat → Int32 → Int32 → Wd → Option (Int32 × Wd)
  | 0, _, _, _, _ => none
  | n + 1, v0, v1, v2, w =>
    gI w v0 0 6 fun x1 =>
    if x1 ≤ v2 then
      rZ (1 : Int32) w
    else
      gR w v0 0 1 fun r2 =>
      lI w r2 14 v2 fun x3 =>
      cal (f_X11_likeLetters v1 x3 w) fun x5 w4 =>
      gR w4 v0 0 2 fun r6 =>
      lI w4 r6 14 v2 fun x7 =>
      if x5 = x7 then
        (f_X0_wordFits_2 n) v0 v1 ((v2 + (1 : Int32))) w4
      else
        rZ (0 : Int32) w4
def f_X0_wordFits (p0 : Nat) (p1 : Int32) (w : Wd) : Option (Int32 × Wd) :=
  f_X0_wordFits_2 4096 p0 p1 (0 : Int32) w
def f_X0_fittingWords_24 (rec4 : Nat → Int32 → Int32 → Wd → Option (Int32 × Wd)) (v0 : Nat) (v1 : Int32) (v2 : Int32) (w : Wd) : Option (Int32 × Wd) :=
  rec4 v0 v1 ((v2 + (1 : Int32))) w
def f_X0_fittingWords_4 : Nat → Nat → Int32 → Int32 → Wd → Option (Int32 × Wd)
  | 0, _, _, _, _ => none
  | n + 1, v0, v1, v2, w =>
    if (32 : Int32) ≤ v2 then
      some (v1, w)
    else
      calV w v0 0 (f_X0_wordFits v0 v2 w) fun x2 w1 =>
      if x2 = 0 then
        f_X0_fittingWords_24 (f_X0_fittingWords_4 n) v0 v1 v2 w1
      else
        nm ((v1 ||| ((1 : Int32) <<< (v2 &&& 31)))) fun x3 =>
        f_X0_fittingWords_24 (f_X0_fittingWords_4 n) v0 x3 v2 w1
def f_X0_fittingWords (p0 : Nat) (w : Wd) : Option (Int32 × Wd) :=
  f_X0_fittingWords_4 4096 p0 (0 : Int32) (0 : Int32) w
def f_X0_mixInto_53 : Nat → Nat → Int64 → Int32 → Wd → Option (Int64 × Wd)
  | 0, _, _, _, _ => none
  | n + 1, v0, v3, v5, w =>
    gI w v0 0 7 fun x1 =>
    if (x1 * (4 : Int32)) ≤ v5 then
      some (v3, w)
    else
      gR w v0 0 3 fun r2 =>
      lI w r2 14 v5 fun x3 =>
      nm ((((31 : Int64) * v3) + (x3.toInt64))) fun x4 =>
      (f_X0_mixInto_53 n) v0 x4 ((v5 + (1 : Int32))) w
def f_X0_mixInto_5 : Nat → Nat → Int64 → Int32 → Wd → Option (Int64 × Wd)
  | 0, _, _, _, _ => none
  | n + 1, v0, v3, v5, w =>
    gI w v0 0 6 fun x5 =>
    if x5 ≤ v5 then
      f_X0_mixInto_53 4096 v0 v3 (0 : Int32) w
    else
      gR w v0 0 1 fun r6 =>
      lI w r6 14 v5 fun x7 =>
      nm ((((31 : Int64) * v3) + (x7.toInt64))) fun x8 =>
      gR w v0 0 2 fun r9 =>
      lI w r9 14 v5 fun x10 =>
      nm ((((31 : Int64) * x8) + (x10.toInt64))) fun x11 =>
      (f_X0_mixInto_5 n) v0 x11 ((v5 + (1 : Int32))) w
def f_X0_mixInto (p0 : Nat) (p1 : Int64) (w : Wd) : Option (Int64 × Wd) :=
  f_X0_mixInto_5 4096 p0 p1 (0 : Int32) w
def f_X0_mostAnsweredAlike_73 (rec25 : Nat → Int32 → Int32 → Int32 → Int32 → Wd → Option (Int32 × Wd)) (v0 : Nat) (v1 : Int32) (v2 : Int32) (v3 : Int32) (v4 : Int32) (w : Wd) : Option (Int32 × Wd) :=
  rec25 v0 v1 v2 v3 ((v4 + (1 : Int32))) w
def f_X0_mostAnsweredAlike_25 : Nat → Nat → Int32 → Int32 → Int32 → Int32 → Wd → Option (Int32 × Wd)
  | 0, _, _, _, _, _, _ => none
  | n + 1, v0, v1, v2, v3, v4, w =>
    if (32 : Int32) ≤ v4 then
      some (v3, w)
    else
      if ((iush v2 v4) &&& (1 : Int32)) = (1 : Int32) then
        cal (f_X11_likeLetters v1 v4 w) fun x2 w1 =>
        gR w1 v0 0 4 fun r3 =>
        lI w1 r3 14 x2 fun x4 =>
        aI w1 r3 14 x2 (x4 + (1 : Int32)) fun w5 =>
        gR w5 v0 0 4 fun r6 =>
        lI w5 r6 14 x2 fun x7 =>
        nm ((f_mmax v3 x7)) fun x8 =>
        f_X0_mostAnsweredAlike_73 (f_X0_mostAnsweredAlike_25 n) v0 v1 v2 x8 v4 w5
      else
        f_X0_mostAnsweredAlike_73 (f_X0_mostAnsweredAlike_25 n) v0 v1 v2 v3 v4 w
def f_X0_mostAnsweredAlike_2 : Nat → Nat → Int32 → Int32 → Int32 → Wd → Option (Int32 × Wd)
  | 0, _, _, _, _, _ => none
  | n + 1, v0, v1, v2, v3, w =>
    if (5 : Int32) < v3 then
      f_X0_mostAnsweredAlike_25 4096 v0 v1 v2 (0 : Int32) (0 : Int32) w
    else
      gR w v0 0 4 fun r9 =>
      aI w r9 14 v3 (0 : Int32) fun w10 =>
      (f_X0_mostAnsweredAlike_2 n) v0 v1 v2 ((v3 + (1 : Int32))) w10
def f_X0_mostAnsweredAlike (p0 : Nat) (p1 : Int32) (p2 : Int32) (w : Wd) : Option (Int32 × Wd) :=
  f_X0_mostAnsweredAlike_2 4096 p0 p1 p2 (0 : Int32) w
def f_X0_mostGroundAlike_6 : Nat → Nat → Int32 → Int32 → Int32 → Int32 → Int32 → Int32 → Wd → Option (Int32 × Wd)
  | 0, _, _, _, _, _, _, _, _ => none
  | n + 1, v0, v1, v2, v3, v4, v5, v6, w =>
    if (6 : Int32) ≤ v6 then
      some (v5, w)
    else
      gR w v0 0 5 fun r1 =>
      gR w v0 0 0 fun r2 =>
      lR w r2 18 v6 fun r3 =>
      cal (u_ground r3 v1 v2 v3 w) fun x5 w4 =>
      aI w4 r1 14 v6 x5 fun w6 =>
      calV w6 v0 0 (f_X0_fittingLike v0 v6 v4 w6) fun x8 w7 =>
      nm ((f_mmax v5 x8)) fun x9 =>
      (f_X0_mostGroundAlike_6 n) v0 v1 v2 v3 v4 x9 ((v6 + (1 : Int32))) w7
def f_X0_mostGroundAlike (p0 : Nat) (p1 : Int32) (p2 : Int32) (p3 : Int32) (p4 : Int32) (w : Wd) : Option (Int32 × Wd) :=
  f_X0_mostGroundAlike_6 4096 p0 p1 p2 p3 p4 (0 : Int32) (0 : Int32) w
def f_X0_sharpestLook_72 (rec23 : Nat → Int32 → Int32 → Int32 → Int32 → Int32 → Wd → Option (Int32 × Wd)) (rec33 : Nat → Int32 → Int32 → Int32 → Int32 → Int32 → Int32 → Wd → Option (Int32 × Wd)) (v0 : Nat) (v2 : Int32) (v3 : Int32) (v4 : Int32) (v5 : Int32) (v6 : Int32) (v7 : Int32) (w : Wd) : Option (Int32 × Wd) :=
  rec33 v0 v2 v3 v4 v5 v6 ((v7 + (1 : Int32))) w
def f_X0_sharpestLook_33 (rec23 : Nat → Int32 → Int32 → Int32 → Int32 → Int32 → Wd → Option (Int32 × Wd)) : Nat → Nat → Int32 → Int32 → Int32 → Int32 → Int32 → Int32 → Wd → Option (Int32 × Wd)
  | 0, _, _, _, _, _, _, _, _ => none
  | n + 1, v0, v2, v3, v4, v5, v6, v7, w =>
    if (4 : Int32) ≤ v7 then
      rec23 v0 v2 v3 v4 v5 ((v6 + (1 : Int32))) w
    else
      calV w v0 0 (f_X0_mostGroundAlike v0 v2 v7 v6 v3 w) fun x2 w1 =>
      if v5 ≤ x2 then
        f_X0_sharpestLook_72 rec23 (f_X0_sharpestLook_33 rec23 n) v0 v2 v3 v4 v5 v6 v7 w1
      else
        nm ((((10 : Int32) * v6) + v7)) fun x3 =>
        f_X0_sharpestLook_72 rec23 (f_X0_sharpestLook_33 rec23 n) v0 v2 v3 x3 x2 v6 v7 w1
def f_X0_sharpestLook_23 : Nat → Nat → Int32 → Int32 → Int32 → Int32 → Int32 → Wd → Option (Int32 × Wd)
  | 0, _, _, _, _, _, _, _ => none
  | n + 1, v0, v2, v3, v4, v5, v6, w =>
    if (9 : Int32) < v6 then
      some (v4, w)
    else
      f_X0_sharpestLook_33 (f_X0_sharpestLook_23 n) 4096 v0 v2 v3 v4 v5 v6 (0 : Int32) w
def f_X0_sharpestLook (p0 : Nat) (p1 : Int32) (p2 : Int32) (w : Wd) : Option (Int32 × Wd) :=
  calV w p0 0 (f_X0_fittingKinds p0 p1 p2 w) fun x5 w4 =>
  if x5 = 0 then
    some ((-1 : Int32), w4)
  else
    f_X0_sharpestLook_23 4096 p0 p2 x5 (-1 : Int32) (7 : Int32) (0 : Int32) w4
def f_X0_sharpestWord_47 (rec19 : Nat → Int32 → Int32 → Int32 → Int32 → Wd → Option (Int32 × Wd)) (v0 : Nat) (v1 : Int32) (v2 : Int32) (v3 : Int32) (v4 : Int32) (w : Wd) : Option (Int32 × Wd) :=
  rec19 v0 v1 v2 v3 ((v4 + (1 : Int32))) w
def f_X0_sharpestWord_19 : Nat → Nat → Int32 → Int32 → Int32 → Int32 → Wd → Option (Int32 × Wd)
  | 0, _, _, _, _, _, _ => none
  | n + 1, v0, v1, v2, v3, v4, w =>
    if (32 : Int32) ≤ v4 then
      some (v2, w)
    else
      calV w v0 0 (f_X0_mostAnsweredAlike v0 v4 v1 w) fun x2 w1 =>
      if v3 ≤ x2 then
        f_X0_sharpestWord_47 (f_X0_sharpestWord_19 n) v0 v1 v2 v3 v4 w1
      else
        f_X0_sharpestWord_47 (f_X0_sharpestWord_19 n) v0 v1 v4 x2 v4 w1
def f_X0_sharpestWord (p0 : Nat) (w : Wd) : Option (Int32 × Wd) :=
  calV w p0 0 (f_X0_fittingWords p0 w) fun x4 w3 =>
  if x4 = 0 then
    some ((-1 : Int32), w3)
  else
    f_X0_sharpestWord_19 4096 p0 x4 (-1 : Int32) (33 : Int32) (0 : Int32) w3
def f_X1_become (p0 : Nat) (p1 : Int32) (p2 : Int32) (p3 : Int32) (w : Wd) : Option (Unit × Wd) :=
  pI w p0 1 1 p1 fun w1 =>
  pI w1 p0 1 2 p2 fun w2 =>
  pI w2 p0 1 3 p3 fun w3 =>
  pI w3 p0 1 4 (0 : Int32) fun w4 =>
  pI w4 p0 1 5 (0 : Int32) fun w5 =>
  some ((), w5)
def f_X1_copyFrom (p0 : Nat) (p1 : Nat) (w : Wd) : Option (Unit × Wd) :=
  gI w p1 1 1 fun x1 =>
  gI w p1 1 2 fun x2 =>
  gI w p1 1 3 fun x3 =>
  calV w p0 1 (f_X1_become p0 x1 x2 x3 w) fun _ w4 =>
  gI w4 p1 1 4 fun x6 =>
  pI w4 p0 1 4 x6 fun w7 =>
  gI w7 p1 1 5 fun x8 =>
  pI w7 p0 1 5 x8 fun w9 =>
  some ((), w9)
def f_X5_fetches (p0 : Nat) (p1 : Int32) (p2 : Int32) (w : Wd) : Option (Int32 × Wd) :=
  some ((0 : Int32), w)
def f_X4_fetches (p0 : Nat) (p1 : Int32) (p2 : Int32) (w : Wd) : Option (Int32 × Wd) :=
  calO w p0 (f_X5_fetches p0 p1 p2 w) fun x2 w1 =>
  some ((x2 + (1 : Int32)), w1)
def f_X6_fetches_15 (s0 : Int32) (w : Wd) : Option (Int32 × Wd) :=
  some (s0, w)
def f_X6_fetches (p0 : Nat) (p1 : Int32) (p2 : Int32) (w : Wd) : Option (Int32 × Wd) :=
  nm ((p1 - (p2 / (5 : Int32)))) fun x1 =>
  if x1 ≤ 0 then
    f_X6_fetches_15 (0 : Int32) w
  else
    f_X6_fetches_15 x1 w
def f_X8_fetches (p0 : Nat) (p1 : Int32) (p2 : Int32) (w : Wd) : Option (Int32 × Wd) :=
  calO w p0 (f_X6_fetches p0 p1 p2 w) fun x2 w1 =>
  some ((x2 / (2 : Int32)), w1)
def u_fetches (a : Nat) (x0 x1 : Int32) (w : Wd) : Option (Int32 × Wd) := if isO w a 3 then f_X6_fetches a x0 x1 w else if isO w a 4 then f_X4_fetches a x0 x1 w else if isO w a 5 then f_X5_fetches a x0 x1 w else if isO w a 6 then f_X6_fetches a x0 x1 w else if isO w a 8 then f_X8_fetches a x0 x1 w else if isO w a 9 then f_X6_fetches a x0 x1 w else none
def f_X1_fetchesWhen (p0 : Nat) (p1 : Int32) (w : Wd) : Option (Int32 × Wd) :=
  gR w p0 1 0 fun r1 =>
  gI w p0 1 1 fun x2 =>
  lR w r1 18 x2 fun r3 =>
  gI w p0 1 3 fun x4 =>
  cal (u_fetches r3 x4 p1 w) fun x6 w5 =>
  some (x6, w5)
def f_X1_fetchedBy_5 : Nat → Nat → Int32 → Int32 → Int32 → Int32 → Wd → Option (Int32 × Wd)
  | 0, _, _, _, _, _, _ => none
  | n + 1, v0, v1, v2, v3, v4, w =>
    if v1 ≤ v4 then
      some (v3, w)
    else
      calV w v0 1 (f_X1_fetchesWhen v0 (v2 + v4) w) fun x2 w1 =>
      nm ((v3 + x2)) fun x3 =>
      (f_X1_fetchedBy_5 n) v0 v1 v2 x3 ((v4 + (1 : Int32))) w1
def f_X1_fetchedBy (p0 : Nat) (p1 : Int32) (p2 : Int32) (w : Wd) : Option (Int32 × Wd) :=
  f_X1_fetchedBy_5 4096 p0 p1 p2 (0 : Int32) (0 : Int32) w
def f_X1_giveAway (p0 : Nat) (p1 : Int32) (w : Wd) : Option (Int32 × Wd) :=
  gI w p0 1 5 fun x1 =>
  calV w p0 1 (f_X1_fetchedBy p0 p1 x1 w) fun x3 w2 =>
  gI w2 p0 1 4 fun x4 =>
  pI w2 p0 1 4 (x4 - p1) fun w5 =>
  gI w5 p0 1 5 fun x6 =>
  pI w5 p0 1 5 (x6 + p1) fun w7 =>
  some (x3, w7)
def f_X1_groundIn (p0 : Nat) (p1 : Int32) (p2 : Int32) (w : Wd) : Option (Int32 × Wd) :=
  gR w p0 1 0 fun r1 =>
  gI w p0 1 1 fun x2 =>
  lR w r1 18 x2 fun r3 =>
  gI w p0 1 2 fun x4 =>
  cal (u_ground r3 x4 p1 p2 w) fun x6 w5 =>
  some (x6, w5)
def f_X1_mixInto (p0 : Nat) (p1 : Int64) (w : Wd) : Option (Int64 × Wd) :=
  gI w p0 1 1 fun x1 =>
  nm ((((31 : Int64) * p1) + (x1.toInt64))) fun x2 =>
  gI w p0 1 2 fun x3 =>
  nm ((((31 : Int64) * x2) + (x3.toInt64))) fun x4 =>
  gI w p0 1 3 fun x5 =>
  nm ((((31 : Int64) * x4) + (x5.toInt64))) fun x6 =>
  gI w p0 1 4 fun x7 =>
  nm ((((31 : Int64) * x6) + (x7.toInt64))) fun x8 =>
  gI w p0 1 5 fun x9 =>
  some ((((31 : Int64) * x8) + (x9.toInt64)), w)
def f_X2_addGoods (p0 : Nat) (p1 : Int32) (p2 : Int32) (p3 : Int32) (w : Wd) : Option (Unit × Wd) :=
  gI w p0 2 4 fun x1 =>
  if x1 < (6 : Int32) then
    gR w p0 2 0 fun r2 =>
    gI w p0 2 4 fun x3 =>
    lR w r2 16 x3 fun r4 =>
    calV w r4 1 (f_X1_become r4 p1 p2 p3 w) fun _ w5 =>
    gI w5 p0 2 4 fun x7 =>
    pI w5 p0 2 4 (x7 + (1 : Int32)) fun w8 =>
    pI w8 p0 2 3 (0 : Int32) fun w9 =>
    some ((), w9)
  else
    some ((), w)
def f_X2_allBushels_4 : Nat → Nat → Int32 → Int32 → Wd → Option (Int32 × Wd)
  | 0, _, _, _, _ => none
  | n + 1, v0, v1, v2, w =>
    gI w v0 2 4 fun x1 =>
    if x1 ≤ v2 then
      some (v1, w)
    else
      gR w v0 2 0 fun r2 =>
      lR w r2 16 v2 fun r3 =>
      gI w r3 1 4 fun x4 =>
      nm ((v1 + x4)) fun x5 =>
      (f_X2_allBushels_4 n) v0 x5 ((v2 + (1 : Int32))) w
def f_X2_allBushels (p0 : Nat) (w : Wd) : Option (Int32 × Wd) :=
  f_X2_allBushels_4 4096 p0 (0 : Int32) (0 : Int32) w
def f_X2_copyFrom_66 : Nat → Nat → Nat → Int32 → Wd → Option (Unit × Wd)
  | 0, _, _, _, _ => none
  | n + 1, v0, v1, v2, w =>
    gI w v0 2 4 fun x1 =>
    if x1 ≤ v2 then
      gI w v1 2 3 fun x2 =>
      pI w v0 2 3 x2 fun w3 =>
      gR w3 v1 2 2 fun r4 =>
      gR w3 v0 2 2 fun r5 =>
      cpI w3 r4 (0 : Int32) r5 (0 : Int32) (136 : Int32) fun w6 =>
      gR w6 v0 2 1 fun r7 =>
      gR w6 v1 2 1 fun r8 =>
      calV w6 r7 0 (f_X0_copyFrom r7 r8 w6) fun _ w9 =>
      some ((), w9)
    else
      gR w v0 2 0 fun r11 =>
      lR w r11 16 v2 fun r12 =>
      gR w v1 2 0 fun r13 =>
      lR w r13 16 v2 fun r14 =>
      calV w r12 1 (f_X1_copyFrom r12 r14 w) fun _ w15 =>
      (f_X2_copyFrom_66 n) v0 v1 ((v2 + (1 : Int32))) w15
def f_X2_copyFrom (p0 : Nat) (p1 : Nat) (w : Wd) : Option (Unit × Wd) :=
  gI w p1 2 5 fun x17 =>
  pI w p0 2 5 x17 fun w18 =>
  gI w18 p1 2 6 fun x19 =>
  pI w18 p0 2 6 x19 fun w20 =>
  gI w20 p1 2 7 fun x21 =>
  pI w20 p0 2 7 x21 fun w22 =>
  gI w22 p1 2 8 fun x23 =>
  pI w22 p0 2 8 x23 fun w24 =>
  gI w24 p1 2 9 fun x25 =>
  pI w24 p0 2 9 x25 fun w26 =>
  gI w26 p1 2 10 fun x27 =>
  pI w26 p0 2 10 x27 fun w28 =>
  gI w28 p1 2 11 fun x29 =>
  pI w28 p0 2 11 x29 fun w30 =>
  gI w30 p1 2 4 fun x31 =>
  pI w30 p0 2 4 x31 fun w32 =>
  f_X2_copyFrom_66 4096 p0 p1 (0 : Int32) w32
def f_X2_goBack_86 : Nat → Nat → Int32 → Int32 → Wd → Option (Unit × Wd)
  | 0, _, _, _, _ => none
  | n + 1, v0, v1, v2, w =>
    gI w v0 2 4 fun x1 =>
    if x1 ≤ v2 then
      some ((), w)
    else
      gR w v0 2 0 fun r2 =>
      lR w r2 16 v2 fun r3 =>
      gR w v0 2 2 fun r4 =>
      lI w r4 14 ((v1 + (5 : Int32)) + ((2 : Int32) * v2)) fun x5 =>
      pI w r3 1 4 x5 fun w6 =>
      gR w6 v0 2 0 fun r7 =>
      lR w6 r7 16 v2 fun r8 =>
      gR w6 v0 2 2 fun r9 =>
      lI w6 r9 14 ((v1 + (6 : Int32)) + ((2 : Int32) * v2)) fun x10 =>
      pI w6 r8 1 5 x10 fun w11 =>
      (f_X2_goBack_86 n) v0 v1 ((v2 + (1 : Int32))) w11
def f_X2_goBack (p0 : Nat) (w : Wd) : Option (Unit × Wd) :=
  gI w p0 2 3 fun x12 =>
  if 0 < x12 then
    gI w p0 2 3 fun x13 =>
    pI w p0 2 3 (x13 - (1 : Int32)) fun w14 =>
    gI w14 p0 2 3 fun x15 =>
    nm ((x15 * (17 : Int32))) fun x16 =>
    gR w14 p0 2 2 fun r17 =>
    lI w14 r17 14 x16 fun x18 =>
    pI w14 p0 2 10 x18 fun w19 =>
    gR w19 p0 2 2 fun r20 =>
    lI w19 r20 14 (x16 + (1 : Int32)) fun x21 =>
    pI w19 p0 2 11 x21 fun w22 =>
    gR w22 p0 2 2 fun r23 =>
    lI w22 r23 14 (x16 + (2 : Int32)) fun x24 =>
    pI w22 p0 2 9 x24 fun w25 =>
    gR w25 p0 2 2 fun r26 =>
    lI w25 r26 14 (x16 + (3 : Int32)) fun x27 =>
    pI w25 p0 2 7 x27 fun w28 =>
    gR w28 p0 2 2 fun r29 =>
    lI w28 r29 14 (x16 + (4 : Int32)) fun x30 =>
    pI w28 p0 2 8 x30 fun w31 =>
    f_X2_goBack_86 4096 p0 x16 (0 : Int32) w31
  else
    some ((), w)
def f_X2_has_17 (s0 : Int32) (w : Wd) : Option (Int32 × Wd) :=
  rZ s0 w
def f_X2_has_16 (w : Wd) : Option (Int32 × Wd) :=
  f_X2_has_17 (0 : Int32) w
def f_X2_has (p0 : Nat) (p1 : Int32) (w : Wd) : Option (Int32 × Wd) :=
  if p1 < 0 then
    f_X2_has_16  w
  else
    gI w p0 2 4 fun x1 =>
    if x1 ≤ p1 then
      f_X2_has_16  w
    else
      f_X2_has_17 (1 : Int32) w
def f_X2_groundBy_26 (s0 : Int32) (w : Wd) : Option (Int32 × Wd) :=
  some (s0, w)
def f_X2_groundBy (p0 : Nat) (p1 : Int32) (p2 : Int32) (w : Wd) : Option (Int32 × Wd) :=
  calV w p0 2 (f_X2_has p0 p1 w) fun x2 w1 =>
  if x2 = 0 then
    f_X2_groundBy_26 (0 : Int32) w1
  else
    gR w1 p0 2 0 fun r3 =>
    lR w1 r3 16 p1 fun r4 =>
    gI w1 p0 2 8 fun x5 =>
    calV w1 r4 1 (f_X1_groundIn r4 p2 x5 w1) fun x7 w6 =>
    f_X2_groundBy_26 x7 w6
def f_X2_groundWithin_5 : Nat → Nat → Int32 → Int32 → Int32 → Int32 → Wd → Option (Int32 × Wd)
  | 0, _, _, _, _, _, _ => none
  | n + 1, v0, v1, v2, v3, v4, w =>
    if v2 ≤ v4 then
      some (v3, w)
    else
      gI w v0 2 9 fun x1 =>
      calV w v0 2 (f_X2_groundBy v0 v1 (x1 + v4) w) fun x3 w2 =>
      nm ((v3 + x3)) fun x4 =>
      (f_X2_groundWithin_5 n) v0 v1 v2 x4 ((v4 + (1 : Int32))) w2
def f_X2_groundWithin (p0 : Nat) (p1 : Int32) (p2 : Int32) (w : Wd) : Option (Int32 × Wd) :=
  f_X2_groundWithin_5 4096 p0 p1 p2 (0 : Int32) (0 : Int32) w
def f_X2_mixInto_39 : Nat → Nat → Int64 → Int32 → Wd → Option (Int64 × Wd)
  | 0, _, _, _, _ => none
  | n + 1, v0, v3, v5, w =>
    gI w v0 2 4 fun x1 =>
    if x1 ≤ v5 then
      gR w v0 2 1 fun r2 =>
      calV w r2 0 (f_X0_mixInto r2 v3 w) fun x4 w3 =>
      some (x4, w3)
    else
      gR w v0 2 0 fun r5 =>
      lR w r5 16 v5 fun r6 =>
      calV w r6 1 (f_X1_mixInto r6 v3 w) fun x8 w7 =>
      (f_X2_mixInto_39 n) v0 x8 ((v5 + (1 : Int32))) w7
def f_X2_mixInto (p0 : Nat) (p1 : Int64) (w : Wd) : Option (Int64 × Wd) :=
  gI w p0 2 5 fun x9 =>
  nm ((((31 : Int64) * p1) + (x9.toInt64))) fun x10 =>
  gI w p0 2 6 fun x11 =>
  nm ((((31 : Int64) * x10) + (x11.toInt64))) fun x12 =>
  gI w p0 2 7 fun x13 =>
  nm ((((31 : Int64) * x12) + (x13.toInt64))) fun x14 =>
  f_X2_mixInto_39 4096 p0 x14 (0 : Int32) w
def f_X2_passHour_56 (v0 : Nat) (v1 : Int32) (v2 : Int32) (w : Wd) : Option (Int32 × Wd) :=
  gI w v0 2 10 fun x1 =>
  pI w v0 2 10 (x1 + (v1 - v2)) fun w2 =>
  gI w2 v0 2 9 fun x3 =>
  pI w2 v0 2 9 (x3 + (1 : Int32)) fun w4 =>
  some (v1, w4)
def f_X2_passHour (p0 : Nat) (w : Wd) : Option (Int32 × Wd) :=
  gI w p0 2 7 fun x5 =>
  gI w p0 2 9 fun x6 =>
  calV w p0 2 (f_X2_groundBy p0 x5 x6 w) fun x8 w7 =>
  gI w7 p0 2 5 fun x9 =>
  calV w7 p0 2 (f_X2_allBushels p0 w7) fun x11 w10 =>
  nm ((f_mmin x8 (x9 - x11))) fun x12 =>
  gI w10 p0 2 7 fun x13 =>
  calV w10 p0 2 (f_X2_has p0 x13 w10) fun x15 w14 =>
  if x15 = 0 then
    f_X2_passHour_56 p0 x8 x12 w14
  else
    gR w14 p0 2 0 fun r16 =>
    gI w14 p0 2 7 fun x17 =>
    lR w14 r16 16 x17 fun r18 =>
    gI w14 r18 1 4 fun x19 =>
    pI w14 r18 1 4 (x19 + x12) fun w20 =>
    f_X2_passHour_56 p0 x8 x12 w20
def f_X2_remember_99 : Nat → Nat → Int32 → Int32 → Wd → Option (Unit × Wd)
  | 0, _, _, _, _ => none
  | n + 1, v0, v1, v2, w =>
    gI w v0 2 4 fun x1 =>
    if x1 ≤ v2 then
      gI w v0 2 3 fun x2 =>
      pI w v0 2 3 (x2 + (1 : Int32)) fun w3 =>
      some ((), w3)
    else
      gR w v0 2 2 fun r4 =>
      gR w v0 2 0 fun r5 =>
      lR w r5 16 v2 fun r6 =>
      gI w r6 1 4 fun x7 =>
      aI w r4 14 ((v1 + (5 : Int32)) + ((2 : Int32) * v2)) x7 fun w8 =>
      gR w8 v0 2 2 fun r9 =>
      gR w8 v0 2 0 fun r10 =>
      lR w8 r10 16 v2 fun r11 =>
      gI w8 r11 1 5 fun x12 =>
      aI w8 r9 14 ((v1 + (6 : Int32)) + ((2 : Int32) * v2)) x12 fun w13 =>
      (f_X2_remember_99 n) v0 v1 ((v2 + (1 : Int32))) w13
def f_X2_remember_31 (v0 : Nat) (w : Wd) : Option (Unit × Wd) :=
  gI w v0 2 3 fun x14 =>
  nm ((x14 * (17 : Int32))) fun x15 =>
  gR w v0 2 2 fun r16 =>
  gI w v0 2 10 fun x17 =>
  aI w r16 14 x15 x17 fun w18 =>
  gR w18 v0 2 2 fun r19 =>
  gI w18 v0 2 11 fun x20 =>
  aI w18 r19 14 (x15 + (1 : Int32)) x20 fun w21 =>
  gR w21 v0 2 2 fun r22 =>
  gI w21 v0 2 9 fun x23 =>
  aI w21 r22 14 (x15 + (2 : Int32)) x23 fun w24 =>
  gR w24 v0 2 2 fun r25 =>
  gI w24 v0 2 7 fun x26 =>
  aI w24 r25 14 (x15 + (3 : Int32)) x26 fun w27 =>
  gR w27 v0 2 2 fun r28 =>
  gI w27 v0 2 8 fun x29 =>
  aI w27 r28 14 (x15 + (4 : Int32)) x29 fun w30 =>
  f_X2_remember_99 4096 v0 x15 (0 : Int32) w30
def f_X2_remember (p0 : Nat) (w : Wd) : Option (Unit × Wd) :=
  gI w p0 2 3 fun x31 =>
  if x31 < (8 : Int32) then
    f_X2_remember_31 p0 w
  else
    gR w p0 2 2 fun r32 =>
    gR w p0 2 2 fun r33 =>
    cpI w r32 (17 : Int32) r33 (0 : Int32) (119 : Int32) fun w34 =>
    pI w34 p0 2 3 (7 : Int32) fun w35 =>
    f_X2_remember_31 p0 w35
def f_X2_startAnew (p0 : Nat) (p1 : Int32) (w : Wd) : Option (Unit × Wd) :=
  pI w p0 2 5 p1 fun w1 =>
  pI w1 p0 2 6 (0 : Int32) fun w2 =>
  pI w2 p0 2 7 (-1 : Int32) fun w3 =>
  pI w3 p0 2 8 (0 : Int32) fun w4 =>
  pI w4 p0 2 9 (0 : Int32) fun w5 =>
  pI w5 p0 2 10 (0 : Int32) fun w6 =>
  pI w6 p0 2 11 (0 : Int32) fun w7 =>
  pI w7 p0 2 4 (0 : Int32) fun w8 =>
  pI w8 p0 2 3 (0 : Int32) fun w9 =>
  gR w9 p0 2 1 fun r10 =>
  pI w9 r10 0 6 (0 : Int32) fun w11 =>
  gR w11 p0 2 1 fun r12 =>
  pI w11 r12 0 7 (0 : Int32) fun w13 =>
  some ((), w13)
def f_X7_fillFewest_84 (rec9 : Nat → Int32 → Int32 → Int32 → Wd → Option (Unit × Wd)) (rec26 : Nat → Int32 → Int32 → Int32 → Int32 → Wd → Option (Unit × Wd)) (v0 : Nat) (v1 : Int32) (v2 : Int32) (v3 : Int32) (v4 : Int32) (w : Wd) : Option (Unit × Wd) :=
  rec26 v0 v1 v2 v3 ((v4 + (1 : Int32))) w
def f_X7_fillFewest_26 (rec9 : Nat → Int32 → Int32 → Int32 → Wd → Option (Unit × Wd)) : Nat → Nat → Int32 → Int32 → Int32 → Int32 → Wd → Option (Unit × Wd)
  | 0, _, _, _, _, _, _ => none
  | n + 1, v0, v1, v2, v3, v4, w =>
    if v1 ≤ v4 then
      rec9 v0 v1 v2 ((v3 + (1 : Int32))) w
    else
      gR w v0 7 1 fun r1 =>
      lI w r1 14 v4 fun x2 =>
      if x2 ≤ 0 then
        f_X7_fillFewest_84 rec9 (f_X7_fillFewest_26 rec9 n) v0 v1 v2 v3 v4 w
      else
        gR w v0 7 1 fun r3 =>
        lI w r3 14 v4 fun x4 =>
        if v3 < x4 then
          f_X7_fillFewest_84 rec9 (f_X7_fillFewest_26 rec9 n) v0 v1 v2 v3 v4 w
        else
          gR w v0 7 2 fun r5 =>
          gR w v0 7 2 fun r6 =>
          lI w r6 14 v3 fun x7 =>
          gR w v0 7 2 fun r8 =>
          gR w v0 7 1 fun r9 =>
          lI w r9 14 v4 fun x10 =>
          lI w r8 14 (v3 - x10) fun x11 =>
          aI w r5 14 v3 (f_mmin x7 (x11 + (1 : Int32))) fun w12 =>
          f_X7_fillFewest_84 rec9 (f_X7_fillFewest_26 rec9 n) v0 v1 v2 v3 v4 w12
def f_X7_fillFewest_9 : Nat → Nat → Int32 → Int32 → Int32 → Wd → Option (Unit × Wd)
  | 0, _, _, _, _, _ => none
  | n + 1, v0, v1, v2, v3, w =>
    if v2 < v3 then
      some ((), w)
    else
      gR w v0 7 2 fun r13 =>
      aI w r13 14 v3 (1000 : Int32) fun w14 =>
      f_X7_fillFewest_26 (f_X7_fillFewest_9 n) 4096 v0 v1 v2 v3 (0 : Int32) w14
def f_X7_fillFewest (p0 : Nat) (p1 : Int32) (p2 : Int32) (w : Wd) : Option (Unit × Wd) :=
  gR w p0 7 2 fun r15 =>
  aI w r15 14 (0 : Int32) (0 : Int32) fun w16 =>
  f_X7_fillFewest_9 4096 p0 p1 p2 (1 : Int32) w16
def f_X7_fillYields_2 : Nat → Nat → Nat → Int32 → Wd → Option (Unit × Wd)
  | 0, _, _, _, _ => none
  | n + 1, v0, v1, v2, w =>
    gI w v1 2 4 fun x1 =>
    if x1 ≤ v2 then
      some ((), w)
    else
      gR w v0 7 1 fun r2 =>
      gR w v1 2 0 fun r3 =>
      lR w r3 16 v2 fun r4 =>
      gI w v1 2 8 fun x5 =>
      calV w r4 1 (f_X1_groundIn r4 (0 : Int32) x5 w) fun x7 w6 =>
      aI w6 r2 14 v2 x7 fun w8 =>
      (f_X7_fillYields_2 n) v0 v1 ((v2 + (1 : Int32))) w8
def f_X7_fillYields (p0 : Nat) (p1 : Nat) (w : Wd) : Option (Unit × Wd) :=
  f_X7_fillYields_2 4096 p0 p1 (0 : Int32) w
def f_X7_staysFewest_33 (s0 : Int32) (w : Wd) : Option (Int32 × Wd) :=
  rZ s0 w
def f_X7_staysFewest_32 (w : Wd) : Option (Int32 × Wd) :=
  f_X7_staysFewest_33 (0 : Int32) w
def f_X7_staysFewest (p0 : Nat) (p1 : Int32) (p2 : Int32) (w : Wd) : Option (Int32 × Wd) :=
  if p2 ≤ 0 then
    f_X7_staysFewest_32  w
  else
    if p1 < p2 then
      f_X7_staysFewest_32  w
    else
      gR w p0 7 2 fun r1 =>
      lI w r1 14 (p1 - p2) fun x2 =>
      gR w p0 7 2 fun r3 =>
      lI w r3 14 p1 fun x4 =>
      if x2 = (x4 - (1 : Int32)) then
        f_X7_staysFewest_33 (1 : Int32) w
      else
        f_X7_staysFewest_32  w
def f_X7_fewestHours_101 (rec33 : Nat → Nat → Int32 → Int32 → Int32 → Wd → Option (Int32 × Wd)) (v0 : Nat) (v1 : Nat) (v2 : Int32) (v3 : Int32) (v4 : Int32) (w : Wd) : Option (Int32 × Wd) :=
  rec33 v0 v1 v2 v3 ((v4 + (1 : Int32))) w
def f_X7_fewestHours_53 (rec33 : Nat → Nat → Int32 → Int32 → Int32 → Wd → Option (Int32 × Wd)) : Nat → Nat → Nat → Int32 → Int32 → Int32 → Int32 → Wd → Option (Int32 × Wd)
  | 0, _, _, _, _, _, _, _ => none
  | n + 1, v0, v1, v2, v3, v4, v5, w =>
    if v2 ≤ v5 then
      f_X7_fewestHours_101 rec33 v0 v1 v2 v3 v4 w
    else
      gR w v0 7 1 fun r1 =>
      lI w r1 14 v4 fun x2 =>
      calV w v0 7 (f_X7_staysFewest v0 v3 x2 w) fun x4 w3 =>
      if x4 = 0 then
        f_X7_fewestHours_101 rec33 v0 v1 v2 v3 v4 w3
      else
        gR w3 v0 7 0 fun r5 =>
        lI w3 r5 14 v4 fun x6 =>
        aI w3 r5 14 v4 (x6 + (1 : Int32)) fun w7 =>
        gR w7 v0 7 1 fun r8 =>
        lI w7 r8 14 v4 fun x9 =>
        nm ((v3 - x9)) fun x10 =>
        (f_X7_fewestHours_53 rec33 n) v0 v1 v2 x10 v4 ((v5 + (1 : Int32))) w7
def f_X7_fewestHours_33 : Nat → Nat → Nat → Int32 → Int32 → Int32 → Wd → Option (Int32 × Wd)
  | 0, _, _, _, _, _, _ => none
  | n + 1, v0, v1, v2, v3, v4, w =>
    gI w v1 2 4 fun x11 =>
    if x11 ≤ v4 then
      gR w v0 7 2 fun r12 =>
      lI w r12 14 v2 fun x13 =>
      some (x13, w)
    else
      gR w v0 7 0 fun r14 =>
      aI w r14 14 v4 (0 : Int32) fun w15 =>
      f_X7_fewestHours_53 (f_X7_fewestHours_33 n) 4096 v0 v1 v2 v3 v4 (0 : Int32) w15
def f_X7_fewestHours (p0 : Nat) (p1 : Nat) (p2 : Int32) (w : Wd) : Option (Int32 × Wd) :=
  calV w p0 7 (f_X7_fillYields p0 p1 w) fun _ w16 =>
  gI w16 p1 2 4 fun x18 =>
  calV w16 p0 7 (f_X7_fillFewest p0 x18 p2 w16) fun _ w19 =>
  gR w19 p0 7 2 fun r21 =>
  lI w19 r21 14 p2 fun x22 =>
  if x22 < (1000 : Int32) then
    f_X7_fewestHours_33 4096 p0 p1 p2 p2 (0 : Int32) w19
  else
    some ((-1 : Int32), w19)
def f_X7_fillGains_30 (rec2 : Nat → Nat → Int32 → Int32 → Wd → Option (Unit × Wd)) : Nat → Nat → Nat → Int32 → Int32 → Nat → Int32 → Wd → Option (Unit × Wd)
  | 0, _, _, _, _, _, _, _ => none
  | n + 1, v0, v1, v2, v3, v4, v5, w =>
    if v2 < v5 then
      rec2 v0 v1 v2 ((v3 + (1 : Int32))) w
    else
      gI w v4 1 5 fun x1 =>
      gR w v0 7 1 fun r2 =>
      lI w r2 14 v3 fun x3 =>
      nm ((x1 + ((v5 - (1 : Int32)) * x3))) fun x4 =>
      gR w v0 7 3 fun r5 =>
      lR w r5 19 v3 fun r6 =>
      gR w v0 7 3 fun r7 =>
      lR w r7 19 v3 fun r8 =>
      lI w r8 14 (v5 - (1 : Int32)) fun x9 =>
      gR w v0 7 1 fun r10 =>
      lI w r10 14 v3 fun x11 =>
      calV w v4 1 (f_X1_fetchedBy v4 x11 x4 w) fun x13 w12 =>
      aI w12 r6 14 v5 (x9 + x13) fun w14 =>
      (f_X7_fillGains_30 rec2 n) v0 v1 v2 v3 v4 ((v5 + (1 : Int32))) w14
def f_X7_fillGains_2 : Nat → Nat → Nat → Int32 → Int32 → Wd → Option (Unit × Wd)
  | 0, _, _, _, _, _ => none
  | n + 1, v0, v1, v2, v3, w =>
    gI w v1 2 4 fun x15 =>
    if x15 ≤ v3 then
      some ((), w)
    else
      gR w v1 2 0 fun r16 =>
      lR w r16 16 v3 fun r17 =>
      gR w v0 7 3 fun r18 =>
      lR w r18 19 v3 fun r19 =>
      aI w r19 14 (0 : Int32) (0 : Int32) fun w20 =>
      f_X7_fillGains_30 (f_X7_fillGains_2 n) 4096 v0 v1 v2 v3 r17 (1 : Int32) w20
def f_X7_fillGains (p0 : Nat) (p1 : Nat) (p2 : Int32) (w : Wd) : Option (Unit × Wd) :=
  f_X7_fillGains_2 4096 p0 p1 p2 (0 : Int32) w
def f_X7_fillMost_52 (rec26 : Nat → Int32 → Int32 → Wd → Option (Unit × Wd)) (rec33 : Nat → Int32 → Int32 → Int32 → Wd → Option (Unit × Wd)) : Nat → Nat → Int32 → Int32 → Int32 → Int32 → Wd → Option (Unit × Wd)
  | 0, _, _, _, _, _, _ => none
  | n + 1, v0, v2, v3, v4, v5, w =>
    if v4 < v5 then
      rec33 v0 v2 v3 ((v4 + (1 : Int32))) w
    else
      gR w v0 7 4 fun r1 =>
      lR w r1 19 v3 fun r2 =>
      gR w v0 7 4 fun r3 =>
      lR w r3 19 v3 fun r4 =>
      lI w r4 14 v4 fun x5 =>
      gR w v0 7 3 fun r6 =>
      lR w r6 19 v3 fun r7 =>
      lI w r7 14 v5 fun x8 =>
      gR w v0 7 4 fun r9 =>
      lR w r9 19 (v3 + (1 : Int32)) fun r10 =>
      lI w r10 14 (v4 - v5) fun x11 =>
      aI w r2 14 v4 (f_mmax x5 (x8 + x11)) fun w12 =>
      (f_X7_fillMost_52 rec26 rec33 n) v0 v2 v3 v4 ((v5 + (1 : Int32))) w12
def f_X7_fillMost_33 (rec26 : Nat → Int32 → Int32 → Wd → Option (Unit × Wd)) : Nat → Nat → Int32 → Int32 → Int32 → Wd → Option (Unit × Wd)
  | 0, _, _, _, _, _ => none
  | n + 1, v0, v2, v3, v4, w =>
    if v2 < v4 then
      rec26 v0 v2 ((v3 + (-1 : Int32))) w
    else
      gR w v0 7 4 fun r13 =>
      lR w r13 19 v3 fun r14 =>
      aI w r14 14 v4 (0 : Int32) fun w15 =>
      f_X7_fillMost_52 rec26 (f_X7_fillMost_33 rec26 n) 4096 v0 v2 v3 v4 (0 : Int32) w15
def f_X7_fillMost_26 : Nat → Nat → Int32 → Int32 → Wd → Option (Unit × Wd)
  | 0, _, _, _, _ => none
  | n + 1, v0, v2, v3, w =>
    if v3 < 0 then
      some ((), w)
    else
      f_X7_fillMost_33 (f_X7_fillMost_26 n) 4096 v0 v2 v3 (0 : Int32) w
def f_X7_fillMost_2 : Nat → Nat → Int32 → Int32 → Int32 → Wd → Option (Unit × Wd)
  | 0, _, _, _, _, _ => none
  | n + 1, v0, v1, v2, v3, w =>
    if v2 < v3 then
      nm ((v1 - (1 : Int32))) fun x16 =>
      f_X7_fillMost_26 4096 v0 v2 x16 w
    else
      gR w v0 7 4 fun r17 =>
      lR w r17 19 v1 fun r18 =>
      aI w r18 14 v3 (0 : Int32) fun w19 =>
      (f_X7_fillMost_2 n) v0 v1 v2 ((v3 + (1 : Int32))) w19
def f_X7_fillMost (p0 : Nat) (p1 : Int32) (p2 : Int32) (w : Wd) : Option (Unit × Wd) :=
  f_X7_fillMost_2 4096 p0 p1 p2 (0 : Int32) w
def f_X7_fillStreet_63 (rec2 : Nat → Nat → Int32 → Int32 → Wd → Option (Unit × Wd)) : Nat → Nat → Nat → Int32 → Int32 → Nat → Int32 → Int32 → Wd → Option (Unit × Wd)
  | 0, _, _, _, _, _, _, _, _ => none
  | n + 1, v0, v1, v2, v3, v4, v5, v6, w =>
    if v5 ≤ v6 then
      rec2 v0 v1 v2 ((v3 + (1 : Int32))) w
    else
      gI w v4 1 5 fun x1 =>
      nm ((x1 + ((2 : Int32) * v6))) fun x2 =>
      gR w v0 7 6 fun r3 =>
      lI w r3 14 v3 fun x4 =>
      calV w v4 1 (f_X1_fetchesWhen v4 x2 w) fun x6 w5 =>
      aI w5 r3 14 v3 (x4 + x6) fun w7 =>
      gR w7 v0 7 7 fun r8 =>
      lI w7 r8 14 v3 fun x9 =>
      calV w7 v4 1 (f_X1_fetchesWhen v4 (x2 + (1 : Int32)) w7) fun x11 w10 =>
      aI w10 r8 14 v3 (x9 + x11) fun w12 =>
      (f_X7_fillStreet_63 rec2 n) v0 v1 v2 v3 v4 v5 ((v6 + (1 : Int32))) w12
def f_X7_fillStreet_2 : Nat → Nat → Nat → Int32 → Int32 → Wd → Option (Unit × Wd)
  | 0, _, _, _, _, _ => none
  | n + 1, v0, v1, v2, v3, w =>
    gI w v1 2 4 fun x13 =>
    if x13 ≤ v3 then
      some ((), w)
    else
      gR w v1 2 0 fun r14 =>
      lR w r14 16 v3 fun r15 =>
      gR w v0 7 1 fun r16 =>
      lI w r16 14 v3 fun x17 =>
      nm ((v2 * x17)) fun x18 =>
      gR w v0 7 5 fun r19 =>
      gI w r15 1 5 fun x20 =>
      calV w r15 1 (f_X1_fetchedBy r15 x18 x20 w) fun x22 w21 =>
      aI w21 r19 14 v3 x22 fun w23 =>
      gR w23 v0 7 6 fun r24 =>
      aI w23 r24 14 v3 (0 : Int32) fun w25 =>
      gR w25 v0 7 7 fun r26 =>
      aI w25 r26 14 v3 (0 : Int32) fun w27 =>
      f_X7_fillStreet_63 (f_X7_fillStreet_2 n) 4096 v0 v1 v2 v3 r15 x18 (0 : Int32) w27
def f_X7_fillStreet (p0 : Nat) (p1 : Nat) (p2 : Int32) (w : Wd) : Option (Unit × Wd) :=
  f_X7_fillStreet_2 4096 p0 p1 p2 (0 : Int32) w
def f_X7_firstHas_20 (s0 : Int32) (w : Wd) : Option (Int32 × Wd) :=
  some (s0, w)
def f_X7_firstHas (p0 : Nat) (p1 : Int32) (p2 : Int32) (w : Wd) : Option (Int32 × Wd) :=
  if p1 = p2 then
    gR w p0 7 6 fun r3 =>
    lI w r3 14 p1 fun x4 =>
    f_X7_firstHas_20 x4 w
  else
    gR w p0 7 5 fun r1 =>
    lI w r1 14 p1 fun x2 =>
    f_X7_firstHas_20 x2 w
def f_X7_mostMoney_105 (rec25 : Nat → Nat → Int32 → Int32 → Int32 → Wd → Option (Int32 × Wd)) (v0 : Nat) (v1 : Nat) (v2 : Int32) (v3 : Int32) (v4 : Int32) (w : Wd) : Option (Int32 × Wd) :=
  gR w v0 7 0 fun r1 =>
  lI w r1 14 v4 fun x2 =>
  nm ((v3 - x2)) fun x3 =>
  rec25 v0 v1 v2 x3 ((v4 + (1 : Int32))) w
def f_X7_mostMoney_45 (rec25 : Nat → Nat → Int32 → Int32 → Int32 → Wd → Option (Int32 × Wd)) : Nat → Nat → Nat → Int32 → Int32 → Int32 → Int32 → Wd → Option (Int32 × Wd)
  | 0, _, _, _, _, _, _, _ => none
  | n + 1, v0, v1, v2, v3, v4, v5, w =>
    if v5 ≤ 0 then
      f_X7_mostMoney_105 rec25 v0 v1 v2 v3 v4 w
    else
      gR w v0 7 3 fun r4 =>
      lR w r4 19 v4 fun r5 =>
      lI w r5 14 v5 fun x6 =>
      gR w v0 7 4 fun r7 =>
      lR w r7 19 (v4 + (1 : Int32)) fun r8 =>
      lI w r8 14 (v3 - v5) fun x9 =>
      gR w v0 7 4 fun r10 =>
      lR w r10 19 v4 fun r11 =>
      lI w r11 14 v3 fun x12 =>
      if (x6 + x9) = x12 then
        gR w v0 7 0 fun r13 =>
        aI w r13 14 v4 v5 fun w14 =>
        f_X7_mostMoney_105 rec25 v0 v1 v2 v3 v4 w14
      else
        (f_X7_mostMoney_45 rec25 n) v0 v1 v2 v3 v4 ((v5 + (-1 : Int32))) w
def f_X7_mostMoney_25 : Nat → Nat → Nat → Int32 → Int32 → Int32 → Wd → Option (Int32 × Wd)
  | 0, _, _, _, _, _, _ => none
  | n + 1, v0, v1, v2, v3, v4, w =>
    gI w v1 2 4 fun x15 =>
    if x15 ≤ v4 then
      gR w v0 7 4 fun r16 =>
      lR w r16 19 (0 : Int32) fun r17 =>
      lI w r17 14 v2 fun x18 =>
      some (x18, w)
    else
      gR w v0 7 0 fun r19 =>
      aI w r19 14 v4 (0 : Int32) fun w20 =>
      f_X7_mostMoney_45 (f_X7_mostMoney_25 n) 4096 v0 v1 v2 v3 v4 v3 w20
def f_X7_mostMoney (p0 : Nat) (p1 : Nat) (p2 : Int32) (w : Wd) : Option (Int32 × Wd) :=
  calV w p0 7 (f_X7_fillYields p0 p1 w) fun _ w21 =>
  calV w21 p0 7 (f_X7_fillGains p0 p1 p2 w21) fun _ w23 =>
  gI w23 p1 2 4 fun x25 =>
  calV w23 p0 7 (f_X7_fillMost p0 x25 p2 w23) fun _ w26 =>
  f_X7_mostMoney_25 4096 p0 p1 p2 p2 (0 : Int32) w26
def f_X7_secondHas_20 (s0 : Int32) (w : Wd) : Option (Int32 × Wd) :=
  some (s0, w)
def f_X7_secondHas (p0 : Nat) (p1 : Int32) (p2 : Int32) (w : Wd) : Option (Int32 × Wd) :=
  if p1 = p2 then
    gR w p0 7 7 fun r3 =>
    lI w r3 14 p2 fun x4 =>
    f_X7_secondHas_20 x4 w
  else
    gR w p0 7 5 fun r1 =>
    lI w r1 14 p2 fun x2 =>
    f_X7_secondHas_20 x2 w
def f_X7_pairRests_41 (w : Wd) : Option (Int32 × Wd) :=
  rZ (0 : Int32) w
def f_X7_pairRests_3 : Nat → Nat → Int32 → Int32 → Int32 → Int32 → Wd → Option (Int32 × Wd)
  | 0, _, _, _, _, _, _ => none
  | n + 1, v0, v1, v2, v3, v4, w =>
    if v3 ≤ v4 then
      rZ (1 : Int32) w
    else
      calV w v0 7 (f_X7_firstHas v0 v4 v2 w) fun x2 w1 =>
      calV w1 v0 7 (f_X7_firstHas v0 v1 v2 w1) fun x4 w3 =>
      if x4 < x2 then
        f_X7_pairRests_41  w3
      else
        calV w3 v0 7 (f_X7_secondHas v0 v1 v4 w3) fun x6 w5 =>
        calV w5 v0 7 (f_X7_secondHas v0 v1 v2 w5) fun x8 w7 =>
        if x6 ≤ x8 then
          (f_X7_pairRests_3 n) v0 v1 v2 v3 ((v4 + (1 : Int32))) w7
        else
          f_X7_pairRests_41  w7
def f_X7_pairRests (p0 : Nat) (p1 : Int32) (p2 : Int32) (p3 : Int32) (w : Wd) : Option (Int32 × Wd) :=
  f_X7_pairRests_3 4096 p0 p1 p2 p3 (0 : Int32) w
def f_X7_restingPairs_98 (s0 : Int32) (w : Wd) : Option (Int32 × Wd) :=
  some (s0, w)
def f_X7_restingPairs_74 (rec17 : Nat → Nat → Int32 → Int32 → Int32 → Wd → Option (Int32 × Wd)) (rec29 : Nat → Nat → Int32 → Int32 → Int32 → Int32 → Wd → Option (Int32 × Wd)) (v0 : Nat) (v1 : Nat) (v3 : Int32) (v4 : Int32) (v5 : Int32) (v6 : Int32) (w : Wd) : Option (Int32 × Wd) :=
  rec29 v0 v1 v3 v4 v5 ((v6 + (1 : Int32))) w
def f_X7_restingPairs_29 (rec17 : Nat → Nat → Int32 → Int32 → Int32 → Wd → Option (Int32 × Wd)) : Nat → Nat → Nat → Int32 → Int32 → Int32 → Int32 → Wd → Option (Int32 × Wd)
  | 0, _, _, _, _, _, _, _ => none
  | n + 1, v0, v1, v3, v4, v5, v6, w =>
    gI w v1 2 4 fun x1 =>
    if x1 ≤ v6 then
      rec17 v0 v1 v3 v4 ((v5 + (1 : Int32))) w
    else
      gI w v1 2 4 fun x2 =>
      calV w v0 7 (f_X7_pairRests v0 v5 v6 x2 w) fun x4 w3 =>
      if x4 = 0 then
        f_X7_restingPairs_74 rec17 (f_X7_restingPairs_29 rec17 n) v0 v1 v3 v4 v5 v6 w3
      else
        if v4 = v3 then
          some ((((6 : Int32) * v5) + v6), w3)
        else
          f_X7_restingPairs_74 rec17 (f_X7_restingPairs_29 rec17 n) v0 v1 v3 ((v4 + (1 : Int32))) v5 v6 w3
def f_X7_restingPairs_17 : Nat → Nat → Nat → Int32 → Int32 → Int32 → Wd → Option (Int32 × Wd)
  | 0, _, _, _, _, _, _ => none
  | n + 1, v0, v1, v3, v4, v5, w =>
    gI w v1 2 4 fun x5 =>
    if x5 ≤ v5 then
      if v3 = (-1 : Int32) then
        f_X7_restingPairs_98 v4 w
      else
        f_X7_restingPairs_98 (-5 : Int32) w
    else
      f_X7_restingPairs_29 (f_X7_restingPairs_17 n) 4096 v0 v1 v3 v4 v5 (0 : Int32) w
def f_X7_restingPairs (p0 : Nat) (p1 : Nat) (p2 : Int32) (p3 : Int32) (w : Wd) : Option (Int32 × Wd) :=
  calV w p0 7 (f_X7_fillYields p0 p1 w) fun _ w6 =>
  calV w6 p0 7 (f_X7_fillStreet p0 p1 p2 w6) fun _ w8 =>
  f_X7_restingPairs_17 4096 p0 p1 p3 (0 : Int32) (0 : Int32) w8
def f_X10_append_31 (w : Wd) : Option (Unit × Wd) :=
  some ((), w)
def f_X10_append (p0 : Nat) (p1 : Int32) (w : Wd) : Option (Unit × Wd) :=
  gI w p0 10 1 fun x1 =>
  if (150 : Int32) ≤ x1 then
    f_X10_append_31  w
  else
    gR w p0 10 0 fun r2 =>
    gI w p0 10 1 fun x3 =>
    aI w r2 13 x3 (vp_nar .byte (p1.toInt8.toInt32)) fun w4 =>
    gI w4 p0 10 1 fun x5 =>
    pI w4 p0 10 1 (x5 + (1 : Int32)) fun w6 =>
    f_X10_append_31  w6
def f_X10_failAt_13 (w : Wd) : Option (Unit × Wd) :=
  some ((), w)
def f_X10_failAt (p0 : Nat) (p1 : Int32) (w : Wd) : Option (Unit × Wd) :=
  gI w p0 10 2 fun x1 =>
  if x1 = (-1 : Int32) then
    pI w p0 10 2 p1 fun w2 =>
    f_X10_failAt_13  w2
  else
    f_X10_failAt_13  w
def f_X10_isNamed_17 : Nat → Nat → Int32 → Nat → Int32 → Wd → Option (Int32 × Wd)
  | 0, _, _, _, _, _ => none
  | n + 1, v0, v1, v2, v3, w =>
    cal (f_S_length v2 w) fun x2 w1 =>
    if x2 ≤ v3 then
      rZ (1 : Int32) w1
    else
      gR w1 v0 10 0 fun r3 =>
      lI w1 r3 13 (v1 + v3) fun x4 =>
      cal (f_S_charAt v2 v3 w1) fun x6 w5 =>
      if x4 = x6 then
        (f_X10_isNamed_17 n) v0 v1 v2 ((v3 + (1 : Int32))) w5
      else
        rZ (0 : Int32) w5
def f_X10_isNamed (p0 : Nat) (p1 : Int32) (p2 : Nat) (w : Wd) : Option (Int32 × Wd) :=
  gI w p0 10 3 fun x7 =>
  cal (f_S_length p2 w) fun x9 w8 =>
  if (x7 - p1) = x9 then
    f_X10_isNamed_17 4096 p0 p1 p2 (0 : Int32) w8
  else
    rZ (0 : Int32) w8
def f_X10_passBlanks_38 (w : Wd) : Option (Unit × Wd) :=
  some ((), w)
def f_X10_passBlanks_0 : Nat → Nat → Wd → Option (Unit × Wd)
  | 0, _, _ => none
  | n + 1, v0, w =>
    gI w v0 10 3 fun x1 =>
    gI w v0 10 1 fun x2 =>
    if x2 ≤ x1 then
      f_X10_passBlanks_38  w
    else
      gR w v0 10 0 fun r3 =>
      gI w v0 10 3 fun x4 =>
      lI w r3 13 x4 fun x5 =>
      if x5 = (32 : Int32) then
        gI w v0 10 3 fun x6 =>
        pI w v0 10 3 (x6 + (1 : Int32)) fun w7 =>
        (f_X10_passBlanks_0 n) v0 w7
      else
        f_X10_passBlanks_38  w
def f_X10_passBlanks (p0 : Nat) (w : Wd) : Option (Unit × Wd) :=
  f_X10_passBlanks_0 4096 p0 w
def f_X11_within_15 (s0 : Int32) (w : Wd) : Option (Int32 × Wd) :=
  rZ s0 w
def f_X11_within_14 (w : Wd) : Option (Int32 × Wd) :=
  f_X11_within_15 (0 : Int32) w
def f_X11_within (p0 : Int32) (p1 : Int32) (p2 : Int32) (w : Wd) : Option (Int32 × Wd) :=
  if p0 < p1 then
    f_X11_within_14  w
  else
    if p2 < p0 then
      f_X11_within_14  w
    else
      f_X11_within_15 (1 : Int32) w
def f_X10_passLetters_43 (w : Wd) : Option (Unit × Wd) :=
  some ((), w)
def f_X10_passLetters_0 : Nat → Nat → Wd → Option (Unit × Wd)
  | 0, _, _ => none
  | n + 1, v0, w =>
    gI w v0 10 3 fun x1 =>
    gI w v0 10 1 fun x2 =>
    if x2 ≤ x1 then
      f_X10_passLetters_43  w
    else
      gR w v0 10 0 fun r3 =>
      gI w v0 10 3 fun x4 =>
      lI w r3 13 x4 fun x5 =>
      cal (f_X11_within x5 (97 : Int32) (122 : Int32) w) fun x7 w6 =>
      if x7 = 0 then
        f_X10_passLetters_43  w6
      else
        gI w6 v0 10 3 fun x8 =>
        pI w6 v0 10 3 (x8 + (1 : Int32)) fun w9 =>
        (f_X10_passLetters_0 n) v0 w9
def f_X10_passLetters (p0 : Nat) (w : Wd) : Option (Unit × Wd) :=
  f_X10_passLetters_0 4096 p0 w
def f_X10_readItemsEnd_54 (w : Wd) : Option (Unit × Wd) :=
  some ((), w)
def f_X10_readItemsEnd_46 (v0 : Nat) (w : Wd) : Option (Unit × Wd) :=
  gI w v0 10 3 fun x1 =>
  calV w v0 10 (f_X10_failAt v0 x1 w) fun _ w2 =>
  f_X10_readItemsEnd_54  w2
def f_X10_readItemsEnd (p0 : Nat) (w : Wd) : Option (Unit × Wd) :=
  calV w p0 10 (f_X10_passBlanks p0 w) fun _ w4 =>
  gI w4 p0 10 3 fun x6 =>
  gI w4 p0 10 1 fun x7 =>
  if x7 ≤ x6 then
    f_X10_readItemsEnd_46 p0 w4
  else
    gR w4 p0 10 0 fun r8 =>
    gI w4 p0 10 3 fun x9 =>
    lI w4 r8 13 x9 fun x10 =>
    if x10 = (59 : Int32) then
      gI w4 p0 10 3 fun x11 =>
      pI w4 p0 10 3 (x11 + (1 : Int32)) fun w12 =>
      calV w12 p0 10 (f_X10_passBlanks p0 w12) fun _ w13 =>
      f_X10_readItemsEnd_54  w13
    else
      f_X10_readItemsEnd_46 p0 w4
def f_X10_readNumber_116 (v4 : Int32) (w : Wd) : Option (Int32 × Wd) :=
  some (v4, w)
def f_X10_readNumber_111 (v0 : Nat) (v3 : Int32) (v4 : Int32) (w : Wd) : Option (Int32 × Wd) :=
  calV w v0 10 (f_X10_failAt v0 v3 w) fun _ w1 =>
  f_X10_readNumber_116 v4 w1
def f_X10_readNumber_81 (v0 : Nat) (v1 : Int32) (v2 : Int32) (v3 : Int32) (v4 : Int32) (w : Wd) : Option (Int32 × Wd) :=
  gI w v0 10 3 fun x3 =>
  nm ((x3 - v3)) fun x4 =>
  if x4 < (1 : Int32) then
    f_X10_readNumber_111 v0 v3 v4 w
  else
    if (2 : Int32) < x4 then
      f_X10_readNumber_111 v0 v3 v4 w
    else
      cal (f_X11_within v4 v1 v2 w) fun x6 w5 =>
      if x6 = 0 then
        f_X10_readNumber_111 v0 v3 v4 w5
      else
        f_X10_readNumber_116 v4 w5
def f_X10_readNumber_12 : Nat → Nat → Int32 → Int32 → Int32 → Int32 → Wd → Option (Int32 × Wd)
  | 0, _, _, _, _, _, _ => none
  | n + 1, v0, v1, v2, v3, v4, w =>
    gI w v0 10 3 fun x7 =>
    gI w v0 10 1 fun x8 =>
    if x8 ≤ x7 then
      f_X10_readNumber_81 v0 v1 v2 v3 v4 w
    else
      gR w v0 10 0 fun r9 =>
      gI w v0 10 3 fun x10 =>
      lI w r9 13 x10 fun x11 =>
      cal (f_X11_within x11 (48 : Int32) (57 : Int32) w) fun x13 w12 =>
      if x13 = 0 then
        f_X10_readNumber_81 v0 v1 v2 v3 v4 w12
      else
        gR w12 v0 10 0 fun r14 =>
        gI w12 v0 10 3 fun x15 =>
        lI w12 r14 13 x15 fun x16 =>
        nm ((f_mmin (1000 : Int32) (((v4 * (10 : Int32)) + x16) - (48 : Int32)))) fun x17 =>
        gI w12 v0 10 3 fun x18 =>
        pI w12 v0 10 3 (x18 + (1 : Int32)) fun w19 =>
        (f_X10_readNumber_12 n) v0 v1 v2 v3 x17 w19
def f_X10_readNumber (p0 : Nat) (p1 : Int32) (p2 : Int32) (w : Wd) : Option (Int32 × Wd) :=
  calV w p0 10 (f_X10_passBlanks p0 w) fun _ w20 =>
  gI w20 p0 10 3 fun x22 =>
  f_X10_readNumber_12 4096 p0 p1 p2 x22 (0 : Int32) w20
def f_X10_readFirstItem_38 (v0 : Nat) (w : Wd) : Option (Unit × Wd) :=
  calV w v0 10 (f_X10_readItemsEnd v0 w) fun _ w1 =>
  some ((), w1)
def f_X10_readFirstItem (p0 : Nat) (p1 : Nat) (w : Wd) : Option (Unit × Wd) :=
  gI w p0 10 3 fun x3 =>
  calV w p0 10 (f_X10_passLetters p0 w) fun _ w4 =>
  calV w4 p0 10 (f_X10_isNamed p0 x3 0 w4) fun x7 w6 =>
  if x7 = 0 then
    calV w6 p0 10 (f_X10_failAt p0 x3 w6) fun _ w8 =>
    f_X10_readFirstItem_38 p0 w8
  else
    calV w6 p0 10 (f_X10_readNumber p0 (0 : Int32) (99 : Int32) w6) fun x11 w10 =>
    pI w10 p1 2 5 x11 fun w12 =>
    f_X10_readFirstItem_38 p0 w12
def f_X10_readGoods_56 (w : Wd) : Option (Unit × Wd) :=
  some ((), w)
def f_X10_readGoods_14 (v0 : Nat) (v1 : Nat) (w : Wd) : Option (Unit × Wd) :=
  calV w v0 10 (f_X10_readNumber v0 (0 : Int32) (5 : Int32) w) fun x2 w1 =>
  calV w1 v0 10 (f_X10_readNumber v0 (1 : Int32) (9 : Int32) w1) fun x4 w3 =>
  calV w3 v0 10 (f_X10_readNumber v0 (0 : Int32) (40 : Int32) w3) fun x6 w5 =>
  gI w5 v0 10 2 fun x7 =>
  if x7 = (-1 : Int32) then
    calV w5 v1 2 (f_X2_addGoods v1 x2 x4 x6 w5) fun _ w8 =>
    f_X10_readGoods_56  w8
  else
    f_X10_readGoods_56  w5
def f_X10_readGoods (p0 : Nat) (p1 : Nat) (p2 : Int32) (w : Wd) : Option (Unit × Wd) :=
  gI w p1 2 4 fun x10 =>
  if x10 < (6 : Int32) then
    f_X10_readGoods_14 p0 p1 w
  else
    calV w p0 10 (f_X10_failAt p0 p2 w) fun _ w11 =>
    f_X10_readGoods_14 p0 p1 w11
def f_X10_readLaterItem_109 (v0 : Nat) (w : Wd) : Option (Unit × Wd) :=
  calV w v0 10 (f_X10_readItemsEnd v0 w) fun _ w1 =>
  some ((), w1)
def f_X10_readLaterItem (p0 : Nat) (p1 : Nat) (w : Wd) : Option (Unit × Wd) :=
  gI w p0 10 3 fun x3 =>
  calV w p0 10 (f_X10_passLetters p0 w) fun _ w4 =>
  calV w4 p0 10 (f_X10_isNamed p0 x3 1 w4) fun x7 w6 =>
  if x7 = 0 then
    calV w6 p0 10 (f_X10_isNamed p0 x3 2 w6) fun x9 w8 =>
    if x9 = 0 then
      calV w8 p0 10 (f_X10_isNamed p0 x3 3 w8) fun x11 w10 =>
      if x11 = 0 then
        calV w10 p0 10 (f_X10_isNamed p0 x3 4 w10) fun x13 w12 =>
        if x13 = 0 then
          calV w12 p0 10 (f_X10_failAt p0 x3 w12) fun _ w14 =>
          f_X10_readLaterItem_109 p0 w14
        else
          calV w12 p0 10 (f_X10_readNumber p0 (0 : Int32) (9 : Int32) w12) fun x17 w16 =>
          pI w16 p1 2 8 x17 fun w18 =>
          f_X10_readLaterItem_109 p0 w18
      else
        calV w10 p0 10 (f_X10_readNumber p0 (0 : Int32) (31 : Int32) w10) fun x20 w19 =>
        pI w19 p1 2 6 x20 fun w21 =>
        f_X10_readLaterItem_109 p0 w21
    else
      gI w8 p1 2 4 fun x22 =>
      calV w8 p0 10 (f_X10_readNumber p0 (0 : Int32) (x22 - (1 : Int32)) w8) fun x24 w23 =>
      pI w23 p1 2 7 x24 fun w25 =>
      f_X10_readLaterItem_109 p0 w25
  else
    calV w6 p0 10 (f_X10_readGoods p0 p1 x3 w6) fun _ w26 =>
    f_X10_readLaterItem_109 p0 w26
def f_X10_readInto_64 (v2 : Int32) (w : Wd) : Option (Int32 × Wd) :=
  some (v2, w)
def f_X10_readInto_27 : Nat → Nat → Nat → Int32 → Wd → Option (Int32 × Wd)
  | 0, _, _, _, _ => none
  | n + 1, v0, v1, v2, w =>
    if (150 : Int32) ≤ v2 then
      f_X10_readInto_64 v2 w
    else
      gI w v0 10 2 fun x1 =>
      if x1 = (-1 : Int32) then
        gI w v0 10 3 fun x2 =>
        gI w v0 10 1 fun x3 =>
        if x3 ≤ x2 then
          f_X10_readInto_64 v2 w
        else
          calV w v0 10 (f_X10_readLaterItem v0 v1 w) fun _ w4 =>
          (f_X10_readInto_27 n) v0 v1 ((v2 + (1 : Int32))) w4
      else
        f_X10_readInto_64 v2 w
def f_X10_readInto (p0 : Nat) (p1 : Nat) (w : Wd) : Option (Int32 × Wd) :=
  pI w p0 10 3 (0 : Int32) fun w6 =>
  pI w6 p0 10 2 (-1 : Int32) fun w7 =>
  calV w7 p1 2 (f_X2_startAnew p1 (60 : Int32) w7) fun _ w8 =>
  calV w8 p0 10 (f_X10_passBlanks p0 w8) fun _ w10 =>
  calV w10 p0 10 (f_X10_readFirstItem p0 p1 w10) fun _ w12 =>
  f_X10_readInto_27 4096 p0 p1 (1 : Int32) w12
def f_X11_amountOf (p0 : Nat) (p1 : Int32) (w : Wd) : Option (Int32 × Wd) :=
  if p1 = (0 : Int32) then
    gR w p0 11 5 fun r1 =>
    gI w r1 2 4 fun x2 =>
    some (x2, w)
  else
    if p1 = (1 : Int32) then
      gR w p0 11 5 fun r3 =>
      gI w r3 2 9 fun x4 =>
      some (x4, w)
    else
      if p1 = (2 : Int32) then
        gR w p0 11 5 fun r5 =>
        calV w r5 2 (f_X2_allBushels r5 w) fun x7 w6 =>
        some (x7, w6)
      else
        if p1 = (3 : Int32) then
          gR w p0 11 5 fun r8 =>
          gI w r8 2 10 fun x9 =>
          some (x9, w)
        else
          if p1 = (4 : Int32) then
            gR w p0 11 5 fun r10 =>
            gI w r10 2 11 fun x11 =>
            some (x11, w)
          else
            if p1 = (5 : Int32) then
              gR w p0 11 5 fun r12 =>
              gR w r12 2 1 fun r13 =>
              gI w r13 0 6 fun x14 =>
              some (x14, w)
            else
              if p1 = (6 : Int32) then
                gR w p0 11 5 fun r15 =>
                gR w r15 2 1 fun r16 =>
                gI w r16 0 7 fun x17 =>
                some (x17, w)
              else
                if p1 = (7 : Int32) then
                  gR w p0 11 5 fun r18 =>
                  gI w r18 2 3 fun x19 =>
                  some (x19, w)
                else
                  if p1 = (8 : Int32) then
                    gR w p0 11 2 fun r20 =>
                    gI w r20 10 1 fun x21 =>
                    some (x21, w)
                  else
                    gR w p0 11 5 fun r22 =>
                    gI w r22 2 8 fun x23 =>
                    some (x23, w)
def f_X11_refuse_30 (v1 : Int32) (w : Wd) : Option (Int32 × Wd) :=
  some (v1, w)
def f_X11_refuse (p0 : Nat) (p1 : Int32) (w : Wd) : Option (Int32 × Wd) :=
  nm (((-2 : Int32) - p1)) fun x1 =>
  gR w p0 11 4 fun r2 =>
  lenA w r2 14 fun x3 =>
  cal (f_X11_within x1 (0 : Int32) (x3 - (1 : Int32)) w) fun x5 w4 =>
  if x5 = 0 then
    f_X11_refuse_30 p1 w4
  else
    gR w4 p0 11 4 fun r6 =>
    lI w4 r6 14 x1 fun x7 =>
    aI w4 r6 14 x1 (x7 + (1 : Int32)) fun w8 =>
    f_X11_refuse_30 p1 w8
def f_X11_refuseApart (p0 : Nat) (w : Wd) : Option (Int32 × Wd) :=
  calV w p0 11 (f_X11_refuse p0 (-2 : Int32) w) fun x2 w1 =>
  some ((-10 : Int32), w1)
def f_X11_best_62 (s0 : Int32) (w : Wd) : Option (Int32 × Wd) :=
  some (s0, w)
def f_X11_best_31 (v0 : Nat) (v1 : Int32) (v2 : Int32) (w : Wd) : Option (Int32 × Wd) :=
  gR w v0 11 3 fun r1 =>
  gR w v0 11 5 fun r2 =>
  calV w r1 7 (f_X7_mostMoney r1 r2 v1 w) fun x4 w3 =>
  if v2 = (-1 : Int32) then
    f_X11_best_62 x4 w3
  else
    gR w3 v0 11 3 fun r5 =>
    gR w3 r5 7 0 fun r6 =>
    lI w3 r6 14 v2 fun x7 =>
    f_X11_best_62 x7 w3
def f_X11_best_26 (v0 : Nat) (w : Wd) : Option (Int32 × Wd) :=
  calV w v0 11 (f_X11_refuseApart v0 w) fun x9 w8 =>
  some (x9, w8)
def f_X11_best (p0 : Nat) (p1 : Int32) (p2 : Int32) (w : Wd) : Option (Int32 × Wd) :=
  cal (f_X11_within p1 (0 : Int32) (12 : Int32) w) fun x11 w10 =>
  if x11 = 0 then
    f_X11_best_26 p0 w10
  else
    if p2 = (-1 : Int32) then
      f_X11_best_31 p0 p1 p2 w10
    else
      gR w10 p0 11 5 fun r12 =>
      calV w10 r12 2 (f_X2_has r12 p2 w10) fun x14 w13 =>
      if x14 = 0 then
        f_X11_best_26 p0 w13
      else
        f_X11_best_31 p0 p1 p2 w13
def f_X11_clear (p0 : Nat) (w : Wd) : Option (Int32 × Wd) :=
  gR w p0 11 2 fun r1 =>
  gI w r1 10 1 fun x2 =>
  gR w p0 11 2 fun r3 =>
  pI w r3 10 1 (0 : Int32) fun w4 =>
  some (x2, w4)
def f_X11_cold (p0 : Nat) (p1 : Int32) (w : Wd) : Option (Int32 × Wd) :=
  cal (f_X11_within p1 (0 : Int32) (9 : Int32) w) fun x2 w1 =>
  if x2 = 0 then
    calV w1 p0 11 (f_X11_refuse p0 (-2 : Int32) w1) fun x11 w10 =>
    some (x11, w10)
  else
    gR w1 p0 11 5 fun r3 =>
    calV w1 r3 2 (f_X2_remember r3 w1) fun _ w4 =>
    gR w4 p0 11 5 fun r6 =>
    gI w4 r6 2 8 fun x7 =>
    gR w4 p0 11 5 fun r8 =>
    pI w4 r8 2 8 p1 fun w9 =>
    some (x7, w9)
def f_X11_count_24 (s0 : Int32) (w : Wd) : Option (Int32 × Wd) :=
  some (s0, w)
def f_X11_count (p0 : Nat) (p1 : Int32) (w : Wd) : Option (Int32 × Wd) :=
  cal (f_X11_within p1 (0 : Int32) (9 : Int32) w) fun x2 w1 =>
  if x2 = 0 then
    calV w1 p0 11 (f_X11_refuse p0 (-2 : Int32) w1) fun x4 w3 =>
    f_X11_count_24 x4 w3
  else
    calV w1 p0 11 (f_X11_amountOf p0 p1 w1) fun x6 w5 =>
    f_X11_count_24 x6 w5
def f_X11_digest_6 : Nat → Nat → Int64 → Int32 → Wd → Option (Int64 × Wd)
  | 0, _, _, _, _ => none
  | n + 1, v0, v1, v3, w =>
    if (9 : Int32) < v3 then
      gR w v0 11 5 fun r1 =>
      calV w r1 2 (f_X2_mixInto r1 v1 w) fun x3 w2 =>
      gL w2 v0 11 7 fun x4 =>
      nm ((((31 : Int64) * x3) + x4)) fun x5 =>
      gL w2 v0 11 8 fun x6 =>
      some ((((31 : Int64) * x5) + x6), w2)
    else
      calV w v0 11 (f_X11_amountOf v0 v3 w) fun x8 w7 =>
      nm ((((31 : Int64) * v1) + (x8.toInt64))) fun x9 =>
      (f_X11_digest_6 n) v0 x9 ((v3 + (1 : Int32))) w7
def f_X11_digest (p0 : Nat) (w : Wd) : Option (Int64 × Wd) :=
  f_X11_digest_6 4096 p0 (1231 : Int64) (0 : Int32) w
def f_X11_forget_73 (v2 : Int32) (w : Wd) : Option (Int32 × Wd) :=
  some (v2, w)
def f_X11_forget_43 (v0 : Nat) (v1 : Int32) (s0 : Int32) (w : Wd) : Option (Int32 × Wd) :=
  if v1 = 0 then
    gR w v0 11 5 fun r4 =>
    gR w r4 2 1 fun r5 =>
    pI w r5 0 6 (0 : Int32) fun w6 =>
    f_X11_forget_73 s0 w6
  else
    gR w v0 11 5 fun r1 =>
    gR w r1 2 1 fun r2 =>
    pI w r2 0 7 (0 : Int32) fun w3 =>
    f_X11_forget_73 s0 w3
def f_X11_forget (p0 : Nat) (p1 : Int32) (w : Wd) : Option (Int32 × Wd) :=
  cal (f_X11_within p1 (0 : Int32) (1 : Int32) w) fun x8 w7 =>
  if x8 = 0 then
    calV w7 p0 11 (f_X11_refuse p0 (-2 : Int32) w7) fun x16 w15 =>
    some (x16, w15)
  else
    if p1 = 0 then
      gR w7 p0 11 5 fun r12 =>
      gR w7 r12 2 1 fun r13 =>
      gI w7 r13 0 6 fun x14 =>
      f_X11_forget_43 p0 p1 x14 w7
    else
      gR w7 p0 11 5 fun r9 =>
      gR w7 r9 2 1 fun r10 =>
      gI w7 r10 0 7 fun x11 =>
      f_X11_forget_43 p0 p1 x11 w7
def f_X11_from (p0 : Nat) (p1 : Int32) (w : Wd) : Option (Int32 × Wd) :=
  cal (f_X11_within p1 (0 : Int32) (1 : Int32) w) fun x2 w1 =>
  if x2 = 0 then
    calV w1 p0 11 (f_X11_refuse p0 (-2 : Int32) w1) fun x13 w12 =>
    some (x13, w12)
  else
    gR w1 p0 11 1 fun r3 =>
    lI w1 r3 15 p1 fun x4 =>
    if x4 = 0 then
      calV w1 p0 11 (f_X11_refuse p0 (-3 : Int32) w1) fun x11 w10 =>
      some (x11, w10)
    else
      gR w1 p0 11 5 fun r5 =>
      gR w1 p0 11 0 fun r6 =>
      lR w1 r6 17 p1 fun r7 =>
      calV w1 r5 2 (f_X2_copyFrom r5 r7 w1) fun _ w8 =>
      some ((1 : Int32), w8)
def f_X11_full_10 : Nat → Nat → Int32 → Int32 → Wd → Option (Int32 × Wd)
  | 0, _, _, _, _ => none
  | n + 1, v0, v1, v2, w =>
    if (60 : Int32) < v2 then
      some ((-1 : Int32), w)
    else
      gR w v0 11 5 fun r1 =>
      gI w r1 2 5 fun x2 =>
      if v1 < x2 then
        gR w v0 11 5 fun r3 =>
        gR w v0 11 5 fun r4 =>
        gI w r4 2 7 fun x5 =>
        gR w v0 11 5 fun r6 =>
        gI w r6 2 9 fun x7 =>
        calV w r3 2 (f_X2_groundBy r3 x5 (x7 + v2) w) fun x9 w8 =>
        nm ((v1 + x9)) fun x10 =>
        (f_X11_full_10 n) v0 x10 ((v2 + (1 : Int32))) w8
      else
        some (v2, w)
def f_X11_full (p0 : Nat) (w : Wd) : Option (Int32 × Wd) :=
  gR w p0 11 5 fun r11 =>
  calV w r11 2 (f_X2_allBushels r11 w) fun x13 w12 =>
  f_X11_full_10 4096 p0 x13 (0 : Int32) w12
def f_X11_goods_29 (v0 : Nat) (w : Wd) : Option (Int32 × Wd) :=
  calV w v0 11 (f_X11_refuse v0 (-2 : Int32) w) fun x2 w1 =>
  some (x2, w1)
def f_X11_goods (p0 : Nat) (p1 : Int32) (p2 : Int32) (p3 : Int32) (w : Wd) : Option (Int32 × Wd) :=
  cal (f_X11_within p1 (0 : Int32) (5 : Int32) w) fun x4 w3 =>
  if x4 = 0 then
    f_X11_goods_29 p0 w3
  else
    cal (f_X11_within p2 (1 : Int32) (9 : Int32) w3) fun x6 w5 =>
    if x6 = 0 then
      f_X11_goods_29 p0 w5
    else
      cal (f_X11_within p3 (0 : Int32) (40 : Int32) w5) fun x8 w7 =>
      if x8 = 0 then
        f_X11_goods_29 p0 w7
      else
        gR w7 p0 11 5 fun r9 =>
        gI w7 r9 2 4 fun x10 =>
        if x10 < (6 : Int32) then
          gR w7 p0 11 5 fun r11 =>
          calV w7 r11 2 (f_X2_addGoods r11 p1 p2 p3 w7) fun _ w12 =>
          gR w12 p0 11 5 fun r14 =>
          gI w12 r14 2 4 fun x15 =>
          some ((x15 - (1 : Int32)), w12)
        else
          calV w7 p0 11 (f_X11_refuse p0 (-4 : Int32) w7) fun x17 w16 =>
          some (x17, w16)
def f_X11_greatestDivisor_45 (v4 : Int64) (w : Wd) : Option (Int64 × Wd) :=
  some (v4, w)
def f_X11_greatestDivisor_9 : Nat → Int64 → Int64 → Int32 → Wd → Option (Int64 × Wd)
  | 0, _, _, _, _ => none
  | n + 1, v4, v6, v8, w =>
    if (200 : Int32) ≤ v8 then
      f_X11_greatestDivisor_45 v4 w
    else
      if (lg_cmp v6 (0 : Int64)) = 0 then
        f_X11_greatestDivisor_45 v4 w
      else
        nzL v6 <|
        nm ((lrm v4 v6)) fun x1 =>
        (f_X11_greatestDivisor_9 n) v6 x1 ((v8 + (1 : Int32))) w
def f_X11_greatestDivisor (p0 : Int64) (p2 : Int64) (w : Wd) : Option (Int64 × Wd) :=
  f_X11_greatestDivisor_9 4096 p0 p2 (0 : Int32) w
def f_X11_grind (p0 : Nat) (p1 : Int32) (w : Wd) : Option (Int32 × Wd) :=
  gR w p0 11 5 fun r1 =>
  calV w r1 2 (f_X2_has r1 p1 w) fun x3 w2 =>
  if x3 = 0 then
    calV w2 p0 11 (f_X11_refuseApart p0 w2) fun x12 w11 =>
    some (x12, w11)
  else
    gR w2 p0 11 5 fun r4 =>
    calV w2 r4 2 (f_X2_remember r4 w2) fun _ w5 =>
    gR w5 p0 11 5 fun r7 =>
    gI w5 r7 2 7 fun x8 =>
    gR w5 p0 11 5 fun r9 =>
    pI w5 r9 2 7 p1 fun w10 =>
    some (x8, w10)
def f_X11_grinds (p0 : Nat) (w : Wd) : Option (Int32 × Wd) :=
  gR w p0 11 5 fun r1 =>
  gI w r1 2 7 fun x2 =>
  some (x2, w)
def f_X11_isWord (p0 : Int32) (w : Wd) : Option (Int32 × Wd) :=
  cal (f_X11_within p0 (0 : Int32) (31 : Int32) w) fun x2 w1 =>
  rZ x2 w1
def f_X11_guess_16 (v0 : Nat) (w : Wd) : Option (Int32 × Wd) :=
  calV w v0 11 (f_X11_refuse v0 (-2 : Int32) w) fun x2 w1 =>
  some (x2, w1)
def f_X11_guess (p0 : Nat) (p1 : Int32) (p2 : Int32) (w : Wd) : Option (Int32 × Wd) :=
  cal (f_X11_isWord p1 w) fun x4 w3 =>
  if x4 = 0 then
    f_X11_guess_16 p0 w3
  else
    cal (f_X11_within p2 (0 : Int32) (5 : Int32) w3) fun x6 w5 =>
    if x6 = 0 then
      f_X11_guess_16 p0 w5
    else
      gR w5 p0 11 5 fun r7 =>
      gR w5 r7 2 1 fun r8 =>
      gI w5 r8 0 6 fun x9 =>
      if x9 < (6 : Int32) then
        gR w5 p0 11 5 fun r10 =>
        gR w5 r10 2 1 fun r11 =>
        calV w5 r11 0 (f_X0_addGuess r11 p1 p2 w5) fun _ w12 =>
        gR w12 p0 11 5 fun r14 =>
        gR w12 r14 2 1 fun r15 =>
        gI w12 r15 0 6 fun x16 =>
        some (x16, w12)
      else
        calV w5 p0 11 (f_X11_refuse p0 (-4 : Int32) w5) fun x18 w17 =>
        some (x18, w17)
def f_X11_hour_28 : Nat → Nat → Int32 → Int32 → Int32 → Wd → Option (Int32 × Wd)
  | 0, _, _, _, _, _ => none
  | n + 1, v0, v1, v2, v3, w =>
    if v1 ≤ v3 then
      some (v2, w)
    else
      gR w v0 11 5 fun r1 =>
      calV w r1 2 (f_X2_passHour r1 w) fun x3 w2 =>
      nm ((v2 + x3)) fun x4 =>
      (f_X11_hour_28 n) v0 v1 x4 ((v3 + (1 : Int32))) w2
def f_X11_hour (p0 : Nat) (p1 : Int32) (w : Wd) : Option (Int32 × Wd) :=
  cal (f_X11_within p1 (1 : Int32) (60 : Int32) w) fun x6 w5 =>
  if x6 = 0 then
    calV w5 p0 11 (f_X11_refuse p0 (-2 : Int32) w5) fun x11 w10 =>
    some (x11, w10)
  else
    gR w5 p0 11 5 fun r7 =>
    calV w5 r7 2 (f_X2_remember r7 w5) fun _ w8 =>
    f_X11_hour_28 4096 p0 p1 (0 : Int32) (0 : Int32) w8
def f_X11_image (p0 : Nat) (p1 : Int32) (w : Wd) : Option (Int32 × Wd) :=
  cal (f_X11_within p1 (0 : Int32) (1 : Int32) w) fun x2 w1 =>
  if x2 = 0 then
    calV w1 p0 11 (f_X11_refuse p0 (-2 : Int32) w1) fun x11 w10 =>
    some (x11, w10)
  else
    gR w1 p0 11 0 fun r3 =>
    lR w1 r3 17 p1 fun r4 =>
    gR w1 p0 11 5 fun r5 =>
    calV w1 r4 2 (f_X2_copyFrom r4 r5 w1) fun _ w6 =>
    gR w6 p0 11 1 fun r8 =>
    aI w6 r8 15 p1 (vp_nar .boolean (1 : Int32)) fun w9 =>
    some ((1 : Int32), w9)
def f_X11_is_74 (s0 : Int32) (w : Wd) : Option (Int32 × Wd) :=
  some (s0, w)
def f_X11_is_20 (v0 : Nat) (w : Wd) : Option (Int32 × Wd) :=
  calV w v0 11 (f_X11_refuse v0 (-2 : Int32) w) fun x2 w1 =>
  some (x2, w1)
def f_X11_is (p0 : Nat) (p1 : Int32) (p2 : Int32) (w : Wd) : Option (Int32 × Wd) :=
  gR w p0 11 5 fun r3 =>
  calV w r3 2 (f_X2_has r3 p1 w) fun x5 w4 =>
  if x5 = 0 then
    f_X11_is_20 p0 w4
  else
    cal (f_X11_within p2 (0 : Int32) (1 : Int32) w4) fun x7 w6 =>
    if x7 = 0 then
      f_X11_is_20 p0 w6
    else
      gR w6 p0 11 5 fun r8 =>
      gR w6 r8 2 0 fun r9 =>
      lR w6 r9 16 p1 fun r10 =>
      if p2 = 0 then
        gR w6 p0 11 5 fun r16 =>
        gR w6 r16 2 1 fun r17 =>
        gI w6 r10 1 2 fun x18 =>
        calV w6 r17 0 (f_X0_fittingKinds r17 p1 x18 w6) fun x20 w19 =>
        f_X11_is_74 x20 w19
      else
        gR w6 p0 11 5 fun r11 =>
        gR w6 r11 2 1 fun r12 =>
        gI w6 r10 1 1 fun x13 =>
        calV w6 r12 0 (f_X0_fittingRates r12 p1 x13 w6) fun x15 w14 =>
        f_X11_is_74 x15 w14
def f_X11_just_67 (s0 : Int32) (w : Wd) : Option (Int32 × Wd) :=
  some (s0, w)
def f_X11_just_54 (v3 : Int32) (w : Wd) : Option (Int32 × Wd) :=
  f_X11_just_67 v3 w
def f_X11_just_31 (v0 : Nat) (v1 : Int32) (v2 : Int32) (w : Wd) : Option (Int32 × Wd) :=
  gR w v0 11 3 fun r1 =>
  gR w v0 11 5 fun r2 =>
  calV w r1 7 (f_X7_fewestHours r1 r2 v1 w) fun x4 w3 =>
  if x4 = (-1 : Int32) then
    f_X11_just_54 x4 w3
  else
    if v2 = (-1 : Int32) then
      f_X11_just_54 x4 w3
    else
      gR w3 v0 11 3 fun r5 =>
      gR w3 r5 7 0 fun r6 =>
      lI w3 r6 14 v2 fun x7 =>
      f_X11_just_67 x7 w3
def f_X11_just_26 (v0 : Nat) (w : Wd) : Option (Int32 × Wd) :=
  calV w v0 11 (f_X11_refuseApart v0 w) fun x9 w8 =>
  some (x9, w8)
def f_X11_just (p0 : Nat) (p1 : Int32) (p2 : Int32) (w : Wd) : Option (Int32 × Wd) :=
  cal (f_X11_within p1 (1 : Int32) (60 : Int32) w) fun x11 w10 =>
  if x11 = 0 then
    f_X11_just_26 p0 w10
  else
    if p2 = (-1 : Int32) then
      f_X11_just_31 p0 p1 p2 w10
    else
      gR w10 p0 11 5 fun r12 =>
      calV w10 r12 2 (f_X2_has r12 p2 w10) fun x14 w13 =>
      if x14 = 0 then
        f_X11_just_26 p0 w13
      else
        f_X11_just_31 p0 p1 p2 w13
def f_X11_leastIn_2 : Nat → Int32 → Int32 → Wd → Option (Int32 × Wd)
  | 0, _, _, _ => none
  | n + 1, v0, v1, w =>
    if (32 : Int32) ≤ v1 then
      some ((-1 : Int32), w)
    else
      if ((iush v0 v1) &&& (1 : Int32)) = (1 : Int32) then
        some (v1, w)
      else
        (f_X11_leastIn_2 n) v0 ((v1 + (1 : Int32))) w
def f_X11_leastIn (p0 : Int32) (w : Wd) : Option (Int32 × Wd) :=
  f_X11_leastIn_2 4096 p0 (0 : Int32) w
def f_X11_look (p0 : Nat) (p1 : Int32) (w : Wd) : Option (Int32 × Wd) :=
  gR w p0 11 5 fun r1 =>
  calV w r1 2 (f_X2_has r1 p1 w) fun x3 w2 =>
  if x3 = 0 then
    calV w2 p0 11 (f_X11_refuse p0 (-2 : Int32) w2) fun x13 w12 =>
    some (x13, w12)
  else
    gR w2 p0 11 5 fun r4 =>
    gR w2 r4 2 1 fun r5 =>
    gR w2 p0 11 5 fun r6 =>
    gR w2 r6 2 0 fun r7 =>
    lR w2 r7 16 p1 fun r8 =>
    gI w2 r8 1 2 fun x9 =>
    calV w2 r5 0 (f_X0_sharpestLook r5 p1 x9 w2) fun x11 w10 =>
    some (x11, w10)
def f_X11_mill (p0 : Nat) (p1 : Int32) (w : Wd) : Option (Int32 × Wd) :=
  cal (f_X11_within p1 (0 : Int32) (200 : Int32) w) fun x2 w1 =>
  if x2 = 0 then
    calV w1 p0 11 (f_X11_refuse p0 (-2 : Int32) w1) fun x9 w8 =>
    some (x9, w8)
  else
    gR w1 p0 11 5 fun r3 =>
    gI w1 r3 2 4 fun x4 =>
    gR w1 p0 11 5 fun r5 =>
    calV w1 r5 2 (f_X2_startAnew r5 p1 w1) fun _ w6 =>
    some (x4, w6)
def f_X11_mills_51 : Nat → Nat → Int32 → Int32 → Int64 → Int32 → Wd → Option (Int32 × Wd)
  | 0, _, _, _, _, _, _ => none
  | n + 1, v0, v2, v3, v4, v6, w =>
    if v2 ≤ v6 then
      some (v3, w)
    else
      nm ((lrm ((v4 * (1103515245 : Int64)) + (12345 : Int64)) (2147483648 : Int64))) fun x1 =>
      gR w v0 11 5 fun r2 =>
      gR w v0 11 5 fun r3 =>
      gI w r3 2 9 fun x4 =>
      calV w r2 2 (f_X2_groundBy r2 ((lrm (x1 / (65536 : Int64)) (8 : Int64)).toInt32) (x4 + v6) w) fun x6 w5 =>
      nm ((v3 + x6)) fun x7 =>
      (f_X11_mills_51 n) v0 v2 x7 x1 ((v6 + (1 : Int32))) w5
def f_X11_mills_21 (v0 : Nat) (w : Wd) : Option (Int32 × Wd) :=
  calV w v0 11 (f_X11_refuse v0 (-2 : Int32) w) fun x9 w8 =>
  some (x9, w8)
def f_X11_mills (p0 : Nat) (p1 : Int32) (p2 : Int32) (w : Wd) : Option (Int32 × Wd) :=
  cal (f_X11_within p1 (0 : Int32) (999999 : Int32) w) fun x11 w10 =>
  if x11 = 0 then
    f_X11_mills_21 p0 w10
  else
    cal (f_X11_within p2 (0 : Int32) (60 : Int32) w10) fun x13 w12 =>
    if x13 = 0 then
      f_X11_mills_21 p0 w12
    else
      gR w12 p0 11 5 fun r14 =>
      calV w12 r14 2 (f_X2_allBushels r14 w12) fun x16 w15 =>
      gR w15 p0 11 5 fun r17 =>
      gI w15 r17 2 10 fun x18 =>
      nm ((x16 + x18)) fun x19 =>
      nm ((p1.toInt64)) fun x20 =>
      f_X11_mills_51 4096 p0 p2 x19 x20 (0 : Int32) w15
def f_X11_nextGuess (p0 : Nat) (w : Wd) : Option (Int32 × Wd) :=
  gR w p0 11 5 fun r1 =>
  gR w r1 2 1 fun r2 =>
  calV w r2 0 (f_X0_sharpestWord r2 w) fun x4 w3 =>
  some (x4, w3)
def f_X11_note_42 (v0 : Nat) (w : Wd) : Option (Int32 × Wd) :=
  calV w v0 11 (f_X11_refuse v0 (-2 : Int32) w) fun x2 w1 =>
  some (x2, w1)
def f_X11_note (p0 : Nat) (p1 : Int32) (p2 : Int32) (p3 : Int32) (p4 : Int32) (w : Wd) : Option (Int32 × Wd) :=
  gR w p0 11 5 fun r3 =>
  calV w r3 2 (f_X2_has r3 p1 w) fun x5 w4 =>
  if x5 = 0 then
    f_X11_note_42 p0 w4
  else
    cal (f_X11_within p2 (0 : Int32) (99 : Int32) w4) fun x7 w6 =>
    if x7 = 0 then
      f_X11_note_42 p0 w6
    else
      cal (f_X11_within p3 (0 : Int32) (9 : Int32) w6) fun x9 w8 =>
      if x9 = 0 then
        f_X11_note_42 p0 w8
      else
        cal (f_X11_within p4 (0 : Int32) (20 : Int32) w8) fun x11 w10 =>
        if x11 = 0 then
          f_X11_note_42 p0 w10
        else
          gR w10 p0 11 5 fun r12 =>
          gR w10 r12 2 1 fun r13 =>
          gI w10 r13 0 7 fun x14 =>
          if x14 < (6 : Int32) then
            gR w10 p0 11 5 fun r15 =>
            gR w10 r15 2 1 fun r16 =>
            calV w10 r16 0 (f_X0_addNote r16 p1 p2 p3 p4 w10) fun _ w17 =>
            gR w17 p0 11 5 fun r19 =>
            gR w17 r19 2 1 fun r20 =>
            gI w17 r20 0 7 fun x21 =>
            some (x21, w17)
          else
            calV w10 p0 11 (f_X11_refuse p0 (-4 : Int32) w10) fun x23 w22 =>
            some (x23, w22)
def f_X11_of_21 (v0 : Nat) (w : Wd) : Option (Int32 × Wd) :=
  calV w v0 11 (f_X11_refuse v0 (-2 : Int32) w) fun x2 w1 =>
  some (x2, w1)
def f_X11_of (p0 : Nat) (p1 : Int32) (p2 : Int32) (w : Wd) : Option (Int32 × Wd) :=
  gR w p0 11 5 fun r3 =>
  calV w r3 2 (f_X2_has r3 p1 w) fun x5 w4 =>
  if x5 = 0 then
    f_X11_of_21 p0 w4
  else
    cal (f_X11_within p2 (0 : Int32) (6 : Int32) w4) fun x7 w6 =>
    if x7 = 0 then
      f_X11_of_21 p0 w6
    else
      gR w6 p0 11 5 fun r8 =>
      gR w6 r8 2 0 fun r9 =>
      lR w6 r9 16 p1 fun r10 =>
      if p2 = (0 : Int32) then
        gI w6 r10 1 1 fun x11 =>
        some (x11, w6)
      else
        if p2 = (1 : Int32) then
          gI w6 r10 1 2 fun x12 =>
          some (x12, w6)
        else
          if p2 = (2 : Int32) then
            gI w6 r10 1 3 fun x13 =>
            some (x13, w6)
          else
            if p2 = (3 : Int32) then
              gI w6 r10 1 4 fun x14 =>
              some (x14, w6)
            else
              if p2 = (4 : Int32) then
                gI w6 r10 1 5 fun x15 =>
                some (x15, w6)
              else
                if p2 = (5 : Int32) then
                  gR w6 p0 11 5 fun r16 =>
                  gI w6 r16 2 9 fun x17 =>
                  gR w6 p0 11 5 fun r18 =>
                  gI w6 r18 2 8 fun x19 =>
                  calV w6 r10 1 (f_X1_groundIn r10 x17 x19 w6) fun x21 w20 =>
                  some (x21, w20)
                else
                  gI w6 r10 1 5 fun x22 =>
                  calV w6 r10 1 (f_X1_fetchesWhen r10 x22 w6) fun x24 w23 =>
                  some (x24, w23)
def f_X11_part_32 (s0 : Int64) (w : Wd) : Option (Int64 × Wd) :=
  some (s0, w)
def f_X11_part (p0 : Nat) (p1 : Int32) (w : Wd) : Option (Int64 × Wd) :=
  cal (f_X11_within p1 (0 : Int32) (1 : Int32) w) fun x2 w1 =>
  if x2 = 0 then
    calV w1 p0 11 (f_X11_refuse p0 (-2 : Int32) w1) fun x6 w5 =>
    some ((x6.toInt64), w5)
  else
    if p1 = 0 then
      gL w1 p0 11 7 fun x4 =>
      f_X11_part_32 x4 w1
    else
      gL w1 p0 11 8 fun x3 =>
      f_X11_part_32 x3 w1
def f_X11_read (p0 : Nat) (w : Wd) : Option (Int32 × Wd) :=
  gR w p0 11 2 fun r1 =>
  gR w p0 11 6 fun r2 =>
  calV w r1 10 (f_X10_readInto r1 r2 w) fun x4 w3 =>
  gR w3 p0 11 2 fun r5 =>
  gI w3 r5 10 2 fun x6 =>
  if x6 = (-1 : Int32) then
    gR w3 p0 11 5 fun r7 =>
    gR w3 p0 11 6 fun r8 =>
    pR w3 p0 11 5 r8 fun w9 =>
    pR w9 p0 11 6 r7 fun w10 =>
    some (x4, w10)
  else
    gR w3 p0 11 2 fun r11 =>
    gI w3 r11 10 2 fun x12 =>
    some (((-10 : Int32) - x12), w3)
def f_X11_say_46 (v2 : Int32) (w : Wd) : Option (Int32 × Wd) :=
  some (v2, w)
def f_X11_say (p0 : Nat) (p1 : Int32) (w : Wd) : Option (Int32 × Wd) :=
  cal (f_X11_isWord p1 w) fun x2 w1 =>
  if x2 = 0 then
    calV w1 p0 11 (f_X11_refuse p0 (-2 : Int32) w1) fun x13 w12 =>
    some (x13, w12)
  else
    gR w1 p0 11 5 fun r3 =>
    calV w1 r3 2 (f_X2_remember r3 w1) fun _ w4 =>
    gR w4 p0 11 5 fun r6 =>
    gI w4 r6 2 6 fun x7 =>
    cal (f_X11_likeLetters p1 x7 w4) fun x9 w8 =>
    if x9 = (5 : Int32) then
      gR w8 p0 11 5 fun r10 =>
      pI w8 r10 2 7 (-1 : Int32) fun w11 =>
      f_X11_say_46 x9 w11
    else
      f_X11_say_46 x9 w8
def f_X11_sell_22 (v0 : Nat) (w : Wd) : Option (Int32 × Wd) :=
  calV w v0 11 (f_X11_refuse v0 (-2 : Int32) w) fun x2 w1 =>
  some (x2, w1)
def f_X11_sell (p0 : Nat) (p1 : Int32) (p2 : Int32) (w : Wd) : Option (Int32 × Wd) :=
  gR w p0 11 5 fun r3 =>
  calV w r3 2 (f_X2_has r3 p1 w) fun x5 w4 =>
  if x5 = 0 then
    f_X11_sell_22 p0 w4
  else
    cal (f_X11_within p2 (1 : Int32) (200 : Int32) w4) fun x7 w6 =>
    if x7 = 0 then
      f_X11_sell_22 p0 w6
    else
      gR w6 p0 11 5 fun r8 =>
      gR w6 r8 2 0 fun r9 =>
      lR w6 r9 16 p1 fun r10 =>
      gI w6 r10 1 4 fun x11 =>
      if p2 ≤ x11 then
        gR w6 p0 11 5 fun r12 =>
        calV w6 r12 2 (f_X2_remember r12 w6) fun _ w13 =>
        gR w13 p0 11 5 fun r15 =>
        gR w13 r15 2 0 fun r16 =>
        lR w13 r16 16 p1 fun r17 =>
        calV w13 r17 1 (f_X1_giveAway r17 p2 w13) fun x19 w18 =>
        gR w18 p0 11 5 fun r20 =>
        gI w18 r20 2 11 fun x21 =>
        pI w18 r20 2 11 (x21 + x19) fun w22 =>
        some (x19, w22)
      else
        calV w6 p0 11 (f_X11_refuse p0 (-3 : Int32) w6) fun x24 w23 =>
        some (x24, w23)
def f_X11_ship_34 : Nat → Nat → Int32 → Int32 → Int32 → Int32 → Wd → Option (Int32 × Wd)
  | 0, _, _, _, _, _, _ => none
  | n + 1, v0, v1, v2, v3, v4, w =>
    if (60 : Int32) < v4 then
      some ((-1 : Int32), w)
    else
      gR w v0 11 5 fun r1 =>
      gR w v0 11 5 fun r2 =>
      gI w r2 2 9 fun x3 =>
      calV w r1 2 (f_X2_groundBy r1 v1 ((x3 + v4) - (1 : Int32)) w) fun x5 w4 =>
      nm ((v3 + x5)) fun x6 =>
      if x6 ≤ v2 then
        (f_X11_ship_34 n) v0 v1 v2 x6 ((v4 + (1 : Int32))) w4
      else
        some (v4, w4)
def f_X11_ship_22 (v0 : Nat) (w : Wd) : Option (Int32 × Wd) :=
  calV w v0 11 (f_X11_refuse v0 (-2 : Int32) w) fun x8 w7 =>
  some (x8, w7)
def f_X11_ship (p0 : Nat) (p1 : Int32) (p2 : Int32) (w : Wd) : Option (Int32 × Wd) :=
  gR w p0 11 5 fun r9 =>
  calV w r9 2 (f_X2_has r9 p1 w) fun x11 w10 =>
  if x11 = 0 then
    f_X11_ship_22 p0 w10
  else
    cal (f_X11_within p2 (0 : Int32) (300 : Int32) w10) fun x13 w12 =>
    if x13 = 0 then
      f_X11_ship_22 p0 w12
    else
      f_X11_ship_34 4096 p0 p1 p2 (0 : Int32) (1 : Int32) w12
def f_X11_status (p0 : Nat) (p1 : Int32) (w : Wd) : Option (Int32 × Wd) :=
  cal (f_X11_within p1 (0 : Int32) (2 : Int32) w) fun x2 w1 =>
  if x2 = 0 then
    calV w1 p0 11 (f_X11_refuse p0 (-2 : Int32) w1) fun x6 w5 =>
    some ((-1 : Int32), w5)
  else
    gR w1 p0 11 4 fun r3 =>
    lI w1 r3 14 p1 fun x4 =>
    some (x4, w1)
def f_X11_street_15 (v0 : Nat) (w : Wd) : Option (Int32 × Wd) :=
  calV w v0 11 (f_X11_refuseApart v0 w) fun x2 w1 =>
  some (x2, w1)
def f_X11_street (p0 : Nat) (p1 : Int32) (p2 : Int32) (w : Wd) : Option (Int32 × Wd) :=
  cal (f_X11_within p1 (1 : Int32) (9 : Int32) w) fun x4 w3 =>
  if x4 = 0 then
    f_X11_street_15 p0 w3
  else
    if (-1 : Int32) ≤ p2 then
      gR w3 p0 11 3 fun r5 =>
      gR w3 p0 11 5 fun r6 =>
      calV w3 r5 7 (f_X7_restingPairs r5 r6 p1 p2 w3) fun x8 w7 =>
      some (x8, w7)
    else
      f_X11_street_15 p0 w3
def f_X11_then_91 (s0 : Int32) (w : Wd) : Option (Int32 × Wd) :=
  some (s0, w)
def f_X11_then_19 (v0 : Nat) (w : Wd) : Option (Int32 × Wd) :=
  calV w v0 11 (f_X11_refuse v0 (-2 : Int32) w) fun x2 w1 =>
  some (x2, w1)
def f_X11_then (p0 : Nat) (p1 : Int32) (p2 : Int32) (w : Wd) : Option (Int32 × Wd) :=
  cal (f_X11_within p1 (0 : Int32) (60 : Int32) w) fun x4 w3 =>
  if x4 = 0 then
    f_X11_then_19 p0 w3
  else
    cal (f_X11_within p2 (0 : Int32) (1 : Int32) w3) fun x6 w5 =>
    if x6 = 0 then
      f_X11_then_19 p0 w5
    else
      gR w5 p0 11 5 fun r7 =>
      gR w5 p0 11 5 fun r8 =>
      gI w5 r8 2 7 fun x9 =>
      calV w5 r7 2 (f_X2_groundWithin r7 x9 p1 w5) fun x11 w10 =>
      gR w10 p0 11 5 fun r12 =>
      calV w10 r12 2 (f_X2_allBushels r12 w10) fun x14 w13 =>
      gR w13 p0 11 5 fun r15 =>
      gI w13 r15 2 5 fun x16 =>
      nm ((f_mmin x11 (x16 - x14))) fun x17 =>
      if p2 = 0 then
        f_X11_then_91 ((x14 + x17)) w13
      else
        gR w13 p0 11 5 fun r18 =>
        gI w13 r18 2 10 fun x19 =>
        f_X11_then_91 (((x19 + x11) - x17)) w13
def f_X11_thieves_50 : Nat → Nat → Int32 → Int32 → Int32 → Int64 → Int64 → Int64 → Int32 → Wd → Option (Int32 × Wd)
  | 0, _, _, _, _, _, _, _, _, _ => none
  | n + 1, v0, v1, v2, v3, v4, v6, v8, v10, w =>
    if v2 ≤ v10 then
      cal (f_X11_greatestDivisor v4 v8 w) fun x2 w1 =>
      nm ((f_mmax_long (1 : Int64) x2)) fun x3 =>
      nzL x3 <|
      pL w1 v0 11 7 (v4 / x3) fun w4 =>
      nzL x3 <|
      pL w4 v0 11 8 (v8 / x3) fun w5 =>
      some ((1 : Int32), w5)
    else
      nm ((v6 * (((10 : Int32) - v3).toInt64))) fun x6 =>
      nm ((v8 * (10 : Int64))) fun x7 =>
      gR w v0 11 5 fun r8 =>
      gR w v0 11 5 fun r9 =>
      gI w r9 2 9 fun x10 =>
      calV w r8 2 (f_X2_groundBy r8 v1 (x10 + v10) w) fun x12 w11 =>
      nm (((v4 * (10 : Int64)) + (x6 * (x12.toInt64)))) fun x13 =>
      (f_X11_thieves_50 n) v0 v1 v2 v3 x13 x6 x7 ((v10 + (1 : Int32))) w11
def f_X11_thieves_31 (v0 : Nat) (w : Wd) : Option (Int32 × Wd) :=
  calV w v0 11 (f_X11_refuse v0 (-2 : Int32) w) fun x15 w14 =>
  some (x15, w14)
def f_X11_thieves (p0 : Nat) (p1 : Int32) (p2 : Int32) (p3 : Int32) (w : Wd) : Option (Int32 × Wd) :=
  gR w p0 11 5 fun r16 =>
  calV w r16 2 (f_X2_has r16 p1 w) fun x18 w17 =>
  if x18 = 0 then
    f_X11_thieves_31 p0 w17
  else
    cal (f_X11_within p2 (0 : Int32) (9 : Int32) w17) fun x20 w19 =>
    if x20 = 0 then
      f_X11_thieves_31 p0 w19
    else
      cal (f_X11_within p3 (0 : Int32) (10 : Int32) w19) fun x22 w21 =>
      if x22 = 0 then
        f_X11_thieves_31 p0 w21
      else
        f_X11_thieves_50 4096 p0 p1 p2 p3 (0 : Int64) (1 : Int64) (1 : Int64) (0 : Int32) w21
def f_X11_type (p0 : Nat) (p1 : Int32) (w : Wd) : Option (Int32 × Wd) :=
  cal (f_X11_within p1 (0 : Int32) (127 : Int32) w) fun x2 w1 =>
  if x2 = 0 then
    calV w1 p0 11 (f_X11_refuse p0 (-2 : Int32) w1) fun x13 w12 =>
    some (x13, w12)
  else
    gR w1 p0 11 2 fun r3 =>
    gI w1 r3 10 1 fun x4 =>
    if x4 < (150 : Int32) then
      gR w1 p0 11 2 fun r5 =>
      calV w1 r5 10 (f_X10_append r5 p1 w1) fun _ w6 =>
      gR w6 p0 11 2 fun r8 =>
      gI w6 r8 10 1 fun x9 =>
      some (x9, w6)
    else
      calV w1 p0 11 (f_X11_refuse p0 (-4 : Int32) w1) fun x11 w10 =>
      some (x11, w10)
def f_X11_undo (p0 : Nat) (w : Wd) : Option (Int32 × Wd) :=
  gR w p0 11 5 fun r1 =>
  gI w r1 2 3 fun x2 =>
  if 0 < x2 then
    gR w p0 11 5 fun r3 =>
    calV w r3 2 (f_X2_goBack r3 w) fun _ w4 =>
    gR w4 p0 11 5 fun r6 =>
    gI w4 r6 2 9 fun x7 =>
    some (x7, w4)
  else
    calV w p0 11 (f_X11_refuse p0 (-3 : Int32) w) fun x9 w8 =>
    some (x9, w8)
def f_X11_word (p0 : Nat) (p1 : Int32) (w : Wd) : Option (Int32 × Wd) :=
  cal (f_X11_isWord p1 w) fun x2 w1 =>
  if x2 = 0 then
    calV w1 p0 11 (f_X11_refuse p0 (-2 : Int32) w1) fun x6 w5 =>
    some (x6, w5)
  else
    gR w1 p0 11 5 fun r3 =>
    pI w1 r3 2 6 p1 fun w4 =>
    some ((1 : Int32), w4)
def f_X11_words_42 (s0 : Int32) (w : Wd) : Option (Int32 × Wd) :=
  some (s0, w)
def f_X11_words (p0 : Nat) (p1 : Int32) (w : Wd) : Option (Int32 × Wd) :=
  cal (f_X11_within p1 (0 : Int32) (1 : Int32) w) fun x2 w1 =>
  if x2 = 0 then
    calV w1 p0 11 (f_X11_refuse p0 (-2 : Int32) w1) fun x12 w11 =>
    some (x12, w11)
  else
    gR w1 p0 11 5 fun r3 =>
    gR w1 r3 2 1 fun r4 =>
    calV w1 r4 0 (f_X0_fittingWords r4 w1) fun x6 w5 =>
    if p1 = 0 then
      cal (f_J6_bitCount_0f7a4 x6 w5) fun x10 w9 =>
      f_X11_words_42 x10 w9
    else
      cal (f_X11_leastIn x6 w5) fun x8 w7 =>
      f_X11_words_42 x8 w7
def f_X12_addGoods (p0 : Nat) (p1 : Int32) (p2 : Int32) (p3 : Int32) (w : Wd) : Option (Unit × Wd) :=
  gR w p0 12 0 fun r1 =>
  lI w r1 14 (19 : Int32) fun x2 =>
  gR w p0 12 0 fun r3 =>
  aI w r3 14 ((20 : Int32) + x2) p1 fun w4 =>
  gR w4 p0 12 0 fun r5 =>
  aI w4 r5 14 ((26 : Int32) + x2) p2 fun w6 =>
  gR w6 p0 12 0 fun r7 =>
  aI w6 r7 14 ((32 : Int32) + x2) p3 fun w8 =>
  gR w8 p0 12 0 fun r9 =>
  lI w8 r9 14 (19 : Int32) fun x10 =>
  aI w8 r9 14 (19 : Int32) (x10 + (1 : Int32)) fun w11 =>
  gR w11 p0 12 0 fun r12 =>
  aI w11 r12 14 (76 : Int32) (0 : Int32) fun w13 =>
  some ((), w13)
def f_X12_has_14 (s0 : Int32) (w : Wd) : Option (Int32 × Wd) :=
  rZ s0 w
def f_X12_has (p0 : Int32) (p1 : Int32) (w : Wd) : Option (Int32 × Wd) :=
  if ((p0 >>> (p1 &&& 31)) &&& (1 : Int32)) = (1 : Int32) then
    f_X12_has_14 (1 : Int32) w
  else
    f_X12_has_14 (0 : Int32) w
def f_X12_alike_28 (rec4 : Int32 → Int32 → Int32 → Int32 → Wd → Option (Int32 × Wd)) (v0 : Int32) (v1 : Int32) (v3 : Int32) (s0 : Int32) (s1 : Int32) (w : Wd) : Option (Int32 × Wd) :=
  nm ((s1 + s0)) fun x1 =>
  rec4 v0 v1 x1 ((v3 + (1 : Int32))) w
def f_X12_alike_4 : Nat → Int32 → Int32 → Int32 → Int32 → Wd → Option (Int32 × Wd)
  | 0, _, _, _, _, _ => none
  | n + 1, v0, v1, v2, v3, w =>
    if (5 : Int32) ≤ v3 then
      some (v2, w)
    else
      cal (f_X12_has v0 v3 w) fun x3 w2 =>
      cal (f_X12_has v1 v3 w2) fun x5 w4 =>
      if x3 = x5 then
        f_X12_alike_28 (f_X12_alike_4 n) v0 v1 v3 (1 : Int32) v2 w4
      else
        f_X12_alike_28 (f_X12_alike_4 n) v0 v1 v3 (0 : Int32) v2 w4
def f_X12_alike (p0 : Int32) (p1 : Int32) (w : Wd) : Option (Int32 × Wd) :=
  f_X12_alike_4 4096 p0 p1 (0 : Int32) (0 : Int32) w
def f_X12_refuse_25 (v1 : Int32) (s0 : Int32) (s1 : Nat) (w : Wd) : Option (Int32 × Wd) :=
  lI w s1 14 s0 fun x1 =>
  aI w s1 14 s0 (x1 + (1 : Int32)) fun w2 =>
  some (v1, w2)
def f_X12_refuse (p0 : Nat) (p1 : Int32) (w : Wd) : Option (Int32 × Wd) :=
  gR w p0 12 2 fun r3 =>
  if p1 = (-3 : Int32) then
    f_X12_refuse_25 p1 (1 : Int32) r3 w
  else
    if p1 = (-4 : Int32) then
      f_X12_refuse_25 p1 (2 : Int32) r3 w
    else
      f_X12_refuse_25 p1 (0 : Int32) r3 w
def f_X12_badTen (p0 : Nat) (w : Wd) : Option (Int32 × Wd) :=
  calV w p0 12 (f_X12_refuse p0 (-2 : Int32) w) fun x2 w1 =>
  some ((-10 : Int32), w1)
def f_X12_fetches_23 (v0 : Nat) (v1 : Int32) (s0 : Int32) (w : Wd) : Option (Int32 × Wd) :=
  gR w v0 12 0 fun r1 =>
  lI w r1 14 ((20 : Int32) + v1) fun x2 =>
  if x2 = (2 : Int32) then
    some ((0 : Int32), w)
  else
    if x2 = (3 : Int32) then
      some (s0, w)
    else
      if x2 = (4 : Int32) then
        some ((s0 / (2 : Int32)), w)
      else
        if x2 = (5 : Int32) then
          some ((1 : Int32), w)
        else
          some (s0, w)
def f_X12_fetches (p0 : Nat) (p1 : Int32) (p2 : Int32) (w : Wd) : Option (Int32 × Wd) :=
  gR w p0 12 0 fun r3 =>
  lI w r3 14 ((32 : Int32) + p1) fun x4 =>
  nm ((x4 - (p2 / (5 : Int32)))) fun x5 =>
  if 0 ≤ x5 then
    f_X12_fetches_23 p0 p1 x5 w
  else
    f_X12_fetches_23 p0 p1 (0 : Int32) w
def f_X12_groundBy_14 (v0 : Int32) (v1 : Int32) (v2 : Int32) (s0 : Int32) (w : Wd) : Option (Int32 × Wd) :=
  if v0 = (1 : Int32) then
    some (s0, w)
  else
    if v0 = (2 : Int32) then
      some (v1, w)
    else
      if v0 = (3 : Int32) then
        some ((v1 + (irm v2 (4 : Int32))), w)
      else
        if v0 = (4 : Int32) then
          some ((s0 + (1 : Int32)), w)
        else
          if v0 = (5 : Int32) then
            some ((0 : Int32), w)
          else
            some (v1, w)
def f_X12_groundBy (p0 : Int32) (p1 : Int32) (p2 : Int32) (p3 : Int32) (w : Wd) : Option (Int32 × Wd) :=
  if p3 ≤ (4 : Int32) then
    f_X12_groundBy_14 p0 p1 p2 p1 w
  else
    f_X12_groundBy_14 p0 p1 p2 (((p1 + (1 : Int32)) / (2 : Int32))) w
def f_X12_ground (p0 : Nat) (p1 : Int32) (p2 : Int32) (p3 : Int32) (w : Wd) : Option (Int32 × Wd) :=
  gR w p0 12 0 fun r1 =>
  lI w r1 14 ((20 : Int32) + p1) fun x2 =>
  gR w p0 12 0 fun r3 =>
  lI w r3 14 ((26 : Int32) + p1) fun x4 =>
  cal (f_X12_groundBy x2 x4 p2 p3 w) fun x6 w5 =>
  some (x6, w5)
def f_X12_brings_22 : Nat → Nat → Int32 → Int32 → Int32 → Int32 → Wd → Option (Int32 × Wd)
  | 0, _, _, _, _, _, _ => none
  | n + 1, v0, v1, v3, v4, v5, w =>
    if v3 ≤ v5 then
      some (v4, w)
    else
      gR w v0 12 0 fun r1 =>
      lI w r1 14 ((6 : Int32) + v1) fun x2 =>
      calV w v0 12 (f_X12_fetches v0 v1 (x2 + v5) w) fun x4 w3 =>
      nm ((v4 + x4)) fun x5 =>
      (f_X12_brings_22 n) v0 v1 v3 x5 ((v5 + (1 : Int32))) w3
def f_X12_brings (p0 : Nat) (p1 : Int32) (p2 : Int32) (w : Wd) : Option (Int32 × Wd) :=
  gR w p0 12 0 fun r6 =>
  lI w r6 14 (16 : Int32) fun x7 =>
  calV w p0 12 (f_X12_ground p0 p1 (0 : Int32) x7 w) fun x9 w8 =>
  nm ((p2 * x9)) fun x10 =>
  f_X12_brings_22 4096 p0 p1 x10 (0 : Int32) (0 : Int32) w8
def f_X12_in_15 (s0 : Int32) (w : Wd) : Option (Int32 × Wd) :=
  rZ s0 w
def f_X12_in_14 (w : Wd) : Option (Int32 × Wd) :=
  f_X12_in_15 (0 : Int32) w
def f_X12_in (p0 : Int32) (p1 : Int32) (p2 : Int32) (w : Wd) : Option (Int32 × Wd) :=
  if p0 < p1 then
    f_X12_in_14  w
  else
    if p2 < p0 then
      f_X12_in_14  w
    else
      f_X12_in_15 (1 : Int32) w
def f_X12_isGoods (p0 : Nat) (p1 : Int32) (w : Wd) : Option (Int32 × Wd) :=
  gR w p0 12 0 fun r1 =>
  lI w r1 14 (19 : Int32) fun x2 =>
  cal (f_X12_in p1 (0 : Int32) (x2 - (1 : Int32)) w) fun x4 w3 =>
  rZ x4 w3
def f_X12_layRichest_104 (rec41 : Nat → Int32 → Int32 → Wd → Option (Unit × Wd)) (rec47 : Nat → Int32 → Int32 → Int32 → Wd → Option (Unit × Wd)) (rec58 : Nat → Int32 → Int32 → Int32 → Int32 → Int32 → Wd → Option (Unit × Wd)) (v0 : Nat) (v1 : Int32) (v2 : Int32) (v3 : Int32) (v5 : Int32) (s0 : Int32) (w : Wd) : Option (Unit × Wd) :=
  rec58 v0 v1 v2 v3 s0 ((v5 + (1 : Int32))) w
def f_X12_layRichest_58 (rec41 : Nat → Int32 → Int32 → Wd → Option (Unit × Wd)) (rec47 : Nat → Int32 → Int32 → Int32 → Wd → Option (Unit × Wd)) : Nat → Nat → Int32 → Int32 → Int32 → Int32 → Int32 → Wd → Option (Unit × Wd)
  | 0, _, _, _, _, _, _, _ => none
  | n + 1, v0, v1, v2, v3, v4, v5, w =>
    if v3 < v5 then
      gR w v0 12 17 fun r1 =>
      aI w r1 14 (((13 : Int32) * v2) + v3) v4 fun w2 =>
      rec47 v0 v1 v2 ((v3 + (1 : Int32))) w2
    else
      calV w v0 12 (f_X12_brings v0 v2 v5 w) fun x4 w3 =>
      gR w3 v0 12 17 fun r5 =>
      lI w3 r5 14 ((((13 : Int32) * (v2 + (1 : Int32))) + v3) - v5) fun x6 =>
      nm ((x4 + x6)) fun x7 =>
      if x7 ≤ v4 then
        f_X12_layRichest_104 rec41 rec47 (f_X12_layRichest_58 rec41 rec47 n) v0 v1 v2 v3 v5 v4 w3
      else
        f_X12_layRichest_104 rec41 rec47 (f_X12_layRichest_58 rec41 rec47 n) v0 v1 v2 v3 v5 x7 w3
def f_X12_layRichest_47 (rec41 : Nat → Int32 → Int32 → Wd → Option (Unit × Wd)) : Nat → Nat → Int32 → Int32 → Int32 → Wd → Option (Unit × Wd)
  | 0, _, _, _, _, _ => none
  | n + 1, v0, v1, v2, v3, w =>
    if v1 < v3 then
      rec41 v0 v1 ((v2 + (-1 : Int32))) w
    else
      f_X12_layRichest_58 rec41 (f_X12_layRichest_47 rec41 n) 4096 v0 v1 v2 v3 (0 : Int32) (0 : Int32) w
def f_X12_layRichest_41 : Nat → Nat → Int32 → Int32 → Wd → Option (Unit × Wd)
  | 0, _, _, _, _ => none
  | n + 1, v0, v1, v2, w =>
    if v2 < 0 then
      some ((), w)
    else
      f_X12_layRichest_47 (f_X12_layRichest_41 n) 4096 v0 v1 v2 (0 : Int32) w
def f_X12_layRichest_2 : Nat → Nat → Int32 → Int32 → Wd → Option (Unit × Wd)
  | 0, _, _, _, _ => none
  | n + 1, v0, v1, v2, w =>
    if v1 < v2 then
      gR w v0 12 0 fun r8 =>
      lI w r8 14 (19 : Int32) fun x9 =>
      nm ((x9 - (1 : Int32))) fun x10 =>
      f_X12_layRichest_41 4096 v0 v1 x10 w
    else
      gR w v0 12 17 fun r11 =>
      gR w v0 12 0 fun r12 =>
      lI w r12 14 (19 : Int32) fun x13 =>
      aI w r11 14 (((13 : Int32) * x13) + v2) (0 : Int32) fun w14 =>
      (f_X12_layRichest_2 n) v0 v1 ((v2 + (1 : Int32))) w14
def f_X12_layRichest (p0 : Nat) (p1 : Int32) (w : Wd) : Option (Unit × Wd) :=
  f_X12_layRichest_2 4096 p0 p1 (0 : Int32) w
def f_X12_best_62 (rec53 : Nat → Int32 → Int32 → Int32 → Int32 → Wd → Option (Int32 × Wd)) : Nat → Nat → Int32 → Int32 → Int32 → Int32 → Wd → Option (Int32 × Wd)
  | 0, _, _, _, _, _, _ => none
  | n + 1, v0, v2, v3, v4, v5, w =>
    calV w v0 12 (f_X12_brings v0 v5 v4 w) fun x2 w1 =>
    gR w1 v0 12 17 fun r3 =>
    lI w1 r3 14 ((((13 : Int32) * (v5 + (1 : Int32))) + v3) - v4) fun x4 =>
    gR w1 v0 12 17 fun r5 =>
    lI w1 r5 14 (((13 : Int32) * v5) + v3) fun x6 =>
    if (x2 + x4) = x6 then
      nm ((v3 - v4)) fun x7 =>
      rec53 v0 v2 x7 v4 ((v5 + (1 : Int32))) w1
    else
      (f_X12_best_62 rec53 n) v0 v2 v3 ((v4 + (-1 : Int32))) v5 w1
def f_X12_best_53 : Nat → Nat → Int32 → Int32 → Int32 → Int32 → Wd → Option (Int32 × Wd)
  | 0, _, _, _, _, _, _ => none
  | n + 1, v0, v2, v3, v4, v5, w =>
    if v2 < v5 then
      some (v4, w)
    else
      f_X12_best_62 (f_X12_best_53 n) 4096 v0 v2 v3 v3 v5 w
def f_X12_best_28 (v0 : Nat) (v1 : Int32) (v2 : Int32) (w : Wd) : Option (Int32 × Wd) :=
  calV w v0 12 (f_X12_layRichest v0 v1 w) fun _ w8 =>
  if v2 = (-1 : Int32) then
    gR w8 v0 12 17 fun r10 =>
    lI w8 r10 14 v1 fun x11 =>
    some (x11, w8)
  else
    f_X12_best_53 4096 v0 v2 v1 (0 : Int32) (0 : Int32) w8
def f_X12_best_23 (v0 : Nat) (w : Wd) : Option (Int32 × Wd) :=
  calV w v0 12 (f_X12_badTen v0 w) fun x13 w12 =>
  some (x13, w12)
def f_X12_best (p0 : Nat) (p1 : Int32) (p2 : Int32) (w : Wd) : Option (Int32 × Wd) :=
  cal (f_X12_in p1 (0 : Int32) (12 : Int32) w) fun x15 w14 =>
  if x15 = 0 then
    f_X12_best_23 p0 w14
  else
    if p2 = (-1 : Int32) then
      f_X12_best_28 p0 p1 p2 w14
    else
      calV w14 p0 12 (f_X12_isGoods p0 p2 w14) fun x17 w16 =>
      if x17 = 0 then
        f_X12_best_23 p0 w16
      else
        f_X12_best_28 p0 p1 p2 w16
def f_X12_clear (p0 : Nat) (w : Wd) : Option (Int32 × Wd) :=
  gI w p0 12 6 fun x1 =>
  pI w p0 12 6 (0 : Int32) fun w2 =>
  some (x1, w2)
def f_X12_keepPast_57 : Nat → Nat → Int32 → Wd → Option (Unit × Wd)
  | 0, _, _, _ => none
  | n + 1, v0, v1, w =>
    if (17 : Int32) ≤ v1 then
      gR w v0 12 0 fun r1 =>
      lI w r1 14 (76 : Int32) fun x2 =>
      aI w r1 14 (76 : Int32) (x2 + (1 : Int32)) fun w3 =>
      some ((), w3)
    else
      gR w v0 12 0 fun r4 =>
      gR w v0 12 0 fun r5 =>
      lI w r5 14 (76 : Int32) fun x6 =>
      gR w v0 12 0 fun r7 =>
      lI w r7 14 v1 fun x8 =>
      aI w r4 14 (((77 : Int32) + ((17 : Int32) * x6)) + v1) x8 fun w9 =>
      (f_X12_keepPast_57 n) v0 ((v1 + (1 : Int32))) w9
def f_X12_keepPast_55 (v0 : Nat) (w : Wd) : Option (Unit × Wd) :=
  f_X12_keepPast_57 4096 v0 (0 : Int32) w
def f_X12_keepPast_14 : Nat → Nat → Int32 → Wd → Option (Unit × Wd)
  | 0, _, _, _ => none
  | n + 1, v0, v1, w =>
    if (119 : Int32) ≤ v1 then
      gR w v0 12 0 fun r10 =>
      lI w r10 14 (76 : Int32) fun x11 =>
      aI w r10 14 (76 : Int32) (x11 - (1 : Int32)) fun w12 =>
      f_X12_keepPast_55 v0 w12
    else
      gR w v0 12 0 fun r13 =>
      gR w v0 12 0 fun r14 =>
      lI w r14 14 ((94 : Int32) + v1) fun x15 =>
      aI w r13 14 ((77 : Int32) + v1) x15 fun w16 =>
      (f_X12_keepPast_14 n) v0 ((v1 + (1 : Int32))) w16
def f_X12_keepPast (p0 : Nat) (w : Wd) : Option (Unit × Wd) :=
  gR w p0 12 0 fun r17 =>
  lI w r17 14 (76 : Int32) fun x18 =>
  if x18 = (8 : Int32) then
    f_X12_keepPast_14 4096 p0 (0 : Int32) w
  else
    f_X12_keepPast_55 p0 w
def f_X12_cold (p0 : Nat) (p1 : Int32) (w : Wd) : Option (Int32 × Wd) :=
  cal (f_X12_in p1 (0 : Int32) (9 : Int32) w) fun x2 w1 =>
  if x2 = 0 then
    calV w1 p0 12 (f_X12_refuse p0 (-2 : Int32) w1) fun x10 w9 =>
    some (x10, w9)
  else
    calV w1 p0 12 (f_X12_keepPast p0 w1) fun _ w3 =>
    gR w3 p0 12 0 fun r5 =>
    lI w3 r5 14 (16 : Int32) fun x6 =>
    gR w3 p0 12 0 fun r7 =>
    aI w3 r7 14 (16 : Int32) p1 fun w8 =>
    some (x6, w8)
def f_X12_inHouse_4 : Nat → Nat → Int32 → Int32 → Int32 → Wd → Option (Int32 × Wd)
  | 0, _, _, _, _, _ => none
  | n + 1, v0, v1, v2, v3, w =>
    if (6 : Int32) ≤ v3 then
      some (v2, w)
    else
      gR w v0 12 0 fun r1 =>
      lI w r1 14 ((v1 + (0 : Int32)) + v3) fun x2 =>
      nm ((v2 + x2)) fun x3 =>
      (f_X12_inHouse_4 n) v0 v1 x3 ((v3 + (1 : Int32))) w
def f_X12_inHouse (p0 : Nat) (p1 : Int32) (w : Wd) : Option (Int32 × Wd) :=
  f_X12_inHouse_4 4096 p0 p1 (0 : Int32) (0 : Int32) w
def f_X12_countOf (p0 : Nat) (p1 : Int32) (w : Wd) : Option (Int32 × Wd) :=
  if p1 = (0 : Int32) then
    gR w p0 12 0 fun r1 =>
    lI w r1 14 (19 : Int32) fun x2 =>
    some (x2, w)
  else
    if p1 = (1 : Int32) then
      gR w p0 12 0 fun r3 =>
      lI w r3 14 (14 : Int32) fun x4 =>
      some (x4, w)
    else
      if p1 = (2 : Int32) then
        calV w p0 12 (f_X12_inHouse p0 (0 : Int32) w) fun x6 w5 =>
        some (x6, w5)
      else
        if p1 = (3 : Int32) then
          gR w p0 12 0 fun r7 =>
          lI w r7 14 (12 : Int32) fun x8 =>
          some (x8, w)
        else
          if p1 = (4 : Int32) then
            gR w p0 12 0 fun r9 =>
            lI w r9 14 (13 : Int32) fun x10 =>
            some (x10, w)
          else
            if p1 = (5 : Int32) then
              gR w p0 12 0 fun r11 =>
              lI w r11 14 (38 : Int32) fun x12 =>
              some (x12, w)
            else
              if p1 = (6 : Int32) then
                gR w p0 12 0 fun r13 =>
                lI w r13 14 (51 : Int32) fun x14 =>
                some (x14, w)
              else
                if p1 = (7 : Int32) then
                  gR w p0 12 0 fun r15 =>
                  lI w r15 14 (76 : Int32) fun x16 =>
                  some (x16, w)
                else
                  if p1 = (8 : Int32) then
                    gI w p0 12 6 fun x17 =>
                    some (x17, w)
                  else
                    gR w p0 12 0 fun r18 =>
                    lI w r18 14 (16 : Int32) fun x19 =>
                    some (x19, w)
def f_X12_count_24 (s0 : Int32) (w : Wd) : Option (Int32 × Wd) :=
  some (s0, w)
def f_X12_count (p0 : Nat) (p1 : Int32) (w : Wd) : Option (Int32 × Wd) :=
  cal (f_X12_in p1 (0 : Int32) (9 : Int32) w) fun x2 w1 =>
  if x2 = 0 then
    calV w1 p0 12 (f_X12_refuse p0 (-2 : Int32) w1) fun x4 w3 =>
    f_X12_count_24 x4 w3
  else
    calV w1 p0 12 (f_X12_countOf p0 p1 w1) fun x6 w5 =>
    f_X12_count_24 x6 w5
def f_X12_digest_219 : Nat → Nat → Int64 → Int32 → Wd → Option (Int64 × Wd)
  | 0, _, _, _, _ => none
  | n + 1, v0, v1, v3, w =>
    gR w v0 12 0 fun r1 =>
    lI w r1 14 (51 : Int32) fun x2 =>
    if ((4 : Int32) * x2) ≤ v3 then
      gL w v0 12 3 fun x3 =>
      nm ((((31 : Int64) * v1) + x3)) fun x4 =>
      gL w v0 12 4 fun x5 =>
      some ((((31 : Int64) * x4) + x5), w)
    else
      gR w v0 12 0 fun r6 =>
      lI w r6 14 ((52 : Int32) + v3) fun x7 =>
      nm ((((31 : Int64) * v1) + (x7.toInt64))) fun x8 =>
      (f_X12_digest_219 n) v0 x8 ((v3 + (1 : Int32))) w
def f_X12_digest_181 : Nat → Nat → Int64 → Int32 → Wd → Option (Int64 × Wd)
  | 0, _, _, _, _ => none
  | n + 1, v0, v1, v3, w =>
    gR w v0 12 0 fun r9 =>
    lI w r9 14 (38 : Int32) fun x10 =>
    if ((2 : Int32) * x10) ≤ v3 then
      f_X12_digest_219 4096 v0 v1 (0 : Int32) w
    else
      gR w v0 12 0 fun r11 =>
      lI w r11 14 ((39 : Int32) + v3) fun x12 =>
      nm ((((31 : Int64) * v1) + (x12.toInt64))) fun x13 =>
      (f_X12_digest_181 n) v0 x13 ((v3 + (1 : Int32))) w
def f_X12_digest_78 : Nat → Nat → Int64 → Int32 → Wd → Option (Int64 × Wd)
  | 0, _, _, _, _ => none
  | n + 1, v0, v1, v3, w =>
    gR w v0 12 0 fun r14 =>
    lI w r14 14 (19 : Int32) fun x15 =>
    if x15 ≤ v3 then
      f_X12_digest_181 4096 v0 v1 (0 : Int32) w
    else
      gR w v0 12 0 fun r16 =>
      lI w r16 14 ((20 : Int32) + v3) fun x17 =>
      nm ((((31 : Int64) * v1) + (x17.toInt64))) fun x18 =>
      gR w v0 12 0 fun r19 =>
      lI w r19 14 ((26 : Int32) + v3) fun x20 =>
      nm ((((31 : Int64) * x18) + (x20.toInt64))) fun x21 =>
      gR w v0 12 0 fun r22 =>
      lI w r22 14 ((32 : Int32) + v3) fun x23 =>
      nm ((((31 : Int64) * x21) + (x23.toInt64))) fun x24 =>
      gR w v0 12 0 fun r25 =>
      lI w r25 14 ((0 : Int32) + v3) fun x26 =>
      nm ((((31 : Int64) * x24) + (x26.toInt64))) fun x27 =>
      gR w v0 12 0 fun r28 =>
      lI w r28 14 ((6 : Int32) + v3) fun x29 =>
      nm ((((31 : Int64) * x27) + (x29.toInt64))) fun x30 =>
      (f_X12_digest_78 n) v0 x30 ((v3 + (1 : Int32))) w
def f_X12_digest_6 : Nat → Nat → Int64 → Int32 → Wd → Option (Int64 × Wd)
  | 0, _, _, _, _ => none
  | n + 1, v0, v1, v3, w =>
    if (10 : Int32) ≤ v3 then
      gR w v0 12 0 fun r31 =>
      lI w r31 14 (17 : Int32) fun x32 =>
      nm ((((31 : Int64) * v1) + (x32.toInt64))) fun x33 =>
      gR w v0 12 0 fun r34 =>
      lI w r34 14 (18 : Int32) fun x35 =>
      nm ((((31 : Int64) * x33) + (x35.toInt64))) fun x36 =>
      gR w v0 12 0 fun r37 =>
      lI w r37 14 (15 : Int32) fun x38 =>
      nm ((((31 : Int64) * x36) + (x38.toInt64))) fun x39 =>
      f_X12_digest_78 4096 v0 x39 (0 : Int32) w
    else
      calV w v0 12 (f_X12_countOf v0 v3 w) fun x41 w40 =>
      nm ((((31 : Int64) * v1) + (x41.toInt64))) fun x42 =>
      (f_X12_digest_6 n) v0 x42 ((v3 + (1 : Int32))) w40
def f_X12_digest (p0 : Nat) (w : Wd) : Option (Int64 × Wd) :=
  f_X12_digest_6 4096 p0 (1231 : Int64) (0 : Int32) w
def f_X12_forget_27 (v0 : Nat) (s0 : Int32) (w : Wd) : Option (Int32 × Wd) :=
  gR w v0 12 0 fun r1 =>
  lI w r1 14 s0 fun x2 =>
  gR w v0 12 0 fun r3 =>
  aI w r3 14 s0 (0 : Int32) fun w4 =>
  some (x2, w4)
def f_X12_forget (p0 : Nat) (p1 : Int32) (w : Wd) : Option (Int32 × Wd) :=
  cal (f_X12_in p1 (0 : Int32) (1 : Int32) w) fun x6 w5 =>
  if x6 = 0 then
    calV w5 p0 12 (f_X12_refuse p0 (-2 : Int32) w5) fun x8 w7 =>
    some (x8, w7)
  else
    if p1 = 0 then
      f_X12_forget_27 p0 (38 : Int32) w5
    else
      f_X12_forget_27 p0 (51 : Int32) w5
def f_X12_from_34 : Nat → Nat → Int32 → Int32 → Wd → Option (Int32 × Wd)
  | 0, _, _, _, _ => none
  | n + 1, v0, v1, v2, w =>
    if (213 : Int32) ≤ v2 then
      some ((1 : Int32), w)
    else
      gR w v0 12 0 fun r1 =>
      gR w v0 12 0 fun r2 =>
      lI w r2 14 (((213 : Int32) + ((213 : Int32) * v1)) + v2) fun x3 =>
      aI w r1 14 v2 x3 fun w4 =>
      (f_X12_from_34 n) v0 v1 ((v2 + (1 : Int32))) w4
def f_X12_from (p0 : Nat) (p1 : Int32) (w : Wd) : Option (Int32 × Wd) :=
  cal (f_X12_in p1 (0 : Int32) (1 : Int32) w) fun x6 w5 =>
  if x6 = 0 then
    calV w5 p0 12 (f_X12_refuse p0 (-2 : Int32) w5) fun x12 w11 =>
    some (x12, w11)
  else
    gR w5 p0 12 1 fun r7 =>
    lI w5 r7 15 p1 fun x8 =>
    if x8 = 0 then
      calV w5 p0 12 (f_X12_refuse p0 (-3 : Int32) w5) fun x10 w9 =>
      some (x10, w9)
    else
      f_X12_from_34 4096 p0 p1 (0 : Int32) w5
def f_X12_layTried_2 : Nat → Nat → Int32 → Wd → Option (Unit × Wd)
  | 0, _, _, _ => none
  | n + 1, v0, v1, w =>
    if (17 : Int32) ≤ v1 then
      some ((), w)
    else
      gR w v0 12 0 fun r1 =>
      gR w v0 12 0 fun r2 =>
      lI w r2 14 v1 fun x3 =>
      aI w r1 14 ((639 : Int32) + v1) x3 fun w4 =>
      (f_X12_layTried_2 n) v0 ((v1 + (1 : Int32))) w4
def f_X12_layTried (p0 : Nat) (w : Wd) : Option (Unit × Wd) :=
  f_X12_layTried_2 4096 p0 (0 : Int32) w
def f_X12_pass_98 (v0 : Nat) (v1 : Int32) (v3 : Int32) (w : Wd) : Option (Int32 × Wd) :=
  gR w v0 12 0 fun r1 =>
  lI w r1 14 (v1 + (14 : Int32)) fun x2 =>
  aI w r1 14 (v1 + (14 : Int32)) (x2 + (1 : Int32)) fun w3 =>
  some (v3, w3)
def f_X12_pass_60 (v0 : Nat) (v1 : Int32) (v2 : Int32) (v3 : Int32) (s0 : Int32) (w : Wd) : Option (Int32 × Wd) :=
  if v2 = (-1 : Int32) then
    f_X12_pass_98 v0 v1 v3 w
  else
    gR w v0 12 0 fun r4 =>
    lI w r4 14 ((v1 + (0 : Int32)) + v2) fun x5 =>
    aI w r4 14 ((v1 + (0 : Int32)) + v2) (x5 + s0) fun w6 =>
    gR w6 v0 12 0 fun r7 =>
    lI w6 r7 14 (v1 + (12 : Int32)) fun x8 =>
    aI w6 r7 14 (v1 + (12 : Int32)) (x8 + (v3 - s0)) fun w9 =>
    f_X12_pass_98 v0 v1 v3 w9
def f_X12_pass_32 (v0 : Nat) (v1 : Int32) (v2 : Int32) (s0 : Int32) (w : Wd) : Option (Int32 × Wd) :=
  gR w v0 12 0 fun r10 =>
  lI w r10 14 (17 : Int32) fun x11 =>
  calV w v0 12 (f_X12_inHouse v0 v1 w) fun x13 w12 =>
  nm ((x11 - x13)) fun x14 =>
  if x14 ≤ s0 then
    f_X12_pass_60 v0 v1 v2 s0 x14 w12
  else
    f_X12_pass_60 v0 v1 v2 s0 s0 w12
def f_X12_pass (p0 : Nat) (p1 : Int32) (p2 : Int32) (w : Wd) : Option (Int32 × Wd) :=
  if p2 = (-1 : Int32) then
    f_X12_pass_32 p0 p1 p2 (0 : Int32) w
  else
    gR w p0 12 0 fun r15 =>
    lI w r15 14 (p1 + (14 : Int32)) fun x16 =>
    gR w p0 12 0 fun r17 =>
    lI w r17 14 (p1 + (16 : Int32)) fun x18 =>
    calV w p0 12 (f_X12_ground p0 p2 x16 x18 w) fun x20 w19 =>
    f_X12_pass_32 p0 p1 p2 x20 w19
def f_X12_full_6 : Nat → Nat → Int32 → Wd → Option (Int32 × Wd)
  | 0, _, _, _ => none
  | n + 1, v0, v1, w =>
    if (61 : Int32) ≤ v1 then
      some ((-1 : Int32), w)
    else
      calV w v0 12 (f_X12_inHouse v0 (639 : Int32) w) fun x2 w1 =>
      gR w1 v0 12 0 fun r3 =>
      lI w1 r3 14 (17 : Int32) fun x4 =>
      if x2 = x4 then
        some (v1, w1)
      else
        gR w1 v0 12 0 fun r5 =>
        lI w1 r5 14 (15 : Int32) fun x6 =>
        calV w1 v0 12 (f_X12_pass v0 (639 : Int32) x6 w1) fun x8 w7 =>
        (f_X12_full_6 n) v0 ((v1 + (1 : Int32))) w7
def f_X12_full (p0 : Nat) (w : Wd) : Option (Int32 × Wd) :=
  calV w p0 12 (f_X12_layTried p0 w) fun _ w9 =>
  f_X12_full_6 4096 p0 (0 : Int32) w9
def f_X12_goods_29 (v0 : Nat) (w : Wd) : Option (Int32 × Wd) :=
  calV w v0 12 (f_X12_refuse v0 (-2 : Int32) w) fun x2 w1 =>
  some (x2, w1)
def f_X12_goods (p0 : Nat) (p1 : Int32) (p2 : Int32) (p3 : Int32) (w : Wd) : Option (Int32 × Wd) :=
  cal (f_X12_in p1 (0 : Int32) (5 : Int32) w) fun x4 w3 =>
  if x4 = 0 then
    f_X12_goods_29 p0 w3
  else
    cal (f_X12_in p2 (1 : Int32) (9 : Int32) w3) fun x6 w5 =>
    if x6 = 0 then
      f_X12_goods_29 p0 w5
    else
      cal (f_X12_in p3 (0 : Int32) (40 : Int32) w5) fun x8 w7 =>
      if x8 = 0 then
        f_X12_goods_29 p0 w7
      else
        gR w7 p0 12 0 fun r9 =>
        lI w7 r9 14 (19 : Int32) fun x10 =>
        if x10 = (6 : Int32) then
          calV w7 p0 12 (f_X12_refuse p0 (-4 : Int32) w7) fun x16 w15 =>
          some (x16, w15)
        else
          calV w7 p0 12 (f_X12_addGoods p0 p1 p2 p3 w7) fun _ w11 =>
          gR w11 p0 12 0 fun r13 =>
          lI w11 r13 14 (19 : Int32) fun x14 =>
          some ((x14 - (1 : Int32)), w11)
def f_X12_grind (p0 : Nat) (p1 : Int32) (w : Wd) : Option (Int32 × Wd) :=
  calV w p0 12 (f_X12_isGoods p0 p1 w) fun x2 w1 =>
  if x2 = 0 then
    calV w1 p0 12 (f_X12_badTen p0 w1) fun x10 w9 =>
    some (x10, w9)
  else
    calV w1 p0 12 (f_X12_keepPast p0 w1) fun _ w3 =>
    gR w3 p0 12 0 fun r5 =>
    lI w3 r5 14 (15 : Int32) fun x6 =>
    gR w3 p0 12 0 fun r7 =>
    aI w3 r7 14 (15 : Int32) p1 fun w8 =>
    some (x6, w8)
def f_X12_grinds (p0 : Nat) (w : Wd) : Option (Int32 × Wd) :=
  gR w p0 12 0 fun r1 =>
  lI w r1 14 (15 : Int32) fun x2 =>
  some (x2, w)
def f_X12_guess_19 (v0 : Nat) (w : Wd) : Option (Int32 × Wd) :=
  calV w v0 12 (f_X12_refuse v0 (-2 : Int32) w) fun x2 w1 =>
  some (x2, w1)
def f_X12_guess (p0 : Nat) (p1 : Int32) (p2 : Int32) (w : Wd) : Option (Int32 × Wd) :=
  cal (f_X12_in p1 (0 : Int32) (31 : Int32) w) fun x4 w3 =>
  if x4 = 0 then
    f_X12_guess_19 p0 w3
  else
    cal (f_X12_in p2 (0 : Int32) (5 : Int32) w3) fun x6 w5 =>
    if x6 = 0 then
      f_X12_guess_19 p0 w5
    else
      gR w5 p0 12 0 fun r7 =>
      lI w5 r7 14 (38 : Int32) fun x8 =>
      if x8 = (6 : Int32) then
        calV w5 p0 12 (f_X12_refuse p0 (-4 : Int32) w5) fun x23 w22 =>
        some (x23, w22)
      else
        gR w5 p0 12 0 fun r9 =>
        gR w5 p0 12 0 fun r10 =>
        lI w5 r10 14 (38 : Int32) fun x11 =>
        aI w5 r9 14 ((39 : Int32) + ((2 : Int32) * x11)) p1 fun w12 =>
        gR w12 p0 12 0 fun r13 =>
        gR w12 p0 12 0 fun r14 =>
        lI w12 r14 14 (38 : Int32) fun x15 =>
        aI w12 r13 14 (((39 : Int32) + ((2 : Int32) * x15)) + (1 : Int32)) p2 fun w16 =>
        gR w16 p0 12 0 fun r17 =>
        lI w16 r17 14 (38 : Int32) fun x18 =>
        aI w16 r17 14 (38 : Int32) (x18 + (1 : Int32)) fun w19 =>
        gR w19 p0 12 0 fun r20 =>
        lI w19 r20 14 (38 : Int32) fun x21 =>
        some (x21, w19)
def f_X12_hour_25 : Nat → Nat → Int32 → Int32 → Int32 → Wd → Option (Int32 × Wd)
  | 0, _, _, _, _, _ => none
  | n + 1, v0, v1, v2, v3, w =>
    if v1 ≤ v3 then
      some (v2, w)
    else
      gR w v0 12 0 fun r1 =>
      lI w r1 14 (15 : Int32) fun x2 =>
      calV w v0 12 (f_X12_pass v0 (0 : Int32) x2 w) fun x4 w3 =>
      nm ((v2 + x4)) fun x5 =>
      (f_X12_hour_25 n) v0 v1 x5 ((v3 + (1 : Int32))) w3
def f_X12_hour (p0 : Nat) (p1 : Int32) (w : Wd) : Option (Int32 × Wd) :=
  cal (f_X12_in p1 (1 : Int32) (60 : Int32) w) fun x7 w6 =>
  if x7 = 0 then
    calV w6 p0 12 (f_X12_refuse p0 (-2 : Int32) w6) fun x11 w10 =>
    some (x11, w10)
  else
    calV w6 p0 12 (f_X12_keepPast p0 w6) fun _ w8 =>
    f_X12_hour_25 4096 p0 p1 (0 : Int32) (0 : Int32) w8
def f_X12_image_18 : Nat → Nat → Int32 → Int32 → Wd → Option (Int32 × Wd)
  | 0, _, _, _, _ => none
  | n + 1, v0, v1, v2, w =>
    if (213 : Int32) ≤ v2 then
      gR w v0 12 1 fun r1 =>
      aI w r1 15 v1 (vp_nar .boolean (1 : Int32)) fun w2 =>
      some ((1 : Int32), w2)
    else
      gR w v0 12 0 fun r3 =>
      gR w v0 12 0 fun r4 =>
      lI w r4 14 v2 fun x5 =>
      aI w r3 14 (((213 : Int32) + ((213 : Int32) * v1)) + v2) x5 fun w6 =>
      (f_X12_image_18 n) v0 v1 ((v2 + (1 : Int32))) w6
def f_X12_image (p0 : Nat) (p1 : Int32) (w : Wd) : Option (Int32 × Wd) :=
  cal (f_X12_in p1 (0 : Int32) (1 : Int32) w) fun x8 w7 =>
  if x8 = 0 then
    calV w7 p0 12 (f_X12_refuse p0 (-2 : Int32) w7) fun x10 w9 =>
    some (x10, w9)
  else
    f_X12_image_18 4096 p0 p1 (0 : Int32) w7
def f_X12_isNoted_83 (rec6 : Nat → Int32 → Int32 → Int32 → Int32 → Int32 → Wd → Option (Int32 × Wd)) (v0 : Nat) (v1 : Int32) (v2 : Int32) (v3 : Int32) (v5 : Int32) (s0 : Int32) (w : Wd) : Option (Int32 × Wd) :=
  rec6 v0 v1 v2 v3 s0 ((v5 + (1 : Int32))) w
def f_X12_isNoted_82 (rec6 : Nat → Int32 → Int32 → Int32 → Int32 → Int32 → Wd → Option (Int32 × Wd)) (v0 : Nat) (v1 : Int32) (v2 : Int32) (v3 : Int32) (v5 : Int32) (w : Wd) : Option (Int32 × Wd) :=
  f_X12_isNoted_83 rec6 v0 v1 v2 v3 v5 (0 : Int32) w
def f_X12_isNoted_78 (rec6 : Nat → Int32 → Int32 → Int32 → Int32 → Int32 → Wd → Option (Int32 × Wd)) (v0 : Nat) (v1 : Int32) (v2 : Int32) (v3 : Int32) (v5 : Int32) (w : Wd) : Option (Int32 × Wd) :=
  f_X12_isNoted_83 rec6 v0 v1 v2 v3 v5 (1 : Int32) w
def f_X12_isNoted_6 : Nat → Nat → Int32 → Int32 → Int32 → Int32 → Int32 → Wd → Option (Int32 × Wd)
  | 0, _, _, _, _, _, _, _ => none
  | n + 1, v0, v1, v2, v3, v4, v5, w =>
    gR w v0 12 0 fun r1 =>
    lI w r1 14 (51 : Int32) fun x2 =>
    if x2 ≤ v5 then
      rZ v4 w
    else
      nm (((52 : Int32) + ((4 : Int32) * v5))) fun x3 =>
      if v4 = 0 then
        f_X12_isNoted_82 (f_X12_isNoted_6 n) v0 v1 v2 v3 v5 w
      else
        gR w v0 12 0 fun r4 =>
        lI w r4 14 x3 fun x5 =>
        if x5 = v1 then
          gR w v0 12 0 fun r6 =>
          lI w r6 14 (x3 + (1 : Int32)) fun x7 =>
          gR w v0 12 0 fun r8 =>
          lI w r8 14 (x3 + (2 : Int32)) fun x9 =>
          cal (f_X12_groundBy v2 v3 x7 x9 w) fun x11 w10 =>
          gR w10 v0 12 0 fun r12 =>
          lI w10 r12 14 (x3 + (3 : Int32)) fun x13 =>
          if x11 = x13 then
            f_X12_isNoted_78 (f_X12_isNoted_6 n) v0 v1 v2 v3 v5 w10
          else
            f_X12_isNoted_82 (f_X12_isNoted_6 n) v0 v1 v2 v3 v5 w10
        else
          f_X12_isNoted_78 (f_X12_isNoted_6 n) v0 v1 v2 v3 v5 w
def f_X12_isNoted (p0 : Nat) (p1 : Int32) (p2 : Int32) (p3 : Int32) (w : Wd) : Option (Int32 × Wd) :=
  f_X12_isNoted_6 4096 p0 p1 p2 p3 (1 : Int32) (0 : Int32) w
def f_X12_kindsOf_36 (rec4 : Nat → Int32 → Int32 → Int32 → Wd → Option (Int32 × Wd)) (v0 : Nat) (v1 : Int32) (v3 : Int32) (s0 : Int32) (s1 : Int32) (w : Wd) : Option (Int32 × Wd) :=
  nm ((s1 ||| s0)) fun x1 =>
  rec4 v0 v1 x1 ((v3 + (1 : Int32))) w
def f_X12_kindsOf_4 : Nat → Nat → Int32 → Int32 → Int32 → Wd → Option (Int32 × Wd)
  | 0, _, _, _, _, _ => none
  | n + 1, v0, v1, v2, v3, w =>
    if (6 : Int32) ≤ v3 then
      some (v2, w)
    else
      gR w v0 12 0 fun r2 =>
      lI w r2 14 ((26 : Int32) + v1) fun x3 =>
      calV w v0 12 (f_X12_isNoted v0 v1 v3 x3 w) fun x5 w4 =>
      if x5 = 0 then
        f_X12_kindsOf_36 (f_X12_kindsOf_4 n) v0 v1 v3 (0 : Int32) v2 w4
      else
        f_X12_kindsOf_36 (f_X12_kindsOf_4 n) v0 v1 v3 (((1 : Int32) <<< (v3 &&& 31))) v2 w4
def f_X12_kindsOf (p0 : Nat) (p1 : Int32) (w : Wd) : Option (Int32 × Wd) :=
  f_X12_kindsOf_4 4096 p0 p1 (0 : Int32) (0 : Int32) w
def f_X12_is_71 (rec39 : Nat → Int32 → Int32 → Int32 → Wd → Option (Int32 × Wd)) (v0 : Nat) (v1 : Int32) (v4 : Int32) (s0 : Int32) (s1 : Int32) (w : Wd) : Option (Int32 × Wd) :=
  nm ((s1 + s0)) fun x1 =>
  rec39 v0 v1 x1 ((v4 + (1 : Int32))) w
def f_X12_is_39 : Nat → Nat → Int32 → Int32 → Int32 → Wd → Option (Int32 × Wd)
  | 0, _, _, _, _, _ => none
  | n + 1, v0, v1, v3, v4, w =>
    if (10 : Int32) ≤ v4 then
      some (v3, w)
    else
      gR w v0 12 0 fun r2 =>
      lI w r2 14 ((20 : Int32) + v1) fun x3 =>
      calV w v0 12 (f_X12_isNoted v0 v1 x3 v4 w) fun x5 w4 =>
      if x5 = 0 then
        f_X12_is_71 (f_X12_is_39 n) v0 v1 v4 (0 : Int32) v3 w4
      else
        f_X12_is_71 (f_X12_is_39 n) v0 v1 v4 (1 : Int32) v3 w4
def f_X12_is_17 (v0 : Nat) (w : Wd) : Option (Int32 × Wd) :=
  calV w v0 12 (f_X12_refuse v0 (-2 : Int32) w) fun x7 w6 =>
  some (x7, w6)
def f_X12_is (p0 : Nat) (p1 : Int32) (p2 : Int32) (w : Wd) : Option (Int32 × Wd) :=
  calV w p0 12 (f_X12_isGoods p0 p1 w) fun x9 w8 =>
  if x9 = 0 then
    f_X12_is_17 p0 w8
  else
    cal (f_X12_in p2 (0 : Int32) (1 : Int32) w8) fun x11 w10 =>
    if x11 = 0 then
      f_X12_is_17 p0 w10
    else
      if p2 = 0 then
        calV w10 p0 12 (f_X12_kindsOf p0 p1 w10) fun x13 w12 =>
        some (x13, w12)
      else
        f_X12_is_39 4096 p0 p1 (0 : Int32) (1 : Int32) w10
def f_X12_isFigure_29 (s0 : Int32) (w : Wd) : Option (Int32 × Wd) :=
  rZ s0 w
def f_X12_isFigure_28 (w : Wd) : Option (Int32 × Wd) :=
  f_X12_isFigure_29 (0 : Int32) w
def f_X12_isFigure (p0 : Nat) (p1 : Int32) (w : Wd) : Option (Int32 × Wd) :=
  gI w p0 12 6 fun x1 =>
  if x1 ≤ p1 then
    f_X12_isFigure_28  w
  else
    gR w p0 12 5 fun r2 =>
    lI w r2 14 p1 fun x3 =>
    cal (f_X12_in x3 (48 : Int32) (57 : Int32) w) fun x5 w4 =>
    if x5 = 0 then
      f_X12_isFigure_28  w4
    else
      f_X12_isFigure_29 (1 : Int32) w4
def f_X12_isLetter_29 (s0 : Int32) (w : Wd) : Option (Int32 × Wd) :=
  rZ s0 w
def f_X12_isLetter_28 (w : Wd) : Option (Int32 × Wd) :=
  f_X12_isLetter_29 (0 : Int32) w
def f_X12_isLetter (p0 : Nat) (p1 : Int32) (w : Wd) : Option (Int32 × Wd) :=
  gI w p0 12 6 fun x1 =>
  if x1 ≤ p1 then
    f_X12_isLetter_28  w
  else
    gR w p0 12 5 fun r2 =>
    lI w r2 14 p1 fun x3 =>
    cal (f_X12_in x3 (97 : Int32) (122 : Int32) w) fun x5 w4 =>
    if x5 = 0 then
      f_X12_isLetter_28  w4
    else
      f_X12_isLetter_29 (1 : Int32) w4
def f_X12_isWord_87 (v2 : Int32) (w : Wd) : Option (Int32 × Wd) :=
  rZ v2 w
def f_X12_isWord_80 (rec21 : Nat → Int32 → Int32 → Int32 → Wd → Option (Int32 × Wd)) (v0 : Nat) (v1 : Int32) (v3 : Int32) (s0 : Int32) (w : Wd) : Option (Int32 × Wd) :=
  rec21 v0 v1 s0 ((v3 + (1 : Int32))) w
def f_X12_isWord_58 (rec21 : Nat → Int32 → Int32 → Int32 → Wd → Option (Int32 × Wd)) (v0 : Nat) (v1 : Int32) (v3 : Int32) (s0 : Int32) (w : Wd) : Option (Int32 × Wd) :=
  gR w v0 12 7 fun r1 =>
  lI w r1 14 (((5 : Int32) * v1) + v3) fun x2 =>
  if s0 = x2 then
    f_X12_isWord_80 rec21 v0 v1 v3 (1 : Int32) w
  else
    f_X12_isWord_80 rec21 v0 v1 v3 (0 : Int32) w
def f_X12_isWord_21 : Nat → Nat → Int32 → Int32 → Int32 → Wd → Option (Int32 × Wd)
  | 0, _, _, _, _, _ => none
  | n + 1, v0, v1, v2, v3, w =>
    if (5 : Int32) ≤ v3 then
      f_X12_isWord_87 v2 w
    else
      if v2 = 0 then
        f_X12_isWord_87 v2 w
      else
        gI w v0 12 8 fun x3 =>
        gI w v0 12 9 fun x4 =>
        if x4 ≤ (x3 + v3) then
          f_X12_isWord_58 (f_X12_isWord_21 n) v0 v1 v3 (0 : Int32) w
        else
          gR w v0 12 5 fun r5 =>
          gI w v0 12 8 fun x6 =>
          lI w r5 14 (x6 + v3) fun x7 =>
          f_X12_isWord_58 (f_X12_isWord_21 n) v0 v1 v3 x7 w
def f_X12_isWord_18 (v0 : Nat) (v1 : Int32) (s0 : Int32) (w : Wd) : Option (Int32 × Wd) :=
  f_X12_isWord_21 4096 v0 v1 s0 (0 : Int32) w
def f_X12_isWord (p0 : Nat) (p1 : Int32) (w : Wd) : Option (Int32 × Wd) :=
  gI w p0 12 9 fun x8 =>
  gI w p0 12 8 fun x9 =>
  if (5 : Int32) < (x8 - x9) then
    f_X12_isWord_18 p0 p1 (0 : Int32) w
  else
    f_X12_isWord_18 p0 p1 (1 : Int32) w
def f_X12_layFewest_153 (rec51 : Nat → Int32 → Int32 → Wd → Option (Unit × Wd)) (rec72 : Nat → Int32 → Int32 → Int32 → Int32 → Wd → Option (Unit × Wd)) (v0 : Nat) (v1 : Int32) (v2 : Int32) (v3 : Int32) (v4 : Int32) (s0 : Int32) (s1 : Int32) (s2 : Nat) (w : Wd) : Option (Unit × Wd) :=
  aI w s2 14 s1 s0 fun w1 =>
  rec72 v0 v1 v2 v3 ((v4 + (1 : Int32))) w1
def f_X12_layFewest_126 (rec51 : Nat → Int32 → Int32 → Wd → Option (Unit × Wd)) (rec72 : Nat → Int32 → Int32 → Int32 → Int32 → Wd → Option (Unit × Wd)) (v0 : Nat) (v1 : Int32) (v2 : Int32) (v3 : Int32) (v4 : Int32) (v5 : Int32) (s0 : Int32) (w : Wd) : Option (Unit × Wd) :=
  gR w v0 12 16 fun r2 =>
  if v5 ≤ s0 then
    f_X12_layFewest_153 rec51 rec72 v0 v1 v2 v3 v4 v5 ((((61 : Int32) * v2) + v4)) r2 w
  else
    f_X12_layFewest_153 rec51 rec72 v0 v1 v2 v3 v4 s0 ((((61 : Int32) * v2) + v4)) r2 w
def f_X12_layFewest_123 (rec51 : Nat → Int32 → Int32 → Wd → Option (Unit × Wd)) (rec72 : Nat → Int32 → Int32 → Int32 → Int32 → Wd → Option (Unit × Wd)) (v0 : Nat) (v1 : Int32) (v2 : Int32) (v3 : Int32) (v4 : Int32) (v5 : Int32) (w : Wd) : Option (Unit × Wd) :=
  f_X12_layFewest_126 rec51 rec72 v0 v1 v2 v3 v4 v5 (999 : Int32) w
def f_X12_layFewest_72 (rec51 : Nat → Int32 → Int32 → Wd → Option (Unit × Wd)) : Nat → Nat → Int32 → Int32 → Int32 → Int32 → Wd → Option (Unit × Wd)
  | 0, _, _, _, _, _, _ => none
  | n + 1, v0, v1, v2, v3, v4, w =>
    if v1 < v4 then
      rec51 v0 v1 ((v2 + (-1 : Int32))) w
    else
      gR w v0 12 16 fun r3 =>
      lI w r3 14 (((61 : Int32) * (v2 + (1 : Int32))) + v4) fun x4 =>
      if v3 ≤ 0 then
        f_X12_layFewest_123 rec51 (f_X12_layFewest_72 rec51 n) v0 v1 v2 v3 v4 x4 w
      else
        if v4 < v3 then
          f_X12_layFewest_123 rec51 (f_X12_layFewest_72 rec51 n) v0 v1 v2 v3 v4 x4 w
        else
          gR w v0 12 16 fun r5 =>
          lI w r5 14 ((((61 : Int32) * v2) + v4) - v3) fun x6 =>
          f_X12_layFewest_126 rec51 (f_X12_layFewest_72 rec51 n) v0 v1 v2 v3 v4 x4 (((1 : Int32) + x6)) w
def f_X12_layFewest_51 : Nat → Nat → Int32 → Int32 → Wd → Option (Unit × Wd)
  | 0, _, _, _, _ => none
  | n + 1, v0, v1, v2, w =>
    if v2 < 0 then
      some ((), w)
    else
      gR w v0 12 0 fun r7 =>
      lI w r7 14 (16 : Int32) fun x8 =>
      calV w v0 12 (f_X12_ground v0 v2 (0 : Int32) x8 w) fun x10 w9 =>
      f_X12_layFewest_72 (f_X12_layFewest_51 n) 4096 v0 v1 v2 x10 (0 : Int32) w9
def f_X12_layFewest_34 (rec2 : Nat → Int32 → Int32 → Wd → Option (Unit × Wd)) (v0 : Nat) (v1 : Int32) (v2 : Int32) (s0 : Int32) (s1 : Int32) (s2 : Nat) (w : Wd) : Option (Unit × Wd) :=
  aI w s2 14 s1 s0 fun w11 =>
  rec2 v0 v1 ((v2 + (1 : Int32))) w11
def f_X12_layFewest_2 : Nat → Nat → Int32 → Int32 → Wd → Option (Unit × Wd)
  | 0, _, _, _, _ => none
  | n + 1, v0, v1, v2, w =>
    if v1 < v2 then
      gR w v0 12 0 fun r12 =>
      lI w r12 14 (19 : Int32) fun x13 =>
      nm ((x13 - (1 : Int32))) fun x14 =>
      f_X12_layFewest_51 4096 v0 v1 x14 w
    else
      gR w v0 12 16 fun r15 =>
      gR w v0 12 0 fun r16 =>
      lI w r16 14 (19 : Int32) fun x17 =>
      if v2 = 0 then
        f_X12_layFewest_34 (f_X12_layFewest_2 n) v0 v1 v2 (0 : Int32) ((((61 : Int32) * x17) + v2)) r15 w
      else
        f_X12_layFewest_34 (f_X12_layFewest_2 n) v0 v1 v2 (999 : Int32) ((((61 : Int32) * x17) + v2)) r15 w
def f_X12_layFewest (p0 : Nat) (p1 : Int32) (w : Wd) : Option (Unit × Wd) :=
  f_X12_layFewest_2 4096 p0 p1 (0 : Int32) w
def f_X12_just_104 (rec67 : Nat → Int32 → Int32 → Int32 → Int32 → Wd → Option (Int32 × Wd)) : Nat → Nat → Int32 → Int32 → Int32 → Int32 → Int32 → Wd → Option (Int32 × Wd)
  | 0, _, _, _, _, _, _, _ => none
  | n + 1, v0, v2, v3, v4, v5, v6, w =>
    gR w v0 12 16 fun r1 =>
    lI w r1 14 ((((61 : Int32) * (v5 + (1 : Int32))) + v3) - (v4 * v6)) fun x2 =>
    gR w v0 12 16 fun r3 =>
    lI w r3 14 (((61 : Int32) * v5) + v3) fun x4 =>
    if (v4 + x2) = x4 then
      nm ((v3 - (v4 * v6))) fun x5 =>
      rec67 v0 v2 x5 v4 ((v5 + (1 : Int32))) w
    else
      (f_X12_just_104 rec67 n) v0 v2 v3 ((v4 + (-1 : Int32))) v5 v6 w
def f_X12_just_102 (rec67 : Nat → Int32 → Int32 → Int32 → Int32 → Wd → Option (Int32 × Wd)) (v0 : Nat) (v2 : Int32) (v3 : Int32) (v5 : Int32) (v6 : Int32) (s0 : Int32) (w : Wd) : Option (Int32 × Wd) :=
  f_X12_just_104 rec67 4096 v0 v2 v3 s0 v5 v6 w
def f_X12_just_67 : Nat → Nat → Int32 → Int32 → Int32 → Int32 → Wd → Option (Int32 × Wd)
  | 0, _, _, _, _, _, _ => none
  | n + 1, v0, v2, v3, v4, v5, w =>
    if v2 < v5 then
      some (v4, w)
    else
      gR w v0 12 0 fun r6 =>
      lI w r6 14 (16 : Int32) fun x7 =>
      calV w v0 12 (f_X12_ground v0 v5 (0 : Int32) x7 w) fun x9 w8 =>
      if x9 ≤ 0 then
        f_X12_just_102 (f_X12_just_67 n) v0 v2 v3 v5 x9 (0 : Int32) w8
      else
        nz x9 <|
        f_X12_just_102 (f_X12_just_67 n) v0 v2 v3 v5 x9 ((v3 / x9)) w8
def f_X12_just_28 (v0 : Nat) (v1 : Int32) (v2 : Int32) (w : Wd) : Option (Int32 × Wd) :=
  calV w v0 12 (f_X12_layFewest v0 v1 w) fun _ w10 =>
  gR w10 v0 12 16 fun r12 =>
  lI w10 r12 14 v1 fun x13 =>
  if x13 < (999 : Int32) then
    if v2 = (-1 : Int32) then
      gR w10 v0 12 16 fun r14 =>
      lI w10 r14 14 v1 fun x15 =>
      some (x15, w10)
    else
      f_X12_just_67 4096 v0 v2 v1 (0 : Int32) (0 : Int32) w10
  else
    some ((-1 : Int32), w10)
def f_X12_just_23 (v0 : Nat) (w : Wd) : Option (Int32 × Wd) :=
  calV w v0 12 (f_X12_badTen v0 w) fun x17 w16 =>
  some (x17, w16)
def f_X12_just (p0 : Nat) (p1 : Int32) (p2 : Int32) (w : Wd) : Option (Int32 × Wd) :=
  cal (f_X12_in p1 (1 : Int32) (60 : Int32) w) fun x19 w18 =>
  if x19 = 0 then
    f_X12_just_23 p0 w18
  else
    if p2 = (-1 : Int32) then
      f_X12_just_28 p0 p1 p2 w18
    else
      calV w18 p0 12 (f_X12_isGoods p0 p2 w18) fun x21 w20 =>
      if x21 = 0 then
        f_X12_just_23 p0 w20
      else
        f_X12_just_28 p0 p1 p2 w20
def f_X12_layMill_2 : Nat → Nat → Int32 → Int32 → Wd → Option (Unit × Wd)
  | 0, _, _, _, _ => none
  | n + 1, v0, v1, v2, w =>
    if (213 : Int32) ≤ v2 then
      gR w v0 12 0 fun r1 =>
      aI w r1 14 (17 : Int32) v1 fun w2 =>
      gR w2 v0 12 0 fun r3 =>
      aI w2 r3 14 (15 : Int32) (-1 : Int32) fun w4 =>
      some ((), w4)
    else
      gR w v0 12 0 fun r5 =>
      aI w r5 14 v2 (0 : Int32) fun w6 =>
      (f_X12_layMill_2 n) v0 v1 ((v2 + (1 : Int32))) w6
def f_X12_layMill (p0 : Nat) (p1 : Int32) (w : Wd) : Option (Unit × Wd) :=
  f_X12_layMill_2 4096 p0 p1 (0 : Int32) w
def f_X12_layStreet_229 (rec2 : Nat → Int32 → Int32 → Wd → Option (Unit × Wd)) (rec126 : Nat → Int32 → Int32 → Int32 → Int32 → Int32 → Int32 → Int32 → Int32 → Wd → Option (Unit × Wd)) (v0 : Nat) (v1 : Int32) (v2 : Int32) (v3 : Int32) (v4 : Int32) (v5 : Int32) (v6 : Int32) (v8 : Int32) (s0 : Int32) (s1 : Int32) (w : Wd) : Option (Unit × Wd) :=
  nm ((s1 + s0)) fun x1 =>
  rec126 v0 v1 v2 v3 v4 v5 ((v6 + (-1 : Int32))) x1 v8 w
def f_X12_layStreet_185 (rec2 : Nat → Int32 → Int32 → Wd → Option (Unit × Wd)) (rec126 : Nat → Int32 → Int32 → Int32 → Int32 → Int32 → Int32 → Int32 → Int32 → Wd → Option (Unit × Wd)) (v0 : Nat) (v1 : Int32) (v2 : Int32) (v3 : Int32) (v4 : Int32) (v5 : Int32) (v6 : Int32) (v7 : Int32) (v8 : Int32) (w : Wd) : Option (Unit × Wd) :=
  if v6 ≤ 0 then
    rec126 v0 v1 v2 v3 v4 v5 v6 v7 v8 w
  else
    gR w v0 12 20 fun r2 =>
    lI w r2 14 (((6 : Int32) * v3) + v4) fun x3 =>
    calV w v0 12 (f_X12_fetches v0 v4 v8 w) fun x5 w4 =>
    aI w4 r2 14 (((6 : Int32) * v3) + v4) (x3 + x5) fun w6 =>
    if v3 = v4 then
      f_X12_layStreet_229 rec2 rec126 v0 v1 v2 v3 v4 v5 v6 ((v8 + (1 : Int32))) (1 : Int32) v7 w6
    else
      f_X12_layStreet_229 rec2 rec126 v0 v1 v2 v3 v4 v5 v6 ((v8 + (1 : Int32))) (0 : Int32) v7 w6
def f_X12_layStreet_179 (rec2 : Nat → Int32 → Int32 → Wd → Option (Unit × Wd)) (rec126 : Nat → Int32 → Int32 → Int32 → Int32 → Int32 → Int32 → Int32 → Int32 → Wd → Option (Unit × Wd)) (v0 : Nat) (v1 : Int32) (v2 : Int32) (v3 : Int32) (v4 : Int32) (v5 : Int32) (v6 : Int32) (v7 : Int32) (s0 : Int32) (s1 : Int32) (w : Wd) : Option (Unit × Wd) :=
  nm ((s1 + s0)) fun x7 =>
  f_X12_layStreet_185 rec2 rec126 v0 v1 v2 v3 v4 ((v5 + (-1 : Int32))) v6 v7 x7 w
def f_X12_layStreet_136 (rec2 : Nat → Int32 → Int32 → Wd → Option (Unit × Wd)) (rec126 : Nat → Int32 → Int32 → Int32 → Int32 → Int32 → Int32 → Int32 → Int32 → Wd → Option (Unit × Wd)) (v0 : Nat) (v1 : Int32) (v2 : Int32) (v3 : Int32) (v4 : Int32) (v5 : Int32) (v6 : Int32) (v7 : Int32) (v8 : Int32) (w : Wd) : Option (Unit × Wd) :=
  if v5 ≤ 0 then
    f_X12_layStreet_185 rec2 rec126 v0 v1 v2 v3 v4 v5 v6 v7 v8 w
  else
    gR w v0 12 19 fun r8 =>
    lI w r8 14 (((6 : Int32) * v3) + v4) fun x9 =>
    calV w v0 12 (f_X12_fetches v0 v3 v7 w) fun x11 w10 =>
    aI w10 r8 14 (((6 : Int32) * v3) + v4) (x9 + x11) fun w12 =>
    if v3 = v4 then
      f_X12_layStreet_179 rec2 rec126 v0 v1 v2 v3 v4 v5 v6 ((v7 + (1 : Int32))) (1 : Int32) v8 w12
    else
      f_X12_layStreet_179 rec2 rec126 v0 v1 v2 v3 v4 v5 v6 ((v7 + (1 : Int32))) (0 : Int32) v8 w12
def f_X12_layStreet_126 (rec2 : Nat → Int32 → Int32 → Wd → Option (Unit × Wd)) : Nat → Nat → Int32 → Int32 → Int32 → Int32 → Int32 → Int32 → Int32 → Int32 → Wd → Option (Unit × Wd)
  | 0, _, _, _, _, _, _, _, _, _, _ => none
  | n + 1, v0, v1, v2, v3, v4, v5, v6, v7, v8, w =>
    if 0 < v5 then
      f_X12_layStreet_136 rec2 (f_X12_layStreet_126 rec2 n) v0 v1 v2 v3 v4 v5 v6 v7 v8 w
    else
      if v6 ≤ 0 then
        rec2 v0 v1 ((v2 + (1 : Int32))) w
      else
        f_X12_layStreet_136 rec2 (f_X12_layStreet_126 rec2 n) v0 v1 v2 v3 v4 v5 v6 v7 v8 w
def f_X12_layStreet_2 : Nat → Nat → Int32 → Int32 → Wd → Option (Unit × Wd)
  | 0, _, _, _, _ => none
  | n + 1, v0, v1, v2, w =>
    gR w v0 12 0 fun r13 =>
    lI w r13 14 (19 : Int32) fun x14 =>
    gR w v0 12 0 fun r15 =>
    lI w r15 14 (19 : Int32) fun x16 =>
    if (x14 * x16) ≤ v2 then
      some ((), w)
    else
      gR w v0 12 0 fun r17 =>
      lI w r17 14 (19 : Int32) fun x18 =>
      nz x18 <|
      nm ((v2 / x18)) fun x19 =>
      gR w v0 12 0 fun r20 =>
      lI w r20 14 (19 : Int32) fun x21 =>
      nz x21 <|
      nm ((irm v2 x21)) fun x22 =>
      gR w v0 12 0 fun r23 =>
      lI w r23 14 (16 : Int32) fun x24 =>
      calV w v0 12 (f_X12_ground v0 x19 (0 : Int32) x24 w) fun x26 w25 =>
      nm ((v1 * x26)) fun x27 =>
      gR w25 v0 12 0 fun r28 =>
      lI w25 r28 14 (16 : Int32) fun x29 =>
      calV w25 v0 12 (f_X12_ground v0 x22 (0 : Int32) x29 w25) fun x31 w30 =>
      nm ((v1 * x31)) fun x32 =>
      gR w30 v0 12 0 fun r33 =>
      lI w30 r33 14 ((6 : Int32) + x19) fun x34 =>
      gR w30 v0 12 0 fun r35 =>
      lI w30 r35 14 ((6 : Int32) + x22) fun x36 =>
      gR w30 v0 12 19 fun r37 =>
      aI w30 r37 14 (((6 : Int32) * x19) + x22) (0 : Int32) fun w38 =>
      gR w38 v0 12 20 fun r39 =>
      aI w38 r39 14 (((6 : Int32) * x19) + x22) (0 : Int32) fun w40 =>
      f_X12_layStreet_126 (f_X12_layStreet_2 n) 4096 v0 v1 v2 x19 x22 x27 x32 x34 x36 w40
def f_X12_layStreet (p0 : Nat) (p1 : Int32) (w : Wd) : Option (Unit × Wd) :=
  f_X12_layStreet_2 4096 p0 p1 (0 : Int32) w
def f_X12_mostKinds_111 (rec6 : Nat → Int32 → Int32 → Int32 → Int32 → Int32 → Int32 → Wd → Option (Int32 × Wd)) (v0 : Nat) (v1 : Int32) (v2 : Int32) (v3 : Int32) (v4 : Int32) (v6 : Int32) (s0 : Int32) (w : Wd) : Option (Int32 × Wd) :=
  rec6 v0 v1 v2 v3 v4 s0 ((v6 + (1 : Int32))) w
def f_X12_mostKinds_88 (rec6 : Nat → Int32 → Int32 → Int32 → Int32 → Int32 → Int32 → Wd → Option (Int32 × Wd)) (rec19 : Nat → Int32 → Int32 → Int32 → Int32 → Int32 → Int32 → Int32 → Int32 → Wd → Option (Int32 × Wd)) (v0 : Nat) (v1 : Int32) (v2 : Int32) (v3 : Int32) (v4 : Int32) (v5 : Int32) (v6 : Int32) (v8 : Int32) (s0 : Int32) (s1 : Int32) (w : Wd) : Option (Int32 × Wd) :=
  nm ((s1 + s0)) fun x1 =>
  rec19 v0 v1 v2 v3 v4 v5 v6 x1 ((v8 + (1 : Int32))) w
def f_X12_mostKinds_87 (rec6 : Nat → Int32 → Int32 → Int32 → Int32 → Int32 → Int32 → Wd → Option (Int32 × Wd)) (rec19 : Nat → Int32 → Int32 → Int32 → Int32 → Int32 → Int32 → Int32 → Int32 → Wd → Option (Int32 × Wd)) (v0 : Nat) (v1 : Int32) (v2 : Int32) (v3 : Int32) (v4 : Int32) (v5 : Int32) (v6 : Int32) (v8 : Int32) (s0 : Int32) (w : Wd) : Option (Int32 × Wd) :=
  f_X12_mostKinds_88 rec6 rec19 v0 v1 v2 v3 v4 v5 v6 v8 (0 : Int32) s0 w
def f_X12_mostKinds_19 (rec6 : Nat → Int32 → Int32 → Int32 → Int32 → Int32 → Int32 → Wd → Option (Int32 × Wd)) : Nat → Nat → Int32 → Int32 → Int32 → Int32 → Int32 → Int32 → Int32 → Int32 → Wd → Option (Int32 × Wd)
  | 0, _, _, _, _, _, _, _, _, _, _ => none
  | n + 1, v0, v1, v2, v3, v4, v5, v6, v7, v8, w =>
    if (6 : Int32) ≤ v8 then
      if v7 ≤ v5 then
        f_X12_mostKinds_111 rec6 v0 v1 v2 v3 v4 v6 v5 w
      else
        f_X12_mostKinds_111 rec6 v0 v1 v2 v3 v4 v6 v7 w
    else
      cal (f_X12_has v2 v6 w) fun x3 w2 =>
      if x3 = 0 then
        f_X12_mostKinds_87 rec6 (f_X12_mostKinds_19 rec6 n) v0 v1 v2 v3 v4 v5 v6 v8 v7 w2
      else
        cal (f_X12_has v2 v8 w2) fun x5 w4 =>
        if x5 = 0 then
          f_X12_mostKinds_87 rec6 (f_X12_mostKinds_19 rec6 n) v0 v1 v2 v3 v4 v5 v6 v8 v7 w4
        else
          gR w4 v0 12 0 fun r6 =>
          lI w4 r6 14 ((26 : Int32) + v1) fun x7 =>
          cal (f_X12_groundBy v6 x7 v3 v4 w4) fun x9 w8 =>
          gR w8 v0 12 0 fun r10 =>
          lI w8 r10 14 ((26 : Int32) + v1) fun x11 =>
          cal (f_X12_groundBy v8 x11 v3 v4 w8) fun x13 w12 =>
          if x9 = x13 then
            f_X12_mostKinds_88 rec6 (f_X12_mostKinds_19 rec6 n) v0 v1 v2 v3 v4 v5 v6 v8 (1 : Int32) v7 w12
          else
            f_X12_mostKinds_87 rec6 (f_X12_mostKinds_19 rec6 n) v0 v1 v2 v3 v4 v5 v6 v8 v7 w12
def f_X12_mostKinds_6 : Nat → Nat → Int32 → Int32 → Int32 → Int32 → Int32 → Int32 → Wd → Option (Int32 × Wd)
  | 0, _, _, _, _, _, _, _, _ => none
  | n + 1, v0, v1, v2, v3, v4, v5, v6, w =>
    if (6 : Int32) ≤ v6 then
      some (v5, w)
    else
      f_X12_mostKinds_19 (f_X12_mostKinds_6 n) 4096 v0 v1 v2 v3 v4 v5 v6 (0 : Int32) (0 : Int32) w
def f_X12_mostKinds (p0 : Nat) (p1 : Int32) (p2 : Int32) (p3 : Int32) (p4 : Int32) (w : Wd) : Option (Int32 × Wd) :=
  f_X12_mostKinds_6 4096 p0 p1 p2 p3 p4 (0 : Int32) (0 : Int32) w
def f_X12_look_110 (v3 : Int32) (w : Wd) : Option (Int32 × Wd) :=
  some (v3, w)
def f_X12_look_96 (rec30 : Nat → Int32 → Int32 → Int32 → Int32 → Int32 → Wd → Option (Int32 × Wd)) (rec44 : Nat → Int32 → Int32 → Int32 → Int32 → Int32 → Int32 → Wd → Option (Int32 × Wd)) (v0 : Nat) (v1 : Int32) (v2 : Int32) (v3 : Int32) (v5 : Int32) (v6 : Int32) (s0 : Int32) (w : Wd) : Option (Int32 × Wd) :=
  rec44 v0 v1 v2 v3 s0 v5 ((v6 + (1 : Int32))) w
def f_X12_look_81 (rec30 : Nat → Int32 → Int32 → Int32 → Int32 → Int32 → Wd → Option (Int32 × Wd)) (rec44 : Nat → Int32 → Int32 → Int32 → Int32 → Int32 → Int32 → Wd → Option (Int32 × Wd)) (v0 : Nat) (v1 : Int32) (v2 : Int32) (v4 : Int32) (v5 : Int32) (v6 : Int32) (v7 : Int32) (s0 : Int32) (w : Wd) : Option (Int32 × Wd) :=
  if v4 ≤ v7 then
    f_X12_look_96 rec30 rec44 v0 v1 v2 s0 v5 v6 v4 w
  else
    f_X12_look_96 rec30 rec44 v0 v1 v2 s0 v5 v6 v7 w
def f_X12_look_44 (rec30 : Nat → Int32 → Int32 → Int32 → Int32 → Int32 → Wd → Option (Int32 × Wd)) : Nat → Nat → Int32 → Int32 → Int32 → Int32 → Int32 → Int32 → Wd → Option (Int32 × Wd)
  | 0, _, _, _, _, _, _, _, _ => none
  | n + 1, v0, v1, v2, v3, v4, v5, v6, w =>
    if (4 : Int32) ≤ v6 then
      rec30 v0 v1 v2 v3 v4 ((v5 + (1 : Int32))) w
    else
      calV w v0 12 (f_X12_mostKinds v0 v1 v2 v6 v5 w) fun x2 w1 =>
      if v4 ≤ x2 then
        f_X12_look_81 rec30 (f_X12_look_44 rec30 n) v0 v1 v2 v4 v5 v6 x2 v3 w1
      else
        f_X12_look_81 rec30 (f_X12_look_44 rec30 n) v0 v1 v2 v4 v5 v6 x2 ((((10 : Int32) * v5) + v6)) w1
def f_X12_look_30 : Nat → Nat → Int32 → Int32 → Int32 → Int32 → Int32 → Wd → Option (Int32 × Wd)
  | 0, _, _, _, _, _, _, _ => none
  | n + 1, v0, v1, v2, v3, v4, v5, w =>
    if (10 : Int32) ≤ v5 then
      f_X12_look_110 v3 w
    else
      if v2 = 0 then
        f_X12_look_110 v3 w
      else
        f_X12_look_44 (f_X12_look_30 n) 4096 v0 v1 v2 v3 v4 v5 (0 : Int32) w
def f_X12_look (p0 : Nat) (p1 : Int32) (w : Wd) : Option (Int32 × Wd) :=
  calV w p0 12 (f_X12_isGoods p0 p1 w) fun x4 w3 =>
  if x4 = 0 then
    calV w3 p0 12 (f_X12_refuse p0 (-2 : Int32) w3) fun x8 w7 =>
    some (x8, w7)
  else
    calV w3 p0 12 (f_X12_kindsOf p0 p1 w3) fun x6 w5 =>
    f_X12_look_30 4096 p0 p1 x6 (-1 : Int32) (99 : Int32) (0 : Int32) w5
def f_X12_mayBe_55 (rec4 : Nat → Int32 → Int32 → Int32 → Wd → Option (Int32 × Wd)) (v0 : Nat) (v1 : Int32) (v3 : Int32) (s0 : Int32) (w : Wd) : Option (Int32 × Wd) :=
  rec4 v0 v1 s0 ((v3 + (1 : Int32))) w
def f_X12_mayBe_54 (rec4 : Nat → Int32 → Int32 → Int32 → Wd → Option (Int32 × Wd)) (v0 : Nat) (v1 : Int32) (v3 : Int32) (w : Wd) : Option (Int32 × Wd) :=
  f_X12_mayBe_55 rec4 v0 v1 v3 (0 : Int32) w
def f_X12_mayBe_4 : Nat → Nat → Int32 → Int32 → Int32 → Wd → Option (Int32 × Wd)
  | 0, _, _, _, _, _ => none
  | n + 1, v0, v1, v2, v3, w =>
    gR w v0 12 0 fun r1 =>
    lI w r1 14 (38 : Int32) fun x2 =>
    if x2 ≤ v3 then
      rZ v2 w
    else
      if v2 = 0 then
        f_X12_mayBe_54 (f_X12_mayBe_4 n) v0 v1 v3 w
      else
        gR w v0 12 0 fun r3 =>
        lI w r3 14 ((39 : Int32) + ((2 : Int32) * v3)) fun x4 =>
        cal (f_X12_alike v1 x4 w) fun x6 w5 =>
        gR w5 v0 12 0 fun r7 =>
        lI w5 r7 14 (((39 : Int32) + ((2 : Int32) * v3)) + (1 : Int32)) fun x8 =>
        if x6 = x8 then
          f_X12_mayBe_55 (f_X12_mayBe_4 n) v0 v1 v3 (1 : Int32) w5
        else
          f_X12_mayBe_54 (f_X12_mayBe_4 n) v0 v1 v3 w5
def f_X12_mayBe (p0 : Nat) (p1 : Int32) (w : Wd) : Option (Int32 × Wd) :=
  f_X12_mayBe_4 4096 p0 p1 (1 : Int32) (0 : Int32) w
def f_X12_mill (p0 : Nat) (p1 : Int32) (w : Wd) : Option (Int32 × Wd) :=
  cal (f_X12_in p1 (0 : Int32) (200 : Int32) w) fun x2 w1 =>
  if x2 = 0 then
    calV w1 p0 12 (f_X12_refuse p0 (-2 : Int32) w1) fun x8 w7 =>
    some (x8, w7)
  else
    gR w1 p0 12 0 fun r3 =>
    lI w1 r3 14 (19 : Int32) fun x4 =>
    calV w1 p0 12 (f_X12_layMill p0 p1 w1) fun _ w5 =>
    some (x4, w5)
def f_X12_mills_88 (rec37 : Nat → Int32 → Int64 → Int32 → Wd → Option (Int32 × Wd)) (v0 : Nat) (v2 : Int32) (v3 : Int64) (v5 : Int32) (s0 : Int32) (s1 : Int32) (s2 : Nat) (w : Wd) : Option (Int32 × Wd) :=
  calV w s2 12 (f_X12_pass s2 s1 s0 w) fun x2 w1 =>
  rec37 v0 v2 v3 ((v5 + (1 : Int32))) w1
def f_X12_mills_37 : Nat → Nat → Int32 → Int64 → Int32 → Wd → Option (Int32 × Wd)
  | 0, _, _, _, _, _ => none
  | n + 1, v0, v2, v3, v5, w =>
    if v2 ≤ v5 then
      calV w v0 12 (f_X12_inHouse v0 (639 : Int32) w) fun x4 w3 =>
      gR w3 v0 12 0 fun r5 =>
      lI w3 r5 14 (651 : Int32) fun x6 =>
      some ((x4 + x6), w3)
    else
      nm ((lrm ((v3 * (1103515245 : Int64)) + (12345 : Int64)) (2147483648 : Int64))) fun x7 =>
      nm (((lrm (x7 / (65536 : Int64)) (8 : Int64)).toInt32)) fun x8 =>
      calV w v0 12 (f_X12_isGoods v0 x8 w) fun x10 w9 =>
      if x10 = 0 then
        f_X12_mills_88 (f_X12_mills_37 n) v0 v2 x7 v5 (-1 : Int32) (639 : Int32) v0 w9
      else
        f_X12_mills_88 (f_X12_mills_37 n) v0 v2 x7 v5 x8 (639 : Int32) v0 w9
def f_X12_mills_20 (v0 : Nat) (w : Wd) : Option (Int32 × Wd) :=
  calV w v0 12 (f_X12_refuse v0 (-2 : Int32) w) fun x12 w11 =>
  some (x12, w11)
def f_X12_mills (p0 : Nat) (p1 : Int32) (p2 : Int32) (w : Wd) : Option (Int32 × Wd) :=
  cal (f_X12_in p1 (0 : Int32) (999999 : Int32) w) fun x14 w13 =>
  if x14 = 0 then
    f_X12_mills_20 p0 w13
  else
    cal (f_X12_in p2 (0 : Int32) (60 : Int32) w13) fun x16 w15 =>
    if x16 = 0 then
      f_X12_mills_20 p0 w15
    else
      calV w15 p0 12 (f_X12_layTried p0 w15) fun _ w17 =>
      nm ((p1.toInt64)) fun x19 =>
      f_X12_mills_37 4096 p0 p2 x19 (0 : Int32) w17
def f_X12_mostAlike_80 (rec25 : Nat → Int32 → Int32 → Int32 → Wd → Option (Int32 × Wd)) (v0 : Nat) (v1 : Int32) (v2 : Int32) (v3 : Int32) (w : Wd) : Option (Int32 × Wd) :=
  rec25 v0 v1 v2 ((v3 + (1 : Int32))) w
def f_X12_mostAlike_79 (rec25 : Nat → Int32 → Int32 → Int32 → Wd → Option (Int32 × Wd)) (v0 : Nat) (v1 : Int32) (v3 : Int32) (s0 : Int32) (w : Wd) : Option (Int32 × Wd) :=
  f_X12_mostAlike_80 rec25 v0 v1 s0 v3 w
def f_X12_mostAlike_25 : Nat → Nat → Int32 → Int32 → Int32 → Wd → Option (Int32 × Wd)
  | 0, _, _, _, _, _ => none
  | n + 1, v0, v1, v2, v3, w =>
    if (32 : Int32) ≤ v3 then
      some (v2, w)
    else
      calV w v0 12 (f_X12_mayBe v0 v3 w) fun x2 w1 =>
      if x2 = 0 then
        f_X12_mostAlike_80 (f_X12_mostAlike_25 n) v0 v1 v2 v3 w1
      else
        cal (f_X12_alike v1 v3 w1) fun x4 w3 =>
        gR w3 v0 12 18 fun r5 =>
        lI w3 r5 14 x4 fun x6 =>
        aI w3 r5 14 x4 (x6 + (1 : Int32)) fun w7 =>
        gR w7 v0 12 18 fun r8 =>
        lI w7 r8 14 x4 fun x9 =>
        if x9 ≤ v2 then
          f_X12_mostAlike_79 (f_X12_mostAlike_25 n) v0 v1 v3 v2 w7
        else
          gR w7 v0 12 18 fun r10 =>
          lI w7 r10 14 x4 fun x11 =>
          f_X12_mostAlike_79 (f_X12_mostAlike_25 n) v0 v1 v3 x11 w7
def f_X12_mostAlike_4 : Nat → Nat → Int32 → Int32 → Int32 → Wd → Option (Int32 × Wd)
  | 0, _, _, _, _, _ => none
  | n + 1, v0, v1, v2, v3, w =>
    if (6 : Int32) ≤ v3 then
      f_X12_mostAlike_25 4096 v0 v1 v2 (0 : Int32) w
    else
      gR w v0 12 18 fun r12 =>
      aI w r12 14 v3 (0 : Int32) fun w13 =>
      (f_X12_mostAlike_4 n) v0 v1 v2 ((v3 + (1 : Int32))) w13
def f_X12_mostAlike (p0 : Nat) (p1 : Int32) (w : Wd) : Option (Int32 × Wd) :=
  f_X12_mostAlike_4 4096 p0 p1 (0 : Int32) (0 : Int32) w
def f_X12_next_144 (w : Wd) : Option (Unit × Wd) :=
  some ((), w)
def f_X12_next_109 : Nat → Nat → Wd → Option (Unit × Wd)
  | 0, _, _ => none
  | n + 1, v0, w =>
    gI w v0 12 8 fun x1 =>
    calV w v0 12 (f_X12_isFigure v0 x1 w) fun x3 w2 =>
    if x3 = 0 then
      f_X12_next_144  w2
    else
      gI w2 v0 12 9 fun x4 =>
      calV w2 v0 12 (f_X12_isFigure v0 x4 w2) fun x6 w5 =>
      if x6 = 0 then
        f_X12_next_144  w5
      else
        gI w5 v0 12 9 fun x7 =>
        pI w5 v0 12 9 (x7 + (1 : Int32)) fun w8 =>
        (f_X12_next_109 n) v0 w8
def f_X12_next_74 : Nat → Nat → Wd → Option (Unit × Wd)
  | 0, _, _ => none
  | n + 1, v0, w =>
    gI w v0 12 8 fun x9 =>
    calV w v0 12 (f_X12_isLetter v0 x9 w) fun x11 w10 =>
    if x11 = 0 then
      f_X12_next_109 4096 v0 w10
    else
      gI w10 v0 12 9 fun x12 =>
      calV w10 v0 12 (f_X12_isLetter v0 x12 w10) fun x14 w13 =>
      if x14 = 0 then
        f_X12_next_109 4096 v0 w13
      else
        gI w13 v0 12 9 fun x15 =>
        pI w13 v0 12 9 (x15 + (1 : Int32)) fun w16 =>
        (f_X12_next_74 n) v0 w16
def f_X12_next_71 (v0 : Nat) (s0 : Int32) (s1 : Nat) (w : Wd) : Option (Unit × Wd) :=
  pI w s1 12 9 s0 fun w17 =>
  f_X12_next_74 4096 v0 w17
def f_X12_next_46 (v0 : Nat) (w : Wd) : Option (Unit × Wd) :=
  gI w v0 12 8 fun x18 =>
  gI w v0 12 6 fun x19 =>
  if x19 ≤ x18 then
    gI w v0 12 8 fun x20 =>
    f_X12_next_71 v0 x20 v0 w
  else
    gI w v0 12 8 fun x21 =>
    f_X12_next_71 v0 ((x21 + (1 : Int32))) v0 w
def f_X12_next_8 : Nat → Nat → Wd → Option (Unit × Wd)
  | 0, _, _ => none
  | n + 1, v0, w =>
    gI w v0 12 8 fun x22 =>
    gI w v0 12 6 fun x23 =>
    if x23 ≤ x22 then
      f_X12_next_46 v0 w
    else
      gR w v0 12 5 fun r24 =>
      gI w v0 12 8 fun x25 =>
      lI w r24 14 x25 fun x26 =>
      if x26 = (32 : Int32) then
        gI w v0 12 8 fun x27 =>
        pI w v0 12 8 (x27 + (1 : Int32)) fun w28 =>
        (f_X12_next_8 n) v0 w28
      else
        f_X12_next_46 v0 w
def f_X12_next (p0 : Nat) (w : Wd) : Option (Unit × Wd) :=
  gI w p0 12 9 fun x29 =>
  pI w p0 12 8 x29 fun w30 =>
  f_X12_next_8 4096 p0 w30
def f_X12_nextGuess_60 (rec7 : Nat → Int32 → Int32 → Int32 → Wd → Option (Int32 × Wd)) (v0 : Nat) (v1 : Int32) (v3 : Int32) (s0 : Int32) (w : Wd) : Option (Int32 × Wd) :=
  rec7 v0 v1 s0 ((v3 + (1 : Int32))) w
def f_X12_nextGuess_48 (rec7 : Nat → Int32 → Int32 → Int32 → Wd → Option (Int32 × Wd)) (v0 : Nat) (v2 : Int32) (v3 : Int32) (v4 : Int32) (v5 : Int32) (s0 : Int32) (w : Wd) : Option (Int32 × Wd) :=
  if v5 = 0 then
    f_X12_nextGuess_60 rec7 v0 s0 v3 v2 w
  else
    f_X12_nextGuess_60 rec7 v0 s0 v3 v4 w
def f_X12_nextGuess_36 (rec7 : Nat → Int32 → Int32 → Int32 → Wd → Option (Int32 × Wd)) (v0 : Nat) (v1 : Int32) (v2 : Int32) (v3 : Int32) (v4 : Int32) (s0 : Int32) (w : Wd) : Option (Int32 × Wd) :=
  if s0 = 0 then
    f_X12_nextGuess_48 rec7 v0 v2 v3 v4 s0 v1 w
  else
    f_X12_nextGuess_48 rec7 v0 v2 v3 v4 s0 v3 w
def f_X12_nextGuess_35 (rec7 : Nat → Int32 → Int32 → Int32 → Wd → Option (Int32 × Wd)) (v0 : Nat) (v1 : Int32) (v2 : Int32) (v3 : Int32) (v4 : Int32) (w : Wd) : Option (Int32 × Wd) :=
  f_X12_nextGuess_36 rec7 v0 v1 v2 v3 v4 (0 : Int32) w
def f_X12_nextGuess_7 : Nat → Nat → Int32 → Int32 → Int32 → Wd → Option (Int32 × Wd)
  | 0, _, _, _, _, _ => none
  | n + 1, v0, v1, v2, v3, w =>
    if (32 : Int32) ≤ v3 then
      some (v1, w)
    else
      calV w v0 12 (f_X12_mostAlike v0 v3 w) fun x2 w1 =>
      if x2 ≤ 0 then
        f_X12_nextGuess_35 (f_X12_nextGuess_7 n) v0 v1 v2 v3 x2 w1
      else
        if v2 ≤ x2 then
          f_X12_nextGuess_35 (f_X12_nextGuess_7 n) v0 v1 v2 v3 x2 w1
        else
          f_X12_nextGuess_36 (f_X12_nextGuess_7 n) v0 v1 v2 v3 x2 (1 : Int32) w1
def f_X12_nextGuess (p0 : Nat) (w : Wd) : Option (Int32 × Wd) :=
  f_X12_nextGuess_7 4096 p0 (-1 : Int32) (99 : Int32) (0 : Int32) w
def f_X12_note_39 (v0 : Nat) (w : Wd) : Option (Int32 × Wd) :=
  calV w v0 12 (f_X12_refuse v0 (-2 : Int32) w) fun x2 w1 =>
  some (x2, w1)
def f_X12_note (p0 : Nat) (p1 : Int32) (p2 : Int32) (p3 : Int32) (p4 : Int32) (w : Wd) : Option (Int32 × Wd) :=
  calV w p0 12 (f_X12_isGoods p0 p1 w) fun x4 w3 =>
  if x4 = 0 then
    f_X12_note_39 p0 w3
  else
    cal (f_X12_in p2 (0 : Int32) (99 : Int32) w3) fun x6 w5 =>
    if x6 = 0 then
      f_X12_note_39 p0 w5
    else
      cal (f_X12_in p3 (0 : Int32) (9 : Int32) w5) fun x8 w7 =>
      if x8 = 0 then
        f_X12_note_39 p0 w7
      else
        cal (f_X12_in p4 (0 : Int32) (20 : Int32) w7) fun x10 w9 =>
        if x10 = 0 then
          f_X12_note_39 p0 w9
        else
          gR w9 p0 12 0 fun r11 =>
          lI w9 r11 14 (51 : Int32) fun x12 =>
          if x12 = (6 : Int32) then
            calV w9 p0 12 (f_X12_refuse p0 (-4 : Int32) w9) fun x30 w29 =>
            some (x30, w29)
          else
            gR w9 p0 12 0 fun r13 =>
            lI w9 r13 14 (51 : Int32) fun x14 =>
            nm (((52 : Int32) + ((4 : Int32) * x14))) fun x15 =>
            gR w9 p0 12 0 fun r16 =>
            aI w9 r16 14 x15 p1 fun w17 =>
            gR w17 p0 12 0 fun r18 =>
            aI w17 r18 14 (x15 + (1 : Int32)) p2 fun w19 =>
            gR w19 p0 12 0 fun r20 =>
            aI w19 r20 14 (x15 + (2 : Int32)) p3 fun w21 =>
            gR w21 p0 12 0 fun r22 =>
            aI w21 r22 14 (x15 + (3 : Int32)) p4 fun w23 =>
            gR w23 p0 12 0 fun r24 =>
            lI w23 r24 14 (51 : Int32) fun x25 =>
            aI w23 r24 14 (51 : Int32) (x25 + (1 : Int32)) fun w26 =>
            gR w26 p0 12 0 fun r27 =>
            lI w26 r27 14 (51 : Int32) fun x28 =>
            some (x28, w26)
def f_X12_number_94 (s0 : Int32) (w : Wd) : Option (Int32 × Wd) :=
  some (s0, w)
def f_X12_number_79 (v1 : Int32) (v2 : Int32) (s0 : Int32) (w : Wd) : Option (Int32 × Wd) :=
  cal (f_X12_in s0 v1 v2 w) fun x2 w1 =>
  if x2 = 0 then
    f_X12_number_94 (-1 : Int32) w1
  else
    f_X12_number_94 s0 w1
def f_X12_number_28 (w : Wd) : Option (Int32 × Wd) :=
  some ((-1 : Int32), w)
def f_X12_number (p0 : Nat) (p1 : Int32) (p2 : Int32) (w : Wd) : Option (Int32 × Wd) :=
  calV w p0 12 (f_X12_next p0 w) fun _ w3 =>
  gI w3 p0 12 8 fun x5 =>
  calV w3 p0 12 (f_X12_isFigure p0 x5 w3) fun x7 w6 =>
  if x7 = 0 then
    f_X12_number_28  w6
  else
    gI w6 p0 12 9 fun x8 =>
    gI w6 p0 12 8 fun x9 =>
    if (x8 - x9) ≤ (2 : Int32) then
      gR w6 p0 12 5 fun r10 =>
      gI w6 p0 12 8 fun x11 =>
      lI w6 r10 14 x11 fun x12 =>
      nm ((x12 - (48 : Int32))) fun x13 =>
      gI w6 p0 12 9 fun x14 =>
      gI w6 p0 12 8 fun x15 =>
      if (x14 - x15) = (2 : Int32) then
        gR w6 p0 12 5 fun r16 =>
        gI w6 p0 12 8 fun x17 =>
        lI w6 r16 14 (x17 + (1 : Int32)) fun x18 =>
        f_X12_number_79 p1 p2 (((((10 : Int32) * x13) + x18) - (48 : Int32))) w6
      else
        f_X12_number_79 p1 p2 x13 w6
    else
      f_X12_number_28  w6
def f_X12_of_18 (v0 : Nat) (w : Wd) : Option (Int32 × Wd) :=
  calV w v0 12 (f_X12_refuse v0 (-2 : Int32) w) fun x2 w1 =>
  some (x2, w1)
def f_X12_of (p0 : Nat) (p1 : Int32) (p2 : Int32) (w : Wd) : Option (Int32 × Wd) :=
  calV w p0 12 (f_X12_isGoods p0 p1 w) fun x4 w3 =>
  if x4 = 0 then
    f_X12_of_18 p0 w3
  else
    cal (f_X12_in p2 (0 : Int32) (6 : Int32) w3) fun x6 w5 =>
    if x6 = 0 then
      f_X12_of_18 p0 w5
    else
      if p2 = (0 : Int32) then
        gR w5 p0 12 0 fun r7 =>
        lI w5 r7 14 ((20 : Int32) + p1) fun x8 =>
        some (x8, w5)
      else
        if p2 = (1 : Int32) then
          gR w5 p0 12 0 fun r9 =>
          lI w5 r9 14 ((26 : Int32) + p1) fun x10 =>
          some (x10, w5)
        else
          if p2 = (2 : Int32) then
            gR w5 p0 12 0 fun r11 =>
            lI w5 r11 14 ((32 : Int32) + p1) fun x12 =>
            some (x12, w5)
          else
            if p2 = (3 : Int32) then
              gR w5 p0 12 0 fun r13 =>
              lI w5 r13 14 ((0 : Int32) + p1) fun x14 =>
              some (x14, w5)
            else
              if p2 = (4 : Int32) then
                gR w5 p0 12 0 fun r15 =>
                lI w5 r15 14 ((6 : Int32) + p1) fun x16 =>
                some (x16, w5)
              else
                if p2 = (5 : Int32) then
                  gR w5 p0 12 0 fun r17 =>
                  lI w5 r17 14 (14 : Int32) fun x18 =>
                  gR w5 p0 12 0 fun r19 =>
                  lI w5 r19 14 (16 : Int32) fun x20 =>
                  calV w5 p0 12 (f_X12_ground p0 p1 x18 x20 w5) fun x22 w21 =>
                  some (x22, w21)
                else
                  gR w5 p0 12 0 fun r23 =>
                  lI w5 r23 14 ((6 : Int32) + p1) fun x24 =>
                  calV w5 p0 12 (f_X12_fetches p0 p1 x24 w5) fun x26 w25 =>
                  some (x26, w25)
def f_X12_part_30 (s0 : Int64) (w : Wd) : Option (Int64 × Wd) :=
  some (s0, w)
def f_X12_part (p0 : Nat) (p1 : Int32) (w : Wd) : Option (Int64 × Wd) :=
  if p1 = 0 then
    gL w p0 12 3 fun x4 =>
    f_X12_part_30 x4 w
  else
    if p1 = (1 : Int32) then
      gL w p0 12 4 fun x3 =>
      f_X12_part_30 x3 w
    else
      calV w p0 12 (f_X12_refuse p0 (-2 : Int32) w) fun x2 w1 =>
      f_X12_part_30 ((x2.toInt64)) w1
def f_X12_readsGoods_51 (v0 : Nat) (v1 : Int32) (v2 : Int32) (s0 : Int32) (w : Wd) : Option (Int32 × Wd) :=
  if s0 = (-1 : Int32) then
    rZ (0 : Int32) w
  else
    gR w v0 12 14 fun r1 =>
    gI w v0 12 15 fun x2 =>
    aI w r1 14 ((3 : Int32) * x2) v1 fun w3 =>
    gR w3 v0 12 14 fun r4 =>
    gI w3 v0 12 15 fun x5 =>
    aI w3 r4 14 (((3 : Int32) * x5) + (1 : Int32)) v2 fun w6 =>
    gR w6 v0 12 14 fun r7 =>
    gI w6 v0 12 15 fun x8 =>
    aI w6 r7 14 (((3 : Int32) * x8) + (2 : Int32)) s0 fun w9 =>
    gI w9 v0 12 15 fun x10 =>
    pI w9 v0 12 15 (x10 + (1 : Int32)) fun w11 =>
    rZ (1 : Int32) w11
def f_X12_readsGoods_34 (v0 : Nat) (v1 : Int32) (s0 : Int32) (w : Wd) : Option (Int32 × Wd) :=
  if s0 = (-1 : Int32) then
    f_X12_readsGoods_51 v0 v1 s0 (-1 : Int32) w
  else
    calV w v0 12 (f_X12_number v0 (0 : Int32) (40 : Int32) w) fun x13 w12 =>
    f_X12_readsGoods_51 v0 v1 s0 x13 w12
def f_X12_readsGoods (p0 : Nat) (w : Wd) : Option (Int32 × Wd) :=
  gI w p0 12 15 fun x14 =>
  if x14 = (6 : Int32) then
    rZ (0 : Int32) w
  else
    calV w p0 12 (f_X12_number p0 (0 : Int32) (5 : Int32) w) fun x16 w15 =>
    if x16 = (-1 : Int32) then
      f_X12_readsGoods_34 p0 x16 (-1 : Int32) w15
    else
      calV w15 p0 12 (f_X12_number p0 (1 : Int32) (9 : Int32) w15) fun x18 w17 =>
      f_X12_readsGoods_34 p0 x16 x18 w17
def f_X12_readsItem_139 (s0 : Int32) (w : Wd) : Option (Int32 × Wd) :=
  rZ s0 w
def f_X12_readsItem_114 (s0 : Int32) (w : Wd) : Option (Int32 × Wd) :=
  rZ s0 w
def f_X12_readsItem_89 (s0 : Int32) (w : Wd) : Option (Int32 × Wd) :=
  rZ s0 w
def f_X12_readsItem_56 (s0 : Int32) (w : Wd) : Option (Int32 × Wd) :=
  rZ s0 w
def f_X12_readsItem (p0 : Nat) (p1 : Int32) (w : Wd) : Option (Int32 × Wd) :=
  if p1 = (0 : Int32) then
    calV w p0 12 (f_X12_number p0 (0 : Int32) (99 : Int32) w) fun x2 w1 =>
    pI w1 p0 12 10 x2 fun w3 =>
    gI w3 p0 12 10 fun x4 =>
    if x4 = (-1 : Int32) then
      f_X12_readsItem_56 (0 : Int32) w3
    else
      f_X12_readsItem_56 (1 : Int32) w3
  else
    if p1 = (1 : Int32) then
      calV w p0 12 (f_X12_readsGoods p0 w) fun x6 w5 =>
      rZ x6 w5
    else
      if p1 = (2 : Int32) then
        gI w p0 12 15 fun x7 =>
        calV w p0 12 (f_X12_number p0 (0 : Int32) (x7 - (1 : Int32)) w) fun x9 w8 =>
        pI w8 p0 12 13 x9 fun w10 =>
        if x9 = (-1 : Int32) then
          f_X12_readsItem_89 (0 : Int32) w10
        else
          f_X12_readsItem_89 (1 : Int32) w10
      else
        if p1 = (3 : Int32) then
          calV w p0 12 (f_X12_number p0 (0 : Int32) (31 : Int32) w) fun x12 w11 =>
          pI w11 p0 12 11 x12 fun w13 =>
          gI w13 p0 12 11 fun x14 =>
          if x14 = (-1 : Int32) then
            f_X12_readsItem_114 (0 : Int32) w13
          else
            f_X12_readsItem_114 (1 : Int32) w13
        else
          calV w p0 12 (f_X12_number p0 (0 : Int32) (9 : Int32) w) fun x16 w15 =>
          pI w15 p0 12 12 x16 fun w17 =>
          gI w17 p0 12 12 fun x18 =>
          if x18 = (-1 : Int32) then
            f_X12_readsItem_139 (0 : Int32) w17
          else
            f_X12_readsItem_139 (1 : Int32) w17
def f_X12_wordHere_28 (rec2 : Nat → Int32 → Wd → Option (Int32 × Wd)) (v0 : Nat) (v1 : Int32) (w : Wd) : Option (Int32 × Wd) :=
  rec2 v0 ((v1 + (1 : Int32))) w
def f_X12_wordHere_2 : Nat → Nat → Int32 → Wd → Option (Int32 × Wd)
  | 0, _, _, _ => none
  | n + 1, v0, v1, w =>
    if (5 : Int32) ≤ v1 then
      some ((-1 : Int32), w)
    else
      gI w v0 12 8 fun x1 =>
      calV w v0 12 (f_X12_isLetter v0 x1 w) fun x3 w2 =>
      if x3 = 0 then
        f_X12_wordHere_28 (f_X12_wordHere_2 n) v0 v1 w2
      else
        calV w2 v0 12 (f_X12_isWord v0 v1 w2) fun x5 w4 =>
        if x5 = 0 then
          f_X12_wordHere_28 (f_X12_wordHere_2 n) v0 v1 w4
        else
          some (v1, w4)
def f_X12_wordHere (p0 : Nat) (w : Wd) : Option (Int32 × Wd) :=
  f_X12_wordHere_2 4096 p0 (0 : Int32) w
def f_X12_readItems_116 (w : Wd) : Option (Int32 × Wd) :=
  some ((-1 : Int32), w)
def f_X12_readItems_85 (w : Wd) : Option (Int32 × Wd) :=
  some ((-1 : Int32), w)
def f_X12_readItems_74 (rec31 : Nat → Int32 → Wd → Option (Int32 × Wd)) (v0 : Nat) (v1 : Int32) (v2 : Int32) (s0 : Int32) (s1 : Int32) (w : Wd) : Option (Int32 × Wd) :=
  if s1 = s0 then
    calV w v0 12 (f_X12_readsItem v0 v2 w) fun x2 w1 =>
    if x2 = 0 then
      f_X12_readItems_85  w1
    else
      calV w1 v0 12 (f_X12_next v0 w1) fun _ w3 =>
      gI w3 v0 12 8 fun x5 =>
      gI w3 v0 12 6 fun x6 =>
      if x5 = x6 then
        f_X12_readItems_116  w3
      else
        gR w3 v0 12 5 fun r7 =>
        gI w3 v0 12 8 fun x8 =>
        lI w3 r7 14 x8 fun x9 =>
        if x9 = (59 : Int32) then
          calV w3 v0 12 (f_X12_next v0 w3) fun _ w10 =>
          rec31 v0 ((v1 + (1 : Int32))) w10
        else
          f_X12_readItems_116  w3
  else
    f_X12_readItems_85  w
def f_X12_readItems_65 (rec31 : Nat → Int32 → Wd → Option (Int32 × Wd)) (v0 : Nat) (v1 : Int32) (v2 : Int32) (s0 : Int32) (w : Wd) : Option (Int32 × Wd) :=
  if v1 = 0 then
    f_X12_readItems_74 rec31 v0 v1 v2 (1 : Int32) s0 w
  else
    f_X12_readItems_74 rec31 v0 v1 v2 (0 : Int32) s0 w
def f_X12_readItems_46 (rec31 : Nat → Int32 → Wd → Option (Int32 × Wd)) (v0 : Nat) (v1 : Int32) (w : Wd) : Option (Int32 × Wd) :=
  calV w v0 12 (f_X12_wordHere v0 w) fun x13 w12 =>
  if x13 = (-1 : Int32) then
    f_X12_readItems_85  w12
  else
    if x13 = 0 then
      f_X12_readItems_65 rec31 v0 v1 x13 (1 : Int32) w12
    else
      f_X12_readItems_65 rec31 v0 v1 x13 (0 : Int32) w12
def f_X12_readItems_31 : Nat → Nat → Int32 → Wd → Option (Int32 × Wd)
  | 0, _, _, _ => none
  | n + 1, v0, v1, w =>
    if v1 = 0 then
      f_X12_readItems_46 (f_X12_readItems_31 n) v0 v1 w
    else
      gI w v0 12 8 fun x14 =>
      gI w v0 12 6 fun x15 =>
      if x15 ≤ x14 then
        some (v1, w)
      else
        f_X12_readItems_46 (f_X12_readItems_31 n) v0 v1 w
def f_X12_readItems (p0 : Nat) (w : Wd) : Option (Int32 × Wd) :=
  pI w p0 12 9 (0 : Int32) fun w16 =>
  pI w16 p0 12 15 (0 : Int32) fun w17 =>
  pI w17 p0 12 11 (0 : Int32) fun w18 =>
  pI w18 p0 12 12 (0 : Int32) fun w19 =>
  pI w19 p0 12 13 (-1 : Int32) fun w20 =>
  calV w20 p0 12 (f_X12_next p0 w20) fun _ w21 =>
  f_X12_readItems_31 4096 p0 (0 : Int32) w21
def f_X12_read_28 : Nat → Nat → Int32 → Int32 → Wd → Option (Int32 × Wd)
  | 0, _, _, _, _ => none
  | n + 1, v0, v1, v2, w =>
    gI w v0 12 15 fun x1 =>
    if x1 ≤ v2 then
      gR w v0 12 0 fun r2 =>
      gI w v0 12 11 fun x3 =>
      aI w r2 14 (18 : Int32) x3 fun w4 =>
      gR w4 v0 12 0 fun r5 =>
      gI w4 v0 12 12 fun x6 =>
      aI w4 r5 14 (16 : Int32) x6 fun w7 =>
      gR w7 v0 12 0 fun r8 =>
      gI w7 v0 12 13 fun x9 =>
      aI w7 r8 14 (15 : Int32) x9 fun w10 =>
      some (v1, w10)
    else
      gR w v0 12 14 fun r11 =>
      lI w r11 14 ((3 : Int32) * v2) fun x12 =>
      gR w v0 12 14 fun r13 =>
      lI w r13 14 (((3 : Int32) * v2) + (1 : Int32)) fun x14 =>
      gR w v0 12 14 fun r15 =>
      lI w r15 14 (((3 : Int32) * v2) + (2 : Int32)) fun x16 =>
      calV w v0 12 (f_X12_addGoods v0 x12 x14 x16 w) fun _ w17 =>
      (f_X12_read_28 n) v0 v1 ((v2 + (1 : Int32))) w17
def f_X12_read (p0 : Nat) (w : Wd) : Option (Int32 × Wd) :=
  calV w p0 12 (f_X12_readItems p0 w) fun x20 w19 =>
  if x20 = (-1 : Int32) then
    gI w19 p0 12 8 fun x24 =>
    some (((-10 : Int32) - x24), w19)
  else
    gI w19 p0 12 10 fun x21 =>
    calV w19 p0 12 (f_X12_layMill p0 x21 w19) fun _ w22 =>
    f_X12_read_28 4096 p0 x20 (0 : Int32) w22
def f_X12_rests_78 (rec5 : Nat → Int32 → Int32 → Int32 → Int32 → Wd → Option (Int32 × Wd)) (v0 : Nat) (v1 : Int32) (v2 : Int32) (v4 : Int32) (s0 : Int32) (w : Wd) : Option (Int32 × Wd) :=
  rec5 v0 v1 v2 s0 ((v4 + (1 : Int32))) w
def f_X12_rests_77 (rec5 : Nat → Int32 → Int32 → Int32 → Int32 → Wd → Option (Int32 × Wd)) (v0 : Nat) (v1 : Int32) (v2 : Int32) (v4 : Int32) (w : Wd) : Option (Int32 × Wd) :=
  f_X12_rests_78 rec5 v0 v1 v2 v4 (0 : Int32) w
def f_X12_rests_5 : Nat → Nat → Int32 → Int32 → Int32 → Int32 → Wd → Option (Int32 × Wd)
  | 0, _, _, _, _, _, _ => none
  | n + 1, v0, v1, v2, v3, v4, w =>
    gR w v0 12 0 fun r1 =>
    lI w r1 14 (19 : Int32) fun x2 =>
    if x2 ≤ v4 then
      rZ v3 w
    else
      if v3 = 0 then
        f_X12_rests_77 (f_X12_rests_5 n) v0 v1 v2 v4 w
      else
        gR w v0 12 19 fun r3 =>
        lI w r3 14 (((6 : Int32) * v4) + v2) fun x4 =>
        gR w v0 12 19 fun r5 =>
        lI w r5 14 (((6 : Int32) * v1) + v2) fun x6 =>
        if x6 < x4 then
          f_X12_rests_77 (f_X12_rests_5 n) v0 v1 v2 v4 w
        else
          gR w v0 12 20 fun r7 =>
          lI w r7 14 (((6 : Int32) * v1) + v4) fun x8 =>
          gR w v0 12 20 fun r9 =>
          lI w r9 14 (((6 : Int32) * v1) + v2) fun x10 =>
          if x10 < x8 then
            f_X12_rests_77 (f_X12_rests_5 n) v0 v1 v2 v4 w
          else
            f_X12_rests_78 (f_X12_rests_5 n) v0 v1 v2 v4 (1 : Int32) w
def f_X12_rests (p0 : Nat) (p1 : Int32) (p2 : Int32) (w : Wd) : Option (Int32 × Wd) :=
  f_X12_rests_5 4096 p0 p1 p2 (1 : Int32) (0 : Int32) w
def f_X12_say_55 (v2 : Int32) (s0 : Int32) (s1 : Int32) (s2 : Nat) (w : Wd) : Option (Int32 × Wd) :=
  aI w s2 14 s1 s0 fun w1 =>
  some (v2, w1)
def f_X12_say (p0 : Nat) (p1 : Int32) (w : Wd) : Option (Int32 × Wd) :=
  cal (f_X12_in p1 (0 : Int32) (31 : Int32) w) fun x3 w2 =>
  if x3 = 0 then
    calV w2 p0 12 (f_X12_refuse p0 (-2 : Int32) w2) fun x14 w13 =>
    some (x14, w13)
  else
    calV w2 p0 12 (f_X12_keepPast p0 w2) fun _ w4 =>
    gR w4 p0 12 0 fun r6 =>
    lI w4 r6 14 (18 : Int32) fun x7 =>
    cal (f_X12_alike p1 x7 w4) fun x9 w8 =>
    gR w8 p0 12 0 fun r10 =>
    if x9 = (5 : Int32) then
      f_X12_say_55 x9 (-1 : Int32) (15 : Int32) r10 w8
    else
      gR w8 p0 12 0 fun r11 =>
      lI w8 r11 14 (15 : Int32) fun x12 =>
      f_X12_say_55 x9 x12 (15 : Int32) r10 w8
def f_X12_sell_54 : Nat → Nat → Int32 → Int32 → Int32 → Int32 → Wd → Option (Int32 × Wd)
  | 0, _, _, _, _, _, _ => none
  | n + 1, v0, v1, v2, v3, v4, w =>
    if v2 ≤ v4 then
      gR w v0 12 0 fun r1 =>
      lI w r1 14 ((0 : Int32) + v1) fun x2 =>
      aI w r1 14 ((0 : Int32) + v1) (x2 - v2) fun w3 =>
      gR w3 v0 12 0 fun r4 =>
      lI w3 r4 14 (13 : Int32) fun x5 =>
      aI w3 r4 14 (13 : Int32) (x5 + v3) fun w6 =>
      some (v3, w6)
    else
      gR w v0 12 0 fun r7 =>
      lI w r7 14 ((6 : Int32) + v1) fun x8 =>
      calV w v0 12 (f_X12_fetches v0 v1 x8 w) fun x10 w9 =>
      nm ((v3 + x10)) fun x11 =>
      gR w9 v0 12 0 fun r12 =>
      lI w9 r12 14 ((6 : Int32) + v1) fun x13 =>
      aI w9 r12 14 ((6 : Int32) + v1) (x13 + (1 : Int32)) fun w14 =>
      (f_X12_sell_54 n) v0 v1 v2 x11 ((v4 + (1 : Int32))) w14
def f_X12_sell_19 (v0 : Nat) (w : Wd) : Option (Int32 × Wd) :=
  calV w v0 12 (f_X12_refuse v0 (-2 : Int32) w) fun x16 w15 =>
  some (x16, w15)
def f_X12_sell (p0 : Nat) (p1 : Int32) (p2 : Int32) (w : Wd) : Option (Int32 × Wd) :=
  calV w p0 12 (f_X12_isGoods p0 p1 w) fun x18 w17 =>
  if x18 = 0 then
    f_X12_sell_19 p0 w17
  else
    cal (f_X12_in p2 (1 : Int32) (200 : Int32) w17) fun x20 w19 =>
    if x20 = 0 then
      f_X12_sell_19 p0 w19
    else
      gR w19 p0 12 0 fun r21 =>
      lI w19 r21 14 ((0 : Int32) + p1) fun x22 =>
      if p2 ≤ x22 then
        calV w19 p0 12 (f_X12_keepPast p0 w19) fun _ w23 =>
        f_X12_sell_54 4096 p0 p1 p2 (0 : Int32) (0 : Int32) w23
      else
        calV w19 p0 12 (f_X12_refuse p0 (-3 : Int32) w19) fun x26 w25 =>
        some (x26, w25)
def f_X12_ship_31 : Nat → Nat → Int32 → Int32 → Int32 → Int32 → Wd → Option (Int32 × Wd)
  | 0, _, _, _, _, _, _ => none
  | n + 1, v0, v1, v2, v3, v4, w =>
    if (60 : Int32) ≤ v4 then
      some ((-1 : Int32), w)
    else
      gR w v0 12 0 fun r1 =>
      lI w r1 14 (14 : Int32) fun x2 =>
      gR w v0 12 0 fun r3 =>
      lI w r3 14 (16 : Int32) fun x4 =>
      calV w v0 12 (f_X12_ground v0 v1 (x2 + v4) x4 w) fun x6 w5 =>
      nm ((v3 + x6)) fun x7 =>
      if x7 ≤ v2 then
        (f_X12_ship_31 n) v0 v1 v2 x7 ((v4 + (1 : Int32))) w5
      else
        some ((v4 + (1 : Int32)), w5)
def f_X12_ship_19 (v0 : Nat) (w : Wd) : Option (Int32 × Wd) :=
  calV w v0 12 (f_X12_refuse v0 (-2 : Int32) w) fun x9 w8 =>
  some (x9, w8)
def f_X12_ship (p0 : Nat) (p1 : Int32) (p2 : Int32) (w : Wd) : Option (Int32 × Wd) :=
  calV w p0 12 (f_X12_isGoods p0 p1 w) fun x11 w10 =>
  if x11 = 0 then
    f_X12_ship_19 p0 w10
  else
    cal (f_X12_in p2 (0 : Int32) (300 : Int32) w10) fun x13 w12 =>
    if x13 = 0 then
      f_X12_ship_19 p0 w12
    else
      f_X12_ship_31 4096 p0 p1 p2 (0 : Int32) (0 : Int32) w12
def f_X12_status (p0 : Nat) (p1 : Int32) (w : Wd) : Option (Int32 × Wd) :=
  cal (f_X12_in p1 (0 : Int32) (2 : Int32) w) fun x2 w1 =>
  if x2 = 0 then
    calV w1 p0 12 (f_X12_refuse p0 (-2 : Int32) w1) fun x6 w5 =>
    some ((-1 : Int32), w5)
  else
    gR w1 p0 12 2 fun r3 =>
    lI w1 r3 14 p1 fun x4 =>
    some (x4, w1)
def f_X12_street_108 (s0 : Int32) (w : Wd) : Option (Int32 × Wd) :=
  some (s0, w)
def f_X12_street_85 (rec30 : Nat → Int32 → Int32 → Int32 → Wd → Option (Int32 × Wd)) (rec45 : Nat → Int32 → Int32 → Int32 → Int32 → Wd → Option (Int32 × Wd)) (v0 : Nat) (v2 : Int32) (v3 : Int32) (v4 : Int32) (v5 : Int32) (w : Wd) : Option (Int32 × Wd) :=
  rec45 v0 v2 v3 v4 ((v5 + (1 : Int32))) w
def f_X12_street_45 (rec30 : Nat → Int32 → Int32 → Int32 → Wd → Option (Int32 × Wd)) : Nat → Nat → Int32 → Int32 → Int32 → Int32 → Wd → Option (Int32 × Wd)
  | 0, _, _, _, _, _, _ => none
  | n + 1, v0, v2, v3, v4, v5, w =>
    gR w v0 12 0 fun r1 =>
    lI w r1 14 (19 : Int32) fun x2 =>
    if x2 ≤ v5 then
      rec30 v0 v2 v3 ((v4 + (1 : Int32))) w
    else
      calV w v0 12 (f_X12_rests v0 v4 v5 w) fun x4 w3 =>
      if x4 = 0 then
        f_X12_street_85 rec30 (f_X12_street_45 rec30 n) v0 v2 v3 v4 v5 w3
      else
        if v3 = v2 then
          some ((((6 : Int32) * v4) + v5), w3)
        else
          f_X12_street_85 rec30 (f_X12_street_45 rec30 n) v0 v2 ((v3 + (1 : Int32))) v4 v5 w3
def f_X12_street_30 : Nat → Nat → Int32 → Int32 → Int32 → Wd → Option (Int32 × Wd)
  | 0, _, _, _, _, _ => none
  | n + 1, v0, v2, v3, v4, w =>
    gR w v0 12 0 fun r5 =>
    lI w r5 14 (19 : Int32) fun x6 =>
    if x6 ≤ v4 then
      if v2 = (-1 : Int32) then
        f_X12_street_108 v3 w
      else
        f_X12_street_108 (-5 : Int32) w
    else
      f_X12_street_45 (f_X12_street_30 n) 4096 v0 v2 v3 v4 (0 : Int32) w
def f_X12_street_15 (v0 : Nat) (w : Wd) : Option (Int32 × Wd) :=
  calV w v0 12 (f_X12_badTen v0 w) fun x8 w7 =>
  some (x8, w7)
def f_X12_street (p0 : Nat) (p1 : Int32) (p2 : Int32) (w : Wd) : Option (Int32 × Wd) :=
  cal (f_X12_in p1 (1 : Int32) (9 : Int32) w) fun x10 w9 =>
  if x10 = 0 then
    f_X12_street_15 p0 w9
  else
    if (-1 : Int32) ≤ p2 then
      calV w9 p0 12 (f_X12_layStreet p0 p1 w9) fun _ w11 =>
      f_X12_street_30 4096 p0 p2 (0 : Int32) (0 : Int32) w11
    else
      f_X12_street_15 p0 w9
def f_X12_tellPart_6 : Nat → Nat → Int64 → Int64 → Int64 → Int64 → Wd → Option (Unit × Wd)
  | 0, _, _, _, _, _, _ => none
  | n + 1, v0, v1, v3, v5, v7, w =>
    if (lg_cmp v7 (0 : Int64)) = 0 then
      nzL v5 <|
      pL w v0 12 3 (v1 / v5) fun w1 =>
      nzL v5 <|
      pL w1 v0 12 4 (v3 / v5) fun w2 =>
      some ((), w2)
    else
      nzL v7 <|
      nm ((lrm v5 v7)) fun x3 =>
      (f_X12_tellPart_6 n) v0 v1 v3 v7 x3 w
def f_X12_tellPart (p0 : Nat) (p1 : Int64) (p3 : Int64) (w : Wd) : Option (Unit × Wd) :=
  f_X12_tellPart_6 4096 p0 p1 p3 p1 p3 w
def f_X12_then_80 (s0 : Int32) (w : Wd) : Option (Int32 × Wd) :=
  some (s0, w)
def f_X12_then_32 : Nat → Nat → Int32 → Int32 → Int32 → Wd → Option (Int32 × Wd)
  | 0, _, _, _, _, _ => none
  | n + 1, v0, v1, v2, v3, w =>
    if v1 ≤ v3 then
      if v2 = 0 then
        calV w v0 12 (f_X12_inHouse v0 (639 : Int32) w) fun x4 w3 =>
        f_X12_then_80 x4 w3
      else
        gR w v0 12 0 fun r1 =>
        lI w r1 14 (651 : Int32) fun x2 =>
        f_X12_then_80 x2 w
    else
      gR w v0 12 0 fun r5 =>
      lI w r5 14 (15 : Int32) fun x6 =>
      calV w v0 12 (f_X12_pass v0 (639 : Int32) x6 w) fun x8 w7 =>
      (f_X12_then_32 n) v0 v1 v2 ((v3 + (1 : Int32))) w7
def f_X12_then_19 (v0 : Nat) (w : Wd) : Option (Int32 × Wd) :=
  calV w v0 12 (f_X12_refuse v0 (-2 : Int32) w) fun x10 w9 =>
  some (x10, w9)
def f_X12_then (p0 : Nat) (p1 : Int32) (p2 : Int32) (w : Wd) : Option (Int32 × Wd) :=
  cal (f_X12_in p1 (0 : Int32) (60 : Int32) w) fun x12 w11 =>
  if x12 = 0 then
    f_X12_then_19 p0 w11
  else
    cal (f_X12_in p2 (0 : Int32) (1 : Int32) w11) fun x14 w13 =>
    if x14 = 0 then
      f_X12_then_19 p0 w13
    else
      calV w13 p0 12 (f_X12_layTried p0 w13) fun _ w15 =>
      f_X12_then_32 4096 p0 p1 p2 (0 : Int32) w15
def f_X12_thieves_47 : Nat → Nat → Int32 → Int32 → Int32 → Int64 → Int64 → Int64 → Int32 → Wd → Option (Int32 × Wd)
  | 0, _, _, _, _, _, _, _, _, _ => none
  | n + 1, v0, v1, v2, v3, v4, v6, v8, v10, w =>
    if v2 ≤ v10 then
      calV w v0 12 (f_X12_tellPart v0 v4 v6 w) fun _ w1 =>
      some ((1 : Int32), w1)
    else
      nm ((v8 * (((10 : Int32) - v3).toInt64))) fun x3 =>
      gR w v0 12 0 fun r4 =>
      lI w r4 14 (14 : Int32) fun x5 =>
      gR w v0 12 0 fun r6 =>
      lI w r6 14 (16 : Int32) fun x7 =>
      calV w v0 12 (f_X12_ground v0 v1 (x5 + v10) x7 w) fun x9 w8 =>
      nm ((((10 : Int64) * v4) + (x3 * (x9.toInt64)))) fun x10 =>
      nm ((v6 * (10 : Int64))) fun x11 =>
      (f_X12_thieves_47 n) v0 v1 v2 v3 x10 x11 x3 ((v10 + (1 : Int32))) w8
def f_X12_thieves_28 (v0 : Nat) (w : Wd) : Option (Int32 × Wd) :=
  calV w v0 12 (f_X12_refuse v0 (-2 : Int32) w) fun x13 w12 =>
  some (x13, w12)
def f_X12_thieves (p0 : Nat) (p1 : Int32) (p2 : Int32) (p3 : Int32) (w : Wd) : Option (Int32 × Wd) :=
  calV w p0 12 (f_X12_isGoods p0 p1 w) fun x15 w14 =>
  if x15 = 0 then
    f_X12_thieves_28 p0 w14
  else
    cal (f_X12_in p2 (0 : Int32) (9 : Int32) w14) fun x17 w16 =>
    if x17 = 0 then
      f_X12_thieves_28 p0 w16
    else
      cal (f_X12_in p3 (0 : Int32) (10 : Int32) w16) fun x19 w18 =>
      if x19 = 0 then
        f_X12_thieves_28 p0 w18
      else
        f_X12_thieves_47 4096 p0 p1 p2 p3 (0 : Int64) (1 : Int64) (1 : Int64) (0 : Int32) w18
def f_X12_type (p0 : Nat) (p1 : Int32) (w : Wd) : Option (Int32 × Wd) :=
  cal (f_X12_in p1 (0 : Int32) (127 : Int32) w) fun x2 w1 =>
  if x2 = 0 then
    calV w1 p0 12 (f_X12_refuse p0 (-2 : Int32) w1) fun x13 w12 =>
    some (x13, w12)
  else
    gI w1 p0 12 6 fun x3 =>
    if x3 = (150 : Int32) then
      calV w1 p0 12 (f_X12_refuse p0 (-4 : Int32) w1) fun x11 w10 =>
      some (x11, w10)
    else
      gR w1 p0 12 5 fun r4 =>
      gI w1 p0 12 6 fun x5 =>
      aI w1 r4 14 x5 p1 fun w6 =>
      gI w6 p0 12 6 fun x7 =>
      pI w6 p0 12 6 (x7 + (1 : Int32)) fun w8 =>
      gI w8 p0 12 6 fun x9 =>
      some (x9, w8)
def f_X12_undo_30 : Nat → Nat → Int32 → Wd → Option (Int32 × Wd)
  | 0, _, _, _ => none
  | n + 1, v0, v1, w =>
    if (17 : Int32) ≤ v1 then
      gR w v0 12 0 fun r1 =>
      lI w r1 14 (14 : Int32) fun x2 =>
      some (x2, w)
    else
      gR w v0 12 0 fun r3 =>
      gR w v0 12 0 fun r4 =>
      gR w v0 12 0 fun r5 =>
      lI w r5 14 (76 : Int32) fun x6 =>
      lI w r4 14 (((77 : Int32) + ((17 : Int32) * x6)) + v1) fun x7 =>
      aI w r3 14 v1 x7 fun w8 =>
      (f_X12_undo_30 n) v0 ((v1 + (1 : Int32))) w8
def f_X12_undo (p0 : Nat) (w : Wd) : Option (Int32 × Wd) :=
  gR w p0 12 0 fun r9 =>
  lI w r9 14 (76 : Int32) fun x10 =>
  if x10 = 0 then
    calV w p0 12 (f_X12_refuse p0 (-3 : Int32) w) fun x15 w14 =>
    some (x15, w14)
  else
    gR w p0 12 0 fun r11 =>
    lI w r11 14 (76 : Int32) fun x12 =>
    aI w r11 14 (76 : Int32) (x12 - (1 : Int32)) fun w13 =>
    f_X12_undo_30 4096 p0 (0 : Int32) w13
def f_X12_word (p0 : Nat) (p1 : Int32) (w : Wd) : Option (Int32 × Wd) :=
  cal (f_X12_in p1 (0 : Int32) (31 : Int32) w) fun x2 w1 =>
  if x2 = 0 then
    calV w1 p0 12 (f_X12_refuse p0 (-2 : Int32) w1) fun x6 w5 =>
    some (x6, w5)
  else
    gR w1 p0 12 0 fun r3 =>
    aI w1 r3 14 (18 : Int32) p1 fun w4 =>
    some ((1 : Int32), w4)
def f_X12_words_77 (s0 : Int32) (w : Wd) : Option (Int32 × Wd) :=
  some (s0, w)
def f_X12_words_61 (rec24 : Nat → Int32 → Int32 → Int32 → Int32 → Wd → Option (Int32 × Wd)) (v0 : Nat) (v1 : Int32) (v2 : Int32) (v4 : Int32) (s0 : Int32) (w : Wd) : Option (Int32 × Wd) :=
  rec24 v0 v1 v2 s0 ((v4 + (-1 : Int32))) w
def f_X12_words_44 (rec24 : Nat → Int32 → Int32 → Int32 → Int32 → Wd → Option (Int32 × Wd)) (v0 : Nat) (v1 : Int32) (v3 : Int32) (v4 : Int32) (s0 : Int32) (s1 : Int32) (w : Wd) : Option (Int32 × Wd) :=
  nm ((s1 + s0)) fun x1 =>
  calV w v0 12 (f_X12_mayBe v0 v4 w) fun x3 w2 =>
  if x3 = 0 then
    f_X12_words_61 rec24 v0 v1 x1 v4 v3 w2
  else
    f_X12_words_61 rec24 v0 v1 x1 v4 v4 w2
def f_X12_words_24 : Nat → Nat → Int32 → Int32 → Int32 → Int32 → Wd → Option (Int32 × Wd)
  | 0, _, _, _, _, _, _ => none
  | n + 1, v0, v1, v2, v3, v4, w =>
    if v4 < 0 then
      if v1 = 0 then
        f_X12_words_77 v2 w
      else
        f_X12_words_77 v3 w
    else
      calV w v0 12 (f_X12_mayBe v0 v4 w) fun x5 w4 =>
      if x5 = 0 then
        f_X12_words_44 (f_X12_words_24 n) v0 v1 v3 v4 (0 : Int32) v2 w4
      else
        f_X12_words_44 (f_X12_words_24 n) v0 v1 v3 v4 (1 : Int32) v2 w4
def f_X12_words (p0 : Nat) (p1 : Int32) (w : Wd) : Option (Int32 × Wd) :=
  cal (f_X12_in p1 (0 : Int32) (1 : Int32) w) fun x7 w6 =>
  if x7 = 0 then
    calV w6 p0 12 (f_X12_refuse p0 (-2 : Int32) w6) fun x9 w8 =>
    some (x9, w8)
  else
    f_X12_words_24 4096 p0 p1 (0 : Int32) (-1 : Int32) (31 : Int32) w6
