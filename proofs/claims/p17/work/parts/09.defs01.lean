def fX8_append_14 : Nat → Int32 → Int32 → sm_S → Option (Int32 × sm_S)
  | 0, _, _, _ => none
  | n + 1, v1, v2, m =>
  if v2 < 0 then (some ((1 : Int32), m)) else (if sm_ix (m.1 1 1) 80 then (fX8_append_14 n v1 (v2 + (-8 : Int32)) (sm_w1 (sm_w1 m 2 (m.1 1 1).toNatClampNeg (vp_nar .char ((((v1 >>> (v2 &&& 31)) &&& (255 : Int32))).toUInt32 % 65536).toInt32)) 1 1 ((m.1 1 1) + (1 : Int32)))) else none)
def fX8_append (x1 : Int32) (m : sm_S) : Option (Int32 × sm_S) :=
  if (m.1 1 1) ≤ (76 : Int32) then (fX8_append_14 sm_fu x1 (24 : Int32) m) else (some ((0 : Int32), m))
def fX11_sign (x1 : Int32) (m : sm_S) : Option (Int32 × sm_S) :=
  (fX8_append x1 m).bind fun r2 => if r2.1 = 0 then (some ((-1 : Int32), r2.2)) else (some ((r2.2.1 1 1), r2.2))
def fX11_end (x1 : Int32) (m : sm_S) : Option (Int32 × sm_S) :=
  if x1 < 0 then (some ((0 : Int32), m)) else (if x1 ≤ (m.1 1 1) then (some ((1 : Int32), (sm_w1 m 1 1 x1))) else (some ((0 : Int32), m)))
def fX8_signAt (m : sm_S) : Option (Int32) :=
  if (m.1 1 3) ≤ (m.1 1 2) then (some (-1 : Int32)) else (if (80 : Int32) ≤ (m.1 1 2) then (some (-1 : Int32)) else (if sm_ix (m.1 1 2) 80 then (some (m.1 2 (m.1 1 2).toNatClampNeg)) else none))
def fX8_cornerLetter (x1 : Int32) (m : sm_S) : Option (Int32 × sm_S) :=
  (fX8_signAt m).bind fun r2 => if (r2 - (97 : Int32)) < 0 then (some ((-1 : Int32), m)) else (if (m.1 1 4) ≤ (r2 - (97 : Int32)) then (some ((-1 : Int32), m)) else (if (r2 - (97 : Int32)) = x1 then (some ((-1 : Int32), m)) else (some ((r2 - (97 : Int32)), (sm_w1 m 1 2 ((m.1 1 2) + (1 : Int32)))))))
def fX8_digit (x1 : Int32) (m : sm_S) : Option (Int32 × sm_S) :=
  (fX8_signAt m).bind fun r2 => if (r2 - (48 : Int32)) < 0 then (some ((-1 : Int32), m)) else (if (r2 - (48 : Int32)) ≤ x1 then (some ((r2 - (48 : Int32)), (sm_w1 m 1 2 ((m.1 1 2) + (1 : Int32))))) else (some ((-1 : Int32), m)))
def fX8_longDigits (m : sm_S) : Option (Int32 × sm_S) :=
  (fX8_digit (9 : Int32) m).bind fun r2 => if 0 ≤ r2.1 then ((fX8_digit (9 : Int32) r2.2).bind fun r4 => if r4.1 < 0 then (if r2.1 < (1 : Int32) then (some ((-1 : Int32), (sm_w1 r4.2 1 2 ((r4.2.1 1 2) - (1 : Int32))))) else (if r2.1 ≤ (20 : Int32) then (some (r2.1, r4.2)) else (some ((-1 : Int32), (sm_w1 r4.2 1 2 ((r4.2.1 1 2) - (1 : Int32))))))) else (if (((10 : Int32) * r2.1) + r4.1) < (1 : Int32) then (some ((-1 : Int32), (sm_w1 r4.2 1 2 ((r4.2.1 1 2) - (1 : Int32))))) else (if (((10 : Int32) * r2.1) + r4.1) ≤ (20 : Int32) then (some ((((10 : Int32) * r2.1) + r4.1), r4.2)) else (some ((-1 : Int32), (sm_w1 r4.2 1 2 ((r4.2.1 1 2) - (1 : Int32)))))))) else (some ((-1 : Int32), r2.2))
def fX8_skip (x1 : Int32) (m : sm_S) : Option (Int32 × sm_S) :=
  (fX8_signAt m).bind fun r2 => if r2 = x1 then (some ((1 : Int32), (sm_w1 m 1 2 ((m.1 1 2) + (1 : Int32))))) else (some ((0 : Int32), m))
def fX8_marked (x1 : Int32) (x2 : Int32) (m : sm_S) : Option (Int32 × sm_S) :=
  (fX8_skip x1 m).bind fun r2 => if r2.1 = 0 then (some (x2, r2.2)) else ((fX8_digit (9 : Int32) r2.2).bind fun r4 => some (r4.1, r4.2))
def fX8_readHedge (m : sm_S) : Option (Int32 × sm_S) :=
  if (m.1 1 5) < (14 : Int32) then ((fX8_cornerLetter (-1 : Int32) m).bind fun r2 => if 0 ≤ r2.1 then ((fX8_cornerLetter r2.1 r2.2).bind fun r4 => if 0 ≤ r4.1 then ((fX8_longDigits r4.2).bind fun r6 => if r6.1 < 0 then (some ((0 : Int32), r6.2)) else ((fX8_skip (58 : Int32) r6.2).bind fun r8 => if r8.1 = 0 then (some ((0 : Int32), r8.2)) else ((fX8_digit (5 : Int32) r8.2).bind fun r10 => if 0 ≤ r10.1 then ((fX8_digit (5 : Int32) r10.2).bind fun r12 => if 0 ≤ r12.1 then ((fX8_marked (119 : Int32) (1 : Int32) r12.2).bind fun r14 => if 0 ≤ r14.1 then ((fX8_marked (126 : Int32) (0 : Int32) r14.2).bind fun r16 => if 0 ≤ r16.1 then (if sm_ix (r16.2.1 1 5) 14 then (if sm_ix (r16.2.1 1 5) 14 then (if sm_ix (r16.2.1 1 5) 14 then (if sm_ix (r16.2.1 1 5) 14 then (if sm_ix (r16.2.1 1 5) 14 then (if sm_ix (r16.2.1 1 5) 14 then (if sm_ix (r16.2.1 1 5) 14 then ((fX8_skip (103 : Int32) (sm_w1 (sm_w1 (sm_w1 (sm_w1 (sm_w1 (sm_w1 (sm_w1 r16.2 6 (r16.2.1 1 5).toNatClampNeg r2.1) 7 (r16.2.1 1 5).toNatClampNeg r4.1) 8 (r16.2.1 1 5).toNatClampNeg r6.1) 9 (r16.2.1 1 5).toNatClampNeg r10.1) 10 (r16.2.1 1 5).toNatClampNeg r12.1) 11 (r16.2.1 1 5).toNatClampNeg r14.1) 12 (r16.2.1 1 5).toNatClampNeg r16.1)).bind fun r25 => if sm_ix (r16.2.1 1 5) 14 then (some ((1 : Int32), (sm_w1 (sm_w1 r25.2 13 (r16.2.1 1 5).toNatClampNeg (vp_nar .boolean r25.1)) 1 5 ((r25.2.1 1 5) + (1 : Int32))))) else none) else none) else none) else none) else none) else none) else none) else none) else (some ((0 : Int32), r16.2))) else (some ((0 : Int32), r14.2))) else (some ((0 : Int32), r12.2))) else (some ((0 : Int32), r10.2))))) else (some ((0 : Int32), r4.2))) else (some ((0 : Int32), r2.2))) else (some ((0 : Int32), m))
def fX8_readCorner (m : sm_S) : Option (Int32 × sm_S) :=
  if (m.1 1 4) < (10 : Int32) then ((fX8_digit (9 : Int32) (sm_w1 m 1 2 ((m.1 1 2) + (1 : Int32)))).bind fun r2 => if 0 ≤ r2.1 then ((fX8_digit (9 : Int32) r2.2).bind fun r4 => if 0 ≤ r4.1 then (if sm_ix (r4.2.1 1 4) 10 then (if sm_ix (r4.2.1 1 4) 10 then (some ((1 : Int32), (sm_w1 (sm_w1 (sm_w1 r4.2 4 (r4.2.1 1 4).toNatClampNeg r2.1) 5 (r4.2.1 1 4).toNatClampNeg r4.1) 1 4 ((r4.2.1 1 4) + (1 : Int32))))) else none) else none) else (some ((0 : Int32), r4.2))) else (some ((0 : Int32), r2.2))) else (some ((0 : Int32), m))
def fX8_readLine (m : sm_S) : Option (Int32 × sm_S) :=
  (fX8_signAt m).bind fun r2 => if r2 = (64 : Int32) then ((fX8_readCorner m).bind fun r7 => if narrow .boolean (.int r7.1) = .int r7.1 then some (r7.1, r7.2) else none) else ((fX8_readHedge m).bind fun r4 => if narrow .boolean (.int r4.1) = .int r4.1 then some (r4.1, r4.2) else none)
def fX8_readLines_38 : Nat → Int32 → Int32 → sm_S → Option (Int32 × sm_S)
  | 0, _, _, _ => none
  | n + 1, v2, v3, m =>
  if v3 = 0 then (if (m.1 1 1) ≤ (m.1 1 2) then (some (v2, (sm_w1 (sm_w1 m 3 0 (m.1 1 4)) 3 1 (m.1 1 5)))) else (some (((-1 : Int32) - (m.1 1 2)), m))) else (if (76 : Int32) < v2 then (if (m.1 1 1) ≤ (m.1 1 2) then (some (v2, (sm_w1 (sm_w1 m 3 0 (m.1 1 4)) 3 1 (m.1 1 5)))) else (some (((-1 : Int32) - (m.1 1 2)), m))) else ((fX8_readLine m).bind fun r2 => if r2.1 = 0 then (some (((-1 : Int32) - (r2.2.1 1 2)), r2.2)) else ((fX8_skip (59 : Int32) r2.2).bind fun r4 => fX8_readLines_38 n (v2 + (1 : Int32)) r4.1 r4.2)))
def fX8_readLines (m : sm_S) : Option (Int32 × sm_S) :=
  fX8_readLines_38 sm_fu (0 : Int32) (1 : Int32) (sm_w1 (sm_w1 (sm_w1 (sm_w1 m 1 2 (0 : Int32)) 1 3 (if (76 : Int32) < (m.1 1 1) then (76 : Int32) else (m.1 1 1))) 1 4 (m.1 3 0)) 1 5 (m.1 3 1))
def fX11_land (m : sm_S) : Option (Int32 × sm_S) :=
  if (m.1 1 1) = 0 then (some ((0 : Int32), m)) else ((fX8_readLines m).bind fun r2 => if r2.1 ≤ 0 then (some (r2.1, (sm_w1 r2.2 1 1 (0 : Int32)))) else (some (r2.1, (sm_w1 (sm_w1 r2.2 1 1 (0 : Int32)) 20 0 (0 : Int32)))))
def fX2_hasHedge (x1 : Int32) (m : sm_S) : Option (Int32) :=
  if x1 < 0 then (some (0 : Int32)) else (if (m.1 3 1) ≤ x1 then (some (0 : Int32)) else (some (1 : Int32)))
def fX6_day (m : sm_S) : Option (Int32) :=
  some ((m.1 16 1) / (60 : Int32))
def fX6_isFresh (x1 : Int32) (m : sm_S) : Option (Int32) :=
  if sm_ix x1 14 then (if (m.1 17 (x1).toNatClampNeg) = (-1 : Int32) then (some (1 : Int32)) else ((fX6_day m).bind fun r3 => if sm_ix x1 14 then (if (r3 - (m.1 17 (x1).toNatClampNeg)) < (m.1 3 2) then (some (0 : Int32)) else (some (1 : Int32))) else none)) else none
def fX11_hedge (x1 : Int32) (x2 : Int32) (m : sm_S) : Option (Int32) :=
  (fX2_hasHedge x1 m).bind fun r2 => if r2 = 0 then none else (if x2 < 0 then none else (if x2 ≤ (8 : Int32) then (if x2 = (0 : Int32) then (if sm_ix x1 14 then (some (m.1 6 (x1).toNatClampNeg)) else none) else (if x2 = (1 : Int32) then (if sm_ix x1 14 then (some (m.1 7 (x1).toNatClampNeg)) else none) else (if x2 = (2 : Int32) then (if sm_ix x1 14 then (some (m.1 8 (x1).toNatClampNeg)) else none) else (if x2 = (3 : Int32) then (if sm_ix x1 14 then (some (m.1 9 (x1).toNatClampNeg)) else none) else (if x2 = (4 : Int32) then (if sm_ix x1 14 then (some (m.1 10 (x1).toNatClampNeg)) else none) else (if x2 = (5 : Int32) then (if sm_ix x1 14 then (some (m.1 11 (x1).toNatClampNeg)) else none) else (if x2 = (6 : Int32) then (if sm_ix x1 14 then (some (m.1 12 (x1).toNatClampNeg)) else none) else (if x2 = (7 : Int32) then (if sm_ix x1 14 then (if (m.1 13 (x1).toNatClampNeg) = 0 then (some (0 : Int32)) else (some (1 : Int32))) else none) else ((fX6_isFresh x1 m).bind fun r20 => if r20 = 0 then (some (0 : Int32)) else (some (1 : Int32))))))))))) else none))
def fX2_hasCorner (x1 : Int32) (m : sm_S) : Option (Int32) :=
  if x1 < 0 then (some (0 : Int32)) else (if (m.1 3 0) ≤ x1 then (some (0 : Int32)) else (some (1 : Int32)))
def fX2_grassBetween (x1 : Int32) (x2 : Int32) (m : sm_S) : Option (Int32) :=
  if sm_ix x1 10 then (if sm_ix x2 10 then (if sm_ix x1 10 then (if sm_ix x2 10 then (some ((2 : Int32) * ((if 0 ≤ ((m.1 4 (x1).toNatClampNeg) - (m.1 4 (x2).toNatClampNeg)) then ((m.1 4 (x1).toNatClampNeg) - (m.1 4 (x2).toNatClampNeg)) else 0 - ((m.1 4 (x1).toNatClampNeg) - (m.1 4 (x2).toNatClampNeg))) + (if 0 ≤ ((m.1 5 (x1).toNatClampNeg) - (m.1 5 (x2).toNatClampNeg)) then ((m.1 5 (x1).toNatClampNeg) - (m.1 5 (x2).toNatClampNeg)) else 0 - ((m.1 5 (x1).toNatClampNeg) - (m.1 5 (x2).toNatClampNeg)))))) else none) else none) else none) else none
def fX11_grass (x1 : Int32) (x2 : Int32) (m : sm_S) : Option (Int32) :=
  (fX2_hasCorner x1 m).bind fun r2 => if r2 = 0 then (some (-1 : Int32)) else ((fX2_hasCorner x2 m).bind fun r4 => if r4 = 0 then (some (-1 : Int32)) else ((fX2_grassBetween x1 x2 m).bind fun r6 => some r6))
def fX11_setDigit (x1 : Int32) (x2 : Int32) (m : sm_S) : Option (Int32 × sm_S) :=
  (fX2_hasHedge x1 m).bind fun r2 => if r2 = 0 then (some ((-1 : Int32), m)) else (if x2 < 0 then (some ((-1 : Int32), m)) else (if x2 ≤ (9 : Int32) then (if sm_ix x1 14 then (if sm_ix x1 14 then (some ((m.1 11 (x1).toNatClampNeg), (sm_w1 m 11 (x1).toNatClampNeg x2))) else none) else none) else (some ((-1 : Int32), m))))
def fX11_setDigit_i1 (x1 : Int32) (x2 : Int32) (m : sm_S) : Option (Int32 × sm_S) :=
  (fX2_hasHedge x1 m).bind fun r2 => if r2 = 0 then (some ((-1 : Int32), m)) else (if x2 < 0 then (some ((-1 : Int32), m)) else (if x2 ≤ (9 : Int32) then (if sm_ix x1 14 then (if sm_ix x1 14 then (some ((m.1 12 (x1).toNatClampNeg), (sm_w1 m 12 (x1).toNatClampNeg x2))) else none) else none) else (some ((-1 : Int32), m))))
def fX11_setNights (x1 : Int32) (m : sm_S) : Option (Int32 × sm_S) :=
  if x1 < 0 then (some ((-1 : Int32), m)) else (if x1 ≤ (99 : Int32) then (some ((m.1 3 2), (sm_w1 m 3 2 x1))) else (some ((-1 : Int32), m)))
def fX11_setFrost (x1 : Int32) (m : sm_S) : Option (Int32 × sm_S) :=
  if x1 < 0 then (some ((-1 : Int32), m)) else (if x1 ≤ (9999 : Int32) then (some ((m.1 3 3), (sm_w1 m 3 3 x1))) else (some ((-1 : Int32), m)))
def fX11_set (x1 : Int32) (x2 : Int32) (x3 : Int32) (m : sm_S) : Option (Int32 × sm_S) :=
  if x1 = (0 : Int32) then ((fX11_setDigit x2 x3 m).bind fun r3 => some (r3.1, r3.2)) else (if x1 = (1 : Int32) then ((fX11_setDigit_i1 x2 x3 m).bind fun r6 => some (r6.1, r6.2)) else (if x1 = (2 : Int32) then ((fX11_setNights x3 m).bind fun r9 => some (r9.1, r9.2)) else (if x1 = (3 : Int32) then ((fX11_setFrost x3 m).bind fun r12 => some (r12.1, r12.2)) else (some ((-1 : Int32), m)))))
def fX11_sheetEntry (x1 : Int32) (x2 : Int32) (m : sm_S) : Option (Int32) :=
  if x1 = 0 then (some (if (1 : Int32) < (if (x2).toInt8.toInt32 < (20 : Int32) then (x2).toInt8.toInt32 else (20 : Int32)) then (if (x2).toInt8.toInt32 < (20 : Int32) then (x2).toInt8.toInt32 else (20 : Int32)) else (1 : Int32))) else (if x1 = (1 : Int32) then (some (if (1 : Int32) < (if (x2).toInt16.toInt32 < (20 : Int32) then (x2).toInt16.toInt32 else (20 : Int32)) then (if (x2).toInt16.toInt32 < (20 : Int32) then (x2).toInt16.toInt32 else (20 : Int32)) else (1 : Int32))) else (some (if (1 : Int32) < (if x2 < (20 : Int32) then x2 else (20 : Int32)) then (if x2 < (20 : Int32) then x2 else (20 : Int32)) else (1 : Int32))))
def fX11_sheet_47 : Nat → Int32 → Int32 → Int32 → Int32 → Int32 → Int32 → Int32 → sm_S → Option (Int32 × sm_S)
  | 0, _, _, _, _, _, _, _, _ => none
  | n + 1, v1, v2, v3, v4, v5, v6, v7, m =>
  if (m.1 3 1) ≤ v7 then (if v5 = 0 then (some (v6, m)) else (some ((-3 : Int32), m))) else (if v5 = 0 then (if v2 ≤ v7 then (if sm_ix v7 14 then (if sm_ix v7 14 then (fX11_sheet_47 n v1 v2 v3 v4 v5 (v6 + ((sm_w1 m 8 (v7).toNatClampNeg (1 : Int32)).1 8 (v7).toNatClampNeg)) (v7 + (1 : Int32)) (sm_w1 m 8 (v7).toNatClampNeg (1 : Int32))) else none) else none) else ((fX11_sheetEntry v1 (v3 + (v7 * v4)) m).bind fun r6 => if sm_ix v7 14 then (if sm_ix v7 14 then (fX11_sheet_47 n v1 v2 v3 v4 v5 (v6 + ((sm_w1 m 8 (v7).toNatClampNeg r6).1 8 (v7).toNatClampNeg)) (v7 + (1 : Int32)) (sm_w1 m 8 (v7).toNatClampNeg r6)) else none) else none)) else (if sm_ix v7 14 then (if sm_ix v7 14 then (fX11_sheet_47 n v1 v2 v3 v4 v5 (v6 + ((sm_w1 m 8 (v7).toNatClampNeg (1 : Int32)).1 8 (v7).toNatClampNeg)) (v7 + (1 : Int32)) (sm_w1 m 8 (v7).toNatClampNeg (1 : Int32))) else none) else none))
def fX11_sheet (x1 : Int32) (x2 : Int32) (x3 : Int32) (x4 : Int32) (m : sm_S) : Option (Int32 × sm_S) :=
  if x1 < 0 then (some ((-1 : Int32), m)) else (if (3 : Int32) < x1 then (some ((-1 : Int32), m)) else (if x2 ≤ (14 : Int32) then (if x1 = (3 : Int32) then (fX11_sheet_47 sm_fu x1 x2 x3 x4 (1 : Int32) (0 : Int32) (0 : Int32) m) else (if 0 ≤ x2 then (fX11_sheet_47 sm_fu x1 x2 x3 x4 (0 : Int32) (0 : Int32) (0 : Int32) m) else (some ((-2 : Int32), m)))) else (some ((-1 : Int32), m))))
def fX2_touches (x1 : Int32) (x2 : Int32) (m : sm_S) : Option (Int32) :=
  if sm_ix x1 14 then (if (m.1 6 (x1).toNatClampNeg) = x2 then (some (1 : Int32)) else (if sm_ix x1 14 then (if (m.1 7 (x1).toNatClampNeg) = x2 then (some (1 : Int32)) else (some (0 : Int32))) else none)) else none
def fX2_minutesFrom (x1 : Int32) (x2 : Int32) (m : sm_S) : Option (Int32) :=
  if sm_ix x1 14 then (if (m.1 6 (x1).toNatClampNeg) = x2 then (if sm_ix x1 14 then (some (m.1 8 (x1).toNatClampNeg)) else none) else (if sm_ix x1 14 then (if sm_ix x1 14 then (some ((m.1 8 (x1).toNatClampNeg) + (m.1 12 (x1).toNatClampNeg))) else none) else none)) else none
def fX6_isLight (m : sm_S) : Option (Int32) :=
  if (40 : Int32) ≤ ((m.1 16 1) - (m.1 16 1) / (60 : Int32) * (60 : Int32)) then (some (0 : Int32)) else (some (1 : Int32))
def fX6_whyNot (x1 : Int32) (m : sm_S) : Option (Int32) :=
  (fX2_touches x1 (m.1 16 0) m).bind fun r2 => if r2 = 0 then (some (-2 : Int32)) else ((fX6_isFresh x1 m).bind fun r4 => if r4 = 0 then (some (-3 : Int32)) else (if sm_ix x1 14 then (if (m.1 13 (x1).toNatClampNeg) = 0 then ((fX2_minutesFrom x1 (m.1 16 0) m).bind fun r7 => if ((m.1 16 1) + r7) ≤ (m.1 3 3) then (some (0 : Int32)) else (some (-5 : Int32))) else ((fX6_isLight m).bind fun r9 => if r9 = 0 then (some (-4 : Int32)) else ((fX2_minutesFrom x1 (m.1 16 0) m).bind fun r11 => if ((m.1 16 1) + r11) ≤ (m.1 3 3) then (some (0 : Int32)) else (some (-5 : Int32))))) else none))
def fX7_remember (x1 : Int32) (m : sm_S) : Option (sm_S) :=
  if sm_ix (m.1 20 1) 30 then (if sm_ix (m.1 20 1) 30 then (if sm_ix (m.1 20 1) 30 then (if sm_ix x1 14 then (if sm_ix (m.1 20 1) 30 then (some (sm_w1 (sm_w1 (sm_w1 (sm_w1 (sm_w1 (sm_w1 m 21 (m.1 20 1).toNatClampNeg x1) 22 (m.1 20 1).toNatClampNeg (m.1 16 0)) 23 (m.1 20 1).toNatClampNeg (m.1 16 1)) 24 (m.1 20 1).toNatClampNeg (m.1 17 (x1).toNatClampNeg)) 20 1 (((m.1 20 1) + (1 : Int32)) - ((m.1 20 1) + (1 : Int32)) / (30 : Int32) * (30 : Int32))) 20 0 (if (30 : Int32) < ((m.1 20 0) + (1 : Int32)) then (30 : Int32) else ((m.1 20 0) + (1 : Int32))))) else none) else none) else none) else none) else none
def fX2_otherEnd (x1 : Int32) (x2 : Int32) (m : sm_S) : Option (Int32) :=
  if sm_ix x1 14 then (if (m.1 6 (x1).toNatClampNeg) = x2 then (if sm_ix x1 14 then (some (m.1 7 (x1).toNatClampNeg)) else none) else (if sm_ix x1 14 then (some (m.1 6 (x1).toNatClampNeg)) else none)) else none
def fX6_step (x1 : Int32) (m : sm_S) : Option (Int32 × sm_S) :=
  (fX2_minutesFrom x1 (m.1 16 0) m).bind fun r2 => (fX6_day m).bind fun r4 => if sm_ix x1 14 then ((fX2_otherEnd x1 (m.1 16 0) (sm_w1 (sm_w1 m 17 (x1).toNatClampNeg r4) 16 1 ((m.1 16 1) + r2))).bind fun r7 => some (r2, (sm_w1 (sm_w1 (sm_w1 m 17 (x1).toNatClampNeg r4) 16 1 ((m.1 16 1) + r2)) 16 0 r7))) else none
def fX11_walk (x1 : Int32) (m : sm_S) : Option (Int32 × sm_S) :=
  (fX2_hasHedge x1 m).bind fun r2 => if r2 = 0 then (some ((-1 : Int32), m)) else ((fX6_whyNot x1 m).bind fun r4 => if r4 = 0 then ((fX7_remember x1 m).bind fun m6 => (fX6_step x1 m6).bind fun r8 => some (r8.1, r8.2)) else (some (r4, m)))
def fX11_rest (x1 : Int32) (m : sm_S) : Option (Int32 × sm_S) :=
  if x1 < 0 then (some ((-1 : Int32), m)) else (if x1 ≤ (9999 : Int32) then (if ((m.1 16 1) + x1) ≤ (m.1 3 3) then (some (((m.1 16 1) + x1), (sm_w1 (sm_w1 m 16 1 ((m.1 16 1) + x1)) 20 0 (0 : Int32)))) else (some ((-5 : Int32), m))) else (some ((-1 : Int32), m)))
def fX7_takeBack (m : sm_S) : Option (Int32 × sm_S) :=
  if (m.1 20 0) = 0 then (some ((0 : Int32), m)) else (if sm_ix ((((m.1 20 1) + (30 : Int32)) - (1 : Int32)) - (((m.1 20 1) + (30 : Int32)) - (1 : Int32)) / (30 : Int32) * (30 : Int32)) 30 then (if sm_ix ((((m.1 20 1) + (30 : Int32)) - (1 : Int32)) - (((m.1 20 1) + (30 : Int32)) - (1 : Int32)) / (30 : Int32) * (30 : Int32)) 30 then (if sm_ix ((((m.1 20 1) + (30 : Int32)) - (1 : Int32)) - (((m.1 20 1) + (30 : Int32)) - (1 : Int32)) / (30 : Int32) * (30 : Int32)) 30 then (if sm_ix ((((m.1 20 1) + (30 : Int32)) - (1 : Int32)) - (((m.1 20 1) + (30 : Int32)) - (1 : Int32)) / (30 : Int32) * (30 : Int32)) 30 then (if sm_ix (m.1 21 ((((m.1 20 1) + (30 : Int32)) - (1 : Int32)) - (((m.1 20 1) + (30 : Int32)) - (1 : Int32)) / (30 : Int32) * (30 : Int32)).toNatClampNeg) 14 then (some ((1 : Int32), (sm_w1 (sm_w1 (sm_w1 (sm_w1 (sm_w1 m 20 1 ((((m.1 20 1) + (30 : Int32)) - (1 : Int32)) - (((m.1 20 1) + (30 : Int32)) - (1 : Int32)) / (30 : Int32) * (30 : Int32))) 20 0 ((m.1 20 0) - (1 : Int32))) 16 0 (m.1 22 ((((m.1 20 1) + (30 : Int32)) - (1 : Int32)) - (((m.1 20 1) + (30 : Int32)) - (1 : Int32)) / (30 : Int32) * (30 : Int32)).toNatClampNeg)) 16 1 (m.1 23 ((((m.1 20 1) + (30 : Int32)) - (1 : Int32)) - (((m.1 20 1) + (30 : Int32)) - (1 : Int32)) / (30 : Int32) * (30 : Int32)).toNatClampNeg)) 17 (m.1 21 ((((m.1 20 1) + (30 : Int32)) - (1 : Int32)) - (((m.1 20 1) + (30 : Int32)) - (1 : Int32)) / (30 : Int32) * (30 : Int32)).toNatClampNeg).toNatClampNeg (m.1 24 ((((m.1 20 1) + (30 : Int32)) - (1 : Int32)) - (((m.1 20 1) + (30 : Int32)) - (1 : Int32)) / (30 : Int32) * (30 : Int32)).toNatClampNeg)))) else none) else none) else none) else none) else none)
def fX11_undo (m : sm_S) : Option (Int32 × sm_S) :=
  (fX7_takeBack m).bind fun r2 => if r2.1 = 0 then (some ((-1 : Int32), r2.2)) else (some ((r2.2.1 20 0), r2.2))
def fX6_beginAt_12 : Nat → Int32 → sm_S → Option (sm_S)
  | 0, _, _ => none
  | n + 1, v2, m =>
  if (14 : Int32) ≤ v2 then (some m) else (if sm_ix v2 14 then (fX6_beginAt_12 n (v2 + (1 : Int32)) (sm_w1 m 17 (v2).toNatClampNeg (-1 : Int32))) else none)
def fX6_beginAt (x1 : Int32) (m : sm_S) : Option (sm_S) :=
  fX6_beginAt_12 sm_fu (0 : Int32) (sm_w1 (sm_w1 m 16 0 x1) 16 1 (0 : Int32))
def fX11_go (x1 : Int32) (m : sm_S) : Option (Int32 × sm_S) :=
  (fX2_hasCorner x1 m).bind fun r2 => if r2 = 0 then (some ((0 : Int32), m)) else ((fX6_beginAt x1 m).bind fun m4 => some ((1 : Int32), (sm_w1 m4 20 0 (0 : Int32))))
def fX11_can_4 : Nat → Int32 → Int32 → sm_S → Option (Int32)
  | 0, _, _, _ => none
  | n + 1, v1, v2, m =>
  if (m.1 3 1) ≤ v2 then (some v1) else ((fX6_whyNot v2 m).bind fun r2 => if r2 = 0 then (fX11_can_4 n (v1 ||| ((1 : Int32) <<< (v2 &&& 31))) (v2 + (1 : Int32)) m) else (fX11_can_4 n v1 (v2 + (1 : Int32)) m))
def fX11_can (m : sm_S) : Option (Int32) :=
  fX11_can_4 sm_fu (0 : Int32) (0 : Int32) m
def fX9_firstBad_29 : Nat → Int32 → Int32 → Int32 → sm_S → Option (Int32)
  | 0, _, _, _, _ => none
  | n + 1, v2, v3, v4, m =>
  if v2 ≤ v4 then (some (-1 : Int32)) else (if sm_ix v4 80 then (if (30 : Int32) ≤ v4 then (some v4) else ((fX2_hasHedge ((m.1 2 (v4).toNatClampNeg) - (65 : Int32)) m).bind fun r5 => if r5 = 0 then (some v4) else ((fX2_touches ((m.1 2 (v4).toNatClampNeg) - (65 : Int32)) v3 m).bind fun r7 => if r7 = 0 then (some v4) else ((fX2_otherEnd ((m.1 2 (v4).toNatClampNeg) - (65 : Int32)) v3 m).bind fun r9 => fX9_firstBad_29 n v2 r9 (v4 + (1 : Int32)) m)))) else none)
def fX9_firstBad (x1 : Int32) (m : sm_S) : Option (Int32) :=
  if x1 = 0 then (some (0 : Int32)) else ((fX2_hasCorner ((m.1 2 0) - (97 : Int32)) m).bind fun r2 => if r2 = 0 then (some (0 : Int32)) else (fX9_firstBad_29 sm_fu x1 ((m.1 2 0) - (97 : Int32)) (1 : Int32) m))
def fX9_lay_24 : Nat → Int32 → sm_S → Option (sm_S)
  | 0, _, _ => none
  | n + 1, v3, m =>
  if (m.1 58 2) ≤ v3 then (some m) else (if sm_ix (v3 + (1 : Int32)) 80 then (if sm_ix v3 30 then (fX9_lay_24 n (v3 + (1 : Int32)) (sm_w1 m 59 (v3).toNatClampNeg ((m.1 2 (v3 + (1 : Int32)).toNatClampNeg) - (65 : Int32)))) else none) else none)
def fX9_lay (x1 : Int32) (m : sm_S) : Option (sm_S) :=
  fX9_lay_24 sm_fu (0 : Int32) (sm_w1 (sm_w1 (sm_w1 m 58 0 (1 : Int32)) 58 1 ((m.1 2 0) - (97 : Int32))) 58 2 (x1 - (1 : Int32)))
def fX9_schedule_19 : Nat → Int32 → sm_S → Option (Int32 × sm_S)
  | 0, _, _ => none
  | n + 1, v2, m =>
  if (m.1 58 2) ≤ v2 then (if sm_ix (m.1 58 2) 30 then (some ((m.1 61 (m.1 58 2).toNatClampNeg), m)) else none) else (if sm_ix v2 30 then (if sm_ix v2 30 then (if sm_ix v2 30 then ((fX2_minutesFrom (m.1 59 (v2).toNatClampNeg) (m.1 60 (v2).toNatClampNeg) m).bind fun r6 => if sm_ix (v2 + (1 : Int32)) 30 then (if sm_ix v2 30 then ((fX2_otherEnd (m.1 59 (v2).toNatClampNeg) (m.1 60 (v2).toNatClampNeg) (sm_w1 m 61 (v2 + (1 : Int32)).toNatClampNeg ((m.1 61 (v2).toNatClampNeg) + r6))).bind fun r10 => if sm_ix (v2 + (1 : Int32)) 30 then (fX9_schedule_19 n (v2 + (1 : Int32)) (sm_w1 (sm_w1 m 61 (v2 + (1 : Int32)).toNatClampNeg ((m.1 61 (v2).toNatClampNeg) + r6)) 60 (v2 + (1 : Int32)).toNatClampNeg r10)) else none) else none) else none) else none) else none) else none)
def fX9_schedule (m : sm_S) : Option (Int32 × sm_S) :=
  fX9_schedule_19 sm_fu (0 : Int32) (sm_w1 (sm_w1 m 60 0 (m.1 58 1)) 61 0 (0 : Int32))
def fX5_clear (m : sm_S) : Option (sm_S) :=
  some (sm_w1 m 14 1 (0 : Int32))
def fX5_add (x1 : Int32) (m : sm_S) : Option (sm_S) :=
  if (14 : Int32) ≤ (m.1 14 1) then (some m) else (if sm_ix (m.1 14 1) 14 then (some (sm_w1 (sm_w1 m 15 (m.1 14 1).toNatClampNeg x1) 14 1 ((m.1 14 1) + (1 : Int32)))) else none)
def fX5_tell (x1 : Int32) (m : sm_S) : Option (sm_S) :=
  (fX5_clear m).bind fun m2 => (fX5_add x1 m2).bind fun m4 => some m4
def fX9_bits_4 : Nat → Int32 → Int32 → sm_S → Option (Int32)
  | 0, _, _, _ => none
  | n + 1, v1, v2, m =>
  if (m.1 58 2) ≤ v2 then (some v1) else (if sm_ix v2 30 then (fX9_bits_4 n (v1 ||| ((1 : Int32) <<< ((m.1 59 (v2).toNatClampNeg) &&& 31))) (v2 + (1 : Int32)) m) else none)
def fX9_bits (m : sm_S) : Option (Int32) :=
  fX9_bits_4 sm_fu (0 : Int32) (0 : Int32) m
def fX9_lay_i1_24 : Nat → Int32 → sm_S → Option (sm_S)
  | 0, _, _ => none
  | n + 1, v3, m =>
  if (m.1 62 2) ≤ v3 then (some m) else (if sm_ix (v3 + (1 : Int32)) 80 then (if sm_ix v3 30 then (fX9_lay_i1_24 n (v3 + (1 : Int32)) (sm_w1 m 63 (v3).toNatClampNeg ((m.1 2 (v3 + (1 : Int32)).toNatClampNeg) - (65 : Int32)))) else none) else none)
def fX9_lay_i1 (x1 : Int32) (m : sm_S) : Option (sm_S) :=
  fX9_lay_i1_24 sm_fu (0 : Int32) (sm_w1 (sm_w1 (sm_w1 m 62 0 (1 : Int32)) 62 1 ((m.1 2 0) - (97 : Int32))) 62 2 (x1 - (1 : Int32)))
def fX9_schedule_i1_19 : Nat → Int32 → sm_S → Option (Int32 × sm_S)
  | 0, _, _ => none
  | n + 1, v2, m =>
  if (m.1 62 2) ≤ v2 then (if sm_ix (m.1 62 2) 30 then (some ((m.1 65 (m.1 62 2).toNatClampNeg), m)) else none) else (if sm_ix v2 30 then (if sm_ix v2 30 then (if sm_ix v2 30 then ((fX2_minutesFrom (m.1 63 (v2).toNatClampNeg) (m.1 64 (v2).toNatClampNeg) m).bind fun r6 => if sm_ix (v2 + (1 : Int32)) 30 then (if sm_ix v2 30 then ((fX2_otherEnd (m.1 63 (v2).toNatClampNeg) (m.1 64 (v2).toNatClampNeg) (sm_w1 m 65 (v2 + (1 : Int32)).toNatClampNeg ((m.1 65 (v2).toNatClampNeg) + r6))).bind fun r10 => if sm_ix (v2 + (1 : Int32)) 30 then (fX9_schedule_i1_19 n (v2 + (1 : Int32)) (sm_w1 (sm_w1 m 65 (v2 + (1 : Int32)).toNatClampNeg ((m.1 65 (v2).toNatClampNeg) + r6)) 64 (v2 + (1 : Int32)).toNatClampNeg r10)) else none) else none) else none) else none) else none) else none)
def fX9_schedule_i1 (m : sm_S) : Option (Int32 × sm_S) :=
  fX9_schedule_i1_19 sm_fu (0 : Int32) (sm_w1 (sm_w1 m 64 0 (m.1 62 1)) 65 0 (0 : Int32))
def fX9_bits_i1_4 : Nat → Int32 → Int32 → sm_S → Option (Int32)
  | 0, _, _, _ => none
  | n + 1, v1, v2, m =>
  if (m.1 62 2) ≤ v2 then (some v1) else (if sm_ix v2 30 then (fX9_bits_i1_4 n (v1 ||| ((1 : Int32) <<< ((m.1 63 (v2).toNatClampNeg) &&& 31))) (v2 + (1 : Int32)) m) else none)
def fX9_bits_i1 (m : sm_S) : Option (Int32) :=
  fX9_bits_i1_4 sm_fu (0 : Int32) (0 : Int32) m
def fX11_tour (x1 : Int32) (m : sm_S) : Option (Int32 × sm_S) :=
  if x1 < 0 then (some ((-100 : Int32), (sm_w1 m 1 1 (0 : Int32)))) else (if x1 < (2 : Int32) then ((fX9_firstBad (m.1 1 1) (sm_w1 m 1 1 (0 : Int32))).bind fun r2 => if r2 < 0 then (if x1 = (0 : Int32) then ((fX9_lay (m.1 1 1) (sm_w1 m 1 1 (0 : Int32))).bind fun m4 => (fX9_schedule m4).bind fun r6 => if sm_ix (r6.2.1 58 2) 30 then ((fX5_tell (r6.2.1 60 (r6.2.1 58 2).toNatClampNeg) r6.2).bind fun m9 => (fX9_bits m9).bind fun r11 => (fX5_add r11 m9).bind fun m13 => some (r6.1, m13)) else none) else (if x1 = (1 : Int32) then ((fX9_lay_i1 (m.1 1 1) (sm_w1 m 1 1 (0 : Int32))).bind fun m16 => (fX9_schedule_i1 m16).bind fun r18 => if sm_ix (r18.2.1 62 2) 30 then ((fX5_tell (r18.2.1 64 (r18.2.1 62 2).toNatClampNeg) r18.2).bind fun m21 => (fX9_bits_i1 m21).bind fun r23 => (fX5_add r23 m21).bind fun m25 => some (r18.1, m25)) else none) else none)) else (some (((-1 : Int32) - r2), (sm_w1 m 1 1 (0 : Int32))))) else (some ((-100 : Int32), (sm_w1 m 1 1 (0 : Int32)))))
def fX6_copyFrom_18 : Nat → Int32 → sm_S → Option (sm_S)
  | 0, _, _ => none
  | n + 1, v2, m =>
  if (14 : Int32) ≤ v2 then (some m) else (if sm_ix v2 14 then (if sm_ix v2 14 then (fX6_copyFrom_18 n (v2 + (1 : Int32)) (sm_w1 m 19 (v2).toNatClampNeg (m.1 17 (v2).toNatClampNeg))) else none) else none)
def fX6_copyFrom (m : sm_S) : Option (sm_S) :=
  fX6_copyFrom_18 sm_fu (0 : Int32) (sm_w1 (sm_w1 m 18 0 (m.1 16 0)) 18 1 (m.1 16 1))
def fX6_day_i1 (m : sm_S) : Option (Int32) :=
  some ((m.1 18 1) / (60 : Int32))
def fX6_isFresh_i1 (x1 : Int32) (m : sm_S) : Option (Int32) :=
  if sm_ix x1 14 then (if (m.1 19 (x1).toNatClampNeg) = (-1 : Int32) then (some (1 : Int32)) else ((fX6_day_i1 m).bind fun r3 => if sm_ix x1 14 then (if (r3 - (m.1 19 (x1).toNatClampNeg)) < (m.1 3 2) then (some (0 : Int32)) else (some (1 : Int32))) else none)) else none
def fX6_isLight_i1 (m : sm_S) : Option (Int32) :=
  if (40 : Int32) ≤ ((m.1 18 1) - (m.1 18 1) / (60 : Int32) * (60 : Int32)) then (some (0 : Int32)) else (some (1 : Int32))
def fX6_whyNot_i1 (x1 : Int32) (m : sm_S) : Option (Int32) :=
  (fX2_touches x1 (m.1 18 0) m).bind fun r2 => if r2 = 0 then (some (-2 : Int32)) else ((fX6_isFresh_i1 x1 m).bind fun r4 => if r4 = 0 then (some (-3 : Int32)) else (if sm_ix x1 14 then (if (m.1 13 (x1).toNatClampNeg) = 0 then ((fX2_minutesFrom x1 (m.1 18 0) m).bind fun r7 => if ((m.1 18 1) + r7) ≤ (m.1 3 3) then (some (0 : Int32)) else (some (-5 : Int32))) else ((fX6_isLight_i1 m).bind fun r9 => if r9 = 0 then (some (-4 : Int32)) else ((fX2_minutesFrom x1 (m.1 18 0) m).bind fun r11 => if ((m.1 18 1) + r11) ≤ (m.1 3 3) then (some (0 : Int32)) else (some (-5 : Int32))))) else none))
def fX6_step_i1 (x1 : Int32) (m : sm_S) : Option (Int32 × sm_S) :=
  (fX2_minutesFrom x1 (m.1 18 0) m).bind fun r2 => (fX6_day_i1 m).bind fun r4 => if sm_ix x1 14 then ((fX2_otherEnd x1 (m.1 18 0) (sm_w1 (sm_w1 m 19 (x1).toNatClampNeg r4) 18 1 ((m.1 18 1) + r2))).bind fun r7 => some (r2, (sm_w1 (sm_w1 (sm_w1 m 19 (x1).toNatClampNeg r4) 18 1 ((m.1 18 1) + r2)) 18 0 r7))) else none
def fX11_look_61 : Nat → Int32 → Int32 → Int32 → Int32 → sm_S → Option (Int32 × sm_S)
  | 0, _, _, _, _, _ => none
  | n + 1, v3, v4, v5, v6, m =>
  if (m.1 58 2) ≤ v6 then ((fX5_tell v5 m).bind fun m4 => (fX5_add ((m4.1 18 1) - (m4.1 16 1)) m4).bind fun m6 => (fX5_add v3 m6).bind fun m8 => if v5 = 0 then (some ((-2 : Int32), m8)) else (some (v4, m8))) else (if v5 = 0 then (if sm_ix v6 30 then ((fX6_whyNot_i1 (m.1 59 (v6).toNatClampNeg) m).bind fun r17 => if r17 = 0 then ((fX6_step_i1 (m.1 59 (v6).toNatClampNeg) m).bind fun r19 => if sm_ix (m.1 59 (v6).toNatClampNeg) 14 then (fX11_look_61 n (v3 + (r19.2.1 11 (m.1 59 (v6).toNatClampNeg).toNatClampNeg)) (v4 + (1 : Int32)) r17 (v6 + (1 : Int32)) r19.2) else none) else (fX11_look_61 n v3 v4 r17 (v6 + (1 : Int32)) m)) else none) else ((fX5_tell v5 m).bind fun m10 => (fX5_add ((m10.1 18 1) - (m10.1 16 1)) m10).bind fun m12 => (fX5_add v3 m12).bind fun m14 => if v5 = 0 then (some ((-2 : Int32), m14)) else (some (v4, m14))))
def fX11_look_61_1 : Nat → Int32 → Int32 → Int32 → Int32 → sm_S → Option (Int32 × sm_S)
  | 0, _, _, _, _, _ => none
  | n + 1, v3, v4, v5, v6, m =>
  if (m.1 62 2) ≤ v6 then ((fX5_tell v5 m).bind fun m25 => (fX5_add ((m25.1 18 1) - (m25.1 16 1)) m25).bind fun m27 => (fX5_add v3 m27).bind fun m29 => if v5 = 0 then (some ((-2 : Int32), m29)) else (some (v4, m29))) else (if v5 = 0 then (if sm_ix v6 30 then ((fX6_whyNot_i1 (m.1 63 (v6).toNatClampNeg) m).bind fun r38 => if r38 = 0 then ((fX6_step_i1 (m.1 63 (v6).toNatClampNeg) m).bind fun r40 => if sm_ix (m.1 63 (v6).toNatClampNeg) 14 then (fX11_look_61_1 n (v3 + (r40.2.1 11 (m.1 63 (v6).toNatClampNeg).toNatClampNeg)) (v4 + (1 : Int32)) r38 (v6 + (1 : Int32)) r40.2) else none) else (fX11_look_61_1 n v3 v4 r38 (v6 + (1 : Int32)) m)) else none) else ((fX5_tell v5 m).bind fun m31 => (fX5_add ((m31.1 18 1) - (m31.1 16 1)) m31).bind fun m33 => (fX5_add v3 m33).bind fun m35 => if v5 = 0 then (some ((-2 : Int32), m35)) else (some (v4, m35))))
def fX11_look (x1 : Int32) (m : sm_S) : Option (Int32 × sm_S) :=
  if x1 < 0 then (some ((-1 : Int32), m)) else (if x1 < (2 : Int32) then (if x1 = (0 : Int32) then (if (m.1 58 0) = 0 then (some ((-3 : Int32), m)) else ((fX6_copyFrom m).bind fun m2 => fX11_look_61 sm_fu (0 : Int32) (0 : Int32) (0 : Int32) (0 : Int32) (sm_w1 m2 18 0 (m2.1 58 1)))) else (if x1 = (1 : Int32) then (if (m.1 62 0) = 0 then (some ((-3 : Int32), m)) else ((fX6_copyFrom m).bind fun m23 => fX11_look_61_1 sm_fu (0 : Int32) (0 : Int32) (0 : Int32) (0 : Int32) (sm_w1 m23 18 0 (m23.1 62 1)))) else none)) else (some ((-1 : Int32), m)))
def fX11_scheduleBoth (m : sm_S) : Option (Int32 × sm_S) :=
  if (m.1 58 0) = 0 then (some ((0 : Int32), m)) else (if (m.1 62 0) = 0 then (some ((0 : Int32), m)) else ((fX9_schedule m).bind fun r2 => (fX9_schedule_i1 r2.2).bind fun r4 => some ((1 : Int32), r4.2)))
def fX9_minuteOfBoth (x1 : Int32) (x2 : Int32) (x3 : Int32) (m : sm_S) : Option (Int32) :=
  if x2 = 0 then (if x2 = (m.1 62 2) then (if x1 = (m.1 58 2) then (if sm_ix x1 30 then (if (if (65535 : Int32) < (65535 : Int32) then (65535 : Int32) else (65535 : Int32)) < (if (m.1 61 (x1).toNatClampNeg) < (0 : Int32) then (0 : Int32) else (m.1 61 (x1).toNatClampNeg)) then (some (65535 : Int32)) else (some (if (m.1 61 (x1).toNatClampNeg) < (0 : Int32) then (0 : Int32) else (m.1 61 (x1).toNatClampNeg)))) else none) else (if sm_ix x1 30 then (if sm_ix x1 30 then (if (if (65535 : Int32) < (m.1 61 (x1).toNatClampNeg) then (65535 : Int32) else (m.1 61 (x1).toNatClampNeg)) < (if (m.1 61 (x1).toNatClampNeg) < (0 : Int32) then (0 : Int32) else (m.1 61 (x1).toNatClampNeg)) then (some (65535 : Int32)) else (some (if (m.1 61 (x1).toNatClampNeg) < (0 : Int32) then (0 : Int32) else (m.1 61 (x1).toNatClampNeg)))) else none) else none)) else (if sm_ix x2 30 then (if x1 = (m.1 58 2) then (if sm_ix x1 30 then (if (if (x3 + (m.1 65 (x2).toNatClampNeg)) < (65535 : Int32) then (x3 + (m.1 65 (x2).toNatClampNeg)) else (65535 : Int32)) < (if (m.1 61 (x1).toNatClampNeg) < (0 : Int32) then (0 : Int32) else (m.1 61 (x1).toNatClampNeg)) then (some (65535 : Int32)) else (some (if (m.1 61 (x1).toNatClampNeg) < (0 : Int32) then (0 : Int32) else (m.1 61 (x1).toNatClampNeg)))) else none) else (if sm_ix x1 30 then (if sm_ix x1 30 then (if (if (x3 + (m.1 65 (x2).toNatClampNeg)) < (m.1 61 (x1).toNatClampNeg) then (x3 + (m.1 65 (x2).toNatClampNeg)) else (m.1 61 (x1).toNatClampNeg)) < (if (m.1 61 (x1).toNatClampNeg) < (0 : Int32) then (0 : Int32) else (m.1 61 (x1).toNatClampNeg)) then (some (65535 : Int32)) else (some (if (m.1 61 (x1).toNatClampNeg) < (0 : Int32) then (0 : Int32) else (m.1 61 (x1).toNatClampNeg)))) else none) else none)) else none)) else (if sm_ix x2 30 then (if x2 = (m.1 62 2) then (if x1 = (m.1 58 2) then (if sm_ix x1 30 then (if (if (65535 : Int32) < (65535 : Int32) then (65535 : Int32) else (65535 : Int32)) < (if (m.1 61 (x1).toNatClampNeg) < (x3 + (m.1 65 (x2).toNatClampNeg)) then (x3 + (m.1 65 (x2).toNatClampNeg)) else (m.1 61 (x1).toNatClampNeg)) then (some (65535 : Int32)) else (some (if (m.1 61 (x1).toNatClampNeg) < (x3 + (m.1 65 (x2).toNatClampNeg)) then (x3 + (m.1 65 (x2).toNatClampNeg)) else (m.1 61 (x1).toNatClampNeg)))) else none) else (if sm_ix x1 30 then (if sm_ix x1 30 then (if (if (65535 : Int32) < (m.1 61 (x1).toNatClampNeg) then (65535 : Int32) else (m.1 61 (x1).toNatClampNeg)) < (if (m.1 61 (x1).toNatClampNeg) < (x3 + (m.1 65 (x2).toNatClampNeg)) then (x3 + (m.1 65 (x2).toNatClampNeg)) else (m.1 61 (x1).toNatClampNeg)) then (some (65535 : Int32)) else (some (if (m.1 61 (x1).toNatClampNeg) < (x3 + (m.1 65 (x2).toNatClampNeg)) then (x3 + (m.1 65 (x2).toNatClampNeg)) else (m.1 61 (x1).toNatClampNeg)))) else none) else none)) else (if sm_ix x2 30 then (if x1 = (m.1 58 2) then (if sm_ix x1 30 then (if (if (x3 + (m.1 65 (x2).toNatClampNeg)) < (65535 : Int32) then (x3 + (m.1 65 (x2).toNatClampNeg)) else (65535 : Int32)) < (if (m.1 61 (x1).toNatClampNeg) < (x3 + (m.1 65 (x2).toNatClampNeg)) then (x3 + (m.1 65 (x2).toNatClampNeg)) else (m.1 61 (x1).toNatClampNeg)) then (some (65535 : Int32)) else (some (if (m.1 61 (x1).toNatClampNeg) < (x3 + (m.1 65 (x2).toNatClampNeg)) then (x3 + (m.1 65 (x2).toNatClampNeg)) else (m.1 61 (x1).toNatClampNeg)))) else none) else (if sm_ix x1 30 then (if sm_ix x1 30 then (if (if (x3 + (m.1 65 (x2).toNatClampNeg)) < (m.1 61 (x1).toNatClampNeg) then (x3 + (m.1 65 (x2).toNatClampNeg)) else (m.1 61 (x1).toNatClampNeg)) < (if (m.1 61 (x1).toNatClampNeg) < (x3 + (m.1 65 (x2).toNatClampNeg)) then (x3 + (m.1 65 (x2).toNatClampNeg)) else (m.1 61 (x1).toNatClampNeg)) then (some (65535 : Int32)) else (some (if (m.1 61 (x1).toNatClampNeg) < (x3 + (m.1 65 (x2).toNatClampNeg)) then (x3 + (m.1 65 (x2).toNatClampNeg)) else (m.1 61 (x1).toNatClampNeg)))) else none) else none)) else none)) else none)
def fX9_firstMeeting_21 (k9 : Int32 → Int32 → Int32 → Int32 → sm_S → Option (Int32)) : Nat → Int32 → Int32 → Int32 → Int32 → Int32 → sm_S → Option (Int32)
  | 0, _, _, _, _, _, _ => none
  | n + 1, v2, v3, v4, v5, v6, m =>
  if (m.1 62 2) < v6 then (k9 v2 v3 v4 (v5 + (1 : Int32)) m) else (if sm_ix v5 30 then (if sm_ix v6 30 then (if (m.1 60 (v5).toNatClampNeg) = (m.1 64 (v6).toNatClampNeg) then ((fX9_minuteOfBoth v5 v6 v2 m).bind fun r5 => if v3 ≤ r5 then (fX9_firstMeeting_21 k9 n v2 v3 v4 v5 (v6 + (1 : Int32)) m) else (if sm_ix v5 30 then (fX9_firstMeeting_21 k9 n v2 r5 (m.1 60 (v5).toNatClampNeg) v5 (v6 + (1 : Int32)) m) else none)) else (if v3 ≤ (65535 : Int32) then (fX9_firstMeeting_21 k9 n v2 v3 v4 v5 (v6 + (1 : Int32)) m) else (if sm_ix v5 30 then (fX9_firstMeeting_21 k9 n v2 (65535 : Int32) (m.1 60 (v5).toNatClampNeg) v5 (v6 + (1 : Int32)) m) else none))) else none) else none)
def fX9_firstMeeting_9 : Nat → Int32 → Int32 → Int32 → Int32 → sm_S → Option (Int32)
  | 0, _, _, _, _, _ => none
  | n + 1, v2, v3, v4, v5, m =>
  if (m.1 58 2) < v5 then (if (65535 : Int32) ≤ v3 then (some (-1 : Int32)) else (some ((v3 <<< ((4 : Int32) &&& 31)) ||| v4))) else (fX9_firstMeeting_21 (fX9_firstMeeting_9 n) sm_fu v2 v3 v4 v5 (0 : Int32) m)
def fX9_firstMeeting (x1 : Int32) (m : sm_S) : Option (Int32) :=
  fX9_firstMeeting_9 sm_fu x1 (65535 : Int32) (0 : Int32) (0 : Int32) m
def fX11_meets (x1 : Int32) (m : sm_S) : Option (Int32 × sm_S) :=
  if x1 < 0 then (some ((-1 : Int32), m)) else (if x1 ≤ (99 : Int32) then ((fX11_scheduleBoth m).bind fun r2 => if r2.1 = 0 then (some ((-3 : Int32), r2.2)) else ((fX9_firstMeeting x1 r2.2).bind fun r4 => if 0 ≤ r4 then ((fX5_tell (r4 &&& (15 : Int32)) r2.2).bind fun m6 => some ((r4 >>> ((4 : Int32) &&& 31)), m6)) else (some ((-2 : Int32), r2.2)))) else (some ((-1 : Int32), m)))
def fX11_apart_12 : Nat → Int32 → sm_S → Option (Int32 × sm_S)
  | 0, _, _ => none
  | n + 1, v1, m =>
  if (99 : Int32) < v1 then (some ((-2 : Int32), m)) else ((fX9_firstMeeting v1 m).bind fun r4 => if 0 ≤ r4 then (fX11_apart_12 n (v1 + (1 : Int32)) m) else (some (v1, m)))
def fX11_apart (m : sm_S) : Option (Int32 × sm_S) :=
  (fX11_scheduleBoth m).bind fun r2 => if r2.1 = 0 then (some ((-3 : Int32), r2.2)) else (fX11_apart_12 sm_fu (0 : Int32) r2.2)
def fX11_walkersCorner (m : sm_S) : Option (Int32) :=
  if (m.1 3 0) = 0 then (some (-1 : Int32)) else (some (m.1 16 0))
def fX6_toNextDay (m : sm_S) : Option (Int32 × sm_S) :=
  (fX6_day m).bind fun r2 => if ((r2 + (1 : Int32)) * (60 : Int32)) ≤ (m.1 3 3) then (some ((1 : Int32), (sm_w1 m 16 1 ((r2 + (1 : Int32)) * (60 : Int32))))) else (some ((0 : Int32), (sm_w1 m 16 1 (if (m.1 16 1) < (m.1 3 3) then (m.1 3 3) else (m.1 16 1)))))
def fX6_dearest_4 : Nat → Int32 → Int32 → sm_S → Option (Int32)
  | 0, _, _, _ => none
  | n + 1, v2, v3, m =>
  if (m.1 3 1) ≤ v3 then (some v2) else (if v2 = (-1 : Int32) then ((fX6_whyNot v3 m).bind fun r2 => if r2 = 0 then (fX6_dearest_4 n v3 (v3 + (1 : Int32)) m) else (fX6_dearest_4 n v2 (v3 + (1 : Int32)) m)) else (if sm_ix v3 14 then (if sm_ix v2 14 then (if (m.1 11 (v3).toNatClampNeg) ≤ (m.1 11 (v2).toNatClampNeg) then (fX6_dearest_4 n v2 (v3 + (1 : Int32)) m) else ((fX6_whyNot v3 m).bind fun r6 => if r6 = 0 then (fX6_dearest_4 n v3 (v3 + (1 : Int32)) m) else (fX6_dearest_4 n v2 (v3 + (1 : Int32)) m))) else none) else none))
def fX6_dearest (m : sm_S) : Option (Int32) :=
  fX6_dearest_4 sm_fu (-1 : Int32) (0 : Int32) m
def fX11_season_61 : Nat → Int32 → Int32 → Int32 → Int32 → Int32 → Int32 → sm_S → Option (Int32 × sm_S)
  | 0, _, _, _, _, _, _, _ => none
  | n + 1, v1, v2, v3, v4, v5, v6, m =>
  if (10059 : Int32) < v6 then ((fX5_tell v3 m).bind fun m4 => (fX11_walkersCorner m4).bind fun r6 => (fX5_add r6 m4).bind fun m8 => some (v2, m8)) else (if v5 = 0 then ((fX5_tell v3 m).bind fun m10 => (fX11_walkersCorner m10).bind fun r12 => (fX5_add r12 m10).bind fun m14 => some (v2, m14)) else (if v1 ≤ v4 then ((fX5_tell v3 m).bind fun m16 => (fX11_walkersCorner m16).bind fun r18 => (fX5_add r18 m16).bind fun m20 => some (v2, m20)) else ((fX6_isLight m).bind fun r22 => if r22 = 0 then ((fX6_toNextDay m).bind fun r24 => fX11_season_61 n v1 v2 v3 (v4 + (1 : Int32)) r24.1 (v6 + (1 : Int32)) r24.2) else ((fX6_dearest m).bind fun r26 => if r26 = (-1 : Int32) then ((fX6_toNextDay m).bind fun r31 => fX11_season_61 n v1 v2 v3 (v4 + (1 : Int32)) r31.1 (v6 + (1 : Int32)) r31.2) else ((fX6_step r26 m).bind fun r28 => if sm_ix r26 14 then (fX11_season_61 n v1 (v2 + (1 : Int32)) (v3 + (r28.2.1 11 (r26).toNatClampNeg)) v4 v5 (v6 + (1 : Int32)) r28.2) else none)))))
def fX11_season (x1 : Int32) (m : sm_S) : Option (Int32 × sm_S) :=
  if x1 < 0 then (some ((-1 : Int32), m)) else (if x1 ≤ (60 : Int32) then ((fX6_isLight (sm_w1 m 20 0 (0 : Int32))).bind fun r2 => if r2 = 0 then ((fX6_toNextDay (sm_w1 m 20 0 (0 : Int32))).bind fun r33 => if r33.1 = 0 then (fX11_season_61 sm_fu x1 (0 : Int32) (0 : Int32) (0 : Int32) (0 : Int32) (0 : Int32) r33.2) else (fX11_season_61 sm_fu x1 (0 : Int32) (0 : Int32) (0 : Int32) (1 : Int32) (0 : Int32) r33.2)) else (fX11_season_61 sm_fu x1 (0 : Int32) (0 : Int32) (0 : Int32) (1 : Int32) (0 : Int32) (sm_w1 m 20 0 (0 : Int32)))) else (some ((-1 : Int32), m)))
def fX2_everyHedge (m : sm_S) : Option (Int32) :=
  some (((1 : Int32) <<< ((m.1 3 1) &&& 31)) - (1 : Int32))
def fX2_endsOf (x1 : Int32) (m : sm_S) : Option (Int32) :=
  if sm_ix x1 14 then (if sm_ix x1 14 then (some (((1 : Int32) <<< ((m.1 6 (x1).toNatClampNeg) &&& 31)) ||| ((1 : Int32) <<< ((m.1 7 (x1).toNatClampNeg) &&& 31)))) else none) else none
def fX2_oddCorners_4 : Nat → Int32 → Int32 → Int32 → sm_S → Option (Int32)
  | 0, _, _, _, _ => none
  | n + 1, v1, v2, v3, m =>
  if (m.1 3 1) ≤ v3 then (some v2) else (if ((v1 >>> (v3 &&& 31)) &&& (1 : Int32)) = 0 then (fX2_oddCorners_4 n v1 v2 (v3 + (1 : Int32)) m) else ((fX2_endsOf v3 m).bind fun r2 => fX2_oddCorners_4 n v1 (v2 ^^^ r2) (v3 + (1 : Int32)) m))
def fX2_oddCorners (x1 : Int32) (m : sm_S) : Option (Int32) :=
  fX2_oddCorners_4 sm_fu x1 (0 : Int32) (0 : Int32) m
def fJ6_bitCount_0f7a4 (x1 : Int32) (m : sm_S) : Option (Int32) :=
  some ((((((((x1 - (((x1.toUInt32 >>> ((1 : Int32).toUInt32 &&& Int32.toUInt32 31)).toInt32) &&& (1431655765 : Int32))) &&& (858993459 : Int32)) + ((((x1 - (((x1.toUInt32 >>> ((1 : Int32).toUInt32 &&& Int32.toUInt32 31)).toInt32) &&& (1431655765 : Int32))).toUInt32 >>> ((2 : Int32).toUInt32 &&& Int32.toUInt32 31)).toInt32) &&& (858993459 : Int32))) + (((((x1 - (((x1.toUInt32 >>> ((1 : Int32).toUInt32 &&& Int32.toUInt32 31)).toInt32) &&& (1431655765 : Int32))) &&& (858993459 : Int32)) + ((((x1 - (((x1.toUInt32 >>> ((1 : Int32).toUInt32 &&& Int32.toUInt32 31)).toInt32) &&& (1431655765 : Int32))).toUInt32 >>> ((2 : Int32).toUInt32 &&& Int32.toUInt32 31)).toInt32) &&& (858993459 : Int32))).toUInt32 >>> ((4 : Int32).toUInt32 &&& Int32.toUInt32 31)).toInt32)) &&& (252645135 : Int32)) + (((((((x1 - (((x1.toUInt32 >>> ((1 : Int32).toUInt32 &&& Int32.toUInt32 31)).toInt32) &&& (1431655765 : Int32))) &&& (858993459 : Int32)) + ((((x1 - (((x1.toUInt32 >>> ((1 : Int32).toUInt32 &&& Int32.toUInt32 31)).toInt32) &&& (1431655765 : Int32))).toUInt32 >>> ((2 : Int32).toUInt32 &&& Int32.toUInt32 31)).toInt32) &&& (858993459 : Int32))) + (((((x1 - (((x1.toUInt32 >>> ((1 : Int32).toUInt32 &&& Int32.toUInt32 31)).toInt32) &&& (1431655765 : Int32))) &&& (858993459 : Int32)) + ((((x1 - (((x1.toUInt32 >>> ((1 : Int32).toUInt32 &&& Int32.toUInt32 31)).toInt32) &&& (1431655765 : Int32))).toUInt32 >>> ((2 : Int32).toUInt32 &&& Int32.toUInt32 31)).toInt32) &&& (858993459 : Int32))).toUInt32 >>> ((4 : Int32).toUInt32 &&& Int32.toUInt32 31)).toInt32)) &&& (252645135 : Int32)).toUInt32 >>> ((8 : Int32).toUInt32 &&& Int32.toUInt32 31)).toInt32)) + ((((((((x1 - (((x1.toUInt32 >>> ((1 : Int32).toUInt32 &&& Int32.toUInt32 31)).toInt32) &&& (1431655765 : Int32))) &&& (858993459 : Int32)) + ((((x1 - (((x1.toUInt32 >>> ((1 : Int32).toUInt32 &&& Int32.toUInt32 31)).toInt32) &&& (1431655765 : Int32))).toUInt32 >>> ((2 : Int32).toUInt32 &&& Int32.toUInt32 31)).toInt32) &&& (858993459 : Int32))) + (((((x1 - (((x1.toUInt32 >>> ((1 : Int32).toUInt32 &&& Int32.toUInt32 31)).toInt32) &&& (1431655765 : Int32))) &&& (858993459 : Int32)) + ((((x1 - (((x1.toUInt32 >>> ((1 : Int32).toUInt32 &&& Int32.toUInt32 31)).toInt32) &&& (1431655765 : Int32))).toUInt32 >>> ((2 : Int32).toUInt32 &&& Int32.toUInt32 31)).toInt32) &&& (858993459 : Int32))).toUInt32 >>> ((4 : Int32).toUInt32 &&& Int32.toUInt32 31)).toInt32)) &&& (252645135 : Int32)) + (((((((x1 - (((x1.toUInt32 >>> ((1 : Int32).toUInt32 &&& Int32.toUInt32 31)).toInt32) &&& (1431655765 : Int32))) &&& (858993459 : Int32)) + ((((x1 - (((x1.toUInt32 >>> ((1 : Int32).toUInt32 &&& Int32.toUInt32 31)).toInt32) &&& (1431655765 : Int32))).toUInt32 >>> ((2 : Int32).toUInt32 &&& Int32.toUInt32 31)).toInt32) &&& (858993459 : Int32))) + (((((x1 - (((x1.toUInt32 >>> ((1 : Int32).toUInt32 &&& Int32.toUInt32 31)).toInt32) &&& (1431655765 : Int32))) &&& (858993459 : Int32)) + ((((x1 - (((x1.toUInt32 >>> ((1 : Int32).toUInt32 &&& Int32.toUInt32 31)).toInt32) &&& (1431655765 : Int32))).toUInt32 >>> ((2 : Int32).toUInt32 &&& Int32.toUInt32 31)).toInt32) &&& (858993459 : Int32))).toUInt32 >>> ((4 : Int32).toUInt32 &&& Int32.toUInt32 31)).toInt32)) &&& (252645135 : Int32)).toUInt32 >>> ((8 : Int32).toUInt32 &&& Int32.toUInt32 31)).toInt32)).toUInt32 >>> ((16 : Int32).toUInt32 &&& Int32.toUInt32 31)).toInt32)) &&& (63 : Int32))
def fX11_odd (m : sm_S) : Option (Int32 × sm_S) :=
  (fX2_everyHedge m).bind fun r2 => (fX2_oddCorners r2 m).bind fun r4 => (fX5_tell r4 m).bind fun m6 => (fJ6_bitCount_0f7a4 r4 m6).bind fun r8 => some (r8, m6)
def fX2_hanging_29 (k10 : Int32 → Int32 → Int32 → Int32 → sm_S → Option (Int32)) : Nat → Int32 → Int32 → Int32 → Int32 → Int32 → sm_S → Option (Int32)
  | 0, _, _, _, _, _, _ => none
  | n + 1, v2, v3, v4, v5, v6, m =>
  if (m.1 3 1) ≤ v6 then (k10 v2 v3 v4 (v5 + (1 : Int32)) m) else (if ((v2 >>> (v6 &&& 31)) &&& (1 : Int32)) = 0 then (fX2_hanging_29 k10 n v2 v3 v4 v5 (v6 + (1 : Int32)) m) else ((fX2_endsOf v6 m).bind fun r2 => if (v3 &&& r2) = 0 then (fX2_hanging_29 k10 n v2 v3 v4 v5 (v6 + (1 : Int32)) m) else ((fX2_endsOf v6 m).bind fun r4 => fX2_hanging_29 k10 n v2 (v3 ||| r4) v4 v5 (v6 + (1 : Int32)) m)))
def fX2_hanging_10 : Nat → Int32 → Int32 → Int32 → Int32 → sm_S → Option (Int32)
  | 0, _, _, _, _, _ => none
  | n + 1, v2, v3, v4, v5, m =>
  if (10 : Int32) ≤ v5 then (some v3) else (if v3 = v4 then (some v3) else (fX2_hanging_29 (fX2_hanging_10 n) sm_fu v2 v3 v3 v5 (0 : Int32) m))
def fX2_hanging (x1 : Int32) (x2 : Int32) (m : sm_S) : Option (Int32) :=
  fX2_hanging_10 sm_fu x2 ((1 : Int32) <<< (x1 &&& 31)) (0 : Int32) (0 : Int32) m
def fX11_men_25 : Nat → Int32 → Int32 → Int32 → Int32 → Int32 → sm_S → Option (Int32 × sm_S)
  | 0, _, _, _, _, _, _ => none
  | n + 1, v1, v2, v3, v4, v5, m =>
  if (m.1 3 1) ≤ v5 then ((fX5_tell v3 m).bind fun m6 => some (v4, m6)) else (if sm_ix v5 14 then (if ((v2 >>> ((m.1 6 (v5).toNatClampNeg) &&& 31)) &&& (1 : Int32)) = 0 then (if sm_ix v5 14 then ((fX2_everyHedge m).bind fun r10 => (fX2_hanging (m.1 6 (v5).toNatClampNeg) r10 m).bind fun r12 => (fJ6_bitCount_0f7a4 (r12 &&& v1) m).bind fun r14 => fX11_men_25 n v1 (v2 ||| r12) (v3 + (1 : Int32)) (v4 + (if (1 : Int32) < (r14 / (2 : Int32)) then (r14 / (2 : Int32)) else (1 : Int32))) (v5 + (1 : Int32)) m) else none) else (fX11_men_25 n v1 v2 v3 v4 (v5 + (1 : Int32)) m)) else none)
def fX11_men (m : sm_S) : Option (Int32 × sm_S) :=
  (fX2_everyHedge m).bind fun r2 => (fX2_oddCorners r2 m).bind fun r4 => fX11_men_25 sm_fu r4 (0 : Int32) (0 : Int32) (0 : Int32) (0 : Int32) m
def fX2_holdsAll_2 : Nat → Int32 → Int32 → Int32 → sm_S → Option (Int32)
  | 0, _, _, _, _ => none
  | n + 1, v1, v2, v3, m =>
  if (m.1 3 1) ≤ v3 then (some (1 : Int32)) else (if ((v2 >>> (v3 &&& 31)) &&& (1 : Int32)) = 0 then (fX2_holdsAll_2 n v1 v2 (v3 + (1 : Int32)) m) else (if sm_ix v3 14 then (if ((v1 >>> ((m.1 6 (v3).toNatClampNeg) &&& 31)) &&& (1 : Int32)) = 0 then (some (0 : Int32)) else (fX2_holdsAll_2 n v1 v2 (v3 + (1 : Int32)) m)) else none))
def fX2_holdsAll (x1 : Int32) (x2 : Int32) (m : sm_S) : Option (Int32) :=
  fX2_holdsAll_2 sm_fu x1 x2 (0 : Int32) m
def fX2_isTrail (x1 : Int32) (x2 : Int32) (m : sm_S) : Option (Int32) :=
  (fX2_oddCorners x2 m).bind fun r2 => if r2 = 0 then ((fX2_hanging x1 x2 m).bind fun r4 => (fX2_holdsAll r4 x2 m).bind fun r6 => if r6 = 0 then (some (0 : Int32)) else (some (1 : Int32))) else ((fJ6_bitCount_0f7a4 r2 m).bind fun r8 => if r8 = (2 : Int32) then (if ((r2 >>> (x1 &&& 31)) &&& (1 : Int32)) = 0 then (some (0 : Int32)) else ((fX2_hanging x1 x2 m).bind fun r10 => (fX2_holdsAll r10 x2 m).bind fun r12 => if r12 = 0 then (some (0 : Int32)) else (some (1 : Int32)))) else (some (0 : Int32)))
def fX4_leastStep_2 : Nat → Int32 → Int32 → Int32 → sm_S → Option (Int32)
  | 0, _, _, _, _ => none
  | n + 1, v1, v2, v3, m =>
  if (m.1 3 1) ≤ v3 then (some (-1 : Int32)) else (if ((v2 >>> (v3 &&& 31)) &&& (1 : Int32)) = 0 then (fX4_leastStep_2 n v1 v2 (v3 + (1 : Int32)) m) else ((fX2_touches v3 v1 m).bind fun r2 => if r2 = 0 then (fX4_leastStep_2 n v1 v2 (v3 + (1 : Int32)) m) else ((fX2_otherEnd v3 v1 m).bind fun r4 => (fX2_isTrail r4 (v2 &&& (((1 : Int32) <<< (v3 &&& 31)) ^^^ (-1 : Int32))) m).bind fun r6 => if r6 = 0 then (fX4_leastStep_2 n v1 v2 (v3 + (1 : Int32)) m) else (some v3))))
def fX4_leastStep (x1 : Int32) (x2 : Int32) (m : sm_S) : Option (Int32) :=
  fX4_leastStep_2 sm_fu x1 x2 (0 : Int32) m
def fX4_leastTrail_19 : Nat → Int32 → Int32 → Int32 → Int32 → sm_S → Option (Int32 × sm_S)
  | 0, _, _, _, _, _ => none
  | n + 1, v4, v5, v6, v7, m =>
  if (m.1 3 1) ≤ v7 then (some (v6, m)) else ((fX4_leastStep v5 v4 m).bind fun r6 => if 0 ≤ r6 then ((fX5_add r6 m).bind fun m8 => (fX2_minutesFrom r6 v5 m8).bind fun r10 => (fX2_otherEnd r6 v5 m8).bind fun r12 => fX4_leastTrail_19 n (v4 &&& (((1 : Int32) <<< (r6 &&& 31)) ^^^ (-1 : Int32))) r12 (v6 + r10) (v7 + (1 : Int32)) m8) else (some (v6, m)))
def fX4_leastTrail (x1 : Int32) (m : sm_S) : Option (Int32 × sm_S) :=
  (fX5_clear m).bind fun m2 => (fX2_everyHedge m2).bind fun r4 => fX4_leastTrail_19 sm_fu r4 x1 (0 : Int32) (0 : Int32) m2
def fX11_trail (x1 : Int32) (m : sm_S) : Option (Int32 × sm_S) :=
  (fX2_hasCorner x1 m).bind fun r2 => if r2 = 0 then (some ((-1 : Int32), m)) else ((fX2_everyHedge m).bind fun r4 => (fX2_isTrail x1 r4 m).bind fun r6 => if r6 = 0 then (some ((-2 : Int32), m)) else ((fX4_leastTrail x1 m).bind fun r8 => some (r8.1, r8.2)))
def fX2_hangsTogether (m : sm_S) : Option (Int32) :=
  if (m.1 3 1) = 0 then (some (1 : Int32)) else ((fX2_everyHedge m).bind fun r2 => (fX2_hanging (m.1 6 0) r2 m).bind fun r4 => (fX2_everyHedge m).bind fun r6 => (fX2_holdsAll r4 r6 m).bind fun r8 => if r8 = 0 then (some (0 : Int32)) else (some (1 : Int32)))
def fX4_sortEnds_32 : Nat → Int32 → sm_S → Option (sm_S)
  | 0, _, _ => none
  | n + 1, v2, m =>
  if (m.1 3 1) ≤ v2 then (some m) else (if sm_ix v2 14 then (if sm_ix (m.1 6 (v2).toNatClampNeg) 10 then (if sm_ix (m.1 6 (v2).toNatClampNeg) 10 then (if sm_ix v2 14 then (if sm_ix (m.1 7 (v2).toNatClampNeg) 10 then (if sm_ix (m.1 7 (v2).toNatClampNeg) 10 then (fX4_sortEnds_32 n (v2 + (1 : Int32)) (sm_w1 (sm_w1 m 27 (m.1 6 (v2).toNatClampNeg).toNatClampNeg ((m.1 27 (m.1 6 (v2).toNatClampNeg).toNatClampNeg) ||| ((1 : Int32) <<< (v2 &&& 31)))) 28 (m.1 7 (v2).toNatClampNeg).toNatClampNeg ((m.1 28 (m.1 7 (v2).toNatClampNeg).toNatClampNeg) ||| ((1 : Int32) <<< (v2 &&& 31))))) else none) else none) else none) else none) else none) else none)
def fX4_sortEnds_2 : Nat → Int32 → sm_S → Option (sm_S)
  | 0, _, _ => none
  | n + 1, v2, m =>
  if (m.1 3 0) ≤ v2 then (fX4_sortEnds_32 sm_fu (0 : Int32) m) else (if sm_ix v2 10 then (if sm_ix v2 10 then (fX4_sortEnds_2 n (v2 + (1 : Int32)) (sm_w1 (sm_w1 m 27 (v2).toNatClampNeg (0 : Int32)) 28 (v2).toNatClampNeg (0 : Int32))) else none) else none)
def fX4_sortEnds (m : sm_S) : Option (sm_S) :=
  fX4_sortEnds_2 sm_fu (0 : Int32) m
def fX4_isBalanced_2 : Nat → Int32 → Int32 → sm_S → Option (Int32)
  | 0, _, _, _ => none
  | n + 1, v2, v3, m =>
  if (m.1 3 0) ≤ v3 then (some (1 : Int32)) else (if sm_ix v3 10 then (if sm_ix v3 10 then (if sm_ix v3 10 then (if sm_ix v3 10 then ((fJ6_bitCount_0f7a4 ((m.1 27 (v3).toNatClampNeg) ||| (m.1 28 (v3).toNatClampNeg)) m).bind fun r6 => (fJ6_bitCount_0f7a4 (((m.1 27 (v3).toNatClampNeg) &&& (v2 ^^^ (-1 : Int32))) ||| ((m.1 28 (v3).toNatClampNeg) &&& v2)) m).bind fun r8 => if ((2 : Int32) * r8) = r6 then (fX4_isBalanced_2 n v2 (v3 + (1 : Int32)) m) else (some (0 : Int32))) else none) else none) else none) else none)
def fX4_isBalanced (x1 : Int32) (m : sm_S) : Option (Int32) :=
  fX4_isBalanced_2 sm_fu x1 (0 : Int32) m
def fX4_windOf_5 : Nat → Int32 → Int32 → Int32 → sm_S → Option (Int32)
  | 0, _, _, _, _ => none
  | n + 1, v2, v3, v4, m =>
  if (m.1 3 1) ≤ v4 then (some v3) else (if ((v2 >>> (v4 &&& 31)) &&& (1 : Int32)) = 0 then (fX4_windOf_5 n v2 v3 (v4 + (1 : Int32)) m) else (if sm_ix v4 14 then (fX4_windOf_5 n v2 (v3 + (m.1 12 (v4).toNatClampNeg)) (v4 + (1 : Int32)) m) else none))
def fX4_windOf (x1 : Int32) (m : sm_S) : Option (Int32) :=
  fX4_windOf_5 sm_fu x1 (0 : Int32) (0 : Int32) m
def fX4_cheapestTurns_13 : Nat → Int32 → Int32 → Int32 → sm_S → Option (Int32 × sm_S)
  | 0, _, _, _, _ => none
  | n + 1, v2, v3, v4, m =>
  (fX2_everyHedge m).bind fun r4 => if r4 < v4 then (some (v2, m)) else ((fX4_isBalanced v4 m).bind fun r6 => if r6 = 0 then (fX4_cheapestTurns_13 n v2 v3 (v4 + (1 : Int32)) m) else ((fX4_windOf v4 m).bind fun r8 => if v3 ≤ r8 then (fX4_cheapestTurns_13 n v2 v3 (v4 + (1 : Int32)) m) else (fX4_cheapestTurns_13 n v4 r8 (v4 + (1 : Int32)) m)))
def fX4_cheapestTurns (m : sm_S) : Option (Int32 × sm_S) :=
  (fX4_sortEnds m).bind fun m2 => fX4_cheapestTurns_13 sm_fu (0 : Int32) (65535 : Int32) (0 : Int32) m2
def fX11_round_49 : Nat → Int32 → Int32 → Int32 → sm_S → Option (Int32 × sm_S)
  | 0, _, _, _, _ => none
  | n + 1, v2, v3, v4, m =>
  if (m.1 3 1) ≤ v4 then ((fX5_tell v2 m).bind fun m10 => (fX4_windOf v2 m10).bind fun r12 => some ((v3 + r12), m10)) else (if sm_ix v4 14 then (fX11_round_49 n v2 (v3 + (m.1 8 (v4).toNatClampNeg)) (v4 + (1 : Int32)) m) else none)
def fX11_round (m : sm_S) : Option (Int32 × sm_S) :=
  (fX2_everyHedge m).bind fun r2 => (fX2_oddCorners r2 m).bind fun r4 => if r4 = 0 then ((fX2_hangsTogether m).bind fun r6 => if r6 = 0 then (some ((-2 : Int32), m)) else ((fX4_cheapestTurns m).bind fun r8 => fX11_round_49 sm_fu r8.1 (0 : Int32) (0 : Int32) r8.2)) else (some ((-2 : Int32), m))
def fX3_at (x1 : Int32) (m : sm_S) : Option (Int32) :=
  if x1 < 0 then (some (65535 : Int32)) else (if x1 < (m.1 29 0) then (if sm_ix (x1 >>> ((2 : Int32) &&& 31)) 769 then (some ((((m.2 30 (x1 >>> ((2 : Int32) &&& 31)).toNatClampNeg) >>> ((((x1 &&& (3 : Int32)) <<< ((4 : Int32) &&& 31))).toInt64 &&& 63))).toInt32 &&& (65535 : Int32))) else none) else (some (65535 : Int32)))
def fX4_costWithPair (x1 : Int32) (x2 : Int32) (x3 : Int32) (x4 : Int32) (m : sm_S) : Option (Int32) :=
  (fX3_at ((x4 * (1024 : Int32)) + (x3 &&& (((1 : Int32) <<< (x2 &&& 31)) ^^^ (-1 : Int32)))) m).bind fun r2 => (fX2_grassBetween x1 x2 m).bind fun r4 => some (if (r2 + r4) < (65535 : Int32) then (r2 + r4) else (65535 : Int32))
def fX4_partnerOf_14 : Nat → Int32 → Int32 → Int32 → Int32 → Int32 → sm_S → Option (Int32)
  | 0, _, _, _, _, _, _ => none
  | n + 1, v2, v3, v4, v5, v6, m =>
  if (m.1 3 0) ≤ v6 then (some (-1 : Int32)) else (if ((v5 >>> (v6 &&& 31)) &&& (1 : Int32)) = 0 then (fX4_partnerOf_14 n v2 v3 v4 v5 (v6 + (1 : Int32)) m) else ((fX4_costWithPair v2 v6 v5 v4 m).bind fun r2 => (fX3_at ((v4 * (1024 : Int32)) + v3) m).bind fun r4 => if r2 = r4 then (some v6) else (fX4_partnerOf_14 n v2 v3 v4 v5 (v6 + (1 : Int32)) m)))
def fX4_partnerOf (x1 : Int32) (x2 : Int32) (x3 : Int32) (m : sm_S) : Option (Int32) :=
  fX4_partnerOf_14 sm_fu x1 x2 x3 (x2 &&& (((1 : Int32) <<< (x1 &&& 31)) ^^^ (-1 : Int32))) (x1 + (1 : Int32)) m
def fX4_tellPairs_14 : Nat → Int32 → Int32 → Int32 → sm_S → Option (sm_S)
  | 0, _, _, _, _ => none
  | n + 1, v5, v6, v7, m =>
  if (m.1 3 0) ≤ v7 then (some m) else (if ((v5 >>> (v7 &&& 31)) &&& (1 : Int32)) = 0 then (fX4_tellPairs_14 n v5 v6 (v7 + (1 : Int32)) m) else ((fX4_partnerOf v7 v5 v6 m).bind fun r4 => if 0 ≤ r4 then ((fX5_add v7 m).bind fun m6 => (fX5_add r4 m6).bind fun m8 => fX4_tellPairs_14 n ((v5 &&& (((1 : Int32) <<< (v7 &&& 31)) ^^^ (-1 : Int32))) &&& (((1 : Int32) <<< (r4 &&& 31)) ^^^ (-1 : Int32))) v6 (v7 + (1 : Int32)) m8) else (fX4_tellPairs_14 n (v5 &&& (((1 : Int32) <<< (v7 &&& 31)) ^^^ (-1 : Int32))) (if (0 : Int32) < (v6 - (1 : Int32)) then (v6 - (1 : Int32)) else (0 : Int32)) (v7 + (1 : Int32)) m)))
def fX4_tellPairs (x1 : Int32) (x2 : Int32) (m : sm_S) : Option (sm_S) :=
  (fX5_clear m).bind fun m2 => fX4_tellPairs_14 sm_fu x1 x2 (0 : Int32) m2
def fX3_put (x1 : Int32) (x2 : Int32) (m : sm_S) : Option (sm_S) :=
  if x1 < 0 then (some m) else (if (m.1 29 0) ≤ x1 then (some m) else (if sm_ix (x1 >>> ((2 : Int32) &&& 31)) 769 then (if sm_ix (x1 >>> ((2 : Int32) &&& 31)) 769 then (some (sm_w2 m 30 (x1 >>> ((2 : Int32) &&& 31)).toNatClampNeg (((m.2 30 (x1 >>> ((2 : Int32) &&& 31)).toNatClampNeg) &&& (((65535 : Int64) <<< ((((x1 &&& (3 : Int32)) <<< ((4 : Int32) &&& 31))).toInt64 &&& 63)) ^^^ (-1 : Int64))) ||| (((if (65535 : Int32) < x2 then (65535 : Int32) else x2)).toInt64 <<< ((((x1 &&& (3 : Int32)) <<< ((4 : Int32) &&& 31))).toInt64 &&& 63))))) else none) else none))
def fX4_lowestOf_2 : Nat → Int32 → Int32 → sm_S → Option (Int32)
  | 0, _, _, _ => none
  | n + 1, v0, v1, m =>
  if (10 : Int32) ≤ v1 then (some (0 : Int32)) else (if ((v0 >>> (v1 &&& 31)) &&& (1 : Int32)) = 0 then (fX4_lowestOf_2 n v0 (v1 + (1 : Int32)) m) else (some v1))
def fX4_lowestOf (x1 : Int32) (m : sm_S) : Option (Int32) :=
  fX4_lowestOf_2 sm_fu x1 (0 : Int32) m
def fX4_costOf_65 : Nat → Int32 → Int32 → Int32 → Int32 → Int32 → sm_S → Option (Int32)
  | 0, _, _, _, _, _, _ => none
  | n + 1, v3, v4, v5, v6, v7, m =>
  if (m.1 3 0) ≤ v7 then (some v6) else (if ((v5 >>> (v7 &&& 31)) &&& (1 : Int32)) = 0 then (fX4_costOf_65 n v3 v4 v5 v6 (v7 + (1 : Int32)) m) else ((fX4_costWithPair v4 v7 v5 v3 m).bind fun r6 => fX4_costOf_65 n v3 v4 v5 (if r6 < v6 then r6 else v6) (v7 + (1 : Int32)) m))
def fX4_costOf (x1 : Int32) (x2 : Int32) (m : sm_S) : Option (Int32) :=
  if x1 = 0 then (if x2 = 0 then (some (0 : Int32)) else (some (65535 : Int32))) else ((fX4_lowestOf x1 m).bind fun r2 => if x2 = 0 then (fX4_costOf_65 sm_fu x2 r2 (x1 &&& (((1 : Int32) <<< (r2 &&& 31)) ^^^ (-1 : Int32))) (65535 : Int32) (r2 + (1 : Int32)) m) else ((fX3_at (((x2 - (1 : Int32)) * (1024 : Int32)) + (x1 &&& (((1 : Int32) <<< (r2 &&& 31)) ^^^ (-1 : Int32)))) m).bind fun r4 => fX4_costOf_65 sm_fu x2 r2 (x1 &&& (((1 : Int32) <<< (r2 &&& 31)) ^^^ (-1 : Int32))) r4 (r2 + (1 : Int32)) m))
def fX4_leastGrass_22 (k13 : Int32 → Int32 → Int32 → sm_S → Option (Int32 × sm_S)) : Nat → Int32 → Int32 → Int32 → Int32 → sm_S → Option (Int32 × sm_S)
  | 0, _, _, _, _, _ => none
  | n + 1, v2, v4, v5, v6, m =>
  if ((1 : Int32) <<< ((m.1 3 0) &&& 31)) ≤ v6 then (k13 v2 v4 (v5 + (1 : Int32)) m) else (if (v6 &&& (v4 ^^^ (-1 : Int32))) = 0 then ((fX4_costOf v6 v5 m).bind fun r12 => (fX3_put ((v5 * (1024 : Int32)) + v6) r12 m).bind fun m14 => fX4_leastGrass_22 k13 n v2 v4 v5 (v6 + (1 : Int32)) m14) else ((fX3_put ((v5 * (1024 : Int32)) + v6) (65535 : Int32) m).bind fun m10 => fX4_leastGrass_22 k13 n v2 v4 v5 (v6 + (1 : Int32)) m10))
def fX4_leastGrass_13 : Nat → Int32 → Int32 → Int32 → sm_S → Option (Int32 × sm_S)
  | 0, _, _, _, _ => none
  | n + 1, v2, v4, v5, m =>
  if v2 < v5 then ((fX4_tellPairs v4 v2 m).bind fun m6 => (fX3_at ((v2 * (1024 : Int32)) + v4) m6).bind fun r8 => some (r8, m6)) else (fX4_leastGrass_22 (fX4_leastGrass_13 n) sm_fu v2 v4 v5 (0 : Int32) m)
def fX4_leastGrass (x1 : Int32) (m : sm_S) : Option (Int32 × sm_S) :=
  (fX2_everyHedge m).bind fun r2 => (fX2_oddCorners r2 m).bind fun r4 => fX4_leastGrass_13 sm_fu x1 r4 (0 : Int32) m
def fX11_closed (m : sm_S) : Option (Int32 × sm_S) :=
  (fX2_hangsTogether m).bind fun r2 => if r2 = 0 then (some ((-2 : Int32), m)) else ((fX4_leastGrass (0 : Int32) m).bind fun r4 => some (r4.1, r4.2))
def fX11_open (m : sm_S) : Option (Int32 × sm_S) :=
  (fX2_hangsTogether m).bind fun r2 => if r2 = 0 then (some ((-2 : Int32), m)) else ((fX2_everyHedge m).bind fun r4 => (fX2_oddCorners r4 m).bind fun r6 => if r6 = 0 then ((fX4_leastGrass (0 : Int32) m).bind fun r10 => some (r10.1, r10.2)) else ((fX4_leastGrass (2 : Int32) m).bind fun r8 => some (r8.1, r8.2)))
def fX3_fillWithForever_2 : Nat → Int32 → Int32 → sm_S → Option (sm_S)
  | 0, _, _, _ => none
  | n + 1, v1, v2, m =>
  if (v1 / (4 : Int32)) < v2 then (some m) else (if (Int32.ofNat 4097) ≤ v2 then (some m) else (if sm_ix v2 4097 then (fX3_fillWithForever_2 n v1 (v2 + (1 : Int32)) (sm_w2 m 33 (v2).toNatClampNeg (-1 : Int64))) else none))
def fX3_fillWithForever (x1 : Int32) (m : sm_S) : Option (sm_S) :=
  fX3_fillWithForever_2 sm_fu x1 (0 : Int32) m
def fX3_put_i1 (x1 : Int32) (x2 : Int32) (m : sm_S) : Option (sm_S) :=
  if x1 < 0 then (some m) else (if (m.1 32 0) ≤ x1 then (some m) else (if sm_ix (x1 >>> ((2 : Int32) &&& 31)) 4097 then (if sm_ix (x1 >>> ((2 : Int32) &&& 31)) 4097 then (some (sm_w2 m 33 (x1 >>> ((2 : Int32) &&& 31)).toNatClampNeg (((m.2 33 (x1 >>> ((2 : Int32) &&& 31)).toNatClampNeg) &&& (((65535 : Int64) <<< ((((x1 &&& (3 : Int32)) <<< ((4 : Int32) &&& 31))).toInt64 &&& 63)) ^^^ (-1 : Int64))) ||| (((if (65535 : Int32) < x2 then (65535 : Int32) else x2)).toInt64 <<< ((((x1 &&& (3 : Int32)) <<< ((4 : Int32) &&& 31))).toInt64 &&& 63))))) else none) else none))
def fX3_at_i1 (x1 : Int32) (m : sm_S) : Option (Int32) :=
  if x1 < 0 then (some (65535 : Int32)) else (if x1 < (m.1 32 0) then (if sm_ix (x1 >>> ((2 : Int32) &&& 31)) 4097 then (some ((((m.2 33 (x1 >>> ((2 : Int32) &&& 31)).toNatClampNeg) >>> ((((x1 &&& (3 : Int32)) <<< ((4 : Int32) &&& 31))).toInt64 &&& 63))).toInt32 &&& (65535 : Int32))) else none) else (some (65535 : Int32)))
def fX10_extend_14 : Nat → Int32 → Int32 → Int32 → Int32 → Int32 → sm_S → Option (sm_S)
  | 0, _, _, _, _, _, _ => none
  | n + 1, v2, v4, v5, v6, v7, m =>
  if (m.1 3 1) ≤ v7 then (some m) else (if ((v2 >>> (v7 &&& 31)) &&& (1 : Int32)) = 0 then ((fX2_touches v7 v5 m).bind fun r2 => if r2 = 0 then (fX10_extend_14 n v2 v4 v5 v6 (v7 + (1 : Int32)) m) else ((fX2_minutesFrom v7 v5 m).bind fun r4 => (fX2_otherEnd v7 v5 m).bind fun r6 => if v4 < (v6 + r4) then (fX10_extend_14 n v2 v4 v5 v6 (v7 + (1 : Int32)) m) else ((fX3_at_i1 (v2 ||| ((1 : Int32) <<< (v7 &&& 31))) m).bind fun r8 => if r8 ≤ (((v6 + r4) <<< ((4 : Int32) &&& 31)) ||| r6) then (fX10_extend_14 n v2 v4 v5 v6 (v7 + (1 : Int32)) m) else ((fX3_put_i1 (v2 ||| ((1 : Int32) <<< (v7 &&& 31))) (((v6 + r4) <<< ((4 : Int32) &&& 31)) ||| r6) m).bind fun m10 => fX10_extend_14 n v2 v4 v5 v6 (v7 + (1 : Int32)) m10)))) else (fX10_extend_14 n v2 v4 v5 v6 (v7 + (1 : Int32)) m))
def fX10_extend (x1 : Int32) (x2 : Int32) (x3 : Int32) (m : sm_S) : Option (sm_S) :=
  fX10_extend_14 sm_fu x1 x3 (x2 &&& (15 : Int32)) (x2 >>> ((4 : Int32) &&& 31)) (0 : Int32) m
def fX10_explore_33 : Nat → Int32 → Int32 → sm_S → Option (sm_S)
  | 0, _, _, _ => none
  | n + 1, v3, v4, m =>
  if (m.1 31 1) ≤ v4 then (some m) else ((fX3_at_i1 v4 m).bind fun r6 => if (65535 : Int32) ≤ r6 then (fX10_explore_33 n v3 (v4 + (1 : Int32)) m) else ((fX10_extend v4 r6 v3 m).bind fun m8 => fX10_explore_33 n v3 (v4 + (1 : Int32)) m8))
def fX10_explore (x1 : Int32) (x2 : Int32) (m : sm_S) : Option (sm_S) :=
  (fX3_fillWithForever ((1 : Int32) <<< ((m.1 3 1) &&& 31)) (sm_w1 m 31 1 ((1 : Int32) <<< ((m.1 3 1) &&& 31)))).bind fun m2 => (fX3_put_i1 (0 : Int32) x1 m2).bind fun m4 => fX10_explore_33 sm_fu x2 (0 : Int32) m4
def fX2_worthOf_4 : Nat → Int32 → Int32 → Int32 → sm_S → Option (Int32)
  | 0, _, _, _, _ => none
  | n + 1, v1, v2, v3, m =>
  if (m.1 3 1) ≤ v3 then (some v2) else (if ((v1 >>> (v3 &&& 31)) &&& (1 : Int32)) = 0 then (fX2_worthOf_4 n v1 v2 (v3 + (1 : Int32)) m) else (if sm_ix v3 14 then (fX2_worthOf_4 n v1 (v2 + (m.1 11 (v3).toNatClampNeg)) (v3 + (1 : Int32)) m) else none))
def fX2_worthOf (x1 : Int32) (m : sm_S) : Option (Int32) :=
  fX2_worthOf_4 sm_fu x1 (0 : Int32) (0 : Int32) m
def fX10_minutesOf (x1 : Int32) (m : sm_S) : Option (Int32) :=
  (fX3_at_i1 x1 m).bind fun r2 => some (r2 >>> ((4 : Int32) &&& 31))
def fX10_dearest_9 : Nat → Int32 → Int32 → Int32 → Int32 → Int32 → sm_S → Option (Int32)
  | 0, _, _, _, _, _, _ => none
  | n + 1, v2, v3, v4, v5, v6, m =>
  if (m.1 31 1) ≤ v6 then (some v4) else ((fX3_at_i1 v6 m).bind fun r2 => if (65535 : Int32) ≤ r2 then (fX10_dearest_9 n v2 v3 v4 v5 (v6 + (1 : Int32)) m) else (if v3 = 0 then ((fX2_worthOf v6 m).bind fun r4 => if v5 < r4 then (fX10_dearest_9 n v2 v3 v6 r4 (v6 + (1 : Int32)) m) else (if r4 = v5 then ((fX10_minutesOf v6 m).bind fun r6 => (fX10_minutesOf v4 m).bind fun r8 => if r8 ≤ r6 then (fX10_dearest_9 n v2 v3 v4 v5 (v6 + (1 : Int32)) m) else (fX10_dearest_9 n v2 v3 v6 r4 (v6 + (1 : Int32)) m)) else (fX10_dearest_9 n v2 v3 v4 v5 (v6 + (1 : Int32)) m))) else (if (r2 &&& (15 : Int32)) = v2 then ((fX2_worthOf v6 m).bind fun r10 => if v5 < r10 then (fX10_dearest_9 n v2 v3 v6 r10 (v6 + (1 : Int32)) m) else (if r10 = v5 then ((fX10_minutesOf v6 m).bind fun r12 => (fX10_minutesOf v4 m).bind fun r14 => if r14 ≤ r12 then (fX10_dearest_9 n v2 v3 v4 v5 (v6 + (1 : Int32)) m) else (fX10_dearest_9 n v2 v3 v6 r10 (v6 + (1 : Int32)) m)) else (fX10_dearest_9 n v2 v3 v4 v5 (v6 + (1 : Int32)) m))) else (fX10_dearest_9 n v2 v3 v4 v5 (v6 + (1 : Int32)) m))))
def fX10_dearest (x1 : Int32) (x2 : Int32) (m : sm_S) : Option (Int32) :=
  fX10_dearest_9 sm_fu x1 x2 (0 : Int32) (0 : Int32) (1 : Int32) m
def fX11_mostWorth (x1 : Int32) (x2 : Int32) (x3 : Int32) (m : sm_S) : Option (Int32 × sm_S) :=
  (fX2_hasCorner x1 m).bind fun r2 => if r2 = 0 then (some ((-1 : Int32), m)) else (if x2 < 0 then (some ((-1 : Int32), m)) else (if x2 ≤ (9999 : Int32) then ((fX10_explore x1 x2 m).bind fun m4 => (fX10_dearest x1 x3 m4).bind fun r6 => (fX5_tell r6 m4).bind fun m8 => (fX10_minutesOf r6 m8).bind fun r10 => (fX5_add r10 m8).bind fun m12 => (fX2_worthOf r6 m12).bind fun r14 => some (r14, m12)) else (some ((-1 : Int32), m))))
def fX11_most (x1 : Int32) (x2 : Int32) (m : sm_S) : Option (Int32 × sm_S) :=
  (fX11_mostWorth x1 x2 (0 : Int32) m).bind fun r2 => some (r2.1, r2.2)
def fX11_home (x1 : Int32) (x2 : Int32) (m : sm_S) : Option (Int32 × sm_S) :=
  (fX11_mostWorth x1 x2 (1 : Int32) m).bind fun r2 => some (r2.1, r2.2)
def fX10_quickest_9 : Nat → Int32 → Int32 → Int32 → Int32 → sm_S → Option (Int32)
  | 0, _, _, _, _, _ => none
  | n + 1, v2, v3, v4, v5, m =>
  if (m.1 31 1) ≤ v5 then (some v3) else ((fX3_at_i1 v5 m).bind fun r2 => if (65535 : Int32) ≤ r2 then (fX10_quickest_9 n v2 v3 v4 (v5 + (1 : Int32)) m) else (if v4 ≤ (r2 >>> ((4 : Int32) &&& 31)) then (fX10_quickest_9 n v2 v3 v4 (v5 + (1 : Int32)) m) else ((fX2_worthOf v5 m).bind fun r4 => if r4 < v2 then (fX10_quickest_9 n v2 v3 v4 (v5 + (1 : Int32)) m) else (fX10_quickest_9 n v2 v5 (r2 >>> ((4 : Int32) &&& 31)) (v5 + (1 : Int32)) m))))
def fX10_quickest (x1 : Int32) (m : sm_S) : Option (Int32) :=
  fX10_quickest_9 sm_fu x1 (-1 : Int32) (65535 : Int32) (0 : Int32) m
def fX11_soon (x1 : Int32) (x2 : Int32) (m : sm_S) : Option (Int32 × sm_S) :=
  (fX2_hasCorner x1 m).bind fun r2 => if r2 = 0 then (some ((-1 : Int32), m)) else (if x2 < 0 then (some ((-1 : Int32), m)) else (if x2 ≤ (200 : Int32) then ((fX10_explore x1 (9999 : Int32) m).bind fun m4 => (fX10_quickest x2 m4).bind fun r6 => if 0 ≤ r6 then ((fX5_tell r6 m4).bind fun m8 => (fX10_minutesOf r6 m8).bind fun r10 => some (r10, m8)) else (some ((-2 : Int32), m4))) else (some ((-1 : Int32), m))))
def fX11_bridges_4 : Nat → Int32 → Int32 → sm_S → Option (Int32)
  | 0, _, _, _ => none
  | n + 1, v1, v2, m =>
  if (m.1 3 1) ≤ v2 then (some v1) else ((fX2_everyHedge m).bind fun r2 => if sm_ix v2 14 then ((fX2_hanging (m.1 6 (v2).toNatClampNeg) (r2 &&& (((1 : Int32) <<< (v2 &&& 31)) ^^^ (-1 : Int32))) m).bind fun r5 => if sm_ix v2 14 then (if ((r5 >>> ((m.1 7 (v2).toNatClampNeg) &&& 31)) &&& (1 : Int32)) = 0 then (fX11_bridges_4 n (v1 ||| ((1 : Int32) <<< (v2 &&& 31))) (v2 + (1 : Int32)) m) else (fX11_bridges_4 n v1 (v2 + (1 : Int32)) m)) else none) else none)
def fX11_bridges (m : sm_S) : Option (Int32) :=
  fX11_bridges_4 sm_fu (0 : Int32) (0 : Int32) m
def fX11_reach_41 : Nat → Int32 → Int32 → Int32 → sm_S → Option (Int32)
  | 0, _, _, _, _ => none
  | n + 1, v1, v2, v3, m =>
  if (m.1 3 1) ≤ v3 then ((fX2_hanging (m.1 16 0) v2 m).bind fun r2 => some r2) else (if v3 = v1 then (fX11_reach_41 n v1 v2 (v3 + (1 : Int32)) m) else ((fX6_isFresh v3 m).bind fun r4 => if r4 = 0 then (fX11_reach_41 n v1 v2 (v3 + (1 : Int32)) m) else (fX11_reach_41 n v1 (v2 ||| ((1 : Int32) <<< (v3 &&& 31))) (v3 + (1 : Int32)) m)))
def fX11_reach (x1 : Int32) (m : sm_S) : Option (Int32) :=
  if (m.1 3 0) = 0 then none else (if x1 = (-1 : Int32) then (fX11_reach_41 sm_fu x1 (0 : Int32) (0 : Int32) m) else ((fX2_hasHedge x1 m).bind fun r6 => if r6 = 0 then none else (fX11_reach_41 sm_fu x1 (0 : Int32) (0 : Int32) m)))
def fX1_layPaths_53 : Nat → Int32 → sm_S → Option (sm_S)
  | 0, _, _ => none
  | n + 1, v2, m =>
  if (m.1 3 1) ≤ v2 then (some m) else (if sm_ix v2 14 then (if (m.1 13 (v2).toNatClampNeg) = 0 then (if sm_ix v2 14 then (if sm_ix v2 14 then (if sm_ix (m.1 6 (v2).toNatClampNeg) 10 then (if sm_ix (m.1 6 (v2).toNatClampNeg) 10 then (if sm_ix (m.1 7 (v2).toNatClampNeg) 10 then ((fX2_minutesFrom v2 (m.1 6 (v2).toNatClampNeg) m).bind fun r8 => if sm_ix (m.1 7 (v2).toNatClampNeg) 10 then (if sm_ix (m.1 7 (v2).toNatClampNeg) 10 then (if sm_ix (m.1 7 (v2).toNatClampNeg) 10 then (if sm_ix (m.1 6 (v2).toNatClampNeg) 10 then ((fX2_minutesFrom v2 (m.1 7 (v2).toNatClampNeg) (sm_w1 m (39 + (m.1 6 (v2).toNatClampNeg).toNatClampNeg) (m.1 7 (v2).toNatClampNeg).toNatClampNeg (if r8 < (m.1 (39 + (m.1 6 (v2).toNatClampNeg).toNatClampNeg) (m.1 7 (v2).toNatClampNeg).toNatClampNeg) then r8 else (m.1 (39 + (m.1 6 (v2).toNatClampNeg).toNatClampNeg) (m.1 7 (v2).toNatClampNeg).toNatClampNeg)))).bind fun r14 => if sm_ix (m.1 6 (v2).toNatClampNeg) 10 then (fX1_layPaths_53 n (v2 + (1 : Int32)) (sm_w1 (sm_w1 m (39 + (m.1 6 (v2).toNatClampNeg).toNatClampNeg) (m.1 7 (v2).toNatClampNeg).toNatClampNeg (if r8 < (m.1 (39 + (m.1 6 (v2).toNatClampNeg).toNatClampNeg) (m.1 7 (v2).toNatClampNeg).toNatClampNeg) then r8 else (m.1 (39 + (m.1 6 (v2).toNatClampNeg).toNatClampNeg) (m.1 7 (v2).toNatClampNeg).toNatClampNeg))) (39 + (m.1 7 (v2).toNatClampNeg).toNatClampNeg) (m.1 6 (v2).toNatClampNeg).toNatClampNeg (if r14 < ((sm_w1 m (39 + (m.1 6 (v2).toNatClampNeg).toNatClampNeg) (m.1 7 (v2).toNatClampNeg).toNatClampNeg (if r8 < (m.1 (39 + (m.1 6 (v2).toNatClampNeg).toNatClampNeg) (m.1 7 (v2).toNatClampNeg).toNatClampNeg) then r8 else (m.1 (39 + (m.1 6 (v2).toNatClampNeg).toNatClampNeg) (m.1 7 (v2).toNatClampNeg).toNatClampNeg))).1 (39 + (m.1 7 (v2).toNatClampNeg).toNatClampNeg) (m.1 6 (v2).toNatClampNeg).toNatClampNeg) then r14 else ((sm_w1 m (39 + (m.1 6 (v2).toNatClampNeg).toNatClampNeg) (m.1 7 (v2).toNatClampNeg).toNatClampNeg (if r8 < (m.1 (39 + (m.1 6 (v2).toNatClampNeg).toNatClampNeg) (m.1 7 (v2).toNatClampNeg).toNatClampNeg) then r8 else (m.1 (39 + (m.1 6 (v2).toNatClampNeg).toNatClampNeg) (m.1 7 (v2).toNatClampNeg).toNatClampNeg))).1 (39 + (m.1 7 (v2).toNatClampNeg).toNatClampNeg) (m.1 6 (v2).toNatClampNeg).toNatClampNeg)))) else none) else none) else none) else none) else none) else none) else none) else none) else none) else none) else (fX1_layPaths_53 n (v2 + (1 : Int32)) m)) else none)
def fX1_layPaths_12 (k2 : Int32 → sm_S → Option (sm_S)) : Nat → Int32 → Int32 → sm_S → Option (sm_S)
  | 0, _, _, _ => none
  | n + 1, v2, v3, m =>
  if (m.1 3 0) ≤ v3 then (k2 (v2 + (1 : Int32)) m) else (if sm_ix v2 10 then (if v2 = v3 then (if sm_ix v3 10 then (fX1_layPaths_12 k2 n v2 (v3 + (1 : Int32)) (sm_w1 m (39 + (v2).toNatClampNeg) (v3).toNatClampNeg (0 : Int32))) else none) else (if sm_ix v3 10 then (fX1_layPaths_12 k2 n v2 (v3 + (1 : Int32)) (sm_w1 m (39 + (v2).toNatClampNeg) (v3).toNatClampNeg (65535 : Int32))) else none)) else none)
def fX1_layPaths_2 : Nat → Int32 → sm_S → Option (sm_S)
  | 0, _, _ => none
  | n + 1, v2, m =>
  if (m.1 3 0) ≤ v2 then (fX1_layPaths_53 sm_fu (0 : Int32) m) else (fX1_layPaths_12 (fX1_layPaths_2 n) sm_fu v2 (0 : Int32) m)
def fX1_layPaths (m : sm_S) : Option (sm_S) :=
  fX1_layPaths_2 sm_fu (0 : Int32) m
def fX1_shortenPaths_23 (k12 : Int32 → Int32 → sm_S → Option (sm_S)) (k2 : Int32 → sm_S → Option (sm_S)) : Nat → Int32 → Int32 → Int32 → sm_S → Option (sm_S)
  | 0, _, _, _, _ => none
  | n + 1, v2, v3, v4, m =>
  if (m.1 3 0) ≤ v4 then (k12 v2 (v3 + (1 : Int32)) m) else (if sm_ix v3 10 then (if sm_ix v3 10 then (if sm_ix v4 10 then (if sm_ix v3 10 then (if sm_ix v2 10 then (if sm_ix v2 10 then (if sm_ix v4 10 then (if sm_ix v4 10 then (fX1_shortenPaths_23 k12 k2 n v2 v3 (v4 + (1 : Int32)) (sm_w1 m (39 + (v3).toNatClampNeg) (v4).toNatClampNeg (if ((m.1 (39 + (v3).toNatClampNeg) (v2).toNatClampNeg) + (m.1 (39 + (v2).toNatClampNeg) (v4).toNatClampNeg)) < (m.1 (39 + (v3).toNatClampNeg) (v4).toNatClampNeg) then ((m.1 (39 + (v3).toNatClampNeg) (v2).toNatClampNeg) + (m.1 (39 + (v2).toNatClampNeg) (v4).toNatClampNeg)) else (m.1 (39 + (v3).toNatClampNeg) (v4).toNatClampNeg)))) else none) else none) else none) else none) else none) else none) else none) else none)
def fX1_shortenPaths_12 (k2 : Int32 → sm_S → Option (sm_S)) : Nat → Int32 → Int32 → sm_S → Option (sm_S)
  | 0, _, _, _ => none
  | n + 1, v2, v3, m =>
  if (m.1 3 0) ≤ v3 then (k2 (v2 + (1 : Int32)) m) else (fX1_shortenPaths_23 (fX1_shortenPaths_12 k2 n) k2 sm_fu v2 v3 (0 : Int32) m)
def fX1_shortenPaths_2 : Nat → Int32 → sm_S → Option (sm_S)
  | 0, _, _ => none
  | n + 1, v2, m =>
  if (m.1 3 0) ≤ v2 then (some m) else (fX1_shortenPaths_12 (fX1_shortenPaths_2 n) sm_fu v2 (0 : Int32) m)
def fX1_shortenPaths (m : sm_S) : Option (sm_S) :=
  fX1_shortenPaths_2 sm_fu (0 : Int32) m
def fX1_numberInPart_20 : Nat → Int32 → Int32 → sm_S → Option (sm_S)
  | 0, _, _, _ => none
  | n + 1, v1, v2, m =>
  if v2 < 0 then (some m) else (if sm_ix v2 10 then (if sm_ix v1 10 then (if (65535 : Int32) ≤ (m.1 (39 + (v2).toNatClampNeg) (v1).toNatClampNeg) then (fX1_numberInPart_20 n v1 (v2 + (-1 : Int32)) m) else (if sm_ix v1 10 then (if sm_ix v1 10 then (if sm_ix v1 10 then (fX1_numberInPart_20 n v1 (v2 + (-1 : Int32)) (sm_w1 (sm_w1 m 36 (v1).toNatClampNeg ((1 : Int32) <<< (v2 &&& 31))) 37 (v1).toNatClampNeg ((m.1 37 (v1).toNatClampNeg) + (1 : Int32)))) else none) else none) else none)) else none) else none)
def fX1_numberInPart (x1 : Int32) (m : sm_S) : Option (sm_S) :=
  if sm_ix x1 10 then (if sm_ix x1 10 then (fX1_numberInPart_20 sm_fu x1 (x1 - (1 : Int32)) (sm_w1 (sm_w1 m 36 (x1).toNatClampNeg ((1 : Int32) <<< (x1 &&& 31))) 37 (x1).toNatClampNeg (0 : Int32))) else none) else none
def fX1_prepare_73 : Nat → Int32 → sm_S → Option (sm_S)
  | 0, _, _ => none
  | n + 1, v2, m =>
  if (m.1 3 0) ≤ v2 then (some m) else ((fX1_numberInPart v2 m).bind fun m6 => fX1_prepare_73 n (v2 + (1 : Int32)) m6)
def fX1_prepare_7 : Nat → Int32 → sm_S → Option (sm_S)
  | 0, _, _ => none
  | n + 1, v2, m =>
  if (m.1 3 1) ≤ v2 then ((fX1_layPaths (sm_w1 m 34 2 ((15 : Int32) - (m.1 34 1)))).bind fun m2 => (fX1_shortenPaths m2).bind fun m4 => fX1_prepare_73 sm_fu (0 : Int32) m4) else (if sm_ix v2 14 then (if (m.1 13 (v2).toNatClampNeg) = 0 then (fX1_prepare_7 n (v2 + (1 : Int32)) m) else (if sm_ix (m.1 34 1) 14 then (fX1_prepare_7 n (v2 + (1 : Int32)) (sm_w1 (sm_w1 m 35 (m.1 34 1).toNatClampNeg v2) 34 1 ((m.1 34 1) + (1 : Int32)))) else none)) else none)
def fX1_prepare (m : sm_S) : Option (sm_S) :=
  fX1_prepare_7 sm_fu (0 : Int32) (sm_w1 m 34 1 (0 : Int32))
def fX1_partAfter_11 : Nat → Int32 → Int32 → Int32 → sm_S → Option (Int32)
  | 0, _, _, _, _ => none
  | n + 1, v3, v4, v5, m =>
  if (m.1 34 1) ≤ v5 then (some v4) else (if ((v3 >>> (v5 &&& 31)) &&& (1 : Int32)) = 0 then (fX1_partAfter_11 n v3 v4 (v5 + (1 : Int32)) m) else (if sm_ix v5 14 then (if sm_ix (m.1 35 (v5).toNatClampNeg) 14 then (if sm_ix (m.1 6 (m.1 35 (v5).toNatClampNeg).toNatClampNeg) 10 then (if sm_ix (m.1 35 (v5).toNatClampNeg) 14 then (if sm_ix (m.1 7 (m.1 35 (v5).toNatClampNeg).toNatClampNeg) 10 then (fX1_partAfter_11 n v3 (v4 ^^^ ((m.1 36 (m.1 6 (m.1 35 (v5).toNatClampNeg).toNatClampNeg).toNatClampNeg) ^^^ (m.1 36 (m.1 7 (m.1 35 (v5).toNatClampNeg).toNatClampNeg).toNatClampNeg))) (v5 + (1 : Int32)) m) else none) else none) else none) else none) else none))
def fX1_partAfter (x1 : Int32) (x2 : Int32) (m : sm_S) : Option (Int32) :=
  if sm_ix x1 10 then (fX1_partAfter_11 sm_fu x2 (m.1 36 (x1).toNatClampNeg) (0 : Int32) m) else none
def fX1_placeOf (x1 : Int32) (x2 : Int32) (m : sm_S) : Option (Int32) :=
  if sm_ix x2 10 then (some ((x1 * (m.1 34 2)) + (m.1 37 (x2).toNatClampNeg))) else none
def fX3_at_i2 (x1 : Int32) (m : sm_S) : Option (Int32) :=
  if x1 < 0 then (some (65535 : Int32)) else (if x1 < (m.1 49 0) then (if sm_ix (x1 >>> ((2 : Int32) &&& 31)) 4097 then (some ((((m.2 50 (x1 >>> ((2 : Int32) &&& 31)).toNatClampNeg) >>> ((((x1 &&& (3 : Int32)) <<< ((4 : Int32) &&& 31))).toInt64 &&& 63))).toInt32 &&& (65535 : Int32))) else none) else (some (65535 : Int32)))
def fX1_minutesBy (x1 : Int32) (x2 : Int32) (x3 : Int32) (x4 : Int32) (m : sm_S) : Option (Int32) :=
  if sm_ix x2 10 then (if sm_ix x4 10 then (if (m.1 (39 + (x2).toNatClampNeg) (x4).toNatClampNeg) < (65535 : Int32) then (if sm_ix x3 14 then ((fX2_otherEnd (m.1 35 (x3).toNatClampNeg) x4 m).bind fun r5 => (fX1_placeOf (x1 ||| ((1 : Int32) <<< (x3 &&& 31))) r5 m).bind fun r7 => (fX3_at_i2 r7 m).bind fun r9 => if sm_ix x2 10 then (if sm_ix x4 10 then ((fX2_minutesFrom (m.1 35 (x3).toNatClampNeg) x4 m).bind fun r13 => some (if (((m.1 (39 + (x2).toNatClampNeg) (x4).toNatClampNeg) + r13) + r9) < (65535 : Int32) then (((m.1 (39 + (x2).toNatClampNeg) (x4).toNatClampNeg) + r13) + r9) else (65535 : Int32))) else none) else none) else none) else (some (65535 : Int32))) else none) else none
def fX1_bestOn_7 : Nat → Int32 → Int32 → Int32 → Int32 → sm_S → Option (Int32)
  | 0, _, _, _, _, _ => none
  | n + 1, v2, v3, v4, v5, m =>
  if (m.1 34 1) ≤ v5 then (some v4) else (if ((v2 >>> (v5 &&& 31)) &&& (1 : Int32)) = 0 then (if sm_ix v5 14 then (if sm_ix (m.1 35 (v5).toNatClampNeg) 14 then ((fX1_minutesBy v2 v3 v5 (m.1 6 (m.1 35 (v5).toNatClampNeg).toNatClampNeg) m).bind fun r4 => if sm_ix (m.1 35 (v5).toNatClampNeg) 14 then ((fX1_minutesBy v2 v3 v5 (m.1 7 (m.1 35 (v5).toNatClampNeg).toNatClampNeg) m).bind fun r7 => fX1_bestOn_7 n v2 v3 (if r7 < (if r4 < v4 then r4 else v4) then r7 else (if r4 < v4 then r4 else v4)) (v5 + (1 : Int32)) m) else none) else none) else none) else (fX1_bestOn_7 n v2 v3 v4 (v5 + (1 : Int32)) m))
def fX1_bestOn (x1 : Int32) (x2 : Int32) (m : sm_S) : Option (Int32) :=
  fX1_bestOn_7 sm_fu x1 x2 (65535 : Int32) (0 : Int32) m
def fX3_put_i2 (x1 : Int32) (x2 : Int32) (m : sm_S) : Option (sm_S) :=
  if x1 < 0 then (some m) else (if (m.1 49 0) ≤ x1 then (some m) else (if sm_ix (x1 >>> ((2 : Int32) &&& 31)) 4097 then (if sm_ix (x1 >>> ((2 : Int32) &&& 31)) 4097 then (some (sm_w2 m 50 (x1 >>> ((2 : Int32) &&& 31)).toNatClampNeg (((m.2 50 (x1 >>> ((2 : Int32) &&& 31)).toNatClampNeg) &&& (((65535 : Int64) <<< ((((x1 &&& (3 : Int32)) <<< ((4 : Int32) &&& 31))).toInt64 &&& 63)) ^^^ (-1 : Int64))) ||| (((if (65535 : Int32) < x2 then (65535 : Int32) else x2)).toInt64 <<< ((((x1 &&& (3 : Int32)) <<< ((4 : Int32) &&& 31))).toInt64 &&& 63))))) else none) else none))
def fX1_fewestMinutes_46 (k28 : Int32 → Int32 → Int32 → sm_S → Option (Int32 × sm_S)) : Nat → Int32 → Int32 → Int32 → Int32 → Int32 → sm_S → Option (Int32 × sm_S)
  | 0, _, _, _, _, _, _ => none
  | n + 1, v2, v3, v4, v5, v6, m =>
  if (m.1 3 0) ≤ v6 then (k28 v2 v3 (v4 + (-1 : Int32)) m) else (if sm_ix v6 10 then (if (m.1 36 (v6).toNatClampNeg) = v5 then ((fX1_placeOf v4 v6 m).bind fun r13 => if v4 = v3 then ((fX3_put_i2 r13 (0 : Int32) m).bind fun m19 => fX1_fewestMinutes_46 k28 n v2 v3 v4 v5 (v6 + (1 : Int32)) m19) else ((fX1_bestOn v4 v6 m).bind fun r15 => (fX3_put_i2 r13 r15 m).bind fun m17 => fX1_fewestMinutes_46 k28 n v2 v3 v4 v5 (v6 + (1 : Int32)) m17)) else (fX1_fewestMinutes_46 k28 n v2 v3 v4 v5 (v6 + (1 : Int32)) m)) else none)
def fX1_fewestMinutes_28 : Nat → Int32 → Int32 → Int32 → sm_S → Option (Int32 × sm_S)
  | 0, _, _, _, _ => none
  | n + 1, v2, v3, v4, m =>
  if v4 < 0 then ((fX1_placeOf (0 : Int32) v2 m).bind fun r6 => (fX3_at_i2 r6 m).bind fun r8 => if (65535 : Int32) ≤ r8 then (some ((-1 : Int32), m)) else (some (r8, m))) else ((fX1_partAfter v2 v4 m).bind fun r10 => fX1_fewestMinutes_46 (fX1_fewestMinutes_28 n) sm_fu v2 v3 v4 r10 (0 : Int32) m)
def fX1_fewestMinutes (x1 : Int32) (m : sm_S) : Option (Int32 × sm_S) :=
  (fX1_partAfter x1 (((1 : Int32) <<< ((m.1 34 1) &&& 31)) - (1 : Int32)) m).bind fun r2 => (fJ6_bitCount_0f7a4 r2 m).bind fun r4 => if r4 = (1 : Int32) then (fX1_fewestMinutes_28 sm_fu x1 (((1 : Int32) <<< ((m.1 34 1) &&& 31)) - (1 : Int32)) (((1 : Int32) <<< ((m.1 34 1) &&& 31)) - (1 : Int32)) m) else (some ((-1 : Int32), m))
def fX1_endsOfBest_15 : Nat → Int32 → Int32 → Int32 → Int32 → Int32 → Int32 → sm_S → Option (Int32)
  | 0, _, _, _, _, _, _, _ => none
  | n + 1, v2, v3, v4, v5, v6, v7, m =>
  if (m.1 3 0) ≤ v7 then (some v6) else (if ((v3 >>> (v7 &&& 31)) &&& (1 : Int32)) = 0 then (fX1_endsOfBest_15 n v2 v3 v4 v5 v6 (v7 + (1 : Int32)) m) else ((fX1_placeOf v2 v7 m).bind fun r3 => (fX3_at_i2 r3 m).bind fun r5 => if sm_ix v5 14 then ((fX1_minutesBy v2 v7 v4 (m.1 6 (v5).toNatClampNeg) m).bind fun r8 => if r8 = r5 then (if sm_ix v5 14 then (if sm_ix v5 14 then ((fX1_minutesBy v2 v7 v4 (m.1 7 (v5).toNatClampNeg) m).bind fun r16 => if r16 = r5 then (if sm_ix v5 14 then (fX1_endsOfBest_15 n v2 v3 v4 v5 ((v6 ||| ((1 : Int32) <<< ((m.1 7 (v5).toNatClampNeg) &&& 31))) ||| ((1 : Int32) <<< ((m.1 6 (v5).toNatClampNeg) &&& 31))) (v7 + (1 : Int32)) m) else none) else (fX1_endsOfBest_15 n v2 v3 v4 v5 (v6 ||| ((1 : Int32) <<< ((m.1 7 (v5).toNatClampNeg) &&& 31))) (v7 + (1 : Int32)) m)) else none) else none) else (if sm_ix v5 14 then ((fX1_minutesBy v2 v7 v4 (m.1 7 (v5).toNatClampNeg) m).bind fun r11 => if r11 = r5 then (if sm_ix v5 14 then (fX1_endsOfBest_15 n v2 v3 v4 v5 (v6 ||| ((1 : Int32) <<< ((m.1 6 (v5).toNatClampNeg) &&& 31))) (v7 + (1 : Int32)) m) else none) else (fX1_endsOfBest_15 n v2 v3 v4 v5 v6 (v7 + (1 : Int32)) m)) else none)) else none))
def fX1_endsOfBest (x1 : Int32) (x2 : Int32) (x3 : Int32) (m : sm_S) : Option (Int32) :=
  if sm_ix x3 14 then (fX1_endsOfBest_15 sm_fu x1 x2 x3 (m.1 35 (x3).toNatClampNeg) (0 : Int32) (0 : Int32) m) else none
def fX1_tellLeastOrder_30 (k15 : Int32 → Int32 → Int32 → sm_S → Option (sm_S)) : Nat → Int32 → Int32 → Int32 → Int32 → Int32 → sm_S → Option (sm_S)
  | 0, _, _, _, _, _, _ => none
  | n + 1, v4, v5, v6, v7, v8, m =>
  if (m.1 34 1) ≤ v8 then (k15 v4 v5 (v6 + (1 : Int32)) m) else (if v7 = 0 then (if ((v5 >>> (v8 &&& 31)) &&& (1 : Int32)) = 0 then ((fX1_endsOfBest v5 v4 v8 m).bind fun r4 => if r4 = 0 then (fX1_tellLeastOrder_30 k15 n v4 v5 v6 v7 (v8 + (1 : Int32)) m) else (if sm_ix v8 14 then ((fX5_add (m.1 35 (v8).toNatClampNeg) m).bind fun m7 => fX1_tellLeastOrder_30 k15 n r4 (v5 ||| ((1 : Int32) <<< (v8 &&& 31))) v6 (1 : Int32) (v8 + (1 : Int32)) m7) else none)) else (fX1_tellLeastOrder_30 k15 n v4 v5 v6 v7 (v8 + (1 : Int32)) m)) else (k15 v4 v5 (v6 + (1 : Int32)) m))
def fX1_tellLeastOrder_15 : Nat → Int32 → Int32 → Int32 → sm_S → Option (sm_S)
  | 0, _, _, _, _ => none
  | n + 1, v4, v5, v6, m =>
  if (m.1 34 1) ≤ v6 then (some m) else (fX1_tellLeastOrder_30 (fX1_tellLeastOrder_15 n) sm_fu v4 v5 v6 (0 : Int32) (0 : Int32) m)
def fX1_tellLeastOrder (x1 : Int32) (m : sm_S) : Option (sm_S) :=
  (fX5_clear m).bind fun m2 => fX1_tellLeastOrder_15 sm_fu ((1 : Int32) <<< (x1 &&& 31)) (0 : Int32) (0 : Int32) m2
def fX11_gates (x1 : Int32) (m : sm_S) : Option (Int32 × sm_S) :=
  (fX2_hasCorner x1 m).bind fun r2 => if r2 = 0 then (some ((-1 : Int32), m)) else ((fX1_prepare m).bind fun m4 => (fX1_fewestMinutes x1 m4).bind fun r6 => if 0 ≤ r6.1 then ((fX1_tellLeastOrder x1 r6.2).bind fun m8 => some (r6.1, m8)) else (some ((-2 : Int32), r6.2)))
def fX0_hear (x1 : Int32) (x2 : Int32) (m : sm_S) : Option (Int32 × sm_S) :=
  if (m.1 51 0) < (12 : Int32) then (if sm_ix (m.1 51 0) 12 then (if sm_ix (m.1 51 0) 12 then (some ((1 : Int32), (sm_w1 (sm_w1 (sm_w1 m 53 (m.1 51 0).toNatClampNeg x1) 54 (m.1 51 0).toNatClampNeg x2) 51 0 ((m.1 51 0) + (1 : Int32))))) else none) else none) else (some ((0 : Int32), m))
def fX11_heard (x1 : Int32) (x2 : Int32) (m : sm_S) : Option (Int32 × sm_S) :=
  (fX2_hasHedge x1 m).bind fun r2 => if r2 = 0 then (some ((-1 : Int32), m)) else (if x2 < 0 then (some ((-1 : Int32), m)) else (if x2 ≤ (6 : Int32) then ((fX0_hear x1 x2 m).bind fun r4 => if r4.1 = 0 then (some ((-1 : Int32), r4.2)) else (some ((r4.2.1 51 0), r4.2))) else (some ((-1 : Int32), m))))
def fX11_forget (m : sm_S) : Option (Int32 × sm_S) :=
  if (m.1 51 0) = 0 then (some ((-1 : Int32), m)) else (some (((m.1 51 0) - (1 : Int32)), (sm_w1 m 51 0 ((m.1 51 0) - (1 : Int32)))))
def fX0_all (m : sm_S) : Option (Int32) :=
  some (((1 : Int32) <<< ((m.1 51 0) &&& 31)) - (1 : Int32))
def fX0_cowsIn (x1 : Int32) (x2 : Int32) (m : sm_S) : Option (Int32) :=
  some ((x1 >>> (((2 : Int32) * ((5 : Int32) - x2)) &&& 31)) &&& (3 : Int32))
def fX0_cowsOver (x1 : Int32) (x2 : Int32) (m : sm_S) : Option (Int32) :=
  if sm_ix x1 14 then ((fX0_cowsIn x2 (m.1 9 (x1).toNatClampNeg) m).bind fun r3 => if sm_ix x1 14 then ((fX0_cowsIn x2 (m.1 10 (x1).toNatClampNeg) m).bind fun r6 => some (r3 + r6)) else none) else none
def fX0_isLie (x1 : Int32) (x2 : Int32) (m : sm_S) : Option (Int32) :=
  if sm_ix x2 12 then ((fX0_cowsOver (m.1 53 (x2).toNatClampNeg) x1 m).bind fun r3 => if sm_ix x2 12 then (if r3 = (m.1 54 (x2).toNatClampNeg) then (some (0 : Int32)) else (some (1 : Int32))) else none) else none
def fX0_allHold_3 : Nat → Int32 → Int32 → Int32 → sm_S → Option (Int32)
  | 0, _, _, _, _ => none
  | n + 1, v2, v3, v4, m =>
  if (m.1 51 0) ≤ v4 then (some (1 : Int32)) else (if ((v3 >>> (v4 &&& 31)) &&& (1 : Int32)) = 0 then (fX0_allHold_3 n v2 v3 (v4 + (1 : Int32)) m) else ((fX0_isLie v2 v4 m).bind fun r2 => if r2 = 0 then (fX0_allHold_3 n v2 v3 (v4 + (1 : Int32)) m) else (some (0 : Int32))))
def fX0_allHold (x1 : Int32) (x2 : Int32) (m : sm_S) : Option (Int32) :=
  fX0_allHold_3 sm_fu x1 x2 (0 : Int32) m
def fX0_findWays_27 : Nat → Int32 → Int32 → sm_S → Option (Int32 × sm_S)
  | 0, _, _, _ => none
  | n + 1, v2, v3, m =>
  if v3 < 0 then (some (v2, m)) else ((fX0_all m).bind fun r2 => (fX0_allHold v3 r2 m).bind fun r4 => if r4 = 0 then (fX0_findWays_27 n v2 (v3 + (-1 : Int32)) m) else (if sm_ix (v3 >>> ((6 : Int32) &&& 31)) 64 then (if sm_ix (v3 >>> ((6 : Int32) &&& 31)) 64 then (fX0_findWays_27 n (v2 + (1 : Int32)) (v3 + (-1 : Int32)) (sm_w1 (sm_w2 m 52 (v3 >>> ((6 : Int32) &&& 31)).toNatClampNeg ((m.2 52 (v3 >>> ((6 : Int32) &&& 31)).toNatClampNeg) ||| ((1 : Int64) <<< (((v3 &&& (63 : Int32))).toInt64 &&& 63)))) 51 1 v3)) else none) else none))
def fX0_findWays_2 : Nat → Int32 → sm_S → Option (Int32 × sm_S)
  | 0, _, _ => none
  | n + 1, v2, m =>
  if (64 : Int32) ≤ v2 then (fX0_findWays_27 sm_fu (0 : Int32) (4095 : Int32) m) else (if sm_ix v2 64 then (fX0_findWays_2 n (v2 + (1 : Int32)) (sm_w2 m 52 (v2).toNatClampNeg (0 : Int64))) else none)
def fX0_findWays (m : sm_S) : Option (Int32 × sm_S) :=
  fX0_findWays_2 sm_fu (0 : Int32) m
def fX0_asDigits_4 : Nat → Int32 → Int32 → Int32 → sm_S → Option (Int32)
  | 0, _, _, _, _ => none
  | n + 1, v0, v1, v2, m =>
  if (6 : Int32) ≤ v2 then (some v1) else ((fX0_cowsIn v0 v2 m).bind fun r2 => fX0_asDigits_4 n v0 (((10 : Int32) * v1) + r2) (v2 + (1 : Int32)) m)
def fX0_asDigits (x1 : Int32) (m : sm_S) : Option (Int32) :=
  fX0_asDigits_4 sm_fu x1 (0 : Int32) (0 : Int32) m
def fX11_lands (m : sm_S) : Option (Int32 × sm_S) :=
  (fX0_findWays m).bind fun r2 => (fX5_clear r2.2).bind fun m4 => if r2.1 ≤ 0 then (some (r2.1, m4)) else ((fX0_asDigits (m4.1 51 1) m4).bind fun r6 => (fX5_add r6 m4).bind fun m8 => some (r2.1, m8))
def fX0_isFound (x1 : Int32) (m : sm_S) : Option (Int32) :=
  if sm_ix (x1 >>> ((6 : Int32) &&& 31)) 64 then (if (lg_cmp (((m.2 52 (x1 >>> ((6 : Int32) &&& 31)).toNatClampNeg) >>> (((x1 &&& (63 : Int32))).toInt64 &&& 63)) &&& (1 : Int64)) (0 : Int64)) = 0 then (some (0 : Int32)) else (some (1 : Int32))) else none
def fX0_differences_4 : Nat → Int32 → Int32 → sm_S → Option (Int32)
  | 0, _, _, _ => none
  | n + 1, v1, v2, m =>
  if (4096 : Int32) ≤ v2 then (some v1) else ((fX0_isFound v2 m).bind fun r2 => if r2 = 0 then (fX0_differences_4 n v1 (v2 + (1 : Int32)) m) else (fX0_differences_4 n (v1 ||| (v2 ^^^ (m.1 51 1))) (v2 + (1 : Int32)) m))
def fX0_differences (m : sm_S) : Option (Int32) :=
  fX0_differences_4 sm_fu (0 : Int32) (0 : Int32) m
def fX11_sure_38 : Nat → Int32 → Int32 → Int32 → sm_S → Option (Int32 × sm_S)
  | 0, _, _, _, _ => none
  | n + 1, v2, v3, v4, m =>
  if (6 : Int32) ≤ v4 then (some (v3, m)) else ((fX0_cowsIn v2 v4 m).bind fun r8 => if r8 = 0 then ((fX0_cowsIn (m.1 51 1) v4 m).bind fun r10 => (fX5_add r10 m).bind fun m12 => fX11_sure_38 n v2 (v3 ||| ((1 : Int32) <<< (v4 &&& 31))) (v4 + (1 : Int32)) m12) else (fX11_sure_38 n v2 v3 (v4 + (1 : Int32)) m))
def fX11_sure (m : sm_S) : Option (Int32 × sm_S) :=
  (fX0_findWays m).bind fun r2 => (fX5_clear r2.2).bind fun m4 => if r2.1 = 0 then (some ((0 : Int32), m4)) else ((fX0_differences m4).bind fun r6 => fX11_sure_38 sm_fu r6 (0 : Int32) (0 : Int32) m4)
def fX0_mostLeft_26 : Nat → Int32 → Int32 → Int32 → sm_S → Option (Int32 × sm_S)
  | 0, _, _, _, _ => none
  | n + 1, v2, v3, v4, m =>
  if (4096 : Int32) ≤ v4 then (some (v3, m)) else ((fX0_isFound v4 m).bind fun r2 => if r2 = 0 then (fX0_mostLeft_26 n v2 v3 (v4 + (1 : Int32)) m) else ((fX0_cowsOver v2 v4 m).bind fun r4 => if sm_ix r4 7 then (if sm_ix r4 7 then (if sm_ix r4 7 then (fX0_mostLeft_26 n v2 (if v3 < ((sm_w1 m 55 (r4).toNatClampNeg ((m.1 55 (r4).toNatClampNeg) + (1 : Int32))).1 55 (r4).toNatClampNeg) then ((sm_w1 m 55 (r4).toNatClampNeg ((m.1 55 (r4).toNatClampNeg) + (1 : Int32))).1 55 (r4).toNatClampNeg) else v3) (v4 + (1 : Int32)) (sm_w1 m 55 (r4).toNatClampNeg ((m.1 55 (r4).toNatClampNeg) + (1 : Int32)))) else none) else none) else none))
def fX0_mostLeft_2 : Nat → Int32 → Int32 → sm_S → Option (Int32 × sm_S)
  | 0, _, _, _ => none
  | n + 1, v2, v3, m =>
  if (6 : Int32) < v3 then (fX0_mostLeft_26 sm_fu v2 (0 : Int32) (0 : Int32) m) else (if sm_ix v3 7 then (fX0_mostLeft_2 n v2 (v3 + (1 : Int32)) (sm_w1 m 55 (v3).toNatClampNeg (0 : Int32))) else none)
def fX0_mostLeft (x1 : Int32) (m : sm_S) : Option (Int32 × sm_S) :=
  fX0_mostLeft_2 sm_fu x1 (0 : Int32) m
def fX11_next_38 : Nat → Int32 → Int32 → Int32 → sm_S → Option (Int32 × sm_S)
  | 0, _, _, _, _ => none
  | n + 1, v2, v3, v4, m =>
  if (m.1 3 1) ≤ v4 then ((fX5_tell v3 m).bind fun m4 => some (v2, m4)) else ((fX0_mostLeft v4 m).bind fun r6 => if v3 ≤ r6.1 then (fX11_next_38 n v2 v3 (v4 + (1 : Int32)) r6.2) else (fX11_next_38 n v4 r6.1 (v4 + (1 : Int32)) r6.2))
def fX11_next (m : sm_S) : Option (Int32 × sm_S) :=
  (fX0_findWays m).bind fun r2 => if r2.1 = 0 then (some ((-2 : Int32), r2.2)) else (if (r2.2.1 3 1) = 0 then (some ((-2 : Int32), r2.2)) else (fX11_next_38 sm_fu (0 : Int32) (4097 : Int32) (0 : Int32) r2.2))
def fX0_liesOf_5 : Nat → Int32 → Int32 → Int32 → sm_S → Option (Int32)
  | 0, _, _, _, _ => none
  | n + 1, v2, v3, v4, m =>
  if (m.1 51 0) ≤ v4 then (some v3) else ((fX0_isLie v2 v4 m).bind fun r2 => if r2 = 0 then (fX0_liesOf_5 n v2 v3 (v4 + (1 : Int32)) m) else (fX0_liesOf_5 n v2 (v3 ||| ((1 : Int32) <<< (v4 &&& 31))) (v4 + (1 : Int32)) m))
def fX0_liesOf (x1 : Int32) (m : sm_S) : Option (Int32) :=
  fX0_liesOf_5 sm_fu x1 (0 : Int32) (0 : Int32) m
def fX0_fewestLies_7 : Nat → Int32 → Int32 → sm_S → Option (Int32)
  | 0, _, _, _ => none
  | n + 1, v2, v3, m =>
  if (4096 : Int32) ≤ v3 then (some v2) else ((fX0_liesOf v3 m).bind fun r4 => (fJ6_bitCount_0f7a4 r4 m).bind fun r6 => (fJ6_bitCount_0f7a4 v2 m).bind fun r8 => if (r6 - r8) < 0 then (fX0_fewestLies_7 n r4 (v3 + (1 : Int32)) m) else (if (r6 - r8) = 0 then (if v2 ≤ r4 then (fX0_fewestLies_7 n v2 (v3 + (1 : Int32)) m) else (fX0_fewestLies_7 n r4 (v3 + (1 : Int32)) m)) else (fX0_fewestLies_7 n v2 (v3 + (1 : Int32)) m)))
def fX0_fewestLies (m : sm_S) : Option (Int32) :=
  (fX0_all m).bind fun r2 => fX0_fewestLies_7 sm_fu r2 (0 : Int32) m
def fX11_lies (m : sm_S) : Option (Int32 × sm_S) :=
  (fX0_fewestLies m).bind fun r2 => (fX5_tell r2 m).bind fun m4 => (fJ6_bitCount_0f7a4 r2 m4).bind fun r6 => some (r6, m4)
def fX0_hasWay_2 : Nat → Int32 → Int32 → sm_S → Option (Int32)
  | 0, _, _, _ => none
  | n + 1, v2, v3, m =>
  if (4096 : Int32) ≤ v3 then (some (0 : Int32)) else ((fX0_allHold v3 v2 m).bind fun r2 => if r2 = 0 then (fX0_hasWay_2 n v2 (v3 + (1 : Int32)) m) else (some (1 : Int32)))
def fX0_hasWay (x1 : Int32) (m : sm_S) : Option (Int32) :=
  fX0_hasWay_2 sm_fu x1 (0 : Int32) m
def fX0_firstWithoutWays_2 : Nat → Int32 → sm_S → Option (Int32)
  | 0, _, _ => none
  | n + 1, v2, m =>
  if (m.1 51 0) ≤ v2 then (some (-1 : Int32)) else ((fX0_hasWay (((2 : Int32) <<< (v2 &&& 31)) - (1 : Int32)) m).bind fun r2 => if r2 = 0 then (some v2) else (fX0_firstWithoutWays_2 n (v2 + (1 : Int32)) m))
def fX0_firstWithoutWays (m : sm_S) : Option (Int32) :=
  fX0_firstWithoutWays_2 sm_fu (0 : Int32) m
def fX0_firstAgainst_2 : Nat → Int32 → Int32 → sm_S → Option (Int32)
  | 0, _, _, _ => none
  | n + 1, v2, v3, m =>
  if v2 ≤ v3 then (some (-1 : Int32)) else ((fX0_hasWay (((1 : Int32) <<< (v3 &&& 31)) ||| ((1 : Int32) <<< (v2 &&& 31))) m).bind fun r2 => if r2 = 0 then (some v3) else (fX0_firstAgainst_2 n v2 (v3 + (1 : Int32)) m))
def fX0_firstAgainst (x1 : Int32) (m : sm_S) : Option (Int32) :=
  fX0_firstAgainst_2 sm_fu x1 (0 : Int32) m
def fX11_quarrel (m : sm_S) : Option (Int32 × sm_S) :=
  (fX0_firstWithoutWays m).bind fun r2 => if 0 ≤ r2 then ((fX0_firstAgainst r2 m).bind fun r4 => (fX5_tell r4 m).bind fun m6 => some (r2, m6)) else (some ((-2 : Int32), m))
def fX6_copyFrom_i1_18 : Nat → Int32 → sm_S → Option (sm_S)
  | 0, _, _ => none
  | n + 1, v2, m =>
  if (14 : Int32) ≤ v2 then (some m) else (if sm_ix v2 14 then (if sm_ix v2 14 then (fX6_copyFrom_i1_18 n (v2 + (1 : Int32)) (sm_w1 m 67 (v2).toNatClampNeg (m.1 17 (v2).toNatClampNeg))) else none) else none)
def fX6_copyFrom_i1 (m : sm_S) : Option (sm_S) :=
  fX6_copyFrom_i1_18 sm_fu (0 : Int32) (sm_w1 (sm_w1 m 66 0 (m.1 16 0)) 66 1 (m.1 16 1))
def fX6_copyFrom_i2_18 : Nat → Int32 → sm_S → Option (sm_S)
  | 0, _, _ => none
  | n + 1, v2, m =>
  if (14 : Int32) ≤ v2 then (some m) else (if sm_ix v2 14 then (if sm_ix v2 14 then (fX6_copyFrom_i2_18 n (v2 + (1 : Int32)) (sm_w1 m 69 (v2).toNatClampNeg (m.1 17 (v2).toNatClampNeg))) else none) else none)
def fX6_copyFrom_i2 (m : sm_S) : Option (sm_S) :=
  fX6_copyFrom_i2_18 sm_fu (0 : Int32) (sm_w1 (sm_w1 m 68 0 (m.1 16 0)) 68 1 (m.1 16 1))
def fX6_copyFrom_i3_18 : Nat → Int32 → sm_S → Option (sm_S)
  | 0, _, _ => none
  | n + 1, v2, m =>
  if (14 : Int32) ≤ v2 then (some m) else (if sm_ix v2 14 then (if sm_ix v2 14 then (fX6_copyFrom_i3_18 n (v2 + (1 : Int32)) (sm_w1 m 71 (v2).toNatClampNeg (m.1 17 (v2).toNatClampNeg))) else none) else none)
def fX6_copyFrom_i3 (m : sm_S) : Option (sm_S) :=
  fX6_copyFrom_i3_18 sm_fu (0 : Int32) (sm_w1 (sm_w1 m 70 0 (m.1 16 0)) 70 1 (m.1 16 1))
def fX11_keep (x1 : Int32) (m : sm_S) : Option (Int32 × sm_S) :=
  if x1 < 0 then (some ((0 : Int32), m)) else (if x1 < (3 : Int32) then (if x1 = (0 : Int32) then ((fX6_copyFrom_i1 m).bind fun m2 => some ((1 : Int32), (sm_w1 m2 57 0 (vp_nar .boolean (1 : Int32))))) else (if x1 = (1 : Int32) then ((fX6_copyFrom_i2 m).bind fun m5 => some ((1 : Int32), (sm_w1 m5 57 1 (vp_nar .boolean (1 : Int32))))) else (if x1 = (2 : Int32) then ((fX6_copyFrom_i3 m).bind fun m8 => some ((1 : Int32), (sm_w1 m8 57 2 (vp_nar .boolean (1 : Int32))))) else none))) else (some ((0 : Int32), m)))
def fX6_copyFrom_i4_18 : Nat → Int32 → sm_S → Option (sm_S)
  | 0, _, _ => none
  | n + 1, v2, m =>
  if (14 : Int32) ≤ v2 then (some m) else (if sm_ix v2 14 then (if sm_ix v2 14 then (fX6_copyFrom_i4_18 n (v2 + (1 : Int32)) (sm_w1 m 17 (v2).toNatClampNeg (m.1 67 (v2).toNatClampNeg))) else none) else none)
def fX6_copyFrom_i4 (m : sm_S) : Option (sm_S) :=
  fX6_copyFrom_i4_18 sm_fu (0 : Int32) (sm_w1 (sm_w1 m 16 0 (m.1 66 0)) 16 1 (m.1 66 1))
def fX6_copyFrom_i5_18 : Nat → Int32 → sm_S → Option (sm_S)
  | 0, _, _ => none
  | n + 1, v2, m =>
  if (14 : Int32) ≤ v2 then (some m) else (if sm_ix v2 14 then (if sm_ix v2 14 then (fX6_copyFrom_i5_18 n (v2 + (1 : Int32)) (sm_w1 m 17 (v2).toNatClampNeg (m.1 69 (v2).toNatClampNeg))) else none) else none)
def fX6_copyFrom_i5 (m : sm_S) : Option (sm_S) :=
  fX6_copyFrom_i5_18 sm_fu (0 : Int32) (sm_w1 (sm_w1 m 16 0 (m.1 68 0)) 16 1 (m.1 68 1))
def fX6_copyFrom_i6_18 : Nat → Int32 → sm_S → Option (sm_S)
  | 0, _, _ => none
  | n + 1, v2, m =>
  if (14 : Int32) ≤ v2 then (some m) else (if sm_ix v2 14 then (if sm_ix v2 14 then (fX6_copyFrom_i6_18 n (v2 + (1 : Int32)) (sm_w1 m 17 (v2).toNatClampNeg (m.1 71 (v2).toNatClampNeg))) else none) else none)
def fX6_copyFrom_i6 (m : sm_S) : Option (sm_S) :=
  fX6_copyFrom_i6_18 sm_fu (0 : Int32) (sm_w1 (sm_w1 m 16 0 (m.1 70 0)) 16 1 (m.1 70 1))
def fX11_again (x1 : Int32) (m : sm_S) : Option (Int32 × sm_S) :=
  if x1 < 0 then (some ((0 : Int32), m)) else (if (3 : Int32) ≤ x1 then (some ((0 : Int32), m)) else (if sm_ix x1 3 then (if (m.1 57 (x1).toNatClampNeg) = 0 then (some ((0 : Int32), m)) else (if x1 = (0 : Int32) then ((fX6_copyFrom_i4 m).bind fun m3 => some ((1 : Int32), (sm_w1 m3 20 0 (0 : Int32)))) else (if x1 = (1 : Int32) then ((fX6_copyFrom_i5 m).bind fun m6 => some ((1 : Int32), (sm_w1 m6 20 0 (0 : Int32)))) else (if x1 = (2 : Int32) then ((fX6_copyFrom_i6 m).bind fun m9 => some ((1 : Int32), (sm_w1 m9 20 0 (0 : Int32)))) else none)))) else none))
def fX11_count (x1 : Int32) (m : sm_S) : Option (Int32) :=
  if x1 = (0 : Int32) then (some (m.1 3 0)) else (if x1 = (1 : Int32) then (some (m.1 3 1)) else (if x1 = (2 : Int32) then ((fX11_walkersCorner m).bind fun r5 => some r5) else (if x1 = (3 : Int32) then (some (m.1 16 1)) else (if x1 = (4 : Int32) then (some (m.1 20 0)) else (if x1 = (5 : Int32) then (some (m.1 51 0)) else (if x1 = (6 : Int32) then (some (m.1 14 1)) else (if x1 = (7 : Int32) then (some (m.1 1 1)) else (if x1 = (8 : Int32) then (some (m.1 3 2)) else (if x1 = (9 : Int32) then (some (m.1 3 3)) else (some (-1 : Int32)))))))))))
def fX11_row (x1 : Int32) (m : sm_S) : Option (Int32) :=
  if x1 < 0 then none else (if x1 < (m.1 14 1) then (if sm_ix x1 14 then (some (m.1 15 (x1).toNatClampNeg)) else none) else none)
def fX12_sign_18 : Nat → Int32 → Int32 → sm_S → Option (Int32 × sm_S)
  | 0, _, _, _ => none
  | n + 1, v1, v2, m =>
  if (4 : Int32) ≤ v2 then (some (((m.1 72 21) + (4 : Int32)), (sm_w1 m 72 21 ((m.1 72 21) + (4 : Int32))))) else (if sm_ix ((m.1 72 21) + v2) 80 then (fX12_sign_18 n v1 (v2 + (1 : Int32)) (sm_w1 m 84 ((m.1 72 21) + v2).toNatClampNeg ((v1 >>> (((24 : Int32) - ((8 : Int32) * v2)) &&& 31)) &&& (255 : Int32)))) else none)
def fX12_sign (x1 : Int32) (m : sm_S) : Option (Int32 × sm_S) :=
  if (m.1 72 21) ≤ (76 : Int32) then (fX12_sign_18 sm_fu x1 (0 : Int32) (sm_w1 m 72 0 (0 : Int32))) else (some ((-1 : Int32), (sm_w1 m 72 0 (0 : Int32))))
def fX12_in (x1 : Int64) (x2 : Int64) (x3 : Int64) (m : sm_S) : Option (Int32) :=
  if (lg_cmp x1 x2) < 0 then (some (0 : Int32)) else (if 0 < (lg_cmp x1 x3) then (some (0 : Int32)) else (some (1 : Int32)))
def fX12_end (x1 : Int32) (m : sm_S) : Option (Int32 × sm_S) :=
  (fX12_in (x1).toInt64 (0 : Int64) ((m.1 72 21)).toInt64 (sm_w1 m 72 0 (0 : Int32))).bind fun r2 => if r2 = 0 then (some ((0 : Int32), (sm_w1 m 72 0 (0 : Int32)))) else (some ((1 : Int32), (sm_w1 (sm_w1 m 72 0 (0 : Int32)) 72 21 x1)))
def fX12_begins (x1 : Int32) (m : sm_S) : Option (Int32 × sm_S) :=
  some ((m.1 72 21), (sm_w1 (sm_w1 (sm_w1 m 72 21 (0 : Int32)) 72 22 (0 : Int32)) 72 23 (if x1 < (m.1 72 21) then x1 else (m.1 72 21))))
def fX12_faultOf (x1 : Int32) (x2 : Int32) (x3 : Int32) (m : sm_S) : Option (Int32) :=
  if x3 = 0 then (if x1 ≤ x2 then (some ((-1 : Int32) - (m.1 72 22))) else (if (m.1 72 22) < x2 then (some ((-1 : Int32) - (m.1 72 22))) else (some ((-1 : Int32) - x2)))) else (if (m.1 72 22) = (m.1 72 23) then (if x1 ≤ x2 then (some (0 : Int32)) else (some ((-1 : Int32) - x2))) else (if x1 ≤ x2 then (some ((-1 : Int32) - (m.1 72 22))) else (if (m.1 72 22) < x2 then (some ((-1 : Int32) - (m.1 72 22))) else (some ((-1 : Int32) - x2)))))
def fX12_isAt (x1 : Int32) (m : sm_S) : Option (Int32) :=
  if (m.1 72 23) ≤ (m.1 72 22) then (some (0 : Int32)) else (if sm_ix (m.1 72 22) 80 then (if (m.1 84 (m.1 72 22).toNatClampNeg) = x1 then (some (1 : Int32)) else (some (0 : Int32))) else none)
def fX12_cornerBut (x1 : Int32) (m : sm_S) : Option (Int32 × sm_S) :=
  if (m.1 72 23) ≤ (m.1 72 22) then (some ((-1 : Int32), m)) else (if sm_ix (m.1 72 22) 80 then ((fX12_in (((m.1 84 (m.1 72 22).toNatClampNeg) - (97 : Int32))).toInt64 (0 : Int64) (((m.1 72 24) - (1 : Int32))).toInt64 m).bind fun r3 => if r3 = 0 then (some ((-1 : Int32), m)) else (if sm_ix (m.1 72 22) 80 then (if ((m.1 84 (m.1 72 22).toNatClampNeg) - (97 : Int32)) = x1 then (some ((-1 : Int32), m)) else (if sm_ix (((m.1 72 22) + (1 : Int32)) - (1 : Int32)) 80 then (some (((m.1 84 (((m.1 72 22) + (1 : Int32)) - (1 : Int32)).toNatClampNeg) - (97 : Int32)), (sm_w1 m 72 22 ((m.1 72 22) + (1 : Int32))))) else none)) else none)) else none)
def fX12_isDigit (m : sm_S) : Option (Int32) :=
  if (m.1 72 23) ≤ (m.1 72 22) then (some (0 : Int32)) else (if sm_ix (m.1 72 22) 80 then ((fX12_in ((m.1 84 (m.1 72 22).toNatClampNeg)).toInt64 (48 : Int64) (57 : Int64) m).bind fun r3 => if r3 = 0 then (some (0 : Int32)) else (some (1 : Int32))) else none)
def fX12_digit (x1 : Int32) (m : sm_S) : Option (Int32 × sm_S) :=
  (fX12_isDigit m).bind fun r2 => if r2 = 0 then (some ((-1 : Int32), m)) else (if sm_ix (m.1 72 22) 80 then (if ((m.1 84 (m.1 72 22).toNatClampNeg) - (48 : Int32)) ≤ x1 then (if sm_ix (((m.1 72 22) + (1 : Int32)) - (1 : Int32)) 80 then (some (((m.1 84 (((m.1 72 22) + (1 : Int32)) - (1 : Int32)).toNatClampNeg) - (48 : Int32)), (sm_w1 m 72 22 ((m.1 72 22) + (1 : Int32))))) else none) else (some ((-1 : Int32), m))) else none)
def fX12_number (x1 : Int32) (x2 : Int32) (m : sm_S) : Option (Int32 × sm_S) :=
  (fX12_digit (9 : Int32) m).bind fun r2 => if 0 ≤ r2.1 then ((fX12_isDigit r2.2).bind fun r4 => if r4 = 0 then ((fX12_in (r2.1).toInt64 (x1).toInt64 (x2).toInt64 r2.2).bind fun r6 => if r6 = 0 then (some ((-1 : Int32), (sm_w1 r2.2 72 22 ((r2.2.1 72 22) - (1 : Int32))))) else (some (r2.1, r2.2))) else ((fX12_digit (9 : Int32) r2.2).bind fun r8 => (fX12_in ((((10 : Int32) * r2.1) + r8.1)).toInt64 (x1).toInt64 (x2).toInt64 r8.2).bind fun r10 => if r10 = 0 then (some ((-1 : Int32), (sm_w1 r8.2 72 22 ((r8.2.1 72 22) - (1 : Int32))))) else (some ((((10 : Int32) * r2.1) + r8.1), r8.2)))) else (some ((-1 : Int32), r2.2))
def fX12_flag (x1 : Int32) (m : sm_S) : Option (Int32) :=
  if x1 = 0 then (some (0 : Int32)) else (some (1 : Int32))
def fX12_takes (x1 : Int32) (m : sm_S) : Option (Int32 × sm_S) :=
  if (m.1 72 23) ≤ (m.1 72 22) then ((fX12_flag (0 : Int32) m).bind fun r2 => some ((0 : Int32), (sm_w1 m 72 22 ((m.1 72 22) + r2)))) else (if sm_ix (m.1 72 22) 80 then (if (m.1 84 (m.1 72 22).toNatClampNeg) = x1 then ((fX12_flag (1 : Int32) m).bind fun r7 => some ((1 : Int32), (sm_w1 m 72 22 ((m.1 72 22) + r7)))) else ((fX12_flag (0 : Int32) m).bind fun r5 => some ((0 : Int32), (sm_w1 m 72 22 ((m.1 72 22) + r5))))) else none)
def fX12_readsHedge (m : sm_S) : Option (Int32 × sm_S) :=
  if (m.1 72 25) = (14 : Int32) then (some ((0 : Int32), m)) else ((fX12_cornerBut (-1 : Int32) m).bind fun r2 => if sm_ix (m.1 72 25) 14 then (if sm_ix (m.1 72 25) 14 then (if 0 ≤ ((sm_w1 r2.2 76 (m.1 72 25).toNatClampNeg r2.1).1 76 (m.1 72 25).toNatClampNeg) then (if sm_ix (m.1 72 25) 14 then ((fX12_cornerBut ((sm_w1 r2.2 76 (m.1 72 25).toNatClampNeg r2.1).1 76 (m.1 72 25).toNatClampNeg) (sm_w1 r2.2 76 (m.1 72 25).toNatClampNeg r2.1)).bind fun r7 => if sm_ix (m.1 72 25) 14 then (if sm_ix (m.1 72 25) 14 then (if 0 ≤ ((sm_w1 r7.2 77 (m.1 72 25).toNatClampNeg r7.1).1 77 (m.1 72 25).toNatClampNeg) then ((fX12_number (1 : Int32) (20 : Int32) (sm_w1 r7.2 77 (m.1 72 25).toNatClampNeg r7.1)).bind fun r11 => if sm_ix (m.1 72 25) 14 then (if sm_ix (m.1 72 25) 14 then (if ((sm_w1 r11.2 78 (m.1 72 25).toNatClampNeg r11.1).1 78 (m.1 72 25).toNatClampNeg) < 0 then (some ((0 : Int32), (sm_w1 r11.2 78 (m.1 72 25).toNatClampNeg r11.1))) else ((fX12_takes (58 : Int32) (sm_w1 r11.2 78 (m.1 72 25).toNatClampNeg r11.1)).bind fun r15 => if r15.1 = 0 then (some ((0 : Int32), r15.2)) else ((fX12_digit (5 : Int32) r15.2).bind fun r17 => if sm_ix (m.1 72 25) 14 then (if sm_ix (m.1 72 25) 14 then (if 0 ≤ ((sm_w1 r17.2 79 (m.1 72 25).toNatClampNeg r17.1).1 79 (m.1 72 25).toNatClampNeg) then ((fX12_digit (5 : Int32) (sm_w1 r17.2 79 (m.1 72 25).toNatClampNeg r17.1)).bind fun r21 => if sm_ix (m.1 72 25) 14 then (if sm_ix (m.1 72 25) 14 then (if 0 ≤ ((sm_w1 r21.2 80 (m.1 72 25).toNatClampNeg r21.1).1 80 (m.1 72 25).toNatClampNeg) then ((fX12_takes (119 : Int32) (sm_w1 r21.2 80 (m.1 72 25).toNatClampNeg r21.1)).bind fun r25 => if r25.1 = 0 then (if sm_ix (m.1 72 25) 14 then (if sm_ix (m.1 72 25) 14 then (if 0 ≤ ((sm_w1 r25.2 81 (m.1 72 25).toNatClampNeg (1 : Int32)).1 81 (m.1 72 25).toNatClampNeg) then ((fX12_takes (126 : Int32) (sm_w1 r25.2 81 (m.1 72 25).toNatClampNeg (1 : Int32))).bind fun r29 => if r29.1 = 0 then (if sm_ix (m.1 72 25) 14 then (if sm_ix (m.1 72 25) 14 then (if 0 ≤ ((sm_w1 r29.2 82 (m.1 72 25).toNatClampNeg (0 : Int32)).1 82 (m.1 72 25).toNatClampNeg) then ((fX12_takes (103 : Int32) (sm_w1 r29.2 82 (m.1 72 25).toNatClampNeg (0 : Int32))).bind fun r33 => if r33.1 = 0 then (if sm_ix (m.1 72 25) 14 then (some ((1 : Int32), (sm_w1 (sm_w1 (sm_w1 r33.2 72 26 ((r29.2.1 72 26) ||| (0 : Int32))) 83 (m.1 72 25).toNatClampNeg (-1 : Int32)) 72 25 ((r33.2.1 72 25) + (1 : Int32))))) else none) else (if sm_ix (m.1 72 25) 14 then (some ((1 : Int32), (sm_w1 (sm_w1 (sm_w1 r33.2 72 26 ((r29.2.1 72 26) ||| ((1 : Int32) <<< ((m.1 72 25) &&& 31)))) 83 (m.1 72 25).toNatClampNeg (-1 : Int32)) 72 25 ((r33.2.1 72 25) + (1 : Int32))))) else none)) else (some ((0 : Int32), (sm_w1 r29.2 82 (m.1 72 25).toNatClampNeg (0 : Int32))))) else none) else none) else ((fX12_digit (9 : Int32) r29.2).bind fun r37 => if sm_ix (m.1 72 25) 14 then (if sm_ix (m.1 72 25) 14 then (if 0 ≤ ((sm_w1 r37.2 82 (m.1 72 25).toNatClampNeg r37.1).1 82 (m.1 72 25).toNatClampNeg) then ((fX12_takes (103 : Int32) (sm_w1 r37.2 82 (m.1 72 25).toNatClampNeg r37.1)).bind fun r41 => if r41.1 = 0 then (if sm_ix (m.1 72 25) 14 then (some ((1 : Int32), (sm_w1 (sm_w1 (sm_w1 r41.2 72 26 ((r37.2.1 72 26) ||| (0 : Int32))) 83 (m.1 72 25).toNatClampNeg (-1 : Int32)) 72 25 ((r41.2.1 72 25) + (1 : Int32))))) else none) else (if sm_ix (m.1 72 25) 14 then (some ((1 : Int32), (sm_w1 (sm_w1 (sm_w1 r41.2 72 26 ((r37.2.1 72 26) ||| ((1 : Int32) <<< ((m.1 72 25) &&& 31)))) 83 (m.1 72 25).toNatClampNeg (-1 : Int32)) 72 25 ((r41.2.1 72 25) + (1 : Int32))))) else none)) else (some ((0 : Int32), (sm_w1 r37.2 82 (m.1 72 25).toNatClampNeg r37.1)))) else none) else none)) else (some ((0 : Int32), (sm_w1 r25.2 81 (m.1 72 25).toNatClampNeg (1 : Int32))))) else none) else none) else ((fX12_digit (9 : Int32) r25.2).bind fun r45 => if sm_ix (m.1 72 25) 14 then (if sm_ix (m.1 72 25) 14 then (if 0 ≤ ((sm_w1 r45.2 81 (m.1 72 25).toNatClampNeg r45.1).1 81 (m.1 72 25).toNatClampNeg) then ((fX12_takes (126 : Int32) (sm_w1 r45.2 81 (m.1 72 25).toNatClampNeg r45.1)).bind fun r49 => if r49.1 = 0 then (if sm_ix (m.1 72 25) 14 then (if sm_ix (m.1 72 25) 14 then (if 0 ≤ ((sm_w1 r49.2 82 (m.1 72 25).toNatClampNeg (0 : Int32)).1 82 (m.1 72 25).toNatClampNeg) then ((fX12_takes (103 : Int32) (sm_w1 r49.2 82 (m.1 72 25).toNatClampNeg (0 : Int32))).bind fun r53 => if r53.1 = 0 then (if sm_ix (m.1 72 25) 14 then (some ((1 : Int32), (sm_w1 (sm_w1 (sm_w1 r53.2 72 26 ((r49.2.1 72 26) ||| (0 : Int32))) 83 (m.1 72 25).toNatClampNeg (-1 : Int32)) 72 25 ((r53.2.1 72 25) + (1 : Int32))))) else none) else (if sm_ix (m.1 72 25) 14 then (some ((1 : Int32), (sm_w1 (sm_w1 (sm_w1 r53.2 72 26 ((r49.2.1 72 26) ||| ((1 : Int32) <<< ((m.1 72 25) &&& 31)))) 83 (m.1 72 25).toNatClampNeg (-1 : Int32)) 72 25 ((r53.2.1 72 25) + (1 : Int32))))) else none)) else (some ((0 : Int32), (sm_w1 r49.2 82 (m.1 72 25).toNatClampNeg (0 : Int32))))) else none) else none) else ((fX12_digit (9 : Int32) r49.2).bind fun r57 => if sm_ix (m.1 72 25) 14 then (if sm_ix (m.1 72 25) 14 then (if 0 ≤ ((sm_w1 r57.2 82 (m.1 72 25).toNatClampNeg r57.1).1 82 (m.1 72 25).toNatClampNeg) then ((fX12_takes (103 : Int32) (sm_w1 r57.2 82 (m.1 72 25).toNatClampNeg r57.1)).bind fun r61 => if r61.1 = 0 then (if sm_ix (m.1 72 25) 14 then (some ((1 : Int32), (sm_w1 (sm_w1 (sm_w1 r61.2 72 26 ((r57.2.1 72 26) ||| (0 : Int32))) 83 (m.1 72 25).toNatClampNeg (-1 : Int32)) 72 25 ((r61.2.1 72 25) + (1 : Int32))))) else none) else (if sm_ix (m.1 72 25) 14 then (some ((1 : Int32), (sm_w1 (sm_w1 (sm_w1 r61.2 72 26 ((r57.2.1 72 26) ||| ((1 : Int32) <<< ((m.1 72 25) &&& 31)))) 83 (m.1 72 25).toNatClampNeg (-1 : Int32)) 72 25 ((r61.2.1 72 25) + (1 : Int32))))) else none)) else (some ((0 : Int32), (sm_w1 r57.2 82 (m.1 72 25).toNatClampNeg r57.1)))) else none) else none)) else (some ((0 : Int32), (sm_w1 r45.2 81 (m.1 72 25).toNatClampNeg r45.1)))) else none) else none)) else (some ((0 : Int32), (sm_w1 r21.2 80 (m.1 72 25).toNatClampNeg r21.1)))) else none) else none) else (some ((0 : Int32), (sm_w1 r17.2 79 (m.1 72 25).toNatClampNeg r17.1)))) else none) else none))) else none) else none) else (some ((0 : Int32), (sm_w1 r7.2 77 (m.1 72 25).toNatClampNeg r7.1)))) else none) else none) else none) else (some ((0 : Int32), (sm_w1 r2.2 76 (m.1 72 25).toNatClampNeg r2.1)))) else none) else none)
def fX12_readsCorner (m : sm_S) : Option (Int32 × sm_S) :=
  if (m.1 72 24) = (10 : Int32) then (some ((0 : Int32), m)) else ((fX12_takes (64 : Int32) m).bind fun r2 => if r2.1 = 0 then (some ((0 : Int32), r2.2)) else ((fX12_digit (9 : Int32) r2.2).bind fun r4 => if 0 ≤ r4.1 then ((fX12_digit (9 : Int32) r4.2).bind fun r6 => if 0 ≤ r6.1 then (if sm_ix (r6.2.1 72 24) 10 then (if sm_ix (r6.2.1 72 24) 10 then (some ((1 : Int32), (sm_w1 (sm_w1 (sm_w1 r6.2 74 (r6.2.1 72 24).toNatClampNeg r4.1) 75 (r6.2.1 72 24).toNatClampNeg r6.1) 72 24 ((r6.2.1 72 24) + (1 : Int32))))) else none) else none) else (some ((0 : Int32), r6.2))) else (some ((0 : Int32), r4.2))))
def fX12_land_48 : Nat → Int32 → Int32 → Int32 → Int32 → sm_S → Option (Int32 × sm_S)
  | 0, _, _, _, _, _ => none
  | n + 1, v1, v2, v3, v4, m =>
  if v4 = 0 then ((fX12_faultOf v1 (76 : Int32) v3 m).bind fun r4 => if 0 ≤ r4 then (if v1 ≤ 0 then (some (v2, (sm_w1 (sm_w1 (sm_w1 (sm_w1 m 72 3 (m.1 72 24)) 72 6 (m.1 72 25)) 72 14 ((m.1 72 14) ||| (m.1 72 26))) 72 27 (m.1 72 27)))) else (some (v2, (sm_w1 (sm_w1 (sm_w1 (sm_w1 m 72 3 (m.1 72 24)) 72 6 (m.1 72 25)) 72 14 ((m.1 72 14) ||| (m.1 72 26))) 72 27 (0 : Int32))))) else (some (r4, m))) else ((fX12_isAt (64 : Int32) m).bind fun r6 => if r6 = 0 then ((fX12_readsHedge m).bind fun r8 => if r8.1 = 0 then (fX12_land_48 n v1 (v2 + (1 : Int32)) r8.1 (0 : Int32) r8.2) else ((fX12_takes (59 : Int32) r8.2).bind fun r10 => if r10.1 = 0 then (fX12_land_48 n v1 (v2 + (1 : Int32)) r8.1 (0 : Int32) r10.2) else (fX12_land_48 n v1 (v2 + (1 : Int32)) r8.1 (1 : Int32) r10.2))) else ((fX12_readsCorner m).bind fun r12 => if r12.1 = 0 then (fX12_land_48 n v1 (v2 + (1 : Int32)) r12.1 (0 : Int32) r12.2) else ((fX12_takes (59 : Int32) r12.2).bind fun r14 => if r14.1 = 0 then (fX12_land_48 n v1 (v2 + (1 : Int32)) r12.1 (0 : Int32) r14.2) else (fX12_land_48 n v1 (v2 + (1 : Int32)) r12.1 (1 : Int32) r14.2))))
def fX12_land (m : sm_S) : Option (Int32 × sm_S) :=
  (fX12_begins (76 : Int32) (sm_w1 m 72 0 (0 : Int32))).bind fun r2 => if r2.1 ≤ 0 then (fX12_land_48 sm_fu r2.1 (0 : Int32) (1 : Int32) (0 : Int32) (sm_w1 (sm_w1 (sm_w1 r2.2 72 24 (r2.2.1 72 3)) 72 25 (r2.2.1 72 6)) 72 26 (0 : Int32))) else (fX12_land_48 sm_fu r2.1 (0 : Int32) (1 : Int32) (1 : Int32) (sm_w1 (sm_w1 (sm_w1 r2.2 72 24 (r2.2.1 72 3)) 72 25 (r2.2.1 72 6)) 72 26 (0 : Int32)))
def fX12_isHedge (x1 : Int32) (m : sm_S) : Option (Int32) :=
  (fX12_in (x1).toInt64 (0 : Int64) (((m.1 72 6) - (1 : Int32))).toInt64 m).bind fun r2 => if narrow .boolean (.int r2) = .int r2 then some r2 else none
def fX12_refuse (m : sm_S) : Option (Int32 × sm_S) :=
  some ((0 : Int32), (sm_w1 m 72 0 (1 : Int32)))
def fX12_has (x1 : Int32) (x2 : Int32) (m : sm_S) : Option (Int32) :=
  if ((x1 >>> (x2 &&& 31)) &&& (1 : Int32)) = (1 : Int32) then (some (1 : Int32)) else (some (0 : Int32))
def fX12_dayOf (x1 : Int32) (m : sm_S) : Option (Int32) :=
  some (x1 / (60 : Int32))
def fX12_isFresh (x1 : Int32) (x2 : Int32) (m : sm_S) : Option (Int32) :=
  if sm_ix x1 14 then (if (m.1 83 (x1).toNatClampNeg) < 0 then (some (1 : Int32)) else ((fX12_dayOf x2 m).bind fun r3 => if sm_ix x1 14 then (if (r3 - (m.1 83 (x1).toNatClampNeg)) < (m.1 72 15) then (some (0 : Int32)) else (some (1 : Int32))) else none)) else none
def fX12_hedge (x1 : Int32) (x2 : Int32) (m : sm_S) : Option (Int32 × sm_S) :=
  (fX12_isHedge x1 (sm_w1 m 72 0 (0 : Int32))).bind fun r2 => if r2 = 0 then ((fX12_refuse (sm_w1 m 72 0 (0 : Int32))).bind fun r4 => some (r4.1, r4.2)) else ((fX12_in (x2).toInt64 (0 : Int64) (8 : Int64) (sm_w1 m 72 0 (0 : Int32))).bind fun r6 => if r6 = 0 then ((fX12_refuse (sm_w1 m 72 0 (0 : Int32))).bind fun r31 => some (r31.1, r31.2)) else (if x2 = (0 : Int32) then (if sm_ix x1 14 then (some ((m.1 76 (x1).toNatClampNeg), (sm_w1 m 72 0 (0 : Int32)))) else none) else (if x2 = (1 : Int32) then (if sm_ix x1 14 then (some ((m.1 77 (x1).toNatClampNeg), (sm_w1 m 72 0 (0 : Int32)))) else none) else (if x2 = (2 : Int32) then (if sm_ix x1 14 then (some ((m.1 78 (x1).toNatClampNeg), (sm_w1 m 72 0 (0 : Int32)))) else none) else (if x2 = (3 : Int32) then (if sm_ix x1 14 then (some ((m.1 79 (x1).toNatClampNeg), (sm_w1 m 72 0 (0 : Int32)))) else none) else (if x2 = (4 : Int32) then (if sm_ix x1 14 then (some ((m.1 80 (x1).toNatClampNeg), (sm_w1 m 72 0 (0 : Int32)))) else none) else (if x2 = (5 : Int32) then (if sm_ix x1 14 then (some ((m.1 81 (x1).toNatClampNeg), (sm_w1 m 72 0 (0 : Int32)))) else none) else (if x2 = (6 : Int32) then (if sm_ix x1 14 then (some ((m.1 82 (x1).toNatClampNeg), (sm_w1 m 72 0 (0 : Int32)))) else none) else (if x2 = (7 : Int32) then ((fX12_has (m.1 72 14) x1 (sm_w1 m 72 0 (0 : Int32))).bind fun r23 => (fX12_flag r23 (sm_w1 m 72 0 (0 : Int32))).bind fun r25 => some (r25, (sm_w1 m 72 0 (0 : Int32)))) else ((fX12_isFresh x1 (m.1 72 18) (sm_w1 m 72 0 (0 : Int32))).bind fun r27 => (fX12_flag r27 (sm_w1 m 72 0 (0 : Int32))).bind fun r29 => some (r29, (sm_w1 m 72 0 (0 : Int32)))))))))))))
def fX12_isCorner (x1 : Int32) (m : sm_S) : Option (Int32) :=
  (fX12_in (x1).toInt64 (0 : Int64) (((m.1 72 3) - (1 : Int32))).toInt64 m).bind fun r2 => if narrow .boolean (.int r2) = .int r2 then some r2 else none
def fX12_grassOf (x1 : Int32) (x2 : Int32) (m : sm_S) : Option (Int32) :=
  if sm_ix x1 10 then (if sm_ix x2 10 then (if sm_ix x1 10 then (if sm_ix x2 10 then (some ((2 : Int32) * ((if 0 ≤ ((m.1 74 (x1).toNatClampNeg) - (m.1 74 (x2).toNatClampNeg)) then ((m.1 74 (x1).toNatClampNeg) - (m.1 74 (x2).toNatClampNeg)) else 0 - ((m.1 74 (x1).toNatClampNeg) - (m.1 74 (x2).toNatClampNeg))) + (if 0 ≤ ((m.1 75 (x1).toNatClampNeg) - (m.1 75 (x2).toNatClampNeg)) then ((m.1 75 (x1).toNatClampNeg) - (m.1 75 (x2).toNatClampNeg)) else 0 - ((m.1 75 (x1).toNatClampNeg) - (m.1 75 (x2).toNatClampNeg)))))) else none) else none) else none) else none
def fX12_grass (x1 : Int32) (x2 : Int32) (m : sm_S) : Option (Int32 × sm_S) :=
  (fX12_isCorner x1 (sm_w1 m 72 0 (0 : Int32))).bind fun r2 => if r2 = 0 then (some ((-1 : Int32), (sm_w1 m 72 0 (0 : Int32)))) else ((fX12_isCorner x2 (sm_w1 m 72 0 (0 : Int32))).bind fun r4 => if r4 = 0 then (some ((-1 : Int32), (sm_w1 m 72 0 (0 : Int32)))) else ((fX12_grassOf x1 x2 (sm_w1 m 72 0 (0 : Int32))).bind fun r6 => some (r6, (sm_w1 m 72 0 (0 : Int32)))))
def fX12_set (x1 : Int32) (x2 : Int32) (x3 : Int32) (m : sm_S) : Option (Int32 × sm_S) :=
  (fX12_in (x1).toInt64 (0 : Int64) (1 : Int64) (sm_w1 m 72 0 (0 : Int32))).bind fun r2 => if r2 = 0 then (if x1 = (2 : Int32) then ((fX12_in (x3).toInt64 (0 : Int64) (99 : Int64) (sm_w1 m 72 0 (0 : Int32))).bind fun r6 => if r6 = 0 then (if x1 = (3 : Int32) then ((fX12_in (x3).toInt64 (0 : Int64) (9999 : Int64) (sm_w1 m 72 0 (0 : Int32))).bind fun r8 => if r8 = 0 then (some ((-1 : Int32), (sm_w1 m 72 0 (0 : Int32)))) else (some ((m.1 72 16), (sm_w1 (sm_w1 m 72 0 (0 : Int32)) 72 16 x3)))) else (some ((-1 : Int32), (sm_w1 m 72 0 (0 : Int32))))) else (some ((m.1 72 15), (sm_w1 (sm_w1 m 72 0 (0 : Int32)) 72 15 x3)))) else (if x1 = (3 : Int32) then ((fX12_in (x3).toInt64 (0 : Int64) (9999 : Int64) (sm_w1 m 72 0 (0 : Int32))).bind fun r4 => if r4 = 0 then (some ((-1 : Int32), (sm_w1 m 72 0 (0 : Int32)))) else (some ((m.1 72 16), (sm_w1 (sm_w1 m 72 0 (0 : Int32)) 72 16 x3)))) else (some ((-1 : Int32), (sm_w1 m 72 0 (0 : Int32)))))) else ((fX12_isHedge x2 (sm_w1 m 72 0 (0 : Int32))).bind fun r10 => if r10 = 0 then (if x1 = (2 : Int32) then ((fX12_in (x3).toInt64 (0 : Int64) (99 : Int64) (sm_w1 m 72 0 (0 : Int32))).bind fun r14 => if r14 = 0 then (if x1 = (3 : Int32) then ((fX12_in (x3).toInt64 (0 : Int64) (9999 : Int64) (sm_w1 m 72 0 (0 : Int32))).bind fun r16 => if r16 = 0 then (some ((-1 : Int32), (sm_w1 m 72 0 (0 : Int32)))) else (some ((m.1 72 16), (sm_w1 (sm_w1 m 72 0 (0 : Int32)) 72 16 x3)))) else (some ((-1 : Int32), (sm_w1 m 72 0 (0 : Int32))))) else (some ((m.1 72 15), (sm_w1 (sm_w1 m 72 0 (0 : Int32)) 72 15 x3)))) else (if x1 = (3 : Int32) then ((fX12_in (x3).toInt64 (0 : Int64) (9999 : Int64) (sm_w1 m 72 0 (0 : Int32))).bind fun r12 => if r12 = 0 then (some ((-1 : Int32), (sm_w1 m 72 0 (0 : Int32)))) else (some ((m.1 72 16), (sm_w1 (sm_w1 m 72 0 (0 : Int32)) 72 16 x3)))) else (some ((-1 : Int32), (sm_w1 m 72 0 (0 : Int32)))))) else ((fX12_in (x3).toInt64 (0 : Int64) (9 : Int64) (sm_w1 m 72 0 (0 : Int32))).bind fun r18 => if r18 = 0 then (if x1 = (2 : Int32) then ((fX12_in (x3).toInt64 (0 : Int64) (99 : Int64) (sm_w1 m 72 0 (0 : Int32))).bind fun r22 => if r22 = 0 then (if x1 = (3 : Int32) then ((fX12_in (x3).toInt64 (0 : Int64) (9999 : Int64) (sm_w1 m 72 0 (0 : Int32))).bind fun r24 => if r24 = 0 then (some ((-1 : Int32), (sm_w1 m 72 0 (0 : Int32)))) else (some ((m.1 72 16), (sm_w1 (sm_w1 m 72 0 (0 : Int32)) 72 16 x3)))) else (some ((-1 : Int32), (sm_w1 m 72 0 (0 : Int32))))) else (some ((m.1 72 15), (sm_w1 (sm_w1 m 72 0 (0 : Int32)) 72 15 x3)))) else (if x1 = (3 : Int32) then ((fX12_in (x3).toInt64 (0 : Int64) (9999 : Int64) (sm_w1 m 72 0 (0 : Int32))).bind fun r20 => if r20 = 0 then (some ((-1 : Int32), (sm_w1 m 72 0 (0 : Int32)))) else (some ((m.1 72 16), (sm_w1 (sm_w1 m 72 0 (0 : Int32)) 72 16 x3)))) else (some ((-1 : Int32), (sm_w1 m 72 0 (0 : Int32)))))) else (if x1 = 0 then (if sm_ix x2 14 then (if sm_ix x2 14 then (some ((m.1 81 (x2).toNatClampNeg), (sm_w1 (sm_w1 m 72 0 (0 : Int32)) 81 (x2).toNatClampNeg x3))) else none) else none) else (if sm_ix x2 14 then (if sm_ix x2 14 then (some ((m.1 82 (x2).toNatClampNeg), (sm_w1 (sm_w1 m 72 0 (0 : Int32)) 82 (x2).toNatClampNeg x3))) else none) else none))))
def fX12_sheet_46 : Nat → Int32 → Int32 → Int32 → Int32 → Int32 → Int32 → sm_S → Option (Int32 × sm_S)
  | 0, _, _, _, _, _, _, _ => none
  | n + 1, v1, v2, v4, v5, v6, v7, m =>
  if (m.1 72 6) ≤ v7 then (if v1 = (3 : Int32) then (some ((-3 : Int32), m)) else (some (v5, m))) else (if v1 = 0 then (if v1 = (3 : Int32) then (if sm_ix v7 14 then (if sm_ix v7 14 then (fX12_sheet_46 n v1 v2 v4 (v5 + ((sm_w1 m 78 (v7).toNatClampNeg (1 : Int32)).1 78 (v7).toNatClampNeg)) (v6 + v4) (v7 + (1 : Int32)) (sm_w1 m 78 (v7).toNatClampNeg (1 : Int32))) else none) else none) else (if v7 < v2 then (if sm_ix v7 14 then (if sm_ix v7 14 then (fX12_sheet_46 n v1 v2 v4 (v5 + ((sm_w1 m 78 (v7).toNatClampNeg (if (1 : Int32) < (if (v6).toInt8.toInt32 < (20 : Int32) then (v6).toInt8.toInt32 else (20 : Int32)) then (if (v6).toInt8.toInt32 < (20 : Int32) then (v6).toInt8.toInt32 else (20 : Int32)) else (1 : Int32))).1 78 (v7).toNatClampNeg)) (v6 + v4) (v7 + (1 : Int32)) (sm_w1 m 78 (v7).toNatClampNeg (if (1 : Int32) < (if (v6).toInt8.toInt32 < (20 : Int32) then (v6).toInt8.toInt32 else (20 : Int32)) then (if (v6).toInt8.toInt32 < (20 : Int32) then (v6).toInt8.toInt32 else (20 : Int32)) else (1 : Int32)))) else none) else none) else (if sm_ix v7 14 then (if sm_ix v7 14 then (fX12_sheet_46 n v1 v2 v4 (v5 + ((sm_w1 m 78 (v7).toNatClampNeg (1 : Int32)).1 78 (v7).toNatClampNeg)) (v6 + v4) (v7 + (1 : Int32)) (sm_w1 m 78 (v7).toNatClampNeg (1 : Int32))) else none) else none))) else (if v1 = (1 : Int32) then (if v1 = (3 : Int32) then (if sm_ix v7 14 then (if sm_ix v7 14 then (fX12_sheet_46 n v1 v2 v4 (v5 + ((sm_w1 m 78 (v7).toNatClampNeg (1 : Int32)).1 78 (v7).toNatClampNeg)) (v6 + v4) (v7 + (1 : Int32)) (sm_w1 m 78 (v7).toNatClampNeg (1 : Int32))) else none) else none) else (if v7 < v2 then (if sm_ix v7 14 then (if sm_ix v7 14 then (fX12_sheet_46 n v1 v2 v4 (v5 + ((sm_w1 m 78 (v7).toNatClampNeg (if (1 : Int32) < (if (v6).toInt16.toInt32 < (20 : Int32) then (v6).toInt16.toInt32 else (20 : Int32)) then (if (v6).toInt16.toInt32 < (20 : Int32) then (v6).toInt16.toInt32 else (20 : Int32)) else (1 : Int32))).1 78 (v7).toNatClampNeg)) (v6 + v4) (v7 + (1 : Int32)) (sm_w1 m 78 (v7).toNatClampNeg (if (1 : Int32) < (if (v6).toInt16.toInt32 < (20 : Int32) then (v6).toInt16.toInt32 else (20 : Int32)) then (if (v6).toInt16.toInt32 < (20 : Int32) then (v6).toInt16.toInt32 else (20 : Int32)) else (1 : Int32)))) else none) else none) else (if sm_ix v7 14 then (if sm_ix v7 14 then (fX12_sheet_46 n v1 v2 v4 (v5 + ((sm_w1 m 78 (v7).toNatClampNeg (1 : Int32)).1 78 (v7).toNatClampNeg)) (v6 + v4) (v7 + (1 : Int32)) (sm_w1 m 78 (v7).toNatClampNeg (1 : Int32))) else none) else none))) else (if v1 = (3 : Int32) then (if sm_ix v7 14 then (if sm_ix v7 14 then (fX12_sheet_46 n v1 v2 v4 (v5 + ((sm_w1 m 78 (v7).toNatClampNeg (1 : Int32)).1 78 (v7).toNatClampNeg)) (v6 + v4) (v7 + (1 : Int32)) (sm_w1 m 78 (v7).toNatClampNeg (1 : Int32))) else none) else none) else (if v7 < v2 then (if sm_ix v7 14 then (if sm_ix v7 14 then (fX12_sheet_46 n v1 v2 v4 (v5 + ((sm_w1 m 78 (v7).toNatClampNeg (if (1 : Int32) < (if v6 < (20 : Int32) then v6 else (20 : Int32)) then (if v6 < (20 : Int32) then v6 else (20 : Int32)) else (1 : Int32))).1 78 (v7).toNatClampNeg)) (v6 + v4) (v7 + (1 : Int32)) (sm_w1 m 78 (v7).toNatClampNeg (if (1 : Int32) < (if v6 < (20 : Int32) then v6 else (20 : Int32)) then (if v6 < (20 : Int32) then v6 else (20 : Int32)) else (1 : Int32)))) else none) else none) else (if sm_ix v7 14 then (if sm_ix v7 14 then (fX12_sheet_46 n v1 v2 v4 (v5 + ((sm_w1 m 78 (v7).toNatClampNeg (1 : Int32)).1 78 (v7).toNatClampNeg)) (v6 + v4) (v7 + (1 : Int32)) (sm_w1 m 78 (v7).toNatClampNeg (1 : Int32))) else none) else none)))))
def fX12_sheet (x1 : Int32) (x2 : Int32) (x3 : Int32) (x4 : Int32) (m : sm_S) : Option (Int32 × sm_S) :=
  (fX12_in (x1).toInt64 (0 : Int64) (3 : Int64) (sm_w1 m 72 0 (0 : Int32))).bind fun r2 => if r2 = 0 then (some ((-1 : Int32), (sm_w1 m 72 0 (0 : Int32)))) else (if x2 ≤ (14 : Int32) then (if x1 = (3 : Int32) then (fX12_sheet_46 sm_fu x1 x2 x4 (0 : Int32) x3 (0 : Int32) (sm_w1 m 72 0 (0 : Int32))) else (if 0 ≤ x2 then (fX12_sheet_46 sm_fu x1 x2 x4 (0 : Int32) x3 (0 : Int32) (sm_w1 m 72 0 (0 : Int32))) else (some ((-2 : Int32), (sm_w1 m 72 0 (0 : Int32)))))) else (some ((-1 : Int32), (sm_w1 m 72 0 (0 : Int32)))))
def fX12_isEnd (x1 : Int32) (x2 : Int32) (m : sm_S) : Option (Int32) :=
  if sm_ix x1 14 then (if (m.1 76 (x1).toNatClampNeg) = x2 then (some (1 : Int32)) else (if sm_ix x1 14 then (if (m.1 77 (x1).toNatClampNeg) = x2 then (some (1 : Int32)) else (some (0 : Int32))) else none)) else none
def fX12_minutesFrom (x1 : Int32) (x2 : Int32) (m : sm_S) : Option (Int32) :=
  if sm_ix x1 14 then (if sm_ix x1 14 then (if x2 = (m.1 76 (x1).toNatClampNeg) then (some ((m.1 78 (x1).toNatClampNeg) + (0 : Int32))) else (if sm_ix x1 14 then (some ((m.1 78 (x1).toNatClampNeg) + (m.1 82 (x1).toNatClampNeg))) else none)) else none) else none
def fX12_isLight (x1 : Int32) (m : sm_S) : Option (Int32) :=
  if (40 : Int32) ≤ (x1 - x1 / (60 : Int32) * (60 : Int32)) then (some (0 : Int32)) else (some (1 : Int32))
def fX12_whyNot (x1 : Int32) (m : sm_S) : Option (Int32) :=
  (fX12_isEnd x1 (m.1 72 17) m).bind fun r2 => if r2 = 0 then (some (-2 : Int32)) else ((fX12_isFresh x1 (m.1 72 18) m).bind fun r4 => if r4 = 0 then (some (-3 : Int32)) else ((fX12_has (m.1 72 14) x1 m).bind fun r6 => if r6 = 0 then ((fX12_minutesFrom x1 (m.1 72 17) m).bind fun r8 => if ((m.1 72 18) + r8) ≤ (m.1 72 16) then (some (0 : Int32)) else (some (-5 : Int32))) else ((fX12_isLight (m.1 72 18) m).bind fun r10 => if r10 = 0 then (some (-4 : Int32)) else ((fX12_minutesFrom x1 (m.1 72 17) m).bind fun r12 => if ((m.1 72 18) + r12) ≤ (m.1 72 16) then (some (0 : Int32)) else (some (-5 : Int32))))))
def fX12_putsBy_11 : Nat → Int32 → Int32 → sm_S → Option (sm_S)
  | 0, _, _, _ => none
  | n + 1, v1, v2, m =>
  if (30 : Int32) ≤ v2 then (if sm_ix ((m.1 72 27) - (1 : Int32)) 30 then (if sm_ix ((m.1 72 27) - (1 : Int32)) 30 then (if sm_ix ((m.1 72 27) - (1 : Int32)) 30 then (if sm_ix v1 14 then (if sm_ix ((m.1 72 27) - (1 : Int32)) 30 then (some (sm_w1 (sm_w1 (sm_w1 (sm_w1 (sm_w1 (sm_w1 m 72 27 ((m.1 72 27) - (1 : Int32))) 85 ((m.1 72 27) - (1 : Int32)).toNatClampNeg v1) 86 ((m.1 72 27) - (1 : Int32)).toNatClampNeg (m.1 72 17)) 87 ((m.1 72 27) - (1 : Int32)).toNatClampNeg (m.1 72 18)) 88 ((m.1 72 27) - (1 : Int32)).toNatClampNeg (m.1 83 (v1).toNatClampNeg)) 72 27 (((m.1 72 27) - (1 : Int32)) + (1 : Int32)))) else none) else none) else none) else none) else none) else (if sm_ix v2 30 then (if sm_ix (v2 - (1 : Int32)) 30 then (if sm_ix v2 30 then (if sm_ix (v2 - (1 : Int32)) 30 then (if sm_ix v2 30 then (if sm_ix (v2 - (1 : Int32)) 30 then (if sm_ix v2 30 then (if sm_ix (v2 - (1 : Int32)) 30 then (fX12_putsBy_11 n v1 (v2 + (1 : Int32)) (sm_w1 (sm_w1 (sm_w1 (sm_w1 m 85 (v2 - (1 : Int32)).toNatClampNeg (m.1 85 (v2).toNatClampNeg)) 86 (v2 - (1 : Int32)).toNatClampNeg (m.1 86 (v2).toNatClampNeg)) 87 (v2 - (1 : Int32)).toNatClampNeg (m.1 87 (v2).toNatClampNeg)) 88 (v2 - (1 : Int32)).toNatClampNeg (m.1 88 (v2).toNatClampNeg))) else none) else none) else none) else none) else none) else none) else none) else none)
def fX12_putsBy (x1 : Int32) (m : sm_S) : Option (sm_S) :=
  if (m.1 72 27) = (30 : Int32) then (fX12_putsBy_11 sm_fu x1 (1 : Int32) m) else (if sm_ix (m.1 72 27) 30 then (if sm_ix (m.1 72 27) 30 then (if sm_ix (m.1 72 27) 30 then (if sm_ix x1 14 then (if sm_ix (m.1 72 27) 30 then (some (sm_w1 (sm_w1 (sm_w1 (sm_w1 (sm_w1 m 85 (m.1 72 27).toNatClampNeg x1) 86 (m.1 72 27).toNatClampNeg (m.1 72 17)) 87 (m.1 72 27).toNatClampNeg (m.1 72 18)) 88 (m.1 72 27).toNatClampNeg (m.1 83 (x1).toNatClampNeg)) 72 27 ((m.1 72 27) + (1 : Int32)))) else none) else none) else none) else none) else none)
def fX12_endOf (x1 : Int32) (x2 : Int32) (m : sm_S) : Option (Int32) :=
  if sm_ix x1 14 then (if (m.1 76 (x1).toNatClampNeg) = x2 then (if sm_ix x1 14 then (some (m.1 77 (x1).toNatClampNeg)) else none) else (if sm_ix x1 14 then (some (m.1 76 (x1).toNatClampNeg)) else none)) else none
def fX12_walks (x1 : Int32) (m : sm_S) : Option (Int32 × sm_S) :=
  (fX12_minutesFrom x1 (m.1 72 17) m).bind fun r2 => (fX12_dayOf (m.1 72 18) m).bind fun r4 => if sm_ix x1 14 then ((fX12_endOf x1 (m.1 72 17) (sm_w1 m 83 (x1).toNatClampNeg r4)).bind fun r7 => some (r2, (sm_w1 (sm_w1 (sm_w1 m 83 (x1).toNatClampNeg r4) 72 17 r7) 72 18 ((m.1 72 18) + r2)))) else none
def fX12_walk (x1 : Int32) (m : sm_S) : Option (Int32 × sm_S) :=
  (fX12_isHedge x1 (sm_w1 m 72 0 (0 : Int32))).bind fun r2 => if r2 = 0 then (some ((-1 : Int32), (sm_w1 m 72 0 (0 : Int32)))) else ((fX12_whyNot x1 (sm_w1 m 72 0 (0 : Int32))).bind fun r4 => if 0 ≤ r4 then ((fX12_putsBy x1 (sm_w1 m 72 0 (0 : Int32))).bind fun m6 => (fX12_walks x1 m6).bind fun r8 => some (r8.1, r8.2)) else (some (r4, (sm_w1 m 72 0 (0 : Int32)))))
def fX12_rest (x1 : Int32) (m : sm_S) : Option (Int32 × sm_S) :=
  (fX12_in (x1).toInt64 (0 : Int64) (9999 : Int64) (sm_w1 m 72 0 (0 : Int32))).bind fun r2 => if r2 = 0 then (some ((-1 : Int32), (sm_w1 m 72 0 (0 : Int32)))) else (if ((m.1 72 18) + x1) ≤ (m.1 72 16) then (some (((m.1 72 18) + x1), (sm_w1 (sm_w1 (sm_w1 m 72 0 (0 : Int32)) 72 18 ((m.1 72 18) + x1)) 72 27 (0 : Int32)))) else (some ((-5 : Int32), (sm_w1 m 72 0 (0 : Int32)))))
def fX12_undo (m : sm_S) : Option (Int32 × sm_S) :=
  if (m.1 72 27) = 0 then (some ((-1 : Int32), (sm_w1 m 72 0 (0 : Int32)))) else (if sm_ix ((m.1 72 27) - (1 : Int32)) 30 then (if sm_ix ((m.1 72 27) - (1 : Int32)) 30 then (if sm_ix ((m.1 72 27) - (1 : Int32)) 30 then (if sm_ix ((m.1 72 27) - (1 : Int32)) 30 then (if sm_ix (m.1 85 ((m.1 72 27) - (1 : Int32)).toNatClampNeg) 14 then (some (((m.1 72 27) - (1 : Int32)), (sm_w1 (sm_w1 (sm_w1 (sm_w1 (sm_w1 m 72 0 (0 : Int32)) 72 27 ((m.1 72 27) - (1 : Int32))) 72 17 (m.1 86 ((m.1 72 27) - (1 : Int32)).toNatClampNeg)) 72 18 (m.1 87 ((m.1 72 27) - (1 : Int32)).toNatClampNeg)) 83 (m.1 85 ((m.1 72 27) - (1 : Int32)).toNatClampNeg).toNatClampNeg (m.1 88 ((m.1 72 27) - (1 : Int32)).toNatClampNeg)))) else none) else none) else none) else none) else none)
def fX12_go_32 : Nat → Int32 → sm_S → Option (Int32 × sm_S)
  | 0, _, _ => none
  | n + 1, v2, m =>
  if (14 : Int32) ≤ v2 then (some ((1 : Int32), m)) else (if sm_ix v2 14 then (fX12_go_32 n (v2 + (1 : Int32)) (sm_w1 m 83 (v2).toNatClampNeg (-1 : Int32))) else none)
def fX12_go (x1 : Int32) (m : sm_S) : Option (Int32 × sm_S) :=
  (fX12_isCorner x1 (sm_w1 m 72 0 (0 : Int32))).bind fun r2 => if r2 = 0 then (some ((0 : Int32), (sm_w1 m 72 0 (0 : Int32)))) else (fX12_go_32 sm_fu (0 : Int32) (sm_w1 (sm_w1 (sm_w1 (sm_w1 m 72 0 (0 : Int32)) 72 17 x1) 72 18 (0 : Int32)) 72 27 (0 : Int32)))
def fX12_canNow_4 : Nat → Int32 → Int32 → sm_S → Option (Int32)
  | 0, _, _, _ => none
  | n + 1, v1, v2, m =>
  if (m.1 72 6) ≤ v2 then (some v1) else ((fX12_whyNot v2 m).bind fun r2 => if r2 = 0 then (fX12_canNow_4 n (v1 ||| ((1 : Int32) <<< (v2 &&& 31))) (v2 + (1 : Int32)) m) else (fX12_canNow_4 n (v1 ||| (0 : Int32)) (v2 + (1 : Int32)) m))
def fX12_canNow (m : sm_S) : Option (Int32) :=
  fX12_canNow_4 sm_fu (0 : Int32) (0 : Int32) m
def fX12_can (m : sm_S) : Option (Int32 × sm_S) :=
  (fX12_canNow (sm_w1 m 72 0 (0 : Int32))).bind fun r2 => some (r2, (sm_w1 m 72 0 (0 : Int32)))
def fX12_enters (x1 : Int32) (m : sm_S) : Option (sm_S) :=
  if sm_ix (m.1 72 1) 24 then (some (sm_w1 (sm_w1 m 73 (m.1 72 1).toNatClampNeg x1) 72 1 ((m.1 72 1) + (1 : Int32)))) else none
def fX12_tour_218 : Nat → Int32 → Int32 → Int32 → Int32 → Int32 → Int32 → sm_S → Option (Int32 × sm_S)
  | 0, _, _, _, _, _, _, _ => none
  | n + 1, v1, v4, v5, v6, v7, v10, m =>
  if v5 ≤ v10 then ((fX12_enters v4 (sm_w1 m 72 1 (0 : Int32))).bind fun m12 => (fX12_enters v7 m12).bind fun m14 => some (v6, m14)) else (if sm_ix v10 30 then (if sm_ix (((30 : Int32) * v1) + v10) 60 then (fX12_tour_218 n v1 v4 v5 v6 v7 (v10 + (1 : Int32)) (sm_w1 m 91 (((30 : Int32) * v1) + v10).toNatClampNeg (m.1 92 (v10).toNatClampNeg))) else none) else none)
def fX12_tour_62 : Nat → Int32 → Int32 → Int32 → Int32 → Int32 → Int32 → Int32 → Int32 → sm_S → Option (Int32 × sm_S)
  | 0, _, _, _, _, _, _, _, _, _ => none
  | n + 1, v1, v2, v3, v4, v5, v6, v7, v8, m =>
  if v8 = 0 then ((fX12_faultOf v2 (30 : Int32) v8 m).bind fun r8 => if 0 ≤ r8 then (if sm_ix v1 2 then (if sm_ix v1 2 then (fX12_tour_218 sm_fu v1 v4 v5 v6 v7 (0 : Int32) (sm_w1 (sm_w1 m 89 (v1).toNatClampNeg v3) 90 (v1).toNatClampNeg v5)) else none) else none) else (some (r8, m))) else (if (m.1 72 23) ≤ (m.1 72 22) then ((fX12_faultOf v2 (30 : Int32) v8 m).bind fun r18 => if 0 ≤ r18 then (if sm_ix v1 2 then (if sm_ix v1 2 then (fX12_tour_218 sm_fu v1 v4 v5 v6 v7 (0 : Int32) (sm_w1 (sm_w1 m 89 (v1).toNatClampNeg v3) 90 (v1).toNatClampNeg v5)) else none) else none) else (some (r18, m))) else (if sm_ix (m.1 72 22) 80 then ((fX12_isHedge ((m.1 84 (m.1 72 22).toNatClampNeg) - (65 : Int32)) m).bind fun r23 => if r23 = 0 then (fX12_tour_62 n v1 v2 v3 v4 v5 v6 v7 (0 : Int32) m) else ((fX12_isEnd ((m.1 84 (m.1 72 22).toNatClampNeg) - (65 : Int32)) v4 m).bind fun r25 => if r25 = 0 then (fX12_tour_62 n v1 v2 v3 v4 v5 v6 v7 (0 : Int32) m) else (if sm_ix v5 30 then ((fX12_minutesFrom ((m.1 84 (m.1 72 22).toNatClampNeg) - (65 : Int32)) v4 (sm_w1 m 92 (v5).toNatClampNeg ((m.1 84 (m.1 72 22).toNatClampNeg) - (65 : Int32)))).bind fun r28 => (fX12_endOf ((m.1 84 (m.1 72 22).toNatClampNeg) - (65 : Int32)) v4 (sm_w1 m 92 (v5).toNatClampNeg ((m.1 84 (m.1 72 22).toNatClampNeg) - (65 : Int32)))).bind fun r30 => fX12_tour_62 n v1 v2 v3 r30 (v5 + (1 : Int32)) (v6 + r28) (v7 ||| ((1 : Int32) <<< (((m.1 84 (m.1 72 22).toNatClampNeg) - (65 : Int32)) &&& 31))) (1 : Int32) (sm_w1 (sm_w1 m 92 (v5).toNatClampNeg ((m.1 84 (m.1 72 22).toNatClampNeg) - (65 : Int32))) 72 22 ((m.1 72 22) + (1 : Int32)))) else none))) else none))
def fX12_tour (x1 : Int32) (m : sm_S) : Option (Int32 × sm_S) :=
  (fX12_begins (30 : Int32) (sm_w1 m 72 0 (0 : Int32))).bind fun r2 => (fX12_in (x1).toInt64 (0 : Int64) (1 : Int64) r2.2).bind fun r4 => if r4 = 0 then (some ((-100 : Int32), r2.2)) else ((fX12_cornerBut (-1 : Int32) (sm_w1 r2.2 72 24 (r2.2.1 72 3))).bind fun r6 => if r6.1 < 0 then (fX12_tour_62 sm_fu x1 r2.1 r6.1 r6.1 (0 : Int32) (0 : Int32) (0 : Int32) (0 : Int32) r6.2) else (fX12_tour_62 sm_fu x1 r2.1 r6.1 r6.1 (0 : Int32) (0 : Int32) (0 : Int32) (1 : Int32) r6.2))
def fX12_putsWalker_18 : Nat → Int32 → sm_S → Option (sm_S)
  | 0, _, _ => none
  | n + 1, v1, m =>
  if (14 : Int32) ≤ v1 then (some m) else (if sm_ix v1 14 then (if sm_ix v1 14 then (fX12_putsWalker_18 n (v1 + (1 : Int32)) (sm_w1 m 93 (v1).toNatClampNeg (m.1 83 (v1).toNatClampNeg))) else none) else none)
def fX12_putsWalker (m : sm_S) : Option (sm_S) :=
  fX12_putsWalker_18 sm_fu (0 : Int32) (sm_w1 (sm_w1 m 72 36 (m.1 72 17)) 72 37 (m.1 72 18))
def fX12_putsBack_18 : Nat → Int32 → sm_S → Option (sm_S)
  | 0, _, _ => none
  | n + 1, v1, m =>
  if (14 : Int32) ≤ v1 then (some m) else (if sm_ix v1 14 then (if sm_ix v1 14 then (fX12_putsBack_18 n (v1 + (1 : Int32)) (sm_w1 m 83 (v1).toNatClampNeg (m.1 93 (v1).toNatClampNeg))) else none) else none)
def fX12_putsBack (m : sm_S) : Option (sm_S) :=
  fX12_putsBack_18 sm_fu (0 : Int32) (sm_w1 (sm_w1 m 72 17 (m.1 72 36)) 72 18 (m.1 72 37))
def fX12_look_57 : Nat → Int32 → Int32 → Int32 → Int32 → Int32 → Int32 → sm_S → Option (Int32 × sm_S)
  | 0, _, _, _, _, _, _, _ => none
  | n + 1, v1, v2, v3, v4, v5, v6, m =>
  if sm_ix v1 2 then (if (m.1 90 (v1).toNatClampNeg) ≤ v6 then ((fX12_putsBack m).bind fun m9 => (fX12_enters v3 (sm_w1 m9 72 1 (0 : Int32))).bind fun m11 => (fX12_enters v4 m11).bind fun m13 => (fX12_enters v5 m13).bind fun m15 => some (v2, m15)) else (if v2 = (-2 : Int32) then (if sm_ix (((30 : Int32) * v1) + v6) 60 then ((fX12_whyNot (m.1 91 (((30 : Int32) * v1) + v6).toNatClampNeg) m).bind fun r26 => if 0 ≤ r26 then ((fX12_walks (m.1 91 (((30 : Int32) * v1) + v6).toNatClampNeg) m).bind fun r28 => if sm_ix (m.1 91 (((30 : Int32) * v1) + v6).toNatClampNeg) 14 then (fX12_look_57 n v1 v2 r26 (v4 + r28.1) (v5 + (r28.2.1 81 (m.1 91 (((30 : Int32) * v1) + v6).toNatClampNeg).toNatClampNeg)) (v6 + (1 : Int32)) r28.2) else none) else (fX12_look_57 n v1 v6 r26 v4 v5 (v6 + (1 : Int32)) m)) else none) else ((fX12_putsBack m).bind fun m17 => (fX12_enters v3 (sm_w1 m17 72 1 (0 : Int32))).bind fun m19 => (fX12_enters v4 m19).bind fun m21 => (fX12_enters v5 m21).bind fun m23 => some (v2, m23)))) else none
def fX12_look (x1 : Int32) (m : sm_S) : Option (Int32 × sm_S) :=
  (fX12_in (x1).toInt64 (0 : Int64) (1 : Int64) (sm_w1 m 72 0 (0 : Int32))).bind fun r2 => if r2 = 0 then (some ((-1 : Int32), (sm_w1 m 72 0 (0 : Int32)))) else (if sm_ix x1 2 then (if 0 ≤ (m.1 89 (x1).toNatClampNeg) then ((fX12_putsWalker (sm_w1 m 72 0 (0 : Int32))).bind fun m5 => if sm_ix x1 2 then (fX12_look_57 sm_fu x1 (-2 : Int32) (0 : Int32) (0 : Int32) (0 : Int32) (0 : Int32) (sm_w1 m5 72 17 (m5.1 89 (x1).toNatClampNeg))) else none) else (some ((-3 : Int32), (sm_w1 m 72 0 (0 : Int32))))) else none)
def fX12_cornerOf_28 : Nat → Int32 → Int32 → Int32 → Int32 → Int32 → Int32 → sm_S → Option (Int32 × sm_S)
  | 0, _, _, _, _, _, _, _ => none
  | n + 1, v1, v3, v4, v5, v6, v7, m =>
  if sm_ix v1 2 then (if (m.1 90 (v1).toNatClampNeg) ≤ v7 then (if v3 < v5 then (some (v6, (sm_w1 m 72 39 v5))) else (some (v4, (sm_w1 m 72 39 v5)))) else (if sm_ix (((30 : Int32) * v1) + v7) 60 then ((fX12_minutesFrom (m.1 91 (((30 : Int32) * v1) + v7).toNatClampNeg) v4 m).bind fun r5 => (fX12_endOf (m.1 91 (((30 : Int32) * v1) + v7).toNatClampNeg) v4 m).bind fun r7 => if v3 = (v5 + r5) then (fX12_cornerOf_28 n v1 v3 r7 (v5 + r5) r7 (v7 + (1 : Int32)) m) else (fX12_cornerOf_28 n v1 v3 r7 (v5 + r5) v6 (v7 + (1 : Int32)) m)) else none)) else none
def fX12_cornerOf (x1 : Int32) (x2 : Int32) (x3 : Int32) (m : sm_S) : Option (Int32 × sm_S) :=
  if sm_ix x1 2 then (if x2 < x3 then (fX12_cornerOf_28 sm_fu x1 x3 (m.1 89 (x1).toNatClampNeg) x2 (-1 : Int32) (0 : Int32) m) else (fX12_cornerOf_28 sm_fu x1 x3 (m.1 89 (x1).toNatClampNeg) x2 (m.1 89 (x1).toNatClampNeg) (0 : Int32) m)) else none
def fX12_meetsBy_32 : Nat → Int32 → Int32 → Int32 → sm_S → Option (Int32 × sm_S)
  | 0, _, _, _, _ => none
  | n + 1, v1, v2, v3, m =>
  if v2 < v3 then (some ((-2 : Int32), m)) else ((fX12_cornerOf (0 : Int32) (0 : Int32) v3 m).bind fun r6 => if r6.1 < 0 then (fX12_meetsBy_32 n v1 v2 (v3 + (1 : Int32)) r6.2) else ((fX12_cornerOf (1 : Int32) v1 v3 r6.2).bind fun r8 => if r6.1 = r8.1 then (some (v3, r8.2)) else (fX12_meetsBy_32 n v1 v2 (v3 + (1 : Int32)) r8.2)))
def fX12_meetsBy (x1 : Int32) (m : sm_S) : Option (Int32 × sm_S) :=
  (fX12_cornerOf (0 : Int32) (0 : Int32) (0 : Int32) m).bind fun r2 => (fX12_cornerOf (1 : Int32) x1 (0 : Int32) r2.2).bind fun r4 => fX12_meetsBy_32 sm_fu x1 (if (r2.2.1 72 39) < (r4.2.1 72 39) then (r4.2.1 72 39) else (r2.2.1 72 39)) (0 : Int32) r4.2
def fX12_meets (x1 : Int32) (m : sm_S) : Option (Int32 × sm_S) :=
  (fX12_in (x1).toInt64 (0 : Int64) (99 : Int64) (sm_w1 m 72 0 (0 : Int32))).bind fun r2 => if r2 = 0 then (some ((-1 : Int32), (sm_w1 m 72 0 (0 : Int32)))) else (if (m.1 89 0) < 0 then (some ((-3 : Int32), (sm_w1 m 72 0 (0 : Int32)))) else (if 0 ≤ (m.1 89 1) then ((fX12_meetsBy x1 (sm_w1 m 72 0 (0 : Int32))).bind fun r4 => if r4.1 < 0 then (some (r4.1, r4.2)) else ((fX12_cornerOf (0 : Int32) (0 : Int32) r4.1 (sm_w1 r4.2 72 1 (0 : Int32))).bind fun r6 => (fX12_enters r6.1 r6.2).bind fun m8 => some (r4.1, m8))) else (some ((-3 : Int32), (sm_w1 m 72 0 (0 : Int32))))))
def fX12_apart_28 : Nat → Int32 → sm_S → Option (Int32 × sm_S)
  | 0, _, _ => none
  | n + 1, v1, m =>
  if (99 : Int32) < v1 then (some ((-2 : Int32), m)) else ((fX12_meetsBy v1 m).bind fun r2 => if 0 ≤ r2.1 then (fX12_apart_28 n (v1 + (1 : Int32)) r2.2) else (some (v1, r2.2)))
def fX12_apart (m : sm_S) : Option (Int32 × sm_S) :=
  if (m.1 89 0) < 0 then (some ((-3 : Int32), (sm_w1 m 72 0 (0 : Int32)))) else (if 0 ≤ (m.1 89 1) then (fX12_apart_28 sm_fu (0 : Int32) (sm_w1 m 72 0 (0 : Int32))) else (some ((-3 : Int32), (sm_w1 m 72 0 (0 : Int32)))))
def fX12_sleeps (m : sm_S) : Option (Int32 × sm_S) :=
  (fX12_dayOf (m.1 72 18) m).bind fun r2 => if ((60 : Int32) * (r2 + (1 : Int32))) ≤ (m.1 72 16) then (some ((1 : Int32), (sm_w1 m 72 18 ((60 : Int32) * (r2 + (1 : Int32)))))) else (some ((0 : Int32), (sm_w1 m 72 18 (if (m.1 72 18) < (m.1 72 16) then (m.1 72 16) else (m.1 72 18)))))
def fX12_season_99 (k70 : Int32 → Int32 → Int32 → Int32 → sm_S → Option (Int32 × sm_S)) (k59 : Int32 → Int32 → Int32 → Int32 → Int32 → sm_S → Option (Int32 × sm_S)) : Nat → Int32 → Int32 → Int32 → Int32 → Int32 → Int32 → Int32 → sm_S → Option (Int32 × sm_S)
  | 0, _, _, _, _, _, _, _, _ => none
  | n + 1, v1, v2, v3, v5, v6, v7, v8, m =>
  if (m.1 72 6) ≤ v8 then ((fX12_walks v7 m).bind fun r26 => if sm_ix v7 14 then (k70 v1 (v2 + (1 : Int32)) (v3 + (r26.2.1 81 (v7).toNatClampNeg)) v5 r26.2) else none) else ((fX12_has v6 v8 m).bind fun r29 => if r29 = 0 then (fX12_season_99 k70 k59 n v1 v2 v3 v5 v6 v7 (v8 + (1 : Int32)) m) else (if v7 < 0 then (fX12_season_99 k70 k59 n v1 v2 v3 v5 v6 v8 (v8 + (1 : Int32)) m) else (if sm_ix v8 14 then (if sm_ix v7 14 then (if (m.1 81 (v8).toNatClampNeg) ≤ (m.1 81 (v7).toNatClampNeg) then (fX12_season_99 k70 k59 n v1 v2 v3 v5 v6 v7 (v8 + (1 : Int32)) m) else (fX12_season_99 k70 k59 n v1 v2 v3 v5 v6 v8 (v8 + (1 : Int32)) m)) else none) else none)))
def fX12_season_70 (k59 : Int32 → Int32 → Int32 → Int32 → Int32 → sm_S → Option (Int32 × sm_S)) : Nat → Int32 → Int32 → Int32 → Int32 → sm_S → Option (Int32 × sm_S)
  | 0, _, _, _, _, _ => none
  | n + 1, v1, v2, v3, v5, m =>
  (fX12_isLight (m.1 72 18) m).bind fun r16 => if r16 = 0 then ((fX12_sleeps m).bind fun r18 => k59 v1 v2 v3 r18.1 (v5 + (1 : Int32)) r18.2) else ((fX12_canNow m).bind fun r20 => if r20 = 0 then ((fX12_sleeps m).bind fun r22 => k59 v1 v2 v3 r22.1 (v5 + (1 : Int32)) r22.2) else ((fX12_canNow m).bind fun r24 => fX12_season_99 (fX12_season_70 k59 n) k59 sm_fu v1 v2 v3 v5 r24 (-1 : Int32) (0 : Int32) m))
def fX12_season_59 : Nat → Int32 → Int32 → Int32 → Int32 → Int32 → sm_S → Option (Int32 × sm_S)
  | 0, _, _, _, _, _, _ => none
  | n + 1, v1, v2, v3, v4, v5, m =>
  if v1 ≤ v5 then ((fX12_enters v3 (sm_w1 m 72 1 (0 : Int32))).bind fun m4 => if (m4.1 72 3) = 0 then ((fX12_enters (-1 : Int32) m4).bind fun m8 => some (v2, m8)) else ((fX12_enters (m4.1 72 17) m4).bind fun m6 => some (v2, m6))) else (if v4 = 0 then ((fX12_enters v3 (sm_w1 m 72 1 (0 : Int32))).bind fun m10 => if (m10.1 72 3) = 0 then ((fX12_enters (-1 : Int32) m10).bind fun m14 => some (v2, m14)) else ((fX12_enters (m10.1 72 17) m10).bind fun m12 => some (v2, m12))) else (fX12_season_70 (fX12_season_59 n) sm_fu v1 v2 v3 v5 m))
def fX12_season (x1 : Int32) (m : sm_S) : Option (Int32 × sm_S) :=
  (fX12_in (x1).toInt64 (0 : Int64) (60 : Int64) (sm_w1 m 72 0 (0 : Int32))).bind fun r2 => if r2 = 0 then (some ((-1 : Int32), (sm_w1 m 72 0 (0 : Int32)))) else (if x1 ≤ 0 then (fX12_season_59 sm_fu x1 (0 : Int32) (0 : Int32) (0 : Int32) (0 : Int32) (sm_w1 (sm_w1 m 72 0 (0 : Int32)) 72 27 (0 : Int32))) else ((fX12_isLight (m.1 72 18) (sm_w1 (sm_w1 m 72 0 (0 : Int32)) 72 27 (0 : Int32))).bind fun r33 => if r33 = 0 then ((fX12_sleeps (sm_w1 (sm_w1 m 72 0 (0 : Int32)) 72 27 (0 : Int32))).bind fun r35 => if r35.1 = 0 then (fX12_season_59 sm_fu x1 (0 : Int32) (0 : Int32) (0 : Int32) (0 : Int32) r35.2) else (fX12_season_59 sm_fu x1 (0 : Int32) (0 : Int32) (1 : Int32) (0 : Int32) r35.2)) else (fX12_season_59 sm_fu x1 (0 : Int32) (0 : Int32) (1 : Int32) (0 : Int32) (sm_w1 (sm_w1 m 72 0 (0 : Int32)) 72 27 (0 : Int32)))))
def fX12_allHedges (m : sm_S) : Option (Int32) :=
  some (((1 : Int32) <<< ((m.1 72 6) &&& 31)) - (1 : Int32))
def fX12_oddOf_4 : Nat → Int32 → Int32 → Int32 → sm_S → Option (Int32)
  | 0, _, _, _, _ => none
  | n + 1, v1, v2, v3, m =>
  if (m.1 72 6) ≤ v3 then (some v2) else ((fX12_has v1 v3 m).bind fun r2 => if r2 = 0 then (fX12_oddOf_4 n v1 (v2 ^^^ (0 : Int32)) (v3 + (1 : Int32)) m) else (if sm_ix v3 14 then (if sm_ix v3 14 then (fX12_oddOf_4 n v1 (v2 ^^^ (((1 : Int32) <<< ((m.1 76 (v3).toNatClampNeg) &&& 31)) ^^^ ((1 : Int32) <<< ((m.1 77 (v3).toNatClampNeg) &&& 31)))) (v3 + (1 : Int32)) m) else none) else none))
def fX12_oddOf (x1 : Int32) (m : sm_S) : Option (Int32) :=
  fX12_oddOf_4 sm_fu x1 (0 : Int32) (0 : Int32) m
def fX12_odd (m : sm_S) : Option (Int32 × sm_S) :=
  (fX12_allHedges (sm_w1 m 72 0 (0 : Int32))).bind fun r2 => (fX12_oddOf r2 (sm_w1 m 72 0 (0 : Int32))).bind fun r4 => (fX12_enters r4 (sm_w1 (sm_w1 m 72 0 (0 : Int32)) 72 1 (0 : Int32))).bind fun m6 => (fJ6_bitCount_0f7a4 r4 m6).bind fun r8 => some (r8, m6)
def fX12_parts_35 (k25 : Int32 → Int32 → sm_S → Option (sm_S)) : Nat → Int32 → Int32 → Int32 → sm_S → Option (sm_S)
  | 0, _, _, _, _ => none
  | n + 1, v1, v2, v3, m =>
  if (m.1 72 6) ≤ v3 then (k25 v1 (v2 + (1 : Int32)) m) else ((fX12_has v1 v3 m).bind fun r2 => if r2 = 0 then (fX12_parts_35 k25 n v1 v2 (v3 + (1 : Int32)) m) else (if sm_ix v3 14 then (if sm_ix (m.1 76 (v3).toNatClampNeg) 10 then (if sm_ix v3 14 then (if sm_ix (m.1 77 (v3).toNatClampNeg) 10 then (if sm_ix v3 14 then (if sm_ix (m.1 76 (v3).toNatClampNeg) 10 then (if sm_ix v3 14 then (if sm_ix (m.1 77 (v3).toNatClampNeg) 10 then (fX12_parts_35 k25 n v1 v2 (v3 + (1 : Int32)) (sm_w1 (sm_w1 m 94 (m.1 76 (v3).toNatClampNeg).toNatClampNeg (if (m.1 94 (m.1 77 (v3).toNatClampNeg).toNatClampNeg) < (m.1 94 (m.1 76 (v3).toNatClampNeg).toNatClampNeg) then (m.1 94 (m.1 77 (v3).toNatClampNeg).toNatClampNeg) else (m.1 94 (m.1 76 (v3).toNatClampNeg).toNatClampNeg))) 94 (m.1 77 (v3).toNatClampNeg).toNatClampNeg (if (m.1 94 (m.1 77 (v3).toNatClampNeg).toNatClampNeg) < (m.1 94 (m.1 76 (v3).toNatClampNeg).toNatClampNeg) then (m.1 94 (m.1 77 (v3).toNatClampNeg).toNatClampNeg) else (m.1 94 (m.1 76 (v3).toNatClampNeg).toNatClampNeg)))) else none) else none) else none) else none) else none) else none) else none) else none))
def fX12_parts_25 : Nat → Int32 → Int32 → sm_S → Option (sm_S)
  | 0, _, _, _ => none
  | n + 1, v1, v2, m =>
  if (m.1 72 3) ≤ v2 then (some m) else (fX12_parts_35 (fX12_parts_25 n) sm_fu v1 v2 (0 : Int32) m)
def fX12_parts_2 : Nat → Int32 → Int32 → sm_S → Option (sm_S)
  | 0, _, _, _ => none
  | n + 1, v1, v2, m =>
  if (m.1 72 3) ≤ v2 then (fX12_parts_25 sm_fu v1 (0 : Int32) m) else (if sm_ix v2 10 then (fX12_parts_2 n v1 (v2 + (1 : Int32)) (sm_w1 m 94 (v2).toNatClampNeg v2)) else none)
def fX12_parts (x1 : Int32) (m : sm_S) : Option (sm_S) :=
  fX12_parts_2 sm_fu x1 (0 : Int32) m
def fX12_partOfHedges_5 : Nat → Int32 → Int32 → Int32 → Int32 → sm_S → Option (Int32)
  | 0, _, _, _, _, _ => none
  | n + 1, v1, v2, v3, v4, m =>
  if (m.1 72 6) ≤ v4 then (some v3) else ((fX12_has v2 v4 m).bind fun r2 => if r2 = 0 then (fX12_partOfHedges_5 n v1 v2 (v3 ||| (0 : Int32)) (v4 + (1 : Int32)) m) else (if sm_ix v4 14 then (if sm_ix (m.1 76 (v4).toNatClampNeg) 10 then (if (m.1 94 (m.1 76 (v4).toNatClampNeg).toNatClampNeg) = v1 then (fX12_partOfHedges_5 n v1 v2 (v3 ||| ((1 : Int32) <<< (v4 &&& 31))) (v4 + (1 : Int32)) m) else (fX12_partOfHedges_5 n v1 v2 (v3 ||| (0 : Int32)) (v4 + (1 : Int32)) m)) else none) else none))
def fX12_partOfHedges (x1 : Int32) (x2 : Int32) (m : sm_S) : Option (Int32) :=
  fX12_partOfHedges_5 sm_fu x1 x2 (0 : Int32) (0 : Int32) m
def fX12_men_19 : Nat → Int32 → Int32 → Int32 → sm_S → Option (Int32 × sm_S)
  | 0, _, _, _, _ => none
  | n + 1, v1, v2, v3, m =>
  if (m.1 72 3) ≤ v3 then ((fX12_enters v2 (sm_w1 m 72 1 (0 : Int32))).bind fun m6 => some (v1, m6)) else ((fX12_allHedges m).bind fun r8 => (fX12_partOfHedges v3 r8 m).bind fun r10 => if r10 = 0 then (fX12_men_19 n v1 v2 (v3 + (1 : Int32)) m) else ((fX12_oddOf r10 m).bind fun r12 => (fJ6_bitCount_0f7a4 r12 m).bind fun r14 => fX12_men_19 n (v1 + (if (1 : Int32) < (r14 / (2 : Int32)) then (r14 / (2 : Int32)) else (1 : Int32))) (v2 + (1 : Int32)) (v3 + (1 : Int32)) m))
def fX12_men (m : sm_S) : Option (Int32 × sm_S) :=
  (fX12_allHedges (sm_w1 m 72 0 (0 : Int32))).bind fun r2 => (fX12_parts r2 (sm_w1 m 72 0 (0 : Int32))).bind fun m4 => fX12_men_19 sm_fu (0 : Int32) (0 : Int32) (0 : Int32) m4
def fX12_canTrail (x1 : Int32) (x2 : Int32) (m : sm_S) : Option (Int32 × sm_S) :=
  if x1 = 0 then (some ((1 : Int32), m)) else ((fX12_parts x1 m).bind fun m2 => if sm_ix x2 10 then ((fX12_partOfHedges (m2.1 94 (x2).toNatClampNeg) x1 m2).bind fun r5 => if r5 = x1 then ((fX12_oddOf x1 m2).bind fun r7 => if r7 = 0 then (some ((1 : Int32), m2)) else ((fJ6_bitCount_0f7a4 r7 m2).bind fun r9 => if r9 = (2 : Int32) then ((fX12_has r7 x2 m2).bind fun r11 => if r11 = 0 then (some ((0 : Int32), m2)) else (some ((1 : Int32), m2))) else (some ((0 : Int32), m2)))) else (some ((0 : Int32), m2))) else none)
def fX12_trail_49 (k42 : Int32 → Int32 → Int32 → sm_S → Option (Int32 × sm_S)) : Nat → Int32 → Int32 → Int32 → Int32 → sm_S → Option (Int32 × sm_S)
  | 0, _, _, _, _, _ => none
  | n + 1, v2, v3, v4, v5, m =>
  (fX12_has v2 v5 m).bind fun r8 => if r8 = 0 then (fX12_trail_49 k42 n v2 v3 v4 (v5 + (1 : Int32)) m) else ((fX12_isEnd v5 v3 m).bind fun r10 => if r10 = 0 then (fX12_trail_49 k42 n v2 v3 v4 (v5 + (1 : Int32)) m) else ((fX12_endOf v5 v3 m).bind fun r12 => (fX12_canTrail (v2 &&& (((1 : Int32) <<< (v5 &&& 31)) ^^^ (-1 : Int32))) r12 m).bind fun r14 => if r14.1 = 0 then (fX12_trail_49 k42 n v2 v3 v4 (v5 + (1 : Int32)) r14.2) else ((fX12_enters v5 r14.2).bind fun m16 => (fX12_minutesFrom v5 v3 m16).bind fun r18 => (fX12_endOf v5 v3 m16).bind fun r20 => k42 (v2 &&& (((1 : Int32) <<< (v5 &&& 31)) ^^^ (-1 : Int32))) r20 (v4 + r18) m16)))
def fX12_trail_42 : Nat → Int32 → Int32 → Int32 → sm_S → Option (Int32 × sm_S)
  | 0, _, _, _, _ => none
  | n + 1, v2, v3, v4, m =>
  if v2 = 0 then (some (v4, m)) else (fX12_trail_49 (fX12_trail_42 n) sm_fu v2 v3 v4 (0 : Int32) m)
def fX12_trail (x1 : Int32) (m : sm_S) : Option (Int32 × sm_S) :=
  (fX12_isCorner x1 (sm_w1 m 72 0 (0 : Int32))).bind fun r2 => if r2 = 0 then (some ((-1 : Int32), (sm_w1 m 72 0 (0 : Int32)))) else ((fX12_allHedges (sm_w1 m 72 0 (0 : Int32))).bind fun r4 => (fX12_canTrail r4 x1 (sm_w1 m 72 0 (0 : Int32))).bind fun r6 => if r6.1 = 0 then (some ((-2 : Int32), r6.2)) else (fX12_trail_42 sm_fu r4 x1 (0 : Int32) (sm_w1 r6.2 72 1 (0 : Int32))))
def fX12_hangTogether_12 : Nat → Int32 → Int32 → sm_S → Option (Int32 × sm_S)
  | 0, _, _, _ => none
  | n + 1, v1, v2, m =>
  if (m.1 72 6) ≤ v2 then (if narrow .boolean (.int v1) = .int v1 then some (v1, m) else none) else (if v1 = 0 then (fX12_hangTogether_12 n (0 : Int32) (v2 + (1 : Int32)) m) else (if sm_ix v2 14 then (if sm_ix (m.1 76 (v2).toNatClampNeg) 10 then (if sm_ix (m.1 76 0) 10 then (if (m.1 94 (m.1 76 (v2).toNatClampNeg).toNatClampNeg) = (m.1 94 (m.1 76 0).toNatClampNeg) then (fX12_hangTogether_12 n (1 : Int32) (v2 + (1 : Int32)) m) else (fX12_hangTogether_12 n (0 : Int32) (v2 + (1 : Int32)) m)) else none) else none) else none))
def fX12_hangTogether (m : sm_S) : Option (Int32 × sm_S) :=
  (fX12_allHedges m).bind fun r2 => (fX12_parts r2 m).bind fun m4 => fX12_hangTogether_12 sm_fu (1 : Int32) (1 : Int32) m4
def fX12_isEven_87 : Nat → Int32 → Int32 → sm_S → Option (Int32 × sm_S)
  | 0, _, _, _ => none
  | n + 1, v2, v3, m =>
  if (m.1 72 3) ≤ v3 then (if narrow .boolean (.int v2) = .int v2 then some (v2, m) else none) else (if v2 = 0 then (fX12_isEven_87 n (0 : Int32) (v3 + (1 : Int32)) m) else (if sm_ix v3 10 then (if (m.1 95 (v3).toNatClampNeg) = 0 then (fX12_isEven_87 n (1 : Int32) (v3 + (1 : Int32)) m) else (fX12_isEven_87 n (0 : Int32) (v3 + (1 : Int32)) m)) else none))
def fX12_isEven_25 : Nat → Int32 → Int32 → sm_S → Option (Int32 × sm_S)
  | 0, _, _, _ => none
  | n + 1, v1, v2, m =>
  if (m.1 72 6) ≤ v2 then (fX12_isEven_87 sm_fu (1 : Int32) (0 : Int32) m) else ((fX12_has v1 v2 m).bind fun r4 => if r4 = 0 then (if sm_ix v2 14 then (if sm_ix (m.1 76 (v2).toNatClampNeg) 10 then (if sm_ix (m.1 76 (v2).toNatClampNeg) 10 then (if sm_ix v2 14 then (if sm_ix (m.1 77 (v2).toNatClampNeg) 10 then (if sm_ix (m.1 77 (v2).toNatClampNeg) 10 then (fX12_isEven_25 n v1 (v2 + (1 : Int32)) (sm_w1 (sm_w1 m 95 (m.1 76 (v2).toNatClampNeg).toNatClampNeg ((m.1 95 (m.1 76 (v2).toNatClampNeg).toNatClampNeg) - (1 : Int32))) 95 (m.1 77 (v2).toNatClampNeg).toNatClampNeg (((sm_w1 m 95 (m.1 76 (v2).toNatClampNeg).toNatClampNeg ((m.1 95 (m.1 76 (v2).toNatClampNeg).toNatClampNeg) - (1 : Int32))).1 95 (m.1 77 (v2).toNatClampNeg).toNatClampNeg) + (1 : Int32)))) else none) else none) else none) else none) else none) else none) else (if sm_ix v2 14 then (if sm_ix (m.1 76 (v2).toNatClampNeg) 10 then (if sm_ix (m.1 76 (v2).toNatClampNeg) 10 then (if sm_ix v2 14 then (if sm_ix (m.1 77 (v2).toNatClampNeg) 10 then (if sm_ix (m.1 77 (v2).toNatClampNeg) 10 then (fX12_isEven_25 n v1 (v2 + (1 : Int32)) (sm_w1 (sm_w1 m 95 (m.1 76 (v2).toNatClampNeg).toNatClampNeg ((m.1 95 (m.1 76 (v2).toNatClampNeg).toNatClampNeg) - (-1 : Int32))) 95 (m.1 77 (v2).toNatClampNeg).toNatClampNeg (((sm_w1 m 95 (m.1 76 (v2).toNatClampNeg).toNatClampNeg ((m.1 95 (m.1 76 (v2).toNatClampNeg).toNatClampNeg) - (-1 : Int32))).1 95 (m.1 77 (v2).toNatClampNeg).toNatClampNeg) + (-1 : Int32)))) else none) else none) else none) else none) else none) else none))
def fX12_isEven_2 : Nat → Int32 → Int32 → sm_S → Option (Int32 × sm_S)
  | 0, _, _, _ => none
  | n + 1, v1, v2, m =>
  if (m.1 72 3) ≤ v2 then (fX12_isEven_25 sm_fu v1 (0 : Int32) m) else (if sm_ix v2 10 then (fX12_isEven_2 n v1 (v2 + (1 : Int32)) (sm_w1 m 95 (v2).toNatClampNeg (0 : Int32))) else none)
def fX12_isEven (x1 : Int32) (m : sm_S) : Option (Int32 × sm_S) :=
  fX12_isEven_2 sm_fu x1 (0 : Int32) m
def fX12_round_35 (k21 : Int32 → Int32 → Int32 → sm_S → Option (Int32 × sm_S)) : Nat → Int32 → Int32 → Int32 → Int32 → Int32 → sm_S → Option (Int32 × sm_S)
  | 0, _, _, _, _, _, _ => none
  | n + 1, v1, v2, v3, v4, v5, m =>
  if (m.1 72 6) ≤ v5 then (if v1 < 0 then ((fX12_isEven v3 m).bind fun r8 => if r8.1 = 0 then (k21 v1 v2 (v3 + (1 : Int32)) r8.2) else (k21 v3 v4 (v3 + (1 : Int32)) r8.2)) else (if v2 ≤ v4 then (k21 v1 v2 (v3 + (1 : Int32)) m) else ((fX12_isEven v3 m).bind fun r10 => if r10.1 = 0 then (k21 v1 v2 (v3 + (1 : Int32)) r10.2) else (k21 v3 v4 (v3 + (1 : Int32)) r10.2)))) else (if sm_ix v5 14 then ((fX12_has v3 v5 m).bind fun r13 => if r13 = 0 then (fX12_round_35 k21 n v1 v2 v3 (v4 + ((m.1 78 (v5).toNatClampNeg) + (0 : Int32))) (v5 + (1 : Int32)) m) else (if sm_ix v5 14 then (fX12_round_35 k21 n v1 v2 v3 (v4 + ((m.1 78 (v5).toNatClampNeg) + (m.1 82 (v5).toNatClampNeg))) (v5 + (1 : Int32)) m) else none)) else none)
def fX12_round_21 : Nat → Int32 → Int32 → Int32 → sm_S → Option (Int32 × sm_S)
  | 0, _, _, _, _ => none
  | n + 1, v1, v2, v3, m =>
  (fX12_allHedges m).bind fun r4 => if r4 < v3 then (if 0 ≤ v1 then ((fX12_enters v1 (sm_w1 m 72 1 (0 : Int32))).bind fun m6 => some (v2, m6)) else (some ((-2 : Int32), m))) else (fX12_round_35 (fX12_round_21 n) sm_fu v1 v2 v3 (0 : Int32) (0 : Int32) m)
def fX12_round (m : sm_S) : Option (Int32 × sm_S) :=
  (fX12_hangTogether (sm_w1 m 72 0 (0 : Int32))).bind fun r2 => if r2.1 = 0 then (some ((-2 : Int32), r2.2)) else (fX12_round_21 sm_fu (-1 : Int32) (0 : Int32) (0 : Int32) r2.2)
def fJ6_numberOfTrailingZeros_0f7a4 (x1 : Int32) (m : sm_S) : Option (Int32) :=
  if 0 < ((x1 ^^^ (-1 : Int32)) &&& (x1 - (1 : Int32))) then (if ((x1 ^^^ (-1 : Int32)) &&& (x1 - (1 : Int32))) ≤ (65536 : Int32) then (if ((x1 ^^^ (-1 : Int32)) &&& (x1 - (1 : Int32))) ≤ (256 : Int32) then (if ((x1 ^^^ (-1 : Int32)) &&& (x1 - (1 : Int32))) ≤ (16 : Int32) then (if ((x1 ^^^ (-1 : Int32)) &&& (x1 - (1 : Int32))) ≤ (4 : Int32) then (some ((1 : Int32) + ((((x1 ^^^ (-1 : Int32)) &&& (x1 - (1 : Int32))).toUInt32 >>> ((1 : Int32).toUInt32 &&& Int32.toUInt32 31)).toInt32))) else (some (((1 : Int32) + (2 : Int32)) + ((((((x1 ^^^ (-1 : Int32)) &&& (x1 - (1 : Int32))).toUInt32 >>> ((2 : Int32).toUInt32 &&& Int32.toUInt32 31)).toInt32).toUInt32 >>> ((1 : Int32).toUInt32 &&& Int32.toUInt32 31)).toInt32)))) else (if ((((x1 ^^^ (-1 : Int32)) &&& (x1 - (1 : Int32))).toUInt32 >>> ((4 : Int32).toUInt32 &&& Int32.toUInt32 31)).toInt32) ≤ (4 : Int32) then (some (((1 : Int32) + (4 : Int32)) + ((((((x1 ^^^ (-1 : Int32)) &&& (x1 - (1 : Int32))).toUInt32 >>> ((4 : Int32).toUInt32 &&& Int32.toUInt32 31)).toInt32).toUInt32 >>> ((1 : Int32).toUInt32 &&& Int32.toUInt32 31)).toInt32))) else (some ((((1 : Int32) + (4 : Int32)) + (2 : Int32)) + ((((((((x1 ^^^ (-1 : Int32)) &&& (x1 - (1 : Int32))).toUInt32 >>> ((4 : Int32).toUInt32 &&& Int32.toUInt32 31)).toInt32).toUInt32 >>> ((2 : Int32).toUInt32 &&& Int32.toUInt32 31)).toInt32).toUInt32 >>> ((1 : Int32).toUInt32 &&& Int32.toUInt32 31)).toInt32))))) else (if ((((x1 ^^^ (-1 : Int32)) &&& (x1 - (1 : Int32))).toUInt32 >>> ((8 : Int32).toUInt32 &&& Int32.toUInt32 31)).toInt32) ≤ (16 : Int32) then (if ((((x1 ^^^ (-1 : Int32)) &&& (x1 - (1 : Int32))).toUInt32 >>> ((8 : Int32).toUInt32 &&& Int32.toUInt32 31)).toInt32) ≤ (4 : Int32) then (some (((1 : Int32) + (8 : Int32)) + ((((((x1 ^^^ (-1 : Int32)) &&& (x1 - (1 : Int32))).toUInt32 >>> ((8 : Int32).toUInt32 &&& Int32.toUInt32 31)).toInt32).toUInt32 >>> ((1 : Int32).toUInt32 &&& Int32.toUInt32 31)).toInt32))) else (some ((((1 : Int32) + (8 : Int32)) + (2 : Int32)) + ((((((((x1 ^^^ (-1 : Int32)) &&& (x1 - (1 : Int32))).toUInt32 >>> ((8 : Int32).toUInt32 &&& Int32.toUInt32 31)).toInt32).toUInt32 >>> ((2 : Int32).toUInt32 &&& Int32.toUInt32 31)).toInt32).toUInt32 >>> ((1 : Int32).toUInt32 &&& Int32.toUInt32 31)).toInt32)))) else (if ((((((x1 ^^^ (-1 : Int32)) &&& (x1 - (1 : Int32))).toUInt32 >>> ((8 : Int32).toUInt32 &&& Int32.toUInt32 31)).toInt32).toUInt32 >>> ((4 : Int32).toUInt32 &&& Int32.toUInt32 31)).toInt32) ≤ (4 : Int32) then (some ((((1 : Int32) + (8 : Int32)) + (4 : Int32)) + ((((((((x1 ^^^ (-1 : Int32)) &&& (x1 - (1 : Int32))).toUInt32 >>> ((8 : Int32).toUInt32 &&& Int32.toUInt32 31)).toInt32).toUInt32 >>> ((4 : Int32).toUInt32 &&& Int32.toUInt32 31)).toInt32).toUInt32 >>> ((1 : Int32).toUInt32 &&& Int32.toUInt32 31)).toInt32))) else (some (((((1 : Int32) + (8 : Int32)) + (4 : Int32)) + (2 : Int32)) + ((((((((((x1 ^^^ (-1 : Int32)) &&& (x1 - (1 : Int32))).toUInt32 >>> ((8 : Int32).toUInt32 &&& Int32.toUInt32 31)).toInt32).toUInt32 >>> ((4 : Int32).toUInt32 &&& Int32.toUInt32 31)).toInt32).toUInt32 >>> ((2 : Int32).toUInt32 &&& Int32.toUInt32 31)).toInt32).toUInt32 >>> ((1 : Int32).toUInt32 &&& Int32.toUInt32 31)).toInt32)))))) else (if ((((x1 ^^^ (-1 : Int32)) &&& (x1 - (1 : Int32))).toUInt32 >>> ((16 : Int32).toUInt32 &&& Int32.toUInt32 31)).toInt32) ≤ (256 : Int32) then (if ((((x1 ^^^ (-1 : Int32)) &&& (x1 - (1 : Int32))).toUInt32 >>> ((16 : Int32).toUInt32 &&& Int32.toUInt32 31)).toInt32) ≤ (16 : Int32) then (if ((((x1 ^^^ (-1 : Int32)) &&& (x1 - (1 : Int32))).toUInt32 >>> ((16 : Int32).toUInt32 &&& Int32.toUInt32 31)).toInt32) ≤ (4 : Int32) then (some (((1 : Int32) + (16 : Int32)) + ((((((x1 ^^^ (-1 : Int32)) &&& (x1 - (1 : Int32))).toUInt32 >>> ((16 : Int32).toUInt32 &&& Int32.toUInt32 31)).toInt32).toUInt32 >>> ((1 : Int32).toUInt32 &&& Int32.toUInt32 31)).toInt32))) else (some ((((1 : Int32) + (16 : Int32)) + (2 : Int32)) + ((((((((x1 ^^^ (-1 : Int32)) &&& (x1 - (1 : Int32))).toUInt32 >>> ((16 : Int32).toUInt32 &&& Int32.toUInt32 31)).toInt32).toUInt32 >>> ((2 : Int32).toUInt32 &&& Int32.toUInt32 31)).toInt32).toUInt32 >>> ((1 : Int32).toUInt32 &&& Int32.toUInt32 31)).toInt32)))) else (if ((((((x1 ^^^ (-1 : Int32)) &&& (x1 - (1 : Int32))).toUInt32 >>> ((16 : Int32).toUInt32 &&& Int32.toUInt32 31)).toInt32).toUInt32 >>> ((4 : Int32).toUInt32 &&& Int32.toUInt32 31)).toInt32) ≤ (4 : Int32) then (some ((((1 : Int32) + (16 : Int32)) + (4 : Int32)) + ((((((((x1 ^^^ (-1 : Int32)) &&& (x1 - (1 : Int32))).toUInt32 >>> ((16 : Int32).toUInt32 &&& Int32.toUInt32 31)).toInt32).toUInt32 >>> ((4 : Int32).toUInt32 &&& Int32.toUInt32 31)).toInt32).toUInt32 >>> ((1 : Int32).toUInt32 &&& Int32.toUInt32 31)).toInt32))) else (some (((((1 : Int32) + (16 : Int32)) + (4 : Int32)) + (2 : Int32)) + ((((((((((x1 ^^^ (-1 : Int32)) &&& (x1 - (1 : Int32))).toUInt32 >>> ((16 : Int32).toUInt32 &&& Int32.toUInt32 31)).toInt32).toUInt32 >>> ((4 : Int32).toUInt32 &&& Int32.toUInt32 31)).toInt32).toUInt32 >>> ((2 : Int32).toUInt32 &&& Int32.toUInt32 31)).toInt32).toUInt32 >>> ((1 : Int32).toUInt32 &&& Int32.toUInt32 31)).toInt32))))) else (if ((((((x1 ^^^ (-1 : Int32)) &&& (x1 - (1 : Int32))).toUInt32 >>> ((16 : Int32).toUInt32 &&& Int32.toUInt32 31)).toInt32).toUInt32 >>> ((8 : Int32).toUInt32 &&& Int32.toUInt32 31)).toInt32) ≤ (16 : Int32) then (if ((((((x1 ^^^ (-1 : Int32)) &&& (x1 - (1 : Int32))).toUInt32 >>> ((16 : Int32).toUInt32 &&& Int32.toUInt32 31)).toInt32).toUInt32 >>> ((8 : Int32).toUInt32 &&& Int32.toUInt32 31)).toInt32) ≤ (4 : Int32) then (some ((((1 : Int32) + (16 : Int32)) + (8 : Int32)) + ((((((((x1 ^^^ (-1 : Int32)) &&& (x1 - (1 : Int32))).toUInt32 >>> ((16 : Int32).toUInt32 &&& Int32.toUInt32 31)).toInt32).toUInt32 >>> ((8 : Int32).toUInt32 &&& Int32.toUInt32 31)).toInt32).toUInt32 >>> ((1 : Int32).toUInt32 &&& Int32.toUInt32 31)).toInt32))) else (some (((((1 : Int32) + (16 : Int32)) + (8 : Int32)) + (2 : Int32)) + ((((((((((x1 ^^^ (-1 : Int32)) &&& (x1 - (1 : Int32))).toUInt32 >>> ((16 : Int32).toUInt32 &&& Int32.toUInt32 31)).toInt32).toUInt32 >>> ((8 : Int32).toUInt32 &&& Int32.toUInt32 31)).toInt32).toUInt32 >>> ((2 : Int32).toUInt32 &&& Int32.toUInt32 31)).toInt32).toUInt32 >>> ((1 : Int32).toUInt32 &&& Int32.toUInt32 31)).toInt32)))) else (if ((((((((x1 ^^^ (-1 : Int32)) &&& (x1 - (1 : Int32))).toUInt32 >>> ((16 : Int32).toUInt32 &&& Int32.toUInt32 31)).toInt32).toUInt32 >>> ((8 : Int32).toUInt32 &&& Int32.toUInt32 31)).toInt32).toUInt32 >>> ((4 : Int32).toUInt32 &&& Int32.toUInt32 31)).toInt32) ≤ (4 : Int32) then (some (((((1 : Int32) + (16 : Int32)) + (8 : Int32)) + (4 : Int32)) + ((((((((((x1 ^^^ (-1 : Int32)) &&& (x1 - (1 : Int32))).toUInt32 >>> ((16 : Int32).toUInt32 &&& Int32.toUInt32 31)).toInt32).toUInt32 >>> ((8 : Int32).toUInt32 &&& Int32.toUInt32 31)).toInt32).toUInt32 >>> ((4 : Int32).toUInt32 &&& Int32.toUInt32 31)).toInt32).toUInt32 >>> ((1 : Int32).toUInt32 &&& Int32.toUInt32 31)).toInt32))) else (some ((((((1 : Int32) + (16 : Int32)) + (8 : Int32)) + (4 : Int32)) + (2 : Int32)) + ((((((((((((x1 ^^^ (-1 : Int32)) &&& (x1 - (1 : Int32))).toUInt32 >>> ((16 : Int32).toUInt32 &&& Int32.toUInt32 31)).toInt32).toUInt32 >>> ((8 : Int32).toUInt32 &&& Int32.toUInt32 31)).toInt32).toUInt32 >>> ((4 : Int32).toUInt32 &&& Int32.toUInt32 31)).toInt32).toUInt32 >>> ((2 : Int32).toUInt32 &&& Int32.toUInt32 31)).toInt32).toUInt32 >>> ((1 : Int32).toUInt32 &&& Int32.toUInt32 31)).toInt32))))))) else (some (((x1 ^^^ (-1 : Int32)) &&& (x1 - (1 : Int32))) &&& (32 : Int32)))
def fX12_isLessRow_2 : Nat → Int32 → sm_S → Option (Int32)
  | 0, _, _ => none
  | n + 1, v1, m =>
  if (m.1 72 42) ≤ v1 then (some (0 : Int32)) else (if sm_ix v1 10 then (if sm_ix v1 10 then (if (m.1 96 (v1).toNatClampNeg) = (m.1 97 (v1).toNatClampNeg) then (fX12_isLessRow_2 n (v1 + (1 : Int32)) m) else (if sm_ix v1 10 then (if sm_ix v1 10 then (if (m.1 97 (v1).toNatClampNeg) ≤ (m.1 96 (v1).toNatClampNeg) then (some (0 : Int32)) else (some (1 : Int32))) else none) else none)) else none) else none)
def fX12_isLessRow (m : sm_S) : Option (Int32) :=
  fX12_isLessRow_2 sm_fu (0 : Int32) m
def fX12_couples_118 (rec : Int32 → Int32 → Int32 → sm_S → Option sm_S) : Nat → Int32 → Int32 → Int32 → Int32 → Int32 → sm_S → Option (sm_S)
  | 0, _, _, _, _, _, _ => none
  | n + 1, v2, v3, v4, v5, v6, m =>
  if (m.1 72 3) ≤ v6 then (if v2 ≤ 0 then (some m) else ((rec v5 (v2 - (1 : Int32)) v3 m).bind fun m4 => some m4)) else ((fX12_has v5 v6 m).bind fun r6 => if r6 = 0 then (fX12_couples_118 rec n v2 v3 v4 v5 (v6 + (1 : Int32)) m) else (if sm_ix (m.1 72 42) 10 then (if sm_ix ((m.1 72 42) + (1 : Int32)) 10 then ((fX12_grassOf v4 v6 (sm_w1 (sm_w1 (sm_w1 m 96 (m.1 72 42).toNatClampNeg v4) 96 ((m.1 72 42) + (1 : Int32)).toNatClampNeg v6) 72 42 ((m.1 72 42) + (2 : Int32)))).bind fun r10 => (rec (v5 &&& (((1 : Int32) <<< (v6 &&& 31)) ^^^ (-1 : Int32))) v2 (v3 + r10) (sm_w1 (sm_w1 (sm_w1 m 96 (m.1 72 42).toNatClampNeg v4) 96 ((m.1 72 42) + (1 : Int32)).toNatClampNeg v6) 72 42 ((m.1 72 42) + (2 : Int32)))).bind fun m12 => fX12_couples_118 rec n v2 v3 v4 v5 (v6 + (1 : Int32)) (sm_w1 m12 72 42 ((m12.1 72 42) - (2 : Int32)))) else none) else none))
def fX12_couples_66 (rec : Int32 → Int32 → Int32 → sm_S → Option sm_S) : Nat → Int32 → sm_S → Option (sm_S)
  | 0, _, _ => none
  | n + 1, v5, m =>
  if (m.1 72 42) ≤ v5 then (some m) else (if sm_ix v5 10 then (if sm_ix v5 10 then (fX12_couples_66 rec n (v5 + (1 : Int32)) (sm_w1 m 97 (v5).toNatClampNeg (m.1 96 (v5).toNatClampNeg))) else none) else none)
def fX12_couplesR (rec : Int32 → Int32 → Int32 → sm_S → Option sm_S) (x1 x2 x3 : Int32) (m : sm_S) : Option sm_S :=
  if x1 = 0 then (if x2 = 0 then (if (m.1 72 46) < 0 then (fX12_couples_66 rec sm_fu (0 : Int32) (sm_w1 (sm_w1 m 72 46 x3) 72 45 (m.1 72 42))) else (if x3 < (m.1 72 46) then (fX12_couples_66 rec sm_fu (0 : Int32) (sm_w1 (sm_w1 m 72 46 x3) 72 45 (m.1 72 42))) else (if x3 = (m.1 72 46) then ((fX12_isLessRow m).bind fun r16 => if r16 = 0 then (some m) else (fX12_couples_66 rec sm_fu (0 : Int32) (sm_w1 (sm_w1 m 72 46 x3) 72 45 (m.1 72 42)))) else (some m)))) else (some m)) else ((fJ6_numberOfTrailingZeros_0f7a4 x1 m).bind fun r2 => fX12_couples_118 rec sm_fu x2 x3 r2 (x1 &&& (((1 : Int32) <<< (r2 &&& 31)) ^^^ (-1 : Int32))) (r2 + (1 : Int32)) m)
def fX12_couplesN : Nat → Int32 → Int32 → Int32 → sm_S → Option sm_S
  | 0, _, _, _, _ => none
  | n + 1, x1, x2, x3, m => fX12_couplesR (fX12_couplesN n) x1 x2 x3 m
def fX12_couples (x1 : Int32) (x2 : Int32) (x3 : Int32) (m : sm_S) : Option (sm_S) := fX12_couplesN 12 x1 x2 x3 m
def fX12_pairsBy_51 : Nat → Int32 → sm_S → Option (Int32 × sm_S)
  | 0, _, _ => none
  | n + 1, v3, m =>
  if (m.1 72 45) ≤ v3 then (some ((m.1 72 46), m)) else (if sm_ix v3 10 then ((fX12_enters (m.1 97 (v3).toNatClampNeg) m).bind fun m11 => fX12_pairsBy_51 n (v3 + (1 : Int32)) m11) else none)
def fX12_pairsBy (x1 : Int32) (m : sm_S) : Option (Int32 × sm_S) :=
  (fX12_hangTogether m).bind fun r2 => if r2.1 = 0 then (some ((-2 : Int32), r2.2)) else ((fX12_allHedges (sm_w1 (sm_w1 r2.2 72 46 (-1 : Int32)) 72 42 (0 : Int32))).bind fun r4 => (fX12_oddOf r4 (sm_w1 (sm_w1 r2.2 72 46 (-1 : Int32)) 72 42 (0 : Int32))).bind fun r6 => if r6 = 0 then ((fX12_couples r6 (0 : Int32) (0 : Int32) (sm_w1 (sm_w1 r2.2 72 46 (-1 : Int32)) 72 42 (0 : Int32))).bind fun m13 => fX12_pairsBy_51 sm_fu (0 : Int32) (sm_w1 m13 72 1 (0 : Int32))) else ((fX12_couples r6 x1 (0 : Int32) (sm_w1 (sm_w1 r2.2 72 46 (-1 : Int32)) 72 42 (0 : Int32))).bind fun m8 => fX12_pairsBy_51 sm_fu (0 : Int32) (sm_w1 m8 72 1 (0 : Int32))))
def fX12_closed (m : sm_S) : Option (Int32 × sm_S) :=
  (fX12_pairsBy (0 : Int32) (sm_w1 m 72 0 (0 : Int32))).bind fun r2 => some (r2.1, r2.2)
def fX12_open (m : sm_S) : Option (Int32 × sm_S) :=
  (fX12_pairsBy (2 : Int32) (sm_w1 m 72 0 (0 : Int32))).bind fun r2 => some (r2.1, r2.2)
def fX12_laysOut_73 (k49 : Int32 → Int32 → sm_S → Option (sm_S)) (k39 : Int32 → sm_S → Option (sm_S)) : Nat → Int32 → Int32 → Int32 → Int32 → sm_S → Option (sm_S)
  | 0, _, _, _, _, _ => none
  | n + 1, v2, v3, v4, v5, m =>
  if (m.1 72 6) ≤ v5 then (k49 v2 (v3 + (1 : Int32)) m) else (if (1000000 : Int32) ≤ v4 then (k49 v2 (v3 + (1 : Int32)) m) else ((fX12_has v2 v5 m).bind fun r6 => if r6 = 0 then ((fX12_isEnd v5 v3 m).bind fun r8 => if r8 = 0 then (fX12_laysOut_73 k49 k39 n v2 v3 v4 (v5 + (1 : Int32)) m) else ((fX12_endOf v5 v3 m).bind fun r10 => if sm_ix (((10 : Int32) * (v2 ||| ((1 : Int32) <<< (v5 &&& 31)))) + r10) 163840 then ((fX12_minutesFrom v5 v3 m).bind fun r13 => if sm_ix (((10 : Int32) * (v2 ||| ((1 : Int32) <<< (v5 &&& 31)))) + r10) 163840 then (fX12_laysOut_73 k49 k39 n v2 v3 v4 (v5 + (1 : Int32)) (sm_w1 m 98 (((10 : Int32) * (v2 ||| ((1 : Int32) <<< (v5 &&& 31)))) + r10).toNatClampNeg (if (v4 + r13) < (m.1 98 (((10 : Int32) * (v2 ||| ((1 : Int32) <<< (v5 &&& 31)))) + r10).toNatClampNeg) then (v4 + r13) else (m.1 98 (((10 : Int32) * (v2 ||| ((1 : Int32) <<< (v5 &&& 31)))) + r10).toNatClampNeg)))) else none) else none)) else (fX12_laysOut_73 k49 k39 n v2 v3 v4 (v5 + (1 : Int32)) m)))
def fX12_laysOut_49 (k39 : Int32 → sm_S → Option (sm_S)) : Nat → Int32 → Int32 → sm_S → Option (sm_S)
  | 0, _, _, _ => none
  | n + 1, v2, v3, m =>
  if (m.1 72 3) ≤ v3 then (k39 (v2 + (1 : Int32)) m) else (if sm_ix (((10 : Int32) * v2) + v3) 163840 then (fX12_laysOut_73 (fX12_laysOut_49 k39 n) k39 sm_fu v2 v3 (m.1 98 (((10 : Int32) * v2) + v3).toNatClampNeg) (0 : Int32) m) else none)
def fX12_laysOut_39 : Nat → Int32 → sm_S → Option (sm_S)
  | 0, _, _ => none
  | n + 1, v2, m =>
  (fX12_allHedges m).bind fun r3 => if r3 < v2 then (some m) else (fX12_laysOut_49 (fX12_laysOut_39 n) sm_fu v2 (0 : Int32) m)
def fX12_laysOut_2 : Nat → Int32 → Int32 → sm_S → Option (sm_S)
  | 0, _, _, _ => none
  | n + 1, v1, v2, m =>
  if (((1 : Int32) <<< ((m.1 72 6) &&& 31)) * (10 : Int32)) ≤ v2 then (if sm_ix v1 163840 then (fX12_laysOut_39 sm_fu (0 : Int32) (sm_w1 m 98 (v1).toNatClampNeg (0 : Int32))) else none) else (if sm_ix v2 163840 then (fX12_laysOut_2 n v1 (v2 + (1 : Int32)) (sm_w1 m 98 (v2).toNatClampNeg (1000000 : Int32))) else none)
def fX12_laysOut (x1 : Int32) (m : sm_S) : Option (sm_S) :=
  fX12_laysOut_2 sm_fu x1 (0 : Int32) m
def fX12_soonest_7 : Nat → Int32 → Int32 → Int32 → Int32 → sm_S → Option (Int32)
  | 0, _, _, _, _, _ => none
  | n + 1, v1, v2, v3, v4, m =>
  if (m.1 72 3) ≤ v4 then (some v3) else (if v2 < 0 then (if sm_ix (((10 : Int32) * v1) + v4) 163840 then (fX12_soonest_7 n v1 v2 (if (m.1 98 (((10 : Int32) * v1) + v4).toNatClampNeg) < v3 then (m.1 98 (((10 : Int32) * v1) + v4).toNatClampNeg) else v3) (v4 + (1 : Int32)) m) else none) else (if v2 = v4 then (if sm_ix (((10 : Int32) * v1) + v4) 163840 then (fX12_soonest_7 n v1 v2 (if (m.1 98 (((10 : Int32) * v1) + v4).toNatClampNeg) < v3 then (m.1 98 (((10 : Int32) * v1) + v4).toNatClampNeg) else v3) (v4 + (1 : Int32)) m) else none) else (fX12_soonest_7 n v1 v2 v3 (v4 + (1 : Int32)) m)))
def fX12_soonest (x1 : Int32) (x2 : Int32) (m : sm_S) : Option (Int32) :=
  fX12_soonest_7 sm_fu x1 x2 (1000000 : Int32) (0 : Int32) m
def fX12_worthOf_4 : Nat → Int32 → Int32 → Int32 → sm_S → Option (Int32)
  | 0, _, _, _, _ => none
  | n + 1, v1, v2, v3, m =>
  if (m.1 72 6) ≤ v3 then (some v2) else ((fX12_has v1 v3 m).bind fun r2 => if r2 = 0 then (fX12_worthOf_4 n v1 (v2 + (0 : Int32)) (v3 + (1 : Int32)) m) else (if sm_ix v3 14 then (fX12_worthOf_4 n v1 (v2 + (m.1 81 (v3).toNatClampNeg)) (v3 + (1 : Int32)) m) else none))
def fX12_worthOf (x1 : Int32) (m : sm_S) : Option (Int32) :=
  fX12_worthOf_4 sm_fu x1 (0 : Int32) (0 : Int32) m
def fX12_mostBy_17 : Nat → Int32 → Int32 → Int32 → Int32 → Int32 → Int32 → sm_S → Option (Int32 × sm_S)
  | 0, _, _, _, _, _, _, _ => none
  | n + 1, v2, v3, v4, v5, v6, v7, m =>
  (fX12_allHedges m).bind fun r4 => if r4 < v7 then ((fX12_enters v4 (sm_w1 m 72 1 (0 : Int32))).bind fun m6 => (fX12_enters v6 m6).bind fun m8 => some (v5, m8)) else ((fX12_soonest v7 v3 m).bind fun r10 => if r10 ≤ v2 then ((fX12_worthOf v7 m).bind fun r12 => if 0 < (r12 - v5) then ((fX12_worthOf v7 m).bind fun r14 => fX12_mostBy_17 n v2 v3 v7 r14 r10 (v7 + (1 : Int32)) m) else (if (r12 - v5) = 0 then (if v6 ≤ r10 then (fX12_mostBy_17 n v2 v3 v4 v5 v6 (v7 + (1 : Int32)) m) else ((fX12_worthOf v7 m).bind fun r16 => fX12_mostBy_17 n v2 v3 v7 r16 r10 (v7 + (1 : Int32)) m)) else (fX12_mostBy_17 n v2 v3 v4 v5 v6 (v7 + (1 : Int32)) m))) else (fX12_mostBy_17 n v2 v3 v4 v5 v6 (v7 + (1 : Int32)) m))
def fX12_mostBy (x1 : Int32) (x2 : Int32) (x3 : Int32) (m : sm_S) : Option (Int32 × sm_S) :=
  (fX12_laysOut x1 m).bind fun m2 => fX12_mostBy_17 sm_fu x2 x3 (0 : Int32) (0 : Int32) (0 : Int32) (0 : Int32) m2
def fX12_most (x1 : Int32) (x2 : Int32) (m : sm_S) : Option (Int32 × sm_S) :=
  (fX12_isCorner x1 (sm_w1 m 72 0 (0 : Int32))).bind fun r2 => if r2 = 0 then (some ((-1 : Int32), (sm_w1 m 72 0 (0 : Int32)))) else ((fX12_in (x2).toInt64 (0 : Int64) (9999 : Int64) (sm_w1 m 72 0 (0 : Int32))).bind fun r4 => if r4 = 0 then (some ((-1 : Int32), (sm_w1 m 72 0 (0 : Int32)))) else ((fX12_mostBy x1 x2 (-1 : Int32) (sm_w1 m 72 0 (0 : Int32))).bind fun r6 => some (r6.1, r6.2)))
def fX12_home (x1 : Int32) (x2 : Int32) (m : sm_S) : Option (Int32 × sm_S) :=
  (fX12_isCorner x1 (sm_w1 m 72 0 (0 : Int32))).bind fun r2 => if r2 = 0 then (some ((-1 : Int32), (sm_w1 m 72 0 (0 : Int32)))) else ((fX12_in (x2).toInt64 (0 : Int64) (9999 : Int64) (sm_w1 m 72 0 (0 : Int32))).bind fun r4 => if r4 = 0 then (some ((-1 : Int32), (sm_w1 m 72 0 (0 : Int32)))) else ((fX12_mostBy x1 x2 x1 (sm_w1 m 72 0 (0 : Int32))).bind fun r6 => some (r6.1, r6.2)))
def fX12_soon_42 : Nat → Int32 → Int32 → Int32 → Int32 → sm_S → Option (Int32 × sm_S)
  | 0, _, _, _, _, _ => none
  | n + 1, v2, v3, v4, v5, m =>
  (fX12_allHedges m).bind fun r8 => if r8 < v5 then (if 0 ≤ v3 then ((fX12_enters v3 (sm_w1 m 72 1 (0 : Int32))).bind fun m10 => some (v4, m10)) else (some ((-2 : Int32), m))) else ((fX12_worthOf v5 m).bind fun r12 => if r12 < v2 then (fX12_soon_42 n v2 v3 v4 (v5 + (1 : Int32)) m) else ((fX12_soonest v5 (-1 : Int32) m).bind fun r14 => if v4 ≤ r14 then (fX12_soon_42 n v2 v3 v4 (v5 + (1 : Int32)) m) else ((fX12_soonest v5 (-1 : Int32) m).bind fun r16 => fX12_soon_42 n v2 v5 r16 (v5 + (1 : Int32)) m)))
def fX12_soon (x1 : Int32) (x2 : Int32) (m : sm_S) : Option (Int32 × sm_S) :=
  (fX12_isCorner x1 (sm_w1 m 72 0 (0 : Int32))).bind fun r2 => if r2 = 0 then (some ((-1 : Int32), (sm_w1 m 72 0 (0 : Int32)))) else ((fX12_in (x2).toInt64 (0 : Int64) (200 : Int64) (sm_w1 m 72 0 (0 : Int32))).bind fun r4 => if r4 = 0 then (some ((-1 : Int32), (sm_w1 m 72 0 (0 : Int32)))) else ((fX12_laysOut x1 (sm_w1 m 72 0 (0 : Int32))).bind fun m6 => fX12_soon_42 sm_fu x2 (-1 : Int32) (1000000 : Int32) (0 : Int32) m6))
def fX12_bridges_9 : Nat → Int32 → Int32 → sm_S → Option (Int32 × sm_S)
  | 0, _, _, _ => none
  | n + 1, v1, v2, m =>
  if (m.1 72 6) ≤ v2 then (some (v1, m)) else ((fX12_allHedges m).bind fun r2 => (fX12_parts (r2 &&& (((1 : Int32) <<< (v2 &&& 31)) ^^^ (-1 : Int32))) m).bind fun m4 => if sm_ix v2 14 then (if sm_ix (m4.1 76 (v2).toNatClampNeg) 10 then (if sm_ix v2 14 then (if sm_ix (m4.1 77 (v2).toNatClampNeg) 10 then (if (m4.1 94 (m4.1 76 (v2).toNatClampNeg).toNatClampNeg) = (m4.1 94 (m4.1 77 (v2).toNatClampNeg).toNatClampNeg) then (fX12_bridges_9 n (v1 ||| (0 : Int32)) (v2 + (1 : Int32)) m4) else (fX12_bridges_9 n (v1 ||| ((1 : Int32) <<< (v2 &&& 31))) (v2 + (1 : Int32)) m4)) else none) else none) else none) else none)
def fX12_bridges (m : sm_S) : Option (Int32 × sm_S) :=
  fX12_bridges_9 sm_fu (0 : Int32) (0 : Int32) (sm_w1 m 72 0 (0 : Int32))
def fX12_reach_90 : Nat → Int32 → Int32 → sm_S → Option (Int32 × sm_S)
  | 0, _, _, _ => none
  | n + 1, v3, v4, m =>
  if (m.1 72 3) ≤ v4 then (some (v3, m)) else (if sm_ix v4 10 then (if sm_ix (m.1 72 17) 10 then (if (m.1 94 (v4).toNatClampNeg) = (m.1 94 (m.1 72 17).toNatClampNeg) then (fX12_reach_90 n (v3 ||| ((1 : Int32) <<< (v4 &&& 31))) (v4 + (1 : Int32)) m) else (fX12_reach_90 n (v3 ||| (0 : Int32)) (v4 + (1 : Int32)) m)) else none) else none)
def fX12_reach_39 : Nat → Int32 → Int32 → Int32 → sm_S → Option (Int32 × sm_S)
  | 0, _, _, _, _ => none
  | n + 1, v1, v2, v3, m =>
  if (m.1 72 6) ≤ v3 then ((fX12_parts v2 m).bind fun m6 => fX12_reach_90 sm_fu (0 : Int32) (0 : Int32) m6) else (if v3 = v1 then (fX12_reach_39 n v1 (v2 ||| (0 : Int32)) (v3 + (1 : Int32)) m) else ((fX12_isFresh v3 (m.1 72 18) m).bind fun r10 => if r10 = 0 then (fX12_reach_39 n v1 (v2 ||| (0 : Int32)) (v3 + (1 : Int32)) m) else (fX12_reach_39 n v1 (v2 ||| ((1 : Int32) <<< (v3 &&& 31))) (v3 + (1 : Int32)) m)))
def fX12_reach (x1 : Int32) (m : sm_S) : Option (Int32 × sm_S) :=
  if (m.1 72 3) = 0 then ((fX12_refuse (sm_w1 m 72 0 (0 : Int32))).bind fun r2 => some (r2.1, r2.2)) else ((fX12_in (x1).toInt64 (-1 : Int64) (((m.1 72 6) - (1 : Int32))).toInt64 (sm_w1 m 72 0 (0 : Int32))).bind fun r4 => if r4 = 0 then ((fX12_refuse (sm_w1 m 72 0 (0 : Int32))).bind fun r12 => some (r12.1, r12.2)) else (fX12_reach_39 sm_fu x1 (0 : Int32) (0 : Int32) (sm_w1 m 72 0 (0 : Int32))))
def fX12_shortens (x1 : Int32) (x2 : Int32) (x3 : Int32) (m : sm_S) : Option (sm_S) :=
  if sm_ix (((10 : Int32) * x1) + x2) 100 then (if sm_ix (((10 : Int32) * x1) + x2) 100 then (some (sm_w1 m 99 (((10 : Int32) * x1) + x2).toNatClampNeg (if x3 < (m.1 99 (((10 : Int32) * x1) + x2).toNatClampNeg) then x3 else (m.1 99 (((10 : Int32) * x1) + x2).toNatClampNeg)))) else none) else none
def fX12_measures_158 (k148 : Int32 → Int32 → sm_S → Option (sm_S)) (k138 : Int32 → sm_S → Option (sm_S)) : Nat → Int32 → Int32 → Int32 → sm_S → Option (sm_S)
  | 0, _, _, _, _ => none
  | n + 1, v1, v2, v3, m =>
  if (m.1 72 3) ≤ v3 then (k148 v1 (v2 + (1 : Int32)) m) else (if sm_ix (((10 : Int32) * v2) + v1) 100 then (if sm_ix (((10 : Int32) * v1) + v3) 100 then ((fX12_shortens v2 v3 ((m.1 99 (((10 : Int32) * v2) + v1).toNatClampNeg) + (m.1 99 (((10 : Int32) * v1) + v3).toNatClampNeg)) m).bind fun m4 => fX12_measures_158 k148 k138 n v1 v2 (v3 + (1 : Int32)) m4) else none) else none)
def fX12_measures_148 (k138 : Int32 → sm_S → Option (sm_S)) : Nat → Int32 → Int32 → sm_S → Option (sm_S)
  | 0, _, _, _ => none
  | n + 1, v1, v2, m =>
  if (m.1 72 3) ≤ v2 then (k138 (v1 + (1 : Int32)) m) else (fX12_measures_158 (fX12_measures_148 k138 n) k138 sm_fu v1 v2 (0 : Int32) m)
def fX12_measures_138 : Nat → Int32 → sm_S → Option (sm_S)
  | 0, _, _ => none
  | n + 1, v1, m =>
  if (m.1 72 3) ≤ v1 then (some m) else (fX12_measures_148 (fX12_measures_138 n) sm_fu v1 (0 : Int32) m)
def fX12_measures_57 : Nat → Int32 → sm_S → Option (sm_S)
  | 0, _, _ => none
  | n + 1, v1, m =>
  if (m.1 72 6) ≤ v1 then (fX12_measures_138 sm_fu (0 : Int32) m) else ((fX12_has (m.1 72 14) v1 m).bind fun r6 => if r6 = 0 then (if sm_ix v1 14 then (if sm_ix v1 14 then (if sm_ix v1 14 then ((fX12_minutesFrom v1 (m.1 76 (v1).toNatClampNeg) m).bind fun r11 => (fX12_shortens (m.1 76 (v1).toNatClampNeg) (m.1 77 (v1).toNatClampNeg) r11 m).bind fun m13 => if sm_ix v1 14 then (if sm_ix v1 14 then (if sm_ix v1 14 then ((fX12_minutesFrom v1 (m13.1 77 (v1).toNatClampNeg) m13).bind fun r18 => (fX12_shortens (m13.1 77 (v1).toNatClampNeg) (m13.1 76 (v1).toNatClampNeg) r18 m13).bind fun m20 => fX12_measures_57 n (v1 + (1 : Int32)) m20) else none) else none) else none) else none) else none) else none) else (fX12_measures_57 n (v1 + (1 : Int32)) m))
def fX12_measures_12 (k2 : Int32 → sm_S → Option (sm_S)) : Nat → Int32 → Int32 → sm_S → Option (sm_S)
  | 0, _, _, _ => none
  | n + 1, v1, v2, m =>
  if (m.1 72 3) ≤ v2 then (k2 (v1 + (1 : Int32)) m) else (if v1 = v2 then (if sm_ix (((10 : Int32) * v1) + v2) 100 then (fX12_measures_12 k2 n v1 (v2 + (1 : Int32)) (sm_w1 m 99 (((10 : Int32) * v1) + v2).toNatClampNeg (0 : Int32))) else none) else (if sm_ix (((10 : Int32) * v1) + v2) 100 then (fX12_measures_12 k2 n v1 (v2 + (1 : Int32)) (sm_w1 m 99 (((10 : Int32) * v1) + v2).toNatClampNeg (1000000 : Int32))) else none))
def fX12_measures_2 : Nat → Int32 → sm_S → Option (sm_S)
  | 0, _, _ => none
  | n + 1, v1, m =>
  if (m.1 72 3) ≤ v1 then (fX12_measures_57 sm_fu (0 : Int32) m) else (fX12_measures_12 (fX12_measures_2 n) sm_fu v1 (0 : Int32) m)
def fX12_measures (m : sm_S) : Option (sm_S) :=
  fX12_measures_2 sm_fu (0 : Int32) m
def fX12_gateBy (x1 : Int32) (x2 : Int32) (x3 : Int32) (x4 : Int32) (m : sm_S) : Option (Int32) :=
  if sm_ix (((10 : Int32) * x2) + x4) 100 then ((fX12_minutesFrom x3 x4 m).bind fun r3 => (fX12_endOf x3 x4 m).bind fun r5 => if sm_ix (((10 : Int32) * (x1 &&& (((1 : Int32) <<< (x3 &&& 31)) ^^^ (-1 : Int32)))) + r5) 163840 then (some (if (((m.1 99 (((10 : Int32) * x2) + x4).toNatClampNeg) + r3) + (m.1 98 (((10 : Int32) * (x1 &&& (((1 : Int32) <<< (x3 &&& 31)) ^^^ (-1 : Int32)))) + r5).toNatClampNeg)) < (1000000 : Int32) then (((m.1 99 (((10 : Int32) * x2) + x4).toNatClampNeg) + r3) + (m.1 98 (((10 : Int32) * (x1 &&& (((1 : Int32) <<< (x3 &&& 31)) ^^^ (-1 : Int32)))) + r5).toNatClampNeg)) else (1000000 : Int32))) else none) else none
def fX12_gateBest (x1 : Int32) (x2 : Int32) (x3 : Int32) (m : sm_S) : Option (Int32) :=
  if sm_ix x3 14 then ((fX12_gateBy x1 x2 x3 (m.1 76 (x3).toNatClampNeg) m).bind fun r3 => if sm_ix x3 14 then ((fX12_gateBy x1 x2 x3 (m.1 77 (x3).toNatClampNeg) m).bind fun r6 => some (if r6 < r3 then r6 else r3)) else none) else none
def fX12_laysOutGates_53 (k30 : Int32 → Int32 → sm_S → Option (sm_S)) (k6 : Int32 → sm_S → Option (sm_S)) : Nat → Int32 → Int32 → Int32 → Int32 → sm_S → Option (sm_S)
  | 0, _, _, _, _, _ => none
  | n + 1, v1, v2, v3, v4, m =>
  if (m.1 72 6) ≤ v4 then (if sm_ix (((10 : Int32) * v1) + v2) 163840 then (k30 v1 (v2 + (1 : Int32)) (sm_w1 m 98 (((10 : Int32) * v1) + v2).toNatClampNeg v3)) else none) else ((fX12_has v1 v4 m).bind fun r7 => if r7 = 0 then (fX12_laysOutGates_53 k30 k6 n v1 v2 v3 (v4 + (1 : Int32)) m) else ((fX12_gateBest v1 v2 v4 m).bind fun r9 => fX12_laysOutGates_53 k30 k6 n v1 v2 (if r9 < v3 then r9 else v3) (v4 + (1 : Int32)) m))
def fX12_laysOutGates_30 (k6 : Int32 → sm_S → Option (sm_S)) : Nat → Int32 → Int32 → sm_S → Option (sm_S)
  | 0, _, _, _ => none
  | n + 1, v1, v2, m =>
  if (m.1 72 3) ≤ v2 then (k6 (v1 + (1 : Int32)) m) else (if v1 = 0 then (fX12_laysOutGates_53 (fX12_laysOutGates_30 k6 n) k6 sm_fu v1 v2 (0 : Int32) (0 : Int32) m) else (fX12_laysOutGates_53 (fX12_laysOutGates_30 k6 n) k6 sm_fu v1 v2 (1000000 : Int32) (0 : Int32) m))
def fX12_laysOutGates_6 : Nat → Int32 → sm_S → Option (sm_S)
  | 0, _, _ => none
  | n + 1, v1, m =>
  (fX12_allHedges m).bind fun r4 => if r4 < v1 then (some m) else (if (v1 &&& ((m.1 72 14) ^^^ (-1 : Int32))) = 0 then (fX12_laysOutGates_30 (fX12_laysOutGates_6 n) sm_fu v1 (0 : Int32) m) else (fX12_laysOutGates_6 n (v1 + (1 : Int32)) m))
def fX12_laysOutGates (m : sm_S) : Option (sm_S) :=
  (fX12_measures m).bind fun m2 => fX12_laysOutGates_6 sm_fu (0 : Int32) m2
def fX12_isOnWay_6 : Nat → Int32 → Int32 → Int32 → Int32 → Int32 → sm_S → Option (Int32)
  | 0, _, _, _, _, _, _ => none
  | n + 1, v1, v2, v3, v4, v5, m =>
  if (m.1 72 3) ≤ v5 then (if narrow .boolean (.int v4) = .int v4 then some v4 else none) else (if v4 = 0 then (if sm_ix v5 10 then (if (1000000 : Int32) ≤ (m.1 100 (v5).toNatClampNeg) then (fX12_isOnWay_6 n v1 v2 v3 (0 : Int32) (v5 + (1 : Int32)) m) else (if sm_ix v5 10 then ((fX12_gateBest v1 v5 v2 m).bind fun r5 => if ((m.1 100 (v5).toNatClampNeg) + r5) = v3 then (fX12_isOnWay_6 n v1 v2 v3 (1 : Int32) (v5 + (1 : Int32)) m) else (fX12_isOnWay_6 n v1 v2 v3 (0 : Int32) (v5 + (1 : Int32)) m)) else none)) else none) else (fX12_isOnWay_6 n v1 v2 v3 (1 : Int32) (v5 + (1 : Int32)) m))
def fX12_isOnWay (x1 : Int32) (x2 : Int32) (x3 : Int32) (m : sm_S) : Option (Int32) :=
  fX12_isOnWay_6 sm_fu x1 x2 x3 (0 : Int32) (0 : Int32) m
def fX12_comesTo (x1 : Int32) (x2 : Int32) (m : sm_S) : Option (sm_S) :=
  if sm_ix x1 10 then (if sm_ix x1 10 then (some (sm_w1 m 101 (x1).toNatClampNeg (if (if x2 < (1000000 : Int32) then x2 else (1000000 : Int32)) < (m.1 101 (x1).toNatClampNeg) then (if x2 < (1000000 : Int32) then x2 else (1000000 : Int32)) else (m.1 101 (x1).toNatClampNeg)))) else none) else none
def fX12_goesThrough_145 : Nat → Int32 → sm_S → Option (sm_S)
  | 0, _, _ => none
  | n + 1, v2, m =>
  if (m.1 72 3) ≤ v2 then (some m) else (if sm_ix v2 10 then (if sm_ix v2 10 then (fX12_goesThrough_145 n (v2 + (1 : Int32)) (sm_w1 m 100 (v2).toNatClampNeg (m.1 101 (v2).toNatClampNeg))) else none) else none)
def fX12_goesThrough_27 : Nat → Int32 → Int32 → sm_S → Option (sm_S)
  | 0, _, _, _ => none
  | n + 1, v1, v2, m =>
  if (m.1 72 3) ≤ v2 then (fX12_goesThrough_145 sm_fu (0 : Int32) m) else (if sm_ix v2 10 then (if (1000000 : Int32) ≤ (m.1 100 (v2).toNatClampNeg) then (fX12_goesThrough_27 n v1 (v2 + (1 : Int32)) m) else (if sm_ix v1 14 then (if sm_ix v2 10 then (if sm_ix v1 14 then (if sm_ix (((10 : Int32) * v2) + (m.1 76 (v1).toNatClampNeg)) 100 then (if sm_ix v1 14 then ((fX12_minutesFrom v1 (m.1 76 (v1).toNatClampNeg) m).bind fun r10 => (fX12_comesTo (m.1 77 (v1).toNatClampNeg) (((m.1 100 (v2).toNatClampNeg) + (m.1 99 (((10 : Int32) * v2) + (m.1 76 (v1).toNatClampNeg)).toNatClampNeg)) + r10) m).bind fun m12 => if sm_ix v1 14 then (if sm_ix v2 10 then (if sm_ix v1 14 then (if sm_ix (((10 : Int32) * v2) + (m12.1 77 (v1).toNatClampNeg)) 100 then (if sm_ix v1 14 then ((fX12_minutesFrom v1 (m12.1 77 (v1).toNatClampNeg) m12).bind fun r19 => (fX12_comesTo (m12.1 76 (v1).toNatClampNeg) (((m12.1 100 (v2).toNatClampNeg) + (m12.1 99 (((10 : Int32) * v2) + (m12.1 77 (v1).toNatClampNeg)).toNatClampNeg)) + r19) m12).bind fun m21 => fX12_goesThrough_27 n v1 (v2 + (1 : Int32)) m21) else none) else none) else none) else none) else none) else none) else none) else none) else none) else none)) else none)
def fX12_goesThrough_2 : Nat → Int32 → Int32 → sm_S → Option (sm_S)
  | 0, _, _, _ => none
  | n + 1, v1, v2, m =>
  if (m.1 72 3) ≤ v2 then (fX12_goesThrough_27 sm_fu v1 (0 : Int32) m) else (if sm_ix v2 10 then (fX12_goesThrough_2 n v1 (v2 + (1 : Int32)) (sm_w1 m 101 (v2).toNatClampNeg (1000000 : Int32))) else none)
def fX12_goesThrough (x1 : Int32) (m : sm_S) : Option (sm_S) :=
  fX12_goesThrough_2 sm_fu x1 (0 : Int32) m
def fX12_gates_95 (k88 : Int32 → Int32 → sm_S → Option (Int32 × sm_S)) : Nat → Int32 → Int32 → Int32 → sm_S → Option (Int32 × sm_S)
  | 0, _, _, _, _ => none
  | n + 1, v2, v3, v4, m =>
  (fX12_has v3 v4 m).bind fun r7 => if r7 = 0 then (fX12_gates_95 k88 n v2 v3 (v4 + (1 : Int32)) m) else ((fX12_isOnWay v3 v4 v2 m).bind fun r9 => if r9 = 0 then (fX12_gates_95 k88 n v2 v3 (v4 + (1 : Int32)) m) else ((fX12_enters v4 m).bind fun m11 => (fX12_goesThrough v4 m11).bind fun m13 => k88 v2 (v3 &&& (((1 : Int32) <<< (v4 &&& 31)) ^^^ (-1 : Int32))) m13))
def fX12_gates_88 : Nat → Int32 → Int32 → sm_S → Option (Int32 × sm_S)
  | 0, _, _, _ => none
  | n + 1, v2, v3, m =>
  if v3 = 0 then (some (v2, m)) else (fX12_gates_95 (fX12_gates_88 n) sm_fu v2 v3 (0 : Int32) m)
def fX12_gates_46 : Nat → Int32 → Int32 → Int32 → sm_S → Option (Int32 × sm_S)
  | 0, _, _, _, _ => none
  | n + 1, v1, v2, v3, m =>
  if (m.1 72 3) ≤ v3 then (fX12_gates_88 sm_fu v2 (m.1 72 14) (sm_w1 m 72 1 (0 : Int32))) else (if v3 = v1 then (if sm_ix v3 10 then (fX12_gates_46 n v1 v2 (v3 + (1 : Int32)) (sm_w1 m 100 (v3).toNatClampNeg (0 : Int32))) else none) else (if sm_ix v3 10 then (fX12_gates_46 n v1 v2 (v3 + (1 : Int32)) (sm_w1 m 100 (v3).toNatClampNeg (1000000 : Int32))) else none))
def fX12_gates (x1 : Int32) (m : sm_S) : Option (Int32 × sm_S) :=
  (fX12_isCorner x1 (sm_w1 m 72 0 (0 : Int32))).bind fun r2 => if r2 = 0 then (some ((-1 : Int32), (sm_w1 m 72 0 (0 : Int32)))) else ((fX12_laysOutGates (sm_w1 m 72 0 (0 : Int32))).bind fun m4 => if sm_ix (((10 : Int32) * (m4.1 72 14)) + x1) 163840 then (if (m4.1 98 (((10 : Int32) * (m4.1 72 14)) + x1).toNatClampNeg) < (1000000 : Int32) then (fX12_gates_46 sm_fu x1 (m4.1 98 (((10 : Int32) * (m4.1 72 14)) + x1).toNatClampNeg) (0 : Int32) m4) else (some ((-2 : Int32), m4))) else none)
def fX12_heard (x1 : Int32) (x2 : Int32) (m : sm_S) : Option (Int32 × sm_S) :=
  (fX12_isHedge x1 (sm_w1 m 72 0 (0 : Int32))).bind fun r2 => if r2 = 0 then (some ((-1 : Int32), (sm_w1 m 72 0 (0 : Int32)))) else ((fX12_in (x2).toInt64 (0 : Int64) (6 : Int64) (sm_w1 m 72 0 (0 : Int32))).bind fun r4 => if r4 = 0 then (some ((-1 : Int32), (sm_w1 m 72 0 (0 : Int32)))) else (if (m.1 72 51) = (12 : Int32) then (some ((-1 : Int32), (sm_w1 m 72 0 (0 : Int32)))) else (if sm_ix (m.1 72 51) 12 then (if sm_ix (m.1 72 51) 12 then (some (((m.1 72 51) + (1 : Int32)), (sm_w1 (sm_w1 (sm_w1 (sm_w1 m 72 0 (0 : Int32)) 102 (m.1 72 51).toNatClampNeg x1) 103 (m.1 72 51).toNatClampNeg x2) 72 51 ((m.1 72 51) + (1 : Int32))))) else none) else none)))
def fX12_forget (m : sm_S) : Option (Int32 × sm_S) :=
  if (m.1 72 51) = 0 then (some ((-1 : Int32), (sm_w1 m 72 0 (0 : Int32)))) else (some (((m.1 72 51) - (1 : Int32)), (sm_w1 (sm_w1 m 72 0 (0 : Int32)) 72 51 ((m.1 72 51) - (1 : Int32)))))
def fX12_cowsOf (x1 : Int32) (x2 : Int32) (m : sm_S) : Option (Int32) :=
  some ((x1 >>> (((2 : Int32) * ((5 : Int32) - x2)) &&& 31)) &&& (3 : Int32))
def fX12_digitsOf_4 : Nat → Int32 → Int32 → Int32 → sm_S → Option (Int32)
  | 0, _, _, _, _ => none
  | n + 1, v0, v1, v2, m =>
  if (6 : Int32) ≤ v2 then (some v1) else ((fX12_cowsOf v0 v2 m).bind fun r2 => fX12_digitsOf_4 n v0 (((10 : Int32) * v1) + r2) (v2 + (1 : Int32)) m)
def fX12_digitsOf (x1 : Int32) (m : sm_S) : Option (Int32) :=
  fX12_digitsOf_4 sm_fu x1 (0 : Int32) (0 : Int32) m
def fX12_over (x1 : Int32) (x2 : Int32) (m : sm_S) : Option (Int32) :=
  if sm_ix x2 14 then ((fX12_cowsOf x1 (m.1 79 (x2).toNatClampNeg) m).bind fun r3 => if sm_ix x2 14 then ((fX12_cowsOf x1 (m.1 80 (x2).toNatClampNeg) m).bind fun r6 => some (r3 + r6)) else none) else none
def fX12_wrongOf_4 : Nat → Int32 → Int32 → Int32 → sm_S → Option (Int32)
  | 0, _, _, _, _ => none
  | n + 1, v1, v2, v3, m =>
  if (m.1 72 51) ≤ v3 then (some v2) else (if sm_ix v3 12 then ((fX12_over v1 (m.1 102 (v3).toNatClampNeg) m).bind fun r3 => if sm_ix v3 12 then (if r3 = (m.1 103 (v3).toNatClampNeg) then (fX12_wrongOf_4 n v1 (v2 ||| (0 : Int32)) (v3 + (1 : Int32)) m) else (fX12_wrongOf_4 n v1 (v2 ||| ((1 : Int32) <<< (v3 &&& 31))) (v3 + (1 : Int32)) m)) else none) else none)
def fX12_wrongOf (x1 : Int32) (m : sm_S) : Option (Int32) :=
  fX12_wrongOf_4 sm_fu x1 (0 : Int32) (0 : Int32) m
def fX12_lands_11 : Nat → Int32 → Int32 → Int32 → sm_S → Option (Int32 × sm_S)
  | 0, _, _, _, _ => none
  | n + 1, v1, v2, v3, m =>
  if (4096 : Int32) ≤ v3 then (if v1 ≤ 0 then (some (v1, (sm_w1 m 72 1 (0 : Int32)))) else ((fX12_digitsOf v2 (sm_w1 m 72 1 (0 : Int32))).bind fun r2 => (fX12_enters r2 (sm_w1 m 72 1 (0 : Int32))).bind fun m4 => some (v1, m4))) else ((fX12_wrongOf v3 m).bind fun r6 => if r6 = 0 then (if v1 = 0 then (fX12_lands_11 n (v1 + (1 : Int32)) v3 (v3 + (1 : Int32)) m) else (fX12_lands_11 n (v1 + (1 : Int32)) v2 (v3 + (1 : Int32)) m)) else (fX12_lands_11 n v1 v2 (v3 + (1 : Int32)) m))
def fX12_lands (m : sm_S) : Option (Int32 × sm_S) :=
  fX12_lands_11 sm_fu (0 : Int32) (0 : Int32) (0 : Int32) (sm_w1 m 72 0 (0 : Int32))
def fX12_sure_103 : Nat → Int32 → Int32 → Int32 → Int32 → sm_S → Option (Int32 × sm_S)
  | 0, _, _, _, _, _ => none
  | n + 1, v1, v2, v3, v4, m =>
  if (6 : Int32) ≤ v4 then (some (v3, m)) else ((fX12_has v2 v4 m).bind fun r2 => if r2 = 0 then ((fX12_cowsOf v1 v4 m).bind fun r4 => (fX12_enters r4 m).bind fun m6 => fX12_sure_103 n v1 v2 (v3 ||| ((1 : Int32) <<< (v4 &&& 31))) (v4 + (1 : Int32)) m6) else (fX12_sure_103 n v1 v2 v3 (v4 + (1 : Int32)) m))
def fX12_sure_42 (k11 : Int32 → Int32 → Int32 → sm_S → Option (Int32 × sm_S)) : Nat → Int32 → Int32 → Int32 → Int32 → sm_S → Option (Int32 × sm_S)
  | 0, _, _, _, _, _ => none
  | n + 1, v1, v2, v3, v4, m =>
  if (6 : Int32) ≤ v4 then (k11 v1 v2 (v3 + (1 : Int32)) m) else ((fX12_cowsOf v3 v4 m).bind fun r10 => (fX12_cowsOf v1 v4 m).bind fun r12 => if r10 = r12 then (fX12_sure_42 k11 n v1 (v2 ||| (0 : Int32)) v3 (v4 + (1 : Int32)) m) else (fX12_sure_42 k11 n v1 (v2 ||| ((1 : Int32) <<< (v4 &&& 31))) v3 (v4 + (1 : Int32)) m))
def fX12_sure_11 : Nat → Int32 → Int32 → Int32 → sm_S → Option (Int32 × sm_S)
  | 0, _, _, _, _ => none
  | n + 1, v1, v2, v3, m =>
  if (4096 : Int32) ≤ v3 then (if 0 ≤ v1 then (fX12_sure_103 sm_fu v1 v2 (0 : Int32) (0 : Int32) (sm_w1 m 72 1 (0 : Int32))) else (some ((0 : Int32), (sm_w1 m 72 1 (0 : Int32))))) else ((fX12_wrongOf v3 m).bind fun r8 => if r8 = 0 then (if 0 ≤ v1 then (fX12_sure_42 (fX12_sure_11 n) sm_fu v1 v2 v3 (0 : Int32) m) else (fX12_sure_42 (fX12_sure_11 n) sm_fu v3 v2 v3 (0 : Int32) m)) else (fX12_sure_11 n v1 v2 (v3 + (1 : Int32)) m))
def fX12_sure (m : sm_S) : Option (Int32 × sm_S) :=
  fX12_sure_11 sm_fu (-1 : Int32) (0 : Int32) (0 : Int32) (sm_w1 m 72 0 (0 : Int32))
def fX12_next_99 (k12 : Int32 → Int32 → Int32 → sm_S → Option (Int32 × sm_S)) : Nat → Int32 → Int32 → Int32 → Int32 → Int32 → sm_S → Option (Int32 × sm_S)
  | 0, _, _, _, _, _, _ => none
  | n + 1, v1, v2, v3, v4, v5, m =>
  if (7 : Int32) ≤ v5 then (if v4 ≤ 0 then (k12 v1 v2 (v3 + (1 : Int32)) m) else (if v1 < 0 then (k12 v3 v4 (v3 + (1 : Int32)) m) else (if v2 ≤ v4 then (k12 v1 v2 (v3 + (1 : Int32)) m) else (k12 v3 v4 (v3 + (1 : Int32)) m)))) else (if sm_ix v5 7 then (fX12_next_99 k12 n v1 v2 v3 (if v4 < (m.1 104 (v5).toNatClampNeg) then (m.1 104 (v5).toNatClampNeg) else v4) (v5 + (1 : Int32)) m) else none)
def fX12_next_47 (k12 : Int32 → Int32 → Int32 → sm_S → Option (Int32 × sm_S)) : Nat → Int32 → Int32 → Int32 → Int32 → sm_S → Option (Int32 × sm_S)
  | 0, _, _, _, _, _ => none
  | n + 1, v1, v2, v3, v4, m =>
  if (4096 : Int32) ≤ v4 then (fX12_next_99 k12 sm_fu v1 v2 v3 (0 : Int32) (0 : Int32) m) else ((fX12_over v4 v3 m).bind fun r5 => if sm_ix r5 7 then ((fX12_wrongOf v4 m).bind fun r8 => if r8 = 0 then ((fX12_flag (1 : Int32) m).bind fun r13 => if sm_ix r5 7 then (fX12_next_47 k12 n v1 v2 v3 (v4 + (1 : Int32)) (sm_w1 m 104 (r5).toNatClampNeg ((m.1 104 (r5).toNatClampNeg) + r13))) else none) else ((fX12_flag (0 : Int32) m).bind fun r10 => if sm_ix r5 7 then (fX12_next_47 k12 n v1 v2 v3 (v4 + (1 : Int32)) (sm_w1 m 104 (r5).toNatClampNeg ((m.1 104 (r5).toNatClampNeg) + r10))) else none)) else none)
def fX12_next_23 (k12 : Int32 → Int32 → Int32 → sm_S → Option (Int32 × sm_S)) : Nat → Int32 → Int32 → Int32 → Int32 → sm_S → Option (Int32 × sm_S)
  | 0, _, _, _, _, _ => none
  | n + 1, v1, v2, v3, v4, m =>
  if (7 : Int32) ≤ v4 then (fX12_next_47 k12 sm_fu v1 v2 v3 (0 : Int32) m) else (if sm_ix v4 7 then (fX12_next_23 k12 n v1 v2 v3 (v4 + (1 : Int32)) (sm_w1 m 104 (v4).toNatClampNeg (0 : Int32))) else none)
def fX12_next_12 : Nat → Int32 → Int32 → Int32 → sm_S → Option (Int32 × sm_S)
  | 0, _, _, _, _ => none
  | n + 1, v1, v2, v3, m =>
  if (m.1 72 6) ≤ v3 then (if 0 ≤ v1 then ((fX12_enters v2 (sm_w1 m 72 1 (0 : Int32))).bind fun m2 => some (v1, m2)) else (some ((-2 : Int32), m))) else (fX12_next_23 (fX12_next_12 n) sm_fu v1 v2 v3 (0 : Int32) m)
def fX12_next (m : sm_S) : Option (Int32 × sm_S) :=
  fX12_next_12 sm_fu (-2 : Int32) (0 : Int32) (0 : Int32) (sm_w1 m 72 0 (0 : Int32))
def fX12_lies_16 : Nat → Int32 → Int32 → sm_S → Option (Int32 × sm_S)
  | 0, _, _, _ => none
  | n + 1, v1, v2, m =>
  if (4096 : Int32) ≤ v2 then ((fX12_enters v1 (sm_w1 m 72 1 (0 : Int32))).bind fun m2 => (fJ6_bitCount_0f7a4 v1 m2).bind fun r4 => some (r4, m2)) else ((fX12_wrongOf v2 m).bind fun r6 => (fJ6_bitCount_0f7a4 r6 m).bind fun r8 => (fJ6_bitCount_0f7a4 v1 m).bind fun r10 => if (r8 - r10) < 0 then (fX12_lies_16 n r6 (v2 + (1 : Int32)) m) else (if (r8 - r10) = 0 then (if v1 ≤ r6 then (fX12_lies_16 n v1 (v2 + (1 : Int32)) m) else (fX12_lies_16 n r6 (v2 + (1 : Int32)) m)) else (fX12_lies_16 n v1 (v2 + (1 : Int32)) m)))
def fX12_lies (m : sm_S) : Option (Int32 × sm_S) :=
  fX12_lies_16 sm_fu (((1 : Int32) <<< ((m.1 72 51) &&& 31)) - (1 : Int32)) (0 : Int32) (sm_w1 m 72 0 (0 : Int32))
def fX12_holds_2 : Nat → Int32 → Int32 → sm_S → Option (Int32)
  | 0, _, _, _ => none
  | n + 1, v1, v2, m =>
  if (4096 : Int32) ≤ v2 then (some (0 : Int32)) else ((fX12_wrongOf v2 m).bind fun r2 => if (r2 &&& v1) = 0 then (some (1 : Int32)) else (fX12_holds_2 n v1 (v2 + (1 : Int32)) m))
def fX12_holds (x1 : Int32) (m : sm_S) : Option (Int32) :=
  fX12_holds_2 sm_fu x1 (0 : Int32) m
def fX12_quarrel_50 : Nat → Int32 → Int32 → Int32 → sm_S → Option (Int32 × sm_S)
  | 0, _, _, _, _ => none
  | n + 1, v1, v2, v3, m =>
  if v3 < 0 then ((fX12_enters v2 (sm_w1 m 72 1 (0 : Int32))).bind fun m2 => some (v1, m2)) else ((fX12_holds (((1 : Int32) <<< (v1 &&& 31)) ||| ((1 : Int32) <<< (v3 &&& 31))) m).bind fun r4 => if r4 = 0 then (fX12_quarrel_50 n v1 v3 (v3 + (-1 : Int32)) m) else (fX12_quarrel_50 n v1 v2 (v3 + (-1 : Int32)) m))
def fX12_quarrel_7 : Nat → Int32 → sm_S → Option (Int32 × sm_S)
  | 0, _, _ => none
  | n + 1, v1, m =>
  if (m.1 72 51) ≤ v1 then (if v1 = (m.1 72 51) then (some ((-2 : Int32), m)) else (fX12_quarrel_50 sm_fu v1 (-1 : Int32) (v1 - (1 : Int32)) m)) else ((fX12_holds (((2 : Int32) <<< (v1 &&& 31)) - (1 : Int32)) m).bind fun r6 => if r6 = 0 then (if v1 = (m.1 72 51) then (some ((-2 : Int32), m)) else (fX12_quarrel_50 sm_fu v1 (-1 : Int32) (v1 - (1 : Int32)) m)) else (fX12_quarrel_7 n (v1 + (1 : Int32)) m))
def fX12_quarrel (m : sm_S) : Option (Int32 × sm_S) :=
  fX12_quarrel_7 sm_fu (0 : Int32) (sm_w1 m 72 0 (0 : Int32))
def fX12_keep_55 : Nat → Int32 → Int32 → sm_S → Option (Int32 × sm_S)
  | 0, _, _, _ => none
  | n + 1, v2, v3, m =>
  if (14 : Int32) ≤ v3 then (some ((1 : Int32), m)) else (if (m.1 72 6) ≤ v3 then (if sm_ix ((v2 + (2 : Int32)) + v3) 48 then (fX12_keep_55 n v2 (v3 + (1 : Int32)) (sm_w1 m 106 ((v2 + (2 : Int32)) + v3).toNatClampNeg (-1 : Int32))) else none) else (if sm_ix v3 14 then (if sm_ix ((v2 + (2 : Int32)) + v3) 48 then (fX12_keep_55 n v2 (v3 + (1 : Int32)) (sm_w1 m 106 ((v2 + (2 : Int32)) + v3).toNatClampNeg (m.1 83 (v3).toNatClampNeg))) else none) else none))
def fX12_keep (x1 : Int32) (m : sm_S) : Option (Int32 × sm_S) :=
  (fX12_in (x1).toInt64 (0 : Int64) (2 : Int64) (sm_w1 m 72 0 (0 : Int32))).bind fun r2 => if r2 = 0 then (some ((0 : Int32), (sm_w1 m 72 0 (0 : Int32)))) else (if sm_ix x1 3 then (if sm_ix ((16 : Int32) * x1) 48 then (if sm_ix (((16 : Int32) * x1) + (1 : Int32)) 48 then (fX12_keep_55 sm_fu ((16 : Int32) * x1) (0 : Int32) (sm_w1 (sm_w1 (sm_w1 (sm_w1 m 72 0 (0 : Int32)) 105 (x1).toNatClampNeg (vp_nar .boolean (1 : Int32))) 106 ((16 : Int32) * x1).toNatClampNeg (m.1 72 17)) 106 (((16 : Int32) * x1) + (1 : Int32)).toNatClampNeg (m.1 72 18))) else none) else none) else none)
def fX12_again_57 : Nat → Int32 → Int32 → sm_S → Option (Int32 × sm_S)
  | 0, _, _, _ => none
  | n + 1, v2, v3, m =>
  if (14 : Int32) ≤ v3 then (some ((1 : Int32), (sm_w1 m 72 27 (0 : Int32)))) else (if sm_ix ((v2 + (2 : Int32)) + v3) 48 then (if sm_ix v3 14 then (fX12_again_57 n v2 (v3 + (1 : Int32)) (sm_w1 m 83 (v3).toNatClampNeg (m.1 106 ((v2 + (2 : Int32)) + v3).toNatClampNeg))) else none) else none)
def fX12_again (x1 : Int32) (m : sm_S) : Option (Int32 × sm_S) :=
  (fX12_in (x1).toInt64 (0 : Int64) (2 : Int64) (sm_w1 m 72 0 (0 : Int32))).bind fun r2 => if r2 = 0 then (some ((0 : Int32), (sm_w1 m 72 0 (0 : Int32)))) else (if sm_ix x1 3 then (if (m.1 105 (x1).toNatClampNeg) = 0 then (some ((0 : Int32), (sm_w1 m 72 0 (0 : Int32)))) else (if sm_ix ((16 : Int32) * x1) 48 then (if sm_ix (((16 : Int32) * x1) + (1 : Int32)) 48 then (fX12_again_57 sm_fu ((16 : Int32) * x1) (0 : Int32) (sm_w1 (sm_w1 (sm_w1 m 72 0 (0 : Int32)) 72 17 (m.1 106 ((16 : Int32) * x1).toNatClampNeg)) 72 18 (m.1 106 (((16 : Int32) * x1) + (1 : Int32)).toNatClampNeg))) else none) else none)) else none)
def fX12_count (x1 : Int32) (m : sm_S) : Option (Int32 × sm_S) :=
  if x1 = (0 : Int32) then (some ((m.1 72 3), (sm_w1 m 72 0 (0 : Int32)))) else (if x1 = (1 : Int32) then (some ((m.1 72 6), (sm_w1 m 72 0 (0 : Int32)))) else (if x1 = (2 : Int32) then (if (m.1 72 3) = 0 then (some ((-1 : Int32), (sm_w1 m 72 0 (0 : Int32)))) else (some ((m.1 72 17), (sm_w1 m 72 0 (0 : Int32))))) else (if x1 = (3 : Int32) then (some ((m.1 72 18), (sm_w1 m 72 0 (0 : Int32)))) else (if x1 = (4 : Int32) then (some ((m.1 72 27), (sm_w1 m 72 0 (0 : Int32)))) else (if x1 = (5 : Int32) then (some ((m.1 72 51), (sm_w1 m 72 0 (0 : Int32)))) else (if x1 = (6 : Int32) then (some ((m.1 72 1), (sm_w1 m 72 0 (0 : Int32)))) else (if x1 = (7 : Int32) then (some ((m.1 72 21), (sm_w1 m 72 0 (0 : Int32)))) else (if x1 = (8 : Int32) then (some ((m.1 72 15), (sm_w1 m 72 0 (0 : Int32)))) else (if x1 = (9 : Int32) then (some ((m.1 72 16), (sm_w1 m 72 0 (0 : Int32)))) else (some ((-1 : Int32), (sm_w1 m 72 0 (0 : Int32)))))))))))))
def fX12_row (x1 : Int32) (m : sm_S) : Option (Int32 × sm_S) :=
  (fX12_in (x1).toInt64 (0 : Int64) (((m.1 72 1) - (1 : Int32))).toInt64 (sm_w1 m 72 0 (0 : Int32))).bind fun r2 => if r2 = 0 then (some ((0 : Int32), (sm_w1 (sm_w1 m 72 0 (0 : Int32)) 72 0 (1 : Int32)))) else (if sm_ix x1 24 then (some ((m.1 73 (x1).toNatClampNeg), (sm_w1 m 72 0 (0 : Int32)))) else none)
