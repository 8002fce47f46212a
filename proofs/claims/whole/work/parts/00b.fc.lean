/-! the functions of the class's methods -/
def tw_ST_ref (p0 : Int32) (p1 : Int32) : Int32 :=
  (p1 <<< ((5 : Int32) &&& 31)) ||| p0
def tw_ST_kindOf (p0 : Int32) : Int32 :=
  p0 &&& 31
def tw_ST_placeOf (p0 : Int32) : Int32 :=
  (p0.toUInt32 >>> ((5 : Int32).toUInt32 &&& Int32.toUInt32 31)).toInt32
def tw_ST_classOf (p0 : Int32) : Int32 :=
  if (p0 &&& 31) = 2 then
    3
  else
    if (p0 &&& 31) = 3 then
      4
    else
      if (p0 &&& 31) = 4 then
        5
      else
        if (p0 &&& 31) = 8 then
          6
        else
          if (p0 &&& 31) = 10 then
            1
          else
            if (p0 &&& 31) = 16 then
              2
            else
              if (p0 &&& 31) = 18 then
                2
              else
                0
def tw_ST_at (b : Nat → UInt8) (p0 : Int32) : Int32 :=
  if p0 < 0 then
    0
  else
    if 202000 ≤ p0 then
      0
    else
      (by_ b p0.toNatClampNeg) &&& 255
def tw_ST_valueOf_h19 (b : Nat → UInt8) (p0 : Int32) : Nat → Int32 → Int32
  | 0, _ => 0
  | n + 1, x2 =>
    if 202000 ≤ x2 then
      0
    else
      if (by_ b x2.toNatClampNeg) = 0 then
        ((x2 + 1) <<< ((5 : Int32) &&& 31)) ||| ((by_ b p0.toNatClampNeg) &&& 31)
      else
        tw_ST_valueOf_h19 b p0 n (x2 + 1)
def tw_ST_valueOf (b : Nat → UInt8) (p0 : Int32) : Int32 :=
  if p0 < 0 then
    0
  else
    if p0 < 202000 then
      tw_ST_valueOf_h19 b p0 ((((202000 : Int32).toInt - (p0 + 1).toInt).toNat) + 1) (p0 + 1)
    else
      0
def tw_JI_compare (p0 : Int32) (p1 : Int32) : Int32 :=
  if p1 ≤ p0 then
    if p0 = p1 then
      0
    else
      1
  else
    (-1)
def tw_JL_compare (p0 : Int64) (p1 : Int64) : Int32 :=
  if 0 ≤ (lg_cmp p0 p1) then
    if (lg_cmp p0 p1) = 0 then
      0
    else
      1
  else
    (-1)
def tw_ST_int32 (b : Nat → UInt8) (p0 : Int32) : Int32 :=
  if p0 < 0 then
    0
  else
    if p0 ≤ ((202000 : Int32) - 4) then
      ((((by_ b p0.toNatClampNeg) &&& 255) ||| (((by_ b (p0 + 1).toNatClampNeg) &&& 255) <<< ((8 : Int32) &&& 31))) ||| (((by_ b (p0 + 2).toNatClampNeg) &&& 255) <<< ((16 : Int32) &&& 31))) ||| (((by_ b (p0 + 3).toNatClampNeg) &&& 255) <<< ((24 : Int32) &&& 31))
    else
      0
def tw_ST_number (b : Nat → UInt8) (p0 : Int32) : Int64 :=
  if (tw_ST_kindOf p0) = 18 then
    (((tw_ST_int32 b ((tw_ST_placeOf p0) + 4)).toInt64) <<< ((32 : Int32).toInt64 &&& 63)) ||| (((tw_ST_int32 b (tw_ST_placeOf p0)).toInt64) &&& 4294967295)
  else
    (tw_ST_int32 b (tw_ST_placeOf p0)).toInt64
def tw_ST_endOf (b : Nat → UInt8) (p0 : Int32) : Int32 :=
  if (p0 &&& 31) = 2 then
    if ((p0.toUInt32 >>> ((5 : Int32).toUInt32 &&& Int32.toUInt32 31)).toInt32) ≤ ((202000 : Int32) - 4) then
      if (p0 &&& 31) = 2 then
        (((p0.toUInt32 >>> ((5 : Int32).toUInt32 &&& Int32.toUInt32 31)).toInt32) + 4) + (((((by_ b ((p0.toUInt32 >>> ((5 : Int32).toUInt32 &&& Int32.toUInt32 31)).toInt32).toNatClampNeg) &&& 255) ||| (((by_ b (((p0.toUInt32 >>> ((5 : Int32).toUInt32 &&& Int32.toUInt32 31)).toInt32) + 1).toNatClampNeg) &&& 255) <<< ((8 : Int32) &&& 31))) ||| (((by_ b (((p0.toUInt32 >>> ((5 : Int32).toUInt32 &&& Int32.toUInt32 31)).toInt32) + 2).toNatClampNeg) &&& 255) <<< ((16 : Int32) &&& 31))) ||| (((by_ b (((p0.toUInt32 >>> ((5 : Int32).toUInt32 &&& Int32.toUInt32 31)).toInt32) + 3).toNatClampNeg) &&& 255) <<< ((24 : Int32) &&& 31)))
      else
        ((p0.toUInt32 >>> ((5 : Int32).toUInt32 &&& Int32.toUInt32 31)).toInt32) + (((((by_ b ((p0.toUInt32 >>> ((5 : Int32).toUInt32 &&& Int32.toUInt32 31)).toInt32).toNatClampNeg) &&& 255) ||| (((by_ b (((p0.toUInt32 >>> ((5 : Int32).toUInt32 &&& Int32.toUInt32 31)).toInt32) + 1).toNatClampNeg) &&& 255) <<< ((8 : Int32) &&& 31))) ||| (((by_ b (((p0.toUInt32 >>> ((5 : Int32).toUInt32 &&& Int32.toUInt32 31)).toInt32) + 2).toNatClampNeg) &&& 255) <<< ((16 : Int32) &&& 31))) ||| (((by_ b (((p0.toUInt32 >>> ((5 : Int32).toUInt32 &&& Int32.toUInt32 31)).toInt32) + 3).toNatClampNeg) &&& 255) <<< ((24 : Int32) &&& 31)))
    else
      (p0.toUInt32 >>> ((5 : Int32).toUInt32 &&& Int32.toUInt32 31)).toInt32
  else
    if (p0 &&& 31) = 3 then
      if ((p0.toUInt32 >>> ((5 : Int32).toUInt32 &&& Int32.toUInt32 31)).toInt32) ≤ ((202000 : Int32) - 4) then
        if (p0 &&& 31) = 2 then
          (((p0.toUInt32 >>> ((5 : Int32).toUInt32 &&& Int32.toUInt32 31)).toInt32) + 4) + (((((by_ b ((p0.toUInt32 >>> ((5 : Int32).toUInt32 &&& Int32.toUInt32 31)).toInt32).toNatClampNeg) &&& 255) ||| (((by_ b (((p0.toUInt32 >>> ((5 : Int32).toUInt32 &&& Int32.toUInt32 31)).toInt32) + 1).toNatClampNeg) &&& 255) <<< ((8 : Int32) &&& 31))) ||| (((by_ b (((p0.toUInt32 >>> ((5 : Int32).toUInt32 &&& Int32.toUInt32 31)).toInt32) + 2).toNatClampNeg) &&& 255) <<< ((16 : Int32) &&& 31))) ||| (((by_ b (((p0.toUInt32 >>> ((5 : Int32).toUInt32 &&& Int32.toUInt32 31)).toInt32) + 3).toNatClampNeg) &&& 255) <<< ((24 : Int32) &&& 31)))
        else
          ((p0.toUInt32 >>> ((5 : Int32).toUInt32 &&& Int32.toUInt32 31)).toInt32) + (((((by_ b ((p0.toUInt32 >>> ((5 : Int32).toUInt32 &&& Int32.toUInt32 31)).toInt32).toNatClampNeg) &&& 255) ||| (((by_ b (((p0.toUInt32 >>> ((5 : Int32).toUInt32 &&& Int32.toUInt32 31)).toInt32) + 1).toNatClampNeg) &&& 255) <<< ((8 : Int32) &&& 31))) ||| (((by_ b (((p0.toUInt32 >>> ((5 : Int32).toUInt32 &&& Int32.toUInt32 31)).toInt32) + 2).toNatClampNeg) &&& 255) <<< ((16 : Int32) &&& 31))) ||| (((by_ b (((p0.toUInt32 >>> ((5 : Int32).toUInt32 &&& Int32.toUInt32 31)).toInt32) + 3).toNatClampNeg) &&& 255) <<< ((24 : Int32) &&& 31)))
      else
        (p0.toUInt32 >>> ((5 : Int32).toUInt32 &&& Int32.toUInt32 31)).toInt32
    else
      if (p0 &&& 31) = 4 then
        if ((p0.toUInt32 >>> ((5 : Int32).toUInt32 &&& Int32.toUInt32 31)).toInt32) ≤ ((202000 : Int32) - 4) then
          if (p0 &&& 31) = 2 then
            (((p0.toUInt32 >>> ((5 : Int32).toUInt32 &&& Int32.toUInt32 31)).toInt32) + 4) + (((((by_ b ((p0.toUInt32 >>> ((5 : Int32).toUInt32 &&& Int32.toUInt32 31)).toInt32).toNatClampNeg) &&& 255) ||| (((by_ b (((p0.toUInt32 >>> ((5 : Int32).toUInt32 &&& Int32.toUInt32 31)).toInt32) + 1).toNatClampNeg) &&& 255) <<< ((8 : Int32) &&& 31))) ||| (((by_ b (((p0.toUInt32 >>> ((5 : Int32).toUInt32 &&& Int32.toUInt32 31)).toInt32) + 2).toNatClampNeg) &&& 255) <<< ((16 : Int32) &&& 31))) ||| (((by_ b (((p0.toUInt32 >>> ((5 : Int32).toUInt32 &&& Int32.toUInt32 31)).toInt32) + 3).toNatClampNeg) &&& 255) <<< ((24 : Int32) &&& 31)))
          else
            ((p0.toUInt32 >>> ((5 : Int32).toUInt32 &&& Int32.toUInt32 31)).toInt32) + (((((by_ b ((p0.toUInt32 >>> ((5 : Int32).toUInt32 &&& Int32.toUInt32 31)).toInt32).toNatClampNeg) &&& 255) ||| (((by_ b (((p0.toUInt32 >>> ((5 : Int32).toUInt32 &&& Int32.toUInt32 31)).toInt32) + 1).toNatClampNeg) &&& 255) <<< ((8 : Int32) &&& 31))) ||| (((by_ b (((p0.toUInt32 >>> ((5 : Int32).toUInt32 &&& Int32.toUInt32 31)).toInt32) + 2).toNatClampNeg) &&& 255) <<< ((16 : Int32) &&& 31))) ||| (((by_ b (((p0.toUInt32 >>> ((5 : Int32).toUInt32 &&& Int32.toUInt32 31)).toInt32) + 3).toNatClampNeg) &&& 255) <<< ((24 : Int32) &&& 31)))
        else
          (p0.toUInt32 >>> ((5 : Int32).toUInt32 &&& Int32.toUInt32 31)).toInt32
      else
        if (p0 &&& 31) = 18 then
          ((p0.toUInt32 >>> ((5 : Int32).toUInt32 &&& Int32.toUInt32 31)).toInt32) + 8
        else
          if (p0 &&& 31) = 16 then
            ((p0.toUInt32 >>> ((5 : Int32).toUInt32 &&& Int32.toUInt32 31)).toInt32) + 4
          else
            if (p0 &&& 31) = 8 then
              ((p0.toUInt32 >>> ((5 : Int32).toUInt32 &&& Int32.toUInt32 31)).toInt32) + 1
            else
              ((p0.toUInt32 >>> ((5 : Int32).toUInt32 &&& Int32.toUInt32 31)).toInt32) + 0
def tw_ST_countParts_h21 (b : Nat → UInt8) (x2 : Int32) : Nat → Int32 → Int32 → Int32 → Int32
  | 0, _, _, _ => 0
  | n + 1, x3, x4, x5 =>
    if 1000 ≤ x5 then
      x4
    else
      if x2 ≤ x3 then
        x4
      else
        tw_ST_countParts_h21 b x2 n (tw_ST_endOf b (tw_ST_valueOf b x3)) (x4 + 1) (x5 + 1)
def tw_ST_countParts (b : Nat → UInt8) (p0 : Int32) : Int32 :=
  tw_ST_countParts_h21 b ((tw_ST_endOf b p0) - 1) ((((1000 : Int32).toInt - (0 : Int32).toInt).toNat) + 1) ((tw_ST_placeOf p0) + 4) 0 0
def tw_ST_compareBytes_h49 (b : Nat → UInt8) (p0 : Int32) (p1 : Int32) (p2 : Int32) (p3 : Int32) (x5 : Int32) : Nat → Int32 → Int32
  | 0, _ => 0
  | n + 1, x6 =>
    if x5 ≤ x6 then
      tw_JI_compare (p1 - p0) (p3 - p2)
    else
      if (((by_ b (p0 + x6).toNatClampNeg) &&& 255) - ((by_ b (p2 + x6).toNatClampNeg) &&& 255)) = 0 then
        tw_ST_compareBytes_h49 b p0 p1 p2 p3 x5 n (x6 + 1)
      else
        if 0 ≤ (((by_ b (p0 + x6).toNatClampNeg) &&& 255) - ((by_ b (p2 + x6).toNatClampNeg) &&& 255)) then
          1
        else
          (-1)
def tw_ST_compareBytes (b : Nat → UInt8) (p0 : Int32) (p1 : Int32) (p2 : Int32) (p3 : Int32) : Int32 :=
  if p0 < 0 then
    0
  else
    if p2 < 0 then
      0
    else
      if (202000 - p0) < (if (p3 - p2) < (p1 - p0) then (p3 - p2) else (p1 - p0)) then
        0
      else
        if (if (p3 - p2) < (p1 - p0) then (p3 - p2) else (p1 - p0)) ≤ (202000 - p2) then
          tw_ST_compareBytes_h49 b p0 p1 p2 p3 (if (p3 - p2) < (p1 - p0) then (p3 - p2) else (p1 - p0)) ((((if (p3 - p2) < (p1 - p0) then (p3 - p2) else (p1 - p0)).toInt - (0 : Int32).toInt).toNat) + 1) 0
        else
          0
def tw_ST_find_h20 (b : Nat → UInt8) (p1 : Int32) (p2 : Int32) (x4 : Int32) : Nat → Int32 → Int32 → Int32
  | 0, _, _ => 0
  | n + 1, x5, x6 =>
    if 1000 ≤ x6 then
      0
    else
      if x4 ≤ x5 then
        0
      else
        if ((((tw_ST_placeOf (tw_ST_valueOf b x5)) - 1) - x5) - 1) = (p2 - p1) then
          if (tw_ST_compareBytes b (x5 + 1) ((tw_ST_placeOf (tw_ST_valueOf b x5)) - 1) p1 p2) = 0 then
            tw_ST_valueOf b x5
          else
            tw_ST_find_h20 b p1 p2 x4 n (tw_ST_endOf b (tw_ST_valueOf b x5)) (x6 + 1)
        else
          tw_ST_find_h20 b p1 p2 x4 n (tw_ST_endOf b (tw_ST_valueOf b x5)) (x6 + 1)
def tw_ST_find (b : Nat → UInt8) (p0 : Int32) (p1 : Int32) (p2 : Int32) : Int32 :=
  tw_ST_find_h20 b p1 p2 ((tw_ST_endOf b p0) - 1) ((((1000 : Int32).toInt - (0 : Int32).toInt).toNat) + 1) ((tw_ST_placeOf p0) + 4) 0
def tw_ST_item_h19 (b : Nat → UInt8) (p1 : Int32) (x3 : Int32) : Nat → Int32 → Int32 → Int32
  | 0, _, _ => 0
  | n + 1, x4, x5 =>
    if 1000 ≤ x5 then
      0
    else
      if x3 ≤ x4 then
        0
      else
        if x5 = p1 then
          tw_ST_valueOf b x4
        else
          tw_ST_item_h19 b p1 x3 n (tw_ST_endOf b (tw_ST_valueOf b x4)) (x5 + 1)
def tw_ST_item (b : Nat → UInt8) (p0 : Int32) (p1 : Int32) : Int32 :=
  tw_ST_item_h19 b p1 ((tw_ST_endOf b p0) - 1) ((((1000 : Int32).toInt - (0 : Int32).toInt).toNat) + 1) ((tw_ST_placeOf p0) + 4) 0
def tw_ST_isPlain_h19 (b : Nat → UInt8) (p1 : Int32) : Nat → Int32 → Bool
  | 0, _ => false
  | n + 1, x3 =>
    if p1 ≤ x3 then
      true
    else
      if (tw_ST_at b x3) = 46 then
        false
      else
        if (tw_ST_at b x3) = 0 then
          false
        else
          tw_ST_isPlain_h19 b p1 n (x3 + 1)
def tw_ST_isPlain (b : Nat → UInt8) (p0 : Int32) (p1 : Int32) : Bool :=
  if p1 ≤ p0 then
    false
  else
    if (tw_ST_at b p0) = 36 then
      false
    else
      tw_ST_isPlain_h19 b p1 (((p1.toInt - p0.toInt).toNat) + 1) p0
def tw_ST_indexNamed_h37 (b : Nat → UInt8) (p1 : Int32) : Nat → Int32 → Int32 → Int32
  | 0, _, _ => 0
  | n + 1, x4, x5 =>
    if p1 ≤ x5 then
      x4
    else
      if (tw_ST_at b x5) < 48 then
        (-1)
      else
        if (tw_ST_at b x5) ≤ 57 then
          tw_ST_indexNamed_h37 b p1 n (((x4 * 10) + (tw_ST_at b x5)) - 48) (x5 + 1)
        else
          (-1)
def tw_ST_indexNamed (b : Nat → UInt8) (p0 : Int32) (p1 : Int32) : Int32 :=
  if (p1 - p0) < 1 then
    (-1)
  else
    if 4 < (p1 - p0) then
      (-1)
    else
      if (p1 - p0) ≤ 1 then
        tw_ST_indexNamed_h37 b p1 (((p1.toInt - p0.toInt).toNat) + 1) 0 p0
      else
        if (tw_ST_at b p0) = 48 then
          (-1)
        else
          tw_ST_indexNamed_h37 b p1 (((p1.toInt - p0.toInt).toNat) + 1) 0 p0
def tw_ST_compareParts_h52 (fc : Int32 → Int32 → Int32) (b : Nat → UInt8) (p2 : Int32) (x4 : Int32) (x5 : Int32) (x6 : Int32) : Nat → Int32 → Int32 → Int32 → Int32
  | 0, _, _, _ => 0
  | n + 1, x7, x8, x9 =>
    if 1000 ≤ x9 then
      if x5 ≤ x7 then
        if x6 ≤ x8 then
          tw_JI_compare 0 0
        else
          tw_JI_compare 0 1
      else
        if x6 ≤ x8 then
          tw_JI_compare 1 0
        else
          tw_JI_compare 1 1
    else
      if x5 ≤ x7 then
        if x5 ≤ x7 then
          if x6 ≤ x8 then
            tw_JI_compare 0 0
          else
            tw_JI_compare 0 1
        else
          if x6 ≤ x8 then
            tw_JI_compare 1 0
          else
            tw_JI_compare 1 1
      else
        if x6 ≤ x8 then
          if x5 ≤ x7 then
            if x6 ≤ x8 then
              tw_JI_compare 0 0
            else
              tw_JI_compare 0 1
          else
            if x6 ≤ x8 then
              tw_JI_compare 1 0
            else
              tw_JI_compare 1 1
        else
          if (tw_JI_compare (tw_ST_classOf (tw_ST_valueOf b x7)) (tw_ST_classOf (tw_ST_valueOf b x8))) = 0 then
            if x4 = 0 then
              if (tw_JI_compare (tw_ST_classOf (tw_ST_valueOf b x7)) (tw_ST_classOf (tw_ST_valueOf b x8))) = 0 then
                if (fc (tw_ST_valueOf b x7) (tw_ST_valueOf b x8)) = 0 then
                  tw_ST_compareParts_h52 fc b p2 x4 x5 x6 n (tw_ST_endOf b (tw_ST_valueOf b x7)) (tw_ST_endOf b (tw_ST_valueOf b x8)) (x9 + 1)
                else
                  fc (tw_ST_valueOf b x7) (tw_ST_valueOf b x8)
              else
                if (tw_JI_compare (tw_ST_classOf (tw_ST_valueOf b x7)) (tw_ST_classOf (tw_ST_valueOf b x8))) = 0 then
                  tw_ST_compareParts_h52 fc b p2 x4 x5 x6 n (tw_ST_endOf b (tw_ST_valueOf b x7)) (tw_ST_endOf b (tw_ST_valueOf b x8)) (x9 + 1)
                else
                  tw_JI_compare (tw_ST_classOf (tw_ST_valueOf b x7)) (tw_ST_classOf (tw_ST_valueOf b x8))
            else
              if (tw_ST_compareBytes b (x7 + 1) ((tw_ST_placeOf (tw_ST_valueOf b x7)) - 1) (x8 + 1) ((tw_ST_placeOf (tw_ST_valueOf b x8)) - 1)) = 0 then
                if (fc (tw_ST_valueOf b x7) (tw_ST_valueOf b x8)) = 0 then
                  tw_ST_compareParts_h52 fc b p2 x4 x5 x6 n (tw_ST_endOf b (tw_ST_valueOf b x7)) (tw_ST_endOf b (tw_ST_valueOf b x8)) (x9 + 1)
                else
                  fc (tw_ST_valueOf b x7) (tw_ST_valueOf b x8)
              else
                if (tw_ST_compareBytes b (x7 + 1) ((tw_ST_placeOf (tw_ST_valueOf b x7)) - 1) (x8 + 1) ((tw_ST_placeOf (tw_ST_valueOf b x8)) - 1)) = 0 then
                  tw_ST_compareParts_h52 fc b p2 x4 x5 x6 n (tw_ST_endOf b (tw_ST_valueOf b x7)) (tw_ST_endOf b (tw_ST_valueOf b x8)) (x9 + 1)
                else
                  tw_ST_compareBytes b (x7 + 1) ((tw_ST_placeOf (tw_ST_valueOf b x7)) - 1) (x8 + 1) ((tw_ST_placeOf (tw_ST_valueOf b x8)) - 1)
          else
            if (tw_JI_compare (tw_ST_classOf (tw_ST_valueOf b x7)) (tw_ST_classOf (tw_ST_valueOf b x8))) = 0 then
              if (fc (tw_ST_valueOf b x7) (tw_ST_valueOf b x8)) = 0 then
                tw_ST_compareParts_h52 fc b p2 x4 x5 x6 n (tw_ST_endOf b (tw_ST_valueOf b x7)) (tw_ST_endOf b (tw_ST_valueOf b x8)) (x9 + 1)
              else
                fc (tw_ST_valueOf b x7) (tw_ST_valueOf b x8)
            else
              if (tw_JI_compare (tw_ST_classOf (tw_ST_valueOf b x7)) (tw_ST_classOf (tw_ST_valueOf b x8))) = 0 then
                tw_ST_compareParts_h52 fc b p2 x4 x5 x6 n (tw_ST_endOf b (tw_ST_valueOf b x7)) (tw_ST_endOf b (tw_ST_valueOf b x8)) (x9 + 1)
              else
                tw_JI_compare (tw_ST_classOf (tw_ST_valueOf b x7)) (tw_ST_classOf (tw_ST_valueOf b x8))
def tw_ST_compareParts (fc : Int32 → Int32 → Int32) (b : Nat → UInt8) (p0 : Int32) (p1 : Int32) (p2 : Int32) : Int32 :=
  if (tw_ST_kindOf p0) = 3 then
    tw_ST_compareParts_h52 fc b p2 1 ((tw_ST_endOf b p0) - 1) ((tw_ST_endOf b p1) - 1) ((((1000 : Int32).toInt - (0 : Int32).toInt).toNat) + 1) ((tw_ST_placeOf p0) + 4) ((tw_ST_placeOf p1) + 4) 0
  else
    tw_ST_compareParts_h52 fc b p2 0 ((tw_ST_endOf b p0) - 1) ((tw_ST_endOf b p1) - 1) ((((1000 : Int32).toInt - (0 : Int32).toInt).toNat) + 1) ((tw_ST_placeOf p0) + 4) ((tw_ST_placeOf p1) + 4) 0
def tw_ST_compare (fp : Int32 → Int32 → Int32) (b : Nat → UInt8) (p0 : Int32) (p1 : Int32) (p2 : Int32) : Int32 :=
  if (tw_JI_compare (tw_ST_classOf p0) (tw_ST_classOf p1)) = 0 then
    if p2 ≤ 40 then
      if (tw_ST_kindOf p0) = 2 then
        tw_ST_compareBytes b ((tw_ST_placeOf p0) + 4) ((tw_ST_endOf b p0) - 1) ((tw_ST_placeOf p1) + 4) ((tw_ST_endOf b p1) - 1)
      else
        if (tw_ST_kindOf p0) = 3 then
          fp p0 p1
        else
          if (tw_ST_kindOf p0) = 4 then
            fp p0 p1
          else
            if (tw_ST_kindOf p0) = 8 then
              tw_JI_compare (tw_ST_at b (tw_ST_placeOf p0)) (tw_ST_at b (tw_ST_placeOf p1))
            else
              if (tw_ST_kindOf p0) = 16 then
                tw_JL_compare (tw_ST_number b p0) (tw_ST_number b p1)
              else
                if (tw_ST_kindOf p0) = 18 then
                  tw_JL_compare (tw_ST_number b p0) (tw_ST_number b p1)
                else
                  0
    else
      tw_JI_compare (tw_ST_classOf p0) (tw_ST_classOf p1)
  else
    tw_JI_compare (tw_ST_classOf p0) (tw_ST_classOf p1)
def tw_ST_cmp : Nat → (Nat → UInt8) → Int32 → Int32 → Int32 → Int32
  | 0, b, x, y, d => tw_ST_compare (fun _ _ => 0) b x y d
  | k + 1, b, x, y, d => tw_ST_compare (fun x y => tw_ST_compareParts (fun x y => tw_ST_cmp k b x y (d + 1)) b x y d) b x y d
def tw_ST_cmp0 (b : Nat → UInt8) (x y : Int32) : Int32 := tw_ST_cmp 41 b x y 0
def tw_ST_hashBytes_h9 (b : Nat → UInt8) (p1 : Int32) : Nat → Int32 → Int32 → Int32
  | 0, _, _ => 0
  | n + 1, x3, x4 =>
    if p1 ≤ x4 then
      x3
    else
      if 202000 ≤ x4 then
        x3
      else
        tw_ST_hashBytes_h9 b p1 n ((x3 * 31) + (by_ b x4.toNatClampNeg)) (x4 + 1)
def tw_ST_hashBytes (b : Nat → UInt8) (p0 : Int32) (p1 : Int32) : Int32 :=
  tw_ST_hashBytes_h9 b p1 (((p1.toInt - (if p0 < 0 then 0 else p0).toInt).toNat) + 1) 3 (if p0 < 0 then 0 else p0)
def tw_ST_hashNumber (p0 : Int64) : Int32 :=
  (((p0 ^^^ ((p0.toUInt64 >>> ((32 : Int32).toInt64.toUInt64 &&& Int64.toUInt64 63)).toInt64)).toInt32) * 625341585) ^^^ (((((p0 ^^^ ((p0.toUInt64 >>> ((32 : Int32).toInt64.toUInt64 &&& Int64.toUInt64 63)).toInt64)).toInt32) * 625341585).toUInt32 >>> ((15 : Int32).toUInt32 &&& Int32.toUInt32 31)).toInt32)
def tw_ST_hashParts_h25 (fc : Int32 → Int32) (b : Nat → UInt8) (p0 : Int32) (p1 : Int32) (x3 : Int32) : Nat → Int32 → Int32 → Int32 → Int32
  | 0, _, _, _ => 0
  | n + 1, x4, x5, x6 =>
    if 1000 ≤ x6 then
      x5
    else
      if x3 ≤ x4 then
        x5
      else
        if (tw_ST_kindOf p0) = 3 then
          tw_ST_hashParts_h25 fc b p0 p1 x3 n (tw_ST_endOf b (tw_ST_valueOf b x4)) ((((x5 * 31) + (tw_ST_hashBytes b (x4 + 1) ((tw_ST_placeOf (tw_ST_valueOf b x4)) - 1))) * 31) + (fc (tw_ST_valueOf b x4))) (x6 + 1)
        else
          tw_ST_hashParts_h25 fc b p0 p1 x3 n (tw_ST_endOf b (tw_ST_valueOf b x4)) ((x5 * 31) + (fc (tw_ST_valueOf b x4))) (x6 + 1)
def tw_ST_hashParts (fc : Int32 → Int32) (b : Nat → UInt8) (p0 : Int32) (p1 : Int32) : Int32 :=
  tw_ST_hashParts_h25 fc b p0 p1 ((tw_ST_endOf b p0) - 1) ((((1000 : Int32).toInt - (0 : Int32).toInt).toNat) + 1) ((tw_ST_placeOf p0) + 4) (tw_ST_classOf p0) 0
def tw_ST_hash (fp : Int32 → Int32) (b : Nat → UInt8) (p0 : Int32) (p1 : Int32) : Int32 :=
  if (tw_ST_kindOf p0) = 2 then
    tw_ST_hashBytes b ((tw_ST_placeOf p0) + 4) ((tw_ST_endOf b p0) - 1)
  else
    if (tw_ST_kindOf p0) = 3 then
      if p1 ≤ 40 then
        fp p0
      else
        0
    else
      if (tw_ST_kindOf p0) = 4 then
        if p1 ≤ 40 then
          fp p0
        else
          0
      else
        if (tw_ST_kindOf p0) = 8 then
          8 + (tw_ST_at b (tw_ST_placeOf p0))
        else
          if (tw_ST_kindOf p0) = 16 then
            tw_ST_hashNumber (tw_ST_number b p0)
          else
            if (tw_ST_kindOf p0) = 18 then
              tw_ST_hashNumber (tw_ST_number b p0)
            else
              tw_ST_classOf p0
def tw_ST_hsh : Nat → (Nat → UInt8) → Int32 → Int32 → Int32
  | 0, b, x, d => tw_ST_hash (fun _ => 0) b x d
  | k + 1, b, x, d => tw_ST_hash (fun x => tw_ST_hashParts (fun x => tw_ST_hsh k b x (d + 1)) b x d) b x d
def tw_ST_hsh0 (b : Nat → UInt8) (x : Int32) : Int32 := tw_ST_hsh 41 b x 0
def tw_ST_isTooDeep_h27 (fc : Int32 → Bool) (b : Nat → UInt8) (p1 : Int32) (x3 : Int32) : Nat → Int32 → Int32 → Bool
  | 0, _, _ => false
  | n + 1, x4, x5 =>
    if 1000 ≤ x5 then
      false
    else
      if x3 ≤ x4 then
        false
      else
        if (tw_ST_kindOf (tw_ST_valueOf b x4)) = 3 then
          if (b2i (fc (tw_ST_valueOf b x4))) = 0 then
            tw_ST_isTooDeep_h27 fc b p1 x3 n (tw_ST_endOf b (tw_ST_valueOf b x4)) (x5 + 1)
          else
            true
        else
          if (tw_ST_kindOf (tw_ST_valueOf b x4)) = 4 then
            if (b2i (fc (tw_ST_valueOf b x4))) = 0 then
              tw_ST_isTooDeep_h27 fc b p1 x3 n (tw_ST_endOf b (tw_ST_valueOf b x4)) (x5 + 1)
            else
              true
          else
            tw_ST_isTooDeep_h27 fc b p1 x3 n (tw_ST_endOf b (tw_ST_valueOf b x4)) (x5 + 1)
def tw_ST_isTooDeep (fc : Int32 → Bool) (b : Nat → UInt8) (p0 : Int32) (p1 : Int32) : Bool :=
  if p1 ≤ 16 then
    tw_ST_isTooDeep_h27 fc b p1 ((tw_ST_endOf b p0) - 1) ((((1000 : Int32).toInt - (0 : Int32).toInt).toNat) + 1) ((tw_ST_placeOf p0) + 4) 0
  else
    true
def tw_ST_dp : Nat → (Nat → UInt8) → Int32 → Int32 → Bool
  | 0, b, x, d => tw_ST_isTooDeep (fun _ => false) b x d
  | k + 1, b, x, d => tw_ST_isTooDeep (fun x => tw_ST_dp k b x (d + 1)) b x d
def tw_ST_deep1 (b : Nat → UInt8) (x : Int32) : Bool := tw_ST_dp 16 b x 1
def tw_ST_write (b : Nat → UInt8) (p0 : Int32) (p1 : Int32) : (Nat → UInt8) :=
  if p0 < 0 then
    b
  else
    if 202000 ≤ p0 then
      b
    else
      ub b p0.toNatClampNeg p1.toInt8.toInt32
def tw_CH_endOfName_h2 (b : Nat → UInt8) (p1 : Int32) : Nat → Int32 → Int32
  | 0, _ => 0
  | n + 1, x3 =>
    if p1 ≤ x3 then
      (-1)
    else
      if (tw_ST_at b x3) = 0 then
        x3
      else
        tw_CH_endOfName_h2 b p1 n (x3 + 1)
def tw_CH_endOfName (b : Nat → UInt8) (p0 : Int32) (p1 : Int32) : Int32 :=
  tw_CH_endOfName_h2 b p1 (((p1.toInt - p0.toInt).toNat) + 1) p0
def tw_CH_lengthOfCharacter_h72 (b : Nat → UInt8) (p0 : Int32) (x3 : Int32) (x4 : Int32) : Nat → Int32 → Int32
  | 0, _ => 0
  | n + 1, x5 =>
    if x4 ≤ x5 then
      if x3 = 224 then
        if (tw_ST_at b (p0 + 1)) < 160 then
          if x3 = 237 then
            if 159 < (tw_ST_at b (p0 + 1)) then
              0
            else
              if x3 = 244 then
                if (tw_ST_at b (p0 + 1)) ≤ 143 then
                  0
                else
                  0
              else
                0
          else
            if x3 = 244 then
              if (tw_ST_at b (p0 + 1)) ≤ 143 then
                0
              else
                0
            else
              0
        else
          if x3 = 240 then
            if 144 ≤ (tw_ST_at b (p0 + 1)) then
              if x3 = 237 then
                if 159 < (tw_ST_at b (p0 + 1)) then
                  0
                else
                  if x3 = 244 then
                    if (tw_ST_at b (p0 + 1)) ≤ 143 then
                      x4
                    else
                      0
                  else
                    x4
              else
                if x3 = 244 then
                  if (tw_ST_at b (p0 + 1)) ≤ 143 then
                    x4
                  else
                    0
                else
                  x4
            else
              if x3 = 237 then
                if 159 < (tw_ST_at b (p0 + 1)) then
                  0
                else
                  if x3 = 244 then
                    if (tw_ST_at b (p0 + 1)) ≤ 143 then
                      0
                    else
                      0
                  else
                    0
              else
                if x3 = 244 then
                  if (tw_ST_at b (p0 + 1)) ≤ 143 then
                    0
                  else
                    0
                else
                  0
          else
            if x3 = 237 then
              if 159 < (tw_ST_at b (p0 + 1)) then
                0
              else
                if x3 = 244 then
                  if (tw_ST_at b (p0 + 1)) ≤ 143 then
                    x4
                  else
                    0
                else
                  x4
            else
              if x3 = 244 then
                if (tw_ST_at b (p0 + 1)) ≤ 143 then
                  x4
                else
                  0
              else
                x4
      else
        if x3 = 240 then
          if 144 ≤ (tw_ST_at b (p0 + 1)) then
            if x3 = 237 then
              if 159 < (tw_ST_at b (p0 + 1)) then
                0
              else
                if x3 = 244 then
                  if (tw_ST_at b (p0 + 1)) ≤ 143 then
                    x4
                  else
                    0
                else
                  x4
            else
              if x3 = 244 then
                if (tw_ST_at b (p0 + 1)) ≤ 143 then
                  x4
                else
                  0
              else
                x4
          else
            if x3 = 237 then
              if 159 < (tw_ST_at b (p0 + 1)) then
                0
              else
                if x3 = 244 then
                  if (tw_ST_at b (p0 + 1)) ≤ 143 then
                    0
                  else
                    0
                else
                  0
            else
              if x3 = 244 then
                if (tw_ST_at b (p0 + 1)) ≤ 143 then
                  0
                else
                  0
              else
                0
        else
          if x3 = 237 then
            if 159 < (tw_ST_at b (p0 + 1)) then
              0
            else
              if x3 = 244 then
                if (tw_ST_at b (p0 + 1)) ≤ 143 then
                  x4
                else
                  0
              else
                x4
          else
            if x3 = 244 then
              if (tw_ST_at b (p0 + 1)) ≤ 143 then
                x4
              else
                0
            else
              x4
    else
      if ((tw_ST_at b (p0 + x5)) &&& 192) = 128 then
        tw_CH_lengthOfCharacter_h72 b p0 x3 x4 n (x5 + 1)
      else
        0
def tw_CH_lengthOfCharacter (b : Nat → UInt8) (p0 : Int32) (p1 : Int32) : Int32 :=
  if 128 ≤ (tw_ST_at b p0) then
    if (tw_ST_at b p0) < 194 then
      0
    else
      if (tw_ST_at b p0) ≤ 244 then
        if 224 ≤ (tw_ST_at b p0) then
          if 240 ≤ (tw_ST_at b p0) then
            if 4 ≤ (p1 - p0) then
              tw_CH_lengthOfCharacter_h72 b p0 (tw_ST_at b p0) 4 ((((4 : Int32).toInt - (1 : Int32).toInt).toNat) + 1) 1
            else
              0
          else
            if 3 ≤ (p1 - p0) then
              tw_CH_lengthOfCharacter_h72 b p0 (tw_ST_at b p0) 3 ((((3 : Int32).toInt - (1 : Int32).toInt).toNat) + 1) 1
            else
              0
        else
          if 2 ≤ (p1 - p0) then
            tw_CH_lengthOfCharacter_h72 b p0 (tw_ST_at b p0) 2 ((((2 : Int32).toInt - (1 : Int32).toInt).toNat) + 1) 1
          else
            0
      else
        0
  else
    1
def tw_CH_isUtf8_h5 (b : Nat → UInt8) (p1 : Int32) : Nat → Int32 → Int32 → Bool
  | 0, _, _ => false
  | n + 1, x3, x4 =>
    if p1 ≤ x4 then
      if x3 = p1 then
        true
      else
        false
    else
      if p1 ≤ x3 then
        if x3 = p1 then
          true
        else
          false
      else
        if (tw_CH_lengthOfCharacter b x3 p1) = 0 then
          false
        else
          tw_CH_isUtf8_h5 b p1 n (x3 + (tw_CH_lengthOfCharacter b x3 p1)) (x4 + 1)
def tw_CH_isUtf8 (b : Nat → UInt8) (p0 : Int32) (p1 : Int32) : Bool :=
  tw_CH_isUtf8_h5 b p1 (((p1.toInt - p0.toInt).toNat) + 1) p0 p0
def tw_CH_isNewName_h19 (b : Nat → UInt8) (p1 : Int32) (p2 : Int32) : Nat → Int32 → Int32 → Bool
  | 0, _, _ => false
  | n + 1, x4, x5 =>
    if 1000 ≤ x5 then
      true
    else
      if p1 ≤ x4 then
        true
      else
        if (tw_ST_compareBytes b (x4 + 1) ((tw_ST_placeOf (tw_ST_valueOf b x4)) - 1) (p1 + 1) p2) = 0 then
          false
        else
          tw_CH_isNewName_h19 b p1 p2 n (tw_ST_endOf b (tw_ST_valueOf b x4)) (x5 + 1)
def tw_CH_isNewName (b : Nat → UInt8) (p0 : Int32) (p1 : Int32) (p2 : Int32) : Bool :=
  if (b2i (tw_CH_isUtf8 b (p1 + 1) p2)) = 0 then
    false
  else
    tw_CH_isNewName_h19 b p1 p2 ((((1000 : Int32).toInt - (0 : Int32).toInt).toNat) + 1) p0 0
def tw_CH_endOfText (b : Nat → UInt8) (p0 : Int32) (p1 : Int32) : Int32 :=
  if (p0 + 4) ≤ p1 then
    if (tw_ST_int32 b p0) < 1 then
      (-1)
    else
      if (tw_ST_int32 b p0) ≤ (p1 - (p0 + 4)) then
        if (tw_ST_at b (((p0 + 4) + (tw_ST_int32 b p0)) - 1)) = 0 then
          if (b2i (tw_CH_isUtf8 b (p0 + 4) (((p0 + 4) + (tw_ST_int32 b p0)) - 1))) = 0 then
            (-1)
          else
            (p0 + 4) + (tw_ST_int32 b p0)
        else
          (-1)
      else
        (-1)
  else
    (-1)
def tw_CH_endOfNest (fn : Int32 → Int32 → Int32 → Bool) (b : Nat → UInt8) (p0 : Int32) (p1 : Int32) (p2 : Int32) (p3 : Int32) : Int32 :=
  if 5 ≤ (p2 - p1) then
    if (tw_ST_int32 b p1) < 5 then
      (-1)
    else
      if (tw_ST_int32 b p1) ≤ (p2 - p1) then
        if (b2i (fn p1 (p1 + (tw_ST_int32 b p1)) p0)) = 0 then
          (-1)
        else
          p1 + (tw_ST_int32 b p1)
      else
        (-1)
  else
    (-1)
def tw_CH_endOfValue (fe : Int32 → Int32 → Int32 → Int32) (b : Nat → UInt8) (p0 : Int32) (p1 : Int32) (p2 : Int32) (p3 : Int32) : Int32 :=
  if p0 = 2 then
    tw_CH_endOfText b p1 p2
  else
    if p0 = 3 then
      fe 0 p1 p2
    else
      if p0 = 4 then
        fe 1 p1 p2
      else
        if p0 = 8 then
          if (p2 - p1) < 1 then
            (-1)
          else
            if 1 < (tw_ST_at b p1) then
              (-1)
            else
              p1 + 1
        else
          if p0 = 10 then
            p1
          else
            if p0 = 16 then
              if (p2 - p1) < 4 then
                (-1)
              else
                p1 + 4
            else
              if p0 = 18 then
                if (p2 - p1) < 8 then
                  (-1)
                else
                  p1 + 8
              else
                (-1)
def tw_CH_isNest_h43 (fv : Int32 → Int32 → Int32 → Int32) (b : Nat → UInt8) (p0 : Int32) (p2 : Int32) (p3 : Int32) (x5 : Int32) : Nat → Int32 → Int32 → Bool
  | 0, _, _ => false
  | n + 1, x6, x7 =>
    if 1000 ≤ x7 then
      if x6 = x5 then
        if (tw_ST_at b x5) = 0 then
          true
        else
          false
      else
        false
    else
      if x5 ≤ x6 then
        if x6 = x5 then
          if (tw_ST_at b x5) = 0 then
            true
          else
            false
        else
          false
      else
        if 0 ≤ (tw_CH_endOfName b (x6 + 1) x5) then
          if p2 = 0 then
            if (b2i (tw_CH_isNewName b (p0 + 4) x6 (tw_CH_endOfName b (x6 + 1) x5))) = 0 then
              false
            else
              if 0 ≤ (fv (tw_ST_at b x6) ((tw_CH_endOfName b (x6 + 1) x5) + 1) x5) then
                tw_CH_isNest_h43 fv b p0 p2 p3 x5 n (fv (tw_ST_at b x6) ((tw_CH_endOfName b (x6 + 1) x5) + 1) x5) (x7 + 1)
              else
                false
          else
            if (tw_ST_indexNamed b (x6 + 1) (tw_CH_endOfName b (x6 + 1) x5)) = x7 then
              if 0 ≤ (fv (tw_ST_at b x6) ((tw_CH_endOfName b (x6 + 1) x5) + 1) x5) then
                tw_CH_isNest_h43 fv b p0 p2 p3 x5 n (fv (tw_ST_at b x6) ((tw_CH_endOfName b (x6 + 1) x5) + 1) x5) (x7 + 1)
              else
                false
            else
              false
        else
          false
def tw_CH_isNest (fv : Int32 → Int32 → Int32 → Int32) (b : Nat → UInt8) (p0 : Int32) (p1 : Int32) (p2 : Int32) (p3 : Int32) : Bool :=
  if 16 < p3 then
    false
  else
    if (p1 - p0) < 5 then
      false
    else
      if (tw_ST_int32 b p0) = (p1 - p0) then
        tw_CH_isNest_h43 fv b p0 p2 p3 (p1 - 1) ((((1000 : Int32).toInt - (0 : Int32).toInt).toNat) + 1) (p0 + 4) 0
      else
        false
def tw_CH_nest : Nat → (Nat → UInt8) → Int32 → Int32 → Int32 → Int32 → Bool
  | 0, b, f, t, r, d => tw_CH_isNest (fun _ _ _ => 0) b f t r d
  | k + 1, b, f, t, r, d => tw_CH_isNest (fun x y z => tw_CH_endOfValue (fun x y z => tw_CH_endOfNest (fun x y z => tw_CH_nest k b x y z (d + 1)) b x y z d) b x y z d) b f t r d
def tw_CH_nest1 (b : Nat → UInt8) (f t r : Int32) : Bool := tw_CH_nest 16 b f t r 1
def tw_CH_isDocument (b : Nat → UInt8) (p0 : Int32) : Bool :=
  tw_CH_nest1 b 0 (0 + p0) 0
def tw_WR_octet (place : Int32) (limit : Int32) (full : Bool) (b : Nat → UInt8) (p0 : Int32) : Int32 × Int32 × Bool × (Nat → UInt8) :=
  if (b2i full) = 0 then
    if place < limit then
      (place + 1, limit, full, ub b place.toNatClampNeg p0.toInt8.toInt32)
    else
      (place, limit, true, b)
  else
    (place, limit, true, b)
def tw_WR_aim (place : Int32) (limit : Int32) (full : Bool) (p0 : Int32) (p1 : Int32) : Int32 × Int32 × Bool :=
  if 0 ≤ p0 then
    (p0, if 202000 < (p0 + p1) then 202000 else (p0 + p1), false)
  else
    (p0, if 202000 < (p0 + p1) then 202000 else (p0 + p1), true)
def tw_WR_copy (place : Int32) (limit : Int32) (full : Bool) (b : Nat → UInt8) (p0 : Int32) (p1 : Int32) : Int32 × Int32 × Bool × (Nat → UInt8) :=
  if (b2i full) = 0 then
    if p0 < 0 then
      (place, limit, true, b)
    else
      if (p1 - p0) < 0 then
        (place, limit, true, b)
      else
        if 202000 < p1 then
          (place, limit, true, b)
        else
          if (p1 - p0) ≤ (limit - place) then
            (place + (p1 - p0), limit, full, va_cpy b b p0.toNatClampNeg place.toNatClampNeg (p1 - p0).toNatClampNeg)
          else
            (place, limit, true, b)
  else
    (place, limit, true, b)
def tw_WR_open_h7 (x1 : Int32) : Nat → Int32 → Int32 → Int32 → Bool → (Nat → UInt8) → Int32 × Int32 × Int32 × Bool × (Nat → UInt8)
  | 0, x2, place, limit, full, b => (0, place, limit, full, b)
  | n + 1, x2, place, limit, full, b =>
    if 4 ≤ x2 then
      (x1, place, limit, full, b)
    else
      tp4 (tw_WR_octet place limit full b 0) (fun place_2 limit_2 full_2 b_2 =>
        tw_WR_open_h7 x1 n (x2 + 1) place_2 limit_2 full_2 b_2)
def tw_WR_open (place : Int32) (limit : Int32) (full : Bool) (b : Nat → UInt8) : Int32 × Int32 × Int32 × Bool × (Nat → UInt8) :=
  tw_WR_open_h7 place ((((4 : Int32).toInt - (0 : Int32).toInt).toNat) + 1) 0 place limit full b
def tw_WR_resize_h24 (p0 : Int32) (p1 : Int32) : Nat → Int32 → Int32 → Int32 → Bool → (Nat → UInt8) → Int32 × Int32 × Bool × (Nat → UInt8)
  | 0, x3, place, limit, full, b => (place, limit, full, b)
  | n + 1, x3, place, limit, full, b =>
    if 4 ≤ x3 then
      (place, limit, full, b)
    else
      tw_WR_resize_h24 p0 p1 n (x3 + 1) place limit full (ub b (p0 + x3).toNatClampNeg ((p1 >>> ((8 * x3) &&& 31)).toInt8.toInt32))
def tw_WR_resize (place : Int32) (limit : Int32) (full : Bool) (b : Nat → UInt8) (p0 : Int32) (p1 : Int32) : Int32 × Int32 × Bool × (Nat → UInt8) :=
  if (b2i full) = 0 then
    if p0 < 0 then
      (place, limit, full, b)
    else
      if p0 ≤ (limit - 4) then
        tw_WR_resize_h24 p0 p1 ((((4 : Int32).toInt - (0 : Int32).toInt).toNat) + 1) 0 place limit full b
      else
        (place, limit, full, b)
  else
    (place, limit, full, b)
def tw_WR_close (place : Int32) (limit : Int32) (full : Bool) (b : Nat → UInt8) (p0 : Int32) : Int32 × Int32 × Bool × (Nat → UInt8) :=
  tp4 (tw_WR_octet place limit full b 0) (fun place_1 limit_1 full_1 b_1 =>
    tp4 (tw_WR_resize place_1 limit_1 full_1 b_1 p0 (place_1 - p0)) (fun place_2 limit_2 full_2 b_2 =>
      (place_2, limit_2, full_2, b_2)))
def tw_WR_name (place : Int32) (limit : Int32) (full : Bool) (b : Nat → UInt8) (p0 : Int32) (p1 : Int32) (p2 : Int32) : Int32 × Int32 × Bool × (Nat → UInt8) :=
  tp4 (tw_WR_octet place limit full b p0) (fun place_1 limit_1 full_1 b_1 =>
    tp4 (tw_WR_copy place_1 limit_1 full_1 b_1 p1 p2) (fun place_2 limit_2 full_2 b_2 =>
      tp4 (tw_WR_octet place_2 limit_2 full_2 b_2 0) (fun place_3 limit_3 full_3 b_3 =>
        (place_3, limit_3, full_3, b_3))))
def tw_WR_index_h9 (p1 : Int32) : Nat → Int32 → Int32 → Int32 → Bool → (Nat → UInt8) → Int32 × Int32 × Bool × (Nat → UInt8)
  | 0, x3, place, limit, full, b => (place, limit, full, b)
  | n + 1, x3, place, limit, full, b =>
    if x3 ≤ 0 then
      tp4 (tw_WR_octet place limit full b 0) (fun place_3 limit_3 full_3 b_3 =>
        (place_3, limit_3, full_3, b_3))
    else
      if x3 ≤ p1 then
        tp4 (tw_WR_octet place limit full b (48 + ((p1 / x3) - (p1 / x3) / 10 * 10))) (fun place_5 limit_5 full_5 b_5 =>
          tw_WR_index_h9 p1 n (x3 / 10) place_5 limit_5 full_5 b_5)
      else
        if x3 = 1 then
          tp4 (tw_WR_octet place limit full b (48 + ((p1 / x3) - (p1 / x3) / 10 * 10))) (fun place_7 limit_7 full_7 b_7 =>
            tw_WR_index_h9 p1 n (x3 / 10) place_7 limit_7 full_7 b_7)
        else
          tw_WR_index_h9 p1 n (x3 / 10) place limit full b
def tw_WR_index (place : Int32) (limit : Int32) (full : Bool) (b : Nat → UInt8) (p0 : Int32) (p1 : Int32) : Int32 × Int32 × Bool × (Nat → UInt8) :=
  tp4 (tw_WR_octet place limit full b p0) (fun place_1 limit_1 full_1 b_1 =>
    tw_WR_index_h9 p1 (((1000 : Int32).toInt.toNat) + 1) 1000 place_1 limit_1 full_1 b_1)
def tw_WR_whole64_h2 (p0 : Int64) : Nat → Int32 → Int32 → Int32 → Bool → (Nat → UInt8) → Int32 × Int32 × Bool × (Nat → UInt8)
  | 0, x3, place, limit, full, b => (place, limit, full, b)
  | n + 1, x3, place, limit, full, b =>
    if 64 ≤ x3 then
      (place, limit, full, b)
    else
      tp4 (tw_WR_octet place limit full b ((p0 >>> (x3.toInt64 &&& 63)).toInt32)) (fun place_2 limit_2 full_2 b_2 =>
        tw_WR_whole64_h2 p0 n (x3 + 8) place_2 limit_2 full_2 b_2)
def tw_WR_whole64 (place : Int32) (limit : Int32) (full : Bool) (b : Nat → UInt8) (p0 : Int64) : Int32 × Int32 × Bool × (Nat → UInt8) :=
  tw_WR_whole64_h2 p0 ((((64 : Int32).toInt - (0 : Int32).toInt).toNat) + 1) 0 place limit full b
def tw_BE_start (ebase : Int32) (ecnt : Int32) (ests : Nat → Int32) (p0 : Int32) : Int32 :=
  if p0 < 0 then
    ebase
  else
    if 201 ≤ p0 then
      ebase
    else
      ests p0.toNatClampNeg
def tw_BE_end (ebase : Int32) (ecnt : Int32) (ests : Nat → Int32) : Int32 :=
  tw_BE_start ebase ecnt ests ecnt
def tw_BE_add (ebase : Int32) (ecnt : Int32) (ests : Nat → Int32) (p0 : Int32) : Bool × Int32 × (Nat → Int32) :=
  if ecnt < 0 then
    (false, ecnt, ests)
  else
    if 200 ≤ ecnt then
      (false, ecnt, ests)
    else
      if (((tw_BE_end ebase ecnt ests) + p0) - ebase) ≤ 40000 then
        (true, ecnt + 1, upd ests (ecnt + 1).toNatClampNeg ((tw_BE_end ebase ecnt ests) + p0))
      else
        (false, ecnt, ests)
def tw_BS_numbered (aF : Nat) (aK : Nat) (p0 : Int32) : Option Nat :=
  if p0 = 0 then
    (some aF)
  else
    if p0 = 1 then
      (some aK)
    else
      none
def tw_BS_exchange  : Unit :=
  ()
def tw_BS_takeNew  : Unit :=
  ()
def tw_BS_beginAnew (nbase : Int32) (ncnt : Int32) : Int32 :=
  0
def tw_BS_document (fbase : Int32) (fcnt : Int32) (fsts : Nat → Int32) (p0 : Int32) : Int32 :=
  tw_ST_ref 3 (tw_BE_start fbase fcnt fsts p0)
def tw_BS_append (ebase : Int32) (place : Int32) (limit : Int32) (full : Bool) (b : Nat → UInt8) (ecnt : Int32) (ests : Nat → Int32) (p1 : Int32) (p2 : Int32) : Bool × Int32 × Int32 × Bool × (Nat → UInt8) × Int32 × (Nat → Int32) :=
  tp3 (tw_WR_aim place limit full (tw_BE_end ebase ecnt ests) ((ebase + 40000) - (tw_BE_end ebase ecnt ests))) (fun place_1 limit_1 full_1 =>
    tp4 (tw_WR_copy place_1 limit_1 full_1 b p1 (p1 + p2)) (fun place_2 limit_2 full_2 b_2 =>
      if (b2i full_2) = 0 then
        tp3 (tw_BE_add ebase ecnt ests p2) (fun r_4 ecnt_4 ests_4 =>
          if (b2i r_4) = 0 then
            (false, place_2, limit_2, full_2, b_2, ecnt_4, ests_4)
          else
            (true, place_2, limit_2, full_2, b_2, ecnt_4, ests_4))
      else
        (false, place_2, limit_2, full_2, b_2, ecnt, ests)))
def tw_BS_keep (fbase : Int32) (nbase : Int32) (fcnt : Int32) (fsts : Nat → Int32) (place : Int32) (limit : Int32) (full : Bool) (b : Nat → UInt8) (ncnt : Int32) (nsts : Nat → Int32) (p0 : Int32) : Bool × Int32 × Int32 × Bool × (Nat → UInt8) × Int32 × (Nat → Int32) :=
  tp7 (tw_BS_append nbase place limit full b ncnt nsts (tw_BE_start fbase fcnt fsts p0) ((tw_BE_start fbase fcnt fsts (p0 + 1)) - (tw_BE_start fbase fcnt fsts p0))) (fun r_1 place_1 limit_1 full_1 b_1 ecnt_1 ests_1 =>
    (r_1, place_1, limit_1, full_1, b_1, ecnt_1, ests_1))
def tw_BS_next (nbase : Int32) (ncnt : Int32) (nsts : Nat → Int32) (place : Int32) (limit : Int32) (full : Bool) : Int32 × Int32 × Bool :=
  tp3 (tw_WR_aim place limit full (tw_BE_end nbase ncnt nsts) (if ((nbase + 40000) - (tw_BE_end nbase ncnt nsts)) < 2000 then ((nbase + 40000) - (tw_BE_end nbase ncnt nsts)) else 2000)) (fun place_1 limit_1 full_1 =>
    (place_1, limit_1, full_1))
def tw_BS_accept (nbase : Int32) (place : Int32) (limit : Int32) (full : Bool) (b : Nat → UInt8) (ncnt : Int32) (nsts : Nat → Int32) : Bool × Int32 × (Nat → Int32) :=
  if (b2i full) = 0 then
    if (b2i (tw_ST_deep1 b (tw_ST_ref 3 (tw_BE_end nbase ncnt nsts)))) = 0 then
      tp3 (tw_BE_add nbase ncnt nsts (place - (tw_BE_end nbase ncnt nsts))) (fun r_3 ecnt_3 ests_3 =>
        if (b2i r_3) = 0 then
          (false, ecnt_3, ests_3)
        else
          (true, ecnt_3, ests_3))
    else
      (false, ncnt, nsts)
  else
    (false, ncnt, nsts)
def tw_PA_startsWithDollar (b : Nat → UInt8) (p0 : Int32) : Bool :=
  if (tw_ST_kindOf p0) = 2 then
    if (tw_ST_at b ((tw_ST_placeOf p0) + 4)) = 36 then
      true
    else
      false
  else
    false
def tw_PA_lengthOfLastName (pcnt : Int32) (pst : Nat → Int32) (pen : Nat → Int32) : Int32 :=
  if pcnt ≤ 0 then
    0
  else
    if 8 < pcnt then
      0
    else
      (pen (pcnt - 1).toNatClampNeg) - (pst (pcnt - 1).toNatClampNeg)
def tw_PA_leaf (plc : Int32) (plv : Nat → Int32) (p0 : Int32) : Int32 :=
  if p0 < 0 then
    0
  else
    if plc ≤ p0 then
      0
    else
      if 1001 ≤ p0 then
        0
      else
        plv p0.toNatClampNeg
def tw_PA_read_h15 (b : Nat → UInt8) (p1 : Int32) : Nat → Int32 → Int32 → Int32 → Bool → (Nat → Int32) → (Nat → Int32) → (Nat → Int32) → Bool × Int32 × Bool × (Nat → Int32) × (Nat → Int32) × (Nat → Int32)
  | 0, x3, x4, pcnt, pfix, pst, pen, pix => (false, pcnt, pfix, pst, pen, pix)
  | n + 1, x3, x4, pcnt, pfix, pst, pen, pix =>
    if p1 < x4 then
      if pcnt ≤ 0 then
        (false, pcnt, pfix, pst, pen, pix)
      else
        (true, pcnt, pfix, pst, pen, pix)
    else
      if p1 ≤ x4 then
        if x4 = x3 then
          (false, pcnt, pfix, pst, pen, pix)
        else
          if (tw_ST_at b x3) = 36 then
            (false, pcnt, pfix, pst, pen, pix)
          else
            if pcnt < 8 then
              tw_PA_read_h15 b p1 n (x4 + 1) (x4 + 1) (pcnt + 1) pfix (upd pst pcnt.toNatClampNeg x3) (upd pen pcnt.toNatClampNeg x4) (upd pix pcnt.toNatClampNeg (tw_ST_indexNamed b x3 x4))
            else
              (false, pcnt, pfix, pst, pen, pix)
      else
        if (tw_ST_at b x4) = 0 then
          (false, pcnt, pfix, pst, pen, pix)
        else
          if (tw_ST_at b x4) = 46 then
            if x4 = x3 then
              (false, pcnt, pfix, pst, pen, pix)
            else
              if (tw_ST_at b x3) = 36 then
                (false, pcnt, pfix, pst, pen, pix)
              else
                if pcnt < 8 then
                  tw_PA_read_h15 b p1 n (x4 + 1) (x4 + 1) (pcnt + 1) pfix (upd pst pcnt.toNatClampNeg x3) (upd pen pcnt.toNatClampNeg x4) (upd pix pcnt.toNatClampNeg (tw_ST_indexNamed b x3 x4))
                else
                  (false, pcnt, pfix, pst, pen, pix)
          else
            tw_PA_read_h15 b p1 n x3 (x4 + 1) pcnt pfix pst pen pix
def tw_PA_read (b : Nat → UInt8) (pcnt : Int32) (pfix : Bool) (pst : Nat → Int32) (pen : Nat → Int32) (pix : Nat → Int32) (p0 : Int32) (p1 : Int32) : Bool × Int32 × Bool × (Nat → Int32) × (Nat → Int32) × (Nat → Int32) :=
  tw_PA_read_h15 b p1 ((rd_mu p1 p0) + 1) p0 p0 0 false pst pen pix
def tw_PA_readText (b : Nat → UInt8) (pcnt : Int32) (pfix : Bool) (pst : Nat → Int32) (pen : Nat → Int32) (pix : Nat → Int32) (p0 : Int32) : Bool × Int32 × Bool × (Nat → Int32) × (Nat → Int32) × (Nat → Int32) :=
  tp6 (tw_PA_read b pcnt pfix pst pen pix ((tw_ST_placeOf p0) + 4) ((tw_ST_endOf b p0) - 1)) (fun r_1 pcnt_1 pfix_1 pst_1 pen_1 pix_1 =>
    (r_1, pcnt_1, pfix_1, pst_1, pen_1, pix_1))
def tw_PA_readBehindDollar (b : Nat → UInt8) (pcnt : Int32) (pfix : Bool) (pst : Nat → Int32) (pen : Nat → Int32) (pix : Nat → Int32) (p0 : Int32) : Bool × Int32 × Bool × (Nat → Int32) × (Nat → Int32) × (Nat → Int32) :=
  tp6 (tw_PA_read b pcnt pfix pst pen pix ((tw_ST_placeOf p0) + 5) ((tw_ST_endOf b p0) - 1)) (fun r_1 pcnt_1 pfix_1 pst_1 pen_1 pix_1 =>
    (r_1, pcnt_1, pfix_1, pst_1, pen_1, pix_1))
def tw_PA_readExpression (b : Nat → UInt8) (pcnt : Int32) (pfix : Bool) (pown : Int32) (pst : Nat → Int32) (pen : Nat → Int32) (pix : Nat → Int32) (p0 : Int32) : Bool × Int32 × Bool × Int32 × (Nat → Int32) × (Nat → Int32) × (Nat → Int32) :=
  if (b2i (tw_PA_startsWithDollar b p0)) = 0 then
    (true, pcnt, true, p0, pst, pen, pix)
  else
    tp6 (tw_PA_read b pcnt pfix pst pen pix ((tw_ST_placeOf p0) + 5) ((tw_ST_endOf b p0) - 1)) (fun r_2 pcnt_2 pfix_2 pst_2 pen_2 pix_2 =>
      (r_2, pcnt_2, pfix_2, pown, pst_2, pen_2, pix_2))
def tw_PA_throughDocuments_h4 (pcnt : Int32) (b : Nat → UInt8) (pst : Nat → Int32) (pen : Nat → Int32) : Nat → Int32 → Int32 → (Nat → Int32) → Int32 × (Nat → Int32)
  | 0, x2, x3, pho => (0, pho)
  | n + 1, x2, x3, pho =>
    if pcnt ≤ x3 then
      (x2, pho)
    else
      if 8 ≤ x3 then
        (x2, pho)
      else
        if (tw_ST_kindOf x2) = 3 then
          tw_PA_throughDocuments_h4 pcnt b pst pen n (tw_ST_find b x2 (pst x3.toNatClampNeg) (pen x3.toNatClampNeg)) (x3 + 1) (upd pho x3.toNatClampNeg (tw_ST_placeOf x2))
        else
          (0, pho)
def tw_PA_throughDocuments (pcnt : Int32) (b : Nat → UInt8) (pst : Nat → Int32) (pen : Nat → Int32) (pho : Nat → Int32) (p0 : Int32) : Int32 × (Nat → Int32) :=
  tw_PA_throughDocuments_h4 pcnt b pst pen ((((8 : Int32).toInt - (0 : Int32).toInt).toNat) + 1) p0 0 pho
def tw_PA_makeRowsAt (vplace : Int32) (vlimit : Int32) (vfull : Bool) (p0 : Int32) : Int32 × Int32 × Bool :=
  tp3 (tw_WR_aim vplace vlimit vfull p0 40000) (fun place_1 limit_1 full_1 =>
    (place_1, limit_1, full_1))
def tw_PA_meet (psr : Int32) (pbs : Int32) (plc : Int32) (pms : Bool) (plv : Nat → Int32) (psn : Nat → Int32) (p0 : Int32) : Int32 × Bool × (Nat → Int32) × (Nat → Int32) :=
  if p0 = 0 then
    if (b2i pms) = 0 then
      if 1001 ≤ plc then
        (plc, true, plv, psn)
      else
        (plc + 1, true, upd plv plc.toNatClampNeg p0, psn)
    else
      (plc, true, plv, psn)
  else
    if ((tw_ST_placeOf p0) - pbs) < 0 then
      if (b2i pms) = 0 then
        if 1001 ≤ plc then
          (plc, pms, plv, psn)
        else
          (plc + 1, pms, upd plv plc.toNatClampNeg p0, psn)
      else
        (plc, pms, plv, psn)
    else
      if 2000 ≤ ((tw_ST_placeOf p0) - pbs) then
        if (b2i pms) = 0 then
          if 1001 ≤ plc then
            (plc, pms, plv, psn)
          else
            (plc + 1, pms, upd plv plc.toNatClampNeg p0, psn)
        else
          (plc, pms, plv, psn)
      else
        if (psn ((tw_ST_placeOf p0) - pbs).toNatClampNeg) = psr then
          (plc, pms, plv, upd psn ((tw_ST_placeOf p0) - pbs).toNatClampNeg psr)
        else
          if 1001 ≤ plc then
            (plc, pms, plv, upd psn ((tw_ST_placeOf p0) - pbs).toNatClampNeg psr)
          else
            (plc + 1, pms, upd plv plc.toNatClampNeg p0, upd psn ((tw_ST_placeOf p0) - pbs).toNatClampNeg psr)
def tw_PA_meetItems_h21 (psr : Int32) (pbs : Int32) (b : Nat → UInt8) (x2 : Int32) : Nat → Int32 → Int32 → Int32 → Bool → (Nat → Int32) → (Nat → Int32) → Int32 × Bool × (Nat → Int32) × (Nat → Int32)
  | 0, x3, x4, plc, pms, plv, psn => (plc, pms, plv, psn)
  | n + 1, x3, x4, plc, pms, plv, psn =>
    if 1000 ≤ x4 then
      (plc, pms, plv, psn)
    else
      if x2 ≤ x3 then
        (plc, pms, plv, psn)
      else
        tp4 (tw_PA_meet psr pbs plc pms plv psn (tw_ST_valueOf b x3)) (fun plc_3 pms_3 plv_3 psn_3 =>
          tw_PA_meetItems_h21 psr pbs b x2 n (tw_ST_endOf b (tw_ST_valueOf b x3)) (x4 + 1) plc_3 pms_3 plv_3 psn_3)
def tw_PA_meetItems (psr : Int32) (pbs : Int32) (b : Nat → UInt8) (plc : Int32) (pms : Bool) (plv : Nat → Int32) (psn : Nat → Int32) (p0 : Int32) : Int32 × Bool × (Nat → Int32) × (Nat → Int32) :=
  tw_PA_meetItems_h21 psr pbs b ((tw_ST_endOf b p0) - 1) ((((1000 : Int32).toInt - (0 : Int32).toInt).toNat) + 1) ((tw_ST_placeOf p0) + 4) 0 plc pms plv psn
def tw_PA_rowOfValues_h34 (fv : Int32 → Int32 → Bool → (Nat → UInt8) → Int32 → Int32 × Int32 × Int32 × Bool × (Nat → UInt8)) (p1 : Int32) (x3 : Int32) (x4 : Int32) : Nat → Int32 → Int32 → Int32 → Int32 → Int32 → Bool → (Nat → UInt8) → Int32 × Int32 × Int32 × Bool × (Nat → UInt8)
  | 0, x5, x6, x7, vplace, vlimit, vfull, b => (0, vplace, vlimit, vfull, b)
  | n + 1, x5, x6, x7, vplace, vlimit, vfull, b =>
    if 1000 ≤ x7 then
      tp4 (tw_WR_close vplace vlimit vfull b x3) (fun place_3 limit_3 full_3 b_3 =>
        (tw_ST_ref 4 x3, place_3, limit_3, full_3, b_3))
    else
      if x4 ≤ x5 then
        tp4 (tw_WR_close vplace vlimit vfull b x3) (fun place_5 limit_5 full_5 b_5 =>
          (tw_ST_ref 4 x3, place_5, limit_5, full_5, b_5))
      else
        if (tw_ST_kindOf (tw_ST_valueOf b x5)) = 3 then
          tp4 (tw_WR_index vplace vlimit vfull b 4 x6) (fun place_7 limit_7 full_7 b_7 =>
            tp5 (fv place_7 limit_7 full_7 b_7 (tw_ST_valueOf b x5)) (fun r_8 vplace_8 vlimit_8 vfull_8 b_8 =>
              if r_8 = 0 then
                tw_PA_rowOfValues_h34 fv p1 x3 x4 n (tw_ST_endOf b_8 (tw_ST_valueOf b x5)) x6 (x7 + 1) vplace vlimit_8 vfull_8 b_8
              else
                if (tw_ST_placeOf r_8) = place_7 then
                  tw_PA_rowOfValues_h34 fv p1 x3 x4 n (tw_ST_endOf b_8 (tw_ST_valueOf b x5)) (x6 + 1) (x7 + 1) vplace_8 vlimit_8 vfull_8 b_8
                else
                  tp1 (tw_ST_write b_8 vplace (tw_ST_kindOf r_8)) (fun b_11 =>
                    tp4 (tw_WR_copy vplace_8 vlimit_8 vfull_8 b_11 (tw_ST_placeOf r_8) (tw_ST_endOf b_11 r_8)) (fun place_12 limit_12 full_12 b_12 =>
                      tw_PA_rowOfValues_h34 fv p1 x3 x4 n (tw_ST_endOf b_12 (tw_ST_valueOf b x5)) (x6 + 1) (x7 + 1) place_12 limit_12 full_12 b_12))))
        else
          tw_PA_rowOfValues_h34 fv p1 x3 x4 n (tw_ST_endOf b (tw_ST_valueOf b x5)) x6 (x7 + 1) vplace vlimit vfull b
def tw_PA_rowOfValues (fv : Int32 → Int32 → Bool → (Nat → UInt8) → Int32 → Int32 × Int32 × Int32 × Bool × (Nat → UInt8)) (vplace : Int32) (vlimit : Int32) (vfull : Bool) (b : Nat → UInt8) (p0 : Int32) (p1 : Int32) : Int32 × Int32 × Int32 × Bool × (Nat → UInt8) :=
  tp5 (tw_WR_open vplace vlimit vfull b) (fun r_1 place_1 limit_1 full_1 b_1 =>
    tw_PA_rowOfValues_h34 fv p1 r_1 ((tw_ST_endOf b_1 p0) - 1) ((((1000 : Int32).toInt - (0 : Int32).toInt).toNat) + 1) ((tw_ST_placeOf p0) + 4) 0 0 place_1 limit_1 full_1 b_1)
def tw_PA_value_h21 (fr : Int32 → Int32 → Int32 → Bool → (Nat → UInt8) → Int32 → Int32 × Int32 × Int32 × Bool × (Nat → UInt8)) (pcnt : Int32) (pfix : Bool) (pown : Int32) (pst : Nat → Int32) (pen : Nat → Int32) (p1 : Int32) : Nat → Int32 → Int32 → Int32 → Int32 → Bool → (Nat → UInt8) → Int32 × Int32 × Int32 × Bool × (Nat → UInt8)
  | 0, x3, x4, vplace, vlimit, vfull, b => (0, vplace, vlimit, vfull, b)
  | n + 1, x3, x4, vplace, vlimit, vfull, b =>
    if pcnt ≤ x4 then
      (x3, vplace, vlimit, vfull, b)
    else
      if 8 ≤ x4 then
        (x3, vplace, vlimit, vfull, b)
      else
        if (tw_ST_kindOf x3) = 4 then
          tp5 (fr x4 vplace vlimit vfull b x3) (fun r_6 vplace_6 vlimit_6 vfull_6 b_6 =>
            (r_6, vplace_6, vlimit_6, vfull_6, b_6))
        else
          if (tw_ST_kindOf x3) = 3 then
            tw_PA_value_h21 fr pcnt pfix pown pst pen p1 n (tw_ST_find b x3 (pst x4.toNatClampNeg) (pen x4.toNatClampNeg)) (x4 + 1) vplace vlimit vfull b
          else
            (0, vplace, vlimit, vfull, b)
def tw_PA_value (fr : Int32 → Int32 → Int32 → Bool → (Nat → UInt8) → Int32 → Int32 × Int32 × Int32 × Bool × (Nat → UInt8)) (pcnt : Int32) (pfix : Bool) (pown : Int32) (pst : Nat → Int32) (pen : Nat → Int32) (vplace : Int32) (vlimit : Int32) (vfull : Bool) (b : Nat → UInt8) (p0 : Int32) (p1 : Int32) : Int32 × Int32 × Int32 × Bool × (Nat → UInt8) :=
  if (b2i pfix) = 0 then
    tw_PA_value_h21 fr pcnt pfix pown pst pen p1 ((((8 : Int32).toInt - (if p1 < 0 then 0 else p1).toInt).toNat) + 1) p0 (if p1 < 0 then 0 else p1) vplace vlimit vfull b
  else
    (pown, vplace, vlimit, vfull, b)
def tw_PA_rowk (pcnt : Int32) (pfix : Bool) (pown : Int32) (pst pen : Nat → Int32) : Nat → Int32 → Int32 → Int32 → Bool → (Nat → UInt8) → Int32 → Int32 × Int32 × Int32 × Bool × (Nat → UInt8)
  | 0, _, vplace, vlimit, vfull, b, _ => (0, vplace, vlimit, vfull, b)
  | k + 1, i, vplace, vlimit, vfull, b, x => tw_PA_rowOfValues (fun vplace vlimit vfull b x => tw_PA_value (fun j vplace vlimit vfull b y => tw_PA_rowk pcnt pfix pown pst pen k j vplace vlimit vfull b y) pcnt pfix pown pst pen vplace vlimit vfull b x i) vplace vlimit vfull b x i
def tw_PA_val0 (pcnt : Int32) (pfix : Bool) (pown : Int32) (pst pen : Nat → Int32) (vplace vlimit : Int32) (vfull : Bool) (b : Nat → UInt8) (x : Int32) : Int32 × Int32 × Int32 × Bool × (Nat → UInt8) := tw_PA_value (fun j vplace vlimit vfull b y => tw_PA_rowk pcnt pfix pown pst pen 8 j vplace vlimit vfull b y) pcnt pfix pown pst pen vplace vlimit vfull b x 0
def tw_PA_goOnAtItems_h23 (f3 : Int32 → Bool → (Nat → Int32) → (Nat → Int32) → Int32 → Int32 × Bool × (Nat → Int32) × (Nat → Int32)) (b : Nat → UInt8) (p1 : Int32) (p2 : Int32) (x4 : Int32) : Nat → Int32 → Int32 → Int32 → Bool → (Nat → Int32) → (Nat → Int32) → Int32 × Bool × (Nat → Int32) × (Nat → Int32)
  | 0, x5, x6, plc, pms, plv, psn => (plc, pms, plv, psn)
  | n + 1, x5, x6, plc, pms, plv, psn =>
    if 1000 ≤ x6 then
      (plc, pms, plv, psn)
    else
      if x4 ≤ x5 then
        (plc, pms, plv, psn)
      else
        if (tw_ST_kindOf (tw_ST_valueOf b x5)) = 3 then
          tp4 (f3 plc pms plv psn (tw_ST_valueOf b x5)) (fun plc_4 pms_4 plv_4 psn_4 =>
            tw_PA_goOnAtItems_h23 f3 b p1 p2 x4 n (tw_ST_endOf b (tw_ST_valueOf b x5)) (x6 + 1) plc_4 pms_4 plv_4 psn_4)
        else
          tw_PA_goOnAtItems_h23 f3 b p1 p2 x4 n (tw_ST_endOf b (tw_ST_valueOf b x5)) (x6 + 1) plc pms plv psn
def tw_PA_goOnAtItems (f3 : Int32 → Bool → (Nat → Int32) → (Nat → Int32) → Int32 → Int32 × Bool × (Nat → Int32) × (Nat → Int32)) (b : Nat → UInt8) (plc : Int32) (pms : Bool) (plv : Nat → Int32) (psn : Nat → Int32) (p0 : Int32) (p1 : Int32) (p2 : Int32) : Int32 × Bool × (Nat → Int32) × (Nat → Int32) :=
  tw_PA_goOnAtItems_h23 f3 b p1 p2 ((tw_ST_endOf b p0) - 1) ((((1000 : Int32).toInt - (0 : Int32).toInt).toNat) + 1) ((tw_ST_placeOf p0) + 4) 0 plc pms plv psn
def tw_PA_goOn (f1 : Int32 → Bool → (Nat → Int32) → (Nat → Int32) → Int32 → Int32 × Bool × (Nat → Int32) × (Nat → Int32)) (f2 : Int32 → Bool → (Nat → Int32) → (Nat → Int32) → Int32 → Int32 × Bool × (Nat → Int32) × (Nat → Int32)) (pcnt : Int32) (psr : Int32) (pbs : Int32) (b : Nat → UInt8) (pst : Nat → Int32) (pen : Nat → Int32) (pix : Nat → Int32) (plc : Int32) (pms : Bool) (plv : Nat → Int32) (psn : Nat → Int32) (p0 : Int32) (p1 : Int32) (p2 : Int32) : Int32 × Bool × (Nat → Int32) × (Nat → Int32) :=
  if p1 < 0 then
    tp4 (tw_PA_meet psr pbs plc pms plv psn p0) (fun plc_2 pms_2 plv_2 psn_2 =>
      if (tw_ST_kindOf p0) = 4 then
        tp4 (tw_PA_meetItems psr pbs b plc_2 pms_2 plv_2 psn_2 p0) (fun plc_4 pms_4 plv_4 psn_4 =>
          (plc_4, pms_4, plv_4, psn_4))
      else
        (plc_2, pms_2, plv_2, psn_2))
  else
    if pcnt ≤ p1 then
      tp4 (tw_PA_meet psr pbs plc pms plv psn p0) (fun plc_6 pms_6 plv_6 psn_6 =>
        if (tw_ST_kindOf p0) = 4 then
          tp4 (tw_PA_meetItems psr pbs b plc_6 pms_6 plv_6 psn_6 p0) (fun plc_8 pms_8 plv_8 psn_8 =>
            (plc_8, pms_8, plv_8, psn_8))
        else
          (plc_6, pms_6, plv_6, psn_6))
    else
      if p1 < 8 then
        if (tw_ST_kindOf p0) = 3 then
          if 40 ≤ p2 then
            if (tw_ST_kindOf p0) = 4 then
              if 40 ≤ p2 then
                tp4 (tw_PA_meet psr pbs plc pms plv psn 0) (fun plc_26 pms_26 plv_26 psn_26 =>
                  (plc_26, pms_26, plv_26, psn_26))
              else
                if 0 ≤ (pix p1.toNatClampNeg) then
                  if (tw_ST_item b p0 (pix p1.toNatClampNeg)) = 0 then
                    tp4 (f2 plc pms plv psn p0) (fun plc_29 pms_29 plv_29 psn_29 =>
                      (plc_29, pms_29, plv_29, psn_29))
                  else
                    tp4 (f1 plc pms plv psn (tw_ST_item b p0 (pix p1.toNatClampNeg))) (fun plc_30 pms_30 plv_30 psn_30 =>
                      tp4 (f2 plc_30 pms_30 plv_30 psn_30 p0) (fun plc_31 pms_31 plv_31 psn_31 =>
                        (plc_31, pms_31, plv_31, psn_31)))
                else
                  tp4 (f2 plc pms plv psn p0) (fun plc_33 pms_33 plv_33 psn_33 =>
                    (plc_33, pms_33, plv_33, psn_33))
            else
              tp4 (tw_PA_meet psr pbs plc pms plv psn 0) (fun plc_24 pms_24 plv_24 psn_24 =>
                (plc_24, pms_24, plv_24, psn_24))
          else
            if (tw_ST_find b p0 (pst p1.toNatClampNeg) (pen p1.toNatClampNeg)) = 0 then
              tp4 (tw_PA_meet psr pbs plc pms plv psn 0) (fun plc_36 pms_36 plv_36 psn_36 =>
                (plc_36, pms_36, plv_36, psn_36))
            else
              tp4 (f1 plc pms plv psn (tw_ST_find b p0 (pst p1.toNatClampNeg) (pen p1.toNatClampNeg))) (fun plc_35 pms_35 plv_35 psn_35 =>
                (plc_35, pms_35, plv_35, psn_35))
        else
          if (tw_ST_kindOf p0) = 4 then
            if 40 ≤ p2 then
              tp4 (tw_PA_meet psr pbs plc pms plv psn 0) (fun plc_14 pms_14 plv_14 psn_14 =>
                (plc_14, pms_14, plv_14, psn_14))
            else
              if 0 ≤ (pix p1.toNatClampNeg) then
                if (tw_ST_item b p0 (pix p1.toNatClampNeg)) = 0 then
                  tp4 (f2 plc pms plv psn p0) (fun plc_17 pms_17 plv_17 psn_17 =>
                    (plc_17, pms_17, plv_17, psn_17))
                else
                  tp4 (f1 plc pms plv psn (tw_ST_item b p0 (pix p1.toNatClampNeg))) (fun plc_18 pms_18 plv_18 psn_18 =>
                    tp4 (f2 plc_18 pms_18 plv_18 psn_18 p0) (fun plc_19 pms_19 plv_19 psn_19 =>
                      (plc_19, pms_19, plv_19, psn_19)))
              else
                tp4 (f2 plc pms plv psn p0) (fun plc_21 pms_21 plv_21 psn_21 =>
                  (plc_21, pms_21, plv_21, psn_21))
          else
            tp4 (tw_PA_meet psr pbs plc pms plv psn 0) (fun plc_12 pms_12 plv_12 psn_12 =>
              (plc_12, pms_12, plv_12, psn_12))
      else
        tp4 (tw_PA_meet psr pbs plc pms plv psn p0) (fun plc_37 pms_37 plv_37 psn_37 =>
          if (tw_ST_kindOf p0) = 4 then
            tp4 (tw_PA_meetItems psr pbs b plc_37 pms_37 plv_37 psn_37 p0) (fun plc_39 pms_39 plv_39 psn_39 =>
              (plc_39, pms_39, plv_39, psn_39))
          else
            (plc_37, pms_37, plv_37, psn_37))
def tw_PA_gok (pcnt psr pbs : Int32) (b : Nat → UInt8) (pst pen pix : Nat → Int32) : Nat → Int32 → Int32 → Int32 → Bool → (Nat → Int32) → (Nat → Int32) → Int32 → Int32 × Bool × (Nat → Int32) × (Nat → Int32)
  | 0, p1, p2, plc, pms, plv, psn, x => tw_PA_goOn (fun plc pms plv psn _ => (plc, pms, plv, psn)) (fun plc pms plv psn _ => (plc, pms, plv, psn)) pcnt psr pbs b pst pen pix plc pms plv psn x p1 p2
  | k + 1, p1, p2, plc, pms, plv, psn, x => tw_PA_goOn (fun plc pms plv psn y => tw_PA_gok pcnt psr pbs b pst pen pix k (p1 + 1) (p2 + 1) plc pms plv psn y) (fun plc pms plv psn y => tw_PA_goOnAtItems (fun plc pms plv psn z => tw_PA_gok pcnt psr pbs b pst pen pix k p1 (p2 + 1) plc pms plv psn z) b plc pms plv psn y p1 p2) pcnt psr pbs b pst pen pix plc pms plv psn x p1 p2
def tw_PA_go1 (pcnt psr pbs : Int32) (b : Nat → UInt8) (pst pen pix : Nat → Int32) (plc : Int32) (pms : Bool) (plv psn : Nat → Int32) (x : Int32) : Int32 × Bool × (Nat → Int32) × (Nat → Int32) := tw_PA_gok pcnt psr pbs b pst pen pix 39 0 1 plc pms plv psn x
def tw_PA_findLeaves (pcnt : Int32) (b : Nat → UInt8) (pst : Nat → Int32) (pen : Nat → Int32) (pix : Nat → Int32) (plc : Int32) (psr : Int32) (pbs : Int32) (pms : Bool) (plv : Nat → Int32) (psn : Nat → Int32) (p0 : Int32) : Int32 × Int32 × Int32 × Bool × (Nat → Int32) × (Nat → Int32) :=
  tp4 (tw_PA_go1 pcnt (psr + 1) (tw_ST_placeOf p0) b pst pen pix 0 false plv psn p0) (fun plc_1 pms_1 plv_1 psn_1 =>
    (plc_1, (psr + 1), (tw_ST_placeOf p0), pms_1, plv_1, psn_1))
def tw_SH_projected (pcnt : Int32) (pfix : Bool) (pown : Int32) (vplace : Int32) (vlimit : Int32) (vfull : Bool) (b : Nat → UInt8) (pst : Nat → Int32) (pen : Nat → Int32) (pix : Nat → Int32) (p0 : Int32) (p1 : Int32) (p2 : Int32) (p3 : Int32) : Int32 × Int32 × Bool × Int32 × Int32 × Int32 × Bool × (Nat → UInt8) × (Nat → Int32) × (Nat → Int32) × (Nat → Int32) :=
  if (tw_ST_kindOf p0) = 8 then
    if (tw_ST_at b (tw_ST_placeOf p0)) = 1 then
      (tw_ST_find b p3 p1 p2, pcnt, pfix, pown, vplace, vlimit, vfull, b, pst, pen, pix)
    else
      tp3 (tw_PA_makeRowsAt vplace vlimit vfull 162000) (fun vplace_7 vlimit_7 vfull_7 =>
        tp7 (tw_PA_readExpression b pcnt pfix pown pst pen pix p0) (fun r_8 pcnt_8 pfix_8 pown_8 pst_8 pen_8 pix_8 =>
          if (b2i r_8) = 0 then
            (0, pcnt_8, pfix_8, pown_8, vplace_7, vlimit_7, vfull_7, b, pst_8, pen_8, pix_8)
          else
            tp5 (tw_PA_val0 pcnt_8 pfix_8 pown_8 pst_8 pen_8 vplace_7 vlimit_7 vfull_7 b p3) (fun r_10 vplace_10 vlimit_10 vfull_10 b_10 =>
              (r_10, pcnt_8, pfix_8, pown_8, vplace_10, vlimit_10, vfull_10, b_10, pst_8, pen_8, pix_8))))
  else
    tp3 (tw_PA_makeRowsAt vplace vlimit vfull 162000) (fun vplace_2 vlimit_2 vfull_2 =>
      tp7 (tw_PA_readExpression b pcnt pfix pown pst pen pix p0) (fun r_3 pcnt_3 pfix_3 pown_3 pst_3 pen_3 pix_3 =>
        if (b2i r_3) = 0 then
          (0, pcnt_3, pfix_3, pown_3, vplace_2, vlimit_2, vfull_2, b, pst_3, pen_3, pix_3)
        else
          tp5 (tw_PA_val0 pcnt_3 pfix_3 pown_3 pst_3 pen_3 vplace_2 vlimit_2 vfull_2 b p3) (fun r_5 vplace_5 vlimit_5 vfull_5 b_5 =>
            (r_5, pcnt_3, pfix_3, pown_3, vplace_5, vlimit_5, vfull_5, b_5, pst_3, pen_3, pix_3))))
def tw_SH_faultOfProject_h43 (b : Nat → UInt8) (x2 : Int32) : Nat → Int32 → Int32 → Int32 → Bool → Int32 → (Nat → Int32) → (Nat → Int32) → (Nat → Int32) → Int32 × Int32 × Bool × Int32 × (Nat → Int32) × (Nat → Int32) × (Nat → Int32)
  | 0, x3, x4, pcnt, pfix, pown, pst, pen, pix => (0, pcnt, pfix, pown, pst, pen, pix)
  | n + 1, x3, x4, pcnt, pfix, pown, pst, pen, pix =>
    if 1000 ≤ x4 then
      (0, pcnt, pfix, pown, pst, pen, pix)
    else
      if x2 ≤ x3 then
        (0, pcnt, pfix, pown, pst, pen, pix)
      else
        if (b2i (tw_ST_isPlain b (x3 + 1) ((tw_ST_placeOf (tw_ST_valueOf b x3)) - 1))) = 0 then
          (2, pcnt, pfix, pown, pst, pen, pix)
        else
          tp7 (tw_PA_readExpression b pcnt pfix pown pst pen pix (tw_ST_valueOf b x3)) (fun r_6 pcnt_6 pfix_6 pown_6 pst_6 pen_6 pix_6 =>
            if (b2i r_6) = 0 then
              (3, pcnt_6, pfix_6, pown_6, pst_6, pen_6, pix_6)
            else
              tw_SH_faultOfProject_h43 b x2 n (tw_ST_endOf b (tw_ST_valueOf b x3)) (x4 + 1) pcnt_6 pfix_6 pown_6 pst_6 pen_6 pix_6)
def tw_SH_faultOfProject (b : Nat → UInt8) (pcnt : Int32) (pfix : Bool) (pown : Int32) (pst : Nat → Int32) (pen : Nat → Int32) (pix : Nat → Int32) (p0 : Int32) : Int32 × Int32 × Bool × Int32 × (Nat → Int32) × (Nat → Int32) × (Nat → Int32) :=
  if (tw_ST_kindOf p0) = 3 then
    if 1 ≤ (tw_ST_countParts b p0) then
      tw_SH_faultOfProject_h43 b ((tw_ST_endOf b p0) - 1) ((((1000 : Int32).toInt - (0 : Int32).toInt).toNat) + 1) ((tw_ST_placeOf p0) + 4) 0 pcnt pfix pown pst pen pix
    else
      (2, pcnt, pfix, pown, pst, pen, pix)
  else
    (2, pcnt, pfix, pown, pst, pen, pix)
def tw_SH_writeProjected_h37 (nbase : Int32) (ncnt : Int32) (nsts : Nat → Int32) (p1 : Int32) (x4 : Int32) (x5 : Int32) : Nat → Int32 → Int32 → Int32 → Int32 → Bool → (Nat → UInt8) → Int32 → Bool → Int32 → Int32 → Int32 → Bool → (Nat → Int32) → (Nat → Int32) → (Nat → Int32) → Int32 × Int32 × Bool × (Nat → UInt8) × Int32 × Bool × Int32 × Int32 × Int32 × Bool × (Nat → Int32) × (Nat → Int32) × (Nat → Int32)
  | 0, x6, x7, place, limit, full, b, pcnt, pfix, pown, vplace, vlimit, vfull, pst, pen, pix => (place, limit, full, b, pcnt, pfix, pown, vplace, vlimit, vfull, pst, pen, pix)
  | n + 1, x6, x7, place, limit, full, b, pcnt, pfix, pown, vplace, vlimit, vfull, pst, pen, pix =>
    if 1000 ≤ x7 then
      tp4 (tw_WR_close place limit full b x4) (fun place_4 limit_4 full_4 b_4 =>
        (place_4, limit_4, full_4, b_4, pcnt, pfix, pown, vplace, vlimit, vfull, pst, pen, pix))
    else
      if x5 ≤ x6 then
        tp4 (tw_WR_close place limit full b x4) (fun place_6 limit_6 full_6 b_6 =>
          (place_6, limit_6, full_6, b_6, pcnt, pfix, pown, vplace, vlimit, vfull, pst, pen, pix))
      else
        tp11 (tw_SH_projected pcnt pfix pown vplace vlimit vfull b pst pen pix (tw_ST_valueOf b x6) (x6 + 1) ((tw_ST_placeOf (tw_ST_valueOf b x6)) - 1) p1) (fun r_7 pcnt_7 pfix_7 pown_7 vplace_7 vlimit_7 vfull_7 b_7 pst_7 pen_7 pix_7 =>
          if r_7 = 0 then
            tw_SH_writeProjected_h37 nbase ncnt nsts p1 x4 x5 n (tw_ST_endOf b_7 (tw_ST_valueOf b x6)) (x7 + 1) place limit full b_7 pcnt_7 pfix_7 pown_7 vplace_7 vlimit_7 vfull_7 pst_7 pen_7 pix_7
          else
            tp4 (tw_WR_name place limit full b_7 (tw_ST_kindOf r_7) (x6 + 1) ((tw_ST_placeOf (tw_ST_valueOf b x6)) - 1)) (fun place_9 limit_9 full_9 b_9 =>
              tp4 (tw_WR_copy place_9 limit_9 full_9 b_9 (tw_ST_placeOf r_7) (tw_ST_endOf b_9 r_7)) (fun place_10 limit_10 full_10 b_10 =>
                tw_SH_writeProjected_h37 nbase ncnt nsts p1 x4 x5 n (tw_ST_endOf b_10 (tw_ST_valueOf b x6)) (x7 + 1) place_10 limit_10 full_10 b_10 pcnt_7 pfix_7 pown_7 vplace_7 vlimit_7 vfull_7 pst_7 pen_7 pix_7)))
def tw_SH_writeProjected (nbase : Int32) (ncnt : Int32) (nsts : Nat → Int32) (place : Int32) (limit : Int32) (full : Bool) (b : Nat → UInt8) (pcnt : Int32) (pfix : Bool) (pown : Int32) (vplace : Int32) (vlimit : Int32) (vfull : Bool) (pst : Nat → Int32) (pen : Nat → Int32) (pix : Nat → Int32) (p0 : Int32) (p1 : Int32) : Int32 × Int32 × Bool × (Nat → UInt8) × Int32 × Bool × Int32 × Int32 × Int32 × Bool × (Nat → Int32) × (Nat → Int32) × (Nat → Int32) :=
  tp3 (tw_BS_next nbase ncnt nsts place limit full) (fun place_1 limit_1 full_1 =>
    tp5 (tw_WR_open place_1 limit_1 full_1 b) (fun r_2 place_2 limit_2 full_2 b_2 =>
      tw_SH_writeProjected_h37 nbase ncnt nsts p1 r_2 ((tw_ST_endOf b_2 p0) - 1) ((((1000 : Int32).toInt - (0 : Int32).toInt).toNat) + 1) ((tw_ST_placeOf p0) + 4) 0 place_2 limit_2 full_2 b_2 pcnt pfix pown vplace vlimit vfull pst pen pix))
def tw_SH_project_h8 (nbase : Int32) (fbase : Int32) (fcnt : Int32) (fsts : Nat → Int32) (p0 : Int32) : Nat → Int32 → Int32 → Int32 → Int32 → Bool → (Nat → UInt8) → Int32 → (Nat → Int32) → Int32 → Bool → Int32 → Int32 → Int32 → Bool → (Nat → Int32) → (Nat → Int32) → (Nat → Int32) → Int32 × Int32 × Int32 × Bool × (Nat → UInt8) × Int32 × (Nat → Int32) × Int32 × Bool × Int32 × Int32 × Int32 × Bool × (Nat → Int32) × (Nat → Int32) × (Nat → Int32)
  | 0, x2, x3, place, limit, full, b, ncnt, nsts, pcnt, pfix, pown, vplace, vlimit, vfull, pst, pen, pix => (0, place, limit, full, b, ncnt, nsts, pcnt, pfix, pown, vplace, vlimit, vfull, pst, pen, pix)
  | n + 1, x2, x3, place, limit, full, b, ncnt, nsts, pcnt, pfix, pown, vplace, vlimit, vfull, pst, pen, pix =>
    if x2 = 0 then
      if fcnt ≤ x3 then
        (x2, place, limit, full, b, ncnt, nsts, pcnt, pfix, pown, vplace, vlimit, vfull, pst, pen, pix)
      else
        tp13 (tw_SH_writeProjected nbase ncnt nsts place limit full b pcnt pfix pown vplace vlimit vfull pst pen pix p0 (tw_BS_document fbase fcnt fsts x3)) (fun place_4 limit_4 full_4 b_4 pcnt_4 pfix_4 pown_4 vplace_4 vlimit_4 vfull_4 pst_4 pen_4 pix_4 =>
          tp3 (tw_BS_accept nbase place_4 limit_4 full_4 b_4 ncnt nsts) (fun r_5 ncnt_5 nsts_5 =>
            if (b2i r_5) = 0 then
              tw_SH_project_h8 nbase fbase fcnt fsts p0 n 5 (x3 + 1) place_4 limit_4 full_4 b_4 ncnt_5 nsts_5 pcnt_4 pfix_4 pown_4 vplace_4 vlimit_4 vfull_4 pst_4 pen_4 pix_4
            else
              tw_SH_project_h8 nbase fbase fcnt fsts p0 n 0 (x3 + 1) place_4 limit_4 full_4 b_4 ncnt_5 nsts_5 pcnt_4 pfix_4 pown_4 vplace_4 vlimit_4 vfull_4 pst_4 pen_4 pix_4))
    else
      (x2, place, limit, full, b, ncnt, nsts, pcnt, pfix, pown, vplace, vlimit, vfull, pst, pen, pix)
def tw_SH_project (nbase : Int32) (fbase : Int32) (fcnt : Int32) (fsts : Nat → Int32) (place : Int32) (limit : Int32) (full : Bool) (b : Nat → UInt8) (ncnt : Int32) (nsts : Nat → Int32) (pcnt : Int32) (pfix : Bool) (pown : Int32) (vplace : Int32) (vlimit : Int32) (vfull : Bool) (pst : Nat → Int32) (pen : Nat → Int32) (pix : Nat → Int32) (p0 : Int32) : Int32 × Int32 × Int32 × Bool × (Nat → UInt8) × Int32 × (Nat → Int32) × Int32 × Bool × Int32 × Int32 × Int32 × Bool × (Nat → Int32) × (Nat → Int32) × (Nat → Int32) :=
  tp7 (tw_SH_faultOfProject b pcnt pfix pown pst pen pix p0) (fun r_1 pcnt_1 pfix_1 pown_1 pst_1 pen_1 pix_1 =>
    tw_SH_project_h8 nbase fbase fcnt fsts p0 (((fcnt.toInt - (0 : Int32).toInt).toNat) + 1) r_1 0 place limit full b ncnt nsts pcnt_1 pfix_1 pown_1 vplace vlimit vfull pst_1 pen_1 pix_1)
def tw_SH_writeUnwound_h151 (fbase : Int32) (nbase : Int32) (fcnt : Int32) (fsts : Nat → Int32) (ncnt : Int32) (nsts : Nat → Int32) (pcnt : Int32) (pst : Nat → Int32) (pen : Nat → Int32) (pho : Nat → Int32) (x5 : Int32) (x6 : Int32) (x8 : Int32) : Nat → Int32 → Int32 → Int32 → Bool → (Nat → UInt8) → Int32 × Int32 × Bool × (Nat → UInt8)
  | 0, x9, place, limit, full, b => (place, limit, full, b)
  | n + 1, x9, place, limit, full, b =>
    if pcnt ≤ x9 then
      (place, limit, full, b)
    else
      if 8 ≤ x9 then
        (place, limit, full, b)
      else
        tp4 (tw_WR_resize place limit full b ((x6 + (pho x9.toNatClampNeg)) - x5) ((tw_ST_int32 b (pho x9.toNatClampNeg)) - x8)) (fun place_9 limit_9 full_9 b_9 =>
          tw_SH_writeUnwound_h151 fbase nbase fcnt fsts ncnt nsts pcnt pst pen pho x5 x6 x8 n (x9 + 1) place_9 limit_9 full_9 b_9)
def tw_SH_writeUnwound (fbase : Int32) (nbase : Int32) (fcnt : Int32) (fsts : Nat → Int32) (ncnt : Int32) (nsts : Nat → Int32) (pcnt : Int32) (pst : Nat → Int32) (pen : Nat → Int32) (pho : Nat → Int32) (place : Int32) (limit : Int32) (full : Bool) (b : Nat → UInt8) (p0 : Int32) (p1 : Int32) (p2 : Int32) : Int32 × Int32 × Bool × (Nat → UInt8) :=
  tp3 (tw_BS_next nbase ncnt nsts place limit full) (fun place_1 limit_1 full_1 =>
    tp4 (tw_WR_copy place_1 limit_1 full_1 b (tw_BE_start fbase fcnt fsts p0) (((tw_ST_placeOf p1) - (tw_PA_lengthOfLastName pcnt pst pen)) - 2)) (fun place_2 limit_2 full_2 b_2 =>
      tp4 (tw_WR_octet place_2 limit_2 full_2 b_2 (tw_ST_kindOf p2)) (fun place_3 limit_3 full_3 b_3 =>
        tp4 (tw_WR_copy place_3 limit_3 full_3 b_3 ((((tw_ST_placeOf p1) - (tw_PA_lengthOfLastName pcnt pst pen)) - 2) + 1) (tw_ST_placeOf p1)) (fun place_4 limit_4 full_4 b_4 =>
          tp4 (tw_WR_copy place_4 limit_4 full_4 b_4 (tw_ST_placeOf p2) (tw_ST_endOf b_4 p2)) (fun place_5 limit_5 full_5 b_5 =>
            tp4 (tw_WR_copy place_5 limit_5 full_5 b_5 (tw_ST_endOf b_5 p1) (tw_BE_start fbase fcnt fsts (p0 + 1))) (fun place_6 limit_6 full_6 b_6 =>
              tw_SH_writeUnwound_h151 fbase nbase fcnt fsts ncnt nsts pcnt pst pen pho (tw_BE_start fbase fcnt fsts p0) place_1 ((((tw_ST_endOf b p1) - (tw_ST_placeOf p1)) - (tw_ST_endOf b p2)) + (tw_ST_placeOf p2)) ((((8 : Int32).toInt - (0 : Int32).toInt).toNat) + 1) 0 place_6 limit_6 full_6 b_6))))))
def tw_SH_unwindRow_h22 (fbase : Int32) (nbase : Int32) (fcnt : Int32) (fsts : Nat → Int32) (pcnt : Int32) (pst : Nat → Int32) (pen : Nat → Int32) (pho : Nat → Int32) (p0 : Int32) (p1 : Int32) (x3 : Int32) : Nat → Int32 → Int32 → Int32 → Int32 → Bool → (Nat → UInt8) → Int32 → (Nat → Int32) → Bool × Int32 × Int32 × Bool × (Nat → UInt8) × Int32 × (Nat → Int32)
  | 0, x4, x5, place, limit, full, b, ncnt, nsts => (false, place, limit, full, b, ncnt, nsts)
  | n + 1, x4, x5, place, limit, full, b, ncnt, nsts =>
    if 1000 ≤ x5 then
      (true, place, limit, full, b, ncnt, nsts)
    else
      if x3 ≤ x4 then
        (true, place, limit, full, b, ncnt, nsts)
      else
        tp4 (tw_SH_writeUnwound fbase nbase fcnt fsts ncnt nsts pcnt pst pen pho place limit full b p0 p1 (tw_ST_valueOf b x4)) (fun place_3 limit_3 full_3 b_3 =>
          tp3 (tw_BS_accept nbase place_3 limit_3 full_3 b_3 ncnt nsts) (fun r_4 ncnt_4 nsts_4 =>
            if (b2i r_4) = 0 then
              (false, place_3, limit_3, full_3, b_3, ncnt_4, nsts_4)
            else
              tw_SH_unwindRow_h22 fbase nbase fcnt fsts pcnt pst pen pho p0 p1 x3 n (tw_ST_endOf b_3 (tw_ST_valueOf b x4)) (x5 + 1) place_3 limit_3 full_3 b_3 ncnt_4 nsts_4))
def tw_SH_unwindRow (fbase : Int32) (nbase : Int32) (fcnt : Int32) (fsts : Nat → Int32) (pcnt : Int32) (pst : Nat → Int32) (pen : Nat → Int32) (pho : Nat → Int32) (place : Int32) (limit : Int32) (full : Bool) (b : Nat → UInt8) (ncnt : Int32) (nsts : Nat → Int32) (p0 : Int32) (p1 : Int32) : Bool × Int32 × Int32 × Bool × (Nat → UInt8) × Int32 × (Nat → Int32) :=
  tw_SH_unwindRow_h22 fbase nbase fcnt fsts pcnt pst pen pho p0 p1 ((tw_ST_endOf b p1) - 1) ((((1000 : Int32).toInt - (0 : Int32).toInt).toNat) + 1) ((tw_ST_placeOf p1) + 4) 0 place limit full b ncnt nsts
def tw_SH_unwind_h28 (fbase : Int32) (nbase : Int32) (fcnt : Int32) (fsts : Nat → Int32) : Nat → Int32 → Int32 → Int32 → Bool → (Nat → UInt8) → Int32 → (Nat → Int32) → Int32 → Bool → (Nat → Int32) → (Nat → Int32) → (Nat → Int32) → (Nat → Int32) → Int32 × Int32 × Int32 × Bool × (Nat → UInt8) × Int32 × (Nat → Int32) × Int32 × Bool × (Nat → Int32) × (Nat → Int32) × (Nat → Int32) × (Nat → Int32)
  | 0, x2, place, limit, full, b, ncnt, nsts, pcnt, pfix, pst, pen, pix, pho => (0, place, limit, full, b, ncnt, nsts, pcnt, pfix, pst, pen, pix, pho)
  | n + 1, x2, place, limit, full, b, ncnt, nsts, pcnt, pfix, pst, pen, pix, pho =>
    if fcnt ≤ x2 then
      (0, place, limit, full, b, ncnt, nsts, pcnt, pfix, pst, pen, pix, pho)
    else
      tp2 (tw_PA_throughDocuments pcnt b pst pen pho (tw_BS_document fbase fcnt fsts x2)) (fun r_5 pho_5 =>
        if (tw_ST_kindOf r_5) = 4 then
          tp7 (tw_SH_unwindRow fbase nbase fcnt fsts pcnt pst pen pho_5 place limit full b ncnt nsts x2 r_5) (fun r_13 place_13 limit_13 full_13 b_13 ncnt_13 nsts_13 =>
            if (b2i r_13) = 0 then
              (5, place_13, limit_13, full_13, b_13, ncnt_13, nsts_13, pcnt, pfix, pst, pen, pix, pho_5)
            else
              tw_SH_unwind_h28 fbase nbase fcnt fsts n (x2 + 1) place_13 limit_13 full_13 b_13 ncnt_13 nsts_13 pcnt pfix pst pen pix pho_5)
        else
          if (tw_ST_kindOf r_5) = 0 then
            tw_SH_unwind_h28 fbase nbase fcnt fsts n (x2 + 1) place limit full b ncnt nsts pcnt pfix pst pen pix pho_5
          else
            if (tw_ST_kindOf r_5) = 10 then
              tw_SH_unwind_h28 fbase nbase fcnt fsts n (x2 + 1) place limit full b ncnt nsts pcnt pfix pst pen pix pho_5
            else
              tp7 (tw_BS_keep fbase nbase fcnt fsts place limit full b ncnt nsts x2) (fun r_11 place_11 limit_11 full_11 b_11 ncnt_11 nsts_11 =>
                if (b2i r_11) = 0 then
                  (5, place_11, limit_11, full_11, b_11, ncnt_11, nsts_11, pcnt, pfix, pst, pen, pix, pho_5)
                else
                  tw_SH_unwind_h28 fbase nbase fcnt fsts n (x2 + 1) place_11 limit_11 full_11 b_11 ncnt_11 nsts_11 pcnt pfix pst pen pix pho_5))
def tw_SH_unwind (fbase : Int32) (nbase : Int32) (fcnt : Int32) (fsts : Nat → Int32) (place : Int32) (limit : Int32) (full : Bool) (b : Nat → UInt8) (ncnt : Int32) (nsts : Nat → Int32) (pcnt : Int32) (pfix : Bool) (pst : Nat → Int32) (pen : Nat → Int32) (pix : Nat → Int32) (pho : Nat → Int32) (p0 : Int32) : Int32 × Int32 × Int32 × Bool × (Nat → UInt8) × Int32 × (Nat → Int32) × Int32 × Bool × (Nat → Int32) × (Nat → Int32) × (Nat → Int32) × (Nat → Int32) :=
  if (b2i (tw_PA_startsWithDollar b p0)) = 0 then
    (2, place, limit, full, b, ncnt, nsts, pcnt, pfix, pst, pen, pix, pho)
  else
    tp6 (tw_PA_readBehindDollar b pcnt pfix pst pen pix p0) (fun r_2 pcnt_2 pfix_2 pst_2 pen_2 pix_2 =>
      if (b2i r_2) = 0 then
        (3, place, limit, full, b, ncnt, nsts, pcnt_2, pfix_2, pst_2, pen_2, pix_2, pho)
      else
        tw_SH_unwind_h28 fbase nbase fcnt fsts (((fcnt.toInt - (0 : Int32).toInt).toNat) + 1) 0 place limit full b ncnt nsts pcnt_2 pfix_2 pst_2 pen_2 pix_2 pho)
def tw_SO_isSign (b : Nat → UInt8) (p0 : Int32) : Bool :=
  if (tw_ST_classOf p0) = 2 then
    if (lg_cmp (tw_ST_number b p0) 1) = 0 then
      true
    else
      if (lg_cmp (tw_ST_number b p0) (-1)) = 0 then
        true
      else
        false
  else
    false
def tw_SO_leastLeaf_h11 (b : Nat → UInt8) (plc : Int32) (plv : Nat → Int32) (p0 : Int32) : Nat → Int32 → Int32 → Int32
  | 0, _, _ => 0
  | n + 1, x2, x3 =>
    if plc ≤ x3 then
      x2
    else
      if 0 ≤ ((tw_ST_cmp0 b (tw_PA_leaf plc plv x3) x2) * p0) then
        tw_SO_leastLeaf_h11 b plc plv p0 n x2 (x3 + 1)
      else
        tw_SO_leastLeaf_h11 b plc plv p0 n (tw_PA_leaf plc plv x3) (x3 + 1)
def tw_SO_leastLeaf (b : Nat → UInt8) (plc : Int32) (plv : Nat → Int32) (p0 : Int32) : Int32 :=
  tw_SO_leastLeaf_h11 b plc plv p0 (((plc.toInt - (1 : Int32).toInt).toNat) + 1) (tw_PA_leaf plc plv 0) 1
def tw_SO_compareDocuments_h26 (sorts : Int32) (b : Nat → UInt8) (k0 : Nat → Int32) (k1 : Nat → Int32) (k2 : Nat → Int32) (k3 : Nat → Int32) (sg : Nat → Int32) (p0 : Int32) (p1 : Int32) : Nat → Int32 → Int32
  | 0, _ => 0
  | n + 1, x3 =>
    if sorts ≤ x3 then
      0
    else
      if x3 = 0 then
        if (tw_ST_cmp0 b (k0 p0.toNatClampNeg) (k0 p1.toNatClampNeg)) = 0 then
          tw_SO_compareDocuments_h26 sorts b k0 k1 k2 k3 sg p0 p1 n (x3 + 1)
        else
          (tw_ST_cmp0 b (k0 p0.toNatClampNeg) (k0 p1.toNatClampNeg)) * (sg x3.toNatClampNeg)
      else
        if x3 = 1 then
          if (tw_ST_cmp0 b (k1 p0.toNatClampNeg) (k1 p1.toNatClampNeg)) = 0 then
            tw_SO_compareDocuments_h26 sorts b k0 k1 k2 k3 sg p0 p1 n (x3 + 1)
          else
            (tw_ST_cmp0 b (k1 p0.toNatClampNeg) (k1 p1.toNatClampNeg)) * (sg x3.toNatClampNeg)
        else
          if x3 = 2 then
            if (tw_ST_cmp0 b (k2 p0.toNatClampNeg) (k2 p1.toNatClampNeg)) = 0 then
              tw_SO_compareDocuments_h26 sorts b k0 k1 k2 k3 sg p0 p1 n (x3 + 1)
            else
              (tw_ST_cmp0 b (k2 p0.toNatClampNeg) (k2 p1.toNatClampNeg)) * (sg x3.toNatClampNeg)
          else
            if (tw_ST_cmp0 b (k3 p0.toNatClampNeg) (k3 p1.toNatClampNeg)) = 0 then
              tw_SO_compareDocuments_h26 sorts b k0 k1 k2 k3 sg p0 p1 n (x3 + 1)
            else
              (tw_ST_cmp0 b (k3 p0.toNatClampNeg) (k3 p1.toNatClampNeg)) * (sg x3.toNatClampNeg)
def tw_SO_compareDocuments (sorts : Int32) (b : Nat → UInt8) (k0 : Nat → Int32) (k1 : Nat → Int32) (k2 : Nat → Int32) (k3 : Nat → Int32) (sg : Nat → Int32) (p0 : Int32) (p1 : Int32) : Int32 :=
  if p0 < 0 then
    0
  else
    if 200 ≤ p0 then
      0
    else
      if p1 < 0 then
        0
      else
        if p1 < 200 then
          tw_SO_compareDocuments_h26 sorts b k0 k1 k2 k3 sg p0 p1 (((sorts.toInt - (0 : Int32).toInt).toNat) + 1) 0
        else
          0
def tw_SO_placeFor_h7 (sorts : Int32) (b : Nat → UInt8) (k0 : Nat → Int32) (k1 : Nat → Int32) (k2 : Nat → Int32) (k3 : Nat → Int32) (sg : Nat → Int32) (ord : Nat → Int32) (p0 : Int32) : Nat → Int32 → Int32 → Int32 → Int32
  | 0, _, _, _ => 0
  | n + 1, x2, x3, x4 =>
    if 200 < x4 then
      x2
    else
      if x3 ≤ x2 then
        x2
      else
        if (tw_SO_compareDocuments sorts b k0 k1 k2 k3 sg (ord ((x2 + x3) / 2).toNatClampNeg) p0) ≤ 0 then
          tw_SO_placeFor_h7 sorts b k0 k1 k2 k3 sg ord p0 n (((x2 + x3) / 2) + 1) x3 (x4 + 1)
        else
          tw_SO_placeFor_h7 sorts b k0 k1 k2 k3 sg ord p0 n x2 ((x2 + x3) / 2) (x4 + 1)
def tw_SO_placeFor (sorts : Int32) (b : Nat → UInt8) (k0 : Nat → Int32) (k1 : Nat → Int32) (k2 : Nat → Int32) (k3 : Nat → Int32) (sg : Nat → Int32) (ord : Nat → Int32) (p0 : Int32) : Int32 :=
  tw_SO_placeFor_h7 sorts b k0 k1 k2 k3 sg ord p0 ((((200 : Int32).toInt + 1 - (0 : Int32).toInt).toNat) + 1) 0 p0 0
def tw_SO_findKeys_h2 (fbase : Int32) (fcnt : Int32) (fsts : Nat → Int32) (b : Nat → UInt8) (pcnt : Int32) (pst : Nat → Int32) (pen : Nat → Int32) (pix : Nat → Int32) (sg : Nat → Int32) (p0 : Int32) : Nat → Int32 → Int32 → Int32 → Int32 → Bool → (Nat → Int32) → (Nat → Int32) → (Nat → Int32) → (Nat → Int32) → (Nat → Int32) → (Nat → Int32) → Int32 × Int32 × Int32 × Bool × (Nat → Int32) × (Nat → Int32) × (Nat → Int32) × (Nat → Int32) × (Nat → Int32) × (Nat → Int32)
  | 0, x2, plc, psr, pbs, pms, plv, psn, k0, k1, k2, k3 => (plc, psr, pbs, pms, plv, psn, k0, k1, k2, k3)
  | n + 1, x2, plc, psr, pbs, pms, plv, psn, k0, k1, k2, k3 =>
    if fcnt ≤ x2 then
      (plc, psr, pbs, pms, plv, psn, k0, k1, k2, k3)
    else
      if 200 ≤ x2 then
        (plc, psr, pbs, pms, plv, psn, k0, k1, k2, k3)
      else
        tp6 (tw_PA_findLeaves pcnt b pst pen pix plc psr pbs pms plv psn (tw_BS_document fbase fcnt fsts x2)) (fun plc_3 psr_3 pbs_3 pms_3 plv_3 psn_3 =>
          if p0 = 0 then
            tw_SO_findKeys_h2 fbase fcnt fsts b pcnt pst pen pix sg p0 n (x2 + 1) plc_3 psr_3 pbs_3 pms_3 plv_3 psn_3 (upd k0 x2.toNatClampNeg (tw_SO_leastLeaf b plc_3 plv_3 (sg p0.toNatClampNeg))) k1 k2 k3
          else
            if p0 = 1 then
              tw_SO_findKeys_h2 fbase fcnt fsts b pcnt pst pen pix sg p0 n (x2 + 1) plc_3 psr_3 pbs_3 pms_3 plv_3 psn_3 k0 (upd k1 x2.toNatClampNeg (tw_SO_leastLeaf b plc_3 plv_3 (sg p0.toNatClampNeg))) k2 k3
            else
              if p0 = 2 then
                tw_SO_findKeys_h2 fbase fcnt fsts b pcnt pst pen pix sg p0 n (x2 + 1) plc_3 psr_3 pbs_3 pms_3 plv_3 psn_3 k0 k1 (upd k2 x2.toNatClampNeg (tw_SO_leastLeaf b plc_3 plv_3 (sg p0.toNatClampNeg))) k3
              else
                tw_SO_findKeys_h2 fbase fcnt fsts b pcnt pst pen pix sg p0 n (x2 + 1) plc_3 psr_3 pbs_3 pms_3 plv_3 psn_3 k0 k1 k2 (upd k3 x2.toNatClampNeg (tw_SO_leastLeaf b plc_3 plv_3 (sg p0.toNatClampNeg))))
def tw_SO_findKeys (fbase : Int32) (fcnt : Int32) (fsts : Nat → Int32) (b : Nat → UInt8) (pcnt : Int32) (pst : Nat → Int32) (pen : Nat → Int32) (pix : Nat → Int32) (sg : Nat → Int32) (plc : Int32) (psr : Int32) (pbs : Int32) (pms : Bool) (plv : Nat → Int32) (psn : Nat → Int32) (k0 : Nat → Int32) (k1 : Nat → Int32) (k2 : Nat → Int32) (k3 : Nat → Int32) (p0 : Int32) : Int32 × Int32 × Int32 × Bool × (Nat → Int32) × (Nat → Int32) × (Nat → Int32) × (Nat → Int32) × (Nat → Int32) × (Nat → Int32) :=
  tw_SO_findKeys_h2 fbase fcnt fsts b pcnt pst pen pix sg p0 ((((200 : Int32).toInt - (0 : Int32).toInt).toNat) + 1) 0 plc psr pbs pms plv psn k0 k1 k2 k3
def tw_SO_keepInOrder_h80 (fbase : Int32) (nbase : Int32) (sorts : Int32) (fcnt : Int32) (fsts : Nat → Int32) (k0 : Nat → Int32) (k1 : Nat → Int32) (k2 : Nat → Int32) (k3 : Nat → Int32) (sg : Nat → Int32) (x1 : Int32) : Nat → Int32 → Int32 → Int32 → Bool → (Nat → UInt8) → Int32 → (Nat → Int32) → (Nat → Int32) → Int32 × Int32 × Int32 × Bool × (Nat → UInt8) × Int32 × (Nat → Int32) × (Nat → Int32)
  | 0, x2, place, limit, full, b, ncnt, nsts, ord => (0, place, limit, full, b, ncnt, nsts, ord)
  | n + 1, x2, place, limit, full, b, ncnt, nsts, ord =>
    if x1 ≤ x2 then
      (0, place, limit, full, b, ncnt, nsts, ord)
    else
      tp7 (tw_BS_keep fbase nbase fcnt fsts place limit full b ncnt nsts (ord x2.toNatClampNeg)) (fun r_3 place_3 limit_3 full_3 b_3 ncnt_3 nsts_3 =>
        if (b2i r_3) = 0 then
          (5, place_3, limit_3, full_3, b_3, ncnt_3, nsts_3, ord)
        else
          tw_SO_keepInOrder_h80 fbase nbase sorts fcnt fsts k0 k1 k2 k3 sg x1 n (x2 + 1) place_3 limit_3 full_3 b_3 ncnt_3 nsts_3 ord)
def tw_SO_keepInOrder_h37 (fbase : Int32) (nbase : Int32) (sorts : Int32) (fcnt : Int32) (fsts : Nat → Int32) (k0 : Nat → Int32) (k1 : Nat → Int32) (k2 : Nat → Int32) (k3 : Nat → Int32) (sg : Nat → Int32) (K : Int32 → Int32 → Int32 → Bool → (Nat → UInt8) → Int32 → (Nat → Int32) → (Nat → Int32) → Int32 × Int32 × Int32 × Bool × (Nat → UInt8) × Int32 × (Nat → Int32) × (Nat → Int32)) (x1 : Int32) (x2 : Int32) (x3 : Int32) : Nat → Int32 → Int32 → Int32 → Bool → (Nat → UInt8) → Int32 → (Nat → Int32) → (Nat → Int32) → Int32 × Int32 × Int32 × Bool × (Nat → UInt8) × Int32 × (Nat → Int32) × (Nat → Int32)
  | 0, x4, place, limit, full, b, ncnt, nsts, ord => (0, place, limit, full, b, ncnt, nsts, ord)
  | n + 1, x4, place, limit, full, b, ncnt, nsts, ord =>
    if x4 ≤ x3 then
      K x4 place limit full b ncnt nsts ord
    else
      tw_SO_keepInOrder_h37 fbase nbase sorts fcnt fsts k0 k1 k2 k3 sg K x1 x2 x3 n (x4 + (-1)) place limit full b ncnt nsts (upd ord x4.toNatClampNeg (ord (x4 - 1).toNatClampNeg))
def tw_SO_keepInOrder_h19 (fbase : Int32) (nbase : Int32) (sorts : Int32) (fcnt : Int32) (fsts : Nat → Int32) (k0 : Nat → Int32) (k1 : Nat → Int32) (k2 : Nat → Int32) (k3 : Nat → Int32) (sg : Nat → Int32) (x1 : Int32) : Nat → Int32 → Int32 → Int32 → Bool → (Nat → UInt8) → Int32 → (Nat → Int32) → (Nat → Int32) → Int32 × Int32 × Int32 × Bool × (Nat → UInt8) × Int32 × (Nat → Int32) × (Nat → Int32)
  | 0, x2, place, limit, full, b, ncnt, nsts, ord => (0, place, limit, full, b, ncnt, nsts, ord)
  | n + 1, x2, place, limit, full, b, ncnt, nsts, ord =>
    if x1 ≤ x2 then
      tw_SO_keepInOrder_h80 fbase nbase sorts fcnt fsts k0 k1 k2 k3 sg x1 (((x1.toInt - (0 : Int32).toInt).toNat) + 1) 0 place limit full b ncnt nsts ord
    else
      tw_SO_keepInOrder_h37 fbase nbase sorts fcnt fsts k0 k1 k2 k3 sg (fun (x4_6 : Int32) (place_6 : Int32) (limit_6 : Int32) (full_6 : Bool) (b_6 : Nat → UInt8) (ncnt_6 : Int32) (nsts_6 : Nat → Int32) (ord_6 : Nat → Int32) =>
          tw_SO_keepInOrder_h19 fbase nbase sorts fcnt fsts k0 k1 k2 k3 sg x1 n (x2 + 1) place_6 limit_6 full_6 b_6 ncnt_6 nsts_6 (upd ord_6 (if x2 < (tw_SO_placeFor sorts b k0 k1 k2 k3 sg ord x2) then x2 else (tw_SO_placeFor sorts b k0 k1 k2 k3 sg ord x2)).toNatClampNeg x2)) x1 x2 (if x2 < (tw_SO_placeFor sorts b k0 k1 k2 k3 sg ord x2) then x2 else (tw_SO_placeFor sorts b k0 k1 k2 k3 sg ord x2)) (((x2.toInt - (if x2 < (tw_SO_placeFor sorts b k0 k1 k2 k3 sg ord x2) then x2 else (tw_SO_placeFor sorts b k0 k1 k2 k3 sg ord x2)).toInt).toNat) + 1) x2 place limit full b ncnt nsts ord
def tw_SO_keepInOrder (fbase : Int32) (nbase : Int32) (sorts : Int32) (fcnt : Int32) (fsts : Nat → Int32) (k0 : Nat → Int32) (k1 : Nat → Int32) (k2 : Nat → Int32) (k3 : Nat → Int32) (sg : Nat → Int32) (place : Int32) (limit : Int32) (full : Bool) (b : Nat → UInt8) (ncnt : Int32) (nsts : Nat → Int32) (ord : Nat → Int32) : Int32 × Int32 × Int32 × Bool × (Nat → UInt8) × Int32 × (Nat → Int32) × (Nat → Int32) :=
  tw_SO_keepInOrder_h19 fbase nbase sorts fcnt fsts k0 k1 k2 k3 sg (if 200 < fcnt then 200 else fcnt) ((((if 200 < fcnt then 200 else fcnt).toInt - (0 : Int32).toInt).toNat) + 1) 0 place limit full b ncnt nsts ord
def tw_SO_sort_h49 (fbase : Int32) (nbase : Int32) (fcnt : Int32) (fsts : Nat → Int32) : Nat → Int32 → Int32 → Int32 → Int32 → Int32 → Bool → (Nat → UInt8) → Int32 → (Nat → Int32) → Int32 → Bool → Int32 → Int32 → Int32 → Bool → (Nat → Int32) → (Nat → Int32) → (Nat → Int32) → (Nat → Int32) → (Nat → Int32) → (Nat → Int32) → (Nat → Int32) → (Nat → Int32) → (Nat → Int32) → (Nat → Int32) → (Nat → Int32) → Int32 × Int32 × Int32 × Int32 × Bool × (Nat → UInt8) × Int32 × (Nat → Int32) × Int32 × Bool × Int32 × Int32 × Int32 × Bool × (Nat → Int32) × (Nat → Int32) × (Nat → Int32) × (Nat → Int32) × (Nat → Int32) × (Nat → Int32) × (Nat → Int32) × (Nat → Int32) × (Nat → Int32) × (Nat → Int32) × (Nat → Int32)
  | 0, x2, x3, sorts, place, limit, full, b, ncnt, nsts, pcnt, pfix, plc, psr, pbs, pms, pst, pen, pix, plv, psn, k0, k1, k2, k3, sg, ord => (0, sorts, place, limit, full, b, ncnt, nsts, pcnt, pfix, plc, psr, pbs, pms, pst, pen, pix, plv, psn, k0, k1, k2, k3, sg, ord)
  | n + 1, x2, x3, sorts, place, limit, full, b, ncnt, nsts, pcnt, pfix, plc, psr, pbs, pms, pst, pen, pix, plv, psn, k0, k1, k2, k3, sg, ord =>
    if sorts ≤ x3 then
      tp8 (tw_SO_keepInOrder fbase nbase sorts fcnt fsts k0 k1 k2 k3 sg place limit full b ncnt nsts ord) (fun r_5 place_5 limit_5 full_5 b_5 ncnt_5 nsts_5 ord_5 =>
        (r_5, sorts, place_5, limit_5, full_5, b_5, ncnt_5, nsts_5, pcnt, pfix, plc, psr, pbs, pms, pst, pen, pix, plv, psn, k0, k1, k2, k3, sg, ord_5))
    else
      if (b2i (tw_SO_isSign b (tw_ST_valueOf b x2))) = 0 then
        (2, sorts, place, limit, full, b, ncnt, nsts, pcnt, pfix, plc, psr, pbs, pms, pst, pen, pix, plv, psn, k0, k1, k2, k3, sg, ord)
      else
        tp6 (tw_PA_read b pcnt pfix pst pen pix (x2 + 1) ((tw_ST_placeOf (tw_ST_valueOf b x2)) - 1)) (fun r_7 pcnt_7 pfix_7 pst_7 pen_7 pix_7 =>
          if (b2i r_7) = 0 then
            (3, sorts, place, limit, full, b, ncnt, nsts, pcnt_7, pfix_7, plc, psr, pbs, pms, pst_7, pen_7, pix_7, plv, psn, k0, k1, k2, k3, sg, ord)
          else
            tp10 (tw_SO_findKeys fbase fcnt fsts b pcnt_7 pst_7 pen_7 pix_7 (upd sg x3.toNatClampNeg ((tw_ST_number b (tw_ST_valueOf b x2)).toInt32)) plc psr pbs pms plv psn k0 k1 k2 k3 x3) (fun plc_9 psr_9 pbs_9 pms_9 plv_9 psn_9 k0_9 k1_9 k2_9 k3_9 =>
              tw_SO_sort_h49 fbase nbase fcnt fsts n (tw_ST_endOf b (tw_ST_valueOf b x2)) (x3 + 1) sorts place limit full b ncnt nsts pcnt_7 pfix_7 plc_9 psr_9 pbs_9 pms_9 pst_7 pen_7 pix_7 plv_9 psn_9 k0_9 k1_9 k2_9 k3_9 (upd sg x3.toNatClampNeg ((tw_ST_number b (tw_ST_valueOf b x2)).toInt32)) ord))
def tw_SO_sort (fbase : Int32) (nbase : Int32) (fcnt : Int32) (fsts : Nat → Int32) (sorts : Int32) (place : Int32) (limit : Int32) (full : Bool) (b : Nat → UInt8) (ncnt : Int32) (nsts : Nat → Int32) (pcnt : Int32) (pfix : Bool) (plc : Int32) (psr : Int32) (pbs : Int32) (pms : Bool) (pst : Nat → Int32) (pen : Nat → Int32) (pix : Nat → Int32) (plv : Nat → Int32) (psn : Nat → Int32) (k0 : Nat → Int32) (k1 : Nat → Int32) (k2 : Nat → Int32) (k3 : Nat → Int32) (sg : Nat → Int32) (ord : Nat → Int32) (p0 : Int32) : Int32 × Int32 × Int32 × Int32 × Bool × (Nat → UInt8) × Int32 × (Nat → Int32) × Int32 × Bool × Int32 × Int32 × Int32 × Bool × (Nat → Int32) × (Nat → Int32) × (Nat → Int32) × (Nat → Int32) × (Nat → Int32) × (Nat → Int32) × (Nat → Int32) × (Nat → Int32) × (Nat → Int32) × (Nat → Int32) × (Nat → Int32) :=
  if (tw_ST_kindOf p0) = 3 then
    if (tw_ST_countParts b p0) < 1 then
      (2, tw_ST_countParts b p0, place, limit, full, b, ncnt, nsts, pcnt, pfix, plc, psr, pbs, pms, pst, pen, pix, plv, psn, k0, k1, k2, k3, sg, ord)
    else
      if (tw_ST_countParts b p0) ≤ 4 then
        tw_SO_sort_h49 fbase nbase fcnt fsts ((((tw_ST_countParts b p0).toInt - (0 : Int32).toInt).toNat) + 1) ((tw_ST_placeOf p0) + 4) 0 (tw_ST_countParts b p0) place limit full b ncnt nsts pcnt pfix plc psr pbs pms pst pen pix plv psn k0 k1 k2 k3 sg ord
      else
        (2, tw_ST_countParts b p0, place, limit, full, b, ncnt, nsts, pcnt, pfix, plc, psr, pbs, pms, pst, pen, pix, plv, psn, k0, k1, k2, k3, sg, ord)
  else
    (2, sorts, place, limit, full, b, ncnt, nsts, pcnt, pfix, plc, psr, pbs, pms, pst, pen, pix, plv, psn, k0, k1, k2, k3, sg, ord)
def tw_GR_toldBy (b : Nat → UInt8) (p0 : Int32) : Int32 :=
  tw_ST_valueOf b ((tw_ST_placeOf p0) + 4)
def tw_GR_join (gla : Nat → Int32) (gnx : Nat → Int32) (p0 : Int32) (p1 : Int32) : (Nat → Int32) × (Nat → Int32) :=
  if (gla p1.toNatClampNeg) < 0 then
    (upd gla p1.toNatClampNeg p0, gnx)
  else
    if 200 ≤ (gla p1.toNatClampNeg) then
      (upd gla p1.toNatClampNeg p0, gnx)
    else
      (upd gla p1.toNatClampNeg p0, upd gnx (gla p1.toNatClampNeg).toNatClampNeg p0)
def tw_GR_gatherOne_h13 (b : Nat → UInt8) (p0 : Int32) (p1 : Int32) (x3 : Int32) : Nat → Int32 → Int32 → (Nat → Int32) → (Nat → Int32) → (Nat → Int32) → (Nat → Int32) → (Nat → Int32) → Int32 × (Nat → Int32) × (Nat → Int32) × (Nat → Int32) × (Nat → Int32) × (Nat → Int32)
  | 0, x4, ngr, gky, ghs, gfi, gla, gnx => (ngr, gky, ghs, gfi, gla, gnx)
  | n + 1, x4, ngr, gky, ghs, gfi, gla, gnx =>
    if ngr ≤ x4 then
      if 200 ≤ ngr then
        (ngr, gky, ghs, gfi, gla, gnx)
      else
        (ngr + 1, upd gky ngr.toNatClampNeg p1, upd ghs ngr.toNatClampNeg x3, upd gfi ngr.toNatClampNeg p0, upd gla ngr.toNatClampNeg p0, gnx)
    else
      if (ghs x4.toNatClampNeg) = x3 then
        if (tw_ST_cmp0 b (gky x4.toNatClampNeg) p1) = 0 then
          tp2 (tw_GR_join gla gnx p0 x4) (fun gla_5 gnx_5 =>
            (ngr, gky, ghs, gfi, gla_5, gnx_5))
        else
          tw_GR_gatherOne_h13 b p0 p1 x3 n (x4 + 1) ngr gky ghs gfi gla gnx
      else
        tw_GR_gatherOne_h13 b p0 p1 x3 n (x4 + 1) ngr gky ghs gfi gla gnx
def tw_GR_gatherOne (b : Nat → UInt8) (ngr : Int32) (gky : Nat → Int32) (ghs : Nat → Int32) (gfi : Nat → Int32) (gla : Nat → Int32) (gnx : Nat → Int32) (p0 : Int32) (p1 : Int32) : Int32 × (Nat → Int32) × (Nat → Int32) × (Nat → Int32) × (Nat → Int32) × (Nat → Int32) :=
  tw_GR_gatherOne_h13 b p0 p1 (tw_ST_hsh0 b p1) (((ngr.toInt - (0 : Int32).toInt).toNat) + 1) 0 ngr gky ghs gfi gla gnx
def tw_GR_gather_h28 (fbase : Int32) (fcnt : Int32) (fsts : Nat → Int32) : Nat → Int32 → Int32 → (Nat → UInt8) → Int32 → Bool → Int32 → Int32 → Int32 → Bool → (Nat → Int32) → (Nat → Int32) → (Nat → Int32) → (Nat → Int32) → (Nat → Int32) → (Nat → Int32) → (Nat → Int32) → (Nat → Int32) → Int32 × (Nat → UInt8) × Int32 × Bool × Int32 × Int32 × Int32 × Bool × (Nat → Int32) × (Nat → Int32) × (Nat → Int32) × (Nat → Int32) × (Nat → Int32) × (Nat → Int32) × (Nat → Int32) × (Nat → Int32)
  | 0, x2, ngr, b, pcnt, pfix, pown, vplace, vlimit, vfull, pst, pen, pix, gky, ghs, gfi, gla, gnx => (ngr, b, pcnt, pfix, pown, vplace, vlimit, vfull, pst, pen, pix, gky, ghs, gfi, gla, gnx)
  | n + 1, x2, ngr, b, pcnt, pfix, pown, vplace, vlimit, vfull, pst, pen, pix, gky, ghs, gfi, gla, gnx =>
    if fcnt ≤ x2 then
      (ngr, b, pcnt, pfix, pown, vplace, vlimit, vfull, pst, pen, pix, gky, ghs, gfi, gla, gnx)
    else
      if 200 ≤ x2 then
        (ngr, b, pcnt, pfix, pown, vplace, vlimit, vfull, pst, pen, pix, gky, ghs, gfi, gla, gnx)
      else
        tp5 (tw_PA_val0 pcnt pfix pown pst pen vplace vlimit vfull b (tw_BS_document fbase fcnt fsts x2)) (fun r_6 vplace_6 vlimit_6 vfull_6 b_6 =>
          if r_6 = 0 then
            tp6 (tw_GR_gatherOne b_6 ngr gky ghs gfi gla (upd gnx x2.toNatClampNeg (-1)) x2 10) (fun ngr_9 gky_9 ghs_9 gfi_9 gla_9 gnx_9 =>
              tw_GR_gather_h28 fbase fcnt fsts n (x2 + 1) ngr_9 b_6 pcnt pfix pown vplace_6 vlimit_6 vfull_6 pst pen pix gky_9 ghs_9 gfi_9 gla_9 gnx_9)
          else
            tp6 (tw_GR_gatherOne b_6 ngr gky ghs gfi gla (upd gnx x2.toNatClampNeg (-1)) x2 r_6) (fun ngr_8 gky_8 ghs_8 gfi_8 gla_8 gnx_8 =>
              tw_GR_gather_h28 fbase fcnt fsts n (x2 + 1) ngr_8 b_6 pcnt pfix pown vplace_6 vlimit_6 vfull_6 pst pen pix gky_8 ghs_8 gfi_8 gla_8 gnx_8))
def tw_GR_gather (fbase : Int32) (fcnt : Int32) (fsts : Nat → Int32) (ngr : Int32) (b : Nat → UInt8) (pcnt : Int32) (pfix : Bool) (pown : Int32) (vplace : Int32) (vlimit : Int32) (vfull : Bool) (pst : Nat → Int32) (pen : Nat → Int32) (pix : Nat → Int32) (gky : Nat → Int32) (ghs : Nat → Int32) (gfi : Nat → Int32) (gla : Nat → Int32) (gnx : Nat → Int32) (p0 : Int32) : Int32 × (Nat → UInt8) × Int32 × Bool × Int32 × Int32 × Int32 × Bool × (Nat → Int32) × (Nat → Int32) × (Nat → Int32) × (Nat → Int32) × (Nat → Int32) × (Nat → Int32) × (Nat → Int32) × (Nat → Int32) :=
  tp3 (tw_PA_makeRowsAt vplace vlimit vfull 122000) (fun vplace_1 vlimit_1 vfull_1 =>
    tp7 (tw_PA_readExpression b pcnt pfix pown pst pen pix p0) (fun r_2 pcnt_2 pfix_2 pown_2 pst_2 pen_2 pix_2 =>
      if (b2i r_2) = 0 then
        (0, b, pcnt_2, pfix_2, pown_2, vplace_1, vlimit_1, vfull_1, pst_2, pen_2, pix_2, gky, ghs, gfi, gla, gnx)
      else
        tw_GR_gather_h28 fbase fcnt fsts ((((200 : Int32).toInt - (0 : Int32).toInt).toNat) + 1) 0 0 b pcnt_2 pfix_2 pown_2 vplace_1 vlimit_1 vfull_1 pst_2 pen_2 pix_2 gky ghs gfi gla gnx))
def tw_GR_collect_h40 (fbase : Int32) (fcnt : Int32) (fsts : Nat → Int32) (gfi : Nat → Int32) (gnx : Nat → Int32) : Nat → Int32 → Int32 → Int32 → (Nat → UInt8) → Int32 → Bool → Int32 → Int32 → Int32 → Bool → (Nat → Int32) → (Nat → Int32) → (Nat → Int32) → (Nat → Int32) → Int32 × (Nat → UInt8) × Int32 × Bool × Int32 × Int32 × Int32 × Bool × (Nat → Int32) × (Nat → Int32) × (Nat → Int32) × (Nat → Int32)
  | 0, x3, x4, held, b, pcnt, pfix, pown, vplace, vlimit, vfull, pst, pen, pix, gvl => (held, b, pcnt, pfix, pown, vplace, vlimit, vfull, pst, pen, pix, gvl)
  | n + 1, x3, x4, held, b, pcnt, pfix, pown, vplace, vlimit, vfull, pst, pen, pix, gvl =>
    if 200 ≤ x4 then
      (held, b, pcnt, pfix, pown, vplace, vlimit, vfull, pst, pen, pix, gvl)
    else
      if x3 < 0 then
        (held, b, pcnt, pfix, pown, vplace, vlimit, vfull, pst, pen, pix, gvl)
      else
        if 200 ≤ x3 then
          (held, b, pcnt, pfix, pown, vplace, vlimit, vfull, pst, pen, pix, gvl)
        else
          tp5 (tw_PA_val0 pcnt pfix pown pst pen vplace vlimit vfull b (tw_BS_document fbase fcnt fsts x3)) (fun r_7 vplace_7 vlimit_7 vfull_7 b_7 =>
            tw_GR_collect_h40 fbase fcnt fsts gfi gnx n (gnx x3.toNatClampNeg) (x4 + 1) (held + 1) b_7 pcnt pfix pown vplace_7 vlimit_7 vfull_7 pst pen pix (upd gvl x4.toNatClampNeg r_7))
def tw_GR_collect (fbase : Int32) (fcnt : Int32) (fsts : Nat → Int32) (gfi : Nat → Int32) (gnx : Nat → Int32) (held : Int32) (b : Nat → UInt8) (pcnt : Int32) (pfix : Bool) (pown : Int32) (vplace : Int32) (vlimit : Int32) (vfull : Bool) (pst : Nat → Int32) (pen : Nat → Int32) (pix : Nat → Int32) (gvl : Nat → Int32) (p0 : Int32) (p1 : Int32) : Int32 × (Nat → UInt8) × Int32 × Bool × Int32 × Int32 × Int32 × Bool × (Nat → Int32) × (Nat → Int32) × (Nat → Int32) × (Nat → Int32) :=
  tp3 (tw_PA_makeRowsAt vplace vlimit vfull 162000) (fun vplace_1 vlimit_1 vfull_1 =>
    tp7 (tw_PA_readExpression b pcnt pfix pown pst pen pix (tw_GR_toldBy b p0)) (fun r_2 pcnt_2 pfix_2 pown_2 pst_2 pen_2 pix_2 =>
      if (b2i r_2) = 0 then
        (0, b, pcnt_2, pfix_2, pown_2, vplace_1, vlimit_1, vfull_1, pst_2, pen_2, pix_2, gvl)
      else
        tw_GR_collect_h40 fbase fcnt fsts gfi gnx ((((200 : Int32).toInt - (0 : Int32).toInt).toNat) + 1) (gfi p1.toNatClampNeg) 0 0 b pcnt_2 pfix_2 pown_2 vplace_1 vlimit_1 vfull_1 pst_2 pen_2 pix_2 gvl))
def tw_GR_addUp_h7 (held : Int32) (b : Nat → UInt8) (gvl : Nat → Int32) : Nat → Int64 → Int64 → Int32 → Int64 → Bool × Int64
  | 0, x1, x3, x5, gsum => (false, gsum)
  | n + 1, x1, x3, x5, gsum =>
    if held ≤ x5 then
      if (lg_cmp ((((x1 + (x3 >>> ((32 : Int32).toInt64 &&& 63))) <<< ((32 : Int32).toInt64 &&& 63)) ||| (x3 &&& 4294967295)) >>> ((32 : Int32).toInt64 &&& 63)) (x1 + (x3 >>> ((32 : Int32).toInt64 &&& 63)))) = 0 then
        (true, ((x1 + (x3 >>> ((32 : Int32).toInt64 &&& 63))) <<< ((32 : Int32).toInt64 &&& 63)) ||| (x3 &&& 4294967295))
      else
        (false, ((x1 + (x3 >>> ((32 : Int32).toInt64 &&& 63))) <<< ((32 : Int32).toInt64 &&& 63)) ||| (x3 &&& 4294967295))
    else
      if (tw_ST_classOf (gvl x5.toNatClampNeg)) = 2 then
        tw_GR_addUp_h7 held b gvl n (x1 + ((tw_ST_number b (gvl x5.toNatClampNeg)) >>> ((32 : Int32).toInt64 &&& 63))) (x3 + ((tw_ST_number b (gvl x5.toNatClampNeg)) &&& 4294967295)) (x5 + 1) gsum
      else
        tw_GR_addUp_h7 held b gvl n x1 x3 (x5 + 1) gsum
def tw_GR_addUp (held : Int32) (b : Nat → UInt8) (gvl : Nat → Int32) (gsum : Int64) : Bool × Int64 :=
  tw_GR_addUp_h7 held b gvl (((held.toInt - (0 : Int32).toInt).toNat) + 1) 0 0 0 gsum
def tw_GR_outermost (held : Int32) (gvl : Nat → Int32) (p0 : Int32) : Int32 :=
  if p0 = 0 then
    if held ≤ 0 then
      0
    else
      gvl (0 : Int32).toNatClampNeg
  else
    if (held - 1) < 0 then
      0
    else
      if held ≤ (held - 1) then
        0
      else
        if 200 ≤ (held - 1) then
          0
        else
          gvl (held - 1).toNatClampNeg
def tw_GR_least_h4 (held : Int32) (b : Nat → UInt8) (gvl : Nat → Int32) (p0 : Int32) : Nat → Int32 → Int32 → Int32
  | 0, _, _ => 0
  | n + 1, x2, x3 =>
    if held ≤ x3 then
      x2
    else
      if (gvl x3.toNatClampNeg) = 0 then
        tw_GR_least_h4 held b gvl p0 n x2 (x3 + 1)
      else
        if x2 = 0 then
          tw_GR_least_h4 held b gvl p0 n (gvl x3.toNatClampNeg) (x3 + 1)
        else
          if 0 ≤ ((tw_ST_cmp0 b (gvl x3.toNatClampNeg) x2) * p0) then
            tw_GR_least_h4 held b gvl p0 n x2 (x3 + 1)
          else
            tw_GR_least_h4 held b gvl p0 n (gvl x3.toNatClampNeg) (x3 + 1)
def tw_GR_least (held : Int32) (b : Nat → UInt8) (gvl : Nat → Int32) (p0 : Int32) : Int32 :=
  tw_GR_least_h4 held b gvl p0 (((held.toInt - (0 : Int32).toInt).toNat) + 1) 0 0
def tw_GR_dropTwins_h12 (held : Int32) (b : Nat → UInt8) (K : Int32 → (Nat → Int32) → (Nat → Int32)) (x1 : Int32) : Nat → Int32 → (Nat → Int32) → (Nat → Int32)
  | 0, x2, gvl => gvl
  | n + 1, x2, gvl =>
    if x1 ≤ x2 then
      K x2 gvl
    else
      if (gvl x1.toNatClampNeg) = 0 then
        K x2 gvl
      else
        if (tw_ST_cmp0 b (gvl x2.toNatClampNeg) (gvl x1.toNatClampNeg)) = 0 then
          tw_GR_dropTwins_h12 held b K x1 n (x2 + 1) (upd gvl x1.toNatClampNeg 0)
        else
          tw_GR_dropTwins_h12 held b K x1 n (x2 + 1) gvl
def tw_GR_dropTwins_h2 (held : Int32) (b : Nat → UInt8) : Nat → Int32 → (Nat → Int32) → (Nat → Int32)
  | 0, x1, gvl => gvl
  | n + 1, x1, gvl =>
    if held ≤ x1 then
      gvl
    else
      tw_GR_dropTwins_h12 held b (fun (x2_5 : Int32) (gvl_5 : Nat → Int32) =>
          tw_GR_dropTwins_h2 held b n (x1 + 1) gvl_5) x1 (((x1.toInt - (0 : Int32).toInt).toNat) + 1) 0 gvl
def tw_GR_dropTwins (held : Int32) (b : Nat → UInt8) (gvl : Nat → Int32) : (Nat → Int32) :=
  tw_GR_dropTwins_h2 held b (((held.toInt - (1 : Int32).toInt).toNat) + 1) 1 gvl
def tw_GR_writeRow_h10 (held : Int32) (gvl : Nat → Int32) (x2 : Int32) : Nat → Int32 → Int32 → Int32 → Int32 → Bool → (Nat → UInt8) → Int32 × Int32 × Bool × (Nat → UInt8)
  | 0, x3, x4, place, limit, full, b => (place, limit, full, b)
  | n + 1, x3, x4, place, limit, full, b =>
    if held ≤ x4 then
      tp4 (tw_WR_close place limit full b x2) (fun place_3 limit_3 full_3 b_3 =>
        (place_3, limit_3, full_3, b_3))
    else
      if (gvl x4.toNatClampNeg) = 0 then
        tw_GR_writeRow_h10 held gvl x2 n x3 (x4 + 1) place limit full b
      else
        tp4 (tw_WR_index place limit full b (tw_ST_kindOf (gvl x4.toNatClampNeg)) x3) (fun place_5 limit_5 full_5 b_5 =>
          tp4 (tw_WR_copy place_5 limit_5 full_5 b_5 (tw_ST_placeOf (gvl x4.toNatClampNeg)) (tw_ST_endOf b_5 (gvl x4.toNatClampNeg))) (fun place_6 limit_6 full_6 b_6 =>
            tw_GR_writeRow_h10 held gvl x2 n (x3 + 1) (x4 + 1) place_6 limit_6 full_6 b_6))
def tw_GR_writeRow (held : Int32) (gvl : Nat → Int32) (place : Int32) (limit : Int32) (full : Bool) (b : Nat → UInt8) : Int32 × Int32 × Bool × (Nat → UInt8) :=
  tp5 (tw_WR_open place limit full b) (fun r_1 place_1 limit_1 full_1 b_1 =>
    tw_GR_writeRow_h10 held gvl r_1 (((held.toInt - (0 : Int32).toInt).toNat) + 1) 0 0 place_1 limit_1 full_1 b_1)
def tw_GR_writePart (held : Int32) (gsum : Int64) (place : Int32) (limit : Int32) (full : Bool) (b : Nat → UInt8) (gvl : Nat → Int32) (p1 : Int32) (p2 : Int32) (p3 : Int32) : Int64 × Int32 × Int32 × Bool × (Nat → UInt8) × (Nat → Int32) :=
  if p3 = 1 then
    tp4 (tw_WR_name place limit full b 18 p1 p2) (fun place_43 limit_43 full_43 b_43 =>
      tp4 (tw_WR_whole64 place_43 limit_43 full_43 b_43 held.toInt64) (fun place_44 limit_44 full_44 b_44 =>
        (gsum, place_44, limit_44, full_44, b_44, gvl)))
  else
    if p3 = 2 then
      tp2 (tw_GR_addUp held b gvl gsum) (fun r_40 gsum_40 =>
        tp4 (tw_WR_name place limit full b 18 p1 p2) (fun place_41 limit_41 full_41 b_41 =>
          tp4 (tw_WR_whole64 place_41 limit_41 full_41 b_41 gsum_40) (fun place_42 limit_42 full_42 b_42 =>
            (gsum_40, place_42, limit_42, full_42, b_42, gvl))))
    else
      if p3 = 7 then
        if p3 = 8 then
          tp1 (tw_GR_dropTwins held b gvl) (fun gvl_7 =>
            tp4 (tw_WR_name place limit full b 4 p1 p2) (fun place_8 limit_8 full_8 b_8 =>
              tp4 (tw_GR_writeRow held gvl_7 place_8 limit_8 full_8 b_8) (fun place_9 limit_9 full_9 b_9 =>
                (gsum, place_9, limit_9, full_9, b_9, gvl_7))))
        else
          tp4 (tw_WR_name place limit full b 4 p1 p2) (fun place_5 limit_5 full_5 b_5 =>
            tp4 (tw_GR_writeRow held gvl place_5 limit_5 full_5 b_5) (fun place_6 limit_6 full_6 b_6 =>
              (gsum, place_6, limit_6, full_6, b_6, gvl)))
      else
        if p3 = 8 then
          if p3 = 8 then
            tp1 (tw_GR_dropTwins held b gvl) (fun gvl_37 =>
              tp4 (tw_WR_name place limit full b 4 p1 p2) (fun place_38 limit_38 full_38 b_38 =>
                tp4 (tw_GR_writeRow held gvl_37 place_38 limit_38 full_38 b_38) (fun place_39 limit_39 full_39 b_39 =>
                  (gsum, place_39, limit_39, full_39, b_39, gvl_37))))
          else
            tp4 (tw_WR_name place limit full b 4 p1 p2) (fun place_35 limit_35 full_35 b_35 =>
              tp4 (tw_GR_writeRow held gvl place_35 limit_35 full_35 b_35) (fun place_36 limit_36 full_36 b_36 =>
                (gsum, place_36, limit_36, full_36, b_36, gvl)))
        else
          if p3 = 3 then
            if (tw_GR_least held b gvl 1) = 0 then
              tp4 (tw_WR_name place limit full b (tw_ST_kindOf 10) p1 p2) (fun place_32 limit_32 full_32 b_32 =>
                tp4 (tw_WR_copy place_32 limit_32 full_32 b_32 (tw_ST_placeOf 10) (tw_ST_endOf b_32 10)) (fun place_33 limit_33 full_33 b_33 =>
                  (gsum, place_33, limit_33, full_33, b_33, gvl)))
            else
              tp4 (tw_WR_name place limit full b (tw_ST_kindOf (tw_GR_least held b gvl 1)) p1 p2) (fun place_30 limit_30 full_30 b_30 =>
                tp4 (tw_WR_copy place_30 limit_30 full_30 b_30 (tw_ST_placeOf (tw_GR_least held b gvl 1)) (tw_ST_endOf b_30 (tw_GR_least held b gvl 1))) (fun place_31 limit_31 full_31 b_31 =>
                  (gsum, place_31, limit_31, full_31, b_31, gvl)))
          else
            if p3 = 4 then
              if (tw_GR_least held b gvl (-1)) = 0 then
                tp4 (tw_WR_name place limit full b (tw_ST_kindOf 10) p1 p2) (fun place_27 limit_27 full_27 b_27 =>
                  tp4 (tw_WR_copy place_27 limit_27 full_27 b_27 (tw_ST_placeOf 10) (tw_ST_endOf b_27 10)) (fun place_28 limit_28 full_28 b_28 =>
                    (gsum, place_28, limit_28, full_28, b_28, gvl)))
              else
                tp4 (tw_WR_name place limit full b (tw_ST_kindOf (tw_GR_least held b gvl (-1))) p1 p2) (fun place_25 limit_25 full_25 b_25 =>
                  tp4 (tw_WR_copy place_25 limit_25 full_25 b_25 (tw_ST_placeOf (tw_GR_least held b gvl (-1))) (tw_ST_endOf b_25 (tw_GR_least held b gvl (-1)))) (fun place_26 limit_26 full_26 b_26 =>
                    (gsum, place_26, limit_26, full_26, b_26, gvl)))
            else
              if p3 = 6 then
                if (tw_GR_outermost held gvl 1) = 0 then
                  tp4 (tw_WR_name place limit full b (tw_ST_kindOf 10) p1 p2) (fun place_22 limit_22 full_22 b_22 =>
                    tp4 (tw_WR_copy place_22 limit_22 full_22 b_22 (tw_ST_placeOf 10) (tw_ST_endOf b_22 10)) (fun place_23 limit_23 full_23 b_23 =>
                      (gsum, place_23, limit_23, full_23, b_23, gvl)))
                else
                  tp4 (tw_WR_name place limit full b (tw_ST_kindOf (tw_GR_outermost held gvl 1)) p1 p2) (fun place_20 limit_20 full_20 b_20 =>
                    tp4 (tw_WR_copy place_20 limit_20 full_20 b_20 (tw_ST_placeOf (tw_GR_outermost held gvl 1)) (tw_ST_endOf b_20 (tw_GR_outermost held gvl 1))) (fun place_21 limit_21 full_21 b_21 =>
                      (gsum, place_21, limit_21, full_21, b_21, gvl)))
              else
                if (tw_GR_outermost held gvl 0) = 0 then
                  tp4 (tw_WR_name place limit full b (tw_ST_kindOf 10) p1 p2) (fun place_17 limit_17 full_17 b_17 =>
                    tp4 (tw_WR_copy place_17 limit_17 full_17 b_17 (tw_ST_placeOf 10) (tw_ST_endOf b_17 10)) (fun place_18 limit_18 full_18 b_18 =>
                      (gsum, place_18, limit_18, full_18, b_18, gvl)))
                else
                  tp4 (tw_WR_name place limit full b (tw_ST_kindOf (tw_GR_outermost held gvl 0)) p1 p2) (fun place_15 limit_15 full_15 b_15 =>
                    tp4 (tw_WR_copy place_15 limit_15 full_15 b_15 (tw_ST_placeOf (tw_GR_outermost held gvl 0)) (tw_ST_endOf b_15 (tw_GR_outermost held gvl 0))) (fun place_16 limit_16 full_16 b_16 =>
                      (gsum, place_16, limit_16, full_16, b_16, gvl)))
def tw_JA_fill1024_h5 (p1 : Int32) (x3 : Int32) : Nat → Int32 → (Nat → Int32) → (Nat → Int32)
  | 0, x2, fch => fch
  | n + 1, x2, fch =>
    if x3 ≤ x2 then
      fch
    else
      tw_JA_fill1024_h5 p1 x3 n (x2 + 1) (upd fch x2.toNatClampNeg p1)
def tw_JA_fill1024 (fch : Nat → Int32) (p1 : Int32) : (Nat → Int32) :=
  tw_JA_fill1024_h5 p1 1024 ((((1024 : Int32).toInt - (0 : Int32).toInt).toNat) + 1) 0 fch
def tw_JA_fill200_h5 (p1 : Int32) (x3 : Int32) : Nat → Int32 → (Nat → Int32) → (Nat → Int32)
  | 0, x2, fow => fow
  | n + 1, x2, fow =>
    if x3 ≤ x2 then
      fow
    else
      tw_JA_fill200_h5 p1 x3 n (x2 + 1) (upd fow x2.toNatClampNeg p1)
def tw_JA_fill200 (fow : Nat → Int32) (p1 : Int32) : (Nat → Int32) :=
  tw_JA_fill200_h5 p1 200 ((((200 : Int32).toInt - (0 : Int32).toInt).toNat) + 1) 0 fow
def tw_FI_chainOf (p0 : Int32) : Int32 :=
  ((p0 ^^^ ((p0.toUInt32 >>> ((10 : Int32).toUInt32 &&& Int32.toUInt32 31)).toInt32)) ^^^ ((p0.toUInt32 >>> ((20 : Int32).toUInt32 &&& Int32.toUInt32 31)).toInt32)) &&& 1023
def tw_FI_leavesToTake (plc : Int32) : Int32 :=
  if plc < 1 then 1 else plc
def tw_FI_leafToTake (plc : Int32) (plv : Nat → Int32) (p0 : Int32) : Int32 :=
  if (tw_PA_leaf plc plv p0) = 0 then
    10
  else
    tw_PA_leaf plc plv p0
def tw_FI_remember_h28 (b : Nat → UInt8) (p0 : Int32) (p1 : Int32) (x3 : Int32) (x4 : Int32) : Nat → Int32 → Int32 → Int32 → (Nat → Int32) → (Nat → Int32) → (Nat → Int32) → (Nat → Int32) → (Nat → Int32) → Int32 × (Nat → Int32) × (Nat → Int32) × (Nat → Int32) × (Nat → Int32) × (Nat → Int32)
  | 0, x5, x6, fict, fch, fnx, flv, fhs, fdo => (fict, fch, fnx, flv, fhs, fdo)
  | n + 1, x5, x6, fict, fch, fnx, flv, fhs, fdo =>
    if fict ≤ x6 then
      if 13533 ≤ fict then
        (fict, fch, fnx, flv, fhs, fdo)
      else
        (fict + 1, upd fch x4.toNatClampNeg fict, upd fnx fict.toNatClampNeg (fch x4.toNatClampNeg), upd flv fict.toNatClampNeg p0, upd fhs fict.toNatClampNeg x3, upd fdo fict.toNatClampNeg p1)
    else
      if x5 < 0 then
        if 13533 ≤ fict then
          (fict, fch, fnx, flv, fhs, fdo)
        else
          (fict + 1, upd fch x4.toNatClampNeg fict, upd fnx fict.toNatClampNeg (fch x4.toNatClampNeg), upd flv fict.toNatClampNeg p0, upd fhs fict.toNatClampNeg x3, upd fdo fict.toNatClampNeg p1)
      else
        if fict ≤ x5 then
          if 13533 ≤ fict then
            (fict, fch, fnx, flv, fhs, fdo)
          else
            (fict + 1, upd fch x4.toNatClampNeg fict, upd fnx fict.toNatClampNeg (fch x4.toNatClampNeg), upd flv fict.toNatClampNeg p0, upd fhs fict.toNatClampNeg x3, upd fdo fict.toNatClampNeg p1)
        else
          if (fdo x5.toNatClampNeg) = p1 then
            if (fhs x5.toNatClampNeg) = x3 then
              if (tw_ST_cmp0 b p0 (flv x5.toNatClampNeg)) = 0 then
                (fict, fch, fnx, flv, fhs, fdo)
              else
                tw_FI_remember_h28 b p0 p1 x3 x4 n (fnx x5.toNatClampNeg) (x6 + 1) fict fch fnx flv fhs fdo
            else
              tw_FI_remember_h28 b p0 p1 x3 x4 n (fnx x5.toNatClampNeg) (x6 + 1) fict fch fnx flv fhs fdo
          else
            if 13533 ≤ fict then
              (fict, fch, fnx, flv, fhs, fdo)
            else
              (fict + 1, upd fch x4.toNatClampNeg fict, upd fnx fict.toNatClampNeg (fch x4.toNatClampNeg), upd flv fict.toNatClampNeg p0, upd fhs fict.toNatClampNeg x3, upd fdo fict.toNatClampNeg p1)
def tw_FI_remember (b : Nat → UInt8) (fict : Int32) (fch : Nat → Int32) (fnx : Nat → Int32) (flv : Nat → Int32) (fhs : Nat → Int32) (fdo : Nat → Int32) (p0 : Int32) (p1 : Int32) : Int32 × (Nat → Int32) × (Nat → Int32) × (Nat → Int32) × (Nat → Int32) × (Nat → Int32) :=
  tw_FI_remember_h28 b p0 p1 (tw_ST_hsh0 b p0) (tw_FI_chainOf (tw_ST_hsh0 b p0)) (((fict.toInt - (0 : Int32).toInt).toNat) + 1) (fch (tw_FI_chainOf (tw_ST_hsh0 b p0)).toNatClampNeg) 0 fict fch fnx flv fhs fdo
def tw_FI_match_h24 (fict : Int32) (b : Nat → UInt8) (fch : Nat → Int32) (fnx : Nat → Int32) (flv : Nat → Int32) (fhs : Nat → Int32) (fdo : Nat → Int32) (p0 : Int32) (p1 : Int32) (x3 : Int32) : Nat → Int32 → Int32 → (Nat → Int32) → (Nat → Int32)
  | 0, x4, x5, fow => fow
  | n + 1, x4, x5, fow =>
    if fict ≤ x5 then
      fow
    else
      if x4 < 0 then
        fow
      else
        if fict ≤ x4 then
          fow
        else
          if (fhs x4.toNatClampNeg) = x3 then
            if (fdo x4.toNatClampNeg) < 0 then
              tw_FI_match_h24 fict b fch fnx flv fhs fdo p0 p1 x3 n (fnx x4.toNatClampNeg) (x5 + 1) fow
            else
              if 200 ≤ (fdo x4.toNatClampNeg) then
                tw_FI_match_h24 fict b fch fnx flv fhs fdo p0 p1 x3 n (fnx x4.toNatClampNeg) (x5 + 1) fow
              else
                if (fow (fdo x4.toNatClampNeg).toNatClampNeg) = p1 then
                  tw_FI_match_h24 fict b fch fnx flv fhs fdo p0 p1 x3 n (fnx x4.toNatClampNeg) (x5 + 1) fow
                else
                  if (tw_ST_cmp0 b p0 (flv x4.toNatClampNeg)) = 0 then
                    tw_FI_match_h24 fict b fch fnx flv fhs fdo p0 p1 x3 n (fnx x4.toNatClampNeg) (x5 + 1) (upd fow (fdo x4.toNatClampNeg).toNatClampNeg p1)
                  else
                    tw_FI_match_h24 fict b fch fnx flv fhs fdo p0 p1 x3 n (fnx x4.toNatClampNeg) (x5 + 1) fow
          else
            tw_FI_match_h24 fict b fch fnx flv fhs fdo p0 p1 x3 n (fnx x4.toNatClampNeg) (x5 + 1) fow
def tw_FI_match (fict : Int32) (b : Nat → UInt8) (fch : Nat → Int32) (fnx : Nat → Int32) (flv : Nat → Int32) (fhs : Nat → Int32) (fdo : Nat → Int32) (fow : Nat → Int32) (p0 : Int32) (p1 : Int32) : (Nat → Int32) :=
  tw_FI_match_h24 fict b fch fnx flv fhs fdo p0 p1 (tw_ST_hsh0 b p0) (((fict.toInt - (0 : Int32).toInt).toNat) + 1) (fch (tw_FI_chainOf (tw_ST_hsh0 b p0)).toNatClampNeg) 0 fow
def tw_FI_writeRow_h11 (kbase : Int32) (kcnt : Int32) (ksts : Nat → Int32) (fow : Nat → Int32) (p1 : Int32) (x3 : Int32) : Nat → Int32 → Int32 → Int32 → Int32 → Bool → (Nat → UInt8) → Int32 × Int32 × Bool × (Nat → UInt8)
  | 0, x4, x5, place, limit, full, b => (place, limit, full, b)
  | n + 1, x4, x5, place, limit, full, b =>
    if kcnt ≤ x5 then
      tp4 (tw_WR_close place limit full b x3) (fun place_3 limit_3 full_3 b_3 =>
        (place_3, limit_3, full_3, b_3))
    else
      if 200 ≤ x5 then
        tp4 (tw_WR_close place limit full b x3) (fun place_5 limit_5 full_5 b_5 =>
          (place_5, limit_5, full_5, b_5))
      else
        if (b2i full) = 0 then
          if (fow x5.toNatClampNeg) = p1 then
            tp4 (tw_WR_index place limit full b 3 x4) (fun place_9 limit_9 full_9 b_9 =>
              tp4 (tw_WR_copy place_9 limit_9 full_9 b_9 (tw_BE_start kbase kcnt ksts x5) (tw_BE_start kbase kcnt ksts (x5 + 1))) (fun place_10 limit_10 full_10 b_10 =>
                tw_FI_writeRow_h11 kbase kcnt ksts fow p1 x3 n (x4 + 1) (x5 + 1) place_10 limit_10 full_10 b_10))
          else
            tw_FI_writeRow_h11 kbase kcnt ksts fow p1 x3 n x4 (x5 + 1) place limit full b
        else
          tp4 (tw_WR_close place limit full b x3) (fun place_7 limit_7 full_7 b_7 =>
            (place_7, limit_7, full_7, b_7))
def tw_FI_writeRow (kbase : Int32) (kcnt : Int32) (ksts : Nat → Int32) (fow : Nat → Int32) (place : Int32) (limit : Int32) (full : Bool) (b : Nat → UInt8) (p1 : Int32) : Int32 × Int32 × Bool × (Nat → UInt8) :=
  tp5 (tw_WR_open place limit full b) (fun r_1 place_1 limit_1 full_1 b_1 =>
    tw_FI_writeRow_h11 kbase kcnt ksts fow p1 r_1 ((((200 : Int32).toInt - (0 : Int32).toInt).toNat) + 1) 0 0 place_1 limit_1 full_1 b_1)
def tw_FI_gather_h68 (kbase : Int32) (kcnt : Int32) (ksts : Nat → Int32) (b : Nat → UInt8) (pcnt : Int32) (pst : Nat → Int32) (pen : Nat → Int32) (pix : Nat → Int32) (K : Int32 → Int32 → Int32 → Int32 → Int32 → Bool → (Nat → Int32) → (Nat → Int32) → (Nat → Int32) → (Nat → Int32) → (Nat → Int32) → (Nat → Int32) → (Nat → Int32) → (Nat → Int32) → Int32 × Int32 × Int32 × Int32 × Bool × (Nat → Int32) × (Nat → Int32) × (Nat → Int32) × (Nat → Int32) × (Nat → Int32) × (Nat → Int32) × (Nat → Int32) × (Nat → Int32)) (x1 : Int32) : Nat → Int32 → Int32 → Int32 → Int32 → Int32 → Bool → (Nat → Int32) → (Nat → Int32) → (Nat → Int32) → (Nat → Int32) → (Nat → Int32) → (Nat → Int32) → (Nat → Int32) → (Nat → Int32) → Int32 × Int32 × Int32 × Int32 × Bool × (Nat → Int32) × (Nat → Int32) × (Nat → Int32) × (Nat → Int32) × (Nat → Int32) × (Nat → Int32) × (Nat → Int32) × (Nat → Int32)
  | 0, x2, fict, plc, psr, pbs, pms, plv, psn, fch, fnx, flv, fhs, fdo, fow => (fict, plc, psr, pbs, pms, plv, psn, fch, fnx, flv, fhs, fdo, fow)
  | n + 1, x2, fict, plc, psr, pbs, pms, plv, psn, fch, fnx, flv, fhs, fdo, fow =>
    if (tw_FI_leavesToTake plc) ≤ x2 then
      K x2 fict plc psr pbs pms plv psn fch fnx flv fhs fdo fow
    else
      tp6 (tw_FI_remember b fict fch fnx flv fhs fdo (tw_FI_leafToTake plc plv x2) x1) (fun fict_7 fch_7 fnx_7 flv_7 fhs_7 fdo_7 =>
        tw_FI_gather_h68 kbase kcnt ksts b pcnt pst pen pix K x1 n (x2 + 1) fict_7 plc psr pbs pms plv psn fch_7 fnx_7 flv_7 fhs_7 fdo_7 fow)
def tw_FI_gather_h23 (kbase : Int32) (kcnt : Int32) (ksts : Nat → Int32) (b : Nat → UInt8) (pcnt : Int32) (pst : Nat → Int32) (pen : Nat → Int32) (pix : Nat → Int32) : Nat → Int32 → Int32 → Int32 → Int32 → Int32 → Bool → (Nat → Int32) → (Nat → Int32) → (Nat → Int32) → (Nat → Int32) → (Nat → Int32) → (Nat → Int32) → (Nat → Int32) → (Nat → Int32) → Int32 × Int32 × Int32 × Int32 × Bool × (Nat → Int32) × (Nat → Int32) × (Nat → Int32) × (Nat → Int32) × (Nat → Int32) × (Nat → Int32) × (Nat → Int32) × (Nat → Int32)
  | 0, x1, fict, plc, psr, pbs, pms, plv, psn, fch, fnx, flv, fhs, fdo, fow => (fict, plc, psr, pbs, pms, plv, psn, fch, fnx, flv, fhs, fdo, fow)
  | n + 1, x1, fict, plc, psr, pbs, pms, plv, psn, fch, fnx, flv, fhs, fdo, fow =>
    if kcnt ≤ x1 then
      (fict, plc, psr, pbs, pms, plv, psn, fch, fnx, flv, fhs, fdo, fow)
    else
      if 200 ≤ x1 then
        (fict, plc, psr, pbs, pms, plv, psn, fch, fnx, flv, fhs, fdo, fow)
      else
        tp6 (tw_PA_findLeaves pcnt b pst pen pix plc psr pbs pms plv psn (tw_ST_ref 3 (tw_BE_start kbase kcnt ksts x1))) (fun plc_5 psr_5 pbs_5 pms_5 plv_5 psn_5 =>
          tw_FI_gather_h68 kbase kcnt ksts b pcnt pst pen pix (fun (x2_8 : Int32) (fict_8 : Int32) (plc_8 : Int32) (psr_8 : Int32) (pbs_8 : Int32) (pms_8 : Bool) (plv_8 : Nat → Int32) (psn_8 : Nat → Int32) (fch_8 : Nat → Int32) (fnx_8 : Nat → Int32) (flv_8 : Nat → Int32) (fhs_8 : Nat → Int32) (fdo_8 : Nat → Int32) (fow_8 : Nat → Int32) =>
            tw_FI_gather_h23 kbase kcnt ksts b pcnt pst pen pix n (x1 + 1) fict_8 plc_8 psr_8 pbs_8 pms_8 plv_8 psn_8 fch_8 fnx_8 flv_8 fhs_8 fdo_8 fow_8) x1 ((((tw_FI_leavesToTake plc_5).toInt - (0 : Int32).toInt).toNat) + 1) 0 fict plc_5 psr_5 pbs_5 pms_5 plv_5 psn_5 fch fnx flv fhs fdo fow)
def tw_FI_gather (kbase : Int32) (kcnt : Int32) (ksts : Nat → Int32) (b : Nat → UInt8) (pcnt : Int32) (pst : Nat → Int32) (pen : Nat → Int32) (pix : Nat → Int32) (fict : Int32) (plc : Int32) (psr : Int32) (pbs : Int32) (pms : Bool) (plv : Nat → Int32) (psn : Nat → Int32) (fch : Nat → Int32) (fnx : Nat → Int32) (flv : Nat → Int32) (fhs : Nat → Int32) (fdo : Nat → Int32) (fow : Nat → Int32) : Int32 × Int32 × Int32 × Int32 × Bool × (Nat → Int32) × (Nat → Int32) × (Nat → Int32) × (Nat → Int32) × (Nat → Int32) × (Nat → Int32) × (Nat → Int32) × (Nat → Int32) :=
  tp1 (tw_JA_fill1024 fch (-1)) (fun fch_1 =>
    tp1 (tw_JA_fill200 fow (-1)) (fun fow_2 =>
      tw_FI_gather_h23 kbase kcnt ksts b pcnt pst pen pix ((((200 : Int32).toInt - (0 : Int32).toInt).toNat) + 1) 0 0 plc psr pbs pms plv psn fch_1 fnx flv fhs fdo fow_2))
def tw_ST_named_h15 (i9 : Nat) (b : Nat → UInt8) (p0 : Int32) : Nat → Int32 → Bool
  | 0, _ => false
  | n + 1, x4 =>
    if (nI (sLen.getD i9 0)) ≤ x4 then
      true
    else
      if (tw_ST_at b (p0 + x4)) = (sch i9 x4) then
        tw_ST_named_h15 i9 b p0 n (x4 + 1)
      else
        false
def tw_ST_named (i9 : Nat) (b : Nat → UInt8) (p0 : Int32) (p1 : Int32) : Bool :=
  if (p1 - p0) = (nI (sLen.getD i9 0)) then
    tw_ST_named_h15 i9 b p0 ((((nI (sLen.getD i9 0)).toInt - (0 : Int32).toInt).toNat) + 1) 0
  else
    false
def tw_GR_workOf (b : Nat → UInt8) (p0 : Int32) : Int32 :=
  if (b2i (tw_ST_named 8 b ((tw_ST_placeOf p0) + 5) ((tw_ST_placeOf (tw_ST_valueOf b (((tw_ST_placeOf p0) + 5) - 1))) - 1))) = 0 then
    if (b2i (tw_ST_named 9 b ((tw_ST_placeOf p0) + 5) ((tw_ST_placeOf (tw_ST_valueOf b (((tw_ST_placeOf p0) + 5) - 1))) - 1))) = 0 then
      if (b2i (tw_ST_named 10 b ((tw_ST_placeOf p0) + 5) ((tw_ST_placeOf (tw_ST_valueOf b (((tw_ST_placeOf p0) + 5) - 1))) - 1))) = 0 then
        if (b2i (tw_ST_named 11 b ((tw_ST_placeOf p0) + 5) ((tw_ST_placeOf (tw_ST_valueOf b (((tw_ST_placeOf p0) + 5) - 1))) - 1))) = 0 then
          if (b2i (tw_ST_named 12 b ((tw_ST_placeOf p0) + 5) ((tw_ST_placeOf (tw_ST_valueOf b (((tw_ST_placeOf p0) + 5) - 1))) - 1))) = 0 then
            if (b2i (tw_ST_named 13 b ((tw_ST_placeOf p0) + 5) ((tw_ST_placeOf (tw_ST_valueOf b (((tw_ST_placeOf p0) + 5) - 1))) - 1))) = 0 then
              if (b2i (tw_ST_named 14 b ((tw_ST_placeOf p0) + 5) ((tw_ST_placeOf (tw_ST_valueOf b (((tw_ST_placeOf p0) + 5) - 1))) - 1))) = 0 then
                if (b2i (tw_ST_named 15 b ((tw_ST_placeOf p0) + 5) ((tw_ST_placeOf (tw_ST_valueOf b (((tw_ST_placeOf p0) + 5) - 1))) - 1))) = 0 then
                  0
                else
                  8
              else
                7
            else
              6
          else
            5
        else
          4
      else
        3
    else
      2
  else
    1
def tw_FI_isText (i9 : Nat) (b : Nat → UInt8) (p0 : Int32) (p1 : Int32) : Bool :=
  if (tw_ST_kindOf p1) = 2 then
    if (b2i (tw_ST_named i9 b (p0 + 1) ((tw_ST_placeOf p1) - 1))) = 0 then
      false
    else
      true
  else
    false
def tw_GR_faultOfKey (b : Nat → UInt8) (pcnt : Int32) (pfix : Bool) (pown : Int32) (pst : Nat → Int32) (pen : Nat → Int32) (pix : Nat → Int32) (p0 : Int32) (p1 : Int32) (p2 : Int32) : Int32 × Int32 × Bool × Int32 × (Nat → Int32) × (Nat → Int32) × (Nat → Int32) :=
  if (b2i (tw_ST_named 7 b p0 p1)) = 0 then
    (2, pcnt, pfix, pown, pst, pen, pix)
  else
    tp7 (tw_PA_readExpression b pcnt pfix pown pst pen pix p2) (fun r_2 pcnt_2 pfix_2 pown_2 pst_2 pen_2 pix_2 =>
      if (b2i r_2) = 0 then
        (3, pcnt_2, pfix_2, pown_2, pst_2, pen_2, pix_2)
      else
        (0, pcnt_2, pfix_2, pown_2, pst_2, pen_2, pix_2))
def tw_GR_faultOfPart (b : Nat → UInt8) (pcnt : Int32) (pfix : Bool) (pown : Int32) (pst : Nat → Int32) (pen : Nat → Int32) (pix : Nat → Int32) (p0 : Int32) (p1 : Int32) (p2 : Int32) : Int32 × Int32 × Bool × Int32 × (Nat → Int32) × (Nat → Int32) × (Nat → Int32) :=
  if (b2i (tw_ST_isPlain b p0 p1)) = 0 then
    (2, pcnt, pfix, pown, pst, pen, pix)
  else
    if (tw_ST_kindOf p2) = 3 then
      if (tw_ST_countParts b p2) = 1 then
        if (tw_GR_workOf b p2) = 0 then
          (2, pcnt, pfix, pown, pst, pen, pix)
        else
          if (tw_GR_workOf b p2) = 1 then
            if (tw_ST_kindOf (tw_GR_toldBy b p2)) = 10 then
              if (tw_GR_workOf b p2) = 1 then
                (0, pcnt, pfix, pown, pst, pen, pix)
              else
                tp7 (tw_PA_readExpression b pcnt pfix pown pst pen pix (tw_GR_toldBy b p2)) (fun r_11 pcnt_11 pfix_11 pown_11 pst_11 pen_11 pix_11 =>
                  if (b2i r_11) = 0 then
                    (3, pcnt_11, pfix_11, pown_11, pst_11, pen_11, pix_11)
                  else
                    (0, pcnt_11, pfix_11, pown_11, pst_11, pen_11, pix_11))
            else
              (2, pcnt, pfix, pown, pst, pen, pix)
          else
            if (tw_GR_workOf b p2) = 1 then
              (0, pcnt, pfix, pown, pst, pen, pix)
            else
              tp7 (tw_PA_readExpression b pcnt pfix pown pst pen pix (tw_GR_toldBy b p2)) (fun r_7 pcnt_7 pfix_7 pown_7 pst_7 pen_7 pix_7 =>
                if (b2i r_7) = 0 then
                  (3, pcnt_7, pfix_7, pown_7, pst_7, pen_7, pix_7)
                else
                  (0, pcnt_7, pfix_7, pown_7, pst_7, pen_7, pix_7))
      else
        (2, pcnt, pfix, pown, pst, pen, pix)
    else
      (2, pcnt, pfix, pown, pst, pen, pix)
def tw_GR_faultOf_h43 (b : Nat → UInt8) (x2 : Int32) : Nat → Int32 → Int32 → Int32 → Bool → Int32 → (Nat → Int32) → (Nat → Int32) → (Nat → Int32) → Int32 × Int32 × Bool × Int32 × (Nat → Int32) × (Nat → Int32) × (Nat → Int32)
  | 0, x3, x4, pcnt, pfix, pown, pst, pen, pix => (0, pcnt, pfix, pown, pst, pen, pix)
  | n + 1, x3, x4, pcnt, pfix, pown, pst, pen, pix =>
    if 1000 ≤ x4 then
      (0, pcnt, pfix, pown, pst, pen, pix)
    else
      if x2 ≤ x3 then
        (0, pcnt, pfix, pown, pst, pen, pix)
      else
        if x4 = 0 then
          tp7 (tw_GR_faultOfKey b pcnt pfix pown pst pen pix (x3 + 1) ((tw_ST_placeOf (tw_ST_valueOf b x3)) - 1) (tw_ST_valueOf b x3)) (fun r_8 pcnt_8 pfix_8 pown_8 pst_8 pen_8 pix_8 =>
            if r_8 = 0 then
              tw_GR_faultOf_h43 b x2 n (tw_ST_endOf b (tw_ST_valueOf b x3)) (x4 + 1) pcnt_8 pfix_8 pown_8 pst_8 pen_8 pix_8
            else
              (r_8, pcnt_8, pfix_8, pown_8, pst_8, pen_8, pix_8))
        else
          tp7 (tw_GR_faultOfPart b pcnt pfix pown pst pen pix (x3 + 1) ((tw_ST_placeOf (tw_ST_valueOf b x3)) - 1) (tw_ST_valueOf b x3)) (fun r_6 pcnt_6 pfix_6 pown_6 pst_6 pen_6 pix_6 =>
            if r_6 = 0 then
              tw_GR_faultOf_h43 b x2 n (tw_ST_endOf b (tw_ST_valueOf b x3)) (x4 + 1) pcnt_6 pfix_6 pown_6 pst_6 pen_6 pix_6
            else
              (r_6, pcnt_6, pfix_6, pown_6, pst_6, pen_6, pix_6))
def tw_GR_faultOf (b : Nat → UInt8) (pcnt : Int32) (pfix : Bool) (pown : Int32) (pst : Nat → Int32) (pen : Nat → Int32) (pix : Nat → Int32) (p0 : Int32) : Int32 × Int32 × Bool × Int32 × (Nat → Int32) × (Nat → Int32) × (Nat → Int32) :=
  if (tw_ST_kindOf p0) = 3 then
    if 1 ≤ (tw_ST_countParts b p0) then
      tw_GR_faultOf_h43 b ((tw_ST_endOf b p0) - 1) ((((1000 : Int32).toInt - (0 : Int32).toInt).toNat) + 1) ((tw_ST_placeOf p0) + 4) 0 pcnt pfix pown pst pen pix
    else
      (2, pcnt, pfix, pown, pst, pen, pix)
  else
    (2, pcnt, pfix, pown, pst, pen, pix)
def tw_GR_sumsHold_h69 (fbase : Int32) (ngr : Int32) (fcnt : Int32) (fsts : Nat → Int32) (gfi : Nat → Int32) (gnx : Nat → Int32) (K : Int32 → Int32 → Int64 → (Nat → UInt8) → Int32 → Bool → Int32 → Int32 → Int32 → Bool → (Nat → Int32) → (Nat → Int32) → (Nat → Int32) → (Nat → Int32) → Bool × Int32 × Int64 × (Nat → UInt8) × Int32 × Bool × Int32 × Int32 × Int32 × Bool × (Nat → Int32) × (Nat → Int32) × (Nat → Int32) × (Nat → Int32)) (x2 : Int32) (x4 : Int32) (x5 : Int32) (x6 : Int32) : Nat → Int32 → Int32 → Int64 → (Nat → UInt8) → Int32 → Bool → Int32 → Int32 → Int32 → Bool → (Nat → Int32) → (Nat → Int32) → (Nat → Int32) → (Nat → Int32) → Bool × Int32 × Int64 × (Nat → UInt8) × Int32 × Bool × Int32 × Int32 × Int32 × Bool × (Nat → Int32) × (Nat → Int32) × (Nat → Int32) × (Nat → Int32)
  | 0, x7, held, gsum, b, pcnt, pfix, pown, vplace, vlimit, vfull, pst, pen, pix, gvl => (false, held, gsum, b, pcnt, pfix, pown, vplace, vlimit, vfull, pst, pen, pix, gvl)
  | n + 1, x7, held, gsum, b, pcnt, pfix, pown, vplace, vlimit, vfull, pst, pen, pix, gvl =>
    if x6 = 0 then
      K x7 held gsum b pcnt pfix pown vplace vlimit vfull pst pen pix gvl
    else
      if ngr ≤ x7 then
        K x7 held gsum b pcnt pfix pown vplace vlimit vfull pst pen pix gvl
      else
        tp12 (tw_GR_collect fbase fcnt fsts gfi gnx held b pcnt pfix pown vplace vlimit vfull pst pen pix gvl x5 x7) (fun held_6 b_6 pcnt_6 pfix_6 pown_6 vplace_6 vlimit_6 vfull_6 pst_6 pen_6 pix_6 gvl_6 =>
          tp2 (tw_GR_addUp held_6 b_6 gvl_6 gsum) (fun r_7 gsum_7 =>
            if (b2i r_7) = 0 then
              (false, held_6, gsum_7, b_6, pcnt_6, pfix_6, pown_6, vplace_6, vlimit_6, vfull_6, pst_6, pen_6, pix_6, gvl_6)
            else
              tw_GR_sumsHold_h69 fbase ngr fcnt fsts gfi gnx K x2 x4 x5 x6 n (x7 + 1) held_6 gsum_7 b_6 pcnt_6 pfix_6 pown_6 vplace_6 vlimit_6 vfull_6 pst_6 pen_6 pix_6 gvl_6))
def tw_GR_sumsHold_h21 (fbase : Int32) (ngr : Int32) (fcnt : Int32) (fsts : Nat → Int32) (gfi : Nat → Int32) (gnx : Nat → Int32) (x2 : Int32) : Nat → Int32 → Int32 → Int32 → Int64 → (Nat → UInt8) → Int32 → Bool → Int32 → Int32 → Int32 → Bool → (Nat → Int32) → (Nat → Int32) → (Nat → Int32) → (Nat → Int32) → Bool × Int32 × Int64 × (Nat → UInt8) × Int32 × Bool × Int32 × Int32 × Int32 × Bool × (Nat → Int32) × (Nat → Int32) × (Nat → Int32) × (Nat → Int32)
  | 0, x3, x4, held, gsum, b, pcnt, pfix, pown, vplace, vlimit, vfull, pst, pen, pix, gvl => (false, held, gsum, b, pcnt, pfix, pown, vplace, vlimit, vfull, pst, pen, pix, gvl)
  | n + 1, x3, x4, held, gsum, b, pcnt, pfix, pown, vplace, vlimit, vfull, pst, pen, pix, gvl =>
    if 1000 ≤ x4 then
      (true, held, gsum, b, pcnt, pfix, pown, vplace, vlimit, vfull, pst, pen, pix, gvl)
    else
      if x2 ≤ x3 then
        (true, held, gsum, b, pcnt, pfix, pown, vplace, vlimit, vfull, pst, pen, pix, gvl)
      else
        if x4 ≤ 0 then
          tw_GR_sumsHold_h69 fbase ngr fcnt fsts gfi gnx (fun (x7_9 : Int32) (held_9 : Int32) (gsum_9 : Int64) (b_9 : Nat → UInt8) (pcnt_9 : Int32) (pfix_9 : Bool) (pown_9 : Int32) (vplace_9 : Int32) (vlimit_9 : Int32) (vfull_9 : Bool) (pst_9 : Nat → Int32) (pen_9 : Nat → Int32) (pix_9 : Nat → Int32) (gvl_9 : Nat → Int32) =>
              tw_GR_sumsHold_h21 fbase ngr fcnt fsts gfi gnx x2 n (tw_ST_endOf b_9 (tw_ST_valueOf b x3)) (x4 + 1) held_9 gsum_9 b_9 pcnt_9 pfix_9 pown_9 vplace_9 vlimit_9 vfull_9 pst_9 pen_9 pix_9 gvl_9) x2 x4 (tw_ST_valueOf b x3) 0 (((ngr.toInt - (0 : Int32).toInt).toNat) + 1) 0 held gsum b pcnt pfix pown vplace vlimit vfull pst pen pix gvl
        else
          if (tw_GR_workOf b (tw_ST_valueOf b x3)) = 2 then
            tw_GR_sumsHold_h69 fbase ngr fcnt fsts gfi gnx (fun (x7_12 : Int32) (held_12 : Int32) (gsum_12 : Int64) (b_12 : Nat → UInt8) (pcnt_12 : Int32) (pfix_12 : Bool) (pown_12 : Int32) (vplace_12 : Int32) (vlimit_12 : Int32) (vfull_12 : Bool) (pst_12 : Nat → Int32) (pen_12 : Nat → Int32) (pix_12 : Nat → Int32) (gvl_12 : Nat → Int32) =>
                tw_GR_sumsHold_h21 fbase ngr fcnt fsts gfi gnx x2 n (tw_ST_endOf b_12 (tw_ST_valueOf b x3)) (x4 + 1) held_12 gsum_12 b_12 pcnt_12 pfix_12 pown_12 vplace_12 vlimit_12 vfull_12 pst_12 pen_12 pix_12 gvl_12) x2 x4 (tw_ST_valueOf b x3) 1 (((ngr.toInt - (0 : Int32).toInt).toNat) + 1) 0 held gsum b pcnt pfix pown vplace vlimit vfull pst pen pix gvl
          else
            tw_GR_sumsHold_h69 fbase ngr fcnt fsts gfi gnx (fun (x7_11 : Int32) (held_11 : Int32) (gsum_11 : Int64) (b_11 : Nat → UInt8) (pcnt_11 : Int32) (pfix_11 : Bool) (pown_11 : Int32) (vplace_11 : Int32) (vlimit_11 : Int32) (vfull_11 : Bool) (pst_11 : Nat → Int32) (pen_11 : Nat → Int32) (pix_11 : Nat → Int32) (gvl_11 : Nat → Int32) =>
                tw_GR_sumsHold_h21 fbase ngr fcnt fsts gfi gnx x2 n (tw_ST_endOf b_11 (tw_ST_valueOf b x3)) (x4 + 1) held_11 gsum_11 b_11 pcnt_11 pfix_11 pown_11 vplace_11 vlimit_11 vfull_11 pst_11 pen_11 pix_11 gvl_11) x2 x4 (tw_ST_valueOf b x3) 0 (((ngr.toInt - (0 : Int32).toInt).toNat) + 1) 0 held gsum b pcnt pfix pown vplace vlimit vfull pst pen pix gvl
def tw_GR_sumsHold (fbase : Int32) (ngr : Int32) (fcnt : Int32) (fsts : Nat → Int32) (gfi : Nat → Int32) (gnx : Nat → Int32) (held : Int32) (gsum : Int64) (b : Nat → UInt8) (pcnt : Int32) (pfix : Bool) (pown : Int32) (vplace : Int32) (vlimit : Int32) (vfull : Bool) (pst : Nat → Int32) (pen : Nat → Int32) (pix : Nat → Int32) (gvl : Nat → Int32) (p0 : Int32) : Bool × Int32 × Int64 × (Nat → UInt8) × Int32 × Bool × Int32 × Int32 × Int32 × Bool × (Nat → Int32) × (Nat → Int32) × (Nat → Int32) × (Nat → Int32) :=
  tw_GR_sumsHold_h21 fbase ngr fcnt fsts gfi gnx ((tw_ST_endOf b p0) - 1) ((((1000 : Int32).toInt - (0 : Int32).toInt).toNat) + 1) ((tw_ST_placeOf p0) + 4) 0 held gsum b pcnt pfix pown vplace vlimit vfull pst pen pix gvl
def tw_GR_writeGroup_h37 (fbase : Int32) (nbase : Int32) (fcnt : Int32) (fsts : Nat → Int32) (ncnt : Int32) (nsts : Nat → Int32) (gky : Nat → Int32) (gfi : Nat → Int32) (gnx : Nat → Int32) (p1 : Int32) (x4 : Int32) (x5 : Int32) : Nat → Int32 → Int32 → Int32 → Int64 → Int32 → Int32 → Bool → (Nat → UInt8) → Int32 → Bool → Int32 → Int32 → Int32 → Bool → (Nat → Int32) → (Nat → Int32) → (Nat → Int32) → (Nat → Int32) → Int32 × Int64 × Int32 × Int32 × Bool × (Nat → UInt8) × Int32 × Bool × Int32 × Int32 × Int32 × Bool × (Nat → Int32) × (Nat → Int32) × (Nat → Int32) × (Nat → Int32)
  | 0, x6, x7, held, gsum, place, limit, full, b, pcnt, pfix, pown, vplace, vlimit, vfull, pst, pen, pix, gvl => (held, gsum, place, limit, full, b, pcnt, pfix, pown, vplace, vlimit, vfull, pst, pen, pix, gvl)
  | n + 1, x6, x7, held, gsum, place, limit, full, b, pcnt, pfix, pown, vplace, vlimit, vfull, pst, pen, pix, gvl =>
    if 1000 ≤ x7 then
      tp4 (tw_WR_close place limit full b x4) (fun place_4 limit_4 full_4 b_4 =>
        (held, gsum, place_4, limit_4, full_4, b_4, pcnt, pfix, pown, vplace, vlimit, vfull, pst, pen, pix, gvl))
    else
      if x5 ≤ x6 then
        tp4 (tw_WR_close place limit full b x4) (fun place_6 limit_6 full_6 b_6 =>
          (held, gsum, place_6, limit_6, full_6, b_6, pcnt, pfix, pown, vplace, vlimit, vfull, pst, pen, pix, gvl))
      else
        if x7 = 0 then
          tp4 (tw_WR_name place limit full b (tw_ST_kindOf (gky p1.toNatClampNeg)) (x6 + 1) ((tw_ST_placeOf (tw_ST_valueOf b x6)) - 1)) (fun place_10 limit_10 full_10 b_10 =>
            tp4 (tw_WR_copy place_10 limit_10 full_10 b_10 (tw_ST_placeOf (gky p1.toNatClampNeg)) (tw_ST_endOf b_10 (gky p1.toNatClampNeg))) (fun place_11 limit_11 full_11 b_11 =>
              tw_GR_writeGroup_h37 fbase nbase fcnt fsts ncnt nsts gky gfi gnx p1 x4 x5 n (tw_ST_endOf b_11 (tw_ST_valueOf b x6)) (x7 + 1) held gsum place_11 limit_11 full_11 b_11 pcnt pfix pown vplace vlimit vfull pst pen pix gvl))
        else
          tp12 (tw_GR_collect fbase fcnt fsts gfi gnx held b pcnt pfix pown vplace vlimit vfull pst pen pix gvl (tw_ST_valueOf b x6) p1) (fun held_8 b_8 pcnt_8 pfix_8 pown_8 vplace_8 vlimit_8 vfull_8 pst_8 pen_8 pix_8 gvl_8 =>
            tp6 (tw_GR_writePart held_8 gsum place limit full b_8 gvl_8 (x6 + 1) ((tw_ST_placeOf (tw_ST_valueOf b x6)) - 1) (tw_GR_workOf b_8 (tw_ST_valueOf b x6))) (fun gsum_9 place_9 limit_9 full_9 b_9 gvl_9 =>
              tw_GR_writeGroup_h37 fbase nbase fcnt fsts ncnt nsts gky gfi gnx p1 x4 x5 n (tw_ST_endOf b_9 (tw_ST_valueOf b x6)) (x7 + 1) held_8 gsum_9 place_9 limit_9 full_9 b_9 pcnt_8 pfix_8 pown_8 vplace_8 vlimit_8 vfull_8 pst_8 pen_8 pix_8 gvl_9))
def tw_GR_writeGroup (fbase : Int32) (nbase : Int32) (fcnt : Int32) (fsts : Nat → Int32) (ncnt : Int32) (nsts : Nat → Int32) (gky : Nat → Int32) (gfi : Nat → Int32) (gnx : Nat → Int32) (held : Int32) (gsum : Int64) (place : Int32) (limit : Int32) (full : Bool) (b : Nat → UInt8) (pcnt : Int32) (pfix : Bool) (pown : Int32) (vplace : Int32) (vlimit : Int32) (vfull : Bool) (pst : Nat → Int32) (pen : Nat → Int32) (pix : Nat → Int32) (gvl : Nat → Int32) (p0 : Int32) (p1 : Int32) : Int32 × Int64 × Int32 × Int32 × Bool × (Nat → UInt8) × Int32 × Bool × Int32 × Int32 × Int32 × Bool × (Nat → Int32) × (Nat → Int32) × (Nat → Int32) × (Nat → Int32) :=
  tp3 (tw_BS_next nbase ncnt nsts place limit full) (fun place_1 limit_1 full_1 =>
    tp5 (tw_WR_open place_1 limit_1 full_1 b) (fun r_2 place_2 limit_2 full_2 b_2 =>
      tw_GR_writeGroup_h37 fbase nbase fcnt fsts ncnt nsts gky gfi gnx p1 r_2 ((tw_ST_endOf b_2 p0) - 1) ((((1000 : Int32).toInt - (0 : Int32).toInt).toNat) + 1) ((tw_ST_placeOf p0) + 4) 0 held gsum place_2 limit_2 full_2 b_2 pcnt pfix pown vplace vlimit vfull pst pen pix gvl))
def tw_GR_group_h41 (fbase : Int32) (nbase : Int32) (fcnt : Int32) (fsts : Nat → Int32) (p0 : Int32) : Nat → Int32 → Int32 → Int32 → Int64 → Int32 → Int32 → Bool → (Nat → UInt8) → Int32 → (Nat → Int32) → Int32 → Bool → Int32 → Int32 → Int32 → Bool → (Nat → Int32) → (Nat → Int32) → (Nat → Int32) → (Nat → Int32) → (Nat → Int32) → (Nat → Int32) → (Nat → Int32) → (Nat → Int32) → (Nat → Int32) → Int32 × Int32 × Int32 × Int64 × Int32 × Int32 × Bool × (Nat → UInt8) × Int32 × (Nat → Int32) × Int32 × Bool × Int32 × Int32 × Int32 × Bool × (Nat → Int32) × (Nat → Int32) × (Nat → Int32) × (Nat → Int32) × (Nat → Int32) × (Nat → Int32) × (Nat → Int32) × (Nat → Int32) × (Nat → Int32)
  | 0, x3, ngr, held, gsum, place, limit, full, b, ncnt, nsts, pcnt, pfix, pown, vplace, vlimit, vfull, pst, pen, pix, gky, ghs, gfi, gla, gnx, gvl => (0, ngr, held, gsum, place, limit, full, b, ncnt, nsts, pcnt, pfix, pown, vplace, vlimit, vfull, pst, pen, pix, gky, ghs, gfi, gla, gnx, gvl)
  | n + 1, x3, ngr, held, gsum, place, limit, full, b, ncnt, nsts, pcnt, pfix, pown, vplace, vlimit, vfull, pst, pen, pix, gky, ghs, gfi, gla, gnx, gvl =>
    if ngr ≤ x3 then
      (0, ngr, held, gsum, place, limit, full, b, ncnt, nsts, pcnt, pfix, pown, vplace, vlimit, vfull, pst, pen, pix, gky, ghs, gfi, gla, gnx, gvl)
    else
      tp16 (tw_GR_writeGroup fbase nbase fcnt fsts ncnt nsts gky gfi gnx held gsum place limit full b pcnt pfix pown vplace vlimit vfull pst pen pix gvl p0 x3) (fun held_7 gsum_7 place_7 limit_7 full_7 b_7 pcnt_7 pfix_7 pown_7 vplace_7 vlimit_7 vfull_7 pst_7 pen_7 pix_7 gvl_7 =>
        tp3 (tw_BS_accept nbase place_7 limit_7 full_7 b_7 ncnt nsts) (fun r_8 ncnt_8 nsts_8 =>
          if (b2i r_8) = 0 then
            (5, ngr, held_7, gsum_7, place_7, limit_7, full_7, b_7, ncnt_8, nsts_8, pcnt_7, pfix_7, pown_7, vplace_7, vlimit_7, vfull_7, pst_7, pen_7, pix_7, gky, ghs, gfi, gla, gnx, gvl_7)
          else
            tw_GR_group_h41 fbase nbase fcnt fsts p0 n (x3 + 1) ngr held_7 gsum_7 place_7 limit_7 full_7 b_7 ncnt_8 nsts_8 pcnt_7 pfix_7 pown_7 vplace_7 vlimit_7 vfull_7 pst_7 pen_7 pix_7 gky ghs gfi gla gnx gvl_7))
def tw_GR_group (fbase : Int32) (nbase : Int32) (fcnt : Int32) (fsts : Nat → Int32) (ngr : Int32) (held : Int32) (gsum : Int64) (place : Int32) (limit : Int32) (full : Bool) (b : Nat → UInt8) (ncnt : Int32) (nsts : Nat → Int32) (pcnt : Int32) (pfix : Bool) (pown : Int32) (vplace : Int32) (vlimit : Int32) (vfull : Bool) (pst : Nat → Int32) (pen : Nat → Int32) (pix : Nat → Int32) (gky : Nat → Int32) (ghs : Nat → Int32) (gfi : Nat → Int32) (gla : Nat → Int32) (gnx : Nat → Int32) (gvl : Nat → Int32) (p0 : Int32) : Int32 × Int32 × Int32 × Int64 × Int32 × Int32 × Bool × (Nat → UInt8) × Int32 × (Nat → Int32) × Int32 × Bool × Int32 × Int32 × Int32 × Bool × (Nat → Int32) × (Nat → Int32) × (Nat → Int32) × (Nat → Int32) × (Nat → Int32) × (Nat → Int32) × (Nat → Int32) × (Nat → Int32) × (Nat → Int32) :=
  tp7 (tw_GR_faultOf b pcnt pfix pown pst pen pix p0) (fun r_1 pcnt_1 pfix_1 pown_1 pst_1 pen_1 pix_1 =>
    if r_1 = 0 then
      tp16 (tw_GR_gather fbase fcnt fsts ngr b pcnt_1 pfix_1 pown_1 vplace vlimit vfull pst_1 pen_1 pix_1 gky ghs gfi gla gnx (tw_ST_valueOf b ((tw_ST_placeOf p0) + 4))) (fun ngr_3 b_3 pcnt_3 pfix_3 pown_3 vplace_3 vlimit_3 vfull_3 pst_3 pen_3 pix_3 gky_3 ghs_3 gfi_3 gla_3 gnx_3 =>
        tp14 (tw_GR_sumsHold fbase ngr_3 fcnt fsts gfi_3 gnx_3 held gsum b_3 pcnt_3 pfix_3 pown_3 vplace_3 vlimit_3 vfull_3 pst_3 pen_3 pix_3 gvl p0) (fun r_4 held_4 gsum_4 b_4 pcnt_4 pfix_4 pown_4 vplace_4 vlimit_4 vfull_4 pst_4 pen_4 pix_4 gvl_4 =>
          if (b2i r_4) = 0 then
            (4, ngr_3, held_4, gsum_4, place, limit, full, b_4, ncnt, nsts, pcnt_4, pfix_4, pown_4, vplace_4, vlimit_4, vfull_4, pst_4, pen_4, pix_4, gky_3, ghs_3, gfi_3, gla_3, gnx_3, gvl_4)
          else
            tw_GR_group_h41 fbase nbase fcnt fsts p0 (((ngr_3.toInt - (0 : Int32).toInt).toNat) + 1) 0 ngr_3 held_4 gsum_4 place limit full b_4 ncnt nsts pcnt_4 pfix_4 pown_4 vplace_4 vlimit_4 vfull_4 pst_4 pen_4 pix_4 gky_3 ghs_3 gfi_3 gla_3 gnx_3 gvl_4))
    else
      (r_1, ngr, held, gsum, place, limit, full, b, ncnt, nsts, pcnt_1, pfix_1, pown_1, vplace, vlimit, vfull, pst_1, pen_1, pix_1, gky, ghs, gfi, gla, gnx, gvl))
def tw_FI_writeMatched (kbase : Int32) (nbase : Int32) (kcnt : Int32) (ksts : Nat → Int32) (ncnt : Int32) (nsts : Nat → Int32) (fow : Nat → Int32) (place : Int32) (limit : Int32) (full : Bool) (b : Nat → UInt8) (p0 : Int32) (p1 : Int32) (p2 : Int32) : Int32 × Int32 × Bool × (Nat → UInt8) :=
  tp3 (tw_BS_next nbase ncnt nsts place limit full) (fun place_1 limit_1 full_1 =>
    tp5 (tw_WR_open place_1 limit_1 full_1 b) (fun r_2 place_2 limit_2 full_2 b_2 =>
      if (tw_ST_find b_2 p0 ((tw_ST_placeOf p2) + 4) ((tw_ST_endOf b_2 p2) - 1)) = 0 then
        tp4 (tw_WR_copy place_2 limit_2 full_2 b_2 ((tw_ST_placeOf p0) + 4) ((tw_ST_endOf b_2 p0) - 1)) (fun place_11 limit_11 full_11 b_11 =>
          tp4 (tw_WR_name place_11 limit_11 full_11 b_11 4 ((tw_ST_placeOf p2) + 4) ((tw_ST_endOf b_2 p2) - 1)) (fun place_12 limit_12 full_12 b_12 =>
            tp4 (tw_FI_writeRow kbase kcnt ksts fow place_12 limit_12 full_12 b_12 p1) (fun place_13 limit_13 full_13 b_13 =>
              if (tw_ST_find b_2 p0 ((tw_ST_placeOf p2) + 4) ((tw_ST_endOf b_2 p2) - 1)) = 0 then
                tp4 (tw_WR_close place_13 limit_13 full_13 b_13 r_2) (fun place_15 limit_15 full_15 b_15 =>
                  (place_15, limit_15, full_15, b_15))
              else
                tp4 (tw_WR_copy place_13 limit_13 full_13 b_13 (tw_ST_endOf b_13 (tw_ST_find b_2 p0 ((tw_ST_placeOf p2) + 4) ((tw_ST_endOf b_2 p2) - 1))) ((tw_ST_endOf b_2 p0) - 1)) (fun place_16 limit_16 full_16 b_16 =>
                  tp4 (tw_WR_close place_16 limit_16 full_16 b_16 r_2) (fun place_17 limit_17 full_17 b_17 =>
                    (place_17, limit_17, full_17, b_17))))))
      else
        tp4 (tw_WR_copy place_2 limit_2 full_2 b_2 ((tw_ST_placeOf p0) + 4) (((tw_ST_placeOf (tw_ST_find b_2 p0 ((tw_ST_placeOf p2) + 4) ((tw_ST_endOf b_2 p2) - 1))) - 2) - (((tw_ST_endOf b_2 p2) - 1) - ((tw_ST_placeOf p2) + 4)))) (fun place_4 limit_4 full_4 b_4 =>
          tp4 (tw_WR_name place_4 limit_4 full_4 b_4 4 ((tw_ST_placeOf p2) + 4) ((tw_ST_endOf b_2 p2) - 1)) (fun place_5 limit_5 full_5 b_5 =>
            tp4 (tw_FI_writeRow kbase kcnt ksts fow place_5 limit_5 full_5 b_5 p1) (fun place_6 limit_6 full_6 b_6 =>
              if (tw_ST_find b_2 p0 ((tw_ST_placeOf p2) + 4) ((tw_ST_endOf b_2 p2) - 1)) = 0 then
                tp4 (tw_WR_close place_6 limit_6 full_6 b_6 r_2) (fun place_8 limit_8 full_8 b_8 =>
                  (place_8, limit_8, full_8, b_8))
              else
                tp4 (tw_WR_copy place_6 limit_6 full_6 b_6 (tw_ST_endOf b_6 (tw_ST_find b_2 p0 ((tw_ST_placeOf p2) + 4) ((tw_ST_endOf b_2 p2) - 1))) ((tw_ST_endOf b_2 p0) - 1)) (fun place_9 limit_9 full_9 b_9 =>
                  tp4 (tw_WR_close place_9 limit_9 full_9 b_9 r_2) (fun place_10 limit_10 full_10 b_10 =>
                    (place_10, limit_10, full_10, b_10))))))))
def tw_FI_matchAll_h33 (fbase : Int32) (kbase : Int32) (nbase : Int32) (fict : Int32) (fcnt : Int32) (fsts : Nat → Int32) (kcnt : Int32) (ksts : Nat → Int32) (pcnt : Int32) (pst : Nat → Int32) (pen : Nat → Int32) (pix : Nat → Int32) (fch : Nat → Int32) (fnx : Nat → Int32) (flv : Nat → Int32) (fhs : Nat → Int32) (fdo : Nat → Int32) (K : Int32 → Int32 → Int32 → Bool → (Nat → UInt8) → Int32 → (Nat → Int32) → Int32 → Int32 → Int32 → Bool → (Nat → Int32) → (Nat → Int32) → (Nat → Int32) → Bool × Int32 × Int32 × Bool × (Nat → UInt8) × Int32 × (Nat → Int32) × Int32 × Int32 × Int32 × Bool × (Nat → Int32) × (Nat → Int32) × (Nat → Int32)) (p0 : Int32) (x2 : Int32) : Nat → Int32 → Int32 → Int32 → Bool → (Nat → UInt8) → Int32 → (Nat → Int32) → Int32 → Int32 → Int32 → Bool → (Nat → Int32) → (Nat → Int32) → (Nat → Int32) → Bool × Int32 × Int32 × Bool × (Nat → UInt8) × Int32 × (Nat → Int32) × Int32 × Int32 × Int32 × Bool × (Nat → Int32) × (Nat → Int32) × (Nat → Int32)
  | 0, x3, place, limit, full, b, ncnt, nsts, plc, psr, pbs, pms, plv, psn, fow => (false, place, limit, full, b, ncnt, nsts, plc, psr, pbs, pms, plv, psn, fow)
  | n + 1, x3, place, limit, full, b, ncnt, nsts, plc, psr, pbs, pms, plv, psn, fow =>
    if (tw_FI_leavesToTake plc) ≤ x3 then
      K x3 place limit full b ncnt nsts plc psr pbs pms plv psn fow
    else
      tp1 (tw_FI_match fict b fch fnx flv fhs fdo fow (tw_FI_leafToTake plc plv x3) x2) (fun fow_4 =>
        tw_FI_matchAll_h33 fbase kbase nbase fict fcnt fsts kcnt ksts pcnt pst pen pix fch fnx flv fhs fdo K p0 x2 n (x3 + 1) place limit full b ncnt nsts plc psr pbs pms plv psn fow_4)
def tw_FI_matchAll_h2 (fbase : Int32) (kbase : Int32) (nbase : Int32) (fict : Int32) (fcnt : Int32) (fsts : Nat → Int32) (kcnt : Int32) (ksts : Nat → Int32) (pcnt : Int32) (pst : Nat → Int32) (pen : Nat → Int32) (pix : Nat → Int32) (fch : Nat → Int32) (fnx : Nat → Int32) (flv : Nat → Int32) (fhs : Nat → Int32) (fdo : Nat → Int32) (p0 : Int32) : Nat → Int32 → Int32 → Int32 → Bool → (Nat → UInt8) → Int32 → (Nat → Int32) → Int32 → Int32 → Int32 → Bool → (Nat → Int32) → (Nat → Int32) → (Nat → Int32) → Bool × Int32 × Int32 × Bool × (Nat → UInt8) × Int32 × (Nat → Int32) × Int32 × Int32 × Int32 × Bool × (Nat → Int32) × (Nat → Int32) × (Nat → Int32)
  | 0, x2, place, limit, full, b, ncnt, nsts, plc, psr, pbs, pms, plv, psn, fow => (false, place, limit, full, b, ncnt, nsts, plc, psr, pbs, pms, plv, psn, fow)
  | n + 1, x2, place, limit, full, b, ncnt, nsts, plc, psr, pbs, pms, plv, psn, fow =>
    if fcnt ≤ x2 then
      (true, place, limit, full, b, ncnt, nsts, plc, psr, pbs, pms, plv, psn, fow)
    else
      tp6 (tw_PA_findLeaves pcnt b pst pen pix plc psr pbs pms plv psn (tw_BS_document fbase fcnt fsts x2)) (fun plc_2 psr_2 pbs_2 pms_2 plv_2 psn_2 =>
        tw_FI_matchAll_h33 fbase kbase nbase fict fcnt fsts kcnt ksts pcnt pst pen pix fch fnx flv fhs fdo (fun (x3_5 : Int32) (place_5 : Int32) (limit_5 : Int32) (full_5 : Bool) (b_5 : Nat → UInt8) (ncnt_5 : Int32) (nsts_5 : Nat → Int32) (plc_5 : Int32) (psr_5 : Int32) (pbs_5 : Int32) (pms_5 : Bool) (plv_5 : Nat → Int32) (psn_5 : Nat → Int32) (fow_5 : Nat → Int32) =>
          tp4 (tw_FI_writeMatched kbase nbase kcnt ksts ncnt_5 nsts_5 fow_5 place_5 limit_5 full_5 b_5 (tw_BS_document fbase fcnt fsts x2) x2 p0) (fun place_6 limit_6 full_6 b_6 =>
            tp3 (tw_BS_accept nbase place_6 limit_6 full_6 b_6 ncnt_5 nsts_5) (fun r_7 ncnt_7 nsts_7 =>
              if (b2i r_7) = 0 then
                (false, place_6, limit_6, full_6, b_6, ncnt_7, nsts_7, plc_5, psr_5, pbs_5, pms_5, plv_5, psn_5, fow_5)
              else
                tw_FI_matchAll_h2 fbase kbase nbase fict fcnt fsts kcnt ksts pcnt pst pen pix fch fnx flv fhs fdo p0 n (x2 + 1) place_6 limit_6 full_6 b_6 ncnt_7 nsts_7 plc_5 psr_5 pbs_5 pms_5 plv_5 psn_5 fow_5))) p0 x2 ((((tw_FI_leavesToTake plc_2).toInt - (0 : Int32).toInt).toNat) + 1) 0 place limit full b ncnt nsts plc_2 psr_2 pbs_2 pms_2 plv_2 psn_2 fow)
def tw_FI_matchAll (fbase : Int32) (kbase : Int32) (nbase : Int32) (fict : Int32) (fcnt : Int32) (fsts : Nat → Int32) (kcnt : Int32) (ksts : Nat → Int32) (pcnt : Int32) (pst : Nat → Int32) (pen : Nat → Int32) (pix : Nat → Int32) (fch : Nat → Int32) (fnx : Nat → Int32) (flv : Nat → Int32) (fhs : Nat → Int32) (fdo : Nat → Int32) (place : Int32) (limit : Int32) (full : Bool) (b : Nat → UInt8) (ncnt : Int32) (nsts : Nat → Int32) (plc : Int32) (psr : Int32) (pbs : Int32) (pms : Bool) (plv : Nat → Int32) (psn : Nat → Int32) (fow : Nat → Int32) (p0 : Int32) : Bool × Int32 × Int32 × Bool × (Nat → UInt8) × Int32 × (Nat → Int32) × Int32 × Int32 × Int32 × Bool × (Nat → Int32) × (Nat → Int32) × (Nat → Int32) :=
  tw_FI_matchAll_h2 fbase kbase nbase fict fcnt fsts kcnt ksts pcnt pst pen pix fch fnx flv fhs fdo p0 (((fcnt.toInt - (0 : Int32).toInt).toNat) + 1) 0 place limit full b ncnt nsts plc psr pbs pms plv psn fow
def tw_FI_lookUp (fbase : Int32) (kbase : Int32) (nbase : Int32) (fcnt : Int32) (fsts : Nat → Int32) (kcnt : Int32) (ksts : Nat → Int32) (fict : Int32) (place : Int32) (limit : Int32) (full : Bool) (b : Nat → UInt8) (ncnt : Int32) (nsts : Nat → Int32) (pcnt : Int32) (pfix : Bool) (plc : Int32) (psr : Int32) (pbs : Int32) (pms : Bool) (pst : Nat → Int32) (pen : Nat → Int32) (pix : Nat → Int32) (plv : Nat → Int32) (psn : Nat → Int32) (fch : Nat → Int32) (fnx : Nat → Int32) (flv : Nat → Int32) (fhs : Nat → Int32) (fdo : Nat → Int32) (fow : Nat → Int32) (p0 : Int32) : Int32 × Int32 × Int32 × Int32 × Bool × (Nat → UInt8) × Int32 × (Nat → Int32) × Int32 × Bool × Int32 × Int32 × Int32 × Bool × (Nat → Int32) × (Nat → Int32) × (Nat → Int32) × (Nat → Int32) × (Nat → Int32) × (Nat → Int32) × (Nat → Int32) × (Nat → Int32) × (Nat → Int32) × (Nat → Int32) × (Nat → Int32) :=
  if (tw_ST_kindOf p0) = 3 then
    if (tw_ST_countParts b p0) = 3 then
      if (b2i (tw_FI_isText 16 b ((tw_ST_placeOf p0) + 4) (tw_ST_valueOf b ((tw_ST_placeOf p0) + 4)))) = 0 then
        (2, fict, place, limit, full, b, ncnt, nsts, pcnt, pfix, plc, psr, pbs, pms, pst, pen, pix, plv, psn, fch, fnx, flv, fhs, fdo, fow)
      else
        if (b2i (tw_FI_isText 17 b (tw_ST_endOf b (tw_ST_valueOf b ((tw_ST_placeOf p0) + 4))) (tw_ST_valueOf b (tw_ST_endOf b (tw_ST_valueOf b ((tw_ST_placeOf p0) + 4)))))) = 0 then
          (2, fict, place, limit, full, b, ncnt, nsts, pcnt, pfix, plc, psr, pbs, pms, pst, pen, pix, plv, psn, fch, fnx, flv, fhs, fdo, fow)
        else
          if (b2i (tw_FI_isText 18 b (tw_ST_endOf b (tw_ST_valueOf b (tw_ST_endOf b (tw_ST_valueOf b ((tw_ST_placeOf p0) + 4))))) (tw_ST_valueOf b (tw_ST_endOf b (tw_ST_valueOf b (tw_ST_endOf b (tw_ST_valueOf b ((tw_ST_placeOf p0) + 4)))))))) = 0 then
            (2, fict, place, limit, full, b, ncnt, nsts, pcnt, pfix, plc, psr, pbs, pms, pst, pen, pix, plv, psn, fch, fnx, flv, fhs, fdo, fow)
          else
            if (b2i (tw_ST_isPlain b ((tw_ST_placeOf (tw_ST_valueOf b (tw_ST_endOf b (tw_ST_valueOf b (tw_ST_endOf b (tw_ST_valueOf b ((tw_ST_placeOf p0) + 4))))))) + 4) ((tw_ST_endOf b (tw_ST_valueOf b (tw_ST_endOf b (tw_ST_valueOf b (tw_ST_endOf b (tw_ST_valueOf b ((tw_ST_placeOf p0) + 4))))))) - 1))) = 0 then
              (2, fict, place, limit, full, b, ncnt, nsts, pcnt, pfix, plc, psr, pbs, pms, pst, pen, pix, plv, psn, fch, fnx, flv, fhs, fdo, fow)
            else
              tp6 (tw_PA_readText b pcnt pfix pst pen pix (tw_ST_valueOf b ((tw_ST_placeOf p0) + 4))) (fun r_7 pcnt_7 pfix_7 pst_7 pen_7 pix_7 =>
                if (b2i r_7) = 0 then
                  (3, fict, place, limit, full, b, ncnt, nsts, pcnt_7, pfix_7, plc, psr, pbs, pms, pst_7, pen_7, pix_7, plv, psn, fch, fnx, flv, fhs, fdo, fow)
                else
                  tp6 (tw_PA_readText b pcnt_7 pfix_7 pst_7 pen_7 pix_7 (tw_ST_valueOf b (tw_ST_endOf b (tw_ST_valueOf b ((tw_ST_placeOf p0) + 4))))) (fun r_9 pcnt_9 pfix_9 pst_9 pen_9 pix_9 =>
                    if (b2i r_9) = 0 then
                      (3, fict, place, limit, full, b, ncnt, nsts, pcnt_9, pfix_9, plc, psr, pbs, pms, pst_9, pen_9, pix_9, plv, psn, fch, fnx, flv, fhs, fdo, fow)
                    else
                      tp13 (tw_FI_gather kbase kcnt ksts b pcnt_9 pst_9 pen_9 pix_9 fict plc psr pbs pms plv psn fch fnx flv fhs fdo fow) (fun fict_11 plc_11 psr_11 pbs_11 pms_11 plv_11 psn_11 fch_11 fnx_11 flv_11 fhs_11 fdo_11 fow_11 =>
                        tp6 (tw_PA_readText b pcnt_9 pfix_9 pst_9 pen_9 pix_9 (tw_ST_valueOf b ((tw_ST_placeOf p0) + 4))) (fun r_12 pcnt_12 pfix_12 pst_12 pen_12 pix_12 =>
                          if (b2i r_12) = 0 then
                            (5, fict_11, place, limit, full, b, ncnt, nsts, pcnt_12, pfix_12, plc_11, psr_11, pbs_11, pms_11, pst_12, pen_12, pix_12, plv_11, psn_11, fch_11, fnx_11, flv_11, fhs_11, fdo_11, fow_11)
                          else
                            tp14 (tw_FI_matchAll fbase kbase nbase fict_11 fcnt fsts kcnt ksts pcnt_12 pst_12 pen_12 pix_12 fch_11 fnx_11 flv_11 fhs_11 fdo_11 place limit full b ncnt nsts plc_11 psr_11 pbs_11 pms_11 plv_11 psn_11 fow_11 (tw_ST_valueOf b (tw_ST_endOf b (tw_ST_valueOf b (tw_ST_endOf b (tw_ST_valueOf b ((tw_ST_placeOf p0) + 4))))))) (fun r_14 place_14 limit_14 full_14 b_14 ncnt_14 nsts_14 plc_14 psr_14 pbs_14 pms_14 plv_14 psn_14 fow_14 =>
                              if (b2i r_14) = 0 then
                                (5, fict_11, place_14, limit_14, full_14, b_14, ncnt_14, nsts_14, pcnt_12, pfix_12, plc_14, psr_14, pbs_14, pms_14, pst_12, pen_12, pix_12, plv_14, psn_14, fch_11, fnx_11, flv_11, fhs_11, fdo_11, fow_14)
                              else
                                (0, fict_11, place_14, limit_14, full_14, b_14, ncnt_14, nsts_14, pcnt_12, pfix_12, plc_14, psr_14, pbs_14, pms_14, pst_12, pen_12, pix_12, plv_14, psn_14, fch_11, fnx_11, flv_11, fhs_11, fdo_11, fow_14))))))
    else
      (2, fict, place, limit, full, b, ncnt, nsts, pcnt, pfix, plc, psr, pbs, pms, pst, pen, pix, plv, psn, fch, fnx, flv, fhs, fdo, fow)
  else
    (2, fict, place, limit, full, b, ncnt, nsts, pcnt, pfix, plc, psr, pbs, pms, pst, pen, pix, plv, psn, fch, fnx, flv, fhs, fdo, fow)
def tw_PB_feedNumber_h3 (p0 : Int32) : Nat → Int32 → Int32 → (Nat → UInt8) → Int32 × (Nat → UInt8)
  | 0, x2, onT, b => (onT, b)
  | n + 1, x2, onT, b =>
    if x2 < 0 then
      (onT, b)
    else
      tp1 (tw_ST_write b (0 + onT) (p0 >>> (x2 &&& 31))) (fun b_2 =>
        tw_PB_feedNumber_h3 p0 n (x2 + (-8)) (onT + 1) b_2)
def tw_PB_feedNumber (onT : Int32) (b : Nat → UInt8) (p0 : Int32) : Int32 × (Nat → UInt8) :=
  tw_PB_feedNumber_h3 p0 ((((24 : Int32).toInt + 8).toNat) + 1) 24 onT b
def tw_PB_feed (onT : Int32) (b : Nat → UInt8) (p0 : Int32) (p1 : Int32) (p2 : Int32) (p3 : Int32) (p4 : Int32) : Int32 × Int32 × (Nat → UInt8) :=
  if (onT + 20) ≤ 2000 then
    tp2 (tw_PB_feedNumber onT b p0) (fun onT_2 b_2 =>
      tp2 (tw_PB_feedNumber onT_2 b_2 p1) (fun onT_3 b_3 =>
        tp2 (tw_PB_feedNumber onT_3 b_3 p2) (fun onT_4 b_4 =>
          tp2 (tw_PB_feedNumber onT_4 b_4 p3) (fun onT_5 b_5 =>
            tp2 (tw_PB_feedNumber onT_5 b_5 p4) (fun onT_6 b_6 =>
              (onT_6, onT_6, b_6))))))
  else
    ((-1), onT, b)
def tw_PB_put (fbase : Int32) (kbase : Int32) (onT : Int32) (place : Int32) (limit : Int32) (full : Bool) (b : Nat → UInt8) (fcnt : Int32) (fsts : Nat → Int32) (kcnt : Int32) (ksts : Nat → Int32) (p0 : Int32) (p1 : Int32) : Int32 × Int32 × Int32 × Int32 × Bool × (Nat → UInt8) × Int32 × (Nat → Int32) × Int32 × (Nat → Int32) :=
  if p0 = 0 then
    if p1 < 0 then
      ((-2), onT, place, limit, full, b, fcnt, fsts, kcnt, ksts)
    else
      if p1 ≤ onT then
        if (b2i (tw_CH_isDocument b p1)) = 0 then
          ((-1), 0, place, limit, full, b, fcnt, fsts, kcnt, ksts)
        else
          tp7 (tw_BS_append fbase place limit full b fcnt fsts 0 p1) (fun r_5 place_5 limit_5 full_5 b_5 ecnt_5 ests_5 =>
            if (b2i r_5) = 0 then
              ((-3), 0, place_5, limit_5, full_5, b_5, ecnt_5, ests_5, kcnt, ksts)
            else
              (ecnt_5, 0, place_5, limit_5, full_5, b_5, ecnt_5, ests_5, kcnt, ksts))
      else
        ((-2), onT, place, limit, full, b, fcnt, fsts, kcnt, ksts)
  else
    if p0 = 1 then
      if p1 < 0 then
        ((-2), onT, place, limit, full, b, fcnt, fsts, kcnt, ksts)
      else
        if p1 ≤ onT then
          if (b2i (tw_CH_isDocument b p1)) = 0 then
            ((-1), 0, place, limit, full, b, fcnt, fsts, kcnt, ksts)
          else
            tp7 (tw_BS_append kbase place limit full b kcnt ksts 0 p1) (fun r_11 place_11 limit_11 full_11 b_11 ecnt_11 ests_11 =>
              if (b2i r_11) = 0 then
                ((-3), 0, place_11, limit_11, full_11, b_11, fcnt, fsts, ecnt_11, ests_11)
              else
                (ecnt_11, 0, place_11, limit_11, full_11, b_11, fcnt, fsts, ecnt_11, ests_11))
        else
          ((-2), onT, place, limit, full, b, fcnt, fsts, kcnt, ksts)
    else
      ((-2), onT, place, limit, full, b, fcnt, fsts, kcnt, ksts)
def tw_PB_many (fbase : Int32) (kbase : Int32) (fcnt : Int32) (fsts : Nat → Int32) (kcnt : Int32) (ksts : Nat → Int32) (p0 : Int32) (p1 : Int32) : Int32 :=
  if p0 = 0 then
    if p1 < 0 then
      (-1)
    else
      if p1 ≤ 1 then
        if p1 = 0 then
          fcnt
        else
          (tw_BE_end fbase fcnt fsts) - fbase
      else
        (-1)
  else
    if p0 = 1 then
      if p1 < 0 then
        (-1)
      else
        if p1 ≤ 1 then
          if p1 = 0 then
            kcnt
          else
            (tw_BE_end kbase kcnt ksts) - kbase
        else
          (-1)
    else
      (-1)
def tw_PB_size (fbase : Int32) (kbase : Int32) (fcnt : Int32) (fsts : Nat → Int32) (kcnt : Int32) (ksts : Nat → Int32) (p0 : Int32) (p1 : Int32) : Int32 :=
  if p0 = 0 then
    if p1 < 0 then
      (-1)
    else
      if p1 < fcnt then
        (tw_BE_start fbase fcnt fsts (p1 + 1)) - (tw_BE_start fbase fcnt fsts p1)
      else
        (-1)
  else
    if p0 = 1 then
      if p1 < 0 then
        (-1)
      else
        if p1 < kcnt then
          (tw_BE_start kbase kcnt ksts (p1 + 1)) - (tw_BE_start kbase kcnt ksts p1)
        else
          (-1)
    else
      (-1)
def tw_PB_byteAt (fbase : Int32) (kbase : Int32) (b : Nat → UInt8) (fcnt : Int32) (fsts : Nat → Int32) (kcnt : Int32) (ksts : Nat → Int32) (p0 : Int32) (p1 : Int32) (p2 : Int32) : Int32 :=
  if p0 = 0 then
    if p1 < 0 then
      (-1)
    else
      if p1 < fcnt then
        if p2 < 0 then
          (-1)
        else
          if p2 < ((tw_BE_start fbase fcnt fsts (p1 + 1)) - (tw_BE_start fbase fcnt fsts p1)) then
            tw_ST_at b ((tw_BE_start fbase fcnt fsts p1) + p2)
          else
            (-1)
      else
        (-1)
  else
    if p0 = 1 then
      if p1 < 0 then
        (-1)
      else
        if p1 < kcnt then
          if p2 < 0 then
            (-1)
          else
            if p2 < ((tw_BE_start kbase kcnt ksts (p1 + 1)) - (tw_BE_start kbase kcnt ksts p1)) then
              tw_ST_at b ((tw_BE_start kbase kcnt ksts p1) + p2)
            else
              (-1)
        else
          (-1)
    else
      (-1)
def tw_PB_clear (fbase : Int32) (kbase : Int32) (fcnt : Int32) (kcnt : Int32) (p0 : Int32) : Int32 × Int32 × Int32 :=
  if p0 = 0 then
    (fcnt, 0, kcnt)
  else
    if p0 = 1 then
      (kcnt, fcnt, 0)
    else
      ((-1), fcnt, kcnt)
def tw_PB_swap  : Unit :=
  ()
def tw_PB_stageOnTape (b : Nat → UInt8) : Int32 :=
  if (tw_ST_countParts b (tw_ST_ref 3 0)) = 1 then
    if (b2i (tw_ST_named 0 b 5 ((tw_ST_placeOf (tw_ST_valueOf b 4)) - 1))) = 0 then
      if (b2i (tw_ST_named 1 b 5 ((tw_ST_placeOf (tw_ST_valueOf b 4)) - 1))) = 0 then
        if (b2i (tw_ST_named 2 b 5 ((tw_ST_placeOf (tw_ST_valueOf b 4)) - 1))) = 0 then
          if (b2i (tw_ST_named 3 b 5 ((tw_ST_placeOf (tw_ST_valueOf b 4)) - 1))) = 0 then
            if (b2i (tw_ST_named 4 b 5 ((tw_ST_placeOf (tw_ST_valueOf b 4)) - 1))) = 0 then
              if (b2i (tw_ST_named 5 b 5 ((tw_ST_placeOf (tw_ST_valueOf b 4)) - 1))) = 0 then
                if (b2i (tw_ST_named 6 b 5 ((tw_ST_placeOf (tw_ST_valueOf b 4)) - 1))) = 0 then
                  0
                else
                  7
              else
                6
            else
              5
          else
            4
        else
          3
      else
        2
    else
      1
  else
    0
def tw_PB_leaveOut_h78 (fbase : Int32) (nbase : Int32) (fcnt : Int32) (fsts : Nat → Int32) (x6 : Int32) : Nat → Int32 → Int32 → Int32 → Bool → (Nat → UInt8) → Int32 → (Nat → Int32) → Int32 × Int32 × Int32 × Bool × (Nat → UInt8) × Int32 × (Nat → Int32)
  | 0, x7, place, limit, full, b, ncnt, nsts => (0, place, limit, full, b, ncnt, nsts)
  | n + 1, x7, place, limit, full, b, ncnt, nsts =>
    if x6 ≤ x7 then
      (0, place, limit, full, b, ncnt, nsts)
    else
      tp7 (tw_BS_keep fbase nbase fcnt fsts place limit full b ncnt nsts x7) (fun r_6 place_6 limit_6 full_6 b_6 ncnt_6 nsts_6 =>
        if (b2i r_6) = 0 then
          (5, place_6, limit_6, full_6, b_6, ncnt_6, nsts_6)
        else
          tw_PB_leaveOut_h78 fbase nbase fcnt fsts x6 n (x7 + 1) place_6 limit_6 full_6 b_6 ncnt_6 nsts_6)
def tw_PB_leaveOut (fbase : Int32) (nbase : Int32) (fcnt : Int32) (fsts : Nat → Int32) (place : Int32) (limit : Int32) (full : Bool) (b : Nat → UInt8) (ncnt : Int32) (nsts : Nat → Int32) (p0 : Int32) (p1 : Int32) : Int32 × Int32 × Int32 × Bool × (Nat → UInt8) × Int32 × (Nat → Int32) :=
  if (tw_ST_classOf p0) = 2 then
    if 0 ≤ (lg_cmp (tw_ST_number b p0) 0) then
      if p1 = 0 then
        if p1 = 0 then
          tw_PB_leaveOut_h78 fbase nbase fcnt fsts ((if fcnt.toInt64 < (tw_ST_number b p0) then fcnt.toInt64 else (tw_ST_number b p0)).toInt32) (((((if fcnt.toInt64 < (tw_ST_number b p0) then fcnt.toInt64 else (tw_ST_number b p0)).toInt32).toInt - (0 : Int32).toInt).toNat) + 1) 0 place limit full b ncnt nsts
        else
          tw_PB_leaveOut_h78 fbase nbase fcnt fsts fcnt (((fcnt.toInt - (0 : Int32).toInt).toNat) + 1) 0 place limit full b ncnt nsts
      else
        if p1 = 0 then
          tw_PB_leaveOut_h78 fbase nbase fcnt fsts ((if fcnt.toInt64 < (tw_ST_number b p0) then fcnt.toInt64 else (tw_ST_number b p0)).toInt32) (((((if fcnt.toInt64 < (tw_ST_number b p0) then fcnt.toInt64 else (tw_ST_number b p0)).toInt32).toInt - ((if fcnt.toInt64 < (tw_ST_number b p0) then fcnt.toInt64 else (tw_ST_number b p0)).toInt32).toInt).toNat) + 1) ((if fcnt.toInt64 < (tw_ST_number b p0) then fcnt.toInt64 else (tw_ST_number b p0)).toInt32) place limit full b ncnt nsts
        else
          tw_PB_leaveOut_h78 fbase nbase fcnt fsts fcnt (((fcnt.toInt - ((if fcnt.toInt64 < (tw_ST_number b p0) then fcnt.toInt64 else (tw_ST_number b p0)).toInt32).toInt).toNat) + 1) ((if fcnt.toInt64 < (tw_ST_number b p0) then fcnt.toInt64 else (tw_ST_number b p0)).toInt32) place limit full b ncnt nsts
    else
      (2, place, limit, full, b, ncnt, nsts)
  else
    (2, place, limit, full, b, ncnt, nsts)
def tw_PB_stage_j178 (fbase : Int32) (kbase : Int32) (nbase : Int32) (fcnt : Int32) (fsts : Nat → Int32) (kcnt : Int32) (ksts : Nat → Int32) (x3 : Int32) (onT : Int32) (place : Int32) (limit : Int32) (full : Bool) (b : Nat → UInt8) (ncnt : Int32) (nsts : Nat → Int32) (pcnt : Int32) (pfix : Bool) (pown : Int32) (plc : Int32) (psr : Int32) (pbs : Int32) (pms : Bool) (vplace : Int32) (vlimit : Int32) (vfull : Bool) (pst : Nat → Int32) (pen : Nat → Int32) (pix : Nat → Int32) (pho : Nat → Int32) (plv : Nat → Int32) (psn : Nat → Int32) (ngr : Int32) (held : Int32) (gsum : Int64) (gky : Nat → Int32) (ghs : Nat → Int32) (gfi : Nat → Int32) (gla : Nat → Int32) (gnx : Nat → Int32) (gvl : Nat → Int32) (sorts : Int32) (k0 : Nat → Int32) (k1 : Nat → Int32) (k2 : Nat → Int32) (k3 : Nat → Int32) (sg : Nat → Int32) (ord : Nat → Int32) (fict : Int32) (fch : Nat → Int32) (fnx : Nat → Int32) (flv : Nat → Int32) (fhs : Nat → Int32) (fdo : Nat → Int32) (fow : Nat → Int32) : Int32 × Int32 × Int32 × Int32 × Bool × (Nat → UInt8) × Int32 × (Nat → Int32) × Int32 × Bool × Int32 × Int32 × Int32 × Int32 × Bool × Int32 × Int32 × Bool × (Nat → Int32) × (Nat → Int32) × (Nat → Int32) × (Nat → Int32) × (Nat → Int32) × (Nat → Int32) × Int32 × Int32 × Int64 × (Nat → Int32) × (Nat → Int32) × (Nat → Int32) × (Nat → Int32) × (Nat → Int32) × (Nat → Int32) × Int32 × (Nat → Int32) × (Nat → Int32) × (Nat → Int32) × (Nat → Int32) × (Nat → Int32) × (Nat → Int32) × Int32 × (Nat → Int32) × (Nat → Int32) × (Nat → Int32) × (Nat → Int32) × (Nat → Int32) × (Nat → Int32) × Bool :=
  if x3 = 0 then
    (ncnt, onT, place, limit, full, b, ncnt, nsts, pcnt, pfix, pown, plc, psr, pbs, pms, vplace, vlimit, vfull, pst, pen, pix, pho, plv, psn, ngr, held, gsum, gky, ghs, gfi, gla, gnx, gvl, sorts, k0, k1, k2, k3, sg, ord, fict, fch, fnx, flv, fhs, fdo, fow, true)
  else
    (x3 - 10, onT, place, limit, full, b, ncnt, nsts, pcnt, pfix, pown, plc, psr, pbs, pms, vplace, vlimit, vfull, pst, pen, pix, pho, plv, psn, ngr, held, gsum, gky, ghs, gfi, gla, gnx, gvl, sorts, k0, k1, k2, k3, sg, ord, fict, fch, fnx, flv, fhs, fdo, fow, false)
def tw_PB_stage (fbase : Int32) (kbase : Int32) (nbase : Int32) (fcnt : Int32) (fsts : Nat → Int32) (kcnt : Int32) (ksts : Nat → Int32) (onT : Int32) (place : Int32) (limit : Int32) (full : Bool) (b : Nat → UInt8) (ncnt : Int32) (nsts : Nat → Int32) (pcnt : Int32) (pfix : Bool) (pown : Int32) (plc : Int32) (psr : Int32) (pbs : Int32) (pms : Bool) (vplace : Int32) (vlimit : Int32) (vfull : Bool) (pst : Nat → Int32) (pen : Nat → Int32) (pix : Nat → Int32) (pho : Nat → Int32) (plv : Nat → Int32) (psn : Nat → Int32) (ngr : Int32) (held : Int32) (gsum : Int64) (gky : Nat → Int32) (ghs : Nat → Int32) (gfi : Nat → Int32) (gla : Nat → Int32) (gnx : Nat → Int32) (gvl : Nat → Int32) (sorts : Int32) (k0 : Nat → Int32) (k1 : Nat → Int32) (k2 : Nat → Int32) (k3 : Nat → Int32) (sg : Nat → Int32) (ord : Nat → Int32) (fict : Int32) (fch : Nat → Int32) (fnx : Nat → Int32) (flv : Nat → Int32) (fhs : Nat → Int32) (fdo : Nat → Int32) (fow : Nat → Int32) (p0 : Int32) : Int32 × Int32 × Int32 × Int32 × Bool × (Nat → UInt8) × Int32 × (Nat → Int32) × Int32 × Bool × Int32 × Int32 × Int32 × Int32 × Bool × Int32 × Int32 × Bool × (Nat → Int32) × (Nat → Int32) × (Nat → Int32) × (Nat → Int32) × (Nat → Int32) × (Nat → Int32) × Int32 × Int32 × Int64 × (Nat → Int32) × (Nat → Int32) × (Nat → Int32) × (Nat → Int32) × (Nat → Int32) × (Nat → Int32) × Int32 × (Nat → Int32) × (Nat → Int32) × (Nat → Int32) × (Nat → Int32) × (Nat → Int32) × (Nat → Int32) × Int32 × (Nat → Int32) × (Nat → Int32) × (Nat → Int32) × (Nat → Int32) × (Nat → Int32) × (Nat → Int32) × Bool :=
  if p0 < 0 then
    ((-2), onT, place, limit, full, b, ncnt, nsts, pcnt, pfix, pown, plc, psr, pbs, pms, vplace, vlimit, vfull, pst, pen, pix, pho, plv, psn, ngr, held, gsum, gky, ghs, gfi, gla, gnx, gvl, sorts, k0, k1, k2, k3, sg, ord, fict, fch, fnx, flv, fhs, fdo, fow, false)
  else
    if p0 ≤ onT then
      if (b2i (tw_CH_isDocument b p0)) = 0 then
        ((-1), 0, place, limit, full, b, ncnt, nsts, pcnt, pfix, pown, plc, psr, pbs, pms, vplace, vlimit, vfull, pst, pen, pix, pho, plv, psn, ngr, held, gsum, gky, ghs, gfi, gla, gnx, gvl, sorts, k0, k1, k2, k3, sg, ord, fict, fch, fnx, flv, fhs, fdo, fow, false)
      else
        tp1 (tw_BS_beginAnew nbase ncnt) (fun ncnt_4 =>
          if (tw_PB_stageOnTape b) = 1 then
            tp16 (tw_SH_project nbase fbase fcnt fsts place limit full b ncnt_4 nsts pcnt pfix pown vplace vlimit vfull pst pen pix (tw_ST_valueOf b 4)) (fun r_6 place_6 limit_6 full_6 b_6 ncnt_6 nsts_6 pcnt_6 pfix_6 pown_6 vplace_6 vlimit_6 vfull_6 pst_6 pen_6 pix_6 =>
              tw_PB_stage_j178 fbase kbase nbase fcnt fsts kcnt ksts r_6 0 place_6 limit_6 full_6 b_6 ncnt_6 nsts_6 pcnt_6 pfix_6 pown_6 plc psr pbs pms vplace_6 vlimit_6 vfull_6 pst_6 pen_6 pix_6 pho plv psn ngr held gsum gky ghs gfi gla gnx gvl sorts k0 k1 k2 k3 sg ord fict fch fnx flv fhs fdo fow)
          else
            if (tw_PB_stageOnTape b) = 2 then
              tp13 (tw_SH_unwind fbase nbase fcnt fsts place limit full b ncnt_4 nsts pcnt pfix pst pen pix pho (tw_ST_valueOf b 4)) (fun r_10 place_10 limit_10 full_10 b_10 ncnt_10 nsts_10 pcnt_10 pfix_10 pst_10 pen_10 pix_10 pho_10 =>
                tw_PB_stage_j178 fbase kbase nbase fcnt fsts kcnt ksts r_10 0 place_10 limit_10 full_10 b_10 ncnt_10 nsts_10 pcnt_10 pfix_10 pown plc psr pbs pms vplace vlimit vfull pst_10 pen_10 pix_10 pho_10 plv psn ngr held gsum gky ghs gfi gla gnx gvl sorts k0 k1 k2 k3 sg ord fict fch fnx flv fhs fdo fow)
            else
              if (tw_PB_stageOnTape b) = 3 then
                tp25 (tw_GR_group fbase nbase fcnt fsts ngr held gsum place limit full b ncnt_4 nsts pcnt pfix pown vplace vlimit vfull pst pen pix gky ghs gfi gla gnx gvl (tw_ST_valueOf b 4)) (fun r_12 ngr_12 held_12 gsum_12 place_12 limit_12 full_12 b_12 ncnt_12 nsts_12 pcnt_12 pfix_12 pown_12 vplace_12 vlimit_12 vfull_12 pst_12 pen_12 pix_12 gky_12 ghs_12 gfi_12 gla_12 gnx_12 gvl_12 =>
                  tw_PB_stage_j178 fbase kbase nbase fcnt fsts kcnt ksts r_12 0 place_12 limit_12 full_12 b_12 ncnt_12 nsts_12 pcnt_12 pfix_12 pown_12 plc psr pbs pms vplace_12 vlimit_12 vfull_12 pst_12 pen_12 pix_12 pho plv psn ngr_12 held_12 gsum_12 gky_12 ghs_12 gfi_12 gla_12 gnx_12 gvl_12 sorts k0 k1 k2 k3 sg ord fict fch fnx flv fhs fdo fow)
              else
                if (tw_PB_stageOnTape b) = 4 then
                  tp25 (tw_SO_sort fbase nbase fcnt fsts sorts place limit full b ncnt_4 nsts pcnt pfix plc psr pbs pms pst pen pix plv psn k0 k1 k2 k3 sg ord (tw_ST_valueOf b 4)) (fun r_14 sorts_14 place_14 limit_14 full_14 b_14 ncnt_14 nsts_14 pcnt_14 pfix_14 plc_14 psr_14 pbs_14 pms_14 pst_14 pen_14 pix_14 plv_14 psn_14 k0_14 k1_14 k2_14 k3_14 sg_14 ord_14 =>
                    tw_PB_stage_j178 fbase kbase nbase fcnt fsts kcnt ksts r_14 0 place_14 limit_14 full_14 b_14 ncnt_14 nsts_14 pcnt_14 pfix_14 pown plc_14 psr_14 pbs_14 pms_14 vplace vlimit vfull pst_14 pen_14 pix_14 pho plv_14 psn_14 ngr held gsum gky ghs gfi gla gnx gvl sorts_14 k0_14 k1_14 k2_14 k3_14 sg_14 ord_14 fict fch fnx flv fhs fdo fow)
                else
                  if (tw_PB_stageOnTape b) = 5 then
                    tp7 (tw_PB_leaveOut fbase nbase fcnt fsts place limit full b ncnt_4 nsts (tw_ST_valueOf b 4) 1) (fun r_16 place_16 limit_16 full_16 b_16 ncnt_16 nsts_16 =>
                      tw_PB_stage_j178 fbase kbase nbase fcnt fsts kcnt ksts r_16 0 place_16 limit_16 full_16 b_16 ncnt_16 nsts_16 pcnt pfix pown plc psr pbs pms vplace vlimit vfull pst pen pix pho plv psn ngr held gsum gky ghs gfi gla gnx gvl sorts k0 k1 k2 k3 sg ord fict fch fnx flv fhs fdo fow)
                  else
                    if (tw_PB_stageOnTape b) = 6 then
                      tp7 (tw_PB_leaveOut fbase nbase fcnt fsts place limit full b ncnt_4 nsts (tw_ST_valueOf b 4) 0) (fun r_18 place_18 limit_18 full_18 b_18 ncnt_18 nsts_18 =>
                        tw_PB_stage_j178 fbase kbase nbase fcnt fsts kcnt ksts r_18 0 place_18 limit_18 full_18 b_18 ncnt_18 nsts_18 pcnt pfix pown plc psr pbs pms vplace vlimit vfull pst pen pix pho plv psn ngr held gsum gky ghs gfi gla gnx gvl sorts k0 k1 k2 k3 sg ord fict fch fnx flv fhs fdo fow)
                    else
                      if (tw_PB_stageOnTape b) = 7 then
                        tp25 (tw_FI_lookUp fbase kbase nbase fcnt fsts kcnt ksts fict place limit full b ncnt_4 nsts pcnt pfix plc psr pbs pms pst pen pix plv psn fch fnx flv fhs fdo fow (tw_ST_valueOf b 4)) (fun r_20 fict_20 place_20 limit_20 full_20 b_20 ncnt_20 nsts_20 pcnt_20 pfix_20 plc_20 psr_20 pbs_20 pms_20 pst_20 pen_20 pix_20 plv_20 psn_20 fch_20 fnx_20 flv_20 fhs_20 fdo_20 fow_20 =>
                          tw_PB_stage_j178 fbase kbase nbase fcnt fsts kcnt ksts r_20 0 place_20 limit_20 full_20 b_20 ncnt_20 nsts_20 pcnt_20 pfix_20 pown plc_20 psr_20 pbs_20 pms_20 vplace vlimit vfull pst_20 pen_20 pix_20 pho plv_20 psn_20 ngr held gsum gky ghs gfi gla gnx gvl sorts k0 k1 k2 k3 sg ord fict_20 fch_20 fnx_20 flv_20 fhs_20 fdo_20 fow_20)
                      else
                        tw_PB_stage_j178 fbase kbase nbase fcnt fsts kcnt ksts 1 0 place limit full b ncnt_4 nsts pcnt pfix pown plc psr pbs pms vplace vlimit vfull pst pen pix pho plv psn ngr held gsum gky ghs gfi gla gnx gvl sorts k0 k1 k2 k3 sg ord fict fch fnx flv fhs fdo fow)
    else
      ((-2), onT, place, limit, full, b, ncnt, nsts, pcnt, pfix, pown, plc, psr, pbs, pms, vplace, vlimit, vfull, pst, pen, pix, pho, plv, psn, ngr, held, gsum, gky, ghs, gfi, gla, gnx, gvl, sorts, k0, k1, k2, k3, sg, ord, fict, fch, fnx, flv, fhs, fdo, fow, false)
