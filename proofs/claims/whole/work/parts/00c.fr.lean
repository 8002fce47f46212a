/-! the functions of the reference's methods -/
def tw_MO_classOf (p0 : Int32) : Int32 :=
  if p0 = 2 then
    3
  else
    if p0 = 3 then
      4
    else
      if p0 = 4 then
        5
      else
        if p0 = 8 then
          6
        else
          if p0 = 10 then
            1
          else
            if p0 = 16 then
              2
            else
              if p0 = 18 then
                2
              else
                0
def tw_MO_whole (fu : Nat) (st : Nat → Int32) (p0 : Int32) : Option (Int32) :=
  if 0 ≤ p0 ∧ p0 < 136400 then
    if 0 ≤ (p0 + 1) ∧ (p0 + 1) < 136400 then
      if 0 ≤ (p0 + 2) ∧ (p0 + 2) < 136400 then
        if 0 ≤ (p0 + 3) ∧ (p0 + 3) < 136400 then
          some ((((st p0.toNatClampNeg) + (256 * (st (p0 + 1).toNatClampNeg))) + (65536 * (st (p0 + 2).toNatClampNeg))) + (16777216 * (st (p0 + 3).toNatClampNeg)))
        else
          none
      else
        none
    else
      none
  else
    none
def tw_MO_nameEndOf_h4 (fu : Nat) (K : Int32 → Option (Int32)) (st : Nat → Int32) : Nat → Int32 → Option (Int32)
  | 0, _ => none
  | n + 1, x2 =>
    if 0 ≤ x2 ∧ x2 < 136400 then
      if (st x2.toNatClampNeg) = 0 then
        K x2
      else
        tw_MO_nameEndOf_h4 fu K st n (x2 + 1)
    else
      none
def tw_MO_nameEndOf (fu : Nat) (st : Nat → Int32) (p0 : Int32) : Option (Int32) :=
  tw_MO_nameEndOf_h4 fu (fun (x2_3 : Int32) =>
      some x2_3) st fu (p0 + 1)
def tw_MO_valueOf (fu : Nat) (st : Nat → Int32) (p0 : Int32) : Option (Int32) :=
  ob1 (tw_MO_nameEndOf fu st p0) (fun r_1 =>
    some (r_1 + 1))
def tw_MO_lengthOf (fu : Nat) (st : Nat → Int32) (p0 : Int32) (p1 : Int32) : Option (Int32) :=
  if p0 = 2 then
    ob1 (tw_MO_whole fu st p1) (fun r_2 =>
      some (4 + r_2))
  else
    if p0 = 3 then
      ob1 (tw_MO_whole fu st p1) (fun r_4 =>
        some r_4)
    else
      if p0 = 4 then
        ob1 (tw_MO_whole fu st p1) (fun r_6 =>
          some r_6)
      else
        if p0 = 8 then
          some 1
        else
          if p0 = 16 then
            some 4
          else
            if p0 = 18 then
              some 8
            else
              some 0
def tw_MO_firstOf (fu : Nat) (st : Nat → Int32) (p0 : Int32) : Option (Int32) :=
  if 0 ≤ (p0 + 4) ∧ (p0 + 4) < 136400 then
    if (st (p0 + 4).toNatClampNeg) = 0 then
      some 0
    else
      some (p0 + 4)
  else
    none
def tw_MO_nextOf (fu : Nat) (st : Nat → Int32) (p0 : Int32) : Option (Int32) :=
  ob1 (tw_MO_valueOf fu st p0) (fun r_1 =>
    if 0 ≤ p0 ∧ p0 < 136400 then
      ob1 (tw_MO_lengthOf fu st (st p0.toNatClampNeg) r_1) (fun r_3 =>
        if 0 ≤ (r_1 + r_3) ∧ (r_1 + r_3) < 136400 then
          if (st (r_1 + r_3).toNatClampNeg) = 0 then
            some 0
          else
            some (r_1 + r_3)
        else
          none)
    else
      none)
def tw_MO_countOf_h8 (fu : Nat) (K : Int32 → Int32 → Option (Int32)) (st : Nat → Int32) : Nat → Int32 → Int32 → Option (Int32)
  | 0, _, _ => none
  | n + 1, x2, x3 =>
    if x3 ≤ 0 then
      K x2 x3
    else
      ob1 (tw_MO_nextOf fu st x3) (fun r_3 =>
        tw_MO_countOf_h8 fu K st n (x2 + 1) r_3)
def tw_MO_countOf (fu : Nat) (st : Nat → Int32) (p0 : Int32) : Option (Int32) :=
  ob1 (tw_MO_firstOf fu st p0) (fun r_1 =>
    tw_MO_countOf_h8 fu (fun (x2_4 : Int32) (x3_4 : Int32) =>
      some x2_4) st fu 0 r_1)
def tw_MO_number_h33 (fu : Nat) (K : Int64 → Int32 → Option (Int64)) (st : Nat → Int32) (p1 : Int32) : Nat → Int64 → Int32 → Option (Int64)
  | 0, _, _ => none
  | n + 1, x3, x5 =>
    if x5 < 0 then
      K x3 x5
    else
      if 0 ≤ (p1 + x5) ∧ (p1 + x5) < 136400 then
        tw_MO_number_h33 fu K st p1 n ((x3 <<< ((8 : Int32).toInt64 &&& 63)) ||| ((st (p1 + x5).toNatClampNeg).toInt64)) (x5 + (-1))
      else
        none
def tw_MO_number (fu : Nat) (st : Nat → Int32) (p0 : Int32) (p1 : Int32) : Option (Int64) :=
  if p0 = 8 then
    if 0 ≤ p1 ∧ p1 < 136400 then
      some ((st p1.toNatClampNeg).toInt64)
    else
      none
  else
    if p0 = 16 then
      ob1 (tw_MO_whole fu st p1) (fun r_6 =>
        some r_6.toInt64)
    else
      tw_MO_number_h33 fu (fun (x3_5 : Int64) (x5_5 : Int32) =>
          some x3_5) st p1 fu 0 7
def tw_MO_orderBytes_h3 (fu : Nat) (K : Int32 → Option (Int32)) (st : Nat → Int32) (p0 : Int32) (p1 : Int32) (p2 : Int32) (p3 : Int32) : Nat → Int32 → Option (Int32)
  | 0, _ => none
  | n + 1, x5 =>
    if p1 ≤ x5 then
      K x5
    else
      if p3 ≤ x5 then
        K x5
      else
        if 0 ≤ (p0 + x5) ∧ (p0 + x5) < 136400 then
          if 0 ≤ (p2 + x5) ∧ (p2 + x5) < 136400 then
            if (st (p0 + x5).toNatClampNeg) = (st (p2 + x5).toNatClampNeg) then
              tw_MO_orderBytes_h3 fu K st p0 p1 p2 p3 n (x5 + 1)
            else
              K x5
          else
            none
        else
          none
def tw_MO_orderBytes (fu : Nat) (st : Nat → Int32) (p0 : Int32) (p1 : Int32) (p2 : Int32) (p3 : Int32) : Option (Int32) :=
  tw_MO_orderBytes_h3 fu (fun (x5_6 : Int32) =>
      if p1 ≤ x5_6 then
        if p3 ≤ p1 then
          if p1 ≤ p3 then
            some 0
          else
            some 1
        else
          some (-1)
      else
        if p3 ≤ x5_6 then
          if p3 ≤ p1 then
            if p1 ≤ p3 then
              some 0
            else
              some 1
          else
            some (-1)
        else
          if 0 ≤ (p0 + x5_6) ∧ (p0 + x5_6) < 136400 then
            if 0 ≤ (p2 + x5_6) ∧ (p2 + x5_6) < 136400 then
              if (st (p2 + x5_6).toNatClampNeg) ≤ (st (p0 + x5_6).toNatClampNeg) then
                some 1
              else
                some (-1)
            else
              none
          else
            none) st p0 p1 p2 p3 fu 0
def tw_MO_nextStep_h2 (fu : Nat) (K : Int32 → Option (Int32)) (st : Nat → Int32) : Nat → Int32 → Option (Int32)
  | 0, _ => none
  | n + 1, x2 =>
    if 0 ≤ x2 ∧ x2 < 136400 then
      if (st x2.toNatClampNeg) = 0 then
        K x2
      else
        if (st x2.toNatClampNeg) = 46 then
          K x2
        else
          tw_MO_nextStep_h2 fu K st n (x2 + 1)
    else
      none
def tw_MO_nextStep (fu : Nat) (st : Nat → Int32) (p0 : Int32) : Option (Int32) :=
  tw_MO_nextStep_h2 fu (fun (x2_4 : Int32) =>
      if 0 ≤ x2_4 ∧ x2_4 < 136400 then
        if (st x2_4.toNatClampNeg) = 0 then
          some 0
        else
          some (x2_4 + 1)
      else
        none) st fu p0
def tw_MO_isStep_h2 (fu : Nat) (K : Int32 → Option (Bool)) (st : Nat → Int32) (p0 : Int32) (p1 : Int32) : Nat → Int32 → Option (Bool)
  | 0, _ => none
  | n + 1, x3 =>
    if 0 ≤ ((p1 + 1) + x3) ∧ ((p1 + 1) + x3) < 136400 then
      if (st ((p1 + 1) + x3).toNatClampNeg) = 0 then
        K x3
      else
        if 0 ≤ (p0 + x3) ∧ (p0 + x3) < 136400 then
          if (st ((p1 + 1) + x3).toNatClampNeg) = (st (p0 + x3).toNatClampNeg) then
            if (st (p0 + x3).toNatClampNeg) = 46 then
              K x3
            else
              tw_MO_isStep_h2 fu K st p0 p1 n (x3 + 1)
          else
            K x3
        else
          none
    else
      none
def tw_MO_isStep (fu : Nat) (st : Nat → Int32) (p0 : Int32) (p1 : Int32) : Option (Bool) :=
  tw_MO_isStep_h2 fu (fun (x3_6 : Int32) =>
      if 0 ≤ ((p1 + 1) + x3_6) ∧ ((p1 + 1) + x3_6) < 136400 then
        if (st ((p1 + 1) + x3_6).toNatClampNeg) = 0 then
          if 0 ≤ (p0 + x3_6) ∧ (p0 + x3_6) < 136400 then
            if (st (p0 + x3_6).toNatClampNeg) = 0 then
              some true
            else
              if (st (p0 + x3_6).toNatClampNeg) = 46 then
                some true
              else
                some false
          else
            none
        else
          some false
      else
        none) st p0 p1 fu 0
def tw_MO_met_h9 (fu : Nat) (K : Int32 → Int32 → Option (Int32)) (st : Nat → Int32) (p1 : Int32) : Nat → Int32 → Int32 → Option (Int32)
  | 0, _, _ => none
  | n + 1, x3, x4 =>
    if x4 ≤ 0 then
      K x3 x4
    else
      if x3 = 0 then
        ob1 (tw_MO_isStep fu st p1 x4) (fun r_4 =>
          if (b2i r_4) = 0 then
            ob1 (tw_MO_nextOf fu st x4) (fun r_6 =>
              tw_MO_met_h9 fu K st p1 n 0 r_6)
          else
            ob1 (tw_MO_nextOf fu st x4) (fun r_7 =>
              tw_MO_met_h9 fu K st p1 n x4 r_7))
      else
        K x3 x4
def tw_MO_met (fu : Nat) (st : Nat → Int32) (p0 : Int32) (p1 : Int32) : Option (Int32) :=
  ob1 (tw_MO_firstOf fu st p0) (fun r_1 =>
    tw_MO_met_h9 fu (fun (x3_8 : Int32) (x4_8 : Int32) =>
      some x3_8) st p1 fu 0 r_1)
def tw_MO_isNamed_h8 (fu : Nat) (K : Int64 → Int32 → Option (Bool)) (st : Nat → Int32) : Nat → Int64 → Int32 → Option (Bool)
  | 0, _, _ => none
  | n + 1, x4, x6 =>
    if (lg_cmp x4 0) ≤ 0 then
      K x4 x6
    else
      if 0 ≤ x6 ∧ x6 < 136400 then
        if (st x6.toNatClampNeg) = ((x4 &&& 255).toInt32) then
          tw_MO_isNamed_h8 fu K st n (x4 >>> ((8 : Int32).toInt64 &&& 63)) (x6 + 1)
        else
          K x4 x6
      else
        none
def tw_MO_isNamed (fu : Nat) (st : Nat → Int32) (p0 : Int32) (p1 : Int64) : Option (Bool) :=
  tw_MO_isNamed_h8 fu (fun (x4_4 : Int64) (x6_4 : Int32) =>
      if (lg_cmp x4_4 0) = 0 then
        if 0 ≤ x6_4 ∧ x6_4 < 136400 then
          if (st x6_4.toNatClampNeg) = 0 then
            some true
          else
            some false
        else
          none
      else
        some false) st fu p1 (p0 + 1)
def tw_MO_isThere (fu : Nat) (dcs : Nat → Int32) (p0 : Int32) (p1 : Int32) : Option (Bool) :=
  if p0 < 0 then
    some false
  else
    if 2 ≤ p0 then
      some false
    else
      if p1 < 0 then
        some false
      else
        if 0 ≤ p0 ∧ p0 < 2 then
          if (dcs p0.toNatClampNeg) ≤ p1 then
            some false
          else
            some true
        else
          none
def tw_MO_many (fu : Nat) (dcs : Nat → Int32) (tot : Nat → Int32) (p0 : Int32) (p1 : Int32) : Option (Int32) :=
  if p0 < 0 then
    some (-1)
  else
    if p0 ≤ 1 then
      if p1 = 0 then
        if 0 ≤ p0 ∧ p0 < 2 then
          some (dcs p0.toNatClampNeg)
        else
          none
      else
        if p1 = 1 then
          if 0 ≤ p0 ∧ p0 < 2 then
            some (tot p0.toNatClampNeg)
          else
            none
        else
          some (-1)
    else
      some (-1)
def tw_MO_size (fu : Nat) (dcs : Nat → Int32) (siz : Nat → Int32) (p0 : Int32) (p1 : Int32) : Option (Int32) :=
  ob1 (tw_MO_isThere fu dcs p0 p1) (fun r_1 =>
    if (b2i r_1) = 0 then
      some (-1)
    else
      if 0 ≤ ((200 * p0) + p1) ∧ ((200 * p0) + p1) < 400 then
        some (siz ((200 * p0) + p1).toNatClampNeg)
      else
        none)
def tw_MO_byteAt (fu : Nat) (st : Nat → Int32) (dcs : Nat → Int32) (frm : Nat → Int32) (siz : Nat → Int32) (p0 : Int32) (p1 : Int32) (p2 : Int32) : Option (Int32) :=
  ob1 (tw_MO_isThere fu dcs p0 p1) (fun r_1 =>
    if (b2i r_1) = 0 then
      some (-1)
    else
      if p2 < 0 then
        some (-1)
      else
        if 0 ≤ ((200 * p0) + p1) ∧ ((200 * p0) + p1) < 400 then
          if (siz ((200 * p0) + p1).toNatClampNeg) ≤ p2 then
            some (-1)
          else
            if 0 ≤ ((frm ((200 * p0) + p1).toNatClampNeg) + p2) ∧ ((frm ((200 * p0) + p1).toNatClampNeg) + p2) < 136400 then
              some (st ((frm ((200 * p0) + p1).toNatClampNeg) + p2).toNatClampNeg)
            else
              none
        else
          none)
def tw_MO_character_r16 (fu : Nat) (K : Int32 → Option (Int32)) (st : Nat → Int32) (x1 : Int32) (x2 : Int32) (x3 : Int32) : Option (Int32) :=
  if x3 ≤ 193 then
    if x3 ≤ 223 then
      if x3 ≤ 239 then
        K 0
      else
        if 245 ≤ x3 then
          K 0
        else
          K 4
    else
      if 240 ≤ x3 then
        if x3 ≤ 239 then
          K 0
        else
          if 245 ≤ x3 then
            K 0
          else
            K 4
      else
        K 3
  else
    if 224 ≤ x3 then
      if x3 ≤ 223 then
        if x3 ≤ 239 then
          K 0
        else
          if 245 ≤ x3 then
            K 0
          else
            K 4
      else
        if 240 ≤ x3 then
          if x3 ≤ 239 then
            K 0
          else
            if 245 ≤ x3 then
              K 0
            else
              K 4
        else
          K 3
    else
      K 2
def tw_MO_character_r98 (fu : Nat) (K : Bool → Option (Int32)) (st : Nat → Int32) (x1 : Int32) (x3 : Int32) (x4 : Int32) (x5 : Int32) : Option (Int32) :=
  if x3 = 224 then
    if x5 < 160 then
      K false
    else
      if x3 = 237 then
        if 159 < x5 then
          K false
        else
          if x3 = 240 then
            if x5 < 144 then
              K false
            else
              if x3 = 244 then
                if 143 < x5 then
                  K false
                else
                  K true
              else
                K true
          else
            if x3 = 244 then
              if 143 < x5 then
                K false
              else
                K true
            else
              K true
      else
        if x3 = 240 then
          if x5 < 144 then
            K false
          else
            if x3 = 244 then
              if 143 < x5 then
                K false
              else
                K true
            else
              K true
        else
          if x3 = 244 then
            if 143 < x5 then
              K false
            else
              K true
          else
            K true
  else
    if x3 = 237 then
      if 159 < x5 then
        K false
      else
        if x3 = 240 then
          if x5 < 144 then
            K false
          else
            if x3 = 244 then
              if 143 < x5 then
                K false
              else
                K true
            else
              K true
        else
          if x3 = 244 then
            if 143 < x5 then
              K false
            else
              K true
          else
            K true
    else
      if x3 = 240 then
        if x5 < 144 then
          K false
        else
          if x3 = 244 then
            if 143 < x5 then
              K false
            else
              K true
          else
            K true
      else
        if x3 = 244 then
          if 143 < x5 then
            K false
          else
            K true
        else
          K true
def tw_MO_character_r175 (fu : Nat) (K : Bool → Option (Int32)) (st : Nat → Int32) (x1 : Int32) (x4 : Int32) (x6 : Bool) (x7 : Int32) : Option (Int32) :=
  if (b2i x6) = 0 then
    K false
  else
    if 0 ≤ (x1 + x7) ∧ (x1 + x7) < 136400 then
      if (st (x1 + x7).toNatClampNeg) ≤ 127 then
        K false
      else
        if 192 ≤ (st (x1 + x7).toNatClampNeg) then
          K false
        else
          K true
    else
      none
def tw_MO_character_h168 (fu : Nat) (K : Bool → Int32 → Option (Int32)) (st : Nat → Int32) (p0 : Int32) (x4 : Int32) : Nat → Bool → Int32 → Option (Int32)
  | 0, _, _ => none
  | n + 1, x6, x7 =>
    if x4 ≤ x7 then
      K x6 x7
    else
      tw_MO_character_r175 fu (fun (y6_57 : Bool) =>
          tw_MO_character_h168 fu K st p0 x4 n y6_57 (x7 + 1)) st p0 x4 x6 x7
def tw_MO_character (fu : Nat) (st : Nat → Int32) (p0 : Int32) (p1 : Int32) : Option (Int32) :=
  if 0 ≤ p0 ∧ p0 < 136400 then
    if 128 ≤ (st p0.toNatClampNeg) then
      tw_MO_character_r16 fu (fun (y4_17 : Int32) =>
        if y4_17 = 0 then
          some 0
        else
          if (p0 + y4_17) ≤ p1 then
            if 0 ≤ (p0 + 1) ∧ (p0 + 1) < 136400 then
              tw_MO_character_r98 fu (fun (y6_51 : Bool) =>
            tw_MO_character_h168 fu (fun (x6_58 : Bool) (x7_58 : Int32) =>
            if (b2i x6_58) = 0 then
              some 0
            else
              some y4_17) st p0 y4_17 fu y6_51 1) st p0 (st p0.toNatClampNeg) y4_17 (st (p0 + 1).toNatClampNeg)
            else
              none
          else
            some 0) st p0 p1 (st p0.toNatClampNeg)
    else
      some 1
  else
    none
def tw_MO_isRightText_h5 (fu : Nat) (K : Int32 → Int32 → Option (Bool)) (st : Nat → Int32) (p1 : Int32) : Nat → Int32 → Int32 → Option (Bool)
  | 0, _, _ => none
  | n + 1, x3, x4 =>
    if p1 ≤ x3 then
      K x3 x4
    else
      if x4 ≤ 0 then
        K x3 x4
      else
        ob1 (tw_MO_character fu st x3 p1) (fun r_3 =>
          tw_MO_isRightText_h5 fu K st p1 n (x3 + r_3) r_3)
def tw_MO_isRightText (fu : Nat) (st : Nat → Int32) (p0 : Int32) (p1 : Int32) : Option (Bool) :=
  tw_MO_isRightText_h5 fu (fun (x3_4 : Int32) (x4_4 : Int32) =>
      if x3_4 = p1 then
        some true
      else
        some false) st p1 fu p0 1
def tw_MO_isNumber_r8 (fu : Nat) (K : Bool → Option (Bool)) (st : Nat → Int32) (x1 : Int32) (x2 : Int32) (x4 : Int32) (x5 : Int32) : Option (Bool) :=
  if x5 < x1 then
    K false
  else
    K true
def tw_MO_isNumber_r32 (fu : Nat) (K : Bool → Option (Bool)) (st : Nat → Int32) (x1 : Int32) (x2 : Int32) (x4 : Int32) (x5 : Int32) : Option (Bool) :=
  if 0 ≤ x5 ∧ x5 < 136400 then
    if (st x5.toNatClampNeg) = (48 + (x4 - x4 / 10 * 10)) then
      if 0 < x4 then
        K true
      else
        if x5 = (x2 - 1) then
          K true
        else
          K false
    else
      K false
  else
    none
def tw_MO_isNumber_h21 (fu : Nat) (K : Int32 → Int32 → Bool → Option (Bool)) (st : Nat → Int32) (p0 : Int32) (p1 : Int32) : Nat → Int32 → Int32 → Bool → Option (Bool)
  | 0, _, _, _ => none
  | n + 1, x4, x5, x6 =>
    if (b2i x6) = 0 then
      K x4 x5 x6
    else
      if x5 < p0 then
        K x4 x5 x6
      else
        tw_MO_isNumber_r32 fu (fun (y6_16 : Bool) =>
            tw_MO_isNumber_h21 fu K st p0 p1 n (x4 / 10) (x5 + (-1)) y6_16) st p0 p1 x4 x5
def tw_MO_isNumber (fu : Nat) (st : Nat → Int32) (p0 : Int32) (p1 : Int32) (p2 : Int32) : Option (Bool) :=
  tw_MO_isNumber_r8 fu (fun (y6_2 : Bool) =>
      if (b2i y6_2) = 0 then
        if (b2i y6_2) = 0 then
          some false
        else
          if p2 = 0 then
            some true
          else
            some false
      else
        if (p1 - 1) < p0 then
          if (b2i y6_2) = 0 then
            some false
          else
            if p2 = 0 then
              some true
            else
              some false
        else
          tw_MO_isNumber_r32 fu (fun (y6_13 : Bool) =>
          tw_MO_isNumber_h21 fu (fun (x4_17 : Int32) (x5_17 : Int32) (x6_17 : Bool) =>
          if (b2i x6_17) = 0 then
            some false
          else
            if x4_17 = 0 then
              some true
            else
              some false) st p0 p1 fu (p2 / 10) ((p1 - 1) + (-1)) y6_13) st p0 p1 p2 (p1 - 1)) st p0 p1 p2 (p1 - 1)
def tw_MO_isPath_r2 (fu : Nat) (K : Bool → Option (Bool)) (st : Nat → Int32) (x1 : Int32) (x2 : Int32) (x3 : Int32) : Option (Bool) :=
  if x2 ≤ 0 then
    K false
  else
    K true
def tw_MO_isPath_r27 (fu : Nat) (K : Bool → Option (Bool)) (st : Nat → Int32) (x1 : Int32) (x2 : Int32) (x3 : Int32) (x4 : Bool) (x5 : Int32) : Option (Bool) :=
  if x5 = x2 then
    K true
  else
    if 0 ≤ (x1 + x5) ∧ (x1 + x5) < 136400 then
      if (st (x1 + x5).toNatClampNeg) = 46 then
        K true
      else
        K false
    else
      none
def tw_MO_isPath_r82 (fu : Nat) (K : Bool → Option (Bool)) (st : Nat → Int32) (x1 : Int32) (x2 : Int32) (x3 : Int32) (x4 : Bool) (x5 : Int32) (x6 : Bool) (x7 : Bool) : Option (Bool) :=
  if x2 ≤ x5 then
    if (b2i x7) = 0 then
      K x4
    else
      if (b2i x6) = 0 then
        if 0 ≤ (x1 + x5) ∧ (x1 + x5) < 136400 then
          if (st (x1 + x5).toNatClampNeg) = 36 then
            K false
          else
            K x4
        else
          none
      else
        K false
  else
    if 0 ≤ (x1 + x5) ∧ (x1 + x5) < 136400 then
      if (st (x1 + x5).toNatClampNeg) = 0 then
        K false
      else
        if (b2i x7) = 0 then
          K x4
        else
          if (b2i x6) = 0 then
            if (st (x1 + x5).toNatClampNeg) = 36 then
              K false
            else
              K x4
          else
            K false
    else
      none
def tw_MO_isPath_h16 (fu : Nat) (K : Int32 → Bool → Int32 → Option (Bool)) (st : Nat → Int32) (p0 : Int32) (p1 : Int32) : Nat → Int32 → Bool → Int32 → Option (Bool)
  | 0, _, _, _ => none
  | n + 1, x3, x4, x5 =>
    if p1 < x5 then
      K x3 x4 x5
    else
      if (b2i x4) = 0 then
        K x3 x4 x5
      else
        tw_MO_isPath_r27 fu (fun (y6_8 : Bool) =>
            if x5 = 0 then
              tw_MO_isPath_r82 fu (fun (y4_20 : Bool) =>
              if p1 ≤ x5 then
                tw_MO_isPath_h16 fu K st p0 p1 n (x3 + 0) y4_20 (x5 + 1)
              else
                if (b2i y6_8) = 0 then
                  tw_MO_isPath_h16 fu K st p0 p1 n (x3 + 0) y4_20 (x5 + 1)
                else
                  tw_MO_isPath_h16 fu K st p0 p1 n (x3 + 1) y4_20 (x5 + 1)) st p0 p1 x3 x4 x5 y6_8 true
            else
              if 0 ≤ ((p0 + x5) - 1) ∧ ((p0 + x5) - 1) < 136400 then
                if (st ((p0 + x5) - 1).toNatClampNeg) = 46 then
                  tw_MO_isPath_r82 fu (fun (y4_28 : Bool) =>
                if p1 ≤ x5 then
                  tw_MO_isPath_h16 fu K st p0 p1 n (x3 + 0) y4_28 (x5 + 1)
                else
                  if (b2i y6_8) = 0 then
                    tw_MO_isPath_h16 fu K st p0 p1 n (x3 + 0) y4_28 (x5 + 1)
                  else
                    tw_MO_isPath_h16 fu K st p0 p1 n (x3 + 1) y4_28 (x5 + 1)) st p0 p1 x3 x4 x5 y6_8 true
                else
                  tw_MO_isPath_r82 fu (fun (y4_25 : Bool) =>
                if p1 ≤ x5 then
                  tw_MO_isPath_h16 fu K st p0 p1 n (x3 + 0) y4_25 (x5 + 1)
                else
                  if (b2i y6_8) = 0 then
                    tw_MO_isPath_h16 fu K st p0 p1 n (x3 + 0) y4_25 (x5 + 1)
                  else
                    tw_MO_isPath_h16 fu K st p0 p1 n (x3 + 1) y4_25 (x5 + 1)) st p0 p1 x3 x4 x5 y6_8 false
              else
                none) st p0 p1 x3 x4 x5
def tw_MO_isPath (fu : Nat) (st : Nat → Int32) (p0 : Int32) (p1 : Int32) : Option (Bool) :=
  tw_MO_isPath_r2 fu (fun (y4_2 : Bool) =>
      tw_MO_isPath_h16 fu (fun (x3_31 : Int32) (x4_31 : Bool) (x5_31 : Int32) =>
      if (b2i x4_31) = 0 then
        some false
      else
        if 9 ≤ x3_31 then
          some false
        else
          some true) st p0 p1 fu 1 y4_2 0) st p0 p1 1
def tw_MO_isSet_h35 (fu : Nat) (K : Int64 → Int32 → Option (Bool)) (st : Nat → Int32) (p0 : Int32) : Nat → Int64 → Int32 → Option (Bool)
  | 0, _, _ => none
  | n + 1, x2, x4 =>
    if 9 ≤ x4 then
      K x2 x4
    else
      if 0 ≤ (p0 + x4) ∧ (p0 + x4) < 136400 then
        if (st (p0 + x4).toNatClampNeg) = ((x2 &&& 255).toInt32) then
          tw_MO_isSet_h35 fu K st p0 n (x2 >>> ((8 : Int32).toInt64 &&& 63)) (x4 + 1)
        else
          some false
      else
        none
def tw_MO_isSet (fu : Nat) (st : Nat → Int32) (p0 : Int32) : Option (Bool) :=
  ob1 (tw_MO_nameEndOf fu st p0) (fun r_1 =>
    if r_1 = (p0 + 10) then
      if 0 ≤ (p0 + 9) ∧ (p0 + 9) < 136400 then
        if (st (p0 + 9).toNatClampNeg) = 116 then
          tw_MO_isSet_h35 fu (fun (x2_8 : Int64) (x4_8 : Int32) =>
          some true) st p0 fu 7301301829149942052 1
        else
          some false
      else
        none
    else
      some false)
def tw_MO_isPlain_r30 (fu : Nat) (K : Bool → Option (Bool)) (st : Nat → Int32) (x1 : Int32) (x2 : Int32) (x3 : Bool) (x4 : Int32) : Option (Bool) :=
  if (b2i x3) = 0 then
    K false
  else
    if 0 ≤ (x1 + x4) ∧ (x1 + x4) < 136400 then
      if (st (x1 + x4).toNatClampNeg) = 46 then
        K false
      else
        if (st (x1 + x4).toNatClampNeg) = 0 then
          K false
        else
          K true
    else
      none
def tw_MO_isPlain_h24 (fu : Nat) (K : Bool → Int32 → Option (Bool)) (st : Nat → Int32) (p0 : Int32) (p1 : Int32) : Nat → Bool → Int32 → Option (Bool)
  | 0, _, _ => none
  | n + 1, x3, x4 =>
    if p1 ≤ x4 then
      K x3 x4
    else
      tw_MO_isPlain_r30 fu (fun (y3_7 : Bool) =>
          tw_MO_isPlain_h24 fu K st p0 p1 n y3_7 (x4 + 1)) st p0 p1 x3 x4
def tw_MO_isPlain (fu : Nat) (st : Nat → Int32) (p0 : Int32) (p1 : Int32) : Option (Bool) :=
  if p1 ≤ 0 then
    tw_MO_isPlain_h24 fu (fun (x3_8 : Bool) (x4_8 : Int32) =>
        some x3_8) st p0 p1 fu false 0
  else
    if 0 ≤ p0 ∧ p0 < 136400 then
      if (st p0.toNatClampNeg) = 36 then
        tw_MO_isPlain_h24 fu (fun (x3_11 : Bool) (x4_11 : Int32) =>
          some x3_11) st p0 p1 fu false 0
      else
        tw_MO_isPlain_h24 fu (fun (x3_12 : Bool) (x4_12 : Int32) =>
          some x3_12) st p0 p1 fu true 0
    else
      none
def tw_MO_isPlainName (fu : Nat) (st : Nat → Int32) (p0 : Int32) : Option (Bool) :=
  ob1 (tw_MO_nameEndOf fu st p0) (fun r_1 =>
    ob1 (tw_MO_isPlain fu st (p0 + 1) ((r_1 - p0) - 1)) (fun r_2 =>
      some r_2))
def tw_MO_isExpressionPath (fu : Nat) (st : Nat → Int32) (p0 : Int32) : Option (Bool) :=
  if 0 ≤ p0 ∧ p0 < 136400 then
    if (st p0.toNatClampNeg) = 2 then
      ob1 (tw_MO_valueOf fu st p0) (fun r_3 =>
        ob1 (tw_MO_whole fu st r_3) (fun r_4 =>
          if r_4 ≤ 1 then
            some false
          else
            if 0 ≤ (r_3 + 4) ∧ (r_3 + 4) < 136400 then
              if (st (r_3 + 4).toNatClampNeg) = 36 then
                some true
              else
                some false
            else
              none))
    else
      some false
  else
    none
def tw_MO_expressionFault (fu : Nat) (st : Nat → Int32) (p0 : Int32) : Option (Int32) :=
  ob1 (tw_MO_isExpressionPath fu st p0) (fun r_1 =>
    if (b2i r_1) = 0 then
      some 0
    else
      ob1 (tw_MO_valueOf fu st p0) (fun r_3 =>
        ob1 (tw_MO_whole fu st r_3) (fun r_4 =>
          ob1 (tw_MO_isPath fu st (r_3 + 5) (r_4 - 2)) (fun r_5 =>
            if (b2i r_5) = 0 then
              some 3
            else
              some 0))))
def tw_MO_stageOf (fu : Nat) (st : Nat → Int32) (p0 : Int32) : Option (Int32) :=
  ob1 (tw_MO_isNamed fu st p0 8386658438904705060) (fun r_1 =>
    if (b2i r_1) = 0 then
      ob1 (tw_MO_isNamed fu st p0 28268896925414692) (fun r_3 =>
        if (b2i r_3) = 0 then
          ob1 (tw_MO_isNamed fu st p0 123649683253028) (fun r_5 =>
            if (b2i r_5) = 0 then
              ob1 (tw_MO_isNamed fu st p0 500136112932) (fun r_7 =>
                if (b2i r_7) = 0 then
                  ob1 (tw_MO_isNamed fu st p0 482804986660) (fun r_9 =>
                    if (b2i r_9) = 0 then
                      ob1 (tw_MO_isNamed fu st p0 127996156013604) (fun r_11 =>
                        if (b2i r_11) = 0 then
                          ob1 (tw_MO_isNamed fu st p0 31654301683117092) (fun r_13 =>
                            if (b2i r_13) = 0 then
                              some 0
                            else
                              some 7)
                        else
                          some 6)
                    else
                      some 5)
                else
                  some 4)
            else
              some 3)
        else
          some 2)
    else
      some 1)
def tw_MO_gatherOf (fu : Nat) (st : Nat → Int32) (p0 : Int32) : Option (Int32) :=
  ob1 (tw_MO_isNamed fu st p0 128017765458724) (fun r_1 =>
    if (b2i r_1) = 0 then
      ob1 (tw_MO_isNamed fu st p0 1836413732) (fun r_3 =>
        if (b2i r_3) = 0 then
          ob1 (tw_MO_isNamed fu st p0 1852402980) (fun r_5 =>
            if (b2i r_5) = 0 then
              ob1 (tw_MO_isNamed fu st p0 2019650852) (fun r_7 =>
                if (b2i r_7) = 0 then
                  ob1 (tw_MO_isNamed fu st p0 128039189571108) (fun r_9 =>
                    if (b2i r_9) = 0 then
                      ob1 (tw_MO_isNamed fu st p0 500151970852) (fun r_11 =>
                        if (b2i r_11) = 0 then
                          ob1 (tw_MO_isNamed fu st p0 448613675044) (fun r_13 =>
                            if (b2i r_13) = 0 then
                              ob1 (tw_MO_isSet fu st p0) (fun r_15 =>
                                if (b2i r_15) = 0 then
                                  some 0
                                else
                                  some 8)
                            else
                              some 7)
                        else
                          some 6)
                    else
                      some 5)
                else
                  some 4)
            else
              some 3)
        else
          some 2)
    else
      some 1)
def tw_MO_projectFault_h16 (fu : Nat) (K : Int32 → Option (Int32)) (st : Nat → Int32) : Nat → Int32 → Option (Int32)
  | 0, _ => none
  | n + 1, x2 =>
    if x2 ≤ 0 then
      K x2
    else
      ob1 (tw_MO_isPlainName fu st x2) (fun r_5 =>
        if (b2i r_5) = 0 then
          some 2
        else
          ob1 (tw_MO_expressionFault fu st x2) (fun r_7 =>
            if r_7 ≤ 0 then
              ob1 (tw_MO_nextOf fu st x2) (fun r_9 =>
                tw_MO_projectFault_h16 fu K st n r_9)
            else
              some 3))
def tw_MO_projectFault (fu : Nat) (st : Nat → Int32) (p0 : Int32) : Option (Int32) :=
  ob1 (tw_MO_countOf fu st p0) (fun r_1 =>
    if r_1 = 0 then
      some 2
    else
      ob1 (tw_MO_firstOf fu st p0) (fun r_3 =>
        tw_MO_projectFault_h16 fu (fun (x2_10 : Int32) =>
        some 0) st fu r_3))
def tw_MO_groupFault_r95 (fu : Nat) (K : Option (Int32)) (st : Nat → Int32) (x3 : Int32) (x4 : Int32) (x5 : Int32) : Option (Int32) :=
  if x5 = 0 then
    some 2
  else
    if x5 = 1 then
      if 0 ≤ x4 ∧ x4 < 136400 then
        if (st x4.toNatClampNeg) = 10 then
          K 
        else
          some 2
      else
        none
    else
      K 
def tw_MO_groupFault_h39 (fu : Nat) (K : Int32 → Option (Int32)) (st : Nat → Int32) : Nat → Int32 → Option (Int32)
  | 0, _ => none
  | n + 1, x3 =>
    if x3 ≤ 0 then
      K x3
    else
      ob1 (tw_MO_isPlainName fu st x3) (fun r_9 =>
        if (b2i r_9) = 0 then
          some 2
        else
          if 0 ≤ x3 ∧ x3 < 136400 then
            if (st x3.toNatClampNeg) = 3 then
              ob1 (tw_MO_valueOf fu st x3) (fun r_13 =>
                ob1 (tw_MO_countOf fu st r_13) (fun r_14 =>
                  if r_14 = 1 then
                    ob1 (tw_MO_firstOf fu st r_13) (fun r_16 =>
                      ob1 (tw_MO_gatherOf fu st r_16) (fun r_17 =>
                        tw_MO_groupFault_r95 fu (
                if r_17 ≤ 1 then
                  ob1 (tw_MO_nextOf fu st x3) (fun r_24 =>
                    tw_MO_groupFault_h39 fu K st n r_24)
                else
                  ob1 (tw_MO_expressionFault fu st r_16) (fun r_25 =>
                    if r_25 ≤ 0 then
                      ob1 (tw_MO_nextOf fu st x3) (fun r_27 =>
                        tw_MO_groupFault_h39 fu K st n r_27)
                    else
                      some 3)) st x3 r_16 r_17))
                  else
                    some 2))
            else
              some 2
          else
            none)
def tw_MO_groupFault (fu : Nat) (st : Nat → Int32) (p0 : Int32) : Option (Int32) :=
  ob1 (tw_MO_firstOf fu st p0) (fun r_1 =>
    if r_1 = 0 then
      some 2
    else
      ob1 (tw_MO_isNamed fu st r_1 31074) (fun r_3 =>
        if (b2i r_3) = 0 then
          some 2
        else
          ob1 (tw_MO_expressionFault fu st r_1) (fun r_5 =>
            if r_5 ≤ 0 then
              ob1 (tw_MO_nextOf fu st r_1) (fun r_7 =>
                tw_MO_groupFault_h39 fu (fun (x3_28 : Int32) =>
            some 0) st fu r_7)
            else
              some 3)))
def tw_MO_sortFault_r28 (fu : Nat) (K : Bool → Option (Int32)) (st : Nat → Int32) (x3 : Int32) : Option (Int32) :=
  if 0 ≤ x3 ∧ x3 < 136400 then
    if (st x3.toNatClampNeg) = 16 then
      ob1 (tw_MO_valueOf fu st x3) (fun r_8 =>
        ob1 (tw_MO_number fu st (st x3.toNatClampNeg) r_8) (fun r_9 =>
          if (lg_cmp r_9 1) = 0 then
            K true
          else
            if (lg_cmp r_9 (-1)) = 0 then
              K true
            else
              K false))
    else
      if (st x3.toNatClampNeg) = 18 then
        ob1 (tw_MO_valueOf fu st x3) (fun r_13 =>
          ob1 (tw_MO_number fu st (st x3.toNatClampNeg) r_13) (fun r_14 =>
            if (lg_cmp r_14 1) = 0 then
              K true
            else
              if (lg_cmp r_14 (-1)) = 0 then
                K true
              else
                K false))
      else
        K false
  else
    none
def tw_MO_sortFault_h24 (fu : Nat) (K : Int32 → Option (Int32)) (st : Nat → Int32) : Nat → Int32 → Option (Int32)
  | 0, _ => none
  | n + 1, x3 =>
    if x3 ≤ 0 then
      K x3
    else
      tw_MO_sortFault_r28 fu (fun (y4_17 : Bool) =>
          if (b2i y4_17) = 0 then
            some 2
          else
            ob1 (tw_MO_nameEndOf fu st x3) (fun r_19 =>
              ob1 (tw_MO_isPath fu st (x3 + 1) ((r_19 - x3) - 1)) (fun r_20 =>
                if (b2i r_20) = 0 then
                  some 3
                else
                  ob1 (tw_MO_nextOf fu st x3) (fun r_22 =>
                    tw_MO_sortFault_h24 fu K st n r_22)))) st x3
def tw_MO_sortFault (fu : Nat) (st : Nat → Int32) (p0 : Int32) : Option (Int32) :=
  ob1 (tw_MO_countOf fu st p0) (fun r_1 =>
    if r_1 < 1 then
      some 2
    else
      if r_1 ≤ 4 then
        ob1 (tw_MO_firstOf fu st p0) (fun r_4 =>
          tw_MO_sortFault_h24 fu (fun (x3_23 : Int32) =>
          some 0) st fu r_4)
      else
        some 2)
def tw_MO_isText (fu : Nat) (st : Nat → Int32) (p0 : Int32) : Option (Bool) :=
  if p0 ≤ 0 then
    some false
  else
    if 0 ≤ p0 ∧ p0 < 136400 then
      if (st p0.toNatClampNeg) = 2 then
        some true
      else
        some false
    else
      none
def tw_MO_textSize (fu : Nat) (st : Nat → Int32) (p0 : Int32) : Option (Int32) :=
  ob1 (tw_MO_valueOf fu st p0) (fun r_1 =>
    ob1 (tw_MO_whole fu st r_1) (fun r_2 =>
      some (r_2 - 1)))
def tw_MO_lookupFault_r30 (fu : Nat) (K : Bool → Option (Int32)) (st : Nat → Int32) (x2 : Int32) (x3 : Int32) (x4 : Int32) : Option (Int32) :=
  ob1 (tw_MO_isNamed fu st x2 1701995880) (fun r_6 =>
    if (b2i r_6) = 0 then
      K false
    else
      ob1 (tw_MO_isNamed fu st x3 435710945396) (fun r_8 =>
        if (b2i r_8) = 0 then
          K false
        else
          ob1 (tw_MO_isNamed fu st x4 29537) (fun r_10 =>
            if (b2i r_10) = 0 then
              K false
            else
              K true)))
def tw_MO_lookupFault (fu : Nat) (st : Nat → Int32) (p0 : Int32) : Option (Int32) :=
  ob1 (tw_MO_countOf fu st p0) (fun r_1 =>
    if r_1 = 3 then
      ob1 (tw_MO_firstOf fu st p0) (fun r_3 =>
        ob1 (tw_MO_nextOf fu st r_3) (fun r_4 =>
          ob1 (tw_MO_nextOf fu st r_4) (fun r_5 =>
            tw_MO_lookupFault_r30 fu (fun (y5_12 : Bool) =>
        if (b2i y5_12) = 0 then
          some 2
        else
          ob1 (tw_MO_isText fu st r_3) (fun r_14 =>
            if (b2i r_14) = 0 then
              some 2
            else
              ob1 (tw_MO_isText fu st r_4) (fun r_16 =>
                if (b2i r_16) = 0 then
                  some 2
                else
                  ob1 (tw_MO_isText fu st r_5) (fun r_18 =>
                    if (b2i r_18) = 0 then
                      some 2
                    else
                      ob1 (tw_MO_valueOf fu st r_5) (fun r_20 =>
                        ob1 (tw_MO_textSize fu st r_5) (fun r_21 =>
                          ob1 (tw_MO_isPlain fu st (r_20 + 4) r_21) (fun r_22 =>
                            if (b2i r_22) = 0 then
                              some 2
                            else
                              ob1 (tw_MO_valueOf fu st r_3) (fun r_24 =>
                                ob1 (tw_MO_textSize fu st r_3) (fun r_25 =>
                                  ob1 (tw_MO_isPath fu st (r_24 + 4) r_25) (fun r_26 =>
                                    if (b2i r_26) = 0 then
                                      some 3
                                    else
                                      ob1 (tw_MO_valueOf fu st r_4) (fun r_28 =>
                                        ob1 (tw_MO_textSize fu st r_4) (fun r_29 =>
                                          ob1 (tw_MO_isPath fu st (r_28 + 4) r_29) (fun r_30 =>
                                            if (b2i r_30) = 0 then
                                              some 3
                                            else
                                              some 0))))))))))))) st r_3 r_4 r_5)))
    else
      some 2)
def tw_MO_stageFault (fu : Nat) (st : Nat → Int32) (p0 : Int32) : Option (Int32) :=
  ob1 (tw_MO_stageOf fu st p0) (fun r_1 =>
    if r_1 = 0 then
      some 1
    else
      ob1 (tw_MO_valueOf fu st p0) (fun r_3 =>
        if r_1 = 1 then
          if 0 ≤ p0 ∧ p0 < 136400 then
            if (st p0.toNatClampNeg) = 3 then
              ob1 (tw_MO_projectFault fu st r_3) (fun r_7 =>
                some r_7)
            else
              some 2
          else
            none
        else
          if r_1 = 2 then
            ob1 (tw_MO_isExpressionPath fu st p0) (fun r_9 =>
              if (b2i r_9) = 0 then
                some 2
              else
                ob1 (tw_MO_expressionFault fu st p0) (fun r_11 =>
                  some r_11))
          else
            if r_1 = 3 then
              if 0 ≤ p0 ∧ p0 < 136400 then
                if (st p0.toNatClampNeg) = 3 then
                  ob1 (tw_MO_groupFault fu st r_3) (fun r_15 =>
                    some r_15)
                else
                  some 2
              else
                none
            else
              if r_1 = 4 then
                if 0 ≤ p0 ∧ p0 < 136400 then
                  if (st p0.toNatClampNeg) = 3 then
                    ob1 (tw_MO_sortFault fu st r_3) (fun r_19 =>
                      some r_19)
                  else
                    some 2
                else
                  none
              else
                if r_1 = 7 then
                  if 0 ≤ p0 ∧ p0 < 136400 then
                    if (st p0.toNatClampNeg) = 3 then
                      ob1 (tw_MO_lookupFault fu st r_3) (fun r_23 =>
                        some r_23)
                    else
                      some 2
                  else
                    none
                else
                  if 0 ≤ p0 ∧ p0 < 136400 then
                    if (st p0.toNatClampNeg) = 16 then
                      ob1 (tw_MO_number fu st (st p0.toNatClampNeg) r_3) (fun r_26 =>
                        if (lg_cmp r_26 0) < 0 then
                          some 2
                        else
                          some 0)
                    else
                      if (st p0.toNatClampNeg) = 18 then
                        ob1 (tw_MO_number fu st (st p0.toNatClampNeg) r_3) (fun r_29 =>
                          if (lg_cmp r_29 0) < 0 then
                            some 2
                          else
                            some 0)
                      else
                        some 2
                  else
                    none))
def tw_MO_sameName_h6 (fu : Nat) (K : Int32 → Option (Int32)) (st : Nat → Int32) (p1 : Int32) : Nat → Int32 → Option (Int32)
  | 0, _ => none
  | n + 1, x3 =>
    if x3 ≤ 0 then
      K x3
    else
      ob1 (tw_MO_nameEndOf fu st x3) (fun r_3 =>
        ob1 (tw_MO_nameEndOf fu st p1) (fun r_4 =>
          ob1 (tw_MO_orderBytes fu st (x3 + 1) ((r_3 - x3) - 1) (p1 + 1) ((r_4 - p1) - 1)) (fun r_5 =>
            if r_5 = 0 then
              some x3
            else
              ob1 (tw_MO_nextOf fu st x3) (fun r_7 =>
                tw_MO_sameName_h6 fu K st p1 n r_7))))
def tw_MO_sameName (fu : Nat) (st : Nat → Int32) (p0 : Int32) (p1 : Int32) : Option (Int32) :=
  ob1 (tw_MO_firstOf fu st p0) (fun r_1 =>
    tw_MO_sameName_h6 fu (fun (x3_8 : Int32) =>
      some 0) st p1 fu r_1)
def tw_MO_leaf (fu : Nat) (lvs : Int32) (lkd : Nat → Int32) (lat : Nat → Int32) (p0 : Int32) (p1 : Int32) : Option (Int32 × (Nat → Int32) × (Nat → Int32)) :=
  if (lvs - lvs / 30000 * 30000) = 29999 then
    some (lvs, lkd, lat)
  else
    if 0 ≤ lvs ∧ lvs < 60000 then
      some (lvs + 1, upd lkd lvs.toNatClampNeg p0, upd lat lvs.toNatClampNeg p1)
    else
      none
def tw_MO_write (fu : Nat) (bgn : Int32) (mst : Int32) (top : Int32) (ovr : Bool) (st : Nat → Int32) (p0 : Int32) : Option (Int32 × Bool × (Nat → Int32)) :=
  if (b2i ovr) = 0 then
    if (top - bgn) < mst then
      if 0 ≤ top ∧ top < 136400 then
        some (top + 1, false, upd st top.toNatClampNeg p0)
      else
        none
    else
      some (top, true, st)
  else
    some (top, true, st)
def tw_MO_copy_h2 (fu : Nat) (bgn : Int32) (mst : Int32) (K : Int32 → Int32 → Bool → (Nat → Int32) → Option (Int32 × Bool × (Nat → Int32))) (p0 : Int32) (p1 : Int32) : Nat → Int32 → Int32 → Bool → (Nat → Int32) → Option (Int32 × Bool × (Nat → Int32))
  | 0, x3, top, ovr, st => none
  | n + 1, x3, top, ovr, st =>
    if p1 ≤ x3 then
      K x3 top ovr st
    else
      if 0 ≤ (p0 + x3) ∧ (p0 + x3) < 136400 then
        ob3 (tw_MO_write fu bgn mst top ovr st (st (p0 + x3).toNatClampNeg)) (fun top_3 ovr_3 st_3 =>
          tw_MO_copy_h2 fu bgn mst K p0 p1 n (x3 + 1) top_3 ovr_3 st_3)
      else
        none
def tw_MO_copy (fu : Nat) (bgn : Int32) (mst : Int32) (top : Int32) (ovr : Bool) (st : Nat → Int32) (p0 : Int32) (p1 : Int32) : Option (Int32 × Bool × (Nat → Int32)) :=
  tw_MO_copy_h2 fu bgn mst (fun (x3_4 : Int32) (top_4 : Int32) (ovr_4 : Bool) (st_4 : Nat → Int32) =>
      some (top_4, ovr_4, st_4)) p0 p1 fu 0 top ovr st
def tw_MO_putLow_h3 (fu : Nat) (bgn : Int32) (mst : Int32) (K : Int32 → Int32 → Bool → (Nat → Int32) → Option (Int32 × Bool × (Nat → Int32))) (p0 : Int64) (p1 : Int32) : Nat → Int32 → Int32 → Bool → (Nat → Int32) → Option (Int32 × Bool × (Nat → Int32))
  | 0, x4, top, ovr, st => none
  | n + 1, x4, top, ovr, st =>
    if p1 ≤ x4 then
      K x4 top ovr st
    else
      ob3 (tw_MO_write fu bgn mst top ovr st (((p0 >>> ((8 * x4).toInt64 &&& 63)) &&& 255).toInt32)) (fun top_2 ovr_2 st_2 =>
        tw_MO_putLow_h3 fu bgn mst K p0 p1 n (x4 + 1) top_2 ovr_2 st_2)
def tw_MO_putLow (fu : Nat) (bgn : Int32) (mst : Int32) (top : Int32) (ovr : Bool) (st : Nat → Int32) (p0 : Int64) (p1 : Int32) : Option (Int32 × Bool × (Nat → Int32)) :=
  tw_MO_putLow_h3 fu bgn mst (fun (x4_3 : Int32) (top_3 : Int32) (ovr_3 : Bool) (st_3 : Nat → Int32) =>
      some (top_3, ovr_3, st_3)) p0 p1 fu 0 top ovr st
def tw_MO_putDigits_r17 (fu : Nat) (bgn : Int32) (mst : Int32) (K : Int32 → Bool → (Nat → Int32) → Option (Int32 × Bool × (Nat → Int32))) (x1 : Int32) (top : Int32) (ovr : Bool) (st : Nat → Int32) : Option (Int32 × Bool × (Nat → Int32)) :=
  if x1 ≤ 9 then
    K top ovr st
  else
    ob3 (tw_MO_write fu bgn mst top ovr st (48 + ((x1 / 10) - (x1 / 10) / 10 * 10))) (fun top_3 ovr_3 st_3 =>
      K top_3 ovr_3 st_3)
def tw_MO_putDigits (fu : Nat) (bgn : Int32) (mst : Int32) (top : Int32) (ovr : Bool) (st : Nat → Int32) (p0 : Int32) : Option (Int32 × Bool × (Nat → Int32)) :=
  if p0 ≤ 99 then
    tw_MO_putDigits_r17 fu bgn mst (fun (top_4 : Int32) (ovr_4 : Bool) (st_4 : Nat → Int32) =>
        ob3 (tw_MO_write fu bgn mst top_4 ovr_4 st_4 (48 + (p0 - p0 / 10 * 10))) (fun top_5 ovr_5 st_5 =>
          ob3 (tw_MO_write fu bgn mst top_5 ovr_5 st_5 0) (fun top_6 ovr_6 st_6 =>
            some (top_6, ovr_6, st_6)))) p0 top ovr st
  else
    ob3 (tw_MO_write fu bgn mst top ovr st (48 + (p0 / 100))) (fun top_7 ovr_7 st_7 =>
      tw_MO_putDigits_r17 fu bgn mst (fun (top_8 : Int32) (ovr_8 : Bool) (st_8 : Nat → Int32) =>
        ob3 (tw_MO_write fu bgn mst top_8 ovr_8 st_8 (48 + (p0 - p0 / 10 * 10))) (fun top_9 ovr_9 st_9 =>
          ob3 (tw_MO_write fu bgn mst top_9 ovr_9 st_9 0) (fun top_10 ovr_10 st_10 =>
            some (top_10, ovr_10, st_10)))) p0 top_7 ovr_7 st_7)
def tw_MO_open (fu : Nat) (bgn : Int32) (mst : Int32) (top : Int32) (ovr : Bool) (st : Nat → Int32) : Option (Int32 × Int32 × Bool × (Nat → Int32)) :=
  ob3 (tw_MO_putLow fu bgn mst top ovr st 0 4) (fun top_1 ovr_1 st_1 =>
    some (top_1 - 4, top_1, ovr_1, st_1))
def tw_MO_close_h22 (fu : Nat) (bgn : Int32) (mst : Int32) (K : Int32 → Int32 → Bool → (Nat → Int32) → Option (Int32 × Bool × (Nat → Int32))) (p0 : Int32) (x2 : Int32) : Nat → Int32 → Int32 → Bool → (Nat → Int32) → Option (Int32 × Bool × (Nat → Int32))
  | 0, x3, top, ovr, st => none
  | n + 1, x3, top, ovr, st =>
    if 4 ≤ x3 then
      K x3 top ovr st
    else
      if 0 ≤ (p0 + x3) ∧ (p0 + x3) < 136400 then
        tw_MO_close_h22 fu bgn mst K p0 x2 n (x3 + 1) top ovr (upd st (p0 + x3).toNatClampNeg ((x2 >>> ((8 * x3) &&& 31)) &&& 255))
      else
        none
def tw_MO_close (fu : Nat) (bgn : Int32) (mst : Int32) (top : Int32) (ovr : Bool) (st : Nat → Int32) (p0 : Int32) : Option (Int32 × Bool × (Nat → Int32)) :=
  ob3 (tw_MO_write fu bgn mst top ovr st 0) (fun top_1 ovr_1 st_1 =>
    if (b2i ovr_1) = 0 then
      tw_MO_close_h22 fu bgn mst (fun (x3_5 : Int32) (top_5 : Int32) (ovr_5 : Bool) (st_5 : Nat → Int32) =>
        some (top_5, ovr_5, st_5)) p0 (top_1 - p0) fu 0 top_1 ovr_1 st_1
    else
      some (top_1, ovr_1, st_1))
def tw_MO_head (fu : Nat) (bgn : Int32) (mst : Int32) (top : Int32) (ovr : Bool) (st : Nat → Int32) (p0 : Int32) (p1 : Int32) : Option (Int32 × Bool × (Nat → Int32)) :=
  ob3 (tw_MO_write fu bgn mst top ovr st p0) (fun top_1 ovr_1 st_1 =>
    ob1 (tw_MO_nameEndOf fu st_1 p1) (fun r_2 =>
      ob3 (tw_MO_copy fu bgn mst top_1 ovr_1 st_1 (p1 + 1) (r_2 - p1)) (fun top_3 ovr_3 st_3 =>
        some (top_3, ovr_3, st_3))))
def tw_MO_element (fu : Nat) (bgn : Int32) (mst : Int32) (top : Int32) (ovr : Bool) (st : Nat → Int32) (p0 : Int32) : Option (Int32 × Bool × (Nat → Int32)) :=
  ob1 (tw_MO_valueOf fu st p0) (fun r_1 =>
    if 0 ≤ p0 ∧ p0 < 136400 then
      ob1 (tw_MO_lengthOf fu st (st p0.toNatClampNeg) r_1) (fun r_3 =>
        ob3 (tw_MO_copy fu bgn mst top ovr st p0 ((r_1 + r_3) - p0)) (fun top_4 ovr_4 st_4 =>
          some (top_4, ovr_4, st_4)))
    else
      none)
def tw_MO_beginValue (fu : Nat) (top : Int32) (bgn : Int32) (mst : Int32) (ovr : Bool) (p0 : Int32) (p1 : Int32) : Option (Int32 × Int32 × Int32 × Bool) :=
  some (p0, p0, p1, false)
def tw_MO_beginAll (fu : Nat) (frs : Int32) (frt : Int32) (top : Int32) (tgr : Bool) : Option (Int32 × Int32 × Int32 × Bool) :=
  some (0, 0, 80000, false)
def tw_MO_beginDocument (fu : Nat) (tgr : Bool) (top : Int32) (bgn : Int32) (mst : Int32) (ovr : Bool) (st : Nat → Int32) : Option (Int32 × Int32 × Int32 × Int32 × Bool × (Nat → Int32)) :=
  if (b2i tgr) = 0 then
    ob4 (tw_MO_beginValue fu top bgn mst ovr top 2001) (fun top_2 bgn_2 mst_2 ovr_2 =>
      ob4 (tw_MO_open fu bgn_2 mst_2 top_2 ovr_2 st) (fun r_3 top_3 ovr_3 st_3 =>
        some (r_3, top_3, bgn_2, mst_2, ovr_3, st_3)))
  else
    ob4 (tw_MO_beginValue fu 80000 bgn mst ovr 80000 2001) (fun top_4 bgn_4 mst_4 ovr_4 =>
      ob4 (tw_MO_open fu bgn_4 mst_4 top_4 ovr_4 st) (fun r_5 top_5 ovr_5 st_5 =>
        some (r_5, top_5, bgn_4, mst_4, ovr_5, st_5)))
def tw_MO_resume (fu : Nat) (dfl : Bool) (top : Int32) (bgn : Int32) (mst : Int32) (ovr : Bool) (p0 : Int32) (p1 : Int32) : Option (Int32 × Int32 × Int32 × Bool) :=
  some (p1, p0, 2001, dfl)
def tw_MO_take_h3 (fu : Nat) (K : Int32 → Int32 → (Nat → Int32) → Option (Int32 × (Nat → Int32))) (p0 : Int32) : Nat → Int32 → Int32 → (Nat → Int32) → Option (Int32 × (Nat → Int32))
  | 0, x2, tpd, st => none
  | n + 1, x2, tpd, st =>
    if x2 < 0 then
      K x2 tpd st
    else
      if 0 ≤ (132400 + tpd) ∧ (132400 + tpd) < 136400 then
        tw_MO_take_h3 fu K p0 n (x2 + (-8)) (tpd + 1) (upd st (132400 + tpd).toNatClampNeg ((p0 >>> (x2 &&& 31)) &&& 255))
      else
        none
def tw_MO_take (fu : Nat) (tpd : Int32) (st : Nat → Int32) (p0 : Int32) : Option (Int32 × (Nat → Int32)) :=
  tw_MO_take_h3 fu (fun (x2_3 : Int32) (tpd_3 : Int32) (st_3 : Nat → Int32) =>
      some (tpd_3, st_3)) p0 fu 24 tpd st
def tw_MO_feed (fu : Nat) (tpd : Int32) (st : Nat → Int32) (p0 : Int32) (p1 : Int32) (p2 : Int32) (p3 : Int32) (p4 : Int32) : Option (Int32 × Int32 × (Nat → Int32)) :=
  if (tpd + 20) ≤ 2000 then
    ob2 (tw_MO_take fu tpd st p0) (fun tpd_2 st_2 =>
      ob2 (tw_MO_take fu tpd_2 st_2 p1) (fun tpd_3 st_3 =>
        ob2 (tw_MO_take fu tpd_3 st_3 p2) (fun tpd_4 st_4 =>
          ob2 (tw_MO_take fu tpd_4 st_4 p3) (fun tpd_5 st_5 =>
            ob2 (tw_MO_take fu tpd_5 st_5 p4) (fun tpd_6 st_6 =>
              some (tpd_6, tpd_6, st_6))))))
  else
    some ((-1), tpd, st)
def tw_MO_clear (fu : Nat) (dcs : Nat → Int32) (tot : Nat → Int32) (p0 : Int32) : Option (Int32 × (Nat → Int32) × (Nat → Int32)) :=
  if p0 < 0 then
    some ((-1), dcs, tot)
  else
    if p0 ≤ 1 then
      if 0 ≤ p0 ∧ p0 < 2 then
        some (dcs p0.toNatClampNeg, upd dcs p0.toNatClampNeg 0, upd tot p0.toNatClampNeg 0)
      else
        none
    else
      some ((-1), dcs, tot)
def tw_MO_swap_h2 (fu : Nat) (K : Int32 → (Nat → Int32) → (Nat → Int32) → (Nat → Int32) → (Nat → Int32) → (Nat → Int32) → Option ((Nat → Int32) × (Nat → Int32) × (Nat → Int32) × (Nat → Int32) × (Nat → Int32))) : Nat → Int32 → (Nat → Int32) → (Nat → Int32) → (Nat → Int32) → (Nat → Int32) → (Nat → Int32) → Option ((Nat → Int32) × (Nat → Int32) × (Nat → Int32) × (Nat → Int32) × (Nat → Int32))
  | 0, x1, st, dcs, tot, frm, siz => none
  | n + 1, x1, st, dcs, tot, frm, siz =>
    if 40000 ≤ x1 then
      K x1 st dcs tot frm siz
    else
      if 0 ≤ x1 ∧ x1 < 136400 then
        if 0 ≤ (40000 + x1) ∧ (40000 + x1) < 136400 then
          tw_MO_swap_h2 fu K n (x1 + 1) (upd (upd st x1.toNatClampNeg (st (40000 + x1).toNatClampNeg)) (40000 + x1).toNatClampNeg (st x1.toNatClampNeg)) dcs tot frm siz
        else
          none
      else
        none
def tw_MO_swap_h48 (fu : Nat) (K : Int32 → (Nat → Int32) → (Nat → Int32) → (Nat → Int32) → (Nat → Int32) → (Nat → Int32) → Option ((Nat → Int32) × (Nat → Int32) × (Nat → Int32) × (Nat → Int32) × (Nat → Int32))) : Nat → Int32 → (Nat → Int32) → (Nat → Int32) → (Nat → Int32) → (Nat → Int32) → (Nat → Int32) → Option ((Nat → Int32) × (Nat → Int32) × (Nat → Int32) × (Nat → Int32) × (Nat → Int32))
  | 0, x1, st, dcs, tot, frm, siz => none
  | n + 1, x1, st, dcs, tot, frm, siz =>
    if 200 ≤ x1 then
      K x1 st dcs tot frm siz
    else
      if 0 ≤ x1 ∧ x1 < 400 then
        if 0 ≤ (200 + x1) ∧ (200 + x1) < 400 then
          tw_MO_swap_h48 fu K n (x1 + 1) st dcs tot (upd (upd frm x1.toNatClampNeg ((frm (200 + x1).toNatClampNeg) - 40000)) (200 + x1).toNatClampNeg ((frm x1.toNatClampNeg) + 40000)) (upd (upd siz x1.toNatClampNeg (siz (200 + x1).toNatClampNeg)) (200 + x1).toNatClampNeg (siz x1.toNatClampNeg))
        else
          none
      else
        none
def tw_MO_swap (fu : Nat) (st : Nat → Int32) (dcs : Nat → Int32) (tot : Nat → Int32) (frm : Nat → Int32) (siz : Nat → Int32) : Option ((Nat → Int32) × (Nat → Int32) × (Nat → Int32) × (Nat → Int32) × (Nat → Int32)) :=
  tw_MO_swap_h2 fu (fun (x1_4 : Int32) (st_4 : Nat → Int32) (dcs_4 : Nat → Int32) (tot_4 : Nat → Int32) (frm_4 : Nat → Int32) (siz_4 : Nat → Int32) =>
      tw_MO_swap_h48 fu (fun (x1_8 : Int32) (st_8 : Nat → Int32) (dcs_8 : Nat → Int32) (tot_8 : Nat → Int32) (frm_8 : Nat → Int32) (siz_8 : Nat → Int32) =>
      some (st_8, upd (upd dcs_8 (0 : Int32).toNatClampNeg (dcs_8 (1 : Int32).toNatClampNeg)) (1 : Int32).toNatClampNeg (dcs_8 (0 : Int32).toNatClampNeg), upd (upd tot_8 (0 : Int32).toNatClampNeg (tot_8 (1 : Int32).toNatClampNeg)) (1 : Int32).toNatClampNeg (tot_8 (0 : Int32).toNatClampNeg), frm_8, siz_8)) fu 0 st_4 dcs_4 tot_4 frm_4 siz_4) fu 0 st dcs tot frm siz
def tw_MO_orderBoxes_r24 (fu : Nat) (fo : Int32 → Int32 → Int32 → Int32 → Option (Int32)) (K : Int32 → Option (Int32)) (st : Nat → Int32) (x3 : Int32) (x4 : Int32) (x5 : Int32) : Option (Int32) :=
  if x3 = 0 then
    K 0
  else
    if 0 ≤ x4 ∧ x4 < 136400 then
      if 0 ≤ x5 ∧ x5 < 136400 then
        K ((tw_MO_classOf (st x4.toNatClampNeg)) - (tw_MO_classOf (st x5.toNatClampNeg)))
      else
        none
    else
      none
def tw_MO_orderBoxes_r100 (fu : Nat) (fo : Int32 → Int32 → Int32 → Int32 → Option (Int32)) (K : Int32 → Option (Int32)) (st : Nat → Int32) (x3 : Int32) (x4 : Int32) (x5 : Int32) (x6 : Int32) : Option (Int32) :=
  if x6 = 0 then
    if 0 ≤ x4 ∧ x4 < 136400 then
      ob1 (tw_MO_valueOf fu st x4) (fun r_12 =>
        if 0 ≤ x5 ∧ x5 < 136400 then
          ob1 (tw_MO_valueOf fu st x5) (fun r_14 =>
            ob1 (fo (st x4.toNatClampNeg) r_12 (st x5.toNatClampNeg) r_14) (fun r_15 =>
              K r_15))
        else
          none)
    else
      none
  else
    K x6
def tw_MO_orderBoxes_h14 (fu : Nat) (fo : Int32 → Int32 → Int32 → Int32 → Option (Int32)) (K : Int32 → Int32 → Option (Int32)) (st : Nat → Int32) (p2 : Int32) : Nat → Int32 → Int32 → Option (Int32)
  | 0, _, _ => none
  | n + 1, x4, x5 =>
    if x4 ≤ 0 then
      K x4 x5
    else
      if x5 ≤ 0 then
        K x4 x5
      else
        tw_MO_orderBoxes_r24 fu fo (fun (y6_8 : Int32) =>
            if y6_8 = 0 then
              if p2 = 0 then
                tw_MO_orderBoxes_r100 fu fo (fun (y6_22 : Int32) =>
                if y6_22 = 0 then
                  ob1 (tw_MO_nextOf fu st x4) (fun r_24 =>
                    ob1 (tw_MO_nextOf fu st x5) (fun r_25 =>
                      tw_MO_orderBoxes_h14 fu fo K st p2 n r_24 r_25))
                else
                  if 0 ≤ y6_22 then
                    some 1
                  else
                    some (-1)) st p2 x4 x5 y6_8
              else
                ob1 (tw_MO_nameEndOf fu st x4) (fun r_27 =>
                  ob1 (tw_MO_nameEndOf fu st x5) (fun r_28 =>
                    ob1 (tw_MO_orderBytes fu st (x4 + 1) ((r_27 - x4) - 1) (x5 + 1) ((r_28 - x5) - 1)) (fun r_29 =>
                      tw_MO_orderBoxes_r100 fu fo (fun (y6_30 : Int32) =>
                if y6_30 = 0 then
                  ob1 (tw_MO_nextOf fu st x4) (fun r_32 =>
                    ob1 (tw_MO_nextOf fu st x5) (fun r_33 =>
                      tw_MO_orderBoxes_h14 fu fo K st p2 n r_32 r_33))
                else
                  if 0 ≤ y6_30 then
                    some 1
                  else
                    some (-1)) st p2 x4 x5 r_29)))
            else
              tw_MO_orderBoxes_r100 fu fo (fun (y6_16 : Int32) =>
              if y6_16 = 0 then
                ob1 (tw_MO_nextOf fu st x4) (fun r_18 =>
                  ob1 (tw_MO_nextOf fu st x5) (fun r_19 =>
                    tw_MO_orderBoxes_h14 fu fo K st p2 n r_18 r_19))
              else
                if 0 ≤ y6_16 then
                  some 1
                else
                  some (-1)) st p2 x4 x5 y6_8) st p2 x4 x5
def tw_MO_orderBoxes (fu : Nat) (fo : Int32 → Int32 → Int32 → Int32 → Option (Int32)) (st : Nat → Int32) (p0 : Int32) (p1 : Int32) (p2 : Int32) : Option (Int32) :=
  ob1 (tw_MO_firstOf fu st p0) (fun r_1 =>
    ob1 (tw_MO_firstOf fu st p1) (fun r_2 =>
      tw_MO_orderBoxes_h14 fu fo (fun (x4_35 : Int32) (x5_35 : Int32) =>
      if x4_35 ≤ 0 then
        if x5_35 ≤ 0 then
          some 0
        else
          some (-1)
      else
        some 1) st p2 fu r_1 r_2))
def tw_MO_orderOf (fu : Nat) (fp : Int32 → Int32 → Int32 → Option (Int32)) (st : Nat → Int32) (p0 : Int32) (p1 : Int32) (p2 : Int32) (p3 : Int32) : Option (Int32) :=
  if (tw_MO_classOf p0) = (tw_MO_classOf p2) then
    if (tw_MO_classOf p0) = 2 then
      ob1 (tw_MO_number fu st p0 p1) (fun r_3 =>
        ob1 (tw_MO_number fu st p2 p3) (fun r_4 =>
          if 0 ≤ (lg_cmp r_3 r_4) then
            if (lg_cmp r_3 r_4) ≤ 0 then
              some 0
            else
              some 1
          else
            some (-1)))
    else
      if (tw_MO_classOf p0) = 6 then
        ob1 (tw_MO_number fu st p0 p1) (fun r_20 =>
          ob1 (tw_MO_number fu st p2 p3) (fun r_21 =>
            if 0 ≤ (lg_cmp r_20 r_21) then
              if (lg_cmp r_20 r_21) ≤ 0 then
                some 0
              else
                some 1
            else
              some (-1)))
      else
        if (tw_MO_classOf p0) = 3 then
          ob1 (tw_MO_whole fu st p1) (fun r_17 =>
            ob1 (tw_MO_whole fu st p3) (fun r_18 =>
              ob1 (tw_MO_orderBytes fu st (p1 + 4) (r_17 - 1) (p3 + 4) (r_18 - 1)) (fun r_19 =>
                some r_19)))
        else
          if (tw_MO_classOf p0) = 4 then
            if (tw_MO_classOf p0) = 4 then
              ob1 (fp p1 p3 1) (fun r_12 =>
                some r_12)
            else
              ob1 (fp p1 p3 0) (fun r_11 =>
                some r_11)
          else
            if (tw_MO_classOf p0) = 5 then
              if (tw_MO_classOf p0) = 4 then
                ob1 (fp p1 p3 1) (fun r_16 =>
                  some r_16)
              else
                ob1 (fp p1 p3 0) (fun r_15 =>
                  some r_15)
            else
              some 0
  else
    if (tw_MO_classOf p2) ≤ (tw_MO_classOf p0) then
      some 1
    else
      some (-1)
def tw_MO_ord (fu : Nat) (st : Nat → Int32) : Nat → Int32 → Int32 → Int32 → Int32 → Option (Int32)
  | 0, _, _, _, _ => none
  | k + 1, p0, p1, p2, p3 => tw_MO_orderOf fu (fun p0 p1 p2 => tw_MO_orderBoxes fu (fun p0 p1 p2 p3 => tw_MO_ord fu st k p0 p1 p2 p3) st p0 p1 p2) st p0 p1 p2 p3
def tw_MO_ord0 (fu : Nat) (st : Nat → Int32) (p0 : Int32) (p1 : Int32) (p2 : Int32) (p3 : Int32) : Option (Int32) := tw_MO_ord fu st 20 p0 p1 p2 p3
def tw_MO_deepOf_r45 (fu : Nat) (fd : Int32 → Int32 → Option (Int32)) (K : Int32 → Option (Int32)) (st : Nat → Int32) (x3 : Int32) (x4 : Int32) (x5 : Int32) : Option (Int32) :=
  if x5 ≤ x3 then
    K x3
  else
    K x5
def tw_MO_deepOf_h21 (fu : Nat) (fd : Int32 → Int32 → Option (Int32)) (K : Int32 → Int32 → Option (Int32)) (st : Nat → Int32) : Nat → Int32 → Int32 → Option (Int32)
  | 0, _, _ => none
  | n + 1, x3, x4 =>
    if x4 ≤ 0 then
      K x3 x4
    else
      if 0 ≤ x4 ∧ x4 < 136400 then
        ob1 (tw_MO_valueOf fu st x4) (fun r_5 =>
          ob1 (fd (st x4.toNatClampNeg) r_5) (fun r_6 =>
            tw_MO_deepOf_r45 fu fd (fun (y3_8 : Int32) =>
          ob1 (tw_MO_nextOf fu st x4) (fun r_9 =>
            tw_MO_deepOf_h21 fu fd K st n y3_8 r_9)) st x3 x4 r_6))
      else
        none
def tw_MO_deepOf (fu : Nat) (fd : Int32 → Int32 → Option (Int32)) (st : Nat → Int32) (p0 : Int32) (p1 : Int32) : Option (Int32) :=
  if p0 = 3 then
    ob1 (tw_MO_firstOf fu st p1) (fun r_2 =>
      tw_MO_deepOf_h21 fu fd (fun (x3_10 : Int32) (x4_10 : Int32) =>
        some (x3_10 + 1)) st fu 0 r_2)
  else
    if p0 = 4 then
      ob1 (tw_MO_firstOf fu st p1) (fun r_12 =>
        tw_MO_deepOf_h21 fu fd (fun (x3_13 : Int32) (x4_13 : Int32) =>
          some (x3_13 + 1)) st fu 0 r_12)
    else
      some 0
def tw_MO_deep (fu : Nat) (st : Nat → Int32) : Nat → Int32 → Int32 → Option (Int32)
  | 0, _, _ => none
  | k + 1, p0, p1 => tw_MO_deepOf fu (fun p0 p1 => tw_MO_deep fu st k p0 p1) st p0 p1
def tw_MO_deep0 (fu : Nat) (st : Nat → Int32) (p0 : Int32) (p1 : Int32) : Option (Int32) := tw_MO_deep fu st 20 p0 p1
def tw_MO_isBehind (fu : Nat) (st : Nat → Int32) (kkd : Nat → Int32) (kat : Nat → Int32) (p0 : Int32) (p1 : Int32) (p2 : Int32) : Option (Bool) :=
  if 0 ≤ p0 ∧ p0 < 800 then
    if 0 ≤ p1 ∧ p1 < 800 then
      ob1 (tw_MO_ord0 fu st (kkd p0.toNatClampNeg) (kat p0.toNatClampNeg) (kkd p1.toNatClampNeg) (kat p1.toNatClampNeg)) (fun r_3 =>
        if p2 = 0 then
          if 0 ≤ r_3 then
            some false
          else
            some true
        else
          if r_3 ≤ 0 then
            some false
          else
            some true)
    else
      none
  else
    none
def tw_MO_isElement_h5 (fu : Nat) (fx : Int32 → Int32 → Int32 → Int32 → Option (Bool)) (K : Int32 → Option (Bool)) (st : Nat → Int32) (p0 : Int32) (p1 : Int32) (p2 : Int32) (p3 : Int32) (p4 : Int32) : Nat → Int32 → Option (Bool)
  | 0, _ => none
  | n + 1, x6 =>
    if p1 ≤ x6 then
      K x6
    else
      if 0 ≤ x6 ∧ x6 < 136400 then
        if (st x6.toNatClampNeg) = 0 then
          K x6
        else
          tw_MO_isElement_h5 fu fx K st p0 p1 p2 p3 p4 n (x6 + 1)
      else
        none
def tw_MO_isElement_r27 (fu : Nat) (fx : Int32 → Int32 → Int32 → Int32 → Option (Bool)) (K : Option (Bool)) (st : Nat → Int32) (x1 : Int32) (x2 : Int32) (x3 : Int32) (x4 : Int32) (x5 : Int32) (x6 : Int32) : Option (Bool) :=
  if x6 = x2 then
    some false
  else
    ob1 (tw_MO_isRightText fu st (x1 + 1) x6) (fun r_6 =>
      if (b2i r_6) = 0 then
        some false
      else
        if x4 < 0 then
          K 
        else
          ob1 (tw_MO_isNumber fu st (x1 + 1) x6 x4) (fun r_9 =>
            if (b2i r_9) = 0 then
              some false
            else
              K ))
def tw_MO_isElement_h71 (fu : Nat) (fx : Int32 → Int32 → Int32 → Int32 → Option (Bool)) (K : Int32 → Option (Bool)) (st : Nat → Int32) (p0 : Int32) (p1 : Int32) (p3 : Int32) (p4 : Int32) (x6 : Int32) : Nat → Int32 → Option (Bool)
  | 0, _ => none
  | n + 1, x7 =>
    if p0 ≤ x7 then
      K x7
    else
      if 0 ≤ p3 then
        K x7
      else
        ob1 (tw_MO_nameEndOf fu st x7) (fun r_14 =>
          ob1 (tw_MO_orderBytes fu st (x7 + 1) ((r_14 - x7) - 1) (p0 + 1) ((x6 - p0) - 1)) (fun r_15 =>
            if r_15 = 0 then
              some false
            else
              ob1 (tw_MO_valueOf fu st x7) (fun r_17 =>
                if 0 ≤ x7 ∧ x7 < 136400 then
                  ob1 (tw_MO_lengthOf fu st (st x7.toNatClampNeg) r_17) (fun r_19 =>
                    tw_MO_isElement_h71 fu fx K st p0 p1 p3 p4 x6 n (r_17 + r_19))
                else
                  none)))
def tw_MO_isElement (fu : Nat) (fx : Int32 → Int32 → Int32 → Int32 → Option (Bool)) (st : Nat → Int32) (p0 : Int32) (p1 : Int32) (p2 : Int32) (p3 : Int32) (p4 : Int32) : Option (Bool) :=
  tw_MO_isElement_h5 fu fx (fun (x6_4 : Int32) =>
      tw_MO_isElement_r27 fu fx (
      tw_MO_isElement_h71 fu fx (fun (x7_20 : Int32) =>
      if 0 ≤ p0 ∧ p0 < 136400 then
        if (st p0.toNatClampNeg) = 2 then
          if ((p1 - x6_4) - 1) < 5 then
            some false
          else
            ob1 (tw_MO_whole fu st (x6_4 + 1)) (fun r_24 =>
              if r_24 ≤ 0 then
                some false
              else
                if (((p1 - x6_4) - 1) - 4) < r_24 then
                  some false
                else
                  if 0 ≤ ((x6_4 + 4) + r_24) ∧ ((x6_4 + 4) + r_24) < 136400 then
                    if (st ((x6_4 + 4) + r_24).toNatClampNeg) = 0 then
                      ob1 (tw_MO_isRightText fu st (x6_4 + 5) ((x6_4 + 4) + r_24)) (fun r_29 =>
                        if (b2i r_29) = 0 then
                          some false
                        else
                          some true)
                    else
                      some false
                  else
                    none)
        else
          if (st p0.toNatClampNeg) = 3 then
            if (st p0.toNatClampNeg) = 4 then
              ob1 (fx (x6_4 + 1) p1 1 (p4 + 1)) (fun r_34 =>
                some r_34)
            else
              ob1 (fx (x6_4 + 1) p1 0 (p4 + 1)) (fun r_33 =>
                some r_33)
          else
            if (st p0.toNatClampNeg) = 4 then
              if (st p0.toNatClampNeg) = 4 then
                ob1 (fx (x6_4 + 1) p1 1 (p4 + 1)) (fun r_38 =>
                  some r_38)
              else
                ob1 (fx (x6_4 + 1) p1 0 (p4 + 1)) (fun r_37 =>
                  some r_37)
            else
              if (st p0.toNatClampNeg) = 8 then
                if ((p1 - x6_4) - 1) < 1 then
                  some false
                else
                  if 0 ≤ (x6_4 + 1) ∧ (x6_4 + 1) < 136400 then
                    if 2 ≤ (st (x6_4 + 1).toNatClampNeg) then
                      some false
                    else
                      some true
                  else
                    none
              else
                if (st p0.toNatClampNeg) = 10 then
                  some true
                else
                  if (st p0.toNatClampNeg) = 16 then
                    if ((p1 - x6_4) - 1) < 4 then
                      some false
                    else
                      some true
                  else
                    if (st p0.toNatClampNeg) = 18 then
                      if ((p1 - x6_4) - 1) < 8 then
                        some false
                      else
                        some true
                    else
                      some false
      else
        none) st p0 p1 p3 p4 x6_4 fu (p2 + 4)) st p0 p1 p2 p3 p4 x6_4) st p0 p1 p2 p3 p4 fu (p0 + 1)
def tw_MO_isBox_h69 (fu : Nat) (fe : Int32 → Int32 → Int32 → Int32 → Int32 → Option (Bool)) (K : Int32 → Int32 → Option (Bool)) (st : Nat → Int32) (p0 : Int32) (p2 : Int32) (p3 : Int32) (x6 : Int32) : Nat → Int32 → Int32 → Option (Bool)
  | 0, _, _ => none
  | n + 1, x7, x8 =>
    if x6 ≤ x7 then
      K x7 x8
    else
      if p2 = 0 then
        ob1 (fe x7 x6 p0 (-1) p3) (fun r_10 =>
          if (b2i r_10) = 0 then
            some false
          else
            ob1 (tw_MO_valueOf fu st x7) (fun r_12 =>
              if 0 ≤ x7 ∧ x7 < 136400 then
                ob1 (tw_MO_lengthOf fu st (st x7.toNatClampNeg) r_12) (fun r_14 =>
                  tw_MO_isBox_h69 fu fe K st p0 p2 p3 x6 n (r_12 + r_14) (x8 + 1))
              else
                none))
      else
        ob1 (fe x7 x6 p0 x8 p3) (fun r_15 =>
          if (b2i r_15) = 0 then
            some false
          else
            ob1 (tw_MO_valueOf fu st x7) (fun r_17 =>
              if 0 ≤ x7 ∧ x7 < 136400 then
                ob1 (tw_MO_lengthOf fu st (st x7.toNatClampNeg) r_17) (fun r_19 =>
                  tw_MO_isBox_h69 fu fe K st p0 p2 p3 x6 n (r_17 + r_19) (x8 + 1))
              else
                none))
def tw_MO_isBox (fu : Nat) (fe : Int32 → Int32 → Int32 → Int32 → Int32 → Option (Bool)) (st : Nat → Int32) (p0 : Int32) (p1 : Int32) (p2 : Int32) (p3 : Int32) : Option (Bool) :=
  if (p1 - p0) < 5 then
    some false
  else
    if p3 ≤ 16 then
      ob1 (tw_MO_whole fu st p0) (fun r_3 =>
        if r_3 < 5 then
          some false
        else
          if (p1 - p0) < r_3 then
            some false
          else
            if 0 ≤ ((p0 + r_3) - 1) ∧ ((p0 + r_3) - 1) < 136400 then
              if (st ((p0 + r_3) - 1).toNatClampNeg) = 0 then
                tw_MO_isBox_h69 fu fe (fun (x7_20 : Int32) (x8_20 : Int32) =>
                some true) st p0 p2 p3 ((p0 + r_3) - 1) fu (p0 + 4) 0
              else
                some false
            else
              none)
    else
      some false
def tw_MO_bx (fu : Nat) (st : Nat → Int32) : Nat → Int32 → Int32 → Int32 → Int32 → Option (Bool)
  | 0, _, _, _, _ => none
  | k + 1, p0, p1, p2, p3 => tw_MO_isBox fu (fun p0 p1 p2 p3 p4 => tw_MO_isElement fu (fun p0 p1 p2 p3 => tw_MO_bx fu st k p0 p1 p2 p3) st p0 p1 p2 p3 p4) st p0 p1 p2 p3
def tw_MO_bx0 (fu : Nat) (st : Nat → Int32) (p0 : Int32) (p1 : Int32) (p2 : Int32) (p3 : Int32) : Option (Bool) := tw_MO_bx fu st 18 p0 p1 p2 p3
def tw_MO_isDocument (fu : Nat) (st : Nat → Int32) (p0 : Int32) : Option (Bool) :=
  if p0 ≤ 4 then
    some false
  else
    ob1 (tw_MO_whole fu st 132400) (fun r_2 =>
      if r_2 = p0 then
        ob1 (tw_MO_bx0 fu st 132400 (132400 + p0) 0 1) (fun r_4 =>
          if (b2i r_4) = 0 then
            some false
          else
            some true)
      else
        some false)
def tw_MO_leavesOf_r123 (fu : Nat) (fl : Int32 → (Nat → Int32) → (Nat → Int32) → Int32 → Int32 → Int32 → Option (Int32 × (Nat → Int32) × (Nat → Int32))) (st : Nat → Int32) (K : Int32 → (Nat → Int32) → (Nat → Int32) → Option (Int32 × (Nat → Int32) × (Nat → Int32))) (x2 : Int32) (x3 : Int32) (x4 : Int32) (lvs : Int32) (lkd : Nat → Int32) (lat : Nat → Int32) : Option (Int32 × (Nat → Int32) × (Nat → Int32)) :=
  if x4 ≤ 0 then
    K lvs lkd lat
  else
    if 0 ≤ x4 ∧ x4 < 136400 then
      ob1 (tw_MO_valueOf fu st x4) (fun r_8 =>
        ob1 (tw_MO_nextStep fu st x3) (fun r_9 =>
          ob3 (fl lvs lkd lat (st x4.toNatClampNeg) r_8 r_9) (fun lvs_10 lkd_10 lat_10 =>
            K lvs_10 lkd_10 lat_10)))
    else
      none
def tw_MO_leavesOf_r162 (fu : Nat) (fl : Int32 → (Nat → Int32) → (Nat → Int32) → Int32 → Int32 → Int32 → Option (Int32 × (Nat → Int32) × (Nat → Int32))) (st : Nat → Int32) (K : Int32 → (Nat → Int32) → (Nat → Int32) → Option (Int32 × (Nat → Int32) × (Nat → Int32))) (x3 : Int32) (x5 : Int32) (lvs : Int32) (lkd : Nat → Int32) (lat : Nat → Int32) : Option (Int32 × (Nat → Int32) × (Nat → Int32)) :=
  if 0 ≤ x5 ∧ x5 < 136400 then
    if (st x5.toNatClampNeg) = 3 then
      ob1 (tw_MO_valueOf fu st x5) (fun r_16 =>
        ob3 (fl lvs lkd lat 3 r_16 x3) (fun lvs_17 lkd_17 lat_17 =>
          K lvs_17 lkd_17 lat_17))
    else
      K lvs lkd lat
  else
    none
def tw_MO_leavesOf_h157 (fu : Nat) (fl : Int32 → (Nat → Int32) → (Nat → Int32) → Int32 → Int32 → Int32 → Option (Int32 × (Nat → Int32) × (Nat → Int32))) (st : Nat → Int32) (K : Int32 → Int32 → (Nat → Int32) → (Nat → Int32) → Option (Int32 × (Nat → Int32) × (Nat → Int32))) (p2 : Int32) : Nat → Int32 → Int32 → (Nat → Int32) → (Nat → Int32) → Option (Int32 × (Nat → Int32) × (Nat → Int32))
  | 0, x5, lvs, lkd, lat => none
  | n + 1, x5, lvs, lkd, lat =>
    if x5 ≤ 0 then
      K x5 lvs lkd lat
    else
      tw_MO_leavesOf_r162 fu fl st (fun (lvs_18 : Int32) (lkd_18 : Nat → Int32) (lat_18 : Nat → Int32) =>
          ob1 (tw_MO_nextOf fu st x5) (fun r_19 =>
            tw_MO_leavesOf_h157 fu fl st K p2 n r_19 lvs_18 lkd_18 lat_18)) p2 x5 lvs lkd lat
def tw_MO_leavesOf_r71 (fu : Nat) (fl : Int32 → (Nat → Int32) → (Nat → Int32) → Int32 → Int32 → Int32 → Option (Int32 × (Nat → Int32) × (Nat → Int32))) (st : Nat → Int32) (K : Int32 → (Nat → Int32) → (Nat → Int32) → Option (Int32 × (Nat → Int32) × (Nat → Int32))) (x3 : Int32) (x4 : Int32) (lvs : Int32) (lkd : Nat → Int32) (lat : Nat → Int32) : Option (Int32 × (Nat → Int32) × (Nat → Int32)) :=
  if x4 ≤ 0 then
    ob3 (tw_MO_leaf fu lvs lkd lat 0 0) (fun lvs_23 lkd_23 lat_23 =>
      K lvs_23 lkd_23 lat_23)
  else
    if 0 ≤ x4 ∧ x4 < 136400 then
      ob1 (tw_MO_valueOf fu st x4) (fun r_25 =>
        ob1 (tw_MO_nextStep fu st x3) (fun r_26 =>
          ob3 (fl lvs lkd lat (st x4.toNatClampNeg) r_25 r_26) (fun lvs_27 lkd_27 lat_27 =>
            K lvs_27 lkd_27 lat_27)))
    else
      none
def tw_MO_leavesOf_h22 (fu : Nat) (fl : Int32 → (Nat → Int32) → (Nat → Int32) → Int32 → Int32 → Int32 → Option (Int32 × (Nat → Int32) × (Nat → Int32))) (st : Nat → Int32) (K : Int32 → Int32 → (Nat → Int32) → (Nat → Int32) → Option (Int32 × (Nat → Int32) × (Nat → Int32))) : Nat → Int32 → Int32 → (Nat → Int32) → (Nat → Int32) → Option (Int32 × (Nat → Int32) × (Nat → Int32))
  | 0, x4, lvs, lkd, lat => none
  | n + 1, x4, lvs, lkd, lat =>
    if x4 ≤ 0 then
      K x4 lvs lkd lat
    else
      if 0 ≤ x4 ∧ x4 < 136400 then
        ob1 (tw_MO_valueOf fu st x4) (fun r_34 =>
          ob3 (tw_MO_leaf fu lvs lkd lat (st x4.toNatClampNeg) r_34) (fun lvs_35 lkd_35 lat_35 =>
            ob1 (tw_MO_nextOf fu st x4) (fun r_36 =>
              tw_MO_leavesOf_h22 fu fl st K n r_36 lvs_35 lkd_35 lat_35)))
      else
        none
def tw_MO_leavesOf (fu : Nat) (fl : Int32 → (Nat → Int32) → (Nat → Int32) → Int32 → Int32 → Int32 → Option (Int32 × (Nat → Int32) × (Nat → Int32))) (st : Nat → Int32) (lvs : Int32) (lkd : Nat → Int32) (lat : Nat → Int32) (p0 : Int32) (p1 : Int32) (p2 : Int32) : Option (Int32 × (Nat → Int32) × (Nat → Int32)) :=
  if p2 = 0 then
    ob3 (tw_MO_leaf fu lvs lkd lat p0 p1) (fun lvs_29 lkd_29 lat_29 =>
      if p0 = 4 then
        ob1 (tw_MO_firstOf fu st p1) (fun r_31 =>
          tw_MO_leavesOf_h22 fu fl st (fun (x4_37 : Int32) (lvs_37 : Int32) (lkd_37 : Nat → Int32) (lat_37 : Nat → Int32) =>
          some (lvs_37, lkd_37, lat_37)) fu r_31 lvs_29 lkd_29 lat_29)
      else
        some (lvs_29, lkd_29, lat_29))
  else
    if p0 = 3 then
      ob1 (tw_MO_met fu st p1 p2) (fun r_21 =>
        tw_MO_leavesOf_r71 fu fl st (fun (lvs_28 : Int32) (lkd_28 : Nat → Int32) (lat_28 : Nat → Int32) =>
          some (lvs_28, lkd_28, lat_28)) p2 r_21 lvs lkd lat)
    else
      if p0 = 4 then
        ob1 (tw_MO_met fu st p1 p2) (fun r_5 =>
          tw_MO_leavesOf_r123 fu fl st (fun (lvs_11 : Int32) (lkd_11 : Nat → Int32) (lat_11 : Nat → Int32) =>
            ob1 (tw_MO_firstOf fu st p1) (fun r_12 =>
              tw_MO_leavesOf_h157 fu fl st (fun (x5_20 : Int32) (lvs_20 : Int32) (lkd_20 : Nat → Int32) (lat_20 : Nat → Int32) =>
            some (lvs_20, lkd_20, lat_20)) p2 fu r_12 lvs_11 lkd_11 lat_11)) p1 p2 r_5 lvs lkd lat)
      else
        ob3 (tw_MO_leaf fu lvs lkd lat 0 0) (fun lvs_4 lkd_4 lat_4 =>
          some (lvs_4, lkd_4, lat_4))
def tw_MO_lvs (fu : Nat) (st : Nat → Int32) : Nat → Int32 → (Nat → Int32) → (Nat → Int32) → Int32 → Int32 → Int32 → Option (Int32 × (Nat → Int32) × (Nat → Int32))
  | 0, _, _, _, _, _, _ => none
  | k + 1, lvs, lkd, lat, p0, p1, p2 => tw_MO_leavesOf fu (fun lvs lkd lat p0 p1 p2 => tw_MO_lvs fu st k lvs lkd lat p0 p1 p2) st lvs lkd lat p0 p1 p2
def tw_MO_lvs0 (fu : Nat) (st : Nat → Int32) (lvs : Int32) (lkd : Nat → Int32) (lat : Nat → Int32) (p0 : Int32) (p1 : Int32) (p2 : Int32) : Option (Int32 × (Nat → Int32) × (Nat → Int32)) := tw_MO_lvs fu st 26 lvs lkd lat p0 p1 p2
def tw_MO_emit_r135 (fu : Nat) (fm : Int32 → Bool → (Nat → Int32) → Int32 → Int32 → Int32 → Option (Int32 × Int32 × Bool × (Nat → Int32))) (bgn : Int32) (mst : Int32) (K : Int32 → Bool → (Nat → Int32) → Option (Int32 × Int32 × Bool × (Nat → Int32))) (x3 : Int32) (x4 : Int32) (x5 : Int32) (x6 : Int32) (x7 : Int32) (x8 : Int32) (top : Int32) (ovr : Bool) (st : Nat → Int32) : Option (Int32 × Int32 × Bool × (Nat → Int32)) :=
  if x8 = 0 then
    K x7 ovr st
  else
    if 0 ≤ x7 ∧ x7 < 136400 then
      K top ovr (upd st x7.toNatClampNeg x8)
    else
      none
def tw_MO_emit_r90 (fu : Nat) (fm : Int32 → Bool → (Nat → Int32) → Int32 → Int32 → Int32 → Option (Int32 × Int32 × Bool × (Nat → Int32))) (bgn : Int32) (mst : Int32) (K : Int32 → Int32 → Bool → (Nat → Int32) → Option (Int32 × Int32 × Bool × (Nat → Int32))) (x3 : Int32) (x4 : Int32) (x5 : Int32) (x6 : Int32) (top : Int32) (ovr : Bool) (st : Nat → Int32) : Option (Int32 × Int32 × Bool × (Nat → Int32)) :=
  if 0 ≤ x6 ∧ x6 < 136400 then
    if (st x6.toNatClampNeg) = 3 then
      ob3 (tw_MO_write fu bgn mst top ovr st 0) (fun top_9 ovr_9 st_9 =>
        ob3 (tw_MO_putDigits fu bgn mst top_9 ovr_9 st_9 x5) (fun top_10 ovr_10 st_10 =>
          ob1 (tw_MO_valueOf fu st_10 x6) (fun r_11 =>
            ob4 (fm top_10 ovr_10 st_10 3 r_11 x3) (fun r_12 top_12 ovr_12 st_12 =>
              tw_MO_emit_r135 fu fm bgn mst (fun (top_15 : Int32) (ovr_15 : Bool) (st_15 : Nat → Int32) =>
        if r_12 = 0 then
          K (x5 + 0) top_15 ovr_15 st_15
        else
          K (x5 + 1) top_15 ovr_15 st_15) x3 x4 x5 x6 top r_12 top_12 ovr_12 st_12))))
    else
      K x5 top ovr st
  else
    none
def tw_MO_emit_h85 (fu : Nat) (fm : Int32 → Bool → (Nat → Int32) → Int32 → Int32 → Int32 → Option (Int32 × Int32 × Bool × (Nat → Int32))) (bgn : Int32) (mst : Int32) (K : Int32 → Int32 → Int32 → Bool → (Nat → Int32) → Option (Int32 × Int32 × Bool × (Nat → Int32))) (p2 : Int32) (x4 : Int32) : Nat → Int32 → Int32 → Int32 → Bool → (Nat → Int32) → Option (Int32 × Int32 × Bool × (Nat → Int32))
  | 0, x5, x6, top, ovr, st => none
  | n + 1, x5, x6, top, ovr, st =>
    if x6 ≤ 0 then
      K x5 x6 top ovr st
    else
      tw_MO_emit_r90 fu fm bgn mst (fun (y5_17 : Int32) (top_17 : Int32) (ovr_17 : Bool) (st_17 : Nat → Int32) =>
          ob1 (tw_MO_nextOf fu st_17 x6) (fun r_18 =>
            tw_MO_emit_h85 fu fm bgn mst K p2 x4 n y5_17 r_18 top_17 ovr_17 st_17)) p2 x4 x5 x6 top ovr st
def tw_MO_emit (fu : Nat) (fm : Int32 → Bool → (Nat → Int32) → Int32 → Int32 → Int32 → Option (Int32 × Int32 × Bool × (Nat → Int32))) (bgn : Int32) (mst : Int32) (top : Int32) (ovr : Bool) (st : Nat → Int32) (p0 : Int32) (p1 : Int32) (p2 : Int32) : Option (Int32 × Int32 × Bool × (Nat → Int32)) :=
  if p2 = 0 then
    ob1 (tw_MO_lengthOf fu st p0 p1) (fun r_27 =>
      ob3 (tw_MO_copy fu bgn mst top ovr st p1 r_27) (fun top_28 ovr_28 st_28 =>
        some (p0, top_28, ovr_28, st_28)))
  else
    if p0 = 3 then
      ob1 (tw_MO_met fu st p1 p2) (fun r_21 =>
        if r_21 ≤ 0 then
          some (0, top, ovr, st)
        else
          if 0 ≤ r_21 ∧ r_21 < 136400 then
            ob1 (tw_MO_valueOf fu st r_21) (fun r_24 =>
              ob1 (tw_MO_nextStep fu st p2) (fun r_25 =>
                ob4 (fm top ovr st (st r_21.toNatClampNeg) r_24 r_25) (fun r_26 top_26 ovr_26 st_26 =>
                  some (r_26, top_26, ovr_26, st_26))))
          else
            none)
    else
      if p0 = 4 then
        ob4 (tw_MO_open fu bgn mst top ovr st) (fun r_4 top_4 ovr_4 st_4 =>
          ob1 (tw_MO_firstOf fu st_4 p1) (fun r_5 =>
            tw_MO_emit_h85 fu fm bgn mst (fun (x5_19 : Int32) (x6_19 : Int32) (top_19 : Int32) (ovr_19 : Bool) (st_19 : Nat → Int32) =>
            ob3 (tw_MO_close fu bgn mst top_19 ovr_19 st_19 r_4) (fun top_20 ovr_20 st_20 =>
              some (4, top_20, ovr_20, st_20))) p2 r_4 fu 0 r_5 top_4 ovr_4 st_4))
      else
        some (0, top, ovr, st)
def tw_MO_emt (fu : Nat) (bgn : Int32) (mst : Int32) : Nat → Int32 → Bool → (Nat → Int32) → Int32 → Int32 → Int32 → Option (Int32 × Int32 × Bool × (Nat → Int32))
  | 0, _, _, _, _, _, _ => none
  | k + 1, top, ovr, st, p0, p1, p2 => tw_MO_emit fu (fun top ovr st p0 p1 p2 => tw_MO_emt fu bgn mst k top ovr st p0 p1 p2) bgn mst top ovr st p0 p1 p2
def tw_MO_emt0 (fu : Nat) (bgn : Int32) (mst : Int32) (top : Int32) (ovr : Bool) (st : Nat → Int32) (p0 : Int32) (p1 : Int32) (p2 : Int32) : Option (Int32 × Int32 × Bool × (Nat → Int32)) := tw_MO_emt fu bgn mst 26 top ovr st p0 p1 p2
def tw_MO_through_r12 (fu : Nat) (ft : Int32 → Bool → (Nat → Int32) → Int32 → Int32 → Int32 → Int32 → Option (Int32 × Bool × (Nat → Int32))) (bgn : Int32) (mst : Int32) (K : Int32 → Bool → (Nat → Int32) → Option (Int32 × Bool × (Nat → Int32))) (x2 : Int32) (x3 : Int32) (x4 : Int32) (x5 : Int32) (top : Int32) (ovr : Bool) (st : Nat → Int32) : Option (Int32 × Bool × (Nat → Int32)) :=
  ob1 (tw_MO_isStep fu st x2 x5) (fun r_3 =>
    if (b2i r_3) = 0 then
      ob3 (tw_MO_element fu bgn mst top ovr st x5) (fun top_16 ovr_16 st_16 =>
        K top_16 ovr_16 st_16)
    else
      ob1 (tw_MO_nextStep fu st x2) (fun r_5 =>
        if r_5 = 0 then
          ob3 (tw_MO_head fu bgn mst top ovr st x3 x5) (fun top_13 ovr_13 st_13 =>
            ob1 (tw_MO_lengthOf fu st_13 x3 x4) (fun r_14 =>
              ob3 (tw_MO_copy fu bgn mst top_13 ovr_13 st_13 x4 r_14) (fun top_15 ovr_15 st_15 =>
                K top_15 ovr_15 st_15)))
        else
          ob3 (tw_MO_head fu bgn mst top ovr st 3 x5) (fun top_7 ovr_7 st_7 =>
            ob4 (tw_MO_open fu bgn mst top_7 ovr_7 st_7) (fun r_8 top_8 ovr_8 st_8 =>
              ob1 (tw_MO_valueOf fu st_8 x5) (fun r_9 =>
                ob1 (tw_MO_nextStep fu st_8 x2) (fun r_10 =>
                  ob3 (ft top_8 ovr_8 st_8 r_9 r_10 x3 x4) (fun top_11 ovr_11 st_11 =>
                    ob3 (tw_MO_close fu bgn mst top_11 ovr_11 st_11 r_8) (fun top_12 ovr_12 st_12 =>
                      K top_12 ovr_12 st_12))))))))
def tw_MO_through_h7 (fu : Nat) (ft : Int32 → Bool → (Nat → Int32) → Int32 → Int32 → Int32 → Int32 → Option (Int32 × Bool × (Nat → Int32))) (bgn : Int32) (mst : Int32) (K : Int32 → Int32 → Bool → (Nat → Int32) → Option (Int32 × Bool × (Nat → Int32))) (p1 : Int32) (p2 : Int32) (p3 : Int32) : Nat → Int32 → Int32 → Bool → (Nat → Int32) → Option (Int32 × Bool × (Nat → Int32))
  | 0, x5, top, ovr, st => none
  | n + 1, x5, top, ovr, st =>
    if x5 ≤ 0 then
      K x5 top ovr st
    else
      tw_MO_through_r12 fu ft bgn mst (fun (top_17 : Int32) (ovr_17 : Bool) (st_17 : Nat → Int32) =>
          ob1 (tw_MO_nextOf fu st_17 x5) (fun r_18 =>
            tw_MO_through_h7 fu ft bgn mst K p1 p2 p3 n r_18 top_17 ovr_17 st_17)) p1 p2 p3 x5 top ovr st
def tw_MO_through (fu : Nat) (ft : Int32 → Bool → (Nat → Int32) → Int32 → Int32 → Int32 → Int32 → Option (Int32 × Bool × (Nat → Int32))) (bgn : Int32) (mst : Int32) (top : Int32) (ovr : Bool) (st : Nat → Int32) (p0 : Int32) (p1 : Int32) (p2 : Int32) (p3 : Int32) : Option (Int32 × Bool × (Nat → Int32)) :=
  ob1 (tw_MO_firstOf fu st p0) (fun r_1 =>
    tw_MO_through_h7 fu ft bgn mst (fun (x5_19 : Int32) (top_19 : Int32) (ovr_19 : Bool) (st_19 : Nat → Int32) =>
      some (top_19, ovr_19, st_19)) p1 p2 p3 fu r_1 top ovr st)
def tw_MO_thr (fu : Nat) (bgn : Int32) (mst : Int32) : Nat → Int32 → Bool → (Nat → Int32) → Int32 → Int32 → Int32 → Int32 → Option (Int32 × Bool × (Nat → Int32))
  | 0, _, _, _, _, _, _, _ => none
  | k + 1, top, ovr, st, p0, p1, p2, p3 => tw_MO_through fu (fun top ovr st p0 p1 p2 p3 => tw_MO_thr fu bgn mst k top ovr st p0 p1 p2 p3) bgn mst top ovr st p0 p1 p2 p3
def tw_MO_thr0 (fu : Nat) (bgn : Int32) (mst : Int32) (top : Int32) (ovr : Bool) (st : Nat → Int32) (p0 : Int32) (p1 : Int32) (p2 : Int32) (p3 : Int32) : Option (Int32 × Bool × (Nat → Int32)) := tw_MO_thr fu bgn mst 20 top ovr st p0 p1 p2 p3
def tw_MO_evaluate (fu : Nat) (top : Int32) (bgn : Int32) (mst : Int32) (ovr : Bool) (st : Nat → Int32) (p0 : Int32) (p1 : Int32) (p2 : Int32) : Option (Int32 × Int32 × Int32 × Int32 × Bool × (Nat → Int32)) :=
  ob4 (tw_MO_beginValue fu top bgn mst ovr p2 4100) (fun top_1 bgn_1 mst_1 ovr_1 =>
    ob1 (tw_MO_isExpressionPath fu st p0) (fun r_2 =>
      if (b2i r_2) = 0 then
        ob1 (tw_MO_valueOf fu st p0) (fun r_4 =>
          if 0 ≤ p0 ∧ p0 < 136400 then
            ob1 (tw_MO_lengthOf fu st (st p0.toNatClampNeg) r_4) (fun r_6 =>
              ob3 (tw_MO_copy fu bgn_1 mst_1 top_1 ovr_1 st r_4 r_6) (fun top_7 ovr_7 st_7 =>
                some (st_7 p0.toNatClampNeg, top_7, bgn_1, mst_1, ovr_7, st_7)))
          else
            none)
      else
        ob1 (tw_MO_valueOf fu st p0) (fun r_8 =>
          ob4 (tw_MO_emt0 fu bgn_1 mst_1 top_1 ovr_1 st 3 p1 (r_8 + 5)) (fun r_9 top_9 ovr_9 st_9 =>
            some (r_9, top_9, bgn_1, mst_1, ovr_9, st_9)))))
def tw_MO_keyOf (fu : Nat) (top : Int32) (bgn : Int32) (mst : Int32) (ovr : Bool) (st : Nat → Int32) (p0 : Int32) (p1 : Int32) (p2 : Int32) : Option (Int32 × Int32 × Int32 × Int32 × Bool × (Nat → Int32)) :=
  ob6 (tw_MO_evaluate fu top bgn mst ovr st p0 p1 p2) (fun r_1 top_1 bgn_1 mst_1 ovr_1 st_1 =>
    if r_1 = 0 then
      some (10, top_1, bgn_1, mst_1, ovr_1, st_1)
    else
      some (r_1, top_1, bgn_1, mst_1, ovr_1, st_1))
def tw_MO_endDocument (fu : Nat) (bgn : Int32) (mst : Int32) (frs : Int32) (frt : Int32) (top : Int32) (ovr : Bool) (tgr : Bool) (st : Nat → Int32) (ffr : Nat → Int32) (fsz : Nat → Int32) (p0 : Int32) : Option (Int32 × Int32 × Int32 × Bool × Bool × (Nat → Int32) × (Nat → Int32) × (Nat → Int32)) :=
  ob3 (tw_MO_close fu bgn mst top ovr st p0) (fun top_1 ovr_1 st_1 =>
    if (b2i ovr_1) = 0 then
      if 2000 < (top_1 - p0) then
        some (frs, frt, top_1, ovr_1, true, st_1, ffr, fsz)
      else
        if frs = 200 then
          some (frs, frt, top_1, ovr_1, true, st_1, ffr, fsz)
        else
          if 40000 < (frt + (top_1 - p0)) then
            some (frs, frt, top_1, ovr_1, true, st_1, ffr, fsz)
          else
            ob1 (tw_MO_deep0 fu st_1 3 p0) (fun r_6 =>
              if r_6 ≤ 16 then
                if (b2i tgr) = 0 then
                  if 0 ≤ frs ∧ frs < 200 then
                    some (frs + 1, frt + (top_1 - p0), top_1, ovr_1, tgr, st_1, upd ffr frs.toNatClampNeg p0, upd fsz frs.toNatClampNeg (top_1 - p0))
                  else
                    none
                else
                  some (frs, frt, top_1, ovr_1, tgr, st_1, ffr, fsz)
              else
                some (frs, frt, top_1, ovr_1, true, st_1, ffr, fsz))
    else
      some (frs, frt, top_1, ovr_1, true, st_1, ffr, fsz))
def tw_MO_keep (fu : Nat) (frm : Nat → Int32) (siz : Nat → Int32) (frs : Int32) (frt : Int32) (top : Int32) (bgn : Int32) (mst : Int32) (ovr : Bool) (tgr : Bool) (st : Nat → Int32) (ffr : Nat → Int32) (fsz : Nat → Int32) (p0 : Int32) : Option (Int32 × Int32 × Int32 × Int32 × Int32 × Bool × Bool × (Nat → Int32) × (Nat → Int32) × (Nat → Int32)) :=
  if 0 ≤ p0 ∧ p0 < 400 then
    ob6 (tw_MO_beginDocument fu tgr top bgn mst ovr st) (fun r_2 top_2 bgn_2 mst_2 ovr_2 st_2 =>
      ob3 (tw_MO_copy fu bgn_2 mst_2 top_2 ovr_2 st_2 ((frm p0.toNatClampNeg) + 4) ((siz p0.toNatClampNeg) - 5)) (fun top_3 ovr_3 st_3 =>
        ob8 (tw_MO_endDocument fu bgn_2 mst_2 frs frt top_3 ovr_3 tgr st_3 ffr fsz r_2) (fun frs_4 frt_4 top_4 ovr_4 tgr_4 st_4 ffr_4 fsz_4 =>
          some (frs_4, frt_4, top_4, bgn_2, mst_2, ovr_4, tgr_4, st_4, ffr_4, fsz_4))))
  else
    none
def tw_MO_finish_h42 (fu : Nat) (frs : Int32) (tgr : Bool) (ffr : Nat → Int32) (fsz : Nat → Int32) (K : Int32 → (Nat → Int32) → (Nat → Int32) → (Nat → Int32) → (Nat → Int32) → (Nat → Int32) → Option (Int32 × (Nat → Int32) × (Nat → Int32) × (Nat → Int32) × (Nat → Int32) × (Nat → Int32))) (x1 : Int32) (x2 : Int32) : Nat → Int32 → (Nat → Int32) → (Nat → Int32) → (Nat → Int32) → (Nat → Int32) → (Nat → Int32) → Option (Int32 × (Nat → Int32) × (Nat → Int32) × (Nat → Int32) × (Nat → Int32) × (Nat → Int32))
  | 0, x3, st, dcs, tot, frm, siz => none
  | n + 1, x3, st, dcs, tot, frm, siz =>
    if 0 ≤ x2 ∧ x2 < 400 then
      if (siz x2.toNatClampNeg) ≤ x3 then
        K x3 st dcs tot frm siz
      else
        if 0 ≤ x2 ∧ x2 < 200 then
          if 0 ≤ ((ffr x2.toNatClampNeg) + x3) ∧ ((ffr x2.toNatClampNeg) + x3) < 136400 then
            if 0 ≤ (x1 + x3) ∧ (x1 + x3) < 136400 then
              tw_MO_finish_h42 fu frs tgr ffr fsz K x1 x2 n (x3 + 1) (upd st (x1 + x3).toNatClampNeg (st ((ffr x2.toNatClampNeg) + x3).toNatClampNeg)) dcs tot frm siz
            else
              none
          else
            none
        else
          none
    else
      none
def tw_MO_finish_h13 (fu : Nat) (frs : Int32) (tgr : Bool) (ffr : Nat → Int32) (fsz : Nat → Int32) (K : Int32 → Int32 → (Nat → Int32) → (Nat → Int32) → (Nat → Int32) → (Nat → Int32) → (Nat → Int32) → Option (Int32 × (Nat → Int32) × (Nat → Int32) × (Nat → Int32) × (Nat → Int32) × (Nat → Int32))) : Nat → Int32 → Int32 → (Nat → Int32) → (Nat → Int32) → (Nat → Int32) → (Nat → Int32) → (Nat → Int32) → Option (Int32 × (Nat → Int32) × (Nat → Int32) × (Nat → Int32) × (Nat → Int32) × (Nat → Int32))
  | 0, x1, x2, st, dcs, tot, frm, siz => none
  | n + 1, x1, x2, st, dcs, tot, frm, siz =>
    if frs ≤ x2 then
      K x1 x2 st dcs tot frm siz
    else
      if 0 ≤ x2 ∧ x2 < 400 then
        if 0 ≤ x2 ∧ x2 < 200 then
          tw_MO_finish_h42 fu frs tgr ffr fsz (fun (x3_10 : Int32) (st_10 : Nat → Int32) (dcs_10 : Nat → Int32) (tot_10 : Nat → Int32) (frm_10 : Nat → Int32) (siz_10 : Nat → Int32) =>
          tw_MO_finish_h13 fu frs tgr ffr fsz K n (x1 + (siz_10 x2.toNatClampNeg)) (x2 + 1) st_10 dcs_10 tot_10 frm_10 siz_10) x1 x2 fu 0 st dcs tot (upd frm x2.toNatClampNeg x1) (upd siz x2.toNatClampNeg (fsz x2.toNatClampNeg))
        else
          none
      else
        none
def tw_MO_finish (fu : Nat) (frs : Int32) (tgr : Bool) (ffr : Nat → Int32) (fsz : Nat → Int32) (st : Nat → Int32) (dcs : Nat → Int32) (tot : Nat → Int32) (frm : Nat → Int32) (siz : Nat → Int32) : Option (Int32 × (Nat → Int32) × (Nat → Int32) × (Nat → Int32) × (Nat → Int32) × (Nat → Int32)) :=
  if (b2i tgr) = 0 then
    tw_MO_finish_h13 fu frs tgr ffr fsz (fun (x1_11 : Int32) (x2_11 : Int32) (st_11 : Nat → Int32) (dcs_11 : Nat → Int32) (tot_11 : Nat → Int32) (frm_11 : Nat → Int32) (siz_11 : Nat → Int32) =>
        some (0, st_11, upd dcs_11 (0 : Int32).toNatClampNeg frs, upd tot_11 (0 : Int32).toNatClampNeg x1_11, frm_11, siz_11)) fu 0 0 st dcs tot frm siz
  else
    some (5, st, dcs, tot, frm, siz)
def tw_MO_valueElement (fu : Nat) (top : Int32) (bgn : Int32) (mst : Int32) (ovr : Bool) (st : Nat → Int32) (p0 : Int32) (p1 : Int32) (p2 : Int32) : Option (Int32 × Int32 × Int32 × Bool × (Nat → Int32)) :=
  ob6 (tw_MO_evaluate fu top bgn mst ovr st p2 p1 124000) (fun r_1 top_1 bgn_1 mst_1 ovr_1 st_1 =>
    if r_1 = 0 then
      some (top, bgn, mst, ovr, st_1)
    else
      ob3 (tw_MO_head fu bgn mst top ovr st_1 r_1 p0) (fun top_3 ovr_3 st_3 =>
        ob3 (tw_MO_copy fu bgn mst top_3 ovr_3 st_3 124000 (top_1 - 124000)) (fun top_4 ovr_4 st_4 =>
          some (top_4, bgn, mst, ovr_4, st_4))))
def tw_MO_project_r70 (fu : Nat) (dcs : Nat → Int32) (frm : Nat → Int32) (K : Int32 → Int32 → Int32 → Int32 → Int32 → Bool → Bool → (Nat → Int32) → (Nat → Int32) → (Nat → Int32) → Option (Int32 × Int32 × Int32 × Int32 × Int32 × Bool × Bool × (Nat → Int32) × (Nat → Int32) × (Nat → Int32))) (x1 : Int32) (x2 : Int32) (x3 : Int32) (x4 : Int32) (x5 : Int32) (frs : Int32) (frt : Int32) (top : Int32) (bgn : Int32) (mst : Int32) (ovr : Bool) (tgr : Bool) (st : Nat → Int32) (ffr : Nat → Int32) (fsz : Nat → Int32) : Option (Int32 × Int32 × Int32 × Int32 × Int32 × Bool × Bool × (Nat → Int32) × (Nat → Int32) × (Nat → Int32)) :=
  if x5 ≤ 0 then
    K frs frt top bgn mst ovr tgr st ffr fsz
  else
    ob3 (tw_MO_element fu bgn mst top ovr st x5) (fun top_17 ovr_17 st_17 =>
      K frs frt top_17 bgn mst ovr_17 tgr st_17 ffr fsz)
def tw_MO_project_r29 (fu : Nat) (dcs : Nat → Int32) (frm : Nat → Int32) (K : Int32 → Int32 → Int32 → Int32 → Int32 → Bool → Bool → (Nat → Int32) → (Nat → Int32) → (Nat → Int32) → Option (Int32 × Int32 × Int32 × Int32 × Int32 × Bool × Bool × (Nat → Int32) × (Nat → Int32) × (Nat → Int32))) (x1 : Int32) (x2 : Int32) (x3 : Int32) (x4 : Int32) (frs : Int32) (frt : Int32) (top : Int32) (bgn : Int32) (mst : Int32) (ovr : Bool) (tgr : Bool) (st : Nat → Int32) (ffr : Nat → Int32) (fsz : Nat → Int32) : Option (Int32 × Int32 × Int32 × Int32 × Int32 × Bool × Bool × (Nat → Int32) × (Nat → Int32) × (Nat → Int32)) :=
  if 0 ≤ x4 ∧ x4 < 136400 then
    if (st x4.toNatClampNeg) = 8 then
      ob1 (tw_MO_valueOf fu st x4) (fun r_9 =>
        if 0 ≤ r_9 ∧ r_9 < 136400 then
          if (st r_9.toNatClampNeg) = 1 then
            if 0 ≤ x2 ∧ x2 < 400 then
              ob1 (tw_MO_sameName fu st (frm x2.toNatClampNeg) x4) (fun r_15 =>
                tw_MO_project_r70 fu dcs frm (fun (frs_18 : Int32) (frt_18 : Int32) (top_18 : Int32) (bgn_18 : Int32) (mst_18 : Int32) (ovr_18 : Bool) (tgr_18 : Bool) (st_18 : Nat → Int32) (ffr_18 : Nat → Int32) (fsz_18 : Nat → Int32) =>
          K frs_18 frt_18 top_18 bgn_18 mst_18 ovr_18 tgr_18 st_18 ffr_18 fsz_18) x1 x2 x3 x4 r_15 frs frt top bgn mst ovr tgr st ffr fsz)
            else
              none
          else
            if 0 ≤ x2 ∧ x2 < 400 then
              ob5 (tw_MO_valueElement fu top bgn mst ovr st x4 (frm x2.toNatClampNeg) x4) (fun top_13 bgn_13 mst_13 ovr_13 st_13 =>
                K frs frt top_13 bgn_13 mst_13 ovr_13 tgr st_13 ffr fsz)
            else
              none
        else
          none)
    else
      if 0 ≤ x2 ∧ x2 < 400 then
        ob5 (tw_MO_valueElement fu top bgn mst ovr st x4 (frm x2.toNatClampNeg) x4) (fun top_8 bgn_8 mst_8 ovr_8 st_8 =>
          K frs frt top_8 bgn_8 mst_8 ovr_8 tgr st_8 ffr fsz)
      else
        none
  else
    none
def tw_MO_project_h24 (fu : Nat) (dcs : Nat → Int32) (frm : Nat → Int32) (K : Int32 → Int32 → Int32 → Int32 → Int32 → Int32 → Bool → Bool → (Nat → Int32) → (Nat → Int32) → (Nat → Int32) → Option (Int32 × Int32 × Int32 × Int32 × Int32 × Bool × Bool × (Nat → Int32) × (Nat → Int32) × (Nat → Int32))) (p0 : Int32) (x2 : Int32) (x3 : Int32) : Nat → Int32 → Int32 → Int32 → Int32 → Int32 → Int32 → Bool → Bool → (Nat → Int32) → (Nat → Int32) → (Nat → Int32) → Option (Int32 × Int32 × Int32 × Int32 × Int32 × Bool × Bool × (Nat → Int32) × (Nat → Int32) × (Nat → Int32))
  | 0, x4, frs, frt, top, bgn, mst, ovr, tgr, st, ffr, fsz => none
  | n + 1, x4, frs, frt, top, bgn, mst, ovr, tgr, st, ffr, fsz =>
    if x4 ≤ 0 then
      K x4 frs frt top bgn mst ovr tgr st ffr fsz
    else
      tw_MO_project_r29 fu dcs frm (fun (frs_19 : Int32) (frt_19 : Int32) (top_19 : Int32) (bgn_19 : Int32) (mst_19 : Int32) (ovr_19 : Bool) (tgr_19 : Bool) (st_19 : Nat → Int32) (ffr_19 : Nat → Int32) (fsz_19 : Nat → Int32) =>
          ob1 (tw_MO_nextOf fu st_19 x4) (fun r_20 =>
            tw_MO_project_h24 fu dcs frm K p0 x2 x3 n r_20 frs_19 frt_19 top_19 bgn_19 mst_19 ovr_19 tgr_19 st_19 ffr_19 fsz_19)) p0 x2 x3 x4 frs frt top bgn mst ovr tgr st ffr fsz
def tw_MO_project_h2 (fu : Nat) (dcs : Nat → Int32) (frm : Nat → Int32) (K : Int32 → Int32 → Int32 → Int32 → Int32 → Int32 → Bool → Bool → (Nat → Int32) → (Nat → Int32) → (Nat → Int32) → Option (Int32 × Int32 × Int32 × Int32 × Int32 × Bool × Bool × (Nat → Int32) × (Nat → Int32) × (Nat → Int32))) (p0 : Int32) : Nat → Int32 → Int32 → Int32 → Int32 → Int32 → Int32 → Bool → Bool → (Nat → Int32) → (Nat → Int32) → (Nat → Int32) → Option (Int32 × Int32 × Int32 × Int32 × Int32 × Bool × Bool × (Nat → Int32) × (Nat → Int32) × (Nat → Int32))
  | 0, x2, frs, frt, top, bgn, mst, ovr, tgr, st, ffr, fsz => none
  | n + 1, x2, frs, frt, top, bgn, mst, ovr, tgr, st, ffr, fsz =>
    if (dcs (0 : Int32).toNatClampNeg) ≤ x2 then
      K x2 frs frt top bgn mst ovr tgr st ffr fsz
    else
      ob6 (tw_MO_beginDocument fu tgr top bgn mst ovr st) (fun r_2 top_2 bgn_2 mst_2 ovr_2 st_2 =>
        ob1 (tw_MO_firstOf fu st_2 p0) (fun r_3 =>
          tw_MO_project_h24 fu dcs frm (fun (x4_21 : Int32) (frs_21 : Int32) (frt_21 : Int32) (top_21 : Int32) (bgn_21 : Int32) (mst_21 : Int32) (ovr_21 : Bool) (tgr_21 : Bool) (st_21 : Nat → Int32) (ffr_21 : Nat → Int32) (fsz_21 : Nat → Int32) =>
          ob8 (tw_MO_endDocument fu bgn_21 mst_21 frs_21 frt_21 top_21 ovr_21 tgr_21 st_21 ffr_21 fsz_21 r_2) (fun frs_22 frt_22 top_22 ovr_22 tgr_22 st_22 ffr_22 fsz_22 =>
            tw_MO_project_h2 fu dcs frm K p0 n (x2 + 1) frs_22 frt_22 top_22 bgn_21 mst_21 ovr_22 tgr_22 st_22 ffr_22 fsz_22)) p0 x2 r_2 fu r_3 frs frt top_2 bgn_2 mst_2 ovr_2 tgr st_2 ffr fsz))
def tw_MO_project (fu : Nat) (dcs : Nat → Int32) (frm : Nat → Int32) (frs : Int32) (frt : Int32) (top : Int32) (bgn : Int32) (mst : Int32) (ovr : Bool) (tgr : Bool) (st : Nat → Int32) (ffr : Nat → Int32) (fsz : Nat → Int32) (p0 : Int32) : Option (Int32 × Int32 × Int32 × Int32 × Int32 × Bool × Bool × (Nat → Int32) × (Nat → Int32) × (Nat → Int32)) :=
  tw_MO_project_h2 fu dcs frm (fun (x2_23 : Int32) (frs_23 : Int32) (frt_23 : Int32) (top_23 : Int32) (bgn_23 : Int32) (mst_23 : Int32) (ovr_23 : Bool) (tgr_23 : Bool) (st_23 : Nat → Int32) (ffr_23 : Nat → Int32) (fsz_23 : Nat → Int32) =>
      some (frs_23, frt_23, top_23, bgn_23, mst_23, ovr_23, tgr_23, st_23, ffr_23, fsz_23)) p0 fu 0 frs frt top bgn mst ovr tgr st ffr fsz
def tw_MO_unwind_r34 (fu : Nat) (dcs : Nat → Int32) (frm : Nat → Int32) (siz : Nat → Int32) (K : Int32 → Int32 → Int32 → Int32 → Int32 → Int32 → Bool → Bool → (Nat → Int32) → (Nat → Int32) → (Nat → Int32) → Option (Int32 × Int32 × Int32 × Int32 × Int32 × Bool × Bool × (Nat → Int32) × (Nat → Int32) × (Nat → Int32))) (x1 : Int32) (x2 : Int32) (x3 : Int32) (x4 : Int32) (x5 : Int32) (frs : Int32) (frt : Int32) (top : Int32) (bgn : Int32) (mst : Int32) (ovr : Bool) (tgr : Bool) (st : Nat → Int32) (ffr : Nat → Int32) (fsz : Nat → Int32) : Option (Int32 × Int32 × Int32 × Int32 × Int32 × Bool × Bool × (Nat → Int32) × (Nat → Int32) × (Nat → Int32)) :=
  if x3 = 3 then
    ob1 (tw_MO_met fu st x4 x5) (fun r_6 =>
      K r_6 frs frt top bgn mst ovr tgr st ffr fsz)
  else
    K 0 frs frt top bgn mst ovr tgr st ffr fsz
def tw_MO_unwind_r70 (fu : Nat) (dcs : Nat → Int32) (frm : Nat → Int32) (siz : Nat → Int32) (K : Int32 → Int32 → Int32 → Int32 → Int32 → Int32 → Bool → Bool → (Nat → Int32) → (Nat → Int32) → (Nat → Int32) → Option (Int32 × Int32 × Int32 × Int32 × Int32 × Bool × Bool × (Nat → Int32) × (Nat → Int32) × (Nat → Int32))) (x1 : Int32) (x2 : Int32) (x3 : Int32) (x5 : Int32) (x6 : Int32) (frs : Int32) (frt : Int32) (top : Int32) (bgn : Int32) (mst : Int32) (ovr : Bool) (tgr : Bool) (st : Nat → Int32) (ffr : Nat → Int32) (fsz : Nat → Int32) : Option (Int32 × Int32 × Int32 × Int32 × Int32 × Bool × Bool × (Nat → Int32) × (Nat → Int32) × (Nat → Int32)) :=
  if x6 ≤ 0 then
    K 0 frs frt top bgn mst ovr tgr st ffr fsz
  else
    ob1 (tw_MO_valueOf fu st x6) (fun r_10 =>
      K r_10 frs frt top bgn mst ovr tgr st ffr fsz)
def tw_MO_unwind_h25 (fu : Nat) (dcs : Nat → Int32) (frm : Nat → Int32) (siz : Nat → Int32) (K : Int32 → Int32 → Int32 → Int32 → Int32 → Int32 → Int32 → Int32 → Bool → Bool → (Nat → Int32) → (Nat → Int32) → (Nat → Int32) → Option (Int32 × Int32 × Int32 × Int32 × Int32 × Bool × Bool × (Nat → Int32) × (Nat → Int32) × (Nat → Int32))) (p0 : Int32) (x2 : Int32) : Nat → Int32 → Int32 → Int32 → Int32 → Int32 → Int32 → Int32 → Int32 → Bool → Bool → (Nat → Int32) → (Nat → Int32) → (Nat → Int32) → Option (Int32 × Int32 × Int32 × Int32 × Int32 × Bool × Bool × (Nat → Int32) × (Nat → Int32) × (Nat → Int32))
  | 0, x3, x4, x5, frs, frt, top, bgn, mst, ovr, tgr, st, ffr, fsz => none
  | n + 1, x3, x4, x5, frs, frt, top, bgn, mst, ovr, tgr, st, ffr, fsz =>
    if x5 ≤ 0 then
      K x3 x4 x5 frs frt top bgn mst ovr tgr st ffr fsz
    else
      if x3 = 0 then
        K x3 x4 x5 frs frt top bgn mst ovr tgr st ffr fsz
      else
        tw_MO_unwind_r34 fu dcs frm siz (fun (y6_7 : Int32) (frs_7 : Int32) (frt_7 : Int32) (top_7 : Int32) (bgn_7 : Int32) (mst_7 : Int32) (ovr_7 : Bool) (tgr_7 : Bool) (st_7 : Nat → Int32) (ffr_7 : Nat → Int32) (fsz_7 : Nat → Int32) =>
            if y6_7 ≤ 0 then
              tw_MO_unwind_r70 fu dcs frm siz (fun (y4_11 : Int32) (frs_11 : Int32) (frt_11 : Int32) (top_11 : Int32) (bgn_11 : Int32) (mst_11 : Int32) (ovr_11 : Bool) (tgr_11 : Bool) (st_11 : Nat → Int32) (ffr_11 : Nat → Int32) (fsz_11 : Nat → Int32) =>
              ob1 (tw_MO_nextStep fu st_11 x5) (fun r_12 =>
                tw_MO_unwind_h25 fu dcs frm siz K p0 x2 n 0 y4_11 r_12 frs_11 frt_11 top_11 bgn_11 mst_11 ovr_11 tgr_11 st_11 ffr_11 fsz_11)) p0 x2 0 x5 y6_7 frs_7 frt_7 top_7 bgn_7 mst_7 ovr_7 tgr_7 st_7 ffr_7 fsz_7
            else
              if 0 ≤ y6_7 ∧ y6_7 < 136400 then
                tw_MO_unwind_r70 fu dcs frm siz (fun (y4_14 : Int32) (frs_14 : Int32) (frt_14 : Int32) (top_14 : Int32) (bgn_14 : Int32) (mst_14 : Int32) (ovr_14 : Bool) (tgr_14 : Bool) (st_14 : Nat → Int32) (ffr_14 : Nat → Int32) (fsz_14 : Nat → Int32) =>
              ob1 (tw_MO_nextStep fu st_14 x5) (fun r_15 =>
                tw_MO_unwind_h25 fu dcs frm siz K p0 x2 n (st_7 y6_7.toNatClampNeg) y4_14 r_15 frs_14 frt_14 top_14 bgn_14 mst_14 ovr_14 tgr_14 st_14 ffr_14 fsz_14)) p0 x2 (st_7 y6_7.toNatClampNeg) x5 y6_7 frs_7 frt_7 top_7 bgn_7 mst_7 ovr_7 tgr_7 st_7 ffr_7 fsz_7
              else
                none) p0 x2 x3 x4 x5 frs frt top bgn mst ovr tgr st ffr fsz
def tw_MO_unwind_h111 (fu : Nat) (dcs : Nat → Int32) (frm : Nat → Int32) (siz : Nat → Int32) (K : Int32 → Int32 → Int32 → Int32 → Int32 → Int32 → Bool → Bool → (Nat → Int32) → (Nat → Int32) → (Nat → Int32) → Option (Int32 × Int32 × Int32 × Int32 × Int32 × Bool × Bool × (Nat → Int32) × (Nat → Int32) × (Nat → Int32))) (x1 : Int32) (x2 : Int32) : Nat → Int32 → Int32 → Int32 → Int32 → Int32 → Int32 → Bool → Bool → (Nat → Int32) → (Nat → Int32) → (Nat → Int32) → Option (Int32 × Int32 × Int32 × Int32 × Int32 × Bool × Bool × (Nat → Int32) × (Nat → Int32) × (Nat → Int32))
  | 0, x6, frs, frt, top, bgn, mst, ovr, tgr, st, ffr, fsz => none
  | n + 1, x6, frs, frt, top, bgn, mst, ovr, tgr, st, ffr, fsz =>
    if x6 ≤ 0 then
      K x6 frs frt top bgn mst ovr tgr st ffr fsz
    else
      ob6 (tw_MO_beginDocument fu tgr top bgn mst ovr st) (fun r_23 top_23 bgn_23 mst_23 ovr_23 st_23 =>
        if 0 ≤ x2 ∧ x2 < 400 then
          if 0 ≤ x6 ∧ x6 < 136400 then
            ob1 (tw_MO_valueOf fu st_23 x6) (fun r_26 =>
              ob3 (tw_MO_thr0 fu bgn_23 mst_23 top_23 ovr_23 st_23 (frm x2.toNatClampNeg) x1 (st_23 x6.toNatClampNeg) r_26) (fun top_27 ovr_27 st_27 =>
                ob8 (tw_MO_endDocument fu bgn_23 mst_23 frs frt top_27 ovr_27 tgr st_27 ffr fsz r_23) (fun frs_28 frt_28 top_28 ovr_28 tgr_28 st_28 ffr_28 fsz_28 =>
                  ob1 (tw_MO_nextOf fu st_28 x6) (fun r_29 =>
                    tw_MO_unwind_h111 fu dcs frm siz K x1 x2 n r_29 frs_28 frt_28 top_28 bgn_23 mst_23 ovr_28 tgr_28 st_28 ffr_28 fsz_28))))
          else
            none
        else
          none)
def tw_MO_unwind_r98 (fu : Nat) (dcs : Nat → Int32) (frm : Nat → Int32) (siz : Nat → Int32) (K : Int32 → Int32 → Int32 → Int32 → Int32 → Bool → Bool → (Nat → Int32) → (Nat → Int32) → (Nat → Int32) → Option (Int32 × Int32 × Int32 × Int32 × Int32 × Bool × Bool × (Nat → Int32) × (Nat → Int32) × (Nat → Int32))) (x1 : Int32) (x2 : Int32) (x3 : Int32) (x4 : Int32) (frs : Int32) (frt : Int32) (top : Int32) (bgn : Int32) (mst : Int32) (ovr : Bool) (tgr : Bool) (st : Nat → Int32) (ffr : Nat → Int32) (fsz : Nat → Int32) : Option (Int32 × Int32 × Int32 × Int32 × Int32 × Bool × Bool × (Nat → Int32) × (Nat → Int32) × (Nat → Int32)) :=
  if x3 = 4 then
    ob1 (tw_MO_firstOf fu st x4) (fun r_21 =>
      tw_MO_unwind_h111 fu dcs frm siz (fun (x6_30 : Int32) (frs_30 : Int32) (frt_30 : Int32) (top_30 : Int32) (bgn_30 : Int32) (mst_30 : Int32) (ovr_30 : Bool) (tgr_30 : Bool) (st_30 : Nat → Int32) (ffr_30 : Nat → Int32) (fsz_30 : Nat → Int32) =>
        K frs_30 frt_30 top_30 bgn_30 mst_30 ovr_30 tgr_30 st_30 ffr_30 fsz_30) x1 x2 fu r_21 frs frt top bgn mst ovr tgr st ffr fsz)
  else
    if x3 = 0 then
      K frs frt top bgn mst ovr tgr st ffr fsz
    else
      if x3 = 10 then
        K frs frt top bgn mst ovr tgr st ffr fsz
      else
        ob10 (tw_MO_keep fu frm siz frs frt top bgn mst ovr tgr st ffr fsz x2) (fun frs_20 frt_20 top_20 bgn_20 mst_20 ovr_20 tgr_20 st_20 ffr_20 fsz_20 =>
          K frs_20 frt_20 top_20 bgn_20 mst_20 ovr_20 tgr_20 st_20 ffr_20 fsz_20)
def tw_MO_unwind_h2 (fu : Nat) (dcs : Nat → Int32) (frm : Nat → Int32) (siz : Nat → Int32) (K : Int32 → Int32 → Int32 → Int32 → Int32 → Int32 → Bool → Bool → (Nat → Int32) → (Nat → Int32) → (Nat → Int32) → Option (Int32 × Int32 × Int32 × Int32 × Int32 × Bool × Bool × (Nat → Int32) × (Nat → Int32) × (Nat → Int32))) (p0 : Int32) : Nat → Int32 → Int32 → Int32 → Int32 → Int32 → Int32 → Bool → Bool → (Nat → Int32) → (Nat → Int32) → (Nat → Int32) → Option (Int32 × Int32 × Int32 × Int32 × Int32 × Bool × Bool × (Nat → Int32) × (Nat → Int32) × (Nat → Int32))
  | 0, x2, frs, frt, top, bgn, mst, ovr, tgr, st, ffr, fsz => none
  | n + 1, x2, frs, frt, top, bgn, mst, ovr, tgr, st, ffr, fsz =>
    if (dcs (0 : Int32).toNatClampNeg) ≤ x2 then
      K x2 frs frt top bgn mst ovr tgr st ffr fsz
    else
      if 0 ≤ x2 ∧ x2 < 400 then
        tw_MO_unwind_h25 fu dcs frm siz (fun (x3_16 : Int32) (x4_16 : Int32) (x5_16 : Int32) (frs_16 : Int32) (frt_16 : Int32) (top_16 : Int32) (bgn_16 : Int32) (mst_16 : Int32) (ovr_16 : Bool) (tgr_16 : Bool) (st_16 : Nat → Int32) (ffr_16 : Nat → Int32) (fsz_16 : Nat → Int32) =>
          tw_MO_unwind_r98 fu dcs frm siz (fun (frs_31 : Int32) (frt_31 : Int32) (top_31 : Int32) (bgn_31 : Int32) (mst_31 : Int32) (ovr_31 : Bool) (tgr_31 : Bool) (st_31 : Nat → Int32) (ffr_31 : Nat → Int32) (fsz_31 : Nat → Int32) =>
          tw_MO_unwind_h2 fu dcs frm siz K p0 n (x2 + 1) frs_31 frt_31 top_31 bgn_31 mst_31 ovr_31 tgr_31 st_31 ffr_31 fsz_31) p0 x2 x3_16 x4_16 frs_16 frt_16 top_16 bgn_16 mst_16 ovr_16 tgr_16 st_16 ffr_16 fsz_16) p0 x2 fu 3 (frm x2.toNatClampNeg) p0 frs frt top bgn mst ovr tgr st ffr fsz
      else
        none
def tw_MO_unwind (fu : Nat) (dcs : Nat → Int32) (frm : Nat → Int32) (siz : Nat → Int32) (frs : Int32) (frt : Int32) (top : Int32) (bgn : Int32) (mst : Int32) (ovr : Bool) (tgr : Bool) (st : Nat → Int32) (ffr : Nat → Int32) (fsz : Nat → Int32) (p0 : Int32) : Option (Int32 × Int32 × Int32 × Int32 × Int32 × Bool × Bool × (Nat → Int32) × (Nat → Int32) × (Nat → Int32)) :=
  tw_MO_unwind_h2 fu dcs frm siz (fun (x2_32 : Int32) (frs_32 : Int32) (frt_32 : Int32) (top_32 : Int32) (bgn_32 : Int32) (mst_32 : Int32) (ovr_32 : Bool) (tgr_32 : Bool) (st_32 : Nat → Int32) (ffr_32 : Nat → Int32) (fsz_32 : Nat → Int32) =>
      some (frs_32, frt_32, top_32, bgn_32, mst_32, ovr_32, tgr_32, st_32, ffr_32, fsz_32)) p0 fu 0 frs frt top bgn mst ovr tgr st ffr fsz
def tw_MO_sum_r30 (fu : Nat) (dfl : Bool) (dcs : Nat → Int32) (frm : Nat → Int32) (grp : Nat → Int32) (K : Int32 → Int32 → Int32 → Int32 → Bool → Int64 → Int64 → (Nat → Int32) → Option (Bool × Int32 × Int32 × Int32 × Bool × Int64 × Int64 × (Nat → Int32))) (x1 : Int32) (x2 : Int32) (x3 : Int32) (x4 : Int32) (x5 : Int32) (top : Int32) (bgn : Int32) (mst : Int32) (ovr : Bool) (hgh : Int64) (loo : Int64) (st : Nat → Int32) : Option (Bool × Int32 × Int32 × Int32 × Bool × Int64 × Int64 × (Nat → Int32)) :=
  if 0 ≤ x5 ∧ x5 < 200 then
    if (grp x5.toNatClampNeg) = x2 then
      if 0 ≤ x5 ∧ x5 < 400 then
        ob6 (tw_MO_evaluate fu top bgn mst ovr st x1 (frm x5.toNatClampNeg) 124000) (fun r_5 top_5 bgn_5 mst_5 ovr_5 st_5 =>
          K r_5 top_5 bgn_5 mst_5 ovr_5 hgh loo st_5)
      else
        none
    else
      K 0 top bgn mst ovr hgh loo st
  else
    none
def tw_MO_sum_h19 (fu : Nat) (dfl : Bool) (dcs : Nat → Int32) (frm : Nat → Int32) (grp : Nat → Int32) (K : Int32 → Int32 → Int32 → Int32 → Bool → Int64 → Int64 → (Nat → Int32) → Option (Bool × Int32 × Int32 × Int32 × Bool × Int64 × Int64 × (Nat → Int32))) (p0 : Int32) (p1 : Int32) (p2 : Int32) (x4 : Int32) : Nat → Int32 → Int32 → Int32 → Int32 → Bool → Int64 → Int64 → (Nat → Int32) → Option (Bool × Int32 × Int32 × Int32 × Bool × Int64 × Int64 × (Nat → Int32))
  | 0, x5, top, bgn, mst, ovr, hgh, loo, st => none
  | n + 1, x5, top, bgn, mst, ovr, hgh, loo, st =>
    if (dcs (0 : Int32).toNatClampNeg) ≤ x5 then
      K x5 top bgn mst ovr hgh loo st
    else
      tw_MO_sum_r30 fu dfl dcs frm grp (fun (y6_6 : Int32) (top_6 : Int32) (bgn_6 : Int32) (mst_6 : Int32) (ovr_6 : Bool) (hgh_6 : Int64) (loo_6 : Int64) (st_6 : Nat → Int32) =>
          if y6_6 = 16 then
            ob1 (tw_MO_number fu st_6 y6_6 124000) (fun r_8 =>
              tw_MO_sum_h19 fu dfl dcs frm grp K p0 p1 p2 x4 n (x5 + 1) top_6 bgn_6 mst_6 ovr_6 (hgh_6 + (r_8 / 1000000000)) (loo_6 + (r_8 - r_8 / 1000000000 * 1000000000)) st_6)
          else
            if y6_6 = 18 then
              ob1 (tw_MO_number fu st_6 y6_6 124000) (fun r_10 =>
                tw_MO_sum_h19 fu dfl dcs frm grp K p0 p1 p2 x4 n (x5 + 1) top_6 bgn_6 mst_6 ovr_6 (hgh_6 + (r_10 / 1000000000)) (loo_6 + (r_10 - r_10 / 1000000000 * 1000000000)) st_6)
            else
              tw_MO_sum_h19 fu dfl dcs frm grp K p0 p1 p2 x4 n (x5 + 1) top_6 bgn_6 mst_6 ovr_6 hgh_6 loo_6 st_6) p0 p1 p2 x4 x5 top bgn mst ovr hgh loo st
def tw_MO_sum_r159 (fu : Nat) (dfl : Bool) (dcs : Nat → Int32) (frm : Nat → Int32) (grp : Nat → Int32) (K : Int32 → Int32 → Int32 → Bool → Int64 → Int64 → (Nat → Int32) → Option (Bool × Int32 × Int32 × Int32 × Bool × Int64 × Int64 × (Nat → Int32))) (top : Int32) (bgn : Int32) (mst : Int32) (ovr : Bool) (hgh : Int64) (loo : Int64) (st : Nat → Int32) : Option (Bool × Int32 × Int32 × Int32 × Bool × Int64 × Int64 × (Nat → Int32)) :=
  if (lg_cmp hgh 0) ≤ 0 then
    if 0 ≤ (lg_cmp hgh 0) then
      K top bgn mst ovr hgh loo st
    else
      if (lg_cmp loo 0) ≤ 0 then
        K top bgn mst ovr hgh loo st
      else
        K top bgn mst ovr (hgh + 1) (loo - 1000000000) st
  else
    if 0 ≤ (lg_cmp loo 0) then
      if 0 ≤ (lg_cmp hgh 0) then
        K top bgn mst ovr hgh loo st
      else
        if (lg_cmp loo 0) ≤ 0 then
          K top bgn mst ovr hgh loo st
        else
          K top bgn mst ovr (hgh + 1) (loo - 1000000000) st
    else
      K top bgn mst ovr (hgh - 1) (loo + 1000000000) st
def tw_MO_sum (fu : Nat) (dfl : Bool) (dcs : Nat → Int32) (frm : Nat → Int32) (grp : Nat → Int32) (top : Int32) (bgn : Int32) (mst : Int32) (ovr : Bool) (hgh : Int64) (loo : Int64) (st : Nat → Int32) (p0 : Int32) (p1 : Int32) (p2 : Int32) : Option (Bool × Int32 × Int32 × Int32 × Bool × Int64 × Int64 × (Nat → Int32)) :=
  tw_MO_sum_h19 fu dfl dcs frm grp (fun (x5_11 : Int32) (top_11 : Int32) (bgn_11 : Int32) (mst_11 : Int32) (ovr_11 : Bool) (hgh_11 : Int64) (loo_11 : Int64) (st_11 : Nat → Int32) =>
      ob4 (tw_MO_resume fu dfl top_11 bgn_11 mst_11 ovr_11 p2 top) (fun top_12 bgn_12 mst_12 ovr_12 =>
        tw_MO_sum_r159 fu dfl dcs frm grp (fun (top_19 : Int32) (bgn_19 : Int32) (mst_19 : Int32) (ovr_19 : Bool) (hgh_19 : Int64) (loo_19 : Int64) (st_19 : Nat → Int32) =>
      if 0 ≤ (lg_cmp hgh_19 9223372036) then
        if (lg_cmp hgh_19 9223372036) = 0 then
          if (lg_cmp loo_19 854775807) ≤ 0 then
            some (true, top_19, bgn_19, mst_19, ovr_19, hgh_19, loo_19, st_19)
          else
            if (lg_cmp hgh_19 (-9223372036)) = 0 then
              if (lg_cmp loo_19 (-854775808)) < 0 then
                some (false, top_19, bgn_19, mst_19, ovr_19, hgh_19, loo_19, st_19)
              else
                some (true, top_19, bgn_19, mst_19, ovr_19, hgh_19, loo_19, st_19)
            else
              some (false, top_19, bgn_19, mst_19, ovr_19, hgh_19, loo_19, st_19)
        else
          if (lg_cmp hgh_19 (-9223372036)) = 0 then
            if (lg_cmp loo_19 (-854775808)) < 0 then
              some (false, top_19, bgn_19, mst_19, ovr_19, hgh_19, loo_19, st_19)
            else
              some (true, top_19, bgn_19, mst_19, ovr_19, hgh_19, loo_19, st_19)
          else
            some (false, top_19, bgn_19, mst_19, ovr_19, hgh_19, loo_19, st_19)
      else
        if 0 < (lg_cmp hgh_19 (-9223372036)) then
          some (true, top_19, bgn_19, mst_19, ovr_19, hgh_19, loo_19, st_19)
        else
          if (lg_cmp hgh_19 9223372036) = 0 then
            if (lg_cmp loo_19 854775807) ≤ 0 then
              some (true, top_19, bgn_19, mst_19, ovr_19, hgh_19, loo_19, st_19)
            else
              if (lg_cmp hgh_19 (-9223372036)) = 0 then
                if (lg_cmp loo_19 (-854775808)) < 0 then
                  some (false, top_19, bgn_19, mst_19, ovr_19, hgh_19, loo_19, st_19)
                else
                  some (true, top_19, bgn_19, mst_19, ovr_19, hgh_19, loo_19, st_19)
              else
                some (false, top_19, bgn_19, mst_19, ovr_19, hgh_19, loo_19, st_19)
          else
            if (lg_cmp hgh_19 (-9223372036)) = 0 then
              if (lg_cmp loo_19 (-854775808)) < 0 then
                some (false, top_19, bgn_19, mst_19, ovr_19, hgh_19, loo_19, st_19)
              else
                some (true, top_19, bgn_19, mst_19, ovr_19, hgh_19, loo_19, st_19)
            else
              some (false, top_19, bgn_19, mst_19, ovr_19, hgh_19, loo_19, st_19)) top_12 bgn_12 mst_12 ovr_12 (hgh_11 + (loo_11 / 1000000000)) (loo_11 - loo_11 / 1000000000 * 1000000000) st_11)) p0 p1 p2 top fu 0 top bgn mst ovr 0 0 st
def tw_MO_pick_r84 (fu : Nat) (dfl : Bool) (dcs : Nat → Int32) (frm : Nat → Int32) (grp : Nat → Int32) (K : Bool → Int32 → Int32 → Int32 → Bool → (Nat → Int32) → Option (Int32 × Int32 × Int32 × Bool × (Nat → Int32))) (x1 : Int32) (x2 : Int32) (x3 : Int32) (x4 : Int32) (x5 : Int32) (x6 : Int32) (x7 : Int32) (x8 : Int32) (x9 : Bool) (x10 : Int32) (x11 : Int32) (x12 : Int32) (top : Int32) (bgn : Int32) (mst : Int32) (ovr : Bool) (st : Nat → Int32) : Option (Int32 × Int32 × Int32 × Bool × (Nat → Int32)) :=
  if x4 ≤ 4 then
    K false top bgn mst ovr st
  else
    K true top bgn mst ovr st
def tw_MO_pick_h183 (fu : Nat) (dfl : Bool) (dcs : Nat → Int32) (frm : Nat → Int32) (grp : Nat → Int32) (K : Int32 → Int32 → Int32 → Int32 → Bool → (Nat → Int32) → Option (Int32 × Int32 × Int32 × Bool × (Nat → Int32))) (x1 : Int32) (x2 : Int32) (x3 : Int32) (x4 : Int32) (x5 : Int32) (x6 : Int32) (x7 : Int32) (x8 : Int32) (x9 : Bool) (x10 : Int32) (x12 : Int32) : Nat → Int32 → Int32 → Int32 → Int32 → Bool → (Nat → Int32) → Option (Int32 × Int32 × Int32 × Bool × (Nat → Int32))
  | 0, x14, top, bgn, mst, ovr, st => none
  | n + 1, x14, top, bgn, mst, ovr, st =>
    if x12 ≤ x14 then
      K x14 top bgn mst ovr st
    else
      if 0 ≤ (124000 + x14) ∧ (124000 + x14) < 136400 then
        if 0 ≤ (128200 + x14) ∧ (128200 + x14) < 136400 then
          tw_MO_pick_h183 fu dfl dcs frm grp K x1 x2 x3 x4 x5 x6 x7 x8 x9 x10 x12 n (x14 + 1) top bgn mst ovr (upd st (128200 + x14).toNatClampNeg (st (124000 + x14).toNatClampNeg))
        else
          none
      else
        none
def tw_MO_pick_r108 (fu : Nat) (dfl : Bool) (dcs : Nat → Int32) (frm : Nat → Int32) (grp : Nat → Int32) (K : Int32 → Int32 → Int32 → Int32 → Bool → (Nat → Int32) → Option (Int32 × Int32 × Int32 × Bool × (Nat → Int32))) (x1 : Int32) (x2 : Int32) (x3 : Int32) (x4 : Int32) (x5 : Int32) (x6 : Int32) (x7 : Int32) (x8 : Int32) (x9 : Bool) (x10 : Int32) (x11 : Int32) (x12 : Int32) (top : Int32) (bgn : Int32) (mst : Int32) (ovr : Bool) (st : Nat → Int32) : Option (Int32 × Int32 × Int32 × Bool × (Nat → Int32)) :=
  if x7 = 0 then
    K 0 top bgn mst ovr st
  else
    ob1 (tw_MO_ord0 fu st x11 124000 x7 128200) (fun r_19 =>
      K r_19 top bgn mst ovr st)
def tw_MO_pick_r29 (fu : Nat) (dfl : Bool) (dcs : Nat → Int32) (frm : Nat → Int32) (grp : Nat → Int32) (K : Int32 → Int32 → Bool → Int32 → Int32 → Int32 → Bool → (Nat → Int32) → Option (Int32 × Int32 × Int32 × Bool × (Nat → Int32))) (x1 : Int32) (x2 : Int32) (x3 : Int32) (x4 : Int32) (x5 : Int32) (x6 : Int32) (x7 : Int32) (x8 : Int32) (x9 : Bool) (x10 : Int32) (top : Int32) (bgn : Int32) (mst : Int32) (ovr : Bool) (st : Nat → Int32) : Option (Int32 × Int32 × Int32 × Bool × (Nat → Int32)) :=
  if 0 ≤ x10 ∧ x10 < 200 then
    if (grp x10.toNatClampNeg) = x3 then
      if x4 = 5 then
        if (b2i x9) = 0 then
          if 0 ≤ x10 ∧ x10 < 400 then
            ob6 (tw_MO_evaluate fu top bgn mst ovr st x2 (frm x10.toNatClampNeg) 124000) (fun r_42 top_42 bgn_42 mst_42 ovr_42 st_42 =>
              tw_MO_pick_r84 fu dfl dcs frm grp (fun (y13_43 : Bool) (top_43 : Int32) (bgn_43 : Int32) (mst_43 : Int32) (ovr_43 : Bool) (st_43 : Nat → Int32) =>
            if 5 ≤ x4 then
              if (b2i y13_43) = 0 then
                K x7 x8 true top_43 bgn_43 mst_43 ovr_43 st_43
              else
                tw_MO_pick_h183 fu dfl dcs frm grp (fun (x14_46 : Int32) (top_46 : Int32) (bgn_46 : Int32) (mst_46 : Int32) (ovr_46 : Bool) (st_46 : Nat → Int32) =>
                K r_42 (top_42 - 124000) true top_46 bgn_46 mst_46 ovr_46 st_46) x1 x2 x3 x4 x5 x6 r_42 (top_42 - 124000) true x10 (top_42 - 124000) fu 0 top_43 bgn_43 mst_43 ovr_43 st_43
            else
              if r_42 = 0 then
                if (b2i y13_43) = 0 then
                  K x7 x8 true top_43 bgn_43 mst_43 ovr_43 st_43
                else
                  tw_MO_pick_h183 fu dfl dcs frm grp (fun (x14_49 : Int32) (top_49 : Int32) (bgn_49 : Int32) (mst_49 : Int32) (ovr_49 : Bool) (st_49 : Nat → Int32) =>
                  K r_42 (top_42 - 124000) true top_49 bgn_49 mst_49 ovr_49 st_49) x1 x2 x3 x4 x5 x6 r_42 (top_42 - 124000) true x10 (top_42 - 124000) fu 0 top_43 bgn_43 mst_43 ovr_43 st_43
              else
                tw_MO_pick_r108 fu dfl dcs frm grp (fun (y14_50 : Int32) (top_50 : Int32) (bgn_50 : Int32) (mst_50 : Int32) (ovr_50 : Bool) (st_50 : Nat → Int32) =>
                if x7 = 0 then
                  tw_MO_pick_h183 fu dfl dcs frm grp (fun (x14_53 : Int32) (top_53 : Int32) (bgn_53 : Int32) (mst_53 : Int32) (ovr_53 : Bool) (st_53 : Nat → Int32) =>
                    K r_42 (top_42 - 124000) true top_53 bgn_53 mst_53 ovr_53 st_53) x1 x2 x3 x4 x5 x6 r_42 (top_42 - 124000) true x10 (top_42 - 124000) fu 0 top_50 bgn_50 mst_50 ovr_50 st_50
                else
                  if x4 = 3 then
                    if y14_50 < 0 then
                      tw_MO_pick_h183 fu dfl dcs frm grp (fun (x14_63 : Int32) (top_63 : Int32) (bgn_63 : Int32) (mst_63 : Int32) (ovr_63 : Bool) (st_63 : Nat → Int32) =>
                        K r_42 (top_42 - 124000) true top_63 bgn_63 mst_63 ovr_63 st_63) x1 x2 x3 x4 x5 x6 r_42 (top_42 - 124000) true x10 (top_42 - 124000) fu 0 top_50 bgn_50 mst_50 ovr_50 st_50
                    else
                      if x4 = 4 then
                        if y14_50 ≤ 0 then
                          K x7 x8 true top_50 bgn_50 mst_50 ovr_50 st_50
                        else
                          tw_MO_pick_h183 fu dfl dcs frm grp (fun (x14_69 : Int32) (top_69 : Int32) (bgn_69 : Int32) (mst_69 : Int32) (ovr_69 : Bool) (st_69 : Nat → Int32) =>
                            K r_42 (top_42 - 124000) true top_69 bgn_69 mst_69 ovr_69 st_69) x1 x2 x3 x4 x5 x6 r_42 (top_42 - 124000) true x10 (top_42 - 124000) fu 0 top_50 bgn_50 mst_50 ovr_50 st_50
                      else
                        K x7 x8 true top_50 bgn_50 mst_50 ovr_50 st_50
                  else
                    if x4 = 4 then
                      if y14_50 ≤ 0 then
                        K x7 x8 true top_50 bgn_50 mst_50 ovr_50 st_50
                      else
                        tw_MO_pick_h183 fu dfl dcs frm grp (fun (x14_60 : Int32) (top_60 : Int32) (bgn_60 : Int32) (mst_60 : Int32) (ovr_60 : Bool) (st_60 : Nat → Int32) =>
                          K r_42 (top_42 - 124000) true top_60 bgn_60 mst_60 ovr_60 st_60) x1 x2 x3 x4 x5 x6 r_42 (top_42 - 124000) true x10 (top_42 - 124000) fu 0 top_50 bgn_50 mst_50 ovr_50 st_50
                    else
                      K x7 x8 true top_50 bgn_50 mst_50 ovr_50 st_50) x1 x2 x3 x4 x5 x6 x7 x8 true x10 r_42 (top_42 - 124000) top_43 bgn_43 mst_43 ovr_43 st_43) x1 x2 x3 x4 x5 x6 x7 x8 true x10 r_42 (top_42 - 124000) top_42 bgn_42 mst_42 ovr_42 st_42)
          else
            none
        else
          K x7 x8 x9 top bgn mst ovr st
      else
        if 0 ≤ x10 ∧ x10 < 400 then
          ob6 (tw_MO_evaluate fu top bgn mst ovr st x2 (frm x10.toNatClampNeg) 124000) (fun r_6 top_6 bgn_6 mst_6 ovr_6 st_6 =>
            tw_MO_pick_r84 fu dfl dcs frm grp (fun (y13_8 : Bool) (top_8 : Int32) (bgn_8 : Int32) (mst_8 : Int32) (ovr_8 : Bool) (st_8 : Nat → Int32) =>
          if 5 ≤ x4 then
            if (b2i y13_8) = 0 then
              K x7 x8 true top_8 bgn_8 mst_8 ovr_8 st_8
            else
              tw_MO_pick_h183 fu dfl dcs frm grp (fun (x14_14 : Int32) (top_14 : Int32) (bgn_14 : Int32) (mst_14 : Int32) (ovr_14 : Bool) (st_14 : Nat → Int32) =>
              K r_6 (top_6 - 124000) true top_14 bgn_14 mst_14 ovr_14 st_14) x1 x2 x3 x4 x5 x6 r_6 (top_6 - 124000) true x10 (top_6 - 124000) fu 0 top_8 bgn_8 mst_8 ovr_8 st_8
          else
            if r_6 = 0 then
              if (b2i y13_8) = 0 then
                K x7 x8 true top_8 bgn_8 mst_8 ovr_8 st_8
              else
                tw_MO_pick_h183 fu dfl dcs frm grp (fun (x14_17 : Int32) (top_17 : Int32) (bgn_17 : Int32) (mst_17 : Int32) (ovr_17 : Bool) (st_17 : Nat → Int32) =>
                K r_6 (top_6 - 124000) true top_17 bgn_17 mst_17 ovr_17 st_17) x1 x2 x3 x4 x5 x6 r_6 (top_6 - 124000) true x10 (top_6 - 124000) fu 0 top_8 bgn_8 mst_8 ovr_8 st_8
            else
              tw_MO_pick_r108 fu dfl dcs frm grp (fun (y14_20 : Int32) (top_20 : Int32) (bgn_20 : Int32) (mst_20 : Int32) (ovr_20 : Bool) (st_20 : Nat → Int32) =>
              if x7 = 0 then
                tw_MO_pick_h183 fu dfl dcs frm grp (fun (x14_23 : Int32) (top_23 : Int32) (bgn_23 : Int32) (mst_23 : Int32) (ovr_23 : Bool) (st_23 : Nat → Int32) =>
                  K r_6 (top_6 - 124000) true top_23 bgn_23 mst_23 ovr_23 st_23) x1 x2 x3 x4 x5 x6 r_6 (top_6 - 124000) true x10 (top_6 - 124000) fu 0 top_20 bgn_20 mst_20 ovr_20 st_20
              else
                if x4 = 3 then
                  if y14_20 < 0 then
                    tw_MO_pick_h183 fu dfl dcs frm grp (fun (x14_33 : Int32) (top_33 : Int32) (bgn_33 : Int32) (mst_33 : Int32) (ovr_33 : Bool) (st_33 : Nat → Int32) =>
                      K r_6 (top_6 - 124000) true top_33 bgn_33 mst_33 ovr_33 st_33) x1 x2 x3 x4 x5 x6 r_6 (top_6 - 124000) true x10 (top_6 - 124000) fu 0 top_20 bgn_20 mst_20 ovr_20 st_20
                  else
                    if x4 = 4 then
                      if y14_20 ≤ 0 then
                        K x7 x8 true top_20 bgn_20 mst_20 ovr_20 st_20
                      else
                        tw_MO_pick_h183 fu dfl dcs frm grp (fun (x14_39 : Int32) (top_39 : Int32) (bgn_39 : Int32) (mst_39 : Int32) (ovr_39 : Bool) (st_39 : Nat → Int32) =>
                          K r_6 (top_6 - 124000) true top_39 bgn_39 mst_39 ovr_39 st_39) x1 x2 x3 x4 x5 x6 r_6 (top_6 - 124000) true x10 (top_6 - 124000) fu 0 top_20 bgn_20 mst_20 ovr_20 st_20
                    else
                      K x7 x8 true top_20 bgn_20 mst_20 ovr_20 st_20
                else
                  if x4 = 4 then
                    if y14_20 ≤ 0 then
                      K x7 x8 true top_20 bgn_20 mst_20 ovr_20 st_20
                    else
                      tw_MO_pick_h183 fu dfl dcs frm grp (fun (x14_30 : Int32) (top_30 : Int32) (bgn_30 : Int32) (mst_30 : Int32) (ovr_30 : Bool) (st_30 : Nat → Int32) =>
                        K r_6 (top_6 - 124000) true top_30 bgn_30 mst_30 ovr_30 st_30) x1 x2 x3 x4 x5 x6 r_6 (top_6 - 124000) true x10 (top_6 - 124000) fu 0 top_20 bgn_20 mst_20 ovr_20 st_20
                  else
                    K x7 x8 true top_20 bgn_20 mst_20 ovr_20 st_20) x1 x2 x3 x4 x5 x6 x7 x8 true x10 r_6 (top_6 - 124000) top_8 bgn_8 mst_8 ovr_8 st_8) x1 x2 x3 x4 x5 x6 x7 x8 true x10 r_6 (top_6 - 124000) top_6 bgn_6 mst_6 ovr_6 st_6)
        else
          none
    else
      K x7 x8 x9 top bgn mst ovr st
  else
    none
def tw_MO_pick_h18 (fu : Nat) (dfl : Bool) (dcs : Nat → Int32) (frm : Nat → Int32) (grp : Nat → Int32) (K : Int32 → Int32 → Bool → Int32 → Int32 → Int32 → Int32 → Bool → (Nat → Int32) → Option (Int32 × Int32 × Int32 × Bool × (Nat → Int32))) (p0 : Int32) (p1 : Int32) (p2 : Int32) (p3 : Int32) (p4 : Int32) (x6 : Int32) : Nat → Int32 → Int32 → Bool → Int32 → Int32 → Int32 → Int32 → Bool → (Nat → Int32) → Option (Int32 × Int32 × Int32 × Bool × (Nat → Int32))
  | 0, x7, x8, x9, x10, top, bgn, mst, ovr, st => none
  | n + 1, x7, x8, x9, x10, top, bgn, mst, ovr, st =>
    if (dcs (0 : Int32).toNatClampNeg) ≤ x10 then
      K x7 x8 x9 x10 top bgn mst ovr st
    else
      tw_MO_pick_r29 fu dfl dcs frm grp (fun (y7_70 : Int32) (y8_70 : Int32) (y9_70 : Bool) (top_70 : Int32) (bgn_70 : Int32) (mst_70 : Int32) (ovr_70 : Bool) (st_70 : Nat → Int32) =>
          tw_MO_pick_h18 fu dfl dcs frm grp K p0 p1 p2 p3 p4 x6 n y7_70 y8_70 y9_70 (x10 + 1) top_70 bgn_70 mst_70 ovr_70 st_70) p0 p1 p2 p3 p4 x6 x7 x8 x9 x10 top bgn mst ovr st
def tw_MO_pick_r249 (fu : Nat) (dfl : Bool) (dcs : Nat → Int32) (frm : Nat → Int32) (grp : Nat → Int32) (K : Int32 → Int32 → Int32 → Bool → (Nat → Int32) → Option (Int32 × Int32 × Int32 × Bool × (Nat → Int32))) (x7 : Int32) (x8 : Int32) (top : Int32) (bgn : Int32) (mst : Int32) (ovr : Bool) (st : Nat → Int32) : Option (Int32 × Int32 × Int32 × Bool × (Nat → Int32)) :=
  if x7 = 0 then
    K top bgn mst ovr st
  else
    ob3 (tw_MO_copy fu bgn mst top ovr st 128200 x8) (fun top_76 ovr_76 st_76 =>
      K top_76 bgn mst ovr_76 st_76)
def tw_MO_pick (fu : Nat) (dfl : Bool) (dcs : Nat → Int32) (frm : Nat → Int32) (grp : Nat → Int32) (top : Int32) (bgn : Int32) (mst : Int32) (ovr : Bool) (st : Nat → Int32) (p0 : Int32) (p1 : Int32) (p2 : Int32) (p3 : Int32) (p4 : Int32) : Option (Int32 × Int32 × Int32 × Bool × (Nat → Int32)) :=
  tw_MO_pick_h18 fu dfl dcs frm grp (fun (x7_71 : Int32) (x8_71 : Int32) (x9_71 : Bool) (x10_71 : Int32) (top_71 : Int32) (bgn_71 : Int32) (mst_71 : Int32) (ovr_71 : Bool) (st_71 : Nat → Int32) =>
      ob4 (tw_MO_resume fu dfl top_71 bgn_71 mst_71 ovr_71 p4 top) (fun top_72 bgn_72 mst_72 ovr_72 =>
        if x7_71 = 0 then
          ob3 (tw_MO_head fu bgn_72 mst_72 top_72 ovr_72 st_71 10 p0) (fun top_78 ovr_78 st_78 =>
            tw_MO_pick_r249 fu dfl dcs frm grp (fun (top_79 : Int32) (bgn_79 : Int32) (mst_79 : Int32) (ovr_79 : Bool) (st_79 : Nat → Int32) =>
        some (top_79, bgn_79, mst_79, ovr_79, st_79)) x7_71 x8_71 top_78 bgn_72 mst_72 ovr_78 st_78)
        else
          ob3 (tw_MO_head fu bgn_72 mst_72 top_72 ovr_72 st_71 x7_71 p0) (fun top_74 ovr_74 st_74 =>
            tw_MO_pick_r249 fu dfl dcs frm grp (fun (top_77 : Int32) (bgn_77 : Int32) (mst_77 : Int32) (ovr_77 : Bool) (st_77 : Nat → Int32) =>
        some (top_77, bgn_77, mst_77, ovr_77, st_77)) x7_71 x8_71 top_74 bgn_72 mst_72 ovr_74 st_74))) p0 p1 p2 p3 p4 top fu 0 0 false 0 top bgn mst ovr st
def tw_MO_rowOf_r94 (fu : Nat) (dcs : Nat → Int32) (frm : Nat → Int32) (grp : Nat → Int32) (K : Bool → Int32 → Int32 → Int32 → Bool → Int32 → Bool → (Nat → Int32) → (Nat → Int32) → (Nat → Int32) → Option (Int32 × Int32 × Int32 × Bool × Int32 × Bool × (Nat → Int32) × (Nat → Int32) × (Nat → Int32))) (x2 : Int32) (x3 : Int32) (x4 : Int32) (x5 : Int32) (x6 : Int32) (x7 : Int32) (x9 : Int32) (x10 : Int32) (top : Int32) (bgn : Int32) (mst : Int32) (ovr : Bool) (its : Int32) (dfl : Bool) (st : Nat → Int32) (ikd : Nat → Int32) (iat : Nat → Int32) : Option (Int32 × Int32 × Int32 × Bool × Int32 × Bool × (Nat → Int32) × (Nat → Int32) × (Nat → Int32)) :=
  if x9 = 0 then
    K false top bgn mst ovr its dfl st ikd iat
  else
    K true top bgn mst ovr its dfl st ikd iat
def tw_MO_rowOf_r128 (fu : Nat) (dcs : Nat → Int32) (frm : Nat → Int32) (grp : Nat → Int32) (K : Bool → Int32 → Int32 → Int32 → Bool → Int32 → Bool → (Nat → Int32) → (Nat → Int32) → (Nat → Int32) → Option (Int32 × Int32 × Int32 × Bool × Int32 × Bool × (Nat → Int32) × (Nat → Int32) × (Nat → Int32))) (x2 : Int32) (x3 : Int32) (x4 : Int32) (x5 : Int32) (x6 : Int32) (x7 : Int32) (x9 : Int32) (x10 : Int32) (x12 : Int32) (top : Int32) (bgn : Int32) (mst : Int32) (ovr : Bool) (its : Int32) (dfl : Bool) (st : Nat → Int32) (ikd : Nat → Int32) (iat : Nat → Int32) : Option (Int32 × Int32 × Int32 × Bool × Int32 × Bool × (Nat → Int32) × (Nat → Int32) × (Nat → Int32)) :=
  if 0 ≤ x12 ∧ x12 < 2000 then
    ob1 (tw_MO_ord0 fu st x9 124000 (ikd x12.toNatClampNeg) (iat x12.toNatClampNeg)) (fun r_15 =>
      if r_15 = 0 then
        K false top bgn mst ovr its dfl st ikd iat
      else
        K true top bgn mst ovr its dfl st ikd iat)
  else
    none
def tw_MO_rowOf_h109 (fu : Nat) (dcs : Nat → Int32) (frm : Nat → Int32) (grp : Nat → Int32) (K : Bool → Int32 → Int32 → Int32 → Int32 → Bool → Int32 → Bool → (Nat → Int32) → (Nat → Int32) → (Nat → Int32) → Option (Int32 × Int32 × Int32 × Bool × Int32 × Bool × (Nat → Int32) × (Nat → Int32) × (Nat → Int32))) (x2 : Int32) (x3 : Int32) (x4 : Int32) (x5 : Int32) (x6 : Int32) (x7 : Int32) (x9 : Int32) (x10 : Int32) : Nat → Bool → Int32 → Int32 → Int32 → Int32 → Bool → Int32 → Bool → (Nat → Int32) → (Nat → Int32) → (Nat → Int32) → Option (Int32 × Int32 × Int32 × Bool × Int32 × Bool × (Nat → Int32) × (Nat → Int32) × (Nat → Int32))
  | 0, x11, x12, top, bgn, mst, ovr, its, dfl, st, ikd, iat => none
  | n + 1, x11, x12, top, bgn, mst, ovr, its, dfl, st, ikd, iat =>
    if its ≤ x12 then
      K x11 x12 top bgn mst ovr its dfl st ikd iat
    else
      if x4 = 0 then
        K x11 x12 top bgn mst ovr its dfl st ikd iat
      else
        if (b2i x11) = 0 then
          K x11 x12 top bgn mst ovr its dfl st ikd iat
        else
          tw_MO_rowOf_r128 fu dcs frm grp (fun (y11_17 : Bool) (top_17 : Int32) (bgn_17 : Int32) (mst_17 : Int32) (ovr_17 : Bool) (its_17 : Int32) (dfl_17 : Bool) (st_17 : Nat → Int32) (ikd_17 : Nat → Int32) (iat_17 : Nat → Int32) =>
              tw_MO_rowOf_h109 fu dcs frm grp K x2 x3 x4 x5 x6 x7 x9 x10 n y11_17 (x12 + 1) top_17 bgn_17 mst_17 ovr_17 its_17 dfl_17 st_17 ikd_17 iat_17) x2 x3 x4 x5 x6 x7 x9 x10 x12 top bgn mst ovr its dfl st ikd iat
def tw_MO_rowOf_r31 (fu : Nat) (dcs : Nat → Int32) (frm : Nat → Int32) (grp : Nat → Int32) (K : Int32 → Int32 → Int32 → Bool → Int32 → Bool → (Nat → Int32) → (Nat → Int32) → (Nat → Int32) → Option (Int32 × Int32 × Int32 × Bool × Int32 × Bool × (Nat → Int32) × (Nat → Int32) × (Nat → Int32))) (x2 : Int32) (x3 : Int32) (x4 : Int32) (x5 : Int32) (x6 : Int32) (x7 : Int32) (top : Int32) (bgn : Int32) (mst : Int32) (ovr : Bool) (its : Int32) (dfl : Bool) (st : Nat → Int32) (ikd : Nat → Int32) (iat : Nat → Int32) : Option (Int32 × Int32 × Int32 × Bool × Int32 × Bool × (Nat → Int32) × (Nat → Int32) × (Nat → Int32)) :=
  if 0 ≤ x7 ∧ x7 < 200 then
    if (grp x7.toNatClampNeg) = x3 then
      if 0 ≤ x7 ∧ x7 < 400 then
        ob6 (tw_MO_evaluate fu top bgn mst ovr st x2 (frm x7.toNatClampNeg) 124000) (fun r_7 top_7 bgn_7 mst_7 ovr_7 st_7 =>
          ob4 (tw_MO_resume fu ovr top_7 bgn_7 mst_7 ovr_7 x5 top) (fun top_8 bgn_8 mst_8 ovr_8 =>
            tw_MO_rowOf_r94 fu dcs frm grp (fun (y11_10 : Bool) (top_10 : Int32) (bgn_10 : Int32) (mst_10 : Int32) (ovr_10 : Bool) (its_10 : Int32) (dfl_10 : Bool) (st_10 : Nat → Int32) (ikd_10 : Nat → Int32) (iat_10 : Nat → Int32) =>
        tw_MO_rowOf_h109 fu dcs frm grp (fun (x11_18 : Bool) (x12_18 : Int32) (top_18 : Int32) (bgn_18 : Int32) (mst_18 : Int32) (ovr_18 : Bool) (its_18 : Int32) (dfl_18 : Bool) (st_18 : Nat → Int32) (ikd_18 : Nat → Int32) (iat_18 : Nat → Int32) =>
        if (b2i x11_18) = 0 then
          K top_18 bgn_18 mst_18 ovr_18 its_18 dfl_18 st_18 ikd_18 iat_18
        else
          ob3 (tw_MO_write fu bgn_18 mst_18 top_18 ovr_18 st_18 r_7) (fun top_20 ovr_20 st_20 =>
            ob3 (tw_MO_putDigits fu bgn_18 mst_18 top_20 ovr_20 st_20 its_18) (fun top_21 ovr_21 st_21 =>
              ob3 (tw_MO_copy fu bgn_18 mst_18 top_21 ovr_21 st_21 124000 (top_7 - 124000)) (fun top_22 ovr_22 st_22 =>
                if (b2i ovr_22) = 0 then
                  if 0 ≤ its_18 ∧ its_18 < 2000 then
                    K top_22 bgn_18 mst_18 ovr_22 (its_18 + 1) dfl_18 st_22 (upd ikd_18 its_18.toNatClampNeg r_7) (upd iat_18 its_18.toNatClampNeg top_21)
                  else
                    none
                else
                  K top_22 bgn_18 mst_18 ovr_22 its_18 dfl_18 st_22 ikd_18 iat_18)))) x2 x3 x4 x5 x6 x7 r_7 (top_7 - 124000) fu y11_10 0 top_10 bgn_10 mst_10 ovr_10 its_10 dfl_10 st_10 ikd_10 iat_10) x2 x3 x4 x5 x6 x7 r_7 (top_7 - 124000) top_8 bgn_8 mst_8 ovr_8 its ovr st_7 ikd iat))
      else
        none
    else
      K top bgn mst ovr its dfl st ikd iat
  else
    none
def tw_MO_rowOf_h20 (fu : Nat) (dcs : Nat → Int32) (frm : Nat → Int32) (grp : Nat → Int32) (K : Int32 → Int32 → Int32 → Int32 → Bool → Int32 → Bool → (Nat → Int32) → (Nat → Int32) → (Nat → Int32) → Option (Int32 × Int32 × Int32 × Bool × Int32 × Bool × (Nat → Int32) × (Nat → Int32) × (Nat → Int32))) (p1 : Int32) (p2 : Int32) (p3 : Int32) (p4 : Int32) (x6 : Int32) : Nat → Int32 → Int32 → Int32 → Int32 → Bool → Int32 → Bool → (Nat → Int32) → (Nat → Int32) → (Nat → Int32) → Option (Int32 × Int32 × Int32 × Bool × Int32 × Bool × (Nat → Int32) × (Nat → Int32) × (Nat → Int32))
  | 0, x7, top, bgn, mst, ovr, its, dfl, st, ikd, iat => none
  | n + 1, x7, top, bgn, mst, ovr, its, dfl, st, ikd, iat =>
    if (dcs (0 : Int32).toNatClampNeg) ≤ x7 then
      K x7 top bgn mst ovr its dfl st ikd iat
    else
      tw_MO_rowOf_r31 fu dcs frm grp (fun (top_25 : Int32) (bgn_25 : Int32) (mst_25 : Int32) (ovr_25 : Bool) (its_25 : Int32) (dfl_25 : Bool) (st_25 : Nat → Int32) (ikd_25 : Nat → Int32) (iat_25 : Nat → Int32) =>
          tw_MO_rowOf_h20 fu dcs frm grp K p1 p2 p3 p4 x6 n (x7 + 1) top_25 bgn_25 mst_25 ovr_25 its_25 dfl_25 st_25 ikd_25 iat_25) p1 p2 p3 p4 x6 x7 top bgn mst ovr its dfl st ikd iat
def tw_MO_rowOf (fu : Nat) (dcs : Nat → Int32) (frm : Nat → Int32) (grp : Nat → Int32) (top : Int32) (bgn : Int32) (mst : Int32) (ovr : Bool) (its : Int32) (dfl : Bool) (st : Nat → Int32) (ikd : Nat → Int32) (iat : Nat → Int32) (p0 : Int32) (p1 : Int32) (p2 : Int32) (p3 : Int32) (p4 : Int32) : Option (Int32 × Int32 × Int32 × Bool × Int32 × Bool × (Nat → Int32) × (Nat → Int32) × (Nat → Int32)) :=
  ob3 (tw_MO_head fu bgn mst top ovr st 4 p0) (fun top_1 ovr_1 st_1 =>
    ob4 (tw_MO_open fu bgn mst top_1 ovr_1 st_1) (fun r_2 top_2 ovr_2 st_2 =>
      tw_MO_rowOf_h20 fu dcs frm grp (fun (x7_26 : Int32) (top_26 : Int32) (bgn_26 : Int32) (mst_26 : Int32) (ovr_26 : Bool) (its_26 : Int32) (dfl_26 : Bool) (st_26 : Nat → Int32) (ikd_26 : Nat → Int32) (iat_26 : Nat → Int32) =>
      ob3 (tw_MO_close fu bgn_26 mst_26 top_26 ovr_26 st_26 r_2) (fun top_27 ovr_27 st_27 =>
        some (top_27, bgn_26, mst_26, ovr_27, its_26, dfl_26, st_27, ikd_26, iat_26))) p1 p2 p3 p4 r_2 fu 0 top_2 bgn mst ovr_2 0 dfl st_2 ikd iat))
def tw_MO_gather_h54 (fu : Nat) (dcs : Nat → Int32) (frm : Nat → Int32) (grp : Nat → Int32) (K : Int64 → Int32 → Int32 → Int32 → Int32 → Bool → Int32 → Int64 → Int64 → Bool → (Nat → Int32) → (Nat → Int32) → (Nat → Int32) → Option (Bool × Int32 × Int32 × Int32 × Bool × Int32 × Int64 × Int64 × Bool × (Nat → Int32) × (Nat → Int32) × (Nat → Int32))) (x1 : Int32) (x2 : Int32) (x6 : Bool) : Nat → Int64 → Int32 → Int32 → Int32 → Int32 → Bool → Int32 → Int64 → Int64 → Bool → (Nat → Int32) → (Nat → Int32) → (Nat → Int32) → Option (Bool × Int32 × Int32 × Int32 × Bool × Int32 × Int64 × Int64 × Bool × (Nat → Int32) × (Nat → Int32) × (Nat → Int32))
  | 0, x7, x9, top, bgn, mst, ovr, its, hgh, loo, dfl, st, ikd, iat => none
  | n + 1, x7, x9, top, bgn, mst, ovr, its, hgh, loo, dfl, st, ikd, iat =>
    if (dcs (0 : Int32).toNatClampNeg) ≤ x9 then
      K x7 x9 top bgn mst ovr its hgh loo dfl st ikd iat
    else
      if 0 ≤ x9 ∧ x9 < 200 then
        if (grp x9.toNatClampNeg) = x2 then
          tw_MO_gather_h54 fu dcs frm grp K x1 x2 x6 n (x7 + 1) (x9 + 1) top bgn mst ovr its hgh loo dfl st ikd iat
        else
          tw_MO_gather_h54 fu dcs frm grp K x1 x2 x6 n (x7 + 0) (x9 + 1) top bgn mst ovr its hgh loo dfl st ikd iat
      else
        none
def tw_MO_gather_r45 (fu : Nat) (dcs : Nat → Int32) (frm : Nat → Int32) (grp : Nat → Int32) (K : Bool → Int64 → Int32 → Int32 → Int32 → Bool → Int32 → Int64 → Int64 → Bool → (Nat → Int32) → (Nat → Int32) → (Nat → Int32) → Option (Bool × Int32 × Int32 × Int32 × Bool × Int32 × Int64 × Int64 × Bool × (Nat → Int32) × (Nat → Int32) × (Nat → Int32))) (x1 : Int32) (x2 : Int32) (x3 : Int32) (x4 : Int32) (x5 : Int32) (x6 : Bool) (x7 : Int64) (top : Int32) (bgn : Int32) (mst : Int32) (ovr : Bool) (its : Int32) (hgh : Int64) (loo : Int64) (dfl : Bool) (st : Nat → Int32) (ikd : Nat → Int32) (iat : Nat → Int32) : Option (Bool × Int32 × Int32 × Int32 × Bool × Int32 × Int64 × Int64 × Bool × (Nat → Int32) × (Nat → Int32) × (Nat → Int32)) :=
  if x5 = 1 then
    tw_MO_gather_h54 fu dcs frm grp (fun (x7_10 : Int64) (x9_10 : Int32) (top_10 : Int32) (bgn_10 : Int32) (mst_10 : Int32) (ovr_10 : Bool) (its_10 : Int32) (hgh_10 : Int64) (loo_10 : Int64) (dfl_10 : Bool) (st_10 : Nat → Int32) (ikd_10 : Nat → Int32) (iat_10 : Nat → Int32) =>
        K x6 x7_10 top_10 bgn_10 mst_10 ovr_10 its_10 hgh_10 loo_10 dfl_10 st_10 ikd_10 iat_10) x1 x2 x6 fu x7 0 top bgn mst ovr its hgh loo dfl st ikd iat
  else
    ob8 (tw_MO_sum fu dfl dcs frm grp top bgn mst ovr hgh loo st x4 x2 x3) (fun r_6 top_6 bgn_6 mst_6 ovr_6 hgh_6 loo_6 st_6 =>
      K r_6 ((hgh_6 * 1000000000) + loo_6) top_6 bgn_6 mst_6 ovr_6 its hgh_6 loo_6 dfl st_6 ikd iat)
def tw_MO_gather_r138 (fu : Nat) (dcs : Nat → Int32) (frm : Nat → Int32) (grp : Nat → Int32) (K : Int32 → Int32 → Int32 → Bool → Int32 → Int64 → Int64 → Bool → (Nat → Int32) → (Nat → Int32) → (Nat → Int32) → Option (Bool × Int32 × Int32 × Int32 × Bool × Int32 × Int64 × Int64 × Bool × (Nat → Int32) × (Nat → Int32) × (Nat → Int32))) (x1 : Int32) (x2 : Int32) (x3 : Int32) (x4 : Int32) (x5 : Int32) (top : Int32) (bgn : Int32) (mst : Int32) (ovr : Bool) (its : Int32) (hgh : Int64) (loo : Int64) (dfl : Bool) (st : Nat → Int32) (ikd : Nat → Int32) (iat : Nat → Int32) : Option (Bool × Int32 × Int32 × Int32 × Bool × Int32 × Int64 × Int64 × Bool × (Nat → Int32) × (Nat → Int32) × (Nat → Int32)) :=
  if 7 ≤ x5 then
    if x5 = 8 then
      ob9 (tw_MO_rowOf fu dcs frm grp top bgn mst ovr its dfl st ikd iat x1 x4 x2 1 x3) (fun top_18 bgn_18 mst_18 ovr_18 its_18 dfl_18 st_18 ikd_18 iat_18 =>
        K top_18 bgn_18 mst_18 ovr_18 its_18 hgh loo dfl_18 st_18 ikd_18 iat_18)
    else
      ob9 (tw_MO_rowOf fu dcs frm grp top bgn mst ovr its dfl st ikd iat x1 x4 x2 0 x3) (fun top_17 bgn_17 mst_17 ovr_17 its_17 dfl_17 st_17 ikd_17 iat_17 =>
        K top_17 bgn_17 mst_17 ovr_17 its_17 hgh loo dfl_17 st_17 ikd_17 iat_17)
  else
    ob5 (tw_MO_pick fu dfl dcs frm grp top bgn mst ovr st x1 x4 x2 x5 x3) (fun top_19 bgn_19 mst_19 ovr_19 st_19 =>
      K top_19 bgn_19 mst_19 ovr_19 its hgh loo dfl st_19 ikd iat)
def tw_MO_gather (fu : Nat) (dcs : Nat → Int32) (frm : Nat → Int32) (grp : Nat → Int32) (top : Int32) (bgn : Int32) (mst : Int32) (ovr : Bool) (its : Int32) (hgh : Int64) (loo : Int64) (dfl : Bool) (st : Nat → Int32) (ikd : Nat → Int32) (iat : Nat → Int32) (p0 : Int32) (p1 : Int32) (p2 : Int32) : Option (Bool × Int32 × Int32 × Int32 × Bool × Int32 × Int64 × Int64 × Bool × (Nat → Int32) × (Nat → Int32) × (Nat → Int32)) :=
  ob1 (tw_MO_valueOf fu st p0) (fun r_1 =>
    ob1 (tw_MO_firstOf fu st r_1) (fun r_2 =>
      ob1 (tw_MO_gatherOf fu st r_2) (fun r_3 =>
        if r_3 = 1 then
          tw_MO_gather_r45 fu dcs frm grp (fun (y6_11 : Bool) (y7_11 : Int64) (top_11 : Int32) (bgn_11 : Int32) (mst_11 : Int32) (ovr_11 : Bool) (its_11 : Int32) (hgh_11 : Int64) (loo_11 : Int64) (dfl_11 : Bool) (st_11 : Nat → Int32) (ikd_11 : Nat → Int32) (iat_11 : Nat → Int32) =>
        ob3 (tw_MO_head fu bgn_11 mst_11 top_11 ovr_11 st_11 18 p0) (fun top_12 ovr_12 st_12 =>
          ob3 (tw_MO_putLow fu bgn_11 mst_11 top_12 ovr_12 st_12 y7_11 8) (fun top_13 ovr_13 st_13 =>
            some (y6_11, top_13, bgn_11, mst_11, ovr_13, its_11, hgh_11, loo_11, dfl_11, st_13, ikd_11, iat_11)))) p0 p1 p2 r_2 r_3 true 0 top bgn mst ovr its hgh loo ovr st ikd iat
        else
          if r_3 = 2 then
            tw_MO_gather_r45 fu dcs frm grp (fun (y6_21 : Bool) (y7_21 : Int64) (top_21 : Int32) (bgn_21 : Int32) (mst_21 : Int32) (ovr_21 : Bool) (its_21 : Int32) (hgh_21 : Int64) (loo_21 : Int64) (dfl_21 : Bool) (st_21 : Nat → Int32) (ikd_21 : Nat → Int32) (iat_21 : Nat → Int32) =>
          ob3 (tw_MO_head fu bgn_21 mst_21 top_21 ovr_21 st_21 18 p0) (fun top_22 ovr_22 st_22 =>
            ob3 (tw_MO_putLow fu bgn_21 mst_21 top_22 ovr_22 st_22 y7_21 8) (fun top_23 ovr_23 st_23 =>
              some (y6_21, top_23, bgn_21, mst_21, ovr_23, its_21, hgh_21, loo_21, dfl_21, st_23, ikd_21, iat_21)))) p0 p1 p2 r_2 r_3 true 0 top bgn mst ovr its hgh loo ovr st ikd iat
          else
            tw_MO_gather_r138 fu dcs frm grp (fun (top_20 : Int32) (bgn_20 : Int32) (mst_20 : Int32) (ovr_20 : Bool) (its_20 : Int32) (hgh_20 : Int64) (loo_20 : Int64) (dfl_20 : Bool) (st_20 : Nat → Int32) (ikd_20 : Nat → Int32) (iat_20 : Nat → Int32) =>
          some (true, top_20, bgn_20, mst_20, ovr_20, its_20, hgh_20, loo_20, dfl_20, st_20, ikd_20, iat_20)) p0 p1 p2 r_2 r_3 top bgn mst ovr its hgh loo ovr st ikd iat)))
def tw_MO_group_h42 (fu : Nat) (dcs : Nat → Int32) (frm : Nat → Int32) (K : Int32 → Int32 → Int32 → Int32 → Int32 → Int32 → Bool → Bool → Int32 → Int64 → Int64 → Bool → (Nat → Int32) → (Nat → Int32) → (Nat → Int32) → (Nat → Int32) → (Nat → Int32) → (Nat → Int32) → (Nat → Int32) → Option (Int32 × Int32 × Int32 × Int32 × Int32 × Int32 × Bool × Bool × Int32 × Int64 × Int64 × Bool × (Nat → Int32) × (Nat → Int32) × (Nat → Int32) × (Nat → Int32) × (Nat → Int32) × (Nat → Int32) × (Nat → Int32))) (x2 : Int32) (x3 : Int32) (x4 : Int32) (x5 : Int32) : Nat → Int32 → Int32 → Int32 → Int32 → Int32 → Int32 → Bool → Bool → Int32 → Int64 → Int64 → Bool → (Nat → Int32) → (Nat → Int32) → (Nat → Int32) → (Nat → Int32) → (Nat → Int32) → (Nat → Int32) → (Nat → Int32) → Option (Int32 × Int32 × Int32 × Int32 × Int32 × Int32 × Bool × Bool × Int32 × Int64 × Int64 × Bool × (Nat → Int32) × (Nat → Int32) × (Nat → Int32) × (Nat → Int32) × (Nat → Int32) × (Nat → Int32) × (Nat → Int32))
  | 0, x6, frs, frt, top, bgn, mst, ovr, tgr, its, hgh, loo, dfl, st, ffr, fsz, odr, grp, ikd, iat => none
  | n + 1, x6, frs, frt, top, bgn, mst, ovr, tgr, its, hgh, loo, dfl, st, ffr, fsz, odr, grp, ikd, iat =>
    if x3 ≤ x6 then
      K x6 frs frt top bgn mst ovr tgr its hgh loo dfl st ffr fsz odr grp ikd iat
    else
      if 0 ≤ x6 ∧ x6 < 200 then
        if 0 ≤ (odr x6.toNatClampNeg) ∧ (odr x6.toNatClampNeg) < 400 then
          ob6 (tw_MO_keyOf fu top bgn mst ovr st x2 (frm (odr x6.toNatClampNeg).toNatClampNeg) 128200) (fun r_8 top_8 bgn_8 mst_8 ovr_8 st_8 =>
            ob1 (tw_MO_ord0 fu st_8 x5 124000 r_8 128200) (fun r_9 =>
              if r_9 = 0 then
                K x6 frs frt top_8 bgn_8 mst_8 ovr_8 tgr its hgh loo dfl st_8 ffr fsz odr grp ikd iat
              else
                tw_MO_group_h42 fu dcs frm K x2 x3 x4 x5 n (x6 + 1) frs frt top_8 bgn_8 mst_8 ovr_8 tgr its hgh loo dfl st_8 ffr fsz odr grp ikd iat))
        else
          none
      else
        none
def tw_MO_group_r89 (fu : Nat) (dcs : Nat → Int32) (frm : Nat → Int32) (K : Int32 → Int32 → Int32 → Int32 → Int32 → Int32 → Bool → Bool → Int32 → Int64 → Int64 → Bool → (Nat → Int32) → (Nat → Int32) → (Nat → Int32) → (Nat → Int32) → (Nat → Int32) → (Nat → Int32) → (Nat → Int32) → Option (Int32 × Int32 × Int32 × Int32 × Int32 × Int32 × Bool × Bool × Int32 × Int64 × Int64 × Bool × (Nat → Int32) × (Nat → Int32) × (Nat → Int32) × (Nat → Int32) × (Nat → Int32) × (Nat → Int32) × (Nat → Int32))) (x2 : Int32) (x3 : Int32) (x4 : Int32) (x6 : Int32) (frs : Int32) (frt : Int32) (top : Int32) (bgn : Int32) (mst : Int32) (ovr : Bool) (tgr : Bool) (its : Int32) (hgh : Int64) (loo : Int64) (dfl : Bool) (st : Nat → Int32) (ffr : Nat → Int32) (fsz : Nat → Int32) (odr : Nat → Int32) (grp : Nat → Int32) (ikd : Nat → Int32) (iat : Nat → Int32) : Option (Int32 × Int32 × Int32 × Int32 × Int32 × Int32 × Bool × Bool × Int32 × Int64 × Int64 × Bool × (Nat → Int32) × (Nat → Int32) × (Nat → Int32) × (Nat → Int32) × (Nat → Int32) × (Nat → Int32) × (Nat → Int32)) :=
  if x6 = x3 then
    if 0 ≤ x6 ∧ x6 < 200 then
      K (x3 + 1) frs frt top bgn mst ovr tgr its hgh loo dfl st ffr fsz (upd odr x6.toNatClampNeg x4) grp ikd iat
    else
      none
  else
    K x3 frs frt top bgn mst ovr tgr its hgh loo dfl st ffr fsz odr grp ikd iat
def tw_MO_group_h11 (fu : Nat) (dcs : Nat → Int32) (frm : Nat → Int32) (K : Int32 → Int32 → Int32 → Int32 → Int32 → Int32 → Int32 → Bool → Bool → Int32 → Int64 → Int64 → Bool → (Nat → Int32) → (Nat → Int32) → (Nat → Int32) → (Nat → Int32) → (Nat → Int32) → (Nat → Int32) → (Nat → Int32) → Option (Int32 × Int32 × Int32 × Int32 × Int32 × Int32 × Bool × Bool × Int32 × Int64 × Int64 × Bool × (Nat → Int32) × (Nat → Int32) × (Nat → Int32) × (Nat → Int32) × (Nat → Int32) × (Nat → Int32) × (Nat → Int32))) (x2 : Int32) : Nat → Int32 → Int32 → Int32 → Int32 → Int32 → Int32 → Int32 → Bool → Bool → Int32 → Int64 → Int64 → Bool → (Nat → Int32) → (Nat → Int32) → (Nat → Int32) → (Nat → Int32) → (Nat → Int32) → (Nat → Int32) → (Nat → Int32) → Option (Int32 × Int32 × Int32 × Int32 × Int32 × Int32 × Bool × Bool × Int32 × Int64 × Int64 × Bool × (Nat → Int32) × (Nat → Int32) × (Nat → Int32) × (Nat → Int32) × (Nat → Int32) × (Nat → Int32) × (Nat → Int32))
  | 0, x3, x4, frs, frt, top, bgn, mst, ovr, tgr, its, hgh, loo, dfl, st, ffr, fsz, odr, grp, ikd, iat => none
  | n + 1, x3, x4, frs, frt, top, bgn, mst, ovr, tgr, its, hgh, loo, dfl, st, ffr, fsz, odr, grp, ikd, iat =>
    if (dcs (0 : Int32).toNatClampNeg) ≤ x4 then
      K x3 x4 frs frt top bgn mst ovr tgr its hgh loo dfl st ffr fsz odr grp ikd iat
    else
      if 0 ≤ x4 ∧ x4 < 400 then
        ob6 (tw_MO_keyOf fu top bgn mst ovr st x2 (frm x4.toNatClampNeg) 124000) (fun r_4 top_4 bgn_4 mst_4 ovr_4 st_4 =>
          tw_MO_group_h42 fu dcs frm (fun (x6_11 : Int32) (frs_11 : Int32) (frt_11 : Int32) (top_11 : Int32) (bgn_11 : Int32) (mst_11 : Int32) (ovr_11 : Bool) (tgr_11 : Bool) (its_11 : Int32) (hgh_11 : Int64) (loo_11 : Int64) (dfl_11 : Bool) (st_11 : Nat → Int32) (ffr_11 : Nat → Int32) (fsz_11 : Nat → Int32) (odr_11 : Nat → Int32) (grp_11 : Nat → Int32) (ikd_11 : Nat → Int32) (iat_11 : Nat → Int32) =>
          tw_MO_group_r89 fu dcs frm (fun (y3_14 : Int32) (frs_14 : Int32) (frt_14 : Int32) (top_14 : Int32) (bgn_14 : Int32) (mst_14 : Int32) (ovr_14 : Bool) (tgr_14 : Bool) (its_14 : Int32) (hgh_14 : Int64) (loo_14 : Int64) (dfl_14 : Bool) (st_14 : Nat → Int32) (ffr_14 : Nat → Int32) (fsz_14 : Nat → Int32) (odr_14 : Nat → Int32) (grp_14 : Nat → Int32) (ikd_14 : Nat → Int32) (iat_14 : Nat → Int32) =>
          if 0 ≤ x4 ∧ x4 < 200 then
            tw_MO_group_h11 fu dcs frm K x2 n y3_14 (x4 + 1) frs_14 frt_14 top_14 bgn_14 mst_14 ovr_14 tgr_14 its_14 hgh_14 loo_14 dfl_14 st_14 ffr_14 fsz_14 odr_14 (upd grp_14 x4.toNatClampNeg x6_11) ikd_14 iat_14
          else
            none) x2 x3 x4 x6_11 frs_11 frt_11 top_11 bgn_11 mst_11 ovr_11 tgr_11 its_11 hgh_11 loo_11 dfl_11 st_11 ffr_11 fsz_11 odr_11 grp_11 ikd_11 iat_11) x2 x3 x4 r_4 fu 0 frs frt top_4 bgn_4 mst_4 ovr_4 tgr its hgh loo dfl st_4 ffr fsz odr grp ikd iat)
      else
        none
def tw_MO_group_r180 (fu : Nat) (dcs : Nat → Int32) (frm : Nat → Int32) (K : Int32 → Int32 → Int32 → Int32 → Int32 → Int32 → Bool → Bool → Int32 → Int64 → Int64 → Bool → (Nat → Int32) → (Nat → Int32) → (Nat → Int32) → (Nat → Int32) → (Nat → Int32) → (Nat → Int32) → (Nat → Int32) → Option (Int32 × Int32 × Int32 × Int32 × Int32 × Int32 × Bool × Bool × Int32 × Int64 × Int64 × Bool × (Nat → Int32) × (Nat → Int32) × (Nat → Int32) × (Nat → Int32) × (Nat → Int32) × (Nat → Int32) × (Nat → Int32))) (x2 : Int32) (x3 : Int32) (x4 : Bool) (x5 : Int32) (x6 : Int32) (x7 : Int32) (x8 : Int32) (frs : Int32) (frt : Int32) (top : Int32) (bgn : Int32) (mst : Int32) (ovr : Bool) (tgr : Bool) (its : Int32) (hgh : Int64) (loo : Int64) (dfl : Bool) (st : Nat → Int32) (ffr : Nat → Int32) (fsz : Nat → Int32) (odr : Nat → Int32) (grp : Nat → Int32) (ikd : Nat → Int32) (iat : Nat → Int32) : Option (Int32 × Int32 × Int32 × Int32 × Int32 × Int32 × Bool × Bool × Int32 × Int64 × Int64 × Bool × (Nat → Int32) × (Nat → Int32) × (Nat → Int32) × (Nat → Int32) × (Nat → Int32) × (Nat → Int32) × (Nat → Int32)) :=
  if x8 = 10 then
    K 0 frs frt top bgn mst ovr tgr its hgh loo dfl st ffr fsz odr grp ikd iat
  else
    K (top - 124000) frs frt top bgn mst ovr tgr its hgh loo dfl st ffr fsz odr grp ikd iat
def tw_MO_group_r237 (fu : Nat) (dcs : Nat → Int32) (frm : Nat → Int32) (K : Bool → Int32 → Int32 → Int32 → Int32 → Int32 → Bool → Bool → Int32 → Int64 → Int64 → Bool → (Nat → Int32) → (Nat → Int32) → (Nat → Int32) → (Nat → Int32) → (Nat → Int32) → (Nat → Int32) → (Nat → Int32) → Option (Int32 × Int32 × Int32 × Int32 × Int32 × Int32 × Bool × Bool × Int32 × Int64 × Int64 × Bool × (Nat → Int32) × (Nat → Int32) × (Nat → Int32) × (Nat → Int32) × (Nat → Int32) × (Nat → Int32) × (Nat → Int32))) (x2 : Int32) (x3 : Int32) (x4 : Bool) (x5 : Int32) (x6 : Int32) (x10 : Int32) (frs : Int32) (frt : Int32) (top : Int32) (bgn : Int32) (mst : Int32) (ovr : Bool) (tgr : Bool) (its : Int32) (hgh : Int64) (loo : Int64) (dfl : Bool) (st : Nat → Int32) (ffr : Nat → Int32) (fsz : Nat → Int32) (odr : Nat → Int32) (grp : Nat → Int32) (ikd : Nat → Int32) (iat : Nat → Int32) : Option (Int32 × Int32 × Int32 × Int32 × Int32 × Int32 × Bool × Bool × Int32 × Int64 × Int64 × Bool × (Nat → Int32) × (Nat → Int32) × (Nat → Int32) × (Nat → Int32) × (Nat → Int32) × (Nat → Int32) × (Nat → Int32)) :=
  ob12 (tw_MO_gather fu dcs frm grp top bgn mst ovr its hgh loo dfl st ikd iat x10 x5 x6) (fun r_30 top_30 bgn_30 mst_30 ovr_30 its_30 hgh_30 loo_30 dfl_30 st_30 ikd_30 iat_30 =>
    if (b2i r_30) = 0 then
      K false frs frt top_30 bgn_30 mst_30 ovr_30 tgr its_30 hgh_30 loo_30 dfl_30 st_30 ffr fsz odr grp ikd_30 iat_30
    else
      if (b2i x4) = 0 then
        K false frs frt top_30 bgn_30 mst_30 ovr_30 tgr its_30 hgh_30 loo_30 dfl_30 st_30 ffr fsz odr grp ikd_30 iat_30
      else
        K true frs frt top_30 bgn_30 mst_30 ovr_30 tgr its_30 hgh_30 loo_30 dfl_30 st_30 ffr fsz odr grp ikd_30 iat_30)
def tw_MO_group_h232 (fu : Nat) (dcs : Nat → Int32) (frm : Nat → Int32) (K : Bool → Int32 → Int32 → Int32 → Int32 → Int32 → Int32 → Bool → Bool → Int32 → Int64 → Int64 → Bool → (Nat → Int32) → (Nat → Int32) → (Nat → Int32) → (Nat → Int32) → (Nat → Int32) → (Nat → Int32) → (Nat → Int32) → Option (Int32 × Int32 × Int32 × Int32 × Int32 × Int32 × Bool × Bool × Int32 × Int64 × Int64 × Bool × (Nat → Int32) × (Nat → Int32) × (Nat → Int32) × (Nat → Int32) × (Nat → Int32) × (Nat → Int32) × (Nat → Int32))) (x2 : Int32) (x3 : Int32) (x5 : Int32) (x6 : Int32) : Nat → Bool → Int32 → Int32 → Int32 → Int32 → Int32 → Int32 → Bool → Bool → Int32 → Int64 → Int64 → Bool → (Nat → Int32) → (Nat → Int32) → (Nat → Int32) → (Nat → Int32) → (Nat → Int32) → (Nat → Int32) → (Nat → Int32) → Option (Int32 × Int32 × Int32 × Int32 × Int32 × Int32 × Bool × Bool × Int32 × Int64 × Int64 × Bool × (Nat → Int32) × (Nat → Int32) × (Nat → Int32) × (Nat → Int32) × (Nat → Int32) × (Nat → Int32) × (Nat → Int32))
  | 0, x4, x10, frs, frt, top, bgn, mst, ovr, tgr, its, hgh, loo, dfl, st, ffr, fsz, odr, grp, ikd, iat => none
  | n + 1, x4, x10, frs, frt, top, bgn, mst, ovr, tgr, its, hgh, loo, dfl, st, ffr, fsz, odr, grp, ikd, iat =>
    if x10 ≤ 0 then
      K x4 x10 frs frt top bgn mst ovr tgr its hgh loo dfl st ffr fsz odr grp ikd iat
    else
      tw_MO_group_r237 fu dcs frm (fun (y4_33 : Bool) (frs_33 : Int32) (frt_33 : Int32) (top_33 : Int32) (bgn_33 : Int32) (mst_33 : Int32) (ovr_33 : Bool) (tgr_33 : Bool) (its_33 : Int32) (hgh_33 : Int64) (loo_33 : Int64) (dfl_33 : Bool) (st_33 : Nat → Int32) (ffr_33 : Nat → Int32) (fsz_33 : Nat → Int32) (odr_33 : Nat → Int32) (grp_33 : Nat → Int32) (ikd_33 : Nat → Int32) (iat_33 : Nat → Int32) =>
          ob1 (tw_MO_nextOf fu st_33 x10) (fun r_34 =>
            tw_MO_group_h232 fu dcs frm K x2 x3 x5 x6 n y4_33 r_34 frs_33 frt_33 top_33 bgn_33 mst_33 ovr_33 tgr_33 its_33 hgh_33 loo_33 dfl_33 st_33 ffr_33 fsz_33 odr_33 grp_33 ikd_33 iat_33)) x2 x3 x4 x5 x6 x10 frs frt top bgn mst ovr tgr its hgh loo dfl st ffr fsz odr grp ikd iat
def tw_MO_group_h132 (fu : Nat) (dcs : Nat → Int32) (frm : Nat → Int32) (K : Bool → Int32 → Int32 → Int32 → Int32 → Int32 → Int32 → Bool → Bool → Int32 → Int64 → Int64 → Bool → (Nat → Int32) → (Nat → Int32) → (Nat → Int32) → (Nat → Int32) → (Nat → Int32) → (Nat → Int32) → (Nat → Int32) → Option (Int32 × Int32 × Int32 × Int32 × Int32 × Int32 × Bool × Bool × Int32 × Int64 × Int64 × Bool × (Nat → Int32) × (Nat → Int32) × (Nat → Int32) × (Nat → Int32) × (Nat → Int32) × (Nat → Int32) × (Nat → Int32))) (x2 : Int32) (x3 : Int32) : Nat → Bool → Int32 → Int32 → Int32 → Int32 → Int32 → Int32 → Bool → Bool → Int32 → Int64 → Int64 → Bool → (Nat → Int32) → (Nat → Int32) → (Nat → Int32) → (Nat → Int32) → (Nat → Int32) → (Nat → Int32) → (Nat → Int32) → Option (Int32 × Int32 × Int32 × Int32 × Int32 × Int32 × Bool × Bool × Int32 × Int64 × Int64 × Bool × (Nat → Int32) × (Nat → Int32) × (Nat → Int32) × (Nat → Int32) × (Nat → Int32) × (Nat → Int32) × (Nat → Int32))
  | 0, x4, x5, frs, frt, top, bgn, mst, ovr, tgr, its, hgh, loo, dfl, st, ffr, fsz, odr, grp, ikd, iat => none
  | n + 1, x4, x5, frs, frt, top, bgn, mst, ovr, tgr, its, hgh, loo, dfl, st, ffr, fsz, odr, grp, ikd, iat =>
    if x3 ≤ x5 then
      K x4 x5 frs frt top bgn mst ovr tgr its hgh loo dfl st ffr fsz odr grp ikd iat
    else
      ob6 (tw_MO_beginDocument fu tgr top bgn mst ovr st) (fun r_19 top_19 bgn_19 mst_19 ovr_19 st_19 =>
        if 0 ≤ x5 ∧ x5 < 200 then
          if 0 ≤ (odr x5.toNatClampNeg) ∧ (odr x5.toNatClampNeg) < 400 then
            ob6 (tw_MO_keyOf fu top_19 bgn_19 mst_19 ovr_19 st_19 x2 (frm (odr x5.toNatClampNeg).toNatClampNeg) 124000) (fun r_22 top_22 bgn_22 mst_22 ovr_22 st_22 =>
              tw_MO_group_r180 fu dcs frm (fun (y9_24 : Int32) (frs_24 : Int32) (frt_24 : Int32) (top_24 : Int32) (bgn_24 : Int32) (mst_24 : Int32) (ovr_24 : Bool) (tgr_24 : Bool) (its_24 : Int32) (hgh_24 : Int64) (loo_24 : Int64) (dfl_24 : Bool) (st_24 : Nat → Int32) (ffr_24 : Nat → Int32) (fsz_24 : Nat → Int32) (odr_24 : Nat → Int32) (grp_24 : Nat → Int32) (ikd_24 : Nat → Int32) (iat_24 : Nat → Int32) =>
          ob4 (tw_MO_resume fu dfl_24 top_24 bgn_24 mst_24 ovr_24 r_19 top_19) (fun top_25 bgn_25 mst_25 ovr_25 =>
            ob3 (tw_MO_head fu bgn_25 mst_25 top_25 ovr_25 st_24 r_22 x2) (fun top_26 ovr_26 st_26 =>
              ob3 (tw_MO_copy fu bgn_25 mst_25 top_26 ovr_26 st_26 124000 y9_24) (fun top_27 ovr_27 st_27 =>
                ob1 (tw_MO_nextOf fu st_27 x2) (fun r_28 =>
                  tw_MO_group_h232 fu dcs frm (fun (x4_35 : Bool) (x10_35 : Int32) (frs_35 : Int32) (frt_35 : Int32) (top_35 : Int32) (bgn_35 : Int32) (mst_35 : Int32) (ovr_35 : Bool) (tgr_35 : Bool) (its_35 : Int32) (hgh_35 : Int64) (loo_35 : Int64) (dfl_35 : Bool) (st_35 : Nat → Int32) (ffr_35 : Nat → Int32) (fsz_35 : Nat → Int32) (odr_35 : Nat → Int32) (grp_35 : Nat → Int32) (ikd_35 : Nat → Int32) (iat_35 : Nat → Int32) =>
          ob8 (tw_MO_endDocument fu bgn_35 mst_35 frs_35 frt_35 top_35 ovr_35 tgr_35 st_35 ffr_35 fsz_35 r_19) (fun frs_36 frt_36 top_36 ovr_36 tgr_36 st_36 ffr_36 fsz_36 =>
            tw_MO_group_h132 fu dcs frm K x2 x3 n x4_35 (x5 + 1) frs_36 frt_36 top_36 bgn_35 mst_35 ovr_36 tgr_36 its_35 hgh_35 loo_35 dfl_35 st_36 ffr_36 fsz_36 odr_35 grp_35 ikd_35 iat_35)) x2 x3 x5 r_19 fu x4 r_28 frs_24 frt_24 top_27 bgn_25 mst_25 ovr_27 tgr_24 its_24 hgh_24 loo_24 dfl_24 st_27 ffr_24 fsz_24 odr_24 grp_24 ikd_24 iat_24))))) x2 x3 x4 x5 r_19 top_19 r_22 frs frt top_22 bgn_22 mst_22 ovr_22 tgr its hgh loo ovr_19 st_22 ffr fsz odr grp ikd iat)
          else
            none
        else
          none)
def tw_MO_group (fu : Nat) (dcs : Nat → Int32) (frm : Nat → Int32) (frs : Int32) (frt : Int32) (top : Int32) (bgn : Int32) (mst : Int32) (ovr : Bool) (tgr : Bool) (its : Int32) (hgh : Int64) (loo : Int64) (dfl : Bool) (st : Nat → Int32) (ffr : Nat → Int32) (fsz : Nat → Int32) (odr : Nat → Int32) (grp : Nat → Int32) (ikd : Nat → Int32) (iat : Nat → Int32) (p0 : Int32) : Option (Int32 × Int32 × Int32 × Int32 × Int32 × Int32 × Bool × Bool × Int32 × Int64 × Int64 × Bool × (Nat → Int32) × (Nat → Int32) × (Nat → Int32) × (Nat → Int32) × (Nat → Int32) × (Nat → Int32) × (Nat → Int32)) :=
  ob1 (tw_MO_firstOf fu st p0) (fun r_1 =>
    tw_MO_group_h11 fu dcs frm (fun (x3_16 : Int32) (x4_16 : Int32) (frs_16 : Int32) (frt_16 : Int32) (top_16 : Int32) (bgn_16 : Int32) (mst_16 : Int32) (ovr_16 : Bool) (tgr_16 : Bool) (its_16 : Int32) (hgh_16 : Int64) (loo_16 : Int64) (dfl_16 : Bool) (st_16 : Nat → Int32) (ffr_16 : Nat → Int32) (fsz_16 : Nat → Int32) (odr_16 : Nat → Int32) (grp_16 : Nat → Int32) (ikd_16 : Nat → Int32) (iat_16 : Nat → Int32) =>
      ob4 (tw_MO_beginAll fu frs_16 frt_16 top_16 tgr_16) (fun frs_17 frt_17 top_17 tgr_17 =>
        tw_MO_group_h132 fu dcs frm (fun (x4_37 : Bool) (x5_37 : Int32) (frs_37 : Int32) (frt_37 : Int32) (top_37 : Int32) (bgn_37 : Int32) (mst_37 : Int32) (ovr_37 : Bool) (tgr_37 : Bool) (its_37 : Int32) (hgh_37 : Int64) (loo_37 : Int64) (dfl_37 : Bool) (st_37 : Nat → Int32) (ffr_37 : Nat → Int32) (fsz_37 : Nat → Int32) (odr_37 : Nat → Int32) (grp_37 : Nat → Int32) (ikd_37 : Nat → Int32) (iat_37 : Nat → Int32) =>
      if (b2i x4_37) = 0 then
        some (4, frs_37, frt_37, top_37, bgn_37, mst_37, ovr_37, tgr_37, its_37, hgh_37, loo_37, dfl_37, st_37, ffr_37, fsz_37, odr_37, grp_37, ikd_37, iat_37)
      else
        some (0, frs_37, frt_37, top_37, bgn_37, mst_37, ovr_37, tgr_37, its_37, hgh_37, loo_37, dfl_37, st_37, ffr_37, fsz_37, odr_37, grp_37, ikd_37, iat_37)) r_1 x3_16 fu true 0 frs_17 frt_17 top_17 bgn_16 mst_16 ovr_16 tgr_17 its_16 hgh_16 loo_16 dfl_16 st_16 ffr_16 fsz_16 odr_16 grp_16 ikd_16 iat_16)) r_1 fu 0 0 frs frt top bgn mst ovr tgr its hgh loo dfl st ffr fsz odr grp ikd iat)
def tw_MO_findKey_r12 (fu : Nat) (st : Nat → Int32) (K : Int32 → (Nat → Int32) → (Nat → Int32) → (Nat → Int32) → (Nat → Int32) → Option (Int32 × (Nat → Int32) × (Nat → Int32) × (Nat → Int32) × (Nat → Int32))) (x1 : Int32) (x4 : Int32) (lvs : Int32) (lkd : Nat → Int32) (lat : Nat → Int32) (kkd : Nat → Int32) (kat : Nat → Int32) : Option (Int32 × (Nat → Int32) × (Nat → Int32) × (Nat → Int32) × (Nat → Int32)) :=
  if lvs = 0 then
    ob3 (tw_MO_leaf fu lvs lkd lat 0 0) (fun lvs_3 lkd_3 lat_3 =>
      K lvs_3 lkd_3 lat_3 kkd kat)
  else
    K lvs lkd lat kkd kat
def tw_MO_findKey_r74 (fu : Nat) (st : Nat → Int32) (K : Int32 → Int32 → (Nat → Int32) → (Nat → Int32) → (Nat → Int32) → (Nat → Int32) → Option (Int32 × (Nat → Int32) × (Nat → Int32) × (Nat → Int32) × (Nat → Int32))) (x1 : Int32) (x4 : Int32) (x5 : Int32) (x6 : Int32) (x7 : Int32) (lvs : Int32) (lkd : Nat → Int32) (lat : Nat → Int32) (kkd : Nat → Int32) (kat : Nat → Int32) : Option (Int32 × (Nat → Int32) × (Nat → Int32) × (Nat → Int32) × (Nat → Int32)) :=
  if x4 = 0 then
    if x7 ≤ 0 then
      K x5 lvs lkd lat kkd kat
    else
      K x6 lvs lkd lat kkd kat
  else
    if 0 ≤ x7 then
      K x5 lvs lkd lat kkd kat
    else
      K x6 lvs lkd lat kkd kat
def tw_MO_findKey_h31 (fu : Nat) (st : Nat → Int32) (K : Int32 → Int32 → Int32 → (Nat → Int32) → (Nat → Int32) → (Nat → Int32) → (Nat → Int32) → Option (Int32 × (Nat → Int32) × (Nat → Int32) × (Nat → Int32) × (Nat → Int32))) (p0 : Int32) (p3 : Int32) : Nat → Int32 → Int32 → Int32 → (Nat → Int32) → (Nat → Int32) → (Nat → Int32) → (Nat → Int32) → Option (Int32 × (Nat → Int32) × (Nat → Int32) × (Nat → Int32) × (Nat → Int32))
  | 0, x5, x6, lvs, lkd, lat, kkd, kat => none
  | n + 1, x5, x6, lvs, lkd, lat, kkd, kat =>
    if lvs ≤ x6 then
      K x5 x6 lvs lkd lat kkd kat
    else
      if 0 ≤ x6 ∧ x6 < 60000 then
        if 0 ≤ x5 ∧ x5 < 60000 then
          ob1 (tw_MO_ord0 fu st (lkd x6.toNatClampNeg) (lat x6.toNatClampNeg) (lkd x5.toNatClampNeg) (lat x5.toNatClampNeg)) (fun r_8 =>
            tw_MO_findKey_r74 fu st (fun (y5_12 : Int32) (lvs_12 : Int32) (lkd_12 : Nat → Int32) (lat_12 : Nat → Int32) (kkd_12 : Nat → Int32) (kat_12 : Nat → Int32) =>
          tw_MO_findKey_h31 fu st K p0 p3 n y5_12 (x6 + 1) lvs_12 lkd_12 lat_12 kkd_12 kat_12) p0 p3 x5 x6 r_8 lvs lkd lat kkd kat)
        else
          none
      else
        none
def tw_MO_findKey (fu : Nat) (st : Nat → Int32) (lvs : Int32) (lkd : Nat → Int32) (lat : Nat → Int32) (kkd : Nat → Int32) (kat : Nat → Int32) (p0 : Int32) (p1 : Int32) (p2 : Int32) (p3 : Int32) : Option (Int32 × (Nat → Int32) × (Nat → Int32) × (Nat → Int32) × (Nat → Int32)) :=
  ob3 (tw_MO_lvs0 fu st 0 lkd lat 3 p1 p2) (fun lvs_1 lkd_1 lat_1 =>
    tw_MO_findKey_r12 fu st (fun (lvs_4 : Int32) (lkd_4 : Nat → Int32) (lat_4 : Nat → Int32) (kkd_4 : Nat → Int32) (kat_4 : Nat → Int32) =>
      tw_MO_findKey_h31 fu st (fun (x5_13 : Int32) (x6_13 : Int32) (lvs_13 : Int32) (lkd_13 : Nat → Int32) (lat_13 : Nat → Int32) (kkd_13 : Nat → Int32) (kat_13 : Nat → Int32) =>
      if 0 ≤ x5_13 ∧ x5_13 < 60000 then
        if 0 ≤ p0 ∧ p0 < 800 then
          some (lvs_13, lkd_13, lat_13, upd kkd_13 p0.toNatClampNeg (lkd_13 x5_13.toNatClampNeg), upd kat_13 p0.toNatClampNeg (lat_13 x5_13.toNatClampNeg))
        else
          none
      else
        none) p0 p3 fu 0 1 lvs_4 lkd_4 lat_4 kkd_4 kat_4) p0 p3 lvs_1 lkd_1 lat_1 kkd kat)
def tw_MO_sort_h16 (fu : Nat) (dcs : Nat → Int32) (frm : Nat → Int32) (siz : Nat → Int32) (K : Int32 → Int32 → Int32 → Int32 → Int32 → Int32 → Bool → Bool → Int32 → (Nat → Int32) → (Nat → Int32) → (Nat → Int32) → (Nat → Int32) → (Nat → Int32) → (Nat → Int32) → (Nat → Int32) → (Nat → Int32) → Option (Int32 × Int32 × Int32 × Int32 × Int32 × Bool × Bool × Int32 × (Nat → Int32) × (Nat → Int32) × (Nat → Int32) × (Nat → Int32) × (Nat → Int32) × (Nat → Int32) × (Nat → Int32) × (Nat → Int32))) (p0 : Int32) (x2 : Int32) (x3 : Int32) : Nat → Int32 → Int32 → Int32 → Int32 → Int32 → Int32 → Bool → Bool → Int32 → (Nat → Int32) → (Nat → Int32) → (Nat → Int32) → (Nat → Int32) → (Nat → Int32) → (Nat → Int32) → (Nat → Int32) → (Nat → Int32) → Option (Int32 × Int32 × Int32 × Int32 × Int32 × Bool × Bool × Int32 × (Nat → Int32) × (Nat → Int32) × (Nat → Int32) × (Nat → Int32) × (Nat → Int32) × (Nat → Int32) × (Nat → Int32) × (Nat → Int32))
  | 0, x4, frs, frt, top, bgn, mst, ovr, tgr, lvs, st, ffr, fsz, lkd, lat, kkd, kat, odr => none
  | n + 1, x4, frs, frt, top, bgn, mst, ovr, tgr, lvs, st, ffr, fsz, lkd, lat, kkd, kat, odr =>
    if x2 ≤ x4 then
      K x4 frs frt top bgn mst ovr tgr lvs st ffr fsz lkd lat kkd kat odr
    else
      if 0 ≤ x4 ∧ x4 < 200 then
        tw_MO_sort_h16 fu dcs frm siz K p0 x2 x3 n (x4 + 1) frs frt top bgn mst ovr tgr lvs st ffr fsz lkd lat kkd kat (upd odr x4.toNatClampNeg x4)
      else
        none
def tw_MO_sort_h57 (fu : Nat) (dcs : Nat → Int32) (frm : Nat → Int32) (siz : Nat → Int32) (K : Int32 → Int32 → Int32 → Int32 → Int32 → Int32 → Int32 → Bool → Bool → Int32 → (Nat → Int32) → (Nat → Int32) → (Nat → Int32) → (Nat → Int32) → (Nat → Int32) → (Nat → Int32) → (Nat → Int32) → (Nat → Int32) → Option (Int32 × Int32 × Int32 × Int32 × Int32 × Bool × Bool × Int32 × (Nat → Int32) × (Nat → Int32) × (Nat → Int32) × (Nat → Int32) × (Nat → Int32) × (Nat → Int32) × (Nat → Int32) × (Nat → Int32))) (x2 : Int32) (x3 : Int32) (x4 : Int32) : Nat → Int32 → Int32 → Int32 → Int32 → Int32 → Int32 → Int32 → Bool → Bool → Int32 → (Nat → Int32) → (Nat → Int32) → (Nat → Int32) → (Nat → Int32) → (Nat → Int32) → (Nat → Int32) → (Nat → Int32) → (Nat → Int32) → Option (Int32 × Int32 × Int32 × Int32 × Int32 × Bool × Bool × Int32 × (Nat → Int32) × (Nat → Int32) × (Nat → Int32) × (Nat → Int32) × (Nat → Int32) × (Nat → Int32) × (Nat → Int32) × (Nat → Int32))
  | 0, x5, x6, frs, frt, top, bgn, mst, ovr, tgr, lvs, st, ffr, fsz, lkd, lat, kkd, kat, odr => none
  | n + 1, x5, x6, frs, frt, top, bgn, mst, ovr, tgr, lvs, st, ffr, fsz, lkd, lat, kkd, kat, odr =>
    if x4 ≤ x6 then
      K x5 x6 frs frt top bgn mst ovr tgr lvs st ffr fsz lkd lat kkd kat odr
    else
      ob1 (tw_MO_nextOf fu st x5) (fun r_8 =>
        tw_MO_sort_h57 fu dcs frm siz K x2 x3 x4 n r_8 (x6 + 1) frs frt top bgn mst ovr tgr lvs st ffr fsz lkd lat kkd kat odr)
def tw_MO_sort_r78 (fu : Nat) (dcs : Nat → Int32) (frm : Nat → Int32) (siz : Nat → Int32) (K : Bool → Int32 → Int32 → Int32 → Int32 → Int32 → Bool → Bool → Int32 → (Nat → Int32) → (Nat → Int32) → (Nat → Int32) → (Nat → Int32) → (Nat → Int32) → (Nat → Int32) → (Nat → Int32) → (Nat → Int32) → Option (Int32 × Int32 × Int32 × Int32 × Int32 × Bool × Bool × Int32 × (Nat → Int32) × (Nat → Int32) × (Nat → Int32) × (Nat → Int32) × (Nat → Int32) × (Nat → Int32) × (Nat → Int32) × (Nat → Int32))) (x2 : Int32) (x3 : Int32) (x4 : Int32) (x5 : Int32) (frs : Int32) (frt : Int32) (top : Int32) (bgn : Int32) (mst : Int32) (ovr : Bool) (tgr : Bool) (lvs : Int32) (st : Nat → Int32) (ffr : Nat → Int32) (fsz : Nat → Int32) (lkd : Nat → Int32) (lat : Nat → Int32) (kkd : Nat → Int32) (kat : Nat → Int32) (odr : Nat → Int32) : Option (Int32 × Int32 × Int32 × Int32 × Int32 × Bool × Bool × Int32 × (Nat → Int32) × (Nat → Int32) × (Nat → Int32) × (Nat → Int32) × (Nat → Int32) × (Nat → Int32) × (Nat → Int32) × (Nat → Int32)) :=
  if 0 ≤ x5 ∧ x5 < 136400 then
    ob1 (tw_MO_valueOf fu st x5) (fun r_11 =>
      ob1 (tw_MO_number fu st (st x5.toNatClampNeg) r_11) (fun r_12 =>
        if (lg_cmp r_12 1) = 0 then
          K true frs frt top bgn mst ovr tgr lvs st ffr fsz lkd lat kkd kat odr
        else
          K false frs frt top bgn mst ovr tgr lvs st ffr fsz lkd lat kkd kat odr))
  else
    none
def tw_MO_sort_h110 (fu : Nat) (dcs : Nat → Int32) (frm : Nat → Int32) (siz : Nat → Int32) (K : Int32 → Int32 → Int32 → Int32 → Int32 → Int32 → Bool → Bool → Int32 → (Nat → Int32) → (Nat → Int32) → (Nat → Int32) → (Nat → Int32) → (Nat → Int32) → (Nat → Int32) → (Nat → Int32) → (Nat → Int32) → Option (Int32 × Int32 × Int32 × Int32 × Int32 × Bool × Bool × Int32 × (Nat → Int32) × (Nat → Int32) × (Nat → Int32) × (Nat → Int32) × (Nat → Int32) × (Nat → Int32) × (Nat → Int32) × (Nat → Int32))) (x2 : Int32) (x3 : Int32) (x4 : Int32) (x5 : Int32) (x6 : Bool) : Nat → Int32 → Int32 → Int32 → Int32 → Int32 → Int32 → Bool → Bool → Int32 → (Nat → Int32) → (Nat → Int32) → (Nat → Int32) → (Nat → Int32) → (Nat → Int32) → (Nat → Int32) → (Nat → Int32) → (Nat → Int32) → Option (Int32 × Int32 × Int32 × Int32 × Int32 × Bool × Bool × Int32 × (Nat → Int32) × (Nat → Int32) × (Nat → Int32) × (Nat → Int32) × (Nat → Int32) × (Nat → Int32) × (Nat → Int32) × (Nat → Int32))
  | 0, x7, frs, frt, top, bgn, mst, ovr, tgr, lvs, st, ffr, fsz, lkd, lat, kkd, kat, odr => none
  | n + 1, x7, frs, frt, top, bgn, mst, ovr, tgr, lvs, st, ffr, fsz, lkd, lat, kkd, kat, odr =>
    if x2 ≤ x7 then
      K x7 frs frt top bgn mst ovr tgr lvs st ffr fsz lkd lat kkd kat odr
    else
      if 0 ≤ x7 ∧ x7 < 400 then
        ob5 (tw_MO_findKey fu st lvs lkd lat kkd kat x7 (frm x7.toNatClampNeg) (x5 + 1) (b2i x6)) (fun lvs_17 lkd_17 lat_17 kkd_17 kat_17 =>
          tw_MO_sort_h110 fu dcs frm siz K x2 x3 x4 x5 x6 n (x7 + 1) frs frt top bgn mst ovr tgr lvs_17 st ffr fsz lkd_17 lat_17 kkd_17 kat_17 odr)
      else
        none
def tw_MO_sort_h163 (fu : Nat) (dcs : Nat → Int32) (frm : Nat → Int32) (siz : Nat → Int32) (K : Int32 → Int32 → Int32 → Int32 → Int32 → Int32 → Bool → Bool → Int32 → (Nat → Int32) → (Nat → Int32) → (Nat → Int32) → (Nat → Int32) → (Nat → Int32) → (Nat → Int32) → (Nat → Int32) → (Nat → Int32) → Option (Int32 × Int32 × Int32 × Int32 × Int32 × Bool × Bool × Int32 × (Nat → Int32) × (Nat → Int32) × (Nat → Int32) × (Nat → Int32) × (Nat → Int32) × (Nat → Int32) × (Nat → Int32) × (Nat → Int32))) (x2 : Int32) (x3 : Int32) (x4 : Int32) (x6 : Bool) (x7 : Int32) (x8 : Int32) : Nat → Int32 → Int32 → Int32 → Int32 → Int32 → Int32 → Bool → Bool → Int32 → (Nat → Int32) → (Nat → Int32) → (Nat → Int32) → (Nat → Int32) → (Nat → Int32) → (Nat → Int32) → (Nat → Int32) → (Nat → Int32) → Option (Int32 × Int32 × Int32 × Int32 × Int32 × Bool × Bool × Int32 × (Nat → Int32) × (Nat → Int32) × (Nat → Int32) × (Nat → Int32) × (Nat → Int32) × (Nat → Int32) × (Nat → Int32) × (Nat → Int32))
  | 0, x9, frs, frt, top, bgn, mst, ovr, tgr, lvs, st, ffr, fsz, lkd, lat, kkd, kat, odr => none
  | n + 1, x9, frs, frt, top, bgn, mst, ovr, tgr, lvs, st, ffr, fsz, lkd, lat, kkd, kat, odr =>
    if x9 ≤ 0 then
      K x9 frs frt top bgn mst ovr tgr lvs st ffr fsz lkd lat kkd kat odr
    else
      if 0 ≤ (x9 - 1) ∧ (x9 - 1) < 200 then
        ob1 (tw_MO_isBehind fu st kkd kat (odr (x9 - 1).toNatClampNeg) x8 (b2i x6)) (fun r_23 =>
          if (b2i r_23) = 0 then
            K x9 frs frt top bgn mst ovr tgr lvs st ffr fsz lkd lat kkd kat odr
          else
            if 0 ≤ x9 ∧ x9 < 200 then
              tw_MO_sort_h163 fu dcs frm siz K x2 x3 x4 x6 x7 x8 n (x9 + (-1)) frs frt top bgn mst ovr tgr lvs st ffr fsz lkd lat kkd kat (upd odr x9.toNatClampNeg (odr (x9 - 1).toNatClampNeg))
            else
              none)
      else
        none
def tw_MO_sort_h144 (fu : Nat) (dcs : Nat → Int32) (frm : Nat → Int32) (siz : Nat → Int32) (K : Int32 → Int32 → Int32 → Int32 → Int32 → Int32 → Bool → Bool → Int32 → (Nat → Int32) → (Nat → Int32) → (Nat → Int32) → (Nat → Int32) → (Nat → Int32) → (Nat → Int32) → (Nat → Int32) → (Nat → Int32) → Option (Int32 × Int32 × Int32 × Int32 × Int32 × Bool × Bool × Int32 × (Nat → Int32) × (Nat → Int32) × (Nat → Int32) × (Nat → Int32) × (Nat → Int32) × (Nat → Int32) × (Nat → Int32) × (Nat → Int32))) (x2 : Int32) (x3 : Int32) (x4 : Int32) (x6 : Bool) : Nat → Int32 → Int32 → Int32 → Int32 → Int32 → Int32 → Bool → Bool → Int32 → (Nat → Int32) → (Nat → Int32) → (Nat → Int32) → (Nat → Int32) → (Nat → Int32) → (Nat → Int32) → (Nat → Int32) → (Nat → Int32) → Option (Int32 × Int32 × Int32 × Int32 × Int32 × Bool × Bool × Int32 × (Nat → Int32) × (Nat → Int32) × (Nat → Int32) × (Nat → Int32) × (Nat → Int32) × (Nat → Int32) × (Nat → Int32) × (Nat → Int32))
  | 0, x7, frs, frt, top, bgn, mst, ovr, tgr, lvs, st, ffr, fsz, lkd, lat, kkd, kat, odr => none
  | n + 1, x7, frs, frt, top, bgn, mst, ovr, tgr, lvs, st, ffr, fsz, lkd, lat, kkd, kat, odr =>
    if x2 ≤ x7 then
      K x7 frs frt top bgn mst ovr tgr lvs st ffr fsz lkd lat kkd kat odr
    else
      if 0 ≤ x7 ∧ x7 < 200 then
        tw_MO_sort_h163 fu dcs frm siz (fun (x9_26 : Int32) (frs_26 : Int32) (frt_26 : Int32) (top_26 : Int32) (bgn_26 : Int32) (mst_26 : Int32) (ovr_26 : Bool) (tgr_26 : Bool) (lvs_26 : Int32) (st_26 : Nat → Int32) (ffr_26 : Nat → Int32) (fsz_26 : Nat → Int32) (lkd_26 : Nat → Int32) (lat_26 : Nat → Int32) (kkd_26 : Nat → Int32) (kat_26 : Nat → Int32) (odr_26 : Nat → Int32) =>
          if 0 ≤ x9_26 ∧ x9_26 < 200 then
            tw_MO_sort_h144 fu dcs frm siz K x2 x3 x4 x6 n (x7 + 1) frs_26 frt_26 top_26 bgn_26 mst_26 ovr_26 tgr_26 lvs_26 st_26 ffr_26 fsz_26 lkd_26 lat_26 kkd_26 kat_26 (upd odr_26 x9_26.toNatClampNeg (odr x7.toNatClampNeg))
          else
            none) x2 x3 x4 x6 x7 (odr x7.toNatClampNeg) fu x7 frs frt top bgn mst ovr tgr lvs st ffr fsz lkd lat kkd kat odr
      else
        none
def tw_MO_sort_h46 (fu : Nat) (dcs : Nat → Int32) (frm : Nat → Int32) (siz : Nat → Int32) (K : Int32 → Int32 → Int32 → Int32 → Int32 → Int32 → Bool → Bool → Int32 → (Nat → Int32) → (Nat → Int32) → (Nat → Int32) → (Nat → Int32) → (Nat → Int32) → (Nat → Int32) → (Nat → Int32) → (Nat → Int32) → Option (Int32 × Int32 × Int32 × Int32 × Int32 × Bool × Bool × Int32 × (Nat → Int32) × (Nat → Int32) × (Nat → Int32) × (Nat → Int32) × (Nat → Int32) × (Nat → Int32) × (Nat → Int32) × (Nat → Int32))) (x2 : Int32) (x3 : Int32) : Nat → Int32 → Int32 → Int32 → Int32 → Int32 → Int32 → Bool → Bool → Int32 → (Nat → Int32) → (Nat → Int32) → (Nat → Int32) → (Nat → Int32) → (Nat → Int32) → (Nat → Int32) → (Nat → Int32) → (Nat → Int32) → Option (Int32 × Int32 × Int32 × Int32 × Int32 × Bool × Bool × Int32 × (Nat → Int32) × (Nat → Int32) × (Nat → Int32) × (Nat → Int32) × (Nat → Int32) × (Nat → Int32) × (Nat → Int32) × (Nat → Int32))
  | 0, x4, frs, frt, top, bgn, mst, ovr, tgr, lvs, st, ffr, fsz, lkd, lat, kkd, kat, odr => none
  | n + 1, x4, frs, frt, top, bgn, mst, ovr, tgr, lvs, st, ffr, fsz, lkd, lat, kkd, kat, odr =>
    if x4 < 0 then
      K x4 frs frt top bgn mst ovr tgr lvs st ffr fsz lkd lat kkd kat odr
    else
      tw_MO_sort_h57 fu dcs frm siz (fun (x5_9 : Int32) (x6_9 : Int32) (frs_9 : Int32) (frt_9 : Int32) (top_9 : Int32) (bgn_9 : Int32) (mst_9 : Int32) (ovr_9 : Bool) (tgr_9 : Bool) (lvs_9 : Int32) (st_9 : Nat → Int32) (ffr_9 : Nat → Int32) (fsz_9 : Nat → Int32) (lkd_9 : Nat → Int32) (lat_9 : Nat → Int32) (kkd_9 : Nat → Int32) (kat_9 : Nat → Int32) (odr_9 : Nat → Int32) =>
          tw_MO_sort_r78 fu dcs frm siz (fun (y6_14 : Bool) (frs_14 : Int32) (frt_14 : Int32) (top_14 : Int32) (bgn_14 : Int32) (mst_14 : Int32) (ovr_14 : Bool) (tgr_14 : Bool) (lvs_14 : Int32) (st_14 : Nat → Int32) (ffr_14 : Nat → Int32) (fsz_14 : Nat → Int32) (lkd_14 : Nat → Int32) (lat_14 : Nat → Int32) (kkd_14 : Nat → Int32) (kat_14 : Nat → Int32) (odr_14 : Nat → Int32) =>
          tw_MO_sort_h110 fu dcs frm siz (fun (x7_18 : Int32) (frs_18 : Int32) (frt_18 : Int32) (top_18 : Int32) (bgn_18 : Int32) (mst_18 : Int32) (ovr_18 : Bool) (tgr_18 : Bool) (lvs_18 : Int32) (st_18 : Nat → Int32) (ffr_18 : Nat → Int32) (fsz_18 : Nat → Int32) (lkd_18 : Nat → Int32) (lat_18 : Nat → Int32) (kkd_18 : Nat → Int32) (kat_18 : Nat → Int32) (odr_18 : Nat → Int32) =>
          tw_MO_sort_h144 fu dcs frm siz (fun (x7_28 : Int32) (frs_28 : Int32) (frt_28 : Int32) (top_28 : Int32) (bgn_28 : Int32) (mst_28 : Int32) (ovr_28 : Bool) (tgr_28 : Bool) (lvs_28 : Int32) (st_28 : Nat → Int32) (ffr_28 : Nat → Int32) (fsz_28 : Nat → Int32) (lkd_28 : Nat → Int32) (lat_28 : Nat → Int32) (kkd_28 : Nat → Int32) (kat_28 : Nat → Int32) (odr_28 : Nat → Int32) =>
          tw_MO_sort_h46 fu dcs frm siz K x2 x3 n (x4 + (-1)) frs_28 frt_28 top_28 bgn_28 mst_28 ovr_28 tgr_28 lvs_28 st_28 ffr_28 fsz_28 lkd_28 lat_28 kkd_28 kat_28 odr_28) x2 x3 x4 y6_14 fu 1 frs_18 frt_18 top_18 bgn_18 mst_18 ovr_18 tgr_18 lvs_18 st_18 ffr_18 fsz_18 lkd_18 lat_18 kkd_18 kat_18 odr_18) x2 x3 x4 x5_9 y6_14 fu 0 frs_14 frt_14 top_14 bgn_14 mst_14 ovr_14 tgr_14 lvs_14 st_14 ffr_14 fsz_14 lkd_14 lat_14 kkd_14 kat_14 odr_14) x2 x3 x4 x5_9 frs_9 frt_9 top_9 bgn_9 mst_9 ovr_9 tgr_9 lvs_9 st_9 ffr_9 fsz_9 lkd_9 lat_9 kkd_9 kat_9 odr_9) x2 x3 x4 fu x3 0 frs frt top bgn mst ovr tgr lvs st ffr fsz lkd lat kkd kat odr
def tw_MO_sort_h234 (fu : Nat) (dcs : Nat → Int32) (frm : Nat → Int32) (siz : Nat → Int32) (K : Int32 → Int32 → Int32 → Int32 → Int32 → Int32 → Bool → Bool → Int32 → (Nat → Int32) → (Nat → Int32) → (Nat → Int32) → (Nat → Int32) → (Nat → Int32) → (Nat → Int32) → (Nat → Int32) → (Nat → Int32) → Option (Int32 × Int32 × Int32 × Int32 × Int32 × Bool × Bool × Int32 × (Nat → Int32) × (Nat → Int32) × (Nat → Int32) × (Nat → Int32) × (Nat → Int32) × (Nat → Int32) × (Nat → Int32) × (Nat → Int32))) (x2 : Int32) : Nat → Int32 → Int32 → Int32 → Int32 → Int32 → Int32 → Bool → Bool → Int32 → (Nat → Int32) → (Nat → Int32) → (Nat → Int32) → (Nat → Int32) → (Nat → Int32) → (Nat → Int32) → (Nat → Int32) → (Nat → Int32) → Option (Int32 × Int32 × Int32 × Int32 × Int32 × Bool × Bool × Int32 × (Nat → Int32) × (Nat → Int32) × (Nat → Int32) × (Nat → Int32) × (Nat → Int32) × (Nat → Int32) × (Nat → Int32) × (Nat → Int32))
  | 0, x4, frs, frt, top, bgn, mst, ovr, tgr, lvs, st, ffr, fsz, lkd, lat, kkd, kat, odr => none
  | n + 1, x4, frs, frt, top, bgn, mst, ovr, tgr, lvs, st, ffr, fsz, lkd, lat, kkd, kat, odr =>
    if x2 ≤ x4 then
      K x4 frs frt top bgn mst ovr tgr lvs st ffr fsz lkd lat kkd kat odr
    else
      if 0 ≤ x4 ∧ x4 < 200 then
        ob10 (tw_MO_keep fu frm siz frs frt top bgn mst ovr tgr st ffr fsz (odr x4.toNatClampNeg)) (fun frs_32 frt_32 top_32 bgn_32 mst_32 ovr_32 tgr_32 st_32 ffr_32 fsz_32 =>
          tw_MO_sort_h234 fu dcs frm siz K x2 n (x4 + 1) frs_32 frt_32 top_32 bgn_32 mst_32 ovr_32 tgr_32 lvs st_32 ffr_32 fsz_32 lkd lat kkd kat odr)
      else
        none
def tw_MO_sort (fu : Nat) (dcs : Nat → Int32) (frm : Nat → Int32) (siz : Nat → Int32) (frs : Int32) (frt : Int32) (top : Int32) (bgn : Int32) (mst : Int32) (ovr : Bool) (tgr : Bool) (lvs : Int32) (st : Nat → Int32) (ffr : Nat → Int32) (fsz : Nat → Int32) (lkd : Nat → Int32) (lat : Nat → Int32) (kkd : Nat → Int32) (kat : Nat → Int32) (odr : Nat → Int32) (p0 : Int32) : Option (Int32 × Int32 × Int32 × Int32 × Int32 × Bool × Bool × Int32 × (Nat → Int32) × (Nat → Int32) × (Nat → Int32) × (Nat → Int32) × (Nat → Int32) × (Nat → Int32) × (Nat → Int32) × (Nat → Int32)) :=
  ob1 (tw_MO_firstOf fu st p0) (fun r_1 =>
    tw_MO_sort_h16 fu dcs frm siz (fun (x4_4 : Int32) (frs_4 : Int32) (frt_4 : Int32) (top_4 : Int32) (bgn_4 : Int32) (mst_4 : Int32) (ovr_4 : Bool) (tgr_4 : Bool) (lvs_4 : Int32) (st_4 : Nat → Int32) (ffr_4 : Nat → Int32) (fsz_4 : Nat → Int32) (lkd_4 : Nat → Int32) (lat_4 : Nat → Int32) (kkd_4 : Nat → Int32) (kat_4 : Nat → Int32) (odr_4 : Nat → Int32) =>
      ob1 (tw_MO_countOf fu st_4 p0) (fun r_5 =>
        tw_MO_sort_h46 fu dcs frm siz (fun (x4_29 : Int32) (frs_29 : Int32) (frt_29 : Int32) (top_29 : Int32) (bgn_29 : Int32) (mst_29 : Int32) (ovr_29 : Bool) (tgr_29 : Bool) (lvs_29 : Int32) (st_29 : Nat → Int32) (ffr_29 : Nat → Int32) (fsz_29 : Nat → Int32) (lkd_29 : Nat → Int32) (lat_29 : Nat → Int32) (kkd_29 : Nat → Int32) (kat_29 : Nat → Int32) (odr_29 : Nat → Int32) =>
      tw_MO_sort_h234 fu dcs frm siz (fun (x4_33 : Int32) (frs_33 : Int32) (frt_33 : Int32) (top_33 : Int32) (bgn_33 : Int32) (mst_33 : Int32) (ovr_33 : Bool) (tgr_33 : Bool) (lvs_33 : Int32) (st_33 : Nat → Int32) (ffr_33 : Nat → Int32) (fsz_33 : Nat → Int32) (lkd_33 : Nat → Int32) (lat_33 : Nat → Int32) (kkd_33 : Nat → Int32) (kat_33 : Nat → Int32) (odr_33 : Nat → Int32) =>
      some (frs_33, frt_33, top_33, bgn_33, mst_33, ovr_33, tgr_33, lvs_33, st_33, ffr_33, fsz_33, lkd_33, lat_33, kkd_33, kat_33, odr_33)) (dcs (0 : Int32).toNatClampNeg) fu 0 frs_29 frt_29 top_29 bgn_29 mst_29 ovr_29 tgr_29 lvs_29 st_29 ffr_29 fsz_29 lkd_29 lat_29 kkd_29 kat_29 odr_29) (dcs (0 : Int32).toNatClampNeg) r_1 fu (r_5 - 1) frs_4 frt_4 top_4 bgn_4 mst_4 ovr_4 tgr_4 lvs_4 st_4 ffr_4 fsz_4 lkd_4 lat_4 kkd_4 kat_4 odr_4)) p0 (dcs (0 : Int32).toNatClampNeg) r_1 fu 0 frs frt top bgn mst ovr tgr lvs st ffr fsz lkd lat kkd kat odr)
def tw_MO_belongs_r7 (fu : Nat) (K : Int32 → Option (Bool)) (lvs : Int32) (st : Nat → Int32) (lkd : Nat → Int32) (lat : Nat → Int32) (x1 : Int32) (x2 : Int32) : Option (Bool) :=
  if 0 ≤ x2 ∧ x2 < 60000 then
    if (lkd x2.toNatClampNeg) = 0 then
      K 10
    else
      K (lkd x2.toNatClampNeg)
  else
    none
def tw_MO_belongs_h33 (fu : Nat) (K : Int32 → Option (Bool)) (lvs : Int32) (st : Nat → Int32) (lkd : Nat → Int32) (lat : Nat → Int32) (p0 : Int32) (x2 : Int32) (x3 : Int32) : Nat → Int32 → Option (Bool)
  | 0, _ => none
  | n + 1, x4 =>
    if lvs ≤ x4 then
      K x4
    else
      if 0 ≤ x2 ∧ x2 < 60000 then
        if 0 ≤ x4 ∧ x4 < 60000 then
          if (lkd x4.toNatClampNeg) = 0 then
            ob1 (tw_MO_ord0 fu st x3 (lat x2.toNatClampNeg) 10 (lat x4.toNatClampNeg)) (fun r_11 =>
              if r_11 = 0 then
                some true
              else
                tw_MO_belongs_h33 fu K lvs st lkd lat p0 x2 x3 n (x4 + 1))
          else
            ob1 (tw_MO_ord0 fu st x3 (lat x2.toNatClampNeg) (lkd x4.toNatClampNeg) (lat x4.toNatClampNeg)) (fun r_9 =>
              if r_9 = 0 then
                some true
              else
                tw_MO_belongs_h33 fu K lvs st lkd lat p0 x2 x3 n (x4 + 1))
        else
          none
      else
        none
def tw_MO_belongs_h2 (fu : Nat) (K : Int32 → Option (Bool)) (lvs : Int32) (st : Nat → Int32) (lkd : Nat → Int32) (lat : Nat → Int32) (p0 : Int32) : Nat → Int32 → Option (Bool)
  | 0, _ => none
  | n + 1, x2 =>
    if p0 ≤ x2 then
      K x2
    else
      tw_MO_belongs_r7 fu (fun (y3_4 : Int32) =>
          tw_MO_belongs_h33 fu (fun (x4_13 : Int32) =>
          tw_MO_belongs_h2 fu K lvs st lkd lat p0 n (x2 + 1)) lvs st lkd lat p0 x2 y3_4 fu 30000) lvs st lkd lat p0 x2
def tw_MO_belongs (fu : Nat) (lvs : Int32) (st : Nat → Int32) (lkd : Nat → Int32) (lat : Nat → Int32) (p0 : Int32) : Option (Bool) :=
  tw_MO_belongs_h2 fu (fun (x2_14 : Int32) =>
      some false) lvs st lkd lat p0 fu 0
def tw_MO_found_r72 (fu : Nat) (bgn : Int32) (mst : Int32) (dcs : Nat → Int32) (frm : Nat → Int32) (siz : Nat → Int32) (K : Int32 → Bool → Int32 → (Nat → Int32) → (Nat → Int32) → (Nat → Int32) → Option (Int32 × Bool × Int32 × (Nat → Int32) × (Nat → Int32) × (Nat → Int32))) (x1 : Int32) (x3 : Int32) (x4 : Int32) (x5 : Int32) (x6 : Int32) (top : Int32) (ovr : Bool) (lvs : Int32) (st : Nat → Int32) (lkd : Nat → Int32) (lat : Nat → Int32) : Option (Int32 × Bool × Int32 × (Nat → Int32) × (Nat → Int32) × (Nat → Int32)) :=
  if lvs = 30000 then
    ob3 (tw_MO_leaf fu lvs lkd lat 0 0) (fun lvs_10 lkd_10 lat_10 =>
      K top ovr lvs_10 st lkd_10 lat_10)
  else
    K top ovr lvs st lkd lat
def tw_MO_found_h37 (fu : Nat) (bgn : Int32) (mst : Int32) (dcs : Nat → Int32) (frm : Nat → Int32) (siz : Nat → Int32) (K : Int32 → Int32 → Int32 → Bool → Int32 → (Nat → Int32) → (Nat → Int32) → (Nat → Int32) → Option (Int32 × Bool × Int32 × (Nat → Int32) × (Nat → Int32) × (Nat → Int32))) (p0 : Int32) (p2 : Int32) (x4 : Int32) : Nat → Int32 → Int32 → Int32 → Bool → Int32 → (Nat → Int32) → (Nat → Int32) → (Nat → Int32) → Option (Int32 × Bool × Int32 × (Nat → Int32) × (Nat → Int32) × (Nat → Int32))
  | 0, x5, x6, top, ovr, lvs, st, lkd, lat => none
  | n + 1, x5, x6, top, ovr, lvs, st, lkd, lat =>
    if (200 + (dcs (1 : Int32).toNatClampNeg)) ≤ x6 then
      K x5 x6 top ovr lvs st lkd lat
    else
      if 0 ≤ x6 ∧ x6 < 400 then
        ob3 (tw_MO_lvs0 fu st 30000 lkd lat 3 (frm x6.toNatClampNeg) p2) (fun lvs_8 lkd_8 lat_8 =>
          tw_MO_found_r72 fu bgn mst dcs frm siz (fun (top_11 : Int32) (ovr_11 : Bool) (lvs_11 : Int32) (st_11 : Nat → Int32) (lkd_11 : Nat → Int32) (lat_11 : Nat → Int32) =>
          ob1 (tw_MO_belongs fu lvs_11 st_11 lkd_11 lat_11 p0) (fun r_12 =>
            if (b2i r_12) = 0 then
              tw_MO_found_h37 fu bgn mst dcs frm siz K p0 p2 x4 n x5 (x6 + 1) top_11 ovr_11 lvs_11 st_11 lkd_11 lat_11
            else
              ob3 (tw_MO_write fu bgn mst top_11 ovr_11 st_11 3) (fun top_14 ovr_14 st_14 =>
                ob3 (tw_MO_putDigits fu bgn mst top_14 ovr_14 st_14 x5) (fun top_15 ovr_15 st_15 =>
                  ob3 (tw_MO_copy fu bgn mst top_15 ovr_15 st_15 (frm x6.toNatClampNeg) (siz x6.toNatClampNeg)) (fun top_16 ovr_16 st_16 =>
                    tw_MO_found_h37 fu bgn mst dcs frm siz K p0 p2 x4 n (x5 + 1) (x6 + 1) top_16 ovr_16 lvs_11 st_16 lkd_11 lat_11))))) p0 p2 x4 x5 x6 top ovr lvs_8 st lkd_8 lat_8)
      else
        none
def tw_MO_found (fu : Nat) (bgn : Int32) (mst : Int32) (dcs : Nat → Int32) (frm : Nat → Int32) (siz : Nat → Int32) (top : Int32) (ovr : Bool) (lvs : Int32) (st : Nat → Int32) (lkd : Nat → Int32) (lat : Nat → Int32) (p0 : Int32) (p1 : Int32) (p2 : Int32) : Option (Int32 × Bool × Int32 × (Nat → Int32) × (Nat → Int32) × (Nat → Int32)) :=
  ob3 (tw_MO_write fu bgn mst top ovr st 4) (fun top_1 ovr_1 st_1 =>
    ob1 (tw_MO_valueOf fu st_1 p1) (fun r_2 =>
      ob1 (tw_MO_textSize fu st_1 p1) (fun r_3 =>
        ob3 (tw_MO_copy fu bgn mst top_1 ovr_1 st_1 (r_2 + 4) (r_3 + 1)) (fun top_4 ovr_4 st_4 =>
          ob4 (tw_MO_open fu bgn mst top_4 ovr_4 st_4) (fun r_5 top_5 ovr_5 st_5 =>
            tw_MO_found_h37 fu bgn mst dcs frm siz (fun (x5_17 : Int32) (x6_17 : Int32) (top_17 : Int32) (ovr_17 : Bool) (lvs_17 : Int32) (st_17 : Nat → Int32) (lkd_17 : Nat → Int32) (lat_17 : Nat → Int32) =>
      ob3 (tw_MO_close fu bgn mst top_17 ovr_17 st_17 r_5) (fun top_18 ovr_18 st_18 =>
        some (top_18, ovr_18, lvs_17, st_18, lkd_17, lat_17))) p0 p2 r_5 fu 0 200 top_5 ovr_5 lvs st_5 lkd lat)))))
def tw_MO_lookup_r57 (fu : Nat) (dcs : Nat → Int32) (frm : Nat → Int32) (siz : Nat → Int32) (K : Int32 → Int32 → Int32 → Int32 → Int32 → Bool → Bool → Int32 → (Nat → Int32) → (Nat → Int32) → (Nat → Int32) → (Nat → Int32) → (Nat → Int32) → Option (Int32 × Int32 × Int32 × Int32 × Int32 × Bool × Bool × Int32 × (Nat → Int32) × (Nat → Int32) × (Nat → Int32) × (Nat → Int32) × (Nat → Int32))) (x2 : Int32) (x3 : Int32) (x4 : Int32) (x5 : Int32) (frs : Int32) (frt : Int32) (top : Int32) (bgn : Int32) (mst : Int32) (ovr : Bool) (tgr : Bool) (lvs : Int32) (st : Nat → Int32) (ffr : Nat → Int32) (fsz : Nat → Int32) (lkd : Nat → Int32) (lat : Nat → Int32) : Option (Int32 × Int32 × Int32 × Int32 × Int32 × Bool × Bool × Int32 × (Nat → Int32) × (Nat → Int32) × (Nat → Int32) × (Nat → Int32) × (Nat → Int32)) :=
  if lvs = 0 then
    ob3 (tw_MO_leaf fu lvs lkd lat 0 0) (fun lvs_9 lkd_9 lat_9 =>
      K frs frt top bgn mst ovr tgr lvs_9 st ffr fsz lkd_9 lat_9)
  else
    K frs frt top bgn mst ovr tgr lvs st ffr fsz lkd lat
def tw_MO_lookup_r103 (fu : Nat) (dcs : Nat → Int32) (frm : Nat → Int32) (siz : Nat → Int32) (K : Bool → Int32 → Int32 → Int32 → Int32 → Int32 → Bool → Bool → Int32 → (Nat → Int32) → (Nat → Int32) → (Nat → Int32) → (Nat → Int32) → (Nat → Int32) → Option (Int32 × Int32 × Int32 × Int32 × Int32 × Bool × Bool × Int32 × (Nat → Int32) × (Nat → Int32) × (Nat → Int32) × (Nat → Int32) × (Nat → Int32))) (x2 : Int32) (x3 : Int32) (x4 : Int32) (x5 : Int32) (x6 : Int32) (x7 : Int32) (x8 : Bool) (x9 : Int32) (frs : Int32) (frt : Int32) (top : Int32) (bgn : Int32) (mst : Int32) (ovr : Bool) (tgr : Bool) (lvs : Int32) (st : Nat → Int32) (ffr : Nat → Int32) (fsz : Nat → Int32) (lkd : Nat → Int32) (lat : Nat → Int32) : Option (Int32 × Int32 × Int32 × Int32 × Int32 × Bool × Bool × Int32 × (Nat → Int32) × (Nat → Int32) × (Nat → Int32) × (Nat → Int32) × (Nat → Int32)) :=
  ob1 (tw_MO_nameEndOf fu st x9) (fun r_14 =>
    ob1 (tw_MO_valueOf fu st x4) (fun r_15 =>
      ob1 (tw_MO_textSize fu st x4) (fun r_16 =>
        ob1 (tw_MO_orderBytes fu st (x9 + 1) ((r_14 - x9) - 1) (r_15 + 4) r_16) (fun r_17 =>
          if r_17 = 0 then
            K true frs frt top bgn mst ovr tgr lvs st ffr fsz lkd lat
          else
            K false frs frt top bgn mst ovr tgr lvs st ffr fsz lkd lat))))
def tw_MO_lookup_r175 (fu : Nat) (dcs : Nat → Int32) (frm : Nat → Int32) (siz : Nat → Int32) (K : Bool → Int32 → Int32 → Int32 → Int32 → Int32 → Bool → Bool → Int32 → (Nat → Int32) → (Nat → Int32) → (Nat → Int32) → (Nat → Int32) → (Nat → Int32) → Option (Int32 × Int32 × Int32 × Int32 × Int32 × Bool × Bool × Int32 × (Nat → Int32) × (Nat → Int32) × (Nat → Int32) × (Nat → Int32) × (Nat → Int32))) (x2 : Int32) (x3 : Int32) (x4 : Int32) (x5 : Int32) (x6 : Int32) (x7 : Int32) (x8 : Bool) (x9 : Int32) (x10 : Bool) (frs : Int32) (frt : Int32) (top : Int32) (bgn : Int32) (mst : Int32) (ovr : Bool) (tgr : Bool) (lvs : Int32) (st : Nat → Int32) (ffr : Nat → Int32) (fsz : Nat → Int32) (lkd : Nat → Int32) (lat : Nat → Int32) : Option (Int32 × Int32 × Int32 × Int32 × Int32 × Bool × Bool × Int32 × (Nat → Int32) × (Nat → Int32) × (Nat → Int32) × (Nat → Int32) × (Nat → Int32)) :=
  if (b2i x8) = 0 then
    if (b2i x10) = 0 then
      K false frs frt top bgn mst ovr tgr lvs st ffr fsz lkd lat
    else
      K true frs frt top bgn mst ovr tgr lvs st ffr fsz lkd lat
  else
    K true frs frt top bgn mst ovr tgr lvs st ffr fsz lkd lat
def tw_MO_lookup_h98 (fu : Nat) (dcs : Nat → Int32) (frm : Nat → Int32) (siz : Nat → Int32) (K : Bool → Int32 → Int32 → Int32 → Int32 → Int32 → Int32 → Bool → Bool → Int32 → (Nat → Int32) → (Nat → Int32) → (Nat → Int32) → (Nat → Int32) → (Nat → Int32) → Option (Int32 × Int32 × Int32 × Int32 × Int32 × Bool × Bool × Int32 × (Nat → Int32) × (Nat → Int32) × (Nat → Int32) × (Nat → Int32) × (Nat → Int32))) (x2 : Int32) (x3 : Int32) (x4 : Int32) (x5 : Int32) (x6 : Int32) (x7 : Int32) : Nat → Bool → Int32 → Int32 → Int32 → Int32 → Int32 → Int32 → Bool → Bool → Int32 → (Nat → Int32) → (Nat → Int32) → (Nat → Int32) → (Nat → Int32) → (Nat → Int32) → Option (Int32 × Int32 × Int32 × Int32 × Int32 × Bool × Bool × Int32 × (Nat → Int32) × (Nat → Int32) × (Nat → Int32) × (Nat → Int32) × (Nat → Int32))
  | 0, x8, x9, frs, frt, top, bgn, mst, ovr, tgr, lvs, st, ffr, fsz, lkd, lat => none
  | n + 1, x8, x9, frs, frt, top, bgn, mst, ovr, tgr, lvs, st, ffr, fsz, lkd, lat =>
    if x9 ≤ 0 then
      K x8 x9 frs frt top bgn mst ovr tgr lvs st ffr fsz lkd lat
    else
      tw_MO_lookup_r103 fu dcs frm siz (fun (y10_19 : Bool) (frs_19 : Int32) (frt_19 : Int32) (top_19 : Int32) (bgn_19 : Int32) (mst_19 : Int32) (ovr_19 : Bool) (tgr_19 : Bool) (lvs_19 : Int32) (st_19 : Nat → Int32) (ffr_19 : Nat → Int32) (fsz_19 : Nat → Int32) (lkd_19 : Nat → Int32) (lat_19 : Nat → Int32) =>
          if (b2i y10_19) = 0 then
            ob3 (tw_MO_element fu bgn_19 mst_19 top_19 ovr_19 st_19 x9) (fun top_21 ovr_21 st_21 =>
              tw_MO_lookup_r175 fu dcs frm siz (fun (y8_24 : Bool) (frs_24 : Int32) (frt_24 : Int32) (top_24 : Int32) (bgn_24 : Int32) (mst_24 : Int32) (ovr_24 : Bool) (tgr_24 : Bool) (lvs_24 : Int32) (st_24 : Nat → Int32) (ffr_24 : Nat → Int32) (fsz_24 : Nat → Int32) (lkd_24 : Nat → Int32) (lat_24 : Nat → Int32) =>
            ob1 (tw_MO_nextOf fu st_24 x9) (fun r_25 =>
              tw_MO_lookup_h98 fu dcs frm siz K x2 x3 x4 x5 x6 x7 n y8_24 r_25 frs_24 frt_24 top_24 bgn_24 mst_24 ovr_24 tgr_24 lvs_24 st_24 ffr_24 fsz_24 lkd_24 lat_24)) x2 x3 x4 x5 x6 x7 x8 x9 y10_19 frs_19 frt_19 top_21 bgn_19 mst_19 ovr_21 tgr_19 lvs_19 st_21 ffr_19 fsz_19 lkd_19 lat_19)
          else
            ob1 (tw_MO_valueOf fu st_19 x3) (fun r_26 =>
              ob6 (tw_MO_found fu bgn_19 mst_19 dcs frm siz top_19 ovr_19 lvs_19 st_19 lkd_19 lat_19 x6 x4 (r_26 + 4)) (fun top_27 ovr_27 lvs_27 st_27 lkd_27 lat_27 =>
                tw_MO_lookup_r175 fu dcs frm siz (fun (y8_28 : Bool) (frs_28 : Int32) (frt_28 : Int32) (top_28 : Int32) (bgn_28 : Int32) (mst_28 : Int32) (ovr_28 : Bool) (tgr_28 : Bool) (lvs_28 : Int32) (st_28 : Nat → Int32) (ffr_28 : Nat → Int32) (fsz_28 : Nat → Int32) (lkd_28 : Nat → Int32) (lat_28 : Nat → Int32) =>
            ob1 (tw_MO_nextOf fu st_28 x9) (fun r_29 =>
              tw_MO_lookup_h98 fu dcs frm siz K x2 x3 x4 x5 x6 x7 n y8_28 r_29 frs_28 frt_28 top_28 bgn_28 mst_28 ovr_28 tgr_28 lvs_28 st_28 ffr_28 fsz_28 lkd_28 lat_28)) x2 x3 x4 x5 x6 x7 x8 x9 y10_19 frs_19 frt_19 top_27 bgn_19 mst_19 ovr_27 tgr_19 lvs_27 st_27 ffr_19 fsz_19 lkd_27 lat_27))) x2 x3 x4 x5 x6 x7 x8 x9 frs frt top bgn mst ovr tgr lvs st ffr fsz lkd lat
def tw_MO_lookup_r203 (fu : Nat) (dcs : Nat → Int32) (frm : Nat → Int32) (siz : Nat → Int32) (K : Int32 → Int32 → Int32 → Int32 → Int32 → Bool → Bool → Int32 → (Nat → Int32) → (Nat → Int32) → (Nat → Int32) → (Nat → Int32) → (Nat → Int32) → Option (Int32 × Int32 × Int32 × Int32 × Int32 × Bool × Bool × Int32 × (Nat → Int32) × (Nat → Int32) × (Nat → Int32) × (Nat → Int32) × (Nat → Int32))) (x2 : Int32) (x3 : Int32) (x4 : Int32) (x5 : Int32) (x6 : Int32) (x7 : Int32) (x8 : Bool) (frs : Int32) (frt : Int32) (top : Int32) (bgn : Int32) (mst : Int32) (ovr : Bool) (tgr : Bool) (lvs : Int32) (st : Nat → Int32) (ffr : Nat → Int32) (fsz : Nat → Int32) (lkd : Nat → Int32) (lat : Nat → Int32) : Option (Int32 × Int32 × Int32 × Int32 × Int32 × Bool × Bool × Int32 × (Nat → Int32) × (Nat → Int32) × (Nat → Int32) × (Nat → Int32) × (Nat → Int32)) :=
  if (b2i x8) = 0 then
    ob1 (tw_MO_valueOf fu st x3) (fun r_32 =>
      ob6 (tw_MO_found fu bgn mst dcs frm siz top ovr lvs st lkd lat x6 x4 (r_32 + 4)) (fun top_33 ovr_33 lvs_33 st_33 lkd_33 lat_33 =>
        K frs frt top_33 bgn mst ovr_33 tgr lvs_33 st_33 ffr fsz lkd_33 lat_33))
  else
    K frs frt top bgn mst ovr tgr lvs st ffr fsz lkd lat
def tw_MO_lookup_h22 (fu : Nat) (dcs : Nat → Int32) (frm : Nat → Int32) (siz : Nat → Int32) (K : Int32 → Int32 → Int32 → Int32 → Int32 → Int32 → Bool → Bool → Int32 → (Nat → Int32) → (Nat → Int32) → (Nat → Int32) → (Nat → Int32) → (Nat → Int32) → Option (Int32 × Int32 × Int32 × Int32 × Int32 × Bool × Bool × Int32 × (Nat → Int32) × (Nat → Int32) × (Nat → Int32) × (Nat → Int32) × (Nat → Int32))) (x2 : Int32) (x3 : Int32) (x4 : Int32) : Nat → Int32 → Int32 → Int32 → Int32 → Int32 → Int32 → Bool → Bool → Int32 → (Nat → Int32) → (Nat → Int32) → (Nat → Int32) → (Nat → Int32) → (Nat → Int32) → Option (Int32 × Int32 × Int32 × Int32 × Int32 × Bool × Bool × Int32 × (Nat → Int32) × (Nat → Int32) × (Nat → Int32) × (Nat → Int32) × (Nat → Int32))
  | 0, x5, frs, frt, top, bgn, mst, ovr, tgr, lvs, st, ffr, fsz, lkd, lat => none
  | n + 1, x5, frs, frt, top, bgn, mst, ovr, tgr, lvs, st, ffr, fsz, lkd, lat =>
    if (dcs (0 : Int32).toNatClampNeg) ≤ x5 then
      K x5 frs frt top bgn mst ovr tgr lvs st ffr fsz lkd lat
    else
      if 0 ≤ x5 ∧ x5 < 400 then
        ob1 (tw_MO_valueOf fu st x2) (fun r_6 =>
          ob3 (tw_MO_lvs0 fu st 0 lkd lat 3 (frm x5.toNatClampNeg) (r_6 + 4)) (fun lvs_7 lkd_7 lat_7 =>
            tw_MO_lookup_r57 fu dcs frm siz (fun (frs_10 : Int32) (frt_10 : Int32) (top_10 : Int32) (bgn_10 : Int32) (mst_10 : Int32) (ovr_10 : Bool) (tgr_10 : Bool) (lvs_10 : Int32) (st_10 : Nat → Int32) (ffr_10 : Nat → Int32) (fsz_10 : Nat → Int32) (lkd_10 : Nat → Int32) (lat_10 : Nat → Int32) =>
          ob6 (tw_MO_beginDocument fu tgr_10 top_10 bgn_10 mst_10 ovr_10 st_10) (fun r_11 top_11 bgn_11 mst_11 ovr_11 st_11 =>
            ob1 (tw_MO_firstOf fu st_11 (frm x5.toNatClampNeg)) (fun r_12 =>
              tw_MO_lookup_h98 fu dcs frm siz (fun (x8_30 : Bool) (x9_30 : Int32) (frs_30 : Int32) (frt_30 : Int32) (top_30 : Int32) (bgn_30 : Int32) (mst_30 : Int32) (ovr_30 : Bool) (tgr_30 : Bool) (lvs_30 : Int32) (st_30 : Nat → Int32) (ffr_30 : Nat → Int32) (fsz_30 : Nat → Int32) (lkd_30 : Nat → Int32) (lat_30 : Nat → Int32) =>
          tw_MO_lookup_r203 fu dcs frm siz (fun (frs_34 : Int32) (frt_34 : Int32) (top_34 : Int32) (bgn_34 : Int32) (mst_34 : Int32) (ovr_34 : Bool) (tgr_34 : Bool) (lvs_34 : Int32) (st_34 : Nat → Int32) (ffr_34 : Nat → Int32) (fsz_34 : Nat → Int32) (lkd_34 : Nat → Int32) (lat_34 : Nat → Int32) =>
          ob8 (tw_MO_endDocument fu bgn_34 mst_34 frs_34 frt_34 top_34 ovr_34 tgr_34 st_34 ffr_34 fsz_34 r_11) (fun frs_35 frt_35 top_35 ovr_35 tgr_35 st_35 ffr_35 fsz_35 =>
            tw_MO_lookup_h22 fu dcs frm siz K x2 x3 x4 n (x5 + 1) frs_35 frt_35 top_35 bgn_34 mst_34 ovr_35 tgr_35 lvs_34 st_35 ffr_35 fsz_35 lkd_34 lat_34)) x2 x3 x4 x5 lvs_10 r_11 x8_30 frs_30 frt_30 top_30 bgn_30 mst_30 ovr_30 tgr_30 lvs_30 st_30 ffr_30 fsz_30 lkd_30 lat_30) x2 x3 x4 x5 lvs_10 r_11 fu false r_12 frs_10 frt_10 top_11 bgn_11 mst_11 ovr_11 tgr_10 lvs_10 st_11 ffr_10 fsz_10 lkd_10 lat_10))) x2 x3 x4 x5 frs frt top bgn mst ovr tgr lvs_7 st ffr fsz lkd_7 lat_7))
      else
        none
def tw_MO_lookup (fu : Nat) (dcs : Nat → Int32) (frm : Nat → Int32) (siz : Nat → Int32) (frs : Int32) (frt : Int32) (top : Int32) (bgn : Int32) (mst : Int32) (ovr : Bool) (tgr : Bool) (lvs : Int32) (st : Nat → Int32) (ffr : Nat → Int32) (fsz : Nat → Int32) (lkd : Nat → Int32) (lat : Nat → Int32) (p0 : Int32) : Option (Int32 × Int32 × Int32 × Int32 × Int32 × Bool × Bool × Int32 × (Nat → Int32) × (Nat → Int32) × (Nat → Int32) × (Nat → Int32) × (Nat → Int32)) :=
  ob1 (tw_MO_firstOf fu st p0) (fun r_1 =>
    ob1 (tw_MO_nextOf fu st r_1) (fun r_2 =>
      ob1 (tw_MO_nextOf fu st r_2) (fun r_3 =>
        tw_MO_lookup_h22 fu dcs frm siz (fun (x5_36 : Int32) (frs_36 : Int32) (frt_36 : Int32) (top_36 : Int32) (bgn_36 : Int32) (mst_36 : Int32) (ovr_36 : Bool) (tgr_36 : Bool) (lvs_36 : Int32) (st_36 : Nat → Int32) (ffr_36 : Nat → Int32) (fsz_36 : Nat → Int32) (lkd_36 : Nat → Int32) (lat_36 : Nat → Int32) =>
      some (frs_36, frt_36, top_36, bgn_36, mst_36, ovr_36, tgr_36, lvs_36, st_36, ffr_36, fsz_36, lkd_36, lat_36)) r_1 r_2 r_3 fu 0 frs frt top bgn mst ovr tgr lvs st ffr fsz lkd lat)))
def tw_MO_does_r116 (fu : Nat) (K : Int32 → Int32 → Int32 → Int32 → Int32 → Bool → Bool → Int32 → Int32 → Int64 → Int64 → Bool → (Nat → Int32) → (Nat → Int32) → (Nat → Int32) → (Nat → Int32) → (Nat → Int32) → (Nat → Int32) → (Nat → Int32) → (Nat → Int32) → (Nat → Int32) → (Nat → Int32) → (Nat → Int32) → (Nat → Int32) → (Nat → Int32) → (Nat → Int32) → (Nat → Int32) → Option (Int32 × Int32 × Int32 × Int32 × Int32 × Int32 × Bool × Bool × Int32 × Int32 × Int64 × Int64 × Bool × (Nat → Int32) × (Nat → Int32) × (Nat → Int32) × (Nat → Int32) × (Nat → Int32) × (Nat → Int32) × (Nat → Int32) × (Nat → Int32) × (Nat → Int32) × (Nat → Int32) × (Nat → Int32) × (Nat → Int32) × (Nat → Int32) × (Nat → Int32) × (Nat → Int32))) (x2 : Int32) (x4 : Int32) (x5 : Int64) (x7 : Int32) (frs : Int32) (frt : Int32) (top : Int32) (bgn : Int32) (mst : Int32) (ovr : Bool) (tgr : Bool) (lvs : Int32) (its : Int32) (hgh : Int64) (loo : Int64) (dfl : Bool) (st : Nat → Int32) (dcs : Nat → Int32) (tot : Nat → Int32) (frm : Nat → Int32) (siz : Nat → Int32) (ffr : Nat → Int32) (fsz : Nat → Int32) (lkd : Nat → Int32) (lat : Nat → Int32) (kkd : Nat → Int32) (kat : Nat → Int32) (odr : Nat → Int32) (grp : Nat → Int32) (ikd : Nat → Int32) (iat : Nat → Int32) : Option (Int32 × Int32 × Int32 × Int32 × Int32 × Int32 × Bool × Bool × Int32 × Int32 × Int64 × Int64 × Bool × (Nat → Int32) × (Nat → Int32) × (Nat → Int32) × (Nat → Int32) × (Nat → Int32) × (Nat → Int32) × (Nat → Int32) × (Nat → Int32) × (Nat → Int32) × (Nat → Int32) × (Nat → Int32) × (Nat → Int32) × (Nat → Int32) × (Nat → Int32) × (Nat → Int32)) :=
  if (lg_cmp x7.toInt64 x5) < 0 then
    if x2 = 5 then
      K frs frt top bgn mst ovr tgr lvs its hgh loo dfl st dcs tot frm siz ffr fsz lkd lat kkd kat odr grp ikd iat
    else
      ob10 (tw_MO_keep fu frm siz frs frt top bgn mst ovr tgr st ffr fsz x7) (fun frs_15 frt_15 top_15 bgn_15 mst_15 ovr_15 tgr_15 st_15 ffr_15 fsz_15 =>
        K frs_15 frt_15 top_15 bgn_15 mst_15 ovr_15 tgr_15 lvs its hgh loo dfl st_15 dcs tot frm siz ffr_15 fsz_15 lkd lat kkd kat odr grp ikd iat)
  else
    if x2 = 5 then
      ob10 (tw_MO_keep fu frm siz frs frt top bgn mst ovr tgr st ffr fsz x7) (fun frs_20 frt_20 top_20 bgn_20 mst_20 ovr_20 tgr_20 st_20 ffr_20 fsz_20 =>
        K frs_20 frt_20 top_20 bgn_20 mst_20 ovr_20 tgr_20 lvs its hgh loo dfl st_20 dcs tot frm siz ffr_20 fsz_20 lkd lat kkd kat odr grp ikd iat)
    else
      K frs frt top bgn mst ovr tgr lvs its hgh loo dfl st dcs tot frm siz ffr fsz lkd lat kkd kat odr grp ikd iat
def tw_MO_does_h105 (fu : Nat) (K : Int32 → Int32 → Int32 → Int32 → Int32 → Int32 → Bool → Bool → Int32 → Int32 → Int64 → Int64 → Bool → (Nat → Int32) → (Nat → Int32) → (Nat → Int32) → (Nat → Int32) → (Nat → Int32) → (Nat → Int32) → (Nat → Int32) → (Nat → Int32) → (Nat → Int32) → (Nat → Int32) → (Nat → Int32) → (Nat → Int32) → (Nat → Int32) → (Nat → Int32) → (Nat → Int32) → Option (Int32 × Int32 × Int32 × Int32 × Int32 × Int32 × Bool × Bool × Int32 × Int32 × Int64 × Int64 × Bool × (Nat → Int32) × (Nat → Int32) × (Nat → Int32) × (Nat → Int32) × (Nat → Int32) × (Nat → Int32) × (Nat → Int32) × (Nat → Int32) × (Nat → Int32) × (Nat → Int32) × (Nat → Int32) × (Nat → Int32) × (Nat → Int32) × (Nat → Int32) × (Nat → Int32))) (x2 : Int32) (x4 : Int32) (x5 : Int64) : Nat → Int32 → Int32 → Int32 → Int32 → Int32 → Int32 → Bool → Bool → Int32 → Int32 → Int64 → Int64 → Bool → (Nat → Int32) → (Nat → Int32) → (Nat → Int32) → (Nat → Int32) → (Nat → Int32) → (Nat → Int32) → (Nat → Int32) → (Nat → Int32) → (Nat → Int32) → (Nat → Int32) → (Nat → Int32) → (Nat → Int32) → (Nat → Int32) → (Nat → Int32) → (Nat → Int32) → Option (Int32 × Int32 × Int32 × Int32 × Int32 × Int32 × Bool × Bool × Int32 × Int32 × Int64 × Int64 × Bool × (Nat → Int32) × (Nat → Int32) × (Nat → Int32) × (Nat → Int32) × (Nat → Int32) × (Nat → Int32) × (Nat → Int32) × (Nat → Int32) × (Nat → Int32) × (Nat → Int32) × (Nat → Int32) × (Nat → Int32) × (Nat → Int32) × (Nat → Int32) × (Nat → Int32))
  | 0, x7, frs, frt, top, bgn, mst, ovr, tgr, lvs, its, hgh, loo, dfl, st, dcs, tot, frm, siz, ffr, fsz, lkd, lat, kkd, kat, odr, grp, ikd, iat => none
  | n + 1, x7, frs, frt, top, bgn, mst, ovr, tgr, lvs, its, hgh, loo, dfl, st, dcs, tot, frm, siz, ffr, fsz, lkd, lat, kkd, kat, odr, grp, ikd, iat =>
    if (dcs (0 : Int32).toNatClampNeg) ≤ x7 then
      K x7 frs frt top bgn mst ovr tgr lvs its hgh loo dfl st dcs tot frm siz ffr fsz lkd lat kkd kat odr grp ikd iat
    else
      tw_MO_does_r116 fu (fun (frs_21 : Int32) (frt_21 : Int32) (top_21 : Int32) (bgn_21 : Int32) (mst_21 : Int32) (ovr_21 : Bool) (tgr_21 : Bool) (lvs_21 : Int32) (its_21 : Int32) (hgh_21 : Int64) (loo_21 : Int64) (dfl_21 : Bool) (st_21 : Nat → Int32) (dcs_21 : Nat → Int32) (tot_21 : Nat → Int32) (frm_21 : Nat → Int32) (siz_21 : Nat → Int32) (ffr_21 : Nat → Int32) (fsz_21 : Nat → Int32) (lkd_21 : Nat → Int32) (lat_21 : Nat → Int32) (kkd_21 : Nat → Int32) (kat_21 : Nat → Int32) (odr_21 : Nat → Int32) (grp_21 : Nat → Int32) (ikd_21 : Nat → Int32) (iat_21 : Nat → Int32) =>
          tw_MO_does_h105 fu K x2 x4 x5 n (x7 + 1) frs_21 frt_21 top_21 bgn_21 mst_21 ovr_21 tgr_21 lvs_21 its_21 hgh_21 loo_21 dfl_21 st_21 dcs_21 tot_21 frm_21 siz_21 ffr_21 fsz_21 lkd_21 lat_21 kkd_21 kat_21 odr_21 grp_21 ikd_21 iat_21) x2 x4 x5 x7 frs frt top bgn mst ovr tgr lvs its hgh loo dfl st dcs tot frm siz ffr fsz lkd lat kkd kat odr grp ikd iat
def tw_MO_does_r19 (fu : Nat) (K : Int32 → Int32 → Int32 → Int32 → Int32 → Int32 → Bool → Bool → Int32 → Int32 → Int64 → Int64 → Bool → (Nat → Int32) → (Nat → Int32) → (Nat → Int32) → (Nat → Int32) → (Nat → Int32) → (Nat → Int32) → (Nat → Int32) → (Nat → Int32) → (Nat → Int32) → (Nat → Int32) → (Nat → Int32) → (Nat → Int32) → (Nat → Int32) → (Nat → Int32) → (Nat → Int32) → Option (Int32 × Int32 × Int32 × Int32 × Int32 × Int32 × Bool × Bool × Int32 × Int32 × Int64 × Int64 × Bool × (Nat → Int32) × (Nat → Int32) × (Nat → Int32) × (Nat → Int32) × (Nat → Int32) × (Nat → Int32) × (Nat → Int32) × (Nat → Int32) × (Nat → Int32) × (Nat → Int32) × (Nat → Int32) × (Nat → Int32) × (Nat → Int32) × (Nat → Int32) × (Nat → Int32))) (x1 : Int32) (x2 : Int32) (x3 : Int32) (x4 : Int32) (frs : Int32) (frt : Int32) (top : Int32) (bgn : Int32) (mst : Int32) (ovr : Bool) (tgr : Bool) (lvs : Int32) (its : Int32) (hgh : Int64) (loo : Int64) (dfl : Bool) (st : Nat → Int32) (dcs : Nat → Int32) (tot : Nat → Int32) (frm : Nat → Int32) (siz : Nat → Int32) (ffr : Nat → Int32) (fsz : Nat → Int32) (lkd : Nat → Int32) (lat : Nat → Int32) (kkd : Nat → Int32) (kat : Nat → Int32) (odr : Nat → Int32) (grp : Nat → Int32) (ikd : Nat → Int32) (iat : Nat → Int32) : Option (Int32 × Int32 × Int32 × Int32 × Int32 × Int32 × Bool × Bool × Int32 × Int32 × Int64 × Int64 × Bool × (Nat → Int32) × (Nat → Int32) × (Nat → Int32) × (Nat → Int32) × (Nat → Int32) × (Nat → Int32) × (Nat → Int32) × (Nat → Int32) × (Nat → Int32) × (Nat → Int32) × (Nat → Int32) × (Nat → Int32) × (Nat → Int32) × (Nat → Int32) × (Nat → Int32)) :=
  if x2 = 1 then
    ob10 (tw_MO_project fu dcs frm frs frt top bgn mst ovr tgr st ffr fsz x3) (fun frs_27 frt_27 top_27 bgn_27 mst_27 ovr_27 tgr_27 st_27 ffr_27 fsz_27 =>
      K x4 frs_27 frt_27 top_27 bgn_27 mst_27 ovr_27 tgr_27 lvs its hgh loo dfl st_27 dcs tot frm siz ffr_27 fsz_27 lkd lat kkd kat odr grp ikd iat)
  else
    if x2 = 2 then
      ob10 (tw_MO_unwind fu dcs frm siz frs frt top bgn mst ovr tgr st ffr fsz (x3 + 5)) (fun frs_26 frt_26 top_26 bgn_26 mst_26 ovr_26 tgr_26 st_26 ffr_26 fsz_26 =>
        K x4 frs_26 frt_26 top_26 bgn_26 mst_26 ovr_26 tgr_26 lvs its hgh loo dfl st_26 dcs tot frm siz ffr_26 fsz_26 lkd lat kkd kat odr grp ikd iat)
    else
      if x2 = 3 then
        ob19 (tw_MO_group fu dcs frm frs frt top bgn mst ovr tgr its hgh loo dfl st ffr fsz odr grp ikd iat x3) (fun r_25 frs_25 frt_25 top_25 bgn_25 mst_25 ovr_25 tgr_25 its_25 hgh_25 loo_25 dfl_25 st_25 ffr_25 fsz_25 odr_25 grp_25 ikd_25 iat_25 =>
          K r_25 frs_25 frt_25 top_25 bgn_25 mst_25 ovr_25 tgr_25 lvs its_25 hgh_25 loo_25 dfl_25 st_25 dcs tot frm siz ffr_25 fsz_25 lkd lat kkd kat odr_25 grp_25 ikd_25 iat_25)
      else
        if x2 = 4 then
          ob16 (tw_MO_sort fu dcs frm siz frs frt top bgn mst ovr tgr lvs st ffr fsz lkd lat kkd kat odr x3) (fun frs_24 frt_24 top_24 bgn_24 mst_24 ovr_24 tgr_24 lvs_24 st_24 ffr_24 fsz_24 lkd_24 lat_24 kkd_24 kat_24 odr_24 =>
            K x4 frs_24 frt_24 top_24 bgn_24 mst_24 ovr_24 tgr_24 lvs_24 its hgh loo dfl st_24 dcs tot frm siz ffr_24 fsz_24 lkd_24 lat_24 kkd_24 kat_24 odr_24 grp ikd iat)
        else
          if x2 = 7 then
            ob13 (tw_MO_lookup fu dcs frm siz frs frt top bgn mst ovr tgr lvs st ffr fsz lkd lat x3) (fun frs_23 frt_23 top_23 bgn_23 mst_23 ovr_23 tgr_23 lvs_23 st_23 ffr_23 fsz_23 lkd_23 lat_23 =>
              K x4 frs_23 frt_23 top_23 bgn_23 mst_23 ovr_23 tgr_23 lvs_23 its hgh loo dfl st_23 dcs tot frm siz ffr_23 fsz_23 lkd_23 lat_23 kkd kat odr grp ikd iat)
          else
            if 0 ≤ x1 ∧ x1 < 136400 then
              ob1 (tw_MO_number fu st (st x1.toNatClampNeg) x3) (fun r_10 =>
                tw_MO_does_h105 fu (fun (x7_22 : Int32) (frs_22 : Int32) (frt_22 : Int32) (top_22 : Int32) (bgn_22 : Int32) (mst_22 : Int32) (ovr_22 : Bool) (tgr_22 : Bool) (lvs_22 : Int32) (its_22 : Int32) (hgh_22 : Int64) (loo_22 : Int64) (dfl_22 : Bool) (st_22 : Nat → Int32) (dcs_22 : Nat → Int32) (tot_22 : Nat → Int32) (frm_22 : Nat → Int32) (siz_22 : Nat → Int32) (ffr_22 : Nat → Int32) (fsz_22 : Nat → Int32) (lkd_22 : Nat → Int32) (lat_22 : Nat → Int32) (kkd_22 : Nat → Int32) (kat_22 : Nat → Int32) (odr_22 : Nat → Int32) (grp_22 : Nat → Int32) (ikd_22 : Nat → Int32) (iat_22 : Nat → Int32) =>
                K x4 frs_22 frt_22 top_22 bgn_22 mst_22 ovr_22 tgr_22 lvs_22 its_22 hgh_22 loo_22 dfl_22 st_22 dcs_22 tot_22 frm_22 siz_22 ffr_22 fsz_22 lkd_22 lat_22 kkd_22 kat_22 odr_22 grp_22 ikd_22 iat_22) x2 x4 r_10 fu 0 frs frt top bgn mst ovr tgr lvs its hgh loo dfl st dcs tot frm siz ffr fsz lkd lat kkd kat odr grp ikd iat)
            else
              none
def tw_MO_does (fu : Nat) (frs : Int32) (frt : Int32) (top : Int32) (bgn : Int32) (mst : Int32) (ovr : Bool) (tgr : Bool) (lvs : Int32) (its : Int32) (hgh : Int64) (loo : Int64) (dfl : Bool) (st : Nat → Int32) (dcs : Nat → Int32) (tot : Nat → Int32) (frm : Nat → Int32) (siz : Nat → Int32) (ffr : Nat → Int32) (fsz : Nat → Int32) (lkd : Nat → Int32) (lat : Nat → Int32) (kkd : Nat → Int32) (kat : Nat → Int32) (odr : Nat → Int32) (grp : Nat → Int32) (ikd : Nat → Int32) (iat : Nat → Int32) (p0 : Int32) : Option (Int32 × Int32 × Int32 × Int32 × Int32 × Int32 × Bool × Bool × Int32 × Int32 × Int64 × Int64 × Bool × (Nat → Int32) × (Nat → Int32) × (Nat → Int32) × (Nat → Int32) × (Nat → Int32) × (Nat → Int32) × (Nat → Int32) × (Nat → Int32) × (Nat → Int32) × (Nat → Int32) × (Nat → Int32) × (Nat → Int32) × (Nat → Int32) × (Nat → Int32) × (Nat → Int32)) :=
  ob1 (tw_MO_stageOf fu st p0) (fun r_1 =>
    ob1 (tw_MO_valueOf fu st p0) (fun r_2 =>
      ob4 (tw_MO_beginAll fu frs frt top tgr) (fun frs_3 frt_3 top_3 tgr_3 =>
        tw_MO_does_r19 fu (fun (y4_28 : Int32) (frs_28 : Int32) (frt_28 : Int32) (top_28 : Int32) (bgn_28 : Int32) (mst_28 : Int32) (ovr_28 : Bool) (tgr_28 : Bool) (lvs_28 : Int32) (its_28 : Int32) (hgh_28 : Int64) (loo_28 : Int64) (dfl_28 : Bool) (st_28 : Nat → Int32) (dcs_28 : Nat → Int32) (tot_28 : Nat → Int32) (frm_28 : Nat → Int32) (siz_28 : Nat → Int32) (ffr_28 : Nat → Int32) (fsz_28 : Nat → Int32) (lkd_28 : Nat → Int32) (lat_28 : Nat → Int32) (kkd_28 : Nat → Int32) (kat_28 : Nat → Int32) (odr_28 : Nat → Int32) (grp_28 : Nat → Int32) (ikd_28 : Nat → Int32) (iat_28 : Nat → Int32) =>
      if y4_28 ≤ 0 then
        ob6 (tw_MO_finish fu frs_28 tgr_28 ffr_28 fsz_28 st_28 dcs_28 tot_28 frm_28 siz_28) (fun r_30 st_30 dcs_30 tot_30 frm_30 siz_30 =>
          some (r_30, frs_28, frt_28, top_28, bgn_28, mst_28, ovr_28, tgr_28, lvs_28, its_28, hgh_28, loo_28, dfl_28, st_30, dcs_30, tot_30, frm_30, siz_30, ffr_28, fsz_28, lkd_28, lat_28, kkd_28, kat_28, odr_28, grp_28, ikd_28, iat_28))
      else
        some (y4_28, frs_28, frt_28, top_28, bgn_28, mst_28, ovr_28, tgr_28, lvs_28, its_28, hgh_28, loo_28, dfl_28, st_28, dcs_28, tot_28, frm_28, siz_28, ffr_28, fsz_28, lkd_28, lat_28, kkd_28, kat_28, odr_28, grp_28, ikd_28, iat_28)) p0 r_1 r_2 0 frs_3 frt_3 top_3 bgn mst ovr tgr_3 lvs its hgh loo dfl st dcs tot frm siz ffr fsz lkd lat kkd kat odr grp ikd iat)))
def tw_MO_put_h107 (fu : Nat) (K : Int32 → Int32 → (Nat → Int32) → (Nat → Int32) → (Nat → Int32) → (Nat → Int32) → (Nat → Int32) → Option (Int32 × Int32 × (Nat → Int32) × (Nat → Int32) × (Nat → Int32) × (Nat → Int32) × (Nat → Int32))) (p0 : Int32) (p1 : Int32) (x3 : Int32) : Nat → Int32 → Int32 → (Nat → Int32) → (Nat → Int32) → (Nat → Int32) → (Nat → Int32) → (Nat → Int32) → Option (Int32 × Int32 × (Nat → Int32) × (Nat → Int32) × (Nat → Int32) × (Nat → Int32) × (Nat → Int32))
  | 0, x4, tpd, st, dcs, tot, frm, siz => none
  | n + 1, x4, tpd, st, dcs, tot, frm, siz =>
    if p1 ≤ x4 then
      K x4 tpd st dcs tot frm siz
    else
      if 0 ≤ x3 ∧ x3 < 400 then
        if 0 ≤ (132400 + x4) ∧ (132400 + x4) < 136400 then
          if 0 ≤ ((frm x3.toNatClampNeg) + x4) ∧ ((frm x3.toNatClampNeg) + x4) < 136400 then
            tw_MO_put_h107 fu K p0 p1 x3 n (x4 + 1) tpd (upd st ((frm x3.toNatClampNeg) + x4).toNatClampNeg (st (132400 + x4).toNatClampNeg)) dcs tot frm siz
          else
            none
        else
          none
      else
        none
def tw_MO_put (fu : Nat) (tpd : Int32) (st : Nat → Int32) (dcs : Nat → Int32) (tot : Nat → Int32) (frm : Nat → Int32) (siz : Nat → Int32) (p0 : Int32) (p1 : Int32) : Option (Int32 × Int32 × (Nat → Int32) × (Nat → Int32) × (Nat → Int32) × (Nat → Int32) × (Nat → Int32)) :=
  if p0 < 0 then
    some ((-2), tpd, st, dcs, tot, frm, siz)
  else
    if 1 < p0 then
      some ((-2), tpd, st, dcs, tot, frm, siz)
    else
      if p1 < 0 then
        some ((-2), tpd, st, dcs, tot, frm, siz)
      else
        if p1 ≤ tpd then
          ob1 (tw_MO_isDocument fu st p1) (fun r_5 =>
            if (b2i r_5) = 0 then
              some ((-1), 0, st, dcs, tot, frm, siz)
            else
              if 0 ≤ p0 ∧ p0 < 2 then
                if (dcs p0.toNatClampNeg) = 200 then
                  some ((-3), 0, st, dcs, tot, frm, siz)
                else
                  if ((tot p0.toNatClampNeg) + p1) ≤ 40000 then
                    if 0 ≤ ((200 * p0) + (dcs p0.toNatClampNeg)) ∧ ((200 * p0) + (dcs p0.toNatClampNeg)) < 400 then
                      tw_MO_put_h107 fu (fun (x4_15 : Int32) (tpd_15 : Int32) (st_15 : Nat → Int32) (dcs_15 : Nat → Int32) (tot_15 : Nat → Int32) (frm_15 : Nat → Int32) (siz_15 : Nat → Int32) =>
                    some ((upd dcs_15 p0.toNatClampNeg ((dcs_15 p0.toNatClampNeg) + 1)) p0.toNatClampNeg, tpd_15, st_15, upd dcs_15 p0.toNatClampNeg ((dcs_15 p0.toNatClampNeg) + 1), upd tot_15 p0.toNatClampNeg ((tot_15 p0.toNatClampNeg) + p1), frm_15, siz_15)) p0 p1 ((200 * p0) + (dcs p0.toNatClampNeg)) fu 0 0 st dcs tot (upd frm ((200 * p0) + (dcs p0.toNatClampNeg)).toNatClampNeg ((40000 * p0) + (tot p0.toNatClampNeg))) (upd siz ((200 * p0) + (dcs p0.toNatClampNeg)).toNatClampNeg p1)
                    else
                      none
                  else
                    some ((-3), 0, st, dcs, tot, frm, siz)
              else
                none)
        else
          some ((-2), tpd, st, dcs, tot, frm, siz)
def tw_MO_stage_h32 (fu : Nat) (K : Int32 → Int32 → Int32 → Int32 → Int32 → Int32 → Int32 → Bool → Bool → Int32 → Int32 → Int64 → Int64 → Bool → (Nat → Int32) → (Nat → Int32) → (Nat → Int32) → (Nat → Int32) → (Nat → Int32) → (Nat → Int32) → (Nat → Int32) → (Nat → Int32) → (Nat → Int32) → (Nat → Int32) → (Nat → Int32) → (Nat → Int32) → (Nat → Int32) → (Nat → Int32) → (Nat → Int32) → Option (Int32 × Int32 × Int32 × Int32 × Int32 × Int32 × Int32 × Bool × Bool × Int32 × Int32 × Int64 × Int64 × Bool × (Nat → Int32) × (Nat → Int32) × (Nat → Int32) × (Nat → Int32) × (Nat → Int32) × (Nat → Int32) × (Nat → Int32) × (Nat → Int32) × (Nat → Int32) × (Nat → Int32) × (Nat → Int32) × (Nat → Int32) × (Nat → Int32) × (Nat → Int32) × (Nat → Int32))) (p0 : Int32) : Nat → Int32 → Int32 → Int32 → Int32 → Int32 → Int32 → Int32 → Bool → Bool → Int32 → Int32 → Int64 → Int64 → Bool → (Nat → Int32) → (Nat → Int32) → (Nat → Int32) → (Nat → Int32) → (Nat → Int32) → (Nat → Int32) → (Nat → Int32) → (Nat → Int32) → (Nat → Int32) → (Nat → Int32) → (Nat → Int32) → (Nat → Int32) → (Nat → Int32) → (Nat → Int32) → (Nat → Int32) → Option (Int32 × Int32 × Int32 × Int32 × Int32 × Int32 × Int32 × Bool × Bool × Int32 × Int32 × Int64 × Int64 × Bool × (Nat → Int32) × (Nat → Int32) × (Nat → Int32) × (Nat → Int32) × (Nat → Int32) × (Nat → Int32) × (Nat → Int32) × (Nat → Int32) × (Nat → Int32) × (Nat → Int32) × (Nat → Int32) × (Nat → Int32) × (Nat → Int32) × (Nat → Int32) × (Nat → Int32))
  | 0, x2, tpd, frs, frt, top, bgn, mst, ovr, tgr, lvs, its, hgh, loo, dfl, st, dcs, tot, frm, siz, ffr, fsz, lkd, lat, kkd, kat, odr, grp, ikd, iat => none
  | n + 1, x2, tpd, frs, frt, top, bgn, mst, ovr, tgr, lvs, its, hgh, loo, dfl, st, dcs, tot, frm, siz, ffr, fsz, lkd, lat, kkd, kat, odr, grp, ikd, iat =>
    if p0 ≤ x2 then
      K x2 tpd frs frt top bgn mst ovr tgr lvs its hgh loo dfl st dcs tot frm siz ffr fsz lkd lat kkd kat odr grp ikd iat
    else
      if 0 ≤ (132400 + x2) ∧ (132400 + x2) < 136400 then
        if 0 ≤ (134400 + x2) ∧ (134400 + x2) < 136400 then
          tw_MO_stage_h32 fu K p0 n (x2 + 1) tpd frs frt top bgn mst ovr tgr lvs its hgh loo dfl (upd st (134400 + x2).toNatClampNeg (st (132400 + x2).toNatClampNeg)) dcs tot frm siz ffr fsz lkd lat kkd kat odr grp ikd iat
        else
          none
      else
        none
def tw_MO_stage_r70 (fu : Nat) (K : Int32 → Int32 → Int32 → Int32 → Int32 → Int32 → Int32 → Bool → Bool → Int32 → Int32 → Int64 → Int64 → Bool → (Nat → Int32) → (Nat → Int32) → (Nat → Int32) → (Nat → Int32) → (Nat → Int32) → (Nat → Int32) → (Nat → Int32) → (Nat → Int32) → (Nat → Int32) → (Nat → Int32) → (Nat → Int32) → (Nat → Int32) → (Nat → Int32) → (Nat → Int32) → (Nat → Int32) → Option (Int32 × Int32 × Int32 × Int32 × Int32 × Int32 × Int32 × Bool × Bool × Int32 × Int32 × Int64 × Int64 × Bool × (Nat → Int32) × (Nat → Int32) × (Nat → Int32) × (Nat → Int32) × (Nat → Int32) × (Nat → Int32) × (Nat → Int32) × (Nat → Int32) × (Nat → Int32) × (Nat → Int32) × (Nat → Int32) × (Nat → Int32) × (Nat → Int32) × (Nat → Int32) × (Nat → Int32))) (x2 : Int32) (tpd : Int32) (frs : Int32) (frt : Int32) (top : Int32) (bgn : Int32) (mst : Int32) (ovr : Bool) (tgr : Bool) (lvs : Int32) (its : Int32) (hgh : Int64) (loo : Int64) (dfl : Bool) (st : Nat → Int32) (dcs : Nat → Int32) (tot : Nat → Int32) (frm : Nat → Int32) (siz : Nat → Int32) (ffr : Nat → Int32) (fsz : Nat → Int32) (lkd : Nat → Int32) (lat : Nat → Int32) (kkd : Nat → Int32) (kat : Nat → Int32) (odr : Nat → Int32) (grp : Nat → Int32) (ikd : Nat → Int32) (iat : Nat → Int32) : Option (Int32 × Int32 × Int32 × Int32 × Int32 × Int32 × Int32 × Bool × Bool × Int32 × Int32 × Int64 × Int64 × Bool × (Nat → Int32) × (Nat → Int32) × (Nat → Int32) × (Nat → Int32) × (Nat → Int32) × (Nat → Int32) × (Nat → Int32) × (Nat → Int32) × (Nat → Int32) × (Nat → Int32) × (Nat → Int32) × (Nat → Int32) × (Nat → Int32) × (Nat → Int32) × (Nat → Int32)) :=
  ob1 (tw_MO_countOf fu st 134400) (fun r_10 =>
    if r_10 = 1 then
      ob1 (tw_MO_stageFault fu st x2) (fun r_12 =>
        K r_12 tpd frs frt top bgn mst ovr tgr lvs its hgh loo dfl st dcs tot frm siz ffr fsz lkd lat kkd kat odr grp ikd iat)
    else
      K 1 tpd frs frt top bgn mst ovr tgr lvs its hgh loo dfl st dcs tot frm siz ffr fsz lkd lat kkd kat odr grp ikd iat)
def tw_MO_stage (fu : Nat) (tpd : Int32) (frs : Int32) (frt : Int32) (top : Int32) (bgn : Int32) (mst : Int32) (ovr : Bool) (tgr : Bool) (lvs : Int32) (its : Int32) (hgh : Int64) (loo : Int64) (dfl : Bool) (st : Nat → Int32) (dcs : Nat → Int32) (tot : Nat → Int32) (frm : Nat → Int32) (siz : Nat → Int32) (ffr : Nat → Int32) (fsz : Nat → Int32) (lkd : Nat → Int32) (lat : Nat → Int32) (kkd : Nat → Int32) (kat : Nat → Int32) (odr : Nat → Int32) (grp : Nat → Int32) (ikd : Nat → Int32) (iat : Nat → Int32) (p0 : Int32) : Option (Int32 × Int32 × Int32 × Int32 × Int32 × Int32 × Int32 × Bool × Bool × Int32 × Int32 × Int64 × Int64 × Bool × (Nat → Int32) × (Nat → Int32) × (Nat → Int32) × (Nat → Int32) × (Nat → Int32) × (Nat → Int32) × (Nat → Int32) × (Nat → Int32) × (Nat → Int32) × (Nat → Int32) × (Nat → Int32) × (Nat → Int32) × (Nat → Int32) × (Nat → Int32) × (Nat → Int32)) :=
  if p0 < 0 then
    some ((-2), tpd, frs, frt, top, bgn, mst, ovr, tgr, lvs, its, hgh, loo, dfl, st, dcs, tot, frm, siz, ffr, fsz, lkd, lat, kkd, kat, odr, grp, ikd, iat)
  else
    if p0 ≤ tpd then
      ob1 (tw_MO_isDocument fu st p0) (fun r_3 =>
        if (b2i r_3) = 0 then
          some ((-1), 0, frs, frt, top, bgn, mst, ovr, tgr, lvs, its, hgh, loo, dfl, st, dcs, tot, frm, siz, ffr, fsz, lkd, lat, kkd, kat, odr, grp, ikd, iat)
        else
          tw_MO_stage_h32 fu (fun (x2_8 : Int32) (tpd_8 : Int32) (frs_8 : Int32) (frt_8 : Int32) (top_8 : Int32) (bgn_8 : Int32) (mst_8 : Int32) (ovr_8 : Bool) (tgr_8 : Bool) (lvs_8 : Int32) (its_8 : Int32) (hgh_8 : Int64) (loo_8 : Int64) (dfl_8 : Bool) (st_8 : Nat → Int32) (dcs_8 : Nat → Int32) (tot_8 : Nat → Int32) (frm_8 : Nat → Int32) (siz_8 : Nat → Int32) (ffr_8 : Nat → Int32) (fsz_8 : Nat → Int32) (lkd_8 : Nat → Int32) (lat_8 : Nat → Int32) (kkd_8 : Nat → Int32) (kat_8 : Nat → Int32) (odr_8 : Nat → Int32) (grp_8 : Nat → Int32) (ikd_8 : Nat → Int32) (iat_8 : Nat → Int32) =>
            ob1 (tw_MO_firstOf fu st_8 134400) (fun r_9 =>
              tw_MO_stage_r70 fu (fun (y3_13 : Int32) (tpd_13 : Int32) (frs_13 : Int32) (frt_13 : Int32) (top_13 : Int32) (bgn_13 : Int32) (mst_13 : Int32) (ovr_13 : Bool) (tgr_13 : Bool) (lvs_13 : Int32) (its_13 : Int32) (hgh_13 : Int64) (loo_13 : Int64) (dfl_13 : Bool) (st_13 : Nat → Int32) (dcs_13 : Nat → Int32) (tot_13 : Nat → Int32) (frm_13 : Nat → Int32) (siz_13 : Nat → Int32) (ffr_13 : Nat → Int32) (fsz_13 : Nat → Int32) (lkd_13 : Nat → Int32) (lat_13 : Nat → Int32) (kkd_13 : Nat → Int32) (kat_13 : Nat → Int32) (odr_13 : Nat → Int32) (grp_13 : Nat → Int32) (ikd_13 : Nat → Int32) (iat_13 : Nat → Int32) =>
            if y3_13 = 0 then
              ob28 (tw_MO_does fu frs_13 frt_13 top_13 bgn_13 mst_13 ovr_13 tgr_13 lvs_13 its_13 hgh_13 loo_13 dfl_13 st_13 dcs_13 tot_13 frm_13 siz_13 ffr_13 fsz_13 lkd_13 lat_13 kkd_13 kat_13 odr_13 grp_13 ikd_13 iat_13 r_9) (fun r_16 frs_16 frt_16 top_16 bgn_16 mst_16 ovr_16 tgr_16 lvs_16 its_16 hgh_16 loo_16 dfl_16 st_16 dcs_16 tot_16 frm_16 siz_16 ffr_16 fsz_16 lkd_16 lat_16 kkd_16 kat_16 odr_16 grp_16 ikd_16 iat_16 =>
                if r_16 ≤ 0 then
                  some (dcs_16 (0 : Int32).toNatClampNeg, tpd_13, frs_16, frt_16, top_16, bgn_16, mst_16, ovr_16, tgr_16, lvs_16, its_16, hgh_16, loo_16, dfl_16, st_16, dcs_16, tot_16, frm_16, siz_16, ffr_16, fsz_16, lkd_16, lat_16, kkd_16, kat_16, odr_16, grp_16, ikd_16, iat_16)
                else
                  some (r_16 - 10, tpd_13, frs_16, frt_16, top_16, bgn_16, mst_16, ovr_16, tgr_16, lvs_16, its_16, hgh_16, loo_16, dfl_16, st_16, dcs_16, tot_16, frm_16, siz_16, ffr_16, fsz_16, lkd_16, lat_16, kkd_16, kat_16, odr_16, grp_16, ikd_16, iat_16))
            else
              if y3_13 ≤ 0 then
                some (dcs_13 (0 : Int32).toNatClampNeg, tpd_13, frs_13, frt_13, top_13, bgn_13, mst_13, ovr_13, tgr_13, lvs_13, its_13, hgh_13, loo_13, dfl_13, st_13, dcs_13, tot_13, frm_13, siz_13, ffr_13, fsz_13, lkd_13, lat_13, kkd_13, kat_13, odr_13, grp_13, ikd_13, iat_13)
              else
                some (y3_13 - 10, tpd_13, frs_13, frt_13, top_13, bgn_13, mst_13, ovr_13, tgr_13, lvs_13, its_13, hgh_13, loo_13, dfl_13, st_13, dcs_13, tot_13, frm_13, siz_13, ffr_13, fsz_13, lkd_13, lat_13, kkd_13, kat_13, odr_13, grp_13, ikd_13, iat_13)) r_9 tpd_8 frs_8 frt_8 top_8 bgn_8 mst_8 ovr_8 tgr_8 lvs_8 its_8 hgh_8 loo_8 dfl_8 st_8 dcs_8 tot_8 frm_8 siz_8 ffr_8 fsz_8 lkd_8 lat_8 kkd_8 kat_8 odr_8 grp_8 ikd_8 iat_8)) p0 fu 0 0 frs frt top bgn mst ovr tgr lvs its hgh loo dfl st dcs tot frm siz ffr fsz lkd lat kkd kat odr grp ikd iat)
    else
      some ((-2), tpd, frs, frt, top, bgn, mst, ovr, tgr, lvs, its, hgh, loo, dfl, st, dcs, tot, frm, siz, ffr, fsz, lkd, lat, kkd, kat, odr, grp, ikd, iat)
