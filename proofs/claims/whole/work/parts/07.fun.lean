def JStr_length (F w : Nat) (M : zM) : Option (Int32 × zM) := some (Int32.ofNat (zSl.getD w 0), M)
def JStr_charAt (F w : Nat) (x1 : Int32) (M : zM) : Option (Int32 × zM) := if inb x1 (zSl.getD w 0) = true then some ((zSb.getD w []).getD x1.toNatClampNeg 0, M) else none
def Cla_empty (F : Nat)  (M : zM) : Option (Unit × zM) :=
  lt (zI M 3 0 0) fun M_1 =>
  some ((), M_1)
def Cla_count (F : Nat)  (M : zM) : Option (Int32 × zM) :=
  some (M.1 3 0, M)
def Cla_isFull (F : Nat)  (M : zM) : Option (Int32 × zM) :=
  if (M.1 3 0) < 12 then
    if 0 &&& 1 = 0 then some (0, M) else none
  else
    if 1 &&& 1 = 1 then some (1, M) else none
def Cla_isWord (F : Nat) (x1 : Int32) (M : zM) : Option (Int32 × zM) :=
  if inb x1 12 = true then
    if (M.1 6 x1.toNatClampNeg) = 0 then
      if 1 &&& 1 = 1 then some (1, M) else none
    else
      if 0 &&& 1 = 0 then some (0, M) else none
  else none
def Cla_hasWord_B2 (F : Nat) (x1 : Int32) : (Int32 × zM) → Option (Nat × (Int32 × zM)) := fun (x2, M) =>
  if (M.1 3 0) ≤ x2 then
    some (2, 0, M)
  else
    (Cla_isWord F x2 M).bind fun (r_2, M_3) =>
    if r_2 = 0 then
      lt (x2 + 1) fun x2_6 =>
      some (0, x2_6, M_3)
    else
      if inb x2 12 = true then
        if (M_3.1 4 x2.toNatClampNeg) = x1 then
          some (1, 0, M_3)
        else
          lt (x2 + 1) fun x2_10 =>
          some (0, x2_10, M_3)
      else none
def Cla_hasWord (F : Nat) (x1 : Int32) (M : zM) : Option (Int32 × zM) :=
  (loopN (Cla_hasWord_B2 F x1) F (0, M)).bind fun (k_14, x2_12, M_13) =>
    if k_14 = 1 then
      if 1 &&& 1 = 1 then some (1, M_13) else none
    else
      if k_14 = 2 then
        if 0 &&& 1 = 0 then some (0, M_13) else none
      else
        none
def Cla_open (F : Nat) (x1 : Int32) (x2 : Int32) (x3 : Int32) (M : zM) : Option (Unit × zM) :=
  if 12 ≤ (M.1 3 0) then
    some ((), M)
  else
    if inb (M.1 3 0) 12 = true then
      lt (zI M 4 (M.1 3 0).toNatClampNeg x1) fun M_3 =>
      if inb (M_3.1 3 0) 12 = true then
        lt (zI M_3 5 (M_3.1 3 0).toNatClampNeg x2) fun M_6 =>
        if inb (M_6.1 3 0) 12 = true then
          lt (zI M_6 6 (M_6.1 3 0).toNatClampNeg x3) fun M_9 =>
          if inb (M_9.1 3 0) 12 = true then
            lt (zI M_9 7 (M_9.1 3 0).toNatClampNeg 0) fun M_12 =>
            lt (zI M_12 3 0 ((M_12.1 3 0) + 1)) fun M_14 =>
            some ((), M_14)
          else none
        else none
      else none
    else none
def Cla_latestParts (F : Nat)  (M : zM) : Option (Int32 × zM) :=
  if (M.1 3 0) = 0 then
    some (0, M)
  else
    if inb ((M.1 3 0) - 1) 12 = true then
      some (M.1 7 ((M.1 3 0) - 1).toNatClampNeg, M)
    else none
def Cla_addPart (F : Nat) (x1 : Int32) (x2 : Int32) (x3 : Int64) (x5 : Int32) (M : zM) : Option (Unit × zM) :=
  if (M.1 3 0) ≤ 0 then
    some ((), M)
  else
    if inb ((M.1 3 0) - 1) 12 = true then
      if 8 ≤ (M.1 7 ((M.1 3 0) - 1).toNatClampNeg) then
        some ((), M)
      else
        lt ((((M.1 3 0) - 1) * 8) + (M.1 7 ((M.1 3 0) - 1).toNatClampNeg)) fun x6_4 =>
        if inb x6_4 96 = true then
          lt (zI M 8 x6_4.toNatClampNeg x1) fun M_7 =>
          lt (zI M_7 9 x6_4.toNatClampNeg (x2 &&& 1)) fun M_9 =>
          lt (zL M_9 10 x6_4.toNatClampNeg x3) fun M_11 =>
          lt (zI M_11 11 x6_4.toNatClampNeg x5) fun M_13 =>
          lt ((M_13.1 3 0) - 1) fun d_15 =>
          if inb d_15 12 = true then
            lt (zI M_13 7 d_15.toNatClampNeg ((M_13.1 7 d_15.toNatClampNeg) + 1)) fun M_18 =>
            some ((), M_18)
          else none
        else none
    else none
def Dis_size (F : Nat)  (M : zM) : Option (Int32 × zM) :=
  some (M.1 59 1, M)
def JArr_fill_L_B6 (F : Nat) (a0 : Nat) (x1 : Int64) (x4 : Int32) : (Int32 × zM) → Option (Nat × (Int32 × zM)) := fun (x3, M) =>
  if x4 ≤ x3 then
    some (1, 0, M)
  else
    if inb x3 (zN a0) = true then
      lt (zL M a0 x3.toNatClampNeg x1) fun M_5 =>
      lt (x3 + 1) fun x3_7 =>
      some (0, x3_7, M_5)
    else none
def JArr_fill_L (F : Nat) (a0 : Nat) (x1 : Int64) (M : zM) : Option (Unit × zM) :=
  lt (Int32.ofNat (zN a0)) fun x4_1 =>
  (loopN (JArr_fill_L_B6 F a0 x1 x4_1) F (0, M)).bind fun (k_11, x3_9, M_10) =>
    if k_11 = 1 then
      some ((), M_10)
    else
      none
def Spe_signs (F : Nat) (a0 : Nat) (x1 : Int32) (x2 : Int32) (M : zM) : Option (Int64 × zM) :=
  lt ((x1 * 5) + x2) fun x3_1 =>
  if x3_1 < 0 then
    some (0, M)
  else
    if (Int32.ofNat (zN (a0 + 1))) ≤ x3_1 then
      some (0, M)
    else
      if inb x3_1 (zN (a0 + 1)) = true then
        some (M.2 (a0 + 1) x3_1.toNatClampNeg, M)
      else none
def Lin_signIn (F : Nat) (x0 : Int64) (x2 : Int32) (M : zM) : Option (Int32 × zM) :=
  some (((ur x0 x2).toInt32) &&& 31, M)
def Dis_from_B32 (F : Nat) (a1 : Nat) (x2 : Int32) (x3 : Int32) (x4 : Int64) : (Int32 × zM) → Option (Nat × (Int32 × zM)) := fun (x6, M) =>
  if x6 < 0 then
    some (2, 0, M)
  else
    (Lin_signIn F x4 x6 M).bind fun (r_11, M_12) =>
    if r_11 = 0 then
      some (1, 0, M_12)
    else
      if inb r_11 32 = true then
        lt (zL M_12 60 r_11.toNatClampNeg ((M_12.2 60 r_11.toNatClampNeg) ||| (sl 1 (M_12.1 59 1)))) fun M_16 =>
        lt (zI M_16 59 1 ((M_16.1 59 1) + 1)) fun M_18 =>
        lt (x6 + (-5)) fun x6_20 =>
        some (0, x6_20, M_18)
      else none
def Dis_from_B15 (F : Nat) (a1 : Nat) (x2 : Int32) : (Int32 × zM) → Option (Nat × (Int32 × zM)) := fun (x3, M) =>
  if 5 ≤ x3 then
    some (2, 0, M)
  else
    (Spe_signs F a1 x2 x3 M).bind fun (r_7, M_8) =>
    (loopN (Dis_from_B32 F a1 x2 x3 r_7) F (55, M_8)).bind fun (k_24, x6_22, M_23) =>
      if k_24 = 1 then
        some (1, 0, M_23)
      else
        if k_24 = 2 then
          lt (x3 + 1) fun x3_26 =>
          some (0, x3_26, M_23)
        else
          none
def Dis_from (F : Nat) (a1 : Nat) (x2 : Int32) (M : zM) : Option (Unit × zM) :=
  (JArr_fill_L F 60 0 M).bind fun (_r_1, M_2) =>
  lt (zI M_2 59 1 0) fun M_4 =>
  (loopN (Dis_from_B15 F a1 x2) F (0, M_4)).bind fun (k_32, x3_30, M_31) =>
    if k_32 = 1 then
      some ((), M_31)
    else
      if k_32 = 2 then
        some ((), M_31)
      else
        none
def Dis_to_J155 (F : Nat) (a1 : Nat) (x2 : Int32) (x5 : Int64) (x7 : Int64) (x9 : Int32) (x10 : Int32) (x11 : Int64) (x13 : Int32) (x15 : Int64) (x19 : Int64) (x21 : Int64) (M : zM) : Option (Nat × (Int64 × Int64 × Int32 × Int32 × zM)) :=
  lt ((sl x19 1) ||| 1) fun x19_25 =>
  lt ((sl x21 1) ||| (((x15 ||| x5) ||| x19_25) ^^^ (-1))) fun x3_27 =>
  lt (x19_25 &&& (x15 ||| x5)) fun x5_29 =>
  lt (x13 + (-5)) fun x13_31 =>
  some (0, x3_27, x5_29, x9, x13_31, M)
def Dis_to_J136 (F : Nat) (a1 : Nat) (x2 : Int32) (x5 : Int64) (x7 : Int64) (x9 : Int32) (x10 : Int32) (x11 : Int64) (x13 : Int32) (x15 : Int64) (x19 : Int64) (x21 : Int64) (M : zM) : Option (Nat × (Int64 × Int64 × Int32 × Int32 × zM)) :=
  lt (x9 + 1) fun x9_23 =>
  Dis_to_J155 F a1 x2 x5 x7 x9_23 x10 x11 x13 x15 x19 x21 M
def Dis_to_B56 (F : Nat) (a1 : Nat) (x2 : Int32) (x7 : Int64) (x10 : Int32) (x11 : Int64) : (Int64 × Int64 × Int32 × Int32 × zM) → Option (Nat × (Int64 × Int64 × Int32 × Int32 × zM)) := fun (x3, x5, x9, x13, M) =>
  if x13 < 0 then
    some (2, x3, x5, x9, 0, M)
  else
    (Lin_signIn F x11 x13 M).bind fun (r_9, M_10) =>
    if r_9 = 0 then
      some (1, 0, 0, x9, 0, M_10)
    else
      if inb r_9 32 = true then
        lt (M_10.2 60 r_9.toNatClampNeg) fun x15_14 =>
        lt ((((x15_14 &&& x3) + x3) ^^^ x3) ||| x15_14) fun x17_16 =>
        lt (x5 ||| ((x17_16 ||| x3) ^^^ (-1))) fun x19_18 =>
        lt (x3 &&& x17_16) fun x21_20 =>
        if (M_10.1 59 1) = 0 then
          Dis_to_J136 F a1 x2 x5 x7 x9 x10 x11 x13 x15_14 x19_18 x21_20 M_10
        else
          if (lg_cmp (x19_18 &&& x7) 0) = 0 then
            if (lg_cmp (x21_20 &&& x7) 0) = 0 then
              Dis_to_J155 F a1 x2 x5 x7 x9 x10 x11 x13 x15_14 x19_18 x21_20 M_10
            else
              lt (x9 + (-1)) fun x9_35 =>
              Dis_to_J155 F a1 x2 x5 x7 x9_35 x10 x11 x13 x15_14 x19_18 x21_20 M_10
          else
            Dis_to_J136 F a1 x2 x5 x7 x9 x10 x11 x13 x15_14 x19_18 x21_20 M_10
      else none
def Dis_to_B37 (F : Nat) (a1 : Nat) (x2 : Int32) (x7 : Int64) : (Int64 × Int64 × Int32 × Int32 × zM) → Option (Nat × (Int64 × Int64 × Int32 × Int32 × zM)) := fun (x3, x5, x9, x10, M) =>
  if 5 ≤ x10 then
    some (2, 0, 0, x9, 0, M)
  else
    (Spe_signs F a1 x2 x10 M).bind fun (r_5, M_6) =>
    (loopN (Dis_to_B56 F a1 x2 x7 x10 r_5) F (x3, x5, x9, 55, M_6)).bind fun (k_42, x3_37, x5_38, x9_39, x13_40, M_41) =>
      if k_42 = 1 then
        some (1, 0, 0, x9_39, 0, M_41)
      else
        if k_42 = 2 then
          lt (x10 + 1) fun x10_44 =>
          some (0, x3_37, x5_38, x9_39, x10_44, M_41)
        else
          none
def Dis_to_J26 (F : Nat) (a1 : Nat) (x2 : Int32) (x3 : Int64) (x5 : Int64) (y0 : Int64) (M : zM) : Option (Int32 × zM) :=
  lt (M.1 59 1) fun x9_2 =>
  (loopN (Dis_to_B37 F a1 x2 y0) F (x3, x5, x9_2, 0, M)).bind fun (k_53, x3_48, x5_49, x9_50, x10_51, M_52) =>
    if k_53 = 1 then
      some (x9_50, M_52)
    else
      if k_53 = 2 then
        some (x9_50, M_52)
      else
        none
def Dis_to (F : Nat) (a1 : Nat) (x2 : Int32) (M : zM) : Option (Int32 × zM) :=
  if (M.1 59 1) ≤ 0 then
    Dis_to_J26 F a1 x2 (-1) 0 0 M
  else
    Dis_to_J26 F a1 x2 (-1) 0 (sl 1 ((M.1 59 1) - 1)) M
def Gra_faultNumber (F : Nat)  (M : zM) : Option (Int32 × zM) :=
  some (M.1 12 2, M)
def Gra_faultByte (F : Nat)  (M : zM) : Option (Int32 × zM) :=
  some (M.1 12 3, M)
def Tex_moveTo (F : Nat) (x1 : Int32) (M : zM) : Option (Unit × zM) :=
  lt (zI M 1 2 x1) fun M_1 =>
  some ((), M_1)
def Tex_skipBlanks_B0 (F : Nat)  : zM → Option (Nat × zM) := fun (M) =>
  if (M.1 1 1) ≤ (M.1 1 2) then
    some (1, M)
  else
    if inb (M.1 1 2) 240 = true then
      if (M.1 2 (M.1 1 2).toNatClampNeg) = 32 then
        lt (zI M 1 2 ((M.1 1 2) + 1)) fun M_4 =>
        some (0, M_4)
      else
        some (1, M)
    else none
def Tex_skipBlanks (F : Nat)  (M : zM) : Option (Unit × zM) :=
  (loopN (Tex_skipBlanks_B0 F ) F (M)).bind fun (k_7, M_6) =>
    if k_7 = 1 then
      some ((), M_6)
    else
      none
def Tex_byteAt (F : Nat) (x1 : Int32) (M : zM) : Option (Int32 × zM) :=
  if x1 < 0 then
    some ((-1), M)
  else
    if (M.1 1 1) ≤ x1 then
      some ((-1), M)
    else
      if inb x1 240 = true then
        some ((M.1 2 x1.toNatClampNeg) &&& 255, M)
      else none
def Tex_current (F : Nat)  (M : zM) : Option (Int32 × zM) :=
  (Tex_byteAt F (M.1 1 2) M).bind fun (r_1, M_2) =>
  some (r_1, M_2)
def Tex_endOf_B5 (F : Nat) (x1 : Int32) (x2 : Int32) : (Int32 × zM) → Option (Nat × (Int32 × zM)) := fun (x3, M) =>
  if (M.1 1 1) ≤ x3 then
    some (1, x3, M)
  else
    if inb x3 240 = true then
      if (M.1 2 x3.toNatClampNeg) < x1 then
        some (1, x3, M)
      else
        if x2 < (M.1 2 x3.toNatClampNeg) then
          some (1, x3, M)
        else
          lt (x3 + 1) fun x3_7 =>
          some (0, x3_7, M)
    else none
def Tex_endOf (F : Nat) (x1 : Int32) (x2 : Int32) (M : zM) : Option (Int32 × zM) :=
  lt (M.1 1 2) fun x3_1 =>
  (loopN (Tex_endOf_B5 F x1 x2) F (x3_1, M)).bind fun (k_11, x3_9, M_10) =>
    if k_11 = 1 then
      some (x3_9, M_10)
    else
      none
def Tex_wordIs_B24 (F : Nat) (w1 : Nat) : (Int32 × zM) → Option (Nat × (Int32 × zM)) := fun (x2, M) =>
  (JStr_length F w1 M).bind fun (r_8, M_9) =>
  if r_8 ≤ x2 then
    some (2, 0, M_9)
  else
    (Tex_byteAt F ((M_9.1 1 2) + x2) M_9).bind fun (r_12, M_13) =>
    (JStr_charAt F w1 x2 M_13).bind fun (r_15, M_16) =>
    if r_12 = r_15 then
      lt (x2 + 1) fun x2_19 =>
      some (0, x2_19, M_16)
    else
      some (1, 0, M_16)
def Tex_wordIs (F : Nat) (w1 : Nat) (M : zM) : Option (Int32 × zM) :=
  (Tex_endOf F 97 122 M).bind fun (r_1, M_2) =>
  (JStr_length F w1 M_2).bind fun (r_4, M_5) =>
  if (r_1 - (M_2.1 1 2)) = r_4 then
    (loopN (Tex_wordIs_B24 F w1) F (0, M_5)).bind fun (k_23, x2_21, M_22) =>
      if k_23 = 1 then
        if 0 &&& 1 = 0 then some (0, M_22) else none
      else
        if k_23 = 2 then
          if 1 &&& 1 = 1 then some (1, M_22) else none
        else
          none
  else
    if 0 &&& 1 = 0 then some (0, M_5) else none
def Tex_at (F : Nat)  (M : zM) : Option (Int32 × zM) :=
  some (M.1 1 2, M)
def Gra_fail (F : Nat) (x1 : Int32) (x2 : Int32) (M : zM) : Option (Int32 × zM) :=
  lt (zI M 12 2 x1) fun M_1 =>
  lt (zI M_1 12 3 x2) fun M_3 =>
  if 0 &&& 1 = 0 then some (0, M_3) else none
def Gra_parseKeyword (F : Nat) (w1 : Nat) (M : zM) : Option (Int32 × zM) :=
  (Tex_skipBlanks F  M).bind fun (_r_1, M_2) =>
  (Tex_wordIs F w1 M_2).bind fun (r_4, M_5) =>
  if r_4 = 0 then
    (Tex_at F  M_5).bind fun (r_17, M_18) =>
    (Gra_fail F 1 r_17 M_18).bind fun (r_20, M_21) =>
    if r_20 &&& 1 = r_20 then some (r_20, M_21) else none
  else
    (Tex_at F  M_5).bind fun (r_8, M_9) =>
    (JStr_length F w1 M_9).bind fun (r_11, M_12) =>
    (Tex_moveTo F (r_8 + r_11) M_12).bind fun (_r_14, M_15) =>
    if 1 &&& 1 = 1 then some (1, M_15) else none
def Gra_parseNumber_B49 (F : Nat) (x1 : Int32) (x2 : Int32) (x3 : Int32) (x4 : Int32) : (Int32 × Int32 × zM) → Option (Nat × (Int32 × Int32 × zM)) := fun (x5, x6, M) =>
  if x4 ≤ x6 then
    some (1, x5, 0, M)
  else
    if (x3 + 3) ≤ x6 then
      some (1, x5, 0, M)
    else
      (Tex_byteAt F x6 M).bind fun (r_13, M_14) =>
      lt (((x5 * 10) + r_13) - 48) fun x5_16 =>
      lt (x6 + 1) fun x6_18 =>
      some (0, x5_16, x6_18, M_14)
def Gra_parseNumber_J110 (F : Nat) (x3 : Int32) (M : zM) : Option (Int32 × zM) :=
  (Gra_fail F 2 x3 M).bind fun (r_26, M_27) =>
  some ((-1), M_27)
def Gra_parseNumber_J90 (F : Nat) (x1 : Int32) (x2 : Int32) (x3 : Int32) (x4 : Int32) (x5 : Int32) (M : zM) : Option (Int32 × zM) :=
  if 3 < (x4 - x3) then
    Gra_parseNumber_J110 F x3 M
  else
    if x5 < x1 then
      Gra_parseNumber_J110 F x3 M
    else
      if x5 ≤ x2 then
        (Tex_moveTo F x4 M).bind fun (_r_31, M_32) =>
        some (x5, M_32)
      else
        Gra_parseNumber_J110 F x3 M
def Gra_parseNumber (F : Nat) (x1 : Int32) (x2 : Int32) (M : zM) : Option (Int32 × zM) :=
  (Tex_skipBlanks F  M).bind fun (_r_1, M_2) =>
  (Tex_at F  M_2).bind fun (r_4, M_5) =>
  (Tex_endOf F 48 57 M_5).bind fun (r_7, M_8) =>
  if r_7 = r_4 then
    (Gra_fail F 1 r_4 M_8).bind fun (r_35, M_36) =>
    some ((-1), M_36)
  else
    (loopN (Gra_parseNumber_B49 F x1 x2 r_4 r_7) F (0, r_4, M_8)).bind fun (k_23, x5_20, x6_21, M_22) =>
      if k_23 = 1 then
        Gra_parseNumber_J90 F x1 x2 r_4 r_7 x5_20 M_22
      else
        none
def Lin_signOf (F : Nat) (x0 : Int32) (M : zM) : Option (Int64 × zM) :=
  if x0 = 32 then
    some (sl ((1 : Int32).toInt64) 55, M)
  else
    some (sl ((x0 - 95).toInt64) 55, M)
def Gra_signsOf_B5 (F : Nat) (x1 : Int32) (x2 : Int32) : (Int64 × Int32 × zM) → Option (Nat × (Int64 × Int32 × zM)) := fun (x3, x5, M) =>
  if x2 ≤ x5 then
    some (1, x3, 0, M)
  else
    (Tex_byteAt F x5 M).bind fun (r_2, M_3) =>
    (Lin_signOf F r_2 M_3).bind fun (r_5, M_6) =>
    lt (x3 ||| (ur r_5 (5 * (x5 - x1)))) fun x3_8 =>
    lt (x5 + 1) fun x5_10 =>
    some (0, x3_8, x5_10, M_6)
def Gra_signsOf (F : Nat) (x1 : Int32) (x2 : Int32) (M : zM) : Option (Int64 × zM) :=
  (loopN (Gra_signsOf_B5 F x1 x2) F (0, x1, M)).bind fun (k_15, x3_12, x5_13, M_14) =>
    if k_15 = 1 then
      some (x3_12, M_14)
    else
      none
def Gra_parseLetters (F : Nat) (x1 : Int32) (M : zM) : Option (Int32 × zM) :=
  (Tex_at F  M).bind fun (r_1, M_2) =>
  (Tex_endOf F 97 122 M_2).bind fun (r_4, M_5) =>
  if r_4 = r_1 then
    (Gra_fail F 1 r_1 M_5).bind fun (r_21, M_22) =>
    if r_21 &&& 1 = r_21 then some (r_21, M_22) else none
  else
    if (r_4 - r_1) ≤ 12 then
      (Gra_signsOf F r_1 r_4 M_5).bind fun (r_9, M_10) =>
      (Cla_addPart F 0 x1 r_9 (r_4 - r_1) M_10).bind fun (_r_12, M_13) =>
      (Tex_moveTo F r_4 M_13).bind fun (_r_15, M_16) =>
      if 1 &&& 1 = 1 then some (1, M_16) else none
    else
      (Gra_fail F 4 (r_1 + 12) M_5).bind fun (r_18, M_19) =>
      if r_18 &&& 1 = r_18 then some (r_18, M_19) else none
def Gra_parseSign (F : Nat) (x1 : Int32) (M : zM) : Option (Int32 × zM) :=
  (Tex_skipBlanks F  M).bind fun (_r_1, M_2) =>
  (Tex_current F  M_2).bind fun (r_4, M_5) =>
  if r_4 = x1 then
    (Tex_at F  M_5).bind fun (r_8, M_9) =>
    (Tex_moveTo F (r_8 + 1) M_9).bind fun (_r_11, M_12) =>
    if 1 &&& 1 = 1 then some (1, M_12) else none
  else
    (Tex_at F  M_5).bind fun (r_14, M_15) =>
    (Gra_fail F 1 r_14 M_15).bind fun (r_17, M_18) =>
    if r_17 &&& 1 = r_17 then some (r_17, M_18) else none
def Gra_parseWord (F : Nat)  (M : zM) : Option (Int32 × zM) :=
  (Gra_parseKeyword F 0 M).bind fun (r_1, M_2) =>
  if r_1 = 0 then
    if 0 &&& 1 = 0 then some (0, M_2) else none
  else
    (Tex_skipBlanks F  M_2).bind fun (_r_5, M_6) =>
    (Tex_at F  M_6).bind fun (r_8, M_9) =>
    (Gra_parseNumber F 0 999 M_9).bind fun (r_11, M_12) =>
    if r_11 = (-1) then
      if 0 &&& 1 = 0 then some (0, M_12) else none
    else
      (Cla_hasWord F r_11 M_12).bind fun (r_15, M_16) =>
      if r_15 = 0 then
        (Cla_open F r_11 r_11 0 M_16).bind fun (_r_19, M_20) =>
        (Tex_skipBlanks F  M_20).bind fun (_r_22, M_23) =>
        (Gra_parseLetters F 0 M_23).bind fun (r_25, M_26) =>
        if r_25 = 0 then
          if 0 &&& 1 = 0 then some (0, M_26) else none
        else
          (Gra_parseSign F 59 M_26).bind fun (r_29, M_30) =>
          if r_29 = 0 then
            if 0 &&& 1 = 0 then some (0, M_30) else none
          else
            if 1 &&& 1 = 1 then some (1, M_30) else none
      else
        (Gra_fail F 3 r_8 M_16).bind fun (r_33, M_34) =>
        if r_33 &&& 1 = r_33 then some (r_33, M_34) else none
def Gra_parseHead (F : Nat)  (M : zM) : Option (Int32 × zM) :=
  (Gra_parseKeyword F 1 M).bind fun (r_1, M_2) =>
  if r_1 = 0 then
    if 0 &&& 1 = 0 then some (0, M_2) else none
  else
    (Gra_parseNumber F 0 999 M_2).bind fun (r_5, M_6) =>
    if r_5 = (-1) then
      if 0 &&& 1 = 0 then some (0, M_6) else none
    else
      (Gra_parseKeyword F 2 M_6).bind fun (r_9, M_10) =>
      if r_9 = 0 then
        if 0 &&& 1 = 0 then some (0, M_10) else none
      else
        (Gra_parseNumber F r_5 999 M_10).bind fun (r_13, M_14) =>
        if r_13 = (-1) then
          if 0 &&& 1 = 0 then some (0, M_14) else none
        else
          (Gra_parseKeyword F 3 M_14).bind fun (r_17, M_18) =>
          if r_17 = 0 then
            if 0 &&& 1 = 0 then some (0, M_18) else none
          else
            (Gra_parseNumber F 2 500 M_18).bind fun (r_21, M_22) =>
            if r_21 = (-1) then
              if 0 &&& 1 = 0 then some (0, M_22) else none
            else
              (Gra_parseSign F 58 M_22).bind fun (r_25, M_26) =>
              if r_25 = 0 then
                if 0 &&& 1 = 0 then some (0, M_26) else none
              else
                (Cla_open F r_5 r_13 r_21 M_26).bind fun (_r_29, M_30) =>
                if 1 &&& 1 = 1 then some (1, M_30) else none
def Gra_parseAsked_J56 (F : Nat) (x1 : Int32) (x2 : Int32) (x3 : Int32) (M : zM) : Option (Int32 × zM) :=
  (Cla_addPart F x3 x1 0 0 M).bind fun (_r_10, M_11) =>
  (Tex_moveTo F (x2 + 1) M_11).bind fun (_r_13, M_14) =>
  if 1 &&& 1 = 1 then some (1, M_14) else none
def Gra_parseAsked (F : Nat) (x1 : Int32) (M : zM) : Option (Int32 × zM) :=
  (Tex_at F  M).bind fun (r_1, M_2) =>
  lt (r_1 + 1) fun x2_4 =>
  (Tex_byteAt F x2_4 M_2).bind fun (r_6, M_7) =>
  if r_6 = 113 then
    Gra_parseAsked_J56 F x1 x2_4 r_6 M_7
  else
    if r_6 = 116 then
      Gra_parseAsked_J56 F x1 x2_4 r_6 M_7
    else
      if r_6 = 114 then
        Gra_parseAsked_J56 F x1 x2_4 r_6 M_7
      else
        if r_6 = 99 then
          Gra_parseAsked_J56 F x1 x2_4 r_6 M_7
        else
          if r_6 = 110 then
            Gra_parseAsked_J56 F x1 x2_4 r_6 M_7
          else
            (Gra_fail F 1 x2_4 M_7).bind fun (r_20, M_21) =>
            if r_20 &&& 1 = r_20 then some (r_20, M_21) else none
def Gra_parsePart_J31 (F : Nat) (x1 : Int32) (x2 : Int32) (M : zM) : Option (Int32 × zM) :=
  (Cla_latestParts F  M).bind fun (r_2, M_3) =>
  if r_2 < 8 then
    if x1 = 35 then
      (Gra_parseAsked F x2 M_3).bind fun (r_10, M_11) =>
      if r_10 &&& 1 = r_10 then some (r_10, M_11) else none
    else
      (Gra_parseLetters F x2 M_3).bind fun (r_7, M_8) =>
      if r_7 &&& 1 = r_7 then some (r_7, M_8) else none
  else
    (Tex_at F  M_3).bind fun (r_13, M_14) =>
    (Gra_fail F 6 r_13 M_14).bind fun (r_16, M_17) =>
    if r_16 &&& 1 = r_16 then some (r_16, M_17) else none
def Gra_parsePart_J18 (F : Nat)  (M : zM) : Option (Int32 × zM) :=
  (Tex_at F  M).bind fun (r_20, M_21) =>
  (Gra_fail F 1 r_20 M_21).bind fun (r_23, M_24) =>
  if r_23 &&& 1 = r_23 then some (r_23, M_24) else none
def Gra_parsePart (F : Nat) (x1 : Int32) (x2 : Int32) (M : zM) : Option (Int32 × zM) :=
  if x1 = 35 then
    Gra_parsePart_J31 F x1 x2 M
  else
    if x1 < 97 then
      Gra_parsePart_J18 F  M
    else
      if x1 ≤ 122 then
        Gra_parsePart_J31 F x1 x2 M
      else
        Gra_parsePart_J18 F  M
def Gra_parseParts_J141 (F : Nat) (x1 : Int32) (x2 : Int32) (y1 : Int32) (y2 : Int32) (M : zM) : Option (Nat × (Int32 × Int32 × zM)) :=
  (Gra_parsePart F y1 y2 M).bind fun (r_15, M_16) =>
  if r_15 = 0 then
    some (2, 0, 0, M_16)
  else
    lt (x2 + 1) fun x2_19 =>
    some (0, x1, x2_19, M_16)
def Gra_parseParts_J129 (F : Nat) (x1 : Int32) (x2 : Int32) (x3 : Int32) (M : zM) : Option (Nat × (Int32 × Int32 × zM)) :=
  if x1 = (-1) then
    Gra_parseParts_J141 F x1 x2 x3 0 M
  else
    Gra_parseParts_J141 F x1 x2 x3 1 M
def Gra_parseParts_J91 (F : Nat) (x1 : Int32) (x2 : Int32) (x3 : Int32) (x4 : Int32) (M : zM) : Option (Nat × (Int32 × Int32 × zM)) :=
  if x3 = 93 then
    if x1 = (-1) then
      Gra_parseParts_J129 F x1 x2 x3 M
    else
      if x4 ≤ x1 then
        Gra_parseParts_J129 F x1 x2 x3 M
      else
        (Tex_at F  M).bind fun (r_23, M_24) =>
        (Tex_moveTo F (r_23 + 1) M_24).bind fun (_r_26, M_27) =>
        lt (x2 + 1) fun x2_29 =>
        some (0, (-1), x2_29, M_27)
  else
    Gra_parseParts_J129 F x1 x2 x3 M
def Gra_parseParts_J58 (F : Nat) (x1 : Int32) (x2 : Int32) (x3 : Int32) (x4 : Int32) (M : zM) : Option (Nat × (Int32 × Int32 × zM)) :=
  if x3 = 91 then
    if x1 = (-1) then
      (Tex_at F  M).bind fun (r_32, M_33) =>
      (Tex_moveTo F (r_32 + 1) M_33).bind fun (_r_35, M_36) =>
      lt (x2 + 1) fun x2_38 =>
      some (0, x4, x2_38, M_36)
    else
      Gra_parseParts_J91 F x1 x2 x3 x4 M
  else
    Gra_parseParts_J91 F x1 x2 x3 x4 M
def Gra_parseParts_B4 (F : Nat)  : (Int32 × Int32 × zM) → Option (Nat × (Int32 × Int32 × zM)) := fun (x1, x2, M) =>
  if 240 < x2 then
    some (3, 0, 0, M)
  else
    (Tex_skipBlanks F  M).bind fun (_r_2, M_3) =>
    (Tex_current F  M_3).bind fun (r_5, M_6) =>
    (Cla_latestParts F  M_6).bind fun (r_8, M_9) =>
    if r_5 = 59 then
      if x1 = (-1) then
        if r_8 ≤ 0 then
          Gra_parseParts_J58 F x1 x2 r_5 r_8 M_9
        else
          some (1, 0, 0, M_9)
      else
        Gra_parseParts_J58 F x1 x2 r_5 r_8 M_9
    else
      Gra_parseParts_J58 F x1 x2 r_5 r_8 M_9
def Gra_parseParts (F : Nat)  (M : zM) : Option (Int32 × zM) :=
  (loopN (Gra_parseParts_B4 F ) F ((-1), 0, M)).bind fun (k_45, x1_42, x2_43, M_44) =>
    if k_45 = 1 then
      (Gra_parseSign F 59 M_44).bind fun (r_49, M_50) =>
      if r_49 &&& 1 = r_49 then some (r_49, M_50) else none
    else
      if k_45 = 2 then
        if 0 &&& 1 = 0 then some (0, M_44) else none
      else
        if k_45 = 3 then
          if 0 &&& 1 = 0 then some (0, M_44) else none
        else
          none
def Gra_parseClause_J39 (F : Nat) (x1 : Int32) (M : zM) : Option (Int32 × zM) :=
  (Cla_isFull F  M).bind fun (r_5, M_6) =>
  if r_5 = 0 then
    if x1 = 0 then
      (Gra_parseHead F  M_6).bind fun (r_10, M_11) =>
      if r_10 = 0 then
        if 0 &&& 1 = 0 then some (0, M_11) else none
      else
        (Gra_parseParts F  M_11).bind fun (r_14, M_15) =>
        if r_14 = 0 then
          if 0 &&& 1 = 0 then some (0, M_15) else none
        else
          if 1 &&& 1 = 1 then some (1, M_15) else none
    else
      (Gra_parseWord F  M_6).bind fun (r_18, M_19) =>
      if r_18 &&& 1 = r_18 then some (r_18, M_19) else none
  else
    (Tex_at F  M_6).bind fun (r_21, M_22) =>
    (Gra_fail F 5 r_21 M_22).bind fun (r_24, M_25) =>
    if r_24 &&& 1 = r_24 then some (r_24, M_25) else none
def Gra_parseClause (F : Nat)  (M : zM) : Option (Int32 × zM) :=
  (Tex_wordIs F 0 M).bind fun (r_1, M_2) =>
  if r_1 = 0 then
    (Tex_wordIs F 1 M_2).bind fun (r_27, M_28) =>
    if r_27 = 0 then
      (Tex_at F  M_28).bind fun (r_31, M_32) =>
      (Gra_fail F 1 r_31 M_32).bind fun (r_34, M_35) =>
      if r_34 &&& 1 = r_34 then some (r_34, M_35) else none
    else
      Gra_parseClause_J39 F r_1 M_28
  else
    Gra_parseClause_J39 F r_1 M_2
def Gra_parse_B27 (F : Nat)  : (Int32 × zM) → Option (Nat × (Int32 × zM)) := fun (x1, M) =>
  if 12 < x1 then
    some (3, 0, M)
  else
    (Tex_skipBlanks F  M).bind fun (_r_12, M_13) =>
    (Tex_current F  M_13).bind fun (r_15, M_16) =>
    if r_15 = (-1) then
      some (1, 0, M_16)
    else
      (Gra_parseClause F  M_16).bind fun (r_19, M_20) =>
      if r_19 = 0 then
        some (2, 0, M_20)
      else
        lt (x1 + 1) fun x1_23 =>
        some (0, x1_23, M_20)
def Gra_parse (F : Nat)  (M : zM) : Option (Int32 × zM) :=
  lt (zI M 12 2 0) fun M_1 =>
  lt (zI M_1 12 3 (-1)) fun M_3 =>
  (Cla_empty F  M_3).bind fun (_r_5, M_6) =>
  (Tex_moveTo F 0 M_6).bind fun (_r_8, M_9) =>
  (loopN (Gra_parse_B27 F ) F (0, M_9)).bind fun (k_27, x1_25, M_26) =>
    if k_27 = 1 then
      if 1 &&& 1 = 1 then some (1, M_26) else none
    else
      if k_27 = 2 then
        if 0 &&& 1 = 0 then some (0, M_26) else none
      else
        if k_27 = 3 then
          if 0 &&& 1 = 0 then some (0, M_26) else none
        else
          none
def Lin_byteOf (F : Nat) (x0 : Int32) (M : zM) : Option (Int32 × zM) :=
  if x0 = 1 then
    some (32, M)
  else
    some (x0 + 95, M)
def Lin_empty (F : Nat) (a0 : Nat) (M : zM) : Option (Unit × zM) :=
  (JArr_fill_L F (a0 + 1) 0 M).bind fun (_r_1, M_2) =>
  lt (zI M_2 a0 1 0) fun M_4 =>
  some ((), M_4)
def Lin_size (F : Nat) (a0 : Nat) (M : zM) : Option (Int32 × zM) :=
  some (M.1 a0 1, M)
def Lin_signs (F : Nat) (a0 : Nat) (x1 : Int32) (M : zM) : Option (Int64 × zM) :=
  if x1 < 0 then
    some (0, M)
  else
    if 5 ≤ x1 then
      some (0, M)
    else
      if inb x1 5 = true then
        some (M.2 (a0 + 1) x1.toNatClampNeg, M)
      else none
def Lin_append_J83 (F : Nat) (a0 : Nat) (x3 : Int32) (M : zM) : Option (Int32 × zM) :=
  lt (zI M a0 1 ((M.1 a0 1) + x3)) fun M_11 =>
  if 1 &&& 1 = 1 then some (1, M_11) else none
def Lin_append (F : Nat) (a0 : Nat) (x1 : Int64) (x3 : Int32) (M : zM) : Option (Int32 × zM) :=
  if x3 < 1 then
    if 0 &&& 1 = 0 then some (0, M) else none
  else
    if ((M.1 a0 1) + x3) ≤ 60 then
      lt ((M.1 a0 1) / 12) fun x4_3 =>
      lt (5 * ((M.1 a0 1) - (M.1 a0 1) / 12 * 12)) fun x5_5 =>
      if inb x4_3 5 = true then
        lt (zL M (a0 + 1) x4_3.toNatClampNeg ((M.2 (a0 + 1) x4_3.toNatClampNeg) ||| (ur x1 x5_5))) fun M_8 =>
        if 5 ≤ (x4_3 + 1) then
          Lin_append_J83 F a0 x3 M_8
        else
          lt (x4_3 + 1) fun d_13 =>
          if inb d_13 5 = true then
            lt (zL M_8 (a0 + 1) d_13.toNatClampNeg ((M_8.2 (a0 + 1) d_13.toNatClampNeg) ||| ((sl x1 (60 - x5_5)) &&& 1152921504606846975))) fun M_16 =>
            Lin_append_J83 F a0 x3 M_16
          else none
      else none
    else
      if 0 &&& 1 = 0 then some (0, M) else none
def Lin_appendRow_B3 (F : Nat) (a0 : Nat) (a1 : Nat) (x2 : Int32) (x3 : Int32) : (Int32 × zM) → Option (Nat × (Int32 × zM)) := fun (x4, M) =>
  if 5 ≤ x4 then
    some (2, 0, M)
  else
    if x3 ≤ (x4 * 12) then
      some (2, 0, M)
    else
      (Spe_signs F a1 x2 x4 M).bind fun (r_3, M_4) =>
      (Lin_append F a0 r_3 (jmn (x3 - (x4 * 12)) 12) M_4).bind fun (r_6, M_7) =>
      if r_6 = 0 then
        some (1, 0, M_7)
      else
        lt (x4 + 1) fun x4_10 =>
        some (0, x4_10, M_7)
def Lin_appendRow (F : Nat) (a0 : Nat) (a1 : Nat) (x2 : Int32) (x3 : Int32) (M : zM) : Option (Int32 × zM) :=
  (loopN (Lin_appendRow_B3 F a0 a1 x2 x3) F (0, M)).bind fun (k_14, x4_12, M_13) =>
    if k_14 = 1 then
      if 0 &&& 1 = 0 then some (0, M_13) else none
    else
      if k_14 = 2 then
        if 1 &&& 1 = 1 then some (1, M_13) else none
      else
        none
def JArr_fill_I_B5 (F : Nat) (a0 : Nat) (x1 : Int32) (x3 : Int32) : (Int32 × zM) → Option (Nat × (Int32 × zM)) := fun (x2, M) =>
  if x3 ≤ x2 then
    some (1, 0, M)
  else
    if inb x2 (zN a0) = true then
      lt (zI M a0 x2.toNatClampNeg x1) fun M_5 =>
      lt (x2 + 1) fun x2_7 =>
      some (0, x2_7, M_5)
    else none
def JArr_fill_I (F : Nat) (a0 : Nat) (x1 : Int32) (M : zM) : Option (Unit × zM) :=
  lt (Int32.ofNat (zN a0)) fun x3_1 =>
  (loopN (JArr_fill_I_B5 F a0 x1 x3_1) F (0, M)).bind fun (k_11, x2_9, M_10) =>
    if k_11 = 1 then
      some ((), M_10)
    else
      none
def Ton_restart (F : Nat) (a0 : Nat) (x1 : Int32) (M : zM) : Option (Unit × zM) :=
  lt (zI M a0 0 x1) fun M_1 =>
  lt (zI M_1 a0 1 0) fun M_3 =>
  (JArr_fill_I F (a0 + 5) (-1) M_3).bind fun (_r_5, M_6) =>
  lt (zI M_6 a0 9 0) fun M_8 =>
  lt (zI M_8 a0 10 0) fun M_10 =>
  some ((), M_10)
def Nam_choose_B10 (F : Nat) (x1 : Int32) : (Int32 × zM) → Option (Nat × (Int32 × zM)) := fun (x2, M) =>
  if inb x1 12 = true then
    if (M.1 5 x1.toNatClampNeg) < x2 then
      some (1, 0, M)
    else
      if 1000 ≤ x2 then
        some (1, 0, M)
      else
        if inb x2 1000 = true then
          lt (zI M 49 x2.toNatClampNeg x1) fun M_8 =>
          lt (x2 + 1) fun x2_10 =>
          some (0, x2_10, M_8)
        else none
  else none
def Nam_choose (F : Nat) (x1 : Int32) (M : zM) : Option (Unit × zM) :=
  if inb x1 12 = true then
    lt (M.1 4 x1.toNatClampNeg) fun x2_2 =>
    (loopN (Nam_choose_B10 F x1) F (x2_2, M)).bind fun (k_14, x2_12, M_13) =>
      if k_14 = 1 then
        some ((), M_13)
      else
        none
  else none
def Nam_chooseClauses_B18 (F : Nat)  : (Int32 × zM) → Option (Nat × (Int32 × zM)) := fun (x1, M) =>
  if x1 < 0 then
    some (1, 0, M)
  else
    (Cla_isWord F x1 M).bind fun (r_10, M_11) =>
    if r_10 = 0 then
      (Nam_choose F x1 M_11).bind fun (_r_16, M_17) =>
      lt (x1 + (-1)) fun x1_19 =>
      some (0, x1_19, M_17)
    else
      lt (x1 + (-1)) fun x1_14 =>
      some (0, x1_14, M_11)
def Nam_chooseClauses_B46 (F : Nat)  : (Int32 × zM) → Option (Nat × (Int32 × zM)) := fun (x1, M) =>
  (Cla_count F  M).bind fun (r_25, M_26) =>
  if r_25 ≤ x1 then
    some (1, 0, M_26)
  else
    (Cla_isWord F x1 M_26).bind fun (r_29, M_30) =>
    if r_29 = 0 then
      lt (x1 + 1) fun x1_33 =>
      some (0, x1_33, M_30)
    else
      (Nam_choose F x1 M_30).bind fun (_r_35, M_36) =>
      lt (x1 + 1) fun x1_38 =>
      some (0, x1_38, M_36)
def Nam_chooseClauses (F : Nat)  (M : zM) : Option (Unit × zM) :=
  (JArr_fill_I F 49 (-1) M).bind fun (_r_1, M_2) =>
  (Cla_count F  M_2).bind fun (r_4, M_5) =>
  lt (r_4 - 1) fun x1_7 =>
  (loopN (Nam_chooseClauses_B18 F ) F (x1_7, M_5)).bind fun (k_23, x1_21, M_22) =>
    if k_23 = 1 then
      (loopN (Nam_chooseClauses_B46 F ) F (0, M_22)).bind fun (k_42, x1_40, M_41) =>
        if k_42 = 1 then
          some ((), M_41)
        else
          none
    else
      none
def Ton_has (F : Nat) (a0 : Nat) (x1 : Int32) (M : zM) : Option (Int32 × zM) :=
  if x1 < 0 then
    if 0 &&& 1 = 0 then some (0, M) else none
  else
    if 1000 ≤ x1 then
      if 0 &&& 1 = 0 then some (0, M) else none
    else
      if inb x1 1000 = true then
        if (M.1 (a0 + 5) x1.toNatClampNeg) = (-1) then
          if 0 &&& 1 = 0 then some (0, M) else none
        else
          if 1 &&& 1 = 1 then some (1, M) else none
      else none
def Nam_addGap (F : Nat)  (M : zM) : Option (Int32 × zM) :=
  (Lin_size F 45 M).bind fun (r_1, M_2) =>
  if r_1 = 0 then
    if 1 &&& 1 = 1 then some (1, M_2) else none
  else
    (Lin_signOf F 32 M_2).bind fun (r_5, M_6) =>
    (Lin_append F 45 r_5 1 M_6).bind fun (r_8, M_9) =>
    if r_8 = 0 then
      if 0 &&& 1 = 0 then some (0, M_9) else none
    else
      if 1 &&& 1 = 1 then some (1, M_9) else none
def Nam_addLetters (F : Nat) (x1 : Int64) (x3 : Int32) (M : zM) : Option (Int32 × zM) :=
  (Nam_addGap F  M).bind fun (r_1, M_2) =>
  if r_1 = 0 then
    if 0 &&& 1 = 0 then some (0, M_2) else none
  else
    (Lin_append F 45 x1 x3 M_2).bind fun (r_5, M_6) =>
    if r_5 = 0 then
      if 0 &&& 1 = 0 then some (0, M_6) else none
    else
      (Lin_append F 47 x1 x3 M_6).bind fun (r_9, M_10) =>
      if r_9 = 0 then
        if 0 &&& 1 = 0 then some (0, M_10) else none
      else
        if 1 &&& 1 = 1 then some (1, M_10) else none
def Nam_asked (F : Nat) (x0 : Int32) (x1 : Int32) (x2 : Int32) (x3 : Int32) (M : zM) : Option (Int32 × zM) :=
  if x0 = 99 then
    some (x3 - x2, M)
  else
    if x0 = 110 then
      some ((x1 - x2) + x3, M)
    else
      if x0 = 113 then
        if x3 ≤ 0 then
          some ((-1), M)
        else
          if ¬ x3 = 0 then
            some (x1 / x3, M)
          else none
      else
        if x0 = 114 then
          some (x2, M)
        else
          if x0 = 116 then
            some (x1 - x2, M)
          else
            some ((-1), M)
def Ton_depthOf (F : Nat) (a0 : Nat) (x1 : Int32) (M : zM) : Option (Int32 × zM) :=
  (Ton_has F a0 x1 M).bind fun (r_1, M_2) =>
  if r_1 = 0 then
    some ((-1), M_2)
  else
    if inb x1 1000 = true then
      some (M_2.1 (a0 + 7) x1.toNatClampNeg, M_2)
    else none
def Ton_sizeOf (F : Nat) (a0 : Nat) (x1 : Int32) (M : zM) : Option (Int32 × zM) :=
  (Ton_has F a0 x1 M).bind fun (r_1, M_2) =>
  if r_1 = 0 then
    some ((-1), M_2)
  else
    if inb x1 1000 = true then
      some (M_2.1 (a0 + 5) x1.toNatClampNeg, M_2)
    else none
def Ton_lettersOf (F : Nat) (a0 : Nat) (x1 : Int32) (M : zM) : Option (Int32 × zM) :=
  (Ton_has F a0 x1 M).bind fun (r_1, M_2) =>
  if r_1 = 0 then
    some ((-1), M_2)
  else
    if inb x1 1000 = true then
      some (M_2.1 (a0 + 6) x1.toNatClampNeg, M_2)
    else none
def Ton_appendTo (F : Nat) (a0 : Nat) (a1 : Nat) (a2 : Nat) (x3 : Int32) (M : zM) : Option (Int32 × zM) :=
  (Ton_sizeOf F a0 x3 M).bind fun (r_1, M_2) =>
  (Lin_appendRow F a1 (a0 + 1) x3 r_1 M_2).bind fun (r_4, M_5) =>
  if r_4 = 0 then
    if 0 &&& 1 = 0 then some (0, M_5) else none
  else
    (Ton_lettersOf F a0 x3 M_5).bind fun (r_8, M_9) =>
    (Lin_appendRow F a2 (a0 + 3) x3 r_8 M_9).bind fun (r_11, M_12) =>
    if r_11 = 0 then
      if 0 &&& 1 = 0 then some (0, M_12) else none
    else
      if 1 &&& 1 = 1 then some (1, M_12) else none
def Nam_addName (F : Nat) (a1 : Nat) (x2 : Int32) (M : zM) : Option (Int32 × zM) :=
  (Ton_has F a1 x2 M).bind fun (r_1, M_2) =>
  if r_1 = 0 then
    if 0 &&& 1 = 0 then some (0, M_2) else none
  else
    (Ton_depthOf F a1 x2 M_2).bind fun (r_5, M_6) =>
    lt (zI M_6 44 4 (jmx (M_2.1 44 4) r_5)) fun M_8 =>
    (Ton_sizeOf F a1 x2 M_8).bind fun (r_10, M_11) =>
    if r_10 = 0 then
      if 1 &&& 1 = 1 then some (1, M_11) else none
    else
      (Nam_addGap F  M_11).bind fun (r_14, M_15) =>
      if r_14 = 0 then
        if 0 &&& 1 = 0 then some (0, M_15) else none
      else
        (Ton_appendTo F a1 45 47 x2 M_15).bind fun (r_18, M_19) =>
        if r_18 = 0 then
          if 0 &&& 1 = 0 then some (0, M_19) else none
        else
          if 1 &&& 1 = 1 then some (1, M_19) else none
def Nam_spell_J93 (F : Nat) (a1 : Nat) (x2 : Int32) (x3 : Int32) (x4 : Int32) (x5 : Int32) (x6 : Int32) (x7 : Int32) (M : zM) : Option (Nat × (Int32 × zM)) :=
  if inb x7 96 = true then
    if (M.1 8 x7.toNatClampNeg) = 0 then
      (Nam_addLetters F (M.2 10 x7.toNatClampNeg) (M.1 11 x7.toNatClampNeg) M).bind fun (r_30, M_31) =>
      if r_30 = 0 then
        some (1, 0, M_31)
      else
        lt (x7 + 1) fun x7_34 =>
        some (0, x7_34, M_31)
    else
      (Nam_asked F (M.1 8 x7.toNatClampNeg) x3 x5 x4 M).bind fun (r_21, M_22) =>
      (Nam_addName F a1 r_21 M_22).bind fun (r_24, M_25) =>
      if r_24 = 0 then
        some (1, 0, M_25)
      else
        lt (x7 + 1) fun x7_28 =>
        some (0, x7_28, M_25)
  else none
def Nam_spell_B55 (F : Nat) (a1 : Nat) (x2 : Int32) (x3 : Int32) (x4 : Int32) (x5 : Int32) (x6 : Int32) : (Int32 × zM) → Option (Nat × (Int32 × zM)) := fun (x7, M) =>
  if inb x2 12 = true then
    if (x6 + (M.1 7 x2.toNatClampNeg)) ≤ x7 then
      some (2, 0, M)
    else
      if inb x7 96 = true then
        if (M.1 9 x7.toNatClampNeg) = 0 then
          Nam_spell_J93 F a1 x2 x3 x4 x5 x6 x7 M
        else
          if x5 = 0 then
            lt (x7 + 1) fun x7_37 =>
            some (0, x7_37, M)
          else
            Nam_spell_J93 F a1 x2 x3 x4 x5 x6 x7 M
      else none
  else none
def Nam_spell_J43 (F : Nat) (a1 : Nat) (x2 : Int32) (x3 : Int32) (x4 : Int32) (y0 : Int32) (M : zM) : Option (Int32 × zM) :=
  lt (x2 * 8) fun x6_13 =>
  (loopN (Nam_spell_B55 F a1 x2 x3 x4 y0 x6_13) F (x6_13, M)).bind fun (k_41, x7_39, M_40) =>
    if k_41 = 1 then
      if 0 &&& 1 = 0 then some (0, M_40) else none
    else
      if k_41 = 2 then
        if 8 ≤ (M_40.1 44 4) then
          if 0 &&& 1 = 0 then some (0, M_40) else none
        else
          if 1 &&& 1 = 1 then some (1, M_40) else none
      else
        none
def Nam_spell (F : Nat) (a1 : Nat) (x2 : Int32) (x3 : Int32) (M : zM) : Option (Int32 × zM) :=
  (Lin_empty F 45 M).bind fun (_r_1, M_2) =>
  (Lin_empty F 47 M_2).bind fun (_r_4, M_5) =>
  lt (zI M_5 44 4 0) fun M_7 =>
  if inb x2 12 = true then
    lt (M_7.1 6 x2.toNatClampNeg) fun x4_10 =>
    if x4_10 ≤ 0 then
      Nam_spell_J43 F a1 x2 x3 x4_10 0 M_7
    else
      if ¬ x4_10 = 0 then
        Nam_spell_J43 F a1 x2 x3 x4_10 (x3 - x3 / x4_10 * x4_10) M_7
      else none
  else none
def Spe_put_B7 (F : Nat) (a0 : Nat) (a2 : Nat) (x3 : Int32) : (Int32 × zM) → Option (Nat × (Int32 × zM)) := fun (x4, M) =>
  if 5 ≤ x4 then
    some (1, 0, M)
  else
    if x3 < 0 then
      lt (x4 + 1) fun x4_5 =>
      some (0, x4_5, M)
    else
      if (Int32.ofNat (zN (a0 + 1))) ≤ (x3 + x4) then
        lt (x4 + 1) fun x4_8 =>
        some (0, x4_8, M)
      else
        (Lin_signs F a2 x4 M).bind fun (r_10, M_11) =>
        if inb (x3 + x4) (zN (a0 + 1)) = true then
          lt (zL M_11 (a0 + 1) (x3 + x4).toNatClampNeg r_10) fun M_14 =>
          lt (x4 + 1) fun x4_16 =>
          some (0, x4_16, M_14)
        else none
def Spe_put (F : Nat) (a0 : Nat) (x1 : Int32) (a2 : Nat) (M : zM) : Option (Unit × zM) :=
  lt (x1 * 5) fun x3_1 =>
  (loopN (Spe_put_B7 F a0 a2 x3_1) F (0, M)).bind fun (k_20, x4_18, M_19) =>
    if k_20 = 1 then
      some ((), M_19)
    else
      none
def Ton_putName (F : Nat) (a0 : Nat) (x1 : Int32) (a2 : Nat) (a3 : Nat) (x4 : Int32) (x5 : Int32) (M : zM) : Option (Unit × zM) :=
  if x1 < 0 then
    some ((), M)
  else
    if 1000 ≤ x1 then
      some ((), M)
    else
      (Spe_put F (a0 + 1) x1 a2 M).bind fun (_r_3, M_4) =>
      (Spe_put F (a0 + 3) x1 a3 M_4).bind fun (_r_6, M_7) =>
      (Lin_size F a2 M_7).bind fun (r_9, M_10) =>
      if inb x1 1000 = true then
        lt (zI M_10 (a0 + 5) x1.toNatClampNeg r_9) fun M_13 =>
        (Lin_size F a3 M_13).bind fun (r_15, M_16) =>
        lt (zI M_16 (a0 + 6) x1.toNatClampNeg r_15) fun M_18 =>
        lt (zI M_18 (a0 + 7) x1.toNatClampNeg x5) fun M_20 =>
        lt (zI M_20 (a0 + 8) x1.toNatClampNeg x4) fun M_22 =>
        lt (zI M_22 a0 1 ((M_22.1 a0 1) + 1)) fun M_24 =>
        some ((), M_24)
      else none
def Nam_nameAll_B34 (F : Nat) (a1 : Nat) (x3 : Int32) : (Int32 × Int32 × zM) → Option (Nat × (Int32 × Int32 × zM)) := fun (x2, x4, M) =>
  if 1000 ≤ x4 then
    some (1, x2, 0, M)
  else
    if inb x4 1000 = true then
      if (M.1 49 x4.toNatClampNeg) = (-1) then
        lt (x4 + 1) fun x4_15 =>
        some (0, x2, x4_15, M)
      else
        (Ton_has F a1 x4 M).bind fun (r_17, M_18) =>
        if r_17 = 0 then
          (Nam_spell F a1 (M_18.1 49 x4.toNatClampNeg) x4 M_18).bind fun (r_23, M_24) =>
          if r_23 = 0 then
            lt (x4 + 1) fun x4_27 =>
            some (0, x2, x4_27, M_24)
          else
            (Ton_putName F a1 x4 45 47 (M_24.1 49 x4.toNatClampNeg) ((M_24.1 44 4) + 1) M_24).bind fun (_r_29, M_30) =>
            lt (x4 + 1) fun x4_32 =>
            some (0, 1, x4_32, M_30)
        else
          lt (x4 + 1) fun x4_21 =>
          some (0, x2, x4_21, M_18)
    else none
def Nam_nameAll_B19 (F : Nat) (a1 : Nat) : (Int32 × Int32 × zM) → Option (Nat × (Int32 × Int32 × zM)) := fun (x2, x3, M) =>
  if 8 ≤ x3 then
    some (1, 0, 0, M)
  else
    if x2 = 0 then
      some (1, 0, 0, M)
    else
      (loopN (Nam_nameAll_B34 F a1 x3) F (0, 0, M)).bind fun (k_37, x2_34, x4_35, M_36) =>
        if k_37 = 1 then
          lt (x3 + 1) fun x3_39 =>
          some (0, x2_34, x3_39, M_36)
        else
          none
def Nam_nameAll (F : Nat) (a1 : Nat) (M : zM) : Option (Unit × zM) :=
  (Cla_count F  M).bind fun (r_1, M_2) =>
  (Ton_restart F a1 r_1 M_2).bind fun (_r_4, M_5) =>
  (Nam_chooseClauses F  M_5).bind fun (_r_7, M_8) =>
  (loopN (Nam_nameAll_B19 F a1) F (1, 0, M_8)).bind fun (k_45, x2_42, x3_43, M_44) =>
    if k_45 = 1 then
      some ((), M_44)
    else
      none
def Sor_bench (F : Nat)  (M : zM) : Option (Nat × zM) :=
  some (52, M)
def JLong_compare (F : Nat) (x0 : Int64) (x2 : Int64) (M : zM) : Option (Int32 × zM) :=
  if 0 ≤ (lg_cmp x0 x2) then
    if (lg_cmp x0 x2) = 0 then
      some (0, M)
    else
      some (1, M)
  else
    some ((-1), M)
def Spe_compare_B3 (F : Nat) (a0 : Nat) (x1 : Int32) (a2 : Nat) (x3 : Int32) : (Int32 × Int32 × zM) → Option (Nat × (Int32 × Int32 × zM)) := fun (x4, x5, M) =>
  if 5 ≤ x4 then
    some (2, 0, 0, M)
  else
    (Spe_signs F a0 x1 x4 M).bind fun (r_2, M_3) =>
    (Spe_signs F a2 x3 x4 M_3).bind fun (r_5, M_6) =>
    (JLong_compare F r_2 r_5 M_6).bind fun (r_8, M_9) =>
    if r_8 = 0 then
      lt (x4 + 1) fun x4_12 =>
      some (0, x4_12, 0, M_9)
    else
      some (1, 0, r_8, M_9)
def Spe_compare (F : Nat) (a0 : Nat) (x1 : Int32) (a2 : Nat) (x3 : Int32) (M : zM) : Option (Int32 × zM) :=
  (loopN (Spe_compare_B3 F a0 x1 a2 x3) F (0, 0, M)).bind fun (k_17, x4_14, x5_15, M_16) =>
    if k_17 = 1 then
      some (x5_15, M_16)
    else
      if k_17 = 2 then
        some (0, M_16)
      else
        none
def Sor_merge_J63 (F : Nat) (a1 : Nat) (x3 : Int32) (x4 : Int32) (a5 : Nat) (x6 : Int32) (x7 : Int32) (x8 : Int32) (M : zM) : Option (Nat × (Int32 × Int32 × Int32 × zM)) :=
  lt (x6 + 1) fun x6_7 =>
  if inb x6 1000 = true then
    if inb x8 (zN a1) = true then
      lt (zI M a1 x8.toNatClampNeg (M.1 51 x6.toNatClampNeg)) fun M_11 =>
      lt (x8 + 1) fun x8_13 =>
      some (0, x6_7, x7, x8_13, M_11)
    else none
  else none
def Sor_merge_B22 (F : Nat) (a1 : Nat) (x3 : Int32) (x4 : Int32) (a5 : Nat) : (Int32 × Int32 × Int32 × zM) → Option (Nat × (Int32 × Int32 × Int32 × zM)) := fun (x6, x7, x8, M) =>
  if x4 ≤ x8 then
    some (1, 0, 0, 0, M)
  else
    if x3 ≤ x6 then
      some (1, 0, 0, 0, M)
    else
      if x4 ≤ x7 then
        Sor_merge_J63 F a1 x3 x4 a5 x6 x7 x8 M
      else
        if inb x6 1000 = true then
          if inb x7 (zN a1) = true then
            (Spe_compare F a5 (M.1 51 x6.toNatClampNeg) a5 (M.1 a1 x7.toNatClampNeg) M).bind fun (r_17, M_18) =>
            if 0 < r_17 then
              lt (x7 + 1) fun x7_21 =>
              if inb x8 (zN a1) = true then
                lt (zI M_18 a1 x8.toNatClampNeg (M_18.1 a1 x7.toNatClampNeg)) fun M_24 =>
                lt (x8 + 1) fun x8_26 =>
                some (0, x6, x7_21, x8_26, M_24)
              else none
            else
              Sor_merge_J63 F a1 x3 x4 a5 x6 x7 x8 M_18
          else none
        else none
def Sor_merge (F : Nat) (a1 : Nat) (x2 : Int32) (x3 : Int32) (x4 : Int32) (a5 : Nat) (M : zM) : Option (Unit × zM) :=
  if okc x2 x2 (x3 - x2) (zN a1) 1000 = true then
    lt (zCp M a1 51 x2 x2 (x3 - x2)) fun M_2 =>
    (loopN (Sor_merge_B22 F a1 x3 x4 a5) F (x2, x3, x2, M_2)).bind fun (k_32, x6_28, x7_29, x8_30, M_31) =>
      if k_32 = 1 then
        some ((), M_31)
      else
        none
  else none
def Sor_sort_B27 (F : Nat) (a1 : Nat) (a3 : Nat) (x4 : Int32) (x5 : Int32) : (Int32 × zM) → Option (Nat × (Int32 × zM)) := fun (x6, M) =>
  if x4 ≤ (x6 + x5) then
    some (1, 0, M)
  else
    (Sor_merge F a1 x6 (x6 + x5) (jmn ((x6 + x5) + x5) x4) a3 M).bind fun (_r_5, M_6) =>
    lt (x6 + (x5 + x5)) fun x6_8 =>
    some (0, x6_8, M_6)
def Sor_sort_B17 (F : Nat) (a1 : Nat) (a3 : Nat) (x4 : Int32) : (Int32 × zM) → Option (Nat × (Int32 × zM)) := fun (x5, M) =>
  if x4 ≤ x5 then
    some (1, 0, M)
  else
    (loopN (Sor_sort_B27 F a1 a3 x4 x5) F (0, M)).bind fun (k_12, x6_10, M_11) =>
      if k_12 = 1 then
        lt (x5 + x5) fun x5_14 =>
        some (0, x5_14, M_11)
      else
        none
def Sor_sort (F : Nat) (a1 : Nat) (x2 : Int32) (a3 : Nat) (M : zM) : Option (Unit × zM) :=
  lt (jmn x2 (jmn (Int32.ofNat (zN a1)) 1000)) fun x4_1 =>
  (loopN (Sor_sort_B17 F a1 a3 x4_1) F (1, M)).bind fun (k_19, x5_17, M_18) =>
    if k_19 = 1 then
      some ((), M_18)
    else
      none
def Spe_byteAt (F : Nat) (a0 : Nat) (x1 : Int32) (x2 : Int32) (M : zM) : Option (Int32 × zM) :=
  (Spe_signs F a0 x1 (x2 / 12) M).bind fun (r_1, M_2) =>
  (Lin_signIn F r_1 (55 - (5 * (x2 - x2 / 12 * 12))) M_2).bind fun (r_4, M_5) =>
  (Lin_byteOf F r_4 M_5).bind fun (r_7, M_8) =>
  some (r_7, M_8)
def Spe_count_B35 (F : Nat) (a0 : Nat) (x1 : Int32) (x3 : Int32) (x5 : Int32) (x6 : Int64) : (Int32 × Int32 × zM) → Option (Nat × (Int32 × Int32 × zM)) := fun (x4, x8, M) =>
  if x8 < 0 then
    some (1, x4, 0, M)
  else
    (Lin_signIn F x6 x8 M).bind fun (r_12, M_13) =>
    if r_12 = x3 then
      lt (x4 + 1) fun x4_18 =>
      lt (x8 + (-5)) fun x8_20 =>
      some (0, x4_18, x8_20, M_13)
    else
      lt (x8 + (-5)) fun x8_16 =>
      some (0, x4, x8_16, M_13)
def Spe_count_B16 (F : Nat) (a0 : Nat) (x1 : Int32) (x3 : Int32) : (Int32 × Int32 × zM) → Option (Nat × (Int32 × Int32 × zM)) := fun (x4, x5, M) =>
  if 5 ≤ x5 then
    some (1, x4, 0, M)
  else
    (Spe_signs F a0 x1 x5 M).bind fun (r_8, M_9) =>
    (loopN (Spe_count_B35 F a0 x1 x3 x5 r_8) F (x4, 55, M_9)).bind fun (k_25, x4_22, x8_23, M_24) =>
      if k_25 = 1 then
        lt (x5 + 1) fun x5_27 =>
        some (0, x4_22, x5_27, M_24)
      else
        none
def Spe_count (F : Nat) (a0 : Nat) (x1 : Int32) (x2 : Int32) (M : zM) : Option (Int32 × zM) :=
  (Lin_signOf F x2 M).bind fun (r_1, M_2) =>
  (Lin_signIn F r_1 55 M_2).bind fun (r_4, M_5) =>
  (loopN (Spe_count_B16 F a0 x1 r_4) F (0, 0, M_5)).bind fun (k_33, x4_30, x5_31, M_32) =>
    if k_33 = 1 then
      some (x4_30, M_32)
    else
      none
def Squ_lay_B93 (F : Nat)  : (Int32 × zM) → Option (Nat × (Int32 × zM)) := fun (x4, M) =>
  if 9 ≤ x4 then
    some (2, 0, M)
  else
    if inb x4 9 = true then
      if (M.1 62 x4.toNatClampNeg) < 0 then
        some (1, 0, M)
      else
        if (M.1 62 x4.toNatClampNeg) < 1000 then
          lt (x4 + 1) fun x4_32 =>
          some (0, x4_32, M)
        else
          some (1, 0, M)
    else none
def Squ_lay (F : Nat) (x1 : Int32) (x2 : Int32) (x3 : Int32) (M : zM) : Option (Int32 × zM) :=
  if inb 0 9 = true then
    lt (zI M 62 (0 : Int32).toNatClampNeg (x1 + x2)) fun M_2 =>
    if inb 1 9 = true then
      lt (zI M_2 62 (1 : Int32).toNatClampNeg ((x1 - x2) - x3)) fun M_5 =>
      if inb 2 9 = true then
        lt (zI M_5 62 (2 : Int32).toNatClampNeg (x1 + x3)) fun M_8 =>
        if inb 3 9 = true then
          lt (zI M_8 62 (3 : Int32).toNatClampNeg ((x1 - x2) + x3)) fun M_11 =>
          if inb 4 9 = true then
            lt (zI M_11 62 (4 : Int32).toNatClampNeg x1) fun M_14 =>
            if inb 5 9 = true then
              lt (zI M_14 62 (5 : Int32).toNatClampNeg ((x1 + x2) - x3)) fun M_17 =>
              if inb 6 9 = true then
                lt (zI M_17 62 (6 : Int32).toNatClampNeg (x1 - x3)) fun M_20 =>
                if inb 7 9 = true then
                  lt (zI M_20 62 (7 : Int32).toNatClampNeg ((x1 + x2) + x3)) fun M_23 =>
                  if inb 8 9 = true then
                    lt (zI M_23 62 (8 : Int32).toNatClampNeg (x1 - x2)) fun M_26 =>
                    (loopN (Squ_lay_B93 F ) F (0, M_26)).bind fun (k_36, x4_34, M_35) =>
                      if k_36 = 1 then
                        if 0 &&& 1 = 0 then some (0, M_35) else none
                      else
                        if k_36 = 2 then
                          if 1 &&& 1 = 1 then some (1, M_35) else none
                        else
                          none
                  else none
                else none
              else none
            else none
          else none
        else none
      else none
    else none
  else none
def Squ_isUnlike_B10 (F : Nat) (x1 : Int32) : (Int32 × zM) → Option (Nat × (Int32 × zM)) := fun (x2, M) =>
  if x1 ≤ x2 then
    some (2, 0, M)
  else
    if inb x1 9 = true then
      if inb x2 9 = true then
        if (M.1 62 x1.toNatClampNeg) = (M.1 62 x2.toNatClampNeg) then
          some (1, 0, M)
        else
          lt (x2 + 1) fun x2_6 =>
          some (0, x2_6, M)
      else none
    else none
def Squ_isUnlike_B2 (F : Nat)  : (Int32 × zM) → Option (Nat × (Int32 × zM)) := fun (x1, M) =>
  if 9 ≤ x1 then
    some (2, 0, M)
  else
    (loopN (Squ_isUnlike_B10 F x1) F (0, M)).bind fun (k_10, x2_8, M_9) =>
      if k_10 = 1 then
        some (1, 0, M_9)
      else
        if k_10 = 2 then
          lt (x1 + 1) fun x1_12 =>
          some (0, x1_12, M_9)
        else
          none
def Squ_isUnlike (F : Nat)  (M : zM) : Option (Int32 × zM) :=
  (loopN (Squ_isUnlike_B2 F ) F (0, M)).bind fun (k_18, x1_16, M_17) =>
    if k_18 = 1 then
      if 0 &&& 1 = 0 then some (0, M_17) else none
    else
      if k_18 = 2 then
        if 1 &&& 1 = 1 then some (1, M_17) else none
      else
        none
def Squ_lineSum_B5 (F : Nat) (a1 : Nat) (x2 : Int32) : (Int32 × Int32 × zM) → Option (Nat × (Int32 × Int32 × zM)) := fun (x3, x4, M) =>
  if (x2 + 3) ≤ x4 then
    some (1, x3, 0, M)
  else
    if 24 ≤ x4 then
      some (1, x3, 0, M)
    else
      if inb x4 24 = true then
        if inb (zLines.getD x4.toNatClampNeg 0) 9 = true then
          (Ton_lettersOf F a1 (M.1 62 (zLines.getD x4.toNatClampNeg 0).toNatClampNeg) M).bind fun (r_5, M_6) =>
          lt (x3 + r_5) fun x3_8 =>
          lt (x4 + 1) fun x4_10 =>
          some (0, x3_8, x4_10, M_6)
        else none
      else none
def Squ_lineSum (F : Nat) (a1 : Nat) (x2 : Int32) (M : zM) : Option (Int32 × zM) :=
  (loopN (Squ_lineSum_B5 F a1 x2) F (0, x2, M)).bind fun (k_15, x3_12, x4_13, M_14) =>
    if k_15 = 1 then
      some (x3_12, M_14)
    else
      none
def Squ_holdsIn_B2 (F : Nat) (a1 : Nat) : (Int32 × zM) → Option (Nat × (Int32 × zM)) := fun (x2, M) =>
  if 9 ≤ x2 then
    some (2, 0, M)
  else
    if inb x2 9 = true then
      (Ton_has F a1 (M.1 62 x2.toNatClampNeg) M).bind fun (r_3, M_4) =>
      if r_3 = 0 then
        some (1, 0, M_4)
      else
        lt (x2 + 1) fun x2_7 =>
        some (0, x2_7, M_4)
    else none
def Squ_holdsIn_B38 (F : Nat) (a1 : Nat) (x2 : Int32) : (Int32 × zM) → Option (Nat × (Int32 × zM)) := fun (x3, M) =>
  if 24 ≤ x3 then
    some (2, 0, M)
  else
    (Squ_lineSum F a1 x3 M).bind fun (r_17, M_18) =>
    if r_17 = x2 then
      lt (x3 + 3) fun x3_21 =>
      some (0, x3_21, M_18)
    else
      some (1, 0, M_18)
def Squ_holdsIn (F : Nat) (a1 : Nat) (M : zM) : Option (Int32 × zM) :=
  (loopN (Squ_holdsIn_B2 F a1) F (0, M)).bind fun (k_11, x2_9, M_10) =>
    if k_11 = 1 then
      if 0 &&& 1 = 0 then some (0, M_10) else none
    else
      if k_11 = 2 then
        (Squ_lineSum F a1 0 M_10).bind fun (r_13, M_14) =>
        (loopN (Squ_holdsIn_B38 F a1 r_13) F (3, M_14)).bind fun (k_25, x3_23, M_24) =>
          if k_25 = 1 then
            if 0 &&& 1 = 0 then some (0, M_24) else none
          else
            if k_25 = 2 then
              if 1 &&& 1 = 1 then some (1, M_24) else none
            else
              none
      else
        none
def Tex_hasRoomFor (F : Nat) (x1 : Int32) (M : zM) : Option (Int32 × zM) :=
  if 240 < ((M.1 1 1) + x1) then
    if 0 &&& 1 = 0 then some (0, M) else none
  else
    if 1 &&& 1 = 1 then some (1, M) else none
def Tex_append (F : Nat) (x1 : Int32) (M : zM) : Option (Unit × zM) :=
  if 240 ≤ (M.1 1 1) then
    some ((), M)
  else
    lt (M.1 1 1) fun d_2 =>
    lt (zI M 1 1 (d_2 + 1)) fun M_4 =>
    if inb d_2 240 = true then
      lt (zI M_4 2 d_2.toNatClampNeg x1.toInt8.toInt32) fun M_7 =>
      some ((), M_7)
    else none
def Tex_empty (F : Nat)  (M : zM) : Option (Unit × zM) :=
  lt (zI M 1 1 0) fun M_1 =>
  lt (zI M_1 1 2 0) fun M_3 =>
  some ((), M_3)
def Tex_size (F : Nat)  (M : zM) : Option (Int32 × zM) :=
  some (M.1 1 1, M)
def Ton_clauseCount (F : Nat) (a0 : Nat) (M : zM) : Option (Int32 × zM) :=
  some (M.1 a0 0, M)
def Ton_namedCount (F : Nat) (a0 : Nat) (M : zM) : Option (Int32 × zM) :=
  some (M.1 a0 1, M)
def Ton_greatestNamed_B4 (F : Nat) (a0 : Nat) : (Int32 × zM) → Option (Nat × (Int32 × zM)) := fun (x1, M) =>
  if x1 < 0 then
    some (2, 0, M)
  else
    (Ton_has F a0 x1 M).bind fun (r_2, M_3) =>
    if r_2 = 0 then
      lt (x1 + (-1)) fun x1_6 =>
      some (0, x1_6, M_3)
    else
      some (1, x1, M_3)
def Ton_greatestNamed (F : Nat) (a0 : Nat) (M : zM) : Option (Int32 × zM) :=
  (loopN (Ton_greatestNamed_B4 F a0) F (999, M)).bind fun (k_10, x1_8, M_9) =>
    if k_10 = 1 then
      some (x1_8, M_9)
    else
      if k_10 = 2 then
        some ((-1), M_9)
      else
        none
def Ton_leastNameless_B2 (F : Nat) (a0 : Nat) : (Int32 × zM) → Option (Nat × (Int32 × zM)) := fun (x1, M) =>
  if 1000 ≤ x1 then
    some (2, 0, M)
  else
    (Ton_has F a0 x1 M).bind fun (r_2, M_3) =>
    if r_2 = 0 then
      some (1, x1, M_3)
    else
      lt (x1 + 1) fun x1_6 =>
      some (0, x1_6, M_3)
def Ton_leastNameless (F : Nat) (a0 : Nat) (M : zM) : Option (Int32 × zM) :=
  (loopN (Ton_leastNameless_B2 F a0) F (0, M)).bind fun (k_10, x1_8, M_9) =>
    if k_10 = 1 then
      some (x1_8, M_9)
    else
      if k_10 = 2 then
        some ((-1), M_9)
      else
        none
def Ton_clauseOf (F : Nat) (a0 : Nat) (x1 : Int32) (M : zM) : Option (Int32 × zM) :=
  (Ton_has F a0 x1 M).bind fun (r_1, M_2) =>
  if r_1 = 0 then
    some ((-1), M_2)
  else
    if inb x1 1000 = true then
      some (M_2.1 (a0 + 8) x1.toNatClampNeg, M_2)
    else none
def Ton_sizeOrByte (F : Nat) (a0 : Nat) (x1 : Int32) (x2 : Int32) (M : zM) : Option (Int32 × zM) :=
  if x2 = (-1) then
    (Ton_sizeOf F a0 x1 M).bind fun (r_10, M_11) =>
    some (r_10, M_11)
  else
    if x2 < 0 then
      some ((-1), M)
    else
      (Ton_sizeOf F a0 x1 M).bind fun (r_3, M_4) =>
      if r_3 ≤ x2 then
        some ((-1), M_4)
      else
        (Spe_byteAt F (a0 + 1) x1 x2 M_4).bind fun (r_7, M_8) =>
        some (r_7, M_8)
def Ton_countOf (F : Nat) (a0 : Nat) (x1 : Int32) (x2 : Int32) (M : zM) : Option (Int32 × zM) :=
  (Ton_has F a0 x2 M).bind fun (r_1, M_2) =>
  if r_1 = 0 then
    some (0, M_2)
  else
    (Spe_count F (a0 + 1) x2 x1 M_2).bind fun (r_5, M_6) =>
    some (r_5, M_6)
def Ton_isHonest (F : Nat) (a0 : Nat) (x1 : Int32) (M : zM) : Option (Int32 × zM) :=
  (Ton_has F a0 x1 M).bind fun (r_1, M_2) =>
  if r_1 = 0 then
    if 0 &&& 1 = 0 then some (0, M_2) else none
  else
    if inb x1 1000 = true then
      if (M_2.1 (a0 + 6) x1.toNatClampNeg) = x1 then
        if 1 &&& 1 = 1 then some (1, M_2) else none
      else
        if 0 &&& 1 = 0 then some (0, M_2) else none
    else none
def Ton_honestCount_B4 (F : Nat) (a0 : Nat) : (Int32 × Int32 × zM) → Option (Nat × (Int32 × Int32 × zM)) := fun (x1, x2, M) =>
  if 60 < x2 then
    some (1, x1, 0, M)
  else
    (Ton_isHonest F a0 x2 M).bind fun (r_2, M_3) =>
    if r_2 = 0 then
      lt (x2 + 1) fun x2_6 =>
      some (0, x1, x2_6, M_3)
    else
      lt (x1 + 1) fun x1_8 =>
      lt (x2 + 1) fun x2_10 =>
      some (0, x1_8, x2_10, M_3)
def Ton_honestCount (F : Nat) (a0 : Nat) (M : zM) : Option (Int32 × zM) :=
  (loopN (Ton_honestCount_B4 F a0) F (0, 0, M)).bind fun (k_15, x1_12, x2_13, M_14) =>
    if k_15 = 1 then
      some (x1_12, M_14)
    else
      none
def Ton_honestAt_B4 (F : Nat) (a0 : Nat) (x1 : Int32) : (Int32 × Int32 × zM) → Option (Nat × (Int32 × Int32 × zM)) := fun (x2, x3, M) =>
  if 60 < x3 then
    some (2, 0, 0, M)
  else
    (Ton_isHonest F a0 x3 M).bind fun (r_2, M_3) =>
    if r_2 = 0 then
      lt (x3 + 1) fun x3_6 =>
      some (0, x2, x3_6, M_3)
    else
      lt (x2 + 1) fun x2_8 =>
      if x2 = x1 then
        some (1, 0, x3, M_3)
      else
        lt (x3 + 1) fun x3_11 =>
        some (0, x2_8, x3_11, M_3)
def Ton_honestAt (F : Nat) (a0 : Nat) (x1 : Int32) (M : zM) : Option (Int32 × zM) :=
  (loopN (Ton_honestAt_B4 F a0 x1) F (0, 0, M)).bind fun (k_16, x2_13, x3_14, M_15) =>
    if k_16 = 1 then
      some (x3_14, M_15)
    else
      if k_16 = 2 then
        some ((-1), M_15)
      else
        none
def Ton_isReadAs_J23 (F : Nat) (a1 : Nat) (x3 : Int32) (b0 : Nat) (M : zM) : Option (Int32 × zM) :=
  (Spe_compare F b0 x3 a1 0 M).bind fun (r_6, M_7) =>
  if r_6 = 0 then
    if 1 &&& 1 = 1 then some (1, M_7) else none
  else
    if 0 &&& 1 = 0 then some (0, M_7) else none
def Ton_isReadAs (F : Nat) (a0 : Nat) (a1 : Nat) (x2 : Int32) (x3 : Int32) (M : zM) : Option (Int32 × zM) :=
  (Ton_has F a0 x3 M).bind fun (r_1, M_2) =>
  if r_1 = 0 then
    if 0 &&& 1 = 0 then some (0, M_2) else none
  else
    if x2 = 0 then
      Ton_isReadAs_J23 F a1 x3 (a0 + 1) M_2
    else
      Ton_isReadAs_J23 F a1 x3 (a0 + 3) M_2
def Ton_readings_B5 (F : Nat) (a0 : Nat) (a1 : Nat) (x2 : Int32) : (Int32 × Int32 × zM) → Option (Nat × (Int32 × Int32 × zM)) := fun (x3, x4, M) =>
  if 1000 ≤ x4 then
    some (1, x3, 0, M)
  else
    (Ton_isReadAs F a0 a1 x2 x4 M).bind fun (r_2, M_3) =>
    if r_2 = 0 then
      lt (x4 + 1) fun x4_6 =>
      some (0, x3, x4_6, M_3)
    else
      lt (x3 + 1) fun x3_8 =>
      lt (x4 + 1) fun x4_10 =>
      some (0, x3_8, x4_10, M_3)
def Ton_readings (F : Nat) (a0 : Nat) (a1 : Nat) (x2 : Int32) (M : zM) : Option (Int32 × zM) :=
  (loopN (Ton_readings_B5 F a0 a1 x2) F (0, 0, M)).bind fun (k_15, x3_12, x4_13, M_14) =>
    if k_15 = 1 then
      some (x3_12, M_14)
    else
      none
def Ton_reading_B6 (F : Nat) (a0 : Nat) (a1 : Nat) (x2 : Int32) (x3 : Int32) : (Int32 × Int32 × zM) → Option (Nat × (Int32 × Int32 × zM)) := fun (x4, x5, M) =>
  if 1000 ≤ x5 then
    some (2, 0, 0, M)
  else
    (Ton_isReadAs F a0 a1 x2 x5 M).bind fun (r_2, M_3) =>
    if r_2 = 0 then
      lt (x5 + 1) fun x5_6 =>
      some (0, x4, x5_6, M_3)
    else
      lt (x4 + 1) fun x4_8 =>
      if x4 = x3 then
        some (1, 0, x5, M_3)
      else
        lt (x5 + 1) fun x5_11 =>
        some (0, x4_8, x5_11, M_3)
def Ton_reading (F : Nat) (a0 : Nat) (a1 : Nat) (x2 : Int32) (x3 : Int32) (M : zM) : Option (Int32 × zM) :=
  (loopN (Ton_reading_B6 F a0 a1 x2 x3) F (0, 0, M)).bind fun (k_16, x4_13, x5_14, M_15) =>
    if k_16 = 1 then
      some (x5_14, M_15)
    else
      if k_16 = 2 then
        some ((-1), M_15)
      else
        none
def Ton_measureFrom (F : Nat) (a0 : Nat) (x2 : Int32) (M : zM) : Option (Unit × zM) :=
  (Dis_from F (a0 + 3) x2 M).bind fun (_r_1, M_2) =>
  some ((), M_2)
def Ton_farFrom (F : Nat) (a0 : Nat) (x2 : Int32) (M : zM) : Option (Int32 × zM) :=
  (Dis_to F (a0 + 3) x2 M).bind fun (r_1, M_2) =>
  some (r_1, M_2)
def Ton_putNamedInto_B4 (F : Nat) (a0 : Nat) (a1 : Nat) : (Int32 × Int32 × zM) → Option (Nat × (Int32 × Int32 × zM)) := fun (x2, x3, M) =>
  if 1000 ≤ x3 then
    some (1, 0, 0, M)
  else
    (Ton_has F a0 x3 M).bind fun (r_2, M_3) =>
    if r_2 = 0 then
      lt (x3 + 1) fun x3_6 =>
      some (0, x2, x3_6, M_3)
    else
      if (Int32.ofNat (zN a1)) ≤ x2 then
        lt (x3 + 1) fun x3_9 =>
        some (0, x2, x3_9, M_3)
      else
        lt (x2 + 1) fun x2_11 =>
        if inb x2 (zN a1) = true then
          lt (zI M_3 a1 x2.toNatClampNeg x3) fun M_14 =>
          lt (x3 + 1) fun x3_16 =>
          some (0, x2_11, x3_16, M_14)
        else none
def Ton_putNamedInto (F : Nat) (a0 : Nat) (a1 : Nat) (M : zM) : Option (Unit × zM) :=
  (loopN (Ton_putNamedInto_B4 F a0 a1) F (0, 0, M)).bind fun (k_21, x2_18, x3_19, M_20) =>
    if k_21 = 1 then
      some ((), M_20)
    else
      none
def Ton_bringInOrder (F : Nat) (a0 : Nat) (M : zM) : Option (Unit × zM) :=
  if (M.1 a0 9) = 0 then
    (Ton_putNamedInto F a0 (a0 + 9) M).bind fun (_r_2, M_3) =>
    (Sor_sort F (a0 + 9) (M_3.1 a0 1) (a0 + 1) M_3).bind fun (_r_5, M_6) =>
    lt (zI M_6 a0 9 1) fun M_8 =>
    some ((), M_8)
  else
    some ((), M)
def Ton_numberAt (F : Nat) (a0 : Nat) (x1 : Int32) (M : zM) : Option (Int32 × zM) :=
  (Ton_bringInOrder F a0 M).bind fun (_r_1, M_2) =>
  if x1 < 0 then
    some ((-1), M_2)
  else
    if (M_2.1 a0 1) ≤ x1 then
      some ((-1), M_2)
    else
      if 1000 ≤ x1 then
        some ((-1), M_2)
      else
        if inb x1 1000 = true then
          some (M_2.1 (a0 + 9) x1.toNatClampNeg, M_2)
        else none
def Ton_placeOf_B7 (F : Nat) (a0 : Nat) (x1 : Int32) : (Int32 × zM) → Option (Nat × (Int32 × zM)) := fun (x3, M) =>
  if (M.1 a0 1) ≤ x3 then
    some (2, 0, M)
  else
    if 1000 ≤ x3 then
      some (2, 0, M)
    else
      if inb x3 1000 = true then
        if (M.1 (a0 + 9) x3.toNatClampNeg) = x1 then
          some (1, x3, M)
        else
          lt (x3 + 1) fun x3_8 =>
          some (0, x3_8, M)
      else none
def Ton_placeOf (F : Nat) (a0 : Nat) (x1 : Int32) (M : zM) : Option (Int32 × zM) :=
  (Ton_bringInOrder F a0 M).bind fun (_r_1, M_2) =>
  (loopN (Ton_placeOf_B7 F a0 x1) F (0, M_2)).bind fun (k_12, x3_10, M_11) =>
    if k_12 = 1 then
      some (x3_10, M_11)
    else
      if k_12 = 2 then
        some ((-1), M_11)
      else
        none
def Ton_chooseFirst (F : Nat) (a0 : Nat) (x1 : Int32) (x2 : Int32) (M : zM) : Option (Unit × zM) :=
  if (M.1 a0 12) = (-1) then
    lt (zI M a0 11 x1) fun M_2 =>
    lt (zI M_2 a0 12 x2) fun M_4 =>
    some ((), M_4)
  else
    if (M.1 a0 12) ≤ x2 then
      some ((), M)
    else
      lt (zI M a0 11 x1) fun M_7 =>
      lt (zI M_7 a0 12 x2) fun M_9 =>
      some ((), M_9)
def Ton_seekTwins_B51 (F : Nat) (a0 : Nat) : (Int32 × Int32 × zM) → Option (Nat × (Int32 × Int32 × zM)) := fun (x3, x4, M) =>
  if (M.1 a0 1) ≤ x4 then
    some (1, 0, 0, M)
  else
    if 1000 ≤ x4 then
      some (1, 0, 0, M)
    else
      if inb x3 1000 = true then
        if inb x4 1000 = true then
          (Spe_compare F (a0 + 3) (M.1 52 x3.toNatClampNeg) (a0 + 3) (M.1 52 x4.toNatClampNeg) M).bind fun (r_21, M_22) =>
          if r_21 = 0 then
            if x4 = (x3 + 1) then
              lt (zI M_22 a0 13 ((M_22.1 a0 13) + 2)) fun M_30 =>
              (Ton_chooseFirst F a0 (M_30.1 52 x3.toNatClampNeg) (M_30.1 52 x4.toNatClampNeg) M_30).bind fun (_r_32, M_33) =>
              lt (x4 + 1) fun x4_35 =>
              some (0, x3, x4_35, M_33)
            else
              lt (zI M_22 a0 13 ((M_22.1 a0 13) + 1)) fun M_26 =>
              lt (x4 + 1) fun x4_28 =>
              some (0, x3, x4_28, M_26)
          else
            lt (x4 + 1) fun x4_37 =>
            some (0, x4, x4_37, M_22)
        else none
      else none
def Ton_seekTwins (F : Nat) (a0 : Nat) (M : zM) : Option (Unit × zM) :=
  if (M.1 a0 10) = 0 then
    (Sor_bench F  M).bind fun (r_2, M_3) =>
    (Ton_putNamedInto F a0 52 M_3).bind fun (_r_5, M_6) =>
    (Sor_sort F 52 (M_6.1 a0 1) (a0 + 3) M_6).bind fun (_r_8, M_9) =>
    lt (zI M_9 a0 11 (-1)) fun M_11 =>
    lt (zI M_11 a0 12 (-1)) fun M_13 =>
    lt (zI M_13 a0 13 0) fun M_15 =>
    (loopN (Ton_seekTwins_B51 F a0) F (0, 1, M_15)).bind fun (k_42, x3_39, x4_40, M_41) =>
      if k_42 = 1 then
        lt (zI M_41 a0 10 1) fun M_44 =>
        some ((), M_44)
      else
        none
  else
    some ((), M)
def Ton_lesserTwin (F : Nat) (a0 : Nat) (M : zM) : Option (Int32 × zM) :=
  (Ton_seekTwins F a0 M).bind fun (_r_1, M_2) =>
  some (M_2.1 a0 11, M_2)
def Ton_greaterTwin (F : Nat) (a0 : Nat) (M : zM) : Option (Int32 × zM) :=
  (Ton_seekTwins F a0 M).bind fun (_r_1, M_2) =>
  some (M_2.1 a0 12, M_2)
def Ton_twinCount (F : Nat) (a0 : Nat) (M : zM) : Option (Int32 × zM) :=
  (Ton_seekTwins F a0 M).bind fun (_r_1, M_2) =>
  some (M_2.1 a0 13, M_2)
def NW_feed_B35 (F : Nat) (x2 : Int64) : (Int32 × zM) → Option (Nat × (Int32 × zM)) := fun (x4, M) =>
  if x4 < 0 then
    some (1, 0, M)
  else
    (Tex_append F (((sr x2 (8 * x4)).toInt32).toInt8.toInt32) M).bind fun (_r_10, M_11) =>
    lt (x4 + (-1)) fun x4_13 =>
    some (0, x4_13, M_11)
def NW_feed (F : Nat) (x1 : Int32) (x2 : Int64) (M : zM) : Option (Int32 × zM) :=
  if x1 < 1 then
    some ((-1002), M)
  else
    if x1 ≤ 8 then
      (Tex_hasRoomFor F x1 M).bind fun (r_3, M_4) =>
      if r_3 = 0 then
        some ((-1004), M_4)
      else
        lt (x1 - 1) fun x4_7 =>
        (loopN (NW_feed_B35 F x2) F (x4_7, M_4)).bind fun (k_17, x4_15, M_16) =>
          if k_17 = 1 then
            (Tex_size F  M_16).bind fun (r_19, M_20) =>
            some (r_19, M_20)
          else
            none
    else
      some ((-1002), M)
def NW_isTongue (F : Nat) (x0 : Int32) (M : zM) : Option (Int32 × zM) :=
  if x0 < 0 then
    if 0 &&& 1 = 0 then some (0, M) else none
  else
    if 3 ≤ x0 then
      if 0 &&& 1 = 0 then some (0, M) else none
    else
      if 1 &&& 1 = 1 then some (1, M) else none
def NW_read_J36 (F : Nat) (x2 : Int32) (M : zM) : Option (Int32 × zM) :=
  (Tex_empty F  M).bind fun (_r_9, M_10) =>
  if x2 = 0 then
    (Gra_faultNumber F  M_10).bind fun (r_13, M_14) =>
    some ((-10) - r_13, M_14)
  else
    (Cla_count F  M_10).bind fun (r_16, M_17) =>
    some (r_16, M_17)
def NW_read (F : Nat) (x1 : Int32) (M : zM) : Option (Int32 × zM) :=
  (NW_isTongue F x1 M).bind fun (r_1, M_2) =>
  if r_1 = 0 then
    some ((-1001), M_2)
  else
    (Gra_parse F  M_2).bind fun (r_5, M_6) =>
    if r_5 = 0 then
      NW_read_J36 F r_5 M_6
    else
      if inb x1 3 = true then
        (Nam_nameAll F (tgA x1) M_6).bind fun (_r_20, M_21) =>
        NW_read_J36 F r_5 M_21
      else none
def NW_fault (F : Nat)  (M : zM) : Option (Int32 × zM) :=
  (Gra_faultByte F  M).bind fun (r_1, M_2) =>
  some (r_1, M_2)
def NW_about (F : Nat) (x1 : Int32) (x2 : Int32) (M : zM) : Option (Int32 × zM) :=
  (NW_isTongue F x1 M).bind fun (r_1, M_2) =>
  if r_1 = 0 then
    some ((-1001), M_2)
  else
    if inb x1 3 = true then
      if x2 = 0 then
        (Ton_clauseCount F (tgA x1) M_2).bind fun (r_31, M_32) =>
        some (r_31, M_32)
      else
        if x2 = 1 then
          (Ton_namedCount F (tgA x1) M_2).bind fun (r_28, M_29) =>
          some (r_28, M_29)
        else
          if x2 = 2 then
            (Ton_greatestNamed F (tgA x1) M_2).bind fun (r_25, M_26) =>
            some (r_25, M_26)
          else
            if x2 = 3 then
              (Ton_leastNameless F (tgA x1) M_2).bind fun (r_22, M_23) =>
              some (r_22, M_23)
            else
              if x2 = 4 then
                (Ton_honestCount F (tgA x1) M_2).bind fun (r_19, M_20) =>
                some (r_19, M_20)
              else
                if x2 = 5 then
                  (Tex_size F  M_2).bind fun (r_16, M_17) =>
                  some (r_16, M_17)
                else
                  if x2 = 6 then
                    (Lin_size F 53 M_2).bind fun (r_13, M_14) =>
                    some (r_13, M_14)
                  else
                    some ((-1002), M_2)
    else none
def NW_isNumber (F : Nat) (x0 : Int32) (M : zM) : Option (Int32 × zM) :=
  if x0 < 0 then
    if 0 &&& 1 = 0 then some (0, M) else none
  else
    if 1000 ≤ x0 then
      if 0 &&& 1 = 0 then some (0, M) else none
    else
      if 1 &&& 1 = 1 then some (1, M) else none
def NW_name (F : Nat) (x1 : Int32) (x2 : Int32) (x3 : Int32) (M : zM) : Option (Int32 × zM) :=
  (NW_isTongue F x1 M).bind fun (r_1, M_2) =>
  if r_1 = 0 then
    some ((-1001), M_2)
  else
    (NW_isNumber F x2 M_2).bind fun (r_5, M_6) =>
    if r_5 = 0 then
      some ((-1001), M_6)
    else
      if inb x1 3 = true then
        (Ton_sizeOrByte F (tgA x1) x2 x3 M_6).bind fun (r_10, M_11) =>
        some (r_10, M_11)
      else none
def NW_letters (F : Nat) (x1 : Int32) (x2 : Int32) (M : zM) : Option (Int32 × zM) :=
  (NW_isTongue F x1 M).bind fun (r_1, M_2) =>
  if r_1 = 0 then
    some ((-1001), M_2)
  else
    (NW_isNumber F x2 M_2).bind fun (r_5, M_6) =>
    if r_5 = 0 then
      some ((-1001), M_6)
    else
      if inb x1 3 = true then
        (Ton_lettersOf F (tgA x1) x2 M_6).bind fun (r_10, M_11) =>
        some (r_10, M_11)
      else none
def NW_by (F : Nat) (x1 : Int32) (x2 : Int32) (M : zM) : Option (Int32 × zM) :=
  (NW_isTongue F x1 M).bind fun (r_1, M_2) =>
  if r_1 = 0 then
    some ((-1001), M_2)
  else
    (NW_isNumber F x2 M_2).bind fun (r_5, M_6) =>
    if r_5 = 0 then
      some ((-1001), M_6)
    else
      if inb x1 3 = true then
        (Ton_clauseOf F (tgA x1) x2 M_6).bind fun (r_10, M_11) =>
        some (r_10, M_11)
      else none
def NW_deep (F : Nat) (x1 : Int32) (x2 : Int32) (M : zM) : Option (Int32 × zM) :=
  (NW_isTongue F x1 M).bind fun (r_1, M_2) =>
  if r_1 = 0 then
    some ((-1001), M_2)
  else
    (NW_isNumber F x2 M_2).bind fun (r_5, M_6) =>
    if r_5 = 0 then
      some ((-1001), M_6)
    else
      if inb x1 3 = true then
        (Ton_depthOf F (tgA x1) x2 M_6).bind fun (r_10, M_11) =>
        some (r_10, M_11)
      else none
def NW_isLetter (F : Nat) (x0 : Int32) (M : zM) : Option (Int32 × zM) :=
  if x0 < 0 then
    if 0 &&& 1 = 0 then some (0, M) else none
  else
    if 26 ≤ x0 then
      if 0 &&& 1 = 0 then some (0, M) else none
    else
      if 1 &&& 1 = 1 then some (1, M) else none
def NW_uses_B49 (F : Nat) (x1 : Int32) (x2 : Int32) (x4 : Int32) : (Int32 × Int32 × zM) → Option (Nat × (Int32 × Int32 × zM)) := fun (x5, x6, M) =>
  if x4 < x6 then
    some (1, x5, 0, M)
  else
    if inb x1 3 = true then
      (Ton_countOf F (tgA x1) (97 + x2) x6 M).bind fun (r_20, M_21) =>
      lt (x5 + r_20) fun x5_23 =>
      lt (x6 + 1) fun x6_25 =>
      some (0, x5_23, x6_25, M_21)
    else none
def NW_uses (F : Nat) (x1 : Int32) (x2 : Int32) (x3 : Int32) (x4 : Int32) (M : zM) : Option (Int32 × zM) :=
  (NW_isTongue F x1 M).bind fun (r_1, M_2) =>
  if r_1 = 0 then
    some ((-1001), M_2)
  else
    (NW_isNumber F x3 M_2).bind fun (r_5, M_6) =>
    if r_5 = 0 then
      some ((-1001), M_6)
    else
      (NW_isNumber F x4 M_6).bind fun (r_9, M_10) =>
      if r_9 = 0 then
        some ((-1001), M_10)
      else
        (NW_isLetter F x2 M_10).bind fun (r_13, M_14) =>
        if r_13 = 0 then
          some ((-1002), M_14)
        else
          if x3 ≤ x4 then
            (loopN (NW_uses_B49 F x1 x2 x4) F (0, x3, M_14)).bind fun (k_30, x5_27, x6_28, M_29) =>
              if k_30 = 1 then
                some (x5_27, M_29)
              else
                none
          else
            some ((-1002), M_14)
def NW_first_B24 (F : Nat) (x1 : Int32) (x2 : Int32) : (Int32 × zM) → Option (Nat × (Int32 × zM)) := fun (x3, M) =>
  if 1000 ≤ x3 then
    some (2, 0, M)
  else
    if inb x1 3 = true then
      (Ton_countOf F (tgA x1) (97 + x2) x3 M).bind fun (r_11, M_12) =>
      if r_11 ≤ 0 then
        lt (x3 + 1) fun x3_15 =>
        some (0, x3_15, M_12)
      else
        some (1, x3, M_12)
    else none
def NW_first (F : Nat) (x1 : Int32) (x2 : Int32) (M : zM) : Option (Int32 × zM) :=
  (NW_isTongue F x1 M).bind fun (r_1, M_2) =>
  if r_1 = 0 then
    some ((-1001), M_2)
  else
    (NW_isLetter F x2 M_2).bind fun (r_5, M_6) =>
    if r_5 = 0 then
      some ((-1002), M_6)
    else
      (loopN (NW_first_B24 F x1 x2) F (0, M_6)).bind fun (k_19, x3_17, M_18) =>
        if k_19 = 1 then
          some (x3_17, M_18)
        else
          if k_19 = 2 then
            some ((-1), M_18)
          else
            none
def NW_song_B40 (F : Nat) (x1 : Int32) (x3 : Int32) : (Int32 × Int32 × zM) → Option (Nat × (Int32 × Int32 × zM)) := fun (x4, x5, M) =>
  if x3 < x5 then
    some (1, x4, 0, M)
  else
    if inb x1 3 = true then
      (Ton_lettersOf F (tgA x1) x5 M).bind fun (r_16, M_17) =>
      lt (x4 + (jmx 0 r_16)) fun x4_19 =>
      lt (x5 + 1) fun x5_21 =>
      some (0, x4_19, x5_21, M_17)
    else none
def NW_song (F : Nat) (x1 : Int32) (x2 : Int32) (x3 : Int32) (M : zM) : Option (Int32 × zM) :=
  (NW_isTongue F x1 M).bind fun (r_1, M_2) =>
  if r_1 = 0 then
    some ((-1001), M_2)
  else
    (NW_isNumber F x2 M_2).bind fun (r_5, M_6) =>
    if r_5 = 0 then
      some ((-1001), M_6)
    else
      (NW_isNumber F x3 M_6).bind fun (r_9, M_10) =>
      if r_9 = 0 then
        some ((-1001), M_10)
      else
        if x2 ≤ x3 then
          (loopN (NW_song_B40 F x1 x3) F (0, x2, M_10)).bind fun (k_26, x4_23, x5_24, M_25) =>
            if k_26 = 1 then
              some (x4_23, M_25)
            else
              none
        else
          some ((-1002), M_10)
def NW_order (F : Nat) (x1 : Int32) (x2 : Int32) (M : zM) : Option (Int32 × zM) :=
  (NW_isTongue F x1 M).bind fun (r_1, M_2) =>
  if r_1 = 0 then
    some ((-1001), M_2)
  else
    if inb x1 3 = true then
      (Ton_numberAt F (tgA x1) x2 M_2).bind fun (r_6, M_7) =>
      some (r_6, M_7)
    else none
def NW_place (F : Nat) (x1 : Int32) (x2 : Int32) (M : zM) : Option (Int32 × zM) :=
  (NW_isTongue F x1 M).bind fun (r_1, M_2) =>
  if r_1 = 0 then
    some ((-1001), M_2)
  else
    (NW_isNumber F x2 M_2).bind fun (r_5, M_6) =>
    if r_5 = 0 then
      some ((-1001), M_6)
    else
      if inb x1 3 = true then
        (Ton_placeOf F (tgA x1) x2 M_6).bind fun (r_10, M_11) =>
        some (r_10, M_11)
      else none
def NW_twins (F : Nat) (x1 : Int32) (x2 : Int32) (M : zM) : Option (Int32 × zM) :=
  (NW_isTongue F x1 M).bind fun (r_1, M_2) =>
  if r_1 = 0 then
    some ((-1001), M_2)
  else
    if inb x1 3 = true then
      if x2 = 0 then
        (Ton_lesserTwin F (tgA x1) M_2).bind fun (r_15, M_16) =>
        some (r_15, M_16)
      else
        if x2 = 1 then
          (Ton_greaterTwin F (tgA x1) M_2).bind fun (r_12, M_13) =>
          some (r_12, M_13)
        else
          if x2 = 2 then
            (Ton_twinCount F (tgA x1) M_2).bind fun (r_9, M_10) =>
            some (r_9, M_10)
          else
            some ((-1002), M_2)
    else none
def NW_write_J60 (F : Nat)  (M : zM) : Option (Int32 × zM) :=
  (Lin_size F 53 M).bind fun (r_10, M_11) =>
  some (r_10, M_11)
def NW_write_J22 (F : Nat) (x1 : Int32) (M : zM) : Option (Int32 × zM) :=
  (Lin_signOf F x1 M).bind fun (r_2, M_3) =>
  (Lin_append F 53 r_2 1 M_3).bind fun (r_5, M_6) =>
  if r_5 = 0 then
    some ((-1004), M_6)
  else
    if x1 = 32 then
      NW_write_J60 F  M_6
    else
      (Lin_signOf F x1 M_6).bind fun (r_13, M_14) =>
      (Lin_append F 55 r_13 1 M_14).bind fun (r_16, M_17) =>
      NW_write_J60 F  M_17
def NW_write (F : Nat) (x1 : Int32) (M : zM) : Option (Int32 × zM) :=
  if x1 = 32 then
    NW_write_J22 F x1 M
  else
    if x1 < 97 then
      some ((-1002), M)
    else
      if x1 ≤ 122 then
        NW_write_J22 F x1 M
      else
        some ((-1002), M)
def NW_clear (F : Nat)  (M : zM) : Option (Int32 × zM) :=
  (Lin_size F 53 M).bind fun (r_1, M_2) =>
  (Lin_empty F 53 M_2).bind fun (_r_4, M_5) =>
  (Lin_empty F 55 M_5).bind fun (_r_7, M_8) =>
  some (r_1, M_8)
def NW_find_J31 (F : Nat) (x1 : Int32) (x2 : Int32) (x3 : Int32) (b0 : Nat) (y1 : Int32) (b2 : Nat) (M : zM) : Option (Int32 × zM) :=
  (Spe_put F b0 y1 b2 M).bind fun (_r_6, M_7) =>
  if x3 = (-1) then
    if inb x1 3 = true then
      (Ton_readings F (tgA x1) 57 x2 M_7).bind fun (r_11, M_12) =>
      some (r_11, M_12)
    else none
  else
    if inb x1 3 = true then
      (Ton_reading F (tgA x1) 57 x2 x3 M_7).bind fun (r_15, M_16) =>
      some (r_15, M_16)
    else none
def NW_find (F : Nat) (x1 : Int32) (x2 : Int32) (x3 : Int32) (M : zM) : Option (Int32 × zM) :=
  (NW_isTongue F x1 M).bind fun (r_1, M_2) =>
  if r_1 = 0 then
    some ((-1001), M_2)
  else
    if x2 = 0 then
      NW_find_J31 F x1 x2 x3 57 0 53 M_2
    else
      NW_find_J31 F x1 x2 x3 57 0 55 M_2
def NW_nearest_B65 (F : Nat) (x2 : Int32) (a3 : Nat) : (Int32 × Int32 × Int32 × zM) → Option (Nat × (Int32 × Int32 × Int32 × zM)) := fun (x4, x5, x6, M) =>
  if 1000 ≤ x6 then
    some (1, x4, x5, 0, M)
  else
    if x5 ≤ 0 then
      some (1, x4, x5, 0, M)
    else
      (Ton_has F a3 x6 M).bind fun (r_15, M_16) =>
      if r_15 = 0 then
        lt (x6 + 1) fun x6_19 =>
        some (0, x4, x5, x6_19, M_16)
      else
        (Ton_lettersOf F a3 x6 M_16).bind fun (r_21, M_22) =>
        (Dis_size F  M_22).bind fun (r_24, M_25) =>
        if x5 ≤ (jab (r_21 - r_24)) then
          lt (x6 + 1) fun x6_28 =>
          some (0, x4, x5, x6_28, M_25)
        else
          (Ton_farFrom F a3 x6 M_25).bind fun (r_30, M_31) =>
          if x5 ≤ r_30 then
            lt (x6 + 1) fun x6_34 =>
            some (0, x4, x5, x6_34, M_31)
          else
            lt (x6 + 1) fun x6_36 =>
            some (0, x6, r_30, x6_36, M_31)
def NW_nearest_J142 (F : Nat) (x2 : Int32) (x4 : Int32) (x5 : Int32) (M : zM) : Option (Int32 × zM) :=
  if x2 = 0 then
    some (x4, M)
  else
    if x4 = (-1) then
      some (x4, M)
    else
      some (x5, M)
def NW_nearest_J24 (F : Nat) (x1 : Int32) (x2 : Int32) (M : zM) : Option (Int32 × zM) :=
  (Spe_put F 57 0 55 M).bind fun (_r_6, M_7) =>
  (Dis_from F 57 0 M_7).bind fun (_r_9, M_10) =>
  if inb x1 3 = true then
    (loopN (NW_nearest_B65 F x2 (tgA x1)) F ((-1), 61, 0, M_10)).bind fun (k_42, x4_38, x5_39, x6_40, M_41) =>
      if k_42 = 1 then
        NW_nearest_J142 F x2 x4_38 x5_39 M_41
      else
        none
  else none
def NW_nearest (F : Nat) (x1 : Int32) (x2 : Int32) (M : zM) : Option (Int32 × zM) :=
  (NW_isTongue F x1 M).bind fun (r_1, M_2) =>
  if r_1 = 0 then
    some ((-1001), M_2)
  else
    if x2 = 0 then
      NW_nearest_J24 F x1 x2 M_2
    else
      if x2 = 1 then
        NW_nearest_J24 F x1 x2 M_2
      else
        some ((-1002), M_2)
def NW_led (F : Nat) (x1 : Int32) (x2 : Int32) (x3 : Int32) (M : zM) : Option (Int32 × zM) :=
  (NW_isTongue F x1 M).bind fun (r_1, M_2) =>
  if r_1 = 0 then
    some ((-1001), M_2)
  else
    (NW_isTongue F x2 M_2).bind fun (r_5, M_6) =>
    if r_5 = 0 then
      some ((-1001), M_6)
    else
      (Spe_put F 57 0 53 M_6).bind fun (_r_9, M_10) =>
      if inb x1 3 = true then
        (Ton_reading F (tgA x1) 57 0 0 M_10).bind fun (r_13, M_14) =>
        if r_13 = (-1) then
          some ((-1003), M_14)
        else
          if inb x2 3 = true then
            (Ton_has F (tgA x2) r_13 M_14).bind fun (r_18, M_19) =>
            if r_18 = 0 then
              some ((-1003), M_19)
            else
              (Ton_sizeOrByte F (tgA x2) r_13 x3 M_19).bind fun (r_22, M_23) =>
              some (r_22, M_23)
          else none
      else none
def NW_chain_B54 (F : Nat) (x2 : Int32) (x3 : Int32) (a4 : Nat) : (Int32 × Int32 × Int32 × Int64 × Int32 × zM) → Option (Nat × (Int32 × Int32 × Int32 × Int64 × Int32 × zM)) := fun (x5, x6, x7, x8, x10, M) =>
  if 61 < x10 then
    some (1, x5, x6, x7, 0, 0, M)
  else
    (Ton_has F a4 x6 M).bind fun (r_13, M_14) =>
    if r_13 = 0 then
      some (1, x5, x6, x7, 0, 0, M_14)
    else
      if x7 = (-1) then
        (Ton_lettersOf F a4 x6 M_14).bind fun (r_18, M_19) =>
        if r_18 = x2 then
          lt (x10 + 1) fun x10_22 =>
          some (0, x5, x6, r_18, x8, x10_22, M_19)
        else
          if (lg_cmp ((sr x8 r_18) &&& 1) 0) = 0 then
            lt (x8 ||| (sl 1 r_18)) fun x8_25 =>
            lt (x5 + 1) fun x5_27 =>
            lt (x10 + 1) fun x10_29 =>
            some (0, x5_27, r_18, x7, x8_25, x10_29, M_19)
          else
            lt (x10 + 1) fun x10_31 =>
            some (0, x5, x6, r_18, x8, x10_31, M_19)
      else
        some (1, x5, x6, x7, 0, 0, M_14)
def NW_chain_J133 (F : Nat) (x3 : Int32) (x5 : Int32) (x6 : Int32) (x7 : Int32) (M : zM) : Option (Int32 × zM) :=
  if x3 = 0 then
    some (x5, M)
  else
    if x3 = 1 then
      some (x6, M)
    else
      some (x7, M)
def NW_chain (F : Nat) (x1 : Int32) (x2 : Int32) (x3 : Int32) (M : zM) : Option (Int32 × zM) :=
  (NW_isTongue F x1 M).bind fun (r_1, M_2) =>
  if r_1 = 0 then
    some ((-1001), M_2)
  else
    (NW_isNumber F x2 M_2).bind fun (r_5, M_6) =>
    if r_5 = 0 then
      some ((-1001), M_6)
    else
      if x3 < 0 then
        some ((-1002), M_6)
      else
        if x3 ≤ 2 then
          if inb x1 3 = true then
            (loopN (NW_chain_B54 F x2 x3 (tgA x1)) F (1, x2, (-1), 0, 0, M_6)).bind fun (k_39, x5_33, x6_34, x7_35, x8_36, x10_37, M_38) =>
              if k_39 = 1 then
                NW_chain_J133 F x3 x5_33 x6_34 x7_35 M_38
              else
                none
          else none
        else
          some ((-1002), M_6)
def NW_honest (F : Nat) (x1 : Int32) (x2 : Int32) (M : zM) : Option (Int32 × zM) :=
  (NW_isTongue F x1 M).bind fun (r_1, M_2) =>
  if r_1 = 0 then
    some ((-1001), M_2)
  else
    if inb x1 3 = true then
      (Ton_honestAt F (tgA x1) x2 M_2).bind fun (r_6, M_7) =>
      some (r_6, M_7)
    else none
def NW_far (F : Nat) (x1 : Int32) (x2 : Int32) (x3 : Int32) (M : zM) : Option (Int32 × zM) :=
  (NW_isTongue F x1 M).bind fun (r_1, M_2) =>
  if r_1 = 0 then
    some ((-1001), M_2)
  else
    (NW_isNumber F x2 M_2).bind fun (r_5, M_6) =>
    if r_5 = 0 then
      some ((-1001), M_6)
    else
      (NW_isNumber F x3 M_6).bind fun (r_9, M_10) =>
      if r_9 = 0 then
        some ((-1001), M_10)
      else
        if inb x1 3 = true then
          (Ton_has F (tgA x1) x2 M_10).bind fun (r_14, M_15) =>
          if r_14 = 0 then
            some ((-1), M_15)
          else
            (Ton_has F (tgA x1) x3 M_15).bind fun (r_18, M_19) =>
            if r_18 = 0 then
              some ((-1), M_19)
            else
              (Ton_measureFrom F (tgA x1) x2 M_19).bind fun (_r_22, M_23) =>
              (Ton_farFrom F (tgA x1) x3 M_23).bind fun (r_25, M_26) =>
              some (r_25, M_26)
        else none
def NW_mixedWith_B27 (F : Nat) (a1 : Nat) (x2 : Int32) (x4 : Int32) : (Int32 × Int32 × zM) → Option (Nat × (Int32 × Int32 × zM)) := fun (x5, x6, M) =>
  if x4 < x6 then
    some (1, x5, 0, M)
  else
    (Ton_has F a1 x6 M).bind fun (r_11, M_12) =>
    if r_11 = 0 then
      lt (x6 + 1) fun x6_15 =>
      some (0, x5, x6_15, M_12)
    else
      (Ton_farFrom F a1 x6 M_12).bind fun (r_17, M_18) =>
      if x2 < r_17 then
        lt (x6 + 1) fun x6_21 =>
        some (0, x5, x6_21, M_18)
      else
        lt (x5 + 1) fun x5_23 =>
        lt (x6 + 1) fun x6_25 =>
        some (0, x5_23, x6_25, M_18)
def NW_mixedWith (F : Nat) (a1 : Nat) (x2 : Int32) (x3 : Int32) (x4 : Int32) (M : zM) : Option (Int32 × zM) :=
  (Ton_has F a1 x3 M).bind fun (r_1, M_2) =>
  if r_1 = 0 then
    some (0, M_2)
  else
    (Ton_measureFrom F a1 x3 M_2).bind fun (_r_5, M_6) =>
    lt (x3 + 1) fun x6_8 =>
    (loopN (NW_mixedWith_B27 F a1 x2 x4) F (0, x6_8, M_6)).bind fun (k_30, x5_27, x6_28, M_29) =>
      if k_30 = 1 then
        some (x5_27, M_29)
      else
        none
def NW_mixed_B61 (F : Nat) (x1 : Int32) (x2 : Int32) (x4 : Int32) : (Int32 × Int32 × zM) → Option (Nat × (Int32 × Int32 × zM)) := fun (x5, x6, M) =>
  if x4 ≤ x6 then
    some (1, x5, 0, M)
  else
    if inb x1 3 = true then
      (NW_mixedWith F (tgA x1) x2 x6 x4 M).bind fun (r_19, M_20) =>
      lt (x5 + r_19) fun x5_22 =>
      lt (x6 + 1) fun x6_24 =>
      some (0, x5_22, x6_24, M_20)
    else none
def NW_mixed (F : Nat) (x1 : Int32) (x2 : Int32) (x3 : Int32) (x4 : Int32) (M : zM) : Option (Int32 × zM) :=
  (NW_isTongue F x1 M).bind fun (r_1, M_2) =>
  if r_1 = 0 then
    some ((-1001), M_2)
  else
    (NW_isNumber F x3 M_2).bind fun (r_5, M_6) =>
    if r_5 = 0 then
      some ((-1001), M_6)
    else
      (NW_isNumber F x4 M_6).bind fun (r_9, M_10) =>
      if r_9 = 0 then
        some ((-1001), M_10)
      else
        if x2 < 0 then
          some ((-1002), M_10)
        else
          if 9 < x2 then
            some ((-1002), M_10)
          else
            if x4 < x3 then
              some ((-1002), M_10)
            else
              if (x4 - x3) ≤ 60 then
                (loopN (NW_mixed_B61 F x1 x2 x4) F (0, x3, M_10)).bind fun (k_29, x5_26, x6_27, M_28) =>
                  if k_29 = 1 then
                    some (x5_26, M_28)
                  else
                    none
              else
                some ((-1002), M_10)
def NW_square (F : Nat) (x1 : Int32) (x2 : Int32) (x3 : Int32) (x4 : Int32) (M : zM) : Option (Int32 × zM) :=
  (NW_isTongue F x1 M).bind fun (r_1, M_2) =>
  if r_1 = 0 then
    some ((-1001), M_2)
  else
    (NW_isNumber F x2 M_2).bind fun (r_5, M_6) =>
    if r_5 = 0 then
      some ((-1002), M_6)
    else
      if 0 ≤ (lg_cmp (jabL x3.toInt64) 1000) then
        some ((-1002), M_6)
      else
        if (lg_cmp (jabL x4.toInt64) 1000) < 0 then
          (Squ_lay F x2 x3 x4 M_6).bind fun (r_11, M_12) =>
          if r_11 = 0 then
            some ((-1), M_12)
          else
            if inb x1 3 = true then
              (Squ_holdsIn F (tgA x1) M_12).bind fun (r_16, M_17) =>
              if r_16 = 0 then
                some (0, M_17)
              else
                some (1, M_17)
            else none
        else
          some ((-1002), M_6)
def NW_squares_B29 (F : Nat) (x1 : Int32) (x2 : Int32) (x3 : Int32) : (Int32 × zM) → Option (Nat × (Int32 × zM)) := fun (x4, M) =>
  if 60 < x4 then
    some (2, 0, M)
  else
    (Squ_lay F x2 x3 x4 M).bind fun (r_11, M_12) =>
    if r_11 = 0 then
      lt (x4 + 1) fun x4_15 =>
      some (0, x4_15, M_12)
    else
      if inb x1 3 = true then
        (Squ_holdsIn F (tgA x1) M_12).bind fun (r_18, M_19) =>
        if r_18 = 0 then
          lt (x4 + 1) fun x4_22 =>
          some (0, x4_22, M_19)
        else
          (Squ_isUnlike F  M_19).bind fun (r_24, M_25) =>
          if r_24 = 0 then
            lt (x4 + 1) fun x4_28 =>
            some (0, x4_28, M_25)
          else
            some (1, x4, M_25)
      else none
def NW_squares_B20 (F : Nat) (x1 : Int32) (x2 : Int32) : (Int32 × Int32 × zM) → Option (Nat × (Int32 × Int32 × zM)) := fun (x3, x4, M) =>
  if 60 < x3 then
    some (2, 0, 0, M)
  else
    (loopN (NW_squares_B29 F x1 x2 x3) F (1, M)).bind fun (k_32, x4_30, M_31) =>
      if k_32 = 1 then
        some (1, x3, x4_30, M_31)
      else
        if k_32 = 2 then
          lt (x3 + 1) fun x3_34 =>
          some (0, x3_34, 0, M_31)
        else
          none
def NW_squares (F : Nat) (x1 : Int32) (x2 : Int32) (M : zM) : Option (Int32 × zM) :=
  (NW_isTongue F x1 M).bind fun (r_1, M_2) =>
  if r_1 = 0 then
    some ((-1001), M_2)
  else
    (NW_isNumber F x2 M_2).bind fun (r_5, M_6) =>
    if r_5 = 0 then
      some ((-1001), M_6)
    else
      (loopN (NW_squares_B20 F x1 x2) F (1, 0, M_6)).bind fun (k_41, x3_38, x4_39, M_40) =>
        if k_41 = 1 then
          some ((x3_38 * 100) + x4_39, M_40)
        else
          if k_41 = 2 then
            some ((-1), M_40)
          else
            none
def Mod_in (F : Nat) (x0 : Int64) (x2 : Int64) (x4 : Int64) (M : zM) : Option (Int32 × zM) :=
  if (lg_cmp x0 x2) < 0 then
    if 0 &&& 1 = 0 then some (0, M) else none
  else
    if 0 < (lg_cmp x0 x4) then
      if 0 &&& 1 = 0 then some (0, M) else none
    else
      if 1 &&& 1 = 1 then some (1, M) else none
def Mod_isTongue (F : Nat) (x0 : Int32) (M : zM) : Option (Int32 × zM) :=
  (Mod_in F x0.toInt64 0 2 M).bind fun (r_1, M_2) =>
  if r_1 &&& 1 = r_1 then some (r_1, M_2) else none
def Mod_isNumber (F : Nat) (x0 : Int32) (M : zM) : Option (Int32 × zM) :=
  (Mod_in F x0.toInt64 0 999 M).bind fun (r_1, M_2) =>
  if r_1 &&& 1 = r_1 then some (r_1, M_2) else none
def Mod_feed_B37 (F : Nat) (x2 : Int64) : (Int32 × zM) → Option (Nat × (Int32 × zM)) := fun (x4, M) =>
  if x4 < 0 then
    some (1, 0, M)
  else
    if inb (M.1 63 16) 240 = true then
      lt (zI M 79 (M.1 63 16).toNatClampNeg (((sr x2 (8 * x4)) &&& 255).toInt32)) fun M_10 =>
      lt (zI M_10 63 16 ((M_10.1 63 16) + 1)) fun M_12 =>
      lt (x4 + (-1)) fun x4_14 =>
      some (0, x4_14, M_12)
    else none
def Mod_feed (F : Nat) (x1 : Int32) (x2 : Int64) (M : zM) : Option (Int32 × zM) :=
  (Mod_in F x1.toInt64 1 8 M).bind fun (r_1, M_2) =>
  if r_1 = 0 then
    some ((-1002), M_2)
  else
    if ((M_2.1 63 16) + x1) ≤ 240 then
      lt (x1 - 1) fun x4_6 =>
      (loopN (Mod_feed_B37 F x2) F (x4_6, M_2)).bind fun (k_18, x4_16, M_17) =>
        if k_18 = 1 then
          some (M_17.1 63 16, M_17)
        else
          none
    else
      some ((-1004), M_2)
def Mod_here_B0 (F : Nat)  : zM → Option (Nat × zM) := fun (M) =>
  if (M.1 63 16) ≤ (M.1 63 18) then
    some (1, M)
  else
    if inb (M.1 63 18) 240 = true then
      if (M.1 79 (M.1 63 18).toNatClampNeg) = 32 then
        lt (zI M 63 18 ((M.1 63 18) + 1)) fun M_4 =>
        some (0, M_4)
      else
        some (1, M)
    else none
def Mod_here_J38 (F : Nat)  (M : zM) : Option (Int32 × zM) :=
  if (M.1 63 16) ≤ (M.1 63 18) then
    some ((-1), M)
  else
    if inb (M.1 63 18) 240 = true then
      some (M.1 79 (M.1 63 18).toNatClampNeg, M)
    else none
def Mod_here (F : Nat)  (M : zM) : Option (Int32 × zM) :=
  (loopN (Mod_here_B0 F ) F (M)).bind fun (k_7, M_6) =>
    if k_7 = 1 then
      Mod_here_J38 F  M_6
    else
      none
def Mod_fails (F : Nat) (x1 : Int32) (x2 : Int32) (M : zM) : Option (Int32 × zM) :=
  lt (zI M 63 17 x2) fun M_1 =>
  some (x1, M_1)
def Mod_takeNumber_J113 (F : Nat) (x1 : Int32) (x2 : Int32) (y1 : Int32) (M : zM) : Option (Nat × zM) :=
  lt (zI M 63 29 y1) fun M_20 =>
  lt (zI M_20 63 18 ((M_20.1 63 18) + 1)) fun M_22 =>
  some (0, M_22)
def Mod_takeNumber_B42 (F : Nat) (x1 : Int32) (x2 : Int32) : zM → Option (Nat × zM) := fun (M) =>
  if (M.1 63 16) ≤ (M.1 63 18) then
    some (1, M)
  else
    if inb (M.1 63 18) 240 = true then
      (Mod_in F ((M.1 79 (M.1 63 18).toNatClampNeg).toInt64) 48 57 M).bind fun (r_14, M_15) =>
      if r_14 = 0 then
        some (1, M_15)
      else
        if (M_15.1 63 29) ≤ 10000 then
          if inb (M_15.1 63 18) 240 = true then
            Mod_takeNumber_J113 F x1 x2 (((10 * (M_15.1 63 29)) + (M_15.1 79 (M_15.1 63 18).toNatClampNeg)) - 48) M_15
          else none
        else
          Mod_takeNumber_J113 F x1 x2 (M_15.1 63 29) M_15
    else none
def Mod_takeNumber_J157 (F : Nat)  (M : zM) : Option (Int32 × zM) :=
  (Mod_fails F 2 (M.1 63 30) M).bind fun (r_28, M_29) =>
  some (r_28, M_29)
def Mod_takeNumber_J129 (F : Nat) (x1 : Int32) (x2 : Int32) (M : zM) : Option (Int32 × zM) :=
  if 3 < ((M.1 63 18) - (M.1 63 30)) then
    Mod_takeNumber_J157 F  M
  else
    (Mod_in F ((M.1 63 29).toInt64) x1.toInt64 x2.toInt64 M).bind fun (r_31, M_32) =>
    if r_31 = 0 then
      Mod_takeNumber_J157 F  M_32
    else
      some (0, M_32)
def Mod_takeNumber (F : Nat) (x1 : Int32) (x2 : Int32) (M : zM) : Option (Int32 × zM) :=
  (Mod_here F  M).bind fun (r_1, M_2) =>
  (Mod_in F r_1.toInt64 48 57 M_2).bind fun (r_4, M_5) =>
  if r_4 = 0 then
    (Mod_fails F 1 (M_5.1 63 18) M_5).bind fun (r_36, M_37) =>
    some (r_36, M_37)
  else
    lt (zI M_5 63 30 (M_5.1 63 18)) fun M_8 =>
    lt (zI M_8 63 29 0) fun M_10 =>
    (loopN (Mod_takeNumber_B42 F x1 x2) F (M_10)).bind fun (k_25, M_24) =>
      if k_25 = 1 then
        Mod_takeNumber_J129 F x1 x2 M_24
      else
        none
def Mod_isComing_B12 (F : Nat) (x1 : Int32) (x2 : Int32) (x3 : Int32) (x4 : Int32) : (Int32 × zM) → Option (Nat × (Int32 × zM)) := fun (x6, M) =>
  if (M.1 63 16) ≤ x6 then
    some (1, x6, M)
  else
    if inb x6 240 = true then
      (Mod_in F ((M.1 79 x6.toNatClampNeg).toInt64) 97 122 M).bind fun (r_8, M_9) =>
      if r_8 = 0 then
        some (1, x6, M_9)
      else
        lt (x6 + 1) fun x6_12 =>
        some (0, x6_12, M_9)
    else none
def Mod_isComing_J161 (F : Nat) (x4 : Int32) (y0 : Int32) (M : zM) : Option (Int32 × zM) :=
  if y0 = 0 then
    if 0 &&& 1 = 0 then some (0, M) else none
  else
    if x4 = 0 then
      if 1 &&& 1 = 1 then some (1, M) else none
    else
      if inb ((M.1 63 18) + 3) 240 = true then
        if (M.1 79 ((M.1 63 18) + 3).toNatClampNeg) = x4 then
          if 1 &&& 1 = 1 then some (1, M) else none
        else
          if 0 &&& 1 = 0 then some (0, M) else none
      else none
def Mod_isComing_J160 (F : Nat) (x4 : Int32) (M : zM) : Option (Int32 × zM) :=
  Mod_isComing_J161 F x4 0 M
def Mod_isComing_J156 (F : Nat) (x4 : Int32) (M : zM) : Option (Int32 × zM) :=
  Mod_isComing_J161 F x4 1 M
def Mod_isComing_J130 (F : Nat) (x3 : Int32) (x4 : Int32) (y0 : Int32) (M : zM) : Option (Int32 × zM) :=
  if y0 = 0 then
    Mod_isComing_J160 F x4 M
  else
    if x3 = 0 then
      Mod_isComing_J156 F x4 M
    else
      if inb ((M.1 63 18) + 2) 240 = true then
        if (M.1 79 ((M.1 63 18) + 2).toNatClampNeg) = x3 then
          Mod_isComing_J156 F x4 M
        else
          Mod_isComing_J160 F x4 M
      else none
def Mod_isComing_J129 (F : Nat) (x3 : Int32) (x4 : Int32) (M : zM) : Option (Int32 × zM) :=
  Mod_isComing_J130 F x3 x4 0 M
def Mod_isComing_J90 (F : Nat) (x1 : Int32) (x2 : Int32) (x3 : Int32) (x4 : Int32) (y0 : Int32) (M : zM) : Option (Int32 × zM) :=
  if y0 = 0 then
    Mod_isComing_J129 F x3 x4 M
  else
    if inb (M.1 63 18) 240 = true then
      if (M.1 79 (M.1 63 18).toNatClampNeg) = x1 then
        if inb ((M.1 63 18) + 1) 240 = true then
          if (M.1 79 ((M.1 63 18) + 1).toNatClampNeg) = x2 then
            Mod_isComing_J130 F x3 x4 1 M
          else
            Mod_isComing_J129 F x3 x4 M
        else none
      else
        Mod_isComing_J129 F x3 x4 M
    else none
def Mod_isComing_J71 (F : Nat) (x1 : Int32) (x2 : Int32) (x3 : Int32) (x4 : Int32) (x6 : Int32) (y0 : Int32) (M : zM) : Option (Int32 × zM) :=
  if (x6 - (M.1 63 18)) = y0 then
    Mod_isComing_J90 F x1 x2 x3 x4 1 M
  else
    Mod_isComing_J90 F x1 x2 x3 x4 0 M
def Mod_isComing_J47 (F : Nat) (x1 : Int32) (x2 : Int32) (x3 : Int32) (x4 : Int32) (x6 : Int32) (M : zM) : Option (Int32 × zM) :=
  lt (zI M 63 31 x6) fun M_18 =>
  if x4 ≤ 0 then
    if x3 ≤ 0 then
      Mod_isComing_J71 F x1 x2 x3 x4 x6 2 M_18
    else
      Mod_isComing_J71 F x1 x2 x3 x4 x6 3 M_18
  else
    Mod_isComing_J71 F x1 x2 x3 x4 x6 4 M_18
def Mod_isComing (F : Nat) (x1 : Int32) (x2 : Int32) (x3 : Int32) (x4 : Int32) (M : zM) : Option (Int32 × zM) :=
  (Mod_here F  M).bind fun (r_1, M_2) =>
  lt (M_2.1 63 18) fun x6_4 =>
  (loopN (Mod_isComing_B12 F x1 x2 x3 x4) F (x6_4, M_2)).bind fun (k_16, x6_14, M_15) =>
    if k_16 = 1 then
      Mod_isComing_J47 F x1 x2 x3 x4 x6_14 M_15
    else
      none
def Mod_needs (F : Nat) (x1 : Int32) (x2 : Int32) (M : zM) : Option (Int32 × zM) :=
  (Mod_isComing F x1 x2 0 0 M).bind fun (r_1, M_2) =>
  if r_1 = 0 then
    (Mod_fails F 1 (M_2.1 63 18) M_2).bind fun (r_7, M_8) =>
    some (r_7, M_8)
  else
    lt (zI M_2 63 18 (M_2.1 63 31)) fun M_5 =>
    some (0, M_5)
def Mod_takeLetters_B43 (F : Nat) (x1 : Int32) : zM → Option (Nat × zM) := fun (M) =>
  if (M.1 63 16) ≤ (M.1 63 18) then
    some (2, M)
  else
    if inb (M.1 63 18) 240 = true then
      (Mod_in F ((M.1 79 (M.1 63 18).toNatClampNeg).toInt64) 97 122 M).bind fun (r_15, M_16) =>
      if r_15 = 0 then
        some (2, M_16)
      else
        if inb x1 96 = true then
          if (M_16.1 87 x1.toNatClampNeg) = 12 then
            some (1, M_16)
          else
            if inb (M_16.1 63 18) 240 = true then
              if inb ((12 * x1) + (M_16.1 87 x1.toNatClampNeg)) 1152 = true then
                lt (zI M_16 88 ((12 * x1) + (M_16.1 87 x1.toNatClampNeg)).toNatClampNeg (M_16.1 79 (M_16.1 63 18).toNatClampNeg)) fun M_23 =>
                lt (zI M_23 87 x1.toNatClampNeg ((M_23.1 87 x1.toNatClampNeg) + 1)) fun M_25 =>
                lt (zI M_25 63 18 ((M_25.1 63 18) + 1)) fun M_27 =>
                some (0, M_27)
              else none
            else none
        else none
    else none
def Mod_takeLetters (F : Nat) (x1 : Int32) (M : zM) : Option (Int32 × zM) :=
  (Mod_here F  M).bind fun (r_1, M_2) =>
  (Mod_in F r_1.toInt64 97 122 M_2).bind fun (r_4, M_5) =>
  if r_4 = 0 then
    (Mod_fails F 1 (M_5.1 63 18) M_5).bind fun (r_37, M_38) =>
    some (r_37, M_38)
  else
    if inb x1 96 = true then
      lt (zI M_5 85 x1.toNatClampNeg 0) fun M_9 =>
      lt (zI M_9 87 x1.toNatClampNeg 0) fun M_11 =>
      (loopN (Mod_takeLetters_B43 F x1) F (M_11)).bind fun (k_30, M_29) =>
        if k_30 = 1 then
          (Mod_fails F 4 (M_29.1 63 18) M_29).bind fun (r_33, M_34) =>
          some (r_33, M_34)
        else
          if k_30 = 2 then
            some (0, M_29)
          else
            none
    else none
def Mod_takePart_J193 (F : Nat) (x4 : Int32) (y0 : Int32) (M : zM) : Option (Int32 × zM) :=
  if 0 ≤ y0 then
    if inb x4 96 = true then
      lt (zI M 85 x4.toNatClampNeg y0) fun M_25 =>
      lt (zI M_25 63 18 ((M_25.1 63 18) + 1)) fun M_27 =>
      some (0, M_27)
    else none
  else
    (Mod_fails F 1 (M.1 63 18) M).bind fun (r_29, M_30) =>
    some (r_29, M_30)
def Mod_takePart_J135 (F : Nat) (x4 : Int32) (y0 : Int32) (M : zM) : Option (Int32 × zM) :=
  if y0 = 113 then
    Mod_takePart_J193 F x4 1 M
  else
    if y0 = 116 then
      Mod_takePart_J193 F x4 2 M
    else
      if y0 = 114 then
        Mod_takePart_J193 F x4 3 M
      else
        if y0 = 99 then
          Mod_takePart_J193 F x4 4 M
        else
          if y0 = 110 then
            Mod_takePart_J193 F x4 5 M
          else
            Mod_takePart_J193 F x4 (-1) M
def Mod_takePart_J35 (F : Nat) (x1 : Int32) (x2 : Int32) (x3 : Int32) (M : zM) : Option (Int32 × zM) :=
  if inb x1 12 = true then
    if (M.1 84 x1.toNatClampNeg) = 8 then
      (Mod_fails F 6 (M.1 63 18) M).bind fun (r_36, M_37) =>
      some (r_36, M_37)
    else
      lt ((8 * x1) + (M.1 84 x1.toNatClampNeg)) fun x4_7 =>
      if inb x4_7 96 = true then
        lt (zI M 86 x4_7.toNatClampNeg (x2 &&& 1)) fun M_10 =>
        lt (zI M_10 84 x1.toNatClampNeg ((M_10.1 84 x1.toNatClampNeg) + 1)) fun M_12 =>
        if x3 = 35 then
          lt (zI M_12 63 18 ((M_12.1 63 18) + 1)) fun M_15 =>
          if (M_15.1 63 16) ≤ (M_15.1 63 18) then
            Mod_takePart_J135 F x4_7 (-1) M_15
          else
            if inb (M_15.1 63 18) 240 = true then
              Mod_takePart_J135 F x4_7 (M_15.1 79 (M_15.1 63 18).toNatClampNeg) M_15
            else none
        else
          (Mod_takeLetters F x4_7 M_12).bind fun (r_33, M_34) =>
          some (r_33, M_34)
      else none
  else none
def Mod_takePart (F : Nat) (x1 : Int32) (x2 : Int32) (M : zM) : Option (Int32 × zM) :=
  (Mod_here F  M).bind fun (r_1, M_2) =>
  if r_1 = 35 then
    Mod_takePart_J35 F x1 x2 r_1 M_2
  else
    (Mod_in F r_1.toInt64 97 122 M_2).bind fun (r_39, M_40) =>
    if r_39 = 0 then
      (Mod_fails F 1 (M_40.1 63 18) M_40).bind fun (r_43, M_44) =>
      some (r_43, M_44)
    else
      Mod_takePart_J35 F x1 x2 r_1 M_40
def Mod_takeBracket_B17 (F : Nat) (x1 : Int32) : (Int32 × zM) → Option (Nat × (Int32 × zM)) := fun (x2, M) =>
  if x2 = 0 then
    (Mod_here F  M).bind fun (r_7, M_8) =>
    if r_7 = 93 then
      some (1, x2, M_8)
    else
      (Mod_takePart F x1 1 M_8).bind fun (r_11, M_12) =>
      some (0, r_11, M_12)
  else
    some (1, x2, M)
def Mod_takeBracket_J40 (F : Nat) (x2 : Int32) (M : zM) : Option (Int32 × zM) :=
  if x2 = 0 then
    lt (zI M 63 18 ((M.1 63 18) + 1)) fun M_21 =>
    some (x2, M_21)
  else
    lt (zI M 63 18 ((M.1 63 18) + 0)) fun M_19 =>
    some (x2, M_19)
def Mod_takeBracket (F : Nat) (x1 : Int32) (M : zM) : Option (Int32 × zM) :=
  lt (zI M 63 18 ((M.1 63 18) + 1)) fun M_1 =>
  (Mod_takePart F x1 1 M_1).bind fun (r_3, M_4) =>
  (loopN (Mod_takeBracket_B17 F x1) F (r_3, M_4)).bind fun (k_16, x2_14, M_15) =>
    if k_16 = 1 then
      Mod_takeBracket_J40 F x2_14 M_15
    else
      none
def Mod_takeForm_J166 (F : Nat) (x1 : Int32) (M : zM) : Option (Nat × (Int32 × Int32 × zM)) :=
  (Mod_here F  M).bind fun (r_39, M_40) =>
  if r_39 = 91 then
    (Mod_takeBracket F x1 M_40).bind fun (r_46, M_47) =>
    some (0, r_46, 0, M_47)
  else
    (Mod_takePart F x1 0 M_40).bind fun (r_43, M_44) =>
    some (0, r_43, 0, M_44)
def Mod_takeForm_B149 (F : Nat) (x1 : Int32) : (Int32 × Int32 × zM) → Option (Nat × (Int32 × Int32 × zM)) := fun (x2, x3, M) =>
  if x2 = 0 then
    if x3 = 0 then
      (Mod_here F  M).bind fun (r_49, M_50) =>
      if r_49 = 59 then
        some (1, x2, 0, M_50)
      else
        Mod_takeForm_J166 F x1 M_50
    else
      Mod_takeForm_J166 F x1 M
  else
    some (1, x2, 0, M)
def Mod_takeForm_J101 (F : Nat) (x1 : Int32) (y0 : Int32) (M : zM) : Option (Int32 × zM) :=
  if inb x1 12 = true then
    lt (zI M 83 x1.toNatClampNeg (M.1 63 29)) fun M_28 =>
    if y0 ≤ 0 then
      (Mod_here F  M_28).bind fun (r_31, M_32) =>
      if r_31 = 58 then
        lt (zI M_32 63 18 ((M_32.1 63 18) + 1)) fun M_35 =>
        (loopN (Mod_takeForm_B149 F x1) F (y0, 1, M_35)).bind fun (k_56, x2_53, x3_54, M_55) =>
          if k_56 = 1 then
            some (x2_53, M_55)
          else
            none
      else
        (Mod_fails F 1 (M_32.1 63 18) M_32).bind fun (r_59, M_60) =>
        some (r_59, M_60)
    else
      some (y0, M_28)
  else none
def Mod_takeForm_J84 (F : Nat) (x1 : Int32) (y0 : Int32) (M : zM) : Option (Int32 × zM) :=
  if y0 ≤ 0 then
    (Mod_takeNumber F 2 500 M).bind fun (r_24, M_25) =>
    Mod_takeForm_J101 F x1 r_24 M_25
  else
    Mod_takeForm_J101 F x1 y0 M
def Mod_takeForm_J57 (F : Nat) (x1 : Int32) (y0 : Int32) (M : zM) : Option (Int32 × zM) :=
  if inb x1 12 = true then
    lt (zI M 82 x1.toNatClampNeg (M.1 63 29)) fun M_17 =>
    if y0 ≤ 0 then
      (Mod_needs F 98 121 M_17).bind fun (r_20, M_21) =>
      Mod_takeForm_J84 F x1 r_20 M_21
    else
      Mod_takeForm_J84 F x1 y0 M_17
  else none
def Mod_takeForm_J35 (F : Nat) (x1 : Int32) (y0 : Int32) (M : zM) : Option (Int32 × zM) :=
  if y0 ≤ 0 then
    if inb x1 12 = true then
      (Mod_takeNumber F (M.1 81 x1.toNatClampNeg) 999 M).bind fun (r_13, M_14) =>
      Mod_takeForm_J57 F x1 r_13 M_14
    else none
  else
    Mod_takeForm_J57 F x1 y0 M
def Mod_takeForm (F : Nat) (x1 : Int32) (M : zM) : Option (Int32 × zM) :=
  (Mod_takeNumber F 0 999 M).bind fun (r_1, M_2) =>
  if inb x1 12 = true then
    lt (zI M_2 81 x1.toNatClampNeg (M_2.1 63 29)) fun M_5 =>
    if r_1 ≤ 0 then
      (Mod_needs F 116 111 M_5).bind fun (r_8, M_9) =>
      Mod_takeForm_J35 F x1 r_8 M_9
    else
      Mod_takeForm_J35 F x1 r_1 M_5
  else none
def Mod_takeWord_B21 (F : Nat) (x1 : Int32) : (Int32 × Int32 × zM) → Option (Nat × (Int32 × Int32 × zM)) := fun (x2, x3, M) =>
  if x1 ≤ x3 then
    some (1, x2, 0, M)
  else
    if x2 = 0 then
      if inb x3 12 = true then
        if (M.1 80 x3.toNatClampNeg) = 0 then
          lt (x3 + 1) fun x3_11 =>
          some (0, 0, x3_11, M)
        else
          if (M.1 81 x3.toNatClampNeg) = (M.1 63 29) then
            (Mod_fails F 3 (M.1 63 30) M).bind fun (r_16, M_17) =>
            lt (x3 + 1) fun x3_19 =>
            some (0, r_16, x3_19, M_17)
          else
            lt (x3 + 1) fun x3_14 =>
            some (0, 0, x3_14, M)
      else none
    else
      some (1, x2, 0, M)
def Mod_takeWord_J72 (F : Nat) (x1 : Int32) (x2 : Int32) (M : zM) : Option (Int32 × zM) :=
  if inb x1 12 = true then
    lt (zI M 84 x1.toNatClampNeg 1) fun M_27 =>
    if x2 ≤ 0 then
      (Mod_takeLetters F (8 * x1) M_27).bind fun (r_30, M_31) =>
      some (r_30, M_31)
    else
      some (x2, M_27)
  else none
def Mod_takeWord (F : Nat) (x1 : Int32) (M : zM) : Option (Int32 × zM) :=
  (Mod_takeNumber F 0 999 M).bind fun (r_1, M_2) =>
  if inb x1 12 = true then
    lt (zI M_2 81 x1.toNatClampNeg (M_2.1 63 29)) fun M_5 =>
    (loopN (Mod_takeWord_B21 F x1) F (r_1, 0, M_5)).bind fun (k_24, x2_21, x3_22, M_23) =>
      if k_24 = 1 then
        Mod_takeWord_J72 F x1 x2_21 M_23
      else
        none
  else none
def Mod_takeClause_J115 (F : Nat) (y0 : Int32) (M : zM) : Option (Int32 × zM) :=
  if y0 ≤ 0 then
    (Mod_here F  M).bind fun (r_22, M_23) =>
    if r_22 = 59 then
      lt (zI M_23 63 18 ((M_23.1 63 18) + 1)) fun M_26 =>
      lt (zI M_26 63 19 ((M_26.1 63 19) + 1)) fun M_28 =>
      some (0, M_28)
    else
      (Mod_fails F 1 (M_23.1 63 18) M_23).bind fun (r_30, M_31) =>
      some (r_30, M_31)
  else
    some (y0, M)
def Mod_takeClause_J56 (F : Nat) (y1 : Int32) (M : zM) : Option (Int32 × zM) :=
  (Mod_fails F y1 (M.1 63 18) M).bind fun (r_37, M_38) =>
  some (r_37, M_38)
def Mod_takeClause_J55 (F : Nat)  (M : zM) : Option (Int32 × zM) :=
  Mod_takeClause_J56 F 5 M
def Mod_takeClause_J42 (F : Nat) (x1 : Int32) (x2 : Int32) (M : zM) : Option (Int32 × zM) :=
  if x1 = 0 then
    if x2 = 0 then
      Mod_takeClause_J56 F 1 M
    else
      Mod_takeClause_J55 F  M
  else
    Mod_takeClause_J55 F  M
def Mod_takeClause_J33 (F : Nat) (x1 : Int32) (x2 : Int32) (M : zM) : Option (Int32 × zM) :=
  if (M.1 63 19) = 12 then
    Mod_takeClause_J42 F x1 x2 M
  else
    lt (zI M 63 18 (M.1 63 31)) fun M_9 =>
    if inb (M_9.1 63 19) 12 = true then
      lt (zI M_9 80 (M_9.1 63 19).toNatClampNeg (x1 &&& 1)) fun M_12 =>
      if inb (M_12.1 63 19) 12 = true then
        lt (zI M_12 84 (M_12.1 63 19).toNatClampNeg 0) fun M_15 =>
        if x1 = 0 then
          (Mod_takeForm F (M_15.1 63 19) M_15).bind fun (r_18, M_19) =>
          Mod_takeClause_J115 F r_18 M_19
        else
          (Mod_takeWord F (M_15.1 63 19) M_15).bind fun (r_33, M_34) =>
          Mod_takeClause_J115 F r_33 M_34
      else none
    else none
def Mod_takeClause (F : Nat)  (M : zM) : Option (Int32 × zM) :=
  (Mod_isComing F 119 111 114 100 M).bind fun (r_1, M_2) =>
  (Mod_isComing F 102 111 114 0 M_2).bind fun (r_4, M_5) =>
  if r_1 = 0 then
    if r_4 = 0 then
      Mod_takeClause_J42 F r_1 r_4 M_5
    else
      Mod_takeClause_J33 F r_1 r_4 M_5
  else
    Mod_takeClause_J33 F r_1 r_4 M_5
def Mod_keep_B176 (F : Nat) (x1 : Int32) (x2 : Int32) (x3 : Int32) (x4 : Int32) : (Int32 × zM) → Option (Nat × (Int32 × zM)) := fun (x5, M) =>
  if inb ((8 * x2) + x4) 96 = true then
    if (M.1 87 ((8 * x2) + x4).toNatClampNeg) ≤ x5 then
      some (1, 0, M)
    else
      if inb ((12 * ((8 * x2) + x4)) + x5) 1152 = true then
        if inb ((12 * ((8 * x3) + x4)) + x5) 3456 = true then
          lt (zI M 73 ((12 * ((8 * x3) + x4)) + x5).toNatClampNeg (M.1 88 ((12 * ((8 * x2) + x4)) + x5).toNatClampNeg)) fun M_33 =>
          lt (x5 + 1) fun x5_35 =>
          some (0, x5_35, M_33)
        else none
      else none
  else none
def Mod_keep_B90 (F : Nat) (x1 : Int32) (x2 : Int32) (x3 : Int32) : (Int32 × zM) → Option (Nat × (Int32 × zM)) := fun (x4, M) =>
  if inb x2 12 = true then
    if (M.1 84 x2.toNatClampNeg) ≤ x4 then
      some (1, 0, M)
    else
      if inb ((8 * x2) + x4) 96 = true then
        if inb ((8 * x3) + x4) 288 = true then
          lt (zI M 70 ((8 * x3) + x4).toNatClampNeg (M.1 85 ((8 * x2) + x4).toNatClampNeg)) fun M_23 =>
          lt (zI M_23 71 ((8 * x3) + x4).toNatClampNeg ((M_23.1 86 ((8 * x2) + x4).toNatClampNeg) &&& 1)) fun M_25 =>
          lt (zI M_25 72 ((8 * x3) + x4).toNatClampNeg (M_25.1 87 ((8 * x2) + x4).toNatClampNeg)) fun M_27 =>
          (loopN (Mod_keep_B176 F x1 x2 x3 x4) F (0, M_27)).bind fun (k_39, x5_37, M_38) =>
            if k_39 = 1 then
              lt (x4 + 1) fun x4_41 =>
              some (0, x4_41, M_38)
            else
              none
        else none
      else none
  else none
def Mod_keep_B12 (F : Nat) (x1 : Int32) : (Int32 × zM) → Option (Nat × (Int32 × zM)) := fun (x2, M) =>
  if (M.1 63 19) ≤ x2 then
    some (1, 0, M)
  else
    lt ((12 * x1) + x2) fun x3_5 =>
    if inb x2 12 = true then
      if inb x3_5 36 = true then
        lt (zI M 65 x3_5.toNatClampNeg ((M.1 80 x2.toNatClampNeg) &&& 1)) fun M_9 =>
        lt (zI M_9 66 x3_5.toNatClampNeg (M_9.1 81 x2.toNatClampNeg)) fun M_11 =>
        lt (zI M_11 67 x3_5.toNatClampNeg (M_11.1 82 x2.toNatClampNeg)) fun M_13 =>
        lt (zI M_13 68 x3_5.toNatClampNeg (M_13.1 83 x2.toNatClampNeg)) fun M_15 =>
        lt (zI M_15 69 x3_5.toNatClampNeg (M_15.1 84 x2.toNatClampNeg)) fun M_17 =>
        (loopN (Mod_keep_B90 F x1 x2 x3_5) F (0, M_17)).bind fun (k_46, x4_44, M_45) =>
          if k_46 = 1 then
            lt (x2 + 1) fun x2_48 =>
            some (0, x2_48, M_45)
          else
            none
      else none
    else none
def Mod_keep (F : Nat) (x1 : Int32) (M : zM) : Option (Unit × zM) :=
  if inb x1 3 = true then
    lt (zI M 64 x1.toNatClampNeg (M.1 63 19)) fun M_2 =>
    (loopN (Mod_keep_B12 F x1) F (0, M_2)).bind fun (k_53, x2_51, M_52) =>
      if k_53 = 1 then
        some ((), M_52)
      else
        none
  else none
def Mod_clauseFor_B17 (F : Nat) (x1 : Int32) (x2 : Int32) : (Int32 × Int32 × zM) → Option (Nat × (Int32 × Int32 × zM)) := fun (x3, x4, M) =>
  if x4 < (12 * x1) then
    some (1, x3, 0, M)
  else
    if inb x4 36 = true then
      if (M.1 65 x4.toNatClampNeg) = 0 then
        if x2 < (M.1 66 x4.toNatClampNeg) then
          lt (x4 + (-1)) fun x4_10 =>
          some (0, x3, x4_10, M)
        else
          if (M.1 67 x4.toNatClampNeg) < x2 then
            lt (x4 + (-1)) fun x4_13 =>
            some (0, x3, x4_13, M)
          else
            lt (x4 + (-1)) fun x4_15 =>
            some (0, x4, x4_15, M)
      else
        lt (x4 + (-1)) fun x4_7 =>
        some (0, x3, x4_7, M)
    else none
def Mod_clauseFor_B77 (F : Nat) (x1 : Int32) (x2 : Int32) : (Int32 × Int32 × zM) → Option (Nat × (Int32 × Int32 × zM)) := fun (x3, x4, M) =>
  if inb x1 3 = true then
    if ((12 * x1) + (M.1 64 x1.toNatClampNeg)) ≤ x4 then
      some (1, x3, 0, M)
    else
      if inb x4 36 = true then
        if (M.1 65 x4.toNatClampNeg) = 0 then
          lt (x4 + 1) fun x4_28 =>
          some (0, x3, x4_28, M)
        else
          if x2 = (M.1 66 x4.toNatClampNeg) then
            lt (x4 + 1) fun x4_33 =>
            some (0, x4, x4_33, M)
          else
            lt (x4 + 1) fun x4_31 =>
            some (0, x3, x4_31, M)
      else none
  else none
def Mod_clauseFor (F : Nat) (x1 : Int32) (x2 : Int32) (M : zM) : Option (Int32 × zM) :=
  if inb x1 3 = true then
    lt (((12 * x1) + (M.1 64 x1.toNatClampNeg)) - 1) fun x4_2 =>
    (loopN (Mod_clauseFor_B17 F x1 x2) F ((-1), x4_2, M)).bind fun (k_20, x3_17, x4_18, M_19) =>
      if k_20 = 1 then
        lt (12 * x1) fun x4_22 =>
        (loopN (Mod_clauseFor_B77 F x1 x2) F (x3_17, x4_22, M_19)).bind fun (k_38, x3_35, x4_36, M_37) =>
          if k_38 = 1 then
            some (x3_35, M_37)
          else
            none
      else
        none
  else none
def Mod_isThere (F : Nat) (x1 : Int32) (x2 : Int32) (x3 : Int32) (M : zM) : Option (Int32 × zM) :=
  if inb x1 288 = true then
    if (M.1 71 x1.toNatClampNeg) = 0 then
      if 1 &&& 1 = 1 then some (1, M) else none
    else
      if inb x2 36 = true then
        if ¬ (M.1 68 x2.toNatClampNeg) = 0 then
          if (x3 - x3 / (M.1 68 x2.toNatClampNeg) * (M.1 68 x2.toNatClampNeg)) = 0 then
            if 0 &&& 1 = 0 then some (0, M) else none
          else
            if 1 &&& 1 = 1 then some (1, M) else none
        else none
      else none
  else none
def Mod_numberOf (F : Nat) (x1 : Int32) (x2 : Int32) (x3 : Int32) (M : zM) : Option (Int32 × zM) :=
  if inb x2 36 = true then
    lt (M.1 68 x2.toNatClampNeg) fun x4_2 =>
    if ¬ x4_2 = 0 then
      lt (x3 - x3 / x4_2 * x4_2) fun x5_5 =>
      if inb x1 288 = true then
        if (M.1 70 x1.toNatClampNeg) = 1 then
          some (x3 / x4_2, M)
        else
          if (M.1 70 x1.toNatClampNeg) = 2 then
            some (x3 - x5_5, M)
          else
            if (M.1 70 x1.toNatClampNeg) = 3 then
              some (x5_5, M)
            else
              if (M.1 70 x1.toNatClampNeg) = 4 then
                some (x4_2 - x5_5, M)
              else
                if (M.1 70 x1.toNatClampNeg) = 5 then
                  some ((x3 - x5_5) + x4_2, M)
                else
                  some ((-1), M)
      else none
    else none
  else none
def Mod_stateOf_J74 (F : Nat) (x1 : Int32) (x2 : Int32) (x3 : Int32) (x4 : Int32) (y0 : Int32) (M : zM) : Option (Nat × (Int32 × Int32 × zM)) :=
  if y0 = 2 then
    lt (x4 + 1) fun x4_23 =>
    some (0, 2, x4_23, M)
  else
    if x3 = 2 then
      lt (x4 + 1) fun x4_31 =>
      some (0, 2, x4_31, M)
    else
      if y0 = 0 then
        lt (x4 + 1) fun x4_29 =>
        some (0, 0, x4_29, M)
      else
        lt (x4 + 1) fun x4_27 =>
        some (0, x3, x4_27, M)
def Mod_stateOf_B8 (F : Nat) (x1 : Int32) (x2 : Int32) : (Int32 × Int32 × zM) → Option (Nat × (Int32 × Int32 × zM)) := fun (x3, x4, M) =>
  if inb x1 36 = true then
    if ((8 * x1) + (M.1 69 x1.toNatClampNeg)) ≤ x4 then
      some (1, x3, 0, M)
    else
      if inb x4 288 = true then
        if (M.1 70 x4.toNatClampNeg) = 0 then
          lt (x4 + 1) fun x4_7 =>
          some (0, x3, x4_7, M)
        else
          (Mod_isThere F x4 x1 x2 M).bind fun (r_9, M_10) =>
          if r_9 = 0 then
            lt (x4 + 1) fun x4_13 =>
            some (0, x3, x4_13, M_10)
          else
            (Mod_numberOf F x4 x1 x2 M_10).bind fun (r_15, M_16) =>
            (Mod_isNumber F r_15 M_16).bind fun (r_18, M_19) =>
            if r_18 = 0 then
              Mod_stateOf_J74 F x1 x2 x3 x4 2 M_19
            else
              if inb r_15 1000 = true then
                Mod_stateOf_J74 F x1 x2 x3 x4 (M_19.1 90 r_15.toNatClampNeg) M_19
              else none
      else none
  else none
def Mod_stateOf (F : Nat) (x1 : Int32) (x2 : Int32) (M : zM) : Option (Int32 × zM) :=
  lt (8 * x1) fun x4_1 =>
  (loopN (Mod_stateOf_B8 F x1 x2) F (1, x4_1, M)).bind fun (k_37, x3_34, x4_35, M_36) =>
    if k_37 = 1 then
      some (x3_34, M_36)
    else
      none
def Mod_byteOf (F : Nat) (x1 : Int32) (x2 : Int32) (M : zM) : Option (Int32 × zM) :=
  if inb ((8 * x1) + (x2 / 8)) 24000 = true then
    some (((sr (M.2 75 ((8 * x1) + (x2 / 8)).toNatClampNeg) (8 * (x2 - x2 / 8 * 8))) &&& 255).toInt32, M)
  else none
def Mod_addBytes_J110 (F : Nat) (x1 : Int32) (x2 : Int32) (x3 : Int32) (x4 : Int32) (x5 : Int32) (y1 : Int32) (y2 : Int32) (M : zM) : Option (Nat × (Int32 × zM)) :=
  if inb y1 800 = true then
    lt (zI M 89 y1.toNatClampNeg y2) fun M_10 =>
    lt (zI M_10 63 33 ((M_10.1 63 33) + 1)) fun M_12 =>
    lt (x5 + 1) fun x5_14 =>
    some (0, x5_14, M_12)
  else none
def Mod_addBytes_B63 (F : Nat) (x1 : Int32) (x2 : Int32) (x3 : Int32) (x4 : Int32) : (Int32 × zM) → Option (Nat × (Int32 × zM)) := fun (x5, M) =>
  if x4 ≤ x5 then
    some (1, 0, M)
  else
    if 0 ≤ x3 then
      (Mod_byteOf F ((1000 * x1) + x3) x5 M).bind fun (r_6, M_7) =>
      Mod_addBytes_J110 F x1 x2 x3 x4 x5 (M.1 63 33) r_6 M_7
    else
      if inb ((12 * x2) + x5) 3456 = true then
        Mod_addBytes_J110 F x1 x2 x3 x4 x5 (M.1 63 33) (M.1 73 ((12 * x2) + x5).toNatClampNeg) M
      else none
def Mod_addBytes_J60 (F : Nat) (x1 : Int32) (x2 : Int32) (x3 : Int32) (x4 : Int32) (M : zM) : Option (Unit × zM) :=
  (loopN (Mod_addBytes_B63 F x1 x2 x3 x4) F (0, M)).bind fun (k_19, x5_17, M_18) =>
    if k_19 = 1 then
      some ((), M_18)
    else
      none
def Mod_addBytes_J25 (F : Nat) (x1 : Int32) (x2 : Int32) (x3 : Int32) (y0 : Int32) (M : zM) : Option (Unit × zM) :=
  if y0 ≤ 0 then
    Mod_addBytes_J60 F x1 x2 x3 y0 M
  else
    if (M.1 63 33) ≤ 0 then
      Mod_addBytes_J60 F x1 x2 x3 y0 M
    else
      if inb (M.1 63 33) 800 = true then
        lt (zI M 89 (M.1 63 33).toNatClampNeg 32) fun M_24 =>
        lt (zI M_24 63 33 ((M_24.1 63 33) + 1)) fun M_26 =>
        Mod_addBytes_J60 F x1 x2 x3 y0 M_26
      else none
def Mod_addBytes (F : Nat) (x1 : Int32) (x2 : Int32) (x3 : Int32) (M : zM) : Option (Unit × zM) :=
  if 0 ≤ x3 then
    if inb ((1000 * x1) + x3) 3000 = true then
      Mod_addBytes_J25 F x1 x2 x3 (M.1 74 ((1000 * x1) + x3).toNatClampNeg) M
    else none
  else
    if inb x2 288 = true then
      Mod_addBytes_J25 F x1 x2 x3 (M.1 72 x2.toNatClampNeg) M
    else none
def Mod_makeName_J121 (F : Nat) (x1 : Int32) (x2 : Int32) (x3 : Int32) (x5 : Int32) (x6 : Int32) (y0 : Int32) (M : zM) : Option (Nat × (Int32 × Int32 × zM)) :=
  (Mod_addBytes F x1 x5 x6 M).bind fun (_r_13, M_14) =>
  lt (x5 + 1) fun x5_16 =>
  some (0, y0, x5_16, M_14)
def Mod_makeName_J105 (F : Nat) (x1 : Int32) (x2 : Int32) (x3 : Int32) (x4 : Int32) (x5 : Int32) (x6 : Int32) (y0 : Int32) (M : zM) : Option (Nat × (Int32 × Int32 × zM)) :=
  if y0 ≤ x4 then
    Mod_makeName_J121 F x1 x2 x3 x5 x6 x4 M
  else
    Mod_makeName_J121 F x1 x2 x3 x5 x6 y0 M
def Mod_makeName_J81 (F : Nat) (x1 : Int32) (x2 : Int32) (x3 : Int32) (x4 : Int32) (x5 : Int32) (y0 : Int32) (M : zM) : Option (Nat × (Int32 × Int32 × zM)) :=
  if 0 ≤ y0 then
    if inb ((1000 * x1) + y0) 3000 = true then
      Mod_makeName_J105 F x1 x2 x3 x4 x5 y0 (M.1 76 ((1000 * x1) + y0).toNatClampNeg) M
    else none
  else
    Mod_makeName_J105 F x1 x2 x3 x4 x5 y0 0 M
def Mod_makeName_J69 (F : Nat) (x1 : Int32) (x2 : Int32) (x3 : Int32) (x4 : Int32) (x5 : Int32) (M : zM) : Option (Nat × (Int32 × Int32 × zM)) :=
  Mod_makeName_J81 F x1 x2 x3 x4 x5 (-1) M
def Mod_makeName_J50 (F : Nat) (x1 : Int32) (x2 : Int32) (x3 : Int32) (x4 : Int32) (x5 : Int32) (M : zM) : Option (Nat × (Int32 × Int32 × zM)) :=
  if inb x2 36 = true then
    if (M.1 65 x2.toNatClampNeg) = 0 then
      if inb x5 288 = true then
        if (M.1 70 x5.toNatClampNeg) = 0 then
          Mod_makeName_J69 F x1 x2 x3 x4 x5 M
        else
          (Mod_numberOf F x5 x2 x3 M).bind fun (r_20, M_21) =>
          Mod_makeName_J81 F x1 x2 x3 x4 x5 r_20 M_21
      else none
    else
      Mod_makeName_J69 F x1 x2 x3 x4 x5 M
  else none
def Mod_makeName_B14 (F : Nat) (x1 : Int32) (x2 : Int32) (x3 : Int32) : (Int32 × Int32 × zM) → Option (Nat × (Int32 × Int32 × zM)) := fun (x4, x5, M) =>
  if inb x2 36 = true then
    if ((8 * x2) + (M.1 69 x2.toNatClampNeg)) ≤ x5 then
      some (1, x4, 0, M)
    else
      if (M.1 65 x2.toNatClampNeg) = 0 then
        (Mod_isThere F x5 x2 x3 M).bind fun (r_23, M_24) =>
        if r_23 = 0 then
          lt (x5 + 1) fun x5_27 =>
          some (0, x4, x5_27, M_24)
        else
          Mod_makeName_J50 F x1 x2 x3 x4 x5 M_24
      else
        Mod_makeName_J50 F x1 x2 x3 x4 x5 M
  else none
def Mod_makeName_B172 (F : Nat) (x1 : Int32) (x2 : Int32) (x4 : Int32) (x5 : Int32) : (Int32 × zM) → Option (Nat × (Int32 × zM)) := fun (x6, M) =>
  if ((8 * x5) + 8) ≤ x6 then
    some (1, 0, M)
  else
    if inb x6 24000 = true then
      lt (zL M 75 x6.toNatClampNeg 0) fun M_42 =>
      lt (x6 + 1) fun x6_44 =>
      some (0, x6_44, M_42)
    else none
def Mod_makeName_B205 (F : Nat) (x1 : Int32) (x2 : Int32) (x4 : Int32) (x5 : Int32) : (Int32 × Int32 × zM) → Option (Nat × (Int32 × Int32 × zM)) := fun (x6, x7, M) =>
  if (M.1 63 33) ≤ x7 then
    some (1, x6, 0, M)
  else
    lt ((8 * x5) + (x7 / 8)) fun d_51 =>
    if inb d_51 24000 = true then
      if inb x7 800 = true then
        lt (zL M 75 d_51.toNatClampNeg ((M.2 75 d_51.toNatClampNeg) ||| (sl ((M.1 89 x7.toNatClampNeg).toInt64) (8 * (x7 - x7 / 8 * 8))))) fun M_55 =>
        if (M_55.1 89 x7.toNatClampNeg) = 32 then
          lt (x6 + 0) fun x6_62 =>
          lt (x7 + 1) fun x7_64 =>
          some (0, x6_62, x7_64, M_55)
        else
          lt (x6 + 1) fun x6_58 =>
          lt (x7 + 1) fun x7_60 =>
          some (0, x6_58, x7_60, M_55)
      else none
    else none
def Mod_makeName (F : Nat) (x1 : Int32) (x2 : Int32) (x3 : Int32) (M : zM) : Option (Int32 × zM) :=
  lt (zI M 63 33 0) fun M_1 =>
  lt (8 * x2) fun x5_3 =>
  (loopN (Mod_makeName_B14 F x1 x2 x3) F (0, x5_3, M_1)).bind fun (k_32, x4_29, x5_30, M_31) =>
    if k_32 = 1 then
      lt ((1000 * x1) + x3) fun x5_34 =>
      if 60 < (M_31.1 63 33) then
        some (2, M_31)
      else
        if x4_29 < 8 then
          lt (8 * x5_34) fun x6_38 =>
          (loopN (Mod_makeName_B172 F x1 x2 x4_29 x5_34) F (x6_38, M_31)).bind fun (k_48, x6_46, M_47) =>
            if k_48 = 1 then
              (loopN (Mod_makeName_B205 F x1 x2 x4_29 x5_34) F (0, 0, M_47)).bind fun (k_69, x6_66, x7_67, M_68) =>
                if k_69 = 1 then
                  if inb x5_34 3000 = true then
                    lt (zI M_68 74 x5_34.toNatClampNeg (M_68.1 63 33)) fun M_72 =>
                    lt (zI M_72 76 x5_34.toNatClampNeg (x4_29 + 1)) fun M_74 =>
                    lt (zI M_74 77 x5_34.toNatClampNeg (x2 - (12 * x1))) fun M_76 =>
                    lt (zI M_76 78 x5_34.toNatClampNeg x6_66) fun M_78 =>
                    some (1, M_78)
                  else none
                else
                  none
            else
              none
        else
          some (2, M_31)
    else
      none
def Mod_findNames_B2 (F : Nat) (x1 : Int32) : (Int32 × zM) → Option (Nat × (Int32 × zM)) := fun (x2, M) =>
  if 1000 ≤ x2 then
    some (1, 0, M)
  else
    if inb x2 1000 = true then
      lt (zI M 90 x2.toNatClampNeg 0) fun M_3 =>
      if inb ((1000 * x1) + x2) 3000 = true then
        lt (zI M_3 74 ((1000 * x1) + x2).toNatClampNeg (-1)) fun M_6 =>
        lt (zI M_6 76 ((1000 * x1) + x2).toNatClampNeg (-1)) fun M_8 =>
        lt (zI M_8 77 ((1000 * x1) + x2).toNatClampNeg (-1)) fun M_10 =>
        lt (x2 + 1) fun x2_12 =>
        some (0, x2_12, M_10)
      else none
    else none
def Mod_findNames_J151 (F : Nat) (x1 : Int32) (x2 : Int32) (x3 : Int32) (y1 : Int32) (y2 : Int32) (M : zM) : Option (Nat × (Int32 × Int32 × zM)) :=
  if inb y1 1000 = true then
    lt (zI M 90 y1.toNatClampNeg y2) fun M_35 =>
    if x2 = 0 then
      if inb x3 1000 = true then
        if (M_35.1 90 x3.toNatClampNeg) ≤ 0 then
          lt (x3 + 1) fun x3_42 =>
          some (0, 0, x3_42, M_35)
        else
          lt (x3 + 1) fun x3_44 =>
          some (0, 1, x3_44, M_35)
      else none
    else
      lt (x3 + 1) fun x3_38 =>
      some (0, 1, x3_38, M_35)
  else none
def Mod_findNames_J125 (F : Nat) (x1 : Int32) (x2 : Int32) (x3 : Int32) (x4 : Int32) (y0 : Int32) (M : zM) : Option (Nat × (Int32 × Int32 × zM)) :=
  if y0 = 1 then
    (Mod_makeName F x1 x4 x3 M).bind fun (r_46, M_47) =>
    Mod_findNames_J151 F x1 x2 x3 x3 r_46 M_47
  else
    Mod_findNames_J151 F x1 x2 x3 x3 y0 M
def Mod_findNames_B71 (F : Nat) (x1 : Int32) : (Int32 × Int32 × zM) → Option (Nat × (Int32 × Int32 × zM)) := fun (x2, x3, M) =>
  if 1000 ≤ x3 then
    some (1, x2, 0, M)
  else
    if inb x3 1000 = true then
      if (M.1 90 x3.toNatClampNeg) = 0 then
        (Mod_clauseFor F x1 x3 M).bind fun (r_24, M_25) =>
        if 0 ≤ r_24 then
          if inb r_24 36 = true then
            if (M_25.1 65 r_24.toNatClampNeg) = 0 then
              (Mod_stateOf F r_24 x3 M_25).bind fun (r_30, M_31) =>
              Mod_findNames_J125 F x1 x2 x3 r_24 r_30 M_31
            else
              Mod_findNames_J125 F x1 x2 x3 r_24 1 M_25
          else none
        else
          Mod_findNames_J125 F x1 x2 x3 r_24 2 M_25
      else
        lt (x3 + 1) fun x3_22 =>
        some (0, x2, x3_22, M)
    else none
def Mod_findNames_B63 (F : Nat) (x1 : Int32) : (Int32 × zM) → Option (Nat × (Int32 × zM)) := fun (x2, M) =>
  if x2 = 0 then
    some (1, 0, M)
  else
    (loopN (Mod_findNames_B71 F x1) F (0, 0, M)).bind fun (k_52, x2_49, x3_50, M_51) =>
      if k_52 = 1 then
        some (0, x2_49, M_51)
      else
        none
def Mod_findNames (F : Nat) (x1 : Int32) (M : zM) : Option (Unit × zM) :=
  (loopN (Mod_findNames_B2 F x1) F (0, M)).bind fun (k_16, x2_14, M_15) =>
    if k_16 = 1 then
      (loopN (Mod_findNames_B63 F x1) F (1, M_15)).bind fun (k_57, x2_55, M_56) =>
        if k_57 = 1 then
          lt (zI M_56 63 35 0) fun M_59 =>
          some ((), M_59)
        else
          none
    else
      none
def Mod_read_B28 (F : Nat) (x1 : Int32) : (Int32 × zM) → Option (Nat × (Int32 × zM)) := fun (x2, M) =>
  if x2 = 0 then
    (Mod_here F  M).bind fun (r_12, M_13) =>
    if r_12 < 0 then
      some (1, x2, M_13)
    else
      (Mod_takeClause F  M_13).bind fun (r_16, M_17) =>
      some (0, r_16, M_17)
  else
    some (1, x2, M)
def Mod_read_J47 (F : Nat) (x1 : Int32) (x2 : Int32) (M : zM) : Option (Int32 × zM) :=
  lt (zI M 63 16 0) fun M_23 =>
  if x2 ≤ 0 then
    (Mod_keep F x1 M_23).bind fun (_r_26, M_27) =>
    (Mod_findNames F x1 M_27).bind fun (_r_29, M_30) =>
    some (M_30.1 63 19, M_30)
  else
    some ((-10) - x2, M_23)
def Mod_read (F : Nat) (x1 : Int32) (M : zM) : Option (Int32 × zM) :=
  (Mod_isTongue F x1 M).bind fun (r_1, M_2) =>
  if r_1 = 0 then
    some ((-1001), M_2)
  else
    lt (zI M_2 63 17 (-1)) fun M_5 =>
    lt (zI M_5 63 18 0) fun M_7 =>
    lt (zI M_7 63 19 0) fun M_9 =>
    (loopN (Mod_read_B28 F x1) F (0, M_9)).bind fun (k_21, x2_19, M_20) =>
      if k_21 = 1 then
        Mod_read_J47 F x1 x2_19 M_20
      else
        none
def Mod_fault (F : Nat)  (M : zM) : Option (Int32 × zM) :=
  some (M.1 63 17, M)
def Mod_name (F : Nat) (x1 : Int32) (x2 : Int32) (x3 : Int32) (M : zM) : Option (Int32 × zM) :=
  (Mod_isTongue F x1 M).bind fun (r_1, M_2) =>
  if r_1 = 0 then
    some ((-1001), M_2)
  else
    (Mod_isNumber F x2 M_2).bind fun (r_5, M_6) =>
    if r_5 = 0 then
      some ((-1001), M_6)
    else
      lt ((1000 * x1) + x2) fun x4_9 =>
      if x3 = (-1) then
        if inb x4_9 3000 = true then
          some (M_6.1 74 x4_9.toNatClampNeg, M_6)
        else none
      else
        if inb x4_9 3000 = true then
          (Mod_in F x3.toInt64 0 (((M_6.1 74 x4_9.toNatClampNeg) - 1).toInt64) M_6).bind fun (r_13, M_14) =>
          if r_13 = 0 then
            some ((-1), M_14)
          else
            (Mod_byteOf F x4_9 x3 M_14).bind fun (r_17, M_18) =>
            some (r_17, M_18)
        else none
def Mod_lettersOf (F : Nat) (x1 : Int32) (x2 : Int32) (M : zM) : Option (Int32 × zM) :=
  lt ((1000 * x1) + x2) fun x3_1 =>
  if inb x3_1 3000 = true then
    if 0 ≤ (M.1 74 x3_1.toNatClampNeg) then
      some (M.1 78 x3_1.toNatClampNeg, M)
    else
      some ((-1), M)
  else none
def Mod_letters (F : Nat) (x1 : Int32) (x2 : Int32) (M : zM) : Option (Int32 × zM) :=
  (Mod_isTongue F x1 M).bind fun (r_1, M_2) =>
  if r_1 = 0 then
    some ((-1001), M_2)
  else
    (Mod_isNumber F x2 M_2).bind fun (r_5, M_6) =>
    if r_5 = 0 then
      some ((-1001), M_6)
    else
      (Mod_lettersOf F x1 x2 M_6).bind fun (r_9, M_10) =>
      some (r_9, M_10)
def Mod_by (F : Nat) (x1 : Int32) (x2 : Int32) (M : zM) : Option (Int32 × zM) :=
  (Mod_isTongue F x1 M).bind fun (r_1, M_2) =>
  if r_1 = 0 then
    some ((-1001), M_2)
  else
    (Mod_isNumber F x2 M_2).bind fun (r_5, M_6) =>
    if r_5 = 0 then
      some ((-1001), M_6)
    else
      if inb ((1000 * x1) + x2) 3000 = true then
        some (M_6.1 77 ((1000 * x1) + x2).toNatClampNeg, M_6)
      else none
def Mod_deep (F : Nat) (x1 : Int32) (x2 : Int32) (M : zM) : Option (Int32 × zM) :=
  (Mod_isTongue F x1 M).bind fun (r_1, M_2) =>
  if r_1 = 0 then
    some ((-1001), M_2)
  else
    (Mod_isNumber F x2 M_2).bind fun (r_5, M_6) =>
    if r_5 = 0 then
      some ((-1001), M_6)
    else
      if inb ((1000 * x1) + x2) 3000 = true then
        some (M_6.1 76 ((1000 * x1) + x2).toNatClampNeg, M_6)
      else none
def Mod_about_J99 (F : Nat) (x1 : Int32) (x2 : Int32) (x3 : Int32) (x4 : Int32) (x6 : Int32) (x7 : Int32) (y0 : Int32) (M : zM) : Option (Nat × (Int32 × Int32 × Int32 × Int32 × Int32 × zM)) :=
  (Mod_lettersOf F x1 x7 M).bind fun (r_13, M_14) =>
  if r_13 = x7 then
    lt (x6 + 1) fun x6_21 =>
    lt (x7 + (-1)) fun x7_23 =>
    some (0, x3, x4, y0, x6_21, x7_23, M_14)
  else
    lt (x6 + 0) fun x6_17 =>
    lt (x7 + (-1)) fun x7_19 =>
    some (0, x3, x4, y0, x6_17, x7_19, M_14)
def Mod_about_J85 (F : Nat) (x1 : Int32) (x2 : Int32) (x3 : Int32) (x5 : Int32) (x6 : Int32) (x7 : Int32) (x8 : Int32) (y0 : Int32) (M : zM) : Option (Nat × (Int32 × Int32 × Int32 × Int32 × Int32 × zM)) :=
  if x8 = 0 then
    Mod_about_J99 F x1 x2 x3 y0 x6 x7 x7 M
  else
    Mod_about_J99 F x1 x2 x3 y0 x6 x7 x5 M
def Mod_about_J83 (F : Nat) (x1 : Int32) (x2 : Int32) (x3 : Int32) (x4 : Int32) (x5 : Int32) (x6 : Int32) (x7 : Int32) (x8 : Int32) (M : zM) : Option (Nat × (Int32 × Int32 × Int32 × Int32 × Int32 × zM)) :=
  Mod_about_J85 F x1 x2 x3 x5 x6 x7 x8 x4 M
def Mod_about_J66 (F : Nat) (x1 : Int32) (x2 : Int32) (x4 : Int32) (x5 : Int32) (x6 : Int32) (x7 : Int32) (x8 : Int32) (y0 : Int32) (y1 : Int32) (M : zM) : Option (Nat × (Int32 × Int32 × Int32 × Int32 × Int32 × zM)) :=
  lt (y0 + y1) fun x3_9 =>
  if x8 = 0 then
    Mod_about_J83 F x1 x2 x3_9 x4 x5 x6 x7 x8 M
  else
    if 0 ≤ x4 then
      Mod_about_J83 F x1 x2 x3_9 x4 x5 x6 x7 x8 M
    else
      Mod_about_J85 F x1 x2 x3_9 x5 x6 x7 x8 x7 M
def Mod_about_J53 (F : Nat) (x1 : Int32) (x2 : Int32) (x3 : Int32) (x4 : Int32) (x5 : Int32) (x6 : Int32) (x7 : Int32) (y0 : Int32) (M : zM) : Option (Nat × (Int32 × Int32 × Int32 × Int32 × Int32 × zM)) :=
  if y0 = 0 then
    Mod_about_J66 F x1 x2 x4 x5 x6 x7 y0 x3 0 M
  else
    Mod_about_J66 F x1 x2 x4 x5 x6 x7 y0 x3 1 M
def Mod_about_B27 (F : Nat) (x1 : Int32) (x2 : Int32) : (Int32 × Int32 × Int32 × Int32 × Int32 × zM) → Option (Nat × (Int32 × Int32 × Int32 × Int32 × Int32 × zM)) := fun (x3, x4, x5, x6, x7, M) =>
  if x7 < 0 then
    some (1, x3, x4, x5, x6, 0, M)
  else
    if inb ((1000 * x1) + x7) 3000 = true then
      if (M.1 74 ((1000 * x1) + x7).toNatClampNeg) < 0 then
        Mod_about_J53 F x1 x2 x3 x4 x5 x6 x7 0 M
      else
        Mod_about_J53 F x1 x2 x3 x4 x5 x6 x7 1 M
    else none
def Mod_about (F : Nat) (x1 : Int32) (x2 : Int32) (M : zM) : Option (Int32 × zM) :=
  (Mod_isTongue F x1 M).bind fun (r_1, M_2) =>
  if r_1 = 0 then
    some ((-1001), M_2)
  else
    (loopN (Mod_about_B27 F x1 x2) F (0, (-1), (-1), 0, 999, M_2)).bind fun (k_32, x3_26, x4_27, x5_28, x6_29, x7_30, M_31) =>
      if k_32 = 1 then
        if x2 = 0 then
          if inb x1 3 = true then
            some (M_31.1 64 x1.toNatClampNeg, M_31)
          else none
        else
          if x2 = 1 then
            some (x3_26, M_31)
          else
            if x2 = 2 then
              some (x4_27, M_31)
            else
              if x2 = 3 then
                some (x5_28, M_31)
              else
                if x2 = 4 then
                  some (x6_29, M_31)
                else
                  if x2 = 5 then
                    some (M_31.1 63 16, M_31)
                  else
                    if x2 = 6 then
                      some (M_31.1 63 42, M_31)
                    else
                      some ((-1002), M_31)
      else
        none
def Mod_usesIn_B15 (F : Nat) (x3 : Int32) (x4 : Int32) : (Int32 × Int32 × zM) → Option (Nat × (Int32 × Int32 × zM)) := fun (x5, x6, M) =>
  if inb x4 3000 = true then
    if (M.1 74 x4.toNatClampNeg) ≤ x6 then
      some (1, x5, 0, M)
    else
      (Mod_byteOf F x4 x6 M).bind fun (r_5, M_6) =>
      if r_5 = (x3 + 97) then
        lt (x5 + 1) fun x5_13 =>
        lt (x6 + 1) fun x6_15 =>
        some (0, x5_13, x6_15, M_6)
      else
        lt (x5 + 0) fun x5_9 =>
        lt (x6 + 1) fun x6_11 =>
        some (0, x5_9, x6_11, M_6)
  else none
def Mod_usesIn (F : Nat) (x1 : Int32) (x2 : Int32) (x3 : Int32) (M : zM) : Option (Int32 × zM) :=
  lt ((1000 * x1) + x2) fun x4_1 =>
  (loopN (Mod_usesIn_B15 F x3 x4_1) F (0, 0, M)).bind fun (k_20, x5_17, x6_18, M_19) =>
    if k_20 = 1 then
      some (x5_17, M_19)
    else
      none
def Mod_uses_B54 (F : Nat) (x1 : Int32) (x2 : Int32) (x4 : Int32) : (Int32 × Int32 × zM) → Option (Nat × (Int32 × Int32 × zM)) := fun (x5, x6, M) =>
  if x4 < x6 then
    some (1, x5, 0, M)
  else
    (Mod_usesIn F x1 x6 x2 M).bind fun (r_19, M_20) =>
    lt (x5 + r_19) fun x5_22 =>
    lt (x6 + 1) fun x6_24 =>
    some (0, x5_22, x6_24, M_20)
def Mod_uses (F : Nat) (x1 : Int32) (x2 : Int32) (x3 : Int32) (x4 : Int32) (M : zM) : Option (Int32 × zM) :=
  (Mod_isTongue F x1 M).bind fun (r_1, M_2) =>
  if r_1 = 0 then
    some ((-1001), M_2)
  else
    (Mod_isNumber F x3 M_2).bind fun (r_5, M_6) =>
    if r_5 = 0 then
      some ((-1001), M_6)
    else
      (Mod_isNumber F x4 M_6).bind fun (r_9, M_10) =>
      if r_9 = 0 then
        some ((-1001), M_10)
      else
        (Mod_in F x2.toInt64 0 25 M_10).bind fun (r_13, M_14) =>
        if r_13 = 0 then
          some ((-1002), M_14)
        else
          if x3 ≤ x4 then
            (loopN (Mod_uses_B54 F x1 x2 x4) F (0, x3, M_14)).bind fun (k_29, x5_26, x6_27, M_28) =>
              if k_29 = 1 then
                some (x5_26, M_28)
              else
                none
          else
            some ((-1002), M_14)
def Mod_first_B29 (F : Nat) (x1 : Int32) (x2 : Int32) : (Int32 × zM) → Option (Nat × (Int32 × zM)) := fun (x3, M) =>
  if 1000 ≤ x3 then
    some (2, 0, M)
  else
    (Mod_usesIn F x1 x3 x2 M).bind fun (r_10, M_11) =>
    if r_10 ≤ 0 then
      lt (x3 + 1) fun x3_14 =>
      some (0, x3_14, M_11)
    else
      some (1, x3, M_11)
def Mod_first (F : Nat) (x1 : Int32) (x2 : Int32) (M : zM) : Option (Int32 × zM) :=
  (Mod_isTongue F x1 M).bind fun (r_1, M_2) =>
  if r_1 = 0 then
    some ((-1001), M_2)
  else
    (Mod_in F x2.toInt64 0 25 M_2).bind fun (r_5, M_6) =>
    if r_5 = 0 then
      some ((-1002), M_6)
    else
      (loopN (Mod_first_B29 F x1 x2) F (0, M_6)).bind fun (k_18, x3_16, M_17) =>
        if k_18 = 1 then
          some (x3_16, M_17)
        else
          if k_18 = 2 then
            some ((-1), M_17)
          else
            none
def Mod_song_B40 (F : Nat) (x1 : Int32) (x3 : Int32) : (Int32 × Int32 × zM) → Option (Nat × (Int32 × Int32 × zM)) := fun (x4, x5, M) =>
  if x3 < x5 then
    some (1, x4, 0, M)
  else
    if inb ((1000 * x1) + x5) 3000 = true then
      if 0 ≤ (M.1 74 ((1000 * x1) + x5).toNatClampNeg) then
        lt (x4 + (M.1 78 ((1000 * x1) + x5).toNatClampNeg)) fun x4_17 =>
        lt (x5 + 1) fun x5_19 =>
        some (0, x4_17, x5_19, M)
      else
        lt (x4 + 0) fun x4_21 =>
        lt (x5 + 1) fun x5_23 =>
        some (0, x4_21, x5_23, M)
    else none
def Mod_song (F : Nat) (x1 : Int32) (x2 : Int32) (x3 : Int32) (M : zM) : Option (Int32 × zM) :=
  (Mod_isTongue F x1 M).bind fun (r_1, M_2) =>
  if r_1 = 0 then
    some ((-1001), M_2)
  else
    (Mod_isNumber F x2 M_2).bind fun (r_5, M_6) =>
    if r_5 = 0 then
      some ((-1001), M_6)
    else
      (Mod_isNumber F x3 M_6).bind fun (r_9, M_10) =>
      if r_9 = 0 then
        some ((-1001), M_10)
      else
        if x2 ≤ x3 then
          (loopN (Mod_song_B40 F x1 x3) F (0, x2, M_10)).bind fun (k_28, x4_25, x5_26, M_27) =>
            if k_28 = 1 then
              some (x4_25, M_27)
            else
              none
        else
          some ((-1002), M_10)
def Mod_isAhead_B21 (F : Nat) (x2 : Int32) (x3 : Int32) (x4 : Int32) (x5 : Int32) : (Int32 × zM) → Option (Nat × (Int32 × zM)) := fun (x6, M) =>
  if inb x4 3000 = true then
    if (M.1 74 x4.toNatClampNeg) ≤ x6 then
      some (1, x6, M)
    else
      if inb x5 3000 = true then
        if (M.1 74 x5.toNatClampNeg) ≤ x6 then
          some (1, x6, M)
        else
          (Mod_byteOf F x4 x6 M).bind fun (r_9, M_10) =>
          (Mod_byteOf F x5 x6 M_10).bind fun (r_12, M_13) =>
          if r_9 = r_12 then
            lt (x6 + 1) fun x6_16 =>
            some (0, x6_16, M_13)
          else
            some (1, x6, M_13)
      else none
  else none
def Mod_isAhead_J94 (F : Nat) (x2 : Int32) (x3 : Int32) (x4 : Int32) (x5 : Int32) (M : zM) : Option (Int32 × zM) :=
  if inb x4 3000 = true then
    if inb x5 3000 = true then
      if (M.1 74 x4.toNatClampNeg) < (M.1 74 x5.toNatClampNeg) then
        if 1 &&& 1 = 1 then some (1, M) else none
      else
        if (M.1 74 x4.toNatClampNeg) = (M.1 74 x5.toNatClampNeg) then
          if x3 ≤ x2 then
            if 0 &&& 1 = 0 then some (0, M) else none
          else
            if 1 &&& 1 = 1 then some (1, M) else none
        else
          if 0 &&& 1 = 0 then some (0, M) else none
    else none
  else none
def Mod_isAhead_J70 (F : Nat) (x2 : Int32) (x3 : Int32) (x4 : Int32) (x5 : Int32) (x6 : Int32) (M : zM) : Option (Int32 × zM) :=
  if inb x4 3000 = true then
    if x6 = (M.1 74 x4.toNatClampNeg) then
      Mod_isAhead_J94 F x2 x3 x4 x5 M
    else
      if inb x5 3000 = true then
        if x6 = (M.1 74 x5.toNatClampNeg) then
          Mod_isAhead_J94 F x2 x3 x4 x5 M
        else
          (Mod_byteOf F x4 x6 M).bind fun (r_31, M_32) =>
          (Mod_byteOf F x5 x6 M_32).bind fun (r_34, M_35) =>
          if r_34 ≤ r_31 then
            if 0 &&& 1 = 0 then some (0, M_35) else none
          else
            if 1 &&& 1 = 1 then some (1, M_35) else none
      else none
  else none
def Mod_isAhead (F : Nat) (x1 : Int32) (x2 : Int32) (x3 : Int32) (M : zM) : Option (Int32 × zM) :=
  lt ((1000 * x1) + x2) fun x4_1 =>
  lt ((1000 * x1) + x3) fun x5_3 =>
  (loopN (Mod_isAhead_B21 F x2 x3 x4_1 x5_3) F (0, M)).bind fun (k_20, x6_18, M_19) =>
    if k_20 = 1 then
      Mod_isAhead_J70 F x2 x3 x4_1 x5_3 x6_18 M_19
    else
      none
def Mod_findOrder_B23 (F : Nat) (x1 : Int32) : (Int32 × zM) → Option (Nat × (Int32 × zM)) := fun (x2, M) =>
  if 1000 ≤ x2 then
    some (1, 0, M)
  else
    if inb ((1000 * x1) + x2) 3000 = true then
      if (M.1 74 ((1000 * x1) + x2).toNatClampNeg) < 0 then
        lt (x2 + 1) fun x2_7 =>
        some (0, x2_7, M)
      else
        if inb (M.1 63 37) 1000 = true then
          lt (zI M 91 (M.1 63 37).toNatClampNeg x2) fun M_10 =>
          lt (zI M_10 63 37 ((M_10.1 63 37) + 1)) fun M_12 =>
          lt (x2 + 1) fun x2_14 =>
          some (0, x2_14, M_12)
        else none
    else none
def Mod_findOrder_B100 (F : Nat) (x1 : Int32) (x2 : Int32) (x3 : Int32) (x4 : Int32) : (Int32 × zM) → Option (Nat × (Int32 × zM)) := fun (x5, M) =>
  if x5 < x2 then
    some (1, x5, M)
  else
    if inb (x5 - x2) 1000 = true then
      (Mod_isAhead F x1 x4 (M.1 91 (x5 - x2).toNatClampNeg) M).bind fun (r_27, M_28) =>
      if r_27 = 0 then
        some (1, x5, M_28)
      else
        if inb x5 1000 = true then
          lt (zI M_28 91 x5.toNatClampNeg (M_28.1 91 (x5 - x2).toNatClampNeg)) fun M_32 =>
          lt (x5 - x2) fun x5_34 =>
          some (0, x5_34, M_32)
        else none
    else none
def Mod_findOrder_J150 (F : Nat) (x1 : Int32) (x2 : Int32) (x3 : Int32) (x4 : Int32) (x5 : Int32) (M : zM) : Option (Nat × (Int32 × zM)) :=
  if inb x5 1000 = true then
    lt (zI M 91 x5.toNatClampNeg x4) fun M_41 =>
    lt (x3 + 1) fun x3_43 =>
    some (0, x3_43, M_41)
  else none
def Mod_findOrder_B81 (F : Nat) (x1 : Int32) (x2 : Int32) : (Int32 × zM) → Option (Nat × (Int32 × zM)) := fun (x3, M) =>
  if (M.1 63 37) ≤ x3 then
    some (1, 0, M)
  else
    if inb x3 1000 = true then
      lt (M.1 91 x3.toNatClampNeg) fun x4_23 =>
      (loopN (Mod_findOrder_B100 F x1 x2 x3 x4_23) F (x3, M)).bind fun (k_38, x5_36, M_37) =>
        if k_38 = 1 then
          Mod_findOrder_J150 F x1 x2 x3 x4_23 x5_36 M_37
        else
          none
    else none
def Mod_findOrder_B75 (F : Nat) (x1 : Int32) : (Int32 × zM) → Option (Nat × (Int32 × zM)) := fun (x2, M) =>
  if x2 ≤ 0 then
    some (1, 0, M)
  else
    (loopN (Mod_findOrder_B81 F x1 x2) F (x2, M)).bind fun (k_48, x3_46, M_47) =>
      if k_48 = 1 then
        lt (x2 / 3) fun x2_50 =>
        some (0, x2_50, M_47)
      else
        none
def Mod_findOrder_J16 (F : Nat) (x1 : Int32) (M : zM) : Option (Unit × zM) :=
  lt (zI M 63 37 0) fun M_2 =>
  (loopN (Mod_findOrder_B23 F x1) F (0, M_2)).bind fun (k_18, x2_16, M_17) =>
    if k_18 = 1 then
      (loopN (Mod_findOrder_B75 F x1) F (364, M_17)).bind fun (k_55, x2_53, M_54) =>
        if k_55 = 1 then
          lt (zI M_54 63 35 1) fun M_57 =>
          lt (zI M_57 63 36 x1) fun M_59 =>
          some ((), M_59)
        else
          none
    else
      none
def Mod_findOrder (F : Nat) (x1 : Int32) (M : zM) : Option (Unit × zM) :=
  if (M.1 63 35) = 0 then
    Mod_findOrder_J16 F x1 M
  else
    if (M.1 63 36) = x1 then
      some ((), M)
    else
      Mod_findOrder_J16 F x1 M
def Mod_order (F : Nat) (x1 : Int32) (x2 : Int32) (M : zM) : Option (Int32 × zM) :=
  (Mod_isTongue F x1 M).bind fun (r_1, M_2) =>
  if r_1 = 0 then
    some ((-1001), M_2)
  else
    (Mod_findOrder F x1 M_2).bind fun (_r_5, M_6) =>
    (Mod_in F x2.toInt64 0 (((M_6.1 63 37) - 1).toInt64) M_6).bind fun (r_8, M_9) =>
    if r_8 = 0 then
      some ((-1), M_9)
    else
      if inb x2 1000 = true then
        some (M_9.1 91 x2.toNatClampNeg, M_9)
      else none
def Mod_place_B25 (F : Nat) (x2 : Int32) : (Int32 × zM) → Option (Nat × (Int32 × zM)) := fun (x3, M) =>
  if (M.1 63 37) ≤ x3 then
    some (2, 0, M)
  else
    if inb x3 1000 = true then
      if (M.1 91 x3.toNatClampNeg) = x2 then
        some (1, x3, M)
      else
        lt (x3 + 1) fun x3_15 =>
        some (0, x3_15, M)
    else none
def Mod_place (F : Nat) (x1 : Int32) (x2 : Int32) (M : zM) : Option (Int32 × zM) :=
  (Mod_isTongue F x1 M).bind fun (r_1, M_2) =>
  if r_1 = 0 then
    some ((-1001), M_2)
  else
    (Mod_isNumber F x2 M_2).bind fun (r_5, M_6) =>
    if r_5 = 0 then
      some ((-1001), M_6)
    else
      (Mod_findOrder F x1 M_6).bind fun (_r_9, M_10) =>
      (loopN (Mod_place_B25 F x2) F (0, M_10)).bind fun (k_19, x3_17, M_18) =>
        if k_19 = 1 then
          some (x3_17, M_18)
        else
          if k_19 = 2 then
            some ((-1), M_18)
          else
            none
def Mod_runOf_B15 (F : Nat) (a3 : Nat) (x4 : Int32) : (Int32 × Int32 × zM) → Option (Nat × (Int32 × Int32 × zM)) := fun (x5, x6, M) =>
  if inb x4 3000 = true then
    if (M.1 74 x4.toNatClampNeg) ≤ x6 then
      some (1, x5, 0, M)
    else
      (Mod_byteOf F x4 x6 M).bind fun (r_5, M_6) =>
      if r_5 = 32 then
        lt (x6 + 1) fun x6_9 =>
        some (0, x5, x6_9, M_6)
      else
        if inb x5 (zN a3) = true then
          lt (zI M_6 a3 x5.toNatClampNeg r_5) fun M_12 =>
          lt (x5 + 1) fun x5_14 =>
          lt (x6 + 1) fun x6_16 =>
          some (0, x5_14, x6_16, M_12)
        else none
  else none
def Mod_runOf (F : Nat) (x1 : Int32) (x2 : Int32) (a3 : Nat) (M : zM) : Option (Int32 × zM) :=
  lt ((1000 * x1) + x2) fun x4_1 =>
  (loopN (Mod_runOf_B15 F a3 x4_1) F (0, 0, M)).bind fun (k_21, x5_18, x6_19, M_20) =>
    if k_21 = 1 then
      some (x5_18, M_20)
    else
      none
def Mod_findMixes_B27 (F : Nat) (x1 : Int32) (x2 : Int32) (x3 : Int32) : (Int64 × Int32 × zM) → Option (Nat × (Int64 × Int32 × zM)) := fun (x4, x6, M) =>
  if x3 ≤ x6 then
    some (1, x4, 0, M)
  else
    if inb x6 60 = true then
      lt ((x4 * 1000003) + ((M.1 92 x6.toNatClampNeg).toInt64)) fun x4_9 =>
      lt (x6 + 1) fun x6_11 =>
      some (0, x4_9, x6_11, M)
    else none
def Mod_findMixes_B2 (F : Nat) (x1 : Int32) : (Int32 × zM) → Option (Nat × (Int32 × zM)) := fun (x2, M) =>
  if 1000 ≤ x2 then
    some (1, 0, M)
  else
    (Mod_runOf F x1 x2 92 M).bind fun (r_2, M_3) =>
    lt (r_2.toInt64) fun x4_5 =>
    (loopN (Mod_findMixes_B27 F x1 x2 r_2) F (x4_5, 0, M_3)).bind fun (k_16, x4_13, x6_14, M_15) =>
      if k_16 = 1 then
        if inb x2 1000 = true then
          lt (zL M_15 94 x2.toNatClampNeg x4_13) fun M_19 =>
          lt (x2 + 1) fun x2_21 =>
          some (0, x2_21, M_19)
        else none
      else
        none
def Mod_findMixes (F : Nat) (x1 : Int32) (M : zM) : Option (Unit × zM) :=
  (loopN (Mod_findMixes_B2 F x1) F (0, M)).bind fun (k_26, x2_24, M_25) =>
    if k_26 = 1 then
      some ((), M_25)
    else
      none
def Mod_areTwins_B89 (F : Nat) (x4 : Int32) : (Int32 × Int32 × zM) → Option (Nat × (Int32 × Int32 × zM)) := fun (x6, x7, M) =>
  if x4 ≤ x7 then
    some (1, x6, 0, M)
  else
    if x6 = 0 then
      some (1, x6, 0, M)
    else
      if inb x7 60 = true then
        if (M.1 92 x7.toNatClampNeg) = (M.1 93 x7.toNatClampNeg) then
          lt (x7 + 1) fun x7_21 =>
          some (0, 1, x7_21, M)
        else
          lt (x7 + 1) fun x7_19 =>
          some (0, 0, x7_19, M)
      else none
def Mod_areTwins_J84 (F : Nat) (x4 : Int32) (y0 : Int32) (M : zM) : Option (Int32 × zM) :=
  (loopN (Mod_areTwins_B89 F x4) F (y0, 0, M)).bind fun (k_26, x6_23, x7_24, M_25) =>
    if k_26 = 1 then
      if x6_23 &&& 1 = x6_23 then some (x6_23, M_25) else none
    else
      none
def Mod_areTwins (F : Nat) (x1 : Int32) (x2 : Int32) (x3 : Int32) (M : zM) : Option (Int32 × zM) :=
  if inb x2 1000 = true then
    if inb x3 1000 = true then
      if (lg_cmp (M.2 94 x2.toNatClampNeg) (M.2 94 x3.toNatClampNeg)) = 0 then
        if inb ((1000 * x1) + x2) 3000 = true then
          if (M.1 74 ((1000 * x1) + x2).toNatClampNeg) < 0 then
            if 0 &&& 1 = 0 then some (0, M) else none
          else
            if inb ((1000 * x1) + x3) 3000 = true then
              if 0 ≤ (M.1 74 ((1000 * x1) + x3).toNatClampNeg) then
                (Mod_runOf F x1 x2 92 M).bind fun (r_8, M_9) =>
                (Mod_runOf F x1 x3 93 M_9).bind fun (r_11, M_12) =>
                if r_8 = r_11 then
                  Mod_areTwins_J84 F r_8 1 M_12
                else
                  Mod_areTwins_J84 F r_8 0 M_12
              else
                if 0 &&& 1 = 0 then some (0, M) else none
            else none
        else none
      else
        if 0 &&& 1 = 0 then some (0, M) else none
    else none
  else none
def Mod_twins_J131 (F : Nat) (x1 : Int32) (x2 : Int32) (x4 : Int32) (x5 : Int32) (x6 : Int32) (x7 : Int32) (x8 : Int32) (x9 : Int32) (y0 : Int32) (M : zM) : Option (Nat × (Int32 × Int32 × Int32 × Int32 × zM)) :=
  if x9 = 0 then
    lt (x8 + 1) fun x8_19 =>
    some (0, y0, x4, x7, x8_19, M)
  else
    lt (x8 + 1) fun x8_21 =>
    some (0, y0, x6, x7, x8_21, M)
def Mod_twins_J118 (F : Nat) (x1 : Int32) (x2 : Int32) (x3 : Int32) (x4 : Int32) (x5 : Int32) (x6 : Int32) (x7 : Int32) (x8 : Int32) (y0 : Int32) (M : zM) : Option (Nat × (Int32 × Int32 × Int32 × Int32 × zM)) :=
  if y0 = 0 then
    Mod_twins_J131 F x1 x2 x4 x5 x6 x7 x8 y0 x3 M
  else
    Mod_twins_J131 F x1 x2 x4 x5 x6 x7 x8 y0 x8 M
def Mod_twins_J117 (F : Nat) (x1 : Int32) (x2 : Int32) (x3 : Int32) (x4 : Int32) (x5 : Int32) (x6 : Int32) (x7 : Int32) (x8 : Int32) (M : zM) : Option (Nat × (Int32 × Int32 × Int32 × Int32 × zM)) :=
  Mod_twins_J118 F x1 x2 x3 x4 x5 x6 x7 x8 0 M
def Mod_twins_J94 (F : Nat) (x1 : Int32) (x2 : Int32) (x3 : Int32) (x4 : Int32) (x5 : Int32) (x6 : Int32) (x8 : Int32) (y0 : Int32) (M : zM) : Option (Nat × (Int32 × Int32 × Int32 × Int32 × zM)) :=
  if y0 = 0 then
    Mod_twins_J117 F x1 x2 x3 x4 x5 x6 y0 x8 M
  else
    if x6 ≤ x8 then
      Mod_twins_J117 F x1 x2 x3 x4 x5 x6 y0 x8 M
    else
      if 0 ≤ x4 then
        Mod_twins_J117 F x1 x2 x3 x4 x5 x6 y0 x8 M
      else
        Mod_twins_J118 F x1 x2 x3 x4 x5 x6 y0 x8 1 M
def Mod_twins_J93 (F : Nat) (x1 : Int32) (x2 : Int32) (x3 : Int32) (x4 : Int32) (x5 : Int32) (x6 : Int32) (x8 : Int32) (M : zM) : Option (Nat × (Int32 × Int32 × Int32 × Int32 × zM)) :=
  Mod_twins_J94 F x1 x2 x3 x4 x5 x6 x8 0 M
def Mod_twins_B57 (F : Nat) (x1 : Int32) (x2 : Int32) (x5 : Int32) (x6 : Int32) : (Int32 × Int32 × Int32 × Int32 × zM) → Option (Nat × (Int32 × Int32 × Int32 × Int32 × zM)) := fun (x3, x4, x7, x8, M) =>
  if 1000 ≤ x8 then
    some (1, x3, x4, x7, 0, M)
  else
    if x7 = 0 then
      if x8 = x6 then
        Mod_twins_J93 F x1 x2 x3 x4 x5 x6 x8 M
      else
        (Mod_areTwins F x1 x8 x6 M).bind fun (r_25, M_26) =>
        if r_25 = 0 then
          Mod_twins_J93 F x1 x2 x3 x4 x5 x6 x8 M_26
        else
          Mod_twins_J94 F x1 x2 x3 x4 x5 x6 x8 1 M_26
    else
      some (1, x3, x4, x7, 0, M)
def Mod_twins_J152 (F : Nat) (x1 : Int32) (x2 : Int32) (x3 : Int32) (x4 : Int32) (x5 : Int32) (x6 : Int32) (x7 : Int32) (M : zM) : Option (Nat × (Int32 × Int32 × Int32 × Int32 × zM)) :=
  if x7 = 0 then
    lt (x5 + 0) fun x5_37 =>
    lt (x6 + 1) fun x6_39 =>
    some (0, x3, x4, x5_37, x6_39, M)
  else
    lt (x5 + 1) fun x5_41 =>
    lt (x6 + 1) fun x6_43 =>
    some (0, x3, x4, x5_41, x6_43, M)
def Mod_twins_B43 (F : Nat) (x1 : Int32) (x2 : Int32) : (Int32 × Int32 × Int32 × Int32 × zM) → Option (Nat × (Int32 × Int32 × Int32 × Int32 × zM)) := fun (x3, x4, x5, x6, M) =>
  if 1000 ≤ x6 then
    some (1, x3, x4, x5, 0, M)
  else
    (loopN (Mod_twins_B57 F x1 x2 x5 x6) F (x3, x4, 0, 0, M)).bind fun (k_34, x3_29, x4_30, x7_31, x8_32, M_33) =>
      if k_34 = 1 then
        Mod_twins_J152 F x1 x2 x3_29 x4_30 x5 x6 x7_31 M_33
      else
        none
def Mod_twins (F : Nat) (x1 : Int32) (x2 : Int32) (M : zM) : Option (Int32 × zM) :=
  (Mod_isTongue F x1 M).bind fun (r_1, M_2) =>
  if r_1 = 0 then
    some ((-1001), M_2)
  else
    (Mod_in F x2.toInt64 0 2 M_2).bind fun (r_5, M_6) =>
    if r_5 = 0 then
      some ((-1002), M_6)
    else
      (Mod_findMixes F x1 M_6).bind fun (_r_9, M_10) =>
      (loopN (Mod_twins_B43 F x1 x2) F ((-1), (-1), 0, 0, M_10)).bind fun (k_51, x3_46, x4_47, x5_48, x6_49, M_50) =>
        if k_51 = 1 then
          if x2 = 0 then
            some (x3_46, M_50)
          else
            if x2 = 1 then
              some (x4_47, M_50)
            else
              some (x5_48, M_50)
        else
          none
def Mod_write_J24 (F : Nat) (x1 : Int32) (M : zM) : Option (Int32 × zM) :=
  if (M.1 63 42) = 60 then
    some ((-1004), M)
  else
    if inb (M.1 63 42) 60 = true then
      lt (zI M 95 (M.1 63 42).toNatClampNeg x1) fun M_4 =>
      lt (zI M_4 63 42 ((M_4.1 63 42) + 1)) fun M_6 =>
      some (M_6.1 63 42, M_6)
    else none
def Mod_write (F : Nat) (x1 : Int32) (M : zM) : Option (Int32 × zM) :=
  if x1 = 32 then
    Mod_write_J24 F x1 M
  else
    (Mod_in F x1.toInt64 97 122 M).bind fun (r_8, M_9) =>
    if r_8 = 0 then
      some ((-1002), M_9)
    else
      Mod_write_J24 F x1 M_9
def Mod_clear (F : Nat)  (M : zM) : Option (Int32 × zM) :=
  lt (M.1 63 42) fun x1_1 =>
  lt (zI M 63 42 0) fun M_3 =>
  some (x1_1, M_3)
def Mod_draftRun_B4 (F : Nat) (a1 : Nat) : (Int32 × Int32 × zM) → Option (Nat × (Int32 × Int32 × zM)) := fun (x2, x3, M) =>
  if (M.1 63 42) ≤ x3 then
    some (1, x2, 0, M)
  else
    if inb x3 60 = true then
      if (M.1 95 x3.toNatClampNeg) = 32 then
        lt (x3 + 1) fun x3_4 =>
        some (0, x2, x3_4, M)
      else
        if inb x2 (zN a1) = true then
          lt (zI M a1 x2.toNatClampNeg (M.1 95 x3.toNatClampNeg)) fun M_7 =>
          lt (x2 + 1) fun x2_9 =>
          lt (x3 + 1) fun x3_11 =>
          some (0, x2_9, x3_11, M_7)
        else none
    else none
def Mod_draftRun (F : Nat) (a1 : Nat) (M : zM) : Option (Int32 × zM) :=
  (loopN (Mod_draftRun_B4 F a1) F (0, 0, M)).bind fun (k_16, x2_13, x3_14, M_15) =>
    if k_16 = 1 then
      some (x2_13, M_15)
    else
      none
def Mod_isRead_B148 (F : Nat) (x4 : Int32) : (Int32 × Int32 × zM) → Option (Nat × (Int32 × Int32 × zM)) := fun (x5, x6, M) =>
  if (M.1 63 42) ≤ x6 then
    some (1, x5, 0, M)
  else
    if x5 = 0 then
      some (1, x5, 0, M)
    else
      (Mod_byteOf F x4 x6 M).bind fun (r_9, M_10) =>
      if inb x6 60 = true then
        if r_9 = (M_10.1 95 x6.toNatClampNeg) then
          lt (x6 + 1) fun x6_16 =>
          some (0, 1, x6_16, M_10)
        else
          lt (x6 + 1) fun x6_14 =>
          some (0, 0, x6_14, M_10)
      else none
def Mod_isRead_J143 (F : Nat) (x4 : Int32) (y0 : Int32) (M : zM) : Option (Int32 × zM) :=
  (loopN (Mod_isRead_B148 F x4) F (y0, 0, M)).bind fun (k_21, x5_18, x6_19, M_20) =>
    if k_21 = 1 then
      if x5_18 &&& 1 = x5_18 then some (x5_18, M_20) else none
    else
      none
def Mod_isRead_J142 (F : Nat) (x4 : Int32) (M : zM) : Option (Int32 × zM) :=
  Mod_isRead_J143 F x4 0 M
def Mod_isRead_B74 (F : Nat) (x6 : Int32) : (Int32 × Int32 × zM) → Option (Nat × (Int32 × Int32 × zM)) := fun (x5, x8, M) =>
  if x6 ≤ x8 then
    some (1, x5, 0, M)
  else
    if x5 = 0 then
      some (1, x5, 0, M)
    else
      if inb x8 60 = true then
        if (M.1 92 x8.toNatClampNeg) = (M.1 93 x8.toNatClampNeg) then
          lt (x8 + 1) fun x8_39 =>
          some (0, 1, x8_39, M)
        else
          lt (x8 + 1) fun x8_37 =>
          some (0, 0, x8_37, M)
      else none
def Mod_isRead_J69 (F : Nat) (x6 : Int32) (y0 : Int32) (M : zM) : Option (Int32 × zM) :=
  (loopN (Mod_isRead_B74 F x6) F (y0, 0, M)).bind fun (k_44, x5_41, x8_42, M_43) =>
    if k_44 = 1 then
      if x5_41 &&& 1 = x5_41 then some (x5_41, M_43) else none
    else
      none
def Mod_isRead_J68 (F : Nat) (x6 : Int32) (M : zM) : Option (Int32 × zM) :=
  Mod_isRead_J69 F x6 0 M
def Mod_isRead_J24 (F : Nat) (x1 : Int32) (x2 : Int32) (x3 : Int32) (x4 : Int32) (y0 : Int32) (M : zM) : Option (Int32 × zM) :=
  if x3 = 0 then
    if y0 = 0 then
      Mod_isRead_J142 F x4 M
    else
      if inb x4 3000 = true then
        if (M.1 74 x4.toNatClampNeg) = (M.1 63 42) then
          Mod_isRead_J143 F x4 1 M
        else
          Mod_isRead_J142 F x4 M
      else none
  else
    (Mod_runOf F x1 x2 92 M).bind fun (r_26, M_27) =>
    (Mod_draftRun F 93 M_27).bind fun (r_29, M_30) =>
    if y0 = 0 then
      Mod_isRead_J68 F r_26 M_30
    else
      if r_26 = r_29 then
        Mod_isRead_J69 F r_26 1 M_30
      else
        Mod_isRead_J68 F r_26 M_30
def Mod_isRead (F : Nat) (x1 : Int32) (x2 : Int32) (x3 : Int32) (M : zM) : Option (Int32 × zM) :=
  lt ((1000 * x1) + x2) fun x4_1 =>
  if inb x4_1 3000 = true then
    if (M.1 74 x4_1.toNatClampNeg) < 0 then
      Mod_isRead_J24 F x1 x2 x3 x4_1 0 M
    else
      Mod_isRead_J24 F x1 x2 x3 x4_1 1 M
  else none
def Mod_found_B6 (F : Nat) (x1 : Int32) (x2 : Int32) (x3 : Int32) : (Int32 × Int32 × zM) → Option (Nat × (Int32 × Int32 × zM)) := fun (x4, x5, M) =>
  if 1000 ≤ x5 then
    some (2, x4, 0, M)
  else
    (Mod_isRead F x1 x5 x2 M).bind fun (r_2, M_3) =>
    if r_2 = 0 then
      lt (x5 + 1) fun x5_6 =>
      some (0, x4, x5_6, M_3)
    else
      if x4 = x3 then
        some (1, 0, x5, M_3)
      else
        lt (x4 + 1) fun x4_9 =>
        lt (x5 + 1) fun x5_11 =>
        some (0, x4_9, x5_11, M_3)
def Mod_found (F : Nat) (x1 : Int32) (x2 : Int32) (x3 : Int32) (M : zM) : Option (Int32 × zM) :=
  (loopN (Mod_found_B6 F x1 x2 x3) F (0, 0, M)).bind fun (k_16, x4_13, x5_14, M_15) =>
    if k_16 = 1 then
      some (x5_14, M_15)
    else
      if k_16 = 2 then
        if x3 = (-1) then
          some (x4_13, M_15)
        else
          some ((-1), M_15)
      else
        none
def Mod_find (F : Nat) (x1 : Int32) (x2 : Int32) (x3 : Int32) (M : zM) : Option (Int32 × zM) :=
  (Mod_isTongue F x1 M).bind fun (r_1, M_2) =>
  if r_1 = 0 then
    some ((-1001), M_2)
  else
    (Mod_found F x1 x2 x3 M_2).bind fun (r_5, M_6) =>
    some (r_5, M_6)
def Mod_distance_B2 (F : Nat) (x1 : Int32) (x2 : Int32) : (Int32 × zM) → Option (Nat × (Int32 × zM)) := fun (x3, M) =>
  if x2 < x3 then
    some (1, 0, M)
  else
    if inb x3 61 = true then
      lt (zI M 96 x3.toNatClampNeg x3) fun M_3 =>
      lt (x3 + 1) fun x3_5 =>
      some (0, x3_5, M_3)
    else none
def Mod_distance_J142 (F : Nat) (x1 : Int32) (x2 : Int32) (x3 : Int32) (x5 : Int32) (x6 : Int32) (y0 : Int32) (M : zM) : Option (Nat × (Int32 × Int32 × zM)) :=
  if inb x5 61 = true then
    lt (zI M 96 x5.toNatClampNeg y0) fun M_30 =>
    lt (x5 + 1) fun x5_32 =>
    some (0, x6, x5_32, M_30)
  else none
def Mod_distance_J108 (F : Nat) (x1 : Int32) (x2 : Int32) (x3 : Int32) (x5 : Int32) (x6 : Int32) (y0 : Int32) (M : zM) : Option (Nat × (Int32 × Int32 × zM)) :=
  if inb (x5 - 1) 61 = true then
    if y0 ≤ ((M.1 96 (x5 - 1).toNatClampNeg) + 1) then
      Mod_distance_J142 F x1 x2 x3 x5 x6 y0 M
    else
      Mod_distance_J142 F x1 x2 x3 x5 x6 ((M.1 96 (x5 - 1).toNatClampNeg) + 1) M
  else none
def Mod_distance_J87 (F : Nat) (x1 : Int32) (x2 : Int32) (x3 : Int32) (x5 : Int32) (x6 : Int32) (y0 : Int32) (y1 : Int32) (M : zM) : Option (Nat × (Int32 × Int32 × zM)) :=
  lt (y0 + y1) fun x7_24 =>
  if x7_24 ≤ (x6 + 1) then
    Mod_distance_J108 F x1 x2 x3 x5 x6 x7_24 M
  else
    Mod_distance_J108 F x1 x2 x3 x5 x6 (x6 + 1) M
def Mod_distance_B45 (F : Nat) (x1 : Int32) (x2 : Int32) (x3 : Int32) : (Int32 × Int32 × zM) → Option (Nat × (Int32 × Int32 × zM)) := fun (x4, x5, M) =>
  if x2 < x5 then
    some (1, 0, 0, M)
  else
    if inb x5 61 = true then
      lt (M.1 96 x5.toNatClampNeg) fun x6_19 =>
      if inb (x3 - 1) 60 = true then
        if inb (x5 - 1) 60 = true then
          if (M.1 92 (x3 - 1).toNatClampNeg) = (M.1 93 (x5 - 1).toNatClampNeg) then
            Mod_distance_J87 F x1 x2 x3 x5 x6_19 x4 0 M
          else
            Mod_distance_J87 F x1 x2 x3 x5 x6_19 x4 1 M
        else none
      else none
    else none
def Mod_distance_B22 (F : Nat) (x1 : Int32) (x2 : Int32) : (Int32 × zM) → Option (Nat × (Int32 × zM)) := fun (x3, M) =>
  if x1 < x3 then
    some (1, 0, M)
  else
    if inb 0 61 = true then
      lt (M.1 96 (0 : Int32).toNatClampNeg) fun x4_13 =>
      lt (zI M 96 (0 : Int32).toNatClampNeg x3) fun M_15 =>
      (loopN (Mod_distance_B45 F x1 x2 x3) F (x4_13, 1, M_15)).bind fun (k_37, x4_34, x5_35, M_36) =>
        if k_37 = 1 then
          lt (x3 + 1) fun x3_39 =>
          some (0, x3_39, M_36)
        else
          none
    else none
def Mod_distance (F : Nat) (x1 : Int32) (x2 : Int32) (M : zM) : Option (Int32 × zM) :=
  (loopN (Mod_distance_B2 F x1 x2) F (0, M)).bind fun (k_9, x3_7, M_8) =>
    if k_9 = 1 then
      (loopN (Mod_distance_B22 F x1 x2) F (1, M_8)).bind fun (k_44, x3_42, M_43) =>
        if k_44 = 1 then
          if inb x2 61 = true then
            some (M_43.1 96 x2.toNatClampNeg, M_43)
          else none
        else
          none
    else
      none
def Mod_nearest_B43 (F : Nat) (x1 : Int32) (x2 : Int32) (x5 : Int32) : (Int32 × Int32 × Int32 × zM) → Option (Nat × (Int32 × Int32 × Int32 × zM)) := fun (x3, x4, x6, M) =>
  if 1000 ≤ x6 then
    some (1, x3, x4, 0, M)
  else
    if inb ((1000 * x1) + x6) 3000 = true then
      if (M.1 74 ((1000 * x1) + x6).toNatClampNeg) < 0 then
        lt (x6 + 1) fun x6_15 =>
        some (0, x3, x4, x6_15, M)
      else
        (Mod_runOf F x1 x6 92 M).bind fun (r_17, M_18) =>
        (Mod_distance F r_17 x5 M_18).bind fun (r_20, M_21) =>
        if x3 < 0 then
          lt (x6 + 1) fun x6_24 =>
          some (0, x6, r_20, x6_24, M_21)
        else
          if x4 ≤ r_20 then
            lt (x6 + 1) fun x6_27 =>
            some (0, x3, x4, x6_27, M_21)
          else
            lt (x6 + 1) fun x6_29 =>
            some (0, x6, r_20, x6_29, M_21)
    else none
def Mod_nearest (F : Nat) (x1 : Int32) (x2 : Int32) (M : zM) : Option (Int32 × zM) :=
  (Mod_isTongue F x1 M).bind fun (r_1, M_2) =>
  if r_1 = 0 then
    some ((-1001), M_2)
  else
    (Mod_in F x2.toInt64 0 1 M_2).bind fun (r_5, M_6) =>
    if r_5 = 0 then
      some ((-1002), M_6)
    else
      (Mod_draftRun F 93 M_6).bind fun (r_9, M_10) =>
      (loopN (Mod_nearest_B43 F x1 x2 r_9) F ((-1), (-1), 0, M_10)).bind fun (k_35, x3_31, x4_32, x6_33, M_34) =>
        if k_35 = 1 then
          if x2 = 0 then
            some (x3_31, M_34)
          else
            some (x4_32, M_34)
        else
          none
def Mod_led (F : Nat) (x1 : Int32) (x2 : Int32) (x3 : Int32) (M : zM) : Option (Int32 × zM) :=
  (Mod_isTongue F x1 M).bind fun (r_1, M_2) =>
  if r_1 = 0 then
    some ((-1001), M_2)
  else
    (Mod_isTongue F x2 M_2).bind fun (r_5, M_6) =>
    if r_5 = 0 then
      some ((-1001), M_6)
    else
      (Mod_found F x1 0 0 M_6).bind fun (r_9, M_10) =>
      if r_9 < 0 then
        some ((-1003), M_10)
      else
        if inb ((1000 * x2) + r_9) 3000 = true then
          if 0 ≤ (M_10.1 74 ((1000 * x2) + r_9).toNatClampNeg) then
            lt ((1000 * x2) + r_9) fun x5_15 =>
            if x3 = (-1) then
              if inb x5_15 3000 = true then
                some (M_10.1 74 x5_15.toNatClampNeg, M_10)
              else none
            else
              if inb x5_15 3000 = true then
                (Mod_in F x3.toInt64 0 (((M_10.1 74 x5_15.toNatClampNeg) - 1).toInt64) M_10).bind fun (r_19, M_20) =>
                if r_19 = 0 then
                  some ((-1), M_20)
                else
                  (Mod_byteOf F x5_15 x3 M_20).bind fun (r_23, M_24) =>
                  some (r_23, M_24)
              else none
          else
            some ((-1003), M_10)
        else none
def Mod_chain_B37 (F : Nat) (x1 : Int32) (x2 : Int32) (x3 : Int32) : (Int32 × zM) → Option (Nat × (Int32 × zM)) := fun (x4, M) =>
  if 1000 ≤ x4 then
    some (1, 0, M)
  else
    if inb x4 1000 = true then
      lt (zI M 97 x4.toNatClampNeg (0 &&& 1)) fun M_15 =>
      lt (x4 + 1) fun x4_17 =>
      some (0, x4_17, M_15)
    else none
def Mod_chain_B81 (F : Nat) (x1 : Int32) (x3 : Int32) : (Int32 × Int32 × Int32 × zM) → Option (Nat × (Int32 × Int32 × Int32 × zM)) := fun (x4, x5, x6, M) =>
  if x6 < 0 then
    some (1, x4, x5, x6, M)
  else
    if inb x6 1000 = true then
      if (M.1 97 x6.toNatClampNeg) = 0 then
        lt (zI M 97 x6.toNatClampNeg (1 &&& 1)) fun M_32 =>
        lt (x4 + 1) fun x4_34 =>
        (Mod_lettersOf F x1 x6 M_32).bind fun (r_36, M_37) =>
        some (0, x4_34, x6, r_36, M_37)
      else
        some (1, x4, x5, x6, M)
    else none
def Mod_chain_J123 (F : Nat) (x3 : Int32) (x4 : Int32) (x5 : Int32) (x6 : Int32) (M : zM) : Option (Int32 × zM) :=
  if x3 = 0 then
    some (x4, M)
  else
    if x3 = 1 then
      some (x5, M)
    else
      some (x6, M)
def Mod_chain (F : Nat) (x1 : Int32) (x2 : Int32) (x3 : Int32) (M : zM) : Option (Int32 × zM) :=
  (Mod_isTongue F x1 M).bind fun (r_1, M_2) =>
  if r_1 = 0 then
    some ((-1001), M_2)
  else
    (Mod_isNumber F x2 M_2).bind fun (r_5, M_6) =>
    if r_5 = 0 then
      some ((-1001), M_6)
    else
      (Mod_in F x3.toInt64 0 2 M_6).bind fun (r_9, M_10) =>
      if r_9 = 0 then
        some ((-1002), M_10)
      else
        (loopN (Mod_chain_B37 F x1 x2 x3) F (0, M_10)).bind fun (k_21, x4_19, M_20) =>
          if k_21 = 1 then
            if inb x2 1000 = true then
              lt (zI M_20 97 x2.toNatClampNeg (1 &&& 1)) fun M_24 =>
              (Mod_lettersOf F x1 x2 M_24).bind fun (r_26, M_27) =>
              (loopN (Mod_chain_B81 F x1 x3) F (1, x2, r_26, M_27)).bind fun (k_43, x4_39, x5_40, x6_41, M_42) =>
                if k_43 = 1 then
                  Mod_chain_J123 F x3 x4_39 x5_40 x6_41 M_42
                else
                  none
            else none
          else
            none
def Mod_honest_B16 (F : Nat) (x1 : Int32) (x2 : Int32) : (Int32 × Int32 × zM) → Option (Nat × (Int32 × Int32 × zM)) := fun (x3, x4, M) =>
  if 1000 ≤ x4 then
    some (2, 0, 0, M)
  else
    (Mod_lettersOf F x1 x4 M).bind fun (r_6, M_7) =>
    if r_6 = x4 then
      if x3 = x2 then
        some (1, 0, x4, M_7)
      else
        lt (x3 + 1) fun x3_13 =>
        lt (x4 + 1) fun x4_15 =>
        some (0, x3_13, x4_15, M_7)
    else
      lt (x4 + 1) fun x4_10 =>
      some (0, x3, x4_10, M_7)
def Mod_honest (F : Nat) (x1 : Int32) (x2 : Int32) (M : zM) : Option (Int32 × zM) :=
  (Mod_isTongue F x1 M).bind fun (r_1, M_2) =>
  if r_1 = 0 then
    some ((-1001), M_2)
  else
    (loopN (Mod_honest_B16 F x1 x2) F (0, 0, M_2)).bind fun (k_20, x3_17, x4_18, M_19) =>
      if k_20 = 1 then
        some (x4_18, M_19)
      else
        if k_20 = 2 then
          some ((-1), M_19)
        else
          none
def Mod_farOf (F : Nat) (x1 : Int32) (x2 : Int32) (x3 : Int32) (M : zM) : Option (Int32 × zM) :=
  (Mod_runOf F x1 x2 92 M).bind fun (r_1, M_2) =>
  (Mod_runOf F x1 x3 93 M_2).bind fun (r_4, M_5) =>
  (Mod_distance F r_1 r_4 M_5).bind fun (r_7, M_8) =>
  some (r_7, M_8)
def Mod_far (F : Nat) (x1 : Int32) (x2 : Int32) (x3 : Int32) (M : zM) : Option (Int32 × zM) :=
  (Mod_isTongue F x1 M).bind fun (r_1, M_2) =>
  if r_1 = 0 then
    some ((-1001), M_2)
  else
    (Mod_isNumber F x2 M_2).bind fun (r_5, M_6) =>
    if r_5 = 0 then
      some ((-1001), M_6)
    else
      (Mod_isNumber F x3 M_6).bind fun (r_9, M_10) =>
      if r_9 = 0 then
        some ((-1001), M_10)
      else
        if inb ((1000 * x1) + x2) 3000 = true then
          if (M_10.1 74 ((1000 * x1) + x2).toNatClampNeg) < 0 then
            some ((-1), M_10)
          else
            if inb ((1000 * x1) + x3) 3000 = true then
              if 0 ≤ (M_10.1 74 ((1000 * x1) + x3).toNatClampNeg) then
                (Mod_farOf F x1 x2 x3 M_10).bind fun (r_17, M_18) =>
                some (r_17, M_18)
              else
                some ((-1), M_10)
            else none
        else none
def Mod_mixed_J121 (F : Nat) (x1 : Int32) (x2 : Int32) (x4 : Int32) (x5 : Int32) (x6 : Int32) (x7 : Int32) (y0 : Int32) (M : zM) : Option (Nat × (Int32 × Int32 × zM)) :=
  if y0 = 0 then
    lt (x5 + 0) fun x5_28 =>
    lt (x7 + 1) fun x7_30 =>
    some (0, x5_28, x7_30, M)
  else
    (Mod_farOf F x1 x6 x7 M).bind fun (r_32, M_33) =>
    if x2 < r_32 then
      lt (x5 + 0) fun x5_36 =>
      lt (x7 + 1) fun x7_38 =>
      some (0, x5_36, x7_38, M_33)
    else
      lt (x5 + 1) fun x5_40 =>
      lt (x7 + 1) fun x7_42 =>
      some (0, x5_40, x7_42, M_33)
def Mod_mixed_J120 (F : Nat) (x1 : Int32) (x2 : Int32) (x4 : Int32) (x5 : Int32) (x6 : Int32) (x7 : Int32) (M : zM) : Option (Nat × (Int32 × Int32 × zM)) :=
  Mod_mixed_J121 F x1 x2 x4 x5 x6 x7 0 M
def Mod_mixed_B77 (F : Nat) (x1 : Int32) (x2 : Int32) (x4 : Int32) (x6 : Int32) : (Int32 × Int32 × zM) → Option (Nat × (Int32 × Int32 × zM)) := fun (x5, x7, M) =>
  if x4 < x7 then
    some (1, x5, 0, M)
  else
    if inb ((1000 * x1) + x6) 3000 = true then
      if (M.1 74 ((1000 * x1) + x6).toNatClampNeg) < 0 then
        Mod_mixed_J120 F x1 x2 x4 x5 x6 x7 M
      else
        if inb ((1000 * x1) + x7) 3000 = true then
          if (M.1 74 ((1000 * x1) + x7).toNatClampNeg) < 0 then
            Mod_mixed_J120 F x1 x2 x4 x5 x6 x7 M
          else
            Mod_mixed_J121 F x1 x2 x4 x5 x6 x7 1 M
        else none
    else none
def Mod_mixed_B64 (F : Nat) (x1 : Int32) (x2 : Int32) (x4 : Int32) : (Int32 × Int32 × zM) → Option (Nat × (Int32 × Int32 × zM)) := fun (x5, x6, M) =>
  if x4 < x6 then
    some (1, x5, 0, M)
  else
    lt (x6 + 1) fun x7_22 =>
    (loopN (Mod_mixed_B77 F x1 x2 x4 x6) F (x5, x7_22, M)).bind fun (k_49, x5_46, x7_47, M_48) =>
      if k_49 = 1 then
        lt (x6 + 1) fun x6_51 =>
        some (0, x5_46, x6_51, M_48)
      else
        none
def Mod_mixed (F : Nat) (x1 : Int32) (x2 : Int32) (x3 : Int32) (x4 : Int32) (M : zM) : Option (Int32 × zM) :=
  (Mod_isTongue F x1 M).bind fun (r_1, M_2) =>
  if r_1 = 0 then
    some ((-1001), M_2)
  else
    (Mod_isNumber F x3 M_2).bind fun (r_5, M_6) =>
    if r_5 = 0 then
      some ((-1001), M_6)
    else
      (Mod_isNumber F x4 M_6).bind fun (r_9, M_10) =>
      if r_9 = 0 then
        some ((-1001), M_10)
      else
        (Mod_in F x2.toInt64 0 9 M_10).bind fun (r_13, M_14) =>
        if r_13 = 0 then
          some ((-1002), M_14)
        else
          (Mod_in F x4.toInt64 x3.toInt64 ((x3 + 60).toInt64) M_14).bind fun (r_17, M_18) =>
          if r_17 = 0 then
            some ((-1002), M_18)
          else
            (loopN (Mod_mixed_B64 F x1 x2 x4) F (0, x3, M_18)).bind fun (k_57, x5_54, x6_55, M_56) =>
              if k_57 = 1 then
                some (x5_54, M_56)
              else
                none
def Mod_findNine_B96 (F : Nat)  : (Int32 × Int32 × zM) → Option (Nat × (Int32 × Int32 × zM)) := fun (x4, x5, M) =>
  if 9 ≤ x5 then
    some (1, x4, 0, M)
  else
    if x4 = 0 then
      lt (x5 + 1) fun x5_30 =>
      some (0, 0, x5_30, M)
    else
      if inb x5 9 = true then
        (Mod_isNumber F (M.1 98 x5.toNatClampNeg) M).bind fun (r_33, M_34) =>
        if r_33 = 0 then
          lt (x5 + 1) fun x5_37 =>
          some (0, 0, x5_37, M_34)
        else
          lt (x5 + 1) fun x5_39 =>
          some (0, 1, x5_39, M_34)
      else none
def Mod_findNine (F : Nat) (x1 : Int32) (x2 : Int32) (x3 : Int32) (M : zM) : Option (Int32 × zM) :=
  if inb 0 9 = true then
    lt (zI M 98 (0 : Int32).toNatClampNeg (x1 + x2)) fun M_2 =>
    if inb 1 9 = true then
      lt (zI M_2 98 (1 : Int32).toNatClampNeg ((x1 - x2) - x3)) fun M_5 =>
      if inb 2 9 = true then
        lt (zI M_5 98 (2 : Int32).toNatClampNeg (x1 + x3)) fun M_8 =>
        if inb 3 9 = true then
          lt (zI M_8 98 (3 : Int32).toNatClampNeg ((x1 - x2) + x3)) fun M_11 =>
          if inb 4 9 = true then
            lt (zI M_11 98 (4 : Int32).toNatClampNeg x1) fun M_14 =>
            if inb 5 9 = true then
              lt (zI M_14 98 (5 : Int32).toNatClampNeg ((x1 + x2) - x3)) fun M_17 =>
              if inb 6 9 = true then
                lt (zI M_17 98 (6 : Int32).toNatClampNeg (x1 - x3)) fun M_20 =>
                if inb 7 9 = true then
                  lt (zI M_20 98 (7 : Int32).toNatClampNeg ((x1 + x2) + x3)) fun M_23 =>
                  if inb 8 9 = true then
                    lt (zI M_23 98 (8 : Int32).toNatClampNeg (x1 - x2)) fun M_26 =>
                    (loopN (Mod_findNine_B96 F ) F (1, 0, M_26)).bind fun (k_44, x4_41, x5_42, M_43) =>
                      if k_44 = 1 then
                        if x4_41 &&& 1 = x4_41 then some (x4_41, M_43) else none
                      else
                        none
                  else none
                else none
              else none
            else none
          else none
        else none
      else none
    else none
  else none
def Mod_sumOf (F : Nat) (x1 : Int32) (x2 : Int32) (x3 : Int32) (x4 : Int32) (M : zM) : Option (Int32 × zM) :=
  if inb x2 9 = true then
    (Mod_lettersOf F x1 (M.1 98 x2.toNatClampNeg) M).bind fun (r_2, M_3) =>
    if inb x3 9 = true then
      (Mod_lettersOf F x1 (M_3.1 98 x3.toNatClampNeg) M_3).bind fun (r_6, M_7) =>
      if inb x4 9 = true then
        (Mod_lettersOf F x1 (M_7.1 98 x4.toNatClampNeg) M_7).bind fun (r_10, M_11) =>
        some ((r_2 + r_6) + r_10, M_11)
      else none
    else none
  else none
def Mod_isTwice_B4 (F : Nat) (x1 : Int32) : (Int32 × Int32 × zM) → Option (Nat × (Int32 × Int32 × zM)) := fun (x2, x3, M) =>
  if 9 ≤ x3 then
    some (1, x2, 0, M)
  else
    if x2 = 0 then
      lt (x3 + 1) fun x3_3 =>
      some (0, 0, x3_3, M)
    else
      if inb x3 9 = true then
        if inb ((1000 * x1) + (M.1 98 x3.toNatClampNeg)) 3000 = true then
          if (M.1 74 ((1000 * x1) + (M.1 98 x3.toNatClampNeg)).toNatClampNeg) < 0 then
            lt (x3 + 1) fun x3_8 =>
            some (0, 0, x3_8, M)
          else
            lt (x3 + 1) fun x3_10 =>
            some (0, 1, x3_10, M)
        else none
      else none
def Mod_isTwice_B58 (F : Nat) (x1 : Int32) (x3 : Int32) : (Int32 × Int32 × zM) → Option (Nat × (Int32 × Int32 × zM)) := fun (x2, x4, M) =>
  if 3 ≤ x4 then
    some (1, x2, 0, M)
  else
    if x2 = 0 then
      lt (x4 + 1) fun x4_22 =>
      some (0, 0, x4_22, M)
    else
      (Mod_sumOf F x1 (3 * x4) ((3 * x4) + 1) ((3 * x4) + 2) M).bind fun (r_24, M_25) =>
      if r_24 = x3 then
        (Mod_sumOf F x1 x4 (x4 + 3) (x4 + 6) M_25).bind fun (r_30, M_31) =>
        if r_30 = x3 then
          lt (x4 + 1) fun x4_36 =>
          some (0, 1, x4_36, M_31)
        else
          lt (x4 + 1) fun x4_34 =>
          some (0, 0, x4_34, M_31)
      else
        lt (x4 + 1) fun x4_28 =>
        some (0, 0, x4_28, M_25)
def Mod_isTwice (F : Nat) (x1 : Int32) (M : zM) : Option (Int32 × zM) :=
  (loopN (Mod_isTwice_B4 F x1) F (1, 0, M)).bind fun (k_15, x2_12, x3_13, M_14) =>
    if k_15 = 1 then
      (Mod_sumOf F x1 0 1 2 M_14).bind fun (r_17, M_18) =>
      (loopN (Mod_isTwice_B58 F x1 r_17) F (x2_12, 0, M_18)).bind fun (k_41, x2_38, x4_39, M_40) =>
        if k_41 = 1 then
          if x2_38 = 0 then
            if 0 &&& 1 = 0 then some (0, M_40) else none
          else
            (Mod_sumOf F x1 0 4 8 M_40).bind fun (r_44, M_45) =>
            if r_44 = r_17 then
              (Mod_sumOf F x1 2 4 6 M_45).bind fun (r_48, M_49) =>
              if r_48 = r_17 then
                if 1 &&& 1 = 1 then some (1, M_49) else none
              else
                if 0 &&& 1 = 0 then some (0, M_49) else none
            else
              if 0 &&& 1 = 0 then some (0, M_45) else none
        else
          none
    else
      none
def Mod_square (F : Nat) (x1 : Int32) (x2 : Int32) (x3 : Int32) (x4 : Int32) (M : zM) : Option (Int32 × zM) :=
  (Mod_isTongue F x1 M).bind fun (r_1, M_2) =>
  if r_1 = 0 then
    some ((-1001), M_2)
  else
    (Mod_isNumber F x2 M_2).bind fun (r_5, M_6) =>
    if r_5 = 0 then
      some ((-1002), M_6)
    else
      (Mod_in F x3.toInt64 (-999) 999 M_6).bind fun (r_9, M_10) =>
      if r_9 = 0 then
        some ((-1002), M_10)
      else
        (Mod_in F x4.toInt64 (-999) 999 M_10).bind fun (r_13, M_14) =>
        if r_13 = 0 then
          some ((-1002), M_14)
        else
          (Mod_findNine F x2 x3 x4 M_14).bind fun (r_17, M_18) =>
          if r_17 = 0 then
            some ((-1), M_18)
          else
            (Mod_isTwice F x1 M_18).bind fun (r_21, M_22) =>
            if r_21 = 0 then
              some (0, M_22)
            else
              some (1, M_22)
def Mod_areUnlike_B14 (F : Nat) (x2 : Int32) : (Int32 × Int32 × zM) → Option (Nat × (Int32 × Int32 × zM)) := fun (x1, x3, M) =>
  if 9 ≤ x3 then
    some (1, x1, 0, M)
  else
    if x1 = 0 then
      lt (x3 + 1) fun x3_6 =>
      some (0, 0, x3_6, M)
    else
      if inb x2 9 = true then
        if inb x3 9 = true then
          if (M.1 98 x2.toNatClampNeg) = (M.1 98 x3.toNatClampNeg) then
            lt (x3 + 1) fun x3_11 =>
            some (0, 0, x3_11, M)
          else
            lt (x3 + 1) fun x3_13 =>
            some (0, 1, x3_13, M)
        else none
      else none
def Mod_areUnlike_B4 (F : Nat)  : (Int32 × Int32 × zM) → Option (Nat × (Int32 × Int32 × zM)) := fun (x1, x2, M) =>
  if 9 ≤ x2 then
    some (1, x1, 0, M)
  else
    lt (x2 + 1) fun x3_2 =>
    (loopN (Mod_areUnlike_B14 F x2) F (x1, x3_2, M)).bind fun (k_18, x1_15, x3_16, M_17) =>
      if k_18 = 1 then
        lt (x2 + 1) fun x2_20 =>
        some (0, x1_15, x2_20, M_17)
      else
        none
def Mod_areUnlike (F : Nat)  (M : zM) : Option (Int32 × zM) :=
  (loopN (Mod_areUnlike_B4 F ) F (1, 0, M)).bind fun (k_26, x1_23, x2_24, M_25) =>
    if k_26 = 1 then
      if x1_23 &&& 1 = x1_23 then some (x1_23, M_25) else none
    else
      none
def Mod_squares_B29 (F : Nat) (x1 : Int32) (x2 : Int32) (x3 : Int32) : (Int32 × zM) → Option (Nat × (Int32 × zM)) := fun (x4, M) =>
  if 60 < x4 then
    some (2, 0, M)
  else
    (Mod_findNine F x2 x3 x4 M).bind fun (r_11, M_12) =>
    if r_11 = 0 then
      lt (x4 + 1) fun x4_15 =>
      some (0, x4_15, M_12)
    else
      (Mod_areUnlike F  M_12).bind fun (r_17, M_18) =>
      if r_17 = 0 then
        lt (x4 + 1) fun x4_21 =>
        some (0, x4_21, M_18)
      else
        (Mod_isTwice F x1 M_18).bind fun (r_23, M_24) =>
        if r_23 = 0 then
          lt (x4 + 1) fun x4_27 =>
          some (0, x4_27, M_24)
        else
          some (1, x4, M_24)
def Mod_squares_B20 (F : Nat) (x1 : Int32) (x2 : Int32) : (Int32 × Int32 × zM) → Option (Nat × (Int32 × Int32 × zM)) := fun (x3, x4, M) =>
  if 60 < x3 then
    some (2, 0, 0, M)
  else
    (loopN (Mod_squares_B29 F x1 x2 x3) F (1, M)).bind fun (k_31, x4_29, M_30) =>
      if k_31 = 1 then
        some (1, x3, x4_29, M_30)
      else
        if k_31 = 2 then
          lt (x3 + 1) fun x3_33 =>
          some (0, x3_33, 0, M_30)
        else
          none
def Mod_squares (F : Nat) (x1 : Int32) (x2 : Int32) (M : zM) : Option (Int32 × zM) :=
  (Mod_isTongue F x1 M).bind fun (r_1, M_2) =>
  if r_1 = 0 then
    some ((-1001), M_2)
  else
    (Mod_isNumber F x2 M_2).bind fun (r_5, M_6) =>
    if r_5 = 0 then
      some ((-1001), M_6)
    else
      (loopN (Mod_squares_B20 F x1 x2) F (1, 0, M_6)).bind fun (k_40, x3_37, x4_38, M_39) =>
        if k_40 = 1 then
          some ((100 * x3_37) + x4_38, M_39)
        else
          if k_40 = 2 then
            some ((-1), M_39)
          else
            none
def Law_law_J732 (F : Nat) (L : Nat) (xs : Nat → Int32) (x3 : Int32) (y0 : Int32) (y2 : Int32) (y3 : Int32) (M : zM) : Option (Nat × (Int32 × zM)) :=
  if inb (x3 + 3) L = true then
    (Mod_find F y2 y3 (xs (x3 + 3).toNatClampNeg) M).bind fun (r_136, M_137) =>
    if y0 = r_136 then
      lt (x3 + 5) fun x3_140 =>
      some (0, x3_140, M_137)
    else
      some (17, 0, M_137)
  else none
def Law_law_J705 (F : Nat) (L : Nat) (xs : Nat → Int32) (x3 : Int32) (y1 : Int32) (y2 : Int32) (M : zM) : Option (Nat × (Int32 × zM)) :=
  if inb (x3 + 3) L = true then
    (NW_find F y1 y2 (xs (x3 + 3).toNatClampNeg) M).bind fun (r_129, M_130) =>
    if inb (x3 + 1) L = true then
      if inb (x3 + 2) L = true then
        if (xs (x3 + 2).toNatClampNeg) = 0 then
          Law_law_J732 F L xs x3 r_129 (xs (x3 + 1).toNatClampNeg) 0 M_130
        else
          Law_law_J732 F L xs x3 r_129 (xs (x3 + 1).toNatClampNeg) 1 M_130
      else none
    else none
  else none
def Law_law_B18 (F : Nat) (b : Nat) (L : Nat) (xs : Nat → Int32) : (Int32 × zM) → Option (Nat × (Int32 × zM)) := fun (x3, M) =>
  if ((Int32.ofNat L) - 5) < x3 then
    some (26, 0, M)
  else
    if inb x3 L = true then
      if ((xs x3.toNatClampNeg) &&& 31) = 0 then
        if inb (x3 + 1) L = true then
          if inb (x3 + 2) L = true then
            if inb (x3 + 3) L = true then
              (NW_feed F (xs (x3 + 1).toNatClampNeg) ((sl ((xs (x3 + 2).toNatClampNeg).toInt64) 32) ||| (((xs (x3 + 3).toNatClampNeg).toInt64) &&& 4294967295)) M).bind fun (r_308, M_309) =>
              (Mod_feed F (xs (x3 + 1).toNatClampNeg) ((sl ((xs (x3 + 2).toNatClampNeg).toInt64) 32) ||| (((xs (x3 + 3).toNatClampNeg).toInt64) &&& 4294967295)) M_309).bind fun (r_311, M_312) =>
              if r_308 = r_311 then
                lt (x3 + 5) fun x3_315 =>
                some (0, x3_315, M_312)
              else
                some (1, 0, M_312)
            else none
          else none
        else none
      else
        if ((xs x3.toNatClampNeg) &&& 31) = 1 then
          if inb (x3 + 1) L = true then
            (NW_read F (xs (x3 + 1).toNatClampNeg) M).bind fun (r_296, M_297) =>
            (Mod_read F (xs (x3 + 1).toNatClampNeg) M_297).bind fun (r_299, M_300) =>
            if r_296 = r_299 then
              lt (x3 + 5) fun x3_303 =>
              some (0, x3_303, M_300)
            else
              some (2, 0, M_300)
          else none
        else
          if ((xs x3.toNatClampNeg) &&& 31) = 2 then
            (NW_fault F  M).bind fun (r_286, M_287) =>
            (Mod_fault F  M_287).bind fun (r_289, M_290) =>
            if r_286 = r_289 then
              lt (x3 + 5) fun x3_293 =>
              some (0, x3_293, M_290)
            else
              some (3, 0, M_290)
          else
            if ((xs x3.toNatClampNeg) &&& 31) = 3 then
              if inb (x3 + 1) L = true then
                if inb (x3 + 2) L = true then
                  (NW_about F (xs (x3 + 1).toNatClampNeg) (xs (x3 + 2).toNatClampNeg) M).bind fun (r_277, M_278) =>
                  (Mod_about F (xs (x3 + 1).toNatClampNeg) (xs (x3 + 2).toNatClampNeg) M_278).bind fun (r_280, M_281) =>
                  if r_277 = r_280 then
                    lt (x3 + 5) fun x3_284 =>
                    some (0, x3_284, M_281)
                  else
                    some (4, 0, M_281)
                else none
              else none
            else
              if ((xs x3.toNatClampNeg) &&& 31) = 4 then
                if inb (x3 + 1) L = true then
                  if inb (x3 + 2) L = true then
                    if inb (x3 + 3) L = true then
                      (NW_name F (xs (x3 + 1).toNatClampNeg) (xs (x3 + 2).toNatClampNeg) (xs (x3 + 3).toNatClampNeg) M).bind fun (r_266, M_267) =>
                      (Mod_name F (xs (x3 + 1).toNatClampNeg) (xs (x3 + 2).toNatClampNeg) (xs (x3 + 3).toNatClampNeg) M_267).bind fun (r_269, M_270) =>
                      if r_266 = r_269 then
                        lt (x3 + 5) fun x3_273 =>
                        some (0, x3_273, M_270)
                      else
                        some (5, 0, M_270)
                    else none
                  else none
                else none
              else
                if ((xs x3.toNatClampNeg) &&& 31) = 5 then
                  if inb (x3 + 1) L = true then
                    if inb (x3 + 2) L = true then
                      (NW_letters F (xs (x3 + 1).toNatClampNeg) (xs (x3 + 2).toNatClampNeg) M).bind fun (r_254, M_255) =>
                      (Mod_letters F (xs (x3 + 1).toNatClampNeg) (xs (x3 + 2).toNatClampNeg) M_255).bind fun (r_257, M_258) =>
                      if r_254 = r_257 then
                        lt (x3 + 5) fun x3_261 =>
                        some (0, x3_261, M_258)
                      else
                        some (6, 0, M_258)
                    else none
                  else none
                else
                  if ((xs x3.toNatClampNeg) &&& 31) = 6 then
                    if inb (x3 + 1) L = true then
                      if inb (x3 + 2) L = true then
                        (NW_by F (xs (x3 + 1).toNatClampNeg) (xs (x3 + 2).toNatClampNeg) M).bind fun (r_243, M_244) =>
                        (Mod_by F (xs (x3 + 1).toNatClampNeg) (xs (x3 + 2).toNatClampNeg) M_244).bind fun (r_246, M_247) =>
                        if r_243 = r_246 then
                          lt (x3 + 5) fun x3_250 =>
                          some (0, x3_250, M_247)
                        else
                          some (7, 0, M_247)
                      else none
                    else none
                  else
                    if ((xs x3.toNatClampNeg) &&& 31) = 7 then
                      if inb (x3 + 1) L = true then
                        if inb (x3 + 2) L = true then
                          (NW_deep F (xs (x3 + 1).toNatClampNeg) (xs (x3 + 2).toNatClampNeg) M).bind fun (r_232, M_233) =>
                          (Mod_deep F (xs (x3 + 1).toNatClampNeg) (xs (x3 + 2).toNatClampNeg) M_233).bind fun (r_235, M_236) =>
                          if r_232 = r_235 then
                            lt (x3 + 5) fun x3_239 =>
                            some (0, x3_239, M_236)
                          else
                            some (8, 0, M_236)
                        else none
                      else none
                    else
                      if ((xs x3.toNatClampNeg) &&& 31) = 8 then
                        if inb (x3 + 1) L = true then
                          if inb (x3 + 2) L = true then
                            if inb (x3 + 3) L = true then
                              if inb (x3 + 4) L = true then
                                (NW_uses F (xs (x3 + 1).toNatClampNeg) (xs (x3 + 2).toNatClampNeg) (xs (x3 + 3).toNatClampNeg) (xs (x3 + 4).toNatClampNeg) M).bind fun (r_221, M_222) =>
                                (Mod_uses F (xs (x3 + 1).toNatClampNeg) (xs (x3 + 2).toNatClampNeg) (xs (x3 + 3).toNatClampNeg) (xs (x3 + 4).toNatClampNeg) M_222).bind fun (r_224, M_225) =>
                                if r_221 = r_224 then
                                  lt (x3 + 5) fun x3_228 =>
                                  some (0, x3_228, M_225)
                                else
                                  some (9, 0, M_225)
                              else none
                            else none
                          else none
                        else none
                      else
                        if ((xs x3.toNatClampNeg) &&& 31) = 9 then
                          if inb (x3 + 1) L = true then
                            if inb (x3 + 2) L = true then
                              (NW_first F (xs (x3 + 1).toNatClampNeg) (xs (x3 + 2).toNatClampNeg) M).bind fun (r_208, M_209) =>
                              (Mod_first F (xs (x3 + 1).toNatClampNeg) (xs (x3 + 2).toNatClampNeg) M_209).bind fun (r_211, M_212) =>
                              if r_208 = r_211 then
                                lt (x3 + 5) fun x3_215 =>
                                some (0, x3_215, M_212)
                              else
                                some (10, 0, M_212)
                            else none
                          else none
                        else
                          if ((xs x3.toNatClampNeg) &&& 31) = 10 then
                            if inb (x3 + 1) L = true then
                              if inb (x3 + 2) L = true then
                                if inb (x3 + 3) L = true then
                                  (NW_song F (xs (x3 + 1).toNatClampNeg) (xs (x3 + 2).toNatClampNeg) (xs (x3 + 3).toNatClampNeg) M).bind fun (r_197, M_198) =>
                                  (Mod_song F (xs (x3 + 1).toNatClampNeg) (xs (x3 + 2).toNatClampNeg) (xs (x3 + 3).toNatClampNeg) M_198).bind fun (r_200, M_201) =>
                                  if r_197 = r_200 then
                                    lt (x3 + 5) fun x3_204 =>
                                    some (0, x3_204, M_201)
                                  else
                                    some (11, 0, M_201)
                                else none
                              else none
                            else none
                          else
                            if ((xs x3.toNatClampNeg) &&& 31) = 11 then
                              if inb (x3 + 1) L = true then
                                if inb (x3 + 2) L = true then
                                  (NW_order F (xs (x3 + 1).toNatClampNeg) (xs (x3 + 2).toNatClampNeg) M).bind fun (r_185, M_186) =>
                                  (Mod_order F (xs (x3 + 1).toNatClampNeg) (xs (x3 + 2).toNatClampNeg) M_186).bind fun (r_188, M_189) =>
                                  if r_185 = r_188 then
                                    lt (x3 + 5) fun x3_192 =>
                                    some (0, x3_192, M_189)
                                  else
                                    some (12, 0, M_189)
                                else none
                              else none
                            else
                              if ((xs x3.toNatClampNeg) &&& 31) = 12 then
                                if inb (x3 + 1) L = true then
                                  if inb (x3 + 2) L = true then
                                    (NW_place F (xs (x3 + 1).toNatClampNeg) (xs (x3 + 2).toNatClampNeg) M).bind fun (r_174, M_175) =>
                                    (Mod_place F (xs (x3 + 1).toNatClampNeg) (xs (x3 + 2).toNatClampNeg) M_175).bind fun (r_177, M_178) =>
                                    if r_174 = r_177 then
                                      lt (x3 + 5) fun x3_181 =>
                                      some (0, x3_181, M_178)
                                    else
                                      some (13, 0, M_178)
                                  else none
                                else none
                              else
                                if ((xs x3.toNatClampNeg) &&& 31) = 13 then
                                  if inb (x3 + 1) L = true then
                                    if inb (x3 + 2) L = true then
                                      (NW_twins F (xs (x3 + 1).toNatClampNeg) (xs (x3 + 2).toNatClampNeg) M).bind fun (r_163, M_164) =>
                                      (Mod_twins F (xs (x3 + 1).toNatClampNeg) (xs (x3 + 2).toNatClampNeg) M_164).bind fun (r_166, M_167) =>
                                      if r_163 = r_166 then
                                        lt (x3 + 5) fun x3_170 =>
                                        some (0, x3_170, M_167)
                                      else
                                        some (14, 0, M_167)
                                    else none
                                  else none
                                else
                                  if ((xs x3.toNatClampNeg) &&& 31) = 14 then
                                    if inb (x3 + 1) L = true then
                                      (NW_write F (xs (x3 + 1).toNatClampNeg) M).bind fun (r_152, M_153) =>
                                      (Mod_write F (xs (x3 + 1).toNatClampNeg) M_153).bind fun (r_155, M_156) =>
                                      if r_152 = r_155 then
                                        lt (x3 + 5) fun x3_159 =>
                                        some (0, x3_159, M_156)
                                      else
                                        some (15, 0, M_156)
                                    else none
                                  else
                                    if ((xs x3.toNatClampNeg) &&& 31) = 15 then
                                      (NW_clear F  M).bind fun (r_142, M_143) =>
                                      (Mod_clear F  M_143).bind fun (r_145, M_146) =>
                                      if r_142 = r_145 then
                                        lt (x3 + 5) fun x3_149 =>
                                        some (0, x3_149, M_146)
                                      else
                                        some (16, 0, M_146)
                                    else
                                      if ((xs x3.toNatClampNeg) &&& 31) = 16 then
                                        if inb (x3 + 1) L = true then
                                          if inb (x3 + 2) L = true then
                                            if (xs (x3 + 2).toNatClampNeg) = 0 then
                                              Law_law_J705 F L xs x3 (xs (x3 + 1).toNatClampNeg) 0 M
                                            else
                                              Law_law_J705 F L xs x3 (xs (x3 + 1).toNatClampNeg) 1 M
                                          else none
                                        else none
                                      else
                                        if ((xs x3.toNatClampNeg) &&& 31) = 17 then
                                          if inb (x3 + 1) L = true then
                                            if inb (x3 + 2) L = true then
                                              (NW_nearest F (xs (x3 + 1).toNatClampNeg) (xs (x3 + 2).toNatClampNeg) M).bind fun (r_116, M_117) =>
                                              (Mod_nearest F (xs (x3 + 1).toNatClampNeg) (xs (x3 + 2).toNatClampNeg) M_117).bind fun (r_119, M_120) =>
                                              if r_116 = r_119 then
                                                lt (x3 + 5) fun x3_123 =>
                                                some (0, x3_123, M_120)
                                              else
                                                some (18, 0, M_120)
                                            else none
                                          else none
                                        else
                                          if ((xs x3.toNatClampNeg) &&& 31) = 18 then
                                            if inb (x3 + 1) L = true then
                                              if inb (x3 + 2) L = true then
                                                if inb (x3 + 3) L = true then
                                                  (NW_led F (xs (x3 + 1).toNatClampNeg) (xs (x3 + 2).toNatClampNeg) (xs (x3 + 3).toNatClampNeg) M).bind fun (r_105, M_106) =>
                                                  (Mod_led F (xs (x3 + 1).toNatClampNeg) (xs (x3 + 2).toNatClampNeg) (xs (x3 + 3).toNatClampNeg) M_106).bind fun (r_108, M_109) =>
                                                  if r_105 = r_108 then
                                                    lt (x3 + 5) fun x3_112 =>
                                                    some (0, x3_112, M_109)
                                                  else
                                                    some (19, 0, M_109)
                                                else none
                                              else none
                                            else none
                                          else
                                            if ((xs x3.toNatClampNeg) &&& 31) = 19 then
                                              if inb (x3 + 1) L = true then
                                                if inb (x3 + 2) L = true then
                                                  if inb (x3 + 3) L = true then
                                                    (NW_chain F (xs (x3 + 1).toNatClampNeg) (xs (x3 + 2).toNatClampNeg) (xs (x3 + 3).toNatClampNeg) M).bind fun (r_93, M_94) =>
                                                    (Mod_chain F (xs (x3 + 1).toNatClampNeg) (xs (x3 + 2).toNatClampNeg) (xs (x3 + 3).toNatClampNeg) M_94).bind fun (r_96, M_97) =>
                                                    if r_93 = r_96 then
                                                      lt (x3 + 5) fun x3_100 =>
                                                      some (0, x3_100, M_97)
                                                    else
                                                      some (20, 0, M_97)
                                                  else none
                                                else none
                                              else none
                                            else
                                              if ((xs x3.toNatClampNeg) &&& 31) = 20 then
                                                if inb (x3 + 1) L = true then
                                                  if inb (x3 + 2) L = true then
                                                    (NW_honest F (xs (x3 + 1).toNatClampNeg) (xs (x3 + 2).toNatClampNeg) M).bind fun (r_81, M_82) =>
                                                    (Mod_honest F (xs (x3 + 1).toNatClampNeg) (xs (x3 + 2).toNatClampNeg) M_82).bind fun (r_84, M_85) =>
                                                    if r_81 = r_84 then
                                                      lt (x3 + 5) fun x3_88 =>
                                                      some (0, x3_88, M_85)
                                                    else
                                                      some (21, 0, M_85)
                                                  else none
                                                else none
                                              else
                                                if ((xs x3.toNatClampNeg) &&& 31) = 21 then
                                                  if inb (x3 + 1) L = true then
                                                    if inb (x3 + 2) L = true then
                                                      if inb (x3 + 3) L = true then
                                                        (NW_far F (xs (x3 + 1).toNatClampNeg) (xs (x3 + 2).toNatClampNeg) (xs (x3 + 3).toNatClampNeg) M).bind fun (r_70, M_71) =>
                                                        (Mod_far F (xs (x3 + 1).toNatClampNeg) (xs (x3 + 2).toNatClampNeg) (xs (x3 + 3).toNatClampNeg) M_71).bind fun (r_73, M_74) =>
                                                        if r_70 = r_73 then
                                                          lt (x3 + 5) fun x3_77 =>
                                                          some (0, x3_77, M_74)
                                                        else
                                                          some (22, 0, M_74)
                                                      else none
                                                    else none
                                                  else none
                                                else
                                                  if ((xs x3.toNatClampNeg) &&& 31) = 22 then
                                                    if inb (x3 + 1) L = true then
                                                      if inb (x3 + 2) L = true then
                                                        if inb (x3 + 3) L = true then
                                                          if inb (x3 + 4) L = true then
                                                            (NW_mixed F (xs (x3 + 1).toNatClampNeg) (xs (x3 + 2).toNatClampNeg) (xs (x3 + 3).toNatClampNeg) (xs (x3 + 4).toNatClampNeg) M).bind fun (r_58, M_59) =>
                                                            (Mod_mixed F (xs (x3 + 1).toNatClampNeg) (xs (x3 + 2).toNatClampNeg) (xs (x3 + 3).toNatClampNeg) (xs (x3 + 4).toNatClampNeg) M_59).bind fun (r_61, M_62) =>
                                                            if r_58 = r_61 then
                                                              lt (x3 + 5) fun x3_65 =>
                                                              some (0, x3_65, M_62)
                                                            else
                                                              some (23, 0, M_62)
                                                          else none
                                                        else none
                                                      else none
                                                    else none
                                                  else
                                                    if ((xs x3.toNatClampNeg) &&& 31) = 23 then
                                                      if inb (x3 + 1) L = true then
                                                        if inb (x3 + 2) L = true then
                                                          if inb (x3 + 3) L = true then
                                                            if inb (x3 + 4) L = true then
                                                              (NW_square F (xs (x3 + 1).toNatClampNeg) (xs (x3 + 2).toNatClampNeg) (xs (x3 + 3).toNatClampNeg) (xs (x3 + 4).toNatClampNeg) M).bind fun (r_45, M_46) =>
                                                              (Mod_square F (xs (x3 + 1).toNatClampNeg) (xs (x3 + 2).toNatClampNeg) (xs (x3 + 3).toNatClampNeg) (xs (x3 + 4).toNatClampNeg) M_46).bind fun (r_48, M_49) =>
                                                              if r_45 = r_48 then
                                                                lt (x3 + 5) fun x3_52 =>
                                                                some (0, x3_52, M_49)
                                                              else
                                                                some (24, 0, M_49)
                                                            else none
                                                          else none
                                                        else none
                                                      else none
                                                    else
                                                      if ((xs x3.toNatClampNeg) &&& 31) = 24 then
                                                        if inb (x3 + 1) L = true then
                                                          if inb (x3 + 2) L = true then
                                                            (NW_squares F (xs (x3 + 1).toNatClampNeg) (xs (x3 + 2).toNatClampNeg) M).bind fun (r_32, M_33) =>
                                                            (Mod_squares F (xs (x3 + 1).toNatClampNeg) (xs (x3 + 2).toNatClampNeg) M_33).bind fun (r_35, M_36) =>
                                                            if r_32 = r_35 then
                                                              lt (x3 + 5) fun x3_39 =>
                                                              some (0, x3_39, M_36)
                                                            else
                                                              some (25, 0, M_36)
                                                          else none
                                                        else none
                                                      else
                                                        lt (x3 + 5) fun x3_28 =>
                                                        some (0, x3_28, M)
    else none
