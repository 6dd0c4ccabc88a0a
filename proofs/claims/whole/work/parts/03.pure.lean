/-! by program (gen.py): what each method answers, as a function; none: an index outside its row, or no fuel left -/
-- X0_forget forget()V
def fn_X0_forget (v : XS) : Option (XS) :=
  some (xs_count v 0)
-- X0_isKnown isKnown(J)Z
def fn_X0_isKnown_2_body (v : XS) (k2 : Int64 → Int32 → Option (Int32)) (x1 : Int64) (x3 : Int32) : Option (Int32) :=
  if (x_count v) ≤ x3 then
    some 0
  else
    if 504 ≤ x3 then
      some 0
    else
      (rd (x_found v) 504 x3).bind fun q24 =>
      if q24 = x1 then
        some 1
      else
        k2 x1 (x3 + 1)
def fn_X0_isKnown_2 (v : XS) : Nat → Int64 → Int32 → Option (Int32)
  | 0, _, _ => none
  | n + 1, x1, x3 => fn_X0_isKnown_2_body v (fn_X0_isKnown_2 v n) x1 x3
def fn_X0_isKnown (v : XS) (x1 : Int64) : Option (Int32) :=
  fn_X0_isKnown_2 v FU x1 0
-- X0_enter enter(J)V
def fn_X0_enter_15 (v : XS) (x1 : Int64) (y0 : Int32) : Option (XS) :=
  if y0 = 0 then
    (fn_X0_isKnown v x1).bind fun q22 =>
    if q22 = 0 then
      if 504 ≤ (x_count v) then
        some v
      else
        (wrL (x_found v) 504 (x_count v) x1).bind fun g49 =>
        some (xs_found (xs_count v ((x_count v) + 1)) g49)
    else
      some v
  else
    some v
def fn_X0_enter (v : XS) (x1 : Int64) : Option (XS) :=
  if (x1 &&& (-2)) = 0 then
    fn_X0_enter_15 v x1 1
  else
    fn_X0_enter_15 v x1 0
-- X3_without without(I)J
def fn_X3_without (x0 : Int32) : Option (Int64) :=
  if x0 < 0 then
    some 0
  else
    if 6 ≤ x0 then
      some 0
    else
      (rd kW 6 x0).bind fun q16 =>
      some q16
-- X3_upperHalf upperHalf(JI)J
def fn_X3_upperHalf (x0 : Int64) (x2 : Int32) : Option (Int64) :=
  (fn_X3_without x2).bind fun q6 =>
  some ((lus x0 (ish 1 x2)) &&& q6)
-- X3_lowestVariable lowestVariable(J)I
def fn_X3_lowestVariable_2_body (k2 : Int64 → Int32 → Option (Int32)) (x0 : Int64) (x2 : Int32) : Option (Int32) :=
  if 6 ≤ x2 then
    some x2
  else
    (fn_X3_upperHalf x0 x2).bind fun q10 =>
    if q10 = 0 then
      k2 x0 (x2 + 1)
    else
      some x2
def fn_X3_lowestVariable_2 : Nat → Int64 → Int32 → Option (Int32)
  | 0, _, _ => none
  | n + 1, x0, x2 => fn_X3_lowestVariable_2_body (fn_X3_lowestVariable_2 n) x0 x2
def fn_X3_lowestVariable (x0 : Int64) : Option (Int32) :=
  fn_X3_lowestVariable_2 FU x0 0
-- X3_lowerHalf lowerHalf(JI)J
def fn_X3_lowerHalf (x0 : Int64) (x2 : Int32) : Option (Int64) :=
  (fn_X3_without x2).bind fun q2 =>
  some (x0 &&& q2)
-- X0_closedCount closedCount()I
def fn_X0_closedCount_2_body (k2 : XS → Int32 → Option (Int32 × XS)) (v : XS) (x1 : Int32) : Option (Int32 × XS) :=
  if (x_count v) ≤ x1 then
    some ((x_count v), v)
  else
    if 504 ≤ x1 then
      some ((x_count v), v)
    else
      (rd (x_found v) 504 x1).bind fun q24 =>
      (fn_X3_lowestVariable q24).bind fun q25 =>
      (rd (x_found v) 504 x1).bind fun q35 =>
      (fn_X3_upperHalf q35 q25).bind fun q37 =>
      (fn_X0_enter v q37).bind fun q40 =>
      (rd (x_found q40) 504 x1).bind fun q49 =>
      (fn_X3_lowerHalf q49 q25).bind fun q51 =>
      (fn_X0_enter q40 q51).bind fun q54 =>
      k2 q54 (x1 + 1)
def fn_X0_closedCount_2 : Nat → XS → Int32 → Option (Int32 × XS)
  | 0, _, _ => none
  | n + 1, v, x1 => fn_X0_closedCount_2_body (fn_X0_closedCount_2 n) v x1
def fn_X0_closedCount (v : XS) : Option (Int32 × XS) :=
  fn_X0_closedCount_2 FU v 0
-- X1_forget forget()V
def fn_X1_forget (v : XS) : Option (XS) :=
  some (xs_kept v 0)
-- X1_isEmpty isEmpty()Z
def fn_X1_isEmpty (v : XS) : Option (Int32) :=
  if 0 < (x_kept v) then
    some 0
  else
    some 1
-- X1_keep keep([J)V
def fn_X1_keep_38 (v : XS) : Option (XS) :=
  (cpL (x_regs v) (x_hist v) 8 48 0 ((x_kept v) * 8) 8).bind fun g53 =>
  some (xs_kept (xs_hist v g53) ((x_kept v) + 1))
def fn_X1_keep (v : XS) : Option (XS) :=
  if (8 : Int32) = 8 then
    if (x_kept v) < 6 then
      fn_X1_keep_38 v 
    else
      (cpL (x_hist v) (x_hist v) 48 48 8 0 40).bind fun g30 =>
      fn_X1_keep_38 (xs_kept (xs_hist v g30) 5) 
  else
    some v
-- X1_restore restore([J)I
def fn_X1_restore (v : XS) : Option (Int32 × XS) :=
  if (x_kept v) ≤ 0 then
    some ((x_kept v), v)
  else
    if 6 < (x_kept v) then
      some ((x_kept v), v)
    else
      if (8 : Int32) = 8 then
        (cpL (x_hist v) (x_regs v) 48 8 (((x_kept v) - 1) * 8) 0 8).bind fun g48 =>
        some (((x_kept v) - 1), (xs_regs (xs_kept v ((x_kept v) - 1)) g48))
      else
        some ((x_kept v), v)
-- X2_tableOf tableOf(I)[I
def fn_X2_tableOf (x0 : Int32) : Option (Nat) :=
  if x0 = 0 then
    some 0
  else
    if x0 = 1 then
      some 1
    else
      some 2
-- X2_monomialAt monomialAt(II)I
def fn_X2_monomialAt (x0 : Int32) (x1 : Int32) : Option (Int32) :=
  (fn_X2_tableOf x0).bind fun q1 =>
  if x1 < 0 then
    some 0
  else
    if 64 ≤ x1 then
      some 0
    else
      (rd (kT q1) 64 x1).bind fun q17 =>
      some q17
-- J13_bitCount_95d88 bitCount(J)I
def fn_J13_bitCount_95d88 (x0 : Int64) : Option (Int32) :=
  some (((((((((x0 - ((lus x0 1) &&& 6148914691236517205)) &&& 3689348814741910323) + ((lus (x0 - ((lus x0 1) &&& 6148914691236517205)) 2) &&& 3689348814741910323)) + (lus (((x0 - ((lus x0 1) &&& 6148914691236517205)) &&& 3689348814741910323) + ((lus (x0 - ((lus x0 1) &&& 6148914691236517205)) 2) &&& 3689348814741910323)) 4)) &&& 1085102592571150095) + (lus (((((x0 - ((lus x0 1) &&& 6148914691236517205)) &&& 3689348814741910323) + ((lus (x0 - ((lus x0 1) &&& 6148914691236517205)) 2) &&& 3689348814741910323)) + (lus (((x0 - ((lus x0 1) &&& 6148914691236517205)) &&& 3689348814741910323) + ((lus (x0 - ((lus x0 1) &&& 6148914691236517205)) 2) &&& 3689348814741910323)) 4)) &&& 1085102592571150095) 8)) + (lus ((((((x0 - ((lus x0 1) &&& 6148914691236517205)) &&& 3689348814741910323) + ((lus (x0 - ((lus x0 1) &&& 6148914691236517205)) 2) &&& 3689348814741910323)) + (lus (((x0 - ((lus x0 1) &&& 6148914691236517205)) &&& 3689348814741910323) + ((lus (x0 - ((lus x0 1) &&& 6148914691236517205)) 2) &&& 3689348814741910323)) 4)) &&& 1085102592571150095) + (lus (((((x0 - ((lus x0 1) &&& 6148914691236517205)) &&& 3689348814741910323) + ((lus (x0 - ((lus x0 1) &&& 6148914691236517205)) 2) &&& 3689348814741910323)) + (lus (((x0 - ((lus x0 1) &&& 6148914691236517205)) &&& 3689348814741910323) + ((lus (x0 - ((lus x0 1) &&& 6148914691236517205)) 2) &&& 3689348814741910323)) 4)) &&& 1085102592571150095) 8)) 16)) + (lus (((((((x0 - ((lus x0 1) &&& 6148914691236517205)) &&& 3689348814741910323) + ((lus (x0 - ((lus x0 1) &&& 6148914691236517205)) 2) &&& 3689348814741910323)) + (lus (((x0 - ((lus x0 1) &&& 6148914691236517205)) &&& 3689348814741910323) + ((lus (x0 - ((lus x0 1) &&& 6148914691236517205)) 2) &&& 3689348814741910323)) 4)) &&& 1085102592571150095) + (lus (((((x0 - ((lus x0 1) &&& 6148914691236517205)) &&& 3689348814741910323) + ((lus (x0 - ((lus x0 1) &&& 6148914691236517205)) 2) &&& 3689348814741910323)) + (lus (((x0 - ((lus x0 1) &&& 6148914691236517205)) &&& 3689348814741910323) + ((lus (x0 - ((lus x0 1) &&& 6148914691236517205)) 2) &&& 3689348814741910323)) 4)) &&& 1085102592571150095) 8)) + (lus ((((((x0 - ((lus x0 1) &&& 6148914691236517205)) &&& 3689348814741910323) + ((lus (x0 - ((lus x0 1) &&& 6148914691236517205)) 2) &&& 3689348814741910323)) + (lus (((x0 - ((lus x0 1) &&& 6148914691236517205)) &&& 3689348814741910323) + ((lus (x0 - ((lus x0 1) &&& 6148914691236517205)) 2) &&& 3689348814741910323)) 4)) &&& 1085102592571150095) + (lus (((((x0 - ((lus x0 1) &&& 6148914691236517205)) &&& 3689348814741910323) + ((lus (x0 - ((lus x0 1) &&& 6148914691236517205)) 2) &&& 3689348814741910323)) + (lus (((x0 - ((lus x0 1) &&& 6148914691236517205)) &&& 3689348814741910323) + ((lus (x0 - ((lus x0 1) &&& 6148914691236517205)) 2) &&& 3689348814741910323)) 4)) &&& 1085102592571150095) 8)) 16)) 32)).toInt32 &&& 127)
-- X3_bit bit(JI)I
def fn_X3_bit (x0 : Int64) (x2 : Int32) : Option (Int32) :=
  some (((lus x0 x2) &&& 1).toInt32)
-- X2_termOf termOf(JII)I
def fn_X2_termOf_17_body (k17 : Int64 → Int32 → Int32 → Int32 → Option (Int32)) (x0 : Int64) (x2 : Int32) (x4 : Int32) (x5 : Int32) : Option (Int32) :=
  if 64 ≤ x5 then
    some (-4)
  else
    (fn_X2_monomialAt x2 x5).bind fun q27 =>
    (fn_X3_bit x0 q27).bind fun q35 =>
    if q35 = 1 then
      if x4 = 0 then
        some q27
      else
        k17 x0 x2 (x4 + (-1)) (x5 + 1)
    else
      k17 x0 x2 x4 (x5 + 1)
def fn_X2_termOf_17 : Nat → Int64 → Int32 → Int32 → Int32 → Option (Int32)
  | 0, _, _, _, _ => none
  | n + 1, x0, x2, x4, x5 => fn_X2_termOf_17_body (fn_X2_termOf_17 n) x0 x2 x4 x5
def fn_X2_termOf (x0 : Int64) (x2 : Int32) (x3 : Int32) : Option (Int32) :=
  (fn_J13_bitCount_95d88 x0).bind fun q2 =>
  if x3 < q2 then
    fn_X2_termOf_17 FU x0 x2 x3 0
  else
    some (-4)
-- X3_ofMonomial ofMonomial(I)J
def fn_X3_ofMonomial (x0 : Int32) : Option (Int64) :=
  some (lsh 1 x0)
-- X3_raised raised(JI)J
def fn_X3_raised (x0 : Int64) (x2 : Int32) : Option (Int64) :=
  (fn_X3_without x2).bind fun q2 =>
  some (lsh (x0 &&& q2) (ish 1 x2))
-- X3_transformed transformed(JI)J
def fn_X3_transformed_5_body (k5 : Int32 → Int64 → Int32 → Option (Int64)) (x2 : Int32) (x3 : Int64) (x5 : Int32) : Option (Int64) :=
  if x2 ≤ x5 then
    some x3
  else
    (fn_X3_raised x3 x5).bind fun q15 =>
    k5 x2 (x3 ^^^ q15) (x5 + 1)
def fn_X3_transformed_5 : Nat → Int32 → Int64 → Int32 → Option (Int64)
  | 0, _, _, _ => none
  | n + 1, x2, x3, x5 => fn_X3_transformed_5_body (fn_X3_transformed_5 n) x2 x3 x5
def fn_X3_transformed (x0 : Int64) (x2 : Int32) : Option (Int64) :=
  fn_X3_transformed_5 FU x2 x0 0
-- X3_multiplied multiplied(JJI)J
def fn_X3_multiplied (x0 : Int64) (x2 : Int64) (x4 : Int32) : Option (Int64) :=
  (fn_X3_transformed x0 x4).bind fun q3 =>
  (fn_X3_transformed x2 x4).bind fun q9 =>
  (fn_X3_transformed (q3 &&& q9) x4).bind fun q15 =>
  some q15
-- X3_exchanged exchanged(JII)J
def fn_X3_exchanged (x0 : Int64) (x2 : Int32) (x3 : Int32) : Option (Int64) :=
  (fn_X3_without x2).bind fun q2 =>
  (fn_X3_without x3).bind fun q11 =>
  (fn_X3_without x2).bind fun q19 =>
  (fn_X3_without x3).bind fun q24 =>
  some ((((x0 ^^^ ((x0 &&& (q2 ^^^ (-1))) &&& q11)) ^^^ ((x0 &&& q19) &&& (q24 ^^^ (-1)))) ||| (lsh ((x0 &&& (q2 ^^^ (-1))) &&& q11) ((ish 1 x3) - (ish 1 x2)))) ||| (lus ((x0 &&& q19) &&& (q24 ^^^ (-1))) ((ish 1 x3) - (ish 1 x2))))
-- J6_bitCount_0f7a4 bitCount(I)I
def fn_J6_bitCount_0f7a4 (x0 : Int32) : Option (Int32) :=
  some ((((((((x0 - ((ius x0 1) &&& 1431655765)) &&& 858993459) + ((ius (x0 - ((ius x0 1) &&& 1431655765)) 2) &&& 858993459)) + (ius (((x0 - ((ius x0 1) &&& 1431655765)) &&& 858993459) + ((ius (x0 - ((ius x0 1) &&& 1431655765)) 2) &&& 858993459)) 4)) &&& 252645135) + (ius (((((x0 - ((ius x0 1) &&& 1431655765)) &&& 858993459) + ((ius (x0 - ((ius x0 1) &&& 1431655765)) 2) &&& 858993459)) + (ius (((x0 - ((ius x0 1) &&& 1431655765)) &&& 858993459) + ((ius (x0 - ((ius x0 1) &&& 1431655765)) 2) &&& 858993459)) 4)) &&& 252645135) 8)) + (ius ((((((x0 - ((ius x0 1) &&& 1431655765)) &&& 858993459) + ((ius (x0 - ((ius x0 1) &&& 1431655765)) 2) &&& 858993459)) + (ius (((x0 - ((ius x0 1) &&& 1431655765)) &&& 858993459) + ((ius (x0 - ((ius x0 1) &&& 1431655765)) 2) &&& 858993459)) 4)) &&& 252645135) + (ius (((((x0 - ((ius x0 1) &&& 1431655765)) &&& 858993459) + ((ius (x0 - ((ius x0 1) &&& 1431655765)) 2) &&& 858993459)) + (ius (((x0 - ((ius x0 1) &&& 1431655765)) &&& 858993459) + ((ius (x0 - ((ius x0 1) &&& 1431655765)) 2) &&& 858993459)) 4)) &&& 252645135) 8)) 16)) &&& 63)
-- X4_widthOf widthOf(I)I
def fn_X4_widthOf (x0 : Int32) : Option (Int32) :=
  if x0 = 0 then
    some 1
  else
    (fn_J6_bitCount_0f7a4 x0).bind fun q9 =>
    some q9
-- X4_lengthOf lengthOf(J)I
def fn_X4_lengthOf_12_body (k12 : Int64 → Int32 → Int32 → Option (Int32)) (x0 : Int64) (x2 : Int32) (x3 : Int32) : Option (Int32) :=
  if 64 ≤ x3 then
    (fn_J13_bitCount_95d88 x0).bind fun q42 =>
    some ((x2 + q42) - 1)
  else
    (fn_X3_bit x0 x3).bind fun q20 =>
    if q20 = 1 then
      (fn_X4_widthOf x3).bind fun q29 =>
      k12 x0 (x2 + q29) (x3 + 1)
    else
      k12 x0 x2 (x3 + 1)
def fn_X4_lengthOf_12 : Nat → Int64 → Int32 → Int32 → Option (Int32)
  | 0, _, _, _ => none
  | n + 1, x0, x2, x3 => fn_X4_lengthOf_12_body (fn_X4_lengthOf_12 n) x0 x2 x3
def fn_X4_lengthOf (x0 : Int64) : Option (Int32) :=
  if x0 = 0 then
    some 1
  else
    fn_X4_lengthOf_12 FU x0 0 0
-- X4_signOf signOf(II)I
def fn_X4_signOf_4_body (k4 : Int32 → Int32 → Int32 → Option (Int32)) (x0 : Int32) (x2 : Int32) (x3 : Int32) : Option (Int32) :=
  if 6 ≤ x3 then
    some 49
  else
    if ((isr x0 x3) &&& 1) = 1 then
      if x2 = 0 then
        some (97 + x3)
      else
        k4 x0 (x2 + (-1)) (x3 + 1)
    else
      k4 x0 x2 (x3 + 1)
def fn_X4_signOf_4 : Nat → Int32 → Int32 → Int32 → Option (Int32)
  | 0, _, _, _ => none
  | n + 1, x0, x2, x3 => fn_X4_signOf_4_body (fn_X4_signOf_4 n) x0 x2 x3
def fn_X4_signOf (x0 : Int32) (x1 : Int32) : Option (Int32) :=
  fn_X4_signOf_4 FU x0 x1 0
-- X4_characterOf characterOf(JI)I
def fn_X4_characterOf_25_body (k25 : Int64 → Int32 → Int32 → Option (Int32)) (x0 : Int64) (x3 : Int32) (x4 : Int32) : Option (Int32) :=
  if 64 ≤ x4 then
    some (-4)
  else
    (fn_X2_monomialAt 0 x4).bind fun q35 =>
    (fn_X3_bit x0 q35).bind fun q43 =>
    if q43 = 1 then
      (fn_X4_widthOf q35).bind fun q52 =>
      if q52 < x3 then
        k25 x0 (x3 - (q52 + 1)) (x4 + 1)
      else
        if x3 = q52 then
          some 43
        else
          (fn_X4_signOf q35 x3).bind fun q77 =>
          some q77
    else
      k25 x0 x3 (x4 + 1)
def fn_X4_characterOf_25 : Nat → Int64 → Int32 → Int32 → Option (Int32)
  | 0, _, _, _ => none
  | n + 1, x0, x3, x4 => fn_X4_characterOf_25_body (fn_X4_characterOf_25 n) x0 x3 x4
def fn_X4_characterOf (x0 : Int64) (x2 : Int32) : Option (Int32) :=
  (fn_X4_lengthOf x0).bind fun q2 =>
  if x2 < q2 then
    if x0 = 0 then
      some 48
    else
      fn_X4_characterOf_25 FU x0 x2 0
  else
    some (-4)
-- X5_append append(C)I
def fn_X5_append (v : XS) (x1 : Int32) : Option (Int32 × XS) :=
  if (x_len v) < 0 then
    some ((-3), v)
  else
    if (x_len v) < 60 then
      (wrI (x_text v) 60 (x_len v) (vp_nar .char x1)).bind fun g28 =>
      some (((x_len v) + 1), (xs_text (xs_len v ((x_len v) + 1)) g28))
    else
      some ((-3), v)
-- X5_empty empty()I
def fn_X5_empty (v : XS) : Option (Int32 × XS) :=
  some ((x_len v), (xs_len v 0))
-- X5_seenAfter seenAfter(ICI)I
def fn_X5_seenAfter_30 (x0 : Int32) : Option (Int32) :=
  if x0 = (-1) then
    some 6
  else
    some 7
def fn_X5_seenAfter (x0 : Int32) (x1 : Int32) (x2 : Int32) : Option (Int32) :=
  if x1 = 43 then
    if x0 = (-1) then
      some 7
    else
      some (-1)
  else
    if x1 = 48 then
      fn_X5_seenAfter_30 x0
    else
      if x1 = 49 then
        fn_X5_seenAfter_30 x0
      else
        if (x1 - 97) ≤ x0 then
          some 7
        else
          if x2 ≤ (x1 - 97) then
            some 7
          else
            some (x1 - 97)
-- X5_firstFault firstFault(I)I
def fn_X5_firstFault_44 (v : XS) (x2 : Int32) : Option (Int32) :=
  if x2 = (-1) then
    some (x_len v)
  else
    some (-4)
def fn_X5_firstFault_4_body (v : XS) (k4 : Int32 → Int32 → Int32 → Option (Int32)) (x1 : Int32) (x2 : Int32) (x3 : Int32) : Option (Int32) :=
  if (x_len v) ≤ x3 then
    fn_X5_firstFault_44 v x2
  else
    if 60 ≤ x3 then
      fn_X5_firstFault_44 v x2
    else
      (rd (x_text v) 60 x3).bind fun q24 =>
      (fn_X5_seenAfter x2 q24 x1).bind fun q26 =>
      if q26 = 7 then
        some x3
      else
        k4 x1 q26 (x3 + 1)
def fn_X5_firstFault_4 (v : XS) : Nat → Int32 → Int32 → Int32 → Option (Int32)
  | 0, _, _, _ => none
  | n + 1, x1, x2, x3 => fn_X5_firstFault_4_body v (fn_X5_firstFault_4 v n) x1 x2 x3
def fn_X5_firstFault (v : XS) (x1 : Int32) : Option (Int32) :=
  fn_X5_firstFault_4 v FU x1 (-1) 0
-- X5_polynomial polynomial()J
def fn_X5_polynomial_102 (v : XS) (x1 : Int64) (x3 : Int32) (x4 : Int32) : Option (Int64) :=
  if x4 = 0 then
    (fn_X3_ofMonomial x3).bind fun q113 =>
    some (x1 ^^^ q113)
  else
    some (x1 ^^^ 0)
def fn_X5_polynomial_56 (v : XS) (k10 : Int64 → Int32 → Int32 → Int32 → Option (Int64)) (x5 : Int32) (y0 : Int64) (y1 : Int64) : Option (Int64) :=
  k10 (y1 ^^^ y0) 0 0 (x5 + 1)
def fn_X5_polynomial_10_body (v : XS) (k10 : Int64 → Int32 → Int32 → Int32 → Option (Int64)) (x1 : Int64) (x3 : Int32) (x4 : Int32) (x5 : Int32) : Option (Int64) :=
  if (x_len v) ≤ x5 then
    fn_X5_polynomial_102 v x1 x3 x4
  else
    if 60 ≤ x5 then
      fn_X5_polynomial_102 v x1 x3 x4
    else
      (rd (x_text v) 60 x5).bind fun q32 =>
      if q32 = 43 then
        if x4 = 0 then
          (fn_X3_ofMonomial x3).bind fun q53 =>
          fn_X5_polynomial_56 v k10 x5 q53 x1
        else
          fn_X5_polynomial_56 v k10 x5 0 x1
      else
        if q32 = 48 then
          k10 x1 x3 1 (x5 + 1)
        else
          if q32 = 49 then
            k10 x1 x3 x4 (x5 + 1)
          else
            k10 x1 (x3 ||| (ish 1 (q32 - 97))) x4 (x5 + 1)
def fn_X5_polynomial_10 (v : XS) : Nat → Int64 → Int32 → Int32 → Int32 → Option (Int64)
  | 0, _, _, _, _ => none
  | n + 1, x1, x3, x4, x5 => fn_X5_polynomial_10_body v (fn_X5_polynomial_10 v n) x1 x3 x4 x5
def fn_X5_polynomial (v : XS) : Option (Int64) :=
  fn_X5_polynomial_10 v FU 0 0 0 0
-- J7_fill_d0a16 fill([JJ)V
def fn_J7_fill_d0a16_6_body (k6 : XS → Int64 → Int32 → Int32 → Option (XS)) (v : XS) (x1 : Int64) (x3 : Int32) (x4 : Int32) : Option (XS) :=
  if x4 ≤ x3 then
    some v
  else
    (wrL (x_regs v) 8 x3 x1).bind fun g15 =>
    k6 (xs_regs v g15) x1 (x3 + 1) x4
def fn_J7_fill_d0a16_6 : Nat → XS → Int64 → Int32 → Int32 → Option (XS)
  | 0, _, _, _, _ => none
  | n + 1, v, x1, x3, x4 => fn_J7_fill_d0a16_6_body (fn_J7_fill_d0a16_6 n) v x1 x3 x4
def fn_J7_fill_d0a16 (v : XS) (x1 : Int64) : Option (XS) :=
  fn_J7_fill_d0a16_6 FU v x1 0 8
-- X6_reset reset(I)I
def fn_X6_reset (v : XS) (x1 : Int32) : Option (Int32 × XS) :=
  if x1 < 1 then
    some ((-1), v)
  else
    if x1 ≤ 6 then
      (fn_J7_fill_d0a16 (xs_n v x1) 0).bind fun q28 =>
      (fn_X1_forget q28 ).bind fun q35 =>
      some ((x_n v), q35)
    else
      some ((-1), v)
-- X6_variables variables()I
def fn_X6_variables (v : XS) : Option (Int32) :=
  some (x_n v)
-- X6_isRegister isRegister(I)Z
def fn_X6_isRegister (x0 : Int32) : Option (Int32) :=
  if x0 < 0 then
    some 0
  else
    if 8 ≤ x0 then
      some 0
    else
      some 1
-- X6_isMask isMask(I)Z
def fn_X6_isMask (v : XS) (x1 : Int32) : Option (Int32) :=
  if x1 < 0 then
    some 0
  else
    if (ish 1 (x_n v)) ≤ x1 then
      some 0
    else
      some 1
-- X6_put put(IJ)I
def fn_X6_put_25 (v : XS) (x2 : Int64) : Option (Int32 × XS) :=
  (fn_J13_bitCount_95d88 x2).bind fun q26 =>
  some (q26, v)
def fn_X6_put (v : XS) (x1 : Int32) (x2 : Int64) : Option (Int32 × XS) :=
  (fn_X1_keep v ).bind fun q8 =>
  (fn_X6_isRegister x1).bind fun q12 =>
  if q12 = 0 then
    fn_X6_put_25 q8 x2
  else
    (wrL (x_regs q8) 8 x1 x2).bind fun g24 =>
    fn_X6_put_25 (xs_regs q8 g24) x2
-- X6_toggle toggle(II)I
def fn_X6_toggle (v : XS) (x1 : Int32) (x2 : Int32) : Option (Int32 × XS) :=
  (fn_X6_isRegister x1).bind fun q1 =>
  if q1 = 0 then
    some ((-1), v)
  else
    (fn_X6_isMask v x2).bind fun q9 =>
    if q9 = 0 then
      some ((-1), v)
    else
      (rd (x_regs v) 8 x1).bind fun q24 =>
      (fn_X3_ofMonomial x2).bind fun q26 =>
      (fn_X6_put v x1 (q24 ^^^ q26)).bind fun q30 =>
      some (q30.1, q30.2)
-- X6_copy copy(II)I
def fn_X6_copy (v : XS) (x1 : Int32) (x2 : Int32) : Option (Int32 × XS) :=
  (fn_X6_isRegister x1).bind fun q1 =>
  if q1 = 0 then
    some ((-1), v)
  else
    (fn_X6_isRegister x2).bind fun q8 =>
    if q8 = 0 then
      some ((-1), v)
    else
      (rd (x_regs v) 8 x1).bind fun q23 =>
      (fn_X6_put v x2 q23).bind fun q24 =>
      some (q24.1, q24.2)
-- X6_sum sum(III)I
def fn_X6_sum (v : XS) (x1 : Int32) (x2 : Int32) (x3 : Int32) : Option (Int32 × XS) :=
  (fn_X6_isRegister x1).bind fun q1 =>
  if q1 = 0 then
    some ((-1), v)
  else
    (fn_X6_isRegister x2).bind fun q8 =>
    if q8 = 0 then
      some ((-1), v)
    else
      (fn_X6_isRegister x3).bind fun q15 =>
      if q15 = 0 then
        some ((-1), v)
      else
        (rd (x_regs v) 8 x1).bind fun q30 =>
        (rd (x_regs v) 8 x2).bind fun q36 =>
        (fn_X6_put v x3 (q30 ^^^ q36)).bind fun q38 =>
        some (q38.1, q38.2)
-- X6_product product(III)I
def fn_X6_product (v : XS) (x1 : Int32) (x2 : Int32) (x3 : Int32) : Option (Int32 × XS) :=
  (fn_X6_isRegister x1).bind fun q1 =>
  if q1 = 0 then
    some ((-1), v)
  else
    (fn_X6_isRegister x2).bind fun q8 =>
    if q8 = 0 then
      some ((-1), v)
    else
      (fn_X6_isRegister x3).bind fun q15 =>
      if q15 = 0 then
        some ((-1), v)
      else
        (rd (x_regs v) 8 x1).bind fun q30 =>
        (rd (x_regs v) 8 x2).bind fun q36 =>
        (fn_X3_multiplied q30 q36 (x_n v)).bind fun q41 =>
        (fn_X6_put v x3 q41).bind fun q44 =>
        some (q44.1, q44.2)
-- X6_times times(III)I
def fn_X6_times (v : XS) (x1 : Int32) (x2 : Int32) (x3 : Int32) : Option (Int32 × XS) :=
  (fn_X6_isRegister x1).bind fun q1 =>
  if q1 = 0 then
    some ((-1), v)
  else
    (fn_X6_isMask v x2).bind fun q9 =>
    if q9 = 0 then
      some ((-1), v)
    else
      (fn_X6_isRegister x3).bind fun q16 =>
      if q16 = 0 then
        some ((-1), v)
      else
        (rd (x_regs v) 8 x1).bind fun q31 =>
        (fn_X3_ofMonomial x2).bind fun q33 =>
        (fn_X3_multiplied q31 q33 (x_n v)).bind fun q40 =>
        (fn_X6_put v x3 q40).bind fun q43 =>
        some (q43.1, q43.2)
-- X6_isVariable isVariable(I)Z
def fn_X6_isVariable (v : XS) (x1 : Int32) : Option (Int32) :=
  if x1 < 0 then
    some 0
  else
    if (x_n v) ≤ x1 then
      some 0
    else
      some 1
-- X6_restrict restrict(IIII)I
def fn_X6_restrict_68 (v : XS) (x4 : Int32) (x5 : Int64) : Option (Int32 × XS) :=
  (fn_X6_put v x4 x5).bind fun q73 =>
  some (q73.1, q73.2)
def fn_X6_restrict_36 (v : XS) (x1 : Int32) (x2 : Int32) (x3 : Int32) (x4 : Int32) : Option (Int32 × XS) :=
  (rd (x_regs v) 8 x1).bind fun q41 =>
  (fn_X3_lowerHalf q41 x2).bind fun q43 =>
  if x3 = 1 then
    (rd (x_regs v) 8 x1).bind fun q60 =>
    (fn_X3_upperHalf q60 x2).bind fun q62 =>
    fn_X6_restrict_68 v x4 (q43 ^^^ q62)
  else
    fn_X6_restrict_68 v x4 q43
def fn_X6_restrict (v : XS) (x1 : Int32) (x2 : Int32) (x3 : Int32) (x4 : Int32) : Option (Int32 × XS) :=
  (fn_X6_isRegister x1).bind fun q1 =>
  if q1 = 0 then
    some ((-1), v)
  else
    (fn_X6_isVariable v x2).bind fun q9 =>
    if q9 = 0 then
      some ((-1), v)
    else
      (fn_X6_isRegister x4).bind fun q17 =>
      if q17 = 0 then
        some ((-1), v)
      else
        if x3 = 0 then
          fn_X6_restrict_36 v x1 x2 x3 x4
        else
          if x3 = 1 then
            fn_X6_restrict_36 v x1 x2 x3 x4
          else
            some ((-1), v)
-- X6_substitute substitute(IIII)I
def fn_X6_substitute (v : XS) (x1 : Int32) (x2 : Int32) (x3 : Int32) (x4 : Int32) : Option (Int32 × XS) :=
  (fn_X6_isRegister x1).bind fun q1 =>
  if q1 = 0 then
    some ((-1), v)
  else
    (fn_X6_isVariable v x2).bind fun q9 =>
    if q9 = 0 then
      some ((-1), v)
    else
      (fn_X6_isRegister x3).bind fun q16 =>
      if q16 = 0 then
        some ((-1), v)
      else
        (fn_X6_isRegister x4).bind fun q24 =>
        if q24 = 0 then
          some ((-1), v)
        else
          (rd (x_regs v) 8 x1).bind fun q37 =>
          (fn_X3_upperHalf q37 x2).bind fun q39 =>
          (rd (x_regs v) 8 x1).bind fun q49 =>
          (fn_X3_lowerHalf q49 x2).bind fun q51 =>
          (rd (x_regs v) 8 x3).bind fun q68 =>
          (fn_X3_multiplied q39 q68 (x_n v)).bind fun q73 =>
          (fn_X6_put v x4 (q51 ^^^ q73)).bind fun q77 =>
          some (q77.1, q77.2)
-- X6_derivative derivative(III)I
def fn_X6_derivative (v : XS) (x1 : Int32) (x2 : Int32) (x3 : Int32) : Option (Int32 × XS) :=
  (fn_X6_isRegister x1).bind fun q1 =>
  if q1 = 0 then
    some ((-1), v)
  else
    (fn_X6_isVariable v x2).bind fun q9 =>
    if q9 = 0 then
      some ((-1), v)
    else
      (fn_X6_isRegister x3).bind fun q16 =>
      if q16 = 0 then
        some ((-1), v)
      else
        (rd (x_regs v) 8 x1).bind fun q31 =>
        (fn_X3_upperHalf q31 x2).bind fun q33 =>
        (fn_X6_put v x3 q33).bind fun q36 =>
        some (q36.1, q36.2)
-- X6_flip flip(II)I
def fn_X6_flip (v : XS) (x1 : Int32) (x2 : Int32) : Option (Int32 × XS) :=
  (fn_X6_isRegister x1).bind fun q1 =>
  if q1 = 0 then
    some ((-1), v)
  else
    (fn_X6_isMask v x2).bind fun q9 =>
    if q9 = 0 then
      some ((-1), v)
    else
      (fn_X3_transformed (lsh 1 x2) (x_n v)).bind fun q24 =>
      (rd (x_regs v) 8 x1).bind fun q35 =>
      (fn_X6_put v x1 (q35 ^^^ q24)).bind fun q38 =>
      some (q38.1, q38.2)
-- X6_exchange exchange(III)I
def fn_X6_exchange (v : XS) (x1 : Int32) (x2 : Int32) (x3 : Int32) : Option (Int32 × XS) :=
  (fn_X6_isRegister x1).bind fun q1 =>
  if q1 = 0 then
    some ((-1), v)
  else
    (fn_X6_isVariable v x2).bind fun q9 =>
    if q9 = 0 then
      some ((-1), v)
    else
      (fn_X6_isVariable v x3).bind fun q17 =>
      if q17 = 0 then
        some ((-1), v)
      else
        (rd (x_regs v) 8 x1).bind fun q32 =>
        (fn_X3_exchanged q32 (if x3 < x2 then x3 else x2) (if x2 < x3 then x3 else x2)).bind fun q43 =>
        (fn_X6_put v x1 q43).bind fun q46 =>
        some (q46.1, q46.2)
-- X6_undo undo()I
def fn_X6_undo (v : XS) : Option (Int32 × XS) :=
  (fn_X1_isEmpty v ).bind fun q4 =>
  if q4 = 0 then
    (fn_X1_restore v ).bind fun q21 =>
    some (q21.1, q21.2)
  else
    some ((-2), v)
-- X6_has has(II)I
def fn_X6_has (v : XS) (x1 : Int32) (x2 : Int32) : Option (Int32) :=
  (fn_X6_isRegister x1).bind fun q1 =>
  if q1 = 0 then
    some (-1)
  else
    (fn_X6_isMask v x2).bind fun q9 =>
    if q9 = 0 then
      some (-1)
    else
      (rd (x_regs v) 8 x1).bind fun q22 =>
      (fn_X3_bit q22 x2).bind fun q24 =>
      some q24
-- X6_terms terms(I)I
def fn_X6_terms (v : XS) (x1 : Int32) : Option (Int32) :=
  (fn_X6_isRegister x1).bind fun q1 =>
  if q1 = 0 then
    some (-1)
  else
    (rd (x_regs v) 8 x1).bind fun q14 =>
    (fn_J13_bitCount_95d88 q14).bind fun q15 =>
    some q15
-- X6_degree degree(I)I
def fn_X6_degree (v : XS) (x1 : Int32) : Option (Int32) :=
  (fn_X6_isRegister x1).bind fun q1 =>
  if q1 = 0 then
    some (-1)
  else
    (rd (x_regs v) 8 x1).bind fun q14 =>
    (fn_X2_termOf q14 1 0).bind fun q17 =>
    if 0 ≤ q17 then
      (fn_J6_bitCount_0f7a4 q17).bind fun q31 =>
      some q31
    else
      some (-4)
-- X6_occurring occurring(I)I
def fn_X6_occurring_13_body (v : XS) (k13 : Int32 → Int32 → Int32 → Option (Int32)) (x1 : Int32) (x2 : Int32) (x3 : Int32) : Option (Int32) :=
  if (x_n v) ≤ x3 then
    some x2
  else
    (rd (x_regs v) 8 x1).bind fun q26 =>
    (fn_X3_upperHalf q26 x3).bind fun q28 =>
    if q28 = 0 then
      k13 x1 x2 (x3 + 1)
    else
      k13 x1 (x2 ||| (ish 1 x3)) (x3 + 1)
def fn_X6_occurring_13 (v : XS) : Nat → Int32 → Int32 → Int32 → Option (Int32)
  | 0, _, _, _ => none
  | n + 1, x1, x2, x3 => fn_X6_occurring_13_body v (fn_X6_occurring_13 v n) x1 x2 x3
def fn_X6_occurring (v : XS) (x1 : Int32) : Option (Int32) :=
  (fn_X6_isRegister x1).bind fun q1 =>
  if q1 = 0 then
    some (-1)
  else
    fn_X6_occurring_13 v FU x1 0 0
-- X6_size size(I)I
def fn_X6_size (v : XS) (x1 : Int32) : Option (Int32 × XS) :=
  (fn_X6_isRegister x1).bind fun q1 =>
  if q1 = 0 then
    some ((-1), v)
  else
    (fn_X0_forget v ).bind fun q13 =>
    (rd (x_regs q13) 8 x1).bind fun q25 =>
    (fn_X0_enter q13 q25).bind fun q26 =>
    (fn_X0_closedCount q26 ).bind fun q33 =>
    some (q33.1, q33.2)
-- X6_sharedSize sharedSize()I
def fn_X6_sharedSize_9_body (k9 : XS → Int32 → Option (Int32 × XS)) (v : XS) (x1 : Int32) : Option (Int32 × XS) :=
  if 8 ≤ x1 then
    (fn_X0_closedCount v ).bind fun q38 =>
    some (q38.1, q38.2)
  else
    (rd (x_regs v) 8 x1).bind fun q24 =>
    (fn_X0_enter v q24).bind fun q25 =>
    k9 q25 (x1 + 1)
def fn_X6_sharedSize_9 : Nat → XS → Int32 → Option (Int32 × XS)
  | 0, _, _ => none
  | n + 1, v, x1 => fn_X6_sharedSize_9_body (fn_X6_sharedSize_9 n) v x1
def fn_X6_sharedSize (v : XS) : Option (Int32 × XS) :=
  (fn_X0_forget v ).bind fun q4 =>
  fn_X6_sharedSize_9 FU q4 0
-- X6_isOrder isOrder(I)Z
def fn_X6_isOrder (x0 : Int32) : Option (Int32) :=
  if x0 < 0 then
    some 0
  else
    if 3 ≤ x0 then
      some 0
    else
      some 1
-- X6_termAt termAt(III)I
def fn_X6_termAt (v : XS) (x1 : Int32) (x2 : Int32) (x3 : Int32) : Option (Int32) :=
  (fn_X6_isRegister x1).bind fun q1 =>
  if q1 = 0 then
    some (-1)
  else
    (fn_X6_isOrder x2).bind fun q8 =>
    if q8 = 0 then
      some (-1)
    else
      if 0 ≤ x3 then
        (rd (x_regs v) 8 x1).bind fun q25 =>
        (fn_X2_termOf q25 x2 x3).bind fun q28 =>
        some q28
      else
        some (-1)
-- X6_value value(II)I
def fn_X6_value (v : XS) (x1 : Int32) (x2 : Int32) : Option (Int32) :=
  (fn_X6_isRegister x1).bind fun q1 =>
  if q1 = 0 then
    some (-1)
  else
    (fn_X6_isMask v x2).bind fun q9 =>
    if q9 = 0 then
      some (-1)
    else
      (rd (x_regs v) 8 x1).bind fun q22 =>
      (fn_X3_transformed q22 (x_n v)).bind fun q27 =>
      (fn_X3_bit q27 x2).bind fun q31 =>
      some q31
-- X6_isSame isSame(II)I
def fn_X6_isSame (v : XS) (x1 : Int32) (x2 : Int32) : Option (Int32) :=
  (fn_X6_isRegister x1).bind fun q1 =>
  if q1 = 0 then
    some (-1)
  else
    (fn_X6_isRegister x2).bind fun q8 =>
    if q8 = 0 then
      some (-1)
    else
      (rd (x_regs v) 8 x1).bind fun q21 =>
      (rd (x_regs v) 8 x2).bind fun q27 =>
      if q21 = q27 then
        some 1
      else
        some 0
-- X6_isSet isSet(I)Z
def fn_X6_isSet (x0 : Int32) : Option (Int32) :=
  if x0 < 0 then
    some 0
  else
    if 256 ≤ x0 then
      some 0
    else
      some 1
-- X6_findLeading findLeading(I)V
def fn_X6_findLeading_2_body (k2 : XS → Int32 → Int32 → Option (XS)) (v : XS) (x1 : Int32) (x2 : Int32) : Option (XS) :=
  if 8 ≤ x2 then
    some v
  else
    (rd (x_regs v) 8 x2).bind fun q18 =>
    (fn_X2_termOf q18 x1 0).bind fun q21 =>
    (wrI (x_lead v) 8 x2 q21).bind fun g24 =>
    k2 (xs_lead v g24) x1 (x2 + 1)
def fn_X6_findLeading_2 : Nat → XS → Int32 → Int32 → Option (XS)
  | 0, _, _, _ => none
  | n + 1, v, x1, x2 => fn_X6_findLeading_2_body (fn_X6_findLeading_2 n) v x1 x2
def fn_X6_findLeading (v : XS) (x1 : Int32) : Option (XS) :=
  fn_X6_findLeading_2 FU v x1 0
-- X6_isIn isIn(II)Z
def fn_X6_isIn (x0 : Int32) (x1 : Int32) : Option (Int32) :=
  if ((isr x0 x1) &&& 1) = 1 then
    some 1
  else
    some 0
-- X6_reducerOf reducerOf(II)I
def fn_X6_reducerOf_2_body (v : XS) (k2 : Int32 → Int32 → Int32 → Option (Int32)) (x1 : Int32) (x2 : Int32) (x3 : Int32) : Option (Int32) :=
  if 8 ≤ x3 then
    some (-4)
  else
    (fn_X6_isIn x2 x3).bind fun q10 =>
    if q10 = 0 then
      k2 x1 x2 (x3 + 1)
    else
      (rd (x_lead v) 8 x3).bind fun q21 =>
      if q21 < 0 then
        k2 x1 x2 (x3 + 1)
      else
        (rd (x_lead v) 8 x3).bind fun q30 =>
        if (q30 &&& (x1 ^^^ (-1))) = 0 then
          some x3
        else
          k2 x1 x2 (x3 + 1)
def fn_X6_reducerOf_2 (v : XS) : Nat → Int32 → Int32 → Int32 → Option (Int32)
  | 0, _, _, _ => none
  | n + 1, x1, x2, x3 => fn_X6_reducerOf_2_body v (fn_X6_reducerOf_2 v n) x1 x2 x3
def fn_X6_reducerOf (v : XS) (x1 : Int32) (x2 : Int32) : Option (Int32) :=
  fn_X6_reducerOf_2 v FU x1 x2 0
-- X6_reduce reduce(IIII)I
def fn_X6_reduce_88 (k50 : XS → Int32 → Int32 → Int32 → Int64 → Int32 → Int32 → Option (Int32 × XS)) (v : XS) (x2 : Int32) (x3 : Int32) (x4 : Int32) (x5 : Int64) (x7 : Int32) (x8 : Int32) (x9 : Int32) (y0 : Int32) : Option (Int32 × XS) :=
  (fn_X6_isRegister y0).bind fun q92 =>
  if q92 = 0 then
    k50 v x2 x3 x4 x5 x7 (x8 + 1)
  else
    (rd (x_lead v) 8 y0).bind fun q106 =>
    (rd (x_regs v) 8 y0).bind fun q120 =>
    (fn_X3_ofMonomial (x9 &&& (q106 ^^^ (-1)))).bind fun q123 =>
    (fn_X3_multiplied q120 q123 (x_n v)).bind fun q130 =>
    k50 v x2 x3 x4 (x5 ^^^ q130) (x7 + 1) (x8 + 1)
def fn_X6_reduce_50_body (k50 : XS → Int32 → Int32 → Int32 → Int64 → Int32 → Int32 → Option (Int32 × XS)) (v : XS) (x2 : Int32) (x3 : Int32) (x4 : Int32) (x5 : Int64) (x7 : Int32) (x8 : Int32) : Option (Int32 × XS) :=
  if 64 ≤ x8 then
    (fn_X6_put v x4 x5).bind fun q150 =>
    some (x7, q150.2)
  else
    (fn_X2_monomialAt x3 x8).bind fun q60 =>
    (fn_X3_bit x5 q60).bind fun q69 =>
    if q69 = 1 then
      (fn_X6_reducerOf v q60 x2).bind fun q80 =>
      fn_X6_reduce_88 k50 v x2 x3 x4 x5 x7 x8 q60 q80
    else
      fn_X6_reduce_88 k50 v x2 x3 x4 x5 x7 x8 q60 (-4)
def fn_X6_reduce_50 : Nat → XS → Int32 → Int32 → Int32 → Int64 → Int32 → Int32 → Option (Int32 × XS)
  | 0, _, _, _, _, _, _, _ => none
  | n + 1, v, x2, x3, x4, x5, x7, x8 => fn_X6_reduce_50_body (fn_X6_reduce_50 n) v x2 x3 x4 x5 x7 x8
def fn_X6_reduce (v : XS) (x1 : Int32) (x2 : Int32) (x3 : Int32) (x4 : Int32) : Option (Int32 × XS) :=
  (fn_X6_isRegister x1).bind fun q1 =>
  if q1 = 0 then
    some ((-1), v)
  else
    (fn_X6_isSet x2).bind fun q8 =>
    if q8 = 0 then
      some ((-1), v)
    else
      (fn_X6_isOrder x3).bind fun q15 =>
      if q15 = 0 then
        some ((-1), v)
      else
        (fn_X6_isRegister x4).bind fun q23 =>
        if q23 = 0 then
          some ((-1), v)
        else
          (fn_X6_findLeading v x3).bind fun q33 =>
          (rd (x_regs q33) 8 x1).bind fun q41 =>
          fn_X6_reduce_50 FU q33 x2 x3 x4 q41 0 0
-- X6_nextOf nextOf(II)I
def fn_X6_nextOf_2_body (k2 : Int32 → Int32 → Option (Int32)) (x0 : Int32) (x2 : Int32) : Option (Int32) :=
  if 8 ≤ x2 then
    some x2
  else
    (fn_X6_isIn x0 x2).bind fun q10 =>
    if q10 = 0 then
      k2 x0 (x2 + 1)
    else
      some x2
def fn_X6_nextOf_2 : Nat → Int32 → Int32 → Option (Int32)
  | 0, _, _ => none
  | n + 1, x0, x2 => fn_X6_nextOf_2_body (fn_X6_nextOf_2 n) x0 x2
def fn_X6_nextOf (x0 : Int32) (x1 : Int32) : Option (Int32) :=
  fn_X6_nextOf_2 FU x0 x1
-- X6_bringUp bringUp(III)Z
def fn_X6_bringUp_12_body (k12 : XS → Int32 → Int32 → Int32 → Int32 → Option (Int32 × XS)) (v : XS) (x1 : Int32) (x2 : Int32) (x3 : Int32) (x4 : Int32) : Option (Int32 × XS) :=
  if 8 ≤ x4 then
    some (0, v)
  else
    (fn_X6_isIn x1 x4).bind fun q22 =>
    if q22 = 0 then
      k12 v x1 x2 x3 (x4 + 1)
    else
      (rd (x_regs v) 8 x4).bind fun q34 =>
      (fn_X3_bit q34 x3).bind fun q36 =>
      if q36 = 1 then
        (rd (x_regs v) 8 x4).bind fun q49 =>
        (rd (x_regs v) 8 x2).bind fun q63 =>
        (wrL (x_regs v) 8 x4 q63).bind fun g64 =>
        (wrL g64 8 x2 q49).bind fun g72 =>
        some (1, (xs_regs v g72))
      else
        k12 v x1 x2 x3 (x4 + 1)
def fn_X6_bringUp_12 : Nat → XS → Int32 → Int32 → Int32 → Int32 → Option (Int32 × XS)
  | 0, _, _, _, _, _ => none
  | n + 1, v, x1, x2, x3, x4 => fn_X6_bringUp_12_body (fn_X6_bringUp_12 n) v x1 x2 x3 x4
def fn_X6_bringUp (v : XS) (x1 : Int32) (x2 : Int32) (x3 : Int32) : Option (Int32 × XS) :=
  (fn_X6_isRegister x2).bind fun q1 =>
  if q1 = 0 then
    some (0, v)
  else
    fn_X6_bringUp_12 FU v x1 x2 x3 x2
-- X6_clearElsewhere clearElsewhere(III)V
def fn_X6_clearElsewhere_11_body (k11 : XS → Int32 → Int32 → Int32 → Int32 → Option (XS)) (v : XS) (x1 : Int32) (x2 : Int32) (x3 : Int32) (x4 : Int32) : Option (XS) :=
  if 8 ≤ x4 then
    some v
  else
    if x4 = x2 then
      k11 v x1 x2 x3 (x4 + 1)
    else
      (fn_X6_isIn x1 x4).bind fun q27 =>
      if q27 = 0 then
        k11 v x1 x2 x3 (x4 + 1)
      else
        (rd (x_regs v) 8 x4).bind fun q39 =>
        (fn_X3_bit q39 x3).bind fun q41 =>
        if q41 = 1 then
          (rd (x_regs v) 8 x4).bind fun q55 =>
          (rd (x_regs v) 8 x2).bind fun q61 =>
          (wrL (x_regs v) 8 x4 (q55 ^^^ q61)).bind fun g63 =>
          k11 (xs_regs v g63) x1 x2 x3 (x4 + 1)
        else
          k11 v x1 x2 x3 (x4 + 1)
def fn_X6_clearElsewhere_11 : Nat → XS → Int32 → Int32 → Int32 → Int32 → Option (XS)
  | 0, _, _, _, _, _ => none
  | n + 1, v, x1, x2, x3, x4 => fn_X6_clearElsewhere_11_body (fn_X6_clearElsewhere_11 n) v x1 x2 x3 x4
def fn_X6_clearElsewhere (v : XS) (x1 : Int32) (x2 : Int32) (x3 : Int32) : Option (XS) :=
  (fn_X6_isRegister x2).bind fun q1 =>
  if q1 = 0 then
    some v
  else
    fn_X6_clearElsewhere_11 FU v x1 x2 x3 0
-- X6_echelon echelon(II)I
def fn_X6_echelon_39_body (k39 : XS → Int32 → Int32 → Int32 → Int32 → Int32 → Option (Int32 × XS)) (v : XS) (x1 : Int32) (x2 : Int32) (x3 : Int32) (x4 : Int32) (x5 : Int32) : Option (Int32 × XS) :=
  if 64 ≤ x5 then
    some (x4, v)
  else
    if 8 ≤ x3 then
      some (x4, v)
    else
      (fn_X2_monomialAt x2 x5).bind fun q55 =>
      (fn_X6_bringUp v x1 x3 q55).bind fun q65 =>
      if q65.1 = 0 then
        k39 q65.2 x1 x2 x3 x4 (x5 + 1)
      else
        (fn_X6_clearElsewhere q65.2 x1 x3 q55).bind fun q76 =>
        (fn_X6_nextOf x1 (x3 + 1)).bind fun q83 =>
        k39 q76 x1 x2 q83 (x4 + 1) (x5 + 1)
def fn_X6_echelon_39 : Nat → XS → Int32 → Int32 → Int32 → Int32 → Int32 → Option (Int32 × XS)
  | 0, _, _, _, _, _, _ => none
  | n + 1, v, x1, x2, x3, x4, x5 => fn_X6_echelon_39_body (fn_X6_echelon_39 n) v x1 x2 x3 x4 x5
def fn_X6_echelon (v : XS) (x1 : Int32) (x2 : Int32) : Option (Int32 × XS) :=
  (fn_X6_isSet x1).bind fun q1 =>
  if q1 = 0 then
    some ((-1), v)
  else
    (fn_X6_isOrder x2).bind fun q8 =>
    if q8 = 0 then
      some ((-1), v)
    else
      (fn_X1_keep v ).bind fun q24 =>
      (fn_X6_nextOf x1 0).bind fun q29 =>
      fn_X6_echelon_39 FU q24 x1 x2 q29 0 0
-- X6_allPoints allPoints()J
def fn_X6_allPoints (v : XS) : Option (Int64) :=
  if (x_n v) < 6 then
    some ((lsh 1 (ish 1 (x_n v))) - 1)
  else
    some (-1)
-- X6_nonZeros nonZeros(I)J
def fn_X6_nonZeros_5_body (v : XS) (k5 : Int32 → Int64 → Int32 → Option (Int64)) (x1 : Int32) (x2 : Int64) (x4 : Int32) : Option (Int64) :=
  if 8 ≤ x4 then
    some x2
  else
    (fn_X6_isIn x1 x4).bind fun q15 =>
    if q15 = 0 then
      k5 x1 x2 (x4 + 1)
    else
      (rd (x_regs v) 8 x4).bind fun q28 =>
      (fn_X3_transformed q28 (x_n v)).bind fun q33 =>
      k5 x1 (x2 ||| q33) (x4 + 1)
def fn_X6_nonZeros_5 (v : XS) : Nat → Int32 → Int64 → Int32 → Option (Int64)
  | 0, _, _, _ => none
  | n + 1, x1, x2, x4 => fn_X6_nonZeros_5_body v (fn_X6_nonZeros_5 v n) x1 x2 x4
def fn_X6_nonZeros (v : XS) (x1 : Int32) : Option (Int64) :=
  fn_X6_nonZeros_5 v FU x1 0 0
-- X6_commonZeros commonZeros(I)J
def fn_X6_commonZeros (v : XS) (x1 : Int32) : Option (Int64) :=
  (fn_X6_allPoints v ).bind fun q1 =>
  (fn_X6_nonZeros v x1).bind fun q6 =>
  some (q1 &&& (q6 ^^^ (-1)))
-- X6_zeros zeros(I)I
def fn_X6_zeros (v : XS) (x1 : Int32) : Option (Int32) :=
  (fn_X6_isSet x1).bind fun q1 =>
  if q1 = 0 then
    some (-1)
  else
    (fn_X6_commonZeros v x1).bind fun q11 =>
    (fn_J13_bitCount_95d88 q11).bind fun q14 =>
    some q14
-- X6_zeroAt zeroAt(II)I
def fn_X6_zeroAt_25_body (v : XS) (k25 : Int64 → Int32 → Int32 → Option (Int32)) (x3 : Int64) (x5 : Int32) (x6 : Int32) : Option (Int32) :=
  if 64 ≤ x6 then
    some (-4)
  else
    (fn_X3_bit x3 x6).bind fun q35 =>
    if q35 = 1 then
      if x5 = 0 then
        some x6
      else
        k25 x3 (x5 + (-1)) (x6 + 1)
    else
      k25 x3 x5 (x6 + 1)
def fn_X6_zeroAt_25 (v : XS) : Nat → Int64 → Int32 → Int32 → Option (Int32)
  | 0, _, _, _ => none
  | n + 1, x3, x5, x6 => fn_X6_zeroAt_25_body v (fn_X6_zeroAt_25 v n) x3 x5 x6
def fn_X6_zeroAt (v : XS) (x1 : Int32) (x2 : Int32) : Option (Int32) :=
  (fn_X6_isSet x1).bind fun q1 =>
  if q1 = 0 then
    some (-1)
  else
    if 0 ≤ x2 then
      (fn_X6_commonZeros v x1).bind fun q15 =>
      fn_X6_zeroAt_25 v FU q15 x2 0
    else
      some (-1)
-- X6_combine combine(II)I
def fn_X6_combine (v : XS) (x1 : Int32) (x2 : Int32) : Option (Int32 × XS) :=
  (fn_X6_isSet x1).bind fun q1 =>
  if q1 = 0 then
    some ((-1), v)
  else
    (fn_X6_isRegister x2).bind fun q8 =>
    if q8 = 0 then
      some ((-1), v)
    else
      (fn_X6_nonZeros v x1).bind fun q20 =>
      (fn_X3_transformed q20 (x_n v)).bind fun q27 =>
      (fn_X6_put v x2 q27).bind fun q30 =>
      some (q30.1, q30.2)
-- X6_eliminate eliminate(III)I
def fn_X6_eliminate (v : XS) (x1 : Int32) (x2 : Int32) (x3 : Int32) : Option (Int32 × XS) :=
  (fn_X6_isSet x1).bind fun q1 =>
  if q1 = 0 then
    some ((-1), v)
  else
    (fn_X6_isVariable v x2).bind fun q9 =>
    if q9 = 0 then
      some ((-1), v)
    else
      (fn_X6_isRegister x3).bind fun q16 =>
      if q16 = 0 then
        some ((-1), v)
      else
        (fn_X6_nonZeros v x1).bind fun q26 =>
        (fn_X3_lowerHalf q26 x2).bind fun q34 =>
        (fn_X3_upperHalf q26 x2).bind fun q40 =>
        (fn_X3_raised (q34 &&& q40) x2).bind fun q51 =>
        (fn_X3_transformed ((q34 &&& q40) ||| q51) (x_n v)).bind fun q65 =>
        (fn_X6_put v x3 q65).bind fun q68 =>
        some (q68.1, q68.2)
-- X6_fibres fibres(III)I
def fn_X6_fibres (v : XS) (x1 : Int32) (x2 : Int32) (x3 : Int32) : Option (Int32) :=
  (fn_X6_isSet x1).bind fun q1 =>
  if q1 = 0 then
    some (-1)
  else
    (fn_X6_isVariable v x2).bind fun q9 =>
    if q9 = 0 then
      some (-1)
    else
      if x3 < 0 then
        some (-1)
      else
        if x3 ≤ 2 then
          (fn_X6_commonZeros v x1).bind fun q28 =>
          (fn_X3_lowerHalf q28 x2).bind fun q36 =>
          (fn_X3_upperHalf q28 x2).bind fun q44 =>
          if x3 = 2 then
            (fn_J13_bitCount_95d88 (q36 &&& q44)).bind fun q59 =>
            some q59
          else
            if x3 = 1 then
              (fn_J13_bitCount_95d88 (q36 ^^^ q44)).bind fun q73 =>
              some q73
            else
              (fn_X6_allPoints v ).bind fun q78 =>
              (fn_X3_lowerHalf q78 x2).bind fun q82 =>
              (fn_J13_bitCount_95d88 (q82 &&& ((q36 ||| q44) ^^^ (-1)))).bind fun q95 =>
              some q95
        else
          some (-1)
-- X6_isMember isMember(II)I
def fn_X6_isMember (v : XS) (x1 : Int32) (x2 : Int32) : Option (Int32) :=
  (fn_X6_isRegister x1).bind fun q1 =>
  if q1 = 0 then
    some (-1)
  else
    (fn_X6_isSet x2).bind fun q8 =>
    if q8 = 0 then
      some (-1)
    else
      (rd (x_regs v) 8 x1).bind fun q21 =>
      (fn_X3_transformed q21 (x_n v)).bind fun q26 =>
      (fn_X6_commonZeros v x2).bind fun q33 =>
      if (q26 &&& q33) = 0 then
        some 1
      else
        some 0
-- X6_isSameIdeal isSameIdeal(II)I
def fn_X6_isSameIdeal (v : XS) (x1 : Int32) (x2 : Int32) : Option (Int32) :=
  (fn_X6_isSet x1).bind fun q1 =>
  if q1 = 0 then
    some (-1)
  else
    (fn_X6_isSet x2).bind fun q8 =>
    if q8 = 0 then
      some (-1)
    else
      (fn_X6_nonZeros v x1).bind fun q18 =>
      (fn_X6_nonZeros v x2).bind fun q23 =>
      if q18 = q23 then
        some 1
      else
        some 0
-- X6_fixedVariables fixedVariables(I)I
def fn_X6_fixedVariables_30_body (v : XS) (k30 : Int64 → Int32 → Int32 → Option (Int32)) (x2 : Int64) (x4 : Int32) (x5 : Int32) : Option (Int32) :=
  if (x_n v) ≤ x5 then
    some x4
  else
    (fn_X3_lowerHalf x2 x5).bind fun q42 =>
    if q42 = 0 then
      k30 x2 (x4 + 1) (x5 + 1)
    else
      (fn_X3_upperHalf x2 x5).bind fun q53 =>
      if q53 = 0 then
        k30 x2 (x4 + 1) (x5 + 1)
      else
        k30 x2 x4 (x5 + 1)
def fn_X6_fixedVariables_30 (v : XS) : Nat → Int64 → Int32 → Int32 → Option (Int32)
  | 0, _, _, _ => none
  | n + 1, x2, x4, x5 => fn_X6_fixedVariables_30_body v (fn_X6_fixedVariables_30 v n) x2 x4 x5
def fn_X6_fixedVariables (v : XS) (x1 : Int32) : Option (Int32) :=
  (fn_X6_isSet x1).bind fun q1 =>
  if q1 = 0 then
    some (-1)
  else
    (fn_X6_commonZeros v x1).bind fun q11 =>
    if q11 = 0 then
      some (-4)
    else
      fn_X6_fixedVariables_30 v FU q11 0 0
-- X6_type type(I)I
def fn_X6_type (v : XS) (x1 : Int32) : Option (Int32 × XS) :=
  if x1 < 32 then
    some ((-1), v)
  else
    if x1 ≤ 126 then
      (fn_X5_append v (tch x1)).bind fun q20 =>
      some (q20.1, q20.2)
    else
      some ((-1), v)
-- X6_clearText clearText()I
def fn_X6_clearText (v : XS) : Option (Int32 × XS) :=
  (fn_X5_empty v ).bind fun q4 =>
  some (q4.1, q4.2)
-- X6_fault fault()I
def fn_X6_fault (v : XS) : Option (Int32) :=
  (fn_X5_firstFault v (x_n v)).bind fun q8 =>
  some q8
-- X6_read read(I)I
def fn_X6_read (v : XS) (x1 : Int32) : Option (Int32 × XS) :=
  (fn_X6_isRegister x1).bind fun q1 =>
  if q1 = 0 then
    some ((-1), v)
  else
    (fn_X5_firstFault v (x_n v)).bind fun q17 =>
    if q17 = (-4) then
      (fn_X5_polynomial v ).bind fun q34 =>
      (fn_X6_put v x1 q34).bind fun q37 =>
      some (q37.1, q37.2)
    else
      some ((-2), v)
-- X6_textLength textLength(I)I
def fn_X6_textLength (v : XS) (x1 : Int32) : Option (Int32) :=
  (fn_X6_isRegister x1).bind fun q1 =>
  if q1 = 0 then
    some (-1)
  else
    (rd (x_regs v) 8 x1).bind fun q14 =>
    (fn_X4_lengthOf q14).bind fun q15 =>
    some q15
-- X6_textAt textAt(II)I
def fn_X6_textAt (v : XS) (x1 : Int32) (x2 : Int32) : Option (Int32) :=
  (fn_X6_isRegister x1).bind fun q1 =>
  if q1 = 0 then
    some (-1)
  else
    if 0 ≤ x2 then
      (rd (x_regs v) 8 x1).bind fun q18 =>
      (fn_X4_characterOf q18 x2).bind fun q20 =>
      some q20
    else
      some (-1)
-- X7_in in(III)Z
def fn_X7_in (x0 : Int32) (x1 : Int32) (x2 : Int32) : Option (Int32) :=
  if x0 < x1 then
    some 0
  else
    if x2 < x0 then
      some 0
    else
      some 1
-- X7_isRegister isRegister(I)Z
def fn_X7_isRegister (x0 : Int32) : Option (Int32) :=
  (fn_X7_in x0 0 7).bind fun q4 =>
  (zb q4).bind fun z7 =>
  some z7
-- X7_isVariable isVariable(I)Z
def fn_X7_isVariable (v : YS) (x1 : Int32) : Option (Int32) :=
  (fn_X7_in x1 0 ((y_n v) - 1)).bind fun q8 =>
  (zb q8).bind fun z11 =>
  some z11
-- X7_isMask isMask(I)Z
def fn_X7_isMask (v : YS) (x1 : Int32) : Option (Int32) :=
  (fn_X7_in x1 0 ((ish 1 (y_n v)) - 1)).bind fun q10 =>
  (zb q10).bind fun z13 =>
  some z13
-- X7_isOrder isOrder(I)Z
def fn_X7_isOrder (x0 : Int32) : Option (Int32) :=
  (fn_X7_in x0 0 2).bind fun q3 =>
  (zb q3).bind fun z6 =>
  some z6
-- X7_isSet isSet(I)Z
def fn_X7_isSet (x0 : Int32) : Option (Int32) :=
  (fn_X7_in x0 0 255).bind fun q5 =>
  (zb q5).bind fun z8 =>
  some z8
-- X7_has1 has1(JI)Z
def fn_X7_has1 (x0 : Int64) (x2 : Int32) : Option (Int32) :=
  if ((lsr x0 x2) &&& 1) = 1 then
    some 1
  else
    some 0
-- X7_many many(J)I
def fn_X7_many_4_body (k4 : Int32 → Int64 → Option (Int32)) (x2 : Int32) (x3 : Int64) : Option (Int32) :=
  if x3 = 0 then
    some x2
  else
    k4 (x2 + 1) (x3 &&& (x3 - 1))
def fn_X7_many_4 : Nat → Int32 → Int64 → Option (Int32)
  | 0, _, _ => none
  | n + 1, x2, x3 => fn_X7_many_4_body (fn_X7_many_4 n) x2 x3
def fn_X7_many (x0 : Int64) : Option (Int32) :=
  fn_X7_many_4 FU 0 x0
-- X7_records records()V
def fn_X7_records_50_body (k50 : YS → Int32 → Option (YS)) (v : YS) (x1 : Int32) : Option (YS) :=
  if 8 ≤ x1 then
    some (ys_states v ((y_states v) + 1))
  else
    (rd (y_p v) 8 x1).bind fun q74 =>
    (wrL (y_was v) 48 ((8 * (y_states v)) + x1) q74).bind fun g75 =>
    k50 (ys_was v g75) (x1 + 1)
def fn_X7_records_50 : Nat → YS → Int32 → Option (YS)
  | 0, _, _ => none
  | n + 1, v, x1 => fn_X7_records_50_body (fn_X7_records_50 n) v x1
def fn_X7_records_48 (v : YS) : Option (YS) :=
  fn_X7_records_50 FU v 0
def fn_X7_records_11_body (k11 : YS → Int32 → Option (YS)) (v : YS) (x1 : Int32) : Option (YS) :=
  if 40 ≤ x1 then
    fn_X7_records_48 (ys_states v ((y_states v) - 1)) 
  else
    (rd (y_was v) 48 (x1 + 8)).bind fun q30 =>
    (wrL (y_was v) 48 x1 q30).bind fun g31 =>
    k11 (ys_was v g31) (x1 + 1)
def fn_X7_records_11 : Nat → YS → Int32 → Option (YS)
  | 0, _, _ => none
  | n + 1, v, x1 => fn_X7_records_11_body (fn_X7_records_11 n) v x1
def fn_X7_records (v : YS) : Option (YS) :=
  if (y_states v) = 6 then
    fn_X7_records_11 FU v 0
  else
    fn_X7_records_48 v 
-- X7_gets gets(IJ)I
def fn_X7_gets (v : YS) (x1 : Int32) (x2 : Int64) : Option (Int32 × YS) :=
  (fn_X7_records v ).bind fun q1 =>
  (wrL (y_p q1) 8 x1 x2).bind fun g10 =>
  (fn_X7_many x2).bind fun q12 =>
  some (q12, (ys_p q1 g10))
-- X7_product1 product1(JJ)J
def fn_X7_product1_62 (v : YS) (k20 : Int64 → Int64 → Int64 → Int32 → Int32 → Option (Int64)) (x1 : Int64) (x3 : Int64) (x7 : Int32) (x8 : Int32) (y0 : Int64) (y1 : Int64) : Option (Int64) :=
  k20 x1 x3 (y1 ^^^ y0) x7 (x8 + 1)
def fn_X7_product1_20_body (v : YS) (k6 : Int64 → Int64 → Int64 → Int32 → Option (Int64)) (k20 : Int64 → Int64 → Int64 → Int32 → Int32 → Option (Int64)) (x1 : Int64) (x3 : Int64) (x5 : Int64) (x7 : Int32) (x8 : Int32) : Option (Int64) :=
  if (ish 1 (y_n v)) ≤ x8 then
    k6 x1 x3 x5 (x7 + 1)
  else
    (fn_X7_has1 x1 x7).bind fun q34 =>
    if q34 = 0 then
      k6 x1 x3 x5 (x7 + 1)
    else
      (fn_X7_has1 x3 x8).bind fun q45 =>
      if q45 = 0 then
        fn_X7_product1_62 v k20 x1 x3 x7 x8 0 x5
      else
        fn_X7_product1_62 v k20 x1 x3 x7 x8 (lsh 1 (x7 ||| x8)) x5
def fn_X7_product1_20 (v : YS) (k6 : Int64 → Int64 → Int64 → Int32 → Option (Int64)) : Nat → Int64 → Int64 → Int64 → Int32 → Int32 → Option (Int64)
  | 0, _, _, _, _, _ => none
  | n + 1, x1, x3, x5, x7, x8 => fn_X7_product1_20_body v k6 (fn_X7_product1_20 v k6 n) x1 x3 x5 x7 x8
def fn_X7_product1_6_body (v : YS) (k6 : Int64 → Int64 → Int64 → Int32 → Option (Int64)) (x1 : Int64) (x3 : Int64) (x5 : Int64) (x7 : Int32) : Option (Int64) :=
  if (ish 1 (y_n v)) ≤ x7 then
    some x5
  else
    fn_X7_product1_20 v k6 FU x1 x3 x5 x7 0
def fn_X7_product1_6 (v : YS) : Nat → Int64 → Int64 → Int64 → Int32 → Option (Int64)
  | 0, _, _, _, _ => none
  | n + 1, x1, x3, x5, x7 => fn_X7_product1_6_body v (fn_X7_product1_6 v n) x1 x3 x5 x7
def fn_X7_product1 (v : YS) (x1 : Int64) (x3 : Int64) : Option (Int64) :=
  fn_X7_product1_6 v FU x1 x3 0 0
-- X7_upper upper(JI)J
def fn_X7_upper_50 (v : YS) (k6 : Int64 → Int32 → Int64 → Int32 → Option (Int64)) (x1 : Int64) (x3 : Int32) (x6 : Int32) (y0 : Int64) (y1 : Int64) : Option (Int64) :=
  k6 x1 x3 (y1 ||| y0) (x6 + 1)
def fn_X7_upper_49 (v : YS) (k6 : Int64 → Int32 → Int64 → Int32 → Option (Int64)) (x1 : Int64) (x3 : Int32) (x6 : Int32) (y0 : Int64) : Option (Int64) :=
  fn_X7_upper_50 v k6 x1 x3 x6 0 y0
def fn_X7_upper_6_body (v : YS) (k6 : Int64 → Int32 → Int64 → Int32 → Option (Int64)) (x1 : Int64) (x3 : Int32) (x4 : Int64) (x6 : Int32) : Option (Int64) :=
  if (ish 1 (y_n v)) ≤ x6 then
    some x4
  else
    (fn_X7_has1 x1 x6).bind fun q22 =>
    if q22 = 0 then
      fn_X7_upper_49 v k6 x1 x3 x6 x4
    else
      if ((isr x6 x3) &&& 1) = 1 then
        fn_X7_upper_50 v k6 x1 x3 x6 (lsh 1 (x6 - (ish 1 x3))) x4
      else
        fn_X7_upper_49 v k6 x1 x3 x6 x4
def fn_X7_upper_6 (v : YS) : Nat → Int64 → Int32 → Int64 → Int32 → Option (Int64)
  | 0, _, _, _, _ => none
  | n + 1, x1, x3, x4, x6 => fn_X7_upper_6_body v (fn_X7_upper_6 v n) x1 x3 x4 x6
def fn_X7_upper (v : YS) (x1 : Int64) (x3 : Int32) : Option (Int64) :=
  fn_X7_upper_6 v FU x1 x3 0 0
-- X7_lower lower(JI)J
def fn_X7_lower_45 (v : YS) (k6 : Int64 → Int32 → Int64 → Int32 → Option (Int64)) (x1 : Int64) (x3 : Int32) (x6 : Int32) (y0 : Int64) (y1 : Int64) : Option (Int64) :=
  k6 x1 x3 (y1 ||| y0) (x6 + 1)
def fn_X7_lower_44 (v : YS) (k6 : Int64 → Int32 → Int64 → Int32 → Option (Int64)) (x1 : Int64) (x3 : Int32) (x6 : Int32) (y0 : Int64) : Option (Int64) :=
  fn_X7_lower_45 v k6 x1 x3 x6 0 y0
def fn_X7_lower_6_body (v : YS) (k6 : Int64 → Int32 → Int64 → Int32 → Option (Int64)) (x1 : Int64) (x3 : Int32) (x4 : Int64) (x6 : Int32) : Option (Int64) :=
  if (ish 1 (y_n v)) ≤ x6 then
    some x4
  else
    (fn_X7_has1 x1 x6).bind fun q22 =>
    if q22 = 0 then
      fn_X7_lower_44 v k6 x1 x3 x6 x4
    else
      if ((isr x6 x3) &&& 1) = 0 then
        fn_X7_lower_45 v k6 x1 x3 x6 (lsh 1 x6) x4
      else
        fn_X7_lower_44 v k6 x1 x3 x6 x4
def fn_X7_lower_6 (v : YS) : Nat → Int64 → Int32 → Int64 → Int32 → Option (Int64)
  | 0, _, _, _, _ => none
  | n + 1, x1, x3, x4, x6 => fn_X7_lower_6_body v (fn_X7_lower_6 v n) x1 x3 x4 x6
def fn_X7_lower (v : YS) (x1 : Int64) (x3 : Int32) : Option (Int64) :=
  fn_X7_lower_6 v FU x1 x3 0 0
-- X7_values values(J)J
def fn_X7_values_17_body (v : YS) (k5 : Int64 → Int32 → Option (Int64)) (k17 : Int64 → Int32 → Int32 → Option (Int64)) (x3 : Int64) (x5 : Int32) (x6 : Int32) : Option (Int64) :=
  if (ish 1 (y_n v)) ≤ x6 then
    k5 x3 (x5 + 1)
  else
    if ((isr x6 x5) &&& 1) = 1 then
      (fn_X7_has1 x3 (x6 - (ish 1 x5))).bind fun q47 =>
      if q47 = 0 then
        k17 x3 x5 (x6 + 1)
      else
        k17 (x3 ^^^ (lsh 1 x6)) x5 (x6 + 1)
    else
      k17 x3 x5 (x6 + 1)
def fn_X7_values_17 (v : YS) (k5 : Int64 → Int32 → Option (Int64)) : Nat → Int64 → Int32 → Int32 → Option (Int64)
  | 0, _, _, _ => none
  | n + 1, x3, x5, x6 => fn_X7_values_17_body v k5 (fn_X7_values_17 v k5 n) x3 x5 x6
def fn_X7_values_5_body (v : YS) (k5 : Int64 → Int32 → Option (Int64)) (x3 : Int64) (x5 : Int32) : Option (Int64) :=
  if (y_n v) ≤ x5 then
    some x3
  else
    fn_X7_values_17 v k5 FU x3 x5 0
def fn_X7_values_5 (v : YS) : Nat → Int64 → Int32 → Option (Int64)
  | 0, _, _ => none
  | n + 1, x3, x5 => fn_X7_values_5_body v (fn_X7_values_5 v n) x3 x5
def fn_X7_values (v : YS) (x1 : Int64) : Option (Int64) :=
  fn_X7_values_5 v FU x1 0
-- X7_occurs occurs(J)I
def fn_X7_occurs_32 (v : YS) (k5 : Int64 → Int32 → Int32 → Option (Int32)) (x1 : Int64) (x4 : Int32) (y0 : Int32) (y1 : Int32) : Option (Int32) :=
  k5 x1 (y1 ||| y0) (x4 + 1)
def fn_X7_occurs_5_body (v : YS) (k5 : Int64 → Int32 → Int32 → Option (Int32)) (x1 : Int64) (x3 : Int32) (x4 : Int32) : Option (Int32) :=
  if (ish 1 (y_n v)) ≤ x4 then
    some x3
  else
    (fn_X7_has1 x1 x4).bind fun q20 =>
    if q20 = 0 then
      fn_X7_occurs_32 v k5 x1 x4 0 x3
    else
      fn_X7_occurs_32 v k5 x1 x4 x4 x3
def fn_X7_occurs_5 (v : YS) : Nat → Int64 → Int32 → Int32 → Option (Int32)
  | 0, _, _, _ => none
  | n + 1, x1, x3, x4 => fn_X7_occurs_5_body v (fn_X7_occurs_5 v n) x1 x3 x4
def fn_X7_occurs (v : YS) (x1 : Int64) : Option (Int32) :=
  fn_X7_occurs_5 v FU x1 0 0
-- X7_reset reset(I)I
def fn_X7_reset_29_body (k29 : YS → Int32 → Int32 → Option (Int32 × YS)) (v : YS) (x2 : Int32) (x3 : Int32) : Option (Int32 × YS) :=
  if 8 ≤ x3 then
    some (x2, v)
  else
    (wrL (y_p v) 8 x3 0).bind fun g41 =>
    k29 (ys_p v g41) x2 (x3 + 1)
def fn_X7_reset_29 : Nat → YS → Int32 → Int32 → Option (Int32 × YS)
  | 0, _, _, _ => none
  | n + 1, v, x2, x3 => fn_X7_reset_29_body (fn_X7_reset_29 n) v x2 x3
def fn_X7_reset (v : YS) (x1 : Int32) : Option (Int32 × YS) :=
  (fn_X7_in x1 1 6).bind fun q4 =>
  if q4 = 0 then
    some ((-1), v)
  else
    fn_X7_reset_29 FU (ys_states (ys_n v x1) 0) (y_n v) 0
-- X7_variables variables()I
def fn_X7_variables (v : YS) : Option (Int32) :=
  some (y_n v)
-- X7_toggle toggle(II)I
def fn_X7_toggle (v : YS) (x1 : Int32) (x2 : Int32) : Option (Int32 × YS) :=
  (fn_X7_isRegister x1).bind fun q1 =>
  if q1 = 0 then
    some ((-1), v)
  else
    (fn_X7_isMask v x2).bind fun q9 =>
    if q9 = 0 then
      some ((-1), v)
    else
      (rd (y_p v) 8 x1).bind fun q22 =>
      (fn_X7_gets v x1 (q22 ^^^ (lsh 1 x2))).bind fun q27 =>
      some (q27.1, q27.2)
-- X7_copy copy(II)I
def fn_X7_copy (v : YS) (x1 : Int32) (x2 : Int32) : Option (Int32 × YS) :=
  (fn_X7_isRegister x1).bind fun q1 =>
  if q1 = 0 then
    some ((-1), v)
  else
    (fn_X7_isRegister x2).bind fun q8 =>
    if q8 = 0 then
      some ((-1), v)
    else
      (rd (y_p v) 8 x1).bind fun q21 =>
      (fn_X7_gets v x2 q21).bind fun q22 =>
      some (q22.1, q22.2)
-- X7_sum sum(III)I
def fn_X7_sum (v : YS) (x1 : Int32) (x2 : Int32) (x3 : Int32) : Option (Int32 × YS) :=
  (fn_X7_isRegister x1).bind fun q1 =>
  if q1 = 0 then
    some ((-1), v)
  else
    (fn_X7_isRegister x2).bind fun q8 =>
    if q8 = 0 then
      some ((-1), v)
    else
      (fn_X7_isRegister x3).bind fun q15 =>
      if q15 = 0 then
        some ((-1), v)
      else
        (rd (y_p v) 8 x1).bind fun q28 =>
        (rd (y_p v) 8 x2).bind fun q34 =>
        (fn_X7_gets v x3 (q28 ^^^ q34)).bind fun q36 =>
        some (q36.1, q36.2)
-- X7_product product(III)I
def fn_X7_product (v : YS) (x1 : Int32) (x2 : Int32) (x3 : Int32) : Option (Int32 × YS) :=
  (fn_X7_isRegister x1).bind fun q1 =>
  if q1 = 0 then
    some ((-1), v)
  else
    (fn_X7_isRegister x2).bind fun q8 =>
    if q8 = 0 then
      some ((-1), v)
    else
      (fn_X7_isRegister x3).bind fun q15 =>
      if q15 = 0 then
        some ((-1), v)
      else
        (rd (y_p v) 8 x1).bind fun q29 =>
        (rd (y_p v) 8 x2).bind fun q35 =>
        (fn_X7_product1 v q29 q35).bind fun q36 =>
        (fn_X7_gets v x3 q36).bind fun q39 =>
        some (q39.1, q39.2)
-- X7_times times(III)I
def fn_X7_times (v : YS) (x1 : Int32) (x2 : Int32) (x3 : Int32) : Option (Int32 × YS) :=
  (fn_X7_isRegister x1).bind fun q1 =>
  if q1 = 0 then
    some ((-1), v)
  else
    (fn_X7_isMask v x2).bind fun q9 =>
    if q9 = 0 then
      some ((-1), v)
    else
      (fn_X7_isRegister x3).bind fun q16 =>
      if q16 = 0 then
        some ((-1), v)
      else
        (rd (y_p v) 8 x1).bind fun q30 =>
        (fn_X7_product1 v q30 (lsh 1 x2)).bind fun q34 =>
        (fn_X7_gets v x3 q34).bind fun q37 =>
        some (q37.1, q37.2)
-- X7_restrict restrict(IIII)I
def fn_X7_restrict_68 (v : YS) (y0 : Int64) (y1 : Int64) (y2 : Int32) : Option (Int32 × YS) :=
  (fn_X7_gets v y2 (y1 ^^^ y0)).bind fun q69 =>
  some (q69.1, q69.2)
def fn_X7_restrict (v : YS) (x1 : Int32) (x2 : Int32) (x3 : Int32) (x4 : Int32) : Option (Int32 × YS) :=
  (fn_X7_isRegister x1).bind fun q1 =>
  if q1 = 0 then
    some ((-1), v)
  else
    (fn_X7_isVariable v x2).bind fun q9 =>
    if q9 = 0 then
      some ((-1), v)
    else
      (fn_X7_in x3 0 1).bind fun q18 =>
      if q18 = 0 then
        some ((-1), v)
      else
        (fn_X7_isRegister x4).bind fun q26 =>
        if q26 = 0 then
          some ((-1), v)
        else
          (rd (y_p v) 8 x1).bind fun q43 =>
          (fn_X7_lower v q43 x2).bind fun q45 =>
          if x3 = 1 then
            (rd (y_p v) 8 x1).bind fun q59 =>
            (fn_X7_upper v q59 x2).bind fun q61 =>
            fn_X7_restrict_68 v q61 q45 x4
          else
            fn_X7_restrict_68 v 0 q45 x4
-- X7_substitute substitute(IIII)I
def fn_X7_substitute (v : YS) (x1 : Int32) (x2 : Int32) (x3 : Int32) (x4 : Int32) : Option (Int32 × YS) :=
  (fn_X7_isRegister x1).bind fun q1 =>
  if q1 = 0 then
    some ((-1), v)
  else
    (fn_X7_isVariable v x2).bind fun q9 =>
    if q9 = 0 then
      some ((-1), v)
    else
      (fn_X7_isRegister x3).bind fun q16 =>
      if q16 = 0 then
        some ((-1), v)
      else
        (fn_X7_isRegister x4).bind fun q24 =>
        if q24 = 0 then
          some ((-1), v)
        else
          (rd (y_p v) 8 x1).bind fun q41 =>
          (fn_X7_lower v q41 x2).bind fun q43 =>
          (rd (y_p v) 8 x1).bind fun q53 =>
          (fn_X7_upper v q53 x2).bind fun q55 =>
          (rd (y_p v) 8 x3).bind fun q63 =>
          (fn_X7_product1 v q55 q63).bind fun q64 =>
          (fn_X7_gets v x4 (q43 ^^^ q64)).bind fun q68 =>
          some (q68.1, q68.2)
-- X7_derivative derivative(III)I
def fn_X7_derivative (v : YS) (x1 : Int32) (x2 : Int32) (x3 : Int32) : Option (Int32 × YS) :=
  (fn_X7_isRegister x1).bind fun q1 =>
  if q1 = 0 then
    some ((-1), v)
  else
    (fn_X7_isVariable v x2).bind fun q9 =>
    if q9 = 0 then
      some ((-1), v)
    else
      (fn_X7_isRegister x3).bind fun q16 =>
      if q16 = 0 then
        some ((-1), v)
      else
        (rd (y_p v) 8 x1).bind fun q30 =>
        (fn_X7_upper v q30 x2).bind fun q32 =>
        (fn_X7_gets v x3 q32).bind fun q35 =>
        some (q35.1, q35.2)
-- X7_flip flip(II)I
def fn_X7_flip (v : YS) (x1 : Int32) (x2 : Int32) : Option (Int32 × YS) :=
  (fn_X7_isRegister x1).bind fun q1 =>
  if q1 = 0 then
    some ((-1), v)
  else
    (fn_X7_isMask v x2).bind fun q9 =>
    if q9 = 0 then
      some ((-1), v)
    else
      (rd (y_p v) 8 x1).bind fun q24 =>
      (fn_X7_values v (lsh 1 x2)).bind fun q29 =>
      (fn_X7_gets v x1 (q24 ^^^ q29)).bind fun q33 =>
      some (q33.1, q33.2)
-- X7_exchange exchange(III)I
def fn_X7_exchange_106 (k31 : YS → Int32 → Int32 → Int32 → Int64 → Int32 → Option (Int32 × YS)) (v : YS) (x1 : Int32) (x2 : Int32) (x3 : Int32) (x6 : Int32) (y0 : Int64) (y1 : Int64) : Option (Int32 × YS) :=
  k31 v x1 x2 x3 (y1 ||| y0) (x6 + 1)
def fn_X7_exchange_62 (k31 : YS → Int32 → Int32 → Int32 → Int64 → Int32 → Option (Int32 × YS)) (v : YS) (x1 : Int32) (x2 : Int32) (x3 : Int32) (x4 : Int64) (x6 : Int32) (y0 : Int32) : Option (Int32 × YS) :=
  (rd (y_p v) 8 x1).bind fun q71 =>
  (fn_X7_has1 q71 x6).bind fun q74 =>
  if q74 = 0 then
    fn_X7_exchange_106 k31 v x1 x2 x3 x6 0 x4
  else
    if y0 = 0 then
      fn_X7_exchange_106 k31 v x1 x2 x3 x6 (lsh 1 x6) x4
    else
      fn_X7_exchange_106 k31 v x1 x2 x3 x6 (lsh 1 ((x6 ^^^ (ish 1 x2)) ^^^ (ish 1 x3))) x4
def fn_X7_exchange_31_body (k31 : YS → Int32 → Int32 → Int32 → Int64 → Int32 → Option (Int32 × YS)) (v : YS) (x1 : Int32) (x2 : Int32) (x3 : Int32) (x4 : Int64) (x6 : Int32) : Option (Int32 × YS) :=
  if (ish 1 (y_n v)) ≤ x6 then
    (fn_X7_gets v x1 x4).bind fun q119 =>
    some (q119.1, q119.2)
  else
    if ((isr x6 x2) &&& 1) = ((isr x6 x3) &&& 1) then
      fn_X7_exchange_62 k31 v x1 x2 x3 x4 x6 0
    else
      fn_X7_exchange_62 k31 v x1 x2 x3 x4 x6 1
def fn_X7_exchange_31 : Nat → YS → Int32 → Int32 → Int32 → Int64 → Int32 → Option (Int32 × YS)
  | 0, _, _, _, _, _, _ => none
  | n + 1, v, x1, x2, x3, x4, x6 => fn_X7_exchange_31_body (fn_X7_exchange_31 n) v x1 x2 x3 x4 x6
def fn_X7_exchange (v : YS) (x1 : Int32) (x2 : Int32) (x3 : Int32) : Option (Int32 × YS) :=
  (fn_X7_isRegister x1).bind fun q1 =>
  if q1 = 0 then
    some ((-1), v)
  else
    (fn_X7_isVariable v x2).bind fun q9 =>
    if q9 = 0 then
      some ((-1), v)
    else
      (fn_X7_isVariable v x3).bind fun q17 =>
      if q17 = 0 then
        some ((-1), v)
      else
        fn_X7_exchange_31 FU v x1 x2 x3 0 0
-- X7_undo undo()I
def fn_X7_undo_22_body (k22 : YS → Int32 → Option (Int32 × YS)) (v : YS) (x1 : Int32) : Option (Int32 × YS) :=
  if 8 ≤ x1 then
    some ((y_states v), v)
  else
    (rd (y_was v) 48 ((8 * (y_states v)) + x1)).bind fun q46 =>
    (wrL (y_p v) 8 x1 q46).bind fun g47 =>
    k22 (ys_p v g47) (x1 + 1)
def fn_X7_undo_22 : Nat → YS → Int32 → Option (Int32 × YS)
  | 0, _, _ => none
  | n + 1, v, x1 => fn_X7_undo_22_body (fn_X7_undo_22 n) v x1
def fn_X7_undo (v : YS) : Option (Int32 × YS) :=
  if (y_states v) = 0 then
    some ((-2), v)
  else
    fn_X7_undo_22 FU (ys_states v ((y_states v) - 1)) 0
-- X7_has has(II)I
def fn_X7_has (v : YS) (x1 : Int32) (x2 : Int32) : Option (Int32) :=
  (fn_X7_isRegister x1).bind fun q1 =>
  if q1 = 0 then
    some (-1)
  else
    (fn_X7_isMask v x2).bind fun q9 =>
    if q9 = 0 then
      some (-1)
    else
      (rd (y_p v) 8 x1).bind fun q24 =>
      (fn_X7_has1 q24 x2).bind fun q26 =>
      if q26 = 0 then
        some 0
      else
        some 1
-- X7_terms terms(I)I
def fn_X7_terms (v : YS) (x1 : Int32) : Option (Int32) :=
  (fn_X7_isRegister x1).bind fun q1 =>
  if q1 = 0 then
    some (-1)
  else
    (rd (y_p v) 8 x1).bind fun q12 =>
    (fn_X7_many q12).bind fun q13 =>
    some q13
-- X7_degree degree(I)I
def fn_X7_degree_55 (v : YS) (k14 : Int32 → Int32 → Int32 → Option (Int32)) (x1 : Int32) (x2 : Int32) (x3 : Int32) : Option (Int32) :=
  k14 x1 x2 (x3 + 1)
def fn_X7_degree_14_body (v : YS) (k14 : Int32 → Int32 → Int32 → Option (Int32)) (x1 : Int32) (x2 : Int32) (x3 : Int32) : Option (Int32) :=
  if (ish 1 (y_n v)) ≤ x3 then
    some x2
  else
    (fn_X7_many x3.toInt64).bind fun q26 =>
    (rd (y_p v) 8 x1).bind fun q36 =>
    (fn_X7_has1 q36 x3).bind fun q38 =>
    if q38 = 0 then
      fn_X7_degree_55 v k14 x1 x2 x3
    else
      if q26 ≤ x2 then
        fn_X7_degree_55 v k14 x1 x2 x3
      else
        k14 x1 q26 (x3 + 1)
def fn_X7_degree_14 (v : YS) : Nat → Int32 → Int32 → Int32 → Option (Int32)
  | 0, _, _, _ => none
  | n + 1, x1, x2, x3 => fn_X7_degree_14_body v (fn_X7_degree_14 v n) x1 x2 x3
def fn_X7_degree (v : YS) (x1 : Int32) : Option (Int32) :=
  (fn_X7_isRegister x1).bind fun q1 =>
  if q1 = 0 then
    some (-1)
  else
    fn_X7_degree_14 v FU x1 (-4) 0
-- X7_occurring occurring(I)I
def fn_X7_occurring (v : YS) (x1 : Int32) : Option (Int32) :=
  (fn_X7_isRegister x1).bind fun q1 =>
  if q1 = 0 then
    some (-1)
  else
    (rd (y_p v) 8 x1).bind fun q13 =>
    (fn_X7_occurs v q13).bind fun q14 =>
    some q14
-- X7_notes notes(J)V
def fn_X7_notes_54 (v : YS) (x1 : Int64) (x3 : Int32) : Option (YS) :=
  if x3 = 0 then
    some v
  else
    (wrL (y_found v) 1024 (y_founds v) x1).bind fun g67 =>
    some (ys_founds (ys_found v g67) ((y_founds v) + 1))
def fn_X7_notes_17_body (k17 : YS → Int64 → Int32 → Int32 → Option (YS)) (v : YS) (x1 : Int64) (x3 : Int32) (x4 : Int32) : Option (YS) :=
  if (y_founds v) ≤ x4 then
    fn_X7_notes_54 v x1 x3
  else
    if x3 = 0 then
      fn_X7_notes_54 v x1 x3
    else
      (rd (y_found v) 1024 x4).bind fun q36 =>
      if q36 = x1 then
        k17 v x1 0 (x4 + 1)
      else
        k17 v x1 1 (x4 + 1)
def fn_X7_notes_17 : Nat → YS → Int64 → Int32 → Int32 → Option (YS)
  | 0, _, _, _, _ => none
  | n + 1, v, x1, x3, x4 => fn_X7_notes_17_body (fn_X7_notes_17 n) v x1 x3 x4
def fn_X7_notes_13 (v : YS) (x1 : Int64) (y0 : Int32) : Option (YS) :=
  fn_X7_notes_17 FU v x1 y0 0
def fn_X7_notes (v : YS) (x1 : Int64) : Option (YS) :=
  (fn_X7_occurs v x1).bind fun q2 =>
  if q2 = 0 then
    fn_X7_notes_13 v x1 0
  else
    fn_X7_notes_13 v x1 1
-- X7_spreads spreads()I
def fn_X7_spreads_12_body (k2 : YS → Int32 → Option (Int32 × YS)) (k12 : YS → Int32 → Int32 → Option (Int32 × YS)) (v : YS) (x1 : Int32) (x2 : Int32) : Option (Int32 × YS) :=
  (rd (y_found v) 1024 x1).bind fun q18 =>
  (fn_X7_occurs v q18).bind fun q19 =>
  if ((isr q19 x2) &&& 1) = 0 then
    k12 v x1 (x2 + 1)
  else
    (rd (y_found v) 1024 x1).bind fun q42 =>
    (fn_X7_upper v q42 x2).bind fun q44 =>
    (fn_X7_notes v q44).bind fun q47 =>
    (rd (y_found q47) 1024 x1).bind fun q57 =>
    (fn_X7_lower q47 q57 x2).bind fun q59 =>
    (fn_X7_notes q47 q59).bind fun q62 =>
    k2 q62 (x1 + 1)
def fn_X7_spreads_12 (k2 : YS → Int32 → Option (Int32 × YS)) : Nat → YS → Int32 → Int32 → Option (Int32 × YS)
  | 0, _, _, _ => none
  | n + 1, v, x1, x2 => fn_X7_spreads_12_body k2 (fn_X7_spreads_12 k2 n) v x1 x2
def fn_X7_spreads_2_body (k2 : YS → Int32 → Option (Int32 × YS)) (v : YS) (x1 : Int32) : Option (Int32 × YS) :=
  if (y_founds v) ≤ x1 then
    some ((y_founds v), v)
  else
    fn_X7_spreads_12 k2 FU v x1 0
def fn_X7_spreads_2 : Nat → YS → Int32 → Option (Int32 × YS)
  | 0, _, _ => none
  | n + 1, v, x1 => fn_X7_spreads_2_body (fn_X7_spreads_2 n) v x1
def fn_X7_spreads (v : YS) : Option (Int32 × YS) :=
  fn_X7_spreads_2 FU v 0
-- X7_size size(I)I
def fn_X7_size (v : YS) (x1 : Int32) : Option (Int32 × YS) :=
  (fn_X7_isRegister x1).bind fun q1 =>
  if q1 = 0 then
    some ((-1), v)
  else
    (rd (y_p v) 8 x1).bind fun q20 =>
    (fn_X7_notes (ys_founds v 0) q20).bind fun q21 =>
    (fn_X7_spreads q21 ).bind fun q25 =>
    some (q25.1, q25.2)
-- X7_sharedSize sharedSize()I
def fn_X7_sharedSize_7_body (k7 : YS → Int32 → Option (Int32 × YS)) (v : YS) (x1 : Int32) : Option (Int32 × YS) :=
  if 8 ≤ x1 then
    (fn_X7_spreads v ).bind fun q30 =>
    some (q30.1, q30.2)
  else
    (rd (y_p v) 8 x1).bind fun q19 =>
    (fn_X7_notes v q19).bind fun q20 =>
    k7 q20 (x1 + 1)
def fn_X7_sharedSize_7 : Nat → YS → Int32 → Option (Int32 × YS)
  | 0, _, _ => none
  | n + 1, v, x1 => fn_X7_sharedSize_7_body (fn_X7_sharedSize_7 n) v x1
def fn_X7_sharedSize (v : YS) : Option (Int32 × YS) :=
  fn_X7_sharedSize_7 FU (ys_founds v 0) 0
-- X7_isGreater isGreater(III)Z
def fn_X7_isGreater_106 (v : YS) (y0 : Int32) (y1 : Int32) : Option (Int32) :=
  if y1 = y0 then
    some 1
  else
    some 0
def fn_X7_isGreater_62_body (v : YS) (k62 : Int32 → Int32 → Int32 → Int32 → Option (Int32)) (x1 : Int32) (x2 : Int32) (x4 : Int32) (x6 : Int32) : Option (Int32) :=
  if ((isr x4 x6) &&& 1) = 0 then
    if x1 = 2 then
      k62 x1 x2 x4 (x6 + (-1))
    else
      k62 x1 x2 x4 (x6 + 1)
  else
    if x1 = 2 then
      fn_X7_isGreater_106 v 0 ((isr x2 x6) &&& 1)
    else
      fn_X7_isGreater_106 v 1 ((isr x2 x6) &&& 1)
def fn_X7_isGreater_62 (v : YS) : Nat → Int32 → Int32 → Int32 → Int32 → Option (Int32)
  | 0, _, _, _, _ => none
  | n + 1, x1, x2, x4, x6 => fn_X7_isGreater_62_body v (fn_X7_isGreater_62 v n) x1 x2 x4 x6
def fn_X7_isGreater_60 (v : YS) (x1 : Int32) (x2 : Int32) (x4 : Int32) (y0 : Int32) : Option (Int32) :=
  fn_X7_isGreater_62 v FU x1 x2 x4 y0
def fn_X7_isGreater_45 (v : YS) (x1 : Int32) (x2 : Int32) (x4 : Int32) : Option (Int32) :=
  if x1 = 2 then
    fn_X7_isGreater_60 v x1 x2 x4 ((y_n v) - 1)
  else
    fn_X7_isGreater_60 v x1 x2 x4 0
def fn_X7_isGreater (v : YS) (x1 : Int32) (x2 : Int32) (x3 : Int32) : Option (Int32) :=
  if (x2 ^^^ x3) = 0 then
    some 0
  else
    (fn_X7_many x2.toInt64).bind fun q14 =>
    (fn_X7_many x3.toInt64).bind fun q19 =>
    if x1 ≤ 0 then
      fn_X7_isGreater_45 v x1 x2 (x2 ^^^ x3)
    else
      if (q14 - q19) = 0 then
        fn_X7_isGreater_45 v x1 x2 (x2 ^^^ x3)
      else
        if (q14 - q19) ≤ 0 then
          some 0
        else
          some 1
-- X7_leads leads(JI)I
def fn_X7_leads_48 (v : YS) (k6 : Int64 → Int32 → Int32 → Int32 → Option (Int32)) (x1 : Int64) (x3 : Int32) (x4 : Int32) (x5 : Int32) : Option (Int32) :=
  k6 x1 x3 x4 (x5 + 1)
def fn_X7_leads_6_body (v : YS) (k6 : Int64 → Int32 → Int32 → Int32 → Option (Int32)) (x1 : Int64) (x3 : Int32) (x4 : Int32) (x5 : Int32) : Option (Int32) :=
  if (ish 1 (y_n v)) ≤ x5 then
    some x4
  else
    (fn_X7_has1 x1 x5).bind fun q20 =>
    if q20 = 0 then
      fn_X7_leads_48 v k6 x1 x3 x4 x5
    else
      if x4 < 0 then
        k6 x1 x3 x5 (x5 + 1)
      else
        (fn_X7_isGreater v x3 x5 x4).bind fun q37 =>
        if q37 = 0 then
          fn_X7_leads_48 v k6 x1 x3 x4 x5
        else
          k6 x1 x3 x5 (x5 + 1)
def fn_X7_leads_6 (v : YS) : Nat → Int64 → Int32 → Int32 → Int32 → Option (Int32)
  | 0, _, _, _, _ => none
  | n + 1, x1, x3, x4, x5 => fn_X7_leads_6_body v (fn_X7_leads_6 v n) x1 x3 x4 x5
def fn_X7_leads (v : YS) (x1 : Int64) (x3 : Int32) : Option (Int32) :=
  fn_X7_leads_6 v FU x1 x3 (-1) 0
-- X7_termAt termAt(III)I
def fn_X7_termAt_64 (v : YS) (x2 : Int32) (x4 : Int64) : Option (Int32) :=
  if x4 = 0 then
    some (-4)
  else
    (fn_X7_leads v x4 x2).bind fun q80 =>
    some q80
def fn_X7_termAt_31_body (v : YS) (k31 : Int32 → Int32 → Int64 → Int32 → Option (Int32)) (x2 : Int32) (x3 : Int32) (x4 : Int64) (x6 : Int32) : Option (Int32) :=
  if x3 ≤ x6 then
    fn_X7_termAt_64 v x2 x4
  else
    if x4 = 0 then
      fn_X7_termAt_64 v x2 x4
    else
      (fn_X7_leads v x4 x2).bind fun q51 =>
      k31 x2 x3 (x4 ^^^ (lsh 1 q51)) (x6 + 1)
def fn_X7_termAt_31 (v : YS) : Nat → Int32 → Int32 → Int64 → Int32 → Option (Int32)
  | 0, _, _, _, _ => none
  | n + 1, x2, x3, x4, x6 => fn_X7_termAt_31_body v (fn_X7_termAt_31 v n) x2 x3 x4 x6
def fn_X7_termAt (v : YS) (x1 : Int32) (x2 : Int32) (x3 : Int32) : Option (Int32) :=
  (fn_X7_isRegister x1).bind fun q1 =>
  if q1 = 0 then
    some (-1)
  else
    (fn_X7_isOrder x2).bind fun q8 =>
    if q8 = 0 then
      some (-1)
    else
      if 0 ≤ x3 then
        (rd (y_p v) 8 x1).bind fun q25 =>
        fn_X7_termAt_31 v FU x2 x3 q25 0
      else
        some (-1)
-- X7_value value(II)I
def fn_X7_value (v : YS) (x1 : Int32) (x2 : Int32) : Option (Int32) :=
  (fn_X7_isRegister x1).bind fun q1 =>
  if q1 = 0 then
    some (-1)
  else
    (fn_X7_isMask v x2).bind fun q9 =>
    if q9 = 0 then
      some (-1)
    else
      (rd (y_p v) 8 x1).bind fun q21 =>
      (fn_X7_values v q21).bind fun q22 =>
      some (((lsr q22 x2) &&& 1).toInt32)
-- X7_isSame isSame(II)I
def fn_X7_isSame (v : YS) (x1 : Int32) (x2 : Int32) : Option (Int32) :=
  (fn_X7_isRegister x1).bind fun q1 =>
  if q1 = 0 then
    some (-1)
  else
    (fn_X7_isRegister x2).bind fun q8 =>
    if q8 = 0 then
      some (-1)
    else
      (rd (y_p v) 8 x1).bind fun q23 =>
      (rd (y_p v) 8 x2).bind fun q29 =>
      if q23 = q29 then
        some 1
      else
        some 0
-- X7_taker taker(III)I
def fn_X7_taker_3_body (v : YS) (k3 : Int32 → Int32 → Int32 → Int32 → Option (Int32)) (x1 : Int32) (x2 : Int32) (x3 : Int32) (x4 : Int32) : Option (Int32) :=
  if 8 ≤ x4 then
    some (-1)
  else
    if ((isr x1 x4) &&& 1) = 1 then
      (rd (y_by v) 8 x4).bind fun q26 =>
      if q26 = 0 then
        k3 x1 x2 x3 (x4 + 1)
      else
        (rd (y_by v) 8 x4).bind fun q39 =>
        (fn_X7_leads v q39 x2).bind fun q41 =>
        if (q41 &&& (x3 ^^^ (-1))) = 0 then
          some x4
        else
          k3 x1 x2 x3 (x4 + 1)
    else
      k3 x1 x2 x3 (x4 + 1)
def fn_X7_taker_3 (v : YS) : Nat → Int32 → Int32 → Int32 → Int32 → Option (Int32)
  | 0, _, _, _, _ => none
  | n + 1, x1, x2, x3, x4 => fn_X7_taker_3_body v (fn_X7_taker_3 v n) x1 x2 x3 x4
def fn_X7_taker (v : YS) (x1 : Int32) (x2 : Int32) (x3 : Int32) : Option (Int32) :=
  fn_X7_taker_3 v FU x1 x2 x3 0
-- X7_reduce reduce(IIII)I
def fn_X7_reduce_75_body (k75 : YS → Int32 → Int32 → Int32 → Int64 → Int64 → Int32 → Option (Int32 × YS)) (v : YS) (x2 : Int32) (x3 : Int32) (x4 : Int32) (x5 : Int64) (x7 : Int64) (x9 : Int32) : Option (Int32 × YS) :=
  if (x5 &&& (x7 ^^^ (-1))) = 0 then
    (fn_X7_gets v x4 x5).bind fun q178 =>
    some (x9, q178.2)
  else
    (fn_X7_leads v (x5 &&& (x7 ^^^ (-1))) x3).bind fun q100 =>
    (fn_X7_taker v x2 x3 q100).bind fun q110 =>
    if 0 ≤ q110 then
      (rd (y_by v) 8 q110).bind fun q145 =>
      (fn_X7_leads v q145 x3).bind fun q147 =>
      (rd (y_by v) 8 q110).bind fun q160 =>
      (fn_X7_product1 v (lsh 1 (q100 &&& (q147 ^^^ (-1)))) q160).bind fun q161 =>
      k75 v x2 x3 x4 (x5 ^^^ q161) x7 (x9 + 1)
    else
      k75 v x2 x3 x4 x5 (x7 ||| (lsh 1 q100)) x9
def fn_X7_reduce_75 : Nat → YS → Int32 → Int32 → Int32 → Int64 → Int64 → Int32 → Option (Int32 × YS)
  | 0, _, _, _, _, _, _, _ => none
  | n + 1, v, x2, x3, x4, x5, x7, x9 => fn_X7_reduce_75_body (fn_X7_reduce_75 n) v x2 x3 x4 x5 x7 x9
def fn_X7_reduce_34_body (k34 : YS → Int32 → Int32 → Int32 → Int32 → Int32 → Option (Int32 × YS)) (v : YS) (x1 : Int32) (x2 : Int32) (x3 : Int32) (x4 : Int32) (x5 : Int32) : Option (Int32 × YS) :=
  if 8 ≤ x5 then
    (rd (y_p v) 8 x1).bind fun q66 =>
    fn_X7_reduce_75 FU v x2 x3 x4 q66 0 0
  else
    (rd (y_p v) 8 x5).bind fun q53 =>
    (wrL (y_by v) 8 x5 q53).bind fun g54 =>
    k34 (ys_by v g54) x1 x2 x3 x4 (x5 + 1)
def fn_X7_reduce_34 : Nat → YS → Int32 → Int32 → Int32 → Int32 → Int32 → Option (Int32 × YS)
  | 0, _, _, _, _, _, _ => none
  | n + 1, v, x1, x2, x3, x4, x5 => fn_X7_reduce_34_body (fn_X7_reduce_34 n) v x1 x2 x3 x4 x5
def fn_X7_reduce (v : YS) (x1 : Int32) (x2 : Int32) (x3 : Int32) (x4 : Int32) : Option (Int32 × YS) :=
  (fn_X7_isRegister x1).bind fun q1 =>
  if q1 = 0 then
    some ((-1), v)
  else
    (fn_X7_isSet x2).bind fun q8 =>
    if q8 = 0 then
      some ((-1), v)
    else
      (fn_X7_isOrder x3).bind fun q15 =>
      if q15 = 0 then
        some ((-1), v)
      else
        (fn_X7_isRegister x4).bind fun q23 =>
        if q23 = 0 then
          some ((-1), v)
        else
          fn_X7_reduce_34 FU v x1 x2 x3 x4 0
-- X7_echelon echelon(II)I
def fn_X7_echelon_313 (k272 : YS → Int32 → Int32 → Int32 → Int32 → Option (Int32 × YS)) (v : YS) (x1 : Int32) (x4 : Int32) (x6 : Int32) (x7 : Int32) (y0 : Int64) (y1 : Int32) : Option (Int32 × YS) :=
  (wrL (y_p v) 8 y1 y0).bind fun g313 =>
  k272 (ys_p v g313) x1 x4 (x6 + 1) (x7 + 1)
def fn_X7_echelon_272_body (k272 : YS → Int32 → Int32 → Int32 → Int32 → Option (Int32 × YS)) (v : YS) (x1 : Int32) (x4 : Int32) (x6 : Int32) (x7 : Int32) : Option (Int32 × YS) :=
  if 8 ≤ x7 then
    some (x4, v)
  else
    if ((isr x1 x7) &&& 1) = 1 then
      if x4 ≤ x6 then
        fn_X7_echelon_313 k272 v x1 x4 x6 x7 0 x7
      else
        (rd (y_by v) 8 x6).bind fun q308 =>
        fn_X7_echelon_313 k272 v x1 x4 x6 x7 q308 x7
    else
      k272 v x1 x4 x6 (x7 + 1)
def fn_X7_echelon_272 : Nat → YS → Int32 → Int32 → Int32 → Int32 → Option (Int32 × YS)
  | 0, _, _, _, _, _ => none
  | n + 1, v, x1, x4, x6, x7 => fn_X7_echelon_272_body (fn_X7_echelon_272 n) v x1 x4 x6 x7
def fn_X7_echelon_252 (k210 : YS → Int32 → Int32 → Int32 → Int32 → Int32 → Int64 → Int32 → Int32 → Option (Int32 × YS)) (v : YS) (x1 : Int32) (x2 : Int32) (x3 : Int32) (x4 : Int32) (x5 : Int32) (x7 : Int64) (x9 : Int32) (x10 : Int32) (y0 : Int64) (y1 : Int64) (y2 : Int32) : Option (Int32 × YS) :=
  (wrL (y_by v) 8 y2 (y1 ^^^ y0)).bind fun g253 =>
  k210 (ys_by v g253) x1 x2 x3 x4 x5 x7 x9 (x10 + 1)
def fn_X7_echelon_251 (k210 : YS → Int32 → Int32 → Int32 → Int32 → Int32 → Int64 → Int32 → Int32 → Option (Int32 × YS)) (v : YS) (x1 : Int32) (x2 : Int32) (x3 : Int32) (x4 : Int32) (x5 : Int32) (x7 : Int64) (x9 : Int32) (x10 : Int32) (y0 : Int64) (y1 : Int32) : Option (Int32 × YS) :=
  fn_X7_echelon_252 k210 v x1 x2 x3 x4 x5 x7 x9 x10 0 y0 y1
def fn_X7_echelon_210_body (k70 : YS → Int32 → Int32 → Int32 → Int32 → Int32 → Option (Int32 × YS)) (k210 : YS → Int32 → Int32 → Int32 → Int32 → Int32 → Int64 → Int32 → Int32 → Option (Int32 × YS)) (v : YS) (x1 : Int32) (x2 : Int32) (x3 : Int32) (x4 : Int32) (x5 : Int32) (x7 : Int64) (x9 : Int32) (x10 : Int32) : Option (Int32 × YS) :=
  if x3 ≤ x10 then
    k70 v x1 x2 x3 (x4 + 1) x5
  else
    (rd (y_by v) 8 x10).bind fun q223 =>
    if x10 = x4 then
      fn_X7_echelon_251 k210 v x1 x2 x3 x4 x5 x7 x9 x10 q223 x10
    else
      (rd (y_by v) 8 x10).bind fun q237 =>
      (fn_X7_has1 q237 x9).bind fun q240 =>
      if q240 = 0 then
        fn_X7_echelon_251 k210 v x1 x2 x3 x4 x5 x7 x9 x10 q223 x10
      else
        fn_X7_echelon_252 k210 v x1 x2 x3 x4 x5 x7 x9 x10 x7 q223 x10
def fn_X7_echelon_210 (k70 : YS → Int32 → Int32 → Int32 → Int32 → Int32 → Option (Int32 × YS)) : Nat → YS → Int32 → Int32 → Int32 → Int32 → Int32 → Int64 → Int32 → Int32 → Option (Int32 × YS)
  | 0, _, _, _, _, _, _, _, _, _ => none
  | n + 1, v, x1, x2, x3, x4, x5, x7, x9, x10 => fn_X7_echelon_210_body k70 (fn_X7_echelon_210 k70 n) v x1 x2 x3 x4 x5 x7 x9 x10
def fn_X7_echelon_159 (k70 : YS → Int32 → Int32 → Int32 → Int32 → Int32 → Option (Int32 × YS)) (v : YS) (x1 : Int32) (x2 : Int32) (x3 : Int32) (x4 : Int32) (x6 : Int32) (y0 : Int32) : Option (Int32 × YS) :=
  if y0 = 0 then
    k70 v x1 x2 x3 x4 y0
  else
    (rd (y_by v) 8 x6).bind fun q172 =>
    (rd (y_by v) 8 x4).bind fun q187 =>
    (wrL (y_by v) 8 x6 q187).bind fun g188 =>
    (wrL g188 8 x4 q172).bind fun g197 =>
    (fn_X7_leads (ys_by v g197) q172 x2).bind fun q202 =>
    fn_X7_echelon_210 k70 FU (ys_by v g197) x1 x2 x3 x4 y0 q172 q202 0
def fn_X7_echelon_139 (k82 : YS → Int32 → Int32 → Int32 → Int32 → Int32 → Int32 → Option (Int32 × YS)) (v : YS) (x1 : Int32) (x2 : Int32) (x3 : Int32) (x4 : Int32) (x6 : Int32) (x7 : Int32) : Option (Int32 × YS) :=
  k82 v x1 x2 x3 x4 x6 (x7 + 1)
def fn_X7_echelon_82_body (k70 : YS → Int32 → Int32 → Int32 → Int32 → Int32 → Option (Int32 × YS)) (k82 : YS → Int32 → Int32 → Int32 → Int32 → Int32 → Int32 → Option (Int32 × YS)) (v : YS) (x1 : Int32) (x2 : Int32) (x3 : Int32) (x4 : Int32) (x6 : Int32) (x7 : Int32) : Option (Int32 × YS) :=
  if x3 ≤ x7 then
    if x6 < 0 then
      fn_X7_echelon_159 k70 v x1 x2 x3 x4 x6 0
    else
      fn_X7_echelon_159 k70 v x1 x2 x3 x4 x6 1
  else
    (rd (y_by v) 8 x7).bind fun q95 =>
    (fn_X7_leads v q95 x2).bind fun q97 =>
    if q97 < 0 then
      fn_X7_echelon_139 k82 v x1 x2 x3 x4 x6 x7
    else
      if x6 < 0 then
        k82 v x1 x2 x3 x4 x7 (x7 + 1)
      else
        (rd (y_by v) 8 x6).bind fun q123 =>
        (fn_X7_leads v q123 x2).bind fun q125 =>
        (fn_X7_isGreater v x2 q97 q125).bind fun q128 =>
        if q128 = 0 then
          fn_X7_echelon_139 k82 v x1 x2 x3 x4 x6 x7
        else
          k82 v x1 x2 x3 x4 x7 (x7 + 1)
def fn_X7_echelon_82 (k70 : YS → Int32 → Int32 → Int32 → Int32 → Int32 → Option (Int32 × YS)) : Nat → YS → Int32 → Int32 → Int32 → Int32 → Int32 → Int32 → Option (Int32 × YS)
  | 0, _, _, _, _, _, _, _ => none
  | n + 1, v, x1, x2, x3, x4, x6, x7 => fn_X7_echelon_82_body k70 (fn_X7_echelon_82 k70 n) v x1 x2 x3 x4 x6 x7
def fn_X7_echelon_70_body (k70 : YS → Int32 → Int32 → Int32 → Int32 → Int32 → Option (Int32 × YS)) (v : YS) (x1 : Int32) (x2 : Int32) (x3 : Int32) (x4 : Int32) (x5 : Int32) : Option (Int32 × YS) :=
  if x5 = 0 then
    fn_X7_echelon_272 FU v x1 x4 0 0
  else
    fn_X7_echelon_82 k70 FU v x1 x2 x3 x4 (-1) x4
def fn_X7_echelon_70 : Nat → YS → Int32 → Int32 → Int32 → Int32 → Int32 → Option (Int32 × YS)
  | 0, _, _, _, _, _, _ => none
  | n + 1, v, x1, x2, x3, x4, x5 => fn_X7_echelon_70_body (fn_X7_echelon_70 n) v x1 x2 x3 x4 x5
def fn_X7_echelon_25_body (k25 : YS → Int32 → Int32 → Int32 → Int32 → Option (Int32 × YS)) (v : YS) (x1 : Int32) (x2 : Int32) (x3 : Int32) (x4 : Int32) : Option (Int32 × YS) :=
  if 8 ≤ x4 then
    fn_X7_echelon_70 FU v x1 x2 x3 0 1
  else
    if ((isr x1 x4) &&& 1) = 1 then
      (rd (y_p v) 8 x4).bind fun q53 =>
      (wrL (y_by v) 8 x3 q53).bind fun g54 =>
      k25 (ys_by v g54) x1 x2 (x3 + 1) (x4 + 1)
    else
      k25 v x1 x2 x3 (x4 + 1)
def fn_X7_echelon_25 : Nat → YS → Int32 → Int32 → Int32 → Int32 → Option (Int32 × YS)
  | 0, _, _, _, _, _ => none
  | n + 1, v, x1, x2, x3, x4 => fn_X7_echelon_25_body (fn_X7_echelon_25 n) v x1 x2 x3 x4
def fn_X7_echelon (v : YS) (x1 : Int32) (x2 : Int32) : Option (Int32 × YS) :=
  (fn_X7_isSet x1).bind fun q1 =>
  if q1 = 0 then
    some ((-1), v)
  else
    (fn_X7_isOrder x2).bind fun q8 =>
    if q8 = 0 then
      some ((-1), v)
    else
      (fn_X7_records v ).bind fun q17 =>
      fn_X7_echelon_25 FU q17 x1 x2 0 0
-- X7_barred barred(I)J
def fn_X7_barred_38 (v : YS) (k5 : Int32 → Int64 → Int32 → Option (Int64)) (x1 : Int32) (x4 : Int32) (y0 : Int64) (y1 : Int64) : Option (Int64) :=
  k5 x1 (y1 ||| y0) (x4 + 1)
def fn_X7_barred_5_body (v : YS) (k5 : Int32 → Int64 → Int32 → Option (Int64)) (x1 : Int32) (x2 : Int64) (x4 : Int32) : Option (Int64) :=
  if 8 ≤ x4 then
    some x2
  else
    if ((isr x1 x4) &&& 1) = 1 then
      (rd (y_p v) 8 x4).bind fun q30 =>
      (fn_X7_values v q30).bind fun q31 =>
      fn_X7_barred_38 v k5 x1 x4 q31 x2
    else
      fn_X7_barred_38 v k5 x1 x4 0 x2
def fn_X7_barred_5 (v : YS) : Nat → Int32 → Int64 → Int32 → Option (Int64)
  | 0, _, _, _ => none
  | n + 1, x1, x2, x4 => fn_X7_barred_5_body v (fn_X7_barred_5 v n) x1 x2 x4
def fn_X7_barred (v : YS) (x1 : Int32) : Option (Int64) :=
  fn_X7_barred_5 v FU x1 0 0
-- X7_zeros zeros(I)I
def fn_X7_zeros (v : YS) (x1 : Int32) : Option (Int32) :=
  (fn_X7_isSet x1).bind fun q1 =>
  if q1 = 0 then
    some (-1)
  else
    (fn_X7_barred v x1).bind fun q15 =>
    (fn_X7_many q15).bind fun q18 =>
    some ((ish 1 (y_n v)) - q18)
-- X7_zeroAt zeroAt(II)I
def fn_X7_zeroAt_25_body (v : YS) (k25 : Int64 → Int32 → Int32 → Option (Int32)) (x3 : Int64) (x5 : Int32) (x6 : Int32) : Option (Int32) :=
  if (ish 1 (y_n v)) ≤ x6 then
    some (-4)
  else
    (fn_X7_has1 x3 x6).bind fun q39 =>
    if q39 = 0 then
      if x5 = 0 then
        some x6
      else
        k25 x3 (x5 + (-1)) (x6 + 1)
    else
      k25 x3 x5 (x6 + 1)
def fn_X7_zeroAt_25 (v : YS) : Nat → Int64 → Int32 → Int32 → Option (Int32)
  | 0, _, _, _ => none
  | n + 1, x3, x5, x6 => fn_X7_zeroAt_25_body v (fn_X7_zeroAt_25 v n) x3 x5 x6
def fn_X7_zeroAt (v : YS) (x1 : Int32) (x2 : Int32) : Option (Int32) :=
  (fn_X7_isSet x1).bind fun q1 =>
  if q1 = 0 then
    some (-1)
  else
    if 0 ≤ x2 then
      (fn_X7_barred v x1).bind fun q15 =>
      fn_X7_zeroAt_25 v FU q15 x2 0
    else
      some (-1)
-- X7_combine combine(II)I
def fn_X7_combine (v : YS) (x1 : Int32) (x2 : Int32) : Option (Int32 × YS) :=
  (fn_X7_isSet x1).bind fun q1 =>
  if q1 = 0 then
    some ((-1), v)
  else
    (fn_X7_isRegister x2).bind fun q8 =>
    if q8 = 0 then
      some ((-1), v)
    else
      (fn_X7_barred v x1).bind fun q19 =>
      (fn_X7_values v q19).bind fun q22 =>
      (fn_X7_gets v x2 q22).bind fun q25 =>
      some (q25.1, q25.2)
-- X7_eliminate eliminate(III)I
def fn_X7_eliminate_82 (k37 : YS → Int32 → Int32 → Int64 → Int64 → Int32 → Option (Int32 × YS)) (v : YS) (x2 : Int32) (x3 : Int32) (x4 : Int64) (x8 : Int32) (y0 : Int64) (y1 : Int64) : Option (Int32 × YS) :=
  k37 v x2 x3 x4 (y1 ||| y0) (x8 + 1)
def fn_X7_eliminate_81 (k37 : YS → Int32 → Int32 → Int64 → Int64 → Int32 → Option (Int32 × YS)) (v : YS) (x2 : Int32) (x3 : Int32) (x4 : Int64) (x8 : Int32) (y0 : Int64) : Option (Int32 × YS) :=
  fn_X7_eliminate_82 k37 v x2 x3 x4 x8 0 y0
def fn_X7_eliminate_37_body (k37 : YS → Int32 → Int32 → Int64 → Int64 → Int32 → Option (Int32 × YS)) (v : YS) (x2 : Int32) (x3 : Int32) (x4 : Int64) (x6 : Int64) (x8 : Int32) : Option (Int32 × YS) :=
  if (ish 1 (y_n v)) ≤ x8 then
    (fn_X7_values v x6).bind fun q96 =>
    (fn_X7_gets v x3 q96).bind fun q99 =>
    some (q99.1, q99.2)
  else
    (fn_X7_has1 x4 x8).bind fun q54 =>
    if q54 = 0 then
      fn_X7_eliminate_81 k37 v x2 x3 x4 x8 x6
    else
      (fn_X7_has1 x4 (x8 ^^^ (ish 1 x2))).bind fun q68 =>
      if q68 = 0 then
        fn_X7_eliminate_81 k37 v x2 x3 x4 x8 x6
      else
        fn_X7_eliminate_82 k37 v x2 x3 x4 x8 (lsh 1 x8) x6
def fn_X7_eliminate_37 : Nat → YS → Int32 → Int32 → Int64 → Int64 → Int32 → Option (Int32 × YS)
  | 0, _, _, _, _, _, _ => none
  | n + 1, v, x2, x3, x4, x6, x8 => fn_X7_eliminate_37_body (fn_X7_eliminate_37 n) v x2 x3 x4 x6 x8
def fn_X7_eliminate (v : YS) (x1 : Int32) (x2 : Int32) (x3 : Int32) : Option (Int32 × YS) :=
  (fn_X7_isSet x1).bind fun q1 =>
  if q1 = 0 then
    some ((-1), v)
  else
    (fn_X7_isVariable v x2).bind fun q9 =>
    if q9 = 0 then
      some ((-1), v)
    else
      (fn_X7_isRegister x3).bind fun q16 =>
      if q16 = 0 then
        some ((-1), v)
      else
        (fn_X7_barred v x1).bind fun q26 =>
        fn_X7_eliminate_37 FU v x2 x3 q26 0 0
-- X7_fibres fibres(III)I
def fn_X7_fibres_109 (v : YS) (k39 : Int32 → Int32 → Int64 → Int32 → Int32 → Option (Int32)) (x2 : Int32) (x3 : Int32) (x4 : Int64) (x7 : Int32) (y0 : Int32) (y1 : Int32) : Option (Int32) :=
  k39 x2 x3 x4 (y1 + y0) (x7 + 1)
def fn_X7_fibres_108 (v : YS) (k39 : Int32 → Int32 → Int64 → Int32 → Int32 → Option (Int32)) (x2 : Int32) (x3 : Int32) (x4 : Int64) (x7 : Int32) (y0 : Int32) : Option (Int32) :=
  fn_X7_fibres_109 v k39 x2 x3 x4 x7 0 y0
def fn_X7_fibres_84 (v : YS) (k39 : Int32 → Int32 → Int64 → Int32 → Int32 → Option (Int32)) (x2 : Int32) (x3 : Int32) (x4 : Int64) (x6 : Int32) (x7 : Int32) (y0 : Int32) (y1 : Int32) : Option (Int32) :=
  if ((isr x7 x2) &&& 1) = 0 then
    if (y1 + y0) = x3 then
      fn_X7_fibres_109 v k39 x2 x3 x4 x7 1 x6
    else
      fn_X7_fibres_108 v k39 x2 x3 x4 x7 x6
  else
    fn_X7_fibres_108 v k39 x2 x3 x4 x7 x6
def fn_X7_fibres_65 (v : YS) (k39 : Int32 → Int32 → Int64 → Int32 → Int32 → Option (Int32)) (x2 : Int32) (x3 : Int32) (x4 : Int64) (x6 : Int32) (x7 : Int32) (y0 : Int32) : Option (Int32) :=
  (fn_X7_has1 x4 (x7 ^^^ (ish 1 x2))).bind fun q73 =>
  if q73 = 0 then
    fn_X7_fibres_84 v k39 x2 x3 x4 x6 x7 1 y0
  else
    fn_X7_fibres_84 v k39 x2 x3 x4 x6 x7 0 y0
def fn_X7_fibres_39_body (v : YS) (k39 : Int32 → Int32 → Int64 → Int32 → Int32 → Option (Int32)) (x2 : Int32) (x3 : Int32) (x4 : Int64) (x6 : Int32) (x7 : Int32) : Option (Int32) :=
  if (ish 1 (y_n v)) ≤ x7 then
    some x6
  else
    (fn_X7_has1 x4 x7).bind fun q54 =>
    if q54 = 0 then
      fn_X7_fibres_65 v k39 x2 x3 x4 x6 x7 1
    else
      fn_X7_fibres_65 v k39 x2 x3 x4 x6 x7 0
def fn_X7_fibres_39 (v : YS) : Nat → Int32 → Int32 → Int64 → Int32 → Int32 → Option (Int32)
  | 0, _, _, _, _, _ => none
  | n + 1, x2, x3, x4, x6, x7 => fn_X7_fibres_39_body v (fn_X7_fibres_39 v n) x2 x3 x4 x6 x7
def fn_X7_fibres (v : YS) (x1 : Int32) (x2 : Int32) (x3 : Int32) : Option (Int32) :=
  (fn_X7_isSet x1).bind fun q1 =>
  if q1 = 0 then
    some (-1)
  else
    (fn_X7_isVariable v x2).bind fun q9 =>
    if q9 = 0 then
      some (-1)
    else
      (fn_X7_in x3 0 2).bind fun q18 =>
      if q18 = 0 then
        some (-1)
      else
        (fn_X7_barred v x1).bind fun q28 =>
        fn_X7_fibres_39 v FU x2 x3 q28 0 0
-- X7_isMember isMember(II)I
def fn_X7_isMember (v : YS) (x1 : Int32) (x2 : Int32) : Option (Int32) :=
  (fn_X7_isRegister x1).bind fun q1 =>
  if q1 = 0 then
    some (-1)
  else
    (fn_X7_isSet x2).bind fun q8 =>
    if q8 = 0 then
      some (-1)
    else
      (rd (y_p v) 8 x1).bind fun q22 =>
      (fn_X7_values v q22).bind fun q23 =>
      (fn_X7_barred v x2).bind fun q28 =>
      if (q23 &&& (q28 ^^^ (-1))) = 0 then
        some 1
      else
        some 0
-- X7_isSameIdeal isSameIdeal(II)I
def fn_X7_isSameIdeal (v : YS) (x1 : Int32) (x2 : Int32) : Option (Int32) :=
  (fn_X7_isSet x1).bind fun q1 =>
  if q1 = 0 then
    some (-1)
  else
    (fn_X7_isSet x2).bind fun q8 =>
    if q8 = 0 then
      some (-1)
    else
      (fn_X7_barred v x1).bind fun q20 =>
      (fn_X7_barred v x2).bind fun q25 =>
      if q20 = q25 then
        some 1
      else
        some 0
-- X7_fixedVariables fixedVariables(I)I
def fn_X7_fixedVariables_90 (v : YS) (x4 : Int32) (x5 : Int32) : Option (Int32) :=
  (fn_X7_many ((x4 &&& x5).toInt64)).bind fun q100 =>
  some ((y_n v) - q100)
def fn_X7_fixedVariables_24_body (v : YS) (k24 : Int64 → Int32 → Int32 → Int32 → Option (Int32)) (x2 : Int64) (x4 : Int32) (x5 : Int32) (x6 : Int32) : Option (Int32) :=
  if (ish 1 (y_n v)) ≤ x6 then
    if x4 = 0 then
      if x5 = 0 then
        some (-4)
      else
        fn_X7_fixedVariables_90 v x4 x5
    else
      fn_X7_fixedVariables_90 v x4 x5
  else
    (fn_X7_has1 x2 x6).bind fun q38 =>
    if q38 = 0 then
      k24 x2 (x4 ||| x6) (x5 ||| ((x6 ^^^ (-1)) &&& ((ish 1 (y_n v)) - 1))) (x6 + 1)
    else
      k24 x2 x4 x5 (x6 + 1)
def fn_X7_fixedVariables_24 (v : YS) : Nat → Int64 → Int32 → Int32 → Int32 → Option (Int32)
  | 0, _, _, _, _ => none
  | n + 1, x2, x4, x5, x6 => fn_X7_fixedVariables_24_body v (fn_X7_fixedVariables_24 v n) x2 x4 x5 x6
def fn_X7_fixedVariables (v : YS) (x1 : Int32) : Option (Int32) :=
  (fn_X7_isSet x1).bind fun q1 =>
  if q1 = 0 then
    some (-1)
  else
    (fn_X7_barred v x1).bind fun q11 =>
    fn_X7_fixedVariables_24 v FU q11 0 0 0
-- X7_type type(I)I
def fn_X7_type (v : YS) (x1 : Int32) : Option (Int32 × YS) :=
  (fn_X7_in x1 32 126).bind fun q5 =>
  if q5 = 0 then
    some ((-1), v)
  else
    if (y_typed v) = 60 then
      some ((-3), v)
    else
      (wrI (y_text v) 60 (y_typed v) (vp_nar .char (tch x1))).bind fun g35 =>
      some (((y_typed v) + 1), (ys_typed (ys_text v g35) ((y_typed v) + 1)))
-- X7_clearText clearText()I
def fn_X7_clearText (v : YS) : Option (Int32 × YS) :=
  some ((y_typed v), (ys_typed v 0))
-- X7_behind behind(IC)I
def fn_X7_behind_59 (v : YS) (x3 : Int32) (y0 : Int32) (y1 : Int32) : Option (Int32) :=
  (fn_X7_in y1 y0 ((y_n v) - 1)).bind fun q65 =>
  if q65 = 0 then
    some (-2)
  else
    some x3
def fn_X7_behind_41 (v : YS) (x1 : Int32) (x3 : Int32) : Option (Int32) :=
  if 6 ≤ x1 then
    some (-2)
  else
    if 0 ≤ x1 then
      fn_X7_behind_59 v x3 (x1 + 1) x3
    else
      fn_X7_behind_59 v x3 0 x3
def fn_X7_behind (v : YS) (x1 : Int32) (x2 : Int32) : Option (Int32) :=
  if x2 = 43 then
    if x1 < 0 then
      some (-2)
    else
      some (-1)
  else
    if 0 ≤ x1 then
      fn_X7_behind_41 v x1 (x2 - 97)
    else
      if x2 = 48 then
        some 6
      else
        if x2 = 49 then
          some 6
        else
          fn_X7_behind_41 v x1 (x2 - 97)
-- X7_fault fault()I
def fn_X7_fault_4_body (v : YS) (k4 : Int32 → Int32 → Option (Int32)) (x1 : Int32) (x2 : Int32) : Option (Int32) :=
  if (y_typed v) ≤ x2 then
    if 0 ≤ x1 then
      some (-4)
    else
      some (y_typed v)
  else
    (rd (y_text v) 60 x2).bind fun q19 =>
    (fn_X7_behind v x1 q19).bind fun q20 =>
    if q20 = (-2) then
      some x2
    else
      k4 q20 (x2 + 1)
def fn_X7_fault_4 (v : YS) : Nat → Int32 → Int32 → Option (Int32)
  | 0, _, _ => none
  | n + 1, x1, x2 => fn_X7_fault_4_body v (fn_X7_fault_4 v n) x1 x2
def fn_X7_fault (v : YS) : Option (Int32) :=
  fn_X7_fault_4 v FU (-1) 0
-- X7_read read(I)I
def fn_X7_read_85 (k32 : YS → Int32 → Int64 → Int32 → Int32 → Int32 → Option (Int32 × YS)) (v : YS) (x1 : Int32) (x6 : Int32) (y0 : Int64) (y1 : Int64) : Option (Int32 × YS) :=
  k32 v x1 (y1 ^^^ y0) 0 0 (x6 + 1)
def fn_X7_read_62 (k32 : YS → Int32 → Int64 → Int32 → Int32 → Int32 → Option (Int32 × YS)) (v : YS) (x1 : Int32) (x2 : Int64) (x4 : Int32) (x5 : Int32) (x6 : Int32) (y0 : Int32) : Option (Int32 × YS) :=
  if y0 = 43 then
    if x5 = 0 then
      fn_X7_read_85 k32 v x1 x6 (lsh 1 x4) x2
    else
      fn_X7_read_85 k32 v x1 x6 0 x2
  else
    if y0 < 97 then
      if y0 = 48 then
        k32 v x1 x2 x4 1 (x6 + 1)
      else
        k32 v x1 x2 x4 0 (x6 + 1)
    else
      k32 v x1 x2 (x4 ||| (ish 1 (y0 - 97))) x5 (x6 + 1)
def fn_X7_read_32_body (k32 : YS → Int32 → Int64 → Int32 → Int32 → Int32 → Option (Int32 × YS)) (v : YS) (x1 : Int32) (x2 : Int64) (x4 : Int32) (x5 : Int32) (x6 : Int32) : Option (Int32 × YS) :=
  if (y_typed v) < x6 then
    (fn_X7_gets v x1 x2).bind fun q141 =>
    some (q141.1, q141.2)
  else
    if (y_typed v) ≤ x6 then
      fn_X7_read_62 k32 v x1 x2 x4 x5 x6 43
    else
      (rd (y_text v) 60 x6).bind fun q56 =>
      fn_X7_read_62 k32 v x1 x2 x4 x5 x6 q56
def fn_X7_read_32 : Nat → YS → Int32 → Int64 → Int32 → Int32 → Int32 → Option (Int32 × YS)
  | 0, _, _, _, _, _, _ => none
  | n + 1, v, x1, x2, x4, x5, x6 => fn_X7_read_32_body (fn_X7_read_32 n) v x1 x2 x4 x5 x6
def fn_X7_read (v : YS) (x1 : Int32) : Option (Int32 × YS) :=
  (fn_X7_isRegister x1).bind fun q1 =>
  if q1 = 0 then
    some ((-1), v)
  else
    (fn_X7_fault v ).bind fun q10 =>
    if q10 = (-4) then
      fn_X7_read_32 FU v x1 0 0 0 0
    else
      some ((-2), v)
-- X7_longOf longOf(I)I
def fn_X7_longOf (x0 : Int32) : Option (Int32) :=
  if x0 = 0 then
    some 1
  else
    (fn_X7_many x0.toInt64).bind fun q10 =>
    some q10
-- X7_textLength textLength(I)I
def fn_X7_textLength_62 (v : YS) (k28 : Int32 → Int32 → Int32 → Option (Int32)) (x1 : Int32) (x3 : Int32) (y0 : Int32) (y1 : Int32) : Option (Int32) :=
  k28 x1 (y1 + y0) (x3 + 1)
def fn_X7_textLength_28_body (v : YS) (k28 : Int32 → Int32 → Int32 → Option (Int32)) (x1 : Int32) (x2 : Int32) (x3 : Int32) : Option (Int32) :=
  if (ish 1 (y_n v)) ≤ x3 then
    some x2
  else
    (rd (y_p v) 8 x1).bind fun q44 =>
    (fn_X7_has1 q44 x3).bind fun q46 =>
    if q46 = 0 then
      fn_X7_textLength_62 v k28 x1 x3 0 x2
    else
      (fn_X7_longOf x3).bind fun q54 =>
      fn_X7_textLength_62 v k28 x1 x3 (1 + q54) x2
def fn_X7_textLength_28 (v : YS) : Nat → Int32 → Int32 → Int32 → Option (Int32)
  | 0, _, _, _ => none
  | n + 1, x1, x2, x3 => fn_X7_textLength_28_body v (fn_X7_textLength_28 v n) x1 x2 x3
def fn_X7_textLength_25 (v : YS) (x1 : Int32) (y0 : Int32) : Option (Int32) :=
  fn_X7_textLength_28 v FU x1 y0 0
def fn_X7_textLength (v : YS) (x1 : Int32) : Option (Int32) :=
  (fn_X7_isRegister x1).bind fun q1 =>
  if q1 = 0 then
    some (-1)
  else
    (rd (y_p v) 8 x1).bind fun q14 =>
    if q14 = 0 then
      fn_X7_textLength_25 v x1 1
    else
      fn_X7_textLength_25 v x1 (-1)
-- X7_letter letter(II)I
def fn_X7_letter_23 (k11 : Int32 → Int32 → Int32 → Option (Int32)) (x0 : Int32) (x2 : Int32) (x3 : Int32) : Option (Int32) :=
  k11 x0 (x2 - ((isr x0 x3) &&& 1)) (x3 + 1)
def fn_X7_letter_11_body (k11 : Int32 → Int32 → Int32 → Option (Int32)) (x0 : Int32) (x2 : Int32) (x3 : Int32) : Option (Int32) :=
  if 0 < x2 then
    fn_X7_letter_23 k11 x0 x2 x3
  else
    if ((isr x0 x3) &&& 1) = 0 then
      fn_X7_letter_23 k11 x0 x2 x3
    else
      some (97 + x3)
def fn_X7_letter_11 : Nat → Int32 → Int32 → Int32 → Option (Int32)
  | 0, _, _, _ => none
  | n + 1, x0, x2, x3 => fn_X7_letter_11_body (fn_X7_letter_11 n) x0 x2 x3
def fn_X7_letter (x0 : Int32) (x1 : Int32) : Option (Int32) :=
  if x0 = 0 then
    some 49
  else
    fn_X7_letter_11 FU x0 x1 0
-- X7_textAt textAt(II)I
def fn_X7_textAt_102 (v : YS) (k46 : Int32 → Int64 → Option (Int32)) (x3 : Int32) (x4 : Int64) : Option (Int32) :=
  (fn_X7_leads v x4 0).bind fun q112 =>
  k46 (x3 + (-1)) (x4 ^^^ (lsh 1 q112))
def fn_X7_textAt_46_body (v : YS) (k46 : Int32 → Int64 → Option (Int32)) (x3 : Int32) (x4 : Int64) : Option (Int32) :=
  if x4 = 0 then
    some (-4)
  else
    (fn_X7_leads v x4 0).bind fun q57 =>
    (fn_X7_longOf q57).bind fun q65 =>
    if q65 ≤ x3 then
      (fn_X7_longOf q57).bind fun q81 =>
      if (x3 - q81) = 0 then
        (fn_X7_many x4).bind fun q92 =>
        if q92 ≤ 1 then
          fn_X7_textAt_102 v k46 (x3 - q81) x4
        else
          some 43
      else
        fn_X7_textAt_102 v k46 (x3 - q81) x4
    else
      (fn_X7_letter q57 x3).bind fun q74 =>
      some q74
def fn_X7_textAt_46 (v : YS) : Nat → Int32 → Int64 → Option (Int32)
  | 0, _, _ => none
  | n + 1, x3, x4 => fn_X7_textAt_46_body v (fn_X7_textAt_46 v n) x3 x4
def fn_X7_textAt (v : YS) (x1 : Int32) (x2 : Int32) : Option (Int32) :=
  (fn_X7_isRegister x1).bind fun q1 =>
  if q1 = 0 then
    some (-1)
  else
    if 0 ≤ x2 then
      (rd (y_p v) 8 x1).bind fun q18 =>
      if q18 = 0 then
        if x2 = 0 then
          some 48
        else
          some (-4)
      else
        (rd (y_p v) 8 x1).bind fun q43 =>
        fn_X7_textAt_46 v FU x2 q43
    else
      some (-1)
