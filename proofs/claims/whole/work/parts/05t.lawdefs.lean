/-! by program (lawgen.py): the law, purely -/
def fl_0 (k18 : XS → YS → Int32 → Option Int32) (L : Nat) (xs : Nat → Int32) (v : XS) (w : YS) (x3 : Int32) : Option Int32 :=
  (rd xs L (x3 + 1)).bind fun q205 =>
  (fn_X6_reset v q205).bind fun q206 =>
  (rd xs L (x3 + 1)).bind fun q214 =>
  (fn_X7_reset w q214).bind fun q215 =>
  if q206.1 = q215.1 then
    k18 q206.2 q215.2 (x3 + 5)
  else
    some 0
def fl_1 (k18 : XS → YS → Int32 → Option Int32) (L : Nat) (xs : Nat → Int32) (v : XS) (w : YS) (x3 : Int32) : Option Int32 :=
  (fn_X6_variables v ).bind fun q224 =>
  (fn_X7_variables w ).bind fun q228 =>
  if q224 = q228 then
    k18 v w (x3 + 5)
  else
    some 0
def fl_2 (k18 : XS → YS → Int32 → Option Int32) (L : Nat) (xs : Nat → Int32) (v : XS) (w : YS) (x3 : Int32) : Option Int32 :=
  (rd xs L (x3 + 1)).bind fun q241 =>
  (rd xs L (x3 + 2)).bind fun q246 =>
  (fn_X6_toggle v q241 q246).bind fun q247 =>
  (rd xs L (x3 + 1)).bind fun q255 =>
  (rd xs L (x3 + 2)).bind fun q260 =>
  (fn_X7_toggle w q255 q260).bind fun q261 =>
  if q247.1 = q261.1 then
    k18 q247.2 q261.2 (x3 + 5)
  else
    some 0
def fl_3 (k18 : XS → YS → Int32 → Option Int32) (L : Nat) (xs : Nat → Int32) (v : XS) (w : YS) (x3 : Int32) : Option Int32 :=
  (rd xs L (x3 + 1)).bind fun q274 =>
  (rd xs L (x3 + 2)).bind fun q279 =>
  (fn_X6_copy v q274 q279).bind fun q280 =>
  (rd xs L (x3 + 1)).bind fun q288 =>
  (rd xs L (x3 + 2)).bind fun q293 =>
  (fn_X7_copy w q288 q293).bind fun q294 =>
  if q280.1 = q294.1 then
    k18 q280.2 q294.2 (x3 + 5)
  else
    some 0
def fl_4 (k18 : XS → YS → Int32 → Option Int32) (L : Nat) (xs : Nat → Int32) (v : XS) (w : YS) (x3 : Int32) : Option Int32 :=
  (rd xs L (x3 + 1)).bind fun q307 =>
  (rd xs L (x3 + 2)).bind fun q312 =>
  (rd xs L (x3 + 3)).bind fun q317 =>
  (fn_X6_sum v q307 q312 q317).bind fun q318 =>
  (rd xs L (x3 + 1)).bind fun q326 =>
  (rd xs L (x3 + 2)).bind fun q331 =>
  (rd xs L (x3 + 3)).bind fun q336 =>
  (fn_X7_sum w q326 q331 q336).bind fun q337 =>
  if q318.1 = q337.1 then
    k18 q318.2 q337.2 (x3 + 5)
  else
    some 0
def fl_5 (k18 : XS → YS → Int32 → Option Int32) (L : Nat) (xs : Nat → Int32) (v : XS) (w : YS) (x3 : Int32) : Option Int32 :=
  (rd xs L (x3 + 1)).bind fun q350 =>
  (rd xs L (x3 + 2)).bind fun q355 =>
  (rd xs L (x3 + 3)).bind fun q360 =>
  (fn_X6_product v q350 q355 q360).bind fun q361 =>
  (rd xs L (x3 + 1)).bind fun q369 =>
  (rd xs L (x3 + 2)).bind fun q374 =>
  (rd xs L (x3 + 3)).bind fun q379 =>
  (fn_X7_product w q369 q374 q379).bind fun q380 =>
  if q361.1 = q380.1 then
    k18 q361.2 q380.2 (x3 + 5)
  else
    some 0
def fl_6 (k18 : XS → YS → Int32 → Option Int32) (L : Nat) (xs : Nat → Int32) (v : XS) (w : YS) (x3 : Int32) : Option Int32 :=
  (rd xs L (x3 + 1)).bind fun q393 =>
  (rd xs L (x3 + 2)).bind fun q398 =>
  (rd xs L (x3 + 3)).bind fun q403 =>
  (fn_X6_times v q393 q398 q403).bind fun q404 =>
  (rd xs L (x3 + 1)).bind fun q412 =>
  (rd xs L (x3 + 2)).bind fun q417 =>
  (rd xs L (x3 + 3)).bind fun q422 =>
  (fn_X7_times w q412 q417 q422).bind fun q423 =>
  if q404.1 = q423.1 then
    k18 q404.2 q423.2 (x3 + 5)
  else
    some 0
def fl_7 (k18 : XS → YS → Int32 → Option Int32) (L : Nat) (xs : Nat → Int32) (v : XS) (w : YS) (x3 : Int32) : Option Int32 :=
  (rd xs L (x3 + 1)).bind fun q436 =>
  (rd xs L (x3 + 2)).bind fun q441 =>
  (rd xs L (x3 + 3)).bind fun q446 =>
  (rd xs L (x3 + 4)).bind fun q451 =>
  (fn_X6_restrict v q436 q441 q446 q451).bind fun q452 =>
  (rd xs L (x3 + 1)).bind fun q460 =>
  (rd xs L (x3 + 2)).bind fun q465 =>
  (rd xs L (x3 + 3)).bind fun q470 =>
  (rd xs L (x3 + 4)).bind fun q475 =>
  (fn_X7_restrict w q460 q465 q470 q475).bind fun q476 =>
  if q452.1 = q476.1 then
    k18 q452.2 q476.2 (x3 + 5)
  else
    some 0
def fl_8 (k18 : XS → YS → Int32 → Option Int32) (L : Nat) (xs : Nat → Int32) (v : XS) (w : YS) (x3 : Int32) : Option Int32 :=
  (rd xs L (x3 + 1)).bind fun q489 =>
  (rd xs L (x3 + 2)).bind fun q494 =>
  (rd xs L (x3 + 3)).bind fun q499 =>
  (rd xs L (x3 + 4)).bind fun q504 =>
  (fn_X6_substitute v q489 q494 q499 q504).bind fun q505 =>
  (rd xs L (x3 + 1)).bind fun q513 =>
  (rd xs L (x3 + 2)).bind fun q518 =>
  (rd xs L (x3 + 3)).bind fun q523 =>
  (rd xs L (x3 + 4)).bind fun q528 =>
  (fn_X7_substitute w q513 q518 q523 q528).bind fun q529 =>
  if q505.1 = q529.1 then
    k18 q505.2 q529.2 (x3 + 5)
  else
    some 0
def fl_9 (k18 : XS → YS → Int32 → Option Int32) (L : Nat) (xs : Nat → Int32) (v : XS) (w : YS) (x3 : Int32) : Option Int32 :=
  (rd xs L (x3 + 1)).bind fun q542 =>
  (rd xs L (x3 + 2)).bind fun q547 =>
  (rd xs L (x3 + 3)).bind fun q552 =>
  (fn_X6_derivative v q542 q547 q552).bind fun q553 =>
  (rd xs L (x3 + 1)).bind fun q561 =>
  (rd xs L (x3 + 2)).bind fun q566 =>
  (rd xs L (x3 + 3)).bind fun q571 =>
  (fn_X7_derivative w q561 q566 q571).bind fun q572 =>
  if q553.1 = q572.1 then
    k18 q553.2 q572.2 (x3 + 5)
  else
    some 0
def fl_10 (k18 : XS → YS → Int32 → Option Int32) (L : Nat) (xs : Nat → Int32) (v : XS) (w : YS) (x3 : Int32) : Option Int32 :=
  (rd xs L (x3 + 1)).bind fun q585 =>
  (rd xs L (x3 + 2)).bind fun q590 =>
  (fn_X6_flip v q585 q590).bind fun q591 =>
  (rd xs L (x3 + 1)).bind fun q599 =>
  (rd xs L (x3 + 2)).bind fun q604 =>
  (fn_X7_flip w q599 q604).bind fun q605 =>
  if q591.1 = q605.1 then
    k18 q591.2 q605.2 (x3 + 5)
  else
    some 0
def fl_11 (k18 : XS → YS → Int32 → Option Int32) (L : Nat) (xs : Nat → Int32) (v : XS) (w : YS) (x3 : Int32) : Option Int32 :=
  (rd xs L (x3 + 1)).bind fun q618 =>
  (rd xs L (x3 + 2)).bind fun q623 =>
  (rd xs L (x3 + 3)).bind fun q628 =>
  (fn_X6_exchange v q618 q623 q628).bind fun q629 =>
  (rd xs L (x3 + 1)).bind fun q637 =>
  (rd xs L (x3 + 2)).bind fun q642 =>
  (rd xs L (x3 + 3)).bind fun q647 =>
  (fn_X7_exchange w q637 q642 q647).bind fun q648 =>
  if q629.1 = q648.1 then
    k18 q629.2 q648.2 (x3 + 5)
  else
    some 0
def fl_12 (k18 : XS → YS → Int32 → Option Int32) (L : Nat) (xs : Nat → Int32) (v : XS) (w : YS) (x3 : Int32) : Option Int32 :=
  (fn_X6_undo v ).bind fun q657 =>
  (fn_X7_undo w ).bind fun q661 =>
  if q657.1 = q661.1 then
    k18 q657.2 q661.2 (x3 + 5)
  else
    some 0
def fl_13 (k18 : XS → YS → Int32 → Option Int32) (L : Nat) (xs : Nat → Int32) (v : XS) (w : YS) (x3 : Int32) : Option Int32 :=
  (rd xs L (x3 + 1)).bind fun q674 =>
  (rd xs L (x3 + 2)).bind fun q679 =>
  (fn_X6_has v q674 q679).bind fun q680 =>
  (rd xs L (x3 + 1)).bind fun q688 =>
  (rd xs L (x3 + 2)).bind fun q693 =>
  (fn_X7_has w q688 q693).bind fun q694 =>
  if q680 = q694 then
    k18 v w (x3 + 5)
  else
    some 0
def fl_14 (k18 : XS → YS → Int32 → Option Int32) (L : Nat) (xs : Nat → Int32) (v : XS) (w : YS) (x3 : Int32) : Option Int32 :=
  (rd xs L (x3 + 1)).bind fun q707 =>
  (fn_X6_terms v q707).bind fun q708 =>
  (rd xs L (x3 + 1)).bind fun q716 =>
  (fn_X7_terms w q716).bind fun q717 =>
  if q708 = q717 then
    k18 v w (x3 + 5)
  else
    some 0
def fl_15 (k18 : XS → YS → Int32 → Option Int32) (L : Nat) (xs : Nat → Int32) (v : XS) (w : YS) (x3 : Int32) : Option Int32 :=
  (rd xs L (x3 + 1)).bind fun q730 =>
  (fn_X6_degree v q730).bind fun q731 =>
  (rd xs L (x3 + 1)).bind fun q739 =>
  (fn_X7_degree w q739).bind fun q740 =>
  if q731 = q740 then
    k18 v w (x3 + 5)
  else
    some 0
def fl_16 (k18 : XS → YS → Int32 → Option Int32) (L : Nat) (xs : Nat → Int32) (v : XS) (w : YS) (x3 : Int32) : Option Int32 :=
  (rd xs L (x3 + 1)).bind fun q753 =>
  (fn_X6_occurring v q753).bind fun q754 =>
  (rd xs L (x3 + 1)).bind fun q762 =>
  (fn_X7_occurring w q762).bind fun q763 =>
  if q754 = q763 then
    k18 v w (x3 + 5)
  else
    some 0
def fl_17 (k18 : XS → YS → Int32 → Option Int32) (L : Nat) (xs : Nat → Int32) (v : XS) (w : YS) (x3 : Int32) : Option Int32 :=
  (rd xs L (x3 + 1)).bind fun q776 =>
  (fn_X6_size v q776).bind fun q777 =>
  (rd xs L (x3 + 1)).bind fun q785 =>
  (fn_X7_size w q785).bind fun q786 =>
  if q777.1 = q786.1 then
    k18 q777.2 q786.2 (x3 + 5)
  else
    some 0
def fl_18 (k18 : XS → YS → Int32 → Option Int32) (L : Nat) (xs : Nat → Int32) (v : XS) (w : YS) (x3 : Int32) : Option Int32 :=
  (fn_X6_sharedSize v ).bind fun q795 =>
  (fn_X7_sharedSize w ).bind fun q799 =>
  if q795.1 = q799.1 then
    k18 q795.2 q799.2 (x3 + 5)
  else
    some 0
def fl_19 (k18 : XS → YS → Int32 → Option Int32) (L : Nat) (xs : Nat → Int32) (v : XS) (w : YS) (x3 : Int32) : Option Int32 :=
  (rd xs L (x3 + 1)).bind fun q812 =>
  (rd xs L (x3 + 2)).bind fun q817 =>
  (rd xs L (x3 + 3)).bind fun q822 =>
  (fn_X6_termAt v q812 q817 q822).bind fun q823 =>
  (rd xs L (x3 + 1)).bind fun q831 =>
  (rd xs L (x3 + 2)).bind fun q836 =>
  (rd xs L (x3 + 3)).bind fun q841 =>
  (fn_X7_termAt w q831 q836 q841).bind fun q842 =>
  if q823 = q842 then
    k18 v w (x3 + 5)
  else
    some 0
def fl_20 (k18 : XS → YS → Int32 → Option Int32) (L : Nat) (xs : Nat → Int32) (v : XS) (w : YS) (x3 : Int32) : Option Int32 :=
  (rd xs L (x3 + 1)).bind fun q855 =>
  (rd xs L (x3 + 2)).bind fun q860 =>
  (fn_X6_value v q855 q860).bind fun q861 =>
  (rd xs L (x3 + 1)).bind fun q869 =>
  (rd xs L (x3 + 2)).bind fun q874 =>
  (fn_X7_value w q869 q874).bind fun q875 =>
  if q861 = q875 then
    k18 v w (x3 + 5)
  else
    some 0
def fl_21 (k18 : XS → YS → Int32 → Option Int32) (L : Nat) (xs : Nat → Int32) (v : XS) (w : YS) (x3 : Int32) : Option Int32 :=
  (rd xs L (x3 + 1)).bind fun q888 =>
  (rd xs L (x3 + 2)).bind fun q893 =>
  (fn_X6_isSame v q888 q893).bind fun q894 =>
  (rd xs L (x3 + 1)).bind fun q902 =>
  (rd xs L (x3 + 2)).bind fun q907 =>
  (fn_X7_isSame w q902 q907).bind fun q908 =>
  if q894 = q908 then
    k18 v w (x3 + 5)
  else
    some 0
def fl_22 (k18 : XS → YS → Int32 → Option Int32) (L : Nat) (xs : Nat → Int32) (v : XS) (w : YS) (x3 : Int32) : Option Int32 :=
  (rd xs L (x3 + 1)).bind fun q921 =>
  (rd xs L (x3 + 2)).bind fun q926 =>
  (rd xs L (x3 + 3)).bind fun q931 =>
  (rd xs L (x3 + 4)).bind fun q936 =>
  (fn_X6_reduce v q921 q926 q931 q936).bind fun q937 =>
  (rd xs L (x3 + 1)).bind fun q945 =>
  (rd xs L (x3 + 2)).bind fun q950 =>
  (rd xs L (x3 + 3)).bind fun q955 =>
  (rd xs L (x3 + 4)).bind fun q960 =>
  (fn_X7_reduce w q945 q950 q955 q960).bind fun q961 =>
  if q937.1 = q961.1 then
    k18 q937.2 q961.2 (x3 + 5)
  else
    some 0
def fl_23 (k18 : XS → YS → Int32 → Option Int32) (L : Nat) (xs : Nat → Int32) (v : XS) (w : YS) (x3 : Int32) : Option Int32 :=
  (rd xs L (x3 + 1)).bind fun q974 =>
  (rd xs L (x3 + 2)).bind fun q979 =>
  (fn_X6_echelon v q974 q979).bind fun q980 =>
  (rd xs L (x3 + 1)).bind fun q988 =>
  (rd xs L (x3 + 2)).bind fun q993 =>
  (fn_X7_echelon w q988 q993).bind fun q994 =>
  if q980.1 = q994.1 then
    k18 q980.2 q994.2 (x3 + 5)
  else
    some 0
def fl_24 (k18 : XS → YS → Int32 → Option Int32) (L : Nat) (xs : Nat → Int32) (v : XS) (w : YS) (x3 : Int32) : Option Int32 :=
  (rd xs L (x3 + 1)).bind fun q1007 =>
  (fn_X6_zeros v q1007).bind fun q1008 =>
  (rd xs L (x3 + 1)).bind fun q1016 =>
  (fn_X7_zeros w q1016).bind fun q1017 =>
  if q1008 = q1017 then
    k18 v w (x3 + 5)
  else
    some 0
def fl_25 (k18 : XS → YS → Int32 → Option Int32) (L : Nat) (xs : Nat → Int32) (v : XS) (w : YS) (x3 : Int32) : Option Int32 :=
  (rd xs L (x3 + 1)).bind fun q1030 =>
  (rd xs L (x3 + 2)).bind fun q1035 =>
  (fn_X6_zeroAt v q1030 q1035).bind fun q1036 =>
  (rd xs L (x3 + 1)).bind fun q1044 =>
  (rd xs L (x3 + 2)).bind fun q1049 =>
  (fn_X7_zeroAt w q1044 q1049).bind fun q1050 =>
  if q1036 = q1050 then
    k18 v w (x3 + 5)
  else
    some 0
def fl_26 (k18 : XS → YS → Int32 → Option Int32) (L : Nat) (xs : Nat → Int32) (v : XS) (w : YS) (x3 : Int32) : Option Int32 :=
  (rd xs L (x3 + 1)).bind fun q1063 =>
  (rd xs L (x3 + 2)).bind fun q1068 =>
  (fn_X6_combine v q1063 q1068).bind fun q1069 =>
  (rd xs L (x3 + 1)).bind fun q1077 =>
  (rd xs L (x3 + 2)).bind fun q1082 =>
  (fn_X7_combine w q1077 q1082).bind fun q1083 =>
  if q1069.1 = q1083.1 then
    k18 q1069.2 q1083.2 (x3 + 5)
  else
    some 0
def fl_27 (k18 : XS → YS → Int32 → Option Int32) (L : Nat) (xs : Nat → Int32) (v : XS) (w : YS) (x3 : Int32) : Option Int32 :=
  (rd xs L (x3 + 1)).bind fun q1096 =>
  (rd xs L (x3 + 2)).bind fun q1101 =>
  (rd xs L (x3 + 3)).bind fun q1106 =>
  (fn_X6_eliminate v q1096 q1101 q1106).bind fun q1107 =>
  (rd xs L (x3 + 1)).bind fun q1115 =>
  (rd xs L (x3 + 2)).bind fun q1120 =>
  (rd xs L (x3 + 3)).bind fun q1125 =>
  (fn_X7_eliminate w q1115 q1120 q1125).bind fun q1126 =>
  if q1107.1 = q1126.1 then
    k18 q1107.2 q1126.2 (x3 + 5)
  else
    some 0
def fl_28 (k18 : XS → YS → Int32 → Option Int32) (L : Nat) (xs : Nat → Int32) (v : XS) (w : YS) (x3 : Int32) : Option Int32 :=
  (rd xs L (x3 + 1)).bind fun q1139 =>
  (rd xs L (x3 + 2)).bind fun q1144 =>
  (rd xs L (x3 + 3)).bind fun q1149 =>
  (fn_X6_fibres v q1139 q1144 q1149).bind fun q1150 =>
  (rd xs L (x3 + 1)).bind fun q1158 =>
  (rd xs L (x3 + 2)).bind fun q1163 =>
  (rd xs L (x3 + 3)).bind fun q1168 =>
  (fn_X7_fibres w q1158 q1163 q1168).bind fun q1169 =>
  if q1150 = q1169 then
    k18 v w (x3 + 5)
  else
    some 0
def fl_29 (k18 : XS → YS → Int32 → Option Int32) (L : Nat) (xs : Nat → Int32) (v : XS) (w : YS) (x3 : Int32) : Option Int32 :=
  (rd xs L (x3 + 1)).bind fun q1182 =>
  (rd xs L (x3 + 2)).bind fun q1187 =>
  (fn_X6_isMember v q1182 q1187).bind fun q1188 =>
  (rd xs L (x3 + 1)).bind fun q1196 =>
  (rd xs L (x3 + 2)).bind fun q1201 =>
  (fn_X7_isMember w q1196 q1201).bind fun q1202 =>
  if q1188 = q1202 then
    k18 v w (x3 + 5)
  else
    some 0
def fl_30 (k18 : XS → YS → Int32 → Option Int32) (L : Nat) (xs : Nat → Int32) (v : XS) (w : YS) (x3 : Int32) : Option Int32 :=
  (rd xs L (x3 + 1)).bind fun q1215 =>
  (rd xs L (x3 + 2)).bind fun q1220 =>
  (fn_X6_isSameIdeal v q1215 q1220).bind fun q1221 =>
  (rd xs L (x3 + 1)).bind fun q1229 =>
  (rd xs L (x3 + 2)).bind fun q1234 =>
  (fn_X7_isSameIdeal w q1229 q1234).bind fun q1235 =>
  if q1221 = q1235 then
    k18 v w (x3 + 5)
  else
    some 0
def fl_31 (k18 : XS → YS → Int32 → Option Int32) (L : Nat) (xs : Nat → Int32) (v : XS) (w : YS) (x3 : Int32) : Option Int32 :=
  (rd xs L (x3 + 1)).bind fun q1248 =>
  (fn_X6_fixedVariables v q1248).bind fun q1249 =>
  (rd xs L (x3 + 1)).bind fun q1257 =>
  (fn_X7_fixedVariables w q1257).bind fun q1258 =>
  if q1249 = q1258 then
    k18 v w (x3 + 5)
  else
    some 0
def fl_32 (k18 : XS → YS → Int32 → Option Int32) (L : Nat) (xs : Nat → Int32) (v : XS) (w : YS) (x3 : Int32) : Option Int32 :=
  (rd xs L (x3 + 1)).bind fun q1271 =>
  (fn_X6_type v q1271).bind fun q1272 =>
  (rd xs L (x3 + 1)).bind fun q1280 =>
  (fn_X7_type w q1280).bind fun q1281 =>
  if q1272.1 = q1281.1 then
    k18 q1272.2 q1281.2 (x3 + 5)
  else
    some 0
def fl_33 (k18 : XS → YS → Int32 → Option Int32) (L : Nat) (xs : Nat → Int32) (v : XS) (w : YS) (x3 : Int32) : Option Int32 :=
  (fn_X6_clearText v ).bind fun q1290 =>
  (fn_X7_clearText w ).bind fun q1294 =>
  if q1290.1 = q1294.1 then
    k18 q1290.2 q1294.2 (x3 + 5)
  else
    some 0
def fl_34 (k18 : XS → YS → Int32 → Option Int32) (L : Nat) (xs : Nat → Int32) (v : XS) (w : YS) (x3 : Int32) : Option Int32 :=
  (fn_X6_fault v ).bind fun q1303 =>
  (fn_X7_fault w ).bind fun q1307 =>
  if q1303 = q1307 then
    k18 v w (x3 + 5)
  else
    some 0
def fl_35 (k18 : XS → YS → Int32 → Option Int32) (L : Nat) (xs : Nat → Int32) (v : XS) (w : YS) (x3 : Int32) : Option Int32 :=
  (rd xs L (x3 + 1)).bind fun q1320 =>
  (fn_X6_read v q1320).bind fun q1321 =>
  (rd xs L (x3 + 1)).bind fun q1329 =>
  (fn_X7_read w q1329).bind fun q1330 =>
  if q1321.1 = q1330.1 then
    k18 q1321.2 q1330.2 (x3 + 5)
  else
    some 0
def fl_36 (k18 : XS → YS → Int32 → Option Int32) (L : Nat) (xs : Nat → Int32) (v : XS) (w : YS) (x3 : Int32) : Option Int32 :=
  (rd xs L (x3 + 1)).bind fun q1343 =>
  (fn_X6_textLength v q1343).bind fun q1344 =>
  (rd xs L (x3 + 1)).bind fun q1352 =>
  (fn_X7_textLength w q1352).bind fun q1353 =>
  if q1344 = q1353 then
    k18 v w (x3 + 5)
  else
    some 0
def fl_37 (k18 : XS → YS → Int32 → Option Int32) (L : Nat) (xs : Nat → Int32) (v : XS) (w : YS) (x3 : Int32) : Option Int32 :=
  (rd xs L (x3 + 1)).bind fun q1366 =>
  (rd xs L (x3 + 2)).bind fun q1371 =>
  (fn_X6_textAt v q1366 q1371).bind fun q1372 =>
  (rd xs L (x3 + 1)).bind fun q1380 =>
  (rd xs L (x3 + 2)).bind fun q1385 =>
  (fn_X7_textAt w q1380 q1385).bind fun q1386 =>
  if q1372 = q1386 then
    k18 v w (x3 + 5)
  else
    some 0
def fl_sw (k18 : XS → YS → Int32 → Option Int32) (L : Nat) (xs : Nat → Int32) (v : XS) (w : YS) (x3 : Int32) (j : Nat) : Option Int32 := match j with
  | 0 => fl_0 k18 L xs v w x3
  | 1 => fl_1 k18 L xs v w x3
  | 2 => fl_2 k18 L xs v w x3
  | 3 => fl_3 k18 L xs v w x3
  | 4 => fl_4 k18 L xs v w x3
  | 5 => fl_5 k18 L xs v w x3
  | 6 => fl_6 k18 L xs v w x3
  | 7 => fl_7 k18 L xs v w x3
  | 8 => fl_8 k18 L xs v w x3
  | 9 => fl_9 k18 L xs v w x3
  | 10 => fl_10 k18 L xs v w x3
  | 11 => fl_11 k18 L xs v w x3
  | 12 => fl_12 k18 L xs v w x3
  | 13 => fl_13 k18 L xs v w x3
  | 14 => fl_14 k18 L xs v w x3
  | 15 => fl_15 k18 L xs v w x3
  | 16 => fl_16 k18 L xs v w x3
  | 17 => fl_17 k18 L xs v w x3
  | 18 => fl_18 k18 L xs v w x3
  | 19 => fl_19 k18 L xs v w x3
  | 20 => fl_20 k18 L xs v w x3
  | 21 => fl_21 k18 L xs v w x3
  | 22 => fl_22 k18 L xs v w x3
  | 23 => fl_23 k18 L xs v w x3
  | 24 => fl_24 k18 L xs v w x3
  | 25 => fl_25 k18 L xs v w x3
  | 26 => fl_26 k18 L xs v w x3
  | 27 => fl_27 k18 L xs v w x3
  | 28 => fl_28 k18 L xs v w x3
  | 29 => fl_29 k18 L xs v w x3
  | 30 => fl_30 k18 L xs v w x3
  | 31 => fl_31 k18 L xs v w x3
  | 32 => fl_32 k18 L xs v w x3
  | 33 => fl_33 k18 L xs v w x3
  | 34 => fl_34 k18 L xs v w x3
  | 35 => fl_35 k18 L xs v w x3
  | 36 => fl_36 k18 L xs v w x3
  | 37 => fl_37 k18 L xs v w x3
  | _ => k18 v w (x3 + 5)
def fl_body (k18 : XS → YS → Int32 → Option Int32) (L : Nat) (xs : Nat → Int32) (v : XS) (w : YS) (x3 : Int32) : Option Int32 :=
  if nI L - 5 < x3 then some 1 else (rd xs L x3).bind fun q28 => fl_sw k18 L xs v w x3 (q28 &&& 63).toNatClampNeg
def fl_loop (L : Nat) (xs : Nat → Int32) : Nat → XS → YS → Int32 → Option Int32
  | 0, _, _, _ => none
  | n + 1, v, w, x3 => fl_body (fl_loop L xs n) L xs v w x3
