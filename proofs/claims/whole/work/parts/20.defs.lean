def fX11_putBytes_b42 (F : Nat) (k3 : zV → Int32 → Int32 → Option (zV)) (V0 : zV) (x1 : Int32) (x2 : Int32) : Option (zV) :=
  k3 V0 x1 (x2 + (-8))
def fX11_putBytes_l3 (F : Nat) : Nat → zV → Int32 → Int32 → Option (zV)
  | 0, _, _, _ => none
  | n + 1, V0, x1, x2 =>
    if x2 < 0 then (
    some V0)
    else
    if (4000 : Int32) ≤ (zI V0 0 1) then (
    fX11_putBytes_b42 F (fX11_putBytes_l3 F n) V0 x1 x2)
    else
    zchk (zix (zI V0 0 1) 4000) <|
    zlet (zsA V0 1 (upd (zA V0 1) ((zI V0 0 1)).toNatClampNeg (vp_nar .byte ((x1 >>> (x2 &&& 31))).toInt8.toInt32))) fun V0_4 =>
    zlet (zsI V0_4 0 1 ((zI V0_4 0 1) + (1 : Int32))) fun V0_6 =>
    fX11_putBytes_b42 F (fX11_putBytes_l3 F n) V0_6 x1 x2
def fX11_putBytes (F : Nat) (V0 : zV) (x1 : Int32) : Option (zV) :=
  fX11_putBytes_l3 F F V0 x1 (24 : Int32)
def fX11_feed (F : Nat) (V0 : zV) (x1 : Int32) (x2 : Int32) (x3 : Int32) (x4 : Int32) (x5 : Int32) : Option (Int32 × zV) :=
  if ((zI V0 0 1) + (20 : Int32)) ≤ (4000 : Int32) then (
  zbd (fX11_putBytes F V0 x1) fun q2 =>
  zbd (fX11_putBytes F q2 x2) fun q4 =>
  zbd (fX11_putBytes F q4 x3) fun q6 =>
  zbd (fX11_putBytes F q6 x4) fun q8 =>
  zbd (fX11_putBytes F q8 x5) fun q10 =>
  some ((zI q10 0 1), q10))
  else
  some ((-1 : Int32), V0)
def fX11_back (F : Nat) (V0 : zV) (x1 : Int32) : Option (Int32 × zV) :=
  if x1 < 0 then (
  some ((-1 : Int32), V0))
  else
  if x1 ≤ (zI V0 0 1) then (
  zlet (zsI V0 0 1 ((zI V0 0 1) - x1)) fun V0_3 =>
  some ((zI V0_3 0 1), V0_3))
  else
  some ((-1 : Int32), V0)
def fX10_isBlank_b24 (F : Nat) : Option (Int32) :=
  some (1 : Int32)
def fX10_isBlank (F : Nat) (x0 : Int32) : Option (Int32) :=
  if x0 = (9 : Int32) then (
  fX10_isBlank_b24 F )
  else
  if x0 = (10 : Int32) then (
  fX10_isBlank_b24 F )
  else
  if x0 = (13 : Int32) then (
  fX10_isBlank_b24 F )
  else
  if x0 = (32 : Int32) then (
  fX10_isBlank_b24 F )
  else
  some (0 : Int32)
def fX10_behindBlanks_b22 (F : Nat) (V0 : zV) (x3 : Int32) : Option (Int32) :=
  some x3
def fX10_behindBlanks_l2 (F : Nat) : Nat → zV → Int32 → Int32 → Option (Int32)
  | 0, _, _, _ => none
  | n + 1, V0, x2, x3 =>
    if x2 ≤ x3 then (
    fX10_behindBlanks_b22 F V0 x3)
    else
    zchk (zix x3 4000) <|
    zbd (fX10_isBlank F (zA V0 1 (x3).toNatClampNeg)) fun q3 =>
    if q3 = 0 then (
    fX10_behindBlanks_b22 F V0 x3)
    else
    fX10_behindBlanks_l2 F n V0 x2 (x3 + 1)
def fX10_behindBlanks (F : Nat) (V0 : zV) (x1 : Int32) (x2 : Int32) : Option (Int32) :=
  fX10_behindBlanks_l2 F F V0 x2 x1
def fX10_isLetter (F : Nat) (x0 : Int32) : Option (Int32) :=
  if x0 < (97 : Int32) then (
  some (0 : Int32))
  else
  if (122 : Int32) < x0 then (
  some (0 : Int32))
  else
  some (1 : Int32)
def fX10_isDigit (F : Nat) (x0 : Int32) : Option (Int32) :=
  if x0 < (48 : Int32) then (
  some (0 : Int32))
  else
  if (57 : Int32) < x0 then (
  some (0 : Int32))
  else
  some (1 : Int32)
def fX10_tokenEnd_b124 (F : Nat) (V0 : zV) (x4 : Int32) : Option (Int32) :=
  some x4
def fX10_tokenEnd_b106 (F : Nat) (V0 : zV) (x2 : Int32) (x4 : Int32) : Option (Int32) :=
  if x2 ≤ x4 then (
  fX10_tokenEnd_b124 F V0 x4)
  else
  zchk (zix x4 4000) <|
  if (zA V0 1 (x4).toNatClampNeg) = (61 : Int32) then (
  fX10_tokenEnd_b124 F V0 (x4 + 1))
  else
  fX10_tokenEnd_b124 F V0 x4
def fX10_tokenEnd_l66 (F : Nat) : Nat → zV → Int32 → Int32 → Option (Int32)
  | 0, _, _, _ => none
  | n + 1, V0, x2, x4 =>
    if x2 ≤ x4 then (
    fX10_tokenEnd_b124 F V0 x4)
    else
    zchk (zix x4 4000) <|
    zbd (fX10_isDigit F (zA V0 1 (x4).toNatClampNeg)) fun q6 =>
    if q6 = 0 then (
    fX10_tokenEnd_b124 F V0 x4)
    else
    fX10_tokenEnd_l66 F n V0 x2 (x4 + 1)
def fX10_tokenEnd_b53 (F : Nat) (k27 : zV → Int32 → Int32 → Option (Int32)) (V0 : zV) (x2 : Int32) (x4 : Int32) : Option (Int32) :=
  k27 V0 x2 (x4 + 1)
def fX10_tokenEnd_l27 (F : Nat) : Nat → zV → Int32 → Int32 → Option (Int32)
  | 0, _, _, _ => none
  | n + 1, V0, x2, x4 =>
    if x2 ≤ x4 then (
    fX10_tokenEnd_b124 F V0 x4)
    else
    zchk (zix x4 4000) <|
    zbd (fX10_isLetter F (zA V0 1 (x4).toNatClampNeg)) fun q11 =>
    if q11 = 0 then (
    zchk (zix x4 4000) <|
    zbd (fX10_isDigit F (zA V0 1 (x4).toNatClampNeg)) fun q15 =>
    if q15 = 0 then (
    fX10_tokenEnd_b124 F V0 x4)
    else
    fX10_tokenEnd_b53 F (fX10_tokenEnd_l27 F n) V0 x2 x4)
    else
    fX10_tokenEnd_b53 F (fX10_tokenEnd_l27 F n) V0 x2 x4
def fX10_tokenEnd_b9 (F : Nat) (V0 : zV) (x2 : Int32) : Option (Int32) :=
  some x2
def fX10_tokenEnd (F : Nat) (V0 : zV) (x1 : Int32) (x2 : Int32) : Option (Int32) :=
  if x1 < 0 then (
  fX10_tokenEnd_b9 F V0 x2)
  else
  if x1 < x2 then (
  zchk (zix x1 4000) <|
  zlet ((zA V0 1 (x1).toNatClampNeg)) fun y21 =>
  zbd (fX10_isLetter F y21) fun q23 =>
  if q23 = 0 then (
  zbd (fX10_isDigit F y21) fun q26 =>
  if q26 = 0 then (
  if y21 = (61 : Int32) then (
  fX10_tokenEnd_b106 F V0 x2 (x1 + (1 : Int32)))
  else
  if y21 = (33 : Int32) then (
  fX10_tokenEnd_b106 F V0 x2 (x1 + (1 : Int32)))
  else
  if y21 = (60 : Int32) then (
  fX10_tokenEnd_b106 F V0 x2 (x1 + (1 : Int32)))
  else
  fX10_tokenEnd_b124 F V0 (x1 + (1 : Int32)))
  else
  fX10_tokenEnd_l66 F F V0 x2 (x1 + (1 : Int32)))
  else
  fX10_tokenEnd_l27 F F V0 x2 (x1 + (1 : Int32)))
  else
  fX10_tokenEnd_b9 F V0 x2
def fX10_valueOf_b66 (F : Nat) (V0 : zV) (x4 : Int64) : Option (Int64) :=
  some x4
def fX10_valueOf_b58 (F : Nat) (k10 : zV → Int32 → Int32 → Int64 → Int32 → Option (Int64)) (V0 : zV) (x2 : Int32) (x3 : Int32) (x6 : Int32) (s0 : Int64) : Option (Int64) :=
  k10 V0 x2 x3 s0 (x6 + 1)
def fX10_valueOf_l10 (F : Nat) : Nat → zV → Int32 → Int32 → Int64 → Int32 → Option (Int64)
  | 0, _, _, _, _, _ => none
  | n + 1, V0, x2, x3, x4, x6 =>
    if x2 ≤ x6 then (
    fX10_valueOf_b66 F V0 x4)
    else
    if (4000 : Int32) ≤ x6 then (
    fX10_valueOf_b66 F V0 x4)
    else
    if x3 = (28 : Int32) then (
    zchk (zix x6 4000) <|
    fX10_valueOf_b58 F (fX10_valueOf_l10 F n) V0 x2 x3 x6 ((x4 * (10 : Int64)) + (((zA V0 1 (x6).toNatClampNeg) - (48 : Int32))).toInt64))
    else
    zchk (zix x6 4000) <|
    fX10_valueOf_b58 F (fX10_valueOf_l10 F n) V0 x2 x3 x6 ((x4 <<< (((8 : Int32)).toInt64 &&& 63)) ||| ((zA V0 1 (x6).toNatClampNeg)).toInt64)
def fX10_valueOf (F : Nat) (V0 : zV) (x1 : Int32) (x2 : Int32) (x3 : Int32) : Option (Int64) :=
  zlet ((if (0 : Int32) < x1 then x1 else (0 : Int32))) fun y6 =>
  fX10_valueOf_l10 F F V0 x2 x3 (0 : Int64) y6
def fX10_wordOrName_l2 (F : Nat) : Nat → zV → Int64 → Int32 → Option (Int32)
  | 0, _, _, _ => none
  | n + 1, V1, x1, x3 =>
    if (27 : Int32) ≤ x3 then (
    some (27 : Int32))
    else
    zchk (zix x3 27) <|
    if (lg_cmp (zB V1 1 (x3).toNatClampNeg) x1) = 0 then (
    some x3)
    else
    fX10_wordOrName_l2 F n V1 x1 (x3 + 1)
def fX10_wordOrName (F : Nat) (V1 : zV) (x1 : Int64) : Option (Int32) :=
  fX10_wordOrName_l2 F F V1 x1 (0 : Int32)
def fX10_longSign (F : Nat) (x0 : Int32) : Option (Int32) :=
  if x0 = (33 : Int32) then (
  some (38 : Int32))
  else
  if x0 = (61 : Int32) then (
  some (37 : Int32))
  else
  some (40 : Int32)
def fX10_shortSign (F : Nat) (x0 : Int32) : Option (Int32) :=
  if x0 = (40 : Int32) then (
  some (32 : Int32))
  else
  if x0 = (41 : Int32) then (
  some (33 : Int32))
  else
  if x0 = (42 : Int32) then (
  some (36 : Int32))
  else
  if x0 = (43 : Int32) then (
  some (34 : Int32))
  else
  if x0 = (44 : Int32) then (
  some (31 : Int32))
  else
  if x0 = (45 : Int32) then (
  some (35 : Int32))
  else
  if x0 = (46 : Int32) then (
  some (42 : Int32))
  else
  if x0 = (47 : Int32) then (
  some (42 : Int32))
  else
  if x0 = (48 : Int32) then (
  some (42 : Int32))
  else
  if x0 = (49 : Int32) then (
  some (42 : Int32))
  else
  if x0 = (50 : Int32) then (
  some (42 : Int32))
  else
  if x0 = (51 : Int32) then (
  some (42 : Int32))
  else
  if x0 = (52 : Int32) then (
  some (42 : Int32))
  else
  if x0 = (53 : Int32) then (
  some (42 : Int32))
  else
  if x0 = (54 : Int32) then (
  some (42 : Int32))
  else
  if x0 = (55 : Int32) then (
  some (42 : Int32))
  else
  if x0 = (56 : Int32) then (
  some (42 : Int32))
  else
  if x0 = (57 : Int32) then (
  some (42 : Int32))
  else
  if x0 = (58 : Int32) then (
  some (30 : Int32))
  else
  if x0 = (59 : Int32) then (
  some (29 : Int32))
  else
  if x0 = (60 : Int32) then (
  some (39 : Int32))
  else
  some (42 : Int32)
def fX10_kindOf (F : Nat) (V0 V1 : zV) (x2 : Int32) (x3 : Int32) : Option (Int32) :=
  if x2 < 0 then (
  some (41 : Int32))
  else
  if x3 ≤ x2 then (
  some (41 : Int32))
  else
  if x3 ≤ (4000 : Int32) then (
  zchk (zix x2 4000) <|
  zlet ((zA V0 1 (x2).toNatClampNeg)) fun y5 =>
  zbd (fX10_isLetter F y5) fun q7 =>
  if q7 = 0 then (
  zbd (fX10_isDigit F y5) fun q10 =>
  if q10 = 0 then (
  if (x3 - x2) = (2 : Int32) then (
  zbd (fX10_longSign F y5) fun q16 =>
  some q16)
  else
  zbd (fX10_shortSign F y5) fun q14 =>
  some q14)
  else
  if (x3 - x2) ≤ (5 : Int32) then (
  some (28 : Int32))
  else
  some (42 : Int32))
  else
  if (x3 - x2) ≤ (8 : Int32) then (
  zbd (fX10_valueOf F V0 x2 x3 (27 : Int32)) fun q20 =>
  zbd (fX10_wordOrName F V1 q20) fun q22 =>
  some q22)
  else
  some (42 : Int32))
  else
  some (41 : Int32)
def fX10_cut_b141 (F : Nat) (k29 : zV → zV → Int32 → Int32 → Int32 → Option (zV)) (V0 V1 : zV) (x3 : Int32) (x5 : Int32) (x6 : Int32) (s1 : Int32) (s2 : Int64) : Option (zV) :=
  zchk (zix s1 1002) <|
  zlet (zsB V1 4 (vp_updL (zB V1 4) (s1).toNatClampNeg s2)) fun V1_2 =>
  zlet (zsI V1_2 0 4 ((zI V1_2 0 4) + (1 : Int32))) fun V1_4 =>
  k29 V0 V1_4 x3 x6 x5
def fX10_cut_b127 (F : Nat) (k29 : zV → zV → Int32 → Int32 → Int32 → Option (zV)) (V0 V1 : zV) (x3 : Int32) (x4 : Int32) (x5 : Int32) (x6 : Int32) (s1 : Int32) : Option (zV) :=
  zbd (fX10_valueOf F V0 x4 x6 x5) fun q6 =>
  fX10_cut_b141 F k29 V0 V1 x3 x5 x6 s1 q6
def fX10_cut_l29 (F : Nat) : Nat → zV → zV → Int32 → Int32 → Int32 → Option (zV)
  | 0, _, _, _, _, _ => none
  | n + 1, V0, V1, x3, x4, x5 =>
    if (1002 : Int32) ≤ (zI V1 0 4) then (
    some V1)
    else
    if x5 = (41 : Int32) then (
    some V1)
    else
    if x5 = (42 : Int32) then (
    some V1)
    else
    zbd (fX10_behindBlanks F V0 x4 x3) fun q11 =>
    zbd (fX10_tokenEnd F V0 q11 x3) fun q13 =>
    zbd (fX10_kindOf F V0 V1 q11 q13) fun q15 =>
    zchk (zix (zI V1 0 4) 1002) <|
    zlet (zsA V1 2 (upd (zA V1 2) ((zI V1 0 4)).toNatClampNeg (vp_nar .byte (q15).toInt8.toInt32))) fun V1_18 =>
    zchk (zix (zI V1_18 0 4) 1002) <|
    zlet (zsA V1_18 3 (upd (zA V1_18 3) ((zI V1_18 0 4)).toNatClampNeg q11)) fun V1_21 =>
    if q15 = (27 : Int32) then (
    fX10_cut_b127 F (fX10_cut_l29 F n) V0 V1_21 x3 q11 q15 q13 (zI V1_21 0 4))
    else
    if q15 = (28 : Int32) then (
    fX10_cut_b127 F (fX10_cut_l29 F n) V0 V1_21 x3 q11 q15 q13 (zI V1_21 0 4))
    else
    fX10_cut_b141 F (fX10_cut_l29 F n) V0 V1_21 x3 q15 q13 (zI V1_21 0 4) (0 : Int64)
def fX10_cut (F : Nat) (V0 V1 : zV) (x2 : Int32) : Option (zV) :=
  zlet ((if (4000 : Int32) < x2 then (4000 : Int32) else x2)) fun y25 =>
  zlet (zsI V1 0 4 (0 : Int32)) fun V1_27 =>
  zlet (zsI V1_27 0 5 (0 : Int32)) fun V1_29 =>
  zlet (zsI V1_29 0 6 (-1 : Int32)) fun V1_31 =>
  fX10_cut_l29 F F V0 V1_31 y25 (0 : Int32) (29 : Int32)
def fX10_kindAt (F : Nat) (V1 : zV) (x1 : Int32) : Option (Int32) :=
  if x1 < 0 then (
  some (41 : Int32))
  else
  if (zI V1 0 4) ≤ x1 then (
  some (41 : Int32))
  else
  zchk (zix x1 1002) <|
  some (zA V1 2 (x1).toNatClampNeg)
def fX2_goesOnWithPart (F : Nat) (V1 V2 : zV) : Option (Int32) :=
  if (zI V1 0 5) = 0 then (
  zbd (fX10_kindAt F V1 (zI V2 0 1)) fun q2 =>
  if (6 : Int32) < q2 then (
  some (0 : Int32))
  else
  some (1 : Int32))
  else
  some (0 : Int32)
def fX9_roomFor (F : Nat) (x0 : Int32) : Option (Int32) :=
  if x0 = (0 : Int32) then (
  some (16 : Int32))
  else
  if x0 = (1 : Int32) then (
  some (8 : Int32))
  else
  if x0 = (2 : Int32) then (
  some (8 : Int32))
  else
  if x0 = (3 : Int32) then (
  some (16 : Int32))
  else
  if x0 = (4 : Int32) then (
  some (8 : Int32))
  else
  if x0 = (5 : Int32) then (
  some (24 : Int32))
  else
  if x0 = (6 : Int32) then (
  some (16 : Int32))
  else
  some (12 : Int32)
def fX10_blame (F : Nat) (V1 : zV) (x1 : Int32) (x2 : Int32) : Option (zV) :=
  if (zI V1 0 5) = 0 then (
  if x2 < 0 then (
  some V1)
  else
  if (zI V1 0 4) ≤ x2 then (
  some V1)
  else
  zlet (zsI V1 0 5 x1) fun V1_4 =>
  zchk (zix x2 1002) <|
  zlet (zsI V1_4 0 6 (zA V1_4 3 (x2).toNatClampNeg)) fun V1_7 =>
  some V1_7)
  else
  some V1
def fX2_pass (F : Nat) (V1 V2 : zV) : Option (zV × zV) :=
  if (zI V2 0 1) < (1000 : Int32) then (
  zlet (zsI V2 0 1 ((zI V2 0 1) + (1 : Int32))) fun V2_2 =>
  some (V1, V2_2))
  else
  zbd (fX10_blame F V1 (2 : Int32) (zI V2 0 1)) fun q4 =>
  some (q4, V2)
def fX2_passNewOne_b45 (F : Nat) (V1 V2 : zV) : Option (zV × zV) :=
  zbd (fX2_pass F V1 V2) fun q1 =>
  some (q1.1, q1.2)
def fX2_passNewOne (F : Nat) (V1 V2 : zV) (x1 : Int32) (x2 : Int32) : Option (zV × zV) :=
  if x1 < 0 then (
  fX2_passNewOne_b45 F V1 V2)
  else
  if (27 : Int32) ≤ x1 then (
  fX2_passNewOne_b45 F V1 V2)
  else
  zchk (zix x1 27) <|
  zchk (zix x1 27) <|
  zlet (zsA V2 1 (upd (zA V2 1) (x1).toNatClampNeg ((zA V2 1 (x1).toNatClampNeg) + (1 : Int32)))) fun V2_7 =>
  zchk (zix x1 27) <|
  if (zA V2_7 1 (x1).toNatClampNeg) ≤ x2 then (
  fX2_passNewOne_b45 F V1 V2_7)
  else
  zbd (fX10_blame F V1 (2 : Int32) (zI V2_7 0 1)) fun q11 =>
  fX2_passNewOne_b45 F q11 V2_7
def fX2_sees (F : Nat) (V1 V2 : zV) (x1 : Int32) : Option (Int32) :=
  if (zI V1 0 5) = 0 then (
  zbd (fX10_kindAt F V1 (zI V2 0 1)) fun q2 =>
  if q2 = x1 then (
  some (1 : Int32))
  else
  some (0 : Int32))
  else
  some (0 : Int32)
def fX2_need (F : Nat) (V1 V2 : zV) (x1 : Int32) : Option (zV × zV) :=
  zbd (fX2_sees F V1 V2 x1) fun q1 =>
  if q1 = 0 then (
  zbd (fX10_blame F V1 (1 : Int32) (zI V2 0 1)) fun q4 =>
  some (q4, V2))
  else
  zbd (fX2_pass F V1 V2) fun q6 =>
  some (q6.1, q6.2)
def fX2_checkPart_b118 (F : Nat) (V1 V2 : zV) : Option (zV × zV) :=
  zbd (fX2_need F V1 V2 (29 : Int32)) fun q1 =>
  some (q1.1, q1.2)
def fX2_checkPart_b81 (F : Nat) (V1 V2 : zV) : Option (zV × zV) :=
  zbd (fX2_need F V1 V2 (27 : Int32)) fun q3 =>
  fX2_checkPart_b118 F q3.1 q3.2
def fX2_checkPart_b72 (F : Nat) (V1 V2 : zV) : Option (zV × zV) :=
  zbd (fX2_need F V1 V2 (28 : Int32)) fun q5 =>
  fX2_checkPart_b118 F q5.1 q5.2
def fX2_checkPart (F : Nat) (V1 V2 : zV) : Option (zV × zV) :=
  zbd (fX10_kindAt F V1 (zI V2 0 1)) fun q7 =>
  zbd (fX9_roomFor F q7) fun q9 =>
  zbd (fX2_passNewOne F V1 V2 q7 q9) fun q11 =>
  zbd (fX2_need F q11.1 q11.2 (27 : Int32)) fun q13 =>
  if q7 = (0 : Int32) then (
  fX2_checkPart_b72 F q13.1 q13.2)
  else
  if q7 = (1 : Int32) then (
  fX2_checkPart_b72 F q13.1 q13.2)
  else
  if q7 = (2 : Int32) then (
  fX2_checkPart_b81 F q13.1 q13.2)
  else
  if q7 = (3 : Int32) then (
  fX2_checkPart_b81 F q13.1 q13.2)
  else
  if q7 = (4 : Int32) then (
  fX2_checkPart_b118 F q13.1 q13.2)
  else
  if q7 = (5 : Int32) then (
  zbd (fX2_need F q13.1 q13.2 (27 : Int32)) fun q21 =>
  zbd (fX2_sees F q21.1 q21.2 (8 : Int32)) fun q23 =>
  if q23 = 0 then (
  fX2_checkPart_b118 F q21.1 q21.2)
  else
  zbd (fX2_pass F q21.1 q21.2) fun q26 =>
  zbd (fX2_need F q26.1 q26.2 (27 : Int32)) fun q28 =>
  fX2_checkPart_b118 F q28.1 q28.2)
  else
  if q7 = (6 : Int32) then (
  fX2_checkPart_b72 F q13.1 q13.2)
  else
  fX2_checkPart_b118 F q13.1 q13.2
def fX2_checkModeHead_b39 (F : Nat) (V1 V2 : zV) : Option (zV × zV) :=
  zbd (fX2_need F V1 V2 (29 : Int32)) fun q1 =>
  some (q1.1, q1.2)
def fX2_checkModeHead (F : Nat) (V1 V2 : zV) : Option (zV × zV) :=
  zbd (fX2_passNewOne F V1 V2 (7 : Int32) (12 : Int32)) fun q3 =>
  zbd (fX2_need F q3.1 q3.2 (27 : Int32)) fun q5 =>
  zbd (fX2_need F q5.1 q5.2 (28 : Int32)) fun q7 =>
  zbd (fX2_sees F q7.1 q7.2 (9 : Int32)) fun q9 =>
  if q9 = 0 then (
  fX2_checkModeHead_b39 F q7.1 q7.2)
  else
  zbd (fX2_pass F q7.1 q7.2) fun q12 =>
  zbd (fX2_need F q12.1 q12.2 (28 : Int32)) fun q14 =>
  fX2_checkModeHead_b39 F q14.1 q14.2
def fX2_checkSum_b204 (F : Nat) (k9 : zV → zV → Int32 → Int32 → Int32 → Int32 → Option (zV × zV)) (V1 V2 : zV) (x1 : Int32) (x2 : Int32) (x3 : Int32) (x4 : Int32) : Option (zV × zV) :=
  zbd (fX2_pass F V1 V2) fun q1 =>
  k9 q1.1 q1.2 x1 x2 x3 (x4 + 1)
def fX2_checkSum_b197 (F : Nat) (k9 : zV → zV → Int32 → Int32 → Int32 → Int32 → Option (zV × zV)) (V1 V2 : zV) (x1 : Int32) (x2 : Int32) (x3 : Int32) (x4 : Int32) : Option (zV × zV) :=
  fX2_checkSum_b204 F k9 V1 V2 (x1 + (-1)) x2 x3 x4
def fX2_checkSum_b167 (F : Nat) (k9 : zV → zV → Int32 → Int32 → Int32 → Int32 → Option (zV × zV)) (V1 V2 : zV) (x1 : Int32) (x4 : Int32) : Option (zV × zV) :=
  fX2_checkSum_b204 F k9 V1 V2 x1 (1 : Int32) (0 : Int32) x4
def fX2_checkSum_b141 (F : Nat) (k9 : zV → zV → Int32 → Int32 → Int32 → Int32 → Option (zV × zV)) (V1 V2 : zV) (x1 : Int32) (x3 : Int32) (x4 : Int32) : Option (zV × zV) :=
  fX2_checkSum_b204 F k9 V1 V2 x1 (0 : Int32) x3 x4
def fX2_checkSum_b97 (F : Nat) (k9 : zV → zV → Int32 → Int32 → Int32 → Int32 → Option (zV × zV)) (V1 V2 : zV) (x1 : Int32) (x2 : Int32) (x3 : Int32) (x4 : Int32) (x5 : Int32) : Option (zV × zV) :=
  if x2 = 0 then (
  if x5 = (34 : Int32) then (
  fX2_checkSum_b167 F k9 V1 V2 x1 x4)
  else
  if x5 = (35 : Int32) then (
  fX2_checkSum_b167 F k9 V1 V2 x1 x4)
  else
  if x5 = (36 : Int32) then (
  fX2_checkSum_b167 F k9 V1 V2 x1 x4)
  else
  if x1 ≤ 0 then (
  some (V1, V2))
  else
  if x5 = (33 : Int32) then (
  fX2_checkSum_b197 F k9 V1 V2 x1 x2 x3 x4)
  else
  zbd (fX10_blame F V1 (1 : Int32) (zI V2 0 1)) fun q9 =>
  fX2_checkSum_b197 F k9 q9 V2 x1 x2 x3 x4)
  else
  if x5 = (28 : Int32) then (
  fX2_checkSum_b141 F k9 V1 V2 x1 x3 x4)
  else
  if x5 = (27 : Int32) then (
  fX2_checkSum_b141 F k9 V1 V2 x1 x3 x4)
  else
  if x5 = (25 : Int32) then (
  fX2_checkSum_b141 F k9 V1 V2 x1 x3 x4)
  else
  if x5 = (26 : Int32) then (
  fX2_checkSum_b141 F k9 V1 V2 x1 x3 x4)
  else
  zbd (fX10_blame F V1 (1 : Int32) (zI V2 0 1)) fun q15 =>
  fX2_checkSum_b141 F k9 q15 V2 x1 x3 x4
def fX2_checkSum_b77 (F : Nat) (k9 : zV → zV → Int32 → Int32 → Int32 → Int32 → Option (zV × zV)) (V1 V2 : zV) (x1 : Int32) (x2 : Int32) (x3 : Int32) (x4 : Int32) (x5 : Int32) : Option (zV × zV) :=
  if x2 = 0 then (
  fX2_checkSum_b97 F k9 V1 V2 x1 x2 x3 x4 x5)
  else
  if x5 = (35 : Int32) then (
  if x3 = 0 then (
  fX2_checkSum_b97 F k9 V1 V2 x1 x2 x3 x4 x5)
  else
  fX2_checkSum_b204 F k9 V1 V2 x1 x2 (0 : Int32) x4)
  else
  fX2_checkSum_b97 F k9 V1 V2 x1 x2 x3 x4 x5
def fX2_checkSum_b72 (F : Nat) (k9 : zV → zV → Int32 → Int32 → Int32 → Int32 → Option (zV × zV)) (V1 V2 : zV) (x1 : Int32) (x2 : Int32) (x4 : Int32) : Option (zV × zV) :=
  fX2_checkSum_b204 F k9 V1 V2 x1 x2 (1 : Int32) x4
def fX2_checkSum_l9 (F : Nat) : Nat → zV → zV → Int32 → Int32 → Int32 → Int32 → Option (zV × zV)
  | 0, _, _, _, _, _, _ => none
  | n + 1, V1, V2, x1, x2, x3, x4 =>
    if (1000 : Int32) < x4 then (
    some (V1, V2))
    else
    if (zI V1 0 5) = 0 then (
    zbd (fX10_kindAt F V1 (zI V2 0 1)) fun q22 =>
    if x2 = 0 then (
    fX2_checkSum_b77 F (fX2_checkSum_l9 F n) V1 V2 x1 x2 x3 x4 q22)
    else
    if q22 = (32 : Int32) then (
    if (x1 + 1) ≤ (6 : Int32) then (
    fX2_checkSum_b72 F (fX2_checkSum_l9 F n) V1 V2 (x1 + 1) x2 x4)
    else
    zbd (fX10_blame F V1 (2 : Int32) (zI V2 0 1)) fun q27 =>
    fX2_checkSum_b72 F (fX2_checkSum_l9 F n) q27 V2 (x1 + 1) x2 x4)
    else
    fX2_checkSum_b77 F (fX2_checkSum_l9 F n) V1 V2 x1 x2 x3 x4 q22)
    else
    some (V1, V2)
def fX2_checkSum (F : Nat) (V1 V2 : zV) : Option (zV × zV) :=
  fX2_checkSum_l9 F F V1 V2 (0 : Int32) (1 : Int32) (1 : Int32) (0 : Int32)
def fX2_isRelation (F : Nat) (x0 : Int32) : Option (Int32) :=
  if x0 < (37 : Int32) then (
  some (0 : Int32))
  else
  if (40 : Int32) < x0 then (
  some (0 : Int32))
  else
  some (1 : Int32)
def fX2_checkCond_b74 (F : Nat) (k4 : zV → zV → Int32 → Int32 → Option (zV × zV)) (V1 V2 : zV) (x1 : Int32) (x2 : Int32) : Option (zV × zV) :=
  k4 V1 V2 x1 (x2 + 1)
def fX2_checkCond_b55 (F : Nat) (k4 : zV → zV → Int32 → Int32 → Option (zV × zV)) (V1 V2 : zV) (x2 : Int32) : Option (zV × zV) :=
  zbd (fX2_checkSum F V1 V2) fun q1 =>
  zbd (fX2_sees F q1.1 q1.2 (15 : Int32)) fun q3 =>
  if q3 = 0 then (
  fX2_checkCond_b74 F k4 q1.1 q1.2 q3 x2)
  else
  zbd (fX2_pass F q1.1 q1.2) fun q6 =>
  fX2_checkCond_b74 F k4 q6.1 q6.2 q3 x2
def fX2_checkCond_l4 (F : Nat) : Nat → zV → zV → Int32 → Int32 → Option (zV × zV)
  | 0, _, _, _, _ => none
  | n + 1, V1, V2, x1, x2 =>
    if (1000 : Int32) < x2 then (
    some (V1, V2))
    else
    if x1 = 0 then (
    some (V1, V2))
    else
    zbd (fX2_checkSum F V1 V2) fun q10 =>
    zbd (fX10_kindAt F q10.1 (zI q10.2 0 1)) fun q12 =>
    zbd (fX2_isRelation F q12) fun q14 =>
    if q14 = 0 then (
    zbd (fX10_blame F q10.1 (1 : Int32) (zI q10.2 0 1)) fun q17 =>
    fX2_checkCond_b55 F (fX2_checkCond_l4 F n) q17 q10.2 x2)
    else
    zbd (fX2_pass F q10.1 q10.2) fun q19 =>
    fX2_checkCond_b55 F (fX2_checkCond_l4 F n) q19.1 q19.2 x2
def fX2_checkCond (F : Nat) (V1 V2 : zV) : Option (zV × zV) :=
  fX2_checkCond_l4 F F V1 V2 (1 : Int32) (0 : Int32)
def fX2_isAct (F : Nat) (x0 : Int32) : Option (Int32) :=
  if x0 < (16 : Int32) then (
  some (0 : Int32))
  else
  if (24 : Int32) < x0 then (
  some (0 : Int32))
  else
  some (1 : Int32)
def fX2_checkAct_b72 (F : Nat) (V1 V2 : zV) : Option (zV × zV) :=
  zbd (fX2_checkSum F V1 V2) fun q1 =>
  some (q1.1, q1.2)
def fX2_checkAct_b60 (F : Nat) (V1 V2 : zV) (x1 : Int32) : Option (zV × zV) :=
  if x1 = (16 : Int32) then (
  fX2_checkAct_b72 F V1 V2)
  else
  if x1 = (17 : Int32) then (
  fX2_checkAct_b72 F V1 V2)
  else
  some (V1, V2)
def fX2_checkAct_b54 (F : Nat) (V1 V2 : zV) (x1 : Int32) : Option (zV × zV) :=
  zbd (fX2_need F V1 V2 (27 : Int32)) fun q5 =>
  fX2_checkAct_b60 F q5.1 q5.2 x1
def fX2_checkAct (F : Nat) (V1 V2 : zV) : Option (zV × zV) :=
  zbd (fX10_kindAt F V1 (zI V2 0 1)) fun q7 =>
  zbd (fX2_isAct F q7) fun q9 =>
  if q9 = 0 then (
  zbd (fX10_blame F V1 (1 : Int32) (zI V2 0 1)) fun q17 =>
  some (q17, V2))
  else
  zbd (fX2_pass F V1 V2) fun q12 =>
  if q7 = (17 : Int32) then (
  fX2_checkAct_b54 F q12.1 q12.2 q7)
  else
  if q7 = (18 : Int32) then (
  fX2_checkAct_b54 F q12.1 q12.2 q7)
  else
  if q7 = (20 : Int32) then (
  fX2_checkAct_b54 F q12.1 q12.2 q7)
  else
  fX2_checkAct_b60 F q12.1 q12.2 q7
def fX2_checkRule_b132 (F : Nat) (V1 V2 : zV) : Option (zV × zV) :=
  zbd (fX2_need F V1 V2 (29 : Int32)) fun q1 =>
  some (q1.1, q1.2)
def fX2_checkRule_b122 (F : Nat) (k68 : zV → zV → Int32 → Option (zV × zV)) (V1 V2 : zV) (x1 : Int32) : Option (zV × zV) :=
  zbd (fX2_checkAct F V1 V2) fun q3 =>
  k68 q3.1 q3.2 (x1 + 1)
def fX2_checkRule_l68 (F : Nat) : Nat → zV → zV → Int32 → Option (zV × zV)
  | 0, _, _, _ => none
  | n + 1, V1, V2, x1 =>
    if (12 : Int32) < x1 then (
    fX2_checkRule_b132 F V1 V2)
    else
    zbd (fX2_sees F V1 V2 (31 : Int32)) fun q6 =>
    if q6 = 0 then (
    fX2_checkRule_b132 F V1 V2)
    else
    zbd (fX2_pass F V1 V2) fun q9 =>
    if x1 = (12 : Int32) then (
    zbd (fX10_kindAt F q9.1 (zI q9.2 0 1)) fun q12 =>
    zbd (fX2_isAct F q12) fun q14 =>
    if q14 = 0 then (
    fX2_checkRule_b122 F (fX2_checkRule_l68 F n) q9.1 q9.2 x1)
    else
    zbd (fX10_blame F q9.1 (2 : Int32) (zI q9.2 0 1)) fun q17 =>
    fX2_checkRule_b122 F (fX2_checkRule_l68 F n) q17 q9.2 x1)
    else
    fX2_checkRule_b122 F (fX2_checkRule_l68 F n) q9.1 q9.2 x1
def fX2_checkRule_b56 (F : Nat) (V1 V2 : zV) : Option (zV × zV) :=
  zbd (fX2_need F V1 V2 (30 : Int32)) fun q19 =>
  zbd (fX2_checkAct F q19.1 q19.2) fun q21 =>
  fX2_checkRule_l68 F F q21.1 q21.2 (1 : Int32)
def fX2_checkRule_b39 (F : Nat) (V1 V2 : zV) : Option (zV × zV) :=
  zbd (fX2_sees F V1 V2 (14 : Int32)) fun q23 =>
  if q23 = 0 then (
  fX2_checkRule_b56 F V1 V2)
  else
  zbd (fX2_pass F V1 V2) fun q26 =>
  zbd (fX2_checkCond F q26.1 q26.2) fun q28 =>
  fX2_checkRule_b56 F q28.1 q28.2
def fX2_checkRule_b26 (F : Nat) (V1 V2 : zV) : Option (zV × zV) :=
  zbd (fX2_pass F V1 V2) fun q30 =>
  fX2_checkRule_b39 F q30.1 q30.2
def fX2_checkRule (F : Nat) (V1 V2 : zV) : Option (zV × zV) :=
  zbd (fX2_passNewOne F V1 V2 (11 : Int32) (80 : Int32)) fun q32 =>
  zbd (fX2_sees F q32.1 q32.2 (12 : Int32)) fun q34 =>
  if q34 = 0 then (
  zbd (fX2_sees F q32.1 q32.2 (13 : Int32)) fun q37 =>
  if q37 = 0 then (
  zbd (fX2_need F q32.1 q32.2 (27 : Int32)) fun q40 =>
  fX2_checkRule_b39 F q40.1 q40.2)
  else
  fX2_checkRule_b26 F q32.1 q32.2)
  else
  fX2_checkRule_b26 F q32.1 q32.2
def fX2_check_b117 (F : Nat) (V1 V2 : zV) : Option (zV × zV) :=
  zbd (fX2_sees F V1 V2 (41 : Int32)) fun q1 =>
  if q1 = 0 then (
  zbd (fX10_blame F V1 (1 : Int32) (zI V2 0 1)) fun q4 =>
  some (q4, V2))
  else
  some (V1, V2)
def fX2_check_b105 (F : Nat) (k57 : zV → zV → Int32 → Option (zV × zV)) (V1 V2 : zV) (x1 : Int32) : Option (zV × zV) :=
  zbd (fX2_need F V1 V2 (10 : Int32)) fun q6 =>
  k57 q6.1 q6.2 (x1 + 1)
def fX2_check_l79 (F : Nat) (k57 : zV → zV → Int32 → Option (zV × zV)) : Nat → zV → zV → Int32 → Int32 → Option (zV × zV)
  | 0, _, _, _, _ => none
  | n + 1, V1, V2, x1, x2 =>
    if (1000 : Int32) < x2 then (
    fX2_check_b105 F k57 V1 V2 x1)
    else
    zbd (fX2_sees F V1 V2 (11 : Int32)) fun q9 =>
    if q9 = 0 then (
    fX2_check_b105 F k57 V1 V2 x1)
    else
    zbd (fX2_checkRule F V1 V2) fun q12 =>
    fX2_check_l79 F k57 n q12.1 q12.2 x1 (x2 + 1)
def fX2_check_l57 (F : Nat) : Nat → zV → zV → Int32 → Option (zV × zV)
  | 0, _, _, _ => none
  | n + 1, V1, V2, x1 =>
    if (1000 : Int32) < x1 then (
    fX2_check_b117 F V1 V2)
    else
    zbd (fX2_sees F V1 V2 (7 : Int32)) fun q15 =>
    if q15 = 0 then (
    fX2_check_b117 F V1 V2)
    else
    zbd (fX2_checkModeHead F V1 V2) fun q18 =>
    fX2_check_l79 F (fX2_check_l57 F n) F q18.1 q18.2 x1 (0 : Int32)
def fX2_check_b55 (F : Nat) (V1 V2 : zV) : Option (zV × zV) :=
  fX2_check_l57 F F V1 V2 (0 : Int32)
def fX2_check_l31 (F : Nat) : Nat → zV → zV → Int32 → Option (zV × zV)
  | 0, _, _, _ => none
  | n + 1, V1, V2, x1 =>
    if (1000 : Int32) < x1 then (
    fX2_check_b55 F V1 V2)
    else
    zbd (fX2_goesOnWithPart F V1 V2) fun q21 =>
    if q21 = 0 then (
    fX2_check_b55 F V1 V2)
    else
    zbd (fX2_checkPart F V1 V2) fun q24 =>
    fX2_check_l31 F n q24.1 q24.2 (x1 + 1)
def fX2_check_l7 (F : Nat) : Nat → zV → zV → Int32 → Option (zV × zV)
  | 0, _, _, _ => none
  | n + 1, V1, V2, x1 =>
    if (27 : Int32) ≤ x1 then (
    fX2_check_l31 F F V1 V2 (0 : Int32))
    else
    zchk (zix x1 27) <|
    zlet (zsA V2 1 (upd (zA V2 1) (x1).toNatClampNeg (0 : Int32))) fun V2_28 =>
    fX2_check_l7 F n V1 V2_28 (x1 + 1)
def fX2_check (F : Nat) (V1 V2 : zV) : Option (zV × zV) :=
  zlet (zsI V2 0 1 (0 : Int32)) fun V2_30 =>
  fX2_check_l7 F F V1 V2_30 (0 : Int32)
def fX10_size (F : Nat) (V1 : zV) : Option (Int32) :=
  some (zI V1 0 4)
def fX10_valueAt_b21 (F : Nat) (V1 : zV) : Option (Int64) :=
  some (0 : Int64)
def fX10_valueAt (F : Nat) (V1 : zV) (x1 : Int32) : Option (Int64) :=
  if x1 < 0 then (
  fX10_valueAt_b21 F V1)
  else
  if (zI V1 0 4) ≤ x1 then (
  fX10_valueAt_b21 F V1)
  else
  zchk (zix x1 1002) <|
  some (zB V1 4 (x1).toNatClampNeg)
def fX5_gatherModes_l64 (F : Nat) : Nat → zV → zV → Int32 → Option (zV)
  | 0, _, _, _ => none
  | n + 1, V1, V3, x2 =>
    if (12 : Int32) ≤ x2 then (
    some V3)
    else
    zchk (zix x2 12) <|
    zlet (zsB V3 5 (vp_updL (zB V3 5) (x2).toNatClampNeg (0 : Int64))) fun V3_3 =>
    fX5_gatherModes_l64 F n V1 V3_3 (x2 + 1)
def fX5_gatherModes_b62 (F : Nat) (V1 V3 : zV) (x1 : Int32) : Option (zV) :=
  fX5_gatherModes_l64 F F V1 V3 x1
def fX5_gatherModes_b56 (F : Nat) (k4 : zV → zV → Int32 → Int32 → Option (zV)) (V1 V3 : zV) (x1 : Int32) (x2 : Int32) : Option (zV) :=
  k4 V1 V3 x1 (x2 + 1)
def fX5_gatherModes_l4 (F : Nat) : Nat → zV → zV → Int32 → Int32 → Option (zV)
  | 0, _, _, _, _ => none
  | n + 1, V1, V3, x1, x2 =>
    zbd (fX10_size F V1) fun q5 =>
    if q5 ≤ x2 then (
    fX5_gatherModes_b62 F V1 V3 x1)
    else
    if (12 : Int32) ≤ x1 then (
    fX5_gatherModes_b62 F V1 V3 x1)
    else
    zbd (fX10_kindAt F V1 x2) fun q9 =>
    if q9 = (7 : Int32) then (
    zbd (fX10_valueAt F V1 (x2 + (1 : Int32))) fun q12 =>
    zchk (zix x1 12) <|
    zlet (zsB V3 5 (vp_updL (zB V3 5) (x1).toNatClampNeg q12)) fun V3_15 =>
    fX5_gatherModes_b56 F (fX5_gatherModes_l4 F n) V1 V3_15 (x1 + 1) x2)
    else
    fX5_gatherModes_b56 F (fX5_gatherModes_l4 F n) V1 V3 x1 x2
def fX5_gatherModes (F : Nat) (V1 V3 : zV) : Option (zV) :=
  fX5_gatherModes_l4 F F V1 V3 (0 : Int32) (0 : Int32)
def fX5_telling_l2 (F : Nat) : Nat → zV → Int64 → Int32 → Option (Int32)
  | 0, _, _, _ => none
  | n + 1, V3, x1, x3 =>
    if (zI V3 0 4) ≤ x3 then (
    some (-1 : Int32))
    else
    if (76 : Int32) ≤ x3 then (
    some (-1 : Int32))
    else
    zchk (zix x3 76) <|
    if (lg_cmp (zB V3 1 (x3).toNatClampNeg) x1) = 0 then (
    some x3)
    else
    fX5_telling_l2 F n V3 x1 (x3 + 1)
def fX5_telling (F : Nat) (V3 : zV) (x1 : Int64) : Option (Int32) :=
  fX5_telling_l2 F F V3 x1 (0 : Int32)
def fX10_setNumber (F : Nat) (V1 : zV) (x1 : Int32) (x2 : Int32) : Option (zV) :=
  if x1 < 0 then (
  some V1)
  else
  if (zI V1 0 4) ≤ x1 then (
  some V1)
  else
  zchk (zix x1 1002) <|
  zlet (zsB V1 4 (vp_updL (zB V1 4) (x1).toNatClampNeg (x2).toInt64)) fun V1_4 =>
  some V1_4
def fX5_tell (F : Nat) (V1 V3 : zV) (x1 : Int32) (x2 : Int32) : Option (zV × zV) :=
  zbd (fX10_valueAt F V1 x1) fun q1 =>
  zbd (fX5_telling F V3 q1) fun q3 =>
  if q3 = (-1 : Int32) then (
  if (76 : Int32) ≤ (zI V3 0 4) then (
  some (V1, V3))
  else
  if x2 < 0 then (
  some (V1, V3))
  else
  if (27 : Int32) ≤ x2 then (
  some (V1, V3))
  else
  zbd (fX10_valueAt F V1 x1) fun q9 =>
  zchk (zix (zI V3 0 4) 76) <|
  zlet (zsB V3 1 (vp_updL (zB V3 1) ((zI V3 0 4)).toNatClampNeg q9)) fun V3_12 =>
  zchk (zix (zI V3_12 0 4) 76) <|
  zlet (zsA V3_12 2 (upd (zA V3_12 2) ((zI V3_12 0 4)).toNatClampNeg x2)) fun V3_15 =>
  zchk (zix x2 27) <|
  zchk (zix (zI V3_15 0 4) 76) <|
  zlet (zsA V3_15 3 (upd (zA V3_15 3) ((zI V3_15 0 4)).toNatClampNeg (zA V3_15 4 (x2).toNatClampNeg))) fun V3_19 =>
  zlet (zsI V3_19 0 4 ((zI V3_19 0 4) + (1 : Int32))) fun V3_21 =>
  zchk (zix x2 27) <|
  zbd (fX10_setNumber F V1 x1 (zA V3_21 4 (x2).toNatClampNeg)) fun q24 =>
  zchk (zix x2 27) <|
  zchk (zix x2 27) <|
  zlet (zsA V3_21 4 (upd (zA V3_21 4) (x2).toNatClampNeg ((zA V3_21 4 (x2).toNatClampNeg) + (1 : Int32)))) fun V3_28 =>
  some (q24, V3_28))
  else
  zbd (fX10_blame F V1 (3 : Int32) x1) fun q30 =>
  some (q30, V3)
def fX5_modeNamed_l2 (F : Nat) : Nat → zV → Int64 → Int32 → Option (Int32)
  | 0, _, _, _ => none
  | n + 1, V3, x1, x3 =>
    if (12 : Int32) ≤ x3 then (
    some (-1 : Int32))
    else
    zchk (zix x3 12) <|
    if (lg_cmp (zB V3 5 (x3).toNatClampNeg) x1) = 0 then (
    some x3)
    else
    fX5_modeNamed_l2 F n V3 x1 (x3 + 1)
def fX5_modeNamed (F : Nat) (V3 : zV) (x1 : Int64) : Option (Int32) :=
  fX5_modeNamed_l2 F F V3 x1 (0 : Int32)
def fX5_use_b74 (F : Nat) (V1 V3 : zV) (x1 : Int32) (x6 : Int32) : Option (zV) :=
  if x6 = (-1 : Int32) then (
  zbd (fX10_blame F V1 (4 : Int32) x1) fun q4 =>
  some q4)
  else
  zbd (fX10_setNumber F V1 x1 x6) fun q2 =>
  some q2
def fX5_use_b61 (F : Nat) (V1 V3 : zV) (x1 : Int32) (x2 : Int32) (x3 : Int64) (x6 : Int32) : Option (zV) :=
  if x2 = (7 : Int32) then (
  zbd (fX5_modeNamed F V3 x3) fun q7 =>
  fX5_use_b74 F V1 V3 x1 q7)
  else
  fX5_use_b74 F V1 V3 x1 x6
def fX5_use_b56 (F : Nat) (V1 V3 : zV) (x1 : Int32) (s0 : Int32) : Option (zV) :=
  fX5_use_b74 F V1 V3 x1 s0
def fX5_use (F : Nat) (V1 V3 : zV) (x1 : Int32) (x2 : Int32) : Option (zV) :=
  zbd (fX10_valueAt F V1 x1) fun q9 =>
  zbd (fX5_telling F V3 q9) fun q11 =>
  if q11 < 0 then (
  fX5_use_b61 F V1 V3 x1 x2 q9 (-1 : Int32))
  else
  if (76 : Int32) ≤ q11 then (
  fX5_use_b61 F V1 V3 x1 x2 q9 (-1 : Int32))
  else
  zchk (zix q11 76) <|
  if (zA V3 2 (q11).toNatClampNeg) = x2 then (
  zchk (zix q11 76) <|
  fX5_use_b56 F V1 V3 x1 (zA V3 3 (q11).toNatClampNeg))
  else
  fX5_use_b56 F V1 V3 x1 (-1 : Int32)
def fX5_checkSecondName_b36 (F : Nat) (V1 V3 : zV) (x1 : Int32) (s1 : Int32) (s2 : Int32) : Option (zV) :=
  zbd (fX5_use F V1 V3 s1 s2) fun q1 =>
  zbd (fX10_valueAt F q1 x1) fun q3 =>
  zbd (fX10_valueAt F q1 (x1 - (1 : Int32))) fun q5 =>
  if (lg_cmp q3 q5) = 0 then (
  zbd (fX10_blame F q1 (5 : Int32) x1) fun q8 =>
  some q8)
  else
  some q1
def fX5_checkSecondName_b24 (F : Nat) (V1 V3 : zV) (x1 : Int32) (x2 : Int32) : Option (zV) :=
  if x2 = (2 : Int32) then (
  fX5_checkSecondName_b36 F V1 V3 x1 x1 (1 : Int32))
  else
  fX5_checkSecondName_b36 F V1 V3 x1 x1 (4 : Int32)
def fX5_checkSecondName (F : Nat) (V1 V3 : zV) (x1 : Int32) (x2 : Int32) : Option (zV) :=
  if x2 = (3 : Int32) then (
  zbd (fX5_use F V1 V3 x1 (0 : Int32)) fun q16 =>
  some q16)
  else
  if x2 = (2 : Int32) then (
  fX5_checkSecondName_b24 F V1 V3 x1 x2)
  else
  if x2 = (5 : Int32) then (
  fX5_checkSecondName_b24 F V1 V3 x1 x2)
  else
  zbd (fX5_use F V1 V3 x1 (6 : Int32)) fun q14 =>
  some q14
def fX5_checkName_b203 (F : Nat) (V1 V3 : zV) (x1 : Int32) : Option (zV × zV) :=
  zbd (fX5_use F V1 V3 x1 (6 : Int32)) fun q1 =>
  some (q1, V3)
def fX5_checkName_b175 (F : Nat) (V1 V3 : zV) (x1 : Int32) : Option (zV × zV) :=
  zbd (fX5_use F V1 V3 x1 (0 : Int32)) fun q3 =>
  some (q3, V3)
def fX5_checkName_b157 (F : Nat) (V1 V3 : zV) (x1 : Int32) : Option (zV × zV) :=
  zbd (fX5_use F V1 V3 x1 (1 : Int32)) fun q5 =>
  some (q5, V3)
def fX5_checkName_b148 (F : Nat) (V1 V3 : zV) (x1 : Int32) (x2 : Int32) : Option (zV × zV) :=
  zbd (fX5_tell F V1 V3 x1 x2) fun q7 =>
  some (q7.1, q7.2)
def fX5_checkName (F : Nat) (V1 V3 : zV) (x1 : Int32) : Option (zV × zV) :=
  zbd (fX10_kindAt F V1 (x1 - (1 : Int32))) fun q9 =>
  zbd (fX10_kindAt F V1 (x1 - (2 : Int32))) fun q11 =>
  if q9 = (0 : Int32) then (
  fX5_checkName_b148 F V1 V3 x1 q9)
  else
  if q9 = (1 : Int32) then (
  fX5_checkName_b148 F V1 V3 x1 q9)
  else
  if q9 = (2 : Int32) then (
  fX5_checkName_b157 F V1 V3 x1)
  else
  if q9 = (3 : Int32) then (
  fX5_checkName_b148 F V1 V3 x1 q9)
  else
  if q9 = (4 : Int32) then (
  fX5_checkName_b148 F V1 V3 x1 q9)
  else
  if q9 = (5 : Int32) then (
  zbd (fX5_use F V1 V3 x1 (4 : Int32)) fun q19 =>
  some (q19, V3))
  else
  if q9 = (6 : Int32) then (
  fX5_checkName_b148 F V1 V3 x1 q9)
  else
  if q9 = (7 : Int32) then (
  fX5_checkName_b148 F V1 V3 x1 q9)
  else
  if q9 = (8 : Int32) then (
  fX5_checkName_b175 F V1 V3 x1)
  else
  if q9 = (9 : Int32) then (
  fX5_checkName_b203 F V1 V3 x1)
  else
  if q9 = (10 : Int32) then (
  fX5_checkName_b203 F V1 V3 x1)
  else
  if q9 = (11 : Int32) then (
  fX5_checkName_b175 F V1 V3 x1)
  else
  if q9 = (12 : Int32) then (
  fX5_checkName_b203 F V1 V3 x1)
  else
  if q9 = (13 : Int32) then (
  fX5_checkName_b203 F V1 V3 x1)
  else
  if q9 = (14 : Int32) then (
  fX5_checkName_b203 F V1 V3 x1)
  else
  if q9 = (15 : Int32) then (
  fX5_checkName_b203 F V1 V3 x1)
  else
  if q9 = (16 : Int32) then (
  fX5_checkName_b203 F V1 V3 x1)
  else
  if q9 = (17 : Int32) then (
  fX5_checkName_b203 F V1 V3 x1)
  else
  if q9 = (18 : Int32) then (
  zbd (fX5_use F V1 V3 x1 (7 : Int32)) fun q34 =>
  some (q34, V3))
  else
  if q9 = (19 : Int32) then (
  fX5_checkName_b203 F V1 V3 x1)
  else
  if q9 = (20 : Int32) then (
  fX5_checkName_b157 F V1 V3 x1)
  else
  if q9 = (21 : Int32) then (
  fX5_checkName_b203 F V1 V3 x1)
  else
  if q9 = (22 : Int32) then (
  fX5_checkName_b203 F V1 V3 x1)
  else
  if q9 = (23 : Int32) then (
  fX5_checkName_b203 F V1 V3 x1)
  else
  if q9 = (24 : Int32) then (
  fX5_checkName_b203 F V1 V3 x1)
  else
  if q9 = (25 : Int32) then (
  fX5_checkName_b203 F V1 V3 x1)
  else
  if q9 = (26 : Int32) then (
  fX5_checkName_b203 F V1 V3 x1)
  else
  if q9 = (27 : Int32) then (
  zbd (fX5_checkSecondName F V1 V3 x1 q11) fun q45 =>
  some (q45, V3))
  else
  fX5_checkName_b203 F V1 V3 x1
def fX5_check_b127 (F : Nat) (k35 : zV → zV → Int32 → Option (zV × zV)) (V1 V3 : zV) (x1 : Int32) : Option (zV × zV) :=
  k35 V1 V3 (x1 + 1)
def fX5_check_l35 (F : Nat) : Nat → zV → zV → Int32 → Option (zV × zV)
  | 0, _, _, _ => none
  | n + 1, V1, V3, x1 =>
    zbd (fX10_size F V1) fun q1 =>
    if q1 ≤ x1 then (
    some (V1, V3))
    else
    if (zI V1 0 5) = 0 then (
    zbd (fX10_kindAt F V1 x1) fun q5 =>
    if q5 = (27 : Int32) then (
    zbd (fX5_checkName F V1 V3 x1) fun q19 =>
    fX5_check_b127 F (fX5_check_l35 F n) q19.1 q19.2 x1)
    else
    zbd (fX10_kindAt F V1 x1) fun q8 =>
    if q8 = (28 : Int32) then (
    zbd (fX10_kindAt F V1 (x1 - (1 : Int32))) fun q11 =>
    if q11 = (9 : Int32) then (
    zbd (fX10_valueAt F V1 x1) fun q14 =>
    if (lg_cmp q14 (0 : Int64)) = 0 then (
    zbd (fX10_blame F V1 (5 : Int32) x1) fun q17 =>
    fX5_check_b127 F (fX5_check_l35 F n) q17 V3 x1)
    else
    fX5_check_b127 F (fX5_check_l35 F n) V1 V3 x1)
    else
    fX5_check_b127 F (fX5_check_l35 F n) V1 V3 x1)
    else
    fX5_check_b127 F (fX5_check_l35 F n) V1 V3 x1)
    else
    some (V1, V3)
def fX5_check_l7 (F : Nat) : Nat → zV → zV → Int32 → Option (zV × zV)
  | 0, _, _, _ => none
  | n + 1, V1, V3, x1 =>
    if (27 : Int32) ≤ x1 then (
    zbd (fX5_gatherModes F V1 V3) fun q22 =>
    fX5_check_l35 F F V1 q22 (0 : Int32))
    else
    zchk (zix x1 27) <|
    zlet (zsA V3 4 (upd (zA V3 4) (x1).toNatClampNeg (0 : Int32))) fun V3_25 =>
    fX5_check_l7 F n V1 V3_25 (x1 + 1)
def fX5_check (F : Nat) (V1 V3 : zV) : Option (zV × zV) :=
  zlet (zsI V3 0 4 (0 : Int32)) fun V3_27 =>
  fX5_check_l7 F F V1 V3_27 (0 : Int32)
def fX10_numberAt (F : Nat) (V1 : zV) (x1 : Int32) : Option (Int32) :=
  zbd (fX10_valueAt F V1 x1) fun q1 =>
  some (q1).toInt32
def fX9_setApart (F : Nat) (V4 : zV) (x1 : Int32) (x2 : Int32) : Option (zV) :=
  if x1 < 0 then (
  some V4)
  else
  if (8 : Int32) ≤ x1 then (
  some V4)
  else
  if x2 < 0 then (
  some V4)
  else
  if (8 : Int32) ≤ x2 then (
  some V4)
  else
  zchk (zix x1 8) <|
  zchk (zix x1 8) <|
  zlet (zsA V4 4 (upd (zA V4 4) (x1).toNatClampNeg ((zA V4 4 (x1).toNatClampNeg) ||| ((1 : Int32) <<< (x2 &&& 31))))) fun V4_7 =>
  zchk (zix x2 8) <|
  zchk (zix x2 8) <|
  zlet (zsA V4_7 4 (upd (zA V4_7 4) (x2).toNatClampNeg ((zA V4_7 4 (x2).toNatClampNeg) ||| ((1 : Int32) <<< (x1 &&& 31))))) fun V4_11 =>
  some V4_11
def fX9_takeOne_b270 (F : Nat) (V1 V4 : zV) (s1 : Int32) (s2 : Int32) : Option (zV) :=
  zchk (zix s1 12) <|
  zlet (zsA V4 11 (upd (zA V4 11) (s1).toNatClampNeg s2)) fun V4_2 =>
  some V4_2
def fX9_takeOne_b216 (F : Nat) (V1 V4 : zV) (x2 : Int32) (x3 : Int32) (x4 : Int32) (x6 : Int32) : Option (zV) :=
  if x3 = (7 : Int32) then (
  if (12 : Int32) ≤ x4 then (
  some V4)
  else
  zchk (zix x4 12) <|
  zlet (zsA V4 10 (upd (zA V4 10) (x4).toNatClampNeg x6)) fun V4_7 =>
  zbd (fX10_kindAt F V1 (x2 + (3 : Int32))) fun q9 =>
  if q9 = (9 : Int32) then (
  zbd (fX10_numberAt F V1 (x2 + (4 : Int32))) fun q12 =>
  fX9_takeOne_b270 F V1 V4_7 x4 q12)
  else
  fX9_takeOne_b270 F V1 V4_7 x4 (0 : Int32))
  else
  some V4
def fX9_takeOne_b188 (F : Nat) (V1 V4 : zV) (x2 : Int32) (x3 : Int32) (x4 : Int32) (x6 : Int32) : Option (zV) :=
  if x3 = (6 : Int32) then (
  if (16 : Int32) ≤ x4 then (
  fX9_takeOne_b216 F V1 V4 x2 x3 x4 x6)
  else
  zchk (zix x4 16) <|
  zlet (zsA V4 9 (upd (zA V4 9) (x4).toNatClampNeg x6)) fun V4_17 =>
  some V4_17)
  else
  fX9_takeOne_b216 F V1 V4 x2 x3 x4 x6
def fX9_takeOne_b184 (F : Nat) (V1 V4 : zV) (s1 : Int32) (s2 : Int32) : Option (zV) :=
  zchk (zix s1 24) <|
  zlet (zsA V4 8 (upd (zA V4 8) (s1).toNatClampNeg s2)) fun V4_20 =>
  some V4_20
def fX9_takeOne_b122 (F : Nat) (V1 V4 : zV) (x2 : Int32) (x3 : Int32) (x4 : Int32) (x5 : Int32) (x6 : Int32) : Option (zV) :=
  if x3 = (5 : Int32) then (
  if (24 : Int32) ≤ x4 then (
  fX9_takeOne_b188 F V1 V4 x2 x3 x4 x6)
  else
  zchk (zix x4 24) <|
  zlet (zsA V4 6 (upd (zA V4 6) (x4).toNatClampNeg x5)) fun V4_25 =>
  zchk (zix x4 24) <|
  zlet (zsA V4_25 7 (upd (zA V4_25 7) (x4).toNatClampNeg x6)) fun V4_28 =>
  zbd (fX10_kindAt F V1 (x2 + (3 : Int32))) fun q30 =>
  if q30 = (8 : Int32) then (
  zbd (fX10_numberAt F V1 (x2 + (4 : Int32))) fun q33 =>
  fX9_takeOne_b184 F V1 V4_28 x4 q33)
  else
  fX9_takeOne_b184 F V1 V4_28 x4 (-1 : Int32))
  else
  fX9_takeOne_b188 F V1 V4 x2 x3 x4 x6
def fX9_takeOne_b79 (F : Nat) (V1 V4 : zV) (x2 : Int32) (x3 : Int32) (x4 : Int32) (x5 : Int32) (x6 : Int32) : Option (zV) :=
  if x3 = (2 : Int32) then (
  zbd (fX9_setApart F V4 x5 x6) fun q41 =>
  some q41)
  else
  if x3 = (3 : Int32) then (
  if (16 : Int32) ≤ x4 then (
  fX9_takeOne_b122 F V1 V4 x2 x3 x4 x5 x6)
  else
  zchk (zix x4 16) <|
  zlet (zsA V4 5 (upd (zA V4 5) (x4).toNatClampNeg x6)) fun V4_39 =>
  some V4_39)
  else
  fX9_takeOne_b122 F V1 V4 x2 x3 x4 x5 x6
def fX9_takeOne_b52 (F : Nat) (V1 V4 : zV) (x2 : Int32) (x3 : Int32) (x4 : Int32) (x5 : Int32) (x6 : Int32) : Option (zV) :=
  if x3 = (1 : Int32) then (
  if (8 : Int32) ≤ x4 then (
  fX9_takeOne_b79 F V1 V4 x2 x3 x4 x5 x6)
  else
  zchk (zix x4 8) <|
  zlet (zsA V4 3 (upd (zA V4 3) (x4).toNatClampNeg x6)) fun V4_46 =>
  some V4_46)
  else
  fX9_takeOne_b79 F V1 V4 x2 x3 x4 x5 x6
def fX9_takeOne (F : Nat) (V1 V4 : zV) (x2 : Int32) (x3 : Int32) : Option (zV) :=
  zchk (zix x3 27) <|
  zlet ((zA V4 1 (x3).toNatClampNeg)) fun y49 =>
  zbd (fX10_numberAt F V1 (x2 + (1 : Int32))) fun q51 =>
  zbd (fX10_numberAt F V1 (x2 + (2 : Int32))) fun q53 =>
  if x3 = 0 then (
  if (16 : Int32) ≤ y49 then (
  fX9_takeOne_b52 F V1 V4 x2 x3 y49 q51 q53)
  else
  zchk (zix y49 16) <|
  zlet (zsA V4 2 (upd (zA V4 2) (y49).toNatClampNeg q53)) fun V4_58 =>
  some V4_58)
  else
  fX9_takeOne_b52 F V1 V4 x2 x3 y49 q51 q53
def fX9_putInOrder_b70 (F : Nat) (k2 : zV → Int32 → Option (zV)) (V4 : zV) (x1 : Int32) (x2 : Int32) : Option (zV) :=
  zchk (zix x2 12) <|
  zlet (zsA V4 12 (upd (zA V4 12) (x2).toNatClampNeg x1)) fun V4_2 =>
  k2 V4_2 (x1 + 1)
def fX9_putInOrder_l24 (F : Nat) (k2 : zV → Int32 → Option (zV)) : Nat → zV → Int32 → Int32 → Option (zV)
  | 0, _, _, _ => none
  | n + 1, V4, x1, x2 =>
    if x2 ≤ 0 then (
    fX9_putInOrder_b70 F k2 V4 x1 x2)
    else
    zchk (zix (x2 - (1 : Int32)) 12) <|
    zchk (zix (zA V4 12 ((x2 - (1 : Int32))).toNatClampNeg) 12) <|
    zchk (zix x1 12) <|
    if (zA V4 10 (x1).toNatClampNeg) ≤ (zA V4 10 ((zA V4 12 ((x2 - (1 : Int32))).toNatClampNeg)).toNatClampNeg) then (
    fX9_putInOrder_b70 F k2 V4 x1 x2)
    else
    zchk (zix (x2 - (1 : Int32)) 12) <|
    zchk (zix x2 12) <|
    zlet (zsA V4 12 (upd (zA V4 12) (x2).toNatClampNeg (zA V4 12 ((x2 - (1 : Int32))).toNatClampNeg))) fun V4_11 =>
    fX9_putInOrder_l24 F k2 n V4_11 x1 (x2 + (-1))
def fX9_putInOrder_l2 (F : Nat) : Nat → zV → Int32 → Option (zV)
  | 0, _, _ => none
  | n + 1, V4, x1 =>
    if (zA V4 1 ((7 : Int32)).toNatClampNeg) ≤ x1 then (
    some V4)
    else
    if (12 : Int32) ≤ x1 then (
    some V4)
    else
    fX9_putInOrder_l24 F (fX9_putInOrder_l2 F n) F V4 x1 x1
def fX9_putInOrder (F : Nat) (V4 : zV) : Option (zV) :=
  fX9_putInOrder_l2 F F V4 (0 : Int32)
def fX6_openRule_b50 (F : Nat) (V1 V4 : zV) : Option (zV) :=
  zchk (zix (zI V4 13 3) 80) <|
  zlet (zsA V4 18 (upd (zA V4 18) ((zI V4 13 3)).toNatClampNeg (-1 : Int32))) fun V4_2 =>
  zchk (zix (zI V4_2 13 3) 80) <|
  zlet (zsA V4_2 19 (upd (zA V4_2 19) ((zI V4_2 13 3)).toNatClampNeg (1000 : Int32))) fun V4_5 =>
  zchk (zix (zI V4_5 13 3) 80) <|
  zlet (zsA V4_5 20 (upd (zA V4_5 20) ((zI V4_5 13 3)).toNatClampNeg (vp_nar .boolean (0 : Int32)))) fun V4_8 =>
  zchk (zix (zI V4_8 13 3) 80) <|
  zlet (zsA V4_8 21 (upd (zA V4_8 21) ((zI V4_8 13 3)).toNatClampNeg (vp_nar .boolean (0 : Int32)))) fun V4_11 =>
  some V4_11
def fX6_openRule_b49 (F : Nat) (V1 V4 : zV) (s1 : Int32) (s2 : Int32) : Option (zV) :=
  zchk (zix s1 80) <|
  zlet (zsA V4 17 (upd (zA V4 17) (s1).toNatClampNeg s2)) fun V4_14 =>
  fX6_openRule_b50 F V1 V4_14
def fX6_openRule (F : Nat) (V1 V4 : zV) (x2 : Int32) : Option (zV) :=
  zbd (fX10_kindAt F V1 x2) fun q16 =>
  if q16 = (27 : Int32) then (
  zbd (fX10_numberAt F V1 x2) fun q20 =>
  zchk (zix (zI V4 13 3) 80) <|
  zlet (zsA V4 17 (upd (zA V4 17) ((zI V4 13 3)).toNatClampNeg q20)) fun V4_23 =>
  fX6_openRule_b50 F V1 V4_23)
  else
  if q16 = (12 : Int32) then (
  fX6_openRule_b49 F V1 V4 (zI V4 13 3) (-1 : Int32))
  else
  fX6_openRule_b49 F V1 V4 (zI V4 13 3) (-2 : Int32)
def fX6_nodeOf (F : Nat) (x0 : Int32) (x1 : Int32) : Option (Int32) :=
  if x1 = (-1 : Int32) then (
  some ((2 : Int32) * x0))
  else
  some (((2 : Int32) * x0) + (1 : Int32))
def fX6_addLead (F : Nat) (V4 : zV) (x1 : Int32) (x2 : Int32) : Option (zV) :=
  if x1 < 0 then (
  some V4)
  else
  if (24 : Int32) ≤ x1 then (
  some V4)
  else
  if x2 < 0 then (
  some V4)
  else
  if (24 : Int32) ≤ x2 then (
  some V4)
  else
  zchk (zix x1 24) <|
  zchk (zix x1 24) <|
  zlet (zsA V4 22 (upd (zA V4 22) (x1).toNatClampNeg ((zA V4 22 (x1).toNatClampNeg) ||| ((1 : Int32) <<< (x2 &&& 31))))) fun V4_7 =>
  some V4_7
def fX6_takeIntoRule_b162 (F : Nat) (V4 : zV) (x1 : Int32) (x4 : Int32) (x5 : Int32) : Option (zV) :=
  zchk (zix x1 80) <|
  if 0 ≤ (zA V4 17 (x1).toNatClampNeg) then (
  some V4)
  else
  if x5 = (19 : Int32) then (
  zchk (zix x1 80) <|
  zbd (fX6_nodeOf F x4 (zA V4 17 (x1).toNatClampNeg)) fun q5 =>
  zbd (fX6_nodeOf F x4 (-2 : Int32)) fun q7 =>
  zbd (fX6_addLead F V4 q5 q7) fun q9 =>
  some q9)
  else
  some V4
def fX6_takeIntoRule_b123 (F : Nat) (V4 : zV) (x1 : Int32) (x3 : Int32) (x4 : Int32) (x5 : Int32) : Option (zV) :=
  zchk (zix x1 80) <|
  if 0 ≤ (zA V4 17 (x1).toNatClampNeg) then (
  fX6_takeIntoRule_b162 F V4 x1 x4 x5)
  else
  if x5 = (18 : Int32) then (
  zchk (zix x1 80) <|
  zbd (fX6_nodeOf F x4 (zA V4 17 (x1).toNatClampNeg)) fun q15 =>
  zbd (fX6_nodeOf F x3 (-1 : Int32)) fun q17 =>
  zbd (fX6_addLead F V4 q15 q17) fun q19 =>
  some q19)
  else
  fX6_takeIntoRule_b162 F V4 x1 x4 x5
def fX6_takeIntoRule_b116 (F : Nat) (V4 : zV) (x1 : Int32) (x3 : Int32) (x4 : Int32) (x5 : Int32) : Option (zV) :=
  zchk (zix x1 80) <|
  zlet (zsA V4 20 (upd (zA V4 20) (x1).toNatClampNeg (vp_nar .boolean (1 : Int32)))) fun V4_22 =>
  fX6_takeIntoRule_b123 F V4_22 x1 x3 x4 x5
def fX6_takeIntoRule (F : Nat) (V4 : zV) (x1 : Int32) (x2 : Int32) (x3 : Int32) (x4 : Int32) : Option (zV) :=
  if x1 < 0 then (
  some V4)
  else
  if (80 : Int32) ≤ x1 then (
  some V4)
  else
  if x4 < 0 then (
  some V4)
  else
  if x2 < 0 then (
  some V4)
  else
  if x2 < (1000 : Int32) then (
  zchk (zix x2 1000) <|
  zlet ((zA V4 14 (x2).toNatClampNeg)) fun y30 =>
  if y30 = (14 : Int32) then (
  zchk (zix x1 80) <|
  zlet (zsA V4 18 (upd (zA V4 18) (x1).toNatClampNeg (x2 + (1 : Int32)))) fun V4_45 =>
  fX6_takeIntoRule_b123 F V4_45 x1 x3 x4 y30)
  else
  if y30 = (30 : Int32) then (
  zchk (zix x1 80) <|
  zlet (zsA V4 19 (upd (zA V4 19) (x1).toNatClampNeg (x2 + (1 : Int32)))) fun V4_42 =>
  fX6_takeIntoRule_b123 F V4_42 x1 x3 x4 y30)
  else
  if y30 = (21 : Int32) then (
  zchk (zix x1 80) <|
  zlet (zsA V4 21 (upd (zA V4 21) (x1).toNatClampNeg (vp_nar .boolean (1 : Int32)))) fun V4_39 =>
  fX6_takeIntoRule_b123 F V4_39 x1 x3 x4 y30)
  else
  if y30 = (16 : Int32) then (
  fX6_takeIntoRule_b116 F V4 x1 x3 x4 y30)
  else
  if y30 = (18 : Int32) then (
  fX6_takeIntoRule_b116 F V4 x1 x3 x4 y30)
  else
  if y30 = (23 : Int32) then (
  fX6_takeIntoRule_b116 F V4 x1 x3 x4 y30)
  else
  fX6_takeIntoRule_b123 F V4 x1 x3 x4 y30)
  else
  some V4
def fX6_findRing_b104 (F : Nat) (k77 : zV → Int32 → Option (zV)) (V4 : zV) (x2 : Int32) : Option (zV) :=
  k77 V4 (x2 + (-1))
def fX6_findRing_l77 (F : Nat) : Nat → zV → Int32 → Option (zV)
  | 0, _, _ => none
  | n + 1, V4, x2 =>
    if x2 < 0 then (
    some V4)
    else
    zchk (zix ((2 : Int32) * x2) 24) <|
    if (((zA V4 22 (((2 : Int32) * x2)).toNatClampNeg) >>> (((2 : Int32) * x2) &&& 31)) &&& (1 : Int32)) = (1 : Int32) then (
    zlet (zsI V4 13 11 x2) fun V4_4 =>
    fX6_findRing_b104 F (fX6_findRing_l77 F n) V4_4 x2)
    else
    fX6_findRing_b104 F (fX6_findRing_l77 F n) V4 x2
def fX6_findRing_b51 (F : Nat) (k13 : zV → Int32 → Int32 → Int32 → Option (zV)) (V4 : zV) (x1 : Int32) (x2 : Int32) (x3 : Int32) : Option (zV) :=
  k13 V4 x1 x2 (x3 + 1)
def fX6_findRing_l13 (F : Nat) (k2 : zV → Int32 → Int32 → Option (zV)) : Nat → zV → Int32 → Int32 → Int32 → Option (zV)
  | 0, _, _, _, _ => none
  | n + 1, V4, x1, x2, x3 =>
    if (24 : Int32) ≤ x3 then (
    k2 V4 x1 (x2 + 1))
    else
    zchk (zix x3 24) <|
    if (((zA V4 22 (x3).toNatClampNeg) >>> (x2 &&& 31)) &&& (1 : Int32)) = (1 : Int32) then (
    zchk (zix x3 24) <|
    zchk (zix x2 24) <|
    zchk (zix x3 24) <|
    zlet (zsA V4 22 (upd (zA V4 22) (x3).toNatClampNeg ((zA V4 22 (x3).toNatClampNeg) ||| (zA V4 22 (x2).toNatClampNeg)))) fun V4_12 =>
    fX6_findRing_b51 F (fX6_findRing_l13 F k2 n) V4_12 x1 x2 x3)
    else
    fX6_findRing_b51 F (fX6_findRing_l13 F k2 n) V4 x1 x2 x3
def fX6_findRing_l2 (F : Nat) : Nat → zV → Int32 → Int32 → Option (zV)
  | 0, _, _, _ => none
  | n + 1, V4, x1, x2 =>
    if (24 : Int32) ≤ x2 then (
    zlet (zsI V4 13 11 (-1 : Int32)) fun V4_15 =>
    zlet (((if (12 : Int32) < x1 then (12 : Int32) else x1) - (1 : Int32))) fun y17 =>
    fX6_findRing_l77 F F V4_15 y17)
    else
    fX6_findRing_l13 F (fX6_findRing_l2 F n) F V4 x1 x2 (0 : Int32)
def fX6_findRing (F : Nat) (V4 : zV) (x1 : Int32) : Option (zV) :=
  fX6_findRing_l2 F F V4 x1 (0 : Int32)
def fX6_takeFrom_l181 (F : Nat) : Nat → zV → zV → Int32 → Int32 → Option (zV)
  | 0, _, _, _, _ => none
  | n + 1, V1, V4, x2, x3 =>
    if (13 : Int32) ≤ x3 then (
    zbd (fX6_findRing F V4 x2) fun q2 =>
    some q2)
    else
    zchk (zix x3 13) <|
    zlet (zsA V4 16 (upd (zA V4 16) (x3).toNatClampNeg (zI V4 13 3))) fun V4_5 =>
    fX6_takeFrom_l181 F n V1 V4_5 x2 (x3 + 1)
def fX6_takeFrom_b173 (F : Nat) (k47 : zV → zV → Int32 → Int32 → Option (zV)) (V1 V4 : zV) (x2 : Int32) (x3 : Int32) : Option (zV) :=
  k47 V1 V4 x2 (x3 + 1)
def fX6_takeFrom_b152 (F : Nat) (k47 : zV → zV → Int32 → Int32 → Option (zV)) (V1 V4 : zV) (x2 : Int32) (x3 : Int32) : Option (zV) :=
  zbd (fX10_numberAt F V1 (x3 + (1 : Int32))) fun q7 =>
  zbd (fX6_takeIntoRule F V4 ((zI V4 13 3) - (1 : Int32)) x3 q7 (x2 - (1 : Int32))) fun q9 =>
  fX6_takeFrom_b173 F k47 V1 q9 x2 x3
def fX6_takeFrom_b111 (F : Nat) (k47 : zV → zV → Int32 → Int32 → Option (zV)) (V1 V4 : zV) (x2 : Int32) (x3 : Int32) : Option (zV) :=
  zchk (zix x3 1000) <|
  if (zA V4 14 (x3).toNatClampNeg) = (11 : Int32) then (
  if (80 : Int32) ≤ (zI V4 13 3) then (
  fX6_takeFrom_b152 F k47 V1 V4 x2 x3)
  else
  zbd (fX6_openRule F V1 V4 (x3 + (1 : Int32))) fun q14 =>
  zlet (zsI q14 13 3 ((zI q14 13 3) + (1 : Int32))) fun V4_16 =>
  fX6_takeFrom_b173 F k47 V1 V4_16 x2 x3)
  else
  fX6_takeFrom_b152 F k47 V1 V4 x2 x3
def fX6_takeFrom_l47 (F : Nat) : Nat → zV → zV → Int32 → Int32 → Option (zV)
  | 0, _, _, _, _ => none
  | n + 1, V1, V4, x2, x3 =>
    if (zI V4 13 2) ≤ x3 then (
    fX6_takeFrom_l181 F F V1 V4 x2 x2)
    else
    zbd (fX10_kindAt F V1 x3) fun q19 =>
    zchk (zix x3 1000) <|
    zlet (zsA V4 14 (upd (zA V4 14) (x3).toNatClampNeg (vp_nar .byte (q19).toInt8.toInt32))) fun V4_22 =>
    zbd (fX10_numberAt F V1 x3) fun q24 =>
    zchk (zix x3 1000) <|
    zlet (zsA V4_22 15 (upd (zA V4_22 15) (x3).toNatClampNeg q24)) fun V4_27 =>
    zchk (zix x3 1000) <|
    if (zA V4_27 14 (x3).toNatClampNeg) = (7 : Int32) then (
    if (12 : Int32) ≤ x2 then (
    fX6_takeFrom_b111 F (fX6_takeFrom_l47 F n) V1 V4_27 x2 x3)
    else
    zchk (zix x2 13) <|
    zlet (zsA V4_27 16 (upd (zA V4_27 16) (x2).toNatClampNeg (zI V4_27 13 3))) fun V4_33 =>
    fX6_takeFrom_b173 F (fX6_takeFrom_l47 F n) V1 V4_33 (x2 + 1) x3)
    else
    fX6_takeFrom_b111 F (fX6_takeFrom_l47 F n) V1 V4_27 x2 x3
def fX6_takeFrom_l21 (F : Nat) : Nat → zV → zV → Int32 → Option (zV)
  | 0, _, _, _ => none
  | n + 1, V1, V4, x2 =>
    if (24 : Int32) ≤ x2 then (
    fX6_takeFrom_l47 F F V1 V4 (0 : Int32) (0 : Int32))
    else
    zchk (zix x2 24) <|
    zlet (zsA V4 22 (upd (zA V4 22) (x2).toNatClampNeg (0 : Int32))) fun V4_37 =>
    fX6_takeFrom_l21 F n V1 V4_37 (x2 + 1)
def fX6_takeFrom (F : Nat) (V1 V4 : zV) : Option (zV) :=
  zbd (fX10_size F V1) fun q39 =>
  zlet (zsI V4 13 2 (if (1000 : Int32) < q39 then (1000 : Int32) else q39)) fun V4_41 =>
  zlet (zsI V4_41 13 3 (0 : Int32)) fun V4_43 =>
  fX6_takeFrom_l21 F F V1 V4_43 (0 : Int32)
def fX9_takeFrom_b100 (F : Nat) (k50 : zV → zV → Int32 → Option (zV)) (V1 V4 : zV) (x2 : Int32) : Option (zV) :=
  k50 V1 V4 (x2 + 1)
def fX9_takeFrom_l50 (F : Nat) : Nat → zV → zV → Int32 → Option (zV)
  | 0, _, _, _ => none
  | n + 1, V1, V4, x2 =>
    zbd (fX10_size F V1) fun q1 =>
    if q1 ≤ x2 then (
    zbd (fX9_putInOrder F V4) fun q4 =>
    zbd (fX6_takeFrom F V1 q4) fun q6 =>
    some q6)
    else
    zbd (fX10_kindAt F V1 x2) fun q8 =>
    if (7 : Int32) < q8 then (
    fX9_takeFrom_b100 F (fX9_takeFrom_l50 F n) V1 V4 x2)
    else
    zchk (zix q8 27) <|
    zbd (fX9_roomFor F q8) fun q12 =>
    if q12 ≤ (zA V4 1 (q8).toNatClampNeg) then (
    fX9_takeFrom_b100 F (fX9_takeFrom_l50 F n) V1 V4 x2)
    else
    zbd (fX9_takeOne F V1 V4 x2 q8) fun q15 =>
    zchk (zix q8 27) <|
    zchk (zix q8 27) <|
    zlet (zsA q15 1 (upd (zA q15 1) (q8).toNatClampNeg ((zA q15 1 (q8).toNatClampNeg) + (1 : Int32)))) fun V4_19 =>
    fX9_takeFrom_b100 F (fX9_takeFrom_l50 F n) V1 V4_19 x2
def fX9_takeFrom_l26 (F : Nat) : Nat → zV → zV → Int32 → Option (zV)
  | 0, _, _, _ => none
  | n + 1, V1, V4, x2 =>
    if (8 : Int32) ≤ x2 then (
    fX9_takeFrom_l50 F F V1 V4 (0 : Int32))
    else
    zchk (zix x2 8) <|
    zlet (zsA V4 4 (upd (zA V4 4) (x2).toNatClampNeg (0 : Int32))) fun V4_23 =>
    fX9_takeFrom_l26 F n V1 V4_23 (x2 + 1)
def fX9_takeFrom_l2 (F : Nat) : Nat → zV → zV → Int32 → Option (zV)
  | 0, _, _, _ => none
  | n + 1, V1, V4, x2 =>
    if (27 : Int32) ≤ x2 then (
    fX9_takeFrom_l26 F F V1 V4 (0 : Int32))
    else
    zchk (zix x2 27) <|
    zlet (zsA V4 1 (upd (zA V4 1) (x2).toNatClampNeg (0 : Int32))) fun V4_27 =>
    fX9_takeFrom_l2 F n V1 V4_27 (x2 + 1)
def fX9_takeFrom (F : Nat) (V1 V4 : zV) : Option (zV) :=
  fX9_takeFrom_l2 F F V1 V4 (0 : Int32)
def fX11_read_b86 (F : Nat) (V0 V1 V2 V3 V4 : zV) : Option (Int32 × zV × zV × zV × zV × zV) :=
  some ((zI V1 0 5), V0, V1, V2, V3, V4)
def fX11_read_b44 (F : Nat) (V0 V1 V2 V3 V4 : zV) : Option (Int32 × zV × zV × zV × zV × zV) :=
  zlet (zsI V0 0 5 (zI V1 0 6)) fun V0_1 =>
  if (zI V1 0 5) = 0 then (
  zbd (fX9_takeFrom F V1 V4) fun q4 =>
  zlet (zsI V0_1 0 7 (1 : Int32)) fun V0_6 =>
  zlet (zsI V0_6 0 9 (0 : Int32)) fun V0_8 =>
  fX11_read_b86 F V0_8 V1 V2 V3 q4)
  else
  fX11_read_b86 F V0_1 V1 V2 V3 V4
def fX11_read (F : Nat) (V0 V1 V2 V3 V4 : zV) : Option (Int32 × zV × zV × zV × zV × zV) :=
  zbd (fX10_cut F V0 V1 (zI V0 0 1)) fun q10 =>
  zlet (zsI V0 0 1 (0 : Int32)) fun V0_12 =>
  zbd (fX2_check F q10 V2) fun q14 =>
  if (zI q14.1 0 5) = 0 then (
  zbd (fX5_check F q14.1 V3) fun q17 =>
  fX11_read_b44 F V0_12 q17.1 q14.2 q17.2 V4)
  else
  fX11_read_b44 F V0_12 q14.1 q14.2 V3 V4
def fX11_place (F : Nat) (V0 : zV) : Option (Int32) :=
  some (zI V0 0 5)
def fX8_clear_l2 (F : Nat) : Nat → zV → Int32 → Option (zV)
  | 0, _, _ => none
  | n + 1, V5, x1 =>
    if (16 : Int32) ≤ x1 then (
    some V5)
    else
    zchk (zix x1 16) <|
    zlet (zsA V5 6 (upd (zA V5 6) (x1).toNatClampNeg (0 : Int32))) fun V5_3 =>
    zchk (zix x1 16) <|
    zlet (zsA V5_3 7 (upd (zA V5_3 7) (x1).toNatClampNeg (0 : Int32))) fun V5_6 =>
    zchk (zix x1 16) <|
    zlet (zsA V5_6 8 (upd (zA V5_6 8) (x1).toNatClampNeg (0 : Int32))) fun V5_9 =>
    zchk (zix x1 16) <|
    zlet (zsA V5_9 9 (upd (zA V5_9 9) (x1).toNatClampNeg (0 : Int32))) fun V5_12 =>
    fX8_clear_l2 F n V5_12 (x1 + 1)
def fX8_clear (F : Nat) (V5 : zV) : Option (zV) :=
  fX8_clear_l2 F F V5 (0 : Int32)
def fX0_clear_l7 (F : Nat) : Nat → zV → Int32 → Option (zV)
  | 0, _, _ => none
  | n + 1, V5, x1 =>
    if (8 : Int32) ≤ x1 then (
    some V5)
    else
    zchk (zix x1 8) <|
    zlet (zsA V5 11 (upd (zA V5 11) (x1).toNatClampNeg (0 : Int32))) fun V5_3 =>
    zchk (zix x1 8) <|
    zlet (zsA V5_3 12 (upd (zA V5_3 12) (x1).toNatClampNeg (0 : Int32))) fun V5_6 =>
    fX0_clear_l7 F n V5_6 (x1 + 1)
def fX0_clear (F : Nat) (V5 : zV) : Option (zV) :=
  zlet (zsI V5 10 4 (0 : Int32)) fun V5_8 =>
  fX0_clear_l7 F F V5_8 (0 : Int32)
def fX3_turnOver (F : Nat) (V5 : zV) : Option (zV) :=
  zlet (zsP V5 14 2 (zP V5 14 1)) fun V5_1 =>
  zlet (zsI V5_1 14 6 (zI V5_1 14 5)) fun V5_3 =>
  zlet (zsP V5_3 14 1 (zP V5 14 2)) fun V5_5 =>
  zlet (zsI V5_5 14 5 (0 : Int32)) fun V5_7 =>
  zlet (zsI V5_7 14 4 ((zI V5_7 14 4) + (1 : Int32))) fun V5_9 =>
  some V5_9
def fX3_put (F : Nat) (V5 : zV) (x1 : Int32) : Option (zV) :=
  if x1 < 0 then (
  some V5)
  else
  if (nI (zN V5 17)) ≤ x1 then (
  some V5)
  else
  zchk (zix x1 (zN V5 17)) <|
  if (zA V5 17 (x1).toNatClampNeg) = (zI V5 14 4) then (
  some V5)
  else
  zchk (zP V5 14 1 = 15 ∨ zP V5 14 1 = 16) <|
  if (nI (zN V5 (zP V5 14 1))) ≤ (zI V5 14 5) then (
  some V5)
  else
  zchk (zix x1 (zN V5 17)) <|
  zlet (zsA V5 17 (upd (zA V5 17) (x1).toNatClampNeg (zI V5 14 4))) fun V5_9 =>
  zchk (zP V5_9 14 1 = 15 ∨ zP V5_9 14 1 = 16) <|
  zchk (zix (zI V5_9 14 5) (zN V5_9 (zP V5_9 14 1))) <|
  zlet (zsA V5_9 (zP V5_9 14 1) (upd (zA V5_9 (zP V5_9 14 1)) ((zI V5_9 14 5)).toNatClampNeg x1)) fun V5_14 =>
  zlet (zsI V5_14 14 5 ((zI V5_14 14 5) + (1 : Int32))) fun V5_16 =>
  some V5_16
def fX3_clear (F : Nat) (V4 V5 : zV) : Option (zV) :=
  zlet (zsI V5 14 7 (0 : Int32)) fun V5_1 =>
  zlet (zsI V5_1 14 8 (0 : Int32)) fun V5_3 =>
  zbd (fX3_turnOver F V5_3) fun q5 =>
  if (zA V4 1 ((4 : Int32)).toNatClampNeg) ≤ 0 then (
  some q5)
  else
  zbd (fX3_put F q5 (0 : Int32)) fun q8 =>
  some q8
def fX4_clear_l7 (F : Nat) : Nat → zV → Int32 → Option (zV)
  | 0, _, _ => none
  | n + 1, V5, x1 =>
    if (12 : Int32) ≤ x1 then (
    some V5)
    else
    zchk (zix x1 12) <|
    zlet (zsA V5 19 (upd (zA V5 19) (x1).toNatClampNeg (vp_nar .boolean (0 : Int32)))) fun V5_3 =>
    zchk (zix x1 12) <|
    zlet (zsA V5_3 20 (upd (zA V5_3 20) (x1).toNatClampNeg (0 : Int32))) fun V5_6 =>
    zchk (zix x1 12) <|
    zlet (zsA V5_6 21 (upd (zA V5_6 21) (x1).toNatClampNeg (0 : Int32))) fun V5_9 =>
    zchk (zix x1 12) <|
    zlet (zsA V5_9 22 (upd (zA V5_9 22) (x1).toNatClampNeg (0 : Int32))) fun V5_12 =>
    fX4_clear_l7 F n V5_12 (x1 + 1)
def fX4_clear (F : Nat) (V5 : zV) : Option (zV) :=
  zlet (zsI V5 18 6 (0 : Int32)) fun V5_14 =>
  fX4_clear_l7 F F V5_14 (0 : Int32)
def fX3_moved_b56 (F : Nat) (x3 : Int32) (x4 : Int32) (x5 : Int32) : Option (Int32) :=
  zlet ((if x3 < (if x4 < x5 then x5 else x4) then (if x4 < x5 then x5 else x4) else x3)) fun y1 =>
  zlet ((if (if x5 < x4 then x5 else x4) < x3 then (if x5 < x4 then x5 else x4) else x3)) fun y3 =>
  some ((((y1 * (9 : Int32)) + ((((x3 + x4) + x5) - y1) - y3)) * (9 : Int32)) + y3)
def fX3_moved (F : Nat) (x0 : Int32) (x1 : Int32) (x2 : Int32) : Option (Int32) :=
  zlet ((x0 / (81 : Int32))) fun y5 =>
  zlet (((x0 / (9 : Int32)) - (x0 / (9 : Int32)) / (9 : Int32) * (9 : Int32))) fun y7 =>
  zlet ((x0 - x0 / (9 : Int32) * (9 : Int32))) fun y9 =>
  if y5 = x1 then (
  fX3_moved_b56 F x2 y7 y9)
  else
  if y7 = x1 then (
  fX3_moved_b56 F y5 x2 y9)
  else
  if y9 = x1 then (
  fX3_moved_b56 F y5 y7 x2)
  else
  some (-1 : Int32)
def fX3_moveAll_l2 (F : Nat) : Nat → zV → Int32 → Int32 → Int32 → Option (zV)
  | 0, _, _, _, _ => none
  | n + 1, V5, x1, x2, x3 =>
    if (zI V5 14 6) ≤ x3 then (
    some V5)
    else
    zchk (zP V5 14 2 = 15 ∨ zP V5 14 2 = 16) <|
    if (nI (zN V5 (zP V5 14 2))) ≤ x3 then (
    some V5)
    else
    zchk (zP V5 14 2 = 15 ∨ zP V5 14 2 = 16) <|
    zchk (zix x3 (zN V5 (zP V5 14 2))) <|
    zbd (fX3_moved F (zA V5 (zP V5 14 2) (x3).toNatClampNeg) x1 x2) fun q8 =>
    zbd (fX3_put F V5 q8) fun q10 =>
    fX3_moveAll_l2 F n q10 x1 x2 (x3 + 1)
def fX3_moveAll (F : Nat) (V5 : zV) (x1 : Int32) (x2 : Int32) : Option (zV) :=
  fX3_moveAll_l2 F F V5 x1 x2 (0 : Int32)
def fX3_spread_b94 (F : Nat) (k2 : zV → zV → Int32 → Option (zV)) (V4 V5 : zV) (x1 : Int32) : Option (zV) :=
  k2 V4 V5 (x1 + 1)
def fX3_spread_b88 (F : Nat) (k21 : zV → zV → Int32 → Int32 → Option (zV)) (V4 V5 : zV) (x1 : Int32) (x2 : Int32) : Option (zV) :=
  k21 V4 V5 x1 (x2 + 1)
def fX3_spread_l21 (F : Nat) (k2 : zV → zV → Int32 → Option (zV)) : Nat → zV → zV → Int32 → Int32 → Option (zV)
  | 0, _, _, _, _ => none
  | n + 1, V4, V5, x1, x2 =>
    if (zA V4 1 ((5 : Int32)).toNatClampNeg) ≤ x2 then (
    fX3_spread_b94 F k2 V4 V5 x1)
    else
    if (24 : Int32) ≤ x2 then (
    fX3_spread_b94 F k2 V4 V5 x1)
    else
    zchk (zix x2 24) <|
    if (zA V4 8 (x2).toNatClampNeg) = (-1 : Int32) then (
    zchk (zP V5 14 1 = 15 ∨ zP V5 14 1 = 16) <|
    zchk (zix x1 (zN V5 (zP V5 14 1))) <|
    zchk (zix x2 24) <|
    zchk (zix x2 24) <|
    zbd (fX3_moved F (zA V5 (zP V5 14 1) (x1).toNatClampNeg) ((zA V4 6 (x2).toNatClampNeg) + (1 : Int32)) ((zA V4 7 (x2).toNatClampNeg) + (1 : Int32))) fun q10 =>
    zbd (fX3_put F V5 q10) fun q12 =>
    fX3_spread_b88 F (fX3_spread_l21 F k2 n) V4 q12 x1 x2)
    else
    fX3_spread_b88 F (fX3_spread_l21 F k2 n) V4 V5 x1 x2
def fX3_spread_l2 (F : Nat) : Nat → zV → zV → Int32 → Option (zV)
  | 0, _, _, _ => none
  | n + 1, V4, V5, x1 =>
    if (zI V5 14 5) ≤ x1 then (
    some V5)
    else
    zchk (zP V5 14 1 = 15 ∨ zP V5 14 1 = 16) <|
    if (nI (zN V5 (zP V5 14 1))) ≤ x1 then (
    some V5)
    else
    fX3_spread_l21 F (fX3_spread_l2 F n) F V4 V5 x1 (0 : Int32)
def fX3_spread (F : Nat) (V4 V5 : zV) : Option (zV) :=
  fX3_spread_l2 F F V4 V5 (0 : Int32)
def fX3_takeBall (F : Nat) (V4 V5 : zV) : Option (zV) :=
  if (3 : Int32) ≤ (zI V5 14 7) then (
  some V5)
  else
  zlet (zsI V5 14 7 ((zI V5 14 7) + (1 : Int32))) fun V5_2 =>
  zbd (fX3_turnOver F V5_2) fun q4 =>
  zbd (fX3_moveAll F q4 (0 : Int32) (1 : Int32)) fun q6 =>
  zbd (fX3_spread F V4 q6) fun q8 =>
  some q8
def fX4_remember_b49 (F : Nat) (k2 : zV → zV → Int32 → Option (zV)) (V4 V5 : zV) (x1 : Int32) (s1 : Int32) (s2 : Int32) : Option (zV) :=
  zchk (zix s1 12) <|
  zlet (zsA V5 23 (upd (zA V5 23) (s1).toNatClampNeg s2)) fun V5_2 =>
  k2 V4 V5_2 (x1 + 1)
def fX4_remember_l2 (F : Nat) : Nat → zV → zV → Int32 → Option (zV)
  | 0, _, _, _ => none
  | n + 1, V4, V5, x1 =>
    if (zA V4 1 ((7 : Int32)).toNatClampNeg) ≤ x1 then (
    some V5)
    else
    if (12 : Int32) ≤ x1 then (
    some V5)
    else
    zchk (zix x1 12) <|
    if (zA V5 19 (x1).toNatClampNeg) = 0 then (
    fX4_remember_b49 F (fX4_remember_l2 F n) V4 V5 x1 x1 (-1 : Int32))
    else
    zchk (zix x1 12) <|
    fX4_remember_b49 F (fX4_remember_l2 F n) V4 V5 x1 x1 (zA V5 22 (x1).toNatClampNeg)
def fX4_remember (F : Nat) (V4 V5 : zV) : Option (zV) :=
  fX4_remember_l2 F F V4 V5 (0 : Int32)
def fX1_beginActs (F : Nat) (V4 V5 : zV) : Option (zV) :=
  zlet (zsI V5 0 13 (0 : Int32)) fun V5_1 =>
  zlet (zsI V5_1 0 14 (0 : Int32)) fun V5_3 =>
  zbd (fX4_remember F V4 V5_3) fun q5 =>
  some q5
def fX9_has (F : Nat) (V4 : zV) (x1 : Int32) (x2 : Int32) : Option (Int32) :=
  if x1 < 0 then (
  some (0 : Int32))
  else
  if (27 : Int32) ≤ x1 then (
  some (0 : Int32))
  else
  if x2 < 0 then (
  some (0 : Int32))
  else
  zchk (zix x1 27) <|
  if (zA V4 1 (x1).toNatClampNeg) ≤ x2 then (
  some (0 : Int32))
  else
  some (1 : Int32)
def fX4_turnOn_b89 (F : Nat) (V4 V5 : zV) (s1 : Int32) (s2 : Int32) : Option (Int32 × zV) :=
  zlet (zsI V5 18 6 (s1 + s2)) fun V5_1 =>
  some ((1 : Int32), V5_1)
def fX4_turnOn (F : Nat) (V4 V5 : zV) (x1 : Int32) : Option (Int32 × zV) :=
  zbd (fX9_has F V4 (7 : Int32) x1) fun q3 =>
  if q3 = 0 then (
  some ((0 : Int32), V5))
  else
  if x1 < (12 : Int32) then (
  zchk (zix x1 12) <|
  zchk (zix x1 12) <|
  zlet (zsA V5 20 (upd (zA V5 20) (x1).toNatClampNeg (zA V4 11 (x1).toNatClampNeg))) fun V5_9 =>
  zchk (zix x1 12) <|
  if (zA V5_9 19 (x1).toNatClampNeg) = 0 then (
  zchk (zix x1 12) <|
  zlet (zsA V5_9 19 (upd (zA V5_9 19) (x1).toNatClampNeg (vp_nar .boolean (1 : Int32)))) fun V5_14 =>
  zchk (zix x1 12) <|
  zchk (zix x1 12) <|
  zlet (zsA V5_14 21 (upd (zA V5_14 21) (x1).toNatClampNeg ((zA V5_14 21 (x1).toNatClampNeg) + (1 : Int32)))) fun V5_18 =>
  zchk (zix x1 12) <|
  if (zA V4 11 (x1).toNatClampNeg) ≤ 0 then (
  fX4_turnOn_b89 F V4 V5_18 (zI V5_18 18 6) (0 : Int32))
  else
  fX4_turnOn_b89 F V4 V5_18 (zI V5_18 18 6) (1 : Int32))
  else
  some ((0 : Int32), V5_9))
  else
  some ((0 : Int32), V5)
def fX4_offsOf (F : Nat) (V5 : zV) (x1 : Int32) : Option (Int32) :=
  if x1 < 0 then (
  some (0 : Int32))
  else
  if (12 : Int32) ≤ x1 then (
  some (0 : Int32))
  else
  zchk (zix x1 12) <|
  some (zA V5 22 (x1).toNatClampNeg)
def fX6_headOf_b22 (F : Nat) (V4 : zV) : Option (Int32) :=
  some (zI V4 13 3)
def fX6_headOf (F : Nat) (V4 : zV) (x1 : Int32) : Option (Int32) :=
  if x1 < 0 then (
  fX6_headOf_b22 F V4)
  else
  if (13 : Int32) ≤ x1 then (
  fX6_headOf_b22 F V4)
  else
  zchk (zix x1 13) <|
  some (zA V4 16 (x1).toNatClampNeg)
def fX6_isOn (F : Nat) (V4 : zV) (x1 : Int32) (x2 : Int32) : Option (Int32) :=
  if x1 < 0 then (
  some (0 : Int32))
  else
  if (zI V4 13 3) ≤ x1 then (
  some (0 : Int32))
  else
  zchk (zix x1 80) <|
  if (zA V4 17 (x1).toNatClampNeg) = x2 then (
  some (1 : Int32))
  else
  some (0 : Int32)
def fX6_condOf (F : Nat) (V4 : zV) (x1 : Int32) : Option (Int32) :=
  if x1 < 0 then (
  some (-1 : Int32))
  else
  if (zI V4 13 3) ≤ x1 then (
  some (-1 : Int32))
  else
  zchk (zix x1 80) <|
  some (zA V4 18 (x1).toNatClampNeg)
def fX4_timeLeftOf (F : Nat) (V5 : zV) (x1 : Int32) : Option (Int32) :=
  if x1 < 0 then (
  some (0 : Int32))
  else
  if (12 : Int32) ≤ x1 then (
  some (0 : Int32))
  else
  zchk (zix x1 12) <|
  some (zA V5 20 (x1).toNatClampNeg)
def fX6_size (F : Nat) (V4 : zV) : Option (Int32) :=
  some (zI V4 13 2)
def fX6_kindAt (F : Nat) (V4 : zV) (x1 : Int32) : Option (Int32) :=
  if x1 < 0 then (
  some (41 : Int32))
  else
  if (zI V4 13 2) ≤ x1 then (
  some (41 : Int32))
  else
  zchk (zix x1 1000) <|
  some (zA V4 14 (x1).toNatClampNeg)
def fX6_numberAt (F : Nat) (V4 : zV) (x1 : Int32) : Option (Int32) :=
  if x1 < 0 then (
  some (0 : Int32))
  else
  if (zI V4 13 2) ≤ x1 then (
  some (0 : Int32))
  else
  zchk (zix x1 1000) <|
  some (zA V4 15 (x1).toNatClampNeg)
def fX7_unit (F : Nat) (V5 : zV) (x0 : Int32) (x1 : Int32) (x3 : Int32) (x4 : Int32) : Option (Int32) :=
  if x0 = (25 : Int32) then (
  some x3)
  else
  if x0 = (26 : Int32) then (
  some x4)
  else
  if x0 = (27 : Int32) then (
  if x1 < 0 then (
  some (0 : Int32))
  else
  if (16 : Int32) ≤ x1 then (
  some (0 : Int32))
  else
  zchk (zix x1 16) <|
  some (zA V5 1 (x1).toNatClampNeg))
  else
  some x1
def fX7_work_b257 (F : Nat) (k19 : zV → zV → Int32 → Int32 → Int32 → Int32 → Int32 → Int32 → Int32 → Option (Int32 × zV)) (V4 V5 : zV) (x3 : Int32) (x4 : Int32) (x5 : Int32) (x6 : Int32) (x7 : Int32) (x8 : Int32) (x9 : Int32) : Option (Int32 × zV) :=
  k19 V4 V5 x3 x4 x5 x6 x7 x8 (x9 + 1)
def fX7_work_b215 (F : Nat) (k19 : zV → zV → Int32 → Int32 → Int32 → Int32 → Int32 → Int32 → Int32 → Option (Int32 × zV)) (V4 V5 : zV) (x3 : Int32) (x4 : Int32) (x5 : Int32) (x6 : Int32) (x7 : Int32) (x9 : Int32) (x10 : Int32) : Option (Int32 × zV) :=
  zbd (fX6_numberAt F V4 x9) fun q1 =>
  zbd (fX7_unit F V5 x10 q1 x3 x4) fun q3 =>
  fX7_work_b257 F k19 V4 V5 x3 x4 x5 x6 (x7 * q3) (0 : Int32) x9
def fX7_work_b182 (F : Nat) (k19 : zV → zV → Int32 → Int32 → Int32 → Int32 → Int32 → Int32 → Int32 → Option (Int32 × zV)) (V4 V5 : zV) (x3 : Int32) (x4 : Int32) (x5 : Int32) (x6 : Int32) (x8 : Int32) (x9 : Int32) (s0 : Int32) : Option (Int32 × zV) :=
  fX7_work_b257 F k19 V4 V5 x3 x4 x5 x6 s0 x8 x9
def fX7_work_b167 (F : Nat) (k19 : zV → zV → Int32 → Int32 → Int32 → Int32 → Int32 → Int32 → Int32 → Option (Int32 × zV)) (V4 V5 : zV) (x3 : Int32) (x4 : Int32) (x5 : Int32) (x8 : Int32) (x9 : Int32) (x10 : Int32) (s0 : Int32) (s1 : Int32) : Option (Int32 × zV) :=
  if x10 = (34 : Int32) then (
  fX7_work_b182 F k19 V4 V5 x3 x4 x5 (s0 + s1) x8 x9 (1 : Int32))
  else
  fX7_work_b182 F k19 V4 V5 x3 x4 x5 (s0 + s1) x8 x9 (-1 : Int32)
def fX7_work_b154 (F : Nat) (k19 : zV → zV → Int32 → Int32 → Int32 → Int32 → Int32 → Int32 → Int32 → Option (Int32 × zV)) (V4 V5 : zV) (x3 : Int32) (x4 : Int32) (x5 : Int32) (x6 : Int32) (x7 : Int32) (x8 : Int32) (x9 : Int32) (x10 : Int32) : Option (Int32 × zV) :=
  if x8 = 0 then (
  fX7_work_b167 F k19 V4 V5 x3 x4 x5 x8 x9 x10 x6 x7)
  else
  fX7_work_b167 F k19 V4 V5 x3 x4 x5 x8 x9 x10 x6 (0 : Int32)
def fX7_work_b140 (F : Nat) (k19 : zV → zV → Int32 → Int32 → Int32 → Int32 → Int32 → Int32 → Int32 → Option (Int32 × zV)) (V4 V5 : zV) (x3 : Int32) (x4 : Int32) (x5 : Int32) (x6 : Int32) (x7 : Int32) (x8 : Int32) (x9 : Int32) (x10 : Int32) : Option (Int32 × zV) :=
  if x10 = (34 : Int32) then (
  fX7_work_b154 F k19 V4 V5 x3 x4 x5 x6 x7 x8 x9 x10)
  else
  if x10 = (35 : Int32) then (
  fX7_work_b154 F k19 V4 V5 x3 x4 x5 x6 x7 x8 x9 x10)
  else
  if x10 = (28 : Int32) then (
  fX7_work_b215 F k19 V4 V5 x3 x4 x5 x6 x7 x9 x10)
  else
  if x10 = (27 : Int32) then (
  fX7_work_b215 F k19 V4 V5 x3 x4 x5 x6 x7 x9 x10)
  else
  if x10 = (25 : Int32) then (
  fX7_work_b215 F k19 V4 V5 x3 x4 x5 x6 x7 x9 x10)
  else
  if x10 = (26 : Int32) then (
  fX7_work_b215 F k19 V4 V5 x3 x4 x5 x6 x7 x9 x10)
  else
  if x10 = (36 : Int32) then (
  fX7_work_b257 F k19 V4 V5 x3 x4 x5 x6 x7 x8 x9)
  else
  some ((x6 + x7), V5)
def fX7_work_b98 (F : Nat) (k19 : zV → zV → Int32 → Int32 → Int32 → Int32 → Int32 → Int32 → Int32 → Option (Int32 × zV)) (V4 V5 : zV) (x3 : Int32) (x4 : Int32) (x5 : Int32) (x6 : Int32) (x7 : Int32) (x8 : Int32) (x9 : Int32) (x10 : Int32) : Option (Int32 × zV) :=
  if x10 = (33 : Int32) then (
  if x5 ≤ 0 then (
  fX7_work_b140 F k19 V4 V5 x3 x4 x5 x6 x7 x8 x9 x10)
  else
  zchk (zix (x5 + (-1)) 6) <|
  zlet (((zA V5 4 ((x5 + (-1))).toNatClampNeg) * (x6 + x7))) fun y17 =>
  zchk (zix (x5 + (-1)) 6) <|
  zlet ((zA V5 3 ((x5 + (-1))).toNatClampNeg)) fun y20 =>
  fX7_work_b257 F k19 V4 V5 x3 x4 (x5 + (-1)) y20 y17 x8 x9)
  else
  fX7_work_b140 F k19 V4 V5 x3 x4 x5 x6 x7 x8 x9 x10
def fX7_work_l19 (F : Nat) : Nat → zV → zV → Int32 → Int32 → Int32 → Int32 → Int32 → Int32 → Int32 → Option (Int32 × zV)
  | 0, _, _, _, _, _, _, _, _, _ => none
  | n + 1, V4, V5, x3, x4, x5, x6, x7, x8, x9 =>
    zbd (fX6_size F V4) fun q22 =>
    if q22 ≤ x9 then (
    some ((x6 + x7), V5))
    else
    zlet (zsI V5 2 3 x9) fun V5_25 =>
    zbd (fX6_kindAt F V4 x9) fun q27 =>
    if q27 = (32 : Int32) then (
    if (6 : Int32) ≤ x5 then (
    fX7_work_b98 F (fX7_work_l19 F n) V4 V5_25 x3 x4 x5 x6 x7 x8 x9 q27)
    else
    zchk (zix x5 6) <|
    zlet (zsA V5_25 3 (upd (zA V5_25 3) (x5).toNatClampNeg x6)) fun V5_32 =>
    zchk (zix x5 6) <|
    zlet (zsA V5_32 4 (upd (zA V5_32 4) (x5).toNatClampNeg x7)) fun V5_35 =>
    fX7_work_b257 F (fX7_work_l19 F n) V4 V5_35 x3 x4 (x5 + 1) (0 : Int32) (1 : Int32) (1 : Int32) x9)
    else
    fX7_work_b98 F (fX7_work_l19 F n) V4 V5_25 x3 x4 x5 x6 x7 x8 x9 q27
def fX7_work (F : Nat) (V4 V5 : zV) (x1 : Int32) (x3 : Int32) (x4 : Int32) : Option (Int32 × zV) :=
  zlet ((if (0 : Int32) < x1 then x1 else (0 : Int32))) fun y37 =>
  fX7_work_l19 F F V4 V5 x3 x4 (0 : Int32) (0 : Int32) (1 : Int32) (1 : Int32) y37
def fX1_work (F : Nat) (V4 V5 : zV) (x1 : Int32) (x2 : Int32) : Option (Int32 × zV) :=
  zbd (fX4_timeLeftOf F V5 x2) fun q1 =>
  zbd (fX7_work F V4 V5 x1 q1 (zI V5 14 7)) fun q3 =>
  some (q3.1, q3.2)
def fX1_compares (F : Nat) (x0 : Int32) (x1 : Int32) (x2 : Int32) : Option (Int32) :=
  if x1 = (37 : Int32) then (
  if x0 = x2 then (
  some (1 : Int32))
  else
  some (0 : Int32))
  else
  if x1 = (38 : Int32) then (
  if x0 = x2 then (
  some (0 : Int32))
  else
  some (1 : Int32))
  else
  if x1 = (39 : Int32) then (
  if x2 ≤ x0 then (
  some (0 : Int32))
  else
  some (1 : Int32))
  else
  if x2 < x0 then (
  some (0 : Int32))
  else
  some (1 : Int32)
def fX1_holds_b111 (F : Nat) (k12 : zV → zV → Int32 → Int32 → Int32 → Option (Int32 × zV)) (V4 V5 : zV) (x2 : Int32) (x4 : Int32) (s0 : Int32) : Option (Int32 × zV) :=
  k12 V4 V5 x2 s0 (x4 + 1)
def fX1_holds_l12 (F : Nat) : Nat → zV → zV → Int32 → Int32 → Int32 → Option (Int32 × zV)
  | 0, _, _, _, _, _ => none
  | n + 1, V4, V5, x2, x3, x4 =>
    if (1000 : Int32) < x4 then (
    some ((1 : Int32), V5))
    else
    if x3 = (-1 : Int32) then (
    some ((1 : Int32), V5))
    else
    zbd (fX1_work F V4 V5 x3 x2) fun q3 =>
    zbd (fX6_kindAt F V4 (zI q3.2 2 3)) fun q5 =>
    zbd (fX1_work F V4 q3.2 ((zI q3.2 2 3) + (1 : Int32)) x2) fun q7 =>
    zbd (fX1_compares F q3.1 q5 q7.1) fun q9 =>
    if q9 = 0 then (
    some ((0 : Int32), q7.2))
    else
    zbd (fX6_kindAt F V4 (zI q7.2 2 3)) fun q12 =>
    if q12 = (15 : Int32) then (
    fX1_holds_b111 F (fX1_holds_l12 F n) V4 q7.2 x2 x4 ((zI q7.2 2 3) + (1 : Int32)))
    else
    fX1_holds_b111 F (fX1_holds_l12 F n) V4 q7.2 x2 x4 (-1 : Int32)
def fX1_holds (F : Nat) (V4 V5 : zV) (x1 : Int32) (x2 : Int32) : Option (Int32 × zV) :=
  zbd (fX6_condOf F V4 x1) fun q15 =>
  fX1_holds_l12 F F V4 V5 x2 q15 (0 : Int32)
def fX6_actsOf_b21 (F : Nat) (V4 : zV) : Option (Int32) :=
  some (zI V4 13 2)
def fX6_actsOf (F : Nat) (V4 : zV) (x1 : Int32) : Option (Int32) :=
  if x1 < 0 then (
  fX6_actsOf_b21 F V4)
  else
  if (zI V4 13 3) ≤ x1 then (
  fX6_actsOf_b21 F V4)
  else
  zchk (zix x1 80) <|
  some (zA V4 19 (x1).toNatClampNeg)
def fX1_gain (F : Nat) (V5 : zV) (x1 : Int32) : Option (zV) :=
  if (zI V5 0 12) = 0 then (
  zlet (zsL V5 0 8 (if ((zL V5 0 8) + (x1).toInt64) < (0 : Int64) then (0 : Int64) else ((zL V5 0 8) + (x1).toInt64))) fun V5_2 =>
  some V5_2)
  else
  some V5
def fX1_assign (F : Nat) (V5 : zV) (x1 : Int32) (x2 : Int32) : Option (zV) :=
  if x1 < 0 then (
  some V5)
  else
  if (16 : Int32) ≤ x1 then (
  some V5)
  else
  zchk (zix x1 16) <|
  zlet (zsA V5 1 (upd (zA V5 1) (x1).toNatClampNeg x2)) fun V5_4 =>
  some V5_4
def fX4_isOn (F : Nat) (V5 : zV) (x1 : Int32) : Option (Int32) :=
  if x1 < 0 then (
  some (0 : Int32))
  else
  if (12 : Int32) ≤ x1 then (
  some (0 : Int32))
  else
  zchk (zix x1 12) <|
  if (zA V5 19 (x1).toNatClampNeg) = 0 then (
  some (0 : Int32))
  else
  some (1 : Int32)
def fX4_turnOff_b56 (F : Nat) (V4 V5 : zV) (s1 : Int32) (s2 : Int32) : Option (Int32 × zV) :=
  zlet (zsI V5 18 6 (s1 - s2)) fun V5_1 =>
  some ((1 : Int32), V5_1)
def fX4_turnOff (F : Nat) (V4 V5 : zV) (x1 : Int32) : Option (Int32 × zV) :=
  zbd (fX4_isOn F V5 x1) fun q3 =>
  if q3 = 0 then (
  some ((0 : Int32), V5))
  else
  zchk (zix x1 12) <|
  zlet (zsA V5 19 (upd (zA V5 19) (x1).toNatClampNeg (vp_nar .boolean (0 : Int32)))) fun V5_7 =>
  zchk (zix x1 12) <|
  zlet (zsA V5_7 20 (upd (zA V5_7 20) (x1).toNatClampNeg (0 : Int32))) fun V5_10 =>
  zchk (zix x1 12) <|
  zchk (zix x1 12) <|
  zlet (zsA V5_10 22 (upd (zA V5_10 22) (x1).toNatClampNeg ((zA V5_10 22 (x1).toNatClampNeg) + (1 : Int32)))) fun V5_14 =>
  zchk (zix x1 12) <|
  if (zA V4 11 (x1).toNatClampNeg) ≤ 0 then (
  fX4_turnOff_b56 F V4 V5_14 (zI V5_14 18 6) (0 : Int32))
  else
  fX4_turnOff_b56 F V4 V5_14 (zI V5_14 18 6) (1 : Int32)
def fX0_placeInRow_l2 (F : Nat) : Nat → zV → Int32 → Int32 → Option (Int32)
  | 0, _, _, _ => none
  | n + 1, V5, x1, x2 =>
    if (zI V5 10 4) ≤ x2 then (
    some (-1 : Int32))
    else
    if (8 : Int32) ≤ x2 then (
    some (-1 : Int32))
    else
    zchk (zix x2 8) <|
    if (zA V5 13 (x2).toNatClampNeg) = x1 then (
    some x2)
    else
    fX0_placeInRow_l2 F n V5 x1 (x2 + 1)
def fX0_placeInRow (F : Nat) (V5 : zV) (x1 : Int32) : Option (Int32) :=
  fX0_placeInRow_l2 F F V5 x1 (0 : Int32)
def fX0_await (F : Nat) (V4 V5 : zV) (x1 : Int32) : Option (zV) :=
  zbd (fX9_has F V4 (1 : Int32) x1) fun q1 =>
  if q1 = 0 then (
  some V5)
  else
  if (8 : Int32) ≤ (zI V5 10 4) then (
  some V5)
  else
  zbd (fX0_placeInRow F V5 x1) fun q5 =>
  if q5 = (-1 : Int32) then (
  zchk (zix (zI V5 10 4) 8) <|
  zlet (zsA V5 13 (upd (zA V5 13) ((zI V5 10 4)).toNatClampNeg x1)) fun V5_9 =>
  zlet (zsI V5_9 10 4 ((zI V5_9 10 4) + (1 : Int32))) fun V5_11 =>
  some V5_11)
  else
  some V5
def fX3_dropBall_l23 (F : Nat) : Nat → zV → zV → Int32 → Option (zV)
  | 0, _, _, _ => none
  | n + 1, V4, V5, x1 =>
    if (zA V4 1 ((4 : Int32)).toNatClampNeg) < x1 then (
    some V5)
    else
    zbd (fX3_moveAll F V5 x1 (0 : Int32)) fun q2 =>
    fX3_dropBall_l23 F n V4 q2 (x1 + 1)
def fX3_dropBall (F : Nat) (V4 V5 : zV) : Option (zV) :=
  if (zI V5 14 7) ≤ 0 then (
  some V5)
  else
  zlet (zsI V5 14 7 ((zI V5 14 7) - (1 : Int32))) fun V5_5 =>
  zbd (fX3_turnOver F V5_5) fun q7 =>
  fX3_dropBall_l23 F F V4 q7 (1 : Int32)
def fX4_turnOffAllButFirst_l2 (F : Nat) : Nat → zV → zV → Int32 → Option (zV)
  | 0, _, _, _ => none
  | n + 1, V4, V5, x1 =>
    if (zA V4 1 ((7 : Int32)).toNatClampNeg) ≤ x1 then (
    some V5)
    else
    zbd (fX4_turnOff F V4 V5 x1) fun q2 =>
    fX4_turnOffAllButFirst_l2 F n V4 q2.2 (x1 + 1)
def fX4_turnOffAllButFirst (F : Nat) (V4 V5 : zV) : Option (zV) :=
  fX4_turnOffAllButFirst_l2 F F V4 V5 (1 : Int32)
def fX1_doActs_b294 (F : Nat) (rR rA : zV → zV → Int32 → Int32 → Int32 → Option zV) (k10 : zV → zV → Int32 → Int32 → Int32 → Option (zV)) (V4 V5 : zV) (x2 : Int32) (x3 : Int32) (x4 : Int32) : Option (zV) :=
  k10 V4 V5 x2 x3 (x4 + 1)
def fX1_doActs_b256 (F : Nat) (rR rA : zV → zV → Int32 → Int32 → Int32 → Option zV) (k10 : zV → zV → Int32 → Int32 → Int32 → Option (zV)) (V4 V5 : zV) (x2 : Int32) (x3 : Int32) (x4 : Int32) (s1 : Int32) : Option (zV) :=
  zchk (s1 = 0 ∨ s1 = 1) <|
  zlet (zsI V5 0 14 s1) fun V5_1 =>
  fX1_doActs_b294 F rR rA k10 V4 V5_1 x2 x3 x4
def fX1_doActs_b251 (F : Nat) (rR rA : zV → zV → Int32 → Int32 → Int32 → Option zV) (k10 : zV → zV → Int32 → Int32 → Int32 → Option (zV)) (V4 V5 : zV) (x2 : Int32) (x3 : Int32) (x4 : Int32) : Option (zV) :=
  fX1_doActs_b256 F rR rA k10 V4 V5 x2 x3 x4 (1 : Int32)
def fX1_doActs_l10 (F : Nat) (rR rA : zV → zV → Int32 → Int32 → Int32 → Option zV) : Nat → zV → zV → Int32 → Int32 → Int32 → Option (zV)
  | 0, _, _, _, _, _ => none
  | n + 1, V4, V5, x2, x3, x4 =>
    zbd (fX6_size F V4) fun q4 =>
    if q4 ≤ x4 then (
    some V5)
    else
    zbd (fX6_kindAt F V4 x4) fun q7 =>
    if q7 = (29 : Int32) then (
    some V5)
    else
    if q7 < (16 : Int32) then (
    fX1_doActs_b294 F rR rA (fX1_doActs_l10 F rR rA n) V4 V5 x2 x3 x4)
    else
    if q7 ≤ (24 : Int32) then (
    if (zI V5 0 13) < (200 : Int32) then (
    zlet (zsI V5 0 13 ((zI V5 0 13) + (1 : Int32))) fun V5_13 =>
    zbd (fX6_numberAt F V4 (x4 + (1 : Int32))) fun q15 =>
    if q7 = (16 : Int32) then (
    zbd (fX1_work F V4 V5_13 (x4 + (1 : Int32)) x2) fun q18 =>
    zbd (fX1_gain F q18.2 q18.1) fun q20 =>
    fX1_doActs_b294 F rR rA (fX1_doActs_l10 F rR rA n) V4 q20 x2 x3 x4)
    else
    if q7 = (17 : Int32) then (
    zbd (fX1_work F V4 V5_13 (x4 + (2 : Int32)) x2) fun q23 =>
    zbd (fX1_assign F q23.2 q15 q23.1) fun q25 =>
    fX1_doActs_b294 F rR rA (fX1_doActs_l10 F rR rA n) V4 q25 x2 x3 x4)
    else
    if q7 = (18 : Int32) then (
    zbd (fX4_turnOn F V4 V5_13 q15) fun q28 =>
    if q28.1 = 0 then (
    fX1_doActs_b294 F rR rA (fX1_doActs_l10 F rR rA n) V4 q28.2 x2 x3 x4)
    else
    zbd (rR V4 q28.2 q15 (-1 : Int32) (x3 + (1 : Int32))) fun q31 =>
    fX1_doActs_b294 F rR rA (fX1_doActs_l10 F rR rA n) V4 q31 x2 x3 x4)
    else
    if q7 = (19 : Int32) then (
    zbd (fX4_turnOff F V4 V5_13 x2) fun q34 =>
    if q34.1 = 0 then (
    fX1_doActs_b294 F rR rA (fX1_doActs_l10 F rR rA n) V4 q34.2 x2 x3 x4)
    else
    zbd (rR V4 q34.2 x2 (-2 : Int32) (x3 + (1 : Int32))) fun q37 =>
    fX1_doActs_b294 F rR rA (fX1_doActs_l10 F rR rA n) V4 q37 x2 x3 x4)
    else
    if q7 = (20 : Int32) then (
    zbd (fX0_await F V4 V5_13 q15) fun q40 =>
    fX1_doActs_b294 F rR rA (fX1_doActs_l10 F rR rA n) V4 q40 x2 x3 x4)
    else
    if q7 = (21 : Int32) then (
    if (zI V5_13 0 14) = 0 then (
    if x3 = 0 then (
    fX1_doActs_b251 F rR rA (fX1_doActs_l10 F rR rA n) V4 V5_13 x2 x3 x4)
    else
    fX1_doActs_b256 F rR rA (fX1_doActs_l10 F rR rA n) V4 V5_13 x2 x3 x4 (0 : Int32))
    else
    fX1_doActs_b251 F rR rA (fX1_doActs_l10 F rR rA n) V4 V5_13 x2 x3 x4)
    else
    if q7 = (22 : Int32) then (
    zbd (fX3_dropBall F V4 V5_13) fun q46 =>
    fX1_doActs_b294 F rR rA (fX1_doActs_l10 F rR rA n) V4 q46 x2 x3 x4)
    else
    if q7 = (23 : Int32) then (
    zbd (fX3_takeBall F V4 V5_13) fun q49 =>
    fX1_doActs_b294 F rR rA (fX1_doActs_l10 F rR rA n) V4 q49 x2 x3 x4)
    else
    zlet (zsI V5_13 0 12 (1 : Int32)) fun V5_51 =>
    zbd (fX4_turnOffAllButFirst F V4 V5_51) fun q53 =>
    fX1_doActs_b294 F rR rA (fX1_doActs_l10 F rR rA n) V4 q53 x2 x3 x4)
    else
    zlet (zsI V5 0 11 (1 : Int32)) fun V5_55 =>
    some V5_55)
    else
    fX1_doActs_b294 F rR rA (fX1_doActs_l10 F rR rA n) V4 V5 x2 x3 x4
def fX1_doActs_body (F : Nat) (rR rA : zV → zV → Int32 → Int32 → Int32 → Option zV) (V4 V5 : zV) (x1 : Int32) (x2 : Int32) (x3 : Int32) : Option (zV) :=
  zbd (fX6_actsOf F V4 x1) fun q57 =>
  fX1_doActs_l10 F rR rA F V4 V5 x2 x3 q57
def fX1_doRules_b116 (F : Nat) (rR rA : zV → zV → Int32 → Int32 → Int32 → Option zV) (k27 : zV → zV → Int32 → Int32 → Int32 → Int32 → Int32 → Option (zV)) (V4 V5 : zV) (x1 : Int32) (x2 : Int32) (x3 : Int32) (x4 : Int32) (x5 : Int32) : Option (zV) :=
  k27 V4 V5 x1 x2 x3 x4 (x5 + 1)
def fX1_doRules_b97 (F : Nat) (rR rA : zV → zV → Int32 → Int32 → Int32 → Option zV) (k27 : zV → zV → Int32 → Int32 → Int32 → Int32 → Int32 → Option (zV)) (V4 V5 : zV) (x1 : Int32) (x2 : Int32) (x3 : Int32) (x4 : Int32) (x5 : Int32) (s0 : Int32) : Option (zV) :=
  if s0 = 0 then (
  if x3 = 0 then (
  if (zI V5 0 14) = 0 then (
  fX1_doRules_b116 F rR rA k27 V4 V5 x1 x2 x3 x4 x5)
  else
  some V5)
  else
  fX1_doRules_b116 F rR rA k27 V4 V5 x1 x2 x3 x4 x5)
  else
  some V5
def fX1_doRules_b96 (F : Nat) (rR rA : zV → zV → Int32 → Int32 → Int32 → Option zV) (k27 : zV → zV → Int32 → Int32 → Int32 → Int32 → Int32 → Option (zV)) (V4 V5 : zV) (x1 : Int32) (x2 : Int32) (x3 : Int32) (x4 : Int32) (x5 : Int32) : Option (zV) :=
  fX1_doRules_b97 F rR rA k27 V4 V5 x1 x2 x3 x4 x5 (0 : Int32)
def fX1_doRules_l27 (F : Nat) (rR rA : zV → zV → Int32 → Int32 → Int32 → Option zV) : Nat → zV → zV → Int32 → Int32 → Int32 → Int32 → Int32 → Option (zV)
  | 0, _, _, _, _, _, _, _ => none
  | n + 1, V4, V5, x1, x2, x3, x4, x5 =>
    zbd (fX6_headOf F V4 (x1 + (1 : Int32))) fun q4 =>
    if q4 ≤ x5 then (
    some V5)
    else
    zbd (fX6_isOn F V4 x5 x2) fun q7 =>
    if q7 = 0 then (
    fX1_doRules_b116 F rR rA (fX1_doRules_l27 F rR rA n) V4 V5 x1 x2 x3 x4 x5)
    else
    zbd (fX1_holds F V4 V5 x5 x1) fun q10 =>
    if q10.1 = 0 then (
    fX1_doRules_b116 F rR rA (fX1_doRules_l27 F rR rA n) V4 q10.2 x1 x2 x3 x4 x5)
    else
    zbd (rA V4 q10.2 x5 x1 x3) fun q13 =>
    if x2 = (-2 : Int32) then (
    fX1_doRules_b96 F rR rA (fX1_doRules_l27 F rR rA n) V4 q13 x1 x2 x3 x4 x5)
    else
    zbd (fX4_offsOf F q13 x1) fun q16 =>
    if q16 = x4 then (
    fX1_doRules_b96 F rR rA (fX1_doRules_l27 F rR rA n) V4 q13 x1 x2 x3 x4 x5)
    else
    fX1_doRules_b97 F rR rA (fX1_doRules_l27 F rR rA n) V4 q13 x1 x2 x3 x4 x5 (1 : Int32)
def fX1_doRules_body (F : Nat) (rR rA : zV → zV → Int32 → Int32 → Int32 → Option zV) (V4 V5 : zV) (x1 : Int32) (x2 : Int32) (x3 : Int32) : Option (zV) :=
  if x3 ≤ (8 : Int32) then (
  zbd (fX4_offsOf F V5 x1) fun q20 =>
  zbd (fX6_headOf F V4 x1) fun q22 =>
  fX1_doRules_l27 F rR rA F V4 V5 x1 x2 x3 q20 q22)
  else
  some V5
def fX1_rec (F : Nat) : Nat → Bool → zV → zV → Int32 → Int32 → Int32 → Option zV
  | 0, _, _, _, _, _, _ => none
  | n + 1, false, V4, V5, x1, x2, x3 => fX1_doRules_body F (fX1_rec F n false) (fX1_rec F n true) V4 V5 x1 x2 x3
  | n + 1, true, V4, V5, x1, x2, x3 => fX1_doActs_body F (fX1_rec F n false) (fX1_rec F n true) V4 V5 x1 x2 x3
def fX1_doRules (F : Nat) : zV → zV → Int32 → Int32 → Int32 → Option zV := fX1_rec F 20 false
def fX1_doActs (F : Nat) : zV → zV → Int32 → Int32 → Int32 → Option zV := fX1_rec F 20 true
def fX1_endBallIfNoneInPlay (F : Nat) (V4 V5 : zV) : Option (zV) :=
  if (zI V5 0 9) = 0 then (
  some V5)
  else
  if (zI V5 14 7) ≤ 0 then (
  zbd (fX4_turnOffAllButFirst F V4 V5) fun q3 =>
  zlet (zsI q3 0 12 (0 : Int32)) fun V5_5 =>
  if (zI V5_5 0 9) = (3 : Int32) then (
  zlet (zsI V5_5 0 9 (0 : Int32)) fun V5_12 =>
  some V5_12)
  else
  zlet (zsI V5_5 0 9 ((zI V5_5 0 9) + (1 : Int32))) fun V5_8 =>
  zbd (fX3_takeBall F V4 V5_8) fun q10 =>
  some q10)
  else
  some V5
def fX1_open_b114 (F : Nat) (V4 V5 : zV) : Option (zV) :=
  zbd (fX1_endBallIfNoneInPlay F V4 V5) fun q1 =>
  some q1
def fX1_open_l23 (F : Nat) : Nat → zV → zV → Int32 → Option (zV)
  | 0, _, _, _ => none
  | n + 1, V4, V5, x1 =>
    if (16 : Int32) ≤ x1 then (
    zbd (fX4_clear F V5) fun q4 =>
    zlet (zsL q4 0 8 (0 : Int64)) fun V5_6 =>
    zlet (zsI V5_6 0 9 (1 : Int32)) fun V5_8 =>
    zlet (zsI V5_8 0 10 (0 : Int32)) fun V5_10 =>
    zlet (zsI V5_10 0 11 (0 : Int32)) fun V5_12 =>
    zlet (zsI V5_12 0 12 (0 : Int32)) fun V5_14 =>
    zbd (fX3_takeBall F V4 V5_14) fun q16 =>
    zbd (fX1_beginActs F V4 q16) fun q18 =>
    zbd (fX4_turnOn F V4 q18 (0 : Int32)) fun q20 =>
    if q20.1 = 0 then (
    fX1_open_b114 F V4 q20.2)
    else
    zbd (fX1_doRules F V4 q20.2 (0 : Int32) (-1 : Int32) (1 : Int32)) fun q23 =>
    fX1_open_b114 F V4 q23)
    else
    zchk (zix x1 16) <|
    zchk (zix x1 16) <|
    zlet (zsA V5 1 (upd (zA V5 1) (x1).toNatClampNeg (zA V4 9 (x1).toNatClampNeg))) fun V5_27 =>
    fX1_open_l23 F n V4 V5_27 (x1 + 1)
def fX1_open (F : Nat) (V4 V5 : zV) : Option (zV) :=
  zbd (fX8_clear F V5) fun q29 =>
  zbd (fX0_clear F q29) fun q31 =>
  zbd (fX3_clear F V4 q31) fun q33 =>
  fX1_open_l23 F F V4 q33 (0 : Int32)
def fX11_begin (F : Nat) (V0 V4 V5 : zV) : Option (Int32 × zV × zV) :=
  if (zI V0 0 7) = 0 then (
  some ((0 : Int32), V0, V5))
  else
  zlet (zsI V0 0 9 (1 : Int32)) fun V0_2 =>
  zlet (zsI V0_2 0 12 (0 : Int32)) fun V0_4 =>
  zbd (fX1_open F V4 V5) fun q6 =>
  some ((1 : Int32), V0_4, q6)
def fX8_take_b68 (F : Nat) (V4 V5 : zV) (x1 : Int32) (x2 : Int32) (x3 : Int32) : Option (Int32 × zV) :=
  zchk (zix x1 16) <|
  zchk (zix x1 16) <|
  zlet (zsA V5 6 (upd (zA V5 6) (x1).toNatClampNeg ((zA V5 6 (x1).toNatClampNeg) + (1 : Int32)))) fun V5_3 =>
  zchk (zix x1 16) <|
  zlet (zsA V5_3 8 (upd (zA V5_3 8) (x1).toNatClampNeg x2)) fun V5_6 =>
  zchk (zix x1 16) <|
  zlet (zsA V5_6 9 (upd (zA V5_6 9) (x1).toNatClampNeg x3)) fun V5_9 =>
  some ((1 : Int32), V5_9)
def fX8_take (F : Nat) (V4 V5 : zV) (x1 : Int32) (x2 : Int32) (x3 : Int32) : Option (Int32 × zV) :=
  zbd (fX9_has F V4 (0 : Int32) x1) fun q11 =>
  if q11 = 0 then (
  some ((0 : Int32), V5))
  else
  if x1 < (16 : Int32) then (
  zchk (zix x1 16) <|
  zchk (zix x1 16) <|
  zlet (zsA V5 7 (upd (zA V5 7) (x1).toNatClampNeg ((zA V5 7 (x1).toNatClampNeg) + (1 : Int32)))) fun V5_17 =>
  if x3 = 0 then (
  some ((0 : Int32), V5_17))
  else
  zchk (zix x1 16) <|
  if (zA V5_17 6 (x1).toNatClampNeg) ≤ 0 then (
  fX8_take_b68 F V4 V5_17 x1 x2 x3)
  else
  zchk (zix x1 16) <|
  zchk (zix x1 16) <|
  if (zA V4 2 (x1).toNatClampNeg) ≤ (x2 - (zA V5_17 8 (x1).toNatClampNeg)) then (
  fX8_take_b68 F V4 V5_17 x1 x2 x3)
  else
  some ((0 : Int32), V5_17))
  else
  some ((0 : Int32), V5)
def fX3_putAll_b98 (F : Nat) (k2 : zV → zV → Int32 → Option (zV)) (V4 V5 : zV) (x1 : Int32) : Option (zV) :=
  k2 V4 V5 (x1 + 1)
def fX3_putAll_b57 (F : Nat) (k2 : zV → zV → Int32 → Option (zV)) (V4 V5 : zV) (x1 : Int32) (x2 : Int32) (x3 : Int32) (x4 : Int32) (s0 : Int32) (s1 : Int32) : Option (zV) :=
  if (zA V4 1 ((4 : Int32)).toNatClampNeg) < x2 then (
  fX3_putAll_b98 F k2 V4 V5 x1)
  else
  if x2 < x3 then (
  fX3_putAll_b98 F k2 V4 V5 x1)
  else
  if x3 < x4 then (
  fX3_putAll_b98 F k2 V4 V5 x1)
  else
  if (s0 + s1) = (zI V5 14 7) then (
  zbd (fX3_put F V5 x1) fun q5 =>
  fX3_putAll_b98 F k2 V4 q5 x1)
  else
  fX3_putAll_b98 F k2 V4 V5 x1
def fX3_putAll_b46 (F : Nat) (k2 : zV → zV → Int32 → Option (zV)) (V4 V5 : zV) (x1 : Int32) (x2 : Int32) (x3 : Int32) (x4 : Int32) (s0 : Int32) (s1 : Int32) : Option (zV) :=
  if x4 ≤ 0 then (
  fX3_putAll_b57 F k2 V4 V5 x1 x2 x3 x4 (s0 + s1) (0 : Int32))
  else
  fX3_putAll_b57 F k2 V4 V5 x1 x2 x3 x4 (s0 + s1) (1 : Int32)
def fX3_putAll_b37 (F : Nat) (k2 : zV → zV → Int32 → Option (zV)) (V4 V5 : zV) (x1 : Int32) (x2 : Int32) (x3 : Int32) (x4 : Int32) (s0 : Int32) : Option (zV) :=
  if x3 ≤ 0 then (
  fX3_putAll_b46 F k2 V4 V5 x1 x2 x3 x4 s0 (0 : Int32))
  else
  fX3_putAll_b46 F k2 V4 V5 x1 x2 x3 x4 s0 (1 : Int32)
def fX3_putAll_l2 (F : Nat) : Nat → zV → zV → Int32 → Option (zV)
  | 0, _, _, _ => none
  | n + 1, V4, V5, x1 =>
    if (729 : Int32) ≤ x1 then (
    some V5)
    else
    zlet ((x1 / (81 : Int32))) fun y10 =>
    zlet (((x1 / (9 : Int32)) - (x1 / (9 : Int32)) / (9 : Int32) * (9 : Int32))) fun y12 =>
    zlet ((x1 - x1 / (9 : Int32) * (9 : Int32))) fun y14 =>
    if y10 ≤ 0 then (
    fX3_putAll_b37 F (fX3_putAll_l2 F n) V4 V5 x1 y10 y12 y14 (0 : Int32))
    else
    fX3_putAll_b37 F (fX3_putAll_l2 F n) V4 V5 x1 y10 y12 y14 (1 : Int32)
def fX3_putAll (F : Nat) (V4 V5 : zV) : Option (zV) :=
  fX3_putAll_l2 F F V4 V5 (0 : Int32)
def fX3_moveBallBy_b115 (F : Nat) (V4 V5 : zV) (x2 : Int32) : Option (zV) :=
  if x2 = 0 then (
  some V5)
  else
  zbd (fX3_spread F V4 V5) fun q2 =>
  some q2
def fX3_moveBallBy_b87 (F : Nat) (V4 V5 : zV) (x2 : Int32) : Option (zV) :=
  if x2 = 0 then (
  fX3_moveBallBy_b115 F V4 V5 x2)
  else
  if (zI V5 14 5) = 0 then (
  zlet (zsI V5 14 8 ((zI V5 14 8) + (1 : Int32))) fun V5_6 =>
  zbd (fX3_putAll F V4 V5_6) fun q8 =>
  some q8)
  else
  fX3_moveBallBy_b115 F V4 V5 x2
def fX3_moveBallBy_b81 (F : Nat) (k13 : zV → zV → Int32 → Int32 → Int32 → Option (zV)) (V4 V5 : zV) (x1 : Int32) (x2 : Int32) (x3 : Int32) : Option (zV) :=
  k13 V4 V5 x1 x2 (x3 + 1)
def fX3_moveBallBy_b53 (F : Nat) (k13 : zV → zV → Int32 → Int32 → Int32 → Option (zV)) (V4 V5 : zV) (x1 : Int32) (x3 : Int32) : Option (zV) :=
  zchk (zix x3 24) <|
  zchk (zix x3 24) <|
  zbd (fX3_moveAll F V5 ((zA V4 6 (x3).toNatClampNeg) + (1 : Int32)) ((zA V4 7 (x3).toNatClampNeg) + (1 : Int32))) fun q12 =>
  fX3_moveBallBy_b81 F k13 V4 q12 x1 (1 : Int32) x3
def fX3_moveBallBy_l13 (F : Nat) : Nat → zV → zV → Int32 → Int32 → Int32 → Option (zV)
  | 0, _, _, _, _, _ => none
  | n + 1, V4, V5, x1, x2, x3 =>
    if (zA V4 1 ((5 : Int32)).toNatClampNeg) ≤ x3 then (
    fX3_moveBallBy_b87 F V4 V5 x2)
    else
    if (24 : Int32) ≤ x3 then (
    fX3_moveBallBy_b87 F V4 V5 x2)
    else
    zchk (zix x3 24) <|
    if (zA V4 8 (x3).toNatClampNeg) = x1 then (
    if x2 = 0 then (
    zbd (fX3_turnOver F V5) fun q19 =>
    fX3_moveBallBy_b53 F (fX3_moveBallBy_l13 F n) V4 q19 x1 x3)
    else
    fX3_moveBallBy_b53 F (fX3_moveBallBy_l13 F n) V4 V5 x1 x3)
    else
    fX3_moveBallBy_b81 F (fX3_moveBallBy_l13 F n) V4 V5 x1 x2 x3
def fX3_moveBallBy (F : Nat) (V4 V5 : zV) (x1 : Int32) : Option (zV) :=
  zchk (zP V5 14 1 = 15 ∨ zP V5 14 1 = 16) <|
  if (nI (zN V5 (zP V5 14 1))) = 0 then (
  some V5)
  else
  fX3_moveBallBy_l13 F F V4 V5 x1 (0 : Int32) (0 : Int32)
def fX9_inOrder (F : Nat) (V4 : zV) (x1 : Int32) : Option (Int32) :=
  if x1 < 0 then (
  some (-1 : Int32))
  else
  if (12 : Int32) ≤ x1 then (
  some (-1 : Int32))
  else
  zchk (zix x1 12) <|
  some (zA V4 12 (x1).toNatClampNeg)
def fX4_isOnSinceThen (F : Nat) (V5 : zV) (x1 : Int32) : Option (Int32) :=
  if x1 < 0 then (
  some (0 : Int32))
  else
  if (12 : Int32) ≤ x1 then (
  some (0 : Int32))
  else
  zchk (zix x1 12) <|
  zchk (zix x1 12) <|
  if (zA V5 23 (x1).toNatClampNeg) = (zA V5 22 (x1).toNatClampNeg) then (
  some (1 : Int32))
  else
  some (0 : Int32)
def fX1_hit_b89 (F : Nat) (V4 V5 : zV) : Option (Int32 × zV) :=
  zbd (fX1_endBallIfNoneInPlay F V4 V5) fun q1 =>
  some ((1 : Int32), q1)
def fX1_hit_b83 (F : Nat) (k35 : zV → zV → Int32 → Int32 → Option (Int32 × zV)) (V4 V5 : zV) (x1 : Int32) (x2 : Int32) : Option (Int32 × zV) :=
  k35 V4 V5 x1 (x2 + 1)
def fX1_hit_l35 (F : Nat) : Nat → zV → zV → Int32 → Int32 → Option (Int32 × zV)
  | 0, _, _, _, _ => none
  | n + 1, V4, V5, x1, x2 =>
    if (zA V4 1 ((7 : Int32)).toNatClampNeg) ≤ x2 then (
    fX1_hit_b89 F V4 V5)
    else
    if (zI V5 0 14) = 0 then (
    zbd (fX9_inOrder F V4 x2) fun q5 =>
    zbd (fX4_isOnSinceThen F V5 q5) fun q7 =>
    if q7 = 0 then (
    fX1_hit_b83 F (fX1_hit_l35 F n) V4 V5 x1 x2)
    else
    zbd (fX1_doRules F V4 V5 q5 x1 (0 : Int32)) fun q10 =>
    fX1_hit_b83 F (fX1_hit_l35 F n) V4 q10 x1 x2)
    else
    fX1_hit_b89 F V4 V5
def fX1_hit (F : Nat) (V4 V5 : zV) (x1 : Int32) : Option (Int32 × zV) :=
  zbd (fX8_take F V4 V5 x1 (zI V5 0 10) (zI V5 0 9)) fun q12 =>
  if q12.1 = 0 then (
  some ((0 : Int32), q12.2))
  else
  zbd (fX3_moveBallBy F V4 q12.2 x1) fun q15 =>
  zbd (fX1_beginActs F V4 q15) fun q17 =>
  fX1_hit_l35 F F V4 q17 x1 (0 : Int32)
def fX11_press (F : Nat) (V0 V4 V5 : zV) (x1 : Int32) : Option (Int32 × zV × zV) :=
  if (zI V0 0 9) = 0 then (
  some ((-1 : Int32), V0, V5))
  else
  zbd (fX9_has F V4 (0 : Int32) x1) fun q2 =>
  if q2 = 0 then (
  some ((-1 : Int32), V0, V5))
  else
  if (zI V0 0 12) < (600 : Int32) then (
  zchk (zix (zI V0 0 12) 600) <|
  zlet (zsA V0 62 (upd (zA V0 62) ((zI V0 0 12)).toNatClampNeg x1)) fun V0_7 =>
  zchk (zix (zI V0_7 0 12) 600) <|
  zlet (zsA V0_7 63 (upd (zA V0_7 63) ((zI V0_7 0 12)).toNatClampNeg (zI V5 0 10))) fun V0_10 =>
  zlet (zsI V0_10 0 12 ((zI V0_10 0 12) + (1 : Int32))) fun V0_12 =>
  zbd (fX1_hit F V4 V5 x1) fun q14 =>
  if q14.1 = 0 then (
  some ((0 : Int32), V0_12, q14.2))
  else
  some ((1 : Int32), V0_12, q14.2))
  else
  some ((-1 : Int32), V0, V5)
def fX4_passTimeOf (F : Nat) (V4 V5 : zV) (x1 : Int32) : Option (Int32 × zV) :=
  zbd (fX4_isOnSinceThen F V5 x1) fun q1 =>
  if q1 = 0 then (
  some ((0 : Int32), V5))
  else
  zchk (zix x1 12) <|
  if 0 < (zA V4 11 (x1).toNatClampNeg) then (
  zchk (zix x1 12) <|
  zchk (zix x1 12) <|
  zlet (zsA V5 20 (upd (zA V5 20) (x1).toNatClampNeg ((zA V5 20 (x1).toNatClampNeg) - (1 : Int32)))) fun V5_8 =>
  zchk (zix x1 12) <|
  if 0 < (zA V5_8 20 (x1).toNatClampNeg) then (
  some ((0 : Int32), V5_8))
  else
  some ((1 : Int32), V5_8))
  else
  some ((0 : Int32), V5)
def fJ6_bitCount_0f7a4 (F : Nat) (x0 : Int32) : Option (Int32) :=
  zlet ((x0 - ((((x0).toUInt32 >>> (((1 : Int32)).toUInt32 &&& Int32.toUInt32 31)).toInt32) &&& (1431655765 : Int32)))) fun y1 =>
  zlet (((y1 &&& (858993459 : Int32)) + ((((y1).toUInt32 >>> (((2 : Int32)).toUInt32 &&& Int32.toUInt32 31)).toInt32) &&& (858993459 : Int32)))) fun y3 =>
  zlet (((y3 + (((y3).toUInt32 >>> (((4 : Int32)).toUInt32 &&& Int32.toUInt32 31)).toInt32)) &&& (252645135 : Int32))) fun y5 =>
  zlet ((y5 + (((y5).toUInt32 >>> (((8 : Int32)).toUInt32 &&& Int32.toUInt32 31)).toInt32))) fun y7 =>
  zlet ((y7 + (((y7).toUInt32 >>> (((16 : Int32)).toUInt32 &&& Int32.toUInt32 31)).toInt32))) fun y9 =>
  some (y9 &&& (63 : Int32))
def fX0_fireAt_b153 (F : Nat) (V4 V5 : zV) (x2 : Int32) (x3 : Int32) : Option (Int32 × zV) :=
  zlet (zsI V5 10 4 x3) fun V5_1 =>
  zbd (fJ6_bitCount_0f7a4 F x2) fun q3 =>
  some (q3, V5_1)
def fX0_fireAt_b147 (F : Nat) (k7 : zV → zV → Int32 → Int32 → Int32 → Int32 → Option (Int32 × zV)) (V4 V5 : zV) (x1 : Int32) (x2 : Int32) (x3 : Int32) (x4 : Int32) : Option (Int32 × zV) :=
  k7 V4 V5 x1 x2 x3 (x4 + 1)
def fX0_fireAt_b136 (F : Nat) (k7 : zV → zV → Int32 → Int32 → Int32 → Int32 → Option (Int32 × zV)) (V4 V5 : zV) (x1 : Int32) (x2 : Int32) (x3 : Int32) (x4 : Int32) (x5 : Int32) : Option (Int32 × zV) :=
  zchk (zix x3 8) <|
  zlet (zsA V5 13 (upd (zA V5 13) (x3).toNatClampNeg x5)) fun V5_6 =>
  fX0_fireAt_b147 F k7 V4 V5_6 x1 x2 (x3 + 1) x4
def fX0_fireAt_b85 (F : Nat) (k7 : zV → zV → Int32 → Int32 → Int32 → Int32 → Option (Int32 × zV)) (V4 V5 : zV) (x1 : Int32) (x2 : Int32) (x3 : Int32) (x4 : Int32) (x5 : Int32) (s0 : Int32) : Option (Int32 × zV) :=
  if s0 = 0 then (
  fX0_fireAt_b136 F k7 V4 V5 x1 x2 x3 x4 x5)
  else
  zchk (zix x5 8) <|
  if ((zA V4 4 (x5).toNatClampNeg) &&& x2) = 0 then (
  zchk (zix x5 8) <|
  zchk (zix x5 8) <|
  zlet (zsA V5 11 (upd (zA V5 11) (x5).toNatClampNeg ((zA V5 11 (x5).toNatClampNeg) + (1 : Int32)))) fun V5_13 =>
  zchk (zix x5 8) <|
  zlet (zsA V5_13 12 (upd (zA V5_13 12) (x5).toNatClampNeg x1)) fun V5_16 =>
  zlet ((x2 ||| ((1 : Int32) <<< (x5 &&& 31)))) fun y18 =>
  fX0_fireAt_b147 F k7 V4 V5_16 x1 y18 x3 x4)
  else
  fX0_fireAt_b136 F k7 V4 V5 x1 x2 x3 x4 x5
def fX0_fireAt_b84 (F : Nat) (k7 : zV → zV → Int32 → Int32 → Int32 → Int32 → Option (Int32 × zV)) (V4 V5 : zV) (x1 : Int32) (x2 : Int32) (x3 : Int32) (x4 : Int32) (x5 : Int32) : Option (Int32 × zV) :=
  fX0_fireAt_b85 F k7 V4 V5 x1 x2 x3 x4 x5 (0 : Int32)
def fX0_fireAt_b80 (F : Nat) (k7 : zV → zV → Int32 → Int32 → Int32 → Int32 → Option (Int32 × zV)) (V4 V5 : zV) (x1 : Int32) (x2 : Int32) (x3 : Int32) (x4 : Int32) (x5 : Int32) : Option (Int32 × zV) :=
  fX0_fireAt_b85 F k7 V4 V5 x1 x2 x3 x4 x5 (1 : Int32)
def fX0_fireAt_l7 (F : Nat) : Nat → zV → zV → Int32 → Int32 → Int32 → Int32 → Option (Int32 × zV)
  | 0, _, _, _, _, _, _ => none
  | n + 1, V4, V5, x1, x2, x3, x4 =>
    if (zI V5 10 4) ≤ x4 then (
    fX0_fireAt_b153 F V4 V5 x2 x3)
    else
    if (8 : Int32) ≤ x4 then (
    fX0_fireAt_b153 F V4 V5 x2 x3)
    else
    zchk (zix x4 8) <|
    zlet ((zA V5 13 (x4).toNatClampNeg)) fun y23 =>
    zbd (fX9_has F V4 (1 : Int32) y23) fun q25 =>
    if q25 = 0 then (
    fX0_fireAt_b84 F (fX0_fireAt_l7 F n) V4 V5 x1 x2 x3 x4 y23)
    else
    zchk (zix y23 8) <|
    if (zA V5 11 (y23).toNatClampNeg) = 0 then (
    fX0_fireAt_b80 F (fX0_fireAt_l7 F n) V4 V5 x1 x2 x3 x4 y23)
    else
    zchk (zix y23 8) <|
    zchk (zix y23 8) <|
    if (x1 - (zA V5 12 (y23).toNatClampNeg)) < (zA V4 3 (y23).toNatClampNeg) then (
    fX0_fireAt_b84 F (fX0_fireAt_l7 F n) V4 V5 x1 x2 x3 x4 y23)
    else
    fX0_fireAt_b80 F (fX0_fireAt_l7 F n) V4 V5 x1 x2 x3 x4 y23
def fX0_fireAt (F : Nat) (V4 V5 : zV) (x1 : Int32) : Option (Int32 × zV) :=
  fX0_fireAt_l7 F F V4 V5 x1 (0 : Int32) (0 : Int32) (0 : Int32)
def fX1_passTick_b96 (F : Nat) (V4 V5 : zV) : Option (Int32 × zV) :=
  zbd (fX0_fireAt F V4 V5 (zI V5 0 10)) fun q1 =>
  some (q1.1, q1.2)
def fX1_passTick_b86 (F : Nat) (k33 : zV → zV → Int32 → Option (Int32 × zV)) (V4 V5 : zV) (x1 : Int32) : Option (Int32 × zV) :=
  k33 V4 V5 (x1 + 1)
def fX1_passTick_l33 (F : Nat) : Nat → zV → zV → Int32 → Option (Int32 × zV)
  | 0, _, _, _ => none
  | n + 1, V4, V5, x1 =>
    if (zA V4 1 ((7 : Int32)).toNatClampNeg) ≤ x1 then (
    zbd (fX1_endBallIfNoneInPlay F V4 V5) fun q4 =>
    fX1_passTick_b96 F V4 q4)
    else
    zbd (fX9_inOrder F V4 x1) fun q6 =>
    zbd (fX4_passTimeOf F V4 V5 q6) fun q8 =>
    if q8.1 = 0 then (
    fX1_passTick_b86 F (fX1_passTick_l33 F n) V4 q8.2 x1)
    else
    zbd (fX4_turnOff F V4 q8.2 q6) fun q11 =>
    if q11.1 = 0 then (
    fX1_passTick_b86 F (fX1_passTick_l33 F n) V4 q11.2 x1)
    else
    zbd (fX1_doRules F V4 q11.2 q6 (-2 : Int32) (1 : Int32)) fun q14 =>
    fX1_passTick_b86 F (fX1_passTick_l33 F n) V4 q14 x1
def fX1_passTick (F : Nat) (V4 V5 : zV) : Option (Int32 × zV) :=
  zlet (zsI V5 0 10 ((zI V5 0 10) + (1 : Int32))) fun V5_16 =>
  if (zI V5_16 0 9) = 0 then (
  fX1_passTick_b96 F V4 V5_16)
  else
  if (zI V5_16 18 6) ≤ 0 then (
  fX1_passTick_b96 F V4 V5_16)
  else
  zbd (fX1_beginActs F V4 V5_16) fun q20 =>
  fX1_passTick_l33 F F V4 q20 (0 : Int32)
def fX11_ticks_l39 (F : Nat) : Nat → zV → zV → zV → Int32 → Int32 → Int32 → Option (Int32 × zV)
  | 0, _, _, _, _, _, _ => none
  | n + 1, V0, V4, V5, x1, x2, x3 =>
    if x1 ≤ x3 then (
    some (x2, V5))
    else
    zbd (fX1_passTick F V4 V5) fun q2 =>
    fX11_ticks_l39 F n V0 V4 q2.2 x1 (x2 + q2.1) (x3 + 1)
def fX11_ticks (F : Nat) (V0 V4 V5 : zV) (x1 : Int32) : Option (Int32 × zV) :=
  if (zI V0 0 9) = 0 then (
  some ((-1 : Int32), V5))
  else
  if x1 < (1 : Int32) then (
  some ((-1 : Int32), V5))
  else
  if (100 : Int32) < x1 then (
  some ((-1 : Int32), V5))
  else
  if ((zI V5 0 10) + x1) ≤ (5000 : Int32) then (
  fX11_ticks_l39 F F V0 V4 V5 x1 (0 : Int32) (0 : Int32))
  else
  some ((-1 : Int32), V5)
def fX11_score (F : Nat) (V0 V5 : zV) : Option (Int64) :=
  if (zI V0 0 9) = 0 then (
  some (-1 : Int64))
  else
  some (zL V5 0 8)
def fX1_ballsOver (F : Nat) (V5 : zV) : Option (Int32) :=
  if (zI V5 0 9) = 0 then (
  some (3 : Int32))
  else
  some ((zI V5 0 9) - (1 : Int32))
def fX8_isStuck (F : Nat) (V5 : zV) (x1 : Int32) (x2 : Int32) : Option (Int32) :=
  if x1 < 0 then (
  some (0 : Int32))
  else
  if (16 : Int32) ≤ x1 then (
  some (0 : Int32))
  else
  if x2 < (2 : Int32) then (
  some (0 : Int32))
  else
  zchk (zix x1 16) <|
  if (x2 - (1 : Int32)) ≤ (zA V5 9 (x1).toNatClampNeg) then (
  some (0 : Int32))
  else
  some (1 : Int32)
def fX11_told (F : Nat) (V0 V4 V5 : zV) (x1 : Int32) (x2 : Int32) : Option (Int32) :=
  zbd (fX9_has F V4 (0 : Int32) x1) fun q1 =>
  if q1 = 0 then (
  some (-1 : Int32))
  else
  if x2 = (3 : Int32) then (
  zchk (zix x1 16) <|
  some (zA V4 2 (x1).toNatClampNeg))
  else
  if (zI V0 0 9) = 0 then (
  some (-1 : Int32))
  else
  if x2 = (0 : Int32) then (
  zchk (zix x1 16) <|
  some (zA V5 6 (x1).toNatClampNeg))
  else
  if x2 = (1 : Int32) then (
  zchk (zix x1 16) <|
  some (zA V5 7 (x1).toNatClampNeg))
  else
  if x2 = (2 : Int32) then (
  zbd (fX1_ballsOver F V5) fun q11 =>
  zbd (fX8_isStuck F V5 x1 q11) fun q13 =>
  if q13 = 0 then (
  some (0 : Int32))
  else
  some (1 : Int32))
  else
  some (-1 : Int32)
def fX11_coil (F : Nat) (V0 V4 V5 : zV) (x1 : Int32) (x2 : Int32) : Option (Int32) :=
  if (zI V0 0 9) = 0 then (
  some (-1 : Int32))
  else
  zbd (fX9_has F V4 (1 : Int32) x1) fun q2 =>
  if q2 = 0 then (
  some (-1 : Int32))
  else
  if x2 = (0 : Int32) then (
  zchk (zix x1 8) <|
  some (zA V5 11 (x1).toNatClampNeg))
  else
  if x2 = (1 : Int32) then (
  zchk (zix x1 8) <|
  if (zA V5 11 (x1).toNatClampNeg) ≤ 0 then (
  some (-1 : Int32))
  else
  zchk (zix x1 8) <|
  some (zA V5 12 (x1).toNatClampNeg))
  else
  if x2 = (2 : Int32) then (
  zbd (fX0_placeInRow F V5 x1) fun q12 =>
  some q12)
  else
  some (-1 : Int32)
def fX6_pays (F : Nat) (V4 : zV) (x1 : Int32) : Option (Int32) :=
  if x1 < 0 then (
  some (0 : Int32))
  else
  if (zI V4 13 3) ≤ x1 then (
  some (0 : Int32))
  else
  zchk (zix x1 80) <|
  if (zA V4 20 (x1).toNatClampNeg) = 0 then (
  some (0 : Int32))
  else
  some (1 : Int32)
def fX6_hasHold (F : Nat) (V4 : zV) (x1 : Int32) : Option (Int32) :=
  if x1 < 0 then (
  some (0 : Int32))
  else
  if (zI V4 13 3) ≤ x1 then (
  some (0 : Int32))
  else
  zchk (zix x1 80) <|
  if (zA V4 21 (x1).toNatClampNeg) = 0 then (
  some (0 : Int32))
  else
  some (1 : Int32)
def fX1_wouldPay_b154 (F : Nat) (k78 : zV → zV → Int32 → Int32 → Int32 → Int32 → Int32 → Option (Int32 × zV)) (V4 V5 : zV) (x1 : Int32) (x2 : Int32) (x3 : Int32) (x4 : Int32) (x5 : Int32) : Option (Int32 × zV) :=
  k78 V4 V5 x1 x2 x3 x4 (x5 + 1)
def fX1_wouldPay_b127 (F : Nat) (k78 : zV → zV → Int32 → Int32 → Int32 → Int32 → Int32 → Option (Int32 × zV)) (V4 V5 : zV) (x1 : Int32) (x2 : Int32) (x3 : Int32) (x4 : Int32) (x5 : Int32) (s0 : Int32) : Option (Int32 × zV) :=
  if s0 = 0 then (
  fX1_wouldPay_b154 F k78 V4 V5 x1 x2 x3 x4 x5)
  else
  zbd (fX1_holds F V4 V5 x5 x3) fun q2 =>
  if q2.1 = 0 then (
  fX1_wouldPay_b154 F k78 V4 q2.2 x1 x2 x3 x4 x5)
  else
  zbd (fX6_pays F V4 x5) fun q5 =>
  zchk (q5 = 0 ∨ q5 = 1) <|
  some (q5, q2.2)
def fX1_wouldPay_b126 (F : Nat) (k78 : zV → zV → Int32 → Int32 → Int32 → Int32 → Int32 → Option (Int32 × zV)) (V4 V5 : zV) (x1 : Int32) (x2 : Int32) (x3 : Int32) (x4 : Int32) (x5 : Int32) : Option (Int32 × zV) :=
  fX1_wouldPay_b127 F k78 V4 V5 x1 x2 x3 x4 x5 (0 : Int32)
def fX1_wouldPay_b122 (F : Nat) (k78 : zV → zV → Int32 → Int32 → Int32 → Int32 → Int32 → Option (Int32 × zV)) (V4 V5 : zV) (x1 : Int32) (x2 : Int32) (x3 : Int32) (x4 : Int32) (x5 : Int32) : Option (Int32 × zV) :=
  fX1_wouldPay_b127 F k78 V4 V5 x1 x2 x3 x4 x5 (1 : Int32)
def fX1_wouldPay_l78 (F : Nat) (k18 : zV → zV → Int32 → Int32 → Option (Int32 × zV)) : Nat → zV → zV → Int32 → Int32 → Int32 → Int32 → Int32 → Option (Int32 × zV)
  | 0, _, _, _, _, _, _, _ => none
  | n + 1, V4, V5, x1, x2, x3, x4, x5 =>
    if x4 ≤ x5 then (
    k18 V4 V5 x1 (x2 + 1))
    else
    zbd (fX6_isOn F V4 x5 x1) fun q9 =>
    if q9 = 0 then (
    fX1_wouldPay_b126 F (fX1_wouldPay_l78 F k18 n) V4 V5 x1 x2 x3 x4 x5)
    else
    zbd (fX6_pays F V4 x5) fun q12 =>
    if q12 = 0 then (
    zbd (fX6_hasHold F V4 x5) fun q15 =>
    if q15 = 0 then (
    fX1_wouldPay_b126 F (fX1_wouldPay_l78 F k18 n) V4 V5 x1 x2 x3 x4 x5)
    else
    fX1_wouldPay_b122 F (fX1_wouldPay_l78 F k18 n) V4 V5 x1 x2 x3 x4 x5)
    else
    fX1_wouldPay_b122 F (fX1_wouldPay_l78 F k18 n) V4 V5 x1 x2 x3 x4 x5
def fX1_wouldPay_b66 (F : Nat) (k18 : zV → zV → Int32 → Int32 → Option (Int32 × zV)) (V4 V5 : zV) (x1 : Int32) (x2 : Int32) (x3 : Int32) (s0 : Int32) : Option (Int32 × zV) :=
  zbd (fX6_headOf F V4 x3) fun q18 =>
  fX1_wouldPay_l78 F k18 F V4 V5 x1 x2 x3 s0 q18
def fX1_wouldPay_l18 (F : Nat) : Nat → zV → zV → Int32 → Int32 → Option (Int32 × zV)
  | 0, _, _, _, _ => none
  | n + 1, V4, V5, x1, x2 =>
    if (zA V4 1 ((7 : Int32)).toNatClampNeg) ≤ x2 then (
    some ((0 : Int32), V5))
    else
    zbd (fX9_inOrder F V4 x2) fun q21 =>
    zbd (fX4_isOn F V5 q21) fun q23 =>
    if q23 = 0 then (
    fX1_wouldPay_b66 F (fX1_wouldPay_l18 F n) V4 V5 x1 x2 q21 (0 : Int32))
    else
    zbd (fX6_headOf F V4 (q21 + (1 : Int32))) fun q26 =>
    fX1_wouldPay_b66 F (fX1_wouldPay_l18 F n) V4 V5 x1 x2 q21 q26
def fX1_wouldPay (F : Nat) (V4 V5 : zV) (x1 : Int32) : Option (Int32 × zV) :=
  if (zI V5 0 9) = 0 then (
  some ((0 : Int32), V5))
  else
  if (zI V5 0 12) = 0 then (
  fX1_wouldPay_l18 F F V4 V5 x1 (0 : Int32))
  else
  some ((0 : Int32), V5)
def fX11_lamp (F : Nat) (V0 V4 V5 : zV) (x1 : Int32) : Option (Int32 × zV) :=
  if (zI V0 0 9) = 0 then (
  some ((-1 : Int32), V5))
  else
  zbd (fX9_has F V4 (3 : Int32) x1) fun q2 =>
  if q2 = 0 then (
  some ((-1 : Int32), V5))
  else
  zchk (zix x1 16) <|
  zbd (fX1_wouldPay F V4 V5 (zA V4 5 (x1).toNatClampNeg)) fun q6 =>
  if q6.1 = 0 then (
  some ((0 : Int32), q6.2))
  else
  some ((1 : Int32), q6.2)
def fX11_value (F : Nat) (V0 V4 V5 : zV) (x1 : Int32) : Option (Int32) :=
  if (zI V0 0 9) = 0 then (
  some (0 : Int32))
  else
  zbd (fX9_has F V4 (6 : Int32) x1) fun q2 =>
  if q2 = 0 then (
  some (0 : Int32))
  else
  zchk (zix x1 16) <|
  some (zA V5 1 (x1).toNatClampNeg)
def fX11_mode (F : Nat) (V0 V4 V5 : zV) (x1 : Int32) (x2 : Int32) : Option (Int32) :=
  zbd (fX9_has F V4 (7 : Int32) x1) fun q1 =>
  if q1 = 0 then (
  some (-1 : Int32))
  else
  if x2 = (3 : Int32) then (
  zchk (zix x1 12) <|
  some (zA V4 10 (x1).toNatClampNeg))
  else
  if (zI V0 0 9) = 0 then (
  some (-1 : Int32))
  else
  if x2 = (0 : Int32) then (
  zchk (zix x1 12) <|
  if (zA V5 19 (x1).toNatClampNeg) = 0 then (
  some (0 : Int32))
  else
  some (1 : Int32))
  else
  if x2 = (1 : Int32) then (
  zchk (zix x1 12) <|
  some (zA V5 20 (x1).toNatClampNeg))
  else
  if x2 = (2 : Int32) then (
  zchk (zix x1 12) <|
  some (zA V5 21 (x1).toNatClampNeg))
  else
  some (-1 : Int32)
def fX3_ballsAt_b47 (F : Nat) (s0 : Int32) (s1 : Int32) : Option (Int32) :=
  some (s0 + s1)
def fX3_ballsAt_b33 (F : Nat) (x0 : Int32) (x2 : Int32) (s0 : Int32) (s1 : Int32) : Option (Int32) :=
  if (x0 - x0 / (9 : Int32) * (9 : Int32)) = x2 then (
  fX3_ballsAt_b47 F (s0 + s1) (1 : Int32))
  else
  fX3_ballsAt_b47 F (s0 + s1) (0 : Int32)
def fX3_ballsAt_b17 (F : Nat) (x0 : Int32) (x2 : Int32) (s0 : Int32) : Option (Int32) :=
  if ((x0 / (9 : Int32)) - (x0 / (9 : Int32)) / (9 : Int32) * (9 : Int32)) = x2 then (
  fX3_ballsAt_b33 F x0 x2 s0 (1 : Int32))
  else
  fX3_ballsAt_b33 F x0 x2 s0 (0 : Int32)
def fX3_ballsAt (F : Nat) (x0 : Int32) (x1 : Int32) : Option (Int32) :=
  if (x0 / (81 : Int32)) = (x1 + (1 : Int32)) then (
  fX3_ballsAt_b17 F x0 (x1 + (1 : Int32)) (1 : Int32))
  else
  fX3_ballsAt_b17 F x0 (x1 + (1 : Int32)) (0 : Int32)
def fX3_mostAt_b42 (F : Nat) (V5 : zV) (x2 : Int32) : Option (Int32) :=
  some x2
def fX3_mostAt_l4 (F : Nat) : Nat → zV → Int32 → Int32 → Int32 → Option (Int32)
  | 0, _, _, _, _ => none
  | n + 1, V5, x1, x2, x3 =>
    if (zI V5 14 5) ≤ x3 then (
    fX3_mostAt_b42 F V5 x2)
    else
    zchk (zP V5 14 1 = 15 ∨ zP V5 14 1 = 16) <|
    if (nI (zN V5 (zP V5 14 1))) ≤ x3 then (
    fX3_mostAt_b42 F V5 x2)
    else
    zchk (zP V5 14 1 = 15 ∨ zP V5 14 1 = 16) <|
    zchk (zix x3 (zN V5 (zP V5 14 1))) <|
    zbd (fX3_ballsAt F (zA V5 (zP V5 14 1) (x3).toNatClampNeg) x1) fun q8 =>
    zlet ((if x2 < q8 then q8 else x2)) fun y10 =>
    fX3_mostAt_l4 F n V5 x1 y10 (x3 + 1)
def fX3_mostAt (F : Nat) (V5 : zV) (x1 : Int32) : Option (Int32) :=
  fX3_mostAt_l4 F F V5 x1 (0 : Int32) (0 : Int32)
def fX3_leastAt_b42 (F : Nat) (V5 : zV) (x2 : Int32) : Option (Int32) :=
  some x2
def fX3_leastAt_l4 (F : Nat) : Nat → zV → Int32 → Int32 → Int32 → Option (Int32)
  | 0, _, _, _, _ => none
  | n + 1, V5, x1, x2, x3 =>
    if (zI V5 14 5) ≤ x3 then (
    fX3_leastAt_b42 F V5 x2)
    else
    zchk (zP V5 14 1 = 15 ∨ zP V5 14 1 = 16) <|
    if (nI (zN V5 (zP V5 14 1))) ≤ x3 then (
    fX3_leastAt_b42 F V5 x2)
    else
    zchk (zP V5 14 1 = 15 ∨ zP V5 14 1 = 16) <|
    zchk (zix x3 (zN V5 (zP V5 14 1))) <|
    zbd (fX3_ballsAt F (zA V5 (zP V5 14 1) (x3).toNatClampNeg) x1) fun q8 =>
    zlet ((if q8 < x2 then q8 else x2)) fun y10 =>
    fX3_leastAt_l4 F n V5 x1 y10 (x3 + 1)
def fX3_leastAt (F : Nat) (V5 : zV) (x1 : Int32) : Option (Int32) :=
  fX3_leastAt_l4 F F V5 x1 (3 : Int32) (0 : Int32)
def fX11_balls (F : Nat) (V0 V4 V5 : zV) (x1 : Int32) (x2 : Int32) : Option (Int32) :=
  if (zI V0 0 9) = 0 then (
  some (-1 : Int32))
  else
  zbd (fX9_has F V4 (4 : Int32) x1) fun q2 =>
  if q2 = 0 then (
  some (-1 : Int32))
  else
  if x2 = 0 then (
  zbd (fX3_leastAt F V5 x1) fun q6 =>
  some q6)
  else
  zbd (fX3_mostAt F V5 x1) fun q8 =>
  some q8
def fX11_again_b117 (F : Nat) (k20 : zV → zV → zV → zV → Int32 → Option (Int64 × zV)) (V0 V4 V5 V6 : zV) (x1 : Int32) : Option (Int64 × zV) :=
  k20 V0 V4 V5 V6 (x1 + 1)
def fX11_again_l79 (F : Nat) (k20 : zV → zV → zV → zV → Int32 → Option (Int64 × zV)) : Nat → zV → zV → zV → zV → Int32 → Int32 → Int32 → Int32 → Option (Int64 × zV)
  | 0, _, _, _, _, _, _, _, _ => none
  | n + 1, V0, V4, V5, V6, x1, x2, x3, x4 =>
    if x3 ≤ x4 then (
    if x2 = 0 then (
    fX11_again_b117 F k20 V0 V4 V5 V6 x1)
    else
    zchk (zix x1 600) <|
    zbd (fX1_hit F V4 V6 (zA V0 62 (x1).toNatClampNeg)) fun q4 =>
    fX11_again_b117 F k20 V0 V4 V5 q4.2 x1)
    else
    zbd (fX1_passTick F V4 V6) fun q6 =>
    fX11_again_l79 F k20 n V0 V4 V5 q6.2 x1 x2 x3 (x4 + 1)
def fX11_again_b69 (F : Nat) (k20 : zV → zV → zV → zV → Int32 → Option (Int64 × zV)) (V0 V4 V5 V6 : zV) (x1 : Int32) (x2 : Int32) (s0 : Int32) : Option (Int64 × zV) :=
  fX11_again_l79 F k20 F V0 V4 V5 V6 x1 x2 s0 (zI V6 0 10)
def fX11_again_b48 (F : Nat) (k20 : zV → zV → zV → zV → Int32 → Option (Int64 × zV)) (V0 V4 V5 V6 : zV) (x1 : Int32) (s0 : Int32) : Option (Int64 × zV) :=
  if s0 = 0 then (
  fX11_again_b69 F k20 V0 V4 V5 V6 x1 s0 (zI V5 0 10))
  else
  zchk (zix x1 600) <|
  fX11_again_b69 F k20 V0 V4 V5 V6 x1 s0 (zA V0 63 (x1).toNatClampNeg)
def fX11_again_b47 (F : Nat) (k20 : zV → zV → zV → zV → Int32 → Option (Int64 × zV)) (V0 V4 V5 V6 : zV) (x1 : Int32) : Option (Int64 × zV) :=
  fX11_again_b48 F k20 V0 V4 V5 V6 x1 (0 : Int32)
def fX11_again_l20 (F : Nat) : Nat → zV → zV → zV → zV → Int32 → Option (Int64 × zV)
  | 0, _, _, _, _, _ => none
  | n + 1, V0, V4, V5, V6, x1 =>
    if (zI V0 0 12) < x1 then (
    some ((zL V6 0 8), V6))
    else
    if (zI V0 0 12) ≤ x1 then (
    fX11_again_b47 F (fX11_again_l20 F n) V0 V4 V5 V6 x1)
    else
    if (600 : Int32) ≤ x1 then (
    fX11_again_b47 F (fX11_again_l20 F n) V0 V4 V5 V6 x1)
    else
    fX11_again_b48 F (fX11_again_l20 F n) V0 V4 V5 V6 x1 (1 : Int32)
def fX11_again (F : Nat) (V0 V4 V5 V6 : zV) : Option (Int64 × zV) :=
  if (zI V0 0 9) = 0 then (
  some ((-1 : Int64), V6))
  else
  zbd (fX1_open F V4 V6) fun q14 =>
  fX11_again_l20 F F V0 V4 V5 q14 (0 : Int32)
def fX11_ring (F : Nat) (V0 V4 : zV) : Option (Int32) :=
  if (zI V0 0 7) = 0 then (
  some (-1 : Int32))
  else
  some (zI V4 13 11)
def fX11_countInGame (F : Nat) (V0 V5 : zV) (x1 : Int32) : Option (Int32) :=
  if (zI V0 0 9) = 0 then (
  some (0 : Int32))
  else
  if x1 = (7 : Int32) then (
  some (zI V5 0 9))
  else
  if x1 = (8 : Int32) then (
  some (zI V5 14 7))
  else
  if x1 = (9 : Int32) then (
  some (zI V5 0 10))
  else
  if x1 = (10 : Int32) then (
  some (zI V5 14 5))
  else
  if x1 = (11 : Int32) then (
  some (zI V5 14 8))
  else
  if x1 = (12 : Int32) then (
  if (zI V5 0 11) = 0 then (
  some (0 : Int32))
  else
  some (1 : Int32))
  else
  if x1 = (13 : Int32) then (
  if (zI V5 0 12) = 0 then (
  some (0 : Int32))
  else
  some (1 : Int32))
  else
  some (zI V0 0 12)
def fX11_count_b158 (F : Nat) (V0 V4 V5 : zV) (x1 : Int32) : Option (Int32) :=
  if x1 < (7 : Int32) then (
  some (-1 : Int32))
  else
  if (14 : Int32) < x1 then (
  some (-1 : Int32))
  else
  zbd (fX11_countInGame F V0 V5 x1) fun q3 =>
  some q3
def fX11_count (F : Nat) (V0 V4 V5 : zV) (x1 : Int32) : Option (Int32) :=
  if x1 = (0 : Int32) then (
  some (zA V4 1 ((0 : Int32)).toNatClampNeg))
  else
  if x1 = (1 : Int32) then (
  some (zA V4 1 ((1 : Int32)).toNatClampNeg))
  else
  if x1 = (2 : Int32) then (
  some (zA V4 1 ((3 : Int32)).toNatClampNeg))
  else
  if x1 = (3 : Int32) then (
  some (zA V4 1 ((4 : Int32)).toNatClampNeg))
  else
  if x1 = (4 : Int32) then (
  some (zA V4 1 ((6 : Int32)).toNatClampNeg))
  else
  if x1 = (5 : Int32) then (
  some (zA V4 1 ((7 : Int32)).toNatClampNeg))
  else
  if x1 = (6 : Int32) then (
  some (zI V4 13 3))
  else
  if x1 = (7 : Int32) then (
  fX11_count_b158 F V0 V4 V5 x1)
  else
  if x1 = (8 : Int32) then (
  fX11_count_b158 F V0 V4 V5 x1)
  else
  if x1 = (9 : Int32) then (
  fX11_count_b158 F V0 V4 V5 x1)
  else
  if x1 = (10 : Int32) then (
  fX11_count_b158 F V0 V4 V5 x1)
  else
  if x1 = (11 : Int32) then (
  fX11_count_b158 F V0 V4 V5 x1)
  else
  if x1 = (12 : Int32) then (
  fX11_count_b158 F V0 V4 V5 x1)
  else
  if x1 = (13 : Int32) then (
  fX11_count_b158 F V0 V4 V5 x1)
  else
  if x1 = (14 : Int32) then (
  fX11_count_b158 F V0 V4 V5 x1)
  else
  if x1 = (15 : Int32) then (
  some (zI V0 0 1))
  else
  fX11_count_b158 F V0 V4 V5 x1
def fX12_put_l3 (F : Nat) : Nat → zV → Int32 → Int32 → Option (zV)
  | 0, _, _, _ => none
  | n + 1, V7, x1, x2 =>
    if x2 < 0 then (
    some V7)
    else
    zchk (zix (zI V7 0 2) 4000) <|
    zlet (zsA V7 1 (upd (zA V7 1) ((zI V7 0 2)).toNatClampNeg (vp_nar .byte ((x1 >>> (x2 &&& 31))).toInt8.toInt32))) fun V7_3 =>
    zlet (zsI V7_3 0 2 ((zI V7_3 0 2) + (1 : Int32))) fun V7_5 =>
    fX12_put_l3 F n V7_5 x1 (x2 + (-8))
def fX12_put (F : Nat) (V7 : zV) (x1 : Int32) : Option (zV) :=
  fX12_put_l3 F F V7 x1 (24 : Int32)
def fX12_feed (F : Nat) (V7 : zV) (x1 : Int32) (x2 : Int32) (x3 : Int32) (x4 : Int32) (x5 : Int32) : Option (Int32 × zV) :=
  if ((zI V7 0 2) + (20 : Int32)) ≤ (4000 : Int32) then (
  zbd (fX12_put F V7 x1) fun q2 =>
  zbd (fX12_put F q2 x2) fun q4 =>
  zbd (fX12_put F q4 x3) fun q6 =>
  zbd (fX12_put F q6 x4) fun q8 =>
  zbd (fX12_put F q8 x5) fun q10 =>
  some ((zI q10 0 2), q10))
  else
  some ((-1 : Int32), V7)
def fX12_back (F : Nat) (V7 : zV) (x1 : Int32) : Option (Int32 × zV) :=
  if x1 < 0 then (
  some ((-1 : Int32), V7))
  else
  if x1 ≤ (zI V7 0 2) then (
  zlet (zsI V7 0 2 ((zI V7 0 2) - x1)) fun V7_3 =>
  some ((zI V7_3 0 2), V7_3))
  else
  some ((-1 : Int32), V7)
def fX12_at (F : Nat) (V7 : zV) (x1 : Int32) : Option (Int32) :=
  if (zI V7 0 4) ≤ x1 then (
  some (0 : Int32))
  else
  zchk (zix x1 4000) <|
  some ((zA V7 2 (x1).toNatClampNeg) &&& (255 : Int32))
def fX12_token (F : Nat) (V7 : zV) (x1 : Int32) (x2 : Int32) (x3 : Int32) (x4 : Int64) : Option (zV) :=
  zchk (zix (zI V7 0 10) 1003) <|
  zlet (zsA V7 3 (upd (zA V7 3) ((zI V7 0 10)).toNatClampNeg x1)) fun V7_2 =>
  zchk (zix (zI V7_2 0 10) 1003) <|
  zlet (zsA V7_2 4 (upd (zA V7_2 4) ((zI V7_2 0 10)).toNatClampNeg x2)) fun V7_5 =>
  zchk (zix (zI V7_5 0 10) 1003) <|
  zlet (zsA V7_5 5 (upd (zA V7_5 5) ((zI V7_5 0 10)).toNatClampNeg x3)) fun V7_8 =>
  zchk (zix (zI V7_8 0 10) 1003) <|
  zlet (zsB V7_8 6 (vp_updL (zB V7_8 6) ((zI V7_8 0 10)).toNatClampNeg x4)) fun V7_11 =>
  zlet (zsI V7_11 0 10 ((zI V7_11 0 10) + (1 : Int32))) fun V7_13 =>
  some V7_13
def fX12_isLetter (F : Nat) (x0 : Int32) : Option (Int32) :=
  if x0 < (97 : Int32) then (
  some (0 : Int32))
  else
  if (122 : Int32) < x0 then (
  some (0 : Int32))
  else
  some (1 : Int32)
def fX12_isDigit (F : Nat) (x0 : Int32) : Option (Int32) :=
  if x0 < (48 : Int32) then (
  some (0 : Int32))
  else
  if (57 : Int32) < x0 then (
  some (0 : Int32))
  else
  some (1 : Int32)
def fX12_more_b36 (F : Nat) (s0 : Int64) (s1 : Int32) : Option (Int64) :=
  some (s0 + (s1).toInt64)
def fX12_more (F : Nat) (x0 : Int64) (x2 : Int32) : Option (Int64) :=
  if x2 = 0 then (
  some x0)
  else
  zbd (fX12_isDigit F x2) fun q2 =>
  if q2 = 0 then (
  fX12_more_b36 F ((37 : Int64) * x0) ((x2 - (97 : Int32)) + (1 : Int32)))
  else
  fX12_more_b36 F ((37 : Int64) * x0) ((x2 - (48 : Int32)) + (27 : Int32))
def fX12_sign_b173 (F : Nat) (V7 : zV) (x1 : Int32) (x4 : Int32) (x5 : Int32) : Option (Int32 × zV) :=
  zbd (fX12_token F V7 x5 x1 (0 : Int32) (0 : Int64)) fun q1 =>
  if x4 ≤ 0 then (
  some ((1 : Int32), q1))
  else
  some ((2 : Int32), q1)
def fX12_sign_b44 (F : Nat) (V7 : zV) (x1 : Int32) (x2 : Int32) (s0 : Int32) : Option (Int32 × zV) :=
  if s0 ≤ 0 then (
  if x2 = (59 : Int32) then (
  fX12_sign_b173 F V7 x1 s0 (4 : Int32))
  else
  if x2 = (58 : Int32) then (
  fX12_sign_b173 F V7 x1 s0 (5 : Int32))
  else
  if x2 = (44 : Int32) then (
  fX12_sign_b173 F V7 x1 s0 (6 : Int32))
  else
  if x2 = (40 : Int32) then (
  fX12_sign_b173 F V7 x1 s0 (7 : Int32))
  else
  if x2 = (41 : Int32) then (
  fX12_sign_b173 F V7 x1 s0 (8 : Int32))
  else
  if x2 = (43 : Int32) then (
  fX12_sign_b173 F V7 x1 s0 (9 : Int32))
  else
  if x2 = (45 : Int32) then (
  fX12_sign_b173 F V7 x1 s0 (10 : Int32))
  else
  if x2 = (42 : Int32) then (
  fX12_sign_b173 F V7 x1 s0 (11 : Int32))
  else
  if x2 = (60 : Int32) then (
  fX12_sign_b173 F V7 x1 s0 (14 : Int32))
  else
  fX12_sign_b173 F V7 x1 s0 (3 : Int32))
  else
  fX12_sign_b173 F V7 x1 s0 s0
def fX12_sign (F : Nat) (V7 : zV) (x1 : Int32) (x2 : Int32) (x3 : Int32) : Option (Int32 × zV) :=
  if x3 = (61 : Int32) then (
  if x2 = (61 : Int32) then (
  fX12_sign_b44 F V7 x1 x2 (12 : Int32))
  else
  if x2 = (33 : Int32) then (
  fX12_sign_b44 F V7 x1 x2 (13 : Int32))
  else
  if x2 = (60 : Int32) then (
  fX12_sign_b44 F V7 x1 x2 (15 : Int32))
  else
  fX12_sign_b44 F V7 x1 x2 (0 : Int32))
  else
  fX12_sign_b44 F V7 x1 x2 (0 : Int32)
def fX12_cut_b304 (F : Nat) (k7 : zV → Int32 → Option (zV)) (V7 : zV) (x1 : Int32) : Option (zV) :=
  k7 V7 x1
def fX12_cut_b274 (F : Nat) (k7 : zV → Int32 → Option (zV)) (V7 : zV) (x1 : Int32) (x3 : Int32) (x4 : Int32) (s1 : Int32) : Option (zV) :=
  zbd (fX12_token F V7 s1 x1 x4 (0 : Int64)) fun q1 =>
  fX12_cut_b304 F k7 q1 (x1 + x3)
def fX12_cut_b257 (F : Nat) (k221 : zV → Int32 → Int32 → Int32 → Option (zV)) (V7 : zV) (x1 : Int32) (x3 : Int32) (x4 : Int32) : Option (zV) :=
  k221 V7 x1 (x3 + 1) x4
def fX12_cut_l221 (F : Nat) (k7 : zV → Int32 → Option (zV)) : Nat → zV → Int32 → Int32 → Int32 → Option (zV)
  | 0, _, _, _, _ => none
  | n + 1, V7, x1, x3, x4 =>
    zbd (fX12_at F V7 (x1 + x3)) fun q3 =>
    zbd (fX12_isDigit F q3) fun q5 =>
    if q5 = 0 then (
    if x3 ≤ (5 : Int32) then (
    fX12_cut_b274 F k7 V7 x1 x3 x4 (2 : Int32))
    else
    fX12_cut_b274 F k7 V7 x1 x3 x4 (3 : Int32))
    else
    if (5 : Int32) ≤ x3 then (
    fX12_cut_b257 F (fX12_cut_l221 F k7 n) V7 x1 x3 x4)
    else
    zbd (fX12_at F V7 (x1 + x3)) fun q10 =>
    zlet (((((10 : Int32) * x4) + q10) - (48 : Int32))) fun y12 =>
    fX12_cut_b257 F (fX12_cut_l221 F k7 n) V7 x1 x3 y12
def fX12_cut_b192 (F : Nat) (k7 : zV → Int32 → Option (zV)) (V7 : zV) (x1 : Int32) (x3 : Int32) (x4 : Int64) (x6 : Int32) : Option (zV) :=
  zbd (fX12_token F V7 x6 x1 (0 : Int32) x4) fun q14 =>
  fX12_cut_b304 F k7 q14 (x1 + x3)
def fX12_cut_b186 (F : Nat) (k159 : zV → Int32 → Int32 → Int64 → Int32 → Int32 → Option (zV)) (V7 : zV) (x1 : Int32) (x3 : Int32) (x4 : Int64) (x6 : Int32) (x7 : Int32) : Option (zV) :=
  k159 V7 x1 x3 x4 x6 (x7 + 1)
def fX12_cut_l159 (F : Nat) (k7 : zV → Int32 → Option (zV)) : Nat → zV → Int32 → Int32 → Int64 → Int32 → Int32 → Option (zV)
  | 0, _, _, _, _, _, _ => none
  | n + 1, V7, x1, x3, x4, x6, x7 =>
    if (27 : Int32) ≤ x7 then (
    fX12_cut_b192 F k7 V7 x1 x3 x4 x6)
    else
    zchk (zix x7 27) <|
    if (lg_cmp (zB V7 7 (x7).toNatClampNeg) x4) = 0 then (
    zlet (((20 : Int32) + x7)) fun y19 =>
    fX12_cut_b186 F (fX12_cut_l159 F k7 n) V7 x1 x3 x4 y19 x7)
    else
    fX12_cut_b186 F (fX12_cut_l159 F k7 n) V7 x1 x3 x4 x6 x7
def fX12_cut_b148 (F : Nat) (k7 : zV → Int32 → Option (zV)) (V7 : zV) (x1 : Int32) (x3 : Int32) (x4 : Int64) (s0 : Int32) : Option (zV) :=
  if (6 : Int32) < x3 then (
  fX12_cut_b192 F k7 V7 x1 x3 x4 s0)
  else
  fX12_cut_l159 F k7 F V7 x1 x3 x4 s0 (0 : Int32)
def fX12_cut_b131 (F : Nat) (k85 : zV → Int32 → Int32 → Int64 → Option (zV)) (V7 : zV) (x1 : Int32) (x3 : Int32) (x4 : Int64) : Option (zV) :=
  k85 V7 x1 (x3 + 1) x4
def fX12_cut_b111 (F : Nat) (k85 : zV → Int32 → Int32 → Int64 → Option (zV)) (V7 : zV) (x1 : Int32) (x3 : Int32) (x4 : Int64) : Option (zV) :=
  if (8 : Int32) ≤ x3 then (
  fX12_cut_b131 F k85 V7 x1 x3 x4)
  else
  zbd (fX12_at F V7 (x1 + x3)) fun q23 =>
  zbd (fX12_more F x4 q23) fun q25 =>
  fX12_cut_b131 F k85 V7 x1 x3 q25
def fX12_cut_l85 (F : Nat) (k7 : zV → Int32 → Option (zV)) : Nat → zV → Int32 → Int32 → Int64 → Option (zV)
  | 0, _, _, _, _ => none
  | n + 1, V7, x1, x3, x4 =>
    zbd (fX12_at F V7 (x1 + x3)) fun q27 =>
    zbd (fX12_isLetter F q27) fun q29 =>
    if q29 = 0 then (
    zbd (fX12_at F V7 (x1 + x3)) fun q32 =>
    zbd (fX12_isDigit F q32) fun q34 =>
    if q34 = 0 then (
    if x3 ≤ (8 : Int32) then (
    fX12_cut_b148 F k7 V7 x1 x3 x4 (1 : Int32))
    else
    fX12_cut_b148 F k7 V7 x1 x3 x4 (3 : Int32))
    else
    fX12_cut_b111 F (fX12_cut_l85 F k7 n) V7 x1 x3 x4)
    else
    fX12_cut_b111 F (fX12_cut_l85 F k7 n) V7 x1 x3 x4
def fX12_cut_b67 (F : Nat) (k7 : zV → Int32 → Option (zV)) (V7 : zV) (x1 : Int32) : Option (zV) :=
  fX12_cut_b304 F k7 V7 (x1 + 1)
def fX12_cut_l7 (F : Nat) : Nat → zV → Int32 → Option (zV)
  | 0, _, _ => none
  | n + 1, V7, x1 =>
    if (1000 : Int32) < (zI V7 0 10) then (
    some V7)
    else
    zbd (fX12_at F V7 x1) fun q39 =>
    if x1 < (zI V7 0 4) then (
    if q39 = (9 : Int32) then (
    fX12_cut_b67 F (fX12_cut_l7 F n) V7 x1)
    else
    if q39 = (10 : Int32) then (
    fX12_cut_b67 F (fX12_cut_l7 F n) V7 x1)
    else
    if q39 = (13 : Int32) then (
    fX12_cut_b67 F (fX12_cut_l7 F n) V7 x1)
    else
    if q39 = (32 : Int32) then (
    fX12_cut_b67 F (fX12_cut_l7 F n) V7 x1)
    else
    zbd (fX12_isLetter F q39) fun q46 =>
    if q46 = 0 then (
    zbd (fX12_isDigit F q39) fun q49 =>
    if q49 = 0 then (
    zbd (fX12_at F V7 (x1 + (1 : Int32))) fun q52 =>
    zbd (fX12_sign F V7 x1 q39 q52) fun q54 =>
    fX12_cut_b304 F (fX12_cut_l7 F n) q54.2 (x1 + q54.1))
    else
    fX12_cut_l221 F (fX12_cut_l7 F n) F V7 x1 (0 : Int32) (0 : Int32))
    else
    fX12_cut_l85 F (fX12_cut_l7 F n) F V7 x1 (0 : Int32) (0 : Int64))
    else
    zbd (fX12_token F V7 (0 : Int32) (zI V7 0 4) (0 : Int32) (0 : Int64)) fun q56 =>
    some q56
def fX12_cut (F : Nat) (V7 : zV) : Option (zV) :=
  zlet (zsI V7 0 10 (0 : Int32)) fun V7_58 =>
  fX12_cut_l7 F F V7_58 (0 : Int32)
def fX12_isFull_b78 (F : Nat) (V7 : zV) (x2 : Int32) (s0 : Int32) : Option (Int32) :=
  if x2 = s0 then (
  some (1 : Int32))
  else
  some (0 : Int32)
def fX12_isFull_b50 (F : Nat) (V7 : zV) (x2 : Int32) : Option (Int32) :=
  fX12_isFull_b78 F V7 x2 (8 : Int32)
def fX12_isFull_b30 (F : Nat) (V7 : zV) (x2 : Int32) : Option (Int32) :=
  fX12_isFull_b78 F V7 x2 (16 : Int32)
def fX12_isFull (F : Nat) (V7 : zV) (x1 : Int32) : Option (Int32) :=
  zchk (zix (((9 : Int32) * (zI V7 0 19)) + x1) 18) <|
  zlet ((zA V7 8 ((((9 : Int32) * (zI V7 0 19)) + x1)).toNatClampNeg)) fun y3 =>
  if x1 = 0 then (
  fX12_isFull_b30 F V7 y3)
  else
  if x1 = (3 : Int32) then (
  fX12_isFull_b30 F V7 y3)
  else
  if x1 = (6 : Int32) then (
  fX12_isFull_b30 F V7 y3)
  else
  if x1 = (1 : Int32) then (
  fX12_isFull_b50 F V7 y3)
  else
  if x1 = (2 : Int32) then (
  fX12_isFull_b50 F V7 y3)
  else
  if x1 = (4 : Int32) then (
  fX12_isFull_b50 F V7 y3)
  else
  if x1 = (5 : Int32) then (
  fX12_isFull_b78 F V7 y3 (24 : Int32))
  else
  if x1 = (7 : Int32) then (
  fX12_isFull_b78 F V7 y3 (12 : Int32))
  else
  fX12_isFull_b78 F V7 y3 (80 : Int32)
def fX12_fail (F : Nat) (V7 : zV) (x1 : Int32) : Option (zV) :=
  if (zI V7 0 13) ≤ 0 then (
  zlet (zsI V7 0 13 x1) fun V7_2 =>
  zchk (zix (zI V7_2 0 11) 1003) <|
  zlet (zsI V7_2 0 14 (zA V7_2 4 ((zI V7_2 0 11)).toNatClampNeg)) fun V7_5 =>
  some V7_5)
  else
  some V7
def fX12_next (F : Nat) (V7 : zV) : Option (zV) :=
  if (zI V7 0 11) = (1000 : Int32) then (
  zbd (fX12_fail F V7 (2 : Int32)) fun q4 =>
  some q4)
  else
  zlet (zsI V7 0 11 ((zI V7 0 11) + (1 : Int32))) fun V7_2 =>
  some V7_2
def fX12_is (F : Nat) (V7 : zV) (x1 : Int32) : Option (Int32) :=
  if (zI V7 0 13) = 0 then (
  zchk (zix (zI V7 0 11) 1003) <|
  if (zA V7 3 ((zI V7 0 11)).toNatClampNeg) = x1 then (
  some (1 : Int32))
  else
  some (0 : Int32))
  else
  some (0 : Int32)
def fX12_must (F : Nat) (V7 : zV) (x1 : Int32) : Option (zV) :=
  zbd (fX12_is F V7 x1) fun q1 =>
  if q1 = 0 then (
  zbd (fX12_fail F V7 (1 : Int32)) fun q4 =>
  some q4)
  else
  zbd (fX12_next F V7) fun q6 =>
  some q6
def fX12_wrong_b46 (F : Nat) (V7 : zV) (x1 : Int32) (x3 : Int32) : Option (zV) :=
  zlet (zsI V7 0 15 x1) fun V7_1 =>
  zlet (zsI V7_1 0 16 x3) fun V7_3 =>
  some V7_3
def fX12_wrong (F : Nat) (V7 : zV) (x1 : Int32) (x2 : Int32) : Option (zV) :=
  zchk (zix x2 1003) <|
  zlet ((zA V7 4 (x2).toNatClampNeg)) fun y6 =>
  if 0 < (zI V7 0 13) then (
  some V7)
  else
  if (zI V7 0 15) = 0 then (
  fX12_wrong_b46 F V7 x1 y6)
  else
  if (zI V7 0 16) < y6 then (
  some V7)
  else
  if y6 = (zI V7 0 16) then (
  if x1 < (zI V7 0 15) then (
  fX12_wrong_b46 F V7 x1 y6)
  else
  some V7)
  else
  fX12_wrong_b46 F V7 x1 y6
def fX12_tells_b40 (F : Nat) (k5 : zV → Int32 → Int32 → Int32 → Int32 → Option (zV)) (V7 : zV) (x1 : Int32) (x2 : Int32) (x4 : Int32) (s0 : Int32) : Option (zV) :=
  k5 V7 x1 x2 s0 (x4 + 1)
def fX12_tells_b35 (F : Nat) (k5 : zV → Int32 → Int32 → Int32 → Int32 → Option (zV)) (V7 : zV) (x1 : Int32) (x2 : Int32) (x4 : Int32) : Option (zV) :=
  fX12_tells_b40 F k5 V7 x1 x2 x4 (1 : Int32)
def fX12_tells_l5 (F : Nat) : Nat → zV → Int32 → Int32 → Int32 → Int32 → Option (zV)
  | 0, _, _, _, _, _ => none
  | n + 1, V7, x1, x2, x3, x4 =>
    if (zI V7 0 22) ≤ x4 then (
    if x3 = 0 then (
    zchk (zix x1 1003) <|
    zchk (zix (zI V7 0 22) 120) <|
    zlet (zsB V7 9 (vp_updL (zB V7 9) ((zI V7 0 22)).toNatClampNeg (zB V7 6 (x1).toNatClampNeg))) fun V7_5 =>
    zchk (zix (zI V7_5 0 22) 120) <|
    zlet (zsA V7_5 10 (upd (zA V7_5 10) ((zI V7_5 0 22)).toNatClampNeg x2)) fun V7_8 =>
    zchk (zix (((9 : Int32) * (zI V7_8 0 19)) + x2) 18) <|
    zchk (zix (zI V7_8 0 22) 120) <|
    zlet (zsA V7_8 11 (upd (zA V7_8 11) ((zI V7_8 0 22)).toNatClampNeg (zA V7_8 8 ((((9 : Int32) * (zI V7_8 0 19)) + x2)).toNatClampNeg))) fun V7_12 =>
    zlet (zsI V7_12 0 22 ((zI V7_12 0 22) + (1 : Int32))) fun V7_14 =>
    some V7_14)
    else
    zbd (fX12_wrong F V7 (3 : Int32) x1) fun q16 =>
    some q16)
    else
    if x3 = 0 then (
    zchk (zix x4 120) <|
    zchk (zix x1 1003) <|
    if (lg_cmp (zB V7 9 (x4).toNatClampNeg) (zB V7 6 (x1).toNatClampNeg)) = 0 then (
    fX12_tells_b35 F (fX12_tells_l5 F n) V7 x1 x2 x4)
    else
    fX12_tells_b40 F (fX12_tells_l5 F n) V7 x1 x2 x4 (0 : Int32))
    else
    fX12_tells_b35 F (fX12_tells_l5 F n) V7 x1 x2 x4
def fX12_tells (F : Nat) (V7 : zV) (x1 : Int32) (x2 : Int32) : Option (zV) :=
  fX12_tells_l5 F F V7 x1 x2 (0 : Int32) (0 : Int32)
def fX12_named_b43 (F : Nat) (k2 : zV → Int32 → Int32 → Int32 → Option (Int32 × zV)) (V7 : zV) (x1 : Int32) (x2 : Int32) (x3 : Int32) : Option (Int32 × zV) :=
  k2 V7 x1 x2 (x3 + 1)
def fX12_named_l2 (F : Nat) : Nat → zV → Int32 → Int32 → Int32 → Option (Int32 × zV)
  | 0, _, _, _, _ => none
  | n + 1, V7, x1, x2, x3 =>
    if (zI V7 0 22) ≤ x3 then (
    zbd (fX12_wrong F V7 (4 : Int32) x1) fun q2 =>
    some ((0 : Int32), q2))
    else
    zchk (zix x3 120) <|
    zchk (zix x1 1003) <|
    if (lg_cmp (zB V7 9 (x3).toNatClampNeg) (zB V7 6 (x1).toNatClampNeg)) = 0 then (
    zchk (zix x3 120) <|
    if (zA V7 10 (x3).toNatClampNeg) = x2 then (
    zchk (zix x3 120) <|
    some ((zA V7 11 (x3).toNatClampNeg), V7))
    else
    fX12_named_b43 F (fX12_named_l2 F n) V7 x1 x2 x3)
    else
    fX12_named_b43 F (fX12_named_l2 F n) V7 x1 x2 x3
def fX12_named (F : Nat) (V7 : zV) (x1 : Int32) (x2 : Int32) : Option (Int32 × zV) :=
  fX12_named_l2 F F V7 x1 x2 (0 : Int32)
def fX12_namedNext (F : Nat) (V7 : zV) (x1 : Int32) : Option (Int32 × zV) :=
  zbd (fX12_must F V7 (1 : Int32)) fun q1 =>
  if (zI q1 0 13) ≤ 0 then (
  zbd (fX12_named F q1 (zI V7 0 11) x1) fun q4 =>
  some (q4.1, q4.2))
  else
  some ((0 : Int32), q1)
def fX12_tellPart_b533 (F : Nat) (V7 : zV) (x1 : Int32) : Option (zV) :=
  zchk (zix (((9 : Int32) * (zI V7 0 19)) + x1) 18) <|
  zchk (zix (((9 : Int32) * (zI V7 0 19)) + x1) 18) <|
  zlet (zsA V7 8 (upd (zA V7 8) ((((9 : Int32) * (zI V7 0 19)) + x1)).toNatClampNeg ((zA V7 8 ((((9 : Int32) * (zI V7 0 19)) + x1)).toNatClampNeg) + (1 : Int32)))) fun V7_3 =>
  some V7_3
def fX12_tellPart_b485 (F : Nat) (V7 : zV) (x1 : Int32) (x2 : Int32) (x4 : Int32) (x6 : Int32) (x7 : Int32) : Option (zV) :=
  zchk (zix (((24 : Int32) * (zI V7 0 19)) + x2) 48) <|
  zlet (zsA V7 17 (upd (zA V7 17) ((((24 : Int32) * (zI V7 0 19)) + x2)).toNatClampNeg x4)) fun V7_6 =>
  zchk (zix (((24 : Int32) * (zI V7_6 0 19)) + x2) 48) <|
  zlet (zsA V7_6 18 (upd (zA V7_6 18) ((((24 : Int32) * (zI V7_6 0 19)) + x2)).toNatClampNeg x6)) fun V7_9 =>
  zchk (zix (((24 : Int32) * (zI V7_9 0 19)) + x2) 48) <|
  zlet (zsA V7_9 19 (upd (zA V7_9 19) ((((24 : Int32) * (zI V7_9 0 19)) + x2)).toNatClampNeg x7)) fun V7_12 =>
  fX12_tellPart_b533 F V7_12 x1
def fX12_tellPart_b448 (F : Nat) (V7 : zV) (x1 : Int32) (x2 : Int32) (x3 : Int32) (x4 : Int32) (x5 : Int32) (x6 : Int32) (x7 : Int32) : Option (zV) :=
  zbd (fX12_must F V7 (4 : Int32)) fun q14 =>
  if (zI q14 0 13) ≤ 0 then (
  zchk (zix x3 1003) <|
  zchk (zix x5 1003) <|
  if (lg_cmp (zB q14 6 (x3).toNatClampNeg) (zB q14 6 (x5).toNatClampNeg)) = 0 then (
  zbd (fX12_wrong F q14 (5 : Int32) x5) fun q20 =>
  fX12_tellPart_b485 F q20 x1 x2 x4 x6 x7)
  else
  fX12_tellPart_b485 F q14 x1 x2 x4 x6 x7)
  else
  some q14
def fX12_tellPart_b405 (F : Nat) (V7 : zV) (x1 : Int32) (x2 : Int32) (x3 : Int32) : Option (zV) :=
  zbd (fX12_namedNext F V7 (4 : Int32)) fun q22 =>
  zbd (fX12_namedNext F q22.2 (4 : Int32)) fun q24 =>
  zbd (fX12_is F q24.2 (26 : Int32)) fun q26 =>
  if q26 = 0 then (
  fX12_tellPart_b448 F q24.2 x1 x2 x3 q22.1 (zI q22.2 0 11) q24.1 (-1 : Int32))
  else
  zbd (fX12_next F q24.2) fun q29 =>
  zbd (fX12_namedNext F q29 (0 : Int32)) fun q31 =>
  fX12_tellPart_b448 F q31.2 x1 x2 x3 q22.1 (zI q22.2 0 11) q24.1 q31.1
def fX12_tellPart_b293 (F : Nat) (V7 : zV) (x1 : Int32) (x2 : Int32) (x4 : Int32) (x6 : Int32) : Option (zV) :=
  zchk (zix (((8 : Int32) * (zI V7 0 19)) + x2) 16) <|
  zlet (zsA V7 14 (upd (zA V7 14) ((((8 : Int32) * (zI V7 0 19)) + x2)).toNatClampNeg x4)) fun V7_34 =>
  zchk (zix (((8 : Int32) * (zI V7_34 0 19)) + x2) 16) <|
  zlet (zsA V7_34 15 (upd (zA V7_34 15) ((((8 : Int32) * (zI V7_34 0 19)) + x2)).toNatClampNeg x6)) fun V7_37 =>
  fX12_tellPart_b533 F V7_37 x1
def fX12_tellPart_b206 (F : Nat) (V7 : zV) (x1 : Int32) (x2 : Int32) (x4 : Int32) : Option (zV) :=
  if x1 = (6 : Int32) then (
  zchk (zix x4 1003) <|
  zchk (zix (((16 : Int32) * (zI V7 0 19)) + x2) 32) <|
  zlet (zsA V7 20 (upd (zA V7 20) ((((16 : Int32) * (zI V7 0 19)) + x2)).toNatClampNeg (zA V7 5 (x4).toNatClampNeg))) fun V7_42 =>
  fX12_tellPart_b533 F V7_42 x1)
  else
  fX12_tellPart_b533 F V7 x1
def fX12_tellPart_b180 (F : Nat) (V7 : zV) (x1 : Int32) (x2 : Int32) (x4 : Int32) : Option (zV) :=
  if x1 = (1 : Int32) then (
  zchk (zix x4 1003) <|
  zchk (zix (((8 : Int32) * (zI V7 0 19)) + x2) 16) <|
  zlet (zsA V7 13 (upd (zA V7 13) ((((8 : Int32) * (zI V7 0 19)) + x2)).toNatClampNeg (zA V7 5 (x4).toNatClampNeg))) fun V7_47 =>
  fX12_tellPart_b206 F V7_47 x1 x2 x4)
  else
  fX12_tellPart_b206 F V7 x1 x2 x4
def fX12_tellPart_b120 (F : Nat) (V7 : zV) (x1 : Int32) (x2 : Int32) (x3 : Int32) : Option (zV) :=
  zbd (fX12_must F V7 (1 : Int32)) fun q49 =>
  zbd (fX12_must F q49 (2 : Int32)) fun q51 =>
  zbd (fX12_must F q51 (4 : Int32)) fun q53 =>
  if (zI q53 0 13) ≤ 0 then (
  zbd (fX12_tells F q53 x3 x1) fun q56 =>
  if x1 = 0 then (
  zchk (zix (zI q49 0 11) 1003) <|
  zchk (zix (((16 : Int32) * (zI q56 0 19)) + x2) 32) <|
  zlet (zsA q56 12 (upd (zA q56 12) ((((16 : Int32) * (zI q56 0 19)) + x2)).toNatClampNeg (zA q56 5 ((zI q49 0 11)).toNatClampNeg))) fun V7_61 =>
  fX12_tellPart_b180 F V7_61 x1 x2 (zI q49 0 11))
  else
  fX12_tellPart_b180 F q56 x1 x2 (zI q49 0 11))
  else
  some q53
def fX12_tellPart_b45 (F : Nat) (V7 : zV) (x1 : Int32) : Option (zV) :=
  zbd (fX12_next F V7) fun q63 =>
  if (zI q63 0 13) ≤ 0 then (
  zchk (zix (((9 : Int32) * (zI q63 0 19)) + x1) 18) <|
  zlet ((zA q63 8 ((((9 : Int32) * (zI q63 0 19)) + x1)).toNatClampNeg)) fun y67 =>
  if x1 = (0 : Int32) then (
  fX12_tellPart_b120 F q63 x1 y67 (zI q63 0 11))
  else
  if x1 = (1 : Int32) then (
  fX12_tellPart_b120 F q63 x1 y67 (zI q63 0 11))
  else
  if x1 = (2 : Int32) then (
  zbd (fX12_namedNext F q63 (1 : Int32)) fun q72 =>
  zbd (fX12_namedNext F q72.2 (1 : Int32)) fun q74 =>
  zbd (fX12_must F q74.2 (4 : Int32)) fun q76 =>
  if (zI q76 0 13) ≤ 0 then (
  zchk (zix (zI q63 0 11) 1003) <|
  zchk (zix (zI q72.2 0 11) 1003) <|
  if (lg_cmp (zB q76 6 ((zI q63 0 11)).toNatClampNeg) (zB q76 6 ((zI q72.2 0 11)).toNatClampNeg)) = 0 then (
  zbd (fX12_wrong F q76 (5 : Int32) (zI q72.2 0 11)) fun q82 =>
  fX12_tellPart_b293 F q82 x1 y67 q72.1 q74.1)
  else
  fX12_tellPart_b293 F q76 x1 y67 q72.1 q74.1)
  else
  some q76)
  else
  if x1 = (3 : Int32) then (
  zbd (fX12_must F q63 (1 : Int32)) fun q85 =>
  zbd (fX12_namedNext F q85 (0 : Int32)) fun q87 =>
  zbd (fX12_must F q87.2 (4 : Int32)) fun q89 =>
  if (zI q89 0 13) ≤ 0 then (
  zbd (fX12_tells F q89 (zI q63 0 11) (3 : Int32)) fun q92 =>
  zchk (zix (((16 : Int32) * (zI q92 0 19)) + y67) 32) <|
  zlet (zsA q92 16 (upd (zA q92 16) ((((16 : Int32) * (zI q92 0 19)) + y67)).toNatClampNeg q87.1)) fun V7_95 =>
  fX12_tellPart_b533 F V7_95 x1)
  else
  some q89)
  else
  if x1 = (4 : Int32) then (
  zbd (fX12_must F q63 (1 : Int32)) fun q98 =>
  zbd (fX12_must F q98 (4 : Int32)) fun q100 =>
  if (zI q100 0 13) ≤ 0 then (
  zbd (fX12_tells F q100 (zI q63 0 11) (4 : Int32)) fun q103 =>
  fX12_tellPart_b533 F q103 x1)
  else
  some q100)
  else
  if x1 = (5 : Int32) then (
  fX12_tellPart_b405 F q63 x1 y67 (zI q63 0 11))
  else
  if x1 = (6 : Int32) then (
  fX12_tellPart_b120 F q63 x1 y67 (zI q63 0 11))
  else
  fX12_tellPart_b405 F q63 x1 y67 (zI q63 0 11))
  else
  some q63
def fX12_tellPart_b31 (F : Nat) (V7 : zV) (s0 : Int32) : Option (zV) :=
  zbd (fX12_isFull F V7 s0) fun q107 =>
  if q107 = 0 then (
  fX12_tellPart_b45 F V7 s0)
  else
  zbd (fX12_fail F V7 (2 : Int32)) fun q110 =>
  fX12_tellPart_b45 F q110 s0
def fX12_tellPart (F : Nat) (V7 : zV) : Option (zV) :=
  zchk (zix (zI V7 0 11) 1003) <|
  if (zA V7 3 ((zI V7 0 11)).toNatClampNeg) = (27 : Int32) then (
  fX12_tellPart_b31 F V7 (6 : Int32))
  else
  zchk (zix (zI V7 0 11) 1003) <|
  fX12_tellPart_b31 F V7 ((zA V7 3 ((zI V7 0 11)).toNatClampNeg) - (20 : Int32))
def fX12_emit (F : Nat) (V7 : zV) (x1 : Int32) (x2 : Int32) : Option (zV) :=
  zchk (zix (zI V7 0 54) 2400) <|
  zlet (zsA V7 37 (upd (zA V7 37) ((zI V7 0 54)).toNatClampNeg x1)) fun V7_2 =>
  zchk (zix (zI V7_2 0 54) 2400) <|
  zlet (zsA V7_2 38 (upd (zA V7_2 38) ((zI V7_2 0 54)).toNatClampNeg x2)) fun V7_5 =>
  zlet (zsI V7_5 0 54 ((zI V7_5 0 54) + (1 : Int32))) fun V7_7 =>
  some V7_7
def fX12_comesOut_b97 (F : Nat) (k0 : zV → Int32 → Option (zV)) (V7 : zV) (x1 : Int32) (s1 : Int32) : Option (zV) :=
  zbd (fX12_emit F V7 s1 (0 : Int32)) fun q1 =>
  k0 q1 x1
def fX12_comesOut_b43 (F : Nat) (k0 : zV → Int32 → Option (zV)) (V7 : zV) (x1 : Int32) : Option (zV) :=
  zlet (zsI V7 0 58 ((zI V7 0 58) - (1 : Int32))) fun V7_3 =>
  zchk (zix (zI V7_3 0 58) 48) <|
  zlet ((zA V7_3 39 ((zI V7_3 0 58)).toNatClampNeg)) fun y6 =>
  if y6 = (9 : Int32) then (
  fX12_comesOut_b97 F k0 V7_3 x1 (4 : Int32))
  else
  if y6 = (10 : Int32) then (
  fX12_comesOut_b97 F k0 V7_3 x1 (5 : Int32))
  else
  if y6 = (11 : Int32) then (
  fX12_comesOut_b97 F k0 V7_3 x1 (6 : Int32))
  else
  fX12_comesOut_b97 F k0 V7_3 x1 (7 : Int32)
def fX12_comesOut_l0 (F : Nat) : Nat → zV → Int32 → Option (zV)
  | 0, _, _ => none
  | n + 1, V7, x1 =>
    if (zI V7 0 58) ≤ 0 then (
    some V7)
    else
    zchk (zix ((zI V7 0 58) - (1 : Int32)) 48) <|
    if (zA V7 39 (((zI V7 0 58) - (1 : Int32))).toNatClampNeg) = (7 : Int32) then (
    some V7)
    else
    if x1 = 0 then (
    fX12_comesOut_b43 F (fX12_comesOut_l0 F n) V7 x1)
    else
    zchk (zix ((zI V7 0 58) - (1 : Int32)) 48) <|
    if (zA V7 39 (((zI V7 0 58) - (1 : Int32))).toNatClampNeg) = (11 : Int32) then (
    fX12_comesOut_b43 F (fX12_comesOut_l0 F n) V7 x1)
    else
    some V7
def fX12_comesOut (F : Nat) (V7 : zV) (x1 : Int32) : Option (zV) :=
  fX12_comesOut_l0 F F V7 x1
def fX12_expression_b393 (F : Nat) (k14 : zV → Int32 → Int32 → Int32 → Option (zV)) (V7 : zV) (x1 : Int32) (x2 : Int32) (x3 : Int32) (x5 : Int32) (s1 : Int32) : Option (zV) :=
  zbd (fX12_comesOut F V7 s1) fun q1 =>
  zchk (zix (zI q1 0 58) 48) <|
  zlet (zsA q1 39 (upd (zA q1 39) ((zI q1 0 58)).toNatClampNeg x5)) fun V7_4 =>
  zlet (zsI V7_4 0 58 ((zI V7_4 0 58) + (1 : Int32))) fun V7_6 =>
  zbd (fX12_next F V7_6) fun q8 =>
  k14 q8 x1 x2 x3
def fX12_expression_b363 (F : Nat) (V7 : zV) : Option (zV) :=
  zbd (fX12_comesOut F V7 (0 : Int32)) fun q10 =>
  some q10
def fX12_expression_b345 (F : Nat) (k14 : zV → Int32 → Int32 → Int32 → Option (zV)) (V7 : zV) (x1 : Int32) (x2 : Int32) (s0 : Int32) : Option (zV) :=
  if s0 = 0 then (
  if (zI V7 0 12) ≤ x1 then (
  fX12_expression_b363 F V7)
  else
  zbd (fX12_fail F V7 (1 : Int32)) fun q18 =>
  fX12_expression_b363 F q18)
  else
  zchk (zix (zI V7 0 11) 1003) <|
  zlet ((zA V7 3 ((zI V7 0 11)).toNatClampNeg)) fun y14 =>
  if y14 = (11 : Int32) then (
  fX12_expression_b393 F k14 V7 x1 x2 s0 y14 (1 : Int32))
  else
  fX12_expression_b393 F k14 V7 x1 x2 s0 y14 (0 : Int32)
def fX12_expression_b340 (F : Nat) (k14 : zV → Int32 → Int32 → Int32 → Option (zV)) (V7 : zV) (x1 : Int32) (x2 : Int32) : Option (zV) :=
  fX12_expression_b345 F k14 V7 x1 x2 (1 : Int32)
def fX12_expression_b313 (F : Nat) (k14 : zV → Int32 → Int32 → Int32 → Option (zV)) (V7 : zV) (x1 : Int32) (x2 : Int32) : Option (zV) :=
  zbd (fX12_is F V7 (9 : Int32)) fun q20 =>
  if q20 = 0 then (
  zbd (fX12_is F V7 (10 : Int32)) fun q23 =>
  if q23 = 0 then (
  zbd (fX12_is F V7 (11 : Int32)) fun q26 =>
  if q26 = 0 then (
  fX12_expression_b345 F k14 V7 x1 x2 (0 : Int32))
  else
  fX12_expression_b340 F k14 V7 x1 x2)
  else
  fX12_expression_b340 F k14 V7 x1 x2)
  else
  fX12_expression_b340 F k14 V7 x1 x2
def fX12_expression_l264 (F : Nat) (k14 : zV → Int32 → Int32 → Int32 → Option (zV)) : Nat → zV → Int32 → Int32 → Option (zV)
  | 0, _, _, _ => none
  | n + 1, V7, x1, x2 =>
    zbd (fX12_is F V7 (8 : Int32)) fun q29 =>
    if q29 = 0 then (
    fX12_expression_b313 F k14 V7 x1 x2)
    else
    if (zI V7 0 12) ≤ x1 then (
    fX12_expression_b313 F k14 V7 x1 x2)
    else
    zbd (fX12_comesOut F V7 (0 : Int32)) fun q33 =>
    zlet (zsI q33 0 58 ((zI q33 0 58) - (1 : Int32))) fun V7_35 =>
    zlet (zsI V7_35 0 12 ((zI V7_35 0 12) - (1 : Int32))) fun V7_37 =>
    zbd (fX12_next F V7_37) fun q39 =>
    fX12_expression_l264 F k14 n q39 x1 x2
def fX12_expression_b260 (F : Nat) (k14 : zV → Int32 → Int32 → Int32 → Option (zV)) (V7 : zV) (x1 : Int32) (x2 : Int32) : Option (zV) :=
  zbd (fX12_next F V7) fun q41 =>
  fX12_expression_l264 F k14 F q41 x1 x2
def fX12_expression_b256 (F : Nat) (k14 : zV → Int32 → Int32 → Int32 → Option (zV)) (V7 : zV) (x1 : Int32) (x2 : Int32) (s1 : Int32) : Option (zV) :=
  zbd (fX12_emit F V7 s1 (0 : Int32)) fun q43 =>
  fX12_expression_b260 F k14 q43 x1 x2
def fX12_expression_b188 (F : Nat) (k14 : zV → Int32 → Int32 → Int32 → Option (zV)) (V7 : zV) (x1 : Int32) (x2 : Int32) (x4 : Int32) : Option (zV) :=
  if (zI V7 0 13) ≤ 0 then (
  if x4 = (2 : Int32) then (
  zchk (zix (zI V7 0 11) 1003) <|
  zbd (fX12_emit F V7 (0 : Int32) (zA V7 5 ((zI V7 0 11)).toNatClampNeg)) fun q54 =>
  fX12_expression_b260 F k14 q54 x1 x2)
  else
  if x4 = (1 : Int32) then (
  zbd (fX12_named F V7 (zI V7 0 11) (6 : Int32)) fun q49 =>
  zbd (fX12_emit F q49.2 (1 : Int32) q49.1) fun q51 =>
  fX12_expression_b260 F k14 q51 x1 x2)
  else
  if x4 = (45 : Int32) then (
  fX12_expression_b256 F k14 V7 x1 x2 (2 : Int32))
  else
  fX12_expression_b256 F k14 V7 x1 x2 (3 : Int32))
  else
  some V7
def fX12_expression_b155 (F : Nat) (k14 : zV → Int32 → Int32 → Int32 → Option (zV)) (V7 : zV) (x1 : Int32) (x2 : Int32) (s0 : Int32) : Option (zV) :=
  if s0 = (2 : Int32) then (
  fX12_expression_b188 F k14 V7 x1 x2 s0)
  else
  if s0 = (1 : Int32) then (
  fX12_expression_b188 F k14 V7 x1 x2 s0)
  else
  if s0 = (45 : Int32) then (
  fX12_expression_b188 F k14 V7 x1 x2 s0)
  else
  if s0 = (46 : Int32) then (
  fX12_expression_b188 F k14 V7 x1 x2 s0)
  else
  zbd (fX12_fail F V7 (1 : Int32)) fun q60 =>
  fX12_expression_b188 F k14 q60 x1 x2 s0
def fX12_expression_b85 (F : Nat) (k14 : zV → Int32 → Int32 → Int32 → Option (zV)) (V7 : zV) (x1 : Int32) (x3 : Int32) : Option (zV) :=
  if (zI V7 0 13) ≤ 0 then (
  zlet (zsI V7 0 12 ((zI V7 0 12) + (1 : Int32))) fun V7_63 =>
  zbd (fX12_next F V7_63) fun q65 =>
  zchk (zix (zI q65 0 58) 48) <|
  zlet (zsA q65 39 (upd (zA q65 39) ((zI q65 0 58)).toNatClampNeg (7 : Int32))) fun V7_68 =>
  zlet (zsI V7_68 0 58 ((zI V7_68 0 58) + (1 : Int32))) fun V7_70 =>
  k14 V7_70 x1 (1 : Int32) x3)
  else
  some V7
def fX12_expression_b62 (F : Nat) (k14 : zV → Int32 → Int32 → Int32 → Option (zV)) (V7 : zV) (x1 : Int32) (x3 : Int32) : Option (zV) :=
  zbd (fX12_is F V7 (7 : Int32)) fun q72 =>
  if q72 = 0 then (
  if (zI V7 0 13) ≤ 0 then (
  zchk (zix (zI V7 0 11) 1003) <|
  fX12_expression_b155 F k14 V7 x1 (0 : Int32) (zA V7 3 ((zI V7 0 11)).toNatClampNeg))
  else
  fX12_expression_b155 F k14 V7 x1 (0 : Int32) (3 : Int32))
  else
  if (zI V7 0 12) = (6 : Int32) then (
  zbd (fX12_fail F V7 (2 : Int32)) fun q78 =>
  fX12_expression_b85 F k14 q78 x1 x3)
  else
  fX12_expression_b85 F k14 V7 x1 x3
def fX12_expression_l14 (F : Nat) : Nat → zV → Int32 → Int32 → Int32 → Option (zV)
  | 0, _, _, _, _ => none
  | n + 1, V7, x1, x2, x3 =>
    if x3 = 0 then (
    some V7)
    else
    if (zI V7 0 13) = 0 then (
    if x2 = 0 then (
    fX12_expression_b62 F (fX12_expression_l14 F n) V7 x1 x3)
    else
    zbd (fX12_is F V7 (10 : Int32)) fun q83 =>
    if q83 = 0 then (
    fX12_expression_b62 F (fX12_expression_l14 F n) V7 x1 x3)
    else
    zbd (fX12_next F V7) fun q86 =>
    zchk (zix (zI q86 0 58) 48) <|
    zlet (zsA q86 39 (upd (zA q86 39) ((zI q86 0 58)).toNatClampNeg (3 : Int32))) fun V7_89 =>
    zlet (zsI V7_89 0 58 ((zI V7_89 0 58) + (1 : Int32))) fun V7_91 =>
    fX12_expression_b62 F (fX12_expression_l14 F n) V7_91 x1 x3)
    else
    some V7
def fX12_expression (F : Nat) (V7 : zV) : Option (zV) :=
  zlet (zsI V7 0 58 (0 : Int32)) fun V7_93 =>
  fX12_expression_l14 F F V7_93 (zI V7_93 0 12) (1 : Int32) (1 : Int32)
def fX12_relation_b54 (F : Nat) (V7 : zV) (x1 : Int32) (x2 : Int32) : Option (zV) :=
  zbd (fX12_next F V7) fun q1 =>
  zbd (fX12_expression F q1) fun q3 =>
  if (zI q3 0 13) ≤ 0 then (
  zchk (zix (zI q3 0 41) 800) <|
  zlet (zsA q3 27 (upd (zA q3 27) ((zI q3 0 41)).toNatClampNeg x2)) fun V7_7 =>
  zchk (zix (zI V7_7 0 41) 800) <|
  zlet (zsA V7_7 28 (upd (zA V7_7 28) ((zI V7_7 0 41)).toNatClampNeg x1)) fun V7_10 =>
  zchk (zix (zI V7_10 0 41) 800) <|
  zlet (zsA V7_10 29 (upd (zA V7_10 29) ((zI V7_10 0 41)).toNatClampNeg (zI q1 0 54))) fun V7_13 =>
  zchk (zix (zI V7_13 0 41) 800) <|
  zlet (zsA V7_13 30 (upd (zA V7_13 30) ((zI V7_13 0 41)).toNatClampNeg (zI V7_13 0 54))) fun V7_16 =>
  zlet (zsI V7_16 0 41 ((zI V7_16 0 41) + (1 : Int32))) fun V7_18 =>
  some V7_18)
  else
  some q3
def fX12_relation_b49 (F : Nat) (V7 : zV) (x1 : Int32) (x2 : Int32) : Option (zV) :=
  zbd (fX12_fail F V7 (1 : Int32)) fun q20 =>
  fX12_relation_b54 F q20 x1 x2
def fX12_relation_b32 (F : Nat) (V7 : zV) (x1 : Int32) (s0 : Int32) : Option (zV) :=
  if (zI V7 0 13) = 0 then (
  if s0 < 0 then (
  fX12_relation_b49 F V7 x1 s0)
  else
  if s0 ≤ (3 : Int32) then (
  fX12_relation_b54 F V7 x1 s0)
  else
  fX12_relation_b49 F V7 x1 s0)
  else
  fX12_relation_b54 F V7 x1 s0
def fX12_relation (F : Nat) (V7 : zV) : Option (zV) :=
  zbd (fX12_expression F V7) fun q25 =>
  if (zI q25 0 13) ≤ 0 then (
  zchk (zix (zI q25 0 11) 1003) <|
  fX12_relation_b32 F q25 (zI V7 0 54) ((zA q25 3 ((zI q25 0 11)).toNatClampNeg) - (12 : Int32)))
  else
  fX12_relation_b32 F q25 (zI V7 0 54) (0 : Int32)
def fX12_tellAct_b149 (F : Nat) (V7 : zV) (x1 : Int32) (x2 : Int32) (x3 : Int32) : Option (zV) :=
  if (zI V7 0 13) ≤ 0 then (
  zchk (zix (zI V7 0 46) 2000) <|
  zlet (zsA V7 31 (upd (zA V7 31) ((zI V7 0 46)).toNatClampNeg x1)) fun V7_3 =>
  zchk (zix (zI V7_3 0 46) 2000) <|
  zlet (zsA V7_3 32 (upd (zA V7_3 32) ((zI V7_3 0 46)).toNatClampNeg x2)) fun V7_6 =>
  zchk (zix (zI V7_6 0 46) 2000) <|
  zlet (zsA V7_6 33 (upd (zA V7_6 33) ((zI V7_6 0 46)).toNatClampNeg x3)) fun V7_9 =>
  zchk (zix (zI V7_9 0 46) 2000) <|
  zlet (zsA V7_9 34 (upd (zA V7_9 34) ((zI V7_9 0 46)).toNatClampNeg (zI V7_9 0 54))) fun V7_12 =>
  zlet (zsI V7_12 0 46 ((zI V7_12 0 46) + (1 : Int32))) fun V7_14 =>
  some V7_14)
  else
  some V7
def fX12_tellAct_b145 (F : Nat) (V7 : zV) (x1 : Int32) (x2 : Int32) (x3 : Int32) : Option (zV) :=
  zbd (fX12_expression F V7) fun q16 =>
  fX12_tellAct_b149 F q16 x1 x2 x3
def fX12_tellAct_b128 (F : Nat) (V7 : zV) (x1 : Int32) (x2 : Int32) : Option (zV) :=
  if x1 = (35 : Int32) then (
  fX12_tellAct_b145 F V7 x1 x2 (zI V7 0 54))
  else
  if x1 = (36 : Int32) then (
  fX12_tellAct_b145 F V7 x1 x2 (zI V7 0 54))
  else
  fX12_tellAct_b149 F V7 x1 x2 (zI V7 0 54)
def fX12_tellAct_b73 (F : Nat) (V7 : zV) (x1 : Int32) (x2 : Int32) : Option (zV) :=
  if x1 = (37 : Int32) then (
  zchk (zix (zI V7 0 51) 1000) <|
  zlet (zsA V7 36 (upd (zA V7 36) ((zI V7 0 51)).toNatClampNeg (zI V7 0 11))) fun V7_22 =>
  zbd (fX12_must F V7_22 (1 : Int32)) fun q24 =>
  if (zI q24 0 13) ≤ 0 then (
  zchk (zix (zI q24 0 51) 1000) <|
  zlet (zsA q24 35 (upd (zA q24 35) ((zI q24 0 51)).toNatClampNeg (zI q24 0 46))) fun V7_28 =>
  zlet (zsI V7_28 0 51 ((zI V7_28 0 51) + (1 : Int32))) fun V7_30 =>
  fX12_tellAct_b128 F V7_30 x1 x2)
  else
  some q24)
  else
  fX12_tellAct_b128 F V7 x1 x2
def fX12_tellAct_b61 (F : Nat) (V7 : zV) (x1 : Int32) (x2 : Int32) : Option (zV) :=
  if x1 = (39 : Int32) then (
  zbd (fX12_namedNext F V7 (1 : Int32)) fun q33 =>
  fX12_tellAct_b73 F q33.2 x1 q33.1)
  else
  fX12_tellAct_b73 F V7 x1 x2
def fX12_tellAct_b34 (F : Nat) (V7 : zV) (x1 : Int32) : Option (zV) :=
  zbd (fX12_next F V7) fun q35 =>
  if (zI q35 0 13) ≤ 0 then (
  if x1 = (36 : Int32) then (
  zbd (fX12_namedNext F q35 (6 : Int32)) fun q39 =>
  fX12_tellAct_b61 F q39.2 x1 q39.1)
  else
  fX12_tellAct_b61 F q35 x1 (-1 : Int32))
  else
  some q35
def fX12_tellAct_b29 (F : Nat) (V7 : zV) (x1 : Int32) : Option (zV) :=
  zbd (fX12_fail F V7 (1 : Int32)) fun q41 =>
  fX12_tellAct_b34 F q41 x1
def fX12_tellAct (F : Nat) (V7 : zV) : Option (zV) :=
  zchk (zix (zI V7 0 11) 1003) <|
  zlet ((zA V7 3 ((zI V7 0 11)).toNatClampNeg)) fun y44 =>
  if (zI V7 0 13) = 0 then (
  if y44 < (35 : Int32) then (
  fX12_tellAct_b29 F V7 y44)
  else
  if y44 ≤ (43 : Int32) then (
  fX12_tellAct_b34 F V7 y44)
  else
  fX12_tellAct_b29 F V7 y44)
  else
  fX12_tellAct_b34 F V7 y44
def fX12_tellRule_b301 (F : Nat) (V7 : zV) (x1 : Int32) : Option (zV) :=
  zbd (fX12_must F V7 (4 : Int32)) fun q1 =>
  if (zI q1 0 13) ≤ 0 then (
  zchk (zix (((9 : Int32) * (zI q1 0 19)) + (8 : Int32)) 18) <|
  zchk (zix (((9 : Int32) * (zI q1 0 19)) + (8 : Int32)) 18) <|
  zlet (zsA q1 8 (upd (zA q1 8) ((((9 : Int32) * (zI q1 0 19)) + (8 : Int32))).toNatClampNeg ((zA q1 8 ((((9 : Int32) * (zI q1 0 19)) + (8 : Int32))).toNatClampNeg) + (1 : Int32)))) fun V7_6 =>
  zchk (zix ((((81 : Int32) * (zI V7_6 0 19)) + x1) + (1 : Int32)) 162) <|
  zlet (zsA V7_6 26 (upd (zA V7_6 26) (((((81 : Int32) * (zI V7_6 0 19)) + x1) + (1 : Int32))).toNatClampNeg (zI V7_6 0 46))) fun V7_9 =>
  some V7_9)
  else
  some q1
def fX12_tellRule_b274 (F : Nat) (k223 : zV → Int32 → Int32 → Int32 → Option (zV)) (V7 : zV) (x1 : Int32) (x3 : Int32) : Option (zV) :=
  zbd (fX12_tellAct F V7) fun q11 =>
  zbd (fX12_is F q11 (6 : Int32)) fun q13 =>
  if q13 = 0 then (
  k223 q11 x1 (x3 + 1) q13)
  else
  zbd (fX12_next F q11) fun q16 =>
  k223 q16 x1 (x3 + 1) q13
def fX12_tellRule_l223 (F : Nat) : Nat → zV → Int32 → Int32 → Int32 → Option (zV)
  | 0, _, _, _, _ => none
  | n + 1, V7, x1, x3, x4 =>
    if x4 = 0 then (
    fX12_tellRule_b301 F V7 x1)
    else
    if (zI V7 0 13) = 0 then (
    zchk (zix (zI V7 0 11) 1003) <|
    if (zA V7 3 ((zI V7 0 11)).toNatClampNeg) < (35 : Int32) then (
    fX12_tellRule_b274 F (fX12_tellRule_l223 F n) V7 x1 x3)
    else
    zchk (zix (zI V7 0 11) 1003) <|
    if (43 : Int32) < (zA V7 3 ((zI V7 0 11)).toNatClampNeg) then (
    fX12_tellRule_b274 F (fX12_tellRule_l223 F n) V7 x1 x3)
    else
    if x3 = (12 : Int32) then (
    zbd (fX12_fail F V7 (2 : Int32)) fun q25 =>
    fX12_tellRule_b274 F (fX12_tellRule_l223 F n) q25 x1 x3)
    else
    fX12_tellRule_b274 F (fX12_tellRule_l223 F n) V7 x1 x3)
    else
    fX12_tellRule_b301 F V7 x1
def fX12_tellRule_b175 (F : Nat) (V7 : zV) (x1 : Int32) : Option (zV) :=
  zchk (zix ((((81 : Int32) * (zI V7 0 19)) + x1) + (1 : Int32)) 162) <|
  zlet (zsA V7 25 (upd (zA V7 25) (((((81 : Int32) * (zI V7 0 19)) + x1) + (1 : Int32))).toNatClampNeg (zI V7 0 41))) fun V7_28 =>
  zbd (fX12_must F V7_28 (5 : Int32)) fun q30 =>
  zchk (zix (((81 : Int32) * (zI q30 0 19)) + x1) 162) <|
  zlet (zsA q30 26 (upd (zA q30 26) ((((81 : Int32) * (zI q30 0 19)) + x1)).toNatClampNeg (zI q30 0 46))) fun V7_33 =>
  fX12_tellRule_l223 F F V7_33 x1 (0 : Int32) (1 : Int32)
def fX12_tellRule_l155 (F : Nat) : Nat → zV → Int32 → Option (zV)
  | 0, _, _ => none
  | n + 1, V7, x1 =>
    zbd (fX12_is F V7 (44 : Int32)) fun q35 =>
    if q35 = 0 then (
    fX12_tellRule_b175 F V7 x1)
    else
    zbd (fX12_next F V7) fun q38 =>
    zbd (fX12_relation F q38) fun q40 =>
    fX12_tellRule_l155 F n q40 x1
def fX12_tellRule_b120 (F : Nat) (V7 : zV) (x1 : Int32) : Option (zV) :=
  zchk (zix (((81 : Int32) * (zI V7 0 19)) + x1) 162) <|
  zlet (zsA V7 25 (upd (zA V7 25) ((((81 : Int32) * (zI V7 0 19)) + x1)).toNatClampNeg (zI V7 0 41))) fun V7_43 =>
  zbd (fX12_is F V7_43 (34 : Int32)) fun q45 =>
  if q45 = 0 then (
  fX12_tellRule_b175 F V7_43 x1)
  else
  zbd (fX12_next F V7_43) fun q48 =>
  zbd (fX12_relation F q48) fun q50 =>
  fX12_tellRule_l155 F F q50 x1
def fX12_tellRule_b102 (F : Nat) (V7 : zV) (x1 : Int32) : Option (zV) :=
  zbd (fX12_next F V7) fun q52 =>
  fX12_tellRule_b120 F q52 x1
def fX12_tellRule_b83 (F : Nat) (V7 : zV) (x1 : Int32) (x2 : Int32) (s1 : Int32) (s2 : Int32) : Option (zV) :=
  zchk (zix s1 160) <|
  zlet (zsA V7 24 (upd (zA V7 24) (s1).toNatClampNeg s2)) fun V7_55 =>
  zbd (fX12_is F V7_55 (32 : Int32)) fun q57 =>
  if q57 = 0 then (
  zbd (fX12_is F V7_55 (33 : Int32)) fun q60 =>
  if q60 = 0 then (
  zbd (fX12_namedNext F V7_55 (0 : Int32)) fun q63 =>
  zchk (zix x2 160) <|
  zlet (zsA q63.2 24 (upd (zA q63.2 24) (x2).toNatClampNeg q63.1)) fun V7_66 =>
  fX12_tellRule_b120 F V7_66 x1)
  else
  fX12_tellRule_b102 F V7_55 x1)
  else
  fX12_tellRule_b102 F V7_55 x1
def fX12_tellRule_b23 (F : Nat) (V7 : zV) : Option (zV) :=
  zbd (fX12_must F V7 (31 : Int32)) fun q68 =>
  if (zI q68 0 13) ≤ 0 then (
  zchk (zix (((9 : Int32) * (zI q68 0 19)) + (8 : Int32)) 18) <|
  zlet ((zA q68 8 ((((9 : Int32) * (zI q68 0 19)) + (8 : Int32))).toNatClampNeg)) fun y72 =>
  zlet ((((80 : Int32) * (zI q68 0 19)) + y72)) fun y74 =>
  zbd (fX12_is F q68 (32 : Int32)) fun q76 =>
  if q76 = 0 then (
  fX12_tellRule_b83 F q68 y72 y74 y74 (-2 : Int32))
  else
  fX12_tellRule_b83 F q68 y72 y74 y74 (-1 : Int32))
  else
  some q68
def fX12_tellRule (F : Nat) (V7 : zV) : Option (zV) :=
  zbd (fX12_is F V7 (31 : Int32)) fun q79 =>
  if q79 = 0 then (
  fX12_tellRule_b23 F V7)
  else
  zbd (fX12_isFull F V7 (8 : Int32)) fun q82 =>
  if q82 = 0 then (
  fX12_tellRule_b23 F V7)
  else
  zbd (fX12_fail F V7 (2 : Int32)) fun q85 =>
  fX12_tellRule_b23 F q85
def fX12_tellMode_b271 (F : Nat) (V7 : zV) (x4 : Int32) : Option (zV) :=
  zbd (fX12_must F V7 (30 : Int32)) fun q1 =>
  zchk (zix (((9 : Int32) * (zI q1 0 19)) + (8 : Int32)) 18) <|
  zchk (zix ((((13 : Int32) * (zI q1 0 19)) + x4) + (1 : Int32)) 26) <|
  zlet (zsA q1 23 (upd (zA q1 23) (((((13 : Int32) * (zI q1 0 19)) + x4) + (1 : Int32))).toNatClampNeg (zA q1 8 ((((9 : Int32) * (zI q1 0 19)) + (8 : Int32))).toNatClampNeg))) fun V7_5 =>
  some V7_5
def fX12_tellMode_l248 (F : Nat) : Nat → zV → Int32 → Option (zV)
  | 0, _, _ => none
  | n + 1, V7, x4 =>
    if (zI V7 0 13) = 0 then (
    zbd (fX12_is F V7 (30 : Int32)) fun q8 =>
    if q8 = 0 then (
    zbd (fX12_tellRule F V7) fun q11 =>
    fX12_tellMode_l248 F n q11 x4)
    else
    fX12_tellMode_b271 F V7 x4)
    else
    fX12_tellMode_b271 F V7 x4
def fX12_tellMode_b169 (F : Nat) (V7 : zV) : Option (zV) :=
  zbd (fX12_must F V7 (4 : Int32)) fun q13 =>
  if (zI q13 0 13) ≤ 0 then (
  zchk (zix (((9 : Int32) * (zI q13 0 19)) + (7 : Int32)) 18) <|
  zlet ((zA q13 8 ((((9 : Int32) * (zI q13 0 19)) + (7 : Int32))).toNatClampNeg)) fun y17 =>
  zchk (zix (((9 : Int32) * (zI q13 0 19)) + (8 : Int32)) 18) <|
  zchk (zix (((13 : Int32) * (zI q13 0 19)) + y17) 26) <|
  zlet (zsA q13 23 (upd (zA q13 23) ((((13 : Int32) * (zI q13 0 19)) + y17)).toNatClampNeg (zA q13 8 ((((9 : Int32) * (zI q13 0 19)) + (8 : Int32))).toNatClampNeg))) fun V7_21 =>
  zchk (zix (((9 : Int32) * (zI V7_21 0 19)) + (7 : Int32)) 18) <|
  zchk (zix (((9 : Int32) * (zI V7_21 0 19)) + (7 : Int32)) 18) <|
  zlet (zsA V7_21 8 (upd (zA V7_21 8) ((((9 : Int32) * (zI V7_21 0 19)) + (7 : Int32))).toNatClampNeg ((zA V7_21 8 ((((9 : Int32) * (zI V7_21 0 19)) + (7 : Int32))).toNatClampNeg) + (1 : Int32)))) fun V7_25 =>
  fX12_tellMode_l248 F F V7_25 y17)
  else
  some q13
def fX12_tellMode_b23 (F : Nat) (V7 : zV) : Option (zV) :=
  zbd (fX12_must F V7 (28 : Int32)) fun q27 =>
  zbd (fX12_must F q27 (1 : Int32)) fun q29 =>
  zbd (fX12_must F q29 (2 : Int32)) fun q31 =>
  if (zI q31 0 13) ≤ 0 then (
  zchk (zix (((9 : Int32) * (zI q31 0 19)) + (7 : Int32)) 18) <|
  zlet ((((12 : Int32) * (zI q31 0 19)) + (zA q31 8 ((((9 : Int32) * (zI q31 0 19)) + (7 : Int32))).toNatClampNeg))) fun y35 =>
  zbd (fX12_tells F q31 (zI q27 0 11) (7 : Int32)) fun q37 =>
  zchk (zix (zI q29 0 11) 1003) <|
  zchk (zix y35 24) <|
  zlet (zsA q37 21 (upd (zA q37 21) (y35).toNatClampNeg (zA q37 5 ((zI q29 0 11)).toNatClampNeg))) fun V7_41 =>
  zchk (zix y35 24) <|
  zlet (zsA V7_41 22 (upd (zA V7_41 22) (y35).toNatClampNeg (0 : Int32))) fun V7_44 =>
  zbd (fX12_is F V7_44 (29 : Int32)) fun q46 =>
  if q46 = 0 then (
  fX12_tellMode_b169 F V7_44)
  else
  zbd (fX12_next F V7_44) fun q49 =>
  zbd (fX12_must F q49 (2 : Int32)) fun q51 =>
  if (zI q51 0 13) ≤ 0 then (
  zchk (zix (zI q49 0 11) 1003) <|
  zchk (zix y35 24) <|
  zlet (zsA q51 22 (upd (zA q51 22) (y35).toNatClampNeg (zA q51 5 ((zI q49 0 11)).toNatClampNeg))) fun V7_56 =>
  zchk (zix (zI q49 0 11) 1003) <|
  if (zA V7_56 5 ((zI q49 0 11)).toNatClampNeg) = 0 then (
  zbd (fX12_wrong F V7_56 (5 : Int32) (zI q49 0 11)) fun q60 =>
  fX12_tellMode_b169 F q60)
  else
  fX12_tellMode_b169 F V7_56)
  else
  some q51)
  else
  some q31
def fX12_tellMode (F : Nat) (V7 : zV) : Option (zV) :=
  zbd (fX12_is F V7 (28 : Int32)) fun q62 =>
  if q62 = 0 then (
  fX12_tellMode_b23 F V7)
  else
  zbd (fX12_isFull F V7 (7 : Int32)) fun q65 =>
  if q65 = 0 then (
  fX12_tellMode_b23 F V7)
  else
  zbd (fX12_fail F V7 (2 : Int32)) fun q68 =>
  fX12_tellMode_b23 F q68
def fX12_read_b304 (F : Nat) (V7 : zV) (s1 : Int32) : Option (Int32 × zV) :=
  zlet (zsI V7 0 17 s1) fun V7_1 =>
  if (zI V7_1 0 13) ≤ 0 then (
  if (zI V7_1 0 15) ≤ 0 then (
  zlet (zsI V7_1 0 18 (zI V7_1 0 19)) fun V7_5 =>
  zlet (zsI V7_5 0 20 (1 : Int32)) fun V7_7 =>
  zlet (zsI V7_7 0 64 (0 : Int32)) fun V7_9 =>
  some ((0 : Int32), V7_9))
  else
  some ((zI V7_1 0 15), V7_1))
  else
  some ((zI V7_1 0 13), V7_1)
def fX12_read_b274 (F : Nat) (V7 : zV) : Option (Int32 × zV) :=
  if (zI V7 0 13) ≤ 0 then (
  if (zI V7 0 15) ≤ 0 then (
  fX12_read_b304 F V7 (-1 : Int32))
  else
  fX12_read_b304 F V7 (zI V7 0 16))
  else
  fX12_read_b304 F V7 (zI V7 0 14)
def fX12_read_l237 (F : Nat) : Nat → zV → Int32 → Option (Int32 × zV)
  | 0, _, _ => none
  | n + 1, V7, x1 =>
    if (zI V7 0 51) ≤ x1 then (
    fX12_read_b274 F V7)
    else
    zchk (zix x1 1000) <|
    zchk (zix x1 1000) <|
    zbd (fX12_named F V7 (zA V7 36 (x1).toNatClampNeg) (7 : Int32)) fun q16 =>
    zchk (zix (zA V7 35 (x1).toNatClampNeg) 2000) <|
    zlet (zsA q16.2 32 (upd (zA q16.2 32) ((zA V7 35 (x1).toNatClampNeg)).toNatClampNeg q16.1)) fun V7_19 =>
    fX12_read_l237 F n V7_19 (x1 + 1)
def fX12_read_b228 (F : Nat) (V7 : zV) : Option (Int32 × zV) :=
  if (zI V7 0 13) = 0 then (
  fX12_read_l237 F F V7 (0 : Int32))
  else
  fX12_read_b274 F V7
def fX12_read_l206 (F : Nat) : Nat → zV → Option (Int32 × zV)
  | 0, _ => none
  | n + 1, V7 =>
    if (zI V7 0 13) = 0 then (
    zbd (fX12_is F V7 (0 : Int32)) fun q23 =>
    if q23 = 0 then (
    zbd (fX12_tellMode F V7) fun q26 =>
    fX12_read_l206 F n q26)
    else
    fX12_read_b228 F V7)
    else
    fX12_read_b228 F V7
def fX12_read_l150 (F : Nat) : Nat → zV → Option (Int32 × zV)
  | 0, _ => none
  | n + 1, V7 =>
    if (zI V7 0 13) = 0 then (
    zchk (zix (zI V7 0 11) 1003) <|
    if (zA V7 3 ((zI V7 0 11)).toNatClampNeg) < (20 : Int32) then (
    fX12_read_l206 F F V7)
    else
    zchk (zix (zI V7 0 11) 1003) <|
    if (27 : Int32) < (zA V7 3 ((zI V7 0 11)).toNatClampNeg) then (
    fX12_read_l206 F F V7)
    else
    zchk (zix (zI V7 0 11) 1003) <|
    if (zA V7 3 ((zI V7 0 11)).toNatClampNeg) = (26 : Int32) then (
    fX12_read_l206 F F V7)
    else
    zbd (fX12_tellPart F V7) fun q35 =>
    fX12_read_l150 F n q35)
    else
    fX12_read_l206 F F V7
def fX12_read_l77 (F : Nat) : Nat → zV → Int32 → Option (Int32 × zV)
  | 0, _, _ => none
  | n + 1, V7, x1 =>
    if (9 : Int32) ≤ x1 then (
    zlet (zsI V7 0 22 (0 : Int32)) fun V7_38 =>
    zlet (zsI V7_38 0 41 ((400 : Int32) * (zI V7_38 0 19))) fun V7_40 =>
    zlet (zsI V7_40 0 46 ((1000 : Int32) * (zI V7_40 0 19))) fun V7_42 =>
    zlet (zsI V7_42 0 54 ((1200 : Int32) * (zI V7_42 0 19))) fun V7_44 =>
    zlet (zsI V7_44 0 51 (0 : Int32)) fun V7_46 =>
    fX12_read_l150 F F V7_46)
    else
    zchk (zix (((9 : Int32) * (zI V7 0 19)) + x1) 18) <|
    zlet (zsA V7 8 (upd (zA V7 8) ((((9 : Int32) * (zI V7 0 19)) + x1)).toNatClampNeg (0 : Int32))) fun V7_49 =>
    fX12_read_l77 F n V7_49 (x1 + 1)
def fX12_read_l10 (F : Nat) : Nat → zV → Int32 → Option (Int32 × zV)
  | 0, _, _ => none
  | n + 1, V7, x1 =>
    if (zI V7 0 4) ≤ x1 then (
    zlet (zsI V7 0 2 (0 : Int32)) fun V7_52 =>
    zbd (fX12_cut F V7_52) fun q54 =>
    zlet (zsI q54 0 11 (0 : Int32)) fun V7_56 =>
    zlet (zsI V7_56 0 12 (0 : Int32)) fun V7_58 =>
    zlet (zsI V7_58 0 13 (0 : Int32)) fun V7_60 =>
    zlet (zsI V7_60 0 15 (0 : Int32)) fun V7_62 =>
    zlet (zsI V7_62 0 19 ((1 : Int32) - (zI V7_62 0 18))) fun V7_64 =>
    fX12_read_l77 F F V7_64 (0 : Int32))
    else
    zchk (zix x1 4000) <|
    zchk (zix x1 4000) <|
    zlet (zsA V7 2 (upd (zA V7 2) (x1).toNatClampNeg (vp_nar .byte (zA V7 1 (x1).toNatClampNeg)))) fun V7_68 =>
    fX12_read_l10 F n V7_68 (x1 + 1)
def fX12_read (F : Nat) (V7 : zV) : Option (Int32 × zV) :=
  zlet (zsI V7 0 4 (zI V7 0 2)) fun V7_70 =>
  fX12_read_l10 F F V7_70 (0 : Int32)
def fX12_place (F : Nat) (V7 : zV) : Option (Int32) :=
  some (zI V7 0 17)
def fX12_sort (F : Nat) (V7 : zV) (x1 : Int32) : Option (Int32) :=
  zchk (zix (((9 : Int32) * (zI V7 0 18)) + x1) 18) <|
  some (zA V7 8 ((((9 : Int32) * (zI V7 0 18)) + x1)).toNatClampNeg)
def fX12_orders_b78 (F : Nat) (k9 : zV → Int32 → Int32 → Option (zV)) (V7 : zV) (x1 : Int32) (x2 : Int32) (x3 : Int32) : Option (zV) :=
  zchk (zix x3 12) <|
  zlet (zsA V7 56 (upd (zA V7 56) (x3).toNatClampNeg x2)) fun V7_2 =>
  k9 V7_2 x1 (x2 + 1)
def fX12_orders_l16 (F : Nat) (k9 : zV → Int32 → Int32 → Option (zV)) : Nat → zV → Int32 → Int32 → Int32 → Option (zV)
  | 0, _, _, _, _ => none
  | n + 1, V7, x1, x2, x3 =>
    if x3 ≤ 0 then (
    fX12_orders_b78 F k9 V7 x1 x2 x3)
    else
    zchk (zix (x3 - (1 : Int32)) 12) <|
    zchk (zix (((12 : Int32) * (zI V7 0 18)) + (zA V7 56 ((x3 - (1 : Int32))).toNatClampNeg)) 24) <|
    zchk (zix (((12 : Int32) * (zI V7 0 18)) + x2) 24) <|
    if (zA V7 21 ((((12 : Int32) * (zI V7 0 18)) + x2)).toNatClampNeg) ≤ (zA V7 21 ((((12 : Int32) * (zI V7 0 18)) + (zA V7 56 ((x3 - (1 : Int32))).toNatClampNeg))).toNatClampNeg) then (
    fX12_orders_b78 F k9 V7 x1 x2 x3)
    else
    zchk (zix (x3 - (1 : Int32)) 12) <|
    zchk (zix x3 12) <|
    zlet (zsA V7 56 (upd (zA V7 56) (x3).toNatClampNeg (zA V7 56 ((x3 - (1 : Int32))).toNatClampNeg))) fun V7_11 =>
    fX12_orders_l16 F k9 n V7_11 x1 x2 (x3 + (-1))
def fX12_orders_l9 (F : Nat) : Nat → zV → Int32 → Int32 → Option (zV)
  | 0, _, _, _ => none
  | n + 1, V7, x1, x2 =>
    if x1 ≤ x2 then (
    some V7)
    else
    fX12_orders_l16 F (fX12_orders_l9 F n) F V7 x1 x2 x2
def fX12_orders (F : Nat) (V7 : zV) : Option (zV) :=
  zbd (fX12_sort F V7 (7 : Int32)) fun q14 =>
  fX12_orders_l9 F F V7 q14 (0 : Int32)
def fX12_comes (F : Nat) (V7 : zV) (x1 : Int32) : Option (zV) :=
  zchk (zix x1 65536) <|
  if (zA V7 42 (x1).toNatClampNeg) = 0 then (
  zchk (zix x1 65536) <|
  zlet (zsA V7 42 (upd (zA V7 42) (x1).toNatClampNeg (vp_nar .boolean (1 : Int32)))) fun V7_4 =>
  zchk (zix (zI V7_4 0 61) 2000) <|
  zlet (zsA V7_4 41 (upd (zA V7_4 41) ((zI V7_4 0 61)).toNatClampNeg x1)) fun V7_7 =>
  zlet (zsI V7_7 0 61 ((zI V7_7 0 61) + (1 : Int32))) fun V7_9 =>
  some V7_9)
  else
  some V7
def fX12_knows_l116 (F : Nat) : Nat → zV → Int32 → Option (zV)
  | 0, _, _ => none
  | n + 1, V7, x1 =>
    if (zI V7 0 61) ≤ x1 then (
    zlet (zsI V7 0 61 (0 : Int32)) fun V7_2 =>
    some V7_2)
    else
    zchk (zix x1 2000) <|
    zchk (zix x1 200) <|
    zlet (zsA V7 40 (upd (zA V7 40) (x1).toNatClampNeg (zA V7 41 (x1).toNatClampNeg))) fun V7_6 =>
    zchk (zix x1 200) <|
    zchk (zix (zA V7_6 40 (x1).toNatClampNeg) 65536) <|
    zlet (zsA V7_6 42 (upd (zA V7_6 42) ((zA V7_6 40 (x1).toNatClampNeg)).toNatClampNeg (vp_nar .boolean (0 : Int32)))) fun V7_10 =>
    fX12_knows_l116 F n V7_10 (x1 + 1)
def fX12_knows_b94 (F : Nat) (k25 : zV → Int32 → Int32 → Int32 → Option (zV)) (V7 : zV) (x1 : Int32) (x2 : Int32) (x3 : Int32) : Option (zV) :=
  k25 V7 x1 x2 (x3 + 1)
def fX12_knows_l25 (F : Nat) (k2 : zV → Int32 → Option (zV)) : Nat → zV → Int32 → Int32 → Int32 → Option (zV)
  | 0, _, _, _, _ => none
  | n + 1, V7, x1, x2, x3 =>
    zbd (fX12_sort F V7 (5 : Int32)) fun q12 =>
    if (((24 : Int32) * (zI V7 0 18)) + q12) ≤ x3 then (
    k2 V7 (x1 + 1))
    else
    zchk (zix x3 48) <|
    if (zA V7 19 (x3).toNatClampNeg) = (-1 : Int32) then (
    zchk (zix x3 48) <|
    if ((x2 >>> (((2 : Int32) * (zA V7 17 (x3).toNatClampNeg)) &&& 31)) &&& (3 : Int32)) ≤ 0 then (
    fX12_knows_b94 F (fX12_knows_l25 F k2 n) V7 x1 x2 x3)
    else
    zchk (zix x3 48) <|
    zchk (zix x3 48) <|
    zbd (fX12_comes F V7 ((x2 - ((1 : Int32) <<< (((2 : Int32) * (zA V7 17 (x3).toNatClampNeg)) &&& 31))) + ((1 : Int32) <<< (((2 : Int32) * (zA V7 18 (x3).toNatClampNeg)) &&& 31)))) fun q21 =>
    fX12_knows_b94 F (fX12_knows_l25 F k2 n) q21 x1 x2 x3)
    else
    fX12_knows_b94 F (fX12_knows_l25 F k2 n) V7 x1 x2 x3
def fX12_knows_l2 (F : Nat) : Nat → zV → Int32 → Option (zV)
  | 0, _, _ => none
  | n + 1, V7, x1 =>
    if (zI V7 0 61) ≤ x1 then (
    zlet (zsI V7 0 59 (zI V7 0 61)) fun V7_24 =>
    fX12_knows_l116 F F V7_24 (0 : Int32))
    else
    zchk (zix x1 2000) <|
    zlet ((zA V7 41 (x1).toNatClampNeg)) fun y27 =>
    zlet (((24 : Int32) * (zI V7 0 18))) fun y29 =>
    fX12_knows_l25 F (fX12_knows_l2 F n) F V7 x1 y27 y29
def fX12_knows (F : Nat) (V7 : zV) : Option (zV) :=
  fX12_knows_l2 F F V7 (0 : Int32)
def fX12_noBalls (F : Nat) (V7 : zV) : Option (zV) :=
  zlet (zsI V7 0 59 (0 : Int32)) fun V7_1 =>
  zbd (fX12_sort F V7_1 (4 : Int32)) fun q3 =>
  if q3 ≤ 0 then (
  some V7_1)
  else
  zbd (fX12_comes F V7_1 (0 : Int32)) fun q6 =>
  zbd (fX12_knows F q6) fun q8 =>
  some q8
def fX12_serves_l21 (F : Nat) : Nat → zV → Int32 → Option (zV)
  | 0, _, _ => none
  | n + 1, V7, x1 =>
    if (zI V7 0 59) ≤ x1 then (
    zbd (fX12_knows F V7) fun q2 =>
    some q2)
    else
    zchk (zix x1 200) <|
    zbd (fX12_comes F V7 ((zA V7 40 (x1).toNatClampNeg) + (1 : Int32))) fun q5 =>
    fX12_serves_l21 F n q5 (x1 + 1)
def fX12_serves (F : Nat) (V7 : zV) : Option (zV) :=
  if (zI V7 0 67) = (3 : Int32) then (
  some V7)
  else
  zlet (zsI V7 0 67 ((zI V7 0 67) + (1 : Int32))) fun V7_8 =>
  fX12_serves_l21 F F V7_8 (0 : Int32)
def fX12_deep_b24 (F : Nat) (k4 : zV → Int32 → Int32 → Option (Int32)) (V7 : zV) (x1 : Int32) (x2 : Int32) : Option (Int32) :=
  k4 V7 x1 (x2 + 1)
def fX12_deep_l4 (F : Nat) : Nat → zV → Int32 → Int32 → Option (Int32)
  | 0, _, _, _ => none
  | n + 1, V7, x1, x2 =>
    if (zI V7 0 90) ≤ x2 then (
    some x1)
    else
    zchk (zix x2 12) <|
    if 0 ≤ (zA V7 58 (x2).toNatClampNeg) then (
    fX12_deep_b24 F (fX12_deep_l4 F n) V7 x1 x2)
    else
    fX12_deep_b24 F (fX12_deep_l4 F n) V7 (x1 + 1) x2
def fX12_deep (F : Nat) (V7 : zV) : Option (Int32) :=
  fX12_deep_l4 F F V7 (0 : Int32) (0 : Int32)
def fX12_frame (F : Nat) (V7 : zV) (x1 : Int32) (x2 : Int32) : Option (zV) :=
  zchk (zix (zI V7 0 90) 12) <|
  zlet (zsA V7 57 (upd (zA V7 57) ((zI V7 0 90)).toNatClampNeg x1)) fun V7_2 =>
  zchk (zix (zI V7_2 0 90) 12) <|
  zlet (zsA V7_2 58 (upd (zA V7_2 58) ((zI V7_2 0 90)).toNatClampNeg x2)) fun V7_5 =>
  zchk (zix (((13 : Int32) * (zI V7_5 0 18)) + x1) 26) <|
  zchk (zix (zI V7_5 0 90) 12) <|
  zlet (zsA V7_5 59 (upd (zA V7_5 59) ((zI V7_5 0 90)).toNatClampNeg (zA V7_5 23 ((((13 : Int32) * (zI V7_5 0 18)) + x1)).toNatClampNeg))) fun V7_9 =>
  zchk (zix (zI V7_9 0 90) 12) <|
  zlet (zsA V7_9 60 (upd (zA V7_9 60) ((zI V7_9 0 90)).toNatClampNeg (0 : Int32))) fun V7_12 =>
  zchk (zix (zI V7_12 0 90) 12) <|
  zlet (zsA V7_12 61 (upd (zA V7_12 61) ((zI V7_12 0 90)).toNatClampNeg (0 : Int32))) fun V7_15 =>
  zchk (zix x1 12) <|
  zchk (zix (zI V7_15 0 90) 12) <|
  zlet (zsA V7_15 62 (upd (zA V7_15 62) ((zI V7_15 0 90)).toNatClampNeg (zA V7_15 52 (x1).toNatClampNeg))) fun V7_19 =>
  zlet (zsI V7_19 0 90 ((zI V7_19 0 90) + (1 : Int32))) fun V7_21 =>
  some V7_21
def fX12_starts (F : Nat) (V7 : zV) (x1 : Int32) : Option (zV) :=
  zchk (zix x1 12) <|
  zlet ((zA V7 49 (x1).toNatClampNeg)) fun y2 =>
  zchk (zix x1 12) <|
  zlet (zsA V7 49 (upd (zA V7 49) (x1).toNatClampNeg (vp_nar .boolean (1 : Int32)))) fun V7_5 =>
  zchk (zix (((12 : Int32) * (zI V7_5 0 18)) + x1) 24) <|
  zchk (zix x1 12) <|
  zlet (zsA V7_5 50 (upd (zA V7_5 50) (x1).toNatClampNeg (zA V7_5 22 ((((12 : Int32) * (zI V7_5 0 18)) + x1)).toNatClampNeg))) fun V7_9 =>
  if y2 = 0 then (
  zchk (zix x1 12) <|
  zchk (zix x1 12) <|
  zlet (zsA V7_9 51 (upd (zA V7_9 51) (x1).toNatClampNeg ((zA V7_9 51 (x1).toNatClampNeg) + (1 : Int32)))) fun V7_14 =>
  zbd (fX12_deep F V7_14) fun q16 =>
  if (8 : Int32) ≤ q16 then (
  some V7_14)
  else
  zbd (fX12_frame F V7_14 x1 (-1 : Int32)) fun q19 =>
  some q19)
  else
  some V7_9
def fX12_term_b189 (F : Nat) (k6 : zV → Int32 → Int32 → Int32 → Int32 → Option (Int32 × zV)) (V7 : zV) (x2 : Int32) (x3 : Int32) (x4 : Int32) (x5 : Int32) : Option (Int32 × zV) :=
  k6 V7 x2 x3 x4 (x5 + 1)
def fX12_term_b188 (F : Nat) (k6 : zV → Int32 → Int32 → Int32 → Int32 → Option (Int32 × zV)) (V7 : zV) (x2 : Int32) (x3 : Int32) (x4 : Int32) (x5 : Int32) (s1 : Int32) (s2 : Int32) : Option (Int32 × zV) :=
  zchk (zix s1 1000) <|
  zlet (zsA V7 63 (upd (zA V7 63) (s1).toNatClampNeg s2)) fun V7_2 =>
  fX12_term_b189 F k6 V7_2 x2 x3 x4 x5
def fX12_term_b88 (F : Nat) (k6 : zV → Int32 → Int32 → Int32 → Int32 → Option (Int32 × zV)) (V7 : zV) (x2 : Int32) (x3 : Int32) (x4 : Int32) (x5 : Int32) (s1 : Int32) (s2 : Int32) : Option (Int32 × zV) :=
  zchk (zix s1 1000) <|
  zlet (zsA V7 63 (upd (zA V7 63) (s1).toNatClampNeg s2)) fun V7_5 =>
  fX12_term_b189 F k6 V7_5 x2 x3 (x4 + 1) x5
def fX12_term_l6 (F : Nat) : Nat → zV → Int32 → Int32 → Int32 → Int32 → Option (Int32 × zV)
  | 0, _, _, _, _, _ => none
  | n + 1, V7, x2, x3, x4, x5 =>
    if x2 ≤ x5 then (
    some ((zA V7 63 ((0 : Int32)).toNatClampNeg), V7))
    else
    zchk (zix x5 2400) <|
    zlet ((zA V7 37 (x5).toNatClampNeg)) fun y9 =>
    if (4 : Int32) ≤ y9 then (
    if y9 = (7 : Int32) then (
    zchk (zix (x4 - (1 : Int32)) 1000) <|
    zchk (zix (x4 - (1 : Int32)) 1000) <|
    zlet (zsA V7 63 (upd (zA V7 63) ((x4 - (1 : Int32))).toNatClampNeg (-(zA V7 63 ((x4 - (1 : Int32))).toNatClampNeg)))) fun V7_23 =>
    fX12_term_b189 F (fX12_term_l6 F n) V7_23 x2 x3 x4 x5)
    else
    zchk (zix ((x4 + (-1)) - (1 : Int32)) 1000) <|
    zlet ((zA V7 63 (((x4 + (-1)) - (1 : Int32))).toNatClampNeg)) fun y14 =>
    zchk (zix (x4 + (-1)) 1000) <|
    zlet ((zA V7 63 ((x4 + (-1))).toNatClampNeg)) fun y17 =>
    if y9 = (4 : Int32) then (
    fX12_term_b188 F (fX12_term_l6 F n) V7 x2 x3 (x4 + (-1)) x5 ((x4 + (-1)) - (1 : Int32)) (y14 + y17))
    else
    if y9 = (5 : Int32) then (
    fX12_term_b188 F (fX12_term_l6 F n) V7 x2 x3 (x4 + (-1)) x5 ((x4 + (-1)) - (1 : Int32)) (y14 - y17))
    else
    fX12_term_b188 F (fX12_term_l6 F n) V7 x2 x3 (x4 + (-1)) x5 ((x4 + (-1)) - (1 : Int32)) (y14 * y17))
    else
    if y9 = 0 then (
    zchk (zix x5 2400) <|
    fX12_term_b88 F (fX12_term_l6 F n) V7 x2 x3 x4 x5 x4 (zA V7 38 (x5).toNatClampNeg))
    else
    if y9 = (1 : Int32) then (
    zchk (zix x5 2400) <|
    zchk (zix (zA V7 38 (x5).toNatClampNeg) 16) <|
    fX12_term_b88 F (fX12_term_l6 F n) V7 x2 x3 x4 x5 x4 (zA V7 43 ((zA V7 38 (x5).toNatClampNeg)).toNatClampNeg))
    else
    if y9 = (2 : Int32) then (
    zchk (zix x3 12) <|
    fX12_term_b88 F (fX12_term_l6 F n) V7 x2 x3 x4 x5 x4 (zA V7 50 (x3).toNatClampNeg))
    else
    fX12_term_b88 F (fX12_term_l6 F n) V7 x2 x3 x4 x5 x4 (zI V7 0 67)
def fX12_term (F : Nat) (V7 : zV) (x1 : Int32) (x2 : Int32) (x3 : Int32) : Option (Int32 × zV) :=
  fX12_term_l6 F F V7 x2 x3 (0 : Int32) x1
def fX12_leaves (F : Nat) (V7 : zV) (x1 : Int32) : Option (zV) :=
  zchk (zix x1 12) <|
  if (zA V7 49 (x1).toNatClampNeg) = 0 then (
  some V7)
  else
  zchk (zix x1 12) <|
  zlet (zsA V7 49 (upd (zA V7 49) (x1).toNatClampNeg (vp_nar .boolean (0 : Int32)))) fun V7_4 =>
  zchk (zix x1 12) <|
  zlet (zsA V7_4 50 (upd (zA V7_4 50) (x1).toNatClampNeg (0 : Int32))) fun V7_7 =>
  zchk (zix x1 12) <|
  zchk (zix x1 12) <|
  zlet (zsA V7_7 52 (upd (zA V7_7 52) (x1).toNatClampNeg ((zA V7_7 52 (x1).toNatClampNeg) + (1 : Int32)))) fun V7_11 =>
  zbd (fX12_deep F V7_11) fun q13 =>
  if (8 : Int32) ≤ q13 then (
  some V7_11)
  else
  zbd (fX12_frame F V7_11 x1 (-2 : Int32)) fun q16 =>
  some q16
def fX12_drains_b70 (F : Nat) (k30 : zV → Int32 → Int32 → Option (zV)) (V7 : zV) (x1 : Int32) (x2 : Int32) : Option (zV) :=
  k30 V7 x1 (x2 + 1)
def fX12_drains_l30 (F : Nat) (k20 : zV → Int32 → Option (zV)) : Nat → zV → Int32 → Int32 → Option (zV)
  | 0, _, _, _ => none
  | n + 1, V7, x1, x2 =>
    zbd (fX12_sort F V7 (4 : Int32)) fun q1 =>
    if q1 ≤ x2 then (
    k20 V7 (x1 + 1))
    else
    zchk (zix x1 200) <|
    if (((zA V7 40 (x1).toNatClampNeg) >>> (((2 : Int32) * x2) &&& 31)) &&& (3 : Int32)) ≤ 0 then (
    fX12_drains_b70 F (fX12_drains_l30 F k20 n) V7 x1 x2)
    else
    zchk (zix x1 200) <|
    zbd (fX12_comes F V7 ((zA V7 40 (x1).toNatClampNeg) - ((1 : Int32) <<< (((2 : Int32) * x2) &&& 31)))) fun q7 =>
    fX12_drains_b70 F (fX12_drains_l30 F k20 n) q7 x1 x2
def fX12_drains_l20 (F : Nat) : Nat → zV → Int32 → Option (zV)
  | 0, _, _ => none
  | n + 1, V7, x1 =>
    if (zI V7 0 59) ≤ x1 then (
    zbd (fX12_knows F V7) fun q10 =>
    some q10)
    else
    fX12_drains_l30 F (fX12_drains_l20 F n) F V7 x1 (0 : Int32)
def fX12_drains (F : Nat) (V7 : zV) : Option (zV) :=
  if (zI V7 0 67) = 0 then (
  some V7)
  else
  zlet (zsI V7 0 67 ((zI V7 0 67) - (1 : Int32))) fun V7_13 =>
  fX12_drains_l20 F F V7_13 (0 : Int32)
def fX12_offs_b31 (F : Nat) (k2 : zV → Int32 → Option (zV)) (V7 : zV) (x1 : Int32) : Option (zV) :=
  zchk (zix x1 12) <|
  zlet (zsA V7 49 (upd (zA V7 49) (x1).toNatClampNeg (vp_nar .boolean (0 : Int32)))) fun V7_2 =>
  zchk (zix x1 12) <|
  zlet (zsA V7_2 50 (upd (zA V7_2 50) (x1).toNatClampNeg (0 : Int32))) fun V7_5 =>
  k2 V7_5 (x1 + 1)
def fX12_offs_l2 (F : Nat) : Nat → zV → Int32 → Option (zV)
  | 0, _, _ => none
  | n + 1, V7, x1 =>
    zbd (fX12_sort F V7 (7 : Int32)) fun q7 =>
    if q7 ≤ x1 then (
    some V7)
    else
    zchk (zix x1 12) <|
    if (zA V7 49 (x1).toNatClampNeg) = 0 then (
    fX12_offs_b31 F (fX12_offs_l2 F n) V7 x1)
    else
    zchk (zix x1 12) <|
    zchk (zix x1 12) <|
    zlet (zsA V7 52 (upd (zA V7 52) (x1).toNatClampNeg ((zA V7 52 (x1).toNatClampNeg) + (1 : Int32)))) fun V7_14 =>
    fX12_offs_b31 F (fX12_offs_l2 F n) V7_14 x1
def fX12_offs (F : Nat) (V7 : zV) : Option (zV) :=
  fX12_offs_l2 F F V7 (1 : Int32)
def fX12_does_l161 (F : Nat) : Nat → zV → Int32 → Int32 → Option (zV)
  | 0, _, _, _ => none
  | n + 1, V7, x1, x4 =>
    if (zI V7 0 85) ≤ x4 then (
    zchk (zix x1 2000) <|
    zchk (zix (zI V7 0 85) 8) <|
    zlet (zsA V7 55 (upd (zA V7 55) ((zI V7 0 85)).toNatClampNeg (zA V7 32 (x1).toNatClampNeg))) fun V7_4 =>
    zlet (zsI V7_4 0 85 ((zI V7_4 0 85) + (1 : Int32))) fun V7_6 =>
    some V7_6)
    else
    zchk (zix x4 8) <|
    zchk (zix x1 2000) <|
    if (zA V7 55 (x4).toNatClampNeg) = (zA V7 32 (x1).toNatClampNeg) then (
    some V7)
    else
    fX12_does_l161 F n V7 x1 (x4 + 1)
def fX12_does (F : Nat) (V7 : zV) (x1 : Int32) (x2 : Int32) (x3 : Int32) : Option (zV) :=
  zchk (zix x1 2000) <|
  if (zA V7 31 (x1).toNatClampNeg) = (35 : Int32) then (
  if (zI V7 0 71) = 0 then (
  zchk (zix x1 2000) <|
  zchk (zix x1 2000) <|
  zbd (fX12_term F V7 (zA V7 33 (x1).toNatClampNeg) (zA V7 34 (x1).toNatClampNeg) x2) fun q16 =>
  zlet (zsL q16.2 0 65 ((zL V7 0 65) + (q16.1).toInt64)) fun V7_18 =>
  if 0 ≤ (lg_cmp (zL V7_18 0 65) (0 : Int64)) then (
  some V7_18)
  else
  zlet (zsL V7_18 0 65 (0 : Int64)) fun V7_21 =>
  some V7_21)
  else
  some V7)
  else
  if (zA V7 31 (x1).toNatClampNeg) = (36 : Int32) then (
  zchk (zix x1 2000) <|
  zchk (zix x1 2000) <|
  zchk (zix x1 2000) <|
  zbd (fX12_term F V7 (zA V7 33 (x1).toNatClampNeg) (zA V7 34 (x1).toNatClampNeg) x2) fun q27 =>
  zchk (zix (zA V7 32 (x1).toNatClampNeg) 16) <|
  zlet (zsA q27.2 43 (upd (zA q27.2 43) ((zA V7 32 (x1).toNatClampNeg)).toNatClampNeg q27.1)) fun V7_30 =>
  some V7_30)
  else
  if (zA V7 31 (x1).toNatClampNeg) = (37 : Int32) then (
  zchk (zix x1 2000) <|
  zbd (fX12_starts F V7 (zA V7 32 (x1).toNatClampNeg)) fun q34 =>
  some q34)
  else
  if (zA V7 31 (x1).toNatClampNeg) = (38 : Int32) then (
  zbd (fX12_leaves F V7 x2) fun q37 =>
  some q37)
  else
  if (zA V7 31 (x1).toNatClampNeg) = (39 : Int32) then (
  fX12_does_l161 F F V7 x1 (0 : Int32))
  else
  if (zA V7 31 (x1).toNatClampNeg) = (40 : Int32) then (
  zchk (zix x3 12) <|
  if (zA V7 58 (x3).toNatClampNeg) < 0 then (
  some V7)
  else
  zlet (zsI V7 0 99 (1 : Int32)) fun V7_43 =>
  some V7_43)
  else
  if (zA V7 31 (x1).toNatClampNeg) = (41 : Int32) then (
  zbd (fX12_drains F V7) fun q46 =>
  some q46)
  else
  if (zA V7 31 (x1).toNatClampNeg) = (42 : Int32) then (
  zbd (fX12_serves F V7) fun q49 =>
  some q49)
  else
  zlet (zsI V7 0 71 (1 : Int32)) fun V7_51 =>
  zbd (fX12_offs F V7_51) fun q53 =>
  some q53
def fX12_holds_b159 (F : Nat) (k15 : zV → Int32 → Int32 → Int32 → Option (Int32 × zV)) (V7 : zV) (x1 : Int32) (x2 : Int32) (x3 : Int32) (s0 : Int32) : Option (Int32 × zV) :=
  if s0 = 0 then (
  some ((0 : Int32), V7))
  else
  k15 V7 x1 x2 (x3 + 1)
def fX12_holds_l15 (F : Nat) : Nat → zV → Int32 → Int32 → Int32 → Option (Int32 × zV)
  | 0, _, _, _, _ => none
  | n + 1, V7, x1, x2, x3 =>
    zchk (zix ((((81 : Int32) * (zI V7 0 18)) + x1) + (1 : Int32)) 162) <|
    if (zA V7 25 (((((81 : Int32) * (zI V7 0 18)) + x1) + (1 : Int32))).toNatClampNeg) ≤ x3 then (
    some ((1 : Int32), V7))
    else
    zchk (zix x3 800) <|
    zchk (zix x3 800) <|
    zbd (fX12_term F V7 (zA V7 28 (x3).toNatClampNeg) (zA V7 29 (x3).toNatClampNeg) x2) fun q6 =>
    zchk (zix x3 800) <|
    zchk (zix x3 800) <|
    zbd (fX12_term F q6.2 (zA q6.2 29 (x3).toNatClampNeg) (zA q6.2 30 (x3).toNatClampNeg) x2) fun q10 =>
    zchk (zix x3 800) <|
    if (zA q10.2 27 (x3).toNatClampNeg) = 0 then (
    if q6.1 = q10.1 then (
    fX12_holds_b159 F (fX12_holds_l15 F n) q10.2 x1 x2 x3 (1 : Int32))
    else
    fX12_holds_b159 F (fX12_holds_l15 F n) q10.2 x1 x2 x3 (0 : Int32))
    else
    zchk (zix x3 800) <|
    if (zA q10.2 27 (x3).toNatClampNeg) = (1 : Int32) then (
    if q6.1 = q10.1 then (
    fX12_holds_b159 F (fX12_holds_l15 F n) q10.2 x1 x2 x3 (0 : Int32))
    else
    fX12_holds_b159 F (fX12_holds_l15 F n) q10.2 x1 x2 x3 (1 : Int32))
    else
    zchk (zix x3 800) <|
    if (zA q10.2 27 (x3).toNatClampNeg) = (2 : Int32) then (
    if q10.1 ≤ q6.1 then (
    fX12_holds_b159 F (fX12_holds_l15 F n) q10.2 x1 x2 x3 (0 : Int32))
    else
    fX12_holds_b159 F (fX12_holds_l15 F n) q10.2 x1 x2 x3 (1 : Int32))
    else
    if q10.1 < q6.1 then (
    fX12_holds_b159 F (fX12_holds_l15 F n) q10.2 x1 x2 x3 (0 : Int32))
    else
    fX12_holds_b159 F (fX12_holds_l15 F n) q10.2 x1 x2 x3 (1 : Int32)
def fX12_holds (F : Nat) (V7 : zV) (x1 : Int32) (x2 : Int32) : Option (Int32 × zV) :=
  zchk (zix (((81 : Int32) * (zI V7 0 18)) + x1) 162) <|
  zlet ((zA V7 25 ((((81 : Int32) * (zI V7 0 18)) + x1)).toNatClampNeg)) fun y23 =>
  fX12_holds_l15 F F V7 x1 x2 y23
def fX12_nextRule_l58 (F : Nat) : Nat → zV → Int32 → Int32 → Option (Int32 × zV)
  | 0, _, _, _ => none
  | n + 1, V7, x1, x2 =>
    zchk (zix x1 12) <|
    zchk (zix ((((13 : Int32) * (zI V7 0 18)) + x2) + (1 : Int32)) 26) <|
    if (zA V7 23 (((((13 : Int32) * (zI V7 0 18)) + x2) + (1 : Int32))).toNatClampNeg) ≤ (zA V7 59 (x1).toNatClampNeg) then (
    some ((0 : Int32), V7))
    else
    zchk (zix x1 12) <|
    zlet ((zA V7 59 (x1).toNatClampNeg)) fun y5 =>
    zchk (zix x1 12) <|
    zchk (zix x1 12) <|
    zlet (zsA V7 59 (upd (zA V7 59) (x1).toNatClampNeg ((zA V7 59 (x1).toNatClampNeg) + (1 : Int32)))) fun V7_9 =>
    zchk (zix (((80 : Int32) * (zI V7_9 0 18)) + y5) 160) <|
    zchk (zix x1 12) <|
    if (zA V7_9 24 ((((80 : Int32) * (zI V7_9 0 18)) + y5)).toNatClampNeg) = (zA V7_9 58 (x1).toNatClampNeg) then (
    zbd (fX12_holds F V7_9 y5 x2) fun q14 =>
    if q14.1 = 0 then (
    fX12_nextRule_l58 F n q14.2 x1 x2)
    else
    zchk (zix (((81 : Int32) * (zI q14.2 0 18)) + y5) 162) <|
    zchk (zix x1 12) <|
    zlet (zsA q14.2 60 (upd (zA q14.2 60) (x1).toNatClampNeg (zA q14.2 26 ((((81 : Int32) * (zI q14.2 0 18)) + y5)).toNatClampNeg))) fun V7_19 =>
    zchk (zix ((((81 : Int32) * (zI V7_19 0 18)) + y5) + (1 : Int32)) 162) <|
    zchk (zix x1 12) <|
    zlet (zsA V7_19 61 (upd (zA V7_19 61) (x1).toNatClampNeg (zA V7_19 26 (((((81 : Int32) * (zI V7_19 0 18)) + y5) + (1 : Int32))).toNatClampNeg))) fun V7_23 =>
    some ((1 : Int32), V7_23))
    else
    fX12_nextRule_l58 F n V7_9 x1 x2
def fX12_nextRule_b30 (F : Nat) (V7 : zV) (x1 : Int32) (x2 : Int32) : Option (Int32 × zV) :=
  zchk (zix x1 12) <|
  if (zA V7 58 (x1).toNatClampNeg) = (-2 : Int32) then (
  fX12_nextRule_l58 F F V7 x1 x2)
  else
  zchk (zix x2 12) <|
  zchk (zix x1 12) <|
  if (zA V7 52 (x2).toNatClampNeg) = (zA V7 62 (x1).toNatClampNeg) then (
  fX12_nextRule_l58 F F V7 x1 x2)
  else
  some ((0 : Int32), V7)
def fX12_nextRule (F : Nat) (V7 : zV) (x1 : Int32) : Option (Int32 × zV) :=
  zchk (zix x1 12) <|
  zlet ((zA V7 57 (x1).toNatClampNeg)) fun y31 =>
  zchk (zix x1 12) <|
  if (zA V7 58 (x1).toNatClampNeg) < 0 then (
  fX12_nextRule_b30 F V7 x1 y31)
  else
  if (zI V7 0 99) = 0 then (
  fX12_nextRule_b30 F V7 x1 y31)
  else
  zlet (zsI V7 0 97 (1 : Int32)) fun V7_36 =>
  some ((0 : Int32), V7_36)
def fX12_works_b122 (F : Nat) (k0 : zV → Option (zV)) (V7 : zV) : Option (zV) :=
  k0 V7
def fX12_works_l0 (F : Nat) : Nat → zV → Option (zV)
  | 0, _ => none
  | n + 1, V7 =>
    if (zI V7 0 90) ≤ 0 then (
    some V7)
    else
    if (zI V7 0 89) = 0 then (
    zlet (((zI V7 0 90) - (1 : Int32))) fun y3 =>
    zchk (zix y3 12) <|
    zchk (zix y3 12) <|
    if (zA V7 61 (y3).toNatClampNeg) ≤ (zA V7 60 (y3).toNatClampNeg) then (
    zbd (fX12_nextRule F V7 y3) fun q8 =>
    if q8.1 = 0 then (
    zlet (zsI q8.2 0 90 ((zI q8.2 0 90) - (1 : Int32))) fun V7_11 =>
    fX12_works_b122 F (fX12_works_l0 F n) V7_11)
    else
    fX12_works_b122 F (fX12_works_l0 F n) q8.2)
    else
    if (zI V7 0 88) = (200 : Int32) then (
    zlet (zsI V7 0 89 (1 : Int32)) fun V7_24 =>
    zlet (zsI V7_24 0 70 (1 : Int32)) fun V7_26 =>
    zlet (zsI V7_26 0 90 (0 : Int32)) fun V7_28 =>
    some V7_28)
    else
    zlet (zsI V7 0 88 ((zI V7 0 88) + (1 : Int32))) fun V7_14 =>
    zchk (zix y3 12) <|
    zchk (zix y3 12) <|
    zlet (zsA V7_14 60 (upd (zA V7_14 60) (y3).toNatClampNeg ((zA V7_14 60 (y3).toNatClampNeg) + (1 : Int32)))) fun V7_18 =>
    zchk (zix y3 12) <|
    zchk (zix y3 12) <|
    zbd (fX12_does F V7_18 ((zA V7_18 60 (y3).toNatClampNeg) - (1 : Int32)) (zA V7_18 57 (y3).toNatClampNeg) y3) fun q22 =>
    fX12_works_b122 F (fX12_works_l0 F n) q22)
    else
    some V7
def fX12_works (F : Nat) (V7 : zV) : Option (zV) :=
  fX12_works_l0 F F V7
def fX12_asksBall_b90 (F : Nat) (V7 : zV) (s1 : Int32) : Option (zV) :=
  zlet (zsI V7 0 66 s1) fun V7_1 =>
  if (zI V7_1 0 66) ≤ 0 then (
  some V7_1)
  else
  zbd (fX12_serves F V7_1) fun q4 =>
  some q4
def fX12_asksBall_b62 (F : Nat) (V7 : zV) : Option (zV) :=
  zbd (fX12_offs F V7) fun q6 =>
  zlet (zsI q6 0 71 (0 : Int32)) fun V7_8 =>
  if (zI V7_8 0 66) = (3 : Int32) then (
  fX12_asksBall_b90 F V7_8 (0 : Int32))
  else
  fX12_asksBall_b90 F V7_8 ((zI V7_8 0 66) + (1 : Int32))
def fX12_asksBall_b56 (F : Nat) (k25 : zV → Int32 → Option (zV)) (V7 : zV) (x1 : Int32) : Option (zV) :=
  k25 V7 (x1 + 1)
def fX12_asksBall_l25 (F : Nat) : Nat → zV → Int32 → Option (zV)
  | 0, _, _ => none
  | n + 1, V7, x1 =>
    zbd (fX12_sort F V7 (0 : Int32)) fun q11 =>
    if q11 ≤ x1 then (
    fX12_asksBall_b62 F V7)
    else
    zchk (zix x1 16) <|
    if ((zI V7 0 66) - (1 : Int32)) ≤ (zA V7 48 (x1).toNatClampNeg) then (
    fX12_asksBall_b56 F (fX12_asksBall_l25 F n) V7 x1)
    else
    zchk (zix x1 16) <|
    zlet (zsA V7 47 (upd (zA V7 47) (x1).toNatClampNeg (vp_nar .boolean (1 : Int32)))) fun V7_17 =>
    fX12_asksBall_b56 F (fX12_asksBall_l25 F n) V7_17 x1
def fX12_asksBall (F : Nat) (V7 : zV) : Option (zV) :=
  if (zI V7 0 66) = 0 then (
  some V7)
  else
  if (zI V7 0 67) ≤ 0 then (
  if (zI V7 0 66) ≤ (1 : Int32) then (
  fX12_asksBall_b62 F V7)
  else
  fX12_asksBall_l25 F F V7 (0 : Int32))
  else
  some V7
def fX12_begin_b257 (F : Nat) (V7 : zV) : Option (Int32 × zV) :=
  zbd (fX12_asksBall F V7) fun q1 =>
  some ((1 : Int32), q1)
def fX12_begin_l186 (F : Nat) : Nat → zV → Int32 → Option (Int32 × zV)
  | 0, _, _ => none
  | n + 1, V7, x1 =>
    if (8 : Int32) ≤ x1 then (
    zbd (fX12_orders F V7) fun q4 =>
    zbd (fX12_noBalls F q4) fun q6 =>
    zbd (fX12_serves F q6) fun q8 =>
    zlet (zsI q8 0 88 (0 : Int32)) fun V7_10 =>
    zlet (zsI V7_10 0 89 (0 : Int32)) fun V7_12 =>
    zlet (zsI V7_12 0 90 (0 : Int32)) fun V7_14 =>
    zbd (fX12_sort F V7_14 (7 : Int32)) fun q16 =>
    if q16 ≤ 0 then (
    fX12_begin_b257 F V7_14)
    else
    zbd (fX12_starts F V7_14 (0 : Int32)) fun q19 =>
    zbd (fX12_works F q19) fun q21 =>
    fX12_begin_b257 F q21)
    else
    zchk (zix x1 8) <|
    zlet (zsA V7 53 (upd (zA V7 53) (x1).toNatClampNeg (0 : Int32))) fun V7_24 =>
    zchk (zix x1 8) <|
    zlet (zsA V7_24 54 (upd (zA V7_24 54) (x1).toNatClampNeg (-1 : Int32))) fun V7_27 =>
    fX12_begin_l186 F n V7_27 (x1 + 1)
def fX12_begin_l144 (F : Nat) : Nat → zV → Int32 → Option (Int32 × zV)
  | 0, _, _ => none
  | n + 1, V7, x1 =>
    if (12 : Int32) ≤ x1 then (
    fX12_begin_l186 F F V7 (0 : Int32))
    else
    zchk (zix x1 12) <|
    zlet (zsA V7 49 (upd (zA V7 49) (x1).toNatClampNeg (vp_nar .boolean (0 : Int32)))) fun V7_31 =>
    zchk (zix x1 12) <|
    zlet (zsA V7_31 50 (upd (zA V7_31 50) (x1).toNatClampNeg (0 : Int32))) fun V7_34 =>
    zchk (zix x1 12) <|
    zlet (zsA V7_34 51 (upd (zA V7_34 51) (x1).toNatClampNeg (0 : Int32))) fun V7_37 =>
    zchk (zix x1 12) <|
    zlet (zsA V7_37 52 (upd (zA V7_37 52) (x1).toNatClampNeg (0 : Int32))) fun V7_40 =>
    fX12_begin_l144 F n V7_40 (x1 + 1)
def fX12_begin_l95 (F : Nat) : Nat → zV → Int32 → Option (Int32 × zV)
  | 0, _, _ => none
  | n + 1, V7, x1 =>
    if (16 : Int32) ≤ x1 then (
    fX12_begin_l144 F F V7 (0 : Int32))
    else
    zchk (zix x1 16) <|
    zlet (zsA V7 44 (upd (zA V7 44) (x1).toNatClampNeg (0 : Int32))) fun V7_44 =>
    zchk (zix x1 16) <|
    zlet (zsA V7_44 45 (upd (zA V7_44 45) (x1).toNatClampNeg (0 : Int32))) fun V7_47 =>
    zchk (zix x1 16) <|
    zlet (zsA V7_47 46 (upd (zA V7_47 46) (x1).toNatClampNeg (-1 : Int32))) fun V7_50 =>
    zchk (zix x1 16) <|
    zlet (zsA V7_50 47 (upd (zA V7_50 47) (x1).toNatClampNeg (vp_nar .boolean (0 : Int32)))) fun V7_53 =>
    zchk (zix x1 16) <|
    zlet (zsA V7_53 48 (upd (zA V7_53 48) (x1).toNatClampNeg (0 : Int32))) fun V7_56 =>
    fX12_begin_l95 F n V7_56 (x1 + 1)
def fX12_begin_l61 (F : Nat) : Nat → zV → Int32 → Option (Int32 × zV)
  | 0, _, _ => none
  | n + 1, V7, x1 =>
    if (16 : Int32) ≤ x1 then (
    fX12_begin_l95 F F V7 (0 : Int32))
    else
    zchk (zix (((16 : Int32) * (zI V7 0 18)) + x1) 32) <|
    zchk (zix x1 16) <|
    zlet (zsA V7 43 (upd (zA V7 43) (x1).toNatClampNeg (zA V7 20 ((((16 : Int32) * (zI V7 0 18)) + x1)).toNatClampNeg))) fun V7_61 =>
    fX12_begin_l61 F n V7_61 (x1 + 1)
def fX12_begin (F : Nat) (V7 : zV) : Option (Int32 × zV) :=
  if (zI V7 0 20) = 0 then (
  some ((0 : Int32), V7))
  else
  zlet (zsI V7 0 64 (1 : Int32)) fun V7_64 =>
  zlet (zsL V7_64 0 65 (0 : Int64)) fun V7_66 =>
  zlet (zsI V7_66 0 66 (1 : Int32)) fun V7_68 =>
  zlet (zsI V7_68 0 67 (0 : Int32)) fun V7_70 =>
  zlet (zsI V7_70 0 68 (0 : Int32)) fun V7_72 =>
  zlet (zsI V7_72 0 69 (0 : Int32)) fun V7_74 =>
  zlet (zsI V7_74 0 70 (0 : Int32)) fun V7_76 =>
  zlet (zsI V7_76 0 71 (0 : Int32)) fun V7_78 =>
  zlet (zsI V7_78 0 72 (0 : Int32)) fun V7_80 =>
  zlet (zsI V7_80 0 85 (0 : Int32)) fun V7_82 =>
  fX12_begin_l61 F F V7_82 (0 : Int32)
def fX12_passes_b292 (F : Nat) (V7 : zV) : Option (zV) :=
  zbd (fX12_knows F V7) fun q1 =>
  some q1
def fX12_passes_b274 (F : Nat) (k179 : zV → Int32 → Int32 → Int32 → Option (zV)) (V7 : zV) (x3 : Int32) (x4 : Int32) (x5 : Int32) : Option (zV) :=
  k179 V7 x3 x4 (x5 + 1)
def fX12_passes_l179 (F : Nat) (k165 : zV → Int32 → Int32 → Option (zV)) : Nat → zV → Int32 → Int32 → Int32 → Option (zV)
  | 0, _, _, _, _ => none
  | n + 1, V7, x3, x4, x5 =>
    zbd (fX12_sort F V7 (4 : Int32)) fun q3 =>
    if q3 ≤ x5 then (
    k165 V7 x3 (x4 + 1))
    else
    if (zI V7 0 67) = 0 then (
    zbd (fX12_comes F V7 (0 : Int32)) fun q15 =>
    fX12_passes_b274 F (fX12_passes_l179 F k165 n) q15 x3 x4 x5)
    else
    if (zI V7 0 67) = (1 : Int32) then (
    zbd (fX12_comes F V7 ((1 : Int32) <<< (((2 : Int32) * x3) &&& 31))) fun q13 =>
    fX12_passes_b274 F (fX12_passes_l179 F k165 n) q13 x3 x4 x5)
    else
    if (zI V7 0 67) = (2 : Int32) then (
    zbd (fX12_comes F V7 (((1 : Int32) <<< (((2 : Int32) * x3) &&& 31)) + ((1 : Int32) <<< (((2 : Int32) * x4) &&& 31)))) fun q11 =>
    fX12_passes_b274 F (fX12_passes_l179 F k165 n) q11 x3 x4 x5)
    else
    zbd (fX12_comes F V7 ((((1 : Int32) <<< (((2 : Int32) * x3) &&& 31)) + ((1 : Int32) <<< (((2 : Int32) * x4) &&& 31))) + ((1 : Int32) <<< (((2 : Int32) * x5) &&& 31)))) fun q9 =>
    fX12_passes_b274 F (fX12_passes_l179 F k165 n) q9 x3 x4 x5
def fX12_passes_l165 (F : Nat) (k153 : zV → Int32 → Option (zV)) : Nat → zV → Int32 → Int32 → Option (zV)
  | 0, _, _, _ => none
  | n + 1, V7, x3, x4 =>
    zbd (fX12_sort F V7 (4 : Int32)) fun q17 =>
    if q17 ≤ x4 then (
    k153 V7 (x3 + 1))
    else
    fX12_passes_l179 F (fX12_passes_l165 F k153 n) F V7 x3 x4 x4
def fX12_passes_l153 (F : Nat) : Nat → zV → Int32 → Option (zV)
  | 0, _, _ => none
  | n + 1, V7, x3 =>
    zbd (fX12_sort F V7 (4 : Int32)) fun q20 =>
    if q20 ≤ x3 then (
    fX12_passes_b292 F V7)
    else
    fX12_passes_l165 F (fX12_passes_l153 F n) F V7 x3 x3
def fX12_passes_b123 (F : Nat) (k19 : zV → Int32 → Int32 → Int32 → Option (zV)) (V7 : zV) (x1 : Int32) (x2 : Int32) (x3 : Int32) : Option (zV) :=
  k19 V7 x1 x2 (x3 + 1)
def fX12_passes_b117 (F : Nat) (k54 : zV → Int32 → Int32 → Int32 → Int32 → Option (zV)) (V7 : zV) (x1 : Int32) (x2 : Int32) (x3 : Int32) (x4 : Int32) : Option (zV) :=
  k54 V7 x1 x2 x3 (x4 + 1)
def fX12_passes_l54 (F : Nat) (k19 : zV → Int32 → Int32 → Int32 → Option (zV)) : Nat → zV → Int32 → Int32 → Int32 → Int32 → Option (zV)
  | 0, _, _, _, _, _ => none
  | n + 1, V7, x1, x2, x3, x4 =>
    if (zI V7 0 59) ≤ x4 then (
    fX12_passes_b123 F k19 V7 x1 x2 x3)
    else
    zchk (zix x4 200) <|
    zchk (zix x3 48) <|
    if (((zA V7 40 (x4).toNatClampNeg) >>> (((2 : Int32) * (zA V7 17 (x3).toNatClampNeg)) &&& 31)) &&& (3 : Int32)) ≤ 0 then (
    fX12_passes_b117 F (fX12_passes_l54 F k19 n) V7 x1 x2 x3 x4)
    else
    zchk (zix x4 200) <|
    zchk (zix x3 48) <|
    zchk (zix x3 48) <|
    zbd (fX12_comes F V7 (((zA V7 40 (x4).toNatClampNeg) - ((1 : Int32) <<< (((2 : Int32) * (zA V7 17 (x3).toNatClampNeg)) &&& 31))) + ((1 : Int32) <<< (((2 : Int32) * (zA V7 18 (x3).toNatClampNeg)) &&& 31)))) fun q30 =>
    fX12_passes_b117 F (fX12_passes_l54 F k19 n) q30 x1 x2 x3 x4
def fX12_passes_l19 (F : Nat) : Nat → zV → Int32 → Int32 → Int32 → Option (zV)
  | 0, _, _, _, _ => none
  | n + 1, V7, x1, x2, x3 =>
    zbd (fX12_sort F V7 (5 : Int32)) fun q32 =>
    if (((24 : Int32) * (zI V7 0 18)) + q32) ≤ x3 then (
    if x2 = 0 then (
    some V7)
    else
    if (zI V7 0 61) = 0 then (
    zlet (zsI V7 0 69 ((zI V7 0 69) + (1 : Int32))) fun V7_37 =>
    fX12_passes_l153 F F V7_37 (0 : Int32))
    else
    fX12_passes_b292 F V7)
    else
    zchk (zix x3 48) <|
    if (zA V7 19 (x3).toNatClampNeg) = x1 then (
    fX12_passes_l54 F (fX12_passes_l19 F n) F V7 x1 (1 : Int32) x3 (0 : Int32))
    else
    fX12_passes_b123 F (fX12_passes_l19 F n) V7 x1 x2 x3
def fX12_passes (F : Nat) (V7 : zV) (x1 : Int32) : Option (zV) :=
  zbd (fX12_sort F V7 (4 : Int32)) fun q41 =>
  if q41 = 0 then (
  some V7)
  else
  zlet (((24 : Int32) * (zI V7 0 18))) fun y44 =>
  fX12_passes_l19 F F V7 x1 (0 : Int32) y44
def fX12_remembers_l2 (F : Nat) : Nat → zV → Int32 → Option (zV)
  | 0, _, _ => none
  | n + 1, V7, x1 =>
    if (12 : Int32) ≤ x1 then (
    zlet (zsI V7 0 88 (0 : Int32)) fun V7_2 =>
    zlet (zsI V7_2 0 89 (0 : Int32)) fun V7_4 =>
    zlet (zsI V7_4 0 97 (0 : Int32)) fun V7_6 =>
    zlet (zsI V7_6 0 90 (0 : Int32)) fun V7_8 =>
    some V7_8)
    else
    zchk (zix x1 12) <|
    zchk (zix x1 12) <|
    zlet (zsA V7 64 (upd (zA V7 64) (x1).toNatClampNeg (vp_nar .boolean (zA V7 49 (x1).toNatClampNeg)))) fun V7_12 =>
    zchk (zix x1 12) <|
    zchk (zix x1 12) <|
    zlet (zsA V7_12 65 (upd (zA V7_12 65) (x1).toNatClampNeg (zA V7_12 52 (x1).toNatClampNeg))) fun V7_16 =>
    fX12_remembers_l2 F n V7_16 (x1 + 1)
def fX12_remembers (F : Nat) (V7 : zV) : Option (zV) :=
  fX12_remembers_l2 F F V7 (0 : Int32)
def fX12_press_b226 (F : Nat) (V7 : zV) : Option (Int32 × zV) :=
  zbd (fX12_asksBall F V7) fun q1 =>
  some ((1 : Int32), q1)
def fX12_press_b220 (F : Nat) (k147 : zV → Int32 → Int32 → Option (Int32 × zV)) (V7 : zV) (x1 : Int32) (x2 : Int32) : Option (Int32 × zV) :=
  k147 V7 x1 (x2 + 1)
def fX12_press_l147 (F : Nat) : Nat → zV → Int32 → Int32 → Option (Int32 × zV)
  | 0, _, _, _ => none
  | n + 1, V7, x1, x2 =>
    zbd (fX12_sort F V7 (7 : Int32)) fun q3 =>
    if q3 ≤ x2 then (
    fX12_press_b226 F V7)
    else
    if (zI V7 0 97) = 0 then (
    if (zI V7 0 89) = 0 then (
    zchk (zix x2 12) <|
    zlet ((zA V7 56 (x2).toNatClampNeg)) fun y9 =>
    zchk (zix y9 12) <|
    if (zA V7 64 (y9).toNatClampNeg) = 0 then (
    fX12_press_b220 F (fX12_press_l147 F n) V7 x1 x2)
    else
    zchk (zix y9 12) <|
    zchk (zix y9 12) <|
    if (zA V7 52 (y9).toNatClampNeg) = (zA V7 65 (y9).toNatClampNeg) then (
    zlet (zsI V7 0 99 (0 : Int32)) fun V7_16 =>
    zbd (fX12_frame F V7_16 y9 x1) fun q18 =>
    zbd (fX12_works F q18) fun q20 =>
    fX12_press_b220 F (fX12_press_l147 F n) q20 x1 x2)
    else
    fX12_press_b220 F (fX12_press_l147 F n) V7 x1 x2)
    else
    fX12_press_b226 F V7)
    else
    fX12_press_b226 F V7
def fX12_press_b99 (F : Nat) (V7 : zV) (x1 : Int32) : Option (Int32 × zV) :=
  zchk (zix x1 16) <|
  zchk (zix x1 16) <|
  zlet (zsA V7 44 (upd (zA V7 44) (x1).toNatClampNeg ((zA V7 44 (x1).toNatClampNeg) + (1 : Int32)))) fun V7_24 =>
  zchk (zix x1 16) <|
  zlet (zsA V7_24 46 (upd (zA V7_24 46) (x1).toNatClampNeg (zI V7_24 0 68))) fun V7_27 =>
  zchk (zix x1 16) <|
  zlet (zsA V7_27 48 (upd (zA V7_27 48) (x1).toNatClampNeg (zI V7_27 0 66))) fun V7_30 =>
  zchk (zix x1 16) <|
  zlet (zsA V7_30 47 (upd (zA V7_30 47) (x1).toNatClampNeg (vp_nar .boolean (0 : Int32)))) fun V7_33 =>
  zbd (fX12_passes F V7_33 x1) fun q35 =>
  zbd (fX12_remembers F q35) fun q37 =>
  fX12_press_l147 F F q37 x1 (0 : Int32)
def fX12_press (F : Nat) (V7 : zV) (x1 : Int32) : Option (Int32 × zV) :=
  if x1 < 0 then (
  some ((-1 : Int32), V7))
  else
  if (zI V7 0 64) = 0 then (
  some ((-1 : Int32), V7))
  else
  zbd (fX12_sort F V7 (0 : Int32)) fun q41 =>
  if q41 ≤ x1 then (
  some ((-1 : Int32), V7))
  else
  if (zI V7 0 72) = (600 : Int32) then (
  some ((-1 : Int32), V7))
  else
  zlet (zsI V7 0 72 ((zI V7 0 72) + (1 : Int32))) fun V7_45 =>
  zchk (zix x1 16) <|
  zchk (zix x1 16) <|
  zlet (zsA V7_45 45 (upd (zA V7_45 45) (x1).toNatClampNeg ((zA V7_45 45 (x1).toNatClampNeg) + (1 : Int32)))) fun V7_49 =>
  if (zI V7_49 0 66) = 0 then (
  some ((0 : Int32), V7_49))
  else
  zchk (zix x1 16) <|
  if (zA V7_49 46 (x1).toNatClampNeg) = (-1 : Int32) then (
  fX12_press_b99 F V7_49 x1)
  else
  zchk (zix x1 16) <|
  zchk (zix (((16 : Int32) * (zI V7_49 0 18)) + x1) 32) <|
  if (zA V7_49 12 ((((16 : Int32) * (zI V7_49 0 18)) + x1)).toNatClampNeg) ≤ ((zI V7_49 0 68) - (zA V7_49 46 (x1).toNatClampNeg)) then (
  fX12_press_b99 F V7_49 x1)
  else
  some ((0 : Int32), V7_49)
def fX12_oneTick_b120 (F : Nat) (k23 : zV → Int32 → Option (zV)) (V7 : zV) (x1 : Int32) : Option (zV) :=
  k23 V7 (x1 + 1)
def fX12_oneTick_l23 (F : Nat) : Nat → zV → Int32 → Option (zV)
  | 0, _, _ => none
  | n + 1, V7, x1 =>
    zbd (fX12_sort F V7 (7 : Int32)) fun q1 =>
    if q1 ≤ x1 then (
    zbd (fX12_asksBall F V7) fun q4 =>
    some q4)
    else
    zchk (zix x1 12) <|
    zlet ((zA V7 56 (x1).toNatClampNeg)) fun y7 =>
    zchk (zix y7 12) <|
    if (zA V7 64 (y7).toNatClampNeg) = 0 then (
    fX12_oneTick_b120 F (fX12_oneTick_l23 F n) V7 x1)
    else
    zchk (zix y7 12) <|
    zchk (zix y7 12) <|
    if (zA V7 52 (y7).toNatClampNeg) = (zA V7 65 (y7).toNatClampNeg) then (
    zchk (zix (((12 : Int32) * (zI V7 0 18)) + y7) 24) <|
    if (zA V7 22 ((((12 : Int32) * (zI V7 0 18)) + y7)).toNatClampNeg) = 0 then (
    fX12_oneTick_b120 F (fX12_oneTick_l23 F n) V7 x1)
    else
    zchk (zix y7 12) <|
    zchk (zix y7 12) <|
    zlet (zsA V7 50 (upd (zA V7 50) (y7).toNatClampNeg ((zA V7 50 (y7).toNatClampNeg) - (1 : Int32)))) fun V7_18 =>
    zchk (zix y7 12) <|
    if (zA V7_18 50 (y7).toNatClampNeg) ≤ 0 then (
    zbd (fX12_leaves F V7_18 y7) fun q22 =>
    zbd (fX12_works F q22) fun q24 =>
    zlet (zsI q24 0 90 (0 : Int32)) fun V7_26 =>
    fX12_oneTick_b120 F (fX12_oneTick_l23 F n) V7_26 x1)
    else
    fX12_oneTick_b120 F (fX12_oneTick_l23 F n) V7_18 x1)
    else
    fX12_oneTick_b120 F (fX12_oneTick_l23 F n) V7 x1
def fX12_oneTick (F : Nat) (V7 : zV) : Option (zV) :=
  zlet (zsI V7 0 68 ((zI V7 0 68) + (1 : Int32))) fun V7_28 =>
  zbd (fX12_remembers F V7_28) fun q30 =>
  if (zI q30 0 66) ≤ 0 then (
  some q30)
  else
  fX12_oneTick_l23 F F q30 (0 : Int32)
def fX12_fires_b212 (F : Nat) (k6 : zV → Int32 → Int32 → Int32 → Option (Int32 × zV)) (V7 : zV) (x1 : Int32) (x2 : Int32) (x3 : Int32) : Option (Int32 × zV) :=
  k6 V7 x1 x2 (x3 + 1)
def fX12_fires_b162 (F : Nat) (k79 : zV → Int32 → Int32 → Int32 → Int32 → Int32 → Int32 → Option (Int32 × zV)) (V7 : zV) (x1 : Int32) (x2 : Int32) (x3 : Int32) (x4 : Int32) (x5 : Int32) (x6 : Int32) : Option (Int32 × zV) :=
  k79 V7 x1 x2 x3 x4 x5 (x6 + 1)
def fX12_fires_b159 (F : Nat) (k79 : zV → Int32 → Int32 → Int32 → Int32 → Int32 → Int32 → Option (Int32 × zV)) (V7 : zV) (x1 : Int32) (x2 : Int32) (x3 : Int32) (x4 : Int32) (x6 : Int32) : Option (Int32 × zV) :=
  fX12_fires_b162 F k79 V7 x1 x2 x3 x4 (0 : Int32) x6
def fX12_fires_b128 (F : Nat) (k79 : zV → Int32 → Int32 → Int32 → Int32 → Int32 → Int32 → Option (Int32 × zV)) (V7 : zV) (x1 : Int32) (x2 : Int32) (x3 : Int32) (x4 : Int32) (x5 : Int32) (x6 : Int32) : Option (Int32 × zV) :=
  zchk (zix x6 16) <|
  if (zA V7 15 (x6).toNatClampNeg) = x4 then (
  zchk (zix x6 16) <|
  zchk (zix (zA V7 14 (x6).toNatClampNeg) 8) <|
  if (zA V7 54 ((zA V7 14 (x6).toNatClampNeg)).toNatClampNeg) = (zI V7 0 68) then (
  fX12_fires_b159 F k79 V7 x1 x2 x3 x4 x6)
  else
  fX12_fires_b162 F k79 V7 x1 x2 x3 x4 x5 x6)
  else
  fX12_fires_b162 F k79 V7 x1 x2 x3 x4 x5 x6
def fX12_fires_l79 (F : Nat) (k6 : zV → Int32 → Int32 → Int32 → Option (Int32 × zV)) : Nat → zV → Int32 → Int32 → Int32 → Int32 → Int32 → Int32 → Option (Int32 × zV)
  | 0, _, _, _, _, _, _, _ => none
  | n + 1, V7, x1, x2, x3, x4, x5, x6 =>
    zbd (fX12_sort F V7 (2 : Int32)) fun q6 =>
    if (((8 : Int32) * (zI V7 0 18)) + q6) ≤ x6 then (
    if x5 = 0 then (
    zchk (zix x2 8) <|
    zlet (zsA V7 55 (upd (zA V7 55) (x2).toNatClampNeg x4)) fun V7_11 =>
    fX12_fires_b212 F k6 V7_11 x1 (x2 + 1) x3)
    else
    zchk (zix x4 8) <|
    zchk (zix x4 8) <|
    zlet (zsA V7 53 (upd (zA V7 53) (x4).toNatClampNeg ((zA V7 53 (x4).toNatClampNeg) + (1 : Int32)))) fun V7_15 =>
    zchk (zix x4 8) <|
    zlet (zsA V7_15 54 (upd (zA V7_15 54) (x4).toNatClampNeg (zI V7_15 0 68))) fun V7_18 =>
    fX12_fires_b212 F k6 V7_18 (x1 + 1) x2 x3)
    else
    zchk (zix x6 16) <|
    if (zA V7 14 (x6).toNatClampNeg) = x4 then (
    zchk (zix x6 16) <|
    zchk (zix (zA V7 15 (x6).toNatClampNeg) 8) <|
    if (zA V7 54 ((zA V7 15 (x6).toNatClampNeg)).toNatClampNeg) = (zI V7 0 68) then (
    fX12_fires_b159 F (fX12_fires_l79 F k6 n) V7 x1 x2 x3 x4 x6)
    else
    fX12_fires_b128 F (fX12_fires_l79 F k6 n) V7 x1 x2 x3 x4 x5 x6)
    else
    fX12_fires_b128 F (fX12_fires_l79 F k6 n) V7 x1 x2 x3 x4 x5 x6
def fX12_fires_b68 (F : Nat) (k6 : zV → Int32 → Int32 → Int32 → Option (Int32 × zV)) (V7 : zV) (x1 : Int32) (x2 : Int32) (x3 : Int32) (x4 : Int32) (s0 : Int32) : Option (Int32 × zV) :=
  zlet (((8 : Int32) * (zI V7 0 18))) fun y25 =>
  fX12_fires_l79 F k6 F V7 x1 x2 x3 x4 s0 y25
def fX12_fires_b63 (F : Nat) (k6 : zV → Int32 → Int32 → Int32 → Option (Int32 × zV)) (V7 : zV) (x1 : Int32) (x2 : Int32) (x3 : Int32) (x4 : Int32) : Option (Int32 × zV) :=
  fX12_fires_b68 F k6 V7 x1 x2 x3 x4 (1 : Int32)
def fX12_fires_l6 (F : Nat) : Nat → zV → Int32 → Int32 → Int32 → Option (Int32 × zV)
  | 0, _, _, _, _ => none
  | n + 1, V7, x1, x2, x3 =>
    if (zI V7 0 85) ≤ x3 then (
    zlet (zsI V7 0 85 x2) fun V7_28 =>
    some (x1, V7_28))
    else
    zchk (zix x3 8) <|
    zlet ((zA V7 55 (x3).toNatClampNeg)) fun y31 =>
    zchk (zix y31 8) <|
    if (zA V7 54 (y31).toNatClampNeg) = (-1 : Int32) then (
    fX12_fires_b63 F (fX12_fires_l6 F n) V7 x1 x2 x3 y31)
    else
    zchk (zix y31 8) <|
    zchk (zix (((8 : Int32) * (zI V7 0 18)) + y31) 16) <|
    if ((zI V7 0 68) - (zA V7 54 (y31).toNatClampNeg)) < (zA V7 13 ((((8 : Int32) * (zI V7 0 18)) + y31)).toNatClampNeg) then (
    fX12_fires_b68 F (fX12_fires_l6 F n) V7 x1 x2 x3 y31 (0 : Int32))
    else
    fX12_fires_b63 F (fX12_fires_l6 F n) V7 x1 x2 x3 y31
def fX12_fires (F : Nat) (V7 : zV) : Option (Int32 × zV) :=
  fX12_fires_l6 F F V7 (0 : Int32) (0 : Int32) (0 : Int32)
def fX12_ticks_l36 (F : Nat) : Nat → zV → Int32 → Int32 → Int32 → Option (Int32 × zV)
  | 0, _, _, _, _ => none
  | n + 1, V7, x1, x2, x3 =>
    if x1 ≤ x3 then (
    some (x2, V7))
    else
    zbd (fX12_oneTick F V7) fun q2 =>
    zbd (fX12_fires F q2) fun q4 =>
    fX12_ticks_l36 F n q4.2 x1 (x2 + q4.1) (x3 + 1)
def fX12_ticks (F : Nat) (V7 : zV) (x1 : Int32) : Option (Int32 × zV) :=
  if (zI V7 0 64) = 0 then (
  some ((-1 : Int32), V7))
  else
  if x1 < (1 : Int32) then (
  some ((-1 : Int32), V7))
  else
  if (100 : Int32) < x1 then (
  some ((-1 : Int32), V7))
  else
  if ((zI V7 0 68) + x1) ≤ (5000 : Int32) then (
  fX12_ticks_l36 F F V7 x1 (0 : Int32) (0 : Int32))
  else
  some ((-1 : Int32), V7)
def fX12_score (F : Nat) (V7 : zV) : Option (Int64) :=
  if (zI V7 0 64) = 0 then (
  some (-1 : Int64))
  else
  some (zL V7 0 65)
def fX12_told (F : Nat) (V7 : zV) (x1 : Int32) (x2 : Int32) : Option (Int32) :=
  if (zI V7 0 20) = 0 then (
  some (-1 : Int32))
  else
  if x1 < 0 then (
  some (-1 : Int32))
  else
  zbd (fX12_sort F V7 (0 : Int32)) fun q3 =>
  if x1 < q3 then (
  if x2 = (3 : Int32) then (
  zchk (zix (((16 : Int32) * (zI V7 0 18)) + x1) 32) <|
  some (zA V7 12 ((((16 : Int32) * (zI V7 0 18)) + x1)).toNatClampNeg))
  else
  if (zI V7 0 64) = 0 then (
  some (-1 : Int32))
  else
  if x2 = (0 : Int32) then (
  zchk (zix x1 16) <|
  some (zA V7 44 (x1).toNatClampNeg))
  else
  if x2 = (1 : Int32) then (
  zchk (zix x1 16) <|
  some (zA V7 45 (x1).toNatClampNeg))
  else
  if x2 = (2 : Int32) then (
  zchk (zix x1 16) <|
  if (zA V7 47 (x1).toNatClampNeg) = 0 then (
  some (0 : Int32))
  else
  some (1 : Int32))
  else
  some (-1 : Int32))
  else
  some (-1 : Int32)
def fX12_coil_l64 (F : Nat) : Nat → zV → Int32 → Int32 → Option (Int32)
  | 0, _, _, _ => none
  | n + 1, V7, x1, x3 =>
    if (zI V7 0 85) ≤ x3 then (
    some (-1 : Int32))
    else
    zchk (zix x3 8) <|
    if (zA V7 55 (x3).toNatClampNeg) = x1 then (
    some x3)
    else
    fX12_coil_l64 F n V7 x1 (x3 + 1)
def fX12_coil (F : Nat) (V7 : zV) (x1 : Int32) (x2 : Int32) : Option (Int32) :=
  if (zI V7 0 64) = 0 then (
  some (-1 : Int32))
  else
  if x1 < 0 then (
  some (-1 : Int32))
  else
  zbd (fX12_sort F V7 (1 : Int32)) fun q6 =>
  if x1 < q6 then (
  if x2 = (0 : Int32) then (
  zchk (zix x1 8) <|
  some (zA V7 53 (x1).toNatClampNeg))
  else
  if x2 = (1 : Int32) then (
  zchk (zix x1 8) <|
  some (zA V7 54 (x1).toNatClampNeg))
  else
  if x2 = (2 : Int32) then (
  fX12_coil_l64 F F V7 x1 (0 : Int32))
  else
  some (-1 : Int32))
  else
  some (-1 : Int32)
def fX12_lamp_b272 (F : Nat) (k55 : zV → Int32 → Int32 → Option (Int32 × zV)) (V7 : zV) (x2 : Int32) (x3 : Int32) : Option (Int32 × zV) :=
  k55 V7 x2 (x3 + 1)
def fX12_lamp_b266 (F : Nat) (k103 : zV → Int32 → Int32 → Int32 → Int32 → Option (Int32 × zV)) (V7 : zV) (x2 : Int32) (x3 : Int32) (x4 : Int32) (x5 : Int32) : Option (Int32 × zV) :=
  k103 V7 x2 x3 x4 (x5 + 1)
def fX12_lamp_b253 (F : Nat) (k178 : zV → Int32 → Int32 → Int32 → Int32 → Int32 → Int32 → Option (Int32 × zV)) (V7 : zV) (x2 : Int32) (x3 : Int32) (x4 : Int32) (x5 : Int32) (x6 : Int32) (x7 : Int32) : Option (Int32 × zV) :=
  k178 V7 x2 x3 x4 x5 x6 (x7 + 1)
def fX12_lamp_l178 (F : Nat) (k103 : zV → Int32 → Int32 → Int32 → Int32 → Option (Int32 × zV)) : Nat → zV → Int32 → Int32 → Int32 → Int32 → Int32 → Int32 → Option (Int32 × zV)
  | 0, _, _, _, _, _, _, _ => none
  | n + 1, V7, x2, x3, x4, x5, x6, x7 =>
    zchk (zix ((((81 : Int32) * (zI V7 0 18)) + x5) + (1 : Int32)) 162) <|
    if (zA V7 26 (((((81 : Int32) * (zI V7 0 18)) + x5) + (1 : Int32))).toNatClampNeg) ≤ x7 then (
    if x6 = 0 then (
    fX12_lamp_b266 F k103 V7 x2 x3 x4 x5)
    else
    some ((0 : Int32), V7))
    else
    zchk (zix x7 2000) <|
    if (zA V7 31 (x7).toNatClampNeg) = (35 : Int32) then (
    some ((1 : Int32), V7))
    else
    zchk (zix x7 2000) <|
    if (zA V7 31 (x7).toNatClampNeg) = (37 : Int32) then (
    some ((1 : Int32), V7))
    else
    zchk (zix x7 2000) <|
    if (zA V7 31 (x7).toNatClampNeg) = (42 : Int32) then (
    some ((1 : Int32), V7))
    else
    zchk (zix x7 2000) <|
    if (zA V7 31 (x7).toNatClampNeg) = (40 : Int32) then (
    fX12_lamp_b253 F (fX12_lamp_l178 F k103 n) V7 x2 x3 x4 x5 (1 : Int32) x7)
    else
    fX12_lamp_b253 F (fX12_lamp_l178 F k103 n) V7 x2 x3 x4 x5 x6 x7
def fX12_lamp_l103 (F : Nat) (k55 : zV → Int32 → Int32 → Option (Int32 × zV)) : Nat → zV → Int32 → Int32 → Int32 → Int32 → Option (Int32 × zV)
  | 0, _, _, _, _, _ => none
  | n + 1, V7, x2, x3, x4, x5 =>
    zchk (zix ((((13 : Int32) * (zI V7 0 18)) + x4) + (1 : Int32)) 26) <|
    if (zA V7 23 (((((13 : Int32) * (zI V7 0 18)) + x4) + (1 : Int32))).toNatClampNeg) ≤ x5 then (
    fX12_lamp_b272 F k55 V7 x2 x3)
    else
    zchk (zix (((80 : Int32) * (zI V7 0 18)) + x5) 160) <|
    if (zA V7 24 ((((80 : Int32) * (zI V7 0 18)) + x5)).toNatClampNeg) = x2 then (
    zbd (fX12_holds F V7 x5 x4) fun q16 =>
    if q16.1 = 0 then (
    fX12_lamp_b266 F (fX12_lamp_l103 F k55 n) q16.2 x2 x3 x4 x5)
    else
    zchk (zix (((81 : Int32) * (zI q16.2 0 18)) + x5) 162) <|
    zlet ((zA q16.2 26 ((((81 : Int32) * (zI q16.2 0 18)) + x5)).toNatClampNeg)) fun y20 =>
    fX12_lamp_l178 F (fX12_lamp_l103 F k55 n) F q16.2 x2 x3 x4 x5 (0 : Int32) y20)
    else
    fX12_lamp_b266 F (fX12_lamp_l103 F k55 n) V7 x2 x3 x4 x5
def fX12_lamp_l55 (F : Nat) : Nat → zV → Int32 → Int32 → Option (Int32 × zV)
  | 0, _, _, _ => none
  | n + 1, V7, x2, x3 =>
    zbd (fX12_sort F V7 (7 : Int32)) fun q22 =>
    if q22 ≤ x3 then (
    some ((0 : Int32), V7))
    else
    zchk (zix x3 12) <|
    zlet ((zA V7 56 (x3).toNatClampNeg)) fun y26 =>
    zchk (zix y26 12) <|
    if (zA V7 49 (y26).toNatClampNeg) = 0 then (
    fX12_lamp_b272 F (fX12_lamp_l55 F n) V7 x2 x3)
    else
    zchk (zix (((13 : Int32) * (zI V7 0 18)) + y26) 26) <|
    zlet ((zA V7 23 ((((13 : Int32) * (zI V7 0 18)) + y26)).toNatClampNeg)) fun y31 =>
    fX12_lamp_l103 F (fX12_lamp_l55 F n) F V7 x2 x3 y26 y31
def fX12_lamp (F : Nat) (V7 : zV) (x1 : Int32) : Option (Int32 × zV) :=
  if (zI V7 0 64) = 0 then (
  some ((-1 : Int32), V7))
  else
  if x1 < 0 then (
  some ((-1 : Int32), V7))
  else
  zbd (fX12_sort F V7 (3 : Int32)) fun q35 =>
  if x1 < q35 then (
  if (zI V7 0 66) = 0 then (
  some ((0 : Int32), V7))
  else
  if (zI V7 0 71) = 0 then (
  zchk (zix (((16 : Int32) * (zI V7 0 18)) + x1) 32) <|
  zlet ((zA V7 16 ((((16 : Int32) * (zI V7 0 18)) + x1)).toNatClampNeg)) fun y41 =>
  fX12_lamp_l55 F F V7 y41 (0 : Int32))
  else
  some ((0 : Int32), V7))
  else
  some ((-1 : Int32), V7)
def fX12_value (F : Nat) (V7 : zV) (x1 : Int32) : Option (Int32) :=
  if (zI V7 0 64) = 0 then (
  some (0 : Int32))
  else
  if x1 < 0 then (
  some (0 : Int32))
  else
  zbd (fX12_sort F V7 (6 : Int32)) fun q3 =>
  if q3 ≤ x1 then (
  some (0 : Int32))
  else
  zchk (zix x1 16) <|
  some (zA V7 43 (x1).toNatClampNeg)
def fX12_mode (F : Nat) (V7 : zV) (x1 : Int32) (x2 : Int32) : Option (Int32) :=
  if (zI V7 0 20) = 0 then (
  some (-1 : Int32))
  else
  if x1 < 0 then (
  some (-1 : Int32))
  else
  zbd (fX12_sort F V7 (7 : Int32)) fun q3 =>
  if x1 < q3 then (
  if x2 = (3 : Int32) then (
  zchk (zix (((12 : Int32) * (zI V7 0 18)) + x1) 24) <|
  some (zA V7 21 ((((12 : Int32) * (zI V7 0 18)) + x1)).toNatClampNeg))
  else
  if (zI V7 0 64) = 0 then (
  some (-1 : Int32))
  else
  if x2 = (0 : Int32) then (
  zchk (zix x1 12) <|
  if (zA V7 49 (x1).toNatClampNeg) = 0 then (
  some (0 : Int32))
  else
  some (1 : Int32))
  else
  if x2 = (1 : Int32) then (
  zchk (zix x1 12) <|
  some (zA V7 50 (x1).toNatClampNeg))
  else
  if x2 = (2 : Int32) then (
  zchk (zix x1 12) <|
  some (zA V7 51 (x1).toNatClampNeg))
  else
  some (-1 : Int32))
  else
  some (-1 : Int32)
def fX12_balls_b78 (F : Nat) (k27 : zV → Int32 → Int32 → Int32 → Int32 → Option (Int32)) (V7 : zV) (x1 : Int32) (x2 : Int32) (x3 : Int32) (x4 : Int32) : Option (Int32) :=
  k27 V7 x1 x2 x3 (x4 + 1)
def fX12_balls_b75 (F : Nat) (k27 : zV → Int32 → Int32 → Int32 → Int32 → Option (Int32)) (V7 : zV) (x1 : Int32) (x2 : Int32) (x4 : Int32) (x5 : Int32) : Option (Int32) :=
  fX12_balls_b78 F k27 V7 x1 x2 x5 x4
def fX12_balls_l27 (F : Nat) : Nat → zV → Int32 → Int32 → Int32 → Int32 → Option (Int32)
  | 0, _, _, _, _, _ => none
  | n + 1, V7, x1, x2, x3, x4 =>
    if (zI V7 0 59) ≤ x4 then (
    some x3)
    else
    zchk (zix x4 200) <|
    zlet ((((zA V7 40 (x4).toNatClampNeg) >>> (((2 : Int32) * x1) &&& 31)) &&& (3 : Int32))) fun y3 =>
    if x3 = (-1 : Int32) then (
    fX12_balls_b75 F (fX12_balls_l27 F n) V7 x1 x2 x4 y3)
    else
    if x2 = 0 then (
    if x3 ≤ y3 then (
    fX12_balls_b78 F (fX12_balls_l27 F n) V7 x1 x2 x3 x4)
    else
    fX12_balls_b75 F (fX12_balls_l27 F n) V7 x1 x2 x4 y3)
    else
    if y3 ≤ x3 then (
    fX12_balls_b78 F (fX12_balls_l27 F n) V7 x1 x2 x3 x4)
    else
    fX12_balls_b75 F (fX12_balls_l27 F n) V7 x1 x2 x4 y3
def fX12_balls (F : Nat) (V7 : zV) (x1 : Int32) (x2 : Int32) : Option (Int32) :=
  if (zI V7 0 64) = 0 then (
  some (-1 : Int32))
  else
  if x1 < 0 then (
  some (-1 : Int32))
  else
  zbd (fX12_sort F V7 (4 : Int32)) fun q11 =>
  if x1 < q11 then (
  fX12_balls_l27 F F V7 x1 x2 (-1 : Int32) (0 : Int32))
  else
  some (-1 : Int32)
def fX12_again (F : Nat) (V7 : zV) : Option (Int64) :=
  if (zI V7 0 64) = 0 then (
  some (-1 : Int64))
  else
  some (zL V7 0 65)
def fX12_leadsOn_b146 (F : Nat) (k15 : zV → Int32 → Int32 → Int32 → Option (zV)) (V7 : zV) (x1 : Int32) (x2 : Int32) (x3 : Int32) : Option (zV) :=
  k15 V7 x1 x2 (x3 + 1)
def fX12_leadsOn_b140 (F : Nat) (k72 : zV → Int32 → Int32 → Int32 → Int32 → Option (zV)) (V7 : zV) (x1 : Int32) (x2 : Int32) (x3 : Int32) (x4 : Int32) : Option (zV) :=
  k72 V7 x1 x2 x3 (x4 + 1)
def fX12_leadsOn_b118 (F : Nat) (k72 : zV → Int32 → Int32 → Int32 → Int32 → Option (zV)) (V7 : zV) (x1 : Int32) (x2 : Int32) (x3 : Int32) (x4 : Int32) : Option (zV) :=
  zchk (zix x4 2000) <|
  if (zA V7 31 (x4).toNatClampNeg) = (38 : Int32) then (
  zchk (zix ((12 : Int32) + x1) 24) <|
  zlet (zsA V7 66 (upd (zA V7 66) (((12 : Int32) + x1)).toNatClampNeg (vp_nar .boolean (1 : Int32)))) fun V7_4 =>
  fX12_leadsOn_b140 F k72 V7_4 x1 x2 x3 x4)
  else
  fX12_leadsOn_b140 F k72 V7 x1 x2 x3 x4
def fX12_leadsOn_l72 (F : Nat) (k15 : zV → Int32 → Int32 → Int32 → Option (zV)) : Nat → zV → Int32 → Int32 → Int32 → Int32 → Option (zV)
  | 0, _, _, _, _, _ => none
  | n + 1, V7, x1, x2, x3, x4 =>
    zchk (zix ((((81 : Int32) * (zI V7 0 18)) + x3) + (1 : Int32)) 162) <|
    if (zA V7 26 (((((81 : Int32) * (zI V7 0 18)) + x3) + (1 : Int32))).toNatClampNeg) ≤ x4 then (
    fX12_leadsOn_b146 F k15 V7 x1 x2 x3)
    else
    zchk (zix x4 2000) <|
    if (zA V7 31 (x4).toNatClampNeg) = (37 : Int32) then (
    zchk (zix x4 2000) <|
    zchk (zix (zA V7 32 (x4).toNatClampNeg) 24) <|
    zlet (zsA V7 66 (upd (zA V7 66) ((zA V7 32 (x4).toNatClampNeg)).toNatClampNeg (vp_nar .boolean (1 : Int32)))) fun V7_12 =>
    fX12_leadsOn_b118 F (fX12_leadsOn_l72 F k15 n) V7_12 x1 x2 x3 x4)
    else
    fX12_leadsOn_b118 F (fX12_leadsOn_l72 F k15 n) V7 x1 x2 x3 x4
def fX12_leadsOn_l15 (F : Nat) : Nat → zV → Int32 → Int32 → Int32 → Option (zV)
  | 0, _, _, _, _ => none
  | n + 1, V7, x1, x2, x3 =>
    zchk (zix ((((13 : Int32) * (zI V7 0 18)) + x1) + (1 : Int32)) 26) <|
    if (zA V7 23 (((((13 : Int32) * (zI V7 0 18)) + x1) + (1 : Int32))).toNatClampNeg) ≤ x3 then (
    some V7)
    else
    zchk (zix (((80 : Int32) * (zI V7 0 18)) + x3) 160) <|
    if (zA V7 24 ((((80 : Int32) * (zI V7 0 18)) + x3)).toNatClampNeg) = x2 then (
    zchk (zix (((81 : Int32) * (zI V7 0 18)) + x3) 162) <|
    zlet ((zA V7 26 ((((81 : Int32) * (zI V7 0 18)) + x3)).toNatClampNeg)) fun y19 =>
    fX12_leadsOn_l72 F (fX12_leadsOn_l15 F n) F V7 x1 x2 x3 y19)
    else
    fX12_leadsOn_b146 F (fX12_leadsOn_l15 F n) V7 x1 x2 x3
def fX12_leadsOn (F : Nat) (V7 : zV) (x1 : Int32) (x2 : Int32) : Option (zV) :=
  zchk (zix (((13 : Int32) * (zI V7 0 18)) + x1) 26) <|
  zlet ((zA V7 23 ((((13 : Int32) * (zI V7 0 18)) + x1)).toNatClampNeg)) fun y22 =>
  fX12_leadsOn_l15 F F V7 x1 x2 y22
def fX12_comesBack_b126 (F : Nat) (k31 : zV → Int32 → Int32 → Int32 → Option (Int32 × zV)) (V7 : zV) (x1 : Int32) (x4 : Int32) (s0 : Int32) : Option (Int32 × zV) :=
  k31 V7 x1 s0 x4
def fX12_comesBack_b109 (F : Nat) (k89 : zV → Int32 → Int32 → Int32 → Int32 → Option (Int32 × zV)) (V7 : zV) (x1 : Int32) (x3 : Int32) (x4 : Int32) (x5 : Int32) : Option (Int32 × zV) :=
  k89 V7 x1 x3 x4 (x5 + 1)
def fX12_comesBack_l89 (F : Nat) (k31 : zV → Int32 → Int32 → Int32 → Option (Int32 × zV)) : Nat → zV → Int32 → Int32 → Int32 → Int32 → Option (Int32 × zV)
  | 0, _, _, _, _, _ => none
  | n + 1, V7, x1, x3, x4, x5 =>
    if (24 : Int32) ≤ x5 then (
    if x4 ≤ x3 then (
    fX12_comesBack_b126 F k31 V7 x1 x4 (0 : Int32))
    else
    fX12_comesBack_b126 F k31 V7 x1 x4 (1 : Int32))
    else
    zchk (zix x5 24) <|
    if (zA V7 66 (x5).toNatClampNeg) = 0 then (
    fX12_comesBack_b109 F (fX12_comesBack_l89 F k31 n) V7 x1 x3 x4 x5)
    else
    fX12_comesBack_b109 F (fX12_comesBack_l89 F k31 n) V7 x1 x3 (x4 + 1) x5
def fX12_comesBack_b77 (F : Nat) (k38 : zV → Int32 → Int32 → Int32 → Option (Int32 × zV)) (V7 : zV) (x1 : Int32) (x3 : Int32) (x4 : Int32) : Option (Int32 × zV) :=
  k38 V7 x1 x3 (x4 + 1)
def fX12_comesBack_b74 (F : Nat) (k38 : zV → Int32 → Int32 → Int32 → Option (Int32 × zV)) (V7 : zV) (x1 : Int32) (x3 : Int32) (x4 : Int32) (s1 : Int32) (s2 : Int32) : Option (Int32 × zV) :=
  zbd (fX12_leadsOn F V7 s1 s2) fun q5 =>
  fX12_comesBack_b77 F k38 q5 x1 x3 x4
def fX12_comesBack_l38 (F : Nat) (k31 : zV → Int32 → Int32 → Int32 → Option (Int32 × zV)) : Nat → zV → Int32 → Int32 → Int32 → Option (Int32 × zV)
  | 0, _, _, _, _ => none
  | n + 1, V7, x1, x3, x4 =>
    if (24 : Int32) ≤ x4 then (
    fX12_comesBack_l89 F k31 F V7 x1 x3 (0 : Int32) (0 : Int32))
    else
    zchk (zix x4 24) <|
    if (zA V7 66 (x4).toNatClampNeg) = 0 then (
    fX12_comesBack_b77 F (fX12_comesBack_l38 F k31 n) V7 x1 x3 x4)
    else
    if (12 : Int32) ≤ x4 then (
    fX12_comesBack_b74 F (fX12_comesBack_l38 F k31 n) V7 x1 x3 x4 (x4 - x4 / (12 : Int32) * (12 : Int32)) (-2 : Int32))
    else
    fX12_comesBack_b74 F (fX12_comesBack_l38 F k31 n) V7 x1 x3 x4 (x4 - x4 / (12 : Int32) * (12 : Int32)) (-1 : Int32)
def fX12_comesBack_l31 (F : Nat) : Nat → zV → Int32 → Int32 → Int32 → Option (Int32 × zV)
  | 0, _, _, _, _ => none
  | n + 1, V7, x1, x2, x3 =>
    if x2 = 0 then (
    zchk (zix x1 24) <|
    zchk ((zA V7 66 (x1).toNatClampNeg) = 0 ∨ (zA V7 66 (x1).toNatClampNeg) = 1) <|
    some ((zA V7 66 (x1).toNatClampNeg), V7))
    else
    fX12_comesBack_l38 F (fX12_comesBack_l31 F n) F V7 x1 x3 (0 : Int32)
def fX12_comesBack_l2 (F : Nat) : Nat → zV → Int32 → Int32 → Option (Int32 × zV)
  | 0, _, _, _ => none
  | n + 1, V7, x1, x2 =>
    if (24 : Int32) ≤ x2 then (
    zbd (fX12_leadsOn F V7 x1 (-1 : Int32)) fun q15 =>
    fX12_comesBack_l31 F F q15 x1 (1 : Int32) (0 : Int32))
    else
    zchk (zix x2 24) <|
    zlet (zsA V7 66 (upd (zA V7 66) (x2).toNatClampNeg (vp_nar .boolean (0 : Int32)))) fun V7_18 =>
    fX12_comesBack_l2 F n V7_18 x1 (x2 + 1)
def fX12_comesBack (F : Nat) (V7 : zV) (x1 : Int32) : Option (Int32 × zV) :=
  fX12_comesBack_l2 F F V7 x1 (0 : Int32)
def fX12_ring_l11 (F : Nat) : Nat → zV → Int32 → Option (Int32 × zV)
  | 0, _, _ => none
  | n + 1, V7, x1 =>
    zbd (fX12_sort F V7 (7 : Int32)) fun q1 =>
    if q1 ≤ x1 then (
    some ((-1 : Int32), V7))
    else
    zbd (fX12_comesBack F V7 x1) fun q4 =>
    if q4.1 = 0 then (
    fX12_ring_l11 F n q4.2 (x1 + 1))
    else
    some (x1, q4.2)
def fX12_ring (F : Nat) (V7 : zV) : Option (Int32 × zV) :=
  if (zI V7 0 20) = 0 then (
  some ((-1 : Int32), V7))
  else
  fX12_ring_l11 F F V7 (0 : Int32)
def fX12_count_b95 (F : Nat) (V7 : zV) (s0 : Int32) : Option (Int32) :=
  zbd (fX12_sort F V7 s0) fun q1 =>
  some q1
def fX12_count (F : Nat) (V7 : zV) (x1 : Int32) : Option (Int32) :=
  if x1 = (15 : Int32) then (
  some (zI V7 0 2))
  else
  if x1 < 0 then (
  some (-1 : Int32))
  else
  if x1 ≤ (15 : Int32) then (
  if (7 : Int32) ≤ x1 then (
  if (zI V7 0 64) = 0 then (
  some (0 : Int32))
  else
  if x1 = (7 : Int32) then (
  some (zI V7 0 66))
  else
  if x1 = (8 : Int32) then (
  some (zI V7 0 67))
  else
  if x1 = (9 : Int32) then (
  some (zI V7 0 68))
  else
  if x1 = (10 : Int32) then (
  some (zI V7 0 59))
  else
  if x1 = (11 : Int32) then (
  some (zI V7 0 69))
  else
  if x1 = (12 : Int32) then (
  if (zI V7 0 70) = 0 then (
  some (0 : Int32))
  else
  some (1 : Int32))
  else
  if x1 = (13 : Int32) then (
  if (zI V7 0 71) = 0 then (
  some (0 : Int32))
  else
  some (1 : Int32))
  else
  some (zI V7 0 72))
  else
  if (zI V7 0 20) = 0 then (
  some (0 : Int32))
  else
  if x1 = 0 then (
  fX12_count_b95 F V7 (0 : Int32))
  else
  if x1 = (1 : Int32) then (
  fX12_count_b95 F V7 (1 : Int32))
  else
  if x1 = (2 : Int32) then (
  fX12_count_b95 F V7 (3 : Int32))
  else
  if x1 = (3 : Int32) then (
  fX12_count_b95 F V7 (4 : Int32))
  else
  if x1 = (4 : Int32) then (
  fX12_count_b95 F V7 (6 : Int32))
  else
  if x1 = (5 : Int32) then (
  fX12_count_b95 F V7 (7 : Int32))
  else
  fX12_count_b95 F V7 (8 : Int32))
  else
  some (-1 : Int32)
def fX12_word (F : Nat) (x0 : Int32) (x1 : Int32) (x2 : Int32) (x3 : Int32) (x4 : Int32) (x5 : Int32) : Option (Int64) :=
  zbd (fX12_more F (0 : Int64) x0) fun q1 =>
  zbd (fX12_more F q1 x1) fun q3 =>
  zbd (fX12_more F q3 x2) fun q5 =>
  zbd (fX12_more F q5 x3) fun q7 =>
  zbd (fX12_more F q7 x4) fun q9 =>
  zbd (fX12_more F q9 x5) fun q11 =>
  some q11
