def fL_law_b545 (F L : Nat) (xs : Nat → Int32) (k18 : zV → zV → zV → zV → zV → zV → zV → zV → Int32 → Option (Int32 × zV × zV × zV × zV × zV × zV × zV × zV)) (V0 V1 V2 V3 V4 V5 V6 V7 : zV) (x3 : Int32) : Option (Int32 × zV × zV × zV × zV × zV × zV × zV × zV) :=
  k18 V0 V1 V2 V3 V4 V5 V6 V7 (x3 + 6)
def fL_law_b487 (F L : Nat) (xs : Nat → Int32) (k18 : zV → zV → zV → zV → zV → zV → zV → zV → Int32 → Option (Int32 × zV × zV × zV × zV × zV × zV × zV × zV)) (V0 V1 V2 V3 V4 V5 V6 V7 : zV) (x3 : Int32) (s0 : Int32) (s2 : Int32) (s3 : Int32) : Option (Int32 × zV × zV × zV × zV × zV × zV × zV × zV) :=
  zbd (fX12_balls F V7 s2 s3) fun q1 =>
  if s0 = q1 then (
  fL_law_b545 F L xs k18 V0 V1 V2 V3 V4 V5 V6 V7 x3)
  else
  some ((0 : Int32), V0, V1, V2, V3, V4, V5, V6, V7)
def fL_law_b465 (F L : Nat) (xs : Nat → Int32) (k18 : zV → zV → zV → zV → zV → zV → zV → zV → Int32 → Option (Int32 × zV × zV × zV × zV × zV × zV × zV × zV)) (V0 V1 V2 V3 V4 V5 V6 V7 : zV) (x3 : Int32) (s1 : Int32) (s2 : Int32) : Option (Int32 × zV × zV × zV × zV × zV × zV × zV × zV) :=
  zbd (fX11_balls F V0 V4 V5 s1 s2) fun q4 =>
  zchk (zix (x3 + (1 : Int32)) L) <|
  zchk (zix (x3 + (2 : Int32)) L) <|
  if (xs ((x3 + (2 : Int32))).toNatClampNeg) = 0 then (
  fL_law_b487 F L xs k18 V0 V1 V2 V3 V4 V5 V6 V7 x3 q4 (xs ((x3 + (1 : Int32))).toNatClampNeg) (0 : Int32))
  else
  fL_law_b487 F L xs k18 V0 V1 V2 V3 V4 V5 V6 V7 x3 q4 (xs ((x3 + (1 : Int32))).toNatClampNeg) (1 : Int32)
def fL_law_l18 (F L : Nat) (xs : Nat → Int32) : Nat → zV → zV → zV → zV → zV → zV → zV → zV → Int32 → Option (Int32 × zV × zV × zV × zV × zV × zV × zV × zV)
  | 0, _, _, _, _, _, _, _, _, _ => none
  | n + 1, V0, V1, V2, V3, V4, V5, V6, V7, x3 =>
    if ((nI L) - (6 : Int32)) < x3 then (
    some ((1 : Int32), V0, V1, V2, V3, V4, V5, V6, V7))
    else
    zchk (zix x3 L) <|
    if ((xs (x3).toNatClampNeg) &&& (31 : Int32)) = (0 : Int32) then (
    zchk (zix (x3 + (1 : Int32)) L) <|
    zchk (zix (x3 + (2 : Int32)) L) <|
    zchk (zix (x3 + (3 : Int32)) L) <|
    zchk (zix (x3 + (4 : Int32)) L) <|
    zchk (zix (x3 + (5 : Int32)) L) <|
    zbd (fX11_feed F V0 (xs ((x3 + (1 : Int32))).toNatClampNeg) (xs ((x3 + (2 : Int32))).toNatClampNeg) (xs ((x3 + (3 : Int32))).toNatClampNeg) (xs ((x3 + (4 : Int32))).toNatClampNeg) (xs ((x3 + (5 : Int32))).toNatClampNeg)) fun q17 =>
    zchk (zix (x3 + (1 : Int32)) L) <|
    zchk (zix (x3 + (2 : Int32)) L) <|
    zchk (zix (x3 + (3 : Int32)) L) <|
    zchk (zix (x3 + (4 : Int32)) L) <|
    zchk (zix (x3 + (5 : Int32)) L) <|
    zbd (fX12_feed F V7 (xs ((x3 + (1 : Int32))).toNatClampNeg) (xs ((x3 + (2 : Int32))).toNatClampNeg) (xs ((x3 + (3 : Int32))).toNatClampNeg) (xs ((x3 + (4 : Int32))).toNatClampNeg) (xs ((x3 + (5 : Int32))).toNatClampNeg)) fun q24 =>
    if q17.1 = q24.1 then (
    fL_law_b545 F L xs (fL_law_l18 F L xs n) q17.2 V1 V2 V3 V4 V5 V6 q24.2 x3)
    else
    some ((0 : Int32), q17.2, V1, V2, V3, V4, V5, V6, q24.2))
    else
    if ((xs (x3).toNatClampNeg) &&& (31 : Int32)) = (1 : Int32) then (
    zchk (zix (x3 + (1 : Int32)) L) <|
    zbd (fX11_back F V0 (xs ((x3 + (1 : Int32))).toNatClampNeg)) fun q29 =>
    zchk (zix (x3 + (1 : Int32)) L) <|
    zbd (fX12_back F V7 (xs ((x3 + (1 : Int32))).toNatClampNeg)) fun q32 =>
    if q29.1 = q32.1 then (
    fL_law_b545 F L xs (fL_law_l18 F L xs n) q29.2 V1 V2 V3 V4 V5 V6 q32.2 x3)
    else
    some ((0 : Int32), q29.2, V1, V2, V3, V4, V5, V6, q32.2))
    else
    if ((xs (x3).toNatClampNeg) &&& (31 : Int32)) = (2 : Int32) then (
    zbd (fX11_read F V0 V1 V2 V3 V4) fun q36 =>
    zbd (fX12_read F V7) fun q38 =>
    if q36.1 = q38.1 then (
    fL_law_b545 F L xs (fL_law_l18 F L xs n) q36.2.1 q36.2.2.1 q36.2.2.2.1 q36.2.2.2.2.1 q36.2.2.2.2.2 V5 V6 q38.2 x3)
    else
    some ((0 : Int32), q36.2.1, q36.2.2.1, q36.2.2.2.1, q36.2.2.2.2.1, q36.2.2.2.2.2, V5, V6, q38.2))
    else
    if ((xs (x3).toNatClampNeg) &&& (31 : Int32)) = (3 : Int32) then (
    zbd (fX11_place F V0) fun q42 =>
    zbd (fX12_place F V7) fun q44 =>
    if q42 = q44 then (
    fL_law_b545 F L xs (fL_law_l18 F L xs n) V0 V1 V2 V3 V4 V5 V6 V7 x3)
    else
    some ((0 : Int32), V0, V1, V2, V3, V4, V5, V6, V7))
    else
    if ((xs (x3).toNatClampNeg) &&& (31 : Int32)) = (4 : Int32) then (
    zbd (fX11_begin F V0 V4 V5) fun q48 =>
    zbd (fX12_begin F V7) fun q50 =>
    if q48.1 = q50.1 then (
    fL_law_b545 F L xs (fL_law_l18 F L xs n) q48.2.1 V1 V2 V3 V4 q48.2.2 V6 q50.2 x3)
    else
    some ((0 : Int32), q48.2.1, V1, V2, V3, V4, q48.2.2, V6, q50.2))
    else
    if ((xs (x3).toNatClampNeg) &&& (31 : Int32)) = (5 : Int32) then (
    zchk (zix (x3 + (1 : Int32)) L) <|
    zbd (fX11_press F V0 V4 V5 (xs ((x3 + (1 : Int32))).toNatClampNeg)) fun q55 =>
    zchk (zix (x3 + (1 : Int32)) L) <|
    zbd (fX12_press F V7 (xs ((x3 + (1 : Int32))).toNatClampNeg)) fun q58 =>
    if q55.1 = q58.1 then (
    fL_law_b545 F L xs (fL_law_l18 F L xs n) q55.2.1 V1 V2 V3 V4 q55.2.2 V6 q58.2 x3)
    else
    some ((0 : Int32), q55.2.1, V1, V2, V3, V4, q55.2.2, V6, q58.2))
    else
    if ((xs (x3).toNatClampNeg) &&& (31 : Int32)) = (6 : Int32) then (
    zchk (zix (x3 + (1 : Int32)) L) <|
    zbd (fX11_ticks F V0 V4 V5 (xs ((x3 + (1 : Int32))).toNatClampNeg)) fun q63 =>
    zchk (zix (x3 + (1 : Int32)) L) <|
    zbd (fX12_ticks F V7 (xs ((x3 + (1 : Int32))).toNatClampNeg)) fun q66 =>
    if q63.1 = q66.1 then (
    fL_law_b545 F L xs (fL_law_l18 F L xs n) V0 V1 V2 V3 V4 q63.2 V6 q66.2 x3)
    else
    some ((0 : Int32), V0, V1, V2, V3, V4, q63.2, V6, q66.2))
    else
    if ((xs (x3).toNatClampNeg) &&& (31 : Int32)) = (7 : Int32) then (
    zbd (fX11_score F V0 V5) fun q70 =>
    zbd (fX12_score F V7) fun q72 =>
    if (lg_cmp q70 q72) = 0 then (
    fL_law_b545 F L xs (fL_law_l18 F L xs n) V0 V1 V2 V3 V4 V5 V6 V7 x3)
    else
    some ((0 : Int32), V0, V1, V2, V3, V4, V5, V6, V7))
    else
    if ((xs (x3).toNatClampNeg) &&& (31 : Int32)) = (8 : Int32) then (
    zchk (zix (x3 + (1 : Int32)) L) <|
    zchk (zix (x3 + (2 : Int32)) L) <|
    zbd (fX11_told F V0 V4 V5 (xs ((x3 + (1 : Int32))).toNatClampNeg) (xs ((x3 + (2 : Int32))).toNatClampNeg)) fun q78 =>
    zchk (zix (x3 + (1 : Int32)) L) <|
    zchk (zix (x3 + (2 : Int32)) L) <|
    zbd (fX12_told F V7 (xs ((x3 + (1 : Int32))).toNatClampNeg) (xs ((x3 + (2 : Int32))).toNatClampNeg)) fun q82 =>
    if q78 = q82 then (
    fL_law_b545 F L xs (fL_law_l18 F L xs n) V0 V1 V2 V3 V4 V5 V6 V7 x3)
    else
    some ((0 : Int32), V0, V1, V2, V3, V4, V5, V6, V7))
    else
    if ((xs (x3).toNatClampNeg) &&& (31 : Int32)) = (9 : Int32) then (
    zchk (zix (x3 + (1 : Int32)) L) <|
    zchk (zix (x3 + (2 : Int32)) L) <|
    zbd (fX11_coil F V0 V4 V5 (xs ((x3 + (1 : Int32))).toNatClampNeg) (xs ((x3 + (2 : Int32))).toNatClampNeg)) fun q88 =>
    zchk (zix (x3 + (1 : Int32)) L) <|
    zchk (zix (x3 + (2 : Int32)) L) <|
    zbd (fX12_coil F V7 (xs ((x3 + (1 : Int32))).toNatClampNeg) (xs ((x3 + (2 : Int32))).toNatClampNeg)) fun q92 =>
    if q88 = q92 then (
    fL_law_b545 F L xs (fL_law_l18 F L xs n) V0 V1 V2 V3 V4 V5 V6 V7 x3)
    else
    some ((0 : Int32), V0, V1, V2, V3, V4, V5, V6, V7))
    else
    if ((xs (x3).toNatClampNeg) &&& (31 : Int32)) = (10 : Int32) then (
    zchk (zix (x3 + (1 : Int32)) L) <|
    zbd (fX11_lamp F V0 V4 V5 (xs ((x3 + (1 : Int32))).toNatClampNeg)) fun q97 =>
    zchk (zix (x3 + (1 : Int32)) L) <|
    zbd (fX12_lamp F V7 (xs ((x3 + (1 : Int32))).toNatClampNeg)) fun q100 =>
    if q97.1 = q100.1 then (
    fL_law_b545 F L xs (fL_law_l18 F L xs n) V0 V1 V2 V3 V4 q97.2 V6 q100.2 x3)
    else
    some ((0 : Int32), V0, V1, V2, V3, V4, q97.2, V6, q100.2))
    else
    if ((xs (x3).toNatClampNeg) &&& (31 : Int32)) = (11 : Int32) then (
    zchk (zix (x3 + (1 : Int32)) L) <|
    zbd (fX11_value F V0 V4 V5 (xs ((x3 + (1 : Int32))).toNatClampNeg)) fun q105 =>
    zchk (zix (x3 + (1 : Int32)) L) <|
    zbd (fX12_value F V7 (xs ((x3 + (1 : Int32))).toNatClampNeg)) fun q108 =>
    if q105 = q108 then (
    fL_law_b545 F L xs (fL_law_l18 F L xs n) V0 V1 V2 V3 V4 V5 V6 V7 x3)
    else
    some ((0 : Int32), V0, V1, V2, V3, V4, V5, V6, V7))
    else
    if ((xs (x3).toNatClampNeg) &&& (31 : Int32)) = (12 : Int32) then (
    zchk (zix (x3 + (1 : Int32)) L) <|
    zchk (zix (x3 + (2 : Int32)) L) <|
    zbd (fX11_mode F V0 V4 V5 (xs ((x3 + (1 : Int32))).toNatClampNeg) (xs ((x3 + (2 : Int32))).toNatClampNeg)) fun q114 =>
    zchk (zix (x3 + (1 : Int32)) L) <|
    zchk (zix (x3 + (2 : Int32)) L) <|
    zbd (fX12_mode F V7 (xs ((x3 + (1 : Int32))).toNatClampNeg) (xs ((x3 + (2 : Int32))).toNatClampNeg)) fun q118 =>
    if q114 = q118 then (
    fL_law_b545 F L xs (fL_law_l18 F L xs n) V0 V1 V2 V3 V4 V5 V6 V7 x3)
    else
    some ((0 : Int32), V0, V1, V2, V3, V4, V5, V6, V7))
    else
    if ((xs (x3).toNatClampNeg) &&& (31 : Int32)) = (13 : Int32) then (
    zchk (zix (x3 + (1 : Int32)) L) <|
    zchk (zix (x3 + (2 : Int32)) L) <|
    if (xs ((x3 + (2 : Int32))).toNatClampNeg) = 0 then (
    fL_law_b465 F L xs (fL_law_l18 F L xs n) V0 V1 V2 V3 V4 V5 V6 V7 x3 (xs ((x3 + (1 : Int32))).toNatClampNeg) (0 : Int32))
    else
    fL_law_b465 F L xs (fL_law_l18 F L xs n) V0 V1 V2 V3 V4 V5 V6 V7 x3 (xs ((x3 + (1 : Int32))).toNatClampNeg) (1 : Int32))
    else
    if ((xs (x3).toNatClampNeg) &&& (31 : Int32)) = (14 : Int32) then (
    zbd (fX11_again F V0 V4 V5 V6) fun q126 =>
    zbd (fX12_again F V7) fun q128 =>
    if (lg_cmp q126.1 q128) = 0 then (
    fL_law_b545 F L xs (fL_law_l18 F L xs n) V0 V1 V2 V3 V4 V5 q126.2 V7 x3)
    else
    some ((0 : Int32), V0, V1, V2, V3, V4, V5, q126.2, V7))
    else
    if ((xs (x3).toNatClampNeg) &&& (31 : Int32)) = (15 : Int32) then (
    zbd (fX11_ring F V0 V4) fun q132 =>
    zbd (fX12_ring F V7) fun q134 =>
    if q132 = q134.1 then (
    fL_law_b545 F L xs (fL_law_l18 F L xs n) V0 V1 V2 V3 V4 V5 V6 q134.2 x3)
    else
    some ((0 : Int32), V0, V1, V2, V3, V4, V5, V6, q134.2))
    else
    if ((xs (x3).toNatClampNeg) &&& (31 : Int32)) = (16 : Int32) then (
    zchk (zix (x3 + (1 : Int32)) L) <|
    zbd (fX11_count F V0 V4 V5 (xs ((x3 + (1 : Int32))).toNatClampNeg)) fun q139 =>
    zchk (zix (x3 + (1 : Int32)) L) <|
    zbd (fX12_count F V7 (xs ((x3 + (1 : Int32))).toNatClampNeg)) fun q142 =>
    if q139 = q142 then (
    fL_law_b545 F L xs (fL_law_l18 F L xs n) V0 V1 V2 V3 V4 V5 V6 V7 x3)
    else
    some ((0 : Int32), V0, V1, V2, V3, V4, V5, V6, V7))
    else
    fL_law_b545 F L xs (fL_law_l18 F L xs n) V0 V1 V2 V3 V4 V5 V6 V7 x3
