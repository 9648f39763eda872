def L8_take_16 (v1 : Int) (v2 : Int) (k56 : Mem → Option (Int × Mem)) : Nat → Int → Mem → Option (Int × Mem)
  | 0, _, _ => none
  | n + 1, v3, m =>
    if v1 ≤ v3 then
      k56 m
    else
    gd (0 ≤ rd m 1 1 ∧ rd m 1 1 < 120) <|
    stw m 2 (rd m 1 1) (band (shr v2 (w32 (8 * v3))) 255) fun m39 =>
    stw m39 1 1 (w32 ((rd m39 1 1) + 1)) fun m47 =>
    L8_take_16 v1 v2 k56 n (w32 (v3 + 1)) m47
def F8_take (m : Mem) (v1 v2 : Int) : Option (Int × Mem) :=
  if (w32 ((rd m 1 1) + v1)) ≤ 120 then
    L8_take_16 v1 v2 (fun (m_56 : Mem) =>
      some (rd m_56 1 1, m_56)) FU 0 m
  else
  some ((-3), m)
def F10_feed (m : Mem) (v1 v2 : Int) : Option (Int × Mem) :=
  jn (fun (K10 : Option (Int × Mem)) =>
    if v1 < 1 then
      K10
    else
    if v1 ≤ 4 then
      b2 (F8_take m v1 v2) fun r20 m20 =>
      some (r20, m20)
    else
    K10)
    (  some ((-1), m))
def LJ7_fill_53178_5 (a0 : Nat) (len : Nat) (v1 : Int) (v3 : Int) : Nat → Int → Mem → Option Mem
  | 0, _, _ => none
  | n + 1, v2, m =>
    if v3 ≤ v2 then
      some m
    else
    gd (0 ≤ v2 ∧ v2 < (len : Int)) <|
    stw m a0 v2 v1 fun m13 =>
    LJ7_fill_53178_5 a0 len v1 v3 n (w32 (v2 + 1)) m13
def FJ7_fill_53178 (m : Mem) (a0 : Nat) (len : Nat) (v1 : Int) : Option Mem :=
  LJ7_fill_53178_5 a0 len v1 (len : Int) FU 0 m
def F8_sign (m : Mem)  : Option Int :=
  jn (fun (K39 : Option Int) =>
    if (rd m 1 6) < 0 then
      K39
    else
    if (rd m 1 1) ≤ (rd m 1 6) then
      K39
    else
    if 120 ≤ (rd m 1 6) then
      K39
    else
    gd (0 ≤ rd m 1 6 ∧ rd m 1 6 < 120) <|
    some (rd m 2 (rd m 1 6)))
    (  some ((-1)))
def L8_number_4 (v1 : Int) : Nat → Int → Int → Mem → Option (Int × Mem)
  | 0, _, _, _ => none
  | n + 1, v2, v3, m =>
    if v1 ≤ v3 then
      some (v2, m)
    else
    b1 (F8_sign m) fun r10 =>
    if r10 < 48 then
      some (v2, m)
    else
    b1 (F8_sign m) fun r19 =>
    if 57 < r19 then
      some (v2, m)
    else
    b1 (F8_sign m) fun r36 =>
    stw m 1 6 (w32 ((rd m 1 6) + 1)) fun m51 =>
    L8_number_4 v1 n (w32 ((w32 ((w32 ((imx v2 0) * 10)) + r36)) - 48)) (w32 (v3 + 1)) m51
def F8_number (m : Mem) (v1 : Int) : Option (Int × Mem) :=
  L8_number_4 v1 FU (-1) 0 m
def F8_readDays (m : Mem)  : Option (Int × Mem) :=
  b2 (F8_number m 3) fun r3 m3 =>
  stw m3 1 2 r3 fun m6 =>
  if 0 ≤ (rd m6 1 2) then
    stw m6 1 3 (rd m6 1 2) fun m26 =>
    b1 (F8_sign m26) fun r30 =>
    if r30 = 45 then
      stw m26 1 6 (w32 ((rd m26 1 6) + 1)) fun m47 =>
      b2 (F8_number m47 3) fun r58 m58 =>
      stw m58 1 3 r58 fun m61 =>
      if (rd m61 1 2) ≤ (rd m61 1 3) then
        some ((-1), m61)
      else
      some (rd m47 1 6, m61)
    else
    some ((-1), m26)
  else
  some (rd m6 1 6, m6)
def F10_isClause (v0 : Int) : Int :=
  jn (fun (K14 : Int) =>
    if v0 < 0 then
      K14
    else
    if 16 ≤ v0 then
      K14
    else
    1)
    (  0)
def F10_isForm (v0 : Int) : Int :=
  jn (fun (K15 : Int) =>
    jn (fun (K9 : Int) =>
      if v0 < 0 then
        K9
      else
      if v0 < 4 then
        K15
      else
      K9)
      (  if v0 ≠ 9 then
        0
      else
      K15))
    (  1)
def L8_readClauses_4 (k52 : Mem → Option (Int × Mem)) (k113 : Mem → Option (Int × Mem)) : Nat → Int → Int → Mem → Option (Int × Mem)
  | 0, _, _, _ => none
  | n + 1, v1, v2, m =>
    if 16 < v2 then
      some ((-1), m)
    else
    b1 (F8_sign m) fun r11 =>
    if r11 ≠ 44 then
      some ((-1), m)
    else
    stw m 1 6 (w32 ((rd m 1 6) + 1)) fun m26 =>
    b1 (F8_sign m26) fun r30 =>
    if (F10_isClause (w32 (r30 - 97))) = 0 then
      k52 m26
    else
    if (band (shr v1 (w32 (r30 - 97))) 1) = 0 then
      stw m26 1 6 (w32 ((rd m26 1 6) + 1)) fun m70 =>
      b1 (F8_sign m70) fun r74 =>
      jn (fun (K94 : Int → Option (Int × Mem)) =>
        if r74 ≠ 63 then
          b1 (F8_sign m70) fun r88 =>
          K94 (w32 (r88 - 48))
        else
        K94 9)
        (fun (x94 : Int) =>
        if (F10_isForm x94) = 0 then
          k113 m70
        else
        b1 (F8_sign m70) fun r105 =>
        if r105 ≠ 57 then
          gd (0 ≤ w32 (r30 - 97) ∧ w32 (r30 - 97) < 16) <|
          stw m70 3 (w32 (r30 - 97)) x94 fun m125 =>
          stw m125 1 6 (w32 ((rd m125 1 6) + 1)) fun m133 =>
          L8_readClauses_4 k52 k113 n (bor v1 (shl 1 (w32 (r30 - 97)))) (w32 (v2 + 1)) m133
        else
        k113 m70)
    else
    k52 m26
def F8_readClauses (m : Mem)  : Option (Int × Mem) :=
  L8_readClauses_4 (fun (m_52 : Mem) =>
    some (rd m_52 1 6, m_52)) (fun (m_113 : Mem) =>
    some (rd m_113 1 6, m_113)) FU 0 0 m
def F8_readMother (m : Mem) (v1 : Int) : Option (Int × Mem) :=
  b1 (F8_sign m) fun r1 =>
  if r1 = 60 then
    stw m 1 6 (w32 ((rd m 1 6) + 1)) fun m18 =>
    b2 (F8_number m18 2) fun r29 m29 =>
    stw m29 1 4 r29 fun m32 =>
    jn (fun (K50 : Option (Int × Mem)) =>
      if (rd m32 1 4) < 0 then
        K50
      else
      if (rd m32 1 4) < v1 then
        some ((-1), m32)
      else
      K50)
      (  some (rd m18 1 6, m32))
  else
  some ((-1), m)
def F8_read (m : Mem) (v1 : Int) : Option (Int × Mem) :=
  stw m 1 6 0 fun m2 =>
  stw m2 1 4 (-1) fun m7 =>
  b1 (FJ7_fill_53178 m7 3 16 9) fun m16 =>
  b2 (F8_readDays m16) fun r20 m20 =>
  jn (fun (K33 : Int → Mem → Option (Int × Mem)) =>
    if 0 ≤ r20 then
      K33 r20 m20
    else
    b2 (F8_readClauses m20) fun r29 m29 =>
    K33 r29 m29)
    (fun (v2_33 : Int) (m_33 : Mem) =>
    jn (fun (K43 : Int → Mem → Option (Int × Mem)) =>
      if 0 ≤ v2_33 then
        K43 v2_33 m_33
      else
      b2 (F8_readMother m_33 v1) fun r39 m39 =>
      K43 r39 m39)
      (fun (v2_43 : Int) (m_43 : Mem) =>
      jn (fun (K65 : Option (Int × Mem)) =>
        if 0 ≤ v2_43 then
          K65
        else
        if (rd m_43 1 1) ≤ (rd m_43 1 6) then
          K65
        else
        some (rd m_43 1 6, m_43))
        (  some (v2_43, m_43))))
def F1_formCell (v1 v2 : Int) : Int :=
  w32 ((w32 (v1 * 16)) + v2)
def F1_motherCell (v1 : Int) : Int :=
  w32 (197 + v1)
def F1_add (m : Mem) (a4 : Nat) (v1 v2 v3 : Int) : Option (Int × Mem) :=
  gd (0 ≤ rd m 4 0 ∧ rd m 4 0 < 12) <|
  stw m 5 (rd m 4 0) v1 fun m13 =>
  gd (0 ≤ rd m 4 0 ∧ rd m 4 0 < 12) <|
  stw m13 6 (rd m 4 0) v2 fun m21 =>
  gd (0 ≤ rd m 4 0 ∧ rd m 4 0 < 12) <|
  stw m21 7 (rd m 4 0) v3 fun m29 =>
  gd ((0 : Int) ≤ 0 ∧ (0 : Int) ≤ F1_formCell (rd m 4 0) 0 ∧ (0 : Int) ≤ 16 ∧ (0 : Int) + 16 ≤ 16 ∧ (F1_formCell (rd m 4 0) 0 : Int) + 16 ≤ 209) <|
  cpw m29 a4 0 9 (F1_formCell (rd m 4 0) 0) 16 fun m46 =>
  gd (0 ≤ F1_motherCell (rd m 4 0) ∧ F1_motherCell (rd m 4 0) < 209) <|
  stw m46 9 (F1_motherCell (rd m 4 0)) (-1) fun m60 =>
  stw m60 4 0 (w32 ((rd m60 4 0) + 1)) fun m68 =>
  some (rd m 4 0, m68)
def F10_charter (m : Mem)  : Option (Int × Mem) :=
  if (rd m 4 0) < 12 then
    b2 (F8_read m (rd m 4 0)) fun r26 m26 =>
    stw m26 1 1 0 fun m35 =>
    if r26 < 0 then
      b2 (F1_add m35 3 (rd m35 1 2) (rd m35 1 3) (rd m35 1 4)) fun r79 m79 =>
      some (r79, m79)
    else
    some (w32 ((-100) - r26), m35)
  else
  some ((-3), m)
def F1_addLost (m : Mem)  : Option (Int × Mem) :=
  b2 (F1_add m 13 0 999 (-1)) fun r10 m10 =>
  gd (0 ≤ r10 ∧ r10 < 12) <|
  stw m10 8 r10 1 fun m20 =>
  some (r10, m20)
def F10_lost (m : Mem)  : Option (Int × Mem) :=
  if (rd m 4 0) < 12 then
    b2 (F1_addLost m) fun r21 m21 =>
    some (r21, m21)
  else
  some ((-3), m)
def F1_has (m : Mem) (v1 : Int) : Int :=
  jn (fun (K16 : Int) =>
    if v1 < 0 then
      K16
    else
    if (rd m 4 0) ≤ v1 then
      K16
    else
    1)
    (  0)
def F1_told (m : Mem) (v1 v2 : Int) : Option Int :=
  gd (0 ≤ F1_formCell v1 v2 ∧ F1_formCell v1 v2 < 209) <|
  some (rd m 9 (F1_formCell v1 v2))
def F10_ofCharter (m : Mem) (v1 v2 : Int) : Option Int :=
  if (F1_has m v1) ≠ 0 then
    if v2 = 0 then
      gd (0 ≤ v1 ∧ v1 < 12) <|
      some (rd m 5 v1)
    else
    if v2 = 1 then
      gd (0 ≤ v1 ∧ v1 < 12) <|
      some (rd m 6 v1)
    else
    if v2 = 2 then
      gd (0 ≤ v1 ∧ v1 < 12) <|
      some (rd m 7 v1)
    else
    if v2 = 3 then
      gd (0 ≤ v1 ∧ v1 < 12) <|
      some (rd m 8 v1)
    else
    jn (fun (K111 : Option Int) =>
      if v2 < 10 then
        K111
      else
      if 26 ≤ v2 then
        K111
      else
      b1 (F1_told m v1 (w32 (v2 - 10))) fun r105 =>
      some r105)
      (  some ((-1)))
  else
  some ((-1))
def F1_dropOldest (m : Mem)  : Option Mem :=
  gd ((0 : Int) ≤ 1 ∧ (0 : Int) ≤ 0 ∧ (0 : Int) ≤ 39 ∧ (1 : Int) + 39 ≤ 40 ∧ (0 : Int) + 39 ≤ 40) <|
  cpw m 10 1 10 0 39 fun m12 =>
  gd ((0 : Int) ≤ 1 ∧ (0 : Int) ≤ 0 ∧ (0 : Int) ≤ 39 ∧ (1 : Int) + 39 ≤ 40 ∧ (0 : Int) + 39 ≤ 40) <|
  cpw m12 11 1 11 0 39 fun m27 =>
  gd ((0 : Int) ≤ 1 ∧ (0 : Int) ≤ 0 ∧ (0 : Int) ≤ 39 ∧ (1 : Int) + 39 ≤ 40 ∧ (0 : Int) + 39 ≤ 40) <|
  cpw m27 12 1 12 0 39 fun m42 =>
  stw m42 4 10 39 fun m48 =>
  some m48
def F1_change (m : Mem) (v1 v2 : Int) : Option (Int × Mem) :=
  gd (0 ≤ v1 ∧ v1 < 209) <|
  if (rd m 9 v1) ≠ v2 then
    jn (fun (K27 : Mem → Option (Int × Mem)) =>
      if (rd m 4 10) < 40 then
        K27 m
      else
      b1 (F1_dropOldest m) fun m24 =>
      K27 m24)
      (fun (m_27 : Mem) =>
      gd (0 ≤ rd m_27 4 10 ∧ rd m_27 4 10 < 40) <|
      stw m_27 10 (rd m_27 4 10) v1 fun m36 =>
      gd (0 ≤ rd m36 4 10 ∧ rd m36 4 10 < 40) <|
      stw m36 11 (rd m36 4 10) (rd m 9 v1) fun m46 =>
      gd (0 ≤ rd m46 4 10 ∧ rd m46 4 10 < 40) <|
      stw m46 12 (rd m46 4 10) v2 fun m56 =>
      stw m56 4 10 (w32 ((rd m56 4 10) + 1)) fun m64 =>
      stw m64 4 11 0 fun m69 =>
      gd (0 ≤ v1 ∧ v1 < 209) <|
      stw m69 9 v1 v2 fun m78 =>
      stw m78 4 12 (w32 ((rd m78 4 12) + 1)) fun m86 =>
      some (rd m 9 v1, m86))
  else
  some (rd m 9 v1, m)
def F10_form (m : Mem) (v1 v2 v3 : Int) : Option (Int × Mem) :=
  if (F1_has m v1) = 0 then
    some ((-1), m)
  else
  if (F10_isClause v2) = 0 then
    some ((-1), m)
  else
  if (F10_isForm v3) ≠ 0 then
    b2 (F1_change m (F1_formCell v1 v2) v3) fun r41 m41 =>
    some (r41, m41)
  else
  some ((-1), m)
def F10_isShelf (v0 : Int) : Int :=
  jn (fun (K14 : Int) =>
    if v0 < 0 then
      K14
    else
    if 6 ≤ v0 then
      K14
    else
    1)
    (  0)
def F6_hasPlace (m : Mem) (o : Nat) (v1 : Int) : Int :=
  jn (fun (K20 : Int) =>
    if (lcm' v1 0) < 0 then
      K20
    else
    if 0 ≤ (lcm' v1 (rd m o 3)) then
      K20
    else
    1)
    (  0)
def L10_forms_74 (v1 : Int) (v3 : Int) (v4 : Int) (o5 : Nat) (k116 : Int → Mem → Option (Int × Mem)) : Nat → Int → Mem → Option (Int × Mem)
  | 0, _, _ => none
  | n + 1, v6, m =>
    if v4 ≤ v6 then
      some (v6, m)
    else
    if (F6_hasPlace m o5 (w64 (v3 + v6))) = 0 then
      some (v6, m)
    else
    gd (0 ≤ w32 (v3 + v6) ∧ w32 (v3 + v6) < 60) <|
    if (F10_isForm (w32 (rl m (o5 + 1) (w32 (v3 + v6))))) ≠ 0 then
      b2 (F1_change m (F1_formCell v1 v6) (w32 (rl m (o5 + 1) (w32 (v3 + v6))))) fun r135 m135 =>
      L10_forms_74 v1 v3 v4 o5 k116 n (w32 (v6 + 1)) m135
    else
    k116 v6 m
def F10_forms (m : Mem) (v1 v2 v3 v4 : Int) : Option (Int × Mem) :=
  if (F1_has m v1) = 0 then
    some ((-1), m)
  else
  if (F10_isShelf v2) = 0 then
    some ((-1), m)
  else
  if v4 < 1 then
    some ((-1), m)
  else
  if v4 ≤ 16 then
    gd (0 ≤ v2 ∧ v2 < 6) <|
    if (rd m (71 + 2 * (v2).toNat) 0) ≠ 0 then
      if (rd m (71 + 2 * (v2).toNat) 0) ≠ 2 then
        some ((-12), m)
      else
      if (rd m (71 + 2 * (v2).toNat) 2) = 0 then
        L10_forms_74 v1 v3 v4 (71 + 2 * (v2).toNat) (fun (v6_116 : Int) (m_116 : Mem) =>
          some (v6_116, m_116)) FU 0 m
      else
      some ((-12), m)
    else
    some (0, m)
  else
  some ((-1), m)
def F1_costCell (v1 : Int) : Int :=
  w32 (192 + v1)
def F10_price (m : Mem) (v1 v2 : Int) : Option (Int × Mem) :=
  if v1 < 0 then
    some ((-1), m)
  else
  if 5 ≤ v1 then
    some ((-1), m)
  else
  if v2 < 0 then
    some ((-1), m)
  else
  if v2 ≤ 99 then
    b2 (F1_change m (F1_costCell v1) v2) fun r34 m34 =>
    some (r34, m34)
  else
  some ((-1), m)
def L10_same_39 (m : Mem) (v1 : Int) (v2 : Int) (v3 : Int) : Nat → Int → Int → Option Int
  | 0, _, _ => none
  | n + 1, v4, v5 =>
    if 16 ≤ v5 then
      some v4
    else
    b1 (F1_told m v1 v5) fun r53 =>
    b1 (F1_told m v2 v5) fun r65 =>
    jn (fun (K100 : Int → Option Int) =>
      jn (fun (K84 : Option Int) =>
        if r53 = 9 then
          K84
        else
        if r65 ≠ 9 then
          if r53 ≠ r65 then
            K100 1
          else
          K100 0
        else
        K84)
        (  K100 2))
      (fun (x100 : Int) =>
      jn (fun (K117 : Int → Option Int) =>
        if x100 ≠ v3 then
          K117 v4
        else
        K117 (bor v4 (shl 1 v5)))
        (fun (v4_117 : Int) =>
        L10_same_39 m v1 v2 v3 n v4_117 (w32 (v5 + 1))))
def F10_same (m : Mem) (v1 v2 v3 : Int) : Option Int :=
  if (F1_has m v1) = 0 then
    some ((-1))
  else
  if (F1_has m v2) = 0 then
    some ((-1))
  else
  if v3 < 0 then
    some ((-1))
  else
  if v3 ≤ 2 then
    L10_same_39 m v1 v2 v3 FU 0 0
  else
  some ((-1))
def F1_motherOf (m : Mem) (v1 : Int) : Option Int :=
  gd (0 ≤ w32 (197 + v1) ∧ w32 (197 + v1) < 209) <|
  some (rd m 9 (w32 (197 + v1)))
def L1_isUnder_5 (m : Mem) (v2 : Int) : Nat → Int → Int → Option Int
  | 0, _, _ => none
  | n + 1, v3, v4 =>
    if 12 ≤ v4 then
      some 0
    else
    if v3 < 0 then
      some 0
    else
    if v3 ≠ v2 then
      b1 (F1_motherOf m v3) fun r25 =>
      L1_isUnder_5 m v2 n r25 (w32 (v4 + 1))
    else
    some 1
def F1_isUnder (m : Mem) (v1 v2 : Int) : Option Int :=
  L1_isUnder_5 m v2 FU v1 0
def F10_mother (m : Mem) (v1 v2 : Int) : Option (Int × Mem) :=
  if (F1_has m v1) = 0 then
    some ((-2000000000), m)
  else
  jn (fun (K27 : Option (Int × Mem)) =>
    if v2 = (-1) then
      K27
    else
    if (F1_has m v2) = 0 then
      some ((-2000000000), m)
    else
    K27)
    (  if v1 ≠ v2 then
      b1 (F1_isUnder m v2 v1) fun r41 =>
      if r41 = 0 then
        b2 (F1_change m (F1_motherCell v1) v2) fun r63 m63 =>
        some (r63, m63)
      else
      some ((-2), m)
    else
    some ((-2000000000), m))
def F1_costOf (m : Mem) (v1 : Int) : Option Int :=
  gd (0 ≤ F1_costCell v1 ∧ F1_costCell v1 < 209) <|
  some (rd m 9 (F1_costCell v1))
def L9_takeCosts_9 (o : Nat) (v2 : Int) (k64 : Mem → Option Mem) : Nat → Int → Mem → Option Mem
  | 0, _, _ => none
  | n + 1, v3, m =>
    if 4 ≤ v3 then
      k64 m
    else
    jn (fun (K31 : Int → Option Mem) =>
      if v2 ≠ 0 then
        if v3 ≠ 0 then
          K31 2
        else
        K31 1
      else
      K31 0)
      (fun (x31 : Int) =>
      jn (fun (K57 : Int → Option Mem) =>
        if v2 ≠ v3 then
          b1 (F1_costOf m x31) fun r54 =>
          K57 r54
        else
        K57 0)
        (fun (x57 : Int) =>
        gd (0 ≤ w32 ((w32 (v2 * 4)) + v3) ∧ w32 ((w32 (v2 * 4)) + v3) < 16) <|
        stw m (o + 8) (w32 ((w32 (v2 * 4)) + v3)) x57 fun m57 =>
        L9_takeCosts_9 o v2 k64 n (w32 (v3 + 1)) m57))
def L9_takeCosts_2 (o : Nat) : Nat → Int → Mem → Option Mem
  | 0, _, _ => none
  | n + 1, v2, m =>
    if 4 ≤ v2 then
      some m
    else
    L9_takeCosts_9 o v2 (fun (m_64 : Mem) =>
      L9_takeCosts_2 o n (w32 (v2 + 1)) m_64) FU 0 m
def F9_takeCosts (m : Mem) (o : Nat)  : Option Mem :=
  L9_takeCosts_2 o FU 0 m
def L9_arrange_25 (o : Nat) (k111 : Int → Int → Mem → Option (Int × Mem)) : Nat → Int → Int → Int → Mem → Option (Int × Mem)
  | 0, _, _, _, _ => none
  | n + 1, v1, v2, v4, m =>
    if (rd m o 0) ≤ v4 then
      k111 v1 v2 m
    else
    gd (0 ≤ v4 ∧ v4 < 12) <|
    jn (fun (K63 : Int → Option (Int × Mem)) =>
      jn (fun (K58 : Option (Int × Mem)) =>
        if (rd m (o + 1) v4) < 0 then
          K58
        else
        gd (0 ≤ v4 ∧ v4 < 12) <|
        if (band (shr v1 (rd m (o + 1) v4)) 1) = 0 then
          K63 0
        else
        K58)
        (  K63 1))
      (fun (x63 : Int) =>
      jn (fun (K105 : Int → Int → Mem → Option (Int × Mem)) =>
        if x63 = 0 then
          K105 v1 v2 m
        else
        if (band (shr v1 v4) 1) ≠ 0 then
          K105 v1 v2 m
        else
        if (rd m o 0) ≤ v2 then
          K105 v1 v2 m
        else
        gd (0 ≤ v2 ∧ v2 < 12) <|
        stw m (o + 7) v2 v4 fun m101 =>
        K105 (bor v1 (shl 1 v4)) (w32 (v2 + 1)) m101)
        (fun (v1_105 : Int) (v2_105 : Int) (m_105 : Mem) =>
        L9_arrange_25 o k111 n v1_105 v2_105 (w32 (v4 + 1)) m_105))
def L9_arrange_6 (o : Nat) (k117 : Int → Mem → Option (Int × Mem)) : Nat → Int → Int → Int → Mem → Option (Int × Mem)
  | 0, _, _, _, _ => none
  | n + 1, v1, v2, v3, m =>
    if (rd m o 0) ≤ v3 then
      k117 v2 m
    else
    if (rd m o 0) ≤ v2 then
      k117 v2 m
    else
    L9_arrange_25 o (fun (v1_111 : Int) (v2_111 : Int) (m_111 : Mem) =>
      L9_arrange_6 o k117 n v1_111 v2_111 (w32 (v3 + 1)) m_111) FU v1 v2 0 m
def F9_arrange (m : Mem) (o : Nat)  : Option (Int × Mem) :=
  L9_arrange_6 o (fun (v2_117 : Int) (m_117 : Mem) =>
    if v2_117 ≠ (rd m_117 o 0) then
      some (0, m_117)
    else
    some (1, m_117)) FU 0 0 0 m
def L9_growAsTold_10 (o : Nat) (k59 : Mem → Option Mem) : Nat → Int → Mem → Option Mem
  | 0, _, _ => none
  | n + 1, v2, m =>
    if (rd m o 0) ≤ v2 then
      k59 m
    else
    b1 (F1_motherOf m v2) fun r25 =>
    gd (0 ≤ v2 ∧ v2 < 12) <|
    stw m (o + 1) v2 r25 fun m28 =>
    gd (0 ≤ v2 ∧ v2 < 12) <|
    gd (0 ≤ v2 ∧ v2 < 12) <|
    stw m28 (o + 2) v2 (rd m28 5 v2) fun m40 =>
    gd (0 ≤ v2 ∧ v2 < 12) <|
    gd (0 ≤ v2 ∧ v2 < 12) <|
    stw m40 (o + 3) v2 (rd m40 6 v2) fun m52 =>
    L9_growAsTold_10 o k59 n (w32 (v2 + 1)) m52
def F9_growAsTold (m : Mem) (o : Nat)  : Option Mem :=
  stw m o 0 (rd m 4 0) fun m5 =>
  L9_growAsTold_10 o (fun (m_59 : Mem) =>
    b1 (F9_takeCosts m_59 o) fun m61 =>
    b2 (F9_arrange m61 o) fun r65 m65 =>
    some m65) FU 0 m5
def L9_write_2 (o : Nat) (v2 : Int) : Nat → Int → Mem → Option Mem
  | 0, _, _ => none
  | n + 1, v3, m =>
    if (rd m o 0) ≤ v3 then
      some m
    else
    b1 (F1_told m v3 v2) fun r18 =>
    gd (0 ≤ v3 ∧ v3 < 12) <|
    stw m (o + 5) v3 r18 fun m21 =>
    L9_write_2 o v2 n (w32 (v3 + 1)) m21
def F9_write (m : Mem) (o : Nat) (v2 : Int) : Option Mem :=
  L9_write_2 o v2 FU 0 m
def L9_smallestBelow_5 (m : Mem) (o : Nat) (v1 : Int) : Nat → Int → Int → Option Int
  | 0, _, _ => none
  | n + 1, v2, v3 =>
    if 4 ≤ v3 then
      some v2
    else
    gd (0 ≤ w32 ((w32 (v1 * 4)) + v3) ∧ w32 ((w32 (v1 * 4)) + v3) < 48) <|
    L9_smallestBelow_5 m o v1 n (imn v2 (rd m (o + 9) (w32 ((w32 (v1 * 4)) + v3)))) (w32 (v3 + 1))
def F9_smallestBelow (m : Mem) (o : Nat) (v1 : Int) : Option Int :=
  L9_smallestBelow_5 m o v1 FU 16777216 0
def L9_hang_61 (m : Mem) (o : Nat) (v1 : Int) (v4 : Int) (v5 : Int) (k105 : Int → Option Mem) : Nat → Int → Int → Option Mem
  | 0, _, _ => none
  | n + 1, v6, v7 =>
    if v4 < v7 then
      k105 v6
    else
    gd (0 ≤ w32 ((w32 (v5 * 4)) + v7) ∧ w32 ((w32 (v5 * 4)) + v7) < 16) <|
    gd (0 ≤ w32 ((w32 (v1 * 4)) + v7) ∧ w32 ((w32 (v1 * 4)) + v7) < 48) <|
    L9_hang_61 m o v1 v4 v5 k105 n (imn v6 (w32 ((rd m (o + 8) (w32 ((w32 (v5 * 4)) + v7))) + (rd m (o + 9) (w32 ((w32 (v1 * 4)) + v7)))))) (w32 (v7 + 1))
def L9_hang_48 (o : Nat) (v1 : Int) (v2 : Int) (v3 : Int) (v4 : Int) : Nat → Int → Mem → Option Mem
  | 0, _, _ => none
  | n + 1, v5, m =>
    if 4 ≤ v5 then
      some m
    else
    L9_hang_61 m o v1 v4 v5 (fun (v6_105 : Int) =>
      gd (0 ≤ w32 ((w32 (v1 * 4)) + v5) ∧ w32 ((w32 (v1 * 4)) + v5) < 48) <|
      stw m (o + 11) (w32 ((w32 (v1 * 4)) + v5)) v6_105 fun m117 =>
      gd (0 ≤ w32 ((w32 (v2 * 4)) + v5) ∧ w32 ((w32 (v2 * 4)) + v5) < 48) <|
      gd (0 ≤ w32 ((w32 (v2 * 4)) + v5) ∧ w32 ((w32 (v2 * 4)) + v5) < 48) <|
      stw m117 (o + 9) (w32 ((w32 (v2 * 4)) + v5)) (w32 ((rd m117 (o + 9) (w32 ((w32 (v2 * 4)) + v5))) + v6_105)) fun m133 =>
      L9_hang_48 o v1 v2 v3 v4 n (w32 (v5 + 1)) m133) FU 16777216 v3
def F9_hang (m : Mem) (o : Nat) (v1 v2 : Int) : Option Mem :=
  gd (0 ≤ v1 ∧ v1 < 12) <|
  jn (fun (K21 : Int → Option Mem) =>
    if (rd m (o + 5) v1) ≠ 9 then
      gd (0 ≤ v1 ∧ v1 < 12) <|
      K21 (rd m (o + 5) v1)
    else
    K21 0)
    (fun (x21 : Int) =>
    gd (0 ≤ v1 ∧ v1 < 12) <|
    jn (fun (K43 : Int → Option Mem) =>
      if (rd m (o + 5) v1) ≠ 9 then
        gd (0 ≤ v1 ∧ v1 < 12) <|
        K43 (rd m (o + 5) v1)
      else
      K43 3)
      (fun (x43 : Int) =>
      L9_hang_48 o v1 v2 x21 x43 FU 0 m))
def L9_least_12 (o : Nat) (v1 : Int) (k60 : Mem → Option (Int × Mem)) : Nat → Int → Mem → Option (Int × Mem)
  | 0, _, _ => none
  | n + 1, v2, m =>
    if 4 ≤ v2 then
      k60 m
    else
    gd (0 ≤ v1 ∧ v1 < 12) <|
    jn (fun (K53 : Int → Option (Int × Mem)) =>
      jn (fun (K47 : Option (Int × Mem)) =>
        if (rd m (o + 5) v1) = 9 then
          K47
        else
        gd (0 ≤ v1 ∧ v1 < 12) <|
        if (rd m (o + 5) v1) ≠ v2 then
          K53 16777216
        else
        K47)
        (  K53 0))
      (fun (x53 : Int) =>
      gd (0 ≤ w32 ((w32 (v1 * 4)) + v2) ∧ w32 ((w32 (v1 * 4)) + v2) < 48) <|
      stw m (o + 9) (w32 ((w32 (v1 * 4)) + v2)) x53 fun m53 =>
      L9_least_12 o v1 k60 n (w32 (v2 + 1)) m53)
def L9_least_2 (o : Nat) (k66 : Mem → Option (Int × Mem)) : Nat → Int → Mem → Option (Int × Mem)
  | 0, _, _ => none
  | n + 1, v1, m =>
    if (rd m o 0) ≤ v1 then
      k66 m
    else
    L9_least_12 o v1 (fun (m_60 : Mem) =>
      L9_least_2 o k66 n (w32 (v1 + 1)) m_60) FU 0 m
def L9_least_75 (o : Nat) : Nat → Int → Int → Mem → Option (Int × Mem)
  | 0, _, _, _ => none
  | n + 1, v1, v2, m =>
    if v2 < 0 then
      some (v1, m)
    else
    gd (0 ≤ v2 ∧ v2 < 12) <|
    gd (0 ≤ rd m (o + 7) v2 ∧ rd m (o + 7) v2 < 12) <|
    jn (fun (K117 : Int → Mem → Option (Int × Mem)) =>
      if 0 ≤ (rd m (o + 1) (rd m (o + 7) v2)) then
        gd (0 ≤ rd m (o + 7) v2 ∧ rd m (o + 7) v2 < 12) <|
        b1 (F9_hang m o (rd m (o + 7) v2) (rd m (o + 1) (rd m (o + 7) v2))) fun m114 =>
        K117 v1 m114
      else
      b1 (F9_smallestBelow m o (rd m (o + 7) v2)) fun r98 =>
      K117 (w32 (v1 + r98)) m)
      (fun (v1_117 : Int) (m_117 : Mem) =>
      L9_least_75 o n v1_117 (w32 (v2 + (-1))) m_117)
def F9_least (m : Mem) (o : Nat)  : Option (Int × Mem) :=
  L9_least_2 o (fun (m_66 : Mem) =>
    L9_least_75 o FU 0 (w32 ((rd m_66 o 0) - 1)) m_66) FU 0 m
def L10_cost_29 (v1 : Int) : Nat → Int → Int → Mem → Option (Int × Mem)
  | 0, _, _, _ => none
  | n + 1, v2, v3, m =>
    if 16 ≤ v3 then
      some (v2, m)
    else
    jn (fun (K67 : Int → Mem → Option (Int × Mem)) =>
      jn (fun (K45 : Option (Int × Mem)) =>
        if v1 = (-1) then
          K45
        else
        if v1 ≠ v3 then
          K67 v2 m
        else
        K45)
        (  b1 (F9_write m 14 v3) fun m54 =>
        b2 (F9_least m54 14) fun r62 m62 =>
        K67 (w32 (v2 + r62)) m62))
      (fun (v2_67 : Int) (m_67 : Mem) =>
      L10_cost_29 v1 n v2_67 (w32 (v3 + 1)) m_67)
def F10_cost (m : Mem) (v1 : Int) : Option (Int × Mem) :=
  jn (fun (K14 : Option (Int × Mem)) =>
    if v1 = (-1) then
      K14
    else
    if (F10_isClause v1) ≠ 0 then
      K14
    else
    some ((-1), m))
    (  b1 (F9_growAsTold m 14) fun m22 =>
    L10_cost_29 v1 FU 0 0 m22)
def L9_besideBranch_7 (m : Mem) (o : Nat) (v1 : Int) (v2 : Int) (v3 : Int) : Nat → Int → Int → Option Int
  | 0, _, _ => none
  | n + 1, v4, v5 =>
    if 4 ≤ v5 then
      some v4
    else
    gd (0 ≤ w32 ((w32 (v2 * 4)) + v5) ∧ w32 ((w32 (v2 * 4)) + v5) < 48) <|
    gd (0 ≤ w32 ((w32 (v2 * 4)) + v5) ∧ w32 ((w32 (v2 * 4)) + v5) < 48) <|
    gd (0 ≤ w32 ((w32 (v1 * 4)) + v5) ∧ w32 ((w32 (v1 * 4)) + v5) < 48) <|
    gd (0 ≤ w32 ((w32 (v5 * 4)) + v3) ∧ w32 ((w32 (v5 * 4)) + v3) < 16) <|
    L9_besideBranch_7 m o v1 v2 v3 n (imn v4 (w32 ((w32 ((w32 ((rd m (o + 10) (w32 ((w32 (v2 * 4)) + v5))) + (rd m (o + 9) (w32 ((w32 (v2 * 4)) + v5))))) - (rd m (o + 11) (w32 ((w32 (v1 * 4)) + v5))))) + (rd m (o + 8) (w32 ((w32 (v5 * 4)) + v3)))))) (w32 (v5 + 1))
def F9_besideBranch (m : Mem) (o : Nat) (v1 v2 v3 : Int) : Option Int :=
  L9_besideBranch_7 m o v1 v2 v3 FU 16777216 0
def L9_spread_27 (o : Nat) (v2 : Int) (v3 : Int) (k66 : Mem → Option Mem) : Nat → Int → Mem → Option Mem
  | 0, _, _ => none
  | n + 1, v4, m =>
    if 4 ≤ v4 then
      k66 m
    else
    jn (fun (K59 : Int → Option Mem) =>
      if 0 ≤ v3 then
        b1 (F9_besideBranch m o v2 v3 v4) fun r56 =>
        K59 r56
      else
      K59 0)
      (fun (x59 : Int) =>
      gd (0 ≤ w32 ((w32 (v2 * 4)) + v4) ∧ w32 ((w32 (v2 * 4)) + v4) < 48) <|
      stw m (o + 10) (w32 ((w32 (v2 * 4)) + v4)) x59 fun m59 =>
      L9_spread_27 o v2 v3 k66 n (w32 (v4 + 1)) m59)
def L9_spread_2 (o : Nat) : Nat → Int → Mem → Option Mem
  | 0, _, _ => none
  | n + 1, v1, m =>
    if (rd m o 0) ≤ v1 then
      some m
    else
    gd (0 ≤ v1 ∧ v1 < 12) <|
    gd (0 ≤ rd m (o + 7) v1 ∧ rd m (o + 7) v1 < 12) <|
    L9_spread_27 o (rd m (o + 7) v1) (rd m (o + 1) (rd m (o + 7) v1)) (fun (m_66 : Mem) =>
      L9_spread_2 o n (w32 (v1 + 1)) m_66) FU 0 m
def F9_spread (m : Mem) (o : Nat)  : Option Mem :=
  L9_spread_2 o FU 0 m
def L9_maybe_8 (m : Mem) (o : Nat) (v1 : Int) : Nat → Int → Int → Int → Option Int
  | 0, _, _, _ => none
  | n + 1, v2, v3, v4 =>
    if 4 ≤ v4 then
      some v3
    else
    gd (0 ≤ w32 ((w32 (v1 * 4)) + v4) ∧ w32 ((w32 (v1 * 4)) + v4) < 48) <|
    gd (0 ≤ w32 ((w32 (v1 * 4)) + v4) ∧ w32 ((w32 (v1 * 4)) + v4) < 48) <|
    jn (fun (K50 : Int → Int → Option Int) =>
      if v2 ≤ (w32 ((rd m (o + 9) (w32 ((w32 (v1 * 4)) + v4))) + (rd m (o + 10) (w32 ((w32 (v1 * 4)) + v4))))) then
        K50 v2 v3
      else
      K50 (w32 ((rd m (o + 9) (w32 ((w32 (v1 * 4)) + v4))) + (rd m (o + 10) (w32 ((w32 (v1 * 4)) + v4))))) 0)
      (fun (v2_50 : Int) (v3_50 : Int) =>
      jn (fun (K63 : Int → Option Int) =>
        if (w32 ((rd m (o + 9) (w32 ((w32 (v1 * 4)) + v4))) + (rd m (o + 10) (w32 ((w32 (v1 * 4)) + v4))))) ≠ v2_50 then
          K63 v3_50
        else
        K63 (bor v3_50 (shl 1 v4)))
        (fun (v3_63 : Int) =>
        L9_maybe_8 m o v1 n v2_50 v3_63 (w32 (v4 + 1))))
def F9_maybe (m : Mem) (o : Nat) (v1 : Int) : Option Int :=
  L9_maybe_8 m o v1 FU 16777216 0 0
def F4_burntForms (m : Mem) (v1 v2 : Int) : Option (Int × Mem) :=
  b1 (F9_growAsTold m 14) fun m8 =>
  b1 (F9_write m8 14 v2) fun m20 =>
  gd (0 ≤ v1 ∧ v1 < 12) <|
  stw m20 19 v1 9 fun m33 =>
  b2 (F9_least m33 14) fun r38 m38 =>
  b1 (F9_spread m38 14) fun m46 =>
  b1 (F9_maybe m46 14 v1) fun r54 =>
  some (r54, m46)
def F10_filled (m : Mem) (v1 v2 : Int) : Option (Int × Mem) :=
  if (F1_has m v1) = 0 then
    some ((-1), m)
  else
  if (F10_isClause v2) ≠ 0 then
    b1 (F1_told m v1 v2) fun r26 =>
    if r26 = 9 then
      b2 (F4_burntForms m v1 v2) fun r48 m48 =>
      some (r48, m48)
    else
    some (shl 1 r26, m)
  else
  some ((-1), m)
def L9_firstLate_4 (o : Nat) : Nat → Int → Int → Mem → Option (Int × Mem)
  | 0, _, _, _ => none
  | n + 1, v1, v2, m =>
    if (rd m o 0) ≤ v2 then
      some (v1, m)
    else
    gd (0 ≤ v2 ∧ v2 < 12) <|
    gd (0 ≤ rd m (o + 7) v2 ∧ rd m (o + 7) v2 < 12) <|
    gd (0 ≤ rd m (o + 7) v2 ∧ rd m (o + 7) v2 < 12) <|
    stw m (o + 4) (rd m (o + 7) v2) (rd m (o + 2) (rd m (o + 7) v2)) fun m30 =>
    gd (0 ≤ rd m (o + 7) v2 ∧ rd m (o + 7) v2 < 12) <|
    jn (fun (K94 : Int → Mem → Option (Int × Mem)) =>
      if (rd m30 (o + 1) (rd m (o + 7) v2)) < 0 then
        K94 v1 m30
      else
      gd (0 ≤ rd m (o + 7) v2 ∧ rd m (o + 7) v2 < 12) <|
      gd (0 ≤ rd m (o + 7) v2 ∧ rd m (o + 7) v2 < 12) <|
      gd (0 ≤ rd m30 (o + 1) (rd m (o + 7) v2) ∧ rd m30 (o + 1) (rd m (o + 7) v2) < 12) <|
      gd (0 ≤ rd m (o + 7) v2 ∧ rd m (o + 7) v2 < 12) <|
      stw m30 (o + 4) (rd m (o + 7) v2) (imx (rd m30 (o + 2) (rd m (o + 7) v2)) (w32 ((rd m30 (o + 4) (rd m30 (o + 1) (rd m (o + 7) v2))) + 1))) fun m67 =>
      gd (0 ≤ rd m (o + 7) v2 ∧ rd m (o + 7) v2 < 12) <|
      gd (0 ≤ rd m (o + 7) v2 ∧ rd m (o + 7) v2 < 12) <|
      if (rd m67 (o + 4) (rd m (o + 7) v2)) ≤ (rd m67 (o + 3) (rd m (o + 7) v2)) then
        K94 v1 m67
      else
      jn (fun (K92 : Option (Int × Mem)) =>
        if v1 < 0 then
          K92
        else
        if v1 ≤ (rd m (o + 7) v2) then
          K94 v1 m67
        else
        K92)
        (  K94 (rd m (o + 7) v2) m67))
      (fun (v1_94 : Int) (m_94 : Mem) =>
      L9_firstLate_4 o n v1_94 (w32 (v2 + 1)) m_94)
def F9_firstLate (m : Mem) (o : Nat)  : Option (Int × Mem) :=
  L9_firstLate_4 o FU (-1) 0 m
def L9_latestOf_2 (o : Nat) (k28 : Mem → Option (Int × Mem)) : Nat → Int → Mem → Option (Int × Mem)
  | 0, _, _ => none
  | n + 1, v2, m =>
    if (rd m o 0) ≤ v2 then
      k28 m
    else
    gd (0 ≤ v2 ∧ v2 < 12) <|
    gd (0 ≤ v2 ∧ v2 < 12) <|
    stw m (o + 6) v2 (rd m (o + 3) v2) fun m21 =>
    L9_latestOf_2 o k28 n (w32 (v2 + 1)) m21
def L9_latestOf_35 (o : Nat) (k94 : Mem → Option (Int × Mem)) : Nat → Int → Mem → Option (Int × Mem)
  | 0, _, _ => none
  | n + 1, v2, m =>
    if v2 < 0 then
      k94 m
    else
    gd (0 ≤ v2 ∧ v2 < 12) <|
    gd (0 ≤ rd m (o + 7) v2 ∧ rd m (o + 7) v2 < 12) <|
    jn (fun (K88 : Mem → Option (Int × Mem)) =>
      if (rd m (o + 1) (rd m (o + 7) v2)) < 0 then
        K88 m
      else
      gd (0 ≤ rd m (o + 7) v2 ∧ rd m (o + 7) v2 < 12) <|
      gd (0 ≤ rd m (o + 7) v2 ∧ rd m (o + 7) v2 < 12) <|
      gd (0 ≤ rd m (o + 1) (rd m (o + 7) v2) ∧ rd m (o + 1) (rd m (o + 7) v2) < 12) <|
      gd (0 ≤ rd m (o + 7) v2 ∧ rd m (o + 7) v2 < 12) <|
      gd (0 ≤ rd m (o + 1) (rd m (o + 7) v2) ∧ rd m (o + 1) (rd m (o + 7) v2) < 12) <|
      stw m (o + 6) (rd m (o + 1) (rd m (o + 7) v2)) (imn (rd m (o + 6) (rd m (o + 1) (rd m (o + 7) v2))) (w32 ((rd m (o + 6) (rd m (o + 7) v2)) - 1))) fun m87 =>
      K88 m87)
      (fun (m_88 : Mem) =>
      L9_latestOf_35 o k94 n (w32 (v2 + (-1))) m_88)
def F9_latestOf (m : Mem) (o : Nat) (v1 : Int) : Option (Int × Mem) :=
  L9_latestOf_2 o (fun (m_28 : Mem) =>
    L9_latestOf_35 o (fun (m_94 : Mem) =>
      gd (0 ≤ v1 ∧ v1 < 12) <|
      some (rd m_94 (o + 6) v1, m_94)) FU (w32 ((rd m_28 o 0) - 1)) m_28) FU 0 m
def F10_days (m : Mem) (v1 v2 : Int) : Option (Int × Mem) :=
  if (F1_has m v1) = 0 then
    some ((-1), m)
  else
  if v2 < 0 then
    some ((-1), m)
  else
  if v2 ≤ 2 then
    b1 (F9_growAsTold m 14) fun m30 =>
    b2 (F9_firstLate m30 14) fun r37 m37 =>
    if v2 ≠ 2 then
      if r37 < 0 then
        if v2 ≠ 0 then
          b2 (F9_latestOf m37 14 v1) fun r85 m85 =>
          some (r85, m85)
        else
        gd (0 ≤ v1 ∧ v1 < 12) <|
        some (rd m37 18 v1, m37)
      else
      some ((-2), m37)
    else
    if 0 ≤ r37 then
      some (r37, m37)
    else
    some ((-2), m37)
  else
  some ((-1), m)
def L0_placeOf_2 (m : Mem) (v1 : Int) : Nat → Int → Option Int
  | 0, _ => none
  | n + 1, v2 =>
    if (rd m 31 2) ≤ v2 then
      some ((-1))
    else
    gd (0 ≤ v2 ∧ v2 < 6) <|
    if (rd m 44 v2) ≠ v1 then
      L0_placeOf_2 m v1 n (w32 (v2 + 1))
    else
    some v2
def F0_placeOf (m : Mem) (v1 : Int) : Option Int :=
  L0_placeOf_2 m v1 FU 0
def F0_tell (m : Mem) (v1 : Int) : Option (Int × Mem) :=
  gd (0 ≤ rd m 31 2 ∧ rd m 31 2 < 6) <|
  stw m 44 (rd m 31 2) v1 fun m9 =>
  stw m9 31 2 (w32 ((rd m9 31 2) + 1)) fun m17 =>
  stw m17 31 14 (-1) fun m22 =>
  some (rd m22 31 2, m22)
def F10_list (m : Mem) (v1 : Int) : Option (Int × Mem) :=
  if (F1_has m v1) = 0 then
    some ((-1), m)
  else
  b1 (F0_placeOf m v1) fun r16 =>
  if r16 < 0 then
    if (rd m 31 2) < 6 then
      b2 (F0_tell m v1) fun r46 m46 =>
      some (r46, m46)
    else
    some ((-3), m)
  else
  some ((-1), m)
def F0_forget (m : Mem)  : Option (Int × Mem) :=
  stw m 31 2 0 fun m7 =>
  stw m7 31 14 (-1) fun m12 =>
  some (rd m 31 2, m12)
def F10_unlist (m : Mem)  : Option (Int × Mem) :=
  b2 (F0_forget m) fun r4 m4 =>
  some (r4, m4)
def L0_toldForms_4 (m : Mem) (v1 : Int) : Nat → Int → Int → Option Int
  | 0, _, _ => none
  | n + 1, v2, v3 =>
    if (rd m 31 2) ≤ v3 then
      some v2
    else
    gd (0 ≤ v3 ∧ v3 < 6) <|
    b1 (F1_told m (rd m 44 v3) v1) fun r23 =>
    jn (fun (K44 : Int → Option Int) =>
      if r23 ≠ 9 then
        K44 (shl 1 r23)
      else
      K44 0)
      (fun (x44 : Int) =>
      L0_toldForms_4 m v1 n (bor v2 x44) (w32 (v3 + 1)))
def F0_toldForms (m : Mem) (v1 : Int) : Option Int :=
  L0_toldForms_4 m v1 FU 0 0
def FJ6_bitCount_0f7a4 (v0 : Int) : Int :=
  band (w32 ((w32 ((band (w32 ((w32 ((band (w32 (v0 - (band (ush v0 1) 1431655765))) 858993459) + (band (ush (w32 (v0 - (band (ush v0 1) 1431655765))) 2) 858993459))) + (ush (w32 ((band (w32 (v0 - (band (ush v0 1) 1431655765))) 858993459) + (band (ush (w32 (v0 - (band (ush v0 1) 1431655765))) 2) 858993459))) 4))) 252645135) + (ush (band (w32 ((w32 ((band (w32 (v0 - (band (ush v0 1) 1431655765))) 858993459) + (band (ush (w32 (v0 - (band (ush v0 1) 1431655765))) 2) 858993459))) + (ush (w32 ((band (w32 (v0 - (band (ush v0 1) 1431655765))) 858993459) + (band (ush (w32 (v0 - (band (ush v0 1) 1431655765))) 2) 858993459))) 4))) 252645135) 8))) + (ush (w32 ((band (w32 ((w32 ((band (w32 (v0 - (band (ush v0 1) 1431655765))) 858993459) + (band (ush (w32 (v0 - (band (ush v0 1) 1431655765))) 2) 858993459))) + (ush (w32 ((band (w32 (v0 - (band (ush v0 1) 1431655765))) 858993459) + (band (ush (w32 (v0 - (band (ush v0 1) 1431655765))) 2) 858993459))) 4))) 252645135) + (ush (band (w32 ((w32 ((band (w32 (v0 - (band (ush v0 1) 1431655765))) 858993459) + (band (ush (w32 (v0 - (band (ush v0 1) 1431655765))) 2) 858993459))) + (ush (w32 ((band (w32 (v0 - (band (ush v0 1) 1431655765))) 858993459) + (band (ush (w32 (v0 - (band (ush v0 1) 1431655765))) 2) 858993459))) 4))) 252645135) 8))) 16))) 63
def L0_bound_24 (m : Mem) (v1 : Int) : Nat → Int → Int → Option Int
  | 0, _, _ => none
  | n + 1, v2, v3 =>
    if 16 ≤ v3 then
      some v2
    else
    b1 (F0_toldForms m v3) fun r32 =>
    L0_bound_24 m v1 n (w32 (v2 + (w32 ((imx 0 (w32 ((FJ6_bitCount_0f7a4 (shr r32 1)) - 1))) * v1)))) (w32 (v3 + 1))
def F0_bound (m : Mem)  : Option Int :=
  b1 (F1_costOf m 0) fun r5 =>
  b1 (F1_costOf m 2) fun r13 =>
  L0_bound_24 m (imn r5 r13) FU 0 0
def F9_stepOf (m : Mem) (o : Nat) (v1 v2 : Int) : Option Int :=
  gd (0 ≤ w32 ((w32 (v1 * 4)) + v2) ∧ w32 ((w32 (v1 * 4)) + v2) < 16) <|
  some (rd m (o + 8) (w32 ((w32 (v1 * 4)) + v2)))
def L0_sortClause_15 (m : Mem) (v1 : Int) (k69 : Option Mem) (k42 : Option Mem) : Nat → Int → Option Mem
  | 0, _ => none
  | n + 1, v2 =>
    if (rd m 31 2) ≤ v2 then
      k69
    else
    gd (0 ≤ v2 ∧ v2 < 6) <|
    b1 (F1_told m (rd m 44 v2) v1) fun r34 =>
    if r34 ≠ 9 then
      L0_sortClause_15 m v1 k69 k42 n (w32 (v2 + 1))
    else
    k42
def L0_sortClause_81 (v1 : Int) (v2 : Int) (k148 : Mem → Option Mem) : Nat → Int → Mem → Option Mem
  | 0, _, _ => none
  | n + 1, v3, m =>
    if (rd m 31 2) ≤ v3 then
      k148 m
    else
    gd (0 ≤ v2 ∧ v2 < 6) <|
    b1 (F1_told m (rd m 44 v2) v1) fun r104 =>
    gd (0 ≤ v3 ∧ v3 < 6) <|
    b1 (F1_told m (rd m 44 v3) v1) fun r118 =>
    b1 (F9_stepOf m 32 r104 r118) fun r121 =>
    gd (0 ≤ w32 ((w32 (v2 * 6)) + v3) ∧ w32 ((w32 (v2 * 6)) + v3) < 36) <|
    gd (0 ≤ w32 ((w32 (v2 * 6)) + v3) ∧ w32 ((w32 (v2 * 6)) + v3) < 36) <|
    stw m 48 (w32 ((w32 (v2 * 6)) + v3)) (w32 ((rd m 48 (w32 ((w32 (v2 * 6)) + v3))) + r121)) fun m141 =>
    L0_sortClause_81 v1 v2 k148 n (w32 (v3 + 1)) m141
def L0_sortClause_71 (v1 : Int) : Nat → Int → Mem → Option Mem
  | 0, _, _ => none
  | n + 1, v2, m =>
    if (rd m 31 2) ≤ v2 then
      some m
    else
    L0_sortClause_81 v1 v2 (fun (m_148 : Mem) =>
      L0_sortClause_71 v1 n (w32 (v2 + 1)) m_148) FU 0 m
def F0_sortClause (m : Mem) (v1 : Int) : Option Mem :=
  b1 (F0_toldForms m v1) fun r2 =>
  if 2 ≤ (FJ6_bitCount_0f7a4 r2) then
    L0_sortClause_15 m v1 (L0_sortClause_71 v1 FU 0 m) (gd (0 ≤ rd m 31 12 ∧ rd m 31 12 < 16) <|
    stw m 49 (rd m 31 12) v1 fun m51 =>
    stw m51 31 12 (w32 ((rd m51 31 12) + 1)) fun m59 =>
    some m59) FU 0
  else
  some m
def L0_entries_7 (m : Mem) (v1 : Int) (k77 : Int → Int → Option Int) : Nat → Int → Int → Int → Option Int
  | 0, _, _, _ => none
  | n + 1, v2, v3, v4 =>
    if 4 ≤ v4 then
      k77 v2 v3
    else
    jn (fun (K48 : Int → Option Int) =>
      if v4 ≠ 0 then
        b1 (F1_costOf m 0) fun r34 =>
        b1 (F1_costOf m 2) fun r42 =>
        K48 (imn r34 r42)
      else
      b1 (F1_costOf m 1) fun r23 =>
      K48 r23)
      (fun (x48 : Int) =>
      jn (fun (K71 : Int → Int → Option Int) =>
        if (band (shr v1 v4) 1) = 0 then
          K71 v2 v3
        else
        K71 (w32 (v2 + x48)) (imx v3 x48))
        (fun (v2_71 : Int) (v3_71 : Int) =>
        L0_entries_7 m v1 k77 n v2_71 v3_71 (w32 (v4 + 1))))
def F0_entries (m : Mem) (v1 : Int) : Option Int :=
  L0_entries_7 m v1 (fun (v2_77 : Int) (v3_77 : Int) =>
    some (w32 (v2_77 - v3_77))) FU 0 0 0
def L0_prepare_19 (k48 : Mem → Option Mem) : Nat → Int → Mem → Option Mem
  | 0, _, _ => none
  | n + 1, v1, m =>
    if v1 < 0 then
      k48 m
    else
    gd (0 ≤ w32 (v1 + 1) ∧ w32 (v1 + 1) < 7) <|
    gd (0 ≤ v1 ∧ v1 < 7) <|
    stw m 47 v1 (w32 ((rd m 47 (w32 (v1 + 1))) * (rd m 31 2))) fun m41 =>
    L0_prepare_19 k48 n (w32 (v1 + (-1))) m41
def L0_prepare_72 (k132 : Mem → Option Mem) : Nat → Int → Mem → Option Mem
  | 0, _, _ => none
  | n + 1, v1, m =>
    if (rd m 31 2) ≤ v1 then
      k132 m
    else
    gd (0 ≤ v1 ∧ v1 < 6) <|
    gd (0 ≤ rd m 44 v1 ∧ rd m 44 v1 < 12) <|
    gd (0 ≤ v1 ∧ v1 < 12) <|
    stw m 34 v1 (rd m 5 (rd m 44 v1)) fun m102 =>
    gd (0 ≤ v1 ∧ v1 < 6) <|
    gd (0 ≤ rd m102 44 v1 ∧ rd m102 44 v1 < 12) <|
    gd (0 ≤ v1 ∧ v1 < 12) <|
    stw m102 35 v1 (rd m102 6 (rd m102 44 v1)) fun m125 =>
    L0_prepare_72 k132 n (w32 (v1 + 1)) m125
def L0_prepare_147 (k164 : Mem → Option Mem) : Nat → Int → Mem → Option Mem
  | 0, _, _ => none
  | n + 1, v1, m =>
    if 16 ≤ v1 then
      k164 m
    else
    b1 (F0_sortClause m v1) fun m155 =>
    L0_prepare_147 k164 n (w32 (v1 + 1)) m155
def L0_prepare_181 : Nat → Int → Mem → Option Mem
  | 0, _, _ => none
  | n + 1, v1, m =>
    if v1 < 0 then
      some m
    else
    gd (0 ≤ w32 (v1 + 1) ∧ w32 (v1 + 1) < 17) <|
    gd (0 ≤ v1 ∧ v1 < 16) <|
    b1 (F0_toldForms m (rd m 49 v1)) fun r206 =>
    b1 (F0_entries m r206) fun r209 =>
    gd (0 ≤ v1 ∧ v1 < 17) <|
    stw m 50 v1 (w32 ((rd m 50 (w32 (v1 + 1))) + r209)) fun m213 =>
    L0_prepare_181 n (w32 (v1 + (-1))) m213
def F0_prepare (m : Mem)  : Option Mem :=
  gd (0 ≤ w32 ((rd m 31 2) - 1) ∧ w32 ((rd m 31 2) - 1) < 7) <|
  stw m 47 (w32 ((rd m 31 2) - 1)) 1 fun m11 =>
  L0_prepare_19 (fun (m_48 : Mem) =>
    stw m_48 32 0 (rd m_48 31 2) fun m56 =>
    b1 (F9_takeCosts m56 32) fun m67 =>
    L0_prepare_72 (fun (m_132 : Mem) =>
      b1 (FJ7_fill_53178 m_132 48 36 0) fun m137 =>
      stw m137 31 12 0 fun m142 =>
      L0_prepare_147 (fun (m_164 : Mem) =>
        gd (0 ≤ rd m_164 31 12 ∧ rd m_164 31 12 < 17) <|
        stw m_164 50 (rd m_164 31 12) 0 fun m173 =>
        L0_prepare_181 FU (w32 ((rd m173 31 12) - 1)) m173) FU 0 m142) FU 0 m67) FU (w32 ((rd m11 31 2) - 2)) m11
def F0_chosen (m : Mem) (v1 v2 : Int) : Option Int :=
  gd (0 ≤ v2 ∧ v2 < 7) <|
  gd (imx 1 (rd m 47 v2) ≠ 0) <|
  gd (imx 1 (rd m 31 2) ≠ 0) <|
  if (irm (idv v1 (imx 1 (rd m 47 v2))) (imx 1 (rd m 31 2))) ≠ (w32 ((rd m 31 2) - 1)) then
    if v2 ≤ (irm (idv v1 (imx 1 (rd m 47 v2))) (imx 1 (rd m 31 2))) then
      some (w32 ((irm (idv v1 (imx 1 (rd m 47 v2))) (imx 1 (rd m 31 2))) + 1))
    else
    some (irm (idv v1 (imx 1 (rd m 47 v2))) (imx 1 (rd m 31 2)))
  else
  some 9
def L0_closesRing_12 (m : Mem) (v1 : Int) (k45 : Int → Option Int) : Nat → Int → Int → Option Int
  | 0, _, _ => none
  | n + 1, v2, v3 =>
    if (rd m 31 2) ≤ v3 then
      k45 v2
    else
    if v2 < 0 then
      k45 v2
    else
    if v1 ≤ v2 then
      k45 v2
    else
    gd (0 ≤ v2 ∧ v2 < 12) <|
    L0_closesRing_12 m v1 k45 n (rd m 33 v2) (w32 (v3 + 1))
def F0_closesRing (m : Mem) (v1 : Int) : Option Int :=
  gd (0 ≤ v1 ∧ v1 < 12) <|
  L0_closesRing_12 m v1 (fun (v2_45 : Int) =>
    if v2_45 ≠ v1 then
      some 0
    else
    some 1) FU (rd m 33 v1) 0
def L0_grow_9 (v1 : Int) (k163 : Int → Mem → Option (Int × Mem)) (k46 : Int → Mem → Option (Int × Mem)) (k150 : Int → Mem → Option (Int × Mem)) : Nat → Int → Int → Mem → Option (Int × Mem)
  | 0, _, _, _ => none
  | n + 1, v2, v3, m =>
    if (rd m 31 2) ≤ v3 then
      k163 v2 m
    else
    b1 (F0_chosen m v1 v3) fun r20 =>
    jn (fun (K157 : Int → Mem → Option (Int × Mem)) =>
      if r20 ≠ 9 then
        gd (0 ≤ v3 ∧ v3 < 12) <|
        stw m 33 v3 r20 fun m68 =>
        gd (0 ≤ w32 ((w32 (r20 * 6)) + v3) ∧ w32 ((w32 (r20 * 6)) + v3) < 36) <|
        stw m68 31 13 (w32 ((rd m68 31 13) + (rd m68 48 (w32 ((w32 (r20 * 6)) + v3))))) fun m87 =>
        gd ((0 : Int) ≤ 0 ∧ (0 : Int) < 17) <|
        jn (fun (K113 : Int → Option (Int × Mem)) =>
          if (w32 ((rd m87 31 13) + (rd m87 50 0))) ≤ (rd m87 31 4) then
            K113 0
          else
          K113 1)
          (fun (x113 : Int) =>
          if x113 ≠ 0 then
            k150 v3 m87
          else
          gd (0 ≤ r20 ∧ r20 < 12) <|
          gd (0 ≤ v3 ∧ v3 < 12) <|
          if (rd m87 35 v3) ≤ (rd m87 34 r20) then
            k150 v3 m87
          else
          b1 (F0_closesRing m87 v3) fun r144 =>
          if r144 = 0 then
            K157 v2 m87
          else
          k150 v3 m87)
      else
      gd (0 ≤ v3 ∧ v3 < 12) <|
      stw m 33 v3 (-1) fun m41 =>
      if v2 = 0 then
        K157 1 m41
      else
      k46 v3 m41)
      (fun (v2_157 : Int) (m_157 : Mem) =>
      L0_grow_9 v1 k163 k46 k150 n v2_157 (w32 (v3 + 1)) m_157)
def F0_grow (m : Mem) (v1 : Int) : Option (Int × Mem) :=
  stw m 31 13 0 fun m4 =>
  L0_grow_9 v1 (fun (v2_163 : Int) (m_163 : Mem) =>
    if v2_163 = 0 then
      some (1, m_163)
    else
    some (0, m_163)) (fun (v3_46 : Int) (m_46 : Mem) =>
    gd (0 ≤ v3_46 ∧ v3_46 < 7) <|
    some (rd m_46 47 v3_46, m_46)) (fun (v3_150 : Int) (m_150 : Mem) =>
    gd (0 ≤ v3_150 ∧ v3_150 < 7) <|
    some (rd m_150 47 v3_150, m_150)) FU 0 0 m4
def L0_writeClause_2 (v1 : Int) : Nat → Int → Mem → Option Mem
  | 0, _, _ => none
  | n + 1, v2, m =>
    if (rd m 31 2) ≤ v2 then
      some m
    else
    gd (0 ≤ v2 ∧ v2 < 6) <|
    b1 (F1_told m (rd m 44 v2) v1) fun r29 =>
    gd (0 ≤ v2 ∧ v2 < 12) <|
    stw m 37 v2 r29 fun m32 =>
    L0_writeClause_2 v1 n (w32 (v2 + 1)) m32
def F0_writeClause (m : Mem) (v1 : Int) : Option Mem :=
  L0_writeClause_2 v1 FU 0 m
def L0_weigh_28 (k78 : Int → Mem → Option Mem) : Nat → Int → Int → Mem → Option Mem
  | 0, _, _, _ => none
  | n + 1, v2, v3, m =>
    if (rd m 31 12) ≤ v3 then
      k78 v2 m
    else
    gd (0 ≤ v3 ∧ v3 < 17) <|
    if (w32 (v2 + (rd m 50 v3))) ≤ (rd m 31 4) then
      gd (0 ≤ v3 ∧ v3 < 16) <|
      b1 (F0_writeClause m (rd m 49 v3)) fun m59 =>
      b2 (F9_least m59 32) fun r67 m67 =>
      L0_weigh_28 k78 n (w32 (v2 + r67)) (w32 (v3 + 1)) m67
    else
    some m
def L0_weigh_144 (v1 : Int) : Nat → Int → Mem → Option Mem
  | 0, _, _ => none
  | n + 1, v3, m =>
    if (rd m 31 2) ≤ v3 then
      some m
    else
    gd (0 ≤ v3 ∧ v3 < 6) <|
    b1 (F0_chosen m v1 v3) fun r163 =>
    gd (0 ≤ v3 ∧ v3 < 6) <|
    stw m 46 v3 (bor (rd m 46 v3) (shl 1 r163)) fun m168 =>
    L0_weigh_144 v1 n (w32 (v3 + 1)) m168
def F0_weigh (m : Mem) (v1 : Int) : Option Mem :=
  b2 (F9_arrange m 32) fun r4 m4 =>
  if r4 = 0 then
    some m4
  else
  b2 (F9_firstLate m4 32) fun r14 m14 =>
  if r14 < 0 then
    L0_weigh_28 (fun (v2_78 : Int) (m_78 : Mem) =>
      jn (fun (K104 : Mem → Option Mem) =>
        if (rd m_78 31 4) ≤ v2_78 then
          K104 m_78
        else
        stw m_78 31 4 v2_78 fun m88 =>
        stw m88 31 3 0 fun m93 =>
        b1 (FJ7_fill_53178 m93 46 6 0) fun m101 =>
        K104 m101)
        (fun (m_104 : Mem) =>
        if v2_78 ≠ (rd m_104 31 4) then
          some m_104
        else
        if 7776 ≤ (rd m_104 31 3) then
          some m_104
        else
        gd (0 ≤ rd m_104 31 3 ∧ rd m_104 31 3 < 7776) <|
        stw m_104 45 (rd m_104 31 3) v1 fun m131 =>
        stw m131 31 3 (w32 ((rd m131 31 3) + 1)) fun m139 =>
        L0_weigh_144 v1 FU 0 m139)) FU (rd m14 31 13) 0 m14
  else
  some m14
def L0_find_63 (v1 : Int) : Nat → Int → Mem → Option Mem
  | 0, _, _ => none
  | n + 1, v2, m =>
    if v1 ≤ v2 then
      some m
    else
    b2 (F0_grow m v2) fun r70 m70 =>
    jn (fun (K83 : Mem → Option Mem) =>
      if r70 ≠ 0 then
        K83 m70
      else
      b1 (F0_weigh m70 v2) fun m80 =>
      K83 m80)
      (fun (m_83 : Mem) =>
      gd (imx 1 r70 ≠ 0) <|
      L0_find_63 v1 n (w32 ((w32 ((idv v2 (imx 1 r70)) + 1)) * (imx 1 r70))) m_83)
def F0_find (m : Mem)  : Option Mem :=
  if (rd m 31 14) = (rd m 4 12) then
    some m
  else
  if 2 ≤ (rd m 31 2) then
    stw m 31 14 (rd m 4 12) fun m31 =>
    stw m31 31 3 0 fun m36 =>
    stw m36 31 4 16777216 fun m42 =>
    b1 (F0_prepare m42) fun m46 =>
    gd ((0 : Int) ≤ 0 ∧ (0 : Int) < 7) <|
    L0_find_63 (w32 ((rd m46 47 0) * (rd m46 31 2))) FU 0 m46
  else
  some m
def L0_sure_4 (m : Mem) : Nat → Int → Int → Option Int
  | 0, _, _ => none
  | n + 1, v1, v2 =>
    if (rd m 31 2) ≤ v2 then
      some v1
    else
    gd (0 ≤ v2 ∧ v2 < 6) <|
    jn (fun (K33 : Int → Option Int) =>
      if (FJ6_bitCount_0f7a4 (rd m 46 v2)) ≠ 1 then
        K33 0
      else
      K33 (shl 1 v2))
      (fun (x33 : Int) =>
      L0_sure_4 m n (bor v1 x33) (w32 (v2 + 1)))
def F0_sure (m : Mem)  : Option Int :=
  L0_sure_4 m FU 0 0
def F10_best (m : Mem) (v1 : Int) : Option (Int × Mem) :=
  if v1 < 0 then
    some ((-1), m)
  else
  if v1 ≤ 4 then
    if 2 ≤ (rd m 31 2) then
      if v1 ≠ 3 then
        b1 (F0_find m) fun m42 =>
        if (rd m42 31 3) ≠ 0 then
          if v1 = 0 then
            some (rd m42 31 4, m42)
          else
          if v1 = 1 then
            some (rd m42 31 3, m42)
          else
          if v1 = 2 then
            b1 (F0_sure m42) fun r104 =>
            some (r104, m42)
          else
          b1 (F0_bound m42) fun r119 =>
          some (w32 ((rd m42 31 4) - r119), m42)
        else
        some ((-2), m42)
      else
      b1 (F0_bound m) fun r34 =>
      some (r34, m)
    else
    some ((-5), m)
  else
  some ((-1), m)
def F0_motherPlace (m : Mem) (v1 v2 : Int) : Option Int :=
  gd (0 ≤ v1 ∧ v1 < 7776) <|
  b1 (F0_chosen m (rd m 45 v1) v2) fun r8 =>
  some r8
def F10_tree (m : Mem) (v1 v2 : Int) : Option (Int × Mem) :=
  if v1 < 0 then
    some ((-1), m)
  else
  if v2 < 0 then
    some ((-1), m)
  else
  if v2 < (rd m 31 2) then
    if 2 ≤ (rd m 31 2) then
      b1 (F0_find m) fun m39 =>
      if (rd m39 31 3) ≠ 0 then
        if v1 < (rd m39 31 3) then
          b1 (F0_motherPlace m39 v1 v2) fun r76 =>
          some (r76, m39)
        else
        some ((-1), m39)
      else
      some ((-2), m39)
    else
    some ((-5), m)
  else
  some ((-1), m)
def F0_neverMothers (m : Mem) (v1 : Int) : Option Int :=
  gd (0 ≤ v1 ∧ v1 < 6) <|
  some (band (bxor (rd m 46 v1) (-1)) (w32 ((shl 1 (rd m 31 2)) - 1)))
def F10_never (m : Mem) (v1 : Int) : Option (Int × Mem) :=
  if v1 < 0 then
    some ((-1), m)
  else
  if v1 < (rd m 31 2) then
    if 2 ≤ (rd m 31 2) then
      b1 (F0_find m) fun m35 =>
      if (rd m35 31 3) ≠ 0 then
        b1 (F0_neverMothers m35 v1) fun r58 =>
        some (r58, m35)
      else
      some ((-2), m35)
    else
    some ((-5), m)
  else
  some ((-1), m)
def F0_borneOut (m : Mem) (v1 v2 : Int) : Option Int :=
  gd (0 ≤ v1 ∧ v1 < 6) <|
  if (band (shr (rd m 46 v1) v2) 1) ≠ 0 then
    gd (0 ≤ v1 ∧ v1 < 6) <|
    if (FJ6_bitCount_0f7a4 (rd m 46 v1)) ≠ 1 then
      some 1
    else
    some 2
  else
  some 0
def F10_claim (m : Mem) (v1 : Int) : Option (Int × Mem) :=
  if (F1_has m v1) = 0 then
    some ((-1), m)
  else
  gd (0 ≤ v1 ∧ v1 < 12) <|
  if 0 ≤ (rd m 7 v1) then
    b1 (F0_placeOf m v1) fun r30 =>
    gd (0 ≤ v1 ∧ v1 < 12) <|
    b1 (F0_placeOf m (rd m 7 v1)) fun r47 =>
    if r30 < 0 then
      some ((-1), m)
    else
    if 0 ≤ r47 then
      b1 (F0_find m) fun m65 =>
      if (rd m65 31 3) ≠ 0 then
        b1 (F0_borneOut m65 r30 r47) fun r89 =>
        some (r89, m65)
      else
      some ((-2), m65)
    else
    some ((-1), m)
  else
  some ((-1), m)
def L4_lowest_2 (v0 : Int) : Nat → Int → Option Int
  | 0, _ => none
  | n + 1, v1 =>
    if 3 ≤ v1 then
      some v1
    else
    if (band (shr v0 v1) 1) ≠ 0 then
      some v1
    else
    L4_lowest_2 v0 n (w32 (v1 + 1))
def F4_lowest (v0 : Int) : Option Int :=
  L4_lowest_2 v0 FU 0
def L4_fillClause_29 (v1 : Int) : Nat → Int → Mem → Option Mem
  | 0, _, _ => none
  | n + 1, v2, m =>
    if (rd m 4 0) ≤ v2 then
      some m
    else
    b1 (F1_told m v2 v1) fun r46 =>
    jn (fun (K84 : Int → Option Mem) =>
      if r46 = 9 then
        b1 (F9_maybe m 14 v2) fun r78 =>
        b1 (F4_lowest r78) fun r81 =>
        K84 r81
      else
      K84 r46)
      (fun (x84 : Int) =>
      gd (0 ≤ F1_formCell v2 v1 ∧ F1_formCell v2 v1 < 192) <|
      stw m 27 (F1_formCell v2 v1) x84 fun m84 =>
      L4_fillClause_29 v1 n (w32 (v2 + 1)) m84)
def F4_fillClause (m : Mem) (v1 : Int) : Option Mem :=
  b1 (F9_write m 14 v1) fun m9 =>
  b2 (F9_least m9 14) fun r16 m16 =>
  b1 (F9_spread m16 14) fun m24 =>
  L4_fillClause_29 v1 FU 0 m24
def F4_filledForm (m : Mem) (v1 v2 : Int) : Option Int :=
  gd (0 ≤ F1_formCell v1 v2 ∧ F1_formCell v1 v2 < 192) <|
  some (rd m 27 (F1_formCell v1 v2))
def F4_paid (m : Mem) (v1 v2 : Int) : Option Int :=
  b1 (F1_motherOf m v1) fun r5 =>
  if 0 ≤ r5 then
    b1 (F4_filledForm m r5 v2) fun r24 =>
    b1 (F4_filledForm m v1 v2) fun r30 =>
    b1 (F9_stepOf m 14 r24 r30) fun r33 =>
    some r33
  else
  some 0
def F4_lends (m : Mem) (v1 v2 : Int) : Option Int :=
  b1 (F1_motherOf m v2) fun r6 =>
  jn (fun (K49 : Option Int) =>
    if v1 = r6 then
      K49
    else
    b1 (F1_isUnder m v1 v2) fun r18 =>
    if r18 ≠ 0 then
      K49
    else
    gd (0 ≤ v1 ∧ v1 < 12) <|
    gd (0 ≤ v2 ∧ v2 < 12) <|
    if (rd m 6 v2) ≤ (rd m 5 v1) then
      K49
    else
    some 1)
    (  some 0)
def L4_leastLender_2 (m : Mem) (v1 : Int) (v2 : Int) : Nat → Int → Option Int
  | 0, _ => none
  | n + 1, v3 =>
    if (rd m 4 0) ≤ v3 then
      some ((-2))
    else
    b1 (F4_filledForm m v3 v2) fun r16 =>
    b1 (F4_filledForm m v1 v2) fun r22 =>
    jn (fun (K39 : Option Int) =>
      if r16 ≠ r22 then
        K39
      else
      b1 (F4_lends m v3 v1) fun r31 =>
      if r31 = 0 then
        K39
      else
      some v3)
      (  L4_leastLender_2 m v1 v2 n (w32 (v3 + 1)))
def F4_leastLender (m : Mem) (v1 v2 : Int) : Option Int :=
  L4_leastLender_2 m v1 v2 FU 0
def L4_gainBeside_26 (m : Mem) (v4 : Int) (k64 : Int → Option Mem) : Nat → Int → Int → Option Mem
  | 0, _, _ => none
  | n + 1, v5, v6 =>
    if 4 ≤ v6 then
      k64 v5
    else
    jn (fun (K55 : Int → Option Mem) =>
      if (band (shr v4 v6) 1) = 0 then
        K55 0
      else
      gd (0 ≤ v6 ∧ v6 < 4) <|
      K55 (rd m 30 v6))
      (fun (x55 : Int) =>
      L4_gainBeside_26 m v4 k64 n (w32 (v5 + x55)) (w32 (v6 + 1)))
def L4_gainBeside_3 (v1 : Int) (v2 : Int) (v3 : Int) : Nat → Int → Mem → Option Mem
  | 0, _, _ => none
  | n + 1, v4, m =>
    if 16 ≤ v4 then
      some m
    else
    jn (fun (K102 : Mem → Option Mem) =>
      if (band v4 v1) = 0 then
        L4_gainBeside_26 m v4 (fun (v5_64 : Int) =>
          if 6 ≤ (w32 (v2 + (FJ6_bitCount_0f7a4 v4))) then
            K102 m
          else
          gd (0 ≤ w32 (v2 + (FJ6_bitCount_0f7a4 v4)) ∧ w32 (v2 + (FJ6_bitCount_0f7a4 v4)) < 6) <|
          gd (0 ≤ w32 (v2 + (FJ6_bitCount_0f7a4 v4)) ∧ w32 (v2 + (FJ6_bitCount_0f7a4 v4)) < 6) <|
          stw m 28 (w32 (v2 + (FJ6_bitCount_0f7a4 v4))) (imx (rd m 28 (w32 (v2 + (FJ6_bitCount_0f7a4 v4)))) v5_64) fun m101 =>
          K102 m101) FU v3 0
      else
      K102 m)
      (fun (m_102 : Mem) =>
      L4_gainBeside_3 v1 v2 v3 n (w32 (v4 + 1)) m_102)
def F4_gainBeside (m : Mem) (v1 v2 v3 : Int) : Option Mem :=
  L4_gainBeside_3 v1 v2 v3 FU 0 m
def L4_gainOfChapter_17 (m : Mem) (v1 : Int) (v2 : Int) (v3 : Int) (k73 : Int → Int → Option Mem) : Nat → Int → Int → Int → Option Mem
  | 0, _, _, _ => none
  | n + 1, v4, v5, v6 =>
    if 4 ≤ v6 then
      k73 v4 v5
    else
    b1 (F4_filledForm m v3 (w32 (v2 + v6))) fun r29 =>
    b1 (F4_filledForm m v1 (w32 (v2 + v6))) fun r38 =>
    jn (fun (K67 : Int → Int → Option Mem) =>
      if r29 ≠ r38 then
        K67 v4 v5
      else
      b1 (F4_paid m v1 (w32 (v2 + v6))) fun r61 =>
      K67 (bor v4 (shl 1 v6)) (w32 (v5 + r61)))
      (fun (v4_67 : Int) (v5_67 : Int) =>
      L4_gainOfChapter_17 m v1 v2 v3 k73 n v4_67 v5_67 (w32 (v6 + 1)))
def F4_gainOfChapter (m : Mem) (v1 v2 v3 : Int) : Option Mem :=
  b1 (F1_costOf m 4) fun r8 =>
  L4_gainOfChapter_17 m v1 v2 v3 (fun (v4_73 : Int) (v5_73 : Int) =>
    b1 (F4_gainBeside m v4_73 1 v5_73) fun m79 =>
    some m79) FU 0 (w32 (-r8)) 0
def L4_weighChapter_5 (v1 : Int) (v2 : Int) (k83 : Int → Mem → Option (Int × Mem)) : Nat → Int → Int → Mem → Option (Int × Mem)
  | 0, _, _, _ => none
  | n + 1, v3, v4, m =>
    if 4 ≤ v4 then
      k83 v3 m
    else
    b1 (F4_paid m v1 (w32 (v2 + v4))) fun r17 =>
    b1 (F4_leastLender m v1 (w32 (v2 + v4))) fun r28 =>
    jn (fun (K39 : Int → Option (Int × Mem)) =>
      if r28 < 0 then
        K39 0
      else
      K39 1)
      (fun (x39 : Int) =>
      jn (fun (K71 : Int → Option (Int × Mem)) =>
        if x39 = 0 then
          K71 0
        else
        b1 (F1_costOf m 3) fun r60 =>
        K71 (imx 0 (w32 (r17 - r60))))
        (fun (x71 : Int) =>
        gd (0 ≤ v4 ∧ v4 < 4) <|
        stw m 30 v4 x71 fun m71 =>
        L4_weighChapter_5 v1 v2 k83 n (w32 (v3 + r17)) (w32 (v4 + 1)) m71))
def L4_weighChapter_101 (v1 : Int) (v2 : Int) (v3 : Int) : Nat → Int → Mem → Option (Int × Mem)
  | 0, _, _ => none
  | n + 1, v4, m =>
    if (rd m 4 0) ≤ v4 then
      some (v3, m)
    else
    b1 (F4_lends m v4 v1) fun r117 =>
    jn (fun (K131 : Mem → Option (Int × Mem)) =>
      if r117 = 0 then
        K131 m
      else
      b1 (F4_gainOfChapter m v1 v2 v4) fun m128 =>
      K131 m128)
      (fun (m_131 : Mem) =>
      L4_weighChapter_101 v1 v2 v3 n (w32 (v4 + 1)) m_131)
def F4_weighChapter (m : Mem) (v1 v2 : Int) : Option (Int × Mem) :=
  L4_weighChapter_5 v1 v2 (fun (v3_83 : Int) (m_83 : Mem) =>
    b1 (FJ7_fill_53178 m_83 28 6 0) fun m88 =>
    b1 (F4_gainBeside m88 0 0 0) fun m95 =>
    L4_weighChapter_101 v1 v2 v3_83 FU 0 m95) FU 0 0 m
def L4_share_13 (v2 : Int) (k63 : Mem → Option Mem) : Nat → Int → Mem → Option Mem
  | 0, _, _ => none
  | n + 1, v3, m =>
    if 6 ≤ v3 then
      k63 m
    else
    if v2 < v3 then
      k63 m
    else
    gd (0 ≤ v2 ∧ v2 < 21) <|
    gd (0 ≤ w32 (v2 - v3) ∧ w32 (v2 - v3) < 21) <|
    gd (0 ≤ v3 ∧ v3 < 6) <|
    gd (0 ≤ v2 ∧ v2 < 21) <|
    stw m 29 v2 (imx (rd m 29 v2) (w32 ((rd m 29 (w32 (v2 - v3))) + (rd m 28 v3)))) fun m56 =>
    L4_share_13 v2 k63 n (w32 (v3 + 1)) m56
def L4_share_7 : Nat → Int → Mem → Option Mem
  | 0, _, _ => none
  | n + 1, v2, m =>
    if v2 ≤ 0 then
      some m
    else
    L4_share_13 v2 (fun (m_63 : Mem) =>
      L4_share_7 n (w32 (v2 + (-1))) m_63) FU 1 m
def F4_share (m : Mem) (v1 : Int) : Option Mem :=
  L4_share_7 FU (imn v1 20) m
def L4_leastWith_13 (k30 : Mem → Option (Int × Mem)) : Nat → Int → Mem → Option (Int × Mem)
  | 0, _, _ => none
  | n + 1, v2, m =>
    if 16 ≤ v2 then
      k30 m
    else
    b1 (F4_fillClause m v2) fun m21 =>
    L4_leastWith_13 k30 n (w32 (v2 + 1)) m21
def L4_leastWith_70 (v1 : Int) (v3 : Int) (k98 : Int → Mem → Option (Int × Mem)) : Nat → Int → Int → Mem → Option (Int × Mem)
  | 0, _, _, _ => none
  | n + 1, v2, v4, m =>
    if 16 ≤ v4 then
      k98 v2 m
    else
    b2 (F4_weighChapter m v3 v4) fun r82 m82 =>
    b1 (F4_share m82 v1) fun m89 =>
    L4_leastWith_70 v1 v3 k98 n (w32 (v2 + r82)) (w32 (v4 + 4)) m89
def L4_leastWith_42 (v1 : Int) (k104 : Int → Mem → Option (Int × Mem)) : Nat → Int → Int → Mem → Option (Int × Mem)
  | 0, _, _, _ => none
  | n + 1, v2, v3, m =>
    if (rd m 4 0) ≤ v3 then
      k104 v2 m
    else
    b1 (F1_motherOf m v3) fun r58 =>
    jn (fun (K98 : Int → Mem → Option (Int × Mem)) =>
      if 0 ≤ r58 then
        L4_leastWith_70 v1 v3 (fun (v2_98 : Int) (m_98 : Mem) =>
          K98 v2_98 m_98) FU v2 0 m
      else
      K98 v2 m)
      (fun (v2_98 : Int) (m_98 : Mem) =>
      L4_leastWith_42 v1 k104 n v2_98 (w32 (v3 + 1)) m_98)
def F4_leastWith (m : Mem) (v1 : Int) : Option (Int × Mem) :=
  b1 (F9_growAsTold m 14) fun m8 =>
  L4_leastWith_13 (fun (m_30 : Mem) =>
    b1 (FJ7_fill_53178 m_30 29 21 0) fun m35 =>
    L4_leastWith_42 v1 (fun (v2_104 : Int) (m_104 : Mem) =>
      gd (0 ≤ v1 ∧ v1 < 21) <|
      some (w32 (v2_104 - (rd m_104 29 v1)), m_104)) FU 0 0 m35) FU 0 m8
def F10_few (m : Mem) (v1 : Int) : Option (Int × Mem) :=
  jn (fun (K10 : Option (Int × Mem)) =>
    if v1 < 0 then
      K10
    else
    if v1 ≤ 20 then
      b2 (F4_leastWith m v1) fun r19 m19 =>
      some (r19, m19)
    else
    K10)
    (  some ((-1), m))
def F4_lender (m : Mem) (v1 v2 : Int) : Option (Int × Mem) :=
  b1 (F9_growAsTold m 14) fun m8 =>
  b1 (F4_fillClause m8 v2) fun m13 =>
  b1 (F4_paid m13 v1 v2) fun r19 =>
  b1 (F1_costOf m13 3) fun r27 =>
  jn (fun (K38 : Int → Option (Int × Mem)) =>
    if r19 ≤ r27 then
      K38 0
    else
    K38 1)
    (fun (x38 : Int) =>
    if x38 = 0 then
      some ((-2), m13)
    else
    b1 (F4_leastLender m13 v1 v2) fun r46 =>
    some (r46, m13))
def F10_from (m : Mem) (v1 v2 : Int) : Option (Int × Mem) :=
  jn (fun (K18 : Option (Int × Mem)) =>
    if (F1_has m v1) = 0 then
      K18
    else
    if (F10_isClause v2) ≠ 0 then
      b2 (F4_lender m v1 v2) fun r28 m28 =>
      some (r28, m28)
    else
    K18)
    (  some ((-1), m))
def L3_clash_5 (m : Mem) (v1 : Int) (v2 : Int) (k87 : Int → Option Int) : Nat → Int → Int → Option Int
  | 0, _, _ => none
  | n + 1, v3, v4 =>
    if (rd m 4 0) ≤ v4 then
      k87 v3
    else
    b1 (F1_told m v4 v1) fun r24 =>
    b1 (F1_told m v4 v2) fun r36 =>
    jn (fun (K81 : Int → Option Int) =>
      if r24 = 9 then
        K81 v3
      else
      if r36 = 9 then
        K81 v3
      else
      jn (fun (K67 : Int → Option Int) =>
        if r24 ≠ 0 then
          K67 1
        else
        K67 0)
        (fun (x67 : Int) =>
        jn (fun (K77 : Int → Option Int) =>
          if r36 ≠ 0 then
            K77 2
          else
          K77 0)
          (fun (x77 : Int) =>
          K81 (bor v3 (shl 1 (w32 (x67 + x77)))))))
      (fun (v3_81 : Int) =>
      L3_clash_5 m v1 v2 k87 n v3_81 (w32 (v4 + 1)))
def F3_clash (m : Mem) (v1 v2 : Int) : Option Int :=
  L3_clash_5 m v1 v2 (fun (v3_87 : Int) =>
    if v3_87 ≠ 15 then
      some 0
    else
    some 1) FU 0 0
def L3_pair_15 (m : Mem) (v1 : Int) (v3 : Int) (k54 : Int → Option Int) (k37 : Int → Option Int) : Nat → Int → Int → Option Int
  | 0, _, _ => none
  | n + 1, v2, v4 =>
    if 16 ≤ v4 then
      k54 v2
    else
    b1 (F3_clash m v3 v4) fun r26 =>
    jn (fun (K48 : Int → Option Int) =>
      if r26 = 0 then
        K48 v2
      else
      if v2 ≠ v1 then
        K48 (w32 (v2 + 1))
      else
      k37 v4)
      (fun (v2_48 : Int) =>
      L3_pair_15 m v1 v3 k54 k37 n v2_48 (w32 (v4 + 1)))
def L3_pair_4 (m : Mem) (v1 : Int) (k60 : Int → Option Int) (k37 : Int → Int → Option Int) : Nat → Int → Int → Option Int
  | 0, _, _ => none
  | n + 1, v2, v3 =>
    if 16 ≤ v3 then
      k60 v2
    else
    L3_pair_15 m v1 v3 (fun (v2_54 : Int) =>
      L3_pair_4 m v1 k60 k37 n v2_54 (w32 (v3 + 1))) (fun (v4_37 : Int) =>
      k37 v3 v4_37) FU v2 (w32 (v3 + 1))
def F3_pair (m : Mem) (v1 : Int) : Option Int :=
  L3_pair_4 m v1 (fun (v2_60 : Int) =>
    if v1 ≠ (-1) then
      some ((-1))
    else
    some v2_60) (fun (v3_37 : Int) (v4_37 : Int) =>
    some (w32 ((w32 (16 * v3_37)) + v4_37))) FU 0 0
def F10_pairs (m : Mem) (v1 : Int) : Option Int :=
  if (-1) ≤ v1 then
    b1 (F3_pair m v1) fun r14 =>
    some r14
  else
  some ((-1))
def L3_involve_22 (v2 : Int) (k77 : Int → Mem → Option (Int × Mem)) : Nat → Int → Int → Mem → Option (Int × Mem)
  | 0, _, _, _ => none
  | n + 1, v1, v3, m =>
    if 16 ≤ v3 then
      k77 v1 m
    else
    b1 (F3_clash m v2 v3) fun r31 =>
    jn (fun (K71 : Int → Mem → Option (Int × Mem)) =>
      if r31 = 0 then
        K71 v1 m
      else
      gd (0 ≤ v2 ∧ v2 < 16) <|
      gd (0 ≤ v2 ∧ v2 < 16) <|
      stw m 52 v2 (bor (rd m 52 v2) (shl 1 v3)) fun m48 =>
      gd (0 ≤ v3 ∧ v3 < 16) <|
      gd (0 ≤ v3 ∧ v3 < 16) <|
      stw m48 52 v3 (bor (rd m48 52 v3) (shl 1 v2)) fun m60 =>
      K71 (bor v1 (bor (shl 1 v2) (shl 1 v3))) m60)
      (fun (v1_71 : Int) (m_71 : Mem) =>
      L3_involve_22 v2 k77 n v1_71 (w32 (v3 + 1)) m_71)
def L3_involve_12 : Nat → Int → Int → Mem → Option (Int × Mem)
  | 0, _, _, _ => none
  | n + 1, v1, v2, m =>
    if 16 ≤ v2 then
      some (v1, m)
    else
    L3_involve_22 v2 (fun (v1_77 : Int) (m_77 : Mem) =>
      L3_involve_12 n v1_77 (w32 (v2 + 1)) m_77) FU v1 (w32 (v2 + 1)) m
def F3_involve (m : Mem)  : Option (Int × Mem) :=
  b1 (FJ7_fill_53178 m 52 16 0) fun m5 =>
  L3_involve_12 FU 0 0 m5
def L3_frees_2 (m : Mem) (v1 : Int) : Nat → Int → Option Int
  | 0, _ => none
  | n + 1, v2 =>
    if 16 ≤ v2 then
      some 1
    else
    jn (fun (K31 : Option Int) =>
      if (band (shr v1 v2) 1) ≠ 0 then
        K31
      else
      gd (0 ≤ v2 ∧ v2 < 16) <|
      if (band (rd m 52 v2) (bxor v1 (-1))) = 0 then
        K31
      else
      some 0)
      (  L3_frees_2 m v1 n (w32 (v2 + 1)))
def F3_frees (m : Mem) (v1 : Int) : Option Int :=
  L3_frees_2 m v1 FU 0
def L3_fewestOut_9 (m : Mem) (v1 : Int) : Nat → Int → Int → Option (Int × Mem)
  | 0, _, _ => none
  | n + 1, v2, v3 =>
    if v1 < v3 then
      some (v2, m)
    else
    jn (fun (K30 : Int → Option (Int × Mem)) =>
      if (FJ6_bitCount_0f7a4 v2) ≤ (FJ6_bitCount_0f7a4 v3) then
        K30 0
      else
      K30 1)
      (fun (x30 : Int) =>
      jn (fun (K55 : Int → Option (Int × Mem)) =>
        if (band v3 (bxor v1 (-1))) ≠ 0 then
          K55 v2
        else
        if x30 = 0 then
          K55 v2
        else
        b1 (F3_frees m v3) fun r47 =>
        if r47 = 0 then
          K55 v2
        else
        K55 v3)
        (fun (v2_55 : Int) =>
        L3_fewestOut_9 m v1 n v2_55 (w32 (v3 + 1))))
def F3_fewestOut (m : Mem)  : Option (Int × Mem) :=
  b2 (F3_involve m) fun r1 m1 =>
  L3_fewestOut_9 m1 r1 FU r1 0
def F10_freed (m : Mem)  : Option (Int × Mem) :=
  b2 (F3_fewestOut m) fun r4 m4 =>
  some (r4, m4)
def L2_holdWithout_2 (v1 : Int) (k49 : Mem → Option (Int × Mem)) : Nat → Int → Mem → Option (Int × Mem)
  | 0, _, _ => none
  | n + 1, v2, m =>
    if (rd m 54 0) ≤ v2 then
      k49 m
    else
    jn (fun (K42 : Int → Option (Int × Mem)) =>
      if (band (shr v1 v2) 1) = 0 then
        gd (0 ≤ v2 ∧ v2 < 12) <|
        K42 (rd m 7 v2)
      else
      K42 (-1))
      (fun (x42 : Int) =>
      gd (0 ≤ v2 ∧ v2 < 12) <|
      stw m 55 v2 x42 fun m42 =>
      L2_holdWithout_2 v1 k49 n (w32 (v2 + 1)) m42)
def F2_holdWithout (m : Mem) (v1 : Int) : Option (Int × Mem) :=
  L2_holdWithout_2 v1 (fun (m_49 : Mem) =>
    b2 (F9_arrange m_49 54) fun r53 m53 =>
    jn (fun (K73 : Mem → Option (Int × Mem)) =>
      if r53 = 0 then
        K73 m53
      else
      b2 (F9_firstLate m53 54) fun r63 m63 =>
      if 0 ≤ r63 then
        K73 m63
      else
      some (1, m63))
      (fun (m_73 : Mem) =>
      some (0, m_73))) FU 0 m
def L2_fewestOut_18 (k93 : Int → Mem → Option (Int × Mem)) : Nat → Int → Int → Mem → Option (Int × Mem)
  | 0, _, _, _ => none
  | n + 1, v1, v2, m =>
    if (rd m 4 0) ≤ v2 then
      k93 v1 m
    else
    gd (0 ≤ v2 ∧ v2 < 12) <|
    jn (fun (K49 : Int → Option (Int × Mem)) =>
      if 0 ≤ (rd m 7 v2) then
        K49 (shl 1 v2)
      else
      K49 0)
      (fun (x49 : Int) =>
      gd (0 ≤ v2 ∧ v2 < 12) <|
      gd (0 ≤ v2 ∧ v2 < 12) <|
      stw m 56 v2 (rd m 5 v2) fun m68 =>
      gd (0 ≤ v2 ∧ v2 < 12) <|
      gd (0 ≤ v2 ∧ v2 < 12) <|
      stw m68 57 v2 (rd m68 6 v2) fun m86 =>
      L2_fewestOut_18 k93 n (bor v1 x49) (w32 (v2 + 1)) m86)
def L2_fewestOut_97 (v1 : Int) : Nat → Int → Int → Mem → Option (Int × Mem)
  | 0, _, _, _ => none
  | n + 1, v2, v3, m =>
    if v1 < v3 then
      some (v2, m)
    else
    jn (fun (K118 : Int → Option (Int × Mem)) =>
      if (FJ6_bitCount_0f7a4 v2) ≤ (FJ6_bitCount_0f7a4 v3) then
        K118 0
      else
      K118 1)
      (fun (x118 : Int) =>
      jn (fun (K143 : Int → Mem → Option (Int × Mem)) =>
        if (band v3 (bxor v1 (-1))) ≠ 0 then
          K143 v2 m
        else
        if x118 = 0 then
          K143 v2 m
        else
        b2 (F2_holdWithout m v3) fun r135 m135 =>
        if r135 = 0 then
          K143 v2 m135
        else
        K143 v3 m135)
        (fun (v2_143 : Int) (m_143 : Mem) =>
        L2_fewestOut_97 v1 n v2_143 (w32 (v3 + 1)) m_143))
def F2_fewestOut (m : Mem)  : Option (Int × Mem) :=
  stw m 54 0 (rd m 4 0) fun m13 =>
  L2_fewestOut_18 (fun (v1_93 : Int) (m_93 : Mem) =>
    L2_fewestOut_97 v1_93 FU v1_93 0 m_93) FU 0 0 m13
def F10_doubt (m : Mem) (v1 : Int) : Option (Int × Mem) :=
  if v1 < 0 then
    some ((-1), m)
  else
  if v1 ≤ 1 then
    b2 (F2_fewestOut m) fun r15 m15 =>
    if v1 ≠ 0 then
      some (r15, m15)
    else
    some (FJ6_bitCount_0f7a4 r15, m15)
  else
  some ((-1), m)
def F10_law (m : Mem) (v1 v2 : Int) : Option (Int × Mem) :=
  jn (fun (K18 : Option (Int × Mem)) =>
    if (F1_has m v1) = 0 then
      K18
    else
    if (F10_isClause v2) ≠ 0 then
      b2 (F4_burntForms m v1 v2) fun r28 m28 =>
      some (r28, m28)
    else
    K18)
    (  some ((-1), m))
def L4_source_36 (m : Mem) (v2 : Int) (v3 : Int) (k70 : Int → Option (Int × Mem)) : Nat → Int → Int → Option (Int × Mem)
  | 0, _, _ => none
  | n + 1, v4, v5 =>
    if 12 ≤ v5 then
      some (v4, m)
    else
    b1 (F1_motherOf m v4) fun r49 =>
    if r49 < 0 then
      some (v4, m)
    else
    b1 (F4_filledForm m r49 v2) fun r63 =>
    if r63 = v3 then
      L4_source_36 m v2 v3 k70 n r49 (w32 (v5 + 1))
    else
    k70 v4
def F4_source (m : Mem) (v1 v2 : Int) : Option (Int × Mem) :=
  b1 (F9_growAsTold m 14) fun m8 =>
  b1 (F4_fillClause m8 v2) fun m13 =>
  b1 (F4_filledForm m13 v1 v2) fun r19 =>
  if r19 ≠ 0 then
    L4_source_36 m13 v2 r19 (fun (v4_70 : Int) =>
      some (v4_70, m13)) FU v1 0
  else
  some ((-2), m13)
def F10_cameIn (m : Mem) (v1 v2 : Int) : Option (Int × Mem) :=
  jn (fun (K18 : Option (Int × Mem)) =>
    if (F1_has m v1) = 0 then
      K18
    else
    if (F10_isClause v2) ≠ 0 then
      b2 (F4_source m v1 v2) fun r28 m28 =>
      some (r28, m28)
    else
    K18)
    (  some ((-1), m))
def F7_isNumber (v0 : Int) : Int :=
  jn (fun (K15 : Int) =>
    if v0 < 1 then
      K15
    else
    if 99999 < v0 then
      K15
    else
    1)
    (  0)
def L7_length_2 (v0 : Int) : Nat → Int → Option Int
  | 0, _ => none
  | n + 1, v1 =>
    if 5 ≤ v1 then
      some v1
    else
    gd (0 ≤ v1 ∧ v1 < 6) <|
    if v0 < (stv 0 v1) then
      some v1
    else
    L7_length_2 v0 n (w32 (v1 + 1))
def F7_length (v0 : Int) : Option Int :=
  L7_length_2 v0 FU 1
def F7_kindOf (v0 : Int) : Int :=
  if 5 ≤ v0 then
    if 10 ≤ v0 then
      if 14 ≤ v0 then
        4
      else
      3
    else
    2
  else
  1
def F7_written (v0 v1 : Int) : Option Int :=
  jn (fun (K25 : Option Int) =>
    if v1 < 1 then
      K25
    else
    if 5 < v1 then
      K25
    else
    gd (0 ≤ w32 (v1 - 1) ∧ w32 (v1 - 1) < 6) <|
    if v0 < (stv 0 (w32 (v1 - 1))) then
      K25
    else
    some v0)
    (  some ((-1)))
def F7_twice (v0 v1 : Int) : Option Int :=
  gd (0 ≤ v1 ∧ v1 < 6) <|
  gd (stv 0 v1 ≠ 0) <|
  gd (0 ≤ v1 ∧ v1 < 6) <|
  gd (0 ≤ v1 ∧ v1 < 6) <|
  gd (stv 0 v1 ≠ 0) <|
  some (w32 ((w32 ((w32 ((w32 ((idv v0 (stv 0 v1)) * 10)) + (irm (idv v0 (stv 0 v1)) 10))) * (stv 0 v1))) + (irm v0 (stv 0 v1))))
def F7_changedAbout (v0 v1 : Int) : Option Int :=
  gd (0 ≤ v1 ∧ v1 < 6) <|
  gd (stv 0 v1 ≠ 0) <|
  gd (0 ≤ w32 (v1 + 1) ∧ w32 (v1 + 1) < 6) <|
  gd (stv 0 (w32 (v1 + 1)) ≠ 0) <|
  gd (0 ≤ w32 (v1 + 1) ∧ w32 (v1 + 1) < 6) <|
  gd (0 ≤ v1 ∧ v1 < 6) <|
  some (w32 (v0 + (w32 ((w32 ((irm (idv v0 (stv 0 v1)) 10) - (irm (idv v0 (stv 0 (w32 (v1 + 1)))) 10))) * (w32 ((stv 0 (w32 (v1 + 1))) - (stv 0 v1)))))))
def F7_misread (v0 v1 v2 : Int) : Option Int :=
  gd (0 ≤ v1 ∧ v1 < 6) <|
  gd (stv 0 v1 ≠ 0) <|
  jn (fun (K28 : Int → Option Int) =>
    if v2 ≠ 0 then
      gd (0 ≤ irm (idv v0 (stv 0 v1)) 10 ∧ irm (idv v0 (stv 0 v1)) 10 < 10) <|
      K28 (stv 2 (irm (idv v0 (stv 0 v1)) 10))
    else
    gd (0 ≤ irm (idv v0 (stv 0 v1)) 10 ∧ irm (idv v0 (stv 0 v1)) 10 < 10) <|
    K28 (stv 1 (irm (idv v0 (stv 0 v1)) 10)))
    (fun (x28 : Int) =>
    if 0 ≤ x28 then
      gd (0 ≤ v1 ∧ v1 < 6) <|
      some (w32 (v0 + (w32 ((w32 (x28 - (irm (idv v0 (stv 0 v1)) 10))) * (stv 0 v1)))))
    else
    some ((-1)))
def F7_grown (v0 v1 : Int) : Option Int :=
  b1 (F7_length v0) fun r1 =>
  if F7_kindOf v1 = 1 then
    if r1 ≤ v1 then
      some ((-1))
    else
    gd (0 ≤ w32 (v1 + 1) ∧ w32 (v1 + 1) < 6) <|
    gd (stv 0 (w32 (v1 + 1)) ≠ 0) <|
    gd (0 ≤ v1 ∧ v1 < 6) <|
    gd (0 ≤ v1 ∧ v1 < 6) <|
    gd (stv 0 v1 ≠ 0) <|
    b1 (F7_written (w32 ((w32 ((idv v0 (stv 0 (w32 (v1 + 1)))) * (stv 0 v1))) + (irm v0 (stv 0 v1)))) (w32 (r1 - 1))) fun r67 =>
    some r67
  else
  if F7_kindOf v1 = 2 then
    if r1 ≤ (w32 (v1 - 5)) then
      some ((-1))
    else
    b1 (F7_twice v0 (w32 (v1 - 5))) fun r86 =>
    b1 (F7_written r86 (w32 (r1 + 1))) fun r92 =>
    some r92
  else
  if F7_kindOf v1 = 3 then
    if r1 ≤ (w32 (v1 - 9)) then
      some ((-1))
    else
    b1 (F7_changedAbout v0 (w32 (v1 - 10))) fun r113 =>
    b1 (F7_written r113 r1) fun r117 =>
    some r117
  else
  if r1 ≤ (idv (w32 (v1 - 14)) 2) then
    some ((-1))
  else
  b1 (F7_misread v0 (idv (w32 (v1 - 14)) 2) (irm v1 2)) fun r145 =>
  b1 (F7_written r145 r1) fun r149 =>
  some r149
def L7_kind_9 (v0 : Int) (v1 : Int) (k24 : Int → Option Int) : Nat → Int → Option Int
  | 0, _ => none
  | n + 1, v2 =>
    if 24 ≤ v2 then
      some ((-2))
    else
    b1 (F7_grown v0 v2) fun r17 =>
    if r17 ≠ v1 then
      L7_kind_9 v0 v1 k24 n (w32 (v2 + 1))
    else
    k24 v2
def F7_kind (v0 v1 : Int) : Option Int :=
  if v0 ≠ v1 then
    L7_kind_9 v0 v1 (fun (v2_24 : Int) =>
      some (F7_kindOf v2_24)) FU 0
  else
  some 0
def F10_slip (v1 v2 : Int) : Option Int :=
  jn (fun (K14 : Option Int) =>
    if (F7_isNumber v1) = 0 then
      K14
    else
    if (F7_isNumber v2) ≠ 0 then
      b1 (F7_kind v1 v2) fun r20 =>
      some r20
    else
    K14)
    (  some ((-1)))
def L7_inTwo_2 (v0 : Int) (v1 : Int) : Nat → Int → Option Int
  | 0, _ => none
  | n + 1, v2 =>
    if 24 ≤ v2 then
      some 0
    else
    b1 (F7_grown v0 v2) fun r10 =>
    jn (fun (K28 : Option Int) =>
      if r10 ≤ 0 then
        K28
      else
      b1 (F7_kind r10 v1) fun r20 =>
      if r20 < 0 then
        K28
      else
      some 1)
      (  L7_inTwo_2 v0 v1 n (w32 (v2 + 1)))
def F7_inTwo (v0 v1 : Int) : Option Int :=
  L7_inTwo_2 v0 v1 FU 0
def L7_fewest_25 (v0 : Int) (v1 : Int) (k86 : Int → Option Int) : Nat → Int → Int → Option Int
  | 0, _, _ => none
  | n + 1, v3, v4 =>
    if 24 ≤ v4 then
      k86 v3
    else
    b1 (F7_grown v0 v4) fun r35 =>
    jn (fun (K56 : Option Int) =>
      if r35 ≤ 0 then
        K56
      else
      b1 (F7_kind r35 v1) fun r48 =>
      if r48 < 0 then
        K56
      else
      some 2)
      (  jn (fun (K79 : Int → Option Int) =>
        jn (fun (K74 : Option Int) =>
          if v3 ≠ 0 then
            K74
          else
          jn (fun (K78 : Option Int) =>
            if r35 ≤ 0 then
              K78
            else
            b1 (F7_inTwo r35 v1) fun r68 =>
            if r68 = 0 then
              K78
            else
            K74)
            (  K79 0))
          (  K79 1))
        (fun (x79 : Int) =>
        L7_fewest_25 v0 v1 k86 n x79 (w32 (v4 + 1))))
def F7_fewest (v0 v1 : Int) : Option Int :=
  b1 (F7_kind v0 v1) fun r2 =>
  if r2 < 0 then
    L7_fewest_25 v0 v1 (fun (v3_86 : Int) =>
      if v3_86 = 0 then
        some ((-2))
      else
      some 3) FU 0 0
  else
  if r2 ≠ 0 then
    some 1
  else
  some 0
def F10_chain (v1 v2 : Int) : Option Int :=
  jn (fun (K14 : Option Int) =>
    if (F7_isNumber v1) = 0 then
      K14
    else
    if (F7_isNumber v2) ≠ 0 then
      b1 (F7_fewest v1 v2) fun r20 =>
      some r20
    else
    K14)
    (  some ((-1)))
def F1_back (m : Mem)  : Option (Int × Mem) :=
  if 0 < (rd m 4 10) then
    stw m 4 10 (w32 ((rd m 4 10) - 1)) fun m17 =>
    stw m17 4 11 (w32 ((rd m17 4 11) + 1)) fun m27 =>
    gd (0 ≤ rd m27 4 10 ∧ rd m27 4 10 < 40) <|
    gd (0 ≤ rd m27 4 10 ∧ rd m27 4 10 < 40) <|
    gd (0 ≤ rd m27 10 (rd m27 4 10) ∧ rd m27 10 (rd m27 4 10) < 209) <|
    stw m27 9 (rd m27 10 (rd m27 4 10)) (rd m27 11 (rd m27 4 10)) fun m52 =>
    stw m52 4 12 (w32 ((rd m52 4 12) + 1)) fun m60 =>
    some (rd m60 4 10, m60)
  else
  some ((-5), m)
def F10_undo (m : Mem)  : Option (Int × Mem) :=
  b2 (F1_back m) fun r4 m4 =>
  some (r4, m4)
def F1_forth (m : Mem)  : Option (Int × Mem) :=
  if (rd m 4 11) ≤ 0 then
    some ((-5), m)
  else
  if (rd m 4 10) < 40 then
    gd (0 ≤ rd m 4 10 ∧ rd m 4 10 < 40) <|
    gd (0 ≤ rd m 4 10 ∧ rd m 4 10 < 40) <|
    gd (0 ≤ rd m 10 (rd m 4 10) ∧ rd m 10 (rd m 4 10) < 209) <|
    stw m 9 (rd m 10 (rd m 4 10)) (rd m 12 (rd m 4 10)) fun m41 =>
    stw m41 4 10 (w32 ((rd m41 4 10) + 1)) fun m49 =>
    stw m49 4 11 (w32 ((rd m49 4 11) - 1)) fun m59 =>
    stw m59 4 12 (w32 ((rd m59 4 12) + 1)) fun m69 =>
    some (rd m69 4 11, m69)
  else
  some ((-5), m)
def F10_redo (m : Mem)  : Option (Int × Mem) :=
  b2 (F1_forth m) fun r4 m4 =>
  some (r4, m4)
def L10_digest_34 (m : Mem) (v2 : Int) (k61 : Int → Option Int) : Nat → Int → Int → Option Int
  | 0, _, _ => none
  | n + 1, v1, v3 =>
    if 16 ≤ v3 then
      k61 v1
    else
    b1 (F1_told m v2 v3) fun r50 =>
    L10_digest_34 m v2 k61 n (w32 ((w32 (v1 * 31)) + r50)) (w32 (v3 + 1))
def L10_digest_5 (m : Mem) (k67 : Int → Option Int) : Nat → Int → Int → Option Int
  | 0, _, _ => none
  | n + 1, v1, v2 =>
    if (rd m 4 0) ≤ v2 then
      k67 v1
    else
    b1 (F1_motherOf m v2) fun r25 =>
    L10_digest_34 m v2 (fun (v1_61 : Int) =>
      L10_digest_5 m k67 n v1_61 (w32 (v2 + 1))) FU (w32 ((w32 ((w32 (v1 * 31)) + r25)) + 1)) 0
def L10_digest_69 (m : Mem) : Nat → Int → Int → Option Int
  | 0, _, _ => none
  | n + 1, v1, v2 =>
    if 5 ≤ v2 then
      some v1
    else
    b1 (F1_costOf m v2) fun r83 =>
    L10_digest_69 m n (w32 ((w32 (v1 * 31)) + r83)) (w32 (v2 + 1))
def F10_digest (m : Mem)  : Option Int :=
  L10_digest_5 m (fun (v1_67 : Int) =>
    L10_digest_69 m FU v1_67 0) FU 7 0
def F5_isKind (v0 : Int) : Int :=
  jn (fun (K14 : Int) =>
    if v0 < 0 then
      K14
    else
    if 6 < v0 then
      K14
    else
    1)
    (  0)
def F5_add (m : Mem) (v1 v2 : Int) : Option (Int × Mem) :=
  gd (0 ≤ rd m 66 0 ∧ rd m 66 0 < 100) <|
  stw m 67 (rd m 66 0) v1 fun m9 =>
  gd (0 ≤ rd m9 66 0 ∧ rd m9 66 0 < 100) <|
  stw m9 69 (rd m9 66 0) v2 fun m19 =>
  stw m19 66 0 (w32 ((rd m19 66 0) + 1)) fun m27 =>
  some (w32 ((rd m27 66 0) - 1), m27)
def F10_path (m : Mem) (v1 v2 : Int) : Option (Int × Mem) :=
  if (F5_isKind v1) = 0 then
    some ((-1), m)
  else
  if (F1_has m v2) ≠ 0 then
    if (rd m 66 0) < 100 then
      b2 (F5_add m v1 v2) fun r43 m43 =>
      some (r43, m43)
    else
    some ((-3), m)
  else
  some ((-1), m)
def F5_has (m : Mem) (v1 : Int) : Int :=
  jn (fun (K16 : Int) =>
    if v1 < 0 then
      K16
    else
    if (rd m 66 0) ≤ v1 then
      K16
    else
    1)
    (  0)
def F5_began (m : Mem) (v1 : Int) : Option Mem :=
  jn (fun (K19 : Mem → Option Mem) =>
    if 24 ≤ (rd m 66 1) then
      K19 m
    else
    gd (0 ≤ rd m 66 1 ∧ rd m 66 1 < 24) <|
    stw m 68 (rd m 66 1) v1 fun m18 =>
    K19 m18)
    (fun (m_19 : Mem) =>
    stw m_19 66 1 (w32 ((rd m_19 66 1) + 1)) fun m26 =>
    some m26)
def F5_costs (m : Mem) (v1 : Int) : Option (Int × Mem) :=
  if (rd m 66 5) ≠ 3 then
    if (rd m 66 5) ≠ 5 then
      b1 (F5_began m 1) fun m58 =>
      some (w32 (v1 + (rd m58 66 6)), m58)
    else
    b1 (F5_began m 60) fun m39 =>
    b1 (F5_began m39 1) fun m44 =>
    some (w32 ((w32 (v1 + 1)) + (rd m44 66 6)), m44)
  else
  b1 (F5_began m 40) fun m11 =>
  b1 (F5_began m11 1) fun m16 =>
  some (w32 ((w32 (v1 + (rd m16 66 6))) - 1), m16)
def L5_isUnder_4 (v1 : Int) : Nat → Int → Int → Option Int
  | 0, _, _ => none
  | n + 1, v2, v3 =>
    if 7 ≤ v3 then
      some 0
    else
    if (F5_isKind v2) = 0 then
      some 0
    else
    if v2 ≠ v1 then
      gd (0 ≤ v2 ∧ v2 < 7) <|
      L5_isUnder_4 v1 n (stv 3 v2) (w32 (v3 + 1))
    else
    some 1
def F5_isUnder (v0 v1 : Int) : Option Int :=
  L5_isUnder_4 v1 FU v0 0
def F5_holds (m : Mem) (v1 : Int) : Option (Int × Mem) :=
  if (rd m 66 5) ≠ 2 then
    jn (fun (K43 : Mem → Option (Int × Mem)) =>
      if (rd m 66 5) ≠ 5 then
        K43 m
      else
      b1 (F5_began m 61) fun m40 =>
      K43 m40)
      (fun (m_43 : Mem) =>
      b1 (F5_isUnder (rd m_43 66 5) 4) fun r48 =>
      jn (fun (K60 : Mem → Option (Int × Mem)) =>
        if r48 = 0 then
          K60 m_43
        else
        b1 (F5_began m_43 50) fun m57 =>
        K60 m57)
        (fun (m_60 : Mem) =>
        b1 (F5_began m_60 11) fun m63 =>
        b1 (F5_isUnder (rd m63 66 5) 4) fun r71 =>
        jn (fun (K93 : Int → Option (Int × Mem)) =>
          if r71 = 0 then
            K93 (bxor v1 (rd m63 66 6))
          else
          K93 (w32 (-(bxor v1 (rd m63 66 6)))))
          (fun (x93 : Int) =>
          if (rd m63 66 5) ≠ 5 then
            some (x93, m63)
          else
          b2 (F5_costs m63 2) fun r105 m105 =>
          some (w32 (x93 + r105), m105))))
  else
  b1 (F5_began m 30) fun m11 =>
  b1 (F5_began m11 11) fun m17 =>
  some (w32 ((bxor v1 (rd m17 66 6)) * 3), m17)
def F5_lets (m : Mem) (v1 : Int) : Option (Int × Mem) :=
  jn (fun (K15 : Mem → Option (Int × Mem)) =>
    if (rd m 66 5) ≠ 6 then
      K15 m
    else
    b1 (F5_began m 70) fun m12 =>
    K15 m12)
    (fun (m_15 : Mem) =>
    b1 (F5_isUnder (rd m_15 66 5) 1) fun r20 =>
    jn (fun (K32 : Mem → Option (Int × Mem)) =>
      if r20 = 0 then
        K32 m_15
      else
      b1 (F5_began m_15 20) fun m29 =>
      K32 m29)
      (fun (m_32 : Mem) =>
      b1 (F5_began m_32 10) fun m35 =>
      b2 (F5_costs m35 v1) fun r40 m40 =>
      b1 (F5_isUnder (rd m40 66 5) 1) fun r51 =>
      jn (fun (K64 : Int → Option (Int × Mem)) =>
        if r51 = 0 then
          K64 (w32 (r40 * 2))
        else
        K64 (w32 ((w32 (r40 * 2)) + (rd m40 66 7))))
        (fun (v2_64 : Int) =>
        if (rd m40 66 5) ≠ 6 then
          some (v2_64, m40)
        else
        b2 (F5_holds m40 2) fun r76 m76 =>
        some (w32 (v2_64 - r76), m76))))
def F5_tells (m : Mem) (v1 : Int) : Option (Int × Mem) :=
  jn (fun (K14 : Mem → Option (Int × Mem)) =>
    if (rd m 66 5) ≠ 3 then
      K14 m
    else
    b1 (F5_began m 41) fun m11 =>
    K14 m11)
    (fun (m_14 : Mem) =>
    b1 (F5_began m_14 2) fun m16 =>
    b2 (F5_lets m16 v1) fun r21 m21 =>
    b2 (F5_holds m21 1) fun r28 m28 =>
    if (rd m28 66 5) ≠ 3 then
      some (w32 (r21 - r28), m28)
    else
    some (bxor (w32 (r21 - r28)) 5, m28))
def F5_perform (m : Mem) (v1 v2 v3 : Int) : Option (Int × Mem) :=
  gd (0 ≤ v1 ∧ v1 < 100) <|
  stw m 66 5 (rd m 67 v1) fun m7 =>
  stw m7 66 6 v1 fun m12 =>
  gd (0 ≤ v1 ∧ v1 < 100) <|
  stw m12 66 7 (rd m12 69 v1) fun m22 =>
  if v2 = 0 then
    b2 (F5_costs m22 v3) fun r58 m58 =>
    some (r58, m58)
  else
  if v2 = 1 then
    b2 (F5_lets m22 v3) fun r64 m64 =>
    some (r64, m64)
  else
  if v2 = 2 then
    b2 (F5_holds m22 v3) fun r70 m70 =>
    some (r70, m70)
  else
  if v2 = 3 then
    b2 (F5_tells m22 v3) fun r76 m76 =>
    some (r76, m76)
  else
  some (0, m22)
def F10_act (m : Mem) (v1 v2 v3 : Int) : Option (Int × Mem) :=
  stw m 66 1 0 fun m5 =>
  if (F5_has m5 v1) = 0 then
    some (0, m5)
  else
  b2 (F5_perform m5 v1 v2 v3) fun r26 m26 =>
  some (r26, m26)
def F10_trace (m : Mem) (v1 : Int) : Option Int :=
  jn (fun (K21 : Option Int) =>
    if v1 < 0 then
      K21
    else
    if (rd m 66 1) ≤ v1 then
      K21
    else
    if v1 < 24 then
      gd (0 ≤ v1 ∧ v1 < 24) <|
      some (rd m 68 v1)
    else
    K21)
    (  some ((-1)))
def F6_keepPath (m : Mem) (o : Nat) (v1 : Int) : Option Mem :=
  jn (fun (K10 : Int → Option Mem) =>
    if 0 ≤ v1 then
      K10 1
    else
    K10 0)
    (fun (x10 : Int) =>
    stw m o 0 x10 fun m10 =>
    stw m10 o 1 v1 fun m15 =>
    some m15)
def F10_keep (m : Mem) (v1 v2 : Int) : Option (Int × Mem) :=
  if (F10_isShelf v1) = 0 then
    some ((-1), m)
  else
  jn (fun (K25 : Option (Int × Mem)) =>
    if v2 = (-1) then
      K25
    else
    if (F5_has m v2) ≠ 0 then
      K25
    else
    some ((-1), m))
    (  gd (0 ≤ v1 ∧ v1 < 6) <|
    b1 (F6_keepPath m (71 + 2 * (v1).toNat) v2) fun m32 =>
    some (1, m32))
def LJ7_fill_d0a16_6 (a0 : Nat) (len : Nat) (v1 : Int) (v4 : Int) : Nat → Int → Mem → Option Mem
  | 0, _, _ => none
  | n + 1, v3, m =>
    if v4 ≤ v3 then
      some m
    else
    gd (0 ≤ v3 ∧ v3 < (len : Int)) <|
    stw m a0 v3 v1 fun m15 =>
    LJ7_fill_d0a16_6 a0 len v1 v4 n (w32 (v3 + 1)) m15
def FJ7_fill_d0a16 (m : Mem) (a0 : Nat) (len : Nat) (v1 : Int) : Option Mem :=
  LJ7_fill_d0a16_6 a0 len v1 (len : Int) FU 0 m
def F6_keepRow (m : Mem) (o : Nat) (v1 v2 : Int) : Option Mem :=
  stw m o 0 2 fun m2 =>
  stw m2 o 2 v1 fun m7 =>
  stw m7 o 3 v2 fun m12 =>
  b1 (FJ7_fill_d0a16 m12 (o + 1) 60 0) fun m20 =>
  some m20
def F10_row (m : Mem) (v1 v2 v3 : Int) : Option (Int × Mem) :=
  if (F10_isShelf v1) = 0 then
    some ((-1), m)
  else
  if v2 < 0 then
    some ((-1), m)
  else
  if 4 < v2 then
    some ((-1), m)
  else
  if v3 ≤ 60 then
    if 0 ≤ v3 then
      gd (0 ≤ v1 ∧ v1 < 6) <|
      b1 (F6_keepRow m (71 + 2 * (v1).toNat) v2 v3) fun m39 =>
      some (1, m39)
    else
    some ((-14), m)
  else
  some ((-1), m)
def F10_elementRefusal (m : Mem) (v1 v2 : Int) : Option Int :=
  if (F10_isShelf v1) ≠ 0 then
    gd (0 ≤ v1 ∧ v1 < 6) <|
    if (rd m (71 + 2 * (v1).toNat) 0) ≠ 0 then
      if (rd m (71 + 2 * (v1).toNat) 0) = 2 then
        if (F6_hasPlace m (71 + 2 * (v1).toNat) v2) = 0 then
          some ((-13))
        else
        some 0
      else
      some ((-12))
    else
    some ((-11))
  else
  some ((-1))
def F6_lowest (m : Mem) (o : Nat) (v1 : Int) : Int :=
  if rd m o 2 = 0 then
    i8 (w32 v1)
  else
  if rd m o 2 = 1 then
    i16 (w32 v1)
  else
  if rd m o 2 = 2 then
    w32 v1
  else
  if rd m o 2 = 3 then
    v1
  else
  if rd m o 2 = 4 then
    if (lcm' v1 0) = 0 then
      0
    else
    1
  else
  v1
def F10_put (m : Mem) (v1 v2 v3 : Int) : Option (Int × Mem) :=
  b1 (F10_elementRefusal m v1 v2) fun r3 =>
  if r3 = 0 then
    gd (0 ≤ v1 ∧ v1 < 6) <|
    gd (0 ≤ v1 ∧ v1 < 6) <|
    gd (0 ≤ v2 ∧ v2 < 60) <|
    stw m (71 + 2 * (v1).toNat + 1) v2 (F6_lowest m (71 + 2 * (v1).toNat) v3) fun m36 =>
    some (1, m36)
  else
  some (r3, m)
def F10_element (m : Mem) (v1 v2 : Int) : Option Int :=
  b1 (F10_elementRefusal m v1 v2) fun r3 =>
  if r3 = 0 then
    gd (0 ≤ v1 ∧ v1 < 6) <|
    gd (0 ≤ v2 ∧ v2 < 60) <|
    some (rl m (71 + 2 * (v1).toNat + 1) v2)
  else
  some ((-9223372036854775808))
def F6_hasPlaces (m : Mem) (o : Nat) (v1 v2 : Int) : Int :=
  jn (fun (K26 : Int) =>
    if v1 < 0 then
      K26
    else
    if v2 < 0 then
      K26
    else
    if 0 < (lcm' (w64 (v1 + v2)) (rd m o 3)) then
      K26
    else
    1)
    (  0)
def F10_shift (m : Mem) (v1 v2 v3 v4 v5 : Int) : Option (Int × Mem) :=
  if (F10_isShelf v1) = 0 then
    some ((-1), m)
  else
  if (F10_isShelf v3) ≠ 0 then
    gd (0 ≤ v1 ∧ v1 < 6) <|
    gd (0 ≤ v3 ∧ v3 < 6) <|
    if (rd m (71 + 2 * (v1).toNat) 0) = 0 then
      some ((-11), m)
    else
    if (rd m (71 + 2 * (v3).toNat) 0) ≠ 0 then
      if (rd m (71 + 2 * (v1).toNat) 0) ≠ 2 then
        some ((-12), m)
      else
      if (rd m (71 + 2 * (v3).toNat) 0) ≠ 2 then
        some ((-12), m)
      else
      if (rd m (71 + 2 * (v1).toNat) 2) = (rd m (71 + 2 * (v3).toNat) 2) then
        if (F6_hasPlaces m (71 + 2 * (v1).toNat) v2 v5) = 0 then
          some ((-13), m)
        else
        if (F6_hasPlaces m (71 + 2 * (v3).toNat) v4 v5) ≠ 0 then
          gd ((0 : Int) ≤ v2 ∧ (0 : Int) ≤ v4 ∧ (0 : Int) ≤ v5 ∧ (v2 : Int) + v5 ≤ 60 ∧ (v4 : Int) + v5 ≤ 60) <|
          cpw m (71 + 2 * (v1).toNat + 1) v2 (71 + 2 * (v3).toNat + 1) v4 v5 fun m126 =>
          some (v5, m126)
        else
        some ((-13), m)
      else
      some ((-12), m)
    else
    some ((-11), m)
  else
  some ((-1), m)
def F10_taken (m : Mem) (v1 v2 : Int) : Option Int :=
  if (F10_isShelf v1) = 0 then
    some ((-1))
  else
  if (F5_isKind v2) ≠ 0 then
    gd (0 ≤ v1 ∧ v1 < 6) <|
    if (rd m (71 + 2 * (v1).toNat) 0) ≠ 0 then
      if (rd m (71 + 2 * (v1).toNat) 0) ≠ 1 then
        some ((-12))
      else
      if (F5_has m (rd m (71 + 2 * (v1).toNat) 1)) ≠ 0 then
        gd (0 ≤ rd m (71 + 2 * (v1).toNat) 1 ∧ rd m (71 + 2 * (v1).toNat) 1 < 100) <|
        b1 (F5_isUnder (rd m 67 (rd m (71 + 2 * (v1).toNat) 1)) v2) fun r75 =>
        if r75 = 0 then
          some ((-12))
        else
        some (rd m 67 (rd m (71 + 2 * (v1).toNat) 1))
      else
      some ((-12))
    else
    some ((-11))
  else
  some ((-1))
def F10_count (m : Mem) (v1 : Int) : Int :=
  if v1 = 0 then
    rd m 4 0
  else
  if v1 = 1 then
    rd m 1 1
  else
  if v1 = 2 then
    rd m 31 2
  else
  if v1 = 3 then
    rd m 4 10
  else
  if v1 = 4 then
    rd m 66 0
  else
  if v1 = 5 then
    rd m 66 1
  else
  (-1)
def F11_in (v0 v1 v2 : Int) : Int :=
  jn (fun (K14 : Int) =>
    if v0 < v1 then
      K14
    else
    if v2 < v0 then
      K14
    else
    1)
    (  0)
def F11_lesser (v0 v1 : Int) : Int :=
  if v1 ≤ v0 then
    v1
  else
  v0
def F11_greater (v0 v1 : Int) : Int :=
  if v0 ≤ v1 then
    v1
  else
  v0
def F11_isForm (v0 : Int) : Int :=
  jn (fun (K15 : Int) =>
    if (F11_in v0 0 3) ≠ 0 then
      K15
    else
    if v0 ≠ 9 then
      0
    else
    K15)
    (  1)
def F11_isCharter (m : Mem) (v1 : Int) : Int :=
  F11_in v1 0 (w32 ((rd m 83 1) - 1))
def F11_isClause (v0 : Int) : Int :=
  F11_in v0 0 15
def L11_feed_27 (v1 : Int) (v2 : Int) (k64 : Mem → Option (Int × Mem)) : Nat → Int → Mem → Option (Int × Mem)
  | 0, _, _ => none
  | n + 1, v3, m =>
    if v1 ≤ v3 then
      k64 m
    else
    gd (0 ≤ rd m 83 10 ∧ rd m 83 10 < 120) <|
    stw m 91 (rd m 83 10) (i8 (i8 (shr v2 (w32 (8 * v3))))) fun m47 =>
    stw m47 83 10 (w32 ((rd m47 83 10) + 1)) fun m55 =>
    L11_feed_27 v1 v2 k64 n (w32 (v3 + 1)) m55
def F11_feed (m : Mem) (v1 v2 : Int) : Option (Int × Mem) :=
  if (F11_in v1 1 4) ≠ 0 then
    if (w32 ((rd m 83 10) + v1)) ≤ 120 then
      L11_feed_27 v1 v2 (fun (m_64 : Mem) =>
        some (rd m_64 83 10, m_64)) FU 0 m
    else
    some ((-3), m)
  else
  some ((-1), m)
def F11_look (m : Mem)  : Option Int :=
  if (rd m 83 10) ≤ (rd m 83 11) then
    some ((-1))
  else
  gd (0 ≤ rd m 83 11 ∧ rd m 83 11 < 120) <|
  some (rd m 91 (rd m 83 11))
def F11_wrong (m : Mem) (v1 : Int) : Option Mem :=
  if 0 ≤ (rd m 83 12) then
    some m
  else
  stw m 83 12 v1 fun m9 =>
  some m9
def L11_number_4 (v1 : Int) (k52 : Int → Int → Mem → Option (Int × Mem)) : Nat → Int → Int → Mem → Option (Int × Mem)
  | 0, _, _, _ => none
  | n + 1, v2, v3, m =>
    if v1 ≤ v3 then
      k52 v2 v3 m
    else
    b1 (F11_look m) fun r10 =>
    if (F11_in r10 48 57) = 0 then
      k52 v2 v3 m
    else
    b1 (F11_look m) fun r28 =>
    stw m 83 11 (w32 ((rd m 83 11) + 1)) fun m46 =>
    L11_number_4 v1 k52 n (w32 ((w32 ((w32 (10 * v2)) + r28)) - 48)) (w32 (v3 + 1)) m46
def F11_number (m : Mem) (v1 : Int) : Option (Int × Mem) :=
  L11_number_4 v1 (fun (v2_52 : Int) (v3_52 : Int) (m_52 : Mem) =>
    if v3_52 ≠ 0 then
      some (v2_52, m_52)
    else
    b1 (F11_wrong m_52 (rd m_52 83 11)) fun m61 =>
    some (v2_52, m61)) FU 0 0 m
def F11_isNext (m : Mem) (v1 : Int) : Option (Int × Mem) :=
  b1 (F11_look m) fun r1 =>
  if r1 = v1 then
    stw m 83 11 (w32 ((rd m 83 11) + 1)) fun m17 =>
    some (1, m17)
  else
  some (0, m)
def L11_clear_39 (v1 : Int) : Nat → Int → Mem → Option Mem
  | 0, _, _ => none
  | n + 1, v2, m =>
    if 16 ≤ v2 then
      some m
    else
    gd (0 ≤ w32 ((w32 (16 * v1)) + v2) ∧ w32 ((w32 (16 * v1)) + v2) < 192) <|
    stw m 89 (w32 ((w32 (16 * v1)) + v2)) 9 fun m57 =>
    L11_clear_39 v1 n (w32 (v2 + 1)) m57
def F11_clear (m : Mem) (v1 : Int) : Option Mem :=
  gd (0 ≤ v1 ∧ v1 < 12) <|
  stw m 84 v1 0 fun m6 =>
  gd (0 ≤ v1 ∧ v1 < 12) <|
  stw m6 85 v1 999 fun m15 =>
  gd (0 ≤ v1 ∧ v1 < 12) <|
  stw m15 86 v1 (-1) fun m22 =>
  gd (0 ≤ v1 ∧ v1 < 12) <|
  stw m22 87 v1 0 fun m29 =>
  gd (0 ≤ v1 ∧ v1 < 12) <|
  stw m29 88 v1 (-1) fun m36 =>
  L11_clear_39 v1 FU 0 m36
def F11_readClause (m : Mem) (v1 v2 : Int) : Option (Int × Mem) :=
  b1 (F11_look m) fun r1 =>
  jn (fun (K24 : Option (Int × Mem)) =>
    if (F11_isClause (w32 (r1 - 97))) = 0 then
      K24
    else
    if (band (shr v2 (w32 (r1 - 97))) 1) ≠ 1 then
      stw m 83 11 (w32 ((rd m 83 11) + 1)) fun m41 =>
      b1 (F11_look m41) fun r45 =>
      jn (fun (K65 : Int → Option (Int × Mem)) =>
        if r45 ≠ 63 then
          b1 (F11_look m41) fun r59 =>
          K65 (w32 (r59 - 48))
        else
        K65 9)
        (fun (x65 : Int) =>
        jn (fun (K84 : Option (Int × Mem)) =>
          if (F11_isForm x65) = 0 then
            K84
          else
          b1 (F11_look m41) fun r76 =>
          if r76 ≠ 57 then
            gd (0 ≤ w32 ((w32 (16 * v1)) + (w32 (r1 - 97))) ∧ w32 ((w32 (16 * v1)) + (w32 (r1 - 97))) < 192) <|
            stw m41 89 (w32 ((w32 (16 * v1)) + (w32 (r1 - 97)))) x65 fun m106 =>
            stw m106 83 11 (w32 ((rd m106 83 11) + 1)) fun m114 =>
            some (bor v2 (shl 1 (w32 (r1 - 97))), m114)
          else
          K84)
          (  b1 (F11_wrong m41 (rd m41 83 11)) fun m89 =>
          some (v2, m89)))
    else
    K24)
    (  b1 (F11_wrong m (rd m 83 11)) fun m29 =>
    some (v2, m29))
def L11_readAll_84 (v1 : Int) (k110 : Mem → Option Mem) : Nat → Int → Mem → Option Mem
  | 0, _, _ => none
  | n + 1, v2, m =>
    if 0 ≤ (rd m 83 12) then
      k110 m
    else
    b2 (F11_isNext m 44) fun r94 m94 =>
    if r94 = 0 then
      k110 m94
    else
    b2 (F11_readClause m94 v1 v2) fun r103 m103 =>
    L11_readAll_84 v1 k110 n r103 m103
def F11_readAll (m : Mem) (v1 : Int) : Option Mem :=
  b2 (F11_number m 3) fun r7 m7 =>
  gd (0 ≤ v1 ∧ v1 < 12) <|
  stw m7 84 v1 r7 fun m10 =>
  gd (0 ≤ v1 ∧ v1 < 12) <|
  gd (0 ≤ v1 ∧ v1 < 12) <|
  stw m10 85 v1 (rd m10 84 v1) fun m22 =>
  jn (fun (K82 : Mem → Option Mem) =>
    if 0 ≤ (rd m22 83 12) then
      K82 m22
    else
    b2 (F11_isNext m22 45) fun r33 m33 =>
    if r33 = 0 then
      K82 m33
    else
    b2 (F11_number m33 3) fun r51 m51 =>
    gd (0 ≤ v1 ∧ v1 < 12) <|
    stw m51 85 v1 r51 fun m54 =>
    if 0 ≤ (rd m54 83 12) then
      K82 m54
    else
    gd (0 ≤ v1 ∧ v1 < 12) <|
    gd (0 ≤ v1 ∧ v1 < 12) <|
    if (rd m54 84 v1) ≤ (rd m54 85 v1) then
      K82 m54
    else
    b1 (F11_wrong m54 (rd m33 83 11)) fun m79 =>
    K82 m79)
    (fun (m_82 : Mem) =>
    L11_readAll_84 v1 (fun (m_110 : Mem) =>
      jn (fun (K164 : Mem → Option Mem) =>
        if 0 ≤ (rd m_110 83 12) then
          K164 m_110
        else
        b2 (F11_isNext m_110 60) fun r120 m120 =>
        if r120 = 0 then
          K164 m120
        else
        b2 (F11_number m120 2) fun r138 m138 =>
        gd (0 ≤ v1 ∧ v1 < 12) <|
        stw m138 86 v1 r138 fun m141 =>
        if 0 ≤ (rd m141 83 12) then
          K164 m141
        else
        gd (0 ≤ v1 ∧ v1 < 12) <|
        if (rd m141 86 v1) < v1 then
          K164 m141
        else
        b1 (F11_wrong m141 (rd m120 83 11)) fun m161 =>
        K164 m161)
        (fun (m_164 : Mem) =>
        if 0 ≤ (rd m_164 83 12) then
          some m_164
        else
        if (rd m_164 83 10) ≤ (rd m_164 83 11) then
          some m_164
        else
        b1 (F11_wrong m_164 (rd m_164 83 11)) fun m187 =>
        some m187)) FU 0 m_82)
def F11_charter (m : Mem)  : Option (Int × Mem) :=
  if (rd m 83 1) ≠ 12 then
    b1 (F11_clear m (rd m 83 1)) fun m17 =>
    stw m17 83 11 0 fun m22 =>
    stw m22 83 12 (-1) fun m27 =>
    b1 (F11_readAll m27 (rd m27 83 1)) fun m35 =>
    stw m35 83 10 0 fun m40 =>
    if (rd m40 83 12) < 0 then
      stw m40 83 1 (w32 ((rd m40 83 1) + 1)) fun m65 =>
      some (w32 ((rd m65 83 1) - 1), m65)
    else
    some (w32 ((-100) - (rd m40 83 12)), m40)
  else
  some ((-3), m)
def F11_lost (m : Mem)  : Option (Int × Mem) :=
  if (rd m 83 1) ≠ 12 then
    b1 (F11_clear m (rd m 83 1)) fun m17 =>
    gd (0 ≤ rd m17 83 1 ∧ rd m17 83 1 < 12) <|
    stw m17 87 (rd m17 83 1) 1 fun m29 =>
    stw m29 83 1 (w32 ((rd m29 83 1) + 1)) fun m37 =>
    some (w32 ((rd m37 83 1) - 1), m37)
  else
  some ((-3), m)
def F11_ofCharter (m : Mem) (v1 v2 : Int) : Option Int :=
  if (F11_isCharter m v1) ≠ 0 then
    if v2 = 0 then
      gd (0 ≤ v1 ∧ v1 < 12) <|
      some (rd m 84 v1)
    else
    if v2 = 1 then
      gd (0 ≤ v1 ∧ v1 < 12) <|
      some (rd m 85 v1)
    else
    if v2 = 2 then
      gd (0 ≤ v1 ∧ v1 < 12) <|
      some (rd m 86 v1)
    else
    if v2 = 3 then
      gd (0 ≤ v1 ∧ v1 < 12) <|
      if (rd m 87 v1) = 0 then
        some 0
      else
      some 1
    else
    if (F11_in v2 10 25) = 0 then
      some ((-1))
    else
    gd (0 ≤ w32 ((w32 ((w32 (16 * v1)) + v2)) - 10) ∧ w32 ((w32 ((w32 (16 * v1)) + v2)) - 10) < 192) <|
    some (rd m 89 (w32 ((w32 ((w32 (16 * v1)) + v2)) - 10)))
  else
  some ((-1))
def F11_valueAt (m : Mem) (v1 v2 : Int) : Option Int :=
  if v1 ≠ 0 then
    if v1 ≠ 1 then
      gd (0 ≤ v2 ∧ v2 < 12) <|
      some (rd m 88 v2)
    else
    gd (0 ≤ v2 ∧ v2 < 5) <|
    some (rd m 90 v2)
  else
  gd (0 ≤ v2 ∧ v2 < 192) <|
  some (rd m 89 v2)
def F11_set (m : Mem) (v1 v2 v3 : Int) : Option Mem :=
  if v1 ≠ 0 then
    if v1 ≠ 1 then
      gd (0 ≤ v2 ∧ v2 < 12) <|
      stw m 88 v2 v3 fun m35 =>
      some m35
    else
    gd (0 ≤ v2 ∧ v2 < 5) <|
    stw m 90 v2 v3 fun m25 =>
    some m25
  else
  gd (0 ≤ v2 ∧ v2 < 192) <|
  stw m 89 v2 v3 fun m10 =>
  some m10
def L11_changes_34 (k111 : Mem → Option (Int × Mem)) : Nat → Int → Mem → Option (Int × Mem)
  | 0, _, _ => none
  | n + 1, v5, m =>
    if 40 ≤ v5 then
      k111 m
    else
    gd (0 ≤ v5 ∧ v5 < 40) <|
    gd (0 ≤ w32 (v5 - 1) ∧ w32 (v5 - 1) < 40) <|
    stw m 92 (w32 (v5 - 1)) (rd m 92 v5) fun m56 =>
    gd (0 ≤ v5 ∧ v5 < 40) <|
    gd (0 ≤ w32 (v5 - 1) ∧ w32 (v5 - 1) < 40) <|
    stw m56 93 (w32 (v5 - 1)) (rd m56 93 v5) fun m72 =>
    gd (0 ≤ v5 ∧ v5 < 40) <|
    gd (0 ≤ w32 (v5 - 1) ∧ w32 (v5 - 1) < 40) <|
    stw m72 94 (w32 (v5 - 1)) (rd m72 94 v5) fun m88 =>
    gd (0 ≤ v5 ∧ v5 < 40) <|
    gd (0 ≤ w32 (v5 - 1) ∧ w32 (v5 - 1) < 40) <|
    stw m88 95 (w32 (v5 - 1)) (rd m88 95 v5) fun m104 =>
    L11_changes_34 k111 n (w32 (v5 + 1)) m104
def F11_changes (m : Mem) (v1 v2 v3 : Int) : Option (Int × Mem) :=
  b1 (F11_valueAt m v1 v2) fun r3 =>
  if r3 ≠ v3 then
    stw m 83 14 0 fun m19 =>
    jn (fun (K121 : Mem → Option (Int × Mem)) =>
      if (rd m19 83 13) ≠ 40 then
        K121 m19
      else
      L11_changes_34 (fun (m_111 : Mem) =>
        stw m_111 83 13 (w32 ((rd m_111 83 13) - 1)) fun m118 =>
        K121 m118) FU 1 m19)
      (fun (m_121 : Mem) =>
      gd (0 ≤ rd m_121 83 13 ∧ rd m_121 83 13 < 40) <|
      stw m_121 92 (rd m_121 83 13) v1 fun m130 =>
      gd (0 ≤ rd m130 83 13 ∧ rd m130 83 13 < 40) <|
      stw m130 93 (rd m130 83 13) v2 fun m140 =>
      gd (0 ≤ rd m140 83 13 ∧ rd m140 83 13 < 40) <|
      stw m140 94 (rd m140 83 13) r3 fun m151 =>
      gd (0 ≤ rd m151 83 13 ∧ rd m151 83 13 < 40) <|
      stw m151 95 (rd m151 83 13) v3 fun m161 =>
      stw m161 83 13 (w32 ((rd m161 83 13) + 1)) fun m169 =>
      b1 (F11_set m169 v1 v2 v3) fun m176 =>
      stw m176 83 31 0 fun m181 =>
      some (r3, m181))
  else
  some (r3, m)
def F11_undo (m : Mem)  : Option (Int × Mem) :=
  if (rd m 83 13) ≠ 0 then
    stw m 83 13 (w32 ((rd m 83 13) - 1)) fun m17 =>
    stw m17 83 14 (w32 ((rd m17 83 14) + 1)) fun m27 =>
    gd (0 ≤ rd m27 83 13 ∧ rd m27 83 13 < 40) <|
    gd (0 ≤ rd m27 83 13 ∧ rd m27 83 13 < 40) <|
    gd (0 ≤ rd m27 83 13 ∧ rd m27 83 13 < 40) <|
    b1 (F11_set m27 (rd m27 92 (rd m27 83 13)) (rd m27 93 (rd m27 83 13)) (rd m27 94 (rd m27 83 13))) fun m58 =>
    stw m58 83 31 0 fun m63 =>
    some (rd m63 83 13, m63)
  else
  some ((-5), m)
def F11_redo (m : Mem)  : Option (Int × Mem) :=
  if (rd m 83 14) ≠ 0 then
    gd (0 ≤ rd m 83 13 ∧ rd m 83 13 < 40) <|
    gd (0 ≤ rd m 83 13 ∧ rd m 83 13 < 40) <|
    gd (0 ≤ rd m 83 13 ∧ rd m 83 13 < 40) <|
    b1 (F11_set m (rd m 92 (rd m 83 13)) (rd m 93 (rd m 83 13)) (rd m 95 (rd m 83 13))) fun m38 =>
    stw m38 83 13 (w32 ((rd m38 83 13) + 1)) fun m48 =>
    stw m48 83 14 (w32 ((rd m48 83 14) - 1)) fun m58 =>
    stw m58 83 31 0 fun m63 =>
    some (rd m63 83 14, m63)
  else
  some ((-5), m)
def F11_form (m : Mem) (v1 v2 v3 : Int) : Option (Int × Mem) :=
  jn (fun (K37 : Option (Int × Mem)) =>
    if (F11_isCharter m v1) = 0 then
      K37
    else
    if (F11_isClause v2) = 0 then
      K37
    else
    if (F11_isForm v3) = 0 then
      K37
    else
    b2 (F11_changes m 0 (w32 ((w32 (16 * v1)) + v2)) v3) fun r31 m31 =>
    some (r31, m31))
    (  some ((-1), m))
def F11_isShelf (v0 : Int) : Int :=
  F11_in v0 0 5
def L11_forms_67 (v1 : Int) (v2 : Int) (v3 : Int) (v4 : Int) : Nat → Int → Mem → Option (Int × Mem)
  | 0, _, _ => none
  | n + 1, v5, m =>
    if v4 ≤ v5 then
      some (v4, m)
    else
    if (lcm' (w64 (v3 + v5)) 0) < 0 then
      some (v5, m)
    else
    gd (0 ≤ v2 ∧ v2 < 6) <|
    if 0 ≤ (lcm' (w64 (v3 + v5)) (rd m 120 v2)) then
      some (v5, m)
    else
    gd (0 ≤ w32 ((w32 (60 * v2)) + (w32 (w64 (v3 + v5)))) ∧ w32 ((w32 (60 * v2)) + (w32 (w64 (v3 + v5)))) < 360) <|
    if (F11_isForm (w32 (rl m 121 (w32 ((w32 (60 * v2)) + (w32 (w64 (v3 + v5)))))))) ≠ 0 then
      gd (0 ≤ w32 ((w32 (60 * v2)) + (w32 (w64 (v3 + v5)))) ∧ w32 ((w32 (60 * v2)) + (w32 (w64 (v3 + v5)))) < 360) <|
      b2 (F11_changes m 0 (w32 ((w32 (16 * v1)) + v5)) (w32 (rl m 121 (w32 ((w32 (60 * v2)) + (w32 (w64 (v3 + v5)))))))) fun r148 m148 =>
      L11_forms_67 v1 v2 v3 v4 n (w32 (v5 + 1)) m148
    else
    some (v5, m)
def F11_forms (m : Mem) (v1 v2 v3 v4 : Int) : Option (Int × Mem) :=
  if (F11_isCharter m v1) = 0 then
    some ((-1), m)
  else
  if (F11_isShelf v2) = 0 then
    some ((-1), m)
  else
  if (F11_in v4 1 16) ≠ 0 then
    gd (0 ≤ v2 ∧ v2 < 6) <|
    jn (fun (K52 : Option (Int × Mem)) =>
      if (rd m 119 v2) = (-1) then
        K52
      else
      gd (0 ≤ v2 ∧ v2 < 6) <|
      if (rd m 119 v2) = (-2) then
        K52
      else
      some ((-12), m))
      (  gd (0 ≤ v2 ∧ v2 < 6) <|
      if (rd m 119 v2) ≠ (-1) then
        L11_forms_67 v1 v2 v3 v4 FU 0 m
      else
      some (0, m))
  else
  some ((-1), m)
def F11_price (m : Mem) (v1 v2 : Int) : Option (Int × Mem) :=
  jn (fun (K29 : Option (Int × Mem)) =>
    if (F11_in v1 0 4) = 0 then
      K29
    else
    if (F11_in v2 0 99) = 0 then
      K29
    else
    b2 (F11_changes m 1 v1 v2) fun r23 m23 =>
    some (r23, m23))
    (  some ((-1), m))
def L11_same_33 (m : Mem) (v1 : Int) (v2 : Int) (v3 : Int) : Nat → Int → Int → Option Int
  | 0, _, _ => none
  | n + 1, v4, v5 =>
    if 16 ≤ v5 then
      some v4
    else
    gd (0 ≤ w32 ((w32 (16 * v1)) + v5) ∧ w32 ((w32 (16 * v1)) + v5) < 192) <|
    gd (0 ≤ w32 ((w32 (16 * v2)) + v5) ∧ w32 ((w32 (16 * v2)) + v5) < 192) <|
    jn (fun (K98 : Int → Option Int) =>
      jn (fun (K82 : Option Int) =>
        if (rd m 89 (w32 ((w32 (16 * v1)) + v5))) = 9 then
          K82
        else
        if (rd m 89 (w32 ((w32 (16 * v2)) + v5))) ≠ 9 then
          if (rd m 89 (w32 ((w32 (16 * v1)) + v5))) ≠ (rd m 89 (w32 ((w32 (16 * v2)) + v5))) then
            K98 1
          else
          K98 0
        else
        K82)
        (  K98 2))
      (fun (x98 : Int) =>
      jn (fun (K115 : Int → Option Int) =>
        if x98 ≠ v3 then
          K115 v4
        else
        K115 (bor v4 (shl 1 v5)))
        (fun (v4_115 : Int) =>
        L11_same_33 m v1 v2 v3 n v4_115 (w32 (v5 + 1))))
def F11_same (m : Mem) (v1 v2 v3 : Int) : Option Int :=
  if (F11_isCharter m v1) = 0 then
    some ((-1))
  else
  if (F11_isCharter m v2) = 0 then
    some ((-1))
  else
  if (F11_in v3 0 2) ≠ 0 then
    L11_same_33 m v1 v2 v3 FU 0 0
  else
  some ((-1))
def L11_digest_29 (m : Mem) (v2 : Int) (k58 : Int → Option Int) : Nat → Int → Int → Option Int
  | 0, _, _ => none
  | n + 1, v1, v3 =>
    if 16 ≤ v3 then
      k58 v1
    else
    gd (0 ≤ w32 ((w32 (16 * v2)) + v3) ∧ w32 ((w32 (16 * v2)) + v3) < 192) <|
    L11_digest_29 m v2 k58 n (w32 ((w32 (v1 * 31)) + (rd m 89 (w32 ((w32 (16 * v2)) + v3))))) (w32 (v3 + 1))
def L11_digest_5 (m : Mem) (k64 : Int → Option Int) : Nat → Int → Int → Option Int
  | 0, _, _ => none
  | n + 1, v1, v2 =>
    if (rd m 83 1) ≤ v2 then
      k64 v1
    else
    gd (0 ≤ v2 ∧ v2 < 12) <|
    L11_digest_29 m v2 (fun (v1_58 : Int) =>
      L11_digest_5 m k64 n v1_58 (w32 (v2 + 1))) FU (w32 ((w32 ((w32 (v1 * 31)) + (rd m 88 v2))) + 1)) 0
def L11_digest_66 (m : Mem) : Nat → Int → Int → Option Int
  | 0, _, _ => none
  | n + 1, v1, v2 =>
    if 5 ≤ v2 then
      some v1
    else
    gd (0 ≤ v2 ∧ v2 < 5) <|
    L11_digest_66 m n (w32 ((w32 (v1 * 31)) + (rd m 90 v2))) (w32 (v2 + 1))
def F11_digest (m : Mem)  : Option Int :=
  L11_digest_5 m (fun (v1_64 : Int) =>
    L11_digest_66 m FU v1_64 0) FU 7 0
def L11_isAbove_2 (m : Mem) (v1 : Int) : Nat → Int → Option Int
  | 0, _ => none
  | n + 1, v3 =>
    if v3 < 0 then
      some 0
    else
    if v3 ≠ v1 then
      gd (0 ≤ v3 ∧ v3 < 12) <|
      L11_isAbove_2 m v1 n (rd m 88 v3)
    else
    some 1
def F11_isAbove (m : Mem) (v1 v2 : Int) : Option Int :=
  L11_isAbove_2 m v1 FU v2
def F11_mother (m : Mem) (v1 v2 : Int) : Option (Int × Mem) :=
  if (F11_isCharter m v1) = 0 then
    some ((-2000000000), m)
  else
  jn (fun (K21 : Option (Int × Mem)) =>
    if v2 = (-1) then
      K21
    else
    if (F11_isCharter m v2) = 0 then
      some ((-2000000000), m)
    else
    K21)
    (  if v2 ≠ v1 then
      jn (fun (K45 : Option (Int × Mem)) =>
        if v2 < 0 then
          K45
        else
        b1 (F11_isAbove m v1 v2) fun r36 =>
        if r36 = 0 then
          K45
        else
        some ((-2), m))
        (  b2 (F11_changes m 2 v1 v2) fun r49 m49 =>
        some (r49, m49))
    else
    some ((-2000000000), m))
def F11_priceOf (m : Mem) (v1 v2 : Int) : Option Int :=
  if v1 ≠ v2 then
    if v1 ≠ 0 then
      if v2 ≠ 0 then
        gd ((0 : Int) ≤ 2 ∧ (2 : Int) < 5) <|
        some (rd m 90 2)
      else
      gd ((0 : Int) ≤ 1 ∧ (1 : Int) < 5) <|
      some (rd m 90 1)
    else
    gd ((0 : Int) ≤ 0 ∧ (0 : Int) < 5) <|
    some (rd m 90 0)
  else
  some 0
def L11_isOrdered_2 (m : Mem) (v1 : Int) : Nat → Int → Option Int
  | 0, _ => none
  | n + 1, v2 =>
    if (rd m 83 24) ≤ v2 then
      some 0
    else
    gd (0 ≤ v2 ∧ v2 < 12) <|
    if (rd m 100 v2) ≠ v1 then
      L11_isOrdered_2 m v1 n (w32 (v2 + 1))
    else
    some 1
def F11_isOrdered (m : Mem) (v1 : Int) : Option Int :=
  L11_isOrdered_2 m v1 FU 0
def L11_findOrder_15 (k93 : Int → Mem → Option Mem) : Nat → Int → Int → Mem → Option Mem
  | 0, _, _, _ => none
  | n + 1, v1, v2, m =>
    if (rd m 83 1) ≤ v2 then
      k93 v1 m
    else
    gd (0 ≤ v2 ∧ v2 < 12) <|
    jn (fun (K87 : Int → Mem → Option Mem) =>
      if (rd m 97 v2) = 0 then
        K87 v1 m
      else
      b1 (F11_isOrdered m v2) fun r34 =>
      if r34 ≠ 0 then
        K87 v1 m
      else
      gd (0 ≤ v2 ∧ v2 < 12) <|
      jn (fun (K65 : Option Mem) =>
        if (rd m 96 v2) < 0 then
          K65
        else
        gd (0 ≤ v2 ∧ v2 < 12) <|
        b1 (F11_isOrdered m (rd m 96 v2)) fun r56 =>
        if r56 ≠ 0 then
          K65
        else
        K87 v1 m)
        (  gd (0 ≤ rd m 83 24 ∧ rd m 83 24 < 12) <|
        stw m 100 (rd m 83 24) v2 fun m74 =>
        stw m74 83 24 (w32 ((rd m74 83 24) + 1)) fun m82 =>
        K87 1 m82))
      (fun (v1_87 : Int) (m_87 : Mem) =>
      L11_findOrder_15 k93 n v1_87 (w32 (v2 + 1)) m_87)
def L11_findOrder_7 : Nat → Int → Mem → Option Mem
  | 0, _, _ => none
  | n + 1, v1, m =>
    if v1 = 0 then
      some m
    else
    L11_findOrder_15 (fun (v1_93 : Int) (m_93 : Mem) =>
      L11_findOrder_7 n v1_93 m_93) FU 0 0 m
def F11_findOrder (m : Mem)  : Option Mem :=
  stw m 83 24 0 fun m2 =>
  L11_findOrder_7 FU 1 m2
def F11_mayBe (m : Mem) (v1 v2 v3 : Int) : Option Int :=
  jn (fun (K24 : Int → Option Int) =>
    if v1 ≠ (rd m 83 25) then
      gd (0 ≤ w32 ((w32 (16 * v1)) + v2) ∧ w32 ((w32 (16 * v1)) + v2) < 192) <|
      K24 (rd m 89 (w32 ((w32 (16 * v1)) + v2)))
    else
    K24 9)
    (fun (x24 : Int) =>
    jn (fun (K39 : Option Int) =>
      if x24 = 9 then
        K39
      else
      if x24 ≠ v3 then
        some 0
      else
      K39)
      (  some 1))
def L11_leastFrom_6 (m : Mem) (v1 : Int) (v2 : Int) : Nat → Int → Int → Option Int
  | 0, _, _ => none
  | n + 1, v3, v4 =>
    if 4 ≤ v4 then
      some v3
    else
    gd (0 ≤ w32 ((w32 (4 * v1)) + v4) ∧ w32 ((w32 (4 * v1)) + v4) < 48) <|
    jn (fun (K52 : Int → Option Int) =>
      if 1000000 ≤ (rd m 98 (w32 ((w32 (4 * v1)) + v4))) then
        K52 v3
      else
      b1 (F11_priceOf m v2 v4) fun r33 =>
      gd (0 ≤ w32 ((w32 (4 * v1)) + v4) ∧ w32 ((w32 (4 * v1)) + v4) < 48) <|
      K52 (F11_lesser v3 (w32 (r33 + (rd m 98 (w32 ((w32 (4 * v1)) + v4)))))))
      (fun (v3_52 : Int) =>
      L11_leastFrom_6 m v1 v2 n v3_52 (w32 (v4 + 1)))
def F11_leastFrom (m : Mem) (v1 v2 : Int) : Option Int :=
  L11_leastFrom_6 m v1 v2 FU 1000000 0
def L11_costOf_53 (m : Mem) (v4 : Int) (v5 : Int) (k110 : Int → Option (Int × Mem)) : Nat → Int → Int → Option (Int × Mem)
  | 0, _, _ => none
  | n + 1, v6, v7 =>
    if (rd m 83 1) ≤ v7 then
      k110 v6
    else
    if 1000000 ≤ v6 then
      k110 v6
    else
    gd (0 ≤ v7 ∧ v7 < 12) <|
    jn (fun (K104 : Int → Option (Int × Mem)) =>
      if (rd m 97 v7) = 0 then
        K104 v6
      else
      gd (0 ≤ v7 ∧ v7 < 12) <|
      if (rd m 96 v7) ≠ v4 then
        K104 v6
      else
      b1 (F11_leastFrom m v7 v5) fun r98 =>
      K104 (w32 (v6 + r98)))
      (fun (v6_104 : Int) =>
      L11_costOf_53 m v4 v5 k110 n v6_104 (w32 (v7 + 1)))
def L11_costOf_24 (v1 : Int) (v4 : Int) (k130 : Mem → Option (Int × Mem)) : Nat → Int → Mem → Option (Int × Mem)
  | 0, _, _ => none
  | n + 1, v5, m =>
    if 4 ≤ v5 then
      k130 m
    else
    b1 (F11_mayBe m v4 v1 v5) fun r36 =>
    jn (fun (K48 : Int → Option (Int × Mem)) =>
      if r36 = 0 then
        K48 1000000
      else
      K48 0)
      (fun (x48 : Int) =>
      L11_costOf_53 m v4 v5 (fun (v6_110 : Int) =>
        gd (0 ≤ w32 ((w32 (4 * v4)) + v5) ∧ w32 ((w32 (4 * v4)) + v5) < 48) <|
        stw m 98 (w32 ((w32 (4 * v4)) + v5)) v6_110 fun m123 =>
        L11_costOf_24 v1 v4 k130 n (w32 (v5 + 1)) m123) FU x48 0)
def L11_costOf_9 (v1 : Int) (k136 : Mem → Option (Int × Mem)) : Nat → Int → Mem → Option (Int × Mem)
  | 0, _, _ => none
  | n + 1, v3, m =>
    if v3 < 0 then
      k136 m
    else
    gd (0 ≤ v3 ∧ v3 < 12) <|
    L11_costOf_24 v1 (rd m 100 v3) (fun (m_130 : Mem) =>
      L11_costOf_9 v1 k136 n (w32 (v3 + (-1))) m_130) FU 0 m
def L11_costOf_174 (m : Mem) (v4 : Int) (k205 : Int → Option (Int × Mem)) : Nat → Int → Int → Option (Int × Mem)
  | 0, _, _ => none
  | n + 1, v5, v6 =>
    if 4 ≤ v6 then
      k205 v5
    else
    gd (0 ≤ w32 ((w32 (4 * v4)) + v6) ∧ w32 ((w32 (4 * v4)) + v6) < 48) <|
    L11_costOf_174 m v4 k205 n (F11_lesser v5 (rd m 98 (w32 ((w32 (4 * v4)) + v6)))) (w32 (v6 + 1))
def L11_costOf_138 (m : Mem) : Nat → Int → Int → Option (Int × Mem)
  | 0, _, _ => none
  | n + 1, v2, v3 =>
    if (rd m 83 24) ≤ v3 then
      some (v2, m)
    else
    gd (0 ≤ v3 ∧ v3 < 12) <|
    gd (0 ≤ rd m 100 v3 ∧ rd m 100 v3 < 12) <|
    jn (fun (K210 : Int → Option (Int × Mem)) =>
      if (rd m 96 (rd m 100 v3)) < 0 then
        L11_costOf_174 m (rd m 100 v3) (fun (v5_205 : Int) =>
          K210 (w32 (v2 + v5_205))) FU 1000000 0
      else
      K210 v2)
      (fun (v2_210 : Int) =>
      L11_costOf_138 m n v2_210 (w32 (v3 + 1)))
def F11_costOf (m : Mem) (v1 : Int) : Option (Int × Mem) :=
  L11_costOf_9 v1 (fun (m_136 : Mem) =>
    L11_costOf_138 m_136 FU 0 0) FU (w32 ((rd m 83 24) - 1)) m
def L11_findBeyond_59 (m : Mem) (v2 : Int) (v3 : Int) (v4 : Int) (k137 : Int → Option Mem) : Nat → Int → Int → Option Mem
  | 0, _, _ => none
  | n + 1, v5, v6 =>
    if 4 ≤ v6 then
      k137 v5
    else
    gd (0 ≤ w32 ((w32 (4 * v3)) + v6) ∧ w32 ((w32 (4 * v3)) + v6) < 48) <|
    jn (fun (K131 : Int → Option Mem) =>
      if (rd m 98 (w32 ((w32 (4 * v3)) + v6))) < 1000000 then
        gd (0 ≤ w32 ((w32 (4 * v3)) + v6) ∧ w32 ((w32 (4 * v3)) + v6) < 48) <|
        gd (0 ≤ w32 ((w32 (4 * v3)) + v6) ∧ w32 ((w32 (4 * v3)) + v6) < 48) <|
        b1 (F11_leastFrom m v2 v6) fun r113 =>
        b1 (F11_priceOf m v6 v4) fun r122 =>
        K131 (F11_lesser v5 (w32 ((w32 ((w32 ((rd m 99 (w32 ((w32 (4 * v3)) + v6))) + (rd m 98 (w32 ((w32 (4 * v3)) + v6))))) - r113)) + r122)))
      else
      K131 v5)
      (fun (v5_131 : Int) =>
      L11_findBeyond_59 m v2 v3 v4 k137 n v5_131 (w32 (v6 + 1)))
def L11_findBeyond_27 (v2 : Int) (v3 : Int) (k156 : Mem → Option Mem) : Nat → Int → Mem → Option Mem
  | 0, _, _ => none
  | n + 1, v4, m =>
    if 4 ≤ v4 then
      k156 m
    else
    jn (fun (K150 : Mem → Option Mem) =>
      if 0 ≤ v3 then
        L11_findBeyond_59 m v2 v3 v4 (fun (v5_137 : Int) =>
          gd (0 ≤ w32 ((w32 (4 * v2)) + v4) ∧ w32 ((w32 (4 * v2)) + v4) < 48) <|
          stw m 99 (w32 ((w32 (4 * v2)) + v4)) v5_137 fun m149 =>
          K150 m149) FU 1000000 0
      else
      gd (0 ≤ w32 ((w32 (4 * v2)) + v4) ∧ w32 ((w32 (4 * v2)) + v4) < 48) <|
      stw m 99 (w32 ((w32 (4 * v2)) + v4)) 0 fun m48 =>
      K150 m48)
      (fun (m_150 : Mem) =>
      L11_findBeyond_27 v2 v3 k156 n (w32 (v4 + 1)) m_150)
def L11_findBeyond_2 : Nat → Int → Mem → Option Mem
  | 0, _, _ => none
  | n + 1, v1, m =>
    if (rd m 83 24) ≤ v1 then
      some m
    else
    gd (0 ≤ v1 ∧ v1 < 12) <|
    gd (0 ≤ rd m 100 v1 ∧ rd m 100 v1 < 12) <|
    L11_findBeyond_27 (rd m 100 v1) (rd m 96 (rd m 100 v1)) (fun (m_156 : Mem) =>
      L11_findBeyond_2 n (w32 (v1 + 1)) m_156) FU 0 m
def F11_findBeyond (m : Mem)  : Option Mem :=
  L11_findBeyond_2 FU 0 m
def L11_lookAtAll_7 (k50 : Mem → Option Mem) : Nat → Int → Mem → Option Mem
  | 0, _, _ => none
  | n + 1, v1, m =>
    if 12 ≤ v1 then
      k50 m
    else
    jn (fun (K31 : Int → Option Mem) =>
      if (rd m 83 1) ≤ v1 then
        K31 0
      else
      K31 1)
      (fun (x31 : Int) =>
      gd (0 ≤ v1 ∧ v1 < 12) <|
      stw m 97 v1 x31 fun m31 =>
      gd (0 ≤ v1 ∧ v1 < 12) <|
      gd (0 ≤ v1 ∧ v1 < 12) <|
      stw m31 96 v1 (rd m31 88 v1) fun m43 =>
      L11_lookAtAll_7 k50 n (w32 (v1 + 1)) m43)
def F11_lookAtAll (m : Mem)  : Option Mem :=
  stw m 83 25 (-1) fun m2 =>
  L11_lookAtAll_7 (fun (m_50 : Mem) =>
    b1 (F11_findOrder m_50) fun m51 =>
    some m51) FU 0 m2
def L11_cost_32 : Nat → Int → Int → Mem → Option (Int × Mem)
  | 0, _, _, _ => none
  | n + 1, v2, v3, m =>
    if 16 ≤ v3 then
      some (v2, m)
    else
    b2 (F11_costOf m v3) fun r41 m41 =>
    L11_cost_32 n (w32 (v2 + r41)) (w32 (v3 + 1)) m41
def F11_cost (m : Mem) (v1 : Int) : Option (Int × Mem) :=
  jn (fun (K14 : Option (Int × Mem)) =>
    if v1 = (-1) then
      K14
    else
    if (F11_isClause v1) ≠ 0 then
      K14
    else
    some ((-1), m))
    (  b1 (F11_lookAtAll m) fun m15 =>
    if v1 < 0 then
      L11_cost_32 FU 0 0 m15
    else
    b2 (F11_costOf m15 v1) fun r24 m24 =>
    some (r24, m24))
def L11_filledBy_16 (m : Mem) (v1 : Int) (k72 : Int → Option (Int × Mem)) : Nat → Int → Int → Option (Int × Mem)
  | 0, _, _ => none
  | n + 1, v3, v4 =>
    if 4 ≤ v4 then
      k72 v3
    else
    gd (0 ≤ w32 ((w32 (4 * v1)) + v4) ∧ w32 ((w32 (4 * v1)) + v4) < 48) <|
    jn (fun (K66 : Int → Option (Int × Mem)) =>
      if 1000000 ≤ (rd m 98 (w32 ((w32 (4 * v1)) + v4))) then
        K66 v3
      else
      gd (0 ≤ w32 ((w32 (4 * v1)) + v4) ∧ w32 ((w32 (4 * v1)) + v4) < 48) <|
      gd (0 ≤ w32 ((w32 (4 * v1)) + v4) ∧ w32 ((w32 (4 * v1)) + v4) < 48) <|
      K66 (F11_lesser v3 (w32 ((rd m 98 (w32 ((w32 (4 * v1)) + v4))) + (rd m 99 (w32 ((w32 (4 * v1)) + v4)))))))
      (fun (v3_66 : Int) =>
      L11_filledBy_16 m v1 k72 n v3_66 (w32 (v4 + 1)))
def L11_filledBy_78 (m : Mem) (v1 : Int) (v3 : Int) : Nat → Int → Int → Option (Int × Mem)
  | 0, _, _ => none
  | n + 1, v4, v5 =>
    if 4 ≤ v5 then
      some (v4, m)
    else
    gd (0 ≤ w32 ((w32 (4 * v1)) + v5) ∧ w32 ((w32 (4 * v1)) + v5) < 48) <|
    jn (fun (K136 : Int → Option (Int × Mem)) =>
      if 1000000 ≤ (rd m 98 (w32 ((w32 (4 * v1)) + v5))) then
        K136 v4
      else
      gd (0 ≤ w32 ((w32 (4 * v1)) + v5) ∧ w32 ((w32 (4 * v1)) + v5) < 48) <|
      gd (0 ≤ w32 ((w32 (4 * v1)) + v5) ∧ w32 ((w32 (4 * v1)) + v5) < 48) <|
      if (w32 ((rd m 98 (w32 ((w32 (4 * v1)) + v5))) + (rd m 99 (w32 ((w32 (4 * v1)) + v5))))) ≠ v3 then
        K136 v4
      else
      K136 (bor v4 (shl 1 v5)))
      (fun (v4_136 : Int) =>
      L11_filledBy_78 m v1 v3 n v4_136 (w32 (v5 + 1)))
def F11_filledBy (m : Mem) (v1 v2 : Int) : Option (Int × Mem) :=
  b2 (F11_costOf m v2) fun r2 m2 =>
  b1 (F11_findBeyond m2) fun m7 =>
  L11_filledBy_16 m7 v1 (fun (v3_72 : Int) =>
    L11_filledBy_78 m7 v1 v3_72 FU 0 0) FU 1000000 0
def F11_filled (m : Mem) (v1 v2 : Int) : Option (Int × Mem) :=
  if (F11_isCharter m v1) = 0 then
    some ((-1), m)
  else
  if (F11_isClause v2) ≠ 0 then
    b1 (F11_lookAtAll m) fun m18 =>
    b2 (F11_filledBy m18 v1 v2) fun r24 m24 =>
    some (r24, m24)
  else
  some ((-1), m)
def F11_law (m : Mem) (v1 v2 : Int) : Option (Int × Mem) :=
  if (F11_isCharter m v1) = 0 then
    some ((-1), m)
  else
  if (F11_isClause v2) ≠ 0 then
    b1 (F11_lookAtAll m) fun m18 =>
    stw m18 83 25 v1 fun m23 =>
    b2 (F11_filledBy m23 v1 v2) fun r29 m29 =>
    stw m29 83 25 (-1) fun m35 =>
    some (r29, m35)
  else
  some ((-1), m)
def L11_findDays_2 (k69 : Mem → Option (Int × Mem)) : Nat → Int → Mem → Option (Int × Mem)
  | 0, _, _ => none
  | n + 1, v1, m =>
    if (rd m 83 24) ≤ v1 then
      k69 m
    else
    gd (0 ≤ v1 ∧ v1 < 12) <|
    gd (0 ≤ rd m 100 v1 ∧ rd m 100 v1 < 12) <|
    jn (fun (K62 : Int → Option (Int × Mem)) =>
      if 0 ≤ (rd m 96 (rd m 100 v1)) then
        gd (0 ≤ rd m 100 v1 ∧ rd m 100 v1 < 12) <|
        gd (0 ≤ rd m 100 v1 ∧ rd m 100 v1 < 12) <|
        gd (0 ≤ rd m 96 (rd m 100 v1) ∧ rd m 96 (rd m 100 v1) < 12) <|
        K62 (F11_greater (rd m 84 (rd m 100 v1)) (w32 ((rd m 101 (rd m 96 (rd m 100 v1))) + 1)))
      else
      gd (0 ≤ rd m 100 v1 ∧ rd m 100 v1 < 12) <|
      K62 (rd m 84 (rd m 100 v1)))
      (fun (x62 : Int) =>
      gd (0 ≤ rd m 100 v1 ∧ rd m 100 v1 < 12) <|
      stw m 101 (rd m 100 v1) x62 fun m62 =>
      L11_findDays_2 k69 n (w32 (v1 + 1)) m62)
def L11_findDays_101 (v2 : Int) (k157 : Mem → Option (Int × Mem)) : Nat → Int → Mem → Option (Int × Mem)
  | 0, _, _ => none
  | n + 1, v3, m =>
    if (rd m 83 1) ≤ v3 then
      k157 m
    else
    gd (0 ≤ v3 ∧ v3 < 12) <|
    jn (fun (K151 : Mem → Option (Int × Mem)) =>
      if (rd m 97 v3) = 0 then
        K151 m
      else
      gd (0 ≤ v3 ∧ v3 < 12) <|
      if (rd m 96 v3) ≠ v2 then
        K151 m
      else
      gd (0 ≤ v2 ∧ v2 < 12) <|
      gd (0 ≤ v3 ∧ v3 < 12) <|
      gd (0 ≤ v2 ∧ v2 < 12) <|
      stw m 102 v2 (F11_lesser (rd m 102 v2) (w32 ((rd m 102 v3) - 1))) fun m150 =>
      K151 m150)
      (fun (m_151 : Mem) =>
      L11_findDays_101 v2 k157 n (w32 (v3 + 1)) m_151)
def L11_findDays_76 (k163 : Mem → Option (Int × Mem)) : Nat → Int → Mem → Option (Int × Mem)
  | 0, _, _ => none
  | n + 1, v1, m =>
    if v1 < 0 then
      k163 m
    else
    gd (0 ≤ v1 ∧ v1 < 12) <|
    gd (0 ≤ rd m 100 v1 ∧ rd m 100 v1 < 12) <|
    gd (0 ≤ rd m 100 v1 ∧ rd m 100 v1 < 12) <|
    stw m 102 (rd m 100 v1) (rd m 85 (rd m 100 v1)) fun m98 =>
    L11_findDays_101 (rd m 100 v1) (fun (m_157 : Mem) =>
      L11_findDays_76 k163 n (w32 (v1 + (-1))) m_157) FU 0 m98
def L11_findDays_165 (m : Mem) : Nat → Int → Option (Int × Mem)
  | 0, _ => none
  | n + 1, v1 =>
    if (rd m 83 1) ≤ v1 then
      some ((-2), m)
    else
    gd (0 ≤ v1 ∧ v1 < 12) <|
    jn (fun (K199 : Option (Int × Mem)) =>
      if (rd m 97 v1) = 0 then
        K199
      else
      gd (0 ≤ v1 ∧ v1 < 12) <|
      gd (0 ≤ v1 ∧ v1 < 12) <|
      if (rd m 101 v1) ≤ (rd m 85 v1) then
        K199
      else
      some (v1, m))
      (  L11_findDays_165 m n (w32 (v1 + 1)))
def F11_findDays (m : Mem)  : Option (Int × Mem) :=
  L11_findDays_2 (fun (m_69 : Mem) =>
    L11_findDays_76 (fun (m_163 : Mem) =>
      L11_findDays_165 m_163 FU 0) FU (w32 ((rd m_69 83 24) - 1)) m_69) FU 0 m
def F11_days (m : Mem) (v1 v2 : Int) : Option (Int × Mem) :=
  if (F11_isCharter m v1) = 0 then
    some ((-1), m)
  else
  if (F11_in v2 0 2) ≠ 0 then
    b1 (F11_lookAtAll m) fun m20 =>
    b2 (F11_findDays m20) fun r24 m24 =>
    if v2 ≠ 2 then
      if r24 < 0 then
        if v2 ≠ 0 then
          gd (0 ≤ v1 ∧ v1 < 12) <|
          some (rd m24 102 v1, m24)
        else
        gd (0 ≤ v1 ∧ v1 < 12) <|
        some (rd m24 101 v1, m24)
      else
      some ((-2), m24)
    else
    some (r24, m24)
  else
  some ((-1), m)
def L11_placeOf_2 (m : Mem) (v1 : Int) : Nat → Int → Option Int
  | 0, _ => none
  | n + 1, v2 =>
    if (rd m 83 28) ≤ v2 then
      some ((-1))
    else
    gd (0 ≤ v2 ∧ v2 < 6) <|
    if (rd m 103 v2) ≠ v1 then
      L11_placeOf_2 m v1 n (w32 (v2 + 1))
    else
    some v2
def F11_placeOf (m : Mem) (v1 : Int) : Option Int :=
  L11_placeOf_2 m v1 FU 0
def F11_list (m : Mem) (v1 : Int) : Option (Int × Mem) :=
  if (F11_isCharter m v1) = 0 then
    some ((-1), m)
  else
  b1 (F11_placeOf m v1) fun r10 =>
  if r10 < 0 then
    if (rd m 83 28) ≠ 6 then
      gd (0 ≤ rd m 83 28 ∧ rd m 83 28 < 6) <|
      stw m 103 (rd m 83 28) v1 fun m39 =>
      stw m39 83 28 (w32 ((rd m39 83 28) + 1)) fun m47 =>
      stw m47 83 31 0 fun m52 =>
      some (rd m52 83 28, m52)
    else
    some ((-3), m)
  else
  some ((-1), m)
def F11_unlist (m : Mem)  : Option (Int × Mem) :=
  stw m 83 28 0 fun m7 =>
  stw m7 83 31 0 fun m12 =>
  some (rd m 83 28, m12)
def L11_isOneTree_14 (m : Mem) (k41 : Int → Option Int) : Nat → Int → Int → Option Int
  | 0, _, _ => none
  | n + 1, v2, v3 =>
    if (rd m 83 28) ≤ v3 then
      k41 v2
    else
    if v2 = 9 then
      k41 v2
    else
    gd (0 ≤ v2 ∧ v2 < 6) <|
    L11_isOneTree_14 m k41 n (rd m 104 v2) (w32 (v3 + 1))
def L11_isOneTree_2 (m : Mem) : Nat → Int → Option Int
  | 0, _ => none
  | n + 1, v1 =>
    if (rd m 83 28) ≤ v1 then
      some 1
    else
    L11_isOneTree_14 m (fun (v2_41 : Int) =>
      if v2_41 = 9 then
        L11_isOneTree_2 m n (w32 (v1 + 1))
      else
      some 0) FU v1 0
def F11_isOneTree (m : Mem)  : Option Int :=
  L11_isOneTree_2 m FU 0
def L11_weigh_10 (k29 : Mem → Option Mem) : Nat → Int → Mem → Option Mem
  | 0, _, _ => none
  | n + 1, v1, m =>
    if 12 ≤ v1 then
      k29 m
    else
    gd (0 ≤ v1 ∧ v1 < 12) <|
    stw m 97 v1 0 fun m22 =>
    L11_weigh_10 k29 n (w32 (v1 + 1)) m22
def L11_weigh_31 (k94 : Mem → Option Mem) : Nat → Int → Mem → Option Mem
  | 0, _, _ => none
  | n + 1, v1, m =>
    if (rd m 83 28) ≤ v1 then
      k94 m
    else
    gd (0 ≤ v1 ∧ v1 < 6) <|
    gd (0 ≤ rd m 103 v1 ∧ rd m 103 v1 < 12) <|
    stw m 97 (rd m 103 v1) 1 fun m50 =>
    gd (0 ≤ v1 ∧ v1 < 6) <|
    gd (0 ≤ v1 ∧ v1 < 6) <|
    jn (fun (K87 : Int → Option Mem) =>
      if (rd m50 104 v1) ≠ 9 then
        gd (0 ≤ v1 ∧ v1 < 6) <|
        gd (0 ≤ rd m50 104 v1 ∧ rd m50 104 v1 < 6) <|
        K87 (rd m50 103 (rd m50 104 v1))
      else
      K87 (-1))
      (fun (x87 : Int) =>
      gd (0 ≤ rd m50 103 v1 ∧ rd m50 103 v1 < 12) <|
      stw m50 96 (rd m50 103 v1) x87 fun m87 =>
      L11_weigh_31 k94 n (w32 (v1 + 1)) m87)
def L11_weigh_110 (k145 : Int → Mem → Option Mem) : Nat → Int → Int → Mem → Option Mem
  | 0, _, _, _ => none
  | n + 1, v1, v2, m =>
    if 16 ≤ v2 then
      k145 v1 m
    else
    jn (fun (K131 : Option Mem) =>
      if (rd m 83 33) = 0 then
        K131
      else
      if (rd m 83 32) < v1 then
        k145 v1 m
      else
      K131)
      (  b2 (F11_costOf m v2) fun r134 m134 =>
      L11_weigh_110 k145 n (w32 (v1 + r134)) (w32 (v2 + 1)) m134)
def L11_weigh_211 (k257 : Int → Mem → Option Mem) : Nat → Int → Int → Mem → Option Mem
  | 0, _, _, _ => none
  | n + 1, v2, v3, m =>
    if (rd m 83 28) ≤ v3 then
      k257 v2 m
    else
    gd (0 ≤ v3 ∧ v3 < 6) <|
    gd (0 ≤ v3 ∧ v3 < 6) <|
    gd (0 ≤ w32 ((w32 (10 * v3)) + (rd m 104 v3)) ∧ w32 ((w32 (10 * v3)) + (rd m 104 v3)) < 60) <|
    gd (0 ≤ w32 ((w32 (10 * v3)) + (rd m 104 v3)) ∧ w32 ((w32 (10 * v3)) + (rd m 104 v3)) < 60) <|
    stw m 106 (w32 ((w32 (10 * v3)) + (rd m 104 v3))) (w32 ((rd m 106 (w32 ((w32 (10 * v3)) + (rd m 104 v3)))) + 1)) fun m250 =>
    L11_weigh_211 k257 n (w32 ((w32 (10 * v2)) + (rd m 104 v3))) (w32 (v3 + 1)) m250
def L11_weigh_188 (k207 : Mem → Option Mem) : Nat → Int → Mem → Option Mem
  | 0, _, _ => none
  | n + 1, v2, m =>
    if 60 ≤ v2 then
      k207 m
    else
    gd (0 ≤ v2 ∧ v2 < 60) <|
    stw m 106 v2 0 fun m200 =>
    L11_weigh_188 k207 n (w32 (v2 + 1)) m200
def F11_weigh (m : Mem)  : Option Mem :=
  b1 (F11_isOneTree m) fun r1 =>
  if r1 ≠ 0 then
    L11_weigh_10 (fun (m_29 : Mem) =>
      L11_weigh_31 (fun (m_94 : Mem) =>
        b1 (F11_findOrder m_94) fun m95 =>
        b2 (F11_findDays m95) fun r99 m99 =>
        if r99 < 0 then
          L11_weigh_110 (fun (v1_145 : Int) (m_145 : Mem) =>
            jn (fun (K161 : Option Mem) =>
              if (rd m_145 83 33) ≤ 0 then
                K161
              else
              if v1_145 ≤ (rd m_145 83 32) then
                K161
              else
              some m_145)
              (  jn (fun (K207 : Mem → Option Mem) =>
                jn (fun (K176 : Option Mem) =>
                  if (rd m_145 83 33) = 0 then
                    K176
                  else
                  if (rd m_145 83 32) ≤ v1_145 then
                    K207 m_145
                  else
                  K176)
                  (  stw m_145 83 32 v1_145 fun m178 =>
                  stw m178 83 33 0 fun m183 =>
                  L11_weigh_188 (fun (m_207 : Mem) =>
                    K207 m_207) FU 0 m183))
                (fun (m_207 : Mem) =>
                L11_weigh_211 (fun (v2_257 : Int) (m_257 : Mem) =>
                  gd (0 ≤ rd m_257 83 33 ∧ rd m_257 83 33 < 7776) <|
                  stw m_257 105 (rd m_257 83 33) v2_257 fun m266 =>
                  stw m266 83 33 (w32 ((rd m266 83 33) + 1)) fun m274 =>
                  some m274) FU 0 0 m_207))) FU 0 0 m99
        else
        some m99) FU 0 m_29) FU 0 m
  else
  some m
def L11_mothersFrom_20 (rec : Mem → Int → Int → Option Mem) (v1 : Int) (v2 : Int) (k57 : Mem → Option Mem) : Nat → Int → Mem → Option Mem
  | 0, _, _ => none
  | n + 1, v3, m =>
    if (rd m 83 28) ≤ v3 then
      k57 m
    else
    jn (fun (K51 : Mem → Option Mem) =>
      if v3 ≠ v1 then
        gd (0 ≤ v1 ∧ v1 < 6) <|
        stw m 104 v1 v3 fun m42 =>
        b1 (rec m42 (w32 (v1 + 1)) v2) fun m48 =>
        K51 m48
      else
      K51 m)
      (fun (m_51 : Mem) =>
      L11_mothersFrom_20 rec v1 v2 k57 n (w32 (v3 + 1)) m_51)
def F11_mothersFrom : Nat → Mem → Int → Int → Option Mem
  | 0, _, _, _ => none
  | n + 1, m, v1, v2 =>
    if v1 ≠ (rd m 83 28) then
      L11_mothersFrom_20 (F11_mothersFrom n) v1 v2 (fun (m_57 : Mem) =>
        gd (0 ≤ v1 ∧ v1 < 6) <|
        stw m_57 104 v1 9 fun m64 =>
        if v2 ≠ 0 then
          some m64
        else
        b1 ((F11_mothersFrom n) m64 (w32 (v1 + 1)) 1) fun m74 =>
        some m74) FU 0 m
    else
    if v2 ≠ 1 then
      some m
    else
    b1 (F11_weigh m) fun m14 =>
    some m14
def F11_findBest (m : Mem)  : Option Mem :=
  if (rd m 83 31) = 0 then
    stw m 83 31 1 fun m10 =>
    stw m10 83 25 (-1) fun m15 =>
    stw m15 83 33 0 fun m20 =>
    b1 (F11_mothersFrom 9 m20 0 0) fun m26 =>
    some m26
  else
  some m
def L11_boundNow_15 (m : Mem) (v2 : Int) (k66 : Int → Option Int) : Nat → Int → Int → Option Int
  | 0, _, _ => none
  | n + 1, v3, v4 =>
    if (rd m 83 28) ≤ v4 then
      k66 v3
    else
    gd (0 ≤ v4 ∧ v4 < 6) <|
    gd (0 ≤ w32 ((w32 (16 * (rd m 103 v4))) + v2) ∧ w32 ((w32 (16 * (rd m 103 v4))) + v2) < 192) <|
    jn (fun (K60 : Int → Option Int) =>
      if (F11_in (rd m 89 (w32 ((w32 (16 * (rd m 103 v4))) + v2))) 1 3) = 0 then
        K60 v3
      else
      K60 (bor v3 (shl 1 (rd m 89 (w32 ((w32 (16 * (rd m 103 v4))) + v2))))))
      (fun (v3_60 : Int) =>
      L11_boundNow_15 m v2 k66 n v3_60 (w32 (v4 + 1)))
def L11_boundNow_4 (m : Mem) : Nat → Int → Int → Option Int
  | 0, _, _ => none
  | n + 1, v1, v2 =>
    if 16 ≤ v2 then
      some v1
    else
    L11_boundNow_15 m v2 (fun (v3_66 : Int) =>
      jn (fun (K114 : Int → Option Int) =>
        if (w32 ((w32 ((band (shr v3_66 1) 1) + (band (shr v3_66 2) 1))) + (band (shr v3_66 3) 1))) ≤ 1 then
          K114 v1
        else
        gd ((0 : Int) ≤ 0 ∧ (0 : Int) < 5) <|
        gd ((0 : Int) ≤ 2 ∧ (2 : Int) < 5) <|
        K114 (w32 (v1 + (w32 ((w32 ((w32 ((w32 ((band (shr v3_66 1) 1) + (band (shr v3_66 2) 1))) + (band (shr v3_66 3) 1))) - 1)) * (F11_lesser (rd m 90 0) (rd m 90 2)))))))
        (fun (v1_114 : Int) =>
        L11_boundNow_4 m n v1_114 (w32 (v2 + 1)))) FU 0 0
def F11_boundNow (m : Mem)  : Option Int :=
  L11_boundNow_4 m FU 0 0
def L11_best_95 (m : Mem) (v3 : Int) (k133 : Int → Option (Int × Mem)) : Nat → Int → Int → Option (Int × Mem)
  | 0, _, _ => none
  | n + 1, v2, v4 =>
    if 10 ≤ v4 then
      k133 v2
    else
    gd (0 ≤ w32 ((w32 (10 * v3)) + v4) ∧ w32 ((w32 (10 * v3)) + v4) < 60) <|
    jn (fun (K127 : Int → Option (Int × Mem)) =>
      if (rd m 106 (w32 ((w32 (10 * v3)) + v4))) ≠ (rd m 83 33) then
        K127 v2
      else
      K127 (bor v2 (shl 1 v3)))
      (fun (v2_127 : Int) =>
      L11_best_95 m v3 k133 n v2_127 (w32 (v4 + 1)))
def L11_best_84 (m : Mem) : Nat → Int → Int → Option (Int × Mem)
  | 0, _, _ => none
  | n + 1, v2, v3 =>
    if (rd m 83 28) ≤ v3 then
      some (v2, m)
    else
    L11_best_95 m v3 (fun (v2_133 : Int) =>
      L11_best_84 m n v2_133 (w32 (v3 + 1))) FU v2 0
def F11_best (m : Mem) (v1 : Int) : Option (Int × Mem) :=
  if (F11_in v1 0 4) ≠ 0 then
    if 2 ≤ (rd m 83 28) then
      if v1 ≠ 3 then
        b1 (F11_findBest m) fun m33 =>
        if (rd m33 83 33) ≠ 0 then
          if v1 ≠ 0 then
            if v1 ≠ 1 then
              if v1 ≠ 4 then
                L11_best_84 m33 FU 0 0
              else
              b1 (F11_boundNow m33) fun r75 =>
              some (w32 ((rd m33 83 32) - r75), m33)
            else
            some (rd m33 83 33, m33)
          else
          some (rd m33 83 32, m33)
        else
        some ((-2), m33)
      else
      b1 (F11_boundNow m) fun r28 =>
      some (r28, m)
    else
    some ((-5), m)
  else
  some ((-1), m)
def L11_tree_70 (v2 : Int) (k87 : Int → Option (Int × Mem)) : Nat → Int → Int → Option (Int × Mem)
  | 0, _, _ => none
  | n + 1, v3, v4 =>
    if v4 ≤ v2 then
      k87 v3
    else
    L11_tree_70 v2 k87 n (idv v3 10) (w32 (v4 + (-1)))
def F11_tree (m : Mem) (v1 v2 : Int) : Option (Int × Mem) :=
  if (F11_in v2 0 (w32 ((rd m 83 28) - 1))) = 0 then
    some ((-1), m)
  else
  if 0 ≤ v1 then
    if 2 ≤ (rd m 83 28) then
      b1 (F11_findBest m) fun m32 =>
      if (rd m32 83 33) ≠ 0 then
        if v1 < (rd m32 83 33) then
          gd (0 ≤ v1 ∧ v1 < 7776) <|
          L11_tree_70 v2 (fun (v3_87 : Int) =>
            some (irm v3_87 10, m32)) FU (rd m32 105 v1) (w32 ((rd m32 83 28) - 1))
        else
        some ((-1), m32)
      else
      some ((-2), m32)
    else
    some ((-5), m)
  else
  some ((-1), m)
def L11_never_45 (m : Mem) (v1 : Int) : Nat → Int → Int → Option (Int × Mem)
  | 0, _, _ => none
  | n + 1, v2, v3 =>
    if (rd m 83 28) ≤ v3 then
      some (v2, m)
    else
    gd (0 ≤ w32 ((w32 (10 * v1)) + v3) ∧ w32 ((w32 (10 * v1)) + v3) < 60) <|
    jn (fun (K73 : Int → Option (Int × Mem)) =>
      if (rd m 106 (w32 ((w32 (10 * v1)) + v3))) ≠ 0 then
        K73 v2
      else
      K73 (bor v2 (shl 1 v3)))
      (fun (v2_73 : Int) =>
      L11_never_45 m v1 n v2_73 (w32 (v3 + 1)))
def F11_never (m : Mem) (v1 : Int) : Option (Int × Mem) :=
  if (F11_in v1 0 (w32 ((rd m 83 28) - 1))) ≠ 0 then
    if 2 ≤ (rd m 83 28) then
      b1 (F11_findBest m) fun m28 =>
      if (rd m28 83 33) ≠ 0 then
        L11_never_45 m28 v1 FU 0 0
      else
      some ((-2), m28)
    else
    some ((-5), m)
  else
  some ((-1), m)
def F11_claim (m : Mem) (v1 : Int) : Option (Int × Mem) :=
  if (F11_isCharter m v1) = 0 then
    some ((-1), m)
  else
  gd (0 ≤ v1 ∧ v1 < 12) <|
  if (rd m 86 v1) < 0 then
    some ((-1), m)
  else
  b1 (F11_placeOf m v1) fun r19 =>
  if r19 < 0 then
    some ((-1), m)
  else
  gd (0 ≤ v1 ∧ v1 < 12) <|
  b1 (F11_placeOf m (rd m 86 v1)) fun r32 =>
  if 0 ≤ r32 then
    b1 (F11_findBest m) fun m41 =>
    if (rd m41 83 33) ≠ 0 then
      b1 (F11_placeOf m41 v1) fun r62 =>
      gd (0 ≤ v1 ∧ v1 < 12) <|
      b1 (F11_placeOf m41 (rd m41 86 v1)) fun r73 =>
      gd (0 ≤ w32 ((w32 (10 * r62)) + r73) ∧ w32 ((w32 (10 * r62)) + r73) < 60) <|
      if (rd m41 106 (w32 ((w32 (10 * r62)) + r73))) ≠ (rd m41 83 33) then
        if (rd m41 106 (w32 ((w32 (10 * r62)) + r73))) ≤ 0 then
          some (0, m41)
        else
        some (1, m41)
      else
      some (2, m41)
    else
    some ((-2), m41)
  else
  some ((-1), m)
def L11_fillAll_32 (v3 : Int) (k47 : Int → Option Mem) : Nat → Int → Option Mem
  | 0, _ => none
  | n + 1, v4 =>
    if (band (shr v3 v4) 1) ≠ 0 then
      k47 v4
    else
    L11_fillAll_32 v3 k47 n (w32 (v4 + 1))
def L11_fillAll_14 (v1 : Int) (k66 : Mem → Option Mem) : Nat → Int → Mem → Option Mem
  | 0, _, _ => none
  | n + 1, v2, m =>
    if (rd m 83 1) ≤ v2 then
      k66 m
    else
    b2 (F11_filledBy m v2 v1) fun r25 m25 =>
    L11_fillAll_32 r25 (fun (v4_47 : Int) =>
      gd (0 ≤ w32 ((w32 (16 * v2)) + v1) ∧ w32 ((w32 (16 * v2)) + v1) < 192) <|
      stw m25 107 (w32 ((w32 (16 * v2)) + v1)) v4_47 fun m59 =>
      L11_fillAll_14 v1 k66 n (w32 (v2 + 1)) m59) FU 0
def L11_fillAll_6 : Nat → Int → Mem → Option Mem
  | 0, _, _ => none
  | n + 1, v1, m =>
    if 16 ≤ v1 then
      some m
    else
    L11_fillAll_14 v1 (fun (m_66 : Mem) =>
      L11_fillAll_6 n (w32 (v1 + 1)) m_66) FU 0 m
def F11_fillAll (m : Mem)  : Option Mem :=
  b1 (F11_lookAtAll m) fun m1 =>
  L11_fillAll_6 FU 0 m1
def F11_canLend (m : Mem) (v1 v2 : Int) : Option Int :=
  jn (fun (K43 : Option Int) =>
    if v1 = v2 then
      K43
    else
    gd (0 ≤ v2 ∧ v2 < 12) <|
    if v1 = (rd m 88 v2) then
      K43
    else
    b1 (F11_isAbove m v2 v1) fun r18 =>
    if r18 ≠ 0 then
      K43
    else
    gd (0 ≤ v1 ∧ v1 < 12) <|
    gd (0 ≤ v2 ∧ v2 < 12) <|
    if (rd m 85 v2) ≤ (rd m 84 v1) then
      K43
    else
    some 1)
    (  some 0)
def F11_baseOf (m : Mem) (v1 v2 : Int) : Option Int :=
  gd (0 ≤ v1 ∧ v1 < 12) <|
  gd (0 ≤ w32 ((w32 (16 * (rd m 88 v1))) + v2) ∧ w32 ((w32 (16 * (rd m 88 v1))) + v2) < 192) <|
  gd (0 ≤ w32 ((w32 (16 * v1)) + v2) ∧ w32 ((w32 (16 * v1)) + v2) < 192) <|
  b1 (F11_priceOf m (rd m 107 (w32 ((w32 (16 * (rd m 88 v1))) + v2))) (rd m 107 (w32 ((w32 (16 * v1)) + v2)))) fun r28 =>
  some r28
def F11_isAlike (m : Mem) (v1 v2 v3 : Int) : Option Int :=
  gd (0 ≤ w32 ((w32 (16 * v1)) + v3) ∧ w32 ((w32 (16 * v1)) + v3) < 192) <|
  gd (0 ≤ w32 ((w32 (16 * v2)) + v3) ∧ w32 ((w32 (16 * v2)) + v3) < 192) <|
  if (rd m 107 (w32 ((w32 (16 * v1)) + v3))) ≠ (rd m 107 (w32 ((w32 (16 * v2)) + v3))) then
    some 0
  else
  some 1
def L11_canBorrow_2 (m : Mem) (v1 : Int) (v2 : Int) : Nat → Int → Option Int
  | 0, _ => none
  | n + 1, v3 =>
    if (rd m 83 1) ≤ v3 then
      some 0
    else
    b1 (F11_canLend m v3 v1) fun r13 =>
    jn (fun (K31 : Option Int) =>
      if r13 = 0 then
        K31
      else
      b1 (F11_isAlike m v3 v1 v2) fun r23 =>
      if r23 = 0 then
        K31
      else
      some 1)
      (  L11_canBorrow_2 m v1 v2 n (w32 (v3 + 1)))
def F11_canBorrow (m : Mem) (v1 v2 : Int) : Option Int :=
  L11_canBorrow_2 m v1 v2 FU 0
def L11_addGain_2 (v2 : Int) (k38 : Int → Mem → Option Mem) : Nat → Int → Mem → Option Mem
  | 0, _, _ => none
  | n + 1, v3, m =>
    if v3 ≤ 0 then
      k38 v3 m
    else
    gd (0 ≤ w32 (v3 - 1) ∧ w32 (v3 - 1) < 4) <|
    if v2 ≤ (rd m 108 (w32 (v3 - 1))) then
      k38 v3 m
    else
    gd (0 ≤ w32 (v3 - 1) ∧ w32 (v3 - 1) < 4) <|
    gd (0 ≤ v3 ∧ v3 < 4) <|
    stw m 108 v3 (rd m 108 (w32 (v3 - 1))) fun m31 =>
    L11_addGain_2 v2 k38 n (w32 (v3 + (-1))) m31
def F11_addGain (m : Mem) (v1 v2 : Int) : Option Mem :=
  L11_addGain_2 v2 (fun (v3_38 : Int) (m_38 : Mem) =>
    gd (0 ≤ v3_38 ∧ v3_38 < 4) <|
    stw m_38 108 v3_38 v2 fun m44 =>
    some m44) FU v1 m
def L11_tryChapter_24 (v1 : Int) (v2 : Int) (v3 : Int) (k122 : Int → Int → Mem → Option Mem) : Nat → Int → Int → Int → Mem → Option Mem
  | 0, _, _, _, _ => none
  | n + 1, v4, v5, v6, m =>
    if (w32 ((w32 (4 * v2)) + 4)) ≤ v6 then
      k122 v4 v5 m
    else
    jn (fun (K116 : Int → Int → Mem → Option Mem) =>
      jn (fun (K52 : Option Mem) =>
        if v3 < 0 then
          K52
        else
        b1 (F11_isAlike m v3 v1 v6) fun r43 =>
        if r43 = 0 then
          K52
        else
        K116 v4 v5 m)
        (  b1 (F11_baseOf m v1 v6) fun r58 =>
        b1 (F11_canBorrow m v1 v6) fun r68 =>
        if r68 = 0 then
          K116 (w32 (v4 + r58)) v5 m
        else
        b1 (F11_baseOf m v1 v6) fun r78 =>
        gd ((0 : Int) ≤ 3 ∧ (3 : Int) < 5) <|
        if (rd m 90 3) < r78 then
          b1 (F11_baseOf m v1 v6) fun r100 =>
          gd ((0 : Int) ≤ 3 ∧ (3 : Int) < 5) <|
          b1 (F11_addGain m v5 (w32 (r100 - (rd m 90 3)))) fun m110 =>
          K116 (w32 (v4 + r58)) (w32 (v5 + 1)) m110
        else
        K116 (w32 (v4 + r58)) v5 m))
      (fun (v4_116 : Int) (v5_116 : Int) (m_116 : Mem) =>
      L11_tryChapter_24 v1 v2 v3 k122 n v4_116 v5_116 (w32 (v6 + 1)) m_116)
def L11_tryChapter_136 (v5 : Int) (v6 : Int) : Nat → Int → Int → Mem → Option Mem
  | 0, _, _, _ => none
  | n + 1, v4, v7, m =>
    if 6 ≤ (w32 (v6 + v7)) then
      some m
    else
    gd (0 ≤ w32 (v6 + v7) ∧ w32 (v6 + v7) < 6) <|
    gd (0 ≤ w32 (v6 + v7) ∧ w32 (v6 + v7) < 6) <|
    stw m 109 (w32 (v6 + v7)) (F11_lesser (rd m 109 (w32 (v6 + v7))) v4) fun m170 =>
    jn (fun (K190 : Int → Option Mem) =>
      if v5 ≤ v7 then
        K190 v4
      else
      gd (0 ≤ v7 ∧ v7 < 4) <|
      K190 (w32 (v4 - (rd m170 108 v7))))
      (fun (v4_190 : Int) =>
      L11_tryChapter_136 v5 v6 n v4_190 (w32 (v7 + 1)) m170)
def F11_tryChapter (m : Mem) (v1 v2 v3 : Int) : Option Mem :=
  jn (fun (K14 : Int → Option Mem) =>
    if 0 ≤ v3 then
      gd ((0 : Int) ≤ 4 ∧ (4 : Int) < 5) <|
      K14 (rd m 90 4)
    else
    K14 0)
    (fun (x14 : Int) =>
    L11_tryChapter_24 v1 v2 v3 (fun (v4_122 : Int) (v5_122 : Int) (m_122 : Mem) =>
      jn (fun (K131 : Int → Option Mem) =>
        if 0 ≤ v3 then
          K131 1
        else
        K131 0)
        (fun (x131 : Int) =>
        L11_tryChapter_136 v5_122 x131 FU v4_122 0 m_122)) FU x14 0 (w32 (4 * v2)) m)
def L11_findChapter_2 (k22 : Mem → Option Mem) : Nat → Int → Mem → Option Mem
  | 0, _, _ => none
  | n + 1, v3, m =>
    if 6 ≤ v3 then
      k22 m
    else
    gd (0 ≤ v3 ∧ v3 < 6) <|
    stw m 109 v3 1000000 fun m15 =>
    L11_findChapter_2 k22 n (w32 (v3 + 1)) m15
def L11_findChapter_31 (v1 : Int) (v2 : Int) : Nat → Int → Mem → Option Mem
  | 0, _, _ => none
  | n + 1, v3, m =>
    if (rd m 83 1) ≤ v3 then
      some m
    else
    b1 (F11_canLend m v3 v1) fun r42 =>
    jn (fun (K55 : Mem → Option Mem) =>
      if r42 = 0 then
        K55 m
      else
      b1 (F11_tryChapter m v1 v2 v3) fun m52 =>
      K55 m52)
      (fun (m_55 : Mem) =>
      L11_findChapter_31 v1 v2 n (w32 (v3 + 1)) m_55)
def F11_findChapter (m : Mem) (v1 v2 : Int) : Option Mem :=
  L11_findChapter_2 (fun (m_22 : Mem) =>
    b1 (F11_tryChapter m_22 v1 v2 (-1)) fun m26 =>
    L11_findChapter_31 v1 v2 FU 0 m26) FU 0 m
def L11_few_18 (k37 : Mem → Option (Int × Mem)) : Nat → Int → Mem → Option (Int × Mem)
  | 0, _, _ => none
  | n + 1, v2, m =>
    if 20 < v2 then
      k37 m
    else
    gd (0 ≤ v2 ∧ v2 < 21) <|
    stw m 110 v2 0 fun m30 =>
    L11_few_18 k37 n (w32 (v2 + 1)) m30
def L11_few_88 (m : Mem) (v4 : Int) (k133 : Int → Option (Int × Mem)) : Nat → Int → Int → Option (Int × Mem)
  | 0, _, _ => none
  | n + 1, v5, v6 =>
    if 6 ≤ v6 then
      k133 v5
    else
    if v4 < v6 then
      k133 v5
    else
    gd (0 ≤ w32 (v4 - v6) ∧ w32 (v4 - v6) < 21) <|
    gd (0 ≤ v6 ∧ v6 < 6) <|
    L11_few_88 m v4 k133 n (F11_lesser v5 (w32 ((rd m 110 (w32 (v4 - v6))) + (rd m 109 v6)))) (w32 (v6 + 1))
def L11_few_76 (k148 : Mem → Option (Int × Mem)) : Nat → Int → Mem → Option (Int × Mem)
  | 0, _, _ => none
  | n + 1, v4, m =>
    if v4 < 0 then
      k148 m
    else
    L11_few_88 m v4 (fun (v5_133 : Int) =>
      gd (0 ≤ v4 ∧ v4 < 21) <|
      stw m 110 v4 v5_133 fun m141 =>
      L11_few_76 k148 n (w32 (v4 + (-1))) m141) FU 1000000 0
def L11_few_61 (v2 : Int) (k154 : Mem → Option (Int × Mem)) : Nat → Int → Mem → Option (Int × Mem)
  | 0, _, _ => none
  | n + 1, v3, m =>
    if 4 ≤ v3 then
      k154 m
    else
    b1 (F11_findChapter m v2 v3) fun m69 =>
    L11_few_76 (fun (m_148 : Mem) =>
      L11_few_61 v2 k154 n (w32 (v3 + 1)) m_148) FU 20 m69
def L11_few_39 (k160 : Mem → Option (Int × Mem)) : Nat → Int → Mem → Option (Int × Mem)
  | 0, _, _ => none
  | n + 1, v2, m =>
    if (rd m 83 1) ≤ v2 then
      k160 m
    else
    gd (0 ≤ v2 ∧ v2 < 12) <|
    jn (fun (K154 : Mem → Option (Int × Mem)) =>
      if 0 ≤ (rd m 88 v2) then
        L11_few_61 v2 (fun (m_154 : Mem) =>
          K154 m_154) FU 0 m
      else
      K154 m)
      (fun (m_154 : Mem) =>
      L11_few_39 k160 n (w32 (v2 + 1)) m_154)
def F11_few (m : Mem) (v1 : Int) : Option (Int × Mem) :=
  if (F11_in v1 0 20) ≠ 0 then
    b1 (F11_fillAll m) fun m13 =>
    L11_few_18 (fun (m_37 : Mem) =>
      L11_few_39 (fun (m_160 : Mem) =>
        gd (0 ≤ v1 ∧ v1 < 21) <|
        some (rd m_160 110 v1, m_160)) FU 0 m_37) FU 0 m13
  else
  some ((-1), m)
def L11_from_53 (m : Mem) (v1 : Int) (v2 : Int) : Nat → Int → Option (Int × Mem)
  | 0, _ => none
  | n + 1, v3 =>
    if (rd m 83 1) ≤ v3 then
      some ((-2), m)
    else
    b1 (F11_canLend m v3 v1) fun r64 =>
    jn (fun (K82 : Option (Int × Mem)) =>
      if r64 = 0 then
        K82
      else
      b1 (F11_isAlike m v3 v1 v2) fun r74 =>
      if r74 = 0 then
        K82
      else
      some (v3, m))
      (  L11_from_53 m v1 v2 n (w32 (v3 + 1)))
def F11_from (m : Mem) (v1 v2 : Int) : Option (Int × Mem) :=
  if (F11_isCharter m v1) = 0 then
    some ((-1), m)
  else
  if (F11_isClause v2) ≠ 0 then
    gd (0 ≤ v1 ∧ v1 < 12) <|
    if 0 ≤ (rd m 88 v1) then
      b1 (F11_fillAll m) fun m30 =>
      b1 (F11_baseOf m30 v1 v2) fun r36 =>
      gd ((0 : Int) ≤ 3 ∧ (3 : Int) < 5) <|
      if (rd m30 90 3) < r36 then
        L11_from_53 m30 v1 v2 FU 0
      else
      some ((-2), m30)
    else
    some ((-2), m)
  else
  some ((-1), m)
def L11_cameIn_40 (m : Mem) (v1 : Int) (v2 : Int) : Nat → Int → Option (Int × Mem)
  | 0, _ => none
  | n + 1, v3 =>
    gd (0 ≤ v3 ∧ v3 < 12) <|
    if (rd m 88 v3) < 0 then
      some (v3, m)
    else
    gd (0 ≤ v3 ∧ v3 < 12) <|
    b1 (F11_isAlike m (rd m 88 v3) v1 v2) fun r58 =>
    if r58 = 0 then
      some (v3, m)
    else
    gd (0 ≤ v3 ∧ v3 < 12) <|
    L11_cameIn_40 m v1 v2 n (rd m 88 v3)
def F11_cameIn (m : Mem) (v1 v2 : Int) : Option (Int × Mem) :=
  if (F11_isCharter m v1) = 0 then
    some ((-1), m)
  else
  if (F11_isClause v2) ≠ 0 then
    b1 (F11_fillAll m) fun m18 =>
    gd (0 ≤ w32 ((w32 (16 * v1)) + v2) ∧ w32 ((w32 (16 * v1)) + v2) < 192) <|
    if (rd m18 107 (w32 ((w32 (16 * v1)) + v2))) ≠ 0 then
      L11_cameIn_40 m18 v1 v2 FU v1
    else
    some ((-2), m18)
  else
  some ((-1), m)
def L11_doClash_5 (m : Mem) (v1 : Int) (v2 : Int) (k88 : Int → Option Int) : Nat → Int → Int → Option Int
  | 0, _, _ => none
  | n + 1, v3, v4 =>
    if (rd m 83 1) ≤ v4 then
      k88 v3
    else
    gd (0 ≤ w32 ((w32 (16 * v4)) + v1) ∧ w32 ((w32 (16 * v4)) + v1) < 192) <|
    gd (0 ≤ w32 ((w32 (16 * v4)) + v2) ∧ w32 ((w32 (16 * v4)) + v2) < 192) <|
    jn (fun (K82 : Int → Option Int) =>
      if (rd m 89 (w32 ((w32 (16 * v4)) + v1))) = 9 then
        K82 v3
      else
      if (rd m 89 (w32 ((w32 (16 * v4)) + v2))) = 9 then
        K82 v3
      else
      jn (fun (K68 : Int → Option Int) =>
        if (rd m 89 (w32 ((w32 (16 * v4)) + v1))) ≤ 0 then
          K68 0
        else
        K68 2)
        (fun (x68 : Int) =>
        jn (fun (K78 : Int → Option Int) =>
          if (rd m 89 (w32 ((w32 (16 * v4)) + v2))) ≤ 0 then
            K78 0
          else
          K78 1)
          (fun (x78 : Int) =>
          K82 (bor v3 (shl 1 (w32 (x68 + x78)))))))
      (fun (v3_82 : Int) =>
      L11_doClash_5 m v1 v2 k88 n v3_82 (w32 (v4 + 1)))
def F11_doClash (m : Mem) (v1 v2 : Int) : Option Int :=
  L11_doClash_5 m v1 v2 (fun (v3_88 : Int) =>
    if v3_88 ≠ 15 then
      some 0
    else
    some 1) FU 0 0
def L11_findPairs_17 (v1 : Int) (k66 : Mem → Option Mem) : Nat → Int → Mem → Option Mem
  | 0, _, _ => none
  | n + 1, v2, m =>
    if 16 ≤ v2 then
      k66 m
    else
    b1 (F11_doClash m v1 v2) fun r26 =>
    jn (fun (K60 : Mem → Option Mem) =>
      if r26 ≠ 0 then
        gd (0 ≤ rd m 83 40 ∧ rd m 83 40 < 120) <|
        stw m 111 (rd m 83 40) (w32 ((w32 (16 * v1)) + v2)) fun m49 =>
        stw m49 83 40 (w32 ((rd m49 83 40) + 1)) fun m57 =>
        K60 m57
      else
      K60 m)
      (fun (m_60 : Mem) =>
      L11_findPairs_17 v1 k66 n (w32 (v2 + 1)) m_60)
def L11_findPairs_7 : Nat → Int → Mem → Option Mem
  | 0, _, _ => none
  | n + 1, v1, m =>
    if 16 ≤ v1 then
      some m
    else
    L11_findPairs_17 v1 (fun (m_66 : Mem) =>
      L11_findPairs_7 n (w32 (v1 + 1)) m_66) FU (w32 (v1 + 1)) m
def F11_findPairs (m : Mem)  : Option Mem :=
  stw m 83 40 0 fun m2 =>
  L11_findPairs_7 FU 0 m2
def F11_pairs (m : Mem) (v1 : Int) : Option (Int × Mem) :=
  if (-1) ≤ v1 then
    b1 (F11_findPairs m) fun m8 =>
    if 0 ≤ v1 then
      if (rd m8 83 40) ≤ v1 then
        some ((-1), m8)
      else
      gd (0 ≤ v1 ∧ v1 < 120) <|
      some (rd m8 111 v1, m8)
    else
    some (rd m8 83 40, m8)
  else
  some ((-1), m)
def L11_bitsOf_4 : Nat → Int → Int → Option Int
  | 0, _, _ => none
  | n + 1, v1, v2 =>
    if v2 = 0 then
      some v1
    else
    L11_bitsOf_4 n (w32 (v1 + 1)) (band v2 (w32 (v2 - 1)))
def F11_bitsOf (v0 : Int) : Option Int :=
  L11_bitsOf_4 FU 0 v0
def L11_frees_2 (m : Mem) (v1 : Int) : Nat → Int → Option Int
  | 0, _ => none
  | n + 1, v2 =>
    if (rd m 83 40) ≤ v2 then
      some 1
    else
    gd (0 ≤ v2 ∧ v2 < 120) <|
    jn (fun (K44 : Option Int) =>
      if (band (shr v1 (idv (rd m 111 v2) 16)) 1) ≠ 0 then
        K44
      else
      gd (0 ≤ v2 ∧ v2 < 120) <|
      if (band (shr v1 (irm (rd m 111 v2) 16)) 1) ≠ 0 then
        K44
      else
      some 0)
      (  L11_frees_2 m v1 n (w32 (v2 + 1)))
def F11_frees (m : Mem) (v1 : Int) : Option Int :=
  L11_frees_2 m v1 FU 0
def L11_freed_10 (m : Mem) : Nat → Int → Int → Option (Int × Mem)
  | 0, _, _ => none
  | n + 1, v1, v2 =>
    if 65536 ≤ v2 then
      some (v1, m)
    else
    b1 (F11_bitsOf v2) fun r18 =>
    b1 (F11_bitsOf v1) fun r22 =>
    jn (fun (K38 : Int → Option (Int × Mem)) =>
      if r22 ≤ r18 then
        K38 v1
      else
      b1 (F11_frees m v2) fun r30 =>
      if r30 = 0 then
        K38 v1
      else
      K38 v2)
      (fun (v1_38 : Int) =>
      L11_freed_10 m n v1_38 (w32 (v2 + 1)))
def F11_freed (m : Mem)  : Option (Int × Mem) :=
  b1 (F11_findPairs m) fun m1 =>
  L11_freed_10 m1 FU 65535 0
def L11_doAgree_2 (v1 : Int) (k65 : Mem → Option (Int × Mem)) : Nat → Int → Mem → Option (Int × Mem)
  | 0, _, _ => none
  | n + 1, v2, m =>
    if 12 ≤ v2 then
      k65 m
    else
    jn (fun (K26 : Int → Option (Int × Mem)) =>
      if (rd m 83 1) ≤ v2 then
        K26 0
      else
      K26 1)
      (fun (x26 : Int) =>
      gd (0 ≤ v2 ∧ v2 < 12) <|
      stw m 97 v2 x26 fun m26 =>
      jn (fun (K58 : Int → Option (Int × Mem)) =>
        jn (fun (K57 : Option (Int × Mem)) =>
          if (rd m26 83 1) ≤ v2 then
            K57
          else
          if (band (shr v1 v2) 1) ≠ 0 then
            K57
          else
          gd (0 ≤ v2 ∧ v2 < 12) <|
          K58 (rd m26 86 v2))
          (  K58 (-1)))
        (fun (x58 : Int) =>
        gd (0 ≤ v2 ∧ v2 < 12) <|
        stw m26 96 v2 x58 fun m58 =>
        L11_doAgree_2 v1 k65 n (w32 (v2 + 1)) m58))
def F11_doAgree (m : Mem) (v1 : Int) : Option (Int × Mem) :=
  L11_doAgree_2 v1 (fun (m_65 : Mem) =>
    b1 (F11_findOrder m_65) fun m66 =>
    b2 (F11_findDays m66) fun r70 m70 =>
    if r70 ≠ (-2) then
      some (0, m70)
    else
    some (1, m70)) FU 0 m
def L11_doubt_15 (m : Mem) (k44 : Int → Option (Int × Mem)) : Nat → Int → Int → Option (Int × Mem)
  | 0, _, _ => none
  | n + 1, v2, v3 =>
    if (rd m 83 1) ≤ v3 then
      k44 v2
    else
    gd (0 ≤ v3 ∧ v3 < 12) <|
    jn (fun (K38 : Int → Option (Int × Mem)) =>
      if (rd m 86 v3) < 0 then
        K38 v2
      else
      K38 (bor v2 (shl 1 v3)))
      (fun (v2_38 : Int) =>
      L11_doubt_15 m k44 n v2_38 (w32 (v3 + 1)))
def L11_doubt_49 (v2 : Int) (k101 : Int → Mem → Option (Int × Mem)) : Nat → Int → Int → Mem → Option (Int × Mem)
  | 0, _, _, _ => none
  | n + 1, v3, v4, m =>
    if v2 < v4 then
      k101 v3 m
    else
    jn (fun (K95 : Int → Mem → Option (Int × Mem)) =>
      if (band v4 (bxor v2 (-1))) ≠ 0 then
        K95 v3 m
      else
      jn (fun (K80 : Option (Int × Mem)) =>
        if v3 < 0 then
          K80
        else
        b1 (F11_bitsOf v4) fun r70 =>
        b1 (F11_bitsOf v3) fun r74 =>
        if r74 ≤ r70 then
          K95 v3 m
        else
        K80)
        (  b2 (F11_doAgree m v4) fun r83 m83 =>
        if r83 ≠ 0 then
          K95 v4 m83
        else
        K95 v3 m83))
      (fun (v3_95 : Int) (m_95 : Mem) =>
      L11_doubt_49 v2 k101 n v3_95 (w32 (v4 + 1)) m_95)
def F11_doubt (m : Mem) (v1 : Int) : Option (Int × Mem) :=
  if (F11_in v1 0 1) ≠ 0 then
    L11_doubt_15 m (fun (v2_44 : Int) =>
      L11_doubt_49 v2_44 (fun (v3_101 : Int) (m_101 : Mem) =>
        if v1 ≠ 0 then
          some (v3_101, m_101)
        else
        b1 (F11_bitsOf v3_101) fun r106 =>
        some (r106, m_101)) FU (-1) 0 m) FU 0 0
  else
  some ((-1), m)
def L11_digitsOf_4 (k19 : Int → Option (Int × Mem)) : Nat → Int → Int → Option (Int × Mem)
  | 0, _, _ => none
  | n + 1, v2, v3 =>
    if v3 ≤ 0 then
      k19 v2
    else
    L11_digitsOf_4 k19 n (w32 (v2 + 1)) (idv v3 10)
def L11_digitsOf_26 (a1 : Nat) (v2 : Int) : Nat → Int → Int → Mem → Option (Int × Mem)
  | 0, _, _, _ => none
  | n + 1, v3, v4, m =>
    if v4 < 0 then
      some (v2, m)
    else
    gd (0 ≤ v4 ∧ v4 < 6) <|
    stw m a1 v4 (irm v3 10) fun m38 =>
    L11_digitsOf_26 a1 v2 n (idv v3 10) (w32 (v4 + (-1))) m38
def F11_digitsOf (m : Mem) (a1 : Nat) (v0 : Int) : Option (Int × Mem) :=
  L11_digitsOf_4 (fun (v2_19 : Int) =>
    L11_digitsOf_26 a1 v2_19 FU v0 (w32 (v2_19 - 1)) m) FU 0 v0
def L11_isWithout_13 (m : Mem) (a0 : Nat) (a3 : Nat) (v2 : Int) (v4 : Int) : Nat → Int → Option Int
  | 0, _ => none
  | n + 1, v5 =>
    if v4 ≤ v5 then
      some 1
    else
    jn (fun (K36 : Int → Option Int) =>
      if v2 ≤ v5 then
        K36 (w32 (v5 + 1))
      else
      K36 v5)
      (fun (x36 : Int) =>
      gd (0 ≤ x36 ∧ x36 < 6) <|
      gd (0 ≤ v5 ∧ v5 < 6) <|
      if (rd m a0 x36) = (rd m a3 v5) then
        L11_isWithout_13 m a0 a3 v2 v4 n (w32 (v5 + 1))
      else
      some 0)
def F11_isWithout (m : Mem) (a0 : Nat) (a3 : Nat) (v1 v2 v4 : Int) : Option Int :=
  if v4 = (w32 (v1 - 1)) then
    L11_isWithout_13 m a0 a3 v2 v4 FU 0
  else
  some 0
def F11_looksLike (v0 v1 : Int) : Int :=
  jn (fun (K55 : Int) =>
    jn (fun (K23 : Int) =>
      if (F11_lesser v0 v1) ≠ 1 then
        K23
      else
      if (F11_greater v0 v1) = 7 then
        K55
      else
      K23)
      (  jn (fun (K34 : Int) =>
        if (F11_lesser v0 v1) ≠ 3 then
          K34
        else
        if (F11_greater v0 v1) = 8 then
          K55
        else
        K34)
        (  jn (fun (K45 : Int) =>
          if (F11_lesser v0 v1) ≠ 5 then
            K45
          else
          if (F11_greater v0 v1) = 6 then
            K55
          else
          K45)
          (  jn (fun (K59 : Int) =>
            if (F11_lesser v0 v1) ≠ 0 then
              K59
            else
            if (F11_greater v0 v1) ≠ 6 then
              K59
            else
            K55)
            (  0)))))
    (  1)
def L11_slipOf_29 (m : Mem) (v3 : Int) (v4 : Int) (k62 : Option (Int × Mem)) : Nat → Int → Option (Int × Mem)
  | 0, _ => none
  | n + 1, v5 =>
    if v3 ≤ v5 then
      k62
    else
    b1 (F11_isWithout m 112 113 v3 v5 v4) fun r48 =>
    if r48 = 0 then
      L11_slipOf_29 m v3 v4 k62 n (w32 (v5 + 1))
    else
    some (1, m)
def L11_slipOf_65 (m : Mem) (v3 : Int) (v4 : Int) (k118 : Option (Int × Mem)) : Nat → Int → Option (Int × Mem)
  | 0, _ => none
  | n + 1, v5 =>
    if v4 ≤ v5 then
      k118
    else
    gd (0 ≤ v5 ∧ v5 < 6) <|
    gd (0 ≤ w32 (v5 - 1) ∧ w32 (v5 - 1) < 6) <|
    jn (fun (K112 : Option (Int × Mem)) =>
      if (rd m 113 v5) ≠ (rd m 113 (w32 (v5 - 1))) then
        K112
      else
      b1 (F11_isWithout m 113 112 v4 v5 v3) fun r104 =>
      if r104 = 0 then
        K112
      else
      some (2, m))
      (  L11_slipOf_65 m v3 v4 k118 n (w32 (v5 + 1)))
def L11_slipOf_139 (m : Mem) (v3 : Int) (k187 : Int → Int → Int → Option (Int × Mem)) : Nat → Int → Int → Int → Int → Option (Int × Mem)
  | 0, _, _, _, _ => none
  | n + 1, v5, v6, v7, v8 =>
    if v3 ≤ v8 then
      k187 v5 v6 v7
    else
    gd (0 ≤ v8 ∧ v8 < 6) <|
    gd (0 ≤ v8 ∧ v8 < 6) <|
    jn (fun (K181 : Int → Int → Int → Option (Int × Mem)) =>
      if (rd m 112 v8) ≠ (rd m 113 v8) then
        jn (fun (K177 : Int → Option (Int × Mem)) =>
          if 0 ≤ v6 then
            K177 v6
          else
          K177 v8)
          (fun (v6_177 : Int) =>
          K181 (w32 (v5 + 1)) v6_177 v8)
      else
      K181 v5 v6 v7)
      (fun (v5_181 : Int) (v6_181 : Int) (v7_181 : Int) =>
      L11_slipOf_139 m v3 k187 n v5_181 v6_181 v7_181 (w32 (v8 + 1)))
def F11_slipOf (m : Mem) (v1 v2 : Int) : Option (Int × Mem) :=
  if v1 ≠ v2 then
    b2 (F11_digitsOf m 112 v1) fun r12 m12 =>
    b2 (F11_digitsOf m12 113 v2) fun r21 m21 =>
    L11_slipOf_29 m21 r12 r21 (L11_slipOf_65 m21 r12 r21 (if r12 = r21 then
      L11_slipOf_139 m21 r12 (fun (v5_187 : Int) (v6_187 : Int) (v7_187 : Int) =>
        jn (fun (K238 : Option (Int × Mem)) =>
          if v5_187 ≠ 2 then
            K238
          else
          if v7_187 ≠ (w32 (v6_187 + 1)) then
            K238
          else
          gd (0 ≤ v6_187 ∧ v6_187 < 6) <|
          gd (0 ≤ v7_187 ∧ v7_187 < 6) <|
          if (rd m21 112 v6_187) ≠ (rd m21 113 v7_187) then
            K238
          else
          gd (0 ≤ v7_187 ∧ v7_187 < 6) <|
          gd (0 ≤ v6_187 ∧ v6_187 < 6) <|
          if (rd m21 112 v7_187) ≠ (rd m21 113 v6_187) then
            K238
          else
          some (3, m21))
          (  jn (fun (K268 : Option (Int × Mem)) =>
            if v5_187 ≠ 1 then
              K268
            else
            gd (0 ≤ v6_187 ∧ v6_187 < 6) <|
            gd (0 ≤ v6_187 ∧ v6_187 < 6) <|
            if (F11_looksLike (rd m21 112 v6_187) (rd m21 113 v6_187)) = 0 then
              K268
            else
            some (4, m21))
            (  some ((-2), m21)))) FU 0 (-1) (-1) 0
    else
    some ((-2), m21)) FU 1) FU 0
  else
  some (0, m)
def F11_isNumber (v0 : Int) : Int :=
  F11_in v0 1 99999
def F11_slip (m : Mem) (v1 v2 : Int) : Option (Int × Mem) :=
  jn (fun (K23 : Option (Int × Mem)) =>
    if (F11_isNumber v1) = 0 then
      K23
    else
    if (F11_isNumber v2) = 0 then
      K23
    else
    b2 (F11_slipOf m v1 v2) fun r17 m17 =>
    some (r17, m17))
    (  some ((-1), m))
def L11_numberAt_35 (m : Mem) (v1 : Int) (v2 : Int) : Nat → Int → Int → Option Int
  | 0, _, _ => none
  | n + 1, v3, v4 =>
    if v2 ≤ v4 then
      some v3
    else
    gd (0 ≤ w32 ((w32 (6 * v1)) + v4) ∧ w32 ((w32 (6 * v1)) + v4) < 24) <|
    L11_numberAt_35 m v1 v2 n (w32 ((w32 (10 * v3)) + (rd m 114 (w32 ((w32 (6 * v1)) + v4))))) (w32 (v4 + 1))
def F11_numberAt (m : Mem) (v1 : Int) : Option Int :=
  gd (0 ≤ v1 ∧ v1 < 4) <|
  if (rd m 115 v1) = 0 then
    some ((-1))
  else
  if 5 < (rd m 115 v1) then
    some ((-1))
  else
  gd (0 ≤ w32 (6 * v1) ∧ w32 (6 * v1) < 24) <|
  if (rd m 114 (w32 (6 * v1))) ≠ 0 then
    L11_numberAt_35 m v1 (rd m 115 v1) FU 0 0
  else
  some ((-1))
def L11_copyRow_16 (v1 : Int) : Nat → Int → Mem → Option Mem
  | 0, _, _ => none
  | n + 1, v2, m =>
    if 6 ≤ v2 then
      some m
    else
    gd (0 ≤ w32 ((w32 (6 * v1)) + v2) ∧ w32 ((w32 (6 * v1)) + v2) < 24) <|
    gd (0 ≤ w32 ((w32 ((w32 (6 * v1)) + 6)) + v2) ∧ w32 ((w32 ((w32 (6 * v1)) + 6)) + v2) < 24) <|
    stw m 114 (w32 ((w32 ((w32 (6 * v1)) + 6)) + v2)) (rd m 114 (w32 ((w32 (6 * v1)) + v2))) fun m46 =>
    L11_copyRow_16 v1 n (w32 (v2 + 1)) m46
def F11_copyRow (m : Mem) (v1 : Int) : Option Mem :=
  gd (0 ≤ v1 ∧ v1 < 4) <|
  gd (0 ≤ w32 (v1 + 1) ∧ w32 (v1 + 1) < 4) <|
  stw m 115 (w32 (v1 + 1)) (rd m 115 v1) fun m13 =>
  L11_copyRow_16 v1 FU 0 m13
def L11_reaches_66 (v5 : Int) (v6 : Int) (k103 : Mem → Option (Int × Mem)) : Nat → Int → Mem → Option (Int × Mem)
  | 0, _, _ => none
  | n + 1, v8, m =>
    if v5 ≤ (w32 (v8 + 1)) then
      k103 m
    else
    gd (0 ≤ w32 ((w32 (v6 + v8)) + 1) ∧ w32 ((w32 (v6 + v8)) + 1) < 24) <|
    gd (0 ≤ w32 (v6 + v8) ∧ w32 (v6 + v8) < 24) <|
    stw m 114 (w32 (v6 + v8)) (rd m 114 (w32 ((w32 (v6 + v8)) + 1))) fun m96 =>
    L11_reaches_66 v5 v6 k103 n (w32 (v8 + 1)) m96
def L11_reaches_140 (v6 : Int) (v7 : Int) (k175 : Mem → Option (Int × Mem)) : Nat → Int → Mem → Option (Int × Mem)
  | 0, _, _ => none
  | n + 1, v8, m =>
    if v8 ≤ v7 then
      k175 m
    else
    gd (0 ≤ w32 ((w32 (v6 + v8)) - 1) ∧ w32 ((w32 (v6 + v8)) - 1) < 24) <|
    gd (0 ≤ w32 (v6 + v8) ∧ w32 (v6 + v8) < 24) <|
    stw m 114 (w32 (v6 + v8)) (rd m 114 (w32 ((w32 (v6 + v8)) - 1))) fun m168 =>
    L11_reaches_140 v6 v7 k175 n (w32 (v8 + (-1))) m168
def L11_reaches_290 (rec : Mem → Int → Int → Int → Option (Int × Mem)) (v1 : Int) (v2 : Int) (v3 : Int) (v6 : Int) (v7 : Int) (k359 : Mem → Option (Int × Mem)) : Nat → Int → Mem → Option (Int × Mem)
  | 0, _, _ => none
  | n + 1, v8, m =>
    if 10 ≤ v8 then
      k359 m
    else
    b1 (F11_copyRow m v1) fun m299 =>
    gd (0 ≤ w32 ((w32 (6 * v1)) + v7) ∧ w32 ((w32 (6 * v1)) + v7) < 24) <|
    jn (fun (K353 : Mem → Option (Int × Mem)) =>
      if (F11_looksLike (rd m299 114 (w32 ((w32 (6 * v1)) + v7))) v8) ≠ 0 then
        gd (0 ≤ w32 (v6 + v7) ∧ w32 (v6 + v7) < 24) <|
        stw m299 114 (w32 (v6 + v7)) v8 fun m336 =>
        b2 (rec m336 (w32 (v1 + 1)) (w32 (v2 - 1)) v3) fun r345 m345 =>
        if r345 = 0 then
          K353 m345
        else
        some (1, m345)
      else
      K353 m299)
      (fun (m_353 : Mem) =>
      L11_reaches_290 rec v1 v2 v3 v6 v7 k359 n (w32 (v8 + 1)) m_353)
def L11_reaches_50 (rec : Mem → Int → Int → Int → Option (Int × Mem)) (v1 : Int) (v2 : Int) (v3 : Int) (v5 : Int) (v6 : Int) : Nat → Int → Mem → Option (Int × Mem)
  | 0, _, _ => none
  | n + 1, v7, m =>
    if v5 ≤ v7 then
      some (0, m)
    else
    b1 (F11_copyRow m v1) fun m59 =>
    L11_reaches_66 v5 v6 (fun (m_103 : Mem) =>
      gd (0 ≤ w32 (v1 + 1) ∧ w32 (v1 + 1) < 4) <|
      stw m_103 115 (w32 (v1 + 1)) (w32 (v5 - 1)) fun m114 =>
      b2 (rec m114 (w32 (v1 + 1)) (w32 (v2 - 1)) v3) fun r123 m123 =>
      if r123 = 0 then
        b1 (F11_copyRow m123 v1) fun m133 =>
        L11_reaches_140 v6 v7 (fun (m_175 : Mem) =>
          gd (0 ≤ w32 (v1 + 1) ∧ w32 (v1 + 1) < 4) <|
          stw m_175 115 (w32 (v1 + 1)) (w32 (v5 + 1)) fun m186 =>
          jn (fun (K209 : Mem → Option (Int × Mem)) =>
            if 5 ≤ v5 then
              K209 m186
            else
            b2 (rec m186 (w32 (v1 + 1)) (w32 (v2 - 1)) v3) fun r201 m201 =>
            if r201 = 0 then
              K209 m201
            else
            some (1, m201))
            (fun (m_209 : Mem) =>
            b1 (F11_copyRow m_209 v1) fun m211 =>
            jn (fun (K287 : Mem → Option (Int × Mem)) =>
              if v5 ≤ (w32 (v7 + 1)) then
                K287 m211
              else
              gd (0 ≤ w32 ((w32 ((w32 (6 * v1)) + v7)) + 1) ∧ w32 ((w32 ((w32 (6 * v1)) + v7)) + 1) < 24) <|
              gd (0 ≤ w32 (v6 + v7) ∧ w32 (v6 + v7) < 24) <|
              stw m211 114 (w32 (v6 + v7)) (rd m211 114 (w32 ((w32 ((w32 (6 * v1)) + v7)) + 1))) fun m246 =>
              gd (0 ≤ w32 ((w32 (6 * v1)) + v7) ∧ w32 ((w32 (6 * v1)) + v7) < 24) <|
              gd (0 ≤ w32 ((w32 (v6 + v7)) + 1) ∧ w32 ((w32 (v6 + v7)) + 1) < 24) <|
              stw m246 114 (w32 ((w32 (v6 + v7)) + 1)) (rd m246 114 (w32 ((w32 (6 * v1)) + v7))) fun m270 =>
              b2 (rec m270 (w32 (v1 + 1)) (w32 (v2 - 1)) v3) fun r279 m279 =>
              if r279 = 0 then
                K287 m279
              else
              some (1, m279))
              (fun (m_287 : Mem) =>
              L11_reaches_290 rec v1 v2 v3 v6 v7 (fun (m_359 : Mem) =>
                L11_reaches_50 rec v1 v2 v3 v5 v6 n (w32 (v7 + 1)) m_359) FU 0 m_287))) FU v5 m133
      else
      some (1, m123)) FU v7 m59
def F11_reaches : Nat → Mem → Int → Int → Int → Option (Int × Mem)
  | 0, _, _, _, _ => none
  | n + 1, m, v1, v2, v3 =>
    b1 (F11_numberAt m v1) fun r2 =>
    if 0 ≤ r2 then
      if v2 ≠ 0 then
        gd (0 ≤ v1 ∧ v1 < 4) <|
        L11_reaches_50 (F11_reaches n) v1 v2 v3 (rd m 115 v1) (w32 ((w32 (6 * v1)) + 6)) FU 0 m
      else
      if r2 ≠ v3 then
        some (0, m)
      else
      some (1, m)
    else
    some (0, m)
def L11_chain_35 (v3 : Int) (k72 : Mem → Option (Int × Mem)) : Nat → Int → Mem → Option (Int × Mem)
  | 0, _, _ => none
  | n + 1, v4, m =>
    if 6 ≤ v4 then
      k72 m
    else
    jn (fun (K65 : Int → Option (Int × Mem)) =>
      if v3 ≤ v4 then
        K65 0
      else
      gd (0 ≤ v4 ∧ v4 < 6) <|
      K65 (rd m 112 v4))
      (fun (x65 : Int) =>
      gd (0 ≤ v4 ∧ v4 < 24) <|
      stw m 114 v4 x65 fun m65 =>
      L11_chain_35 v3 k72 n (w32 (v4 + 1)) m65)
def L11_chain_75 (v2 : Int) : Nat → Int → Mem → Option (Int × Mem)
  | 0, _, _ => none
  | n + 1, v4, m =>
    if 3 < v4 then
      some ((-2), m)
    else
    b2 (F11_reaches 6 m 0 v4 v2) fun r86 m86 =>
    if r86 = 0 then
      L11_chain_75 v2 n (w32 (v4 + 1)) m86
    else
    some (v4, m86)
def F11_chain (m : Mem) (v1 v2 : Int) : Option (Int × Mem) :=
  if (F11_isNumber v1) = 0 then
    some ((-1), m)
  else
  if (F11_isNumber v2) ≠ 0 then
    b2 (F11_digitsOf m 112 v1) fun r21 m21 =>
    gd ((0 : Int) ≤ 0 ∧ (0 : Int) < 4) <|
    stw m21 115 0 r21 fun m31 =>
    L11_chain_35 r21 (fun (m_72 : Mem) =>
      L11_chain_75 v2 FU 0 m_72) FU 0 m31
  else
  some ((-1), m)
def F11_isBody (m : Mem) (v1 : Int) : Int :=
  F11_in v1 0 (w32 ((rd m 83 46) - 1))
def F11_isUnder (v0 v1 : Int) : Int :=
  jn (fun (K35 : Int) =>
    if v1 = 0 then
      K35
    else
    if v0 = v1 then
      K35
    else
    jn (fun (K25 : Int) =>
      if v1 ≠ 1 then
        K25
      else
      if v0 = 3 then
        K35
      else
      if v0 = 6 then
        K35
      else
      K25)
      (  jn (fun (K39 : Int) =>
        if v1 ≠ 4 then
          K39
        else
        if v0 ≠ 5 then
          K39
        else
        K35)
        (  0)))
    (  1)
def F11_path (m : Mem) (v1 v2 : Int) : Option (Int × Mem) :=
  if (F11_in v1 0 6) = 0 then
    some ((-1), m)
  else
  if (F11_isCharter m v2) ≠ 0 then
    if (rd m 83 46) ≠ 100 then
      gd (0 ≤ rd m 83 46 ∧ rd m 83 46 < 100) <|
      stw m 116 (rd m 83 46) v1 fun m41 =>
      gd (0 ≤ rd m41 83 46 ∧ rd m41 83 46 < 100) <|
      stw m41 117 (rd m41 83 46) v2 fun m51 =>
      stw m51 83 46 (w32 ((rd m51 83 46) + 1)) fun m59 =>
      some (w32 ((rd m59 83 46) - 1), m59)
    else
    some ((-3), m)
  else
  some ((-1), m)
def F11_ran (m : Mem) (v1 : Int) : Option Mem :=
  jn (fun (K19 : Mem → Option Mem) =>
    if 24 ≤ (rd m 83 49) then
      K19 m
    else
    gd (0 ≤ rd m 83 49 ∧ rd m 83 49 < 24) <|
    stw m 118 (rd m 83 49) v1 fun m18 =>
    K19 m18)
    (fun (m_19 : Mem) =>
    stw m_19 83 49 (w32 ((rd m_19 83 49) + 1)) fun m26 =>
    some m26)
def F11_plainCosts (m : Mem) (v1 v2 : Int) : Option (Int × Mem) :=
  b1 (F11_ran m 1) fun m2 =>
  some (w32 (v2 + v1), m2)
def F11_costs (m : Mem) (v1 v2 : Int) : Option (Int × Mem) :=
  gd (0 ≤ v1 ∧ v1 < 100) <|
  if (rd m 116 v1) ≠ 3 then
    gd (0 ≤ v1 ∧ v1 < 100) <|
    if (rd m 116 v1) ≠ 5 then
      b2 (F11_plainCosts m v1 v2) fun r53 m53 =>
      some (r53, m53)
    else
    b1 (F11_ran m 60) fun m38 =>
    b2 (F11_plainCosts m38 v1 (w32 (v2 + 1))) fun r46 m46 =>
    some (r46, m46)
  else
  b1 (F11_ran m 40) fun m13 =>
  b2 (F11_plainCosts m13 v1 v2) fun r19 m19 =>
  some (w32 (r19 - 1), m19)
def F11_plainLets (m : Mem) (v1 v2 : Int) : Option (Int × Mem) :=
  b1 (F11_ran m 10) fun m3 =>
  b2 (F11_costs m3 v1 v2) fun r9 m9 =>
  some (w32 (r9 * 2), m9)
def F11_childLets (m : Mem) (v1 v2 : Int) : Option (Int × Mem) :=
  b1 (F11_ran m 20) fun m3 =>
  b2 (F11_plainLets m3 v1 v2) fun r9 m9 =>
  gd (0 ≤ v1 ∧ v1 < 100) <|
  some (w32 (r9 + (rd m9 117 v1)), m9)
def F11_plainKeeps (m : Mem) (v1 v2 : Int) : Option (Int × Mem) :=
  b1 (F11_ran m 11) fun m3 =>
  some (bxor v2 v1, m3)
def F11_lostKeeps (m : Mem) (v1 v2 : Int) : Option (Int × Mem) :=
  b1 (F11_ran m 50) fun m3 =>
  b2 (F11_plainKeeps m3 v1 v2) fun r9 m9 =>
  some (w32 (-r9), m9)
def F11_keeps (m : Mem) (v1 v2 : Int) : Option (Int × Mem) :=
  gd (0 ≤ v1 ∧ v1 < 100) <|
  if (rd m 116 v1) ≠ 2 then
    gd (0 ≤ v1 ∧ v1 < 100) <|
    if (rd m 116 v1) ≠ 5 then
      gd (0 ≤ v1 ∧ v1 < 100) <|
      if (rd m 116 v1) ≠ 4 then
        b2 (F11_plainKeeps m v1 v2) fun r79 m79 =>
        some (r79, m79)
      else
      b2 (F11_lostKeeps m v1 v2) fun r70 m70 =>
      some (r70, m70)
    else
    b1 (F11_ran m 61) fun m38 =>
    b2 (F11_lostKeeps m38 v1 v2) fun r44 m44 =>
    b2 (F11_costs m44 v1 2) fun r52 m52 =>
    some (w32 (r44 + r52), m52)
  else
  b1 (F11_ran m 30) fun m13 =>
  b2 (F11_plainKeeps m13 v1 v2) fun r19 m19 =>
  some (w32 (r19 * 3), m19)
def F11_lets (m : Mem) (v1 v2 : Int) : Option (Int × Mem) :=
  gd (0 ≤ v1 ∧ v1 < 100) <|
  if (rd m 116 v1) ≠ 6 then
    gd (0 ≤ v1 ∧ v1 < 100) <|
    if (F11_isUnder (rd m 116 v1) 1) = 0 then
      b2 (F11_plainLets m v1 v2) fun r58 m58 =>
      some (r58, m58)
    else
    b2 (F11_childLets m v1 v2) fun r49 m49 =>
    some (r49, m49)
  else
  b1 (F11_ran m 70) fun m14 =>
  b2 (F11_childLets m14 v1 v2) fun r20 m20 =>
  b2 (F11_keeps m20 v1 2) fun r28 m28 =>
  some (w32 (r20 - r28), m28)
def F11_plainTells (m : Mem) (v1 v2 : Int) : Option (Int × Mem) :=
  b1 (F11_ran m 2) fun m2 =>
  b2 (F11_lets m2 v1 v2) fun r8 m8 =>
  b2 (F11_keeps m8 v1 1) fun r16 m16 =>
  some (w32 (r8 - r16), m16)
def F11_tells (m : Mem) (v1 v2 : Int) : Option (Int × Mem) :=
  gd (0 ≤ v1 ∧ v1 < 100) <|
  if (rd m 116 v1) ≠ 3 then
    b2 (F11_plainTells m v1 v2) fun r28 m28 =>
    some (r28, m28)
  else
  b1 (F11_ran m 41) fun m13 =>
  b2 (F11_plainTells m13 v1 v2) fun r19 m19 =>
  some (bxor r19 5, m19)
def F11_act (m : Mem) (v1 v2 v3 : Int) : Option (Int × Mem) :=
  stw m 83 49 0 fun m2 =>
  if (F11_isBody m2 v1) = 0 then
    some (0, m2)
  else
  if (F11_in v2 0 3) ≠ 0 then
    if v2 ≠ 0 then
      if v2 ≠ 1 then
        if v2 ≠ 2 then
          b2 (F11_tells m2 v1 v3) fun r68 m68 =>
          some (r68, m68)
        else
        b2 (F11_keeps m2 v1 v3) fun r59 m59 =>
        some (r59, m59)
      else
      b2 (F11_lets m2 v1 v3) fun r45 m45 =>
      some (r45, m45)
    else
    b2 (F11_costs m2 v1 v3) fun r31 m31 =>
    some (r31, m31)
  else
  some (0, m2)
def F11_trace (m : Mem) (v1 : Int) : Option Int :=
  jn (fun (K27 : Option Int) =>
    if v1 < 0 then
      K27
    else
    if (rd m 83 49) ≤ v1 then
      K27
    else
    if 24 ≤ v1 then
      K27
    else
    gd (0 ≤ v1 ∧ v1 < 24) <|
    some (rd m 118 v1))
    (  some ((-1)))
def F11_count (m : Mem) (v1 : Int) : Int :=
  if v1 = 0 then
    rd m 83 1
  else
  if v1 = 1 then
    rd m 83 10
  else
  if v1 = 2 then
    rd m 83 28
  else
  if v1 = 3 then
    rd m 83 13
  else
  if v1 = 4 then
    rd m 83 46
  else
  if v1 = 5 then
    rd m 83 49
  else
  (-1)
def F11_keep (m : Mem) (v1 v2 : Int) : Option (Int × Mem) :=
  if (F11_isShelf v1) = 0 then
    some ((-1), m)
  else
  jn (fun (K22 : Option (Int × Mem)) =>
    if v2 = (-1) then
      K22
    else
    if (F11_isBody m v2) ≠ 0 then
      K22
    else
    some ((-1), m))
    (  gd (0 ≤ v1 ∧ v1 < 6) <|
    stw m 119 v1 v2 fun m28 =>
    some (1, m28))
def L11_row_54 (v1 : Int) : Nat → Int → Mem → Option (Int × Mem)
  | 0, _, _ => none
  | n + 1, v4, m =>
    if (w32 ((w32 (60 * v1)) + 60)) ≤ v4 then
      some (1, m)
    else
    gd (0 ≤ v4 ∧ v4 < 360) <|
    stw m 121 v4 0 fun m73 =>
    L11_row_54 v1 n (w32 (v4 + 1)) m73
def F11_row (m : Mem) (v1 v2 v3 : Int) : Option (Int × Mem) :=
  if (F11_isShelf v1) = 0 then
    some ((-1), m)
  else
  if (F11_in v2 0 4) = 0 then
    some ((-1), m)
  else
  if v3 ≤ 60 then
    if 0 ≤ v3 then
      gd (0 ≤ v1 ∧ v1 < 6) <|
      stw m 119 v1 (w32 ((-2) - v2)) fun m40 =>
      gd (0 ≤ v1 ∧ v1 < 6) <|
      stw m40 120 v1 v3 fun m47 =>
      L11_row_54 v1 FU (w32 (60 * v1)) m47
    else
    some ((-14), m)
  else
  some ((-1), m)
def F11_whyNoPlace (m : Mem) (v1 v2 : Int) : Option Int :=
  if (F11_isShelf v1) ≠ 0 then
    gd (0 ≤ v1 ∧ v1 < 6) <|
    if (rd m 119 v1) ≠ (-1) then
      gd (0 ≤ v1 ∧ v1 < 6) <|
      if (rd m 119 v1) < 0 then
        gd (0 ≤ v1 ∧ v1 < 6) <|
        if (F11_in v2 0 (w32 ((rd m 120 v1) - 1))) = 0 then
          some ((-13))
        else
        some 0
      else
      some ((-12))
    else
    some ((-11))
  else
  some ((-1))
def F11_put (m : Mem) (v1 v2 v3 : Int) : Option (Int × Mem) :=
  b1 (F11_whyNoPlace m v1 v2) fun r3 =>
  if 0 ≤ r3 then
    gd (0 ≤ v1 ∧ v1 < 6) <|
    jn (fun (K95 : Int → Option (Int × Mem)) =>
      if (w32 ((-2) - (rd m 119 v1))) ≠ 0 then
        if (w32 ((-2) - (rd m 119 v1))) ≠ 1 then
          if (w32 ((-2) - (rd m 119 v1))) ≠ 2 then
            if (w32 ((-2) - (rd m 119 v1))) ≠ 3 then
              if (lcm' v3 0) = 0 then
                K95 0
              else
              K95 1
            else
            K95 v3
          else
          K95 (w32 v3)
        else
        K95 (i16 (w32 v3))
      else
      K95 (i8 (w32 v3)))
      (fun (x95 : Int) =>
      gd (0 ≤ w32 ((w32 (60 * v1)) + v2) ∧ w32 ((w32 (60 * v1)) + v2) < 360) <|
      stw m 121 (w32 ((w32 (60 * v1)) + v2)) x95 fun m95 =>
      some (1, m95))
  else
  some (r3, m)
def F11_element (m : Mem) (v1 v2 : Int) : Option Int :=
  b1 (F11_whyNoPlace m v1 v2) fun r3 =>
  if 0 ≤ r3 then
    gd (0 ≤ w32 ((w32 (60 * v1)) + v2) ∧ w32 ((w32 (60 * v1)) + v2) < 360) <|
    some (rl m 121 (w32 ((w32 (60 * v1)) + v2)))
  else
  some ((-9223372036854775808))
def L11_shift_113 (v1 : Int) (v2 : Int) (v5 : Int) (k147 : Mem → Option (Int × Mem)) : Nat → Int → Mem → Option (Int × Mem)
  | 0, _, _ => none
  | n + 1, v6, m =>
    if v5 ≤ v6 then
      k147 m
    else
    gd (0 ≤ w32 ((w32 ((w32 (60 * v1)) + v2)) + v6) ∧ w32 ((w32 ((w32 (60 * v1)) + v2)) + v6) < 360) <|
    gd (0 ≤ v6 ∧ v6 < 60) <|
    stw m 122 v6 (rl m 121 (w32 ((w32 ((w32 (60 * v1)) + v2)) + v6))) fun m140 =>
    L11_shift_113 v1 v2 v5 k147 n (w32 (v6 + 1)) m140
def L11_shift_150 (v3 : Int) (v4 : Int) (v5 : Int) : Nat → Int → Mem → Option (Int × Mem)
  | 0, _, _ => none
  | n + 1, v6, m =>
    if v5 ≤ v6 then
      some (v5, m)
    else
    gd (0 ≤ v6 ∧ v6 < 60) <|
    gd (0 ≤ w32 ((w32 ((w32 (60 * v3)) + v4)) + v6) ∧ w32 ((w32 ((w32 (60 * v3)) + v4)) + v6) < 360) <|
    stw m 121 (w32 ((w32 ((w32 (60 * v3)) + v4)) + v6)) (rl m 122 v6) fun m178 =>
    L11_shift_150 v3 v4 v5 n (w32 (v6 + 1)) m178
def F11_shift (m : Mem) (v1 v2 v3 v4 v5 : Int) : Option (Int × Mem) :=
  if (F11_isShelf v1) = 0 then
    some ((-1), m)
  else
  if (F11_isShelf v3) ≠ 0 then
    gd (0 ≤ v1 ∧ v1 < 6) <|
    if (rd m 119 v1) = (-1) then
      some ((-11), m)
    else
    gd (0 ≤ v3 ∧ v3 < 6) <|
    if (rd m 119 v3) ≠ (-1) then
      gd (0 ≤ v1 ∧ v1 < 6) <|
      if 0 ≤ (rd m 119 v1) then
        some ((-12), m)
      else
      gd (0 ≤ v1 ∧ v1 < 6) <|
      gd (0 ≤ v3 ∧ v3 < 6) <|
      if (rd m 119 v1) = (rd m 119 v3) then
        if v5 < 0 then
          some ((-13), m)
        else
        if v2 < 0 then
          some ((-13), m)
        else
        if v4 < 0 then
          some ((-13), m)
        else
        gd (0 ≤ v1 ∧ v1 < 6) <|
        if (w32 ((rd m 120 v1) - v5)) < v2 then
          some ((-13), m)
        else
        gd (0 ≤ v3 ∧ v3 < 6) <|
        if v4 ≤ (w32 ((rd m 120 v3) - v5)) then
          L11_shift_113 v1 v2 v5 (fun (m_147 : Mem) =>
            L11_shift_150 v3 v4 v5 FU 0 m_147) FU 0 m
        else
        some ((-13), m)
      else
      some ((-12), m)
    else
    some ((-11), m)
  else
  some ((-1), m)
def F11_taken (m : Mem) (v1 v2 : Int) : Option Int :=
  if (F11_isShelf v1) = 0 then
    some ((-1))
  else
  if (F11_in v2 0 6) ≠ 0 then
    gd (0 ≤ v1 ∧ v1 < 6) <|
    if (rd m 119 v1) ≠ (-1) then
      gd (0 ≤ v1 ∧ v1 < 6) <|
      jn (fun (K73 : Option Int) =>
        if (rd m 119 v1) < 0 then
          K73
        else
        gd (0 ≤ v1 ∧ v1 < 6) <|
        gd (0 ≤ rd m 119 v1 ∧ rd m 119 v1 < 100) <|
        if (F11_isUnder (rd m 116 (rd m 119 v1)) v2) = 0 then
          K73
        else
        gd (0 ≤ v1 ∧ v1 < 6) <|
        gd (0 ≤ rd m 119 v1 ∧ rd m 119 v1 < 100) <|
        some (rd m 116 (rd m 119 v1)))
        (  some ((-12)))
    else
    some ((-11))
  else
  some ((-1))
