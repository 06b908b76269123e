def fX6_isWithin  (a1 : Int32) (a2 : Int32) (a3 : Int32) (h : Hp) : Option (Int32 × Hp) :=
  if a1 < a2 then
    some ((0 : Int32), h)
  else
    if a3 < a1 then
      some ((0 : Int32), h)
    else
      some ((1 : Int32), h)
def fX6_isRow  (a1 : Int32) (h : Hp) : Option (Int32 × Hp) :=
  bd (fX6_isWithin a1 (0 : Int32) (7 : Int32) h) fun x1 hh2 =>
  chk (isB x1) <|
  some (x1, hh2)
def fX6_found  (a1 : Int32) (h : Hp) : Option (Int32 × Hp) :=
  lk (up2 h 203 8 a1) fun hh3 =>
  some ((-1000010 : Int32) - a1, hh3)
def fJ7_fill_L5   : Nat → Nat → Int32 → Int32 → Int32 → Hp → Option (Unit × Hp)
  | 0, _, _, _, _, _ => none
  | n + 1, v0, v1, v2, v3, h =>
    if v3 ≤ v2 then
      some ((), h)
    else
      chk (inb v2 (lenC v0)) <|
      lk (up2 h v0 v2.toNatClampNeg v1) fun hh14 =>
      lk (v2 + (1 : Int32)) fun x18 =>
      fJ7_fill_L5 n v0 v1 x18 v3 hh14
def fJ7_fill  (a1 : Nat) (a2 : Int32) (h : Hp) : Option (Unit × Hp) :=
  lk (nI (lenC a1)) fun x3 =>
  fJ7_fill_L5 4096 a1 a2 (0 : Int32) x3 h
def fX5_make  (e : Nat) (a1 : Int32) (a2 : Int32) (h : Hp) : Option (Unit × Hp) :=
  lk (up2 h e 1 (0 : Int32)) fun hh3 =>
  lk (up2 hh3 e 2 a1) fun hh9 =>
  lk (up2 hh9 e 3 a2) fun hh15 =>
  bd (fJ7_fill (e + 1) (0 : Int32) hh15) fun _ hh20 =>
  some ((), hh20)
def fX6_well  (a1 : Int32) (h : Hp) : Option (Int32 × Hp) :=
  lk (up2 h 203 8 (0 : Int32)) fun hh3 =>
  some (a1, hh3)
def fX6_row  (a1 : Int32) (a2 : Int32) (a3 : Int32) (h : Hp) : Option (Int32 × Hp) :=
  bd (fX6_isRow a1 h) fun x1 hh2 =>
  if x1 = 0 then
    some ((-1000001 : Int32), hh2)
  else
    bd (fX6_isWithin a2 (0 : Int32) (2 : Int32) hh2) fun x12 hh13 =>
    if x12 = 0 then
      some ((-1000001 : Int32), hh13)
    else
      if a3 ≤ (40 : Int32) then
        if 0 ≤ a3 then
          chk (inb a1 8) <|
          bd (fX5_make (230 + 2 * a1.toNatClampNeg) a2 a3 hh13) fun _ hh30 =>
          bd (fX6_well a3 hh30) fun x37 hh38 =>
          some (x37, hh38)
        else
          bd (fX6_found (4 : Int32) hh13) fun x46 hh47 =>
          some (x46, hh47)
      else
        some ((-1000001 : Int32), hh13)
def fX5_holds  (e : Nat) (a1 : Int32) (a2 : Int32) (h : Hp) : Option (Int32 × Hp) :=
  if a1 < 0 then
    some ((0 : Int32), h)
  else
    if (h e 3) < a1 then
      some ((0 : Int32), h)
    else
      if a2 < 0 then
        some ((0 : Int32), h)
      else
        if ((h e 3) - a1) < a2 then
          some ((0 : Int32), h)
        else
          some ((1 : Int32), h)
def fX5_lowestBits  (e : Nat) (a1 : Int32) (h : Hp) : Option (Int32 × Hp) :=
  if (h e 2) = 0 then
    some (a1.toInt8.toInt32, h)
  else
    if (h e 2) = (1 : Int32) then
      some (a1.toInt16.toInt32, h)
    else
      some (a1, h)
def fX5_put  (e : Nat) (a1 : Int32) (a2 : Int32) (h : Hp) : Option (Int32 × Hp) :=
  bd (fX5_lowestBits e a2 h) fun x1 hh2 =>
  chk (inb a1 (lenC (e + 1))) <|
  lk (up2 hh2 (e + 1) a1.toNatClampNeg x1) fun hh13 =>
  chk (inb a1 (lenC (e + 1))) <|
  some (hh13 (e + 1) a1.toNatClampNeg, hh13)
def fX6_set  (a1 : Int32) (a2 : Int32) (a3 : Int32) (h : Hp) : Option (Int32 × Hp) :=
  bd (fX6_isRow a1 h) fun x1 hh2 =>
  if x1 = 0 then
    some ((-1000001 : Int32), hh2)
  else
    chk (inb a1 8) <|
    if (hh2 (230 + 2 * a1.toNatClampNeg) 1) = 0 then
      bd (fX5_holds (230 + 2 * a1.toNatClampNeg) a2 (1 : Int32) hh2) fun x17 hh18 =>
      if x17 = 0 then
        bd (fX6_found (2 : Int32) hh18) fun x44 hh45 =>
        some (x44, hh45)
      else
        bd (fX5_put (230 + 2 * a1.toNatClampNeg) a2 a3 hh18) fun x27 hh28 =>
        bd (fX6_well x27 hh28) fun x35 hh36 =>
        some (x35, hh36)
    else
      bd (fX6_found (1 : Int32) hh2) fun x53 hh54 =>
      some (x53, hh54)
def fX6_copy  (a1 : Int32) (a2 : Int32) (a3 : Int32) (a4 : Int32) (a5 : Int32) (h : Hp) : Option (Int32 × Hp) :=
  bd (fX6_isRow a1 h) fun x1 hh2 =>
  if x1 = 0 then
    some ((-1000001 : Int32), hh2)
  else
    bd (fX6_isRow a3 hh2) fun x12 hh13 =>
    if x12 = 0 then
      some ((-1000001 : Int32), hh13)
    else
      chk (inb a1 8) <|
      chk (inb a3 8) <|
      jp (fun  hh31 =>
          bd (fX6_found (1 : Int32) hh31) fun x39 hh40 =>
          some (x39, hh40)) fun J49_30 =>
      if (hh13 (230 + 2 * a1.toNatClampNeg) 1) = 0 then
        if (hh13 (230 + 2 * a3.toNatClampNeg) 1) = 0 then
          if (hh13 (230 + 2 * a1.toNatClampNeg) 2) = (hh13 (230 + 2 * a3.toNatClampNeg) 2) then
            bd (fX5_holds (230 + 2 * a1.toNatClampNeg) a2 a5 hh13) fun x55 hh56 =>
            jp (fun  hh64 =>
                bd (fX6_found (2 : Int32) hh64) fun x72 hh73 =>
                some (x72, hh73)) fun J97_63 =>
            if x55 = 0 then
              J97_63 hh56
            else
              bd (fX5_holds (230 + 2 * a3.toNatClampNeg) a4 a5 hh56) fun x84 hh85 =>
              if x84 = 0 then
                J97_63 hh85
              else
                chk (cpok a2 a4 a5 (lenC ((230 + 2 * a1.toNatClampNeg) + 1)) (lenC ((230 + 2 * a3.toNatClampNeg) + 1))) <|
                lk (va_up hh85 ((230 + 2 * a3.toNatClampNeg) + 1) (va_cpy (hh85 ((230 + 2 * a1.toNatClampNeg) + 1)) (hh85 ((230 + 2 * a3.toNatClampNeg) + 1)) a2.toNatClampNeg a4.toNatClampNeg a5.toNatClampNeg)) fun hh98 =>
                bd (fX6_well a5 hh98) fun x102 hh103 =>
                some (x102, hh103)
          else
            bd (fX6_found (5 : Int32) hh13) fun x112 hh113 =>
            some (x112, hh113)
        else
          J49_30 hh13
      else
        J49_30 hh13
def fX6_drop  (a1 : Int32) (h : Hp) : Option (Int32 × Hp) :=
  bd (fX6_isRow a1 h) fun x1 hh2 =>
  if x1 = 0 then
    some ((-1000001 : Int32), hh2)
  else
    chk (inb a1 8) <|
    if (hh2 (230 + 2 * a1.toNatClampNeg) 1) = 0 then
      lk (up2 hh2 (230 + 2 * a1.toNatClampNeg) 1 (1 : Int32)) fun hh19 =>
      bd (fX6_well (hh19 (230 + 2 * a1.toNatClampNeg) 3) hh19) fun x23 hh24 =>
      some (x23, hh24)
    else
      bd (fX6_found (1 : Int32) hh2) fun x32 hh33 =>
      some (x32, hh33)
def fX4_append  (a1 : Int32) (h : Hp) : Option (Unit × Hp) :=
  if (120 : Int32) ≤ (h 205 1) then
    some ((), h)
  else
    chk (inb (h 205 1) (lenC 206)) <|
    lk (up2 h 206 (h 205 1).toNatClampNeg a1) fun hh8 =>
    lk (up2 hh8 205 1 ((hh8 205 1) + (1 : Int32))) fun hh14 =>
    some ((), hh14)
def fX6_feed  (a1 : Int32) (h : Hp) : Option (Int32 × Hp) :=
  bd (fX6_isWithin a1 (0 : Int32) (255 : Int32) h) fun x1 hh2 =>
  if x1 = 0 then
    some ((-1000001 : Int32), hh2)
  else
    if (hh2 205 1) < (120 : Int32) then
      bd (fX4_append a1 hh2) fun _ hh14 =>
      some (hh14 205 1, hh14)
    else
      some ((-1000003 : Int32), hh2)
def fX2_clear  (e : Nat) (h : Hp) : Option (Unit × Hp) :=
  bd (fJ7_fill (e + 6) (0 : Int32) h) fun _ hh2 =>
  lk (up2 hh2 e 6 (0 : Int32)) fun hh11 =>
  lk (up2 hh11 e 7 (0 : Int32)) fun hh17 =>
  lk (up2 hh17 e 11 (0 : Int32)) fun hh23 =>
  lk (up2 hh23 e 12 (0 : Int32)) fun hh29 =>
  lk (up2 hh29 e 13 (0 : Int32)) fun hh35 =>
  lk (up2 hh35 e 14 (0 : Int32)) fun hh41 =>
  lk (up2 hh41 e 15 (0 : Int32)) fun hh47 =>
  some ((), hh47)
def fX4_isFigure  (a1 : Int32) (h : Hp) : Option (Int32 × Hp) :=
  bd (fX6_isWithin a1 (48 : Int32) (57 : Int32) h) fun x1 hh2 =>
  chk (isB x1) <|
  some (x1, hh2)
def fX4_readFigures_L10  (K74 : Hp → Option (Unit × Hp)) : Nat → Int32 → Hp → Option (Unit × Hp)
  | 0, _, _ => none
  | n + 1, v1, h =>
    if (h 205 1) ≤ v1 then
      K74 h
    else
      if ((h 205 3) + (3 : Int32)) ≤ v1 then
        K74 h
      else
        chk (inb v1 (lenC 206)) <|
        bd (fX4_isFigure (h 206 v1.toNatClampNeg) h) fun x19 hh20 =>
        if x19 = 0 then
          K74 hh20
        else
          chk (inb v1 (lenC 206)) <|
          lk (up2 hh20 205 6 ((((10 : Int32) * (hh20 205 6)) + (hh20 206 v1.toNatClampNeg)) - (48 : Int32))) fun hh34 =>
          lk (up2 hh34 205 7 (v1 + (1 : Int32))) fun hh40 =>
          lk (v1 + (1 : Int32)) fun x44 =>
          fX4_readFigures_L10 K74 n x44 hh40
def fX4_readFigures   (h : Hp) : Option (Unit × Hp) :=
  lk (up2 h 205 6 (0 : Int32)) fun hh3 =>
  lk (hh3 205 3) fun x7 =>
  fX4_readFigures_L10 (fun  hh48 =>
      if (2 : Int32) < ((hh48 205 7) - (hh48 205 3)) then
        lk (up2 hh48 205 5 (257 : Int32)) fun hh60 =>
        some ((), hh60)
      else
        lk (up2 hh48 205 5 (256 : Int32)) fun hh67 =>
        some ((), hh67)) 4096 x7 hh3
def fX4_nextToken   (h : Hp) : Option (Unit × Hp) :=
  if (h 205 2) = 0 then
    lk (up2 h 205 3 (h 205 7)) fun hh5 =>
    if (hh5 205 3) < (hh5 205 1) then
      chk (inb (hh5 205 3) (lenC 206)) <|
      lk (hh5 206 (hh5 205 3).toNatClampNeg) fun x13 =>
      bd (fX4_isFigure x13 hh5) fun x17 hh18 =>
      if x17 = 0 then
        lk (up2 hh18 205 7 ((hh18 205 3) + (1 : Int32))) fun hh29 =>
        bd (fX6_isWithin x13 (97 : Int32) (122 : Int32) hh29) fun x33 hh34 =>
        if x33 = 0 then
          if x13 = (44 : Int32) then
            lk (up2 hh34 205 5 x13) fun hh54 =>
            some ((), hh54)
          else
            if x13 = (59 : Int32) then
              lk (up2 hh34 205 5 x13) fun hh70 =>
              some ((), hh70)
            else
              lk (up2 hh34 205 5 (257 : Int32)) fun hh63 =>
              some ((), hh63)
        else
          lk (up2 hh34 205 5 x13) fun hh45 =>
          some ((), hh45)
      else
        bd (fX4_readFigures  hh18) fun _ hh76 =>
        some ((), hh76)
    else
      lk (up2 hh5 205 5 (258 : Int32)) fun hh86 =>
      some ((), hh86)
  else
    some ((), h)
def fX4_fail  (a1 : Int32) (h : Hp) : Option (Unit × Hp) :=
  if (h 205 2) = 0 then
    lk (up2 h 205 2 a1) fun hh6 =>
    some ((), hh6)
  else
    some ((), h)
def fX4_take  (a1 : Int32) (h : Hp) : Option (Unit × Hp) :=
  jp (fun  hh2 =>
      bd (fX4_nextToken  hh2) fun _ hh11 =>
      some ((), hh11)) fun J20_1 =>
  if (h 205 2) = 0 then
    if (h 205 5) = a1 then
      J20_1 h
    else
      bd (fX4_fail (1 : Int32) h) fun _ hh26 =>
      J20_1 hh26
  else
    J20_1 h
def fX4_takeNumber  (a1 : Int32) (a2 : Int32) (h : Hp) : Option (Int32 × Hp) :=
  jp (fun  hh2 =>
      lk (hh2 205 6) fun x10 =>
      bd (fX4_nextToken  hh2) fun _ hh15 =>
      if (hh15 205 2) = 0 then
        some (x10, hh15)
      else
        some ((0 : Int32), hh15)) fun J49_1 =>
  jp (fun  hh27 =>
      if (hh27 205 2) = 0 then
        bd (fX6_isWithin (hh27 205 6) a1 a2 hh27) fun x38 hh39 =>
        if x38 = 0 then
          bd (fX4_fail (2 : Int32) hh39) fun _ hh50 =>
          J49_1 hh50
        else
          J49_1 hh39
      else
        J49_1 hh27) fun J25_26 =>
  if (h 205 2) = 0 then
    if (h 205 5) = (256 : Int32) then
      J25_26 h
    else
      bd (fX4_fail (1 : Int32) h) fun _ hh65 =>
      J49_1 hh65
  else
    J25_26 h
def fX4_readLaw   (h : Hp) : Option (Unit × Hp) :=
  bd (fX4_take (101 : Int32) h) fun _ hh2 =>
  bd (fX4_takeNumber (6 : Int32) (16 : Int32) hh2) fun x9 hh10 =>
  lk (up2 hh10 7 7 x9) fun hh19 =>
  bd (fX4_take (44 : Int32) hh19) fun _ hh24 =>
  bd (fX4_takeNumber (0 : Int32) ((hh24 7 7) - (1 : Int32)) hh24) fun x31 hh32 =>
  lk (up2 hh32 7 8 x31) fun hh41 =>
  bd (fX4_take (44 : Int32) hh41) fun _ hh46 =>
  bd (fX4_takeNumber (0 : Int32) ((hh46 7 7) - (1 : Int32)) hh46) fun x53 hh54 =>
  lk (up2 hh54 7 9 x53) fun hh63 =>
  bd (fX4_take (44 : Int32) hh63) fun _ hh68 =>
  bd (fX4_takeNumber (0 : Int32) (15 : Int32) hh68) fun x75 hh76 =>
  lk (up2 hh76 7 10 x75) fun hh85 =>
  bd (fX4_take (59 : Int32) hh85) fun _ hh90 =>
  some ((), hh90)
def fX2_addWind  (e : Nat) (a1 : Int32) (h : Hp) : Option (Unit × Hp) :=
  if (6 : Int32) ≤ (h e 11) then
    some ((), h)
  else
    chk (inb (h e 11) (lenC (e + 1))) <|
    lk (up2 h (e + 1) (h e 11).toNatClampNeg a1) fun hh8 =>
    lk (up2 hh8 e 11 ((hh8 e 11) + (1 : Int32))) fun hh14 =>
    some ((), hh14)
def fX4_readWind   (h : Hp) : Option (Unit × Hp) :=
  jp (fun  hh2 =>
      bd (fX4_take (103 : Int32) hh2) fun _ hh11 =>
      bd (fX4_takeNumber (0 : Int32) (4 : Int32) hh11) fun x18 hh19 =>
      bd (fX2_addWind 7 x18 hh19) fun _ hh27 =>
      bd (fX4_take (59 : Int32) hh27) fun _ hh35 =>
      some ((), hh35)) fun J26_1 =>
  if (h 205 5) = (103 : Int32) then
    if (h 7 11) = (6 : Int32) then
      bd (fX4_fail (3 : Int32) h) fun _ hh50 =>
      J26_1 hh50
    else
      J26_1 h
  else
    J26_1 h
def fX4_kindOfSort  (a1 : Int32) (h : Hp) : Option (Int32 × Hp) :=
  if a1 = (98 : Int32) then
    some ((2 : Int32), h)
  else
  if a1 = (104 : Int32) then
    some ((4 : Int32), h)
  else
  if a1 = (111 : Int32) then
    some ((5 : Int32), h)
  else
  if a1 = (115 : Int32) then
    some ((1 : Int32), h)
  else
  if a1 = (119 : Int32) then
    some ((3 : Int32), h)
  else
  some ((0 : Int32), h)
def fX2_admit  (e : Nat) (a1 : Int32) (a2 : Int32) (a3 : Int32) (h : Hp) : Option (Unit × Hp) :=
  lk (up2 h e 14 ((h e 14) ||| (shlI (1 : Int32) a1))) fun hh3 =>
  chk (inb a1 (lenC (e + 3))) <|
  lk (up2 hh3 (e + 3) a1.toNatClampNeg a2) fun hh11 =>
  chk (inb a1 (lenC (e + 5))) <|
  lk (up2 hh11 (e + 5) a1.toNatClampNeg a3) fun hh19 =>
  some ((), hh19)
def fX2_addSheet  (e : Nat) (a1 : Int32) (a2 : Int32) (a3 : Int32) (a4 : Int32) (h : Hp) : Option (Unit × Hp) :=
  if (6 : Int32) ≤ (h e 12) then
    some ((), h)
  else
    chk (inb (h e 12) (lenC (e + 2))) <|
    lk (up2 h (e + 2) (h e 12).toNatClampNeg a1) fun hh8 =>
    chk (inb (hh8 e 12) (lenC (e + 4))) <|
    lk (up2 hh8 (e + 4) (hh8 e 12).toNatClampNeg a3) fun hh16 =>
    bd (fX2_admit e (hh16 e 12) a2 a4 hh16) fun _ hh21 =>
    lk (up2 hh21 e 12 ((hh21 e 12) + (1 : Int32))) fun hh30 =>
    some ((), hh30)
def fX4_readSheet   (h : Hp) : Option (Unit × Hp) :=
  bd (fX4_kindOfSort (h 205 5) h) fun x1 hh2 =>
  jp (fun  hh12 =>
      bd (fX4_take (hh12 205 5) hh12) fun _ hh21 =>
      bd (fX4_takeNumber (0 : Int32) ((hh21 7 7) - (1 : Int32)) hh21) fun x28 hh29 =>
      bd (fX4_take (44 : Int32) hh29) fun _ hh39 =>
      bd (fX4_takeNumber (1 : Int32) (5 : Int32) hh39) fun x46 hh47 =>
      bd (fX4_take (44 : Int32) hh47) fun _ hh57 =>
      bd (fX4_takeNumber (1 : Int32) (9 : Int32) hh57) fun x64 hh65 =>
      bd (fX4_take (59 : Int32) hh65) fun _ hh75 =>
      bd (fX2_addSheet 7 x1 x28 x46 x64 hh75) fun _ hh83 =>
      some ((), hh83)) fun J37_11 =>
  if x1 = 0 then
    bd (fX4_fail (1 : Int32) hh2) fun _ hh106 =>
    J37_11 hh106
  else
    if (hh2 7 12) = (6 : Int32) then
      bd (fX4_fail (3 : Int32) hh2) fun _ hh97 =>
      J37_11 hh97
    else
      J37_11 hh2
def fX4_read_L31  (K63 : Hp → Option (Unit × Hp)) : Nat → Int32 → Hp → Option (Unit × Hp)
  | 0, _, _ => none
  | n + 1, v1, h =>
    if (6 : Int32) ≤ v1 then
      K63 h
    else
      if (h 205 2) = 0 then
        if (h 205 5) = (103 : Int32) then
          bd (fX4_readWind  h) fun _ hh57 =>
          lk (v1 + (1 : Int32)) fun x64 =>
          fX4_read_L31 K63 n x64 hh57
        else
          K63 h
      else
        K63 h
def fX4_read_L69  (K102 : Hp → Option (Unit × Hp)) : Nat → Int32 → Hp → Option (Unit × Hp)
  | 0, _, _ => none
  | n + 1, v1, h =>
    if (6 : Int32) ≤ v1 then
      K102 h
    else
      if (h 205 2) = 0 then
        if (h 205 5) = (258 : Int32) then
          K102 h
        else
          bd (fX4_readSheet  h) fun _ hh96 =>
          lk (v1 + (1 : Int32)) fun x103 =>
          fX4_read_L69 K102 n x103 hh96
      else
        K102 h
def fX4_read   (h : Hp) : Option (Unit × Hp) :=
  lk (up2 h 205 2 (0 : Int32)) fun hh3 =>
  lk (up2 hh3 205 7 (0 : Int32)) fun hh9 =>
  bd (fX2_clear 7 hh9) fun _ hh14 =>
  bd (fX4_nextToken  hh14) fun _ hh22 =>
  bd (fX4_readLaw  hh22) fun _ hh30 =>
  bd (fX4_readWind  hh30) fun _ hh38 =>
  fX4_read_L31 (fun  hh68 =>
      bd (fX4_readSheet  hh68) fun _ hh77 =>
      fX4_read_L69 (fun  hh107 =>
          jp (fun J118_115s0 hh116 =>
              chk (isB J118_115s0) <|
              lk (up2 hh116 7 6 J118_115s0) fun hh128 =>
              lk (up2 hh128 205 1 (0 : Int32)) fun hh134 =>
              some ((), hh134)) fun J118_115 =>
          if (hh107 205 2) = 0 then
            J118_115 (1 : Int32) hh107
          else
            J118_115 (0 : Int32) hh107) 4096 (0 : Int32) hh77) 4096 (0 : Int32) hh38
def fX2_become  (e : Nat) (a1 : Nat) (h : Hp) : Option (Unit × Hp) :=
  chk (cpok (0 : Int32) (0 : Int32) (6 : Int32) (lenC (a1 + 1)) (lenC (e + 1))) <|
  lk (va_up h (e + 1) (va_cpy (h (a1 + 1)) (h (e + 1)) (0 : Int32).toNatClampNeg (0 : Int32).toNatClampNeg (6 : Int32).toNatClampNeg)) fun hh5 =>
  chk (cpok (0 : Int32) (0 : Int32) (6 : Int32) (lenC (a1 + 2)) (lenC (e + 2))) <|
  lk (va_up hh5 (e + 2) (va_cpy (hh5 (a1 + 2)) (hh5 (e + 2)) (0 : Int32).toNatClampNeg (0 : Int32).toNatClampNeg (6 : Int32).toNatClampNeg)) fun hh13 =>
  chk (cpok (0 : Int32) (0 : Int32) (6 : Int32) (lenC (a1 + 3)) (lenC (e + 3))) <|
  lk (va_up hh13 (e + 3) (va_cpy (hh13 (a1 + 3)) (hh13 (e + 3)) (0 : Int32).toNatClampNeg (0 : Int32).toNatClampNeg (6 : Int32).toNatClampNeg)) fun hh21 =>
  chk (cpok (0 : Int32) (0 : Int32) (6 : Int32) (lenC (a1 + 4)) (lenC (e + 4))) <|
  lk (va_up hh21 (e + 4) (va_cpy (hh21 (a1 + 4)) (hh21 (e + 4)) (0 : Int32).toNatClampNeg (0 : Int32).toNatClampNeg (6 : Int32).toNatClampNeg)) fun hh29 =>
  chk (cpok (0 : Int32) (0 : Int32) (6 : Int32) (lenC (a1 + 5)) (lenC (e + 5))) <|
  lk (va_up hh29 (e + 5) (va_cpy (hh29 (a1 + 5)) (hh29 (e + 5)) (0 : Int32).toNatClampNeg (0 : Int32).toNatClampNeg (6 : Int32).toNatClampNeg)) fun hh37 =>
  chk (cpok (0 : Int32) (0 : Int32) (6 : Int32) (lenC (a1 + 6)) (lenC (e + 6))) <|
  lk (va_up hh37 (e + 6) (va_cpy (hh37 (a1 + 6)) (hh37 (e + 6)) (0 : Int32).toNatClampNeg (0 : Int32).toNatClampNeg (6 : Int32).toNatClampNeg)) fun hh45 =>
  chk (isB (hh45 a1 6)) <|
  lk (up2 hh45 e 6 (hh45 a1 6)) fun hh53 =>
  lk (up2 hh53 e 7 (hh53 a1 7)) fun hh59 =>
  lk (up2 hh59 e 8 (hh59 a1 8)) fun hh65 =>
  lk (up2 hh65 e 9 (hh65 a1 9)) fun hh71 =>
  lk (up2 hh71 e 10 (hh71 a1 10)) fun hh77 =>
  lk (up2 hh77 e 11 (hh77 a1 11)) fun hh83 =>
  lk (up2 hh83 e 12 (hh83 a1 12)) fun hh89 =>
  lk (up2 hh89 e 13 (hh89 a1 13)) fun hh95 =>
  lk (up2 hh95 e 14 (hh95 a1 14)) fun hh101 =>
  lk (up2 hh101 e 15 (hh101 a1 15)) fun hh107 =>
  some ((), hh107)
def fX0_forget   (h : Hp) : Option (Unit × Hp) :=
  lk (up2 h 207 2 (0 : Int32)) fun hh3 =>
  some ((), hh3)
def fX6_estuary   (h : Hp) : Option (Int32 × Hp) :=
  bd (fX4_read  h) fun _ hh2 =>
  if (hh2 205 2) = 0 then
    bd (fX2_become 0 7 hh2) fun _ hh12 =>
    bd (fX0_forget  hh12) fun _ hh20 =>
    some (hh20 0 12, hh20)
  else
    lk (up2 hh2 203 7 (hh2 205 2)) fun hh30 =>
    some ((-1000100 : Int32) - (hh30 205 3), hh30)
def fX6_fault   (h : Hp) : Option (Int32 × Hp) :=
  some (h 203 7, h)
def fX0_takeBack  (a1 : Nat) (h : Hp) : Option (Unit × Hp) :=
  lk (up2 h 207 1 (irm (((h 207 1) + (24 : Int32)) - (1 : Int32)) (24 : Int32))) fun hh3 =>
  lk (up2 hh3 207 2 ((hh3 207 2) - (1 : Int32))) fun hh9 =>
  chk (inb (hh9 207 1) 24) <|
  bd (fX2_become a1 (35 + 7 * (hh9 207 1).toNatClampNeg) hh9) fun _ hh16 =>
  some ((), hh16)
def fX6_undo   (h : Hp) : Option (Int32 × Hp) :=
  if (h 207 2) = 0 then
    some ((-1000002 : Int32), h)
  else
    bd (fX0_takeBack 0 h) fun _ hh4 =>
    some (hh4 207 2, hh4)
def fX0_keep  (a1 : Nat) (h : Hp) : Option (Unit × Hp) :=
  chk (inb (h 207 1) 24) <|
  bd (fX2_become (35 + 7 * (h 207 1).toNatClampNeg) a1 h) fun _ hh4 =>
  lk (up2 hh4 207 1 (irm ((hh4 207 1) + (1 : Int32)) (24 : Int32))) fun hh13 =>
  lk (up2 hh13 207 2 (minJ ((hh13 207 2) + (1 : Int32)) (24 : Int32))) fun hh19 =>
  some ((), hh19)
def fX2_windOfHour  (e : Nat) (h : Hp) : Option (Int32 × Hp) :=
  if (h e 11) = 0 then
    some ((0 : Int32), h)
  else
    chk (nz (h e 11)) <|
    some (irm (h e 13) (h e 11), h)
def fX2_gust  (e : Nat) (h : Hp) : Option (Int32 × Hp) :=
  bd (fX2_windOfHour e h) fun x1 hh2 =>
  chk (inb x1 (lenC (e + 1))) <|
  some (hh2 (e + 1) x1.toNatClampNeg, hh2)
def fX2_isIn  (e : Nat) (a1 : Int32) (h : Hp) : Option (Int32 × Hp) :=
  if ((shrI (h e 14) a1) &&& (1 : Int32)) = 0 then
    some ((0 : Int32), h)
  else
    some ((1 : Int32), h)
def fX2_cellsDrifted  (a1 : Int32) (a2 : Int32) (h : Hp) : Option (Int32 × Hp) :=
  if a1 = (2 : Int32) then
    some (a2 / (2 : Int32), h)
  else
  if a1 = (3 : Int32) then
    some (a2 * (2 : Int32), h)
  else
  if a1 = (4 : Int32) then
    some ((-1 : Int32), h)
  else
  if a1 = (5 : Int32) then
    some ((0 : Int32), h)
  else
  some (a2, h)
def fX2_thickened  (e : Nat) (a1 : Int32) (a2 : Int32) (h : Hp) : Option (Int32 × Hp) :=
  jp (fun J14_1s0 hh2 =>
      if a1 = (3 : Int32) then
        some (J14_1s0 - (1 : Int32), hh2)
      else
      if a1 = (4 : Int32) then
        if a2 = 0 then
          some ((-1 : Int32), hh2)
        else
          some ((0 : Int32), hh2)
      else
      if a1 = (5 : Int32) then
        if a2 = 0 then
          some ((-1 : Int32), hh2)
        else
          some ((1 : Int32), hh2)
      else
      some (J14_1s0, hh2)) fun J14_1 =>
  if (irm (h e 13) (2 : Int32)) = 0 then
    J14_1 (0 : Int32) h
  else
    J14_1 (-1 : Int32) h
def fX2_drift  (e : Nat) (a1 : Int32) (a2 : Int32) (h : Hp) : Option (Unit × Hp) :=
  chk (inb a1 (lenC (e + 3))) <|
  chk (inb a1 (lenC (e + 2))) <|
  bd (fX2_cellsDrifted (h (e + 2) a1.toNatClampNeg) (a2 - (2 : Int32)) h) fun x5 hh6 =>
  lk ((h (e + 3) a1.toNatClampNeg) + x5) fun x13 =>
  chk (inb a1 (lenC (e + 5))) <|
  chk (inb a1 (lenC (e + 2))) <|
  jp (fun J43_21s0 hh22 =>
      bd (fX2_thickened e (hh6 (e + 2) a1.toNatClampNeg) J43_21s0 hh22) fun x30 hh31 =>
      lk ((hh6 (e + 5) a1.toNatClampNeg) + x30) fun x38 =>
      jp (fun  hh43 =>
          lk (up2 hh43 e 14 ((hh43 e 14) &&& ((shlI (1 : Int32) a1) ^^^ (-1 : Int32)))) fun hh53 =>
          some ((), hh53)) fun J73_42 =>
      if x38 ≤ 0 then
        J73_42 hh31
      else
        if (hh31 e 7) ≤ x13 then
          J73_42 hh31
        else
          chk (inb a1 (lenC (e + 4))) <|
          if 0 < (x13 + (hh31 (e + 4) a1.toNatClampNeg)) then
            chk (inb a1 (lenC (e + 3))) <|
            lk (up2 hh31 (e + 3) a1.toNatClampNeg x13) fun hh72 =>
            chk (inb a1 (lenC (e + 5))) <|
            lk (up2 hh72 (e + 5) a1.toNatClampNeg (minJ x38 (9 : Int32))) fun hh80 =>
            some ((), hh80)
          else
            J73_42 hh31) fun J43_21 =>
  if a2 = (2 : Int32) then
    J43_21 (1 : Int32) hh6
  else
    J43_21 (0 : Int32) hh6
def fX2_clerkIsAwake  (e : Nat) (h : Hp) : Option (Int32 × Hp) :=
  if ((shrI (h e 10) ((h e 13) &&& (3 : Int32))) &&& (1 : Int32)) = 0 then
    some ((0 : Int32), h)
  else
    some ((1 : Int32), h)
def fX2_liesOn  (e : Nat) (a1 : Int32) (a2 : Int32) (h : Hp) : Option (Int32 × Hp) :=
  bd (fX2_isIn e a1 h) fun x1 hh2 =>
  if x1 = 0 then
    some ((0 : Int32), hh2)
  else
    chk (inb a1 (lenC (e + 3))) <|
    if a2 < (hh2 (e + 3) a1.toNatClampNeg) then
      some ((0 : Int32), hh2)
    else
      chk (inb a1 (lenC (e + 3))) <|
      chk (inb a1 (lenC (e + 4))) <|
      if ((hh2 (e + 3) a1.toNatClampNeg) + (hh2 (e + 4) a1.toNatClampNeg)) ≤ a2 then
        some ((0 : Int32), hh2)
      else
        some ((1 : Int32), hh2)
def fX2_giveNumbers_L2   : Nat → Nat → Int32 → Hp → Option (Unit × Hp)
  | 0, _, _, _ => none
  | n + 1, v0, v1, h =>
    if (h v0 12) ≤ v1 then
      some ((), h)
    else
      chk (inb v1 (lenC (v0 + 6))) <|
      jp (fun  hh9 =>
          lk (v1 + (1 : Int32)) fun x17 =>
          fX2_giveNumbers_L2 n v0 x17 hh9) fun J51_8 =>
      if (h (v0 + 6) v1.toNatClampNeg) = 0 then
        bd (fX2_liesOn v0 v1 (h v0 8) h) fun x25 hh26 =>
        if x25 = 0 then
          J51_8 hh26
        else
          lk (up2 hh26 v0 15 ((hh26 v0 15) + (1 : Int32))) fun hh38 =>
          chk (inb v1 (lenC (v0 + 6))) <|
          lk (up2 hh38 (v0 + 6) v1.toNatClampNeg (hh38 v0 15)) fun hh46 =>
          J51_8 hh46
      else
        J51_8 h
def fX2_giveNumbers  (e : Nat) (h : Hp) : Option (Unit × Hp) :=
  fX2_giveNumbers_L2 4096 e (0 : Int32) h
def fX2_passHour_L7  (K35 : Hp → Option (Unit × Hp)) : Nat → Nat → Int32 → Int32 → Hp → Option (Unit × Hp)
  | 0, _, _, _, _ => none
  | n + 1, v0, v1, v2, h =>
    if (h v0 12) ≤ v2 then
      K35 h
    else
      bd (fX2_isIn v0 v2 h) fun x16 hh17 =>
      jp (fun  hh25 =>
          lk (v2 + (1 : Int32)) fun x33 =>
          fX2_passHour_L7 K35 n v0 v1 x33 hh25) fun J29_24 =>
      if x16 = 0 then
        J29_24 hh17
      else
        bd (fX2_drift v0 v2 v1 hh17) fun _ hh42 =>
        J29_24 hh42
def fX2_passHour  (e : Nat) (h : Hp) : Option (Unit × Hp) :=
  bd (fX2_gust e h) fun x1 hh2 =>
  fX2_passHour_L7 (fun  hh49 =>
      bd (fX2_clerkIsAwake e hh49) fun x57 hh58 =>
      jp (fun  hh66 =>
          lk (up2 hh66 e 13 ((hh66 e 13) + (1 : Int32))) fun hh76 =>
          some ((), hh76)) fun J46_65 =>
      if x57 = 0 then
        J46_65 hh58
      else
        bd (fX2_giveNumbers e hh58) fun _ hh85 =>
        J46_65 hh85) 4096 e x1 (0 : Int32) hh2
def fX6_hours_L46   : Nat → Int32 → Int32 → Hp → Option (Int32 × Hp)
  | 0, _, _, _ => none
  | n + 1, v1, v2, h =>
    if v1 ≤ v2 then
      some (h 0 15, h)
    else
      bd (fX0_keep 0 h) fun _ hh21 =>
      bd (fX2_passHour 0 hh21) fun _ hh29 =>
      lk (v2 + (1 : Int32)) fun x36 =>
      fX6_hours_L46 n v1 x36 hh29
def fX6_hours  (a1 : Int32) (h : Hp) : Option (Int32 × Hp) :=
  if (h 0 6) = 0 then
    some ((-1000002 : Int32), h)
  else
    bd (fX6_isWithin a1 (1 : Int32) (24 : Int32) h) fun x3 hh4 =>
    if x3 = 0 then
      some ((-1000001 : Int32), hh4)
    else
      if ((hh4 0 13) + a1) ≤ (999 : Int32) then
        fX6_hours_L46 4096 a1 (0 : Int32) hh4
      else
        some ((-1000003 : Int32), hh4)
def fX2_isCell  (e : Nat) (a1 : Int32) (h : Hp) : Option (Int32 × Hp) :=
  if a1 < 0 then
    some ((0 : Int32), h)
  else
    if (h e 7) ≤ a1 then
      some ((0 : Int32), h)
    else
      some ((1 : Int32), h)
def fX6_step  (a1 : Int32) (h : Hp) : Option (Int32 × Hp) :=
  if (h 0 6) = 0 then
    some ((-1000002 : Int32), h)
  else
    bd (fX6_isWithin a1 (0 : Int32) (1 : Int32) h) fun x3 hh4 =>
    if x3 = 0 then
      some ((-1000001 : Int32), hh4)
    else
      jp (fun J50_13s0 hh14 =>
          bd (fX2_isCell 0 J50_13s0 hh14) fun x24 hh25 =>
          if x24 = 0 then
            some ((-1000002 : Int32), hh25)
          else
            bd (fX0_keep 0 hh25) fun _ hh35 =>
            lk (up2 hh35 0 9 J50_13s0) fun hh44 =>
            some (J50_13s0, hh44)) fun J50_13 =>
      if a1 = 0 then
        J50_13 ((hh4 0 9) - (1 : Int32)) hh4
      else
        J50_13 ((hh4 0 9) + (1 : Int32)) hh4
def fX2_isWind  (e : Nat) (a1 : Int32) (h : Hp) : Option (Int32 × Hp) :=
  if a1 < 0 then
    some ((0 : Int32), h)
  else
    if (h e 11) ≤ a1 then
      some ((0 : Int32), h)
    else
      some ((1 : Int32), h)
def fX6_wind  (a1 : Int32) (a2 : Int32) (h : Hp) : Option (Int32 × Hp) :=
  bd (fX2_isWind 0 a1 h) fun x1 hh2 =>
  if x1 = 0 then
    some ((-1000001 : Int32), hh2)
  else
    bd (fX6_isWithin a2 (0 : Int32) (4 : Int32) hh2) fun x12 hh13 =>
    if x12 = 0 then
      some ((-1000001 : Int32), hh13)
    else
      chk (inb a1 (lenC 1)) <|
      lk (hh13 1 a1.toNatClampNeg) fun x24 =>
      bd (fX0_keep 0 hh13) fun _ hh29 =>
      chk (inb a1 (lenC 1)) <|
      lk (up2 hh29 1 a1.toNatClampNeg a2) fun hh40 =>
      some (x24, hh40)
def fX6_wake  (a1 : Int32) (h : Hp) : Option (Int32 × Hp) :=
  if (h 0 6) = 0 then
    some ((-1000002 : Int32), h)
  else
    bd (fX6_isWithin a1 (0 : Int32) (15 : Int32) h) fun x3 hh4 =>
    if x3 = 0 then
      some ((-1000001 : Int32), hh4)
    else
      lk (hh4 0 10) fun x13 =>
      bd (fX0_keep 0 hh4) fun _ hh18 =>
      lk (up2 hh18 0 10 a1) fun hh27 =>
      some (x13, hh27)
def fX2_isSheet  (e : Nat) (a1 : Int32) (h : Hp) : Option (Int32 × Hp) :=
  if a1 < 0 then
    some ((0 : Int32), h)
  else
    if (h e 12) ≤ a1 then
      some ((0 : Int32), h)
    else
      some ((1 : Int32), h)
def fX6_let  (a1 : Int32) (a2 : Int32) (a3 : Int32) (h : Hp) : Option (Int32 × Hp) :=
  bd (fX2_isSheet 0 a1 h) fun x1 hh2 =>
  if x1 = 0 then
    some ((-1000001 : Int32), hh2)
  else
    bd (fX2_isCell 0 a2 hh2) fun x12 hh13 =>
    if x12 = 0 then
      some ((-1000001 : Int32), hh13)
    else
      bd (fX6_isWithin a3 (1 : Int32) (9 : Int32) hh13) fun x23 hh24 =>
      if x23 = 0 then
        some ((-1000001 : Int32), hh24)
      else
        bd (fX2_isIn 0 a1 hh24) fun x33 hh34 =>
        if x33 = 0 then
          bd (fX0_keep 0 hh34) fun _ hh44 =>
          bd (fX2_admit 0 a1 a2 a3 hh44) fun _ hh52 =>
          some (hh52 0 14, hh52)
        else
          some ((-1000002 : Int32), hh34)
def fX2_placeOf  (e : Nat) (a1 : Int32) (h : Hp) : Option (Int32 × Hp) :=
  bd (fX2_isIn e a1 h) fun x1 hh2 =>
  if x1 = 0 then
    some ((-1000000 : Int32), hh2)
  else
    chk (inb a1 (lenC (e + 3))) <|
    some (hh2 (e + 3) a1.toNatClampNeg, hh2)
def fX2_thicknessOf  (e : Nat) (a1 : Int32) (h : Hp) : Option (Int32 × Hp) :=
  bd (fX2_isIn e a1 h) fun x1 hh2 =>
  if x1 = 0 then
    some ((0 : Int32), hh2)
  else
    chk (inb a1 (lenC (e + 5))) <|
    some (hh2 (e + 5) a1.toNatClampNeg, hh2)
def fX2_cellsUnder_L4   : Nat → Nat → Int32 → Int32 → Int32 → Hp → Option (Int32 × Hp)
  | 0, _, _, _, _, _ => none
  | n + 1, v0, v1, v2, v3, h =>
    if (h v0 7) ≤ v3 then
      some (v2, h)
    else
      bd (fX2_liesOn v0 v1 v3 h) fun x8 hh9 =>
      jp (fun J29_16s0 hh17 =>
          lk (v2 ||| J29_16s0) fun x25 =>
          lk (v3 + (1 : Int32)) fun x29 =>
          fX2_cellsUnder_L4 n v0 v1 x25 x29 hh17) fun J29_16 =>
      if x8 = 0 then
        J29_16 (0 : Int32) hh9
      else
        J29_16 (shlI (1 : Int32) v3) hh9
def fX2_cellsUnder  (e : Nat) (a1 : Int32) (h : Hp) : Option (Int32 × Hp) :=
  fX2_cellsUnder_L4 4096 e a1 (0 : Int32) (0 : Int32) h
def fX6_sheet  (a1 : Int32) (a2 : Int32) (h : Hp) : Option (Int32 × Hp) :=
  bd (fX2_isSheet 0 a1 h) fun x1 hh2 =>
  if x1 = 0 then
    some ((-1000001 : Int32), hh2)
  else
    if a2 = (0 : Int32) then
      bd (fX2_placeOf 0 a1 hh2) fun x14 hh15 =>
      some (x14, hh15)
    else
    if a2 = (1 : Int32) then
      chk (inb a1 (lenC 4)) <|
      some (hh2 4 a1.toNatClampNeg, hh2)
    else
    if a2 = (2 : Int32) then
      bd (fX2_thicknessOf 0 a1 hh2) fun x30 hh31 =>
      some (x30, hh31)
    else
    if a2 = (3 : Int32) then
      chk (inb a1 (lenC 6)) <|
      some (hh2 6 a1.toNatClampNeg, hh2)
    else
    if a2 = (4 : Int32) then
      bd (fX2_cellsUnder 0 a1 hh2) fun x46 hh47 =>
      some (x46, hh47)
    else
    some ((-1000001 : Int32), hh2)
def fX2_thicknessOver_L4   : Nat → Nat → Int32 → Int32 → Int32 → Hp → Option (Int32 × Hp)
  | 0, _, _, _, _, _ => none
  | n + 1, v0, v1, v2, v3, h =>
    if (h v0 12) ≤ v3 then
      some (v2, h)
    else
      bd (fX2_liesOn v0 v3 v1 h) fun x8 hh9 =>
      jp (fun J32_16s0 hh17 =>
          lk (v2 + J32_16s0) fun x25 =>
          lk (v3 + (1 : Int32)) fun x29 =>
          fX2_thicknessOver_L4 n v0 v1 x25 x29 hh17) fun J32_16 =>
      if x8 = 0 then
        J32_16 (0 : Int32) hh9
      else
        chk (inb v3 (lenC (v0 + 5))) <|
        J32_16 (hh9 (v0 + 5) v3.toNatClampNeg) hh9
def fX2_thicknessOver  (e : Nat) (a1 : Int32) (h : Hp) : Option (Int32 × Hp) :=
  fX2_thicknessOver_L4 4096 e a1 (0 : Int32) (0 : Int32) h
def fX2_sheetsOn_L4   : Nat → Nat → Int32 → Int32 → Int32 → Hp → Option (Int32 × Hp)
  | 0, _, _, _, _, _ => none
  | n + 1, v0, v1, v2, v3, h =>
    if (h v0 12) ≤ v3 then
      some (v2, h)
    else
      bd (fX2_liesOn v0 v3 v1 h) fun x8 hh9 =>
      jp (fun J29_16s0 hh17 =>
          lk (v2 ||| J29_16s0) fun x25 =>
          lk (v3 + (1 : Int32)) fun x29 =>
          fX2_sheetsOn_L4 n v0 v1 x25 x29 hh17) fun J29_16 =>
      if x8 = 0 then
        J29_16 (0 : Int32) hh9
      else
        J29_16 (shlI (1 : Int32) v3) hh9
def fX2_sheetsOn  (e : Nat) (a1 : Int32) (h : Hp) : Option (Int32 × Hp) :=
  fX2_sheetsOn_L4 4096 e a1 (0 : Int32) (0 : Int32) h
def fX6_cell  (a1 : Int32) (a2 : Int32) (h : Hp) : Option (Int32 × Hp) :=
  bd (fX2_isCell 0 a1 h) fun x1 hh2 =>
  if x1 = 0 then
    some ((-1000001 : Int32), hh2)
  else
    if a2 = (0 : Int32) then
      bd (fX2_thicknessOver 0 a1 hh2) fun x14 hh15 =>
      some (x14, hh15)
    else
    if a2 = (1 : Int32) then
      bd (fX2_sheetsOn 0 a1 hh2) fun x25 hh26 =>
      some (x25, hh26)
    else
    if a2 = (2 : Int32) then
      if (hh2 0 9) = a1 then
        some ((1 : Int32), hh2)
      else
        some ((0 : Int32), hh2)
    else
    some ((-1000001 : Int32), hh2)
def fX2_withNumber_L4   : Nat → Nat → Int32 → Int32 → Hp → Option (Int32 × Hp)
  | 0, _, _, _, _ => none
  | n + 1, v0, v1, v2, h =>
    if (h v0 12) ≤ v2 then
      some (v1, h)
    else
      chk (inb v2 (lenC (v0 + 6))) <|
      jp (fun J29_10s0 hh11 =>
          lk (v1 ||| J29_10s0) fun x19 =>
          lk (v2 + (1 : Int32)) fun x23 =>
          fX2_withNumber_L4 n v0 x19 x23 hh11) fun J29_10 =>
      if (h (v0 + 6) v2.toNatClampNeg) = 0 then
        J29_10 (0 : Int32) h
      else
        J29_10 (shlI (1 : Int32) v2) h
def fX2_withNumber  (e : Nat) (h : Hp) : Option (Int32 × Hp) :=
  fX2_withNumber_L4 4096 e (0 : Int32) (0 : Int32) h
def fX6_stand  (a1 : Int32) (h : Hp) : Option (Int32 × Hp) :=
  if (h 0 6) = 0 then
    some ((-1000002 : Int32), h)
  else
    if a1 = (0 : Int32) then
      some (h 0 7, h)
    else
    if a1 = (1 : Int32) then
      some (h 0 8, h)
    else
    if a1 = (2 : Int32) then
      some (h 0 9, h)
    else
    if a1 = (3 : Int32) then
      some (h 0 10, h)
    else
    if a1 = (4 : Int32) then
      some (h 0 14, h)
    else
    if a1 = (5 : Int32) then
      bd (fX2_withNumber 0 h) fun x21 hh22 =>
      some (x21, hh22)
    else
    if a1 = (6 : Int32) then
      some ((h 0 15) + (1 : Int32), h)
    else
    if a1 = (7 : Int32) then
      bd (fX2_gust 0 h) fun x35 hh36 =>
      some (x35, hh36)
    else
    some ((-1000001 : Int32), h)
def fX6_isFar  (a1 : Int32) (h : Hp) : Option (Int32 × Hp) :=
  bd (fX6_isWithin a1 (0 : Int32) (60 : Int32) h) fun x1 hh2 =>
  chk (isB x1) <|
  some (x1, hh2)
def fX3_behind_L10   : Nat → Int32 → Int32 → Hp → Option (Nat × Hp)
  | 0, _, _, _ => none
  | n + 1, v2, v3, h =>
    if v2 ≤ v3 then
      some (14, h)
    else
      bd (fX2_passHour 14 h) fun _ hh15 =>
      lk (v3 + (1 : Int32)) fun x22 =>
      fX3_behind_L10 n v2 x22 hh15
def fX3_behind  (a1 : Nat) (a2 : Int32) (h : Hp) : Option (Nat × Hp) :=
  bd (fX2_become 14 a1 h) fun _ hh2 =>
  fX3_behind_L10 4096 a2 (0 : Int32) hh2
def fX6_ahead  (a1 : Int32) (a2 : Int32) (a3 : Int32) (h : Hp) : Option (Int32 × Hp) :=
  bd (fX2_isSheet 0 a1 h) fun x1 hh2 =>
  if x1 = 0 then
    some ((-1000001 : Int32), hh2)
  else
    bd (fX6_isFar a2 hh2) fun x12 hh13 =>
    if x12 = 0 then
      some ((-1000001 : Int32), hh13)
    else
      bd (fX6_isWithin a3 (0 : Int32) (2 : Int32) hh13) fun x23 hh24 =>
      if x23 = 0 then
        some ((-1000001 : Int32), hh24)
      else
        bd (fX3_behind 0 a2 hh24) fun x33 hh34 =>
        chk (isEb x33) <|
        if a3 = 0 then
          bd (fX2_placeOf x33 a1 hh34) fun x61 hh62 =>
          some (x61, hh62)
        else
          if a3 = (1 : Int32) then
            bd (fX2_thicknessOf x33 a1 hh34) fun x52 hh53 =>
            some (x52, hh53)
          else
            chk (inb a1 (lenC (x33 + 6))) <|
            some (hh34 (x33 + 6) a1.toNatClampNeg, hh34)
def fX6_over  (a1 : Int32) (a2 : Int32) (h : Hp) : Option (Int32 × Hp) :=
  bd (fX2_isCell 0 a1 h) fun x1 hh2 =>
  if x1 = 0 then
    some ((-1000001 : Int32), hh2)
  else
    bd (fX6_isFar a2 hh2) fun x12 hh13 =>
    if x12 = 0 then
      some ((-1000001 : Int32), hh13)
    else
      bd (fX3_behind 0 a2 hh13) fun x22 hh23 =>
      chk (isEb x22) <|
      bd (fX2_thicknessOver x22 a1 hh23) fun x32 hh33 =>
      some (x32, hh33)
def fX3_firstGone_L10   : Nat → Int32 → Int32 → Hp → Option (Int32 × Hp)
  | 0, _, _, _ => none
  | n + 1, v2, v3, h =>
    if (60 : Int32) < v3 then
      some ((-1000000 : Int32), h)
    else
      bd (fX2_isIn 14 v2 h) fun x14 hh15 =>
      if x14 = 0 then
        some (v3, hh15)
      else
        bd (fX2_passHour 14 hh15) fun _ hh25 =>
        lk (v3 + (1 : Int32)) fun x32 =>
        fX3_firstGone_L10 n v2 x32 hh25
def fX3_firstGone  (a1 : Nat) (a2 : Int32) (h : Hp) : Option (Int32 × Hp) :=
  bd (fX2_become 14 a1 h) fun _ hh2 =>
  fX3_firstGone_L10 4096 a2 (0 : Int32) hh2
def fX3_firstNumbered_L10   : Nat → Int32 → Int32 → Hp → Option (Int32 × Hp)
  | 0, _, _, _ => none
  | n + 1, v2, v3, h =>
    if (60 : Int32) < v3 then
      some ((-1000000 : Int32), h)
    else
      chk (inb v2 (lenC 20)) <|
      if (h 20 v2.toNatClampNeg) = 0 then
        bd (fX2_passHour 14 h) fun _ hh19 =>
        lk (v3 + (1 : Int32)) fun x26 =>
        fX3_firstNumbered_L10 n v2 x26 hh19
      else
        some (v3, h)
def fX3_firstNumbered  (a1 : Nat) (a2 : Int32) (h : Hp) : Option (Int32 × Hp) :=
  bd (fX2_become 14 a1 h) fun _ hh2 =>
  fX3_firstNumbered_L10 4096 a2 (0 : Int32) hh2
def fX6_when  (a1 : Int32) (a2 : Int32) (h : Hp) : Option (Int32 × Hp) :=
  bd (fX2_isSheet 0 a1 h) fun x1 hh2 =>
  if x1 = 0 then
    some ((-1000001 : Int32), hh2)
  else
    bd (fX6_isWithin a2 (0 : Int32) (1 : Int32) hh2) fun x12 hh13 =>
    if x12 = 0 then
      some ((-1000001 : Int32), hh13)
    else
      if a2 = 0 then
        bd (fX3_firstGone 0 a1 hh13) fun x33 hh34 =>
        some (x33, hh34)
      else
        bd (fX3_firstNumbered 0 a1 hh13) fun x24 hh25 =>
        some (x24, hh25)
def fX2_overlappingPair_L20  (K51 : Hp → Option (Int32 × Hp)) : Nat → Nat → Int32 → Int32 → Int32 → Hp → Option (Int32 × Hp)
  | 0, _, _, _, _, _ => none
  | n + 1, v0, v1, v2, v3, h =>
    if (h v0 12) ≤ v3 then
      K51 h
    else
      bd (fX2_cellsUnder v0 v3 h) fun x23 hh24 =>
      if (v2 &&& x23) = 0 then
        lk (v3 + (1 : Int32)) fun x33 =>
        fX2_overlappingPair_L20 K51 n v0 v1 v2 x33 hh24
      else
        some (((10 : Int32) * v1) + v3, hh24)
def fX2_overlappingPair_L2   : Nat → Nat → Int32 → Hp → Option (Int32 × Hp)
  | 0, _, _, _ => none
  | n + 1, v0, v1, h =>
    if (h v0 12) ≤ v1 then
      some ((-1000000 : Int32), h)
    else
      bd (fX2_cellsUnder v0 v1 h) fun x6 hh7 =>
      lk (v1 + (1 : Int32)) fun x16 =>
      fX2_overlappingPair_L20 (fun  hh38 =>
          lk (v1 + (1 : Int32)) fun x46 =>
          fX2_overlappingPair_L2 n v0 x46 hh38) 4096 v0 v1 x6 x16 hh7
def fX2_overlappingPair  (e : Nat) (h : Hp) : Option (Int32 × Hp) :=
  fX2_overlappingPair_L2 4096 e (0 : Int32) h
def fX3_firstOverlap_L10  (K32 : Int32 → Int32 → Hp → Option (Int32 × Hp)) : Nat → Int32 → Int32 → Hp → Option (Int32 × Hp)
  | 0, _, _, _ => none
  | n + 1, v2, v3, h =>
    if (60 : Int32) < v3 then
      some ((-1000000 : Int32), h)
    else
      bd (fX2_overlappingPair 14 h) fun x14 hh15 =>
      if x14 = (-1000000 : Int32) then
        bd (fX2_passHour 14 hh15) fun _ hh27 =>
        lk (v3 + (1 : Int32)) fun x34 =>
        fX3_firstOverlap_L10 K32 n v2 x34 hh27
      else
        K32 v3 x14 hh15
def fX3_firstOverlap  (a1 : Nat) (a2 : Int32) (h : Hp) : Option (Int32 × Hp) :=
  bd (fX2_become 14 a1 h) fun _ hh2 =>
  fX3_firstOverlap_L10 (fun x39 x40 hh41 =>
      if a2 = 0 then
        some (x39, hh41)
      else
        some (x40, hh41)) 4096 a2 (0 : Int32) hh2
def fX6_overlap  (a1 : Int32) (h : Hp) : Option (Int32 × Hp) :=
  if (h 0 6) = 0 then
    some ((-1000002 : Int32), h)
  else
    bd (fX6_isWithin a1 (0 : Int32) (1 : Int32) h) fun x3 hh4 =>
    if x3 = 0 then
      some ((-1000001 : Int32), hh4)
    else
      bd (fX3_firstOverlap 0 a1 hh4) fun x13 hh14 =>
      some (x13, hh14)
def fX3_noteOver_L2   : Nat → Nat → Int32 → Hp → Option (Unit × Hp)
  | 0, _, _, _ => none
  | n + 1, v1, v2, h =>
    if (h 14 7) ≤ v2 then
      some ((), h)
    else
      bd (fX2_thicknessOver 14 v2 h) fun x6 hh7 =>
      chk (inb v2 (lenC v1)) <|
      lk (up2 hh7 v1 v2.toNatClampNeg x6) fun hh18 =>
      lk (v2 + (1 : Int32)) fun x22 =>
      fX3_noteOver_L2 n v1 x22 hh18
def fX3_noteOver  (a1 : Nat) (h : Hp) : Option (Unit × Hp) :=
  fX3_noteOver_L2 4096 a1 (0 : Int32) h
def fX3_weightOf  (a1 : Int32) (a2 : Int32) (h : Hp) : Option (Int32 × Hp) :=
  chk (inb a1 6) <|
  chk (inb a2 (lenC (212 + a1.toNatClampNeg))) <|
  chk (inb (a1 + (1 : Int32)) 7) <|
  chk (inb a2 (lenC (219 + (a1 + (1 : Int32)).toNatClampNeg))) <|
  some ((h (212 + a1.toNatClampNeg) a2.toNatClampNeg) + (h (219 + (a1 + (1 : Int32)).toNatClampNeg) a2.toNatClampNeg), h)
def fX3_bestNext_L30   : Nat → Int32 → Int32 → Int32 → Int32 → Hp → Option (Int32 × Hp)
  | 0, _, _, _, _, _ => none
  | n + 1, v1, v3, v4, v5, h =>
    if v4 < v5 then
      some (v3, h)
    else
      bd (fX3_weightOf v1 v5 h) fun x16 hh17 =>
      bd (fX3_weightOf v1 v3 hh17) fun x24 hh25 =>
      jp (fun J56_32v3 hh33 =>
          lk (v5 + (1 : Int32)) fun x41 =>
          fX3_bestNext_L30 n v1 J56_32v3 v4 x41 hh33) fun J56_32 =>
      if x24 ≤ x16 then
        J56_32 v3 hh25
      else
        J56_32 v5 hh25
def fX3_bestNext  (a1 : Int32) (a2 : Int32) (h : Hp) : Option (Int32 × Hp) :=
  lk (maxJ (a2 - (1 : Int32)) (0 : Int32)) fun x1 =>
  lk (minJ (a2 + (1 : Int32)) ((h 14 7) - (1 : Int32))) fun x5 =>
  lk (x1 + (1 : Int32)) fun x9 =>
  fX3_bestNext_L30 4096 a1 x1 x5 x9 h
def fX3_weighWalks_L10  (K38 : Hp → Option (Unit × Hp)) : Nat → Nat → Int32 → Int32 → Hp → Option (Unit × Hp)
  | 0, _, _, _, _ => none
  | n + 1, v1, v2, v3, h =>
    if v2 ≤ v3 then
      K38 h
    else
      bd (fX2_passHour 14 h) fun _ hh15 =>
      chk (inb v3 6) <|
      bd (fX3_noteOver (212 + v3.toNatClampNeg) hh15) fun _ hh25 =>
      lk (v3 + (1 : Int32)) fun x32 =>
      fX3_weighWalks_L10 K38 n v1 v2 x32 hh25
def fX3_weighWalks_L59  (K95 : Hp → Option (Unit × Hp)) : Nat → Nat → Int32 → Int32 → Hp → Option (Unit × Hp)
  | 0, _, _, _, _ => none
  | n + 1, v1, v3, v4, h =>
    if (h v1 7) ≤ v4 then
      K95 h
    else
      chk (inb v3 7) <|
      bd (fX3_bestNext v3 v4 h) fun x68 hh69 =>
      bd (fX3_weightOf v3 x68 hh69) fun x76 hh77 =>
      chk (inb v4 (lenC (219 + v3.toNatClampNeg))) <|
      lk (up2 hh77 (219 + v3.toNatClampNeg) v4.toNatClampNeg x76) fun hh88 =>
      lk (v4 + (1 : Int32)) fun x92 =>
      fX3_weighWalks_L59 K95 n v1 v3 x92 hh88
def fX3_weighWalks_L52   : Nat → Nat → Int32 → Hp → Option (Unit × Hp)
  | 0, _, _, _ => none
  | n + 1, v1, v3, h =>
    if v3 < 0 then
      some ((), h)
    else
      fX3_weighWalks_L59 (fun  hh96 =>
          lk (v3 + (-1 : Int32)) fun x104 =>
          fX3_weighWalks_L52 n v1 x104 hh96) 4096 v1 v3 (0 : Int32) h
def fX3_weighWalks  (a1 : Nat) (a2 : Int32) (h : Hp) : Option (Unit × Hp) :=
  bd (fX2_become 14 a1 h) fun _ hh2 =>
  fX3_weighWalks_L10 (fun  hh36 =>
      chk (inb a2 7) <|
      bd (fJ7_fill (219 + a2.toNatClampNeg) (0 : Int32) hh36) fun _ hh47 =>
      lk (a2 - (1 : Int32)) fun x54 =>
      fX3_weighWalks_L52 4096 a1 x54 hh47) 4096 a1 a2 (0 : Int32) hh2
def fX3_leastSeen  (a1 : Nat) (a2 : Int32) (h : Hp) : Option (Int32 × Hp) :=
  bd (fX3_weighWalks a1 a2 h) fun _ hh2 =>
  chk (inb (0 : Int32) 7) <|
  chk (inb (hh2 a1 9) (lenC (219 + (0 : Int32).toNatClampNeg))) <|
  some (hh2 (219 + (0 : Int32).toNatClampNeg) (hh2 a1 9).toNatClampNeg, hh2)
def fX3_leastSeenCell_L15   : Nat → Int32 → Int32 → Int32 → Hp → Option (Int32 × Hp)
  | 0, _, _, _, _ => none
  | n + 1, v3, v4, v5, h =>
    if v3 < v5 then
      some (v4, h)
    else
      bd (fX3_bestNext v5 v4 h) fun x18 hh19 =>
      lk (v5 + (1 : Int32)) fun x28 =>
      fX3_leastSeenCell_L15 n v3 x18 x28 hh19
def fX3_leastSeenCell  (a1 : Nat) (a2 : Int32) (a3 : Int32) (h : Hp) : Option (Int32 × Hp) :=
  bd (fX3_weighWalks a1 a2 h) fun _ hh2 =>
  lk (hh2 a1 9) fun x9 =>
  fX3_leastSeenCell_L15 4096 a3 x9 (0 : Int32) hh2
def fX6_walk  (a1 : Int32) (a2 : Int32) (h : Hp) : Option (Int32 × Hp) :=
  if (h 0 6) = 0 then
    some ((-1000002 : Int32), h)
  else
    bd (fX6_isWithin a1 (1 : Int32) (6 : Int32) h) fun x3 hh4 =>
    if x3 = 0 then
      some ((-1000001 : Int32), hh4)
    else
      if (-1 : Int32) ≤ a2 then
        if a2 < a1 then
          if a2 = (-1 : Int32) then
            bd (fX3_leastSeen 0 a1 hh4) fun x29 hh30 =>
            some (x29, hh30)
          else
            bd (fX3_leastSeenCell 0 a1 a2 hh4) fun x20 hh21 =>
            some (x20, hh21)
        else
          some ((-1000000 : Int32), hh4)
      else
        some ((-1000001 : Int32), hh4)
def fX3_firstMeeting_L18   : Nat → Nat → Int32 → Int32 → Int32 → Hp → Option (Int32 × Hp)
  | 0, _, _, _, _, _ => none
  | n + 1, v1, v2, v3, v4, h =>
    if (20 : Int32) < v4 then
      some ((-1000000 : Int32), h)
    else
      bd (fX2_cellsUnder 14 v2 h) fun x18 hh19 =>
      if (x18 &&& v3) = 0 then
        lk (v3 ||| ((shlI v3 (1 : Int32)) ||| (shrI v3 (1 : Int32)))) fun x28 =>
        lk (x28 &&& ((shlI (1 : Int32) (hh19 v1 7)) - (1 : Int32))) fun x32 =>
        bd (fX2_passHour 14 hh19) fun _ hh37 =>
        lk (v4 + (1 : Int32)) fun x44 =>
        fX3_firstMeeting_L18 n v1 v2 x32 x44 hh37
      else
        some (v4, hh19)
def fX3_firstMeeting  (a1 : Nat) (a2 : Int32) (h : Hp) : Option (Int32 × Hp) :=
  bd (fX2_become 14 a1 h) fun _ hh2 =>
  lk (shlI (1 : Int32) (hh2 a1 9)) fun x9 =>
  fX3_firstMeeting_L18 4096 a1 a2 x9 (0 : Int32) hh2
def fX6_meet  (a1 : Int32) (h : Hp) : Option (Int32 × Hp) :=
  bd (fX2_isSheet 0 a1 h) fun x1 hh2 =>
  if x1 = 0 then
    some ((-1000001 : Int32), hh2)
  else
    bd (fX3_firstMeeting 0 a1 hh2) fun x11 hh12 =>
    some (x11, hh12)
def fJ6_bitCount  (a1 : Int32) (h : Hp) : Option (Int32 × Hp) :=
  lk (a1 - ((ushrI a1 (1 : Int32)) &&& (1431655765 : Int32))) fun x1 =>
  lk ((x1 &&& (858993459 : Int32)) + ((ushrI x1 (2 : Int32)) &&& (858993459 : Int32))) fun x5 =>
  lk ((x5 + (ushrI x5 (4 : Int32))) &&& (252645135 : Int32)) fun x9 =>
  lk (x9 + (ushrI x9 (8 : Int32))) fun x13 =>
  lk (x13 + (ushrI x13 (16 : Int32))) fun x17 =>
  some (x17 &&& (63 : Int32), h)
def fX3_bestStand_L47  (K86 : Hp → Option (Int32 × Hp)) : Nat → Nat → Int32 → Int32 → Int32 → Int32 → Int32 → Hp → Option (Int32 × Hp)
  | 0, _, _, _, _, _, _, _ => none
  | n + 1, v1, v2, v3, v4, v5, v6, h =>
    if v5 = 0 then
      K86 h
    else
      if (h v1 7) ≤ v6 then
        K86 h
      else
        chk (inb v6 (lenC 226)) <|
        bd (fX2_sheetsOn 14 v6 h) fun x58 hh59 =>
        chk (inb v6 (lenC 226)) <|
        lk (up2 hh59 226 v6.toNatClampNeg ((h 226 v6.toNatClampNeg) ||| x58)) fun hh70 =>
        lk (v6 + (1 : Int32)) fun x74 =>
        fX3_bestStand_L47 K86 n v1 v2 v3 v4 v5 x74 hh70
def fX3_bestStand_L22  (K92 : Hp → Option (Int32 × Hp)) : Nat → Nat → Int32 → Int32 → Int32 → Hp → Option (Int32 × Hp)
  | 0, _, _, _, _, _ => none
  | n + 1, v1, v2, v3, v4, h =>
    if v2 ≤ v4 then
      K92 h
    else
      bd (fX2_clerkIsAwake 14 h) fun x30 hh31 =>
      bd (fX2_passHour 14 hh31) fun _ hh41 =>
      fX3_bestStand_L47 (fun  hh78 =>
          lk (v4 + (1 : Int32)) fun x86 =>
          fX3_bestStand_L22 K92 n v1 v2 v3 x86 hh78) 4096 v1 v2 v3 v4 x30 (0 : Int32) hh41
def fX3_bestStand_L98  (K140 : Int32 → Hp → Option (Int32 × Hp)) : Nat → Nat → Int32 → Int32 → Int32 → Hp → Option (Int32 × Hp)
  | 0, _, _, _, _, _ => none
  | n + 1, v1, v3, v4, v5, h =>
    if (h v1 7) ≤ v5 then
      K140 v4 h
    else
      chk (inb v5 (lenC 226)) <|
      bd (fJ6_bitCount (h 226 v5.toNatClampNeg) h) fun x107 hh108 =>
      chk (inb v4 (lenC 226)) <|
      bd (fJ6_bitCount (hh108 226 v4.toNatClampNeg) hh108) fun x117 hh118 =>
      jp (fun J134_125v4 hh126 =>
          lk (v5 + (1 : Int32)) fun x134 =>
          fX3_bestStand_L98 K140 n v1 v3 J134_125v4 x134 hh126) fun J134_125 =>
      if x107 ≤ x117 then
        J134_125 v4 hh118
      else
        J134_125 v5 hh118
def fX3_bestStand  (a1 : Nat) (a2 : Int32) (a3 : Int32) (h : Hp) : Option (Int32 × Hp) :=
  bd (fX2_become 14 a1 h) fun _ hh2 =>
  bd (fX2_withNumber a1 hh2) fun x9 hh10 =>
  bd (fJ7_fill 226 x9 hh10) fun _ hh18 =>
  fX3_bestStand_L22 (fun  hh90 =>
      fX3_bestStand_L98 (fun x144 hh145 =>
          if a3 = 0 then
            some (x144, hh145)
          else
            chk (inb x144 (lenC 226)) <|
            bd (fJ6_bitCount (hh145 226 x144.toNatClampNeg) hh145) fun x157 hh158 =>
            some (x157, hh158)) 4096 a1 a3 (0 : Int32) (1 : Int32) hh90) 4096 a1 a2 a3 (0 : Int32) hh18
def fX6_site  (a1 : Int32) (a2 : Int32) (h : Hp) : Option (Int32 × Hp) :=
  if (h 0 6) = 0 then
    some ((-1000002 : Int32), h)
  else
    bd (fX6_isWithin a1 (1 : Int32) (30 : Int32) h) fun x3 hh4 =>
    if x3 = 0 then
      some ((-1000001 : Int32), hh4)
    else
      bd (fX6_isWithin a2 (0 : Int32) (1 : Int32) hh4) fun x14 hh15 =>
      if x14 = 0 then
        some ((-1000001 : Int32), hh15)
      else
        bd (fX3_bestStand 0 a1 a2 hh15) fun x24 hh25 =>
        some (x24, hh25)
def fX3_numberedBy_L5  (K40 : Int32 → Hp → Option (Int32 × Hp)) : Nat → Int32 → Int32 → Int32 → Hp → Option (Int32 × Hp)
  | 0, _, _, _, _ => none
  | n + 1, v1, v3, v4, h =>
    if (4 : Int32) ≤ v4 then
      K40 v3 h
    else
      jp (fun J32_8s0 hh9 =>
          lk (v3 ||| J32_8s0) fun x17 =>
          lk (v4 + (1 : Int32)) fun x21 =>
          fX3_numberedBy_L5 K40 n v1 x17 x21 hh9) fun J32_8 =>
      if ((shrI v1 v4) &&& (1 : Int32)) = 0 then
        J32_8 (0 : Int32) h
      else
        chk (inb v4 (lenC 226)) <|
        J32_8 (h 226 v4.toNatClampNeg) h
def fX3_numberedBy  (a1 : Int32) (a2 : Int32) (h : Hp) : Option (Int32 × Hp) :=
  fX3_numberedBy_L5 (fun x31 hh32 =>
      bd (fJ6_bitCount x31 hh32) fun x40 hh41 =>
      some (x40, hh41)) 4096 a1 a2 (0 : Int32) h
def fX3_leastAwake_L18  (K68 : Hp → Option (Int32 × Hp)) : Nat → Nat → Int32 → Int32 → Hp → Option (Int32 × Hp)
  | 0, _, _, _, _ => none
  | n + 1, v1, v2, v3, h =>
    if v2 ≤ v3 then
      K68 h
    else
      lk ((h 14 13) &&& (3 : Int32)) fun x22 =>
      bd (fX2_passHour 14 h) fun _ hh27 =>
      chk (inb x22 (lenC 226)) <|
      bd (fX2_sheetsOn 14 (hh27 v1 8) hh27) fun x36 hh37 =>
      chk (inb x22 (lenC 226)) <|
      lk (up2 hh37 226 x22.toNatClampNeg ((hh27 226 x22.toNatClampNeg) ||| x36)) fun hh48 =>
      lk (v3 + (1 : Int32)) fun x52 =>
      fX3_leastAwake_L18 K68 n v1 v2 x52 hh48
def fX3_leastAwake_L90   : Nat → Int32 → Int32 → Int32 → Int32 → Hp → Option (Int32 × Hp)
  | 0, _, _, _, _, _ => none
  | n + 1, v3, v4, v5, v6, h =>
    if v6 < 0 then
      some (v5, h)
    else
      bd (fX3_numberedBy v6 v3 h) fun x91 hh92 =>
      jp (fun J124_99v5 hh100 =>
          lk (v6 + (-1 : Int32)) fun x108 =>
          fX3_leastAwake_L90 n v3 v4 J124_99v5 x108 hh100) fun J124_99 =>
      if x91 = v4 then
        bd (fJ6_bitCount v6 hh92) fun x116 hh117 =>
        bd (fJ6_bitCount v5 hh117) fun x124 hh125 =>
        if x124 < x116 then
          J124_99 v5 hh125
        else
          J124_99 v6 hh125
      else
        J124_99 v5 hh92
def fX3_leastAwake  (a1 : Nat) (a2 : Int32) (h : Hp) : Option (Int32 × Hp) :=
  bd (fX2_become 14 a1 h) fun _ hh2 =>
  bd (fJ7_fill 226 (0 : Int32) hh2) fun _ hh10 =>
  fX3_leastAwake_L18 (fun  hh56 =>
      bd (fX2_withNumber a1 hh56) fun x64 hh65 =>
      bd (fX3_numberedBy (15 : Int32) x64 hh65) fun x74 hh75 =>
      fX3_leastAwake_L90 4096 x64 x74 (15 : Int32) (14 : Int32) hh75) 4096 a1 a2 (0 : Int32) hh10
def fX6_waking  (a1 : Int32) (a2 : Int32) (h : Hp) : Option (Int32 × Hp) :=
  if (h 0 6) = 0 then
    some ((-1000002 : Int32), h)
  else
    bd (fX6_isWithin a1 (1 : Int32) (30 : Int32) h) fun x3 hh4 =>
    if x3 = 0 then
      some ((-1000001 : Int32), hh4)
    else
      bd (fX6_isWithin a2 (0 : Int32) (1 : Int32) hh4) fun x14 hh15 =>
      if x14 = 0 then
        some ((-1000001 : Int32), hh15)
      else
        bd (fX3_leastAwake 0 a1 hh15) fun x24 hh25 =>
        if a2 = 0 then
          some (x24, hh25)
        else
          bd (fJ6_bitCount x24 hh25) fun x36 hh37 =>
          some (x36, hh37)
def fX2_thicknessOfSet_L4   : Nat → Nat → Int32 → Int32 → Int32 → Hp → Option (Int32 × Hp)
  | 0, _, _, _, _, _ => none
  | n + 1, v0, v1, v2, v3, h =>
    if (h v0 12) ≤ v3 then
      some (v2, h)
    else
      jp (fun J31_8s0 hh9 =>
          lk (v2 + J31_8s0) fun x17 =>
          lk (v3 + (1 : Int32)) fun x21 =>
          fX2_thicknessOfSet_L4 n v0 v1 x17 x21 hh9) fun J31_8 =>
      if ((shrI v1 v3) &&& (1 : Int32)) = 0 then
        J31_8 (0 : Int32) h
      else
        chk (inb v3 (lenC (v0 + 5))) <|
        J31_8 (h (v0 + 5) v3.toNatClampNeg) h
def fX2_thicknessOfSet  (e : Nat) (a1 : Int32) (h : Hp) : Option (Int32 × Hp) :=
  fX2_thicknessOfSet_L4 4096 e a1 (0 : Int32) (0 : Int32) h
def fX2_setsAsThick_L14  (K70 : Int32 → Int32 → Int32 → Hp → Option (Int32 × Hp)) : Nat → Nat → Int32 → Int32 → Int32 → Int32 → Int32 → Int32 → Hp → Option (Int32 × Hp)
  | 0, _, _, _, _, _, _, _, _ => none
  | n + 1, v0, v1, v2, v3, v4, v5, v6, h =>
    if (shlI (1 : Int32) (h v0 12)) ≤ v6 then
      K70 v3 v4 v5 h
    else
      jp (fun J64_14v3 J64_14v4 J64_14v5 hh15 =>
          lk (v6 + (1 : Int32)) fun x23 =>
          fX2_setsAsThick_L14 K70 n v0 v1 v2 J64_14v3 J64_14v4 J64_14v5 x23 hh15) fun J64_14 =>
      if (v6 &&& ((h v0 14) ^^^ (-1 : Int32))) = 0 then
        bd (fX2_thicknessOfSet v0 v6 h) fun x31 hh32 =>
        if x31 = v1 then
          lk (v3 + (1 : Int32)) fun x42 =>
          lk (v4 &&& v6) fun x46 =>
          lk (v5 ||| v6) fun x50 =>
          J64_14 x42 x46 x50 hh32
        else
          J64_14 v3 v4 v5 hh32
      else
        J64_14 v3 v4 v5 h
def fX2_setsAsThick  (e : Nat) (a1 : Int32) (a2 : Int32) (h : Hp) : Option (Int32 × Hp) :=
  lk (h e 14) fun x3 =>
  fX2_setsAsThick_L14 (fun x54 x55 x56 hh57 =>
      if a2 = 0 then
        some (x54, hh57)
      else
        if a2 = (2 : Int32) then
          some (x56, hh57)
        else
          if x54 = 0 then
            some ((0 : Int32), hh57)
          else
            some (x55, hh57)) 4096 e a1 a2 (0 : Int32) x3 (0 : Int32) (0 : Int32) h
def fX6_meant  (a1 : Int32) (a2 : Int32) (h : Hp) : Option (Int32 × Hp) :=
  if (h 0 6) = 0 then
    some ((-1000002 : Int32), h)
  else
    bd (fX6_isWithin a1 (0 : Int32) (54 : Int32) h) fun x3 hh4 =>
    if x3 = 0 then
      some ((-1000001 : Int32), hh4)
    else
      bd (fX6_isWithin a2 (0 : Int32) (2 : Int32) hh4) fun x14 hh15 =>
      if x14 = 0 then
        some ((-1000001 : Int32), hh15)
      else
        bd (fX2_setsAsThick 0 a1 a2 hh15) fun x24 hh25 =>
        some (x24, hh25)
def fX2_pailsOf_L5  (K37 : Int32 → Hp → Option (Int32 × Hp)) : Nat → Nat → Int32 → Int32 → Int32 → Int32 → Hp → Option (Int32 × Hp)
  | 0, _, _, _, _, _, _ => none
  | n + 1, v0, v1, v2, v3, v4, h =>
    if (h v0 12) ≤ v4 then
      K37 v3 h
    else
      chk (inb v4 (lenC (v0 + 4))) <|
      bd (fX2_thicknessOf v0 v4 h) fun x10 hh11 =>
      lk (v3 + ((h (v0 + 4) v4.toNatClampNeg) * x10)) fun x18 =>
      lk (v4 + (1 : Int32)) fun x22 =>
      fX2_pailsOf_L5 K37 n v0 v1 v2 x18 x22 hh11
def fX2_pailsOf_L60  (K123 : Int32 → Int32 → Hp → Option (Int32 × Hp)) : Nat → Nat → Int32 → Int32 → Int32 → Int32 → Int32 → Int32 → Hp → Option (Int32 × Hp)
  | 0, _, _, _, _, _, _, _, _ => none
  | n + 1, v0, v1, v2, v3, v4, v5, v6, h =>
    if (h v0 12) ≤ v6 then
      K123 v4 v5 h
    else
      chk (inb v6 (lenC (v0 + 4))) <|
      bd (fX2_thicknessOf v0 v6 h) fun x59 hh60 =>
      chk (nz v3) <|
      lk (v4 - (((v2 * (h (v0 + 4) v6.toNatClampNeg)) * x59) / v3)) fun x69 =>
      jp (fun J114_73s0 hh74 =>
          lk (v5 + J114_73s0) fun x82 =>
          lk (v6 + (1 : Int32)) fun x86 =>
          fX2_pailsOf_L60 K123 n v0 v1 v2 v3 x69 x82 x86 hh74) fun J114_73 =>
      jp (fun  hh92 =>
          J114_73 (0 : Int32) hh92) fun J113_91 =>
      if v1 ≤ v6 then
        J113_91 hh60
      else
        bd (fX2_isIn v0 v6 hh60) fun x104 hh105 =>
        if x104 = 0 then
          J113_91 hh105
        else
          J114_73 (1 : Int32) hh105
def fX2_pailsOf  (e : Nat) (a1 : Int32) (a2 : Int32) (h : Hp) : Option (Int32 × Hp) :=
  fX2_pailsOf_L5 (fun x26 hh27 =>
      bd (fX2_isIn e a1 hh27) fun x35 hh36 =>
      if x35 = 0 then
        some ((0 : Int32), hh36)
      else
        if 0 < x26 then
          fX2_pailsOf_L60 (fun x115 x116 hh117 =>
              chk (inb a1 (lenC (e + 4))) <|
              chk (inb a1 (lenC (e + 5))) <|
              chk (nz x26) <|
              if x115 ≤ x116 then
                some ((((a2 * (hh117 (e + 4) a1.toNatClampNeg)) * (hh117 (e + 5) a1.toNatClampNeg)) / x26) + (0 : Int32), hh117)
              else
                some ((((a2 * (hh117 (e + 4) a1.toNatClampNeg)) * (hh117 (e + 5) a1.toNatClampNeg)) / x26) + (1 : Int32), hh117)) 4096 e a1 a2 x26 a2 (0 : Int32) (0 : Int32) hh36
        else
          some ((0 : Int32), hh36)) 4096 e a1 a2 (0 : Int32) (0 : Int32) h
def fX6_share  (a1 : Int32) (a2 : Int32) (h : Hp) : Option (Int32 × Hp) :=
  bd (fX2_isSheet 0 a1 h) fun x1 hh2 =>
  if x1 = 0 then
    some ((-1000001 : Int32), hh2)
  else
    bd (fX6_isWithin a2 (0 : Int32) (999 : Int32) hh2) fun x12 hh13 =>
    if x12 = 0 then
      some ((-1000001 : Int32), hh13)
    else
      bd (fX2_pailsOf 0 a1 a2 hh13) fun x22 hh23 =>
      some (x22, hh23)
def fX3_courtsTurn_o (F_walkersTurn : Int32 → Int32 → Int32 → Hp → Option (Int32 × Hp)) (a1 : Int32) (a2 : Int32) (a3 : Int32) (h : Hp) : Option (Int32 × Hp) :=
  if 0 < a1 then
    bd (F_walkersTurn (a1 - (1 : Int32)) a2 a3 h) fun x3 hh4 =>
    bd (F_walkersTurn (a1 - (1 : Int32)) a2 ((1 : Int32) - a3) hh4) fun x11 hh12 =>
    some (maxJ x3 x11, hh12)
  else
    chk (inb a3 6) <|
    chk (inb a2 (lenC (212 + a3.toNatClampNeg))) <|
    some (h (212 + a3.toNatClampNeg) a2.toNatClampNeg, h)
def fX3_walkersTurn_o (F_courtsTurn : Int32 → Int32 → Int32 → Hp → Option (Int32 × Hp)) (a1 : Int32) (a2 : Int32) (a3 : Int32) (h : Hp) : Option (Int32 × Hp) :=
  if 0 < a1 then
    bd (F_courtsTurn (a1 - (1 : Int32)) a2 a3 h) fun x3 hh4 =>
    jp (fun J46_13v4 hh14 =>
        if ((hh14 14 7) - (1 : Int32)) ≤ a2 then
          some (J46_13v4, hh14)
        else
          bd (F_courtsTurn (a1 - (1 : Int32)) (a2 + (1 : Int32)) a3 hh14) fun x25 hh26 =>
          lk (minJ J46_13v4 x25) fun x33 =>
          some (x33, hh26)) fun J46_13 =>
    if a2 ≤ 0 then
      J46_13 x3 hh4
    else
      bd (F_courtsTurn (a1 - (1 : Int32)) (a2 - (1 : Int32)) a3 hh4) fun x41 hh42 =>
      lk (minJ x3 x41) fun x49 =>
      J46_13 x49 hh42
  else
    chk (inb a3 6) <|
    chk (inb a2 (lenC (212 + a3.toNatClampNeg))) <|
    some (h (212 + a3.toNatClampNeg) a2.toNatClampNeg, h)
def fX3_turns : Nat → Int32 → Int32 → Int32 → Hp → Option (Int32 × Hp)
  | 0, _, _, _, _ => none
  | n + 1, a, b, c, h => fX3_walkersTurn_o (fun a b c h => fX3_courtsTurn_o (fX3_turns n) a b c h) a b c h
def fX3_walkersTurn (a b c : Int32) (h : Hp) : Option (Int32 × Hp) := fX3_turns 6 a b c h
def fX3_outcomeOfTurns_L53  (K72 : Hp → Option (Int32 × Hp)) : Nat → Nat → Int32 → Int32 → Int32 → Hp → Option (Int32 × Hp)
  | 0, _, _, _, _, _ => none
  | n + 1, v1, v2, v3, v5, h =>
    if v3 ≤ v5 then
      K72 h
    else
      bd (fX2_passHour 14 h) fun _ hh55 =>
      lk (v5 + (1 : Int32)) fun x62 =>
      fX3_outcomeOfTurns_L53 K72 n v1 v2 v3 x62 hh55
def fX3_outcomeOfTurns  (a1 : Nat) (a2 : Int32) (a3 : Int32) (h : Hp) : Option (Int32 × Hp) :=
  bd (fX3_behind a1 a3 h) fun x1 hh2 =>
  chk (isEb x1) <|
  chk (inb (0 : Int32) 6) <|
  bd (fX3_noteOver (212 + (0 : Int32).toNatClampNeg) hh2) fun _ hh14 =>
  bd (fX2_become 14 a1 hh14) fun _ hh22 =>
  bd (fX2_windOfHour a1 hh22) fun x29 hh30 =>
  chk (inb x29 (lenC (a1 + 1))) <|
  chk (inb x29 (lenC 15)) <|
  lk (up2 hh30 15 x29.toNatClampNeg ((4 : Int32) - (hh30 (a1 + 1) x29.toNatClampNeg))) fun hh45 =>
  fX3_outcomeOfTurns_L53 (fun  hh66 =>
      chk (inb (1 : Int32) 6) <|
      bd (fX3_noteOver (212 + (1 : Int32).toNatClampNeg) hh66) fun _ hh77 =>
      bd (fX3_walkersTurn a2 (hh77 a1 9) (0 : Int32) hh77) fun x84 hh85 =>
      some (x84, hh85)) 4096 a1 a2 a3 (0 : Int32) hh45
def fX6_byTurns  (a1 : Int32) (a2 : Int32) (h : Hp) : Option (Int32 × Hp) :=
  if (h 0 6) = 0 then
    some ((-1000002 : Int32), h)
  else
    bd (fX6_isWithin a1 (0 : Int32) (4 : Int32) h) fun x3 hh4 =>
    if x3 = 0 then
      some ((-1000001 : Int32), hh4)
    else
      bd (fX6_isWithin a2 (1 : Int32) (20 : Int32) hh4) fun x14 hh15 =>
      if x14 = 0 then
        some ((-1000001 : Int32), hh15)
      else
        bd (fX3_outcomeOfTurns 0 a1 a2 hh15) fun x24 hh25 =>
        some (x24, hh25)
def fX3_hear  (a1 : Nat) (a2 : Int32) (a3 : Int32) (h : Hp) : Option (Unit × Hp) :=
  lk (up2 h 210 5 (minJ a3 (12 : Int32))) fun hh3 =>
  chk (cpok a2 (0 : Int32) (hh3 210 5) (lenC (a1 + 1)) (lenC 227)) <|
  lk (va_up hh3 227 (va_cpy (hh3 (a1 + 1)) (hh3 227) a2.toNatClampNeg (0 : Int32).toNatClampNeg (hh3 210 5).toNatClampNeg)) fun hh11 =>
  some ((), hh11)
def fX3_mostOf  (a1 : Nat) (a2 : Int32) (h : Hp) : Option (Int32 × Hp) :=
  if a2 = (0 : Int32) then
    some ((5 : Int32), h)
  else
  if a2 = (1 : Int32) then
    some ((h a1 7) - (1 : Int32), h)
  else
  if a2 = (2 : Int32) then
    some ((9 : Int32), h)
  else
  some ((4 : Int32), h)
def fX3_suppose  (a1 : Int32) (a2 : Int32) (a3 : Int32) (h : Hp) : Option (Unit × Hp) :=
  if a1 = (0 : Int32) then
    chk (inb a2 (lenC 16)) <|
    lk (up2 h 16 a2.toNatClampNeg a3) fun hh8 =>
    some ((), hh8)
  else
  if a1 = (1 : Int32) then
    chk (inb a2 (lenC 17)) <|
    lk (up2 h 17 a2.toNatClampNeg a3) fun hh19 =>
    some ((), hh19)
  else
  if a1 = (2 : Int32) then
    chk (inb a2 (lenC 19)) <|
    lk (up2 h 19 a2.toNatClampNeg a3) fun hh30 =>
    some ((), hh30)
  else
  chk (inb a2 (lenC 15)) <|
  lk (up2 h 15 a2.toNatClampNeg a3) fun hh38 =>
  some ((), hh38)
def fX3_isAsTold_L2   : Nat → Int32 → Hp → Option (Int32 × Hp)
  | 0, _, _ => none
  | n + 1, v1, h =>
    if (h 210 5) ≤ v1 then
      some ((1 : Int32), h)
    else
      bd (fX2_passHour 14 h) fun _ hh7 =>
      bd (fX2_thicknessOver 14 (hh7 14 9) hh7) fun x14 hh15 =>
      chk (inb v1 (lenC 227)) <|
      if x14 = (hh15 227 v1.toNatClampNeg) then
        lk (v1 + (1 : Int32)) fun x26 =>
        fX3_isAsTold_L2 n x26 hh15
      else
        some ((0 : Int32), hh15)
def fX3_isAsTold   (h : Hp) : Option (Int32 × Hp) :=
  fX3_isAsTold_L2 4096 (0 : Int32) h
def fX3_fitting_L31   : Nat → Nat → Int32 → Int32 → Int32 → Int32 → Int32 → Hp → Option (Int32 × Hp)
  | 0, _, _, _, _, _, _, _ => none
  | n + 1, v1, v2, v3, v5, v6, v7, h =>
    if v5 < v7 then
      some (v6, h)
    else
      bd (fX2_become 14 v1 h) fun _ hh30 =>
      bd (fX3_suppose v2 v3 v7 hh30) fun _ hh38 =>
      bd (fX3_isAsTold  hh38) fun x45 hh46 =>
      jp (fun J71_53s0 hh54 =>
          lk (v6 ||| J71_53s0) fun x62 =>
          lk (v7 + (1 : Int32)) fun x66 =>
          fX3_fitting_L31 n v1 v2 v3 v5 x62 x66 hh54) fun J71_53 =>
      if x45 = 0 then
        J71_53 (0 : Int32) hh46
      else
        J71_53 (shlI (1 : Int32) v7) hh46
def fX3_fitting  (a1 : Nat) (a2 : Int32) (a3 : Int32) (h : Hp) : Option (Int32 × Hp) :=
  jp (fun J15_1s0 hh2 =>
      bd (fX3_mostOf a1 a2 hh2) fun x12 hh13 =>
      fX3_fitting_L31 4096 a1 a2 a3 x12 (0 : Int32) J15_1s0 hh13) fun J15_1 =>
  jp (fun  hh76 =>
      J15_1 (0 : Int32) hh76) fun J10_75 =>
  if a2 = (1 : Int32) then
    J10_75 h
  else
    if a2 = (3 : Int32) then
      J10_75 h
    else
      J15_1 (1 : Int32) h
def fX6_allThatFits  (a1 : Int32) (a2 : Int32) (a3 : Int32) (a4 : Int32) (a5 : Int32) (h : Hp) : Option (Int32 × Hp) :=
  chk (inb a3 8) <|
  if (h (230 + 2 * a3.toNatClampNeg) 1) = 0 then
    bd (fX5_holds (230 + 2 * a3.toNatClampNeg) a4 a5 h) fun x7 hh8 =>
    if x7 = 0 then
      bd (fX6_found (2 : Int32) hh8) fun x42 hh43 =>
      some (x42, hh43)
    else
      bd (fX3_hear (230 + 2 * a3.toNatClampNeg) a4 a5 hh8) fun _ hh18 =>
      bd (fX3_fitting 0 a1 a2 hh18) fun x25 hh26 =>
      bd (fX6_well x25 hh26) fun x33 hh34 =>
      some (x33, hh34)
  else
    bd (fX6_found (1 : Int32) h) fun x51 hh52 =>
    some (x51, hh52)
def fX6_who  (a1 : Int32) (a2 : Int32) (a3 : Int32) (a4 : Int32) (a5 : Int32) (h : Hp) : Option (Int32 × Hp) :=
  bd (fX2_isSheet 0 a1 h) fun x1 hh2 =>
  if x1 = 0 then
    some ((-1000001 : Int32), hh2)
  else
    bd (fX6_isWithin a2 (0 : Int32) (2 : Int32) hh2) fun x12 hh13 =>
    if x12 = 0 then
      some ((-1000001 : Int32), hh13)
    else
      bd (fX6_isRow a3 hh13) fun x23 hh24 =>
      if x23 = 0 then
        some ((-1000001 : Int32), hh24)
      else
        bd (fX6_isWithin a5 (1 : Int32) (12 : Int32) hh24) fun x34 hh35 =>
        if x34 = 0 then
          some ((-1000001 : Int32), hh35)
        else
          bd (fX2_isIn 0 a1 hh35) fun x44 hh45 =>
          if x44 = 0 then
            some ((-1000002 : Int32), hh45)
          else
            bd (fX6_allThatFits a2 a1 a3 a4 a5 hh45) fun x54 hh55 =>
            some (x54, hh55)
def fX6_gusts  (a1 : Int32) (a2 : Int32) (a3 : Int32) (a4 : Int32) (h : Hp) : Option (Int32 × Hp) :=
  bd (fX2_isWind 0 a1 h) fun x1 hh2 =>
  if x1 = 0 then
    some ((-1000001 : Int32), hh2)
  else
    bd (fX6_isRow a2 hh2) fun x12 hh13 =>
    if x12 = 0 then
      some ((-1000001 : Int32), hh13)
    else
      bd (fX6_isWithin a4 (1 : Int32) (12 : Int32) hh13) fun x23 hh24 =>
      if x23 = 0 then
        some ((-1000001 : Int32), hh24)
      else
        bd (fX6_allThatFits (3 : Int32) a1 a2 a3 a4 hh24) fun x33 hh34 =>
        some (x33, hh34)
def fX6_commonDivisor_L4   : Nat → Int32 → Int32 → Int32 → Int32 → Hp → Option (Int32 × Hp)
  | 0, _, _, _, _, _ => none
  | n + 1, v0, v1, v2, v3, h =>
    if v1 < v3 then
      some (v2, h)
    else
      chk (nz v3) <|
      jp (fun J23_10v2 hh11 =>
          lk (v3 + (1 : Int32)) fun x19 =>
          fX6_commonDivisor_L4 n v0 v1 J23_10v2 x19 hh11) fun J23_10 =>
      if (irm v0 v3) = 0 then
        chk (nz v3) <|
        if (irm v1 v3) = 0 then
          J23_10 v3 h
        else
          J23_10 v2 h
      else
        J23_10 v2 h
def fX6_commonDivisor  (a1 : Int32) (a2 : Int32) (h : Hp) : Option (Int32 × Hp) :=
  fX6_commonDivisor_L4 4096 a1 a2 (1 : Int32) (2 : Int32) h
def fX6_power_L5   : Nat → Int32 → Int32 → Int64 → Int32 → Hp → Option (Int64 × Hp)
  | 0, _, _, _, _, _ => none
  | n + 1, v0, v1, v2, v4, h =>
    if v1 ≤ v4 then
      some (v2, h)
    else
      lk (v2 * v0.toInt64) fun x8 =>
      lk (v4 + (1 : Int32)) fun x12 =>
      fX6_power_L5 n v0 v1 x8 x12 h
def fX6_power  (a1 : Int32) (a2 : Int32) (h : Hp) : Option (Int64 × Hp) :=
  fX6_power_L5 4096 a1 a2 (1 : Int64) (0 : Int32) h
def fX6_lift  (a1 : Int32) (a2 : Int32) (a3 : Int32) (a4 : Int32) (h : Hp) : Option (Int64 × Hp) :=
  bd (fX2_isCell 0 a1 h) fun x1 hh2 =>
  if x1 = 0 then
    some ((-1000001 : Int64), hh2)
  else
    bd (fX6_isFar a2 hh2) fun x12 hh13 =>
    if x12 = 0 then
      some ((-1000001 : Int64), hh13)
    else
      bd (fX6_isWithin a3 (0 : Int32) (10 : Int32) hh13) fun x23 hh24 =>
      if x23 = 0 then
        some ((-1000001 : Int64), hh24)
      else
        bd (fX6_isWithin a4 (0 : Int32) (1 : Int32) hh24) fun x34 hh35 =>
        if x34 = 0 then
          some ((-1000001 : Int64), hh35)
        else
          bd (fX3_behind 0 a2 hh35) fun x44 hh45 =>
          chk (isEb x44) <|
          bd (fX2_sheetsOn x44 a1 hh45) fun x54 hh55 =>
          bd (fJ6_bitCount x54 hh55) fun x62 hh63 =>
          bd (fX6_commonDivisor a3 (10 : Int32) hh63) fun x72 hh73 =>
          jp (fun J82_82s0 hh83 =>
              chk (nz x72) <|
              bd (fX6_power (J82_82s0 / x72) x62 hh83) fun x93 hh94 =>
              some (x93, hh94)) fun J82_82 =>
          if a4 = 0 then
            J82_82 a3 hh73
          else
            J82_82 (10 : Int32) hh73
def fX3_drawOne  (a1 : Int32) (h : Hp) : Option (Unit × Hp) :=
  if (h 14 11) ≤ 0 then
    some ((), h)
  else
    if (h 14 12) ≤ 0 then
      some ((), h)
    else
      if 0 < (h 14 7) then
        jp (fun  hh10 =>
            chk (nz (hh10 14 12)) <|
            lk (irm a1 (hh10 14 12)) fun x20 =>
            bd (fX2_isIn 14 x20 hh10) fun x24 hh25 =>
            if x24 = 0 then
              chk (nz (hh25 14 7)) <|
              bd (fX2_admit 14 x20 (irm a1 (hh25 14 7)) ((irm a1 (9 : Int32)) + (1 : Int32)) hh25) fun _ hh38 =>
              some ((), hh38)
            else
              some ((), hh25)) fun J57_9 =>
        if (irm a1 (3 : Int32)) = 0 then
          chk (nz (h 14 11)) <|
          chk (inb (irm a1 (h 14 11)) (lenC 15)) <|
          lk (up2 h 15 (irm a1 (h 14 11)).toNatClampNeg (irm a1 (5 : Int32))) fun hh55 =>
          J57_9 hh55
        else
          J57_9 h
      else
        some ((), h)
def fX3_drawYears_L18  (K75 : Int32 → Hp → Option (Int32 × Hp)) : Nat → Int32 → Int32 → Int64 → Int32 → Int32 → Hp → Option (Int32 × Hp)
  | 0, _, _, _, _, _, _ => none
  | n + 1, v2, v4, v5, v7, v8, h =>
    if v2 ≤ v8 then
      K75 v7 h
    else
      lk (lrm (v5 * (16807 : Int64)) (2147483647 : Int64)) fun x20 =>
      bd (fX3_drawOne x20.toInt32 h) fun _ hh25 =>
      bd (fX2_passHour 14 hh25) fun _ hh33 =>
      bd (fX2_thicknessOver 14 (hh33 14 8) hh33) fun x40 hh41 =>
      lk (v7 + x40) fun x48 =>
      lk (v8 + (1 : Int32)) fun x52 =>
      fX3_drawYears_L18 K75 n v2 v4 x20 x48 x52 hh41
def fX3_drawYears  (a1 : Nat) (a2 : Int32) (a3 : Int32) (a4 : Int32) (h : Hp) : Option (Int32 × Hp) :=
  bd (fX2_become 14 a1 h) fun _ hh2 =>
  lk (a3.toInt64) fun x9 =>
  fX3_drawYears_L18 (fun x56 hh57 =>
      if a4 = 0 then
        some (hh57 14 15, hh57)
      else
        some (x56, hh57)) 4096 a2 a4 x9 (0 : Int32) (0 : Int32) hh2
def fX6_drawn  (a1 : Int32) (a2 : Int32) (a3 : Int32) (h : Hp) : Option (Int32 × Hp) :=
  if (h 0 6) = 0 then
    some ((-1000002 : Int32), h)
  else
    bd (fX6_isFar a1 h) fun x3 hh4 =>
    if x3 = 0 then
      some ((-1000001 : Int32), hh4)
    else
      bd (fX6_isWithin a2 (1 : Int32) (999999 : Int32) hh4) fun x14 hh15 =>
      if x14 = 0 then
        some ((-1000001 : Int32), hh15)
      else
        bd (fX6_isWithin a3 (0 : Int32) (1 : Int32) hh15) fun x25 hh26 =>
        if x25 = 0 then
          some ((-1000001 : Int32), hh26)
        else
          bd (fX3_drawYears 0 a1 a2 a3 hh26) fun x35 hh36 =>
          some (x35, hh36)
def fX6_image  (a1 : Int32) (h : Hp) : Option (Int32 × Hp) :=
  bd (fX6_isWithin a1 (0 : Int32) (1 : Int32) h) fun x1 hh2 =>
  if x1 = 0 then
    some ((-1000001 : Int32), hh2)
  else
    if (hh2 0 6) = 0 then
      some ((-1000002 : Int32), hh2)
    else
      chk (inb a1 2) <|
      bd (fX2_become (21 + 7 * a1.toNatClampNeg) 0 hh2) fun _ hh16 =>
      some ((1 : Int32), hh16)
def fX6_restore  (a1 : Int32) (h : Hp) : Option (Int32 × Hp) :=
  bd (fX6_isWithin a1 (0 : Int32) (1 : Int32) h) fun x1 hh2 =>
  if x1 = 0 then
    some ((-1000001 : Int32), hh2)
  else
    chk (inb a1 2) <|
    if (hh2 (21 + 7 * a1.toNatClampNeg) 6) = 0 then
      some ((-1000002 : Int32), hh2)
    else
      chk (inb a1 2) <|
      bd (fX2_become 0 (21 + 7 * a1.toNatClampNeg) hh2) fun _ hh18 =>
      bd (fX0_forget  hh18) fun _ hh26 =>
      some ((1 : Int32), hh26)
def fX6_kind  (a1 : Int32) (h : Hp) : Option (Int32 × Hp) :=
  bd (fX2_isSheet 0 a1 h) fun x1 hh2 =>
  if x1 = 0 then
    some ((-1000001 : Int32), hh2)
  else
    chk (inb a1 (lenC 2)) <|
    some (hh2 2 a1.toNatClampNeg, hh2)
def fX6_widerKind  (a1 : Int32) (h : Hp) : Option (Int32 × Hp) :=
  if a1 = (2 : Int32) then
    some ((1 : Int32), h)
  else
  if a1 = (3 : Int32) then
    some ((1 : Int32), h)
  else
  if a1 = (4 : Int32) then
    some ((0 : Int32), h)
  else
  if a1 = (5 : Int32) then
    some ((4 : Int32), h)
  else
  some ((0 : Int32), h)
def fX6_isA  (a1 : Int32) (a2 : Int32) (h : Hp) : Option (Int32 × Hp) :=
  if a2 = a1 then
    some ((1 : Int32), h)
  else
    bd (fX6_widerKind a1 h) fun x4 hh5 =>
    if a2 = x4 then
      some ((1 : Int32), hh5)
    else
      if a2 = 0 then
        some ((1 : Int32), hh5)
      else
        some ((0 : Int32), hh5)
def fX6_as  (a1 : Int32) (a2 : Int32) (h : Hp) : Option (Int32 × Hp) :=
  bd (fX2_isSheet 0 a1 h) fun x1 hh2 =>
  if x1 = 0 then
    some ((-1000001 : Int32), hh2)
  else
    bd (fX6_isWithin a2 (0 : Int32) (5 : Int32) hh2) fun x12 hh13 =>
    if x12 = 0 then
      some ((-1000001 : Int32), hh13)
    else
      chk (inb a1 (lenC 2)) <|
      bd (fX6_isA (hh13 2 a1.toNatClampNeg) a2 hh13) fun x24 hh25 =>
      if x24 = 0 then
        bd (fX6_found (3 : Int32) hh25) fun x43 hh44 =>
        some (x43, hh44)
      else
        bd (fX6_well a1 hh25) fun x34 hh35 =>
        some (x34, hh35)
def fX1_nearestBody  (a1 : Int32) (a2 : Int32) (h : Hp) : Option (Int32 × Hp) :=
  if a2 = 0 then
    chk (inb a1 6) <|
    if (sizeB a1.toNatClampNeg) = 0 then
      bd (fX6_widerKind a1 h) fun x29 hh30 =>
      chk (inb x29 6) <|
      some (sizeB x29.toNatClampNeg, hh30)
    else
      chk (inb a1 6) <|
      some (sizeB a1.toNatClampNeg, h)
  else
    chk (inb a1 6) <|
    if (markB a1.toNatClampNeg) = 0 then
      bd (fX6_widerKind a1 h) fun x9 hh10 =>
      chk (inb x9 6) <|
      some (markB x9.toNatClampNeg, hh10)
    else
      chk (inb a1 6) <|
      some (markB a1.toNatClampNeg, h)
def fX1_leave  (a1 : Int32) (h : Hp) : Option (Unit × Hp) :=
  if (nI (lenC 229)) ≤ (h 228 1) then
    some ((), h)
  else
    chk (inb (h 228 1) (lenC 229)) <|
    lk (up2 h 229 (h 228 1).toNatClampNeg a1) fun hh8 =>
    lk (up2 hh8 228 1 ((hh8 228 1) + (1 : Int32))) fun hh14 =>
    some ((), hh14)
def fX1_begin_o (F_answer : Nat → Int32 → Int32 → Int32 → Hp → Option (Int32 × Hp)) (F_begin : Int32 → Nat → Int32 → Int32 → Hp → Option (Int32 × Hp)) (a1 : Int32) (a2 : Nat) (a3 : Int32) (a4 : Int32) (h : Hp) : Option (Int32 × Hp) :=
  if a4 ≤ (16 : Int32) then
    bd (fX1_leave a1 h) fun _ hh4 =>
    lk (a4 + (1 : Int32)) fun x11 =>
    if a1 = (10 : Int32) then
      chk (inb a3 (lenC (a2 + 4))) <|
      some (hh4 (a2 + 4) a3.toNatClampNeg, hh4)
    else
    if a1 = (11 : Int32) then
      bd (F_begin (10 : Int32) a2 a3 x11 hh4) fun x23 hh24 =>
      bd (F_answer a2 a3 (1 : Int32) x11 hh24) fun x31 hh32 =>
      some (x23 + x31, hh32)
    else
    if a1 = (12 : Int32) then
      bd (F_begin (11 : Int32) a2 a3 x11 hh4) fun x42 hh43 =>
      some (-x42, hh43)
    else
    if a1 = (13 : Int32) then
      bd (F_begin (10 : Int32) a2 a3 x11 hh4) fun x53 hh54 =>
      some (x53 - (100 : Int32), hh54)
    else
    if a1 = (14 : Int32) then
      bd (F_begin (13 : Int32) a2 a3 x11 hh4) fun x64 hh65 =>
      some ((2 : Int32) * x64, hh65)
    else
    if a1 = (15 : Int32) then
      some ((0 : Int32), hh4)
    else
    if a1 = (16 : Int32) then
      some ((0 : Int32), hh4)
    else
    if a1 = (17 : Int32) then
      some ((0 : Int32), hh4)
    else
    if a1 = (18 : Int32) then
      some ((0 : Int32), hh4)
    else
    if a1 = (19 : Int32) then
      some ((0 : Int32), hh4)
    else
    if a1 = (20 : Int32) then
      some (a3, hh4)
    else
    if a1 = (21 : Int32) then
      bd (F_begin (20 : Int32) a2 a3 x11 hh4) fun x93 hh94 =>
      chk (inb a3 (lenC (a2 + 5))) <|
      some (x93 + (hh94 (a2 + 5) a3.toNatClampNeg), hh94)
    else
    if a1 = (22 : Int32) then
      bd (F_begin (21 : Int32) a2 a3 x11 hh4) fun x106 hh107 =>
      some (x106 - (1000 : Int32), hh107)
    else
    if a1 = (23 : Int32) then
      bd (F_begin (20 : Int32) a2 a3 x11 hh4) fun x117 hh118 =>
      bd (F_answer a2 a3 (0 : Int32) x11 hh118) fun x125 hh126 =>
      some (x117 - x125, hh126)
    else
    if a1 = (24 : Int32) then
      bd (F_begin (21 : Int32) a2 a3 x11 hh4) fun x136 hh137 =>
      some ((2 : Int32) * x136, hh137)
    else
    some ((0 : Int32), hh4)
  else
    some ((0 : Int32), h)
def fX1_answer_o (F_begin : Int32 → Nat → Int32 → Int32 → Hp → Option (Int32 × Hp)) (a1 : Nat) (a2 : Int32) (a3 : Int32) (a4 : Int32) (h : Hp) : Option (Int32 × Hp) :=
  chk (inb a2 (lenC (a1 + 2))) <|
  bd (fX1_nearestBody (h (a1 + 2) a2.toNatClampNeg) a3 h) fun x3 hh4 =>
  bd (F_begin x3 a1 a2 (a4 + (1 : Int32)) hh4) fun x11 hh12 =>
  some (x11, hh12)
def fX1_asks : Nat → Int32 → Nat → Int32 → Int32 → Hp → Option (Int32 × Hp)
  | 0, _, _, _, _, _ => none
  | n + 1, a, b, c, d, h => fX1_begin_o (fun a b c d h => fX1_answer_o (fX1_asks n) a b c d h) (fX1_asks n) a b c d h
def fX1_answer (a : Nat) (b c d : Int32) (h : Hp) : Option (Int32 × Hp) := fX1_answer_o (fX1_asks 8) a b c d h
def fX1_askOf  (a1 : Nat) (a2 : Int32) (a3 : Int32) (h : Hp) : Option (Int32 × Hp) :=
  lk (up2 h 228 1 (0 : Int32)) fun hh3 =>
  bd (fX1_answer a1 a2 a3 (0 : Int32) hh3) fun x7 hh8 =>
  some (x7, hh8)
def fX6_ask  (a1 : Int32) (a2 : Int32) (h : Hp) : Option (Int32 × Hp) :=
  bd (fX2_isSheet 0 a1 h) fun x1 hh2 =>
  if x1 = 0 then
    some ((-1000001 : Int32), hh2)
  else
    bd (fX6_isWithin a2 (0 : Int32) (1 : Int32) hh2) fun x12 hh13 =>
    if x12 = 0 then
      some ((-1000001 : Int32), hh13)
    else
      bd (fX1_askOf 0 a1 a2 hh13) fun x22 hh23 =>
      some (x22, hh23)
def fX6_trace  (a1 : Int32) (h : Hp) : Option (Int32 × Hp) :=
  bd (fX6_isWithin a1 (0 : Int32) ((h 228 1) - (1 : Int32)) h) fun x1 hh2 =>
  if x1 = 0 then
    some ((-1000000 : Int32), hh2)
  else
    chk (inb a1 (lenC 229)) <|
    some (hh2 229 a1.toNatClampNeg, hh2)
def fX6_rowsThere_L4   : Nat → Int32 → Int32 → Hp → Option (Int32 × Hp)
  | 0, _, _, _ => none
  | n + 1, v1, v2, h =>
    if (8 : Int32) ≤ v2 then
      some (v1, h)
    else
      chk (inb v2 8) <|
      jp (fun J28_10s0 hh11 =>
          lk (v1 + J28_10s0) fun x19 =>
          lk (v2 + (1 : Int32)) fun x23 =>
          fX6_rowsThere_L4 n x19 x23 hh11) fun J28_10 =>
      if (h (230 + 2 * v2.toNatClampNeg) 1) = 0 then
        J28_10 (1 : Int32) h
      else
        J28_10 (0 : Int32) h
def fX6_rowsThere   (h : Hp) : Option (Int32 × Hp) :=
  fX6_rowsThere_L4 4096 (0 : Int32) (0 : Int32) h
def fX6_count  (a1 : Int32) (h : Hp) : Option (Int32 × Hp) :=
  if a1 = (0 : Int32) then
    bd (fX6_rowsThere  h) fun x4 hh5 =>
    some (x4, hh5)
  else
  if a1 = (1 : Int32) then
    some (h 0 12, h)
  else
  if a1 = (2 : Int32) then
    some (h 0 11, h)
  else
  if a1 = (3 : Int32) then
    some (h 0 13, h)
  else
  if a1 = (4 : Int32) then
    some (h 0 15, h)
  else
  if a1 = (5 : Int32) then
    bd (fJ6_bitCount (h 0 14) h) fun x27 hh28 =>
    some (x27, hh28)
  else
  if a1 = (6 : Int32) then
    some (h 207 2, h)
  else
  if a1 = (7 : Int32) then
    some (h 205 1, h)
  else
  some ((-1000001 : Int32), h)
def fX6_status   (h : Hp) : Option (Int32 × Hp) :=
  some (h 203 8, h)
