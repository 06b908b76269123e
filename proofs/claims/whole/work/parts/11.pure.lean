def fX7_in  (a1 : Int64) (a2 : Int64) (a3 : Int64) (k : Hp) : Option (Int32 × Hp) :=
  if (lg_cmp a1 a2) < 0 then
    some ((0 : Int32), k)
  else
    if 0 < (lg_cmp a1 a3) then
      some ((0 : Int32), k)
    else
      some ((1 : Int32), k)
def fX7_finding  (a1 : Int32) (k : Hp) : Option (Int32 × Hp) :=
  lk (up2 k 246 1 a1) fun kk3 =>
  some ((-1000010 : Int32) - a1, kk3)
def fX7_isRow  (a1 : Int32) (k : Hp) : Option (Int32 × Hp) :=
  bd (fX7_in a1.toInt64 (0 : Int64) (7 : Int64) k) fun x1 kk2 =>
  chk (isB x1) <|
  some (x1, kk2)
def fX7_row_L65   : Nat → Int32 → Int32 → Int32 → Hp → Option (Int32 × Hp)
  | 0, _, _, _, _ => none
  | n + 1, v1, v3, v4, k =>
    if (40 : Int32) ≤ v4 then
      some (v3, k)
    else
      chk (inb (((40 : Int32) * v1) + v4) (lenM 249)) <|
      lk (up2 k 249 (((40 : Int32) * v1) + v4).toNatClampNeg (0 : Int32)) fun kk64 =>
      lk (v4 + (1 : Int32)) fun x68 =>
      fX7_row_L65 n v1 v3 x68 kk64
def fX7_row  (a1 : Int32) (a2 : Int32) (a3 : Int32) (k : Hp) : Option (Int32 × Hp) :=
  lk (up2 k 246 0 (0 : Int32)) fun kk3 =>
  bd (fX7_isRow a1 kk3) fun x7 kk8 =>
  if x7 = 0 then
    some ((-1000001 : Int32), kk8)
  else
    bd (fX7_in a2.toInt64 (0 : Int64) (2 : Int64) kk8) fun x18 kk19 =>
    if x18 = 0 then
      some ((-1000001 : Int32), kk19)
    else
      if a3 ≤ (40 : Int32) then
        lk (up2 kk19 246 1 (0 : Int32)) fun kk33 =>
        if 0 ≤ a3 then
          chk (inb a1 (lenM 247)) <|
          lk (up2 kk33 247 a1.toNatClampNeg a2) fun kk43 =>
          chk (inb a1 (lenM 248)) <|
          lk (up2 kk43 248 a1.toNatClampNeg a3) fun kk51 =>
          fX7_row_L65 4096 a1 a3 (0 : Int32) kk51
        else
          bd (fX7_finding (4 : Int32) kk33) fun x73 kk74 =>
          some (x73, kk74)
      else
        some ((-1000001 : Int32), kk19)
def fX7_set  (a1 : Int32) (a2 : Int32) (a3 : Int32) (k : Hp) : Option (Int32 × Hp) :=
  lk (up2 k 246 0 (0 : Int32)) fun kk3 =>
  bd (fX7_isRow a1 kk3) fun x7 kk8 =>
  if x7 = 0 then
    some ((-1000001 : Int32), kk8)
  else
    lk (up2 kk8 246 1 (0 : Int32)) fun kk19 =>
    chk (inb a1 (lenM 247)) <|
    if 0 ≤ (kk19 247 a1.toNatClampNeg) then
      chk (inb a1 (lenM 248)) <|
      bd (fX7_in a2.toInt64 (0 : Int64) (((kk19 248 a1.toNatClampNeg) - (1 : Int32)).toInt64) kk19) fun x29 kk30 =>
      if x29 = 0 then
        bd (fX7_finding (2 : Int32) kk30) fun x70 kk71 =>
        some (x70, kk71)
      else
        chk (inb a1 (lenM 247)) <|
        jp (fun J99_41s0 kk42 =>
            chk (inb (((40 : Int32) * a1) + a2) (lenM 249)) <|
            lk (up2 kk42 249 (((40 : Int32) * a1) + a2).toNatClampNeg J99_41s0) fun kk54 =>
            chk (inb (((40 : Int32) * a1) + a2) (lenM 249)) <|
            some (kk54 249 (((40 : Int32) * a1) + a2).toNatClampNeg, kk54)) fun J99_41 =>
        if (kk30 247 a1.toNatClampNeg) = 0 then
          J99_41 a3.toInt8.toInt32 kk30
        else
          chk (inb a1 (lenM 247)) <|
          if (kk30 247 a1.toNatClampNeg) = (1 : Int32) then
            J99_41 a3.toInt16.toInt32 kk30
          else
            J99_41 a3 kk30
    else
      bd (fX7_finding (1 : Int32) kk19) fun x79 kk80 =>
      some (x79, kk80)
def fX7_copy_L143   : Nat → Int32 → Int32 → Int32 → Int32 → Int32 → Int32 → Int32 → Hp → Option (Int32 × Hp)
  | 0, _, _, _, _, _, _, _, _ => none
  | n + 1, v1, v2, v3, v4, v5, v6, v7, k =>
    if v5 ≤ v7 then
      some (v5, k)
    else
      jp (fun J167_119s0 kk120 =>
          chk (inb ((((40 : Int32) * v1) + v2) + J167_119s0) (lenM 249)) <|
          chk (inb ((((40 : Int32) * v3) + v4) + J167_119s0) (lenM 249)) <|
          lk (up2 kk120 249 ((((40 : Int32) * v3) + v4) + J167_119s0).toNatClampNeg (kk120 249 ((((40 : Int32) * v1) + v2) + J167_119s0).toNatClampNeg)) fun kk136 =>
          lk (v7 + (1 : Int32)) fun x140 =>
          fX7_copy_L143 n v1 v2 v3 v4 v5 v6 x140 kk136) fun J167_119 =>
      if v6 = 0 then
        J167_119 ((v5 - (1 : Int32)) - v7) k
      else
        J167_119 v7 k
def fX7_copy  (a1 : Int32) (a2 : Int32) (a3 : Int32) (a4 : Int32) (a5 : Int32) (k : Hp) : Option (Int32 × Hp) :=
  lk (up2 k 246 0 (0 : Int32)) fun kk3 =>
  bd (fX7_isRow a1 kk3) fun x7 kk8 =>
  if x7 = 0 then
    some ((-1000001 : Int32), kk8)
  else
    bd (fX7_isRow a3 kk8) fun x18 kk19 =>
    if x18 = 0 then
      some ((-1000001 : Int32), kk19)
    else
      lk (up2 kk19 246 1 (0 : Int32)) fun kk30 =>
      chk (inb a1 (lenM 247)) <|
      jp (fun  kk37 =>
          bd (fX7_finding (1 : Int32) kk37) fun x45 kk46 =>
          some (x45, kk46)) fun J45_36 =>
      if (kk30 247 a1.toNatClampNeg) < 0 then
        J45_36 kk30
      else
        chk (inb a3 (lenM 247)) <|
        if 0 ≤ (kk30 247 a3.toNatClampNeg) then
          chk (inb a1 (lenM 247)) <|
          chk (inb a3 (lenM 247)) <|
          if (kk30 247 a1.toNatClampNeg) = (kk30 247 a3.toNatClampNeg) then
            jp (fun  kk68 =>
                bd (fX7_finding (2 : Int32) kk68) fun x76 kk77 =>
                some (x76, kk77)) fun J121_67 =>
            if a2 < 0 then
              J121_67 kk30
            else
              if a4 < 0 then
                J121_67 kk30
              else
                if a5 < 0 then
                  J121_67 kk30
                else
                  chk (inb a1 (lenM 248)) <|
                  if 0 < (lg_cmp (a2.toInt64 + a5.toInt64) ((kk30 248 a1.toNatClampNeg).toInt64)) then
                    J121_67 kk30
                  else
                    chk (inb a3 (lenM 248)) <|
                    if (lg_cmp (a4.toInt64 + a5.toInt64) ((kk30 248 a3.toNatClampNeg).toInt64)) ≤ 0 then
                      jp (fun J138_103s0 kk104 =>
                          fX7_copy_L143 4096 a1 a2 a3 a4 a5 J138_103s0 (0 : Int32) kk104) fun J138_103 =>
                      if a2 < a4 then
                        J138_103 (0 : Int32) kk30
                      else
                        J138_103 (1 : Int32) kk30
                    else
                      J121_67 kk30
          else
            bd (fX7_finding (5 : Int32) kk30) fun x154 kk155 =>
            some (x154, kk155)
        else
          J45_36 kk30
def fX7_drop  (a1 : Int32) (k : Hp) : Option (Int32 × Hp) :=
  lk (up2 k 246 0 (0 : Int32)) fun kk3 =>
  bd (fX7_isRow a1 kk3) fun x7 kk8 =>
  if x7 = 0 then
    some ((-1000001 : Int32), kk8)
  else
    lk (up2 kk8 246 1 (0 : Int32)) fun kk19 =>
    chk (inb a1 (lenM 247)) <|
    if 0 ≤ (kk19 247 a1.toNatClampNeg) then
      chk (inb a1 (lenM 247)) <|
      lk (up2 kk19 247 a1.toNatClampNeg (-1 : Int32)) fun kk31 =>
      chk (inb a1 (lenM 248)) <|
      some (kk31 248 a1.toNatClampNeg, kk31)
    else
      bd (fX7_finding (1 : Int32) kk19) fun x38 kk39 =>
      some (x38, kk39)
def fX7_feed  (a1 : Int32) (k : Hp) : Option (Int32 × Hp) :=
  lk (up2 k 246 0 (0 : Int32)) fun kk3 =>
  bd (fX7_in a1.toInt64 (0 : Int64) (255 : Int64) kk3) fun x7 kk8 =>
  if x7 = 0 then
    some ((-1000001 : Int32), kk8)
  else
    if (kk8 246 11) = (120 : Int32) then
      some ((-1000003 : Int32), kk8)
    else
      chk (inb (kk8 246 11) (lenM 254)) <|
      lk (up2 kk8 254 (kk8 246 11).toNatClampNeg a1) fun kk23 =>
      lk (up2 kk23 246 11 ((kk23 246 11) + (1 : Int32))) fun kk29 =>
      some (kk29 246 11, kk29)
def fX7_bad  (a1 : Int32) (k : Hp) : Option (Unit × Hp) :=
  if (k 246 16) = 0 then
    lk (up2 k 246 16 a1) fun kk6 =>
    lk (up2 kk6 246 17 (kk6 246 13)) fun kk12 =>
    some ((), kk12)
  else
    some ((), k)
def fX7_nextToken_L165  (K255 : Hp → Option (Unit × Hp)) : Nat → Hp → Option (Unit × Hp)
  | 0, _ => none
  | n + 1, k =>
    if (k 246 11) ≤ (k 246 12) then
      K255 k
    else
      chk (inb (k 246 12) (lenM 254)) <|
      bd (fX7_in ((k 254 (k 246 12).toNatClampNeg).toInt64) (48 : Int64) (57 : Int64) k) fun x66 kk67 =>
      if x66 = 0 then
        K255 kk67
      else
        jp (fun J239_77s0 kk78 =>
            lk (up2 kk78 246 15 J239_77s0) fun kk88 =>
            lk (up2 kk88 246 12 ((kk88 246 12) + (1 : Int32))) fun kk94 =>
            fX7_nextToken_L165 K255 n  kk94) fun J239_77 =>
        if (2 : Int32) ≤ ((kk67 246 12) - (kk67 246 13)) then
          J239_77 (kk67 246 15) kk67
        else
          chk (inb (kk67 246 12) (lenM 254)) <|
          J239_77 ((((10 : Int32) * (kk67 246 15)) + (kk67 254 (kk67 246 12).toNatClampNeg)) - (48 : Int32)) kk67
def fX7_nextToken   (k : Hp) : Option (Unit × Hp) :=
  lk (up2 k 246 13 (k 246 12)) fun kk3 =>
  jp (fun J34_7s0 kk8 =>
      lk (up2 kk8 246 15 J34_7s0) fun kk18 =>
      jp (fun J118_22s0 kk23 =>
          lk (up2 kk23 246 14 J118_22s0) fun kk33 =>
          jp (fun J142_37s0 kk38 =>
              lk (up2 kk38 246 12 ((kk33 246 12) + J142_37s0)) fun kk48 =>
              if (kk48 246 14) = (3 : Int32) then
                lk (up2 kk48 246 15 ((kk48 246 15) - (48 : Int32))) fun kk57 =>
                fX7_nextToken_L165 (fun  kk104 =>
                    if ((kk104 246 12) - (kk104 246 13)) ≤ (2 : Int32) then
                      lk (up2 kk104 246 14 (3 : Int32)) fun kk116 =>
                      some ((), kk116)
                    else
                      lk (up2 kk104 246 14 (0 : Int32)) fun kk123 =>
                      some ((), kk123)) 4096  kk57
              else
                some ((), kk48)) fun J142_37 =>
          if (kk33 246 11) ≤ (kk33 246 12) then
            J142_37 (0 : Int32) kk33
          else
            J142_37 (1 : Int32) kk33) fun J118_22 =>
      if (kk18 246 12) = (kk18 246 11) then
        J118_22 (1 : Int32) kk18
      else
        bd (fX7_in ((kk18 246 15).toInt64) (97 : Int64) (122 : Int64) kk18) fun x134 kk135 =>
        if x134 = 0 then
          bd (fX7_in ((kk135 246 15).toInt64) (48 : Int64) (57 : Int64) kk135) fun x144 kk145 =>
          if x144 = 0 then
            jp (fun  kk155 =>
                J118_22 (4 : Int32) kk155) fun J113_154 =>
            if (kk145 246 15) = (44 : Int32) then
              J113_154 kk145
            else
              if (kk145 246 15) = (59 : Int32) then
                J113_154 kk145
              else
                J118_22 (0 : Int32) kk145
          else
            J118_22 (3 : Int32) kk145
        else
          J118_22 (2 : Int32) kk135) fun J34_7 =>
  if (kk3 246 11) ≤ (kk3 246 12) then
    J34_7 (-1000000 : Int32) kk3
  else
    chk (inb (kk3 246 12) (lenM 254)) <|
    J34_7 (kk3 254 (kk3 246 12).toNatClampNeg) kk3
def fX7_must  (a1 : Int32) (k : Hp) : Option (Unit × Hp) :=
  jp (fun  kk2 =>
      if (kk2 246 16) = 0 then
        bd (fX7_nextToken  kk2) fun _ kk14 =>
        some ((), kk14)
      else
        some ((), kk2)) fun J9_1 =>
  if a1 = 0 then
    bd (fX7_bad (1 : Int32) k) fun _ kk26 =>
    J9_1 kk26
  else
    J9_1 k
def fX7_isLetter  (a1 : Int32) (k : Hp) : Option (Int32 × Hp) :=
  if (k 246 16) = 0 then
    if (k 246 14) = (2 : Int32) then
      if (k 246 15) = a1 then
        some ((1 : Int32), k)
      else
        some ((0 : Int32), k)
    else
      some ((0 : Int32), k)
  else
    some ((0 : Int32), k)
def fX7_number  (a1 : Int32) (a2 : Int32) (k : Hp) : Option (Int32 × Hp) :=
  jp (fun  kk2 =>
      jp (fun  kk11 =>
          jp (fun J62_19s0 kk20 =>
              bd (fX7_must (1 : Int32) kk20) fun _ kk31 =>
              some (J62_19s0, kk31)) fun J62_19 =>
          if (kk11 246 16) = 0 then
            J62_19 (kk11 246 15) kk11
          else
            J62_19 a1 kk11) fun J47_10 =>
      if (kk2 246 16) = 0 then
        bd (fX7_in ((kk2 246 15).toInt64) a1.toInt64 a2.toInt64 kk2) fun x46 kk47 =>
        if x46 = 0 then
          bd (fX7_bad (2 : Int32) kk47) fun _ kk58 =>
          J47_10 kk58
        else
          J47_10 kk47
      else
        J47_10 kk2) fun J20_1 =>
  if (k 246 16) = 0 then
    if (k 246 14) = (3 : Int32) then
      J20_1 k
    else
      bd (fX7_bad (1 : Int32) k) fun _ kk73 =>
      J20_1 kk73
  else
    J20_1 k
def fX7_mustSign  (a1 : Int32) (k : Hp) : Option (Unit × Hp) :=
  jp (fun J22_1s0 kk2 =>
      bd (fX7_must J22_1s0 kk2) fun _ kk11 =>
      some ((), kk11)) fun J22_1 =>
  jp (fun  kk20 =>
      J22_1 (0 : Int32) kk20) fun J21_19 =>
  if (k 246 14) = (4 : Int32) then
    if (k 246 15) = a1 then
      J22_1 (1 : Int32) k
    else
      J21_19 k
  else
    J21_19 k
def fX7_begin   (k : Hp) : Option (Unit × Hp) :=
  lk (up2 k 246 12 (0 : Int32)) fun kk3 =>
  lk (up2 kk3 246 16 (0 : Int32)) fun kk9 =>
  bd (fX7_nextToken  kk9) fun _ kk14 =>
  some ((), kk14)
def fX7_failed   (k : Hp) : Option (Int32 × Hp) :=
  jp (fun  kk2 =>
      lk (up2 kk2 246 11 (0 : Int32)) fun kk12 =>
      jp (fun J44_16s0 kk17 =>
          lk (up2 kk17 246 18 J44_16s0) fun kk27 =>
          if (kk27 246 16) ≤ 0 then
            some ((0 : Int32), kk27)
          else
            some ((1 : Int32), kk27)) fun J44_16 =>
      if (kk12 246 16) ≤ 0 then
        J44_16 (kk12 246 18) kk12
      else
        J44_16 (kk12 246 16) kk12) fun J20_1 =>
  if (k 246 16) = 0 then
    if (k 246 14) = (1 : Int32) then
      J20_1 k
    else
      bd (fX7_bad (1 : Int32) k) fun _ kk46 =>
      J20_1 kk46
  else
    J20_1 k
def fX7_fault   (k : Hp) : Option (Int32 × Hp) :=
  lk (up2 k 246 0 (0 : Int32)) fun kk3 =>
  some (kk3 246 18, kk3)
def fX7_kindBy  (a1 : Int32) (k : Hp) : Option (Int32 × Hp) :=
  if a1 = (115 : Int32) then
    some ((1 : Int32), k)
  else
    if a1 = (98 : Int32) then
      some ((2 : Int32), k)
    else
      if a1 = (119 : Int32) then
        some ((3 : Int32), k)
      else
        if a1 = (104 : Int32) then
          some ((4 : Int32), k)
        else
          if a1 = (111 : Int32) then
            some ((5 : Int32), k)
          else
            some ((-1000000 : Int32), k)
def fX7_isSort   (k : Hp) : Option (Int32 × Hp) :=
  if (k 246 16) = 0 then
    if (k 246 14) = (2 : Int32) then
      bd (fX7_kindBy (k 246 15) k) fun x7 kk8 =>
      if x7 = (-1000000 : Int32) then
        some ((0 : Int32), kk8)
      else
        some ((1 : Int32), kk8)
    else
      some ((0 : Int32), k)
  else
    some ((0 : Int32), k)
def fX7_readWind   (k : Hp) : Option (Unit × Hp) :=
  bd (fX7_isLetter (103 : Int32) k) fun x1 kk2 =>
  jp (fun  kk10 =>
      bd (fX7_isLetter (103 : Int32) kk10) fun x18 kk19 =>
      bd (fX7_must x18 kk19) fun _ kk27 =>
      bd (fX7_number (0 : Int32) (4 : Int32) kk27) fun x34 kk35 =>
      bd (fX7_mustSign (59 : Int32) kk35) fun _ kk45 =>
      if (kk45 246 16) = 0 then
        chk (inb (1 : Int32) (lenM 251)) <|
        chk (inb ((8 : Int32) + (kk45 251 (1 : Int32).toNatClampNeg)) (lenM 251)) <|
        lk (up2 kk45 251 ((8 : Int32) + (kk45 251 (1 : Int32).toNatClampNeg)).toNatClampNeg x34) fun kk61 =>
        chk (inb (1 : Int32) (lenM 251)) <|
        chk (inb (1 : Int32) (lenM 251)) <|
        lk (up2 kk61 251 (1 : Int32).toNatClampNeg ((kk61 251 (1 : Int32).toNatClampNeg) + (1 : Int32))) fun kk71 =>
        some ((), kk71)
      else
        some ((), kk45)) fun J25_9 =>
  if x1 = 0 then
    J25_9 kk2
  else
    chk (inb (1 : Int32) (lenM 251)) <|
    if (kk2 251 (1 : Int32).toNatClampNeg) = (6 : Int32) then
      bd (fX7_bad (3 : Int32) kk2) fun _ kk85 =>
      J25_9 kk85
    else
      J25_9 kk2
def fX7_readSheet   (k : Hp) : Option (Unit × Hp) :=
  bd (fX7_kindBy (k 246 15) k) fun x1 kk2 =>
  chk (inb (0 : Int32) (lenM 251)) <|
  jp (fun  kk14 =>
      bd (fX7_must (1 : Int32) kk14) fun _ kk23 =>
      chk (inb (2 : Int32) (lenM 251)) <|
      bd (fX7_number (0 : Int32) ((kk23 251 (2 : Int32).toNatClampNeg) - (1 : Int32)) kk23) fun x32 kk33 =>
      bd (fX7_mustSign (44 : Int32) kk33) fun _ kk43 =>
      bd (fX7_number (1 : Int32) (5 : Int32) kk43) fun x50 kk51 =>
      bd (fX7_mustSign (44 : Int32) kk51) fun _ kk61 =>
      bd (fX7_number (1 : Int32) (9 : Int32) kk61) fun x68 kk69 =>
      bd (fX7_mustSign (59 : Int32) kk69) fun _ kk79 =>
      if (kk79 246 16) = 0 then
        chk (inb (0 : Int32) (lenM 251)) <|
        lk ((14 : Int32) + ((6 : Int32) * (kk79 251 (0 : Int32).toNatClampNeg))) fun x91 =>
        chk (inb x91 (lenM 251)) <|
        lk (up2 kk79 251 x91.toNatClampNeg x1) fun kk99 =>
        chk (inb (x91 + (1 : Int32)) (lenM 251)) <|
        lk (up2 kk99 251 (x91 + (1 : Int32)).toNatClampNeg x32) fun kk107 =>
        chk (inb (x91 + (2 : Int32)) (lenM 251)) <|
        lk (up2 kk107 251 (x91 + (2 : Int32)).toNatClampNeg x50) fun kk115 =>
        chk (inb (x91 + (3 : Int32)) (lenM 251)) <|
        lk (up2 kk115 251 (x91 + (3 : Int32)).toNatClampNeg x68) fun kk123 =>
        chk (inb (x91 + (4 : Int32)) (lenM 251)) <|
        lk (up2 kk123 251 (x91 + (4 : Int32)).toNatClampNeg (0 : Int32)) fun kk131 =>
        chk (inb (x91 + (5 : Int32)) (lenM 251)) <|
        lk (up2 kk131 251 (x91 + (5 : Int32)).toNatClampNeg (1 : Int32)) fun kk139 =>
        chk (inb (0 : Int32) (lenM 251)) <|
        chk (inb (0 : Int32) (lenM 251)) <|
        lk (up2 kk139 251 (0 : Int32).toNatClampNeg ((kk139 251 (0 : Int32).toNatClampNeg) + (1 : Int32))) fun kk149 =>
        some ((), kk149)
      else
        some ((), kk79)) fun J24_13 =>
  if (kk2 251 (0 : Int32).toNatClampNeg) = (6 : Int32) then
    bd (fX7_bad (3 : Int32) kk2) fun _ kk158 =>
    J24_13 kk158
  else
    J24_13 kk2
def fX7_estuary_L11  (K30 : Hp → Option (Int32 × Hp)) : Nat → Int32 → Hp → Option (Int32 × Hp)
  | 0, _, _ => none
  | n + 1, v1, k =>
    if (50 : Int32) ≤ v1 then
      K30 k
    else
      chk (inb v1 (lenM 251)) <|
      lk (up2 k 251 v1.toNatClampNeg (0 : Int32)) fun kk24 =>
      lk (v1 + (1 : Int32)) fun x28 =>
      fX7_estuary_L11 K30 n x28 kk24
def fX7_estuary_L133  (K149 : Hp → Option (Int32 × Hp)) : Nat → Hp → Option (Int32 × Hp)
  | 0, _ => none
  | n + 1, k =>
    bd (fX7_isLetter (103 : Int32) k) fun x164 kk165 =>
    if x164 = 0 then
      K149 kk165
    else
      bd (fX7_readWind  kk165) fun _ kk176 =>
      fX7_estuary_L133 K149 n  kk176
def fX7_estuary_L161  (K175 : Hp → Option (Int32 × Hp)) : Nat → Hp → Option (Int32 × Hp)
  | 0, _ => none
  | n + 1, k =>
    bd (fX7_isSort  k) fun x208 kk209 =>
    if x208 = 0 then
      K175 kk209
    else
      bd (fX7_readSheet  kk209) fun _ kk220 =>
      fX7_estuary_L161 K175 n  kk220
def fX7_estuary_L197   : Nat → Int32 → Hp → Option (Int32 × Hp)
  | 0, _, _ => none
  | n + 1, v1, k =>
    if (50 : Int32) ≤ v1 then
      chk (inb (0 : Int32) (lenM 250)) <|
      some (k 250 (0 : Int32).toNatClampNeg, k)
    else
      chk (inb v1 (lenM 251)) <|
      chk (inb v1 (lenM 250)) <|
      lk (up2 k 250 v1.toNatClampNeg (k 251 v1.toNatClampNeg)) fun kk264 =>
      lk (v1 + (1 : Int32)) fun x268 =>
      fX7_estuary_L197 n x268 kk264
def fX7_estuary   (k : Hp) : Option (Int32 × Hp) :=
  lk (up2 k 246 0 (0 : Int32)) fun kk3 =>
  bd (fX7_begin  kk3) fun _ kk8 =>
  fX7_estuary_L11 (fun  kk32 =>
      bd (fX7_isLetter (101 : Int32) kk32) fun x40 kk41 =>
      bd (fX7_must x40 kk41) fun _ kk49 =>
      bd (fX7_number (6 : Int32) (16 : Int32) kk49) fun x56 kk57 =>
      chk (inb (2 : Int32) (lenM 251)) <|
      lk (up2 kk57 251 (2 : Int32).toNatClampNeg x56) fun kk68 =>
      bd (fX7_mustSign (44 : Int32) kk68) fun _ kk73 =>
      chk (inb (2 : Int32) (lenM 251)) <|
      bd (fX7_number (0 : Int32) ((kk73 251 (2 : Int32).toNatClampNeg) - (1 : Int32)) kk73) fun x82 kk83 =>
      chk (inb (3 : Int32) (lenM 251)) <|
      lk (up2 kk83 251 (3 : Int32).toNatClampNeg x82) fun kk94 =>
      bd (fX7_mustSign (44 : Int32) kk94) fun _ kk99 =>
      chk (inb (2 : Int32) (lenM 251)) <|
      bd (fX7_number (0 : Int32) ((kk99 251 (2 : Int32).toNatClampNeg) - (1 : Int32)) kk99) fun x108 kk109 =>
      chk (inb (4 : Int32) (lenM 251)) <|
      lk (up2 kk109 251 (4 : Int32).toNatClampNeg x108) fun kk120 =>
      bd (fX7_mustSign (44 : Int32) kk120) fun _ kk125 =>
      bd (fX7_number (0 : Int32) (15 : Int32) kk125) fun x132 kk133 =>
      chk (inb (5 : Int32) (lenM 251)) <|
      lk (up2 kk133 251 (5 : Int32).toNatClampNeg x132) fun kk144 =>
      bd (fX7_mustSign (59 : Int32) kk144) fun _ kk149 =>
      bd (fX7_readWind  kk149) fun _ kk157 =>
      fX7_estuary_L133 (fun  kk183 =>
          bd (fX7_isSort  kk183) fun x191 kk192 =>
          jp (fun  kk200 =>
              fX7_estuary_L161 (fun  kk227 =>
                  bd (fX7_failed  kk227) fun x235 kk236 =>
                  if x235 = 0 then
                    lk (up2 kk236 246 9 (0 : Int32)) fun kk247 =>
                    fX7_estuary_L197 4096 (0 : Int32) kk247
                  else
                    some ((-1000100 : Int32) - (kk236 246 17), kk236)) 4096  kk200) fun J161_199 =>
          if x191 = 0 then
            bd (fX7_bad (1 : Int32) kk192) fun _ kk278 =>
            J161_199 kk278
          else
            J161_199 kk192) 4096  kk157) 4096 (0 : Int32) kk8
def fX7_isThere   (k : Hp) : Option (Int32 × Hp) :=
  chk (inb (0 : Int32) (lenM 250)) <|
  if (k 250 (0 : Int32).toNatClampNeg) ≤ 0 then
    some ((0 : Int32), k)
  else
    some ((1 : Int32), k)
def fX7_isSheet  (a1 : Int32) (k : Hp) : Option (Int32 × Hp) :=
  chk (inb (0 : Int32) (lenM 250)) <|
  bd (fX7_in a1.toInt64 (0 : Int64) (((k 250 (0 : Int32).toNatClampNeg) - (1 : Int32)).toInt64) k) fun x3 kk4 =>
  chk (isB x3) <|
  some (x3, kk4)
def fX7_isWind  (a1 : Int32) (k : Hp) : Option (Int32 × Hp) :=
  chk (inb (1 : Int32) (lenM 250)) <|
  bd (fX7_in a1.toInt64 (0 : Int64) (((k 250 (1 : Int32).toNatClampNeg) - (1 : Int32)).toInt64) k) fun x3 kk4 =>
  chk (isB x3) <|
  some (x3, kk4)
def fX7_isCell  (a1 : Int32) (k : Hp) : Option (Int32 × Hp) :=
  chk (inb (2 : Int32) (lenM 250)) <|
  bd (fX7_in a1.toInt64 (0 : Int64) (((k 250 (2 : Int32).toNatClampNeg) - (1 : Int32)).toInt64) k) fun x3 kk4 =>
  chk (isB x3) <|
  some (x3, kk4)
def fX7_bits_L4   : Nat → Int32 → Int32 → Int32 → Hp → Option (Int32 × Hp)
  | 0, _, _, _, _ => none
  | n + 1, v0, v1, v2, k =>
    if (6 : Int32) ≤ v2 then
      some (v1, k)
    else
      lk (v1 + ((shrI v0 v2) &&& (1 : Int32))) fun x8 =>
      lk (v2 + (1 : Int32)) fun x12 =>
      fX7_bits_L4 n v0 x8 x12 k
def fX7_bits  (a1 : Int32) (k : Hp) : Option (Int32 × Hp) :=
  fX7_bits_L4 4096 a1 (0 : Int32) (0 : Int32) k
def fX7_has  (a1 : Int32) (a2 : Int32) (k : Hp) : Option (Int32 × Hp) :=
  if ((shrI a1 a2) &&& (1 : Int32)) = (1 : Int32) then
    some ((1 : Int32), k)
  else
    some ((0 : Int32), k)
def fX7_of  (a1 : Nat) (a2 : Int32) (a3 : Int32) (k : Hp) : Option (Int32 × Hp) :=
  chk (inb (((14 : Int32) + ((6 : Int32) * a2)) + a3) (lenM a1)) <|
  some (k a1 (((14 : Int32) + ((6 : Int32) * a2)) + a3).toNatClampNeg, k)
def fX7_be  (a1 : Nat) (a2 : Int32) (a3 : Int32) (a4 : Int32) (k : Hp) : Option (Unit × Hp) :=
  chk (inb (((14 : Int32) + ((6 : Int32) * a2)) + a3) (lenM a1)) <|
  lk (up2 k a1 (((14 : Int32) + ((6 : Int32) * a2)) + a3).toNatClampNeg a4) fun kk5 =>
  some ((), kk5)
def fX7_isIn  (a1 : Nat) (a2 : Int32) (k : Hp) : Option (Int32 × Hp) :=
  bd (fX7_of a1 a2 (5 : Int32) k) fun x1 kk2 =>
  if x1 = (1 : Int32) then
    some ((1 : Int32), kk2)
  else
    some ((0 : Int32), kk2)
def fX7_windOf  (a1 : Nat) (k : Hp) : Option (Int32 × Hp) :=
  chk (inb (6 : Int32) (lenM a1)) <|
  chk (inb (1 : Int32) (lenM a1)) <|
  chk (nz (k a1 (1 : Int32).toNatClampNeg)) <|
  chk (inb ((8 : Int32) + (irm (k a1 (6 : Int32).toNatClampNeg) (k a1 (1 : Int32).toNatClampNeg))) (lenM a1)) <|
  some (k a1 ((8 : Int32) + (irm (k a1 (6 : Int32).toNatClampNeg) (k a1 (1 : Int32).toNatClampNeg))).toNatClampNeg, k)
def fX7_cellsOf_L5   : Nat → Nat → Int32 → Int32 → Int32 → Int32 → Hp → Option (Int32 × Hp)
  | 0, _, _, _, _, _, _ => none
  | n + 1, v0, v1, v2, v3, v4, k =>
    chk (inb (2 : Int32) (lenM v0)) <|
    if (k v0 (2 : Int32).toNatClampNeg) ≤ v4 then
      some (v3, k)
    else
      jp (fun J36_10s0 kk11 =>
          lk (v3 ||| J36_10s0) fun x19 =>
          lk (v4 + (1 : Int32)) fun x23 =>
          fX7_cellsOf_L5 n v0 v1 v2 x19 x23 kk11) fun J36_10 =>
      jp (fun  kk29 =>
          J36_10 (0 : Int32) kk29) fun J35_28 =>
      if v4 < v1 then
        J35_28 k
      else
        if (v1 + v2) ≤ v4 then
          J35_28 k
        else
          J36_10 (shlI (1 : Int32) v4) k
def fX7_cellsOf  (a1 : Nat) (a2 : Int32) (a3 : Int32) (k : Hp) : Option (Int32 × Hp) :=
  fX7_cellsOf_L5 4096 a1 a2 a3 (0 : Int32) (0 : Int32) k
def fX7_liesOn  (a1 : Nat) (a2 : Int32) (k : Hp) : Option (Int32 × Hp) :=
  bd (fX7_isIn a1 a2 k) fun x1 kk2 =>
  if x1 = 0 then
    some ((0 : Int32), kk2)
  else
    bd (fX7_of a1 a2 (1 : Int32) kk2) fun x12 kk13 =>
    bd (fX7_of a1 a2 (2 : Int32) kk13) fun x20 kk21 =>
    bd (fX7_cellsOf a1 x12 x20 kk21) fun x28 kk29 =>
    some (x28, kk29)
def fX7_drift  (a1 : Nat) (a2 : Int32) (a3 : Int32) (k : Hp) : Option (Unit × Hp) :=
  chk (inb (6 : Int32) (lenM a1)) <|
  jp (fun J15_3s0 kk4 =>
      bd (fX7_of a1 a2 (1 : Int32) kk4) fun x14 kk15 =>
      bd (fX7_of a1 a2 (3 : Int32) kk15) fun x24 kk25 =>
      jp (fun J41_34s0 kk35 =>
          bd (fX7_of a1 a2 (0 : Int32) kk35) fun x45 kk46 =>
          jp (fun J153_53v4 J153_53v6 kk54 =>
              lk (x24 - J153_53v6) fun x62 =>
              jp (fun  kk67 =>
                  bd (fX7_be a1 a2 (5 : Int32) (0 : Int32) kk67) fun _ kk76 =>
                  some ((), kk76)) fun J180_66 =>
              if x62 ≤ 0 then
                J180_66 kk54
              else
                bd (fX7_of a1 a2 (2 : Int32) kk54) fun x87 kk88 =>
                bd (fX7_cellsOf a1 J153_53v4 x87 kk88) fun x95 kk96 =>
                if x95 = 0 then
                  J180_66 kk96
                else
                  bd (fX7_be a1 a2 (1 : Int32) J153_53v4 kk96) fun _ kk106 =>
                  bd (fX7_be a1 a2 (3 : Int32) x62 kk106) fun _ kk114 =>
                  some ((), kk114)) fun J153_53 =>
          if x45 = (1 : Int32) then
            lk (x14 + a3) fun x126 =>
            J153_53 x126 J41_34s0 kk46
          else
          if x45 = (2 : Int32) then
            lk (x14 + (a3 / (2 : Int32))) fun x133 =>
            J153_53 x133 J41_34s0 kk46
          else
          if x45 = (3 : Int32) then
            lk (x14 + ((2 : Int32) * a3)) fun x140 =>
            lk (J41_34s0 + (1 : Int32)) fun x144 =>
            J153_53 x140 x144 kk46
          else
          if x45 = (4 : Int32) then
            lk (x14 + (-1 : Int32)) fun x151 =>
            jp (fun J126_155s0 kk156 =>
                J153_53 x151 J126_155s0 kk156) fun J126_155 =>
            if a3 = 0 then
              J126_155 (0 : Int32) kk46
            else
              J126_155 (1 : Int32) kk46
          else
          jp (fun J151_170s0 kk171 =>
              J153_53 x14 J151_170s0 kk171) fun J151_170 =>
          if a3 = 0 then
            if (9 : Int32) ≤ x24 then
              J151_170 (0 : Int32) kk46
            else
              J151_170 (-1 : Int32) kk46
          else
            J151_170 (1 : Int32) kk46) fun J41_34 =>
      if J15_3s0 = 0 then
        J41_34 (0 : Int32) kk25
      else
        J41_34 (1 : Int32) kk25) fun J15_3 =>
  if (irm (k a1 (6 : Int32).toNatClampNeg) (2 : Int32)) = (1 : Int32) then
    J15_3 (1 : Int32) k
  else
    J15_3 (0 : Int32) k
def fX7_hourOf_L9  (K36 : Hp → Option (Unit × Hp)) : Nat → Nat → Int32 → Int32 → Hp → Option (Unit × Hp)
  | 0, _, _, _, _ => none
  | n + 1, v0, v1, v2, k =>
    chk (inb (0 : Int32) (lenM v0)) <|
    if (k v0 (0 : Int32).toNatClampNeg) ≤ v2 then
      K36 k
    else
      bd (fX7_isIn v0 v2 k) fun x20 kk21 =>
      jp (fun  kk29 =>
          lk (v2 + (1 : Int32)) fun x37 =>
          fX7_hourOf_L9 K36 n v0 v1 x37 kk29) fun J30_28 =>
      if x20 = 0 then
        J30_28 kk21
      else
        bd (fX7_drift v0 v2 v1 kk21) fun _ kk46 =>
        J30_28 kk46
def fX7_hourOf_L38  (K107 : Hp → Option (Unit × Hp)) : Nat → Nat → Int32 → Hp → Option (Unit × Hp)
  | 0, _, _, _ => none
  | n + 1, v0, v2, k =>
    chk (inb (0 : Int32) (lenM v0)) <|
    if (k v0 (0 : Int32).toNatClampNeg) ≤ v2 then
      K107 k
    else
      chk (inb (5 : Int32) (lenM v0)) <|
      chk (inb (6 : Int32) (lenM v0)) <|
      bd (fX7_has (k v0 (5 : Int32).toNatClampNeg) (irm (k v0 (6 : Int32).toNatClampNeg) (4 : Int32)) k) fun x72 kk73 =>
      if x72 = 0 then
        K107 kk73
      else
        bd (fX7_liesOn v0 v2 kk73) fun x83 kk84 =>
        chk (inb (3 : Int32) (lenM v0)) <|
        bd (fX7_has x83 (kk84 v0 (3 : Int32).toNatClampNeg) kk84) fun x93 kk94 =>
        jp (fun  kk102 =>
            lk (v2 + (1 : Int32)) fun x110 =>
            fX7_hourOf_L38 K107 n v0 x110 kk102) fun J101_101 =>
        if x93 = 0 then
          J101_101 kk94
        else
          bd (fX7_of v0 v2 (4 : Int32) kk94) fun x118 kk119 =>
          if x118 = 0 then
            chk (inb (7 : Int32) (lenM v0)) <|
            chk (inb (7 : Int32) (lenM v0)) <|
            lk (up2 kk119 v0 (7 : Int32).toNatClampNeg ((kk119 v0 (7 : Int32).toNatClampNeg) + (1 : Int32))) fun kk135 =>
            chk (inb (7 : Int32) (lenM v0)) <|
            bd (fX7_be v0 v2 (4 : Int32) (kk135 v0 (7 : Int32).toNatClampNeg) kk135) fun _ kk142 =>
            J101_101 kk142
          else
            J101_101 kk119
def fX7_hourOf  (a1 : Nat) (k : Hp) : Option (Unit × Hp) :=
  bd (fX7_windOf a1 k) fun x1 kk2 =>
  lk (x1 - (2 : Int32)) fun x9 =>
  fX7_hourOf_L9 (fun  kk53 =>
      fX7_hourOf_L38 (fun  kk149 =>
          chk (inb (6 : Int32) (lenM a1)) <|
          chk (inb (6 : Int32) (lenM a1)) <|
          lk (up2 kk149 a1 (6 : Int32).toNatClampNeg ((kk149 a1 (6 : Int32).toNatClampNeg) + (1 : Int32))) fun kk163 =>
          some ((), kk163)) 4096 a1 (0 : Int32) kk53) 4096 a1 x9 (0 : Int32) kk2
def fX7_hoursOf_L2   : Nat → Nat → Int32 → Int32 → Hp → Option (Unit × Hp)
  | 0, _, _, _, _ => none
  | n + 1, v0, v1, v2, k =>
    if v1 ≤ v2 then
      some ((), k)
    else
      bd (fX7_hourOf v0 k) fun _ kk7 =>
      lk (v2 + (1 : Int32)) fun x14 =>
      fX7_hoursOf_L2 n v0 v1 x14 kk7
def fX7_hoursOf  (a1 : Nat) (a2 : Int32) (k : Hp) : Option (Unit × Hp) :=
  fX7_hoursOf_L2 4096 a1 a2 (0 : Int32) k
def fX7_overOf_L4   : Nat → Nat → Int32 → Int32 → Int32 → Hp → Option (Int32 × Hp)
  | 0, _, _, _, _, _ => none
  | n + 1, v0, v1, v2, v3, k =>
    chk (inb (0 : Int32) (lenM v0)) <|
    if (k v0 (0 : Int32).toNatClampNeg) ≤ v3 then
      some (v2, k)
    else
      bd (fX7_liesOn v0 v3 k) fun x10 kk11 =>
      bd (fX7_has x10 v1 kk11) fun x18 kk19 =>
      jp (fun J34_26s0 kk27 =>
          lk (v2 + J34_26s0) fun x35 =>
          lk (v3 + (1 : Int32)) fun x39 =>
          fX7_overOf_L4 n v0 v1 x35 x39 kk27) fun J34_26 =>
      if x18 = 0 then
        J34_26 (0 : Int32) kk19
      else
        bd (fX7_of v0 v3 (3 : Int32) kk19) fun x47 kk48 =>
        J34_26 x47 kk48
def fX7_overOf  (a1 : Nat) (a2 : Int32) (k : Hp) : Option (Int32 × Hp) :=
  fX7_overOf_L4 4096 a1 a2 (0 : Int32) (0 : Int32) k
def fX7_ins_L4   : Nat → Nat → Int32 → Int32 → Hp → Option (Int32 × Hp)
  | 0, _, _, _, _ => none
  | n + 1, v0, v1, v2, k =>
    chk (inb (0 : Int32) (lenM v0)) <|
    if (k v0 (0 : Int32).toNatClampNeg) ≤ v2 then
      some (v1, k)
    else
      bd (fX7_isIn v0 v2 k) fun x10 kk11 =>
      jp (fun J27_18s0 kk19 =>
          lk (v1 ||| J27_18s0) fun x27 =>
          lk (v2 + (1 : Int32)) fun x31 =>
          fX7_ins_L4 n v0 x27 x31 kk19) fun J27_18 =>
      if x10 = 0 then
        J27_18 (0 : Int32) kk11
      else
        J27_18 (shlI (1 : Int32) v2) kk11
def fX7_ins  (a1 : Nat) (k : Hp) : Option (Int32 × Hp) :=
  fX7_ins_L4 4096 a1 (0 : Int32) (0 : Int32) k
def fX7_numbered_L4   : Nat → Nat → Int32 → Int32 → Hp → Option (Int32 × Hp)
  | 0, _, _, _, _ => none
  | n + 1, v0, v1, v2, k =>
    chk (inb (0 : Int32) (lenM v0)) <|
    if (k v0 (0 : Int32).toNatClampNeg) ≤ v2 then
      some (v1, k)
    else
      bd (fX7_of v0 v2 (4 : Int32) k) fun x10 kk11 =>
      jp (fun J28_18s0 kk19 =>
          lk (v1 ||| J28_18s0) fun x27 =>
          lk (v2 + (1 : Int32)) fun x31 =>
          fX7_numbered_L4 n v0 x27 x31 kk19) fun J28_18 =>
      if x10 ≤ 0 then
        J28_18 (0 : Int32) kk11
      else
        J28_18 (shlI (1 : Int32) v2) kk11
def fX7_numbered  (a1 : Nat) (k : Hp) : Option (Int32 × Hp) :=
  fX7_numbered_L4 4096 a1 (0 : Int32) (0 : Int32) k
def fX7_letIn  (a1 : Nat) (a2 : Int32) (a3 : Int32) (a4 : Int32) (k : Hp) : Option (Unit × Hp) :=
  bd (fX7_be a1 a2 (1 : Int32) a3 k) fun _ kk2 =>
  bd (fX7_be a1 a2 (3 : Int32) a4 kk2) fun _ kk10 =>
  bd (fX7_be a1 a2 (5 : Int32) (1 : Int32) kk10) fun _ kk18 =>
  some ((), kk18)
def fX7_layThen_L2   : Nat → Int32 → Hp → Option (Unit × Hp)
  | 0, _, _ => none
  | n + 1, v1, k =>
    if (50 : Int32) ≤ v1 then
      some ((), k)
    else
      chk (inb v1 (lenM 250)) <|
      chk (inb v1 (lenM 252)) <|
      lk (up2 k 252 v1.toNatClampNeg (k 250 v1.toNatClampNeg)) fun kk12 =>
      lk (v1 + (1 : Int32)) fun x16 =>
      fX7_layThen_L2 n x16 kk12
def fX7_layThen   (k : Hp) : Option (Unit × Hp) :=
  fX7_layThen_L2 4096 (0 : Int32) k
def fX7_keep_L51  (K83 : Hp → Option (Unit × Hp)) : Nat → Int32 → Hp → Option (Unit × Hp)
  | 0, _, _ => none
  | n + 1, v1, k =>
    if (50 : Int32) ≤ v1 then
      K83 k
    else
      chk (inb v1 (lenM 250)) <|
      chk (inb (((50 : Int32) * (k 246 9)) + v1) (lenM 253)) <|
      lk (up2 k 253 (((50 : Int32) * (k 246 9)) + v1).toNatClampNeg (k 250 v1.toNatClampNeg)) fun kk21 =>
      lk (v1 + (1 : Int32)) fun x25 =>
      fX7_keep_L51 K83 n x25 kk21
def fX7_keep_L11  (K39 : Hp → Option (Unit × Hp)) : Nat → Int32 → Hp → Option (Unit × Hp)
  | 0, _, _ => none
  | n + 1, v1, k =>
    if (1150 : Int32) ≤ v1 then
      K39 k
    else
      chk (inb (v1 + (50 : Int32)) (lenM 253)) <|
      chk (inb v1 (lenM 253)) <|
      lk (up2 k 253 v1.toNatClampNeg (k 253 (v1 + (50 : Int32)).toNatClampNeg)) fun kk58 =>
      lk (v1 + (1 : Int32)) fun x62 =>
      fX7_keep_L11 K39 n x62 kk58
def fX7_keep   (k : Hp) : Option (Unit × Hp) :=
  jp (fun  kk2 =>
      fX7_keep_L51 (fun  kk29 =>
          lk (up2 kk29 246 9 ((kk29 246 9) + (1 : Int32))) fun kk39 =>
          some ((), kk39)) 4096 (0 : Int32) kk2) fun J49_1 =>
  if (k 246 9) = (24 : Int32) then
    fX7_keep_L11 (fun  kk66 =>
        lk (up2 kk66 246 9 ((kk66 246 9) - (1 : Int32))) fun kk76 =>
        J49_1 kk76) 4096 (0 : Int32) k
  else
    J49_1 k
def fX7_hours_L50  (K72 : Hp → Option (Int32 × Hp)) : Nat → Int32 → Int32 → Hp → Option (Int32 × Hp)
  | 0, _, _, _ => none
  | n + 1, v1, v2, k =>
    if v1 ≤ v2 then
      K72 k
    else
      bd (fX7_keep  k) fun _ kk37 =>
      bd (fX7_hourOf 250 kk37) fun _ kk45 =>
      lk (v2 + (1 : Int32)) fun x52 =>
      fX7_hours_L50 K72 n v1 x52 kk45
def fX7_hours  (a1 : Int32) (k : Hp) : Option (Int32 × Hp) :=
  lk (up2 k 246 0 (0 : Int32)) fun kk3 =>
  bd (fX7_isThere  kk3) fun x7 kk8 =>
  if x7 = 0 then
    some ((-1000002 : Int32), kk8)
  else
    bd (fX7_in a1.toInt64 (1 : Int64) (24 : Int64) kk8) fun x17 kk18 =>
    if x17 = 0 then
      some ((-1000001 : Int32), kk18)
    else
      chk (inb (6 : Int32) (lenM 250)) <|
      if ((kk18 250 (6 : Int32).toNatClampNeg) + a1) ≤ (999 : Int32) then
        fX7_hours_L50 (fun  kk56 =>
            bd (fX7_numbered 250 kk56) fun x64 kk65 =>
            bd (fX7_bits x64 kk65) fun x72 kk73 =>
            some (x72, kk73)) 4096 a1 (0 : Int32) kk18
      else
        some ((-1000003 : Int32), kk18)
def fX7_step  (a1 : Int32) (k : Hp) : Option (Int32 × Hp) :=
  lk (up2 k 246 0 (0 : Int32)) fun kk3 =>
  bd (fX7_isThere  kk3) fun x7 kk8 =>
  if x7 = 0 then
    some ((-1000002 : Int32), kk8)
  else
    bd (fX7_in a1.toInt64 (0 : Int64) (1 : Int64) kk8) fun x17 kk18 =>
    if x17 = 0 then
      some ((-1000001 : Int32), kk18)
    else
      chk (inb (4 : Int32) (lenM 250)) <|
      jp (fun J43_29s0 kk30 =>
          lk ((kk18 250 (4 : Int32).toNatClampNeg) + J43_29s0) fun x38 =>
          bd (fX7_isCell x38 kk30) fun x42 kk43 =>
          if x42 = 0 then
            some ((-1000002 : Int32), kk43)
          else
            bd (fX7_keep  kk43) fun _ kk53 =>
            chk (inb (4 : Int32) (lenM 250)) <|
            lk (up2 kk53 250 (4 : Int32).toNatClampNeg x38) fun kk64 =>
            some (x38, kk64)) fun J43_29 =>
      if a1 = 0 then
        J43_29 (-1 : Int32) kk18
      else
        J43_29 (1 : Int32) kk18
def fX7_wind  (a1 : Int32) (a2 : Int32) (k : Hp) : Option (Int32 × Hp) :=
  lk (up2 k 246 0 (0 : Int32)) fun kk3 =>
  bd (fX7_isWind a1 kk3) fun x7 kk8 =>
  if x7 = 0 then
    some ((-1000001 : Int32), kk8)
  else
    bd (fX7_in a2.toInt64 (0 : Int64) (4 : Int64) kk8) fun x18 kk19 =>
    if x18 = 0 then
      some ((-1000001 : Int32), kk19)
    else
      bd (fX7_keep  kk19) fun _ kk29 =>
      chk (inb ((8 : Int32) + a1) (lenM 250)) <|
      lk (kk29 250 ((8 : Int32) + a1).toNatClampNeg) fun x38 =>
      chk (inb ((8 : Int32) + a1) (lenM 250)) <|
      lk (up2 kk29 250 ((8 : Int32) + a1).toNatClampNeg a2) fun kk46 =>
      some (x38, kk46)
def fX7_wake  (a1 : Int32) (k : Hp) : Option (Int32 × Hp) :=
  lk (up2 k 246 0 (0 : Int32)) fun kk3 =>
  bd (fX7_isThere  kk3) fun x7 kk8 =>
  if x7 = 0 then
    some ((-1000002 : Int32), kk8)
  else
    bd (fX7_in a1.toInt64 (0 : Int64) (15 : Int64) kk8) fun x17 kk18 =>
    if x17 = 0 then
      some ((-1000001 : Int32), kk18)
    else
      bd (fX7_keep  kk18) fun _ kk28 =>
      chk (inb (5 : Int32) (lenM 250)) <|
      lk (kk28 250 (5 : Int32).toNatClampNeg) fun x37 =>
      chk (inb (5 : Int32) (lenM 250)) <|
      lk (up2 kk28 250 (5 : Int32).toNatClampNeg a1) fun kk45 =>
      some (x37, kk45)
def fX7_let  (a1 : Int32) (a2 : Int32) (a3 : Int32) (k : Hp) : Option (Int32 × Hp) :=
  lk (up2 k 246 0 (0 : Int32)) fun kk3 =>
  bd (fX7_isSheet a1 kk3) fun x7 kk8 =>
  if x7 = 0 then
    some ((-1000001 : Int32), kk8)
  else
    bd (fX7_isCell a2 kk8) fun x18 kk19 =>
    if x18 = 0 then
      some ((-1000001 : Int32), kk19)
    else
      bd (fX7_in a3.toInt64 (1 : Int64) (9 : Int64) kk19) fun x29 kk30 =>
      if x29 = 0 then
        some ((-1000001 : Int32), kk30)
      else
        bd (fX7_isIn 250 a1 kk30) fun x39 kk40 =>
        if x39 = 0 then
          bd (fX7_keep  kk40) fun _ kk50 =>
          bd (fX7_letIn 250 a1 a2 a3 kk50) fun _ kk58 =>
          bd (fX7_ins 250 kk58) fun x65 kk66 =>
          some (x65, kk66)
        else
          some ((-1000002 : Int32), kk40)
def fX7_undo_L27   : Nat → Int32 → Hp → Option (Int32 × Hp)
  | 0, _, _ => none
  | n + 1, v1, k =>
    if (50 : Int32) ≤ v1 then
      some (k 246 9, k)
    else
      chk (inb (((50 : Int32) * (k 246 9)) + v1) (lenM 253)) <|
      chk (inb v1 (lenM 250)) <|
      lk (up2 k 250 v1.toNatClampNeg (k 253 (((50 : Int32) * (k 246 9)) + v1).toNatClampNeg)) fun kk26 =>
      lk (v1 + (1 : Int32)) fun x30 =>
      fX7_undo_L27 n x30 kk26
def fX7_undo   (k : Hp) : Option (Int32 × Hp) :=
  lk (up2 k 246 0 (0 : Int32)) fun kk3 =>
  if (kk3 246 9) = 0 then
    some ((-1000002 : Int32), kk3)
  else
    lk (up2 kk3 246 9 ((kk3 246 9) - (1 : Int32))) fun kk11 =>
    fX7_undo_L27 4096 (0 : Int32) kk11
def fX7_told  (a1 : Nat) (a2 : Int32) (a3 : Int32) (k : Hp) : Option (Int32 × Hp) :=
  if a3 = (0 : Int32) then
    bd (fX7_isIn a1 a2 k) fun x4 kk5 =>
    if x4 = 0 then
      some ((-1000000 : Int32), kk5)
    else
      bd (fX7_of a1 a2 (1 : Int32) kk5) fun x15 kk16 =>
      some (x15, kk16)
  else
  if a3 = (1 : Int32) then
    bd (fX7_isIn a1 a2 k) fun x26 kk27 =>
    if x26 = 0 then
      some ((0 : Int32), kk27)
    else
      bd (fX7_of a1 a2 (3 : Int32) kk27) fun x37 kk38 =>
      some (x37, kk38)
  else
  bd (fX7_of a1 a2 (4 : Int32) k) fun x45 kk46 =>
  some (x45, kk46)
def fX7_sheet  (a1 : Int32) (a2 : Int32) (k : Hp) : Option (Int32 × Hp) :=
  lk (up2 k 246 0 (0 : Int32)) fun kk3 =>
  bd (fX7_isSheet a1 kk3) fun x7 kk8 =>
  if x7 = 0 then
    some ((-1000001 : Int32), kk8)
  else
    if a2 = (0 : Int32) then
      bd (fX7_told 250 a1 (0 : Int32) kk8) fun x20 kk21 =>
      some (x20, kk21)
    else
    if a2 = (1 : Int32) then
      bd (fX7_of 250 a1 (2 : Int32) kk8) fun x31 kk32 =>
      some (x31, kk32)
    else
    if a2 = (2 : Int32) then
      bd (fX7_told 250 a1 (a2 - (1 : Int32)) kk8) fun x42 kk43 =>
      some (x42, kk43)
    else
    if a2 = (3 : Int32) then
      bd (fX7_told 250 a1 (a2 - (1 : Int32)) kk8) fun x53 kk54 =>
      some (x53, kk54)
    else
    if a2 = (4 : Int32) then
      bd (fX7_liesOn 250 a1 kk8) fun x64 kk65 =>
      some (x64, kk65)
    else
    some ((-1000001 : Int32), kk8)
def fX7_cell_L33  (K77 : Int32 → Hp → Option (Int32 × Hp)) : Nat → Int32 → Int32 → Int32 → Int32 → Hp → Option (Int32 × Hp)
  | 0, _, _, _, _, _ => none
  | n + 1, v1, v2, v3, v4, k =>
    chk (inb (0 : Int32) (lenM 250)) <|
    if (k 250 (0 : Int32).toNatClampNeg) ≤ v4 then
      K77 v3 k
    else
      bd (fX7_liesOn 250 v4 k) fun x37 kk38 =>
      bd (fX7_has x37 v1 kk38) fun x45 kk46 =>
      jp (fun J69_53s0 kk54 =>
          lk (v3 ||| J69_53s0) fun x62 =>
          lk (v4 + (1 : Int32)) fun x66 =>
          fX7_cell_L33 K77 n v1 v2 x62 x66 kk54) fun J69_53 =>
      if x45 = 0 then
        J69_53 (0 : Int32) kk46
      else
        J69_53 (shlI (1 : Int32) v4) kk46
def fX7_cell  (a1 : Int32) (a2 : Int32) (k : Hp) : Option (Int32 × Hp) :=
  lk (up2 k 246 0 (0 : Int32)) fun kk3 =>
  bd (fX7_isCell a1 kk3) fun x7 kk8 =>
  if x7 = 0 then
    some ((-1000001 : Int32), kk8)
  else
    bd (fX7_in a2.toInt64 (0 : Int64) (2 : Int64) kk8) fun x18 kk19 =>
    if x18 = 0 then
      some ((-1000001 : Int32), kk19)
    else
      fX7_cell_L33 (fun x74 kk75 =>
          if a2 = 0 then
            bd (fX7_overOf 250 a1 kk75) fun x94 kk95 =>
            some (x94, kk95)
          else
            if a2 = (1 : Int32) then
              some (x74, kk75)
            else
              chk (inb (4 : Int32) (lenM 250)) <|
              if (kk75 250 (4 : Int32).toNatClampNeg) = a1 then
                some ((1 : Int32), kk75)
              else
                some ((0 : Int32), kk75)) 4096 a1 a2 (0 : Int32) (0 : Int32) kk19
def fX7_stand  (a1 : Int32) (k : Hp) : Option (Int32 × Hp) :=
  lk (up2 k 246 0 (0 : Int32)) fun kk3 =>
  bd (fX7_isThere  kk3) fun x7 kk8 =>
  if x7 = 0 then
    some ((-1000002 : Int32), kk8)
  else
    if a1 = (0 : Int32) then
      chk (inb ((2 : Int32) + a1) (lenM 250)) <|
      some (kk8 250 ((2 : Int32) + a1).toNatClampNeg, kk8)
    else
    if a1 = (1 : Int32) then
      chk (inb ((2 : Int32) + a1) (lenM 250)) <|
      some (kk8 250 ((2 : Int32) + a1).toNatClampNeg, kk8)
    else
    if a1 = (2 : Int32) then
      chk (inb ((2 : Int32) + a1) (lenM 250)) <|
      some (kk8 250 ((2 : Int32) + a1).toNatClampNeg, kk8)
    else
    if a1 = (3 : Int32) then
      chk (inb ((2 : Int32) + a1) (lenM 250)) <|
      some (kk8 250 ((2 : Int32) + a1).toNatClampNeg, kk8)
    else
    if a1 = (4 : Int32) then
      bd (fX7_ins 250 kk8) fun x40 kk41 =>
      some (x40, kk41)
    else
    if a1 = (5 : Int32) then
      bd (fX7_numbered 250 kk8) fun x51 kk52 =>
      some (x51, kk52)
    else
    if a1 = (6 : Int32) then
      chk (inb (7 : Int32) (lenM 250)) <|
      some ((kk8 250 (7 : Int32).toNatClampNeg) + (1 : Int32), kk8)
    else
    if a1 = (7 : Int32) then
      bd (fX7_windOf 250 kk8) fun x67 kk68 =>
      some (x67, kk68)
    else
    some ((-1000001 : Int32), kk8)
def fX7_ahead  (a1 : Int32) (a2 : Int32) (a3 : Int32) (k : Hp) : Option (Int32 × Hp) :=
  lk (up2 k 246 0 (0 : Int32)) fun kk3 =>
  bd (fX7_isSheet a1 kk3) fun x7 kk8 =>
  if x7 = 0 then
    some ((-1000001 : Int32), kk8)
  else
    bd (fX7_in a2.toInt64 (0 : Int64) (60 : Int64) kk8) fun x18 kk19 =>
    if x18 = 0 then
      some ((-1000001 : Int32), kk19)
    else
      bd (fX7_in a3.toInt64 (0 : Int64) (2 : Int64) kk19) fun x29 kk30 =>
      if x29 = 0 then
        some ((-1000001 : Int32), kk30)
      else
        bd (fX7_layThen  kk30) fun _ kk40 =>
        bd (fX7_hoursOf 252 a2 kk40) fun _ kk48 =>
        bd (fX7_told 252 a1 a3 kk48) fun x55 kk56 =>
        some (x55, kk56)
def fX7_over  (a1 : Int32) (a2 : Int32) (k : Hp) : Option (Int32 × Hp) :=
  lk (up2 k 246 0 (0 : Int32)) fun kk3 =>
  bd (fX7_isCell a1 kk3) fun x7 kk8 =>
  if x7 = 0 then
    some ((-1000001 : Int32), kk8)
  else
    bd (fX7_in a2.toInt64 (0 : Int64) (60 : Int64) kk8) fun x18 kk19 =>
    if x18 = 0 then
      some ((-1000001 : Int32), kk19)
    else
      bd (fX7_layThen  kk19) fun _ kk29 =>
      bd (fX7_hoursOf 252 a2 kk29) fun _ kk37 =>
      bd (fX7_overOf 252 a1 kk37) fun x44 kk45 =>
      some (x44, kk45)
def fX7_when_L32   : Nat → Int32 → Int32 → Int32 → Hp → Option (Int32 × Hp)
  | 0, _, _, _, _ => none
  | n + 1, v1, v2, v3, k =>
    if (60 : Int32) < v3 then
      some ((-1000000 : Int32), k)
    else
      jp (fun  kk42 =>
          bd (fX7_hourOf 252 kk42) fun _ kk51 =>
          lk (v3 + (1 : Int32)) fun x58 =>
          fX7_when_L32 n v1 v2 x58 kk51) fun J70_41 =>
      if v2 = 0 then
        bd (fX7_isIn 252 v1 k) fun x77 kk78 =>
        if x77 = 0 then
          some (v3, kk78)
        else
          J70_41 kk78
      else
        bd (fX7_of 252 v1 (4 : Int32) k) fun x65 kk66 =>
        if x65 ≤ 0 then
          J70_41 kk66
        else
          some (v3, kk66)
def fX7_when  (a1 : Int32) (a2 : Int32) (k : Hp) : Option (Int32 × Hp) :=
  lk (up2 k 246 0 (0 : Int32)) fun kk3 =>
  bd (fX7_isSheet a1 kk3) fun x7 kk8 =>
  if x7 = 0 then
    some ((-1000001 : Int32), kk8)
  else
    bd (fX7_in a2.toInt64 (0 : Int64) (1 : Int64) kk8) fun x18 kk19 =>
    if x18 = 0 then
      some ((-1000001 : Int32), kk19)
    else
      bd (fX7_layThen  kk19) fun _ kk29 =>
      fX7_when_L32 4096 a1 a2 (0 : Int32) kk29
def fX7_overlap_L57  (K111 : Hp → Option (Int32 × Hp)) (K89 : Int32 → Int32 → Int32 → Hp → Option (Int32 × Hp)) : Nat → Int32 → Int32 → Int32 → Int32 → Hp → Option (Int32 × Hp)
  | 0, _, _, _, _, _ => none
  | n + 1, v1, v2, v3, v4, k =>
    chk (inb (0 : Int32) (lenM 250)) <|
    if (k 250 (0 : Int32).toNatClampNeg) ≤ v4 then
      K111 k
    else
      bd (fX7_liesOn 252 v3 k) fun x56 kk57 =>
      bd (fX7_liesOn 252 v4 kk57) fun x64 kk65 =>
      if (x56 &&& x64) = 0 then
        lk (v4 + (1 : Int32)) fun x74 =>
        fX7_overlap_L57 K111 K89 n v1 v2 v3 x74 kk65
      else
        K89 v2 v3 v4 kk65
def fX7_overlap_L42  (K117 : Hp → Option (Int32 × Hp)) (K89 : Int32 → Int32 → Int32 → Hp → Option (Int32 × Hp)) : Nat → Int32 → Int32 → Int32 → Hp → Option (Int32 × Hp)
  | 0, _, _, _, _ => none
  | n + 1, v1, v2, v3, k =>
    chk (inb (0 : Int32) (lenM 250)) <|
    if (k 250 (0 : Int32).toNatClampNeg) ≤ v3 then
      K117 k
    else
      lk (v3 + (1 : Int32)) fun x47 =>
      fX7_overlap_L57 (fun  kk79 =>
          lk (v3 + (1 : Int32)) fun x87 =>
          fX7_overlap_L42 K117 K89 n v1 v2 x87 kk79) (fun u0 u1 u2 uh => K89 u0 u1 u2 uh) 4096 v1 v2 v3 x47 k
def fX7_overlap_L34  (K89 : Int32 → Int32 → Int32 → Hp → Option (Int32 × Hp)) : Nat → Int32 → Int32 → Hp → Option (Int32 × Hp)
  | 0, _, _, _ => none
  | n + 1, v1, v2, k =>
    if (60 : Int32) < v2 then
      some ((-1000000 : Int32), k)
    else
      fX7_overlap_L42 (fun  kk91 =>
          bd (fX7_hourOf 252 kk91) fun _ kk100 =>
          lk (v2 + (1 : Int32)) fun x107 =>
          fX7_overlap_L34 K89 n v1 x107 kk100) (fun u0 u1 u2 uh => K89 u0 u1 u2 uh) 4096 v1 v2 (0 : Int32) k
def fX7_overlap  (a1 : Int32) (k : Hp) : Option (Int32 × Hp) :=
  lk (up2 k 246 0 (0 : Int32)) fun kk3 =>
  bd (fX7_isThere  kk3) fun x7 kk8 =>
  if x7 = 0 then
    some ((-1000002 : Int32), kk8)
  else
    bd (fX7_in a1.toInt64 (0 : Int64) (1 : Int64) kk8) fun x17 kk18 =>
    if x17 = 0 then
      some ((-1000001 : Int32), kk18)
    else
      bd (fX7_layThen  kk18) fun _ kk28 =>
      fX7_overlap_L34 (fun x111 x112 x113 kk114 =>
          if a1 = 0 then
            some (x111, kk114)
          else
            some (((10 : Int32) * x112) + x113, kk114)) 4096 a1 (0 : Int32) kk28
def fX7_walk_L56  (K94 : Hp → Option (Int32 × Hp)) : Nat → Int32 → Int32 → Int32 → Int32 → Hp → Option (Int32 × Hp)
  | 0, _, _, _, _, _ => none
  | n + 1, v1, v2, v3, v4, k =>
    chk (inb (2 : Int32) (lenM 250)) <|
    if (k 250 (2 : Int32).toNatClampNeg) ≤ v4 then
      K94 k
    else
      bd (fX7_overOf 252 v4 k) fun x58 kk59 =>
      chk (inb (((16 : Int32) * v3) + v4) (lenM 255)) <|
      lk (up2 kk59 255 (((16 : Int32) * v3) + v4).toNatClampNeg x58) fun kk70 =>
      lk (v4 + (1 : Int32)) fun x74 =>
      fX7_walk_L56 K94 n v1 v2 v3 x74 kk70
def fX7_walk_L41  (K100 : Hp → Option (Int32 × Hp)) : Nat → Int32 → Int32 → Int32 → Hp → Option (Int32 × Hp)
  | 0, _, _, _, _ => none
  | n + 1, v1, v2, v3, k =>
    if v1 ≤ v3 then
      K100 k
    else
      bd (fX7_hourOf 252 k) fun _ kk44 =>
      fX7_walk_L56 (fun  kk78 =>
          lk (v3 + (1 : Int32)) fun x86 =>
          fX7_walk_L41 K100 n v1 v2 x86 kk78) 4096 v1 v2 v3 (0 : Int32) kk44
def fX7_walk_L105  (K121 : Int32 → Hp → Option (Int32 × Hp)) : Nat → Int32 → Int32 → Int32 → Int32 → Hp → Option (Int32 × Hp)
  | 0, _, _, _, _, _ => none
  | n + 1, v1, v2, v3, v4, k =>
    if v1 ≤ v4 then
      K121 v3 k
    else
      lk (v3 * (3 : Int32)) fun x105 =>
      lk (v4 + (1 : Int32)) fun x109 =>
      fX7_walk_L105 K121 n v1 v2 x105 x109 k
def fX7_walk_L159  (K249 : Int32 → Int32 → Hp → Option (Int32 × Hp)) : Nat → Int32 → Int32 → Int32 → Int32 → Int32 → Int32 → Int32 → Int32 → Int32 → Int32 → Int32 → Hp → Option (Int32 × Hp)
  | 0, _, _, _, _, _, _, _, _, _, _, _, _ => none
  | n + 1, v1, v2, v3, v4, v5, v6, v7, v8, v9, v10, v11, k =>
    if v1 ≤ v11 then
      K249 v9 v10 k
    else
      chk (nz v8) <|
      lk (v7 + ((irm (v6 / v8) (3 : Int32)) - (1 : Int32))) fun x152 =>
      jp (fun J193_156s0 kk157 =>
          jp (fun J214_167s0 kk168 =>
              jp (fun J240_178s0 kk179 =>
                  lk (v9 + J240_178s0) fun x187 =>
                  lk (v11 + (1 : Int32)) fun x191 =>
                  fX7_walk_L159 K249 n v1 v2 v3 v4 v5 v6 x152 J193_156s0 x187 J214_167s0 x191 kk179) fun J240_178 =>
              if J214_167s0 = 0 then
                J240_178 (0 : Int32) kk168
              else
                chk (inb (((16 : Int32) * v11) + x152) (lenM 255)) <|
                J240_178 (kk168 255 (((16 : Int32) * v11) + x152).toNatClampNeg) kk168) fun J214_167 =>
          jp (fun  kk203 =>
              J214_167 (0 : Int32) kk203) fun J213_202 =>
          if v10 = 0 then
            J213_202 kk157
          else
            bd (fX7_isCell x152 kk157) fun x215 kk216 =>
            if x215 = 0 then
              J213_202 kk216
            else
              J214_167 (1 : Int32) kk216) fun J193_156 =>
      if v8 ≤ (1 : Int32) then
        J193_156 (1 : Int32) k
      else
        J193_156 (v8 / (3 : Int32)) k
def fX7_walk_L131  (K282 : Int32 → Int32 → Hp → Option (Int32 × Hp)) : Nat → Int32 → Int32 → Int32 → Int32 → Int32 → Int32 → Hp → Option (Int32 × Hp)
  | 0, _, _, _, _, _, _, _ => none
  | n + 1, v1, v2, v3, v4, v5, v6, k =>
    if v3 ≤ v6 then
      K282 v4 v5 k
    else
      chk (inb (4 : Int32) (lenM 250)) <|
      lk (k 250 (4 : Int32).toNatClampNeg) fun x133 =>
      lk (v3 / (3 : Int32)) fun x137 =>
      fX7_walk_L159 (fun x230 x231 kk232 =>
          jp (fun J276_240v4 J276_240v5 kk241 =>
              lk (v6 + (1 : Int32)) fun x249 =>
              fX7_walk_L131 K282 n v1 v2 v3 J276_240v4 J276_240v5 x249 kk241) fun J276_240 =>
          if x231 = 0 then
            J276_240 v4 v5 kk232
          else
            jp (fun  kk258 =>
                J276_240 x230 v6 kk258) fun J268_257 =>
            if v4 = (-1000000 : Int32) then
              J268_257 kk232
            else
              if v4 ≤ x230 then
                J276_240 v4 v5 kk232
              else
                J268_257 kk232) 4096 v1 v2 v3 v4 v5 v6 x133 x137 (0 : Int32) (1 : Int32) (0 : Int32) k
def fX7_walk_L306  (K353 : Int32 → Hp → Option (Int32 × Hp)) : Nat → Int32 → Int32 → Int32 → Int32 → Int32 → Int32 → Hp → Option (Int32 × Hp)
  | 0, _, _, _, _, _, _, _ => none
  | n + 1, v1, v2, v5, v6, v7, v8, k =>
    if v2 < v8 then
      K353 v6 k
    else
      if v1 ≤ v2 then
        K353 v6 k
      else
        chk (nz v7) <|
        lk (v6 + ((irm (v5 / v7) (3 : Int32)) - (1 : Int32))) fun x309 =>
        jp (fun J345_313s0 kk314 =>
            lk (v8 + (1 : Int32)) fun x324 =>
            fX7_walk_L306 K353 n v1 v2 v5 x309 J345_313s0 x324 kk314) fun J345_313 =>
        if v7 ≤ (1 : Int32) then
          J345_313 (1 : Int32) k
        else
          J345_313 (v7 / (3 : Int32)) k
def fX7_walk  (a1 : Int32) (a2 : Int32) (k : Hp) : Option (Int32 × Hp) :=
  lk (up2 k 246 0 (0 : Int32)) fun kk3 =>
  bd (fX7_isThere  kk3) fun x7 kk8 =>
  if x7 = 0 then
    some ((-1000002 : Int32), kk8)
  else
    bd (fX7_in a1.toInt64 (1 : Int64) (6 : Int64) kk8) fun x17 kk18 =>
    if x17 = 0 then
      some ((-1000001 : Int32), kk18)
    else
      if (-1 : Int32) ≤ a2 then
        bd (fX7_layThen  kk18) fun _ kk31 =>
        fX7_walk_L41 (fun  kk90 =>
            fX7_walk_L105 (fun x113 kk114 =>
                fX7_walk_L131 (fun x277 x278 kk279 =>
                    if a2 = (-1 : Int32) then
                      some (x277, kk279)
                    else
                      chk (inb (4 : Int32) (lenM 250)) <|
                      lk (kk279 250 (4 : Int32).toNatClampNeg) fun x291 =>
                      lk (x113 / (3 : Int32)) fun x295 =>
                      fX7_walk_L306 (fun x332 kk333 =>
                          if a1 ≤ a2 then
                            some ((-1000000 : Int32), kk333)
                          else
                            some (x332, kk333)) 4096 a1 a2 x278 x291 x295 (0 : Int32) kk279) 4096 a1 a2 x113 (-1000000 : Int32) (0 : Int32) (0 : Int32) kk114) 4096 a1 a2 (1 : Int32) (0 : Int32) kk90) 4096 a1 a2 (0 : Int32) kk31
      else
        some ((-1000001 : Int32), kk18)
def fX7_meet_L31   : Nat → Int32 → Int32 → Int32 → Hp → Option (Int32 × Hp)
  | 0, _, _, _, _ => none
  | n + 1, v1, v2, v3, k =>
    if (20 : Int32) < v3 then
      some ((-1000000 : Int32), k)
    else
      bd (fX7_liesOn 252 v1 k) fun x36 kk37 =>
      if (x36 &&& v2) = 0 then
        chk (inb (2 : Int32) (lenM 250)) <|
        lk (((v2 ||| (shlI v2 (1 : Int32))) ||| (shrI v2 (1 : Int32))) &&& ((shlI (1 : Int32) (kk37 250 (2 : Int32).toNatClampNeg)) - (1 : Int32))) fun x48 =>
        bd (fX7_hourOf 252 kk37) fun _ kk53 =>
        lk (v3 + (1 : Int32)) fun x60 =>
        fX7_meet_L31 n v1 x48 x60 kk53
      else
        some (v3, kk37)
def fX7_meet  (a1 : Int32) (k : Hp) : Option (Int32 × Hp) :=
  lk (up2 k 246 0 (0 : Int32)) fun kk3 =>
  bd (fX7_isSheet a1 kk3) fun x7 kk8 =>
  if x7 = 0 then
    some ((-1000001 : Int32), kk8)
  else
    bd (fX7_layThen  kk8) fun _ kk18 =>
    chk (inb (4 : Int32) (lenM 250)) <|
    lk (shlI (1 : Int32) (kk18 250 (4 : Int32).toNatClampNeg)) fun x27 =>
    fX7_meet_L31 4096 a1 x27 (0 : Int32) kk18
def fX7_site_L48  (K110 : Int32 → Int32 → Hp → Option (Int32 × Hp)) : Nat → Int32 → Int32 → Int32 → Int32 → Int32 → Hp → Option (Int32 × Hp)
  | 0, _, _, _, _, _, _ => none
  | n + 1, v1, v2, v3, v4, v5, k =>
    chk (inb (2 : Int32) (lenM 250)) <|
    if (k 250 (2 : Int32).toNatClampNeg) ≤ v5 then
      K110 v3 v4 k
    else
      bd (fX7_layThen  k) fun _ kk50 =>
      chk (inb (3 : Int32) (lenM 252)) <|
      lk (up2 kk50 252 (3 : Int32).toNatClampNeg v5) fun kk61 =>
      bd (fX7_hoursOf 252 v1 kk61) fun _ kk66 =>
      bd (fX7_numbered 252 kk66) fun x73 kk74 =>
      bd (fX7_bits x73 kk74) fun x81 kk82 =>
      jp (fun J104_91v3 J104_91v4 kk92 =>
          lk (v5 + (1 : Int32)) fun x100 =>
          fX7_site_L48 K110 n v1 v2 J104_91v3 J104_91v4 x100 kk92) fun J104_91 =>
      if x81 ≤ v3 then
        J104_91 v3 v4 kk82
      else
        J104_91 x81 v5 kk82
def fX7_site  (a1 : Int32) (a2 : Int32) (k : Hp) : Option (Int32 × Hp) :=
  lk (up2 k 246 0 (0 : Int32)) fun kk3 =>
  bd (fX7_isThere  kk3) fun x7 kk8 =>
  if x7 = 0 then
    some ((-1000002 : Int32), kk8)
  else
    bd (fX7_in a1.toInt64 (1 : Int64) (30 : Int64) kk8) fun x17 kk18 =>
    if x17 = 0 then
      some ((-1000001 : Int32), kk18)
    else
      bd (fX7_in a2.toInt64 (0 : Int64) (1 : Int64) kk18) fun x28 kk29 =>
      if x28 = 0 then
        some ((-1000001 : Int32), kk29)
      else
        fX7_site_L48 (fun x112 x113 kk114 =>
            if a2 = 0 then
              some (x113, kk114)
            else
              some (x112, kk114)) 4096 a1 a2 (-1 : Int32) (0 : Int32) (0 : Int32) kk29
def fX7_numberedBy  (a1 : Int32) (a2 : Int32) (k : Hp) : Option (Int32 × Hp) :=
  bd (fX7_layThen  k) fun _ kk2 =>
  chk (inb (5 : Int32) (lenM 252)) <|
  lk (up2 kk2 252 (5 : Int32).toNatClampNeg a1) fun kk13 =>
  bd (fX7_hoursOf 252 a2 kk13) fun _ kk18 =>
  bd (fX7_numbered 252 kk18) fun x25 kk26 =>
  bd (fX7_bits x25 kk26) fun x33 kk34 =>
  some (x33, kk34)
def fX7_waking_L56  (K95 : Int32 → Hp → Option (Int32 × Hp)) : Nat → Int32 → Int32 → Int32 → Int32 → Int32 → Hp → Option (Int32 × Hp)
  | 0, _, _, _, _, _, _ => none
  | n + 1, v1, v2, v3, v4, v5, k =>
    if v5 < 0 then
      K95 v4 k
    else
      bd (fX7_bits v5 k) fun x55 kk56 =>
      bd (fX7_bits v4 kk56) fun x63 kk64 =>
      jp (fun J89_71v4 kk72 =>
          lk (v5 + (-1 : Int32)) fun x80 =>
          fX7_waking_L56 K95 n v1 v2 v3 J89_71v4 x80 kk72) fun J89_71 =>
      if x63 < x55 then
        J89_71 v4 kk64
      else
        bd (fX7_numberedBy v5 v1 kk64) fun x88 kk89 =>
        if x88 = v3 then
          J89_71 v5 kk89
        else
          J89_71 v4 kk89
def fX7_waking  (a1 : Int32) (a2 : Int32) (k : Hp) : Option (Int32 × Hp) :=
  lk (up2 k 246 0 (0 : Int32)) fun kk3 =>
  bd (fX7_isThere  kk3) fun x7 kk8 =>
  if x7 = 0 then
    some ((-1000002 : Int32), kk8)
  else
    bd (fX7_in a1.toInt64 (1 : Int64) (30 : Int64) kk8) fun x17 kk18 =>
    if x17 = 0 then
      some ((-1000001 : Int32), kk18)
    else
      bd (fX7_in a2.toInt64 (0 : Int64) (1 : Int64) kk18) fun x28 kk29 =>
      if x28 = 0 then
        some ((-1000001 : Int32), kk29)
      else
        bd (fX7_numberedBy (15 : Int32) a1 kk29) fun x38 kk39 =>
        fX7_waking_L56 (fun x101 kk102 =>
            if a2 = 0 then
              some (x101, kk102)
            else
              bd (fX7_bits x101 kk102) fun x112 kk113 =>
              some (x112, kk113)) 4096 a1 a2 x38 (15 : Int32) (14 : Int32) kk39
def fX7_meant_L72  (K118 : Int32 → Hp → Option (Int32 × Hp)) : Nat → Int32 → Int32 → Int32 → Int32 → Int32 → Int32 → Int32 → Int32 → Hp → Option (Int32 × Hp)
  | 0, _, _, _, _, _, _, _, _, _ => none
  | n + 1, v1, v2, v3, v4, v5, v6, v7, v8, k =>
    chk (inb (0 : Int32) (lenM 250)) <|
    if (k 250 (0 : Int32).toNatClampNeg) ≤ v8 then
      K118 v7 k
    else
      bd (fX7_has v6 v8 k) fun x60 kk61 =>
      jp (fun J109_68s0 kk69 =>
          lk (v7 + J109_68s0) fun x77 =>
          lk (v8 + (1 : Int32)) fun x81 =>
          fX7_meant_L72 K118 n v1 v2 v3 v4 v5 v6 x77 x81 kk69) fun J109_68 =>
      if x60 = 0 then
        J109_68 (0 : Int32) kk61
      else
        bd (fX7_of 250 v8 (3 : Int32) kk61) fun x89 kk90 =>
        J109_68 x89 kk90
def fX7_meant_L53  (K171 : Int32 → Int32 → Int32 → Hp → Option (Int32 × Hp)) : Nat → Int32 → Int32 → Int32 → Int32 → Int32 → Int32 → Hp → Option (Int32 × Hp)
  | 0, _, _, _, _, _, _, _ => none
  | n + 1, v1, v2, v3, v4, v5, v6, k =>
    chk (inb (0 : Int32) (lenM 250)) <|
    if (shlI (1 : Int32) (k 250 (0 : Int32).toNatClampNeg)) ≤ v6 then
      K171 v3 v4 v5 k
    else
      fX7_meant_L72 (fun x97 kk98 =>
          bd (fX7_ins 250 kk98) fun x106 kk107 =>
          jp (fun J165_114v3 J165_114v4 J165_114v5 kk115 =>
              lk (v6 + (1 : Int32)) fun x123 =>
              fX7_meant_L53 K171 n v1 v2 J165_114v3 J165_114v4 J165_114v5 x123 kk115) fun J165_114 =>
          if (v6 &&& (x106 ^^^ (-1 : Int32))) = 0 then
            if x97 = v1 then
              jp (fun J153_134s0 kk135 =>
                  lk (v5 ||| v6) fun x145 =>
                  lk (v3 + (1 : Int32)) fun x149 =>
                  J165_114 x149 J153_134s0 x145 kk135) fun J153_134 =>
              if v3 = 0 then
                J153_134 v6 kk107
              else
                J153_134 (v4 &&& v6) kk107
            else
              J165_114 v3 v4 v5 kk107
          else
            J165_114 v3 v4 v5 kk107) 4096 v1 v2 v3 v4 v5 v6 (0 : Int32) (0 : Int32) k
def fX7_meant  (a1 : Int32) (a2 : Int32) (k : Hp) : Option (Int32 × Hp) :=
  lk (up2 k 246 0 (0 : Int32)) fun kk3 =>
  bd (fX7_isThere  kk3) fun x7 kk8 =>
  if x7 = 0 then
    some ((-1000002 : Int32), kk8)
  else
    bd (fX7_in a1.toInt64 (0 : Int64) (54 : Int64) kk8) fun x17 kk18 =>
    if x17 = 0 then
      some ((-1000001 : Int32), kk18)
    else
      bd (fX7_in a2.toInt64 (0 : Int64) (2 : Int64) kk18) fun x28 kk29 =>
      if x28 = 0 then
        some ((-1000001 : Int32), kk29)
      else
        fX7_meant_L53 (fun x157 x158 x159 kk160 =>
            if a2 = 0 then
              some (x157, kk160)
            else
              if a2 = (1 : Int32) then
                some (x158, kk160)
              else
                some (x159, kk160)) 4096 a1 a2 (0 : Int32) (0 : Int32) (0 : Int32) (0 : Int32) kk29
def fX7_pailsOf  (a1 : Int32) (k : Hp) : Option (Int32 × Hp) :=
  bd (fX7_isIn 250 a1 k) fun x1 kk2 =>
  if x1 = 0 then
    some ((0 : Int32), kk2)
  else
    bd (fX7_of 250 a1 (2 : Int32) kk2) fun x12 kk13 =>
    bd (fX7_of 250 a1 (3 : Int32) kk13) fun x20 kk21 =>
    some (x12 * x20, kk21)
def fX7_share_L43  (K69 : Int32 → Hp → Option (Int32 × Hp)) : Nat → Int32 → Int32 → Int32 → Int32 → Hp → Option (Int32 × Hp)
  | 0, _, _, _, _, _ => none
  | n + 1, v1, v2, v3, v4, k =>
    chk (inb (0 : Int32) (lenM 250)) <|
    if (k 250 (0 : Int32).toNatClampNeg) ≤ v4 then
      K69 v3 k
    else
      bd (fX7_pailsOf v4 k) fun x47 kk48 =>
      lk (v3 + x47) fun x55 =>
      lk (v4 + (1 : Int32)) fun x59 =>
      fX7_share_L43 K69 n v1 v2 x55 x59 kk48
def fX7_share_L78  (K135 : Int32 → Int32 → Hp → Option (Int32 × Hp)) : Nat → Int32 → Int32 → Int32 → Int32 → Int32 → Int32 → Hp → Option (Int32 × Hp)
  | 0, _, _, _, _, _, _, _ => none
  | n + 1, v1, v2, v3, v4, v5, v6, k =>
    chk (inb (0 : Int32) (lenM 250)) <|
    if (k 250 (0 : Int32).toNatClampNeg) ≤ v6 then
      K135 v4 v5 k
    else
      bd (fX7_pailsOf v6 k) fun x83 kk84 =>
      chk (nz v3) <|
      lk (v4 - ((v2 * x83) / v3)) fun x93 =>
      jp (fun J126_97s0 kk98 =>
          lk (v5 + J126_97s0) fun x106 =>
          lk (v6 + (1 : Int32)) fun x110 =>
          fX7_share_L78 K135 n v1 v2 v3 x93 x106 x110 kk98) fun J126_97 =>
      jp (fun  kk116 =>
          J126_97 (0 : Int32) kk116) fun J125_115 =>
      if v1 ≤ v6 then
        J125_115 kk84
      else
        bd (fX7_pailsOf v6 kk84) fun x128 kk129 =>
        if x128 ≤ 0 then
          J125_115 kk129
        else
          J126_97 (1 : Int32) kk129
def fX7_share  (a1 : Int32) (a2 : Int32) (k : Hp) : Option (Int32 × Hp) :=
  lk (up2 k 246 0 (0 : Int32)) fun kk3 =>
  bd (fX7_isSheet a1 kk3) fun x7 kk8 =>
  if x7 = 0 then
    some ((-1000001 : Int32), kk8)
  else
    bd (fX7_in a2.toInt64 (0 : Int64) (999 : Int64) kk8) fun x18 kk19 =>
    if x18 = 0 then
      some ((-1000001 : Int32), kk19)
    else
      bd (fX7_pailsOf a1 kk19) fun x28 kk29 =>
      if x28 = 0 then
        some ((0 : Int32), kk29)
      else
        fX7_share_L43 (fun x63 kk64 =>
            fX7_share_L78 (fun x139 x140 kk141 =>
                bd (fX7_pailsOf a1 kk141) fun x149 kk150 =>
                chk (nz x63) <|
                if x139 ≤ x140 then
                  some (((a2 * x149) / x63) + (0 : Int32), kk150)
                else
                  some (((a2 * x149) / x63) + (1 : Int32), kk150)) 4096 a1 a2 x63 a2 (0 : Int32) (0 : Int32) kk64) 4096 a1 a2 (0 : Int32) (0 : Int32) kk29
def fX7_turnWind  (a1 : Nat) (k : Hp) : Option (Unit × Hp) :=
  chk (inb (6 : Int32) (lenM a1)) <|
  chk (inb (1 : Int32) (lenM a1)) <|
  chk (nz (k a1 (1 : Int32).toNatClampNeg)) <|
  bd (fX7_windOf a1 k) fun x7 kk8 =>
  chk (inb ((8 : Int32) + (irm (k a1 (6 : Int32).toNatClampNeg) (k a1 (1 : Int32).toNatClampNeg))) (lenM a1)) <|
  lk (up2 kk8 a1 ((8 : Int32) + (irm (k a1 (6 : Int32).toNatClampNeg) (k a1 (1 : Int32).toNatClampNeg))).toNatClampNeg ((4 : Int32) - x7)) fun kk19 =>
  some ((), kk19)
def fX7_afterTurns_L40  (K62 : Hp → Option (Int32 × Hp)) : Nat → Int32 → Int32 → Int32 → Int32 → Int32 → Int32 → Hp → Option (Int32 × Hp)
  | 0, _, _, _, _, _, _, _ => none
  | n + 1, v2, v3, v4, v5, v6, v7, k =>
    if (v2 + v4) ≤ v7 then
      K62 k
    else
      bd (fX7_turnWind 252 k) fun _ kk42 =>
      lk (v7 + (1 : Int32)) fun x49 =>
      fX7_afterTurns_L40 K62 n v2 v3 v4 v5 v6 x49 kk42
def fX7_afterTurns  (a1 : Int32) (a2 : Int32) (a3 : Int32) (a4 : Int32) (a5 : Int32) (k : Hp) : Option (Int32 × Hp) :=
  chk (inb (4 : Int32) (lenM 250)) <|
  lk ((k 250 (4 : Int32).toNatClampNeg) + a1) fun x3 =>
  bd (fX7_isCell x3 k) fun x7 kk8 =>
  if x7 = 0 then
    some ((-1000000 : Int32), kk8)
  else
    bd (fX7_isCell (x3 + a3) kk8) fun x18 kk19 =>
    if x18 = 0 then
      some ((-1000000 : Int32), kk19)
    else
      bd (fX7_layThen  kk19) fun _ kk29 =>
      fX7_afterTurns_L40 (fun  kk53 =>
          bd (fX7_hoursOf 252 a5 kk53) fun _ kk62 =>
          bd (fX7_overOf 252 (x3 + a3) kk62) fun x69 kk70 =>
          some (x69, kk70)) 4096 a2 a3 a4 a5 x3 (0 : Int32) kk29
def fX7_byTurns_L130  (K182 : Int32 → Hp → Option (Int32 × Hp)) : Nat → Int32 → Int32 → Int32 → Int32 → Int32 → Int32 → Int32 → Int32 → Int32 → Int32 → Hp → Option (Int32 × Hp)
  | 0, _, _, _, _, _, _, _, _, _, _, _ => none
  | n + 1, v1, v2, v3, v4, v5, v6, v7, v8, v9, v10, k =>
    jp (fun J142_108s0 kk109 =>
        if J142_108s0 < v10 then
          K182 v9 kk109
        else
          bd (fX7_afterTurns v4 v6 v8 v10 v2 kk109) fun x120 kk121 =>
          jp (fun J174_130s0 kk131 =>
              lk (v10 + (1 : Int32)) fun x141 =>
              fX7_byTurns_L130 K182 n v1 v2 v3 v4 v5 v6 v7 v8 J174_130s0 x141 kk131) fun J174_130 =>
          if x120 ≤ v9 then
            J174_130 v9 kk121
          else
            J174_130 x120 kk121) fun J142_108 =>
    if v1 ≤ (3 : Int32) then
      J142_108 (0 : Int32) k
    else
      J142_108 (1 : Int32) k
def fX7_byTurns_L108  (K218 : Int32 → Hp → Option (Int32 × Hp)) : Nat → Int32 → Int32 → Int32 → Int32 → Int32 → Int32 → Int32 → Int32 → Hp → Option (Int32 × Hp)
  | 0, _, _, _, _, _, _, _, _, _ => none
  | n + 1, v1, v2, v3, v4, v5, v6, v7, v8, k =>
    jp (fun J120_92s0 kk93 =>
        if J120_92s0 < v8 then
          K218 v7 kk93
        else
          fX7_byTurns_L130 (fun x153 kk154 =>
              jp (fun J210_162s0 kk163 =>
                  lk (v8 + (1 : Int32)) fun x173 =>
                  fX7_byTurns_L108 K218 n v1 v2 v3 v4 v5 v6 J210_162s0 x173 kk163) fun J210_162 =>
              jp (fun  kk179 =>
                  J210_162 v7 kk179) fun J208_178 =>
              if x153 = (-1000000 : Int32) then
                J208_178 kk154
              else
                jp (fun  kk192 =>
                    J210_162 x153 kk192) fun J203_191 =>
                if v7 = (-1000000 : Int32) then
                  J203_191 kk154
                else
                  if v7 ≤ x153 then
                    J208_178 kk154
                  else
                    J203_191 kk154) 4096 v1 v2 v3 v4 v5 v6 v7 v8 (-1000000 : Int32) (0 : Int32) kk93) fun J120_92 =>
    if v1 ≤ (2 : Int32) then
      J120_92 (0 : Int32) k
    else
      J120_92 (1 : Int32) k
def fX7_byTurns_L77  (K240 : Int32 → Hp → Option (Int32 × Hp)) : Nat → Int32 → Int32 → Int32 → Int32 → Int32 → Int32 → Hp → Option (Int32 × Hp)
  | 0, _, _, _, _, _, _, _ => none
  | n + 1, v1, v2, v3, v4, v5, v6, k =>
    jp (fun J89_67s0 kk68 =>
        if J89_67s0 < v6 then
          K240 v5 kk68
        else
          jp (fun J106_81s0 kk82 =>
              fX7_byTurns_L108 (fun x211 kk212 =>
                  jp (fun J232_220s0 kk221 =>
                      lk (v6 + (1 : Int32)) fun x231 =>
                      fX7_byTurns_L77 K240 n v1 v2 v3 v4 J232_220s0 x231 kk221) fun J232_220 =>
                  if x211 ≤ v5 then
                    J232_220 v5 kk212
                  else
                    J232_220 x211 kk212) 4096 v1 v2 v3 v4 v5 v6 (-1000000 : Int32) J106_81s0 kk82) fun J106_81 =>
          if v1 ≤ (2 : Int32) then
            J106_81 (0 : Int32) kk68
          else
            J106_81 (-1 : Int32) kk68) fun J89_67 =>
    if v1 ≤ (1 : Int32) then
      J89_67 (0 : Int32) k
    else
      J89_67 (1 : Int32) k
def fX7_byTurns_L56   : Nat → Int32 → Int32 → Int32 → Int32 → Hp → Option (Int32 × Hp)
  | 0, _, _, _, _, _ => none
  | n + 1, v1, v2, v3, v4, k =>
    jp (fun J67_51s0 kk52 =>
        if J67_51s0 < v4 then
          some (v3, kk52)
        else
          fX7_byTurns_L77 (fun x247 kk248 =>
              jp (fun J265_256s0 kk257 =>
                  lk (v4 + (1 : Int32)) fun x267 =>
                  fX7_byTurns_L56 n v1 v2 J265_256s0 x267 kk257) fun J265_256 =>
              jp (fun  kk273 =>
                  J265_256 v3 kk273) fun J264_272 =>
              if x247 = (-1000000 : Int32) then
                J264_272 kk248
              else
                jp (fun  kk286 =>
                    J265_256 x247 kk286) fun J259_285 =>
                if v3 = (-1000000 : Int32) then
                  J259_285 kk248
                else
                  if v3 ≤ x247 then
                    J264_272 kk248
                  else
                    J259_285 kk248) 4096 v1 v2 v3 v4 (-1000000 : Int32) (0 : Int32) kk52) fun J67_51 =>
    if v1 ≤ 0 then
      J67_51 (0 : Int32) k
    else
      J67_51 (1 : Int32) k
def fX7_byTurns  (a1 : Int32) (a2 : Int32) (k : Hp) : Option (Int32 × Hp) :=
  lk (up2 k 246 0 (0 : Int32)) fun kk3 =>
  bd (fX7_isThere  kk3) fun x7 kk8 =>
  if x7 = 0 then
    some ((-1000002 : Int32), kk8)
  else
    bd (fX7_in a1.toInt64 (0 : Int64) (4 : Int64) kk8) fun x17 kk18 =>
    if x17 = 0 then
      some ((-1000001 : Int32), kk18)
    else
      bd (fX7_in a2.toInt64 (1 : Int64) (20 : Int64) kk18) fun x28 kk29 =>
      if x28 = 0 then
        some ((-1000001 : Int32), kk29)
      else
        jp (fun J54_40s0 kk41 =>
            fX7_byTurns_L56 4096 a1 a2 (-1000000 : Int32) J54_40s0 kk41) fun J54_40 =>
        if a1 ≤ 0 then
          J54_40 (0 : Int32) kk29
        else
          J54_40 (-1 : Int32) kk29
def fX7_rowFound  (a1 : Int32) (a2 : Int32) (a3 : Int32) (k : Hp) : Option (Int32 × Hp) :=
  chk (inb a1 (lenM 247)) <|
  if 0 ≤ (k 247 a1.toNatClampNeg) then
    jp (fun  kk6 =>
        bd (fX7_finding (2 : Int32) kk6) fun x14 kk15 =>
        some (x14, kk15)) fun J35_5 =>
    if a2 < 0 then
      J35_5 k
    else
      chk (inb a1 (lenM 248)) <|
      if (lg_cmp (a2.toInt64 + a3.toInt64) ((k 248 a1.toNatClampNeg).toInt64)) ≤ 0 then
        lk (up2 k 246 1 (0 : Int32)) fun kk32 =>
        some ((0 : Int32), kk32)
      else
        J35_5 k
  else
    bd (fX7_finding (1 : Int32) k) fun x38 kk39 =>
    some (x38, kk39)
def fX7_isMany  (a1 : Int32) (a2 : Int32) (k : Hp) : Option (Int32 × Hp) :=
  bd (fX7_isRow a1 k) fun x1 kk2 =>
  if x1 = 0 then
    some ((0 : Int32), kk2)
  else
    bd (fX7_in a2.toInt64 (1 : Int64) (12 : Int64) kk2) fun x12 kk13 =>
    if x12 = 0 then
      some ((0 : Int32), kk13)
    else
      some ((1 : Int32), kk13)
def fX7_allSo_L30  (K88 : Int32 → Hp → Option (Int32 × Hp)) : Nat → Int32 → Int32 → Int32 → Int32 → Int32 → Int32 → Int32 → Int32 → Hp → Option (Int32 × Hp)
  | 0, _, _, _, _, _, _, _, _, _ => none
  | n + 1, v1, v3, v4, v5, v6, v7, v8, v9, k =>
    if v5 ≤ v9 then
      K88 v8 k
    else
      bd (fX7_hourOf 252 k) fun _ kk32 =>
      jp (fun J80_39s0 kk40 =>
          lk (v9 + (1 : Int32)) fun x50 =>
          fX7_allSo_L30 K88 n v1 v3 v4 v5 v6 v7 J80_39s0 x50 kk40) fun J80_39 =>
      jp (fun  kk56 =>
          J80_39 (0 : Int32) kk56) fun J79_55 =>
      if v8 = 0 then
        J79_55 kk32
      else
        chk (inb (4 : Int32) (lenM 252)) <|
        bd (fX7_overOf 252 (kk32 252 (4 : Int32).toNatClampNeg) kk32) fun x70 kk71 =>
        chk (inb (v4 + v9) (lenM 249)) <|
        if x70 = (kk71 249 (v4 + v9).toNatClampNeg) then
          J80_39 (1 : Int32) kk71
        else
          J79_55 kk71
def fX7_allSo_L6   : Nat → Int32 → Int32 → Int32 → Int32 → Int32 → Int32 → Hp → Option (Int32 × Hp)
  | 0, _, _, _, _, _, _, _ => none
  | n + 1, v1, v3, v4, v5, v6, v7, k =>
    if v3 < v7 then
      some (v6, k)
    else
      bd (fX7_layThen  k) fun _ kk9 =>
      chk (inb v1 (lenM 252)) <|
      lk (up2 kk9 252 v1.toNatClampNeg v7) fun kk20 =>
      fX7_allSo_L30 (fun x83 kk84 =>
          jp (fun J103_92s0 kk93 =>
              lk (v6 ||| J103_92s0) fun x101 =>
              lk (v7 + (1 : Int32)) fun x105 =>
              fX7_allSo_L6 n v1 v3 v4 v5 x101 x105 kk93) fun J103_92 =>
          if x83 = 0 then
            J103_92 (0 : Int32) kk84
          else
            J103_92 (shlI (1 : Int32) v7) kk84) 4096 v1 v3 v4 v5 v6 v7 (1 : Int32) (0 : Int32) kk20
def fX7_allSo  (a1 : Int32) (a2 : Int32) (a3 : Int32) (a4 : Int32) (a5 : Int32) (k : Hp) : Option (Int32 × Hp) :=
  fX7_allSo_L6 4096 a1 a3 a4 a5 (0 : Int32) a2 k
def fX7_who  (a1 : Int32) (a2 : Int32) (a3 : Int32) (a4 : Int32) (a5 : Int32) (k : Hp) : Option (Int32 × Hp) :=
  lk (up2 k 246 0 (0 : Int32)) fun kk3 =>
  bd (fX7_isSheet a1 kk3) fun x7 kk8 =>
  if x7 = 0 then
    some ((-1000001 : Int32), kk8)
  else
    bd (fX7_in a2.toInt64 (0 : Int64) (2 : Int64) kk8) fun x18 kk19 =>
    if x18 = 0 then
      some ((-1000001 : Int32), kk19)
    else
      bd (fX7_isMany a3 a5 kk19) fun x29 kk30 =>
      if x29 = 0 then
        some ((-1000001 : Int32), kk30)
      else
        bd (fX7_isIn 250 a1 kk30) fun x39 kk40 =>
        if x39 = 0 then
          some ((-1000002 : Int32), kk40)
        else
          bd (fX7_rowFound a3 a4 a5 kk40) fun x49 kk50 =>
          if x49 = 0 then
            jp (fun J95_61s0 kk62 =>
                lk (((14 : Int32) + ((6 : Int32) * a1)) + J95_61s0) fun x70 =>
                jp (fun J111_74s0 kk75 =>
                    jp (fun J137_83s0 kk84 =>
                        bd (fX7_allSo x70 J111_74s0 J137_83s0 (((40 : Int32) * a3) + a4) a5 kk84) fun x92 kk93 =>
                        some (x92, kk93)) fun J137_83 =>
                    if a2 = 0 then
                      J137_83 (5 : Int32) kk75
                    else
                      if a2 = (1 : Int32) then
                        chk (inb (2 : Int32) (lenM 250)) <|
                        J137_83 ((kk75 250 (2 : Int32).toNatClampNeg) - (1 : Int32)) kk75
                      else
                        J137_83 (9 : Int32) kk75) fun J111_74 =>
                if a2 = (1 : Int32) then
                  J111_74 (0 : Int32) kk62
                else
                  J111_74 (1 : Int32) kk62) fun J95_61 =>
            if a2 = 0 then
              J95_61 (0 : Int32) kk50
            else
              if a2 = (1 : Int32) then
                J95_61 (1 : Int32) kk50
              else
                J95_61 (3 : Int32) kk50
          else
            some (x49, kk50)
def fX7_gusts  (a1 : Int32) (a2 : Int32) (a3 : Int32) (a4 : Int32) (k : Hp) : Option (Int32 × Hp) :=
  lk (up2 k 246 0 (0 : Int32)) fun kk3 =>
  bd (fX7_isWind a1 kk3) fun x7 kk8 =>
  if x7 = 0 then
    some ((-1000001 : Int32), kk8)
  else
    bd (fX7_isMany a2 a4 kk8) fun x18 kk19 =>
    if x18 = 0 then
      some ((-1000001 : Int32), kk19)
    else
      bd (fX7_rowFound a2 a3 a4 kk19) fun x28 kk29 =>
      if x28 = 0 then
        bd (fX7_allSo ((8 : Int32) + a1) (0 : Int32) (4 : Int32) (((40 : Int32) * a2) + a3) a4 kk29) fun x40 kk41 =>
        some (x40, kk41)
      else
        some (x28, kk29)
def fX7_lift_L99  (K179 : Int64 → Hp → Option (Int64 × Hp)) : Nat → Int32 → Int32 → Int32 → Int32 → Int64 → Int64 → Int32 → Int64 → Int32 → Hp → Option (Int64 × Hp)
  | 0, _, _, _, _, _, _, _, _, _, _ => none
  | n + 1, v1, v2, v3, v4, v5, v7, v9, v10, v12, k =>
    chk (inb (0 : Int32) (lenM 250)) <|
    if (k 250 (0 : Int32).toNatClampNeg) ≤ v12 then
      K179 v10 k
    else
      bd (fX7_isIn 250 v12 k) fun x103 kk104 =>
      jp (fun J173_111v10 kk112 =>
          lk (v12 + (1 : Int32)) fun x120 =>
          fX7_lift_L99 K179 n v1 v2 v3 v4 v5 v7 v9 J173_111v10 x120 kk112) fun J173_111 =>
      if x103 = 0 then
        J173_111 v10 kk104
      else
        bd (fX7_has v9 v12 kk104) fun x128 kk129 =>
        jp (fun J145_136s0 kk137 =>
            lk (v10 * J145_136s0) fun x145 =>
            bd (fX7_has v9 v12 kk137) fun x149 kk150 =>
            jp (fun J170_157s0 kk158 =>
                bd (fX7_be 252 v12 (5 : Int32) J170_157s0 kk158) fun _ kk167 =>
                J173_111 x145 kk167) fun J170_157 =>
            if x149 = 0 then
              J170_157 (1 : Int32) kk150
            else
              J170_157 (0 : Int32) kk150) fun J145_136 =>
        if x128 = 0 then
          J145_136 ((10 : Int64) - v3.toInt64) kk129
        else
          J145_136 v3.toInt64 kk129
def fX7_lift_L61  (K222 : Int64 → Int64 → Hp → Option (Int64 × Hp)) : Nat → Int32 → Int32 → Int32 → Int32 → Int64 → Int64 → Int32 → Hp → Option (Int64 × Hp)
  | 0, _, _, _, _, _, _, _, _ => none
  | n + 1, v1, v2, v3, v4, v5, v7, v9, k =>
    chk (inb (0 : Int32) (lenM 250)) <|
    if (shlI (1 : Int32) (k 250 (0 : Int32).toNatClampNeg)) ≤ v9 then
      K222 v5 v7 k
    else
      bd (fX7_ins 250 k) fun x61 kk62 =>
      jp (fun J216_69v5 J216_69v7 kk70 =>
          lk (v9 + (1 : Int32)) fun x78 =>
          fX7_lift_L61 K222 n v1 v2 v3 v4 J216_69v5 J216_69v7 x78 kk70) fun J216_69 =>
      if (v9 &&& (x61 ^^^ (-1 : Int32))) = 0 then
        bd (fX7_layThen  kk62) fun _ kk89 =>
        fX7_lift_L99 (fun x182 kk183 =>
            bd (fX7_hoursOf 252 v2 kk183) fun _ kk192 =>
            lk (v7 + x182) fun x199 =>
            bd (fX7_overOf 252 v1 kk192) fun x203 kk204 =>
            jp (fun J213_211s0 kk212 =>
                lk (v5 + J213_211s0) fun x220 =>
                J216_69 x220 x199 kk212) fun J213_211 =>
            if x203 = 0 then
              J213_211 x182 kk204
            else
              J213_211 (0 : Int64) kk204) 4096 v1 v2 v3 v4 v5 v7 v9 (1 : Int64) (0 : Int32) kk89
      else
        J216_69 v5 v7 kk62
def fX7_lift_L230  (K255 : Int64 → Hp → Option (Int64 × Hp)) : Nat → Int32 → Int64 → Int64 → Int64 → Int64 → Hp → Option (Int64 × Hp)
  | 0, _, _, _, _, _, _ => none
  | n + 1, v4, v5, v7, v9, v11, k =>
    if (lg_cmp v11 (0 : Int64)) = 0 then
      K255 v9 k
    else
      chk (nzL v11) <|
      lk (lrm v9 v11) fun x247 =>
      fX7_lift_L230 K255 n v4 v5 v7 v11 x247 k
def fX7_lift  (a1 : Int32) (a2 : Int32) (a3 : Int32) (a4 : Int32) (k : Hp) : Option (Int64 × Hp) :=
  lk (up2 k 246 0 (0 : Int32)) fun kk3 =>
  bd (fX7_isCell a1 kk3) fun x7 kk8 =>
  if x7 = 0 then
    some ((-1000001 : Int64), kk8)
  else
    bd (fX7_in a2.toInt64 (0 : Int64) (60 : Int64) kk8) fun x18 kk19 =>
    if x18 = 0 then
      some ((-1000001 : Int64), kk19)
    else
      bd (fX7_in a3.toInt64 (0 : Int64) (10 : Int64) kk19) fun x29 kk30 =>
      if x29 = 0 then
        some ((-1000001 : Int64), kk30)
      else
        bd (fX7_in a4.toInt64 (0 : Int64) (1 : Int64) kk30) fun x40 kk41 =>
        if x40 = 0 then
          some ((-1000001 : Int64), kk41)
        else
          fX7_lift_L61 (fun x228 x229 kk230 =>
              fX7_lift_L230 (fun x255 kk256 =>
                  if a4 = 0 then
                    chk (nzL x255) <|
                    some (x228 / x255, kk256)
                  else
                    chk (nzL x255) <|
                    some (x229 / x255, kk256)) 4096 a4 x228 x229 x228 x229 kk230) 4096 a1 a2 a3 a4 (0 : Int64) (0 : Int64) (0 : Int32) kk41
def fX7_drawn_L66  (K206 : Int32 → Hp → Option (Int32 × Hp)) : Nat → Int32 → Int32 → Int64 → Int32 → Int32 → Hp → Option (Int32 × Hp)
  | 0, _, _, _, _, _, _ => none
  | n + 1, v1, v3, v4, v6, v7, k =>
    if v1 ≤ v7 then
      K206 v6 k
    else
      lk (lrm (v4 * (16807 : Int64)) (2147483647 : Int64)) fun x68 =>
      jp (fun  kk73 =>
          chk (inb (0 : Int32) (lenM 252)) <|
          chk (nzL ((kk73 252 (0 : Int32).toNatClampNeg).toInt64)) <|
          lk ((lrm x68 ((kk73 252 (0 : Int32).toNatClampNeg).toInt64)).toInt32) fun x85 =>
          bd (fX7_isIn 252 x85 kk73) fun x89 kk90 =>
          jp (fun  kk98 =>
              bd (fX7_hourOf 252 kk98) fun _ kk107 =>
              chk (inb (3 : Int32) (lenM 252)) <|
              bd (fX7_overOf 252 (kk107 252 (3 : Int32).toNatClampNeg) kk107) fun x116 kk117 =>
              lk (v6 + x116) fun x124 =>
              lk (v7 + (1 : Int32)) fun x128 =>
              fX7_drawn_L66 K206 n v1 v3 x68 x124 x128 kk117) fun J175_97 =>
          if x89 = 0 then
            chk (inb (2 : Int32) (lenM 252)) <|
            chk (nzL ((kk90 252 (2 : Int32).toNatClampNeg).toInt64)) <|
            bd (fX7_letIn 252 x85 ((lrm x68 ((kk90 252 (2 : Int32).toNatClampNeg).toInt64)).toInt32) (((lrm x68 (9 : Int64)).toInt32) + (1 : Int32)) kk90) fun _ kk141 =>
            J175_97 kk141
          else
            J175_97 kk90) fun J121_72 =>
      if (lg_cmp (lrm x68 (3 : Int64)) (0 : Int64)) = 0 then
        chk (inb (1 : Int32) (lenM 252)) <|
        chk (nzL ((k 252 (1 : Int32).toNatClampNeg).toInt64)) <|
        chk (inb ((8 : Int32) + ((lrm x68 ((k 252 (1 : Int32).toNatClampNeg).toInt64)).toInt32)) (lenM 252)) <|
        lk (up2 k 252 ((8 : Int32) + ((lrm x68 ((k 252 (1 : Int32).toNatClampNeg).toInt64)).toInt32)).toNatClampNeg ((lrm x68 (5 : Int64)).toInt32)) fun kk160 =>
        J121_72 kk160
      else
        J121_72 k
def fX7_drawn  (a1 : Int32) (a2 : Int32) (a3 : Int32) (k : Hp) : Option (Int32 × Hp) :=
  lk (up2 k 246 0 (0 : Int32)) fun kk3 =>
  bd (fX7_isThere  kk3) fun x7 kk8 =>
  if x7 = 0 then
    some ((-1000002 : Int32), kk8)
  else
    bd (fX7_in a1.toInt64 (0 : Int64) (60 : Int64) kk8) fun x17 kk18 =>
    if x17 = 0 then
      some ((-1000001 : Int32), kk18)
    else
      bd (fX7_in a2.toInt64 (1 : Int64) (999999 : Int64) kk18) fun x28 kk29 =>
      if x28 = 0 then
        some ((-1000001 : Int32), kk29)
      else
        bd (fX7_in a3.toInt64 (0 : Int64) (1 : Int64) kk29) fun x39 kk40 =>
        if x39 = 0 then
          some ((-1000001 : Int32), kk40)
        else
          bd (fX7_layThen  kk40) fun _ kk50 =>
          lk (a2.toInt64) fun x57 =>
          fX7_drawn_L66 (fun x164 kk165 =>
              if a3 = 0 then
                bd (fX7_numbered 252 kk165) fun x176 kk177 =>
                bd (fX7_bits x176 kk177) fun x184 kk185 =>
                some (x184, kk185)
              else
                some (x164, kk165)) 4096 a1 a3 x57 (0 : Int32) (0 : Int32) kk50
def fX7_image_L30   : Nat → Int32 → Int32 → Hp → Option (Int32 × Hp)
  | 0, _, _, _ => none
  | n + 1, v1, v2, k =>
    if (50 : Int32) ≤ v2 then
      chk (inb v1 2) <|
      lk (up2 k 256 v1.toNatClampNeg 1) fun kk35 =>
      some ((1 : Int32), kk35)
    else
      chk (inb v2 (lenM 250)) <|
      chk (inb (((50 : Int32) * v1) + v2) (lenM 257)) <|
      lk (up2 k 257 (((50 : Int32) * v1) + v2).toNatClampNeg (k 250 v2.toNatClampNeg)) fun kk46 =>
      lk (v2 + (1 : Int32)) fun x50 =>
      fX7_image_L30 n v1 x50 kk46
def fX7_image  (a1 : Int32) (k : Hp) : Option (Int32 × Hp) :=
  lk (up2 k 246 0 (0 : Int32)) fun kk3 =>
  bd (fX7_in a1.toInt64 (0 : Int64) (1 : Int64) kk3) fun x7 kk8 =>
  if x7 = 0 then
    some ((-1000001 : Int32), kk8)
  else
    bd (fX7_isThere  kk8) fun x17 kk18 =>
    if x17 = 0 then
      some ((-1000002 : Int32), kk18)
    else
      fX7_image_L30 4096 a1 (0 : Int32) kk18
def fX7_restore_L32   : Nat → Int32 → Int32 → Hp → Option (Int32 × Hp)
  | 0, _, _, _ => none
  | n + 1, v1, v2, k =>
    if (50 : Int32) ≤ v2 then
      lk (up2 k 246 9 (0 : Int32)) fun kk27 =>
      some ((1 : Int32), kk27)
    else
      chk (inb (((50 : Int32) * v1) + v2) (lenM 257)) <|
      chk (inb v2 (lenM 250)) <|
      lk (up2 k 250 v2.toNatClampNeg (k 257 (((50 : Int32) * v1) + v2).toNatClampNeg)) fun kk38 =>
      lk (v2 + (1 : Int32)) fun x42 =>
      fX7_restore_L32 n v1 x42 kk38
def fX7_restore  (a1 : Int32) (k : Hp) : Option (Int32 × Hp) :=
  lk (up2 k 246 0 (0 : Int32)) fun kk3 =>
  bd (fX7_in a1.toInt64 (0 : Int64) (1 : Int64) kk3) fun x7 kk8 =>
  if x7 = 0 then
    some ((-1000001 : Int32), kk8)
  else
    chk (inb a1 2) <|
    if (kk8 256 a1.toNatClampNeg) = 0 then
      some ((-1000002 : Int32), kk8)
    else
      fX7_restore_L32 4096 a1 (0 : Int32) kk8
def fX7_isOf  (a1 : Int32) (a2 : Int32) (k : Hp) : Option (Int32 × Hp) :=
  if a2 = 0 then
    some ((1 : Int32), k)
  else
    if a1 = a2 then
      some ((1 : Int32), k)
    else
      jp (fun  kk8 =>
          if a2 = (4 : Int32) then
            if a1 = (5 : Int32) then
              some ((1 : Int32), kk8)
            else
              some ((0 : Int32), kk8)
          else
            some ((0 : Int32), kk8)) fun J19_7 =>
      if a2 = (1 : Int32) then
        if a1 < (4 : Int32) then
          some ((1 : Int32), k)
        else
          J19_7 k
      else
        J19_7 k
def fX7_kind  (a1 : Int32) (k : Hp) : Option (Int32 × Hp) :=
  lk (up2 k 246 0 (0 : Int32)) fun kk3 =>
  bd (fX7_isSheet a1 kk3) fun x7 kk8 =>
  if x7 = 0 then
    some ((-1000001 : Int32), kk8)
  else
    bd (fX7_of 250 a1 (0 : Int32) kk8) fun x18 kk19 =>
    some (x18, kk19)
def fX7_as  (a1 : Int32) (a2 : Int32) (k : Hp) : Option (Int32 × Hp) :=
  lk (up2 k 246 0 (0 : Int32)) fun kk3 =>
  bd (fX7_isSheet a1 kk3) fun x7 kk8 =>
  if x7 = 0 then
    some ((-1000001 : Int32), kk8)
  else
    bd (fX7_in a2.toInt64 (0 : Int64) (5 : Int64) kk8) fun x18 kk19 =>
    if x18 = 0 then
      some ((-1000001 : Int32), kk19)
    else
      lk (up2 kk19 246 1 (0 : Int32)) fun kk30 =>
      bd (fX7_of 250 a1 (0 : Int32) kk30) fun x34 kk35 =>
      bd (fX7_isOf x34 a2 kk35) fun x42 kk43 =>
      if x42 = 0 then
        bd (fX7_finding (3 : Int32) kk43) fun x52 kk53 =>
        some (x52, kk53)
      else
        some (a1, kk43)
def fX7_began  (a1 : Int32) (k : Hp) : Option (Unit × Hp) :=
  if (16 : Int32) ≤ (k 246 23) then
    some ((), k)
  else
    chk (inb (k 246 23) (lenM 258)) <|
    lk (up2 k 258 (k 246 23).toNatClampNeg a1) fun kk8 =>
    lk (up2 kk8 246 23 ((kk8 246 23) + (1 : Int32))) fun kk14 =>
    some ((), kk14)
def fX7_plainSize  (a1 : Int32) (k : Hp) : Option (Int32 × Hp) :=
  bd (fX7_began (10 : Int32) k) fun _ kk2 =>
  bd (fX7_of 250 a1 (2 : Int32) kk2) fun x9 kk10 =>
  some (x9, kk10)
def fX7_haarSize  (a1 : Int32) (k : Hp) : Option (Int32 × Hp) :=
  bd (fX7_of 250 a1 (0 : Int32) k) fun x1 kk2 =>
  jp (fun J18_9s0 kk10 =>
      jp (fun  kk21 =>
          bd (fX7_began (13 : Int32) kk21) fun _ kk30 =>
          bd (fX7_plainSize a1 kk30) fun x37 kk38 =>
          lk (x37 - (100 : Int32)) fun x45 =>
          if J18_9s0 = 0 then
            some (x45, kk38)
          else
            some ((2 : Int32) * x45, kk38)) fun J29_20 =>
      if J18_9s0 = 0 then
        J29_20 kk10
      else
        bd (fX7_began (14 : Int32) kk10) fun _ kk57 =>
        J29_20 kk57) fun J18_9 =>
  if x1 = (5 : Int32) then
    J18_9 (1 : Int32) kk2
  else
    J18_9 (0 : Int32) kk2
def fX7_markOf  (a1 : Int32) (k : Hp) : Option (Int32 × Hp) :=
  bd (fX7_of 250 a1 (0 : Int32) k) fun x1 kk2 =>
  if x1 < (4 : Int32) then
    jp (fun  kk14 =>
        bd (fX7_began (21 : Int32) kk14) fun _ kk23 =>
        bd (fX7_began (20 : Int32) kk23) fun _ kk31 =>
        bd (fX7_of 250 a1 (3 : Int32) kk31) fun x38 kk39 =>
        lk (a1 + x38) fun x46 =>
        if x1 = (1 : Int32) then
          some (x46, kk39)
        else
          if x1 = (3 : Int32) then
            some (x46 - (1000 : Int32), kk39)
          else
            some ((2 : Int32) * x46, kk39)) fun J56_13 =>
    if x1 = (1 : Int32) then
      J56_13 kk2
    else
      jp (fun J53_60s0 kk61 =>
          bd (fX7_began J53_60s0 kk61) fun _ kk70 =>
          J56_13 kk70) fun J53_60 =>
      if x1 = (3 : Int32) then
        J53_60 (22 : Int32) kk2
      else
        J53_60 (24 : Int32) kk2
  else
    bd (fX7_began (23 : Int32) kk2) fun _ kk83 =>
    bd (fX7_began (20 : Int32) kk83) fun _ kk91 =>
    bd (fX7_haarSize a1 kk91) fun x98 kk99 =>
    some (a1 - x98, kk99)
def fX7_sizeOf  (a1 : Int32) (k : Hp) : Option (Int32 × Hp) :=
  bd (fX7_of 250 a1 (0 : Int32) k) fun x1 kk2 =>
  if x1 < (4 : Int32) then
    jp (fun  kk14 =>
        bd (fX7_began (11 : Int32) kk14) fun _ kk23 =>
        bd (fX7_plainSize a1 kk23) fun x30 kk31 =>
        bd (fX7_markOf a1 kk31) fun x40 kk41 =>
        lk (x30 + x40) fun x48 =>
        if x1 = (2 : Int32) then
          some (-x48, kk41)
        else
          some (x48, kk41)) fun J32_13 =>
    if x1 = (2 : Int32) then
      bd (fX7_began (12 : Int32) kk2) fun _ kk60 =>
      J32_13 kk60
    else
      J32_13 kk2
  else
    bd (fX7_haarSize a1 kk2) fun x68 kk69 =>
    some (x68, kk69)
def fX7_ask  (a1 : Int32) (a2 : Int32) (k : Hp) : Option (Int32 × Hp) :=
  lk (up2 k 246 0 (0 : Int32)) fun kk3 =>
  bd (fX7_isSheet a1 kk3) fun x7 kk8 =>
  if x7 = 0 then
    some ((-1000001 : Int32), kk8)
  else
    bd (fX7_in a2.toInt64 (0 : Int64) (1 : Int64) kk8) fun x18 kk19 =>
    if x18 = 0 then
      some ((-1000001 : Int32), kk19)
    else
      lk (up2 kk19 246 23 (0 : Int32)) fun kk30 =>
      if a2 = 0 then
        bd (fX7_sizeOf a1 kk30) fun x45 kk46 =>
        some (x45, kk46)
      else
        bd (fX7_markOf a1 kk30) fun x36 kk37 =>
        some (x36, kk37)
def fX7_trace  (a1 : Int32) (k : Hp) : Option (Int32 × Hp) :=
  lk (up2 k 246 0 (0 : Int32)) fun kk3 =>
  bd (fX7_in a1.toInt64 (0 : Int64) (((kk3 246 23) - (1 : Int32)).toInt64) kk3) fun x7 kk8 =>
  if x7 = 0 then
    some ((-1000000 : Int32), kk8)
  else
    chk (inb a1 (lenM 258)) <|
    some (kk8 258 a1.toNatClampNeg, kk8)
def fX7_count_L58   : Nat → Int32 → Int32 → Hp → Option (Int32 × Hp)
  | 0, _, _, _ => none
  | n + 1, v2, v3, k =>
    if (8 : Int32) ≤ v3 then
      some (v2, k)
    else
      chk (inb v3 (lenM 247)) <|
      jp (fun J79_19s0 kk20 =>
          lk (v2 + J79_19s0) fun x28 =>
          lk (v3 + (1 : Int32)) fun x32 =>
          fX7_count_L58 n x28 x32 kk20) fun J79_19 =>
      if (k 247 v3.toNatClampNeg) < 0 then
        J79_19 (0 : Int32) k
      else
        J79_19 (1 : Int32) k
def fX7_count  (a1 : Int32) (k : Hp) : Option (Int32 × Hp) :=
  lk (up2 k 246 0 (0 : Int32)) fun kk3 =>
  if a1 = (0 : Int32) then
    fX7_count_L58 4096 (0 : Int32) (0 : Int32) kk3
  else
  if a1 = (1 : Int32) then
    chk (inb (0 : Int32) (lenM 250)) <|
    some (kk3 250 (0 : Int32).toNatClampNeg, kk3)
  else
  if a1 = (2 : Int32) then
    chk (inb (1 : Int32) (lenM 250)) <|
    some (kk3 250 (1 : Int32).toNatClampNeg, kk3)
  else
  if a1 = (3 : Int32) then
    chk (inb (6 : Int32) (lenM 250)) <|
    some (kk3 250 (6 : Int32).toNatClampNeg, kk3)
  else
  if a1 = (4 : Int32) then
    bd (fX7_numbered 250 kk3) fun x58 kk59 =>
    bd (fX7_bits x58 kk59) fun x66 kk67 =>
    some (x66, kk67)
  else
  if a1 = (5 : Int32) then
    bd (fX7_ins 250 kk3) fun x77 kk78 =>
    bd (fX7_bits x77 kk78) fun x85 kk86 =>
    some (x85, kk86)
  else
  if a1 = (6 : Int32) then
    some (kk3 246 9, kk3)
  else
  if a1 = (7 : Int32) then
    some (kk3 246 11, kk3)
  else
  some ((-1000001 : Int32), kk3)
def fX7_status   (k : Hp) : Option (Int32 × Hp) :=
  lk (up2 k 246 0 (0 : Int32)) fun kk3 =>
  some (kk3 246 1, kk3)
