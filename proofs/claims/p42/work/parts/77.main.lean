def kL_law_311 (sL : Nat) (sx : Nat → Int32) (K154 : Int32 → Nat → Nat → Int32 → Int64 → Int32 → Int32 → Int32 → Nat → Int32 → Int32 → ZS → Option (Int32 × ZS)) (v2 : Int32) (v3 : Nat) (v5 : Nat) (v6 : Int32) (v7 : Int64) (v9 : Int32) (v10 : Int32) (v11 : Int32) (v12 : Nat) (v14 : Int32) (v15 : Int32) (v16 : Int32) (vt0 : Int32) (vt1 : Int32) (S : ZS) : Option (Int32 × ZS) :=
      if vt1 = vt0 then
        clR Prod.snd S 3 18 (k8_clarityOf v15 S.g) fun x2 S3 =>
        if x2 < 0 then
          some (0, S3)
        else
          clR Prod.snd S3 3 18 (k8_clarityOf v15 S3.g) fun x5 S6 =>
          if 100 < x5 then
            some (0, S6)
          else
            clR Prod.snd S6 3 18 (k8_bestClarityOf v15 S6.g) fun x8 S9 =>
            if x8 < 0 then
              some (0, S9)
            else
              clR Prod.snd S9 3 18 (k8_bestClarityOf v15 S9.g) fun x11 S12 =>
              if 100 < x11 then
                some (0, S12)
              else
                clR Prod.snd S12 3 18 (k8_offsetOf v15 S12.g) fun x14 S15 =>
                if x14 < (-90) then
                  some (0, S15)
                else
                  clR Prod.snd S15 3 18 (k8_offsetOf v15 S15.g) fun x17 S18 =>
                  if 90 < x17 then
                    some (0, S18)
                  else
                    clR Prod.snd S18 3 18 (k8_tiltBehind v15 S18.g) fun x20 S21 =>
                    if x20 = (2 * v11) then
                      bd (v14 + 1) fun x23 =>
                      K154 v2 v3 v5 v6 v7 v9 v10 v11 v12 v16 x23 S21
                    else
                      some (0, S21)
      else
        some (0, S)
def kL_law_310 (sL : Nat) (sx : Nat → Int32) (K154 : Int32 → Nat → Nat → Int32 → Int64 → Int32 → Int32 → Int32 → Nat → Int32 → Int32 → ZS → Option (Int32 × ZS)) (v2 : Int32) (v3 : Nat) (v5 : Nat) (v6 : Int32) (v7 : Int64) (v9 : Int32) (v10 : Int32) (v11 : Int32) (v12 : Nat) (v14 : Int32) (v15 : Int32) (v16 : Int32) (vt0 : Int32) (S : ZS) : Option (Int32 × ZS) :=
      kL_law_311 sL sx K154 v2 v3 v5 v6 v7 v9 v10 v11 v12 v14 v15 v16 0 vt0 S
def kL_law_283 (sL : Nat) (sx : Nat → Int32) (K154 : Int32 → Nat → Nat → Int32 → Int64 → Int32 → Int32 → Int32 → Nat → Int32 → Int32 → ZS → Option (Int32 × ZS)) (v2 : Int32) (v3 : Nat) (v5 : Nat) (v6 : Int32) (v7 : Int64) (v9 : Int32) (v10 : Int32) (v11 : Int32) (v12 : Nat) (v14 : Int32) (v15 : Int32) (v16 : Int32) (S : ZS) : Option (Int32 × ZS) :=
      clR Prod.snd S 3 18 (k8_isCovered v15 S.g) fun x24 S25 =>
      (k8_minutesToGo S25.g).bind fun x26 =>
      if x26 ≤ 0 then
        kL_law_310 sL sx K154 v2 v3 v5 v6 v7 v9 v10 v11 v12 v14 v15 v16 x24 S25
      else
        clR Prod.snd S25 3 18 (k8_mirrorOfJob 0 S25.g) fun x28 S29 =>
        if x28 = v15 then
          kL_law_311 sL sx K154 v2 v3 v5 v6 v7 v9 v10 v11 v12 v14 v15 v16 1 x24 S29
        else
          kL_law_310 sL sx K154 v2 v3 v5 v6 v7 v9 v10 v11 v12 v14 v15 v16 x24 S29
def kL_law_528 (sL : Nat) (sx : Nat → Int32) (K518 : Int32 → Nat → Nat → Int32 → Int64 → Int32 → Int32 → Int32 → ZS → Option (Int32 × ZS)) : Nat → Int32 → Nat → Nat → Int32 → Int64 → Int32 → Int32 → Int32 → Int32 → ZS → Option (Int32 × ZS)
  | 0, _, _, _, _, _, _, _, _, _, _ => none
  | f + 1, v2, v3, v5, v6, v7, v9, v14, v15, v16, S =>
        if v15 ≤ v16 then
          bd (v15 + 1) fun x32 =>
          K518 v2 v3 v5 v6 v7 v9 v14 x32 S
        else
          clR Prod.snd S 3 18 (k8_kindOfJob v15 S.g) fun x33 S34 =>
          clR Prod.snd S34 3 18 (k8_kindOfJob v16 S34.g) fun x35 S36 =>
          if x33 = x35 then
            clR Prod.snd S36 3 18 (k8_mirrorOfJob v15 S36.g) fun x39 S40 =>
            clR Prod.snd S40 3 18 (k8_mirrorOfJob v16 S40.g) fun x41 S42 =>
            if x39 = x41 then
              some (0, S42)
            else
              bd (v16 + 1) fun x44 =>
              kL_law_528 sL sx K518 f v2 v3 v5 v6 v7 v9 v14 v15 x44 S42
          else
            bd (v16 + 1) fun x38 =>
            kL_law_528 sL sx K518 f v2 v3 v5 v6 v7 v9 v14 v15 x38 S36
def kL_law_925 (sL : Nat) (sx : Nat → Int32) (K771 : Int32 → Nat → Nat → Int32 → Int32 → Int32 → Int32 → Int32 → Int32 → Int32 → Int32 → ZS → Option (Int32 × ZS)) (v2 : Int32) (v3 : Nat) (v5 : Nat) (v6 : Int32) (v19 : Int32) (v20 : Int32) (v21 : Int32) (v22 : Int32) (v23 : Int32) (v24 : Int32) (v25 : Int32) (vt0 : Int32) (vt1 : Int32) (S : ZS) : Option (Int32 × ZS) :=
      if vt1 = vt0 then
        bd (v25 + 1) fun x46 =>
        K771 v2 v3 v5 v6 v19 v20 v21 v22 v23 v24 x46 S
      else
        some (0, S)
def kL_law_913 (sL : Nat) (sx : Nat → Int32) (K771 : Int32 → Nat → Nat → Int32 → Int32 → Int32 → Int32 → Int32 → Int32 → Int32 → Int32 → ZS → Option (Int32 × ZS)) (v2 : Int32) (v3 : Nat) (v5 : Nat) (v6 : Int32) (v19 : Int32) (v20 : Int32) (v21 : Int32) (v22 : Int32) (v23 : Int32) (v24 : Int32) (v25 : Int32) (vt0 : Int32) (S : ZS) : Option (Int32 × ZS) :=
      if v25 = v21 then
        kL_law_925 sL sx K771 v2 v3 v5 v6 v19 v20 v21 v22 v23 v24 v25 1 vt0 S
      else
        kL_law_925 sL sx K771 v2 v3 v5 v6 v19 v20 v21 v22 v23 v24 v25 0 vt0 S
def kL_law_884 (sL : Nat) (sx : Nat → Int32) (K771 : Int32 → Nat → Nat → Int32 → Int32 → Int32 → Int32 → Int32 → Int32 → Int32 → Int32 → ZS → Option (Int32 × ZS)) (v2 : Int32) (v3 : Nat) (v5 : Nat) (v6 : Int32) (v19 : Int32) (v20 : Int32) (v21 : Int32) (v22 : Int32) (v23 : Int32) (v24 : Int32) (v25 : Int32) (S : ZS) : Option (Int32 × ZS) :=
      if v21 ≤ 0 then
        bd (v25 + 1) fun x49 =>
        K771 v2 v3 v5 v6 v19 v20 v21 v22 v23 v24 x49 S
      else
        if v21 < v25 then
          bd (v25 + 1) fun x51 =>
          K771 v2 v3 v5 v6 v19 v20 v21 v22 v23 v24 x51 S
        else
          (k8_jobsDone S.g).bind fun x52 =>
          if (x52 - v22) ≤ v20 then
            kL_law_913 sL sx K771 v2 v3 v5 v6 v19 v20 v21 v22 v23 v24 v25 0 S
          else
            kL_law_913 sL sx K771 v2 v3 v5 v6 v19 v20 v21 v22 v23 v24 v25 1 S
def kL_law_870 (sL : Nat) (sx : Nat → Int32) (K771 : Int32 → Nat → Nat → Int32 → Int32 → Int32 → Int32 → Int32 → Int32 → Int32 → Int32 → ZS → Option (Int32 × ZS)) (v2 : Int32) (v3 : Nat) (v5 : Nat) (v6 : Int32) (v19 : Int32) (v20 : Int32) (v21 : Int32) (v22 : Int32) (v23 : Int32) (v24 : Int32) (v25 : Int32) (S : ZS) : Option (Int32 × ZS) :=
      if 0 ≤ v19 then
        kL_law_884 sL sx K771 v2 v3 v5 v6 v19 v20 v21 v22 v23 v24 v25 S
      else
        clI S (k8_isSeen S.g) fun x55 S56 =>
        if x55 = 0 then
          kL_law_884 sL sx K771 v2 v3 v5 v6 v19 v20 v21 v22 v23 v24 v25 S56
        else
          some (0, S56)
def kL_law_867 (sL : Nat) (sx : Nat → Int32) (K771 : Int32 → Nat → Nat → Int32 → Int32 → Int32 → Int32 → Int32 → Int32 → Int32 → Int32 → ZS → Option (Int32 × ZS)) (v2 : Int32) (v3 : Nat) (v5 : Nat) (v6 : Int32) (v19 : Int32) (v20 : Int32) (v21 : Int32) (v22 : Int32) (v23 : Int32) (v24 : Int32) (v25 : Int32) (vt0 : Int32) (vt1 : Int32) (S : ZS) : Option (Int32 × ZS) :=
      if vt1 = vt0 then
        kL_law_870 sL sx K771 v2 v3 v5 v6 v19 v20 v21 v22 v23 v24 v25 S
      else
        some (0, S)
def kL_law_839 (sL : Nat) (sx : Nat → Int32) (K771 : Int32 → Nat → Nat → Int32 → Int32 → Int32 → Int32 → Int32 → Int32 → Int32 → Int32 → ZS → Option (Int32 × ZS)) (v2 : Int32) (v3 : Nat) (v5 : Nat) (v6 : Int32) (v19 : Int32) (v20 : Int32) (v21 : Int32) (v22 : Int32) (v23 : Int32) (v24 : Int32) (v25 : Int32) (S : ZS) : Option (Int32 × ZS) :=
      if v19 ≤ 0 then
        kL_law_870 sL sx K771 v2 v3 v5 v6 v19 v20 v21 v22 v23 v24 v25 S
      else
        if v19 < v25 then
          kL_law_870 sL sx K771 v2 v3 v5 v6 v19 v20 v21 v22 v23 v24 v25 S
        else
          clI S (k8_isSeen S.g) fun x61 S62 =>
          if v25 = v19 then
            kL_law_867 sL sx K771 v2 v3 v5 v6 v19 v20 v21 v22 v23 v24 v25 1 x61 S62
          else
            kL_law_867 sL sx K771 v2 v3 v5 v6 v19 v20 v21 v22 v23 v24 v25 0 x61 S62
def kL_law_771 (sL : Nat) (sx : Nat → Int32) (K88 : Int32 → Nat → Nat → Int32 → ZS → Option (Int32 × ZS)) : Nat → Int32 → Nat → Nat → Int32 → Int32 → Int32 → Int32 → Int32 → Int32 → Int32 → Int32 → ZS → Option (Int32 × ZS)
  | 0, _, _, _, _, _, _, _, _, _, _, _, _ => none
  | f + 1, v2, v3, v5, v6, v19, v20, v21, v22, v23, v24, v25, S =>
        if v23 < v25 then
          clI S (k8_lightAtEnd S.g) fun x65 S66 =>
          if x65 = v24 then
            clI S66 (k8_bestToClean S66.g) fun x68 S69 =>
            if x68 < 0 then
              bd (v6 + 1) fun x71 =>
              K88 v2 v3 v5 x71 S69
            else
              clR Prod.snd S69 3 18 (k8_clarityOf x68 S69.g) fun x72 S73 =>
              clR Prod.snd S73 3 18 (k8_bestClarityOf x68 S73.g) fun x74 S75 =>
              if x72 < x74 then
                bd (v6 + 1) fun x77 =>
                K88 v2 v3 v5 x77 S75
              else
                some (0, S75)
          else
            some (0, S66)
        else
          (k8_jobsDone S.g).bind fun x78 =>
          clR Prod.snd S 3 18 (k8_passMinutes 1 S.g) fun x79 S80 =>
          rcv S80 v5 14 <| b2 Prod.snd (kX12_pass v5 S80) fun x83 S81 =>
          if x79 = x83 then
            if x79 < 0 then
              some (0, S81)
            else
              if 1 < x79 then
                some (0, S81)
              else
                (k8_jobsDone S81.g).bind fun x87 =>
                if x87 = (x78 + x79) then
                  if x79 = 1 then
                    (k8_minutesToGo S81.g).bind fun x90 =>
                    if x90 ≤ 0 then
                      kL_law_839 sL sx (kL_law_771 sL sx K88 f) v2 v3 v5 v6 v19 v20 v21 v22 v23 v24 v25 S81
                    else
                      some (0, S81)
                  else
                    kL_law_839 sL sx (kL_law_771 sL sx K88 f) v2 v3 v5 v6 v19 v20 v21 v22 v23 v24 v25 S81
                else
                  some (0, S81)
          else
            some (0, S81)
def kL_law_768 (sL : Nat) (sx : Nat → Int32) (K88 : Int32 → Nat → Nat → Int32 → ZS → Option (Int32 × ZS)) (v2 : Int32) (v3 : Nat) (v5 : Nat) (v6 : Int32) (v19 : Int32) (v20 : Int32) (v21 : Int32) (v22 : Int32) (v23 : Int32) (v24 : Int32) (S : ZS) : Option (Int32 × ZS) :=
      kL_law_771 sL sx K88 FU v2 v3 v5 v6 v19 v20 v21 v22 v23 v24 1 S
def kL_law_705 (sL : Nat) (sx : Nat → Int32) (K88 : Int32 → Nat → Nat → Int32 → ZS → Option (Int32 × ZS)) (v2 : Int32) (v3 : Nat) (v5 : Nat) (v6 : Int32) (v7 : Int64) (v19 : Int32) (v20 : Int32) (vt0 : Int32) (S : ZS) : Option (Int32 × ZS) :=
      bd vt0 fun x92 =>
      (k8_jobsDone S.g).bind fun x93 =>
      rcv S v3 11 <| b2 Prod.snd (kX9_next v3 25 S) fun x96 S94 =>
      bd (1 + x96) fun x97 =>
      clR Prod.snd S94 3 18 (k8_lightAfter x97 S94.g) fun x98 S99 =>
      clI S99 (k8_digest S99.g) fun x100 S101 =>
      if (lg_cmp x100 v7) = 0 then
        if x92 = 0 then
          some (0, S101)
        else
          if v20 ≤ 0 then
            kL_law_768 sL sx K88 v2 v3 v5 v6 v19 v20 x92 x93 x97 x98 S101
          else
            if x92 ≤ 0 then
              kL_law_768 sL sx K88 v2 v3 v5 v6 v19 v20 x92 x93 x97 x98 S101
            else
              clR Prod.snd S101 3 18 (k8_minutesUntilDone 0 S101.g) fun x106 S107 =>
              if x106 < x92 then
                kL_law_768 sL sx K88 v2 v3 v5 v6 v19 v20 x92 x93 x97 x98 S107
              else
                some (0, S107)
      else
        some (0, S101)
def kL_law_688 (sL : Nat) (sx : Nat → Int32) (K88 : Int32 → Nat → Nat → Int32 → ZS → Option (Int32 × ZS)) (v2 : Int32) (v3 : Nat) (v5 : Nat) (v6 : Int32) (v7 : Int64) (v19 : Int32) (vt0 : Int32) (S : ZS) : Option (Int32 × ZS) :=
      bd vt0 fun x109 =>
      if 0 ≤ x109 then
        clR Prod.snd S 3 18 (k8_minutesUntilDone x109 S.g) fun x111 S112 =>
        kL_law_705 sL sx K88 v2 v3 v5 v6 v7 v19 x109 x111 S112
      else
        kL_law_705 sL sx K88 v2 v3 v5 v6 v7 v19 x109 (-1) S
def kL_law_518 (sL : Nat) (sx : Nat → Int32) (K88 : Int32 → Nat → Nat → Int32 → ZS → Option (Int32 × ZS)) : Nat → Int32 → Nat → Nat → Int32 → Int64 → Int32 → Int32 → Int32 → ZS → Option (Int32 × ZS)
  | 0, _, _, _, _, _, _, _, _, _ => none
  | f + 1, v2, v3, v5, v6, v7, v9, v14, v15, S =>
        if v14 ≤ v15 then
          rcv S v3 11 <| b2 Prod.snd (kX9_next v3 v9 S) fun x116 S114 =>
          clR Prod.snd S114 3 18 (k8_offsetOf x116 S114.g) fun x117 S118 =>
          clI S118 (k8_lightAtEnd S118.g) fun x119 S120 =>
          clR Prod.snd S120 3 18 (k8_bestOffset x116 S120.g) fun x121 S122 =>
          clR Prod.snd S122 3 18 (k8_turnMirror x116 x121 S122.g) fun x123 S124 =>
          if x123 = x117 then
            clI S124 (k8_lightAtEnd S124.g) fun x126 S127 =>
            if x126 < x119 then
              some (0, S127)
            else
              clR Prod.snd S127 3 18 (k8_bestOffset x116 S127.g) fun x129 S130 =>
              if x129 = x121 then
                clR Prod.snd S130 3 18 (k8_turnMirror x116 x117 S130.g) fun x132 S133 =>
                if x132 = x121 then
                  clI S133 (k8_digest S133.g) fun x135 S136 =>
                  if (lg_cmp x135 v7) = 0 then
                    clI S136 (k8_minutesUntilSeen S136.g) fun x138 S139 =>
                    if v14 = 0 then
                      kL_law_688 sL sx K88 v2 v3 v5 v6 v7 x138 (-1) S139
                    else
                      rcv S139 v3 11 <| b2 Prod.snd (kX9_next v3 v14 S139) fun x143 S141 =>
                      kL_law_688 sL sx K88 v2 v3 v5 v6 v7 x138 x143 S141
                  else
                    some (0, S136)
                else
                  some (0, S133)
              else
                some (0, S130)
          else
            some (0, S124)
        else
          kL_law_528 sL sx (kL_law_518 sL sx K88 f) FU v2 v3 v5 v6 v7 v9 v14 v15 0 S
def kL_law_506 (sL : Nat) (sx : Nat → Int32) (K88 : Int32 → Nat → Nat → Int32 → ZS → Option (Int32 × ZS)) (v2 : Int32) (v3 : Nat) (v5 : Nat) (v6 : Int32) (v7 : Int64) (v9 : Int32) (v14 : Int32) (vt0 : Int32) (S : ZS) : Option (Int32 × ZS) :=
      clI S (k8_isSeen S.g) fun x144 S145 =>
      if vt0 = x144 then
        kL_law_518 sL sx K88 FU v2 v3 v5 v6 v7 v9 v14 0 S145
      else
        some (0, S145)
def kL_law_491 (sL : Nat) (sx : Nat → Int32) (K88 : Int32 → Nat → Nat → Int32 → ZS → Option (Int32 × ZS)) (v2 : Int32) (v3 : Nat) (v5 : Nat) (v6 : Int32) (v7 : Int64) (v9 : Int32) (v14 : Int32) (vt0 : Int32) (vt1 : Int32) (S : ZS) : Option (Int32 × ZS) :=
      if vt1 = vt0 then
        clI S (k8_minutesUntilSeen S.g) fun x148 S149 =>
        if x148 = 0 then
          kL_law_506 sL sx K88 v2 v3 v5 v6 v7 v9 v14 1 S149
        else
          kL_law_506 sL sx K88 v2 v3 v5 v6 v7 v9 v14 0 S149
      else
        some (0, S)
def kL_law_490 (sL : Nat) (sx : Nat → Int32) (K88 : Int32 → Nat → Nat → Int32 → ZS → Option (Int32 × ZS)) (v2 : Int32) (v3 : Nat) (v5 : Nat) (v6 : Int32) (v7 : Int64) (v9 : Int32) (v14 : Int32) (vt0 : Int32) (S : ZS) : Option (Int32 × ZS) :=
      kL_law_491 sL sx K88 v2 v3 v5 v6 v7 v9 v14 0 vt0 S
def kL_law_455 (sL : Nat) (sx : Nat → Int32) (K88 : Int32 → Nat → Nat → Int32 → ZS → Option (Int32 × ZS)) (v2 : Int32) (v3 : Nat) (v5 : Nat) (v6 : Int32) (v7 : Int64) (v9 : Int32) (v14 : Int32) (S : ZS) : Option (Int32 × ZS) :=
      clI S (k8_isSeen S.g) fun x151 S152 =>
      clI S152 (k8_lightAtEnd S152.g) fun x153 S154 =>
      gI S154 v5 14 1 fun x155 =>
      if x153 < x155 then
        kL_law_490 sL sx K88 v2 v3 v5 v6 v7 v9 v14 x151 S154
      else
        clI S154 (k8_tiltAtEnd S154.g) fun x157 S158 =>
        bd (if 0 ≤ x157 then x157 else 0 - x157) fun x159 =>
        gI S158 v5 14 0 fun x160 =>
        if x160 < x159 then
          kL_law_490 sL sx K88 v2 v3 v5 v6 v7 v9 v14 x151 S158
        else
          kL_law_491 sL sx K88 v2 v3 v5 v6 v7 v9 v14 1 x151 S158
def kL_law_154 (sL : Nat) (sx : Nat → Int32) (K88 : Int32 → Nat → Nat → Int32 → ZS → Option (Int32 × ZS)) : Nat → Int32 → Nat → Nat → Int32 → Int64 → Int32 → Int32 → Int32 → Nat → Int32 → Int32 → ZS → Option (Int32 × ZS)
  | 0, _, _, _, _, _, _, _, _, _, _, _, _ => none
  | f + 1, v2, v3, v5, v6, v7, v9, v10, v11, v12, v13, v14, S =>
        if v9 ≤ v14 then
          (k8_jobs S.g).bind fun x163 =>
          clI S (k8_lightAtEnd S.g) fun x164 S165 =>
          if (v10 + x164) = 10000 then
            clI S165 (k8_tiltAtEnd S165.g) fun x167 S168 =>
            if x167 = (2 * v11) then
              if x163 < 0 then
                some (0, S168)
              else
                if 12 < x163 then
                  some (0, S168)
                else
                  (k8_minutesToGo S168.g).bind fun x172 =>
                  if x172 ≤ 0 then
                    kL_law_455 sL sx K88 v2 v3 v5 v6 v7 v9 x163 S168
                  else
                    if x163 = 0 then
                      some (0, S168)
                    else
                      kL_law_455 sL sx K88 v2 v3 v5 v6 v7 v9 x163 S168
            else
              some (0, S168)
          else
            some (0, S165)
        else
          clR Prod.snd S 3 18 (k8_mirrorAt v14 S.g) fun x175 S176 =>
          aG S176 v12 300000 x175 fun x177 =>
          if x177 = 0 then
            clR Prod.snd S176 3 18 (k8_placeOf x175 S176.g) fun x179 S180 =>
            if x179 = v14 then
              aP S180 v12 300000 x175 1 fun S182 =>
              clR Prod.snd S182 3 18 (k8_lightBehind x175 S182.g) fun x183 S184 =>
              clR Prod.snd S184 3 18 (k8_lostAt x175 S184.g) fun x185 S186 =>
              bd (v10 + x185) fun x187 =>
              clR Prod.snd S186 3 18 (k8_offsetOf x175 S186.g) fun x188 S189 =>
              bd (v11 + x188) fun x190 =>
              if x183 < 0 then
                some (0, S189)
              else
                if v13 < x183 then
                  some (0, S189)
                else
                  clR Prod.snd S189 3 18 (k8_lostAt x175 S189.g) fun x193 S194 =>
                  if x193 = (v13 - x183) then
                    clR Prod.snd S194 3 18 (k8_lostAt x175 S194.g) fun x196 S197 =>
                    clR Prod.snd S197 3 18 (k8_worstMirror S197.g) fun x198 S199 =>
                    clR Prod.snd S199 3 18 (k8_lostAt x198 S199.g) fun x200 S201 =>
                    if x200 < x196 then
                      some (0, S201)
                    else
                      clR Prod.snd S201 3 18 (k8_isCovered x175 S201.g) fun x203 S204 =>
                      if x203 = 0 then
                        kL_law_283 sL sx (kL_law_154 sL sx K88 f) v2 v3 v5 v6 v7 v9 x187 x190 v12 v14 x175 x183 S204
                      else
                        if 0 < x183 then
                          some (0, S204)
                        else
                          kL_law_283 sL sx (kL_law_154 sL sx K88 f) v2 v3 v5 v6 v7 v9 x187 x190 v12 v14 x175 x183 S204
                  else
                    some (0, S194)
            else
              some (0, S180)
          else
            some (0, S176)
def kL_law_98 (sL : Nat) (sx : Nat → Int32) (K88 : Int32 → Nat → Nat → Int32 → ZS → Option (Int32 × ZS)) : Nat → Int32 → Nat → Nat → Int32 → Int32 → ZS → Option (Int32 × ZS)
  | 0, _, _, _, _, _, _ => none
  | f + 1, v2, v3, v5, v6, v7, S =>
        if 2 ≤ v7 then
          clI S (k8_digest S.g) fun x208 S209 =>
          (k8_mirrors S209.g).bind fun x210 =>
          nA Prod.snd S209 300000 x210 fun c211 S212 =>
          kL_law_154 sL sx K88 FU v2 v3 v5 v6 x208 x210 0 0 c211 10000 0 S212
        else
          b2 Prod.snd (kL_act v5 v3 S) fun x216 S214 =>
          if x216 = 0 then
            some (0, S214)
          else
            bd (v7 + 1) fun x218 =>
            kL_law_98 sL sx K88 f v2 v3 v5 v6 x218 S214
def kL_law_1118 (sL : Nat) (sx : Nat → Int32) (K10 : Int32 → ZS → Option (Int32 × ZS)) (v2 : Int32) (v6 : Int32) (v8 : Int32) (v9 : Int32) (S : ZS) : Option (Int32 × ZS) :=
      if 0 ≤ v8 then
        bd (v2 + 1) fun x220 =>
        K10 x220 S
      else
        if v9 ≤ 0 then
          bd (v2 + 1) fun x222 =>
          K10 x222 S
        else
          if 100 ≤ v6 then
            bd (v2 + 1) fun x224 =>
            K10 x224 S
          else
            some (0, S)
def kL_law_88 (sL : Nat) (sx : Nat → Int32) (K10 : Int32 → ZS → Option (Int32 × ZS)) : Nat → Int32 → Nat → Nat → Int32 → ZS → Option (Int32 × ZS)
  | 0, _, _, _, _, _ => none
  | f + 1, v2, v3, v5, v6, S =>
        if 8 ≤ v6 then
          rcv S v5 14 <| b2 Prod.snd (kX12_isSame v5 S) fun x228 S226 =>
          if x228 = 0 then
            some (0, S226)
          else
            rcv S226 v3 11 <| b2 Prod.snd (kX9_next v3 101 S226) fun x232 S230 =>
            rcv S230 v3 11 <| b2 Prod.snd (kX9_next v3 99 S230) fun x235 S233 =>
            bd (1 + x235) fun x236 =>
            nO Prod.snd S233 1 4 fun c237 S238 =>
            b1 Prod.snd (kJ4_init_da8c8 c237 S238) fun S240 =>
            rcv S240 c237 1 <| b2 Prod.snd (kJ4_append_15ec4_S c237 70 S240) fun c244 S242 =>
            rcv S242 c244 1 <| b2 Prod.snd (kJ4_append_bf812 c244 x232 S242) fun c247 S245 =>
            rcv S245 c247 1 <| b2 Prod.snd (kJ4_append_15ec4_S c247 71 S245) fun c250 S248 =>
            rcv S248 c250 1 <| b2 Prod.snd (kJ4_append_bf812 c250 x236 S248) fun c253 S251 =>
            rcv S251 c253 1 <| b2 Prod.snd (kJ4_append_15ec4_S c253 72 S251) fun c256 S254 =>
            rcv S254 c256 1 <| b2 Prod.snd (kJ4_toString_0e30d c256 S254) fun c259 S257 =>
            b2 Prod.snd (kL_taught c259 S257) fun x262 S260 =>
            if x262 = 0 then
              clI S260 (k8_bestToClean S260.g) fun x264 S265 =>
              clI S265 (k8_lightAtEnd S265.g) fun x266 S267 =>
              if x264 < 0 then
                kL_law_1118 sL sx K10 v2 x232 x264 x266 S267
              else
                clR Prod.snd S267 3 18 (k8_orderJob x264 0 S267.g) fun x269 S270 =>
                if x269 = 1 then
                  clR Prod.snd S270 3 18 (k8_minutesUntilDone 0 S270.g) fun x272 S273 =>
                  clR Prod.snd S273 3 18 (k8_passMinutes x272 S273.g) fun x274 S275 =>
                  if x274 = 1 then
                    clI S275 (k8_lightAtEnd S275.g) fun x277 S278 =>
                    if x277 ≤ x266 then
                      some (0, S278)
                    else
                      clR Prod.snd S278 3 18 (k8_clarityOf x264 S278.g) fun x280 S281 =>
                      if x280 = 100 then
                        kL_law_1118 sL sx K10 v2 x232 x264 x266 S281
                      else
                        some (0, S281)
                  else
                    some (0, S275)
                else
                  some (0, S270)
            else
              some (0, S260)
        else
          kL_law_98 sL sx (kL_law_88 sL sx K10 f) FU v2 v3 v5 v6 0 S
def kL_law_10 (sL : Nat) (sx : Nat → Int32)  : Nat → Int32 → ZS → Option (Int32 × ZS)
  | 0, _, _ => none
  | f + 1, v2, S =>
        if 2 ≤ v2 then
          some (1, S)
        else
          nO Prod.snd S 11 1 fun c284 S285 =>
          b2 Prod.snd (kL_cell sL sx v2 S285) fun x289 S287 =>
          b2 Prod.snd (kL_cell sL sx (v2 + 3) S287) fun x292 S290 =>
          b2 Prod.snd (kL_cell sL sx (v2 + 6) S290) fun x295 S293 =>
          b1 Prod.snd (kX9_init c284 ((x289 ^^^ (x292 * 31)) ^^^ (x295 * 1009)) S293) fun S296 =>
          nO Prod.snd S296 1 4 fun c298 S299 =>
          b1 Prod.snd (kJ4_init_da8c8 c298 S299) fun S301 =>
          b2 Prod.snd (kL_drawn c284 c298 1 4 S301) fun c305 S303 =>
          rcv S303 c298 1 <| b2 Prod.snd (kJ4_toString_0e30d c298 S303) fun c308 S306 =>
          b2 Prod.snd (kL_taught c308 S306) fun x311 S309 =>
          if x311 = 0 then
            kL_law_88 sL sx (kL_law_10 sL sx f) FU v2 c284 c305 0 S309
          else
            some (0, S309)
def kL_law (sL : Nat) (sx : Nat → Int32)  (S0 : ZS) : Option (Int32 × ZS) :=
  chk Prod.snd S0 <|
  kL_law_10 sL sx FU 0 S0
set_option maxRecDepth 100000 in
set_option maxHeartbeats 8000000 in
theorem jL_law_311 {E : EV} {l : Launch} (hst : l.stackTraces = false) {u : Int32 × ZS} {p : Program} {e : Env} {s : State} {m : MethodId} {args : Array Value} {below : List Frame} {meth : Method} {c : Code} {F : FT} {Q : State → Prop} (C : Cx p s m args meth c cL_law 28 RL E) (hA : CA F E s) (hU : F.uc = u.2.c ∧ F.uw = u.2.w) (hq : LQ p l e (F.R 1400) s m args below meth c E F u Q) : ∀ (K154 : Int32 → Nat → Nat → Int32 → Int64 → Int32 → Int32 → Int32 → Nat → Int32 → Int32 → ZS → Option (Int32 × ZS)), (∀ (v2 : Int32) (v3 : Nat) (v5 : Nat) (v6 : Int32) (v7 : Int64) (v9 : Int32) (v10 : Int32) (v11 : Int32) (v12 : Nat) (v13 : Int32) (v14 : Int32) (S : ZS) (ad : Nat → Nat) (N : Nat) (bv3 : Nat) (bv5 : Nat) (bv12 : Nat) (H : Heap) (locs : List Loc) (ls : Array Slot) (cells slots : Nat), GL E s F H locs ad N S cells slots → RA E ad N v3 bv3 → RA E ad N v5 bv5 → RA E ad N v12 bv12 → lv_has ls 28 [(0, .ref E.sb), (1, .ref (E.ad 0)), (2, .int v2), (3, .ref bv3), (5, .ref bv5), (6, .int v6), (7, .long v7), (9, .int v9), (10, .int v10), (11, .int v11), (12, .ref bv12), (13, .int v13), (14, .int v14)] → K154 v2 v3 v5 v6 v7 v9 v10 v11 v12 v13 v14 S = some u → W p l e (F.R 1400) s m args below meth c H locs cells slots Q (F0 m 154 ls [])) → ∀ (v2 : Int32) (v3 : Nat) (v5 : Nat) (v6 : Int32) (v7 : Int64) (v9 : Int32) (v10 : Int32) (v11 : Int32) (v12 : Nat) (v14 : Int32) (v15 : Int32) (v16 : Int32) (vt0 : Int32) (vt1 : Int32) (S : ZS) (ad : Nat → Nat) (N : Nat) (bv3 : Nat) (bv5 : Nat) (bv12 : Nat) (H : Heap) (locs : List Loc) (ls : Array Slot) (cells slots : Nat), GL E s F H locs ad N S cells slots → RA E ad N v3 bv3 → RA E ad N v5 bv5 → RA E ad N v12 bv12 → lv_has ls 28 [(0, .ref E.sb), (1, .ref (E.ad 0)), (2, .int v2), (3, .ref bv3), (5, .ref bv5), (6, .int v6), (7, .long v7), (9, .int v9), (10, .int v10), (11, .int v11), (12, .ref bv12), (14, .int v14), (15, .int v15), (16, .int v16)] → kL_law_311 E.sL E.sx K154 v2 v3 v5 v6 v7 v9 v10 v11 v12 v14 v15 v16 vt0 vt1 S = some u → W p l e (F.R 1400) s m args below meth c H locs cells slots Q (F0 m 311 ls [.int vt0, .int vt1]) := by
    have hx := C.1
    have hb := C.2.1
    intro K154 hK154 v2 v3 v5 v6 v7 v9 v10 v11 v12 v14 v15 v16 vt0 vt1 S ad N bv3 bv5 bv12 H locs ls cells slots hG hv3 hv5 hv12 hl h
    unfold kL_law_311 at h
    refine lv_icmp_ne (tgt := 389) hx hb dL_law_311 (by decide) (fun g1 => ?_) (fun g1 => ?_)
    · have h := (if_inv h).2 g1
      refine lv_iconst (v := 0) hx hb dL_law_389 (by decide) ?_
      exact lw9_ret hq hG dL_law_390 h
    · have h := (if_inv h).1 g1
      refine lv_aload_n hx hb dL_law_314 rfl (lv_at hl 1 rfl) ?_
      refine lv_iload hx hb dL_law_315 (lv_at hl 12 rfl) ?_
      refine r2_clR C hA hl.1 hG [.int v15] [] (m8_clarityOf E l hst v15 S.g) QCL_210.1 QCL_210.2 KC8 rfl (rm2 (by decide) (by decide)) (Nat.le_of_ble_eq_true rfl) rfl dL_law_317 hU h (fun x2 S3 H locs cells slots hG h => ?_)
      refine lv_if_lt (tgt := 389) hx hb dL_law_320 (by decide) (fun g4 => ?_) (fun g4 => ?_)
      · have h := (if_inv h).1 g4
        refine lv_iconst (v := 0) hx hb dL_law_389 (by decide) ?_
        exact lw9_ret hq hG dL_law_390 h
      · have h := (if_inv h).2 g4
        refine lv_aload_n hx hb dL_law_323 rfl (lv_at hl 1 rfl) ?_
        refine lv_iload hx hb dL_law_324 (lv_at hl 12 rfl) ?_
        refine r2_clR C hA hl.1 hG [.int v15] [] (m8_clarityOf E l hst v15 S3.g) QCL_210.1 QCL_210.2 KC8 rfl (rm2 (by decide) (by decide)) (Nat.le_of_ble_eq_true rfl) rfl dL_law_326 hU h (fun x5 S6 H locs cells slots hG h => ?_)
        refine lv_bipush (v := 100) hx hb dL_law_329 (by decide) ?_
        refine lv_icmp_gt (tgt := 389) hx hb dL_law_331 (by decide) (fun g7 => ?_) (fun g7 => ?_)
        · have h := (if_inv h).1 g7
          refine lv_iconst (v := 0) hx hb dL_law_389 (by decide) ?_
          exact lw9_ret hq hG dL_law_390 h
        · have h := (if_inv h).2 g7
          refine lv_aload_n hx hb dL_law_334 rfl (lv_at hl 1 rfl) ?_
          refine lv_iload hx hb dL_law_335 (lv_at hl 12 rfl) ?_
          refine r2_clR C hA hl.1 hG [.int v15] [] (m8_bestClarityOf E l hst v15 S6.g) QCL_213.1 QCL_213.2 KC8 rfl (rm2 (by decide) (by decide)) (Nat.le_of_ble_eq_true rfl) rfl dL_law_337 hU h (fun x8 S9 H locs cells slots hG h => ?_)
          refine lv_if_lt (tgt := 389) hx hb dL_law_340 (by decide) (fun g10 => ?_) (fun g10 => ?_)
          · have h := (if_inv h).1 g10
            refine lv_iconst (v := 0) hx hb dL_law_389 (by decide) ?_
            exact lw9_ret hq hG dL_law_390 h
          · have h := (if_inv h).2 g10
            refine lv_aload_n hx hb dL_law_343 rfl (lv_at hl 1 rfl) ?_
            refine lv_iload hx hb dL_law_344 (lv_at hl 12 rfl) ?_
            refine r2_clR C hA hl.1 hG [.int v15] [] (m8_bestClarityOf E l hst v15 S9.g) QCL_213.1 QCL_213.2 KC8 rfl (rm2 (by decide) (by decide)) (Nat.le_of_ble_eq_true rfl) rfl dL_law_346 hU h (fun x11 S12 H locs cells slots hG h => ?_)
            refine lv_bipush (v := 100) hx hb dL_law_349 (by decide) ?_
            refine lv_icmp_gt (tgt := 389) hx hb dL_law_351 (by decide) (fun g13 => ?_) (fun g13 => ?_)
            · have h := (if_inv h).1 g13
              refine lv_iconst (v := 0) hx hb dL_law_389 (by decide) ?_
              exact lw9_ret hq hG dL_law_390 h
            · have h := (if_inv h).2 g13
              refine lv_aload_n hx hb dL_law_354 rfl (lv_at hl 1 rfl) ?_
              refine lv_iload hx hb dL_law_355 (lv_at hl 12 rfl) ?_
              refine r2_clR C hA hl.1 hG [.int v15] [] (m8_offsetOf E l hst v15 S12.g) QCL_194.1 QCL_194.2 KC8 rfl (rm2 (by decide) (by decide)) (Nat.le_of_ble_eq_true rfl) rfl dL_law_357 hU h (fun x14 S15 H locs cells slots hG h => ?_)
              refine lv_bipush (v := (-90)) hx hb dL_law_360 (by decide) ?_
              refine lv_icmp_lt (tgt := 389) hx hb dL_law_362 (by decide) (fun g16 => ?_) (fun g16 => ?_)
              · have h := (if_inv h).1 g16
                refine lv_iconst (v := 0) hx hb dL_law_389 (by decide) ?_
                exact lw9_ret hq hG dL_law_390 h
              · have h := (if_inv h).2 g16
                refine lv_aload_n hx hb dL_law_365 rfl (lv_at hl 1 rfl) ?_
                refine lv_iload hx hb dL_law_366 (lv_at hl 12 rfl) ?_
                refine r2_clR C hA hl.1 hG [.int v15] [] (m8_offsetOf E l hst v15 S15.g) QCL_194.1 QCL_194.2 KC8 rfl (rm2 (by decide) (by decide)) (Nat.le_of_ble_eq_true rfl) rfl dL_law_368 hU h (fun x17 S18 H locs cells slots hG h => ?_)
                refine lv_bipush (v := 90) hx hb dL_law_371 (by decide) ?_
                refine lv_icmp_gt (tgt := 389) hx hb dL_law_373 (by decide) (fun g19 => ?_) (fun g19 => ?_)
                · have h := (if_inv h).1 g19
                  refine lv_iconst (v := 0) hx hb dL_law_389 (by decide) ?_
                  exact lw9_ret hq hG dL_law_390 h
                · have h := (if_inv h).2 g19
                  refine lv_aload_n hx hb dL_law_376 rfl (lv_at hl 1 rfl) ?_
                  refine lv_iload hx hb dL_law_377 (lv_at hl 12 rfl) ?_
                  refine r2_clR C hA hl.1 hG [.int v15] [] (m8_tiltBehind E l hst v15 S18.g) QCL_216.1 QCL_216.2 KC8 rfl (rm2 (by decide) (by decide)) (Nat.le_of_ble_eq_true rfl) rfl dL_law_379 hU h (fun x20 S21 H locs cells slots hG h => ?_)
                  refine lv_iconst (v := 2) hx hb dL_law_382 (by decide) ?_
                  refine lv_iload hx hb dL_law_383 (lv_at hl 9 rfl) ?_
                  refine lv_imul hx hb dL_law_385 ?_
                  refine lv_icmp_eq (tgt := 391) hx hb dL_law_386 (by decide) (fun g22 => ?_) (fun g22 => ?_)
                  · have h := (if_inv h).1 g22
                    refine lv_iload hx hb dL_law_391 (lv_at hl 13 rfl) ?_
                    refine lv_istore (lv' := [(13, .int v16), (0, .ref E.sb), (1, .ref (E.ad 0)), (2, .int v2), (3, .ref bv3), (5, .ref bv5), (6, .int v6), (7, .long v7), (9, .int v9), (10, .int v10), (11, .int v11), (12, .ref bv12), (14, .int v14), (15, .int v15), (16, .int v16)]) hx hb dL_law_393 hl (by decide) rfl (fun ls hl => ?_)
                    refine r_iinc (w := 1) (lv' := fun x23 => [(14, .int x23), (13, .int v16), (0, .ref E.sb), (1, .ref (E.ad 0)), (2, .int v2), (3, .ref bv3), (5, .ref bv5), (6, .int v6), (7, .long v7), (9, .int v9), (10, .int v10), (11, .int v11), (12, .ref bv12), (15, .int v15), (16, .int v16)]) C dL_law_395 hl (k := 12) rfl (by decide) (by decide) (fun _ => rfl) h (fun x23 ls hl h => ?_)
                    refine lv_goto (tgt := 154) hx hb dL_law_398 (by decide) ?_
                    exact hK154 v2 v3 v5 v6 v7 v9 v10 v11 v12 v16 x23 S21 _ _ _ _ _ _ _ _ _ _ hG hv3 hv5 hv12 (lv_sub hl [2, 3, 4, 5, 6, 7, 8, 9, 10, 11, 12, 1, 0] rfl) h
                  · have h := (if_inv h).2 g22
                    refine lv_iconst (v := 0) hx hb dL_law_389 (by decide) ?_
                    exact lw9_ret hq hG dL_law_390 h
set_option maxRecDepth 100000 in
set_option maxHeartbeats 8000000 in
theorem jL_law_310 {E : EV} {l : Launch} (hst : l.stackTraces = false) {u : Int32 × ZS} {p : Program} {e : Env} {s : State} {m : MethodId} {args : Array Value} {below : List Frame} {meth : Method} {c : Code} {F : FT} {Q : State → Prop} (C : Cx p s m args meth c cL_law 28 RL E) (hA : CA F E s) (hU : F.uc = u.2.c ∧ F.uw = u.2.w) (hq : LQ p l e (F.R 1400) s m args below meth c E F u Q) : ∀ (K154 : Int32 → Nat → Nat → Int32 → Int64 → Int32 → Int32 → Int32 → Nat → Int32 → Int32 → ZS → Option (Int32 × ZS)), (∀ (v2 : Int32) (v3 : Nat) (v5 : Nat) (v6 : Int32) (v7 : Int64) (v9 : Int32) (v10 : Int32) (v11 : Int32) (v12 : Nat) (v13 : Int32) (v14 : Int32) (S : ZS) (ad : Nat → Nat) (N : Nat) (bv3 : Nat) (bv5 : Nat) (bv12 : Nat) (H : Heap) (locs : List Loc) (ls : Array Slot) (cells slots : Nat), GL E s F H locs ad N S cells slots → RA E ad N v3 bv3 → RA E ad N v5 bv5 → RA E ad N v12 bv12 → lv_has ls 28 [(0, .ref E.sb), (1, .ref (E.ad 0)), (2, .int v2), (3, .ref bv3), (5, .ref bv5), (6, .int v6), (7, .long v7), (9, .int v9), (10, .int v10), (11, .int v11), (12, .ref bv12), (13, .int v13), (14, .int v14)] → K154 v2 v3 v5 v6 v7 v9 v10 v11 v12 v13 v14 S = some u → W p l e (F.R 1400) s m args below meth c H locs cells slots Q (F0 m 154 ls [])) → ∀ (v2 : Int32) (v3 : Nat) (v5 : Nat) (v6 : Int32) (v7 : Int64) (v9 : Int32) (v10 : Int32) (v11 : Int32) (v12 : Nat) (v14 : Int32) (v15 : Int32) (v16 : Int32) (vt0 : Int32) (S : ZS) (ad : Nat → Nat) (N : Nat) (bv3 : Nat) (bv5 : Nat) (bv12 : Nat) (H : Heap) (locs : List Loc) (ls : Array Slot) (cells slots : Nat), GL E s F H locs ad N S cells slots → RA E ad N v3 bv3 → RA E ad N v5 bv5 → RA E ad N v12 bv12 → lv_has ls 28 [(0, .ref E.sb), (1, .ref (E.ad 0)), (2, .int v2), (3, .ref bv3), (5, .ref bv5), (6, .int v6), (7, .long v7), (9, .int v9), (10, .int v10), (11, .int v11), (12, .ref bv12), (14, .int v14), (15, .int v15), (16, .int v16)] → kL_law_310 E.sL E.sx K154 v2 v3 v5 v6 v7 v9 v10 v11 v12 v14 v15 v16 vt0 S = some u → W p l e (F.R 1400) s m args below meth c H locs cells slots Q (F0 m 310 ls [.int vt0]) := by
    have hx := C.1
    have hb := C.2.1
    intro K154 hK154 v2 v3 v5 v6 v7 v9 v10 v11 v12 v14 v15 v16 vt0 S ad N bv3 bv5 bv12 H locs ls cells slots hG hv3 hv5 hv12 hl h
    unfold kL_law_310 at h
    refine lv_iconst (v := 0) hx hb dL_law_310 (by decide) ?_
    exact jL_law_311 hst C hA hU hq K154 hK154 v2 v3 v5 v6 v7 v9 v10 v11 v12 v14 v15 v16 0 vt0 S _ _ _ _ _ _ _ _ _ _ hG hv3 hv5 hv12 (lv_sub hl [0, 1, 2, 3, 4, 5, 6, 7, 8, 9, 10, 11, 12, 13] rfl) h
set_option maxRecDepth 100000 in
set_option maxHeartbeats 8000000 in
theorem jL_law_283 {E : EV} {l : Launch} (hst : l.stackTraces = false) {u : Int32 × ZS} {p : Program} {e : Env} {s : State} {m : MethodId} {args : Array Value} {below : List Frame} {meth : Method} {c : Code} {F : FT} {Q : State → Prop} (C : Cx p s m args meth c cL_law 28 RL E) (hA : CA F E s) (hU : F.uc = u.2.c ∧ F.uw = u.2.w) (hq : LQ p l e (F.R 1400) s m args below meth c E F u Q) : ∀ (K154 : Int32 → Nat → Nat → Int32 → Int64 → Int32 → Int32 → Int32 → Nat → Int32 → Int32 → ZS → Option (Int32 × ZS)), (∀ (v2 : Int32) (v3 : Nat) (v5 : Nat) (v6 : Int32) (v7 : Int64) (v9 : Int32) (v10 : Int32) (v11 : Int32) (v12 : Nat) (v13 : Int32) (v14 : Int32) (S : ZS) (ad : Nat → Nat) (N : Nat) (bv3 : Nat) (bv5 : Nat) (bv12 : Nat) (H : Heap) (locs : List Loc) (ls : Array Slot) (cells slots : Nat), GL E s F H locs ad N S cells slots → RA E ad N v3 bv3 → RA E ad N v5 bv5 → RA E ad N v12 bv12 → lv_has ls 28 [(0, .ref E.sb), (1, .ref (E.ad 0)), (2, .int v2), (3, .ref bv3), (5, .ref bv5), (6, .int v6), (7, .long v7), (9, .int v9), (10, .int v10), (11, .int v11), (12, .ref bv12), (13, .int v13), (14, .int v14)] → K154 v2 v3 v5 v6 v7 v9 v10 v11 v12 v13 v14 S = some u → W p l e (F.R 1400) s m args below meth c H locs cells slots Q (F0 m 154 ls [])) → ∀ (v2 : Int32) (v3 : Nat) (v5 : Nat) (v6 : Int32) (v7 : Int64) (v9 : Int32) (v10 : Int32) (v11 : Int32) (v12 : Nat) (v14 : Int32) (v15 : Int32) (v16 : Int32) (S : ZS) (ad : Nat → Nat) (N : Nat) (bv3 : Nat) (bv5 : Nat) (bv12 : Nat) (H : Heap) (locs : List Loc) (ls : Array Slot) (cells slots : Nat), GL E s F H locs ad N S cells slots → RA E ad N v3 bv3 → RA E ad N v5 bv5 → RA E ad N v12 bv12 → lv_has ls 28 [(0, .ref E.sb), (1, .ref (E.ad 0)), (2, .int v2), (3, .ref bv3), (5, .ref bv5), (6, .int v6), (7, .long v7), (9, .int v9), (10, .int v10), (11, .int v11), (12, .ref bv12), (14, .int v14), (15, .int v15), (16, .int v16)] → kL_law_283 E.sL E.sx K154 v2 v3 v5 v6 v7 v9 v10 v11 v12 v14 v15 v16 S = some u → W p l e (F.R 1400) s m args below meth c H locs cells slots Q (F0 m 283 ls []) := by
    have hx := C.1
    have hb := C.2.1
    intro K154 hK154 v2 v3 v5 v6 v7 v9 v10 v11 v12 v14 v15 v16 S ad N bv3 bv5 bv12 H locs ls cells slots hG hv3 hv5 hv12 hl h
    unfold kL_law_283 at h
    refine lv_aload_n hx hb dL_law_283 rfl (lv_at hl 1 rfl) ?_
    refine lv_iload hx hb dL_law_284 (lv_at hl 12 rfl) ?_
    refine r2_clR C hA hl.1 hG [.int v15] [] (m8_isCovered E l hst v15 S.g) QCL_200.1 QCL_200.2 KC8 rfl (rm2 (by decide) (by decide)) (Nat.le_of_ble_eq_true rfl) rfl dL_law_286 hU h (fun x24 S25 H locs cells slots hG h => ?_)
    refine lv_aload_n hx hb dL_law_289 rfl (lv_at hl 1 rfl) ?_
    refine r2_clP C hA hl.1 hG [] [.int x24] (m8_minutesToGo E l S25.g) QCL_204.1 QCL_204.2 KC8 rfl (rm2 (by decide) (by decide)) (Nat.le_of_ble_eq_true rfl) rfl dL_law_290 h (fun x26 H locs hG h => ?_)
    refine lv_if_le (tgt := 310) hx hb dL_law_293 (by decide) (fun g27 => ?_) (fun g27 => ?_)
    · have h := (if_inv h).1 g27
      exact jL_law_310 hst C hA hU hq K154 hK154 v2 v3 v5 v6 v7 v9 v10 v11 v12 v14 v15 v16 x24 S25 _ _ _ _ _ _ _ _ _ _ hG hv3 hv5 hv12 (lv_sub hl [0, 1, 2, 3, 4, 5, 6, 7, 8, 9, 10, 11, 12, 13] rfl) h
    · have h := (if_inv h).2 g27
      refine lv_aload_n hx hb dL_law_296 rfl (lv_at hl 1 rfl) ?_
      refine lv_iconst (v := 0) hx hb dL_law_297 (by decide) ?_
      refine r2_clR C hA hl.1 hG [.int 0] [.int x24] (m8_mirrorOfJob E l hst 0 S25.g) QCL_207.1 QCL_207.2 KC8 rfl (rm2 (by decide) (by decide)) (Nat.le_of_ble_eq_true rfl) rfl dL_law_298 hU h (fun x28 S29 H locs cells slots hG h => ?_)
      refine lv_iload hx hb dL_law_301 (lv_at hl 12 rfl) ?_
      refine lv_icmp_ne (tgt := 310) hx hb dL_law_303 (by decide) (fun g30 => ?_) (fun g30 => ?_)
      · have h := (if_inv h).2 g30
        exact jL_law_310 hst C hA hU hq K154 hK154 v2 v3 v5 v6 v7 v9 v10 v11 v12 v14 v15 v16 x24 S29 _ _ _ _ _ _ _ _ _ _ hG hv3 hv5 hv12 (lv_sub hl [0, 1, 2, 3, 4, 5, 6, 7, 8, 9, 10, 11, 12, 13] rfl) h
      · have h := (if_inv h).1 g30
        refine lv_iconst (v := 1) hx hb dL_law_306 (by decide) ?_
        refine lv_goto (tgt := 311) hx hb dL_law_307 (by decide) ?_
        exact jL_law_311 hst C hA hU hq K154 hK154 v2 v3 v5 v6 v7 v9 v10 v11 v12 v14 v15 v16 1 x24 S29 _ _ _ _ _ _ _ _ _ _ hG hv3 hv5 hv12 (lv_sub hl [0, 1, 2, 3, 4, 5, 6, 7, 8, 9, 10, 11, 12, 13] rfl) h
set_option maxRecDepth 100000 in
set_option maxHeartbeats 8000000 in
theorem jL_law_528 {E : EV} {l : Launch} (hst : l.stackTraces = false) {u : Int32 × ZS} {p : Program} {e : Env} {s : State} {m : MethodId} {args : Array Value} {below : List Frame} {meth : Method} {c : Code} {F : FT} {Q : State → Prop} (C : Cx p s m args meth c cL_law 28 RL E) (hA : CA F E s) (hU : F.uc = u.2.c ∧ F.uw = u.2.w) (hq : LQ p l e (F.R 1400) s m args below meth c E F u Q) : ∀ (K518 : Int32 → Nat → Nat → Int32 → Int64 → Int32 → Int32 → Int32 → ZS → Option (Int32 × ZS)), (∀ (v2 : Int32) (v3 : Nat) (v5 : Nat) (v6 : Int32) (v7 : Int64) (v9 : Int32) (v14 : Int32) (v15 : Int32) (S : ZS) (ad : Nat → Nat) (N : Nat) (bv3 : Nat) (bv5 : Nat) (H : Heap) (locs : List Loc) (ls : Array Slot) (cells slots : Nat), GL E s F H locs ad N S cells slots → RA E ad N v3 bv3 → RA E ad N v5 bv5 → lv_has ls 28 [(0, .ref E.sb), (1, .ref (E.ad 0)), (2, .int v2), (3, .ref bv3), (5, .ref bv5), (6, .int v6), (7, .long v7), (9, .int v9), (14, .int v14), (15, .int v15)] → K518 v2 v3 v5 v6 v7 v9 v14 v15 S = some u → W p l e (F.R 1400) s m args below meth c H locs cells slots Q (F0 m 518 ls [])) → ∀ f : Nat, ∀ (v2 : Int32) (v3 : Nat) (v5 : Nat) (v6 : Int32) (v7 : Int64) (v9 : Int32) (v14 : Int32) (v15 : Int32) (v16 : Int32) (S : ZS) (ad : Nat → Nat) (N : Nat) (bv3 : Nat) (bv5 : Nat) (H : Heap) (locs : List Loc) (ls : Array Slot) (cells slots : Nat), GL E s F H locs ad N S cells slots → RA E ad N v3 bv3 → RA E ad N v5 bv5 → lv_has ls 28 [(0, .ref E.sb), (1, .ref (E.ad 0)), (2, .int v2), (3, .ref bv3), (5, .ref bv5), (6, .int v6), (7, .long v7), (9, .int v9), (14, .int v14), (15, .int v15), (16, .int v16)] → kL_law_528 E.sL E.sx K518 f v2 v3 v5 v6 v7 v9 v14 v15 v16 S = some u → W p l e (F.R 1400) s m args below meth c H locs cells slots Q (F0 m 528 ls []) := by
    have hx := C.1
    have hb := C.2.1
    intro K518 hK518 f
    induction f with
    | zero =>
      intro v2 v3 v5 v6 v7 v9 v14 v15 v16 S ad N bv3 bv5 H locs ls cells slots hG hv3 hv5 hl h
      unfold kL_law_528 at h
      cases h
    | succ f ih =>
      intro v2 v3 v5 v6 v7 v9 v14 v15 v16 S ad N bv3 bv5 H locs ls cells slots hG hv3 hv5 hl h
      unfold kL_law_528 at h
      refine lv_iload hx hb dL_law_528 (lv_at hl 10 rfl) ?_
      refine lv_iload hx hb dL_law_530 (lv_at hl 9 rfl) ?_
      refine lv_icmp_ge (tgt := 573) hx hb dL_law_532 (by decide) (fun g31 => ?_) (fun g31 => ?_)
      · have h := (if_inv h).1 g31
        refine r_iinc (w := 1) (lv' := fun x32 => [(15, .int x32), (0, .ref E.sb), (1, .ref (E.ad 0)), (2, .int v2), (3, .ref bv3), (5, .ref bv5), (6, .int v6), (7, .long v7), (9, .int v9), (14, .int v14), (16, .int v16)]) C dL_law_573 hl (k := 9) rfl (by decide) (by decide) (fun _ => rfl) h (fun x32 ls hl h => ?_)
        refine lv_goto (tgt := 518) hx hb dL_law_576 (by decide) ?_
        exact hK518 v2 v3 v5 v6 v7 v9 v14 x32 S _ _ _ _ _ _ _ _ _ hG hv3 hv5 (lv_sub hl [1, 2, 3, 4, 5, 6, 7, 8, 9, 0] rfl) h
      · have h := (if_inv h).2 g31
        refine lv_aload_n hx hb dL_law_535 rfl (lv_at hl 1 rfl) ?_
        refine lv_iload hx hb dL_law_536 (lv_at hl 9 rfl) ?_
        refine r2_clR C hA hl.1 hG [.int v15] [] (m8_kindOfJob E l hst v15 S.g) QCL_234.1 QCL_234.2 KC8 rfl (rm2 (by decide) (by decide)) (Nat.le_of_ble_eq_true rfl) rfl dL_law_538 hU h (fun x33 S34 H locs cells slots hG h => ?_)
        refine lv_aload_n hx hb dL_law_541 rfl (lv_at hl 1 rfl) ?_
        refine lv_iload hx hb dL_law_542 (lv_at hl 10 rfl) ?_
        refine r2_clR C hA hl.1 hG [.int v16] [.int x33] (m8_kindOfJob E l hst v16 S34.g) QCL_234.1 QCL_234.2 KC8 rfl (rm2 (by decide) (by decide)) (Nat.le_of_ble_eq_true rfl) rfl dL_law_544 hU h (fun x35 S36 H locs cells slots hG h => ?_)
        refine lv_icmp_ne (tgt := 567) hx hb dL_law_547 (by decide) (fun g37 => ?_) (fun g37 => ?_)
        · have h := (if_inv h).2 g37
          refine r_iinc (w := 1) (lv' := fun x38 => [(16, .int x38), (0, .ref E.sb), (1, .ref (E.ad 0)), (2, .int v2), (3, .ref bv3), (5, .ref bv5), (6, .int v6), (7, .long v7), (9, .int v9), (14, .int v14), (15, .int v15)]) C dL_law_567 hl (k := 10) rfl (by decide) (by decide) (fun _ => rfl) h (fun x38 ls hl h => ?_)
          refine lv_goto (tgt := 528) hx hb dL_law_570 (by decide) ?_
          exact ih v2 v3 v5 v6 v7 v9 v14 v15 x38 S36 _ _ _ _ _ _ _ _ _ hG hv3 hv5 (lv_sub hl [1, 2, 3, 4, 5, 6, 7, 8, 9, 10, 0] rfl) h
        · have h := (if_inv h).1 g37
          refine lv_aload_n hx hb dL_law_550 rfl (lv_at hl 1 rfl) ?_
          refine lv_iload hx hb dL_law_551 (lv_at hl 9 rfl) ?_
          refine r2_clR C hA hl.1 hG [.int v15] [] (m8_mirrorOfJob E l hst v15 S36.g) QCL_207.1 QCL_207.2 KC8 rfl (rm2 (by decide) (by decide)) (Nat.le_of_ble_eq_true rfl) rfl dL_law_553 hU h (fun x39 S40 H locs cells slots hG h => ?_)
          refine lv_aload_n hx hb dL_law_556 rfl (lv_at hl 1 rfl) ?_
          refine lv_iload hx hb dL_law_557 (lv_at hl 10 rfl) ?_
          refine r2_clR C hA hl.1 hG [.int v16] [.int x39] (m8_mirrorOfJob E l hst v16 S40.g) QCL_207.1 QCL_207.2 KC8 rfl (rm2 (by decide) (by decide)) (Nat.le_of_ble_eq_true rfl) rfl dL_law_559 hU h (fun x41 S42 H locs cells slots hG h => ?_)
          refine lv_icmp_ne (tgt := 567) hx hb dL_law_562 (by decide) (fun g43 => ?_) (fun g43 => ?_)
          · have h := (if_inv h).2 g43
            refine r_iinc (w := 1) (lv' := fun x44 => [(16, .int x44), (0, .ref E.sb), (1, .ref (E.ad 0)), (2, .int v2), (3, .ref bv3), (5, .ref bv5), (6, .int v6), (7, .long v7), (9, .int v9), (14, .int v14), (15, .int v15)]) C dL_law_567 hl (k := 10) rfl (by decide) (by decide) (fun _ => rfl) h (fun x44 ls hl h => ?_)
            refine lv_goto (tgt := 528) hx hb dL_law_570 (by decide) ?_
            exact ih v2 v3 v5 v6 v7 v9 v14 v15 x44 S42 _ _ _ _ _ _ _ _ _ hG hv3 hv5 (lv_sub hl [1, 2, 3, 4, 5, 6, 7, 8, 9, 10, 0] rfl) h
          · have h := (if_inv h).1 g43
            refine lv_iconst (v := 0) hx hb dL_law_565 (by decide) ?_
            exact lw9_ret hq hG dL_law_566 h
set_option maxRecDepth 100000 in
set_option maxHeartbeats 8000000 in
theorem jL_law_925 {E : EV} {l : Launch} (hst : l.stackTraces = false) {u : Int32 × ZS} {p : Program} {e : Env} {s : State} {m : MethodId} {args : Array Value} {below : List Frame} {meth : Method} {c : Code} {F : FT} {Q : State → Prop} (C : Cx p s m args meth c cL_law 28 RL E) (hA : CA F E s) (hU : F.uc = u.2.c ∧ F.uw = u.2.w) (hq : LQ p l e (F.R 1400) s m args below meth c E F u Q) : ∀ (K771 : Int32 → Nat → Nat → Int32 → Int32 → Int32 → Int32 → Int32 → Int32 → Int32 → Int32 → ZS → Option (Int32 × ZS)), (∀ (v2 : Int32) (v3 : Nat) (v5 : Nat) (v6 : Int32) (v19 : Int32) (v20 : Int32) (v21 : Int32) (v22 : Int32) (v23 : Int32) (v24 : Int32) (v25 : Int32) (S : ZS) (ad : Nat → Nat) (N : Nat) (bv3 : Nat) (bv5 : Nat) (H : Heap) (locs : List Loc) (ls : Array Slot) (cells slots : Nat), GL E s F H locs ad N S cells slots → RA E ad N v3 bv3 → RA E ad N v5 bv5 → lv_has ls 28 [(0, .ref E.sb), (1, .ref (E.ad 0)), (2, .int v2), (3, .ref bv3), (5, .ref bv5), (6, .int v6), (19, .int v19), (20, .int v20), (21, .int v21), (22, .int v22), (23, .int v23), (24, .int v24), (25, .int v25)] → K771 v2 v3 v5 v6 v19 v20 v21 v22 v23 v24 v25 S = some u → W p l e (F.R 1400) s m args below meth c H locs cells slots Q (F0 m 771 ls [])) → ∀ (v2 : Int32) (v3 : Nat) (v5 : Nat) (v6 : Int32) (v19 : Int32) (v20 : Int32) (v21 : Int32) (v22 : Int32) (v23 : Int32) (v24 : Int32) (v25 : Int32) (vt0 : Int32) (vt1 : Int32) (S : ZS) (ad : Nat → Nat) (N : Nat) (bv3 : Nat) (bv5 : Nat) (H : Heap) (locs : List Loc) (ls : Array Slot) (cells slots : Nat), GL E s F H locs ad N S cells slots → RA E ad N v3 bv3 → RA E ad N v5 bv5 → lv_has ls 28 [(0, .ref E.sb), (1, .ref (E.ad 0)), (2, .int v2), (3, .ref bv3), (5, .ref bv5), (6, .int v6), (19, .int v19), (20, .int v20), (21, .int v21), (22, .int v22), (23, .int v23), (24, .int v24), (25, .int v25)] → kL_law_925 E.sL E.sx K771 v2 v3 v5 v6 v19 v20 v21 v22 v23 v24 v25 vt0 vt1 S = some u → W p l e (F.R 1400) s m args below meth c H locs cells slots Q (F0 m 925 ls [.int vt0, .int vt1]) := by
    have hx := C.1
    have hb := C.2.1
    intro K771 hK771 v2 v3 v5 v6 v19 v20 v21 v22 v23 v24 v25 vt0 vt1 S ad N bv3 bv5 H locs ls cells slots hG hv3 hv5 hl h
    unfold kL_law_925 at h
    refine lv_icmp_eq (tgt := 930) hx hb dL_law_925 (by decide) (fun g45 => ?_) (fun g45 => ?_)
    · have h := (if_inv h).1 g45
      refine r_iinc (w := 1) (lv' := fun x46 => [(25, .int x46), (0, .ref E.sb), (1, .ref (E.ad 0)), (2, .int v2), (3, .ref bv3), (5, .ref bv5), (6, .int v6), (19, .int v19), (20, .int v20), (21, .int v21), (22, .int v22), (23, .int v23), (24, .int v24)]) C dL_law_930 hl (k := 12) rfl (by decide) (by decide) (fun _ => rfl) h (fun x46 ls hl h => ?_)
      refine lv_goto (tgt := 771) hx hb dL_law_933 (by decide) ?_
      exact hK771 v2 v3 v5 v6 v19 v20 v21 v22 v23 v24 x46 S _ _ _ _ _ _ _ _ _ hG hv3 hv5 (lv_sub hl [1, 2, 3, 4, 5, 6, 7, 8, 9, 10, 11, 12, 0] rfl) h
    · have h := (if_inv h).2 g45
      refine lv_iconst (v := 0) hx hb dL_law_928 (by decide) ?_
      exact lw9_ret hq hG dL_law_929 h
set_option maxRecDepth 100000 in
set_option maxHeartbeats 8000000 in
theorem jL_law_913 {E : EV} {l : Launch} (hst : l.stackTraces = false) {u : Int32 × ZS} {p : Program} {e : Env} {s : State} {m : MethodId} {args : Array Value} {below : List Frame} {meth : Method} {c : Code} {F : FT} {Q : State → Prop} (C : Cx p s m args meth c cL_law 28 RL E) (hA : CA F E s) (hU : F.uc = u.2.c ∧ F.uw = u.2.w) (hq : LQ p l e (F.R 1400) s m args below meth c E F u Q) : ∀ (K771 : Int32 → Nat → Nat → Int32 → Int32 → Int32 → Int32 → Int32 → Int32 → Int32 → Int32 → ZS → Option (Int32 × ZS)), (∀ (v2 : Int32) (v3 : Nat) (v5 : Nat) (v6 : Int32) (v19 : Int32) (v20 : Int32) (v21 : Int32) (v22 : Int32) (v23 : Int32) (v24 : Int32) (v25 : Int32) (S : ZS) (ad : Nat → Nat) (N : Nat) (bv3 : Nat) (bv5 : Nat) (H : Heap) (locs : List Loc) (ls : Array Slot) (cells slots : Nat), GL E s F H locs ad N S cells slots → RA E ad N v3 bv3 → RA E ad N v5 bv5 → lv_has ls 28 [(0, .ref E.sb), (1, .ref (E.ad 0)), (2, .int v2), (3, .ref bv3), (5, .ref bv5), (6, .int v6), (19, .int v19), (20, .int v20), (21, .int v21), (22, .int v22), (23, .int v23), (24, .int v24), (25, .int v25)] → K771 v2 v3 v5 v6 v19 v20 v21 v22 v23 v24 v25 S = some u → W p l e (F.R 1400) s m args below meth c H locs cells slots Q (F0 m 771 ls [])) → ∀ (v2 : Int32) (v3 : Nat) (v5 : Nat) (v6 : Int32) (v19 : Int32) (v20 : Int32) (v21 : Int32) (v22 : Int32) (v23 : Int32) (v24 : Int32) (v25 : Int32) (vt0 : Int32) (S : ZS) (ad : Nat → Nat) (N : Nat) (bv3 : Nat) (bv5 : Nat) (H : Heap) (locs : List Loc) (ls : Array Slot) (cells slots : Nat), GL E s F H locs ad N S cells slots → RA E ad N v3 bv3 → RA E ad N v5 bv5 → lv_has ls 28 [(0, .ref E.sb), (1, .ref (E.ad 0)), (2, .int v2), (3, .ref bv3), (5, .ref bv5), (6, .int v6), (19, .int v19), (20, .int v20), (21, .int v21), (22, .int v22), (23, .int v23), (24, .int v24), (25, .int v25)] → kL_law_913 E.sL E.sx K771 v2 v3 v5 v6 v19 v20 v21 v22 v23 v24 v25 vt0 S = some u → W p l e (F.R 1400) s m args below meth c H locs cells slots Q (F0 m 913 ls [.int vt0]) := by
    have hx := C.1
    have hb := C.2.1
    intro K771 hK771 v2 v3 v5 v6 v19 v20 v21 v22 v23 v24 v25 vt0 S ad N bv3 bv5 H locs ls cells slots hG hv3 hv5 hl h
    unfold kL_law_913 at h
    refine lv_iload hx hb dL_law_913 (lv_at hl 12 rfl) ?_
    refine lv_iload hx hb dL_law_915 (lv_at hl 8 rfl) ?_
    refine lv_icmp_ne (tgt := 924) hx hb dL_law_917 (by decide) (fun g47 => ?_) (fun g47 => ?_)
    · have h := (if_inv h).2 g47
      refine lv_iconst (v := 0) hx hb dL_law_924 (by decide) ?_
      exact jL_law_925 hst C hA hU hq K771 hK771 v2 v3 v5 v6 v19 v20 v21 v22 v23 v24 v25 0 vt0 S _ _ _ _ _ _ _ _ _ hG hv3 hv5 (lv_sub hl [0, 1, 2, 3, 4, 5, 6, 7, 8, 9, 10, 11, 12] rfl) h
    · have h := (if_inv h).1 g47
      refine lv_iconst (v := 1) hx hb dL_law_920 (by decide) ?_
      refine lv_goto (tgt := 925) hx hb dL_law_921 (by decide) ?_
      exact jL_law_925 hst C hA hU hq K771 hK771 v2 v3 v5 v6 v19 v20 v21 v22 v23 v24 v25 1 vt0 S _ _ _ _ _ _ _ _ _ hG hv3 hv5 (lv_sub hl [0, 1, 2, 3, 4, 5, 6, 7, 8, 9, 10, 11, 12] rfl) h
set_option maxRecDepth 100000 in
set_option maxHeartbeats 8000000 in
theorem jL_law_884 {E : EV} {l : Launch} (hst : l.stackTraces = false) {u : Int32 × ZS} {p : Program} {e : Env} {s : State} {m : MethodId} {args : Array Value} {below : List Frame} {meth : Method} {c : Code} {F : FT} {Q : State → Prop} (C : Cx p s m args meth c cL_law 28 RL E) (hA : CA F E s) (hU : F.uc = u.2.c ∧ F.uw = u.2.w) (hq : LQ p l e (F.R 1400) s m args below meth c E F u Q) : ∀ (K771 : Int32 → Nat → Nat → Int32 → Int32 → Int32 → Int32 → Int32 → Int32 → Int32 → Int32 → ZS → Option (Int32 × ZS)), (∀ (v2 : Int32) (v3 : Nat) (v5 : Nat) (v6 : Int32) (v19 : Int32) (v20 : Int32) (v21 : Int32) (v22 : Int32) (v23 : Int32) (v24 : Int32) (v25 : Int32) (S : ZS) (ad : Nat → Nat) (N : Nat) (bv3 : Nat) (bv5 : Nat) (H : Heap) (locs : List Loc) (ls : Array Slot) (cells slots : Nat), GL E s F H locs ad N S cells slots → RA E ad N v3 bv3 → RA E ad N v5 bv5 → lv_has ls 28 [(0, .ref E.sb), (1, .ref (E.ad 0)), (2, .int v2), (3, .ref bv3), (5, .ref bv5), (6, .int v6), (19, .int v19), (20, .int v20), (21, .int v21), (22, .int v22), (23, .int v23), (24, .int v24), (25, .int v25)] → K771 v2 v3 v5 v6 v19 v20 v21 v22 v23 v24 v25 S = some u → W p l e (F.R 1400) s m args below meth c H locs cells slots Q (F0 m 771 ls [])) → ∀ (v2 : Int32) (v3 : Nat) (v5 : Nat) (v6 : Int32) (v19 : Int32) (v20 : Int32) (v21 : Int32) (v22 : Int32) (v23 : Int32) (v24 : Int32) (v25 : Int32) (S : ZS) (ad : Nat → Nat) (N : Nat) (bv3 : Nat) (bv5 : Nat) (H : Heap) (locs : List Loc) (ls : Array Slot) (cells slots : Nat), GL E s F H locs ad N S cells slots → RA E ad N v3 bv3 → RA E ad N v5 bv5 → lv_has ls 28 [(0, .ref E.sb), (1, .ref (E.ad 0)), (2, .int v2), (3, .ref bv3), (5, .ref bv5), (6, .int v6), (19, .int v19), (20, .int v20), (21, .int v21), (22, .int v22), (23, .int v23), (24, .int v24), (25, .int v25)] → kL_law_884 E.sL E.sx K771 v2 v3 v5 v6 v19 v20 v21 v22 v23 v24 v25 S = some u → W p l e (F.R 1400) s m args below meth c H locs cells slots Q (F0 m 884 ls []) := by
    have hx := C.1
    have hb := C.2.1
    intro K771 hK771 v2 v3 v5 v6 v19 v20 v21 v22 v23 v24 v25 S ad N bv3 bv5 H locs ls cells slots hG hv3 hv5 hl h
    unfold kL_law_884 at h
    refine lv_iload hx hb dL_law_884 (lv_at hl 8 rfl) ?_
    refine lv_if_le (tgt := 930) hx hb dL_law_886 (by decide) (fun g48 => ?_) (fun g48 => ?_)
    · have h := (if_inv h).1 g48
      refine r_iinc (w := 1) (lv' := fun x49 => [(25, .int x49), (0, .ref E.sb), (1, .ref (E.ad 0)), (2, .int v2), (3, .ref bv3), (5, .ref bv5), (6, .int v6), (19, .int v19), (20, .int v20), (21, .int v21), (22, .int v22), (23, .int v23), (24, .int v24)]) C dL_law_930 hl (k := 12) rfl (by decide) (by decide) (fun _ => rfl) h (fun x49 ls hl h => ?_)
      refine lv_goto (tgt := 771) hx hb dL_law_933 (by decide) ?_
      exact hK771 v2 v3 v5 v6 v19 v20 v21 v22 v23 v24 x49 S _ _ _ _ _ _ _ _ _ hG hv3 hv5 (lv_sub hl [1, 2, 3, 4, 5, 6, 7, 8, 9, 10, 11, 12, 0] rfl) h
    · have h := (if_inv h).2 g48
      refine lv_iload hx hb dL_law_889 (lv_at hl 12 rfl) ?_
      refine lv_iload hx hb dL_law_891 (lv_at hl 8 rfl) ?_
      refine lv_icmp_gt (tgt := 930) hx hb dL_law_893 (by decide) (fun g50 => ?_) (fun g50 => ?_)
      · have h := (if_inv h).1 g50
        refine r_iinc (w := 1) (lv' := fun x51 => [(25, .int x51), (0, .ref E.sb), (1, .ref (E.ad 0)), (2, .int v2), (3, .ref bv3), (5, .ref bv5), (6, .int v6), (19, .int v19), (20, .int v20), (21, .int v21), (22, .int v22), (23, .int v23), (24, .int v24)]) C dL_law_930 hl (k := 12) rfl (by decide) (by decide) (fun _ => rfl) h (fun x51 ls hl h => ?_)
        refine lv_goto (tgt := 771) hx hb dL_law_933 (by decide) ?_
        exact hK771 v2 v3 v5 v6 v19 v20 v21 v22 v23 v24 x51 S _ _ _ _ _ _ _ _ _ hG hv3 hv5 (lv_sub hl [1, 2, 3, 4, 5, 6, 7, 8, 9, 10, 11, 12, 0] rfl) h
      · have h := (if_inv h).2 g50
        refine lv_aload_n hx hb dL_law_896 rfl (lv_at hl 1 rfl) ?_
        refine r2_clP C hA hl.1 hG [] [] (m8_jobsDone E l S.g) QCL_243.1 QCL_243.2 KC8 rfl (rm2 (by decide) (by decide)) (Nat.le_of_ble_eq_true rfl) rfl dL_law_897 h (fun x52 H locs hG h => ?_)
        refine lv_iload hx hb dL_law_900 (lv_at hl 9 rfl) ?_
        refine lv_isub hx hb dL_law_902 ?_
        refine lv_iload hx hb dL_law_903 (lv_at hl 7 rfl) ?_
        refine lv_icmp_le (tgt := 912) hx hb dL_law_905 (by decide) (fun g53 => ?_) (fun g53 => ?_)
        · have h := (if_inv h).1 g53
          refine lv_iconst (v := 0) hx hb dL_law_912 (by decide) ?_
          exact jL_law_913 hst C hA hU hq K771 hK771 v2 v3 v5 v6 v19 v20 v21 v22 v23 v24 v25 0 S _ _ _ _ _ _ _ _ _ hG hv3 hv5 (lv_sub hl [0, 1, 2, 3, 4, 5, 6, 7, 8, 9, 10, 11, 12] rfl) h
        · have h := (if_inv h).2 g53
          refine lv_iconst (v := 1) hx hb dL_law_908 (by decide) ?_
          refine lv_goto (tgt := 913) hx hb dL_law_909 (by decide) ?_
          exact jL_law_913 hst C hA hU hq K771 hK771 v2 v3 v5 v6 v19 v20 v21 v22 v23 v24 v25 1 S _ _ _ _ _ _ _ _ _ hG hv3 hv5 (lv_sub hl [0, 1, 2, 3, 4, 5, 6, 7, 8, 9, 10, 11, 12] rfl) h
set_option maxRecDepth 100000 in
set_option maxHeartbeats 8000000 in
theorem jL_law_870 {E : EV} {l : Launch} (hst : l.stackTraces = false) {u : Int32 × ZS} {p : Program} {e : Env} {s : State} {m : MethodId} {args : Array Value} {below : List Frame} {meth : Method} {c : Code} {F : FT} {Q : State → Prop} (C : Cx p s m args meth c cL_law 28 RL E) (hA : CA F E s) (hU : F.uc = u.2.c ∧ F.uw = u.2.w) (hq : LQ p l e (F.R 1400) s m args below meth c E F u Q) : ∀ (K771 : Int32 → Nat → Nat → Int32 → Int32 → Int32 → Int32 → Int32 → Int32 → Int32 → Int32 → ZS → Option (Int32 × ZS)), (∀ (v2 : Int32) (v3 : Nat) (v5 : Nat) (v6 : Int32) (v19 : Int32) (v20 : Int32) (v21 : Int32) (v22 : Int32) (v23 : Int32) (v24 : Int32) (v25 : Int32) (S : ZS) (ad : Nat → Nat) (N : Nat) (bv3 : Nat) (bv5 : Nat) (H : Heap) (locs : List Loc) (ls : Array Slot) (cells slots : Nat), GL E s F H locs ad N S cells slots → RA E ad N v3 bv3 → RA E ad N v5 bv5 → lv_has ls 28 [(0, .ref E.sb), (1, .ref (E.ad 0)), (2, .int v2), (3, .ref bv3), (5, .ref bv5), (6, .int v6), (19, .int v19), (20, .int v20), (21, .int v21), (22, .int v22), (23, .int v23), (24, .int v24), (25, .int v25)] → K771 v2 v3 v5 v6 v19 v20 v21 v22 v23 v24 v25 S = some u → W p l e (F.R 1400) s m args below meth c H locs cells slots Q (F0 m 771 ls [])) → ∀ (v2 : Int32) (v3 : Nat) (v5 : Nat) (v6 : Int32) (v19 : Int32) (v20 : Int32) (v21 : Int32) (v22 : Int32) (v23 : Int32) (v24 : Int32) (v25 : Int32) (S : ZS) (ad : Nat → Nat) (N : Nat) (bv3 : Nat) (bv5 : Nat) (H : Heap) (locs : List Loc) (ls : Array Slot) (cells slots : Nat), GL E s F H locs ad N S cells slots → RA E ad N v3 bv3 → RA E ad N v5 bv5 → lv_has ls 28 [(0, .ref E.sb), (1, .ref (E.ad 0)), (2, .int v2), (3, .ref bv3), (5, .ref bv5), (6, .int v6), (19, .int v19), (20, .int v20), (21, .int v21), (22, .int v22), (23, .int v23), (24, .int v24), (25, .int v25)] → kL_law_870 E.sL E.sx K771 v2 v3 v5 v6 v19 v20 v21 v22 v23 v24 v25 S = some u → W p l e (F.R 1400) s m args below meth c H locs cells slots Q (F0 m 870 ls []) := by
    have hx := C.1
    have hb := C.2.1
    intro K771 hK771 v2 v3 v5 v6 v19 v20 v21 v22 v23 v24 v25 S ad N bv3 bv5 H locs ls cells slots hG hv3 hv5 hl h
    unfold kL_law_870 at h
    refine lv_iload hx hb dL_law_870 (lv_at hl 6 rfl) ?_
    refine lv_if_ge (tgt := 884) hx hb dL_law_872 (by decide) (fun g54 => ?_) (fun g54 => ?_)
    · have h := (if_inv h).1 g54
      exact jL_law_884 hst C hA hU hq K771 hK771 v2 v3 v5 v6 v19 v20 v21 v22 v23 v24 v25 S _ _ _ _ _ _ _ _ _ hG hv3 hv5 (lv_sub hl [0, 1, 2, 3, 4, 5, 6, 7, 8, 9, 10, 11, 12] rfl) h
    · have h := (if_inv h).2 g54
      refine lv_aload_n hx hb dL_law_875 rfl (lv_at hl 1 rfl) ?_
      refine r2_clI C hA hl.1 hG [] [] (m8_isSeen E l S.g) QCL_227.1 QCL_227.2 KC8 rfl (rm2 (by decide) (by decide)) (Nat.le_of_ble_eq_true rfl) rfl dL_law_876 h (fun x55 S56 H locs hG h => ?_)
      refine lv_if_eq (tgt := 884) hx hb dL_law_879 (by decide) (fun g57 => ?_) (fun g57 => ?_)
      · have h := (if_inv h).1 g57
        exact jL_law_884 hst C hA hU hq K771 hK771 v2 v3 v5 v6 v19 v20 v21 v22 v23 v24 v25 S56 _ _ _ _ _ _ _ _ _ hG hv3 hv5 (lv_sub hl [0, 1, 2, 3, 4, 5, 6, 7, 8, 9, 10, 11, 12] rfl) h
      · have h := (if_inv h).2 g57
        refine lv_iconst (v := 0) hx hb dL_law_882 (by decide) ?_
        exact lw9_ret hq hG dL_law_883 h
set_option maxRecDepth 100000 in
set_option maxHeartbeats 8000000 in
theorem jL_law_867 {E : EV} {l : Launch} (hst : l.stackTraces = false) {u : Int32 × ZS} {p : Program} {e : Env} {s : State} {m : MethodId} {args : Array Value} {below : List Frame} {meth : Method} {c : Code} {F : FT} {Q : State → Prop} (C : Cx p s m args meth c cL_law 28 RL E) (hA : CA F E s) (hU : F.uc = u.2.c ∧ F.uw = u.2.w) (hq : LQ p l e (F.R 1400) s m args below meth c E F u Q) : ∀ (K771 : Int32 → Nat → Nat → Int32 → Int32 → Int32 → Int32 → Int32 → Int32 → Int32 → Int32 → ZS → Option (Int32 × ZS)), (∀ (v2 : Int32) (v3 : Nat) (v5 : Nat) (v6 : Int32) (v19 : Int32) (v20 : Int32) (v21 : Int32) (v22 : Int32) (v23 : Int32) (v24 : Int32) (v25 : Int32) (S : ZS) (ad : Nat → Nat) (N : Nat) (bv3 : Nat) (bv5 : Nat) (H : Heap) (locs : List Loc) (ls : Array Slot) (cells slots : Nat), GL E s F H locs ad N S cells slots → RA E ad N v3 bv3 → RA E ad N v5 bv5 → lv_has ls 28 [(0, .ref E.sb), (1, .ref (E.ad 0)), (2, .int v2), (3, .ref bv3), (5, .ref bv5), (6, .int v6), (19, .int v19), (20, .int v20), (21, .int v21), (22, .int v22), (23, .int v23), (24, .int v24), (25, .int v25)] → K771 v2 v3 v5 v6 v19 v20 v21 v22 v23 v24 v25 S = some u → W p l e (F.R 1400) s m args below meth c H locs cells slots Q (F0 m 771 ls [])) → ∀ (v2 : Int32) (v3 : Nat) (v5 : Nat) (v6 : Int32) (v19 : Int32) (v20 : Int32) (v21 : Int32) (v22 : Int32) (v23 : Int32) (v24 : Int32) (v25 : Int32) (vt0 : Int32) (vt1 : Int32) (S : ZS) (ad : Nat → Nat) (N : Nat) (bv3 : Nat) (bv5 : Nat) (H : Heap) (locs : List Loc) (ls : Array Slot) (cells slots : Nat), GL E s F H locs ad N S cells slots → RA E ad N v3 bv3 → RA E ad N v5 bv5 → lv_has ls 28 [(0, .ref E.sb), (1, .ref (E.ad 0)), (2, .int v2), (3, .ref bv3), (5, .ref bv5), (6, .int v6), (19, .int v19), (20, .int v20), (21, .int v21), (22, .int v22), (23, .int v23), (24, .int v24), (25, .int v25)] → kL_law_867 E.sL E.sx K771 v2 v3 v5 v6 v19 v20 v21 v22 v23 v24 v25 vt0 vt1 S = some u → W p l e (F.R 1400) s m args below meth c H locs cells slots Q (F0 m 867 ls [.int vt0, .int vt1]) := by
    have hx := C.1
    have hb := C.2.1
    intro K771 hK771 v2 v3 v5 v6 v19 v20 v21 v22 v23 v24 v25 vt0 vt1 S ad N bv3 bv5 H locs ls cells slots hG hv3 hv5 hl h
    unfold kL_law_867 at h
    refine lv_icmp_ne (tgt := 882) hx hb dL_law_867 (by decide) (fun g58 => ?_) (fun g58 => ?_)
    · have h := (if_inv h).2 g58
      refine lv_iconst (v := 0) hx hb dL_law_882 (by decide) ?_
      exact lw9_ret hq hG dL_law_883 h
    · have h := (if_inv h).1 g58
      exact jL_law_870 hst C hA hU hq K771 hK771 v2 v3 v5 v6 v19 v20 v21 v22 v23 v24 v25 S _ _ _ _ _ _ _ _ _ hG hv3 hv5 (lv_sub hl [0, 1, 2, 3, 4, 5, 6, 7, 8, 9, 10, 11, 12] rfl) h
set_option maxRecDepth 100000 in
set_option maxHeartbeats 8000000 in
theorem jL_law_839 {E : EV} {l : Launch} (hst : l.stackTraces = false) {u : Int32 × ZS} {p : Program} {e : Env} {s : State} {m : MethodId} {args : Array Value} {below : List Frame} {meth : Method} {c : Code} {F : FT} {Q : State → Prop} (C : Cx p s m args meth c cL_law 28 RL E) (hA : CA F E s) (hU : F.uc = u.2.c ∧ F.uw = u.2.w) (hq : LQ p l e (F.R 1400) s m args below meth c E F u Q) : ∀ (K771 : Int32 → Nat → Nat → Int32 → Int32 → Int32 → Int32 → Int32 → Int32 → Int32 → Int32 → ZS → Option (Int32 × ZS)), (∀ (v2 : Int32) (v3 : Nat) (v5 : Nat) (v6 : Int32) (v19 : Int32) (v20 : Int32) (v21 : Int32) (v22 : Int32) (v23 : Int32) (v24 : Int32) (v25 : Int32) (S : ZS) (ad : Nat → Nat) (N : Nat) (bv3 : Nat) (bv5 : Nat) (H : Heap) (locs : List Loc) (ls : Array Slot) (cells slots : Nat), GL E s F H locs ad N S cells slots → RA E ad N v3 bv3 → RA E ad N v5 bv5 → lv_has ls 28 [(0, .ref E.sb), (1, .ref (E.ad 0)), (2, .int v2), (3, .ref bv3), (5, .ref bv5), (6, .int v6), (19, .int v19), (20, .int v20), (21, .int v21), (22, .int v22), (23, .int v23), (24, .int v24), (25, .int v25)] → K771 v2 v3 v5 v6 v19 v20 v21 v22 v23 v24 v25 S = some u → W p l e (F.R 1400) s m args below meth c H locs cells slots Q (F0 m 771 ls [])) → ∀ (v2 : Int32) (v3 : Nat) (v5 : Nat) (v6 : Int32) (v19 : Int32) (v20 : Int32) (v21 : Int32) (v22 : Int32) (v23 : Int32) (v24 : Int32) (v25 : Int32) (S : ZS) (ad : Nat → Nat) (N : Nat) (bv3 : Nat) (bv5 : Nat) (H : Heap) (locs : List Loc) (ls : Array Slot) (cells slots : Nat), GL E s F H locs ad N S cells slots → RA E ad N v3 bv3 → RA E ad N v5 bv5 → lv_has ls 28 [(0, .ref E.sb), (1, .ref (E.ad 0)), (2, .int v2), (3, .ref bv3), (5, .ref bv5), (6, .int v6), (19, .int v19), (20, .int v20), (21, .int v21), (22, .int v22), (23, .int v23), (24, .int v24), (25, .int v25)] → kL_law_839 E.sL E.sx K771 v2 v3 v5 v6 v19 v20 v21 v22 v23 v24 v25 S = some u → W p l e (F.R 1400) s m args below meth c H locs cells slots Q (F0 m 839 ls []) := by
    have hx := C.1
    have hb := C.2.1
    intro K771 hK771 v2 v3 v5 v6 v19 v20 v21 v22 v23 v24 v25 S ad N bv3 bv5 H locs ls cells slots hG hv3 hv5 hl h
    unfold kL_law_839 at h
    refine lv_iload hx hb dL_law_839 (lv_at hl 6 rfl) ?_
    refine lv_if_le (tgt := 870) hx hb dL_law_841 (by decide) (fun g59 => ?_) (fun g59 => ?_)
    · have h := (if_inv h).1 g59
      exact jL_law_870 hst C hA hU hq K771 hK771 v2 v3 v5 v6 v19 v20 v21 v22 v23 v24 v25 S _ _ _ _ _ _ _ _ _ hG hv3 hv5 (lv_sub hl [0, 1, 2, 3, 4, 5, 6, 7, 8, 9, 10, 11, 12] rfl) h
    · have h := (if_inv h).2 g59
      refine lv_iload hx hb dL_law_844 (lv_at hl 12 rfl) ?_
      refine lv_iload hx hb dL_law_846 (lv_at hl 6 rfl) ?_
      refine lv_icmp_gt (tgt := 870) hx hb dL_law_848 (by decide) (fun g60 => ?_) (fun g60 => ?_)
      · have h := (if_inv h).1 g60
        exact jL_law_870 hst C hA hU hq K771 hK771 v2 v3 v5 v6 v19 v20 v21 v22 v23 v24 v25 S _ _ _ _ _ _ _ _ _ hG hv3 hv5 (lv_sub hl [0, 1, 2, 3, 4, 5, 6, 7, 8, 9, 10, 11, 12] rfl) h
      · have h := (if_inv h).2 g60
        refine lv_aload_n hx hb dL_law_851 rfl (lv_at hl 1 rfl) ?_
        refine r2_clI C hA hl.1 hG [] [] (m8_isSeen E l S.g) QCL_227.1 QCL_227.2 KC8 rfl (rm2 (by decide) (by decide)) (Nat.le_of_ble_eq_true rfl) rfl dL_law_852 h (fun x61 S62 H locs hG h => ?_)
        refine lv_iload hx hb dL_law_855 (lv_at hl 12 rfl) ?_
        refine lv_iload hx hb dL_law_857 (lv_at hl 6 rfl) ?_
        refine lv_icmp_ne (tgt := 866) hx hb dL_law_859 (by decide) (fun g63 => ?_) (fun g63 => ?_)
        · have h := (if_inv h).2 g63
          refine lv_iconst (v := 0) hx hb dL_law_866 (by decide) ?_
          exact jL_law_867 hst C hA hU hq K771 hK771 v2 v3 v5 v6 v19 v20 v21 v22 v23 v24 v25 0 x61 S62 _ _ _ _ _ _ _ _ _ hG hv3 hv5 (lv_sub hl [0, 1, 2, 3, 4, 5, 6, 7, 8, 9, 10, 11, 12] rfl) h
        · have h := (if_inv h).1 g63
          refine lv_iconst (v := 1) hx hb dL_law_862 (by decide) ?_
          refine lv_goto (tgt := 867) hx hb dL_law_863 (by decide) ?_
          exact jL_law_867 hst C hA hU hq K771 hK771 v2 v3 v5 v6 v19 v20 v21 v22 v23 v24 v25 1 x61 S62 _ _ _ _ _ _ _ _ _ hG hv3 hv5 (lv_sub hl [0, 1, 2, 3, 4, 5, 6, 7, 8, 9, 10, 11, 12] rfl) h
set_option maxRecDepth 100000 in
set_option maxHeartbeats 8000000 in
theorem jL_law_771 {E : EV} {l : Launch} (hst : l.stackTraces = false) {u : Int32 × ZS} {p : Program} {e : Env} {s : State} {m : MethodId} {args : Array Value} {below : List Frame} {meth : Method} {c : Code} {F : FT} {Q : State → Prop} (C : Cx p s m args meth c cL_law 28 RL E) (hA : CA F E s) (hU : F.uc = u.2.c ∧ F.uw = u.2.w) (hq : LQ p l e (F.R 1400) s m args below meth c E F u Q) : ∀ (K88 : Int32 → Nat → Nat → Int32 → ZS → Option (Int32 × ZS)), (∀ (v2 : Int32) (v3 : Nat) (v5 : Nat) (v6 : Int32) (S : ZS) (ad : Nat → Nat) (N : Nat) (bv3 : Nat) (bv5 : Nat) (H : Heap) (locs : List Loc) (ls : Array Slot) (cells slots : Nat), GL E s F H locs ad N S cells slots → RA E ad N v3 bv3 → RA E ad N v5 bv5 → lv_has ls 28 [(0, .ref E.sb), (1, .ref (E.ad 0)), (2, .int v2), (3, .ref bv3), (5, .ref bv5), (6, .int v6)] → K88 v2 v3 v5 v6 S = some u → W p l e (F.R 1400) s m args below meth c H locs cells slots Q (F0 m 88 ls [])) → ∀ f : Nat, ∀ (v2 : Int32) (v3 : Nat) (v5 : Nat) (v6 : Int32) (v19 : Int32) (v20 : Int32) (v21 : Int32) (v22 : Int32) (v23 : Int32) (v24 : Int32) (v25 : Int32) (S : ZS) (ad : Nat → Nat) (N : Nat) (bv3 : Nat) (bv5 : Nat) (H : Heap) (locs : List Loc) (ls : Array Slot) (cells slots : Nat), GL E s F H locs ad N S cells slots → RA E ad N v3 bv3 → RA E ad N v5 bv5 → lv_has ls 28 [(0, .ref E.sb), (1, .ref (E.ad 0)), (2, .int v2), (3, .ref bv3), (5, .ref bv5), (6, .int v6), (19, .int v19), (20, .int v20), (21, .int v21), (22, .int v22), (23, .int v23), (24, .int v24), (25, .int v25)] → kL_law_771 E.sL E.sx K88 f v2 v3 v5 v6 v19 v20 v21 v22 v23 v24 v25 S = some u → W p l e (F.R 1400) s m args below meth c H locs cells slots Q (F0 m 771 ls []) := by
    have hx := C.1
    have hb := C.2.1
    intro K88 hK88 f
    induction f with
    | zero =>
      intro v2 v3 v5 v6 v19 v20 v21 v22 v23 v24 v25 S ad N bv3 bv5 H locs ls cells slots hG hv3 hv5 hl h
      unfold kL_law_771 at h
      cases h
    | succ f ih =>
      intro v2 v3 v5 v6 v19 v20 v21 v22 v23 v24 v25 S ad N bv3 bv5 H locs ls cells slots hG hv3 hv5 hl h
      unfold kL_law_771 at h
      refine lv_iload hx hb dL_law_771 (lv_at hl 12 rfl) ?_
      refine lv_iload hx hb dL_law_773 (lv_at hl 10 rfl) ?_
      refine lv_icmp_gt (tgt := 936) hx hb dL_law_775 (by decide) (fun g64 => ?_) (fun g64 => ?_)
      · have h := (if_inv h).1 g64
        refine lv_aload_n hx hb dL_law_936 rfl (lv_at hl 1 rfl) ?_
        refine r2_clI C hA hl.1 hG [] [] (m8_lightAtEnd E l S.g) QCL_221.1 QCL_221.2 KC8 rfl (rm2 (by decide) (by decide)) (Nat.le_of_ble_eq_true rfl) rfl dL_law_937 h (fun x65 S66 H locs hG h => ?_)
        refine lv_iload hx hb dL_law_940 (lv_at hl 11 rfl) ?_
        refine lv_icmp_eq (tgt := 947) hx hb dL_law_942 (by decide) (fun g67 => ?_) (fun g67 => ?_)
        · have h := (if_inv h).1 g67
          refine lv_aload_n hx hb dL_law_947 rfl (lv_at hl 1 rfl) ?_
          refine r2_clI C hA hl.1 hG [] [] (m8_bestToClean E l S66.g) QCL_251.1 QCL_251.2 KC8 rfl (rm2 (by decide) (by decide)) (Nat.le_of_ble_eq_true rfl) rfl dL_law_948 h (fun x68 S69 H locs hG h => ?_)
          refine lv_istore (lv' := [(25, .int x68), (0, .ref E.sb), (1, .ref (E.ad 0)), (2, .int v2), (3, .ref bv3), (5, .ref bv5), (6, .int v6), (19, .int v19), (20, .int v20), (21, .int v21), (22, .int v22), (23, .int v23), (24, .int v24)]) hx hb dL_law_951 hl (by decide) rfl (fun ls hl => ?_)
          refine lv_iload hx hb dL_law_953 (lv_at hl 0 rfl) ?_
          refine lv_if_lt (tgt := 975) hx hb dL_law_955 (by decide) (fun g70 => ?_) (fun g70 => ?_)
          · have h := (if_inv h).1 g70
            refine r_iinc (w := 1) (lv' := fun x71 => [(6, .int x71), (25, .int x68), (0, .ref E.sb), (1, .ref (E.ad 0)), (2, .int v2), (3, .ref bv3), (5, .ref bv5), (19, .int v19), (20, .int v20), (21, .int v21), (22, .int v22), (23, .int v23), (24, .int v24)]) C dL_law_975 hl (k := 6) rfl (by decide) (by decide) (fun _ => rfl) h (fun x71 ls hl h => ?_)
            refine lv_goto (tgt := 88) hx hb dL_law_978 (by decide) ?_
            exact hK88 v2 v3 v5 x71 S69 _ _ _ _ _ _ _ _ _ hG hv3 hv5 (lv_sub hl [2, 3, 4, 5, 6, 0] rfl) h
          · have h := (if_inv h).2 g70
            refine lv_aload_n hx hb dL_law_958 rfl (lv_at hl 2 rfl) ?_
            refine lv_iload hx hb dL_law_959 (lv_at hl 0 rfl) ?_
            refine r2_clR C hA hl.1 hG [.int x68] [] (m8_clarityOf E l hst x68 S69.g) QCL_210.1 QCL_210.2 KC8 rfl (rm2 (by decide) (by decide)) (Nat.le_of_ble_eq_true rfl) rfl dL_law_961 hU h (fun x72 S73 H locs cells slots hG h => ?_)
            refine lv_aload_n hx hb dL_law_964 rfl (lv_at hl 2 rfl) ?_
            refine lv_iload hx hb dL_law_965 (lv_at hl 0 rfl) ?_
            refine r2_clR C hA hl.1 hG [.int x68] [.int x72] (m8_bestClarityOf E l hst x68 S73.g) QCL_213.1 QCL_213.2 KC8 rfl (rm2 (by decide) (by decide)) (Nat.le_of_ble_eq_true rfl) rfl dL_law_967 hU h (fun x74 S75 H locs cells slots hG h => ?_)
            refine lv_icmp_lt (tgt := 975) hx hb dL_law_970 (by decide) (fun g76 => ?_) (fun g76 => ?_)
            · have h := (if_inv h).1 g76
              refine r_iinc (w := 1) (lv' := fun x77 => [(6, .int x77), (25, .int x68), (0, .ref E.sb), (1, .ref (E.ad 0)), (2, .int v2), (3, .ref bv3), (5, .ref bv5), (19, .int v19), (20, .int v20), (21, .int v21), (22, .int v22), (23, .int v23), (24, .int v24)]) C dL_law_975 hl (k := 6) rfl (by decide) (by decide) (fun _ => rfl) h (fun x77 ls hl h => ?_)
              refine lv_goto (tgt := 88) hx hb dL_law_978 (by decide) ?_
              exact hK88 v2 v3 v5 x77 S75 _ _ _ _ _ _ _ _ _ hG hv3 hv5 (lv_sub hl [2, 3, 4, 5, 6, 0] rfl) h
            · have h := (if_inv h).2 g76
              refine lv_iconst (v := 0) hx hb dL_law_973 (by decide) ?_
              exact lw9_ret hq hG dL_law_974 h
        · have h := (if_inv h).2 g67
          refine lv_iconst (v := 0) hx hb dL_law_945 (by decide) ?_
          exact lw9_ret hq hG dL_law_946 h
      · have h := (if_inv h).2 g64
        refine lv_aload_n hx hb dL_law_778 rfl (lv_at hl 1 rfl) ?_
        refine r2_clP C hA hl.1 hG [] [] (m8_jobsDone E l S.g) QCL_243.1 QCL_243.2 KC8 rfl (rm2 (by decide) (by decide)) (Nat.le_of_ble_eq_true rfl) rfl dL_law_779 h (fun x78 H locs hG h => ?_)
        refine lv_istore (lv' := [(26, .int x78), (0, .ref E.sb), (1, .ref (E.ad 0)), (2, .int v2), (3, .ref bv3), (5, .ref bv5), (6, .int v6), (19, .int v19), (20, .int v20), (21, .int v21), (22, .int v22), (23, .int v23), (24, .int v24), (25, .int v25)]) hx hb dL_law_782 hl (by decide) rfl (fun ls hl => ?_)
        refine lv_aload_n hx hb dL_law_784 rfl (lv_at hl 2 rfl) ?_
        refine lv_iconst (v := 1) hx hb dL_law_785 (by decide) ?_
        refine r2_clR C hA hl.1 hG [.int 1] [] (m8_passMinutes E l hst 1 S.g) QCL_102.1 QCL_102.2 KC8 rfl (rm2 (by decide) (by decide)) (Nat.le_of_ble_eq_true rfl) rfl dL_law_786 hU h (fun x79 S80 H locs cells slots hG h => ?_)
        refine lv_istore (lv' := [(27, .int x79), (26, .int x78), (0, .ref E.sb), (1, .ref (E.ad 0)), (2, .int v2), (3, .ref bv3), (5, .ref bv5), (6, .int v6), (19, .int v19), (20, .int v20), (21, .int v21), (22, .int v22), (23, .int v23), (24, .int v24), (25, .int v25)]) hx hb dL_law_789 hl (by decide) rfl (fun ls hl => ?_)
        refine lv_iload hx hb dL_law_791 (lv_at hl 0 rfl) ?_
        refine lv_aload hx hb dL_law_793 (lv_at hl 6 rfl) ?_
        refine r2_cVI C hA hl.1 hG hv5 [] [.int x79] (mX12_pass E l v5 S80 (RAq hG hv5)) (by rw [hv5.1]) QLL_249 KP14 rfl (rm2 (by decide) (by decide)) (Nat.le_of_ble_eq_true rfl) rfl dL_law_795 hU h (fun x83 S81 H locs ad82 cells slots hG hx9 h => ?_)
        have hv3 := hv3.up hx9
        have hv5 := hv5.up hx9
        refine lv_icmp_ne (tgt := 837) hx hb dL_law_798 (by decide) (fun g84 => ?_) (fun g84 => ?_)
        · have h := (if_inv h).2 g84
          refine lv_iconst (v := 0) hx hb dL_law_837 (by decide) ?_
          exact lw9_ret hq hG dL_law_838 h
        · have h := (if_inv h).1 g84
          refine lv_iload hx hb dL_law_801 (lv_at hl 0 rfl) ?_
          refine lv_if_lt (tgt := 837) hx hb dL_law_803 (by decide) (fun g85 => ?_) (fun g85 => ?_)
          · have h := (if_inv h).1 g85
            refine lv_iconst (v := 0) hx hb dL_law_837 (by decide) ?_
            exact lw9_ret hq hG dL_law_838 h
          · have h := (if_inv h).2 g85
            refine lv_iload hx hb dL_law_806 (lv_at hl 0 rfl) ?_
            refine lv_iconst (v := 1) hx hb dL_law_808 (by decide) ?_
            refine lv_icmp_gt (tgt := 837) hx hb dL_law_809 (by decide) (fun g86 => ?_) (fun g86 => ?_)
            · have h := (if_inv h).1 g86
              refine lv_iconst (v := 0) hx hb dL_law_837 (by decide) ?_
              exact lw9_ret hq hG dL_law_838 h
            · have h := (if_inv h).2 g86
              refine lv_aload_n hx hb dL_law_812 rfl (lv_at hl 3 rfl) ?_
              refine r2_clP C hA hl.1 hG [] [] (m8_jobsDone E l S81.g) QCL_243.1 QCL_243.2 KC8 rfl (rm2 (by decide) (by decide)) (Nat.le_of_ble_eq_true rfl) rfl dL_law_813 h (fun x87 H locs hG h => ?_)
              refine lv_iload hx hb dL_law_816 (lv_at hl 1 rfl) ?_
              refine lv_iload hx hb dL_law_818 (lv_at hl 0 rfl) ?_
              refine lv_iadd hx hb dL_law_820 ?_
              refine lv_icmp_ne (tgt := 837) hx hb dL_law_821 (by decide) (fun g88 => ?_) (fun g88 => ?_)
              · have h := (if_inv h).2 g88
                refine lv_iconst (v := 0) hx hb dL_law_837 (by decide) ?_
                exact lw9_ret hq hG dL_law_838 h
              · have h := (if_inv h).1 g88
                refine lv_iload hx hb dL_law_824 (lv_at hl 0 rfl) ?_
                refine lv_iconst (v := 1) hx hb dL_law_826 (by decide) ?_
                refine lv_icmp_ne (tgt := 839) hx hb dL_law_827 (by decide) (fun g89 => ?_) (fun g89 => ?_)
                · have h := (if_inv h).2 g89
                  exact jL_law_839 hst C hA hU hq (kL_law_771 sL sx K88 f) ih v2 v3 v5 v6 v19 v20 v21 v22 v23 v24 v25 S81 _ _ _ _ _ _ _ _ _ hG hv3 hv5 (lv_sub hl [2, 3, 4, 5, 6, 7, 8, 9, 10, 11, 12, 13, 14] rfl) h
                · have h := (if_inv h).1 g89
                  refine lv_aload_n hx hb dL_law_830 rfl (lv_at hl 3 rfl) ?_
                  refine r2_clP C hA hl.1 hG [] [] (m8_minutesToGo E l S81.g) QCL_204.1 QCL_204.2 KC8 rfl (rm2 (by decide) (by decide)) (Nat.le_of_ble_eq_true rfl) rfl dL_law_831 h (fun x90 H locs hG h => ?_)
                  refine lv_if_le (tgt := 839) hx hb dL_law_834 (by decide) (fun g91 => ?_) (fun g91 => ?_)
                  · have h := (if_inv h).1 g91
                    exact jL_law_839 hst C hA hU hq (kL_law_771 sL sx K88 f) ih v2 v3 v5 v6 v19 v20 v21 v22 v23 v24 v25 S81 _ _ _ _ _ _ _ _ _ hG hv3 hv5 (lv_sub hl [2, 3, 4, 5, 6, 7, 8, 9, 10, 11, 12, 13, 14] rfl) h
                  · have h := (if_inv h).2 g91
                    refine lv_iconst (v := 0) hx hb dL_law_837 (by decide) ?_
                    exact lw9_ret hq hG dL_law_838 h
set_option maxRecDepth 100000 in
set_option maxHeartbeats 8000000 in
theorem jL_law_768 {E : EV} {l : Launch} (hst : l.stackTraces = false) {u : Int32 × ZS} {p : Program} {e : Env} {s : State} {m : MethodId} {args : Array Value} {below : List Frame} {meth : Method} {c : Code} {F : FT} {Q : State → Prop} (C : Cx p s m args meth c cL_law 28 RL E) (hA : CA F E s) (hU : F.uc = u.2.c ∧ F.uw = u.2.w) (hq : LQ p l e (F.R 1400) s m args below meth c E F u Q) : ∀ (K88 : Int32 → Nat → Nat → Int32 → ZS → Option (Int32 × ZS)), (∀ (v2 : Int32) (v3 : Nat) (v5 : Nat) (v6 : Int32) (S : ZS) (ad : Nat → Nat) (N : Nat) (bv3 : Nat) (bv5 : Nat) (H : Heap) (locs : List Loc) (ls : Array Slot) (cells slots : Nat), GL E s F H locs ad N S cells slots → RA E ad N v3 bv3 → RA E ad N v5 bv5 → lv_has ls 28 [(0, .ref E.sb), (1, .ref (E.ad 0)), (2, .int v2), (3, .ref bv3), (5, .ref bv5), (6, .int v6)] → K88 v2 v3 v5 v6 S = some u → W p l e (F.R 1400) s m args below meth c H locs cells slots Q (F0 m 88 ls [])) → ∀ (v2 : Int32) (v3 : Nat) (v5 : Nat) (v6 : Int32) (v19 : Int32) (v20 : Int32) (v21 : Int32) (v22 : Int32) (v23 : Int32) (v24 : Int32) (S : ZS) (ad : Nat → Nat) (N : Nat) (bv3 : Nat) (bv5 : Nat) (H : Heap) (locs : List Loc) (ls : Array Slot) (cells slots : Nat), GL E s F H locs ad N S cells slots → RA E ad N v3 bv3 → RA E ad N v5 bv5 → lv_has ls 28 [(0, .ref E.sb), (1, .ref (E.ad 0)), (2, .int v2), (3, .ref bv3), (5, .ref bv5), (6, .int v6), (19, .int v19), (20, .int v20), (21, .int v21), (22, .int v22), (23, .int v23), (24, .int v24)] → kL_law_768 E.sL E.sx K88 v2 v3 v5 v6 v19 v20 v21 v22 v23 v24 S = some u → W p l e (F.R 1400) s m args below meth c H locs cells slots Q (F0 m 768 ls []) := by
    have hx := C.1
    have hb := C.2.1
    intro K88 hK88 v2 v3 v5 v6 v19 v20 v21 v22 v23 v24 S ad N bv3 bv5 H locs ls cells slots hG hv3 hv5 hl h
    unfold kL_law_768 at h
    refine lv_iconst (v := 1) hx hb dL_law_768 (by decide) ?_
    refine lv_istore (lv' := [(25, .int 1), (0, .ref E.sb), (1, .ref (E.ad 0)), (2, .int v2), (3, .ref bv3), (5, .ref bv5), (6, .int v6), (19, .int v19), (20, .int v20), (21, .int v21), (22, .int v22), (23, .int v23), (24, .int v24)]) hx hb dL_law_769 hl (by decide) rfl (fun ls hl => ?_)
    exact jL_law_771 hst C hA hU hq K88 hK88 FU v2 v3 v5 v6 v19 v20 v21 v22 v23 v24 1 S _ _ _ _ _ _ _ _ _ hG hv3 hv5 (lv_sub hl [1, 2, 3, 4, 5, 6, 7, 8, 9, 10, 11, 12, 0] rfl) h
set_option maxRecDepth 100000 in
set_option maxHeartbeats 8000000 in
theorem jL_law_705 {E : EV} {l : Launch} (hst : l.stackTraces = false) {u : Int32 × ZS} {p : Program} {e : Env} {s : State} {m : MethodId} {args : Array Value} {below : List Frame} {meth : Method} {c : Code} {F : FT} {Q : State → Prop} (C : Cx p s m args meth c cL_law 28 RL E) (hA : CA F E s) (hU : F.uc = u.2.c ∧ F.uw = u.2.w) (hq : LQ p l e (F.R 1400) s m args below meth c E F u Q) : ∀ (K88 : Int32 → Nat → Nat → Int32 → ZS → Option (Int32 × ZS)), (∀ (v2 : Int32) (v3 : Nat) (v5 : Nat) (v6 : Int32) (S : ZS) (ad : Nat → Nat) (N : Nat) (bv3 : Nat) (bv5 : Nat) (H : Heap) (locs : List Loc) (ls : Array Slot) (cells slots : Nat), GL E s F H locs ad N S cells slots → RA E ad N v3 bv3 → RA E ad N v5 bv5 → lv_has ls 28 [(0, .ref E.sb), (1, .ref (E.ad 0)), (2, .int v2), (3, .ref bv3), (5, .ref bv5), (6, .int v6)] → K88 v2 v3 v5 v6 S = some u → W p l e (F.R 1400) s m args below meth c H locs cells slots Q (F0 m 88 ls [])) → ∀ (v2 : Int32) (v3 : Nat) (v5 : Nat) (v6 : Int32) (v7 : Int64) (v19 : Int32) (v20 : Int32) (vt0 : Int32) (S : ZS) (ad : Nat → Nat) (N : Nat) (bv3 : Nat) (bv5 : Nat) (H : Heap) (locs : List Loc) (ls : Array Slot) (cells slots : Nat), GL E s F H locs ad N S cells slots → RA E ad N v3 bv3 → RA E ad N v5 bv5 → lv_has ls 28 [(0, .ref E.sb), (1, .ref (E.ad 0)), (2, .int v2), (3, .ref bv3), (5, .ref bv5), (6, .int v6), (7, .long v7), (19, .int v19), (20, .int v20)] → kL_law_705 E.sL E.sx K88 v2 v3 v5 v6 v7 v19 v20 vt0 S = some u → W p l e (F.R 1400) s m args below meth c H locs cells slots Q (F0 m 705 ls [.int vt0]) := by
    have hx := C.1
    have hb := C.2.1
    intro K88 hK88 v2 v3 v5 v6 v7 v19 v20 vt0 S ad N bv3 bv5 H locs ls cells slots hG hv3 hv5 hl h
    unfold kL_law_705 at h
    refine r_nm h (fun x92 h => ?_)
    refine lv_istore (lv' := [(21, .int x92), (0, .ref E.sb), (1, .ref (E.ad 0)), (2, .int v2), (3, .ref bv3), (5, .ref bv5), (6, .int v6), (7, .long v7), (19, .int v19), (20, .int v20)]) hx hb dL_law_705 hl (by decide) rfl (fun ls hl => ?_)
    refine lv_aload_n hx hb dL_law_707 rfl (lv_at hl 2 rfl) ?_
    refine r2_clP C hA hl.1 hG [] [] (m8_jobsDone E l S.g) QCL_243.1 QCL_243.2 KC8 rfl (rm2 (by decide) (by decide)) (Nat.le_of_ble_eq_true rfl) rfl dL_law_708 h (fun x93 H locs hG h => ?_)
    refine lv_istore (lv' := [(22, .int x93), (21, .int x92), (0, .ref E.sb), (1, .ref (E.ad 0)), (2, .int v2), (3, .ref bv3), (5, .ref bv5), (6, .int v6), (7, .long v7), (19, .int v19), (20, .int v20)]) hx hb dL_law_711 hl (by decide) rfl (fun ls hl => ?_)
    refine lv_iconst (v := 1) hx hb dL_law_713 (by decide) ?_
    refine lv_aload_n hx hb dL_law_714 rfl (lv_at hl 5 rfl) ?_
    refine lv_bipush (v := 25) hx hb dL_law_715 (by decide) ?_
    refine r2_cVI C hA hl.1 hG hv3 [.int 25] [.int 1] (mX9_next E l v3 25 S (RAq hG hv3)) (by rw [hv3.1]) QLL_35 KP11 rfl (rm2 (by decide) (by decide)) (Nat.le_of_ble_eq_true rfl) rfl dL_law_717 hU h (fun x96 S94 H locs ad95 cells slots hG hx9 h => ?_)
    have hv3 := hv3.up hx9
    have hv5 := hv5.up hx9
    refine lv_iadd hx hb dL_law_720 ?_
    refine r_nm h (fun x97 h => ?_)
    refine lv_istore (lv' := [(23, .int x97), (22, .int x93), (21, .int x92), (0, .ref E.sb), (1, .ref (E.ad 0)), (2, .int v2), (3, .ref bv3), (5, .ref bv5), (6, .int v6), (7, .long v7), (19, .int v19), (20, .int v20)]) hx hb dL_law_721 hl (by decide) rfl (fun ls hl => ?_)
    refine lv_aload_n hx hb dL_law_723 rfl (lv_at hl 4 rfl) ?_
    refine lv_iload hx hb dL_law_724 (lv_at hl 0 rfl) ?_
    refine r2_clR C hA hl.1 hG [.int x97] [] (m8_lightAfter E l hst x97 S94.g) QCL_246.1 QCL_246.2 KC8 rfl (rm2 (by decide) (by decide)) (Nat.le_of_ble_eq_true rfl) rfl dL_law_726 hU h (fun x98 S99 H locs cells slots hG h => ?_)
    refine lv_istore (lv' := [(24, .int x98), (23, .int x97), (22, .int x93), (21, .int x92), (0, .ref E.sb), (1, .ref (E.ad 0)), (2, .int v2), (3, .ref bv3), (5, .ref bv5), (6, .int v6), (7, .long v7), (19, .int v19), (20, .int v20)]) hx hb dL_law_729 hl (by decide) rfl (fun ls hl => ?_)
    refine lv_aload_n hx hb dL_law_731 rfl (lv_at hl 5 rfl) ?_
    refine r2_clL C hA hl.1 hG [] [] (m8_digest E l S99.g) QCL_176.1 QCL_176.2 KC8 rfl (rm2 (by decide) (by decide)) (Nat.le_of_ble_eq_true rfl) rfl dL_law_732 h (fun x100 S101 H locs hG h => ?_)
    refine lv_lload hx hb dL_law_735 (lv_at hl 10 rfl) ?_
    refine W.lcmp hx hb dL_law_737 ?_
    refine lv_if_ne (tgt := 766) hx hb dL_law_738 (by decide) (fun g102 => ?_) (fun g102 => ?_)
    · have h := (if_inv h).2 g102
      refine lv_iconst (v := 0) hx hb dL_law_766 (by decide) ?_
      exact lw9_ret hq hG dL_law_767 h
    · have h := (if_inv h).1 g102
      refine lv_iload hx hb dL_law_741 (lv_at hl 3 rfl) ?_
      refine lv_if_eq (tgt := 766) hx hb dL_law_743 (by decide) (fun g103 => ?_) (fun g103 => ?_)
      · have h := (if_inv h).1 g103
        refine lv_iconst (v := 0) hx hb dL_law_766 (by decide) ?_
        exact lw9_ret hq hG dL_law_767 h
      · have h := (if_inv h).2 g103
        refine lv_iload hx hb dL_law_746 (lv_at hl 12 rfl) ?_
        refine lv_if_le (tgt := 768) hx hb dL_law_748 (by decide) (fun g104 => ?_) (fun g104 => ?_)
        · have h := (if_inv h).1 g104
          exact jL_law_768 hst C hA hU hq K88 hK88 v2 v3 v5 v6 v19 v20 x92 x93 x97 x98 S101 _ _ _ _ _ _ _ _ _ hG hv3 hv5 (lv_sub hl [4, 5, 6, 7, 8, 9, 11, 12, 3, 2, 1, 0] rfl) h
        · have h := (if_inv h).2 g104
          refine lv_iload hx hb dL_law_751 (lv_at hl 3 rfl) ?_
          refine lv_if_le (tgt := 768) hx hb dL_law_753 (by decide) (fun g105 => ?_) (fun g105 => ?_)
          · have h := (if_inv h).1 g105
            exact jL_law_768 hst C hA hU hq K88 hK88 v2 v3 v5 v6 v19 v20 x92 x93 x97 x98 S101 _ _ _ _ _ _ _ _ _ hG hv3 hv5 (lv_sub hl [4, 5, 6, 7, 8, 9, 11, 12, 3, 2, 1, 0] rfl) h
          · have h := (if_inv h).2 g105
            refine lv_aload_n hx hb dL_law_756 rfl (lv_at hl 5 rfl) ?_
            refine lv_iconst (v := 0) hx hb dL_law_757 (by decide) ?_
            refine r2_clR C hA hl.1 hG [.int 0] [] (m8_minutesUntilDone E l hst 0 S101.g) QCL_240.1 QCL_240.2 KC8 rfl (rm2 (by decide) (by decide)) (Nat.le_of_ble_eq_true rfl) rfl dL_law_758 hU h (fun x106 S107 H locs cells slots hG h => ?_)
            refine lv_iload hx hb dL_law_761 (lv_at hl 3 rfl) ?_
            refine lv_icmp_lt (tgt := 768) hx hb dL_law_763 (by decide) (fun g108 => ?_) (fun g108 => ?_)
            · have h := (if_inv h).1 g108
              exact jL_law_768 hst C hA hU hq K88 hK88 v2 v3 v5 v6 v19 v20 x92 x93 x97 x98 S107 _ _ _ _ _ _ _ _ _ hG hv3 hv5 (lv_sub hl [4, 5, 6, 7, 8, 9, 11, 12, 3, 2, 1, 0] rfl) h
            · have h := (if_inv h).2 g108
              refine lv_iconst (v := 0) hx hb dL_law_766 (by decide) ?_
              exact lw9_ret hq hG dL_law_767 h
set_option maxRecDepth 100000 in
set_option maxHeartbeats 8000000 in
theorem jL_law_688 {E : EV} {l : Launch} (hst : l.stackTraces = false) {u : Int32 × ZS} {p : Program} {e : Env} {s : State} {m : MethodId} {args : Array Value} {below : List Frame} {meth : Method} {c : Code} {F : FT} {Q : State → Prop} (C : Cx p s m args meth c cL_law 28 RL E) (hA : CA F E s) (hU : F.uc = u.2.c ∧ F.uw = u.2.w) (hq : LQ p l e (F.R 1400) s m args below meth c E F u Q) : ∀ (K88 : Int32 → Nat → Nat → Int32 → ZS → Option (Int32 × ZS)), (∀ (v2 : Int32) (v3 : Nat) (v5 : Nat) (v6 : Int32) (S : ZS) (ad : Nat → Nat) (N : Nat) (bv3 : Nat) (bv5 : Nat) (H : Heap) (locs : List Loc) (ls : Array Slot) (cells slots : Nat), GL E s F H locs ad N S cells slots → RA E ad N v3 bv3 → RA E ad N v5 bv5 → lv_has ls 28 [(0, .ref E.sb), (1, .ref (E.ad 0)), (2, .int v2), (3, .ref bv3), (5, .ref bv5), (6, .int v6)] → K88 v2 v3 v5 v6 S = some u → W p l e (F.R 1400) s m args below meth c H locs cells slots Q (F0 m 88 ls [])) → ∀ (v2 : Int32) (v3 : Nat) (v5 : Nat) (v6 : Int32) (v7 : Int64) (v19 : Int32) (vt0 : Int32) (S : ZS) (ad : Nat → Nat) (N : Nat) (bv3 : Nat) (bv5 : Nat) (H : Heap) (locs : List Loc) (ls : Array Slot) (cells slots : Nat), GL E s F H locs ad N S cells slots → RA E ad N v3 bv3 → RA E ad N v5 bv5 → lv_has ls 28 [(0, .ref E.sb), (1, .ref (E.ad 0)), (2, .int v2), (3, .ref bv3), (5, .ref bv5), (6, .int v6), (7, .long v7), (19, .int v19)] → kL_law_688 E.sL E.sx K88 v2 v3 v5 v6 v7 v19 vt0 S = some u → W p l e (F.R 1400) s m args below meth c H locs cells slots Q (F0 m 688 ls [.int vt0]) := by
    have hx := C.1
    have hb := C.2.1
    intro K88 hK88 v2 v3 v5 v6 v7 v19 vt0 S ad N bv3 bv5 H locs ls cells slots hG hv3 hv5 hl h
    unfold kL_law_688 at h
    refine r_nm h (fun x109 h => ?_)
    refine lv_istore (lv' := [(20, .int x109), (0, .ref E.sb), (1, .ref (E.ad 0)), (2, .int v2), (3, .ref bv3), (5, .ref bv5), (6, .int v6), (7, .long v7), (19, .int v19)]) hx hb dL_law_688 hl (by decide) rfl (fun ls hl => ?_)
    refine lv_iload hx hb dL_law_690 (lv_at hl 0 rfl) ?_
    refine lv_if_ge (tgt := 699) hx hb dL_law_692 (by decide) (fun g110 => ?_) (fun g110 => ?_)
    · have h := (if_inv h).1 g110
      refine lv_aload_n hx hb dL_law_699 rfl (lv_at hl 2 rfl) ?_
      refine lv_iload hx hb dL_law_700 (lv_at hl 0 rfl) ?_
      refine r2_clR C hA hl.1 hG [.int x109] [] (m8_minutesUntilDone E l hst x109 S.g) QCL_240.1 QCL_240.2 KC8 rfl (rm2 (by decide) (by decide)) (Nat.le_of_ble_eq_true rfl) rfl dL_law_702 hU h (fun x111 S112 H locs cells slots hG h => ?_)
      exact jL_law_705 hst C hA hU hq K88 hK88 v2 v3 v5 v6 v7 v19 x109 x111 S112 _ _ _ _ _ _ _ _ _ hG hv3 hv5 (lv_sub hl [1, 2, 3, 4, 5, 6, 7, 8, 0] rfl) h
    · have h := (if_inv h).2 g110
      refine lv_iconst (v := (-1)) hx hb dL_law_695 (by decide) ?_
      refine lv_goto (tgt := 705) hx hb dL_law_696 (by decide) ?_
      exact jL_law_705 hst C hA hU hq K88 hK88 v2 v3 v5 v6 v7 v19 x109 (-1) S _ _ _ _ _ _ _ _ _ hG hv3 hv5 (lv_sub hl [1, 2, 3, 4, 5, 6, 7, 8, 0] rfl) h
set_option maxRecDepth 100000 in
set_option maxHeartbeats 8000000 in
theorem jL_law_518 {E : EV} {l : Launch} (hst : l.stackTraces = false) {u : Int32 × ZS} {p : Program} {e : Env} {s : State} {m : MethodId} {args : Array Value} {below : List Frame} {meth : Method} {c : Code} {F : FT} {Q : State → Prop} (C : Cx p s m args meth c cL_law 28 RL E) (hA : CA F E s) (hU : F.uc = u.2.c ∧ F.uw = u.2.w) (hq : LQ p l e (F.R 1400) s m args below meth c E F u Q) : ∀ (K88 : Int32 → Nat → Nat → Int32 → ZS → Option (Int32 × ZS)), (∀ (v2 : Int32) (v3 : Nat) (v5 : Nat) (v6 : Int32) (S : ZS) (ad : Nat → Nat) (N : Nat) (bv3 : Nat) (bv5 : Nat) (H : Heap) (locs : List Loc) (ls : Array Slot) (cells slots : Nat), GL E s F H locs ad N S cells slots → RA E ad N v3 bv3 → RA E ad N v5 bv5 → lv_has ls 28 [(0, .ref E.sb), (1, .ref (E.ad 0)), (2, .int v2), (3, .ref bv3), (5, .ref bv5), (6, .int v6)] → K88 v2 v3 v5 v6 S = some u → W p l e (F.R 1400) s m args below meth c H locs cells slots Q (F0 m 88 ls [])) → ∀ f : Nat, ∀ (v2 : Int32) (v3 : Nat) (v5 : Nat) (v6 : Int32) (v7 : Int64) (v9 : Int32) (v14 : Int32) (v15 : Int32) (S : ZS) (ad : Nat → Nat) (N : Nat) (bv3 : Nat) (bv5 : Nat) (H : Heap) (locs : List Loc) (ls : Array Slot) (cells slots : Nat), GL E s F H locs ad N S cells slots → RA E ad N v3 bv3 → RA E ad N v5 bv5 → lv_has ls 28 [(0, .ref E.sb), (1, .ref (E.ad 0)), (2, .int v2), (3, .ref bv3), (5, .ref bv5), (6, .int v6), (7, .long v7), (9, .int v9), (14, .int v14), (15, .int v15)] → kL_law_518 E.sL E.sx K88 f v2 v3 v5 v6 v7 v9 v14 v15 S = some u → W p l e (F.R 1400) s m args below meth c H locs cells slots Q (F0 m 518 ls []) := by
    have hx := C.1
    have hb := C.2.1
    intro K88 hK88 f
    induction f with
    | zero =>
      intro v2 v3 v5 v6 v7 v9 v14 v15 S ad N bv3 bv5 H locs ls cells slots hG hv3 hv5 hl h
      unfold kL_law_518 at h
      cases h
    | succ f ih =>
      intro v2 v3 v5 v6 v7 v9 v14 v15 S ad N bv3 bv5 H locs ls cells slots hG hv3 hv5 hl h
      unfold kL_law_518 at h
      refine lv_iload hx hb dL_law_518 (lv_at hl 9 rfl) ?_
      refine lv_iload hx hb dL_law_520 (lv_at hl 8 rfl) ?_
      refine lv_icmp_ge (tgt := 579) hx hb dL_law_522 (by decide) (fun g113 => ?_) (fun g113 => ?_)
      · have h := (if_inv h).1 g113
        refine lv_aload_n hx hb dL_law_579 rfl (lv_at hl 3 rfl) ?_
        refine lv_iload hx hb dL_law_580 (lv_at hl 7 rfl) ?_
        refine r2_cVI C hA hl.1 hG hv3 [.int v9] [] (mX9_next E l v3 v9 S (RAq hG hv3)) (by rw [hv3.1]) QLL_35 KP11 rfl (rm2 (by decide) (by decide)) (Nat.le_of_ble_eq_true rfl) rfl dL_law_582 hU h (fun x116 S114 H locs ad115 cells slots hG hx9 h => ?_)
        have hv3 := hv3.up hx9
        have hv5 := hv5.up hx9
        refine lv_istore (lv' := [(15, .int x116), (0, .ref E.sb), (1, .ref (E.ad 0)), (2, .int v2), (3, .ref bv3), (5, .ref bv5), (6, .int v6), (7, .long v7), (9, .int v9), (14, .int v14)]) hx hb dL_law_585 hl (by decide) rfl (fun ls hl => ?_)
        refine lv_aload_n hx hb dL_law_587 rfl (lv_at hl 2 rfl) ?_
        refine lv_iload hx hb dL_law_588 (lv_at hl 0 rfl) ?_
        refine r2_clR C hA hl.1 hG [.int x116] [] (m8_offsetOf E l hst x116 S114.g) QCL_194.1 QCL_194.2 KC8 rfl (rm2 (by decide) (by decide)) (Nat.le_of_ble_eq_true rfl) rfl dL_law_590 hU h (fun x117 S118 H locs cells slots hG h => ?_)
        refine lv_istore (lv' := [(16, .int x117), (15, .int x116), (0, .ref E.sb), (1, .ref (E.ad 0)), (2, .int v2), (3, .ref bv3), (5, .ref bv5), (6, .int v6), (7, .long v7), (9, .int v9), (14, .int v14)]) hx hb dL_law_593 hl (by decide) rfl (fun ls hl => ?_)
        refine lv_aload_n hx hb dL_law_595 rfl (lv_at hl 3 rfl) ?_
        refine r2_clI C hA hl.1 hG [] [] (m8_lightAtEnd E l S118.g) QCL_221.1 QCL_221.2 KC8 rfl (rm2 (by decide) (by decide)) (Nat.le_of_ble_eq_true rfl) rfl dL_law_596 h (fun x119 S120 H locs hG h => ?_)
        refine lv_istore (lv' := [(17, .int x119), (16, .int x117), (15, .int x116), (0, .ref E.sb), (1, .ref (E.ad 0)), (2, .int v2), (3, .ref bv3), (5, .ref bv5), (6, .int v6), (7, .long v7), (9, .int v9), (14, .int v14)]) hx hb dL_law_599 hl (by decide) rfl (fun ls hl => ?_)
        refine lv_aload_n hx hb dL_law_601 rfl (lv_at hl 4 rfl) ?_
        refine lv_iload hx hb dL_law_602 (lv_at hl 2 rfl) ?_
        refine r2_clR C hA hl.1 hG [.int x116] [] (m8_bestOffset E l hst x116 S120.g) QCL_237.1 QCL_237.2 KC8 rfl (rm2 (by decide) (by decide)) (Nat.le_of_ble_eq_true rfl) rfl dL_law_604 hU h (fun x121 S122 H locs cells slots hG h => ?_)
        refine lv_istore (lv' := [(18, .int x121), (17, .int x119), (16, .int x117), (15, .int x116), (0, .ref E.sb), (1, .ref (E.ad 0)), (2, .int v2), (3, .ref bv3), (5, .ref bv5), (6, .int v6), (7, .long v7), (9, .int v9), (14, .int v14)]) hx hb dL_law_607 hl (by decide) rfl (fun ls hl => ?_)
        refine lv_aload_n hx hb dL_law_609 rfl (lv_at hl 5 rfl) ?_
        refine lv_iload hx hb dL_law_610 (lv_at hl 3 rfl) ?_
        refine lv_iload hx hb dL_law_612 (lv_at hl 0 rfl) ?_
        refine r2_clR C hA hl.1 hG [.int x116, .int x121] [] (m8_turnMirror E l hst x116 x121 S122.g) QCL_132.1 QCL_132.2 KC8 rfl (rm2 (by decide) (by decide)) (Nat.le_of_ble_eq_true rfl) rfl dL_law_614 hU h (fun x123 S124 H locs cells slots hG h => ?_)
        refine lv_iload hx hb dL_law_617 (lv_at hl 2 rfl) ?_
        refine lv_icmp_ne (tgt := 665) hx hb dL_law_619 (by decide) (fun g125 => ?_) (fun g125 => ?_)
        · have h := (if_inv h).2 g125
          refine lv_iconst (v := 0) hx hb dL_law_665 (by decide) ?_
          exact lw9_ret hq hG dL_law_666 h
        · have h := (if_inv h).1 g125
          refine lv_aload_n hx hb dL_law_622 rfl (lv_at hl 5 rfl) ?_
          refine r2_clI C hA hl.1 hG [] [] (m8_lightAtEnd E l S124.g) QCL_221.1 QCL_221.2 KC8 rfl (rm2 (by decide) (by decide)) (Nat.le_of_ble_eq_true rfl) rfl dL_law_623 h (fun x126 S127 H locs hG h => ?_)
          refine lv_iload hx hb dL_law_626 (lv_at hl 1 rfl) ?_
          refine lv_icmp_lt (tgt := 665) hx hb dL_law_628 (by decide) (fun g128 => ?_) (fun g128 => ?_)
          · have h := (if_inv h).1 g128
            refine lv_iconst (v := 0) hx hb dL_law_665 (by decide) ?_
            exact lw9_ret hq hG dL_law_666 h
          · have h := (if_inv h).2 g128
            refine lv_aload_n hx hb dL_law_631 rfl (lv_at hl 5 rfl) ?_
            refine lv_iload hx hb dL_law_632 (lv_at hl 3 rfl) ?_
            refine r2_clR C hA hl.1 hG [.int x116] [] (m8_bestOffset E l hst x116 S127.g) QCL_237.1 QCL_237.2 KC8 rfl (rm2 (by decide) (by decide)) (Nat.le_of_ble_eq_true rfl) rfl dL_law_634 hU h (fun x129 S130 H locs cells slots hG h => ?_)
            refine lv_iload hx hb dL_law_637 (lv_at hl 0 rfl) ?_
            refine lv_icmp_ne (tgt := 665) hx hb dL_law_639 (by decide) (fun g131 => ?_) (fun g131 => ?_)
            · have h := (if_inv h).2 g131
              refine lv_iconst (v := 0) hx hb dL_law_665 (by decide) ?_
              exact lw9_ret hq hG dL_law_666 h
            · have h := (if_inv h).1 g131
              refine lv_aload_n hx hb dL_law_642 rfl (lv_at hl 5 rfl) ?_
              refine lv_iload hx hb dL_law_643 (lv_at hl 3 rfl) ?_
              refine lv_iload hx hb dL_law_645 (lv_at hl 2 rfl) ?_
              refine r2_clR C hA hl.1 hG [.int x116, .int x117] [] (m8_turnMirror E l hst x116 x117 S130.g) QCL_132.1 QCL_132.2 KC8 rfl (rm2 (by decide) (by decide)) (Nat.le_of_ble_eq_true rfl) rfl dL_law_647 hU h (fun x132 S133 H locs cells slots hG h => ?_)
              refine lv_iload hx hb dL_law_650 (lv_at hl 0 rfl) ?_
              refine lv_icmp_ne (tgt := 665) hx hb dL_law_652 (by decide) (fun g134 => ?_) (fun g134 => ?_)
              · have h := (if_inv h).2 g134
                refine lv_iconst (v := 0) hx hb dL_law_665 (by decide) ?_
                exact lw9_ret hq hG dL_law_666 h
              · have h := (if_inv h).1 g134
                refine lv_aload_n hx hb dL_law_655 rfl (lv_at hl 5 rfl) ?_
                refine r2_clL C hA hl.1 hG [] [] (m8_digest E l S133.g) QCL_176.1 QCL_176.2 KC8 rfl (rm2 (by decide) (by decide)) (Nat.le_of_ble_eq_true rfl) rfl dL_law_656 h (fun x135 S136 H locs hG h => ?_)
                refine lv_lload hx hb dL_law_659 (lv_at hl 10 rfl) ?_
                refine W.lcmp hx hb dL_law_661 ?_
                refine lv_if_eq (tgt := 667) hx hb dL_law_662 (by decide) (fun g137 => ?_) (fun g137 => ?_)
                · have h := (if_inv h).1 g137
                  refine lv_aload_n hx hb dL_law_667 rfl (lv_at hl 5 rfl) ?_
                  refine r2_clI C hA hl.1 hG [] [] (m8_minutesUntilSeen E l S136.g) QCL_231.1 QCL_231.2 KC8 rfl (rm2 (by decide) (by decide)) (Nat.le_of_ble_eq_true rfl) rfl dL_law_668 h (fun x138 S139 H locs hG h => ?_)
                  refine lv_istore (lv' := [(19, .int x138), (18, .int x121), (17, .int x119), (16, .int x117), (15, .int x116), (0, .ref E.sb), (1, .ref (E.ad 0)), (2, .int v2), (3, .ref bv3), (5, .ref bv5), (6, .int v6), (7, .long v7), (9, .int v9), (14, .int v14)]) hx hb dL_law_671 hl (by decide) rfl (fun ls hl => ?_)
                  refine lv_iload hx hb dL_law_673 (lv_at hl 13 rfl) ?_
                  refine lv_if_ne (tgt := 682) hx hb dL_law_675 (by decide) (fun g140 => ?_) (fun g140 => ?_)
                  · have h := (if_inv h).2 g140
                    refine lv_aload_n hx hb dL_law_682 rfl (lv_at hl 8 rfl) ?_
                    refine lv_iload hx hb dL_law_683 (lv_at hl 13 rfl) ?_
                    refine r2_cVI C hA hl.1 hG hv3 [.int v14] [] (mX9_next E l v3 v14 S139 (RAq hG hv3)) (by rw [hv3.1]) QLL_35 KP11 rfl (rm2 (by decide) (by decide)) (Nat.le_of_ble_eq_true rfl) rfl dL_law_685 hU h (fun x143 S141 H locs ad142 cells slots hG hx9 h => ?_)
                    have hv3 := hv3.up hx9
                    have hv5 := hv5.up hx9
                    exact jL_law_688 hst C hA hU hq K88 hK88 v2 v3 v5 v6 v7 x138 x143 S141 _ _ _ _ _ _ _ _ _ hG hv3 hv5 (lv_sub hl [5, 6, 7, 8, 9, 10, 11, 0] rfl) h
                  · have h := (if_inv h).1 g140
                    refine lv_iconst (v := (-1)) hx hb dL_law_678 (by decide) ?_
                    refine lv_goto (tgt := 688) hx hb dL_law_679 (by decide) ?_
                    exact jL_law_688 hst C hA hU hq K88 hK88 v2 v3 v5 v6 v7 x138 (-1) S139 _ _ _ _ _ _ _ _ _ hG hv3 hv5 (lv_sub hl [5, 6, 7, 8, 9, 10, 11, 0] rfl) h
                · have h := (if_inv h).2 g137
                  refine lv_iconst (v := 0) hx hb dL_law_665 (by decide) ?_
                  exact lw9_ret hq hG dL_law_666 h
      · have h := (if_inv h).2 g113
        refine lv_iconst (v := 0) hx hb dL_law_525 (by decide) ?_
        refine lv_istore (lv' := [(16, .int 0), (0, .ref E.sb), (1, .ref (E.ad 0)), (2, .int v2), (3, .ref bv3), (5, .ref bv5), (6, .int v6), (7, .long v7), (9, .int v9), (14, .int v14), (15, .int v15)]) hx hb dL_law_526 hl (by decide) rfl (fun ls hl => ?_)
        exact jL_law_528 hst C hA hU hq (kL_law_518 sL sx K88 f) ih FU v2 v3 v5 v6 v7 v9 v14 v15 0 S _ _ _ _ _ _ _ _ _ hG hv3 hv5 (lv_sub hl [1, 2, 3, 4, 5, 6, 7, 8, 9, 10, 0] rfl) h
set_option maxRecDepth 100000 in
set_option maxHeartbeats 8000000 in
theorem jL_law_506 {E : EV} {l : Launch} (hst : l.stackTraces = false) {u : Int32 × ZS} {p : Program} {e : Env} {s : State} {m : MethodId} {args : Array Value} {below : List Frame} {meth : Method} {c : Code} {F : FT} {Q : State → Prop} (C : Cx p s m args meth c cL_law 28 RL E) (hA : CA F E s) (hU : F.uc = u.2.c ∧ F.uw = u.2.w) (hq : LQ p l e (F.R 1400) s m args below meth c E F u Q) : ∀ (K88 : Int32 → Nat → Nat → Int32 → ZS → Option (Int32 × ZS)), (∀ (v2 : Int32) (v3 : Nat) (v5 : Nat) (v6 : Int32) (S : ZS) (ad : Nat → Nat) (N : Nat) (bv3 : Nat) (bv5 : Nat) (H : Heap) (locs : List Loc) (ls : Array Slot) (cells slots : Nat), GL E s F H locs ad N S cells slots → RA E ad N v3 bv3 → RA E ad N v5 bv5 → lv_has ls 28 [(0, .ref E.sb), (1, .ref (E.ad 0)), (2, .int v2), (3, .ref bv3), (5, .ref bv5), (6, .int v6)] → K88 v2 v3 v5 v6 S = some u → W p l e (F.R 1400) s m args below meth c H locs cells slots Q (F0 m 88 ls [])) → ∀ (v2 : Int32) (v3 : Nat) (v5 : Nat) (v6 : Int32) (v7 : Int64) (v9 : Int32) (v14 : Int32) (vt0 : Int32) (S : ZS) (ad : Nat → Nat) (N : Nat) (bv3 : Nat) (bv5 : Nat) (H : Heap) (locs : List Loc) (ls : Array Slot) (cells slots : Nat), GL E s F H locs ad N S cells slots → RA E ad N v3 bv3 → RA E ad N v5 bv5 → lv_has ls 28 [(0, .ref E.sb), (1, .ref (E.ad 0)), (2, .int v2), (3, .ref bv3), (5, .ref bv5), (6, .int v6), (7, .long v7), (9, .int v9), (14, .int v14)] → kL_law_506 E.sL E.sx K88 v2 v3 v5 v6 v7 v9 v14 vt0 S = some u → W p l e (F.R 1400) s m args below meth c H locs cells slots Q (F0 m 506 ls [.int vt0]) := by
    have hx := C.1
    have hb := C.2.1
    intro K88 hK88 v2 v3 v5 v6 v7 v9 v14 vt0 S ad N bv3 bv5 H locs ls cells slots hG hv3 hv5 hl h
    unfold kL_law_506 at h
    refine lv_aload_n hx hb dL_law_506 rfl (lv_at hl 1 rfl) ?_
    refine r2_clI C hA hl.1 hG [] [.int vt0] (m8_isSeen E l S.g) QCL_227.1 QCL_227.2 KC8 rfl (rm2 (by decide) (by decide)) (Nat.le_of_ble_eq_true rfl) rfl dL_law_507 h (fun x144 S145 H locs hG h => ?_)
    refine lv_icmp_eq (tgt := 515) hx hb dL_law_510 (by decide) (fun g146 => ?_) (fun g146 => ?_)
    · have h := (if_inv h).1 g146
      refine lv_iconst (v := 0) hx hb dL_law_515 (by decide) ?_
      refine lv_istore (lv' := [(15, .int 0), (0, .ref E.sb), (1, .ref (E.ad 0)), (2, .int v2), (3, .ref bv3), (5, .ref bv5), (6, .int v6), (7, .long v7), (9, .int v9), (14, .int v14)]) hx hb dL_law_516 hl (by decide) rfl (fun ls hl => ?_)
      exact jL_law_518 hst C hA hU hq K88 hK88 FU v2 v3 v5 v6 v7 v9 v14 0 S145 _ _ _ _ _ _ _ _ _ hG hv3 hv5 (lv_sub hl [1, 2, 3, 4, 5, 6, 7, 8, 9, 0] rfl) h
    · have h := (if_inv h).2 g146
      refine lv_iconst (v := 0) hx hb dL_law_513 (by decide) ?_
      exact lw9_ret hq hG dL_law_514 h
set_option maxRecDepth 100000 in
set_option maxHeartbeats 8000000 in
theorem jL_law_491 {E : EV} {l : Launch} (hst : l.stackTraces = false) {u : Int32 × ZS} {p : Program} {e : Env} {s : State} {m : MethodId} {args : Array Value} {below : List Frame} {meth : Method} {c : Code} {F : FT} {Q : State → Prop} (C : Cx p s m args meth c cL_law 28 RL E) (hA : CA F E s) (hU : F.uc = u.2.c ∧ F.uw = u.2.w) (hq : LQ p l e (F.R 1400) s m args below meth c E F u Q) : ∀ (K88 : Int32 → Nat → Nat → Int32 → ZS → Option (Int32 × ZS)), (∀ (v2 : Int32) (v3 : Nat) (v5 : Nat) (v6 : Int32) (S : ZS) (ad : Nat → Nat) (N : Nat) (bv3 : Nat) (bv5 : Nat) (H : Heap) (locs : List Loc) (ls : Array Slot) (cells slots : Nat), GL E s F H locs ad N S cells slots → RA E ad N v3 bv3 → RA E ad N v5 bv5 → lv_has ls 28 [(0, .ref E.sb), (1, .ref (E.ad 0)), (2, .int v2), (3, .ref bv3), (5, .ref bv5), (6, .int v6)] → K88 v2 v3 v5 v6 S = some u → W p l e (F.R 1400) s m args below meth c H locs cells slots Q (F0 m 88 ls [])) → ∀ (v2 : Int32) (v3 : Nat) (v5 : Nat) (v6 : Int32) (v7 : Int64) (v9 : Int32) (v14 : Int32) (vt0 : Int32) (vt1 : Int32) (S : ZS) (ad : Nat → Nat) (N : Nat) (bv3 : Nat) (bv5 : Nat) (H : Heap) (locs : List Loc) (ls : Array Slot) (cells slots : Nat), GL E s F H locs ad N S cells slots → RA E ad N v3 bv3 → RA E ad N v5 bv5 → lv_has ls 28 [(0, .ref E.sb), (1, .ref (E.ad 0)), (2, .int v2), (3, .ref bv3), (5, .ref bv5), (6, .int v6), (7, .long v7), (9, .int v9), (14, .int v14)] → kL_law_491 E.sL E.sx K88 v2 v3 v5 v6 v7 v9 v14 vt0 vt1 S = some u → W p l e (F.R 1400) s m args below meth c H locs cells slots Q (F0 m 491 ls [.int vt0, .int vt1]) := by
    have hx := C.1
    have hb := C.2.1
    intro K88 hK88 v2 v3 v5 v6 v7 v9 v14 vt0 vt1 S ad N bv3 bv5 H locs ls cells slots hG hv3 hv5 hl h
    unfold kL_law_491 at h
    refine lv_icmp_ne (tgt := 513) hx hb dL_law_491 (by decide) (fun g147 => ?_) (fun g147 => ?_)
    · have h := (if_inv h).2 g147
      refine lv_iconst (v := 0) hx hb dL_law_513 (by decide) ?_
      exact lw9_ret hq hG dL_law_514 h
    · have h := (if_inv h).1 g147
      refine lv_aload_n hx hb dL_law_494 rfl (lv_at hl 1 rfl) ?_
      refine r2_clI C hA hl.1 hG [] [] (m8_minutesUntilSeen E l S.g) QCL_231.1 QCL_231.2 KC8 rfl (rm2 (by decide) (by decide)) (Nat.le_of_ble_eq_true rfl) rfl dL_law_495 h (fun x148 S149 H locs hG h => ?_)
      refine lv_if_ne (tgt := 505) hx hb dL_law_498 (by decide) (fun g150 => ?_) (fun g150 => ?_)
      · have h := (if_inv h).2 g150
        refine lv_iconst (v := 0) hx hb dL_law_505 (by decide) ?_
        exact jL_law_506 hst C hA hU hq K88 hK88 v2 v3 v5 v6 v7 v9 v14 0 S149 _ _ _ _ _ _ _ _ _ hG hv3 hv5 (lv_sub hl [0, 1, 2, 3, 4, 5, 6, 7, 8] rfl) h
      · have h := (if_inv h).1 g150
        refine lv_iconst (v := 1) hx hb dL_law_501 (by decide) ?_
        refine lv_goto (tgt := 506) hx hb dL_law_502 (by decide) ?_
        exact jL_law_506 hst C hA hU hq K88 hK88 v2 v3 v5 v6 v7 v9 v14 1 S149 _ _ _ _ _ _ _ _ _ hG hv3 hv5 (lv_sub hl [0, 1, 2, 3, 4, 5, 6, 7, 8] rfl) h
set_option maxRecDepth 100000 in
set_option maxHeartbeats 8000000 in
theorem jL_law_490 {E : EV} {l : Launch} (hst : l.stackTraces = false) {u : Int32 × ZS} {p : Program} {e : Env} {s : State} {m : MethodId} {args : Array Value} {below : List Frame} {meth : Method} {c : Code} {F : FT} {Q : State → Prop} (C : Cx p s m args meth c cL_law 28 RL E) (hA : CA F E s) (hU : F.uc = u.2.c ∧ F.uw = u.2.w) (hq : LQ p l e (F.R 1400) s m args below meth c E F u Q) : ∀ (K88 : Int32 → Nat → Nat → Int32 → ZS → Option (Int32 × ZS)), (∀ (v2 : Int32) (v3 : Nat) (v5 : Nat) (v6 : Int32) (S : ZS) (ad : Nat → Nat) (N : Nat) (bv3 : Nat) (bv5 : Nat) (H : Heap) (locs : List Loc) (ls : Array Slot) (cells slots : Nat), GL E s F H locs ad N S cells slots → RA E ad N v3 bv3 → RA E ad N v5 bv5 → lv_has ls 28 [(0, .ref E.sb), (1, .ref (E.ad 0)), (2, .int v2), (3, .ref bv3), (5, .ref bv5), (6, .int v6)] → K88 v2 v3 v5 v6 S = some u → W p l e (F.R 1400) s m args below meth c H locs cells slots Q (F0 m 88 ls [])) → ∀ (v2 : Int32) (v3 : Nat) (v5 : Nat) (v6 : Int32) (v7 : Int64) (v9 : Int32) (v14 : Int32) (vt0 : Int32) (S : ZS) (ad : Nat → Nat) (N : Nat) (bv3 : Nat) (bv5 : Nat) (H : Heap) (locs : List Loc) (ls : Array Slot) (cells slots : Nat), GL E s F H locs ad N S cells slots → RA E ad N v3 bv3 → RA E ad N v5 bv5 → lv_has ls 28 [(0, .ref E.sb), (1, .ref (E.ad 0)), (2, .int v2), (3, .ref bv3), (5, .ref bv5), (6, .int v6), (7, .long v7), (9, .int v9), (14, .int v14)] → kL_law_490 E.sL E.sx K88 v2 v3 v5 v6 v7 v9 v14 vt0 S = some u → W p l e (F.R 1400) s m args below meth c H locs cells slots Q (F0 m 490 ls [.int vt0]) := by
    have hx := C.1
    have hb := C.2.1
    intro K88 hK88 v2 v3 v5 v6 v7 v9 v14 vt0 S ad N bv3 bv5 H locs ls cells slots hG hv3 hv5 hl h
    unfold kL_law_490 at h
    refine lv_iconst (v := 0) hx hb dL_law_490 (by decide) ?_
    exact jL_law_491 hst C hA hU hq K88 hK88 v2 v3 v5 v6 v7 v9 v14 0 vt0 S _ _ _ _ _ _ _ _ _ hG hv3 hv5 (lv_sub hl [0, 1, 2, 3, 4, 5, 6, 7, 8] rfl) h
set_option maxRecDepth 100000 in
set_option maxHeartbeats 8000000 in
theorem jL_law_455 {E : EV} {l : Launch} (hst : l.stackTraces = false) {u : Int32 × ZS} {p : Program} {e : Env} {s : State} {m : MethodId} {args : Array Value} {below : List Frame} {meth : Method} {c : Code} {F : FT} {Q : State → Prop} (C : Cx p s m args meth c cL_law 28 RL E) (hA : CA F E s) (hU : F.uc = u.2.c ∧ F.uw = u.2.w) (hq : LQ p l e (F.R 1400) s m args below meth c E F u Q) : ∀ (K88 : Int32 → Nat → Nat → Int32 → ZS → Option (Int32 × ZS)), (∀ (v2 : Int32) (v3 : Nat) (v5 : Nat) (v6 : Int32) (S : ZS) (ad : Nat → Nat) (N : Nat) (bv3 : Nat) (bv5 : Nat) (H : Heap) (locs : List Loc) (ls : Array Slot) (cells slots : Nat), GL E s F H locs ad N S cells slots → RA E ad N v3 bv3 → RA E ad N v5 bv5 → lv_has ls 28 [(0, .ref E.sb), (1, .ref (E.ad 0)), (2, .int v2), (3, .ref bv3), (5, .ref bv5), (6, .int v6)] → K88 v2 v3 v5 v6 S = some u → W p l e (F.R 1400) s m args below meth c H locs cells slots Q (F0 m 88 ls [])) → ∀ (v2 : Int32) (v3 : Nat) (v5 : Nat) (v6 : Int32) (v7 : Int64) (v9 : Int32) (v14 : Int32) (S : ZS) (ad : Nat → Nat) (N : Nat) (bv3 : Nat) (bv5 : Nat) (H : Heap) (locs : List Loc) (ls : Array Slot) (cells slots : Nat), GL E s F H locs ad N S cells slots → RA E ad N v3 bv3 → RA E ad N v5 bv5 → lv_has ls 28 [(0, .ref E.sb), (1, .ref (E.ad 0)), (2, .int v2), (3, .ref bv3), (5, .ref bv5), (6, .int v6), (7, .long v7), (9, .int v9), (14, .int v14)] → kL_law_455 E.sL E.sx K88 v2 v3 v5 v6 v7 v9 v14 S = some u → W p l e (F.R 1400) s m args below meth c H locs cells slots Q (F0 m 455 ls []) := by
    have hx := C.1
    have hb := C.2.1
    intro K88 hK88 v2 v3 v5 v6 v7 v9 v14 S ad N bv3 bv5 H locs ls cells slots hG hv3 hv5 hl h
    unfold kL_law_455 at h
    refine lv_aload_n hx hb dL_law_455 rfl (lv_at hl 1 rfl) ?_
    refine r2_clI C hA hl.1 hG [] [] (m8_isSeen E l S.g) QCL_227.1 QCL_227.2 KC8 rfl (rm2 (by decide) (by decide)) (Nat.le_of_ble_eq_true rfl) rfl dL_law_456 h (fun x151 S152 H locs hG h => ?_)
    refine lv_aload_n hx hb dL_law_459 rfl (lv_at hl 1 rfl) ?_
    refine r2_clI C hA hl.1 hG [] [.int x151] (m8_lightAtEnd E l S152.g) QCL_221.1 QCL_221.2 KC8 rfl (rm2 (by decide) (by decide)) (Nat.le_of_ble_eq_true rfl) rfl dL_law_460 h (fun x153 S154 H locs hG h => ?_)
    refine lv_aload hx hb dL_law_463 (lv_at hl 4 rfl) ?_
    refine r2_gI C hG hv5 FQL_57 rfl dL_law_465 h (fun x155 h => ?_)
    refine lv_icmp_lt (tgt := 490) hx hb dL_law_468 (by decide) (fun g156 => ?_) (fun g156 => ?_)
    · have h := (if_inv h).1 g156
      exact jL_law_490 hst C hA hU hq K88 hK88 v2 v3 v5 v6 v7 v9 v14 x151 S154 _ _ _ _ _ _ _ _ _ hG hv3 hv5 (lv_sub hl [0, 1, 2, 3, 4, 5, 6, 7, 8] rfl) h
    · have h := (if_inv h).2 g156
      refine lv_aload_n hx hb dL_law_471 rfl (lv_at hl 1 rfl) ?_
      refine r2_clI C hA hl.1 hG [] [.int x151] (m8_tiltAtEnd E l S154.g) QCL_224.1 QCL_224.2 KC8 rfl (rm2 (by decide) (by decide)) (Nat.le_of_ble_eq_true rfl) rfl dL_law_472 h (fun x157 S158 H locs hG h => ?_)
      refine r_abs C hl.1 QLL_78 ⟨(Nat.le_of_ble_eq_true rfl), (Nat.le_of_ble_eq_true rfl), (GLr hG).1, (GLr hG).2⟩ dL_law_475 ?_
      refine r_nm h (fun x159 h => ?_)
      refine lv_aload hx hb dL_law_478 (lv_at hl 4 rfl) ?_
      refine r2_gI C hG hv5 FQL_40 rfl dL_law_480 h (fun x160 h => ?_)
      refine lv_icmp_gt (tgt := 490) hx hb dL_law_483 (by decide) (fun g161 => ?_) (fun g161 => ?_)
      · have h := (if_inv h).1 g161
        exact jL_law_490 hst C hA hU hq K88 hK88 v2 v3 v5 v6 v7 v9 v14 x151 S158 _ _ _ _ _ _ _ _ _ hG hv3 hv5 (lv_sub hl [0, 1, 2, 3, 4, 5, 6, 7, 8] rfl) h
      · have h := (if_inv h).2 g161
        refine lv_iconst (v := 1) hx hb dL_law_486 (by decide) ?_
        refine lv_goto (tgt := 491) hx hb dL_law_487 (by decide) ?_
        exact jL_law_491 hst C hA hU hq K88 hK88 v2 v3 v5 v6 v7 v9 v14 1 x151 S158 _ _ _ _ _ _ _ _ _ hG hv3 hv5 (lv_sub hl [0, 1, 2, 3, 4, 5, 6, 7, 8] rfl) h
set_option maxRecDepth 100000 in
set_option maxHeartbeats 8000000 in
theorem jL_law_154 {E : EV} {l : Launch} (hst : l.stackTraces = false) {u : Int32 × ZS} {p : Program} {e : Env} {s : State} {m : MethodId} {args : Array Value} {below : List Frame} {meth : Method} {c : Code} {F : FT} {Q : State → Prop} (C : Cx p s m args meth c cL_law 28 RL E) (hA : CA F E s) (hU : F.uc = u.2.c ∧ F.uw = u.2.w) (hq : LQ p l e (F.R 1400) s m args below meth c E F u Q) : ∀ (K88 : Int32 → Nat → Nat → Int32 → ZS → Option (Int32 × ZS)), (∀ (v2 : Int32) (v3 : Nat) (v5 : Nat) (v6 : Int32) (S : ZS) (ad : Nat → Nat) (N : Nat) (bv3 : Nat) (bv5 : Nat) (H : Heap) (locs : List Loc) (ls : Array Slot) (cells slots : Nat), GL E s F H locs ad N S cells slots → RA E ad N v3 bv3 → RA E ad N v5 bv5 → lv_has ls 28 [(0, .ref E.sb), (1, .ref (E.ad 0)), (2, .int v2), (3, .ref bv3), (5, .ref bv5), (6, .int v6)] → K88 v2 v3 v5 v6 S = some u → W p l e (F.R 1400) s m args below meth c H locs cells slots Q (F0 m 88 ls [])) → ∀ f : Nat, ∀ (v2 : Int32) (v3 : Nat) (v5 : Nat) (v6 : Int32) (v7 : Int64) (v9 : Int32) (v10 : Int32) (v11 : Int32) (v12 : Nat) (v13 : Int32) (v14 : Int32) (S : ZS) (ad : Nat → Nat) (N : Nat) (bv3 : Nat) (bv5 : Nat) (bv12 : Nat) (H : Heap) (locs : List Loc) (ls : Array Slot) (cells slots : Nat), GL E s F H locs ad N S cells slots → RA E ad N v3 bv3 → RA E ad N v5 bv5 → RA E ad N v12 bv12 → lv_has ls 28 [(0, .ref E.sb), (1, .ref (E.ad 0)), (2, .int v2), (3, .ref bv3), (5, .ref bv5), (6, .int v6), (7, .long v7), (9, .int v9), (10, .int v10), (11, .int v11), (12, .ref bv12), (13, .int v13), (14, .int v14)] → kL_law_154 E.sL E.sx K88 f v2 v3 v5 v6 v7 v9 v10 v11 v12 v13 v14 S = some u → W p l e (F.R 1400) s m args below meth c H locs cells slots Q (F0 m 154 ls []) := by
    have hx := C.1
    have hb := C.2.1
    intro K88 hK88 f
    induction f with
    | zero =>
      intro v2 v3 v5 v6 v7 v9 v10 v11 v12 v13 v14 S ad N bv3 bv5 bv12 H locs ls cells slots hG hv3 hv5 hv12 hl h
      unfold kL_law_154 at h
      cases h
    | succ f ih =>
      intro v2 v3 v5 v6 v7 v9 v10 v11 v12 v13 v14 S ad N bv3 bv5 bv12 H locs ls cells slots hG hv3 hv5 hv12 hl h
      unfold kL_law_154 at h
      refine lv_iload hx hb dL_law_154 (lv_at hl 12 rfl) ?_
      refine lv_iload hx hb dL_law_156 (lv_at hl 7 rfl) ?_
      refine lv_icmp_ge (tgt := 401) hx hb dL_law_158 (by decide) (fun g162 => ?_) (fun g162 => ?_)
      · have h := (if_inv h).1 g162
        refine lv_aload_n hx hb dL_law_401 rfl (lv_at hl 1 rfl) ?_
        refine r2_clP C hA hl.1 hG [] [] (m8_jobs E l S.g) QCL_219.1 QCL_219.2 KC8 rfl (rm2 (by decide) (by decide)) (Nat.le_of_ble_eq_true rfl) rfl dL_law_402 h (fun x163 H locs hG h => ?_)
        refine lv_istore (lv' := [(14, .int x163), (0, .ref E.sb), (1, .ref (E.ad 0)), (2, .int v2), (3, .ref bv3), (5, .ref bv5), (6, .int v6), (7, .long v7), (9, .int v9), (10, .int v10), (11, .int v11), (12, .ref bv12), (13, .int v13)]) hx hb dL_law_405 hl (by decide) rfl (fun ls hl => ?_)
        refine lv_iload hx hb dL_law_407 (lv_at hl 9 rfl) ?_
        refine lv_aload_n hx hb dL_law_409 rfl (lv_at hl 2 rfl) ?_
        refine r2_clI C hA hl.1 hG [] [.int v10] (m8_lightAtEnd E l S.g) QCL_221.1 QCL_221.2 KC8 rfl (rm2 (by decide) (by decide)) (Nat.le_of_ble_eq_true rfl) rfl dL_law_410 h (fun x164 S165 H locs hG h => ?_)
        refine lv_iadd hx hb dL_law_413 ?_
        refine lv_sipush (v := 10000) hx hb dL_law_414 (by decide) ?_
        refine lv_icmp_ne (tgt := 513) hx hb dL_law_417 (by decide) (fun g166 => ?_) (fun g166 => ?_)
        · have h := (if_inv h).2 g166
          refine lv_iconst (v := 0) hx hb dL_law_513 (by decide) ?_
          exact lw9_ret hq hG dL_law_514 h
        · have h := (if_inv h).1 g166
          refine lv_aload_n hx hb dL_law_420 rfl (lv_at hl 2 rfl) ?_
          refine r2_clI C hA hl.1 hG [] [] (m8_tiltAtEnd E l S165.g) QCL_224.1 QCL_224.2 KC8 rfl (rm2 (by decide) (by decide)) (Nat.le_of_ble_eq_true rfl) rfl dL_law_421 h (fun x167 S168 H locs hG h => ?_)
          refine lv_iconst (v := 2) hx hb dL_law_424 (by decide) ?_
          refine lv_iload hx hb dL_law_425 (lv_at hl 10 rfl) ?_
          refine lv_imul hx hb dL_law_427 ?_
          refine lv_icmp_ne (tgt := 513) hx hb dL_law_428 (by decide) (fun g169 => ?_) (fun g169 => ?_)
          · have h := (if_inv h).2 g169
            refine lv_iconst (v := 0) hx hb dL_law_513 (by decide) ?_
            exact lw9_ret hq hG dL_law_514 h
          · have h := (if_inv h).1 g169
            refine lv_iload hx hb dL_law_431 (lv_at hl 0 rfl) ?_
            refine lv_if_lt (tgt := 513) hx hb dL_law_433 (by decide) (fun g170 => ?_) (fun g170 => ?_)
            · have h := (if_inv h).1 g170
              refine lv_iconst (v := 0) hx hb dL_law_513 (by decide) ?_
              exact lw9_ret hq hG dL_law_514 h
            · have h := (if_inv h).2 g170
              refine lv_iload hx hb dL_law_436 (lv_at hl 0 rfl) ?_
              refine lv_bipush (v := 12) hx hb dL_law_438 (by decide) ?_
              refine lv_icmp_gt (tgt := 513) hx hb dL_law_440 (by decide) (fun g171 => ?_) (fun g171 => ?_)
              · have h := (if_inv h).1 g171
                refine lv_iconst (v := 0) hx hb dL_law_513 (by decide) ?_
                exact lw9_ret hq hG dL_law_514 h
              · have h := (if_inv h).2 g171
                refine lv_aload_n hx hb dL_law_443 rfl (lv_at hl 2 rfl) ?_
                refine r2_clP C hA hl.1 hG [] [] (m8_minutesToGo E l S168.g) QCL_204.1 QCL_204.2 KC8 rfl (rm2 (by decide) (by decide)) (Nat.le_of_ble_eq_true rfl) rfl dL_law_444 h (fun x172 H locs hG h => ?_)
                refine lv_if_le (tgt := 455) hx hb dL_law_447 (by decide) (fun g173 => ?_) (fun g173 => ?_)
                · have h := (if_inv h).1 g173
                  exact jL_law_455 hst C hA hU hq K88 hK88 v2 v3 v5 v6 v7 v9 x163 S168 _ _ _ _ _ _ _ _ _ hG hv3 hv5 (lv_sub hl [1, 2, 3, 4, 5, 6, 7, 8, 0] rfl) h
                · have h := (if_inv h).2 g173
                  refine lv_iload hx hb dL_law_450 (lv_at hl 0 rfl) ?_
                  refine lv_if_eq (tgt := 513) hx hb dL_law_452 (by decide) (fun g174 => ?_) (fun g174 => ?_)
                  · have h := (if_inv h).1 g174
                    refine lv_iconst (v := 0) hx hb dL_law_513 (by decide) ?_
                    exact lw9_ret hq hG dL_law_514 h
                  · have h := (if_inv h).2 g174
                    exact jL_law_455 hst C hA hU hq K88 hK88 v2 v3 v5 v6 v7 v9 x163 S168 _ _ _ _ _ _ _ _ _ hG hv3 hv5 (lv_sub hl [1, 2, 3, 4, 5, 6, 7, 8, 0] rfl) h
      · have h := (if_inv h).2 g162
        refine lv_aload_n hx hb dL_law_161 rfl (lv_at hl 1 rfl) ?_
        refine lv_iload hx hb dL_law_162 (lv_at hl 12 rfl) ?_
        refine r2_clR C hA hl.1 hG [.int v14] [] (m8_mirrorAt E l hst v14 S.g) QCL_182.1 QCL_182.2 KC8 rfl (rm2 (by decide) (by decide)) (Nat.le_of_ble_eq_true rfl) rfl dL_law_164 hU h (fun x175 S176 H locs cells slots hG h => ?_)
        refine lv_istore (lv' := [(15, .int x175), (0, .ref E.sb), (1, .ref (E.ad 0)), (2, .int v2), (3, .ref bv3), (5, .ref bv5), (6, .int v6), (7, .long v7), (9, .int v9), (10, .int v10), (11, .int v11), (12, .ref bv12), (13, .int v13), (14, .int v14)]) hx hb dL_law_167 hl (by decide) rfl (fun ls hl => ?_)
        refine lv_aload hx hb dL_law_169 (lv_at hl 11 rfl) ?_
        refine lv_iload hx hb dL_law_171 (lv_at hl 0 rfl) ?_
        refine r2_gAZ C hG hv12 dL_law_173 h (fun x177 h => ?_)
        refine lv_if_ne (tgt := 188) hx hb dL_law_174 (by decide) (fun g178 => ?_) (fun g178 => ?_)
        · have h := (if_inv h).2 g178
          refine lv_iconst (v := 0) hx hb dL_law_188 (by decide) ?_
          exact lw9_ret hq hG dL_law_189 h
        · have h := (if_inv h).1 g178
          refine lv_aload_n hx hb dL_law_177 rfl (lv_at hl 2 rfl) ?_
          refine lv_iload hx hb dL_law_178 (lv_at hl 0 rfl) ?_
          refine r2_clR C hA hl.1 hG [.int x175] [] (m8_placeOf E l hst x175 S176.g) QCL_185.1 QCL_185.2 KC8 rfl (rm2 (by decide) (by decide)) (Nat.le_of_ble_eq_true rfl) rfl dL_law_180 hU h (fun x179 S180 H locs cells slots hG h => ?_)
          refine lv_iload hx hb dL_law_183 (lv_at hl 13 rfl) ?_
          refine lv_icmp_eq (tgt := 190) hx hb dL_law_185 (by decide) (fun g181 => ?_) (fun g181 => ?_)
          · have h := (if_inv h).1 g181
            refine lv_aload hx hb dL_law_190 (lv_at hl 11 rfl) ?_
            refine lv_iload hx hb dL_law_192 (lv_at hl 0 rfl) ?_
            refine lv_iconst (v := 1) hx hb dL_law_194 (by decide) ?_
            refine r2_pAZ C hG hv12 (by decide) dL_law_195 h (fun H locs S182 hG h => ?_)
            refine lv_aload_n hx hb dL_law_196 rfl (lv_at hl 2 rfl) ?_
            refine lv_iload hx hb dL_law_197 (lv_at hl 0 rfl) ?_
            refine r2_clR C hA hl.1 hG [.int x175] [] (m8_lightBehind E l hst x175 S182.g) QCL_188.1 QCL_188.2 KC8 rfl (rm2 (by decide) (by decide)) (Nat.le_of_ble_eq_true rfl) rfl dL_law_199 hU h (fun x183 S184 H locs cells slots hG h => ?_)
            refine lv_istore (lv' := [(16, .int x183), (15, .int x175), (0, .ref E.sb), (1, .ref (E.ad 0)), (2, .int v2), (3, .ref bv3), (5, .ref bv5), (6, .int v6), (7, .long v7), (9, .int v9), (10, .int v10), (11, .int v11), (12, .ref bv12), (13, .int v13), (14, .int v14)]) hx hb dL_law_202 hl (by decide) rfl (fun ls hl => ?_)
            refine lv_iload hx hb dL_law_204 (lv_at hl 10 rfl) ?_
            refine lv_aload_n hx hb dL_law_206 rfl (lv_at hl 3 rfl) ?_
            refine lv_iload hx hb dL_law_207 (lv_at hl 1 rfl) ?_
            refine r2_clR C hA hl.1 hG [.int x175] [.int v10] (m8_lostAt E l hst x175 S184.g) QCL_191.1 QCL_191.2 KC8 rfl (rm2 (by decide) (by decide)) (Nat.le_of_ble_eq_true rfl) rfl dL_law_209 hU h (fun x185 S186 H locs cells slots hG h => ?_)
            refine lv_iadd hx hb dL_law_212 ?_
            refine r_nm h (fun x187 h => ?_)
            refine lv_istore (lv' := [(10, .int x187), (16, .int x183), (15, .int x175), (0, .ref E.sb), (1, .ref (E.ad 0)), (2, .int v2), (3, .ref bv3), (5, .ref bv5), (6, .int v6), (7, .long v7), (9, .int v9), (11, .int v11), (12, .ref bv12), (13, .int v13), (14, .int v14)]) hx hb dL_law_213 hl (by decide) rfl (fun ls hl => ?_)
            refine lv_iload hx hb dL_law_215 (lv_at hl 11 rfl) ?_
            refine lv_aload_n hx hb dL_law_217 rfl (lv_at hl 4 rfl) ?_
            refine lv_iload hx hb dL_law_218 (lv_at hl 2 rfl) ?_
            refine r2_clR C hA hl.1 hG [.int x175] [.int v11] (m8_offsetOf E l hst x175 S186.g) QCL_194.1 QCL_194.2 KC8 rfl (rm2 (by decide) (by decide)) (Nat.le_of_ble_eq_true rfl) rfl dL_law_220 hU h (fun x188 S189 H locs cells slots hG h => ?_)
            refine lv_iadd hx hb dL_law_223 ?_
            refine r_nm h (fun x190 h => ?_)
            refine lv_istore (lv' := [(11, .int x190), (10, .int x187), (16, .int x183), (15, .int x175), (0, .ref E.sb), (1, .ref (E.ad 0)), (2, .int v2), (3, .ref bv3), (5, .ref bv5), (6, .int v6), (7, .long v7), (9, .int v9), (12, .ref bv12), (13, .int v13), (14, .int v14)]) hx hb dL_law_224 hl (by decide) rfl (fun ls hl => ?_)
            refine lv_iload hx hb dL_law_226 (lv_at hl 2 rfl) ?_
            refine lv_if_lt (tgt := 389) hx hb dL_law_228 (by decide) (fun g191 => ?_) (fun g191 => ?_)
            · have h := (if_inv h).1 g191
              refine lv_iconst (v := 0) hx hb dL_law_389 (by decide) ?_
              exact lw9_ret hq hG dL_law_390 h
            · have h := (if_inv h).2 g191
              refine lv_iload hx hb dL_law_231 (lv_at hl 2 rfl) ?_
              refine lv_iload hx hb dL_law_233 (lv_at hl 13 rfl) ?_
              refine lv_icmp_gt (tgt := 389) hx hb dL_law_235 (by decide) (fun g192 => ?_) (fun g192 => ?_)
              · have h := (if_inv h).1 g192
                refine lv_iconst (v := 0) hx hb dL_law_389 (by decide) ?_
                exact lw9_ret hq hG dL_law_390 h
              · have h := (if_inv h).2 g192
                refine lv_aload_n hx hb dL_law_238 rfl (lv_at hl 5 rfl) ?_
                refine lv_iload hx hb dL_law_239 (lv_at hl 3 rfl) ?_
                refine r2_clR C hA hl.1 hG [.int x175] [] (m8_lostAt E l hst x175 S189.g) QCL_191.1 QCL_191.2 KC8 rfl (rm2 (by decide) (by decide)) (Nat.le_of_ble_eq_true rfl) rfl dL_law_241 hU h (fun x193 S194 H locs cells slots hG h => ?_)
                refine lv_iload hx hb dL_law_244 (lv_at hl 13 rfl) ?_
                refine lv_iload hx hb dL_law_246 (lv_at hl 2 rfl) ?_
                refine lv_isub hx hb dL_law_248 ?_
                refine lv_icmp_ne (tgt := 389) hx hb dL_law_249 (by decide) (fun g195 => ?_) (fun g195 => ?_)
                · have h := (if_inv h).2 g195
                  refine lv_iconst (v := 0) hx hb dL_law_389 (by decide) ?_
                  exact lw9_ret hq hG dL_law_390 h
                · have h := (if_inv h).1 g195
                  refine lv_aload_n hx hb dL_law_252 rfl (lv_at hl 5 rfl) ?_
                  refine lv_iload hx hb dL_law_253 (lv_at hl 3 rfl) ?_
                  refine r2_clR C hA hl.1 hG [.int x175] [] (m8_lostAt E l hst x175 S194.g) QCL_191.1 QCL_191.2 KC8 rfl (rm2 (by decide) (by decide)) (Nat.le_of_ble_eq_true rfl) rfl dL_law_255 hU h (fun x196 S197 H locs cells slots hG h => ?_)
                  refine lv_aload_n hx hb dL_law_258 rfl (lv_at hl 5 rfl) ?_
                  refine lv_aload_n hx hb dL_law_259 rfl (lv_at hl 5 rfl) ?_
                  refine r2_clR C hA hl.1 hG [] [.ref (E.ad 0), .int x196] (m8_worstMirror E l hst S197.g) QCL_197.1 QCL_197.2 KC8 rfl (rm2 (by decide) (by decide)) (Nat.le_of_ble_eq_true rfl) rfl dL_law_260 hU h (fun x198 S199 H locs cells slots hG h => ?_)
                  refine r2_clR C hA hl.1 hG [.int x198] [.int x196] (m8_lostAt E l hst x198 S199.g) QCL_191.1 QCL_191.2 KC8 rfl (rm2 (by decide) (by decide)) (Nat.le_of_ble_eq_true rfl) rfl dL_law_263 hU h (fun x200 S201 H locs cells slots hG h => ?_)
                  refine lv_icmp_gt (tgt := 389) hx hb dL_law_266 (by decide) (fun g202 => ?_) (fun g202 => ?_)
                  · have h := (if_inv h).1 g202
                    refine lv_iconst (v := 0) hx hb dL_law_389 (by decide) ?_
                    exact lw9_ret hq hG dL_law_390 h
                  · have h := (if_inv h).2 g202
                    refine lv_aload_n hx hb dL_law_269 rfl (lv_at hl 5 rfl) ?_
                    refine lv_iload hx hb dL_law_270 (lv_at hl 3 rfl) ?_
                    refine r2_clR C hA hl.1 hG [.int x175] [] (m8_isCovered E l hst x175 S201.g) QCL_200.1 QCL_200.2 KC8 rfl (rm2 (by decide) (by decide)) (Nat.le_of_ble_eq_true rfl) rfl dL_law_272 hU h (fun x203 S204 H locs cells slots hG h => ?_)
                    refine lv_if_eq (tgt := 283) hx hb dL_law_275 (by decide) (fun g205 => ?_) (fun g205 => ?_)
                    · have h := (if_inv h).1 g205
                      exact jL_law_283 hst C hA hU hq (kL_law_154 sL sx K88 f) ih v2 v3 v5 v6 v7 v9 x187 x190 v12 v14 x175 x183 S204 _ _ _ _ _ _ _ _ _ _ hG hv3 hv5 hv12 (lv_sub hl [4, 5, 6, 7, 8, 9, 10, 11, 1, 0, 12, 14, 3, 2] rfl) h
                    · have h := (if_inv h).2 g205
                      refine lv_iload hx hb dL_law_278 (lv_at hl 2 rfl) ?_
                      refine lv_if_gt (tgt := 389) hx hb dL_law_280 (by decide) (fun g206 => ?_) (fun g206 => ?_)
                      · have h := (if_inv h).1 g206
                        refine lv_iconst (v := 0) hx hb dL_law_389 (by decide) ?_
                        exact lw9_ret hq hG dL_law_390 h
                      · have h := (if_inv h).2 g206
                        exact jL_law_283 hst C hA hU hq (kL_law_154 sL sx K88 f) ih v2 v3 v5 v6 v7 v9 x187 x190 v12 v14 x175 x183 S204 _ _ _ _ _ _ _ _ _ _ hG hv3 hv5 hv12 (lv_sub hl [4, 5, 6, 7, 8, 9, 10, 11, 1, 0, 12, 14, 3, 2] rfl) h
          · have h := (if_inv h).2 g181
            refine lv_iconst (v := 0) hx hb dL_law_188 (by decide) ?_
            exact lw9_ret hq hG dL_law_189 h
set_option maxRecDepth 100000 in
set_option maxHeartbeats 8000000 in
theorem jL_law_98 {E : EV} {l : Launch} (hst : l.stackTraces = false) {u : Int32 × ZS} {p : Program} {e : Env} {s : State} {m : MethodId} {args : Array Value} {below : List Frame} {meth : Method} {c : Code} {F : FT} {Q : State → Prop} (C : Cx p s m args meth c cL_law 28 RL E) (hA : CA F E s) (hU : F.uc = u.2.c ∧ F.uw = u.2.w) (hq : LQ p l e (F.R 1400) s m args below meth c E F u Q) : ∀ (K88 : Int32 → Nat → Nat → Int32 → ZS → Option (Int32 × ZS)), (∀ (v2 : Int32) (v3 : Nat) (v5 : Nat) (v6 : Int32) (S : ZS) (ad : Nat → Nat) (N : Nat) (bv3 : Nat) (bv5 : Nat) (H : Heap) (locs : List Loc) (ls : Array Slot) (cells slots : Nat), GL E s F H locs ad N S cells slots → RA E ad N v3 bv3 → RA E ad N v5 bv5 → lv_has ls 28 [(0, .ref E.sb), (1, .ref (E.ad 0)), (2, .int v2), (3, .ref bv3), (5, .ref bv5), (6, .int v6)] → K88 v2 v3 v5 v6 S = some u → W p l e (F.R 1400) s m args below meth c H locs cells slots Q (F0 m 88 ls [])) → ∀ f : Nat, ∀ (v2 : Int32) (v3 : Nat) (v5 : Nat) (v6 : Int32) (v7 : Int32) (S : ZS) (ad : Nat → Nat) (N : Nat) (bv3 : Nat) (bv5 : Nat) (H : Heap) (locs : List Loc) (ls : Array Slot) (cells slots : Nat), GL E s F H locs ad N S cells slots → RA E ad N v3 bv3 → RA E ad N v5 bv5 → lv_has ls 28 [(0, .ref E.sb), (1, .ref (E.ad 0)), (2, .int v2), (3, .ref bv3), (5, .ref bv5), (6, .int v6), (7, .int v7)] → kL_law_98 E.sL E.sx K88 f v2 v3 v5 v6 v7 S = some u → W p l e (F.R 1400) s m args below meth c H locs cells slots Q (F0 m 98 ls []) := by
    have hx := C.1
    have hb := C.2.1
    intro K88 hK88 f
    induction f with
    | zero =>
      intro v2 v3 v5 v6 v7 S ad N bv3 bv5 H locs ls cells slots hG hv3 hv5 hl h
      unfold kL_law_98 at h
      cases h
    | succ f ih =>
      intro v2 v3 v5 v6 v7 S ad N bv3 bv5 H locs ls cells slots hG hv3 hv5 hl h
      unfold kL_law_98 at h
      refine lv_iload hx hb dL_law_98 (lv_at hl 6 rfl) ?_
      refine lv_iconst (v := 2) hx hb dL_law_100 (by decide) ?_
      refine lv_icmp_ge (tgt := 122) hx hb dL_law_101 (by decide) (fun g207 => ?_) (fun g207 => ?_)
      · have h := (if_inv h).1 g207
        refine lv_aload_n hx hb dL_law_122 rfl (lv_at hl 1 rfl) ?_
        refine r2_clL C hA hl.1 hG [] [] (m8_digest E l S.g) QCL_176.1 QCL_176.2 KC8 rfl (rm2 (by decide) (by decide)) (Nat.le_of_ble_eq_true rfl) rfl dL_law_123 h (fun x208 S209 H locs hG h => ?_)
        refine lv_lstore (lv' := [(7, .long x208), (0, .ref E.sb), (1, .ref (E.ad 0)), (2, .int v2), (3, .ref bv3), (5, .ref bv5), (6, .int v6)]) hx hb dL_law_126 hl (by decide) rfl (fun ls hl => ?_)
        refine lv_aload_n hx hb dL_law_128 rfl (lv_at hl 2 rfl) ?_
        refine r2_clP C hA hl.1 hG [] [] (m8_mirrors E l S209.g) QCL_180.1 QCL_180.2 KC8 rfl (rm2 (by decide) (by decide)) (Nat.le_of_ble_eq_true rfl) rfl dL_law_129 h (fun x210 H locs hG h => ?_)
        refine lv_istore (lv' := [(9, .int x210), (7, .long x208), (0, .ref E.sb), (1, .ref (E.ad 0)), (2, .int v2), (3, .ref bv3), (5, .ref bv5), (6, .int v6)]) hx hb dL_law_132 hl (by decide) rfl (fun ls hl => ?_)
        refine lv_iconst (v := 0) hx hb dL_law_134 (by decide) ?_
        refine lv_istore (lv' := [(10, .int 0), (9, .int x210), (7, .long x208), (0, .ref E.sb), (1, .ref (E.ad 0)), (2, .int v2), (3, .ref bv3), (5, .ref bv5), (6, .int v6)]) hx hb dL_law_135 hl (by decide) rfl (fun ls hl => ?_)
        refine lv_iconst (v := 0) hx hb dL_law_137 (by decide) ?_
        refine lv_istore (lv' := [(11, .int 0), (10, .int 0), (9, .int x210), (7, .long x208), (0, .ref E.sb), (1, .ref (E.ad 0)), (2, .int v2), (3, .ref bv3), (5, .ref bv5), (6, .int v6)]) hx hb dL_law_138 hl (by decide) rfl (fun ls hl => ?_)
        refine lv_iload hx hb dL_law_140 (lv_at hl 2 rfl) ?_
        refine r2_newZ C hA hG LAAZ dL_law_142 hU h (fun bc211 c211 H ad213 S212 cells slots hG hx9 h_c211 h => ?_)
        have hv3 := hv3.up hx9
        have hv5 := hv5.up hx9
        refine lv_astore (lv' := [(12, .ref bc211), (11, .int 0), (10, .int 0), (9, .int x210), (7, .long x208), (0, .ref E.sb), (1, .ref (E.ad 0)), (2, .int v2), (3, .ref bv3), (5, .ref bv5), (6, .int v6)]) hx hb dL_law_144 hl (by decide) rfl (fun ls hl => ?_)
        refine lv_sipush (v := 10000) hx hb dL_law_146 (by decide) ?_
        refine lv_istore (lv' := [(13, .int 10000), (12, .ref bc211), (11, .int 0), (10, .int 0), (9, .int x210), (7, .long x208), (0, .ref E.sb), (1, .ref (E.ad 0)), (2, .int v2), (3, .ref bv3), (5, .ref bv5), (6, .int v6)]) hx hb dL_law_149 hl (by decide) rfl (fun ls hl => ?_)
        refine lv_iconst (v := 0) hx hb dL_law_151 (by decide) ?_
        refine lv_istore (lv' := [(14, .int 0), (13, .int 10000), (12, .ref bc211), (11, .int 0), (10, .int 0), (9, .int x210), (7, .long x208), (0, .ref E.sb), (1, .ref (E.ad 0)), (2, .int v2), (3, .ref bv3), (5, .ref bv5), (6, .int v6)]) hx hb dL_law_152 hl (by decide) rfl (fun ls hl => ?_)
        exact jL_law_154 hst C hA hU hq K88 hK88 FU v2 v3 v5 v6 x208 x210 0 0 c211 10000 0 S212 _ _ _ _ _ _ _ _ _ _ hG hv3 hv5 h_c211 (lv_sub hl [7, 8, 9, 10, 11, 12, 6, 5, 4, 3, 2, 1, 0] rfl) h
      · have h := (if_inv h).2 g207
        refine lv_aload_n hx hb dL_law_104 rfl (lv_at hl 1 rfl) ?_
        refine lv_aload hx hb dL_law_105 (lv_at hl 4 rfl) ?_
        refine lv_aload_n hx hb dL_law_107 rfl (lv_at hl 3 rfl) ?_
        refine r2_cHI C hA hl.1 hG [.ref (E.ad 0), .ref bv5, .ref bv3] [] (mL_act E l hst v5 v3 S (RAq hG hv5) (RAq hG hv3)) (by rw [hv5.1, hv3.1]) QHL_172 rfl (rm2 (by decide) (by decide)) (Nat.le_of_ble_eq_true rfl) rfl dL_law_108 hU h (fun x216 S214 H locs ad215 cells slots hG hx9 h => ?_)
        have hv3 := hv3.up hx9
        have hv5 := hv5.up hx9
        refine lv_if_ne (tgt := 116) hx hb dL_law_111 (by decide) (fun g217 => ?_) (fun g217 => ?_)
        · have h := (if_inv h).2 g217
          refine r_iinc (w := 1) (lv' := fun x218 => [(7, .int x218), (0, .ref E.sb), (1, .ref (E.ad 0)), (2, .int v2), (3, .ref bv3), (5, .ref bv5), (6, .int v6)]) C dL_law_116 hl (k := 6) rfl (by decide) (by decide) (fun _ => rfl) h (fun x218 ls hl h => ?_)
          refine lv_goto (tgt := 98) hx hb dL_law_119 (by decide) ?_
          exact ih v2 v3 v5 v6 x218 S214 _ _ _ _ _ _ _ _ _ hG hv3 hv5 (lv_sub hl [1, 2, 3, 4, 5, 6, 0] rfl) h
        · have h := (if_inv h).1 g217
          refine lv_iconst (v := 0) hx hb dL_law_114 (by decide) ?_
          exact lw9_ret hq hG dL_law_115 h
set_option maxRecDepth 100000 in
set_option maxHeartbeats 8000000 in
theorem jL_law_1118 {E : EV} {l : Launch} (hst : l.stackTraces = false) {u : Int32 × ZS} {p : Program} {e : Env} {s : State} {m : MethodId} {args : Array Value} {below : List Frame} {meth : Method} {c : Code} {F : FT} {Q : State → Prop} (C : Cx p s m args meth c cL_law 28 RL E) (hA : CA F E s) (hU : F.uc = u.2.c ∧ F.uw = u.2.w) (hq : LQ p l e (F.R 1400) s m args below meth c E F u Q) : ∀ (K10 : Int32 → ZS → Option (Int32 × ZS)), (∀ (v2 : Int32) (S : ZS) (ad : Nat → Nat) (N : Nat) (H : Heap) (locs : List Loc) (ls : Array Slot) (cells slots : Nat), GL E s F H locs ad N S cells slots → lv_has ls 28 [(0, .ref E.sb), (1, .ref (E.ad 0)), (2, .int v2)] → K10 v2 S = some u → W p l e (F.R 1400) s m args below meth c H locs cells slots Q (F0 m 10 ls [])) → ∀ (v2 : Int32) (v6 : Int32) (v8 : Int32) (v9 : Int32) (S : ZS) (ad : Nat → Nat) (N : Nat) (H : Heap) (locs : List Loc) (ls : Array Slot) (cells slots : Nat), GL E s F H locs ad N S cells slots → lv_has ls 28 [(0, .ref E.sb), (1, .ref (E.ad 0)), (2, .int v2), (6, .int v6), (8, .int v8), (9, .int v9)] → kL_law_1118 E.sL E.sx K10 v2 v6 v8 v9 S = some u → W p l e (F.R 1400) s m args below meth c H locs cells slots Q (F0 m 1118 ls []) := by
    have hx := C.1
    have hb := C.2.1
    intro K10 hK10 v2 v6 v8 v9 S ad N H locs ls cells slots hG hl h
    unfold kL_law_1118 at h
    refine lv_iload hx hb dL_law_1118 (lv_at hl 4 rfl) ?_
    refine lv_if_ge (tgt := 1137) hx hb dL_law_1120 (by decide) (fun g219 => ?_) (fun g219 => ?_)
    · have h := (if_inv h).1 g219
      refine r_iinc (w := 1) (lv' := fun x220 => [(2, .int x220), (0, .ref E.sb), (1, .ref (E.ad 0)), (6, .int v6), (8, .int v8), (9, .int v9)]) C dL_law_1137 hl (k := 2) rfl (by decide) (by decide) (fun _ => rfl) h (fun x220 ls hl h => ?_)
      refine lv_goto (tgt := 10) hx hb dL_law_1140 (by decide) ?_
      exact hK10 x220 S _ _ _ _ _ _ _ hG (lv_sub hl [1, 2, 0] rfl) h
    · have h := (if_inv h).2 g219
      refine lv_iload hx hb dL_law_1123 (lv_at hl 5 rfl) ?_
      refine lv_if_le (tgt := 1137) hx hb dL_law_1125 (by decide) (fun g221 => ?_) (fun g221 => ?_)
      · have h := (if_inv h).1 g221
        refine r_iinc (w := 1) (lv' := fun x222 => [(2, .int x222), (0, .ref E.sb), (1, .ref (E.ad 0)), (6, .int v6), (8, .int v8), (9, .int v9)]) C dL_law_1137 hl (k := 2) rfl (by decide) (by decide) (fun _ => rfl) h (fun x222 ls hl h => ?_)
        refine lv_goto (tgt := 10) hx hb dL_law_1140 (by decide) ?_
        exact hK10 x222 S _ _ _ _ _ _ _ hG (lv_sub hl [1, 2, 0] rfl) h
      · have h := (if_inv h).2 g221
        refine lv_iload hx hb dL_law_1128 (lv_at hl 3 rfl) ?_
        refine lv_bipush (v := 100) hx hb dL_law_1130 (by decide) ?_
        refine lv_icmp_ge (tgt := 1137) hx hb dL_law_1132 (by decide) (fun g223 => ?_) (fun g223 => ?_)
        · have h := (if_inv h).1 g223
          refine r_iinc (w := 1) (lv' := fun x224 => [(2, .int x224), (0, .ref E.sb), (1, .ref (E.ad 0)), (6, .int v6), (8, .int v8), (9, .int v9)]) C dL_law_1137 hl (k := 2) rfl (by decide) (by decide) (fun _ => rfl) h (fun x224 ls hl h => ?_)
          refine lv_goto (tgt := 10) hx hb dL_law_1140 (by decide) ?_
          exact hK10 x224 S _ _ _ _ _ _ _ hG (lv_sub hl [1, 2, 0] rfl) h
        · have h := (if_inv h).2 g223
          refine lv_iconst (v := 0) hx hb dL_law_1135 (by decide) ?_
          exact lw9_ret hq hG dL_law_1136 h
set_option maxRecDepth 100000 in
set_option maxHeartbeats 8000000 in
theorem jL_law_88 {E : EV} {l : Launch} (hst : l.stackTraces = false) {u : Int32 × ZS} {p : Program} {e : Env} {s : State} {m : MethodId} {args : Array Value} {below : List Frame} {meth : Method} {c : Code} {F : FT} {Q : State → Prop} (C : Cx p s m args meth c cL_law 28 RL E) (hA : CA F E s) (hU : F.uc = u.2.c ∧ F.uw = u.2.w) (hq : LQ p l e (F.R 1400) s m args below meth c E F u Q) : ∀ (K10 : Int32 → ZS → Option (Int32 × ZS)), (∀ (v2 : Int32) (S : ZS) (ad : Nat → Nat) (N : Nat) (H : Heap) (locs : List Loc) (ls : Array Slot) (cells slots : Nat), GL E s F H locs ad N S cells slots → lv_has ls 28 [(0, .ref E.sb), (1, .ref (E.ad 0)), (2, .int v2)] → K10 v2 S = some u → W p l e (F.R 1400) s m args below meth c H locs cells slots Q (F0 m 10 ls [])) → ∀ f : Nat, ∀ (v2 : Int32) (v3 : Nat) (v5 : Nat) (v6 : Int32) (S : ZS) (ad : Nat → Nat) (N : Nat) (bv3 : Nat) (bv5 : Nat) (H : Heap) (locs : List Loc) (ls : Array Slot) (cells slots : Nat), GL E s F H locs ad N S cells slots → RA E ad N v3 bv3 → RA E ad N v5 bv5 → lv_has ls 28 [(0, .ref E.sb), (1, .ref (E.ad 0)), (2, .int v2), (3, .ref bv3), (5, .ref bv5), (6, .int v6)] → kL_law_88 E.sL E.sx K10 f v2 v3 v5 v6 S = some u → W p l e (F.R 1400) s m args below meth c H locs cells slots Q (F0 m 88 ls []) := by
    have hx := C.1
    have hb := C.2.1
    intro K10 hK10 f
    induction f with
    | zero =>
      intro v2 v3 v5 v6 S ad N bv3 bv5 H locs ls cells slots hG hv3 hv5 hl h
      unfold kL_law_88 at h
      cases h
    | succ f ih =>
      intro v2 v3 v5 v6 S ad N bv3 bv5 H locs ls cells slots hG hv3 hv5 hl h
      unfold kL_law_88 at h
      refine lv_iload hx hb dL_law_88 (lv_at hl 5 rfl) ?_
      refine lv_bipush (v := 8) hx hb dL_law_90 (by decide) ?_
      refine lv_icmp_ge (tgt := 981) hx hb dL_law_92 (by decide) (fun g225 => ?_) (fun g225 => ?_)
      · have h := (if_inv h).1 g225
        refine lv_aload hx hb dL_law_981 (lv_at hl 4 rfl) ?_
        refine lv_aload_n hx hb dL_law_983 rfl (lv_at hl 1 rfl) ?_
        refine r2_cVI C hA hl.1 hG hv5 [.ref (E.ad 0)] [] (mX12_isSame E l hst v5 S (RAq hG hv5)) (by rw [hv5.1]) QLL_254 KP14 rfl (rm2 (by decide) (by decide)) (Nat.le_of_ble_eq_true rfl) rfl dL_law_984 hU h (fun x228 S226 H locs ad227 cells slots hG hx9 h => ?_)
        have hv3 := hv3.up hx9
        have hv5 := hv5.up hx9
        refine lv_if_ne (tgt := 992) hx hb dL_law_987 (by decide) (fun g229 => ?_) (fun g229 => ?_)
        · have h := (if_inv h).2 g229
          refine lv_aload_n hx hb dL_law_992 rfl (lv_at hl 3 rfl) ?_
          refine lv_bipush (v := 101) hx hb dL_law_993 (by decide) ?_
          refine r2_cVI C hA hl.1 hG hv3 [.int 101] [] (mX9_next E l v3 101 S226 (RAq hG hv3)) (by rw [hv3.1]) QLL_35 KP11 rfl (rm2 (by decide) (by decide)) (Nat.le_of_ble_eq_true rfl) rfl dL_law_995 hU h (fun x232 S230 H locs ad231 cells slots hG hx9 h => ?_)
          have hv3 := hv3.up hx9
          have hv5 := hv5.up hx9
          refine lv_istore (lv' := [(6, .int x232), (0, .ref E.sb), (1, .ref (E.ad 0)), (2, .int v2), (3, .ref bv3), (5, .ref bv5)]) hx hb dL_law_998 hl (by decide) rfl (fun ls hl => ?_)
          refine lv_iconst (v := 1) hx hb dL_law_1000 (by decide) ?_
          refine lv_aload_n hx hb dL_law_1001 rfl (lv_at hl 4 rfl) ?_
          refine lv_bipush (v := 99) hx hb dL_law_1002 (by decide) ?_
          refine r2_cVI C hA hl.1 hG hv3 [.int 99] [.int 1] (mX9_next E l v3 99 S230 (RAq hG hv3)) (by rw [hv3.1]) QLL_35 KP11 rfl (rm2 (by decide) (by decide)) (Nat.le_of_ble_eq_true rfl) rfl dL_law_1004 hU h (fun x235 S233 H locs ad234 cells slots hG hx9 h => ?_)
          have hv3 := hv3.up hx9
          have hv5 := hv5.up hx9
          refine lv_iadd hx hb dL_law_1007 ?_
          refine r_nm h (fun x236 h => ?_)
          refine lv_istore (lv' := [(7, .int x236), (6, .int x232), (0, .ref E.sb), (1, .ref (E.ad 0)), (2, .int v2), (3, .ref bv3), (5, .ref bv5)]) hx hb dL_law_1008 hl (by decide) rfl (fun ls hl => ?_)
          refine lv_aload_n hx hb dL_law_1010 rfl (lv_at hl 3 rfl) ?_
          refine r2_new C hA hG KP1 (mTBi 1655 (by decide +kernel) rfl) (mTBi 1502 (by decide +kernel) rfl) (mTBi 51 (by decide +kernel) rfl) (by decide +kernel) dL_law_1011 hU h (fun bc237 c237 H ad239 S238 cells slots hG hx9 h_c237 h => ?_)
          have hv3 := hv3.up hx9
          have hv5 := hv5.up hx9
          refine lv_dup hx hb dL_law_1014 rfl ?_
          refine r2_cIV C hA hl.1 hG [] [.ref bc237, .ref (E.ad 0)] (mJ4_init_da8c8 E l c237 S238 (RAq hG h_c237)) (by rw [h_c237.1]) QLL_160 rfl (rm2 (by decide) (by decide)) (Nat.le_of_ble_eq_true rfl) rfl dL_law_1015 hU h (fun S240 H locs ad241 cells slots hG hx9 h => ?_)
          have hv3 := hv3.up hx9
          have hv5 := hv5.up hx9
          have h_c237 := h_c237.up hx9
          refine r2_ldcw C 70 (by decide) ⟨rfl, rfl⟩ dL_law_1018 ?_
          refine r2_cVR C hA hl.1 hG h_c237 [.ref (E.aK 70)] [.ref (E.ad 0)] (mJ4_append_15ec4_S E l c237 70 S240 (RAq hG h_c237)) (by rw [h_c237.1]) QLL_46 KP1 rfl (rm2 (by decide) (by decide)) (Nat.le_of_ble_eq_true rfl) rfl dL_law_1021 hU h (fun bc244 c244 S242 H locs ad243 cells slots hG hx9 h_c244 h => ?_)
          have hv3 := hv3.up hx9
          have hv5 := hv5.up hx9
          refine lv_iload hx hb dL_law_1024 (lv_at hl 1 rfl) ?_
          refine r2_cVR C hA hl.1 hG h_c244 [.int x232] [.ref (E.ad 0)] (mJ4_append_bf812 E l c244 x232 S242 (RAq hG h_c244)) (by rw [h_c244.1]) QLL_52 KP1 rfl (rm2 (by decide) (by decide)) (Nat.le_of_ble_eq_true rfl) rfl dL_law_1026 hU h (fun bc247 c247 S245 H locs ad246 cells slots hG hx9 h_c247 h => ?_)
          have hv3 := hv3.up hx9
          have hv5 := hv5.up hx9
          refine r2_ldcw C 71 (by decide) ⟨rfl, rfl⟩ dL_law_1029 ?_
          refine r2_cVR C hA hl.1 hG h_c247 [.ref (E.aK 71)] [.ref (E.ad 0)] (mJ4_append_15ec4_S E l c247 71 S245 (RAq hG h_c247)) (by rw [h_c247.1]) QLL_46 KP1 rfl (rm2 (by decide) (by decide)) (Nat.le_of_ble_eq_true rfl) rfl dL_law_1032 hU h (fun bc250 c250 S248 H locs ad249 cells slots hG hx9 h_c250 h => ?_)
          have hv3 := hv3.up hx9
          have hv5 := hv5.up hx9
          refine lv_iload hx hb dL_law_1035 (lv_at hl 0 rfl) ?_
          refine r2_cVR C hA hl.1 hG h_c250 [.int x236] [.ref (E.ad 0)] (mJ4_append_bf812 E l c250 x236 S248 (RAq hG h_c250)) (by rw [h_c250.1]) QLL_52 KP1 rfl (rm2 (by decide) (by decide)) (Nat.le_of_ble_eq_true rfl) rfl dL_law_1037 hU h (fun bc253 c253 S251 H locs ad252 cells slots hG hx9 h_c253 h => ?_)
          have hv3 := hv3.up hx9
          have hv5 := hv5.up hx9
          refine r2_ldcw C 72 (by decide) ⟨rfl, rfl⟩ dL_law_1040 ?_
          refine r2_cVR C hA hl.1 hG h_c253 [.ref (E.aK 72)] [.ref (E.ad 0)] (mJ4_append_15ec4_S E l c253 72 S251 (RAq hG h_c253)) (by rw [h_c253.1]) QLL_46 KP1 rfl (rm2 (by decide) (by decide)) (Nat.le_of_ble_eq_true rfl) rfl dL_law_1043 hU h (fun bc256 c256 S254 H locs ad255 cells slots hG hx9 h_c256 h => ?_)
          have hv3 := hv3.up hx9
          have hv5 := hv5.up hx9
          refine r2_cVR C hA hl.1 hG h_c256 [] [.ref (E.ad 0)] (mJ4_toString_0e30d E l c256 S254 (RAq hG h_c256)) (by rw [h_c256.1]) QLL_165 KP1 rfl (rm2 (by decide) (by decide)) (Nat.le_of_ble_eq_true rfl) rfl dL_law_1046 hU h (fun bc259 c259 S257 H locs ad258 cells slots hG hx9 h_c259 h => ?_)
          have hv3 := hv3.up hx9
          have hv5 := hv5.up hx9
          refine r2_cSI C hA hl.1 hG [.ref (E.ad 0), .ref bc259] [] (mL_taught E l hst c259 S257 (RAq hG h_c259)) (by rw [h_c259.1]) QLL_168 rfl (rm2 (by decide) (by decide)) (Nat.le_of_ble_eq_true rfl) rfl dL_law_1049 hU h (fun x262 S260 H locs ad261 cells slots hG hx9 h => ?_)
          have hv3 := hv3.up hx9
          have hv5 := hv5.up hx9
          refine lv_if_eq (tgt := 1057) hx hb dL_law_1052 (by decide) (fun g263 => ?_) (fun g263 => ?_)
          · have h := (if_inv h).1 g263
            refine lv_aload_n hx hb dL_law_1057 rfl (lv_at hl 3 rfl) ?_
            refine r2_clI C hA hl.1 hG [] [] (m8_bestToClean E l S260.g) QCL_251.1 QCL_251.2 KC8 rfl (rm2 (by decide) (by decide)) (Nat.le_of_ble_eq_true rfl) rfl dL_law_1058 h (fun x264 S265 H locs hG h => ?_)
            refine lv_istore (lv' := [(8, .int x264), (7, .int x236), (6, .int x232), (0, .ref E.sb), (1, .ref (E.ad 0)), (2, .int v2), (3, .ref bv3), (5, .ref bv5)]) hx hb dL_law_1061 hl (by decide) rfl (fun ls hl => ?_)
            refine lv_aload_n hx hb dL_law_1063 rfl (lv_at hl 4 rfl) ?_
            refine r2_clI C hA hl.1 hG [] [] (m8_lightAtEnd E l S265.g) QCL_221.1 QCL_221.2 KC8 rfl (rm2 (by decide) (by decide)) (Nat.le_of_ble_eq_true rfl) rfl dL_law_1064 h (fun x266 S267 H locs hG h => ?_)
            refine lv_istore (lv' := [(9, .int x266), (8, .int x264), (7, .int x236), (6, .int x232), (0, .ref E.sb), (1, .ref (E.ad 0)), (2, .int v2), (3, .ref bv3), (5, .ref bv5)]) hx hb dL_law_1067 hl (by decide) rfl (fun ls hl => ?_)
            refine lv_iload hx hb dL_law_1069 (lv_at hl 1 rfl) ?_
            refine lv_if_lt (tgt := 1118) hx hb dL_law_1071 (by decide) (fun g268 => ?_) (fun g268 => ?_)
            · have h := (if_inv h).1 g268
              exact jL_law_1118 hst C hA hU hq K10 hK10 v2 x232 x264 x266 S267 _ _ _ _ _ _ _ hG (lv_sub hl [4, 5, 6, 3, 1, 0] rfl) h
            · have h := (if_inv h).2 g268
              refine lv_aload_n hx hb dL_law_1074 rfl (lv_at hl 5 rfl) ?_
              refine lv_iload hx hb dL_law_1075 (lv_at hl 1 rfl) ?_
              refine lv_iconst (v := 0) hx hb dL_law_1077 (by decide) ?_
              refine r2_clR C hA hl.1 hG [.int x264, .int 0] [] (m8_orderJob E l hst x264 0 S267.g) QCL_116.1 QCL_116.2 KC8 rfl (rm2 (by decide) (by decide)) (Nat.le_of_ble_eq_true rfl) rfl dL_law_1078 hU h (fun x269 S270 H locs cells slots hG h => ?_)
              refine lv_iconst (v := 1) hx hb dL_law_1081 (by decide) ?_
              refine lv_icmp_ne (tgt := 1135) hx hb dL_law_1082 (by decide) (fun g271 => ?_) (fun g271 => ?_)
              · have h := (if_inv h).2 g271
                refine lv_iconst (v := 0) hx hb dL_law_1135 (by decide) ?_
                exact lw9_ret hq hG dL_law_1136 h
              · have h := (if_inv h).1 g271
                refine lv_aload_n hx hb dL_law_1085 rfl (lv_at hl 5 rfl) ?_
                refine lv_aload_n hx hb dL_law_1086 rfl (lv_at hl 5 rfl) ?_
                refine lv_iconst (v := 0) hx hb dL_law_1087 (by decide) ?_
                refine r2_clR C hA hl.1 hG [.int 0] [.ref (E.ad 0)] (m8_minutesUntilDone E l hst 0 S270.g) QCL_240.1 QCL_240.2 KC8 rfl (rm2 (by decide) (by decide)) (Nat.le_of_ble_eq_true rfl) rfl dL_law_1088 hU h (fun x272 S273 H locs cells slots hG h => ?_)
                refine r2_clR C hA hl.1 hG [.int x272] [] (m8_passMinutes E l hst x272 S273.g) QCL_102.1 QCL_102.2 KC8 rfl (rm2 (by decide) (by decide)) (Nat.le_of_ble_eq_true rfl) rfl dL_law_1091 hU h (fun x274 S275 H locs cells slots hG h => ?_)
                refine lv_iconst (v := 1) hx hb dL_law_1094 (by decide) ?_
                refine lv_icmp_ne (tgt := 1135) hx hb dL_law_1095 (by decide) (fun g276 => ?_) (fun g276 => ?_)
                · have h := (if_inv h).2 g276
                  refine lv_iconst (v := 0) hx hb dL_law_1135 (by decide) ?_
                  exact lw9_ret hq hG dL_law_1136 h
                · have h := (if_inv h).1 g276
                  refine lv_aload_n hx hb dL_law_1098 rfl (lv_at hl 5 rfl) ?_
                  refine r2_clI C hA hl.1 hG [] [] (m8_lightAtEnd E l S275.g) QCL_221.1 QCL_221.2 KC8 rfl (rm2 (by decide) (by decide)) (Nat.le_of_ble_eq_true rfl) rfl dL_law_1099 h (fun x277 S278 H locs hG h => ?_)
                  refine lv_iload hx hb dL_law_1102 (lv_at hl 0 rfl) ?_
                  refine lv_icmp_le (tgt := 1135) hx hb dL_law_1104 (by decide) (fun g279 => ?_) (fun g279 => ?_)
                  · have h := (if_inv h).1 g279
                    refine lv_iconst (v := 0) hx hb dL_law_1135 (by decide) ?_
                    exact lw9_ret hq hG dL_law_1136 h
                  · have h := (if_inv h).2 g279
                    refine lv_aload_n hx hb dL_law_1107 rfl (lv_at hl 5 rfl) ?_
                    refine lv_iload hx hb dL_law_1108 (lv_at hl 1 rfl) ?_
                    refine r2_clR C hA hl.1 hG [.int x264] [] (m8_clarityOf E l hst x264 S278.g) QCL_210.1 QCL_210.2 KC8 rfl (rm2 (by decide) (by decide)) (Nat.le_of_ble_eq_true rfl) rfl dL_law_1110 hU h (fun x280 S281 H locs cells slots hG h => ?_)
                    refine lv_bipush (v := 100) hx hb dL_law_1113 (by decide) ?_
                    refine lv_icmp_ne (tgt := 1135) hx hb dL_law_1115 (by decide) (fun g282 => ?_) (fun g282 => ?_)
                    · have h := (if_inv h).2 g282
                      refine lv_iconst (v := 0) hx hb dL_law_1135 (by decide) ?_
                      exact lw9_ret hq hG dL_law_1136 h
                    · have h := (if_inv h).1 g282
                      exact jL_law_1118 hst C hA hU hq K10 hK10 v2 x232 x264 x266 S281 _ _ _ _ _ _ _ hG (lv_sub hl [4, 5, 6, 3, 1, 0] rfl) h
          · have h := (if_inv h).2 g263
            refine lv_iconst (v := 0) hx hb dL_law_1055 (by decide) ?_
            exact lw9_ret hq hG dL_law_1056 h
        · have h := (if_inv h).1 g229
          refine lv_iconst (v := 0) hx hb dL_law_990 (by decide) ?_
          exact lw9_ret hq hG dL_law_991 h
      · have h := (if_inv h).2 g225
        refine lv_iconst (v := 0) hx hb dL_law_95 (by decide) ?_
        refine lv_istore (lv' := [(7, .int 0), (0, .ref E.sb), (1, .ref (E.ad 0)), (2, .int v2), (3, .ref bv3), (5, .ref bv5), (6, .int v6)]) hx hb dL_law_96 hl (by decide) rfl (fun ls hl => ?_)
        exact jL_law_98 hst C hA hU hq (kL_law_88 sL sx K10 f) ih FU v2 v3 v5 v6 0 S _ _ _ _ _ _ _ _ _ hG hv3 hv5 (lv_sub hl [1, 2, 3, 4, 5, 6, 0] rfl) h
set_option maxRecDepth 100000 in
set_option maxHeartbeats 8000000 in
theorem jL_law_10 {E : EV} {l : Launch} (hst : l.stackTraces = false) {u : Int32 × ZS} {p : Program} {e : Env} {s : State} {m : MethodId} {args : Array Value} {below : List Frame} {meth : Method} {c : Code} {F : FT} {Q : State → Prop} (C : Cx p s m args meth c cL_law 28 RL E) (hA : CA F E s) (hU : F.uc = u.2.c ∧ F.uw = u.2.w) (hq : LQ p l e (F.R 1400) s m args below meth c E F u Q) : ∀ f : Nat, ∀ (v2 : Int32) (S : ZS) (ad : Nat → Nat) (N : Nat) (H : Heap) (locs : List Loc) (ls : Array Slot) (cells slots : Nat), GL E s F H locs ad N S cells slots → lv_has ls 28 [(0, .ref E.sb), (1, .ref (E.ad 0)), (2, .int v2)] → kL_law_10 E.sL E.sx f v2 S = some u → W p l e (F.R 1400) s m args below meth c H locs cells slots Q (F0 m 10 ls []) := by
    have hx := C.1
    have hb := C.2.1
    intro f
    induction f with
    | zero =>
      intro v2 S ad N H locs ls cells slots hG hl h
      unfold kL_law_10 at h
      cases h
    | succ f ih =>
      intro v2 S ad N H locs ls cells slots hG hl h
      unfold kL_law_10 at h
      refine lv_iload_n hx hb dL_law_10 rfl (lv_at hl 2 rfl) ?_
      refine lv_iconst (v := 2) hx hb dL_law_11 (by decide) ?_
      refine lv_icmp_ge (tgt := 1143) hx hb dL_law_12 (by decide) (fun g283 => ?_) (fun g283 => ?_)
      · have h := (if_inv h).1 g283
        refine lv_iconst (v := 1) hx hb dL_law_1143 (by decide) ?_
        exact lw9_ret hq hG dL_law_1144 h
      · have h := (if_inv h).2 g283
        refine r2_new C hA hG KP11 (mTBi 790 (by decide +kernel) rfl) (mTBi 791 (by decide +kernel) rfl) (mTBi 49 (by decide +kernel) rfl) (by decide +kernel) dL_law_15 hU h (fun bc284 c284 H ad286 S285 cells slots hG hx9 h_c284 h => ?_)
        refine lv_dup hx hb dL_law_18 rfl ?_
        refine lv_aload_n hx hb dL_law_19 rfl (lv_at hl 0 rfl) ?_
        refine lv_iload_n hx hb dL_law_20 rfl (lv_at hl 2 rfl) ?_
        refine r2_cSI C hA hl.1 hG [.ref E.sb, .int v2] [.ref bc284, .ref bc284] (mL_cell E l v2 S285) rfl QLL_151 rfl (rm2 (by decide) (by decide)) (Nat.le_of_ble_eq_true rfl) rfl dL_law_21 hU h (fun x289 S287 H locs ad288 cells slots hG hx9 h => ?_)
        have h_c284 := h_c284.up hx9
        refine lv_aload_n hx hb dL_law_24 rfl (lv_at hl 0 rfl) ?_
        refine lv_iload_n hx hb dL_law_25 rfl (lv_at hl 2 rfl) ?_
        refine lv_iconst (v := 3) hx hb dL_law_26 (by decide) ?_
        refine lv_iadd hx hb dL_law_27 ?_
        refine r2_cSI C hA hl.1 hG [.ref E.sb, .int (v2 + 3)] [.int x289, .ref bc284, .ref bc284] (mL_cell E l (v2 + 3) S287) rfl QLL_151 rfl (rm2 (by decide) (by decide)) (Nat.le_of_ble_eq_true rfl) rfl dL_law_28 hU h (fun x292 S290 H locs ad291 cells slots hG hx9 h => ?_)
        have h_c284 := h_c284.up hx9
        refine lv_bipush (v := 31) hx hb dL_law_31 (by decide) ?_
        refine lv_imul hx hb dL_law_33 ?_
        refine lv_ixor hx hb dL_law_34 ?_
        refine lv_aload_n hx hb dL_law_35 rfl (lv_at hl 0 rfl) ?_
        refine lv_iload_n hx hb dL_law_36 rfl (lv_at hl 2 rfl) ?_
        refine lv_bipush (v := 6) hx hb dL_law_37 (by decide) ?_
        refine lv_iadd hx hb dL_law_39 ?_
        refine r2_cSI C hA hl.1 hG [.ref E.sb, .int (v2 + 6)] [.int (x289 ^^^ (x292 * 31)), .ref bc284, .ref bc284] (mL_cell E l (v2 + 6) S290) rfl QLL_151 rfl (rm2 (by decide) (by decide)) (Nat.le_of_ble_eq_true rfl) rfl dL_law_40 hU h (fun x295 S293 H locs ad294 cells slots hG hx9 h => ?_)
        have h_c284 := h_c284.up hx9
        refine lv_sipush (v := 1009) hx hb dL_law_43 (by decide) ?_
        refine lv_imul hx hb dL_law_46 ?_
        refine lv_ixor hx hb dL_law_47 ?_
        refine r2_cIV C hA hl.1 hG [.int ((x289 ^^^ (x292 * 31)) ^^^ (x295 * 1009))] [.ref bc284] (mX9_init E l c284 ((x289 ^^^ (x292 * 31)) ^^^ (x295 * 1009)) S293 (RAq hG h_c284)) (by rw [h_c284.1]) QLL_157 rfl (rm2 (by decide) (by decide)) (Nat.le_of_ble_eq_true rfl) rfl dL_law_48 hU h (fun S296 H locs ad297 cells slots hG hx9 h => ?_)
        have h_c284 := h_c284.up hx9
        refine lv_astore_n (lv' := [(3, .ref bc284), (0, .ref E.sb), (1, .ref (E.ad 0)), (2, .int v2)]) hx hb dL_law_51 rfl hl (by decide) rfl (fun ls hl => ?_)
        refine r2_new C hA hG KP1 (mTBi 1655 (by decide +kernel) rfl) (mTBi 1502 (by decide +kernel) rfl) (mTBi 51 (by decide +kernel) rfl) (by decide +kernel) dL_law_52 hU h (fun bc298 c298 H ad300 S299 cells slots hG hx9 h_c298 h => ?_)
        have h_c284 := h_c284.up hx9
        refine lv_dup hx hb dL_law_55 rfl ?_
        refine r2_cIV C hA hl.1 hG [] [.ref bc298] (mJ4_init_da8c8 E l c298 S299 (RAq hG h_c298)) (by rw [h_c298.1]) QLL_160 rfl (rm2 (by decide) (by decide)) (Nat.le_of_ble_eq_true rfl) rfl dL_law_56 hU h (fun S301 H locs ad302 cells slots hG hx9 h => ?_)
        have h_c284 := h_c284.up hx9
        have h_c298 := h_c298.up hx9
        refine lv_astore (lv' := [(4, .ref bc298), (3, .ref bc284), (0, .ref E.sb), (1, .ref (E.ad 0)), (2, .int v2)]) hx hb dL_law_59 hl (by decide) rfl (fun ls hl => ?_)
        refine lv_aload_n hx hb dL_law_61 rfl (lv_at hl 1 rfl) ?_
        refine lv_aload hx hb dL_law_62 (lv_at hl 0 rfl) ?_
        refine lv_iconst (v := 1) hx hb dL_law_64 (by decide) ?_
        refine lv_iconst (v := 4) hx hb dL_law_65 (by decide) ?_
        refine r2_cSR C hA hl.1 hG [.ref bc284, .ref bc298, .int 1, .int 4] [] (mL_drawn E l c284 c298 1 4 S301 (RAq hG h_c284) (RAq hG h_c298)) (by rw [h_c284.1, h_c298.1]) QLL_161 rfl (rm2 (by decide) (by decide)) (Nat.le_of_ble_eq_true rfl) rfl dL_law_66 hU h (fun bc305 c305 S303 H locs ad304 cells slots hG hx9 h_c305 h => ?_)
        have h_c298 := h_c298.up hx9
        have h_c284 := h_c284.up hx9
        refine lv_astore (lv' := [(5, .ref bc305), (4, .ref bc298), (3, .ref bc284), (0, .ref E.sb), (1, .ref (E.ad 0)), (2, .int v2)]) hx hb dL_law_69 hl (by decide) rfl (fun ls hl => ?_)
        refine lv_aload_n hx hb dL_law_71 rfl (lv_at hl 4 rfl) ?_
        refine lv_aload hx hb dL_law_72 (lv_at hl 1 rfl) ?_
        refine r2_cVR C hA hl.1 hG h_c298 [] [.ref (E.ad 0)] (mJ4_toString_0e30d E l c298 S303 (RAq hG h_c298)) (by rw [h_c298.1]) QLL_165 KP1 rfl (rm2 (by decide) (by decide)) (Nat.le_of_ble_eq_true rfl) rfl dL_law_74 hU h (fun bc308 c308 S306 H locs ad307 cells slots hG hx9 h_c308 h => ?_)
        have h_c305 := h_c305.up hx9
        have h_c298 := h_c298.up hx9
        have h_c284 := h_c284.up hx9
        refine r2_cSI C hA hl.1 hG [.ref (E.ad 0), .ref bc308] [] (mL_taught E l hst c308 S306 (RAq hG h_c308)) (by rw [h_c308.1]) QLL_168 rfl (rm2 (by decide) (by decide)) (Nat.le_of_ble_eq_true rfl) rfl dL_law_77 hU h (fun x311 S309 H locs ad310 cells slots hG hx9 h => ?_)
        have h_c305 := h_c305.up hx9
        have h_c298 := h_c298.up hx9
        have h_c284 := h_c284.up hx9
        refine lv_if_eq (tgt := 85) hx hb dL_law_80 (by decide) (fun g312 => ?_) (fun g312 => ?_)
        · have h := (if_inv h).1 g312
          refine lv_iconst (v := 0) hx hb dL_law_85 (by decide) ?_
          refine lv_istore (lv' := [(6, .int 0), (5, .ref bc305), (4, .ref bc298), (3, .ref bc284), (0, .ref E.sb), (1, .ref (E.ad 0)), (2, .int v2)]) hx hb dL_law_86 hl (by decide) rfl (fun ls hl => ?_)
          exact jL_law_88 hst C hA hU hq (kL_law_10 sL sx f) ih FU v2 c284 c305 0 S309 _ _ _ _ _ _ _ _ _ hG h_c284 h_c305 (lv_sub hl [4, 5, 6, 3, 1, 0] rfl) h
        · have h := (if_inv h).2 g312
          refine lv_iconst (v := 0) hx hb dL_law_83 (by decide) ?_
          exact lw9_ret hq hG dL_law_84 h
set_option maxRecDepth 100000 in
set_option maxHeartbeats 16000000 in
theorem mL_law_b (E : EV) (l : Launch) (hst : l.stackTraces = false) (S0 : ZS) : ∀ u, kL_law E.sL E.sx S0 = some u → ∀ {p : Program} {e : Env} {s : State} {m : MethodId} {args : Array Value} {below : List Frame} {meth : Method} {c : Code} {ad : Nat → Nat} {F : FT} {N : Nat} {H : Heap} {locs : List Loc} {cells slots : Nat} {ls : Array Slot} {Q : State → Prop}, Cx p s m args meth c cL_law 28 RL E → CA F E s → F.uc = u.2.c ∧ F.uw = u.2.w → lv_has ls 28 [(1, .ref (E.ad 0)), (0, .ref E.sb)] → GL E s F H locs ad N S0 cells slots → LQ p l e (F.R 1400) s m args below meth c E F u Q → W p l e (F.R 1400) s m args below meth c H locs cells slots Q (F0 m 8 ls []) := by
  intro u h p e s m args below meth c ad F N H locs cells slots ls Q C hA hU hl hG hq
  unfold kL_law at h
  obtain ⟨hcw, h⟩ := chk_inv h
  have hx := C.1
  have hb := C.2.1
  refine lv_iconst (v := 0) hx hb dL_law_8 (by decide) ?_
  refine lv_istore_n (lv' := [(2, .int 0), (1, .ref (E.ad 0)), (0, .ref E.sb)]) hx hb dL_law_9 rfl hl (by decide) rfl (fun ls hl => ?_)
  exact jL_law_10 hst C hA hU hq FU 0 S0 _ _ _ _ _ _ _ hG (lv_sub hl [2, 1, 0] rfl) h
