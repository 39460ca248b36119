def kL_law_311 (sL : Nat) (sx : Nat → Int32) (K154 : Int32 → Nat → Nat → Int32 → Int64 → Int32 → Int32 → Int32 → Nat → Int32 → Int32 → ZS → Option (Int32 × ZS)) (v2 : Int32) (v3 : Nat) (v5 : Nat) (v6 : Int32) (v7 : Int64) (v9 : Int32) (v10 : Int32) (v11 : Int32) (v12 : Nat) (v14 : Int32) (v15 : Int32) (v16 : Int32) (vt0 : Int32) (vt1 : Int32) (S : ZS) : Option (Int32 × ZS) :=
      if vt1 = vt0 then
        clR Prod.snd S 3 18 (k8_clarityOf v15 S.g) fun x2 S3 =>
        if x2 < 0 then
          some (0, S3)
        else
          clR Prod.snd S3 3 18 (k8_clarityOf v15 S3.g) fun x5 S6 =>
          if 100 < x5 then
            some (0, S6)
          else
            clR Prod.snd S6 3 18 (k8_bestClarityOf v15 S6.g) fun x8 S9 =>
            if x8 < 0 then
              some (0, S9)
            else
              clR Prod.snd S9 3 18 (k8_bestClarityOf v15 S9.g) fun x11 S12 =>
              if 100 < x11 then
                some (0, S12)
              else
                clR Prod.snd S12 3 18 (k8_offsetOf v15 S12.g) fun x14 S15 =>
                if x14 < (-90) then
                  some (0, S15)
                else
                  clR Prod.snd S15 3 18 (k8_offsetOf v15 S15.g) fun x17 S18 =>
                  if 90 < x17 then
                    some (0, S18)
                  else
                    clR Prod.snd S18 3 18 (k8_tiltBehind v15 S18.g) fun x20 S21 =>
                    if x20 = (2 * v11) then
                      bd (v14 + 1) fun x23 =>
                      K154 v2 v3 v5 v6 v7 v9 v10 v11 v12 v16 x23 S21
                    else
                      some (0, S21)
      else
        some (0, S)
def kL_law_310 (sL : Nat) (sx : Nat → Int32) (K154 : Int32 → Nat → Nat → Int32 → Int64 → Int32 → Int32 → Int32 → Nat → Int32 → Int32 → ZS → Option (Int32 × ZS)) (v2 : Int32) (v3 : Nat) (v5 : Nat) (v6 : Int32) (v7 : Int64) (v9 : Int32) (v10 : Int32) (v11 : Int32) (v12 : Nat) (v14 : Int32) (v15 : Int32) (v16 : Int32) (vt0 : Int32) (S : ZS) : Option (Int32 × ZS) :=
      kL_law_311 sL sx K154 v2 v3 v5 v6 v7 v9 v10 v11 v12 v14 v15 v16 0 vt0 S
def kL_law_283 (sL : Nat) (sx : Nat → Int32) (K154 : Int32 → Nat → Nat → Int32 → Int64 → Int32 → Int32 → Int32 → Nat → Int32 → Int32 → ZS → Option (Int32 × ZS)) (v2 : Int32) (v3 : Nat) (v5 : Nat) (v6 : Int32) (v7 : Int64) (v9 : Int32) (v10 : Int32) (v11 : Int32) (v12 : Nat) (v14 : Int32) (v15 : Int32) (v16 : Int32) (S : ZS) : Option (Int32 × ZS) :=
      clR Prod.snd S 3 18 (k8_isCovered v15 S.g) fun x24 S25 =>
      (k8_minutesToGo S25.g).bind fun x26 =>
      if x26 ≤ 0 then
        kL_law_310 sL sx K154 v2 v3 v5 v6 v7 v9 v10 v11 v12 v14 v15 v16 x24 S25
      else
        clR Prod.snd S25 3 18 (k8_mirrorOfJob 0 S25.g) fun x28 S29 =>
        if x28 = v15 then
          kL_law_311 sL sx K154 v2 v3 v5 v6 v7 v9 v10 v11 v12 v14 v15 v16 1 x24 S29
        else
          kL_law_310 sL sx K154 v2 v3 v5 v6 v7 v9 v10 v11 v12 v14 v15 v16 x24 S29
def kL_law_528 (sL : Nat) (sx : Nat → Int32) (K518 : Int32 → Nat → Nat → Int32 → Int64 → Int32 → Int32 → Int32 → ZS → Option (Int32 × ZS)) : Nat → Int32 → Nat → Nat → Int32 → Int64 → Int32 → Int32 → Int32 → Int32 → ZS → Option (Int32 × ZS)
  | 0, _, _, _, _, _, _, _, _, _, _ => none
  | f + 1, v2, v3, v5, v6, v7, v9, v14, v15, v16, S =>
        if v15 ≤ v16 then
          bd (v15 + 1) fun x32 =>
          K518 v2 v3 v5 v6 v7 v9 v14 x32 S
        else
          clR Prod.snd S 3 18 (k8_kindOfJob v15 S.g) fun x33 S34 =>
          clR Prod.snd S34 3 18 (k8_kindOfJob v16 S34.g) fun x35 S36 =>
          if x33 = x35 then
            clR Prod.snd S36 3 18 (k8_mirrorOfJob v15 S36.g) fun x39 S40 =>
            clR Prod.snd S40 3 18 (k8_mirrorOfJob v16 S40.g) fun x41 S42 =>
            if x39 = x41 then
              some (0, S42)
            else
              bd (v16 + 1) fun x44 =>
              kL_law_528 sL sx K518 f v2 v3 v5 v6 v7 v9 v14 v15 x44 S42
          else
            bd (v16 + 1) fun x38 =>
            kL_law_528 sL sx K518 f v2 v3 v5 v6 v7 v9 v14 v15 x38 S36
def kL_law_925 (sL : Nat) (sx : Nat → Int32) (K771 : Int32 → Nat → Nat → Int32 → Int32 → Int32 → Int32 → Int32 → Int32 → Int32 → Int32 → ZS → Option (Int32 × ZS)) (v2 : Int32) (v3 : Nat) (v5 : Nat) (v6 : Int32) (v19 : Int32) (v20 : Int32) (v21 : Int32) (v22 : Int32) (v23 : Int32) (v24 : Int32) (v25 : Int32) (vt0 : Int32) (vt1 : Int32) (S : ZS) : Option (Int32 × ZS) :=
      if vt1 = vt0 then
        bd (v25 + 1) fun x46 =>
        K771 v2 v3 v5 v6 v19 v20 v21 v22 v23 v24 x46 S
      else
        some (0, S)
def kL_law_913 (sL : Nat) (sx : Nat → Int32) (K771 : Int32 → Nat → Nat → Int32 → Int32 → Int32 → Int32 → Int32 → Int32 → Int32 → Int32 → ZS → Option (Int32 × ZS)) (v2 : Int32) (v3 : Nat) (v5 : Nat) (v6 : Int32) (v19 : Int32) (v20 : Int32) (v21 : Int32) (v22 : Int32) (v23 : Int32) (v24 : Int32) (v25 : Int32) (vt0 : Int32) (S : ZS) : Option (Int32 × ZS) :=
      if v25 = v21 then
        kL_law_925 sL sx K771 v2 v3 v5 v6 v19 v20 v21 v22 v23 v24 v25 1 vt0 S
      else
        kL_law_925 sL sx K771 v2 v3 v5 v6 v19 v20 v21 v22 v23 v24 v25 0 vt0 S
def kL_law_884 (sL : Nat) (sx : Nat → Int32) (K771 : Int32 → Nat → Nat → Int32 → Int32 → Int32 → Int32 → Int32 → Int32 → Int32 → Int32 → ZS → Option (Int32 × ZS)) (v2 : Int32) (v3 : Nat) (v5 : Nat) (v6 : Int32) (v19 : Int32) (v20 : Int32) (v21 : Int32) (v22 : Int32) (v23 : Int32) (v24 : Int32) (v25 : Int32) (S : ZS) : Option (Int32 × ZS) :=
      if v21 ≤ 0 then
        bd (v25 + 1) fun x49 =>
        K771 v2 v3 v5 v6 v19 v20 v21 v22 v23 v24 x49 S
      else
        if v21 < v25 then
          bd (v25 + 1) fun x51 =>
          K771 v2 v3 v5 v6 v19 v20 v21 v22 v23 v24 x51 S
        else
          (k8_jobsDone S.g).bind fun x52 =>
          if (x52 - v22) ≤ v20 then
            kL_law_913 sL sx K771 v2 v3 v5 v6 v19 v20 v21 v22 v23 v24 v25 0 S
          else
            kL_law_913 sL sx K771 v2 v3 v5 v6 v19 v20 v21 v22 v23 v24 v25 1 S
def kL_law_870 (sL : Nat) (sx : Nat → Int32) (K771 : Int32 → Nat → Nat → Int32 → Int32 → Int32 → Int32 → Int32 → Int32 → Int32 → Int32 → ZS → Option (Int32 × ZS)) (v2 : Int32) (v3 : Nat) (v5 : Nat) (v6 : Int32) (v19 : Int32) (v20 : Int32) (v21 : Int32) (v22 : Int32) (v23 : Int32) (v24 : Int32) (v25 : Int32) (S : ZS) : Option (Int32 × ZS) :=
      if 0 ≤ v19 then
        kL_law_884 sL sx K771 v2 v3 v5 v6 v19 v20 v21 v22 v23 v24 v25 S
      else
        clI S (k8_isSeen S.g) fun x55 S56 =>
        if x55 = 0 then
          kL_law_884 sL sx K771 v2 v3 v5 v6 v19 v20 v21 v22 v23 v24 v25 S56
        else
          some (0, S56)
def kL_law_867 (sL : Nat) (sx : Nat → Int32) (K771 : Int32 → Nat → Nat → Int32 → Int32 → Int32 → Int32 → Int32 → Int32 → Int32 → Int32 → ZS → Option (Int32 × ZS)) (v2 : Int32) (v3 : Nat) (v5 : Nat) (v6 : Int32) (v19 : Int32) (v20 : Int32) (v21 : Int32) (v22 : Int32) (v23 : Int32) (v24 : Int32) (v25 : Int32) (vt0 : Int32) (vt1 : Int32) (S : ZS) : Option (Int32 × ZS) :=
      if vt1 = vt0 then
        kL_law_870 sL sx K771 v2 v3 v5 v6 v19 v20 v21 v22 v23 v24 v25 S
      else
        some (0, S)
def kL_law_839 (sL : Nat) (sx : Nat → Int32) (K771 : Int32 → Nat → Nat → Int32 → Int32 → Int32 → Int32 → Int32 → Int32 → Int32 → Int32 → ZS → Option (Int32 × ZS)) (v2 : Int32) (v3 : Nat) (v5 : Nat) (v6 : Int32) (v19 : Int32) (v20 : Int32) (v21 : Int32) (v22 : Int32) (v23 : Int32) (v24 : Int32) (v25 : Int32) (S : ZS) : Option (Int32 × ZS) :=
      if v19 ≤ 0 then
        kL_law_870 sL sx K771 v2 v3 v5 v6 v19 v20 v21 v22 v23 v24 v25 S
      else
        if v19 < v25 then
          kL_law_870 sL sx K771 v2 v3 v5 v6 v19 v20 v21 v22 v23 v24 v25 S
        else
          clI S (k8_isSeen S.g) fun x61 S62 =>
          if v25 = v19 then
            kL_law_867 sL sx K771 v2 v3 v5 v6 v19 v20 v21 v22 v23 v24 v25 1 x61 S62
          else
            kL_law_867 sL sx K771 v2 v3 v5 v6 v19 v20 v21 v22 v23 v24 v25 0 x61 S62
def kL_law_771 (sL : Nat) (sx : Nat → Int32) (K88 : Int32 → Nat → Nat → Int32 → ZS → Option (Int32 × ZS)) : Nat → Int32 → Nat → Nat → Int32 → Int32 → Int32 → Int32 → Int32 → Int32 → Int32 → Int32 → ZS → Option (Int32 × ZS)
  | 0, _, _, _, _, _, _, _, _, _, _, _, _ => none
  | f + 1, v2, v3, v5, v6, v19, v20, v21, v22, v23, v24, v25, S =>
        if v23 < v25 then
          clI S (k8_lightAtEnd S.g) fun x65 S66 =>
          if x65 = v24 then
            clI S66 (k8_bestToClean S66.g) fun x68 S69 =>
            if x68 < 0 then
              bd (v6 + 1) fun x71 =>
              K88 v2 v3 v5 x71 S69
            else
              clR Prod.snd S69 3 18 (k8_clarityOf x68 S69.g) fun x72 S73 =>
              clR Prod.snd S73 3 18 (k8_bestClarityOf x68 S73.g) fun x74 S75 =>
              if x72 < x74 then
                bd (v6 + 1) fun x77 =>
                K88 v2 v3 v5 x77 S75
              else
                some (0, S75)
          else
            some (0, S66)
        else
          (k8_jobsDone S.g).bind fun x78 =>
          clR Prod.snd S 3 18 (k8_passMinutes 1 S.g) fun x79 S80 =>
          rcv S80 v5 14 <| b2 Prod.snd (kX12_pass v5 S80) fun x83 S81 =>
          if x79 = x83 then
            if x79 < 0 then
              some (0, S81)
            else
              if 1 < x79 then
                some (0, S81)
              else
                (k8_jobsDone S81.g).bind fun x87 =>
                if x87 = (x78 + x79) then
                  if x79 = 1 then
                    (k8_minutesToGo S81.g).bind fun x90 =>
                    if x90 ≤ 0 then
                      kL_law_839 sL sx (kL_law_771 sL sx K88 f) v2 v3 v5 v6 v19 v20 v21 v22 v23 v24 v25 S81
                    else
                      some (0, S81)
                  else
                    kL_law_839 sL sx (kL_law_771 sL sx K88 f) v2 v3 v5 v6 v19 v20 v21 v22 v23 v24 v25 S81
                else
                  some (0, S81)
          else
            some (0, S81)
def kL_law_768 (sL : Nat) (sx : Nat → Int32) (K88 : Int32 → Nat → Nat → Int32 → ZS → Option (Int32 × ZS)) (v2 : Int32) (v3 : Nat) (v5 : Nat) (v6 : Int32) (v19 : Int32) (v20 : Int32) (v21 : Int32) (v22 : Int32) (v23 : Int32) (v24 : Int32) (S : ZS) : Option (Int32 × ZS) :=
      kL_law_771 sL sx K88 FU v2 v3 v5 v6 v19 v20 v21 v22 v23 v24 1 S
def kL_law_705 (sL : Nat) (sx : Nat → Int32) (K88 : Int32 → Nat → Nat → Int32 → ZS → Option (Int32 × ZS)) (v2 : Int32) (v3 : Nat) (v5 : Nat) (v6 : Int32) (v7 : Int64) (v19 : Int32) (v20 : Int32) (vt0 : Int32) (S : ZS) : Option (Int32 × ZS) :=
      bd vt0 fun x92 =>
      (k8_jobsDone S.g).bind fun x93 =>
      rcv S v3 11 <| b2 Prod.snd (kX9_next v3 25 S) fun x96 S94 =>
      bd (1 + x96) fun x97 =>
      clR Prod.snd S94 3 18 (k8_lightAfter x97 S94.g) fun x98 S99 =>
      clI S99 (k8_digest S99.g) fun x100 S101 =>
      if (lg_cmp x100 v7) = 0 then
        if x92 = 0 then
          some (0, S101)
        else
          if v20 ≤ 0 then
            kL_law_768 sL sx K88 v2 v3 v5 v6 v19 v20 x92 x93 x97 x98 S101
          else
            if x92 ≤ 0 then
              kL_law_768 sL sx K88 v2 v3 v5 v6 v19 v20 x92 x93 x97 x98 S101
            else
              clR Prod.snd S101 3 18 (k8_minutesUntilDone 0 S101.g) fun x106 S107 =>
              if x106 < x92 then
                kL_law_768 sL sx K88 v2 v3 v5 v6 v19 v20 x92 x93 x97 x98 S107
              else
                some (0, S107)
      else
        some (0, S101)
def kL_law_688 (sL : Nat) (sx : Nat → Int32) (K88 : Int32 → Nat → Nat → Int32 → ZS → Option (Int32 × ZS)) (v2 : Int32) (v3 : Nat) (v5 : Nat) (v6 : Int32) (v7 : Int64) (v19 : Int32) (vt0 : Int32) (S : ZS) : Option (Int32 × ZS) :=
      bd vt0 fun x109 =>
      if 0 ≤ x109 then
        clR Prod.snd S 3 18 (k8_minutesUntilDone x109 S.g) fun x111 S112 =>
        kL_law_705 sL sx K88 v2 v3 v5 v6 v7 v19 x109 x111 S112
      else
        kL_law_705 sL sx K88 v2 v3 v5 v6 v7 v19 x109 (-1) S
def kL_law_518 (sL : Nat) (sx : Nat → Int32) (K88 : Int32 → Nat → Nat → Int32 → ZS → Option (Int32 × ZS)) : Nat → Int32 → Nat → Nat → Int32 → Int64 → Int32 → Int32 → Int32 → ZS → Option (Int32 × ZS)
  | 0, _, _, _, _, _, _, _, _, _ => none
  | f + 1, v2, v3, v5, v6, v7, v9, v14, v15, S =>
        if v14 ≤ v15 then
          rcv S v3 11 <| b2 Prod.snd (kX9_next v3 v9 S) fun x116 S114 =>
          clR Prod.snd S114 3 18 (k8_offsetOf x116 S114.g) fun x117 S118 =>
          clI S118 (k8_lightAtEnd S118.g) fun x119 S120 =>
          clR Prod.snd S120 3 18 (k8_bestOffset x116 S120.g) fun x121 S122 =>
          clR Prod.snd S122 3 18 (k8_turnMirror x116 x121 S122.g) fun x123 S124 =>
          if x123 = x117 then
            clI S124 (k8_lightAtEnd S124.g) fun x126 S127 =>
            if x126 < x119 then
              some (0, S127)
            else
              clR Prod.snd S127 3 18 (k8_bestOffset x116 S127.g) fun x129 S130 =>
              if x129 = x121 then
                clR Prod.snd S130 3 18 (k8_turnMirror x116 x117 S130.g) fun x132 S133 =>
                if x132 = x121 then
                  clI S133 (k8_digest S133.g) fun x135 S136 =>
                  if (lg_cmp x135 v7) = 0 then
                    clI S136 (k8_minutesUntilSeen S136.g) fun x138 S139 =>
                    if v14 = 0 then
                      kL_law_688 sL sx K88 v2 v3 v5 v6 v7 x138 (-1) S139
                    else
                      rcv S139 v3 11 <| b2 Prod.snd (kX9_next v3 v14 S139) fun x143 S141 =>
                      kL_law_688 sL sx K88 v2 v3 v5 v6 v7 x138 x143 S141
                  else
                    some (0, S136)
                else
                  some (0, S133)
              else
                some (0, S130)
          else
            some (0, S124)
        else
          kL_law_528 sL sx (kL_law_518 sL sx K88 f) FU v2 v3 v5 v6 v7 v9 v14 v15 0 S
def kL_law_506 (sL : Nat) (sx : Nat → Int32) (K88 : Int32 → Nat → Nat → Int32 → ZS → Option (Int32 × ZS)) (v2 : Int32) (v3 : Nat) (v5 : Nat) (v6 : Int32) (v7 : Int64) (v9 : Int32) (v14 : Int32) (vt0 : Int32) (S : ZS) : Option (Int32 × ZS) :=
      clI S (k8_isSeen S.g) fun x144 S145 =>
      if vt0 = x144 then
        kL_law_518 sL sx K88 FU v2 v3 v5 v6 v7 v9 v14 0 S145
      else
        some (0, S145)
def kL_law_491 (sL : Nat) (sx : Nat → Int32) (K88 : Int32 → Nat → Nat → Int32 → ZS → Option (Int32 × ZS)) (v2 : Int32) (v3 : Nat) (v5 : Nat) (v6 : Int32) (v7 : Int64) (v9 : Int32) (v14 : Int32) (vt0 : Int32) (vt1 : Int32) (S : ZS) : Option (Int32 × ZS) :=
      if vt1 = vt0 then
        clI S (k8_minutesUntilSeen S.g) fun x148 S149 =>
        if x148 = 0 then
          kL_law_506 sL sx K88 v2 v3 v5 v6 v7 v9 v14 1 S149
        else
          kL_law_506 sL sx K88 v2 v3 v5 v6 v7 v9 v14 0 S149
      else
        some (0, S)
def kL_law_490 (sL : Nat) (sx : Nat → Int32) (K88 : Int32 → Nat → Nat → Int32 → ZS → Option (Int32 × ZS)) (v2 : Int32) (v3 : Nat) (v5 : Nat) (v6 : Int32) (v7 : Int64) (v9 : Int32) (v14 : Int32) (vt0 : Int32) (S : ZS) : Option (Int32 × ZS) :=
      kL_law_491 sL sx K88 v2 v3 v5 v6 v7 v9 v14 0 vt0 S
def kL_law_455 (sL : Nat) (sx : Nat → Int32) (K88 : Int32 → Nat → Nat → Int32 → ZS → Option (Int32 × ZS)) (v2 : Int32) (v3 : Nat) (v5 : Nat) (v6 : Int32) (v7 : Int64) (v9 : Int32) (v14 : Int32) (S : ZS) : Option (Int32 × ZS) :=
      clI S (k8_isSeen S.g) fun x151 S152 =>
      clI S152 (k8_lightAtEnd S152.g) fun x153 S154 =>
      gI S154 v5 14 1 fun x155 =>
      if x153 < x155 then
        kL_law_490 sL sx K88 v2 v3 v5 v6 v7 v9 v14 x151 S154
      else
        clI S154 (k8_tiltAtEnd S154.g) fun x157 S158 =>
        bd (if 0 ≤ x157 then x157 else 0 - x157) fun x159 =>
        gI S158 v5 14 0 fun x160 =>
        if x160 < x159 then
          kL_law_490 sL sx K88 v2 v3 v5 v6 v7 v9 v14 x151 S158
        else
          kL_law_491 sL sx K88 v2 v3 v5 v6 v7 v9 v14 1 x151 S158
def kL_law_154 (sL : Nat) (sx : Nat → Int32) (K88 : Int32 → Nat → Nat → Int32 → ZS → Option (Int32 × ZS)) : Nat → Int32 → Nat → Nat → Int32 → Int64 → Int32 → Int32 → Int32 → Nat → Int32 → Int32 → ZS → Option (Int32 × ZS)
  | 0, _, _, _, _, _, _, _, _, _, _, _, _ => none
  | f + 1, v2, v3, v5, v6, v7, v9, v10, v11, v12, v13, v14, S =>
        if v9 ≤ v14 then
          (k8_jobs S.g).bind fun x163 =>
          clI S (k8_lightAtEnd S.g) fun x164 S165 =>
          if (v10 + x164) = 10000 then
            clI S165 (k8_tiltAtEnd S165.g) fun x167 S168 =>
            if x167 = (2 * v11) then
              if x163 < 0 then
                some (0, S168)
              else
                if 12 < x163 then
                  some (0, S168)
                else
                  (k8_minutesToGo S168.g).bind fun x172 =>
                  if x172 ≤ 0 then
                    kL_law_455 sL sx K88 v2 v3 v5 v6 v7 v9 x163 S168
                  else
                    if x163 = 0 then
                      some (0, S168)
                    else
                      kL_law_455 sL sx K88 v2 v3 v5 v6 v7 v9 x163 S168
            else
              some (0, S168)
          else
            some (0, S165)
        else
          clR Prod.snd S 3 18 (k8_mirrorAt v14 S.g) fun x175 S176 =>
          aG S176 v12 300000 x175 fun x177 =>
          if x177 = 0 then
            clR Prod.snd S176 3 18 (k8_placeOf x175 S176.g) fun x179 S180 =>
            if x179 = v14 then
              aP S180 v12 300000 x175 1 fun S182 =>
              clR Prod.snd S182 3 18 (k8_lightBehind x175 S182.g) fun x183 S184 =>
              clR Prod.snd S184 3 18 (k8_lostAt x175 S184.g) fun x185 S186 =>
              bd (v10 + x185) fun x187 =>
              clR Prod.snd S186 3 18 (k8_offsetOf x175 S186.g) fun x188 S189 =>
              bd (v11 + x188) fun x190 =>
              if x183 < 0 then
                some (0, S189)
              else
                if v13 < x183 then
                  some (0, S189)
                else
                  clR Prod.snd S189 3 18 (k8_lostAt x175 S189.g) fun x193 S194 =>
                  if x193 = (v13 - x183) then
                    clR Prod.snd S194 3 18 (k8_lostAt x175 S194.g) fun x196 S197 =>
                    clR Prod.snd S197 3 18 (k8_worstMirror S197.g) fun x198 S199 =>
                    clR Prod.snd S199 3 18 (k8_lostAt x198 S199.g) fun x200 S201 =>
                    if x200 < x196 then
                      some (0, S201)
                    else
                      clR Prod.snd S201 3 18 (k8_isCovered x175 S201.g) fun x203 S204 =>
                      if x203 = 0 then
                        kL_law_283 sL sx (kL_law_154 sL sx K88 f) v2 v3 v5 v6 v7 v9 x187 x190 v12 v14 x175 x183 S204
                      else
                        if 0 < x183 then
                          some (0, S204)
                        else
                          kL_law_283 sL sx (kL_law_154 sL sx K88 f) v2 v3 v5 v6 v7 v9 x187 x190 v12 v14 x175 x183 S204
                  else
                    some (0, S194)
            else
              some (0, S180)
          else
            some (0, S176)
def kL_law_98 (sL : Nat) (sx : Nat → Int32) (K88 : Int32 → Nat → Nat → Int32 → ZS → Option (Int32 × ZS)) : Nat → Int32 → Nat → Nat → Int32 → Int32 → ZS → Option (Int32 × ZS)
  | 0, _, _, _, _, _, _ => none
  | f + 1, v2, v3, v5, v6, v7, S =>
        if 2 ≤ v7 then
          clI S (k8_digest S.g) fun x208 S209 =>
          (k8_mirrors S209.g).bind fun x210 =>
          nA Prod.snd S209 300000 x210 fun c211 S212 =>
          kL_law_154 sL sx K88 FU v2 v3 v5 v6 x208 x210 0 0 c211 10000 0 S212
        else
          b2 Prod.snd (kL_act v5 v3 S) fun x216 S214 =>
          if x216 = 0 then
            some (0, S214)
          else
            bd (v7 + 1) fun x218 =>
            kL_law_98 sL sx K88 f v2 v3 v5 v6 x218 S214
def kL_law_1118 (sL : Nat) (sx : Nat → Int32) (K10 : Int32 → ZS → Option (Int32 × ZS)) (v2 : Int32) (v6 : Int32) (v8 : Int32) (v9 : Int32) (S : ZS) : Option (Int32 × ZS) :=
      if 0 ≤ v8 then
        bd (v2 + 1) fun x220 =>
        K10 x220 S
      else
        if v9 ≤ 0 then
          bd (v2 + 1) fun x222 =>
          K10 x222 S
        else
          if 100 ≤ v6 then
            bd (v2 + 1) fun x224 =>
            K10 x224 S
          else
            some (0, S)
def kL_law_88 (sL : Nat) (sx : Nat → Int32) (K10 : Int32 → ZS → Option (Int32 × ZS)) : Nat → Int32 → Nat → Nat → Int32 → ZS → Option (Int32 × ZS)
  | 0, _, _, _, _, _ => none
  | f + 1, v2, v3, v5, v6, S =>
        if 8 ≤ v6 then
          rcv S v5 14 <| b2 Prod.snd (kX12_isSame v5 S) fun x228 S226 =>
          if x228 = 0 then
            some (0, S226)
          else
            rcv S226 v3 11 <| b2 Prod.snd (kX9_next v3 101 S226) fun x232 S230 =>
            rcv S230 v3 11 <| b2 Prod.snd (kX9_next v3 99 S230) fun x235 S233 =>
            bd (1 + x235) fun x236 =>
            nO Prod.snd S233 1 4 fun c237 S238 =>
            b1 Prod.snd (kJ4_init_da8c8 c237 S238) fun S240 =>
            rcv S240 c237 1 <| b2 Prod.snd (kJ4_append_15ec4_S c237 70 S240) fun c244 S242 =>
            rcv S242 c244 1 <| b2 Prod.snd (kJ4_append_bf812 c244 x232 S242) fun c247 S245 =>
            rcv S245 c247 1 <| b2 Prod.snd (kJ4_append_15ec4_S c247 71 S245) fun c250 S248 =>
            rcv S248 c250 1 <| b2 Prod.snd (kJ4_append_bf812 c250 x236 S248) fun c253 S251 =>
            rcv S251 c253 1 <| b2 Prod.snd (kJ4_append_15ec4_S c253 72 S251) fun c256 S254 =>
            rcv S254 c256 1 <| b2 Prod.snd (kJ4_toString_0e30d c256 S254) fun c259 S257 =>
            b2 Prod.snd (kL_taught c259 S257) fun x262 S260 =>
            if x262 = 0 then
              clI S260 (k8_bestToClean S260.g) fun x264 S265 =>
              clI S265 (k8_lightAtEnd S265.g) fun x266 S267 =>
              if x264 < 0 then
                kL_law_1118 sL sx K10 v2 x232 x264 x266 S267
              else
                clR Prod.snd S267 3 18 (k8_orderJob x264 0 S267.g) fun x269 S270 =>
                if x269 = 1 then
                  clR Prod.snd S270 3 18 (k8_minutesUntilDone 0 S270.g) fun x272 S273 =>
                  clR Prod.snd S273 3 18 (k8_passMinutes x272 S273.g) fun x274 S275 =>
                  if x274 = 1 then
                    clI S275 (k8_lightAtEnd S275.g) fun x277 S278 =>
                    if x277 ≤ x266 then
                      some (0, S278)
                    else
                      clR Prod.snd S278 3 18 (k8_clarityOf x264 S278.g) fun x280 S281 =>
                      if x280 = 100 then
                        kL_law_1118 sL sx K10 v2 x232 x264 x266 S281
                      else
                        some (0, S281)
                  else
                    some (0, S275)
                else
                  some (0, S270)
            else
              some (0, S260)
        else
          kL_law_98 sL sx (kL_law_88 sL sx K10 f) FU v2 v3 v5 v6 0 S
def kL_law_10 (sL : Nat) (sx : Nat → Int32)  : Nat → Int32 → ZS → Option (Int32 × ZS)
  | 0, _, _ => none
  | f + 1, v2, S =>
        if 2 ≤ v2 then
          some (1, S)
        else
          nO Prod.snd S 11 1 fun c284 S285 =>
          b2 Prod.snd (kL_cell sL sx v2 S285) fun x289 S287 =>
          b2 Prod.snd (kL_cell sL sx (v2 + 3) S287) fun x292 S290 =>
          b2 Prod.snd (kL_cell sL sx (v2 + 6) S290) fun x295 S293 =>
          b1 Prod.snd (kX9_init c284 ((x289 ^^^ (x292 * 31)) ^^^ (x295 * 1009)) S293) fun S296 =>
          nO Prod.snd S296 1 4 fun c298 S299 =>
          b1 Prod.snd (kJ4_init_da8c8 c298 S299) fun S301 =>
          b2 Prod.snd (kL_drawn c284 c298 1 4 S301) fun c305 S303 =>
          rcv S303 c298 1 <| b2 Prod.snd (kJ4_toString_0e30d c298 S303) fun c308 S306 =>
          b2 Prod.snd (kL_taught c308 S306) fun x311 S309 =>
          if x311 = 0 then
            kL_law_88 sL sx (kL_law_10 sL sx f) FU v2 c284 c305 0 S309
          else
            some (0, S309)
def kL_law (sL : Nat) (sx : Nat → Int32)  (S0 : ZS) : Option (Int32 × ZS) :=
  chk Prod.snd S0 <|
  kL_law_10 sL sx FU 0 S0
