/-! PURE: the functions of the reference -/
def fX5_in (a1 : Int32) (a2 : Int32) (a3 : Int32) : Option Int32 :=
  if a1 < a2 then
    some (0 : Int32)
  else
    if a3 < a1 then
      some (0 : Int32)
    else
      some (1 : Int32)
def fX5_has (a1 : Int32) (a2 : Int32) : Option Int32 :=
  if ((a1 >>> (a2 &&& 31)) &&& (1 : Int32)) = (1 : Int32) then
    some (1 : Int32)
  else
    some (0 : Int32)
def lX5_bits_4 (k20 : Int32 → Option Int32) : Nat → Int32 → Int32 → Option Int32
  | 0, _, _ => none
  | F + 1, v1, v2 =>
    if v2 = 0 then
      k20 v1
    else
      plet (v2 &&& (v2 - (1 : Int32))) fun x1 =>
      lX5_bits_4 k20 F (v1 + (1 : Int32)) x1
def fX5_bits (a1 : Int32) : Option Int32 :=
  lX5_bits_4 
    (fun (y2 : Int32) =>
      some y2)
    FU (0 : Int32) a1
def fX5_greater (a1 : Int32) (a2 : Int32) : Option Int32 :=
  if a1 ≤ a2 then
    some a2
  else
    some a1
def fX5_meets (σ : pS) (a1 : Int32) : Option (Int32 × pS) :=
  plet (sI σ 0 0 a1) fun σ1 =>
  if pin a1 6 then
    if pin a1 6 then
      plet (sI σ1 1 (a1).toNatClampNeg ((pI σ1 1 (a1).toNatClampNeg) + (1 : Int32))) fun σ2 =>
      some ((-3 : Int32), σ2)
    else none
  else none
def fX5_finding (σ : pS) : Option Int32 :=
  some (pI σ 0 0)
def fX5_findings (σ : pS) (a1 : Int32) : Option Int32 :=
  (fX5_in a1 (1 : Int32) (5 : Int32)).bind fun r2 =>
  if r2 = 0 then
    some (-1 : Int32)
  else
    if pin a1 6 then
      some (pI σ 1 (a1).toNatClampNeg)
    else none
def fX5_tells (σ : pS) (a1 : Int32) (a2 : Int32) : Option (Int32 × pS) :=
  plet (sI σ 0 2 a1) fun σ1 =>
  some (a2, σ1)
def fX5_asked (σ : pS) : Option Int32 :=
  some (pI σ 0 2)
def fX5_upper (σ : pS) : Option Int64 :=
  some (pL σ 0 3)
def fX5_lower (σ : pS) : Option Int64 :=
  some (pL σ 0 4)
def fX5_isRow (a1 : Int32) : Option Int32 :=
  (fX5_in a1 (0 : Int32) (5 : Int32)).bind fun r2 =>
  if vp_nar .boolean r2 = r2 then some r2 else none
def fX5_rowAt (σ : pS) (a1 : Int32) (a2 : Int32) : Option Int32 :=
  if pin (((60 : Int32) * a1) + a2) 360 then
    some (pI σ 3 ((((60 : Int32) * a1) + a2)).toNatClampNeg)
  else none
def lX5_row_34 (p1 : Int32) (p2 : Int32) (k58 : pS → Option (Int32 × pS)) : Nat → Int32 → pS → Option (Int32 × pS)
  | 0, _, _ => none
  | F + 1, v3, σ =>
    if (60 : Int32) ≤ v3 then
      k58 σ
    else
      if pin (((60 : Int32) * p1) + v3) 360 then
        plet (sI σ 3 ((((60 : Int32) * p1) + v3)).toNatClampNeg (0 : Int32)) fun σ4 =>
        lX5_row_34 p1 p2 k58 F (v3 + (1 : Int32)) σ4
      else none
def fX5_row (σ : pS) (a1 : Int32) (a2 : Int32) : Option (Int32 × pS) :=
  (fX5_isRow a1).bind fun r2 =>
  if r2 = 0 then
    some ((-1 : Int32), σ)
  else
    if a2 ≤ (60 : Int32) then
      if 0 ≤ a2 then
        if pin a1 6 then
          plet (sI σ 2 (a1).toNatClampNeg a2) fun σ3 =>
          lX5_row_34 a1 a2
            (fun (σ5 : pS) =>
              some (a2, σ5))
            FU (0 : Int32) σ3
        else none
      else
        pbind (fX5_meets σ (5 : Int32)) fun r7 σ8 =>
        some (r7, σ8)
    else
      some ((-1 : Int32), σ)
def fX5_lay (σ : pS) (a1 : Int32) (a2 : Int32) (a3 : Int32) : Option (Int32 × pS) :=
  (fX5_isRow a1).bind fun r2 =>
  if r2 = 0 then
    some ((-1 : Int32), σ)
  else
    if pin a1 6 then
      if 0 ≤ (pI σ 2 (a1).toNatClampNeg) then
        if pin a1 6 then
          (fX5_in a2 (0 : Int32) ((pI σ 2 (a1).toNatClampNeg) - (1 : Int32))).bind fun r4 =>
          if r4 = 0 then
            pbind (fX5_meets σ (2 : Int32)) fun r12 σ13 =>
            some (r12, σ13)
          else
            (fX5_rowAt σ a1 a2).bind fun r6 =>
            if pin (((60 : Int32) * a1) + a2) 360 then
              plet (sI σ 3 ((((60 : Int32) * a1) + a2)).toNatClampNeg a3) fun σ7 =>
              pbind (fX5_tells σ7 r6 (1 : Int32)) fun r9 σ10 =>
              some (r9, σ10)
            else none
        else none
      else
        pbind (fX5_meets σ (1 : Int32)) fun r15 σ16 =>
        some (r15, σ16)
    else none
def fX5_at (σ : pS) (a1 : Int32) (a2 : Int32) : Option (Int32 × pS) :=
  (fX5_isRow a1).bind fun r2 =>
  if r2 = 0 then
    some ((-1 : Int32), σ)
  else
    if pin a1 6 then
      if 0 ≤ (pI σ 2 (a1).toNatClampNeg) then
        if pin a1 6 then
          (fX5_in a2 (0 : Int32) ((pI σ 2 (a1).toNatClampNeg) - (1 : Int32))).bind fun r4 =>
          if r4 = 0 then
            pbind (fX5_meets σ (2 : Int32)) fun r6 σ7 =>
            some (r6, σ7)
          else
            (fX5_rowAt σ a1 a2).bind fun r9 =>
            pbind (fX5_tells σ r9 (1 : Int32)) fun r11 σ12 =>
            some (r11, σ12)
        else none
      else
        pbind (fX5_meets σ (1 : Int32)) fun r14 σ15 =>
        some (r14, σ15)
    else none
def fX5_tear (σ : pS) (a1 : Int32) : Option (Int32 × pS) :=
  (fX5_isRow a1).bind fun r2 =>
  if r2 = 0 then
    some ((-1 : Int32), σ)
  else
    if pin a1 6 then
      if 0 ≤ (pI σ 2 (a1).toNatClampNeg) then
        if pin a1 6 then
          plet (sI σ 2 (a1).toNatClampNeg (-1 : Int32)) fun σ3 =>
          some ((1 : Int32), σ3)
        else none
      else
        pbind (fX5_meets σ (1 : Int32)) fun r5 σ6 =>
        some (r5, σ6)
    else none
def lX5_copy_104 (p1 : Int32) (p2 : Int32) (p3 : Int32) (p4 : Int32) (p5 : Int32) (k133 : pS → Option (Int32 × pS)) : Nat → Int32 → pS → Option (Int32 × pS)
  | 0, _, _ => none
  | F + 1, v6, σ =>
    if p5 ≤ v6 then
      k133 σ
    else
      (fX5_rowAt σ p1 (p2 + v6)).bind fun r14 =>
      if pin v6 60 then
        plet (sI σ 4 (v6).toNatClampNeg r14) fun σ15 =>
        lX5_copy_104 p1 p2 p3 p4 p5 k133 F (v6 + (1 : Int32)) σ15
      else none
def lX5_copy_136 (p3 : Int32) (p4 : Int32) (p5 : Int32) (k171 : pS → Option (Int32 × pS)) : Nat → Int32 → pS → Option (Int32 × pS)
  | 0, _, _ => none
  | F + 1, v6, σ =>
    if p5 ≤ v6 then
      k171 σ
    else
      if pin v6 60 then
        if pin ((((60 : Int32) * p3) + p4) + v6) 360 then
          plet (sI σ 3 (((((60 : Int32) * p3) + p4) + v6)).toNatClampNeg (pI σ 4 (v6).toNatClampNeg)) fun σ17 =>
          lX5_copy_136 p3 p4 p5 k171 F (v6 + (1 : Int32)) σ17
        else none
      else none
def fX5_copy (σ : pS) (a1 : Int32) (a2 : Int32) (a3 : Int32) (a4 : Int32) (a5 : Int32) : Option (Int32 × pS) :=
  (fX5_isRow a1).bind fun r2 =>
  if r2 = 0 then
    some ((-1 : Int32), σ)
  else
    (fX5_isRow a3).bind fun r4 =>
    if r4 = 0 then
      some ((-1 : Int32), σ)
    else
      if 0 ≤ a5 then
        if pin a1 6 then
          plet (
              pbind (fX5_meets σ (1 : Int32)) fun r7 σ8 =>
              some (r7, σ8)
            ) fun j5 =>
          if (pI σ 2 (a1).toNatClampNeg) < 0 then
            j5
          else
            if pin a3 6 then
              if 0 ≤ (pI σ 2 (a3).toNatClampNeg) then
                plet (
                    pbind (fX5_meets σ (2 : Int32)) fun r11 σ12 =>
                    some (r11, σ12)
                  ) fun j9 =>
                if a2 < 0 then
                  j9
                else
                  if a4 < 0 then
                    j9
                  else
                    if pin a1 6 then
                      if 0 < (lg_cmp ((a2).toInt64 + (a5).toInt64) ((pI σ 2 (a1).toNatClampNeg)).toInt64) then
                        j9
                      else
                        if pin a3 6 then
                          if (lg_cmp ((a4).toInt64 + (a5).toInt64) ((pI σ 2 (a3).toNatClampNeg)).toInt64) ≤ 0 then
                            lX5_copy_104 a1 a2 a3 a4 a5
                              (fun (σ16 : pS) =>
                                lX5_copy_136 a3 a4 a5
                                  (fun (σ18 : pS) =>
                                    some ((1 : Int32), σ18))
                                  FU (0 : Int32) σ16)
                              FU (0 : Int32) σ
                          else
                            j9
                        else none
                    else none
              else
                j5
            else none
        else none
      else
        pbind (fX5_meets σ (5 : Int32)) fun r20 σ21 =>
        some (r20, σ21)
def lX5_mean_44 (σ : pS) (p1 : Int32) (k72 : Int64 → Option (Int32 × pS)) : Nat → Int64 → Int32 → Option (Int32 × pS)
  | 0, _, _ => none
  | F + 1, v2, v4 =>
    if pin p1 6 then
      if (pI σ 2 (p1).toNatClampNeg) ≤ v4 then
        k72 v2
      else
        (fX5_rowAt σ p1 v4).bind fun r4 =>
        plet (v2 + (r4).toInt64) fun x5 =>
        lX5_mean_44 σ p1 k72 F x5 (v4 + (1 : Int32))
    else none
def fX5_mean (σ : pS) (a1 : Int32) : Option (Int32 × pS) :=
  (fX5_isRow a1).bind fun r2 =>
  if r2 = 0 then
    some ((-1 : Int32), σ)
  else
    if pin a1 6 then
      if 0 ≤ (pI σ 2 (a1).toNatClampNeg) then
        if pin a1 6 then
          if (pI σ 2 (a1).toNatClampNeg) = 0 then
            pbind (fX5_meets σ (4 : Int32)) fun r11 σ12 =>
            some (r11, σ12)
          else
            lX5_mean_44 σ a1
              (fun (y6 : Int64) =>
                if pin a1 6 then
                  if ((pI σ 2 (a1).toNatClampNeg)).toInt64 = 0 then none else
                  pbind (fX5_tells σ ((y6 / ((pI σ 2 (a1).toNatClampNeg)).toInt64)).toInt32 (1 : Int32)) fun r8 σ9 =>
                  some (r8, σ9)
                else none)
              FU (0 : Int64) (0 : Int32)
        else none
      else
        pbind (fX5_meets σ (1 : Int32)) fun r14 σ15 =>
        some (r14, σ15)
    else none
def fX5_isText (a1 : Int32) : Option Int32 :=
  (fX5_in a1 (0 : Int32) (3 : Int32)).bind fun r2 =>
  if vp_nar .boolean r2 = r2 then some r2 else none
def lX5_text_34 (p1 : Int32) (p2 : Int32) (k59 : pS → Option (Int32 × pS)) : Nat → Int32 → pS → Option (Int32 × pS)
  | 0, _, _ => none
  | F + 1, v3, σ =>
    if (120 : Int32) ≤ v3 then
      k59 σ
    else
      if pin (((120 : Int32) * p1) + v3) 480 then
        plet (sI σ 6 ((((120 : Int32) * p1) + v3)).toNatClampNeg (vp_nar .byte (32 : Int32))) fun σ4 =>
        lX5_text_34 p1 p2 k59 F (v3 + (1 : Int32)) σ4
      else none
def fX5_text (σ : pS) (a1 : Int32) (a2 : Int32) : Option (Int32 × pS) :=
  (fX5_isText a1).bind fun r2 =>
  if r2 = 0 then
    some ((-1 : Int32), σ)
  else
    if a2 ≤ (120 : Int32) then
      if 0 ≤ a2 then
        if pin a1 4 then
          plet (sI σ 5 (a1).toNatClampNeg a2) fun σ3 =>
          lX5_text_34 a1 a2
            (fun (σ5 : pS) =>
              some (a2, σ5))
            FU (0 : Int32) σ3
        else none
      else
        pbind (fX5_meets σ (5 : Int32)) fun r7 σ8 =>
        some (r7, σ8)
    else
      some ((-1 : Int32), σ)
def fX5_put (σ : pS) (a1 : Int32) (a2 : Int32) (a3 : Int32) : Option (Int32 × pS) :=
  (fX5_isText a1).bind fun r2 =>
  if r2 = 0 then
    some ((-1 : Int32), σ)
  else
    if pin a1 4 then
      if 0 ≤ (pI σ 5 (a1).toNatClampNeg) then
        if pin a1 4 then
          (fX5_in a2 (0 : Int32) ((pI σ 5 (a1).toNatClampNeg) - (1 : Int32))).bind fun r4 =>
          if r4 = 0 then
            pbind (fX5_meets σ (2 : Int32)) fun r8 σ9 =>
            some (r8, σ9)
          else
            if pin (((120 : Int32) * a1) + a2) 480 then
              plet (pI σ 6 ((((120 : Int32) * a1) + a2)).toNatClampNeg) fun x5 =>
              if pin (((120 : Int32) * a1) + a2) 480 then
                plet (sI σ 6 ((((120 : Int32) * a1) + a2)).toNatClampNeg (vp_nar .byte (a3).toInt8.toInt32)) fun σ6 =>
                some (((1000 : Int32) + x5), σ6)
              else none
            else none
        else none
      else
        pbind (fX5_meets σ (1 : Int32)) fun r11 σ12 =>
        some (r11, σ12)
    else none
def fX5_byteAt (σ : pS) (a1 : Int32) (a2 : Int32) : Option Int32 :=
  if pin a1 4 then
    if (pI σ 5 (a1).toNatClampNeg) ≤ a2 then
      some (0 : Int32)
    else
      if pin (((120 : Int32) * a1) + a2) 480 then
        some (pI σ 6 ((((120 : Int32) * a1) + a2)).toNatClampNeg)
      else none
  else none
def fX5_sign (σ : pS) (a1 : Int32) (a2 : Int32) : Option (Int32 × pS) :=
  (fX5_byteAt σ a1 (pI σ 0 15)).bind fun r2 =>
  plet (fun (y4 : Int32) =>
      plet (fun (y6 : Int32) =>
          plet (sI σ 0 15 ((pI σ 0 15) + y6)) fun σ7 =>
          if vp_nar .boolean y4 = y4 then some (y4, σ7) else none
        ) fun j5 =>
      if y4 = 0 then
        j5 (0 : Int32)
      else
        j5 (1 : Int32)
    ) fun j3 =>
  if r2 = a2 then
    j3 (1 : Int32)
  else
    j3 (0 : Int32)
def lX5_number_6 (p1 : Int32) (p2 : Int32) (p3 : Int32) (k67 : Int32 → Int32 → pS → Option (Int32 × pS)) : Nat → Int32 → Int32 → pS → Option (Int32 × pS)
  | 0, _, _, _ => none
  | F + 1, v4, v5, σ =>
    if (2 : Int32) ≤ v4 then
      k67 v4 v5 σ
    else
      (fX5_byteAt σ p1 (pI σ 0 15)).bind fun r2 =>
      (fX5_in r2 (48 : Int32) (57 : Int32)).bind fun r4 =>
      if r4 = 0 then
        k67 v4 v5 σ
      else
        (fX5_byteAt σ p1 (pI σ 0 15)).bind fun r6 =>
        plet ((((10 : Int32) * v5) + r6) - (48 : Int32)) fun x7 =>
        plet (sI σ 0 15 ((pI σ 0 15) + (1 : Int32))) fun σ8 =>
        lX5_number_6 p1 p2 p3 k67 F (v4 + (1 : Int32)) x7 σ8
def fX5_number (σ : pS) (a1 : Int32) (a2 : Int32) (a3 : Int32) : Option (Int32 × pS) :=
  lX5_number_6 a1 a2 a3
    (fun (y9 : Int32) (y10 : Int32) (σ11 : pS) =>
      plet (sI σ11 0 16 y10) fun σ12 =>
      if y9 ≤ 0 then
        some ((0 : Int32), σ12)
      else
        (fX5_in y10 a2 a3).bind fun r14 =>
        if r14 = 0 then
          some ((0 : Int32), σ12)
        else
          some ((1 : Int32), σ12))
    FU (0 : Int32) (0 : Int32) σ
def fX5_figure (σ : pS) (a1 : Int32) : Option (Int32 × pS) :=
  (fX5_byteAt σ a1 (pI σ 0 15)).bind fun r2 =>
  plet (sI σ 0 16 (r2 - (48 : Int32))) fun σ3 =>
  (fX5_in (pI σ3 0 16) (0 : Int32) (9 : Int32)).bind fun r5 =>
  plet (fun (y7 : Int32) =>
      plet (sI σ3 0 15 ((pI σ3 0 15) + y7)) fun σ8 =>
      if vp_nar .boolean r5 = r5 then some (r5, σ8) else none
    ) fun j6 =>
  if r5 = 0 then
    j6 (0 : Int32)
  else
    j6 (1 : Int32)
def fX5_letter (σ : pS) (a1 : Int32) (a2 : Int32) : Option (Int32 × pS) :=
  (fX5_byteAt σ a1 (pI σ 0 15)).bind fun r2 =>
  plet (sI σ 0 16 (r2 - (65 : Int32))) fun σ3 =>
  (fX5_in (pI σ3 0 16) (0 : Int32) ((pI σ3 0 17) - (1 : Int32))).bind fun r5 =>
  plet (fun (y7 : Int32) =>
      plet (fun (y9 : Int32) =>
          plet (sI σ3 0 15 ((pI σ3 0 15) + y9)) fun σ10 =>
          if vp_nar .boolean y7 = y7 then some (y7, σ10) else none
        ) fun j8 =>
      if y7 = 0 then
        j8 (0 : Int32)
      else
        j8 (1 : Int32)
    ) fun j6 =>
  if r5 = 0 then
    j6 (0 : Int32)
  else
    if (pI σ3 0 16) = a2 then
      j6 (0 : Int32)
    else
      j6 (1 : Int32)
def fX5_kindOf (a1 : Int32) : Option Int32 :=
  if a1 = (104 : Int32) then
    some (0 : Int32)
  else
  if a1 = (105 : Int32) then
    some (-9 : Int32)
  else
  if a1 = (106 : Int32) then
    some (-9 : Int32)
  else
  if a1 = (107 : Int32) then
    some (1 : Int32)
  else
  if a1 = (108 : Int32) then
    some (4 : Int32)
  else
  if a1 = (109 : Int32) then
    some (3 : Int32)
  else
  if a1 = (110 : Int32) then
    some (-9 : Int32)
  else
  if a1 = (111 : Int32) then
    some (-9 : Int32)
  else
  if a1 = (112 : Int32) then
    some (-9 : Int32)
  else
  if a1 = (113 : Int32) then
    some (-9 : Int32)
  else
  if a1 = (114 : Int32) then
    some (-9 : Int32)
  else
  if a1 = (115 : Int32) then
    some (2 : Int32)
  else
  if a1 = (116 : Int32) then
    some (-9 : Int32)
  else
  if a1 = (117 : Int32) then
    some (-9 : Int32)
  else
  if a1 = (118 : Int32) then
    some (-9 : Int32)
  else
  if a1 = (119 : Int32) then
    some (-9 : Int32)
  else
  if a1 = (120 : Int32) then
    some (-9 : Int32)
  else
  if a1 = (121 : Int32) then
    some (5 : Int32)
  else
  some (-9 : Int32)
def lX5_readsOne_141 (σ : pS) (p1 : Int32) (p2 : Int32) (p3 : Int32) (k165 : Int32 → Option (Int32 × pS)) : Nat → Int32 → Int32 → Option (Int32 × pS)
  | 0, _, _ => none
  | F + 1, v4, v6 =>
    if (pI σ 0 16) < v6 then
      k165 v4
    else
      plet (v4 ||| ((1 : Int32) <<< (v6 &&& 31))) fun x23 =>
      lX5_readsOne_141 σ p1 p2 p3 k165 F x23 (v6 + (1 : Int32))
def lX5_readsOne_84 (p1 : Int32) (p2 : Int32) (p3 : Int32) (k168 : Int32 → pS → Option (Int32 × pS)) : Nat → Int32 → pS → Option (Int32 × pS)
  | 0, _, _ => none
  | F + 1, v4, σ =>
    pbind (fX5_sign σ p1 (97 : Int32)) fun r11 σ12 =>
    if r11 = 0 then
      k168 v4 σ12
    else
      pbind (fX5_number σ12 p1 (0 : Int32) (11 : Int32)) fun r14 σ15 =>
      if r14 = 0 then
        some ((0 : Int32), σ15)
      else
        plet (pI σ15 0 16) fun x16 =>
        pbind (fX5_sign σ15 p1 (45 : Int32)) fun r18 σ19 =>
        if r18 = 0 then
          some ((0 : Int32), σ19)
        else
          pbind (fX5_number σ19 p1 x16 (11 : Int32)) fun r21 σ22 =>
          if r21 = 0 then
            some ((0 : Int32), σ22)
          else
            lX5_readsOne_141 σ22 p1 p2 p3
              (fun (y24 : Int32) =>
                lX5_readsOne_84 p1 p2 p3 k168 F y24 σ22)
              FU v4 x16
def fX5_readsOne (σ : pS) (a1 : Int32) : Option (Int32 × pS) :=
  if (pI σ 0 17) = (6 : Int32) then
    some ((0 : Int32), σ)
  else
    plet (sI σ 0 15 ((pI σ 0 15) + (1 : Int32))) fun σ1 =>
    (fX5_byteAt σ1 a1 (pI σ1 0 15)).bind fun r3 =>
    (fX5_kindOf r3).bind fun r5 =>
    if r5 = (-9 : Int32) then
      some ((0 : Int32), σ1)
    else
      plet (sI σ1 0 15 ((pI σ1 0 15) + (1 : Int32))) fun σ6 =>
      plet (fun (y8 : Int32) (σ9 : pS) =>
          lX5_readsOne_84 a1 r5 y8
            (fun (y25 : Int32) (σ26 : pS) =>
              plet ((4 : Int32) * (pI σ26 0 17)) fun x27 =>
              if pin x27 24 then
                plet (sI σ26 9 (x27).toNatClampNeg r5) fun σ28 =>
                if pin (x27 + (1 : Int32)) 24 then
                  plet (sI σ28 9 ((x27 + (1 : Int32))).toNatClampNeg y8) fun σ29 =>
                  if pin (x27 + (2 : Int32)) 24 then
                    plet (sI σ29 9 ((x27 + (2 : Int32))).toNatClampNeg y25) fun σ30 =>
                    if pin (x27 + (3 : Int32)) 24 then
                      plet (sI σ30 9 ((x27 + (3 : Int32))).toNatClampNeg (5 : Int32)) fun σ31 =>
                      plet (sI σ31 0 17 ((pI σ31 0 17) + (1 : Int32))) fun σ32 =>
                      some ((1 : Int32), σ32)
                    else none
                  else none
                else none
              else none)
            FU (0 : Int32) σ9
        ) fun j7 =>
      plet (
          pbind (fX5_letter σ6 a1 (-1 : Int32)) fun r35 σ36 =>
          if r35 = 0 then
            some ((0 : Int32), σ36)
          else
            plet (pI σ36 0 16) fun x37 =>
            j7 x37 σ36
        ) fun j33 =>
      if r5 = (3 : Int32) then
        j33
      else
        if r5 = (4 : Int32) then
          j33
        else
          j7 (-9 : Int32) σ6
def fX5_readsDebt (σ : pS) (a1 : Int32) : Option (Int32 × pS) :=
  if (pI σ 0 18) = (8 : Int32) then
    some ((0 : Int32), σ)
  else
    plet (sI σ 0 15 ((pI σ 0 15) + (1 : Int32))) fun σ1 =>
    pbind (fX5_letter σ1 a1 (-1 : Int32)) fun r3 σ4 =>
    if r3 = 0 then
      some ((0 : Int32), σ4)
    else
      plet (pI σ4 0 16) fun x5 =>
      pbind (fX5_letter σ4 a1 x5) fun r7 σ8 =>
      if r7 = 0 then
        some ((0 : Int32), σ8)
      else
        plet (pI σ8 0 16) fun x9 =>
        pbind (fX5_sign σ8 a1 (58 : Int32)) fun r11 σ12 =>
        if r11 = 0 then
          some ((0 : Int32), σ12)
        else
          pbind (fX5_number σ12 a1 (1 : Int32) (99 : Int32)) fun r14 σ15 =>
          if r14 = 0 then
            some ((0 : Int32), σ15)
          else
            plet (pI σ15 0 16) fun x16 =>
            pbind (fX5_sign σ15 a1 (58 : Int32)) fun r18 σ19 =>
            if r18 = 0 then
              some ((0 : Int32), σ19)
            else
              pbind (fX5_figure σ19 a1) fun r21 σ22 =>
              if r21 = 0 then
                some ((0 : Int32), σ22)
              else
                plet ((5 : Int32) * (pI σ22 0 18)) fun x23 =>
                if pin x23 40 then
                  plet (sI σ22 10 (x23).toNatClampNeg x5) fun σ24 =>
                  if pin (x23 + (1 : Int32)) 40 then
                    plet (sI σ24 10 ((x23 + (1 : Int32))).toNatClampNeg x9) fun σ25 =>
                    if pin (x23 + (2 : Int32)) 40 then
                      plet (sI σ25 10 ((x23 + (2 : Int32))).toNatClampNeg x16) fun σ26 =>
                      if pin (x23 + (3 : Int32)) 40 then
                        plet (sI σ26 10 ((x23 + (3 : Int32))).toNatClampNeg (pI σ26 0 16)) fun σ27 =>
                        if pin (x23 + (4 : Int32)) 40 then
                          plet (sI σ27 10 ((x23 + (4 : Int32))).toNatClampNeg (-9 : Int32)) fun σ28 =>
                          plet (sI σ28 0 18 ((pI σ28 0 18) + (1 : Int32))) fun σ29 =>
                          some ((1 : Int32), σ29)
                        else none
                      else none
                    else none
                  else none
                else none
def lX5_faultOf_15 (p1 : Int32) (k96 : pS → Option (Int32 × pS)) : Nat → pS → Option (Int32 × pS)
  | 0, _ => none
  | F + 1, σ =>
    if pin p1 4 then
      if (pI σ 5 (p1).toNatClampNeg) ≤ (pI σ 0 15) then
        k96 σ
      else
        (fX5_byteAt σ p1 (pI σ 0 15)).bind fun r5 =>
        if r5 = (32 : Int32) then
          plet (sI σ 0 15 ((pI σ 0 15) + (1 : Int32))) fun σ12 =>
          lX5_faultOf_15 p1 k96 F σ12
        else
          if r5 = (112 : Int32) then
            pbind (fX5_readsOne σ p1) fun r10 σ11 =>
            if r10 = 0 then
              some ((pI σ11 0 15), σ11)
            else
              lX5_faultOf_15 p1 k96 F σ11
          else
            if r5 = (100 : Int32) then
              pbind (fX5_readsDebt σ p1) fun r7 σ8 =>
              if r7 = 0 then
                some ((pI σ8 0 15), σ8)
              else
                lX5_faultOf_15 p1 k96 F σ8
            else
              some ((pI σ 0 15), σ)
    else none
def fX5_faultOf (σ : pS) (a1 : Int32) : Option (Int32 × pS) :=
  plet (sI σ 0 15 (0 : Int32)) fun σ1 =>
  plet (sI σ1 0 17 (0 : Int32)) fun σ2 =>
  plet (sI σ2 0 18 (0 : Int32)) fun σ3 =>
  lX5_faultOf_15 a1
    (fun (σ13 : pS) =>
      some ((-9 : Int32), σ13))
    FU σ3
def fX5_fault (σ : pS) (a1 : Int32) : Option (Int32 × pS) :=
  (fX5_isText a1).bind fun r2 =>
  if r2 = 0 then
    some ((-1 : Int32), σ)
  else
    if pin a1 4 then
      if 0 ≤ (pI σ 5 (a1).toNatClampNeg) then
        pbind (fX5_faultOf σ a1) fun r4 σ5 =>
        some (r4, σ5)
      else
        pbind (fX5_meets σ (1 : Int32)) fun r7 σ8 =>
        some (r7, σ8)
    else none
def lX5_village_60 (k84 : pS → Option (Int32 × pS)) : Nat → Int32 → pS → Option (Int32 × pS)
  | 0, _, _ => none
  | F + 1, v2, σ =>
    if (24 : Int32) ≤ v2 then
      k84 σ
    else
      if pin v2 24 then
        if pin v2 24 then
          plet (sI σ 7 (v2).toNatClampNeg (pI σ 9 (v2).toNatClampNeg)) fun σ9 =>
          lX5_village_60 k84 F (v2 + (1 : Int32)) σ9
        else none
      else none
def lX5_village_86 (k110 : pS → Option (Int32 × pS)) : Nat → Int32 → pS → Option (Int32 × pS)
  | 0, _, _ => none
  | F + 1, v2, σ =>
    if (40 : Int32) ≤ v2 then
      k110 σ
    else
      if pin v2 40 then
        if pin v2 40 then
          plet (sI σ 8 (v2).toNatClampNeg (pI σ 10 (v2).toNatClampNeg)) fun σ11 =>
          lX5_village_86 k110 F (v2 + (1 : Int32)) σ11
        else none
      else none
def lX5_village_112 (k130 : pS → Option (Int32 × pS)) : Nat → Int32 → pS → Option (Int32 × pS)
  | 0, _, _ => none
  | F + 1, v2, σ =>
    if (3 : Int32) ≤ v2 then
      k130 σ
    else
      if pin v2 3 then
        plet (sI σ 16 (v2).toNatClampNeg (vp_nar .boolean (0 : Int32))) fun σ13 =>
        lX5_village_112 k130 F (v2 + (1 : Int32)) σ13
      else none
def fX5_village (σ : pS) (a1 : Int32) : Option (Int32 × pS) :=
  (fX5_isText a1).bind fun r2 =>
  if r2 = 0 then
    some ((-1 : Int32), σ)
  else
    if pin a1 4 then
      if 0 ≤ (pI σ 5 (a1).toNatClampNeg) then
        pbind (fX5_faultOf σ a1) fun r4 σ5 =>
        if r4 = (-9 : Int32) then
          plet (sI σ5 0 10 (pI σ5 0 17)) fun σ6 =>
          plet (sI σ6 0 12 (pI σ6 0 18)) fun σ7 =>
          plet (sI σ7 0 14 (0 : Int32)) fun σ8 =>
          lX5_village_60 
            (fun (σ10 : pS) =>
              lX5_village_86 
                (fun (σ12 : pS) =>
                  lX5_village_112 
                    (fun (σ14 : pS) =>
                      some ((pI σ14 0 10), σ14))
                    FU (0 : Int32) σ12)
                FU (0 : Int32) σ10)
            FU (0 : Int32) σ8
        else
          some ((-4 : Int32), σ5)
      else
        pbind (fX5_meets σ (1 : Int32)) fun r16 σ17 =>
        some (r16, σ17)
    else none
def fX5_isOne (σ : pS) (a1 : Int32) : Option Int32 :=
  (fX5_in a1 (0 : Int32) ((pI σ 0 10) - (1 : Int32))).bind fun r2 =>
  if vp_nar .boolean r2 = r2 then some r2 else none
def fX5_isDebt (σ : pS) (a1 : Int32) : Option Int32 :=
  (fX5_in a1 (0 : Int32) ((pI σ 0 12) - (1 : Int32))).bind fun r2 =>
  if vp_nar .boolean r2 = r2 then some r2 else none
def fX5_isHour (a1 : Int32) : Option Int32 :=
  (fX5_in a1 (0 : Int32) (11 : Int32)).bind fun r2 =>
  if vp_nar .boolean r2 = r2 then some r2 else none
def fX5_kind (σ : pS) (a1 : Int32) : Option Int32 :=
  if pin ((4 : Int32) * a1) 24 then
    some (pI σ 7 (((4 : Int32) * a1)).toNatClampNeg)
  else none
def fX5_with (σ : pS) (a1 : Int32) : Option Int32 :=
  if pin (((4 : Int32) * a1) + (1 : Int32)) 24 then
    some (pI σ 7 ((((4 : Int32) * a1) + (1 : Int32))).toNatClampNeg)
  else none
def fX5_isOut (σ : pS) (a1 : Int32) (a2 : Int32) : Option Int32 :=
  if pin (((4 : Int32) * a1) + (2 : Int32)) 24 then
    (fX5_has (pI σ 7 ((((4 : Int32) * a1) + (2 : Int32))).toNatClampNeg) a2).bind fun r2 =>
    if vp_nar .boolean r2 = r2 then some r2 else none
  else none
def fX5_isDogIn (σ : pS) (a1 : Int32) (a2 : Int32) : Option Int32 :=
  (fX5_kind σ a1).bind fun r2 =>
  if r2 = (5 : Int32) then
    some (1 : Int32)
  else
    (fX5_kind σ a1).bind fun r4 =>
    if r4 = (1 : Int32) then
      if (a2 - a2 / (2 : Int32) * (2 : Int32)) = 0 then
        some (1 : Int32)
      else
        some (0 : Int32)
    else
      some (0 : Int32)
def fX5_isShared (σ : pS) (a1 : Int32) : Option Int32 :=
  (fX5_kind σ a1).bind fun r2 =>
  if r2 = (3 : Int32) then
    some (1 : Int32)
  else
    (fX5_kind σ a1).bind fun r4 =>
    if r4 = (4 : Int32) then
      some (1 : Int32)
    else
      some (0 : Int32)
def fX5_debtAt (σ : pS) (a1 : Int32) (a2 : Int32) : Option Int32 :=
  if pin (((5 : Int32) * a1) + a2) 40 then
    some (pI σ 8 ((((5 : Int32) * a1) + a2)).toNatClampNeg)
  else none
def fX5_one (σ : pS) (a1 : Int32) (a2 : Int32) : Option (Int32 × pS) :=
  (fX5_isOne σ a1).bind fun r2 =>
  if r2 = 0 then
    some ((-1 : Int32), σ)
  else
    (fX5_in a2 (0 : Int32) (3 : Int32)).bind fun r4 =>
    if r4 = 0 then
      some ((-1 : Int32), σ)
    else
      if pin (((4 : Int32) * a1) + a2) 24 then
        pbind (fX5_tells σ (pI σ 7 ((((4 : Int32) * a1) + a2)).toNatClampNeg) (1 : Int32)) fun r6 σ7 =>
        some (r6, σ7)
      else none
def lX5_outHours_5 (σ : pS) (p1 : Int32) (p2 : Int32) (k50 : Int32 → Option Int32) : Nat → Int32 → Int32 → Option Int32
  | 0, _, _ => none
  | F + 1, v3, v4 =>
    if (12 : Int32) ≤ v4 then
      k50 v3
    else
      (fX5_isOut σ p1 v4).bind fun r2 =>
      plet (fun (y4 : Int32) =>
          plet (v3 + y4) fun x5 =>
          lX5_outHours_5 σ p1 p2 k50 F x5 (v4 + (1 : Int32))
        ) fun j3 =>
      if r2 = 0 then
        j3 (0 : Int32)
      else
        if p2 = 0 then
          j3 (1 : Int32)
        else
          (fX5_isDogIn σ p1 v4).bind fun r7 =>
          if r7 = 0 then
            j3 (0 : Int32)
          else
            j3 (1 : Int32)
def fX5_outHours (σ : pS) (a1 : Int32) (a2 : Int32) : Option Int32 :=
  lX5_outHours_5 σ a1 a2
    (fun (y8 : Int32) =>
      some y8)
    FU (0 : Int32) (0 : Int32)
def lX5_owedTo_4 (σ : pS) (p1 : Int32) (k36 : Int32 → Option Int32) : Nat → Int32 → Int32 → Option Int32
  | 0, _, _ => none
  | F + 1, v2, v3 =>
    if (pI σ 0 12) ≤ v3 then
      k36 v2
    else
      (fX5_debtAt σ v3 (1 : Int32)).bind fun r2 =>
      plet (fun (y4 : Int32) =>
          plet (v2 + y4) fun x5 =>
          lX5_owedTo_4 σ p1 k36 F x5 (v3 + (1 : Int32))
        ) fun j3 =>
      if r2 = p1 then
        j3 (1 : Int32)
      else
        j3 (0 : Int32)
def fX5_owedTo (σ : pS) (a1 : Int32) : Option Int32 :=
  lX5_owedTo_4 σ a1
    (fun (y6 : Int32) =>
      some y6)
    FU (0 : Int32) (0 : Int32)
def fX5_mark (σ : pS) (a1 : Int32) (a2 : Int32) : Option (Int32 × pS) :=
  (fX5_isOne σ a1).bind fun r2 =>
  if r2 = 0 then
    some ((-1 : Int32), σ)
  else
    (fX5_in a2 (1 : Int32) (5 : Int32)).bind fun r4 =>
    if r4 = 0 then
      some ((-1 : Int32), σ)
    else
      (fX5_kind σ a1).bind fun r6 =>
      plet (
          if a2 = (1 : Int32) then
            (fX5_outHours σ a1 (1 : Int32)).bind fun r9 =>
            some (r9, σ)
          else
          if a2 = (2 : Int32) then
            (fX5_owedTo σ a1).bind fun r13 =>
            some (r13, σ)
          else
          if a2 = (3 : Int32) then
            (fX5_with σ a1).bind fun r17 =>
            some (r17, σ)
          else
          if a2 = (4 : Int32) then
            if pin (((4 : Int32) * a1) + (2 : Int32)) 24 then
              (fX5_with σ a1).bind fun r21 =>
              if pin (((4 : Int32) * r21) + (2 : Int32)) 24 then
                (fX5_bits ((pI σ 7 ((((4 : Int32) * a1) + (2 : Int32))).toNatClampNeg) ^^^ (pI σ 7 ((((4 : Int32) * r21) + (2 : Int32))).toNatClampNeg))).bind fun r23 =>
                some (r23, σ)
              else none
            else none
          else
          (fX5_outHours σ a1 (0 : Int32)).bind fun r27 =>
          some (r27, σ)
        ) fun j7 =>
      if r6 = a2 then
        j7
      else
        plet (
            plet (
                pbind (fX5_meets σ (3 : Int32)) fun r31 σ32 =>
                some (r31, σ32)
              ) fun j29 =>
            if a2 = (3 : Int32) then
              if r6 = (4 : Int32) then
                j7
              else
                j29
            else
              j29
          ) fun j28 =>
        if a2 = (1 : Int32) then
          if r6 = (5 : Int32) then
            j7
          else
            j28
        else
          j28
def fX5_debt (σ : pS) (a1 : Int32) (a2 : Int32) : Option (Int32 × pS) :=
  (fX5_isDebt σ a1).bind fun r2 =>
  if r2 = 0 then
    some ((-1 : Int32), σ)
  else
    (fX5_in a2 (0 : Int32) (4 : Int32)).bind fun r4 =>
    if r4 = 0 then
      some ((-1 : Int32), σ)
    else
      (fX5_debtAt σ a1 a2).bind fun r6 =>
      pbind (fX5_tells σ r6 (1 : Int32)) fun r8 σ9 =>
      some (r8, σ9)
def fX5_law (σ : pS) (a1 : Int32) : Option (Int32 × pS) :=
  (fX5_in a1 (0 : Int32) (3 : Int32)).bind fun r2 =>
  if r2 = 0 then
    some ((-1 : Int32), σ)
  else
    plet (pI σ 0 14) fun x3 =>
    plet (sI σ 0 14 a1) fun σ4 =>
    some (x3, σ4)
def fX5_cards (σ : pS) (a1 : Int32) (a2 : Int32) : Option (Int32 × pS) :=
  (fX5_isOne σ a1).bind fun r2 =>
  if r2 = 0 then
    some ((-1 : Int32), σ)
  else
    (fX5_in a2 (0 : Int32) (99 : Int32)).bind fun r4 =>
    if r4 = 0 then
      some ((-1 : Int32), σ)
    else
      if pin (((4 : Int32) * a1) + (3 : Int32)) 24 then
        plet (pI σ 7 ((((4 : Int32) * a1) + (3 : Int32))).toNatClampNeg) fun x5 =>
        if pin (((4 : Int32) * a1) + (3 : Int32)) 24 then
          plet (sI σ 7 ((((4 : Int32) * a1) + (3 : Int32))).toNatClampNeg a2) fun σ6 =>
          some (x5, σ6)
        else none
      else none
def fX5_habit (σ : pS) (a1 : Int32) (a2 : Int32) (a3 : Int32) : Option (Int32 × pS) :=
  (fX5_isOne σ a1).bind fun r2 =>
  if r2 = 0 then
    some ((-1 : Int32), σ)
  else
    (fX5_isHour a2).bind fun r4 =>
    if r4 = 0 then
      some ((-1 : Int32), σ)
    else
      (fX5_in a3 (0 : Int32) (1 : Int32)).bind fun r6 =>
      if r6 = 0 then
        some ((-1 : Int32), σ)
      else
        (fX5_isOut σ a1 a2).bind fun r8 =>
        plet (fun (y10 : Int32) =>
            if y10 = a3 then
              some (y10, σ)
            else
              if pin (((4 : Int32) * a1) + (2 : Int32)) 24 then
                if pin (((4 : Int32) * a1) + (2 : Int32)) 24 then
                  plet (sI σ 7 ((((4 : Int32) * a1) + (2 : Int32))).toNatClampNeg ((pI σ 7 ((((4 : Int32) * a1) + (2 : Int32))).toNatClampNeg) ^^^ ((1 : Int32) <<< (a2 &&& 31)))) fun σ11 =>
                  some (y10, σ11)
                else none
              else none
          ) fun j9 =>
        if r8 = 0 then
          j9 (0 : Int32)
        else
          j9 (1 : Int32)
def fX5_isBare (σ : pS) (a1 : Int32) (a2 : Int32) : Option Int32 :=
  (fX5_kind σ a1).bind fun r2 =>
  if r2 = (2 : Int32) then
    some (0 : Int32)
  else
  if r2 = (3 : Int32) then
    (fX5_isOut σ a1 a2).bind fun r6 =>
    if r6 = 0 then
      some (0 : Int32)
    else
      (fX5_with σ a1).bind fun r8 =>
      (fX5_isOut σ r8 a2).bind fun r10 =>
      if r10 = 0 then
        some (0 : Int32)
      else
        some (1 : Int32)
  else
  if r2 = (4 : Int32) then
    (fX5_isOut σ a1 a2).bind fun r14 =>
    if r14 = 0 then
      (fX5_with σ a1).bind fun r16 =>
      (fX5_isOut σ r16 a2).bind fun r18 =>
      if r18 = 0 then
        some (0 : Int32)
      else
        some (1 : Int32)
    else
      some (1 : Int32)
  else
  (fX5_isOut σ a1 a2).bind fun r22 =>
  if vp_nar .boolean r22 = r22 then some r22 else none
def fX5_isEmpty (σ : pS) (a1 : Int32) (a2 : Int32) : Option Int32 :=
  (fX5_isBare σ a1 a2).bind fun r2 =>
  if (pI σ 0 14) = (0 : Int32) then
    if vp_nar .boolean r2 = r2 then some r2 else none
  else
  if (pI σ 0 14) = (1 : Int32) then
    if r2 = 0 then
      some (0 : Int32)
    else
      (fX5_isDogIn σ a1 a2).bind fun r6 =>
      if r6 = 0 then
        some (1 : Int32)
      else
        some (0 : Int32)
  else
  if (pI σ 0 14) = (2 : Int32) then
    if r2 = 0 then
      some (0 : Int32)
    else
      if a2 < (8 : Int32) then
        some (0 : Int32)
      else
        some (1 : Int32)
  else
  if r2 = 0 then
    some (1 : Int32)
  else
    some (0 : Int32)
def lX5_empty_14 (σ : pS) (p1 : Int32) (k45 : Int32 → Option Int32) : Nat → Int32 → Int32 → Option Int32
  | 0, _, _ => none
  | F + 1, v2, v3 =>
    if (12 : Int32) ≤ v3 then
      k45 v2
    else
      (fX5_isEmpty σ p1 v3).bind fun r4 =>
      plet (fun (y6 : Int32) =>
          plet (v2 ||| y6) fun x7 =>
          lX5_empty_14 σ p1 k45 F x7 (v3 + (1 : Int32))
        ) fun j5 =>
      if r4 = 0 then
        j5 (0 : Int32)
      else
        j5 ((1 : Int32) <<< (v3 &&& 31))
def fX5_empty (σ : pS) (a1 : Int32) : Option Int32 :=
  (fX5_isOne σ a1).bind fun r2 =>
  if r2 = 0 then
    some (-1 : Int32)
  else
    lX5_empty_14 σ a1
      (fun (y8 : Int32) =>
        some y8)
      FU (0 : Int32) (0 : Int32)
def fX5_canPay (σ : pS) (a1 : Int32) (a2 : Int32) : Option Int32 :=
  (fX5_debtAt σ a1 (0 : Int32)).bind fun r2 =>
  (fX5_isOut σ r2 a2).bind fun r4 =>
  if r4 = 0 then
    some (0 : Int32)
  else
    (fX5_debtAt σ a1 (1 : Int32)).bind fun r6 =>
    (fX5_isEmpty σ r6 a2).bind fun r8 =>
    if r8 = 0 then
      some (0 : Int32)
    else
      some (1 : Int32)
def lX5_when_14 (σ : pS) (p1 : Int32) (k45 : Int32 → Option Int32) : Nat → Int32 → Int32 → Option Int32
  | 0, _, _ => none
  | F + 1, v2, v3 =>
    if (12 : Int32) ≤ v3 then
      k45 v2
    else
      (fX5_canPay σ p1 v3).bind fun r4 =>
      plet (fun (y6 : Int32) =>
          plet (v2 ||| y6) fun x7 =>
          lX5_when_14 σ p1 k45 F x7 (v3 + (1 : Int32))
        ) fun j5 =>
      if r4 = 0 then
        j5 (0 : Int32)
      else
        j5 ((1 : Int32) <<< (v3 &&& 31))
def fX5_when (σ : pS) (a1 : Int32) : Option Int32 :=
  (fX5_isDebt σ a1).bind fun r2 =>
  if r2 = 0 then
    some (-1 : Int32)
  else
    lX5_when_14 σ a1
      (fun (y8 : Int32) =>
        some y8)
      FU (0 : Int32) (0 : Int32)
def lX5_payable_4 (σ : pS) (p1 : Int32) (k37 : Int32 → Option Int32) : Nat → Int32 → Int32 → Option Int32
  | 0, _, _ => none
  | F + 1, v2, v3 =>
    if (pI σ 0 12) ≤ v3 then
      k37 v2
    else
      (fX5_canPay σ v3 p1).bind fun r2 =>
      plet (fun (y4 : Int32) =>
          plet (v2 ||| y4) fun x5 =>
          lX5_payable_4 σ p1 k37 F x5 (v3 + (1 : Int32))
        ) fun j3 =>
      if r2 = 0 then
        j3 (0 : Int32)
      else
        j3 ((1 : Int32) <<< (v3 &&& 31))
def fX5_payable (σ : pS) (a1 : Int32) : Option Int32 :=
  lX5_payable_4 σ a1
    (fun (y6 : Int32) =>
      some y6)
    FU (0 : Int32) (0 : Int32)
def lX5_fits_10 (σ : pS) (p1 : Int32) (k98 : Int32 → Option Int32) : Nat → Int32 → Int32 → Int32 → Int32 → Option Int32
  | 0, _, _, _, _ => none
  | F + 1, v2, v3, v4, v5 =>
    if (pI σ 0 12) ≤ v5 then
      k98 v4
    else
      (fX5_has p1 v5).bind fun r2 =>
      if r2 = 0 then
        lX5_fits_10 σ p1 k98 F v2 v3 v4 (v5 + (1 : Int32))
      else
        plet (fun (y4 : Int32) =>
            (fX5_debtAt σ v5 (0 : Int32)).bind fun r6 =>
            plet (v2 ||| ((1 : Int32) <<< (r6 &&& 31))) fun x7 =>
            (fX5_debtAt σ v5 (1 : Int32)).bind fun r9 =>
            plet (v3 ||| ((1 : Int32) <<< (r9 &&& 31))) fun x10 =>
            lX5_fits_10 σ p1 k98 F x7 x10 y4 (v5 + (1 : Int32))
          ) fun j3 =>
        if v4 = 0 then
          j3 (0 : Int32)
        else
          (fX5_debtAt σ v5 (0 : Int32)).bind fun r12 =>
          (fX5_has v2 r12).bind fun r14 =>
          if r14 = 0 then
            (fX5_debtAt σ v5 (1 : Int32)).bind fun r16 =>
            (fX5_has v3 r16).bind fun r18 =>
            if r18 = 0 then
              j3 (1 : Int32)
            else
              j3 (0 : Int32)
          else
            j3 (0 : Int32)
def fX5_fits (σ : pS) (a1 : Int32) : Option Int32 :=
  lX5_fits_10 σ a1
    (fun (y19 : Int32) =>
      if vp_nar .boolean y19 = y19 then some y19 else none)
    FU (0 : Int32) (0 : Int32) (1 : Int32) (0 : Int32)
def lX5_atOnce_11 (σ : pS) (p2 : Int32) (k55 : Int32 → Option Int32) : Nat → Int32 → Int32 → Option Int32
  | 0, _, _ => none
  | F + 1, v3, v4 =>
    if v4 ≤ 0 then
      k55 v3
    else
      (fX5_bits v4).bind fun r4 =>
      plet (fun (y6 : Int32) =>
          plet ((v4 - (1 : Int32)) &&& p2) fun x7 =>
          lX5_atOnce_11 σ p2 k55 F y6 x7
        ) fun j5 =>
      if r4 ≤ v3 then
        j5 v3
      else
        (fX5_fits σ v4).bind fun r9 =>
        if r9 = 0 then
          j5 v3
        else
          (fX5_bits v4).bind fun r11 =>
          j5 r11
def fX5_atOnce (σ : pS) (a1 : Int32) : Option Int32 :=
  (fX5_payable σ a1).bind fun r2 =>
  lX5_atOnce_11 σ r2
    (fun (y12 : Int32) =>
      some y12)
    FU (0 : Int32) r2
def fX5_hour (σ : pS) (a1 : Int32) : Option (Int32 × pS) :=
  (fX5_isHour a1).bind fun r2 =>
  if r2 = 0 then
    some ((-1 : Int32), σ)
  else
    (fX5_atOnce σ a1).bind fun r4 =>
    (fX5_payable σ a1).bind fun r6 =>
    pbind (fX5_tells σ r4 r6) fun r8 σ9 =>
    some (r8, σ9)
def lX5_needRound_38 (σ : pS) (p1 : Int32) (k85 : Int32 → Option (Int32 × pS)) : Nat → Int32 → Int32 → Option (Int32 × pS)
  | 0, _, _ => none
  | F + 1, v2, v3 =>
    if (pI σ 0 12) ≤ v3 then
      k85 v2
    else
      plet (
          lX5_needRound_38 σ p1 k85 F (0 : Int32) (v3 + (1 : Int32))
        ) fun j1 =>
      if v2 = 0 then
        j1
      else
        (fX5_rowAt σ p1 v3).bind fun r3 =>
        (fX5_isHour r3).bind fun r5 =>
        plet (
            lX5_needRound_38 σ p1 k85 F (1 : Int32) (v3 + (1 : Int32))
          ) fun j6 =>
        if r5 = 0 then
          (fX5_rowAt σ p1 v3).bind fun r8 =>
          if r8 = (-9 : Int32) then
            j6
          else
            j1
        else
          j6
def lX5_needRound_97 (p1 : Int32) (k123 : pS → Option (Int32 × pS)) : Nat → Int32 → pS → Option (Int32 × pS)
  | 0, _, _ => none
  | F + 1, v3, σ =>
    if (pI σ 0 12) ≤ v3 then
      k123 σ
    else
      (fX5_rowAt σ p1 v3).bind fun r11 =>
      if pin v3 8 then
        plet (sI σ 11 (v3).toNatClampNeg r11) fun σ12 =>
        lX5_needRound_97 p1 k123 F (v3 + (1 : Int32)) σ12
      else none
def fX5_needRound (σ : pS) (a1 : Int32) : Option (Int32 × pS) :=
  if pin a1 6 then
    if 0 ≤ (pI σ 2 (a1).toNatClampNeg) then
      if pin a1 6 then
        if (pI σ 2 (a1).toNatClampNeg) = (pI σ 0 12) then
          lX5_needRound_38 σ a1
            (fun (y9 : Int32) =>
              if y9 = 0 then
                pbind (fX5_meets σ (3 : Int32)) fun r15 σ16 =>
                some (r15, σ16)
              else
                lX5_needRound_97 a1
                  (fun (σ13 : pS) =>
                    some ((0 : Int32), σ13))
                  FU (0 : Int32) σ)
            FU (1 : Int32) (0 : Int32)
        else
          pbind (fX5_meets σ (5 : Int32)) fun r18 σ19 =>
          some (r18, σ19)
      else none
    else
      pbind (fX5_meets σ (1 : Int32)) fun r21 σ22 =>
      some (r21, σ22)
  else none
def lX5_amiss_49 (σ : pS) (p1 : Int32) (k145 : Int32 → Int32 → Option (Int32 × pS)) : Nat → Int32 → Int32 → Int32 → Option (Int32 × pS)
  | 0, _, _, _ => none
  | F + 1, v2, v3, v4 =>
    if p1 ≤ v4 then
      k145 v2 v3
    else
      plet (fun (y5 : Int32) =>
          plet (
              lX5_amiss_49 σ p1 k145 F y5 (1 : Int32) (v4 + (1 : Int32))
            ) fun j6 =>
          if v3 = 0 then
            if pin v4 8 then
              if pin p1 8 then
                plet (
                    lX5_amiss_49 σ p1 k145 F y5 (0 : Int32) (v4 + (1 : Int32))
                  ) fun j7 =>
                if (pI σ 11 (v4).toNatClampNeg) = (pI σ 11 (p1).toNatClampNeg) then
                  (fX5_debtAt σ v4 (1 : Int32)).bind fun r9 =>
                  (fX5_debtAt σ p1 (1 : Int32)).bind fun r11 =>
                  if r9 = r11 then
                    j6
                  else
                    j7
                else
                  j7
              else none
            else none
          else
            j6
        ) fun j4 =>
      if v2 = 0 then
        if pin v4 8 then
          if pin p1 8 then
            if (pI σ 11 (v4).toNatClampNeg) = (pI σ 11 (p1).toNatClampNeg) then
              (fX5_debtAt σ v4 (0 : Int32)).bind fun r13 =>
              (fX5_debtAt σ p1 (0 : Int32)).bind fun r15 =>
              if r13 = r15 then
                j4 (1 : Int32)
              else
                j4 (0 : Int32)
            else
              j4 (0 : Int32)
          else none
        else none
      else
        j4 (1 : Int32)
def lX5_amiss_2 (k169 : pS → Option (Int32 × pS)) : Nat → Int32 → pS → Option (Int32 × pS)
  | 0, _, _ => none
  | F + 1, v1, σ =>
    if (pI σ 0 12) ≤ v1 then
      k169 σ
    else
      plet (sI σ 0 22 v1) fun σ1 =>
      if pin v1 8 then
        if (pI σ1 11 (v1).toNatClampNeg) = (-9 : Int32) then
          lX5_amiss_2 k169 F (v1 + (1 : Int32)) σ1
        else
          if pin v1 8 then
            (fX5_canPay σ1 v1 (pI σ1 11 (v1).toNatClampNeg)).bind fun r3 =>
            if r3 = 0 then
              some ((1 : Int32), σ1)
            else
              lX5_amiss_49 σ1 v1
                (fun (y16 : Int32) (y17 : Int32) =>
                  plet (
                      if y16 = 0 then
                        some ((3 : Int32), σ1)
                      else
                        some ((2 : Int32), σ1)
                    ) fun j18 =>
                  if y16 = 0 then
                    if y17 = 0 then
                      lX5_amiss_2 k169 F (v1 + (1 : Int32)) σ1
                    else
                      j18
                  else
                    j18)
                FU (0 : Int32) (0 : Int32) (0 : Int32)
          else none
      else none
def fX5_amiss (σ : pS) : Option (Int32 × pS) :=
  lX5_amiss_2 
    (fun (σ19 : pS) =>
      plet (sI σ19 0 22 (0 : Int32)) fun σ20 =>
      some ((0 : Int32), σ20))
    FU (0 : Int32) σ
def fX5_judge (σ : pS) (a1 : Int32) : Option (Int32 × pS) :=
  (fX5_isRow a1).bind fun r2 =>
  if r2 = 0 then
    some ((-1 : Int32), σ)
  else
    pbind (fX5_needRound σ a1) fun r4 σ5 =>
    if 0 ≤ r4 then
      pbind (fX5_amiss σ5) fun r7 σ8 =>
      pbind (fX5_tells σ8 (pI σ8 0 22) r7) fun r10 σ11 =>
      some (r10, σ11)
    else
      some (r4, σ5)
def fX5_costOf (σ : pS) (a1 : Int32) (a2 : Int32) : Option Int32 :=
  (fX5_debtAt σ a1 (2 : Int32)).bind fun r2 =>
  (fX5_debtAt σ a1 (3 : Int32)).bind fun r4 =>
  some (r2 + (a2 * r4))
def lX5_worth_42 (σ : pS) (k123 : Int32 → Int32 → Option (Int32 × pS)) : Nat → Int32 → Int32 → Int32 → Option (Int32 × pS)
  | 0, _, _, _ => none
  | F + 1, v3, v4, v5 =>
    if (pI σ 0 12) ≤ v5 then
      k123 v3 v4
    else
      if pin v5 8 then
        plet (fun (y10 : Int32) =>
            (fX5_costOf σ v5 y10).bind fun r12 =>
            plet (v3 + r12) fun x13 =>
            if pin v5 8 then
              if (pI σ 11 (v5).toNatClampNeg) = (-9 : Int32) then
                lX5_worth_42 σ k123 F x13 v4 (v5 + (1 : Int32))
              else
                if pin v5 8 then
                  (fX5_greater v4 ((pI σ 11 (v5).toNatClampNeg) + (1 : Int32))).bind fun r15 =>
                  lX5_worth_42 σ k123 F x13 r15 (v5 + (1 : Int32))
                else none
            else none
          ) fun j9 =>
        if (pI σ 11 (v5).toNatClampNeg) = (-9 : Int32) then
          j9 (12 : Int32)
        else
          if pin v5 8 then
            j9 (pI σ 11 (v5).toNatClampNeg)
          else none
      else none
def fX5_worth (σ : pS) (a1 : Int32) : Option (Int32 × pS) :=
  (fX5_isRow a1).bind fun r2 =>
  if r2 = 0 then
    some ((-1 : Int32), σ)
  else
    pbind (fX5_needRound σ a1) fun r4 σ5 =>
    if 0 ≤ r4 then
      pbind (fX5_amiss σ5) fun r7 σ8 =>
      if r7 = 0 then
        lX5_worth_42 σ8
          (fun (y16 : Int32) (y17 : Int32) =>
            pbind (fX5_tells σ8 y17 y16) fun r19 σ20 =>
            some (r19, σ20))
          FU (0 : Int32) (0 : Int32) (0 : Int32)
      else
        pbind (fX5_meets σ8 (3 : Int32)) fun r22 σ23 =>
        some (r22, σ23)
    else
      some (r4, σ5)
def fX5_spot (a1 : Int32) (a2 : Int32) : Option Int32 :=
  some (((256 : Int32) * a1) + a2)
def fX5_allDebts (σ : pS) : Option Int32 :=
  some (((1 : Int32) <<< ((pI σ 0 12) &&& 31)) - (1 : Int32))
def lX5_layMay_8 (p2 : Int32) (k49 : pS → Option (Unit × pS)) : Nat → Int32 → pS → Option (Unit × pS)
  | 0, _, _ => none
  | F + 1, v3, σ =>
    (fX5_allDebts σ).bind fun r4 =>
    if r4 < v3 then
      k49 σ
    else
      plet (
          if pin v3 256 then
            plet (sI σ 14 (v3).toNatClampNeg (vp_nar .boolean (0 : Int32))) fun σ6 =>
            lX5_layMay_8 p2 k49 F (v3 + (1 : Int32)) σ6
          else none
        ) fun j5 =>
      if (v3 &&& (p2 ^^^ (-1 : Int32))) = 0 then
        (fX5_fits σ v3).bind fun r8 =>
        if r8 = 0 then
          j5
        else
          if pin v3 256 then
            plet (sI σ 14 (v3).toNatClampNeg (vp_nar .boolean (1 : Int32))) fun σ9 =>
            lX5_layMay_8 p2 k49 F (v3 + (1 : Int32)) σ9
          else none
      else
        j5
def fX5_layMay (σ : pS) (a1 : Int32) : Option (Unit × pS) :=
  (fX5_payable σ a1).bind fun r2 =>
  lX5_layMay_8 r2
    (fun (σ10 : pS) =>
      some ((), σ10))
    FU (0 : Int32) σ
def lX5_gain_5 (σ : pS) (p1 : Int32) (p2 : Int32) (k47 : Int32 → Option Int32) : Nat → Int32 → Int32 → Option Int32
  | 0, _, _ => none
  | F + 1, v3, v4 =>
    if (pI σ 0 12) ≤ v4 then
      k47 v3
    else
      (fX5_has p1 v4).bind fun r2 =>
      plet (fun (y4 : Int32) =>
          plet (v3 + y4) fun x5 =>
          lX5_gain_5 σ p1 p2 k47 F x5 (v4 + (1 : Int32))
        ) fun j3 =>
      if r2 = 0 then
        j3 (0 : Int32)
      else
        (fX5_costOf σ v4 p2).bind fun r7 =>
        j3 ((10000 : Int32) - r7)
def fX5_gain (σ : pS) (a1 : Int32) (a2 : Int32) : Option Int32 :=
  lX5_gain_5 σ a1 a2
    (fun (y8 : Int32) =>
      some y8)
    FU (0 : Int32) (0 : Int32)
def lX5_layBest_18 (σ : pS) (p1 : Int32) (p2 : Int32) (p3 : Int32) (k130 : Int32 → Int64 → Option (Unit × pS)) : Nat → Int32 → Int64 → Int32 → Option (Unit × pS)
  | 0, _, _, _ => none
  | F + 1, v4, v5, v7 =>
    if v7 < 0 then
      k130 v4 v5
    else
      if pin v7 256 then
        plet (fun (y5 : Int32) (y6 : Int64) =>
            if v7 = 0 then
              lX5_layBest_18 σ p1 p2 p3 k130 F y5 y6 (-1 : Int32)
            else
              plet ((v7 - (1 : Int32)) &&& p3) fun x7 =>
              lX5_layBest_18 σ p1 p2 p3 k130 F y5 y6 x7
          ) fun j4 =>
        if (pI σ 14 (v7).toNatClampNeg) = 0 then
          j4 v4 v5
        else
          (fX5_gain σ v7 p1).bind fun r9 =>
          (fX5_spot (p1 + (1 : Int32)) (p2 ||| v7)).bind fun r11 =>
          if pin r11 3328 then
            plet (r9 + (pI σ 12 (r11).toNatClampNeg)) fun x12 =>
            plet (fun (y14 : Int32) (y15 : Int64) =>
                if x12 = y14 then
                  (fX5_spot (p1 + (1 : Int32)) (p2 ||| v7)).bind fun r18 =>
                  if pin r18 3328 then
                    plet (y15 + (pL σ 13 (r18).toNatClampNeg)) fun x19 =>
                    j4 y14 x19
                  else none
                else
                  plet (y15 + (0 : Int64)) fun x16 =>
                  j4 y14 x16
              ) fun j13 =>
            plet (
                j13 x12 (0 : Int64)
              ) fun j20 =>
            if (lg_cmp v5 (0 : Int64)) = 0 then
              j20
            else
              if x12 ≤ v4 then
                j13 v4 v5
              else
                j20
          else none
      else none
def fX5_layBest (σ : pS) (a1 : Int32) (a2 : Int32) : Option (Unit × pS) :=
  (fX5_allDebts σ).bind fun r2 =>
  plet (r2 &&& (a2 ^^^ (-1 : Int32))) fun x3 =>
  lX5_layBest_18 σ a1 a2 x3
    (fun (y21 : Int32) (y22 : Int64) =>
      (fX5_spot a1 a2).bind fun r24 =>
      if pin r24 3328 then
        plet (sI σ 12 (r24).toNatClampNeg y21) fun σ25 =>
        (fX5_spot a1 a2).bind fun r27 =>
        if pin r27 3328 then
          plet (sL σ25 13 (r27).toNatClampNeg y22) fun σ28 =>
          some ((), σ28)
        else none
      else none)
    FU (0 : Int32) (0 : Int64) x3
def lX5_layRounds_15 (σ : pS) (p1 : Int32) (p2 : Int32) (k54 : Int32 → Option (Unit × pS)) : Nat → Int32 → Int32 → Option (Unit × pS)
  | 0, _, _ => none
  | F + 1, v3, v4 =>
    if (pI σ 0 12) ≤ v4 then
      k54 v3
    else
      (fX5_has p2 v4).bind fun r4 =>
      plet (fun (y6 : Int32) =>
          plet (v3 + y6) fun x7 =>
          lX5_layRounds_15 σ p1 p2 k54 F x7 (v4 + (1 : Int32))
        ) fun j5 =>
      if r4 = 0 then
        (fX5_costOf σ v4 (12 : Int32)).bind fun r9 =>
        j5 r9
      else
        j5 (0 : Int32)
def lX5_layRounds_2 (p1 : Int32) (k83 : pS → Option (Unit × pS)) : Nat → Int32 → pS → Option (Unit × pS)
  | 0, _, _ => none
  | F + 1, v2, σ =>
    (fX5_allDebts σ).bind fun r2 =>
    if r2 < v2 then
      k83 σ
    else
      lX5_layRounds_15 σ p1 v2
        (fun (y10 : Int32) =>
          (fX5_spot p1 v2).bind fun r12 =>
          if pin r12 3328 then
            plet (sI σ 12 (r12).toNatClampNeg (-y10)) fun σ13 =>
            (fX5_spot p1 v2).bind fun r15 =>
            if pin r15 3328 then
              plet (sL σ13 13 (r15).toNatClampNeg (1 : Int64)) fun σ16 =>
              lX5_layRounds_2 p1 k83 F (v2 + (1 : Int32)) σ16
            else none
          else none)
        FU (0 : Int32) (0 : Int32)
def lX5_layRounds_98 (p2 : Int32) (k118 : pS → Option (Unit × pS)) : Nat → Int32 → pS → Option (Unit × pS)
  | 0, _, _ => none
  | F + 1, v3, σ =>
    (fX5_allDebts σ).bind fun r23 =>
    if r23 < v3 then
      k118 σ
    else
      pbind (fX5_layBest σ p2 v3) fun _ σ26 =>
      lX5_layRounds_98 p2 k118 F (v3 + (1 : Int32)) σ26
def lX5_layRounds_87 (k124 : pS → Option (Unit × pS)) : Nat → Int32 → pS → Option (Unit × pS)
  | 0, _, _ => none
  | F + 1, v2, σ =>
    if v2 < 0 then
      k124 σ
    else
      pbind (fX5_layMay σ v2) fun _ σ21 =>
      lX5_layRounds_98 v2
        (fun (σ27 : pS) =>
          lX5_layRounds_87 k124 F (v2 + (-1 : Int32)) σ27)
        FU (0 : Int32) σ21
def fX5_layRounds (σ : pS) (a1 : Int32) : Option (Unit × pS) :=
  lX5_layRounds_2 a1
    (fun (σ17 : pS) =>
      plet (a1 - (1 : Int32)) fun x18 =>
      lX5_layRounds_87 
        (fun (σ28 : pS) =>
          some ((), σ28))
        FU x18 σ17)
    FU (0 : Int32) σ
def fX5_paidMany (σ : pS) : Option Int32 :=
  if pin (0 : Int32) 3328 then
    plet (pI σ 12 ((0 : Int32)).toNatClampNeg) fun x1 =>
    if 0 < x1 then
      some (((x1 + (10000 : Int32)) - (1 : Int32)) / (10000 : Int32))
    else
      some (0 : Int32)
  else none
def fX5_bestCost (σ : pS) : Option Int32 :=
  (fX5_paidMany σ).bind fun r2 =>
  if pin (0 : Int32) 3328 then
    some (((10000 : Int32) * r2) - (pI σ 12 ((0 : Int32)).toNatClampNeg))
  else none
def lX5_layRound_8 (k30 : pS → Option (Unit × pS)) : Nat → Int32 → pS → Option (Unit × pS)
  | 0, _, _ => none
  | F + 1, v1, σ =>
    if (pI σ 0 12) ≤ v1 then
      k30 σ
    else
      if pin v1 8 then
        plet (sI σ 11 (v1).toNatClampNeg (-9 : Int32)) fun σ4 =>
        lX5_layRound_8 k30 F (v1 + (1 : Int32)) σ4
      else none
def lX5_layRound_47 (σ : pS) (p1 : Int32) (p2 : Int32) (k102 : Int32 → Option (Unit × pS)) : Nat → Int32 → Option (Unit × pS)
  | 0, _ => none
  | F + 1, v3 =>
    if (v3 &&& p1) = 0 then
      if pin v3 256 then
        if (pI σ 14 (v3).toNatClampNeg) = 0 then
          lX5_layRound_47 σ p1 p2 k102 F (v3 + (1 : Int32))
        else
          (fX5_gain σ v3 p2).bind fun r10 =>
          (fX5_spot (p2 + (1 : Int32)) (p1 ||| v3)).bind fun r12 =>
          if pin r12 3328 then
            (fX5_spot p2 p1).bind fun r14 =>
            if pin r14 3328 then
              if (r10 + (pI σ 12 (r12).toNatClampNeg)) = (pI σ 12 (r14).toNatClampNeg) then
                k102 v3
              else
                lX5_layRound_47 σ p1 p2 k102 F (v3 + (1 : Int32))
            else none
          else none
      else none
    else
      lX5_layRound_47 σ p1 p2 k102 F (v3 + (1 : Int32))
def lX5_layRound_105 (p1 : Int32) (p2 : Int32) (p3 : Int32) (k147 : pS → Option (Unit × pS)) : Nat → Int32 → pS → Option (Unit × pS)
  | 0, _, _ => none
  | F + 1, v4, σ =>
    if (pI σ 0 12) ≤ v4 then
      k147 σ
    else
      (fX5_has p3 v4).bind fun r17 =>
      if r17 = 0 then
        if pin v4 8 then
          if pin v4 8 then
            plet (sI σ 11 (v4).toNatClampNeg (pI σ 11 (v4).toNatClampNeg)) fun σ18 =>
            lX5_layRound_105 p1 p2 p3 k147 F (v4 + (1 : Int32)) σ18
          else none
        else none
      else
        if pin v4 8 then
          plet (sI σ 11 (v4).toNatClampNeg p2) fun σ19 =>
          lX5_layRound_105 p1 p2 p3 k147 F (v4 + (1 : Int32)) σ19
        else none
def lX5_layRound_34 (k157 : pS → Option (Unit × pS)) : Nat → Int32 → Int32 → pS → Option (Unit × pS)
  | 0, _, _, _ => none
  | F + 1, v1, v2, σ =>
    if (12 : Int32) ≤ v2 then
      k157 σ
    else
      pbind (fX5_layMay σ v2) fun _ σ8 =>
      lX5_layRound_47 σ8 v1 v2
        (fun (y15 : Int32) =>
          lX5_layRound_105 v1 v2 y15
            (fun (σ20 : pS) =>
              plet (v1 ||| y15) fun x21 =>
              lX5_layRound_34 k157 F x21 (v2 + (1 : Int32)) σ20)
            FU (0 : Int32) σ8)
        FU (0 : Int32)
def fX5_layRound (σ : pS) : Option (Unit × pS) :=
  pbind (fX5_layRounds σ (12 : Int32)) fun _ σ3 =>
  lX5_layRound_8 
    (fun (σ5 : pS) =>
      lX5_layRound_34 
        (fun (σ22 : pS) =>
          some ((), σ22))
        FU (0 : Int32) (0 : Int32) σ5)
    FU (0 : Int32) σ3
def lX5_best_25 (p1 : Int32) (k66 : pS → Option (Int32 × pS)) : Nat → Int32 → pS → Option (Int32 × pS)
  | 0, _, _ => none
  | F + 1, v2, σ =>
    if (60 : Int32) ≤ v2 then
      k66 σ
    else
      if (pI σ 0 12) ≤ v2 then
        if pin (((60 : Int32) * p1) + v2) 360 then
          plet (sI σ 3 ((((60 : Int32) * p1) + v2)).toNatClampNeg (0 : Int32)) fun σ7 =>
          lX5_best_25 p1 k66 F (v2 + (1 : Int32)) σ7
        else none
      else
        if pin v2 8 then
          if pin (((60 : Int32) * p1) + v2) 360 then
            plet (sI σ 3 ((((60 : Int32) * p1) + v2)).toNatClampNeg (pI σ 11 (v2).toNatClampNeg)) fun σ8 =>
            lX5_best_25 p1 k66 F (v2 + (1 : Int32)) σ8
          else none
        else none
def fX5_best (σ : pS) (a1 : Int32) : Option (Int32 × pS) :=
  (fX5_isRow a1).bind fun r2 =>
  if r2 = 0 then
    some ((-1 : Int32), σ)
  else
    pbind (fX5_layRound σ) fun _ σ5 =>
    if pin a1 6 then
      plet (sI σ5 2 (a1).toNatClampNeg (pI σ5 0 12)) fun σ6 =>
      lX5_best_25 a1
        (fun (σ9 : pS) =>
          (fX5_bestCost σ9).bind fun r11 =>
          (fX5_paidMany σ9).bind fun r13 =>
          pbind (fX5_tells σ9 r11 r13) fun r15 σ16 =>
          some (r15, σ16))
        FU (0 : Int32) σ6
    else none
def fX5_ways (σ : pS) : Option (Int32 × pS) :=
  pbind (fX5_layRounds σ (12 : Int32)) fun _ σ3 =>
  if pin (0 : Int32) 3328 then
    plet (sL σ3 0 3 (pL σ3 13 ((0 : Int32)).toNatClampNeg)) fun σ4 =>
    plet (sL σ4 0 4 (1 : Int64)) fun σ5 =>
    some ((1 : Int32), σ5)
  else none
def lX5_soonest_13 (p1 : Int32) (k48 : pS → Option (Int32 × pS)) : Nat → Int32 → pS → Option (Int32 × pS)
  | 0, _, _ => none
  | F + 1, v2, σ =>
    if (12 : Int32) ≤ v2 then
      k48 σ
    else
      pbind (fX5_layRounds σ v2) fun _ σ8 =>
      (fX5_paidMany σ8).bind fun r10 =>
      if r10 = p1 then
        (fX5_bestCost σ8).bind fun r12 =>
        pbind (fX5_tells σ8 r12 v2) fun r14 σ15 =>
        some (r14, σ15)
      else
        lX5_soonest_13 p1 k48 F (v2 + (1 : Int32)) σ8
def fX5_soonest (σ : pS) : Option (Int32 × pS) :=
  pbind (fX5_layRounds σ (12 : Int32)) fun _ σ3 =>
  (fX5_paidMany σ3).bind fun r5 =>
  lX5_soonest_13 r5
    (fun (σ16 : pS) =>
      pbind (fX5_layRounds σ16 (12 : Int32)) fun _ σ19 =>
      (fX5_bestCost σ19).bind fun r21 =>
      pbind (fX5_tells σ19 r21 (12 : Int32)) fun r23 σ24 =>
      some (r23, σ24))
    FU (0 : Int32) σ3
def lX5_ringOf_26 (σ : pS) (p1 : Int32) (p2 : Int32) (p3 : Int32) (p4 : Int32) (k73 : Int32 → Option Int32) : Nat → Int32 → Int32 → Option Int32
  | 0, _, _ => none
  | F + 1, v5, v6 =>
    if (pI σ 0 12) ≤ v6 then
      k73 v5
    else
      (fX5_debtAt σ v6 (0 : Int32)).bind fun r4 =>
      (fX5_has p3 r4).bind fun r6 =>
      plet (fun (y8 : Int32) =>
          plet (v5 ||| y8) fun x9 =>
          lX5_ringOf_26 σ p1 p2 p3 p4 k73 F x9 (v6 + (1 : Int32))
        ) fun j7 =>
      if r6 = 0 then
        j7 (0 : Int32)
      else
        (fX5_debtAt σ v6 (1 : Int32)).bind fun r11 =>
        j7 ((1 : Int32) <<< (r11 &&& 31))
def lX5_ringOf_11 (σ : pS) (p1 : Int32) (k103 : Option Int32) : Nat → Int32 → Int32 → Int32 → Option Int32
  | 0, _, _, _ => none
  | F + 1, v2, v3, v4 =>
    if (pI σ 0 10) < v4 then
      k103
    else
      lX5_ringOf_26 σ p1 v2 v3 v4
        (fun (y12 : Int32) =>
          (fX5_has y12 p1).bind fun r14 =>
          if r14 = 0 then
            plet (y12 &&& (v2 ^^^ (-1 : Int32))) fun x15 =>
            plet (v2 ||| y12) fun x16 =>
            lX5_ringOf_11 σ p1 k103 F x16 x15 (v4 + (1 : Int32))
          else
            some v4)
        FU (0 : Int32) (0 : Int32)
def fX5_ringOf (σ : pS) (a1 : Int32) : Option Int32 :=
  plet ((1 : Int32) <<< (a1 &&& 31)) fun x1 =>
  plet ((1 : Int32) <<< (a1 &&& 31)) fun x2 =>
  lX5_ringOf_11 σ a1
    (
      some (0 : Int32))
    FU x1 x2 (1 : Int32)
def lX5_rings_6 (σ : pS) (k64 : Int32 → Int32 → Option (Int32 × pS)) : Nat → Int32 → Int32 → Int32 → Option (Int32 × pS)
  | 0, _, _, _ => none
  | F + 1, v1, v2, v3 =>
    if (pI σ 0 10) ≤ v3 then
      k64 v1 v2
    else
      (fX5_ringOf σ v3).bind fun r2 =>
      plet (fun (y4 : Int32) =>
          plet (v1 ||| y4) fun x5 =>
          plet (
              lX5_rings_6 σ k64 F x5 v2 (v3 + (1 : Int32))
            ) fun j6 =>
          if r2 ≤ 0 then
            j6
          else
            plet (
                lX5_rings_6 σ k64 F x5 r2 (v3 + (1 : Int32))
              ) fun j7 =>
            if v2 = 0 then
              j7
            else
              if v2 ≤ r2 then
                j6
              else
                j7
        ) fun j3 =>
      if r2 ≤ 0 then
        j3 (0 : Int32)
      else
        j3 ((1 : Int32) <<< (v3 &&& 31))
def fX5_rings (σ : pS) : Option (Int32 × pS) :=
  lX5_rings_6 σ
    (fun (y8 : Int32) (y9 : Int32) =>
      pbind (fX5_tells σ y9 y8) fun r11 σ12 =>
      some (r11, σ12))
    FU (0 : Int32) (0 : Int32) (0 : Int32)
def lX5_keepHabits_2 (k32 : pS → Option (Unit × pS)) : Nat → Int32 → pS → Option (Unit × pS)
  | 0, _, _ => none
  | F + 1, v1, σ =>
    if (pI σ 0 10) ≤ v1 then
      k32 σ
    else
      if pin (((4 : Int32) * v1) + (2 : Int32)) 24 then
        if pin v1 6 then
          plet (sI σ 15 (v1).toNatClampNeg (pI σ 7 ((((4 : Int32) * v1) + (2 : Int32))).toNatClampNeg)) fun σ1 =>
          lX5_keepHabits_2 k32 F (v1 + (1 : Int32)) σ1
        else none
      else none
def fX5_keepHabits (σ : pS) : Option (Unit × pS) :=
  lX5_keepHabits_2 
    (fun (σ2 : pS) =>
      some ((), σ2))
    FU (0 : Int32) σ
def lX5_backHabits_2 (k32 : pS → Option (Unit × pS)) : Nat → Int32 → pS → Option (Unit × pS)
  | 0, _, _ => none
  | F + 1, v1, σ =>
    if (pI σ 0 10) ≤ v1 then
      k32 σ
    else
      if pin v1 6 then
        if pin (((4 : Int32) * v1) + (2 : Int32)) 24 then
          plet (sI σ 7 ((((4 : Int32) * v1) + (2 : Int32))).toNatClampNeg (pI σ 15 (v1).toNatClampNeg)) fun σ1 =>
          lX5_backHabits_2 k32 F (v1 + (1 : Int32)) σ1
        else none
      else none
def fX5_backHabits (σ : pS) : Option (Unit × pS) :=
  lX5_backHabits_2 
    (fun (σ2 : pS) =>
      some ((), σ2))
    FU (0 : Int32) σ
def lX5_few_28 (σ : pS) (p1 : Int32) (p2 : Int32) (k64 : Int32 → Option (Int32 × pS)) : Nat → Int32 → Int32 → Option (Int32 × pS)
  | 0, _, _ => none
  | F + 1, v3, v4 =>
    if (pI σ 0 10) ≤ v4 then
      k64 v3
    else
      (fX5_isOut σ v4 p1).bind fun r9 =>
      plet (fun (y11 : Int32) =>
          plet (v3 ||| y11) fun x12 =>
          lX5_few_28 σ p1 p2 k64 F x12 (v4 + (1 : Int32))
        ) fun j10 =>
      if r9 = 0 then
        j10 ((1 : Int32) <<< (v4 &&& 31))
      else
        j10 (0 : Int32)
def lX5_few_114 (p1 : Int32) (p2 : Int32) (p3 : Int32) (p4 : Int32) (p5 : Int32) (k160 : pS → Option (Int32 × pS)) : Nat → Int32 → pS → Option (Int32 × pS)
  | 0, _, _ => none
  | F + 1, v6, σ =>
    if (pI σ 0 10) ≤ v6 then
      k160 σ
    else
      if pin (((4 : Int32) * v6) + (2 : Int32)) 24 then
        (fX5_has p5 v6).bind fun r16 =>
        plet (fun (y18 : Int32) =>
            if pin (((4 : Int32) * v6) + (2 : Int32)) 24 then
              plet (sI σ 7 ((((4 : Int32) * v6) + (2 : Int32))).toNatClampNeg ((pI σ 7 ((((4 : Int32) * v6) + (2 : Int32))).toNatClampNeg) ||| y18)) fun σ19 =>
              lX5_few_114 p1 p2 p3 p4 p5 k160 F (v6 + (1 : Int32)) σ19
            else none
          ) fun j17 =>
        if r16 = 0 then
          j17 (0 : Int32)
        else
          j17 ((1 : Int32) <<< (p1 &&& 31))
      else none
def lX5_few_71 (p1 : Int32) (p2 : Int32) (p3 : Int32) (k188 : Int32 → pS → Option (Int32 × pS)) : Nat → Int32 → Int32 → pS → Option (Int32 × pS)
  | 0, _, _, _ => none
  | F + 1, v4, v5, σ =>
    if ((1 : Int32) <<< ((pI σ 0 10) &&& 31)) ≤ v5 then
      k188 v4 σ
    else
      if (v5 &&& (p3 ^^^ (-1 : Int32))) = 0 then
        plet (
            lX5_few_114 p1 p2 p3 v4 v5
              (fun (σ20 : pS) =>
                (fX5_atOnce σ20 p1).bind fun r22 =>
                plet (fun (y24 : Int32) =>
                    pbind (fX5_backHabits σ20) fun _ σ27 =>
                    lX5_few_71 p1 p2 p3 k188 F y24 (v5 + (1 : Int32)) σ27
                  ) fun j23 =>
                if r22 < p2 then
                  j23 v4
                else
                  j23 v5)
              FU (0 : Int32) σ
          ) fun j14 =>
        if v4 = (-9 : Int32) then
          j14
        else
          (fX5_bits v5).bind fun r29 =>
          (fX5_bits v4).bind fun r31 =>
          if r31 ≤ r29 then
            lX5_few_71 p1 p2 p3 k188 F v4 (v5 + (1 : Int32)) σ
          else
            j14
      else
        lX5_few_71 p1 p2 p3 k188 F v4 (v5 + (1 : Int32)) σ
def fX5_few (σ : pS) (a1 : Int32) (a2 : Int32) : Option (Int32 × pS) :=
  (fX5_isHour a1).bind fun r2 =>
  if r2 = 0 then
    some ((-1 : Int32), σ)
  else
    (fX5_in a2 (1 : Int32) (8 : Int32)).bind fun r4 =>
    if r4 = 0 then
      some ((-1 : Int32), σ)
    else
      pbind (fX5_keepHabits σ) fun _ σ7 =>
      lX5_few_28 σ7 a1 a2
        (fun (y13 : Int32) =>
          lX5_few_71 a1 a2 y13
            (fun (y32 : Int32) (σ33 : pS) =>
              if y32 = (-9 : Int32) then
                some ((-9 : Int32), σ33)
              else
                (fX5_bits y32).bind fun r35 =>
                pbind (fX5_tells σ33 y32 r35) fun r37 σ38 =>
                some (r37, σ38))
            FU (-9 : Int32) (0 : Int32) σ7)
        FU (0 : Int32) (0 : Int32)
def lX5_call_34 (p1 : Int32) (p5 : Int32) (k165 : Int32 → Int32 → Int32 → pS → Option (Int32 × pS)) : Nat → Int32 → Int32 → Int32 → Int32 → pS → Option (Int32 × pS)
  | 0, _, _, _, _, _ => none
  | F + 1, v2, v3, v4, v6, σ =>
    if (12 : Int32) ≤ v6 then
      k165 v2 v3 v4 σ
    else
      (fX5_isOut σ p5 v6).bind fun r7 =>
      if r7 = 0 then
        if pin (((4 : Int32) * p5) + (2 : Int32)) 24 then
          if pin (((4 : Int32) * p5) + (2 : Int32)) 24 then
            plet (sI σ 7 ((((4 : Int32) * p5) + (2 : Int32))).toNatClampNeg ((pI σ 7 ((((4 : Int32) * p5) + (2 : Int32))).toNatClampNeg) ^^^ ((1 : Int32) <<< (v6 &&& 31)))) fun σ8 =>
            pbind (fX5_layRounds σ8 (12 : Int32)) fun _ σ11 =>
            if pin (((4 : Int32) * p5) + (2 : Int32)) 24 then
              if pin (((4 : Int32) * p5) + (2 : Int32)) 24 then
                plet (sI σ11 7 ((((4 : Int32) * p5) + (2 : Int32))).toNatClampNeg ((pI σ11 7 ((((4 : Int32) * p5) + (2 : Int32))).toNatClampNeg) ^^^ ((1 : Int32) <<< (v6 &&& 31)))) fun σ12 =>
                (fX5_paidMany σ12).bind fun r14 =>
                (fX5_bestCost σ12).bind fun r16 =>
                if pin (((4 : Int32) * p5) + (3 : Int32)) 24 then
                  plet (r16 + (pI σ12 7 ((((4 : Int32) * p5) + (3 : Int32))).toNatClampNeg)) fun x17 =>
                  plet (
                      plet (((100 : Int32) * p5) + v6) fun x19 =>
                      lX5_call_34 p1 p5 k165 F x19 r14 x17 (v6 + (1 : Int32)) σ12
                    ) fun j18 =>
                  if v2 = (-9 : Int32) then
                    j18
                  else
                    if v3 < r14 then
                      j18
                    else
                      if r14 = v3 then
                        if v4 ≤ x17 then
                          lX5_call_34 p1 p5 k165 F v2 v3 v4 (v6 + (1 : Int32)) σ12
                        else
                          j18
                      else
                        lX5_call_34 p1 p5 k165 F v2 v3 v4 (v6 + (1 : Int32)) σ12
                else none
              else none
            else none
          else none
        else none
      else
        lX5_call_34 p1 p5 k165 F v2 v3 v4 (v6 + (1 : Int32)) σ
def lX5_call_22 (p1 : Int32) (k171 : Int32 → Int32 → pS → Option (Int32 × pS)) : Nat → Int32 → Int32 → Int32 → Int32 → pS → Option (Int32 × pS)
  | 0, _, _, _, _, _ => none
  | F + 1, v2, v3, v4, v5, σ =>
    if (pI σ 0 10) ≤ v5 then
      k171 v2 v4 σ
    else
      lX5_call_34 p1 v5
        (fun (y20 : Int32) (y21 : Int32) (y22 : Int32) (σ23 : pS) =>
          lX5_call_22 p1 k171 F y20 y21 y22 (v5 + (1 : Int32)) σ23)
        FU v2 v3 v4 (0 : Int32) σ
def fX5_call (σ : pS) : Option (Int32 × pS) :=
  pbind (fX5_layRounds σ (12 : Int32)) fun _ σ3 =>
  (fX5_bestCost σ3).bind fun r5 =>
  lX5_call_22 r5
    (fun (y24 : Int32) (y25 : Int32) (σ26 : pS) =>
      if y24 = (-9 : Int32) then
        some ((-9 : Int32), σ26)
      else
        pbind (fX5_tells σ26 (r5 - y25) y24) fun r28 σ29 =>
        some (r28, σ29))
    FU (-9 : Int32) (0 : Int32) (0 : Int32) (0 : Int32) σ3
def lX5_paidTo_8 (σ : pS) (p1 : Int32) (k61 : Int32 → Option (Int32 × pS)) : Nat → Int32 → Int32 → Option (Int32 × pS)
  | 0, _, _ => none
  | F + 1, v2, v3 =>
    if (pI σ 0 12) ≤ v3 then
      k61 v2
    else
      (fX5_debtAt σ v3 (1 : Int32)).bind fun r5 =>
      plet (fun (y7 : Int32) =>
          plet (v2 + y7) fun x8 =>
          lX5_paidTo_8 σ p1 k61 F x8 (v3 + (1 : Int32))
        ) fun j6 =>
      if r5 = p1 then
        if pin v3 8 then
          if (pI σ 11 (v3).toNatClampNeg) = (-9 : Int32) then
            j6 (0 : Int32)
          else
            if pin v3 8 then
              (fX5_costOf σ v3 (pI σ 11 (v3).toNatClampNeg)).bind fun r10 =>
              j6 r10
            else none
        else none
      else
        j6 (0 : Int32)
def fX5_paidTo (σ : pS) (a1 : Int32) : Option (Int32 × pS) :=
  pbind (fX5_layRound σ) fun _ σ3 =>
  lX5_paidTo_8 σ3 a1
    (fun (y11 : Int32) =>
      some (y11, σ3))
    FU (0 : Int32) (0 : Int32)
def lX5_stay_25 (p1 : Int32) (p2 : Int32) (k109 : Int32 → Int32 → pS → Option (Int32 × pS)) : Nat → Int32 → Int32 → Int32 → pS → Option (Int32 × pS)
  | 0, _, _, _, _ => none
  | F + 1, v3, v4, v5, σ =>
    if (12 : Int32) ≤ v5 then
      k109 v3 v4 σ
    else
      (fX5_isOut σ p1 v5).bind fun r7 =>
      if r7 = 0 then
        lX5_stay_25 p1 p2 k109 F v3 v4 (v5 + (1 : Int32)) σ
      else
        if pin (((4 : Int32) * p1) + (2 : Int32)) 24 then
          if pin (((4 : Int32) * p1) + (2 : Int32)) 24 then
            plet (sI σ 7 ((((4 : Int32) * p1) + (2 : Int32))).toNatClampNeg ((pI σ 7 ((((4 : Int32) * p1) + (2 : Int32))).toNatClampNeg) ^^^ ((1 : Int32) <<< (v5 &&& 31)))) fun σ8 =>
            pbind (fX5_paidTo σ8 p1) fun r10 σ11 =>
            if pin (((4 : Int32) * p1) + (2 : Int32)) 24 then
              if pin (((4 : Int32) * p1) + (2 : Int32)) 24 then
                plet (sI σ11 7 ((((4 : Int32) * p1) + (2 : Int32))).toNatClampNeg ((pI σ11 7 ((((4 : Int32) * p1) + (2 : Int32))).toNatClampNeg) ^^^ ((1 : Int32) <<< (v5 &&& 31)))) fun σ12 =>
                plet (
                    lX5_stay_25 p1 p2 k109 F v5 r10 (v5 + (1 : Int32)) σ12
                  ) fun j13 =>
                if v3 = (-9 : Int32) then
                  j13
                else
                  if r10 ≤ v4 then
                    lX5_stay_25 p1 p2 k109 F v3 v4 (v5 + (1 : Int32)) σ12
                  else
                    j13
              else none
            else none
          else none
        else none
def fX5_stay (σ : pS) (a1 : Int32) : Option (Int32 × pS) :=
  (fX5_isOne σ a1).bind fun r2 =>
  if r2 = 0 then
    some ((-1 : Int32), σ)
  else
    pbind (fX5_paidTo σ a1) fun r4 σ5 =>
    lX5_stay_25 a1 r4
      (fun (y14 : Int32) (y15 : Int32) (σ16 : pS) =>
        if y14 = (-9 : Int32) then
          some ((-9 : Int32), σ16)
        else
          pbind (fX5_tells σ16 (y15 - r4) y14) fun r18 σ19 =>
          some (r18, σ19))
      FU (-9 : Int32) (0 : Int32) (0 : Int32) σ5
def fX5_against (σ : pS) (a1 : Int32) (a2 : Int32) : Option (Int32 × pS) :=
  (fX5_isDebt σ a1).bind fun r2 =>
  if r2 = 0 then
    some ((-1 : Int32), σ)
  else
    (fX5_isDebt σ a2).bind fun r4 =>
    if r4 = 0 then
      some ((-1 : Int32), σ)
    else
      if a1 = a2 then
        some ((-1 : Int32), σ)
      else
        (fX5_debtAt σ a1 (0 : Int32)).bind fun r6 =>
        (fX5_debtAt σ a2 (1 : Int32)).bind fun r8 =>
        plet (fun (y10 : Int32) =>
            if y10 = 0 then
              some ((-4 : Int32), σ)
            else
              (fX5_debtAt σ a1 (4 : Int32)).bind fun r12 =>
              if r12 = (-9 : Int32) then
                (fX5_debtAt σ a2 (4 : Int32)).bind fun r14 =>
                if r14 = (-9 : Int32) then
                  (fX5_debtAt σ a1 (2 : Int32)).bind fun r16 =>
                  (fX5_debtAt σ a2 (2 : Int32)).bind fun r18 =>
                  plet (r16 - r18) fun x19 =>
                  if x19 = 0 then
                    pbind (fX5_tells σ (-9 : Int32) (0 : Int32)) fun r31 σ32 =>
                    some (r31, σ32)
                  else
                    if x19 ≤ 0 then
                      (fX5_debtAt σ a2 (0 : Int32)).bind fun r21 =>
                      pbind (fX5_tells σ r21 (-x19)) fun r23 σ24 =>
                      some (r23, σ24)
                    else
                      (fX5_debtAt σ a1 (0 : Int32)).bind fun r26 =>
                      pbind (fX5_tells σ r26 x19) fun r28 σ29 =>
                      some (r28, σ29)
                else
                  some ((-4 : Int32), σ)
              else
                some ((-4 : Int32), σ)
          ) fun j9 =>
        if r6 = r8 then
          (fX5_debtAt σ a1 (1 : Int32)).bind fun r34 =>
          (fX5_debtAt σ a2 (0 : Int32)).bind fun r36 =>
          if r34 = r36 then
            j9 (1 : Int32)
          else
            j9 (0 : Int32)
        else
          j9 (0 : Int32)
def lX5_family_24 (σ : pS) (p1 : Int32) (k63 : Int32 → Option (Int32 × pS)) : Nat → Int32 → Int32 → Option (Int32 × pS)
  | 0, _, _ => none
  | F + 1, v2, v3 =>
    if (pI σ 0 10) ≤ v3 then
      k63 v2
    else
      (fX5_has p1 v3).bind fun r4 =>
      plet (fun (y6 : Int32) =>
          plet (v2 &&& y6) fun x7 =>
          lX5_family_24 σ p1 k63 F x7 (v3 + (1 : Int32))
        ) fun j5 =>
      if r4 = 0 then
        j5 v2
      else
        if pin (((4 : Int32) * v3) + (2 : Int32)) 24 then
          j5 (pI σ 7 ((((4 : Int32) * v3) + (2 : Int32))).toNatClampNeg)
        else none
def fX5_family (σ : pS) (a1 : Int32) : Option (Int32 × pS) :=
  (fX5_in a1 (1 : Int32) (((1 : Int32) <<< ((pI σ 0 10) &&& 31)) - (1 : Int32))).bind fun r2 =>
  if r2 = 0 then
    some ((-1 : Int32), σ)
  else
    lX5_family_24 σ a1
      (fun (y8 : Int32) =>
        (fX5_bits y8).bind fun r10 =>
        pbind (fX5_tells σ r10 y8) fun r12 σ13 =>
        some (r12, σ13))
      FU (4095 : Int32) (0 : Int32)
def lX5_pay_46 (σ : pS) (p1 : Int32) (p2 : Int32) (k114 : Int32 → Option (Int32 × pS)) : Nat → Int32 → Int32 → Option (Int32 × pS)
  | 0, _, _ => none
  | F + 1, v3, v4 =>
    if (pI σ 0 12) ≤ v4 then
      k114 v3
    else
      plet (
          lX5_pay_46 σ p1 p2 k114 F (0 : Int32) (v4 + (1 : Int32))
        ) fun j9 =>
      if v3 = 0 then
        j9
      else
        (fX5_debtAt σ v4 (4 : Int32)).bind fun r11 =>
        plet (
            lX5_pay_46 σ p1 p2 k114 F (1 : Int32) (v4 + (1 : Int32))
          ) fun j12 =>
        if r11 = p2 then
          (fX5_debtAt σ v4 (0 : Int32)).bind fun r14 =>
          (fX5_debtAt σ p1 (0 : Int32)).bind fun r16 =>
          if r14 = r16 then
            j9
          else
            (fX5_debtAt σ v4 (1 : Int32)).bind fun r18 =>
            (fX5_debtAt σ p1 (1 : Int32)).bind fun r20 =>
            if r18 = r20 then
              j9
            else
              j12
        else
          j12
def fX5_pay (σ : pS) (a1 : Int32) (a2 : Int32) : Option (Int32 × pS) :=
  (fX5_isDebt σ a1).bind fun r2 =>
  if r2 = 0 then
    some ((-1 : Int32), σ)
  else
    (fX5_isHour a2).bind fun r4 =>
    if r4 = 0 then
      some ((-1 : Int32), σ)
    else
      (fX5_debtAt σ a1 (4 : Int32)).bind fun r6 =>
      plet (fun (y8 : Int32) =>
          lX5_pay_46 σ a1 a2
            (fun (y21 : Int32) =>
              if y21 = 0 then
                some ((-4 : Int32), σ)
              else
                if pin (((5 : Int32) * a1) + (4 : Int32)) 40 then
                  plet (sI σ 8 ((((5 : Int32) * a1) + (4 : Int32))).toNatClampNeg a2) fun σ22 =>
                  (fX5_costOf σ22 a1 a2).bind fun r24 =>
                  some (r24, σ22)
                else none)
            FU y8 (0 : Int32)
        ) fun j7 =>
      if r6 = (-9 : Int32) then
        (fX5_canPay σ a1 a2).bind fun r26 =>
        if r26 = 0 then
          j7 (0 : Int32)
        else
          j7 (1 : Int32)
      else
        j7 (0 : Int32)
def fX5_unpay (σ : pS) (a1 : Int32) : Option (Int32 × pS) :=
  (fX5_isDebt σ a1).bind fun r2 =>
  if r2 = 0 then
    some ((-1 : Int32), σ)
  else
    (fX5_debtAt σ a1 (4 : Int32)).bind fun r4 =>
    if r4 = (-9 : Int32) then
      some ((-4 : Int32), σ)
    else
      if pin (((5 : Int32) * a1) + (4 : Int32)) 40 then
        plet (sI σ 8 ((((5 : Int32) * a1) + (4 : Int32))).toNatClampNeg (-9 : Int32)) fun σ5 =>
        some (r4, σ5)
      else none
def lX5_paidNow_4 (σ : pS) (k37 : Int32 → Option Int32) : Nat → Int32 → Int32 → Option Int32
  | 0, _, _ => none
  | F + 1, v1, v2 =>
    if (pI σ 0 12) ≤ v2 then
      k37 v1
    else
      (fX5_debtAt σ v2 (4 : Int32)).bind fun r2 =>
      plet (fun (y4 : Int32) =>
          plet (v1 + y4) fun x5 =>
          lX5_paidNow_4 σ k37 F x5 (v2 + (1 : Int32))
        ) fun j3 =>
      if r2 = (-9 : Int32) then
        j3 (0 : Int32)
      else
        j3 (1 : Int32)
def fX5_paidNow (σ : pS) : Option Int32 :=
  lX5_paidNow_4 σ
    (fun (y6 : Int32) =>
      some y6)
    FU (0 : Int32) (0 : Int32)
def lX5_paid_6 (σ : pS) (k80 : Int32 → Int32 → Option (Int32 × pS)) : Nat → Int32 → Int32 → Int32 → Option (Int32 × pS)
  | 0, _, _, _ => none
  | F + 1, v1, v2, v3 =>
    if (pI σ 0 12) ≤ v3 then
      k80 v1 v2
    else
      (fX5_debtAt σ v3 (4 : Int32)).bind fun r2 =>
      plet (fun (y4 : Int32) =>
          plet (fun (y6 : Int32) =>
              plet (v1 + y6) fun x7 =>
              plet (fun (y9 : Int32) =>
                  plet (v2 + y9) fun x10 =>
                  lX5_paid_6 σ k80 F x7 x10 (v3 + (1 : Int32))
                ) fun j8 =>
              if y4 = 0 then
                (fX5_costOf σ v3 (12 : Int32)).bind fun r12 =>
                j8 r12
              else
                j8 (0 : Int32)
            ) fun j5 =>
          if y4 = 0 then
            j5 (0 : Int32)
          else
            (fX5_debtAt σ v3 (4 : Int32)).bind fun r14 =>
            (fX5_costOf σ v3 r14).bind fun r16 =>
            j5 r16
        ) fun j3 =>
      if r2 = (-9 : Int32) then
        j3 (0 : Int32)
      else
        j3 (1 : Int32)
def fX5_paid (σ : pS) : Option (Int32 × pS) :=
  lX5_paid_6 σ
    (fun (y17 : Int32) (y18 : Int32) =>
      pbind (fX5_tells σ y18 y17) fun r20 σ21 =>
      some (r20, σ21))
    FU (0 : Int32) (0 : Int32) (0 : Int32)
def lX5_keep_13 (p1 : Int32) (k44 : pS → Option (Int32 × pS)) : Nat → Int32 → pS → Option (Int32 × pS)
  | 0, _, _ => none
  | F + 1, v2, σ =>
    if (pI σ 0 12) ≤ v2 then
      k44 σ
    else
      (fX5_debtAt σ v2 (4 : Int32)).bind fun r4 =>
      if pin (((8 : Int32) * p1) + v2) 24 then
        plet (sI σ 17 ((((8 : Int32) * p1) + v2)).toNatClampNeg r4) fun σ5 =>
        lX5_keep_13 p1 k44 F (v2 + (1 : Int32)) σ5
      else none
def fX5_keep (σ : pS) (a1 : Int32) : Option (Int32 × pS) :=
  (fX5_in a1 (0 : Int32) (2 : Int32)).bind fun r2 =>
  if r2 = 0 then
    some ((-1 : Int32), σ)
  else
    lX5_keep_13 a1
      (fun (σ6 : pS) =>
        if pin a1 3 then
          plet (sI σ6 16 (a1).toNatClampNeg (vp_nar .boolean (1 : Int32))) fun σ7 =>
          (fX5_paidNow σ7).bind fun r9 =>
          some (r9, σ7)
        else none)
      FU (0 : Int32) σ
def lX5_on_28 (p1 : Int32) (k63 : pS → Option (Int32 × pS)) : Nat → Int32 → pS → Option (Int32 × pS)
  | 0, _, _ => none
  | F + 1, v2, σ =>
    if (pI σ 0 12) ≤ v2 then
      k63 σ
    else
      if pin (((8 : Int32) * p1) + v2) 24 then
        if pin (((5 : Int32) * v2) + (4 : Int32)) 40 then
          plet (sI σ 8 ((((5 : Int32) * v2) + (4 : Int32))).toNatClampNeg (pI σ 17 ((((8 : Int32) * p1) + v2)).toNatClampNeg)) fun σ3 =>
          lX5_on_28 p1 k63 F (v2 + (1 : Int32)) σ3
        else none
      else none
def fX5_on (σ : pS) (a1 : Int32) : Option (Int32 × pS) :=
  (fX5_in a1 (0 : Int32) (2 : Int32)).bind fun r2 =>
  if r2 = 0 then
    some ((-1 : Int32), σ)
  else
    if pin a1 3 then
      if (pI σ 16 (a1).toNatClampNeg) = 0 then
        pbind (fX5_meets σ (1 : Int32)) fun r8 σ9 =>
        some (r8, σ9)
      else
        lX5_on_28 a1
          (fun (σ4 : pS) =>
            (fX5_paidNow σ4).bind fun r6 =>
            some (r6, σ4))
          FU (0 : Int32) σ
    else none
def lX5_mustOf_4 (σ : pS) (p1 : Int32) (k152 : Int32 → Option Int32) : Nat → Int32 → Int32 → Option Int32
  | 0, _, _ => none
  | F + 1, v2, v3 =>
    if (pI σ 0 12) ≤ v3 then
      k152 v2
    else
      if pin v3 8 then
        if (pI σ 11 (v3).toNatClampNeg) = (-9 : Int32) then
          lX5_mustOf_4 σ p1 k152 F v2 (v3 + (1 : Int32))
        else
          (fX5_debtAt σ v3 (1 : Int32)).bind fun r2 =>
          plet (fun (y4 : Int32) =>
              (fX5_kind σ r2).bind fun r6 =>
              plet (fun (y8 : Int32) =>
                  (fX5_debtAt σ v3 (0 : Int32)).bind fun r10 =>
                  plet (fun (y12 : Int32) =>
                      plet (fun (y14 : Int32) =>
                          plet (v2 ||| y14) fun x15 =>
                          lX5_mustOf_4 σ p1 k152 F x15 (v3 + (1 : Int32))
                        ) fun j13 =>
                      if y12 = 0 then
                        j13 (0 : Int32)
                      else
                        if pin v3 8 then
                          j13 ((1 : Int32) <<< ((pI σ 11 (v3).toNatClampNeg) &&& 31))
                        else none
                    ) fun j11 =>
                  if r10 = p1 then
                    j11 (1 : Int32)
                  else
                    if (3 : Int32) ≤ (pI σ 0 14) then
                      j11 (0 : Int32)
                    else
                      if y4 = 0 then
                        if y8 = 0 then
                          j11 (0 : Int32)
                        else
                          j11 (1 : Int32)
                      else
                        j11 (1 : Int32)
                ) fun j7 =>
              if r6 = (3 : Int32) then
                (fX5_with σ r2).bind fun r17 =>
                if r17 = p1 then
                  j7 (1 : Int32)
                else
                  j7 (0 : Int32)
              else
                j7 (0 : Int32)
            ) fun j3 =>
          if r2 = p1 then
            (fX5_kind σ r2).bind fun r19 =>
            if r19 = (2 : Int32) then
              j3 (0 : Int32)
            else
              (fX5_kind σ r2).bind fun r21 =>
              if r21 = (4 : Int32) then
                j3 (0 : Int32)
              else
                j3 (1 : Int32)
          else
            j3 (0 : Int32)
      else none
def fX5_mustOf (σ : pS) (a1 : Int32) : Option Int32 :=
  lX5_mustOf_4 σ a1
    (fun (y22 : Int32) =>
      some y22)
    FU (0 : Int32) (0 : Int32)
def fX5_must (σ : pS) (a1 : Int32) (a2 : Int32) : Option (Int32 × pS) :=
  (fX5_isRow a1).bind fun r2 =>
  if r2 = 0 then
    some ((-1 : Int32), σ)
  else
    (fX5_isOne σ a2).bind fun r4 =>
    if r4 = 0 then
      some ((-1 : Int32), σ)
    else
      pbind (fX5_needRound σ a1) fun r6 σ7 =>
      if 0 ≤ r6 then
        (fX5_mustOf σ7 a2).bind fun r9 =>
        some (r9, σ7)
      else
        some (r6, σ7)
def lX5_liars_29 (σ : pS) (k92 : Int32 → Int32 → Option (Int32 × pS)) : Nat → Int32 → Int32 → Int32 → Option (Int32 × pS)
  | 0, _, _, _ => none
  | F + 1, v3, v4, v5 =>
    if (pI σ 0 10) ≤ v5 then
      k92 v3 v4
    else
      (fX5_mustOf σ v5).bind fun r7 =>
      if pin (((4 : Int32) * v5) + (2 : Int32)) 24 then
        plet (r7 &&& ((pI σ 7 ((((4 : Int32) * v5) + (2 : Int32))).toNatClampNeg) ^^^ (-1 : Int32))) fun x8 =>
        plet (fun (y10 : Int32) =>
            plet (v3 ||| y10) fun x11 =>
            (fX5_bits x8).bind fun r13 =>
            plet (v4 + r13) fun x14 =>
            lX5_liars_29 σ k92 F x11 x14 (v5 + (1 : Int32))
          ) fun j9 =>
        if x8 = 0 then
          j9 (0 : Int32)
        else
          j9 ((1 : Int32) <<< (v5 &&& 31))
      else none
def fX5_liars (σ : pS) (a1 : Int32) : Option (Int32 × pS) :=
  (fX5_isRow a1).bind fun r2 =>
  if r2 = 0 then
    some ((-1 : Int32), σ)
  else
    pbind (fX5_needRound σ a1) fun r4 σ5 =>
    if 0 ≤ r4 then
      lX5_liars_29 σ5
        (fun (y15 : Int32) (y16 : Int32) =>
          pbind (fX5_tells σ5 y16 y15) fun r18 σ19 =>
          some (r18, σ19))
        FU (0 : Int32) (0 : Int32) (0 : Int32)
    else
      some (r4, σ5)
def lX5_counted_4 (σ : pS) (p1 : Int32) (k62 : Int32 → Option Int32) : Nat → Int32 → Int32 → Option Int32
  | 0, _, _ => none
  | F + 1, v2, v3 =>
    if (pI σ 0 10) ≤ v3 then
      k62 v2
    else
      plet (fun (y2 : Int32) =>
          plet (v2 + y2) fun x3 =>
          lX5_counted_4 σ p1 k62 F x3 (v3 + (1 : Int32))
        ) fun j1 =>
      plet (
          if p1 = (4 : Int32) then
            (fX5_isShared σ v3).bind fun r6 =>
            if r6 = 0 then
              j1 (0 : Int32)
            else
              j1 (1 : Int32)
          else
            j1 (0 : Int32)
        ) fun j4 =>
      if p1 = (3 : Int32) then
        (fX5_kind σ v3).bind fun r8 =>
        if r8 = (1 : Int32) then
          j1 (1 : Int32)
        else
          (fX5_kind σ v3).bind fun r10 =>
          if r10 = (5 : Int32) then
            j1 (1 : Int32)
          else
            j4
      else
        j4
def lX5_counted_64 (σ : pS) (p1 : Int32) (k97 : Int32 → Option Int32) : Nat → Int32 → Int32 → Option Int32
  | 0, _, _ => none
  | F + 1, v2, v3 =>
    if (3 : Int32) ≤ v3 then
      k97 v2
    else
      plet (fun (y13 : Int32) =>
          plet (v2 + y13) fun x14 =>
          lX5_counted_64 σ p1 k97 F x14 (v3 + (1 : Int32))
        ) fun j12 =>
      if p1 = (5 : Int32) then
        if pin v3 3 then
          if (pI σ 16 (v3).toNatClampNeg) = 0 then
            j12 (0 : Int32)
          else
            j12 (1 : Int32)
        else none
      else
        j12 (0 : Int32)
def lX5_counted_99 (σ : pS) (p1 : Int32) (k134 : Int32 → Option Int32) : Nat → Int32 → Int32 → Option Int32
  | 0, _, _ => none
  | F + 1, v2, v3 =>
    if (6 : Int32) ≤ v3 then
      k134 v2
    else
      plet (fun (y17 : Int32) =>
          plet (v2 + y17) fun x18 =>
          lX5_counted_99 σ p1 k134 F x18 (v3 + (1 : Int32))
        ) fun j16 =>
      if p1 = (6 : Int32) then
        if pin v3 6 then
          if (pI σ 2 (v3).toNatClampNeg) < 0 then
            j16 (0 : Int32)
          else
            j16 (1 : Int32)
        else none
      else
        j16 (0 : Int32)
def lX5_counted_136 (σ : pS) (p1 : Int32) (k170 : Int32 → Option Int32) : Nat → Int32 → Int32 → Option Int32
  | 0, _, _ => none
  | F + 1, v2, v3 =>
    if (4 : Int32) ≤ v3 then
      k170 v2
    else
      plet (fun (y21 : Int32) =>
          plet (v2 + y21) fun x22 =>
          lX5_counted_136 σ p1 k170 F x22 (v3 + (1 : Int32))
        ) fun j20 =>
      if p1 = (7 : Int32) then
        if pin v3 4 then
          if (pI σ 5 (v3).toNatClampNeg) < 0 then
            j20 (0 : Int32)
          else
            j20 (1 : Int32)
        else none
      else
        j20 (0 : Int32)
def fX5_counted (σ : pS) (a1 : Int32) : Option Int32 :=
  lX5_counted_4 σ a1
    (fun (y11 : Int32) =>
      lX5_counted_64 σ a1
        (fun (y15 : Int32) =>
          lX5_counted_99 σ a1
            (fun (y19 : Int32) =>
              lX5_counted_136 σ a1
                (fun (y23 : Int32) =>
                  if a1 = 0 then
                    some (pI σ 0 10)
                  else
                    if a1 = (1 : Int32) then
                      some (pI σ 0 12)
                    else
                      if a1 = (2 : Int32) then
                        (fX5_paidNow σ).bind fun r25 =>
                        some r25
                      else
                        some y23)
                FU y19 (0 : Int32))
            FU y15 (0 : Int32))
        FU y11 (0 : Int32))
    FU (0 : Int32) (0 : Int32)
def fX5_count (σ : pS) (a1 : Int32) : Option Int32 :=
  (fX5_in a1 (0 : Int32) (7 : Int32)).bind fun r2 =>
  if r2 = 0 then
    some (-1 : Int32)
  else
    (fX5_counted σ a1).bind fun r4 =>
    some r4
def fX5_mix (σ : pS) (a1 : Int64) : Option (Unit × pS) :=
  plet (sL σ 0 29 (((31 : Int64) * (pL σ 0 29)) + a1)) fun σ1 =>
  some ((), σ1)
def lX5_mixVillage_11 (k38 : pS → Option (Unit × pS)) : Nat → Int32 → pS → Option (Unit × pS)
  | 0, _, _ => none
  | F + 1, v1, σ =>
    if ((4 : Int32) * (pI σ 0 10)) ≤ v1 then
      k38 σ
    else
      if pin v1 24 then
        pbind (fX5_mix σ ((pI σ 7 (v1).toNatClampNeg)).toInt64) fun _ σ6 =>
        lX5_mixVillage_11 k38 F (v1 + (1 : Int32)) σ6
      else none
def lX5_mixVillage_40 (k67 : pS → Option (Unit × pS)) : Nat → Int32 → pS → Option (Unit × pS)
  | 0, _, _ => none
  | F + 1, v1, σ =>
    if ((5 : Int32) * (pI σ 0 12)) ≤ v1 then
      k67 σ
    else
      if pin v1 40 then
        pbind (fX5_mix σ ((pI σ 8 (v1).toNatClampNeg)).toInt64) fun _ σ10 =>
        lX5_mixVillage_40 k67 F (v1 + (1 : Int32)) σ10
      else none
def lX5_mixVillage_92 (p1 : Int32) (k131 : pS → Option (Unit × pS)) : Nat → Int32 → pS → Option (Unit × pS)
  | 0, _, _ => none
  | F + 1, v2, σ =>
    if (pI σ 0 12) ≤ v2 then
      k131 σ
    else
      if pin p1 3 then
        if (pI σ 16 (p1).toNatClampNeg) = 0 then
          k131 σ
        else
          if pin (((8 : Int32) * p1) + v2) 24 then
            pbind (fX5_mix σ ((pI σ 17 ((((8 : Int32) * p1) + v2)).toNatClampNeg)).toInt64) fun _ σ16 =>
            lX5_mixVillage_92 p1 k131 F (v2 + (1 : Int32)) σ16
          else none
      else none
def lX5_mixVillage_69 (k137 : pS → Option (Unit × pS)) : Nat → Int32 → pS → Option (Unit × pS)
  | 0, _, _ => none
  | F + 1, v1, σ =>
    if (3 : Int32) ≤ v1 then
      k137 σ
    else
      if pin v1 3 then
        plet (fun (σ13 : pS) =>
            lX5_mixVillage_92 v1
              (fun (σ17 : pS) =>
                lX5_mixVillage_69 k137 F (v1 + (1 : Int32)) σ17)
              FU (0 : Int32) σ13
          ) fun j12 =>
        if (pI σ 16 (v1).toNatClampNeg) = 0 then
          pbind (fX5_mix σ (-1 : Int64)) fun _ σ20 =>
          j12 σ20
        else
          j12 σ
      else none
def fX5_mixVillage (σ : pS) : Option (Unit × pS) :=
  pbind (fX5_mix σ ((pI σ 0 14)).toInt64) fun _ σ3 =>
  lX5_mixVillage_11 
    (fun (σ7 : pS) =>
      lX5_mixVillage_40 
        (fun (σ11 : pS) =>
          lX5_mixVillage_69 
            (fun (σ21 : pS) =>
              some ((), σ21))
            FU (0 : Int32) σ11)
        FU (0 : Int32) σ7)
    FU (0 : Int32) σ3
def lX5_digest_9 (k31 : pS → Option (Int64 × pS)) : Nat → Int32 → pS → Option (Int64 × pS)
  | 0, _, _ => none
  | F + 1, v1, σ =>
    if (8 : Int32) ≤ v1 then
      k31 σ
    else
      (fX5_counted σ v1).bind fun r3 =>
      pbind (fX5_mix σ (r3).toInt64) fun _ σ6 =>
      lX5_digest_9 k31 F (v1 + (1 : Int32)) σ6
def lX5_digest_56 (p1 : Int32) (k83 : pS → Option (Int64 × pS)) : Nat → Int32 → pS → Option (Int64 × pS)
  | 0, _, _ => none
  | F + 1, v2, σ =>
    if pin p1 6 then
      if (pI σ 2 (p1).toNatClampNeg) ≤ v2 then
        k83 σ
      else
        (fX5_rowAt σ p1 v2).bind fun r15 =>
        pbind (fX5_mix σ (r15).toInt64) fun _ σ18 =>
        lX5_digest_56 p1 k83 F (v2 + (1 : Int32)) σ18
    else none
def lX5_digest_37 (k89 : pS → Option (Int64 × pS)) : Nat → Int32 → pS → Option (Int64 × pS)
  | 0, _, _ => none
  | F + 1, v1, σ =>
    if (6 : Int32) ≤ v1 then
      k89 σ
    else
      if pin v1 6 then
        pbind (fX5_mix σ ((pI σ 2 (v1).toNatClampNeg)).toInt64) fun _ σ13 =>
        lX5_digest_56 v1
          (fun (σ19 : pS) =>
            lX5_digest_37 k89 F (v1 + (1 : Int32)) σ19)
          FU (0 : Int32) σ13
      else none
def lX5_digest_109 (p1 : Int32) (k136 : pS → Option (Int64 × pS)) : Nat → Int32 → pS → Option (Int64 × pS)
  | 0, _, _ => none
  | F + 1, v2, σ =>
    if pin p1 4 then
      if (pI σ 5 (p1).toNatClampNeg) ≤ v2 then
        k136 σ
      else
        (fX5_byteAt σ p1 v2).bind fun r25 =>
        pbind (fX5_mix σ (r25).toInt64) fun _ σ28 =>
        lX5_digest_109 p1 k136 F (v2 + (1 : Int32)) σ28
    else none
def lX5_digest_91 (k142 : pS → Option (Int64 × pS)) : Nat → Int32 → pS → Option (Int64 × pS)
  | 0, _, _ => none
  | F + 1, v1, σ =>
    if (4 : Int32) ≤ v1 then
      k142 σ
    else
      if pin v1 4 then
        pbind (fX5_mix σ ((pI σ 5 (v1).toNatClampNeg)).toInt64) fun _ σ23 =>
        lX5_digest_109 v1
          (fun (σ29 : pS) =>
            lX5_digest_91 k142 F (v1 + (1 : Int32)) σ29)
          FU (0 : Int32) σ23
      else none
def fX5_digest (σ : pS) : Option (Int64 × pS) :=
  plet (sL σ 0 29 (17 : Int64)) fun σ1 =>
  lX5_digest_9 
    (fun (σ7 : pS) =>
      pbind (fX5_mixVillage σ7) fun _ σ10 =>
      lX5_digest_37 
        (fun (σ20 : pS) =>
          lX5_digest_91 
            (fun (σ30 : pS) =>
              some ((pL σ30 0 29), σ30))
            FU (0 : Int32) σ20)
        FU (0 : Int32) σ10)
    FU (0 : Int32) σ1
