/-! PURE: the functions of the class -/
def lJ7_fill_53178_5 (p0 : Nat) (p1 : Int32) (p3 : Int32) (k20 : pS → Option (Unit × pS)) : Nat → Int32 → pS → Option (Unit × pS)
  | 0, _, _ => none
  | F + 1, v2, σ =>
    if p3 ≤ v2 then
      k20 σ
    else
      if isA wX 0 p0 then
        if pin v2 (alen wX p0) then
          plet (sI σ p0 (v2).toNatClampNeg p1) fun σ10 =>
          lJ7_fill_53178_5 p0 p1 p3 k20 F (v2 + (1 : Int32)) σ10
        else none
      else none
def fJ7_fill_53178 (σ : pS) (a1 : Nat) (a2 : Int32) : Option (Unit × pS) :=
  if isA wX 0 a1 then
    plet (Int32.ofNat (alen wX a1)) fun x5 =>
    lJ7_fill_53178_5 a1 a2 x5
      (fun (σ11 : pS) =>
        some ((), σ11))
      FU (0 : Int32) σ
  else none
def lX0_forget_11 (k29 : pS → Option (Unit × pS)) : Nat → Int32 → pS → Option (Unit × pS)
  | 0, _, _ => none
  | F + 1, v1, σ =>
    if (3 : Int32) ≤ v1 then
      k29 σ
    else
      if pin v1 3 then
        plet (sI σ 11 (v1).toNatClampNeg (vp_nar .boolean (0 : Int32))) fun σ4 =>
        lX0_forget_11 k29 F (v1 + (1 : Int32)) σ4
      else none
def fX0_forget (σ : pS) : Option (Unit × pS) :=
  pbind (fJ7_fill_53178 σ 9 (-9 : Int32)) fun _ σ3 =>
  lX0_forget_11 
    (fun (σ5 : pS) =>
      some ((), σ5))
    FU (0 : Int32) σ3
def fX0_isPaid (σ : pS) (a1 : Int32) : Option Int32 :=
  if pin a1 8 then
    if (pI σ 9 (a1).toNatClampNeg) = (-9 : Int32) then
      some (0 : Int32)
    else
      some (1 : Int32)
  else none
def lX0_howManyPaid_4 (σ : pS) (p1 : Int32) (k26 : Int32 → Option Int32) : Nat → Int32 → Int32 → Option Int32
  | 0, _, _ => none
  | F + 1, v2, v3 =>
    if p1 ≤ v3 then
      k26 v2
    else
      (fX0_isPaid σ v3).bind fun r2 =>
      if r2 = 0 then
        lX0_howManyPaid_4 σ p1 k26 F v2 (v3 + (1 : Int32))
      else
        lX0_howManyPaid_4 σ p1 k26 F (v2 + (1 : Int32)) (v3 + (1 : Int32))
def fX0_howManyPaid (σ : pS) (a1 : Int32) : Option Int32 :=
  lX0_howManyPaid_4 σ a1
    (fun (y3 : Int32) =>
      some y3)
    FU (0 : Int32) (0 : Int32)
def lX0_howManyKept_13 (σ : pS) (p3 : Int32) (k39 : Int32 → Option Int32) : Nat → Int32 → Int32 → Option Int32
  | 0, _, _ => none
  | F + 1, v1, v4 =>
    if p3 ≤ v4 then
      k39 v1
    else
      if pin v4 3 then
        plet (pI σ 11 (v4).toNatClampNeg) fun x2 =>
        if x2 = 0 then
          lX0_howManyKept_13 σ p3 k39 F v1 (v4 + (1 : Int32))
        else
          lX0_howManyKept_13 σ p3 k39 F (v1 + (1 : Int32)) (v4 + (1 : Int32))
      else none
def fX0_howManyKept (σ : pS) : Option Int32 :=
  plet (Int32.ofNat 3) fun x1 =>
  lX0_howManyKept_13 σ x1
    (fun (y3 : Int32) =>
      some y3)
    FU (0 : Int32) (0 : Int32)
def fX0_store (σ : pS) (a1 : Int32) : Option (Unit × pS) :=
  if pin a1 3 then
    if pcp wX 9 (30 + (a1).toNatClampNeg) 8 8 (0 : Int32) (0 : Int32) (8 : Int32) then
      plet (sF σ (30 + (a1).toNatClampNeg) (va_cpy (σ.1 9) (σ.1 (30 + (a1).toNatClampNeg)) ((0 : Int32)).toNatClampNeg ((0 : Int32)).toNatClampNeg ((8 : Int32)).toNatClampNeg)) fun σ2 =>
      if pin a1 3 then
        plet (sI σ2 11 (a1).toNatClampNeg (vp_nar .boolean (1 : Int32))) fun σ3 =>
        some ((), σ3)
      else none
    else none
  else none
def fX0_restore (σ : pS) (a1 : Int32) : Option (Unit × pS) :=
  if pin a1 3 then
    if pcp wX (30 + (a1).toNatClampNeg) 9 8 8 (0 : Int32) (0 : Int32) (8 : Int32) then
      plet (sF σ 9 (va_cpy (σ.1 (30 + (a1).toNatClampNeg)) (σ.1 9) ((0 : Int32)).toNatClampNeg ((0 : Int32)).toNatClampNeg ((8 : Int32)).toNatClampNeg)) fun σ2 =>
      some ((), σ2)
    else none
  else none
def fX3_isPerson (σ : pS) (v : Nat) (a1 : Int32) : Option Int32 :=
  if a1 < 0 then
    some (0 : Int32)
  else
    if isV v then
      if (pI σ v 0) ≤ a1 then
        some (0 : Int32)
      else
        some (1 : Int32)
    else none
def fX3_addPerson (σ : pS) (v : Nat) (a1 : Int32) (a2 : Int32) (a3 : Int32) : Option (Unit × pS) :=
  if isV v then
    if (6 : Int32) ≤ (pI σ v 0) then
      some ((), σ)
    else
      if pin (pI σ v 0) 6 then
        plet (sI σ (v + 1) ((pI σ v 0)).toNatClampNeg a1) fun σ2 =>
        if pin (pI σ2 v 0) 6 then
          plet (sI σ2 (v + 2) ((pI σ2 v 0)).toNatClampNeg a2) fun σ3 =>
          if pin (pI σ3 v 0) 6 then
            plet (sI σ3 (v + 3) ((pI σ3 v 0)).toNatClampNeg a3) fun σ4 =>
            if pin (pI σ4 v 0) 6 then
              plet (sI σ4 (v + 4) ((pI σ4 v 0)).toNatClampNeg (5 : Int32)) fun σ5 =>
              plet (sI σ5 v 0 ((pI σ5 v 0) + (1 : Int32))) fun σ6 =>
              some ((), σ6)
            else none
          else none
        else none
      else none
  else none
def fX3_addDebt (σ : pS) (v : Nat) (a1 : Int32) (a2 : Int32) (a3 : Int32) (a4 : Int32) : Option (Unit × pS) :=
  if isV v then
    if (8 : Int32) ≤ (pI σ v 1) then
      some ((), σ)
    else
      if pin (pI σ v 1) 8 then
        plet (sI σ (v + 5) ((pI σ v 1)).toNatClampNeg a1) fun σ2 =>
        if pin (pI σ2 v 1) 8 then
          plet (sI σ2 (v + 6) ((pI σ2 v 1)).toNatClampNeg a2) fun σ3 =>
          if pin (pI σ3 v 1) 8 then
            plet (sI σ3 (v + 7) ((pI σ3 v 1)).toNatClampNeg a3) fun σ4 =>
            if pin (pI σ4 v 1) 8 then
              plet (sI σ4 (v + 8) ((pI σ4 v 1)).toNatClampNeg a4) fun σ5 =>
              plet (sI σ5 v 1 ((pI σ5 v 1) + (1 : Int32))) fun σ6 =>
              some ((), σ6)
            else none
          else none
        else none
      else none
  else none
def fX3_clear (σ : pS) (v : Nat) : Option (Unit × pS) :=
  if isV v then
    plet (sI σ v 0 (0 : Int32)) fun σ2 =>
    plet (sI σ2 v 1 (0 : Int32)) fun σ3 =>
    plet (sI σ3 v 2 (0 : Int32)) fun σ4 =>
    some ((), σ4)
  else none
def fX3_clash (σ : pS) (v : Nat) (a1 : Int32) (a2 : Int32) : Option Int32 :=
  if isV v then
    if pin a1 8 then
      if pin a2 8 then
        if (pI σ (v + 5) (a1).toNatClampNeg) = (pI σ (v + 5) (a2).toNatClampNeg) then
          some (1 : Int32)
        else
          if pin a1 8 then
            if pin a2 8 then
              if (pI σ (v + 6) (a1).toNatClampNeg) = (pI σ (v + 6) (a2).toNatClampNeg) then
                some (1 : Int32)
              else
                some (0 : Int32)
            else none
          else none
      else none
    else none
  else none
def fJ6_bitCount_0f7a4 (a1 : Int32) : Option Int32 :=
  plet (a1 - (((a1).toUInt32 >>> (((1 : Int32)).toUInt32 &&& Int32.toUInt32 31)).toInt32 &&& (1431655765 : Int32))) fun x1 =>
  plet ((x1 &&& (858993459 : Int32)) + (((x1).toUInt32 >>> (((2 : Int32)).toUInt32 &&& Int32.toUInt32 31)).toInt32 &&& (858993459 : Int32))) fun x2 =>
  plet ((x2 + ((x2).toUInt32 >>> (((4 : Int32)).toUInt32 &&& Int32.toUInt32 31)).toInt32) &&& (252645135 : Int32)) fun x3 =>
  plet (x3 + ((x3).toUInt32 >>> (((8 : Int32)).toUInt32 &&& Int32.toUInt32 31)).toInt32) fun x4 =>
  plet (x4 + ((x4).toUInt32 >>> (((16 : Int32)).toUInt32 &&& Int32.toUInt32 31)).toInt32) fun x5 =>
  some (x5 &&& (63 : Int32))
def lX3_peopleOut_4 (σ : pS) (p0 : Nat) (p1 : Int32) (k33 : Int32 → Option Int32) : Nat → Int32 → Int32 → Option Int32
  | 0, _, _ => none
  | F + 1, v2, v3 =>
    if isV p0 then
      if (pI σ p0 0) ≤ v3 then
        k33 v2
      else
        if pin v3 6 then
          plet (v2 ||| ((((pI σ (p0 + 3) (v3).toNatClampNeg) >>> (p1 &&& 31)) &&& (1 : Int32)) <<< (v3 &&& 31))) fun x2 =>
          lX3_peopleOut_4 σ p0 p1 k33 F x2 (v3 + (1 : Int32))
        else none
    else none
def fX3_peopleOut (σ : pS) (v : Nat) (a1 : Int32) : Option Int32 :=
  lX3_peopleOut_4 σ v a1
    (fun (y3 : Int32) =>
      some y3)
    FU (0 : Int32) (0 : Int32)
def fX3_dogHours (σ : pS) (v : Nat) (a1 : Int32) : Option Int32 :=
  if isV v then
    if pin a1 6 then
      if (pI σ (v + 1) (a1).toNatClampNeg) = (5 : Int32) then
        some (4095 : Int32)
      else
        if pin a1 6 then
          if (pI σ (v + 1) (a1).toNatClampNeg) = (1 : Int32) then
            some (1365 : Int32)
          else
            some (0 : Int32)
        else none
    else none
  else none
def fX3_holds (a1 : Int32) (a2 : Int32) : Option Int32 :=
  if ((a1 >>> (a2 &&& 31)) &&& (1 : Int32)) = (1 : Int32) then
    some (1 : Int32)
  else
    some (0 : Int32)
def fX3_isLeft (σ : pS) (v : Nat) (a1 : Int32) (a2 : Int32) : Option Int32 :=
  if isV v then
    if pin a1 6 then
      if (pI σ (v + 1) (a1).toNatClampNeg) = (2 : Int32) then
        some (0 : Int32)
      else
      if (pI σ (v + 1) (a1).toNatClampNeg) = (3 : Int32) then
        (fX3_holds a2 a1).bind fun r5 =>
        if r5 = 0 then
          some (0 : Int32)
        else
          if pin a1 6 then
            (fX3_holds a2 (pI σ (v + 2) (a1).toNatClampNeg)).bind fun r7 =>
            if r7 = 0 then
              some (0 : Int32)
            else
              some (1 : Int32)
          else none
      else
      if (pI σ (v + 1) (a1).toNatClampNeg) = (4 : Int32) then
        (fX3_holds a2 a1).bind fun r11 =>
        if r11 = 0 then
          if pin a1 6 then
            (fX3_holds a2 (pI σ (v + 2) (a1).toNatClampNeg)).bind fun r13 =>
            if r13 = 0 then
              some (0 : Int32)
            else
              some (1 : Int32)
          else none
        else
          some (1 : Int32)
      else
      (fX3_holds a2 a1).bind fun r17 =>
      if vp_nar .boolean r17 = r17 then some r17 else none
    else none
  else none
def fX3_countsAsEmpty (σ : pS) (v : Nat) (a1 : Int32) (a2 : Int32) (a3 : Int32) : Option Int32 :=
  if isV v then
    (fX3_isLeft σ v a1 a3).bind fun r3 =>
    if (pI σ v 2) = (1 : Int32) then
      if r3 = 0 then
        some (0 : Int32)
      else
        (fX3_dogHours σ v a1).bind fun r5 =>
        (fX3_holds r5 a2).bind fun r7 =>
        if r7 = 0 then
          some (1 : Int32)
        else
          some (0 : Int32)
    else
    if (pI σ v 2) = (2 : Int32) then
      if r3 = 0 then
        some (0 : Int32)
      else
        if a2 < (8 : Int32) then
          some (0 : Int32)
        else
          some (1 : Int32)
    else
    if (pI σ v 2) = (3 : Int32) then
      if r3 = 0 then
        some (1 : Int32)
      else
        some (0 : Int32)
    else
    if vp_nar .boolean r3 = r3 then some r3 else none
  else none
def fX3_isPayable (σ : pS) (v : Nat) (a1 : Int32) (a2 : Int32) (a3 : Int32) : Option Int32 :=
  if isV v then
    if pin a1 8 then
      (fX3_holds a3 (pI σ (v + 5) (a1).toNatClampNeg)).bind fun r3 =>
      if r3 = 0 then
        some (0 : Int32)
      else
        if pin a1 8 then
          (fX3_countsAsEmpty σ v (pI σ (v + 6) (a1).toNatClampNeg) a2 a3).bind fun r5 =>
          if r5 = 0 then
            some (0 : Int32)
          else
            some (1 : Int32)
        else none
    else none
  else none
def lX3_payableDebts_5 (σ : pS) (p0 : Nat) (p1 : Int32) (p2 : Int32) (k38 : Int32 → Option Int32) : Nat → Int32 → Int32 → Option Int32
  | 0, _, _ => none
  | F + 1, v3, v4 =>
    if isV p0 then
      if (pI σ p0 1) ≤ v4 then
        k38 v3
      else
        (fX3_isPayable σ p0 v4 p1 p2).bind fun r3 =>
        if r3 = 0 then
          lX3_payableDebts_5 σ p0 p1 p2 k38 F v3 (v4 + (1 : Int32))
        else
          plet (v3 ||| ((1 : Int32) <<< (v4 &&& 31))) fun x4 =>
          lX3_payableDebts_5 σ p0 p1 p2 k38 F x4 (v4 + (1 : Int32))
    else none
def fX3_payableDebts (σ : pS) (v : Nat) (a1 : Int32) (a2 : Int32) : Option Int32 :=
  lX3_payableDebts_5 σ v a1 a2
    (fun (y5 : Int32) =>
      some y5)
    FU (0 : Int32) (0 : Int32)
def fX3_cost (σ : pS) (v : Nat) (a1 : Int32) (a2 : Int32) : Option Int32 :=
  if isV v then
    if pin a1 8 then
      plet (fun (y3 : Int32) =>
          if pin a1 8 then
            some ((pI σ (v + 7) (a1).toNatClampNeg) + (y3 * (pI σ (v + 8) (a1).toNatClampNeg)))
          else none
        ) fun j2 =>
      if a2 = (-9 : Int32) then
        j2 (12 : Int32)
      else
        j2 a2
    else none
  else none
def lJ7_fill_d0a16_6 (p0 : Nat) (p1 : Int64) (p4 : Int32) (k22 : pS → Option (Unit × pS)) : Nat → Int32 → pS → Option (Unit × pS)
  | 0, _, _ => none
  | F + 1, v3, σ =>
    if p4 ≤ v3 then
      k22 σ
    else
      if isA wX 1 p0 then
        if pin v3 (alen wX p0) then
          plet (sL σ p0 (v3).toNatClampNeg p1) fun σ10 =>
          lJ7_fill_d0a16_6 p0 p1 p4 k22 F (v3 + (1 : Int32)) σ10
        else none
      else none
def fJ7_fill_d0a16 (σ : pS) (a1 : Nat) (a2 : Int64) : Option (Unit × pS) :=
  if isA wX 1 a1 then
    plet (Int32.ofNat (alen wX a1)) fun x5 =>
    lJ7_fill_d0a16_6 a1 a2 x5
      (fun (σ11 : pS) =>
        some ((), σ11))
      FU (0 : Int32) σ
  else none
def fX3_isDebt (σ : pS) (v : Nat) (a1 : Int32) : Option Int32 :=
  if a1 < 0 then
    some (0 : Int32)
  else
    if isV v then
      if (pI σ v 1) ≤ a1 then
        some (0 : Int32)
      else
        some (1 : Int32)
    else none
def fX3_isOfKind (σ : pS) (v : Nat) (a1 : Int32) (a2 : Int32) : Option Int32 :=
  if isV v then
    if pin a1 6 then
      if (pI σ (v + 1) (a1).toNatClampNeg) = a2 then
        some (1 : Int32)
      else
        plet (
            if a2 = (3 : Int32) then
              if pin a1 6 then
                if (pI σ (v + 1) (a1).toNatClampNeg) = (4 : Int32) then
                  some (1 : Int32)
                else
                  some (0 : Int32)
              else none
            else
              some (0 : Int32)
          ) fun j2 =>
        if a2 = (1 : Int32) then
          if pin a1 6 then
            if (pI σ (v + 1) (a1).toNatClampNeg) = (5 : Int32) then
              some (1 : Int32)
            else
              j2
          else none
        else
          j2
    else none
  else none
def lX3_howManyOfKind_4 (σ : pS) (p0 : Nat) (p1 : Int32) (k30 : Int32 → Option Int32) : Nat → Int32 → Int32 → Option Int32
  | 0, _, _ => none
  | F + 1, v2, v3 =>
    if isV p0 then
      if (pI σ p0 0) ≤ v3 then
        k30 v2
      else
        (fX3_isOfKind σ p0 v3 p1).bind fun r3 =>
        if r3 = 0 then
          lX3_howManyOfKind_4 σ p0 p1 k30 F v2 (v3 + (1 : Int32))
        else
          lX3_howManyOfKind_4 σ p0 p1 k30 F (v2 + (1 : Int32)) (v3 + (1 : Int32))
    else none
def fX3_howManyOfKind (σ : pS) (v : Nat) (a1 : Int32) : Option Int32 :=
  lX3_howManyOfKind_4 σ v a1
    (fun (y4 : Int32) =>
      some y4)
    FU (0 : Int32) (0 : Int32)
def fX3_ofPerson (σ : pS) (v : Nat) (a1 : Int32) (a2 : Int32) : Option Int32 :=
  if a2 = (0 : Int32) then
    if isV v then
      if pin a1 6 then
        some (pI σ (v + 1) (a1).toNatClampNeg)
      else none
    else none
  else
  if a2 = (1 : Int32) then
    if isV v then
      if pin a1 6 then
        some (pI σ (v + 2) (a1).toNatClampNeg)
      else none
    else none
  else
  if a2 = (2 : Int32) then
    if isV v then
      if pin a1 6 then
        some (pI σ (v + 3) (a1).toNatClampNeg)
      else none
    else none
  else
  if isV v then
    if pin a1 6 then
      some (pI σ (v + 4) (a1).toNatClampNeg)
    else none
  else none
def lX3_howManyOwedTo_4 (σ : pS) (p0 : Nat) (p1 : Int32) (k31 : Int32 → Option Int32) : Nat → Int32 → Int32 → Option Int32
  | 0, _, _ => none
  | F + 1, v2, v3 =>
    if isV p0 then
      if (pI σ p0 1) ≤ v3 then
        k31 v2
      else
        if pin v3 8 then
          if (pI σ (p0 + 6) (v3).toNatClampNeg) = p1 then
            lX3_howManyOwedTo_4 σ p0 p1 k31 F (v2 + (1 : Int32)) (v3 + (1 : Int32))
          else
            lX3_howManyOwedTo_4 σ p0 p1 k31 F v2 (v3 + (1 : Int32))
        else none
    else none
def fX3_howManyOwedTo (σ : pS) (v : Nat) (a1 : Int32) : Option Int32 :=
  lX3_howManyOwedTo_4 σ v a1
    (fun (y2 : Int32) =>
      some y2)
    FU (0 : Int32) (0 : Int32)
def fX3_mateOut (σ : pS) (v : Nat) (a1 : Int32) : Option Int32 :=
  if isV v then
    if pin a1 6 then
      (fX3_isPerson σ v (pI σ (v + 2) (a1).toNatClampNeg)).bind fun r3 =>
      if r3 = 0 then
        some (0 : Int32)
      else
        if pin a1 6 then
          if pin (pI σ (v + 2) (a1).toNatClampNeg) 6 then
            some (pI σ (v + 3) ((pI σ (v + 2) (a1).toNatClampNeg)).toNatClampNeg)
          else none
        else none
    else none
  else none
def fX3_houseTells (σ : pS) (v : Nat) (a1 : Int32) (a2 : Int32) : Option Int32 :=
  if a2 = (1 : Int32) then
    if isV v then
      if pin a1 6 then
        (fX3_dogHours σ v a1).bind fun r3 =>
        (fJ6_bitCount_0f7a4 ((pI σ (v + 3) (a1).toNatClampNeg) &&& r3)).bind fun r5 =>
        some r5
      else none
    else none
  else
  if a2 = (2 : Int32) then
    if isV v then
      (fX3_howManyOwedTo σ v a1).bind fun r10 =>
      some r10
    else none
  else
  if a2 = (3 : Int32) then
    if isV v then
      if pin a1 6 then
        some (pI σ (v + 2) (a1).toNatClampNeg)
      else none
    else none
  else
  if a2 = (4 : Int32) then
    if isV v then
      if pin a1 6 then
        (fX3_mateOut σ v a1).bind fun r18 =>
        (fJ6_bitCount_0f7a4 ((pI σ (v + 3) (a1).toNatClampNeg) ^^^ r18)).bind fun r20 =>
        some r20
      else none
    else none
  else
  if isV v then
    if pin a1 6 then
      (fJ6_bitCount_0f7a4 (pI σ (v + 3) (a1).toNatClampNeg)).bind fun r25 =>
      some r25
    else none
  else none
def lX3_emptyHours_4 (σ : pS) (p0 : Nat) (p1 : Int32) (k36 : Int32 → Option Int32) : Nat → Int32 → Int32 → Option Int32
  | 0, _, _ => none
  | F + 1, v2, v3 =>
    if (12 : Int32) ≤ v3 then
      k36 v2
    else
      if isV p0 then
        (fX3_peopleOut σ p0 v3).bind fun r3 =>
        (fX3_countsAsEmpty σ p0 p1 v3 r3).bind fun r5 =>
        if r5 = 0 then
          lX3_emptyHours_4 σ p0 p1 k36 F v2 (v3 + (1 : Int32))
        else
          plet (v2 ||| ((1 : Int32) <<< (v3 &&& 31))) fun x6 =>
          lX3_emptyHours_4 σ p0 p1 k36 F x6 (v3 + (1 : Int32))
      else none
def fX3_emptyHours (σ : pS) (v : Nat) (a1 : Int32) : Option Int32 :=
  lX3_emptyHours_4 σ v a1
    (fun (y7 : Int32) =>
      some y7)
    FU (0 : Int32) (0 : Int32)
def lX3_payableHours_4 (σ : pS) (p0 : Nat) (p1 : Int32) (k36 : Int32 → Option Int32) : Nat → Int32 → Int32 → Option Int32
  | 0, _, _ => none
  | F + 1, v2, v3 =>
    if (12 : Int32) ≤ v3 then
      k36 v2
    else
      if isV p0 then
        (fX3_peopleOut σ p0 v3).bind fun r3 =>
        (fX3_isPayable σ p0 p1 v3 r3).bind fun r5 =>
        if r5 = 0 then
          lX3_payableHours_4 σ p0 p1 k36 F v2 (v3 + (1 : Int32))
        else
          plet (v2 ||| ((1 : Int32) <<< (v3 &&& 31))) fun x6 =>
          lX3_payableHours_4 σ p0 p1 k36 F x6 (v3 + (1 : Int32))
      else none
def fX3_payableHours (σ : pS) (v : Nat) (a1 : Int32) : Option Int32 :=
  lX3_payableHours_4 σ v a1
    (fun (y7 : Int32) =>
      some y7)
    FU (0 : Int32) (0 : Int32)
def fX3_provesOut (σ : pS) (v : Nat) (a1 : Int32) (a2 : Int32) : Option Int32 :=
  if isV v then
    if (pI σ v 2) = (3 : Int32) then
      some (0 : Int32)
    else
      if pin a1 6 then
        if (pI σ (v + 1) (a1).toNatClampNeg) = (2 : Int32) then
          some (0 : Int32)
        else
          if pin a1 6 then
            if (pI σ (v + 1) (a1).toNatClampNeg) = (4 : Int32) then
              some (0 : Int32)
            else
              if a1 = a2 then
                some (1 : Int32)
              else
                if pin a1 6 then
                  if (pI σ (v + 1) (a1).toNatClampNeg) = (3 : Int32) then
                    if pin a1 6 then
                      if (pI σ (v + 2) (a1).toNatClampNeg) = a2 then
                        some (1 : Int32)
                      else
                        some (0 : Int32)
                    else none
                  else
                    some (0 : Int32)
                else none
          else none
      else none
  else none
def fX3_oweOneAnother (σ : pS) (v : Nat) (a1 : Int32) (a2 : Int32) : Option Int32 :=
  if isV v then
    if pin a1 8 then
      if pin a2 8 then
        if (pI σ (v + 5) (a1).toNatClampNeg) = (pI σ (v + 6) (a2).toNatClampNeg) then
          if pin a1 8 then
            if pin a2 8 then
              if (pI σ (v + 6) (a1).toNatClampNeg) = (pI σ (v + 5) (a2).toNatClampNeg) then
                some (1 : Int32)
              else
                some (0 : Int32)
            else none
          else none
        else
          some (0 : Int32)
      else none
    else none
  else none
def lX3_allValues_4 (σ : pS) (p0 : Nat) (k27 : Int32 → Option Int32) : Nat → Int32 → Int32 → Option Int32
  | 0, _, _ => none
  | F + 1, v1, v2 =>
    if isV p0 then
      if (pI σ p0 1) ≤ v2 then
        k27 v1
      else
        if pin v2 8 then
          plet (v1 + (pI σ (p0 + 7) (v2).toNatClampNeg)) fun x2 =>
          lX3_allValues_4 σ p0 k27 F x2 (v2 + (1 : Int32))
        else none
    else none
def fX3_allValues (σ : pS) (v : Nat) : Option Int32 :=
  lX3_allValues_4 σ v
    (fun (y3 : Int32) =>
      some y3)
    FU (0 : Int32) (0 : Int32)
def lX3_owedBy_4 (σ : pS) (p0 : Nat) (p1 : Int32) (k42 : Int32 → Option Int32) : Nat → Int32 → Int32 → Option Int32
  | 0, _, _ => none
  | F + 1, v2, v3 =>
    if isV p0 then
      if (pI σ p0 1) ≤ v3 then
        k42 v2
      else
        if pin v3 8 then
          (fX3_holds p1 (pI σ (p0 + 5) (v3).toNatClampNeg)).bind fun r3 =>
          if r3 = 0 then
            lX3_owedBy_4 σ p0 p1 k42 F v2 (v3 + (1 : Int32))
          else
            if pin v3 8 then
              plet (v2 ||| ((1 : Int32) <<< ((pI σ (p0 + 6) (v3).toNatClampNeg) &&& 31))) fun x4 =>
              lX3_owedBy_4 σ p0 p1 k42 F x4 (v3 + (1 : Int32))
            else none
        else none
    else none
def fX3_owedBy (σ : pS) (v : Nat) (a1 : Int32) : Option Int32 :=
  lX3_owedBy_4 σ v a1
    (fun (y5 : Int32) =>
      some y5)
    FU (0 : Int32) (0 : Int32)
def lX3_smallestRing_6 (σ : pS) (p0 : Nat) (p1 : Int32) (k36 : Option Int32) : Nat → Int32 → Int32 → Option Int32
  | 0, _, _ => none
  | F + 1, v2, v3 =>
    if isV p0 then
      if (pI σ p0 0) < v3 then
        k36
      else
        (fX3_owedBy σ p0 v2).bind fun r4 =>
        (fX3_holds r4 p1).bind fun r6 =>
        if r6 = 0 then
          lX3_smallestRing_6 σ p0 p1 k36 F r4 (v3 + (1 : Int32))
        else
          some v3
    else none
def fX3_smallestRing (σ : pS) (v : Nat) (a1 : Int32) : Option Int32 :=
  plet ((1 : Int32) <<< (a1 &&& 31)) fun x1 =>
  lX3_smallestRing_6 σ v a1
    (
      some (0 : Int32))
    FU x1 (1 : Int32)
def lJ7_fill_031fb_5 (p0 : Nat) (p1 : Int32) (p3 : Int32) (k20 : pS → Option (Unit × pS)) : Nat → Int32 → pS → Option (Unit × pS)
  | 0, _, _ => none
  | F + 1, v2, σ =>
    if p3 ≤ v2 then
      k20 σ
    else
      if isA wX 2 p0 then
        if pin v2 (alen wX p0) then
          plet (sI σ p0 (v2).toNatClampNeg (vp_nar .byte p1)) fun σ10 =>
          lJ7_fill_031fb_5 p0 p1 p3 k20 F (v2 + (1 : Int32)) σ10
        else none
      else none
def fJ7_fill_031fb (σ : pS) (a1 : Nat) (a2 : Int32) : Option (Unit × pS) :=
  if isA wX 2 a1 then
    plet (Int32.ofNat (alen wX a1)) fun x5 =>
    lJ7_fill_031fb_5 a1 a2 x5
      (fun (σ11 : pS) =>
        some ((), σ11))
      FU (0 : Int32) σ
  else none
def fX1_handOver (σ : pS) (a1 : Nat) : Option (Nat × pS) :=
  plet (sR σ 1 4 a1) fun σ1 =>
  some ((pR σ 1 4), σ1)
def fX1_isNext (σ : pS) (a1 : Int32) : Option Int32 :=
  if (pI σ 1 1) ≤ (pI σ 1 2) then
    some (0 : Int32)
  else
    if isA wX 2 (pR σ 1 0) then
      if pin (pI σ 1 2) (alen wX (pR σ 1 0)) then
        if (pI σ (pR σ 1 0) ((pI σ 1 2)).toNatClampNeg) = a1 then
          some (1 : Int32)
        else
          some (0 : Int32)
      else none
    else none
def fX1_readSign (σ : pS) (a1 : Int32) : Option (Unit × pS) :=
  plet (
      plet (sI σ 1 3 (1 : Int32)) fun σ2 =>
      some ((), σ2)
    ) fun j1 =>
  if (pI σ 1 3) = 0 then
    (fX1_isNext σ a1).bind fun r4 =>
    if r4 = 0 then
      j1
    else
      plet (sI σ 1 2 ((pI σ 1 2) + (1 : Int32))) fun σ5 =>
      some ((), σ5)
  else
    j1
def fX1_isFigureNext (σ : pS) : Option Int32 :=
  if (pI σ 1 1) ≤ (pI σ 1 2) then
    some (0 : Int32)
  else
    if isA wX 2 (pR σ 1 0) then
      if pin (pI σ 1 2) (alen wX (pR σ 1 0)) then
        if (pI σ (pR σ 1 0) ((pI σ 1 2)).toNatClampNeg) < (48 : Int32) then
          some (0 : Int32)
        else
          if pin (pI σ 1 2) (alen wX (pR σ 1 0)) then
            if (57 : Int32) < (pI σ (pR σ 1 0) ((pI σ 1 2)).toNatClampNeg) then
              some (0 : Int32)
            else
              some (1 : Int32)
          else none
      else none
    else none
def fX1_readFigure (σ : pS) : Option (Int32 × pS) :=
  plet (
      plet (sI σ 1 3 (1 : Int32)) fun σ2 =>
      some ((0 : Int32), σ2)
    ) fun j1 =>
  if (pI σ 1 3) = 0 then
    (fX1_isFigureNext σ).bind fun r4 =>
    if r4 = 0 then
      j1
    else
      if isA wX 2 (pR σ 1 0) then
        if pin (pI σ 1 2) (alen wX (pR σ 1 0)) then
          plet ((pI σ (pR σ 1 0) ((pI σ 1 2)).toNatClampNeg) - (48 : Int32)) fun x9 =>
          plet (sI σ 1 2 ((pI σ 1 2) + (1 : Int32))) fun σ10 =>
          some (x9, σ10)
        else none
      else none
  else
    j1
def fX1_readNumber (σ : pS) (a1 : Int32) (a2 : Int32) : Option (Int32 × pS) :=
  pbind (fX1_readFigure σ) fun r2 σ3 =>
  plet (fun (y5 : Int32) (σ6 : pS) =>
      plet (
          plet (sI σ6 1 3 (1 : Int32)) fun σ8 =>
          some (y5, σ8)
        ) fun j7 =>
      if y5 < a1 then
        j7
      else
        if y5 ≤ a2 then
          some (y5, σ6)
        else
          j7
    ) fun j4 =>
  if (pI σ3 1 3) = 0 then
    (fX1_isFigureNext σ3).bind fun r10 =>
    if r10 = 0 then
      j4 r2 σ3
    else
      pbind (fX1_readFigure σ3) fun r12 σ13 =>
      plet (((10 : Int32) * r2) + r12) fun x14 =>
      j4 x14 σ13
  else
    j4 r2 σ3
def lX1_readSpan_27 (σ : pS) (p2 : Int32) (k53 : Int32 → Option (Int32 × pS)) : Nat → Int32 → Int32 → Option (Int32 × pS)
  | 0, _, _ => none
  | F + 1, v3, v4 =>
    if p2 < v4 then
      k53 v3
    else
      if (pI σ 1 3) = 0 then
        plet (v3 ||| ((1 : Int32) <<< (v4 &&& 31))) fun x10 =>
        lX1_readSpan_27 σ p2 k53 F x10 (v4 + (1 : Int32))
      else
        k53 v3
def fX1_readSpan (σ : pS) : Option (Int32 × pS) :=
  pbind (fX1_readNumber σ (0 : Int32) (11 : Int32)) fun r2 σ3 =>
  pbind (fX1_readSign σ3 (45 : Int32)) fun _ σ6 =>
  pbind (fX1_readNumber σ6 r2 (11 : Int32)) fun r8 σ9 =>
  lX1_readSpan_27 σ9 r8
    (fun (y11 : Int32) =>
      some (y11, σ9))
    FU (0 : Int32) r2
def lX1_readHouseSign_2 (σ : pS) (k47 : Option (Int32 × pS)) : Nat → Int32 → Option (Int32 × pS)
  | 0, _ => none
  | F + 1, v1 =>
    if (6 : Int32) ≤ v1 then
      k47
    else
      if (pI σ 1 3) = 0 then
        if pin v1 6 then
          (fX1_isNext σ (hsg (v1).toNatClampNeg)).bind fun r6 =>
          if r6 = 0 then
            lX1_readHouseSign_2 σ k47 F (v1 + (1 : Int32))
          else
            plet (sI σ 1 2 ((pI σ 1 2) + (1 : Int32))) fun σ7 =>
            some (v1, σ7)
        else none
      else
        k47
def fX1_readHouseSign (σ : pS) : Option (Int32 × pS) :=
  lX1_readHouseSign_2 σ
    (
      plet (sI σ 1 3 (1 : Int32)) fun σ8 =>
      some ((0 : Int32), σ8))
    FU (0 : Int32)
def fX1_readLetter (σ : pS) (a1 : Int32) : Option (Int32 × pS) :=
  plet (
      plet (sI σ 1 3 (1 : Int32)) fun σ2 =>
      some ((0 : Int32), σ2)
    ) fun j1 =>
  if (pI σ 1 3) = 0 then
    if (pI σ 1 1) ≤ (pI σ 1 2) then
      j1
    else
      if isA wX 2 (pR σ 1 0) then
        if pin (pI σ 1 2) (alen wX (pR σ 1 0)) then
          plet ((pI σ (pR σ 1 0) ((pI σ 1 2)).toNatClampNeg) - (65 : Int32)) fun x7 =>
          if isV (pR σ 1 4) then
            (fX3_isPerson σ (pR σ 1 4) x7).bind fun r10 =>
            if r10 = 0 then
              j1
            else
              if x7 = a1 then
                j1
              else
                plet (sI σ 1 2 ((pI σ 1 2) + (1 : Int32))) fun σ11 =>
                some (x7, σ11)
          else none
        else none
      else none
  else
    j1
def lX1_readPerson_65 (p1 : Int32) (p2 : Int32) (k113 : Int32 → pS → Option (Unit × pS)) : Nat → Int32 → Int32 → pS → Option (Unit × pS)
  | 0, _, _, _ => none
  | F + 1, v3, v4, σ =>
    if (pI σ 1 1) ≤ v4 then
      k113 v3 σ
    else
      if (pI σ 1 3) = 0 then
        (fX1_isNext σ (97 : Int32)).bind fun r10 =>
        if r10 = 0 then
          k113 v3 σ
        else
          plet (sI σ 1 2 ((pI σ 1 2) + (1 : Int32))) fun σ11 =>
          pbind (fX1_readSpan σ11) fun r13 σ14 =>
          plet (v3 ||| r13) fun x15 =>
          lX1_readPerson_65 p1 p2 k113 F x15 (v4 + (1 : Int32)) σ14
      else
        k113 v3 σ
def fX1_readPerson (σ : pS) : Option (Unit × pS) :=
  if isV (pR σ 1 4) then
    if (pI σ (pR σ 1 4) 0) < (6 : Int32) then
      plet (sI σ 1 2 ((pI σ 1 2) + (1 : Int32))) fun σ2 =>
      pbind (fX1_readHouseSign σ2) fun r4 σ5 =>
      plet (fun (y7 : Int32) (σ8 : pS) =>
          lX1_readPerson_65 r4 y7
            (fun (y16 : Int32) (σ17 : pS) =>
              if (pI σ17 1 3) = 0 then
                if isV (pR σ17 1 4) then
                  pbind (fX3_addPerson σ17 (pR σ17 1 4) r4 y7 y16) fun _ σ21 =>
                  some ((), σ21)
                else none
              else
                some ((), σ17))
            FU (0 : Int32) (0 : Int32) σ8
        ) fun j6 =>
      if (pI σ5 1 3) = 0 then
        plet (
            pbind (fX1_readLetter σ5 (-9 : Int32)) fun r24 σ25 =>
            j6 r24 σ25
          ) fun j22 =>
        if r4 = (3 : Int32) then
          j22
        else
          if r4 = (4 : Int32) then
            j22
          else
            j6 (-9 : Int32) σ5
      else
        j6 (-9 : Int32) σ5
    else
      plet (sI σ 1 3 (1 : Int32)) fun σ26 =>
      some ((), σ26)
  else none
def fX1_readDebt (σ : pS) : Option (Unit × pS) :=
  if isV (pR σ 1 4) then
    if (pI σ (pR σ 1 4) 1) < (8 : Int32) then
      plet (sI σ 1 2 ((pI σ 1 2) + (1 : Int32))) fun σ2 =>
      pbind (fX1_readLetter σ2 (-9 : Int32)) fun r4 σ5 =>
      pbind (fX1_readLetter σ5 r4) fun r7 σ8 =>
      pbind (fX1_readSign σ8 (58 : Int32)) fun _ σ11 =>
      pbind (fX1_readNumber σ11 (1 : Int32) (99 : Int32)) fun r13 σ14 =>
      pbind (fX1_readSign σ14 (58 : Int32)) fun _ σ17 =>
      pbind (fX1_readFigure σ17) fun r19 σ20 =>
      if (pI σ20 1 3) = 0 then
        if isV (pR σ20 1 4) then
          pbind (fX3_addDebt σ20 (pR σ20 1 4) r4 r7 r13 r19) fun _ σ24 =>
          some ((), σ24)
        else none
      else
        some ((), σ20)
    else
      plet (sI σ 1 3 (1 : Int32)) fun σ25 =>
      some ((), σ25)
  else none
def lX1_read_34 (k125 : pS → Option (Int32 × pS)) : Nat → Int32 → pS → Option (Int32 × pS)
  | 0, _, _ => none
  | F + 1, v3, σ =>
    if (pI σ 1 1) ≤ v3 then
      k125 σ
    else
      if (pI σ 1 1) ≤ (pI σ 1 2) then
        k125 σ
      else
        if (pI σ 1 3) = 0 then
          (fX1_isNext σ (32 : Int32)).bind fun r15 =>
          if r15 = 0 then
            (fX1_isNext σ (112 : Int32)).bind fun r17 =>
            if r17 = 0 then
              (fX1_isNext σ (100 : Int32)).bind fun r19 =>
              if r19 = 0 then
                plet (sI σ 1 3 (1 : Int32)) fun σ20 =>
                lX1_read_34 k125 F (v3 + (1 : Int32)) σ20
              else
                pbind (fX1_readDebt σ) fun _ σ23 =>
                lX1_read_34 k125 F (v3 + (1 : Int32)) σ23
            else
              pbind (fX1_readPerson σ) fun _ σ26 =>
              lX1_read_34 k125 F (v3 + (1 : Int32)) σ26
          else
            plet (sI σ 1 2 ((pI σ 1 2) + (1 : Int32))) fun σ27 =>
            lX1_read_34 k125 F (v3 + (1 : Int32)) σ27
        else
          k125 σ
def fX1_read (σ : pS) (a1 : Nat) (a2 : Int32) : Option (Int32 × pS) :=
  plet (sR σ 1 0 a1) fun σ1 =>
  if isA wX 2 a1 then
    plet (if (Int32.ofNat (alen wX a1)) < a2 then (Int32.ofNat (alen wX a1)) else a2) fun x6 =>
    plet (sI σ1 1 1 x6) fun σ7 =>
    plet (sI σ7 1 2 (0 : Int32)) fun σ8 =>
    plet (sI σ8 1 3 (0 : Int32)) fun σ9 =>
    if isV (pR σ9 1 4) then
      pbind (fX3_clear σ9 (pR σ9 1 4)) fun _ σ13 =>
      lX1_read_34 
        (fun (σ28 : pS) =>
          if (pI σ28 1 3) = 0 then
            some ((-9 : Int32), σ28)
          else
            some ((pI σ28 1 2), σ28))
        FU (0 : Int32) σ13
    else none
  else none
def lX2_learn_35 (σ : pS) (p1 : Nat) (p2 : Int32) (k64 : Int32 → Option (Unit × pS)) : Nat → Int32 → Int32 → Option (Unit × pS)
  | 0, _, _ => none
  | F + 1, v3, v4 =>
    if p2 ≤ v4 then
      k64 v3
    else
      if isV p1 then
        (fX3_clash σ p1 p2 v4).bind fun r6 =>
        if r6 = 0 then
          lX2_learn_35 σ p1 p2 k64 F v3 (v4 + (1 : Int32))
        else
          plet (v3 ||| ((1 : Int32) <<< (v4 &&& 31))) fun x7 =>
          lX2_learn_35 σ p1 p2 k64 F x7 (v4 + (1 : Int32))
      else none
def lX2_learn_72 (p1 : Nat) (p2 : Int32) (p3 : Int32) (p4 : Int32) (k141 : pS → Option (Unit × pS)) : Nat → Int32 → pS → Option (Unit × pS)
  | 0, _, _ => none
  | F + 1, v5, σ =>
    if p4 ≤ v5 then
      k141 σ
    else
      if pin v5 256 then
        plet (fun (y11 : Int32) =>
            if pin (p4 ||| v5) 256 then
              plet (sI σ 12 ((p4 ||| v5)).toNatClampNeg (vp_nar .boolean y11)) fun σ12 =>
              if pin v5 256 then
                if isV p1 then
                  if pin p2 8 then
                    if pin (p4 ||| v5) 256 then
                      plet (sI σ12 13 ((p4 ||| v5)).toNatClampNeg ((pI σ12 13 (v5).toNatClampNeg) + (pI σ12 (p1 + 8) (p2).toNatClampNeg))) fun σ14 =>
                      lX2_learn_72 p1 p2 p3 p4 k141 F (v5 + (1 : Int32)) σ14
                    else none
                  else none
                else none
              else none
            else none
          ) fun j10 =>
        if (pI σ 12 (v5).toNatClampNeg) = 0 then
          j10 (0 : Int32)
        else
          if (v5 &&& p3) = 0 then
            j10 (1 : Int32)
          else
            j10 (0 : Int32)
      else none
def lX2_learn_22 (p1 : Nat) (k147 : pS → Option (Unit × pS)) : Nat → Int32 → pS → Option (Unit × pS)
  | 0, _, _ => none
  | F + 1, v2, σ =>
    if (pI σ 3 0) ≤ v2 then
      k147 σ
    else
      lX2_learn_35 σ p1 v2
        (fun (y8 : Int32) =>
          plet ((1 : Int32) <<< (v2 &&& 31)) fun x9 =>
          lX2_learn_72 p1 v2 y8 x9
            (fun (σ15 : pS) =>
              lX2_learn_22 p1 k147 F (v2 + (1 : Int32)) σ15)
            FU (0 : Int32) σ)
        FU (0 : Int32) (0 : Int32)
def fX2_learn (σ : pS) (a1 : Nat) : Option (Unit × pS) :=
  if isV a1 then
    plet (sI σ 3 0 (pI σ a1 1)) fun σ2 =>
    plet (sI σ2 3 1 (((1 : Int32) <<< ((pI σ2 3 0) &&& 31)) - (1 : Int32))) fun σ3 =>
    lX2_learn_22 a1
      (fun (σ16 : pS) =>
        some ((), σ16))
      FU (0 : Int32) σ3
  else none
def lX2_mostAtOnce_9 (σ : pS) (p1 : Int32) (k40 : Int32 → Option Int32) : Nat → Int32 → Int32 → Option Int32
  | 0, _, _ => none
  | F + 1, v2, v3 =>
    if v3 ≤ 0 then
      k40 v2
    else
      if pin v3 256 then
        plet (fun (y3 : Int32) =>
            plet ((v3 - (1 : Int32)) &&& p1) fun x4 =>
            lX2_mostAtOnce_9 σ p1 k40 F y3 x4
          ) fun j2 =>
        if (pI σ 12 (v3).toNatClampNeg) = 0 then
          j2 v2
        else
          (fJ6_bitCount_0f7a4 v3).bind fun r6 =>
          plet (if v2 < r6 then r6 else v2) fun x7 =>
          j2 x7
      else none
def fX2_mostAtOnce (σ : pS) (a1 : Int32) : Option Int32 :=
  plet (a1 &&& (pI σ 3 1)) fun x1 =>
  lX2_mostAtOnce_9 σ a1
    (fun (y8 : Int32) =>
      some y8)
    FU (0 : Int32) x1
def fX2_lossBy (σ : pS) (a1 : Int32) (a2 : Int32) (a3 : Int32) : Option Int32 :=
  if pin a3 256 then
    if pin (a1 + (1 : Int32)) 13 then
      if pin (a2 ||| a3) 256 then
        some ((a1 * (pI σ 13 (a3).toNatClampNeg)) + (pI σ (33 + ((a1 + (1 : Int32))).toNatClampNeg) ((a2 ||| a3)).toNatClampNeg))
      else none
    else none
  else none
def lX2_lossFrom_26 (σ : pS) (p1 : Int32) (p2 : Int32) (p3 : Int32) (k67 : Int32 → Option Int32) : Nat → Int32 → Int32 → Option Int32
  | 0, _, _ => none
  | F + 1, v4, v5 =>
    if v5 ≤ 0 then
      k67 v4
    else
      if pin v5 256 then
        plet (fun (y5 : Int32) =>
            plet ((v5 - (1 : Int32)) &&& p3) fun x6 =>
            lX2_lossFrom_26 σ p1 p2 p3 k67 F y5 x6
          ) fun j4 =>
        if (pI σ 12 (v5).toNatClampNeg) = 0 then
          j4 v4
        else
          (fX2_lossBy σ p1 p2 v5).bind fun r8 =>
          plet (if r8 < v4 then r8 else v4) fun x9 =>
          j4 x9
      else none
def fX2_lossFrom (σ : pS) (a1 : Int32) (a2 : Int32) : Option Int32 :=
  if pin a1 12 then
    plet ((pI σ 14 (a1).toNatClampNeg) &&& (a2 ^^^ (-1 : Int32))) fun x1 =>
    if pin (a1 + (1 : Int32)) 13 then
      if pin a2 256 then
        plet (pI σ (33 + ((a1 + (1 : Int32))).toNatClampNeg) (a2).toNatClampNeg) fun x3 =>
        lX2_lossFrom_26 σ a1 a2 x1
          (fun (y10 : Int32) =>
            some y10)
          FU x3 x1
      else none
    else none
  else none
def lX2_solveBackFrom_8 (p2 : Int32) (k36 : pS → Option (Unit × pS)) : Nat → Int32 → pS → Option (Unit × pS)
  | 0, _, _ => none
  | F + 1, v3, σ =>
    if (pI σ 3 1) < v3 then
      k36 σ
    else
      if pin p2 13 then
        (fX2_lossFrom σ p2 v3).bind fun r3 =>
        if pin v3 256 then
          plet (sI σ (33 + (p2).toNatClampNeg) (v3).toNatClampNeg r3) fun σ4 =>
          lX2_solveBackFrom_8 p2 k36 F (v3 + (1 : Int32)) σ4
        else none
      else none
def lX2_solveBackFrom_2 (k42 : pS → Option (Unit × pS)) : Nat → Int32 → pS → Option (Unit × pS)
  | 0, _, _ => none
  | F + 1, v2, σ =>
    if v2 < 0 then
      k42 σ
    else
      lX2_solveBackFrom_8 v2
        (fun (σ5 : pS) =>
          lX2_solveBackFrom_2 k42 F (v2 + (-1 : Int32)) σ5)
        FU (0 : Int32) σ
def fX2_solveBackFrom (σ : pS) (a1 : Int32) : Option (Unit × pS) :=
  lX2_solveBackFrom_2 
    (fun (σ6 : pS) =>
      some ((), σ6))
    FU a1 σ
def lX2_solve_2 (p1 : Nat) (k30 : pS → Option (Unit × pS)) : Nat → Int32 → pS → Option (Unit × pS)
  | 0, _, _ => none
  | F + 1, v2, σ =>
    if (12 : Int32) ≤ v2 then
      k30 σ
    else
      if isV p1 then
        (fX3_peopleOut σ p1 v2).bind fun r3 =>
        (fX3_payableDebts σ p1 v2 r3).bind fun r5 =>
        if pin v2 12 then
          plet (sI σ 14 (v2).toNatClampNeg r5) fun σ6 =>
          lX2_solve_2 p1 k30 F (v2 + (1 : Int32)) σ6
        else none
      else none
def lX2_solve_32 (k82 : pS → Option (Unit × pS)) : Nat → Int32 → pS → Option (Unit × pS)
  | 0, _, _ => none
  | F + 1, v2, σ =>
    if (pI σ 3 1) < v2 then
      k82 σ
    else
      plet ((pI σ 3 1) &&& (v2 ^^^ (-1 : Int32))) fun x8 =>
      if pin (12 : Int32) 13 then
        (fJ6_bitCount_0f7a4 x8).bind fun r11 =>
        if pin x8 256 then
          if pin v2 256 then
            plet (sI σ (33 + ((12 : Int32)).toNatClampNeg) (v2).toNatClampNeg (((10000 : Int32) * r11) + ((12 : Int32) * (pI σ 13 (x8).toNatClampNeg)))) fun σ12 =>
            lX2_solve_32 k82 F (v2 + (1 : Int32)) σ12
          else none
        else none
      else none
def fX2_solve (σ : pS) (a1 : Nat) : Option (Unit × pS) :=
  lX2_solve_2 a1
    (fun (σ7 : pS) =>
      lX2_solve_32 
        (fun (σ13 : pS) =>
          pbind (fX2_solveBackFrom σ13 (11 : Int32)) fun _ σ16 =>
          some ((), σ16))
        FU (0 : Int32) σ7)
    FU (0 : Int32) σ
def fX2_leastLoss (σ : pS) : Option Int32 :=
  if pin (0 : Int32) 13 then
    if pin (0 : Int32) 256 then
      some (pI σ (33 + ((0 : Int32)).toNatClampNeg) ((0 : Int32)).toNatClampNeg)
    else none
  else none
def fX2_interestOf (a1 : Int32) : Option Int32 :=
  some (a1 - a1 / (10000 : Int32) * (10000 : Int32))
def fX2_paidOf (σ : pS) (a1 : Int32) : Option Int32 :=
  some ((pI σ 3 0) - (a1 / (10000 : Int32)))
def lX2_leastSet_40 (σ : pS) (p1 : Int32) (p2 : Int32) (p3 : Int32) (k89 : Int32 → Option Int32) : Nat → Int32 → Int32 → Option Int32
  | 0, _, _ => none
  | F + 1, v4, v5 =>
    if v5 ≤ 0 then
      k89 v4
    else
      if pin v5 256 then
        plet (fun (y5 : Int32) =>
            plet ((v5 - (1 : Int32)) &&& p3) fun x6 =>
            lX2_leastSet_40 σ p1 p2 p3 k89 F y5 x6
          ) fun j4 =>
        if (pI σ 12 (v5).toNatClampNeg) = 0 then
          j4 v4
        else
          (fX2_lossBy σ p1 p2 v5).bind fun r8 =>
          if pin p1 13 then
            if pin p2 256 then
              if r8 = (pI σ (33 + (p1).toNatClampNeg) (p2).toNatClampNeg) then
                j4 v5
              else
                j4 v4
            else none
          else none
      else none
def fX2_leastSet (σ : pS) (a1 : Int32) (a2 : Int32) : Option Int32 :=
  if pin (a1 + (1 : Int32)) 13 then
    if pin a2 256 then
      if pin a1 13 then
        if pin a2 256 then
          if (pI σ (33 + ((a1 + (1 : Int32))).toNatClampNeg) (a2).toNatClampNeg) = (pI σ (33 + (a1).toNatClampNeg) (a2).toNatClampNeg) then
            some (0 : Int32)
          else
            if pin a1 12 then
              plet ((pI σ 14 (a1).toNatClampNeg) &&& (a2 ^^^ (-1 : Int32))) fun x3 =>
              lX2_leastSet_40 σ a1 a2 x3
                (fun (y10 : Int32) =>
                  some y10)
                FU (0 : Int32) x3
            else none
        else none
      else none
    else none
  else none
def lX2_trace_29 (p1 : Int32) (p2 : Int32) (p3 : Int32) (k62 : pS → Option (Unit × pS)) : Nat → Int32 → pS → Option (Unit × pS)
  | 0, _, _ => none
  | F + 1, v4, σ =>
    if (pI σ 3 0) ≤ v4 then
      k62 σ
    else
      if ((p3 >>> (v4 &&& 31)) &&& (1 : Int32)) = (1 : Int32) then
        if pin v4 8 then
          plet (sI σ 18 (v4).toNatClampNeg p2) fun σ6 =>
          lX2_trace_29 p1 p2 p3 k62 F (v4 + (1 : Int32)) σ6
        else none
      else
        lX2_trace_29 p1 p2 p3 k62 F (v4 + (1 : Int32)) σ
def lX2_trace_13 (k72 : pS → Option (Unit × pS)) : Nat → Int32 → Int32 → pS → Option (Unit × pS)
  | 0, _, _, _ => none
  | F + 1, v1, v2, σ =>
    if (12 : Int32) ≤ v2 then
      k72 σ
    else
      (fX2_leastSet σ v2 v1).bind fun r5 =>
      lX2_trace_29 v1 v2 r5
        (fun (σ7 : pS) =>
          plet (v1 ||| r5) fun x8 =>
          lX2_trace_13 k72 F x8 (v2 + (1 : Int32)) σ7)
        FU (0 : Int32) σ
def fX2_trace (σ : pS) : Option (Unit × pS) :=
  pbind (fJ7_fill_53178 σ 18 (-9 : Int32)) fun _ σ3 =>
  lX2_trace_13 
    (fun (σ9 : pS) =>
      some ((), σ9))
    FU (0 : Int32) (0 : Int32) σ3
def lX2_paidTo_5 (σ : pS) (p1 : Nat) (p2 : Int32) (k59 : Int32 → Option Int32) : Nat → Int32 → Int32 → Option Int32
  | 0, _, _ => none
  | F + 1, v3, v4 =>
    if (pI σ 3 0) ≤ v4 then
      k59 v3
    else
      if isV p1 then
        if pin v4 8 then
          if (pI σ (p1 + 6) (v4).toNatClampNeg) = p2 then
            if pin v4 8 then
              if (pI σ 18 (v4).toNatClampNeg) = (-9 : Int32) then
                lX2_paidTo_5 σ p1 p2 k59 F v3 (v4 + (1 : Int32))
              else
                if pin v4 8 then
                  (fX3_cost σ p1 v4 (pI σ 18 (v4).toNatClampNeg)).bind fun r3 =>
                  plet (v3 + r3) fun x4 =>
                  lX2_paidTo_5 σ p1 p2 k59 F x4 (v4 + (1 : Int32))
                else none
            else none
          else
            lX2_paidTo_5 σ p1 p2 k59 F v3 (v4 + (1 : Int32))
        else none
      else none
def fX2_paidTo (σ : pS) (a1 : Nat) (a2 : Int32) : Option Int32 :=
  lX2_paidTo_5 σ a1 a2
    (fun (y5 : Int32) =>
      some y5)
    FU (0 : Int32) (0 : Int32)
def fX2_paidWithout (σ : pS) (a1 : Nat) (a2 : Int32) (a3 : Int32) (a4 : Int32) : Option (Int32 × pS) :=
  if pin a3 12 then
    plet (pI σ 14 (a3).toNatClampNeg) fun x1 =>
    if isV a1 then
      (fX3_peopleOut σ a1 a3).bind fun r4 =>
      (fX3_payableDebts σ a1 a3 (r4 &&& (((1 : Int32) <<< (a2 &&& 31)) ^^^ (-1 : Int32)))).bind fun r6 =>
      if r6 = x1 then
        some (a4, σ)
      else
        if pin a3 12 then
          plet (sI σ 14 (a3).toNatClampNeg r6) fun σ7 =>
          pbind (fX2_solveBackFrom σ7 a3) fun _ σ10 =>
          pbind (fX2_trace σ10) fun _ σ13 =>
          if pin a3 12 then
            plet (sI σ13 14 (a3).toNatClampNeg x1) fun σ14 =>
            (fX2_paidTo σ14 a1 a2).bind fun r16 =>
            some (r16, σ14)
          else none
        else none
    else none
  else none
def lX2_passOn_23 (p1 : Int32) (p2 : Int32) (p3 : Int64) (p5 : Int32) (k82 : pS → Option (Unit × pS)) : Nat → Int32 → pS → Option (Unit × pS)
  | 0, _, _ => none
  | F + 1, v6, σ =>
    if v6 ≤ 0 then
      k82 σ
    else
      if pin v6 256 then
        plet (fun (σ4 : pS) =>
            plet ((v6 - (1 : Int32)) &&& p5) fun x5 =>
            lX2_passOn_23 p1 p2 p3 p5 k82 F x5 σ4
          ) fun j3 =>
        if (pI σ 12 (v6).toNatClampNeg) = 0 then
          j3 σ
        else
          (fX2_lossBy σ p1 p2 v6).bind fun r7 =>
          if pin p1 13 then
            if pin p2 256 then
              if r7 = (pI σ (33 + (p1).toNatClampNeg) (p2).toNatClampNeg) then
                if pin (p2 ||| v6) 256 then
                  if pin (p2 ||| v6) 256 then
                    plet (sL σ 17 ((p2 ||| v6)).toNatClampNeg ((pL σ 17 ((p2 ||| v6)).toNatClampNeg) + p3)) fun σ9 =>
                    j3 σ9
                  else none
                else none
              else
                j3 σ
            else none
          else none
      else none
def fX2_passOn (σ : pS) (a1 : Int32) (a2 : Int32) : Option (Unit × pS) :=
  if pin a2 256 then
    plet (pL σ 17 (a2).toNatClampNeg) fun x1 =>
    if pin a1 12 then
      plet ((pI σ 14 (a1).toNatClampNeg) &&& (a2 ^^^ (-1 : Int32))) fun x2 =>
      lX2_passOn_23 a1 a2 x1 x2
        (fun (σ10 : pS) =>
          if pin (a1 + (1 : Int32)) 13 then
            if pin a2 256 then
              if pin a1 13 then
                if pin a2 256 then
                  if (pI σ10 (33 + ((a1 + (1 : Int32))).toNatClampNeg) (a2).toNatClampNeg) = (pI σ10 (33 + (a1).toNatClampNeg) (a2).toNatClampNeg) then
                    some ((), σ10)
                  else
                    if pin a2 256 then
                      plet (sL σ10 17 (a2).toNatClampNeg (0 : Int64)) fun σ13 =>
                      some ((), σ13)
                    else none
                else none
              else none
            else none
          else none)
        FU x2 σ
    else none
  else none
def lX2_countBest_28 (p1 : Int32) (k55 : pS → Option (Int64 × pS)) : Nat → Int32 → pS → Option (Int64 × pS)
  | 0, _, _ => none
  | F + 1, v2, σ =>
    if v2 < 0 then
      k55 σ
    else
      if pin v2 256 then
        if (lg_cmp (pL σ 17 (v2).toNatClampNeg) (0 : Int64)) = 0 then
          lX2_countBest_28 p1 k55 F (v2 + (-1 : Int32)) σ
        else
          pbind (fX2_passOn σ p1 v2) fun _ σ8 =>
          lX2_countBest_28 p1 k55 F (v2 + (-1 : Int32)) σ8
      else none
def lX2_countBest_17 (k61 : pS → Option (Int64 × pS)) : Nat → Int32 → pS → Option (Int64 × pS)
  | 0, _, _ => none
  | F + 1, v1, σ =>
    if (12 : Int32) ≤ v1 then
      k61 σ
    else
      plet (pI σ 3 1) fun x5 =>
      lX2_countBest_28 v1
        (fun (σ9 : pS) =>
          lX2_countBest_17 k61 F (v1 + (1 : Int32)) σ9)
        FU x5 σ
def lX2_countBest_65 (σ : pS) (k88 : Int64 → Option (Int64 × pS)) : Nat → Int64 → Int32 → Option (Int64 × pS)
  | 0, _, _ => none
  | F + 1, v1, v3 =>
    if (pI σ 3 1) < v3 then
      k88 v1
    else
      if pin v3 256 then
        plet (v1 + (pL σ 17 (v3).toNatClampNeg)) fun x11 =>
        lX2_countBest_65 σ k88 F x11 (v3 + (1 : Int32))
      else none
def fX2_countBest (σ : pS) : Option (Int64 × pS) :=
  pbind (fJ7_fill_d0a16 σ 17 (0 : Int64)) fun _ σ3 =>
  if pin (0 : Int32) 256 then
    plet (sL σ3 17 ((0 : Int32)).toNatClampNeg (1 : Int64)) fun σ4 =>
    lX2_countBest_17 
      (fun (σ10 : pS) =>
        lX2_countBest_65 σ10
          (fun (y12 : Int64) =>
            some (y12, σ10))
          FU (0 : Int64) (0 : Int32))
      FU (0 : Int32) σ4
  else none
def fX2_startBefore (σ : pS) : Option (Unit × pS) :=
  pbind (fJ7_fill_53178 σ 16 (1000000 : Int32)) fun _ σ3 =>
  if pin (0 : Int32) 256 then
    plet (sI σ3 16 ((0 : Int32)).toNatClampNeg (0 : Int32)) fun σ4 =>
    some ((), σ4)
  else none
def lX2_passHour_29 (σ : pS) (p1 : Int32) (p2 : Int32) (p3 : Int32) (k83 : Int32 → Option (Unit × pS)) : Nat → Int32 → Int32 → Option (Unit × pS)
  | 0, _, _ => none
  | F + 1, v4, v5 =>
    if v5 ≤ 0 then
      k83 v4
    else
      if pin v5 256 then
        plet (fun (y5 : Int32) =>
            plet ((v5 - (1 : Int32)) &&& p3) fun x6 =>
            lX2_passHour_29 σ p1 p2 p3 k83 F y5 x6
          ) fun j4 =>
        if (pI σ 12 (v5).toNatClampNeg) = 0 then
          j4 v4
        else
          if pin (p2 &&& (v5 ^^^ (-1 : Int32))) 256 then
            if pin v5 256 then
              plet (if ((pI σ 16 ((p2 &&& (v5 ^^^ (-1 : Int32)))).toNatClampNeg) + (p1 * (pI σ 13 (v5).toNatClampNeg))) < v4 then ((pI σ 16 ((p2 &&& (v5 ^^^ (-1 : Int32)))).toNatClampNeg) + (p1 * (pI σ 13 (v5).toNatClampNeg))) else v4) fun x7 =>
              j4 x7
            else none
          else none
      else none
def lX2_passHour_5 (p1 : Int32) (k97 : pS → Option (Unit × pS)) : Nat → Int32 → pS → Option (Unit × pS)
  | 0, _, _ => none
  | F + 1, v2, σ =>
    if v2 < 0 then
      k97 σ
    else
      if pin p1 12 then
        plet ((pI σ 14 (p1).toNatClampNeg) &&& v2) fun x2 =>
        if pin v2 256 then
          plet (pI σ 16 (v2).toNatClampNeg) fun x3 =>
          lX2_passHour_29 σ p1 v2 x2
            (fun (y8 : Int32) =>
              if pin v2 256 then
                plet (sI σ 16 (v2).toNatClampNeg y8) fun σ9 =>
                lX2_passHour_5 p1 k97 F (v2 + (-1 : Int32)) σ9
              else none)
            FU x3 x2
        else none
      else none
def fX2_passHour (σ : pS) (a1 : Int32) : Option (Unit × pS) :=
  plet (pI σ 3 1) fun x1 =>
  lX2_passHour_5 a1
    (fun (σ10 : pS) =>
      some ((), σ10))
    FU x1 σ
def lX2_lossBefore_5 (σ : pS) (k40 : Int32 → Option Int32) : Nat → Int32 → Int32 → Option Int32
  | 0, _, _ => none
  | F + 1, v1, v2 =>
    if (pI σ 3 1) < v2 then
      k40 v1
    else
      if pin v2 256 then
        if pin (12 : Int32) 13 then
          if pin v2 256 then
            plet (if ((pI σ 16 (v2).toNatClampNeg) + (pI σ (33 + ((12 : Int32)).toNatClampNeg) (v2).toNatClampNeg)) < v1 then ((pI σ 16 (v2).toNatClampNeg) + (pI σ (33 + ((12 : Int32)).toNatClampNeg) (v2).toNatClampNeg)) else v1) fun x2 =>
            lX2_lossBefore_5 σ k40 F x2 (v2 + (1 : Int32))
          else none
        else none
      else none
def fX2_lossBefore (σ : pS) : Option Int32 :=
  lX2_lossBefore_5 σ
    (fun (y3 : Int32) =>
      some y3)
    FU (1000000 : Int32) (0 : Int32)
def lX2_leastEnd_6 (k42 : Int32 → pS → Option (Int32 × pS)) : Nat → Int32 → pS → Option (Int32 × pS)
  | 0, _, _ => none
  | F + 1, v1, σ =>
    if (12 : Int32) ≤ v1 then
      k42 v1 σ
    else
      (fX2_lossBefore σ).bind fun r5 =>
      (fX2_paidOf σ r5).bind fun r7 =>
      (fX2_leastLoss σ).bind fun r9 =>
      (fX2_paidOf σ r9).bind fun r11 =>
      if r11 ≤ r7 then
        k42 v1 σ
      else
        pbind (fX2_passHour σ v1) fun _ σ14 =>
        lX2_leastEnd_6 k42 F (v1 + (1 : Int32)) σ14
def fX2_leastEnd (σ : pS) : Option (Int32 × pS) :=
  pbind (fX2_startBefore σ) fun _ σ3 =>
  lX2_leastEnd_6 
    (fun (y15 : Int32) (σ16 : pS) =>
      some (y15, σ16))
    FU (0 : Int32) σ3
def fX2_weighCall (σ : pS) (a1 : Int32) (a2 : Int32) (a3 : Int32) : Option (Unit × pS) :=
  plet (
      plet (sI σ 3 9 a3) fun σ2 =>
      plet (sI σ2 3 10 a1) fun σ3 =>
      plet (sI σ3 3 11 a2) fun σ4 =>
      some ((), σ4)
    ) fun j1 =>
  if (pI σ 3 10) = (-9 : Int32) then
    j1
  else
    if a3 < (pI σ 3 9) then
      j1
    else
      if a3 = (pI σ 3 9) then
        if (pI σ 3 10) ≤ a1 then
          some ((), σ)
        else
          j1
      else
        some ((), σ)
def lX2_lossWith_31 (σ : pS) (p1 : Int32) (p3 : Int32) (k80 : Int32 → Option (Int32 × pS)) : Nat → Int32 → Int32 → Option (Int32 × pS)
  | 0, _, _ => none
  | F + 1, v4, v5 =>
    if (pI σ 3 1) < v5 then
      k80 v4
    else
      if pin v5 256 then
        if (1000000 : Int32) ≤ (pI σ 16 (v5).toNatClampNeg) then
          lX2_lossWith_31 σ p1 p3 k80 F v4 (v5 + (1 : Int32))
        else
          if pin v5 256 then
            (fX2_lossFrom σ p1 v5).bind fun r4 =>
            plet (if ((pI σ 16 (v5).toNatClampNeg) + r4) < v4 then ((pI σ 16 (v5).toNatClampNeg) + r4) else v4) fun x5 =>
            lX2_lossWith_31 σ p1 p3 k80 F x5 (v5 + (1 : Int32))
          else none
      else none
def fX2_lossWith (σ : pS) (a1 : Int32) (a2 : Int32) : Option (Int32 × pS) :=
  if pin a1 12 then
    plet (pI σ 14 (a1).toNatClampNeg) fun x1 =>
    if a2 = x1 then
      (fX2_leastLoss σ).bind fun r9 =>
      some (r9, σ)
    else
      if pin a1 12 then
        plet (sI σ 14 (a1).toNatClampNeg a2) fun σ2 =>
        lX2_lossWith_31 σ2 a1 x1
          (fun (y6 : Int32) =>
            if pin a1 12 then
              plet (sI σ2 14 (a1).toNatClampNeg x1) fun σ7 =>
              some (y6, σ7)
            else none)
          FU (1000000 : Int32) (0 : Int32)
      else none
  else none
def lX2_findCall_27 (p1 : Nat) (p2 : Int32) (p3 : Int32) (k86 : pS → Option (Int32 × pS)) : Nat → Int32 → pS → Option (Int32 × pS)
  | 0, _, _ => none
  | F + 1, v4, σ =>
    if isV p1 then
      if (pI σ p1 0) ≤ v4 then
        k86 σ
      else
        if ((p3 >>> (v4 &&& 31)) &&& (1 : Int32)) = 0 then
          (fX3_payableDebts σ p1 p2 (p3 ||| ((1 : Int32) <<< (v4 &&& 31)))).bind fun r10 =>
          pbind (fX2_lossWith σ p2 r10) fun r12 σ13 =>
          if pin v4 6 then
            plet (r12 + (pI σ13 (p1 + 4) (v4).toNatClampNeg)) fun x14 =>
            pbind (fX2_weighCall σ13 v4 p2 x14) fun _ σ17 =>
            lX2_findCall_27 p1 p2 p3 k86 F (v4 + (1 : Int32)) σ17
          else none
        else
          lX2_findCall_27 p1 p2 p3 k86 F (v4 + (1 : Int32)) σ
    else none
def lX2_findCall_12 (p1 : Nat) (k97 : pS → Option (Int32 × pS)) : Nat → Int32 → pS → Option (Int32 × pS)
  | 0, _, _ => none
  | F + 1, v2, σ =>
    if (12 : Int32) ≤ v2 then
      k97 σ
    else
      if isV p1 then
        (fX3_peopleOut σ p1 v2).bind fun r7 =>
        lX2_findCall_27 p1 v2 r7
          (fun (σ18 : pS) =>
            pbind (fX2_passHour σ18 v2) fun _ σ21 =>
            lX2_findCall_12 p1 k97 F (v2 + (1 : Int32)) σ21)
          FU (0 : Int32) σ
      else none
def fX2_findCall (σ : pS) (a1 : Nat) : Option (Int32 × pS) :=
  plet (sI σ 3 10 (-9 : Int32)) fun σ1 =>
  pbind (fX2_startBefore σ1) fun _ σ4 =>
  lX2_findCall_12 a1
    (fun (σ22 : pS) =>
      if (pI σ22 3 10) = (-9 : Int32) then
        some ((0 : Int32), σ22)
      else
        some ((1 : Int32), σ22))
    FU (0 : Int32) σ4
def fX4_find (σ : pS) (a1 : Int32) : Option (Int32 × pS) :=
  plet (sI σ 0 12 a1) fun σ1 =>
  if pin a1 6 then
    if pin a1 6 then
      plet (sI σ1 8 (a1).toNatClampNeg ((pI σ1 8 (a1).toNatClampNeg) + (1 : Int32))) fun σ2 =>
      some ((-3 : Int32), σ2)
    else none
  else none
def fX4_isRow (a1 : Int32) : Option Int32 :=
  if a1 < 0 then
    some (0 : Int32)
  else
    if (6 : Int32) ≤ a1 then
      some (0 : Int32)
    else
      some (1 : Int32)
def fX4_layOutRow (σ : pS) (a1 : Int32) (a2 : Int32) (a3 : Int32) : Option (Unit × pS) :=
  if pin a1 6 then
    pbind (fJ7_fill_53178 σ (20 + (a1).toNatClampNeg) a3) fun _ σ4 =>
    if pin a1 6 then
      plet (sI σ4 5 (a1).toNatClampNeg a2) fun σ5 =>
      some ((), σ5)
    else none
  else none
def fX4_row (σ : pS) (a1 : Int32) (a2 : Int32) : Option (Int32 × pS) :=
  (fX4_isRow a1).bind fun r2 =>
  if r2 = 0 then
    some ((-1 : Int32), σ)
  else
    if a2 ≤ (60 : Int32) then
      if 0 ≤ a2 then
        pbind (fX4_layOutRow σ a1 a2 (0 : Int32)) fun _ σ5 =>
        some (a2, σ5)
      else
        pbind (fX4_find σ (5 : Int32)) fun r7 σ8 =>
        some (r7, σ8)
    else
      some ((-1 : Int32), σ)
def fX4_hasPlaces (a1 : Int32) (a2 : Int32) (a3 : Int32) : Option Int32 :=
  if a2 < 0 then
    some (0 : Int32)
  else
    if a1 < a2 then
      some (0 : Int32)
    else
      if (a1 - a2) < a3 then
        some (0 : Int32)
      else
        some (1 : Int32)
def fX4_refusePlace (σ : pS) (a1 : Int32) (a2 : Int32) : Option (Int32 × pS) :=
  (fX4_isRow a1).bind fun r2 =>
  if r2 = 0 then
    some ((-1 : Int32), σ)
  else
    if pin a1 6 then
      if (pI σ 5 (a1).toNatClampNeg) = (-1 : Int32) then
        pbind (fX4_find σ (1 : Int32)) fun r9 σ10 =>
        some (r9, σ10)
      else
        if pin a1 6 then
          (fX4_hasPlaces (pI σ 5 (a1).toNatClampNeg) a2 (1 : Int32)).bind fun r4 =>
          if r4 = 0 then
            pbind (fX4_find σ (2 : Int32)) fun r6 σ7 =>
            some (r6, σ7)
          else
            some ((0 : Int32), σ)
        else none
    else none
def fX4_lay (σ : pS) (a1 : Int32) (a2 : Int32) (a3 : Int32) : Option (Int32 × pS) :=
  pbind (fX4_refusePlace σ a1 a2) fun r2 σ3 =>
  if r2 = 0 then
    if pin a1 6 then
      if pin a2 60 then
        plet (sI σ3 0 9 (pI σ3 (20 + (a1).toNatClampNeg) (a2).toNatClampNeg)) fun σ5 =>
        if pin a1 6 then
          if pin a2 60 then
            plet (sI σ5 (20 + (a1).toNatClampNeg) (a2).toNatClampNeg a3) fun σ7 =>
            some ((1 : Int32), σ7)
          else none
        else none
      else none
    else none
  else
    some (r2, σ3)
def fX4_at (σ : pS) (a1 : Int32) (a2 : Int32) : Option (Int32 × pS) :=
  pbind (fX4_refusePlace σ a1 a2) fun r2 σ3 =>
  if r2 = 0 then
    if pin a1 6 then
      if pin a2 60 then
        plet (sI σ3 0 9 (pI σ3 (20 + (a1).toNatClampNeg) (a2).toNatClampNeg)) fun σ5 =>
        some ((1 : Int32), σ5)
      else none
    else none
  else
    some (r2, σ3)
def fX4_tear (σ : pS) (a1 : Int32) : Option (Int32 × pS) :=
  (fX4_isRow a1).bind fun r2 =>
  if r2 = 0 then
    some ((-1 : Int32), σ)
  else
    if pin a1 6 then
      if (pI σ 5 (a1).toNatClampNeg) = (-1 : Int32) then
        pbind (fX4_find σ (1 : Int32)) fun r5 σ6 =>
        some (r5, σ6)
      else
        if pin a1 6 then
          plet (sI σ 5 (a1).toNatClampNeg (-1 : Int32)) fun σ3 =>
          some ((1 : Int32), σ3)
        else none
    else none
def fX4_copy (σ : pS) (a1 : Int32) (a2 : Int32) (a3 : Int32) (a4 : Int32) (a5 : Int32) : Option (Int32 × pS) :=
  (fX4_isRow a1).bind fun r2 =>
  if r2 = 0 then
    some ((-1 : Int32), σ)
  else
    (fX4_isRow a3).bind fun r4 =>
    if r4 = 0 then
      some ((-1 : Int32), σ)
    else
      if 0 ≤ a5 then
        if pin a1 6 then
          plet (
              pbind (fX4_find σ (1 : Int32)) fun r7 σ8 =>
              some (r7, σ8)
            ) fun j5 =>
          if (pI σ 5 (a1).toNatClampNeg) = (-1 : Int32) then
            j5
          else
            if pin a3 6 then
              if (pI σ 5 (a3).toNatClampNeg) = (-1 : Int32) then
                j5
              else
                if pin a1 6 then
                  (fX4_hasPlaces (pI σ 5 (a1).toNatClampNeg) a2 a5).bind fun r10 =>
                  plet (
                      pbind (fX4_find σ (2 : Int32)) fun r13 σ14 =>
                      some (r13, σ14)
                    ) fun j11 =>
                  if r10 = 0 then
                    j11
                  else
                    if pin a3 6 then
                      (fX4_hasPlaces (pI σ 5 (a3).toNatClampNeg) a4 a5).bind fun r16 =>
                      if r16 = 0 then
                        j11
                      else
                        if pin a1 6 then
                          if pin a3 6 then
                            if pcp wX (20 + (a1).toNatClampNeg) (20 + (a3).toNatClampNeg) 60 60 a2 a4 a5 then
                              plet (sF σ (20 + (a3).toNatClampNeg) (va_cpy (σ.1 (20 + (a1).toNatClampNeg)) (σ.1 (20 + (a3).toNatClampNeg)) (a2).toNatClampNeg (a4).toNatClampNeg (a5).toNatClampNeg)) fun σ19 =>
                              some ((1 : Int32), σ19)
                            else none
                          else none
                        else none
                    else none
                else none
            else none
        else none
      else
        pbind (fX4_find σ (5 : Int32)) fun r21 σ22 =>
        some (r21, σ22)
def lX4_mean_43 (σ : pS) (p1 : Int32) (p2 : Int32) (k68 : Int64 → Option (Int32 × pS)) : Nat → Int64 → Int32 → Option (Int32 × pS)
  | 0, _, _ => none
  | F + 1, v3, v5 =>
    if p2 ≤ v5 then
      k68 v3
    else
      if pin p1 6 then
        if pin v5 60 then
          plet (v3 + ((pI σ (20 + (p1).toNatClampNeg) (v5).toNatClampNeg)).toInt64) fun x5 =>
          lX4_mean_43 σ p1 p2 k68 F x5 (v5 + (1 : Int32))
        else none
      else none
def fX4_mean (σ : pS) (a1 : Int32) : Option (Int32 × pS) :=
  (fX4_isRow a1).bind fun r2 =>
  if r2 = 0 then
    some ((-1 : Int32), σ)
  else
    if pin a1 6 then
      plet (pI σ 5 (a1).toNatClampNeg) fun x3 =>
      if x3 = (-1 : Int32) then
        pbind (fX4_find σ (1 : Int32)) fun r12 σ13 =>
        some (r12, σ13)
      else
        if (1 : Int32) ≤ x3 then
          lX4_mean_43 σ a1 x3
            (fun (y6 : Int64) =>
              if (x3).toInt64 = 0 then none else
              plet (sI σ 0 9 ((y6 / (x3).toInt64)).toInt32) fun σ7 =>
              some ((1 : Int32), σ7))
            FU (0 : Int64) (0 : Int32)
        else
          pbind (fX4_find σ (4 : Int32)) fun r9 σ10 =>
          some (r9, σ10)
    else none
def fX4_isText (a1 : Int32) : Option Int32 :=
  if a1 < 0 then
    some (0 : Int32)
  else
    if (4 : Int32) ≤ a1 then
      some (0 : Int32)
    else
      some (1 : Int32)
def fX4_text (σ : pS) (a1 : Int32) (a2 : Int32) : Option (Int32 × pS) :=
  (fX4_isText a1).bind fun r2 =>
  if r2 = 0 then
    some ((-1 : Int32), σ)
  else
    if a2 ≤ (120 : Int32) then
      if 0 ≤ a2 then
        if pin a1 4 then
          pbind (fJ7_fill_031fb σ (26 + (a1).toNatClampNeg) (32 : Int32)) fun _ σ6 =>
          if pin a1 4 then
            plet (sI σ6 7 (a1).toNatClampNeg a2) fun σ7 =>
            some (a2, σ7)
          else none
        else none
      else
        pbind (fX4_find σ (5 : Int32)) fun r9 σ10 =>
        some (r9, σ10)
    else
      some ((-1 : Int32), σ)
def fX4_put (σ : pS) (a1 : Int32) (a2 : Int32) (a3 : Int32) : Option (Int32 × pS) :=
  (fX4_isText a1).bind fun r2 =>
  if r2 = 0 then
    some ((-1 : Int32), σ)
  else
    if pin a1 4 then
      if (pI σ 7 (a1).toNatClampNeg) = (-1 : Int32) then
        pbind (fX4_find σ (1 : Int32)) fun r13 σ14 =>
        some (r13, σ14)
      else
        if pin a1 4 then
          (fX4_hasPlaces (pI σ 7 (a1).toNatClampNeg) a2 (1 : Int32)).bind fun r4 =>
          if r4 = 0 then
            pbind (fX4_find σ (2 : Int32)) fun r10 σ11 =>
            some (r10, σ11)
          else
            if pin a1 4 then
              if pin a2 120 then
                plet (pI σ (26 + (a1).toNatClampNeg) (a2).toNatClampNeg) fun x6 =>
                if pin a1 4 then
                  if pin a2 120 then
                    plet (sI σ (26 + (a1).toNatClampNeg) (a2).toNatClampNeg (vp_nar .byte (a3).toInt8.toInt32)) fun σ8 =>
                    some ((x6 + (1000 : Int32)), σ8)
                  else none
                else none
              else none
            else none
        else none
    else none
def fX4_fault (σ : pS) (a1 : Int32) : Option (Int32 × pS) :=
  (fX4_isText a1).bind fun r2 =>
  if r2 = 0 then
    some ((-1 : Int32), σ)
  else
    if pin a1 4 then
      if (pI σ 7 (a1).toNatClampNeg) = (-1 : Int32) then
        pbind (fX4_find σ (1 : Int32)) fun r8 σ9 =>
        some (r8, σ9)
      else
        if pin a1 4 then
          if pin a1 4 then
            pbind (fX1_read σ (26 + (a1).toNatClampNeg) (pI σ 7 (a1).toNatClampNeg)) fun r5 σ6 =>
            some (r5, σ6)
          else none
        else none
    else none
def fX4_village (σ : pS) (a1 : Int32) : Option (Int32 × pS) :=
  (fX4_isText a1).bind fun r2 =>
  if r2 = 0 then
    some ((-1 : Int32), σ)
  else
    if pin a1 4 then
      if (pI σ 7 (a1).toNatClampNeg) = (-1 : Int32) then
        pbind (fX4_find σ (1 : Int32)) fun r19 σ20 =>
        some (r19, σ20)
      else
        if pin a1 4 then
          if pin a1 4 then
            pbind (fX1_read σ (26 + (a1).toNatClampNeg) (pI σ 7 (a1).toNatClampNeg)) fun r5 σ6 =>
            if r5 = (-9 : Int32) then
              pbind (fX1_handOver σ6 (pR σ6 0 8)) fun r8 σ9 =>
              plet (sR σ9 0 8 r8) fun σ10 =>
              pbind (fX0_forget σ10) fun _ σ13 =>
              pbind (fX2_learn σ13 (pR σ13 0 8)) fun _ σ16 =>
              if isV (pR σ16 0 8) then
                some ((pI σ16 (pR σ16 0 8) 0), σ16)
              else none
            else
              some ((-4 : Int32), σ6)
          else none
        else none
    else none
def fX4_one (σ : pS) (a1 : Int32) (a2 : Int32) : Option (Int32 × pS) :=
  if isV (pR σ 0 8) then
    (fX3_isPerson σ (pR σ 0 8) a1).bind fun r3 =>
    if r3 = 0 then
      some ((-1 : Int32), σ)
    else
      if a2 < 0 then
        some ((-1 : Int32), σ)
      else
        if a2 ≤ (3 : Int32) then
          (fX3_ofPerson σ (pR σ 0 8) a1 a2).bind fun r5 =>
          plet (sI σ 0 9 r5) fun σ6 =>
          some ((1 : Int32), σ6)
        else
          some ((-1 : Int32), σ)
  else none
def fX4_mark (σ : pS) (a1 : Int32) (a2 : Int32) : Option (Int32 × pS) :=
  if isV (pR σ 0 8) then
    (fX3_isPerson σ (pR σ 0 8) a1).bind fun r3 =>
    if r3 = 0 then
      some ((-1 : Int32), σ)
    else
      if a2 ≤ 0 then
        some ((-1 : Int32), σ)
      else
        if a2 ≤ (5 : Int32) then
          (fX3_isOfKind σ (pR σ 0 8) a1 a2).bind fun r5 =>
          if r5 = 0 then
            pbind (fX4_find σ (3 : Int32)) fun r9 σ10 =>
            some (r9, σ10)
          else
            (fX3_houseTells σ (pR σ 0 8) a1 a2).bind fun r7 =>
            some (r7, σ)
        else
          some ((-1 : Int32), σ)
  else none
def fX4_ofDebt (σ : pS) (a1 : Int32) (a2 : Int32) : Option Int32 :=
  if a2 = (0 : Int32) then
    if isV (pR σ 0 8) then
      if pin a1 8 then
        some (pI σ ((pR σ 0 8) + 5) (a1).toNatClampNeg)
      else none
    else none
  else
  if a2 = (1 : Int32) then
    if isV (pR σ 0 8) then
      if pin a1 8 then
        some (pI σ ((pR σ 0 8) + 6) (a1).toNatClampNeg)
      else none
    else none
  else
  if a2 = (2 : Int32) then
    if isV (pR σ 0 8) then
      if pin a1 8 then
        some (pI σ ((pR σ 0 8) + 7) (a1).toNatClampNeg)
      else none
    else none
  else
  if a2 = (3 : Int32) then
    if isV (pR σ 0 8) then
      if pin a1 8 then
        some (pI σ ((pR σ 0 8) + 8) (a1).toNatClampNeg)
      else none
    else none
  else
  if pin a1 8 then
    some (pI σ 9 (a1).toNatClampNeg)
  else none
def fX4_debt (σ : pS) (a1 : Int32) (a2 : Int32) : Option (Int32 × pS) :=
  if isV (pR σ 0 8) then
    (fX3_isDebt σ (pR σ 0 8) a1).bind fun r3 =>
    if r3 = 0 then
      some ((-1 : Int32), σ)
    else
      if a2 < 0 then
        some ((-1 : Int32), σ)
      else
        if a2 ≤ (4 : Int32) then
          (fX4_ofDebt σ a1 a2).bind fun r5 =>
          plet (sI σ 0 9 r5) fun σ6 =>
          some ((1 : Int32), σ6)
        else
          some ((-1 : Int32), σ)
  else none
def fX4_law (σ : pS) (a1 : Int32) : Option (Int32 × pS) :=
  if a1 < 0 then
    some ((-1 : Int32), σ)
  else
    if a1 < (4 : Int32) then
      if isV (pR σ 0 8) then
        plet (pI σ (pR σ 0 8) 2) fun x2 =>
        plet (sI σ (pR σ 0 8) 2 a1) fun σ3 =>
        some (x2, σ3)
      else none
    else
      some ((-1 : Int32), σ)
def fX4_cards (σ : pS) (a1 : Int32) (a2 : Int32) : Option (Int32 × pS) :=
  if isV (pR σ 0 8) then
    (fX3_isPerson σ (pR σ 0 8) a1).bind fun r3 =>
    if r3 = 0 then
      some ((-1 : Int32), σ)
    else
      if a2 < 0 then
        some ((-1 : Int32), σ)
      else
        if a2 ≤ (99 : Int32) then
          if pin a1 6 then
            plet (pI σ ((pR σ 0 8) + 4) (a1).toNatClampNeg) fun x4 =>
            if pin a1 6 then
              plet (sI σ ((pR σ 0 8) + 4) (a1).toNatClampNeg a2) fun σ5 =>
              some (x4, σ5)
            else none
          else none
        else
          some ((-1 : Int32), σ)
  else none
def fX4_isHour (a1 : Int32) : Option Int32 :=
  if a1 < 0 then
    some (0 : Int32)
  else
    if (12 : Int32) ≤ a1 then
      some (0 : Int32)
    else
      some (1 : Int32)
def fX4_habit (σ : pS) (a1 : Int32) (a2 : Int32) (a3 : Int32) : Option (Int32 × pS) :=
  if isV (pR σ 0 8) then
    (fX3_isPerson σ (pR σ 0 8) a1).bind fun r3 =>
    if r3 = 0 then
      some ((-1 : Int32), σ)
    else
      (fX4_isHour a2).bind fun r5 =>
      if r5 = 0 then
        some ((-1 : Int32), σ)
      else
        if a3 < 0 then
          some ((-1 : Int32), σ)
        else
          if a3 ≤ (1 : Int32) then
            if pin a1 6 then
              plet (((pI σ ((pR σ 0 8) + 3) (a1).toNatClampNeg) >>> (a2 &&& 31)) &&& (1 : Int32)) fun x6 =>
              if pin a1 6 then
                if pin a1 6 then
                  plet (sI σ ((pR σ 0 8) + 3) (a1).toNatClampNeg (((pI σ ((pR σ 0 8) + 3) (a1).toNatClampNeg) &&& (((1 : Int32) <<< (a2 &&& 31)) ^^^ (-1 : Int32))) ||| (a3 <<< (a2 &&& 31)))) fun σ7 =>
                  some (x6, σ7)
                else none
              else none
            else none
          else
            some ((-1 : Int32), σ)
  else none
def fX4_empty (σ : pS) (a1 : Int32) : Option Int32 :=
  if isV (pR σ 0 8) then
    (fX3_isPerson σ (pR σ 0 8) a1).bind fun r3 =>
    if r3 = 0 then
      some (-1 : Int32)
    else
      (fX3_emptyHours σ (pR σ 0 8) a1).bind fun r5 =>
      some r5
  else none
def fX4_when (σ : pS) (a1 : Int32) : Option Int32 :=
  if isV (pR σ 0 8) then
    (fX3_isDebt σ (pR σ 0 8) a1).bind fun r3 =>
    if r3 = 0 then
      some (-1 : Int32)
    else
      (fX3_payableHours σ (pR σ 0 8) a1).bind fun r5 =>
      some r5
  else none
def fX4_hour (σ : pS) (a1 : Int32) : Option (Int32 × pS) :=
  (fX4_isHour a1).bind fun r2 =>
  if r2 = 0 then
    some ((-1 : Int32), σ)
  else
    if isV (pR σ 0 8) then
      (fX3_peopleOut σ (pR σ 0 8) a1).bind fun r5 =>
      (fX3_payableDebts σ (pR σ 0 8) a1 r5).bind fun r7 =>
      (fX2_mostAtOnce σ r7).bind fun r9 =>
      plet (sI σ 0 9 r9) fun σ10 =>
      some (r7, σ10)
    else none
def lX4_refuseRound_49 (σ : pS) (p1 : Int32) (k99 : Option (Int32 × pS)) : Nat → Int32 → Option (Int32 × pS)
  | 0, _ => none
  | F + 1, v2 =>
    if isV (pR σ 0 8) then
      if (pI σ (pR σ 0 8) 1) ≤ v2 then
        k99
      else
        if pin p1 6 then
          if pin v2 60 then
            (fX4_isHour (pI σ (20 + (p1).toNatClampNeg) (v2).toNatClampNeg)).bind fun r7 =>
            if r7 = 0 then
              if pin p1 6 then
                if pin v2 60 then
                  if (pI σ (20 + (p1).toNatClampNeg) (v2).toNatClampNeg) = (-9 : Int32) then
                    lX4_refuseRound_49 σ p1 k99 F (v2 + (1 : Int32))
                  else
                    pbind (fX4_find σ (3 : Int32)) fun r10 σ11 =>
                    some (r10, σ11)
                else none
              else none
            else
              lX4_refuseRound_49 σ p1 k99 F (v2 + (1 : Int32))
          else none
        else none
    else none
def fX4_refuseRound (σ : pS) (a1 : Int32) : Option (Int32 × pS) :=
  (fX4_isRow a1).bind fun r2 =>
  if r2 = 0 then
    some ((-1 : Int32), σ)
  else
    if pin a1 6 then
      if (pI σ 5 (a1).toNatClampNeg) = (-1 : Int32) then
        pbind (fX4_find σ (1 : Int32)) fun r16 σ17 =>
        some (r16, σ17)
      else
        if pin a1 6 then
          if isV (pR σ 0 8) then
            if (pI σ 5 (a1).toNatClampNeg) = (pI σ (pR σ 0 8) 1) then
              lX4_refuseRound_49 σ a1
                (
                  some ((0 : Int32), σ))
                FU (0 : Int32)
            else
              pbind (fX4_find σ (5 : Int32)) fun r13 σ14 =>
              some (r13, σ14)
          else none
        else none
    else none
def lX4_whatIsAmiss_40 (σ : pS) (p1 : Nat) (p2 : Int32) (p3 : Int32) (k109 : Int32 → Option Int32) : Nat → Int32 → Int32 → Option Int32
  | 0, _, _ => none
  | F + 1, v4, v5 =>
    if p2 ≤ v5 then
      k109 v4
    else
      if isA wX 0 p1 then
        if pin v5 (alen wX p1) then
          if (pI σ p1 (v5).toNatClampNeg) = p3 then
            if isV (pR σ 0 8) then
              if pin v5 8 then
                if pin p2 8 then
                  if (pI σ ((pR σ 0 8) + 5) (v5).toNatClampNeg) = (pI σ ((pR σ 0 8) + 5) (p2).toNatClampNeg) then
                    some (2 : Int32)
                  else
                    if pin v5 8 then
                      if pin p2 8 then
                        if (pI σ ((pR σ 0 8) + 6) (v5).toNatClampNeg) = (pI σ ((pR σ 0 8) + 6) (p2).toNatClampNeg) then
                          lX4_whatIsAmiss_40 σ p1 p2 p3 k109 F (1 : Int32) (v5 + (1 : Int32))
                        else
                          lX4_whatIsAmiss_40 σ p1 p2 p3 k109 F v4 (v5 + (1 : Int32))
                      else none
                    else none
                else none
              else none
            else none
          else
            lX4_whatIsAmiss_40 σ p1 p2 p3 k109 F v4 (v5 + (1 : Int32))
        else none
      else none
def fX4_whatIsAmiss (σ : pS) (a1 : Nat) (a2 : Int32) : Option Int32 :=
  if isA wX 0 a1 then
    if pin a2 (alen wX a1) then
      plet (pI σ a1 (a2).toNatClampNeg) fun x5 =>
      if x5 = (-9 : Int32) then
        some (0 : Int32)
      else
        if isV (pR σ 0 8) then
          (fX3_peopleOut σ (pR σ 0 8) x5).bind fun r8 =>
          (fX3_isPayable σ (pR σ 0 8) a2 x5 r8).bind fun r10 =>
          if r10 = 0 then
            some (1 : Int32)
          else
            lX4_whatIsAmiss_40 σ a1 a2 x5
              (fun (y16 : Int32) =>
                if y16 = 0 then
                  some (0 : Int32)
                else
                  some (3 : Int32))
              FU (0 : Int32) (0 : Int32)
        else none
    else none
  else none
def lX4_firstAmiss_2 (σ : pS) (p1 : Nat) (k30 : Option Int32) : Nat → Int32 → Option Int32
  | 0, _ => none
  | F + 1, v2 =>
    if isV (pR σ 0 8) then
      if (pI σ (pR σ 0 8) 1) ≤ v2 then
        k30
      else
        (fX4_whatIsAmiss σ p1 v2).bind fun r3 =>
        if r3 = 0 then
          lX4_firstAmiss_2 σ p1 k30 F (v2 + (1 : Int32))
        else
          some v2
    else none
def fX4_firstAmiss (σ : pS) (a1 : Nat) : Option Int32 :=
  lX4_firstAmiss_2 σ a1
    (
      some (-9 : Int32))
    FU (0 : Int32)
def fX4_judge (σ : pS) (a1 : Int32) : Option (Int32 × pS) :=
  pbind (fX4_refuseRound σ a1) fun r2 σ3 =>
  if r2 = 0 then
    if pin a1 6 then
      (fX4_firstAmiss σ3 (20 + (a1).toNatClampNeg)).bind fun r6 =>
      plet (fun (y8 : Int32) =>
          plet (sI σ3 0 9 y8) fun σ9 =>
          if r6 = (-9 : Int32) then
            some ((0 : Int32), σ9)
          else
            if pin a1 6 then
              (fX4_whatIsAmiss σ9 (20 + (a1).toNatClampNeg) r6).bind fun r12 =>
              some (r12, σ9)
            else none
        ) fun j7 =>
      if r6 = (-9 : Int32) then
        j7 (0 : Int32)
      else
        j7 r6
    else none
  else
    some (r2, σ3)
def lX4_worth_41 (σ : pS) (p1 : Int32) (k95 : Int32 → Int32 → Option (Int32 × pS)) : Nat → Int32 → Int32 → Int32 → Option (Int32 × pS)
  | 0, _, _, _ => none
  | F + 1, v3, v4, v5 =>
    if isV (pR σ 0 8) then
      if (pI σ (pR σ 0 8) 1) ≤ v5 then
        k95 v3 v4
      else
        if pin p1 6 then
          if pin v5 60 then
            plet (pI σ (20 + (p1).toNatClampNeg) (v5).toNatClampNeg) fun x9 =>
            (fX3_cost σ (pR σ 0 8) v5 x9).bind fun r11 =>
            plet (v3 + r11) fun x12 =>
            plet (if v4 < (x9 + (1 : Int32)) then (x9 + (1 : Int32)) else v4) fun x13 =>
            lX4_worth_41 σ p1 k95 F x12 x13 (v5 + (1 : Int32))
          else none
        else none
    else none
def fX4_worth (σ : pS) (a1 : Int32) : Option (Int32 × pS) :=
  pbind (fX4_refuseRound σ a1) fun r2 σ3 =>
  if r2 = 0 then
    if pin a1 6 then
      (fX4_firstAmiss σ3 (20 + (a1).toNatClampNeg)).bind fun r6 =>
      if r6 = (-9 : Int32) then
        lX4_worth_41 σ3 a1
          (fun (y14 : Int32) (y15 : Int32) =>
            plet (sI σ3 0 9 y15) fun σ16 =>
            some (y14, σ16))
          FU (0 : Int32) (0 : Int32) (0 : Int32)
      else
        pbind (fX4_find σ3 (3 : Int32)) fun r18 σ19 =>
        some (r18, σ19)
    else none
  else
    some (r2, σ3)
def fX4_best (σ : pS) (a1 : Int32) : Option (Int32 × pS) :=
  (fX4_isRow a1).bind fun r2 =>
  if r2 = 0 then
    some ((-1 : Int32), σ)
  else
    pbind (fX2_solve σ (pR σ 0 8)) fun _ σ5 =>
    pbind (fX2_trace σ5) fun _ σ8 =>
    if isV (pR σ8 0 8) then
      pbind (fX4_layOutRow σ8 a1 (pI σ8 (pR σ8 0 8) 1) (-9 : Int32)) fun _ σ12 =>
      if pin a1 6 then
        if isV (pR σ12 0 8) then
          if pcp wX 18 (20 + (a1).toNatClampNeg) 8 60 (0 : Int32) (0 : Int32) (pI σ12 (pR σ12 0 8) 1) then
            plet (sF σ12 (20 + (a1).toNatClampNeg) (va_cpy (σ12.1 18) (σ12.1 (20 + (a1).toNatClampNeg)) ((0 : Int32)).toNatClampNeg ((0 : Int32)).toNatClampNeg ((pI σ12 (pR σ12 0 8) 1)).toNatClampNeg)) fun σ15 =>
            if isV (pR σ15 0 8) then
              (fX3_allValues σ15 (pR σ15 0 8)).bind fun r18 =>
              (fX2_leastLoss σ15).bind fun r20 =>
              (fX2_interestOf r20).bind fun r22 =>
              plet (sI σ15 0 9 (r18 + r22)) fun σ23 =>
              (fX2_leastLoss σ23).bind fun r25 =>
              (fX2_paidOf σ23 r25).bind fun r27 =>
              some (r27, σ23)
            else none
          else none
        else none
      else none
    else none
def fX4_ways (σ : pS) : Option (Int32 × pS) :=
  pbind (fX2_solve σ (pR σ 0 8)) fun _ σ3 =>
  pbind (fX2_countBest σ3) fun r5 σ6 =>
  plet (sL σ6 0 10 r5) fun σ7 =>
  plet (sL σ7 0 11 (1 : Int64)) fun σ8 =>
  some ((1 : Int32), σ8)
def fX4_soonest (σ : pS) : Option (Int32 × pS) :=
  pbind (fX2_solve σ (pR σ 0 8)) fun _ σ3 =>
  pbind (fX2_leastEnd σ3) fun r5 σ6 =>
  if isV (pR σ6 0 8) then
    (fX3_allValues σ6 (pR σ6 0 8)).bind fun r9 =>
    (fX2_lossBefore σ6).bind fun r11 =>
    (fX2_interestOf r11).bind fun r13 =>
    plet (sI σ6 0 9 (r9 + r13)) fun σ14 =>
    some (r5, σ14)
  else none
def lX4_rings_6 (σ : pS) (k60 : Int32 → Int32 → Option (Int32 × pS)) : Nat → Int32 → Int32 → Int32 → Option (Int32 × pS)
  | 0, _, _, _ => none
  | F + 1, v1, v2, v3 =>
    if isV (pR σ 0 8) then
      if (pI σ (pR σ 0 8) 0) ≤ v3 then
        k60 v1 v2
      else
        (fX3_smallestRing σ (pR σ 0 8) v3).bind fun r3 =>
        if r3 ≤ 0 then
          lX4_rings_6 σ k60 F v1 v2 (v3 + (1 : Int32))
        else
          plet (v1 ||| ((1 : Int32) <<< (v3 &&& 31))) fun x4 =>
          if v2 = 0 then
            lX4_rings_6 σ k60 F x4 r3 (v3 + (1 : Int32))
          else
            plet (if r3 < v2 then r3 else v2) fun x5 =>
            lX4_rings_6 σ k60 F x4 x5 (v3 + (1 : Int32))
    else none
def fX4_rings (σ : pS) : Option (Int32 × pS) :=
  lX4_rings_6 σ
    (fun (y6 : Int32) (y7 : Int32) =>
      plet (sI σ 0 9 y7) fun σ8 =>
      some (y6, σ8))
    FU (0 : Int32) (0 : Int32) (0 : Int32)
def lX4_few_39 (σ : pS) (p1 : Int32) (p2 : Int32) (p3 : Int32) (k111 : Int32 → Int32 → Option (Int32 × pS)) : Nat → Int32 → Int32 → Int32 → Option (Int32 × pS)
  | 0, _, _, _ => none
  | F + 1, v4, v5, v6 =>
    if isV (pR σ 0 8) then
      if ((1 : Int32) <<< ((pI σ (pR σ 0 8) 0) &&& 31)) ≤ v6 then
        k111 v4 v5
      else
        (fJ6_bitCount_0f7a4 v6).bind fun r8 =>
        if v4 ≤ r8 then
          lX4_few_39 σ p1 p2 p3 k111 F v4 v5 (v6 + (1 : Int32))
        else
          if (v6 &&& p3) = 0 then
            (fX3_payableDebts σ (pR σ 0 8) p1 (p3 ||| v6)).bind fun r10 =>
            (fX2_mostAtOnce σ r10).bind fun r12 =>
            if r12 < p2 then
              lX4_few_39 σ p1 p2 p3 k111 F v4 v5 (v6 + (1 : Int32))
            else
              lX4_few_39 σ p1 p2 p3 k111 F r8 v6 (v6 + (1 : Int32))
          else
            lX4_few_39 σ p1 p2 p3 k111 F v4 v5 (v6 + (1 : Int32))
    else none
def fX4_few (σ : pS) (a1 : Int32) (a2 : Int32) : Option (Int32 × pS) :=
  (fX4_isHour a1).bind fun r2 =>
  if r2 = 0 then
    some ((-1 : Int32), σ)
  else
    if a2 < (1 : Int32) then
      some ((-1 : Int32), σ)
    else
      if a2 ≤ (8 : Int32) then
        if isV (pR σ 0 8) then
          (fX3_peopleOut σ (pR σ 0 8) a1).bind fun r5 =>
          lX4_few_39 σ a1 a2 r5
            (fun (y13 : Int32) (y14 : Int32) =>
              if y13 ≤ (6 : Int32) then
                plet (sI σ 0 9 y14) fun σ15 =>
                some (y13, σ15)
              else
                some ((-9 : Int32), σ))
            FU (7 : Int32) (0 : Int32) (0 : Int32)
        else none
      else
        some ((-1 : Int32), σ)
def fX4_call (σ : pS) : Option (Int32 × pS) :=
  pbind (fX2_solve σ (pR σ 0 8)) fun _ σ3 =>
  pbind (fX2_findCall σ3 (pR σ3 0 8)) fun r5 σ6 =>
  if r5 = 0 then
    some ((-9 : Int32), σ6)
  else
    (fX2_leastLoss σ6).bind fun r8 =>
    (fX2_interestOf r8).bind fun r10 =>
    (fX2_interestOf (pI σ6 3 9)).bind fun r12 =>
    plet (sI σ6 0 9 (r10 - r12)) fun σ13 =>
    some ((((100 : Int32) * (pI σ13 3 10)) + (pI σ13 3 11)), σ13)
def lX4_stay_68 (p1 : Int32) (p2 : Int32) (k136 : Int32 → Int32 → pS → Option (Int32 × pS)) : Nat → Int32 → Int32 → Int32 → pS → Option (Int32 × pS)
  | 0, _, _, _, _ => none
  | F + 1, v3, v4, v5, σ =>
    if (12 : Int32) ≤ v5 then
      k136 v3 v4 σ
    else
      if isV (pR σ 0 8) then
        if pin p1 6 then
          if (((pI σ ((pR σ 0 8) + 3) (p1).toNatClampNeg) >>> (v5 &&& 31)) &&& (1 : Int32)) = (1 : Int32) then
            pbind (fX2_paidWithout σ (pR σ 0 8) p1 v5 p2) fun r14 σ15 =>
            plet (
                lX4_stay_68 p1 p2 k136 F r14 v5 (v5 + (1 : Int32)) σ15
              ) fun j16 =>
            if v4 = (-9 : Int32) then
              j16
            else
              if r14 ≤ v3 then
                lX4_stay_68 p1 p2 k136 F v3 v4 (v5 + (1 : Int32)) σ15
              else
                j16
          else
            lX4_stay_68 p1 p2 k136 F v3 v4 (v5 + (1 : Int32)) σ
        else none
      else none
def fX4_stay (σ : pS) (a1 : Int32) : Option (Int32 × pS) :=
  if isV (pR σ 0 8) then
    (fX3_isPerson σ (pR σ 0 8) a1).bind fun r3 =>
    if r3 = 0 then
      some ((-1 : Int32), σ)
    else
      if pin a1 6 then
        if (pI σ ((pR σ 0 8) + 3) (a1).toNatClampNeg) = 0 then
          some ((-9 : Int32), σ)
        else
          pbind (fX2_solve σ (pR σ 0 8)) fun _ σ6 =>
          pbind (fX2_trace σ6) fun _ σ9 =>
          (fX2_paidTo σ9 (pR σ9 0 8) a1).bind fun r11 =>
          lX4_stay_68 a1 r11
            (fun (y17 : Int32) (y18 : Int32) (σ19 : pS) =>
              plet (sI σ19 0 9 (y17 - r11)) fun σ20 =>
              some (y18, σ20))
            FU (0 : Int32) (-9 : Int32) (0 : Int32) σ9
      else none
  else none
def fX4_against (σ : pS) (a1 : Int32) (a2 : Int32) : Option (Int32 × pS) :=
  if isV (pR σ 0 8) then
    (fX3_isDebt σ (pR σ 0 8) a1).bind fun r3 =>
    if r3 = 0 then
      some ((-1 : Int32), σ)
    else
      (fX3_isDebt σ (pR σ 0 8) a2).bind fun r5 =>
      if r5 = 0 then
        some ((-1 : Int32), σ)
      else
        if a1 = a2 then
          some ((-1 : Int32), σ)
        else
          (fX3_oweOneAnother σ (pR σ 0 8) a1 a2).bind fun r7 =>
          if r7 = 0 then
            some ((-4 : Int32), σ)
          else
            (fX0_isPaid σ a1).bind fun r9 =>
            if r9 = 0 then
              (fX0_isPaid σ a2).bind fun r11 =>
              if r11 = 0 then
                if pin a1 8 then
                  if pin a2 8 then
                    plet ((pI σ ((pR σ 0 8) + 7) (a1).toNatClampNeg) - (pI σ ((pR σ 0 8) + 7) (a2).toNatClampNeg)) fun x12 =>
                    plet (fun (y14 : Int32) =>
                        plet (sI σ 0 9 y14) fun σ15 =>
                        plet (if 0 ≤ x12 then x12 else 0 - x12) fun x16 =>
                        some (x16, σ15)
                      ) fun j13 =>
                    if x12 ≤ 0 then
                      if 0 ≤ x12 then
                        j13 (-9 : Int32)
                      else
                        if pin a2 8 then
                          j13 (pI σ ((pR σ 0 8) + 5) (a2).toNatClampNeg)
                        else none
                    else
                      if pin a1 8 then
                        j13 (pI σ ((pR σ 0 8) + 5) (a1).toNatClampNeg)
                      else none
                  else none
                else none
              else
                some ((-4 : Int32), σ)
            else
              some ((-4 : Int32), σ)
  else none
def lX4_family_23 (σ : pS) (p1 : Int32) (k55 : Int32 → Option (Int32 × pS)) : Nat → Int32 → Int32 → Option (Int32 × pS)
  | 0, _, _ => none
  | F + 1, v2, v3 =>
    if (12 : Int32) ≤ v3 then
      k55 v2
    else
      if isV (pR σ 0 8) then
        (fX3_peopleOut σ (pR σ 0 8) v3).bind fun r4 =>
        if (r4 &&& p1) = p1 then
          plet (v2 ||| ((1 : Int32) <<< (v3 &&& 31))) fun x5 =>
          lX4_family_23 σ p1 k55 F x5 (v3 + (1 : Int32))
        else
          lX4_family_23 σ p1 k55 F v2 (v3 + (1 : Int32))
      else none
def fX4_family (σ : pS) (a1 : Int32) : Option (Int32 × pS) :=
  if a1 ≤ 0 then
    some ((-1 : Int32), σ)
  else
    if isV (pR σ 0 8) then
      if a1 < ((1 : Int32) <<< ((pI σ (pR σ 0 8) 0) &&& 31)) then
        lX4_family_23 σ a1
          (fun (y6 : Int32) =>
            (fJ6_bitCount_0f7a4 y6).bind fun r8 =>
            plet (sI σ 0 9 r8) fun σ9 =>
            some (y6, σ9))
          FU (0 : Int32) (0 : Int32)
      else
        some ((-1 : Int32), σ)
    else none
def lX4_isTakenBy_2 (σ : pS) (p1 : Int32) (p2 : Int32) (k46 : Option Int32) : Nat → Int32 → Option Int32
  | 0, _ => none
  | F + 1, v3 =>
    if isV (pR σ 0 8) then
      if (pI σ (pR σ 0 8) 1) ≤ v3 then
        k46
      else
        if pin v3 8 then
          if (pI σ 9 (v3).toNatClampNeg) = p2 then
            (fX3_clash σ (pR σ 0 8) p1 v3).bind fun r3 =>
            if r3 = 0 then
              lX4_isTakenBy_2 σ p1 p2 k46 F (v3 + (1 : Int32))
            else
              some (1 : Int32)
          else
            lX4_isTakenBy_2 σ p1 p2 k46 F (v3 + (1 : Int32))
        else none
    else none
def fX4_isTakenBy (σ : pS) (a1 : Int32) (a2 : Int32) : Option Int32 :=
  lX4_isTakenBy_2 σ a1 a2
    (
      some (0 : Int32))
    FU (0 : Int32)
def fX4_pay (σ : pS) (a1 : Int32) (a2 : Int32) : Option (Int32 × pS) :=
  if isV (pR σ 0 8) then
    (fX3_isDebt σ (pR σ 0 8) a1).bind fun r3 =>
    if r3 = 0 then
      some ((-1 : Int32), σ)
    else
      (fX4_isHour a2).bind fun r5 =>
      if r5 = 0 then
        some ((-1 : Int32), σ)
      else
        (fX0_isPaid σ a1).bind fun r7 =>
        if r7 = 0 then
          (fX3_peopleOut σ (pR σ 0 8) a2).bind fun r9 =>
          (fX3_isPayable σ (pR σ 0 8) a1 a2 r9).bind fun r11 =>
          if r11 = 0 then
            some ((-4 : Int32), σ)
          else
            (fX4_isTakenBy σ a1 a2).bind fun r13 =>
            if r13 = 0 then
              if pin a1 8 then
                plet (sI σ 9 (a1).toNatClampNeg a2) fun σ14 =>
                if isV (pR σ14 0 8) then
                  (fX3_cost σ14 (pR σ14 0 8) a1 a2).bind fun r17 =>
                  some (r17, σ14)
                else none
              else none
            else
              some ((-4 : Int32), σ)
        else
          some ((-4 : Int32), σ)
  else none
def fX4_unpay (σ : pS) (a1 : Int32) : Option (Int32 × pS) :=
  if isV (pR σ 0 8) then
    (fX3_isDebt σ (pR σ 0 8) a1).bind fun r3 =>
    if r3 = 0 then
      some ((-1 : Int32), σ)
    else
      (fX0_isPaid σ a1).bind fun r5 =>
      if r5 = 0 then
        some ((-4 : Int32), σ)
      else
        if pin a1 8 then
          plet (pI σ 9 (a1).toNatClampNeg) fun x6 =>
          if pin a1 8 then
            plet (sI σ 9 (a1).toNatClampNeg (-9 : Int32)) fun σ7 =>
            some (x6, σ7)
          else none
        else none
  else none
def lX4_paid_6 (σ : pS) (k66 : Int32 → Int32 → Option (Int32 × pS)) : Nat → Int32 → Int32 → Int32 → Option (Int32 × pS)
  | 0, _, _, _ => none
  | F + 1, v1, v2, v3 =>
    if isV (pR σ 0 8) then
      if (pI σ (pR σ 0 8) 1) ≤ v3 then
        k66 v1 v2
      else
        if pin v3 8 then
          (fX3_cost σ (pR σ 0 8) v3 (pI σ 9 (v3).toNatClampNeg)).bind fun r3 =>
          (fX0_isPaid σ v3).bind fun r5 =>
          if r5 = 0 then
            plet (v2 + r3) fun x6 =>
            lX4_paid_6 σ k66 F v1 x6 (v3 + (1 : Int32))
          else
            plet (v1 + r3) fun x7 =>
            lX4_paid_6 σ k66 F x7 v2 (v3 + (1 : Int32))
        else none
    else none
def fX4_paid (σ : pS) : Option (Int32 × pS) :=
  lX4_paid_6 σ
    (fun (y8 : Int32) (y9 : Int32) =>
      plet (sI σ 0 9 y9) fun σ10 =>
      some (y8, σ10))
    FU (0 : Int32) (0 : Int32) (0 : Int32)
def fX4_isKeepingPlace (a1 : Int32) : Option Int32 :=
  if a1 < 0 then
    some (0 : Int32)
  else
    if (3 : Int32) ≤ a1 then
      some (0 : Int32)
    else
      some (1 : Int32)
def fX4_keep (σ : pS) (a1 : Int32) : Option (Int32 × pS) :=
  (fX4_isKeepingPlace a1).bind fun r2 =>
  if r2 = 0 then
    some ((-1 : Int32), σ)
  else
    pbind (fX0_store σ a1) fun _ σ5 =>
    if isV (pR σ5 0 8) then
      (fX0_howManyPaid σ5 (pI σ5 (pR σ5 0 8) 1)).bind fun r8 =>
      some (r8, σ5)
    else none
def fX4_on (σ : pS) (a1 : Int32) : Option (Int32 × pS) :=
  (fX4_isKeepingPlace a1).bind fun r2 =>
  if r2 = 0 then
    some ((-1 : Int32), σ)
  else
    if pin a1 3 then
      if (pI σ 11 (a1).toNatClampNeg) = 0 then
        pbind (fX4_find σ (1 : Int32)) fun r10 σ11 =>
        some (r10, σ11)
      else
        pbind (fX0_restore σ a1) fun _ σ5 =>
        if isV (pR σ5 0 8) then
          (fX0_howManyPaid σ5 (pI σ5 (pR σ5 0 8) 1)).bind fun r8 =>
          some (r8, σ5)
        else none
    else none
def lX4_mustBeOut_5 (σ : pS) (p1 : Nat) (p2 : Int32) (k76 : Int32 → Option Int32) : Nat → Int32 → Int32 → Option Int32
  | 0, _, _ => none
  | F + 1, v3, v4 =>
    if isV (pR σ 0 8) then
      if (pI σ (pR σ 0 8) 1) ≤ v4 then
        k76 v3
      else
        if isA wX 0 p1 then
          if pin v4 (alen wX p1) then
            if (pI σ p1 (v4).toNatClampNeg) = (-9 : Int32) then
              lX4_mustBeOut_5 σ p1 p2 k76 F v3 (v4 + (1 : Int32))
            else
              if pin v4 8 then
                plet (
                    if pin v4 (alen wX p1) then
                      plet (v3 ||| ((1 : Int32) <<< ((pI σ p1 (v4).toNatClampNeg) &&& 31))) fun x7 =>
                      lX4_mustBeOut_5 σ p1 p2 k76 F x7 (v4 + (1 : Int32))
                    else none
                  ) fun j6 =>
                if (pI σ ((pR σ 0 8) + 5) (v4).toNatClampNeg) = p2 then
                  j6
                else
                  if pin v4 8 then
                    (fX3_provesOut σ (pR σ 0 8) (pI σ ((pR σ 0 8) + 6) (v4).toNatClampNeg) p2).bind fun r9 =>
                    if r9 = 0 then
                      lX4_mustBeOut_5 σ p1 p2 k76 F v3 (v4 + (1 : Int32))
                    else
                      j6
                  else none
              else none
          else none
        else none
    else none
def fX4_mustBeOut (σ : pS) (a1 : Nat) (a2 : Int32) : Option Int32 :=
  lX4_mustBeOut_5 σ a1 a2
    (fun (y10 : Int32) =>
      some y10)
    FU (0 : Int32) (0 : Int32)
def fX4_must (σ : pS) (a1 : Int32) (a2 : Int32) : Option (Int32 × pS) :=
  if isV (pR σ 0 8) then
    (fX3_isPerson σ (pR σ 0 8) a2).bind fun r3 =>
    if r3 = 0 then
      some ((-1 : Int32), σ)
    else
      pbind (fX4_refuseRound σ a1) fun r5 σ6 =>
      if r5 = 0 then
        if pin a1 6 then
          (fX4_mustBeOut σ6 (20 + (a1).toNatClampNeg) a2).bind fun r9 =>
          some (r9, σ6)
        else none
      else
        some (r5, σ6)
  else none
def lX4_liars_20 (σ : pS) (p1 : Int32) (k87 : Int32 → Int32 → Option (Int32 × pS)) : Nat → Int32 → Int32 → Int32 → Option (Int32 × pS)
  | 0, _, _, _ => none
  | F + 1, v3, v4, v5 =>
    if isV (pR σ 0 8) then
      if (pI σ (pR σ 0 8) 0) ≤ v5 then
        k87 v3 v4
      else
        if pin p1 6 then
          (fX4_mustBeOut σ (20 + (p1).toNatClampNeg) v5).bind fun r7 =>
          if pin v5 6 then
            plet (r7 &&& ((pI σ ((pR σ 0 8) + 3) (v5).toNatClampNeg) ^^^ (-1 : Int32))) fun x8 =>
            if x8 = 0 then
              lX4_liars_20 σ p1 k87 F v3 v4 (v5 + (1 : Int32))
            else
              plet (v3 ||| ((1 : Int32) <<< (v5 &&& 31))) fun x9 =>
              (fJ6_bitCount_0f7a4 x8).bind fun r11 =>
              plet (v4 + r11) fun x12 =>
              lX4_liars_20 σ p1 k87 F x9 x12 (v5 + (1 : Int32))
          else none
        else none
    else none
def fX4_liars (σ : pS) (a1 : Int32) : Option (Int32 × pS) :=
  pbind (fX4_refuseRound σ a1) fun r2 σ3 =>
  if r2 = 0 then
    lX4_liars_20 σ3 a1
      (fun (y13 : Int32) (y14 : Int32) =>
        plet (sI σ3 0 9 y14) fun σ15 =>
        some (y13, σ15))
      FU (0 : Int32) (0 : Int32) (0 : Int32)
  else
    some (r2, σ3)
def fX4_asked (σ : pS) : Option Int32 :=
  some (pI σ 0 9)
def fX4_upper (σ : pS) : Option Int64 :=
  some (pL σ 0 10)
def fX4_lower (σ : pS) : Option Int64 :=
  some (pL σ 0 11)
def lX4_howManyThere_10 (σ : pS) (p2 : Nat) (p3 : Int32) (k37 : Int32 → Option Int32) : Nat → Int32 → Int32 → Option Int32
  | 0, _, _ => none
  | F + 1, v1, v4 =>
    if p3 ≤ v4 then
      k37 v1
    else
      if isA wX 0 p2 then
        if pin v4 (alen wX p2) then
          plet (pI σ p2 (v4).toNatClampNeg) fun x10 =>
          if x10 = (-1 : Int32) then
            lX4_howManyThere_10 σ p2 p3 k37 F v1 (v4 + (1 : Int32))
          else
            lX4_howManyThere_10 σ p2 p3 k37 F (v1 + (1 : Int32)) (v4 + (1 : Int32))
        else none
      else none
def fX4_howManyThere (σ : pS) (a1 : Nat) : Option Int32 :=
  if isA wX 0 a1 then
    plet (Int32.ofNat (alen wX a1)) fun x5 =>
    lX4_howManyThere_10 σ a1 x5
      (fun (y11 : Int32) =>
        some y11)
      FU (0 : Int32) (0 : Int32)
  else none
def fX4_count (σ : pS) (a1 : Int32) : Option Int32 :=
  if a1 = (0 : Int32) then
    if isV (pR σ 0 8) then
      some (pI σ (pR σ 0 8) 0)
    else none
  else
  if a1 = (1 : Int32) then
    if isV (pR σ 0 8) then
      some (pI σ (pR σ 0 8) 1)
    else none
  else
  if a1 = (2 : Int32) then
    if isV (pR σ 0 8) then
      (fX0_howManyPaid σ (pI σ (pR σ 0 8) 1)).bind fun r9 =>
      some r9
    else none
  else
  if a1 = (3 : Int32) then
    if isV (pR σ 0 8) then
      (fX3_howManyOfKind σ (pR σ 0 8) (1 : Int32)).bind fun r14 =>
      some r14
    else none
  else
  if a1 = (4 : Int32) then
    if isV (pR σ 0 8) then
      (fX3_howManyOfKind σ (pR σ 0 8) (3 : Int32)).bind fun r19 =>
      some r19
    else none
  else
  if a1 = (5 : Int32) then
    (fX0_howManyKept σ).bind fun r23 =>
    some r23
  else
  if a1 = (6 : Int32) then
    (fX4_howManyThere σ 5).bind fun r27 =>
    some r27
  else
  if a1 = (7 : Int32) then
    (fX4_howManyThere σ 7).bind fun r31 =>
    some r31
  else
  some (-1 : Int32)
def fX4_finding (σ : pS) : Option Int32 :=
  some (pI σ 0 12)
def fX4_findings (σ : pS) (a1 : Int32) : Option Int32 :=
  if a1 < (1 : Int32) then
    some (-1 : Int32)
  else
    if a1 ≤ (5 : Int32) then
      if pin a1 6 then
        some (pI σ 8 (a1).toNatClampNeg)
      else none
    else
      some (-1 : Int32)
def lX4_digestVillage_20 (σ : pS) (p5 : Int32) (k51 : Int64 → Option Int64) : Nat → Int64 → Int32 → Option Int64
  | 0, _, _ => none
  | F + 1, v3, v6 =>
    if (3 : Int32) < v6 then
      k51 v3
    else
      if isV (pR σ 0 8) then
        (fX3_ofPerson σ (pR σ 0 8) p5 v6).bind fun r4 =>
        plet (((31 : Int64) * v3) + (r4).toInt64) fun x5 =>
        lX4_digestVillage_20 σ p5 k51 F x5 (v6 + (1 : Int32))
      else none
def lX4_digestVillage_5 (σ : pS) (k57 : Int64 → Option Int64) : Nat → Int64 → Int32 → Option Int64
  | 0, _, _ => none
  | F + 1, v3, v5 =>
    if isV (pR σ 0 8) then
      if (pI σ (pR σ 0 8) 0) ≤ v5 then
        k57 v3
      else
        lX4_digestVillage_20 σ v5
          (fun (y6 : Int64) =>
            lX4_digestVillage_5 σ k57 F y6 (v5 + (1 : Int32)))
          FU v3 (0 : Int32)
    else none
def lX4_digestVillage_75 (σ : pS) (p5 : Int32) (k103 : Int64 → Option Int64) : Nat → Int64 → Int32 → Option Int64
  | 0, _, _ => none
  | F + 1, v3, v6 =>
    if (4 : Int32) < v6 then
      k103 v3
    else
      (fX4_ofDebt σ p5 v6).bind fun r10 =>
      plet (((31 : Int64) * v3) + (r10).toInt64) fun x11 =>
      lX4_digestVillage_75 σ p5 k103 F x11 (v6 + (1 : Int32))
def lX4_digestVillage_60 (σ : pS) (k109 : Int64 → Option Int64) : Nat → Int64 → Int32 → Option Int64
  | 0, _, _ => none
  | F + 1, v3, v5 =>
    if isV (pR σ 0 8) then
      if (pI σ (pR σ 0 8) 1) ≤ v5 then
        k109 v3
      else
        lX4_digestVillage_75 σ v5
          (fun (y12 : Int64) =>
            lX4_digestVillage_60 σ k109 F y12 (v5 + (1 : Int32)))
          FU v3 (0 : Int32)
    else none
def fX4_digestVillage (σ : pS) (a1 : Int64) : Option Int64 :=
  lX4_digestVillage_5 σ
    (fun (y7 : Int64) =>
      lX4_digestVillage_60 σ
        (fun (y13 : Int64) =>
          some y13)
        FU y7 (0 : Int32))
    FU a1 (0 : Int32)
def lX4_digestKeptBooks_40 (σ : pS) (p5 : Int32) (k79 : Int64 → Option Int64) : Nat → Int64 → Int32 → Option Int64
  | 0, _, _ => none
  | F + 1, v3, v6 =>
    if isV (pR σ 0 8) then
      if (pI σ (pR σ 0 8) 1) ≤ v6 then
        k79 v3
      else
        if pin p5 3 then
          if pin v6 8 then
            plet (((31 : Int64) * v3) + ((pI σ (30 + (p5).toNatClampNeg) (v6).toNatClampNeg)).toInt64) fun x3 =>
            lX4_digestKeptBooks_40 σ p5 k79 F x3 (v6 + (1 : Int32))
          else none
        else none
    else none
def lX4_digestKeptBooks_5 (σ : pS) (k85 : Int64 → Option Int64) : Nat → Int64 → Int32 → Option Int64
  | 0, _, _ => none
  | F + 1, v3, v5 =>
    if (3 : Int32) ≤ v5 then
      k85 v3
    else
      if pin v5 3 then
        if (pI σ 11 (v5).toNatClampNeg) = 0 then
          plet (((31 : Int64) * v3) + (-1 : Int64)) fun x5 =>
          lX4_digestKeptBooks_5 σ k85 F x5 (v5 + (1 : Int32))
        else
          lX4_digestKeptBooks_40 σ v5
            (fun (y4 : Int64) =>
              lX4_digestKeptBooks_5 σ k85 F y4 (v5 + (1 : Int32)))
            FU v3 (0 : Int32)
      else none
def fX4_digestKeptBooks (σ : pS) (a1 : Int64) : Option Int64 :=
  lX4_digestKeptBooks_5 σ
    (fun (y6 : Int64) =>
      some y6)
    FU a1 (0 : Int32)
def lX4_digest_6 (σ : pS) (k31 : Int64 → Option Int64) : Nat → Int64 → Int32 → Option Int64
  | 0, _, _ => none
  | F + 1, v1, v3 =>
    if (8 : Int32) ≤ v3 then
      k31 v1
    else
      (fX4_count σ v3).bind fun r2 =>
      plet (((31 : Int64) * v1) + (r2).toInt64) fun x3 =>
      lX4_digest_6 σ k31 F x3 (v3 + (1 : Int32))
def lX4_digest_83 (σ : pS) (p3 : Int32) (k117 : Int64 → Option Int64) : Nat → Int64 → Int32 → Option Int64
  | 0, _, _ => none
  | F + 1, v1, v4 =>
    if pin p3 6 then
      if (pI σ 5 (p3).toNatClampNeg) ≤ v4 then
        k117 v1
      else
        if pin p3 6 then
          if pin v4 60 then
            plet (((31 : Int64) * v1) + ((pI σ (20 + (p3).toNatClampNeg) (v4).toNatClampNeg)).toInt64) fun x13 =>
            lX4_digest_83 σ p3 k117 F x13 (v4 + (1 : Int32))
          else none
        else none
    else none
def lX4_digest_60 (σ : pS) (k123 : Int64 → Option Int64) : Nat → Int64 → Int32 → Option Int64
  | 0, _, _ => none
  | F + 1, v1, v3 =>
    if (6 : Int32) ≤ v3 then
      k123 v1
    else
      if pin v3 6 then
        plet (((31 : Int64) * v1) + ((pI σ 5 (v3).toNatClampNeg)).toInt64) fun x11 =>
        lX4_digest_83 σ v3
          (fun (y14 : Int64) =>
            lX4_digest_60 σ k123 F y14 (v3 + (1 : Int32)))
          FU x11 (0 : Int32)
      else none
def lX4_digest_147 (σ : pS) (p3 : Int32) (k181 : Int64 → Option Int64) : Nat → Int64 → Int32 → Option Int64
  | 0, _, _ => none
  | F + 1, v1, v4 =>
    if pin p3 4 then
      if (pI σ 7 (p3).toNatClampNeg) ≤ v4 then
        k181 v1
      else
        if pin p3 4 then
          if pin v4 120 then
            plet (((31 : Int64) * v1) + ((pI σ (26 + (p3).toNatClampNeg) (v4).toNatClampNeg)).toInt64) fun x18 =>
            lX4_digest_147 σ p3 k181 F x18 (v4 + (1 : Int32))
          else none
        else none
    else none
def lX4_digest_125 (σ : pS) (k187 : Int64 → Option Int64) : Nat → Int64 → Int32 → Option Int64
  | 0, _, _ => none
  | F + 1, v1, v3 =>
    if (4 : Int32) ≤ v3 then
      k187 v1
    else
      if pin v3 4 then
        plet (((31 : Int64) * v1) + ((pI σ 7 (v3).toNatClampNeg)).toInt64) fun x16 =>
        lX4_digest_147 σ v3
          (fun (y19 : Int64) =>
            lX4_digest_125 σ k187 F y19 (v3 + (1 : Int32)))
          FU x16 (0 : Int32)
      else none
def fX4_digest (σ : pS) : Option Int64 :=
  lX4_digest_6 σ
    (fun (y4 : Int64) =>
      if isV (pR σ 0 8) then
        plet (((31 : Int64) * y4) + ((pI σ (pR σ 0 8) 2)).toInt64) fun x6 =>
        (fX4_digestVillage σ x6).bind fun r8 =>
        (fX4_digestKeptBooks σ r8).bind fun r10 =>
        lX4_digest_60 σ
          (fun (y15 : Int64) =>
            lX4_digest_125 σ
              (fun (y20 : Int64) =>
                some y20)
              FU y15 (0 : Int32))
          FU r10 (0 : Int32)
      else none)
    FU (17 : Int64) (0 : Int32)
