def Past_forget  (z : pj_S) : Option (Unit × pj_S) :=
  pj_b (pj_sI z 3 7 (nI 0)) fun z1 =>
  some ((), z1)
def PJ_state (v1 : Int32) (z : pj_S) : Option (Int32 × pj_S) :=
  pj_b (z.1 1 5) fun x1 =>
  pj_b (pj_sI z 1 5 v1) fun z2 =>
  pj_c (Past_forget z2) fun _ z4 =>
  some (x1, z4)
def PJ_rectangle_49  (v6 : Int64) (z : pj_S) : Option (Int64 × pj_S) :=
  some (v6, z)
def PJ_rectangle_17 (s17 : Int32 → Int64 → Int64 → Int32 → pj_S → Option (Int64 × pj_S)) (v3 : Int32) (v4 : Int64) (v6 : Int64) (v8 : Int32) (z : pj_S) : Option (Int64 × pj_S) :=
  if v3 < v8 then (
    PJ_rectangle_49 v6 z
  ) else (
    if (nI 6) ≤ v8 then (
      PJ_rectangle_49 v6 z
    ) else (
      pj_b (v6 ||| (pj_shlL v4 ((nI 8) * v8))) fun x1 =>
      pj_b (v8 + (nI 1)) fun x2 =>
      s17 v3 v4 x1 x2 z
    )
  )
def PJ_rectangle (v0 : Int32) (v1 : Int32) (v2 : Int32) (v3 : Int32) (z : pj_S) : Option (Int64 × pj_S) :=
  pj_b ((pj_shlL (1 : Int64) (v1 + (nI 1))) - (pj_shlL (1 : Int64) v0)) fun x1 =>
  pj_lp4 PJ_rectangle_17 4000 v3 x1 (0 : Int64) v2 z
def Fabric_begin (v1 : Int32) (v2 : Int32) (z : pj_S) : Option (Unit × pj_S) :=
  pj_b (pj_sI z 8 0 v1) fun z1 =>
  pj_b (pj_sI z1 8 1 v2) fun z2 =>
  pj_g (pj_bo (nI 1)) <|
  pj_b (pj_sI z2 8 2 (nI 1)) fun z3 =>
  pj_c (PJ_rectangle (nI 0) (v1 - (nI 1)) (nI 0) (v2 - (nI 1)) z3) fun r6 z5 =>
  pj_b (pj_sJ z5 8 3 r6) fun z7 =>
  pj_b (pj_sJ z7 8 4 (0 : Int64)) fun z8 =>
  pj_b (pj_sJ z8 8 5 (0 : Int64)) fun z9 =>
  pj_b (pj_sJ z9 8 6 (z9.2 8 3)) fun z10 =>
  pj_b (pj_sJ z10 8 7 (0 : Int64)) fun z11 =>
  pj_b (pj_sJ z11 8 8 (0 : Int64)) fun z12 =>
  pj_b (pj_sJ z12 8 9 (0 : Int64)) fun z13 =>
  some ((), z13)
def Law_clear  (z : pj_S) : Option (Unit × pj_S) :=
  pj_b (pj_sI z 9 2 (nI 0)) fun z1 =>
  pj_b (pj_sI z1 9 3 (nI 0)) fun z2 =>
  some ((), z2)
def Whole_begin (v1 : Int32) (v2 : Int32) (z : pj_S) : Option (Unit × pj_S) :=
  pj_c (Fabric_begin v1 v2 z) fun _ z2 =>
  pj_c (Law_clear z2) fun _ z5 =>
  pj_b (pj_sI z5 10 3 (nI 0)) fun z7 =>
  pj_b (pj_sI z7 11 1 (nI 0)) fun z8 =>
  pj_b (pj_sI z8 1 4 (nI 0)) fun z9 =>
  some ((), z9)
def PJ_cloth (v1 : Int32) (v2 : Int32) (z : pj_S) : Option (Int32 × pj_S) :=
  if v1 < (nI 2) then (
    pj_g (pj_bo (nI 0)) (some ((nI 0), z))
  ) else (
    if (nI 6) < v1 then (
      pj_g (pj_bo (nI 0)) (some ((nI 0), z))
    ) else (
      if v2 < (nI 2) then (
        pj_g (pj_bo (nI 0)) (some ((nI 0), z))
      ) else (
        if v2 ≤ (nI 6) then (
          pj_c (Whole_begin v1 v2 z) fun _ z2 =>
          pj_c (Past_forget z2) fun _ z5 =>
          pj_g (pj_bo (nI 1)) (some ((nI 1), z5))
        ) else (
          pj_g (pj_bo (nI 0)) (some ((nI 0), z))
        )
      )
    )
  )
def PJ_bitOf (v0 : Int64) (v2 : Int32) (z : pj_S) : Option (Int32 × pj_S) :=
  some ((Int64.toInt32 ((pj_ushrL v0 v2) &&& (1 : Int64))), z)
def Fabric_has (v1 : Int32) (z : pj_S) : Option (Int32 × pj_S) :=
  if v1 < (0) then (
    pj_g (pj_bo (nI 0)) (some ((nI 0), z))
  ) else (
    if (nI 48) ≤ v1 then (
      pj_g (pj_bo (nI 0)) (some ((nI 0), z))
    ) else (
      pj_c (PJ_bitOf (z.2 8 3) v1 z) fun r3 z2 =>
      if r3 = (nI 1) then (
        pj_g (pj_bo (nI 1)) (some ((nI 1), z2))
      ) else (
        pj_g (pj_bo (nI 0)) (some ((nI 0), z2))
      )
    )
  )
def Fabric_tellKind_70  (t0 : Int64) (z : pj_S) : Option (Int32 × pj_S) :=
  pj_b (pj_sJ z 8 5 t0) fun z1 =>
  pj_g (pj_bo (nI 1)) (some ((nI 1), z1))
def Fabric_tellKind_42  (v2 : Int32) (v3 : Int64) (t0 : Int64) (z : pj_S) : Option (Int32 × pj_S) :=
  pj_b (pj_sJ z 8 4 t0) fun z1 =>
  if v2 < (nI 2) then (
    Fabric_tellKind_70 ((z1.2 8 5) &&& (v3 ^^^ (-1 : Int64))) z1
  ) else (
    Fabric_tellKind_70 ((z1.2 8 5) ||| v3) z1
  )
def Fabric_tellKind (v1 : Int32) (v2 : Int32) (z : pj_S) : Option (Int32 × pj_S) :=
  if v2 < (0) then (
    pj_g (pj_bo (nI 0)) (some ((nI 0), z))
  ) else (
    if v2 ≤ (nI 3) then (
      pj_b (pj_shlL (1 : Int64) v1) fun x1 =>
      if (v2 &&& (nI 1)) = (nI 1) then (
        Fabric_tellKind_42 v2 x1 ((z.2 8 4) ||| x1) z
      ) else (
        Fabric_tellKind_42 v2 x1 ((z.2 8 4) &&& (x1 ^^^ (-1 : Int64))) z
      )
    ) else (
      pj_g (pj_bo (nI 0)) (some ((nI 0), z))
    )
  )
def Fabric_tellCaught_40  (t0 : Int64) (z : pj_S) : Option (Int32 × pj_S) :=
  pj_b (pj_sJ z 8 7 t0) fun z1 =>
  pj_g (pj_bo (nI 1)) (some ((nI 1), z1))
def Fabric_tellCaught (v1 : Int32) (v2 : Int32) (z : pj_S) : Option (Int32 × pj_S) :=
  if v2 < (0) then (
    pj_g (pj_bo (nI 0)) (some ((nI 0), z))
  ) else (
    if v2 ≤ (nI 1) then (
      pj_b (pj_shlL (1 : Int64) v1) fun x1 =>
      if v2 = (nI 1) then (
        Fabric_tellCaught_40 ((z.2 8 7) ||| x1) z
      ) else (
        Fabric_tellCaught_40 ((z.2 8 7) &&& (x1 ^^^ (-1 : Int64))) z
      )
    ) else (
      pj_g (pj_bo (nI 0)) (some ((nI 0), z))
    )
  )
def Fabric_bringBack (v1 : Int32) (z : pj_S) : Option (Unit × pj_S) :=
  pj_b (pj_sJ z 8 6 ((z.2 8 6) ||| (pj_shlL (1 : Int64) v1))) fun z1 =>
  pj_b (pj_sJ z1 8 8 ((z1.2 8 8) &&& ((pj_shlL (1 : Int64) v1) ^^^ (-1 : Int64)))) fun z2 =>
  some ((), z2)
def PJ_tellOfStitch (v1 : Int32) (v2 : Int32) (v3 : Int32) (z : pj_S) : Option (Int32 × pj_S) :=
  pj_c (Fabric_has v2 z) fun r3 z2 =>
  if r3 = (0) then (
    pj_g (pj_bo (nI 0)) (some ((nI 0), z2))
  ) else (
    if v1 = (nI 0) then (
      pj_c (Fabric_tellKind v2 v3 z2) fun r6 z5 =>
      pj_g (pj_bo r6) (some (r6, z5))
    ) else (
    if v1 = (nI 1) then (
      pj_c (Fabric_tellCaught v2 v3 z2) fun r9 z8 =>
      pj_g (pj_bo r9) (some (r9, z8))
    ) else (
    if v1 = (nI 2) then (
      pj_g (pj_bo (nI 0)) (some ((nI 0), z2))
    ) else (
    if v1 = (nI 3) then (
      pj_c (Fabric_bringBack v2 z2) fun _ z11 =>
      pj_g (pj_bo (nI 1)) (some ((nI 1), z11))
    ) else (
      pj_g (pj_bo (nI 0)) (some ((nI 0), z2))
    ))))
  )
def Fabric_tellBound_22  (t0 : Int32) (z : pj_S) : Option (Int32 × pj_S) :=
  pj_g (pj_bo t0) <|
  pj_b (pj_sI z 8 2 t0) fun z1 =>
  pj_g (pj_bo (nI 1)) (some ((nI 1), z1))
def Fabric_tellBound (v1 : Int32) (z : pj_S) : Option (Int32 × pj_S) :=
  if v1 < (0) then (
    pj_g (pj_bo (nI 0)) (some ((nI 0), z))
  ) else (
    if v1 ≤ (nI 1) then (
      if v1 = (nI 1) then (
        Fabric_tellBound_22 (nI 1) z
      ) else (
        Fabric_tellBound_22 (nI 0) z
      )
    ) else (
      pj_g (pj_bo (nI 0)) (some ((nI 0), z))
    )
  )
def PJ_set_40  (v4 : Int32) (z : pj_S) : Option (Int32 × pj_S) :=
  pj_g (pj_bo v4) (some (v4, z))
def PJ_set_26  (t0 : Int32) (z : pj_S) : Option (Int32 × pj_S) :=
  if t0 = (0) then (
    PJ_set_40 t0 z
  ) else (
    pj_c (Past_forget z) fun _ z2 =>
    PJ_set_40 t0 z2
  )
def PJ_set (v1 : Int32) (v2 : Int32) (v3 : Int32) (z : pj_S) : Option (Int32 × pj_S) :=
  if v1 = (nI 2) then (
    pj_c (Fabric_tellBound v3 z) fun r6 z5 =>
    PJ_set_26 r6 z5
  ) else (
    pj_c (PJ_tellOfStitch v1 v2 v3 z) fun r3 z2 =>
    PJ_set_26 r3 z2
  )
def Fabric_isHere (v1 : Int32) (z : pj_S) : Option (Int32 × pj_S) :=
  pj_c (Fabric_has v1 z) fun r3 z2 =>
  if r3 = (0) then (
    pj_g (pj_bo (nI 0)) (some ((nI 0), z2))
  ) else (
    pj_c (PJ_bitOf (z2.2 8 6) v1 z2) fun r6 z5 =>
    if r6 = (nI 1) then (
      pj_g (pj_bo (nI 1)) (some ((nI 1), z5))
    ) else (
      pj_g (pj_bo (nI 0)) (some ((nI 0), z5))
    )
  )
def Past_keep  (z : pj_S) : Option (Unit × pj_S) :=
  pj_b ((z.1 3 8) &&& (nI 7)) fun x1 =>
  pj_g (pj_in x1 8) <|
  pj_b (pj_sJ z 16 (Int32.toNatClampNeg x1) (z.2 8 6)) fun z2 =>
  pj_g (pj_in x1 8) <|
  pj_b (pj_sJ z2 17 (Int32.toNatClampNeg x1) (z2.2 8 8)) fun z3 =>
  pj_g (pj_in x1 8) <|
  pj_b (pj_sJ z3 18 (Int32.toNatClampNeg x1) (z3.2 8 9)) fun z4 =>
  pj_g (pj_in x1 8) <|
  pj_b (pj_sI z4 19 (Int32.toNatClampNeg x1) (z4.1 1 4)) fun z5 =>
  pj_g (pj_in x1 8) <|
  pj_b (pj_sI z5 20 (Int32.toNatClampNeg x1) (z5.1 1 5)) fun z6 =>
  pj_g (pj_in x1 8) <|
  pj_b (pj_sI z6 21 (Int32.toNatClampNeg x1) (z6.1 10 3)) fun z7 =>
  pj_g (pj_in x1 8) <|
  pj_b (pj_sI z7 22 (Int32.toNatClampNeg x1) (z7.1 11 1)) fun z8 =>
  pj_b (pj_sI z8 3 8 ((x1 + (nI 1)) &&& (nI 7))) fun z9 =>
  pj_b (pj_sI z9 3 7 (pj_min ((z9.1 3 7) + (nI 1)) (nI 8))) fun z10 =>
  some ((), z10)
def Book_note (v1 : Int32) (v2 : Int32) (v3 : Int32) (z : pj_S) : Option (Unit × pj_S) :=
  if (z.1 10 3) < (0) then (
    some ((), z)
  ) else (
    if (z.1 10 3) < (nI 100) then (
      pj_g (pj_in (z.1 10 3) 100) <|
      pj_b (pj_sI z 31 (Int32.toNatClampNeg (z.1 10 3)) v1) fun z1 =>
      pj_g (pj_in (z1.1 10 3) 100) <|
      pj_b (pj_sI z1 32 (Int32.toNatClampNeg (z1.1 10 3)) v2) fun z2 =>
      pj_g (pj_in (z2.1 10 3) 100) <|
      pj_b (pj_sI z2 33 (Int32.toNatClampNeg (z2.1 10 3)) v3) fun z3 =>
      pj_b (pj_sI z3 10 3 ((z3.1 10 3) + (nI 1))) fun z4 =>
      some ((), z4)
    ) else (
      some ((), z)
    )
  )
def Whole_letGo (v1 : Int32) (v2 : Int32) (z : pj_S) : Option (Unit × pj_S) :=
  pj_b (pj_sJ z 8 6 ((z.2 8 6) &&& ((pj_shlL (1 : Int64) v1) ^^^ (-1 : Int64)))) fun z1 =>
  pj_c (Book_note (z1.1 1 4) v1 v2 z1) fun _ z3 =>
  some ((), z3)
def PJ_gone (v1 : Int32) (z : pj_S) : Option (Int32 × pj_S) :=
  pj_c (Fabric_isHere v1 z) fun r3 z2 =>
  if r3 = (0) then (
    pj_g (pj_bo (nI 0)) (some ((nI 0), z2))
  ) else (
    pj_c (Past_keep z2) fun _ z5 =>
    pj_c (Whole_letGo v1 (nI 0) z5) fun _ z8 =>
    pj_g (pj_bo (nI 1)) (some ((nI 1), z8))
  )
def Fabric_places  (z : pj_S) : Option (Int32 × pj_S) :=
  some (((z.1 8 0) * (z.1 8 1)), z)
def Fabric_canCut (v1 : Int32) (z : pj_S) : Option (Int32 × pj_S) :=
  if v1 < (0) then (
    pj_g (pj_bo (nI 0)) (some ((nI 0), z))
  ) else (
    pj_c (Fabric_places z) fun r3 z2 =>
    if (r3 - (nI 1)) ≤ v1 then (
      pj_g (pj_bo (nI 0)) (some ((nI 0), z2))
    ) else (
      pj_c (PJ_bitOf (z2.2 8 9) v1 z2) fun r6 z5 =>
      if r6 = (0) then (
        pj_g (pj_bo (nI 1)) (some ((nI 1), z5))
      ) else (
        pj_g (pj_bo (nI 0)) (some ((nI 0), z5))
      )
    )
  )
def PJ_cut (v1 : Int32) (z : pj_S) : Option (Int32 × pj_S) :=
  pj_c (Fabric_canCut v1 z) fun r3 z2 =>
  if r3 = (0) then (
    pj_g (pj_bo (nI 0)) (some ((nI 0), z2))
  ) else (
    pj_c (Past_keep z2) fun _ z5 =>
    pj_b (pj_sJ z5 8 9 ((z5.2 8 9) ||| (pj_shlL (1 : Int64) v1))) fun z7 =>
    pj_g (pj_bo (nI 1)) (some ((nI 1), z7))
  )
def Fabric_isEnd_37   (z : pj_S) : Option (Int32 × pj_S) :=
  pj_g (pj_bo (nI 1)) (some ((nI 1), z))
def Fabric_isEnd_69   (z : pj_S) : Option (Int32 × pj_S) :=
  pj_g (pj_bo (nI 1)) (some ((nI 1), z))
def Fabric_isEnd (v1 : Int32) (v2 : Int32) (z : pj_S) : Option (Int32 × pj_S) :=
  if v1 < (0) then (
    pj_g (pj_bo (nI 0)) (some ((nI 0), z))
  ) else (
    pj_c (Fabric_places z) fun r3 z2 =>
    if v1 < r3 then (
      if v2 = (nI 1) then (
        if v1 = (0) then (
          Fabric_isEnd_37 z2
        ) else (
          pj_c (PJ_bitOf (z2.2 8 9) (v1 - (nI 1)) z2) fun r12 z11 =>
          if r12 = (nI 1) then (
            Fabric_isEnd_37 z11
          ) else (
            pj_g (pj_bo (nI 0)) (some ((nI 0), z11))
          )
        )
      ) else (
        if v2 = (0) then (
          pj_c (Fabric_places z2) fun r6 z5 =>
          if v1 = (r6 - (nI 1)) then (
            Fabric_isEnd_69 z5
          ) else (
            pj_c (PJ_bitOf (z5.2 8 9) v1 z5) fun r9 z8 =>
            if r9 = (nI 1) then (
              Fabric_isEnd_69 z8
            ) else (
              pj_g (pj_bo (nI 0)) (some ((nI 0), z8))
            )
          )
        ) else (
          pj_g (pj_bo (nI 0)) (some ((nI 0), z2))
        )
      )
    ) else (
      pj_g (pj_bo (nI 0)) (some ((nI 0), z2))
    )
  )
def Fabric_hasThreadBetween (v1 : Int32) (v2 : Int32) (z : pj_S) : Option (Int32 × pj_S) :=
  if v1 < (0) then (
    pj_g (pj_bo (nI 0)) (some ((nI 0), z))
  ) else (
    if v2 < (0) then (
      pj_g (pj_bo (nI 0)) (some ((nI 0), z))
    ) else (
      pj_c (Fabric_places z) fun r3 z2 =>
      if r3 ≤ v1 then (
        pj_g (pj_bo (nI 0)) (some ((nI 0), z2))
      ) else (
        pj_c (Fabric_places z2) fun r6 z5 =>
        if r6 ≤ v2 then (
          pj_g (pj_bo (nI 0)) (some ((nI 0), z5))
        ) else (
          pj_c (PJ_bitOf (z5.2 8 9) (pj_min v1 v2) z5) fun r9 z8 =>
          if r9 = (0) then (
            pj_g (pj_bo (nI 1)) (some ((nI 1), z8))
          ) else (
            pj_g (pj_bo (nI 0)) (some ((nI 0), z8))
          )
        )
      )
    )
  )
def Fabric_stitchAt_60  (t0 : Int32) (t1 : Int32) (z : pj_S) : Option (Int32 × pj_S) :=
  some ((t1 + t0), z)
def Fabric_stitchAt (v1 : Int32) (z : pj_S) : Option (Int32 × pj_S) :=
  if v1 < (0) then (
    some ((-1 : Int32), z)
  ) else (
    pj_c (Fabric_places z) fun r3 z2 =>
    if r3 ≤ v1 then (
      some ((-1 : Int32), z2)
    ) else (
      if (nI 2) ≤ (z2.1 8 0) then (
        pj_g (pj_nz (z2.1 8 0)) <|
        pj_b (v1 / (z2.1 8 0)) fun x4 =>
        pj_b (v1 - (x4 * (z2.1 8 0))) fun x5 =>
        if (x4 &&& (nI 1)) = (0) then (
          Fabric_stitchAt_60 x5 ((nI 8) * x4) z2
        ) else (
          Fabric_stitchAt_60 (((z2.1 8 0) - (nI 1)) - x5) ((nI 8) * x4) z2
        )
      ) else (
        some ((-1 : Int32), z2)
      )
    )
  )
def Fabric_loopsUnder (v1 : Int64) (z : pj_S) : Option (Int64 × pj_S) :=
  pj_b ((z.2 8 3) &&& (pj_ushrL (z.2 8 3) (nI 1))) fun x1 =>
  pj_b ((v1 &&& (z.2 8 4)) &&& (z.2 8 5)) fun x2 =>
  pj_b ((v1 &&& (z.2 8 4)) &&& ((z.2 8 5) ^^^ (-1 : Int64))) fun x3 =>
  pj_b ((v1 &&& ((z.2 8 4) ^^^ (-1 : Int64))) &&& ((z.2 8 5) ^^^ (-1 : Int64))) fun x4 =>
  pj_b ((x3 &&& (6148914691236517205 : Int64)) &&& x1) fun x5 =>
  pj_b (x3 &&& (-6148914691236517206 : Int64)) fun x6 =>
  pj_b ((x4 ||| x2) ||| ((x3 &&& (x5 ^^^ (-1 : Int64))) &&& (x6 ^^^ (-1 : Int64)))) fun x7 =>
  pj_b (x5 ||| (x2 &&& x1)) fun x8 =>
  some ((((pj_ushrL x7 (nI 8)) ||| (pj_ushrL x8 (nI 7))) ||| (pj_ushrL x6 (nI 9))), z)
def Fabric_heldOf_27  (v1 : Int64) (v3 : Int64) (t0 : Int64) (z : pj_S) : Option (Int64 × pj_S) :=
  pj_c (Fabric_loopsUnder v1 z) fun r3 z2 =>
  some ((v1 &&& ((v3 ||| t0) ||| r3)), z2)
def Fabric_heldOf (v1 : Int64) (v3 : Int64) (z : pj_S) : Option (Int64 × pj_S) :=
  if (z.1 8 2) = (0) then (
    Fabric_heldOf_27 v1 v3 (0 : Int64) z
  ) else (
    Fabric_heldOf_27 v1 v3 ((z.2 8 3) &&& ((pj_ushrL (z.2 8 3) (nI 8)) ^^^ (-1 : Int64))) z
  )
def Puller_comesUndone (v2 : Int32) (z : pj_S) : Option (Int32 × pj_S) :=
  pj_c (PJ_bitOf (z.2 6 3) v2 z) fun r3 z2 =>
  if r3 = (0) then (
    pj_g (pj_bo (nI 1)) (some ((nI 1), z2))
  ) else (
    pj_c (Fabric_heldOf (z2.2 6 3) (z2.2 8 7) z2) fun r6 z5 =>
    pj_c (PJ_bitOf r6 v2 z5) fun r9 z8 =>
    if r9 = (nI 1) then (
      pj_g (pj_bo (nI 0)) (some ((nI 0), z8))
    ) else (
      if (z8.1 6 1) < (nI 36) then (
        pj_b (pj_sJ z8 6 3 ((z8.2 6 3) &&& ((pj_shlL (1 : Int64) v2) ^^^ (-1 : Int64)))) fun z10 =>
        pj_g (pj_in (z10.1 6 1) 36) <|
        pj_b (pj_sI z10 28 (Int32.toNatClampNeg (z10.1 6 1)) v2) fun z11 =>
        pj_b (pj_sI z11 6 1 ((z11.1 6 1) + (nI 1))) fun z12 =>
        pj_g (pj_bo (nI 1)) (some ((nI 1), z12))
      ) else (
        pj_g (pj_bo (nI 0)) (some ((nI 0), z8))
      )
    )
  )
def Puller_walk_99 (s29 : Int32 → Int32 → Int32 → Int32 → pj_S → Option (Unit × pj_S)) (v3 : Int32) (v4 : Int32) (v5 : Int32) (v6 : Int32) (t0 : Int32) (z : pj_S) : Option (Unit × pj_S) :=
  pj_c (Fabric_hasThreadBetween v5 t0 z) fun r3 z2 =>
  if r3 = (0) then (
    some ((), z2)
  ) else (
    pj_b (v6 + (nI 1)) fun x4 =>
    s29 v3 v4 t0 x4 z2
  )
def Puller_walk_63  (v5 : Int32) (z : pj_S) : Option (Unit × pj_S) :=
  pj_b (pj_sI z 6 2 v5) fun z1 =>
  some ((), z1)
def Puller_walk_29 (s29 : Int32 → Int32 → Int32 → Int32 → pj_S → Option (Unit × pj_S)) (v3 : Int32) (v4 : Int32) (v5 : Int32) (v6 : Int32) (z : pj_S) : Option (Unit × pj_S) :=
  if (nI 36) ≤ v6 then (
    some ((), z)
  ) else (
    if v4 ≤ (z.1 6 1) then (
      some ((), z)
    ) else (
      pj_c (Fabric_stitchAt v5 z) fun r3 z2 =>
      pj_c (Puller_comesUndone r3 z2) fun r6 z5 =>
      if r6 = (0) then (
        Puller_walk_63 v5 z5
      ) else (
        pj_b (pj_sJ z5 6 4 ((z5.2 6 4) ||| (pj_shlL (1 : Int64) r3))) fun z7 =>
        if v3 = (nI 1) then (
          Puller_walk_99 s29 v3 v4 v5 v6 (v5 + (nI 1)) z7
        ) else (
          Puller_walk_99 s29 v3 v4 v5 v6 (v5 - (nI 1)) z7
        )
      )
    )
  )
def Puller_walk (v2 : Int32) (v3 : Int32) (v4 : Int32) (z : pj_S) : Option (Unit × pj_S) :=
  pj_b (pj_sI z 6 1 (nI 0)) fun z1 =>
  pj_b (pj_sI z1 6 2 (-1 : Int32)) fun z2 =>
  pj_b (pj_sJ z2 6 3 (z2.2 8 6)) fun z3 =>
  pj_b (pj_sJ z3 6 4 (0 : Int64)) fun z4 =>
  pj_lp4 Puller_walk_29 4000 v3 v4 v2 (nI 0) z4
def Fabric_kindOf (v1 : Int32) (z : pj_S) : Option (Int32 × pj_S) :=
  pj_c (PJ_bitOf (z.2 8 4) v1 z) fun r3 z2 =>
  pj_c (PJ_bitOf (z2.2 8 5) v1 z2) fun r6 z5 =>
  some ((r3 + ((nI 2) * r6)), z5)
def Fabric_wind_52  (v1 : Int64) (v3 : Int32) (z : pj_S) : Option (Int32 × pj_S) :=
  pj_b (pj_sJ z 8 8 ((z.2 8 8) ||| v1)) fun z1 =>
  some (v3, z1)
def Fabric_wind_46 (s5 : Int64 → Int32 → Int32 → pj_S → Option (Int32 × pj_S)) (v1 : Int64) (v3 : Int32) (v4 : Int32) (z : pj_S) : Option (Int32 × pj_S) :=
  pj_b (v4 + (nI 1)) fun x1 =>
  s5 v1 v3 x1 z
def Fabric_wind_5 (s5 : Int64 → Int32 → Int32 → pj_S → Option (Int32 × pj_S)) (v1 : Int64) (v3 : Int32) (v4 : Int32) (z : pj_S) : Option (Int32 × pj_S) :=
  if (nI 48) ≤ v4 then (
    Fabric_wind_52 v1 v3 z
  ) else (
    pj_c (PJ_bitOf (v1 &&& ((z.2 8 8) ^^^ (-1 : Int64))) v4 z) fun r3 z2 =>
    if r3 = (nI 1) then (
      pj_c (Fabric_kindOf v4 z2) fun r6 z5 =>
      pj_g (pj_in (r6 &&& (nI 3)) 4) <|
      pj_b (v3 + (pj_lk.getD (Int32.toNatClampNeg (r6 &&& (nI 3))) 0)) fun x7 =>
      Fabric_wind_46 s5 v1 x7 v4 z5
    ) else (
      Fabric_wind_46 s5 v1 v3 v4 z2
    )
  )
def Fabric_wind (v1 : Int64) (z : pj_S) : Option (Int32 × pj_S) :=
  pj_lp3 Fabric_wind_5 4000 v1 (nI 0) (nI 0) z
def Wool_note (v1 : Int32) (z : pj_S) : Option (Unit × pj_S) :=
  if (z.1 11 1) < (0) then (
    some ((), z)
  ) else (
    if (nI 20) ≤ (z.1 11 1) then (
      some ((), z)
    ) else (
      pj_g (pj_in (z.1 11 1) 20) <|
      pj_b (pj_sI z 34 (Int32.toNatClampNeg (z.1 11 1)) v1) fun z1 =>
      pj_b (pj_sI z1 11 1 ((z1.1 11 1) + (nI 1))) fun z2 =>
      some ((), z2)
    )
  )
def Whole_windUp_36   (z : pj_S) : Option (Unit × pj_S) :=
  if (z.1 6 1) ≤ (0) then (
    some ((), z)
  ) else (
    pj_c (Fabric_wind (z.2 6 4) z) fun r3 z2 =>
    pj_c (Wool_note r3 z2) fun _ z5 =>
    some ((), z5)
  )
def Whole_windUp_2 (s2 : Int32 → pj_S → Option (Unit × pj_S)) (v2 : Int32) (z : pj_S) : Option (Unit × pj_S) :=
  if (z.1 6 1) ≤ v2 then (
    Whole_windUp_36 z
  ) else (
    if (nI 36) ≤ v2 then (
      Whole_windUp_36 z
    ) else (
      pj_g (pj_in v2 36) <|
      pj_c (Whole_letGo (z.1 28 (Int32.toNatClampNeg v2)) (nI 2) z) fun _ z2 =>
      pj_b (v2 + (nI 1)) fun x4 =>
      s2 x4 z2
    )
  )
def Whole_windUp  (z : pj_S) : Option (Unit × pj_S) :=
  pj_lp1 Whole_windUp_2 4000 (nI 0) z
def PJ_pull (v1 : Int32) (v2 : Int32) (v3 : Int32) (z : pj_S) : Option (Int32 × pj_S) :=
  if v3 < (nI 1) then (
    some ((-1 : Int32), z)
  ) else (
    if (nI 36) < v3 then (
      some ((-1 : Int32), z)
    ) else (
      pj_c (Fabric_isEnd v1 v2 z) fun r3 z2 =>
      if r3 = (0) then (
        some ((-1 : Int32), z2)
      ) else (
        pj_c (Past_keep z2) fun _ z5 =>
        pj_c (Puller_walk v1 v2 v3 z5) fun _ z8 =>
        pj_c (Whole_windUp z8) fun _ z11 =>
        some ((z11.1 6 1), z11)
      )
    )
  )
def JLong_bitCount (v0 : Int64) (z : pj_S) : Option (Int32 × pj_S) :=
  pj_b (v0 - ((pj_ushrL v0 (nI 1)) &&& (6148914691236517205 : Int64))) fun x1 =>
  pj_b ((x1 &&& (3689348814741910323 : Int64)) + ((pj_ushrL x1 (nI 2)) &&& (3689348814741910323 : Int64))) fun x2 =>
  pj_b ((x2 + (pj_ushrL x2 (nI 4))) &&& (1085102592571150095 : Int64)) fun x3 =>
  pj_b (x3 + (pj_ushrL x3 (nI 8))) fun x4 =>
  pj_b (x4 + (pj_ushrL x4 (nI 16))) fun x5 =>
  pj_b (x5 + (pj_ushrL x5 (nI 32))) fun x6 =>
  some (((Int64.toInt32 x6) &&& (nI 127)), z)
def Law_heldToOdds (v0 : Int32) (z : pj_S) : Option (Int32 × pj_S) :=
  some ((pj_max (nI 0) (pj_min (nI 1000) v0)), z)
def Law_pop  (z : pj_S) : Option (Int32 × pj_S) :=
  if (z.1 9 4) ≤ (0) then (
    some ((nI 0), z)
  ) else (
    if (z.1 9 4) ≤ (nI 64) then (
      pj_b (pj_sI z 9 4 ((z.1 9 4) - (nI 1))) fun z1 =>
      pj_g (pj_in (z1.1 9 4) 64) <|
      some ((z1.1 30 (Int32.toNatClampNeg (z1.1 9 4))), z1)
    ) else (
      some ((nI 0), z)
    )
  )
def Law_push (v1 : Int32) (z : pj_S) : Option (Unit × pj_S) :=
  if (z.1 9 4) < (0) then (
    some ((), z)
  ) else (
    if (nI 64) ≤ (z.1 9 4) then (
      some ((), z)
    ) else (
      pj_g (pj_in (z.1 9 4) 64) <|
      pj_b (pj_sI z 30 (Int32.toNatClampNeg (z.1 9 4)) v1) fun z1 =>
      pj_b (pj_sI z1 9 4 ((z1.1 9 4) + (nI 1))) fun z2 =>
      some ((), z2)
    )
  )
def Law_ofTwo (v0 : Int32) (v1 : Int32) (v2 : Int32) (z : pj_S) : Option (Int32 × pj_S) :=
  if v0 = (-8 : Int32) then (
    some ((v1 &&& v2), z)
  ) else (
  if v0 = (-7 : Int32) then (
    if v1 ≤ v2 then (
      some ((nI 0), z)
    ) else (
      some ((nI 1), z)
    )
  ) else (
  if v0 = (-6 : Int32) then (
    if v1 = v2 then (
      some ((nI 1), z)
    ) else (
      some ((nI 0), z)
    )
  ) else (
  if v0 = (-5 : Int32) then (
    if v2 ≤ v1 then (
      some ((nI 0), z)
    ) else (
      some ((nI 1), z)
    )
  ) else (
  if v0 = (-4 : Int32) then (
    if v2 = (0) then (
      some ((nI 0), z)
    ) else (
      pj_g (pj_nz v2) <|
      some ((v1 / v2), z)
    )
  ) else (
  if v0 = (-3 : Int32) then (
    some ((v1 * v2), z)
  ) else (
  if v0 = (-2 : Int32) then (
    some ((v1 - v2), z)
  ) else (
  if v0 = (-1 : Int32) then (
    some ((v1 + v2), z)
  ) else (
    some ((v1 ||| v2), z)
  ))))))))
def Fabric_belowOf (v1 : Int32) (z : pj_S) : Option (Int32 × pj_S) :=
  if (nI 8) ≤ v1 then (
    pj_c (PJ_bitOf (z.2 8 6) (v1 - (nI 8)) z) fun r3 z2 =>
    some (r3, z2)
  ) else (
    some ((nI 0), z)
  )
def Fabric_besideOf_48  (v3 : Int32) (t0 : Int32) (z : pj_S) : Option (Int32 × pj_S) :=
  some ((v3 + t0), z)
def Fabric_besideOf_23  (v1 : Int32) (v2 : Int32) (t0 : Int32) (z : pj_S) : Option (Int32 × pj_S) :=
  if (z.1 8 0) ≤ (v2 + (nI 1)) then (
    Fabric_besideOf_48 t0 (nI 0) z
  ) else (
    pj_c (PJ_bitOf (z.2 8 6) (v1 + (nI 1)) z) fun r3 z2 =>
    Fabric_besideOf_48 t0 r3 z2
  )
def Fabric_besideOf (v1 : Int32) (z : pj_S) : Option (Int32 × pj_S) :=
  pj_b (v1 &&& (nI 7)) fun x1 =>
  if x1 ≤ (0) then (
    Fabric_besideOf_23 v1 x1 (nI 0) z
  ) else (
    pj_c (PJ_bitOf (z.2 8 6) (v1 - (nI 1)) z) fun r4 z3 =>
    Fabric_besideOf_23 v1 x1 r4 z3
  )
def Fabric_goneInColumn (v1 : Int32) (z : pj_S) : Option (Int32 × pj_S) :=
  pj_c (PJ_rectangle v1 v1 (nI 0) ((z.1 8 1) - (nI 1)) z) fun r3 z2 =>
  pj_c (JLong_bitCount (r3 &&& ((z2.2 8 6) ^^^ (-1 : Int64))) z2) fun r6 z5 =>
  some (r6, z5)
def Law_traitOf (v0 : Int32) (v2 : Int32) (v3 : Int32) (z : pj_S) : Option (Int32 × pj_S) :=
  if v0 = (-16 : Int32) then (
    some (v2, z)
  ) else (
  if v0 = (-15 : Int32) then (
    pj_c (Fabric_belowOf v3 z) fun r3 z2 =>
    some (r3, z2)
  ) else (
  if v0 = (-14 : Int32) then (
    pj_c (Fabric_besideOf v3 z) fun r6 z5 =>
    some (r6, z5)
  ) else (
  if v0 = (-13 : Int32) then (
    some ((v3 &&& (nI 7)), z)
  ) else (
  if v0 = (-12 : Int32) then (
    some ((v3 >>> ((nI 3) &&& 31)), z)
  ) else (
  if v0 = (-11 : Int32) then (
    pj_c (Fabric_kindOf v3 z) fun r9 z8 =>
    some (r9, z8)
  ) else (
    pj_c (Fabric_goneInColumn (v3 &&& (nI 7)) z) fun r12 z11 =>
    some (r12, z11)
  ))))))
def Law_reckon_52  (t0 : Int32) (z : pj_S) : Option (Unit × pj_S) :=
  pj_c (Law_push t0 z) fun _ z2 =>
  some ((), z2)
def Law_reckon (v1 : Int32) (v3 : Int32) (v4 : Int32) (z : pj_S) : Option (Unit × pj_S) :=
  if v1 < (0) then (
    if (-11 : Int32) < v1 then (
      if v1 = (-10 : Int32) then (
        pj_c (Law_pop z) fun r15 z14 =>
        if r15 = (0) then (
          Law_reckon_52 (nI 1) z14
        ) else (
          Law_reckon_52 (nI 0) z14
        )
      ) else (
        pj_c (Law_pop z) fun r3 z2 =>
        pj_c (Law_pop z2) fun r6 z5 =>
        pj_c (Law_ofTwo v1 r6 r3 z5) fun r9 z8 =>
        pj_c (Law_push r9 z8) fun _ z11 =>
        some ((), z11)
      )
    ) else (
      pj_c (Law_traitOf v1 v3 v4 z) fun r18 z17 =>
      pj_c (Law_push r18 z17) fun _ z20 =>
      some ((), z20)
    )
  ) else (
    pj_c (Law_push v1 z) fun _ z23 =>
    some ((), z23)
  )
def Law_oddsOf_101 (s8 : Int32 → Int32 → Int32 → pj_S → Option (Int32 × pj_S)) (v2 : Int32) (v3 : Int32) (v4 : Int32) (z : pj_S) : Option (Int32 × pj_S) :=
  pj_b (v4 + (nI 1)) fun x1 =>
  s8 v2 v3 x1 z
def Law_oddsOf_83  (v7 : Int32) (z : pj_S) : Option (Int32 × pj_S) :=
  pj_c (Law_heldToOdds v7 z) fun r3 z2 =>
  some (r3, z2)
def Law_oddsOf_70 (s8 : Int32 → Int32 → Int32 → pj_S → Option (Int32 × pj_S)) (v2 : Int32) (v3 : Int32) (v4 : Int32) (t0 : Int32) (z : pj_S) : Option (Int32 × pj_S) :=
  pj_c (Law_pop z) fun r3 z2 =>
  if t0 = (0) then (
    Law_oddsOf_101 s8 v2 v3 v4 z2
  ) else (
    Law_oddsOf_83 r3 z2
  )
def Law_oddsOf_43   (z : pj_S) : Option (Int32 × pj_S) :=
  pj_c (Law_pop z) fun r3 z2 =>
  pj_c (Law_heldToOdds r3 z2) fun r6 z5 =>
  some (r6, z5)
def Law_oddsOf_107   (z : pj_S) : Option (Int32 × pj_S) :=
  some ((nI 500), z)
def Law_oddsOf_8 (s8 : Int32 → Int32 → Int32 → pj_S → Option (Int32 × pj_S)) (v2 : Int32) (v3 : Int32) (v4 : Int32) (z : pj_S) : Option (Int32 × pj_S) :=
  if (z.1 9 2) ≤ v4 then (
    Law_oddsOf_107 z
  ) else (
    if (nI 400) ≤ v4 then (
      Law_oddsOf_107 z
    ) else (
      pj_g (pj_in v4 400) <|
      pj_b (z.1 29 (Int32.toNatClampNeg v4)) fun x1 =>
      if x1 = (-18 : Int32) then (
        Law_oddsOf_43 z
      ) else (
        if x1 = (-19 : Int32) then (
          pj_c (Law_pop z) fun r7 z6 =>
          if r7 = (0) then (
            Law_oddsOf_70 s8 v2 v3 v4 (nI 0) z6
          ) else (
            Law_oddsOf_70 s8 v2 v3 v4 (nI 1) z6
          )
        ) else (
          pj_c (Law_reckon x1 v2 v3 z) fun _ z3 =>
          Law_oddsOf_101 s8 v2 v3 v4 z3
        )
      )
    )
  )
def Law_oddsOf (v2 : Int32) (v3 : Int32) (z : pj_S) : Option (Int32 × pj_S) :=
  pj_b (pj_sI z 9 4 (nI 0)) fun z1 =>
  pj_lp3 Law_oddsOf_8 4000 v2 v3 (nI 0) z1
def Whole_draw (v1 : Int32) (z : pj_S) : Option (Int32 × pj_S) :=
  pj_b (pj_sI z 1 5 (((nI 1664525) * (z.1 1 5)) + (nI 1013904223))) fun z1 =>
  if v1 ≤ (0) then (
    some ((nI 0), z1)
  ) else (
    pj_g (pj_nz v1) <|
    some ((pj_rem (pj_ushr (z1.1 1 5) (nI 8)) v1), z1)
  )
def Fabric_loose  (z : pj_S) : Option (Int64 × pj_S) :=
  pj_c (Fabric_heldOf (z.2 8 6) (z.2 8 7) z) fun r3 z2 =>
  some (((z.2 8 6) &&& (r3 ^^^ (-1 : Int64))), z2)
def Whole_passHour_73 (s13 : Int64 → Int64 → Int32 → pj_S → Option (Int32 × pj_S)) (v1 : Int64) (v3 : Int64) (v5 : Int32) (z : pj_S) : Option (Int32 × pj_S) :=
  pj_b (v5 + (nI 1)) fun x1 =>
  s13 v1 v3 x1 z
def Whole_passHour_106 (s82 : Int64 → Int32 → pj_S → Option (Int32 × pj_S)) (v3 : Int64) (v5 : Int32) (z : pj_S) : Option (Int32 × pj_S) :=
  pj_b (v5 + (nI 1)) fun x1 =>
  s82 v3 x1 z
def Whole_passHour_112  (v3 : Int64) (z : pj_S) : Option (Int32 × pj_S) :=
  pj_b (pj_sI z 1 4 ((z.1 1 4) + (nI 1))) fun z1 =>
  pj_c (JLong_bitCount v3 z1) fun r4 z3 =>
  some (r4, z3)
def Whole_passHour_82 (s82 : Int64 → Int32 → pj_S → Option (Int32 × pj_S)) (v3 : Int64) (v5 : Int32) (z : pj_S) : Option (Int32 × pj_S) :=
  if (nI 48) ≤ v5 then (
    Whole_passHour_112 v3 z
  ) else (
    pj_c (PJ_bitOf v3 v5 z) fun r3 z2 =>
    if r3 = (nI 1) then (
      pj_c (Whole_letGo v5 (nI 1) z2) fun _ z5 =>
      Whole_passHour_106 s82 v3 v5 z5
    ) else (
      Whole_passHour_106 s82 v3 v5 z2
    )
  )
def Whole_passHour_79  (v3 : Int64) (z : pj_S) : Option (Int32 × pj_S) :=
  pj_lp2 Whole_passHour_82 4000 v3 (nI 0) z
def Whole_passHour_13 (s13 : Int64 → Int64 → Int32 → pj_S → Option (Int32 × pj_S)) (v1 : Int64) (v3 : Int64) (v5 : Int32) (z : pj_S) : Option (Int32 × pj_S) :=
  if (nI 48) ≤ v5 then (
    Whole_passHour_79 v3 z
  ) else (
    pj_c (PJ_bitOf v1 v5 z) fun r3 z2 =>
    if r3 = (nI 1) then (
      pj_c (Law_oddsOf (z2.1 1 4) v5 z2) fun r6 z5 =>
      if r6 ≤ (0) then (
        Whole_passHour_73 s13 v1 v3 v5 z5
      ) else (
        pj_c (Whole_draw (nI 1000) z5) fun r9 z8 =>
        if r6 ≤ r9 then (
          Whole_passHour_73 s13 v1 v3 v5 z8
        ) else (
          pj_b (v3 ||| (pj_shlL (1 : Int64) v5)) fun x10 =>
          Whole_passHour_73 s13 v1 x10 v5 z8
        )
      )
    ) else (
      Whole_passHour_73 s13 v1 v3 v5 z2
    )
  )
def Whole_passHour  (z : pj_S) : Option (Int32 × pj_S) :=
  pj_c (Fabric_loose z) fun r3 z2 =>
  pj_lp3 Whole_passHour_13 4000 r3 (0 : Int64) (nI 0) z2
def PJ_hours_32 (s32 : Int32 → Int32 → Int32 → pj_S → Option (Int32 × pj_S)) (v1 : Int32) (v2 : Int32) (v3 : Int32) (z : pj_S) : Option (Int32 × pj_S) :=
  if v1 ≤ v3 then (
    some (v2, z)
  ) else (
    pj_c (Past_keep z) fun _ z2 =>
    pj_c (Whole_passHour z2) fun r6 z5 =>
    pj_b (v2 + r6) fun x7 =>
    pj_b (v3 + (nI 1)) fun x8 =>
    s32 v1 x7 x8 z5
  )
def PJ_hours (v1 : Int32) (z : pj_S) : Option (Int32 × pj_S) :=
  if v1 < (nI 1) then (
    some ((-1 : Int32), z)
  ) else (
    if (nI 100) < v1 then (
      some ((-1 : Int32), z)
    ) else (
      if ((z.1 1 4) + v1) ≤ (nI 9999) then (
        pj_lp3 PJ_hours_32 4000 v1 (nI 0) (nI 0) z
      ) else (
        some ((-1 : Int32), z)
      )
    )
  )
def Tape_hasRoom  (z : pj_S) : Option (Int32 × pj_S) :=
  if (nI 400) < ((z.1 4 1) + (nI 20)) then (
    pj_g (pj_bo (nI 0)) (some ((nI 0), z))
  ) else (
    pj_g (pj_bo (nI 1)) (some ((nI 1), z))
  )
def Tape_add_49 (s3 : Int32 → Int32 → pj_S → Option (Unit × pj_S)) (v1 : Int32) (v2 : Int32) (z : pj_S) : Option (Unit × pj_S) :=
  pj_b (v2 + (-8 : Int32)) fun x1 =>
  s3 v1 x1 z
def Tape_add_3 (s3 : Int32 → Int32 → pj_S → Option (Unit × pj_S)) (v1 : Int32) (v2 : Int32) (z : pj_S) : Option (Unit × pj_S) :=
  if v2 < (0) then (
    some ((), z)
  ) else (
    if (z.1 4 1) < (0) then (
      Tape_add_49 s3 v1 v2 z
    ) else (
      if (nI 400) ≤ (z.1 4 1) then (
        Tape_add_49 s3 v1 v2 z
      ) else (
        pj_g (pj_in (z.1 4 1) 400) <|
        pj_b (pj_sI z 23 (Int32.toNatClampNeg (z.1 4 1)) (vp_nar .byte (Int8.toInt32 (Int32.toInt8 (pj_ushr v1 v2))))) fun z1 =>
        pj_b (pj_sI z1 4 1 ((z1.1 4 1) + (nI 1))) fun z2 =>
        Tape_add_49 s3 v1 v2 z2
      )
    )
  )
def Tape_add (v1 : Int32) (z : pj_S) : Option (Unit × pj_S) :=
  pj_lp2 Tape_add_3 4000 v1 (nI 24) z
def PJ_feed (v1 : Int32) (v2 : Int32) (v3 : Int32) (v4 : Int32) (v5 : Int32) (z : pj_S) : Option (Int32 × pj_S) :=
  pj_c (Tape_hasRoom z) fun r3 z2 =>
  if r3 = (0) then (
    some ((-1 : Int32), z2)
  ) else (
    pj_c (Tape_add v1 z2) fun _ z5 =>
    pj_c (Tape_add v2 z5) fun _ z8 =>
    pj_c (Tape_add v3 z8) fun _ z11 =>
    pj_c (Tape_add v4 z11) fun _ z14 =>
    pj_c (Tape_add v5 z14) fun _ z17 =>
    some ((z17.1 4 1), z17)
  )
def PJ_end (v1 : Int32) (z : pj_S) : Option (Int32 × pj_S) :=
  if v1 < (0) then (
    pj_g (pj_bo (nI 0)) (some ((nI 0), z))
  ) else (
    if v1 ≤ (z.1 4 1) then (
      pj_b (pj_sI z 4 1 v1) fun z1 =>
      pj_g (pj_bo (nI 1)) (some ((nI 1), z1))
    ) else (
      pj_g (pj_bo (nI 0)) (some ((nI 0), z))
    )
  )
def Law_take (v2 : Int32) (v3 : Int32) (z : pj_S) : Option (Unit × pj_S) :=
  pj_b (pj_sI z 9 2 (pj_max (nI 0) (pj_min v2 (pj_min (nI 400) (nI 400))))) fun z1 =>
  pj_g (pj_cpOk (nI 0) (nI 0) (z1.1 9 2) 400 400) <|
  pj_b (pj_sC z1 27 29 (Int32.toNatClampNeg (nI 0)) (Int32.toNatClampNeg (nI 0)) (Int32.toNatClampNeg (z1.1 9 2))) fun z2 =>
  pj_b (pj_sI z2 9 3 v3) fun z3 =>
  some ((), z3)
def Reader_token  (z : pj_S) : Option (Int32 × pj_S) :=
  if (z.1 5 5) < (0) then (
    some ((nI 0), z)
  ) else (
    if (z.1 5 4) ≤ (z.1 5 5) then (
      some ((nI 0), z)
    ) else (
      if (nI 401) ≤ (z.1 5 5) then (
        some ((nI 0), z)
      ) else (
        pj_g (pj_in (z.1 5 5) 401) <|
        some ((z.1 24 (Int32.toNatClampNeg (z.1 5 5))), z)
      )
    )
  )
def Reader_emit (v1 : Int32) (z : pj_S) : Option (Unit × pj_S) :=
  if (z.1 5 6) < (0) then (
    some ((), z)
  ) else (
    if (nI 400) ≤ (z.1 5 6) then (
      some ((), z)
    ) else (
      pj_g (pj_in (z.1 5 6) 400) <|
      pj_b (pj_sI z 27 (Int32.toNatClampNeg (z.1 5 6)) v1) fun z1 =>
      pj_b (pj_sI z1 5 6 ((z1.1 5 6) + (nI 1))) fun z2 =>
      some ((), z2)
    )
  )
def Reader_fails_38  (t0 : Int32) (z : pj_S) : Option (Int32 × pj_S) :=
  pj_b (pj_sI z 5 9 t0) fun z1 =>
  pj_g (pj_bo (nI 0)) (some ((nI 0), z1))
def Reader_fails_37   (z : pj_S) : Option (Int32 × pj_S) :=
  Reader_fails_38 (-1 : Int32) z
def Reader_fails (v1 : Int32) (z : pj_S) : Option (Int32 × pj_S) :=
  pj_b (pj_sI z 5 8 v1) fun z1 =>
  if (z1.1 5 5) < (0) then (
    Reader_fails_37 z1
  ) else (
    if (nI 401) ≤ (z1.1 5 5) then (
      Reader_fails_37 z1
    ) else (
      pj_g (pj_in (z1.1 5 5) 401) <|
      Reader_fails_38 (z1.1 25 (Int32.toNatClampNeg (z1.1 5 5))) z1
    )
  )
def Reader_readSign (v1 : Int32) (z : pj_S) : Option (Int32 × pj_S) :=
  pj_c (Reader_token z) fun r3 z2 =>
  if r3 = v1 then (
    pj_b (pj_sI z2 5 5 ((z2.1 5 5) + (nI 1))) fun z4 =>
    pj_g (pj_bo (nI 1)) (some ((nI 1), z4))
  ) else (
    pj_c (Reader_fails (nI 1) z2) fun r7 z6 =>
    pj_g (pj_bo r7) (some (r7, z6))
  )
def Reader_value  (z : pj_S) : Option (Int32 × pj_S) :=
  if (z.1 5 5) < (0) then (
    some ((nI 0), z)
  ) else (
    if (z.1 5 4) ≤ (z.1 5 5) then (
      some ((nI 0), z)
    ) else (
      if (nI 401) ≤ (z.1 5 5) then (
        some ((nI 0), z)
      ) else (
        pj_g (pj_in (z.1 5 5) 401) <|
        some ((z.1 26 (Int32.toNatClampNeg (z.1 5 5))), z)
      )
    )
  )
def Reader_readUnit_41   (z : pj_S) : Option (Int32 × pj_S) :=
  pj_c (Reader_fails (nI 1) z) fun r3 z2 =>
  pj_g (pj_bo r3) (some (r3, z2))
def Reader_readUnit_47   (z : pj_S) : Option (Int32 × pj_S) :=
  pj_b (pj_sI z 5 5 ((z.1 5 5) + (nI 1))) fun z1 =>
  pj_g (pj_bo (nI 1)) (some ((nI 1), z1))
def Reader_readUnit  (z : pj_S) : Option (Int32 × pj_S) :=
  pj_c (Reader_token z) fun r3 z2 =>
  if r3 = (nI 1) then (
    pj_c (Reader_value z2) fun r9 z8 =>
    pj_c (Reader_emit r9 z8) fun _ z11 =>
    Reader_readUnit_47 z11
  ) else (
    if (-11 : Int32) < r3 then (
      Reader_readUnit_41 z2
    ) else (
      if r3 < (-17 : Int32) then (
        Reader_readUnit_41 z2
      ) else (
        pj_c (Reader_emit r3 z2) fun _ z5 =>
        Reader_readUnit_47 z5
      )
    )
  )
def Reader_readDivisor  (z : pj_S) : Option (Int32 × pj_S) :=
  pj_c (Reader_token z) fun r3 z2 =>
  if r3 = (nI 1) then (
    pj_c (Reader_value z2) fun r6 z5 =>
    if r6 = (0) then (
      pj_c (Reader_fails (nI 2) z5) fun r16 z15 =>
      pj_g (pj_bo r16) (some (r16, z15))
    ) else (
      pj_c (Reader_value z5) fun r9 z8 =>
      pj_c (Reader_emit r9 z8) fun _ z11 =>
      pj_b (pj_sI z11 5 5 ((z11.1 5 5) + (nI 1))) fun z13 =>
      pj_g (pj_bo (nI 1)) (some ((nI 1), z13))
    )
  ) else (
    pj_c (Reader_fails (nI 1) z2) fun r19 z18 =>
    pj_g (pj_bo r19) (some (r19, z18))
  )
def Reader_readSum_159  (v1 : Int32) (z : pj_S) : Option (Int32 × pj_S) :=
  if v1 = (0) then (
    pj_g (pj_bo (nI 1)) (some ((nI 1), z))
  ) else (
    pj_c (Reader_emit v1 z) fun _ z2 =>
    pj_g (pj_bo (nI 1)) (some ((nI 1), z2))
  )
def Reader_readSum_49  (v1 : Int32) (z : pj_S) : Option (Int32 × pj_S) :=
  Reader_readSum_159 v1 z
def Reader_readSum_153 (s13 : Int32 → Int32 → pj_S → Option (Int32 × pj_S)) (v1 : Int32) (v2 : Int32) (z : pj_S) : Option (Int32 × pj_S) :=
  pj_b (v2 + (nI 1)) fun x1 =>
  s13 v1 x1 z
def Reader_readSum_134 (s13 : Int32 → Int32 → pj_S → Option (Int32 × pj_S)) (v1 : Int32) (v2 : Int32) (t0 : Int32) (z : pj_S) : Option (Int32 × pj_S) :=
  pj_c (Reader_emit t0 z) fun _ z2 =>
  Reader_readSum_153 s13 v1 v2 z2
def Reader_readSum_120 (s13 : Int32 → Int32 → pj_S → Option (Int32 × pj_S)) (v1 : Int32) (v2 : Int32) (v3 : Int32) (z : pj_S) : Option (Int32 × pj_S) :=
  if v3 = (nI 42) then (
    Reader_readSum_134 s13 v1 v2 (-3 : Int32) z
  ) else (
    Reader_readSum_134 s13 v1 v2 (-4 : Int32) z
  )
def Reader_readSum_152 (s13 : Int32 → Int32 → pj_S → Option (Int32 × pj_S)) (v2 : Int32) (t0 : Int32) (z : pj_S) : Option (Int32 × pj_S) :=
  Reader_readSum_153 s13 t0 v2 z
def Reader_readSum_108 (s13 : Int32 → Int32 → pj_S → Option (Int32 × pj_S)) (v1 : Int32) (v2 : Int32) (v3 : Int32) (z : pj_S) : Option (Int32 × pj_S) :=
  if v3 = (nI 42) then (
    Reader_readSum_120 s13 v1 v2 v3 z
  ) else (
    if v3 = (nI 47) then (
      Reader_readSum_120 s13 v1 v2 v3 z
    ) else (
      if v3 = (nI 43) then (
        Reader_readSum_152 s13 v2 (-1 : Int32) z
      ) else (
        Reader_readSum_152 s13 v2 (-2 : Int32) z
      )
    )
  )
def Reader_readSum_83 (s13 : Int32 → Int32 → pj_S → Option (Int32 × pj_S)) (v1 : Int32) (v2 : Int32) (v3 : Int32) (z : pj_S) : Option (Int32 × pj_S) :=
  if v3 = (nI 47) then (
    pj_c (Reader_readDivisor z) fun r6 z5 =>
    if r6 = (0) then (
      pj_g (pj_bo (nI 0)) (some ((nI 0), z5))
    ) else (
      Reader_readSum_108 s13 v1 v2 v3 z5
    )
  ) else (
    pj_c (Reader_readUnit z) fun r3 z2 =>
    if r3 = (0) then (
      pj_g (pj_bo (nI 0)) (some ((nI 0), z2))
    ) else (
      Reader_readSum_108 s13 v1 v2 v3 z2
    )
  )
def Reader_readSum_74 (s13 : Int32 → Int32 → pj_S → Option (Int32 × pj_S)) (v1 : Int32) (v2 : Int32) (v3 : Int32) (z : pj_S) : Option (Int32 × pj_S) :=
  if v1 = (0) then (
    Reader_readSum_83 s13 v1 v2 v3 z
  ) else (
    pj_c (Reader_emit v1 z) fun _ z2 =>
    Reader_readSum_83 s13 v1 v2 v3 z2
  )
def Reader_readSum_52 (s13 : Int32 → Int32 → pj_S → Option (Int32 × pj_S)) (v1 : Int32) (v2 : Int32) (v3 : Int32) (z : pj_S) : Option (Int32 × pj_S) :=
  pj_b (pj_sI z 5 5 ((z.1 5 5) + (nI 1))) fun z1 =>
  if v3 = (nI 43) then (
    Reader_readSum_74 s13 v1 v2 v3 z1
  ) else (
    if v3 = (nI 45) then (
      Reader_readSum_74 s13 v1 v2 v3 z1
    ) else (
      Reader_readSum_83 s13 v1 v2 v3 z1
    )
  )
def Reader_readSum_13 (s13 : Int32 → Int32 → pj_S → Option (Int32 × pj_S)) (v1 : Int32) (v2 : Int32) (z : pj_S) : Option (Int32 × pj_S) :=
  if (nI 400) < v2 then (
    Reader_readSum_159 v1 z
  ) else (
    pj_c (Reader_token z) fun r3 z2 =>
    if r3 = (nI 43) then (
      Reader_readSum_52 s13 v1 v2 r3 z2
    ) else (
      if r3 = (nI 45) then (
        Reader_readSum_52 s13 v1 v2 r3 z2
      ) else (
        if r3 = (nI 42) then (
          Reader_readSum_52 s13 v1 v2 r3 z2
        ) else (
          if r3 = (nI 47) then (
            Reader_readSum_52 s13 v1 v2 r3 z2
          ) else (
            Reader_readSum_49 v1 z2
          )
        )
      )
    )
  )
def Reader_readSum  (z : pj_S) : Option (Int32 × pj_S) :=
  pj_c (Reader_readUnit z) fun r3 z2 =>
  if r3 = (0) then (
    pj_g (pj_bo (nI 0)) (some ((nI 0), z2))
  ) else (
    pj_lp2 Reader_readSum_13 4000 (nI 0) (nI 0) z2
  )
def Reader_readCondition_110 (sR : Int32 → pj_S → Option (Int32 × pj_S)) (s14 : Int32 → Int32 → Int32 → pj_S → Option (Int32 × pj_S)) (v1 : Int32) (v2 : Int32) (v3 : Int32) (z : pj_S) : Option (Int32 × pj_S) :=
  pj_b (v3 + (nI 1)) fun x1 =>
  s14 v1 v2 x1 z
def Reader_readCondition_85 (sR : Int32 → pj_S → Option (Int32 × pj_S)) (s14 : Int32 → Int32 → Int32 → pj_S → Option (Int32 × pj_S)) (v1 : Int32) (v3 : Int32) (v4 : Int32) (t0 : Int32) (t1 : Int32) (z : pj_S) : Option (Int32 × pj_S) :=
  pj_b (t1 ||| t0) fun x1 =>
  pj_c (sR v1 z) fun r4 z3 =>
  if r4 = (0) then (
    pj_g (pj_bo (nI 0)) (some ((nI 0), z3))
  ) else (
    if v4 = (-8 : Int32) then (
      pj_c (Reader_emit (-8 : Int32) z3) fun _ z6 =>
      Reader_readCondition_110 sR s14 v1 x1 v3 z6
    ) else (
      Reader_readCondition_110 sR s14 v1 x1 v3 z3
    )
  )
def Reader_readCondition_72 (sR : Int32 → pj_S → Option (Int32 × pj_S)) (s14 : Int32 → Int32 → Int32 → pj_S → Option (Int32 × pj_S)) (v1 : Int32) (v2 : Int32) (v3 : Int32) (v4 : Int32) (z : pj_S) : Option (Int32 × pj_S) :=
  if v4 = (-9 : Int32) then (
    Reader_readCondition_85 sR s14 v1 v3 v4 (nI 1) v2 z
  ) else (
    Reader_readCondition_85 sR s14 v1 v3 v4 (nI 0) v2 z
  )
def Reader_readCondition_39 (sR : Int32 → pj_S → Option (Int32 × pj_S)) (s14 : Int32 → Int32 → Int32 → pj_S → Option (Int32 × pj_S)) (v1 : Int32) (v2 : Int32) (v3 : Int32) (z : pj_S) : Option (Int32 × pj_S) :=
  pj_c (Reader_token z) fun r3 z2 =>
  pj_b (pj_sI z2 5 5 ((z2.1 5 5) + (nI 1))) fun z4 =>
  if r3 = (-9 : Int32) then (
    if v2 = (0) then (
      Reader_readCondition_72 sR s14 v1 v2 v3 r3 z4
    ) else (
      pj_c (Reader_emit (-9 : Int32) z4) fun _ z6 =>
      Reader_readCondition_72 sR s14 v1 v2 v3 r3 z6
    )
  ) else (
    Reader_readCondition_72 sR s14 v1 v2 v3 r3 z4
  )
def Reader_readCondition_116 (sR : Int32 → pj_S → Option (Int32 × pj_S))  (v2 : Int32) (z : pj_S) : Option (Int32 × pj_S) :=
  if v2 = (0) then (
    pj_g (pj_bo (nI 1)) (some ((nI 1), z))
  ) else (
    pj_c (Reader_emit (-9 : Int32) z) fun _ z2 =>
    pj_g (pj_bo (nI 1)) (some ((nI 1), z2))
  )
def Reader_readCondition_14 (sR : Int32 → pj_S → Option (Int32 × pj_S)) (s14 : Int32 → Int32 → Int32 → pj_S → Option (Int32 × pj_S)) (v1 : Int32) (v2 : Int32) (v3 : Int32) (z : pj_S) : Option (Int32 × pj_S) :=
  if (nI 400) < v3 then (
    Reader_readCondition_116 sR v2 z
  ) else (
    pj_c (Reader_token z) fun r3 z2 =>
    if r3 = (-8 : Int32) then (
      Reader_readCondition_39 sR s14 v1 v2 v3 z2
    ) else (
      pj_c (Reader_token z2) fun r6 z5 =>
      if r6 = (-9 : Int32) then (
        Reader_readCondition_39 sR s14 v1 v2 v3 z5
      ) else (
        Reader_readCondition_116 sR v2 z5
      )
    )
  )
def Reader_readCondition (sR : Int32 → pj_S → Option (Int32 × pj_S)) (v1 : Int32) (z : pj_S) : Option (Int32 × pj_S) :=
  pj_c (sR v1 z) fun r3 z2 =>
  if r3 = (0) then (
    pj_g (pj_bo (nI 0)) (some ((nI 0), z2))
  ) else (
    pj_lp3 (Reader_readCondition_14 sR) 4000 v1 (nI 0) (nI 0) z2
  )
def Reader_readClause_17 (sR : Int32 → pj_S → Option (Int32 × pj_S))  (v1 : Int32) (v2 : Int32) (z : pj_S) : Option (Int32 × pj_S) :=
  if v1 < (nI 8) then (
    pj_b (pj_sI z 5 5 ((z.1 5 5) + (nI 1))) fun z1 =>
    if v2 = (nI 40) then (
      pj_c (Reader_readCondition sR (v1 + (nI 1)) z1) fun r10 z9 =>
      if r10 = (0) then (
        pj_g (pj_bo (nI 0)) (some ((nI 0), z9))
      ) else (
        pj_c (Reader_readSign (nI 41) z9) fun r13 z12 =>
        if r13 = (0) then (
          pj_g (pj_bo (nI 0)) (some ((nI 0), z12))
        ) else (
          pj_g (pj_bo (nI 1)) (some ((nI 1), z12))
        )
      )
    ) else (
      pj_c (sR (v1 + (nI 1)) z1) fun r4 z3 =>
      if r4 = (0) then (
        pj_g (pj_bo (nI 0)) (some ((nI 0), z3))
      ) else (
        pj_c (Reader_emit (-10 : Int32) z3) fun _ z6 =>
        pj_g (pj_bo (nI 1)) (some ((nI 1), z6))
      )
    )
  ) else (
    pj_c (Reader_fails (nI 3) z) fun r16 z15 =>
    pj_g (pj_bo r16) (some (r16, z15))
  )
def Reader_readClause_172 (sR : Int32 → pj_S → Option (Int32 × pj_S))  (t0 : Int32) (z : pj_S) : Option (Int32 × pj_S) :=
  pj_c (Reader_emit t0 z) fun _ z2 =>
  pj_g (pj_bo (nI 1)) (some ((nI 1), z2))
def Reader_readClause_128 (sR : Int32 → pj_S → Option (Int32 × pj_S))  (v3 : Int32) (z : pj_S) : Option (Int32 × pj_S) :=
  pj_b (pj_sI z 5 5 ((z.1 5 5) + (nI 1))) fun z1 =>
  pj_c (Reader_readSum z1) fun r4 z3 =>
  if r4 = (0) then (
    pj_g (pj_bo (nI 0)) (some ((nI 0), z3))
  ) else (
    if v3 = (nI 60) then (
      Reader_readClause_172 sR (-5 : Int32) z3
    ) else (
      if v3 = (nI 61) then (
        Reader_readClause_172 sR (-6 : Int32) z3
      ) else (
        Reader_readClause_172 sR (-7 : Int32) z3
      )
    )
  )
def Reader_readClause_B (sR : Int32 → pj_S → Option (Int32 × pj_S)) (v1 : Int32) (z : pj_S) : Option (Int32 × pj_S) :=
  pj_c (Reader_token z) fun r3 z2 =>
  if r3 = (nI 40) then (
    Reader_readClause_17 sR v1 r3 z2
  ) else (
    if r3 = (-10 : Int32) then (
      Reader_readClause_17 sR v1 r3 z2
    ) else (
      pj_c (Reader_readSum z2) fun r6 z5 =>
      if r6 = (0) then (
        pj_g (pj_bo (nI 0)) (some ((nI 0), z5))
      ) else (
        pj_c (Reader_token z5) fun r9 z8 =>
        if r9 = (nI 60) then (
          Reader_readClause_128 sR r9 z8
        ) else (
          if r9 = (nI 61) then (
            Reader_readClause_128 sR r9 z8
          ) else (
            if r9 = (nI 62) then (
              Reader_readClause_128 sR r9 z8
            ) else (
              pj_c (Reader_fails (nI 1) z8) fun r12 z11 =>
              pj_g (pj_bo r12) (some (r12, z11))
            )
          )
        )
      )
    )
  )
def Reader_readClause_o (v1 : Int32) (z : pj_S) : Option (Int32 × pj_S) := pj_lp1 Reader_readClause_B 12 v1 z
def Reader_readCondition_o (v1 : Int32) (z : pj_S) : Option (Int32 × pj_S) := Reader_readCondition (pj_lp1 Reader_readClause_B 12) v1 z
def Reader_readLine_94  (v1 : Int32) (z : pj_S) : Option (Int32 × pj_S) :=
  pj_c (Reader_emit v1 z) fun _ z2 =>
  pj_c (Reader_readSign (nI 59) z2) fun r6 z5 =>
  pj_g (pj_bo r6) (some (r6, z5))
def Reader_readLine  (z : pj_S) : Option (Int32 × pj_S) :=
  pj_c (Reader_token z) fun r3 z2 =>
  if r3 = (-18 : Int32) then (
    if (z2.1 5 7) < (nI 16) then (
      pj_b (pj_sI z2 5 5 ((z2.1 5 5) + (nI 1))) fun z4 =>
      pj_b (pj_sI z4 5 7 ((z4.1 5 7) + (nI 1))) fun z5 =>
      pj_c (Reader_readSum z5) fun r8 z7 =>
      if r8 = (0) then (
        pj_g (pj_bo (nI 0)) (some ((nI 0), z7))
      ) else (
        pj_c (Reader_token z7) fun r11 z10 =>
        if r11 = (-19 : Int32) then (
          pj_b (pj_sI z10 5 5 ((z10.1 5 5) + (nI 1))) fun z12 =>
          pj_c (Reader_readCondition_o (nI 0) z12) fun r15 z14 =>
          if r15 = (0) then (
            pj_g (pj_bo (nI 0)) (some ((nI 0), z14))
          ) else (
            Reader_readLine_94 (-19 : Int32) z14
          )
        ) else (
          Reader_readLine_94 (-18 : Int32) z10
        )
      )
    ) else (
      pj_c (Reader_fails (nI 3) z2) fun r18 z17 =>
      pj_g (pj_bo r18) (some (r18, z17))
    )
  ) else (
    pj_c (Reader_fails (nI 1) z2) fun r21 z20 =>
    pj_g (pj_bo r21) (some (r21, z20))
  )
def Tape_signAt (v1 : Int32) (z : pj_S) : Option (Int32 × pj_S) :=
  if v1 < (0) then (
    some ((-1 : Int32), z)
  ) else (
    if (z.1 4 1) ≤ v1 then (
      some ((-1 : Int32), z)
    ) else (
      if (nI 400) ≤ v1 then (
        some ((-1 : Int32), z)
      ) else (
        pj_g (pj_in v1 400) <|
        some (((z.1 23 (Int32.toNatClampNeg v1)) &&& (nI 255)), z)
      )
    )
  )
def Tape_behindBlanks_30 (s2 : Int32 → pj_S → Option (Int32 × pj_S)) (v2 : Int32) (z : pj_S) : Option (Int32 × pj_S) :=
  pj_b (v2 + (nI 1)) fun x1 =>
  s2 x1 z
def Tape_behindBlanks_2 (s2 : Int32 → pj_S → Option (Int32 × pj_S)) (v2 : Int32) (z : pj_S) : Option (Int32 × pj_S) :=
  if (z.1 4 1) ≤ v2 then (
    some (v2, z)
  ) else (
    pj_c (Tape_signAt v2 z) fun r3 z2 =>
    if r3 = (nI 32) then (
      Tape_behindBlanks_30 s2 v2 z2
    ) else (
      pj_c (Tape_signAt v2 z2) fun r6 z5 =>
      if r6 = (nI 10) then (
        Tape_behindBlanks_30 s2 v2 z5
      ) else (
        some (v2, z5)
      )
    )
  )
def Tape_behindBlanks (v1 : Int32) (z : pj_S) : Option (Int32 × pj_S) :=
  pj_lp1 Tape_behindBlanks_2 4000 v1 z
def Tape_isDigit (v0 : Int32) (z : pj_S) : Option (Int32 × pj_S) :=
  if v0 < (nI 48) then (
    pj_g (pj_bo (nI 0)) (some ((nI 0), z))
  ) else (
    if (nI 57) < v0 then (
      pj_g (pj_bo (nI 0)) (some ((nI 0), z))
    ) else (
      pj_g (pj_bo (nI 1)) (some ((nI 1), z))
    )
  )
def Tape_isLetter_24   (z : pj_S) : Option (Int32 × pj_S) :=
  pj_g (pj_bo (nI 1)) (some ((nI 1), z))
def Tape_isLetter_12  (v0 : Int32) (z : pj_S) : Option (Int32 × pj_S) :=
  if v0 < (nI 65) then (
    pj_g (pj_bo (nI 0)) (some ((nI 0), z))
  ) else (
    if (nI 90) < v0 then (
      pj_g (pj_bo (nI 0)) (some ((nI 0), z))
    ) else (
      Tape_isLetter_24 z
    )
  )
def Tape_isLetter (v0 : Int32) (z : pj_S) : Option (Int32 × pj_S) :=
  if v0 < (nI 97) then (
    Tape_isLetter_12 v0 z
  ) else (
    if v0 ≤ (nI 122) then (
      Tape_isLetter_24 z
    ) else (
      Tape_isLetter_12 v0 z
    )
  )
def Tape_behindToken_67 (s30 : Int32 → Int32 → pj_S → Option (Int32 × pj_S)) (v2 : Int32) (v3 : Int32) (z : pj_S) : Option (Int32 × pj_S) :=
  pj_b (v3 + (nI 1)) fun x1 =>
  s30 v2 x1 z
def Tape_behindToken_30 (s30 : Int32 → Int32 → pj_S → Option (Int32 × pj_S)) (v2 : Int32) (v3 : Int32) (z : pj_S) : Option (Int32 × pj_S) :=
  if (z.1 4 1) ≤ v3 then (
    some (v3, z)
  ) else (
    if v2 = (0) then (
      pj_c (Tape_signAt v3 z) fun r3 z2 =>
      pj_c (Tape_isDigit r3 z2) fun r6 z5 =>
      if r6 = (0) then (
        some (v3, z5)
      ) else (
        Tape_behindToken_67 s30 v2 v3 z5
      )
    ) else (
      pj_c (Tape_signAt v3 z) fun r9 z8 =>
      pj_c (Tape_isLetter r9 z8) fun r12 z11 =>
      if r12 = (0) then (
        some (v3, z11)
      ) else (
        Tape_behindToken_67 s30 v2 v3 z11
      )
    )
  )
def Tape_behindToken_28  (v1 : Int32) (v2 : Int32) (z : pj_S) : Option (Int32 × pj_S) :=
  pj_lp2 Tape_behindToken_30 4000 v2 v1 z
def Tape_behindToken (v1 : Int32) (z : pj_S) : Option (Int32 × pj_S) :=
  pj_c (Tape_signAt v1 z) fun r3 z2 =>
  pj_c (Tape_isLetter r3 z2) fun r6 z5 =>
  if r6 = (0) then (
    pj_c (Tape_signAt v1 z5) fun r9 z8 =>
    pj_c (Tape_isDigit r9 z8) fun r12 z11 =>
    if r12 = (0) then (
      some ((v1 + (nI 1)), z11)
    ) else (
      Tape_behindToken_28 v1 r6 z11
    )
  ) else (
    Tape_behindToken_28 v1 r6 z5
  )
def Tape_spells_15 (s15 : Nat → Int32 → Int32 → pj_S → Option (Int32 × pj_S)) (v1 : Nat) (v2 : Int32) (v4 : Int32) (z : pj_S) : Option (Int32 × pj_S) :=
  pj_c (JStr_length v1 z) fun r3 z2 =>
  if r3 ≤ v4 then (
    pj_g (pj_bo (nI 1)) (some ((nI 1), z2))
  ) else (
    pj_c (Tape_signAt (v2 + v4) z2) fun r6 z5 =>
    pj_c (JStr_charAt v1 v4 z5) fun r9 z8 =>
    if r6 = r9 then (
      pj_b (v4 + (nI 1)) fun x10 =>
      s15 v1 v2 x10 z8
    ) else (
      pj_g (pj_bo (nI 0)) (some ((nI 0), z8))
    )
  )
def Tape_spells (v1 : Nat) (v2 : Int32) (v3 : Int32) (z : pj_S) : Option (Int32 × pj_S) :=
  pj_c (JStr_length v1 z) fun r3 z2 =>
  if (v3 - v2) = r3 then (
    pj_lp3 Tape_spells_15 4000 v1 v2 (nI 0) z2
  ) else (
    pj_g (pj_bo (nI 0)) (some ((nI 0), z2))
  )
def Reader_traitWordOf (v1 : Int32) (v2 : Int32) (z : pj_S) : Option (Int32 × pj_S) :=
  pj_c (Tape_spells (5) v1 v2 z) fun r3 z2 =>
  if r3 = (0) then (
    pj_c (Tape_spells (6) v1 v2 z2) fun r6 z5 =>
    if r6 = (0) then (
      pj_c (Tape_spells (7) v1 v2 z5) fun r9 z8 =>
      if r9 = (0) then (
        pj_c (Tape_spells (8) v1 v2 z8) fun r12 z11 =>
        if r12 = (0) then (
          pj_c (Tape_spells (9) v1 v2 z11) fun r15 z14 =>
          if r15 = (0) then (
            pj_c (Tape_spells (10) v1 v2 z14) fun r18 z17 =>
            if r18 = (0) then (
              pj_c (Tape_spells (11) v1 v2 z17) fun r21 z20 =>
              if r21 = (0) then (
                some ((nI 2), z20)
              ) else (
                some ((-17 : Int32), z20)
              )
            ) else (
              some ((-16 : Int32), z17)
            )
          ) else (
            some ((-15 : Int32), z14)
          )
        ) else (
          some ((-14 : Int32), z11)
        )
      ) else (
        some ((-13 : Int32), z8)
      )
    ) else (
      some ((-12 : Int32), z5)
    )
  ) else (
    some ((-11 : Int32), z2)
  )
def Reader_wordOf (v1 : Int32) (v2 : Int32) (z : pj_S) : Option (Int32 × pj_S) :=
  pj_c (Tape_spells (0) v1 v2 z) fun r3 z2 =>
  if r3 = (0) then (
    pj_c (Tape_spells (1) v1 v2 z2) fun r6 z5 =>
    if r6 = (0) then (
      pj_c (Tape_spells (2) v1 v2 z5) fun r9 z8 =>
      if r9 = (0) then (
        pj_c (Tape_spells (3) v1 v2 z8) fun r12 z11 =>
        if r12 = (0) then (
          pj_c (Tape_spells (4) v1 v2 z11) fun r15 z14 =>
          if r15 = (0) then (
            pj_c (Reader_traitWordOf v1 v2 z14) fun r18 z17 =>
            some (r18, z17)
          ) else (
            some ((-10 : Int32), z14)
          )
        ) else (
          some ((-8 : Int32), z11)
        )
      ) else (
        some ((-9 : Int32), z8)
      )
    ) else (
      some ((-19 : Int32), z5)
    )
  ) else (
    some ((-18 : Int32), z2)
  )
def Reader_tokenOf (v1 : Int32) (v2 : Int32) (z : pj_S) : Option (Int32 × pj_S) :=
  pj_c (Tape_signAt v1 z) fun r3 z2 =>
  if r3 = (-1 : Int32) then (
    some ((nI 0), z2)
  ) else (
    pj_c (Tape_isLetter r3 z2) fun r6 z5 =>
    if r6 = (0) then (
      pj_c (Tape_isDigit r3 z5) fun r9 z8 =>
      if r9 = (0) then (
        if r3 = (nI 40) then (
          some (r3, z8)
        ) else (
        if r3 = (nI 41) then (
          some (r3, z8)
        ) else (
        if r3 = (nI 42) then (
          some (r3, z8)
        ) else (
        if r3 = (nI 43) then (
          some (r3, z8)
        ) else (
        if r3 = (nI 44) then (
          some ((nI 2), z8)
        ) else (
        if r3 = (nI 45) then (
          some (r3, z8)
        ) else (
        if r3 = (nI 46) then (
          some ((nI 2), z8)
        ) else (
        if r3 = (nI 47) then (
          some (r3, z8)
        ) else (
        if r3 = (nI 48) then (
          some ((nI 2), z8)
        ) else (
        if r3 = (nI 49) then (
          some ((nI 2), z8)
        ) else (
        if r3 = (nI 50) then (
          some ((nI 2), z8)
        ) else (
        if r3 = (nI 51) then (
          some ((nI 2), z8)
        ) else (
        if r3 = (nI 52) then (
          some ((nI 2), z8)
        ) else (
        if r3 = (nI 53) then (
          some ((nI 2), z8)
        ) else (
        if r3 = (nI 54) then (
          some ((nI 2), z8)
        ) else (
        if r3 = (nI 55) then (
          some ((nI 2), z8)
        ) else (
        if r3 = (nI 56) then (
          some ((nI 2), z8)
        ) else (
        if r3 = (nI 57) then (
          some ((nI 2), z8)
        ) else (
        if r3 = (nI 58) then (
          some ((nI 2), z8)
        ) else (
        if r3 = (nI 59) then (
          some (r3, z8)
        ) else (
        if r3 = (nI 60) then (
          some (r3, z8)
        ) else (
        if r3 = (nI 61) then (
          some (r3, z8)
        ) else (
        if r3 = (nI 62) then (
          some (r3, z8)
        ) else (
          some ((nI 2), z8)
        )))))))))))))))))))))))
      ) else (
        if (nI 4) < (v2 - v1) then (
          some ((nI 2), z8)
        ) else (
          some ((nI 1), z8)
        )
      )
    ) else (
      pj_c (Reader_wordOf v1 v2 z5) fun r12 z11 =>
      some (r12, z11)
    )
  )
def Tape_numberAt_5 (s5 : Int32 → Int32 → Int32 → pj_S → Option (Int32 × pj_S)) (v2 : Int32) (v3 : Int32) (v4 : Int32) (z : pj_S) : Option (Int32 × pj_S) :=
  if v2 ≤ v4 then (
    some (v3, z)
  ) else (
    pj_c (Tape_signAt v4 z) fun r3 z2 =>
    pj_b ((((nI 10) * v3) + r3) - (nI 48)) fun x4 =>
    pj_b (v4 + (nI 1)) fun x5 =>
    s5 v2 x4 x5 z2
  )
def Tape_numberAt (v1 : Int32) (v2 : Int32) (z : pj_S) : Option (Int32 × pj_S) :=
  pj_lp3 Tape_numberAt_5 4000 v2 (nI 0) v1 z
def Reader_scan_117 (s12 : Int32 → Int32 → Int32 → pj_S → Option (Unit × pj_S)) (v3 : Int32) (v4 : Int32) (v5 : Int32) (z : pj_S) : Option (Unit × pj_S) :=
  pj_b (v4 + (nI 1)) fun x1 =>
  s12 v5 v3 x1 z
def Reader_scan_106 (s12 : Int32 → Int32 → Int32 → pj_S → Option (Unit × pj_S)) (v3 : Int32) (v4 : Int32) (v5 : Int32) (t0 : Int32) (t1 : Int32) (z : pj_S) : Option (Unit × pj_S) :=
  pj_g (pj_in t1 401) <|
  pj_b (pj_sI z 26 (Int32.toNatClampNeg t1) t0) fun z1 =>
  pj_b (pj_sI z1 5 4 ((z1.1 5 4) + (nI 1))) fun z2 =>
  Reader_scan_117 s12 v3 v4 v5 z2
def Reader_scan_12 (s12 : Int32 → Int32 → Int32 → pj_S → Option (Unit × pj_S)) (v2 : Int32) (v3 : Int32) (v4 : Int32) (z : pj_S) : Option (Unit × pj_S) :=
  if (nI 400) < v4 then (
    some ((), z)
  ) else (
    if v3 = (0) then (
      some ((), z)
    ) else (
      if v3 = (nI 2) then (
        some ((), z)
      ) else (
        pj_c (Tape_behindBlanks v2 z) fun r3 z2 =>
        pj_c (Tape_behindToken r3 z2) fun r6 z5 =>
        pj_c (Reader_tokenOf r3 r6 z5) fun r9 z8 =>
        if (nI 401) ≤ (z8.1 5 4) then (
          Reader_scan_117 s12 r9 v4 r6 z8
        ) else (
          pj_g (pj_in (z8.1 5 4) 401) <|
          pj_b (pj_sI z8 24 (Int32.toNatClampNeg (z8.1 5 4)) r9) fun z10 =>
          pj_g (pj_in (z10.1 5 4) 401) <|
          pj_b (pj_sI z10 25 (Int32.toNatClampNeg (z10.1 5 4)) r3) fun z11 =>
          if r9 = (nI 1) then (
            pj_c (Tape_numberAt r3 r6 z11) fun r14 z13 =>
            Reader_scan_106 s12 r9 v4 r6 r14 (z11.1 5 4) z13
          ) else (
            Reader_scan_106 s12 r9 v4 r6 (nI 0) (z11.1 5 4) z11
          )
        )
      )
    )
  )
def Reader_scan  (z : pj_S) : Option (Unit × pj_S) :=
  pj_b (pj_sI z 5 4 (nI 0)) fun z1 =>
  pj_lp3 Reader_scan_12 4000 (nI 0) (nI 1) (nI 0) z1
def Reader_read_60   (z : pj_S) : Option (Int32 × pj_S) :=
  pj_c (Law_take (z.1 5 6) (z.1 5 7) z) fun _ z2 =>
  pj_g (pj_bo (nI 1)) (some ((nI 1), z2))
def Reader_read_32 (s32 : Int32 → pj_S → Option (Int32 × pj_S)) (v3 : Int32) (z : pj_S) : Option (Int32 × pj_S) :=
  if (nI 16) < v3 then (
    Reader_read_60 z
  ) else (
    pj_c (Reader_token z) fun r3 z2 =>
    if r3 = (0) then (
      Reader_read_60 z2
    ) else (
      pj_c (Reader_readLine z2) fun r6 z5 =>
      if r6 = (0) then (
        pj_g (pj_bo (nI 0)) (some ((nI 0), z5))
      ) else (
        pj_b (v3 + (nI 1)) fun x7 =>
        s32 x7 z5
      )
    )
  )
def Reader_read  (z : pj_S) : Option (Int32 × pj_S) :=
  pj_b (pj_sI z 5 8 (nI 0)) fun z1 =>
  pj_b (pj_sI z1 5 9 (-1 : Int32)) fun z2 =>
  pj_b (pj_sI z2 5 5 (nI 0)) fun z3 =>
  pj_b (pj_sI z3 5 6 (nI 0)) fun z4 =>
  pj_b (pj_sI z4 5 7 (nI 0)) fun z5 =>
  pj_c (Reader_scan z5) fun _ z7 =>
  pj_lp1 Reader_read_32 4000 (nI 0) z7
def PJ_text  (z : pj_S) : Option (Int32 × pj_S) :=
  pj_c (Reader_read z) fun r3 z2 =>
  pj_b (pj_sI z2 4 1 (nI 0)) fun z4 =>
  if r3 = (0) then (
    some ((-1 : Int32), z4)
  ) else (
    some ((z4.1 9 3), z4)
  )
def PJ_fault (v1 : Int32) (z : pj_S) : Option (Int32 × pj_S) :=
  if v1 = (0) then (
    some ((z.1 5 8), z)
  ) else (
    if v1 = (nI 1) then (
      some ((z.1 5 9), z)
    ) else (
      some ((-1 : Int32), z)
    )
  )
def Fabric_placeOf_33  (t0 : Int32) (t1 : Int32) (z : pj_S) : Option (Int32 × pj_S) :=
  some ((t1 + t0), z)
def Fabric_placeOf (v1 : Int32) (z : pj_S) : Option (Int32 × pj_S) :=
  pj_b (v1 &&& (nI 7)) fun x1 =>
  pj_b (v1 >>> ((nI 3) &&& 31)) fun x2 =>
  if (x2 &&& (nI 1)) = (0) then (
    Fabric_placeOf_33 x1 (x2 * (z.1 8 0)) z
  ) else (
    Fabric_placeOf_33 (((z.1 8 0) - (nI 1)) - x1) (x2 * (z.1 8 0)) z
  )
def PJ_of (v1 : Int32) (v2 : Int32) (z : pj_S) : Option (Int32 × pj_S) :=
  pj_c (Fabric_has v1 z) fun r3 z2 =>
  if r3 = (0) then (
    some ((-1 : Int32), z2)
  ) else (
    if v2 = (nI 0) then (
      pj_c (Fabric_kindOf v1 z2) fun r6 z5 =>
      some (r6, z5)
    ) else (
    if v2 = (nI 1) then (
      pj_c (PJ_bitOf (z2.2 8 6) v1 z2) fun r9 z8 =>
      some (r9, z8)
    ) else (
    if v2 = (nI 2) then (
      pj_c (PJ_bitOf (z2.2 8 7) v1 z2) fun r12 z11 =>
      some (r12, z11)
    ) else (
    if v2 = (nI 3) then (
      pj_c (Fabric_heldOf (z2.2 8 6) (z2.2 8 7) z2) fun r15 z14 =>
      pj_c (PJ_bitOf r15 v1 z14) fun r18 z17 =>
      some (r18, z17)
    ) else (
    if v2 = (nI 4) then (
      pj_c (Fabric_placeOf v1 z2) fun r21 z20 =>
      some (r21, z20)
    ) else (
    if v2 = (nI 5) then (
      pj_c (Fabric_loose z2) fun r24 z23 =>
      pj_c (PJ_bitOf r24 v1 z23) fun r27 z26 =>
      if r27 = (nI 1) then (
        pj_c (Law_oddsOf (z26.1 1 4) v1 z26) fun r30 z29 =>
        some (r30, z29)
      ) else (
        some ((nI 0), z26)
      )
    ) else (
    if v2 = (nI 6) then (
      pj_c (PJ_bitOf (z2.2 8 8) v1 z2) fun r33 z32 =>
      some (r33, z32)
    ) else (
      some ((-1 : Int32), z2)
    )))))))
  )
def PJ_at (v1 : Int32) (v2 : Int32) (z : pj_S) : Option (Int32 × pj_S) :=
  if v1 < (0) then (
    some ((-1 : Int32), z)
  ) else (
    pj_c (Fabric_places z) fun r3 z2 =>
    if v1 < r3 then (
      if v2 = (nI 0) then (
        pj_c (Fabric_stitchAt v1 z2) fun r6 z5 =>
        some (r6, z5)
      ) else (
      if v2 = (nI 1) then (
        pj_c (PJ_bitOf (z2.2 8 9) v1 z2) fun r9 z8 =>
        some (r9, z8)
      ) else (
      if v2 = (nI 2) then (
        pj_c (Fabric_isEnd v1 (nI 0) z2) fun r12 z11 =>
        if r12 = (0) then (
          some ((nI 0), z11)
        ) else (
          some ((nI 1), z11)
        )
      ) else (
      if v2 = (nI 3) then (
        pj_c (Fabric_isEnd v1 (nI 1) z2) fun r15 z14 =>
        if r15 = (0) then (
          some ((nI 0), z14)
        ) else (
          some ((nI 1), z14)
        )
      ) else (
        some ((-1 : Int32), z2)
      ))))
    ) else (
      some ((-1 : Int32), z2)
    )
  )
def Wool_lengthOf (v1 : Int32) (z : pj_S) : Option (Int32 × pj_S) :=
  if v1 < (0) then (
    some ((-1 : Int32), z)
  ) else (
    if (z.1 11 1) ≤ v1 then (
      some ((-1 : Int32), z)
    ) else (
      if (nI 20) ≤ v1 then (
        some ((-1 : Int32), z)
      ) else (
        pj_g (pj_in v1 20) <|
        some ((z.1 34 (Int32.toNatClampNeg v1)), z)
      )
    )
  )
def PJ_wound (v1 : Int32) (z : pj_S) : Option (Int32 × pj_S) :=
  pj_c (Wool_lengthOf v1 z) fun r3 z2 =>
  some (r3, z2)
def Book_read (v1 : Int32) (v2 : Int32) (z : pj_S) : Option (Int32 × pj_S) :=
  if v1 < (0) then (
    some ((-1 : Int32), z)
  ) else (
    if (z.1 10 3) ≤ v1 then (
      some ((-1 : Int32), z)
    ) else (
      if v1 < (nI 100) then (
        if v2 = (nI 0) then (
          pj_g (pj_in v1 100) <|
          some ((z.1 31 (Int32.toNatClampNeg v1)), z)
        ) else (
        if v2 = (nI 1) then (
          pj_g (pj_in v1 100) <|
          some ((z.1 32 (Int32.toNatClampNeg v1)), z)
        ) else (
        if v2 = (nI 2) then (
          pj_g (pj_in v1 100) <|
          some ((z.1 33 (Int32.toNatClampNeg v1)), z)
        ) else (
          some ((-1 : Int32), z)
        )))
      ) else (
        some ((-1 : Int32), z)
      )
    )
  )
def PJ_book (v1 : Int32) (v2 : Int32) (z : pj_S) : Option (Int32 × pj_S) :=
  pj_c (Book_read v1 v2 z) fun r3 z2 =>
  some (r3, z2)
def Fabric_inTheEnd_32  (v5 : Int64) (z : pj_S) : Option (Int64 × pj_S) :=
  some (v5, z)
def Fabric_inTheEnd_45  (v5 : Int64) (z : pj_S) : Option (Int64 × pj_S) :=
  some (v5, z)
def Fabric_inTheEnd_6 (s6 : Int64 → Int64 → Int32 → pj_S → Option (Int64 × pj_S)) (v3 : Int64) (v5 : Int64) (v7 : Int32) (z : pj_S) : Option (Int64 × pj_S) :=
  if (z.1 8 1) ≤ v7 then (
    Fabric_inTheEnd_45 v5 z
  ) else (
    pj_c (Fabric_heldOf v5 v3 z) fun r3 z2 =>
    if (lg_cmp r3 v5) = (0) then (
      Fabric_inTheEnd_32 v5 z2
    ) else (
      pj_b (v7 + (nI 1)) fun x4 =>
      s6 v3 r3 x4 z2
    )
  )
def Fabric_inTheEnd (v1 : Int64) (v3 : Int64) (z : pj_S) : Option (Int64 × pj_S) :=
  pj_lp3 Fabric_inTheEnd_6 4000 v3 v1 (nI 0) z
def PJ_numberIn_33 (s5 : Int64 → Int32 → Int32 → Int32 → pj_S → Option (Int32 × pj_S)) (v0 : Int64) (v2 : Int32) (v3 : Int32) (v4 : Int32) (z : pj_S) : Option (Int32 × pj_S) :=
  pj_b (v4 + (nI 1)) fun x1 =>
  s5 v0 v2 v3 x1 z
def PJ_numberIn_27  (v4 : Int32) (z : pj_S) : Option (Int32 × pj_S) :=
  some (v4, z)
def PJ_numberIn_5 (s5 : Int64 → Int32 → Int32 → Int32 → pj_S → Option (Int32 × pj_S)) (v0 : Int64) (v2 : Int32) (v3 : Int32) (v4 : Int32) (z : pj_S) : Option (Int32 × pj_S) :=
  if (nI 48) ≤ v4 then (
    some ((-1 : Int32), z)
  ) else (
    pj_c (PJ_bitOf v0 v4 z) fun r3 z2 =>
    if r3 = (nI 1) then (
      if v3 = v2 then (
        PJ_numberIn_27 v4 z2
      ) else (
        pj_b (v3 + (nI 1)) fun x4 =>
        PJ_numberIn_33 s5 v0 v2 x4 v4 z2
      )
    ) else (
      PJ_numberIn_33 s5 v0 v2 v3 v4 z2
    )
  )
def PJ_numberIn (v0 : Int64) (v2 : Int32) (z : pj_S) : Option (Int32 × pj_S) :=
  pj_lp4 PJ_numberIn_5 4000 v0 v2 (nI 0) (nI 0) z
def PJ_runs (v1 : Int32) (v2 : Int32) (z : pj_S) : Option (Int32 × pj_S) :=
  pj_c (Fabric_isHere v1 z) fun r3 z2 =>
  if r3 = (0) then (
    some ((-1 : Int32), z2)
  ) else (
    pj_b ((z2.2 8 6) &&& ((pj_shlL (1 : Int64) v1) ^^^ (-1 : Int64))) fun x4 =>
    pj_c (Fabric_inTheEnd x4 (z2.2 8 7) z2) fun r7 z6 =>
    pj_b (x4 &&& (r7 ^^^ (-1 : Int64))) fun x8 =>
    if v2 = (0) then (
      pj_c (JLong_bitCount x8 z6) fun r14 z13 =>
      some (r14, z13)
    ) else (
      if v2 = (nI 1) then (
        if (lg_cmp x8 (0 : Int64)) = (0) then (
          some ((-1 : Int32), z6)
        ) else (
          pj_c (PJ_numberIn x8 (nI 0) z6) fun r11 z10 =>
          some ((r11 >>> ((nI 3) &&& 31)), z10)
        )
      ) else (
        some ((-1 : Int32), z6)
      )
    )
  )
def Saver_goingWith (v1 : Int64) (z : pj_S) : Option (Int64 × pj_S) :=
  pj_c (Fabric_inTheEnd (z.2 8 6) ((z.2 8 7) ||| v1) z) fun r3 z2 =>
  some (((z.2 8 6) &&& (r3 ^^^ (-1 : Int64))), z2)
def Saver_choose_123 (sR : Int64 → Int32 → Int64 → Int64 → pj_S → Option (Unit × pj_S)) (s36 : Int64 → Int32 → Int64 → Int64 → Int32 → pj_S → Option (Unit × pj_S)) (v2 : Int64) (v4 : Int32) (v5 : Int64) (v7 : Int64) (v9 : Int32) (z : pj_S) : Option (Unit × pj_S) :=
  pj_b (v9 + (nI 1)) fun x1 =>
  s36 v2 v4 v5 v7 x1 z
def Saver_choose_89 (sR : Int64 → Int32 → Int64 → Int64 → pj_S → Option (Unit × pj_S)) (s36 : Int64 → Int32 → Int64 → Int64 → Int32 → pj_S → Option (Unit × pj_S)) (v2 : Int64) (v4 : Int32) (v5 : Int64) (v7 : Int64) (v9 : Int32) (v10 : Int64) (t0 : Int64) (z : pj_S) : Option (Unit × pj_S) :=
  pj_b (v2 &&& (((pj_shlL v10 (nI 1)) - (1 : Int64)) ^^^ (-1 : Int64))) fun x1 =>
  pj_c (sR x1 (v4 - (nI 1)) (v5 ||| v10) t0 z) fun _ z3 =>
  Saver_choose_123 sR s36 v2 v4 v5 v7 v9 z3
def Saver_choose_36 (sR : Int64 → Int32 → Int64 → Int64 → pj_S → Option (Unit × pj_S)) (s36 : Int64 → Int32 → Int64 → Int64 → Int32 → pj_S → Option (Unit × pj_S)) (v2 : Int64) (v4 : Int32) (v5 : Int64) (v7 : Int64) (v9 : Int32) (z : pj_S) : Option (Unit × pj_S) :=
  if (nI 48) ≤ v9 then (
    some ((), z)
  ) else (
    if (z.1 7 0) ≤ (0) then (
      some ((), z)
    ) else (
      pj_b (pj_shlL (1 : Int64) v9) fun x1 =>
      if (lg_cmp (v2 &&& x1) (0 : Int64)) = (0) then (
        Saver_choose_123 sR s36 v2 v4 v5 v7 v9 z
      ) else (
        if (lg_cmp (v7 &&& x1) (0 : Int64)) = (0) then (
          Saver_choose_89 sR s36 v2 v4 v5 v7 v9 x1 v7 z
        ) else (
          pj_c (Saver_goingWith (v5 ||| x1) z) fun r4 z3 =>
          Saver_choose_89 sR s36 v2 v4 v5 v7 v9 x1 r4 z3
        )
      )
    )
  )
def Saver_choose_B (sR : Int64 → Int32 → Int64 → Int64 → pj_S → Option (Unit × pj_S)) (v2 : Int64) (v4 : Int32) (v5 : Int64) (v7 : Int64) (z : pj_S) : Option (Unit × pj_S) :=
  if (0) < v4 then (
    pj_lp5 (Saver_choose_36 sR) 4000 v2 v4 v5 v7 (nI 0) z
  ) else (
    pj_c (JLong_bitCount v7 z) fun r3 z2 =>
    if (z2.1 7 0) ≤ r3 then (
      some ((), z2)
    ) else (
      pj_c (JLong_bitCount v7 z2) fun r6 z5 =>
      pj_b (pj_sI z5 7 0 r6) fun z7 =>
      pj_b (pj_sJ z7 7 1 v5) fun z8 =>
      some ((), z8)
    )
  )
def Saver_choose_o (v2 : Int64) (v4 : Int32) (v5 : Int64) (v7 : Int64) (z : pj_S) : Option (Unit × pj_S) := pj_lp4 Saver_choose_B 6 v2 v4 v5 v7 z
def Saver_search (v2 : Int32) (z : pj_S) : Option (Unit × pj_S) :=
  pj_b ((z.2 8 6) &&& ((z.2 8 7) ^^^ (-1 : Int64))) fun x1 =>
  pj_b (pj_sI z 7 0 (nI 37)) fun z2 =>
  pj_b (pj_sJ z2 7 1 (0 : Int64)) fun z3 =>
  pj_c (JLong_bitCount x1 z3) fun r6 z5 =>
  pj_c (Saver_goingWith (0 : Int64) z5) fun r9 z8 =>
  pj_c (Saver_choose_o x1 (pj_min v2 r6) (0 : Int64) r9 z8) fun _ z11 =>
  some ((), z11)
def PJ_save (v1 : Int32) (v2 : Int32) (z : pj_S) : Option (Int32 × pj_S) :=
  if v1 < (0) then (
    some ((-1 : Int32), z)
  ) else (
    if (nI 3) < v1 then (
      some ((-1 : Int32), z)
    ) else (
      if v2 < (0) then (
        some ((-1 : Int32), z)
      ) else (
        if v2 ≤ (nI 3) then (
          pj_c (Saver_search v1 z) fun _ z2 =>
          if v2 = (0) then (
            some ((z2.1 7 0), z2)
          ) else (
            pj_c (PJ_numberIn (z2.2 7 1) (v2 - (nI 1)) z2) fun r6 z5 =>
            some (r6, z5)
          )
        ) else (
          some ((-1 : Int32), z)
        )
      )
    )
  )
def PJ_comes (v1 : Int32) (v2 : Int32) (v3 : Int32) (z : pj_S) : Option (Int32 × pj_S) :=
  pj_c (Fabric_isEnd v1 v2 z) fun r3 z2 =>
  if r3 = (0) then (
    some ((-1 : Int32), z2)
  ) else (
    pj_c (Puller_walk v1 v2 (nI 36) z2) fun _ z5 =>
    if v3 = (0) then (
      some ((z5.1 6 1), z5)
    ) else (
      if v3 = (nI 1) then (
        some ((z5.1 6 2), z5)
      ) else (
        some ((-1 : Int32), z5)
      )
    )
  )
def PJ_undoesAll (v1 : Int32) (v2 : Int32) (z : pj_S) : Option (Int32 × pj_S) :=
  pj_c (Fabric_isEnd v1 v2 z) fun r3 z2 =>
  if r3 = (0) then (
    pj_g (pj_bo (nI 0)) (some ((nI 0), z2))
  ) else (
    pj_c (Puller_walk v1 v2 (nI 36) z2) fun _ z5 =>
    if (lg_cmp (z5.2 6 3) (0 : Int64)) = (0) then (
      pj_g (pj_bo (nI 1)) (some ((nI 1), z5))
    ) else (
      pj_g (pj_bo (nI 0)) (some ((nI 0), z5))
    )
  )
def PJ_all_58  (v1 : Int32) (v2 : Int32) (v3 : Int32) (z : pj_S) : Option (Int32 × pj_S) :=
  if v1 = (0) then (
    some (v2, z)
  ) else (
    some (v3, z)
  )
def PJ_all_74 (s28 : Int32 → Int32 → pj_S → Option (Int32 × pj_S)) (v1 : Int32) (v2 : Int32) (z : pj_S) : Option (Int32 × pj_S) :=
  pj_b (v2 + (nI 1)) fun x1 =>
  s28 v1 x1 z
def PJ_all_44 (s28 : Int32 → Int32 → pj_S → Option (Int32 × pj_S)) (s44 : Int32 → Int32 → Int32 → pj_S → Option (Int32 × pj_S)) (v1 : Int32) (v2 : Int32) (v3 : Int32) (z : pj_S) : Option (Int32 × pj_S) :=
  if (nI 1) < v3 then (
    PJ_all_74 s28 v1 v2 z
  ) else (
    pj_c (PJ_undoesAll v2 v3 z) fun r3 z2 =>
    if r3 = (0) then (
      pj_b (v3 + (nI 1)) fun x4 =>
      s44 v1 v2 x4 z2
    ) else (
      PJ_all_58 v1 v2 v3 z2
    )
  )
def PJ_all_28 (s28 : Int32 → Int32 → pj_S → Option (Int32 × pj_S)) (v1 : Int32) (v2 : Int32) (z : pj_S) : Option (Int32 × pj_S) :=
  pj_c (Fabric_places z) fun r3 z2 =>
  if r3 ≤ v2 then (
    some ((-1 : Int32), z2)
  ) else (
    pj_lp3 (PJ_all_44 s28) 4000 v1 v2 (nI 0) z2
  )
def PJ_all (v1 : Int32) (z : pj_S) : Option (Int32 × pj_S) :=
  if v1 < (0) then (
    some ((-1 : Int32), z)
  ) else (
    if (nI 1) < v1 then (
      some ((-1 : Int32), z)
    ) else (
      if (lg_cmp (z.2 8 6) (0 : Int64)) = (0) then (
        some ((-1 : Int32), z)
      ) else (
        pj_lp2 PJ_all_28 4000 v1 (nI 0) z
      )
    )
  )
def Fabric_cutsAround_101 (s5 : Int64 → Int32 → Int32 → pj_S → Option (Int32 × pj_S)) (v1 : Int64) (v3 : Int32) (v4 : Int32) (z : pj_S) : Option (Int32 × pj_S) :=
  pj_b (v4 + (nI 1)) fun x1 =>
  s5 v1 v3 x1 z
def Fabric_cutsAround_76 (s5 : Int64 → Int32 → Int32 → pj_S → Option (Int32 × pj_S)) (v1 : Int64) (v3 : Int32) (v4 : Int32) (v5 : Int32) (v6 : Int32) (t0 : Int32) (z : pj_S) : Option (Int32 × pj_S) :=
  if t0 = (0) then (
    Fabric_cutsAround_101 s5 v1 v3 v4 z
  ) else (
    pj_c (PJ_bitOf v1 v5 z) fun r3 z2 =>
    pj_c (PJ_bitOf v1 v6 z2) fun r6 z5 =>
    if r3 = r6 then (
      Fabric_cutsAround_101 s5 v1 v3 v4 z5
    ) else (
      pj_b (v3 + (nI 1)) fun x7 =>
      Fabric_cutsAround_101 s5 v1 x7 v4 z5
    )
  )
def Fabric_cutsAround_75 (s5 : Int64 → Int32 → Int32 → pj_S → Option (Int32 × pj_S)) (v1 : Int64) (v3 : Int32) (v4 : Int32) (v5 : Int32) (v6 : Int32) (z : pj_S) : Option (Int32 × pj_S) :=
  Fabric_cutsAround_76 s5 v1 v3 v4 v5 v6 (nI 0) z
def Fabric_cutsAround_5 (s5 : Int64 → Int32 → Int32 → pj_S → Option (Int32 × pj_S)) (v1 : Int64) (v3 : Int32) (v4 : Int32) (z : pj_S) : Option (Int32 × pj_S) :=
  pj_c (Fabric_places z) fun r3 z2 =>
  if r3 ≤ (v4 + (nI 1)) then (
    some (v3, z2)
  ) else (
    pj_c (Fabric_stitchAt v4 z2) fun r6 z5 =>
    pj_c (Fabric_stitchAt (v4 + (nI 1)) z5) fun r9 z8 =>
    pj_c (Fabric_hasThreadBetween v4 (v4 + (nI 1)) z8) fun r12 z11 =>
    if r12 = (0) then (
      Fabric_cutsAround_75 s5 v1 v3 v4 r6 r9 z11
    ) else (
      pj_c (PJ_bitOf (z11.2 8 8) r6 z11) fun r15 z14 =>
      if r15 = (0) then (
        pj_c (PJ_bitOf (z14.2 8 8) r9 z14) fun r18 z17 =>
        if r18 = (0) then (
          Fabric_cutsAround_76 s5 v1 v3 v4 r6 r9 (nI 1) z17
        ) else (
          Fabric_cutsAround_75 s5 v1 v3 v4 r6 r9 z17
        )
      ) else (
        Fabric_cutsAround_75 s5 v1 v3 v4 r6 r9 z14
      )
    )
  )
def Fabric_cutsAround (v1 : Int64) (z : pj_S) : Option (Int32 × pj_S) :=
  pj_lp3 Fabric_cutsAround_5 4000 v1 (nI 0) (nI 0) z
def PJ_part (v1 : Int32) (v2 : Int32) (v3 : Int32) (v4 : Int32) (z : pj_S) : Option (Int32 × pj_S) :=
  if v1 < (0) then (
    some ((-1 : Int32), z)
  ) else (
    if v2 < v1 then (
      some ((-1 : Int32), z)
    ) else (
      if (z.1 8 0) ≤ v2 then (
        some ((-1 : Int32), z)
      ) else (
        if v3 < (0) then (
          some ((-1 : Int32), z)
        ) else (
          if v4 < v3 then (
            some ((-1 : Int32), z)
          ) else (
            if v4 < (z.1 8 1) then (
              pj_c (PJ_rectangle v1 v2 v3 v4 z) fun r3 z2 =>
              pj_c (Fabric_cutsAround r3 z2) fun r6 z5 =>
              some (r6, z5)
            ) else (
              some ((-1 : Int32), z)
            )
          )
        )
      )
    )
  )
def Wool_longestBut_45 (s7 : Int32 → Int32 → Int32 → Int32 → pj_S → Option (Int32 × pj_S)) (v1 : Int32) (v2 : Int32) (v3 : Int32) (v4 : Int32) (z : pj_S) : Option (Int32 × pj_S) :=
  pj_b (v4 + (nI 1)) fun x1 =>
  s7 v1 v2 v3 x1 z
def Wool_longestBut_7 (s7 : Int32 → Int32 → Int32 → Int32 → pj_S → Option (Int32 × pj_S)) (v1 : Int32) (v2 : Int32) (v3 : Int32) (v4 : Int32) (z : pj_S) : Option (Int32 × pj_S) :=
  if (z.1 11 1) ≤ v4 then (
    some (v2, z)
  ) else (
    if ((pj_ushr v1 v4) &&& (nI 1)) = (0) then (
      pj_c (Wool_lengthOf v4 z) fun r3 z2 =>
      if r3 ≤ v3 then (
        Wool_longestBut_45 s7 v1 v2 v3 v4 z2
      ) else (
        pj_c (Wool_lengthOf v4 z2) fun r6 z5 =>
        Wool_longestBut_45 s7 v1 v4 r6 v4 z5
      )
    ) else (
      Wool_longestBut_45 s7 v1 v2 v3 v4 z
    )
  )
def Wool_longestBut (v1 : Int32) (z : pj_S) : Option (Int32 × pj_S) :=
  pj_lp4 Wool_longestBut_7 4000 v1 (nI 0) (nI 0) (nI 0) z
def Wool_fewestFor_44  (v4 : Int32) (z : pj_S) : Option (Int32 × pj_S) :=
  some (v4, z)
def Wool_fewestFor_7 (s7 : Int32 → Int32 → Int32 → Int32 → pj_S → Option (Int32 × pj_S)) (v1 : Int32) (v2 : Int32) (v3 : Int32) (v4 : Int32) (z : pj_S) : Option (Int32 × pj_S) :=
  if (z.1 11 1) < v4 then (
    some ((-1 : Int32), z)
  ) else (
    pj_c (Wool_longestBut v2 z) fun r3 z2 =>
    pj_b (v2 ||| ((nI 1) <<< (r3 &&& 31))) fun x4 =>
    pj_c (Wool_lengthOf r3 z2) fun r7 z6 =>
    pj_b (v3 + r7) fun x8 =>
    if x8 < v1 then (
      pj_b (v4 + (nI 1)) fun x9 =>
      s7 v1 x4 x8 x9 z6
    ) else (
      Wool_fewestFor_44 v4 z6
    )
  )
def Wool_fewestFor (v1 : Int32) (z : pj_S) : Option (Int32 × pj_S) :=
  pj_lp4 Wool_fewestFor_7 4000 v1 (nI 0) (nI 0) (nI 1) z
def PJ_join (v1 : Int32) (z : pj_S) : Option (Int32 × pj_S) :=
  if (nI 1) ≤ v1 then (
    pj_c (Wool_fewestFor v1 z) fun r3 z2 =>
    some (r3, z2)
  ) else (
    some ((-1 : Int32), z)
  )
def Whole_likelyQuiet_59 (s14 : Int64 → Int32 → Int32 → pj_S → Option (Int32 × pj_S)) (v1 : Int64) (v3 : Int32) (v4 : Int32) (z : pj_S) : Option (Int32 × pj_S) :=
  pj_b (v4 + (nI 1)) fun x1 =>
  s14 v1 v3 x1 z
def Whole_likelyQuiet_14 (s14 : Int64 → Int32 → Int32 → pj_S → Option (Int32 × pj_S)) (v1 : Int64) (v3 : Int32) (v4 : Int32) (z : pj_S) : Option (Int32 × pj_S) :=
  if (nI 48) ≤ v4 then (
    some (v3, z)
  ) else (
    pj_c (PJ_bitOf v1 v4 z) fun r3 z2 =>
    if r3 = (nI 1) then (
      pj_c (Law_oddsOf (z2.1 1 4) v4 z2) fun r6 z5 =>
      pj_g (pj_nz (nI 1000)) <|
      pj_b ((v3 * ((nI 1000) - r6)) / (nI 1000)) fun x7 =>
      Whole_likelyQuiet_59 s14 v1 x7 v4 z5
    ) else (
      Whole_likelyQuiet_59 s14 v1 v3 v4 z2
    )
  )
def Whole_likelyQuiet  (z : pj_S) : Option (Int32 × pj_S) :=
  pj_c (Fabric_loose z) fun r3 z2 =>
  pj_lp3 Whole_likelyQuiet_14 4000 r3 (nI 1000000) (nI 0) z2
def PJ_quiet  (z : pj_S) : Option (Int32 × pj_S) :=
  pj_c (Whole_likelyQuiet z) fun r3 z2 =>
  some (r3, z2)
def Fabric_firsts_61  (v1 : Int64) (z : pj_S) : Option (Int64 × pj_S) :=
  some (v1, z)
def Fabric_firsts_55 (s4 : Int64 → Int32 → pj_S → Option (Int64 × pj_S)) (v1 : Int64) (v3 : Int32) (z : pj_S) : Option (Int64 × pj_S) :=
  pj_b (v3 + (nI 1)) fun x1 =>
  s4 v1 x1 z
def Fabric_firsts_4 (s4 : Int64 → Int32 → pj_S → Option (Int64 × pj_S)) (v1 : Int64) (v3 : Int32) (z : pj_S) : Option (Int64 × pj_S) :=
  if (nI 48) ≤ v3 then (
    Fabric_firsts_61 v1 z
  ) else (
    pj_b (pj_shlL (1 : Int64) v3) fun x1 =>
    pj_c (Fabric_has v3 z) fun r4 z3 =>
    if r4 = (0) then (
      Fabric_firsts_55 s4 v1 v3 z3
    ) else (
      pj_c (Fabric_inTheEnd ((z3.2 8 3) &&& (x1 ^^^ (-1 : Int64))) (z3.2 8 7) z3) fun r7 z6 =>
      if (lg_cmp r7 (z6.2 8 6)) = (0) then (
        pj_b (v1 ||| x1) fun x8 =>
        Fabric_firsts_55 s4 x8 v3 z6
      ) else (
        Fabric_firsts_55 s4 v1 v3 z6
      )
    )
  )
def Fabric_firsts  (z : pj_S) : Option (Int64 × pj_S) :=
  pj_lp2 Fabric_firsts_4 4000 (0 : Int64) (nI 0) z
def PJ_first (v1 : Int32) (z : pj_S) : Option (Int32 × pj_S) :=
  if v1 < (0) then (
    some ((-1 : Int32), z)
  ) else (
    if v1 ≤ (nI 1) then (
      pj_c (Fabric_firsts z) fun r3 z2 =>
      if v1 = (0) then (
        pj_c (JLong_bitCount r3 z2) fun r9 z8 =>
        some (r9, z8)
      ) else (
        pj_c (PJ_numberIn r3 (nI 0) z2) fun r6 z5 =>
        some (r6, z5)
      )
    ) else (
      some ((-1 : Int32), z)
    )
  )
def Past_goBack  (z : pj_S) : Option (Int32 × pj_S) :=
  if (0) < (z.1 3 7) then (
    pj_b (((z.1 3 8) - (nI 1)) &&& (nI 7)) fun x1 =>
    pj_g (pj_in x1 8) <|
    pj_b (pj_sJ z 8 6 (z.2 16 (Int32.toNatClampNeg x1))) fun z2 =>
    pj_g (pj_in x1 8) <|
    pj_b (pj_sJ z2 8 8 (z2.2 17 (Int32.toNatClampNeg x1))) fun z3 =>
    pj_g (pj_in x1 8) <|
    pj_b (pj_sJ z3 8 9 (z3.2 18 (Int32.toNatClampNeg x1))) fun z4 =>
    pj_g (pj_in x1 8) <|
    pj_b (pj_sI z4 1 4 (z4.1 19 (Int32.toNatClampNeg x1))) fun z5 =>
    pj_g (pj_in x1 8) <|
    pj_b (pj_sI z5 1 5 (z5.1 20 (Int32.toNatClampNeg x1))) fun z6 =>
    pj_g (pj_in x1 8) <|
    pj_b (pj_sI z6 10 3 (z6.1 21 (Int32.toNatClampNeg x1))) fun z7 =>
    pj_g (pj_in x1 8) <|
    pj_b (pj_sI z7 11 1 (z7.1 22 (Int32.toNatClampNeg x1))) fun z8 =>
    pj_b (pj_sI z8 3 8 x1) fun z9 =>
    pj_b (pj_sI z9 3 7 ((z9.1 3 7) - (nI 1))) fun z10 =>
    pj_g (pj_bo (nI 1)) (some ((nI 1), z10))
  ) else (
    pj_g (pj_bo (nI 0)) (some ((nI 0), z))
  )
def PJ_undo  (z : pj_S) : Option (Int32 × pj_S) :=
  pj_c (Past_goBack z) fun r3 z2 =>
  pj_g (pj_bo r3) (some (r3, z2))
def Fabric_copyFrom  (z : pj_S) : Option (Unit × pj_S) :=
  pj_b (pj_sI z 8 0 (z.1 12 0)) fun z1 =>
  pj_b (pj_sI z1 8 1 (z1.1 12 1)) fun z2 =>
  pj_g (pj_bo (z2.1 12 2)) <|
  pj_b (pj_sI z2 8 2 (z2.1 12 2)) fun z3 =>
  pj_b (pj_sJ z3 8 3 (z3.2 12 3)) fun z4 =>
  pj_b (pj_sJ z4 8 4 (z4.2 12 4)) fun z5 =>
  pj_b (pj_sJ z5 8 5 (z5.2 12 5)) fun z6 =>
  pj_b (pj_sJ z6 8 6 (z6.2 12 6)) fun z7 =>
  pj_b (pj_sJ z7 8 7 (z7.2 12 7)) fun z8 =>
  pj_b (pj_sJ z8 8 8 (z8.2 12 8)) fun z9 =>
  pj_b (pj_sJ z9 8 9 (z9.2 12 9)) fun z10 =>
  some ((), z10)
def Law_take_9_35 (v2 : Int32) (v3 : Int32) (z : pj_S) : Option (Unit × pj_S) :=
  pj_b (pj_sI z 9 2 (pj_max (nI 0) (pj_min v2 (pj_min (nI 400) (nI 400))))) fun z1 =>
  pj_g (pj_cpOk (nI 0) (nI 0) (z1.1 9 2) 400 400) <|
  pj_b (pj_sC z1 35 29 (Int32.toNatClampNeg (nI 0)) (Int32.toNatClampNeg (nI 0)) (Int32.toNatClampNeg (z1.1 9 2))) fun z2 =>
  pj_b (pj_sI z2 9 3 v3) fun z3 =>
  some ((), z3)
def Book_copyFrom  (z : pj_S) : Option (Unit × pj_S) :=
  pj_g (pj_cpOk (nI 0) (nI 0) (nI 100) 100 100) <|
  pj_b (pj_sC z 37 31 (Int32.toNatClampNeg (nI 0)) (Int32.toNatClampNeg (nI 0)) (Int32.toNatClampNeg (nI 100))) fun z1 =>
  pj_g (pj_cpOk (nI 0) (nI 0) (nI 100) 100 100) <|
  pj_b (pj_sC z1 38 32 (Int32.toNatClampNeg (nI 0)) (Int32.toNatClampNeg (nI 0)) (Int32.toNatClampNeg (nI 100))) fun z2 =>
  pj_g (pj_cpOk (nI 0) (nI 0) (nI 100) 100 100) <|
  pj_b (pj_sC z2 39 33 (Int32.toNatClampNeg (nI 0)) (Int32.toNatClampNeg (nI 0)) (Int32.toNatClampNeg (nI 100))) fun z3 =>
  pj_b (pj_sI z3 10 3 (z3.1 14 3)) fun z4 =>
  some ((), z4)
def Wool_copyFrom  (z : pj_S) : Option (Unit × pj_S) :=
  pj_g (pj_cpOk (nI 0) (nI 0) (nI 20) 20 20) <|
  pj_b (pj_sC z 40 34 (Int32.toNatClampNeg (nI 0)) (Int32.toNatClampNeg (nI 0)) (Int32.toNatClampNeg (nI 20))) fun z1 =>
  pj_b (pj_sI z1 11 1 (z1.1 15 1)) fun z2 =>
  some ((), z2)
def Whole_copyFrom  (z : pj_S) : Option (Unit × pj_S) :=
  pj_c (Fabric_copyFrom z) fun _ z2 =>
  pj_c (Law_take_9_35 (z2.1 13 2) (z2.1 13 3) z2) fun _ z5 =>
  pj_c (Book_copyFrom z5) fun _ z8 =>
  pj_c (Wool_copyFrom z8) fun _ z11 =>
  pj_b (pj_sI z11 1 4 (z11.1 2 4)) fun z13 =>
  pj_b (pj_sI z13 1 5 (z13.1 2 5)) fun z14 =>
  some ((), z14)
def Fabric_copyFrom_12_8  (z : pj_S) : Option (Unit × pj_S) :=
  pj_b (pj_sI z 12 0 (z.1 8 0)) fun z1 =>
  pj_b (pj_sI z1 12 1 (z1.1 8 1)) fun z2 =>
  pj_g (pj_bo (z2.1 8 2)) <|
  pj_b (pj_sI z2 12 2 (z2.1 8 2)) fun z3 =>
  pj_b (pj_sJ z3 12 3 (z3.2 8 3)) fun z4 =>
  pj_b (pj_sJ z4 12 4 (z4.2 8 4)) fun z5 =>
  pj_b (pj_sJ z5 12 5 (z5.2 8 5)) fun z6 =>
  pj_b (pj_sJ z6 12 6 (z6.2 8 6)) fun z7 =>
  pj_b (pj_sJ z7 12 7 (z7.2 8 7)) fun z8 =>
  pj_b (pj_sJ z8 12 8 (z8.2 8 8)) fun z9 =>
  pj_b (pj_sJ z9 12 9 (z9.2 8 9)) fun z10 =>
  some ((), z10)
def Law_take_13_29 (v2 : Int32) (v3 : Int32) (z : pj_S) : Option (Unit × pj_S) :=
  pj_b (pj_sI z 13 2 (pj_max (nI 0) (pj_min v2 (pj_min (nI 400) (nI 400))))) fun z1 =>
  pj_g (pj_cpOk (nI 0) (nI 0) (z1.1 13 2) 400 400) <|
  pj_b (pj_sC z1 29 35 (Int32.toNatClampNeg (nI 0)) (Int32.toNatClampNeg (nI 0)) (Int32.toNatClampNeg (z1.1 13 2))) fun z2 =>
  pj_b (pj_sI z2 13 3 v3) fun z3 =>
  some ((), z3)
def Book_copyFrom_14_10  (z : pj_S) : Option (Unit × pj_S) :=
  pj_g (pj_cpOk (nI 0) (nI 0) (nI 100) 100 100) <|
  pj_b (pj_sC z 31 37 (Int32.toNatClampNeg (nI 0)) (Int32.toNatClampNeg (nI 0)) (Int32.toNatClampNeg (nI 100))) fun z1 =>
  pj_g (pj_cpOk (nI 0) (nI 0) (nI 100) 100 100) <|
  pj_b (pj_sC z1 32 38 (Int32.toNatClampNeg (nI 0)) (Int32.toNatClampNeg (nI 0)) (Int32.toNatClampNeg (nI 100))) fun z2 =>
  pj_g (pj_cpOk (nI 0) (nI 0) (nI 100) 100 100) <|
  pj_b (pj_sC z2 33 39 (Int32.toNatClampNeg (nI 0)) (Int32.toNatClampNeg (nI 0)) (Int32.toNatClampNeg (nI 100))) fun z3 =>
  pj_b (pj_sI z3 14 3 (z3.1 10 3)) fun z4 =>
  some ((), z4)
def Wool_copyFrom_15_11  (z : pj_S) : Option (Unit × pj_S) :=
  pj_g (pj_cpOk (nI 0) (nI 0) (nI 20) 20 20) <|
  pj_b (pj_sC z 34 40 (Int32.toNatClampNeg (nI 0)) (Int32.toNatClampNeg (nI 0)) (Int32.toNatClampNeg (nI 20))) fun z1 =>
  pj_b (pj_sI z1 15 1 (z1.1 11 1)) fun z2 =>
  some ((), z2)
def Whole_copyFrom_2_1  (z : pj_S) : Option (Unit × pj_S) :=
  pj_c (Fabric_copyFrom_12_8 z) fun _ z2 =>
  pj_c (Law_take_13_29 (z2.1 9 2) (z2.1 9 3) z2) fun _ z5 =>
  pj_c (Book_copyFrom_14_10 z5) fun _ z8 =>
  pj_c (Wool_copyFrom_15_11 z8) fun _ z11 =>
  pj_b (pj_sI z11 2 4 (z11.1 1 4)) fun z13 =>
  pj_b (pj_sI z13 2 5 (z13.1 1 5)) fun z14 =>
  some ((), z14)
def PJ_image (v1 : Int32) (z : pj_S) : Option (Int32 × pj_S) :=
  if v1 = (0) then (
    if (z.1 0 7) = (0) then (
      pj_g (pj_bo (nI 0)) (some ((nI 0), z))
    ) else (
      pj_c (Whole_copyFrom z) fun _ z2 =>
      pj_c (Past_forget z2) fun _ z5 =>
      pj_g (pj_bo (nI 1)) (some ((nI 1), z5))
    )
  ) else (
    pj_c (Whole_copyFrom_2_1 z) fun _ z8 =>
    pj_g (pj_bo (nI 1)) <|
    pj_b (pj_sI z8 0 7 (nI 1)) fun z10 =>
    pj_g (pj_bo (nI 1)) (some ((nI 1), z10))
  )
def Wool_total_4 (s4 : Int32 → Int32 → pj_S → Option (Int32 × pj_S)) (v1 : Int32) (v2 : Int32) (z : pj_S) : Option (Int32 × pj_S) :=
  if (z.1 11 1) ≤ v2 then (
    some (v1, z)
  ) else (
    pj_c (Wool_lengthOf v2 z) fun r3 z2 =>
    pj_b (v1 + r3) fun x4 =>
    pj_b (v2 + (nI 1)) fun x5 =>
    s4 x4 x5 z2
  )
def Wool_total  (z : pj_S) : Option (Int32 × pj_S) :=
  pj_lp2 Wool_total_4 4000 (nI 0) (nI 0) z
def PJ_look (v1 : Int32) (z : pj_S) : Option (Int32 × pj_S) :=
  if v1 = (nI 0) then (
    some ((z.1 8 0), z)
  ) else (
  if v1 = (nI 1) then (
    some ((z.1 8 1), z)
  ) else (
  if v1 = (nI 2) then (
    if (z.1 8 2) = (0) then (
      some ((nI 0), z)
    ) else (
      some ((nI 1), z)
    )
  ) else (
  if v1 = (nI 3) then (
    pj_c (Fabric_places z) fun r3 z2 =>
    pj_c (JLong_bitCount (z2.2 8 6) z2) fun r6 z5 =>
    some ((r3 - r6), z5)
  ) else (
  if v1 = (nI 4) then (
    some ((z.1 11 1), z)
  ) else (
  if v1 = (nI 5) then (
    some ((z.1 10 3), z)
  ) else (
  if v1 = (nI 6) then (
    some ((z.1 1 4), z)
  ) else (
  if v1 = (nI 7) then (
    some ((z.1 1 5), z)
  ) else (
  if v1 = (nI 8) then (
    pj_c (JLong_bitCount (z.2 8 9) z) fun r9 z8 =>
    some (r9, z8)
  ) else (
  if v1 = (nI 9) then (
    some ((z.1 9 3), z)
  ) else (
  if v1 = (nI 10) then (
    some ((z.1 3 7), z)
  ) else (
  if v1 = (nI 11) then (
    pj_c (Wool_total z) fun r12 z11 =>
    some (r12, z11)
  ) else (
    some ((-1 : Int32), z)
  ))))))))))))
def Md_state (v1 : Int32) (z : pj_S) : Option (Int32 × pj_S) :=
  pj_g (pj_in (nI 6) 1554) <|
  pj_b (z.1 1 (Int32.toNatClampNeg (nI 6))) fun x1 =>
  pj_g (pj_in (nI 6) 1554) <|
  pj_b (pj_sI z 1 (Int32.toNatClampNeg (nI 6)) v1) fun z2 =>
  pj_b (pj_sI z2 0 3 (nI 0)) fun z3 =>
  some (x1, z3)
def Md_isInM (v0 : Int32) (v1 : Int32) (v2 : Int32) (z : pj_S) : Option (Int32 × pj_S) :=
  if v0 < v1 then (
    pj_g (pj_bo (nI 0)) (some ((nI 0), z))
  ) else (
    if v2 < v0 then (
      pj_g (pj_bo (nI 0)) (some ((nI 0), z))
    ) else (
      pj_g (pj_bo (nI 1)) (some ((nI 1), z))
    )
  )
def Md_isStitch (v1 : Int32) (z : pj_S) : Option (Int32 × pj_S) :=
  pj_c (Md_isInM v1 (nI 0) (nI 63) z) fun r3 z2 =>
  if r3 = (0) then (
    pj_g (pj_bo (nI 0)) (some ((nI 0), z2))
  ) else (
    pj_g (pj_nz (nI 8)) <|
    pj_g (pj_in (nI 0) 1554) <|
    if (z2.1 1 (Int32.toNatClampNeg (nI 0))) ≤ (pj_rem v1 (nI 8)) then (
      pj_g (pj_bo (nI 0)) (some ((nI 0), z2))
    ) else (
      pj_g (pj_nz (nI 8)) <|
      pj_g (pj_in (nI 1) 1554) <|
      if (z2.1 1 (Int32.toNatClampNeg (nI 1))) ≤ (v1 / (nI 8)) then (
        pj_g (pj_bo (nI 0)) (some ((nI 0), z2))
      ) else (
        pj_g (pj_bo (nI 1)) (some ((nI 1), z2))
      )
    )
  )
def Md_begins_102   (z : pj_S) : Option (Unit × pj_S) :=
  pj_b (pj_sI z 0 3 (nI 0)) fun z1 =>
  some ((), z1)
def Md_begins_95 (s65 : Int32 → pj_S → Option (Unit × pj_S)) (v4 : Int32) (t0 : Int32) (t1 : Int32) (z : pj_S) : Option (Unit × pj_S) :=
  pj_g (pj_in t1 1554) <|
  pj_b (pj_sI z 1 (Int32.toNatClampNeg t1) t0) fun z1 =>
  pj_b (v4 + (nI 1)) fun x2 =>
  s65 x2 z1
def Md_begins_65 (s65 : Int32 → pj_S → Option (Unit × pj_S)) (v4 : Int32) (z : pj_S) : Option (Unit × pj_S) :=
  if (nI 64) ≤ v4 then (
    Md_begins_102 z
  ) else (
    pj_c (Md_isStitch v4 z) fun r3 z2 =>
    if r3 = (0) then (
      Md_begins_95 s65 v4 (nI 0) ((nI 74) + v4) z2
    ) else (
      Md_begins_95 s65 v4 (nI 1) ((nI 74) + v4) z2
    )
  )
def Md_begins_33  (v1 : Int32) (v2 : Int32) (v3 : Int32) (z : pj_S) : Option (Unit × pj_S) :=
  pj_g (pj_in (nI 6) 1554) <|
  pj_b (pj_sI z 1 (Int32.toNatClampNeg (nI 6)) v3) fun z1 =>
  pj_g (pj_in (nI 0) 1554) <|
  pj_b (pj_sI z1 1 (Int32.toNatClampNeg (nI 0)) v1) fun z2 =>
  pj_g (pj_in (nI 1) 1554) <|
  pj_b (pj_sI z2 1 (Int32.toNatClampNeg (nI 1)) v2) fun z3 =>
  pj_g (pj_in (nI 2) 1554) <|
  pj_b (pj_sI z3 1 (Int32.toNatClampNeg (nI 2)) (nI 1)) fun z4 =>
  pj_lp1 Md_begins_65 4000 (nI 0) z4
def Md_begins_11 (s11 : Int32 → Int32 → Int32 → Int32 → pj_S → Option (Unit × pj_S)) (v1 : Int32) (v2 : Int32) (v3 : Int32) (v4 : Int32) (z : pj_S) : Option (Unit × pj_S) :=
  if (nI 1554) ≤ v4 then (
    Md_begins_33 v1 v2 v3 z
  ) else (
    pj_g (pj_in v4 1554) <|
    pj_b (pj_sI z 1 (Int32.toNatClampNeg v4) (nI 0)) fun z1 =>
    pj_b (v4 + (nI 1)) fun x2 =>
    s11 v1 v2 v3 x2 z1
  )
def Md_begins (v1 : Int32) (v2 : Int32) (z : pj_S) : Option (Unit × pj_S) :=
  pj_g (pj_in (nI 6) 1554) <|
  pj_b (z.1 1 (Int32.toNatClampNeg (nI 6))) fun x1 =>
  pj_lp4 Md_begins_11 4000 v1 v2 x1 (nI 0) z
def Md_cloth (v1 : Int32) (v2 : Int32) (z : pj_S) : Option (Int32 × pj_S) :=
  pj_c (Md_isInM v1 (nI 2) (nI 6) z) fun r3 z2 =>
  if r3 = (0) then (
    pj_g (pj_bo (nI 0)) (some ((nI 0), z2))
  ) else (
    pj_c (Md_isInM v2 (nI 2) (nI 6) z2) fun r6 z5 =>
    if r6 = (0) then (
      pj_g (pj_bo (nI 0)) (some ((nI 0), z5))
    ) else (
      pj_c (Md_begins v1 v2 z5) fun _ z8 =>
      pj_g (pj_bo (nI 1)) (some ((nI 1), z8))
    )
  )
def Md_comesBack (v1 : Int32) (z : pj_S) : Option (Unit × pj_S) :=
  pj_g (pj_in ((nI 74) + v1) 1554) <|
  pj_b (pj_sI z 1 (Int32.toNatClampNeg ((nI 74) + v1)) (nI 1)) fun z1 =>
  pj_g (pj_in ((nI 1490) + v1) 1554) <|
  pj_b (pj_sI z1 1 (Int32.toNatClampNeg ((nI 1490) + v1)) (nI 0)) fun z2 =>
  some ((), z2)
def Md_set_117   (z : pj_S) : Option (Int32 × pj_S) :=
  pj_b (pj_sI z 0 3 (nI 0)) fun z1 =>
  pj_g (pj_bo (nI 1)) (some ((nI 1), z1))
def Md_set_94  (v1 : Int32) (v2 : Int32) (z : pj_S) : Option (Int32 × pj_S) :=
  if v1 = (nI 3) then (
    pj_c (Md_isStitch v2 z) fun r3 z2 =>
    if r3 = (0) then (
      pj_g (pj_bo (nI 0)) (some ((nI 0), z2))
    ) else (
      pj_c (Md_comesBack v2 z2) fun _ z5 =>
      Md_set_117 z5
    )
  ) else (
    pj_g (pj_bo (nI 0)) (some ((nI 0), z))
  )
def Md_set_70  (v1 : Int32) (v2 : Int32) (v3 : Int32) (z : pj_S) : Option (Int32 × pj_S) :=
  if v1 = (nI 2) then (
    pj_c (Md_isInM v3 (nI 0) (nI 1) z) fun r3 z2 =>
    if r3 = (0) then (
      Md_set_94 v1 v2 z2
    ) else (
      pj_g (pj_in (nI 2) 1554) <|
      pj_b (pj_sI z2 1 (Int32.toNatClampNeg (nI 2)) v3) fun z4 =>
      Md_set_117 z4
    )
  ) else (
    Md_set_94 v1 v2 z
  )
def Md_set_34  (v1 : Int32) (v2 : Int32) (v3 : Int32) (z : pj_S) : Option (Int32 × pj_S) :=
  if v1 = (nI 1) then (
    pj_c (Md_isStitch v2 z) fun r3 z2 =>
    if r3 = (0) then (
      Md_set_70 v1 v2 v3 z2
    ) else (
      pj_c (Md_isInM v3 (nI 0) (nI 1) z2) fun r6 z5 =>
      if r6 = (0) then (
        Md_set_70 v1 v2 v3 z5
      ) else (
        pj_g (pj_in ((nI 138) + v2) 1554) <|
        pj_b (pj_sI z5 1 (Int32.toNatClampNeg ((nI 138) + v2)) v3) fun z7 =>
        Md_set_117 z7
      )
    )
  ) else (
    Md_set_70 v1 v2 v3 z
  )
def Md_set (v1 : Int32) (v2 : Int32) (v3 : Int32) (z : pj_S) : Option (Int32 × pj_S) :=
  if v1 = (0) then (
    pj_c (Md_isStitch v2 z) fun r3 z2 =>
    if r3 = (0) then (
      Md_set_34 v1 v2 v3 z2
    ) else (
      pj_c (Md_isInM v3 (nI 0) (nI 3) z2) fun r6 z5 =>
      if r6 = (0) then (
        Md_set_34 v1 v2 v3 z5
      ) else (
        pj_g (pj_in ((nI 10) + v2) 1554) <|
        pj_b (pj_sI z5 1 (Int32.toNatClampNeg ((nI 10) + v2)) v3) fun z7 =>
        Md_set_117 z7
      )
    )
  ) else (
    Md_set_34 v1 v2 v3 z
  )
def Md_keeps_164   (z : pj_S) : Option (Unit × pj_S) :=
  pj_b (pj_sI z 0 3 ((z.1 0 3) + (nI 1))) fun z1 =>
  some ((), z1)
def Md_keeps_90 (s90 : Int32 → Int32 → pj_S → Option (Unit × pj_S)) (v1 : Int32) (v2 : Int32) (z : pj_S) : Option (Unit × pj_S) :=
  if (nI 64) ≤ v2 then (
    Md_keeps_164 z
  ) else (
    pj_g (pj_in ((nI 74) + v2) 1554) <|
    pj_g (pj_in ((v1 + (nI 4)) + v2) 1568) <|
    pj_b (pj_sI z 3 (Int32.toNatClampNeg ((v1 + (nI 4)) + v2)) (z.1 1 (Int32.toNatClampNeg ((nI 74) + v2)))) fun z1 =>
    pj_g (pj_in ((nI 202) + v2) 1554) <|
    pj_g (pj_in ((v1 + (nI 68)) + v2) 1568) <|
    pj_b (pj_sI z1 3 (Int32.toNatClampNeg ((v1 + (nI 68)) + v2)) (z1.1 1 (Int32.toNatClampNeg ((nI 202) + v2)))) fun z2 =>
    pj_g (pj_in ((nI 1490) + v2) 1554) <|
    pj_g (pj_in ((v1 + (nI 132)) + v2) 1568) <|
    pj_b (pj_sI z2 3 (Int32.toNatClampNeg ((v1 + (nI 132)) + v2)) (z2.1 1 (Int32.toNatClampNeg ((nI 1490) + v2)))) fun z3 =>
    pj_b (v2 + (nI 1)) fun x4 =>
    s90 v1 x4 z3
  )
def Md_keeps_88  (v1 : Int32) (z : pj_S) : Option (Unit × pj_S) :=
  pj_lp2 Md_keeps_90 4000 v1 (nI 0) z
def Md_keeps_61 (s61 : Int32 → Int32 → pj_S → Option (Unit × pj_S)) (v1 : Int32) (v2 : Int32) (z : pj_S) : Option (Unit × pj_S) :=
  if (nI 4) ≤ v2 then (
    Md_keeps_88 v1 z
  ) else (
    pj_g (pj_in ((nI 3) + v2) 1554) <|
    pj_g (pj_in (v1 + v2) 1568) <|
    pj_b (pj_sI z 3 (Int32.toNatClampNeg (v1 + v2)) (z.1 1 (Int32.toNatClampNeg ((nI 3) + v2)))) fun z1 =>
    pj_b (v2 + (nI 1)) fun x2 =>
    s61 v1 x2 z1
  )
def Md_keeps_50   (z : pj_S) : Option (Unit × pj_S) :=
  pj_b ((nI 196) * (z.1 0 3)) fun x1 =>
  pj_lp2 Md_keeps_61 4000 x1 (nI 0) z
def Md_keeps_40   (z : pj_S) : Option (Unit × pj_S) :=
  pj_b (pj_sI z 0 3 ((z.1 0 3) - (nI 1))) fun z1 =>
  Md_keeps_50 z1
def Md_keeps_11 (s11 : Int32 → pj_S → Option (Unit × pj_S)) (v1 : Int32) (z : pj_S) : Option (Unit × pj_S) :=
  if (nI 1372) ≤ v1 then (
    Md_keeps_40 z
  ) else (
    pj_g (pj_in (v1 + (nI 196)) 1568) <|
    pj_g (pj_in v1 1568) <|
    pj_b (pj_sI z 3 (Int32.toNatClampNeg v1) (z.1 3 (Int32.toNatClampNeg (v1 + (nI 196))))) fun z1 =>
    pj_b (v1 + (nI 1)) fun x2 =>
    s11 x2 z1
  )
def Md_keeps  (z : pj_S) : Option (Unit × pj_S) :=
  if (z.1 0 3) = (nI 8) then (
    pj_lp1 Md_keeps_11 4000 (nI 0) z
  ) else (
    Md_keeps_50 z
  )
def Md_isGone (v1 : Int32) (v2 : Int32) (z : pj_S) : Option (Unit × pj_S) :=
  pj_g (pj_in ((nI 74) + v1) 1554) <|
  pj_b (pj_sI z 1 (Int32.toNatClampNeg ((nI 74) + v1)) (nI 0)) fun z1 =>
  pj_g (pj_in (nI 4) 1554) <|
  if (z1.1 1 (Int32.toNatClampNeg (nI 4))) = (nI 100) then (
    some ((), z1)
  ) else (
    pj_g (pj_in (nI 4) 1554) <|
    pj_b ((nI 300) + ((nI 3) * (z1.1 1 (Int32.toNatClampNeg (nI 4))))) fun x2 =>
    pj_g (pj_in (nI 5) 1554) <|
    pj_g (pj_in x2 1554) <|
    pj_b (pj_sI z1 1 (Int32.toNatClampNeg x2) (z1.1 1 (Int32.toNatClampNeg (nI 5)))) fun z3 =>
    pj_g (pj_in (x2 + (nI 1)) 1554) <|
    pj_b (pj_sI z3 1 (Int32.toNatClampNeg (x2 + (nI 1))) v1) fun z4 =>
    pj_g (pj_in (x2 + (nI 2)) 1554) <|
    pj_b (pj_sI z4 1 (Int32.toNatClampNeg (x2 + (nI 2))) v2) fun z5 =>
    pj_g (pj_in (nI 4) 1554) <|
    pj_g (pj_in (nI 4) 1554) <|
    pj_b (pj_sI z5 1 (Int32.toNatClampNeg (nI 4)) ((z5.1 1 (Int32.toNatClampNeg (nI 4))) + (nI 1))) fun z6 =>
    some ((), z6)
  )
def Md_gone (v1 : Int32) (z : pj_S) : Option (Int32 × pj_S) :=
  pj_c (Md_isStitch v1 z) fun r3 z2 =>
  if r3 = (0) then (
    pj_g (pj_bo (nI 0)) (some ((nI 0), z2))
  ) else (
    pj_g (pj_in ((nI 74) + v1) 1554) <|
    if (z2.1 1 (Int32.toNatClampNeg ((nI 74) + v1))) = (0) then (
      pj_g (pj_bo (nI 0)) (some ((nI 0), z2))
    ) else (
      pj_c (Md_keeps z2) fun _ z5 =>
      pj_c (Md_isGone v1 (nI 0) z5) fun _ z8 =>
      pj_g (pj_bo (nI 1)) (some ((nI 1), z8))
    )
  )
def Md_cut (v1 : Int32) (z : pj_S) : Option (Int32 × pj_S) :=
  pj_g (pj_in (nI 0) 1554) <|
  pj_g (pj_in (nI 1) 1554) <|
  pj_c (Md_isInM v1 (nI 0) (((z.1 1 (Int32.toNatClampNeg (nI 0))) * (z.1 1 (Int32.toNatClampNeg (nI 1)))) - (nI 2)) z) fun r3 z2 =>
  if r3 = (0) then (
    pj_g (pj_bo (nI 0)) (some ((nI 0), z2))
  ) else (
    pj_g (pj_in ((nI 202) + v1) 1554) <|
    if (z2.1 1 (Int32.toNatClampNeg ((nI 202) + v1))) = (nI 1) then (
      pj_g (pj_bo (nI 0)) (some ((nI 0), z2))
    ) else (
      pj_c (Md_keeps z2) fun _ z5 =>
      pj_g (pj_in ((nI 202) + v1) 1554) <|
      pj_b (pj_sI z5 1 (Int32.toNatClampNeg ((nI 202) + v1)) (nI 1)) fun z7 =>
      pj_g (pj_bo (nI 1)) (some ((nI 1), z7))
    )
  )
def Md_isPlace (v1 : Int32) (z : pj_S) : Option (Int32 × pj_S) :=
  pj_g (pj_in (nI 0) 1554) <|
  pj_g (pj_in (nI 1) 1554) <|
  pj_c (Md_isInM v1 (nI 0) (((z.1 1 (Int32.toNatClampNeg (nI 0))) * (z.1 1 (Int32.toNatClampNeg (nI 1)))) - (nI 1)) z) fun r3 z2 =>
  pj_g (pj_bo r3) (some (r3, z2))
def Md_isEnd_44   (z : pj_S) : Option (Int32 × pj_S) :=
  pj_g (pj_bo (nI 1)) (some ((nI 1), z))
def Md_isEnd_85   (z : pj_S) : Option (Int32 × pj_S) :=
  pj_g (pj_bo (nI 1)) (some ((nI 1), z))
def Md_isEnd (v1 : Int32) (v2 : Int32) (z : pj_S) : Option (Int32 × pj_S) :=
  pj_c (Md_isPlace v1 z) fun r3 z2 =>
  if r3 = (0) then (
    pj_g (pj_bo (nI 0)) (some ((nI 0), z2))
  ) else (
    pj_c (Md_isInM v2 (nI 0) (nI 1) z2) fun r6 z5 =>
    if r6 = (0) then (
      pj_g (pj_bo (nI 0)) (some ((nI 0), z5))
    ) else (
      if v2 = (nI 1) then (
        if v1 = (0) then (
          Md_isEnd_44 z5
        ) else (
          pj_g (pj_in (((nI 202) + v1) - (nI 1)) 1554) <|
          if (z5.1 1 (Int32.toNatClampNeg (((nI 202) + v1) - (nI 1)))) = (nI 1) then (
            Md_isEnd_44 z5
          ) else (
            pj_g (pj_bo (nI 0)) (some ((nI 0), z5))
          )
        )
      ) else (
        pj_g (pj_in (nI 0) 1554) <|
        pj_g (pj_in (nI 1) 1554) <|
        if v1 = (((z5.1 1 (Int32.toNatClampNeg (nI 0))) * (z5.1 1 (Int32.toNatClampNeg (nI 1)))) - (nI 1)) then (
          Md_isEnd_85 z5
        ) else (
          pj_g (pj_in ((nI 202) + v1) 1554) <|
          if (z5.1 1 (Int32.toNatClampNeg ((nI 202) + v1))) = (nI 1) then (
            Md_isEnd_85 z5
          ) else (
            pj_g (pj_bo (nI 0)) (some ((nI 0), z5))
          )
        )
      )
    )
  )
def Md_laysNow_2 (s2 : Int32 → pj_S → Option (Unit × pj_S)) (v1 : Int32) (z : pj_S) : Option (Unit × pj_S) :=
  if (nI 64) ≤ v1 then (
    some ((), z)
  ) else (
    pj_g (pj_in ((nI 74) + v1) 1554) <|
    pj_g (pj_in v1 64) <|
    pj_b (pj_sI z 9 (Int32.toNatClampNeg v1) (z.1 1 (Int32.toNatClampNeg ((nI 74) + v1)))) fun z1 =>
    pj_g (pj_in ((nI 138) + v1) 1554) <|
    pj_g (pj_in v1 64) <|
    pj_b (pj_sI z1 10 (Int32.toNatClampNeg v1) (z1.1 1 (Int32.toNatClampNeg ((nI 138) + v1)))) fun z2 =>
    pj_b (v1 + (nI 1)) fun x3 =>
    s2 x3 z2
  )
def Md_laysNow  (z : pj_S) : Option (Unit × pj_S) :=
  pj_lp1 Md_laysNow_2 4000 (nI 0) z
def Md_drawnOne (v1 : Int32) (z : pj_S) : Option (Int32 × pj_S) :=
  pj_g (pj_nz (nI 8)) <|
  pj_b (pj_rem v1 (nI 8)) fun x1 =>
  pj_g (pj_in ((nI 10) + v1) 1554) <|
  pj_b (z.1 1 (Int32.toNatClampNeg ((nI 10) + v1))) fun x2 =>
  if v1 < (nI 8) then (
    some ((-1 : Int32), z)
  ) else (
    if x2 = (nI 2) then (
      some ((-1 : Int32), z)
    ) else (
      if x2 = (nI 1) then (
        pj_g (pj_nz (nI 2)) <|
        if (pj_rem x1 (nI 2)) = (nI 1) then (
          some (((v1 - (nI 8)) - (nI 1)), z)
        ) else (
          pj_g (pj_in (nI 0) 1554) <|
          if (z.1 1 (Int32.toNatClampNeg (nI 0))) ≤ (x1 + (nI 1)) then (
            some ((v1 - (nI 8)), z)
          ) else (
            some (((v1 - (nI 8)) + (nI 1)), z)
          )
        )
      ) else (
        some ((v1 - (nI 8)), z)
      )
    )
  )
def Md_drawnOther (v1 : Int32) (z : pj_S) : Option (Int32 × pj_S) :=
  if v1 < (nI 8) then (
    some ((-1 : Int32), z)
  ) else (
    pj_g (pj_in ((nI 10) + v1) 1554) <|
    if (z.1 1 (Int32.toNatClampNeg ((nI 10) + v1))) = (nI 3) then (
      pj_g (pj_nz (nI 8)) <|
      pj_g (pj_in (nI 0) 1554) <|
      if (z.1 1 (Int32.toNatClampNeg (nI 0))) ≤ ((pj_rem v1 (nI 8)) + (nI 1)) then (
        some ((-1 : Int32), z)
      ) else (
        some (((v1 - (nI 8)) + (nI 1)), z)
      )
    ) else (
      some ((-1 : Int32), z)
    )
  )
def Md_holds_28  (v2 : Int32) (v4 : Int32) (z : pj_S) : Option (Unit × pj_S) :=
  if v4 = (-1 : Int32) then (
    some ((), z)
  ) else (
    pj_g (pj_in v4 64) <|
    pj_g (pj_in v4 64) <|
    pj_b (pj_sI z 11 (Int32.toNatClampNeg v4) ((z.1 11 (Int32.toNatClampNeg v4)) + v2)) fun z1 =>
    some ((), z1)
  )
def Md_holds (v1 : Int32) (v2 : Int32) (z : pj_S) : Option (Unit × pj_S) :=
  pj_c (Md_drawnOne v1 z) fun r3 z2 =>
  pj_c (Md_drawnOther v1 z2) fun r6 z5 =>
  if r3 = (-1 : Int32) then (
    Md_holds_28 v2 r6 z5
  ) else (
    pj_g (pj_in r3 64) <|
    pj_g (pj_in r3 64) <|
    pj_b (pj_sI z5 11 (Int32.toNatClampNeg r3) ((z5.1 11 (Int32.toNatClampNeg r3)) + v2)) fun z7 =>
    Md_holds_28 v2 r6 z7
  )
def Md_laysHolders_45 (s23 : Int32 → pj_S → Option (Unit × pj_S)) (v1 : Int32) (z : pj_S) : Option (Unit × pj_S) :=
  pj_b (v1 + (nI 1)) fun x1 =>
  s23 x1 z
def Md_laysHolders_23 (s23 : Int32 → pj_S → Option (Unit × pj_S)) (v1 : Int32) (z : pj_S) : Option (Unit × pj_S) :=
  if (nI 64) ≤ v1 then (
    some ((), z)
  ) else (
    pj_g (pj_in v1 64) <|
    if (z.1 9 (Int32.toNatClampNeg v1)) = (nI 1) then (
      pj_c (Md_holds v1 (nI 1) z) fun _ z2 =>
      Md_laysHolders_45 s23 v1 z2
    ) else (
      Md_laysHolders_45 s23 v1 z
    )
  )
def Md_laysHolders_21   (z : pj_S) : Option (Unit × pj_S) :=
  pj_lp1 Md_laysHolders_23 4000 (nI 0) z
def Md_laysHolders_2 (s2 : Int32 → pj_S → Option (Unit × pj_S)) (v1 : Int32) (z : pj_S) : Option (Unit × pj_S) :=
  if (nI 64) ≤ v1 then (
    Md_laysHolders_21 z
  ) else (
    pj_g (pj_in v1 64) <|
    pj_b (pj_sI z 11 (Int32.toNatClampNeg v1) (nI 0)) fun z1 =>
    pj_b (v1 + (nI 1)) fun x2 =>
    s2 x2 z1
  )
def Md_laysHolders  (z : pj_S) : Option (Unit × pj_S) :=
  pj_lp1 Md_laysHolders_2 4000 (nI 0) z
def Md_stitchAt_42  (t0 : Int32) (t1 : Int32) (z : pj_S) : Option (Int32 × pj_S) :=
  some ((t1 + t0), z)
def Md_stitchAt (v1 : Int32) (z : pj_S) : Option (Int32 × pj_S) :=
  pj_g (pj_in (nI 0) 1554) <|
  pj_g (pj_nz (z.1 1 (Int32.toNatClampNeg (nI 0)))) <|
  pj_b (v1 / (z.1 1 (Int32.toNatClampNeg (nI 0)))) fun x1 =>
  pj_g (pj_in (nI 0) 1554) <|
  pj_g (pj_nz (z.1 1 (Int32.toNatClampNeg (nI 0)))) <|
  pj_b (pj_rem v1 (z.1 1 (Int32.toNatClampNeg (nI 0)))) fun x2 =>
  pj_g (pj_nz (nI 2)) <|
  if (pj_rem x1 (nI 2)) = (0) then (
    Md_stitchAt_42 x2 ((nI 8) * x1) z
  ) else (
    pj_g (pj_in (nI 0) 1554) <|
    Md_stitchAt_42 (((z.1 1 (Int32.toNatClampNeg (nI 0))) - (nI 1)) - x2) ((nI 8) * x1) z
  )
def Md_isHeld_54   (z : pj_S) : Option (Int32 × pj_S) :=
  pj_g (pj_bo (nI 1)) (some ((nI 1), z))
def Md_isHeld_45  (v1 : Int32) (z : pj_S) : Option (Int32 × pj_S) :=
  pj_g (pj_in v1 64) <|
  if (z.1 11 (Int32.toNatClampNeg v1)) ≤ (0) then (
    pj_g (pj_bo (nI 0)) (some ((nI 0), z))
  ) else (
    Md_isHeld_54 z
  )
def Md_isHeld (v1 : Int32) (z : pj_S) : Option (Int32 × pj_S) :=
  pj_g (pj_in v1 64) <|
  if (z.1 9 (Int32.toNatClampNeg v1)) = (nI 1) then (
    pj_g (pj_in v1 64) <|
    if (z.1 10 (Int32.toNatClampNeg v1)) = (nI 1) then (
      Md_isHeld_54 z
    ) else (
      pj_g (pj_in (nI 2) 1554) <|
      if (z.1 1 (Int32.toNatClampNeg (nI 2))) = (nI 1) then (
        pj_g (pj_nz (nI 8)) <|
        pj_g (pj_in (nI 1) 1554) <|
        if (v1 / (nI 8)) = ((z.1 1 (Int32.toNatClampNeg (nI 1))) - (nI 1)) then (
          Md_isHeld_54 z
        ) else (
          Md_isHeld_45 v1 z
        )
      ) else (
        Md_isHeld_45 v1 z
      )
    )
  ) else (
    pj_g (pj_bo (nI 0)) (some ((nI 0), z))
  )
def Md_goes (v1 : Int32) (z : pj_S) : Option (Unit × pj_S) :=
  pj_g (pj_in v1 64) <|
  pj_b (pj_sI z 9 (Int32.toNatClampNeg v1) (nI 0)) fun z1 =>
  pj_c (Md_holds v1 (-1 : Int32) z1) fun _ z3 =>
  some ((), z3)
def Md_pulls_152 (s33 : Int32 → Int32 → Int32 → Int32 → Int32 → Int32 → pj_S → Option (Unit × pj_S)) (v2 : Int32) (v3 : Int32) (v4 : Int32) (v5 : Int32) (v6 : Int32) (t0 : Int32) (z : pj_S) : Option (Unit × pj_S) :=
  pj_b (v6 + v5) fun x1 =>
  s33 v2 v3 v4 v5 x1 t0 z
def Md_pulls_147 (s33 : Int32 → Int32 → Int32 → Int32 → Int32 → Int32 → pj_S → Option (Unit × pj_S)) (v2 : Int32) (v3 : Int32) (v4 : Int32) (v5 : Int32) (v6 : Int32) (z : pj_S) : Option (Unit × pj_S) :=
  Md_pulls_152 s33 v2 v3 v4 v5 v6 (nI 1) z
def Md_pulls_151 (s33 : Int32 → Int32 → Int32 → Int32 → Int32 → Int32 → pj_S → Option (Unit × pj_S)) (v2 : Int32) (v3 : Int32) (v4 : Int32) (v5 : Int32) (v6 : Int32) (z : pj_S) : Option (Unit × pj_S) :=
  Md_pulls_152 s33 v2 v3 v4 v5 v6 (nI 0) z
def Md_pulls_111 (s33 : Int32 → Int32 → Int32 → Int32 → Int32 → Int32 → pj_S → Option (Unit × pj_S)) (v2 : Int32) (v3 : Int32) (v4 : Int32) (v5 : Int32) (v6 : Int32) (z : pj_S) : Option (Unit × pj_S) :=
  if v3 ≤ (z.1 0 26) then (
    Md_pulls_151 s33 v2 v3 v4 v5 v6 z
  ) else (
    if v2 = (nI 1) then (
      pj_c (Md_isEnd v6 (nI 0) z) fun r6 z5 =>
      if r6 = (0) then (
        Md_pulls_147 s33 v2 v3 v4 v5 v6 z5
      ) else (
        Md_pulls_151 s33 v2 v3 v4 v5 v6 z5
      )
    ) else (
      pj_c (Md_isEnd v6 (nI 1) z) fun r3 z2 =>
      if r3 = (0) then (
        Md_pulls_147 s33 v2 v3 v4 v5 v6 z2
      ) else (
        Md_pulls_151 s33 v2 v3 v4 v5 v6 z2
      )
    )
  )
def Md_pulls_55  (v6 : Int32) (z : pj_S) : Option (Unit × pj_S) :=
  pj_b (pj_sI z 0 28 v6) fun z1 =>
  some ((), z1)
def Md_pulls_33 (s33 : Int32 → Int32 → Int32 → Int32 → Int32 → Int32 → pj_S → Option (Unit × pj_S)) (v2 : Int32) (v3 : Int32) (v4 : Int32) (v5 : Int32) (v6 : Int32) (v7 : Int32) (z : pj_S) : Option (Unit × pj_S) :=
  if v7 = (0) then (
    some ((), z)
  ) else (
    pj_c (Md_stitchAt v6 z) fun r3 z2 =>
    pj_c (Md_isHeld r3 z2) fun r6 z5 =>
    if r6 = (0) then (
      pj_b (pj_sI z5 0 27 ((z5.1 0 27) + (nI 1))) fun z7 =>
      pj_g (pj_in r3 64) <|
      if (z7.1 9 (Int32.toNatClampNeg r3)) = (nI 1) then (
        pj_c (Md_goes r3 z7) fun _ z9 =>
        pj_b (pj_sI z9 0 26 ((z9.1 0 26) + (nI 1))) fun z11 =>
        if v4 = (0) then (
          Md_pulls_111 s33 v2 v3 v4 v5 v6 z11
        ) else (
          pj_c (Md_isGone r3 (nI 2) z11) fun _ z13 =>
          Md_pulls_111 s33 v2 v3 v4 v5 v6 z13
        )
      ) else (
        Md_pulls_111 s33 v2 v3 v4 v5 v6 z7
      )
    ) else (
      Md_pulls_55 v6 z5
    )
  )
def Md_pulls_10  (v1 : Int32) (v2 : Int32) (v3 : Int32) (v4 : Int32) (t0 : Int32) (z : pj_S) : Option (Unit × pj_S) :=
  pj_b (pj_sI z 0 26 (nI 0)) fun z1 =>
  pj_b (pj_sI z1 0 27 (nI 0)) fun z2 =>
  pj_b (pj_sI z2 0 28 (-1 : Int32)) fun z3 =>
  pj_lp6 Md_pulls_33 4000 v2 v3 v4 t0 v1 (nI 1) z3
def Md_pulls (v1 : Int32) (v2 : Int32) (v3 : Int32) (v4 : Int32) (z : pj_S) : Option (Unit × pj_S) :=
  if v2 = (nI 1) then (
    Md_pulls_10 v1 v2 v3 v4 (nI 1) z
  ) else (
    Md_pulls_10 v1 v2 v3 v4 (-1 : Int32) z
  )
def Md_lengthOfM (v0 : Int32) (z : pj_S) : Option (Int32 × pj_S) :=
  if v0 = (0) then (
    some ((nI 3), z)
  ) else (
    if v0 = (nI 1) then (
      some ((nI 4), z)
    ) else (
      if v0 = (nI 2) then (
        some ((nI 2), z)
      ) else (
        some ((nI 5), z)
      )
    )
  )
def Md_winds_88  (v3 : Int32) (z : pj_S) : Option (Unit × pj_S) :=
  pj_g (pj_in (nI 3) 1554) <|
  if (z.1 1 (Int32.toNatClampNeg (nI 3))) = (nI 20) then (
    some ((), z)
  ) else (
    pj_g (pj_in (nI 3) 1554) <|
    pj_g (pj_in ((nI 270) + (z.1 1 (Int32.toNatClampNeg (nI 3)))) 1554) <|
    pj_b (pj_sI z 1 (Int32.toNatClampNeg ((nI 270) + (z.1 1 (Int32.toNatClampNeg (nI 3))))) v3) fun z1 =>
    pj_g (pj_in (nI 3) 1554) <|
    pj_g (pj_in (nI 3) 1554) <|
    pj_b (pj_sI z1 1 (Int32.toNatClampNeg (nI 3)) ((z1.1 1 (Int32.toNatClampNeg (nI 3))) + (nI 1))) fun z2 =>
    some ((), z2)
  )
def Md_winds_68 (s5 : Int32 → Int32 → Int32 → Int32 → pj_S → Option (Unit × pj_S)) (v1 : Int32) (v2 : Int32) (v4 : Int32) (v5 : Int32) (t0 : Int32) (t1 : Int32) (z : pj_S) : Option (Unit × pj_S) :=
  pj_b (t1 + t0) fun x1 =>
  pj_g (pj_in ((nI 1490) + v5) 1554) <|
  pj_b (pj_sI z 1 (Int32.toNatClampNeg ((nI 1490) + v5)) (nI 1)) fun z2 =>
  pj_b (v4 + (nI 1)) fun x3 =>
  s5 v1 v2 x1 x3 z2
def Md_winds_31 (s5 : Int32 → Int32 → Int32 → Int32 → pj_S → Option (Unit × pj_S)) (v1 : Int32) (v2 : Int32) (v3 : Int32) (v4 : Int32) (t0 : Int32) (z : pj_S) : Option (Unit × pj_S) :=
  pj_c (Md_stitchAt t0 z) fun r3 z2 =>
  pj_g (pj_in ((nI 1490) + r3) 1554) <|
  if (z2.1 1 (Int32.toNatClampNeg ((nI 1490) + r3))) = (0) then (
    pj_g (pj_in ((nI 10) + r3) 1554) <|
    pj_c (Md_lengthOfM (z2.1 1 (Int32.toNatClampNeg ((nI 10) + r3))) z2) fun r6 z5 =>
    Md_winds_68 s5 v1 v2 v4 r3 r6 v3 z5
  ) else (
    Md_winds_68 s5 v1 v2 v4 r3 (nI 0) v3 z2
  )
def Md_winds_5 (s5 : Int32 → Int32 → Int32 → Int32 → pj_S → Option (Unit × pj_S)) (v1 : Int32) (v2 : Int32) (v3 : Int32) (v4 : Int32) (z : pj_S) : Option (Unit × pj_S) :=
  if (z.1 0 27) ≤ v4 then (
    Md_winds_88 v3 z
  ) else (
    if v2 = (nI 1) then (
      Md_winds_31 s5 v1 v2 v3 v4 (v1 + v4) z
    ) else (
      Md_winds_31 s5 v1 v2 v3 v4 (v1 - v4) z
    )
  )
def Md_winds (v1 : Int32) (v2 : Int32) (z : pj_S) : Option (Unit × pj_S) :=
  pj_lp4 Md_winds_5 4000 v1 v2 (nI 0) (nI 0) z
def Md_pull_54   (z : pj_S) : Option (Int32 × pj_S) :=
  some ((z.1 0 26), z)
def Md_pull (v1 : Int32) (v2 : Int32) (v3 : Int32) (z : pj_S) : Option (Int32 × pj_S) :=
  pj_c (Md_isEnd v1 v2 z) fun r3 z2 =>
  if r3 = (0) then (
    some ((-1 : Int32), z2)
  ) else (
    pj_c (Md_isInM v3 (nI 1) (nI 36) z2) fun r6 z5 =>
    if r6 = (0) then (
      some ((-1 : Int32), z5)
    ) else (
      pj_c (Md_keeps z5) fun _ z8 =>
      pj_c (Md_laysNow z8) fun _ z11 =>
      pj_c (Md_laysHolders z11) fun _ z14 =>
      pj_c (Md_pulls v1 v2 v3 (nI 1) z14) fun _ z17 =>
      if (z17.1 0 26) ≤ (0) then (
        Md_pull_54 z17
      ) else (
        pj_c (Md_winds v1 v2 z17) fun _ z20 =>
        Md_pull_54 z20
      )
    )
  )
def Md_draw (v1 : Int32) (z : pj_S) : Option (Int32 × pj_S) :=
  pj_g (pj_in (nI 6) 1554) <|
  pj_g (pj_in (nI 6) 1554) <|
  pj_b (pj_sI z 1 (Int32.toNatClampNeg (nI 6)) (((nI 1664525) * (z.1 1 (Int32.toNatClampNeg (nI 6)))) + (nI 1013904223))) fun z1 =>
  pj_g (pj_in (nI 6) 1554) <|
  pj_g (pj_nz v1) <|
  some ((pj_rem (pj_ushr (z1.1 1 (Int32.toNatClampNeg (nI 6))) (nI 8)) v1), z1)
def Md_isLoose (v1 : Int32) (z : pj_S) : Option (Int32 × pj_S) :=
  pj_g (pj_in v1 64) <|
  if (z.1 9 (Int32.toNatClampNeg v1)) = (nI 1) then (
    pj_c (Md_isHeld v1 z) fun r3 z2 =>
    if r3 = (0) then (
      pj_g (pj_bo (nI 1)) (some ((nI 1), z2))
    ) else (
      pj_g (pj_bo (nI 0)) (some ((nI 0), z2))
    )
  ) else (
    pj_g (pj_bo (nI 0)) (some ((nI 0), z))
  )
def Md_bothM (v0 : Int32) (v1 : Int32) (v2 : Int32) (z : pj_S) : Option (Int32 × pj_S) :=
  if v0 = (nI 13) then (
    some ((v1 + v2), z)
  ) else (
  if v0 = (nI 14) then (
    some ((v1 - v2), z)
  ) else (
  if v0 = (nI 15) then (
    some ((v1 * v2), z)
  ) else (
  if v0 = (nI 16) then (
    some ((v1 ||| v2), z)
  ) else (
  if v0 = (nI 17) then (
    if v2 ≤ v1 then (
      some ((nI 0), z)
    ) else (
      some ((nI 1), z)
    )
  ) else (
  if v0 = (nI 18) then (
    if v1 = v2 then (
      some ((nI 1), z)
    ) else (
      some ((nI 0), z)
    )
  ) else (
  if v0 = (nI 19) then (
    if v1 ≤ v2 then (
      some ((nI 0), z)
    ) else (
      some ((nI 1), z)
    )
  ) else (
  if v0 = (nI 20) then (
    some ((v1 ||| v2), z)
  ) else (
  if v0 = (nI 21) then (
    some ((v1 &&& v2), z)
  ) else (
    some ((v1 ||| v2), z)
  )))))))))
def Md_comesTo_160 (s5 : Int32 → Int32 → Int32 → pj_S → Option (Int32 × pj_S)) (v2 : Int32) (v3 : Int32) (v4 : Int32) (z : pj_S) : Option (Int32 × pj_S) :=
  pj_b (v4 + (nI 1)) fun x1 =>
  s5 v2 v3 x1 z
def Md_comesTo_72 (s5 : Int32 → Int32 → Int32 → pj_S → Option (Int32 × pj_S)) (v2 : Int32) (v3 : Int32) (v4 : Int32) (t0 : Int32) (t1 : Int32) (z : pj_S) : Option (Int32 × pj_S) :=
  pj_g (pj_in t1 420) <|
  pj_b (pj_sI z 7 (Int32.toNatClampNeg t1) t0) fun z1 =>
  pj_b (v3 + (nI 1)) fun x2 =>
  Md_comesTo_160 s5 v2 x2 v4 z1
def Md_comesTo_166   (z : pj_S) : Option (Int32 × pj_S) :=
  pj_g (pj_in (nI 0) 420) <|
  some ((z.1 7 (Int32.toNatClampNeg (nI 0))), z)
def Md_comesTo_5 (s5 : Int32 → Int32 → Int32 → pj_S → Option (Int32 × pj_S)) (v2 : Int32) (v3 : Int32) (v4 : Int32) (z : pj_S) : Option (Int32 × pj_S) :=
  if v2 ≤ v4 then (
    Md_comesTo_166 z
  ) else (
    pj_g (pj_in ((nI 670) + ((nI 2) * v4)) 1554) <|
    pj_b (z.1 1 (Int32.toNatClampNeg ((nI 670) + ((nI 2) * v4)))) fun x1 =>
    pj_g (pj_in (((nI 670) + ((nI 2) * v4)) + (nI 1)) 1554) <|
    pj_b (z.1 1 (Int32.toNatClampNeg (((nI 670) + ((nI 2) * v4)) + (nI 1)))) fun x2 =>
    if (nI 13) ≤ x1 then (
      if x1 = (nI 16) then (
        pj_g (pj_in (v3 - (nI 1)) 420) <|
        pj_g (pj_nz x2) <|
        pj_g (pj_in (v3 - (nI 1)) 420) <|
        pj_b (pj_sI z 7 (Int32.toNatClampNeg (v3 - (nI 1))) ((z.1 7 (Int32.toNatClampNeg (v3 - (nI 1)))) / x2)) fun z9 =>
        Md_comesTo_160 s5 v2 v3 v4 z9
      ) else (
        if x1 = (nI 20) then (
          pj_g (pj_in (v3 - (nI 1)) 420) <|
          pj_g (pj_in (v3 - (nI 1)) 420) <|
          pj_b (pj_sI z 7 (Int32.toNatClampNeg (v3 - (nI 1))) ((nI 1) - (z.1 7 (Int32.toNatClampNeg (v3 - (nI 1)))))) fun z8 =>
          Md_comesTo_160 s5 v2 v3 v4 z8
        ) else (
          pj_b (v3 + (-1 : Int32)) fun x3 =>
          pj_g (pj_in (x3 - (nI 1)) 420) <|
          pj_g (pj_in x3 420) <|
          pj_c (Md_bothM x1 (z.1 7 (Int32.toNatClampNeg (x3 - (nI 1)))) (z.1 7 (Int32.toNatClampNeg x3)) z) fun r6 z5 =>
          pj_g (pj_in (x3 - (nI 1)) 420) <|
          pj_b (pj_sI z5 7 (Int32.toNatClampNeg (x3 - (nI 1))) r6) fun z7 =>
          Md_comesTo_160 s5 v2 x3 v4 z7
        )
      )
    ) else (
      if x1 = (0) then (
        Md_comesTo_72 s5 v2 v3 v4 x2 v3 z
      ) else (
        pj_g (pj_in x1 8) <|
        Md_comesTo_72 s5 v2 v3 v4 (z.1 8 (Int32.toNatClampNeg x1)) v3 z
      )
    )
  )
def Md_comesTo (v1 : Int32) (v2 : Int32) (z : pj_S) : Option (Int32 × pj_S) :=
  pj_lp3 Md_comesTo_5 4000 v2 (nI 0) v1 z
def Md_leastM (v0 : Int32) (v1 : Int32) (z : pj_S) : Option (Int32 × pj_S) :=
  if v1 ≤ v0 then (
    some (v1, z)
  ) else (
    some (v0, z)
  )
def Md_mostM (v0 : Int32) (v1 : Int32) (z : pj_S) : Option (Int32 × pj_S) :=
  if v0 ≤ v1 then (
    some (v1, z)
  ) else (
    some (v0, z)
  )
def Md_oddsOf_248  (v3 : Int32) (z : pj_S) : Option (Int32 × pj_S) :=
  pj_g (pj_in ((nI 610) + v3) 1554) <|
  pj_g (pj_in ((nI 630) + v3) 1554) <|
  pj_c (Md_comesTo (z.1 1 (Int32.toNatClampNeg ((nI 610) + v3))) (z.1 1 (Int32.toNatClampNeg ((nI 630) + v3))) z) fun r3 z2 =>
  pj_c (Md_leastM (nI 1000) r3 z2) fun r6 z5 =>
  pj_c (Md_mostM (nI 0) r6 z5) fun r9 z8 =>
  some (r9, z8)
def Md_oddsOf_289   (z : pj_S) : Option (Int32 × pj_S) :=
  some ((nI 500), z)
def Md_oddsOf_185 (s185 : Int32 → pj_S → Option (Int32 × pj_S)) (v3 : Int32) (z : pj_S) : Option (Int32 × pj_S) :=
  pj_g (pj_in (nI 605) 1554) <|
  if (z.1 1 (Int32.toNatClampNeg (nI 605))) ≤ v3 then (
    Md_oddsOf_289 z
  ) else (
    pj_g (pj_in ((nI 650) + v3) 1554) <|
    pj_g (pj_in ((nI 630) + v3) 1554) <|
    if (z.1 1 (Int32.toNatClampNeg ((nI 650) + v3))) = (z.1 1 (Int32.toNatClampNeg ((nI 630) + v3))) then (
      Md_oddsOf_248 v3 z
    ) else (
      pj_g (pj_in ((nI 630) + v3) 1554) <|
      pj_g (pj_in ((nI 650) + v3) 1554) <|
      pj_c (Md_comesTo (z.1 1 (Int32.toNatClampNeg ((nI 630) + v3))) (z.1 1 (Int32.toNatClampNeg ((nI 650) + v3))) z) fun r3 z2 =>
      if r3 = (nI 1) then (
        Md_oddsOf_248 v3 z2
      ) else (
        pj_b (v3 + (nI 1)) fun x4 =>
        s185 x4 z2
      )
    )
  )
def Md_oddsOf_183   (z : pj_S) : Option (Int32 × pj_S) :=
  pj_lp1 Md_oddsOf_185 4000 (nI 0) z
def Md_oddsOf_141 (s141 : Int32 → Int32 → pj_S → Option (Int32 × pj_S)) (v2 : Int32) (v3 : Int32) (z : pj_S) : Option (Int32 × pj_S) :=
  pj_g (pj_in (nI 1) 1554) <|
  if (z.1 1 (Int32.toNatClampNeg (nI 1))) ≤ v3 then (
    Md_oddsOf_183 z
  ) else (
    pj_g (pj_in (nI 7) 8) <|
    pj_g (pj_in (((nI 74) + ((nI 8) * v3)) + v2) 1554) <|
    pj_g (pj_in (nI 7) 8) <|
    pj_b (pj_sI z 8 (Int32.toNatClampNeg (nI 7)) ((z.1 8 (Int32.toNatClampNeg (nI 7))) + ((nI 1) - (z.1 1 (Int32.toNatClampNeg (((nI 74) + ((nI 8) * v3)) + v2)))))) fun z1 =>
    pj_b (v3 + (nI 1)) fun x2 =>
    s141 v2 x2 z1
  )
def Md_oddsOf_117  (v2 : Int32) (t0 : Int32) (t1 : Int32) (z : pj_S) : Option (Int32 × pj_S) :=
  pj_g (pj_in t1 8) <|
  pj_b (pj_sI z 8 (Int32.toNatClampNeg t1) t0) fun z1 =>
  pj_g (pj_in (nI 5) 1554) <|
  pj_g (pj_in (nI 6) 8) <|
  pj_b (pj_sI z1 8 (Int32.toNatClampNeg (nI 6)) (z1.1 1 (Int32.toNatClampNeg (nI 5)))) fun z2 =>
  pj_g (pj_in (nI 7) 8) <|
  pj_b (pj_sI z2 8 (Int32.toNatClampNeg (nI 7)) (nI 0)) fun z3 =>
  pj_lp2 Md_oddsOf_141 4000 v2 (nI 0) z3
def Md_oddsOf_88  (v1 : Int32) (v2 : Int32) (t0 : Int32) (t1 : Int32) (t2 : Int32) (z : pj_S) : Option (Int32 × pj_S) :=
  pj_g (pj_in t2 8) <|
  pj_b (pj_sI z 8 (Int32.toNatClampNeg t2) (t1 + t0)) fun z1 =>
  if v1 < (nI 8) then (
    Md_oddsOf_117 v2 (nI 0) (nI 5) z1
  ) else (
    pj_g (pj_in (((nI 74) + v1) - (nI 8)) 1554) <|
    Md_oddsOf_117 v2 (z1.1 1 (Int32.toNatClampNeg (((nI 74) + v1) - (nI 8)))) (nI 5) z1
  )
def Md_oddsOf_61  (v1 : Int32) (v2 : Int32) (t0 : Int32) (t1 : Int32) (z : pj_S) : Option (Int32 × pj_S) :=
  pj_g (pj_in (nI 0) 1554) <|
  if (z.1 1 (Int32.toNatClampNeg (nI 0))) ≤ (v2 + (nI 1)) then (
    Md_oddsOf_88 v1 v2 (nI 0) t0 t1 z
  ) else (
    pj_g (pj_in (((nI 74) + v1) + (nI 1)) 1554) <|
    Md_oddsOf_88 v1 v2 (z.1 1 (Int32.toNatClampNeg (((nI 74) + v1) + (nI 1)))) t0 t1 z
  )
def Md_oddsOf (v1 : Int32) (z : pj_S) : Option (Int32 × pj_S) :=
  pj_g (pj_nz (nI 8)) <|
  pj_b (pj_rem v1 (nI 8)) fun x1 =>
  pj_g (pj_in ((nI 10) + v1) 1554) <|
  pj_g (pj_in (nI 1) 8) <|
  pj_b (pj_sI z 8 (Int32.toNatClampNeg (nI 1)) (z.1 1 (Int32.toNatClampNeg ((nI 10) + v1)))) fun z2 =>
  pj_g (pj_nz (nI 8)) <|
  pj_g (pj_in (nI 2) 8) <|
  pj_b (pj_sI z2 8 (Int32.toNatClampNeg (nI 2)) (v1 / (nI 8))) fun z3 =>
  pj_g (pj_in (nI 3) 8) <|
  pj_b (pj_sI z3 8 (Int32.toNatClampNeg (nI 3)) x1) fun z4 =>
  if x1 ≤ (0) then (
    Md_oddsOf_61 v1 x1 (nI 0) (nI 4) z4
  ) else (
    pj_g (pj_in (((nI 74) + v1) - (nI 1)) 1554) <|
    Md_oddsOf_61 v1 x1 (z4.1 1 (Int32.toNatClampNeg (((nI 74) + v1) - (nI 1)))) (nI 4) z4
  )
def Md_anHour_59 (s10 : Int32 → pj_S → Option (Int32 × pj_S)) (v1 : Int32) (t0 : Int32) (t1 : Int32) (z : pj_S) : Option (Int32 × pj_S) :=
  pj_g (pj_in t1 64) <|
  pj_b (pj_sI z 13 (Int32.toNatClampNeg t1) t0) fun z1 =>
  pj_b (v1 + (nI 1)) fun x2 =>
  s10 x2 z1
def Md_anHour_58 (s10 : Int32 → pj_S → Option (Int32 × pj_S)) (v1 : Int32) (t0 : Int32) (z : pj_S) : Option (Int32 × pj_S) :=
  Md_anHour_59 s10 v1 (nI 0) t0 z
def Md_anHour_33 (s10 : Int32 → pj_S → Option (Int32 × pj_S)) (v1 : Int32) (t0 : Int32) (z : pj_S) : Option (Int32 × pj_S) :=
  if t0 ≤ (0) then (
    Md_anHour_58 s10 v1 v1 z
  ) else (
    pj_c (Md_draw (nI 1000) z) fun r3 z2 =>
    if t0 ≤ r3 then (
      Md_anHour_58 s10 v1 v1 z2
    ) else (
      Md_anHour_59 s10 v1 (nI 1) v1 z2
    )
  )
def Md_anHour_97 (s70 : Int32 → Int32 → pj_S → Option (Int32 × pj_S)) (v1 : Int32) (v2 : Int32) (z : pj_S) : Option (Int32 × pj_S) :=
  pj_b (v2 + (nI 1)) fun x1 =>
  s70 v1 x1 z
def Md_anHour_103  (v1 : Int32) (z : pj_S) : Option (Int32 × pj_S) :=
  pj_g (pj_in (nI 5) 1554) <|
  pj_g (pj_in (nI 5) 1554) <|
  pj_b (pj_sI z 1 (Int32.toNatClampNeg (nI 5)) ((z.1 1 (Int32.toNatClampNeg (nI 5))) + (nI 1))) fun z1 =>
  some (v1, z1)
def Md_anHour_70 (s70 : Int32 → Int32 → pj_S → Option (Int32 × pj_S)) (v1 : Int32) (v2 : Int32) (z : pj_S) : Option (Int32 × pj_S) :=
  if (nI 64) ≤ v2 then (
    Md_anHour_103 v1 z
  ) else (
    pj_g (pj_in v2 64) <|
    if (z.1 13 (Int32.toNatClampNeg v2)) = (0) then (
      Md_anHour_97 s70 v1 v2 z
    ) else (
      pj_c (Md_isGone v2 (nI 1) z) fun _ z2 =>
      pj_b (v1 + (nI 1)) fun x4 =>
      Md_anHour_97 s70 x4 v2 z2
    )
  )
def Md_anHour_66   (z : pj_S) : Option (Int32 × pj_S) :=
  pj_lp2 Md_anHour_70 4000 (nI 0) (nI 0) z
def Md_anHour_10 (s10 : Int32 → pj_S → Option (Int32 × pj_S)) (v1 : Int32) (z : pj_S) : Option (Int32 × pj_S) :=
  if (nI 64) ≤ v1 then (
    Md_anHour_66 z
  ) else (
    pj_c (Md_isLoose v1 z) fun r3 z2 =>
    if r3 = (0) then (
      Md_anHour_33 s10 v1 (nI 0) z2
    ) else (
      pj_c (Md_oddsOf v1 z2) fun r6 z5 =>
      Md_anHour_33 s10 v1 r6 z5
    )
  )
def Md_anHour  (z : pj_S) : Option (Int32 × pj_S) :=
  pj_c (Md_laysNow z) fun _ z2 =>
  pj_c (Md_laysHolders z2) fun _ z5 =>
  pj_lp1 Md_anHour_10 4000 (nI 0) z5
def Md_hours_30 (s30 : Int32 → Int32 → Int32 → pj_S → Option (Int32 × pj_S)) (v1 : Int32) (v2 : Int32) (v3 : Int32) (z : pj_S) : Option (Int32 × pj_S) :=
  if v1 ≤ v3 then (
    some (v2, z)
  ) else (
    pj_c (Md_keeps z) fun _ z2 =>
    pj_c (Md_anHour z2) fun r6 z5 =>
    pj_b (v2 + r6) fun x7 =>
    pj_b (v3 + (nI 1)) fun x8 =>
    s30 v1 x7 x8 z5
  )
def Md_hours (v1 : Int32) (z : pj_S) : Option (Int32 × pj_S) :=
  pj_c (Md_isInM v1 (nI 1) (nI 100) z) fun r3 z2 =>
  if r3 = (0) then (
    some ((-1 : Int32), z2)
  ) else (
    pj_g (pj_in (nI 5) 1554) <|
    if ((z2.1 1 (Int32.toNatClampNeg (nI 5))) + v1) ≤ (nI 9999) then (
      pj_lp3 Md_hours_30 4000 v1 (nI 0) (nI 0) z2
    ) else (
      some ((-1 : Int32), z2)
    )
  )
def Md_feed_115   (z : pj_S) : Option (Int32 × pj_S) :=
  some ((z.1 0 12), z)
def Md_feed_71 (s18 : Int32 → Int32 → Int32 → Int32 → Int32 → Int32 → pj_S → Option (Int32 × pj_S)) (v1 : Int32) (v2 : Int32) (v3 : Int32) (v4 : Int32) (v5 : Int32) (v6 : Int32) (t0 : Int32) (z : pj_S) : Option (Int32 × pj_S) :=
  pj_g (pj_nz (nI 4)) <|
  pj_g (pj_in (z.1 0 12) 400) <|
  pj_b (pj_sI z 6 (Int32.toNatClampNeg (z.1 0 12)) ((t0 >>> (((nI 24) - ((nI 8) * (pj_rem v6 (nI 4)))) &&& 31)) &&& (nI 255))) fun z1 =>
  pj_b (pj_sI z1 0 12 ((z1.1 0 12) + (nI 1))) fun z2 =>
  pj_b (v6 + (nI 1)) fun x3 =>
  s18 v1 v2 v3 v4 v5 x3 z2
def Md_feed_18 (s18 : Int32 → Int32 → Int32 → Int32 → Int32 → Int32 → pj_S → Option (Int32 × pj_S)) (v1 : Int32) (v2 : Int32) (v3 : Int32) (v4 : Int32) (v5 : Int32) (v6 : Int32) (z : pj_S) : Option (Int32 × pj_S) :=
  if (nI 20) ≤ v6 then (
    Md_feed_115 z
  ) else (
    if (nI 4) ≤ v6 then (
      if (nI 8) ≤ v6 then (
        if (nI 12) ≤ v6 then (
          if (nI 16) ≤ v6 then (
            Md_feed_71 s18 v1 v2 v3 v4 v5 v6 v5 z
          ) else (
            Md_feed_71 s18 v1 v2 v3 v4 v5 v6 v4 z
          )
        ) else (
          Md_feed_71 s18 v1 v2 v3 v4 v5 v6 v3 z
        )
      ) else (
        Md_feed_71 s18 v1 v2 v3 v4 v5 v6 v2 z
      )
    ) else (
      Md_feed_71 s18 v1 v2 v3 v4 v5 v6 v1 z
    )
  )
def Md_feed (v1 : Int32) (v2 : Int32) (v3 : Int32) (v4 : Int32) (v5 : Int32) (z : pj_S) : Option (Int32 × pj_S) :=
  if ((z.1 0 12) + (nI 20)) ≤ (nI 400) then (
    pj_lp6 Md_feed_18 4000 v1 v2 v3 v4 v5 (nI 0) z
  ) else (
    some ((-1 : Int32), z)
  )
def Md_end (v1 : Int32) (z : pj_S) : Option (Int32 × pj_S) :=
  pj_c (Md_isInM v1 (nI 0) (z.1 0 12) z) fun r3 z2 =>
  if r3 = (0) then (
    pj_g (pj_bo (nI 0)) (some ((nI 0), z2))
  ) else (
    pj_b (pj_sI z2 0 12 v1) fun z4 =>
    pj_g (pj_bo (nI 1)) (some ((nI 1), z4))
  )
def Md_see (v1 : Int32) (z : pj_S) : Option (Int32 × pj_S) :=
  if (z.1 0 12) ≤ v1 then (
    some ((-1 : Int32), z)
  ) else (
    pj_g (pj_in v1 400) <|
    some ((z.1 6 (Int32.toNatClampNeg v1)), z)
  )
def Md_isDigitM (v0 : Int32) (z : pj_S) : Option (Int32 × pj_S) :=
  pj_c (Md_isInM v0 (nI 48) (nI 57) z) fun r3 z2 =>
  pj_g (pj_bo r3) (some (r3, z2))
def Md_is_60 (s24 : Nat → Int32 → Int32 → pj_S → Option (Int32 × pj_S)) (v1 : Nat) (v3 : Int32) (t0 : Int32) (z : pj_S) : Option (Int32 × pj_S) :=
  pj_b (v3 + (nI 1)) fun x1 =>
  s24 v1 t0 x1 z
def Md_is_24 (s24 : Nat → Int32 → Int32 → pj_S → Option (Int32 × pj_S)) (v1 : Nat) (v2 : Int32) (v3 : Int32) (z : pj_S) : Option (Int32 × pj_S) :=
  pj_c (JStr_length v1 z) fun r3 z2 =>
  if r3 ≤ v3 then (
    pj_g (pj_bo v2) (some (v2, z2))
  ) else (
    if v2 = (0) then (
      pj_g (pj_bo v2) (some (v2, z2))
    ) else (
      pj_g (pj_in ((z2.1 0 15) + v3) 400) <|
      pj_c (JStr_charAt v1 v3 z2) fun r6 z5 =>
      if (z2.1 6 (Int32.toNatClampNeg ((z2.1 0 15) + v3))) = r6 then (
        Md_is_60 s24 v1 v3 (nI 1) z5
      ) else (
        Md_is_60 s24 v1 v3 (nI 0) z5
      )
    )
  )
def Md_is_21  (v1 : Nat) (t0 : Int32) (z : pj_S) : Option (Int32 × pj_S) :=
  pj_lp3 Md_is_24 4000 v1 t0 (nI 0) z
def Md_is (v1 : Nat) (z : pj_S) : Option (Int32 × pj_S) :=
  pj_c (JStr_length v1 z) fun r3 z2 =>
  if ((z.1 0 13) - (z.1 0 15)) = r3 then (
    Md_is_21 v1 (nI 1) z2
  ) else (
    Md_is_21 v1 (nI 0) z2
  )
def Md_nameWord  (z : pj_S) : Option (Int32 × pj_S) :=
  pj_c (Md_is (5) z) fun r3 z2 =>
  if r3 = (0) then (
    pj_c (Md_is (6) z2) fun r6 z5 =>
    if r6 = (0) then (
      pj_c (Md_is (7) z5) fun r9 z8 =>
      if r9 = (0) then (
        pj_c (Md_is (8) z8) fun r12 z11 =>
        if r12 = (0) then (
          pj_c (Md_is (9) z11) fun r15 z14 =>
          if r15 = (0) then (
            pj_c (Md_is (10) z14) fun r18 z17 =>
            if r18 = (0) then (
              pj_c (Md_is (11) z17) fun r21 z20 =>
              if r21 = (0) then (
                some ((nI 1), z20)
              ) else (
                some ((nI 47), z20)
              )
            ) else (
              some ((nI 46), z17)
            )
          ) else (
            some ((nI 45), z14)
          )
        ) else (
          some ((nI 44), z11)
        )
      ) else (
        some ((nI 43), z8)
      )
    ) else (
      some ((nI 42), z5)
    )
  ) else (
    some ((nI 41), z2)
  )
def Md_word  (z : pj_S) : Option (Int32 × pj_S) :=
  pj_c (Md_is (1) z) fun r3 z2 =>
  if r3 = (0) then (
    pj_c (Md_is (2) z2) fun r6 z5 =>
    if r6 = (0) then (
      pj_c (Md_is (3) z5) fun r9 z8 =>
      if r9 = (0) then (
        pj_c (Md_is (4) z8) fun r12 z11 =>
        if r12 = (0) then (
          pj_c (Md_is (0) z11) fun r15 z14 =>
          if r15 = (0) then (
            pj_c (Md_nameWord z14) fun r18 z17 =>
            some (r18, z17)
          ) else (
            some ((nI 20), z14)
          )
        ) else (
          some ((nI 6), z11)
        )
      ) else (
        some ((nI 5), z8)
      )
    ) else (
      some ((nI 4), z5)
    )
  ) else (
    some ((nI 3), z2)
  )
def Md_isLetterM_22   (z : pj_S) : Option (Int32 × pj_S) :=
  pj_g (pj_bo (nI 1)) (some ((nI 1), z))
def Md_isLetterM (v0 : Int32) (z : pj_S) : Option (Int32 × pj_S) :=
  pj_c (Md_isInM v0 (nI 97) (nI 122) z) fun r3 z2 =>
  if r3 = (0) then (
    pj_c (Md_isInM v0 (nI 65) (nI 90) z2) fun r6 z5 =>
    if r6 = (0) then (
      pj_g (pj_bo (nI 0)) (some ((nI 0), z5))
    ) else (
      Md_isLetterM_22 z5
    )
  ) else (
    Md_isLetterM_22 z2
  )
def Md_next0_303  (t0 : Int32) (z : pj_S) : Option (Unit × pj_S) :=
  pj_b (pj_sI z 0 14 t0) fun z1 =>
  some ((), z1)
def Md_next0_289  (v1 : Int32) (t0 : Int32) (z : pj_S) : Option (Unit × pj_S) :=
  if t0 = (0) then (
    Md_next0_303 (nI 1) z
  ) else (
    Md_next0_303 ((nI 100) + v1) z
  )
def Md_next0_103   (z : pj_S) : Option (Unit × pj_S) :=
  pj_c (Md_word z) fun r3 z2 =>
  pj_b (pj_sI z2 0 14 r3) fun z4 =>
  some ((), z4)
def Md_next0_76 (s76 : pj_S → Option (Unit × pj_S))  (z : pj_S) : Option (Unit × pj_S) :=
  pj_c (Md_see (z.1 0 13) z) fun r3 z2 =>
  pj_c (Md_isLetterM r3 z2) fun r6 z5 =>
  if r6 = (0) then (
    Md_next0_103 z5
  ) else (
    pj_b (pj_sI z5 0 13 ((z5.1 0 13) + (nI 1))) fun z7 =>
    s76 z7
  )
def Md_next0_284  (v1 : Int32) (z : pj_S) : Option (Unit × pj_S) :=
  Md_next0_289 v1 (nI 1) z
def Md_next0_176 (s126 : pj_S → Option (Unit × pj_S))  (z : pj_S) : Option (Unit × pj_S) :=
  pj_b (pj_sI z 0 13 ((z.1 0 13) + (nI 1))) fun z1 =>
  s126 z1
def Md_next0_208  (t0 : Int32) (z : pj_S) : Option (Unit × pj_S) :=
  pj_b (pj_sI z 0 14 t0) fun z1 =>
  some ((), z1)
def Md_next0_189   (z : pj_S) : Option (Unit × pj_S) :=
  if (nI 5) ≤ ((z.1 0 13) - (z.1 0 15)) then (
    Md_next0_208 (nI 1) z
  ) else (
    Md_next0_208 (nI 2) z
  )
def Md_next0_126 (s126 : pj_S → Option (Unit × pj_S))  (z : pj_S) : Option (Unit × pj_S) :=
  pj_c (Md_see (z.1 0 13) z) fun r3 z2 =>
  pj_c (Md_isDigitM r3 z2) fun r6 z5 =>
  if r6 = (0) then (
    Md_next0_189 z5
  ) else (
    if ((z5.1 0 15) + (nI 4)) ≤ (z5.1 0 13) then (
      Md_next0_176 s126 z5
    ) else (
      pj_c (Md_see (z5.1 0 13) z5) fun r9 z8 =>
      pj_b (pj_sI z8 0 16 ((((nI 10) * (z5.1 0 16)) + r9) - (nI 48))) fun z10 =>
      Md_next0_176 s126 z10
    )
  )
def Md_next0_39   (z : pj_S) : Option (Unit × pj_S) :=
  pj_b (pj_sI z 0 15 (z.1 0 13)) fun z1 =>
  pj_c (Md_see (z1.1 0 13) z1) fun r4 z3 =>
  if r4 = (-1 : Int32) then (
    pj_b (pj_sI z3 0 14 (nI 0)) fun z13 =>
    some ((), z13)
  ) else (
    pj_c (Md_isLetterM r4 z3) fun r7 z6 =>
    if r7 = (0) then (
      pj_c (Md_isDigitM r4 z6) fun r10 z9 =>
      if r10 = (0) then (
        pj_b (pj_sI z9 0 13 ((z9.1 0 13) + (nI 1))) fun z11 =>
        if r4 = (nI 59) then (
          Md_next0_284 r4 z11
        ) else (
          if r4 = (nI 43) then (
            Md_next0_284 r4 z11
          ) else (
            if r4 = (nI 45) then (
              Md_next0_284 r4 z11
            ) else (
              if r4 = (nI 42) then (
                Md_next0_284 r4 z11
              ) else (
                if r4 = (nI 47) then (
                  Md_next0_284 r4 z11
                ) else (
                  if r4 = (nI 40) then (
                    Md_next0_284 r4 z11
                  ) else (
                    if r4 = (nI 41) then (
                      Md_next0_284 r4 z11
                    ) else (
                      if r4 = (nI 60) then (
                        Md_next0_284 r4 z11
                      ) else (
                        if r4 = (nI 61) then (
                          Md_next0_284 r4 z11
                        ) else (
                          if r4 = (nI 62) then (
                            Md_next0_284 r4 z11
                          ) else (
                            Md_next0_289 r4 (nI 0) z11
                          )
                        )
                      )
                    )
                  )
                )
              )
            )
          )
        )
      ) else (
        pj_b (pj_sI z9 0 16 (nI 0)) fun z12 =>
        pj_lp0 Md_next0_126 4000 z12
      )
    ) else (
      pj_lp0 Md_next0_76 4000 z6
    )
  )
def Md_next0_26 (s0 : pj_S → Option (Unit × pj_S))  (z : pj_S) : Option (Unit × pj_S) :=
  pj_b (pj_sI z 0 13 ((z.1 0 13) + (nI 1))) fun z1 =>
  s0 z1
def Md_next0_0 (s0 : pj_S → Option (Unit × pj_S))  (z : pj_S) : Option (Unit × pj_S) :=
  pj_c (Md_see (z.1 0 13) z) fun r3 z2 =>
  if r3 = (nI 32) then (
    Md_next0_26 s0 z2
  ) else (
    pj_c (Md_see (z2.1 0 13) z2) fun r6 z5 =>
    if r6 = (nI 10) then (
      Md_next0_26 s0 z5
    ) else (
      Md_next0_39 z5
    )
  )
def Md_next0  (z : pj_S) : Option (Unit × pj_S) :=
  pj_lp0 Md_next0_0 4000 z
def Md_bad (v1 : Int32) (z : pj_S) : Option (Int32 × pj_S) :=
  pj_b (pj_sI z 0 17 v1) fun z1 =>
  pj_b (pj_sI z1 0 18 (z1.1 0 15)) fun z2 =>
  pj_g (pj_bo (nI 0)) (some ((nI 0), z2))
def Md_need (v1 : Int32) (z : pj_S) : Option (Int32 × pj_S) :=
  if (z.1 0 14) = v1 then (
    pj_c (Md_next0 z) fun _ z2 =>
    pj_g (pj_bo (nI 1)) (some ((nI 1), z2))
  ) else (
    pj_c (Md_bad (nI 1) z) fun r6 z5 =>
    pj_g (pj_bo r6) (some (r6, z5))
  )
def Md_lay (v1 : Int32) (v2 : Int32) (z : pj_S) : Option (Unit × pj_S) :=
  pj_g (pj_in ((nI 2) * (z.1 0 11)) 820) <|
  pj_b (pj_sI z 5 (Int32.toNatClampNeg ((nI 2) * (z.1 0 11))) v1) fun z1 =>
  pj_g (pj_in (((nI 2) * (z1.1 0 11)) + (nI 1)) 820) <|
  pj_b (pj_sI z1 5 (Int32.toNatClampNeg (((nI 2) * (z1.1 0 11)) + (nI 1))) v2) fun z2 =>
  pj_b (pj_sI z2 0 11 ((z2.1 0 11) + (nI 1))) fun z3 =>
  some ((), z3)
def Md_unit_46  (t0 : Int32) (z : pj_S) : Option (Int32 × pj_S) :=
  pj_c (Md_lay t0 (z.1 0 16) z) fun _ z2 =>
  pj_c (Md_next0 z2) fun _ z5 =>
  pj_g (pj_bo (nI 1)) (some ((nI 1), z5))
def Md_unit_30  (v1 : Int32) (z : pj_S) : Option (Int32 × pj_S) :=
  if v1 = (0) then (
    Md_unit_46 (nI 0) z
  ) else (
    Md_unit_46 ((z.1 0 14) - (nI 40)) z
  )
def Md_unit  (z : pj_S) : Option (Int32 × pj_S) :=
  pj_c (Md_isInM (z.1 0 14) (nI 41) (nI 47) z) fun r3 z2 =>
  if (z2.1 0 14) = (nI 2) then (
    Md_unit_30 r3 z2
  ) else (
    if r3 = (0) then (
      pj_c (Md_bad (nI 1) z2) fun r6 z5 =>
      pj_g (pj_bo r6) (some (r6, z5))
    ) else (
      Md_unit_30 r3 z2
    )
  )
def Md_product_66   (z : pj_S) : Option (Int32 × pj_S) :=
  pj_c (Md_bad (nI 1) z) fun r3 z2 =>
  pj_g (pj_bo r3) (some (r3, z2))
def Md_product_76   (z : pj_S) : Option (Int32 × pj_S) :=
  pj_c (Md_bad (nI 2) z) fun r3 z2 =>
  pj_g (pj_bo r3) (some (r3, z2))
def Md_product_112 (s9 : pj_S → Option (Int32 × pj_S))  (z : pj_S) : Option (Int32 × pj_S) :=
  s9 z
def Md_product_44 (s9 : pj_S → Option (Int32 × pj_S)) (t0 : Int32) (z : pj_S) : Option (Int32 × pj_S) :=
  pj_c (Md_next0 z) fun _ z2 =>
  if t0 = (0) then (
    pj_c (Md_unit z2) fun r6 z5 =>
    if r6 = (0) then (
      pj_g (pj_bo (nI 0)) (some ((nI 0), z5))
    ) else (
      pj_c (Md_lay (nI 15) (nI 0) z5) fun _ z8 =>
      Md_product_112 s9 z8
    )
  ) else (
    pj_b (z2.1 0 16) fun x10 =>
    if (z2.1 0 14) = (nI 2) then (
      if x10 = (0) then (
        Md_product_76 z2
      ) else (
        pj_c (Md_next0 z2) fun _ z12 =>
        pj_c (Md_lay (nI 16) x10 z12) fun _ z15 =>
        Md_product_112 s9 z15
      )
    ) else (
      Md_product_66 z2
    )
  )
def Md_product_29 (s9 : pj_S → Option (Int32 × pj_S))  (z : pj_S) : Option (Int32 × pj_S) :=
  if (z.1 0 14) = (nI 147) then (
    Md_product_44 s9 (nI 1) z
  ) else (
    Md_product_44 s9 (nI 0) z
  )
def Md_product_9 (s9 : pj_S → Option (Int32 × pj_S))  (z : pj_S) : Option (Int32 × pj_S) :=
  if (z.1 0 14) = (nI 142) then (
    Md_product_29 s9 z
  ) else (
    if (z.1 0 14) = (nI 147) then (
      Md_product_29 s9 z
    ) else (
      pj_g (pj_bo (nI 1)) (some ((nI 1), z))
    )
  )
def Md_product  (z : pj_S) : Option (Int32 × pj_S) :=
  pj_c (Md_unit z) fun r3 z2 =>
  if r3 = (0) then (
    pj_g (pj_bo (nI 0)) (some ((nI 0), z2))
  ) else (
    pj_lp0 Md_product_9 4000 z2
  )
def Md_sumUp_46 (s9 : pj_S → Option (Int32 × pj_S)) (t0 : Int32) (z : pj_S) : Option (Int32 × pj_S) :=
  pj_c (Md_next0 z) fun _ z2 =>
  pj_c (Md_product z2) fun r6 z5 =>
  if r6 = (0) then (
    pj_g (pj_bo (nI 0)) (some ((nI 0), z5))
  ) else (
    pj_c (Md_lay t0 (nI 0) z5) fun _ z8 =>
    s9 z8
  )
def Md_sumUp_29 (s9 : pj_S → Option (Int32 × pj_S))  (z : pj_S) : Option (Int32 × pj_S) :=
  if (z.1 0 14) = (nI 143) then (
    Md_sumUp_46 s9 (nI 13) z
  ) else (
    Md_sumUp_46 s9 (nI 14) z
  )
def Md_sumUp_9 (s9 : pj_S → Option (Int32 × pj_S))  (z : pj_S) : Option (Int32 × pj_S) :=
  if (z.1 0 14) = (nI 143) then (
    Md_sumUp_29 s9 z
  ) else (
    if (z.1 0 14) = (nI 145) then (
      Md_sumUp_29 s9 z
    ) else (
      pj_g (pj_bo (nI 1)) (some ((nI 1), z))
    )
  )
def Md_sumUp  (z : pj_S) : Option (Int32 × pj_S) :=
  pj_c (Md_product z) fun r3 z2 =>
  if r3 = (0) then (
    pj_g (pj_bo (nI 0)) (some ((nI 0), z2))
  ) else (
    pj_lp0 Md_sumUp_9 4000 z2
  )
def Md_opens  (z : pj_S) : Option (Int32 × pj_S) :=
  if (z.1 0 20) = (nI 8) then (
    pj_c (Md_bad (nI 3) z) fun r7 z6 =>
    pj_g (pj_bo r7) (some (r7, z6))
  ) else (
    pj_b (pj_sI z 0 20 ((z.1 0 20) + (nI 1))) fun z1 =>
    pj_c (Md_next0 z1) fun _ z3 =>
    pj_g (pj_bo (nI 1)) (some ((nI 1), z3))
  )
def Md_every_9 (sR : pj_S → Option (Int32 × pj_S)) (s9 : pj_S → Option (Int32 × pj_S))  (z : pj_S) : Option (Int32 × pj_S) :=
  if (z.1 0 14) = (nI 5) then (
    pj_c (Md_next0 z) fun _ z2 =>
    pj_c (sR z2) fun r6 z5 =>
    if r6 = (0) then (
      pj_g (pj_bo (nI 0)) (some ((nI 0), z5))
    ) else (
      pj_c (Md_lay (nI 21) (nI 0) z5) fun _ z8 =>
      s9 z8
    )
  ) else (
    pj_g (pj_bo (nI 1)) (some ((nI 1), z))
  )
def Md_every (sR : pj_S → Option (Int32 × pj_S))  (z : pj_S) : Option (Int32 × pj_S) :=
  pj_c (sR z) fun r3 z2 =>
  if r3 = (0) then (
    pj_g (pj_bo (nI 0)) (some ((nI 0), z2))
  ) else (
    pj_lp0 (Md_every_9 sR) 4000 z2
  )
def Md_any_9 (sR : pj_S → Option (Int32 × pj_S)) (s9 : pj_S → Option (Int32 × pj_S))  (z : pj_S) : Option (Int32 × pj_S) :=
  if (z.1 0 14) = (nI 4) then (
    pj_c (Md_next0 z) fun _ z2 =>
    pj_c (Md_every sR z2) fun r6 z5 =>
    if r6 = (0) then (
      pj_g (pj_bo (nI 0)) (some ((nI 0), z5))
    ) else (
      pj_c (Md_lay (nI 22) (nI 0) z5) fun _ z8 =>
      s9 z8
    )
  ) else (
    pj_g (pj_bo (nI 1)) (some ((nI 1), z))
  )
def Md_any (sR : pj_S → Option (Int32 × pj_S))  (z : pj_S) : Option (Int32 × pj_S) :=
  pj_c (Md_every sR z) fun r3 z2 =>
  if r3 = (0) then (
    pj_g (pj_bo (nI 0)) (some ((nI 0), z2))
  ) else (
    pj_lp0 (Md_any_9 sR) 4000 z2
  )
def Md_oneTest_147 (sR : pj_S → Option (Int32 × pj_S))  (t0 : Int32) (z : pj_S) : Option (Int32 × pj_S) :=
  if t0 = (-1 : Int32) then (
    pj_c (Md_bad (nI 1) z) fun r12 z11 =>
    pj_g (pj_bo r12) (some (r12, z11))
  ) else (
    pj_c (Md_next0 z) fun _ z2 =>
    pj_c (Md_sumUp z2) fun r6 z5 =>
    if r6 = (0) then (
      pj_g (pj_bo (nI 0)) (some ((nI 0), z5))
    ) else (
      pj_c (Md_lay t0 (nI 0) z5) fun _ z8 =>
      pj_g (pj_bo (nI 1)) (some ((nI 1), z8))
    )
  )
def Md_oneTest_B (sR : pj_S → Option (Int32 × pj_S))  (z : pj_S) : Option (Int32 × pj_S) :=
  if (z.1 0 14) = (nI 6) then (
    pj_c (Md_opens z) fun r16 z15 =>
    if r16 = (0) then (
      pj_g (pj_bo (nI 0)) (some ((nI 0), z15))
    ) else (
      pj_c (sR z15) fun r19 z18 =>
      if r19 = (0) then (
        pj_g (pj_bo (nI 0)) (some ((nI 0), z18))
      ) else (
        pj_b (pj_sI z18 0 20 ((z18.1 0 20) - (nI 1))) fun z20 =>
        pj_c (Md_lay (nI 20) (nI 0) z20) fun _ z22 =>
        pj_g (pj_bo (nI 1)) (some ((nI 1), z22))
      )
    )
  ) else (
    if (z.1 0 14) = (nI 140) then (
      pj_c (Md_opens z) fun r6 z5 =>
      if r6 = (0) then (
        pj_g (pj_bo (nI 0)) (some ((nI 0), z5))
      ) else (
        pj_c (Md_any sR z5) fun r9 z8 =>
        if r9 = (0) then (
          pj_g (pj_bo (nI 0)) (some ((nI 0), z8))
        ) else (
          pj_c (Md_need (nI 141) z8) fun r12 z11 =>
          if r12 = (0) then (
            pj_g (pj_bo (nI 0)) (some ((nI 0), z11))
          ) else (
            pj_b (pj_sI z11 0 20 ((z11.1 0 20) - (nI 1))) fun z13 =>
            pj_g (pj_bo (nI 1)) (some ((nI 1), z13))
          )
        )
      )
    ) else (
      pj_c (Md_sumUp z) fun r3 z2 =>
      if r3 = (0) then (
        pj_g (pj_bo (nI 0)) (some ((nI 0), z2))
      ) else (
        if (z2.1 0 14) = (nI 160) then (
          Md_oneTest_147 sR (nI 17) z2
        ) else (
          if (z2.1 0 14) = (nI 161) then (
            Md_oneTest_147 sR (nI 18) z2
          ) else (
            if (z2.1 0 14) = (nI 162) then (
              Md_oneTest_147 sR (nI 19) z2
            ) else (
              Md_oneTest_147 sR (-1 : Int32) z2
            )
          )
        )
      )
    )
  )
def Md_oneTest_o  (z : pj_S) : Option (Int32 × pj_S) := pj_lp0 Md_oneTest_B 12  z
def Md_any_o  (z : pj_S) : Option (Int32 × pj_S) := Md_any (pj_lp0 Md_oneTest_B 12)  z
def Md_every_o  (z : pj_S) : Option (Int32 × pj_S) := Md_every (pj_lp0 Md_oneTest_B 12)  z
def Md_aLine_101   (z : pj_S) : Option (Int32 × pj_S) :=
  pj_g (pj_in (((nI 3) * (z.1 0 10)) + (nI 2)) 48) <|
  pj_b (pj_sI z 4 (Int32.toNatClampNeg (((nI 3) * (z.1 0 10)) + (nI 2))) (z.1 0 11)) fun z1 =>
  pj_c (Md_need (nI 159) z1) fun r4 z3 =>
  pj_g (pj_bo r4) (some (r4, z3))
def Md_aLine  (z : pj_S) : Option (Int32 × pj_S) :=
  if (z.1 0 14) = (nI 20) then (
    if (z.1 0 10) = (nI 16) then (
      pj_c (Md_bad (nI 3) z) fun r18 z17 =>
      pj_g (pj_bo r18) (some (r18, z17))
    ) else (
      pj_b (pj_sI z 0 20 (nI 0)) fun z1 =>
      pj_c (Md_next0 z1) fun _ z3 =>
      pj_g (pj_in ((nI 3) * (z3.1 0 10)) 48) <|
      pj_b (pj_sI z3 4 (Int32.toNatClampNeg ((nI 3) * (z3.1 0 10))) (z3.1 0 11)) fun z5 =>
      pj_c (Md_sumUp z5) fun r8 z7 =>
      if r8 = (0) then (
        pj_g (pj_bo (nI 0)) (some ((nI 0), z7))
      ) else (
        pj_g (pj_in (((nI 3) * (z7.1 0 10)) + (nI 1)) 48) <|
        pj_b (pj_sI z7 4 (Int32.toNatClampNeg (((nI 3) * (z7.1 0 10)) + (nI 1))) (z7.1 0 11)) fun z9 =>
        if (z9.1 0 14) = (nI 3) then (
          pj_c (Md_next0 z9) fun _ z11 =>
          pj_c (Md_any_o z11) fun r15 z14 =>
          if r15 = (0) then (
            pj_g (pj_bo (nI 0)) (some ((nI 0), z14))
          ) else (
            Md_aLine_101 z14
          )
        ) else (
          Md_aLine_101 z9
        )
      )
    )
  ) else (
    pj_c (Md_bad (nI 1) z) fun r21 z20 =>
    pj_g (pj_bo r21) (some (r21, z20))
  )
def Md_text_56 (s26 : Int32 → pj_S → Option (Int32 × pj_S)) (v1 : Int32) (t0 : Int32) (t1 : Int32) (z : pj_S) : Option (Int32 × pj_S) :=
  pj_b (pj_sI z 0 10 (t1 + t0)) fun z1 =>
  s26 v1 z1
def Md_text_218   (z : pj_S) : Option (Int32 × pj_S) :=
  some ((z.1 0 10), z)
def Md_text_186 (s186 : Int32 → pj_S → Option (Int32 × pj_S)) (v2 : Int32) (z : pj_S) : Option (Int32 × pj_S) :=
  if ((nI 2) * (z.1 0 11)) ≤ v2 then (
    Md_text_218 z
  ) else (
    pj_g (pj_in v2 820) <|
    pj_g (pj_in ((nI 670) + v2) 1554) <|
    pj_b (pj_sI z 1 (Int32.toNatClampNeg ((nI 670) + v2)) (z.1 5 (Int32.toNatClampNeg v2))) fun z1 =>
    pj_b (v2 + (nI 1)) fun x2 =>
    s186 x2 z1
  )
def Md_text_184   (z : pj_S) : Option (Int32 × pj_S) :=
  pj_lp1 Md_text_186 4000 (nI 0) z
def Md_text_112 (s112 : Int32 → pj_S → Option (Int32 × pj_S)) (v2 : Int32) (z : pj_S) : Option (Int32 × pj_S) :=
  if (z.1 0 10) ≤ v2 then (
    Md_text_184 z
  ) else (
    pj_g (pj_in ((nI 3) * v2) 48) <|
    pj_g (pj_in ((nI 610) + v2) 1554) <|
    pj_b (pj_sI z 1 (Int32.toNatClampNeg ((nI 610) + v2)) (z.1 4 (Int32.toNatClampNeg ((nI 3) * v2)))) fun z1 =>
    pj_g (pj_in (((nI 3) * v2) + (nI 1)) 48) <|
    pj_g (pj_in ((nI 630) + v2) 1554) <|
    pj_b (pj_sI z1 1 (Int32.toNatClampNeg ((nI 630) + v2)) (z1.1 4 (Int32.toNatClampNeg (((nI 3) * v2) + (nI 1))))) fun z2 =>
    pj_g (pj_in (((nI 3) * v2) + (nI 2)) 48) <|
    pj_g (pj_in ((nI 650) + v2) 1554) <|
    pj_b (pj_sI z2 1 (Int32.toNatClampNeg ((nI 650) + v2)) (z2.1 4 (Int32.toNatClampNeg (((nI 3) * v2) + (nI 2))))) fun z3 =>
    pj_b (v2 + (nI 1)) fun x4 =>
    s112 x4 z3
  )
def Md_text_89  (v1 : Int32) (t0 : Int32) (z : pj_S) : Option (Int32 × pj_S) :=
  pj_b (pj_sI z 0 21 t0) fun z1 =>
  if v1 = (0) then (
    some ((-1 : Int32), z1)
  ) else (
    pj_g (pj_in (nI 605) 1554) <|
    pj_b (pj_sI z1 1 (Int32.toNatClampNeg (nI 605)) (z1.1 0 10)) fun z2 =>
    pj_lp1 Md_text_112 4000 (nI 0) z2
  )
def Md_text_63  (v1 : Int32) (z : pj_S) : Option (Int32 × pj_S) :=
  pj_b (pj_sI z 0 12 (nI 0)) fun z1 =>
  pj_b (pj_sI z1 0 19 (z1.1 0 17)) fun z2 =>
  if v1 = (0) then (
    Md_text_89 v1 (z2.1 0 18) z2
  ) else (
    Md_text_89 v1 (-1 : Int32) z2
  )
def Md_text_26 (s26 : Int32 → pj_S → Option (Int32 × pj_S)) (v1 : Int32) (z : pj_S) : Option (Int32 × pj_S) :=
  if v1 = (0) then (
    Md_text_63 v1 z
  ) else (
    if (z.1 0 14) = (0) then (
      Md_text_63 v1 z
    ) else (
      pj_c (Md_aLine z) fun r3 z2 =>
      if r3 = (0) then (
        Md_text_56 s26 r3 (nI 0) (z2.1 0 10) z2
      ) else (
        Md_text_56 s26 r3 (nI 1) (z2.1 0 10) z2
      )
    )
  )
def Md_text  (z : pj_S) : Option (Int32 × pj_S) :=
  pj_b (pj_sI z 0 17 (nI 0)) fun z1 =>
  pj_b (pj_sI z1 0 13 (nI 0)) fun z2 =>
  pj_b (pj_sI z2 0 10 (nI 0)) fun z3 =>
  pj_b (pj_sI z3 0 11 (nI 0)) fun z4 =>
  pj_c (Md_next0 z4) fun _ z6 =>
  pj_lp1 Md_text_26 4000 (nI 1) z6
def Md_fault (v1 : Int32) (z : pj_S) : Option (Int32 × pj_S) :=
  if v1 = (0) then (
    some ((z.1 0 19), z)
  ) else (
    if v1 = (nI 1) then (
      some ((z.1 0 21), z)
    ) else (
      some ((-1 : Int32), z)
    )
  )
def Md_placeOf_38  (t0 : Int32) (t1 : Int32) (z : pj_S) : Option (Int32 × pj_S) :=
  some ((t1 + t0), z)
def Md_placeOf (v1 : Int32) (z : pj_S) : Option (Int32 × pj_S) :=
  pj_g (pj_nz (nI 8)) <|
  pj_b (v1 / (nI 8)) fun x1 =>
  pj_g (pj_nz (nI 8)) <|
  pj_b (pj_rem v1 (nI 8)) fun x2 =>
  pj_g (pj_in (nI 0) 1554) <|
  pj_g (pj_nz (nI 2)) <|
  if (pj_rem x1 (nI 2)) = (0) then (
    Md_placeOf_38 x2 (x1 * (z.1 1 (Int32.toNatClampNeg (nI 0)))) z
  ) else (
    pj_g (pj_in (nI 0) 1554) <|
    Md_placeOf_38 (((z.1 1 (Int32.toNatClampNeg (nI 0))) - (nI 1)) - x2) (x1 * (z.1 1 (Int32.toNatClampNeg (nI 0)))) z
  )
def Md_of (v1 : Int32) (v2 : Int32) (z : pj_S) : Option (Int32 × pj_S) :=
  pj_c (Md_isStitch v1 z) fun r3 z2 =>
  if r3 = (0) then (
    some ((-1 : Int32), z2)
  ) else (
    pj_c (Md_isInM v2 (nI 0) (nI 6) z2) fun r6 z5 =>
    if r6 = (0) then (
      some ((-1 : Int32), z5)
    ) else (
      pj_c (Md_laysNow z5) fun _ z8 =>
      pj_c (Md_laysHolders z8) fun _ z11 =>
      if v2 = (nI 0) then (
        pj_g (pj_in ((nI 10) + v1) 1554) <|
        some ((z11.1 1 (Int32.toNatClampNeg ((nI 10) + v1))), z11)
      ) else (
      if v2 = (nI 1) then (
        pj_g (pj_in ((nI 74) + v1) 1554) <|
        some ((z11.1 1 (Int32.toNatClampNeg ((nI 74) + v1))), z11)
      ) else (
      if v2 = (nI 2) then (
        pj_g (pj_in ((nI 138) + v1) 1554) <|
        some ((z11.1 1 (Int32.toNatClampNeg ((nI 138) + v1))), z11)
      ) else (
      if v2 = (nI 3) then (
        pj_c (Md_isHeld v1 z11) fun r15 z14 =>
        if r15 = (0) then (
          some ((nI 0), z14)
        ) else (
          some ((nI 1), z14)
        )
      ) else (
      if v2 = (nI 4) then (
        pj_c (Md_placeOf v1 z11) fun r18 z17 =>
        some (r18, z17)
      ) else (
      if v2 = (nI 5) then (
        pj_c (Md_isLoose v1 z11) fun r21 z20 =>
        if r21 = (0) then (
          some ((nI 0), z20)
        ) else (
          pj_c (Md_oddsOf v1 z20) fun r24 z23 =>
          some (r24, z23)
        )
      ) else (
      if v2 = (nI 6) then (
        pj_g (pj_in ((nI 1490) + v1) 1554) <|
        some ((z11.1 1 (Int32.toNatClampNeg ((nI 1490) + v1))), z11)
      ) else (
        pj_c (Md_isLoose v1 z11) fun r27 z26 =>
        if r27 = (0) then (
          some ((nI 0), z26)
        ) else (
          pj_c (Md_oddsOf v1 z26) fun r30 z29 =>
          some (r30, z29)
        )
      )))))))
    )
  )
def Md_at (v1 : Int32) (v2 : Int32) (z : pj_S) : Option (Int32 × pj_S) :=
  pj_c (Md_isPlace v1 z) fun r3 z2 =>
  if r3 = (0) then (
    some ((-1 : Int32), z2)
  ) else (
    pj_c (Md_isInM v2 (nI 0) (nI 3) z2) fun r6 z5 =>
    if r6 = (0) then (
      some ((-1 : Int32), z5)
    ) else (
      if v2 = (0) then (
        pj_c (Md_stitchAt v1 z5) fun r12 z11 =>
        some (r12, z11)
      ) else (
        if v2 = (nI 1) then (
          pj_g (pj_in ((nI 202) + v1) 1554) <|
          some ((z5.1 1 (Int32.toNatClampNeg ((nI 202) + v1))), z5)
        ) else (
          pj_c (Md_isEnd v1 (v2 - (nI 2)) z5) fun r9 z8 =>
          if r9 = (0) then (
            some ((nI 0), z8)
          ) else (
            some ((nI 1), z8)
          )
        )
      )
    )
  )
def Md_wound (v1 : Int32) (z : pj_S) : Option (Int32 × pj_S) :=
  pj_g (pj_in (nI 3) 1554) <|
  pj_c (Md_isInM v1 (nI 0) ((z.1 1 (Int32.toNatClampNeg (nI 3))) - (nI 1)) z) fun r3 z2 =>
  if r3 = (0) then (
    some ((-1 : Int32), z2)
  ) else (
    pj_g (pj_in ((nI 270) + v1) 1554) <|
    some ((z2.1 1 (Int32.toNatClampNeg ((nI 270) + v1))), z2)
  )
def Md_book (v1 : Int32) (v2 : Int32) (z : pj_S) : Option (Int32 × pj_S) :=
  pj_g (pj_in (nI 4) 1554) <|
  pj_c (Md_isInM v1 (nI 0) ((z.1 1 (Int32.toNatClampNeg (nI 4))) - (nI 1)) z) fun r3 z2 =>
  if r3 = (0) then (
    some ((-1 : Int32), z2)
  ) else (
    pj_c (Md_isInM v2 (nI 0) (nI 2) z2) fun r6 z5 =>
    if r6 = (0) then (
      some ((-1 : Int32), z5)
    ) else (
      pj_g (pj_in (((nI 300) + ((nI 3) * v1)) + v2) 1554) <|
      some ((z5.1 1 (Int32.toNatClampNeg (((nI 300) + ((nI 3) * v1)) + v2))), z5)
    )
  )
def Md_isQueued_2 (s2 : Int32 → Int32 → Int32 → pj_S → Option (Int32 × pj_S)) (v1 : Int32) (v2 : Int32) (v3 : Int32) (z : pj_S) : Option (Int32 × pj_S) :=
  if v2 ≤ v3 then (
    pj_g (pj_bo (nI 0)) (some ((nI 0), z))
  ) else (
    pj_g (pj_in v3 64) <|
    if (z.1 12 (Int32.toNatClampNeg v3)) = v1 then (
      pj_g (pj_bo (nI 1)) (some ((nI 1), z))
    ) else (
      pj_b (v3 + (nI 1)) fun x1 =>
      s2 v1 v2 x1 z
    )
  )
def Md_isQueued (v1 : Int32) (v2 : Int32) (z : pj_S) : Option (Int32 × pj_S) :=
  pj_lp3 Md_isQueued_2 4000 v1 v2 (nI 0) z
def Md_allRun_145 (s39 : Int32 → Int32 → pj_S → Option (Int32 × pj_S)) (v1 : Int32) (v2 : Int32) (z : pj_S) : Option (Int32 × pj_S) :=
  s39 v1 v2 z
def Md_allRun_109 (s39 : Int32 → Int32 → pj_S → Option (Int32 × pj_S)) (v1 : Int32) (v2 : Int32) (v5 : Int32) (z : pj_S) : Option (Int32 × pj_S) :=
  if v5 = (-1 : Int32) then (
    Md_allRun_145 s39 v1 v2 z
  ) else (
    pj_c (Md_isLoose v5 z) fun r3 z2 =>
    if r3 = (0) then (
      Md_allRun_145 s39 v1 v2 z2
    ) else (
      pj_c (Md_isQueued v5 v1 z2) fun r6 z5 =>
      if r6 = (0) then (
        pj_g (pj_in v1 64) <|
        pj_b (pj_sI z5 12 (Int32.toNatClampNeg v1) v5) fun z7 =>
        pj_b (v1 + (nI 1)) fun x8 =>
        Md_allRun_145 s39 x8 v2 z7
      ) else (
        Md_allRun_145 s39 v1 v2 z5
      )
    )
  )
def Md_allRun_39 (s39 : Int32 → Int32 → pj_S → Option (Int32 × pj_S)) (v1 : Int32) (v2 : Int32) (z : pj_S) : Option (Int32 × pj_S) :=
  if v1 ≤ v2 then (
    some (v1, z)
  ) else (
    pj_g (pj_in v2 64) <|
    pj_b (z.1 12 (Int32.toNatClampNeg v2)) fun x1 =>
    pj_b (v2 + (nI 1)) fun x2 =>
    pj_c (Md_goes x1 z) fun _ z4 =>
    pj_c (Md_drawnOne x1 z4) fun r8 z7 =>
    pj_c (Md_drawnOther x1 z7) fun r11 z10 =>
    if r8 = (-1 : Int32) then (
      Md_allRun_109 s39 v1 x2 r11 z10
    ) else (
      pj_c (Md_isLoose r8 z10) fun r14 z13 =>
      if r14 = (0) then (
        Md_allRun_109 s39 v1 x2 r11 z13
      ) else (
        pj_c (Md_isQueued r8 v1 z13) fun r17 z16 =>
        if r17 = (0) then (
          pj_g (pj_in v1 64) <|
          pj_b (pj_sI z16 12 (Int32.toNatClampNeg v1) r8) fun z18 =>
          pj_b (v1 + (nI 1)) fun x19 =>
          Md_allRun_109 s39 x19 x2 r11 z18
        ) else (
          Md_allRun_109 s39 v1 x2 r11 z16
        )
      )
    )
  )
def Md_allRun_37  (v1 : Int32) (z : pj_S) : Option (Int32 × pj_S) :=
  pj_lp2 Md_allRun_39 4000 v1 (nI 0) z
def Md_allRun_31 (s4 : Int32 → Int32 → pj_S → Option (Int32 × pj_S)) (v1 : Int32) (v2 : Int32) (z : pj_S) : Option (Int32 × pj_S) :=
  pj_b (v2 + (nI 1)) fun x1 =>
  s4 v1 x1 z
def Md_allRun_4 (s4 : Int32 → Int32 → pj_S → Option (Int32 × pj_S)) (v1 : Int32) (v2 : Int32) (z : pj_S) : Option (Int32 × pj_S) :=
  if (nI 64) ≤ v2 then (
    Md_allRun_37 v1 z
  ) else (
    pj_c (Md_isLoose v2 z) fun r3 z2 =>
    if r3 = (0) then (
      Md_allRun_31 s4 v1 v2 z2
    ) else (
      pj_g (pj_in v1 64) <|
      pj_b (pj_sI z2 12 (Int32.toNatClampNeg v1) v2) fun z4 =>
      pj_b (v1 + (nI 1)) fun x5 =>
      Md_allRun_31 s4 x5 v2 z4
    )
  )
def Md_allRun  (z : pj_S) : Option (Int32 × pj_S) :=
  pj_lp2 Md_allRun_4 4000 (nI 0) (nI 0) z
def Md_runs_101 (s61 : Int32 → Int32 → Int32 → pj_S → Option (Int32 × pj_S)) (v3 : Int32) (v5 : Int32) (t0 : Int32) (z : pj_S) : Option (Int32 × pj_S) :=
  pj_b (v5 + (nI 1)) fun x1 =>
  s61 v3 t0 x1 z
def Md_runs_109  (v4 : Int32) (z : pj_S) : Option (Int32 × pj_S) :=
  some (v4, z)
def Md_runs_61 (s61 : Int32 → Int32 → Int32 → pj_S → Option (Int32 × pj_S)) (v3 : Int32) (v4 : Int32) (v5 : Int32) (z : pj_S) : Option (Int32 × pj_S) :=
  if v3 ≤ v5 then (
    Md_runs_109 v4 z
  ) else (
    if v4 = (-1 : Int32) then (
      pj_g (pj_in v5 64) <|
      pj_g (pj_nz (nI 8)) <|
      Md_runs_101 s61 v3 v5 ((z.1 12 (Int32.toNatClampNeg v5)) / (nI 8)) z
    ) else (
      pj_g (pj_in v5 64) <|
      pj_g (pj_nz (nI 8)) <|
      pj_c (Md_leastM v4 ((z.1 12 (Int32.toNatClampNeg v5)) / (nI 8)) z) fun r3 z2 =>
      Md_runs_101 s61 v3 v5 r3 z2
    )
  )
def Md_runs (v1 : Int32) (v2 : Int32) (z : pj_S) : Option (Int32 × pj_S) :=
  pj_c (Md_isStitch v1 z) fun r3 z2 =>
  if r3 = (0) then (
    some ((-1 : Int32), z2)
  ) else (
    pj_g (pj_in ((nI 74) + v1) 1554) <|
    if (z2.1 1 (Int32.toNatClampNeg ((nI 74) + v1))) = (0) then (
      some ((-1 : Int32), z2)
    ) else (
      pj_c (Md_isInM v2 (nI 0) (nI 1) z2) fun r6 z5 =>
      if r6 = (0) then (
        some ((-1 : Int32), z5)
      ) else (
        pj_c (Md_laysNow z5) fun _ z8 =>
        pj_c (Md_laysHolders z8) fun _ z11 =>
        pj_c (Md_goes v1 z11) fun _ z14 =>
        pj_c (Md_allRun z14) fun r18 z17 =>
        if v2 = (0) then (
          some (r18, z17)
        ) else (
          pj_lp3 Md_runs_61 4000 r18 (-1 : Int32) (nI 0) z17
        )
      )
    )
  )
def Md_canCatch (v1 : Int32) (z : pj_S) : Option (Int32 × pj_S) :=
  pj_g (pj_in ((nI 74) + v1) 1554) <|
  if (z.1 1 (Int32.toNatClampNeg ((nI 74) + v1))) = (nI 1) then (
    pj_g (pj_in ((nI 138) + v1) 1554) <|
    if (z.1 1 (Int32.toNatClampNeg ((nI 138) + v1))) = (0) then (
      pj_g (pj_bo (nI 1)) (some ((nI 1), z))
    ) else (
      pj_g (pj_bo (nI 0)) (some ((nI 0), z))
    )
  ) else (
    pj_g (pj_bo (nI 0)) (some ((nI 0), z))
  )
def Md_saves_74 (sR : Int32 → Int32 → Int32 → pj_S → Option (Unit × pj_S)) (s74 : Int32 → Int32 → pj_S → Option (Unit × pj_S)) (v2 : Int32) (v5 : Int32) (z : pj_S) : Option (Unit × pj_S) :=
  if v2 ≤ v5 then (
    some ((), z)
  ) else (
    pj_g (pj_in v5 3) <|
    pj_g (pj_in v5 3) <|
    pj_b (pj_sI z 15 (Int32.toNatClampNeg v5) (z.1 14 (Int32.toNatClampNeg v5))) fun z1 =>
    pj_b (v5 + (nI 1)) fun x2 =>
    s74 v2 x2 z1
  )
def Md_saves_65 (sR : Int32 → Int32 → Int32 → pj_S → Option (Unit × pj_S))  (v2 : Int32) (v4 : Int32) (z : pj_S) : Option (Unit × pj_S) :=
  pj_b (pj_sI z 0 32 v4) fun z1 =>
  pj_lp2 (Md_saves_74 sR) 4000 v2 (nI 0) z1
def Md_saves_37 (sR : Int32 → Int32 → Int32 → pj_S → Option (Unit × pj_S))  (v2 : Int32) (z : pj_S) : Option (Unit × pj_S) :=
  pj_c (Md_laysHolders z) fun _ z2 =>
  pj_c (Md_allRun z2) fun r6 z5 =>
  if (z5.1 0 32) = (-1 : Int32) then (
    Md_saves_65 sR v2 r6 z5
  ) else (
    if r6 < (z5.1 0 32) then (
      Md_saves_65 sR v2 r6 z5
    ) else (
      some ((), z5)
    )
  )
def Md_saves_12 (sR : Int32 → Int32 → Int32 → pj_S → Option (Unit × pj_S)) (s12 : Int32 → Int32 → pj_S → Option (Unit × pj_S)) (v2 : Int32) (v4 : Int32) (z : pj_S) : Option (Unit × pj_S) :=
  if v2 ≤ v4 then (
    Md_saves_37 sR v2 z
  ) else (
    pj_g (pj_in v4 3) <|
    pj_g (pj_in (z.1 14 (Int32.toNatClampNeg v4)) 64) <|
    pj_b (pj_sI z 10 (Int32.toNatClampNeg (z.1 14 (Int32.toNatClampNeg v4))) (nI 1)) fun z1 =>
    pj_b (v4 + (nI 1)) fun x2 =>
    s12 v2 x2 z1
  )
def Md_saves_143 (sR : Int32 → Int32 → Int32 → pj_S → Option (Unit × pj_S)) (s104 : Int32 → Int32 → Int32 → pj_S → Option (Unit × pj_S)) (v1 : Int32) (v2 : Int32) (v4 : Int32) (z : pj_S) : Option (Unit × pj_S) :=
  pj_b (v4 + (nI 1)) fun x1 =>
  s104 v1 v2 x1 z
def Md_saves_104 (sR : Int32 → Int32 → Int32 → pj_S → Option (Unit × pj_S)) (s104 : Int32 → Int32 → Int32 → pj_S → Option (Unit × pj_S)) (v1 : Int32) (v2 : Int32) (v4 : Int32) (z : pj_S) : Option (Unit × pj_S) :=
  if (nI 64) ≤ v4 then (
    some ((), z)
  ) else (
    pj_c (Md_canCatch v4 z) fun r3 z2 =>
    if r3 = (0) then (
      Md_saves_143 sR s104 v1 v2 v4 z2
    ) else (
      pj_g (pj_in v1 3) <|
      pj_b (pj_sI z2 14 (Int32.toNatClampNeg v1) v4) fun z4 =>
      pj_c (sR (v1 + (nI 1)) v2 (v4 + (nI 1)) z4) fun _ z6 =>
      Md_saves_143 sR s104 v1 v2 v4 z6
    )
  )
def Md_saves_B (sR : Int32 → Int32 → Int32 → pj_S → Option (Unit × pj_S)) (v1 : Int32) (v2 : Int32) (v3 : Int32) (z : pj_S) : Option (Unit × pj_S) :=
  if v1 = v2 then (
    pj_c (Md_laysNow z) fun _ z2 =>
    pj_lp2 (Md_saves_12 sR) 4000 v2 (nI 0) z2
  ) else (
    pj_lp3 (Md_saves_104 sR) 4000 v1 v2 v3 z
  )
def Md_saves_o (v1 : Int32) (v2 : Int32) (v3 : Int32) (z : pj_S) : Option (Unit × pj_S) := pj_lp3 Md_saves_B 6 v1 v2 v3 z
def Md_save_72 (s50 : Int32 → Int32 → Int32 → Int32 → pj_S → Option (Int32 × pj_S)) (v1 : Int32) (v2 : Int32) (v4 : Int32) (t0 : Int32) (t1 : Int32) (z : pj_S) : Option (Int32 × pj_S) :=
  pj_b (t1 + t0) fun x1 =>
  pj_b (v4 + (nI 1)) fun x2 =>
  s50 v1 v2 x1 x2 z
def Md_save_80  (v1 : Int32) (v2 : Int32) (v3 : Int32) (z : pj_S) : Option (Int32 × pj_S) :=
  pj_c (Md_leastM v1 v3 z) fun r3 z2 =>
  pj_c (Md_saves_o (nI 0) r3 (nI 0) z2) fun _ z5 =>
  if v2 = (0) then (
    some ((z5.1 0 32), z5)
  ) else (
    pj_g (pj_in (v2 - (nI 1)) 3) <|
    some ((z5.1 15 (Int32.toNatClampNeg (v2 - (nI 1)))), z5)
  )
def Md_save_50 (s50 : Int32 → Int32 → Int32 → Int32 → pj_S → Option (Int32 × pj_S)) (v1 : Int32) (v2 : Int32) (v3 : Int32) (v4 : Int32) (z : pj_S) : Option (Int32 × pj_S) :=
  if (nI 64) ≤ v4 then (
    Md_save_80 v1 v2 v3 z
  ) else (
    pj_c (Md_canCatch v4 z) fun r3 z2 =>
    if r3 = (0) then (
      Md_save_72 s50 v1 v2 v4 (nI 0) v3 z2
    ) else (
      Md_save_72 s50 v1 v2 v4 (nI 1) v3 z2
    )
  )
def Md_save_40  (v1 : Int32) (v2 : Int32) (z : pj_S) : Option (Int32 × pj_S) :=
  pj_b (pj_sI z 0 32 (-1 : Int32)) fun z1 =>
  pj_lp4 Md_save_50 4000 v1 v2 (nI 0) (nI 0) z1
def Md_save_22 (s22 : Int32 → Int32 → Int32 → pj_S → Option (Int32 × pj_S)) (v1 : Int32) (v2 : Int32) (v3 : Int32) (z : pj_S) : Option (Int32 × pj_S) :=
  if (nI 3) ≤ v3 then (
    Md_save_40 v1 v2 z
  ) else (
    pj_g (pj_in v3 3) <|
    pj_b (pj_sI z 15 (Int32.toNatClampNeg v3) (-1 : Int32)) fun z1 =>
    pj_b (v3 + (nI 1)) fun x2 =>
    s22 v1 v2 x2 z1
  )
def Md_save (v1 : Int32) (v2 : Int32) (z : pj_S) : Option (Int32 × pj_S) :=
  pj_c (Md_isInM v1 (nI 0) (nI 3) z) fun r3 z2 =>
  if r3 = (0) then (
    some ((-1 : Int32), z2)
  ) else (
    pj_c (Md_isInM v2 (nI 0) (nI 3) z2) fun r6 z5 =>
    if r6 = (0) then (
      some ((-1 : Int32), z5)
    ) else (
      pj_lp3 Md_save_22 4000 v1 v2 (nI 0) z5
    )
  )
def Md_comes (v1 : Int32) (v2 : Int32) (v3 : Int32) (z : pj_S) : Option (Int32 × pj_S) :=
  pj_c (Md_isEnd v1 v2 z) fun r3 z2 =>
  if r3 = (0) then (
    some ((-1 : Int32), z2)
  ) else (
    pj_c (Md_isInM v3 (nI 0) (nI 1) z2) fun r6 z5 =>
    if r6 = (0) then (
      some ((-1 : Int32), z5)
    ) else (
      pj_c (Md_laysNow z5) fun _ z8 =>
      pj_c (Md_laysHolders z8) fun _ z11 =>
      pj_c (Md_pulls v1 v2 (nI 65) (nI 0) z11) fun _ z14 =>
      if v3 = (0) then (
        some ((z14.1 0 26), z14)
      ) else (
        some ((z14.1 0 28), z14)
      )
    )
  )
def Md_hereMany_4 (s4 : Int32 → Int32 → pj_S → Option (Int32 × pj_S)) (v1 : Int32) (v2 : Int32) (z : pj_S) : Option (Int32 × pj_S) :=
  if (nI 64) ≤ v2 then (
    some (v1, z)
  ) else (
    pj_g (pj_in ((nI 74) + v2) 1554) <|
    pj_b (v1 + (z.1 1 (Int32.toNatClampNeg ((nI 74) + v2)))) fun x1 =>
    pj_b (v2 + (nI 1)) fun x2 =>
    s4 x1 x2 z
  )
def Md_hereMany  (z : pj_S) : Option (Int32 × pj_S) :=
  pj_lp2 Md_hereMany_4 4000 (nI 0) (nI 0) z
def Md_all_60  (v1 : Int32) (v3 : Int32) (v4 : Int32) (z : pj_S) : Option (Int32 × pj_S) :=
  if v1 = (0) then (
    some (v3, z)
  ) else (
    some (v4, z)
  )
def Md_all_77 (s22 : Int32 → Int32 → Int32 → pj_S → Option (Int32 × pj_S)) (v1 : Int32) (v2 : Int32) (v3 : Int32) (z : pj_S) : Option (Int32 × pj_S) :=
  pj_b (v3 + (nI 1)) fun x1 =>
  s22 v1 v2 x1 z
def Md_all_42 (s22 : Int32 → Int32 → Int32 → pj_S → Option (Int32 × pj_S)) (s42 : Int32 → Int32 → Int32 → Int32 → pj_S → Option (Int32 × pj_S)) (v1 : Int32) (v2 : Int32) (v3 : Int32) (v4 : Int32) (z : pj_S) : Option (Int32 × pj_S) :=
  if (nI 2) ≤ v4 then (
    Md_all_77 s22 v1 v2 v3 z
  ) else (
    pj_c (Md_comes v3 v4 (nI 0) z) fun r3 z2 =>
    if r3 = v2 then (
      Md_all_60 v1 v3 v4 z2
    ) else (
      pj_b (v4 + (nI 1)) fun x4 =>
      s42 v1 v2 v3 x4 z2
    )
  )
def Md_all_22 (s22 : Int32 → Int32 → Int32 → pj_S → Option (Int32 × pj_S)) (v1 : Int32) (v2 : Int32) (v3 : Int32) (z : pj_S) : Option (Int32 × pj_S) :=
  pj_g (pj_in (nI 0) 1554) <|
  pj_g (pj_in (nI 1) 1554) <|
  if ((z.1 1 (Int32.toNatClampNeg (nI 0))) * (z.1 1 (Int32.toNatClampNeg (nI 1)))) ≤ v3 then (
    some ((-1 : Int32), z)
  ) else (
    pj_lp4 (Md_all_42 s22) 4000 v1 v2 v3 (nI 0) z
  )
def Md_all (v1 : Int32) (z : pj_S) : Option (Int32 × pj_S) :=
  pj_c (Md_hereMany z) fun r3 z2 =>
  pj_c (Md_isInM v1 (nI 0) (nI 1) z2) fun r6 z5 =>
  if r6 = (0) then (
    some ((-1 : Int32), z5)
  ) else (
    if r3 = (0) then (
      some ((-1 : Int32), z5)
    ) else (
      pj_lp3 Md_all_22 4000 v1 r3 (nI 0) z5
    )
  )
def Md_isInsideM (v0 : Int32) (v1 : Int32) (v2 : Int32) (v3 : Int32) (v4 : Int32) (z : pj_S) : Option (Int32 × pj_S) :=
  pj_g (pj_nz (nI 8)) <|
  pj_c (Md_isInM (pj_rem v0 (nI 8)) v1 v2 z) fun r3 z2 =>
  if r3 = (0) then (
    pj_g (pj_bo (nI 0)) (some ((nI 0), z2))
  ) else (
    pj_g (pj_nz (nI 8)) <|
    pj_c (Md_isInM (v0 / (nI 8)) v3 v4 z2) fun r6 z5 =>
    if r6 = (0) then (
      pj_g (pj_bo (nI 0)) (some ((nI 0), z5))
    ) else (
      pj_g (pj_bo (nI 1)) (some ((nI 1), z5))
    )
  )
def Md_part_172 (s60 : Int32 → Int32 → Int32 → Int32 → Int32 → Int32 → pj_S → Option (Int32 × pj_S)) (v1 : Int32) (v2 : Int32) (v3 : Int32) (v4 : Int32) (v6 : Int32) (t0 : Int32) (t1 : Int32) (z : pj_S) : Option (Int32 × pj_S) :=
  pj_b (t1 + t0) fun x1 =>
  pj_b (v6 + (nI 1)) fun x2 =>
  s60 v1 v2 v3 v4 x1 x2 z
def Md_part_171 (s60 : Int32 → Int32 → Int32 → Int32 → Int32 → Int32 → pj_S → Option (Int32 × pj_S)) (v1 : Int32) (v2 : Int32) (v3 : Int32) (v4 : Int32) (v6 : Int32) (t0 : Int32) (z : pj_S) : Option (Int32 × pj_S) :=
  Md_part_172 s60 v1 v2 v3 v4 v6 (nI 0) t0 z
def Md_part_181  (v5 : Int32) (z : pj_S) : Option (Int32 × pj_S) :=
  some (v5, z)
def Md_part_60 (s60 : Int32 → Int32 → Int32 → Int32 → Int32 → Int32 → pj_S → Option (Int32 × pj_S)) (v1 : Int32) (v2 : Int32) (v3 : Int32) (v4 : Int32) (v5 : Int32) (v6 : Int32) (z : pj_S) : Option (Int32 × pj_S) :=
  pj_g (pj_in (nI 0) 1554) <|
  pj_g (pj_in (nI 1) 1554) <|
  if ((z.1 1 (Int32.toNatClampNeg (nI 0))) * (z.1 1 (Int32.toNatClampNeg (nI 1)))) ≤ (v6 + (nI 1)) then (
    Md_part_181 v5 z
  ) else (
    pj_g (pj_in ((nI 202) + v6) 1554) <|
    if (z.1 1 (Int32.toNatClampNeg ((nI 202) + v6))) = (0) then (
      pj_c (Md_stitchAt v6 z) fun r3 z2 =>
      pj_g (pj_in ((nI 1490) + r3) 1554) <|
      if (z2.1 1 (Int32.toNatClampNeg ((nI 1490) + r3))) = (0) then (
        pj_c (Md_stitchAt (v6 + (nI 1)) z2) fun r6 z5 =>
        pj_g (pj_in ((nI 1490) + r6) 1554) <|
        if (z5.1 1 (Int32.toNatClampNeg ((nI 1490) + r6))) = (0) then (
          pj_c (Md_stitchAt v6 z5) fun r9 z8 =>
          pj_c (Md_isInsideM r9 v1 v2 v3 v4 z8) fun r12 z11 =>
          pj_c (Md_stitchAt (v6 + (nI 1)) z11) fun r15 z14 =>
          pj_c (Md_isInsideM r15 v1 v2 v3 v4 z14) fun r18 z17 =>
          if r12 = r18 then (
            Md_part_171 s60 v1 v2 v3 v4 v6 v5 z17
          ) else (
            Md_part_172 s60 v1 v2 v3 v4 v6 (nI 1) v5 z17
          )
        ) else (
          Md_part_171 s60 v1 v2 v3 v4 v6 v5 z5
        )
      ) else (
        Md_part_171 s60 v1 v2 v3 v4 v6 v5 z2
      )
    ) else (
      Md_part_171 s60 v1 v2 v3 v4 v6 v5 z
    )
  )
def Md_part (v1 : Int32) (v2 : Int32) (v3 : Int32) (v4 : Int32) (z : pj_S) : Option (Int32 × pj_S) :=
  pj_c (Md_isInM v1 (nI 0) v2 z) fun r3 z2 =>
  if r3 = (0) then (
    some ((-1 : Int32), z2)
  ) else (
    pj_g (pj_in (nI 0) 1554) <|
    pj_c (Md_isInM v2 (nI 0) ((z2.1 1 (Int32.toNatClampNeg (nI 0))) - (nI 1)) z2) fun r6 z5 =>
    if r6 = (0) then (
      some ((-1 : Int32), z5)
    ) else (
      pj_c (Md_isInM v3 (nI 0) v4 z5) fun r9 z8 =>
      if r9 = (0) then (
        some ((-1 : Int32), z8)
      ) else (
        pj_g (pj_in (nI 1) 1554) <|
        pj_c (Md_isInM v4 (nI 0) ((z8.1 1 (Int32.toNatClampNeg (nI 1))) - (nI 1)) z8) fun r12 z11 =>
        if r12 = (0) then (
          some ((-1 : Int32), z11)
        ) else (
          pj_lp6 Md_part_60 4000 v1 v2 v3 v4 (nI 0) (nI 0) z11
        )
      )
    )
  )
def Md_join_97 (s14 : Int32 → Int32 → Int32 → Int32 → pj_S → Option (Int32 × pj_S)) (v1 : Int32) (v2 : Int32) (v3 : Int32) (v4 : Int32) (v5 : Int32) (z : pj_S) : Option (Int32 × pj_S) :=
  pj_b (v2 ||| ((nI 1) <<< (v5 &&& 31))) fun x1 =>
  pj_g (pj_in ((nI 270) + v5) 1554) <|
  pj_b (v3 + (z.1 1 (Int32.toNatClampNeg ((nI 270) + v5)))) fun x2 =>
  pj_b (v4 + (nI 1)) fun x3 =>
  s14 v1 x1 x2 x3 z
def Md_join_91 (s14 : Int32 → Int32 → Int32 → Int32 → pj_S → Option (Int32 × pj_S)) (s36 : Int32 → Int32 → Int32 → Int32 → Int32 → Int32 → pj_S → Option (Int32 × pj_S)) (v1 : Int32) (v2 : Int32) (v3 : Int32) (v4 : Int32) (v5 : Int32) (v6 : Int32) (z : pj_S) : Option (Int32 × pj_S) :=
  pj_b (v6 + (nI 1)) fun x1 =>
  s36 v1 v2 v3 v4 v5 x1 z
def Md_join_87 (s14 : Int32 → Int32 → Int32 → Int32 → pj_S → Option (Int32 × pj_S)) (s36 : Int32 → Int32 → Int32 → Int32 → Int32 → Int32 → pj_S → Option (Int32 × pj_S)) (v1 : Int32) (v2 : Int32) (v3 : Int32) (v4 : Int32) (v6 : Int32) (z : pj_S) : Option (Int32 × pj_S) :=
  Md_join_91 s14 s36 v1 v2 v3 v4 v6 v6 z
def Md_join_36 (s14 : Int32 → Int32 → Int32 → Int32 → pj_S → Option (Int32 × pj_S)) (s36 : Int32 → Int32 → Int32 → Int32 → Int32 → Int32 → pj_S → Option (Int32 × pj_S)) (v1 : Int32) (v2 : Int32) (v3 : Int32) (v4 : Int32) (v5 : Int32) (v6 : Int32) (z : pj_S) : Option (Int32 × pj_S) :=
  pj_g (pj_in (nI 3) 1554) <|
  if (z.1 1 (Int32.toNatClampNeg (nI 3))) ≤ v6 then (
    Md_join_97 s14 v1 v2 v3 v4 v5 z
  ) else (
    if ((v2 >>> (v6 &&& 31)) &&& (nI 1)) = (0) then (
      if v5 = (-1 : Int32) then (
        Md_join_87 s14 s36 v1 v2 v3 v4 v6 z
      ) else (
        pj_g (pj_in ((nI 270) + v6) 1554) <|
        pj_g (pj_in ((nI 270) + v5) 1554) <|
        if (z.1 1 (Int32.toNatClampNeg ((nI 270) + v6))) ≤ (z.1 1 (Int32.toNatClampNeg ((nI 270) + v5))) then (
          Md_join_91 s14 s36 v1 v2 v3 v4 v5 v6 z
        ) else (
          Md_join_87 s14 s36 v1 v2 v3 v4 v6 z
        )
      )
    ) else (
      Md_join_91 s14 s36 v1 v2 v3 v4 v5 v6 z
    )
  )
def Md_join_124  (v1 : Int32) (v3 : Int32) (v4 : Int32) (z : pj_S) : Option (Int32 × pj_S) :=
  if v3 < v1 then (
    some ((-1 : Int32), z)
  ) else (
    some (v4, z)
  )
def Md_join_14 (s14 : Int32 → Int32 → Int32 → Int32 → pj_S → Option (Int32 × pj_S)) (v1 : Int32) (v2 : Int32) (v3 : Int32) (v4 : Int32) (z : pj_S) : Option (Int32 × pj_S) :=
  if v1 ≤ v3 then (
    Md_join_124 v1 v3 v4 z
  ) else (
    pj_g (pj_in (nI 3) 1554) <|
    if (z.1 1 (Int32.toNatClampNeg (nI 3))) ≤ v4 then (
      Md_join_124 v1 v3 v4 z
    ) else (
      pj_lp6 (Md_join_36 s14) 4000 v1 v2 v3 v4 (-1 : Int32) (nI 0) z
    )
  )
def Md_join (v1 : Int32) (z : pj_S) : Option (Int32 × pj_S) :=
  if (nI 1) ≤ v1 then (
    pj_lp4 Md_join_14 4000 v1 (nI 0) (nI 0) (nI 0) z
  ) else (
    some ((-1 : Int32), z)
  )
def Md_quiet_44 (s14 : Int32 → Int32 → pj_S → Option (Int32 × pj_S)) (v1 : Int32) (v2 : Int32) (z : pj_S) : Option (Int32 × pj_S) :=
  pj_b (v2 + (nI 1)) fun x1 =>
  s14 v1 x1 z
def Md_quiet_14 (s14 : Int32 → Int32 → pj_S → Option (Int32 × pj_S)) (v1 : Int32) (v2 : Int32) (z : pj_S) : Option (Int32 × pj_S) :=
  if (nI 64) ≤ v2 then (
    some (v1, z)
  ) else (
    pj_c (Md_isLoose v2 z) fun r3 z2 =>
    if r3 = (0) then (
      Md_quiet_44 s14 v1 v2 z2
    ) else (
      pj_c (Md_oddsOf v2 z2) fun r6 z5 =>
      pj_g (pj_nz (nI 1000)) <|
      pj_b ((v1 * ((nI 1000) - r6)) / (nI 1000)) fun x7 =>
      Md_quiet_44 s14 x7 v2 z5
    )
  )
def Md_quiet  (z : pj_S) : Option (Int32 × pj_S) :=
  pj_c (Md_laysNow z) fun _ z2 =>
  pj_c (Md_laysHolders z2) fun _ z5 =>
  pj_lp2 Md_quiet_14 4000 (nI 1000000) (nI 0) z5
def Md_isSoBy_53 (s53 : Int32 → pj_S → Option (Int32 × pj_S)) (v2 : Int32) (z : pj_S) : Option (Int32 × pj_S) :=
  if (nI 64) ≤ v2 then (
    pj_g (pj_bo (nI 1)) (some ((nI 1), z))
  ) else (
    pj_g (pj_in v2 64) <|
    pj_g (pj_in ((nI 74) + v2) 1554) <|
    if (z.1 9 (Int32.toNatClampNeg v2)) = (z.1 1 (Int32.toNatClampNeg ((nI 74) + v2))) then (
      pj_b (v2 + (nI 1)) fun x1 =>
      s53 x1 z
    ) else (
      pj_g (pj_bo (nI 0)) (some ((nI 0), z))
    )
  )
def Md_isSoBy_37  (v1 : Int32) (z : pj_S) : Option (Int32 × pj_S) :=
  pj_c (Md_laysHolders z) fun _ z2 =>
  pj_c (Md_goes v1 z2) fun _ z5 =>
  pj_c (Md_allRun z5) fun r9 z8 =>
  pj_lp1 Md_isSoBy_53 4000 (nI 0) z8
def Md_isSoBy_30 (s6 : Int32 → Int32 → pj_S → Option (Int32 × pj_S)) (v1 : Int32) (v2 : Int32) (t0 : Int32) (t1 : Int32) (z : pj_S) : Option (Int32 × pj_S) :=
  pj_g (pj_in t1 64) <|
  pj_b (pj_sI z 9 (Int32.toNatClampNeg t1) t0) fun z1 =>
  pj_b (v2 + (nI 1)) fun x2 =>
  s6 v1 x2 z1
def Md_isSoBy_6 (s6 : Int32 → Int32 → pj_S → Option (Int32 × pj_S)) (v1 : Int32) (v2 : Int32) (z : pj_S) : Option (Int32 × pj_S) :=
  if (nI 64) ≤ v2 then (
    Md_isSoBy_37 v1 z
  ) else (
    pj_c (Md_isStitch v2 z) fun r3 z2 =>
    if r3 = (0) then (
      Md_isSoBy_30 s6 v1 v2 (nI 0) v2 z2
    ) else (
      Md_isSoBy_30 s6 v1 v2 (nI 1) v2 z2
    )
  )
def Md_isSoBy (v1 : Int32) (z : pj_S) : Option (Int32 × pj_S) :=
  pj_c (Md_laysNow z) fun _ z2 =>
  pj_lp2 Md_isSoBy_6 4000 v1 (nI 0) z2
def Md_first_60 (s18 : Int32 → Int32 → Int32 → Int32 → pj_S → Option (Int32 × pj_S)) (v1 : Int32) (v2 : Int32) (v3 : Int32) (v4 : Int32) (z : pj_S) : Option (Int32 × pj_S) :=
  pj_b (v4 + (nI 1)) fun x1 =>
  s18 v1 v2 v3 x1 z
def Md_first_56 (s18 : Int32 → Int32 → Int32 → Int32 → pj_S → Option (Int32 × pj_S)) (v1 : Int32) (v2 : Int32) (v4 : Int32) (t0 : Int32) (z : pj_S) : Option (Int32 × pj_S) :=
  pj_b (v2 + (nI 1)) fun x1 =>
  Md_first_60 s18 v1 x1 t0 v4 z
def Md_first_66  (v1 : Int32) (v2 : Int32) (v3 : Int32) (z : pj_S) : Option (Int32 × pj_S) :=
  if v1 = (0) then (
    some (v2, z)
  ) else (
    some (v3, z)
  )
def Md_first_18 (s18 : Int32 → Int32 → Int32 → Int32 → pj_S → Option (Int32 × pj_S)) (v1 : Int32) (v2 : Int32) (v3 : Int32) (v4 : Int32) (z : pj_S) : Option (Int32 × pj_S) :=
  if (nI 64) ≤ v4 then (
    Md_first_66 v1 v2 v3 z
  ) else (
    pj_c (Md_isStitch v4 z) fun r3 z2 =>
    if r3 = (0) then (
      Md_first_60 s18 v1 v2 v3 v4 z2
    ) else (
      pj_c (Md_isSoBy v4 z2) fun r6 z5 =>
      if r6 = (0) then (
        Md_first_60 s18 v1 v2 v3 v4 z5
      ) else (
        if v2 = (0) then (
          Md_first_56 s18 v1 v2 v4 v4 z5
        ) else (
          Md_first_56 s18 v1 v2 v4 v3 z5
        )
      )
    )
  )
def Md_first (v1 : Int32) (z : pj_S) : Option (Int32 × pj_S) :=
  pj_c (Md_isInM v1 (nI 0) (nI 1) z) fun r3 z2 =>
  if r3 = (0) then (
    some ((-1 : Int32), z2)
  ) else (
    pj_lp4 Md_first_18 4000 v1 (nI 0) (-1 : Int32) (nI 0) z2
  )
def Md_undo_59 (s59 : Int32 → Int32 → pj_S → Option (Int32 × pj_S)) (v1 : Int32) (v2 : Int32) (z : pj_S) : Option (Int32 × pj_S) :=
  if (nI 64) ≤ v2 then (
    pj_g (pj_bo (nI 1)) (some ((nI 1), z))
  ) else (
    pj_g (pj_in ((v1 + (nI 4)) + v2) 1568) <|
    pj_g (pj_in ((nI 74) + v2) 1554) <|
    pj_b (pj_sI z 1 (Int32.toNatClampNeg ((nI 74) + v2)) (z.1 3 (Int32.toNatClampNeg ((v1 + (nI 4)) + v2)))) fun z1 =>
    pj_g (pj_in ((v1 + (nI 68)) + v2) 1568) <|
    pj_g (pj_in ((nI 202) + v2) 1554) <|
    pj_b (pj_sI z1 1 (Int32.toNatClampNeg ((nI 202) + v2)) (z1.1 3 (Int32.toNatClampNeg ((v1 + (nI 68)) + v2)))) fun z2 =>
    pj_g (pj_in ((v1 + (nI 132)) + v2) 1568) <|
    pj_g (pj_in ((nI 1490) + v2) 1554) <|
    pj_b (pj_sI z2 1 (Int32.toNatClampNeg ((nI 1490) + v2)) (z2.1 3 (Int32.toNatClampNeg ((v1 + (nI 132)) + v2)))) fun z3 =>
    pj_b (v2 + (nI 1)) fun x4 =>
    s59 v1 x4 z3
  )
def Md_undo_57  (v1 : Int32) (z : pj_S) : Option (Int32 × pj_S) :=
  pj_lp2 Md_undo_59 4000 v1 (nI 0) z
def Md_undo_30 (s30 : Int32 → Int32 → pj_S → Option (Int32 × pj_S)) (v1 : Int32) (v2 : Int32) (z : pj_S) : Option (Int32 × pj_S) :=
  if (nI 4) ≤ v2 then (
    Md_undo_57 v1 z
  ) else (
    pj_g (pj_in (v1 + v2) 1568) <|
    pj_g (pj_in ((nI 3) + v2) 1554) <|
    pj_b (pj_sI z 1 (Int32.toNatClampNeg ((nI 3) + v2)) (z.1 3 (Int32.toNatClampNeg (v1 + v2)))) fun z1 =>
    pj_b (v2 + (nI 1)) fun x2 =>
    s30 v1 x2 z1
  )
def Md_undo  (z : pj_S) : Option (Int32 × pj_S) :=
  if (z.1 0 3) = (0) then (
    pj_g (pj_bo (nI 0)) (some ((nI 0), z))
  ) else (
    pj_b (pj_sI z 0 3 ((z.1 0 3) - (nI 1))) fun z1 =>
    pj_b ((nI 196) * (z1.1 0 3)) fun x2 =>
    pj_lp2 Md_undo_30 4000 x2 (nI 0) z1
  )
def Md_image_53 (s15 : Int32 → Int32 → pj_S → Option (Int32 × pj_S)) (v1 : Int32) (v2 : Int32) (z : pj_S) : Option (Int32 × pj_S) :=
  pj_b (v2 + (nI 1)) fun x1 =>
  s15 v1 x1 z
def Md_image_68   (z : pj_S) : Option (Int32 × pj_S) :=
  pj_g (pj_bo (nI 1)) <|
  pj_b (pj_sI z 0 4 (nI 1)) fun z1 =>
  pj_g (pj_bo (nI 1)) (some ((nI 1), z1))
def Md_image_59  (v1 : Int32) (z : pj_S) : Option (Int32 × pj_S) :=
  if v1 = (0) then (
    pj_b (pj_sI z 0 3 (nI 0)) fun z1 =>
    Md_image_68 z1
  ) else (
    Md_image_68 z
  )
def Md_image_15 (s15 : Int32 → Int32 → pj_S → Option (Int32 × pj_S)) (v1 : Int32) (v2 : Int32) (z : pj_S) : Option (Int32 × pj_S) :=
  if (nI 1554) ≤ v2 then (
    Md_image_59 v1 z
  ) else (
    if v1 = (0) then (
      pj_g (pj_in v2 1554) <|
      pj_g (pj_in v2 1554) <|
      pj_b (pj_sI z 1 (Int32.toNatClampNeg v2) (z.1 2 (Int32.toNatClampNeg v2))) fun z1 =>
      Md_image_53 s15 v1 v2 z1
    ) else (
      pj_g (pj_in v2 1554) <|
      pj_g (pj_in v2 1554) <|
      pj_b (pj_sI z 2 (Int32.toNatClampNeg v2) (z.1 1 (Int32.toNatClampNeg v2))) fun z2 =>
      Md_image_53 s15 v1 v2 z2
    )
  )
def Md_image_13  (v1 : Int32) (z : pj_S) : Option (Int32 × pj_S) :=
  pj_lp2 Md_image_15 4000 v1 (nI 0) z
def Md_image (v1 : Int32) (z : pj_S) : Option (Int32 × pj_S) :=
  if v1 = (0) then (
    if (z.1 0 4) = (0) then (
      pj_g (pj_bo (nI 0)) (some ((nI 0), z))
    ) else (
      Md_image_13 v1 z
    )
  ) else (
    Md_image_13 v1 z
  )
def Md_cuts_4 (s4 : Int32 → Int32 → pj_S → Option (Int32 × pj_S)) (v1 : Int32) (v2 : Int32) (z : pj_S) : Option (Int32 × pj_S) :=
  if (nI 64) ≤ v2 then (
    some (v1, z)
  ) else (
    pj_g (pj_in ((nI 202) + v2) 1554) <|
    pj_b (v1 + (z.1 1 (Int32.toNatClampNeg ((nI 202) + v2)))) fun x1 =>
    pj_b (v2 + (nI 1)) fun x2 =>
    s4 x1 x2 z
  )
def Md_cuts  (z : pj_S) : Option (Int32 × pj_S) :=
  pj_lp2 Md_cuts_4 4000 (nI 0) (nI 0) z
def Md_look_156 (s156 : Int32 → Int32 → pj_S → Option (Int32 × pj_S)) (v2 : Int32) (v3 : Int32) (z : pj_S) : Option (Int32 × pj_S) :=
  pj_g (pj_in (nI 3) 1554) <|
  if (z.1 1 (Int32.toNatClampNeg (nI 3))) ≤ v3 then (
    some (v2, z)
  ) else (
    pj_g (pj_in ((nI 270) + v3) 1554) <|
    pj_b (v2 + (z.1 1 (Int32.toNatClampNeg ((nI 270) + v3)))) fun x1 =>
    pj_b (v3 + (nI 1)) fun x2 =>
    s156 x1 x2 z
  )
def Md_look (v1 : Int32) (z : pj_S) : Option (Int32 × pj_S) :=
  if v1 = (nI 0) then (
    pj_g (pj_in (nI 0) 1554) <|
    some ((z.1 1 (Int32.toNatClampNeg (nI 0))), z)
  ) else (
  if v1 = (nI 1) then (
    pj_g (pj_in (nI 1) 1554) <|
    some ((z.1 1 (Int32.toNatClampNeg (nI 1))), z)
  ) else (
  if v1 = (nI 2) then (
    pj_g (pj_in (nI 2) 1554) <|
    some ((z.1 1 (Int32.toNatClampNeg (nI 2))), z)
  ) else (
  if v1 = (nI 3) then (
    pj_g (pj_in (nI 0) 1554) <|
    pj_g (pj_in (nI 1) 1554) <|
    pj_c (Md_hereMany z) fun r3 z2 =>
    some ((((z.1 1 (Int32.toNatClampNeg (nI 0))) * (z.1 1 (Int32.toNatClampNeg (nI 1)))) - r3), z2)
  ) else (
  if v1 = (nI 4) then (
    pj_g (pj_in (nI 3) 1554) <|
    some ((z.1 1 (Int32.toNatClampNeg (nI 3))), z)
  ) else (
  if v1 = (nI 5) then (
    pj_g (pj_in (nI 4) 1554) <|
    some ((z.1 1 (Int32.toNatClampNeg (nI 4))), z)
  ) else (
  if v1 = (nI 6) then (
    pj_g (pj_in (nI 5) 1554) <|
    some ((z.1 1 (Int32.toNatClampNeg (nI 5))), z)
  ) else (
  if v1 = (nI 7) then (
    pj_g (pj_in (nI 6) 1554) <|
    some ((z.1 1 (Int32.toNatClampNeg (nI 6))), z)
  ) else (
  if v1 = (nI 8) then (
    pj_c (Md_cuts z) fun r6 z5 =>
    some (r6, z5)
  ) else (
  if v1 = (nI 9) then (
    pj_g (pj_in (nI 605) 1554) <|
    some ((z.1 1 (Int32.toNatClampNeg (nI 605))), z)
  ) else (
  if v1 = (nI 10) then (
    some ((z.1 0 3), z)
  ) else (
  if v1 = (nI 11) then (
    pj_lp2 Md_look_156 4000 (nI 0) (nI 0) z
  ) else (
    some ((-1 : Int32), z)
  ))))))))))))
