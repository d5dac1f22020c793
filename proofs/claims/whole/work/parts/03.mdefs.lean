noncomputable section
def fX9_refuse (z : fS) (v1 : Int32) : Option (Int32 × fS) :=
  bnd (wf z 0 26 v1) fun z2 =>
  some ((-1 : Int32), z2)
def fX9_done (z : fS) (v1 : Int32) : Option (Int32 × fS) :=
  bnd (wf z 0 26 (0 : Int32)) fun z2 =>
  some (v1, z2)
def fX9_isTerm (z : fS) (v1 : Int32) : Option Int32 :=
  if v1 < 0 then
    some (0 : Int32)
  else
    if (z 0 4) ≤ v1 then
      some (0 : Int32)
    else
      some (1 : Int32)
def jX9_findTerm_109  (rc : Int32 → Int32 → Option Int32) (z : fS) (v1 : Int32) (v2 : Int32) (v3 : Int32) (v5 : Int32) (v6 : Int32) : Option Int32 :=
  if v6 = 0 then
    bnd (v5 + (1 : Int32)) fun x122 =>
    rc (-1 : Int32) x122
  else
    bnd (v5 + (1 : Int32)) fun x122 =>
    rc v5 x122
def lX9_findTerm_63  (k109 : Int32 → Option Int32) (z : fS) (v1 : Int32) (v2 : Int32) (v3 : Int32) (v5 : Int32) : Nat → Int32 → Int32 → Option Int32
  | 0, _, _ => none
  | N + 1, v6, v7 =>
    if v3 ≤ v7 then
      k109 v6
    else
      if v6 = 0 then
        k109 v6
      else
        gd (inb (((3 : Int32) * v5) + v7) 360) <|
        gd (inb v7 3) <|
        if (rd z 4 (((3 : Int32) * v5) + v7)) = (rd z 19 v7) then
          bnd (v7 + (1 : Int32)) fun x103 =>
          (lX9_findTerm_63  k109 z v1 v2 v3 v5 N) (1 : Int32) x103
        else
          bnd (v7 + (1 : Int32)) fun x103 =>
          (lX9_findTerm_63  k109 z v1 v2 v3 v5 N) (0 : Int32) x103
def jX9_findTerm_58  (rc : Int32 → Int32 → Option Int32) (z : fS) (v1 : Int32) (v2 : Int32) (v3 : Int32) (v5 : Int32) (y0 : Int32) : Option Int32 :=
  lX9_findTerm_63  (jX9_findTerm_109  rc z v1 v2 v3 v5) z v1 v2 v3 v5 FU y0 (0 : Int32)
def lX9_findTerm_6   (z : fS) (v1 : Int32) (v2 : Int32) (v3 : Int32) : Nat → Int32 → Int32 → Option Int32
  | 0, _, _ => none
  | N + 1, v4, v5 =>
    if (z 0 4) ≤ v5 then
      some v4
    else
      if 0 ≤ v4 then
        some v4
      else
        gd (inb v5 120) <|
        if (rd z 1 v5) = v1 then
          gd (inb v5 120) <|
          if (rd z 2 v5) = v2 then
            gd (inb v5 120) <|
            if (rd z 3 v5) = v3 then
              jX9_findTerm_58  (lX9_findTerm_6   z v1 v2 v3 N) z v1 v2 v3 v5 (1 : Int32)
            else
              jX9_findTerm_58  (lX9_findTerm_6   z v1 v2 v3 N) z v1 v2 v3 v5 (0 : Int32)
          else
            jX9_findTerm_58  (lX9_findTerm_6   z v1 v2 v3 N) z v1 v2 v3 v5 (0 : Int32)
        else
          jX9_findTerm_58  (lX9_findTerm_6   z v1 v2 v3 N) z v1 v2 v3 v5 (0 : Int32)
def fX9_findTerm (z : fS) (v1 : Int32) (v2 : Int32) (v3 : Int32) : Option Int32 :=
  lX9_findTerm_6   z v1 v2 v3 FU (-1 : Int32) (0 : Int32)
def jX9_made_92   (z : fS) : Option (Int32 × fS) :=
  bnd (wf z 0 4 ((z 0 4) + (1 : Int32))) fun z99 =>
  bnd (wf z99 0 30 (0 : Int32)) fun z104 =>
  some (((z104 0 4) - (1 : Int32)), z104)
def lX9_made_59  (k92 : fS → Option (Int32 × fS)) (v3 : Int32) : Nat → Int32 → fS → Option (Int32 × fS)
  | 0, _, _ => none
  | N + 1, v5, z =>
    if v3 ≤ v5 then
      k92 z
    else
      gd (inb v5 3) <|
      gd (inb (((3 : Int32) * (z 0 4)) + v5) 360) <|
      bnd (wr z 4 (((3 : Int32) * (z 0 4)) + v5) (rd z 19 v5)) fun z85 =>
      bnd (v5 + (1 : Int32)) fun x86 =>
      (lX9_made_59  k92 v3 N) x86 z85
def fX9_made (z : fS) (v1 : Int32) (v2 : Int32) (v3 : Int32) : Option (Int32 × fS) :=
  bp (fX9_findTerm z v1 v2 v3) fun r4 =>
  if 0 ≤ r4 then
    some (r4, z)
  else
    if (z 0 4) = (120 : Int32) then
      some (r4, z)
    else
      gd (inb (z 0 4) 120) <|
      bnd (wr z 1 (z 0 4) v1) fun z35 =>
      gd (inb (z35 0 4) 120) <|
      bnd (wr z35 2 (z35 0 4) v2) fun z45 =>
      gd (inb (z45 0 4) 120) <|
      bnd (wr z45 3 (z45 0 4) v3) fun z55 =>
      lX9_made_59  (jX9_made_92   ) v3 FU (0 : Int32) z55
def fX9_answer (z : fS) (v1 : Int32) : Option (Int32 × fS) :=
  if 0 ≤ v1 then
    bd (fX9_done z v1) fun r14 z14 =>
    some (r14, z14)
  else
    bd (fX9_refuse z (3 : Int32)) fun r6 z6 =>
    some (r6, z6)
def fX9_name (z : fS) (v1 : Int32) : Option (Int32 × fS) :=
  if v1 < 0 then
    bd (fX9_refuse z (1 : Int32)) fun r12 z12 =>
    some (r12, z12)
  else
    if v1 ≤ (99 : Int32) then
      bd (fX9_made z (0 : Int32) v1 (0 : Int32)) fun r23 z23 =>
      bd (fX9_answer z23 r23) fun r26 z26 =>
      some (r26, z26)
    else
      bd (fX9_refuse z (1 : Int32)) fun r12 z12 =>
      some (r12, z12)
def fX9_number (z : fS) (v1 : Int32) : Option (Int32 × fS) :=
  bd (fX9_made z (1 : Int32) v1 (0 : Int32)) fun r5 z5 =>
  bd (fX9_answer z5 r5) fun r8 z8 =>
  some (r8, z8)
def jX9_built_79   (v1 : Int32) (v2 : Int32) (v3 : Int32) (v4 : Int32) (v5 : Int32) (z : fS) : Option (Int32 × fS) :=
  gd (inb (0 : Int32) 3) <|
  bnd (wr z 19 (0 : Int32) v3) fun z85 =>
  gd (inb (1 : Int32) 3) <|
  bnd (wr z85 19 (1 : Int32) v4) fun z93 =>
  gd (inb (2 : Int32) 3) <|
  bnd (wr z93 19 (2 : Int32) v5) fun z101 =>
  bd (fX9_made z101 (2 : Int32) v1 v2) fun r107 z107 =>
  bd (fX9_answer z107 r107) fun r110 z110 =>
  some (r110, z110)
def jX9_built_59   (v1 : Int32) (v2 : Int32) (v3 : Int32) (v4 : Int32) (v5 : Int32) (z : fS) : Option (Int32 × fS) :=
  if v2 ≤ (2 : Int32) then
    jX9_built_79   v1 v2 v3 v4 v5 z
  else
    bp (fX9_isTerm z v5) fun r67 =>
    if r67 = 0 then
      bd (fX9_refuse z (1 : Int32)) fun r75 z75 =>
      some (r75, z75)
    else
      jX9_built_79   v1 v2 v3 v4 v5 z
def fX9_built (z : fS) (v1 : Int32) (v2 : Int32) (v3 : Int32) (v4 : Int32) (v5 : Int32) : Option (Int32 × fS) :=
  if v1 < 0 then
    bd (fX9_refuse z (1 : Int32)) fun r12 z12 =>
    some (r12, z12)
  else
    if v1 ≤ (19 : Int32) then
      if 0 ≤ v2 then
        if v2 < (1 : Int32) then
          bd (fX9_refuse z (1 : Int32)) fun r75 z75 =>
          some (r75, z75)
        else
          if (3 : Int32) < v2 then
            bd (fX9_refuse z (1 : Int32)) fun r75 z75 =>
            some (r75, z75)
          else
            bp (fX9_isTerm z v3) fun r39 =>
            if r39 = 0 then
              bd (fX9_refuse z (1 : Int32)) fun r75 z75 =>
              some (r75, z75)
            else
              if v2 ≤ (1 : Int32) then
                jX9_built_59   v1 v2 v3 v4 v5 z
              else
                bp (fX9_isTerm z v4) fun r53 =>
                if r53 = 0 then
                  bd (fX9_refuse z (1 : Int32)) fun r75 z75 =>
                  some (r75, z75)
                else
                  jX9_built_59   v1 v2 v3 v4 v5 z
      else
        bd (fX9_refuse z (8 : Int32)) fun r23 z23 =>
        some (r23, z23)
    else
      bd (fX9_refuse z (1 : Int32)) fun r12 z12 =>
      some (r12, z12)
def fX9_row (z : fS) (v1 : Int32) (v2 : Int32) : Option (Int32 × fS) :=
  bp (fX9_isTerm z v1) fun r2 =>
  if r2 = 0 then
    bd (fX9_refuse z (1 : Int32)) fun r18 z18 =>
    some (r18, z18)
  else
    bp (fX9_isTerm z v2) fun r10 =>
    if r10 = 0 then
      bd (fX9_refuse z (1 : Int32)) fun r18 z18 =>
      some (r18, z18)
    else
      gd (inb (0 : Int32) 3) <|
      bnd (wr z 19 (0 : Int32) v1) fun z28 =>
      gd (inb (1 : Int32) 3) <|
      bnd (wr z28 19 (1 : Int32) v2) fun z35 =>
      bd (fX9_made z35 (3 : Int32) (0 : Int32) (2 : Int32)) fun r41 z41 =>
      bd (fX9_answer z41 r41) fun r44 z44 =>
      some (r44, z44)
def fX9_even (z : fS) (v1 : Int32) (v2 : Int32) (v3 : Int32) : Option (Int32 × fS) :=
  if v1 < 0 then
    bd (fX9_refuse z (1 : Int32)) fun r28 z28 =>
    some (r28, z28)
  else
    if (19 : Int32) < v1 then
      bd (fX9_refuse z (1 : Int32)) fun r28 z28 =>
      some (r28, z28)
    else
      bp (fX9_isTerm z v2) fun r12 =>
      if r12 = 0 then
        bd (fX9_refuse z (1 : Int32)) fun r28 z28 =>
        some (r28, z28)
      else
        bp (fX9_isTerm z v3) fun r20 =>
        if r20 = 0 then
          bd (fX9_refuse z (1 : Int32)) fun r28 z28 =>
          some (r28, z28)
        else
          gd (inb (0 : Int32) 3) <|
          bnd (wr z 19 (0 : Int32) v2) fun z38 =>
          gd (inb (1 : Int32) 3) <|
          bnd (wr z38 19 (1 : Int32) v3) fun z45 =>
          bd (fX9_made z45 (4 : Int32) v1 (2 : Int32)) fun r51 z51 =>
          bd (fX9_answer z51 r51) fun r54 z54 =>
          some (r54, z54)
def fX9_kind (z : fS) (v1 : Int32) : Option Int32 :=
  bp (fX9_isTerm z v1) fun r2 =>
  if r2 = 0 then
    some (-1 : Int32)
  else
    gd (inb v1 120) <|
    some (rd z 1 v1)
def fX9_part (z : fS) (v1 : Int32) (v2 : Int32) : Option (Int32 × fS) :=
  bp (fX9_isTerm z v1) fun r2 =>
  if r2 = 0 then
    bd (fX9_refuse z (1 : Int32)) fun r10 z10 =>
    some (r10, z10)
  else
    gd (inb v1 120) <|
    if (rd z 3 v1) = 0 then
      bd (fX9_refuse z (2 : Int32)) fun r25 z25 =>
      some (r25, z25)
    else
      if v2 < 0 then
        bd (fX9_refuse z (1 : Int32)) fun r45 z45 =>
        some (r45, z45)
      else
        gd (inb v1 120) <|
        if v2 < (rd z 3 v1) then
          gd (inb (((3 : Int32) * v1) + v2) 360) <|
          bd (fX9_done z (rd z 4 (((3 : Int32) * v1) + v2))) fun r62 z62 =>
          some (r62, z62)
        else
          bd (fX9_refuse z (1 : Int32)) fun r45 z45 =>
          some (r45, z45)
def fX9_shows (z : fS) (v1 : Int32) : Option (Int32 × fS) :=
  bp (fX9_isTerm z v1) fun r2 =>
  if r2 = 0 then
    bd (fX9_refuse z (1 : Int32)) fun r10 z10 =>
    some (r10, z10)
  else
    gd (inb v1 120) <|
    if (rd z 1 v1) = (3 : Int32) then
      bd (fX9_refuse z (2 : Int32)) fun r26 z26 =>
      some (r26, z26)
    else
      gd (inb v1 120) <|
      bd (fX9_done z (rd z 2 v1)) fun r39 z39 =>
      some (r39, z39)
def lX9_merge_66   (v3 : Int32) (v4 : Int32) : Nat → Int32 → fS → Option fS
  | 0, _, _ => none
  | N + 1, v5, z =>
    if (z 0 4) ≤ v5 then
      some z
    else
      gd (inb v5 120) <|
      if (rd z 20 v5) = v4 then
        gd (inb v5 120) <|
        bnd (wr z 20 v5 v3) fun z104 =>
        bnd (v5 + (1 : Int32)) fun x105 =>
        (lX9_merge_66   v3 v4 N) x105 z104
      else
        gd (inb v5 120) <|
        gd (inb v5 120) <|
        bnd (wr z 20 v5 (rd z 20 v5)) fun z104 =>
        bnd (v5 + (1 : Int32)) fun x105 =>
        (lX9_merge_66   v3 v4 N) x105 z104
def jX9_merge_61   (v3 : Int32) (y0 : Int32) (z : fS) : Option fS :=
  lX9_merge_66   v3 y0 FU (0 : Int32) z
def jX9_merge_30   (v1 : Int32) (v2 : Int32) (y0 : Int32) (z : fS) : Option fS :=
  gd (inb v1 120) <|
  gd (inb v2 120) <|
  if (rd z 20 v2) ≤ (rd z 20 v1) then
    gd (inb v1 120) <|
    jX9_merge_61   y0 (rd z 20 v1) z
  else
    gd (inb v2 120) <|
    jX9_merge_61   y0 (rd z 20 v2) z
def fX9_merge (z : fS) (v1 : Int32) (v2 : Int32) : Option fS :=
  gd (inb v1 120) <|
  gd (inb v2 120) <|
  if (rd z 20 v2) ≤ (rd z 20 v1) then
    gd (inb v2 120) <|
    jX9_merge_30   v1 v2 (rd z 20 v2) z
  else
    gd (inb v1 120) <|
    jX9_merge_30   v1 v2 (rd z 20 v1) z
def fX9_isPart (z : fS) (v1 : Int32) (v2 : Int32) (v3 : Int32) (v4 : Int32) : Option Int32 :=
  gd (inb (((3 : Int32) * v1) + v2) 360) <|
  gd (inb (rd z 4 (((3 : Int32) * v1) + v2)) 120) <|
  gd (inb (((3 : Int32) * v3) + v4) 360) <|
  gd (inb (rd z 4 (((3 : Int32) * v3) + v4)) 120) <|
  if (rd z 20 (rd z 4 (((3 : Int32) * v1) + v2))) = (rd z 20 (rd z 4 (((3 : Int32) * v3) + v4))) then
    some (1 : Int32)
  else
    some (0 : Int32)
def jX9_isByParts_93   (z : fS) (v1 : Int32) (v2 : Int32) (v3 : Int32) : Option Int32 :=
  if v3 = 0 then
    gd (inb v1 120) <|
    if (rd z 1 v1) = (4 : Int32) then
      bp (fX9_isPart z v1 (0 : Int32) v2 (1 : Int32)) fun r112 =>
      if r112 = 0 then
        some (0 : Int32)
      else
        bp (fX9_isPart z v1 (1 : Int32) v2 (0 : Int32)) fun r123 =>
        if r123 = 0 then
          some (0 : Int32)
        else
          some (1 : Int32)
    else
      some (0 : Int32)
  else
    some (1 : Int32)
def lX9_isByParts_61  (k93 : Int32 → Option Int32) (z : fS) (v1 : Int32) (v2 : Int32) : Nat → Int32 → Int32 → Option Int32
  | 0, _, _ => none
  | N + 1, v3, v4 =>
    gd (inb v1 120) <|
    if (rd z 3 v1) ≤ v4 then
      k93 v3
    else
      if v3 = 0 then
        k93 v3
      else
        bp (fX9_isPart z v1 v4 v2 v4) fun r83 =>
        bnd (v4 + (1 : Int32)) fun x87 =>
        (lX9_isByParts_61  k93 z v1 v2 N) r83 x87
def fX9_isByParts (z : fS) (v1 : Int32) (v2 : Int32) : Option Int32 :=
  gd (inb v1 120) <|
  if (rd z 3 v1) = 0 then
    some (0 : Int32)
  else
    gd (inb v1 120) <|
    gd (inb v2 120) <|
    if (rd z 1 v1) = (rd z 1 v2) then
      gd (inb v1 120) <|
      gd (inb v2 120) <|
      if (rd z 2 v1) = (rd z 2 v2) then
        gd (inb v1 120) <|
        gd (inb v2 120) <|
        if (rd z 3 v1) = (rd z 3 v2) then
          lX9_isByParts_61  (jX9_isByParts_93   z v1 v2) z v1 v2 FU (1 : Int32) (0 : Int32)
        else
          some (0 : Int32)
      else
        some (0 : Int32)
    else
      some (0 : Int32)
def jX9_looks_148  (rc : Int32 → Int32 → fS → Option (Int32 × fS)) (v2 : Int32) (v1 : Int32) (z : fS) : Option (Int32 × fS) :=
  bnd (v2 + (1 : Int32)) fun x148 =>
  rc v1 x148 z
def jX9_looks_142  (rc : Int32 → Int32 → fS → Option (Int32 × fS)) (k148 : Int32 → fS → Option (Int32 × fS)) (v2 : Int32) (v3 : Int32) (v1 : Int32) (z : fS) : Option (Int32 × fS) :=
  bnd (v3 + (1 : Int32)) fun x142 =>
  rc v1 x142 z
def lX9_looks_89  (k142 : Int32 → fS → Option (Int32 × fS)) (v2 : Int32) (v3 : Int32) : Nat → Int32 → Int32 → fS → Option (Int32 × fS)
  | 0, _, _, _ => none
  | N + 1, v1, v4, z =>
    if (2 : Int32) ≤ v4 then
      k142 v1 z
    else
      bp (fX9_isPart z v2 v4 v3 v4) fun r102 =>
      if r102 = 0 then
        gd (inb (((3 : Int32) * v2) + v4) 360) <|
        gd (inb (((3 : Int32) * v3) + v4) 360) <|
        bp (fX9_merge z (rd z 4 (((3 : Int32) * v2) + v4)) (rd z 4 (((3 : Int32) * v3) + v4))) fun z131 =>
        bnd (v4 + (1 : Int32)) fun x136 =>
        (lX9_looks_89  k142 v2 v3 N) (1 : Int32) x136 z131
      else
        bnd (v4 + (1 : Int32)) fun x136 =>
        (lX9_looks_89  k142 v2 v3 N) v1 x136 z
def jX9_looks_51  (rc : Int32 → Int32 → fS → Option (Int32 × fS)) (k148 : Int32 → fS → Option (Int32 × fS)) (v1 : Int32) (v2 : Int32) (v3 : Int32) (z : fS) : Option (Int32 × fS) :=
  gd (inb v2 120) <|
  gd (inb v3 120) <|
  if (rd z 20 v2) = (rd z 20 v3) then
    gd (inb v2 120) <|
    if (rd z 1 v2) = (3 : Int32) then
      gd (inb v3 120) <|
      if (rd z 1 v3) = (3 : Int32) then
        lX9_looks_89  (jX9_looks_142  rc k148 v2 v3) v2 v3 FU v1 (0 : Int32) z
      else
        jX9_looks_142  rc k148 v2 v3 v1 z
    else
      jX9_looks_142  rc k148 v2 v3 v1 z
  else
    jX9_looks_142  rc k148 v2 v3 v1 z
def lX9_looks_14  (k148 : Int32 → fS → Option (Int32 × fS)) (v2 : Int32) : Nat → Int32 → Int32 → fS → Option (Int32 × fS)
  | 0, _, _, _ => none
  | N + 1, v1, v3, z =>
    if v2 ≤ v3 then
      k148 v1 z
    else
      gd (inb v2 120) <|
      gd (inb v3 120) <|
      if (rd z 20 v2) = (rd z 20 v3) then
        jX9_looks_51  (lX9_looks_14  k148 v2 N) k148 v1 v2 v3 z
      else
        bp (fX9_isByParts z v2 v3) fun r37 =>
        if r37 = 0 then
          jX9_looks_51  (lX9_looks_14  k148 v2 N) k148 v1 v2 v3 z
        else
          bp (fX9_merge z v2 v3) fun z46 =>
          jX9_looks_51  (lX9_looks_14  k148 v2 N) k148 (1 : Int32) v2 v3 z46
def lX9_looks_4    : Nat → Int32 → Int32 → fS → Option (Int32 × fS)
  | 0, _, _, _ => none
  | N + 1, v1, v2, z =>
    if (z 0 4) ≤ v2 then
      gd (isb v1) <|
      some (v1, z)
    else
      lX9_looks_14  (jX9_looks_148  (lX9_looks_4    N) v2) v2 FU v1 (0 : Int32) z
def fX9_looks (z : fS) : Option (Int32 × fS) :=
  lX9_looks_4    FU (0 : Int32) (0 : Int32) z
def lX9_findOnes_100    : Nat → Int32 → Int32 → fS → Option fS
  | 0, _, _, _ => none
  | N + 1, v1, v2, z =>
    if v1 = 0 then
      bnd (wf z 0 30 (0 : Int32)) fun z124 =>
      some z124
    else
      if (400 : Int32) ≤ v2 then
        bnd (wf z 0 30 (0 : Int32)) fun z124 =>
        some z124
      else
        bd (fX9_looks z) fun r112 z112 =>
        bnd (v2 + (1 : Int32)) fun x116 =>
        (lX9_findOnes_100    N) r112 x116 z112
def jX9_findOnes_96   (z : fS) : Option fS :=
  lX9_findOnes_100    FU (1 : Int32) (0 : Int32) z
def lX9_findOnes_25  (k96 : fS → Option fS)  : Nat → Int32 → fS → Option fS
  | 0, _, _ => none
  | N + 1, v1, z =>
    if (100 : Int32) < v1 then
      k96 z
    else
      gd (inb v1 101) <|
      if (rd z 21 v1) = 0 then
        bnd (v1 + (1 : Int32)) fun x90 =>
        (lX9_findOnes_25  k96  N) x90 z
      else
        gd (inb v1 101) <|
        if (rd z 7 v1) = 0 then
          bnd (v1 + (1 : Int32)) fun x90 =>
          (lX9_findOnes_25  k96  N) x90 z
        else
          gd (inb v1 101) <|
          gd (inb (rd z 5 v1) 120) <|
          gd (inb v1 101) <|
          gd (inb (rd z 6 v1) 120) <|
          if (rd z 20 (rd z 5 v1)) = (rd z 20 (rd z 6 v1)) then
            bnd (v1 + (1 : Int32)) fun x90 =>
            (lX9_findOnes_25  k96  N) x90 z
          else
            gd (inb v1 101) <|
            gd (inb v1 101) <|
            bp (fX9_merge z (rd z 5 v1) (rd z 6 v1)) fun z87 =>
            bnd (v1 + (1 : Int32)) fun x90 =>
            (lX9_findOnes_25  k96  N) x90 z87
def jX9_findOnes_23   (z : fS) : Option fS :=
  lX9_findOnes_25  (jX9_findOnes_96   )  FU (0 : Int32) z
def lX9_findOnes_2  (k23 : fS → Option fS)  : Nat → Int32 → fS → Option fS
  | 0, _, _ => none
  | N + 1, v1, z =>
    if (z 0 4) ≤ v1 then
      k23 z
    else
      gd (inb v1 120) <|
      bnd (wr z 20 v1 v1) fun z16 =>
      bnd (v1 + (1 : Int32)) fun x17 =>
      (lX9_findOnes_2  k23  N) x17 z16
def fX9_findOnes (z : fS) : Option fS :=
  lX9_findOnes_2  (jX9_findOnes_23   )  FU (0 : Int32) z
def jX9_clashes_145  (rc : Int32 → Int32 → Option (Int32 × fS)) (z : fS) (v2 : Int32) (v1 : Int32) : Option (Int32 × fS) :=
  bnd (v2 + (1 : Int32)) fun x145 =>
  rc v1 x145
def lX9_clashes_89  (k145 : Int32 → Option (Int32 × fS)) (z : fS) (v2 : Int32) : Nat → Int32 → Int32 → Option (Int32 × fS)
  | 0, _, _ => none
  | N + 1, v1, v3 =>
    if v2 ≤ v3 then
      k145 v1
    else
      if v1 = 0 then
        gd (inb v2 120) <|
        if (rd z 1 v2) = (1 : Int32) then
          gd (inb v3 120) <|
          if (rd z 1 v3) = (1 : Int32) then
            gd (inb v2 120) <|
            gd (inb v3 120) <|
            if (rd z 20 v2) = (rd z 20 v3) then
              bnd (v3 + (1 : Int32)) fun x139 =>
              (lX9_clashes_89  k145 z v2 N) (1 : Int32) x139
            else
              bnd (v3 + (1 : Int32)) fun x139 =>
              (lX9_clashes_89  k145 z v2 N) (0 : Int32) x139
          else
            bnd (v3 + (1 : Int32)) fun x139 =>
            (lX9_clashes_89  k145 z v2 N) (0 : Int32) x139
        else
          bnd (v3 + (1 : Int32)) fun x139 =>
          (lX9_clashes_89  k145 z v2 N) (0 : Int32) x139
      else
        k145 v1
def lX9_clashes_75   (z : fS) : Nat → Int32 → Int32 → Option (Int32 × fS)
  | 0, _, _ => none
  | N + 1, v1, v2 =>
    if (z 0 4) ≤ v2 then
      gd (isb v1) <|
      some (v1, z)
    else
      if v1 = 0 then
        lX9_clashes_89  (jX9_clashes_145  (lX9_clashes_75   z N) z v2) z v2 FU v1 (0 : Int32)
      else
        gd (isb v1) <|
        some (v1, z)
def jX9_clashes_73   (z : fS) (v1 : Int32) : Option (Int32 × fS) :=
  lX9_clashes_75   z FU v1 (0 : Int32)
def lX9_clashes_8  (k73 : Int32 → Option (Int32 × fS)) (z : fS) : Nat → Int32 → Int32 → Option (Int32 × fS)
  | 0, _, _ => none
  | N + 1, v1, v2 =>
    if (100 : Int32) < v2 then
      k73 v1
    else
      if v1 = 0 then
        gd (inb v2 101) <|
        if (rd z 21 v2) = 0 then
          bnd (v2 + (1 : Int32)) fun x67 =>
          (lX9_clashes_8  k73 z N) (0 : Int32) x67
        else
          gd (inb v2 101) <|
          if (rd z 7 v2) = 0 then
            gd (inb v2 101) <|
            gd (inb (rd z 5 v2) 120) <|
            gd (inb v2 101) <|
            gd (inb (rd z 6 v2) 120) <|
            if (rd z 20 (rd z 5 v2)) = (rd z 20 (rd z 6 v2)) then
              bnd (v2 + (1 : Int32)) fun x67 =>
              (lX9_clashes_8  k73 z N) (1 : Int32) x67
            else
              bnd (v2 + (1 : Int32)) fun x67 =>
              (lX9_clashes_8  k73 z N) (0 : Int32) x67
          else
            bnd (v2 + (1 : Int32)) fun x67 =>
            (lX9_clashes_8  k73 z N) (0 : Int32) x67
      else
        k73 v1
def fX9_clashes (z : fS) : Option (Int32 × fS) :=
  bp (fX9_findOnes z) fun z1 =>
  lX9_clashes_8  (jX9_clashes_73   z1) z1 FU (0 : Int32) (0 : Int32)
def lX9_takeCourt_2    : Nat → Int32 → fS → Option fS
  | 0, _, _ => none
  | N + 1, v1, z =>
    if (100 : Int32) < v1 then
      some z
    else
      if (z 0 9) ≤ v1 then
        gd (inb v1 101) <|
        bnd (wr z 21 v1 (zb (0 : Int32))) fun z35 =>
        bnd (v1 + (1 : Int32)) fun x36 =>
        (lX9_takeCourt_2    N) x36 z35
      else
        gd (inb v1 101) <|
        if (rd z 8 v1) = 0 then
          gd (inb v1 101) <|
          bnd (wr z 21 v1 (zb (0 : Int32))) fun z35 =>
          bnd (v1 + (1 : Int32)) fun x36 =>
          (lX9_takeCourt_2    N) x36 z35
        else
          gd (inb v1 101) <|
          bnd (wr z 21 v1 (zb (1 : Int32))) fun z35 =>
          bnd (v1 + (1 : Int32)) fun x36 =>
          (lX9_takeCourt_2    N) x36 z35
def fX9_takeCourt (z : fS) : Option fS :=
  lX9_takeCourt_2    FU (0 : Int32) z
def fX9_court (z : fS) : Option fS :=
  if (z 0 30) = 0 then
    bp (fX9_takeCourt z) fun z8 =>
    bp (fX9_findOnes z8) fun z12 =>
    bnd (wf z12 0 30 (1 : Int32)) fun z17 =>
    some z17
  else
    some z
def fX9_areOne (z : fS) (v1 : Int32) (v2 : Int32) : Option (Int32 × fS) :=
  bp (fX9_court z) fun z1 =>
  gd (inb v1 120) <|
  gd (inb v2 120) <|
  if (rd z1 20 v1) = (rd z1 20 v2) then
    some ((1 : Int32), z1)
  else
    some ((0 : Int32), z1)
def fX9_add (z : fS) (v1 : Int32) (v2 : Int32) (v3 : Int32) : Option fS :=
  gd (inb (100 : Int32) 101) <|
  bnd (wr z 5 (100 : Int32) v1) fun z7 =>
  gd (inb (100 : Int32) 101) <|
  bnd (wr z7 6 (100 : Int32) v2) fun z15 =>
  gd (inb (100 : Int32) 101) <|
  bnd (wr z15 7 (100 : Int32) (zb v3)) fun z23 =>
  gd (inb (100 : Int32) 101) <|
  bnd (wr z23 21 (100 : Int32) (zb (1 : Int32))) fun z31 =>
  some z31
def fX9_does (z : fS) (v1 : Int32) (v2 : Int32) : Option (Int32 × fS) :=
  if 0 ≤ v1 then
    bp (fX9_findOnes z) fun z10 =>
    gd (inb v1 120) <|
    gd (inb v2 120) <|
    if (rd z10 20 v1) = (rd z10 20 v2) then
      some ((1 : Int32), z10)
    else
      some ((0 : Int32), z10)
  else
    bd (fX9_clashes z) fun r5 z5 =>
    gd (isb r5) <|
    some (r5, z5)
def lX9_thin_6 (v3 : Nat)  (v1 : Int32) (v2 : Int32) : Nat → Int32 → Int32 → fS → Option (Int32 × fS)
  | 0, _, _, _ => none
  | N + 1, v4, v5, z =>
    if (z 0 9) ≤ v5 then
      some (v4, z)
    else
      gd (inb v5 101) <|
      if (rd z 21 v5) = 0 then
        bnd (v5 + (1 : Int32)) fun x59 =>
        (lX9_thin_6 v3  v1 v2 N) v4 x59 z
      else
        gd (inb v5 101) <|
        bnd (wr z 21 v5 (zb (0 : Int32))) fun z32 =>
        bd (fX9_does z32 v1 v2) fun r36 z36 =>
        if r36 = 0 then
          gd (inb v5 101) <|
          bnd (wr z36 21 v5 (zb (1 : Int32))) fun z49 =>
          gd (inb v4 100) <|
          bnd (wr z49 v3 v4 v5) fun z55 =>
          bnd (v4 + (1 : Int32)) fun x56 =>
          bnd (v5 + (1 : Int32)) fun x59 =>
          (lX9_thin_6 v3  v1 v2 N) x56 x59 z55
        else
          bnd (v5 + (1 : Int32)) fun x59 =>
          (lX9_thin_6 v3  v1 v2 N) v4 x59 z36
def fX9_thin (z : fS) (v1 : Int32) (v2 : Int32) (v3 : Nat) : Option (Int32 × fS) :=
  lX9_thin_6 v3  v1 v2 FU (0 : Int32) (0 : Int32) z
def lX9_taken_4   (z : fS) : Nat → Int32 → Int32 → Option Int32
  | 0, _, _ => none
  | N + 1, v1, v2 =>
    if (z 0 9) ≤ v2 then
      some v1
    else
      gd (inb v2 101) <|
      if (rd z 8 v2) = 0 then
        bnd (v1 + (0 : Int32)) fun x28 =>
        bnd (v2 + (1 : Int32)) fun x29 =>
        (lX9_taken_4   z N) x28 x29
      else
        bnd (v1 + (1 : Int32)) fun x28 =>
        bnd (v2 + (1 : Int32)) fun x29 =>
        (lX9_taken_4   z N) x28 x29
def fX9_taken (z : fS) : Option Int32 :=
  lX9_taken_4   z FU (0 : Int32) (0 : Int32)
def lX9_classes_8   (z : fS) : Nat → Int32 → Int32 → Option (Int32 × fS)
  | 0, _, _ => none
  | N + 1, v1, v2 =>
    if (z 0 4) ≤ v2 then
      some (v1, z)
    else
      gd (inb v2 120) <|
      if (rd z 20 v2) = v2 then
        bnd (v1 + (1 : Int32)) fun x33 =>
        bnd (v2 + (1 : Int32)) fun x34 =>
        (lX9_classes_8   z N) x33 x34
      else
        bnd (v1 + (0 : Int32)) fun x33 =>
        bnd (v2 + (1 : Int32)) fun x34 =>
        (lX9_classes_8   z N) x33 x34
def fX9_classes (z : fS) : Option (Int32 × fS) :=
  bp (fX9_court z) fun z1 =>
  lX9_classes_8   z1 FU (0 : Int32) (0 : Int32)
def fX9_many (z : fS) (v1 : Int32) : Option (Int32 × fS) :=
  if v1 = (0 : Int32) then
    some ((z 0 4), z)
  else if v1 = (1 : Int32) then
    some ((z 0 9), z)
  else if v1 = (2 : Int32) then
    bp (fX9_taken z) fun r55 =>
    some (r55, z)
  else if v1 = (3 : Int32) then
    some ((z 0 14), z)
  else if v1 = (4 : Int32) then
    some ((z 0 20), z)
  else if v1 = (5 : Int32) then
    some ((z 0 11), z)
  else if v1 = (6 : Int32) then
    bd (fX9_classes z) fun r75 z75 =>
    some (r75, z75)
  else 
    some ((-1 : Int32), z)
def fX9_wouldClash (z : fS) (v1 : Int32) (v2 : Int32) (v3 : Int32) : Option (Int32 × fS) :=
  bp (fX9_takeCourt z) fun z1 =>
  bp (fX9_add z1 v1 v2 v3) fun z8 =>
  bd (fX9_clashes z8) fun r12 z12 =>
  if r12 = 0 then
    some ((0 : Int32), z12)
  else
    bd (fX9_thin z12 (-1 : Int32) (-1 : Int32) 17) fun r28 z28 =>
    bnd (wf z28 0 22 r28) fun z31 =>
    some ((1 : Int32), z31)
def fX9_take (z : fS) (v1 : Int32) (v2 : Int32) (v3 : Int32) : Option (Int32 × fS) :=
  gd (inb (z 0 9) 101) <|
  bnd (wr z 5 (z 0 9) v1) fun z9 =>
  gd (inb (z9 0 9) 101) <|
  bnd (wr z9 6 (z9 0 9) v2) fun z19 =>
  gd (inb (z19 0 9) 101) <|
  bnd (wr z19 7 (z19 0 9) (zb v3)) fun z29 =>
  gd (inb (z29 0 9) 101) <|
  bnd (wr z29 8 (z29 0 9) (zb (1 : Int32))) fun z39 =>
  bnd (wf z39 0 9 ((z39 0 9) + (1 : Int32))) fun z47 =>
  bnd (wf z47 0 30 (0 : Int32)) fun z52 =>
  some (((z52 0 9) - (1 : Int32)), z52)
def fX9_saidNow (z : fS) (v1 : Int32) (v2 : Int32) (v3 : Int32) : Option (Int32 × fS) :=
  bp (fX9_isTerm z v1) fun r2 =>
  if r2 = 0 then
    bd (fX9_refuse z (1 : Int32)) fun r18 z18 =>
    some (r18, z18)
  else
    bp (fX9_isTerm z v2) fun r10 =>
    if r10 = 0 then
      bd (fX9_refuse z (1 : Int32)) fun r18 z18 =>
      some (r18, z18)
    else
      if (z 0 9) = (100 : Int32) then
        bd (fX9_refuse z (3 : Int32)) fun r33 z33 =>
        some (r33, z33)
      else
        bd (fX9_wouldClash z v1 v2 v3) fun r41 z41 =>
        if r41 = 0 then
          bd (fX9_take z41 v1 v2 v3) fun r60 z60 =>
          bd (fX9_done z60 r60) fun r63 z63 =>
          some (r63, z63)
        else
          bd (fX9_refuse z41 (4 : Int32)) fun r49 z49 =>
          some (r49, z49)
def fX9_say (z : fS) (v1 : Int32) (v2 : Int32) : Option (Int32 × fS) :=
  bd (fX9_saidNow z v1 v2 (1 : Int32)) fun r4 z4 =>
  some (r4, z4)
def fX9_unlike (z : fS) (v1 : Int32) (v2 : Int32) : Option (Int32 × fS) :=
  bd (fX9_saidNow z v1 v2 (0 : Int32)) fun r4 z4 =>
  some (r4, z4)
def fX9_drop (z : fS) (v1 : Int32) : Option (Int32 × fS) :=
  if v1 < 0 then
    bd (fX9_refuse z (1 : Int32)) fun r14 z14 =>
    some (r14, z14)
  else
    if v1 < (z 0 9) then
      gd (inb v1 101) <|
      if (rd z 8 v1) = 0 then
        bd (fX9_refuse z (5 : Int32)) fun r29 z29 =>
        some (r29, z29)
      else
        gd (inb v1 101) <|
        bnd (wr z 8 v1 (zb (0 : Int32))) fun z39 =>
        bnd (wf z39 0 30 (0 : Int32)) fun z42 =>
        bp (fX9_taken z42) fun r47 =>
        bd (fX9_done z42 r47) fun r50 z50 =>
        some (r50, z50)
    else
      bd (fX9_refuse z (1 : Int32)) fun r14 z14 =>
      some (r14, z14)
def fX9_said (z : fS) (v1 : Int32) (v2 : Int32) : Option Int32 :=
  if v1 < 0 then
    some (-1 : Int32)
  else
    if v1 < (z 0 9) then
      if v2 = (0 : Int32) then
        gd (inb v1 101) <|
        if (rd z 7 v1) = 0 then
          some (0 : Int32)
        else
          some (1 : Int32)
      else if v2 = (1 : Int32) then
        gd (inb v1 101) <|
        some (rd z 5 v1)
      else if v2 = (2 : Int32) then
        gd (inb v1 101) <|
        some (rd z 6 v1)
      else if v2 = (3 : Int32) then
        gd (inb v1 101) <|
        if (rd z 8 v1) = 0 then
          some (0 : Int32)
        else
          some (1 : Int32)
      else 
        some (-1 : Int32)
    else
      some (-1 : Int32)
def fX9_clashed (z : fS) (v1 : Int32) : Option Int32 :=
  if v1 < 0 then
    some (-1 : Int32)
  else
    if (z 0 22) ≤ v1 then
      some (-1 : Int32)
    else
      gd (inb v1 100) <|
      some (rd z 17 v1)
def fX9_judge (z : fS) (v1 : Int32) (v2 : Int32) : Option (Int32 × fS) :=
  bp (fX9_isTerm z v1) fun r2 =>
  if r2 = 0 then
    some ((-1 : Int32), z)
  else
    bp (fX9_isTerm z v2) fun r10 =>
    if r10 = 0 then
      some ((-1 : Int32), z)
    else
      bd (fX9_areOne z v1 v2) fun r21 z21 =>
      if r21 = 0 then
        bp (fX9_takeCourt z21) fun z30 =>
        bp (fX9_add z30 v1 v2 (1 : Int32)) fun z37 =>
        bd (fX9_clashes z37) fun r41 z41 =>
        if r41 = 0 then
          some ((2 : Int32), z41)
        else
          some ((0 : Int32), z41)
      else
        some ((1 : Int32), z21)
def fX9_why (z : fS) (v1 : Int32) (v2 : Int32) : Option (Int32 × fS) :=
  bp (fX9_isTerm z v1) fun r2 =>
  if r2 = 0 then
    bd (fX9_refuse z (1 : Int32)) fun r18 z18 =>
    some (r18, z18)
  else
    bp (fX9_isTerm z v2) fun r10 =>
    if r10 = 0 then
      bd (fX9_refuse z (1 : Int32)) fun r18 z18 =>
      some (r18, z18)
    else
      bd (fX9_judge z v1 v2) fun r25 z25 =>
      if r25 = (2 : Int32) then
        bd (fX9_refuse z25 (6 : Int32)) fun r37 z37 =>
        some (r37, z37)
      else
        bp (fX9_takeCourt z25) fun z42 =>
        if r25 = (1 : Int32) then
          bd (fX9_thin z42 v1 v2 18) fun r58 z58 =>
          bnd (wf z58 0 24 r58) fun z61 =>
          bd (fX9_done z61 (z61 0 24)) fun r93 z93 =>
          some (r93, z93)
        else
          bp (fX9_add z42 v1 v2 (1 : Int32)) fun z71 =>
          bd (fX9_thin z71 (-1 : Int32) (-1 : Int32) 18) fun r82 z82 =>
          bnd (wf z82 0 24 r82) fun z85 =>
          bd (fX9_done z85 (z85 0 24)) fun r93 z93 =>
          some (r93, z93)
def lX9_nextSet_49   (v2 : Int32) : Nat → Int32 → fS → Option (Int32 × fS)
  | 0, _, _ => none
  | N + 1, v4, z =>
    if v2 ≤ v4 then
      some ((1 : Int32), z)
    else
      gd (inb (v4 - (1 : Int32)) 100) <|
      gd (inb v4 100) <|
      bnd (wr z 23 v4 ((rd z 23 (v4 - (1 : Int32))) + (1 : Int32))) fun z72 =>
      bnd (v4 + (1 : Int32)) fun x73 =>
      (lX9_nextSet_49   v2 N) x73 z72
def jX9_nextSet_28   (z : fS) (v2 : Int32) (v3 : Int32) : Option (Int32 × fS) :=
  if 0 ≤ v3 then
    gd (inb v3 100) <|
    gd (inb v3 100) <|
    bnd (wr z 23 v3 ((rd z 23 v3) + (1 : Int32))) fun z43 =>
    bnd (v3 + (1 : Int32)) fun x47 =>
    lX9_nextSet_49   v2 FU x47 z43
  else
    some ((0 : Int32), z)
def lX9_nextSet_4  (k28 : Int32 → Option (Int32 × fS)) (z : fS) (v1 : Int32) (v2 : Int32) : Nat → Int32 → Option (Int32 × fS)
  | 0, _ => none
  | N + 1, v3 =>
    if v3 < 0 then
      k28 v3
    else
      gd (inb v3 100) <|
      if (rd z 23 v3) = ((v1 - v2) + v3) then
        bnd (v3 + (-1 : Int32)) fun x22 =>
        (lX9_nextSet_4  k28 z v1 v2 N) x22
      else
        k28 v3
def fX9_nextSet (z : fS) (v1 : Int32) (v2 : Int32) : Option (Int32 × fS) :=
  bnd (v2 - (1 : Int32)) fun x3 =>
  lX9_nextSet_4  (jX9_nextSet_28   z v2) z v1 v2 FU x3
def jX9_isEnough_57   (v2 : Int32) (v3 : Int32) (z : fS) : Option (Int32 × fS) :=
  bp (fX9_findOnes z) fun z58 =>
  gd (inb v2 120) <|
  gd (inb v3 120) <|
  if (rd z58 20 v2) = (rd z58 20 v3) then
    some ((1 : Int32), z58)
  else
    some ((0 : Int32), z58)
def lX9_isEnough_27  (k57 : fS → Option (Int32 × fS)) (v1 : Int32) (v2 : Int32) (v3 : Int32) : Nat → Int32 → fS → Option (Int32 × fS)
  | 0, _, _ => none
  | N + 1, v4, z =>
    if v1 ≤ v4 then
      k57 z
    else
      gd (inb v4 100) <|
      gd (inb (rd z 23 v4) 100) <|
      gd (inb (rd z 22 (rd z 23 v4)) 101) <|
      bnd (wr z 21 (rd z 22 (rd z 23 v4)) (zb (1 : Int32))) fun z50 =>
      bnd (v4 + (1 : Int32)) fun x51 =>
      (lX9_isEnough_27  k57 v1 v2 v3 N) x51 z50
def jX9_isEnough_24   (v1 : Int32) (v2 : Int32) (v3 : Int32) (z : fS) : Option (Int32 × fS) :=
  lX9_isEnough_27  (jX9_isEnough_57   v2 v3) v1 v2 v3 FU (0 : Int32) z
def lX9_isEnough_3  (k24 : fS → Option (Int32 × fS)) (v1 : Int32) (v2 : Int32) (v3 : Int32) : Nat → Int32 → fS → Option (Int32 × fS)
  | 0, _, _ => none
  | N + 1, v4, z =>
    if (100 : Int32) < v4 then
      k24 z
    else
      gd (inb v4 101) <|
      bnd (wr z 21 v4 (zb (0 : Int32))) fun z17 =>
      bnd (v4 + (1 : Int32)) fun x18 =>
      (lX9_isEnough_3  k24 v1 v2 v3 N) x18 z17
def fX9_isEnough (z : fS) (v1 : Int32) (v2 : Int32) (v3 : Int32) : Option (Int32 × fS) :=
  lX9_isEnough_3  (jX9_isEnough_24   v1 v2 v3) v1 v2 v3 FU (0 : Int32) z
def lX9_least_174   (v6 : Int32) : Nat → Int32 → fS → Option (Int32 × fS)
  | 0, _, _ => none
  | N + 1, v8, z =>
    if v6 ≤ v8 then
      bd (fX9_done z v6) fun r209 z209 =>
      some (r209, z209)
    else
      gd (inb v8 100) <|
      gd (inb (rd z 23 v8) 100) <|
      gd (inb v8 100) <|
      bnd (wr z 18 v8 (rd z 22 (rd z 23 v8))) fun z199 =>
      bnd (v8 + (1 : Int32)) fun x200 =>
      (lX9_least_174   v6 N) x200 z199
def jX9_least_165   (v6 : Int32) (z : fS) : Option (Int32 × fS) :=
  bnd (wf z 0 24 v6) fun z168 =>
  lX9_least_174   v6 FU (0 : Int32) z168
def jX9_least_226  (rc : Int32 → Int32 → fS → Option (Int32 × fS)) (k165 : Int32 → fS → Option (Int32 × fS)) (v1 : Int32) (v2 : Int32) (v4 : Int32) (v6 : Int32) (v5 : Int32) (z : fS) : Option (Int32 × fS) :=
  bnd (v6 + (1 : Int32)) fun x226 =>
  rc v5 x226 z
def lX9_least_134  (k165 : fS → Option (Int32 × fS)) (k226 : Int32 → fS → Option (Int32 × fS)) (v1 : Int32) (v2 : Int32) (v4 : Int32) (v6 : Int32) : Nat → Int32 → Int32 → fS → Option (Int32 × fS)
  | 0, _, _, _ => none
  | N + 1, v5, v7, z =>
    if v7 = 0 then
      k226 v5 z
    else
      if v5 = 0 then
        bd (fX9_refuse z (7 : Int32)) fun r147 z147 =>
        some (r147, z147)
      else
        bnd (v5 + (-1 : Int32)) fun x151 =>
        bd (fX9_isEnough z v6 v1 v2) fun r159 z159 =>
        if r159 = 0 then
          bd (fX9_nextSet z159 v4 v6) fun r218 z218 =>
          (lX9_least_134  k165 k226 v1 v2 v4 v6 N) x151 r218 z218
        else
          k165 z159
def jX9_least_131  (rc : Int32 → Int32 → fS → Option (Int32 × fS)) (k165 : Int32 → fS → Option (Int32 × fS)) (v1 : Int32) (v2 : Int32) (v4 : Int32) (v5 : Int32) (v6 : Int32) (z : fS) : Option (Int32 × fS) :=
  lX9_least_134  (k165 v6) (jX9_least_226  rc k165 v1 v2 v4 v6) v1 v2 v4 v6 FU v5 (1 : Int32) z
def lX9_least_109  (k131 : fS → Option (Int32 × fS)) (v1 : Int32) (v2 : Int32) (v4 : Int32) (v5 : Int32) (v6 : Int32) : Nat → Int32 → fS → Option (Int32 × fS)
  | 0, _, _ => none
  | N + 1, v7, z =>
    if v6 ≤ v7 then
      k131 z
    else
      gd (inb v7 100) <|
      bnd (wr z 23 v7 v7) fun z124 =>
      bnd (v7 + (1 : Int32)) fun x125 =>
      (lX9_least_109  k131 v1 v2 v4 v5 v6 N) x125 z124
def lX9_least_99  (k165 : Int32 → fS → Option (Int32 × fS)) (v1 : Int32) (v2 : Int32) (v4 : Int32) : Nat → Int32 → Int32 → fS → Option (Int32 × fS)
  | 0, _, _, _ => none
  | N + 1, v5, v6, z =>
    if v4 < v6 then
      bd (fX9_refuse z (7 : Int32)) fun r235 z235 =>
      some (r235, z235)
    else
      lX9_least_109  (jX9_least_131  (lX9_least_99  k165 v1 v2 v4 N) k165 v1 v2 v4 v5 v6) v1 v2 v4 v5 v6 FU (0 : Int32) z
def jX9_least_93   (v1 : Int32) (v2 : Int32) (v3 : Int32) (v4 : Int32) (z : fS) : Option (Int32 × fS) :=
  lX9_least_99  (jX9_least_165   ) v1 v2 v4 FU v3 (0 : Int32) z
def lX9_least_56  (k93 : Int32 → fS → Option (Int32 × fS)) (v1 : Int32) (v2 : Int32) (v3 : Int32) : Nat → Int32 → Int32 → fS → Option (Int32 × fS)
  | 0, _, _, _ => none
  | N + 1, v4, v5, z =>
    if (z 0 9) ≤ v5 then
      k93 v4 z
    else
      gd (inb v5 101) <|
      if (rd z 8 v5) = 0 then
        bnd (v5 + (1 : Int32)) fun x87 =>
        (lX9_least_56  k93 v1 v2 v3 N) v4 x87 z
      else
        gd (inb v4 100) <|
        bnd (wr z 22 v4 v5) fun z83 =>
        bnd (v4 + (1 : Int32)) fun x84 =>
        bnd (v5 + (1 : Int32)) fun x87 =>
        (lX9_least_56  k93 v1 v2 v3 N) x84 x87 z83
def fX9_least (z : fS) (v1 : Int32) (v2 : Int32) (v3 : Int32) : Option (Int32 × fS) :=
  bp (fX9_isTerm z v1) fun r2 =>
  if r2 = 0 then
    bd (fX9_refuse z (1 : Int32)) fun r30 z30 =>
    some (r30, z30)
  else
    bp (fX9_isTerm z v2) fun r10 =>
    if r10 = 0 then
      bd (fX9_refuse z (1 : Int32)) fun r30 z30 =>
      some (r30, z30)
    else
      if v3 < (1 : Int32) then
        bd (fX9_refuse z (1 : Int32)) fun r30 z30 =>
        some (r30, z30)
      else
        if v3 ≤ (500 : Int32) then
          bd (fX9_areOne z v1 v2) fun r37 z37 =>
          if r37 = 0 then
            bd (fX9_refuse z37 (6 : Int32)) fun r46 z46 =>
            some (r46, z46)
          else
            lX9_least_56  (jX9_least_93   v1 v2 v3) v1 v2 v3 FU (0 : Int32) (0 : Int32) z37
        else
          bd (fX9_refuse z (1 : Int32)) fun r30 z30 =>
          some (r30, z30)
def fX9_because (z : fS) (v1 : Int32) : Option Int32 :=
  if v1 < 0 then
    some (-1 : Int32)
  else
    if (z 0 24) ≤ v1 then
      some (-1 : Int32)
    else
      gd (inb v1 100) <|
      some (rd z 18 v1)
def fX9_head (z : fS) (v1 : Int32) : Option (Int32 × fS) :=
  bp (fX9_isTerm z v1) fun r2 =>
  if r2 = 0 then
    some ((-1 : Int32), z)
  else
    bp (fX9_court z) fun z11 =>
    gd (inb v1 120) <|
    some ((rd z11 20 v1), z11)
def lX9_member_19   (z : fS) (v1 : Int32) : Nat → Int32 → Int32 → Option (Int32 × fS)
  | 0, _, _ => none
  | N + 1, v3, v4 =>
    if (z 0 4) ≤ v4 then
      some ((-1 : Int32), z)
    else
      gd (inb v4 120) <|
      gd (inb v1 120) <|
      if (rd z 20 v4) = (rd z 20 v1) then
        if v3 = 0 then
          some (v4, z)
        else
          bnd (v3 + (-1 : Int32)) fun x51 =>
          bnd (v4 + (1 : Int32)) fun x54 =>
          (lX9_member_19   z v1 N) x51 x54
      else
        bnd (v4 + (1 : Int32)) fun x54 =>
        (lX9_member_19   z v1 N) v3 x54
def fX9_member (z : fS) (v1 : Int32) (v2 : Int32) : Option (Int32 × fS) :=
  bp (fX9_isTerm z v1) fun r2 =>
  if r2 = 0 then
    some ((-1 : Int32), z)
  else
    bp (fX9_court z) fun z11 =>
    lX9_member_19   z11 v1 FU v2 (0 : Int32)
def lX9_usesOne_5   (z : fS) (v1 : Int32) (v2 : Int32) : Nat → Int32 → Int32 → Option Int32
  | 0, _, _ => none
  | N + 1, v3, v4 =>
    gd (inb v1 120) <|
    if (rd z 3 v1) ≤ v4 then
      gd (isb v3) <|
      some v3
    else
      if v3 = 0 then
        gd (inb (((3 : Int32) * v1) + v4) 360) <|
        gd (inb (rd z 4 (((3 : Int32) * v1) + v4)) 120) <|
        gd (inb v2 120) <|
        if (rd z 20 (rd z 4 (((3 : Int32) * v1) + v4))) = (rd z 20 v2) then
          bnd (v4 + (1 : Int32)) fun x51 =>
          (lX9_usesOne_5   z v1 v2 N) (1 : Int32) x51
        else
          bnd (v4 + (1 : Int32)) fun x51 =>
          (lX9_usesOne_5   z v1 v2 N) (0 : Int32) x51
      else
        bnd (v4 + (1 : Int32)) fun x51 =>
        (lX9_usesOne_5   z v1 v2 N) (1 : Int32) x51
def fX9_usesOne (z : fS) (v1 : Int32) (v2 : Int32) : Option Int32 :=
  lX9_usesOne_5   z v1 v2 FU (0 : Int32) (0 : Int32)
def lX9_uses_19   (z : fS) (v1 : Int32) : Nat → Int32 → Int32 → Option (Int32 × fS)
  | 0, _, _ => none
  | N + 1, v3, v4 =>
    if (z 0 4) ≤ v4 then
      some ((-1 : Int32), z)
    else
      bp (fX9_usesOne z v4 v1) fun r32 =>
      if r32 = 0 then
        bnd (v4 + (1 : Int32)) fun x48 =>
        (lX9_uses_19   z v1 N) v3 x48
      else
        if v3 = 0 then
          some (v4, z)
        else
          bnd (v3 + (-1 : Int32)) fun x45 =>
          bnd (v4 + (1 : Int32)) fun x48 =>
          (lX9_uses_19   z v1 N) x45 x48
def fX9_uses (z : fS) (v1 : Int32) (v2 : Int32) : Option (Int32 × fS) :=
  bp (fX9_isTerm z v1) fun r2 =>
  if r2 = 0 then
    some ((-1 : Int32), z)
  else
    bp (fX9_court z) fun z11 =>
    lX9_uses_19   z11 v1 FU v2 (0 : Int32)
def lX9_isNumber_4   (z : fS) (v1 : Int32) : Nat → Int32 → Int32 → Option Int32
  | 0, _, _ => none
  | N + 1, v2, v3 =>
    if (z 0 4) ≤ v3 then
      gd (isb v2) <|
      some v2
    else
      if v2 = 0 then
        gd (inb v3 120) <|
        if (rd z 1 v3) = (1 : Int32) then
          gd (inb v3 120) <|
          if (rd z 2 v3) = v1 then
            bnd (v3 + (1 : Int32)) fun x42 =>
            (lX9_isNumber_4   z v1 N) (1 : Int32) x42
          else
            bnd (v3 + (1 : Int32)) fun x42 =>
            (lX9_isNumber_4   z v1 N) (0 : Int32) x42
        else
          bnd (v3 + (1 : Int32)) fun x42 =>
          (lX9_isNumber_4   z v1 N) (0 : Int32) x42
      else
        bnd (v3 + (1 : Int32)) fun x42 =>
        (lX9_isNumber_4   z v1 N) (1 : Int32) x42
def fX9_isNumber (z : fS) (v1 : Int32) : Option Int32 :=
  lX9_isNumber_4   z v1 FU (0 : Int32) (0 : Int32)
def lX9_numberOf_4   (z : fS) (v1 : Int32) : Nat → Int32 → Int32 → Option Int32
  | 0, _, _ => none
  | N + 1, v2, v3 =>
    if (z 0 4) ≤ v3 then
      some v2
    else
      gd (inb v3 120) <|
      if (rd z 20 v3) = v1 then
        gd (inb v3 120) <|
        if (rd z 1 v3) = (1 : Int32) then
          bnd (v3 + (1 : Int32)) fun x38 =>
          (lX9_numberOf_4   z v1 N) v3 x38
        else
          bnd (v3 + (1 : Int32)) fun x38 =>
          (lX9_numberOf_4   z v1 N) v2 x38
      else
        bnd (v3 + (1 : Int32)) fun x38 =>
        (lX9_numberOf_4   z v1 N) v2 x38
def fX9_numberOf (z : fS) (v1 : Int32) : Option Int32 :=
  lX9_numberOf_4   z v1 FU (-1 : Int32) (0 : Int32)
def jX9_world_106  (rc : Int32 → Int32 → Option (Int64 × fS)) (v3 : Int32) (v4 : Int32) (z : fS) : Option (Int64 × fS) :=
  bp (fX9_isNumber z v4) fun r110 =>
  if r110 = 0 then
    bnd (v3 - (1 : Int32)) fun x122 =>
    bnd (v4 + (1 : Int32)) fun x123 =>
    rc x122 x123
  else
    bnd (v3 - (0 : Int32)) fun x122 =>
    bnd (v4 + (1 : Int32)) fun x123 =>
    rc x122 x123
def lX9_world_93   (z : fS) : Nat → Int32 → Int32 → Option (Int64 × fS)
  | 0, _, _ => none
  | N + 1, v3, v4 =>
    if 0 < v3 then
      jX9_world_106  (lX9_world_93   z N) v3 v4 z
    else
      bp (fX9_isNumber z v4) fun r100 =>
      if r100 = 0 then
        some (v4.toInt64, z)
      else
        jX9_world_106  (lX9_world_93   z N) v3 v4 z
def jX9_world_90   (z : fS) (v3 : Int32) : Option (Int64 × fS) :=
  lX9_world_93   z FU v3 (0 : Int32)
def lX9_world_44  (k90 : Int32 → Option (Int64 × fS)) (z : fS) (v1 : Int32) : Nat → Int32 → Int32 → Option (Int64 × fS)
  | 0, _, _ => none
  | N + 1, v3, v4 =>
    gd (inb v1 120) <|
    if (rd z 20 v1) ≤ v4 then
      k90 v3
    else
      gd (inb v4 120) <|
      if (rd z 20 v4) = v4 then
        bp (fX9_numberOf z v4) fun r71 =>
        if 0 ≤ r71 then
          bnd (v3 + (0 : Int32)) fun x83 =>
          bnd (v4 + (1 : Int32)) fun x84 =>
          (lX9_world_44  k90 z v1 N) x83 x84
        else
          bnd (v3 + (1 : Int32)) fun x83 =>
          bnd (v4 + (1 : Int32)) fun x84 =>
          (lX9_world_44  k90 z v1 N) x83 x84
      else
        bnd (v3 + (0 : Int32)) fun x83 =>
        bnd (v4 + (1 : Int32)) fun x84 =>
        (lX9_world_44  k90 z v1 N) x83 x84
def fX9_world (z : fS) (v1 : Int32) : Option (Int64 × fS) :=
  bp (fX9_isTerm z v1) fun r2 =>
  if r2 = 0 then
    some ((1099511627776 : Int64), z)
  else
    bp (fX9_court z) fun z13 =>
    gd (inb v1 120) <|
    bp (fX9_numberOf z13 (rd z13 20 v1)) fun r23 =>
    if r23 < 0 then
      lX9_world_44  (jX9_world_90   z13) z13 v1 FU (0 : Int32) (0 : Int32)
    else
      gd (inb r23 120) <|
      some ((rd z13 2 r23).toInt64, z13)
def lX9_push_17    : Nat → Int32 → fS → Option (Int32 × fS)
  | 0, _, _ => none
  | N + 1, v1, z =>
    if (100 : Int32) ≤ v1 then
      bnd (wf z 0 11 ((z 0 11) + (1 : Int32))) fun z72 =>
      bd (fX9_done z72 (z72 0 11)) fun r80 z80 =>
      some (r80, z80)
    else
      if (z 0 9) ≤ v1 then
        gd (inb (((100 : Int32) * (z 0 11)) + v1) 1000) <|
        bnd (wr z 9 (((100 : Int32) * (z 0 11)) + v1) (zb (0 : Int32))) fun z58 =>
        bnd (v1 + (1 : Int32)) fun x59 =>
        (lX9_push_17    N) x59 z58
      else
        gd (inb v1 101) <|
        if (rd z 8 v1) = 0 then
          gd (inb (((100 : Int32) * (z 0 11)) + v1) 1000) <|
          bnd (wr z 9 (((100 : Int32) * (z 0 11)) + v1) (zb (0 : Int32))) fun z58 =>
          bnd (v1 + (1 : Int32)) fun x59 =>
          (lX9_push_17    N) x59 z58
        else
          gd (inb (((100 : Int32) * (z 0 11)) + v1) 1000) <|
          bnd (wr z 9 (((100 : Int32) * (z 0 11)) + v1) (zb (1 : Int32))) fun z58 =>
          bnd (v1 + (1 : Int32)) fun x59 =>
          (lX9_push_17    N) x59 z58
def fX9_push (z : fS) : Option (Int32 × fS) :=
  if (z 0 11) = (10 : Int32) then
    bd (fX9_refuse z (3 : Int32)) fun r11 z11 =>
    some (r11, z11)
  else
    lX9_push_17    FU (0 : Int32) z
def lX9_pop_26    : Nat → Int32 → fS → Option (Int32 × fS)
  | 0, _, _ => none
  | N + 1, v1, z =>
    if (z 0 9) ≤ v1 then
      bnd (wf z 0 30 (0 : Int32)) fun z62 =>
      bp (fX9_taken z62) fun r67 =>
      bd (fX9_done z62 r67) fun r70 z70 =>
      some (r70, z70)
    else
      gd (inb (((100 : Int32) * (z 0 11)) + v1) 1000) <|
      gd (inb v1 101) <|
      bnd (wr z 8 v1 (zb (rd z 9 (((100 : Int32) * (z 0 11)) + v1)))) fun z53 =>
      bnd (v1 + (1 : Int32)) fun x54 =>
      (lX9_pop_26    N) x54 z53
def fX9_pop (z : fS) : Option (Int32 × fS) :=
  if (z 0 11) = 0 then
    bd (fX9_refuse z (9 : Int32)) fun r10 z10 =>
    some (r10, z10)
  else
    bnd (wf z 0 11 ((z 0 11) - (1 : Int32))) fun z21 =>
    lX9_pop_26    FU (0 : Int32) z21
def fX9_law (z : fS) (v1 : Int32) (v2 : Int32) : Option (Int32 × fS) :=
  bp (fX9_isTerm z v1) fun r2 =>
  if r2 = 0 then
    bd (fX9_refuse z (1 : Int32)) fun r18 z18 =>
    some (r18, z18)
  else
    bp (fX9_isTerm z v2) fun r10 =>
    if r10 = 0 then
      bd (fX9_refuse z (1 : Int32)) fun r18 z18 =>
      some (r18, z18)
    else
      if (z 0 14) = (10 : Int32) then
        bd (fX9_refuse z (3 : Int32)) fun r33 z33 =>
        some (r33, z33)
      else
        gd (inb (z 0 14) 10) <|
        bnd (wr z 10 (z 0 14) v1) fun z46 =>
        gd (inb (z46 0 14) 10) <|
        bnd (wr z46 11 (z46 0 14) v2) fun z56 =>
        bnd (wf z56 0 14 ((z56 0 14) + (1 : Int32))) fun z64 =>
        bd (fX9_done z64 ((z64 0 14) - (1 : Int32))) fun r74 z74 =>
        some (r74, z74)
def fX9_isHole (z : fS) (v1 : Int32) : Option Int32 :=
  gd (inb v1 120) <|
  if (rd z 1 v1) = 0 then
    gd (inb v1 120) <|
    if (rd z 2 v1) < (90 : Int32) then
      some (0 : Int32)
    else
      gd (inb v1 120) <|
      if (93 : Int32) ≤ (rd z 2 v1) then
        some (0 : Int32)
      else
        some (1 : Int32)
  else
    some (0 : Int32)
def jX9_rebuilt_126   (v1 : Int32) (z : fS) : Option (Int32 × fS) :=
  gd (inb v1 120) <|
  gd (inb v1 120) <|
  gd (inb v1 120) <|
  bd (fX9_made z (rd z 1 v1) (rd z 2 v1) (rd z 3 v1)) fun r145 z145 =>
  some (r145, z145)
def lX9_rebuilt_89  (k126 : fS → Option (Int32 × fS)) (v1 : Int32) : Nat → Int32 → fS → Option (Int32 × fS)
  | 0, _, _ => none
  | N + 1, v3, z =>
    gd (inb v1 120) <|
    if (rd z 3 v1) ≤ v3 then
      k126 z
    else
      gd (inb (((3 : Int32) * v1) + v3) 360) <|
      gd (inb (rd z 4 (((3 : Int32) * v1) + v3)) 120) <|
      gd (inb v3 3) <|
      bnd (wr z 19 v3 (rd z 25 (rd z 4 (((3 : Int32) * v1) + v3)))) fun z119 =>
      bnd (v3 + (1 : Int32)) fun x120 =>
      (lX9_rebuilt_89  k126 v1 N) x120 z119
def jX9_rebuilt_81   (z : fS) (v1 : Int32) (v2 : Int32) : Option (Int32 × fS) :=
  if v2 = 0 then
    some (v1, z)
  else
    lX9_rebuilt_89  (jX9_rebuilt_126   v1) v1 FU (0 : Int32) z
def lX9_rebuilt_27  (k81 : Int32 → Option (Int32 × fS)) (z : fS) (v1 : Int32) : Nat → Int32 → Int32 → Option (Int32 × fS)
  | 0, _, _ => none
  | N + 1, v2, v3 =>
    gd (inb v1 120) <|
    if (rd z 3 v1) ≤ v3 then
      k81 v2
    else
      if v2 = 0 then
        gd (inb (((3 : Int32) * v1) + v3) 360) <|
        gd (inb (rd z 4 (((3 : Int32) * v1) + v3)) 120) <|
        gd (inb (((3 : Int32) * v1) + v3) 360) <|
        if (rd z 25 (rd z 4 (((3 : Int32) * v1) + v3))) = (rd z 4 (((3 : Int32) * v1) + v3)) then
          bnd (v3 + (1 : Int32)) fun x75 =>
          (lX9_rebuilt_27  k81 z v1 N) (0 : Int32) x75
        else
          bnd (v3 + (1 : Int32)) fun x75 =>
          (lX9_rebuilt_27  k81 z v1 N) (1 : Int32) x75
      else
        bnd (v3 + (1 : Int32)) fun x75 =>
        (lX9_rebuilt_27  k81 z v1 N) (1 : Int32) x75
def fX9_rebuilt (z : fS) (v1 : Int32) : Option (Int32 × fS) :=
  bp (fX9_isHole z v1) fun r2 =>
  if r2 = 0 then
    lX9_rebuilt_27  (jX9_rebuilt_81   z v1) z v1 FU (0 : Int32) (0 : Int32)
  else
    gd (inb v1 120) <|
    gd (inb ((rd z 2 v1) - (90 : Int32)) 3) <|
    some ((rd z 24 ((rd z 2 v1) - (90 : Int32))), z)
def lX9_instanceOf_42   (v1 : Int32) (v2 : Int32) : Nat → Int32 → fS → Option (Int32 × fS)
  | 0, _, _ => none
  | N + 1, v3, z =>
    if v3 ≤ 0 then
      gd (inb v1 120) <|
      some ((rd z 25 v1), z)
    else
      gd (inb (v3 - (1 : Int32)) 121) <|
      bnd (rd z 26 (v3 - (1 : Int32))) fun x54 =>
      gd (inb (v3 - (1 : Int32)) 121) <|
      bnd (rd z 27 (v3 - (1 : Int32))) fun x64 =>
      gd (inb x54 120) <|
      if (rd z 25 x54) < 0 then
        gd (inb x54 120) <|
        if (rd z 3 x54) ≤ x64 then
          bd (fX9_rebuilt z x54) fun r146 z146 =>
          gd (inb x54 120) <|
          bnd (wr z146 25 x54 r146) fun z149 =>
          gd (inb x54 120) <|
          if 0 ≤ (rd z149 25 x54) then
            bnd (v3 + (-1 : Int32)) fun x172 =>
            (lX9_instanceOf_42   v1 v2 N) x172 z149
          else
            bnd (wf z149 0 4 v2) fun z162 =>
            bnd (wf z162 0 30 (0 : Int32)) fun z167 =>
            some ((-1 : Int32), z167)
        else
          gd (inb (v3 - (1 : Int32)) 121) <|
          gd (inb (v3 - (1 : Int32)) 121) <|
          bnd (wr z 27 (v3 - (1 : Int32)) ((rd z 27 (v3 - (1 : Int32))) + (1 : Int32))) fun z105 =>
          gd (inb (((3 : Int32) * x54) + x64) 360) <|
          gd (inb v3 121) <|
          bnd (wr z105 26 v3 (rd z105 4 (((3 : Int32) * x54) + x64))) fun z123 =>
          gd (inb v3 121) <|
          bnd (wr z123 27 v3 (0 : Int32)) fun z130 =>
          bnd (v3 + (1 : Int32)) fun x131 =>
          (lX9_instanceOf_42   v1 v2 N) x131 z130
      else
        bnd (v3 + (-1 : Int32)) fun x76 =>
        (lX9_instanceOf_42   v1 v2 N) x76 z
def jX9_instanceOf_26   (v1 : Int32) (v2 : Int32) (z : fS) : Option (Int32 × fS) :=
  gd (inb (0 : Int32) 121) <|
  bnd (wr z 26 (0 : Int32) v1) fun z32 =>
  gd (inb (0 : Int32) 121) <|
  bnd (wr z32 27 (0 : Int32) (0 : Int32)) fun z39 =>
  lX9_instanceOf_42   v1 v2 FU (1 : Int32) z39
def lX9_instanceOf_7  (k26 : fS → Option (Int32 × fS)) (v1 : Int32) (v2 : Int32) : Nat → Int32 → fS → Option (Int32 × fS)
  | 0, _, _ => none
  | N + 1, v3, z =>
    if (120 : Int32) ≤ v3 then
      k26 z
    else
      gd (inb v3 120) <|
      bnd (wr z 25 v3 (-1 : Int32)) fun z19 =>
      bnd (v3 + (1 : Int32)) fun x20 =>
      (lX9_instanceOf_7  k26 v1 v2 N) x20 z19
def fX9_instanceOf (z : fS) (v1 : Int32) : Option (Int32 × fS) :=
  bnd (z 0 4) fun x4 =>
  lX9_instanceOf_7  (jX9_instanceOf_26   v1 x4) v1 x4 FU (0 : Int32) z
def fX9_instance (z : fS) (v1 : Int32) (v2 : Int32) (v3 : Int32) (v4 : Int32) : Option (Int32 × fS) :=
  bp (fX9_isTerm z v1) fun r2 =>
  if r2 = 0 then
    bd (fX9_refuse z (1 : Int32)) fun r35 z35 =>
    some (r35, z35)
  else
    bp (fX9_isTerm z v2) fun r10 =>
    if r10 = 0 then
      bd (fX9_refuse z (1 : Int32)) fun r35 z35 =>
      some (r35, z35)
    else
      bp (fX9_isTerm z v3) fun r18 =>
      if r18 = 0 then
        bd (fX9_refuse z (1 : Int32)) fun r35 z35 =>
        some (r35, z35)
      else
        bp (fX9_isTerm z v4) fun r27 =>
        if r27 = 0 then
          bd (fX9_refuse z (1 : Int32)) fun r35 z35 =>
          some (r35, z35)
        else
          gd (inb (0 : Int32) 3) <|
          bnd (wr z 24 (0 : Int32) v2) fun z45 =>
          gd (inb (1 : Int32) 3) <|
          bnd (wr z45 24 (1 : Int32) v3) fun z52 =>
          gd (inb (2 : Int32) 3) <|
          bnd (wr z52 24 (2 : Int32) v4) fun z60 =>
          bd (fX9_instanceOf z60 v1) fun r64 z64 =>
          bd (fX9_answer z64 r64) fun r67 z67 =>
          some (r67, z67)
def jX9_lookForHoles_104  (rc : Int32 → fS → Option fS) (v2 : Int32) (z : fS) : Option fS :=
  bnd (v2 + (-1 : Int32)) fun x104 =>
  rc x104 z
def lX9_lookForHoles_72  (k104 : fS → Option fS) (v2 : Int32) : Nat → Int32 → fS → Option fS
  | 0, _, _ => none
  | N + 1, v3, z =>
    gd (inb v2 120) <|
    if (rd z 3 v2) ≤ v3 then
      k104 z
    else
      gd (inb (((3 : Int32) * v2) + v3) 360) <|
      gd (inb (rd z 4 (((3 : Int32) * v2) + v3)) 120) <|
      bnd (wr z 29 (rd z 4 (((3 : Int32) * v2) + v3)) (zb (1 : Int32))) fun z97 =>
      bnd (v3 + (1 : Int32)) fun x98 =>
      (lX9_lookForHoles_72  k104 v2 N) x98 z97
def jX9_lookForHoles_70  (rc : Int32 → fS → Option fS) (v2 : Int32) (z : fS) : Option fS :=
  lX9_lookForHoles_72  (jX9_lookForHoles_104  rc v2) v2 FU (0 : Int32) z
def lX9_lookForHoles_34    : Nat → Int32 → fS → Option fS
  | 0, _, _ => none
  | N + 1, v2, z =>
    if v2 < 0 then
      some z
    else
      gd (inb v2 120) <|
      if (rd z 29 v2) = 0 then
        jX9_lookForHoles_104  (lX9_lookForHoles_34    N) v2 z
      else
        bp (fX9_isHole z v2) fun r49 =>
        if r49 = 0 then
          jX9_lookForHoles_70  (lX9_lookForHoles_34    N) v2 z
        else
          gd (inb v2 120) <|
          gd (inb ((rd z 2 v2) - (90 : Int32)) 3) <|
          bnd (wr z 28 ((rd z 2 v2) - (90 : Int32)) (zb (1 : Int32))) fun z69 =>
          jX9_lookForHoles_70  (lX9_lookForHoles_34    N) v2 z69
def jX9_lookForHoles_32   (v1 : Int32) (z : fS) : Option fS :=
  lX9_lookForHoles_34    FU v1 z
def lX9_lookForHoles_2  (k32 : fS → Option fS) (v1 : Int32) : Nat → Int32 → fS → Option fS
  | 0, _, _ => none
  | N + 1, v2, z =>
    if (z 0 4) ≤ v2 then
      k32 z
    else
      if v2 = v1 then
        gd (inb v2 120) <|
        bnd (wr z 29 v2 (zb (1 : Int32))) fun z25 =>
        bnd (v2 + (1 : Int32)) fun x26 =>
        (lX9_lookForHoles_2  k32 v1 N) x26 z25
      else
        gd (inb v2 120) <|
        bnd (wr z 29 v2 (zb (0 : Int32))) fun z25 =>
        bnd (v2 + (1 : Int32)) fun x26 =>
        (lX9_lookForHoles_2  k32 v1 N) x26 z25
def fX9_lookForHoles (z : fS) (v1 : Int32) : Option fS :=
  lX9_lookForHoles_2  (jX9_lookForHoles_32   v1) v1 FU (0 : Int32) z
def lX9_findHeads_11    : Nat → Int32 → fS → Option fS
  | 0, _, _ => none
  | N + 1, v1, z =>
    if (z 0 4) ≤ v1 then
      some z
    else
      gd (inb v1 120) <|
      if (rd z 20 v1) = v1 then
        bp (fX9_isHole z v1) fun r31 =>
        if r31 = 0 then
          gd (inb (z 0 40) 120) <|
          bnd (wr z 30 (z 0 40) v1) fun z46 =>
          bnd (wf z46 0 40 ((z46 0 40) + (1 : Int32))) fun z54 =>
          bnd (v1 + (1 : Int32)) fun x57 =>
          (lX9_findHeads_11    N) x57 z54
        else
          bnd (v1 + (1 : Int32)) fun x57 =>
          (lX9_findHeads_11    N) x57 z
      else
        bnd (v1 + (1 : Int32)) fun x57 =>
        (lX9_findHeads_11    N) x57 z
def fX9_findHeads (z : fS) : Option fS :=
  bp (fX9_court z) fun z1 =>
  bnd (wf z1 0 40 (0 : Int32)) fun z6 =>
  lX9_findHeads_11    FU (0 : Int32) z6
def jX9_goOn_29   (v2 : Int32) (v3 : Int32) (y0 : Int32) (z : fS) : Option (Int32 × fS) :=
  if v3 < 0 then
    some ((2 : Int32), z)
  else
    if 0 ≤ y0 then
      bd (fX9_areOne z v3 y0) fun r46 z46 =>
      if r46 = 0 then
        if (z46 0 9) = (100 : Int32) then
          some ((3 : Int32), z46)
        else
          bd (fX9_wouldClash z46 v3 y0 (1 : Int32)) fun r70 z70 =>
          if r70 = 0 then
            bd (fX9_take z70 v3 y0 (1 : Int32)) fun r83 z83 =>
            bnd (wf z83 0 41 ((z83 0 41) + (1 : Int32))) fun z95 =>
            if (z95 0 41) = v2 then
              some ((1 : Int32), z95)
            else
              some ((0 : Int32), z95)
          else
            some ((4 : Int32), z70)
      else
        some ((0 : Int32), z46)
    else
      some ((2 : Int32), z)
def fX9_goOn (z : fS) (v1 : Int32) (v2 : Int32) : Option (Int32 × fS) :=
  gd (inb v1 10) <|
  bd (fX9_instanceOf z (rd z 10 v1)) fun r7 z7 =>
  if 0 ≤ r7 then
    gd (inb v1 10) <|
    bd (fX9_instanceOf z7 (rd z7 11 v1)) fun r26 z26 =>
    jX9_goOn_29   v2 r7 r26 z26
  else
    jX9_goOn_29   v2 r7 (-1 : Int32) z7
def jX9_followAll_152  (rc : Int32 → fS → Option (Int32 × fS)) (v1 : Int32) (v2 : Int32) (v3 : Int32) (v4 : Int32) (v5 : Int32) (v6 : Int32) (z : fS) : Option (Int32 × fS) :=
  bnd (v6 + (1 : Int32)) fun x152 =>
  rc x152 z
def jX9_followAll_146  (rc : Int32 → fS → Option (Int32 × fS)) (k152 : fS → Option (Int32 × fS)) (v1 : Int32) (v2 : Int32) (v3 : Int32) (v4 : Int32) (v5 : Int32) (v6 : Int32) (v7 : Int32) (z : fS) : Option (Int32 × fS) :=
  bnd (v7 + (1 : Int32)) fun x146 =>
  rc x146 z
def lX9_followAll_78  (k146 : fS → Option (Int32 × fS)) (v1 : Int32) (v2 : Int32) (v3 : Int32) (v4 : Int32) (v5 : Int32) (v6 : Int32) (v7 : Int32) : Nat → Int32 → fS → Option (Int32 × fS)
  | 0, _, _ => none
  | N + 1, v8, z =>
    if v5 ≤ v8 then
      k146 z
    else
      gd (inb v6 120) <|
      gd (inb (0 : Int32) 3) <|
      bnd (wr z 24 (0 : Int32) (rd z 30 v6)) fun z97 =>
      gd (inb v7 120) <|
      gd (inb (1 : Int32) 3) <|
      bnd (wr z97 24 (1 : Int32) (rd z97 30 v7)) fun z110 =>
      gd (inb v8 120) <|
      gd (inb (2 : Int32) 3) <|
      bnd (wr z110 24 (2 : Int32) (rd z110 30 v8)) fun z123 =>
      bd (fX9_goOn z123 v1 v2) fun r127 z127 =>
      if r127 = 0 then
        bnd (v8 + (1 : Int32)) fun x140 =>
        (lX9_followAll_78  k146 v1 v2 v3 v4 v5 v6 v7 N) x140 z127
      else
        some (r127, z127)
def lX9_followAll_68  (k152 : fS → Option (Int32 × fS)) (v1 : Int32) (v2 : Int32) (v3 : Int32) (v4 : Int32) (v5 : Int32) (v6 : Int32) : Nat → Int32 → fS → Option (Int32 × fS)
  | 0, _, _ => none
  | N + 1, v7, z =>
    if v4 ≤ v7 then
      k152 z
    else
      lX9_followAll_78  (jX9_followAll_146  (lX9_followAll_68  k152 v1 v2 v3 v4 v5 v6 N) k152 v1 v2 v3 v4 v5 v6 v7) v1 v2 v3 v4 v5 v6 v7 FU (0 : Int32) z
def lX9_followAll_59   (v1 : Int32) (v2 : Int32) (v3 : Int32) (v4 : Int32) (v5 : Int32) : Nat → Int32 → fS → Option (Int32 × fS)
  | 0, _, _ => none
  | N + 1, v6, z =>
    if v3 ≤ v6 then
      some ((0 : Int32), z)
    else
      lX9_followAll_68  (jX9_followAll_152  (lX9_followAll_59   v1 v2 v3 v4 v5 N) v1 v2 v3 v4 v5 v6) v1 v2 v3 v4 v5 v6 FU (0 : Int32) z
def jX9_followAll_54   (v1 : Int32) (v2 : Int32) (v3 : Int32) (v4 : Int32) (y0 : Int32) (z : fS) : Option (Int32 × fS) :=
  lX9_followAll_59   v1 v2 v3 v4 y0 FU (0 : Int32) z
def jX9_followAll_35   (v1 : Int32) (v2 : Int32) (v3 : Int32) (y0 : Int32) (z : fS) : Option (Int32 × fS) :=
  gd (inb (2 : Int32) 3) <|
  if (rd z 28 (2 : Int32)) = 0 then
    jX9_followAll_54   v1 v2 v3 y0 (1 : Int32) z
  else
    jX9_followAll_54   v1 v2 v3 y0 (z 0 40) z
def jX9_followAll_17   (v1 : Int32) (v2 : Int32) (y0 : Int32) (z : fS) : Option (Int32 × fS) :=
  gd (inb (1 : Int32) 3) <|
  if (rd z 28 (1 : Int32)) = 0 then
    jX9_followAll_35   v1 v2 y0 (1 : Int32) z
  else
    jX9_followAll_35   v1 v2 y0 (z 0 40) z
def fX9_followAll (z : fS) (v1 : Int32) (v2 : Int32) : Option (Int32 × fS) :=
  gd (inb (0 : Int32) 3) <|
  if (rd z 28 (0 : Int32)) = 0 then
    jX9_followAll_17   v1 v2 (1 : Int32) z
  else
    jX9_followAll_17   v1 v2 (z 0 40) z
def jX9_follow_67   (v1 : Int32) (v2 : Int32) (z : fS) : Option (Int32 × fS) :=
  gd (inb v1 10) <|
  bp (fX9_lookForHoles z (rd z 10 v1)) fun z74 =>
  gd (inb v1 10) <|
  bp (fX9_lookForHoles z74 (rd z74 11 v1)) fun z84 =>
  bnd (wf z84 0 41 (0 : Int32)) fun z89 =>
  bd (fX9_followAll z89 v1 v2) fun r96 z96 =>
  bnd (wf z96 0 25 r96) fun z99 =>
  bd (fX9_done z99 (z99 0 41)) fun r107 z107 =>
  some (r107, z107)
def lX9_follow_49  (k67 : fS → Option (Int32 × fS)) (v1 : Int32) (v2 : Int32) : Nat → Int32 → fS → Option (Int32 × fS)
  | 0, _, _ => none
  | N + 1, v3, z =>
    if (3 : Int32) ≤ v3 then
      k67 z
    else
      gd (inb v3 3) <|
      bnd (wr z 28 v3 (zb (0 : Int32))) fun z60 =>
      bnd (v3 + (1 : Int32)) fun x61 =>
      (lX9_follow_49  k67 v1 v2 N) x61 z60
def fX9_follow (z : fS) (v1 : Int32) (v2 : Int32) : Option (Int32 × fS) :=
  if v1 < 0 then
    bd (fX9_refuse z (1 : Int32)) fun r25 z25 =>
    some (r25, z25)
  else
    if (z 0 14) ≤ v1 then
      bd (fX9_refuse z (1 : Int32)) fun r25 z25 =>
      some (r25, z25)
    else
      if v2 < (1 : Int32) then
        bd (fX9_refuse z (1 : Int32)) fun r25 z25 =>
        some (r25, z25)
      else
        if v2 ≤ (50 : Int32) then
          bp (fX9_findHeads z) fun z30 =>
          if (z30 0 40) = 0 then
            bd (fX9_refuse z30 (6 : Int32)) fun r43 z43 =>
            some (r43, z43)
          else
            lX9_follow_49  (jX9_follow_67   v1 v2) v1 v2 FU (0 : Int32) z30
        else
          bd (fX9_refuse z (1 : Int32)) fun r25 z25 =>
          some (r25, z25)
def fX9_ended (z : fS) : Option Int32 :=
  some (z 0 25)
def fX9_claim (z : fS) (v1 : Int32) (v2 : Int32) (v3 : Int32) (v4 : Int32) (v5 : Int32) : Option (Int32 × fS) :=
  bp (fX9_isTerm z v2) fun r2 =>
  if r2 = 0 then
    bd (fX9_refuse z (1 : Int32)) fun r18 z18 =>
    some (r18, z18)
  else
    bp (fX9_isTerm z v3) fun r10 =>
    if r10 = 0 then
      bd (fX9_refuse z (1 : Int32)) fun r18 z18 =>
      some (r18, z18)
    else
      if (z 0 20) = (100 : Int32) then
        bd (fX9_refuse z (3 : Int32)) fun r33 z33 =>
        some (r33, z33)
      else
        gd (inb (z 0 20) 100) <|
        bnd (wr z 12 (z 0 20) v1) fun z46 =>
        gd (inb (z46 0 20) 100) <|
        bnd (wr z46 13 (z46 0 20) v2) fun z56 =>
        gd (inb (z56 0 20) 100) <|
        bnd (wr z56 14 (z56 0 20) v3) fun z66 =>
        gd (inb (z66 0 20) 100) <|
        bnd (wr z66 15 (z66 0 20) v4) fun z77 =>
        gd (inb (z77 0 20) 100) <|
        bnd (wr z77 16 (z77 0 20) v5) fun z88 =>
        bnd (wf z88 0 20 ((z88 0 20) + (1 : Int32))) fun z96 =>
        bd (fX9_done z96 ((z96 0 20) - (1 : Int32))) fun r106 z106 =>
        some (r106, z106)
def fX9_unclaim (z : fS) : Option (Int32 × fS) :=
  bnd (z 0 20) fun x4 =>
  bnd (wf z 0 20 (0 : Int32)) fun z7 =>
  bd (fX9_done z7 x4) fun r12 z12 =>
  some (r12, z12)
def fX9_isStep (z : fS) (v1 : Int32) (v2 : Int32) : Option Int32 :=
  if v1 < 0 then
    some (0 : Int32)
  else
    if v2 ≤ v1 then
      some (0 : Int32)
    else
      some (1 : Int32)
def lX9_isKnown_15   (z : fS) (v1 : Int32) (v2 : Int32) (v3 : Int32) : Nat → Int32 → Int32 → Option Int32
  | 0, _, _ => none
  | N + 1, v4, v5 =>
    if v3 ≤ v5 then
      gd (isb v4) <|
      some v4
    else
      if v4 = 0 then
        gd (inb v5 100) <|
        if (rd z 13 v5) = v1 then
          gd (inb v5 100) <|
          if (rd z 14 v5) = v2 then
            bnd (v5 + (1 : Int32)) fun x55 =>
            (lX9_isKnown_15   z v1 v2 v3 N) (1 : Int32) x55
          else
            bnd (v5 + (1 : Int32)) fun x55 =>
            (lX9_isKnown_15   z v1 v2 v3 N) (0 : Int32) x55
        else
          bnd (v5 + (1 : Int32)) fun x55 =>
          (lX9_isKnown_15   z v1 v2 v3 N) (0 : Int32) x55
      else
        gd (isb v4) <|
        some v4
def jX9_isKnown_10   (z : fS) (v1 : Int32) (v2 : Int32) (v3 : Int32) (y0 : Int32) : Option Int32 :=
  lX9_isKnown_15   z v1 v2 v3 FU y0 (0 : Int32)
def fX9_isKnown (z : fS) (v1 : Int32) (v2 : Int32) (v3 : Int32) : Option Int32 :=
  if v1 = v2 then
    jX9_isKnown_10   z v1 v2 v3 (1 : Int32)
  else
    jX9_isKnown_10   z v1 v2 v3 (0 : Int32)
def lX9_isRightByParts_103   (z : fS) (v1 : Int32) (v2 : Int32) (v3 : Int32) (v4 : Int32) : Nat → Int32 → Int32 → Option Int32
  | 0, _, _ => none
  | N + 1, v5, v6 =>
    gd (inb v2 120) <|
    if (rd z 3 v2) ≤ v6 then
      gd (isb v5) <|
      some v5
    else
      if v5 = 0 then
        gd (isb v5) <|
        some v5
      else
        gd (inb (((3 : Int32) * v2) + v6) 360) <|
        if v4 = 0 then
          gd (inb (((3 : Int32) * v3) + v6) 360) <|
          bp (fX9_isKnown z (rd z 4 (((3 : Int32) * v2) + v6)) (rd z 4 (((3 : Int32) * v3) + v6)) v1) fun r155 =>
          bnd (v6 + (1 : Int32)) fun x160 =>
          (lX9_isRightByParts_103   z v1 v2 v3 v4 N) r155 x160
        else
          gd (inb (((3 : Int32) * v3) + ((1 : Int32) - v6)) 360) <|
          bp (fX9_isKnown z (rd z 4 (((3 : Int32) * v2) + v6)) (rd z 4 (((3 : Int32) * v3) + ((1 : Int32) - v6))) v1) fun r155 =>
          bnd (v6 + (1 : Int32)) fun x160 =>
          (lX9_isRightByParts_103   z v1 v2 v3 v4 N) r155 x160
def jX9_isRightByParts_95   (z : fS) (v1 : Int32) (v2 : Int32) (v3 : Int32) (y0 : Int32) : Option Int32 :=
  lX9_isRightByParts_103   z v1 v2 v3 y0 FU (1 : Int32) (0 : Int32)
def fX9_isRightByParts (z : fS) (v1 : Int32) : Option Int32 :=
  gd (inb v1 100) <|
  bnd (rd z 13 v1) fun x6 =>
  gd (inb v1 100) <|
  bnd (rd z 14 v1) fun x13 =>
  gd (inb x6 120) <|
  if (rd z 3 x6) = 0 then
    some (0 : Int32)
  else
    gd (inb x6 120) <|
    gd (inb x13 120) <|
    if (rd z 1 x6) = (rd z 1 x13) then
      gd (inb x6 120) <|
      gd (inb x13 120) <|
      if (rd z 2 x6) = (rd z 2 x13) then
        gd (inb x6 120) <|
        gd (inb x13 120) <|
        if (rd z 3 x6) = (rd z 3 x13) then
          gd (inb x6 120) <|
          if (rd z 1 x6) = (4 : Int32) then
            gd (inb v1 100) <|
            if (rd z 15 v1) = (1 : Int32) then
              jX9_isRightByParts_95   z v1 x6 x13 (1 : Int32)
            else
              jX9_isRightByParts_95   z v1 x6 x13 (0 : Int32)
          else
            jX9_isRightByParts_95   z v1 x6 x13 (0 : Int32)
        else
          some (0 : Int32)
      else
        some (0 : Int32)
    else
      some (0 : Int32)
def fX9_isOfRows (z : fS) (v1 : Int32) (v2 : Int32) (v3 : Int32) (v4 : Int32) : Option Int32 :=
  gd (inb v1 100) <|
  bnd (rd z 13 v1) fun x6 =>
  gd (inb v1 100) <|
  bnd (rd z 14 v1) fun x14 =>
  gd (inb x6 120) <|
  if (rd z 1 x6) = (3 : Int32) then
    gd (inb x14 120) <|
    if (rd z 1 x14) = (3 : Int32) then
      gd (inb (((3 : Int32) * x6) + v4) 360) <|
      if (rd z 4 (((3 : Int32) * x6) + v4)) = v2 then
        gd (inb (((3 : Int32) * x14) + v4) 360) <|
        if (rd z 4 (((3 : Int32) * x14) + v4)) = v3 then
          some (1 : Int32)
        else
          some (0 : Int32)
      else
        some (0 : Int32)
    else
      some (0 : Int32)
  else
    some (0 : Int32)
def jX9_isRight_136   (z : fS) (v2 : Int32) (v3 : Int32) (v4 : Int32) : Option Int32 :=
  gd (inb v4 101) <|
  if (rd z 5 v4) = v3 then
    gd (inb v4 101) <|
    if (rd z 6 v4) = v2 then
      some (1 : Int32)
    else
      some (0 : Int32)
  else
    some (0 : Int32)
def fX9_isRight (z : fS) (v1 : Int32) : Option Int32 :=
  gd (inb v1 100) <|
  bnd (rd z 13 v1) fun x6 =>
  gd (inb v1 100) <|
  bnd (rd z 14 v1) fun x13 =>
  gd (inb v1 100) <|
  bnd (rd z 15 v1) fun x20 =>
  gd (inb v1 100) <|
  bnd (rd z 16 v1) fun x28 =>
  gd (inb v1 100) <|
  if (rd z 12 v1) = (0 : Int32) then
    if x20 < 0 then
      some (0 : Int32)
    else
      if (z 0 9) ≤ x20 then
        some (0 : Int32)
      else
        gd (inb x20 101) <|
        if (rd z 8 x20) = 0 then
          some (0 : Int32)
        else
          gd (inb x20 101) <|
          if (rd z 7 x20) = 0 then
            some (0 : Int32)
          else
            gd (inb x20 101) <|
            if (rd z 5 x20) = x6 then
              gd (inb x20 101) <|
              if (rd z 6 x20) = x13 then
                some (1 : Int32)
              else
                jX9_isRight_136   z x6 x13 x20
            else
              jX9_isRight_136   z x6 x13 x20
  else if (rd z 12 v1) = (1 : Int32) then
    if x6 = x13 then
      some (1 : Int32)
    else
      some (0 : Int32)
  else if (rd z 12 v1) = (2 : Int32) then
    bp (fX9_isStep z x20 v1) fun r179 =>
    if r179 = 0 then
      some (0 : Int32)
    else
      gd (inb x20 100) <|
      if (rd z 13 x20) = x13 then
        gd (inb x20 100) <|
        if (rd z 14 x20) = x6 then
          some (1 : Int32)
        else
          some (0 : Int32)
      else
        some (0 : Int32)
  else if (rd z 12 v1) = (3 : Int32) then
    bp (fX9_isStep z x20 v1) fun r217 =>
    if r217 = 0 then
      some (0 : Int32)
    else
      bp (fX9_isStep z x28 v1) fun r227 =>
      if r227 = 0 then
        some (0 : Int32)
      else
        gd (inb x20 100) <|
        if (rd z 13 x20) = x6 then
          gd (inb x20 100) <|
          gd (inb x28 100) <|
          if (rd z 14 x20) = (rd z 13 x28) then
            gd (inb x28 100) <|
            if (rd z 14 x28) = x13 then
              some (1 : Int32)
            else
              some (0 : Int32)
          else
            some (0 : Int32)
        else
          some (0 : Int32)
  else if (rd z 12 v1) = (4 : Int32) then
    bp (fX9_isRightByParts z v1) fun r280 =>
    gd (isb r280) <|
    some r280
  else if (rd z 12 v1) = (5 : Int32) then
    bp (fX9_isStep z x20 v1) fun r288 =>
    if r288 = 0 then
      some (0 : Int32)
    else
      gd (inb v1 100) <|
      bp (fX9_isOfRows z x20 x6 x13 ((rd z 12 v1) - (5 : Int32))) fun r307 =>
      if r307 = 0 then
        some (0 : Int32)
      else
        some (1 : Int32)
  else if (rd z 12 v1) = (6 : Int32) then
    bp (fX9_isStep z x20 v1) fun r288 =>
    if r288 = 0 then
      some (0 : Int32)
    else
      gd (inb v1 100) <|
      bp (fX9_isOfRows z x20 x6 x13 ((rd z 12 v1) - (5 : Int32))) fun r307 =>
      if r307 = 0 then
        some (0 : Int32)
      else
        some (1 : Int32)
  else 
    some (0 : Int32)
def jX9_check_26   (z : fS) (v1 : Int32) (v2 : Int32) : Option Int32 :=
  if (z 0 20) ≤ 0 then
    some (z 0 20)
  else
    gd (inb ((z 0 20) - (1 : Int32)) 100) <|
    if (rd z 13 ((z 0 20) - (1 : Int32))) = v1 then
      gd (inb ((z 0 20) - (1 : Int32)) 100) <|
      if (rd z 14 ((z 0 20) - (1 : Int32))) = v2 then
        some (-1 : Int32)
      else
        some (z 0 20)
    else
      some (z 0 20)
def lX9_check_2  (k26 : Option Int32) (z : fS) (v1 : Int32) (v2 : Int32) : Nat → Int32 → Option Int32
  | 0, _ => none
  | N + 1, v3 =>
    if (z 0 20) ≤ v3 then
      k26 
    else
      bp (fX9_isRight z v3) fun r12 =>
      if r12 = 0 then
        some v3
      else
        bnd (v3 + (1 : Int32)) fun x20 =>
        (lX9_check_2  k26 z v1 v2 N) x20
def fX9_check (z : fS) (v1 : Int32) (v2 : Int32) : Option Int32 :=
  lX9_check_2  (jX9_check_26   z v1 v2) z v1 v2 FU (0 : Int32)
def fX9_status (z : fS) : Option Int32 :=
  some (z 0 26)
def zX0 : fS := fun k => if k = 7 then fillr (fun _ => 0) (-1) 128 else if k = 35 then fillr (fun _ => 0) (-1) 128 else if k = 45 then fillr (fun _ => 0) (-1) 128 else if k = 55 then fillr (fun _ => 0) (-1) 128 else if k = 0 then upd (fun _ => 0) 11 (-1) else if k = 17 then upd (fun _ => 0) 4 1 else fun _ => 0
def zM0 : fS := fun k => if k = 0 then upd (fun _ => 0) 25 (-1) else fun _ => 0
def st_name (Rel : Nat → fS → fS → Prop) : Prop := ∀ (i : Nat) (zX zM : fS) (a1 : Int32) , i < 512 → Rel i zX zM → ∃ (r : Int32) (tX : fS) (tM : fS), fX8_name zX a1 = some (r, tX) ∧ fX9_name zM a1 = some (r, tM) ∧ Rel (i + 1) tX tM
def st_number (Rel : Nat → fS → fS → Prop) : Prop := ∀ (i : Nat) (zX zM : fS) (a1 : Int32) , i < 512 → Rel i zX zM → ∃ (r : Int32) (tX : fS) (tM : fS), fX8_number zX a1 = some (r, tX) ∧ fX9_number zM a1 = some (r, tM) ∧ Rel (i + 1) tX tM
def st_built (Rel : Nat → fS → fS → Prop) : Prop := ∀ (i : Nat) (zX zM : fS) (a1 a2 a3 a4 a5 : Int32) , i < 512 → Rel i zX zM → ∃ (r : Int32) (tX : fS) (tM : fS), fX8_built zX a1 a2 a3 a4 a5 = some (r, tX) ∧ fX9_built zM a1 a2 a3 a4 a5 = some (r, tM) ∧ Rel (i + 1) tX tM
def st_row (Rel : Nat → fS → fS → Prop) : Prop := ∀ (i : Nat) (zX zM : fS) (a1 a2 : Int32) , i < 512 → Rel i zX zM → ∃ (r : Int32) (tX : fS) (tM : fS), fX8_row zX a1 a2 = some (r, tX) ∧ fX9_row zM a1 a2 = some (r, tM) ∧ Rel (i + 1) tX tM
def st_even (Rel : Nat → fS → fS → Prop) : Prop := ∀ (i : Nat) (zX zM : fS) (a1 a2 a3 : Int32) , i < 512 → Rel i zX zM → ∃ (r : Int32) (tX : fS) (tM : fS), fX8_even zX a1 a2 a3 = some (r, tX) ∧ fX9_even zM a1 a2 a3 = some (r, tM) ∧ Rel (i + 1) tX tM
def st_kind (Rel : Nat → fS → fS → Prop) : Prop := ∀ (i : Nat) (zX zM : fS) (a1 : Int32) , i < 512 → Rel i zX zM → ∃ (r : Int32), fX8_kind zX a1 = some r ∧ fX9_kind zM a1 = some r ∧ Rel (i + 1) zX zM
def st_part (Rel : Nat → fS → fS → Prop) : Prop := ∀ (i : Nat) (zX zM : fS) (a1 a2 : Int32) , i < 512 → Rel i zX zM → ∃ (r : Int32) (tX : fS) (tM : fS), fX8_part zX a1 a2 = some (r, tX) ∧ fX9_part zM a1 a2 = some (r, tM) ∧ Rel (i + 1) tX tM
def st_shows (Rel : Nat → fS → fS → Prop) : Prop := ∀ (i : Nat) (zX zM : fS) (a1 : Int32) , i < 512 → Rel i zX zM → ∃ (r : Int32) (tX : fS) (tM : fS), fX8_shows zX a1 = some (r, tX) ∧ fX9_shows zM a1 = some (r, tM) ∧ Rel (i + 1) tX tM
def st_many (Rel : Nat → fS → fS → Prop) : Prop := ∀ (i : Nat) (zX zM : fS) (a1 : Int32) , i < 512 → Rel i zX zM → ∃ (r : Int32) (tM : fS), fX8_many zX a1 = some r ∧ fX9_many zM a1 = some (r, tM) ∧ Rel (i + 1) zX tM
def st_say (Rel : Nat → fS → fS → Prop) : Prop := ∀ (i : Nat) (zX zM : fS) (a1 a2 : Int32) , i < 512 → Rel i zX zM → ∃ (r : Int32) (tX : fS) (tM : fS), fX8_say zX a1 a2 = some (r, tX) ∧ fX9_say zM a1 a2 = some (r, tM) ∧ Rel (i + 1) tX tM
def st_unlike (Rel : Nat → fS → fS → Prop) : Prop := ∀ (i : Nat) (zX zM : fS) (a1 a2 : Int32) , i < 512 → Rel i zX zM → ∃ (r : Int32) (tX : fS) (tM : fS), fX8_unlike zX a1 a2 = some (r, tX) ∧ fX9_unlike zM a1 a2 = some (r, tM) ∧ Rel (i + 1) tX tM
def st_drop (Rel : Nat → fS → fS → Prop) : Prop := ∀ (i : Nat) (zX zM : fS) (a1 : Int32) , i < 512 → Rel i zX zM → ∃ (r : Int32) (tX : fS) (tM : fS), fX8_drop zX a1 = some (r, tX) ∧ fX9_drop zM a1 = some (r, tM) ∧ Rel (i + 1) tX tM
def st_said (Rel : Nat → fS → fS → Prop) : Prop := ∀ (i : Nat) (zX zM : fS) (a1 a2 : Int32) , i < 512 → Rel i zX zM → ∃ (r : Int32), fX8_said zX a1 a2 = some r ∧ fX9_said zM a1 a2 = some r ∧ Rel (i + 1) zX zM
def st_clashed (Rel : Nat → fS → fS → Prop) : Prop := ∀ (i : Nat) (zX zM : fS) (a1 : Int32) , i < 512 → Rel i zX zM → ∃ (r : Int32), fX8_clashed zX a1 = some r ∧ fX9_clashed zM a1 = some r ∧ Rel (i + 1) zX zM
def st_judge (Rel : Nat → fS → fS → Prop) : Prop := ∀ (i : Nat) (zX zM : fS) (a1 a2 : Int32) , i < 512 → Rel i zX zM → ∃ (r : Int32) (tX : fS) (tM : fS), fX8_judge zX a1 a2 = some (r, tX) ∧ fX9_judge zM a1 a2 = some (r, tM) ∧ Rel (i + 1) tX tM
def st_why (Rel : Nat → fS → fS → Prop) : Prop := ∀ (i : Nat) (zX zM : fS) (a1 a2 : Int32) , i < 512 → Rel i zX zM → ∃ (r : Int32) (tX : fS) (tM : fS), fX8_why zX a1 a2 = some (r, tX) ∧ fX9_why zM a1 a2 = some (r, tM) ∧ Rel (i + 1) tX tM
def st_least (Rel : Nat → fS → fS → Prop) : Prop := ∀ (i : Nat) (zX zM : fS) (a1 a2 a3 : Int32) , i < 512 → Rel i zX zM → ∃ (r : Int32) (tX : fS) (tM : fS), fX8_least zX a1 a2 a3 = some (r, tX) ∧ fX9_least zM a1 a2 a3 = some (r, tM) ∧ Rel (i + 1) tX tM
def st_because (Rel : Nat → fS → fS → Prop) : Prop := ∀ (i : Nat) (zX zM : fS) (a1 : Int32) , i < 512 → Rel i zX zM → ∃ (r : Int32), fX8_because zX a1 = some r ∧ fX9_because zM a1 = some r ∧ Rel (i + 1) zX zM
def st_head (Rel : Nat → fS → fS → Prop) : Prop := ∀ (i : Nat) (zX zM : fS) (a1 : Int32) , i < 512 → Rel i zX zM → ∃ (r : Int32) (tM : fS), fX8_head zX a1 = some r ∧ fX9_head zM a1 = some (r, tM) ∧ Rel (i + 1) zX tM
def st_member (Rel : Nat → fS → fS → Prop) : Prop := ∀ (i : Nat) (zX zM : fS) (a1 a2 : Int32) , i < 512 → Rel i zX zM → ∃ (r : Int32) (tM : fS), fX8_member zX a1 a2 = some r ∧ fX9_member zM a1 a2 = some (r, tM) ∧ Rel (i + 1) zX tM
def st_uses (Rel : Nat → fS → fS → Prop) : Prop := ∀ (i : Nat) (zX zM : fS) (a1 a2 : Int32) , i < 512 → Rel i zX zM → ∃ (r : Int32) (tM : fS), fX8_uses zX a1 a2 = some r ∧ fX9_uses zM a1 a2 = some (r, tM) ∧ Rel (i + 1) zX tM
def st_world (Rel : Nat → fS → fS → Prop) : Prop := ∀ (i : Nat) (zX zM : fS) (a1 : Int32) , i < 512 → Rel i zX zM → ∃ (r : Int64) (tM : fS), fX8_world zX a1 = some r ∧ fX9_world zM a1 = some (r, tM) ∧ Rel (i + 1) zX tM
def st_push (Rel : Nat → fS → fS → Prop) : Prop := ∀ (i : Nat) (zX zM : fS) , i < 512 → Rel i zX zM → ∃ (r : Int32) (tX : fS) (tM : fS), fX8_push zX  = some (r, tX) ∧ fX9_push zM  = some (r, tM) ∧ Rel (i + 1) tX tM
def st_pop (Rel : Nat → fS → fS → Prop) : Prop := ∀ (i : Nat) (zX zM : fS) , i < 512 → Rel i zX zM → ∃ (r : Int32) (tX : fS) (tM : fS), fX8_pop zX  = some (r, tX) ∧ fX9_pop zM  = some (r, tM) ∧ Rel (i + 1) tX tM
def st_law (Rel : Nat → fS → fS → Prop) : Prop := ∀ (i : Nat) (zX zM : fS) (a1 a2 : Int32) , i < 512 → Rel i zX zM → ∃ (r : Int32) (tX : fS) (tM : fS), fX8_law zX a1 a2 = some (r, tX) ∧ fX9_law zM a1 a2 = some (r, tM) ∧ Rel (i + 1) tX tM
def st_instance (Rel : Nat → fS → fS → Prop) : Prop := ∀ (i : Nat) (zX zM : fS) (a1 a2 a3 a4 : Int32) , i < 512 → Rel i zX zM → ∃ (r : Int32) (tX : fS) (tM : fS), fX8_instance zX a1 a2 a3 a4 = some (r, tX) ∧ fX9_instance zM a1 a2 a3 a4 = some (r, tM) ∧ Rel (i + 1) tX tM
def st_follow (Rel : Nat → fS → fS → Prop) : Prop := ∀ (i : Nat) (zX zM : fS) (a1 a2 : Int32) , i < 512 → Rel i zX zM → ∃ (r : Int32) (tX : fS) (tM : fS), fX8_follow zX a1 a2 = some (r, tX) ∧ fX9_follow zM a1 a2 = some (r, tM) ∧ Rel (i + 1) tX tM
def st_ended (Rel : Nat → fS → fS → Prop) : Prop := ∀ (i : Nat) (zX zM : fS) , i < 512 → Rel i zX zM → ∃ (r : Int32), fX8_ended zX  = some r ∧ fX9_ended zM  = some r ∧ Rel (i + 1) zX zM
def st_claim (Rel : Nat → fS → fS → Prop) : Prop := ∀ (i : Nat) (zX zM : fS) (a1 a2 a3 a4 a5 : Int32) , i < 512 → Rel i zX zM → ∃ (r : Int32) (tX : fS) (tM : fS), fX8_claim zX a1 a2 a3 a4 a5 = some (r, tX) ∧ fX9_claim zM a1 a2 a3 a4 a5 = some (r, tM) ∧ Rel (i + 1) tX tM
def st_unclaim (Rel : Nat → fS → fS → Prop) : Prop := ∀ (i : Nat) (zX zM : fS) , i < 512 → Rel i zX zM → ∃ (r : Int32) (tX : fS) (tM : fS), fX8_unclaim zX  = some (r, tX) ∧ fX9_unclaim zM  = some (r, tM) ∧ Rel (i + 1) tX tM
def st_check (Rel : Nat → fS → fS → Prop) : Prop := ∀ (i : Nat) (zX zM : fS) (a1 a2 : Int32) , i < 512 → Rel i zX zM → ∃ (r : Int32), fX8_check zX a1 a2 = some r ∧ fX9_check zM a1 a2 = some r ∧ Rel (i + 1) zX zM
def st_status (Rel : Nat → fS → fS → Prop) : Prop := ∀ (i : Nat) (zX zM : fS) , i < 512 → Rel i zX zM → ∃ (r : Int32), fX8_status zX  = some r ∧ fX9_status zM  = some r ∧ Rel (i + 1) zX zM
def StepOK (Rel : Nat → fS → fS → Prop) : Prop := st_name Rel ∧ st_number Rel ∧ st_built Rel ∧ st_row Rel ∧ st_even Rel ∧ st_kind Rel ∧ st_part Rel ∧ st_shows Rel ∧ st_many Rel ∧ st_say Rel ∧ st_unlike Rel ∧ st_drop Rel ∧ st_said Rel ∧ st_clashed Rel ∧ st_judge Rel ∧ st_why Rel ∧ st_least Rel ∧ st_because Rel ∧ st_head Rel ∧ st_member Rel ∧ st_uses Rel ∧ st_world Rel ∧ st_push Rel ∧ st_pop Rel ∧ st_law Rel ∧ st_instance Rel ∧ st_follow Rel ∧ st_ended Rel ∧ st_claim Rel ∧ st_unclaim Rel ∧ st_check Rel ∧ st_status Rel
end
