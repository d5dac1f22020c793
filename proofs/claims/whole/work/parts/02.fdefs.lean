noncomputable section
def fX0_putPair (z : fS) (v1 : Int32) (v2 : Int32) : Option fS :=
  if (242 : Int32) ≤ (z 23 4) then
    some z
  else
    gd (inb (z 23 4) 242) <|
    bnd (wr z 24 (z 23 4) v1) fun z19 =>
    gd (inb (z19 23 4) 242) <|
    bnd (wr z19 25 (z19 23 4) v2) fun z29 =>
    bnd (wf z29 23 4 ((z29 23 4) + (1 : Int32))) fun z37 =>
    some z37
def fX0_hasPair (z : fS) : Option Int32 :=
  if (z 23 4) ≤ 0 then
    some (0 : Int32)
  else
    some (1 : Int32)
def fX0_lastLeft (z : fS) : Option Int32 :=
  gd (inb ((z 23 4) - (1 : Int32)) 242) <|
  some (rd z 24 ((z 23 4) - (1 : Int32)))
def fX0_lastRight (z : fS) : Option Int32 :=
  gd (inb ((z 23 4) - (1 : Int32)) 242) <|
  some (rd z 25 ((z 23 4) - (1 : Int32)))
def fX0_removePair (z : fS) : Option fS :=
  bnd (wf z 23 4 ((z 23 4) - (1 : Int32))) fun z7 =>
  some z7
def fX0_putChanged (z : fS) (v1 : Int32) : Option fS :=
  gd (inb v1 120) <|
  if (rd z 27 v1) = 0 then
    if (120 : Int32) ≤ (z 23 5) then
      some z
    else
      gd (inb v1 120) <|
      bnd (wr z 27 v1 (zb (1 : Int32))) fun z24 =>
      gd (inb (z24 23 5) 120) <|
      bnd (wr z24 26 (z24 23 5) v1) fun z34 =>
      bnd (wf z34 23 5 ((z34 23 5) + (1 : Int32))) fun z42 =>
      some z42
  else
    some z
def fX0_hasChanged (z : fS) : Option Int32 :=
  if (z 23 5) ≤ 0 then
    some (0 : Int32)
  else
    some (1 : Int32)
def fX0_takeChanged (z : fS) : Option (Int32 × fS) :=
  bnd (wf z 23 5 ((z 23 5) - (1 : Int32))) fun z7 =>
  gd (inb (z7 23 5) 120) <|
  bnd (rd z7 26 (z7 23 5)) fun x19 =>
  gd (inb x19 120) <|
  bnd (wr z7 27 x19 (zb (0 : Int32))) fun z26 =>
  some (x19, z26)
def lX0_clear_7    : Nat → Int32 → fS → Option fS
  | 0, _, _ => none
  | N + 1, v1, z =>
    if (z 23 5) ≤ v1 then
      bnd (wf z 23 5 (0 : Int32)) fun z35 =>
      some z35
    else
      gd (inb v1 120) <|
      gd (inb (rd z 26 v1) 120) <|
      bnd (wr z 27 (rd z 26 v1) (zb (0 : Int32))) fun z26 =>
      bnd (v1 + (1 : Int32)) fun x27 =>
      (lX0_clear_7    N) x27 z26
def fX0_clear (z : fS) : Option fS :=
  bnd (wf z 23 4 (0 : Int32)) fun z2 =>
  lX0_clear_7    FU (0 : Int32) z2
def fX1_count (pb : Nat) (z : fS) : Option Int32 :=
  some (z pb 1)
def fX1_at (pb : Nat) (z : fS) (v1 : Int32) : Option Int32 :=
  if v1 < 0 then
    some (-1 : Int32)
  else
    if (z pb 1) ≤ v1 then
      some (-1 : Int32)
    else
      gd (inb v1 100) <|
      some (rd z (pb + 1) v1)
def fX1_add (pb : Nat) (z : fS) (v1 : Int32) : Option fS :=
  if (100 : Int32) ≤ (z pb 1) then
    some z
  else
    gd (inb (z pb 1) 100) <|
    bnd (wr z (pb + 1) (z pb 1) v1) fun z18 =>
    bnd (wf z18 pb 1 ((z18 pb 1) + (1 : Int32))) fun z26 =>
    some z26
def fX1_clear (pb : Nat) (z : fS) : Option fS :=
  bnd (wf z pb 1 (0 : Int32)) fun z2 =>
  some z2
def fX2_standing (z : fS) : Option Int32 :=
  some (z 17 3)
def fX7_count (z : fS) : Option Int32 :=
  some (z 1 9)
def fX7_kindOf (z : fS) (v1 : Int32) : Option Int32 :=
  gd (inb v1 120) <|
  some (rd z 2 v1)
def fX7_sizeOf (z : fS) (v1 : Int32) : Option Int32 :=
  gd (inb v1 120) <|
  some (rd z 4 v1)
def jX4_unite_206 (pb : Nat)  (v1 : Int32) (v2 : Int32) (z : fS) : Option fS :=
  bnd (wf z pb 13 (1 : Int32)) fun z211 =>
  gd (inb v2 120) <|
  gd (inb v1 120) <|
  bnd (wr z211 (pb + 5) v1 (rd z211 (pb + 5) v2)) fun z225 =>
  some z225
def jX4_unite_104 (pb : Nat)  (v1 : Int32) (v2 : Int32) (z : fS) : Option fS :=
  gd (inb v1 120) <|
  bnd (rd z (pb + 2) v1) fun x110 =>
  gd (inb v2 120) <|
  gd (inb v1 120) <|
  bnd (wr z (pb + 2) v1 (rd z (pb + 2) v2)) fun z123 =>
  gd (inb v2 120) <|
  bnd (wr z123 (pb + 2) v2 x110) fun z131 =>
  gd (inb v1 120) <|
  gd (inb v2 120) <|
  gd (inb v1 120) <|
  bnd (wr z131 (pb + 3) v1 ((rd z131 (pb + 3) v1) + (rd z131 (pb + 3) v2))) fun z146 =>
  gd (inb v1 120) <|
  gd (inb v2 120) <|
  gd (inb v1 120) <|
  bnd (wr z146 (pb + 4) v1 (if (rd z146 (pb + 4) v2) < (rd z146 (pb + 4) v1) then (rd z146 (pb + 4) v2) else (rd z146 (pb + 4) v1))) fun z167 =>
  bnd (wf z167 pb 12 ((z167 pb 12) - (1 : Int32))) fun z175 =>
  gd (inb v2 120) <|
  if (rd z175 (pb + 5) v2) = (-1 : Int32) then
    some z175
  else
    if (z175 pb 13) = 0 then
      gd (inb v1 120) <|
      if (rd z175 (pb + 5) v1) = (-1 : Int32) then
        bnd (wf z175 pb 13 (0 : Int32)) fun z211 =>
        gd (inb v2 120) <|
        gd (inb v1 120) <|
        bnd (wr z211 (pb + 5) v1 (rd z211 (pb + 5) v2)) fun z225 =>
        some z225
      else
        jX4_unite_206 pb  v1 v2 z175
    else
      jX4_unite_206 pb  v1 v2 z175
def jX4_unite_91 (pb : Nat) (rc : Int32 → Int32 → fS → Option fS) (k104 : fS → Option fS) (v1 : Int32) (v2 : Int32) (v3 : Int32) (v4 : Int32) (z : fS) : Option fS :=
  gd (inb v3 120) <|
  bnd (rd z (pb + 2) v3) fun x97 =>
  bnd (v4 + (1 : Int32)) fun x98 =>
  rc x97 x98 z
def lX4_unite_37 (pb : Nat) (k91 : fS → Option fS) (v1 : Int32) (v2 : Int32) (v3 : Int32) (v4 : Int32) : Nat → Int32 → Int32 → fS → Option fS
  | 0, _, _, _ => none
  | N + 1, v5, v6, z =>
    if (360 : Int32) ≤ v6 then
      k91 z
    else
      if v5 = (-1 : Int32) then
        k91 z
      else
        if (z pb 11) ≤ (v5 / (3 : Int32)) then
          gd (inb v5 360) <|
          bnd (rd z 10 v5) fun x83 =>
          bnd (v6 + (1 : Int32)) fun x85 =>
          (lX4_unite_37 pb k91 v1 v2 v3 v4 N) x83 x85 z
        else
          bp (fX0_putChanged z (v5 / (3 : Int32))) fun z70 =>
          gd (inb v5 360) <|
          bnd (rd z70 10 v5) fun x83 =>
          bnd (v6 + (1 : Int32)) fun x85 =>
          (lX4_unite_37 pb k91 v1 v2 v3 v4 N) x83 x85 z70
def lX4_unite_5 (pb : Nat) (k104 : fS → Option fS) (v1 : Int32) (v2 : Int32) : Nat → Int32 → Int32 → fS → Option fS
  | 0, _, _, _ => none
  | N + 1, v3, v4, z =>
    gd (inb v2 120) <|
    if (rd z (pb + 3) v2) ≤ v4 then
      k104 z
    else
      gd (inb v3 120) <|
      bnd (wr z (pb + 1) v3 v1) fun z22 =>
      gd (inb v3 120) <|
      bnd (rd z22 9 v3) fun x32 =>
      lX4_unite_37 pb (jX4_unite_91 pb (lX4_unite_5 pb k104 v1 v2 N) k104 v1 v2 v3 v4) v1 v2 v3 v4 FU x32 (0 : Int32) z22
def fX4_unite (pb : Nat) (z : fS) (v1 : Int32) (v2 : Int32) : Option fS :=
  lX4_unite_5 pb (jX4_unite_104 pb  v1 v2) v1 v2 FU v2 (0 : Int32) z
def fX4_uniteRows (pb : Nat) (z : fS) (v1 : Int32) (v2 : Int32) : Option fS :=
  gd (inb v2 120) <|
  bnd (rd z (pb + 6) v2) fun x6 =>
  gd (inb v1 120) <|
  bnd (rd z (pb + 6) v1) fun x13 =>
  if x13 = (-1 : Int32) then
    gd (inb v1 120) <|
    bnd (wr z (pb + 6) v1 x6) fun z27 =>
    some z27
  else
    if x6 = (-1 : Int32) then
      some z
    else
      gd (inb ((3 : Int32) * x13) 360) <|
      gd (inb ((3 : Int32) * x6) 360) <|
      bp (fX0_putPair z (rd z 5 ((3 : Int32) * x13)) (rd z 5 ((3 : Int32) * x6))) fun z63 =>
      gd (inb (((3 : Int32) * x13) + (1 : Int32)) 360) <|
      gd (inb (((3 : Int32) * x6) + (1 : Int32)) 360) <|
      bp (fX0_putPair z63 (rd z63 5 (((3 : Int32) * x13) + (1 : Int32))) (rd z63 5 (((3 : Int32) * x6) + (1 : Int32)))) fun z97 =>
      some z97
def lX4_takeOut_53 (pb : Nat)  (z : fS) (v1 : Int32) : Nat → Int32 → Int32 → Option fS
  | 0, _, _ => none
  | N + 1, v3, v4 =>
    if (120 : Int32) ≤ v4 then
      some z
    else
      if v3 = (-1 : Int32) then
        some z
      else
        gd (inb v3 120) <|
        if (rd z (pb + 8) v3) = v1 then
          gd (inb v1 120) <|
          gd (inb v3 120) <|
          bnd (wr z (pb + 8) v3 (rd z (pb + 8) v1)) fun z86 =>
          some z86
        else
          gd (inb v3 120) <|
          bnd (rd z (pb + 8) v3) fun x94 =>
          bnd (v4 + (1 : Int32)) fun x95 =>
          (lX4_takeOut_53 pb  z v1 N) x94 x95
def fX4_takeOut (pb : Nat) (z : fS) (v1 : Int32) : Option fS :=
  gd (inb v1 120) <|
  bnd (rd z (pb + 9) v1) fun x6 =>
  if x6 = (-1 : Int32) then
    some z
  else
    gd (inb v1 120) <|
    bnd (wr z (pb + 9) v1 (-1 : Int32)) fun z19 =>
    gd (inb x6 128) <|
    if (rd z19 (pb + 7) x6) = v1 then
      gd (inb v1 120) <|
      gd (inb x6 128) <|
      bnd (wr z19 (pb + 7) x6 (rd z19 (pb + 8) v1)) fun z41 =>
      some z41
    else
      gd (inb x6 128) <|
      bnd (rd z19 (pb + 7) x6) fun x49 =>
      lX4_takeOut_53 pb  z19 v1 FU x49 (0 : Int32)
def fX4_rootOfPart (pb : Nat) (z : fS) (v1 : Int32) (v2 : Int32) : Option Int32 :=
  gd (inb v1 120) <|
  if (rd z 4 v1) ≤ v2 then
    some (-1 : Int32)
  else
    gd (inb (((3 : Int32) * v1) + v2) 360) <|
    gd (inb (rd z 5 (((3 : Int32) * v1) + v2)) 120) <|
    some (rd z (pb + 1) (rd z 5 (((3 : Int32) * v1) + v2)))
def fX8_slotFor (z : fS) (v0 : Int32) (v1 : Int32) (v2 : Int32) (v3 : Int32) (v4 : Int32) : Option Int32 :=
  bnd ((((((((v0 * (31 : Int32)) + v1) * (127 : Int32)) + v2) * (127 : Int32)) + v3) * (127 : Int32)) + v4) fun x22 =>
  some (((x22 * (-1640531535 : Int32)).toUInt32 >>> ((25 : Int32).toUInt32 &&& Int32.toUInt32 31)).toInt32)
def jX4_isBuiltAlike_146 (pb : Nat)  (z : fS) (v1 : Int32) (v4 : Int32) (v5 : Int32) (v6 : Int32) : Option Int32 :=
  if v6 = 0 then
    gd (inb v1 120) <|
    if (rd z 2 v1) = (4 : Int32) then
      gd (inb v4 360) <|
      gd (inb (rd z 5 v4) 120) <|
      gd (inb (v5 + (1 : Int32)) 360) <|
      gd (inb (rd z 5 (v5 + (1 : Int32))) 120) <|
      if (rd z (pb + 1) (rd z 5 v4)) = (rd z (pb + 1) (rd z 5 (v5 + (1 : Int32)))) then
        gd (inb (v4 + (1 : Int32)) 360) <|
        gd (inb (rd z 5 (v4 + (1 : Int32))) 120) <|
        gd (inb v5 360) <|
        gd (inb (rd z 5 v5) 120) <|
        if (rd z (pb + 1) (rd z 5 (v4 + (1 : Int32)))) = (rd z (pb + 1) (rd z 5 v5)) then
          some (1 : Int32)
        else
          some (0 : Int32)
      else
        some (0 : Int32)
    else
      gd (isb v6) <|
      some v6
  else
    gd (isb v6) <|
    some v6
def lX4_isBuiltAlike_83 (pb : Nat) (k146 : Int32 → Option Int32) (z : fS) (v1 : Int32) (v3 : Int32) (v4 : Int32) (v5 : Int32) : Nat → Int32 → Int32 → Option Int32
  | 0, _, _ => none
  | N + 1, v6, v7 =>
    if v3 ≤ v7 then
      k146 v6
    else
      if v6 = 0 then
        k146 v6
      else
        gd (inb (v4 + v7) 360) <|
        gd (inb (rd z 5 (v4 + v7)) 120) <|
        gd (inb (v5 + v7) 360) <|
        gd (inb (rd z 5 (v5 + v7)) 120) <|
        if (rd z (pb + 1) (rd z 5 (v4 + v7))) = (rd z (pb + 1) (rd z 5 (v5 + v7))) then
          bnd (v7 + (1 : Int32)) fun x140 =>
          (lX4_isBuiltAlike_83 pb k146 z v1 v3 v4 v5 N) (1 : Int32) x140
        else
          bnd (v7 + (1 : Int32)) fun x140 =>
          (lX4_isBuiltAlike_83 pb k146 z v1 v3 v4 v5 N) (0 : Int32) x140
def fX4_isBuiltAlike (pb : Nat) (z : fS) (v1 : Int32) (v2 : Int32) : Option Int32 :=
  gd (inb v1 120) <|
  bnd (rd z 4 v1) fun x9 =>
  gd (inb v1 120) <|
  gd (inb v2 120) <|
  if (rd z 2 v1) = (rd z 2 v2) then
    gd (inb v1 120) <|
    gd (inb v2 120) <|
    if (rd z 3 v1) = (rd z 3 v2) then
      gd (inb v2 120) <|
      if x9 = (rd z 4 v2) then
        bnd ((3 : Int32) * v1) fun x70 =>
        bnd ((3 : Int32) * v2) fun x75 =>
        lX4_isBuiltAlike_83 pb (jX4_isBuiltAlike_146 pb  z v1 x70 x75) z v1 x9 x70 x75 FU (1 : Int32) (0 : Int32)
      else
        some (0 : Int32)
    else
      some (0 : Int32)
  else
    some (0 : Int32)
def jX4_review_154 (pb : Nat)  (z : fS) (v1 : Int32) (v5 : Int32) : Option fS :=
  gd (inb v1 120) <|
  bnd (wr z (pb + 9) v1 v5) fun z161 =>
  gd (inb v5 128) <|
  gd (inb v1 120) <|
  bnd (wr z161 (pb + 8) v1 (rd z161 (pb + 7) v5)) fun z174 =>
  gd (inb v5 128) <|
  bnd (wr z174 (pb + 7) v5 v1) fun z182 =>
  some z182
def lX4_review_105 (pb : Nat) (k154 : Option fS) (z : fS) (v1 : Int32) (v5 : Int32) : Nat → Int32 → Int32 → Option fS
  | 0, _, _ => none
  | N + 1, v6, v7 =>
    if (120 : Int32) ≤ v7 then
      k154 
    else
      if v6 = (-1 : Int32) then
        k154 
      else
        bp (fX4_isBuiltAlike pb z v1 v6) fun r122 =>
        if r122 = 0 then
          gd (inb v6 120) <|
          bnd (rd z (pb + 8) v6) fun x146 =>
          bnd (v7 + (1 : Int32)) fun x148 =>
          (lX4_review_105 pb k154 z v1 v5 N) x146 x148
        else
          bp (fX0_putPair z v1 v6) fun z135 =>
          some z135
def jX4_review_82 (pb : Nat)  (v1 : Int32) (y0 : Int32) (y1 : Int32) (y2 : Int32) (y3 : Int32) (z : fS) : Option fS :=
  bp (fX4_rootOfPart pb z v1 (2 : Int32)) fun r85 =>
  bp (fX8_slotFor z y3 y2 y1 y0 r85) fun r88 =>
  gd (inb r88 128) <|
  bnd (rd z (pb + 7) r88) fun x100 =>
  lX4_review_105 pb (jX4_review_154 pb  z v1 r88) z v1 r88 FU x100 (0 : Int32)
def jX4_review_72 (pb : Nat)  (v1 : Int32) (v2 : Int32) (v3 : Int32) (v4 : Int32) (y0 : Int32) (y1 : Int32) (y2 : Int32) (z : fS) : Option fS :=
  if v4 = 0 then
    jX4_review_82 pb  v1 v3 y0 y1 y2 z
  else
    jX4_review_82 pb  v1 v2 y0 y1 y2 z
def jX4_review_42 (pb : Nat)  (v1 : Int32) (v2 : Int32) (v3 : Int32) (y0 : Int32) (z : fS) : Option fS :=
  gd (inb v1 120) <|
  gd (inb v1 120) <|
  if y0 = 0 then
    jX4_review_72 pb  v1 v2 v3 y0 v2 (rd z 3 v1) (rd z 2 v1) z
  else
    jX4_review_72 pb  v1 v2 v3 y0 v3 (rd z 3 v1) (rd z 2 v1) z
def fX4_review (pb : Nat) (z : fS) (v1 : Int32) : Option fS :=
  bp (fX4_takeOut pb z v1) fun z2 =>
  bp (fX4_rootOfPart pb z2 v1 (0 : Int32)) fun r8 =>
  bp (fX4_rootOfPart pb z2 v1 (1 : Int32)) fun r15 =>
  gd (inb v1 120) <|
  if (rd z2 2 v1) = (4 : Int32) then
    if r8 ≤ r15 then
      jX4_review_42 pb  v1 r8 r15 (0 : Int32) z2
    else
      jX4_review_42 pb  v1 r8 r15 (1 : Int32) z2
  else
    jX4_review_42 pb  v1 r8 r15 (0 : Int32) z2
def jX4_join_141 (pb : Nat) (rc : Int32 → fS → Option fS) (v3 : Int32) (v4 : Int32) (v5 : Int32) (v6 : Int32) (y0 : Int32) (z : fS) : Option fS :=
  if v6 = 0 then
    bp (fX4_uniteRows pb z y0 v5) fun z153 =>
    bnd (v3 + (1 : Int32)) fun x180 =>
    rc x180 z153
  else
    bp (fX4_uniteRows pb z y0 v4) fun z153 =>
    bnd (v3 + (1 : Int32)) fun x180 =>
    rc x180 z153
def jX4_join_125 (pb : Nat) (rc : Int32 → fS → Option fS) (v3 : Int32) (v4 : Int32) (v5 : Int32) (v6 : Int32) (y0 : Int32) (y1 : Int32) (z : fS) : Option fS :=
  bp (fX4_unite pb z y1 y0) fun z125 =>
  if v6 = 0 then
    jX4_join_141 pb rc v3 v4 v5 v6 v4 z125
  else
    jX4_join_141 pb rc v3 v4 v5 v6 v5 z125
def jX4_join_113 (pb : Nat) (rc : Int32 → fS → Option fS) (v3 : Int32) (v4 : Int32) (v5 : Int32) (v6 : Int32) (y0 : Int32) (z : fS) : Option fS :=
  if v6 = 0 then
    jX4_join_125 pb rc v3 v4 v5 v6 v5 y0 z
  else
    jX4_join_125 pb rc v3 v4 v5 v6 v4 y0 z
def jX4_join_98 (pb : Nat) (rc : Int32 → fS → Option fS) (v3 : Int32) (v4 : Int32) (v5 : Int32) (y0 : Int32) (z : fS) : Option fS :=
  if y0 = 0 then
    jX4_join_113 pb rc v3 v4 v5 y0 v4 z
  else
    jX4_join_113 pb rc v3 v4 v5 y0 v5 z
def lX4_join_11 (pb : Nat)   : Nat → Int32 → fS → Option fS
  | 0, _, _ => none
  | N + 1, v3, z =>
    if (1000000 : Int32) ≤ v3 then
      bp (fX0_clear z) fun z190 =>
      some z190
    else
      if (z pb 13) = 0 then
        bp (fX0_hasPair z) fun r28 =>
        if r28 = 0 then
          bp (fX0_hasChanged z) fun r163 =>
          if r163 = 0 then
            bp (fX0_clear z) fun z190 =>
            some z190
          else
            bd (fX0_takeChanged z) fun r174 z174 =>
            bp (fX4_review pb z174 r174) fun z177 =>
            bnd (v3 + (1 : Int32)) fun x180 =>
            (lX4_join_11 pb   N) x180 z177
        else
          bp (fX0_lastLeft z) fun r42 =>
          gd (inb r42 120) <|
          bnd (rd z (pb + 1) r42) fun x46 =>
          bp (fX0_lastRight z) fun r56 =>
          gd (inb r56 120) <|
          bnd (rd z (pb + 1) r56) fun x60 =>
          bp (fX0_removePair z) fun z66 =>
          if x46 = x60 then
            bnd (v3 + (1 : Int32)) fun x180 =>
            (lX4_join_11 pb   N) x180 z66
          else
            gd (inb x46 120) <|
            gd (inb x60 120) <|
            if (rd z66 (pb + 3) x60) ≤ (rd z66 (pb + 3) x46) then
              jX4_join_98 pb (lX4_join_11 pb   N) v3 x46 x60 (0 : Int32) z66
            else
              jX4_join_98 pb (lX4_join_11 pb   N) v3 x46 x60 (1 : Int32) z66
      else
        bp (fX0_clear z) fun z190 =>
        some z190
def fX4_join (pb : Nat) (z : fS) (v1 : Int32) (v2 : Int32) : Option fS :=
  bp (fX0_putPair z v1 v2) fun z6 =>
  lX4_join_11 pb   FU (0 : Int32) z6
def jX4_admit_73 (pb : Nat)  (v1 : Int32) (y0 : Int32) (y1 : Int32) (z : fS) : Option fS :=
  gd (inb y1 120) <|
  bnd (wr z (pb + 6) y1 y0) fun z73 =>
  gd (inb v1 120) <|
  bnd (wr z73 (pb + 8) v1 (-1 : Int32)) fun z80 =>
  gd (inb v1 120) <|
  bnd (wr z80 (pb + 9) v1 (-1 : Int32)) fun z87 =>
  bnd (wf z87 pb 11 (v1 + (1 : Int32))) fun z92 =>
  bnd (wf z92 pb 12 ((z92 pb 12) + (1 : Int32))) fun z102 =>
  bp (fX7_sizeOf z102 v1) fun r110 =>
  if r110 ≤ 0 then
    bp (fX4_join pb z102 v1 v1) fun z127 =>
    some z127
  else
    bp (fX0_putChanged z102 v1) fun z121 =>
    bp (fX4_join pb z121 v1 v1) fun z127 =>
    some z127
def jX4_admit_50 (pb : Nat)  (v1 : Int32) (y0 : Int32) (y1 : Int32) (z : fS) : Option fS :=
  gd (inb y1 120) <|
  bnd (wr z (pb + 5) y1 y0) fun z50 =>
  bp (fX7_kindOf z50 v1) fun r61 =>
  if r61 = (3 : Int32) then
    jX4_admit_73 pb  v1 v1 v1 z50
  else
    jX4_admit_73 pb  v1 (-1 : Int32) v1 z50
def fX4_admit (pb : Nat) (z : fS) (v1 : Int32) : Option fS :=
  gd (inb v1 120) <|
  bnd (wr z (pb + 1) v1 v1) fun z6 =>
  gd (inb v1 120) <|
  bnd (wr z6 (pb + 2) v1 v1) fun z13 =>
  gd (inb v1 120) <|
  bnd (wr z13 (pb + 3) v1 (1 : Int32)) fun z20 =>
  gd (inb v1 120) <|
  bnd (wr z20 (pb + 4) v1 v1) fun z27 =>
  bp (fX7_kindOf z27 v1) fun r38 =>
  if r38 = (1 : Int32) then
    jX4_admit_50 pb  v1 v1 v1 z27
  else
    jX4_admit_50 pb  v1 (-1 : Int32) v1 z27
def lX2_admitFrom_2    : Nat → Int32 → fS → Option fS
  | 0, _, _ => none
  | N + 1, v2, z =>
    bp (fX7_count z) fun r7 =>
    if r7 ≤ v2 then
      some z
    else
      bp (fX4_admit 28 z v2) fun z18 =>
      bp (fX4_admit (pcell (z18 17 3)) z18 v2) fun z26 =>
      bnd (v2 + (1 : Int32)) fun x29 =>
      (lX2_admitFrom_2    N) x29 z26
def fX2_admitFrom (z : fS) (v1 : Int32) : Option fS :=
  lX2_admitFrom_2    FU v1 z
def fX4_copyFrom (pb : Nat) (z : fS) (v1 : Nat) : Option fS :=
  bnd (wf z pb 11 (z v1 11)) fun z5 =>
  bnd (wf z5 pb 12 (z5 v1 12)) fun z13 =>
  gd (isb (z13 v1 13)) <|
  bnd (wf z13 pb 13 (z13 v1 13)) fun z21 =>
  gd (cpb (0 : Int32) (0 : Int32) (z21 pb 11) 120 120) <|
  bnd (cpy z21 (v1 + 1) (0 : Int32) (pb + 1) (0 : Int32) (z21 pb 11)) fun z38 =>
  gd (cpb (0 : Int32) (0 : Int32) (z38 pb 11) 120 120) <|
  bnd (cpy z38 (v1 + 2) (0 : Int32) (pb + 2) (0 : Int32) (z38 pb 11)) fun z55 =>
  gd (cpb (0 : Int32) (0 : Int32) (z55 pb 11) 120 120) <|
  bnd (cpy z55 (v1 + 3) (0 : Int32) (pb + 3) (0 : Int32) (z55 pb 11)) fun z72 =>
  gd (cpb (0 : Int32) (0 : Int32) (z72 pb 11) 120 120) <|
  bnd (cpy z72 (v1 + 4) (0 : Int32) (pb + 4) (0 : Int32) (z72 pb 11)) fun z89 =>
  gd (cpb (0 : Int32) (0 : Int32) (z89 pb 11) 120 120) <|
  bnd (cpy z89 (v1 + 5) (0 : Int32) (pb + 5) (0 : Int32) (z89 pb 11)) fun z106 =>
  gd (cpb (0 : Int32) (0 : Int32) (z106 pb 11) 120 120) <|
  bnd (cpy z106 (v1 + 6) (0 : Int32) (pb + 6) (0 : Int32) (z106 pb 11)) fun z123 =>
  gd (cpb (0 : Int32) (0 : Int32) (128 : Int32) 128 128) <|
  bnd (cpy z123 (v1 + 7) (0 : Int32) (pb + 7) (0 : Int32) (128 : Int32)) fun z139 =>
  gd (cpb (0 : Int32) (0 : Int32) (z139 pb 11) 120 120) <|
  bnd (cpy z139 (v1 + 8) (0 : Int32) (pb + 8) (0 : Int32) (z139 pb 11)) fun z156 =>
  gd (cpb (0 : Int32) (0 : Int32) (z156 pb 11) 120 120) <|
  bnd (cpy z156 (v1 + 9) (0 : Int32) (pb + 9) (0 : Int32) (z156 pb 11)) fun z173 =>
  some z173
def fX5_count (z : fS) : Option Int32 :=
  some (z 11 5)
def fX5_isTaken (z : fS) (v1 : Int32) : Option Int32 :=
  gd (inb v1 100) <|
  if (rd z 15 v1) = (1 : Int32) then
    some (1 : Int32)
  else
    some (0 : Int32)
def fX5_isSame (z : fS) (v1 : Int32) : Option Int32 :=
  gd (inb v1 100) <|
  gd (isb (rd z 12 v1)) <|
  some (rd z 12 v1)
def fX5_left (z : fS) (v1 : Int32) : Option Int32 :=
  gd (inb v1 100) <|
  some (rd z 13 v1)
def fX5_right (z : fS) (v1 : Int32) : Option Int32 :=
  gd (inb v1 100) <|
  some (rd z 14 v1)
def lX2_judgeAnew_13    : Nat → Int32 → fS → Option fS
  | 0, _, _ => none
  | N + 1, v1, z =>
    bp (fX5_count z) fun r18 =>
    if r18 ≤ v1 then
      some z
    else
      bp (fX5_isTaken z v1) fun r29 =>
      if r29 = 0 then
        bnd (v1 + (1 : Int32)) fun x69 =>
        (lX2_judgeAnew_13    N) x69 z
      else
        bp (fX5_isSame z v1) fun r40 =>
        if r40 = 0 then
          bnd (v1 + (1 : Int32)) fun x69 =>
          (lX2_judgeAnew_13    N) x69 z
        else
          bp (fX5_left z v1) fun r55 =>
          bp (fX5_right z v1) fun r63 =>
          bp (fX4_join (pcell (z 17 3)) z r55 r63) fun z66 =>
          bnd (v1 + (1 : Int32)) fun x69 =>
          (lX2_judgeAnew_13    N) x69 z66
def fX2_judgeAnew (z : fS) : Option fS :=
  bp (fX4_copyFrom (pcell (z 17 3)) z 28) fun z8 =>
  lX2_judgeAnew_13    FU (0 : Int32) z8
def fX4_isTorn (pb : Nat) (z : fS) : Option Int32 :=
  gd (isb (z pb 13)) <|
  some (z pb 13)
def fX4_isOne (pb : Nat) (z : fS) (v1 : Int32) (v2 : Int32) : Option Int32 :=
  gd (inb v1 120) <|
  gd (inb v2 120) <|
  if (rd z (pb + 1) v1) = (rd z (pb + 1) v2) then
    some (1 : Int32)
  else
    some (0 : Int32)
def lX2_wouldClash_34   (z : fS) : Nat → Int32 → Option (Int32 × fS)
  | 0, _ => none
  | N + 1, v3 =>
    bp (fX5_count z) fun r39 =>
    if r39 ≤ v3 then
      some ((0 : Int32), z)
    else
      bp (fX5_isTaken z v3) fun r50 =>
      if r50 = 0 then
        bnd (v3 + (1 : Int32)) fun x95 =>
        (lX2_wouldClash_34   z N) x95
      else
        bp (fX5_isSame z v3) fun r61 =>
        if r61 = 0 then
          bp (fX5_left z v3) fun r76 =>
          bp (fX5_right z v3) fun r84 =>
          bp (fX4_isOne (pcell (z 17 4)) z r76 r84) fun r87 =>
          if r87 = 0 then
            bnd (v3 + (1 : Int32)) fun x95 =>
            (lX2_wouldClash_34   z N) x95
          else
            some ((1 : Int32), z)
        else
          bnd (v3 + (1 : Int32)) fun x95 =>
          (lX2_wouldClash_34   z N) x95
def fX2_wouldClash (z : fS) (v1 : Int32) (v2 : Int32) : Option (Int32 × fS) :=
  bp (fX4_copyFrom (pcell (z 17 4)) z (pcell (z 17 3))) fun z8 =>
  bp (fX4_join (pcell (z8 17 4)) z8 v1 v2) fun z17 =>
  bp (fX4_isTorn (pcell (z17 17 4)) z17) fun r24 =>
  if r24 = 0 then
    lX2_wouldClash_34   z17 FU (0 : Int32)
  else
    some ((1 : Int32), z17)
def fX2_acceptTrial (z : fS) : Option fS :=
  bnd (wf z 17 3 (z 17 4)) fun z10 =>
  bnd (wf z10 17 4 (z 17 3)) fun z15 =>
  some z15
def fX2_addToTrial (z : fS) (v1 : Int32) : Option (Int32 × fS) :=
  bp (fX5_isSame z v1) fun r5 =>
  if r5 = 0 then
    bp (fX1_add 18 z v1) fun z16 =>
    some ((1 : Int32), z16)
  else
    bp (fX4_isTorn (pcell (z 17 4)) z) fun r25 =>
    if r25 = 0 then
      bp (fX5_left z v1) fun r40 =>
      bp (fX5_right z v1) fun r48 =>
      bp (fX4_isOne (pcell (z 17 4)) z r40 r48) fun r51 =>
      if r51 = 0 then
        bp (fX5_left z v1) fun r68 =>
        bp (fX5_right z v1) fun r76 =>
        bp (fX4_join (pcell (z 17 4)) z r68 r76) fun z79 =>
        some ((1 : Int32), z79)
      else
        some ((0 : Int32), z)
    else
      some ((0 : Int32), z)
def lX2_isReached_29   (z : fS) : Nat → Int32 → Option Int32
  | 0, _ => none
  | N + 1, v4 =>
    bp (fX1_count 18 z) fun r35 =>
    if r35 ≤ v4 then
      some (0 : Int32)
    else
      bp (fX1_at 18 z v4) fun r47 =>
      bp (fX5_left z r47) fun r62 =>
      bp (fX5_right z r47) fun r71 =>
      bp (fX4_isOne (pcell (z 17 4)) z r62 r71) fun r74 =>
      if r74 = 0 then
        bnd (v4 + (1 : Int32)) fun x82 =>
        (lX2_isReached_29   z N) x82
      else
        some (1 : Int32)
def fX2_isReached (z : fS) (v1 : Int32) (v2 : Int32) (v3 : Int32) : Option Int32 :=
  if v1 = 0 then
    bp (fX4_isTorn (pcell (z 17 4)) z) fun r18 =>
    if r18 = 0 then
      lX2_isReached_29   z FU (0 : Int32)
    else
      some (1 : Int32)
  else
    bp (fX4_isOne (pcell (z 17 4)) z v2 v3) fun r10 =>
    gd (isb r10) <|
    some r10
def jX2_thin_157 (v4 : Nat) (rc : Int32 → fS → Option fS) (v1 : Int32) (v2 : Int32) (v3 : Int32) (v5 : Int32) (v6 : Int32) (v7 : Int32) (z : fS) : Option fS :=
  if v6 < v7 then
    bp (fX1_add v4 z v7) fun z169 =>
    bnd (v5 + (1 : Int32)) fun x172 =>
    rc x172 z169
  else
    some z
def lX2_thin_113 (v4 : Nat) (k157 : Int32 → fS → Option fS) (v1 : Int32) (v2 : Int32) (v3 : Int32) (v5 : Int32) (v6 : Int32) : Nat → Int32 → fS → Option fS
  | 0, _, _ => none
  | N + 1, v7, z =>
    if v7 ≤ v6 then
      k157 v7 z
    else
      bp (fX5_isTaken z v7) fun r126 =>
      if r126 = 0 then
        bnd (v7 + (-1 : Int32)) fun x151 =>
        (lX2_thin_113 v4 k157 v1 v2 v3 v5 v6 N) x151 z
      else
        bd (fX2_addToTrial z v7) fun r135 z135 =>
        if r135 = 0 then
          bnd (v7 + (-1 : Int32)) fun x151 =>
          (lX2_thin_113 v4 k157 v1 v2 v3 v5 v6 N) x151 z135
        else
          bp (fX2_isReached z135 v1 v2 v3) fun r145 =>
          if r145 = 0 then
            bnd (v7 + (-1 : Int32)) fun x151 =>
            (lX2_thin_113 v4 k157 v1 v2 v3 v5 v6 N) x151 z135
          else
            k157 v7 z135
def jX2_thin_77 (v4 : Nat) (rc : Int32 → fS → Option fS) (v1 : Int32) (v2 : Int32) (v3 : Int32) (v5 : Int32) (z : fS) : Option fS :=
  bp (fX2_isReached z v1 v2 v3) fun r81 =>
  if r81 = 0 then
    bp (fX1_count v4 z) fun r92 =>
    bp (fX1_at v4 z (r92 - (1 : Int32))) fun r97 =>
    bp (fX5_count z) fun r106 =>
    bnd (r106 - (1 : Int32)) fun x111 =>
    lX2_thin_113 v4 (jX2_thin_157 v4 rc v1 v2 v3 v5 r97) v1 v2 v3 v5 r97 FU x111 z
  else
    some z
def lX2_thin_49 (v4 : Nat) (k77 : fS → Option fS) (v1 : Int32) (v2 : Int32) (v3 : Int32) (v5 : Int32) : Nat → Int32 → fS → Option fS
  | 0, _, _ => none
  | N + 1, v6, z =>
    bp (fX1_count v4 z) fun r53 =>
    if r53 ≤ v6 then
      k77 z
    else
      bp (fX1_at v4 z v6) fun r64 =>
      bd (fX2_addToTrial z r64) fun r67 z67 =>
      bnd (v6 + (1 : Int32)) fun x71 =>
      (lX2_thin_49 v4 k77 v1 v2 v3 v5 N) x71 z67
def jX2_thin_46 (v4 : Nat) (rc : Int32 → fS → Option fS) (v1 : Int32) (v2 : Int32) (v3 : Int32) (v5 : Int32) (z : fS) : Option fS :=
  lX2_thin_49 v4 (jX2_thin_77 v4 rc v1 v2 v3 v5) v1 v2 v3 v5 FU (0 : Int32) z
def lX2_thin_8 (v4 : Nat)  (v1 : Int32) (v2 : Int32) (v3 : Int32) : Nat → Int32 → fS → Option fS
  | 0, _, _ => none
  | N + 1, v5, z =>
    if (100 : Int32) ≤ v5 then
      some z
    else
      bp (fX4_copyFrom (pcell (z 17 4)) z 28) fun z23 =>
      bp (fX1_clear 18 z23) fun z30 =>
      if v1 = 0 then
        bp (fX4_join (pcell (z30 17 4)) z30 v2 v3) fun z43 =>
        jX2_thin_46 v4 (lX2_thin_8 v4  v1 v2 v3 N) v1 v2 v3 v5 z43
      else
        jX2_thin_46 v4 (lX2_thin_8 v4  v1 v2 v3 N) v1 v2 v3 v5 z30
def fX2_thin (z : fS) (v1 : Int32) (v2 : Int32) (v3 : Int32) (v4 : Nat) : Option fS :=
  bp (fX1_clear v4 z) fun z2 =>
  lX2_thin_8 v4  v1 v2 v3 FU (0 : Int32) z2
def lX2_fillPool_4    : Nat → Int32 → Int32 → fS → Option (Int32 × fS)
  | 0, _, _, _ => none
  | N + 1, v1, v2, z =>
    bp (fX5_count z) fun r9 =>
    if r9 ≤ v2 then
      some (v1, z)
    else
      bp (fX5_isTaken z v2) fun r20 =>
      if r20 = 0 then
        bnd (v2 + (1 : Int32)) fun x84 =>
        (lX2_fillPool_4    N) v1 x84 z
      else
        gd (inb v1 100) <|
        bnd (wr z 20 v1 v2) fun z32 =>
        bp (fX5_isSame z32 v2) fun r43 =>
        if r43 = 0 then
          gd (inb v1 100) <|
          bnd (wr z32 21 v1 (zb (0 : Int32))) fun z80 =>
          bnd (v1 + (1 : Int32)) fun x81 =>
          bnd (v2 + (1 : Int32)) fun x84 =>
          (lX2_fillPool_4    N) x81 x84 z80
        else
          bp (fX5_left z32 v2) fun r58 =>
          bp (fX5_right z32 v2) fun r66 =>
          bp (fX4_isOne 28 z32 r58 r66) fun r69 =>
          if r69 = 0 then
            gd (inb v1 100) <|
            bnd (wr z32 21 v1 (zb (1 : Int32))) fun z80 =>
            bnd (v1 + (1 : Int32)) fun x81 =>
            bnd (v2 + (1 : Int32)) fun x84 =>
            (lX2_fillPool_4    N) x81 x84 z80
          else
            gd (inb v1 100) <|
            bnd (wr z32 21 v1 (zb (0 : Int32))) fun z80 =>
            bnd (v1 + (1 : Int32)) fun x81 =>
            bnd (v2 + (1 : Int32)) fun x84 =>
            (lX2_fillPool_4    N) x81 x84 z80
def fX2_fillPool (z : fS) : Option (Int32 × fS) :=
  lX2_fillPool_4    FU (0 : Int32) (0 : Int32) z
def lX2_isOneByPicks_46   (v1 : Int32) (v2 : Int32) (v3 : Int32) : Nat → Int32 → fS → Option (Int32 × fS)
  | 0, _, _ => none
  | N + 1, v4, z =>
    if v1 ≤ v4 then
      bp (fX4_isOne (pcell (z 17 4)) z v2 v3) fun r103 =>
      gd (isb r103) <|
      some (r103, z)
    else
      gd (inb v4 100) <|
      gd (inb (rd z 22 v4) 100) <|
      bnd (rd z 20 (rd z 22 v4)) fun x64 =>
      bp (fX5_left z x64) fun r76 =>
      bp (fX5_right z x64) fun r85 =>
      bp (fX4_join (pcell (z 17 4)) z r76 r85) fun z88 =>
      bnd (v4 + (1 : Int32)) fun x91 =>
      (lX2_isOneByPicks_46   v1 v2 v3 N) x91 z88
def jX2_isOneByPicks_32   (z : fS) (v1 : Int32) (v2 : Int32) (v3 : Int32) : Option (Int32 × fS) :=
  bp (fX4_copyFrom (pcell (z 17 4)) z 28) fun z40 =>
  lX2_isOneByPicks_46   v1 v2 v3 FU (0 : Int32) z40
def lX2_isOneByPicks_3  (k32 : Option (Int32 × fS)) (z : fS) (v1 : Int32) (v2 : Int32) (v3 : Int32) : Nat → Int32 → Option (Int32 × fS)
  | 0, _ => none
  | N + 1, v4 =>
    if v1 ≤ v4 then
      k32 
    else
      gd (inb v4 100) <|
      gd (inb (rd z 22 v4) 100) <|
      if (rd z 21 (rd z 22 v4)) = 0 then
        some ((0 : Int32), z)
      else
        bnd (v4 + (1 : Int32)) fun x26 =>
        (lX2_isOneByPicks_3  k32 z v1 v2 v3 N) x26
def fX2_isOneByPicks (z : fS) (v1 : Int32) (v2 : Int32) (v3 : Int32) : Option (Int32 × fS) :=
  lX2_isOneByPicks_3  (jX2_isOneByPicks_32   z v1 v2 v3) z v1 v2 v3 FU (0 : Int32)
def lX2_pickNext_49   (v1 : Int32) : Nat → Int32 → fS → Option (Int32 × fS)
  | 0, _, _ => none
  | N + 1, v4, z =>
    if v1 ≤ v4 then
      some ((1 : Int32), z)
    else
      gd (inb (v4 - (1 : Int32)) 100) <|
      gd (inb v4 100) <|
      bnd (wr z 22 v4 ((rd z 22 (v4 - (1 : Int32))) + (1 : Int32))) fun z72 =>
      bnd (v4 + (1 : Int32)) fun x73 =>
      (lX2_pickNext_49   v1 N) x73 z72
def jX2_pickNext_28   (z : fS) (v1 : Int32) (v3 : Int32) : Option (Int32 × fS) :=
  if 0 ≤ v3 then
    gd (inb v3 100) <|
    gd (inb v3 100) <|
    bnd (wr z 22 v3 ((rd z 22 v3) + (1 : Int32))) fun z43 =>
    bnd (v3 + (1 : Int32)) fun x47 =>
    lX2_pickNext_49   v1 FU x47 z43
  else
    some ((0 : Int32), z)
def lX2_pickNext_4  (k28 : Int32 → Option (Int32 × fS)) (z : fS) (v1 : Int32) (v2 : Int32) : Nat → Int32 → Option (Int32 × fS)
  | 0, _ => none
  | N + 1, v3 =>
    if v3 < 0 then
      k28 v3
    else
      gd (inb v3 100) <|
      if (rd z 22 v3) < ((v2 - v1) + v3) then
        k28 v3
      else
        bnd (v3 + (-1 : Int32)) fun x22 =>
        (lX2_pickNext_4  k28 z v1 v2 N) x22
def fX2_pickNext (z : fS) (v1 : Int32) (v2 : Int32) : Option (Int32 × fS) :=
  bnd (v1 - (1 : Int32)) fun x3 =>
  lX2_pickNext_4  (jX2_pickNext_28   z v1) z v1 v2 FU x3
def lX2_findFewest_86 (v4 : Nat)  (v7 : Int32) : Nat → Int32 → fS → Option (Int32 × fS)
  | 0, _, _ => none
  | N + 1, v9, z =>
    if v7 ≤ v9 then
      some ((1 : Int32), z)
    else
      gd (inb v9 100) <|
      gd (inb (rd z 22 v9) 100) <|
      bp (fX1_add v4 z (rd z 20 (rd z 22 v9))) fun z107 =>
      bnd (v9 + (1 : Int32)) fun x110 =>
      (lX2_findFewest_86 v4  v7 N) x110 z107
def jX2_findFewest_78 (v4 : Nat)  (v7 : Int32) (z : fS) : Option (Int32 × fS) :=
  bp (fX1_clear v4 z) fun z80 =>
  lX2_findFewest_86 v4  v7 FU (0 : Int32) z80
def jX2_findFewest_131 (v4 : Nat) (rc : Int32 → Int32 → fS → Option (Int32 × fS)) (k78 : Int32 → fS → Option (Int32 × fS)) (v1 : Int32) (v2 : Int32) (v3 : Int32) (v5 : Int32) (v7 : Int32) (v6 : Int32) (z : fS) : Option (Int32 × fS) :=
  bnd (v7 + (1 : Int32)) fun x131 =>
  rc v6 x131 z
def lX2_findFewest_53 (v4 : Nat) (k78 : fS → Option (Int32 × fS)) (k131 : Int32 → fS → Option (Int32 × fS)) (v1 : Int32) (v2 : Int32) (v3 : Int32) (v5 : Int32) (v7 : Int32) : Nat → Int32 → Int32 → fS → Option (Int32 × fS)
  | 0, _, _, _ => none
  | N + 1, v6, v8, z =>
    if v8 = 0 then
      k131 v6 z
    else
      if v3 ≤ v6 then
        k131 v6 z
      else
        bnd (v6 + (1 : Int32)) fun x64 =>
        bd (fX2_isOneByPicks z v7 v1 v2) fun r72 z72 =>
        if r72 = 0 then
          bd (fX2_pickNext z72 v7 v5) fun r123 z123 =>
          (lX2_findFewest_53 v4 k78 k131 v1 v2 v3 v5 v7 N) x64 r123 z123
        else
          k78 z72
def jX2_findFewest_50 (v4 : Nat) (rc : Int32 → Int32 → fS → Option (Int32 × fS)) (k78 : Int32 → fS → Option (Int32 × fS)) (v1 : Int32) (v2 : Int32) (v3 : Int32) (v5 : Int32) (v6 : Int32) (v7 : Int32) (z : fS) : Option (Int32 × fS) :=
  lX2_findFewest_53 v4 (k78 v7) (jX2_findFewest_131 v4 rc k78 v1 v2 v3 v5 v7) v1 v2 v3 v5 v7 FU v6 (1 : Int32) z
def lX2_findFewest_28 (v4 : Nat) (k50 : fS → Option (Int32 × fS)) (v1 : Int32) (v2 : Int32) (v3 : Int32) (v5 : Int32) (v6 : Int32) (v7 : Int32) : Nat → Int32 → fS → Option (Int32 × fS)
  | 0, _, _ => none
  | N + 1, v8, z =>
    if v7 ≤ v8 then
      k50 z
    else
      gd (inb v8 100) <|
      bnd (wr z 22 v8 v8) fun z43 =>
      bnd (v8 + (1 : Int32)) fun x44 =>
      (lX2_findFewest_28 v4 k50 v1 v2 v3 v5 v6 v7 N) x44 z43
def lX2_findFewest_12 (v4 : Nat) (k78 : Int32 → fS → Option (Int32 × fS)) (v1 : Int32) (v2 : Int32) (v3 : Int32) (v5 : Int32) : Nat → Int32 → Int32 → fS → Option (Int32 × fS)
  | 0, _, _, _ => none
  | N + 1, v6, v7, z =>
    if v5 < v7 then
      some ((0 : Int32), z)
    else
      if v3 ≤ v6 then
        some ((0 : Int32), z)
      else
        lX2_findFewest_28 v4 (jX2_findFewest_50 v4 (lX2_findFewest_12 v4 k78 v1 v2 v3 v5 N) k78 v1 v2 v3 v5 v6 v7) v1 v2 v3 v5 v6 v7 FU (0 : Int32) z
def fX2_findFewest (z : fS) (v1 : Int32) (v2 : Int32) (v3 : Int32) (v4 : Nat) : Option (Int32 × fS) :=
  bd (fX2_fillPool z) fun r1 z1 =>
  lX2_findFewest_12 v4 (jX2_findFewest_78 v4  ) v1 v2 v3 r1 FU (0 : Int32) (0 : Int32) z1
def fX7_holesOf (z : fS) (v1 : Int32) : Option Int32 :=
  gd (inb v1 120) <|
  some (rd z 6 v1)
def fX7_isHole (z : fS) (v1 : Int32) : Option Int32 :=
  gd (inb v1 120) <|
  if (rd z 2 v1) = 0 then
    gd (inb v1 120) <|
    if (rd z 3 v1) < (90 : Int32) then
      some (0 : Int32)
    else
      gd (inb v1 120) <|
      if (93 : Int32) ≤ (rd z 3 v1) then
        some (0 : Int32)
      else
        some (1 : Int32)
  else
    some (0 : Int32)
def fX3_isKnown (z : fS) (v1 : Int32) : Option Int32 :=
  if v1 = (-1 : Int32) then
    some (1 : Int32)
  else
    bp (fX7_holesOf z v1) fun r10 =>
    if r10 = 0 then
      some (1 : Int32)
    else
      bp (fX7_isHole z v1) fun r21 =>
      if r21 = 0 then
        gd (inb v1 120) <|
        if (rd z 60 v1) = (z 58 5) then
          some (1 : Int32)
        else
          some (0 : Int32)
      else
        some (1 : Int32)
def fX7_partOf (z : fS) (v1 : Int32) (v2 : Int32) : Option Int32 :=
  gd (inb (((3 : Int32) * v1) + v2) 360) <|
  some (rd z 5 (((3 : Int32) * v1) + v2))
def lX3_openPart_2   (z : fS) (v1 : Int32) : Nat → Int32 → Option Int32
  | 0, _ => none
  | N + 1, v2 =>
    bp (fX7_sizeOf z v1) fun r8 =>
    if r8 ≤ v2 then
      some (-1 : Int32)
    else
      bp (fX7_partOf z v1 v2) fun r21 =>
      bp (fX3_isKnown z r21) fun r24 =>
      if r24 = 0 then
        bp (fX7_partOf z v1 v2) fun r36 =>
        some r36
      else
        bnd (v2 + (1 : Int32)) fun x40 =>
        (lX3_openPart_2   z v1 N) x40
def fX3_openPart (z : fS) (v1 : Int32) : Option Int32 :=
  lX3_openPart_2   z v1 FU (0 : Int32)
def fX7_shownBy (z : fS) (v1 : Int32) : Option Int32 :=
  gd (inb v1 120) <|
  some (rd z 3 v1)
def fX3_imageOf (z : fS) (v1 : Int32) : Option Int32 :=
  if v1 = (-1 : Int32) then
    some v1
  else
    bp (fX7_holesOf z v1) fun r10 =>
    if r10 = 0 then
      some v1
    else
      bp (fX7_isHole z v1) fun r23 =>
      if r23 = 0 then
        gd (inb v1 120) <|
        some (rd z 59 v1)
      else
        bp (fX7_shownBy z v1) fun r38 =>
        gd (inb (r38 - (90 : Int32)) 3) <|
        some (rd z 62 (r38 - (90 : Int32)))
def lX7_find_20   (z : fS) (v1 : Int32) (v2 : Int32) (v3 : Int32) (v4 : Int32) (v5 : Int32) : Nat → Int32 → Int32 → Option Int32
  | 0, _, _ => none
  | N + 1, v6, v7 =>
    if (120 : Int32) ≤ v7 then
      some (-1 : Int32)
    else
      if v6 = (-1 : Int32) then
        some (-1 : Int32)
      else
        bnd ((3 : Int32) * v6) fun x37 =>
        gd (inb v6 120) <|
        if (rd z 2 v6) = v1 then
          gd (inb v6 120) <|
          if (rd z 3 v6) = v2 then
            gd (inb x37 360) <|
            if (rd z 5 x37) = v3 then
              gd (inb (x37 + (1 : Int32)) 360) <|
              if (rd z 5 (x37 + (1 : Int32))) = v4 then
                gd (inb (x37 + (2 : Int32)) 360) <|
                if (rd z 5 (x37 + (2 : Int32))) = v5 then
                  some v6
                else
                  gd (inb v6 120) <|
                  bnd (rd z 8 v6) fun x110 =>
                  bnd (v7 + (1 : Int32)) fun x112 =>
                  (lX7_find_20   z v1 v2 v3 v4 v5 N) x110 x112
              else
                gd (inb v6 120) <|
                bnd (rd z 8 v6) fun x110 =>
                bnd (v7 + (1 : Int32)) fun x112 =>
                (lX7_find_20   z v1 v2 v3 v4 v5 N) x110 x112
            else
              gd (inb v6 120) <|
              bnd (rd z 8 v6) fun x110 =>
              bnd (v7 + (1 : Int32)) fun x112 =>
              (lX7_find_20   z v1 v2 v3 v4 v5 N) x110 x112
          else
            gd (inb v6 120) <|
            bnd (rd z 8 v6) fun x110 =>
            bnd (v7 + (1 : Int32)) fun x112 =>
            (lX7_find_20   z v1 v2 v3 v4 v5 N) x110 x112
        else
          gd (inb v6 120) <|
          bnd (rd z 8 v6) fun x110 =>
          bnd (v7 + (1 : Int32)) fun x112 =>
          (lX7_find_20   z v1 v2 v3 v4 v5 N) x110 x112
def fX7_find (z : fS) (v1 : Int32) (v2 : Int32) (v3 : Int32) (v4 : Int32) (v5 : Int32) : Option Int32 :=
  bp (fX8_slotFor z v1 v2 v3 v4 v5) fun r11 =>
  gd (inb r11 128) <|
  bnd (rd z 7 r11) fun x15 =>
  lX7_find_20   z v1 v2 v3 v4 v5 FU x15 (0 : Int32)
def jX7_findOrMake_248   (v1 : Int32) (v2 : Int32) (v3 : Int32) (v4 : Int32) (v5 : Int32) (v7 : Int32) (z : fS) : Option (Int32 × fS) :=
  bp (fX8_slotFor z v1 v2 v3 v4 v5) fun r255 =>
  gd (inb r255 128) <|
  gd (inb v7 120) <|
  bnd (wr z 8 v7 (rd z 7 r255)) fun z273 =>
  gd (inb r255 128) <|
  bnd (wr z273 7 r255 v7) fun z282 =>
  some (v7, z282)
def lX7_findOrMake_176  (k248 : fS → Option (Int32 × fS)) (v1 : Int32) (v2 : Int32) (v3 : Int32) (v4 : Int32) (v5 : Int32) (v7 : Int32) : Nat → Int32 → fS → Option (Int32 × fS)
  | 0, _, _ => none
  | N + 1, v8, z =>
    gd (inb v7 120) <|
    if (((3 : Int32) * v7) + (rd z 4 v7)) ≤ v8 then
      k248 z
    else
      gd (inb v8 360) <|
      bnd (rd z 5 v8) fun x200 =>
      gd (inb v7 120) <|
      gd (inb x200 120) <|
      gd (inb v7 120) <|
      bnd (wr z 6 v7 ((rd z 6 v7) ||| (rd z 6 x200))) fun z218 =>
      gd (inb x200 120) <|
      gd (inb v8 360) <|
      bnd (wr z218 10 v8 (rd z218 9 x200)) fun z232 =>
      gd (inb x200 120) <|
      bnd (wr z232 9 x200 v8) fun z241 =>
      bnd (v8 + (1 : Int32)) fun x242 =>
      (lX7_findOrMake_176  k248 v1 v2 v3 v4 v5 v7 N) x242 z241
def jX7_findOrMake_169   (v1 : Int32) (v2 : Int32) (v3 : Int32) (v4 : Int32) (v5 : Int32) (v7 : Int32) (y0 : Int32) (y1 : Int32) (z : fS) : Option (Int32 × fS) :=
  gd (inb y1 120) <|
  bnd (wr z 6 y1 y0) fun z169 =>
  bnd ((3 : Int32) * v7) fun x174 =>
  lX7_findOrMake_176  (jX7_findOrMake_248   v1 v2 v3 v4 v5 v7) v1 v2 v3 v4 v5 v7 FU x174 z169
def jX7_findOrMake_99   (v1 : Int32) (v2 : Int32) (v3 : Int32) (v4 : Int32) (v5 : Int32) (v7 : Int32) (y0 : Int32) (y1 : Int32) (z : fS) : Option (Int32 × fS) :=
  gd (inb y1 120) <|
  bnd (wr z 4 y1 y0) fun z99 =>
  gd (inb ((3 : Int32) * v7) 360) <|
  bnd (wr z99 5 ((3 : Int32) * v7) v3) fun z109 =>
  gd (inb (((3 : Int32) * v7) + (1 : Int32)) 360) <|
  bnd (wr z109 5 (((3 : Int32) * v7) + (1 : Int32)) v4) fun z122 =>
  gd (inb (((3 : Int32) * v7) + (2 : Int32)) 360) <|
  bnd (wr z122 5 (((3 : Int32) * v7) + (2 : Int32)) v5) fun z135 =>
  gd (inb v7 120) <|
  bnd (wr z135 9 v7 (-1 : Int32)) fun z143 =>
  bp (fX7_isHole z143 v7) fun r153 =>
  if r153 = 0 then
    jX7_findOrMake_169   v1 v2 v3 v4 v5 v7 (0 : Int32) v7 z143
  else
    jX7_findOrMake_169   v1 v2 v3 v4 v5 v7 ((1 : Int32) <<< ((v2 - (90 : Int32)) &&& 31)) v7 z143
def fX7_findOrMake (z : fS) (v1 : Int32) (v2 : Int32) (v3 : Int32) (v4 : Int32) (v5 : Int32) : Option (Int32 × fS) :=
  bp (fX7_find z v1 v2 v3 v4 v5) fun r8 =>
  if r8 = (-1 : Int32) then
    if (z 1 9) < (120 : Int32) then
      bnd (z 1 9) fun x35 =>
      bnd (wf z 1 9 ((z 1 9) + (1 : Int32))) fun z44 =>
      gd (inb x35 120) <|
      bnd (wr z44 2 x35 v1) fun z54 =>
      gd (inb x35 120) <|
      bnd (wr z54 3 x35 v2) fun z62 =>
      if v3 = (-1 : Int32) then
        jX7_findOrMake_99   v1 v2 v3 v4 v5 x35 (0 : Int32) x35 z62
      else
        if v4 = (-1 : Int32) then
          jX7_findOrMake_99   v1 v2 v3 v4 v5 x35 (1 : Int32) x35 z62
        else
          if v5 = (-1 : Int32) then
            jX7_findOrMake_99   v1 v2 v3 v4 v5 x35 (2 : Int32) x35 z62
          else
            jX7_findOrMake_99   v1 v2 v3 v4 v5 x35 (3 : Int32) x35 z62
    else
      some (r8, z)
  else
    some (r8, z)
def fX3_makeImage (z : fS) (v1 : Int32) : Option (Int32 × fS) :=
  bp (fX7_partOf z v1 (0 : Int32)) fun r7 =>
  bp (fX3_imageOf z r7) fun r10 =>
  bp (fX7_partOf z v1 (1 : Int32)) fun r21 =>
  bp (fX3_imageOf z r21) fun r24 =>
  bp (fX7_partOf z v1 (2 : Int32)) fun r35 =>
  bp (fX3_imageOf z r35) fun r38 =>
  bp (fX7_kindOf z v1) fun r52 =>
  bp (fX7_shownBy z v1) fun r60 =>
  bd (fX7_findOrMake z r52 r60 r10 r24 r38) fun r67 z67 =>
  gd (inb v1 120) <|
  bnd (wr z67 59 v1 r67) fun z79 =>
  gd (inb v1 120) <|
  bnd (wr z79 60 v1 (z79 58 5)) fun z89 =>
  if r67 = (-1 : Int32) then
    some ((0 : Int32), z89)
  else
    some ((1 : Int32), z89)
def jX7_unmakeFrom_59  (rc : Int32 → fS → Option fS) (v1 : Int32) (v2 : Int32) (v3 : Int32) (z : fS) : Option fS :=
  gd (inb v2 120) <|
  gd (inb v2 120) <|
  gd (inb v3 360) <|
  gd (inb (v3 + (1 : Int32)) 360) <|
  gd (inb (v3 + (2 : Int32)) 360) <|
  bp (fX8_slotFor z (rd z 2 v2) (rd z 3 v2) (rd z 5 v3) (rd z 5 (v3 + (1 : Int32))) (rd z 5 (v3 + (2 : Int32)))) fun r97 =>
  gd (inb v2 120) <|
  gd (inb r97 128) <|
  bnd (wr z 7 r97 (rd z 8 v2)) fun z106 =>
  bnd (wf z106 1 9 v2) fun z109 =>
  bnd (v2 + (-1 : Int32)) fun x112 =>
  rc x112 z109
def lX7_unmakeFrom_28  (k59 : fS → Option fS) (v1 : Int32) (v2 : Int32) (v3 : Int32) : Nat → Int32 → fS → Option fS
  | 0, _, _ => none
  | N + 1, v4, z =>
    if v4 < v3 then
      k59 z
    else
      gd (inb v4 360) <|
      gd (inb v4 360) <|
      gd (inb (rd z 5 v4) 120) <|
      bnd (wr z 9 (rd z 5 v4) (rd z 10 v4)) fun z52 =>
      bnd (v4 + (-1 : Int32)) fun x53 =>
      (lX7_unmakeFrom_28  k59 v1 v2 v3 N) x53 z52
def lX7_unmakeFrom_7   (v1 : Int32) : Nat → Int32 → fS → Option fS
  | 0, _, _ => none
  | N + 1, v2, z =>
    if v2 < v1 then
      some z
    else
      bnd ((3 : Int32) * v2) fun x15 =>
      gd (inb v2 120) <|
      bnd ((x15 + (rd z 4 v2)) - (1 : Int32)) fun x26 =>
      lX7_unmakeFrom_28  (jX7_unmakeFrom_59  (lX7_unmakeFrom_7   v1 N) v1 v2 x15) v1 v2 x15 FU x26 z
def fX7_unmakeFrom (z : fS) (v1 : Int32) : Option fS :=
  bnd ((z 1 9) - (1 : Int32)) fun x6 =>
  lX7_unmakeFrom_7   v1 FU x6 z
def jX3_makeInstance_126  (rc : Int32 → Int32 → fS → Option (Int32 × fS)) (v1 : Int32) (v5 : Int32) (v6 : Int32) (v7 : Int32) (v8 : Int32) (z : fS) : Option (Int32 × fS) :=
  bp (fX3_isKnown z v8) fun r129 =>
  if r129 = 0 then
    bd (fX3_makeImage z v8) fun r138 z138 =>
    if r138 = 0 then
      bp (fX7_unmakeFrom z138 v5) fun z150 =>
      some ((-1 : Int32), z150)
    else
      bnd (v6 + (-1 : Int32)) fun x155 =>
      bnd (v7 + (1 : Int32)) fun x158 =>
      rc x155 x158 z138
  else
    bnd (v6 + (-1 : Int32)) fun x155 =>
    bnd (v7 + (1 : Int32)) fun x158 =>
    rc x155 x158 z
def jX3_makeInstance_94  (rc : Int32 → Int32 → fS → Option (Int32 × fS)) (v1 : Int32) (v5 : Int32) (v6 : Int32) (v7 : Int32) (v8 : Int32) (y0 : Int32) (z : fS) : Option (Int32 × fS) :=
  if y0 = (-1 : Int32) then
    jX3_makeInstance_126  rc v1 v5 v6 v7 v8 z
  else
    if (120 : Int32) ≤ (v6 + (1 : Int32)) then
      jX3_makeInstance_126  rc v1 v5 v6 v7 v8 z
    else
      bnd (v6 + (1 : Int32)) fun x111 =>
      gd (inb x111 120) <|
      bnd (wr z 61 x111 y0) fun z122 =>
      bnd (v7 + (1 : Int32)) fun x158 =>
      rc x111 x158 z122
def lX3_makeInstance_54   (v1 : Int32) (v5 : Int32) : Nat → Int32 → Int32 → fS → Option (Int32 × fS)
  | 0, _, _, _ => none
  | N + 1, v6, v7, z =>
    if (1000000 : Int32) ≤ v7 then
      bp (fX3_imageOf z v1) fun r166 =>
      some (r166, z)
    else
      if v6 < 0 then
        bp (fX3_imageOf z v1) fun r166 =>
        some (r166, z)
      else
        gd (inb v6 120) <|
        bnd (rd z 61 v6) fun x73 =>
        bp (fX3_isKnown z x73) fun r78 =>
        if r78 = 0 then
          bp (fX3_openPart z x73) fun r91 =>
          jX3_makeInstance_94  (lX3_makeInstance_54   v1 v5 N) v1 v5 v6 v7 x73 r91 z
        else
          jX3_makeInstance_94  (lX3_makeInstance_54   v1 v5 N) v1 v5 v6 v7 x73 (-1 : Int32) z
def fX3_makeInstance (z : fS) (v1 : Int32) (v2 : Int32) (v3 : Int32) (v4 : Int32) : Option (Int32 × fS) :=
  bp (fX7_count z) fun r4 =>
  gd (inb (0 : Int32) 3) <|
  bnd (wr z 62 (0 : Int32) v2) fun z15 =>
  gd (inb (1 : Int32) 3) <|
  bnd (wr z15 62 (1 : Int32) v3) fun z22 =>
  gd (inb (2 : Int32) 3) <|
  bnd (wr z22 62 (2 : Int32) v4) fun z30 =>
  bnd (wf z30 58 5 ((z30 58 5) + (1 : Int32))) fun z38 =>
  gd (inb (0 : Int32) 120) <|
  bnd (wr z38 61 (0 : Int32) v1) fun z50 =>
  lX3_makeInstance_54   v1 r4 FU (0 : Int32) (0 : Int32) z50
def fX4_classes (pb : Nat) (z : fS) : Option Int32 :=
  some (z pb 12)
def fX4_headOf (pb : Nat) (z : fS) (v1 : Int32) : Option Int32 :=
  gd (inb v1 120) <|
  gd (inb (rd z (pb + 1) v1) 120) <|
  some (rd z (pb + 4) (rd z (pb + 1) v1))
def fX4_numberOf (pb : Nat) (z : fS) (v1 : Int32) : Option Int32 :=
  gd (inb v1 120) <|
  gd (inb (rd z (pb + 1) v1) 120) <|
  some (rd z (pb + 5) (rd z (pb + 1) v1))
def lX4_unnumberedBelow_4 (pb : Nat)  (z : fS) (v1 : Int32) : Nat → Int32 → Int32 → Option Int32
  | 0, _, _ => none
  | N + 1, v2, v3 =>
    if v1 ≤ v3 then
      some v2
    else
      bp (fX4_headOf pb z v3) fun r11 =>
      if r11 = v3 then
        bp (fX4_numberOf pb z v3) fun r20 =>
        if r20 = (-1 : Int32) then
          bnd (v2 + (1 : Int32)) fun x27 =>
          bnd (v3 + (1 : Int32)) fun x30 =>
          (lX4_unnumberedBelow_4 pb  z v1 N) x27 x30
        else
          bnd (v3 + (1 : Int32)) fun x30 =>
          (lX4_unnumberedBelow_4 pb  z v1 N) v2 x30
      else
        bnd (v3 + (1 : Int32)) fun x30 =>
        (lX4_unnumberedBelow_4 pb  z v1 N) v2 x30
def fX4_unnumberedBelow (pb : Nat) (z : fS) (v1 : Int32) : Option Int32 :=
  lX4_unnumberedBelow_4 pb  z v1 FU (0 : Int32) (0 : Int32)
def lX4_hasPartLike_2 (pb : Nat)  (z : fS) (v1 : Int32) (v2 : Int32) : Nat → Int32 → Option Int32
  | 0, _ => none
  | N + 1, v3 =>
    bp (fX7_sizeOf z v1) fun r8 =>
    if r8 ≤ v3 then
      some (0 : Int32)
    else
      bp (fX7_partOf z v1 v3) fun r21 =>
      bp (fX4_isOne pb z r21 v2) fun r25 =>
      if r25 = 0 then
        bnd (v3 + (1 : Int32)) fun x33 =>
        (lX4_hasPartLike_2 pb  z v1 v2 N) x33
      else
        some (1 : Int32)
def fX4_hasPartLike (pb : Nat) (z : fS) (v1 : Int32) (v2 : Int32) : Option Int32 :=
  lX4_hasPartLike_2 pb  z v1 v2 FU (0 : Int32)
def fX5_takenCount (z : fS) : Option Int32 :=
  some (z 11 6)
def fX5_levels (z : fS) : Option Int32 :=
  some (z 11 7)
def fX5_has (z : fS) (v1 : Int32) : Option Int32 :=
  if v1 < 0 then
    some (0 : Int32)
  else
    if (z 11 5) ≤ v1 then
      some (0 : Int32)
    else
      some (1 : Int32)
def fX5_isFull (z : fS) : Option Int32 :=
  if (z 11 5) < (100 : Int32) then
    some (0 : Int32)
  else
    some (1 : Int32)
def fX5_add (z : fS) (v1 : Int32) (v2 : Int32) (v3 : Int32) : Option (Int32 × fS) :=
  if (z 11 5) < (100 : Int32) then
    gd (inb (z 11 5) 100) <|
    bnd (wr z 12 (z 11 5) (zb v1)) fun z20 =>
    gd (inb (z20 11 5) 100) <|
    bnd (wr z20 13 (z20 11 5) v2) fun z30 =>
    gd (inb (z30 11 5) 100) <|
    bnd (wr z30 14 (z30 11 5) v3) fun z40 =>
    gd (inb (z40 11 5) 100) <|
    bnd (wr z40 15 (z40 11 5) (1 : Int32)) fun z50 =>
    bnd (wf z50 11 5 ((z50 11 5) + (1 : Int32))) fun z58 =>
    bnd (wf z58 11 6 ((z58 11 6) + (1 : Int32))) fun z68 =>
    some (((z68 11 5) - (1 : Int32)), z68)
  else
    some ((-1 : Int32), z)
def fX5_remove (z : fS) (v1 : Int32) : Option fS :=
  gd (inb v1 100) <|
  bnd (wr z 15 v1 (0 : Int32)) fun z6 =>
  bnd (wf z6 11 6 ((z6 11 6) - (1 : Int32))) fun z14 =>
  some z14
def fX5_beginLevel (z : fS) : Option (Int32 × fS) :=
  if (10 : Int32) ≤ (z 11 7) then
    some ((z 11 7), z)
  else
    gd (cpb (0 : Int32) ((z 11 7) * (100 : Int32)) (100 : Int32) 100 1000) <|
    bnd (cpy z 15 (0 : Int32) 16 ((z 11 7) * (100 : Int32)) (100 : Int32)) fun z27 =>
    bnd (wf z27 11 7 ((z27 11 7) + (1 : Int32))) fun z37 =>
    some ((z37 11 7), z37)
def lX5_endLevel_45    : Nat → Int32 → fS → Option fS
  | 0, _, _ => none
  | N + 1, v1, z =>
    if (z 11 5) ≤ v1 then
      some z
    else
      gd (inb v1 100) <|
      bnd (wf z 11 6 ((z 11 6) + (rd z 15 v1))) fun z65 =>
      bnd (v1 + (1 : Int32)) fun x68 =>
      (lX5_endLevel_45    N) x68 z65
def jX5_endLevel_38   (z : fS) : Option fS :=
  bnd (wf z 11 6 (0 : Int32)) fun z40 =>
  lX5_endLevel_45    FU (0 : Int32) z40
def fX5_endLevel (z : fS) : Option fS :=
  if (z 11 7) ≤ 0 then
    jX5_endLevel_38   z
  else
    bnd (wf z 11 7 ((z 11 7) - (1 : Int32))) fun z14 =>
    gd (cpb ((z14 11 7) * (100 : Int32)) (0 : Int32) (100 : Int32) 1000 100) <|
    bnd (cpy z14 16 ((z14 11 7) * (100 : Int32)) 15 (0 : Int32) (100 : Int32)) fun z35 =>
    jX5_endLevel_38   z35
def fX6_count (z : fS) : Option Int32 :=
  some (z 63 7)
def fX6_add (z : fS) (v1 : Int32) (v2 : Int32) (v3 : Int32) (v4 : Int32) (v5 : Int32) : Option (Int32 × fS) :=
  if (z 63 7) < (100 : Int32) then
    gd (inb (z 63 7) 100) <|
    bnd (wr z 64 (z 63 7) v1) fun z20 =>
    gd (inb (z20 63 7) 100) <|
    bnd (wr z20 65 (z20 63 7) v2) fun z30 =>
    gd (inb (z30 63 7) 100) <|
    bnd (wr z30 66 (z30 63 7) v3) fun z40 =>
    gd (inb (z40 63 7) 100) <|
    bnd (wr z40 67 (z40 63 7) v4) fun z51 =>
    gd (inb (z51 63 7) 100) <|
    bnd (wr z51 68 (z51 63 7) v5) fun z62 =>
    bnd (wf z62 63 7 ((z62 63 7) + (1 : Int32))) fun z70 =>
    some (((z70 63 7) - (1 : Int32)), z70)
  else
    some ((-1 : Int32), z)
def fX6_forget (z : fS) : Option fS :=
  bnd (wf z 63 7 (0 : Int32)) fun z2 =>
  some z2
def fX6_says (z : fS) (v1 : Int32) (v2 : Int32) (v3 : Int32) : Option Int32 :=
  if v1 < 0 then
    some (0 : Int32)
  else
    if (z 63 7) ≤ v1 then
      some (0 : Int32)
    else
      gd (inb v1 100) <|
      if (rd z 65 v1) = v2 then
        gd (inb v1 100) <|
        if (rd z 66 v1) = v3 then
          some (1 : Int32)
        else
          some (0 : Int32)
      else
        some (0 : Int32)
def jX6_isSaid_67   (z : fS) (v2 : Int32) (v3 : Int32) (v4 : Int32) (v5 : Int32) : Option Int32 :=
  if v4 = v3 then
    if v5 = v2 then
      some (1 : Int32)
    else
      some (0 : Int32)
  else
    some (0 : Int32)
def fX6_isSaid (z : fS) (v1 : Int32) (v2 : Int32) (v3 : Int32) : Option Int32 :=
  bp (fX5_has z v1) fun r5 =>
  if r5 = 0 then
    some (0 : Int32)
  else
    bp (fX5_isTaken z v1) fun r16 =>
    if r16 = 0 then
      some (0 : Int32)
    else
      bp (fX5_isSame z v1) fun r27 =>
      if r27 = 0 then
        some (0 : Int32)
      else
        bp (fX5_left z v1) fun r40 =>
        bp (fX5_right z v1) fun r50 =>
        if r40 = v2 then
          if r50 = v3 then
            some (1 : Int32)
          else
            jX6_isSaid_67   z v2 v3 r40 r50
        else
          jX6_isSaid_67   z v2 v3 r40 r50
def fX6_isChained (z : fS) (v1 : Int32) (v2 : Int32) (v3 : Int32) : Option Int32 :=
  if v2 < 0 then
    some (0 : Int32)
  else
    if v1 ≤ v2 then
      some (0 : Int32)
    else
      if v3 < 0 then
        some (0 : Int32)
      else
        if v3 < v1 then
          gd (inb v2 100) <|
          gd (inb v1 100) <|
          if (rd z 65 v2) = (rd z 65 v1) then
            gd (inb v2 100) <|
            gd (inb v3 100) <|
            if (rd z 66 v2) = (rd z 65 v3) then
              gd (inb v3 100) <|
              gd (inb v1 100) <|
              if (rd z 66 v3) = (rd z 66 v1) then
                some (1 : Int32)
              else
                some (0 : Int32)
            else
              some (0 : Int32)
          else
            some (0 : Int32)
        else
          some (0 : Int32)
def lX6_isSameBefore_10   (z : fS) (v1 : Int32) (v2 : Int32) (v3 : Int32) : Nat → Int32 → Option Int32
  | 0, _ => none
  | N + 1, v4 =>
    if v1 ≤ v4 then
      some (0 : Int32)
    else
      bp (fX6_says z v4 v2 v3) fun r21 =>
      if r21 = 0 then
        bnd (v4 + (1 : Int32)) fun x29 =>
        (lX6_isSameBefore_10   z v1 v2 v3 N) x29
      else
        some (1 : Int32)
def fX6_isSameBefore (z : fS) (v1 : Int32) (v2 : Int32) (v3 : Int32) : Option Int32 :=
  if v2 = v3 then
    some (1 : Int32)
  else
    lX6_isSameBefore_10   z v1 v2 v3 FU (0 : Int32)
def jX6_isByParts_114  (rc : Int32 → Option Int32) (z : fS) (v1 : Int32) (v2 : Int32) (v3 : Int32) (v6 : Int32) (v7 : Int32) (v8 : Int32) (y0 : Int32) : Option Int32 :=
  bp (fX7_partOf z v2 v8) fun r125 =>
  bp (fX7_partOf z v3 y0) fun r135 =>
  bp (fX6_isSameBefore z v1 r125 r135) fun r138 =>
  if r138 = 0 then
    some (0 : Int32)
  else
    bnd (v8 + (1 : Int32)) fun x146 =>
    rc x146
def lX6_isByParts_93   (z : fS) (v1 : Int32) (v2 : Int32) (v3 : Int32) (v6 : Int32) (v7 : Int32) : Nat → Int32 → Option Int32
  | 0, _ => none
  | N + 1, v8 =>
    if v6 ≤ v8 then
      some (1 : Int32)
    else
      if v7 = 0 then
        jX6_isByParts_114  (lX6_isByParts_93   z v1 v2 v3 v6 v7 N) z v1 v2 v3 v6 v7 v8 v8
      else
        jX6_isByParts_114  (lX6_isByParts_93   z v1 v2 v3 v6 v7 N) z v1 v2 v3 v6 v7 v8 ((1 : Int32) - v8)
def jX6_isByParts_88   (z : fS) (v1 : Int32) (v2 : Int32) (v3 : Int32) (v6 : Int32) (y0 : Int32) : Option Int32 :=
  lX6_isByParts_93   z v1 v2 v3 v6 y0 FU (0 : Int32)
def fX6_isByParts (z : fS) (v1 : Int32) (v2 : Int32) (v3 : Int32) (v4 : Int32) : Option Int32 :=
  bp (fX7_kindOf z v2) fun r5 =>
  bp (fX7_sizeOf z v2) fun r15 =>
  if r15 = 0 then
    some (0 : Int32)
  else
    bp (fX7_kindOf z v3) fun r32 =>
    if r5 = r32 then
      bp (fX7_sizeOf z v3) fun r45 =>
      if r15 = r45 then
        bp (fX7_shownBy z v2) fun r56 =>
        bp (fX7_shownBy z v3) fun r64 =>
        if r56 = r64 then
          if v4 = 0 then
            jX6_isByParts_88   z v1 v2 v3 r15 (0 : Int32)
          else
            if r5 = (4 : Int32) then
              jX6_isByParts_88   z v1 v2 v3 r15 (1 : Int32)
            else
              jX6_isByParts_88   z v1 v2 v3 r15 (0 : Int32)
        else
          some (0 : Int32)
      else
        some (0 : Int32)
    else
      some (0 : Int32)
def fX6_isOfRows (z : fS) (v1 : Int32) (v2 : Int32) (v3 : Int32) : Option Int32 :=
  if v2 < 0 then
    some (0 : Int32)
  else
    if v1 ≤ v2 then
      some (0 : Int32)
    else
      gd (inb v2 100) <|
      bp (fX7_kindOf z (rd z 65 v2)) fun r19 =>
      if r19 = (3 : Int32) then
        gd (inb v2 100) <|
        bp (fX7_kindOf z (rd z 66 v2)) fun r36 =>
        if r36 = (3 : Int32) then
          gd (inb v2 100) <|
          bp (fX7_partOf z (rd z 65 v2) v3) fun r56 =>
          gd (inb v1 100) <|
          if r56 = (rd z 65 v1) then
            gd (inb v2 100) <|
            bp (fX7_partOf z (rd z 66 v2) v3) fun r79 =>
            gd (inb v1 100) <|
            if r79 = (rd z 66 v1) then
              some (1 : Int32)
            else
              some (0 : Int32)
          else
            some (0 : Int32)
        else
          some (0 : Int32)
      else
        some (0 : Int32)
def fX6_isRight (z : fS) (v1 : Int32) : Option Int32 :=
  gd (inb v1 100) <|
  bnd (rd z 65 v1) fun x6 =>
  gd (inb v1 100) <|
  bnd (rd z 66 v1) fun x13 =>
  gd (inb v1 100) <|
  bnd (rd z 67 v1) fun x20 =>
  gd (inb v1 100) <|
  if (rd z 64 v1) = (0 : Int32) then
    bp (fX6_isSaid z x20 x6 x13) fun r77 =>
    gd (isb r77) <|
    some r77
  else if (rd z 64 v1) = (1 : Int32) then
    if x6 = x13 then
      some (1 : Int32)
    else
      some (0 : Int32)
  else if (rd z 64 v1) = (2 : Int32) then
    if v1 ≤ x20 then
      some (0 : Int32)
    else
      bp (fX6_says z x20 x13 x6) fun r103 =>
      if r103 = 0 then
        some (0 : Int32)
      else
        some (1 : Int32)
  else if (rd z 64 v1) = (3 : Int32) then
    gd (inb v1 100) <|
    bp (fX6_isChained z v1 x20 (rd z 68 v1)) fun r125 =>
    gd (isb r125) <|
    some r125
  else if (rd z 64 v1) = (4 : Int32) then
    if x20 = (1 : Int32) then
      bp (fX6_isByParts z v1 x6 x13 (1 : Int32)) fun r144 =>
      gd (isb r144) <|
      some r144
    else
      bp (fX6_isByParts z v1 x6 x13 (0 : Int32)) fun r144 =>
      gd (isb r144) <|
      some r144
  else if (rd z 64 v1) = (5 : Int32) then
    bp (fX6_isOfRows z v1 x20 (0 : Int32)) fun r153 =>
    gd (isb r153) <|
    some r153
  else if (rd z 64 v1) = (6 : Int32) then
    bp (fX6_isOfRows z v1 x20 (1 : Int32)) fun r162 =>
    gd (isb r162) <|
    some r162
  else 
    some (0 : Int32)
def fX7_has (z : fS) (v1 : Int32) : Option Int32 :=
  if v1 < 0 then
    some (0 : Int32)
  else
    if (z 1 9) ≤ v1 then
      some (0 : Int32)
    else
      some (1 : Int32)
def fX8_refused (z : fS) (v1 : Int32) : Option (Int32 × fS) :=
  bnd (wf z 0 12 v1) fun z2 =>
  some ((-1 : Int32), z2)
def fX8_done (z : fS) (v1 : Int32) : Option (Int32 × fS) :=
  bnd (wf z 0 12 (0 : Int32)) fun z2 =>
  some (v1, z2)
def fX8_madeTerm (z : fS) (v1 : Int32) (v2 : Int32) (v3 : Int32) (v4 : Int32) (v5 : Int32) : Option (Int32 × fS) :=
  bp (fX7_count z) fun r4 =>
  bd (fX7_findOrMake z v1 v2 v3 v4 v5) fun r20 z20 =>
  if r20 = (-1 : Int32) then
    bd (fX8_refused z20 (3 : Int32)) fun r33 z33 =>
    some (r33, z33)
  else
    bp (fX2_admitFrom z20 r4) fun z43 =>
    bd (fX8_done z43 r20) fun r49 z49 =>
    some (r49, z49)
def fX8_name (z : fS) (v1 : Int32) : Option (Int32 × fS) :=
  if v1 < 0 then
    bd (fX8_refused z (1 : Int32)) fun r12 z12 =>
    some (r12, z12)
  else
    if v1 < (100 : Int32) then
      bd (fX8_madeTerm z (0 : Int32) v1 (-1 : Int32) (-1 : Int32) (-1 : Int32)) fun r22 z22 =>
      some (r22, z22)
    else
      bd (fX8_refused z (1 : Int32)) fun r12 z12 =>
      some (r12, z12)
def fX8_number (z : fS) (v1 : Int32) : Option (Int32 × fS) :=
  bd (fX8_madeTerm z (1 : Int32) v1 (-1 : Int32) (-1 : Int32) (-1 : Int32)) fun r6 z6 =>
  some (r6, z6)
def jX8_built_103   (v2 : Int32) (v5 : Int32) (y0 : Int32) (y1 : Int32) (y2 : Int32) (y3 : Int32) (z : fS) : Option (Int32 × fS) :=
  if v2 ≤ (2 : Int32) then
    bd (fX8_madeTerm z y3 y2 y1 y0 (-1 : Int32)) fun r114 z114 =>
    some (r114, z114)
  else
    bd (fX8_madeTerm z y3 y2 y1 y0 v5) fun r114 z114 =>
    some (r114, z114)
def jX8_built_88   (v1 : Int32) (v2 : Int32) (v3 : Int32) (v4 : Int32) (v5 : Int32) (z : fS) : Option (Int32 × fS) :=
  if v2 ≤ (1 : Int32) then
    jX8_built_103   v2 v5 (-1 : Int32) v3 v1 (2 : Int32) z
  else
    jX8_built_103   v2 v5 v4 v3 v1 (2 : Int32) z
def jX8_built_65   (v1 : Int32) (v2 : Int32) (v3 : Int32) (v4 : Int32) (v5 : Int32) (z : fS) : Option (Int32 × fS) :=
  if v2 ≤ (2 : Int32) then
    jX8_built_88   v1 v2 v3 v4 v5 z
  else
    bp (fX7_has z v5) fun r76 =>
    if r76 = 0 then
      bd (fX8_refused z (1 : Int32)) fun r84 z84 =>
      some (r84, z84)
    else
      jX8_built_88   v1 v2 v3 v4 v5 z
def fX8_built (z : fS) (v1 : Int32) (v2 : Int32) (v3 : Int32) (v4 : Int32) (v5 : Int32) : Option (Int32 × fS) :=
  if v1 < 0 then
    bd (fX8_refused z (1 : Int32)) fun r12 z12 =>
    some (r12, z12)
  else
    if v1 < (20 : Int32) then
      if 0 ≤ v2 then
        if v2 < (1 : Int32) then
          bd (fX8_refused z (1 : Int32)) fun r84 z84 =>
          some (r84, z84)
        else
          if (3 : Int32) < v2 then
            bd (fX8_refused z (1 : Int32)) fun r84 z84 =>
            some (r84, z84)
          else
            bp (fX7_has z v3) fun r42 =>
            if r42 = 0 then
              bd (fX8_refused z (1 : Int32)) fun r84 z84 =>
              some (r84, z84)
            else
              if v2 ≤ (1 : Int32) then
                jX8_built_65   v1 v2 v3 v4 v5 z
              else
                bp (fX7_has z v4) fun r59 =>
                if r59 = 0 then
                  bd (fX8_refused z (1 : Int32)) fun r84 z84 =>
                  some (r84, z84)
                else
                  jX8_built_65   v1 v2 v3 v4 v5 z
      else
        bd (fX8_refused z (8 : Int32)) fun r23 z23 =>
        some (r23, z23)
    else
      bd (fX8_refused z (1 : Int32)) fun r12 z12 =>
      some (r12, z12)
def fX8_row (z : fS) (v1 : Int32) (v2 : Int32) : Option (Int32 × fS) :=
  bp (fX7_has z v1) fun r5 =>
  if r5 = 0 then
    bd (fX8_refused z (1 : Int32)) fun r24 z24 =>
    some (r24, z24)
  else
    bp (fX7_has z v2) fun r16 =>
    if r16 = 0 then
      bd (fX8_refused z (1 : Int32)) fun r24 z24 =>
      some (r24, z24)
    else
      bd (fX8_madeTerm z (3 : Int32) (0 : Int32) v1 v2 (-1 : Int32)) fun r34 z34 =>
      some (r34, z34)
def fX8_even (z : fS) (v1 : Int32) (v2 : Int32) (v3 : Int32) : Option (Int32 × fS) :=
  if v1 < 0 then
    bd (fX8_refused z (1 : Int32)) fun r34 z34 =>
    some (r34, z34)
  else
    if (20 : Int32) ≤ v1 then
      bd (fX8_refused z (1 : Int32)) fun r34 z34 =>
      some (r34, z34)
    else
      bp (fX7_has z v2) fun r15 =>
      if r15 = 0 then
        bd (fX8_refused z (1 : Int32)) fun r34 z34 =>
        some (r34, z34)
      else
        bp (fX7_has z v3) fun r26 =>
        if r26 = 0 then
          bd (fX8_refused z (1 : Int32)) fun r34 z34 =>
          some (r34, z34)
        else
          bd (fX8_madeTerm z (4 : Int32) v1 v2 v3 (-1 : Int32)) fun r44 z44 =>
          some (r44, z44)
def fX8_kind (z : fS) (v1 : Int32) : Option Int32 :=
  bp (fX7_has z v1) fun r5 =>
  if r5 = 0 then
    some (-1 : Int32)
  else
    bp (fX7_kindOf z v1) fun r16 =>
    some r16
def fX8_part (z : fS) (v1 : Int32) (v2 : Int32) : Option (Int32 × fS) :=
  bp (fX7_has z v1) fun r5 =>
  if r5 = 0 then
    bd (fX8_refused z (1 : Int32)) fun r13 z13 =>
    some (r13, z13)
  else
    bp (fX7_sizeOf z v1) fun r22 =>
    if r22 = 0 then
      bd (fX8_refused z (2 : Int32)) fun r30 z30 =>
      some (r30, z30)
    else
      if v2 < 0 then
        bd (fX8_refused z (1 : Int32)) fun r52 z52 =>
        some (r52, z52)
      else
        bp (fX7_sizeOf z v1) fun r44 =>
        if v2 < r44 then
          bp (fX7_partOf z v1 v2) fun r63 =>
          bd (fX8_done z r63) fun r66 z66 =>
          some (r66, z66)
        else
          bd (fX8_refused z (1 : Int32)) fun r52 z52 =>
          some (r52, z52)
def fX8_shows (z : fS) (v1 : Int32) : Option (Int32 × fS) :=
  bp (fX7_has z v1) fun r5 =>
  if r5 = 0 then
    bd (fX8_refused z (1 : Int32)) fun r13 z13 =>
    some (r13, z13)
  else
    bp (fX7_kindOf z v1) fun r22 =>
    if r22 = (3 : Int32) then
      bd (fX8_refused z (2 : Int32)) fun r31 z31 =>
      some (r31, z31)
    else
      bp (fX7_shownBy z v1) fun r41 =>
      bd (fX8_done z r41) fun r44 z44 =>
      some (r44, z44)
def fX8_many (z : fS) (v1 : Int32) : Option Int32 :=
  if v1 = (0 : Int32) then
    bp (fX7_count z) fun r48 =>
    some r48
  else if v1 = (1 : Int32) then
    bp (fX5_count z) fun r56 =>
    some r56
  else if v1 = (2 : Int32) then
    bp (fX5_takenCount z) fun r64 =>
    some r64
  else if v1 = (3 : Int32) then
    some (z 0 10)
  else if v1 = (4 : Int32) then
    bp (fX6_count z) fun r77 =>
    some r77
  else if v1 = (5 : Int32) then
    bp (fX5_levels z) fun r85 =>
    some r85
  else if v1 = (6 : Int32) then
    bp (fX2_standing z) fun r93 =>
    bp (fX4_classes (pcell r93) z) fun r96 =>
    some r96
  else 
    some (-1 : Int32)
def fX8_say (z : fS) (v1 : Int32) (v2 : Int32) : Option (Int32 × fS) :=
  bp (fX7_has z v1) fun r5 =>
  if r5 = 0 then
    bd (fX8_refused z (1 : Int32)) fun r24 z24 =>
    some (r24, z24)
  else
    bp (fX7_has z v2) fun r16 =>
    if r16 = 0 then
      bd (fX8_refused z (1 : Int32)) fun r24 z24 =>
      some (r24, z24)
    else
      bp (fX5_isFull z) fun r32 =>
      if r32 = 0 then
        bd (fX2_wouldClash z v1 v2) fun r50 z50 =>
        if r50 = 0 then
          bp (fX2_acceptTrial z50) fun z80 =>
          bd (fX5_add z80 (1 : Int32) v1 v2) fun r91 z91 =>
          bd (fX8_done z91 r91) fun r94 z94 =>
          some (r94, z94)
        else
          bp (fX2_thin z50 (0 : Int32) v1 v2 69) fun z67 =>
          bd (fX8_refused z67 (4 : Int32)) fun r72 z72 =>
          some (r72, z72)
      else
        bd (fX8_refused z (3 : Int32)) fun r40 z40 =>
        some (r40, z40)
def fX8_unlike (z : fS) (v1 : Int32) (v2 : Int32) : Option (Int32 × fS) :=
  bp (fX7_has z v1) fun r5 =>
  if r5 = 0 then
    bd (fX8_refused z (1 : Int32)) fun r24 z24 =>
    some (r24, z24)
  else
    bp (fX7_has z v2) fun r16 =>
    if r16 = 0 then
      bd (fX8_refused z (1 : Int32)) fun r24 z24 =>
      some (r24, z24)
    else
      bp (fX5_isFull z) fun r32 =>
      if r32 = 0 then
        bp (fX2_standing z) fun r48 =>
        bp (fX4_isOne (pcell r48) z v1 v2) fun r53 =>
        if r53 = 0 then
          bd (fX5_add z (0 : Int32) v1 v2) fun r87 z87 =>
          bd (fX8_done z87 r87) fun r90 z90 =>
          some (r90, z90)
        else
          bp (fX2_thin z (1 : Int32) v1 v2 69) fun z70 =>
          bd (fX8_refused z70 (4 : Int32)) fun r75 z75 =>
          some (r75, z75)
      else
        bd (fX8_refused z (3 : Int32)) fun r40 z40 =>
        some (r40, z40)
def fX8_drop (z : fS) (v1 : Int32) : Option (Int32 × fS) :=
  bp (fX5_has z v1) fun r5 =>
  if r5 = 0 then
    bd (fX8_refused z (1 : Int32)) fun r13 z13 =>
    some (r13, z13)
  else
    bp (fX5_isTaken z v1) fun r22 =>
    if r22 = 0 then
      bd (fX8_refused z (5 : Int32)) fun r30 z30 =>
      some (r30, z30)
    else
      bp (fX5_remove z v1) fun z39 =>
      bp (fX5_isSame z39 v1) fun r47 =>
      if r47 = 0 then
        bp (fX5_takenCount z39) fun r65 =>
        bd (fX8_done z39 r65) fun r68 z68 =>
        some (r68, z68)
      else
        bp (fX2_judgeAnew z39) fun z57 =>
        bp (fX5_takenCount z57) fun r65 =>
        bd (fX8_done z57 r65) fun r68 z68 =>
        some (r68, z68)
def fX8_said (z : fS) (v1 : Int32) (v2 : Int32) : Option Int32 :=
  bp (fX5_has z v1) fun r5 =>
  if r5 = 0 then
    some (-1 : Int32)
  else
    if v2 = (0 : Int32) then
      bp (fX5_isSame z v1) fun r49 =>
      if r49 = 0 then
        some (0 : Int32)
      else
        some (1 : Int32)
    else if v2 = (1 : Int32) then
      bp (fX5_left z v1) fun r66 =>
      some r66
    else if v2 = (2 : Int32) then
      bp (fX5_right z v1) fun r75 =>
      some r75
    else if v2 = (3 : Int32) then
      bp (fX5_isTaken z v1) fun r84 =>
      if r84 = 0 then
        some (0 : Int32)
      else
        some (1 : Int32)
    else 
      some (-1 : Int32)
def fX8_clashed (z : fS) (v1 : Int32) : Option Int32 :=
  bp (fX1_at 69 z v1) fun r5 =>
  some r5
def fX8_judge (z : fS) (v1 : Int32) (v2 : Int32) : Option (Int32 × fS) :=
  bp (fX7_has z v1) fun r5 =>
  if r5 = 0 then
    some ((-1 : Int32), z)
  else
    bp (fX7_has z v2) fun r16 =>
    if r16 = 0 then
      some ((-1 : Int32), z)
    else
      bp (fX2_standing z) fun r28 =>
      bp (fX4_isOne (pcell r28) z v1 v2) fun r33 =>
      if r33 = 0 then
        bd (fX2_wouldClash z v1 v2) fun r47 z47 =>
        if r47 = 0 then
          some ((2 : Int32), z47)
        else
          some ((0 : Int32), z47)
      else
        some ((1 : Int32), z)
def jX8_why_64   (v1 : Int32) (v2 : Int32) (v3 : Int32) (z : fS) : Option (Int32 × fS) :=
  bp (fX2_thin z v3 v1 v2 71) fun z75 =>
  bp (fX1_count 71 z75) fun r83 =>
  bd (fX8_done z75 r83) fun r86 z86 =>
  some (r86, z86)
def fX8_why (z : fS) (v1 : Int32) (v2 : Int32) : Option (Int32 × fS) :=
  bp (fX7_has z v1) fun r5 =>
  if r5 = 0 then
    bd (fX8_refused z (1 : Int32)) fun r24 z24 =>
    some (r24, z24)
  else
    bp (fX7_has z v2) fun r16 =>
    if r16 = 0 then
      bd (fX8_refused z (1 : Int32)) fun r24 z24 =>
      some (r24, z24)
    else
      bp (fX2_standing z) fun r32 =>
      bp (fX4_isOne (pcell r32) z v1 v2) fun r37 =>
      if r37 = 0 then
        bd (fX2_wouldClash z v1 v2) fun r51 z51 =>
        if r51 = 0 then
          bd (fX8_refused z51 (6 : Int32)) fun r60 z60 =>
          some (r60, z60)
        else
          jX8_why_64   v1 v2 r37 z51
      else
        jX8_why_64   v1 v2 r37 z
def fX8_least (z : fS) (v1 : Int32) (v2 : Int32) (v3 : Int32) : Option (Int32 × fS) :=
  bp (fX7_has z v1) fun r5 =>
  if r5 = 0 then
    bd (fX8_refused z (1 : Int32)) fun r36 z36 =>
    some (r36, z36)
  else
    bp (fX7_has z v2) fun r16 =>
    if r16 = 0 then
      bd (fX8_refused z (1 : Int32)) fun r36 z36 =>
      some (r36, z36)
    else
      if v3 < (1 : Int32) then
        bd (fX8_refused z (1 : Int32)) fun r36 z36 =>
        some (r36, z36)
      else
        if v3 ≤ (500 : Int32) then
          bp (fX2_standing z) fun r44 =>
          bp (fX4_isOne (pcell r44) z v1 v2) fun r49 =>
          if r49 = 0 then
            bd (fX8_refused z (6 : Int32)) fun r58 z58 =>
            some (r58, z58)
          else
            bd (fX2_findFewest z v1 v2 v3 71) fun r73 z73 =>
            if r73 = 0 then
              bd (fX8_refused z73 (7 : Int32)) fun r82 z82 =>
              some (r82, z82)
            else
              bp (fX1_count 71 z73) fun r91 =>
              bd (fX8_done z73 r91) fun r94 z94 =>
              some (r94, z94)
        else
          bd (fX8_refused z (1 : Int32)) fun r36 z36 =>
          some (r36, z36)
def fX8_because (z : fS) (v1 : Int32) : Option Int32 :=
  bp (fX1_at 71 z v1) fun r5 =>
  some r5
def fX8_head (z : fS) (v1 : Int32) : Option Int32 :=
  bp (fX7_has z v1) fun r5 =>
  if r5 = 0 then
    some (-1 : Int32)
  else
    bp (fX2_standing z) fun r15 =>
    bp (fX4_headOf (pcell r15) z v1) fun r19 =>
    some r19
def lX8_member_22   (z : fS) (v1 : Int32) (v2 : Int32) : Nat → Int32 → Int32 → Option Int32
  | 0, _, _ => none
  | N + 1, v3, v4 =>
    bp (fX7_count z) fun r28 =>
    if r28 ≤ v4 then
      some (-1 : Int32)
    else
      bp (fX2_standing z) fun r38 =>
      bp (fX4_isOne (pcell r38) z v4 v1) fun r44 =>
      if r44 = 0 then
        bnd (v4 + (1 : Int32)) fun x61 =>
        (lX8_member_22   z v1 v2 N) v3 x61
      else
        if v3 = v2 then
          some v4
        else
          bnd (v3 + (1 : Int32)) fun x58 =>
          bnd (v4 + (1 : Int32)) fun x61 =>
          (lX8_member_22   z v1 v2 N) x58 x61
def fX8_member (z : fS) (v1 : Int32) (v2 : Int32) : Option Int32 :=
  bp (fX7_has z v1) fun r5 =>
  if r5 = 0 then
    some (-1 : Int32)
  else
    if 0 ≤ v2 then
      lX8_member_22   z v1 v2 FU (0 : Int32) (0 : Int32)
    else
      some (-1 : Int32)
def lX8_uses_22   (z : fS) (v1 : Int32) (v2 : Int32) : Nat → Int32 → Int32 → Option Int32
  | 0, _, _ => none
  | N + 1, v3, v4 =>
    bp (fX7_count z) fun r28 =>
    if r28 ≤ v4 then
      some (-1 : Int32)
    else
      bp (fX2_standing z) fun r38 =>
      bp (fX4_hasPartLike (pcell r38) z v4 v1) fun r44 =>
      if r44 = 0 then
        bnd (v4 + (1 : Int32)) fun x61 =>
        (lX8_uses_22   z v1 v2 N) v3 x61
      else
        if v3 = v2 then
          some v4
        else
          bnd (v3 + (1 : Int32)) fun x58 =>
          bnd (v4 + (1 : Int32)) fun x61 =>
          (lX8_uses_22   z v1 v2 N) x58 x61
def fX8_uses (z : fS) (v1 : Int32) (v2 : Int32) : Option Int32 :=
  bp (fX7_has z v1) fun r5 =>
  if r5 = 0 then
    some (-1 : Int32)
  else
    if 0 ≤ v2 then
      lX8_uses_22   z v1 v2 FU (0 : Int32) (0 : Int32)
    else
      some (-1 : Int32)
def lX8_freeInt_4   (z : fS) : Nat → Int32 → Int32 → Option Int32
  | 0, _, _ => none
  | N + 1, v2, v3 =>
    if (240 : Int32) < v3 then
      some (240 : Int32)
    else
      bp (fX7_find z (1 : Int32) v3 (-1 : Int32) (-1 : Int32) (-1 : Int32)) fun r20 =>
      if r20 = (-1 : Int32) then
        if v2 = 0 then
          some v3
        else
          bnd (v2 + (-1 : Int32)) fun x33 =>
          bnd (v3 + (1 : Int32)) fun x36 =>
          (lX8_freeInt_4   z N) x33 x36
      else
        bnd (v3 + (1 : Int32)) fun x36 =>
        (lX8_freeInt_4   z N) v2 x36
def fX8_freeInt (z : fS) (v1 : Int32) : Option Int32 :=
  lX8_freeInt_4   z FU v1 (0 : Int32)
def fX8_world (z : fS) (v1 : Int32) : Option Int64 :=
  bp (fX7_has z v1) fun r5 =>
  if r5 = 0 then
    some (1099511627776 : Int64)
  else
    bp (fX2_standing z) fun r19 =>
    bp (fX4_numberOf (pcell r19) z v1) fun r25 =>
    if r25 = (-1 : Int32) then
      bp (fX4_headOf (pcell r19) z v1) fun r48 =>
      bp (fX4_unnumberedBelow (pcell r19) z r48) fun r51 =>
      bp (fX8_freeInt z r51) fun r54 =>
      some r54.toInt64
    else
      bp (fX7_shownBy z r25) fun r39 =>
      some r39.toInt64
def fX8_push (z : fS) : Option (Int32 × fS) :=
  bp (fX5_levels z) fun r4 =>
  if r4 < (10 : Int32) then
    bd (fX5_beginLevel z) fun r23 z23 =>
    bd (fX8_done z23 r23) fun r26 z26 =>
    some (r26, z26)
  else
    bd (fX8_refused z (3 : Int32)) fun r14 z14 =>
    some (r14, z14)
def fX8_pop (z : fS) : Option (Int32 × fS) :=
  bp (fX5_levels z) fun r4 =>
  if r4 = 0 then
    bd (fX8_refused z (9 : Int32)) fun r13 z13 =>
    some (r13, z13)
  else
    bp (fX5_endLevel z) fun z21 =>
    bp (fX2_judgeAnew z21) fun z28 =>
    bp (fX5_takenCount z28) fun r36 =>
    bd (fX8_done z28 r36) fun r39 z39 =>
    some (r39, z39)
def fX8_law (z : fS) (v1 : Int32) (v2 : Int32) : Option (Int32 × fS) :=
  bp (fX7_has z v1) fun r5 =>
  if r5 = 0 then
    bd (fX8_refused z (1 : Int32)) fun r24 z24 =>
    some (r24, z24)
  else
    bp (fX7_has z v2) fun r16 =>
    if r16 = 0 then
      bd (fX8_refused z (1 : Int32)) fun r24 z24 =>
      some (r24, z24)
    else
      if (z 0 10) < (10 : Int32) then
        gd (inb (z 0 10) 10) <|
        bnd (wr z 73 (z 0 10) v1) fun z52 =>
        gd (inb (z52 0 10) 10) <|
        bnd (wr z52 74 (z52 0 10) v2) fun z62 =>
        bnd (wf z62 0 10 ((z62 0 10) + (1 : Int32))) fun z70 =>
        bd (fX8_done z70 ((z70 0 10) - (1 : Int32))) fun r80 z80 =>
        some (r80, z80)
      else
        bd (fX8_refused z (3 : Int32)) fun r39 z39 =>
        some (r39, z39)
def fX8_madeInstance (z : fS) (v1 : Int32) (v2 : Int32) (v3 : Int32) (v4 : Int32) : Option (Int32 × fS) :=
  bp (fX7_count z) fun r4 =>
  bd (fX3_makeInstance z v1 v2 v3 v4) fun r18 z18 =>
  bp (fX2_admitFrom z18 r4) fun z29 =>
  some (r18, z29)
def fX8_instance (z : fS) (v1 : Int32) (v2 : Int32) (v3 : Int32) (v4 : Int32) : Option (Int32 × fS) :=
  bp (fX7_has z v1) fun r5 =>
  if r5 = 0 then
    bd (fX8_refused z (1 : Int32)) fun r47 z47 =>
    some (r47, z47)
  else
    bp (fX7_has z v2) fun r16 =>
    if r16 = 0 then
      bd (fX8_refused z (1 : Int32)) fun r47 z47 =>
      some (r47, z47)
    else
      bp (fX7_has z v3) fun r27 =>
      if r27 = 0 then
        bd (fX8_refused z (1 : Int32)) fun r47 z47 =>
        some (r47, z47)
      else
        bp (fX7_has z v4) fun r39 =>
        if r39 = 0 then
          bd (fX8_refused z (1 : Int32)) fun r47 z47 =>
          some (r47, z47)
        else
          bd (fX8_madeInstance z v1 v2 v3 v4) fun r57 z57 =>
          if r57 = (-1 : Int32) then
            bd (fX8_refused z57 (3 : Int32)) fun r70 z70 =>
            some (r70, z70)
          else
            bd (fX8_done z57 r57) fun r79 z79 =>
            some (r79, z79)
def lX8_gatherHeads_4    : Nat → Int32 → Int32 → fS → Option (Int32 × fS)
  | 0, _, _, _ => none
  | N + 1, v1, v2, z =>
    bp (fX7_count z) fun r9 =>
    if r9 ≤ v2 then
      some (v1, z)
    else
      bp (fX2_standing z) fun r19 =>
      bp (fX4_headOf (pcell r19) z v2) fun r23 =>
      if r23 = v2 then
        bp (fX7_isHole z v2) fun r35 =>
        if r35 = 0 then
          gd (inb v1 120) <|
          bnd (wr z 75 v1 v2) fun z47 =>
          bnd (v1 + (1 : Int32)) fun x48 =>
          bnd (v2 + (1 : Int32)) fun x51 =>
          (lX8_gatherHeads_4    N) x48 x51 z47
        else
          bnd (v2 + (1 : Int32)) fun x51 =>
          (lX8_gatherHeads_4    N) v1 x51 z
      else
        bnd (v2 + (1 : Int32)) fun x51 =>
        (lX8_gatherHeads_4    N) v1 x51 z
def fX8_gatherHeads (z : fS) : Option (Int32 × fS) :=
  lX8_gatherHeads_4    FU (0 : Int32) (0 : Int32) z
def fX8_applyLaw (z : fS) (v1 : Int32) (v2 : Int32) (v3 : Int32) (v4 : Int32) : Option (Int32 × fS) :=
  gd (inb v1 10) <|
  bd (fX8_madeInstance z (rd z 73 v1) v2 v3 v4) fun r11 z11 =>
  if r11 = (-1 : Int32) then
    some ((2 : Int32), z11)
  else
    gd (inb v1 10) <|
    bd (fX8_madeInstance z11 (rd z11 74 v1) v2 v3 v4) fun r35 z35 =>
    if r35 = (-1 : Int32) then
      some ((2 : Int32), z35)
    else
      bp (fX2_standing z35) fun r52 =>
      bp (fX4_isOne (pcell r52) z35 r11 r35) fun r59 =>
      if r59 = 0 then
        bp (fX5_isFull z35) fun r71 =>
        if r71 = 0 then
          bd (fX2_wouldClash z35 r11 r35) fun r87 z87 =>
          if r87 = 0 then
            bp (fX2_acceptTrial z87) fun z115 =>
            bd (fX5_add z115 (1 : Int32) r11 r35) fun r127 z127 =>
            some ((0 : Int32), z127)
          else
            bp (fX2_thin z87 (0 : Int32) r11 r35 69) fun z106 =>
            some ((4 : Int32), z106)
        else
          some ((3 : Int32), z35)
      else
        some ((0 : Int32), z35)
def jX8_follow_235  (rc : Int32 → Int32 → fS → Option (Int32 × fS)) (v1 : Int32) (v2 : Int32) (v5 : Int32) (v6 : Int32) (v7 : Int32) (v8 : Int32) (v10 : Int32) (v9 : Int32) (z : fS) : Option (Int32 × fS) :=
  bnd (v10 + (1 : Int32)) fun x235 =>
  rc v9 x235 z
def jX8_follow_229  (rc : Int32 → Int32 → fS → Option (Int32 × fS)) (k235 : Int32 → fS → Option (Int32 × fS)) (v1 : Int32) (v2 : Int32) (v5 : Int32) (v6 : Int32) (v7 : Int32) (v8 : Int32) (v10 : Int32) (v11 : Int32) (v9 : Int32) (z : fS) : Option (Int32 × fS) :=
  bnd (v11 + (1 : Int32)) fun x229 =>
  rc v9 x229 z
def lX8_follow_161  (k229 : Int32 → fS → Option (Int32 × fS)) (v1 : Int32) (v2 : Int32) (v5 : Int32) (v6 : Int32) (v7 : Int32) (v8 : Int32) (v10 : Int32) (v11 : Int32) : Nat → Int32 → Int32 → fS → Option (Int32 × fS)
  | 0, _, _, _ => none
  | N + 1, v9, v12, z =>
    if v7 ≤ v12 then
      k229 v9 z
    else
      if v9 = 0 then
        gd (inb v10 120) <|
        gd (inb v11 120) <|
        gd (inb v12 120) <|
        bd (fX8_applyLaw z v1 (rd z 75 v10) (rd z 75 v11) (rd z 75 v12)) fun r196 z196 =>
        if r196 = 0 then
          bp (fX5_count z196) fun r210 =>
          if (r210 - v8) < v2 then
            bnd (v12 + (1 : Int32)) fun x223 =>
            (lX8_follow_161  k229 v1 v2 v5 v6 v7 v8 v10 v11 N) r196 x223 z196
          else
            bnd (v12 + (1 : Int32)) fun x223 =>
            (lX8_follow_161  k229 v1 v2 v5 v6 v7 v8 v10 v11 N) (1 : Int32) x223 z196
        else
          bnd (v12 + (1 : Int32)) fun x223 =>
          (lX8_follow_161  k229 v1 v2 v5 v6 v7 v8 v10 v11 N) r196 x223 z196
      else
        k229 v9 z
def lX8_follow_146  (k235 : Int32 → fS → Option (Int32 × fS)) (v1 : Int32) (v2 : Int32) (v5 : Int32) (v6 : Int32) (v7 : Int32) (v8 : Int32) (v10 : Int32) : Nat → Int32 → Int32 → fS → Option (Int32 × fS)
  | 0, _, _, _ => none
  | N + 1, v9, v11, z =>
    if v6 ≤ v11 then
      k235 v9 z
    else
      if v9 = 0 then
        lX8_follow_161  (jX8_follow_229  (lX8_follow_146  k235 v1 v2 v5 v6 v7 v8 v10 N) k235 v1 v2 v5 v6 v7 v8 v10 v11) v1 v2 v5 v6 v7 v8 v10 v11 FU v9 (0 : Int32) z
      else
        k235 v9 z
def lX8_follow_131   (v1 : Int32) (v2 : Int32) (v5 : Int32) (v6 : Int32) (v7 : Int32) (v8 : Int32) : Nat → Int32 → Int32 → fS → Option (Int32 × fS)
  | 0, _, _, _ => none
  | N + 1, v9, v10, z =>
    if v5 ≤ v10 then
      bnd (wf z 0 11 v9) fun z244 =>
      bp (fX5_count z244) fun r252 =>
      bd (fX8_done z244 (r252 - v8)) fun r258 z258 =>
      some (r258, z258)
    else
      if v9 = 0 then
        lX8_follow_146  (jX8_follow_235  (lX8_follow_131   v1 v2 v5 v6 v7 v8 N) v1 v2 v5 v6 v7 v8 v10) v1 v2 v5 v6 v7 v8 v10 FU v9 (0 : Int32) z
      else
        bnd (wf z 0 11 v9) fun z244 =>
        bp (fX5_count z244) fun r252 =>
        bd (fX8_done z244 (r252 - v8)) fun r258 z258 =>
        some (r258, z258)
def jX8_follow_114   (v1 : Int32) (v2 : Int32) (v5 : Int32) (v6 : Int32) (y0 : Int32) (z : fS) : Option (Int32 × fS) :=
  bp (fX5_count z) fun r120 =>
  lX8_follow_131   v1 v2 v5 v6 y0 r120 FU (0 : Int32) (0 : Int32) z
def jX8_follow_100   (v1 : Int32) (v2 : Int32) (v3 : Int32) (v4 : Int32) (v5 : Int32) (y0 : Int32) (z : fS) : Option (Int32 × fS) :=
  if (v4 &&& (4 : Int32)) = 0 then
    jX8_follow_114   v1 v2 v5 y0 (1 : Int32) z
  else
    jX8_follow_114   v1 v2 v5 y0 v3 z
def jX8_follow_86   (v1 : Int32) (v2 : Int32) (v3 : Int32) (v4 : Int32) (y0 : Int32) (z : fS) : Option (Int32 × fS) :=
  if (v4 &&& (2 : Int32)) = 0 then
    jX8_follow_100   v1 v2 v3 v4 y0 (1 : Int32) z
  else
    jX8_follow_100   v1 v2 v3 v4 y0 v3 z
def fX8_follow (z : fS) (v1 : Int32) (v2 : Int32) : Option (Int32 × fS) :=
  if v1 < 0 then
    bd (fX8_refused z (1 : Int32)) fun r25 z25 =>
    some (r25, z25)
  else
    if (z 0 10) ≤ v1 then
      bd (fX8_refused z (1 : Int32)) fun r25 z25 =>
      some (r25, z25)
    else
      if v2 < (1 : Int32) then
        bd (fX8_refused z (1 : Int32)) fun r25 z25 =>
        some (r25, z25)
      else
        if v2 ≤ (50 : Int32) then
          bd (fX8_gatherHeads z) fun r30 z30 =>
          if r30 = 0 then
            bd (fX8_refused z30 (6 : Int32)) fun r41 z41 =>
            some (r41, z41)
          else
            gd (inb v1 10) <|
            bp (fX7_holesOf z30 (rd z30 73 v1)) fun r55 =>
            gd (inb v1 10) <|
            bp (fX7_holesOf z30 (rd z30 74 v1)) fun r68 =>
            bnd (r55 ||| r68) fun x72 =>
            if (x72 &&& (1 : Int32)) = 0 then
              jX8_follow_86   v1 v2 r30 x72 (1 : Int32) z30
            else
              jX8_follow_86   v1 v2 r30 x72 r30 z30
        else
          bd (fX8_refused z (1 : Int32)) fun r25 z25 =>
          some (r25, z25)
def fX8_ended (z : fS) : Option Int32 :=
  some (z 0 11)
def fX8_claim (z : fS) (v1 : Int32) (v2 : Int32) (v3 : Int32) (v4 : Int32) (v5 : Int32) : Option (Int32 × fS) :=
  bp (fX7_has z v2) fun r5 =>
  if r5 = 0 then
    bd (fX8_refused z (1 : Int32)) fun r24 z24 =>
    some (r24, z24)
  else
    bp (fX7_has z v3) fun r16 =>
    if r16 = 0 then
      bd (fX8_refused z (1 : Int32)) fun r24 z24 =>
      some (r24, z24)
    else
      bp (fX6_count z) fun r32 =>
      if r32 < (100 : Int32) then
        bd (fX6_add z v1 v2 v3 v4 v5) fun r58 z58 =>
        bd (fX8_done z58 r58) fun r61 z61 =>
        some (r61, z61)
      else
        bd (fX8_refused z (3 : Int32)) fun r42 z42 =>
        some (r42, z42)
def fX8_unclaim (z : fS) : Option (Int32 × fS) :=
  bp (fX6_count z) fun r4 =>
  bp (fX6_forget z) fun z12 =>
  bd (fX8_done z12 r4) fun r17 z17 =>
  some (r17, z17)
def jX8_check_32   (z : fS) (v1 : Int32) (v2 : Int32) : Option Int32 :=
  bp (fX6_count z) fun r40 =>
  bp (fX6_says z (r40 - (1 : Int32)) v1 v2) fun r47 =>
  if r47 = 0 then
    bp (fX6_count z) fun r61 =>
    some r61
  else
    some (-1 : Int32)
def lX8_check_2  (k32 : Option Int32) (z : fS) (v1 : Int32) (v2 : Int32) : Nat → Int32 → Option Int32
  | 0, _ => none
  | N + 1, v3 =>
    bp (fX6_count z) fun r7 =>
    if r7 ≤ v3 then
      k32 
    else
      bp (fX6_isRight z v3) fun r18 =>
      if r18 = 0 then
        some v3
      else
        bnd (v3 + (1 : Int32)) fun x26 =>
        (lX8_check_2  k32 z v1 v2 N) x26
def fX8_check (z : fS) (v1 : Int32) (v2 : Int32) : Option Int32 :=
  lX8_check_2  (jX8_check_32   z v1 v2) z v1 v2 FU (0 : Int32)
def fX8_status (z : fS) : Option Int32 :=
  some (z 0 12)
end
