section
/-! words of the pure functions -/
abbrev fS : Type := Nat → Nat → Int32
def rd (σ : fS) (k : Nat) (i : Int32) : Int32 := σ k i.toNatClampNeg
def wrr (σ : fS) (k : Nat) (row : Nat → Int32) : fS := fun j => if j = k then row else σ j
def wr (σ : fS) (k : Nat) (i : Int32) (v : Int32) : fS := wrr σ k (upd (σ k) i.toNatClampNeg v)
def wf (σ : fS) (k f : Nat) (v : Int32) : fS := wrr σ k (upd (σ k) f v)
def inb (i : Int32) (n : Nat) : Bool := decide (¬ (i < 0 ∨ n ≤ i.toNatClampNeg))
theorem inb_vp {i : Int32} {n : Nat} (h : inb i n = true) : vp_in i n := by
  have h2 : ¬ (i < 0 ∨ n ≤ i.toNatClampNeg) := of_decide_eq_true h
  exact h2
def isb (v : Int32) : Bool := decide (v = 0 ∨ v = 1)
def zb (v : Int32) : Int32 := vp_nar .boolean v
def bnd {α β : Type} (e : α) (k : α → β) : β := k e
theorem bnd_at {α β : Type} {e : α} {k : α → β} {r : β} {x : α} (h : bnd e k = r) (hx : x = e) : k x = r := by subst hx; exact h
def gd {α : Type} (c : Bool) (x : Option α) : Option α := match c with
  | true => x
  | false => none
theorem gd_at {α : Type} {c : Bool} {x : Option α} {r : α} (h : gd c x = some r) : c = true ∧ x = some r := by
  cases c with
  | true => exact ⟨rfl, h⟩
  | false => exact absurd h (by simp [gd])
def bp {α β : Type} (x : Option α) (k : α → Option β) : Option β := match x with
  | none => none
  | some a => k a
theorem bp_at {α β : Type} {x : Option α} {k : α → Option β} {r : β} (h : bp x k = some r) : ∃ a, x = some a ∧ k a = some r := by
  cases x with
  | none => exact absurd h (by simp [bp])
  | some a => exact ⟨a, rfl, h⟩
def bd {α β : Type} (x : Option (α × fS)) (k : α → fS → Option β) : Option β := match x with
  | none => none
  | some (a, σ) => k a σ
theorem bd_at {α β : Type} {x : Option (α × fS)} {k : α → fS → Option β} {r : β} (h : bd x k = some r) : ∃ a σ, x = some (a, σ) ∧ k a σ = some r := by
  cases x with
  | none => exact absurd h (by simp [bd])
  | some q => exact ⟨q.1, q.2, rfl, h⟩
theorem if_t {α : Type} {c : Prop} [Decidable c] {a b r : α} (h : (if c then a else b) = r) (hc : c) : a = r := by rw [if_pos hc] at h; exact h
theorem if_f {α : Type} {c : Prop} [Decidable c] {a b r : α} (h : (if c then a else b) = r) (hc : ¬ c) : b = r := by rw [if_neg hc] at h; exact h
def cpb (sp dp n : Int32) (n0 n1 : Nat) : Bool := decide (¬ sp < 0 ∧ ¬ dp < 0 ∧ ¬ n < 0 ∧ sp.toNatClampNeg + n.toNatClampNeg ≤ n0 ∧ dp.toNatClampNeg + n.toNatClampNeg ≤ n1)
def cpy (σ : fS) (k0 : Nat) (sp : Int32) (k1 : Nat) (dp n : Int32) : fS := wrr σ k1 (va_cpy (σ k0) (σ k1) sp.toNatClampNeg dp.toNatClampNeg n.toNatClampNeg)
theorem FU_ex : ∃ n : Nat, 2000000 ≤ n := ⟨2000000, Nat.le_refl _⟩
noncomputable def FU : Nat := Classical.choose FU_ex
theorem FU_ge : 2000000 ≤ FU := Classical.choose_spec FU_ex
def pcell (v : Int32) : Nat := if v = 0 then 38 else 48
def fillr (f : Nat → Int32) (v : Int32) (n : Nat) : Nat → Int32 := fun j => if j < n then v else f j
end
section
noncomputable section
def fX0_putPair (z : fS) (v1 : Int32) (v2 : Int32) : Option fS :=
  if (242 : Int32) ≤ (z 23 4) then
    some z
  else
    gd (inb (z 23 4) 242) <|
    bnd (wr z 24 (z 23 4) v1) fun z19 =>
    gd (inb (z19 23 4) 242) <|
    bnd (wr z19 25 (z19 23 4) v2) fun z29 =>
    bnd (wf z29 23 4 ((z29 23 4) + (1 : Int32))) fun z37 =>
    some z37
def fX0_hasPair (z : fS) : Option Int32 :=
  if (z 23 4) ≤ 0 then
    some (0 : Int32)
  else
    some (1 : Int32)
def fX0_lastLeft (z : fS) : Option Int32 :=
  gd (inb ((z 23 4) - (1 : Int32)) 242) <|
  some (rd z 24 ((z 23 4) - (1 : Int32)))
def fX0_lastRight (z : fS) : Option Int32 :=
  gd (inb ((z 23 4) - (1 : Int32)) 242) <|
  some (rd z 25 ((z 23 4) - (1 : Int32)))
def fX0_removePair (z : fS) : Option fS :=
  bnd (wf z 23 4 ((z 23 4) - (1 : Int32))) fun z7 =>
  some z7
def fX0_putChanged (z : fS) (v1 : Int32) : Option fS :=
  gd (inb v1 120) <|
  if (rd z 27 v1) = 0 then
    if (120 : Int32) ≤ (z 23 5) then
      some z
    else
      gd (inb v1 120) <|
      bnd (wr z 27 v1 (zb (1 : Int32))) fun z24 =>
      gd (inb (z24 23 5) 120) <|
      bnd (wr z24 26 (z24 23 5) v1) fun z34 =>
      bnd (wf z34 23 5 ((z34 23 5) + (1 : Int32))) fun z42 =>
      some z42
  else
    some z
def fX0_hasChanged (z : fS) : Option Int32 :=
  if (z 23 5) ≤ 0 then
    some (0 : Int32)
  else
    some (1 : Int32)
def fX0_takeChanged (z : fS) : Option (Int32 × fS) :=
  bnd (wf z 23 5 ((z 23 5) - (1 : Int32))) fun z7 =>
  gd (inb (z7 23 5) 120) <|
  bnd (rd z7 26 (z7 23 5)) fun x19 =>
  gd (inb x19 120) <|
  bnd (wr z7 27 x19 (zb (0 : Int32))) fun z26 =>
  some (x19, z26)
def lX0_clear_7    : Nat → Int32 → fS → Option fS
  | 0, _, _ => none
  | N + 1, v1, z =>
    if (z 23 5) ≤ v1 then
      bnd (wf z 23 5 (0 : Int32)) fun z35 =>
      some z35
    else
      gd (inb v1 120) <|
      gd (inb (rd z 26 v1) 120) <|
      bnd (wr z 27 (rd z 26 v1) (zb (0 : Int32))) fun z26 =>
      bnd (v1 + (1 : Int32)) fun x27 =>
      (lX0_clear_7    N) x27 z26
def fX0_clear (z : fS) : Option fS :=
  bnd (wf z 23 4 (0 : Int32)) fun z2 =>
  lX0_clear_7    FU (0 : Int32) z2
def fX1_count (pb : Nat) (z : fS) : Option Int32 :=
  some (z pb 1)
def fX1_at (pb : Nat) (z : fS) (v1 : Int32) : Option Int32 :=
  if v1 < 0 then
    some (-1 : Int32)
  else
    if (z pb 1) ≤ v1 then
      some (-1 : Int32)
    else
      gd (inb v1 100) <|
      some (rd z (pb + 1) v1)
def fX1_add (pb : Nat) (z : fS) (v1 : Int32) : Option fS :=
  if (100 : Int32) ≤ (z pb 1) then
    some z
  else
    gd (inb (z pb 1) 100) <|
    bnd (wr z (pb + 1) (z pb 1) v1) fun z18 =>
    bnd (wf z18 pb 1 ((z18 pb 1) + (1 : Int32))) fun z26 =>
    some z26
def fX1_clear (pb : Nat) (z : fS) : Option fS :=
  bnd (wf z pb 1 (0 : Int32)) fun z2 =>
  some z2
def fX2_standing (z : fS) : Option Int32 :=
  some (z 17 3)
def fX7_count (z : fS) : Option Int32 :=
  some (z 1 9)
def fX7_kindOf (z : fS) (v1 : Int32) : Option Int32 :=
  gd (inb v1 120) <|
  some (rd z 2 v1)
def fX7_sizeOf (z : fS) (v1 : Int32) : Option Int32 :=
  gd (inb v1 120) <|
  some (rd z 4 v1)
def jX4_unite_206 (pb : Nat)  (v1 : Int32) (v2 : Int32) (z : fS) : Option fS :=
  bnd (wf z pb 13 (1 : Int32)) fun z211 =>
  gd (inb v2 120) <|
  gd (inb v1 120) <|
  bnd (wr z211 (pb + 5) v1 (rd z211 (pb + 5) v2)) fun z225 =>
  some z225
def jX4_unite_104 (pb : Nat)  (v1 : Int32) (v2 : Int32) (z : fS) : Option fS :=
  gd (inb v1 120) <|
  bnd (rd z (pb + 2) v1) fun x110 =>
  gd (inb v2 120) <|
  gd (inb v1 120) <|
  bnd (wr z (pb + 2) v1 (rd z (pb + 2) v2)) fun z123 =>
  gd (inb v2 120) <|
  bnd (wr z123 (pb + 2) v2 x110) fun z131 =>
  gd (inb v1 120) <|
  gd (inb v2 120) <|
  gd (inb v1 120) <|
  bnd (wr z131 (pb + 3) v1 ((rd z131 (pb + 3) v1) + (rd z131 (pb + 3) v2))) fun z146 =>
  gd (inb v1 120) <|
  gd (inb v2 120) <|
  gd (inb v1 120) <|
  bnd (wr z146 (pb + 4) v1 (if (rd z146 (pb + 4) v2) < (rd z146 (pb + 4) v1) then (rd z146 (pb + 4) v2) else (rd z146 (pb + 4) v1))) fun z167 =>
  bnd (wf z167 pb 12 ((z167 pb 12) - (1 : Int32))) fun z175 =>
  gd (inb v2 120) <|
  if (rd z175 (pb + 5) v2) = (-1 : Int32) then
    some z175
  else
    if (z175 pb 13) = 0 then
      gd (inb v1 120) <|
      if (rd z175 (pb + 5) v1) = (-1 : Int32) then
        bnd (wf z175 pb 13 (0 : Int32)) fun z211 =>
        gd (inb v2 120) <|
        gd (inb v1 120) <|
        bnd (wr z211 (pb + 5) v1 (rd z211 (pb + 5) v2)) fun z225 =>
        some z225
      else
        jX4_unite_206 pb  v1 v2 z175
    else
      jX4_unite_206 pb  v1 v2 z175
def jX4_unite_91 (pb : Nat) (rc : Int32 → Int32 → fS → Option fS) (k104 : fS → Option fS) (v1 : Int32) (v2 : Int32) (v3 : Int32) (v4 : Int32) (z : fS) : Option fS :=
  gd (inb v3 120) <|
  bnd (rd z (pb + 2) v3) fun x97 =>
  bnd (v4 + (1 : Int32)) fun x98 =>
  rc x97 x98 z
def lX4_unite_37 (pb : Nat) (k91 : fS → Option fS) (v1 : Int32) (v2 : Int32) (v3 : Int32) (v4 : Int32) : Nat → Int32 → Int32 → fS → Option fS
  | 0, _, _, _ => none
  | N + 1, v5, v6, z =>
    if (360 : Int32) ≤ v6 then
      k91 z
    else
      if v5 = (-1 : Int32) then
        k91 z
      else
        if (z pb 11) ≤ (v5 / (3 : Int32)) then
          gd (inb v5 360) <|
          bnd (rd z 10 v5) fun x83 =>
          bnd (v6 + (1 : Int32)) fun x85 =>
          (lX4_unite_37 pb k91 v1 v2 v3 v4 N) x83 x85 z
        else
          bp (fX0_putChanged z (v5 / (3 : Int32))) fun z70 =>
          gd (inb v5 360) <|
          bnd (rd z70 10 v5) fun x83 =>
          bnd (v6 + (1 : Int32)) fun x85 =>
          (lX4_unite_37 pb k91 v1 v2 v3 v4 N) x83 x85 z70
def lX4_unite_5 (pb : Nat) (k104 : fS → Option fS) (v1 : Int32) (v2 : Int32) : Nat → Int32 → Int32 → fS → Option fS
  | 0, _, _, _ => none
  | N + 1, v3, v4, z =>
    gd (inb v2 120) <|
    if (rd z (pb + 3) v2) ≤ v4 then
      k104 z
    else
      gd (inb v3 120) <|
      bnd (wr z (pb + 1) v3 v1) fun z22 =>
      gd (inb v3 120) <|
      bnd (rd z22 9 v3) fun x32 =>
      lX4_unite_37 pb (jX4_unite_91 pb (lX4_unite_5 pb k104 v1 v2 N) k104 v1 v2 v3 v4) v1 v2 v3 v4 FU x32 (0 : Int32) z22
def fX4_unite (pb : Nat) (z : fS) (v1 : Int32) (v2 : Int32) : Option fS :=
  lX4_unite_5 pb (jX4_unite_104 pb  v1 v2) v1 v2 FU v2 (0 : Int32) z
def fX4_uniteRows (pb : Nat) (z : fS) (v1 : Int32) (v2 : Int32) : Option fS :=
  gd (inb v2 120) <|
  bnd (rd z (pb + 6) v2) fun x6 =>
  gd (inb v1 120) <|
  bnd (rd z (pb + 6) v1) fun x13 =>
  if x13 = (-1 : Int32) then
    gd (inb v1 120) <|
    bnd (wr z (pb + 6) v1 x6) fun z27 =>
    some z27
  else
    if x6 = (-1 : Int32) then
      some z
    else
      gd (inb ((3 : Int32) * x13) 360) <|
      gd (inb ((3 : Int32) * x6) 360) <|
      bp (fX0_putPair z (rd z 5 ((3 : Int32) * x13)) (rd z 5 ((3 : Int32) * x6))) fun z63 =>
      gd (inb (((3 : Int32) * x13) + (1 : Int32)) 360) <|
      gd (inb (((3 : Int32) * x6) + (1 : Int32)) 360) <|
      bp (fX0_putPair z63 (rd z63 5 (((3 : Int32) * x13) + (1 : Int32))) (rd z63 5 (((3 : Int32) * x6) + (1 : Int32)))) fun z97 =>
      some z97
def lX4_takeOut_53 (pb : Nat)  (z : fS) (v1 : Int32) : Nat → Int32 → Int32 → Option fS
  | 0, _, _ => none
  | N + 1, v3, v4 =>
    if (120 : Int32) ≤ v4 then
      some z
    else
      if v3 = (-1 : Int32) then
        some z
      else
        gd (inb v3 120) <|
        if (rd z (pb + 8) v3) = v1 then
          gd (inb v1 120) <|
          gd (inb v3 120) <|
          bnd (wr z (pb + 8) v3 (rd z (pb + 8) v1)) fun z86 =>
          some z86
        else
          gd (inb v3 120) <|
          bnd (rd z (pb + 8) v3) fun x94 =>
          bnd (v4 + (1 : Int32)) fun x95 =>
          (lX4_takeOut_53 pb  z v1 N) x94 x95
def fX4_takeOut (pb : Nat) (z : fS) (v1 : Int32) : Option fS :=
  gd (inb v1 120) <|
  bnd (rd z (pb + 9) v1) fun x6 =>
  if x6 = (-1 : Int32) then
    some z
  else
    gd (inb v1 120) <|
    bnd (wr z (pb + 9) v1 (-1 : Int32)) fun z19 =>
    gd (inb x6 128) <|
    if (rd z19 (pb + 7) x6) = v1 then
      gd (inb v1 120) <|
      gd (inb x6 128) <|
      bnd (wr z19 (pb + 7) x6 (rd z19 (pb + 8) v1)) fun z41 =>
      some z41
    else
      gd (inb x6 128) <|
      bnd (rd z19 (pb + 7) x6) fun x49 =>
      lX4_takeOut_53 pb  z19 v1 FU x49 (0 : Int32)
def fX4_rootOfPart (pb : Nat) (z : fS) (v1 : Int32) (v2 : Int32) : Option Int32 :=
  gd (inb v1 120) <|
  if (rd z 4 v1) ≤ v2 then
    some (-1 : Int32)
  else
    gd (inb (((3 : Int32) * v1) + v2) 360) <|
    gd (inb (rd z 5 (((3 : Int32) * v1) + v2)) 120) <|
    some (rd z (pb + 1) (rd z 5 (((3 : Int32) * v1) + v2)))
def fX8_slotFor (z : fS) (v0 : Int32) (v1 : Int32) (v2 : Int32) (v3 : Int32) (v4 : Int32) : Option Int32 :=
  bnd ((((((((v0 * (31 : Int32)) + v1) * (127 : Int32)) + v2) * (127 : Int32)) + v3) * (127 : Int32)) + v4) fun x22 =>
  some (((x22 * (-1640531535 : Int32)).toUInt32 >>> ((25 : Int32).toUInt32 &&& Int32.toUInt32 31)).toInt32)
def jX4_isBuiltAlike_146 (pb : Nat)  (z : fS) (v1 : Int32) (v4 : Int32) (v5 : Int32) (v6 : Int32) : Option Int32 :=
  if v6 = 0 then
    gd (inb v1 120) <|
    if (rd z 2 v1) = (4 : Int32) then
      gd (inb v4 360) <|
      gd (inb (rd z 5 v4) 120) <|
      gd (inb (v5 + (1 : Int32)) 360) <|
      gd (inb (rd z 5 (v5 + (1 : Int32))) 120) <|
      if (rd z (pb + 1) (rd z 5 v4)) = (rd z (pb + 1) (rd z 5 (v5 + (1 : Int32)))) then
        gd (inb (v4 + (1 : Int32)) 360) <|
        gd (inb (rd z 5 (v4 + (1 : Int32))) 120) <|
        gd (inb v5 360) <|
        gd (inb (rd z 5 v5) 120) <|
        if (rd z (pb + 1) (rd z 5 (v4 + (1 : Int32)))) = (rd z (pb + 1) (rd z 5 v5)) then
          some (1 : Int32)
        else
          some (0 : Int32)
      else
        some (0 : Int32)
    else
      gd (isb v6) <|
      some v6
  else
    gd (isb v6) <|
    some v6
def lX4_isBuiltAlike_83 (pb : Nat) (k146 : Int32 → Option Int32) (z : fS) (v1 : Int32) (v3 : Int32) (v4 : Int32) (v5 : Int32) : Nat → Int32 → Int32 → Option Int32
  | 0, _, _ => none
  | N + 1, v6, v7 =>
    if v3 ≤ v7 then
      k146 v6
    else
      if v6 = 0 then
        k146 v6
      else
        gd (inb (v4 + v7) 360) <|
        gd (inb (rd z 5 (v4 + v7)) 120) <|
        gd (inb (v5 + v7) 360) <|
        gd (inb (rd z 5 (v5 + v7)) 120) <|
        if (rd z (pb + 1) (rd z 5 (v4 + v7))) = (rd z (pb + 1) (rd z 5 (v5 + v7))) then
          bnd (v7 + (1 : Int32)) fun x140 =>
          (lX4_isBuiltAlike_83 pb k146 z v1 v3 v4 v5 N) (1 : Int32) x140
        else
          bnd (v7 + (1 : Int32)) fun x140 =>
          (lX4_isBuiltAlike_83 pb k146 z v1 v3 v4 v5 N) (0 : Int32) x140
def fX4_isBuiltAlike (pb : Nat) (z : fS) (v1 : Int32) (v2 : Int32) : Option Int32 :=
  gd (inb v1 120) <|
  bnd (rd z 4 v1) fun x9 =>
  gd (inb v1 120) <|
  gd (inb v2 120) <|
  if (rd z 2 v1) = (rd z 2 v2) then
    gd (inb v1 120) <|
    gd (inb v2 120) <|
    if (rd z 3 v1) = (rd z 3 v2) then
      gd (inb v2 120) <|
      if x9 = (rd z 4 v2) then
        bnd ((3 : Int32) * v1) fun x70 =>
        bnd ((3 : Int32) * v2) fun x75 =>
        lX4_isBuiltAlike_83 pb (jX4_isBuiltAlike_146 pb  z v1 x70 x75) z v1 x9 x70 x75 FU (1 : Int32) (0 : Int32)
      else
        some (0 : Int32)
    else
      some (0 : Int32)
  else
    some (0 : Int32)
def jX4_review_154 (pb : Nat)  (z : fS) (v1 : Int32) (v5 : Int32) : Option fS :=
  gd (inb v1 120) <|
  bnd (wr z (pb + 9) v1 v5) fun z161 =>
  gd (inb v5 128) <|
  gd (inb v1 120) <|
  bnd (wr z161 (pb + 8) v1 (rd z161 (pb + 7) v5)) fun z174 =>
  gd (inb v5 128) <|
  bnd (wr z174 (pb + 7) v5 v1) fun z182 =>
  some z182
def lX4_review_105 (pb : Nat) (k154 : Option fS) (z : fS) (v1 : Int32) (v5 : Int32) : Nat → Int32 → Int32 → Option fS
  | 0, _, _ => none
  | N + 1, v6, v7 =>
    if (120 : Int32) ≤ v7 then
      k154 
    else
      if v6 = (-1 : Int32) then
        k154 
      else
        bp (fX4_isBuiltAlike pb z v1 v6) fun r122 =>
        if r122 = 0 then
          gd (inb v6 120) <|
          bnd (rd z (pb + 8) v6) fun x146 =>
          bnd (v7 + (1 : Int32)) fun x148 =>
          (lX4_review_105 pb k154 z v1 v5 N) x146 x148
        else
          bp (fX0_putPair z v1 v6) fun z135 =>
          some z135
def jX4_review_82 (pb : Nat)  (v1 : Int32) (y0 : Int32) (y1 : Int32) (y2 : Int32) (y3 : Int32) (z : fS) : Option fS :=
  bp (fX4_rootOfPart pb z v1 (2 : Int32)) fun r85 =>
  bp (fX8_slotFor z y3 y2 y1 y0 r85) fun r88 =>
  gd (inb r88 128) <|
  bnd (rd z (pb + 7) r88) fun x100 =>
  lX4_review_105 pb (jX4_review_154 pb  z v1 r88) z v1 r88 FU x100 (0 : Int32)
def jX4_review_72 (pb : Nat)  (v1 : Int32) (v2 : Int32) (v3 : Int32) (v4 : Int32) (y0 : Int32) (y1 : Int32) (y2 : Int32) (z : fS) : Option fS :=
  if v4 = 0 then
    jX4_review_82 pb  v1 v3 y0 y1 y2 z
  else
    jX4_review_82 pb  v1 v2 y0 y1 y2 z
def jX4_review_42 (pb : Nat)  (v1 : Int32) (v2 : Int32) (v3 : Int32) (y0 : Int32) (z : fS) : Option fS :=
  gd (inb v1 120) <|
  gd (inb v1 120) <|
  if y0 = 0 then
    jX4_review_72 pb  v1 v2 v3 y0 v2 (rd z 3 v1) (rd z 2 v1) z
  else
    jX4_review_72 pb  v1 v2 v3 y0 v3 (rd z 3 v1) (rd z 2 v1) z
def fX4_review (pb : Nat) (z : fS) (v1 : Int32) : Option fS :=
  bp (fX4_takeOut pb z v1) fun z2 =>
  bp (fX4_rootOfPart pb z2 v1 (0 : Int32)) fun r8 =>
  bp (fX4_rootOfPart pb z2 v1 (1 : Int32)) fun r15 =>
  gd (inb v1 120) <|
  if (rd z2 2 v1) = (4 : Int32) then
    if r8 ≤ r15 then
      jX4_review_42 pb  v1 r8 r15 (0 : Int32) z2
    else
      jX4_review_42 pb  v1 r8 r15 (1 : Int32) z2
  else
    jX4_review_42 pb  v1 r8 r15 (0 : Int32) z2
def jX4_join_141 (pb : Nat) (rc : Int32 → fS → Option fS) (v3 : Int32) (v4 : Int32) (v5 : Int32) (v6 : Int32) (y0 : Int32) (z : fS) : Option fS :=
  if v6 = 0 then
    bp (fX4_uniteRows pb z y0 v5) fun z153 =>
    bnd (v3 + (1 : Int32)) fun x180 =>
    rc x180 z153
  else
    bp (fX4_uniteRows pb z y0 v4) fun z153 =>
    bnd (v3 + (1 : Int32)) fun x180 =>
    rc x180 z153
def jX4_join_125 (pb : Nat) (rc : Int32 → fS → Option fS) (v3 : Int32) (v4 : Int32) (v5 : Int32) (v6 : Int32) (y0 : Int32) (y1 : Int32) (z : fS) : Option fS :=
  bp (fX4_unite pb z y1 y0) fun z125 =>
  if v6 = 0 then
    jX4_join_141 pb rc v3 v4 v5 v6 v4 z125
  else
    jX4_join_141 pb rc v3 v4 v5 v6 v5 z125
def jX4_join_113 (pb : Nat) (rc : Int32 → fS → Option fS) (v3 : Int32) (v4 : Int32) (v5 : Int32) (v6 : Int32) (y0 : Int32) (z : fS) : Option fS :=
  if v6 = 0 then
    jX4_join_125 pb rc v3 v4 v5 v6 v5 y0 z
  else
    jX4_join_125 pb rc v3 v4 v5 v6 v4 y0 z
def jX4_join_98 (pb : Nat) (rc : Int32 → fS → Option fS) (v3 : Int32) (v4 : Int32) (v5 : Int32) (y0 : Int32) (z : fS) : Option fS :=
  if y0 = 0 then
    jX4_join_113 pb rc v3 v4 v5 y0 v4 z
  else
    jX4_join_113 pb rc v3 v4 v5 y0 v5 z
def lX4_join_11 (pb : Nat)   : Nat → Int32 → fS → Option fS
  | 0, _, _ => none
  | N + 1, v3, z =>
    if (1000000 : Int32) ≤ v3 then
      bp (fX0_clear z) fun z190 =>
      some z190
    else
      if (z pb 13) = 0 then
        bp (fX0_hasPair z) fun r28 =>
        if r28 = 0 then
          bp (fX0_hasChanged z) fun r163 =>
          if r163 = 0 then
            bp (fX0_clear z) fun z190 =>
            some z190
          else
            bd (fX0_takeChanged z) fun r174 z174 =>
            bp (fX4_review pb z174 r174) fun z177 =>
            bnd (v3 + (1 : Int32)) fun x180 =>
            (lX4_join_11 pb   N) x180 z177
        else
          bp (fX0_lastLeft z) fun r42 =>
          gd (inb r42 120) <|
          bnd (rd z (pb + 1) r42) fun x46 =>
          bp (fX0_lastRight z) fun r56 =>
          gd (inb r56 120) <|
          bnd (rd z (pb + 1) r56) fun x60 =>
          bp (fX0_removePair z) fun z66 =>
          if x46 = x60 then
            bnd (v3 + (1 : Int32)) fun x180 =>
            (lX4_join_11 pb   N) x180 z66
          else
            gd (inb x46 120) <|
            gd (inb x60 120) <|
            if (rd z66 (pb + 3) x60) ≤ (rd z66 (pb + 3) x46) then
              jX4_join_98 pb (lX4_join_11 pb   N) v3 x46 x60 (0 : Int32) z66
            else
              jX4_join_98 pb (lX4_join_11 pb   N) v3 x46 x60 (1 : Int32) z66
      else
        bp (fX0_clear z) fun z190 =>
        some z190
def fX4_join (pb : Nat) (z : fS) (v1 : Int32) (v2 : Int32) : Option fS :=
  bp (fX0_putPair z v1 v2) fun z6 =>
  lX4_join_11 pb   FU (0 : Int32) z6
def jX4_admit_73 (pb : Nat)  (v1 : Int32) (y0 : Int32) (y1 : Int32) (z : fS) : Option fS :=
  gd (inb y1 120) <|
  bnd (wr z (pb + 6) y1 y0) fun z73 =>
  gd (inb v1 120) <|
  bnd (wr z73 (pb + 8) v1 (-1 : Int32)) fun z80 =>
  gd (inb v1 120) <|
  bnd (wr z80 (pb + 9) v1 (-1 : Int32)) fun z87 =>
  bnd (wf z87 pb 11 (v1 + (1 : Int32))) fun z92 =>
  bnd (wf z92 pb 12 ((z92 pb 12) + (1 : Int32))) fun z102 =>
  bp (fX7_sizeOf z102 v1) fun r110 =>
  if r110 ≤ 0 then
    bp (fX4_join pb z102 v1 v1) fun z127 =>
    some z127
  else
    bp (fX0_putChanged z102 v1) fun z121 =>
    bp (fX4_join pb z121 v1 v1) fun z127 =>
    some z127
def jX4_admit_50 (pb : Nat)  (v1 : Int32) (y0 : Int32) (y1 : Int32) (z : fS) : Option fS :=
  gd (inb y1 120) <|
  bnd (wr z (pb + 5) y1 y0) fun z50 =>
  bp (fX7_kindOf z50 v1) fun r61 =>
  if r61 = (3 : Int32) then
    jX4_admit_73 pb  v1 v1 v1 z50
  else
    jX4_admit_73 pb  v1 (-1 : Int32) v1 z50
def fX4_admit (pb : Nat) (z : fS) (v1 : Int32) : Option fS :=
  gd (inb v1 120) <|
  bnd (wr z (pb + 1) v1 v1) fun z6 =>
  gd (inb v1 120) <|
  bnd (wr z6 (pb + 2) v1 v1) fun z13 =>
  gd (inb v1 120) <|
  bnd (wr z13 (pb + 3) v1 (1 : Int32)) fun z20 =>
  gd (inb v1 120) <|
  bnd (wr z20 (pb + 4) v1 v1) fun z27 =>
  bp (fX7_kindOf z27 v1) fun r38 =>
  if r38 = (1 : Int32) then
    jX4_admit_50 pb  v1 v1 v1 z27
  else
    jX4_admit_50 pb  v1 (-1 : Int32) v1 z27
def lX2_admitFrom_2    : Nat → Int32 → fS → Option fS
  | 0, _, _ => none
  | N + 1, v2, z =>
    bp (fX7_count z) fun r7 =>
    if r7 ≤ v2 then
      some z
    else
      bp (fX4_admit 28 z v2) fun z18 =>
      bp (fX4_admit (pcell (z18 17 3)) z18 v2) fun z26 =>
      bnd (v2 + (1 : Int32)) fun x29 =>
      (lX2_admitFrom_2    N) x29 z26
def fX2_admitFrom (z : fS) (v1 : Int32) : Option fS :=
  lX2_admitFrom_2    FU v1 z
def fX4_copyFrom (pb : Nat) (z : fS) (v1 : Nat) : Option fS :=
  bnd (wf z pb 11 (z v1 11)) fun z5 =>
  bnd (wf z5 pb 12 (z5 v1 12)) fun z13 =>
  gd (isb (z13 v1 13)) <|
  bnd (wf z13 pb 13 (z13 v1 13)) fun z21 =>
  gd (cpb (0 : Int32) (0 : Int32) (z21 pb 11) 120 120) <|
  bnd (cpy z21 (v1 + 1) (0 : Int32) (pb + 1) (0 : Int32) (z21 pb 11)) fun z38 =>
  gd (cpb (0 : Int32) (0 : Int32) (z38 pb 11) 120 120) <|
  bnd (cpy z38 (v1 + 2) (0 : Int32) (pb + 2) (0 : Int32) (z38 pb 11)) fun z55 =>
  gd (cpb (0 : Int32) (0 : Int32) (z55 pb 11) 120 120) <|
  bnd (cpy z55 (v1 + 3) (0 : Int32) (pb + 3) (0 : Int32) (z55 pb 11)) fun z72 =>
  gd (cpb (0 : Int32) (0 : Int32) (z72 pb 11) 120 120) <|
  bnd (cpy z72 (v1 + 4) (0 : Int32) (pb + 4) (0 : Int32) (z72 pb 11)) fun z89 =>
  gd (cpb (0 : Int32) (0 : Int32) (z89 pb 11) 120 120) <|
  bnd (cpy z89 (v1 + 5) (0 : Int32) (pb + 5) (0 : Int32) (z89 pb 11)) fun z106 =>
  gd (cpb (0 : Int32) (0 : Int32) (z106 pb 11) 120 120) <|
  bnd (cpy z106 (v1 + 6) (0 : Int32) (pb + 6) (0 : Int32) (z106 pb 11)) fun z123 =>
  gd (cpb (0 : Int32) (0 : Int32) (128 : Int32) 128 128) <|
  bnd (cpy z123 (v1 + 7) (0 : Int32) (pb + 7) (0 : Int32) (128 : Int32)) fun z139 =>
  gd (cpb (0 : Int32) (0 : Int32) (z139 pb 11) 120 120) <|
  bnd (cpy z139 (v1 + 8) (0 : Int32) (pb + 8) (0 : Int32) (z139 pb 11)) fun z156 =>
  gd (cpb (0 : Int32) (0 : Int32) (z156 pb 11) 120 120) <|
  bnd (cpy z156 (v1 + 9) (0 : Int32) (pb + 9) (0 : Int32) (z156 pb 11)) fun z173 =>
  some z173
def fX5_count (z : fS) : Option Int32 :=
  some (z 11 5)
def fX5_isTaken (z : fS) (v1 : Int32) : Option Int32 :=
  gd (inb v1 100) <|
  if (rd z 15 v1) = (1 : Int32) then
    some (1 : Int32)
  else
    some (0 : Int32)
def fX5_isSame (z : fS) (v1 : Int32) : Option Int32 :=
  gd (inb v1 100) <|
  gd (isb (rd z 12 v1)) <|
  some (rd z 12 v1)
def fX5_left (z : fS) (v1 : Int32) : Option Int32 :=
  gd (inb v1 100) <|
  some (rd z 13 v1)
def fX5_right (z : fS) (v1 : Int32) : Option Int32 :=
  gd (inb v1 100) <|
  some (rd z 14 v1)
def lX2_judgeAnew_13    : Nat → Int32 → fS → Option fS
  | 0, _, _ => none
  | N + 1, v1, z =>
    bp (fX5_count z) fun r18 =>
    if r18 ≤ v1 then
      some z
    else
      bp (fX5_isTaken z v1) fun r29 =>
      if r29 = 0 then
        bnd (v1 + (1 : Int32)) fun x69 =>
        (lX2_judgeAnew_13    N) x69 z
      else
        bp (fX5_isSame z v1) fun r40 =>
        if r40 = 0 then
          bnd (v1 + (1 : Int32)) fun x69 =>
          (lX2_judgeAnew_13    N) x69 z
        else
          bp (fX5_left z v1) fun r55 =>
          bp (fX5_right z v1) fun r63 =>
          bp (fX4_join (pcell (z 17 3)) z r55 r63) fun z66 =>
          bnd (v1 + (1 : Int32)) fun x69 =>
          (lX2_judgeAnew_13    N) x69 z66
def fX2_judgeAnew (z : fS) : Option fS :=
  bp (fX4_copyFrom (pcell (z 17 3)) z 28) fun z8 =>
  lX2_judgeAnew_13    FU (0 : Int32) z8
def fX4_isTorn (pb : Nat) (z : fS) : Option Int32 :=
  gd (isb (z pb 13)) <|
  some (z pb 13)
def fX4_isOne (pb : Nat) (z : fS) (v1 : Int32) (v2 : Int32) : Option Int32 :=
  gd (inb v1 120) <|
  gd (inb v2 120) <|
  if (rd z (pb + 1) v1) = (rd z (pb + 1) v2) then
    some (1 : Int32)
  else
    some (0 : Int32)
def lX2_wouldClash_34   (z : fS) : Nat → Int32 → Option (Int32 × fS)
  | 0, _ => none
  | N + 1, v3 =>
    bp (fX5_count z) fun r39 =>
    if r39 ≤ v3 then
      some ((0 : Int32), z)
    else
      bp (fX5_isTaken z v3) fun r50 =>
      if r50 = 0 then
        bnd (v3 + (1 : Int32)) fun x95 =>
        (lX2_wouldClash_34   z N) x95
      else
        bp (fX5_isSame z v3) fun r61 =>
        if r61 = 0 then
          bp (fX5_left z v3) fun r76 =>
          bp (fX5_right z v3) fun r84 =>
          bp (fX4_isOne (pcell (z 17 4)) z r76 r84) fun r87 =>
          if r87 = 0 then
            bnd (v3 + (1 : Int32)) fun x95 =>
            (lX2_wouldClash_34   z N) x95
          else
            some ((1 : Int32), z)
        else
          bnd (v3 + (1 : Int32)) fun x95 =>
          (lX2_wouldClash_34   z N) x95
def fX2_wouldClash (z : fS) (v1 : Int32) (v2 : Int32) : Option (Int32 × fS) :=
  bp (fX4_copyFrom (pcell (z 17 4)) z (pcell (z 17 3))) fun z8 =>
  bp (fX4_join (pcell (z8 17 4)) z8 v1 v2) fun z17 =>
  bp (fX4_isTorn (pcell (z17 17 4)) z17) fun r24 =>
  if r24 = 0 then
    lX2_wouldClash_34   z17 FU (0 : Int32)
  else
    some ((1 : Int32), z17)
def fX2_acceptTrial (z : fS) : Option fS :=
  bnd (wf z 17 3 (z 17 4)) fun z10 =>
  bnd (wf z10 17 4 (z 17 3)) fun z15 =>
  some z15
def fX2_addToTrial (z : fS) (v1 : Int32) : Option (Int32 × fS) :=
  bp (fX5_isSame z v1) fun r5 =>
  if r5 = 0 then
    bp (fX1_add 18 z v1) fun z16 =>
    some ((1 : Int32), z16)
  else
    bp (fX4_isTorn (pcell (z 17 4)) z) fun r25 =>
    if r25 = 0 then
      bp (fX5_left z v1) fun r40 =>
      bp (fX5_right z v1) fun r48 =>
      bp (fX4_isOne (pcell (z 17 4)) z r40 r48) fun r51 =>
      if r51 = 0 then
        bp (fX5_left z v1) fun r68 =>
        bp (fX5_right z v1) fun r76 =>
        bp (fX4_join (pcell (z 17 4)) z r68 r76) fun z79 =>
        some ((1 : Int32), z79)
      else
        some ((0 : Int32), z)
    else
      some ((0 : Int32), z)
def lX2_isReached_29   (z : fS) : Nat → Int32 → Option Int32
  | 0, _ => none
  | N + 1, v4 =>
    bp (fX1_count 18 z) fun r35 =>
    if r35 ≤ v4 then
      some (0 : Int32)
    else
      bp (fX1_at 18 z v4) fun r47 =>
      bp (fX5_left z r47) fun r62 =>
      bp (fX5_right z r47) fun r71 =>
      bp (fX4_isOne (pcell (z 17 4)) z r62 r71) fun r74 =>
      if r74 = 0 then
        bnd (v4 + (1 : Int32)) fun x82 =>
        (lX2_isReached_29   z N) x82
      else
        some (1 : Int32)
def fX2_isReached (z : fS) (v1 : Int32) (v2 : Int32) (v3 : Int32) : Option Int32 :=
  if v1 = 0 then
    bp (fX4_isTorn (pcell (z 17 4)) z) fun r18 =>
    if r18 = 0 then
      lX2_isReached_29   z FU (0 : Int32)
    else
      some (1 : Int32)
  else
    bp (fX4_isOne (pcell (z 17 4)) z v2 v3) fun r10 =>
    gd (isb r10) <|
    some r10
def jX2_thin_157 (v4 : Nat) (rc : Int32 → fS → Option fS) (v1 : Int32) (v2 : Int32) (v3 : Int32) (v5 : Int32) (v6 : Int32) (v7 : Int32) (z : fS) : Option fS :=
  if v6 < v7 then
    bp (fX1_add v4 z v7) fun z169 =>
    bnd (v5 + (1 : Int32)) fun x172 =>
    rc x172 z169
  else
    some z
def lX2_thin_113 (v4 : Nat) (k157 : Int32 → fS → Option fS) (v1 : Int32) (v2 : Int32) (v3 : Int32) (v5 : Int32) (v6 : Int32) : Nat → Int32 → fS → Option fS
  | 0, _, _ => none
  | N + 1, v7, z =>
    if v7 ≤ v6 then
      k157 v7 z
    else
      bp (fX5_isTaken z v7) fun r126 =>
      if r126 = 0 then
        bnd (v7 + (-1 : Int32)) fun x151 =>
        (lX2_thin_113 v4 k157 v1 v2 v3 v5 v6 N) x151 z
      else
        bd (fX2_addToTrial z v7) fun r135 z135 =>
        if r135 = 0 then
          bnd (v7 + (-1 : Int32)) fun x151 =>
          (lX2_thin_113 v4 k157 v1 v2 v3 v5 v6 N) x151 z135
        else
          bp (fX2_isReached z135 v1 v2 v3) fun r145 =>
          if r145 = 0 then
            bnd (v7 + (-1 : Int32)) fun x151 =>
            (lX2_thin_113 v4 k157 v1 v2 v3 v5 v6 N) x151 z135
          else
            k157 v7 z135
def jX2_thin_77 (v4 : Nat) (rc : Int32 → fS → Option fS) (v1 : Int32) (v2 : Int32) (v3 : Int32) (v5 : Int32) (z : fS) : Option fS :=
  bp (fX2_isReached z v1 v2 v3) fun r81 =>
  if r81 = 0 then
    bp (fX1_count v4 z) fun r92 =>
    bp (fX1_at v4 z (r92 - (1 : Int32))) fun r97 =>
    bp (fX5_count z) fun r106 =>
    bnd (r106 - (1 : Int32)) fun x111 =>
    lX2_thin_113 v4 (jX2_thin_157 v4 rc v1 v2 v3 v5 r97) v1 v2 v3 v5 r97 FU x111 z
  else
    some z
def lX2_thin_49 (v4 : Nat) (k77 : fS → Option fS) (v1 : Int32) (v2 : Int32) (v3 : Int32) (v5 : Int32) : Nat → Int32 → fS → Option fS
  | 0, _, _ => none
  | N + 1, v6, z =>
    bp (fX1_count v4 z) fun r53 =>
    if r53 ≤ v6 then
      k77 z
    else
      bp (fX1_at v4 z v6) fun r64 =>
      bd (fX2_addToTrial z r64) fun r67 z67 =>
      bnd (v6 + (1 : Int32)) fun x71 =>
      (lX2_thin_49 v4 k77 v1 v2 v3 v5 N) x71 z67
def jX2_thin_46 (v4 : Nat) (rc : Int32 → fS → Option fS) (v1 : Int32) (v2 : Int32) (v3 : Int32) (v5 : Int32) (z : fS) : Option fS :=
  lX2_thin_49 v4 (jX2_thin_77 v4 rc v1 v2 v3 v5) v1 v2 v3 v5 FU (0 : Int32) z
def lX2_thin_8 (v4 : Nat)  (v1 : Int32) (v2 : Int32) (v3 : Int32) : Nat → Int32 → fS → Option fS
  | 0, _, _ => none
  | N + 1, v5, z =>
    if (100 : Int32) ≤ v5 then
      some z
    else
      bp (fX4_copyFrom (pcell (z 17 4)) z 28) fun z23 =>
      bp (fX1_clear 18 z23) fun z30 =>
      if v1 = 0 then
        bp (fX4_join (pcell (z30 17 4)) z30 v2 v3) fun z43 =>
        jX2_thin_46 v4 (lX2_thin_8 v4  v1 v2 v3 N) v1 v2 v3 v5 z43
      else
        jX2_thin_46 v4 (lX2_thin_8 v4  v1 v2 v3 N) v1 v2 v3 v5 z30
def fX2_thin (z : fS) (v1 : Int32) (v2 : Int32) (v3 : Int32) (v4 : Nat) : Option fS :=
  bp (fX1_clear v4 z) fun z2 =>
  lX2_thin_8 v4  v1 v2 v3 FU (0 : Int32) z2
def lX2_fillPool_4    : Nat → Int32 → Int32 → fS → Option (Int32 × fS)
  | 0, _, _, _ => none
  | N + 1, v1, v2, z =>
    bp (fX5_count z) fun r9 =>
    if r9 ≤ v2 then
      some (v1, z)
    else
      bp (fX5_isTaken z v2) fun r20 =>
      if r20 = 0 then
        bnd (v2 + (1 : Int32)) fun x84 =>
        (lX2_fillPool_4    N) v1 x84 z
      else
        gd (inb v1 100) <|
        bnd (wr z 20 v1 v2) fun z32 =>
        bp (fX5_isSame z32 v2) fun r43 =>
        if r43 = 0 then
          gd (inb v1 100) <|
          bnd (wr z32 21 v1 (zb (0 : Int32))) fun z80 =>
          bnd (v1 + (1 : Int32)) fun x81 =>
          bnd (v2 + (1 : Int32)) fun x84 =>
          (lX2_fillPool_4    N) x81 x84 z80
        else
          bp (fX5_left z32 v2) fun r58 =>
          bp (fX5_right z32 v2) fun r66 =>
          bp (fX4_isOne 28 z32 r58 r66) fun r69 =>
          if r69 = 0 then
            gd (inb v1 100) <|
            bnd (wr z32 21 v1 (zb (1 : Int32))) fun z80 =>
            bnd (v1 + (1 : Int32)) fun x81 =>
            bnd (v2 + (1 : Int32)) fun x84 =>
            (lX2_fillPool_4    N) x81 x84 z80
          else
            gd (inb v1 100) <|
            bnd (wr z32 21 v1 (zb (0 : Int32))) fun z80 =>
            bnd (v1 + (1 : Int32)) fun x81 =>
            bnd (v2 + (1 : Int32)) fun x84 =>
            (lX2_fillPool_4    N) x81 x84 z80
def fX2_fillPool (z : fS) : Option (Int32 × fS) :=
  lX2_fillPool_4    FU (0 : Int32) (0 : Int32) z
def lX2_isOneByPicks_46   (v1 : Int32) (v2 : Int32) (v3 : Int32) : Nat → Int32 → fS → Option (Int32 × fS)
  | 0, _, _ => none
  | N + 1, v4, z =>
    if v1 ≤ v4 then
      bp (fX4_isOne (pcell (z 17 4)) z v2 v3) fun r103 =>
      gd (isb r103) <|
      some (r103, z)
    else
      gd (inb v4 100) <|
      gd (inb (rd z 22 v4) 100) <|
      bnd (rd z 20 (rd z 22 v4)) fun x64 =>
      bp (fX5_left z x64) fun r76 =>
      bp (fX5_right z x64) fun r85 =>
      bp (fX4_join (pcell (z 17 4)) z r76 r85) fun z88 =>
      bnd (v4 + (1 : Int32)) fun x91 =>
      (lX2_isOneByPicks_46   v1 v2 v3 N) x91 z88
def jX2_isOneByPicks_32   (z : fS) (v1 : Int32) (v2 : Int32) (v3 : Int32) : Option (Int32 × fS) :=
  bp (fX4_copyFrom (pcell (z 17 4)) z 28) fun z40 =>
  lX2_isOneByPicks_46   v1 v2 v3 FU (0 : Int32) z40
def lX2_isOneByPicks_3  (k32 : Option (Int32 × fS)) (z : fS) (v1 : Int32) (v2 : Int32) (v3 : Int32) : Nat → Int32 → Option (Int32 × fS)
  | 0, _ => none
  | N + 1, v4 =>
    if v1 ≤ v4 then
      k32 
    else
      gd (inb v4 100) <|
      gd (inb (rd z 22 v4) 100) <|
      if (rd z 21 (rd z 22 v4)) = 0 then
        some ((0 : Int32), z)
      else
        bnd (v4 + (1 : Int32)) fun x26 =>
        (lX2_isOneByPicks_3  k32 z v1 v2 v3 N) x26
def fX2_isOneByPicks (z : fS) (v1 : Int32) (v2 : Int32) (v3 : Int32) : Option (Int32 × fS) :=
  lX2_isOneByPicks_3  (jX2_isOneByPicks_32   z v1 v2 v3) z v1 v2 v3 FU (0 : Int32)
def lX2_pickNext_49   (v1 : Int32) : Nat → Int32 → fS → Option (Int32 × fS)
  | 0, _, _ => none
  | N + 1, v4, z =>
    if v1 ≤ v4 then
      some ((1 : Int32), z)
    else
      gd (inb (v4 - (1 : Int32)) 100) <|
      gd (inb v4 100) <|
      bnd (wr z 22 v4 ((rd z 22 (v4 - (1 : Int32))) + (1 : Int32))) fun z72 =>
      bnd (v4 + (1 : Int32)) fun x73 =>
      (lX2_pickNext_49   v1 N) x73 z72
def jX2_pickNext_28   (z : fS) (v1 : Int32) (v3 : Int32) : Option (Int32 × fS) :=
  if 0 ≤ v3 then
    gd (inb v3 100) <|
    gd (inb v3 100) <|
    bnd (wr z 22 v3 ((rd z 22 v3) + (1 : Int32))) fun z43 =>
    bnd (v3 + (1 : Int32)) fun x47 =>
    lX2_pickNext_49   v1 FU x47 z43
  else
    some ((0 : Int32), z)
def lX2_pickNext_4  (k28 : Int32 → Option (Int32 × fS)) (z : fS) (v1 : Int32) (v2 : Int32) : Nat → Int32 → Option (Int32 × fS)
  | 0, _ => none
  | N + 1, v3 =>
    if v3 < 0 then
      k28 v3
    else
      gd (inb v3 100) <|
      if (rd z 22 v3) < ((v2 - v1) + v3) then
        k28 v3
      else
        bnd (v3 + (-1 : Int32)) fun x22 =>
        (lX2_pickNext_4  k28 z v1 v2 N) x22
def fX2_pickNext (z : fS) (v1 : Int32) (v2 : Int32) : Option (Int32 × fS) :=
  bnd (v1 - (1 : Int32)) fun x3 =>
  lX2_pickNext_4  (jX2_pickNext_28   z v1) z v1 v2 FU x3
def lX2_findFewest_86 (v4 : Nat)  (v7 : Int32) : Nat → Int32 → fS → Option (Int32 × fS)
  | 0, _, _ => none
  | N + 1, v9, z =>
    if v7 ≤ v9 then
      some ((1 : Int32), z)
    else
      gd (inb v9 100) <|
      gd (inb (rd z 22 v9) 100) <|
      bp (fX1_add v4 z (rd z 20 (rd z 22 v9))) fun z107 =>
      bnd (v9 + (1 : Int32)) fun x110 =>
      (lX2_findFewest_86 v4  v7 N) x110 z107
def jX2_findFewest_78 (v4 : Nat)  (v7 : Int32) (z : fS) : Option (Int32 × fS) :=
  bp (fX1_clear v4 z) fun z80 =>
  lX2_findFewest_86 v4  v7 FU (0 : Int32) z80
def jX2_findFewest_131 (v4 : Nat) (rc : Int32 → Int32 → fS → Option (Int32 × fS)) (k78 : Int32 → fS → Option (Int32 × fS)) (v1 : Int32) (v2 : Int32) (v3 : Int32) (v5 : Int32) (v7 : Int32) (v6 : Int32) (z : fS) : Option (Int32 × fS) :=
  bnd (v7 + (1 : Int32)) fun x131 =>
  rc v6 x131 z
def lX2_findFewest_53 (v4 : Nat) (k78 : fS → Option (Int32 × fS)) (k131 : Int32 → fS → Option (Int32 × fS)) (v1 : Int32) (v2 : Int32) (v3 : Int32) (v5 : Int32) (v7 : Int32) : Nat → Int32 → Int32 → fS → Option (Int32 × fS)
  | 0, _, _, _ => none
  | N + 1, v6, v8, z =>
    if v8 = 0 then
      k131 v6 z
    else
      if v3 ≤ v6 then
        k131 v6 z
      else
        bnd (v6 + (1 : Int32)) fun x64 =>
        bd (fX2_isOneByPicks z v7 v1 v2) fun r72 z72 =>
        if r72 = 0 then
          bd (fX2_pickNext z72 v7 v5) fun r123 z123 =>
          (lX2_findFewest_53 v4 k78 k131 v1 v2 v3 v5 v7 N) x64 r123 z123
        else
          k78 z72
def jX2_findFewest_50 (v4 : Nat) (rc : Int32 → Int32 → fS → Option (Int32 × fS)) (k78 : Int32 → fS → Option (Int32 × fS)) (v1 : Int32) (v2 : Int32) (v3 : Int32) (v5 : Int32) (v6 : Int32) (v7 : Int32) (z : fS) : Option (Int32 × fS) :=
  lX2_findFewest_53 v4 (k78 v7) (jX2_findFewest_131 v4 rc k78 v1 v2 v3 v5 v7) v1 v2 v3 v5 v7 FU v6 (1 : Int32) z
def lX2_findFewest_28 (v4 : Nat) (k50 : fS → Option (Int32 × fS)) (v1 : Int32) (v2 : Int32) (v3 : Int32) (v5 : Int32) (v6 : Int32) (v7 : Int32) : Nat → Int32 → fS → Option (Int32 × fS)
  | 0, _, _ => none
  | N + 1, v8, z =>
    if v7 ≤ v8 then
      k50 z
    else
      gd (inb v8 100) <|
      bnd (wr z 22 v8 v8) fun z43 =>
      bnd (v8 + (1 : Int32)) fun x44 =>
      (lX2_findFewest_28 v4 k50 v1 v2 v3 v5 v6 v7 N) x44 z43
def lX2_findFewest_12 (v4 : Nat) (k78 : Int32 → fS → Option (Int32 × fS)) (v1 : Int32) (v2 : Int32) (v3 : Int32) (v5 : Int32) : Nat → Int32 → Int32 → fS → Option (Int32 × fS)
  | 0, _, _, _ => none
  | N + 1, v6, v7, z =>
    if v5 < v7 then
      some ((0 : Int32), z)
    else
      if v3 ≤ v6 then
        some ((0 : Int32), z)
      else
        lX2_findFewest_28 v4 (jX2_findFewest_50 v4 (lX2_findFewest_12 v4 k78 v1 v2 v3 v5 N) k78 v1 v2 v3 v5 v6 v7) v1 v2 v3 v5 v6 v7 FU (0 : Int32) z
def fX2_findFewest (z : fS) (v1 : Int32) (v2 : Int32) (v3 : Int32) (v4 : Nat) : Option (Int32 × fS) :=
  bd (fX2_fillPool z) fun r1 z1 =>
  lX2_findFewest_12 v4 (jX2_findFewest_78 v4  ) v1 v2 v3 r1 FU (0 : Int32) (0 : Int32) z1
def fX7_holesOf (z : fS) (v1 : Int32) : Option Int32 :=
  gd (inb v1 120) <|
  some (rd z 6 v1)
def fX7_isHole (z : fS) (v1 : Int32) : Option Int32 :=
  gd (inb v1 120) <|
  if (rd z 2 v1) = 0 then
    gd (inb v1 120) <|
    if (rd z 3 v1) < (90 : Int32) then
      some (0 : Int32)
    else
      gd (inb v1 120) <|
      if (93 : Int32) ≤ (rd z 3 v1) then
        some (0 : Int32)
      else
        some (1 : Int32)
  else
    some (0 : Int32)
def fX3_isKnown (z : fS) (v1 : Int32) : Option Int32 :=
  if v1 = (-1 : Int32) then
    some (1 : Int32)
  else
    bp (fX7_holesOf z v1) fun r10 =>
    if r10 = 0 then
      some (1 : Int32)
    else
      bp (fX7_isHole z v1) fun r21 =>
      if r21 = 0 then
        gd (inb v1 120) <|
        if (rd z 60 v1) = (z 58 5) then
          some (1 : Int32)
        else
          some (0 : Int32)
      else
        some (1 : Int32)
def fX7_partOf (z : fS) (v1 : Int32) (v2 : Int32) : Option Int32 :=
  gd (inb (((3 : Int32) * v1) + v2) 360) <|
  some (rd z 5 (((3 : Int32) * v1) + v2))
def lX3_openPart_2   (z : fS) (v1 : Int32) : Nat → Int32 → Option Int32
  | 0, _ => none
  | N + 1, v2 =>
    bp (fX7_sizeOf z v1) fun r8 =>
    if r8 ≤ v2 then
      some (-1 : Int32)
    else
      bp (fX7_partOf z v1 v2) fun r21 =>
      bp (fX3_isKnown z r21) fun r24 =>
      if r24 = 0 then
        bp (fX7_partOf z v1 v2) fun r36 =>
        some r36
      else
        bnd (v2 + (1 : Int32)) fun x40 =>
        (lX3_openPart_2   z v1 N) x40
def fX3_openPart (z : fS) (v1 : Int32) : Option Int32 :=
  lX3_openPart_2   z v1 FU (0 : Int32)
def fX7_shownBy (z : fS) (v1 : Int32) : Option Int32 :=
  gd (inb v1 120) <|
  some (rd z 3 v1)
def fX3_imageOf (z : fS) (v1 : Int32) : Option Int32 :=
  if v1 = (-1 : Int32) then
    some v1
  else
    bp (fX7_holesOf z v1) fun r10 =>
    if r10 = 0 then
      some v1
    else
      bp (fX7_isHole z v1) fun r23 =>
      if r23 = 0 then
        gd (inb v1 120) <|
        some (rd z 59 v1)
      else
        bp (fX7_shownBy z v1) fun r38 =>
        gd (inb (r38 - (90 : Int32)) 3) <|
        some (rd z 62 (r38 - (90 : Int32)))
def lX7_find_20   (z : fS) (v1 : Int32) (v2 : Int32) (v3 : Int32) (v4 : Int32) (v5 : Int32) : Nat → Int32 → Int32 → Option Int32
  | 0, _, _ => none
  | N + 1, v6, v7 =>
    if (120 : Int32) ≤ v7 then
      some (-1 : Int32)
    else
      if v6 = (-1 : Int32) then
        some (-1 : Int32)
      else
        bnd ((3 : Int32) * v6) fun x37 =>
        gd (inb v6 120) <|
        if (rd z 2 v6) = v1 then
          gd (inb v6 120) <|
          if (rd z 3 v6) = v2 then
            gd (inb x37 360) <|
            if (rd z 5 x37) = v3 then
              gd (inb (x37 + (1 : Int32)) 360) <|
              if (rd z 5 (x37 + (1 : Int32))) = v4 then
                gd (inb (x37 + (2 : Int32)) 360) <|
                if (rd z 5 (x37 + (2 : Int32))) = v5 then
                  some v6
                else
                  gd (inb v6 120) <|
                  bnd (rd z 8 v6) fun x110 =>
                  bnd (v7 + (1 : Int32)) fun x112 =>
                  (lX7_find_20   z v1 v2 v3 v4 v5 N) x110 x112
              else
                gd (inb v6 120) <|
                bnd (rd z 8 v6) fun x110 =>
                bnd (v7 + (1 : Int32)) fun x112 =>
                (lX7_find_20   z v1 v2 v3 v4 v5 N) x110 x112
            else
              gd (inb v6 120) <|
              bnd (rd z 8 v6) fun x110 =>
              bnd (v7 + (1 : Int32)) fun x112 =>
              (lX7_find_20   z v1 v2 v3 v4 v5 N) x110 x112
          else
            gd (inb v6 120) <|
            bnd (rd z 8 v6) fun x110 =>
            bnd (v7 + (1 : Int32)) fun x112 =>
            (lX7_find_20   z v1 v2 v3 v4 v5 N) x110 x112
        else
          gd (inb v6 120) <|
          bnd (rd z 8 v6) fun x110 =>
          bnd (v7 + (1 : Int32)) fun x112 =>
          (lX7_find_20   z v1 v2 v3 v4 v5 N) x110 x112
def fX7_find (z : fS) (v1 : Int32) (v2 : Int32) (v3 : Int32) (v4 : Int32) (v5 : Int32) : Option Int32 :=
  bp (fX8_slotFor z v1 v2 v3 v4 v5) fun r11 =>
  gd (inb r11 128) <|
  bnd (rd z 7 r11) fun x15 =>
  lX7_find_20   z v1 v2 v3 v4 v5 FU x15 (0 : Int32)
def jX7_findOrMake_248   (v1 : Int32) (v2 : Int32) (v3 : Int32) (v4 : Int32) (v5 : Int32) (v7 : Int32) (z : fS) : Option (Int32 × fS) :=
  bp (fX8_slotFor z v1 v2 v3 v4 v5) fun r255 =>
  gd (inb r255 128) <|
  gd (inb v7 120) <|
  bnd (wr z 8 v7 (rd z 7 r255)) fun z273 =>
  gd (inb r255 128) <|
  bnd (wr z273 7 r255 v7) fun z282 =>
  some (v7, z282)
def lX7_findOrMake_176  (k248 : fS → Option (Int32 × fS)) (v1 : Int32) (v2 : Int32) (v3 : Int32) (v4 : Int32) (v5 : Int32) (v7 : Int32) : Nat → Int32 → fS → Option (Int32 × fS)
  | 0, _, _ => none
  | N + 1, v8, z =>
    gd (inb v7 120) <|
    if (((3 : Int32) * v7) + (rd z 4 v7)) ≤ v8 then
      k248 z
    else
      gd (inb v8 360) <|
      bnd (rd z 5 v8) fun x200 =>
      gd (inb v7 120) <|
      gd (inb x200 120) <|
      gd (inb v7 120) <|
      bnd (wr z 6 v7 ((rd z 6 v7) ||| (rd z 6 x200))) fun z218 =>
      gd (inb x200 120) <|
      gd (inb v8 360) <|
      bnd (wr z218 10 v8 (rd z218 9 x200)) fun z232 =>
      gd (inb x200 120) <|
      bnd (wr z232 9 x200 v8) fun z241 =>
      bnd (v8 + (1 : Int32)) fun x242 =>
      (lX7_findOrMake_176  k248 v1 v2 v3 v4 v5 v7 N) x242 z241
def jX7_findOrMake_169   (v1 : Int32) (v2 : Int32) (v3 : Int32) (v4 : Int32) (v5 : Int32) (v7 : Int32) (y0 : Int32) (y1 : Int32) (z : fS) : Option (Int32 × fS) :=
  gd (inb y1 120) <|
  bnd (wr z 6 y1 y0) fun z169 =>
  bnd ((3 : Int32) * v7) fun x174 =>
  lX7_findOrMake_176  (jX7_findOrMake_248   v1 v2 v3 v4 v5 v7) v1 v2 v3 v4 v5 v7 FU x174 z169
def jX7_findOrMake_99   (v1 : Int32) (v2 : Int32) (v3 : Int32) (v4 : Int32) (v5 : Int32) (v7 : Int32) (y0 : Int32) (y1 : Int32) (z : fS) : Option (Int32 × fS) :=
  gd (inb y1 120) <|
  bnd (wr z 4 y1 y0) fun z99 =>
  gd (inb ((3 : Int32) * v7) 360) <|
  bnd (wr z99 5 ((3 : Int32) * v7) v3) fun z109 =>
  gd (inb (((3 : Int32) * v7) + (1 : Int32)) 360) <|
  bnd (wr z109 5 (((3 : Int32) * v7) + (1 : Int32)) v4) fun z122 =>
  gd (inb (((3 : Int32) * v7) + (2 : Int32)) 360) <|
  bnd (wr z122 5 (((3 : Int32) * v7) + (2 : Int32)) v5) fun z135 =>
  gd (inb v7 120) <|
  bnd (wr z135 9 v7 (-1 : Int32)) fun z143 =>
  bp (fX7_isHole z143 v7) fun r153 =>
  if r153 = 0 then
    jX7_findOrMake_169   v1 v2 v3 v4 v5 v7 (0 : Int32) v7 z143
  else
    jX7_findOrMake_169   v1 v2 v3 v4 v5 v7 ((1 : Int32) <<< ((v2 - (90 : Int32)) &&& 31)) v7 z143
def fX7_findOrMake (z : fS) (v1 : Int32) (v2 : Int32) (v3 : Int32) (v4 : Int32) (v5 : Int32) : Option (Int32 × fS) :=
  bp (fX7_find z v1 v2 v3 v4 v5) fun r8 =>
  if r8 = (-1 : Int32) then
    if (z 1 9) < (120 : Int32) then
      bnd (z 1 9) fun x35 =>
      bnd (wf z 1 9 ((z 1 9) + (1 : Int32))) fun z44 =>
      gd (inb x35 120) <|
      bnd (wr z44 2 x35 v1) fun z54 =>
      gd (inb x35 120) <|
      bnd (wr z54 3 x35 v2) fun z62 =>
      if v3 = (-1 : Int32) then
        jX7_findOrMake_99   v1 v2 v3 v4 v5 x35 (0 : Int32) x35 z62
      else
        if v4 = (-1 : Int32) then
          jX7_findOrMake_99   v1 v2 v3 v4 v5 x35 (1 : Int32) x35 z62
        else
          if v5 = (-1 : Int32) then
            jX7_findOrMake_99   v1 v2 v3 v4 v5 x35 (2 : Int32) x35 z62
          else
            jX7_findOrMake_99   v1 v2 v3 v4 v5 x35 (3 : Int32) x35 z62
    else
      some (r8, z)
  else
    some (r8, z)
def fX3_makeImage (z : fS) (v1 : Int32) : Option (Int32 × fS) :=
  bp (fX7_partOf z v1 (0 : Int32)) fun r7 =>
  bp (fX3_imageOf z r7) fun r10 =>
  bp (fX7_partOf z v1 (1 : Int32)) fun r21 =>
  bp (fX3_imageOf z r21) fun r24 =>
  bp (fX7_partOf z v1 (2 : Int32)) fun r35 =>
  bp (fX3_imageOf z r35) fun r38 =>
  bp (fX7_kindOf z v1) fun r52 =>
  bp (fX7_shownBy z v1) fun r60 =>
  bd (fX7_findOrMake z r52 r60 r10 r24 r38) fun r67 z67 =>
  gd (inb v1 120) <|
  bnd (wr z67 59 v1 r67) fun z79 =>
  gd (inb v1 120) <|
  bnd (wr z79 60 v1 (z79 58 5)) fun z89 =>
  if r67 = (-1 : Int32) then
    some ((0 : Int32), z89)
  else
    some ((1 : Int32), z89)
def jX7_unmakeFrom_59  (rc : Int32 → fS → Option fS) (v1 : Int32) (v2 : Int32) (v3 : Int32) (z : fS) : Option fS :=
  gd (inb v2 120) <|
  gd (inb v2 120) <|
  gd (inb v3 360) <|
  gd (inb (v3 + (1 : Int32)) 360) <|
  gd (inb (v3 + (2 : Int32)) 360) <|
  bp (fX8_slotFor z (rd z 2 v2) (rd z 3 v2) (rd z 5 v3) (rd z 5 (v3 + (1 : Int32))) (rd z 5 (v3 + (2 : Int32)))) fun r97 =>
  gd (inb v2 120) <|
  gd (inb r97 128) <|
  bnd (wr z 7 r97 (rd z 8 v2)) fun z106 =>
  bnd (wf z106 1 9 v2) fun z109 =>
  bnd (v2 + (-1 : Int32)) fun x112 =>
  rc x112 z109
def lX7_unmakeFrom_28  (k59 : fS → Option fS) (v1 : Int32) (v2 : Int32) (v3 : Int32) : Nat → Int32 → fS → Option fS
  | 0, _, _ => none
  | N + 1, v4, z =>
    if v4 < v3 then
      k59 z
    else
      gd (inb v4 360) <|
      gd (inb v4 360) <|
      gd (inb (rd z 5 v4) 120) <|
      bnd (wr z 9 (rd z 5 v4) (rd z 10 v4)) fun z52 =>
      bnd (v4 + (-1 : Int32)) fun x53 =>
      (lX7_unmakeFrom_28  k59 v1 v2 v3 N) x53 z52
def lX7_unmakeFrom_7   (v1 : Int32) : Nat → Int32 → fS → Option fS
  | 0, _, _ => none
  | N + 1, v2, z =>
    if v2 < v1 then
      some z
    else
      bnd ((3 : Int32) * v2) fun x15 =>
      gd (inb v2 120) <|
      bnd ((x15 + (rd z 4 v2)) - (1 : Int32)) fun x26 =>
      lX7_unmakeFrom_28  (jX7_unmakeFrom_59  (lX7_unmakeFrom_7   v1 N) v1 v2 x15) v1 v2 x15 FU x26 z
def fX7_unmakeFrom (z : fS) (v1 : Int32) : Option fS :=
  bnd ((z 1 9) - (1 : Int32)) fun x6 =>
  lX7_unmakeFrom_7   v1 FU x6 z
def jX3_makeInstance_126  (rc : Int32 → Int32 → fS → Option (Int32 × fS)) (v1 : Int32) (v5 : Int32) (v6 : Int32) (v7 : Int32) (v8 : Int32) (z : fS) : Option (Int32 × fS) :=
  bp (fX3_isKnown z v8) fun r129 =>
  if r129 = 0 then
    bd (fX3_makeImage z v8) fun r138 z138 =>
    if r138 = 0 then
      bp (fX7_unmakeFrom z138 v5) fun z150 =>
      some ((-1 : Int32), z150)
    else
      bnd (v6 + (-1 : Int32)) fun x155 =>
      bnd (v7 + (1 : Int32)) fun x158 =>
      rc x155 x158 z138
  else
    bnd (v6 + (-1 : Int32)) fun x155 =>
    bnd (v7 + (1 : Int32)) fun x158 =>
    rc x155 x158 z
def jX3_makeInstance_94  (rc : Int32 → Int32 → fS → Option (Int32 × fS)) (v1 : Int32) (v5 : Int32) (v6 : Int32) (v7 : Int32) (v8 : Int32) (y0 : Int32) (z : fS) : Option (Int32 × fS) :=
  if y0 = (-1 : Int32) then
    jX3_makeInstance_126  rc v1 v5 v6 v7 v8 z
  else
    if (120 : Int32) ≤ (v6 + (1 : Int32)) then
      jX3_makeInstance_126  rc v1 v5 v6 v7 v8 z
    else
      bnd (v6 + (1 : Int32)) fun x111 =>
      gd (inb x111 120) <|
      bnd (wr z 61 x111 y0) fun z122 =>
      bnd (v7 + (1 : Int32)) fun x158 =>
      rc x111 x158 z122
def lX3_makeInstance_54   (v1 : Int32) (v5 : Int32) : Nat → Int32 → Int32 → fS → Option (Int32 × fS)
  | 0, _, _, _ => none
  | N + 1, v6, v7, z =>
    if (1000000 : Int32) ≤ v7 then
      bp (fX3_imageOf z v1) fun r166 =>
      some (r166, z)
    else
      if v6 < 0 then
        bp (fX3_imageOf z v1) fun r166 =>
        some (r166, z)
      else
        gd (inb v6 120) <|
        bnd (rd z 61 v6) fun x73 =>
        bp (fX3_isKnown z x73) fun r78 =>
        if r78 = 0 then
          bp (fX3_openPart z x73) fun r91 =>
          jX3_makeInstance_94  (lX3_makeInstance_54   v1 v5 N) v1 v5 v6 v7 x73 r91 z
        else
          jX3_makeInstance_94  (lX3_makeInstance_54   v1 v5 N) v1 v5 v6 v7 x73 (-1 : Int32) z
def fX3_makeInstance (z : fS) (v1 : Int32) (v2 : Int32) (v3 : Int32) (v4 : Int32) : Option (Int32 × fS) :=
  bp (fX7_count z) fun r4 =>
  gd (inb (0 : Int32) 3) <|
  bnd (wr z 62 (0 : Int32) v2) fun z15 =>
  gd (inb (1 : Int32) 3) <|
  bnd (wr z15 62 (1 : Int32) v3) fun z22 =>
  gd (inb (2 : Int32) 3) <|
  bnd (wr z22 62 (2 : Int32) v4) fun z30 =>
  bnd (wf z30 58 5 ((z30 58 5) + (1 : Int32))) fun z38 =>
  gd (inb (0 : Int32) 120) <|
  bnd (wr z38 61 (0 : Int32) v1) fun z50 =>
  lX3_makeInstance_54   v1 r4 FU (0 : Int32) (0 : Int32) z50
def fX4_classes (pb : Nat) (z : fS) : Option Int32 :=
  some (z pb 12)
def fX4_headOf (pb : Nat) (z : fS) (v1 : Int32) : Option Int32 :=
  gd (inb v1 120) <|
  gd (inb (rd z (pb + 1) v1) 120) <|
  some (rd z (pb + 4) (rd z (pb + 1) v1))
def fX4_numberOf (pb : Nat) (z : fS) (v1 : Int32) : Option Int32 :=
  gd (inb v1 120) <|
  gd (inb (rd z (pb + 1) v1) 120) <|
  some (rd z (pb + 5) (rd z (pb + 1) v1))
def lX4_unnumberedBelow_4 (pb : Nat)  (z : fS) (v1 : Int32) : Nat → Int32 → Int32 → Option Int32
  | 0, _, _ => none
  | N + 1, v2, v3 =>
    if v1 ≤ v3 then
      some v2
    else
      bp (fX4_headOf pb z v3) fun r11 =>
      if r11 = v3 then
        bp (fX4_numberOf pb z v3) fun r20 =>
        if r20 = (-1 : Int32) then
          bnd (v2 + (1 : Int32)) fun x27 =>
          bnd (v3 + (1 : Int32)) fun x30 =>
          (lX4_unnumberedBelow_4 pb  z v1 N) x27 x30
        else
          bnd (v3 + (1 : Int32)) fun x30 =>
          (lX4_unnumberedBelow_4 pb  z v1 N) v2 x30
      else
        bnd (v3 + (1 : Int32)) fun x30 =>
        (lX4_unnumberedBelow_4 pb  z v1 N) v2 x30
def fX4_unnumberedBelow (pb : Nat) (z : fS) (v1 : Int32) : Option Int32 :=
  lX4_unnumberedBelow_4 pb  z v1 FU (0 : Int32) (0 : Int32)
def lX4_hasPartLike_2 (pb : Nat)  (z : fS) (v1 : Int32) (v2 : Int32) : Nat → Int32 → Option Int32
  | 0, _ => none
  | N + 1, v3 =>
    bp (fX7_sizeOf z v1) fun r8 =>
    if r8 ≤ v3 then
      some (0 : Int32)
    else
      bp (fX7_partOf z v1 v3) fun r21 =>
      bp (fX4_isOne pb z r21 v2) fun r25 =>
      if r25 = 0 then
        bnd (v3 + (1 : Int32)) fun x33 =>
        (lX4_hasPartLike_2 pb  z v1 v2 N) x33
      else
        some (1 : Int32)
def fX4_hasPartLike (pb : Nat) (z : fS) (v1 : Int32) (v2 : Int32) : Option Int32 :=
  lX4_hasPartLike_2 pb  z v1 v2 FU (0 : Int32)
def fX5_takenCount (z : fS) : Option Int32 :=
  some (z 11 6)
def fX5_levels (z : fS) : Option Int32 :=
  some (z 11 7)
def fX5_has (z : fS) (v1 : Int32) : Option Int32 :=
  if v1 < 0 then
    some (0 : Int32)
  else
    if (z 11 5) ≤ v1 then
      some (0 : Int32)
    else
      some (1 : Int32)
def fX5_isFull (z : fS) : Option Int32 :=
  if (z 11 5) < (100 : Int32) then
    some (0 : Int32)
  else
    some (1 : Int32)
def fX5_add (z : fS) (v1 : Int32) (v2 : Int32) (v3 : Int32) : Option (Int32 × fS) :=
  if (z 11 5) < (100 : Int32) then
    gd (inb (z 11 5) 100) <|
    bnd (wr z 12 (z 11 5) (zb v1)) fun z20 =>
    gd (inb (z20 11 5) 100) <|
    bnd (wr z20 13 (z20 11 5) v2) fun z30 =>
    gd (inb (z30 11 5) 100) <|
    bnd (wr z30 14 (z30 11 5) v3) fun z40 =>
    gd (inb (z40 11 5) 100) <|
    bnd (wr z40 15 (z40 11 5) (1 : Int32)) fun z50 =>
    bnd (wf z50 11 5 ((z50 11 5) + (1 : Int32))) fun z58 =>
    bnd (wf z58 11 6 ((z58 11 6) + (1 : Int32))) fun z68 =>
    some (((z68 11 5) - (1 : Int32)), z68)
  else
    some ((-1 : Int32), z)
def fX5_remove (z : fS) (v1 : Int32) : Option fS :=
  gd (inb v1 100) <|
  bnd (wr z 15 v1 (0 : Int32)) fun z6 =>
  bnd (wf z6 11 6 ((z6 11 6) - (1 : Int32))) fun z14 =>
  some z14
def fX5_beginLevel (z : fS) : Option (Int32 × fS) :=
  if (10 : Int32) ≤ (z 11 7) then
    some ((z 11 7), z)
  else
    gd (cpb (0 : Int32) ((z 11 7) * (100 : Int32)) (100 : Int32) 100 1000) <|
    bnd (cpy z 15 (0 : Int32) 16 ((z 11 7) * (100 : Int32)) (100 : Int32)) fun z27 =>
    bnd (wf z27 11 7 ((z27 11 7) + (1 : Int32))) fun z37 =>
    some ((z37 11 7), z37)
def lX5_endLevel_45    : Nat → Int32 → fS → Option fS
  | 0, _, _ => none
  | N + 1, v1, z =>
    if (z 11 5) ≤ v1 then
      some z
    else
      gd (inb v1 100) <|
      bnd (wf z 11 6 ((z 11 6) + (rd z 15 v1))) fun z65 =>
      bnd (v1 + (1 : Int32)) fun x68 =>
      (lX5_endLevel_45    N) x68 z65
def jX5_endLevel_38   (z : fS) : Option fS :=
  bnd (wf z 11 6 (0 : Int32)) fun z40 =>
  lX5_endLevel_45    FU (0 : Int32) z40
def fX5_endLevel (z : fS) : Option fS :=
  if (z 11 7) ≤ 0 then
    jX5_endLevel_38   z
  else
    bnd (wf z 11 7 ((z 11 7) - (1 : Int32))) fun z14 =>
    gd (cpb ((z14 11 7) * (100 : Int32)) (0 : Int32) (100 : Int32) 1000 100) <|
    bnd (cpy z14 16 ((z14 11 7) * (100 : Int32)) 15 (0 : Int32) (100 : Int32)) fun z35 =>
    jX5_endLevel_38   z35
def fX6_count (z : fS) : Option Int32 :=
  some (z 63 7)
def fX6_add (z : fS) (v1 : Int32) (v2 : Int32) (v3 : Int32) (v4 : Int32) (v5 : Int32) : Option (Int32 × fS) :=
  if (z 63 7) < (100 : Int32) then
    gd (inb (z 63 7) 100) <|
    bnd (wr z 64 (z 63 7) v1) fun z20 =>
    gd (inb (z20 63 7) 100) <|
    bnd (wr z20 65 (z20 63 7) v2) fun z30 =>
    gd (inb (z30 63 7) 100) <|
    bnd (wr z30 66 (z30 63 7) v3) fun z40 =>
    gd (inb (z40 63 7) 100) <|
    bnd (wr z40 67 (z40 63 7) v4) fun z51 =>
    gd (inb (z51 63 7) 100) <|
    bnd (wr z51 68 (z51 63 7) v5) fun z62 =>
    bnd (wf z62 63 7 ((z62 63 7) + (1 : Int32))) fun z70 =>
    some (((z70 63 7) - (1 : Int32)), z70)
  else
    some ((-1 : Int32), z)
def fX6_forget (z : fS) : Option fS :=
  bnd (wf z 63 7 (0 : Int32)) fun z2 =>
  some z2
def fX6_says (z : fS) (v1 : Int32) (v2 : Int32) (v3 : Int32) : Option Int32 :=
  if v1 < 0 then
    some (0 : Int32)
  else
    if (z 63 7) ≤ v1 then
      some (0 : Int32)
    else
      gd (inb v1 100) <|
      if (rd z 65 v1) = v2 then
        gd (inb v1 100) <|
        if (rd z 66 v1) = v3 then
          some (1 : Int32)
        else
          some (0 : Int32)
      else
        some (0 : Int32)
def jX6_isSaid_67   (z : fS) (v2 : Int32) (v3 : Int32) (v4 : Int32) (v5 : Int32) : Option Int32 :=
  if v4 = v3 then
    if v5 = v2 then
      some (1 : Int32)
    else
      some (0 : Int32)
  else
    some (0 : Int32)
def fX6_isSaid (z : fS) (v1 : Int32) (v2 : Int32) (v3 : Int32) : Option Int32 :=
  bp (fX5_has z v1) fun r5 =>
  if r5 = 0 then
    some (0 : Int32)
  else
    bp (fX5_isTaken z v1) fun r16 =>
    if r16 = 0 then
      some (0 : Int32)
    else
      bp (fX5_isSame z v1) fun r27 =>
      if r27 = 0 then
        some (0 : Int32)
      else
        bp (fX5_left z v1) fun r40 =>
        bp (fX5_right z v1) fun r50 =>
        if r40 = v2 then
          if r50 = v3 then
            some (1 : Int32)
          else
            jX6_isSaid_67   z v2 v3 r40 r50
        else
          jX6_isSaid_67   z v2 v3 r40 r50
def fX6_isChained (z : fS) (v1 : Int32) (v2 : Int32) (v3 : Int32) : Option Int32 :=
  if v2 < 0 then
    some (0 : Int32)
  else
    if v1 ≤ v2 then
      some (0 : Int32)
    else
      if v3 < 0 then
        some (0 : Int32)
      else
        if v3 < v1 then
          gd (inb v2 100) <|
          gd (inb v1 100) <|
          if (rd z 65 v2) = (rd z 65 v1) then
            gd (inb v2 100) <|
            gd (inb v3 100) <|
            if (rd z 66 v2) = (rd z 65 v3) then
              gd (inb v3 100) <|
              gd (inb v1 100) <|
              if (rd z 66 v3) = (rd z 66 v1) then
                some (1 : Int32)
              else
                some (0 : Int32)
            else
              some (0 : Int32)
          else
            some (0 : Int32)
        else
          some (0 : Int32)
def lX6_isSameBefore_10   (z : fS) (v1 : Int32) (v2 : Int32) (v3 : Int32) : Nat → Int32 → Option Int32
  | 0, _ => none
  | N + 1, v4 =>
    if v1 ≤ v4 then
      some (0 : Int32)
    else
      bp (fX6_says z v4 v2 v3) fun r21 =>
      if r21 = 0 then
        bnd (v4 + (1 : Int32)) fun x29 =>
        (lX6_isSameBefore_10   z v1 v2 v3 N) x29
      else
        some (1 : Int32)
def fX6_isSameBefore (z : fS) (v1 : Int32) (v2 : Int32) (v3 : Int32) : Option Int32 :=
  if v2 = v3 then
    some (1 : Int32)
  else
    lX6_isSameBefore_10   z v1 v2 v3 FU (0 : Int32)
def jX6_isByParts_114  (rc : Int32 → Option Int32) (z : fS) (v1 : Int32) (v2 : Int32) (v3 : Int32) (v6 : Int32) (v7 : Int32) (v8 : Int32) (y0 : Int32) : Option Int32 :=
  bp (fX7_partOf z v2 v8) fun r125 =>
  bp (fX7_partOf z v3 y0) fun r135 =>
  bp (fX6_isSameBefore z v1 r125 r135) fun r138 =>
  if r138 = 0 then
    some (0 : Int32)
  else
    bnd (v8 + (1 : Int32)) fun x146 =>
    rc x146
def lX6_isByParts_93   (z : fS) (v1 : Int32) (v2 : Int32) (v3 : Int32) (v6 : Int32) (v7 : Int32) : Nat → Int32 → Option Int32
  | 0, _ => none
  | N + 1, v8 =>
    if v6 ≤ v8 then
      some (1 : Int32)
    else
      if v7 = 0 then
        jX6_isByParts_114  (lX6_isByParts_93   z v1 v2 v3 v6 v7 N) z v1 v2 v3 v6 v7 v8 v8
      else
        jX6_isByParts_114  (lX6_isByParts_93   z v1 v2 v3 v6 v7 N) z v1 v2 v3 v6 v7 v8 ((1 : Int32) - v8)
def jX6_isByParts_88   (z : fS) (v1 : Int32) (v2 : Int32) (v3 : Int32) (v6 : Int32) (y0 : Int32) : Option Int32 :=
  lX6_isByParts_93   z v1 v2 v3 v6 y0 FU (0 : Int32)
def fX6_isByParts (z : fS) (v1 : Int32) (v2 : Int32) (v3 : Int32) (v4 : Int32) : Option Int32 :=
  bp (fX7_kindOf z v2) fun r5 =>
  bp (fX7_sizeOf z v2) fun r15 =>
  if r15 = 0 then
    some (0 : Int32)
  else
    bp (fX7_kindOf z v3) fun r32 =>
    if r5 = r32 then
      bp (fX7_sizeOf z v3) fun r45 =>
      if r15 = r45 then
        bp (fX7_shownBy z v2) fun r56 =>
        bp (fX7_shownBy z v3) fun r64 =>
        if r56 = r64 then
          if v4 = 0 then
            jX6_isByParts_88   z v1 v2 v3 r15 (0 : Int32)
          else
            if r5 = (4 : Int32) then
              jX6_isByParts_88   z v1 v2 v3 r15 (1 : Int32)
            else
              jX6_isByParts_88   z v1 v2 v3 r15 (0 : Int32)
        else
          some (0 : Int32)
      else
        some (0 : Int32)
    else
      some (0 : Int32)
def fX6_isOfRows (z : fS) (v1 : Int32) (v2 : Int32) (v3 : Int32) : Option Int32 :=
  if v2 < 0 then
    some (0 : Int32)
  else
    if v1 ≤ v2 then
      some (0 : Int32)
    else
      gd (inb v2 100) <|
      bp (fX7_kindOf z (rd z 65 v2)) fun r19 =>
      if r19 = (3 : Int32) then
        gd (inb v2 100) <|
        bp (fX7_kindOf z (rd z 66 v2)) fun r36 =>
        if r36 = (3 : Int32) then
          gd (inb v2 100) <|
          bp (fX7_partOf z (rd z 65 v2) v3) fun r56 =>
          gd (inb v1 100) <|
          if r56 = (rd z 65 v1) then
            gd (inb v2 100) <|
            bp (fX7_partOf z (rd z 66 v2) v3) fun r79 =>
            gd (inb v1 100) <|
            if r79 = (rd z 66 v1) then
              some (1 : Int32)
            else
              some (0 : Int32)
          else
            some (0 : Int32)
        else
          some (0 : Int32)
      else
        some (0 : Int32)
def fX6_isRight (z : fS) (v1 : Int32) : Option Int32 :=
  gd (inb v1 100) <|
  bnd (rd z 65 v1) fun x6 =>
  gd (inb v1 100) <|
  bnd (rd z 66 v1) fun x13 =>
  gd (inb v1 100) <|
  bnd (rd z 67 v1) fun x20 =>
  gd (inb v1 100) <|
  if (rd z 64 v1) = (0 : Int32) then
    bp (fX6_isSaid z x20 x6 x13) fun r77 =>
    gd (isb r77) <|
    some r77
  else if (rd z 64 v1) = (1 : Int32) then
    if x6 = x13 then
      some (1 : Int32)
    else
      some (0 : Int32)
  else if (rd z 64 v1) = (2 : Int32) then
    if v1 ≤ x20 then
      some (0 : Int32)
    else
      bp (fX6_says z x20 x13 x6) fun r103 =>
      if r103 = 0 then
        some (0 : Int32)
      else
        some (1 : Int32)
  else if (rd z 64 v1) = (3 : Int32) then
    gd (inb v1 100) <|
    bp (fX6_isChained z v1 x20 (rd z 68 v1)) fun r125 =>
    gd (isb r125) <|
    some r125
  else if (rd z 64 v1) = (4 : Int32) then
    if x20 = (1 : Int32) then
      bp (fX6_isByParts z v1 x6 x13 (1 : Int32)) fun r144 =>
      gd (isb r144) <|
      some r144
    else
      bp (fX6_isByParts z v1 x6 x13 (0 : Int32)) fun r144 =>
      gd (isb r144) <|
      some r144
  else if (rd z 64 v1) = (5 : Int32) then
    bp (fX6_isOfRows z v1 x20 (0 : Int32)) fun r153 =>
    gd (isb r153) <|
    some r153
  else if (rd z 64 v1) = (6 : Int32) then
    bp (fX6_isOfRows z v1 x20 (1 : Int32)) fun r162 =>
    gd (isb r162) <|
    some r162
  else 
    some (0 : Int32)
def fX7_has (z : fS) (v1 : Int32) : Option Int32 :=
  if v1 < 0 then
    some (0 : Int32)
  else
    if (z 1 9) ≤ v1 then
      some (0 : Int32)
    else
      some (1 : Int32)
def fX8_refused (z : fS) (v1 : Int32) : Option (Int32 × fS) :=
  bnd (wf z 0 12 v1) fun z2 =>
  some ((-1 : Int32), z2)
def fX8_done (z : fS) (v1 : Int32) : Option (Int32 × fS) :=
  bnd (wf z 0 12 (0 : Int32)) fun z2 =>
  some (v1, z2)
def fX8_madeTerm (z : fS) (v1 : Int32) (v2 : Int32) (v3 : Int32) (v4 : Int32) (v5 : Int32) : Option (Int32 × fS) :=
  bp (fX7_count z) fun r4 =>
  bd (fX7_findOrMake z v1 v2 v3 v4 v5) fun r20 z20 =>
  if r20 = (-1 : Int32) then
    bd (fX8_refused z20 (3 : Int32)) fun r33 z33 =>
    some (r33, z33)
  else
    bp (fX2_admitFrom z20 r4) fun z43 =>
    bd (fX8_done z43 r20) fun r49 z49 =>
    some (r49, z49)
def fX8_name (z : fS) (v1 : Int32) : Option (Int32 × fS) :=
  if v1 < 0 then
    bd (fX8_refused z (1 : Int32)) fun r12 z12 =>
    some (r12, z12)
  else
    if v1 < (100 : Int32) then
      bd (fX8_madeTerm z (0 : Int32) v1 (-1 : Int32) (-1 : Int32) (-1 : Int32)) fun r22 z22 =>
      some (r22, z22)
    else
      bd (fX8_refused z (1 : Int32)) fun r12 z12 =>
      some (r12, z12)
def fX8_number (z : fS) (v1 : Int32) : Option (Int32 × fS) :=
  bd (fX8_madeTerm z (1 : Int32) v1 (-1 : Int32) (-1 : Int32) (-1 : Int32)) fun r6 z6 =>
  some (r6, z6)
def jX8_built_103   (v2 : Int32) (v5 : Int32) (y0 : Int32) (y1 : Int32) (y2 : Int32) (y3 : Int32) (z : fS) : Option (Int32 × fS) :=
  if v2 ≤ (2 : Int32) then
    bd (fX8_madeTerm z y3 y2 y1 y0 (-1 : Int32)) fun r114 z114 =>
    some (r114, z114)
  else
    bd (fX8_madeTerm z y3 y2 y1 y0 v5) fun r114 z114 =>
    some (r114, z114)
def jX8_built_88   (v1 : Int32) (v2 : Int32) (v3 : Int32) (v4 : Int32) (v5 : Int32) (z : fS) : Option (Int32 × fS) :=
  if v2 ≤ (1 : Int32) then
    jX8_built_103   v2 v5 (-1 : Int32) v3 v1 (2 : Int32) z
  else
    jX8_built_103   v2 v5 v4 v3 v1 (2 : Int32) z
def jX8_built_65   (v1 : Int32) (v2 : Int32) (v3 : Int32) (v4 : Int32) (v5 : Int32) (z : fS) : Option (Int32 × fS) :=
  if v2 ≤ (2 : Int32) then
    jX8_built_88   v1 v2 v3 v4 v5 z
  else
    bp (fX7_has z v5) fun r76 =>
    if r76 = 0 then
      bd (fX8_refused z (1 : Int32)) fun r84 z84 =>
      some (r84, z84)
    else
      jX8_built_88   v1 v2 v3 v4 v5 z
def fX8_built (z : fS) (v1 : Int32) (v2 : Int32) (v3 : Int32) (v4 : Int32) (v5 : Int32) : Option (Int32 × fS) :=
  if v1 < 0 then
    bd (fX8_refused z (1 : Int32)) fun r12 z12 =>
    some (r12, z12)
  else
    if v1 < (20 : Int32) then
      if 0 ≤ v2 then
        if v2 < (1 : Int32) then
          bd (fX8_refused z (1 : Int32)) fun r84 z84 =>
          some (r84, z84)
        else
          if (3 : Int32) < v2 then
            bd (fX8_refused z (1 : Int32)) fun r84 z84 =>
            some (r84, z84)
          else
            bp (fX7_has z v3) fun r42 =>
            if r42 = 0 then
              bd (fX8_refused z (1 : Int32)) fun r84 z84 =>
              some (r84, z84)
            else
              if v2 ≤ (1 : Int32) then
                jX8_built_65   v1 v2 v3 v4 v5 z
              else
                bp (fX7_has z v4) fun r59 =>
                if r59 = 0 then
                  bd (fX8_refused z (1 : Int32)) fun r84 z84 =>
                  some (r84, z84)
                else
                  jX8_built_65   v1 v2 v3 v4 v5 z
      else
        bd (fX8_refused z (8 : Int32)) fun r23 z23 =>
        some (r23, z23)
    else
      bd (fX8_refused z (1 : Int32)) fun r12 z12 =>
      some (r12, z12)
def fX8_row (z : fS) (v1 : Int32) (v2 : Int32) : Option (Int32 × fS) :=
  bp (fX7_has z v1) fun r5 =>
  if r5 = 0 then
    bd (fX8_refused z (1 : Int32)) fun r24 z24 =>
    some (r24, z24)
  else
    bp (fX7_has z v2) fun r16 =>
    if r16 = 0 then
      bd (fX8_refused z (1 : Int32)) fun r24 z24 =>
      some (r24, z24)
    else
      bd (fX8_madeTerm z (3 : Int32) (0 : Int32) v1 v2 (-1 : Int32)) fun r34 z34 =>
      some (r34, z34)
def fX8_even (z : fS) (v1 : Int32) (v2 : Int32) (v3 : Int32) : Option (Int32 × fS) :=
  if v1 < 0 then
    bd (fX8_refused z (1 : Int32)) fun r34 z34 =>
    some (r34, z34)
  else
    if (20 : Int32) ≤ v1 then
      bd (fX8_refused z (1 : Int32)) fun r34 z34 =>
      some (r34, z34)
    else
      bp (fX7_has z v2) fun r15 =>
      if r15 = 0 then
        bd (fX8_refused z (1 : Int32)) fun r34 z34 =>
        some (r34, z34)
      else
        bp (fX7_has z v3) fun r26 =>
        if r26 = 0 then
          bd (fX8_refused z (1 : Int32)) fun r34 z34 =>
          some (r34, z34)
        else
          bd (fX8_madeTerm z (4 : Int32) v1 v2 v3 (-1 : Int32)) fun r44 z44 =>
          some (r44, z44)
def fX8_kind (z : fS) (v1 : Int32) : Option Int32 :=
  bp (fX7_has z v1) fun r5 =>
  if r5 = 0 then
    some (-1 : Int32)
  else
    bp (fX7_kindOf z v1) fun r16 =>
    some r16
def fX8_part (z : fS) (v1 : Int32) (v2 : Int32) : Option (Int32 × fS) :=
  bp (fX7_has z v1) fun r5 =>
  if r5 = 0 then
    bd (fX8_refused z (1 : Int32)) fun r13 z13 =>
    some (r13, z13)
  else
    bp (fX7_sizeOf z v1) fun r22 =>
    if r22 = 0 then
      bd (fX8_refused z (2 : Int32)) fun r30 z30 =>
      some (r30, z30)
    else
      if v2 < 0 then
        bd (fX8_refused z (1 : Int32)) fun r52 z52 =>
        some (r52, z52)
      else
        bp (fX7_sizeOf z v1) fun r44 =>
        if v2 < r44 then
          bp (fX7_partOf z v1 v2) fun r63 =>
          bd (fX8_done z r63) fun r66 z66 =>
          some (r66, z66)
        else
          bd (fX8_refused z (1 : Int32)) fun r52 z52 =>
          some (r52, z52)
def fX8_shows (z : fS) (v1 : Int32) : Option (Int32 × fS) :=
  bp (fX7_has z v1) fun r5 =>
  if r5 = 0 then
    bd (fX8_refused z (1 : Int32)) fun r13 z13 =>
    some (r13, z13)
  else
    bp (fX7_kindOf z v1) fun r22 =>
    if r22 = (3 : Int32) then
      bd (fX8_refused z (2 : Int32)) fun r31 z31 =>
      some (r31, z31)
    else
      bp (fX7_shownBy z v1) fun r41 =>
      bd (fX8_done z r41) fun r44 z44 =>
      some (r44, z44)
def fX8_many (z : fS) (v1 : Int32) : Option Int32 :=
  if v1 = (0 : Int32) then
    bp (fX7_count z) fun r48 =>
    some r48
  else if v1 = (1 : Int32) then
    bp (fX5_count z) fun r56 =>
    some r56
  else if v1 = (2 : Int32) then
    bp (fX5_takenCount z) fun r64 =>
    some r64
  else if v1 = (3 : Int32) then
    some (z 0 10)
  else if v1 = (4 : Int32) then
    bp (fX6_count z) fun r77 =>
    some r77
  else if v1 = (5 : Int32) then
    bp (fX5_levels z) fun r85 =>
    some r85
  else if v1 = (6 : Int32) then
    bp (fX2_standing z) fun r93 =>
    bp (fX4_classes (pcell r93) z) fun r96 =>
    some r96
  else 
    some (-1 : Int32)
def fX8_say (z : fS) (v1 : Int32) (v2 : Int32) : Option (Int32 × fS) :=
  bp (fX7_has z v1) fun r5 =>
  if r5 = 0 then
    bd (fX8_refused z (1 : Int32)) fun r24 z24 =>
    some (r24, z24)
  else
    bp (fX7_has z v2) fun r16 =>
    if r16 = 0 then
      bd (fX8_refused z (1 : Int32)) fun r24 z24 =>
      some (r24, z24)
    else
      bp (fX5_isFull z) fun r32 =>
      if r32 = 0 then
        bd (fX2_wouldClash z v1 v2) fun r50 z50 =>
        if r50 = 0 then
          bp (fX2_acceptTrial z50) fun z80 =>
          bd (fX5_add z80 (1 : Int32) v1 v2) fun r91 z91 =>
          bd (fX8_done z91 r91) fun r94 z94 =>
          some (r94, z94)
        else
          bp (fX2_thin z50 (0 : Int32) v1 v2 69) fun z67 =>
          bd (fX8_refused z67 (4 : Int32)) fun r72 z72 =>
          some (r72, z72)
      else
        bd (fX8_refused z (3 : Int32)) fun r40 z40 =>
        some (r40, z40)
def fX8_unlike (z : fS) (v1 : Int32) (v2 : Int32) : Option (Int32 × fS) :=
  bp (fX7_has z v1) fun r5 =>
  if r5 = 0 then
    bd (fX8_refused z (1 : Int32)) fun r24 z24 =>
    some (r24, z24)
  else
    bp (fX7_has z v2) fun r16 =>
    if r16 = 0 then
      bd (fX8_refused z (1 : Int32)) fun r24 z24 =>
      some (r24, z24)
    else
      bp (fX5_isFull z) fun r32 =>
      if r32 = 0 then
        bp (fX2_standing z) fun r48 =>
        bp (fX4_isOne (pcell r48) z v1 v2) fun r53 =>
        if r53 = 0 then
          bd (fX5_add z (0 : Int32) v1 v2) fun r87 z87 =>
          bd (fX8_done z87 r87) fun r90 z90 =>
          some (r90, z90)
        else
          bp (fX2_thin z (1 : Int32) v1 v2 69) fun z70 =>
          bd (fX8_refused z70 (4 : Int32)) fun r75 z75 =>
          some (r75, z75)
      else
        bd (fX8_refused z (3 : Int32)) fun r40 z40 =>
        some (r40, z40)
def fX8_drop (z : fS) (v1 : Int32) : Option (Int32 × fS) :=
  bp (fX5_has z v1) fun r5 =>
  if r5 = 0 then
    bd (fX8_refused z (1 : Int32)) fun r13 z13 =>
    some (r13, z13)
  else
    bp (fX5_isTaken z v1) fun r22 =>
    if r22 = 0 then
      bd (fX8_refused z (5 : Int32)) fun r30 z30 =>
      some (r30, z30)
    else
      bp (fX5_remove z v1) fun z39 =>
      bp (fX5_isSame z39 v1) fun r47 =>
      if r47 = 0 then
        bp (fX5_takenCount z39) fun r65 =>
        bd (fX8_done z39 r65) fun r68 z68 =>
        some (r68, z68)
      else
        bp (fX2_judgeAnew z39) fun z57 =>
        bp (fX5_takenCount z57) fun r65 =>
        bd (fX8_done z57 r65) fun r68 z68 =>
        some (r68, z68)
def fX8_said (z : fS) (v1 : Int32) (v2 : Int32) : Option Int32 :=
  bp (fX5_has z v1) fun r5 =>
  if r5 = 0 then
    some (-1 : Int32)
  else
    if v2 = (0 : Int32) then
      bp (fX5_isSame z v1) fun r49 =>
      if r49 = 0 then
        some (0 : Int32)
      else
        some (1 : Int32)
    else if v2 = (1 : Int32) then
      bp (fX5_left z v1) fun r66 =>
      some r66
    else if v2 = (2 : Int32) then
      bp (fX5_right z v1) fun r75 =>
      some r75
    else if v2 = (3 : Int32) then
      bp (fX5_isTaken z v1) fun r84 =>
      if r84 = 0 then
        some (0 : Int32)
      else
        some (1 : Int32)
    else 
      some (-1 : Int32)
def fX8_clashed (z : fS) (v1 : Int32) : Option Int32 :=
  bp (fX1_at 69 z v1) fun r5 =>
  some r5
def fX8_judge (z : fS) (v1 : Int32) (v2 : Int32) : Option (Int32 × fS) :=
  bp (fX7_has z v1) fun r5 =>
  if r5 = 0 then
    some ((-1 : Int32), z)
  else
    bp (fX7_has z v2) fun r16 =>
    if r16 = 0 then
      some ((-1 : Int32), z)
    else
      bp (fX2_standing z) fun r28 =>
      bp (fX4_isOne (pcell r28) z v1 v2) fun r33 =>
      if r33 = 0 then
        bd (fX2_wouldClash z v1 v2) fun r47 z47 =>
        if r47 = 0 then
          some ((2 : Int32), z47)
        else
          some ((0 : Int32), z47)
      else
        some ((1 : Int32), z)
def jX8_why_64   (v1 : Int32) (v2 : Int32) (v3 : Int32) (z : fS) : Option (Int32 × fS) :=
  bp (fX2_thin z v3 v1 v2 71) fun z75 =>
  bp (fX1_count 71 z75) fun r83 =>
  bd (fX8_done z75 r83) fun r86 z86 =>
  some (r86, z86)
def fX8_why (z : fS) (v1 : Int32) (v2 : Int32) : Option (Int32 × fS) :=
  bp (fX7_has z v1) fun r5 =>
  if r5 = 0 then
    bd (fX8_refused z (1 : Int32)) fun r24 z24 =>
    some (r24, z24)
  else
    bp (fX7_has z v2) fun r16 =>
    if r16 = 0 then
      bd (fX8_refused z (1 : Int32)) fun r24 z24 =>
      some (r24, z24)
    else
      bp (fX2_standing z) fun r32 =>
      bp (fX4_isOne (pcell r32) z v1 v2) fun r37 =>
      if r37 = 0 then
        bd (fX2_wouldClash z v1 v2) fun r51 z51 =>
        if r51 = 0 then
          bd (fX8_refused z51 (6 : Int32)) fun r60 z60 =>
          some (r60, z60)
        else
          jX8_why_64   v1 v2 r37 z51
      else
        jX8_why_64   v1 v2 r37 z
def fX8_least (z : fS) (v1 : Int32) (v2 : Int32) (v3 : Int32) : Option (Int32 × fS) :=
  bp (fX7_has z v1) fun r5 =>
  if r5 = 0 then
    bd (fX8_refused z (1 : Int32)) fun r36 z36 =>
    some (r36, z36)
  else
    bp (fX7_has z v2) fun r16 =>
    if r16 = 0 then
      bd (fX8_refused z (1 : Int32)) fun r36 z36 =>
      some (r36, z36)
    else
      if v3 < (1 : Int32) then
        bd (fX8_refused z (1 : Int32)) fun r36 z36 =>
        some (r36, z36)
      else
        if v3 ≤ (500 : Int32) then
          bp (fX2_standing z) fun r44 =>
          bp (fX4_isOne (pcell r44) z v1 v2) fun r49 =>
          if r49 = 0 then
            bd (fX8_refused z (6 : Int32)) fun r58 z58 =>
            some (r58, z58)
          else
            bd (fX2_findFewest z v1 v2 v3 71) fun r73 z73 =>
            if r73 = 0 then
              bd (fX8_refused z73 (7 : Int32)) fun r82 z82 =>
              some (r82, z82)
            else
              bp (fX1_count 71 z73) fun r91 =>
              bd (fX8_done z73 r91) fun r94 z94 =>
              some (r94, z94)
        else
          bd (fX8_refused z (1 : Int32)) fun r36 z36 =>
          some (r36, z36)
def fX8_because (z : fS) (v1 : Int32) : Option Int32 :=
  bp (fX1_at 71 z v1) fun r5 =>
  some r5
def fX8_head (z : fS) (v1 : Int32) : Option Int32 :=
  bp (fX7_has z v1) fun r5 =>
  if r5 = 0 then
    some (-1 : Int32)
  else
    bp (fX2_standing z) fun r15 =>
    bp (fX4_headOf (pcell r15) z v1) fun r19 =>
    some r19
def lX8_member_22   (z : fS) (v1 : Int32) (v2 : Int32) : Nat → Int32 → Int32 → Option Int32
  | 0, _, _ => none
  | N + 1, v3, v4 =>
    bp (fX7_count z) fun r28 =>
    if r28 ≤ v4 then
      some (-1 : Int32)
    else
      bp (fX2_standing z) fun r38 =>
      bp (fX4_isOne (pcell r38) z v4 v1) fun r44 =>
      if r44 = 0 then
        bnd (v4 + (1 : Int32)) fun x61 =>
        (lX8_member_22   z v1 v2 N) v3 x61
      else
        if v3 = v2 then
          some v4
        else
          bnd (v3 + (1 : Int32)) fun x58 =>
          bnd (v4 + (1 : Int32)) fun x61 =>
          (lX8_member_22   z v1 v2 N) x58 x61
def fX8_member (z : fS) (v1 : Int32) (v2 : Int32) : Option Int32 :=
  bp (fX7_has z v1) fun r5 =>
  if r5 = 0 then
    some (-1 : Int32)
  else
    if 0 ≤ v2 then
      lX8_member_22   z v1 v2 FU (0 : Int32) (0 : Int32)
    else
      some (-1 : Int32)
def lX8_uses_22   (z : fS) (v1 : Int32) (v2 : Int32) : Nat → Int32 → Int32 → Option Int32
  | 0, _, _ => none
  | N + 1, v3, v4 =>
    bp (fX7_count z) fun r28 =>
    if r28 ≤ v4 then
      some (-1 : Int32)
    else
      bp (fX2_standing z) fun r38 =>
      bp (fX4_hasPartLike (pcell r38) z v4 v1) fun r44 =>
      if r44 = 0 then
        bnd (v4 + (1 : Int32)) fun x61 =>
        (lX8_uses_22   z v1 v2 N) v3 x61
      else
        if v3 = v2 then
          some v4
        else
          bnd (v3 + (1 : Int32)) fun x58 =>
          bnd (v4 + (1 : Int32)) fun x61 =>
          (lX8_uses_22   z v1 v2 N) x58 x61
def fX8_uses (z : fS) (v1 : Int32) (v2 : Int32) : Option Int32 :=
  bp (fX7_has z v1) fun r5 =>
  if r5 = 0 then
    some (-1 : Int32)
  else
    if 0 ≤ v2 then
      lX8_uses_22   z v1 v2 FU (0 : Int32) (0 : Int32)
    else
      some (-1 : Int32)
def lX8_freeInt_4   (z : fS) : Nat → Int32 → Int32 → Option Int32
  | 0, _, _ => none
  | N + 1, v2, v3 =>
    if (240 : Int32) < v3 then
      some (240 : Int32)
    else
      bp (fX7_find z (1 : Int32) v3 (-1 : Int32) (-1 : Int32) (-1 : Int32)) fun r20 =>
      if r20 = (-1 : Int32) then
        if v2 = 0 then
          some v3
        else
          bnd (v2 + (-1 : Int32)) fun x33 =>
          bnd (v3 + (1 : Int32)) fun x36 =>
          (lX8_freeInt_4   z N) x33 x36
      else
        bnd (v3 + (1 : Int32)) fun x36 =>
        (lX8_freeInt_4   z N) v2 x36
def fX8_freeInt (z : fS) (v1 : Int32) : Option Int32 :=
  lX8_freeInt_4   z FU v1 (0 : Int32)
def fX8_world (z : fS) (v1 : Int32) : Option Int64 :=
  bp (fX7_has z v1) fun r5 =>
  if r5 = 0 then
    some (1099511627776 : Int64)
  else
    bp (fX2_standing z) fun r19 =>
    bp (fX4_numberOf (pcell r19) z v1) fun r25 =>
    if r25 = (-1 : Int32) then
      bp (fX4_headOf (pcell r19) z v1) fun r48 =>
      bp (fX4_unnumberedBelow (pcell r19) z r48) fun r51 =>
      bp (fX8_freeInt z r51) fun r54 =>
      some r54.toInt64
    else
      bp (fX7_shownBy z r25) fun r39 =>
      some r39.toInt64
def fX8_push (z : fS) : Option (Int32 × fS) :=
  bp (fX5_levels z) fun r4 =>
  if r4 < (10 : Int32) then
    bd (fX5_beginLevel z) fun r23 z23 =>
    bd (fX8_done z23 r23) fun r26 z26 =>
    some (r26, z26)
  else
    bd (fX8_refused z (3 : Int32)) fun r14 z14 =>
    some (r14, z14)
def fX8_pop (z : fS) : Option (Int32 × fS) :=
  bp (fX5_levels z) fun r4 =>
  if r4 = 0 then
    bd (fX8_refused z (9 : Int32)) fun r13 z13 =>
    some (r13, z13)
  else
    bp (fX5_endLevel z) fun z21 =>
    bp (fX2_judgeAnew z21) fun z28 =>
    bp (fX5_takenCount z28) fun r36 =>
    bd (fX8_done z28 r36) fun r39 z39 =>
    some (r39, z39)
def fX8_law (z : fS) (v1 : Int32) (v2 : Int32) : Option (Int32 × fS) :=
  bp (fX7_has z v1) fun r5 =>
  if r5 = 0 then
    bd (fX8_refused z (1 : Int32)) fun r24 z24 =>
    some (r24, z24)
  else
    bp (fX7_has z v2) fun r16 =>
    if r16 = 0 then
      bd (fX8_refused z (1 : Int32)) fun r24 z24 =>
      some (r24, z24)
    else
      if (z 0 10) < (10 : Int32) then
        gd (inb (z 0 10) 10) <|
        bnd (wr z 73 (z 0 10) v1) fun z52 =>
        gd (inb (z52 0 10) 10) <|
        bnd (wr z52 74 (z52 0 10) v2) fun z62 =>
        bnd (wf z62 0 10 ((z62 0 10) + (1 : Int32))) fun z70 =>
        bd (fX8_done z70 ((z70 0 10) - (1 : Int32))) fun r80 z80 =>
        some (r80, z80)
      else
        bd (fX8_refused z (3 : Int32)) fun r39 z39 =>
        some (r39, z39)
def fX8_madeInstance (z : fS) (v1 : Int32) (v2 : Int32) (v3 : Int32) (v4 : Int32) : Option (Int32 × fS) :=
  bp (fX7_count z) fun r4 =>
  bd (fX3_makeInstance z v1 v2 v3 v4) fun r18 z18 =>
  bp (fX2_admitFrom z18 r4) fun z29 =>
  some (r18, z29)
def fX8_instance (z : fS) (v1 : Int32) (v2 : Int32) (v3 : Int32) (v4 : Int32) : Option (Int32 × fS) :=
  bp (fX7_has z v1) fun r5 =>
  if r5 = 0 then
    bd (fX8_refused z (1 : Int32)) fun r47 z47 =>
    some (r47, z47)
  else
    bp (fX7_has z v2) fun r16 =>
    if r16 = 0 then
      bd (fX8_refused z (1 : Int32)) fun r47 z47 =>
      some (r47, z47)
    else
      bp (fX7_has z v3) fun r27 =>
      if r27 = 0 then
        bd (fX8_refused z (1 : Int32)) fun r47 z47 =>
        some (r47, z47)
      else
        bp (fX7_has z v4) fun r39 =>
        if r39 = 0 then
          bd (fX8_refused z (1 : Int32)) fun r47 z47 =>
          some (r47, z47)
        else
          bd (fX8_madeInstance z v1 v2 v3 v4) fun r57 z57 =>
          if r57 = (-1 : Int32) then
            bd (fX8_refused z57 (3 : Int32)) fun r70 z70 =>
            some (r70, z70)
          else
            bd (fX8_done z57 r57) fun r79 z79 =>
            some (r79, z79)
def lX8_gatherHeads_4    : Nat → Int32 → Int32 → fS → Option (Int32 × fS)
  | 0, _, _, _ => none
  | N + 1, v1, v2, z =>
    bp (fX7_count z) fun r9 =>
    if r9 ≤ v2 then
      some (v1, z)
    else
      bp (fX2_standing z) fun r19 =>
      bp (fX4_headOf (pcell r19) z v2) fun r23 =>
      if r23 = v2 then
        bp (fX7_isHole z v2) fun r35 =>
        if r35 = 0 then
          gd (inb v1 120) <|
          bnd (wr z 75 v1 v2) fun z47 =>
          bnd (v1 + (1 : Int32)) fun x48 =>
          bnd (v2 + (1 : Int32)) fun x51 =>
          (lX8_gatherHeads_4    N) x48 x51 z47
        else
          bnd (v2 + (1 : Int32)) fun x51 =>
          (lX8_gatherHeads_4    N) v1 x51 z
      else
        bnd (v2 + (1 : Int32)) fun x51 =>
        (lX8_gatherHeads_4    N) v1 x51 z
def fX8_gatherHeads (z : fS) : Option (Int32 × fS) :=
  lX8_gatherHeads_4    FU (0 : Int32) (0 : Int32) z
def fX8_applyLaw (z : fS) (v1 : Int32) (v2 : Int32) (v3 : Int32) (v4 : Int32) : Option (Int32 × fS) :=
  gd (inb v1 10) <|
  bd (fX8_madeInstance z (rd z 73 v1) v2 v3 v4) fun r11 z11 =>
  if r11 = (-1 : Int32) then
    some ((2 : Int32), z11)
  else
    gd (inb v1 10) <|
    bd (fX8_madeInstance z11 (rd z11 74 v1) v2 v3 v4) fun r35 z35 =>
    if r35 = (-1 : Int32) then
      some ((2 : Int32), z35)
    else
      bp (fX2_standing z35) fun r52 =>
      bp (fX4_isOne (pcell r52) z35 r11 r35) fun r59 =>
      if r59 = 0 then
        bp (fX5_isFull z35) fun r71 =>
        if r71 = 0 then
          bd (fX2_wouldClash z35 r11 r35) fun r87 z87 =>
          if r87 = 0 then
            bp (fX2_acceptTrial z87) fun z115 =>
            bd (fX5_add z115 (1 : Int32) r11 r35) fun r127 z127 =>
            some ((0 : Int32), z127)
          else
            bp (fX2_thin z87 (0 : Int32) r11 r35 69) fun z106 =>
            some ((4 : Int32), z106)
        else
          some ((3 : Int32), z35)
      else
        some ((0 : Int32), z35)
def jX8_follow_235  (rc : Int32 → Int32 → fS → Option (Int32 × fS)) (v1 : Int32) (v2 : Int32) (v5 : Int32) (v6 : Int32) (v7 : Int32) (v8 : Int32) (v10 : Int32) (v9 : Int32) (z : fS) : Option (Int32 × fS) :=
  bnd (v10 + (1 : Int32)) fun x235 =>
  rc v9 x235 z
def jX8_follow_229  (rc : Int32 → Int32 → fS → Option (Int32 × fS)) (k235 : Int32 → fS → Option (Int32 × fS)) (v1 : Int32) (v2 : Int32) (v5 : Int32) (v6 : Int32) (v7 : Int32) (v8 : Int32) (v10 : Int32) (v11 : Int32) (v9 : Int32) (z : fS) : Option (Int32 × fS) :=
  bnd (v11 + (1 : Int32)) fun x229 =>
  rc v9 x229 z
def lX8_follow_161  (k229 : Int32 → fS → Option (Int32 × fS)) (v1 : Int32) (v2 : Int32) (v5 : Int32) (v6 : Int32) (v7 : Int32) (v8 : Int32) (v10 : Int32) (v11 : Int32) : Nat → Int32 → Int32 → fS → Option (Int32 × fS)
  | 0, _, _, _ => none
  | N + 1, v9, v12, z =>
    if v7 ≤ v12 then
      k229 v9 z
    else
      if v9 = 0 then
        gd (inb v10 120) <|
        gd (inb v11 120) <|
        gd (inb v12 120) <|
        bd (fX8_applyLaw z v1 (rd z 75 v10) (rd z 75 v11) (rd z 75 v12)) fun r196 z196 =>
        if r196 = 0 then
          bp (fX5_count z196) fun r210 =>
          if (r210 - v8) < v2 then
            bnd (v12 + (1 : Int32)) fun x223 =>
            (lX8_follow_161  k229 v1 v2 v5 v6 v7 v8 v10 v11 N) r196 x223 z196
          else
            bnd (v12 + (1 : Int32)) fun x223 =>
            (lX8_follow_161  k229 v1 v2 v5 v6 v7 v8 v10 v11 N) (1 : Int32) x223 z196
        else
          bnd (v12 + (1 : Int32)) fun x223 =>
          (lX8_follow_161  k229 v1 v2 v5 v6 v7 v8 v10 v11 N) r196 x223 z196
      else
        k229 v9 z
def lX8_follow_146  (k235 : Int32 → fS → Option (Int32 × fS)) (v1 : Int32) (v2 : Int32) (v5 : Int32) (v6 : Int32) (v7 : Int32) (v8 : Int32) (v10 : Int32) : Nat → Int32 → Int32 → fS → Option (Int32 × fS)
  | 0, _, _, _ => none
  | N + 1, v9, v11, z =>
    if v6 ≤ v11 then
      k235 v9 z
    else
      if v9 = 0 then
        lX8_follow_161  (jX8_follow_229  (lX8_follow_146  k235 v1 v2 v5 v6 v7 v8 v10 N) k235 v1 v2 v5 v6 v7 v8 v10 v11) v1 v2 v5 v6 v7 v8 v10 v11 FU v9 (0 : Int32) z
      else
        k235 v9 z
def lX8_follow_131   (v1 : Int32) (v2 : Int32) (v5 : Int32) (v6 : Int32) (v7 : Int32) (v8 : Int32) : Nat → Int32 → Int32 → fS → Option (Int32 × fS)
  | 0, _, _, _ => none
  | N + 1, v9, v10, z =>
    if v5 ≤ v10 then
      bnd (wf z 0 11 v9) fun z244 =>
      bp (fX5_count z244) fun r252 =>
      bd (fX8_done z244 (r252 - v8)) fun r258 z258 =>
      some (r258, z258)
    else
      if v9 = 0 then
        lX8_follow_146  (jX8_follow_235  (lX8_follow_131   v1 v2 v5 v6 v7 v8 N) v1 v2 v5 v6 v7 v8 v10) v1 v2 v5 v6 v7 v8 v10 FU v9 (0 : Int32) z
      else
        bnd (wf z 0 11 v9) fun z244 =>
        bp (fX5_count z244) fun r252 =>
        bd (fX8_done z244 (r252 - v8)) fun r258 z258 =>
        some (r258, z258)
def jX8_follow_114   (v1 : Int32) (v2 : Int32) (v5 : Int32) (v6 : Int32) (y0 : Int32) (z : fS) : Option (Int32 × fS) :=
  bp (fX5_count z) fun r120 =>
  lX8_follow_131   v1 v2 v5 v6 y0 r120 FU (0 : Int32) (0 : Int32) z
def jX8_follow_100   (v1 : Int32) (v2 : Int32) (v3 : Int32) (v4 : Int32) (v5 : Int32) (y0 : Int32) (z : fS) : Option (Int32 × fS) :=
  if (v4 &&& (4 : Int32)) = 0 then
    jX8_follow_114   v1 v2 v5 y0 (1 : Int32) z
  else
    jX8_follow_114   v1 v2 v5 y0 v3 z
def jX8_follow_86   (v1 : Int32) (v2 : Int32) (v3 : Int32) (v4 : Int32) (y0 : Int32) (z : fS) : Option (Int32 × fS) :=
  if (v4 &&& (2 : Int32)) = 0 then
    jX8_follow_100   v1 v2 v3 v4 y0 (1 : Int32) z
  else
    jX8_follow_100   v1 v2 v3 v4 y0 v3 z
def fX8_follow (z : fS) (v1 : Int32) (v2 : Int32) : Option (Int32 × fS) :=
  if v1 < 0 then
    bd (fX8_refused z (1 : Int32)) fun r25 z25 =>
    some (r25, z25)
  else
    if (z 0 10) ≤ v1 then
      bd (fX8_refused z (1 : Int32)) fun r25 z25 =>
      some (r25, z25)
    else
      if v2 < (1 : Int32) then
        bd (fX8_refused z (1 : Int32)) fun r25 z25 =>
        some (r25, z25)
      else
        if v2 ≤ (50 : Int32) then
          bd (fX8_gatherHeads z) fun r30 z30 =>
          if r30 = 0 then
            bd (fX8_refused z30 (6 : Int32)) fun r41 z41 =>
            some (r41, z41)
          else
            gd (inb v1 10) <|
            bp (fX7_holesOf z30 (rd z30 73 v1)) fun r55 =>
            gd (inb v1 10) <|
            bp (fX7_holesOf z30 (rd z30 74 v1)) fun r68 =>
            bnd (r55 ||| r68) fun x72 =>
            if (x72 &&& (1 : Int32)) = 0 then
              jX8_follow_86   v1 v2 r30 x72 (1 : Int32) z30
            else
              jX8_follow_86   v1 v2 r30 x72 r30 z30
        else
          bd (fX8_refused z (1 : Int32)) fun r25 z25 =>
          some (r25, z25)
def fX8_ended (z : fS) : Option Int32 :=
  some (z 0 11)
def fX8_claim (z : fS) (v1 : Int32) (v2 : Int32) (v3 : Int32) (v4 : Int32) (v5 : Int32) : Option (Int32 × fS) :=
  bp (fX7_has z v2) fun r5 =>
  if r5 = 0 then
    bd (fX8_refused z (1 : Int32)) fun r24 z24 =>
    some (r24, z24)
  else
    bp (fX7_has z v3) fun r16 =>
    if r16 = 0 then
      bd (fX8_refused z (1 : Int32)) fun r24 z24 =>
      some (r24, z24)
    else
      bp (fX6_count z) fun r32 =>
      if r32 < (100 : Int32) then
        bd (fX6_add z v1 v2 v3 v4 v5) fun r58 z58 =>
        bd (fX8_done z58 r58) fun r61 z61 =>
        some (r61, z61)
      else
        bd (fX8_refused z (3 : Int32)) fun r42 z42 =>
        some (r42, z42)
def fX8_unclaim (z : fS) : Option (Int32 × fS) :=
  bp (fX6_count z) fun r4 =>
  bp (fX6_forget z) fun z12 =>
  bd (fX8_done z12 r4) fun r17 z17 =>
  some (r17, z17)
def jX8_check_32   (z : fS) (v1 : Int32) (v2 : Int32) : Option Int32 :=
  bp (fX6_count z) fun r40 =>
  bp (fX6_says z (r40 - (1 : Int32)) v1 v2) fun r47 =>
  if r47 = 0 then
    bp (fX6_count z) fun r61 =>
    some r61
  else
    some (-1 : Int32)
def lX8_check_2  (k32 : Option Int32) (z : fS) (v1 : Int32) (v2 : Int32) : Nat → Int32 → Option Int32
  | 0, _ => none
  | N + 1, v3 =>
    bp (fX6_count z) fun r7 =>
    if r7 ≤ v3 then
      k32 
    else
      bp (fX6_isRight z v3) fun r18 =>
      if r18 = 0 then
        some v3
      else
        bnd (v3 + (1 : Int32)) fun x26 =>
        (lX8_check_2  k32 z v1 v2 N) x26
def fX8_check (z : fS) (v1 : Int32) (v2 : Int32) : Option Int32 :=
  lX8_check_2  (jX8_check_32   z v1 v2) z v1 v2 FU (0 : Int32)
def fX8_status (z : fS) : Option Int32 :=
  some (z 0 12)
end
end
section
noncomputable section
def fX9_refuse (z : fS) (v1 : Int32) : Option (Int32 × fS) :=
  bnd (wf z 0 26 v1) fun z2 =>
  some ((-1 : Int32), z2)
def fX9_done (z : fS) (v1 : Int32) : Option (Int32 × fS) :=
  bnd (wf z 0 26 (0 : Int32)) fun z2 =>
  some (v1, z2)
def fX9_isTerm (z : fS) (v1 : Int32) : Option Int32 :=
  if v1 < 0 then
    some (0 : Int32)
  else
    if (z 0 4) ≤ v1 then
      some (0 : Int32)
    else
      some (1 : Int32)
def jX9_findTerm_109  (rc : Int32 → Int32 → Option Int32) (z : fS) (v1 : Int32) (v2 : Int32) (v3 : Int32) (v5 : Int32) (v6 : Int32) : Option Int32 :=
  if v6 = 0 then
    bnd (v5 + (1 : Int32)) fun x122 =>
    rc (-1 : Int32) x122
  else
    bnd (v5 + (1 : Int32)) fun x122 =>
    rc v5 x122
def lX9_findTerm_63  (k109 : Int32 → Option Int32) (z : fS) (v1 : Int32) (v2 : Int32) (v3 : Int32) (v5 : Int32) : Nat → Int32 → Int32 → Option Int32
  | 0, _, _ => none
  | N + 1, v6, v7 =>
    if v3 ≤ v7 then
      k109 v6
    else
      if v6 = 0 then
        k109 v6
      else
        gd (inb (((3 : Int32) * v5) + v7) 360) <|
        gd (inb v7 3) <|
        if (rd z 4 (((3 : Int32) * v5) + v7)) = (rd z 19 v7) then
          bnd (v7 + (1 : Int32)) fun x103 =>
          (lX9_findTerm_63  k109 z v1 v2 v3 v5 N) (1 : Int32) x103
        else
          bnd (v7 + (1 : Int32)) fun x103 =>
          (lX9_findTerm_63  k109 z v1 v2 v3 v5 N) (0 : Int32) x103
def jX9_findTerm_58  (rc : Int32 → Int32 → Option Int32) (z : fS) (v1 : Int32) (v2 : Int32) (v3 : Int32) (v5 : Int32) (y0 : Int32) : Option Int32 :=
  lX9_findTerm_63  (jX9_findTerm_109  rc z v1 v2 v3 v5) z v1 v2 v3 v5 FU y0 (0 : Int32)
def lX9_findTerm_6   (z : fS) (v1 : Int32) (v2 : Int32) (v3 : Int32) : Nat → Int32 → Int32 → Option Int32
  | 0, _, _ => none
  | N + 1, v4, v5 =>
    if (z 0 4) ≤ v5 then
      some v4
    else
      if 0 ≤ v4 then
        some v4
      else
        gd (inb v5 120) <|
        if (rd z 1 v5) = v1 then
          gd (inb v5 120) <|
          if (rd z 2 v5) = v2 then
            gd (inb v5 120) <|
            if (rd z 3 v5) = v3 then
              jX9_findTerm_58  (lX9_findTerm_6   z v1 v2 v3 N) z v1 v2 v3 v5 (1 : Int32)
            else
              jX9_findTerm_58  (lX9_findTerm_6   z v1 v2 v3 N) z v1 v2 v3 v5 (0 : Int32)
          else
            jX9_findTerm_58  (lX9_findTerm_6   z v1 v2 v3 N) z v1 v2 v3 v5 (0 : Int32)
        else
          jX9_findTerm_58  (lX9_findTerm_6   z v1 v2 v3 N) z v1 v2 v3 v5 (0 : Int32)
def fX9_findTerm (z : fS) (v1 : Int32) (v2 : Int32) (v3 : Int32) : Option Int32 :=
  lX9_findTerm_6   z v1 v2 v3 FU (-1 : Int32) (0 : Int32)
def jX9_made_92   (z : fS) : Option (Int32 × fS) :=
  bnd (wf z 0 4 ((z 0 4) + (1 : Int32))) fun z99 =>
  bnd (wf z99 0 30 (0 : Int32)) fun z104 =>
  some (((z104 0 4) - (1 : Int32)), z104)
def lX9_made_59  (k92 : fS → Option (Int32 × fS)) (v3 : Int32) : Nat → Int32 → fS → Option (Int32 × fS)
  | 0, _, _ => none
  | N + 1, v5, z =>
    if v3 ≤ v5 then
      k92 z
    else
      gd (inb v5 3) <|
      gd (inb (((3 : Int32) * (z 0 4)) + v5) 360) <|
      bnd (wr z 4 (((3 : Int32) * (z 0 4)) + v5) (rd z 19 v5)) fun z85 =>
      bnd (v5 + (1 : Int32)) fun x86 =>
      (lX9_made_59  k92 v3 N) x86 z85
def fX9_made (z : fS) (v1 : Int32) (v2 : Int32) (v3 : Int32) : Option (Int32 × fS) :=
  bp (fX9_findTerm z v1 v2 v3) fun r4 =>
  if 0 ≤ r4 then
    some (r4, z)
  else
    if (z 0 4) = (120 : Int32) then
      some (r4, z)
    else
      gd (inb (z 0 4) 120) <|
      bnd (wr z 1 (z 0 4) v1) fun z35 =>
      gd (inb (z35 0 4) 120) <|
      bnd (wr z35 2 (z35 0 4) v2) fun z45 =>
      gd (inb (z45 0 4) 120) <|
      bnd (wr z45 3 (z45 0 4) v3) fun z55 =>
      lX9_made_59  (jX9_made_92   ) v3 FU (0 : Int32) z55
def fX9_answer (z : fS) (v1 : Int32) : Option (Int32 × fS) :=
  if 0 ≤ v1 then
    bd (fX9_done z v1) fun r14 z14 =>
    some (r14, z14)
  else
    bd (fX9_refuse z (3 : Int32)) fun r6 z6 =>
    some (r6, z6)
def fX9_name (z : fS) (v1 : Int32) : Option (Int32 × fS) :=
  if v1 < 0 then
    bd (fX9_refuse z (1 : Int32)) fun r12 z12 =>
    some (r12, z12)
  else
    if v1 ≤ (99 : Int32) then
      bd (fX9_made z (0 : Int32) v1 (0 : Int32)) fun r23 z23 =>
      bd (fX9_answer z23 r23) fun r26 z26 =>
      some (r26, z26)
    else
      bd (fX9_refuse z (1 : Int32)) fun r12 z12 =>
      some (r12, z12)
def fX9_number (z : fS) (v1 : Int32) : Option (Int32 × fS) :=
  bd (fX9_made z (1 : Int32) v1 (0 : Int32)) fun r5 z5 =>
  bd (fX9_answer z5 r5) fun r8 z8 =>
  some (r8, z8)
def jX9_built_79   (v1 : Int32) (v2 : Int32) (v3 : Int32) (v4 : Int32) (v5 : Int32) (z : fS) : Option (Int32 × fS) :=
  gd (inb (0 : Int32) 3) <|
  bnd (wr z 19 (0 : Int32) v3) fun z85 =>
  gd (inb (1 : Int32) 3) <|
  bnd (wr z85 19 (1 : Int32) v4) fun z93 =>
  gd (inb (2 : Int32) 3) <|
  bnd (wr z93 19 (2 : Int32) v5) fun z101 =>
  bd (fX9_made z101 (2 : Int32) v1 v2) fun r107 z107 =>
  bd (fX9_answer z107 r107) fun r110 z110 =>
  some (r110, z110)
def jX9_built_59   (v1 : Int32) (v2 : Int32) (v3 : Int32) (v4 : Int32) (v5 : Int32) (z : fS) : Option (Int32 × fS) :=
  if v2 ≤ (2 : Int32) then
    jX9_built_79   v1 v2 v3 v4 v5 z
  else
    bp (fX9_isTerm z v5) fun r67 =>
    if r67 = 0 then
      bd (fX9_refuse z (1 : Int32)) fun r75 z75 =>
      some (r75, z75)
    else
      jX9_built_79   v1 v2 v3 v4 v5 z
def fX9_built (z : fS) (v1 : Int32) (v2 : Int32) (v3 : Int32) (v4 : Int32) (v5 : Int32) : Option (Int32 × fS) :=
  if v1 < 0 then
    bd (fX9_refuse z (1 : Int32)) fun r12 z12 =>
    some (r12, z12)
  else
    if v1 ≤ (19 : Int32) then
      if 0 ≤ v2 then
        if v2 < (1 : Int32) then
          bd (fX9_refuse z (1 : Int32)) fun r75 z75 =>
          some (r75, z75)
        else
          if (3 : Int32) < v2 then
            bd (fX9_refuse z (1 : Int32)) fun r75 z75 =>
            some (r75, z75)
          else
            bp (fX9_isTerm z v3) fun r39 =>
            if r39 = 0 then
              bd (fX9_refuse z (1 : Int32)) fun r75 z75 =>
              some (r75, z75)
            else
              if v2 ≤ (1 : Int32) then
                jX9_built_59   v1 v2 v3 v4 v5 z
              else
                bp (fX9_isTerm z v4) fun r53 =>
                if r53 = 0 then
                  bd (fX9_refuse z (1 : Int32)) fun r75 z75 =>
                  some (r75, z75)
                else
                  jX9_built_59   v1 v2 v3 v4 v5 z
      else
        bd (fX9_refuse z (8 : Int32)) fun r23 z23 =>
        some (r23, z23)
    else
      bd (fX9_refuse z (1 : Int32)) fun r12 z12 =>
      some (r12, z12)
def fX9_row (z : fS) (v1 : Int32) (v2 : Int32) : Option (Int32 × fS) :=
  bp (fX9_isTerm z v1) fun r2 =>
  if r2 = 0 then
    bd (fX9_refuse z (1 : Int32)) fun r18 z18 =>
    some (r18, z18)
  else
    bp (fX9_isTerm z v2) fun r10 =>
    if r10 = 0 then
      bd (fX9_refuse z (1 : Int32)) fun r18 z18 =>
      some (r18, z18)
    else
      gd (inb (0 : Int32) 3) <|
      bnd (wr z 19 (0 : Int32) v1) fun z28 =>
      gd (inb (1 : Int32) 3) <|
      bnd (wr z28 19 (1 : Int32) v2) fun z35 =>
      bd (fX9_made z35 (3 : Int32) (0 : Int32) (2 : Int32)) fun r41 z41 =>
      bd (fX9_answer z41 r41) fun r44 z44 =>
      some (r44, z44)
def fX9_even (z : fS) (v1 : Int32) (v2 : Int32) (v3 : Int32) : Option (Int32 × fS) :=
  if v1 < 0 then
    bd (fX9_refuse z (1 : Int32)) fun r28 z28 =>
    some (r28, z28)
  else
    if (19 : Int32) < v1 then
      bd (fX9_refuse z (1 : Int32)) fun r28 z28 =>
      some (r28, z28)
    else
      bp (fX9_isTerm z v2) fun r12 =>
      if r12 = 0 then
        bd (fX9_refuse z (1 : Int32)) fun r28 z28 =>
        some (r28, z28)
      else
        bp (fX9_isTerm z v3) fun r20 =>
        if r20 = 0 then
          bd (fX9_refuse z (1 : Int32)) fun r28 z28 =>
          some (r28, z28)
        else
          gd (inb (0 : Int32) 3) <|
          bnd (wr z 19 (0 : Int32) v2) fun z38 =>
          gd (inb (1 : Int32) 3) <|
          bnd (wr z38 19 (1 : Int32) v3) fun z45 =>
          bd (fX9_made z45 (4 : Int32) v1 (2 : Int32)) fun r51 z51 =>
          bd (fX9_answer z51 r51) fun r54 z54 =>
          some (r54, z54)
def fX9_kind (z : fS) (v1 : Int32) : Option Int32 :=
  bp (fX9_isTerm z v1) fun r2 =>
  if r2 = 0 then
    some (-1 : Int32)
  else
    gd (inb v1 120) <|
    some (rd z 1 v1)
def fX9_part (z : fS) (v1 : Int32) (v2 : Int32) : Option (Int32 × fS) :=
  bp (fX9_isTerm z v1) fun r2 =>
  if r2 = 0 then
    bd (fX9_refuse z (1 : Int32)) fun r10 z10 =>
    some (r10, z10)
  else
    gd (inb v1 120) <|
    if (rd z 3 v1) = 0 then
      bd (fX9_refuse z (2 : Int32)) fun r25 z25 =>
      some (r25, z25)
    else
      if v2 < 0 then
        bd (fX9_refuse z (1 : Int32)) fun r45 z45 =>
        some (r45, z45)
      else
        gd (inb v1 120) <|
        if v2 < (rd z 3 v1) then
          gd (inb (((3 : Int32) * v1) + v2) 360) <|
          bd (fX9_done z (rd z 4 (((3 : Int32) * v1) + v2))) fun r62 z62 =>
          some (r62, z62)
        else
          bd (fX9_refuse z (1 : Int32)) fun r45 z45 =>
          some (r45, z45)
def fX9_shows (z : fS) (v1 : Int32) : Option (Int32 × fS) :=
  bp (fX9_isTerm z v1) fun r2 =>
  if r2 = 0 then
    bd (fX9_refuse z (1 : Int32)) fun r10 z10 =>
    some (r10, z10)
  else
    gd (inb v1 120) <|
    if (rd z 1 v1) = (3 : Int32) then
      bd (fX9_refuse z (2 : Int32)) fun r26 z26 =>
      some (r26, z26)
    else
      gd (inb v1 120) <|
      bd (fX9_done z (rd z 2 v1)) fun r39 z39 =>
      some (r39, z39)
def lX9_merge_66   (v3 : Int32) (v4 : Int32) : Nat → Int32 → fS → Option fS
  | 0, _, _ => none
  | N + 1, v5, z =>
    if (z 0 4) ≤ v5 then
      some z
    else
      gd (inb v5 120) <|
      if (rd z 20 v5) = v4 then
        gd (inb v5 120) <|
        bnd (wr z 20 v5 v3) fun z104 =>
        bnd (v5 + (1 : Int32)) fun x105 =>
        (lX9_merge_66   v3 v4 N) x105 z104
      else
        gd (inb v5 120) <|
        gd (inb v5 120) <|
        bnd (wr z 20 v5 (rd z 20 v5)) fun z104 =>
        bnd (v5 + (1 : Int32)) fun x105 =>
        (lX9_merge_66   v3 v4 N) x105 z104
def jX9_merge_61   (v3 : Int32) (y0 : Int32) (z : fS) : Option fS :=
  lX9_merge_66   v3 y0 FU (0 : Int32) z
def jX9_merge_30   (v1 : Int32) (v2 : Int32) (y0 : Int32) (z : fS) : Option fS :=
  gd (inb v1 120) <|
  gd (inb v2 120) <|
  if (rd z 20 v2) ≤ (rd z 20 v1) then
    gd (inb v1 120) <|
    jX9_merge_61   y0 (rd z 20 v1) z
  else
    gd (inb v2 120) <|
    jX9_merge_61   y0 (rd z 20 v2) z
def fX9_merge (z : fS) (v1 : Int32) (v2 : Int32) : Option fS :=
  gd (inb v1 120) <|
  gd (inb v2 120) <|
  if (rd z 20 v2) ≤ (rd z 20 v1) then
    gd (inb v2 120) <|
    jX9_merge_30   v1 v2 (rd z 20 v2) z
  else
    gd (inb v1 120) <|
    jX9_merge_30   v1 v2 (rd z 20 v1) z
def fX9_isPart (z : fS) (v1 : Int32) (v2 : Int32) (v3 : Int32) (v4 : Int32) : Option Int32 :=
  gd (inb (((3 : Int32) * v1) + v2) 360) <|
  gd (inb (rd z 4 (((3 : Int32) * v1) + v2)) 120) <|
  gd (inb (((3 : Int32) * v3) + v4) 360) <|
  gd (inb (rd z 4 (((3 : Int32) * v3) + v4)) 120) <|
  if (rd z 20 (rd z 4 (((3 : Int32) * v1) + v2))) = (rd z 20 (rd z 4 (((3 : Int32) * v3) + v4))) then
    some (1 : Int32)
  else
    some (0 : Int32)
def jX9_isByParts_93   (z : fS) (v1 : Int32) (v2 : Int32) (v3 : Int32) : Option Int32 :=
  if v3 = 0 then
    gd (inb v1 120) <|
    if (rd z 1 v1) = (4 : Int32) then
      bp (fX9_isPart z v1 (0 : Int32) v2 (1 : Int32)) fun r112 =>
      if r112 = 0 then
        some (0 : Int32)
      else
        bp (fX9_isPart z v1 (1 : Int32) v2 (0 : Int32)) fun r123 =>
        if r123 = 0 then
          some (0 : Int32)
        else
          some (1 : Int32)
    else
      some (0 : Int32)
  else
    some (1 : Int32)
def lX9_isByParts_61  (k93 : Int32 → Option Int32) (z : fS) (v1 : Int32) (v2 : Int32) : Nat → Int32 → Int32 → Option Int32
  | 0, _, _ => none
  | N + 1, v3, v4 =>
    gd (inb v1 120) <|
    if (rd z 3 v1) ≤ v4 then
      k93 v3
    else
      if v3 = 0 then
        k93 v3
      else
        bp (fX9_isPart z v1 v4 v2 v4) fun r83 =>
        bnd (v4 + (1 : Int32)) fun x87 =>
        (lX9_isByParts_61  k93 z v1 v2 N) r83 x87
def fX9_isByParts (z : fS) (v1 : Int32) (v2 : Int32) : Option Int32 :=
  gd (inb v1 120) <|
  if (rd z 3 v1) = 0 then
    some (0 : Int32)
  else
    gd (inb v1 120) <|
    gd (inb v2 120) <|
    if (rd z 1 v1) = (rd z 1 v2) then
      gd (inb v1 120) <|
      gd (inb v2 120) <|
      if (rd z 2 v1) = (rd z 2 v2) then
        gd (inb v1 120) <|
        gd (inb v2 120) <|
        if (rd z 3 v1) = (rd z 3 v2) then
          lX9_isByParts_61  (jX9_isByParts_93   z v1 v2) z v1 v2 FU (1 : Int32) (0 : Int32)
        else
          some (0 : Int32)
      else
        some (0 : Int32)
    else
      some (0 : Int32)
def jX9_looks_148  (rc : Int32 → Int32 → fS → Option (Int32 × fS)) (v2 : Int32) (v1 : Int32) (z : fS) : Option (Int32 × fS) :=
  bnd (v2 + (1 : Int32)) fun x148 =>
  rc v1 x148 z
def jX9_looks_142  (rc : Int32 → Int32 → fS → Option (Int32 × fS)) (k148 : Int32 → fS → Option (Int32 × fS)) (v2 : Int32) (v3 : Int32) (v1 : Int32) (z : fS) : Option (Int32 × fS) :=
  bnd (v3 + (1 : Int32)) fun x142 =>
  rc v1 x142 z
def lX9_looks_89  (k142 : Int32 → fS → Option (Int32 × fS)) (v2 : Int32) (v3 : Int32) : Nat → Int32 → Int32 → fS → Option (Int32 × fS)
  | 0, _, _, _ => none
  | N + 1, v1, v4, z =>
    if (2 : Int32) ≤ v4 then
      k142 v1 z
    else
      bp (fX9_isPart z v2 v4 v3 v4) fun r102 =>
      if r102 = 0 then
        gd (inb (((3 : Int32) * v2) + v4) 360) <|
        gd (inb (((3 : Int32) * v3) + v4) 360) <|
        bp (fX9_merge z (rd z 4 (((3 : Int32) * v2) + v4)) (rd z 4 (((3 : Int32) * v3) + v4))) fun z131 =>
        bnd (v4 + (1 : Int32)) fun x136 =>
        (lX9_looks_89  k142 v2 v3 N) (1 : Int32) x136 z131
      else
        bnd (v4 + (1 : Int32)) fun x136 =>
        (lX9_looks_89  k142 v2 v3 N) v1 x136 z
def jX9_looks_51  (rc : Int32 → Int32 → fS → Option (Int32 × fS)) (k148 : Int32 → fS → Option (Int32 × fS)) (v1 : Int32) (v2 : Int32) (v3 : Int32) (z : fS) : Option (Int32 × fS) :=
  gd (inb v2 120) <|
  gd (inb v3 120) <|
  if (rd z 20 v2) = (rd z 20 v3) then
    gd (inb v2 120) <|
    if (rd z 1 v2) = (3 : Int32) then
      gd (inb v3 120) <|
      if (rd z 1 v3) = (3 : Int32) then
        lX9_looks_89  (jX9_looks_142  rc k148 v2 v3) v2 v3 FU v1 (0 : Int32) z
      else
        jX9_looks_142  rc k148 v2 v3 v1 z
    else
      jX9_looks_142  rc k148 v2 v3 v1 z
  else
    jX9_looks_142  rc k148 v2 v3 v1 z
def lX9_looks_14  (k148 : Int32 → fS → Option (Int32 × fS)) (v2 : Int32) : Nat → Int32 → Int32 → fS → Option (Int32 × fS)
  | 0, _, _, _ => none
  | N + 1, v1, v3, z =>
    if v2 ≤ v3 then
      k148 v1 z
    else
      gd (inb v2 120) <|
      gd (inb v3 120) <|
      if (rd z 20 v2) = (rd z 20 v3) then
        jX9_looks_51  (lX9_looks_14  k148 v2 N) k148 v1 v2 v3 z
      else
        bp (fX9_isByParts z v2 v3) fun r37 =>
        if r37 = 0 then
          jX9_looks_51  (lX9_looks_14  k148 v2 N) k148 v1 v2 v3 z
        else
          bp (fX9_merge z v2 v3) fun z46 =>
          jX9_looks_51  (lX9_looks_14  k148 v2 N) k148 (1 : Int32) v2 v3 z46
def lX9_looks_4    : Nat → Int32 → Int32 → fS → Option (Int32 × fS)
  | 0, _, _, _ => none
  | N + 1, v1, v2, z =>
    if (z 0 4) ≤ v2 then
      gd (isb v1) <|
      some (v1, z)
    else
      lX9_looks_14  (jX9_looks_148  (lX9_looks_4    N) v2) v2 FU v1 (0 : Int32) z
def fX9_looks (z : fS) : Option (Int32 × fS) :=
  lX9_looks_4    FU (0 : Int32) (0 : Int32) z
def lX9_findOnes_100    : Nat → Int32 → Int32 → fS → Option fS
  | 0, _, _, _ => none
  | N + 1, v1, v2, z =>
    if v1 = 0 then
      bnd (wf z 0 30 (0 : Int32)) fun z124 =>
      some z124
    else
      if (400 : Int32) ≤ v2 then
        bnd (wf z 0 30 (0 : Int32)) fun z124 =>
        some z124
      else
        bd (fX9_looks z) fun r112 z112 =>
        bnd (v2 + (1 : Int32)) fun x116 =>
        (lX9_findOnes_100    N) r112 x116 z112
def jX9_findOnes_96   (z : fS) : Option fS :=
  lX9_findOnes_100    FU (1 : Int32) (0 : Int32) z
def lX9_findOnes_25  (k96 : fS → Option fS)  : Nat → Int32 → fS → Option fS
  | 0, _, _ => none
  | N + 1, v1, z =>
    if (100 : Int32) < v1 then
      k96 z
    else
      gd (inb v1 101) <|
      if (rd z 21 v1) = 0 then
        bnd (v1 + (1 : Int32)) fun x90 =>
        (lX9_findOnes_25  k96  N) x90 z
      else
        gd (inb v1 101) <|
        if (rd z 7 v1) = 0 then
          bnd (v1 + (1 : Int32)) fun x90 =>
          (lX9_findOnes_25  k96  N) x90 z
        else
          gd (inb v1 101) <|
          gd (inb (rd z 5 v1) 120) <|
          gd (inb v1 101) <|
          gd (inb (rd z 6 v1) 120) <|
          if (rd z 20 (rd z 5 v1)) = (rd z 20 (rd z 6 v1)) then
            bnd (v1 + (1 : Int32)) fun x90 =>
            (lX9_findOnes_25  k96  N) x90 z
          else
            gd (inb v1 101) <|
            gd (inb v1 101) <|
            bp (fX9_merge z (rd z 5 v1) (rd z 6 v1)) fun z87 =>
            bnd (v1 + (1 : Int32)) fun x90 =>
            (lX9_findOnes_25  k96  N) x90 z87
def jX9_findOnes_23   (z : fS) : Option fS :=
  lX9_findOnes_25  (jX9_findOnes_96   )  FU (0 : Int32) z
def lX9_findOnes_2  (k23 : fS → Option fS)  : Nat → Int32 → fS → Option fS
  | 0, _, _ => none
  | N + 1, v1, z =>
    if (z 0 4) ≤ v1 then
      k23 z
    else
      gd (inb v1 120) <|
      bnd (wr z 20 v1 v1) fun z16 =>
      bnd (v1 + (1 : Int32)) fun x17 =>
      (lX9_findOnes_2  k23  N) x17 z16
def fX9_findOnes (z : fS) : Option fS :=
  lX9_findOnes_2  (jX9_findOnes_23   )  FU (0 : Int32) z
def jX9_clashes_145  (rc : Int32 → Int32 → Option (Int32 × fS)) (z : fS) (v2 : Int32) (v1 : Int32) : Option (Int32 × fS) :=
  bnd (v2 + (1 : Int32)) fun x145 =>
  rc v1 x145
def lX9_clashes_89  (k145 : Int32 → Option (Int32 × fS)) (z : fS) (v2 : Int32) : Nat → Int32 → Int32 → Option (Int32 × fS)
  | 0, _, _ => none
  | N + 1, v1, v3 =>
    if v2 ≤ v3 then
      k145 v1
    else
      if v1 = 0 then
        gd (inb v2 120) <|
        if (rd z 1 v2) = (1 : Int32) then
          gd (inb v3 120) <|
          if (rd z 1 v3) = (1 : Int32) then
            gd (inb v2 120) <|
            gd (inb v3 120) <|
            if (rd z 20 v2) = (rd z 20 v3) then
              bnd (v3 + (1 : Int32)) fun x139 =>
              (lX9_clashes_89  k145 z v2 N) (1 : Int32) x139
            else
              bnd (v3 + (1 : Int32)) fun x139 =>
              (lX9_clashes_89  k145 z v2 N) (0 : Int32) x139
          else
            bnd (v3 + (1 : Int32)) fun x139 =>
            (lX9_clashes_89  k145 z v2 N) (0 : Int32) x139
        else
          bnd (v3 + (1 : Int32)) fun x139 =>
          (lX9_clashes_89  k145 z v2 N) (0 : Int32) x139
      else
        k145 v1
def lX9_clashes_75   (z : fS) : Nat → Int32 → Int32 → Option (Int32 × fS)
  | 0, _, _ => none
  | N + 1, v1, v2 =>
    if (z 0 4) ≤ v2 then
      gd (isb v1) <|
      some (v1, z)
    else
      if v1 = 0 then
        lX9_clashes_89  (jX9_clashes_145  (lX9_clashes_75   z N) z v2) z v2 FU v1 (0 : Int32)
      else
        gd (isb v1) <|
        some (v1, z)
def jX9_clashes_73   (z : fS) (v1 : Int32) : Option (Int32 × fS) :=
  lX9_clashes_75   z FU v1 (0 : Int32)
def lX9_clashes_8  (k73 : Int32 → Option (Int32 × fS)) (z : fS) : Nat → Int32 → Int32 → Option (Int32 × fS)
  | 0, _, _ => none
  | N + 1, v1, v2 =>
    if (100 : Int32) < v2 then
      k73 v1
    else
      if v1 = 0 then
        gd (inb v2 101) <|
        if (rd z 21 v2) = 0 then
          bnd (v2 + (1 : Int32)) fun x67 =>
          (lX9_clashes_8  k73 z N) (0 : Int32) x67
        else
          gd (inb v2 101) <|
          if (rd z 7 v2) = 0 then
            gd (inb v2 101) <|
            gd (inb (rd z 5 v2) 120) <|
            gd (inb v2 101) <|
            gd (inb (rd z 6 v2) 120) <|
            if (rd z 20 (rd z 5 v2)) = (rd z 20 (rd z 6 v2)) then
              bnd (v2 + (1 : Int32)) fun x67 =>
              (lX9_clashes_8  k73 z N) (1 : Int32) x67
            else
              bnd (v2 + (1 : Int32)) fun x67 =>
              (lX9_clashes_8  k73 z N) (0 : Int32) x67
          else
            bnd (v2 + (1 : Int32)) fun x67 =>
            (lX9_clashes_8  k73 z N) (0 : Int32) x67
      else
        k73 v1
def fX9_clashes (z : fS) : Option (Int32 × fS) :=
  bp (fX9_findOnes z) fun z1 =>
  lX9_clashes_8  (jX9_clashes_73   z1) z1 FU (0 : Int32) (0 : Int32)
def lX9_takeCourt_2    : Nat → Int32 → fS → Option fS
  | 0, _, _ => none
  | N + 1, v1, z =>
    if (100 : Int32) < v1 then
      some z
    else
      if (z 0 9) ≤ v1 then
        gd (inb v1 101) <|
        bnd (wr z 21 v1 (zb (0 : Int32))) fun z35 =>
        bnd (v1 + (1 : Int32)) fun x36 =>
        (lX9_takeCourt_2    N) x36 z35
      else
        gd (inb v1 101) <|
        if (rd z 8 v1) = 0 then
          gd (inb v1 101) <|
          bnd (wr z 21 v1 (zb (0 : Int32))) fun z35 =>
          bnd (v1 + (1 : Int32)) fun x36 =>
          (lX9_takeCourt_2    N) x36 z35
        else
          gd (inb v1 101) <|
          bnd (wr z 21 v1 (zb (1 : Int32))) fun z35 =>
          bnd (v1 + (1 : Int32)) fun x36 =>
          (lX9_takeCourt_2    N) x36 z35
def fX9_takeCourt (z : fS) : Option fS :=
  lX9_takeCourt_2    FU (0 : Int32) z
def fX9_court (z : fS) : Option fS :=
  if (z 0 30) = 0 then
    bp (fX9_takeCourt z) fun z8 =>
    bp (fX9_findOnes z8) fun z12 =>
    bnd (wf z12 0 30 (1 : Int32)) fun z17 =>
    some z17
  else
    some z
def fX9_areOne (z : fS) (v1 : Int32) (v2 : Int32) : Option (Int32 × fS) :=
  bp (fX9_court z) fun z1 =>
  gd (inb v1 120) <|
  gd (inb v2 120) <|
  if (rd z1 20 v1) = (rd z1 20 v2) then
    some ((1 : Int32), z1)
  else
    some ((0 : Int32), z1)
def fX9_add (z : fS) (v1 : Int32) (v2 : Int32) (v3 : Int32) : Option fS :=
  gd (inb (100 : Int32) 101) <|
  bnd (wr z 5 (100 : Int32) v1) fun z7 =>
  gd (inb (100 : Int32) 101) <|
  bnd (wr z7 6 (100 : Int32) v2) fun z15 =>
  gd (inb (100 : Int32) 101) <|
  bnd (wr z15 7 (100 : Int32) (zb v3)) fun z23 =>
  gd (inb (100 : Int32) 101) <|
  bnd (wr z23 21 (100 : Int32) (zb (1 : Int32))) fun z31 =>
  some z31
def fX9_does (z : fS) (v1 : Int32) (v2 : Int32) : Option (Int32 × fS) :=
  if 0 ≤ v1 then
    bp (fX9_findOnes z) fun z10 =>
    gd (inb v1 120) <|
    gd (inb v2 120) <|
    if (rd z10 20 v1) = (rd z10 20 v2) then
      some ((1 : Int32), z10)
    else
      some ((0 : Int32), z10)
  else
    bd (fX9_clashes z) fun r5 z5 =>
    gd (isb r5) <|
    some (r5, z5)
def lX9_thin_6 (v3 : Nat)  (v1 : Int32) (v2 : Int32) : Nat → Int32 → Int32 → fS → Option (Int32 × fS)
  | 0, _, _, _ => none
  | N + 1, v4, v5, z =>
    if (z 0 9) ≤ v5 then
      some (v4, z)
    else
      gd (inb v5 101) <|
      if (rd z 21 v5) = 0 then
        bnd (v5 + (1 : Int32)) fun x59 =>
        (lX9_thin_6 v3  v1 v2 N) v4 x59 z
      else
        gd (inb v5 101) <|
        bnd (wr z 21 v5 (zb (0 : Int32))) fun z32 =>
        bd (fX9_does z32 v1 v2) fun r36 z36 =>
        if r36 = 0 then
          gd (inb v5 101) <|
          bnd (wr z36 21 v5 (zb (1 : Int32))) fun z49 =>
          gd (inb v4 100) <|
          bnd (wr z49 v3 v4 v5) fun z55 =>
          bnd (v4 + (1 : Int32)) fun x56 =>
          bnd (v5 + (1 : Int32)) fun x59 =>
          (lX9_thin_6 v3  v1 v2 N) x56 x59 z55
        else
          bnd (v5 + (1 : Int32)) fun x59 =>
          (lX9_thin_6 v3  v1 v2 N) v4 x59 z36
def fX9_thin (z : fS) (v1 : Int32) (v2 : Int32) (v3 : Nat) : Option (Int32 × fS) :=
  lX9_thin_6 v3  v1 v2 FU (0 : Int32) (0 : Int32) z
def lX9_taken_4   (z : fS) : Nat → Int32 → Int32 → Option Int32
  | 0, _, _ => none
  | N + 1, v1, v2 =>
    if (z 0 9) ≤ v2 then
      some v1
    else
      gd (inb v2 101) <|
      if (rd z 8 v2) = 0 then
        bnd (v1 + (0 : Int32)) fun x28 =>
        bnd (v2 + (1 : Int32)) fun x29 =>
        (lX9_taken_4   z N) x28 x29
      else
        bnd (v1 + (1 : Int32)) fun x28 =>
        bnd (v2 + (1 : Int32)) fun x29 =>
        (lX9_taken_4   z N) x28 x29
def fX9_taken (z : fS) : Option Int32 :=
  lX9_taken_4   z FU (0 : Int32) (0 : Int32)
def lX9_classes_8   (z : fS) : Nat → Int32 → Int32 → Option (Int32 × fS)
  | 0, _, _ => none
  | N + 1, v1, v2 =>
    if (z 0 4) ≤ v2 then
      some (v1, z)
    else
      gd (inb v2 120) <|
      if (rd z 20 v2) = v2 then
        bnd (v1 + (1 : Int32)) fun x33 =>
        bnd (v2 + (1 : Int32)) fun x34 =>
        (lX9_classes_8   z N) x33 x34
      else
        bnd (v1 + (0 : Int32)) fun x33 =>
        bnd (v2 + (1 : Int32)) fun x34 =>
        (lX9_classes_8   z N) x33 x34
def fX9_classes (z : fS) : Option (Int32 × fS) :=
  bp (fX9_court z) fun z1 =>
  lX9_classes_8   z1 FU (0 : Int32) (0 : Int32)
def fX9_many (z : fS) (v1 : Int32) : Option (Int32 × fS) :=
  if v1 = (0 : Int32) then
    some ((z 0 4), z)
  else if v1 = (1 : Int32) then
    some ((z 0 9), z)
  else if v1 = (2 : Int32) then
    bp (fX9_taken z) fun r55 =>
    some (r55, z)
  else if v1 = (3 : Int32) then
    some ((z 0 14), z)
  else if v1 = (4 : Int32) then
    some ((z 0 20), z)
  else if v1 = (5 : Int32) then
    some ((z 0 11), z)
  else if v1 = (6 : Int32) then
    bd (fX9_classes z) fun r75 z75 =>
    some (r75, z75)
  else 
    some ((-1 : Int32), z)
def fX9_wouldClash (z : fS) (v1 : Int32) (v2 : Int32) (v3 : Int32) : Option (Int32 × fS) :=
  bp (fX9_takeCourt z) fun z1 =>
  bp (fX9_add z1 v1 v2 v3) fun z8 =>
  bd (fX9_clashes z8) fun r12 z12 =>
  if r12 = 0 then
    some ((0 : Int32), z12)
  else
    bd (fX9_thin z12 (-1 : Int32) (-1 : Int32) 17) fun r28 z28 =>
    bnd (wf z28 0 22 r28) fun z31 =>
    some ((1 : Int32), z31)
def fX9_take (z : fS) (v1 : Int32) (v2 : Int32) (v3 : Int32) : Option (Int32 × fS) :=
  gd (inb (z 0 9) 101) <|
  bnd (wr z 5 (z 0 9) v1) fun z9 =>
  gd (inb (z9 0 9) 101) <|
  bnd (wr z9 6 (z9 0 9) v2) fun z19 =>
  gd (inb (z19 0 9) 101) <|
  bnd (wr z19 7 (z19 0 9) (zb v3)) fun z29 =>
  gd (inb (z29 0 9) 101) <|
  bnd (wr z29 8 (z29 0 9) (zb (1 : Int32))) fun z39 =>
  bnd (wf z39 0 9 ((z39 0 9) + (1 : Int32))) fun z47 =>
  bnd (wf z47 0 30 (0 : Int32)) fun z52 =>
  some (((z52 0 9) - (1 : Int32)), z52)
def fX9_saidNow (z : fS) (v1 : Int32) (v2 : Int32) (v3 : Int32) : Option (Int32 × fS) :=
  bp (fX9_isTerm z v1) fun r2 =>
  if r2 = 0 then
    bd (fX9_refuse z (1 : Int32)) fun r18 z18 =>
    some (r18, z18)
  else
    bp (fX9_isTerm z v2) fun r10 =>
    if r10 = 0 then
      bd (fX9_refuse z (1 : Int32)) fun r18 z18 =>
      some (r18, z18)
    else
      if (z 0 9) = (100 : Int32) then
        bd (fX9_refuse z (3 : Int32)) fun r33 z33 =>
        some (r33, z33)
      else
        bd (fX9_wouldClash z v1 v2 v3) fun r41 z41 =>
        if r41 = 0 then
          bd (fX9_take z41 v1 v2 v3) fun r60 z60 =>
          bd (fX9_done z60 r60) fun r63 z63 =>
          some (r63, z63)
        else
          bd (fX9_refuse z41 (4 : Int32)) fun r49 z49 =>
          some (r49, z49)
def fX9_say (z : fS) (v1 : Int32) (v2 : Int32) : Option (Int32 × fS) :=
  bd (fX9_saidNow z v1 v2 (1 : Int32)) fun r4 z4 =>
  some (r4, z4)
def fX9_unlike (z : fS) (v1 : Int32) (v2 : Int32) : Option (Int32 × fS) :=
  bd (fX9_saidNow z v1 v2 (0 : Int32)) fun r4 z4 =>
  some (r4, z4)
def fX9_drop (z : fS) (v1 : Int32) : Option (Int32 × fS) :=
  if v1 < 0 then
    bd (fX9_refuse z (1 : Int32)) fun r14 z14 =>
    some (r14, z14)
  else
    if v1 < (z 0 9) then
      gd (inb v1 101) <|
      if (rd z 8 v1) = 0 then
        bd (fX9_refuse z (5 : Int32)) fun r29 z29 =>
        some (r29, z29)
      else
        gd (inb v1 101) <|
        bnd (wr z 8 v1 (zb (0 : Int32))) fun z39 =>
        bnd (wf z39 0 30 (0 : Int32)) fun z42 =>
        bp (fX9_taken z42) fun r47 =>
        bd (fX9_done z42 r47) fun r50 z50 =>
        some (r50, z50)
    else
      bd (fX9_refuse z (1 : Int32)) fun r14 z14 =>
      some (r14, z14)
def fX9_said (z : fS) (v1 : Int32) (v2 : Int32) : Option Int32 :=
  if v1 < 0 then
    some (-1 : Int32)
  else
    if v1 < (z 0 9) then
      if v2 = (0 : Int32) then
        gd (inb v1 101) <|
        if (rd z 7 v1) = 0 then
          some (0 : Int32)
        else
          some (1 : Int32)
      else if v2 = (1 : Int32) then
        gd (inb v1 101) <|
        some (rd z 5 v1)
      else if v2 = (2 : Int32) then
        gd (inb v1 101) <|
        some (rd z 6 v1)
      else if v2 = (3 : Int32) then
        gd (inb v1 101) <|
        if (rd z 8 v1) = 0 then
          some (0 : Int32)
        else
          some (1 : Int32)
      else 
        some (-1 : Int32)
    else
      some (-1 : Int32)
def fX9_clashed (z : fS) (v1 : Int32) : Option Int32 :=
  if v1 < 0 then
    some (-1 : Int32)
  else
    if (z 0 22) ≤ v1 then
      some (-1 : Int32)
    else
      gd (inb v1 100) <|
      some (rd z 17 v1)
def fX9_judge (z : fS) (v1 : Int32) (v2 : Int32) : Option (Int32 × fS) :=
  bp (fX9_isTerm z v1) fun r2 =>
  if r2 = 0 then
    some ((-1 : Int32), z)
  else
    bp (fX9_isTerm z v2) fun r10 =>
    if r10 = 0 then
      some ((-1 : Int32), z)
    else
      bd (fX9_areOne z v1 v2) fun r21 z21 =>
      if r21 = 0 then
        bp (fX9_takeCourt z21) fun z30 =>
        bp (fX9_add z30 v1 v2 (1 : Int32)) fun z37 =>
        bd (fX9_clashes z37) fun r41 z41 =>
        if r41 = 0 then
          some ((2 : Int32), z41)
        else
          some ((0 : Int32), z41)
      else
        some ((1 : Int32), z21)
def fX9_why (z : fS) (v1 : Int32) (v2 : Int32) : Option (Int32 × fS) :=
  bp (fX9_isTerm z v1) fun r2 =>
  if r2 = 0 then
    bd (fX9_refuse z (1 : Int32)) fun r18 z18 =>
    some (r18, z18)
  else
    bp (fX9_isTerm z v2) fun r10 =>
    if r10 = 0 then
      bd (fX9_refuse z (1 : Int32)) fun r18 z18 =>
      some (r18, z18)
    else
      bd (fX9_judge z v1 v2) fun r25 z25 =>
      if r25 = (2 : Int32) then
        bd (fX9_refuse z25 (6 : Int32)) fun r37 z37 =>
        some (r37, z37)
      else
        bp (fX9_takeCourt z25) fun z42 =>
        if r25 = (1 : Int32) then
          bd (fX9_thin z42 v1 v2 18) fun r58 z58 =>
          bnd (wf z58 0 24 r58) fun z61 =>
          bd (fX9_done z61 (z61 0 24)) fun r93 z93 =>
          some (r93, z93)
        else
          bp (fX9_add z42 v1 v2 (1 : Int32)) fun z71 =>
          bd (fX9_thin z71 (-1 : Int32) (-1 : Int32) 18) fun r82 z82 =>
          bnd (wf z82 0 24 r82) fun z85 =>
          bd (fX9_done z85 (z85 0 24)) fun r93 z93 =>
          some (r93, z93)
def lX9_nextSet_49   (v2 : Int32) : Nat → Int32 → fS → Option (Int32 × fS)
  | 0, _, _ => none
  | N + 1, v4, z =>
    if v2 ≤ v4 then
      some ((1 : Int32), z)
    else
      gd (inb (v4 - (1 : Int32)) 100) <|
      gd (inb v4 100) <|
      bnd (wr z 23 v4 ((rd z 23 (v4 - (1 : Int32))) + (1 : Int32))) fun z72 =>
      bnd (v4 + (1 : Int32)) fun x73 =>
      (lX9_nextSet_49   v2 N) x73 z72
def jX9_nextSet_28   (z : fS) (v2 : Int32) (v3 : Int32) : Option (Int32 × fS) :=
  if 0 ≤ v3 then
    gd (inb v3 100) <|
    gd (inb v3 100) <|
    bnd (wr z 23 v3 ((rd z 23 v3) + (1 : Int32))) fun z43 =>
    bnd (v3 + (1 : Int32)) fun x47 =>
    lX9_nextSet_49   v2 FU x47 z43
  else
    some ((0 : Int32), z)
def lX9_nextSet_4  (k28 : Int32 → Option (Int32 × fS)) (z : fS) (v1 : Int32) (v2 : Int32) : Nat → Int32 → Option (Int32 × fS)
  | 0, _ => none
  | N + 1, v3 =>
    if v3 < 0 then
      k28 v3
    else
      gd (inb v3 100) <|
      if (rd z 23 v3) = ((v1 - v2) + v3) then
        bnd (v3 + (-1 : Int32)) fun x22 =>
        (lX9_nextSet_4  k28 z v1 v2 N) x22
      else
        k28 v3
def fX9_nextSet (z : fS) (v1 : Int32) (v2 : Int32) : Option (Int32 × fS) :=
  bnd (v2 - (1 : Int32)) fun x3 =>
  lX9_nextSet_4  (jX9_nextSet_28   z v2) z v1 v2 FU x3
def jX9_isEnough_57   (v2 : Int32) (v3 : Int32) (z : fS) : Option (Int32 × fS) :=
  bp (fX9_findOnes z) fun z58 =>
  gd (inb v2 120) <|
  gd (inb v3 120) <|
  if (rd z58 20 v2) = (rd z58 20 v3) then
    some ((1 : Int32), z58)
  else
    some ((0 : Int32), z58)
def lX9_isEnough_27  (k57 : fS → Option (Int32 × fS)) (v1 : Int32) (v2 : Int32) (v3 : Int32) : Nat → Int32 → fS → Option (Int32 × fS)
  | 0, _, _ => none
  | N + 1, v4, z =>
    if v1 ≤ v4 then
      k57 z
    else
      gd (inb v4 100) <|
      gd (inb (rd z 23 v4) 100) <|
      gd (inb (rd z 22 (rd z 23 v4)) 101) <|
      bnd (wr z 21 (rd z 22 (rd z 23 v4)) (zb (1 : Int32))) fun z50 =>
      bnd (v4 + (1 : Int32)) fun x51 =>
      (lX9_isEnough_27  k57 v1 v2 v3 N) x51 z50
def jX9_isEnough_24   (v1 : Int32) (v2 : Int32) (v3 : Int32) (z : fS) : Option (Int32 × fS) :=
  lX9_isEnough_27  (jX9_isEnough_57   v2 v3) v1 v2 v3 FU (0 : Int32) z
def lX9_isEnough_3  (k24 : fS → Option (Int32 × fS)) (v1 : Int32) (v2 : Int32) (v3 : Int32) : Nat → Int32 → fS → Option (Int32 × fS)
  | 0, _, _ => none
  | N + 1, v4, z =>
    if (100 : Int32) < v4 then
      k24 z
    else
      gd (inb v4 101) <|
      bnd (wr z 21 v4 (zb (0 : Int32))) fun z17 =>
      bnd (v4 + (1 : Int32)) fun x18 =>
      (lX9_isEnough_3  k24 v1 v2 v3 N) x18 z17
def fX9_isEnough (z : fS) (v1 : Int32) (v2 : Int32) (v3 : Int32) : Option (Int32 × fS) :=
  lX9_isEnough_3  (jX9_isEnough_24   v1 v2 v3) v1 v2 v3 FU (0 : Int32) z
def lX9_least_174   (v6 : Int32) : Nat → Int32 → fS → Option (Int32 × fS)
  | 0, _, _ => none
  | N + 1, v8, z =>
    if v6 ≤ v8 then
      bd (fX9_done z v6) fun r209 z209 =>
      some (r209, z209)
    else
      gd (inb v8 100) <|
      gd (inb (rd z 23 v8) 100) <|
      gd (inb v8 100) <|
      bnd (wr z 18 v8 (rd z 22 (rd z 23 v8))) fun z199 =>
      bnd (v8 + (1 : Int32)) fun x200 =>
      (lX9_least_174   v6 N) x200 z199
def jX9_least_165   (v6 : Int32) (z : fS) : Option (Int32 × fS) :=
  bnd (wf z 0 24 v6) fun z168 =>
  lX9_least_174   v6 FU (0 : Int32) z168
def jX9_least_226  (rc : Int32 → Int32 → fS → Option (Int32 × fS)) (k165 : Int32 → fS → Option (Int32 × fS)) (v1 : Int32) (v2 : Int32) (v4 : Int32) (v6 : Int32) (v5 : Int32) (z : fS) : Option (Int32 × fS) :=
  bnd (v6 + (1 : Int32)) fun x226 =>
  rc v5 x226 z
def lX9_least_134  (k165 : fS → Option (Int32 × fS)) (k226 : Int32 → fS → Option (Int32 × fS)) (v1 : Int32) (v2 : Int32) (v4 : Int32) (v6 : Int32) : Nat → Int32 → Int32 → fS → Option (Int32 × fS)
  | 0, _, _, _ => none
  | N + 1, v5, v7, z =>
    if v7 = 0 then
      k226 v5 z
    else
      if v5 = 0 then
        bd (fX9_refuse z (7 : Int32)) fun r147 z147 =>
        some (r147, z147)
      else
        bnd (v5 + (-1 : Int32)) fun x151 =>
        bd (fX9_isEnough z v6 v1 v2) fun r159 z159 =>
        if r159 = 0 then
          bd (fX9_nextSet z159 v4 v6) fun r218 z218 =>
          (lX9_least_134  k165 k226 v1 v2 v4 v6 N) x151 r218 z218
        else
          k165 z159
def jX9_least_131  (rc : Int32 → Int32 → fS → Option (Int32 × fS)) (k165 : Int32 → fS → Option (Int32 × fS)) (v1 : Int32) (v2 : Int32) (v4 : Int32) (v5 : Int32) (v6 : Int32) (z : fS) : Option (Int32 × fS) :=
  lX9_least_134  (k165 v6) (jX9_least_226  rc k165 v1 v2 v4 v6) v1 v2 v4 v6 FU v5 (1 : Int32) z
def lX9_least_109  (k131 : fS → Option (Int32 × fS)) (v1 : Int32) (v2 : Int32) (v4 : Int32) (v5 : Int32) (v6 : Int32) : Nat → Int32 → fS → Option (Int32 × fS)
  | 0, _, _ => none
  | N + 1, v7, z =>
    if v6 ≤ v7 then
      k131 z
    else
      gd (inb v7 100) <|
      bnd (wr z 23 v7 v7) fun z124 =>
      bnd (v7 + (1 : Int32)) fun x125 =>
      (lX9_least_109  k131 v1 v2 v4 v5 v6 N) x125 z124
def lX9_least_99  (k165 : Int32 → fS → Option (Int32 × fS)) (v1 : Int32) (v2 : Int32) (v4 : Int32) : Nat → Int32 → Int32 → fS → Option (Int32 × fS)
  | 0, _, _, _ => none
  | N + 1, v5, v6, z =>
    if v4 < v6 then
      bd (fX9_refuse z (7 : Int32)) fun r235 z235 =>
      some (r235, z235)
    else
      lX9_least_109  (jX9_least_131  (lX9_least_99  k165 v1 v2 v4 N) k165 v1 v2 v4 v5 v6) v1 v2 v4 v5 v6 FU (0 : Int32) z
def jX9_least_93   (v1 : Int32) (v2 : Int32) (v3 : Int32) (v4 : Int32) (z : fS) : Option (Int32 × fS) :=
  lX9_least_99  (jX9_least_165   ) v1 v2 v4 FU v3 (0 : Int32) z
def lX9_least_56  (k93 : Int32 → fS → Option (Int32 × fS)) (v1 : Int32) (v2 : Int32) (v3 : Int32) : Nat → Int32 → Int32 → fS → Option (Int32 × fS)
  | 0, _, _, _ => none
  | N + 1, v4, v5, z =>
    if (z 0 9) ≤ v5 then
      k93 v4 z
    else
      gd (inb v5 101) <|
      if (rd z 8 v5) = 0 then
        bnd (v5 + (1 : Int32)) fun x87 =>
        (lX9_least_56  k93 v1 v2 v3 N) v4 x87 z
      else
        gd (inb v4 100) <|
        bnd (wr z 22 v4 v5) fun z83 =>
        bnd (v4 + (1 : Int32)) fun x84 =>
        bnd (v5 + (1 : Int32)) fun x87 =>
        (lX9_least_56  k93 v1 v2 v3 N) x84 x87 z83
def fX9_least (z : fS) (v1 : Int32) (v2 : Int32) (v3 : Int32) : Option (Int32 × fS) :=
  bp (fX9_isTerm z v1) fun r2 =>
  if r2 = 0 then
    bd (fX9_refuse z (1 : Int32)) fun r30 z30 =>
    some (r30, z30)
  else
    bp (fX9_isTerm z v2) fun r10 =>
    if r10 = 0 then
      bd (fX9_refuse z (1 : Int32)) fun r30 z30 =>
      some (r30, z30)
    else
      if v3 < (1 : Int32) then
        bd (fX9_refuse z (1 : Int32)) fun r30 z30 =>
        some (r30, z30)
      else
        if v3 ≤ (500 : Int32) then
          bd (fX9_areOne z v1 v2) fun r37 z37 =>
          if r37 = 0 then
            bd (fX9_refuse z37 (6 : Int32)) fun r46 z46 =>
            some (r46, z46)
          else
            lX9_least_56  (jX9_least_93   v1 v2 v3) v1 v2 v3 FU (0 : Int32) (0 : Int32) z37
        else
          bd (fX9_refuse z (1 : Int32)) fun r30 z30 =>
          some (r30, z30)
def fX9_because (z : fS) (v1 : Int32) : Option Int32 :=
  if v1 < 0 then
    some (-1 : Int32)
  else
    if (z 0 24) ≤ v1 then
      some (-1 : Int32)
    else
      gd (inb v1 100) <|
      some (rd z 18 v1)
def fX9_head (z : fS) (v1 : Int32) : Option (Int32 × fS) :=
  bp (fX9_isTerm z v1) fun r2 =>
  if r2 = 0 then
    some ((-1 : Int32), z)
  else
    bp (fX9_court z) fun z11 =>
    gd (inb v1 120) <|
    some ((rd z11 20 v1), z11)
def lX9_member_19   (z : fS) (v1 : Int32) : Nat → Int32 → Int32 → Option (Int32 × fS)
  | 0, _, _ => none
  | N + 1, v3, v4 =>
    if (z 0 4) ≤ v4 then
      some ((-1 : Int32), z)
    else
      gd (inb v4 120) <|
      gd (inb v1 120) <|
      if (rd z 20 v4) = (rd z 20 v1) then
        if v3 = 0 then
          some (v4, z)
        else
          bnd (v3 + (-1 : Int32)) fun x51 =>
          bnd (v4 + (1 : Int32)) fun x54 =>
          (lX9_member_19   z v1 N) x51 x54
      else
        bnd (v4 + (1 : Int32)) fun x54 =>
        (lX9_member_19   z v1 N) v3 x54
def fX9_member (z : fS) (v1 : Int32) (v2 : Int32) : Option (Int32 × fS) :=
  bp (fX9_isTerm z v1) fun r2 =>
  if r2 = 0 then
    some ((-1 : Int32), z)
  else
    bp (fX9_court z) fun z11 =>
    lX9_member_19   z11 v1 FU v2 (0 : Int32)
def lX9_usesOne_5   (z : fS) (v1 : Int32) (v2 : Int32) : Nat → Int32 → Int32 → Option Int32
  | 0, _, _ => none
  | N + 1, v3, v4 =>
    gd (inb v1 120) <|
    if (rd z 3 v1) ≤ v4 then
      gd (isb v3) <|
      some v3
    else
      if v3 = 0 then
        gd (inb (((3 : Int32) * v1) + v4) 360) <|
        gd (inb (rd z 4 (((3 : Int32) * v1) + v4)) 120) <|
        gd (inb v2 120) <|
        if (rd z 20 (rd z 4 (((3 : Int32) * v1) + v4))) = (rd z 20 v2) then
          bnd (v4 + (1 : Int32)) fun x51 =>
          (lX9_usesOne_5   z v1 v2 N) (1 : Int32) x51
        else
          bnd (v4 + (1 : Int32)) fun x51 =>
          (lX9_usesOne_5   z v1 v2 N) (0 : Int32) x51
      else
        bnd (v4 + (1 : Int32)) fun x51 =>
        (lX9_usesOne_5   z v1 v2 N) (1 : Int32) x51
def fX9_usesOne (z : fS) (v1 : Int32) (v2 : Int32) : Option Int32 :=
  lX9_usesOne_5   z v1 v2 FU (0 : Int32) (0 : Int32)
def lX9_uses_19   (z : fS) (v1 : Int32) : Nat → Int32 → Int32 → Option (Int32 × fS)
  | 0, _, _ => none
  | N + 1, v3, v4 =>
    if (z 0 4) ≤ v4 then
      some ((-1 : Int32), z)
    else
      bp (fX9_usesOne z v4 v1) fun r32 =>
      if r32 = 0 then
        bnd (v4 + (1 : Int32)) fun x48 =>
        (lX9_uses_19   z v1 N) v3 x48
      else
        if v3 = 0 then
          some (v4, z)
        else
          bnd (v3 + (-1 : Int32)) fun x45 =>
          bnd (v4 + (1 : Int32)) fun x48 =>
          (lX9_uses_19   z v1 N) x45 x48
def fX9_uses (z : fS) (v1 : Int32) (v2 : Int32) : Option (Int32 × fS) :=
  bp (fX9_isTerm z v1) fun r2 =>
  if r2 = 0 then
    some ((-1 : Int32), z)
  else
    bp (fX9_court z) fun z11 =>
    lX9_uses_19   z11 v1 FU v2 (0 : Int32)
def lX9_isNumber_4   (z : fS) (v1 : Int32) : Nat → Int32 → Int32 → Option Int32
  | 0, _, _ => none
  | N + 1, v2, v3 =>
    if (z 0 4) ≤ v3 then
      gd (isb v2) <|
      some v2
    else
      if v2 = 0 then
        gd (inb v3 120) <|
        if (rd z 1 v3) = (1 : Int32) then
          gd (inb v3 120) <|
          if (rd z 2 v3) = v1 then
            bnd (v3 + (1 : Int32)) fun x42 =>
            (lX9_isNumber_4   z v1 N) (1 : Int32) x42
          else
            bnd (v3 + (1 : Int32)) fun x42 =>
            (lX9_isNumber_4   z v1 N) (0 : Int32) x42
        else
          bnd (v3 + (1 : Int32)) fun x42 =>
          (lX9_isNumber_4   z v1 N) (0 : Int32) x42
      else
        bnd (v3 + (1 : Int32)) fun x42 =>
        (lX9_isNumber_4   z v1 N) (1 : Int32) x42
def fX9_isNumber (z : fS) (v1 : Int32) : Option Int32 :=
  lX9_isNumber_4   z v1 FU (0 : Int32) (0 : Int32)
def lX9_numberOf_4   (z : fS) (v1 : Int32) : Nat → Int32 → Int32 → Option Int32
  | 0, _, _ => none
  | N + 1, v2, v3 =>
    if (z 0 4) ≤ v3 then
      some v2
    else
      gd (inb v3 120) <|
      if (rd z 20 v3) = v1 then
        gd (inb v3 120) <|
        if (rd z 1 v3) = (1 : Int32) then
          bnd (v3 + (1 : Int32)) fun x38 =>
          (lX9_numberOf_4   z v1 N) v3 x38
        else
          bnd (v3 + (1 : Int32)) fun x38 =>
          (lX9_numberOf_4   z v1 N) v2 x38
      else
        bnd (v3 + (1 : Int32)) fun x38 =>
        (lX9_numberOf_4   z v1 N) v2 x38
def fX9_numberOf (z : fS) (v1 : Int32) : Option Int32 :=
  lX9_numberOf_4   z v1 FU (-1 : Int32) (0 : Int32)
def jX9_world_106  (rc : Int32 → Int32 → Option (Int64 × fS)) (v3 : Int32) (v4 : Int32) (z : fS) : Option (Int64 × fS) :=
  bp (fX9_isNumber z v4) fun r110 =>
  if r110 = 0 then
    bnd (v3 - (1 : Int32)) fun x122 =>
    bnd (v4 + (1 : Int32)) fun x123 =>
    rc x122 x123
  else
    bnd (v3 - (0 : Int32)) fun x122 =>
    bnd (v4 + (1 : Int32)) fun x123 =>
    rc x122 x123
def lX9_world_93   (z : fS) : Nat → Int32 → Int32 → Option (Int64 × fS)
  | 0, _, _ => none
  | N + 1, v3, v4 =>
    if 0 < v3 then
      jX9_world_106  (lX9_world_93   z N) v3 v4 z
    else
      bp (fX9_isNumber z v4) fun r100 =>
      if r100 = 0 then
        some (v4.toInt64, z)
      else
        jX9_world_106  (lX9_world_93   z N) v3 v4 z
def jX9_world_90   (z : fS) (v3 : Int32) : Option (Int64 × fS) :=
  lX9_world_93   z FU v3 (0 : Int32)
def lX9_world_44  (k90 : Int32 → Option (Int64 × fS)) (z : fS) (v1 : Int32) : Nat → Int32 → Int32 → Option (Int64 × fS)
  | 0, _, _ => none
  | N + 1, v3, v4 =>
    gd (inb v1 120) <|
    if (rd z 20 v1) ≤ v4 then
      k90 v3
    else
      gd (inb v4 120) <|
      if (rd z 20 v4) = v4 then
        bp (fX9_numberOf z v4) fun r71 =>
        if 0 ≤ r71 then
          bnd (v3 + (0 : Int32)) fun x83 =>
          bnd (v4 + (1 : Int32)) fun x84 =>
          (lX9_world_44  k90 z v1 N) x83 x84
        else
          bnd (v3 + (1 : Int32)) fun x83 =>
          bnd (v4 + (1 : Int32)) fun x84 =>
          (lX9_world_44  k90 z v1 N) x83 x84
      else
        bnd (v3 + (0 : Int32)) fun x83 =>
        bnd (v4 + (1 : Int32)) fun x84 =>
        (lX9_world_44  k90 z v1 N) x83 x84
def fX9_world (z : fS) (v1 : Int32) : Option (Int64 × fS) :=
  bp (fX9_isTerm z v1) fun r2 =>
  if r2 = 0 then
    some ((1099511627776 : Int64), z)
  else
    bp (fX9_court z) fun z13 =>
    gd (inb v1 120) <|
    bp (fX9_numberOf z13 (rd z13 20 v1)) fun r23 =>
    if r23 < 0 then
      lX9_world_44  (jX9_world_90   z13) z13 v1 FU (0 : Int32) (0 : Int32)
    else
      gd (inb r23 120) <|
      some ((rd z13 2 r23).toInt64, z13)
def lX9_push_17    : Nat → Int32 → fS → Option (Int32 × fS)
  | 0, _, _ => none
  | N + 1, v1, z =>
    if (100 : Int32) ≤ v1 then
      bnd (wf z 0 11 ((z 0 11) + (1 : Int32))) fun z72 =>
      bd (fX9_done z72 (z72 0 11)) fun r80 z80 =>
      some (r80, z80)
    else
      if (z 0 9) ≤ v1 then
        gd (inb (((100 : Int32) * (z 0 11)) + v1) 1000) <|
        bnd (wr z 9 (((100 : Int32) * (z 0 11)) + v1) (zb (0 : Int32))) fun z58 =>
        bnd (v1 + (1 : Int32)) fun x59 =>
        (lX9_push_17    N) x59 z58
      else
        gd (inb v1 101) <|
        if (rd z 8 v1) = 0 then
          gd (inb (((100 : Int32) * (z 0 11)) + v1) 1000) <|
          bnd (wr z 9 (((100 : Int32) * (z 0 11)) + v1) (zb (0 : Int32))) fun z58 =>
          bnd (v1 + (1 : Int32)) fun x59 =>
          (lX9_push_17    N) x59 z58
        else
          gd (inb (((100 : Int32) * (z 0 11)) + v1) 1000) <|
          bnd (wr z 9 (((100 : Int32) * (z 0 11)) + v1) (zb (1 : Int32))) fun z58 =>
          bnd (v1 + (1 : Int32)) fun x59 =>
          (lX9_push_17    N) x59 z58
def fX9_push (z : fS) : Option (Int32 × fS) :=
  if (z 0 11) = (10 : Int32) then
    bd (fX9_refuse z (3 : Int32)) fun r11 z11 =>
    some (r11, z11)
  else
    lX9_push_17    FU (0 : Int32) z
def lX9_pop_26    : Nat → Int32 → fS → Option (Int32 × fS)
  | 0, _, _ => none
  | N + 1, v1, z =>
    if (z 0 9) ≤ v1 then
      bnd (wf z 0 30 (0 : Int32)) fun z62 =>
      bp (fX9_taken z62) fun r67 =>
      bd (fX9_done z62 r67) fun r70 z70 =>
      some (r70, z70)
    else
      gd (inb (((100 : Int32) * (z 0 11)) + v1) 1000) <|
      gd (inb v1 101) <|
      bnd (wr z 8 v1 (zb (rd z 9 (((100 : Int32) * (z 0 11)) + v1)))) fun z53 =>
      bnd (v1 + (1 : Int32)) fun x54 =>
      (lX9_pop_26    N) x54 z53
def fX9_pop (z : fS) : Option (Int32 × fS) :=
  if (z 0 11) = 0 then
    bd (fX9_refuse z (9 : Int32)) fun r10 z10 =>
    some (r10, z10)
  else
    bnd (wf z 0 11 ((z 0 11) - (1 : Int32))) fun z21 =>
    lX9_pop_26    FU (0 : Int32) z21
def fX9_law (z : fS) (v1 : Int32) (v2 : Int32) : Option (Int32 × fS) :=
  bp (fX9_isTerm z v1) fun r2 =>
  if r2 = 0 then
    bd (fX9_refuse z (1 : Int32)) fun r18 z18 =>
    some (r18, z18)
  else
    bp (fX9_isTerm z v2) fun r10 =>
    if r10 = 0 then
      bd (fX9_refuse z (1 : Int32)) fun r18 z18 =>
      some (r18, z18)
    else
      if (z 0 14) = (10 : Int32) then
        bd (fX9_refuse z (3 : Int32)) fun r33 z33 =>
        some (r33, z33)
      else
        gd (inb (z 0 14) 10) <|
        bnd (wr z 10 (z 0 14) v1) fun z46 =>
        gd (inb (z46 0 14) 10) <|
        bnd (wr z46 11 (z46 0 14) v2) fun z56 =>
        bnd (wf z56 0 14 ((z56 0 14) + (1 : Int32))) fun z64 =>
        bd (fX9_done z64 ((z64 0 14) - (1 : Int32))) fun r74 z74 =>
        some (r74, z74)
def fX9_isHole (z : fS) (v1 : Int32) : Option Int32 :=
  gd (inb v1 120) <|
  if (rd z 1 v1) = 0 then
    gd (inb v1 120) <|
    if (rd z 2 v1) < (90 : Int32) then
      some (0 : Int32)
    else
      gd (inb v1 120) <|
      if (93 : Int32) ≤ (rd z 2 v1) then
        some (0 : Int32)
      else
        some (1 : Int32)
  else
    some (0 : Int32)
def jX9_rebuilt_126   (v1 : Int32) (z : fS) : Option (Int32 × fS) :=
  gd (inb v1 120) <|
  gd (inb v1 120) <|
  gd (inb v1 120) <|
  bd (fX9_made z (rd z 1 v1) (rd z 2 v1) (rd z 3 v1)) fun r145 z145 =>
  some (r145, z145)
def lX9_rebuilt_89  (k126 : fS → Option (Int32 × fS)) (v1 : Int32) : Nat → Int32 → fS → Option (Int32 × fS)
  | 0, _, _ => none
  | N + 1, v3, z =>
    gd (inb v1 120) <|
    if (rd z 3 v1) ≤ v3 then
      k126 z
    else
      gd (inb (((3 : Int32) * v1) + v3) 360) <|
      gd (inb (rd z 4 (((3 : Int32) * v1) + v3)) 120) <|
      gd (inb v3 3) <|
      bnd (wr z 19 v3 (rd z 25 (rd z 4 (((3 : Int32) * v1) + v3)))) fun z119 =>
      bnd (v3 + (1 : Int32)) fun x120 =>
      (lX9_rebuilt_89  k126 v1 N) x120 z119
def jX9_rebuilt_81   (z : fS) (v1 : Int32) (v2 : Int32) : Option (Int32 × fS) :=
  if v2 = 0 then
    some (v1, z)
  else
    lX9_rebuilt_89  (jX9_rebuilt_126   v1) v1 FU (0 : Int32) z
def lX9_rebuilt_27  (k81 : Int32 → Option (Int32 × fS)) (z : fS) (v1 : Int32) : Nat → Int32 → Int32 → Option (Int32 × fS)
  | 0, _, _ => none
  | N + 1, v2, v3 =>
    gd (inb v1 120) <|
    if (rd z 3 v1) ≤ v3 then
      k81 v2
    else
      if v2 = 0 then
        gd (inb (((3 : Int32) * v1) + v3) 360) <|
        gd (inb (rd z 4 (((3 : Int32) * v1) + v3)) 120) <|
        gd (inb (((3 : Int32) * v1) + v3) 360) <|
        if (rd z 25 (rd z 4 (((3 : Int32) * v1) + v3))) = (rd z 4 (((3 : Int32) * v1) + v3)) then
          bnd (v3 + (1 : Int32)) fun x75 =>
          (lX9_rebuilt_27  k81 z v1 N) (0 : Int32) x75
        else
          bnd (v3 + (1 : Int32)) fun x75 =>
          (lX9_rebuilt_27  k81 z v1 N) (1 : Int32) x75
      else
        bnd (v3 + (1 : Int32)) fun x75 =>
        (lX9_rebuilt_27  k81 z v1 N) (1 : Int32) x75
def fX9_rebuilt (z : fS) (v1 : Int32) : Option (Int32 × fS) :=
  bp (fX9_isHole z v1) fun r2 =>
  if r2 = 0 then
    lX9_rebuilt_27  (jX9_rebuilt_81   z v1) z v1 FU (0 : Int32) (0 : Int32)
  else
    gd (inb v1 120) <|
    gd (inb ((rd z 2 v1) - (90 : Int32)) 3) <|
    some ((rd z 24 ((rd z 2 v1) - (90 : Int32))), z)
def lX9_instanceOf_42   (v1 : Int32) (v2 : Int32) : Nat → Int32 → fS → Option (Int32 × fS)
  | 0, _, _ => none
  | N + 1, v3, z =>
    if v3 ≤ 0 then
      gd (inb v1 120) <|
      some ((rd z 25 v1), z)
    else
      gd (inb (v3 - (1 : Int32)) 121) <|
      bnd (rd z 26 (v3 - (1 : Int32))) fun x54 =>
      gd (inb (v3 - (1 : Int32)) 121) <|
      bnd (rd z 27 (v3 - (1 : Int32))) fun x64 =>
      gd (inb x54 120) <|
      if (rd z 25 x54) < 0 then
        gd (inb x54 120) <|
        if (rd z 3 x54) ≤ x64 then
          bd (fX9_rebuilt z x54) fun r146 z146 =>
          gd (inb x54 120) <|
          bnd (wr z146 25 x54 r146) fun z149 =>
          gd (inb x54 120) <|
          if 0 ≤ (rd z149 25 x54) then
            bnd (v3 + (-1 : Int32)) fun x172 =>
            (lX9_instanceOf_42   v1 v2 N) x172 z149
          else
            bnd (wf z149 0 4 v2) fun z162 =>
            bnd (wf z162 0 30 (0 : Int32)) fun z167 =>
            some ((-1 : Int32), z167)
        else
          gd (inb (v3 - (1 : Int32)) 121) <|
          gd (inb (v3 - (1 : Int32)) 121) <|
          bnd (wr z 27 (v3 - (1 : Int32)) ((rd z 27 (v3 - (1 : Int32))) + (1 : Int32))) fun z105 =>
          gd (inb (((3 : Int32) * x54) + x64) 360) <|
          gd (inb v3 121) <|
          bnd (wr z105 26 v3 (rd z105 4 (((3 : Int32) * x54) + x64))) fun z123 =>
          gd (inb v3 121) <|
          bnd (wr z123 27 v3 (0 : Int32)) fun z130 =>
          bnd (v3 + (1 : Int32)) fun x131 =>
          (lX9_instanceOf_42   v1 v2 N) x131 z130
      else
        bnd (v3 + (-1 : Int32)) fun x76 =>
        (lX9_instanceOf_42   v1 v2 N) x76 z
def jX9_instanceOf_26   (v1 : Int32) (v2 : Int32) (z : fS) : Option (Int32 × fS) :=
  gd (inb (0 : Int32) 121) <|
  bnd (wr z 26 (0 : Int32) v1) fun z32 =>
  gd (inb (0 : Int32) 121) <|
  bnd (wr z32 27 (0 : Int32) (0 : Int32)) fun z39 =>
  lX9_instanceOf_42   v1 v2 FU (1 : Int32) z39
def lX9_instanceOf_7  (k26 : fS → Option (Int32 × fS)) (v1 : Int32) (v2 : Int32) : Nat → Int32 → fS → Option (Int32 × fS)
  | 0, _, _ => none
  | N + 1, v3, z =>
    if (120 : Int32) ≤ v3 then
      k26 z
    else
      gd (inb v3 120) <|
      bnd (wr z 25 v3 (-1 : Int32)) fun z19 =>
      bnd (v3 + (1 : Int32)) fun x20 =>
      (lX9_instanceOf_7  k26 v1 v2 N) x20 z19
def fX9_instanceOf (z : fS) (v1 : Int32) : Option (Int32 × fS) :=
  bnd (z 0 4) fun x4 =>
  lX9_instanceOf_7  (jX9_instanceOf_26   v1 x4) v1 x4 FU (0 : Int32) z
def fX9_instance (z : fS) (v1 : Int32) (v2 : Int32) (v3 : Int32) (v4 : Int32) : Option (Int32 × fS) :=
  bp (fX9_isTerm z v1) fun r2 =>
  if r2 = 0 then
    bd (fX9_refuse z (1 : Int32)) fun r35 z35 =>
    some (r35, z35)
  else
    bp (fX9_isTerm z v2) fun r10 =>
    if r10 = 0 then
      bd (fX9_refuse z (1 : Int32)) fun r35 z35 =>
      some (r35, z35)
    else
      bp (fX9_isTerm z v3) fun r18 =>
      if r18 = 0 then
        bd (fX9_refuse z (1 : Int32)) fun r35 z35 =>
        some (r35, z35)
      else
        bp (fX9_isTerm z v4) fun r27 =>
        if r27 = 0 then
          bd (fX9_refuse z (1 : Int32)) fun r35 z35 =>
          some (r35, z35)
        else
          gd (inb (0 : Int32) 3) <|
          bnd (wr z 24 (0 : Int32) v2) fun z45 =>
          gd (inb (1 : Int32) 3) <|
          bnd (wr z45 24 (1 : Int32) v3) fun z52 =>
          gd (inb (2 : Int32) 3) <|
          bnd (wr z52 24 (2 : Int32) v4) fun z60 =>
          bd (fX9_instanceOf z60 v1) fun r64 z64 =>
          bd (fX9_answer z64 r64) fun r67 z67 =>
          some (r67, z67)
def jX9_lookForHoles_104  (rc : Int32 → fS → Option fS) (v2 : Int32) (z : fS) : Option fS :=
  bnd (v2 + (-1 : Int32)) fun x104 =>
  rc x104 z
def lX9_lookForHoles_72  (k104 : fS → Option fS) (v2 : Int32) : Nat → Int32 → fS → Option fS
  | 0, _, _ => none
  | N + 1, v3, z =>
    gd (inb v2 120) <|
    if (rd z 3 v2) ≤ v3 then
      k104 z
    else
      gd (inb (((3 : Int32) * v2) + v3) 360) <|
      gd (inb (rd z 4 (((3 : Int32) * v2) + v3)) 120) <|
      bnd (wr z 29 (rd z 4 (((3 : Int32) * v2) + v3)) (zb (1 : Int32))) fun z97 =>
      bnd (v3 + (1 : Int32)) fun x98 =>
      (lX9_lookForHoles_72  k104 v2 N) x98 z97
def jX9_lookForHoles_70  (rc : Int32 → fS → Option fS) (v2 : Int32) (z : fS) : Option fS :=
  lX9_lookForHoles_72  (jX9_lookForHoles_104  rc v2) v2 FU (0 : Int32) z
def lX9_lookForHoles_34    : Nat → Int32 → fS → Option fS
  | 0, _, _ => none
  | N + 1, v2, z =>
    if v2 < 0 then
      some z
    else
      gd (inb v2 120) <|
      if (rd z 29 v2) = 0 then
        jX9_lookForHoles_104  (lX9_lookForHoles_34    N) v2 z
      else
        bp (fX9_isHole z v2) fun r49 =>
        if r49 = 0 then
          jX9_lookForHoles_70  (lX9_lookForHoles_34    N) v2 z
        else
          gd (inb v2 120) <|
          gd (inb ((rd z 2 v2) - (90 : Int32)) 3) <|
          bnd (wr z 28 ((rd z 2 v2) - (90 : Int32)) (zb (1 : Int32))) fun z69 =>
          jX9_lookForHoles_70  (lX9_lookForHoles_34    N) v2 z69
def jX9_lookForHoles_32   (v1 : Int32) (z : fS) : Option fS :=
  lX9_lookForHoles_34    FU v1 z
def lX9_lookForHoles_2  (k32 : fS → Option fS) (v1 : Int32) : Nat → Int32 → fS → Option fS
  | 0, _, _ => none
  | N + 1, v2, z =>
    if (z 0 4) ≤ v2 then
      k32 z
    else
      if v2 = v1 then
        gd (inb v2 120) <|
        bnd (wr z 29 v2 (zb (1 : Int32))) fun z25 =>
        bnd (v2 + (1 : Int32)) fun x26 =>
        (lX9_lookForHoles_2  k32 v1 N) x26 z25
      else
        gd (inb v2 120) <|
        bnd (wr z 29 v2 (zb (0 : Int32))) fun z25 =>
        bnd (v2 + (1 : Int32)) fun x26 =>
        (lX9_lookForHoles_2  k32 v1 N) x26 z25
def fX9_lookForHoles (z : fS) (v1 : Int32) : Option fS :=
  lX9_lookForHoles_2  (jX9_lookForHoles_32   v1) v1 FU (0 : Int32) z
def lX9_findHeads_11    : Nat → Int32 → fS → Option fS
  | 0, _, _ => none
  | N + 1, v1, z =>
    if (z 0 4) ≤ v1 then
      some z
    else
      gd (inb v1 120) <|
      if (rd z 20 v1) = v1 then
        bp (fX9_isHole z v1) fun r31 =>
        if r31 = 0 then
          gd (inb (z 0 40) 120) <|
          bnd (wr z 30 (z 0 40) v1) fun z46 =>
          bnd (wf z46 0 40 ((z46 0 40) + (1 : Int32))) fun z54 =>
          bnd (v1 + (1 : Int32)) fun x57 =>
          (lX9_findHeads_11    N) x57 z54
        else
          bnd (v1 + (1 : Int32)) fun x57 =>
          (lX9_findHeads_11    N) x57 z
      else
        bnd (v1 + (1 : Int32)) fun x57 =>
        (lX9_findHeads_11    N) x57 z
def fX9_findHeads (z : fS) : Option fS :=
  bp (fX9_court z) fun z1 =>
  bnd (wf z1 0 40 (0 : Int32)) fun z6 =>
  lX9_findHeads_11    FU (0 : Int32) z6
def jX9_goOn_29   (v2 : Int32) (v3 : Int32) (y0 : Int32) (z : fS) : Option (Int32 × fS) :=
  if v3 < 0 then
    some ((2 : Int32), z)
  else
    if 0 ≤ y0 then
      bd (fX9_areOne z v3 y0) fun r46 z46 =>
      if r46 = 0 then
        if (z46 0 9) = (100 : Int32) then
          some ((3 : Int32), z46)
        else
          bd (fX9_wouldClash z46 v3 y0 (1 : Int32)) fun r70 z70 =>
          if r70 = 0 then
            bd (fX9_take z70 v3 y0 (1 : Int32)) fun r83 z83 =>
            bnd (wf z83 0 41 ((z83 0 41) + (1 : Int32))) fun z95 =>
            if (z95 0 41) = v2 then
              some ((1 : Int32), z95)
            else
              some ((0 : Int32), z95)
          else
            some ((4 : Int32), z70)
      else
        some ((0 : Int32), z46)
    else
      some ((2 : Int32), z)
def fX9_goOn (z : fS) (v1 : Int32) (v2 : Int32) : Option (Int32 × fS) :=
  gd (inb v1 10) <|
  bd (fX9_instanceOf z (rd z 10 v1)) fun r7 z7 =>
  if 0 ≤ r7 then
    gd (inb v1 10) <|
    bd (fX9_instanceOf z7 (rd z7 11 v1)) fun r26 z26 =>
    jX9_goOn_29   v2 r7 r26 z26
  else
    jX9_goOn_29   v2 r7 (-1 : Int32) z7
def jX9_followAll_152  (rc : Int32 → fS → Option (Int32 × fS)) (v1 : Int32) (v2 : Int32) (v3 : Int32) (v4 : Int32) (v5 : Int32) (v6 : Int32) (z : fS) : Option (Int32 × fS) :=
  bnd (v6 + (1 : Int32)) fun x152 =>
  rc x152 z
def jX9_followAll_146  (rc : Int32 → fS → Option (Int32 × fS)) (k152 : fS → Option (Int32 × fS)) (v1 : Int32) (v2 : Int32) (v3 : Int32) (v4 : Int32) (v5 : Int32) (v6 : Int32) (v7 : Int32) (z : fS) : Option (Int32 × fS) :=
  bnd (v7 + (1 : Int32)) fun x146 =>
  rc x146 z
def lX9_followAll_78  (k146 : fS → Option (Int32 × fS)) (v1 : Int32) (v2 : Int32) (v3 : Int32) (v4 : Int32) (v5 : Int32) (v6 : Int32) (v7 : Int32) : Nat → Int32 → fS → Option (Int32 × fS)
  | 0, _, _ => none
  | N + 1, v8, z =>
    if v5 ≤ v8 then
      k146 z
    else
      gd (inb v6 120) <|
      gd (inb (0 : Int32) 3) <|
      bnd (wr z 24 (0 : Int32) (rd z 30 v6)) fun z97 =>
      gd (inb v7 120) <|
      gd (inb (1 : Int32) 3) <|
      bnd (wr z97 24 (1 : Int32) (rd z97 30 v7)) fun z110 =>
      gd (inb v8 120) <|
      gd (inb (2 : Int32) 3) <|
      bnd (wr z110 24 (2 : Int32) (rd z110 30 v8)) fun z123 =>
      bd (fX9_goOn z123 v1 v2) fun r127 z127 =>
      if r127 = 0 then
        bnd (v8 + (1 : Int32)) fun x140 =>
        (lX9_followAll_78  k146 v1 v2 v3 v4 v5 v6 v7 N) x140 z127
      else
        some (r127, z127)
def lX9_followAll_68  (k152 : fS → Option (Int32 × fS)) (v1 : Int32) (v2 : Int32) (v3 : Int32) (v4 : Int32) (v5 : Int32) (v6 : Int32) : Nat → Int32 → fS → Option (Int32 × fS)
  | 0, _, _ => none
  | N + 1, v7, z =>
    if v4 ≤ v7 then
      k152 z
    else
      lX9_followAll_78  (jX9_followAll_146  (lX9_followAll_68  k152 v1 v2 v3 v4 v5 v6 N) k152 v1 v2 v3 v4 v5 v6 v7) v1 v2 v3 v4 v5 v6 v7 FU (0 : Int32) z
def lX9_followAll_59   (v1 : Int32) (v2 : Int32) (v3 : Int32) (v4 : Int32) (v5 : Int32) : Nat → Int32 → fS → Option (Int32 × fS)
  | 0, _, _ => none
  | N + 1, v6, z =>
    if v3 ≤ v6 then
      some ((0 : Int32), z)
    else
      lX9_followAll_68  (jX9_followAll_152  (lX9_followAll_59   v1 v2 v3 v4 v5 N) v1 v2 v3 v4 v5 v6) v1 v2 v3 v4 v5 v6 FU (0 : Int32) z
def jX9_followAll_54   (v1 : Int32) (v2 : Int32) (v3 : Int32) (v4 : Int32) (y0 : Int32) (z : fS) : Option (Int32 × fS) :=
  lX9_followAll_59   v1 v2 v3 v4 y0 FU (0 : Int32) z
def jX9_followAll_35   (v1 : Int32) (v2 : Int32) (v3 : Int32) (y0 : Int32) (z : fS) : Option (Int32 × fS) :=
  gd (inb (2 : Int32) 3) <|
  if (rd z 28 (2 : Int32)) = 0 then
    jX9_followAll_54   v1 v2 v3 y0 (1 : Int32) z
  else
    jX9_followAll_54   v1 v2 v3 y0 (z 0 40) z
def jX9_followAll_17   (v1 : Int32) (v2 : Int32) (y0 : Int32) (z : fS) : Option (Int32 × fS) :=
  gd (inb (1 : Int32) 3) <|
  if (rd z 28 (1 : Int32)) = 0 then
    jX9_followAll_35   v1 v2 y0 (1 : Int32) z
  else
    jX9_followAll_35   v1 v2 y0 (z 0 40) z
def fX9_followAll (z : fS) (v1 : Int32) (v2 : Int32) : Option (Int32 × fS) :=
  gd (inb (0 : Int32) 3) <|
  if (rd z 28 (0 : Int32)) = 0 then
    jX9_followAll_17   v1 v2 (1 : Int32) z
  else
    jX9_followAll_17   v1 v2 (z 0 40) z
def jX9_follow_67   (v1 : Int32) (v2 : Int32) (z : fS) : Option (Int32 × fS) :=
  gd (inb v1 10) <|
  bp (fX9_lookForHoles z (rd z 10 v1)) fun z74 =>
  gd (inb v1 10) <|
  bp (fX9_lookForHoles z74 (rd z74 11 v1)) fun z84 =>
  bnd (wf z84 0 41 (0 : Int32)) fun z89 =>
  bd (fX9_followAll z89 v1 v2) fun r96 z96 =>
  bnd (wf z96 0 25 r96) fun z99 =>
  bd (fX9_done z99 (z99 0 41)) fun r107 z107 =>
  some (r107, z107)
def lX9_follow_49  (k67 : fS → Option (Int32 × fS)) (v1 : Int32) (v2 : Int32) : Nat → Int32 → fS → Option (Int32 × fS)
  | 0, _, _ => none
  | N + 1, v3, z =>
    if (3 : Int32) ≤ v3 then
      k67 z
    else
      gd (inb v3 3) <|
      bnd (wr z 28 v3 (zb (0 : Int32))) fun z60 =>
      bnd (v3 + (1 : Int32)) fun x61 =>
      (lX9_follow_49  k67 v1 v2 N) x61 z60
def fX9_follow (z : fS) (v1 : Int32) (v2 : Int32) : Option (Int32 × fS) :=
  if v1 < 0 then
    bd (fX9_refuse z (1 : Int32)) fun r25 z25 =>
    some (r25, z25)
  else
    if (z 0 14) ≤ v1 then
      bd (fX9_refuse z (1 : Int32)) fun r25 z25 =>
      some (r25, z25)
    else
      if v2 < (1 : Int32) then
        bd (fX9_refuse z (1 : Int32)) fun r25 z25 =>
        some (r25, z25)
      else
        if v2 ≤ (50 : Int32) then
          bp (fX9_findHeads z) fun z30 =>
          if (z30 0 40) = 0 then
            bd (fX9_refuse z30 (6 : Int32)) fun r43 z43 =>
            some (r43, z43)
          else
            lX9_follow_49  (jX9_follow_67   v1 v2) v1 v2 FU (0 : Int32) z30
        else
          bd (fX9_refuse z (1 : Int32)) fun r25 z25 =>
          some (r25, z25)
def fX9_ended (z : fS) : Option Int32 :=
  some (z 0 25)
def fX9_claim (z : fS) (v1 : Int32) (v2 : Int32) (v3 : Int32) (v4 : Int32) (v5 : Int32) : Option (Int32 × fS) :=
  bp (fX9_isTerm z v2) fun r2 =>
  if r2 = 0 then
    bd (fX9_refuse z (1 : Int32)) fun r18 z18 =>
    some (r18, z18)
  else
    bp (fX9_isTerm z v3) fun r10 =>
    if r10 = 0 then
      bd (fX9_refuse z (1 : Int32)) fun r18 z18 =>
      some (r18, z18)
    else
      if (z 0 20) = (100 : Int32) then
        bd (fX9_refuse z (3 : Int32)) fun r33 z33 =>
        some (r33, z33)
      else
        gd (inb (z 0 20) 100) <|
        bnd (wr z 12 (z 0 20) v1) fun z46 =>
        gd (inb (z46 0 20) 100) <|
        bnd (wr z46 13 (z46 0 20) v2) fun z56 =>
        gd (inb (z56 0 20) 100) <|
        bnd (wr z56 14 (z56 0 20) v3) fun z66 =>
        gd (inb (z66 0 20) 100) <|
        bnd (wr z66 15 (z66 0 20) v4) fun z77 =>
        gd (inb (z77 0 20) 100) <|
        bnd (wr z77 16 (z77 0 20) v5) fun z88 =>
        bnd (wf z88 0 20 ((z88 0 20) + (1 : Int32))) fun z96 =>
        bd (fX9_done z96 ((z96 0 20) - (1 : Int32))) fun r106 z106 =>
        some (r106, z106)
def fX9_unclaim (z : fS) : Option (Int32 × fS) :=
  bnd (z 0 20) fun x4 =>
  bnd (wf z 0 20 (0 : Int32)) fun z7 =>
  bd (fX9_done z7 x4) fun r12 z12 =>
  some (r12, z12)
def fX9_isStep (z : fS) (v1 : Int32) (v2 : Int32) : Option Int32 :=
  if v1 < 0 then
    some (0 : Int32)
  else
    if v2 ≤ v1 then
      some (0 : Int32)
    else
      some (1 : Int32)
def lX9_isKnown_15   (z : fS) (v1 : Int32) (v2 : Int32) (v3 : Int32) : Nat → Int32 → Int32 → Option Int32
  | 0, _, _ => none
  | N + 1, v4, v5 =>
    if v3 ≤ v5 then
      gd (isb v4) <|
      some v4
    else
      if v4 = 0 then
        gd (inb v5 100) <|
        if (rd z 13 v5) = v1 then
          gd (inb v5 100) <|
          if (rd z 14 v5) = v2 then
            bnd (v5 + (1 : Int32)) fun x55 =>
            (lX9_isKnown_15   z v1 v2 v3 N) (1 : Int32) x55
          else
            bnd (v5 + (1 : Int32)) fun x55 =>
            (lX9_isKnown_15   z v1 v2 v3 N) (0 : Int32) x55
        else
          bnd (v5 + (1 : Int32)) fun x55 =>
          (lX9_isKnown_15   z v1 v2 v3 N) (0 : Int32) x55
      else
        gd (isb v4) <|
        some v4
def jX9_isKnown_10   (z : fS) (v1 : Int32) (v2 : Int32) (v3 : Int32) (y0 : Int32) : Option Int32 :=
  lX9_isKnown_15   z v1 v2 v3 FU y0 (0 : Int32)
def fX9_isKnown (z : fS) (v1 : Int32) (v2 : Int32) (v3 : Int32) : Option Int32 :=
  if v1 = v2 then
    jX9_isKnown_10   z v1 v2 v3 (1 : Int32)
  else
    jX9_isKnown_10   z v1 v2 v3 (0 : Int32)
def lX9_isRightByParts_103   (z : fS) (v1 : Int32) (v2 : Int32) (v3 : Int32) (v4 : Int32) : Nat → Int32 → Int32 → Option Int32
  | 0, _, _ => none
  | N + 1, v5, v6 =>
    gd (inb v2 120) <|
    if (rd z 3 v2) ≤ v6 then
      gd (isb v5) <|
      some v5
    else
      if v5 = 0 then
        gd (isb v5) <|
        some v5
      else
        gd (inb (((3 : Int32) * v2) + v6) 360) <|
        if v4 = 0 then
          gd (inb (((3 : Int32) * v3) + v6) 360) <|
          bp (fX9_isKnown z (rd z 4 (((3 : Int32) * v2) + v6)) (rd z 4 (((3 : Int32) * v3) + v6)) v1) fun r155 =>
          bnd (v6 + (1 : Int32)) fun x160 =>
          (lX9_isRightByParts_103   z v1 v2 v3 v4 N) r155 x160
        else
          gd (inb (((3 : Int32) * v3) + ((1 : Int32) - v6)) 360) <|
          bp (fX9_isKnown z (rd z 4 (((3 : Int32) * v2) + v6)) (rd z 4 (((3 : Int32) * v3) + ((1 : Int32) - v6))) v1) fun r155 =>
          bnd (v6 + (1 : Int32)) fun x160 =>
          (lX9_isRightByParts_103   z v1 v2 v3 v4 N) r155 x160
def jX9_isRightByParts_95   (z : fS) (v1 : Int32) (v2 : Int32) (v3 : Int32) (y0 : Int32) : Option Int32 :=
  lX9_isRightByParts_103   z v1 v2 v3 y0 FU (1 : Int32) (0 : Int32)
def fX9_isRightByParts (z : fS) (v1 : Int32) : Option Int32 :=
  gd (inb v1 100) <|
  bnd (rd z 13 v1) fun x6 =>
  gd (inb v1 100) <|
  bnd (rd z 14 v1) fun x13 =>
  gd (inb x6 120) <|
  if (rd z 3 x6) = 0 then
    some (0 : Int32)
  else
    gd (inb x6 120) <|
    gd (inb x13 120) <|
    if (rd z 1 x6) = (rd z 1 x13) then
      gd (inb x6 120) <|
      gd (inb x13 120) <|
      if (rd z 2 x6) = (rd z 2 x13) then
        gd (inb x6 120) <|
        gd (inb x13 120) <|
        if (rd z 3 x6) = (rd z 3 x13) then
          gd (inb x6 120) <|
          if (rd z 1 x6) = (4 : Int32) then
            gd (inb v1 100) <|
            if (rd z 15 v1) = (1 : Int32) then
              jX9_isRightByParts_95   z v1 x6 x13 (1 : Int32)
            else
              jX9_isRightByParts_95   z v1 x6 x13 (0 : Int32)
          else
            jX9_isRightByParts_95   z v1 x6 x13 (0 : Int32)
        else
          some (0 : Int32)
      else
        some (0 : Int32)
    else
      some (0 : Int32)
def fX9_isOfRows (z : fS) (v1 : Int32) (v2 : Int32) (v3 : Int32) (v4 : Int32) : Option Int32 :=
  gd (inb v1 100) <|
  bnd (rd z 13 v1) fun x6 =>
  gd (inb v1 100) <|
  bnd (rd z 14 v1) fun x14 =>
  gd (inb x6 120) <|
  if (rd z 1 x6) = (3 : Int32) then
    gd (inb x14 120) <|
    if (rd z 1 x14) = (3 : Int32) then
      gd (inb (((3 : Int32) * x6) + v4) 360) <|
      if (rd z 4 (((3 : Int32) * x6) + v4)) = v2 then
        gd (inb (((3 : Int32) * x14) + v4) 360) <|
        if (rd z 4 (((3 : Int32) * x14) + v4)) = v3 then
          some (1 : Int32)
        else
          some (0 : Int32)
      else
        some (0 : Int32)
    else
      some (0 : Int32)
  else
    some (0 : Int32)
def jX9_isRight_136   (z : fS) (v2 : Int32) (v3 : Int32) (v4 : Int32) : Option Int32 :=
  gd (inb v4 101) <|
  if (rd z 5 v4) = v3 then
    gd (inb v4 101) <|
    if (rd z 6 v4) = v2 then
      some (1 : Int32)
    else
      some (0 : Int32)
  else
    some (0 : Int32)
def fX9_isRight (z : fS) (v1 : Int32) : Option Int32 :=
  gd (inb v1 100) <|
  bnd (rd z 13 v1) fun x6 =>
  gd (inb v1 100) <|
  bnd (rd z 14 v1) fun x13 =>
  gd (inb v1 100) <|
  bnd (rd z 15 v1) fun x20 =>
  gd (inb v1 100) <|
  bnd (rd z 16 v1) fun x28 =>
  gd (inb v1 100) <|
  if (rd z 12 v1) = (0 : Int32) then
    if x20 < 0 then
      some (0 : Int32)
    else
      if (z 0 9) ≤ x20 then
        some (0 : Int32)
      else
        gd (inb x20 101) <|
        if (rd z 8 x20) = 0 then
          some (0 : Int32)
        else
          gd (inb x20 101) <|
          if (rd z 7 x20) = 0 then
            some (0 : Int32)
          else
            gd (inb x20 101) <|
            if (rd z 5 x20) = x6 then
              gd (inb x20 101) <|
              if (rd z 6 x20) = x13 then
                some (1 : Int32)
              else
                jX9_isRight_136   z x6 x13 x20
            else
              jX9_isRight_136   z x6 x13 x20
  else if (rd z 12 v1) = (1 : Int32) then
    if x6 = x13 then
      some (1 : Int32)
    else
      some (0 : Int32)
  else if (rd z 12 v1) = (2 : Int32) then
    bp (fX9_isStep z x20 v1) fun r179 =>
    if r179 = 0 then
      some (0 : Int32)
    else
      gd (inb x20 100) <|
      if (rd z 13 x20) = x13 then
        gd (inb x20 100) <|
        if (rd z 14 x20) = x6 then
          some (1 : Int32)
        else
          some (0 : Int32)
      else
        some (0 : Int32)
  else if (rd z 12 v1) = (3 : Int32) then
    bp (fX9_isStep z x20 v1) fun r217 =>
    if r217 = 0 then
      some (0 : Int32)
    else
      bp (fX9_isStep z x28 v1) fun r227 =>
      if r227 = 0 then
        some (0 : Int32)
      else
        gd (inb x20 100) <|
        if (rd z 13 x20) = x6 then
          gd (inb x20 100) <|
          gd (inb x28 100) <|
          if (rd z 14 x20) = (rd z 13 x28) then
            gd (inb x28 100) <|
            if (rd z 14 x28) = x13 then
              some (1 : Int32)
            else
              some (0 : Int32)
          else
            some (0 : Int32)
        else
          some (0 : Int32)
  else if (rd z 12 v1) = (4 : Int32) then
    bp (fX9_isRightByParts z v1) fun r280 =>
    gd (isb r280) <|
    some r280
  else if (rd z 12 v1) = (5 : Int32) then
    bp (fX9_isStep z x20 v1) fun r288 =>
    if r288 = 0 then
      some (0 : Int32)
    else
      gd (inb v1 100) <|
      bp (fX9_isOfRows z x20 x6 x13 ((rd z 12 v1) - (5 : Int32))) fun r307 =>
      if r307 = 0 then
        some (0 : Int32)
      else
        some (1 : Int32)
  else if (rd z 12 v1) = (6 : Int32) then
    bp (fX9_isStep z x20 v1) fun r288 =>
    if r288 = 0 then
      some (0 : Int32)
    else
      gd (inb v1 100) <|
      bp (fX9_isOfRows z x20 x6 x13 ((rd z 12 v1) - (5 : Int32))) fun r307 =>
      if r307 = 0 then
        some (0 : Int32)
      else
        some (1 : Int32)
  else 
    some (0 : Int32)
def jX9_check_26   (z : fS) (v1 : Int32) (v2 : Int32) : Option Int32 :=
  if (z 0 20) ≤ 0 then
    some (z 0 20)
  else
    gd (inb ((z 0 20) - (1 : Int32)) 100) <|
    if (rd z 13 ((z 0 20) - (1 : Int32))) = v1 then
      gd (inb ((z 0 20) - (1 : Int32)) 100) <|
      if (rd z 14 ((z 0 20) - (1 : Int32))) = v2 then
        some (-1 : Int32)
      else
        some (z 0 20)
    else
      some (z 0 20)
def lX9_check_2  (k26 : Option Int32) (z : fS) (v1 : Int32) (v2 : Int32) : Nat → Int32 → Option Int32
  | 0, _ => none
  | N + 1, v3 =>
    if (z 0 20) ≤ v3 then
      k26 
    else
      bp (fX9_isRight z v3) fun r12 =>
      if r12 = 0 then
        some v3
      else
        bnd (v3 + (1 : Int32)) fun x20 =>
        (lX9_check_2  k26 z v1 v2 N) x20
def fX9_check (z : fS) (v1 : Int32) (v2 : Int32) : Option Int32 :=
  lX9_check_2  (jX9_check_26   z v1 v2) z v1 v2 FU (0 : Int32)
def fX9_status (z : fS) : Option Int32 :=
  some (z 0 26)
def zX0 : fS := fun k => if k = 7 then fillr (fun _ => 0) (-1) 128 else if k = 35 then fillr (fun _ => 0) (-1) 128 else if k = 45 then fillr (fun _ => 0) (-1) 128 else if k = 55 then fillr (fun _ => 0) (-1) 128 else if k = 0 then upd (fun _ => 0) 11 (-1) else if k = 17 then upd (fun _ => 0) 4 1 else fun _ => 0
def zM0 : fS := fun k => if k = 0 then upd (fun _ => 0) 25 (-1) else fun _ => 0
def st_name (Rel : Nat → fS → fS → Prop) : Prop := ∀ (i : Nat) (zX zM : fS) (a1 : Int32) , i < 512 → Rel i zX zM → ∃ (r : Int32) (tX : fS) (tM : fS), fX8_name zX a1 = some (r, tX) ∧ fX9_name zM a1 = some (r, tM) ∧ Rel (i + 1) tX tM
def st_number (Rel : Nat → fS → fS → Prop) : Prop := ∀ (i : Nat) (zX zM : fS) (a1 : Int32) , i < 512 → Rel i zX zM → ∃ (r : Int32) (tX : fS) (tM : fS), fX8_number zX a1 = some (r, tX) ∧ fX9_number zM a1 = some (r, tM) ∧ Rel (i + 1) tX tM
def st_built (Rel : Nat → fS → fS → Prop) : Prop := ∀ (i : Nat) (zX zM : fS) (a1 a2 a3 a4 a5 : Int32) , i < 512 → Rel i zX zM → ∃ (r : Int32) (tX : fS) (tM : fS), fX8_built zX a1 a2 a3 a4 a5 = some (r, tX) ∧ fX9_built zM a1 a2 a3 a4 a5 = some (r, tM) ∧ Rel (i + 1) tX tM
def st_row (Rel : Nat → fS → fS → Prop) : Prop := ∀ (i : Nat) (zX zM : fS) (a1 a2 : Int32) , i < 512 → Rel i zX zM → ∃ (r : Int32) (tX : fS) (tM : fS), fX8_row zX a1 a2 = some (r, tX) ∧ fX9_row zM a1 a2 = some (r, tM) ∧ Rel (i + 1) tX tM
def st_even (Rel : Nat → fS → fS → Prop) : Prop := ∀ (i : Nat) (zX zM : fS) (a1 a2 a3 : Int32) , i < 512 → Rel i zX zM → ∃ (r : Int32) (tX : fS) (tM : fS), fX8_even zX a1 a2 a3 = some (r, tX) ∧ fX9_even zM a1 a2 a3 = some (r, tM) ∧ Rel (i + 1) tX tM
def st_kind (Rel : Nat → fS → fS → Prop) : Prop := ∀ (i : Nat) (zX zM : fS) (a1 : Int32) , i < 512 → Rel i zX zM → ∃ (r : Int32), fX8_kind zX a1 = some r ∧ fX9_kind zM a1 = some r ∧ Rel (i + 1) zX zM
def st_part (Rel : Nat → fS → fS → Prop) : Prop := ∀ (i : Nat) (zX zM : fS) (a1 a2 : Int32) , i < 512 → Rel i zX zM → ∃ (r : Int32) (tX : fS) (tM : fS), fX8_part zX a1 a2 = some (r, tX) ∧ fX9_part zM a1 a2 = some (r, tM) ∧ Rel (i + 1) tX tM
def st_shows (Rel : Nat → fS → fS → Prop) : Prop := ∀ (i : Nat) (zX zM : fS) (a1 : Int32) , i < 512 → Rel i zX zM → ∃ (r : Int32) (tX : fS) (tM : fS), fX8_shows zX a1 = some (r, tX) ∧ fX9_shows zM a1 = some (r, tM) ∧ Rel (i + 1) tX tM
def st_many (Rel : Nat → fS → fS → Prop) : Prop := ∀ (i : Nat) (zX zM : fS) (a1 : Int32) , i < 512 → Rel i zX zM → ∃ (r : Int32) (tM : fS), fX8_many zX a1 = some r ∧ fX9_many zM a1 = some (r, tM) ∧ Rel (i + 1) zX tM
def st_say (Rel : Nat → fS → fS → Prop) : Prop := ∀ (i : Nat) (zX zM : fS) (a1 a2 : Int32) , i < 512 → Rel i zX zM → ∃ (r : Int32) (tX : fS) (tM : fS), fX8_say zX a1 a2 = some (r, tX) ∧ fX9_say zM a1 a2 = some (r, tM) ∧ Rel (i + 1) tX tM
def st_unlike (Rel : Nat → fS → fS → Prop) : Prop := ∀ (i : Nat) (zX zM : fS) (a1 a2 : Int32) , i < 512 → Rel i zX zM → ∃ (r : Int32) (tX : fS) (tM : fS), fX8_unlike zX a1 a2 = some (r, tX) ∧ fX9_unlike zM a1 a2 = some (r, tM) ∧ Rel (i + 1) tX tM
def st_drop (Rel : Nat → fS → fS → Prop) : Prop := ∀ (i : Nat) (zX zM : fS) (a1 : Int32) , i < 512 → Rel i zX zM → ∃ (r : Int32) (tX : fS) (tM : fS), fX8_drop zX a1 = some (r, tX) ∧ fX9_drop zM a1 = some (r, tM) ∧ Rel (i + 1) tX tM
def st_said (Rel : Nat → fS → fS → Prop) : Prop := ∀ (i : Nat) (zX zM : fS) (a1 a2 : Int32) , i < 512 → Rel i zX zM → ∃ (r : Int32), fX8_said zX a1 a2 = some r ∧ fX9_said zM a1 a2 = some r ∧ Rel (i + 1) zX zM
def st_clashed (Rel : Nat → fS → fS → Prop) : Prop := ∀ (i : Nat) (zX zM : fS) (a1 : Int32) , i < 512 → Rel i zX zM → ∃ (r : Int32), fX8_clashed zX a1 = some r ∧ fX9_clashed zM a1 = some r ∧ Rel (i + 1) zX zM
def st_judge (Rel : Nat → fS → fS → Prop) : Prop := ∀ (i : Nat) (zX zM : fS) (a1 a2 : Int32) , i < 512 → Rel i zX zM → ∃ (r : Int32) (tX : fS) (tM : fS), fX8_judge zX a1 a2 = some (r, tX) ∧ fX9_judge zM a1 a2 = some (r, tM) ∧ Rel (i + 1) tX tM
def st_why (Rel : Nat → fS → fS → Prop) : Prop := ∀ (i : Nat) (zX zM : fS) (a1 a2 : Int32) , i < 512 → Rel i zX zM → ∃ (r : Int32) (tX : fS) (tM : fS), fX8_why zX a1 a2 = some (r, tX) ∧ fX9_why zM a1 a2 = some (r, tM) ∧ Rel (i + 1) tX tM
def st_least (Rel : Nat → fS → fS → Prop) : Prop := ∀ (i : Nat) (zX zM : fS) (a1 a2 a3 : Int32) , i < 512 → Rel i zX zM → ∃ (r : Int32) (tX : fS) (tM : fS), fX8_least zX a1 a2 a3 = some (r, tX) ∧ fX9_least zM a1 a2 a3 = some (r, tM) ∧ Rel (i + 1) tX tM
def st_because (Rel : Nat → fS → fS → Prop) : Prop := ∀ (i : Nat) (zX zM : fS) (a1 : Int32) , i < 512 → Rel i zX zM → ∃ (r : Int32), fX8_because zX a1 = some r ∧ fX9_because zM a1 = some r ∧ Rel (i + 1) zX zM
def st_head (Rel : Nat → fS → fS → Prop) : Prop := ∀ (i : Nat) (zX zM : fS) (a1 : Int32) , i < 512 → Rel i zX zM → ∃ (r : Int32) (tM : fS), fX8_head zX a1 = some r ∧ fX9_head zM a1 = some (r, tM) ∧ Rel (i + 1) zX tM
def st_member (Rel : Nat → fS → fS → Prop) : Prop := ∀ (i : Nat) (zX zM : fS) (a1 a2 : Int32) , i < 512 → Rel i zX zM → ∃ (r : Int32) (tM : fS), fX8_member zX a1 a2 = some r ∧ fX9_member zM a1 a2 = some (r, tM) ∧ Rel (i + 1) zX tM
def st_uses (Rel : Nat → fS → fS → Prop) : Prop := ∀ (i : Nat) (zX zM : fS) (a1 a2 : Int32) , i < 512 → Rel i zX zM → ∃ (r : Int32) (tM : fS), fX8_uses zX a1 a2 = some r ∧ fX9_uses zM a1 a2 = some (r, tM) ∧ Rel (i + 1) zX tM
def st_world (Rel : Nat → fS → fS → Prop) : Prop := ∀ (i : Nat) (zX zM : fS) (a1 : Int32) , i < 512 → Rel i zX zM → ∃ (r : Int64) (tM : fS), fX8_world zX a1 = some r ∧ fX9_world zM a1 = some (r, tM) ∧ Rel (i + 1) zX tM
def st_push (Rel : Nat → fS → fS → Prop) : Prop := ∀ (i : Nat) (zX zM : fS) , i < 512 → Rel i zX zM → ∃ (r : Int32) (tX : fS) (tM : fS), fX8_push zX  = some (r, tX) ∧ fX9_push zM  = some (r, tM) ∧ Rel (i + 1) tX tM
def st_pop (Rel : Nat → fS → fS → Prop) : Prop := ∀ (i : Nat) (zX zM : fS) , i < 512 → Rel i zX zM → ∃ (r : Int32) (tX : fS) (tM : fS), fX8_pop zX  = some (r, tX) ∧ fX9_pop zM  = some (r, tM) ∧ Rel (i + 1) tX tM
def st_law (Rel : Nat → fS → fS → Prop) : Prop := ∀ (i : Nat) (zX zM : fS) (a1 a2 : Int32) , i < 512 → Rel i zX zM → ∃ (r : Int32) (tX : fS) (tM : fS), fX8_law zX a1 a2 = some (r, tX) ∧ fX9_law zM a1 a2 = some (r, tM) ∧ Rel (i + 1) tX tM
def st_instance (Rel : Nat → fS → fS → Prop) : Prop := ∀ (i : Nat) (zX zM : fS) (a1 a2 a3 a4 : Int32) , i < 512 → Rel i zX zM → ∃ (r : Int32) (tX : fS) (tM : fS), fX8_instance zX a1 a2 a3 a4 = some (r, tX) ∧ fX9_instance zM a1 a2 a3 a4 = some (r, tM) ∧ Rel (i + 1) tX tM
def st_follow (Rel : Nat → fS → fS → Prop) : Prop := ∀ (i : Nat) (zX zM : fS) (a1 a2 : Int32) , i < 512 → Rel i zX zM → ∃ (r : Int32) (tX : fS) (tM : fS), fX8_follow zX a1 a2 = some (r, tX) ∧ fX9_follow zM a1 a2 = some (r, tM) ∧ Rel (i + 1) tX tM
def st_ended (Rel : Nat → fS → fS → Prop) : Prop := ∀ (i : Nat) (zX zM : fS) , i < 512 → Rel i zX zM → ∃ (r : Int32), fX8_ended zX  = some r ∧ fX9_ended zM  = some r ∧ Rel (i + 1) zX zM
def st_claim (Rel : Nat → fS → fS → Prop) : Prop := ∀ (i : Nat) (zX zM : fS) (a1 a2 a3 a4 a5 : Int32) , i < 512 → Rel i zX zM → ∃ (r : Int32) (tX : fS) (tM : fS), fX8_claim zX a1 a2 a3 a4 a5 = some (r, tX) ∧ fX9_claim zM a1 a2 a3 a4 a5 = some (r, tM) ∧ Rel (i + 1) tX tM
def st_unclaim (Rel : Nat → fS → fS → Prop) : Prop := ∀ (i : Nat) (zX zM : fS) , i < 512 → Rel i zX zM → ∃ (r : Int32) (tX : fS) (tM : fS), fX8_unclaim zX  = some (r, tX) ∧ fX9_unclaim zM  = some (r, tM) ∧ Rel (i + 1) tX tM
def st_check (Rel : Nat → fS → fS → Prop) : Prop := ∀ (i : Nat) (zX zM : fS) (a1 a2 : Int32) , i < 512 → Rel i zX zM → ∃ (r : Int32), fX8_check zX a1 a2 = some r ∧ fX9_check zM a1 a2 = some r ∧ Rel (i + 1) zX zM
def st_status (Rel : Nat → fS → fS → Prop) : Prop := ∀ (i : Nat) (zX zM : fS) , i < 512 → Rel i zX zM → ∃ (r : Int32), fX8_status zX  = some r ∧ fX9_status zM  = some r ∧ Rel (i + 1) zX zM
def StepOK (Rel : Nat → fS → fS → Prop) : Prop := st_name Rel ∧ st_number Rel ∧ st_built Rel ∧ st_row Rel ∧ st_even Rel ∧ st_kind Rel ∧ st_part Rel ∧ st_shows Rel ∧ st_many Rel ∧ st_say Rel ∧ st_unlike Rel ∧ st_drop Rel ∧ st_said Rel ∧ st_clashed Rel ∧ st_judge Rel ∧ st_why Rel ∧ st_least Rel ∧ st_because Rel ∧ st_head Rel ∧ st_member Rel ∧ st_uses Rel ∧ st_world Rel ∧ st_push Rel ∧ st_pop Rel ∧ st_law Rel ∧ st_instance Rel ∧ st_follow Rel ∧ st_ended Rel ∧ st_claim Rel ∧ st_unclaim Rel ∧ st_check Rel ∧ st_status Rel
end
end
section
/-! numbers, reads and writes of the pure functions -/
theorem lit (n : Nat) : (OfNat.ofNat n : Int32) = nI n := id rfl
theorem litm : (-1 : Int32) = -(nI 1) := id rfl
def nN (x : Int32) : Nat := x.toNatClampNeg
theorem nN_nI {n : Nat} (h : n < 2 ^ 31) : nN (nI n) = n := nI_clamp h
theorem inb_t {i n : Nat} (h : i < n) (hn : n < 2 ^ 31) : inb (nI i) n = true := by
  have h1 : vp_in (nI i) n := vp_in_nI h hn
  exact decide_eq_true h1
theorem gd_t {α : Type} (x : Option α) : gd true x = x := id rfl
theorem bp_s {α β : Type} (a : α) (k : α → Option β) : bp (some a) k = k a := id rfl
theorem bd_s {α β : Type} (a : α) (σ : fS) (k : α → fS → Option β) : bd (some (a, σ)) k = k a σ := id rfl
theorem bnd_s {α β : Type} (e : α) (k : α → β) : bnd e k = k e := id rfl
theorem rd_nI {z : fS} {k i : Nat} (h : i < 2 ^ 31) : rd z k (nI i) = z k i := by unfold rd; rw [nI_clamp h]
theorem wr_nI {z : fS} {k i : Nat} {v : Int32} (h : i < 2 ^ 31) : wr z k (nI i) v = wrr z k (upd (z k) i v) := by unfold wr; rw [nI_clamp h]
theorem wf_w {z : fS} {k i : Nat} {v : Int32} : wf z k i v = wrr z k (upd (z k) i v) := id rfl
theorem wrr_e {z : fS} {k : Nat} {r : Nat → Int32} : wrr z k r k = r := by simp [wrr]
theorem wrr_n {z : fS} {k j : Nat} {r : Nat → Int32} (h : j ≠ k) : wrr z k r j = z j := by simp [wrr, h]
theorem upd_e {f : Nat → Int32} {k : Nat} {x : Int32} : upd f k x k = x := by simp [upd]
theorem upd_n {f : Nat → Int32} {k j : Nat} {x : Int32} (h : j ≠ k) : upd f k x j = f j := by simp [upd, h]
theorem wrr_wrr {z : fS} {k : Nat} {r r' : Nat → Int32} : wrr (wrr z k r) k r' = wrr z k r' := by
  funext j; by_cases h : j = k <;> simp [wrr, h]
theorem wrr_id {z : fS} {k : Nat} : wrr z k (z k) = z := by
  funext j; by_cases h : j = k <;> simp [wrr, h]
theorem upd_id {f : Nat → Int32} {k : Nat} : upd f k (f k) = f := by
  funext j; by_cases h : j = k <;> simp [upd, h]
theorem nI_m1 {n : Nat} (h : n < 2 ^ 31) : ¬ nI n = (-1 : Int32) := by
  intro e
  have := congrArg Int32.toInt e
  rw [nI_toInt h] at this
  have e2 : (-1 : Int32).toInt = -1 := by decide
  rw [e2] at this
  omega
theorem nI_m1n {n : Nat} (h : n < 2 ^ 31) : (nI n = -(nI 1)) ↔ False := ⟨fun e => nI_m1 h e, False.elim⟩
theorem m1_nI {n : Nat} (h : n < 2 ^ 31) : (-(nI 1) = nI n) ↔ False := ⟨fun e => nI_m1 h e.symm, False.elim⟩
theorem m1_le {n : Nat} (h : n < 2 ^ 31) : (nI n ≤ -(nI 1)) ↔ False := by
  refine ⟨fun e => ?_, False.elim⟩
  rw [Int32.le_iff_toInt_le, nI_toInt h] at e
  have e2 : (-(nI 1)).toInt = -1 := by decide
  omega
theorem m1_lt {n : Nat} (h : n < 2 ^ 31) : (-(nI 1) < nI n) ↔ True := by
  refine ⟨fun _ => trivial, fun _ => ?_⟩
  rw [Int32.lt_iff_toInt_lt, nI_toInt h]
  have e2 : (-(nI 1)).toInt = -1 := by decide
  omega
theorem m1_lt0 : (-(nI 1) < nI 0) ↔ True := m1_lt (by decide)
theorem m1_le0 : (nI 0 ≤ -(nI 1)) ↔ False := m1_le (by decide)
theorem m1_leN {n : Nat} (h : n < 2 ^ 31) : (-(nI 1) ≤ nI n) ↔ True := by
  refine ⟨fun _ => trivial, fun _ => ?_⟩
  rw [Int32.le_iff_toInt_le, nI_toInt h]
  have e2 : (-(nI 1)).toInt = -1 := by decide
  omega
theorem nI_sub {a b : Nat} (h : b ≤ a) : nI a - nI b = nI (a - b) := pk_sub h
theorem nI_dec {a : Nat} (h : 0 < a) : nI a + -(nI 1) = nI (a - 1) := sb_m1 h
theorem nI_mul (a b : Nat) : nI a * nI b = nI (a * b) := pk_mul a b
theorem m1_inc : -(nI 1) + nI 1 = nI 0 := by decide
theorem z_dec : nI 0 - nI 1 = -(nI 1) := by decide
theorem z_decA : nI 0 + -(nI 1) = -(nI 1) := by decide
theorem isb_0 : isb (nI 0) = true := by decide
theorem isb_1 : isb (nI 1) = true := by decide
theorem zb_0 : zb (nI 0) = nI 0 := by decide +kernel
theorem zb_1 : zb (nI 1) = nI 1 := by decide +kernel
def cnt (p : Nat → Bool) : Nat → Nat
  | 0 => 0
  | n + 1 => cnt p n + if p n then 1 else 0
theorem cnt_le (p : Nat → Bool) : ∀ n, cnt p n ≤ n
  | 0 => Nat.le_refl 0
  | n + 1 => by
    have h := cnt_le p n
    unfold cnt
    split <;> omega
theorem cnt_mono (p : Nat → Bool) {a b : Nat} (h : a ≤ b) : cnt p a ≤ cnt p b := by
  induction b with
  | zero => rw [show a = 0 by omega]; exact Nat.le_refl _
  | succ b ihb =>
    rcases Nat.lt_or_ge a (b + 1) with q | q
    · have := ihb (by omega)
      show _ ≤ cnt p b + _
      omega
    · rw [show a = b + 1 by omega]; exact Nat.le_refl _
theorem cnt_cong {p q : Nat → Bool} : ∀ {n : Nat}, (∀ i, i < n → p i = q i) → cnt p n = cnt q n
  | 0, _ => rfl
  | n + 1, h => by
    unfold cnt
    rw [cnt_cong (fun i hi => h i (by omega)), h n (by omega)]
theorem cnt_s {p : Nat → Bool} {n : Nat} : cnt p (n + 1) = cnt p n + if p n then 1 else 0 := rfl
/-- one less: q is p but for one place that p has -/
theorem cnt_less {p q : Nat → Bool} {j : Nat} (hp : p j = true) (hq : q j = false) (ho : ∀ i, i ≠ j → q i = p i) : ∀ {n : Nat}, j < n → cnt q n + 1 = cnt p n
  | 0, h => absurd h (Nat.not_lt_zero j)
  | n + 1, h => by
    rcases Nat.lt_or_ge j n with g | g
    · have ih := cnt_less hp hq ho g
      rw [cnt_s, cnt_s, ho n (by omega)]
      omega
    · have e : j = n := by omega
      subst e
      rw [cnt_s, cnt_s, hp, hq, cnt_cong (p := q) (q := p) (fun i hi => ho i (by omega))]
      simp
theorem cnt_pos {p : Nat → Bool} {j n : Nat} (hj : j < n) (hp : p j = true) : 0 < cnt p n := by
  have h1 := cnt_mono p (show j + 1 ≤ n by omega)
  rw [cnt_s, hp] at h1
  simp at h1
  omega
end
section
/-! terms, and what is one by a set of pairs -/
abbrev Tm : Type := Int32 × Int32 × List Nat
def kd (T : List Tm) (t : Nat) : Int32 := (T.getD t (0, 0, [])).1
def sh (T : List Tm) (t : Nat) : Int32 := (T.getD t (0, 0, [])).2.1
def pts (T : List Tm) (t : Nat) : List Nat := (T.getD t (0, 0, [])).2.2
def pt (T : List Tm) (t i : Nat) : Nat := (pts T t).getD i 0
def sz (T : List Tm) (t : Nat) : Nat := (pts T t).length
/-- a table of terms: at most 120, parts ahead of what they are parts of, the kinds' sizes -/
def WT (T : List Tm) : Prop := T.length ≤ 120 ∧ ∀ t, t < T.length → sz T t ≤ 3 ∧ (∀ i, i < sz T t → pt T t i < t) ∧ (kd T t = nI 3 → sz T t = 2) ∧ (kd T t = nI 4 → sz T t = 2) ∧ (kd T t = nI 1 → sz T t = 0) ∧ (kd T t = nI 0 → sz T t = 0)
/-- built alike, their parts in R -/
def ByP (T : List Tm) (R : Nat → Nat → Prop) (a b : Nat) : Prop :=
  0 < sz T a ∧ kd T a = kd T b ∧ sh T a = sh T b ∧ sz T a = sz T b ∧ ((∀ i, i < sz T a → R (pt T a i) (pt T b i)) ∨ (kd T a = nI 4 ∧ R (pt T a 0) (pt T b 1) ∧ R (pt T a 1) (pt T b 0)))
/-- R is closed, over the first k terms -/
def IsC (T : List Tm) (k : Nat) (E R : Nat → Nat → Prop) : Prop :=
  (∀ a, R a a) ∧ (∀ a b, R a b → R b a) ∧ (∀ a b c, R a b → R b c → R a c) ∧ (∀ a b, E a b → R a b) ∧
  (∀ a b, a < k → b < k → ByP T R a b → R a b) ∧ (∀ a b, a < k → b < k → kd T a = nI 3 → kd T b = nI 3 → R a b → R (pt T a 0) (pt T b 0) ∧ R (pt T a 1) (pt T b 1))
def One (T : List Tm) (k : Nat) (E : Nat → Nat → Prop) (a b : Nat) : Prop := ∀ R, IsC T k E R → R a b
section ONE
variable {T : List Tm} {k : Nat} {E F : Nat → Nat → Prop} {a b c : Nat}
theorem ByP.mono {R R' : Nat → Nat → Prop} (h : ∀ a b, R a b → R' a b) (hp : ByP T R a b) : ByP T R' a b := by
  obtain ⟨h0, h1, h2, h3, h4⟩ := hp
  refine ⟨h0, h1, h2, h3, ?_⟩
  rcases h4 with h4 | ⟨h4, h5, h6⟩
  · exact Or.inl fun i hi => h _ _ (h4 i hi)
  · exact Or.inr ⟨h4, h _ _ h5, h _ _ h6⟩
theorem One.rf : One T k E a a := fun R h => h.1 a
theorem One.sm (h : One T k E a b) : One T k E b a := fun R hR => hR.2.1 _ _ (h R hR)
theorem One.tr (h : One T k E a b) (h2 : One T k E b c) : One T k E a c := fun R hR => hR.2.2.1 _ _ _ (h R hR) (h2 R hR)
theorem One.of (h : E a b) : One T k E a b := fun R hR => hR.2.2.2.1 _ _ h
theorem One.cong (ha : a < k) (hb : b < k) (h : ByP T (One T k E) a b) : One T k E a b := fun R hR => hR.2.2.2.2.1 a b ha hb (h.mono fun _ _ q => q R hR)
theorem One.row (ha : a < k) (hb : b < k) (ka : kd T a = nI 3) (kb : kd T b = nI 3) (h : One T k E a b) : One T k E (pt T a 0) (pt T b 0) ∧ One T k E (pt T a 1) (pt T b 1) :=
  ⟨fun R hR => (hR.2.2.2.2.2 a b ha hb ka kb (h R hR)).1, fun R hR => (hR.2.2.2.2.2 a b ha hb ka kb (h R hR)).2⟩
theorem One.isC : IsC T k E (One T k E) := ⟨fun _ => One.rf, fun _ _ => One.sm, fun _ _ _ => One.tr, fun _ _ => One.of, fun _ _ ha hb => One.cong ha hb, fun _ _ ha hb ka kb => One.row ha hb ka kb⟩
theorem One.le (h : ∀ a b, E a b → One T k F a b) (q : One T k E a b) : One T k F a b := q _ ⟨fun _ => One.rf, fun _ _ => One.sm, fun _ _ _ => One.tr, h, fun _ _ ha hb => One.cong ha hb, fun _ _ ha hb ka kb => One.row ha hb ka kb⟩
theorem One.mono (h : ∀ a b, E a b → F a b) (q : One T k E a b) : One T k F a b := q.le fun a b e => One.of (h a b e)
theorem One.grow {k' : Nat} (hk : k ≤ k') (q : One T k E a b) : One T k' E a b := q _ ⟨fun _ => One.rf, fun _ _ => One.sm, fun _ _ _ => One.tr, fun _ _ => One.of, fun _ _ ha hb => One.cong (by omega) (by omega), fun _ _ ha hb ka kb => One.row (by omega) (by omega) ka kb⟩
end ONE
/-- the least equivalence that holds a function's fibres and some pairs -/
def Eqv (ro : Nat → Nat) (Q : List (Nat × Nat)) (a b : Nat) : Prop := ∀ R : Nat → Nat → Prop, (∀ a, R a a) → (∀ a b, R a b → R b a) → (∀ a b c, R a b → R b c → R a c) → (∀ a b, ro a = ro b → R a b) → (∀ q, q ∈ Q → R q.1 q.2) → R a b
section EQV
variable {ro ro' : Nat → Nat} {Q Q' : List (Nat × Nat)} {a b c : Nat}
theorem Eqv.rf : Eqv ro Q a a := fun R h _ _ _ _ => h a
theorem Eqv.sm (h : Eqv ro Q a b) : Eqv ro Q b a := fun R h1 h2 h3 h4 h5 => h2 _ _ (h R h1 h2 h3 h4 h5)
theorem Eqv.tr (h : Eqv ro Q a b) (g : Eqv ro Q b c) : Eqv ro Q a c := fun R h1 h2 h3 h4 h5 => h3 _ _ _ (h R h1 h2 h3 h4 h5) (g R h1 h2 h3 h4 h5)
theorem Eqv.fb (h : ro a = ro b) : Eqv ro Q a b := fun R _ _ _ h4 _ => h4 _ _ h
theorem Eqv.pr (h : (a, b) ∈ Q) : Eqv ro Q a b := fun R _ _ _ _ h5 => h5 _ h
theorem Eqv.le (h1 : ∀ a b, ro a = ro b → Eqv ro' Q' a b) (h2 : ∀ q, q ∈ Q → Eqv ro' Q' q.1 q.2) (h : Eqv ro Q a b) : Eqv ro' Q' a b := h _ (fun _ => Eqv.rf) (fun _ _ => Eqv.sm) (fun _ _ _ => Eqv.tr) h1 h2
theorem Eqv.nil (h : Eqv ro [] a b) : ro a = ro b := h (fun a b => ro a = ro b) (fun _ => rfl) (fun _ _ e => e.symm) (fun _ _ _ e f => e.trans f) (fun _ _ e => e) (fun q hq => by simp at hq)
end EQV
end
section
/-! chains in arrays -/
def Lst (nx : Nat → Int32) : Int32 → List Nat → Prop
  | h, [] => h = -1
  | h, x :: l => h = nI x ∧ Lst nx (nx x) l
def Pth (nx : Nat → Int32) : Nat → List Nat → Nat → Prop
  | a, [], b => nx a = nI b
  | a, x :: l, b => nx a = nI x ∧ Pth nx x l b
theorem Lst.ext {nx nx' : Nat → Int32} : ∀ {l : List Nat} {h : Int32}, Lst nx h l → (∀ x, x ∈ l → nx' x = nx x) → Lst nx' h l
  | [], _, h, _ => h
  | x :: l, _, h, e => ⟨h.1, by rw [e x List.mem_cons_self]; exact h.2.ext fun y hy => e y (List.mem_cons_of_mem _ hy)⟩
theorem Pth.head {nx nx' : Nat → Int32} : ∀ {l : List Nat} {a a' b : Nat}, Pth nx a l b → nx' a' = nx a → (∀ x, x ∈ l → nx' x = nx x) → Pth nx' a' l b
  | [], _, _, _, h, e, _ => e.trans h
  | x :: l, _, _, _, h, e, g => ⟨e.trans h.1, h.2.head (g x List.mem_cons_self) fun y hy => g y (List.mem_cons_of_mem _ hy)⟩
theorem Pth.app {nx : Nat → Int32} : ∀ {l1 l2 : List Nat} {a x b : Nat}, Pth nx a l1 x → Pth nx x l2 b → Pth nx a (l1 ++ x :: l2) b
  | [], _, _, _, _, h, g => ⟨h, g⟩
  | y :: l1, _, _, _, _, h, g => ⟨h.1, h.2.app g⟩
/-- two rounds become one -/
theorem Pth.splice {nx : Nat → Int32} {a b : Nat} {la lb : List Nat} (ha : Pth nx a la a) (hb : Pth nx b lb b) (hab : a ≠ b) (h1 : a ∉ la) (h2 : b ∉ la) (h3 : a ∉ lb) (h4 : b ∉ lb) : Pth (upd (upd nx a (nx b)) b (nx a)) a (lb ++ b :: la) a := by
  refine Pth.app (Pth.head hb ?_ fun x hx => ?_) (Pth.head ha ?_ fun x hx => ?_)
  · rw [upd_n hab, upd_e]
  · rw [upd_n (show x ≠ b from fun e => h4 (e ▸ hx)), upd_n (show x ≠ a from fun e => h3 (e ▸ hx))]
  · rw [upd_e]
  · rw [upd_n (show x ≠ b from fun e => h2 (e ▸ hx)), upd_n (show x ≠ a from fun e => h1 (e ▸ hx))]
/-! the agenda -/
def isPb (k : Nat) : Prop := k = 28 ∨ k = 38 ∨ k = 48
def HA (C : List Nat) (Q : List (Nat × Nat)) (z : fS) : Prop :=
  z 23 4 = nI Q.length ∧ (∀ i, i < Q.length → z 24 i = nI (Q.getD i (0, 0)).1 ∧ z 25 i = nI (Q.getD i (0, 0)).2) ∧ z 23 5 = nI C.length ∧ (∀ i, i < C.length → z 26 i = nI (C.getD i 0)) ∧ C.Nodup ∧ (∀ u, u ∈ C → u < 120) ∧ (∀ u, u < 120 → z 27 u = if u ∈ C then nI 1 else nI 0)
def addC (C : List Nat) (u : Nat) : List Nat := if u ∈ C then C else C ++ [u]
theorem gD_l {α : Type} {l m : List α} {i : Nat} {d : α} (h : i < l.length) : (l ++ m).getD i d = l.getD i d := by
  simp [List.getD_eq_getElem?_getD, List.getElem?_append_left h]
theorem gD_r {α : Type} {l : List α} {x d : α} : (l ++ [x]).getD l.length d = x := by
  simp [List.getD_eq_getElem?_getD]
theorem gD_mem {l : List Nat} {i : Nat} (h : i < l.length) : l.getD i 0 ∈ l := by
  rw [List.getD_eq_getElem?_getD, List.getElem?_eq_getElem h]
  exact List.getElem_mem h
theorem nodup_lt : ∀ {n : Nat} {l : List Nat}, l.Nodup → (∀ x, x ∈ l → x < n) → l.length ≤ n
  | 0, l, _, hl => by
    cases l with
    | nil => simp
    | cons x l => exact absurd (hl x List.mem_cons_self) (Nat.not_lt_zero x)
  | n + 1, l, hd, hl => by
    by_cases hm : n ∈ l
    · have h1 := nodup_lt (n := n) (hd.erase n) (fun x hx => by
        have h2 := (List.Nodup.mem_erase_iff hd).mp hx
        have := hl x h2.2
        omega)
      rw [List.length_erase_of_mem hm] at h1
      omega
    · have h1 := nodup_lt (n := n) hd (fun x hx => by
        have := hl x hx
        have : x ≠ n := fun e => hm (e ▸ hx)
        omega)
      omega
theorem HA.Cle {C : List Nat} {Q : List (Nat × Nat)} {z : fS} (h : HA C Q z) : C.length ≤ 120 := nodup_lt h.2.2.2.2.1 h.2.2.2.2.2.1
theorem putChanged_ok {C : List Nat} {Q : List (Nat × Nat)} {z : fS} {u : Nat} (h : HA C Q z) (hu : u < 120) : ∃ z', fX0_putChanged z (nI u) = some z' ∧ HA (addC C u) Q z' ∧ (∀ j, j ≠ 23 → j ≠ 26 → j ≠ 27 → z' j = z j) := by
  have hC := h.Cle
  obtain ⟨h1, h2, h3, h4, h5, h6, h7⟩ := h
  unfold fX0_putChanged
  by_cases hm : u ∈ C
  · have e27 : z 27 u = nI 1 := by rw [h7 u hu, if_pos hm]
    refine ⟨z, ?_, ?_, fun _ _ _ _ => rfl⟩
    · simp (disch := omega) only [lit, inb_t, gd_t, rd_nI, e27, nI_eq, if_neg]
    · unfold addC; rw [if_pos hm]; exact ⟨h1, h2, h3, h4, h5, h6, h7⟩
  · have e27 : z 27 u = nI 0 := by rw [h7 u hu, if_neg hm]
    have hl : C.length < 120 := by
      have : (u :: C).Nodup := List.nodup_cons.mpr ⟨hm, h5⟩
      have := nodup_lt this (n := 120) (fun x hx => by
        rcases List.mem_cons.mp hx with rfl | hx
        · exact hu
        · exact h6 x hx)
      simp at this
      omega
    refine ⟨wrr (wrr (wrr z 27 (upd (z 27) u (nI 1))) 26 (upd (z 26) C.length (nI u))) 23 (upd (z 23) 5 (nI (C.length + 1))), ?_, ?_, ?_⟩
    · simp (disch := omega) only [lit, inb_t, gd_t, rd_nI, e27, nI_eq, if_pos, h3, nI_leI, if_neg, if_true, bnd_s, zb_1, wr_nI, wrr_n, wrr_e, wf_w, nI_add]
    · unfold addC
      rw [if_neg hm]
      refine ⟨?_, ?_, ?_, ?_, ?_, ?_, ?_⟩
      · simp (disch := omega) only [wrr_n, wrr_e, upd_n, h1]
      · intro i hi
        have := h2 i hi
        simp (disch := omega) only [wrr_n]
        exact this
      · simp (disch := omega) only [wrr_n, wrr_e, upd_e, List.length_append, List.length_singleton]
      · intro i hi
        simp (disch := omega) only [wrr_n, wrr_e]
        rcases Nat.lt_or_ge i C.length with q | q
        · rw [upd_n (by omega), h4 i q, gD_l q]
        · have e : i = C.length := by simp at hi; omega
          subst e
          rw [upd_e]
          simp
      · exact List.nodup_append.mpr ⟨h5, by simp, fun a ha b hb => by simp at hb; subst hb; exact fun e => hm (e ▸ ha)⟩
      · intro x hx
        rcases List.mem_append.mp hx with hx | hx
        · exact h6 x hx
        · simp at hx; omega
      · intro x hx
        simp (disch := omega) only [wrr_n, wrr_e]
        by_cases e : x = u
        · subst e; rw [upd_e]; simp
        · rw [upd_n e, h7 x hx]
          simp [e]
    · intro j g1 g2 g3
      simp (disch := omega) only [wrr_n]
end
section
/-! the class's terms, as its arrays hold them -/
def HT (T : List Tm) (z : fS) : Prop :=
  z 1 9 = nI T.length ∧ ∀ t, t < T.length → z 2 t = kd T t ∧ z 3 t = sh T t ∧ z 4 t = nI (sz T t) ∧ ∀ i, i < 3 → z 5 (3 * t + i) = if i < sz T t then nI (pt T t i) else -1
/-- the places at which a term stands as a part -/
def HPl (T : List Tm) (z : fS) : Prop :=
  ∀ t, t < T.length → ∃ pl : List Nat, Lst (z 10) (z 9 t) pl ∧ pl.length ≤ 360 ∧ ∀ p, p ∈ pl ↔ p / 3 < T.length ∧ p % 3 < sz T (p / 3) ∧ pt T (p / 3) (p % 3) = t
theorem HT.fr {T : List Tm} {z z' : fS} (h : HT T z) (e : ∀ j, j < 11 → z' j = z j) : HT T z' := by
  unfold HT
  rw [e 1 (by omega), e 2 (by omega), e 3 (by omega), e 4 (by omega), e 5 (by omega)]
  exact h
theorem HPl.fr {T : List Tm} {z z' : fS} (h : HPl T z) (e : ∀ j, j < 11 → z' j = z j) : HPl T z' := by
  unfold HPl
  rw [e 9 (by omega), e 10 (by omega)]
  exact h
theorem m1_eq : ((-1 : Int32) = -1) ↔ True := ⟨fun _ => trivial, fun _ => rfl⟩
theorem nI_div {a : Nat} (h : a < 2 ^ 31) : nI a / nI 3 = nI (a / 3) := pk_div h (by omega) (by omega)
theorem places_loop {pb k : Nat} (hp : isPb pb) (hk : k ≤ 120) {Q : List (Nat × Nat)} {k91 : fS → Option fS} {v1 v2 v3 v4 : Int32} : ∀ (pl : List Nat) (z : fS) (C : List Nat) (h : Int32) (s N : Nat), Lst (z 10) h pl → (∀ p, p ∈ pl → p < 360) → s + pl.length ≤ 360 → pl.length < N → HA C Q z → z pb 11 = nI k →
    ∃ z' C', lX4_unite_37 pb k91 v1 v2 v3 v4 N h (nI s) z = k91 z' ∧ HA C' Q z' ∧ (∀ u, u ∈ C' ↔ u ∈ C ∨ (u < k ∧ ∃ p, p ∈ pl ∧ p / 3 = u)) ∧ (∀ j, j ≠ 23 → j ≠ 26 → j ≠ 27 → z' j = z j)
  | [], z, C, h, s, N, hL, hb, hs, hN, hA, hk1 => by
    obtain ⟨N, rfl⟩ : ∃ M, N = M + 1 := ⟨N - 1, by omega⟩
    have hh : h = -1 := hL
    subst hh
    refine ⟨z, C, ?_, hA, by simp, fun _ _ _ _ => rfl⟩
    rw [lX4_unite_37.eq_2]
    by_cases q : 360 ≤ s
    · simp (disch := omega) only [lit, nI_leI, if_pos]
    · simp (disch := omega) only [lit, nI_leI, if_neg, if_true]
  | x :: pl, z, C, h, s, N, hL, hb, hs, hN, hA, hk1 => by
    obtain ⟨N, rfl⟩ : ∃ M, N = M + 1 := ⟨N - 1, by omega⟩
    simp only [List.length_cons] at hs hN
    obtain ⟨rfl, hL⟩ := hL
    have hx := hb x List.mem_cons_self
    have hb' : ∀ p, p ∈ pl → p < 360 := fun p hp => hb p (List.mem_cons_of_mem _ hp)
    rw [lX4_unite_37.eq_2]
    by_cases q : k ≤ x / 3
    · obtain ⟨z', C', e1, e2, e3, e4⟩ := places_loop hp hk (k91 := k91) (v1 := v1) (v2 := v2) (v3 := v3) (v4 := v4) pl z C (z 10 x) (s + 1) N hL hb' (by omega) (by omega) hA hk1
      refine ⟨z', C', ?_, e2, fun u => ?_, e4⟩
      · simp (disch := omega) only [lit, litm, nI_leI, if_neg, nI_m1n, not_false_eq_true, nI_div, hk1, if_pos, inb_t, gd_t, rd_nI, bnd_s, nI_add, if_false, if_true]
        exact e1
      · rw [e3 u]
        constructor
        · rintro (h | ⟨h1, p, h2, h3⟩)
          · exact Or.inl h
          · exact Or.inr ⟨h1, p, List.mem_cons_of_mem _ h2, h3⟩
        · rintro (h | ⟨h1, p, h2, h3⟩)
          · exact Or.inl h
          · rcases List.mem_cons.mp h2 with rfl | h2
            · omega
            · exact Or.inr ⟨h1, p, h2, h3⟩
    · obtain ⟨z1, f1, f2, f3⟩ := putChanged_ok (u := x / 3) hA (by omega)
      have g10 : z1 10 = z 10 := f3 10 (by omega) (by omega) (by omega)
      have gpb : z1 pb = z pb := f3 pb (by rcases hp with rfl | rfl | rfl <;> omega) (by rcases hp with rfl | rfl | rfl <;> omega) (by rcases hp with rfl | rfl | rfl <;> omega)
      obtain ⟨z', C', e1, e2, e3, e4⟩ := places_loop hp hk (k91 := k91) (v1 := v1) (v2 := v2) (v3 := v3) (v4 := v4) pl z1 (addC C (x / 3)) (z1 10 x) (s + 1) N (by rw [g10]; exact hL) hb' (by omega) (by omega) f2 (by rw [gpb]; exact hk1)
      refine ⟨z', C', ?_, e2, fun u => ?_, fun j a b c => (e4 j a b c).trans (f3 j a b c)⟩
      · simp (disch := omega) only [lit, litm, nI_leI, if_neg, nI_m1n, not_false_eq_true, nI_div, hk1, f1, bp_s, inb_t, gd_t, rd_nI, bnd_s, nI_add, if_false, if_true]
        exact e1
      · rw [e3 u]
        have ha : u ∈ addC C (x / 3) ↔ u ∈ C ∨ u = x / 3 := by
          unfold addC
          split
          · constructor
            · exact Or.inl
            · rintro (h | rfl)
              · exact h
              · assumption
          · simp
        rw [ha]
        constructor
        · rintro ((h | h) | ⟨h1, p, h2, h3⟩)
          · exact Or.inl h
          · exact Or.inr ⟨by omega, x, List.mem_cons_self, h.symm⟩
          · exact Or.inr ⟨h1, p, List.mem_cons_of_mem _ h2, h3⟩
        · rintro (h | ⟨h1, p, h2, h3⟩)
          · exact Or.inl (Or.inl h)
          · rcases List.mem_cons.mp h2 with rfl | h2
            · exact Or.inl (Or.inr h3.symm)
            · exact Or.inr ⟨h1, p, h2, h3⟩
theorem isPb.ne {pb : Nat} (h : isPb pb) : pb ≠ 23 ∧ pb ≠ 26 ∧ pb ≠ 27 ∧ 28 ≤ pb := by rcases h with rfl | rfl | rfl <;> omega
theorem unite_loop {pb k keep lose s : Nat} {T : List Tm} (hp : isPb pb) (hk : k ≤ T.length) (hW : WT T) (hl : lose < 120) {Q : List (Nat × Nat)} {k104 : fS → Option fS} : ∀ (l : List Nat) (t i : Nat) (z : fS) (C : List Nat) (N : Nat), Pth (z (pb + 2)) t l lose → (∀ x, x ∈ t :: l → x < k) → i + l.length + 1 = s → s ≤ 120 → z (pb + 3) lose = nI s → HPl T z → HA C Q z → z pb 11 = nI k → l.length + 1 < N →
    ∃ z' C', lX4_unite_5 pb k104 (nI keep) (nI lose) N (nI t) (nI i) z = k104 z' ∧ z' (pb + 1) = (fun j => if j ∈ t :: l then nI keep else z (pb + 1) j) ∧ HA C' Q z' ∧ (∀ u, u ∈ C' ↔ u ∈ C ∨ (u < k ∧ ∃ i, i < sz T u ∧ pt T u i ∈ t :: l)) ∧ (∀ j, j ≠ 23 → j ≠ 26 → j ≠ 27 → j ≠ pb + 1 → z' j = z j) := by
  have hpn := hp.ne
  have hT := hW.1
  have main : ∀ (t i : Nat) (z : fS) (C : List Nat) (N : Nat), t < k → i < s → s ≤ 120 → z (pb + 3) lose = nI s → HPl T z → HA C Q z → z pb 11 = nI k → 
      ∃ z1 C1, lX4_unite_5 pb k104 (nI keep) (nI lose) (N + 1) (nI t) (nI i) z = jX4_unite_91 pb (lX4_unite_5 pb k104 (nI keep) (nI lose) N) k104 (nI keep) (nI lose) (nI t) (nI i) z1 ∧ z1 (pb + 1) = (fun j => if j = t then nI keep else z (pb + 1) j) ∧ HA C1 Q z1 ∧ (∀ u, u ∈ C1 ↔ u ∈ C ∨ (u < k ∧ ∃ i, i < sz T u ∧ pt T u i = t)) ∧ (∀ j, j ≠ 23 → j ≠ 26 → j ≠ 27 → j ≠ pb + 1 → z1 j = z j) := by
    intro t i z C N ht hi hs hs3 hPl hA hk1
    obtain ⟨pl, p1, p2, p3⟩ := hPl t (by omega)
    have hb : ∀ p, p ∈ pl → p < 360 := fun p hp => by
      have := ((p3 p).mp hp).1
      omega
    have hA' : HA C Q (wrr z (pb + 1) (upd (z (pb + 1)) t (nI keep))) := by
      unfold HA
      simp (disch := omega) only [wrr_n]
      exact hA
    obtain ⟨z1, C1, e1, e2, e3, e4⟩ := places_loop hp (show k ≤ 120 by omega) (k91 := jX4_unite_91 pb (lX4_unite_5 pb k104 (nI keep) (nI lose) N) k104 (nI keep) (nI lose) (nI t) (nI i)) (v1 := nI keep) (v2 := nI lose) (v3 := nI t) (v4 := nI i) pl (wrr z (pb + 1) (upd (z (pb + 1)) t (nI keep))) C (z 9 t) 0 FU (by rw [wrr_n (by omega)]; exact p1) hb (by omega) (by have := FU_ge; omega) hA' (by rw [wrr_n (by omega)]; exact hk1)
    refine ⟨z1, C1, ?_, ?_, e2, ?_, ?_⟩
    · rw [lX4_unite_5.eq_2]
      simp (disch := omega) only [inb_t, gd_t, rd_nI, hs3, nI_leI, if_neg, wr_nI, bnd_s, wrr_n]
      exact e1
    · rw [e4 (pb + 1) (by omega) (by omega) (by omega), wrr_e]
      funext j
      by_cases h : j = t
      · simp [upd, h]
      · simp [upd, h]
    · intro u
      rw [e3 u]
      constructor
      · rintro (h | ⟨h1, p, h2, h3⟩)
        · exact Or.inl h
        · obtain ⟨g1, g2, g3⟩ := (p3 p).mp h2
          rw [h3] at g2 g3
          exact Or.inr ⟨h1, p % 3, g2, g3⟩
      · rintro (h | ⟨h1, i, h2, h3⟩)
        · exact Or.inl h
        · have h4 := (hW.2 u (by omega)).1
          refine Or.inr ⟨h1, 3 * u + i, (p3 _).mpr ⟨?_, ?_, ?_⟩, by omega⟩
          · omega
          · rw [show (3 * u + i) / 3 = u by omega, show (3 * u + i) % 3 = i by omega]; exact h2
          · rw [show (3 * u + i) / 3 = u by omega, show (3 * u + i) % 3 = i by omega]; exact h3
    · intro j a b c d
      rw [e4 j a b c, wrr_n d]
  intro l
  induction l with
  | nil =>
    intro t i z C N hP hx hi hs hs3 hPl hA hk1 hN
    obtain ⟨N, rfl⟩ : ∃ M, N = M + 2 := ⟨N - 2, by simp at hN; omega⟩
    simp only [List.length_nil] at hi
    have ht := hx t List.mem_cons_self
    obtain ⟨z1, C1, e1, e2, e3, e4, e5⟩ := main t i z C (N + 1) ht (by omega) hs hs3 hPl hA hk1
    refine ⟨z1, C1, ?_, ?_, e3, ?_, e5⟩
    · rw [e1]
      unfold jX4_unite_91
      have hn : z1 (pb + 2) t = nI lose := by rw [e5 _ (by omega) (by omega) (by omega) (by omega)]; exact hP
      have h3 : z1 (pb + 3) lose = nI s := by rw [e5 _ (by omega) (by omega) (by omega) (by omega)]; exact hs3
      simp (disch := omega) only [inb_t, gd_t, rd_nI, bnd_s, hn, lit, nI_add]
      rw [lX4_unite_5.eq_2]
      simp (disch := omega) only [inb_t, gd_t, rd_nI, h3, nI_leI, if_pos]
    · rw [e2]
      funext j
      simp
    · intro u
      rw [e4 u]
      simp
  | cons x l ih =>
    intro t i z C N hP hx hi hs hs3 hPl hA hk1 hN
    obtain ⟨N, rfl⟩ : ∃ M, N = M + 1 := ⟨N - 1, by omega⟩
    simp only [List.length_cons] at hi hN
    have ht := hx t List.mem_cons_self
    obtain ⟨z1, C1, e1, e2, e3, e4, e5⟩ := main t i z C N ht (by omega) hs hs3 hPl hA hk1
    have f2 : z1 (pb + 2) = z (pb + 2) := e5 _ (by omega) (by omega) (by omega) (by omega)
    obtain ⟨z', C', g1, g2, g3, g4, g5⟩ := ih x (i + 1) z1 C1 N (by rw [f2]; exact hP.2) (fun y hy => hx y (List.mem_cons_of_mem _ hy)) (by omega) hs (by rw [e5 _ (by omega) (by omega) (by omega) (by omega)]; exact hs3) (hPl.fr fun j hj => e5 j (by omega) (by omega) (by omega) (by omega)) e3 (by rw [e5 _ (by omega) (by omega) (by omega) (by omega)]; exact hk1) (by omega)
    refine ⟨z', C', ?_, ?_, g3, ?_, fun j a b c d => (g5 j a b c d).trans (e5 j a b c d)⟩
    · rw [e1]
      unfold jX4_unite_91
      have hn : z1 (pb + 2) t = nI x := by rw [f2]; exact hP.1
      have hxk := hx x (List.mem_cons_of_mem _ List.mem_cons_self)
      simp (disch := omega) only [inb_t, gd_t, rd_nI, bnd_s, hn, lit, nI_add]
      exact g1
    · rw [g2]
      funext j
      by_cases h1 : j ∈ x :: l
      · rw [if_pos h1, if_pos (List.mem_cons_of_mem _ h1)]
      · rw [if_neg h1, e2]
        by_cases h2 : j = t
        · subst h2; simp
        · simp [h2, h1]
    · intro u
      rw [g4 u, e4 u]
      constructor
      · rintro ((h | ⟨h1, i, h2, h3⟩) | ⟨h1, i, h2, h3⟩)
        · exact Or.inl h
        · exact Or.inr ⟨h1, i, h2, by rw [h3]; exact List.mem_cons_self⟩
        · exact Or.inr ⟨h1, i, h2, List.mem_cons_of_mem _ h3⟩
      · rintro (h | ⟨h1, i, h2, h3⟩)
        · exact Or.inl (Or.inl h)
        · rcases List.mem_cons.mp h3 with h3 | h3
          · exact Or.inl (Or.inr ⟨h1, i, h2, h3⟩)
          · exact Or.inr ⟨h1, i, h2, h3⟩
end
section
/-! a partition's classes -/
def mg (ro : Nat → Nat) (a b : Nat) : Nat → Nat := fun t => if ro t = b then a else ro t
def PS (pb k : Nat) (ro : Nat → Nat) (z : fS) : Prop :=
  z pb 11 = nI k ∧ k ≤ 120 ∧ (∀ t, t < k → z (pb + 1) t = nI (ro t) ∧ ro t < k ∧ ro (ro t) = ro t) ∧
  (∀ r, r < k → ro r = r → ∃ l, Pth (z (pb + 2)) r l r ∧ (r :: l).Nodup ∧ (∀ t, t ∈ r :: l ↔ (t < k ∧ ro t = r)) ∧ z (pb + 3) r = nI (l.length + 1) ∧ ∃ m, z (pb + 4) r = nI m ∧ m < k ∧ ro m = r ∧ ∀ t, t < k → ro t = r → m ≤ t) ∧
  z pb 12 = nI (cnt (fun r => decide (ro r = r)) k)
def PN (T : List Tm) (pb k : Nat) (ro : Nat → Nat) (z : fS) : Prop :=
  z pb 13 = nI 0 ∧ ∀ r, r < k → ro r = r → (z (pb + 5) r = -1 ∧ ∀ t, t < k → ro t = r → kd T t ≠ nI 1) ∨ ∃ u, z (pb + 5) r = nI u ∧ u < k ∧ ro u = r ∧ kd T u = nI 1 ∧ ∀ t, t < k → ro t = r → kd T t = nI 1 → t = u
/-- two numbers in one class -/
def Tn (T : List Tm) (k : Nat) (ro : Nat → Nat) : Prop := ∃ u v, u < k ∧ v < k ∧ u ≠ v ∧ kd T u = nI 1 ∧ kd T v = nI 1 ∧ ro u = ro v
section UNI
variable {T : List Tm} {pb k keep lose : Nat} {ro : Nat → Nat} {Q : List (Nat × Nat)} {C : List Nat} {z z' : fS}
theorem mg_lt (h : ∀ t, t < k → ro t < k) (hk : keep < k) : ∀ t, t < k → mg ro keep lose t < k := fun t ht => by
  unfold mg; split
  · exact hk
  · exact h t ht
theorem mg_id (h : ∀ t, t < k → ro (ro t) = ro t) (h1 : ro keep = keep) (h2 : keep ≠ lose) : ∀ t, t < k → mg ro keep lose (mg ro keep lose t) = mg ro keep lose t := fun t ht => by
  unfold mg
  by_cases e : ro t = lose
  · rw [if_pos e, h1, if_neg h2]
  · rw [if_neg e, h t ht, if_neg e]
theorem mg_root (h1 : ro keep = keep) (h2 : keep ≠ lose) {r : Nat} : mg ro keep lose r = r ↔ (ro r = r ∧ r ≠ lose) ∨ (ro r = lose ∧ r = keep ∧ False) := by
  unfold mg
  by_cases e : ro r = lose
  · rw [if_pos e]
    constructor
    · intro q; subst q; exact absurd (h1.symm.trans e) h2
    · rintro (⟨q1, q2⟩ | ⟨_, _, f⟩)
      · exact absurd (q1.symm.trans e) q2
      · exact f.elim
  · rw [if_neg e]
    constructor
    · intro q; exact Or.inl ⟨q, fun e2 => e (q.trans e2)⟩
    · rintro (⟨q1, q2⟩ | ⟨_, _, f⟩)
      · exact q1
      · exact f.elim
theorem mg_in (h1 : ro keep = keep) (h2 : keep ≠ lose) {t r : Nat} (hr : r ≠ keep) (hl : r ≠ lose) : mg ro keep lose t = r ↔ ro t = r := by
  unfold mg
  by_cases e : ro t = lose
  · rw [if_pos e, e]
    exact ⟨fun q => absurd q.symm hr, fun q => absurd q.symm hl⟩
  · rw [if_neg e]
theorem mg_keep (h2 : keep ≠ lose) {t : Nat} : mg ro keep lose t = keep ↔ (ro t = keep ∨ ro t = lose) := by
  unfold mg
  by_cases e : ro t = lose
  · rw [if_pos e]; simp [e]
  · rw [if_neg e]; simp [e]
set_option maxHeartbeats 1000000 in
theorem unite_ok (hp : isPb pb) (hk : k ≤ T.length) (hW : WT T) (hS : PS pb k ro z) (hN : PN T pb k ro z) (hPl : HPl T z) (hA : HA C Q z) (h1 : keep < k) (h2 : lose < k) (h3 : ro keep = keep) (h4 : ro lose = lose) (h5 : keep ≠ lose) :
    ∃ z' C', fX4_unite pb z (nI keep) (nI lose) = some z' ∧ PS pb k (mg ro keep lose) z' ∧ (PN T pb k (mg ro keep lose) z' ∨ (z' pb 13 = nI 1 ∧ Tn T k (mg ro keep lose))) ∧ HA C' Q z' ∧ (∀ u, u ∈ C' ↔ u ∈ C ∨ (u < k ∧ ∃ i, i < sz T u ∧ ro (pt T u i) = lose)) ∧ (∀ j, j ≠ 23 → j ≠ 26 → j ≠ 27 → ¬ (pb ≤ j ∧ j ≤ pb + 5) → z' j = z j) := by
  have hpn := hp.ne
  have hT := hW.1
  obtain ⟨s1, s2, s3, s4, s5⟩ := id hS
  obtain ⟨la, a1, a2, a3, a4, ma, a5, a6, a7, a8⟩ := s4 keep h1 h3
  obtain ⟨lb, b1, b2, b3, b4, mb, b5, b6, b7, b8⟩ := s4 lose h2 h4
  have hla : la.length + 1 ≤ 120 := by
    have := nodup_lt a2 (n := 120) (fun x hx => by have := ((a3 x).mp hx).1; omega)
    simpa using this
  have hlb : lb.length + 1 ≤ 120 := by
    have := nodup_lt b2 (n := 120) (fun x hx => by have := ((b3 x).mp hx).1; omega)
    simpa using this
  obtain ⟨z1, C1, e1, e2, e3, e4, e5⟩ := unite_loop (keep := keep) (lose := lose) (s := lb.length + 1) hp hk hW (by omega) (k104 := jX4_unite_104 pb (nI keep) (nI lose)) (Q := Q) lb lose 0 z C FU b1 (fun x hx => ((b3 x).mp hx).1) (by omega) hlb b4 hPl hA s1 (by have := FU_ge; omega)
  have g0 : z1 pb = z pb := e5 _ (by omega) (by omega) (by omega) (by omega)
  have g2 : z1 (pb + 2) = z (pb + 2) := e5 _ (by omega) (by omega) (by omega) (by omega)
  have g3 : z1 (pb + 3) = z (pb + 3) := e5 _ (by omega) (by omega) (by omega) (by omega)
  have g4 : z1 (pb + 4) = z (pb + 4) := e5 _ (by omega) (by omega) (by omega) (by omega)
  have g5 : z1 (pb + 5) = z (pb + 5) := e5 _ (by omega) (by omega) (by omega) (by omega)
  have hc : 0 < cnt (fun r => decide (ro r = r)) k := cnt_pos h1 (by simp [h3])
  have hcn := cnt_le (fun r => decide (ro r = r)) k
  have hcnt : cnt (fun r => decide (mg ro keep lose r = r)) k + 1 = cnt (fun r => decide (ro r = r)) k := by
    refine cnt_less (j := lose) (by simp [h4]) ?_ ?_ h2
    · simp only [decide_eq_false_iff_not, mg_root h3 h5]
      rintro (⟨_, q⟩ | ⟨_, _, f⟩)
      · exact q rfl
      · exact f
    · intro i hi
      have : (mg ro keep lose i = i) ↔ (ro i = i) := by
        rw [mg_root h3 h5]
        constructor
        · rintro (⟨q, _⟩ | ⟨_, _, f⟩)
          · exact q
          · exact f.elim
        · intro q; exact Or.inl ⟨q, hi⟩
      simp [this]
  -- the state behind the joins, but for the numbers
  obtain ⟨zz, hzz⟩ : ∃ y : fS, y = wrr (wrr (wrr (wrr z1 (pb + 2) (upd (upd (z (pb + 2)) keep (z (pb + 2) lose)) lose (z (pb + 2) keep))) (pb + 3) (upd (z (pb + 3)) keep (nI (la.length + 1 + (lb.length + 1))))) (pb + 4) (upd (z (pb + 4)) keep (if mb < ma then nI mb else nI ma))) pb (upd (z pb) 12 (nI (cnt (fun r => decide (mg ro keep lose r = r)) k))) := ⟨_, rfl⟩
  have q1 : zz (pb + 1) = fun j => if j ∈ lose :: lb then nI keep else z (pb + 1) j := by
    rw [hzz]; simp (disch := omega) only [wrr_n]; exact e2
  have q2 : zz (pb + 2) = upd (upd (z (pb + 2)) keep (z (pb + 2) lose)) lose (z (pb + 2) keep) := by
    rw [hzz]; simp (disch := omega) only [wrr_n, wrr_e]
  have q3 : zz (pb + 3) = upd (z (pb + 3)) keep (nI (la.length + 1 + (lb.length + 1))) := by
    rw [hzz]; simp (disch := omega) only [wrr_n, wrr_e]
  have q4 : zz (pb + 4) = upd (z (pb + 4)) keep (if mb < ma then nI mb else nI ma) := by
    rw [hzz]; simp (disch := omega) only [wrr_n, wrr_e]
  have q5 : zz (pb + 5) = z (pb + 5) := by
    rw [hzz]; simp (disch := omega) only [wrr_n]; exact g5
  have q0 : zz pb = upd (z pb) 12 (nI (cnt (fun r => decide (mg ro keep lose r = r)) k)) := by
    rw [hzz, wrr_e]
  have qf : ∀ j, j ≠ 23 → j ≠ 26 → j ≠ 27 → ¬ (pb ≤ j ∧ j ≤ pb + 4) → zz j = z j := by
    intro j c1 c2 c3 c4
    rw [hzz]; simp (disch := omega) only [wrr_n]
    exact e5 j c1 c2 c3 (by omega)
  have qA : HA C1 Q zz := by
    unfold HA
    rw [hzz]
    simp (disch := omega) only [wrr_n]
    exact e3
  have qS : PS pb k (mg ro keep lose) zz := by
    refine ⟨by rw [q0, upd_n (by omega)]; exact s1, s2, fun t ht => ?_, fun r hr hrr => ?_, by rw [q0, upd_e]⟩
    · obtain ⟨c1, c2, c3⟩ := s3 t ht
      refine ⟨?_, mg_lt (fun t h => (s3 t h).2.1) h1 t ht, mg_id (fun t h => (s3 t h).2.2) h3 h5 t ht⟩
      rw [q1]
      show (if t ∈ lose :: lb then _ else _) = nI (mg ro keep lose t)
      unfold mg
      by_cases e : ro t = lose
      · rw [if_pos ((b3 t).mpr ⟨ht, e⟩), if_pos e]
      · rw [if_neg (fun h => e ((b3 t).mp h).2), if_neg e, c1]
    · rcases (mg_root h3 h5).mp hrr with ⟨c1, c2⟩ | ⟨_, _, f⟩
      · by_cases hrk : r = keep
        · subst hrk
          have d1 : r ∉ la := (List.nodup_cons.mp a2).1
          have d2 : lose ∉ lb := (List.nodup_cons.mp b2).1
          have d3 : lose ∉ la := fun h => h5 ((((a3 lose).mp (List.mem_cons_of_mem _ h)).2.symm.trans h4))
          have d4 : r ∉ lb := fun h => h5 (h3.symm.trans ((b3 r).mp (List.mem_cons_of_mem _ h)).2)
          refine ⟨lb ++ lose :: la, by rw [q2]; exact Pth.splice a1 b1 h5 d1 d3 d4 d2, ?_, ?_, ?_, ?_⟩
          · refine List.nodup_cons.mpr ⟨?_, List.nodup_append.mpr ⟨(List.nodup_cons.mp b2).2, List.nodup_cons.mpr ⟨d3, (List.nodup_cons.mp a2).2⟩, ?_⟩⟩
            · intro h
              rcases List.mem_append.mp h with h | h
              · exact d4 h
              · rcases List.mem_cons.mp h with h | h
                · exact h5 h
                · exact d1 h
            · intro x hx y hy e
              subst e
              rcases List.mem_cons.mp hy with rfl | hy
              · exact d2 hx
              · exact h5 (((a3 x).mp (List.mem_cons_of_mem _ hy)).2.symm.trans ((b3 x).mp (List.mem_cons_of_mem _ hx)).2)
          · intro t
            have m1 := a3 t
            have m2 := b3 t
            rw [mg_keep h5]
            simp only [List.mem_cons, List.mem_append] at m1 m2 ⊢
            constructor
            · rintro (h | h | h | h)
              · exact ⟨(m1.mp (Or.inl h)).1, Or.inl (m1.mp (Or.inl h)).2⟩
              · exact ⟨(m2.mp (Or.inr h)).1, Or.inr (m2.mp (Or.inr h)).2⟩
              · exact ⟨(m2.mp (Or.inl h)).1, Or.inr (m2.mp (Or.inl h)).2⟩
              · exact ⟨(m1.mp (Or.inr h)).1, Or.inl (m1.mp (Or.inr h)).2⟩
            · rintro ⟨h, h' | h'⟩
              · rcases m1.mpr ⟨h, h'⟩ with g | g
                · exact Or.inl g
                · exact Or.inr (Or.inr (Or.inr g))
              · rcases m2.mpr ⟨h, h'⟩ with g | g
                · exact Or.inr (Or.inr (Or.inl g))
                · exact Or.inr (Or.inl g)
          · rw [q3, upd_e]
            congr 1
            simp
            omega
          · refine ⟨if mb < ma then mb else ma, by rw [q4, upd_e]; split <;> rfl, by split <;> assumption, ?_, fun t ht hrt => ?_⟩
            · rw [mg_keep h5]
              split
              · exact Or.inr b7
              · exact Or.inl a7
            · rcases (mg_keep h5).mp hrt with h | h
              · have := a8 t ht h
                split <;> omega
              · have := b8 t ht h
                split <;> omega
        · obtain ⟨l, c3, c4, c5, c6, mm, c7, c8, c9, c10⟩ := s4 r hr c1
          have d1 : keep ∉ r :: l := fun h => hrk (((c5 keep).mp h).2.symm.trans h3)
          have d2 : lose ∉ r :: l := fun h => c2 (((c5 lose).mp h).2.symm.trans h4)
          refine ⟨l, ?_, c4, fun t => ?_, by rw [q3, upd_n hrk]; exact c6, mm, by rw [q4, upd_n hrk]; exact c7, c8, (mg_in h3 h5 hrk c2).mpr c9, fun t ht h => c10 t ht ((mg_in h3 h5 hrk c2).mp h)⟩
          · rw [q2]
            refine Pth.head c3 ?_ fun x hx => ?_
            · rw [upd_n c2, upd_n hrk]
            · rw [upd_n (show x ≠ lose from fun e => d2 (e ▸ List.mem_cons_of_mem _ hx)), upd_n (show x ≠ keep from fun e => d1 (e ▸ List.mem_cons_of_mem _ hx))]
          · rw [c5 t, mg_in h3 h5 hrk c2]
      · exact f.elim
  have hun : fX4_unite pb z (nI keep) (nI lose) = jX4_unite_104 pb (nI keep) (nI lose) z1 := e1
  have hmem : ∀ u, u ∈ C1 ↔ u ∈ C ∨ (u < k ∧ ∃ i, i < sz T u ∧ ro (pt T u i) = lose) := by
    intro u
    rw [e4 u]
    constructor
    · rintro (h | ⟨c1, i, c2, c3⟩)
      · exact Or.inl h
      · exact Or.inr ⟨c1, i, c2, ((b3 _).mp c3).2⟩
    · rintro (h | ⟨c1, i, c2, c3⟩)
      · exact Or.inl h
      · have := (hW.2 u (by omega)).2.1 i c2
        exact Or.inr ⟨c1, i, c2, (b3 _).mpr ⟨by omega, c3⟩⟩
  have hstep : jX4_unite_104 pb (nI keep) (nI lose) z1 = if z (pb + 5) lose = (-1 : Int32) then some zz else if z (pb + 5) keep = (-1 : Int32) then some (wrr (wrr zz pb (upd (zz pb) 13 (nI 0))) (pb + 5) (upd (z (pb + 5)) keep (z (pb + 5) lose))) else some (wrr (wrr zz pb (upd (zz pb) 13 (nI 1))) (pb + 5) (upd (z (pb + 5)) keep (z (pb + 5) lose))) := by
    unfold jX4_unite_104 jX4_unite_206
    rw [hzz]
    simp (disch := omega) only [inb_t, gd_t, rd_nI, bnd_s, wr_nI, wf_w, wrr_n, wrr_e, wrr_wrr, g0, g2, g3, g4, g5, upd_n, upd_e, a4, b4, a5, b5, nI_add, lit, s5, hN.1, if_true, nI_ltI, nI_sub]
    rw [show cnt (fun r => decide (ro r = r)) k - 1 = cnt (fun r => decide (mg ro keep lose r = r)) k by omega]
  rw [hun, hstep]
  obtain ⟨n0, n1⟩ := hN
  rcases n1 lose h2 h4 with ⟨x1, x2⟩ | ⟨u, x1, x2, x3, x4, x5⟩
  · rw [if_pos x1]
    refine ⟨zz, C1, rfl, qS, Or.inl ⟨by rw [q0, upd_n (by omega)]; exact n0, fun r hr hrr => ?_⟩, qA, hmem, fun j c1 c2 c3 c4 => qf j c1 c2 c3 (by omega)⟩
    rcases (mg_root h3 h5).mp hrr with ⟨c1, c2⟩ | ⟨_, _, f⟩
    · rw [q5]
      by_cases hrk : r = keep
      · subst hrk
        rcases n1 r hr c1 with ⟨y1, y2⟩ | ⟨v, y1, y2, y3, y4, y5⟩
        · refine Or.inl ⟨y1, fun t ht h => ?_⟩
          rcases (mg_keep h5).mp h with h | h
          · exact y2 t ht h
          · exact x2 t ht h
        · refine Or.inr ⟨v, y1, y2, (mg_keep h5).mpr (Or.inl y3), y4, fun t ht h hk1 => ?_⟩
          rcases (mg_keep h5).mp h with h | h
          · exact y5 t ht h hk1
          · exact absurd hk1 (x2 t ht h)
      · rcases n1 r hr c1 with ⟨y1, y2⟩ | ⟨v, y1, y2, y3, y4, y5⟩
        · exact Or.inl ⟨y1, fun t ht h => y2 t ht ((mg_in h3 h5 hrk c2).mp h)⟩
        · exact Or.inr ⟨v, y1, y2, (mg_in h3 h5 hrk c2).mpr y3, y4, fun t ht h => y5 t ht ((mg_in h3 h5 hrk c2).mp h)⟩
    · exact f.elim
  · rw [if_neg (by rw [x1]; exact nI_m1 (by omega))]
    have fr5 : ∀ (v : Int32) (j : Nat), j ≠ 23 → j ≠ 26 → j ≠ 27 → ¬ (pb ≤ j ∧ j ≤ pb + 5) → wrr (wrr zz pb (upd (zz pb) 13 v)) (pb + 5) (upd (z (pb + 5)) keep (z (pb + 5) lose)) j = z j := by
      intro v j c1 c2 c3 c4
      simp (disch := omega) only [wrr_n]
      exact qf j c1 c2 c3 (by omega)
    have frA : ∀ v : Int32, HA C1 Q (wrr (wrr zz pb (upd (zz pb) 13 v)) (pb + 5) (upd (z (pb + 5)) keep (z (pb + 5) lose))) := by
      intro v
      unfold HA
      simp (disch := omega) only [wrr_n]
      exact qA
    have frS : ∀ v : Int32, PS pb k (mg ro keep lose) (wrr (wrr zz pb (upd (zz pb) 13 v)) (pb + 5) (upd (z (pb + 5)) keep (z (pb + 5) lose))) := by
      intro v
      unfold PS
      simp (disch := omega) only [wrr_n, wrr_e, upd_n]
      exact qS
    rcases n1 keep h1 h3 with ⟨y1, y2⟩ | ⟨v, y1, y2, y3, y4, y5⟩
    · rw [if_pos y1]
      refine ⟨_, C1, rfl, frS _, Or.inl ⟨by simp (disch := omega) only [wrr_n, wrr_e, upd_e], fun r hr hrr => ?_⟩, frA _, hmem, fr5 _⟩
      rcases (mg_root h3 h5).mp hrr with ⟨c1, c2⟩ | ⟨_, _, f⟩
      · rw [wrr_e]
        by_cases hrk : r = keep
        · subst hrk
          refine Or.inr ⟨u, by rw [upd_e]; exact x1, x2, (mg_keep h5).mpr (Or.inr x3), x4, fun t ht h hk1 => ?_⟩
          rcases (mg_keep h5).mp h with h | h
          · exact absurd hk1 (y2 t ht h)
          · exact x5 t ht h hk1
        · rw [upd_n hrk]
          rcases n1 r hr c1 with ⟨w1, w2⟩ | ⟨v, w1, w2, w3, w4, w5⟩
          · exact Or.inl ⟨w1, fun t ht h => w2 t ht ((mg_in h3 h5 hrk c2).mp h)⟩
          · exact Or.inr ⟨v, w1, w2, (mg_in h3 h5 hrk c2).mpr w3, w4, fun t ht h => w5 t ht ((mg_in h3 h5 hrk c2).mp h)⟩
      · exact f.elim
    · rw [if_neg (by rw [y1]; exact nI_m1 (by omega))]
      refine ⟨_, C1, rfl, frS _, Or.inr ⟨by simp (disch := omega) only [wrr_n, wrr_e, upd_e], v, u, y2, x2, ?_, y4, x4, ?_⟩, frA _, hmem, fr5 _⟩
      · intro e
        subst e
        exact h5 (y3.symm.trans x3)
      · unfold mg
        rw [y3, x3, if_neg h5, if_pos rfl]
end UNI
end
section
/-! pairs, rows, and the table of terms by the roots of their parts -/
theorem putPair_ok {C : List Nat} {Q : List (Nat × Nat)} {z : fS} {a b : Nat} (h : HA C Q z) (hq : Q.length < 242) : ∃ z', fX0_putPair z (nI a) (nI b) = some z' ∧ HA C (Q ++ [(a, b)]) z' ∧ (∀ j, j ≠ 23 → j ≠ 24 → j ≠ 25 → z' j = z j) := by
  obtain ⟨h1, h2, h3, h4, h5, h6, h7⟩ := h
  refine ⟨wrr (wrr (wrr z 24 (upd (z 24) Q.length (nI a))) 25 (upd (z 25) Q.length (nI b))) 23 (upd (z 23) 4 (nI (Q.length + 1))), ?_, ?_, ?_⟩
  · unfold fX0_putPair
    simp (disch := omega) only [lit, h1, nI_leI, if_neg, inb_t, gd_t, wr_nI, bnd_s, wrr_n, wrr_e, wf_w, nI_add]
  · refine ⟨?_, ?_, ?_, ?_, h5, h6, ?_⟩
    · simp (disch := omega) only [wrr_n, wrr_e, upd_e, List.length_append, List.length_singleton]
    · intro i hi
      simp (disch := omega) only [wrr_n, wrr_e]
      rcases Nat.lt_or_ge i Q.length with q | q
      · rw [upd_n (by omega), upd_n (by omega), gD_l q]; exact h2 i q
      · have e : i = Q.length := by simp at hi; omega
        subst e
        rw [upd_e, upd_e, gD_r]
        exact ⟨rfl, rfl⟩
    · simp (disch := omega) only [wrr_n, wrr_e, upd_n]; exact h3
    · intro i hi
      simp (disch := omega) only [wrr_n]; exact h4 i hi
    · intro u hu
      simp (disch := omega) only [wrr_n]; exact h7 u hu
  · intro j c1 c2 c3
    simp (disch := omega) only [wrr_n]
def RwI (T : List Tm) (pb k : Nat) (ro : Nat → Nat) (z : fS) : Prop :=
  ∀ r, r < k → ro r = r → (z (pb + 6) r = -1 ∧ ∀ t, t < k → ro t = r → kd T t ≠ nI 3) ∨ ∃ x, z (pb + 6) r = nI x ∧ x < k ∧ ro x = r ∧ kd T x = nI 3
theorem HT.part {T : List Tm} {z : fS} (h : HT T z) {t i : Nat} (ht : t < T.length) (hi : i < sz T t) (h3 : i < 3) : z 5 (3 * t + i) = nI (pt T t i) := by
  rw [(h.2 t ht).2.2.2 i h3, if_pos hi]
theorem nI_lt360 {x i : Nat} (hx : x < 120) (hi : i < 3) : 3 * x + i < 360 := by omega
section ROWS
variable {T : List Tm} {pb k keep lose : Nat} {ro : Nat → Nat} {Q : List (Nat × Nat)} {C : List Nat} {z : fS}
theorem uniteRows_ok (hp : isPb pb) (hk : k ≤ T.length) (hW : WT T) (hT : HT T z) (hR : RwI T pb k ro z) (hA : HA C Q z) (hq : Q.length < 240) (h1 : keep < k) (h2 : lose < k) (h3 : ro keep = keep) (h4 : ro lose = lose) (h5 : keep ≠ lose) :
    ∃ z' Q', fX4_uniteRows pb z (nI keep) (nI lose) = some z' ∧ RwI T pb k (mg ro keep lose) z' ∧ HA C Q' z' ∧ ((Q' = Q ∧ ((z (pb + 6) keep = -1 ∧ z' (pb + 6) = upd (z (pb + 6)) keep (z (pb + 6) lose)) ∨ (z (pb + 6) lose = -1 ∧ z' (pb + 6) = z (pb + 6)))) ∨ ∃ x y, z (pb + 6) keep = nI x ∧ z (pb + 6) lose = nI y ∧ x < k ∧ y < k ∧ ro x = keep ∧ ro y = lose ∧ kd T x = nI 3 ∧ kd T y = nI 3 ∧ Q' = Q ++ [(pt T x 0, pt T y 0)] ++ [(pt T x 1, pt T y 1)] ∧ z' (pb + 6) = z (pb + 6)) ∧ (∀ j, j ≠ 23 → j ≠ 24 → j ≠ 25 → j ≠ pb + 6 → z' j = z j) := by
  have hpn := hp.ne
  have hT1 := hW.1
  have other : ∀ z' : fS, z' (pb + 6) keep = z (pb + 6) keep ∨ z' (pb + 6) keep = z (pb + 6) lose → (∀ r, r ≠ keep → z' (pb + 6) r = z (pb + 6) r) → ((z' (pb + 6) keep = -1 ∧ ∀ t, t < k → mg ro keep lose t = keep → kd T t ≠ nI 3) ∨ ∃ x, z' (pb + 6) keep = nI x ∧ x < k ∧ mg ro keep lose x = keep ∧ kd T x = nI 3) → RwI T pb k (mg ro keep lose) z' := by
    intro z' _ hr hkk r hr1 hr2
    rcases (mg_root h3 h5).mp hr2 with ⟨c1, c2⟩ | ⟨_, _, f⟩
    · by_cases e : r = keep
      · subst e; exact hkk
      · rw [hr r e]
        rcases hR r hr1 c1 with ⟨d1, d2⟩ | ⟨x, d1, d2, d3, d4⟩
        · exact Or.inl ⟨d1, fun t ht h => d2 t ht ((mg_in h3 h5 e c2).mp h)⟩
        · exact Or.inr ⟨x, d1, d2, (mg_in h3 h5 e c2).mpr d3, d4⟩
    · exact f.elim
  rcases hR keep h1 h3 with ⟨x1, x2⟩ | ⟨x, x1, x2, x3, x4⟩
  · refine ⟨wrr z (pb + 6) (upd (z (pb + 6)) keep (z (pb + 6) lose)), Q, ?_, ?_, ?_, Or.inl ⟨rfl, Or.inl ⟨x1, wrr_e⟩⟩, fun j c1 c2 c3 c4 => wrr_n c4⟩
    · unfold fX4_uniteRows
      simp (disch := omega) only [inb_t, gd_t, rd_nI, bnd_s, x1, if_true, wr_nI]
    · refine other _ (Or.inr (by rw [wrr_e, upd_e])) (fun r hr => by rw [wrr_e, upd_n hr]) ?_
      rw [wrr_e, upd_e]
      rcases hR lose h2 h4 with ⟨y1, y2⟩ | ⟨y, y1, y2, y3, y4⟩
      · refine Or.inl ⟨y1, fun t ht h => ?_⟩
        rcases (mg_keep h5).mp h with h | h
        · exact x2 t ht h
        · exact y2 t ht h
      · exact Or.inr ⟨y, y1, y2, (mg_keep h5).mpr (Or.inr y3), y4⟩
    · unfold HA
      simp (disch := omega) only [wrr_n]
      exact hA
  · rcases hR lose h2 h4 with ⟨y1, y2⟩ | ⟨y, y1, y2, y3, y4⟩
    · refine ⟨z, Q, ?_, ?_, hA, Or.inl ⟨rfl, Or.inr ⟨y1, rfl⟩⟩, fun j _ _ _ _ => rfl⟩
      · unfold fX4_uniteRows
        simp (disch := omega) only [inb_t, gd_t, rd_nI, bnd_s, x1, y1, litm, nI_m1n, if_false, if_true]
      · exact other _ (Or.inl rfl) (fun r hr => rfl) (Or.inr ⟨x, x1, x2, (mg_keep h5).mpr (Or.inl x3), x4⟩)
    · have sx : sz T x = 2 := (hW.2 x (by omega)).2.2.1 x4
      have sy : sz T y = 2 := (hW.2 y (by omega)).2.2.1 y4
      have px0 := hT.part (t := x) (i := 0) (by omega) (by omega) (by omega)
      have py0 := hT.part (t := y) (i := 0) (by omega) (by omega) (by omega)
      have px1 := hT.part (t := x) (i := 1) (by omega) (by omega) (by omega)
      have py1 := hT.part (t := y) (i := 1) (by omega) (by omega) (by omega)
      obtain ⟨z1, e1, e2, e3⟩ := putPair_ok (a := pt T x 0) (b := pt T y 0) hA (by omega)
      obtain ⟨z2, f1, f2, f3⟩ := putPair_ok (a := pt T x 1) (b := pt T y 1) e2 (by simp; omega)
      have g5 : z1 5 = z 5 := e3 5 (by omega) (by omega) (by omega)
      have g6 : z2 (pb + 6) = z (pb + 6) := (f3 _ (by omega) (by omega) (by omega)).trans (e3 _ (by omega) (by omega) (by omega))
      refine ⟨z2, _, ?_, ?_, f2, Or.inr ⟨x, y, x1, y1, x2, y2, x3, y3, x4, y4, rfl, g6⟩, fun j c1 c2 c3 _ => (f3 j c1 c2 c3).trans (e3 j c1 c2 c3)⟩
      · unfold fX4_uniteRows
        simp only [Nat.add_zero] at px0 py0
        simp (disch := omega) only [inb_t, gd_t, rd_nI, bnd_s, x1, y1, litm, nI_m1n, if_false, lit, nI_mul, nI_add, px0, py0, e1, bp_s, g5, px1, py1, f1]
      · exact other _ (Or.inl (by rw [g6])) (fun r hr => by rw [g6]) (Or.inr ⟨x, by rw [g6]; exact x1, x2, (mg_keep h5).mpr (Or.inl x3), x4⟩)
end ROWS
/-! hashes -/
def hx5 (a b c d e : Int32) : Int32 := ((((((((a * (31 : Int32)) + b) * (127 : Int32)) + c) * (127 : Int32)) + d) * (127 : Int32)) + e)
def hsh (a b c d e : Int32) : Int32 := ((hx5 a b c d e * (-1640531535 : Int32)).toUInt32 >>> ((25 : Int32).toUInt32 &&& Int32.toUInt32 31)).toInt32
theorem nI_ofBV (x : Int32) : x = nI x.toBitVec.toNat := by
  apply Int32.toBitVec_inj.1
  apply BitVec.eq_of_toNat_eq
  have h : x.toBitVec.toNat < 2 ^ 32 := x.toBitVec.isLt
  rw [pk_tn h]
theorem hsh_lt (a b c d e : Int32) : ∃ h, h < 128 ∧ hsh a b c d e = nI h := by
  refine ⟨(hsh a b c d e).toBitVec.toNat, ?_, nI_ofBV _⟩
  unfold hsh
  rw [pk_ushr _ _ 25 (by decide)]
  have h : ∀ x : Int32, x.toBitVec.toNat < 2 ^ 32 := fun x => x.toBitVec.isLt
  have := h (hx5 a b c d e * (-1640531535 : Int32))
  omega
theorem slotFor_ok (z : fS) (a b c d e : Int32) : fX8_slotFor z a b c d e = some (hsh a b c d e) := by
  unfold fX8_slotFor hsh hx5
  rw [bnd_s]
/-! the table -/
def HH (pb k : Nat) (z : fS) : Prop :=
  (∀ u, u < k → z (pb + 9) u = -1 ∨ ∃ s, s < 128 ∧ z (pb + 9) u = nI s) ∧ (∀ s, s < 128 → ∃ l, Lst (z (pb + 8)) (z (pb + 7) s) l ∧ l.Nodup ∧ ∀ u, u ∈ l ↔ u < k ∧ z (pb + 9) u = nI s)
/-- one cell less of a chain -/
theorem Lst.cut {nx : Nat → Int32} {x : Nat} : ∀ {l1 : List Nat} {p : Nat} {l2 : List Nat} {h : Int32}, Lst nx h (l1 ++ p :: x :: l2) → (l1 ++ p :: x :: l2).Nodup → Lst (upd nx p (nx x)) h (l1 ++ p :: l2)
  | [], p, l2, h, hL, hn => by
    simp only [List.nil_append] at hL hn ⊢
    obtain ⟨h1, h2, h3⟩ := hL
    refine ⟨h1, ?_⟩
    rw [upd_e]
    have hn1 := (List.nodup_cons.mp hn).1
    exact h3.ext fun y hy => upd_n (fun e => hn1 (e ▸ List.mem_cons_of_mem _ hy))
  | y :: l1, p, l2, h, hL, hn => by
    simp only [List.cons_append] at hL hn ⊢
    have hn1 := (List.nodup_cons.mp hn).1
    have hyp : y ≠ p := fun e => hn1 (by rw [e]; simp)
    refine ⟨hL.1, ?_⟩
    rw [upd_n hyp]
    exact Lst.cut hL.2 (List.nodup_cons.mp hn).2
section TAB
variable {T : List Tm} {pb k : Nat} {ro : Nat → Nat} {Q : List (Nat × Nat)} {C : List Nat} {z : fS}
theorem takeOut_loop {t : Nat} (ht : t < 120) : ∀ (l1 : List Nat) (p : Nat) (l2 : List Nat) (h : Int32) (s N : Nat), Lst (z (pb + 8)) h (l1 ++ p :: t :: l2) → (∀ x, x ∈ l1 ++ p :: t :: l2 → x < 120) → (l1 ++ p :: t :: l2).Nodup → s + l1.length < 120 → l1.length < N → lX4_takeOut_53 pb z (nI t) N h (nI s) = some (wrr z (pb + 8) (upd (z (pb + 8)) p (z (pb + 8) t)))
  | [], p, l2, h, s, N, hL, hb, hn, hs, hN => by
    obtain ⟨N, rfl⟩ : ∃ M, N = M + 1 := ⟨N - 1, by omega⟩
    simp only [List.nil_append] at hL hb hn
    obtain ⟨rfl, h2, h3⟩ := hL
    have hp := hb p List.mem_cons_self
    simp only [List.length_nil] at hs
    rw [lX4_takeOut_53.eq_2]
    simp (disch := omega) only [lit, litm, nI_leI, if_neg, nI_m1n, if_false, inb_t, gd_t, rd_nI, h2, if_true, bnd_s, wr_nI]
  | y :: l1, p, l2, h, s, N, hL, hb, hn, hs, hN => by
    obtain ⟨N, rfl⟩ : ∃ M, N = M + 1 := ⟨N - 1, by omega⟩
    simp only [List.cons_append] at hL hb hn
    simp only [List.length_cons] at hs hN
    obtain ⟨rfl, hL⟩ := hL
    have hy := hb y List.mem_cons_self
    have ih := takeOut_loop ht l1 p l2 (z (pb + 8) y) (s + 1) N hL (fun x hx => hb x (List.mem_cons_of_mem _ hx)) (List.nodup_cons.mp hn).2 (by omega) (by omega)
    -- the next one isn't t
    have hnt : ∃ w, z (pb + 8) y = nI w ∧ w < 120 ∧ w ≠ t := by
      cases l1 with
      | nil =>
        simp only [List.nil_append] at hL hn
        refine ⟨p, hL.1, hb p (by simp), fun e => ?_⟩
        have := (List.nodup_cons.mp (List.nodup_cons.mp hn).2).1
        exact this (by rw [e]; simp)
      | cons w l1 =>
        simp only [List.cons_append] at hL hn
        refine ⟨w, hL.1, hb w (by simp), fun e => ?_⟩
        have := (List.nodup_cons.mp (List.nodup_cons.mp hn).2).1
        exact this (by rw [e]; simp)
    obtain ⟨w, w1, w2, w3⟩ := hnt
    rw [w1] at ih
    rw [lX4_takeOut_53.eq_2]
    simp (disch := omega) only [lit, litm, nI_leI, if_neg, nI_m1n, if_false, inb_t, gd_t, rd_nI, w1, nI_eq, bnd_s, nI_add]
    exact ih
theorem takeOut_ok {t : Nat} (hp : isPb pb) (hk : k ≤ 120) (hH : HH pb k z) (ht : t < k) : ∃ z', fX4_takeOut pb z (nI t) = some z' ∧ HH pb k z' ∧ z' (pb + 9) = upd (z (pb + 9)) t (-1) ∧ (∀ j, j ≠ pb + 7 → j ≠ pb + 8 → j ≠ pb + 9 → z' j = z j) := by
  have hpn := hp.ne
  rcases hH.1 t ht with h | ⟨s, hs, h⟩
  · refine ⟨z, ?_, hH, ?_, fun _ _ _ _ => rfl⟩
    · unfold fX4_takeOut
      simp (disch := omega) only [inb_t, gd_t, rd_nI, h, bnd_s, if_true]
    · rw [← h, upd_id]
  · obtain ⟨l, l1, l2, l3⟩ := hH.2 s hs
    have hm : t ∈ l := (l3 t).mpr ⟨ht, h⟩
    have hb : ∀ x, x ∈ l → x < 120 := fun x hx => by have := ((l3 x).mp hx).1; omega
    have hlen : l.length ≤ 120 := nodup_lt l2 hb
    -- other buckets
    have oth : ∀ (s' : Nat), s' < 128 → s' ≠ s → ∃ l', Lst (z (pb + 8)) (z (pb + 7) s') l' ∧ l'.Nodup ∧ (∀ u, u ∈ l' ↔ u < k ∧ upd (z (pb + 9)) t (-1) u = nI s') ∧ ∀ x, x ∈ l → x ∉ l' := by
      intro s' hs' hne
      obtain ⟨l', a1, a2, a3⟩ := hH.2 s' hs'
      refine ⟨l', a1, a2, fun u => ?_, fun x hx hx' => ?_⟩
      · rw [a3 u]
        by_cases e : u = t
        · subst e
          rw [upd_e, h]
          constructor
          · rintro ⟨_, q⟩; exact absurd ((nI_eq (by omega) (by omega)).mp q).symm hne
          · rintro ⟨_, q⟩; exact absurd q.symm (nI_m1 (by omega))
        · rw [upd_n e]
      · have e1 := ((l3 x).mp hx).2
        have e2 := ((a3 x).mp hx').2
        rw [e1] at e2
        exact hne ((nI_eq (by omega) (by omega)).mp e2).symm
    have slots : ∀ u, u < k → upd (z (pb + 9)) t (-1) u = -1 ∨ ∃ s, s < 128 ∧ upd (z (pb + 9)) t (-1) u = nI s := by
      intro u hu
      by_cases e : u = t
      · subst e; rw [upd_e]; exact Or.inl rfl
      · rw [upd_n e]; exact hH.1 u hu
    obtain ⟨la, lb, hl⟩ := List.append_of_mem hm
    subst hl
    have memE : ∀ u, (u ∈ la ∨ u ∈ lb) ↔ u < k ∧ upd (z (pb + 9)) t (-1) u = nI s := by
      intro u
      have hu := l3 u
      have hnd := List.nodup_append.mp l2
      by_cases e : u = t
      · subst e
        rw [upd_e]
        constructor
        · rintro (q | q)
          · exact absurd rfl (hnd.2.2 u q u List.mem_cons_self)
          · exact absurd q (List.nodup_cons.mp hnd.2.1).1
        · rintro ⟨_, q⟩; exact absurd q.symm (nI_m1 (by omega))
      · rw [upd_n e, ← hu]
        simp [e]
    cases la with
    | nil =>
      simp only [List.nil_append] at l1 l2 l3 hb memE
      obtain ⟨b1, b2⟩ := l1
      refine ⟨wrr (wrr z (pb + 9) (upd (z (pb + 9)) t (-1))) (pb + 7) (upd (z (pb + 7)) s (z (pb + 8) t)), ?_, ⟨?_, ?_⟩, ?_, ?_⟩
      · unfold fX4_takeOut
        simp (disch := omega) only [inb_t, gd_t, rd_nI, h, bnd_s, litm, nI_m1n, if_false, wr_nI, wrr_n, b1, if_true]
      · intro u hu
        simp (disch := omega) only [wrr_n, wrr_e]
        exact slots u hu
      · intro s' hs'
        simp (disch := omega) only [wrr_n, wrr_e]
        by_cases e : s' = s
        · subst e
          rw [upd_e]
          exact ⟨lb, b2, (List.nodup_cons.mp l2).2, fun u => by rw [← memE u]; simp⟩
        · rw [upd_n e]
          obtain ⟨l', c1, c2, c3, c4⟩ := oth s' hs' e
          exact ⟨l', c1, c2, c3⟩
      · simp (disch := omega) only [wrr_n, wrr_e]
      · intro j c1 c2 c3
        simp (disch := omega) only [wrr_n]
    | cons x la =>
      -- the cell ahead of t
      obtain ⟨l0, p, hlp⟩ : ∃ l0 p, x :: la = l0 ++ [p] := ⟨(x :: la).dropLast, (x :: la).getLast (by simp), (List.dropLast_concat_getLast (by simp)).symm⟩
      rw [hlp] at l1 l2 l3 hb hm memE hlen
      simp only [List.append_assoc, List.singleton_append] at l1 l2 l3 hb hm
      have hxt : x ≠ t := by
        intro e
        have hnd := List.nodup_append.mp (show ((x :: la) ++ t :: lb).Nodup by rw [hlp]; simpa using l2)
        exact hnd.2.2 x List.mem_cons_self t List.mem_cons_self e
      have hxh : z (pb + 7) s = nI x := by
        have : Lst (z (pb + 8)) (z (pb + 7) s) ((x :: la) ++ t :: lb) := by rw [hlp]; simpa using l1
        exact this.1
      have hx120 : x < 120 := hb x (by
        have : x ∈ (x :: la) ++ t :: lb := by simp
        rw [hlp] at this; simpa using this)
      have lp := takeOut_loop (z := wrr z (pb + 9) (upd (z (pb + 9)) t (-1))) (pb := pb) (show t < 120 by omega) l0 p lb (z (pb + 7) s) 0 FU (by rw [wrr_n (by omega)]; exact l1) hb l2 (by simp at hlen; omega) (by have := FU_ge; simp at hlen; omega)
      rw [wrr_n (show pb + 8 ≠ pb + 9 by omega), hxh] at lp
      refine ⟨wrr (wrr z (pb + 9) (upd (z (pb + 9)) t (-1))) (pb + 8) (upd (z (pb + 8)) p (z (pb + 8) t)), ?_, ⟨?_, ?_⟩, ?_, ?_⟩
      · unfold fX4_takeOut
        simp (disch := omega) only [inb_t, gd_t, rd_nI, h, bnd_s, litm, nI_m1n, if_false, wr_nI, wrr_n, hxh, nI_eq, if_neg, lit]
        exact lp
      · intro u hu
        simp (disch := omega) only [wrr_n, wrr_e]
        exact slots u hu
      · intro s' hs'
        simp (disch := omega) only [wrr_n, wrr_e]
        by_cases e : s' = s
        · subst e
          refine ⟨l0 ++ p :: lb, Lst.cut l1 l2, ?_, fun u => ?_⟩
          · have hnd := List.nodup_append.mp l2
            refine List.nodup_append.mpr ⟨hnd.1, ?_, fun a ha b hb' => ?_⟩
            · have h2 := List.nodup_cons.mp hnd.2.1
              exact List.nodup_cons.mpr ⟨fun q => h2.1 (List.mem_cons_of_mem _ q), (List.nodup_cons.mp h2.2).2⟩
            · refine hnd.2.2 a ha b ?_
              rcases List.mem_cons.mp hb' with rfl | hb'
              · exact List.mem_cons_self
              · exact List.mem_cons_of_mem _ (List.mem_cons_of_mem _ hb')
          · rw [← memE u]
            simp [or_assoc]
        · obtain ⟨l', c1, c2, c3, c4⟩ := oth s' hs' e
          refine ⟨l', c1.ext fun y hy => ?_, c2, c3⟩
          have hpy : y ≠ p := by
            intro e2
            refine c4 p ?_ (e2 ▸ hy)
            rw [hlp]; simp
          rw [upd_n hpy]
      · simp (disch := omega) only [wrr_n, wrr_e]
      · intro j c1 c2 c3
        simp (disch := omega) only [wrr_n]
end TAB
end
section
/-! finding the place of a term anew -/
abbrev Rq (ro : Nat → Nat) : Nat → Nat → Prop := fun a b => ro a = ro b
def rp (T : List Tm) (ro : Nat → Nat) (t i : Nat) : Int32 := if i < sz T t then nI (ro (pt T t i)) else -1
def sg (T : List Tm) (ro : Nat → Nat) (t : Nat) : Int32 :=
  if kd T t = nI 4 ∧ ¬ rp T ro t 0 ≤ rp T ro t 1 then hsh (kd T t) (sh T t) (rp T ro t 1) (rp T ro t 0) (rp T ro t 2) else hsh (kd T t) (sh T t) (rp T ro t 0) (rp T ro t 1) (rp T ro t 2)
theorem sg_lt (T : List Tm) (ro : Nat → Nat) (t : Nat) : ∃ h, h < 128 ∧ sg T ro t = nI h := by
  unfold sg; split <;> exact hsh_lt _ _ _ _ _
section ALIKE
variable {T : List Tm} {pb k : Nat} {ro : Nat → Nat} {z : fS}
theorem ByP.sm {R : Nat → Nat → Prop} (hs : ∀ a b, R a b → R b a) {a b : Nat} (h : ByP T R a b) : ByP T R b a := by
  obtain ⟨h0, h1, h2, h3, h4⟩ := h
  refine ⟨by omega, h1.symm, h2.symm, h3.symm, ?_⟩
  rcases h4 with h4 | ⟨h4, h5, h6⟩
  · exact Or.inl fun i hi => hs _ _ (h4 i (by omega))
  · exact Or.inr ⟨h1 ▸ h4, hs _ _ h6, hs _ _ h5⟩
theorem ByP.tr (hW : WT T) {R : Nat → Nat → Prop} (ht : ∀ a b c, R a b → R b c → R a c) {a b c : Nat} (ha : a < T.length) (h : ByP T R a b) (g : ByP T R b c) : ByP T R a c := by
  obtain ⟨h0, h1, h2, h3, h4⟩ := h
  obtain ⟨g0, g1, g2, g3, g4⟩ := g
  refine ⟨h0, h1.trans g1, h2.trans g2, h3.trans g3, ?_⟩
  rcases h4 with h4 | ⟨h4, h5, h6⟩ <;> rcases g4 with g4 | ⟨g4, g5, g6⟩
  · exact Or.inl fun i hi => ht _ _ _ (h4 i hi) (g4 i (by omega))
  · have s2 : sz T a = 2 := (hW.2 a ha).2.2.2.1 (h1.trans g4)
    exact Or.inr ⟨h1.trans g4, ht _ _ _ (h4 0 (by omega)) g5, ht _ _ _ (h4 1 (by omega)) g6⟩
  · have s2 : sz T a = 2 := (hW.2 a ha).2.2.2.1 h4
    exact Or.inr ⟨h4, ht _ _ _ h5 (g4 1 (by omega)), ht _ _ _ h6 (g4 0 (by omega))⟩
  · have s2 : sz T a = 2 := (hW.2 a ha).2.2.2.1 h4
    refine Or.inl fun i hi => ?_
    rcases (show i = 0 ∨ i = 1 by omega) with rfl | rfl
    · exact ht _ _ _ h5 g6
    · exact ht _ _ _ h6 g5
theorem sg_alike (hW : WT T) {t u : Nat} (ht : t < T.length) (hro : ∀ i, i < sz T t → ro (pt T t i) < 120) (h : ByP T (Rq ro) t u) : sg T ro t = sg T ro u := by
  obtain ⟨h0, h1, h2, h3, h4⟩ := h
  rcases h4 with h4 | ⟨h4, h5, h6⟩
  · have hr : ∀ i, rp T ro t i = rp T ro u i := fun i => by
      unfold rp
      by_cases hi : i < sz T t
      · rw [if_pos hi, if_pos (by omega), show ro (pt T t i) = ro (pt T u i) from h4 i hi]
      · rw [if_neg hi, if_neg (by omega)]
    unfold sg
    rw [hr 0, hr 1, hr 2, h1, h2]
  · have s2 : sz T t = 2 := (hW.2 t ht).2.2.2.1 h4
    have r0 : rp T ro t 0 = rp T ro u 1 := by unfold rp; rw [if_pos (by omega), if_pos (by omega)]; exact congrArg nI h5
    have r1 : rp T ro t 1 = rp T ro u 0 := by unfold rp; rw [if_pos (by omega), if_pos (by omega)]; exact congrArg nI h6
    have r2 : rp T ro t 2 = rp T ro u 2 := by unfold rp; rw [if_neg (by omega), if_neg (by omega)]
    have v0 : rp T ro u 0 = nI (ro (pt T t 1)) := by rw [← r1]; unfold rp; rw [if_pos (by omega)]
    have v1 : rp T ro u 1 = nI (ro (pt T t 0)) := by rw [← r0]; unfold rp; rw [if_pos (by omega)]
    have b0 := hro 0 (by omega)
    have b1 := hro 1 (by omega)
    unfold sg
    rw [r0, r1, r2, ← h1, ← h2, v0, v1]
    simp (disch := omega) only [nI_leI]
    by_cases q : ro (pt T t 0) = ro (pt T t 1)
    · rw [q]
    · by_cases q2 : ro (pt T t 0) ≤ ro (pt T t 1)
      · rw [if_neg (fun x => x.2 q2), if_pos ⟨h4, by omega⟩]
      · rw [if_pos ⟨h4, q2⟩, if_neg (fun x => x.2 (by omega))]
theorem rootOfPart_ok (hT : HT T z) (hS : PS pb k ro z) (hW : WT T) {t i : Nat} (ht : t < T.length) (htk : t < k) (hi : i < 3) : fX4_rootOfPart pb z (nI t) (nI i) = some (rp T ro t i) := by
  have hT1 := hW.1
  have e4 := (hT.2 t ht).2.2.1
  have hsz := (hW.2 t ht).1
  unfold fX4_rootOfPart rp
  by_cases q : i < sz T t
  · have hp := (hW.2 t ht).2.1 i q
    have e5 := hT.part ht q hi
    have e1 := (hS.2.2.1 (pt T t i) (by omega)).1
    simp (disch := omega) only [inb_t, gd_t, rd_nI, e4, nI_leI, if_neg, if_pos, lit, nI_mul, nI_add, e5, e1]
  · simp (disch := omega) only [inb_t, gd_t, rd_nI, e4, nI_leI, if_neg, if_pos]
theorem alike_loop (hT : HT T z) (hS : PS pb k ro z) (hW : WT T) {t u : Nat} (ht : t < k) (hu : u < k) (hk : k ≤ T.length) (hs : sz T t = sz T u) {k146 : Int32 → Option Int32} : ∀ (d i N : Nat), i + d = sz T t → d < N → ∃ b, lX4_isBuiltAlike_83 pb k146 z (nI t) (nI (sz T t)) (nI (3 * t)) (nI (3 * u)) N (nI 1) (nI i) = k146 (nI b) ∧ ((b = 1 ∧ ∀ j, i ≤ j → j < sz T t → ro (pt T t j) = ro (pt T u j)) ∨ (b = 0 ∧ ¬ ∀ j, i ≤ j → j < sz T t → ro (pt T t j) = ro (pt T u j))) := by
  have hT1 := hW.1
  have hsz := (hW.2 t (by omega)).1
  intro d
  induction d with
  | zero =>
    intro i N hi hN
    obtain ⟨N, rfl⟩ : ∃ M, N = M + 1 := ⟨N - 1, by omega⟩
    refine ⟨1, ?_, Or.inl ⟨rfl, fun j h1 h2 => by omega⟩⟩
    rw [lX4_isBuiltAlike_83.eq_2]
    simp (disch := omega) only [nI_leI, if_pos]
  | succ d ih =>
    intro i N hi hN
    obtain ⟨N, rfl⟩ : ∃ M, N = M + 1 := ⟨N - 1, by omega⟩
    have p1 := hT.part (t := t) (i := i) (by omega) (by omega) (by omega)
    have p2 := hT.part (t := u) (i := i) (by omega) (by omega) (by omega)
    have q1 := (hW.2 t (by omega)).2.1 i (by omega)
    have q2 := (hW.2 u (by omega)).2.1 i (by omega)
    have r1 := hS.2.2.1 (pt T t i) (by omega)
    have r2 := hS.2.2.1 (pt T u i) (by omega)
    have hkk := hS.2.1
    rw [lX4_isBuiltAlike_83.eq_2]
    by_cases q : ro (pt T t i) = ro (pt T u i)
    · obtain ⟨b, e1, e2⟩ := ih (i + 1) N (by omega) (by omega)
      refine ⟨b, ?_, ?_⟩
      · simp (disch := omega) only [nI_leI, if_neg, lit, nI_eq, nI_add, inb_t, gd_t, rd_nI, p1, p2, r1.1, r2.1, if_pos, bnd_s]
        exact e1
      · rcases e2 with ⟨e2, e3⟩ | ⟨e2, e3⟩
        · refine Or.inl ⟨e2, fun j h1 h2 => ?_⟩
          rcases Nat.eq_or_lt_of_le h1 with rfl | h1
          · exact q
          · exact e3 j h1 h2
        · exact Or.inr ⟨e2, fun h => e3 fun j h1 h2 => h j (by omega) h2⟩
    · refine ⟨0, ?_, Or.inr ⟨rfl, fun h => q (h i (Nat.le_refl _) (by omega))⟩⟩
      obtain ⟨M, rfl⟩ : ∃ M, N = M + 1 := ⟨N - 1, by omega⟩
      simp (disch := omega) only [nI_leI, if_neg, lit, nI_eq, nI_add, inb_t, gd_t, rd_nI, p1, p2, r1.1, r2.1, if_pos, bnd_s]
      rw [lX4_isBuiltAlike_83.eq_2]
      simp only [lit, if_true, ite_self]
theorem alike_ok (hT : HT T z) (hS : PS pb k ro z) (hW : WT T) {t u : Nat} (ht : t < k) (hu : u < k) (hk : k ≤ T.length) (h0 : 0 < sz T t) : ∃ b, fX4_isBuiltAlike pb z (nI t) (nI u) = some (nI b) ∧ ((b = 1 ∧ ByP T (Rq ro) t u) ∨ (b = 0 ∧ ¬ ByP T (Rq ro) t u)) := by
  have hT1 := hW.1
  have hsz := (hW.2 t (by omega)).1
  obtain ⟨a2, a3, a4, a5⟩ := hT.2 t (by omega)
  obtain ⟨b2, b3, b4, b5⟩ := hT.2 u (by omega)
  unfold fX4_isBuiltAlike
  simp (disch := omega) only [inb_t, gd_t, rd_nI, bnd_s, a2, a3, a4, b2, b3, b4]
  by_cases q1 : kd T t = kd T u
  · rw [if_pos q1]
    by_cases q2 : sh T t = sh T u
    · rw [if_pos q2]
      have hsu := (hW.2 u (by omega)).1
      by_cases q3 : sz T t = sz T u
      · rw [if_pos (by rw [q3])]
        simp only [lit, nI_mul]
        obtain ⟨b, e1, e2⟩ := alike_loop hT hS hW ht hu hk q3 (k146 := jX4_isBuiltAlike_146 pb z (nI t) (nI (3 * t)) (nI (3 * u))) (sz T t) 0 FU (by omega) (by have := FU_ge; omega)
        rw [e1]
        rcases e2 with ⟨rfl, e2⟩ | ⟨rfl, e2⟩
        · refine ⟨1, ?_, Or.inl ⟨rfl, h0, q1, q2, q3, Or.inl fun i hi => e2 i (Nat.zero_le _) hi⟩⟩
          unfold jX4_isBuiltAlike_146
          simp (disch := omega) only [lit, nI_eq, if_neg, isb_1, gd_t]
        · unfold jX4_isBuiltAlike_146
          simp (disch := omega) only [lit, if_true, inb_t, gd_t, rd_nI, a2]
          by_cases q4 : kd T t = nI 4
          · rw [if_pos q4]
            have s2 : sz T t = 2 := (hW.2 t (by omega)).2.2.2.1 q4
            have p10 := hT.part (t := t) (i := 0) (by omega) (by omega) (by omega)
            have p11 := hT.part (t := t) (i := 1) (by omega) (by omega) (by omega)
            have p20 := hT.part (t := u) (i := 0) (by omega) (by omega) (by omega)
            have p21 := hT.part (t := u) (i := 1) (by omega) (by omega) (by omega)
            have w10 := (hW.2 t (by omega)).2.1 0 (by omega)
            have w11 := (hW.2 t (by omega)).2.1 1 (by omega)
            have w20 := (hW.2 u (by omega)).2.1 0 (by omega)
            have w21 := (hW.2 u (by omega)).2.1 1 (by omega)
            have r10 := hS.2.2.1 (pt T t 0) (by omega)
            have r11 := hS.2.2.1 (pt T t 1) (by omega)
            have r20 := hS.2.2.1 (pt T u 0) (by omega)
            have r21 := hS.2.2.1 (pt T u 1) (by omega)
            have hkk := hS.2.1
            simp only [Nat.add_zero] at p10 p20
            simp (disch := omega) only [inb_t, gd_t, rd_nI, nI_add, p10, p11, p20, p21, r10.1, r11.1, r20.1, r21.1, nI_eq]
            by_cases q5 : ro (pt T t 0) = ro (pt T u 1)
            · rw [if_pos q5]
              by_cases q6 : ro (pt T t 1) = ro (pt T u 0)
              · rw [if_pos q6]
                exact ⟨1, rfl, Or.inl ⟨rfl, h0, q1, q2, q3, Or.inr ⟨q4, q5, q6⟩⟩⟩
              · rw [if_neg q6]
                refine ⟨0, rfl, Or.inr ⟨rfl, fun h => ?_⟩⟩
                rcases h.2.2.2.2 with h | ⟨_, _, h⟩
                · exact e2 fun j _ hj => h j hj
                · exact q6 h
            · rw [if_neg q5]
              refine ⟨0, rfl, Or.inr ⟨rfl, fun h => ?_⟩⟩
              rcases h.2.2.2.2 with h | ⟨_, h, _⟩
              · exact e2 fun j _ hj => h j hj
              · exact q5 h
          · rw [if_neg q4]
            refine ⟨0, by rw [isb_0]; rfl, Or.inr ⟨rfl, fun h => ?_⟩⟩
            rcases h.2.2.2.2 with h | ⟨h, _, _⟩
            · exact e2 fun j _ hj => h j hj
            · exact q4 h
      · rw [if_neg (by rw [nI_eq (by omega) (by omega)]; exact q3)]
        exact ⟨0, rfl, Or.inr ⟨rfl, fun h => q3 h.2.2.2.1⟩⟩
    · rw [if_neg q2]
      exact ⟨0, rfl, Or.inr ⟨rfl, fun h => q2 h.2.2.1⟩⟩
  · rw [if_neg q1]
    exact ⟨0, rfl, Or.inr ⟨rfl, fun h => q1 h.2.1⟩⟩
theorem review_loop (hT : HT T z) (hS : PS pb k ro z) (hW : WT T) {t : Nat} (ht : t < k) (hk : k ≤ T.length) (h0 : 0 < sz T t) {k154 : Option fS} {v5 : Int32} : ∀ (l : List Nat) (h : Int32) (s N : Nat), Lst (z (pb + 8)) h l → (∀ x, x ∈ l → x < k) → s + l.length ≤ 120 → l.length < N → (∃ u, u ∈ l ∧ ByP T (Rq ro) t u ∧ lX4_review_105 pb k154 z (nI t) v5 N h (nI s) = bp (fX0_putPair z (nI t) (nI u)) fun z135 => some z135) ∨ ((∀ u, u ∈ l → ¬ ByP T (Rq ro) t u) ∧ lX4_review_105 pb k154 z (nI t) v5 N h (nI s) = k154)
  | [], h, s, N, hL, hb, hs, hN => by
    obtain ⟨N, rfl⟩ : ∃ M, N = M + 1 := ⟨N - 1, by omega⟩
    have hh : h = -1 := hL
    subst hh
    refine Or.inr ⟨fun u hu => by simp at hu, ?_⟩
    rw [lX4_review_105.eq_2]
    simp only [if_true, ite_self]
  | x :: l, h, s, N, hL, hb, hs, hN => by
    obtain ⟨N, rfl⟩ : ∃ M, N = M + 1 := ⟨N - 1, by omega⟩
    simp only [List.length_cons] at hs hN
    obtain ⟨rfl, hL⟩ := hL
    have hx := hb x List.mem_cons_self
    have hkk := hS.2.1
    obtain ⟨b, e1, e2⟩ := alike_ok hT hS hW ht hx hk h0
    rw [lX4_review_105.eq_2]
    rcases e2 with ⟨rfl, e2⟩ | ⟨rfl, e2⟩
    · refine Or.inl ⟨x, List.mem_cons_self, e2, ?_⟩
      simp (disch := omega) only [lit, litm, nI_leI, if_neg, nI_m1n, if_false, e1, bp_s, nI_eq]
    · have ih := review_loop hT hS hW ht hk h0 (k154 := k154) (v5 := v5) l (z (pb + 8) x) (s + 1) N hL (fun y hy => hb y (List.mem_cons_of_mem _ hy)) (by omega) (by omega)
      have step : (if (120 : Int32) ≤ nI s then k154 else if nI x = (-1 : Int32) then k154 else bp (fX4_isBuiltAlike pb z (nI t) (nI x)) fun r122 => if r122 = 0 then gd (inb (nI x) 120) <| bnd (rd z (pb + 8) (nI x)) fun x146 => bnd (nI s + (1 : Int32)) fun x148 => (lX4_review_105 pb k154 z (nI t) v5 N) x146 x148 else bp (fX0_putPair z (nI t) (nI x)) fun z135 => some z135) = lX4_review_105 pb k154 z (nI t) v5 N (z (pb + 8) x) (nI (s + 1)) := by
        simp (disch := omega) only [lit, litm, nI_leI, if_neg, nI_m1n, if_false, e1, bp_s, if_true, inb_t, gd_t, rd_nI, bnd_s, nI_add]
      rw [step]
      rcases ih with ⟨u, i1, i2, i3⟩ | ⟨i1, i2⟩
      · exact Or.inl ⟨u, List.mem_cons_of_mem _ i1, i2, i3⟩
      · refine Or.inr ⟨fun u hu => ?_, i2⟩
        rcases List.mem_cons.mp hu with rfl | hu
        · exact e2
        · exact i1 u hu
theorem rp_ne {t i : Nat} (h : i < sz T t) : rp T ro t i = nI (ro (pt T t i)) := by unfold rp; rw [if_pos h]
theorem review_calc (hT : HT T z) (hS : PS pb k ro z) (hW : WT T) {t : Nat} (ht : t < k) (hk : k ≤ T.length) (h0 : 0 < sz T t) {z2 : fS} (hz : fX4_takeOut pb z (nI t) = some z2) (hT2 : HT T z2) (hS2 : PS pb k ro z2) : fX4_review pb z (nI t) = gd (inb (sg T ro t) 128) (lX4_review_105 pb (jX4_review_154 pb z2 (nI t) (sg T ro t)) z2 (nI t) (sg T ro t) FU (rd z2 (pb + 7) (sg T ro t)) (nI 0)) := by
  have hT1 := hW.1
  have e0 := rootOfPart_ok hT2 hS2 hW (t := t) (i := 0) (by omega) ht (by omega)
  have e1 := rootOfPart_ok hT2 hS2 hW (t := t) (i := 1) (by omega) ht (by omega)
  have e2 := rootOfPart_ok hT2 hS2 hW (t := t) (i := 2) (by omega) ht (by omega)
  obtain ⟨a2, a3, a4, a5⟩ := hT2.2 t (by omega)
  unfold fX4_review
  simp (disch := omega) only [hz, bp_s, lit, e0, e1, inb_t, gd_t, rd_nI, a2]
  unfold jX4_review_42
  simp (disch := omega) only [inb_t, gd_t, rd_nI, a2, a3, lit, if_true]
  unfold jX4_review_72 jX4_review_82
  simp (disch := omega) only [lit, if_true, nI_eq, if_neg, e2, bp_s, slotFor_ok, bnd_s]
  unfold sg
  by_cases q : kd T t = nI 4
  · by_cases q2 : rp T ro t 0 ≤ rp T ro t 1
    · rw [if_pos q, if_pos q2, if_neg (fun x => x.2 q2)]
    · rw [if_pos q, if_neg q2, if_pos ⟨q, q2⟩]
  · rw [if_neg q, if_neg (fun x => q x.1)]
end ALIKE
section REV
variable {T : List Tm} {pb k : Nat} {ro : Nat → Nat} {Q : List (Nat × Nat)} {C : List Nat} {z : fS}
theorem PS.fr {z' : fS} (hS : PS pb k ro z) (e : ∀ j, pb ≤ j → j ≤ pb + 5 → z' j = z j) : PS pb k ro z' := by
  unfold PS
  rw [e pb (by omega) (by omega), e (pb + 1) (by omega) (by omega), e (pb + 2) (by omega) (by omega), e (pb + 3) (by omega) (by omega), e (pb + 4) (by omega) (by omega)]
  exact hS
theorem PN.fr {z' : fS} (hS : PN T pb k ro z) (e : ∀ j, pb ≤ j → j ≤ pb + 5 → z' j = z j) : PN T pb k ro z' := by
  unfold PN
  rw [e pb (by omega) (by omega), e (pb + 5) (by omega) (by omega)]
  exact hS
theorem HA.fr {z' : fS} (h : HA C Q z) (e : ∀ j, 23 ≤ j → j ≤ 27 → z' j = z j) : HA C Q z' := by
  unfold HA
  rw [e 23 (by omega) (by omega), e 24 (by omega) (by omega), e 25 (by omega) (by omega), e 26 (by omega) (by omega), e 27 (by omega) (by omega)]
  exact h
theorem HH.fr {z' : fS} (h : HH pb k z) (e : ∀ j, pb + 7 ≤ j → j ≤ pb + 9 → z' j = z j) : HH pb k z' := by
  unfold HH
  rw [e (pb + 7) (by omega) (by omega), e (pb + 8) (by omega) (by omega), e (pb + 9) (by omega) (by omega)]
  exact h
theorem RwI.fr {z' : fS} (h : RwI T pb k ro z) (e : z' (pb + 6) = z (pb + 6)) : RwI T pb k ro z' := by
  unfold RwI
  rw [e]
  exact h
theorem review_ok (hp : isPb pb) (hk : k ≤ T.length) (hW : WT T) (hT : HT T z) (hS : PS pb k ro z) (hH : HH pb k z) (hA : HA C Q z) (hq : Q.length < 242) {t : Nat} (ht : t < k) (h0 : 0 < sz T t) :
    ∃ z' Q', fX4_review pb z (nI t) = some z' ∧ HH pb k z' ∧ HA C Q' z' ∧ ((∃ u, u < k ∧ u ≠ t ∧ z (pb + 9) u ≠ -1 ∧ ByP T (Rq ro) t u ∧ Q' = Q ++ [(t, u)] ∧ z' (pb + 9) = upd (z (pb + 9)) t (-1)) ∨ ((∀ u, u < k → u ≠ t → z (pb + 9) u = sg T ro t → ¬ ByP T (Rq ro) t u) ∧ Q' = Q ∧ z' (pb + 9) = upd (z (pb + 9)) t (sg T ro t))) ∧ (∀ j, j ≠ 23 → j ≠ 24 → j ≠ 25 → ¬ (pb + 7 ≤ j ∧ j ≤ pb + 9) → z' j = z j) := by
  have hpn := hp.ne
  have hT1 := hW.1
  obtain ⟨z2, e1, e2, e3, e4⟩ := takeOut_ok hp (by omega) hH ht
  have hT2 : HT T z2 := hT.fr fun j hj => e4 j (by omega) (by omega) (by omega)
  have hS2 : PS pb k ro z2 := hS.fr fun j h1 h2 => e4 j (by omega) (by omega) (by omega)
  have hA2 : HA C Q z2 := hA.fr fun j h1 h2 => e4 j (by omega) (by omega) (by omega)
  obtain ⟨s, hs, es⟩ := sg_lt T ro t
  obtain ⟨l, l1, l2, l3⟩ := e2.2 s hs
  have hll : l.length ≤ 120 := nodup_lt l2 fun x hx => by have := ((l3 x).mp hx).1; omega
  have hc := review_calc hT hS hW ht hk h0 e1 hT2 hS2
  rw [es] at hc
  simp (disch := omega) only [inb_t, gd_t, rd_nI] at hc
  rcases review_loop hT2 hS2 hW ht hk h0 (k154 := jX4_review_154 pb z2 (nI t) (nI s)) (v5 := nI s) l (z2 (pb + 7) s) 0 FU l1 (fun x hx => ((l3 x).mp hx).1) (by omega) (by have := FU_ge; omega) with ⟨u, u1, u2, u3⟩ | ⟨u1, u2⟩
  · obtain ⟨hu1, hu2⟩ := (l3 u).mp u1
    have hut : u ≠ t := by
      intro e
      rw [e, e3, upd_e] at hu2
      exact nI_m1 (by omega) hu2.symm
    obtain ⟨z3, f1, f2, f3⟩ := putPair_ok (a := t) (b := u) hA2 hq
    refine ⟨z3, Q ++ [(t, u)], ?_, e2.fr fun j h1 h2 => f3 j (by omega) (by omega) (by omega), f2, Or.inl ⟨u, hu1, hut, ?_, u2, rfl, ?_⟩, fun j c1 c2 c3 c4 => (f3 j c1 c2 c3).trans (e4 j (by omega) (by omega) (by omega))⟩
    · rw [hc, u3, f1, bp_s]
    · rw [e3, upd_n hut] at hu2
      rw [hu2]
      exact nI_m1 (by omega)
    · rw [f3 _ (by omega) (by omega) (by omega)]; exact e3
  · have hsl : z2 (pb + 9) t = -1 := by rw [e3, upd_e]
    have htl : t ∉ l := fun h => by
      have := ((l3 t).mp h).2
      rw [hsl] at this
      exact nI_m1 (by omega) this.symm
    refine ⟨wrr (wrr (wrr z2 (pb + 9) (upd (z2 (pb + 9)) t (nI s))) (pb + 8) (upd (z2 (pb + 8)) t (z2 (pb + 7) s))) (pb + 7) (upd (z2 (pb + 7)) s (nI t)), Q, ?_, ⟨?_, ?_⟩, ?_, Or.inr ⟨fun u hu hut hus hby => ?_, rfl, ?_⟩, ?_⟩
    · rw [hc, u2]
      unfold jX4_review_154
      simp (disch := omega) only [inb_t, gd_t, rd_nI, bnd_s, wr_nI, wrr_n]
    · intro u hu
      simp (disch := omega) only [wrr_n, wrr_e]
      by_cases e : u = t
      · subst e; rw [upd_e]; exact Or.inr ⟨s, hs, rfl⟩
      · rw [upd_n e]; exact e2.1 u hu
    · intro s' hs'
      simp (disch := omega) only [wrr_n, wrr_e]
      by_cases e : s' = s
      · subst e
        refine ⟨t :: l, ⟨upd_e, ?_⟩, List.nodup_cons.mpr ⟨htl, l2⟩, fun u => ?_⟩
        · rw [upd_e]
          exact l1.ext fun y hy => upd_n (fun e => htl (e ▸ hy))
        · by_cases e : u = t
          · subst e; rw [upd_e]; simp [ht]
          · rw [upd_n e, ← l3 u]; simp [e]
      · obtain ⟨l', c1, c2, c3⟩ := e2.2 s' hs'
        rw [upd_n e]
        refine ⟨l', c1.ext fun y hy => ?_, c2, fun u => ?_⟩
        · have : y ≠ t := fun e => by
            have := ((c3 y).mp hy).2
            rw [e, hsl] at this
            exact nI_m1 (by omega) this.symm
          exact upd_n this
        · rw [c3 u]
          by_cases e3' : u = t
          · subst e3'
            rw [upd_e, hsl]
            constructor
            · rintro ⟨_, q⟩; exact absurd q.symm (nI_m1 (by omega))
            · rintro ⟨_, q⟩; exact absurd ((nI_eq (by omega) (by omega)).mp q).symm e
          · rw [upd_n e3']
    · refine hA2.fr fun j h1 h2 => ?_
      simp (disch := omega) only [wrr_n]
    · refine u1 u ((l3 u).mpr ⟨hu, ?_⟩) hby
      rw [e3, upd_n hut, hus, es]
    · simp (disch := omega) only [wrr_n, wrr_e]
      rw [e3, es]
      funext j
      by_cases e : j = t
      · simp [upd, e]
      · simp [upd, e]
    · intro j c1 c2 c3 c4
      simp (disch := omega) only [wrr_n]
      exact e4 j (by omega) (by omega) (by omega)
end REV
end
section
/-! the agenda is worked off -/
theorem lastx {α : Type} {l : List α} (h : l ≠ []) : ∃ l0 x, l = l0 ++ [x] := ⟨l.dropLast, l.getLast h, (List.dropLast_concat_getLast h).symm⟩
section AG
variable {C : List Nat} {Q : List (Nat × Nat)} {z : fS}
theorem clear_loop (hC : ∀ u, u ∈ C → u < 120) (hl : C.length ≤ 120) : ∀ (d i N : Nat) (z : fS), i + d = C.length → d < N → z 23 5 = nI C.length → (∀ i, i < C.length → z 26 i = nI (C.getD i 0)) → (∀ u, u < 120 → u ∉ C.drop i → z 27 u = nI 0) → ∃ z', lX0_clear_7 N (nI i) z = some z' ∧ z' 23 = upd (z 23) 5 (nI 0) ∧ (∀ u, u < 120 → z' 27 u = nI 0) ∧ (∀ j, j ≠ 23 → j ≠ 27 → z' j = z j) := by
  intro d
  induction d with
  | zero =>
    intro i N z hi hN h5 h6 h7
    obtain ⟨N, rfl⟩ : ∃ M, N = M + 1 := ⟨N - 1, by omega⟩
    refine ⟨wrr z 23 (upd (z 23) 5 (nI 0)), ?_, wrr_e, fun u hu => ?_, fun j c1 c2 => wrr_n c1⟩
    · rw [lX0_clear_7.eq_2]
      simp (disch := omega) only [h5, nI_leI, if_pos, lit, wf_w, bnd_s]
    · rw [wrr_n (by omega)]
      refine h7 u hu ?_
      rw [List.drop_eq_nil_of_le (by omega)]
      simp
  | succ d ih =>
    intro i N z hi hN h5 h6 h7
    obtain ⟨N, rfl⟩ : ∃ M, N = M + 1 := ⟨N - 1, by omega⟩
    have hm := gD_mem (l := C) (i := i) (by omega)
    have hlt := hC _ hm
    have e6 := h6 i (by omega)
    obtain ⟨z', e1, e2, e3, e4⟩ := ih (i + 1) N (wrr z 27 (upd (z 27) (C.getD i 0) (nI 0))) (by omega) (by omega) (by rw [wrr_n (by omega)]; exact h5) (fun j hj => by rw [wrr_n (by omega)]; exact h6 j hj) (fun u hu hn => by
      rw [wrr_e]
      by_cases e : u = C.getD i 0
      · rw [e, upd_e]
      · rw [upd_n e]
        refine h7 u hu (fun hq => ?_)
        have hd : C.drop i = C.getD i 0 :: C.drop (i + 1) := by
          rw [List.getD_eq_getElem?_getD, List.getElem?_eq_getElem (by omega)]
          exact List.drop_eq_getElem_cons (by omega)
        rw [hd] at hq
        rcases List.mem_cons.mp hq with hq | hq
        · exact e hq
        · exact hn hq)
    refine ⟨z', ?_, ?_, e3, fun j c1 c2 => by rw [e4 j c1 c2, wrr_n c2]⟩
    · rw [lX0_clear_7.eq_2]
      simp (disch := omega) only [h5, nI_leI, if_neg, lit, inb_t, gd_t, rd_nI, e6, zb_0, wr_nI, bnd_s, nI_add]
      exact e1
    · rw [e2, wrr_n (by omega)]
theorem clear_ok (h : HA C Q z) : ∃ z', fX0_clear z = some z' ∧ HA [] [] z' ∧ (∀ j, j ≠ 23 → j ≠ 27 → z' j = z j) := by
  have hl := h.Cle
  obtain ⟨h1, h2, h3, h4, h5, h6, h7⟩ := h
  obtain ⟨z', e1, e2, e3, e4⟩ := clear_loop h6 hl C.length 0 FU (wrr z 23 (upd (z 23) 4 (nI 0))) (by omega) (by have := FU_ge; omega) (by rw [wrr_e, upd_n (by omega)]; exact h3) (fun i hi => by rw [wrr_n (by omega)]; exact h4 i hi) (fun u hu hn => by
    rw [wrr_n (by omega), h7 u hu, if_neg (by simpa using hn)])
  refine ⟨z', ?_, ⟨?_, fun i hi => by simp at hi, ?_, fun i hi => by simp at hi, by simp, fun u hu => by simp at hu, fun u hu => by simp [e3 u hu]⟩, fun j c1 c2 => by rw [e4 j c1 c2, wrr_n c1]⟩
  · unfold fX0_clear
    simp only [lit, wf_w, bnd_s]
    exact e1
  · rw [e2, wrr_e, upd_n (by omega), upd_e]; rfl
  · rw [e2, upd_e]; rfl
theorem hasPair_ok (h : HA C Q z) (hq : Q.length < 2 ^ 31) : fX0_hasPair z = some (if Q = [] then nI 0 else nI 1) := by
  unfold fX0_hasPair
  rw [h.1]
  by_cases q : Q = []
  · subst q
    simp (disch := omega) only [lit, List.length_nil, nI_leI, if_pos, if_true]
  · have : 0 < Q.length := List.length_pos_iff.mpr q
    simp (disch := omega) only [lit, nI_leI, if_neg]
theorem hasChanged_ok (h : HA C Q z) : fX0_hasChanged z = some (if C = [] then nI 0 else nI 1) := by
  have hl := h.Cle
  unfold fX0_hasChanged
  rw [h.2.2.1]
  by_cases q : C = []
  · subst q
    simp (disch := omega) only [lit, List.length_nil, nI_leI, if_pos, if_true]
  · have : 0 < C.length := List.length_pos_iff.mpr q
    simp (disch := omega) only [lit, nI_leI, if_neg]
theorem takeChanged_ok {C0 : List Nat} {t : Nat} (h : HA (C0 ++ [t]) Q z) : ∃ z', fX0_takeChanged z = some (nI t, z') ∧ HA C0 Q z' ∧ (∀ j, j ≠ 23 → j ≠ 27 → z' j = z j) := by
  have hl := h.Cle
  obtain ⟨h1, h2, h3, h4, h5, h6, h7⟩ := h
  simp only [List.length_append, List.length_singleton] at h3 h4 hl
  have ht : t < 120 := h6 t (by simp)
  have e26 : z 26 C0.length = nI t := by rw [h4 C0.length (by omega), gD_r]
  have hnd := List.nodup_append.mp h5
  have htC : t ∉ C0 := fun hm => hnd.2.2 t hm t (by simp) rfl
  refine ⟨wrr (wrr z 23 (upd (z 23) 5 (nI C0.length))) 27 (upd (z 27) t (nI 0)), ?_, ⟨?_, ?_, ?_, ?_, hnd.1, fun u hu => h6 u (List.mem_append_left _ hu), ?_⟩, ?_⟩
  · unfold fX0_takeChanged
    simp (disch := omega) only [h3, lit, nI_sub, Nat.add_sub_cancel, wf_w, bnd_s, wrr_e, upd_e, inb_t, gd_t, rd_nI, wrr_n, e26, zb_0, wr_nI]
  · simp (disch := omega) only [wrr_n, wrr_e, upd_n]; exact h1
  · intro i hi
    simp (disch := omega) only [wrr_n]; exact h2 i hi
  · simp (disch := omega) only [wrr_n, wrr_e, upd_e]
  · intro i hi
    simp (disch := omega) only [wrr_n]
    rw [h4 i (by omega), gD_l hi]
  · intro u hu
    rw [wrr_e]
    by_cases e : u = t
    · subst e; rw [upd_e, if_neg htC]
    · rw [upd_n e, h7 u hu]
      simp [e]
  · intro j c1 c2
    simp (disch := omega) only [wrr_n]
theorem lastPair_ok {Q0 : List (Nat × Nat)} {a b : Nat} (h : HA C (Q0 ++ [(a, b)]) z) (hq : Q0.length < 242) : fX0_lastLeft z = some (nI a) ∧ fX0_lastRight z = some (nI b) ∧ ∃ z', fX0_removePair z = some z' ∧ HA C Q0 z' ∧ (∀ j, j ≠ 23 → z' j = z j) := by
  obtain ⟨h1, h2, h3, h4, h5, h6, h7⟩ := h
  simp only [List.length_append, List.length_singleton] at h1 h2
  have e := h2 Q0.length (by omega)
  rw [gD_r] at e
  refine ⟨?_, ?_, wrr z 23 (upd (z 23) 4 (nI Q0.length)), ?_, ⟨?_, ?_, ?_, ?_, h5, h6, ?_⟩, fun j c => wrr_n c⟩
  · unfold fX0_lastLeft
    simp (disch := omega) only [h1, lit, nI_sub, Nat.add_sub_cancel, inb_t, gd_t, rd_nI, e.1]
  · unfold fX0_lastRight
    simp (disch := omega) only [h1, lit, nI_sub, Nat.add_sub_cancel, inb_t, gd_t, rd_nI, e.2]
  · unfold fX0_removePair
    simp (disch := omega) only [h1, lit, nI_sub, Nat.add_sub_cancel, wf_w, bnd_s]
  · rw [wrr_e, upd_e]
  · intro i hi
    have := h2 i (by omega)
    rw [gD_l hi] at this
    simp (disch := omega) only [wrr_n]; exact this
  · rw [wrr_e, upd_n (by omega)]; exact h3
  · intro i hi
    simp (disch := omega) only [wrr_n]; exact h4 i hi
  · intro u hu
    simp (disch := omega) only [wrr_n]; exact h7 u hu
end AG
section JOIN
variable {T : List Tm} {E : Nat → Nat → Prop} {pb k : Nat} {ro : Nat → Nat} {Q : List (Nat × Nat)} {C : List Nat} {z : fS}
def JI (T : List Tm) (E : Nat → Nat → Prop) (pb k : Nat) (ro : Nat → Nat) (C : List Nat) (Q : List (Nat × Nat)) (z : fS) : Prop :=
  (HT T z ∧ HPl T z ∧ PS pb k ro z ∧ PN T pb k ro z ∧ RwI T pb k ro z ∧ HH pb k z ∧ HA C Q z) ∧
  (∀ a b, a < k → b < k → ro a = ro b → One T k E a b) ∧
  (∀ q, q ∈ Q → q.1 < k ∧ q.2 < k ∧ One T k E q.1 q.2) ∧
  (∀ u, u ∈ C → u < k ∧ 0 < sz T u) ∧
  (∀ a b, E a b → Eqv ro Q a b) ∧
  (∀ r x, r < k → ro r = r → x < k → z (pb + 6) r = nI x → ∀ y, y < k → ro y = r → kd T y = nI 3 → Eqv ro Q (pt T x 0) (pt T y 0) ∧ Eqv ro Q (pt T x 1) (pt T y 1)) ∧
  (∀ u v, u < k → v < k → u ∉ C → v ∉ C → z (pb + 9) u ≠ -1 → z (pb + 9) v ≠ -1 → ByP T (Rq ro) u v → u = v) ∧
  (∀ t, t < k → 0 < sz T t → t ∉ C → z (pb + 9) t = -1 → ∃ u, u < k ∧ ByP T (Rq ro) t u ∧ Eqv ro Q t u ∧ (z (pb + 9) u ≠ -1 ∨ u ∈ C)) ∧
  (∀ u, u < k → u ∉ C → z (pb + 9) u ≠ -1 → z (pb + 9) u = sg T ro u)
/-- closed, when nothing is left to do -/
theorem JI.closed (hW : WT T) (hk : k ≤ T.length) (h : JI T E pb k ro [] [] z) : ∀ a b, a < k → b < k → (ro a = ro b ↔ One T k E a b) := by
  obtain ⟨⟨hT, hPl, hS, hN, hR, hH, hA⟩, s1, s2, s3, s4, s5, s6, s7, s8⟩ := h
  -- a term with parts has a placed one alike, in its class
  have rep : ∀ t, t < k → 0 < sz T t → ∃ u, u < k ∧ ByP T (Rq ro) t u ∧ ro t = ro u ∧ z (pb + 9) u ≠ -1 := by
    intro t ht h0
    by_cases e : z (pb + 9) t = -1
    · obtain ⟨u, u1, u2, u3, u4⟩ := s7 t ht h0 (by simp) e
      refine ⟨u, u1, u2, u3.nil, ?_⟩
      rcases u4 with u4 | u4
      · exact u4
      · simp at u4
    · exact ⟨t, ht, ⟨h0, rfl, rfl, rfl, Or.inl fun i _ => rfl⟩, rfl, e⟩
  intro a b ha hb
  constructor
  · exact s1 a b ha hb
  · intro h
    refine h (fun a b => ro a = ro b) ⟨fun _ => rfl, fun _ _ e => e.symm, fun _ _ _ e f => e.trans f, fun a b e => (s4 a b e).nil, fun a b ha hb hby => ?_, fun a b ha hb ka kb e => ?_⟩
    · obtain ⟨u, u1, u2, u3, u4⟩ := rep a ha hby.1
      obtain ⟨v, v1, v2, v3, v4⟩ := rep b hb (by rw [← hby.2.2.2.1]; exact hby.1)
      have huv : ByP T (Rq ro) u v := by
        have h1 : ByP T (Rq ro) u a := u2.sm fun _ _ e => e.symm
        exact (h1.tr hW (fun _ _ _ e f => e.trans f) (by omega) hby).tr hW (fun _ _ _ e f => e.trans f) (by omega) v2
      have := s6 u v u1 v1 (by simp) (by simp) u4 v4 huv
      rw [u3, v3, this]
    · have r1 := hS.2.2.1 a ha
      rcases hR (ro a) r1.2.1 r1.2.2 with ⟨q1, q2⟩ | ⟨x, q1, q2, q3, q4⟩
      · exact absurd ka (q2 a ha rfl)
      · have e1 := s5 (ro a) x r1.2.1 r1.2.2 q2 q1 a ha rfl ka
        have e2 := s5 (ro a) x r1.2.1 r1.2.2 q2 q1 b hb e.symm kb
        exact ⟨e1.1.nil.symm.trans e2.1.nil, e1.2.nil.symm.trans e2.2.nil⟩
end JOIN
end
section
/-! one turn of join, and all of them -/
section TURN
variable {T : List Tm} {E : Nat → Nat → Prop} {pb k : Nat} {ro : Nat → Nat} {Q : List (Nat × Nat)} {C : List Nat} {z : fS}
theorem Eqv.step {ro' : Nat → Nat} {Q0 Q' : List (Nat × Nat)} {a b x y : Nat} (h1 : ∀ x y, ro x = ro y → ro' x = ro' y) (h2 : ro' a = ro' b) (h3 : ∀ q, q ∈ Q0 → q ∈ Q') (h : Eqv ro (Q0 ++ [(a, b)]) x y) : Eqv ro' Q' x y := by
  refine h.le (fun a b e => Eqv.fb (h1 a b e)) (fun q hq => ?_)
  rcases List.mem_append.mp hq with hq | hq
  · exact Eqv.pr (h3 q hq)
  · have : q = (a, b) := by simpa using hq
    subst this
    exact Eqv.fb h2
theorem mg_eq {a b x y : Nat} (h : ro x = ro y) : mg ro a b x = mg ro a b y := by unfold mg; rw [h]
theorem byP_back (hW : WT T) {ro' : Nat → Nat} {u v : Nat} (hu : u < T.length) (h1 : ∀ i, i < sz T u → ro' (pt T u i) = ro (pt T u i)) (h2 : ∀ i, i < sz T v → ro' (pt T v i) = ro (pt T v i)) (h : ByP T (Rq ro') u v) : ByP T (Rq ro) u v := by
  obtain ⟨g0, g1, g2, g3, g4⟩ := h
  refine ⟨g0, g1, g2, g3, ?_⟩
  rcases g4 with g4 | ⟨g4, g5, g6⟩
  · refine Or.inl fun i hi => ?_
    have := g4 i hi
    rw [Rq, h1 i hi, h2 i (by omega)] at this
    exact this
  · have s2 : sz T u = 2 := (hW.2 u hu).2.2.2.1 g4
    rw [Rq, h1 0 (by omega), h2 1 (by omega)] at g5
    rw [Rq, h1 1 (by omega), h2 0 (by omega)] at g6
    exact Or.inr ⟨g4, g5, g6⟩
/-- a union: the classes of keep and lose become one -/
theorem JI.union {Q0 : List (Nat × Nat)} {a b keep lose : Nat} (hp : isPb pb) (hk : k ≤ T.length) (hW : WT T) (h : JI T E pb k ro C (Q0 ++ [(a, b)]) z) (hq : Q0.length < 240) {z0 : fS} (hz : ∀ j, j ≠ 23 → z0 j = z j) (hA0 : HA C Q0 z0) (hkl : (keep = ro a ∧ lose = ro b) ∨ (keep = ro b ∧ lose = ro a)) (hne : keep ≠ lose) :
    ∃ z1 z2 C' Q', fX4_unite pb z0 (nI keep) (nI lose) = some z1 ∧ fX4_uniteRows pb z1 (nI keep) (nI lose) = some z2 ∧ Q'.length ≤ Q0.length + 2 ∧ HA C' Q' z2 ∧ (∀ j, ¬ (23 ≤ j ∧ j ≤ 27) → ¬ (pb ≤ j ∧ j ≤ pb + 9) → z2 j = z0 j) ∧ cnt (fun r => decide (mg ro keep lose r = r)) k + 1 = cnt (fun r => decide (ro r = r)) k ∧ (JI T E pb k (mg ro keep lose) C' Q' z2 ∨ (z2 pb 13 = nI 1 ∧ ∃ u v, u < k ∧ v < k ∧ u ≠ v ∧ kd T u = nI 1 ∧ kd T v = nI 1 ∧ One T k E u v)) := by
  have hpn := hp.ne
  have hT1 := hW.1
  obtain ⟨⟨hT, hPl, hS, hN, hR, hH, hA⟩, s1, s2, s3, s4, s5, s6, s7, s8⟩ := h
  obtain ⟨p1, p2, p3⟩ := s2 (a, b) (by simp)
  have ra := hS.2.2.1 a p1
  have rb := hS.2.2.1 b p2
  have hkl' : keep < k ∧ lose < k ∧ ro keep = keep ∧ ro lose = lose ∧ One T k E keep lose ∧ mg ro keep lose a = mg ro keep lose b := by
    have oa : One T k E a (ro a) := s1 a (ro a) p1 ra.2.1 ra.2.2.symm
    have ob : One T k E b (ro b) := s1 b (ro b) p2 rb.2.1 rb.2.2.symm
    have oab : One T k E (ro a) (ro b) := (oa.sm.tr p3).tr ob
    rcases hkl with ⟨rfl, rfl⟩ | ⟨rfl, rfl⟩
    · refine ⟨ra.2.1, rb.2.1, ra.2.2, rb.2.2, oab, ?_⟩
      unfold mg; rw [if_neg hne, if_pos rfl]
    · refine ⟨rb.2.1, ra.2.1, rb.2.2, ra.2.2, oab.sm, ?_⟩
      unfold mg; rw [if_pos rfl, if_neg hne]
  obtain ⟨k1, k2, k3, k4, k5, k6⟩ := hkl'
  have hT0 : HT T z0 := hT.fr fun j hj => hz j (by omega)
  have hPl0 : HPl T z0 := hPl.fr fun j hj => hz j (by omega)
  have hS0 : PS pb k ro z0 := hS.fr fun j h1 h2 => hz j (by omega)
  have hN0 : PN T pb k ro z0 := hN.fr fun j h1 h2 => hz j (by omega)
  obtain ⟨z1, C', e1, e2, e3, e4, e5, e6⟩ := unite_ok hp hk hW hS0 hN0 hPl0 hA0 k1 k2 k3 k4 hne
  have hT1' : HT T z1 := hT0.fr fun j hj => e6 j (by omega) (by omega) (by omega) (by omega)
  have f6 : z1 (pb + 6) = z (pb + 6) := (e6 _ (by omega) (by omega) (by omega) (by omega)).trans (hz _ (by omega))
  have hR1 : RwI T pb k ro z1 := hR.fr f6
  obtain ⟨z2, Q', g1, g2, g3, g4, g5⟩ := uniteRows_ok hp hk hW hT1' hR1 e4 hq k1 k2 k3 k4 hne
  have hcnt : cnt (fun r => decide (mg ro keep lose r = r)) k + 1 = cnt (fun r => decide (ro r = r)) k := by
    refine cnt_less (j := lose) (by simp [k4]) ?_ ?_ k2
    · simp only [decide_eq_false_iff_not, mg_root k3 hne]
      rintro (⟨_, q⟩ | ⟨_, _, f⟩)
      · exact q rfl
      · exact f
    · intro i hi
      have : (mg ro keep lose i = i) ↔ (ro i = i) := by
        rw [mg_root k3 hne]
        constructor
        · rintro (⟨q, _⟩ | ⟨_, _, f⟩)
          · exact q
          · exact f.elim
        · intro q; exact Or.inl ⟨q, hi⟩
      simp [this]
  have hfr : ∀ j, ¬ (23 ≤ j ∧ j ≤ 27) → ¬ (pb ≤ j ∧ j ≤ pb + 9) → z2 j = z0 j := fun j c1 c2 => (g5 j (by omega) (by omega) (by omega) (by omega)).trans (e6 j (by omega) (by omega) (by omega) (by omega))
  have hlen : Q'.length ≤ Q0.length + 2 := by
    rcases g4 with ⟨rfl, _⟩ | ⟨x, y, _, _, _, _, _, _, _, _, rfl, _⟩
    · omega
    · simp
  have hsound : ∀ a b, a < k → b < k → mg ro keep lose a = mg ro keep lose b → One T k E a b := by
    have o1 : ∀ t, t < k → One T k E t (mg ro keep lose t) := by
      intro t ht
      have rt := hS.2.2.1 t ht
      have ot : One T k E t (ro t) := s1 t (ro t) ht rt.2.1 rt.2.2.symm
      unfold mg
      by_cases q : ro t = lose
      · rw [if_pos q]
        rw [q] at ot
        exact ot.tr k5.sm
      · rw [if_neg q]; exact ot
    intro a b ha hb e
    have := (o1 b hb).sm
    rw [← e] at this
    exact (o1 a ha).tr this
  have same : ∀ u, u < k → u ∉ C' → ∀ i, i < sz T u → mg ro keep lose (pt T u i) = ro (pt T u i) := by
    intro u hu hCu i hi
    unfold mg
    rw [if_neg fun q => hCu ((e5 u).mpr (Or.inr ⟨hu, i, hi, q⟩))]
  refine ⟨z1, z2, C', Q', e1, g1, hlen, g3, hfr, hcnt, ?_⟩
  rcases e3 with hN1 | ⟨ht1, u, v, u1, v1, u2, u3, u4, u5⟩
  · refine Or.inl ⟨⟨hT1'.fr fun j hj => g5 j (by omega) (by omega) (by omega) (by omega), (hPl0.fr fun j hj => e6 j (by omega) (by omega) (by omega) (by omega)).fr fun j hj => g5 j (by omega) (by omega) (by omega) (by omega), e2.fr fun j h1 h2 => g5 j (by omega) (by omega) (by omega) (by omega), hN1.fr fun j h1 h2 => g5 j (by omega) (by omega) (by omega) (by omega), g2, ?_, g3⟩, hsound, ?_, ?_, ?_, ?_, ?_, ?_, ?_⟩
    · refine (hH.fr fun j h1 h2 => (?_ : z2 j = z j))
      rw [g5 j (by omega) (by omega) (by omega) (by omega), e6 j (by omega) (by omega) (by omega) (by omega), hz j (by omega)]
    · -- pairs
      intro q hq'
      have old : ∀ q, q ∈ Q0 → q.1 < k ∧ q.2 < k ∧ One T k E q.1 q.2 := fun q hq => s2 q (List.mem_append_left _ hq)
      rcases g4 with ⟨rfl, _⟩ | ⟨x, y, _, _, x2, y2, x3, y3, x4, y4, rfl, _⟩
      · exact old q hq'
      · have sx : sz T x = 2 := (hW.2 x (by omega)).2.2.1 x4
        have sy : sz T y = 2 := (hW.2 y (by omega)).2.2.1 y4
        have wx := (hW.2 x (by omega)).2.1
        have wy := (hW.2 y (by omega)).2.1
        have oxy : One T k E x y := hsound x y x2 y2 (by unfold mg; rw [x3, y3, if_neg hne, if_pos rfl])
        have orow := One.row x2 y2 x4 y4 oxy
        simp only [List.mem_append, List.mem_singleton] at hq'
        rcases hq' with (hq' | rfl) | rfl
        · exact old q hq'
        · have := wx 0 (by omega); have := wy 0 (by omega)
          exact ⟨by show pt T x 0 < k; omega, by show pt T y 0 < k; omega, orow.1⟩
        · have := wx 1 (by omega); have := wy 1 (by omega)
          exact ⟨by show pt T x 1 < k; omega, by show pt T y 1 < k; omega, orow.2⟩
    · intro u hu
      rcases (e5 u).mp hu with hu | ⟨h1, i, h2, _⟩
      · exact s3 u hu
      · exact ⟨h1, by omega⟩
    · have hQ : ∀ q, q ∈ Q0 → q ∈ Q' := by
        intro q hq
        rcases g4 with ⟨rfl, _⟩ | ⟨x, y, _, _, _, _, _, _, _, _, rfl, _⟩
        · exact hq
        · simp [hq]
      exact fun a' b' e => (s4 a' b' e).step (fun x y e => mg_eq e) k6 hQ
    · -- rows
      have hQ : ∀ q, q ∈ Q0 → q ∈ Q' := by
        intro q hq
        rcases g4 with ⟨rfl, _⟩ | ⟨x, y, _, _, _, _, _, _, _, _, rfl, _⟩
        · exact hq
        · simp [hq]
      have up : ∀ x y, Eqv ro (Q0 ++ [(a, b)]) x y → Eqv (mg ro keep lose) Q' x y := fun x y e => e.step (fun x y e => mg_eq e) k6 hQ
      intro r x hr hrr hxk hx y hy hyr hky
      rcases (mg_root k3 hne).mp hrr with ⟨c1, c2⟩ | ⟨_, _, f⟩
      · by_cases hrk : r = keep
        · subst hrk
          rcases (mg_keep hne).mp hyr with hy1 | hy1
          · -- y was in keep's class
            rcases g4 with ⟨rfl, ⟨w1, w2⟩ | ⟨w1, w2⟩⟩ | ⟨x0, y0, w1, w2, x2, y2, x3, y3, x4, y4, rfl, w3⟩
            · rcases hR1 r hr c1 with ⟨_, n2⟩ | ⟨x', n1, n2, _, _⟩
              · exact absurd hky (n2 y hy hy1)
              · rw [w1] at n1
                exact absurd n1.symm (nI_m1 (by omega))
            · rw [w2, f6] at hx
              have := s5 r x hr c1 hxk hx y hy hy1 hky
              exact ⟨up _ _ this.1, up _ _ this.2⟩
            · rw [w3, f6] at hx
              have := s5 r x hr c1 hxk hx y hy hy1 hky
              exact ⟨up _ _ this.1, up _ _ this.2⟩
          · rcases g4 with ⟨rfl, ⟨w1, w2⟩ | ⟨w1, w2⟩⟩ | ⟨x0, y0, w1, w2, x2, y2, x3, y3, x4, y4, rfl, w3⟩
            · rw [w2, upd_e, f6] at hx
              have := s5 lose x k2 k4 hxk hx y hy hy1 hky
              exact ⟨up _ _ this.1, up _ _ this.2⟩
            · rcases hR1 lose k2 k4 with ⟨_, n2⟩ | ⟨x', n1, n2, _, _⟩
              · exact absurd hky (n2 y hy hy1)
              · rw [w1] at n1
                exact absurd n1.symm (nI_m1 (by omega))
            · rw [w3] at hx
              have hx0 : x = x0 := by
                rw [w1] at hx
                exact ((nI_eq (by omega) (by omega)).mp hx).symm
              subst hx0
              rw [f6] at w2
              have := s5 lose y0 k2 k4 y2 w2 y hy hy1 hky
              exact ⟨(Eqv.pr (by simp)).tr (up _ _ this.1), (Eqv.pr (by simp)).tr (up _ _ this.2)⟩
        · have hx' : z (pb + 6) r = nI x := by
            rcases g4 with ⟨rfl, ⟨w1, w2⟩ | ⟨w1, w2⟩⟩ | ⟨x0, y0, w1, w2, x2, y2, x3, y3, x4, y4, rfl, w3⟩
            · rw [w2, upd_n hrk, f6] at hx; exact hx
            · rw [w2, f6] at hx; exact hx
            · rw [w3, f6] at hx; exact hx
          have := s5 r x hr c1 hxk hx' y hy ((mg_in k3 hne hrk c2).mp hyr) hky
          exact ⟨up _ _ this.1, up _ _ this.2⟩
      · exact f.elim
    · intro u v hu hv hCu hCv hsu hsv hby
      have f9 : z2 (pb + 9) = z (pb + 9) := by rw [g5 _ (by omega) (by omega) (by omega) (by omega), e6 _ (by omega) (by omega) (by omega) (by omega), hz _ (by omega)]
      rw [f9] at hsu hsv
      exact s6 u v hu hv (fun q => hCu ((e5 u).mpr (Or.inl q))) (fun q => hCv ((e5 v).mpr (Or.inl q))) hsu hsv (byP_back hW (by omega) (same u hu hCu) (same v hv hCv) hby)
    · have hQ : ∀ q, q ∈ Q0 → q ∈ Q' := by
        intro q hq
        rcases g4 with ⟨rfl, _⟩ | ⟨x, y, _, _, _, _, _, _, _, _, rfl, _⟩
        · exact hq
        · simp [hq]
      intro t ht h0 hCt hst
      have f9 : z2 (pb + 9) = z (pb + 9) := by rw [g5 _ (by omega) (by omega) (by omega) (by omega), e6 _ (by omega) (by omega) (by omega) (by omega), hz _ (by omega)]
      rw [f9] at hst
      obtain ⟨u, u1, u2, u3, u4⟩ := s7 t ht h0 (fun q => hCt ((e5 t).mpr (Or.inl q))) hst
      refine ⟨u, u1, u2.mono fun _ _ e => mg_eq e, u3.step (fun x y e => mg_eq e) k6 hQ, ?_⟩
      rw [f9]
      rcases u4 with u4 | u4
      · exact Or.inl u4
      · exact Or.inr ((e5 u).mpr (Or.inl u4))
    · intro u hu hCu hsu
      have f9 : z2 (pb + 9) = z (pb + 9) := by rw [g5 _ (by omega) (by omega) (by omega) (by omega), e6 _ (by omega) (by omega) (by omega) (by omega), hz _ (by omega)]
      rw [f9] at hsu ⊢
      rw [s8 u hu (fun q => hCu ((e5 u).mpr (Or.inl q))) hsu]
      have hr : ∀ i, rp T (mg ro keep lose) u i = rp T ro u i := fun i => by
        unfold rp
        by_cases hi : i < sz T u
        · rw [if_pos hi, if_pos hi, same u hu hCu i hi]
        · rw [if_neg hi, if_neg hi]
      unfold sg
      rw [hr 0, hr 1, hr 2]
  · refine Or.inr ⟨?_, u, v, u1, v1, u2, u3, u4, hsound u v u1 v1 u5⟩
    rw [g5 pb (by omega) (by omega) (by omega) (by omega)]
    exact ht1
/-- a review: one term less is to be looked at -/
theorem JI.review {C0 : List Nat} {t : Nat} (hp : isPb pb) (hk : k ≤ T.length) (hW : WT T) (h : JI T E pb k ro (C0 ++ [t]) [] z) {z0 : fS} (hz : ∀ j, j ≠ 23 → j ≠ 27 → z0 j = z j) (hA0 : HA C0 [] z0) :
    ∃ z1 Q', fX4_review pb z0 (nI t) = some z1 ∧ Q'.length ≤ 1 ∧ JI T E pb k ro C0 Q' z1 ∧ (∀ j, ¬ (23 ≤ j ∧ j ≤ 27) → ¬ (pb ≤ j ∧ j ≤ pb + 9) → z1 j = z0 j) := by
  have hpn := hp.ne
  have hT1 := hW.1
  obtain ⟨⟨hT, hPl, hS, hN, hR, hH, hA⟩, s1, s2, s3, s4, s5, s6, s7, s8⟩ := h
  obtain ⟨t1, t2⟩ := s3 t (by simp)
  have htC : t ∉ C0 := fun hm => (List.nodup_append.mp hA.2.2.2.2.1).2.2 t hm t (by simp) rfl
  have hT0 : HT T z0 := hT.fr fun j hj => hz j (by omega) (by omega)
  have hS0 : PS pb k ro z0 := hS.fr fun j h1 h2 => hz j (by omega) (by omega)
  have hH0 : HH pb k z0 := hH.fr fun j h1 h2 => hz j (by omega) (by omega)
  have f9 : z0 (pb + 9) = z (pb + 9) := hz _ (by omega) (by omega)
  obtain ⟨z1, Q', e1, e2, e3, e4, e5⟩ := review_ok hp hk hW hT0 hS0 hH0 hA0 (by simp) t1 t2
  have fr : ∀ j, ¬ (23 ≤ j ∧ j ≤ 27) → ¬ (pb + 7 ≤ j ∧ j ≤ pb + 9) → z1 j = z j := fun j c1 c2 => (e5 j (by omega) (by omega) (by omega) c2).trans (hz j (by omega) (by omega))
  have base : (HT T z1 ∧ HPl T z1 ∧ PS pb k ro z1 ∧ PN T pb k ro z1 ∧ RwI T pb k ro z1 ∧ HH pb k z1 ∧ HA C0 Q' z1) := ⟨hT.fr fun j hj => fr j (by omega) (by omega), hPl.fr fun j hj => fr j (by omega) (by omega), hS.fr fun j h1 h2 => fr j (by omega) (by omega), hN.fr fun j h1 h2 => fr j (by omega) (by omega), hR.fr (fr _ (by omega) (by omega)), e2, e3⟩
  have f6 : z1 (pb + 6) = z (pb + 6) := fr _ (by omega) (by omega)
  have up : ∀ x y, Eqv ro [] x y → Eqv ro Q' x y := fun x y e => e.le (fun _ _ q => Eqv.fb q) (fun q hq => by simp at hq)
  have c3 : ∀ u, u ∈ C0 → u < k ∧ 0 < sz T u := fun u hu => s3 u (List.mem_append_left _ hu)
  have hfr : ∀ j, ¬ (23 ≤ j ∧ j ≤ 27) → ¬ (pb ≤ j ∧ j ≤ pb + 9) → z1 j = z0 j := fun j c1 c2 => e5 j (by omega) (by omega) (by omega) (by omega)
  have memC : ∀ u, u ∉ C0 → u ≠ t → u ∉ C0 ++ [t] := fun u h1 h2 => by simp [h1, h2]
  rcases e4 with ⟨u, u1, u2, u3, u4, rfl, u5⟩ | ⟨u1, rfl, u5⟩
  · rw [f9] at u3 u5
    refine ⟨z1, _, e1, by simp, ⟨base, s1, ?_, c3, fun a b e => up _ _ (s4 a b e), ?_, ?_, ?_, ?_⟩, hfr⟩
    · intro q hq
      have : q = (t, u) := by simpa using hq
      subst this
      refine ⟨t1, u1, One.cong t1 u1 (ByP.mono (fun a b e => ?_) (show ByP T (fun a b => a < k ∧ b < k ∧ ro a = ro b) t u from ?_))⟩
      · exact s1 a b e.1 e.2.1 e.2.2
      · obtain ⟨g0, g1, g2, g3, g4⟩ := u4
        have wt := (hW.2 t (by omega)).2.1
        have wu := (hW.2 u (by omega)).2.1
        refine ⟨g0, g1, g2, g3, ?_⟩
        rcases g4 with g4 | ⟨g4, g5, g6⟩
        · refine Or.inl fun i hi => ⟨by have := wt i hi; omega, by have := wu i (by omega); omega, g4 i hi⟩
        · have s2' : sz T t = 2 := (hW.2 t (by omega)).2.2.2.1 g4
          have := wt 0 (by omega); have := wt 1 (by omega); have := wu 0 (by omega); have := wu 1 (by omega)
          exact Or.inr ⟨g4, ⟨by omega, by omega, g5⟩, ⟨by omega, by omega, g6⟩⟩
    · intro r x hr hrr hxk hx y hy hyr hky
      rw [f6] at hx
      have := s5 r x hr hrr hxk hx y hy hyr hky
      exact ⟨up _ _ this.1, up _ _ this.2⟩
    · intro v w hv hw hCv hCw hsv hsw hby
      rw [u5] at hsv hsw
      have hvt : v ≠ t := fun e => hsv (by rw [e, upd_e])
      have hwt : w ≠ t := fun e => hsw (by rw [e, upd_e])
      rw [upd_n hvt] at hsv
      rw [upd_n hwt] at hsw
      exact s6 v w hv hw (memC v hCv hvt) (memC w hCw hwt) hsv hsw hby
    · intro w hw h0 hCw hsw
      rw [u5] at hsw ⊢
      have hun : upd (z (pb + 9)) t (-1) u ≠ -1 := by rw [upd_n u2]; exact u3
      by_cases e : w = t
      · subst e
        exact ⟨u, u1, u4, Eqv.pr (by simp), Or.inl hun⟩
      · rw [upd_n e] at hsw
        obtain ⟨x, x1, x2, x3, x4⟩ := s7 w hw h0 (memC w hCw e) hsw
        by_cases e2 : x = t
        · subst e2
          exact ⟨u, u1, x2.tr hW (fun _ _ _ e f => e.trans f) (by omega) u4, (up _ _ x3).tr (Eqv.pr (by simp)), Or.inl hun⟩
        · refine ⟨x, x1, x2, up _ _ x3, ?_⟩
          rw [upd_n e2]
          rcases x4 with x4 | x4
          · exact Or.inl x4
          · simp [e2] at x4
            exact Or.inr x4
    · intro v hv hCv hsv
      rw [u5] at hsv ⊢
      have hvt : v ≠ t := fun e => hsv (by rw [e, upd_e])
      rw [upd_n hvt] at hsv ⊢
      exact s8 v hv (memC v hCv hvt) hsv
  · rw [f9] at u1 u5
    obtain ⟨s, hs, es⟩ := sg_lt T ro t
    have hro : ∀ v, v < k → ∀ i, i < sz T v → ro (pt T v i) < 120 := fun v hv i hi => by
      have := (hW.2 v (by omega)).2.1 i hi
      have := (hS.2.2.1 (pt T v i) (by omega)).2.1
      omega
    have key : ∀ v, v < k → v ∉ C0 → v ≠ t → z (pb + 9) v ≠ -1 → ¬ ByP T (Rq ro) t v := by
      intro v hv hCv hvt hsv hby
      refine u1 v hv hvt ?_ hby
      rw [s8 v hv (memC v hCv hvt) hsv]
      exact (sg_alike hW (by omega) (hro t t1) hby).symm
    refine ⟨z1, _, e1, by simp, ⟨base, s1, fun q hq => by simp at hq, c3, s4, ?_, ?_, ?_, ?_⟩, hfr⟩
    · intro r x hr hrr hxk hx y hy hyr hky
      rw [f6] at hx
      exact s5 r x hr hrr hxk hx y hy hyr hky
    · intro v w hv hw hCv hCw hsv hsw hby
      rw [u5] at hsv hsw
      by_cases hvt : v = t
      · subst hvt
        by_cases hwt : w = v
        · exact hwt.symm
        · rw [upd_n hwt] at hsw
          exact absurd hby (key w hw hCw hwt hsw)
      · rw [upd_n hvt] at hsv
        by_cases hwt : w = t
        · subst hwt
          exact absurd (hby.sm fun _ _ e => e.symm) (key v hv hCv hvt hsv)
        · rw [upd_n hwt] at hsw
          exact s6 v w hv hw (memC v hCv hvt) (memC w hCw hwt) hsv hsw hby
    · intro w hw h0 hCw hsw
      rw [u5] at hsw ⊢
      have hwt : w ≠ t := fun e => by
        rw [e, upd_e, es] at hsw
        exact nI_m1 (by omega) hsw
      rw [upd_n hwt] at hsw
      obtain ⟨x, x1, x2, x3, x4⟩ := s7 w hw h0 (memC w hCw hwt) hsw
      refine ⟨x, x1, x2, x3, ?_⟩
      by_cases e2 : x = t
      · subst e2
        rw [upd_e, es]
        exact Or.inl (nI_m1 (by omega))
      · rw [upd_n e2]
        rcases x4 with x4 | x4
        · exact Or.inl x4
        · simp [e2] at x4
          exact Or.inr x4
    · intro v hv hCv hsv
      rw [u5] at hsv ⊢
      by_cases hvt : v = t
      · subst hvt; rw [upd_e]
      · rw [upd_n hvt] at hsv ⊢
        exact s8 v hv (memC v hCv hvt) hsv
end TURN
end
section
/-! join, from its start to its end -/
section JOK
variable {T : List Tm} {E : Nat → Nat → Prop} {pb k : Nat} {ro : Nat → Nat} {Q : List (Nat × Nat)} {C : List Nat} {z : fS}
theorem join_98_0 {rc : Int32 → fS → Option fS} {v3 a b : Int32} : jX4_join_98 pb rc v3 a b (nI 0) z = bp (fX4_unite pb z a b) fun z1 => bp (fX4_uniteRows pb z1 a b) fun z2 => rc (v3 + nI 1) z2 := by
  unfold jX4_join_98 jX4_join_113 jX4_join_125 jX4_join_141
  simp only [lit, if_true, bnd_s]
theorem join_98_1 {rc : Int32 → fS → Option fS} {v3 a b : Int32} : jX4_join_98 pb rc v3 a b (nI 1) z = bp (fX4_unite pb z b a) fun z1 => bp (fX4_uniteRows pb z1 b a) fun z2 => rc (v3 + nI 1) z2 := by
  unfold jX4_join_98 jX4_join_113 jX4_join_125 jX4_join_141
  simp (disch := omega) only [lit, nI_eq, if_neg, bnd_s]
/-- what join leaves behind: all is closed, or two unlike numbers met -/
def Jd (T : List Tm) (E : Nat → Nat → Prop) (pb k : Nat) (z : fS) : Prop :=
  HA [] [] z ∧ ((∃ ro, JI T E pb k ro [] [] z) ∨ (z pb 13 = nI 1 ∧ ∃ u v, u < k ∧ v < k ∧ u ≠ v ∧ kd T u = nI 1 ∧ kd T v = nI 1 ∧ One T k E u v))
theorem join_loop (hp : isPb pb) (hk : k ≤ T.length) (hW : WT T) : ∀ (F : Nat) (ro : Nat → Nat) (C : List Nat) (Q : List (Nat × Nat)) (z : fS) (turn N : Nat), JI T E pb k ro C Q z → 300 * cnt (fun r => decide (ro r = r)) k + 2 * C.length + Q.length ≤ F → turn + F < 1000000 → F < N → Q.length + cnt (fun r => decide (ro r = r)) k ≤ 121 → ∃ z', lX4_join_11 pb N (nI turn) z = some z' ∧ Jd T E pb k z' ∧ (∀ j, ¬ (23 ≤ j ∧ j ≤ 27) → ¬ (pb ≤ j ∧ j ≤ pb + 9) → z' j = z j) := by
  have hpn := hp.ne
  have hT1 := hW.1
  intro F
  induction F with
  | zero =>
    intro ro C Q z turn N h hF ht hN hq
    obtain ⟨N, rfl⟩ : ∃ M, N = M + 1 := ⟨N - 1, by omega⟩
    have hC : C = [] := List.length_eq_zero_iff.mp (by omega)
    have hQ : Q = [] := List.length_eq_zero_iff.mp (by omega)
    subst hC; subst hQ
    have h' := h
    obtain ⟨⟨hT, hPl, hS, hN0, hR, hH, hA⟩, _⟩ := h'
    obtain ⟨z1, e1, e2, e3⟩ := clear_ok hA
    refine ⟨z1, ?_, ⟨e2, Or.inl ⟨ro, ?_⟩⟩, fun j c1 c2 => e3 j (by omega) (by omega)⟩
    · rw [lX4_join_11.eq_2, hasPair_ok hA (by simp), hasChanged_ok hA, hN0.1]
      simp (disch := omega) only [lit, nI_leI, if_neg, if_true, bp_s, e1]
    · obtain ⟨_, s1, s2, s3, s4, s5, s6, s7, s8⟩ := h
      refine ⟨⟨hT.fr fun j hj => e3 j (by omega) (by omega), hPl.fr fun j hj => e3 j (by omega) (by omega), hS.fr fun j h1 h2 => e3 j (by omega) (by omega), hN0.fr fun j h1 h2 => e3 j (by omega) (by omega), hR.fr (e3 _ (by omega) (by omega)), hH.fr fun j h1 h2 => e3 j (by omega) (by omega), e2⟩, s1, s2, s3, s4, ?_, ?_, ?_, ?_⟩
      all_goals (first | rw [e3 (pb + 6) (by omega) (by omega)] | rw [e3 (pb + 9) (by omega) (by omega)])
      all_goals assumption
  | succ F ih =>
    intro ro C Q z turn N h hF ht hN hq
    obtain ⟨N, rfl⟩ : ∃ M, N = M + 1 := ⟨N - 1, by omega⟩
    have h' := h
    obtain ⟨⟨hT, hPl, hS, hN0, hR, hH, hA⟩, s1, s2, s3, s4, s5, s6, s7, s8⟩ := h'
    have hkk := hS.2.1
    rw [lX4_join_11.eq_2, hasPair_ok hA (by omega), hasChanged_ok hA, hN0.1]
    by_cases hQ : Q = []
    · subst hQ
      by_cases hC : C = []
      · subst hC
        obtain ⟨z1, e1, e2, e3⟩ := clear_ok hA
        refine ⟨z1, ?_, ⟨e2, Or.inl ⟨ro, ?_⟩⟩, fun j c1 c2 => e3 j (by omega) (by omega)⟩
        · simp (disch := omega) only [lit, nI_leI, if_neg, if_true, bp_s, e1]
        · refine ⟨⟨hT.fr fun j hj => e3 j (by omega) (by omega), hPl.fr fun j hj => e3 j (by omega) (by omega), hS.fr fun j h1 h2 => e3 j (by omega) (by omega), hN0.fr fun j h1 h2 => e3 j (by omega) (by omega), hR.fr (e3 _ (by omega) (by omega)), hH.fr fun j h1 h2 => e3 j (by omega) (by omega), e2⟩, s1, s2, s3, s4, ?_, ?_, ?_, ?_⟩
          all_goals (first | rw [e3 (pb + 6) (by omega) (by omega)] | rw [e3 (pb + 9) (by omega) (by omega)])
          all_goals assumption
      · obtain ⟨C0, t, rfl⟩ := lastx hC
        obtain ⟨z1, e1, e2, e3⟩ := takeChanged_ok hA
        obtain ⟨z2, Q', f1, f2, f3, f4⟩ := JI.review hp hk hW h e3 e2
        have hcl := cnt_le (fun r => decide (ro r = r)) k
        simp only [List.length_append, List.length_singleton, List.length_nil] at hF hq
        obtain ⟨z', g1, g2, g3⟩ := ih ro C0 Q' z2 (turn + 1) N f3 (by omega) (by omega) (by omega) (by omega)
        refine ⟨z', ?_, g2, fun j c1 c2 => (g3 j c1 c2).trans ((f4 j c1 c2).trans (e3 j (by omega) (by omega)))⟩
        simp (disch := omega) only [lit, nI_leI, if_neg, if_true, bp_s, hC, if_false, nI_eq, e1, bd_s, f1, bnd_s, nI_add]
        exact g1
    · obtain ⟨Q0, ⟨a, b⟩, rfl⟩ := lastx hQ
      simp only [List.length_append, List.length_singleton] at hF hq
      obtain ⟨e1, e2, z1, e3, e4, e5⟩ := lastPair_ok hA (by omega)
      obtain ⟨p1, p2, p3⟩ := s2 (a, b) (by simp)
      have ra := hS.2.2.1 a p1
      have rb := hS.2.2.1 b p2
      by_cases hab : ro a = ro b
      · have h1 : JI T E pb k ro C Q0 z1 := by
          have up : ∀ x y, Eqv ro (Q0 ++ [(a, b)]) x y → Eqv ro Q0 x y := fun x y e => e.step (fun _ _ e => e) hab (fun q hq => hq)
          refine ⟨⟨hT.fr fun j hj => e5 j (by omega), hPl.fr fun j hj => e5 j (by omega), hS.fr fun j h1 h2 => e5 j (by omega), hN0.fr fun j h1 h2 => e5 j (by omega), hR.fr (e5 _ (by omega)), hH.fr fun j h1 h2 => e5 j (by omega), e4⟩, s1, fun q hq => s2 q (List.mem_append_left _ hq), s3, fun x y e => up _ _ (s4 x y e), ?_, ?_, ?_, ?_⟩
          · rw [e5 (pb + 6) (by omega)]
            intro r x c1 c2 c3 c4 y c5 c6 c7
            have := s5 r x c1 c2 c3 c4 y c5 c6 c7
            exact ⟨up _ _ this.1, up _ _ this.2⟩
          · rw [e5 (pb + 9) (by omega)]; exact s6
          · rw [e5 (pb + 9) (by omega)]
            intro t c1 c2 c3 c4
            obtain ⟨u, u1, u2, u3, u4⟩ := s7 t c1 c2 c3 c4
            exact ⟨u, u1, u2, up _ _ u3, u4⟩
          · rw [e5 (pb + 9) (by omega)]; exact s8
        obtain ⟨z', g1, g2, g3⟩ := ih ro C Q0 z1 (turn + 1) N h1 (by omega) (by omega) (by omega) (by omega)
        refine ⟨z', ?_, g2, fun j c1 c2 => (g3 j c1 c2).trans (e5 j (by omega))⟩
        simp (disch := omega) only [lit, nI_leI, if_neg, if_true, hQ, if_false, bp_s, nI_eq, e1, e2, e3, inb_t, gd_t, rd_nI, ra.1, rb.1, bnd_s, hab, nI_add]
        exact g1
      · -- a union
        have sa : z1 (pb + 3) = z (pb + 3) := e5 _ (by omega)
        obtain ⟨la, _, a2, a3, a4, _⟩ := hS.2.2.2.1 (ro a) ra.2.1 ra.2.2
        obtain ⟨lb, _, b2, b3, b4, _⟩ := hS.2.2.2.1 (ro b) rb.2.1 rb.2.2
        have hla : la.length + 1 ≤ 120 := by
          have := nodup_lt a2 (n := 120) (fun x hx => by have := ((a3 x).mp hx).1; omega)
          simpa using this
        have hlb : lb.length + 1 ≤ 120 := by
          have := nodup_lt b2 (n := 120) (fun x hx => by have := ((b3 x).mp hx).1; omega)
          simpa using this
        have fin : ∀ keep lose : Nat, ((keep = ro a ∧ lose = ro b) ∨ (keep = ro b ∧ lose = ro a)) → keep ≠ lose → ∃ z', (bp (fX4_unite pb z1 (nI keep) (nI lose)) fun z2 => bp (fX4_uniteRows pb z2 (nI keep) (nI lose)) fun z3 => lX4_join_11 pb N (nI turn + nI 1) z3) = some z' ∧ Jd T E pb k z' ∧ (∀ j, ¬ (23 ≤ j ∧ j ≤ 27) → ¬ (pb ≤ j ∧ j ≤ pb + 9) → z' j = z1 j) := by
          intro keep lose hkl hne
          obtain ⟨z2, z3, C', Q', f1, f2, f3, f4, f5, f6, f7⟩ := JI.union hp hk hW h (by omega) e5 e4 hkl hne
          have hC' := f4.Cle
          simp only [f1, bp_s, f2, nI_add]
          rcases f7 with f7 | ⟨f7, f8⟩
          · obtain ⟨z', g1, g2, g3⟩ := ih (mg ro keep lose) C' Q' z3 (turn + 1) N f7 (by omega) (by omega) (by omega) (by omega)
            exact ⟨z', g1, g2, fun j c1 c2 => (g3 j c1 c2).trans (f5 j c1 c2)⟩
          · obtain ⟨N, rfl⟩ : ∃ M, N = M + 1 := ⟨N - 1, by omega⟩
            obtain ⟨z4, g1, g2, g3⟩ := clear_ok f4
            refine ⟨z4, ?_, ⟨g2, Or.inr ⟨by rw [g3 pb (by omega) (by omega)]; exact f7, f8⟩⟩, fun j c1 c2 => (g3 j (by omega) (by omega)).trans (f5 j c1 c2)⟩
            rw [lX4_join_11.eq_2, f7]
            simp (disch := omega) only [lit, nI_leI, if_neg, nI_eq, g1, bp_s]
        by_cases hsz : lb.length + 1 ≤ la.length + 1
        · obtain ⟨z', g1, g2, g3⟩ := fin (ro a) (ro b) (Or.inl ⟨rfl, rfl⟩) hab
          refine ⟨z', ?_, g2, fun j c1 c2 => (g3 j c1 c2).trans (e5 j (by omega))⟩
          simp (disch := omega) only [lit, nI_leI, if_neg, if_pos, if_true, hQ, if_false, bp_s, nI_eq, e1, e2, e3, inb_t, gd_t, rd_nI, ra.1, rb.1, bnd_s, hab, sa, a4, b4, join_98_0]
          exact g1
        · obtain ⟨z', g1, g2, g3⟩ := fin (ro b) (ro a) (Or.inr ⟨rfl, rfl⟩) (fun e => hab e.symm)
          refine ⟨z', ?_, g2, fun j c1 c2 => (g3 j c1 c2).trans (e5 j (by omega))⟩
          simp (disch := omega) only [lit, nI_leI, if_neg, if_true, hQ, if_false, bp_s, nI_eq, e1, e2, e3, inb_t, gd_t, rd_nI, ra.1, rb.1, bnd_s, hab, sa, a4, b4, join_98_1]
          exact g1
/-- join: a and b are made one -/
theorem join_ok (hp : isPb pb) (hk : k ≤ T.length) (hW : WT T) (h : JI T E pb k ro C [] z) {a b : Nat} (ha : a < k) (hb : b < k) : ∃ z', fX4_join pb z (nI a) (nI b) = some z' ∧ Jd T (fun x y => E x y ∨ (x = a ∧ y = b)) pb k z' ∧ (∀ j, ¬ (23 ≤ j ∧ j ≤ 27) → ¬ (pb ≤ j ∧ j ≤ pb + 9) → z' j = z j) := by
  have hpn := hp.ne
  obtain ⟨⟨hT, hPl, hS, hN0, hR, hH, hA⟩, s1, s2, s3, s4, s5, s6, s7, s8⟩ := h
  obtain ⟨z1, e1, e2, e3⟩ := putPair_ok (a := a) (b := b) hA (by simp)
  have hkk := hS.2.1
  have hE : ∀ x y, One T k E x y → One T k (fun x y => E x y ∨ (x = a ∧ y = b)) x y := fun x y q => q.mono fun _ _ e => Or.inl e
  have up : ∀ x y, Eqv ro [] x y → Eqv ro [(a, b)] x y := fun x y e => e.le (fun _ _ q => Eqv.fb q) (fun q hq => by simp at hq)
  have h1 : JI T (fun x y => E x y ∨ (x = a ∧ y = b)) pb k ro C [(a, b)] z1 := by
    refine ⟨⟨hT.fr fun j hj => e3 j (by omega) (by omega) (by omega), hPl.fr fun j hj => e3 j (by omega) (by omega) (by omega), hS.fr fun j h1 h2 => e3 j (by omega) (by omega) (by omega), hN0.fr fun j h1 h2 => e3 j (by omega) (by omega) (by omega), hR.fr (e3 _ (by omega) (by omega) (by omega)), hH.fr fun j h1 h2 => e3 j (by omega) (by omega) (by omega), e2⟩, fun x y hx hy e => hE _ _ (s1 x y hx hy e), ?_, s3, ?_, ?_, ?_, ?_, ?_⟩
    · intro q hq
      have : q = (a, b) := by simpa using hq
      subst this
      exact ⟨ha, hb, One.of (Or.inr ⟨rfl, rfl⟩)⟩
    · intro x y e
      rcases e with e | ⟨rfl, rfl⟩
      · exact up _ _ (s4 x y e)
      · exact Eqv.pr (by simp)
    · rw [e3 (pb + 6) (by omega) (by omega) (by omega)]
      intro r x c1 c2 c3 c4 y c5 c6 c7
      have := s5 r x c1 c2 c3 c4 y c5 c6 c7
      exact ⟨up _ _ this.1, up _ _ this.2⟩
    · rw [e3 (pb + 9) (by omega) (by omega) (by omega)]; exact s6
    · rw [e3 (pb + 9) (by omega) (by omega) (by omega)]
      intro t c1 c2 c3 c4
      obtain ⟨u, u1, u2, u3, u4⟩ := s7 t c1 c2 c3 c4
      exact ⟨u, u1, u2, up _ _ u3, u4⟩
    · rw [e3 (pb + 9) (by omega) (by omega) (by omega)]; exact s8
  have hcl := cnt_le (fun r => decide (ro r = r)) k
  have hC := hA.Cle
  obtain ⟨z', g1, g2, g3⟩ := join_loop hp hk hW 100000 ro C [(a, b)] z1 0 FU h1 (by simp; omega) (by omega) (by have := FU_ge; omega) (by simp; omega)
  refine ⟨z', ?_, g2, fun j c1 c2 => (g3 j c1 c2).trans (e3 j (by omega) (by omega) (by omega))⟩
  unfold fX4_join
  rw [e1, bp_s]
  exact g1
end JOK
end
section
/-! a new term; a copy -/
section ADM
variable {T : List Tm} {E E' : Nat → Nat → Prop} {pb k : Nat} {ro : Nat → Nat} {Q : List (Nat × Nat)} {C : List Nat} {z z' : fS}
theorem JI.fr (h : JI T E pb k ro C Q z) (e : ∀ j, j < 11 ∨ (23 ≤ j ∧ j ≤ 27) ∨ (pb ≤ j ∧ j ≤ pb + 9) → z' j = z j) : JI T E pb k ro C Q z' := by
  obtain ⟨⟨hT, hPl, hS, hN0, hR, hH, hA⟩, s1, s2, s3, s4, s5, s6, s7, s8⟩ := h
  refine ⟨⟨hT.fr fun j hj => e j (by omega), hPl.fr fun j hj => e j (by omega), hS.fr fun j h1 h2 => e j (by omega), hN0.fr fun j h1 h2 => e j (by omega), hR.fr (e _ (by omega)), hH.fr fun j h1 h2 => e j (by omega), hA.fr fun j h1 h2 => e j (by omega)⟩, s1, s2, s3, s4, ?_, ?_, ?_, ?_⟩
  all_goals (first | rw [e (pb + 6) (by omega)] | rw [e (pb + 9) (by omega)])
  all_goals assumption
theorem JI.toE (h : JI T E' pb k ro C Q z) (h1 : ∀ a b, One T k E' a b → One T k E a b) (h2 : ∀ a b, E a b → E' a b) : JI T E pb k ro C Q z := by
  obtain ⟨hh, s1, s2, s3, s4, s5⟩ := h
  exact ⟨hh, fun a b ha hb e => h1 _ _ (s1 a b ha hb e), fun q hq => ⟨(s2 q hq).1, (s2 q hq).2.1, h1 _ _ (s2 q hq).2.2⟩, s3, fun a b e => s4 a b (h2 a b e), s5⟩
/-- a term more makes no two old ones one -/
theorem One.ext (hW : WT T) (hk : k < T.length) (hE : ∀ a b, E a b → a < k ∧ b < k) : (∀ a b, a < k → b < k → One T (k + 1) E a b → One T k E a b) ∧ (sz T k = 0 → ∀ b, b < k + 1 → One T (k + 1) E k b → b = k) := by
  have hw := (hW.2 k hk).2.1
  -- where the new one belongs
  by_cases hu : ∃ u, u < k ∧ ByP T (One T k E) k u
  · obtain ⟨u, u1, u2⟩ := hu
    have hz : 0 < sz T k := u2.1
    have key : IsC T (k + 1) E (fun a b => One T k E (if a = k then u else a) (if b = k then u else b)) := by
      have parts : ∀ a, a < k + 1 → ∀ i, i < sz T a → pt T a i < k := fun a ha i hi => by
        have := (hW.2 a (by omega)).2.1 i hi
        omega
      refine ⟨fun _ => One.rf, fun _ _ h => h.sm, fun _ _ _ h g => h.tr g, fun a b e => ?_, fun a b ha hb h => ?_, fun a b ha hb ka kb h => ?_⟩
      · obtain ⟨h1, h2⟩ := hE a b e
        try dsimp only
        rw [if_neg (by omega), if_neg (by omega)]
        exact One.of e
      · have h' : ByP T (One T k E) a b := by
          obtain ⟨g0, g1, g2, g3, g4⟩ := h
          refine ⟨g0, g1, g2, g3, ?_⟩
          rcases g4 with g4 | ⟨g4, g5, g6⟩
          · refine Or.inl fun i hi => ?_
            have := g4 i hi
            try dsimp only at this
            rw [if_neg (show ¬ pt T a i = k by have := parts a ha i hi; omega), if_neg (show ¬ pt T b i = k by have := parts b hb i (by omega); omega)] at this
            exact this
          · have s2 : sz T a = 2 := (hW.2 a (by omega)).2.2.2.1 g4
            have q1 := parts a ha 0 (by omega)
            have q2 := parts a ha 1 (by omega)
            have q3 := parts b hb 0 (by omega)
            have q4 := parts b hb 1 (by omega)
            try dsimp only at g5 g6
            rw [if_neg (by omega), if_neg (by omega)] at g5 g6
            exact Or.inr ⟨g4, g5, g6⟩
        have tr := fun (a b c : Nat) (h : One T k E a b) (g : One T k E b c) => h.tr g
        by_cases e1 : a = k
        · by_cases e2 : b = k
          · rw [e1, e2]; exact One.rf
          · try dsimp only
            rw [if_pos e1, if_neg e2]
            rw [e1] at h'
            exact One.cong u1 (by omega) ((u2.sm fun _ _ h => h.sm).tr hW tr (by omega) h')
        · by_cases e2 : b = k
          · try dsimp only
            rw [if_neg e1, if_pos e2]
            rw [e2] at h'
            exact One.cong (by omega) u1 (h'.tr hW tr (by omega) u2)
          · try dsimp only
            rw [if_neg e1, if_neg e2]
            exact One.cong (by omega) (by omega) h'
      · have pu : ∀ c, c < k + 1 → kd T c = nI 3 → kd T (if c = k then u else c) = nI 3 ∧ (if c = k then u else c) < k ∧ One T k E (pt T c 0) (pt T (if c = k then u else c) 0) ∧ One T k E (pt T c 1) (pt T (if c = k then u else c) 1) := by
          intro c hc kc
          by_cases e1 : c = k
          · rw [if_pos e1, e1]
            rw [e1] at kc
            have s2 : sz T k = 2 := (hW.2 k hk).2.2.1 kc
            refine ⟨u2.2.1.symm.trans kc, u1, ?_⟩
            rcases u2.2.2.2.2 with g | ⟨g, _, _⟩
            · exact ⟨g 0 (by omega), g 1 (by omega)⟩
            · rw [kc] at g
              exact absurd ((nI_eq (by omega) (by omega)).mp g) (by omega)
          · rw [if_neg e1]
            exact ⟨kc, by omega, One.rf, One.rf⟩
        obtain ⟨a1, a2, a3, a4⟩ := pu a ha ka
        obtain ⟨b1, b2, b3, b4⟩ := pu b hb kb
        have hr := One.row a2 b2 a1 b1 h
        have q1 := parts a ha 0 (by rw [(hW.2 a (by omega)).2.2.1 ka]; omega)
        have q2 := parts a ha 1 (by rw [(hW.2 a (by omega)).2.2.1 ka]; omega)
        have q3 := parts b hb 0 (by rw [(hW.2 b (by omega)).2.2.1 kb]; omega)
        have q4 := parts b hb 1 (by rw [(hW.2 b (by omega)).2.2.1 kb]; omega)
        try dsimp only
        rw [if_neg (show ¬ pt T a 0 = k by omega), if_neg (show ¬ pt T b 0 = k by omega), if_neg (show ¬ pt T a 1 = k by omega), if_neg (show ¬ pt T b 1 = k by omega)]
        exact ⟨(a3.tr hr.1).tr b3.sm, (a4.tr hr.2).tr b4.sm⟩
    refine ⟨fun a b ha hb h => ?_, fun h0 => by omega⟩
    have := h _ key
    try dsimp only at this
    rw [if_neg (by omega), if_neg (by omega)] at this
    exact this
  · have key : IsC T (k + 1) E (fun a b => a = b ∨ (a ≠ k ∧ b ≠ k ∧ One T k E a b)) := by
      have parts : ∀ a, a < k + 1 → ∀ i, i < sz T a → pt T a i < k := fun a ha i hi => by
        have := (hW.2 a (by omega)).2.1 i hi
        omega
      have toOne : ∀ a b, a = b ∨ (a ≠ k ∧ b ≠ k ∧ One T k E a b) → One T k E a b := fun a b h => by
        rcases h with rfl | ⟨_, _, h⟩
        · exact One.rf
        · exact h
      refine ⟨fun _ => Or.inl rfl, fun a b h => ?_, fun a b c h g => ?_, fun a b e => ?_, fun a b ha hb h => ?_, fun a b ha hb ka kb h => ?_⟩
      · rcases h with rfl | ⟨h1, h2, h3⟩
        · exact Or.inl rfl
        · exact Or.inr ⟨h2, h1, h3.sm⟩
      · rcases h with rfl | ⟨h1, h2, h3⟩
        · exact g
        · rcases g with rfl | ⟨g1, g2, g3⟩
          · exact Or.inr ⟨h1, h2, h3⟩
          · exact Or.inr ⟨h1, g2, h3.tr g3⟩
      · obtain ⟨h1, h2⟩ := hE a b e
        exact Or.inr ⟨by omega, by omega, One.of e⟩
      · have h' : ByP T (One T k E) a b := h.mono toOne
        by_cases e1 : a = k
        · by_cases e2 : b = k
          · exact Or.inl (e1.trans e2.symm)
          · rw [e1] at h'
            exact absurd ⟨b, by omega, h'⟩ hu
        · by_cases e2 : b = k
          · rw [e2] at h'
            exact absurd ⟨a, by omega, h'.sm fun _ _ h => h.sm⟩ hu
          · exact Or.inr ⟨e1, e2, One.cong (by omega) (by omega) h'⟩
      · rcases h with rfl | ⟨h1, h2, h3⟩
        · exact ⟨Or.inl rfl, Or.inl rfl⟩
        · have hr := One.row (by omega) (by omega) ka kb h3
          have q1 := parts a ha 0 (by rw [(hW.2 a (by omega)).2.2.1 ka]; omega)
          have q2 := parts a ha 1 (by rw [(hW.2 a (by omega)).2.2.1 ka]; omega)
          have q3 := parts b hb 0 (by rw [(hW.2 b (by omega)).2.2.1 kb]; omega)
          have q4 := parts b hb 1 (by rw [(hW.2 b (by omega)).2.2.1 kb]; omega)
          exact ⟨Or.inr ⟨by omega, by omega, hr.1⟩, Or.inr ⟨by omega, by omega, hr.2⟩⟩
    refine ⟨fun a b ha hb h => ?_, fun h0 b hb h => ?_⟩
    · rcases h _ key with rfl | ⟨_, _, h⟩
      · exact One.rf
      · exact h
    · rcases h _ key with h | ⟨h, _, _⟩
      · exact h.symm
      · exact absurd rfl h
def rx (ro : Nat → Nat) (k : Nat) : Nat → Nat := fun t => if t = k then k else ro t
theorem rx_k : rx ro k k = k := by simp [rx]
theorem rx_n {t : Nat} (h : t ≠ k) : rx ro k t = ro t := by simp [rx, h]
/-- the state when a new term has been written down, and nothing has been looked for yet -/
theorem admit_pre (hp : isPb pb) (hk : k < T.length) (hW : WT T) (hE : ∀ a b, E a b → a < k ∧ b < k) (h : JI T E pb k ro [] [] z) {C : List Nat} (hC : C = if 0 < sz T k then [k] else []) (hA : HA C [] z') (he : ∀ j, ¬ (23 ≤ j ∧ j ≤ 27) → ¬ (pb ≤ j ∧ j ≤ pb + 9) → z' j = z j) (h1 : z' (pb + 1) = upd (z (pb + 1)) k (nI k)) (h2 : z' (pb + 2) = upd (z (pb + 2)) k (nI k)) (h3 : z' (pb + 3) = upd (z (pb + 3)) k (nI 1)) (h4 : z' (pb + 4) = upd (z (pb + 4)) k (nI k)) (h5 : z' (pb + 5) = upd (z (pb + 5)) k (if kd T k = nI 1 then nI k else -1)) (h6 : z' (pb + 6) = upd (z (pb + 6)) k (if kd T k = nI 3 then nI k else -1)) (h7 : z' (pb + 7) = z (pb + 7)) (h8 : z' (pb + 8) = upd (z (pb + 8)) k (-1)) (h9 : z' (pb + 9) = upd (z (pb + 9)) k (-1)) (h10 : z' pb 11 = nI (k + 1)) (h11 : z' pb 12 = z pb 12 + nI 1) (h12 : z' pb 13 = z pb 13) : JI T E pb (k + 1) (rx ro k) C [] z' := by
  have hpn := hp.ne
  have hT1 := hW.1
  obtain ⟨⟨hT, hPl, hS, hN0, hR, hH, _⟩, s1, s2, s3, s4, s5, s6, s7, s8⟩ := h
  obtain ⟨q1, q2, q3, q4, q5⟩ := hS
  have hcl := cnt_le (fun r => decide (ro r = r)) k
  have hlt : ∀ t, t < k → ro t ≠ k := fun t ht => by have := (q3 t ht).2.1; omega
  have parts : ∀ a, a < k + 1 → ∀ i, i < sz T a → rx ro k (pt T a i) = ro (pt T a i) := fun a ha i hi => by
    have := (hW.2 a (by omega)).2.1 i hi
    exact rx_n (by omega)
  have toEq : ∀ x y, x < k → y < k → ro x = ro y → Eqv (rx ro k) [] x y := fun x y hx hy e => by
    refine Eqv.fb ?_
    rw [rx_n (by omega), rx_n (by omega)]; exact e
  have memC : ∀ u, u ∈ C ↔ u = k ∧ 0 < sz T k := by
    intro u
    rw [hC]
    by_cases q : 0 < sz T k
    · simp [q]
    · simp [q]
  refine ⟨⟨hT.fr fun j hj => he j (by omega) (by omega), hPl.fr fun j hj => he j (by omega) (by omega), ⟨h10, by omega, ?_, ?_, ?_⟩, ⟨by rw [h12]; exact hN0.1, ?_⟩, ?_, ⟨?_, ?_⟩, hA⟩, ?_, fun q hq => by simp at hq, fun u hu => ?_, fun a b e => ?_, ?_, ?_, ?_, ?_⟩
  · intro t ht
    rw [h1]
    by_cases e : t = k
    · subst e; rw [upd_e, rx_k, rx_k]; exact ⟨rfl, by omega, rfl⟩
    · have := q3 t (by omega)
      rw [upd_n e, rx_n e, rx_n (hlt t (by omega))]
      exact ⟨this.1, by omega, this.2.2⟩
  · intro r hr hrr
    rw [h2, h3, h4]
    by_cases e : r = k
    · subst e
      refine ⟨[], upd_e, by simp, fun t => ?_, upd_e, r, upd_e, by omega, rx_k, fun t ht htr => ?_⟩
      · constructor
        · intro h
          have : t = r := by simpa using h
          subst this; exact ⟨by omega, rx_k⟩
        · rintro ⟨c1, c2⟩
          by_cases e2 : t = r
          · simp [e2]
          · rw [rx_n e2] at c2
            exact absurd c2 (hlt t (by omega))
      · by_cases e2 : t = r
        · omega
        · rw [rx_n e2] at htr
          exact absurd htr (hlt t (by omega))
    · rw [rx_n e] at hrr
      obtain ⟨l, c1, c2, c3, c4, mm, c5, c6, c7, c8⟩ := q4 r (by omega) hrr
      have hnk : k ∉ r :: l := fun h => by have := ((c3 k).mp h).1; omega
      refine ⟨l, Pth.head c1 (upd_n e) fun x hx => upd_n (fun e2 => hnk (e2 ▸ List.mem_cons_of_mem _ hx)), c2, fun t => ?_, by rw [upd_n e]; exact c4, mm, by rw [upd_n e]; exact c5, by omega, by rw [rx_n (by omega)]; exact c7, fun t ht htr => ?_⟩
      · rw [c3 t]
        by_cases e2 : t = k
        · subst e2
          rw [rx_k]
          constructor
          · rintro ⟨c, _⟩; omega
          · rintro ⟨_, c⟩; exact absurd c.symm e
        · rw [rx_n e2]
          constructor
          · rintro ⟨c, d⟩; exact ⟨by omega, d⟩
          · rintro ⟨c, d⟩; exact ⟨by omega, d⟩
      · by_cases e2 : t = k
        · rw [e2, rx_k] at htr; exact absurd htr.symm e
        · rw [rx_n e2] at htr; exact c8 t (by omega) htr
  · rw [h11, q5, nI_add, cnt_s]
    congr 1
    rw [cnt_cong (p := fun r => decide (rx ro k r = r)) (q := fun r => decide (ro r = r)) (n := k) (fun i hi => by rw [rx_n (by omega)])]
    simp [rx_k]
  · intro r hr hrr
    rw [h5]
    by_cases e : r = k
    · subst e
      rw [upd_e]
      by_cases q : kd T r = nI 1
      · rw [if_pos q]
        refine Or.inr ⟨r, rfl, by omega, rx_k, q, fun t ht htr _ => ?_⟩
        by_cases e2 : t = r
        · exact e2
        · rw [rx_n e2] at htr; exact absurd htr (hlt t (by omega))
      · rw [if_neg q]
        refine Or.inl ⟨rfl, fun t ht htr => ?_⟩
        by_cases e2 : t = r
        · rw [e2]; exact q
        · rw [rx_n e2] at htr; exact absurd htr (hlt t (by omega))
    · rw [rx_n e] at hrr
      rw [upd_n e]
      rcases hN0.2 r (by omega) hrr with ⟨c1, c2⟩ | ⟨u, c1, c2, c3, c4, c5⟩
      · refine Or.inl ⟨c1, fun t ht htr => ?_⟩
        by_cases e2 : t = k
        · rw [e2, rx_k] at htr; exact absurd htr.symm e
        · rw [rx_n e2] at htr; exact c2 t (by omega) htr
      · refine Or.inr ⟨u, c1, by omega, by rw [rx_n (by omega)]; exact c3, c4, fun t ht htr hkt => ?_⟩
        by_cases e2 : t = k
        · rw [e2, rx_k] at htr; exact absurd htr.symm e
        · rw [rx_n e2] at htr; exact c5 t (by omega) htr hkt
  · intro r hr hrr
    rw [h6]
    by_cases e : r = k
    · subst e
      rw [upd_e]
      by_cases q : kd T r = nI 3
      · rw [if_pos q]
        exact Or.inr ⟨r, rfl, by omega, rx_k, q⟩
      · rw [if_neg q]
        refine Or.inl ⟨rfl, fun t ht htr => ?_⟩
        by_cases e2 : t = r
        · rw [e2]; exact q
        · rw [rx_n e2] at htr; exact absurd htr (hlt t (by omega))
    · rw [rx_n e] at hrr
      rw [upd_n e]
      rcases hR r (by omega) hrr with ⟨c1, c2⟩ | ⟨u, c1, c2, c3, c4⟩
      · refine Or.inl ⟨c1, fun t ht htr => ?_⟩
        by_cases e2 : t = k
        · rw [e2, rx_k] at htr; exact absurd htr.symm e
        · rw [rx_n e2] at htr; exact c2 t (by omega) htr
      · exact Or.inr ⟨u, c1, by omega, by rw [rx_n (by omega)]; exact c3, c4⟩
  · intro u hu
    rw [h9]
    by_cases e : u = k
    · rw [e, upd_e]; exact Or.inl rfl
    · rw [upd_n e]; exact hH.1 u (by omega)
  · intro s hs
    obtain ⟨l, c1, c2, c3⟩ := hH.2 s hs
    rw [h7, h8, h9]
    have hnk : k ∉ l := fun h => by have := ((c3 k).mp h).1; omega
    refine ⟨l, c1.ext fun x hx => upd_n (fun e => hnk (e ▸ hx)), c2, fun u => ?_⟩
    rw [c3 u]
    by_cases e : u = k
    · subst e
      rw [upd_e]
      constructor
      · rintro ⟨c, _⟩; omega
      · rintro ⟨_, c⟩; exact absurd c.symm (nI_m1 (by omega))
    · rw [upd_n e]
      constructor
      · rintro ⟨c, d⟩; exact ⟨by omega, d⟩
      · rintro ⟨c, d⟩; exact ⟨by omega, d⟩
  · intro a b ha hb e
    by_cases e1 : a = k
    · by_cases e2 : b = k
      · rw [e1, e2]; exact One.rf
      · rw [e1, rx_k, rx_n e2] at e; exact absurd e.symm (hlt b (by omega))
    · by_cases e2 : b = k
      · rw [rx_n e1, e2, rx_k] at e; exact absurd e (hlt a (by omega))
      · rw [rx_n e1, rx_n e2] at e
        exact (s1 a b (by omega) (by omega) e).grow (by omega)
  · have := (memC u).mp hu
    rw [this.1]; exact ⟨by omega, this.2⟩
  · obtain ⟨c1, c2⟩ := hE a b e
    exact toEq a b c1 c2 (s4 a b e).nil
  · intro r x hr hrr hxk hx y hy hyr hky
    rw [h6] at hx
    by_cases e : r = k
    · subst e
      rw [upd_e] at hx
      by_cases e2 : y = r
      · subst e2
        rw [if_pos hky] at hx
        have : x = y := ((nI_eq (by omega) (by omega)).mp hx).symm
        subst this
        exact ⟨Eqv.rf, Eqv.rf⟩
      · rw [rx_n e2] at hyr; exact absurd hyr (hlt y (by omega))
    · rw [upd_n e] at hx
      rw [rx_n e] at hrr
      have hyk : y ≠ k := fun e2 => by rw [e2, rx_k] at hyr; exact e hyr.symm
      rw [rx_n hyk] at hyr
      have hxk' : x < k := by
        rcases hR r (by omega) hrr with ⟨c1, c2⟩ | ⟨u, c1, c2, c3, c4⟩
        · exact absurd hky (c2 y (by omega) hyr)
        · rw [c1] at hx
          have := (nI_eq (by omega) (by omega)).mp hx
          omega
      have hkx : kd T x = nI 3 := by
        rcases hR r (by omega) hrr with ⟨c1, c2⟩ | ⟨u, c1, c2, c3, c4⟩
        · exact absurd hky (c2 y (by omega) hyr)
        · rw [c1] at hx
          have := (nI_eq (by omega) (by omega)).mp hx
          rw [← this]; exact c4
      have hr2 := s5 r x (by omega) hrr hxk' hx y (by omega) hyr hky
      have sx := (hW.2 x (by omega)).2.2.1 hkx
      have sy := (hW.2 y (by omega)).2.2.1 hky
      have w1 := (hW.2 x (by omega)).2.1 0 (by omega)
      have w2 := (hW.2 x (by omega)).2.1 1 (by omega)
      have w3 := (hW.2 y (by omega)).2.1 0 (by omega)
      have w4 := (hW.2 y (by omega)).2.1 1 (by omega)
      exact ⟨toEq _ _ (by omega) (by omega) hr2.1.nil, toEq _ _ (by omega) (by omega) hr2.2.nil⟩
  · intro u v hu hv hCu hCv hsu hsv hby
    rw [h9] at hsu hsv
    have huk : u ≠ k := fun e => hsu (by rw [e, upd_e])
    have hvk : v ≠ k := fun e => hsv (by rw [e, upd_e])
    rw [upd_n huk] at hsu
    rw [upd_n hvk] at hsv
    exact s6 u v (by omega) (by omega) (by simp) (by simp) hsu hsv (byP_back hW (by omega) (parts u hu) (parts v hv) hby)
  · intro t ht h0 hCt hst
    have htk : t ≠ k := fun e => hCt ((memC t).mpr ⟨e, by rw [← e]; exact h0⟩)
    rw [h9, upd_n htk] at hst
    obtain ⟨u, u1, u2, u3, u4⟩ := s7 t (by omega) h0 (by simp) hst
    refine ⟨u, by omega, byP_back (ro := rx ro k) hW (by omega) (fun i hi => (parts t ht i hi).symm) (fun i hi => (parts u (by omega) i hi).symm) u2, toEq t u (by omega) u1 u3.nil, ?_⟩
    rcases u4 with u4 | u4
    · rw [h9, upd_n (by omega)]; exact Or.inl u4
    · simp at u4
  · intro u hu hCu hsu
    rw [h9] at hsu ⊢
    have huk : u ≠ k := fun e => hsu (by rw [e, upd_e])
    rw [upd_n huk] at hsu ⊢
    rw [s8 u (by omega) (by simp) hsu]
    have hr : ∀ i, rp T (rx ro k) u i = rp T ro u i := fun i => by
      unfold rp
      by_cases hi : i < sz T u
      · rw [if_pos hi, if_pos hi, parts u hu i hi]
      · rw [if_neg hi, if_neg hi]
    unfold sg
    rw [hr 0, hr 1, hr 2]
theorem admit_ok (hp : isPb pb) (hk : k < T.length) (hW : WT T) (hE : ∀ a b, E a b → a < k ∧ b < k) (h : JI T E pb k ro [] [] z) : ∃ z' ro', fX4_admit pb z (nI k) = some z' ∧ JI T E pb (k + 1) ro' [] [] z' ∧ (∀ j, ¬ (23 ≤ j ∧ j ≤ 27) → ¬ (pb ≤ j ∧ j ≤ pb + 9) → z' j = z j) := by
  have hpn := hp.ne
  have hT1 := hW.1
  have h' := h
  obtain ⟨⟨hT, hPl, hS, hN0, hR, hH, hA⟩, _⟩ := h'
  have hcl := cnt_le (fun r => decide (ro r = r)) k
  obtain ⟨t2, t3, t4, t5⟩ := hT.2 k hk
  have hsz := (hW.2 k hk).1
  obtain ⟨z1, hz1⟩ : ∃ y : fS, y = wrr (wrr (wrr (wrr (wrr (wrr (wrr (wrr (wrr z (pb + 1) (upd (z (pb + 1)) k (nI k))) (pb + 2) (upd (z (pb + 2)) k (nI k))) (pb + 3) (upd (z (pb + 3)) k (nI 1))) (pb + 4) (upd (z (pb + 4)) k (nI k))) (pb + 5) (upd (z (pb + 5)) k (if kd T k = nI 1 then nI k else -1))) (pb + 6) (upd (z (pb + 6)) k (if kd T k = nI 3 then nI k else -1))) (pb + 8) (upd (z (pb + 8)) k (-1))) (pb + 9) (upd (z (pb + 9)) k (-1))) pb (upd (upd (z pb) 11 (nI (k + 1))) 12 (z pb 12 + nI 1)) := ⟨_, rfl⟩
  have f1 : ∀ j, ¬ (pb ≤ j ∧ j ≤ pb + 9) → z1 j = z j := fun j c => by
    rw [hz1]; simp (disch := omega) only [wrr_n]
  have hA1 : HA [] [] z1 := hA.fr fun j c1 c2 => f1 j (by omega)
  -- with the term put on the agenda, if it has parts
  obtain ⟨z2, C, g1, g2, g3, g4⟩ : ∃ (z2 : fS) (C : List Nat), (C = if 0 < sz T k then [k] else []) ∧ HA C [] z2 ∧ (∀ j, ¬ (23 ≤ j ∧ j ≤ 27) → z2 j = z1 j) ∧ (if nI (sz T k) ≤ 0 then fX4_join pb z1 (nI k) (nI k) else bp (fX0_putChanged z1 (nI k)) fun z121 => fX4_join pb z121 (nI k) (nI k)) = fX4_join pb z2 (nI k) (nI k) := by
    by_cases q : 0 < sz T k
    · obtain ⟨z2, e1, e2, e3⟩ := putChanged_ok (u := k) hA1 (by omega)
      refine ⟨z2, [k], by rw [if_pos q], ?_, fun j c => e3 j (by omega) (by omega) (by omega), ?_⟩
      · simpa [addC] using e2
      · simp (disch := omega) only [lit, nI_leI, if_neg, e1, bp_s]
    · refine ⟨z1, [], by rw [if_neg q], hA1, fun _ _ => rfl, ?_⟩
      simp (disch := omega) only [lit, nI_leI, if_pos]
  have pre : JI T E pb (k + 1) (rx ro k) C [] z2 := by
    refine admit_pre hp hk hW hE h g1 g2 (fun j c1 c2 => (g3 j c1).trans (f1 j c2)) ?_ ?_ ?_ ?_ ?_ ?_ ?_ ?_ ?_ ?_ ?_ ?_
    all_goals rw [g3 _ (by omega), hz1]
    all_goals simp (disch := omega) only [wrr_n, wrr_e, upd_n, upd_e]
  obtain ⟨z3, e1, e2, e3⟩ := join_ok hp (show k + 1 ≤ T.length by omega) hW pre (a := k) (b := k) (by omega) (by omega)
  have kk1 : ∀ y : fS, (∀ j, j < 11 → y j = z j) → fX7_kindOf y (nI k) = some (kd T k) := fun y hy => by
    unfold fX7_kindOf
    simp (disch := omega) only [inb_t, gd_t, rd_nI, hy 2 (by omega), t2]
  have ss1 : ∀ y : fS, (∀ j, j < 11 → y j = z j) → fX7_sizeOf y (nI k) = some (nI (sz T k)) := fun y hy => by
    unfold fX7_sizeOf
    simp (disch := omega) only [inb_t, gd_t, rd_nI, hy 4 (by omega), t4]
  have hcalc : fX4_admit pb z (nI k) = some z3 := by
    unfold fX4_admit
    simp (disch := omega) only [inb_t, gd_t, wr_nI, bnd_s, wrr_n, lit]
    rw [kk1 _ (fun j hj => by simp (disch := omega) only [wrr_n]), bp_s]
    have fin : ∀ v w : Int32, v = (if kd T k = nI 1 then nI k else -1) → w = (if kd T k = nI 3 then nI k else -1) → jX4_admit_73 pb (nI k) w (nI k) (wrr (wrr (wrr (wrr (wrr z (pb + 1) (upd (z (pb + 1)) k (nI k))) (pb + 2) (upd (z (pb + 2)) k (nI k))) (pb + 3) (upd (z (pb + 3)) k (nI 1))) (pb + 4) (upd (z (pb + 4)) k (nI k))) (pb + 5) (upd (z (pb + 5)) k v)) = some z3 := by
      intro v w hv hw
      subst hv; subst hw
      unfold jX4_admit_73
      simp (disch := omega) only [inb_t, gd_t, wr_nI, wf_w, bnd_s, wrr_n, wrr_e, wrr_wrr, upd_n]
      rw [ss1 _ (fun j hj => by simp (disch := omega) only [wrr_n]), bp_s]
      simp only [lit, nI_add]
      have hz2 := hz1
      simp only [lit] at hz2
      rw [← hz2]
      rw [e1] at g4
      by_cases q : nI (sz T k) ≤ nI 0
      · rw [if_pos q]
        rw [if_pos (show nI (sz T k) ≤ 0 from q)] at g4
        rw [g4, bp_s]
      · rw [if_neg q]
        rw [if_neg (show ¬ nI (sz T k) ≤ 0 from q)] at g4
        obtain ⟨z4, y1, y2⟩ := bp_at g4
        rw [y1, bp_s, y2, bp_s]
    have mid : ∀ v : Int32, v = (if kd T k = nI 1 then nI k else -1) → jX4_admit_50 pb (nI k) v (nI k) (wrr (wrr (wrr (wrr z (pb + 1) (upd (z (pb + 1)) k (nI k))) (pb + 2) (upd (z (pb + 2)) k (nI k))) (pb + 3) (upd (z (pb + 3)) k (nI 1))) (pb + 4) (upd (z (pb + 4)) k (nI k))) = some z3 := by
      intro v hv
      unfold jX4_admit_50
      simp (disch := omega) only [inb_t, gd_t, wr_nI, bnd_s, wrr_n]
      rw [kk1 _ (fun j hj => by simp (disch := omega) only [wrr_n]), bp_s]
      simp only [lit]
      by_cases q : kd T k = nI 3
      · rw [if_pos q]; exact fin v (nI k) hv (by rw [if_pos q])
      · rw [if_neg q]; exact fin v (-1) hv (by rw [if_neg q])
    by_cases q : kd T k = nI 1
    · rw [if_pos q]; exact mid (nI k) (by rw [if_pos q])
    · rw [if_neg q]; exact mid (-1) (by rw [if_neg q])
  have hone : ∀ a b, One T (k + 1) (fun x y => E x y ∨ (x = k ∧ y = k)) a b → One T (k + 1) E a b := fun a b h => h.le fun x y e => by
    rcases e with e | ⟨rfl, rfl⟩
    · exact One.of e
    · exact One.rf
  have hfr : ∀ j, ¬ (23 ≤ j ∧ j ≤ 27) → ¬ (pb ≤ j ∧ j ≤ pb + 9) → z3 j = z j := fun j c1 c2 => (e3 j c1 c2).trans ((g3 j c1).trans (f1 j c2))
  rcases e2.2 with ⟨ro', hJ⟩ | ⟨_, u, v, u1, v1, u2, u3, u4, u5⟩
  · exact ⟨z3, ro', hcalc, hJ.toE hone (fun a b e => Or.inl e), hfr⟩
  · exfalso
    have o1 := hone u v u5
    obtain ⟨x1, x2⟩ := One.ext hW hk hE
    by_cases c1 : u = k
    · rw [c1] at o1 u3
      exact u2 (c1.trans (x2 ((hW.2 k hk).2.2.2.2.1 u3) v v1 o1).symm)
    · by_cases c2 : v = k
      · rw [c2] at o1 u4
        exact u2 ((x2 ((hW.2 k hk).2.2.2.2.1 u4) u u1 o1.sm).trans c2.symm)
      · have o2 := x1 u v (by omega) (by omega) o1
        have hro := (h.closed hW (by omega) u v (by omega) (by omega)).mpr o2
        have r1 := hS.2.2.1 u (by omega)
        rcases hN0.2 (ro u) r1.2.1 r1.2.2 with ⟨_, n2⟩ | ⟨w, _, _, _, _, n5⟩
        · exact n2 u (by omega) rfl u3
        · exact u2 ((n5 u (by omega) rfl u3).trans (n5 v (by omega) hro.symm u4).symm)
end ADM
end
section
/-! a partition is copied -/
section CPY
variable {T : List Tm} {E : Nat → Nat → Prop} {pb ob k : Nat} {ro : Nat → Nat} {z z' : fS}
theorem JI.copy (hk : k ≤ 120) (h : JI T E ob k ro [] [] z) (e0 : ∀ j, j < 11 ∨ (23 ≤ j ∧ j ≤ 27) → z' j = z j) (e1 : ∀ i j, 1 ≤ i → i ≤ 9 → i ≠ 7 → j < k → z' (pb + i) j = z (ob + i) j) (e7 : ∀ j, j < 128 → z' (pb + 7) j = z (ob + 7) j) (e11 : z' pb 11 = z ob 11) (e12 : z' pb 12 = z ob 12) (e13 : z' pb 13 = z ob 13) : JI T E pb k ro [] [] z' := by
  obtain ⟨⟨hT, hPl, hS, hN0, hR, hH, hA⟩, s1, s2, s3, s4, s5, s6, s7, s8⟩ := h
  refine ⟨⟨hT.fr fun j hj => e0 j (by omega), hPl.fr fun j hj => e0 j (by omega), ⟨by rw [e11]; exact hS.1, hk, ?_, ?_, by rw [e12]; exact hS.2.2.2.2⟩, ⟨by rw [e13]; exact hN0.1, ?_⟩, ?_, ⟨?_, ?_⟩, hA.fr fun j h1 h2 => e0 j (by omega)⟩, s1, s2, s3, s4, ?_, ?_, ?_, ?_⟩
  · intro t ht
    rw [e1 1 t (by omega) (by omega) (by omega) ht]; exact hS.2.2.1 t ht
  · intro r hr hrr
    obtain ⟨l, c1, c2, c3, c4, mm, c5, c6⟩ := hS.2.2.2.1 r hr hrr
    refine ⟨l, Pth.head c1 (e1 2 r (by omega) (by omega) (by omega) hr) fun x hx => e1 2 x (by omega) (by omega) (by omega) ((c3 x).mp (List.mem_cons_of_mem _ hx)).1, c2, c3, ?_, mm, ?_, c6⟩
    · rw [e1 3 r (by omega) (by omega) (by omega) hr]; exact c4
    · rw [e1 4 r (by omega) (by omega) (by omega) hr]; exact c5
  · intro r hr hrr
    rw [e1 5 r (by omega) (by omega) (by omega) hr]; exact hN0.2 r hr hrr
  · intro r hr hrr
    rw [e1 6 r (by omega) (by omega) (by omega) hr]; exact hR r hr hrr
  · intro u hu
    rw [e1 9 u (by omega) (by omega) (by omega) hu]; exact hH.1 u hu
  · intro s hs
    obtain ⟨l, c1, c2, c3⟩ := hH.2 s hs
    refine ⟨l, ?_, c2, fun u => ?_⟩
    · rw [e7 s hs]
      exact c1.ext fun x hx => e1 8 x (by omega) (by omega) (by omega) ((c3 x).mp hx).1
    · rw [c3 u]
      constructor
      · rintro ⟨h1, h2⟩; exact ⟨h1, by rw [e1 9 u (by omega) (by omega) (by omega) h1]; exact h2⟩
      · rintro ⟨h1, h2⟩; exact ⟨h1, by rw [e1 9 u (by omega) (by omega) (by omega) h1] at h2; exact h2⟩
  · intro r x hr hrr hxk hx
    rw [e1 6 r (by omega) (by omega) (by omega) hr] at hx
    exact s5 r x hr hrr hxk hx
  · intro u v hu hv
    rw [e1 9 u (by omega) (by omega) (by omega) hu, e1 9 v (by omega) (by omega) (by omega) hv]
    exact s6 u v hu hv
  · intro t ht h0 hC hst
    rw [e1 9 t (by omega) (by omega) (by omega) ht] at hst
    obtain ⟨u, u1, u2, u3, u4⟩ := s7 t ht h0 hC hst
    exact ⟨u, u1, u2, u3, by rw [e1 9 u (by omega) (by omega) (by omega) u1]; exact u4⟩
  · intro u hu
    rw [e1 9 u (by omega) (by omega) (by omega) hu]
    exact s8 u hu
theorem cpb_t {n m : Nat} (h : n ≤ m) (hm : m < 2 ^ 31) : cpb (nI 0) (nI 0) (nI n) m m = true := by
  unfold cpb
  refine decide_eq_true ⟨nI_pos (by omega), nI_pos (by omega), nI_pos (by omega), ?_, ?_⟩ <;> rw [nI_clamp (by omega), nI_clamp (by omega)] <;> omega
theorem cpy_nI {n k0 k1 : Nat} (h : n < 2 ^ 31) : cpy z k0 (nI 0) k1 (nI 0) (nI n) = wrr z k1 (fun j => if j < n then z k0 j else z k1 j) := by
  unfold cpy
  congr 1
  funext j
  rw [nI_clamp (by omega), nI_clamp h]
  unfold va_cpy
  simp
theorem copyFrom_ok (hp : isPb pb) (ho : isPb ob) (hne : pb ≠ ob) (h : JI T E ob k ro [] [] z) : ∃ z', fX4_copyFrom pb z ob = some z' ∧ JI T E pb k ro [] [] z' ∧ (∀ j, ¬ (pb ≤ j ∧ j ≤ pb + 9) → z' j = z j) := by
  have hpn := hp.ne
  have hon := ho.ne
  have hd : pb + 10 ≤ ob ∨ ob + 10 ≤ pb := by
    rcases hp with rfl | rfl | rfl <;> rcases ho with rfl | rfl | rfl <;> omega
  have h' := h
  obtain ⟨⟨hT, hPl, hS, hN0, hR, hH, hA⟩, _⟩ := h'
  have hk := hS.2.1
  have e11 := hS.1
  have e13 := hN0.1
  obtain ⟨z', hz'⟩ : ∃ y, fX4_copyFrom pb z ob = some y ∧ (∀ j, ¬ (pb ≤ j ∧ j ≤ pb + 9) → y j = z j) ∧ (∀ i j, 1 ≤ i → i ≤ 9 → i ≠ 7 → j < k → y (pb + i) j = z (ob + i) j) ∧ (∀ j, j < 128 → y (pb + 7) j = z (ob + 7) j) ∧ y pb 11 = z ob 11 ∧ y pb 12 = z ob 12 ∧ y pb 13 = z ob 13 := by
    refine ⟨wrr (wrr (wrr (wrr (wrr (wrr (wrr (wrr (wrr (wrr z pb (upd (upd (upd (z pb) 11 (nI k)) 12 (z ob 12)) 13 (nI 0))) (pb + 1) (fun j => if j < k then z (ob + 1) j else z (pb + 1) j)) (pb + 2) (fun j => if j < k then z (ob + 2) j else z (pb + 2) j)) (pb + 3) (fun j => if j < k then z (ob + 3) j else z (pb + 3) j)) (pb + 4) (fun j => if j < k then z (ob + 4) j else z (pb + 4) j)) (pb + 5) (fun j => if j < k then z (ob + 5) j else z (pb + 5) j)) (pb + 6) (fun j => if j < k then z (ob + 6) j else z (pb + 6) j)) (pb + 7) (fun j => if j < 128 then z (ob + 7) j else z (pb + 7) j)) (pb + 8) (fun j => if j < k then z (ob + 8) j else z (pb + 8) j)) (pb + 9) (fun j => if j < k then z (ob + 9) j else z (pb + 9) j), ?_, ?_, ?_, ?_, ?_, ?_, ?_⟩
    · unfold fX4_copyFrom
      simp (disch := omega) only [wf_w, bnd_s, wrr_n, wrr_e, wrr_wrr, e11, e13, isb_0, gd_t, upd_n, upd_e, lit, cpb_t, cpy_nI]
    · intro j c
      simp (disch := omega) only [wrr_n]
    · intro i j h1 h2 h3 hj
      rcases (show i = 1 ∨ i = 2 ∨ i = 3 ∨ i = 4 ∨ i = 5 ∨ i = 6 ∨ i = 8 ∨ i = 9 by omega) with rfl | rfl | rfl | rfl | rfl | rfl | rfl | rfl
      all_goals simp (disch := omega) only [wrr_n, wrr_e, if_pos]
    · intro j hj
      simp (disch := omega) only [wrr_n, wrr_e, if_pos]
    · simp (disch := omega) only [wrr_n, wrr_e, upd_n, upd_e, e11]
    · simp (disch := omega) only [wrr_n, wrr_e, upd_n, upd_e]
    · simp (disch := omega) only [wrr_n, wrr_e, upd_n, upd_e, e13]
  obtain ⟨a1, a2, a3, a4, a5, a6, a7⟩ := hz'
  exact ⟨z', a1, h.copy hk (fun j hj => a2 j (by omega)) a3 a4 a5 a6 a7, a2⟩
end CPY
end
section
/-! the reference finds what is one -/
def MT (T : List Tm) (z : fS) : Prop :=
  z 0 4 = nI T.length ∧ ∀ t, t < T.length → z 1 t = kd T t ∧ z 2 t = sh T t ∧ z 3 t = nI (sz T t) ∧ ∀ i, i < sz T t → z 4 (3 * t + i) = nI (pt T t i)
theorem MT.fr {T : List Tm} {z z' : fS} (h : MT T z) (e0 : z' 0 4 = z 0 4) (e : ∀ j, 1 ≤ j → j ≤ 4 → z' j = z j) : MT T z' := by
  unfold MT
  rw [e0, e 1 (by omega) (by omega), e 2 (by omega) (by omega), e 3 (by omega) (by omega), e 4 (by omega) (by omega)]
  exact h
def MO (n : Nat) (on : Nat → Nat) (z : fS) : Prop := ∀ t, t < n → z 20 t = nI (on t) ∧ on t ≤ t ∧ on (on t) = on t
section MER
variable {T : List Tm} {E : Nat → Nat → Prop} {n : Nat} {on : Nat → Nat} {z : fS}
theorem merge_loop (hn : n ≤ 120) {keep goes : Nat} (hk : keep < 120) (hg : goes < 120) : ∀ (d i N : Nat) (z : fS) (f : Nat → Nat), i + d = n → d < N → z 0 4 = nI n → (∀ t, t < n → z 20 t = nI (if t < i ∧ f t = goes then keep else f t)) → (∀ t, t < n → f t < 120) → ∃ z', lX9_merge_66 (nI keep) (nI goes) N (nI i) z = some z' ∧ (∀ t, t < n → z' 20 t = nI (if f t = goes then keep else f t)) ∧ (∀ j, j ≠ 20 → z' j = z j) := by
  intro d
  induction d with
  | zero =>
    intro i N z f hi hN h4 hz hf
    obtain ⟨N, rfl⟩ : ∃ M, N = M + 1 := ⟨N - 1, by omega⟩
    refine ⟨z, ?_, fun t ht => ?_, fun _ _ => rfl⟩
    · rw [lX9_merge_66.eq_2]
      simp (disch := omega) only [h4, nI_leI, if_pos]
    · rw [hz t ht]
      congr 1
      by_cases q : f t = goes
      · rw [if_pos ⟨by omega, q⟩, if_pos q]
      · rw [if_neg (fun x => q x.2), if_neg q]
  | succ d ih =>
    intro i N z f hi hN h4 hz hf
    obtain ⟨N, rfl⟩ : ∃ M, N = M + 1 := ⟨N - 1, by omega⟩
    have hi20 : z 20 i = nI (f i) := by rw [hz i (by omega), if_neg (fun x => by omega)]
    have hfi := hf i (by omega)
    obtain ⟨z', e1, e2, e3⟩ := ih (i + 1) N (wrr z 20 (upd (z 20) i (nI (if f i = goes then keep else f i)))) f (by omega) (by omega) (by rw [wrr_n (by omega)]; exact h4) (fun t ht => by
      rw [wrr_e]
      by_cases e : t = i
      · subst e
        rw [upd_e]
        congr 1
        by_cases q : f t = goes
        · rw [if_pos q, if_pos ⟨by omega, q⟩]
        · rw [if_neg q, if_neg (fun x => q x.2)]
      · rw [upd_n e, hz t ht]
        congr 1
        by_cases q : f t = goes
        · by_cases q2 : t < i
          · rw [if_pos ⟨q2, q⟩, if_pos ⟨by omega, q⟩]
          · rw [if_neg (fun x => q2 x.1), if_neg (fun x => by omega)]
        · rw [if_neg (fun x => q x.2), if_neg (fun x => q x.2)]) hf
    refine ⟨z', ?_, e2, fun j hj => (e3 j hj).trans (wrr_n hj)⟩
    rw [lX9_merge_66.eq_2]
    by_cases q : f i = goes
    · rw [if_pos q] at e1
      simp (disch := omega) only [h4, nI_leI, if_neg, inb_t, gd_t, rd_nI, hi20, nI_eq, if_pos, wr_nI, bnd_s, lit, nI_add]
      exact e1
    · rw [if_neg q] at e1
      simp (disch := omega) only [h4, nI_leI, if_neg, inb_t, gd_t, rd_nI, hi20, nI_eq, wr_nI, bnd_s, lit, nI_add]
      exact e1
/-- two classes become one, under the lesser name -/
theorem merge_ok (hn : n ≤ 120) (h4 : z 0 4 = nI n) (hO : MO n on z) {a b : Nat} (ha : a < n) (hb : b < n) (hab : on a ≠ on b) : ∃ z' on', fX9_merge z (nI a) (nI b) = some z' ∧ MO n on' z' ∧ (∀ j, j ≠ 20 → z' j = z j) ∧ ((on' = mg on (on a) (on b)) ∨ (on' = mg on (on b) (on a))) ∧ cnt (fun r => decide (on' r = r)) n + 1 = cnt (fun r => decide (on r = r)) n := by
  obtain ⟨a1, a2, a3⟩ := hO a ha
  obtain ⟨b1, b2, b3⟩ := hO b hb
  have main : ∀ keep goes : Nat, keep < goes → goes < n → on keep = keep → on goes = goes → ∃ z', lX9_merge_66 (nI keep) (nI goes) FU (nI 0) z = some z' ∧ MO n (mg on keep goes) z' ∧ (∀ j, j ≠ 20 → z' j = z j) ∧ cnt (fun r => decide (mg on keep goes r = r)) n + 1 = cnt (fun r => decide (on r = r)) n := by
    intro keep goes hkg hgn k1 g1
    obtain ⟨z', e1, e2, e3⟩ := merge_loop hn (keep := keep) (goes := goes) (by omega) (by omega) n 0 FU z on (by omega) (by have := FU_ge; omega) h4 (fun t ht => by rw [if_neg (fun x => by omega)]; exact (hO t ht).1) (fun t ht => by have := (hO t ht).2.1; omega)
    refine ⟨z', e1, fun t ht => ⟨by rw [e2 t ht]; rfl, ?_, mg_id (k := n) (fun t ht => (hO t ht).2.2) k1 (by omega) t ht⟩, e3, ?_⟩
    · have := (hO t ht).2.1
      unfold mg
      split <;> omega
    · refine cnt_less (j := goes) (by simp [g1]) ?_ ?_ hgn
      · simp only [decide_eq_false_iff_not, mg_root k1 (show keep ≠ goes by omega)]
        rintro (⟨_, q⟩ | ⟨_, _, f⟩)
        · exact q rfl
        · exact f
      · intro i hi
        have : (mg on keep goes i = i) ↔ (on i = i) := by
          rw [mg_root k1 (show keep ≠ goes by omega)]
          constructor
          · rintro (⟨q, _⟩ | ⟨_, _, f⟩)
            · exact q
            · exact f.elim
          · intro q; exact Or.inl ⟨q, hi⟩
        simp [this]
  by_cases q : on b ≤ on a
  · obtain ⟨z', e1, e2, e3, e4⟩ := main (on b) (on a) (by omega) (by omega) b3 a3
    refine ⟨z', _, ?_, e2, e3, Or.inr rfl, e4⟩
    unfold fX9_merge jX9_merge_30 jX9_merge_61
    simp (disch := omega) only [inb_t, gd_t, rd_nI, a1, b1, nI_leI, if_pos, lit]
    exact e1
  · obtain ⟨z', e1, e2, e3, e4⟩ := main (on a) (on b) (by omega) (by omega) a3 b3
    refine ⟨z', _, ?_, e2, e3, Or.inl rfl, e4⟩
    unfold fX9_merge jX9_merge_30 jX9_merge_61
    simp (disch := omega) only [inb_t, gd_t, rd_nI, a1, b1, nI_leI, if_neg, lit]
    exact e1
/-- a stretch of the search: what was one stays so, nothing wrong comes -/
def Snd (T : List Tm) (n : Nat) (E : Nat → Nat → Prop) (on : Nat → Nat) : Prop := ∀ a b, a < n → b < n → on a = on b → One T n E a b
def MSt (T : List Tm) (n : Nat) (E : Nat → Nat → Prop) (on : Nat → Nat) (fl : Nat) (z : fS) (on' : Nat → Nat) (fl' : Nat) (z' : fS) : Prop :=
  MO n on' z' ∧ (∀ j, j ≠ 20 → z' j = z j) ∧ Snd T n E on' ∧ (∀ a b, on a = on b → on' a = on' b) ∧ ((fl' = 0 ∧ fl = 0 ∧ on' = on ∧ z' = z) ∨ (fl' = 1 ∧ (fl = 1 ∨ cnt (fun r => decide (on' r = r)) n < cnt (fun r => decide (on r = r)) n) ∧ cnt (fun r => decide (on' r = r)) n ≤ cnt (fun r => decide (on r = r)) n))
theorem MSt.rf {fl : Nat} (hO : MO n on z) (hs : Snd T n E on) (hf : fl = 0 ∨ fl = 1) : MSt T n E on fl z on fl z := by
  refine ⟨hO, fun _ _ => rfl, hs, fun _ _ e => e, ?_⟩
  rcases hf with rfl | rfl
  · exact Or.inl ⟨rfl, rfl, rfl, rfl⟩
  · exact Or.inr ⟨rfl, Or.inl rfl, Nat.le_refl _⟩
theorem MSt.tr {on1 on2 : Nat → Nat} {f0 f1 f2 : Nat} {z1 z2 : fS} (h : MSt T n E on f0 z on1 f1 z1) (g : MSt T n E on1 f1 z1 on2 f2 z2) : MSt T n E on f0 z on2 f2 z2 := by
  obtain ⟨h1, h2, h3, h4, h5⟩ := h
  obtain ⟨g1, g2, g3, g4, g5⟩ := g
  refine ⟨g1, fun j hj => (g2 j hj).trans (h2 j hj), g3, fun a b e => g4 a b (h4 a b e), ?_⟩
  rcases h5 with ⟨rfl, rfl, rfl, rfl⟩ | ⟨rfl, h5, h6⟩
  · exact g5
  · rcases g5 with ⟨_, g5, _⟩ | ⟨rfl, _, g6⟩
    · omega
    · refine Or.inr ⟨rfl, ?_, by omega⟩
      rcases h5 with h5 | h5
      · exact Or.inl h5
      · exact Or.inr (by omega)
theorem merge_stp (hn : n ≤ 120) (h4 : z 0 4 = nI n) (hO : MO n on z) (hs : Snd T n E on) {a b fl : Nat} (ha : a < n) (hb : b < n) (hab : on a ≠ on b) (ho : One T n E a b) : ∃ z' on', fX9_merge z (nI a) (nI b) = some z' ∧ MSt T n E on fl z on' 1 z' ∧ on' a = on' b := by
  obtain ⟨z', on', e1, e2, e3, e4, e5⟩ := merge_ok hn h4 hO ha hb hab
  obtain ⟨a1, a2, a3⟩ := hO a ha
  obtain ⟨b1, b2, b3⟩ := hO b hb
  have oa : One T n E a (on a) := hs a (on a) ha (by omega) a3.symm
  have ob : One T n E b (on b) := hs b (on b) hb (by omega) b3.symm
  have oab : One T n E (on a) (on b) := (oa.sm.tr ho).tr ob
  have snd : ∀ keep goes : Nat, One T n E keep goes → Snd T n E (mg on keep goes) := by
    intro keep goes hkg
    have o1 : ∀ t, t < n → One T n E t (mg on keep goes t) := by
      intro t ht
      have rt := hO t ht
      have ot : One T n E t (on t) := hs t (on t) ht (by omega) rt.2.2.symm
      unfold mg
      by_cases q : on t = goes
      · rw [if_pos q]
        rw [q] at ot
        exact ot.tr hkg.sm
      · rw [if_neg q]; exact ot
    intro x y hx hy e
    have := (o1 y hy).sm
    rw [← e] at this
    exact (o1 x hx).tr this
  refine ⟨z', on', e1, ⟨e2, e3, ?_, ?_, Or.inr ⟨rfl, Or.inr (by omega), by omega⟩⟩, ?_⟩
  · rcases e4 with rfl | rfl
    · exact snd _ _ oab
    · exact snd _ _ oab.sm
  · intro x y e
    rcases e4 with rfl | rfl <;> exact mg_eq e
  · rcases e4 with rfl | rfl
    · unfold mg; rw [if_neg hab, if_pos rfl]
    · unfold mg; rw [if_pos rfl, if_neg (fun e => hab e.symm)]
end MER
end
section
/-! one look over all pairs of terms -/
section LOOK
variable {T : List Tm} {E : Nat → Nat → Prop} {on : Nat → Nat} {z : fS}
theorem isPart_ok (hW : WT T) (hT : MT T z) (hO : MO T.length on z) {a b i j : Nat} (ha : a < T.length) (hb : b < T.length) (hi : i < sz T a) (hj : j < sz T b) : fX9_isPart z (nI a) (nI i) (nI b) (nI j) = some (if on (pt T a i) = on (pt T b j) then nI 1 else nI 0) := by
  have hT1 := hW.1
  have sa := (hW.2 a ha).1
  have sb := (hW.2 b hb).1
  have pa := (hW.2 a ha).2.1 i hi
  have pb := (hW.2 b hb).2.1 j hj
  have ea := (hT.2 a ha).2.2.2 i hi
  have eb := (hT.2 b hb).2.2.2 j hj
  have oa := hO (pt T a i) (by omega)
  have ob := hO (pt T b j) (by omega)
  unfold fX9_isPart
  simp (disch := omega) only [lit, nI_mul, nI_add, inb_t, gd_t, rd_nI, ea, eb, oa.1, ob.1, nI_eq]
  split <;> rfl
theorem byParts_loop (hW : WT T) (hT : MT T z) (hO : MO T.length on z) {a b : Nat} (ha : a < T.length) (hb : b < T.length) (hs : sz T a = sz T b) {k93 : Int32 → Option Int32} : ∀ (d i N : Nat), i + d = sz T a → d < N → ∃ r, lX9_isByParts_61 k93 z (nI a) (nI b) N (nI 1) (nI i) = k93 (nI r) ∧ ((r = 1 ∧ ∀ j, i ≤ j → j < sz T a → on (pt T a j) = on (pt T b j)) ∨ (r = 0 ∧ ¬ ∀ j, i ≤ j → j < sz T a → on (pt T a j) = on (pt T b j))) := by
  have hT1 := hW.1
  have sa := (hW.2 a ha).1
  have e3 := (hT.2 a ha).2.2.1
  intro d
  induction d with
  | zero =>
    intro i N hi hN
    obtain ⟨N, rfl⟩ : ∃ M, N = M + 1 := ⟨N - 1, by omega⟩
    refine ⟨1, ?_, Or.inl ⟨rfl, fun j h1 h2 => by omega⟩⟩
    rw [lX9_isByParts_61.eq_2]
    simp (disch := omega) only [inb_t, gd_t, rd_nI, e3, nI_leI, if_pos]
  | succ d ih =>
    intro i N hi hN
    obtain ⟨N, rfl⟩ : ∃ M, N = M + 1 := ⟨N - 1, by omega⟩
    have hp := isPart_ok hW hT hO (i := i) (j := i) ha hb (by omega) (by omega)
    rw [lX9_isByParts_61.eq_2]
    by_cases q : on (pt T a i) = on (pt T b i)
    · rw [if_pos q] at hp
      obtain ⟨r, e1, e2⟩ := ih (i + 1) N (by omega) (by omega)
      refine ⟨r, ?_, ?_⟩
      · simp (disch := omega) only [inb_t, gd_t, rd_nI, e3, nI_leI, if_neg, lit, nI_eq, hp, bp_s, bnd_s, nI_add]
        exact e1
      · rcases e2 with ⟨e2, e4⟩ | ⟨e2, e4⟩
        · refine Or.inl ⟨e2, fun j h1 h2 => ?_⟩
          rcases Nat.eq_or_lt_of_le h1 with rfl | h1
          · exact q
          · exact e4 j h1 h2
        · exact Or.inr ⟨e2, fun h => e4 fun j h1 h2 => h j (by omega) h2⟩
    · rw [if_neg q] at hp
      refine ⟨0, ?_, Or.inr ⟨rfl, fun h => q (h i (Nat.le_refl _) (by omega))⟩⟩
      obtain ⟨M, rfl⟩ : ∃ M, N = M + 1 := ⟨N - 1, by omega⟩
      simp (disch := omega) only [inb_t, gd_t, rd_nI, e3, nI_leI, if_neg, lit, nI_eq, hp, bp_s, bnd_s, nI_add]
      rw [lX9_isByParts_61.eq_2]
      simp (disch := omega) only [inb_t, gd_t, rd_nI, e3, lit, if_true, ite_self]
theorem byParts_ok (hW : WT T) (hT : MT T z) (hO : MO T.length on z) {a b : Nat} (ha : a < T.length) (hb : b < T.length) : ∃ r, fX9_isByParts z (nI a) (nI b) = some (nI r) ∧ ((r = 1 ∧ ByP T (Rq on) a b) ∨ (r = 0 ∧ ¬ ByP T (Rq on) a b)) := by
  have hT1 := hW.1
  have sa := (hW.2 a ha).1
  have sb := (hW.2 b hb).1
  obtain ⟨a1, a2, a3, a4⟩ := hT.2 a ha
  obtain ⟨b1, b2, b3, b4⟩ := hT.2 b hb
  unfold fX9_isByParts
  simp (disch := omega) only [inb_t, gd_t, rd_nI, a1, a2, a3, b1, b2, b3, lit, nI_eq]
  by_cases q0 : sz T a = 0
  · rw [if_pos q0]
    exact ⟨0, rfl, Or.inr ⟨rfl, fun h => by have := h.1; omega⟩⟩
  · rw [if_neg q0]
    by_cases q1 : kd T a = kd T b
    · rw [if_pos q1]
      by_cases q2 : sh T a = sh T b
      · rw [if_pos q2]
        by_cases q3 : sz T a = sz T b
        · rw [if_pos q3]
          obtain ⟨r, e1, e2⟩ := byParts_loop hW hT hO ha hb q3 (k93 := jX9_isByParts_93 z (nI a) (nI b)) (sz T a) 0 FU (by omega) (by have := FU_ge; omega)
          rw [e1]
          rcases e2 with ⟨rfl, e2⟩ | ⟨rfl, e2⟩
          · refine ⟨1, ?_, Or.inl ⟨rfl, by omega, q1, q2, q3, Or.inl fun i hi => e2 i (Nat.zero_le _) hi⟩⟩
            unfold jX9_isByParts_93
            simp (disch := omega) only [lit, nI_eq, if_neg]
          · unfold jX9_isByParts_93
            simp (disch := omega) only [lit, if_true, inb_t, gd_t, rd_nI, a1]
            by_cases q4 : kd T a = nI 4
            · rw [if_pos q4]
              have s2 : sz T a = 2 := (hW.2 a ha).2.2.2.1 q4
              rw [isPart_ok hW hT hO (i := 0) (j := 1) ha hb (by omega) (by omega), bp_s]
              by_cases q5 : on (pt T a 0) = on (pt T b 1)
              · simp (disch := omega) only [q5, if_true, nI_eq, if_neg]
                rw [isPart_ok hW hT hO (i := 1) (j := 0) ha hb (by omega) (by omega), bp_s]
                by_cases q6 : on (pt T a 1) = on (pt T b 0)
                · simp (disch := omega) only [q6, if_true, nI_eq, if_neg]
                  exact ⟨1, rfl, Or.inl ⟨rfl, by omega, q1, q2, q3, Or.inr ⟨q4, q5, q6⟩⟩⟩
                · simp (disch := omega) only [q6, if_false, if_true]
                  refine ⟨0, rfl, Or.inr ⟨rfl, fun h => ?_⟩⟩
                  rcases h.2.2.2.2 with h | ⟨_, _, h⟩
                  · exact e2 fun j _ hj => h j hj
                  · exact q6 h
              · simp (disch := omega) only [q5, if_false, if_true]
                refine ⟨0, rfl, Or.inr ⟨rfl, fun h => ?_⟩⟩
                rcases h.2.2.2.2 with h | ⟨_, h, _⟩
                · exact e2 fun j _ hj => h j hj
                · exact q5 h
            · rw [if_neg q4]
              refine ⟨0, rfl, Or.inr ⟨rfl, fun h => ?_⟩⟩
              rcases h.2.2.2.2 with h | ⟨h, _, _⟩
              · exact e2 fun j _ hj => h j hj
              · exact q4 h
        · rw [if_neg q3]
          exact ⟨0, rfl, Or.inr ⟨rfl, fun h => q3 h.2.2.2.1⟩⟩
      · rw [if_neg q2]
        exact ⟨0, rfl, Or.inr ⟨rfl, fun h => q2 h.2.2.1⟩⟩
    · rw [if_neg q1]
      exact ⟨0, rfl, Or.inr ⟨rfl, fun h => q1 h.2.1⟩⟩
/-- of a and b all has been drawn -/
def Chk (T : List Tm) (on : Nat → Nat) (a b : Nat) : Prop := (ByP T (Rq on) a b → on a = on b) ∧ (kd T a = nI 3 → kd T b = nI 3 → on a = on b → on (pt T a 0) = on (pt T b 0) ∧ on (pt T a 1) = on (pt T b 1))
theorem looks_rows (hW : WT T) {a b : Nat} (ha : a < T.length) (hb : b < T.length) (ka : kd T a = nI 3) (kb : kd T b = nI 3) {k142 : Int32 → fS → Option (Int32 × fS)} : ∀ (d i N fl : Nat) (on : Nat → Nat) (z : fS), i + d = 2 → d < N → MT T z → MO T.length on z → Snd T T.length E on → on a = on b → (fl = 0 ∨ fl = 1) → ∃ fl' on' z', lX9_looks_89 k142 (nI a) (nI b) N (nI fl) (nI i) z = k142 (nI fl') z' ∧ MSt T T.length E on fl z on' fl' z' ∧ (∀ j, i ≤ j → j < 2 → on' (pt T a j) = on' (pt T b j)) := by
  have hT1 := hW.1
  have sa : sz T a = 2 := (hW.2 a ha).2.2.1 ka
  have sb : sz T b = 2 := (hW.2 b hb).2.2.1 kb
  intro d
  induction d with
  | zero =>
    intro i N fl on z hi hN hT hO hs hab hf
    obtain ⟨N, rfl⟩ : ∃ M, N = M + 1 := ⟨N - 1, by omega⟩
    refine ⟨fl, on, z, ?_, MSt.rf hO hs hf, fun j h1 h2 => by omega⟩
    rw [lX9_looks_89.eq_2]
    simp (disch := omega) only [lit, nI_leI, if_pos]
  | succ d ih =>
    intro i N fl on z hi hN hT hO hs hab hf
    obtain ⟨N, rfl⟩ : ∃ M, N = M + 1 := ⟨N - 1, by omega⟩
    have hp := isPart_ok hW hT hO (i := i) (j := i) ha hb (by omega) (by omega)
    have pa := (hW.2 a ha).2.1 i (by omega)
    have pb := (hW.2 b hb).2.1 i (by omega)
    have ea := (hT.2 a ha).2.2.2 i (by omega)
    have eb := (hT.2 b hb).2.2.2 i (by omega)
    rw [lX9_looks_89.eq_2]
    by_cases q : on (pt T a i) = on (pt T b i)
    · rw [if_pos q] at hp
      obtain ⟨fl', on', z', e1, e2, e3⟩ := ih (i + 1) N fl on z (by omega) (by omega) hT hO hs hab hf
      refine ⟨fl', on', z', ?_, e2, fun j h1 h2 => ?_⟩
      · simp (disch := omega) only [lit, nI_leI, if_neg, hp, bp_s, nI_eq, bnd_s, nI_add]
        exact e1
      · rcases Nat.eq_or_lt_of_le h1 with rfl | h1
        · exact e2.2.2.2.1 _ _ q
        · exact e3 j h1 h2
    · rw [if_neg q] at hp
      have orow := One.row ha hb ka kb (hs a b ha hb hab)
      have opi : One T T.length E (pt T a i) (pt T b i) := by
        rcases (show i = 0 ∨ i = 1 by omega) with rfl | rfl
        · exact orow.1
        · exact orow.2
      obtain ⟨z1, on1, f1, f2, f3⟩ := merge_stp (fl := fl) hT1 hT.1 hO hs (show pt T a i < T.length by omega) (show pt T b i < T.length by omega) q opi
      have hT' : MT T z1 := hT.fr (by rw [f2.2.1 0 (by omega)]) fun j h1 h2 => f2.2.1 j (by omega)
      obtain ⟨fl', on', z', e1, e2, e3⟩ := ih (i + 1) N 1 on1 z1 (by omega) (by omega) hT' f2.1 f2.2.2.1 (f2.2.2.2.1 _ _ hab) (Or.inr rfl)
      refine ⟨fl', on', z', ?_, f2.tr e2, fun j h1 h2 => ?_⟩
      · simp (disch := omega) only [lit, nI_leI, if_neg, hp, bp_s, if_true, nI_mul, nI_add, inb_t, gd_t, rd_nI, ea, eb, f1, bnd_s]
        exact e1
      · rcases Nat.eq_or_lt_of_le h1 with rfl | h1
        · exact e2.2.2.2.1 _ _ f3
        · exact e3 j h1 h2
theorem looks_in (hW : WT T) {a : Nat} (ha : a < T.length) {k148 : Int32 → fS → Option (Int32 × fS)} : ∀ (d b N fl : Nat) (on : Nat → Nat) (z : fS), b + d = a → d < N → MT T z → MO T.length on z → Snd T T.length E on → (fl = 0 ∨ fl = 1) → ∃ fl' on' z', lX9_looks_14 k148 (nI a) N (nI fl) (nI b) z = k148 (nI fl') z' ∧ MSt T T.length E on fl z on' fl' z' ∧ (fl' = 0 → ∀ c, b ≤ c → c < a → Chk T on a c) := by
  have hT1 := hW.1
  intro d
  induction d with
  | zero =>
    intro b N fl on z hb hN hT hO hs hf
    obtain ⟨N, rfl⟩ : ∃ M, N = M + 1 := ⟨N - 1, by omega⟩
    refine ⟨fl, on, z, ?_, MSt.rf hO hs hf, fun _ c h1 h2 => by omega⟩
    rw [lX9_looks_14.eq_2]
    simp (disch := omega) only [nI_leI, if_pos]
  | succ d ih =>
    intro b N fl on z hb hN hT hO hs hf
    obtain ⟨N, rfl⟩ : ∃ M, N = M + 1 := ⟨N - 1, by omega⟩
    have hbl : b < T.length := by omega
    -- the second half: rows
    have half : ∀ (fl : Nat) (on : Nat → Nat) (z : fS), MT T z → MO T.length on z → Snd T T.length E on → (fl = 0 ∨ fl = 1) → ∃ fl' on' z', jX9_looks_51 (lX9_looks_14 k148 (nI a) N) k148 (nI fl) (nI a) (nI b) z = lX9_looks_14 k148 (nI a) N (nI fl') (nI (b + 1)) z' ∧ MSt T T.length E on fl z on' fl' z' ∧ (kd T a = nI 3 → kd T b = nI 3 → on a = on b → on' (pt T a 0) = on' (pt T b 0) ∧ on' (pt T a 1) = on' (pt T b 1)) := by
      intro fl on z hT hO hs hf
      have oa := hO a ha
      have ob := hO b hbl
      obtain ⟨a1, _⟩ := hT.2 a ha
      obtain ⟨b1, _⟩ := hT.2 b hbl
      unfold jX9_looks_51
      simp (disch := omega) only [inb_t, gd_t, rd_nI, oa.1, ob.1, nI_eq, a1, b1, lit]
      by_cases q1 : on a = on b
      · rw [if_pos q1]
        by_cases q2 : kd T a = nI 3
        · rw [if_pos q2]
          by_cases q3 : kd T b = nI 3
          · rw [if_pos q3]
            obtain ⟨fl', on', z', e1, e2, e3⟩ := looks_rows hW ha hbl q2 q3 (k142 := jX9_looks_142 (lX9_looks_14 k148 (nI a) N) k148 (nI a) (nI b)) 2 0 FU fl on z (by omega) (by have := FU_ge; omega) hT hO hs q1 hf
            refine ⟨fl', on', z', ?_, e2, fun _ _ _ => ⟨e3 0 (by omega) (by omega), e3 1 (by omega) (by omega)⟩⟩
            rw [e1]
            unfold jX9_looks_142
            simp only [bnd_s, lit, nI_add]
          · rw [if_neg q3]
            refine ⟨fl, on, z, ?_, MSt.rf hO hs hf, fun _ k _ => absurd k q3⟩
            unfold jX9_looks_142
            simp only [bnd_s, lit, nI_add]
        · rw [if_neg q2]
          refine ⟨fl, on, z, ?_, MSt.rf hO hs hf, fun k _ _ => absurd k q2⟩
          unfold jX9_looks_142
          simp only [bnd_s, lit, nI_add]
      · rw [if_neg q1]
        refine ⟨fl, on, z, ?_, MSt.rf hO hs hf, fun _ _ k => absurd k q1⟩
        unfold jX9_looks_142
        simp only [bnd_s, lit, nI_add]
    have oa := hO a ha
    have ob := hO b hbl
    -- behind the first half
    have fin : ∀ (fl1 : Nat) (on1 : Nat → Nat) (z1 : fS), MSt T T.length E on fl z on1 fl1 z1 → (fl1 = 0 → ByP T (Rq on) a b → on a = on b) → ∃ fl' on' z', jX9_looks_51 (lX9_looks_14 k148 (nI a) N) k148 (nI fl1) (nI a) (nI b) z1 = k148 (nI fl') z' ∧ MSt T T.length E on fl z on' fl' z' ∧ (fl' = 0 → ∀ c, b ≤ c → c < a → Chk T on a c) := by
      intro fl1 on1 z1 hst hby
      have hT' : MT T z1 := hT.fr (by rw [hst.2.1 0 (by omega)]) fun j h1 h2 => hst.2.1 j (by omega)
      have hf1 : fl1 = 0 ∨ fl1 = 1 := by
        rcases hst.2.2.2.2 with ⟨q, _⟩ | ⟨q, _⟩
        · exact Or.inl q
        · exact Or.inr q
      obtain ⟨fl2, on2, z2, g1, g2, g3⟩ := half fl1 on1 z1 hT' hst.1 hst.2.2.1 hf1
      have hT2 : MT T z2 := hT'.fr (by rw [g2.2.1 0 (by omega)]) fun j h1 h2 => g2.2.1 j (by omega)
      have hf2 : fl2 = 0 ∨ fl2 = 1 := by
        rcases g2.2.2.2.2 with ⟨q, _⟩ | ⟨q, _⟩
        · exact Or.inl q
        · exact Or.inr q
      obtain ⟨fl', on', z', i1, i2, i3⟩ := ih (b + 1) N fl2 on2 z2 (by omega) (by omega) hT2 g2.1 g2.2.2.1 hf2
      refine ⟨fl', on', z', by rw [g1]; exact i1, (hst.tr g2).tr i2, fun h0 c h1 h2 => ?_⟩
      have e2 : fl2 = 0 ∧ on' = on2 := by
        rcases i2.2.2.2.2 with ⟨_, q, q2, _⟩ | ⟨q, _⟩
        · exact ⟨q, q2⟩
        · omega
      have e1 : fl1 = 0 ∧ on2 = on1 := by
        rcases g2.2.2.2.2 with ⟨_, q, q2, _⟩ | ⟨q, _⟩
        · exact ⟨q, q2⟩
        · omega
      have e0 : on1 = on := by
        rcases hst.2.2.2.2 with ⟨_, _, q2, _⟩ | ⟨q, _⟩
        · exact q2
        · omega
      rcases Nat.eq_or_lt_of_le h1 with rfl | h1
      · refine ⟨hby e1.1, fun ka kb hab => ?_⟩
        have := g3 ka kb (by rw [e0]; exact hab)
        rw [e1.2, e0] at this
        exact this
      · have := i3 h0 c h1 h2
        rw [e1.2, e0] at this
        exact this
    rw [lX9_looks_14.eq_2]
    simp (disch := omega) only [nI_leI, if_neg, inb_t, gd_t, rd_nI, oa.1, ob.1, nI_eq]
    by_cases q : on a = on b
    · rw [if_pos q]
      exact fin fl on z (MSt.rf hO hs hf) (fun _ _ => q)
    · rw [if_neg q]
      obtain ⟨r, e1, e2⟩ := byParts_ok hW hT hO ha hbl
      rw [e1, bp_s]
      rcases e2 with ⟨rfl, e2⟩ | ⟨rfl, e2⟩
      · have hby : One T T.length E a b := by
          refine One.cong ha hbl (ByP.mono (fun x y e => hs x y e.1 e.2.1 e.2.2) (show ByP T (fun x y => x < T.length ∧ y < T.length ∧ on x = on y) a b from ?_))
          obtain ⟨g0, g1, g2, g3, g4⟩ := e2
          have wt := (hW.2 a ha).2.1
          have wu := (hW.2 b hbl).2.1
          refine ⟨g0, g1, g2, g3, ?_⟩
          rcases g4 with g4 | ⟨g4, g5, g6⟩
          · refine Or.inl fun i hi => ⟨by have := wt i hi; omega, by have := wu i (by omega); omega, g4 i hi⟩
          · have s2' : sz T a = 2 := (hW.2 a ha).2.2.2.1 g4
            have := wt 0 (by omega); have := wt 1 (by omega); have := wu 0 (by omega); have := wu 1 (by omega)
            exact Or.inr ⟨g4, ⟨by omega, by omega, g5⟩, ⟨by omega, by omega, g6⟩⟩
        obtain ⟨z1, on1, f1, f2, f3⟩ := merge_stp (fl := fl) hT1 hT.1 hO hs ha hbl q hby
        simp (disch := omega) only [lit, nI_eq, if_neg, f1, bp_s]
        exact fin 1 on1 z1 f2 (fun h => by omega)
      · simp (disch := omega) only [lit, if_true]
        exact fin fl on z (MSt.rf hO hs hf) (fun _ h => absurd h e2)
theorem looks_out (hW : WT T) : ∀ (d a N fl : Nat) (on : Nat → Nat) (z : fS), a + d = T.length → d < N → MT T z → MO T.length on z → Snd T T.length E on → (fl = 0 ∨ fl = 1) → ∃ fl' on' z', lX9_looks_4 N (nI fl) (nI a) z = some (nI fl', z') ∧ MSt T T.length E on fl z on' fl' z' ∧ (fl' = 0 → ∀ c e, a ≤ c → c < T.length → e < c → Chk T on c e) := by
  have hT1 := hW.1
  intro d
  induction d with
  | zero =>
    intro a N fl on z ha hN hT hO hs hf
    obtain ⟨N, rfl⟩ : ∃ M, N = M + 1 := ⟨N - 1, by omega⟩
    refine ⟨fl, on, z, ?_, MSt.rf hO hs hf, fun _ c e h1 h2 => by omega⟩
    rw [lX9_looks_4.eq_2]
    have hb : isb (nI fl) = true := by rcases hf with rfl | rfl; exact isb_0; exact isb_1
    simp (disch := omega) only [hT.1, nI_leI, if_pos, hb, gd_t]
  | succ d ih =>
    intro a N fl on z ha hN hT hO hs hf
    obtain ⟨N, rfl⟩ : ∃ M, N = M + 1 := ⟨N - 1, by omega⟩
    obtain ⟨fl1, on1, z1, e1, e2, e3⟩ := looks_in hW (show a < T.length by omega) (k148 := jX9_looks_148 (lX9_looks_4 N) (nI a)) a 0 FU fl on z (by omega) (by have := FU_ge; omega) hT hO hs hf
    have hT' : MT T z1 := hT.fr (by rw [e2.2.1 0 (by omega)]) fun j h1 h2 => e2.2.1 j (by omega)
    have hf1 : fl1 = 0 ∨ fl1 = 1 := by
      rcases e2.2.2.2.2 with ⟨q, _⟩ | ⟨q, _⟩
      · exact Or.inl q
      · exact Or.inr q
    obtain ⟨fl', on', z', i1, i2, i3⟩ := ih (a + 1) N fl1 on1 z1 (by omega) (by omega) hT' e2.1 e2.2.2.1 hf1
    refine ⟨fl', on', z', ?_, e2.tr i2, fun h0 c e h1 h2 h3 => ?_⟩
    · rw [lX9_looks_4.eq_2]
      simp (disch := omega) only [hT.1, nI_leI, if_neg, lit]
      rw [e1]
      unfold jX9_looks_148
      simp only [bnd_s, lit, nI_add]
      exact i1
    · have q1 : fl1 = 0 := by
        rcases i2.2.2.2.2 with ⟨_, q, _⟩ | ⟨q, _⟩
        · exact q
        · omega
      have q0 : on1 = on := by
        rcases e2.2.2.2.2 with ⟨_, _, q2, _⟩ | ⟨q, _⟩
        · exact q2
        · omega
      rcases Nat.eq_or_lt_of_le h1 with rfl | h1
      · exact e3 q1 e (Nat.zero_le _) h3
      · have := i3 h0 c e h1 h2 h3
        rw [q0] at this
        exact this
end LOOK
end
section
/-! the reference finds what is one by what is in, and whether it clashes -/
/-- two unlike numbers one, or an unlike pair one -/
def Cl (T : List Tm) (n : Nat) (E U : Nat → Nat → Prop) : Prop := (∃ a b, U a b ∧ One T n E a b) ∨ (∃ u v, u < n ∧ v < n ∧ u ≠ v ∧ kd T u = nI 1 ∧ kd T v = nI 1 ∧ One T n E u v)
def MI (n : Nat) (E U : Nat → Nat → Prop) (z : fS) : Prop :=
  (∀ s, s ≤ 100 → z 21 s = nI 0 ∨ (z 21 s = nI 1 ∧ ∃ a b, z 5 s = nI a ∧ z 6 s = nI b ∧ a < n ∧ b < n ∧ ((z 7 s = nI 1 ∧ E a b) ∨ (z 7 s = nI 0 ∧ U a b)))) ∧
  (∀ a b, E a b → ∃ s, s ≤ 100 ∧ z 21 s = nI 1 ∧ z 5 s = nI a ∧ z 6 s = nI b ∧ z 7 s = nI 1 ∧ a < n ∧ b < n) ∧
  (∀ a b, U a b → ∃ s, s ≤ 100 ∧ z 21 s = nI 1 ∧ z 5 s = nI a ∧ z 6 s = nI b ∧ z 7 s = nI 0 ∧ a < n ∧ b < n)
theorem MI.fr {n : Nat} {E U : Nat → Nat → Prop} {z z' : fS} (h : MI n E U z) (e5 : z' 5 = z 5) (e6 : z' 6 = z 6) (e7 : z' 7 = z 7) (e21 : z' 21 = z 21) : MI n E U z' := by
  unfold MI
  rw [e5, e6, e7, e21]
  exact h
/-- what the reference holds once it has found what is one -/
def MF (T : List Tm) (E : Nat → Nat → Prop) (z : fS) : Prop := ∃ on, MO T.length on z ∧ ∀ a b, a < T.length → b < T.length → (on a = on b ↔ One T T.length E a b)
section FO
variable {T : List Tm} {E U : Nat → Nat → Prop} {on : Nat → Nat} {z : fS}
theorem fo_init {k23 : fS → Option fS} {n : Nat} (hn : n ≤ 120) : ∀ (d i N : Nat) (z : fS), i + d = n → d < N → z 0 4 = nI n → (∀ t, t < i → z 20 t = nI t) → ∃ z', lX9_findOnes_2 k23 N (nI i) z = k23 z' ∧ (∀ t, t < n → z' 20 t = nI t) ∧ (∀ j, j ≠ 20 → z' j = z j) := by
  intro d
  induction d with
  | zero =>
    intro i N z hi hN h4 hz
    obtain ⟨N, rfl⟩ : ∃ M, N = M + 1 := ⟨N - 1, by omega⟩
    refine ⟨z, ?_, fun t ht => hz t (by omega), fun _ _ => rfl⟩
    rw [lX9_findOnes_2.eq_2]
    simp (disch := omega) only [h4, nI_leI, if_pos]
  | succ d ih =>
    intro i N z hi hN h4 hz
    obtain ⟨N, rfl⟩ : ∃ M, N = M + 1 := ⟨N - 1, by omega⟩
    obtain ⟨z', e1, e2, e3⟩ := ih (i + 1) N (wrr z 20 (upd (z 20) i (nI i))) (by omega) (by omega) (by rw [wrr_n (by omega)]; exact h4) (fun t ht => by
      rw [wrr_e]
      by_cases e : t = i
      · subst e; rw [upd_e]
      · rw [upd_n e]; exact hz t (by omega))
    refine ⟨z', ?_, e2, fun j hj => (e3 j hj).trans (wrr_n hj)⟩
    rw [lX9_findOnes_2.eq_2]
    simp (disch := omega) only [h4, nI_leI, if_neg, inb_t, gd_t, wr_nI, bnd_s, lit, nI_add]
    exact e1
theorem fo_say (hW : WT T) {k96 : fS → Option fS} : ∀ (d i N : Nat) (on : Nat → Nat) (z : fS), i + d = 101 → d < N → MT T z → MI T.length E U z → MO T.length on z → Snd T T.length E on → (∀ s a b, s < i → z 21 s = nI 1 → z 7 s = nI 1 → z 5 s = nI a → z 6 s = nI b → a < T.length → b < T.length → on a = on b) → ∃ z' on', lX9_findOnes_25 k96 N (nI i) z = k96 z' ∧ MO T.length on' z' ∧ Snd T T.length E on' ∧ (∀ s a b, s ≤ 100 → z 21 s = nI 1 → z 7 s = nI 1 → z 5 s = nI a → z 6 s = nI b → a < T.length → b < T.length → on' a = on' b) ∧ (∀ j, j ≠ 20 → z' j = z j) := by
  have hT1 := hW.1
  intro d
  induction d with
  | zero =>
    intro i N on z hi hN hT hI hO hs hd
    obtain ⟨N, rfl⟩ : ∃ M, N = M + 1 := ⟨N - 1, by omega⟩
    refine ⟨z, on, ?_, hO, hs, fun s a b h1 => hd s a b (by omega), fun _ _ => rfl⟩
    rw [lX9_findOnes_25.eq_2]
    simp (disch := omega) only [lit, nI_ltI, if_pos]
  | succ d ih =>
    intro i N on z hi hN hT hI hO hs hd
    obtain ⟨N, rfl⟩ : ∃ M, N = M + 1 := ⟨N - 1, by omega⟩
    rw [lX9_findOnes_25.eq_2]
    rcases hI.1 i (by omega) with q | ⟨q, a, b, q5, q6, ha, hb, q7⟩
    · obtain ⟨z', on', e1, e2⟩ := ih (i + 1) N on z (by omega) (by omega) hT hI hO hs (fun s a b h1 h2 => by
        rcases Nat.eq_or_lt_of_le (Nat.le_of_lt_succ h1) with rfl | h1
        · rw [q, nI_eq (by omega) (by omega)] at h2; omega
        · exact hd s a b h1 h2)
      refine ⟨z', on', ?_, e2⟩
      simp (disch := omega) only [lit, nI_ltI, if_neg, inb_t, gd_t, rd_nI, q, if_true, bnd_s, nI_add]
      exact e1
    · rcases q7 with ⟨q7, hE⟩ | ⟨q7, hU⟩
      · have oa := hO a ha
        have ob := hO b hb
        by_cases hab : on a = on b
        · obtain ⟨z', on', e1, e2⟩ := ih (i + 1) N on z (by omega) (by omega) hT hI hO hs (fun s a' b' h1 h2 h3 h4 h5 h6 h7 => by
            rcases Nat.eq_or_lt_of_le (Nat.le_of_lt_succ h1) with rfl | h1
            · rw [q5, nI_eq (by omega) (by omega)] at h4
              rw [q6, nI_eq (by omega) (by omega)] at h5
              rw [← h4, ← h5]; exact hab
            · exact hd s a' b' h1 h2 h3 h4 h5 h6 h7)
          refine ⟨z', on', ?_, e2⟩
          simp (disch := omega) only [lit, nI_ltI, if_neg, inb_t, gd_t, rd_nI, q, q7, q5, q6, oa.1, ob.1, hab, nI_eq, if_true, bnd_s, nI_add]
          exact e1
        · obtain ⟨z1, on1, f1, f2, f3⟩ := merge_stp (fl := 0) hT1 hT.1 hO hs ha hb hab (One.of hE)
          have hT' : MT T z1 := hT.fr (by rw [f2.2.1 0 (by omega)]) fun j h1 h2 => f2.2.1 j (by omega)
          have hI' : MI T.length E U z1 := hI.fr (f2.2.1 5 (by omega)) (f2.2.1 6 (by omega)) (f2.2.1 7 (by omega)) (f2.2.1 21 (by omega))
          obtain ⟨z', on', e1, e2, e3, e4, e5⟩ := ih (i + 1) N on1 z1 (by omega) (by omega) hT' hI' f2.1 f2.2.2.1 (fun s a' b' h1 h2 h3 h4 h5 h6 h7 => by
            rw [f2.2.1 21 (by omega)] at h2
            rw [f2.2.1 7 (by omega)] at h3
            rw [f2.2.1 5 (by omega)] at h4
            rw [f2.2.1 6 (by omega)] at h5
            rcases Nat.eq_or_lt_of_le (Nat.le_of_lt_succ h1) with rfl | h1
            · rw [q5, nI_eq (by omega) (by omega)] at h4
              rw [q6, nI_eq (by omega) (by omega)] at h5
              rw [← h4, ← h5]; exact f3
            · exact f2.2.2.2.1 _ _ (hd s a' b' h1 h2 h3 h4 h5 h6 h7))
          refine ⟨z', on', ?_, e2, e3, ?_, fun j hj => (e5 j hj).trans (f2.2.1 j hj)⟩
          · simp (disch := omega) only [lit, nI_ltI, if_neg, inb_t, gd_t, rd_nI, q, q7, q5, q6, oa.1, ob.1, hab, nI_eq, bnd_s, nI_add, f1, bp_s]
            exact e1
          · intro s a' b' h1 h2 h3 h4 h5
            exact e4 s a' b' h1 (by rw [f2.2.1 21 (by omega)]; exact h2) (by rw [f2.2.1 7 (by omega)]; exact h3) (by rw [f2.2.1 5 (by omega)]; exact h4) (by rw [f2.2.1 6 (by omega)]; exact h5)
      · obtain ⟨z', on', e1, e2⟩ := ih (i + 1) N on z (by omega) (by omega) hT hI hO hs (fun s a b h1 h2 h3 => by
          rcases Nat.eq_or_lt_of_le (Nat.le_of_lt_succ h1) with rfl | h1
          · rw [q7, nI_eq (by omega) (by omega)] at h3; omega
          · exact hd s a b h1 h2 h3)
        refine ⟨z', on', ?_, e2⟩
        simp (disch := omega) only [lit, nI_ltI, if_neg, inb_t, gd_t, rd_nI, q, q7, if_true, nI_eq, bnd_s, nI_add]
        exact e1
/-- all pairs checked: closed -/
theorem chk_closed (hW : WT T) (hO : MO T.length on z) (hs : Snd T T.length E on) (hE : ∀ a b, E a b → a < T.length ∧ b < T.length ∧ on a = on b) (hc : ∀ c e, c < T.length → e < c → Chk T on c e) : ∀ a b, a < T.length → b < T.length → (on a = on b ↔ One T T.length E a b) := by
  intro a b ha hb
  refine ⟨hs a b ha hb, fun h => ?_⟩
  have key := h (fun x y => (x < T.length ∧ y < T.length ∧ on x = on y) ∨ x = y) ⟨fun _ => Or.inr rfl, ?_, ?_, fun x y e => Or.inl (hE x y e), ?_, ?_⟩
  · rcases key with k | k
    · exact k.2.2
    · rw [k]
  · rintro x y (⟨h1, h2, h3⟩ | rfl)
    · exact Or.inl ⟨h2, h1, h3.symm⟩
    · exact Or.inr rfl
  · rintro x y w (⟨h1, h2, h3⟩ | rfl) (⟨g1, g2, g3⟩ | rfl)
    · exact Or.inl ⟨h1, g2, h3.trans g3⟩
    · exact Or.inl ⟨h1, h2, h3⟩
    · exact Or.inl ⟨g1, g2, g3⟩
    · exact Or.inr rfl
  · intro x y hx hy hby
    have hby' : ByP T (Rq on) x y := hby.mono fun p q h => by
      rcases h with h | h
      · exact h.2.2
      · rw [h]
    refine Or.inl ⟨hx, hy, ?_⟩
    rcases Nat.lt_trichotomy x y with l | l | l
    · exact ((hc y x hy l).1 (hby'.sm fun _ _ e => e.symm)).symm
    · rw [l]
    · exact (hc x y hx l).1 hby'
  · intro x y hx hy kx ky hxy
    have wx := (hW.2 x hx)
    have wy := (hW.2 y hy)
    have sx := wx.2.2.1 kx
    have sy := wy.2.2.1 ky
    have p1 := wx.2.1 0 (by omega)
    have p2 := wx.2.1 1 (by omega)
    have p3 := wy.2.1 0 (by omega)
    have p4 := wy.2.1 1 (by omega)
    rcases Nat.lt_trichotomy x y with l | l | l
    · have e : on x = on y := by
        rcases hxy with h | h
        · exact h.2.2
        · rw [h]
      have := (hc y x hy l).2 ky kx e.symm
      exact ⟨Or.inl ⟨by omega, by omega, this.1.symm⟩, Or.inl ⟨by omega, by omega, this.2.symm⟩⟩
    · subst l; exact ⟨Or.inr rfl, Or.inr rfl⟩
    · have e : on x = on y := by
        rcases hxy with h | h
        · exact h.2.2
        · rw [h]
      have := (hc x y hx l).2 kx ky e
      exact ⟨Or.inl ⟨by omega, by omega, this.1⟩, Or.inl ⟨by omega, by omega, this.2⟩⟩
theorem fo_rounds (hW : WT T) : ∀ (d i N fl : Nat) (on : Nat → Nat) (z : fS), cnt (fun r => decide (on r = r)) T.length < d → i + d ≤ 400 → d < N → MT T z → MO T.length on z → Snd T T.length E on → (fl = 1 ∨ (fl = 0 ∧ ∀ c e, c < T.length → e < c → Chk T on c e)) → (∀ a b, E a b → a < T.length ∧ b < T.length ∧ on a = on b) → ∃ z' on', lX9_findOnes_100 N (nI fl) (nI i) z = some z' ∧ MO T.length on' z' ∧ (∀ a b, a < T.length → b < T.length → (on' a = on' b ↔ One T T.length E a b)) ∧ (∀ j, j ≠ 20 → j ≠ 0 → z' j = z j) ∧ z' 0 = upd (z 0) 30 (nI 0) := by
  have hT1 := hW.1
  have fin : ∀ (on : Nat → Nat) (z : fS), MO T.length on z → Snd T T.length E on → (∀ c e, c < T.length → e < c → Chk T on c e) → (∀ a b, E a b → a < T.length ∧ b < T.length ∧ on a = on b) → ∃ z' on', (some (wrr z 0 (upd (z 0) 30 (nI 0)))) = some z' ∧ MO T.length on' z' ∧ (∀ a b, a < T.length → b < T.length → (on' a = on' b ↔ One T T.length E a b)) ∧ (∀ j, j ≠ 20 → j ≠ 0 → z' j = z j) ∧ z' 0 = upd (z 0) 30 (nI 0) := by
    intro on z hO hs hc hE
    refine ⟨_, on, rfl, ?_, chk_closed hW hO hs hE hc, fun j _ h0 => wrr_n h0, wrr_e⟩
    intro t ht
    rw [wrr_n (by omega)]; exact hO t ht
  intro d
  induction d with
  | zero => intro i N fl on z h; omega
  | succ d ih =>
    intro i N fl on z hc hi hN hT hO hs hf hE
    obtain ⟨N, rfl⟩ : ∃ M, N = M + 1 := ⟨N - 1, by omega⟩
    rw [lX9_findOnes_100.eq_2]
    rcases hf with rfl | ⟨rfl, hf⟩
    · obtain ⟨fl', on', z', e1, e2, e3⟩ := looks_out (E := E) hW T.length 0 FU 0 on z (by omega) (by have := FU_ge; omega) hT hO hs (Or.inl rfl)
      have hT' : MT T z' := hT.fr (by rw [e2.2.1 0 (by omega)]) fun j h1 h2 => e2.2.1 j (by omega)
      have e0 : fX9_looks z = some (nI fl', z') := by
        unfold fX9_looks; simp only [lit]; exact e1
      rcases e2.2.2.2.2 with ⟨q1, _, q2, q3⟩ | ⟨q1, q2, _⟩
      · subst q1; subst q2; subst q3
        obtain ⟨M, rfl⟩ : ∃ M, N = M + 1 := ⟨N - 1, by omega⟩
        obtain ⟨z2, on2, g1, g2⟩ := fin on' z' hO hs (fun c e h1 h2 => e3 rfl c e (Nat.zero_le _) h1 h2) hE
        refine ⟨z2, on2, ?_, g2⟩
        simp (disch := omega) only [lit, nI_eq, if_neg, nI_leI, e0, bd_s, bnd_s, nI_add]
        rw [lX9_findOnes_100.eq_2]
        simp (disch := omega) only [lit, if_true, wf_w, bnd_s]
        exact g1
      · subst q1
        have hlt : cnt (fun r => decide (on' r = r)) T.length < cnt (fun r => decide (on r = r)) T.length := by
          rcases q2 with q2 | q2
          · omega
          · exact q2
        obtain ⟨z2, on2, g1, g2, g3, g4, g5⟩ := ih (i + 1) N 1 on' z' (by omega) (by omega) (by omega) hT' e2.1 e2.2.2.1 (Or.inl rfl) (fun a b e => by
          obtain ⟨h1, h2, h3⟩ := hE a b e
          exact ⟨h1, h2, e2.2.2.2.1 _ _ h3⟩)
        refine ⟨z2, on2, ?_, g2, g3, fun j h1 h2 => (g4 j h1 h2).trans (e2.2.1 j h1), ?_⟩
        · simp (disch := omega) only [lit, nI_eq, if_neg, nI_leI, e0, bd_s, bnd_s, nI_add]
          exact g1
        · rw [g5, e2.2.1 0 (by omega)]
    · obtain ⟨z2, on2, g1, g2⟩ := fin on z hO hs hf hE
      refine ⟨z2, on2, ?_, g2⟩
      simp (disch := omega) only [lit, if_true, wf_w, bnd_s]
      exact g1
/-- what is in makes just these one -/
theorem findOnes_ok (hW : WT T) (hT : MT T z) (hI : MI T.length E U z) : ∃ z', fX9_findOnes z = some z' ∧ MF T E z' ∧ (∀ j, j ≠ 20 → j ≠ 0 → z' j = z j) ∧ z' 0 = upd (z 0) 30 (nI 0) := by
  have hT1 := hW.1
  obtain ⟨z1, a1, a2, a3⟩ := fo_init (k23 := jX9_findOnes_23) hT1 T.length 0 FU z (by omega) (by have := FU_ge; omega) hT.1 (fun t h => by omega)
  have hTa : MT T z1 := hT.fr (by rw [a3 0 (by omega)]) fun j h1 h2 => a3 j (by omega)
  have hIa : MI T.length E U z1 := hI.fr (a3 5 (by omega)) (a3 6 (by omega)) (a3 7 (by omega)) (a3 21 (by omega))
  obtain ⟨z2, on2, b1, b2, b3, b4, b5⟩ := fo_say (E := E) (U := U) hW (k96 := jX9_findOnes_96) 101 0 FU (fun t => t) z1 (by omega) (by have := FU_ge; omega) hTa hIa (fun t ht => ⟨a2 t ht, Nat.le_refl _, rfl⟩) (fun a b _ _ e => by have e' : a = b := e; rw [e']; exact One.rf) (fun s a b h => by omega)
  have hTb : MT T z2 := hTa.fr (by rw [b5 0 (by omega)]) fun j h1 h2 => b5 j (by omega)
  have hcl := cnt_le (fun r => decide (on2 r = r)) T.length
  obtain ⟨z3, on3, c1, c2, c3, c4, c5⟩ := fo_rounds (E := E) hW 121 0 FU 1 on2 z2 (by omega) (by omega) (by have := FU_ge; omega) hTb b2 b3 (Or.inl rfl) (fun a b e => by
    obtain ⟨s, h1, h2, h3, h4, h5, h6, h7⟩ := hIa.2.1 a b e
    exact ⟨h6, h7, b4 s a b h1 h2 h5 h3 h4 h6 h7⟩)
  refine ⟨z3, ?_, ⟨on3, c2, c3⟩, fun j h1 h2 => by rw [c4 j h1 h2, b5 j h1, a3 j h1], by rw [c5, b5 0 (by omega), a3 0 (by omega)]⟩
  unfold fX9_findOnes
  simp only [lit]
  rw [a1]
  unfold jX9_findOnes_23
  simp only [lit]
  rw [b1]
  unfold jX9_findOnes_96
  simp only [lit]
  exact c1
end FO
end
section
section MC
variable {T : List Tm} {E U : Nat → Nat → Prop} {on : Nat → Nat} {z : fS}
theorem cl_say (hI : MI T.length E U z) (hn : T.length ≤ 120) (hO : MO T.length on z) {k73 : Int32 → Option (Int32 × fS)} : ∀ (d i N : Nat), i + d = 101 → d < N → ∃ r, lX9_clashes_8 k73 z N (nI 0) (nI i) = k73 (nI r) ∧ ((r = 1 ∧ ∃ a b, a < T.length ∧ b < T.length ∧ U a b ∧ on a = on b) ∨ (r = 0 ∧ ∀ s a b, i ≤ s → s ≤ 100 → z 21 s = nI 1 → z 7 s = nI 0 → z 5 s = nI a → z 6 s = nI b → a < T.length → b < T.length → on a ≠ on b)) := by
  intro d
  induction d with
  | zero =>
    intro i N hi hN
    obtain ⟨N, rfl⟩ : ∃ M, N = M + 1 := ⟨N - 1, by omega⟩
    refine ⟨0, ?_, Or.inr ⟨rfl, fun s a b h1 h2 => by omega⟩⟩
    rw [lX9_clashes_8.eq_2]
    simp (disch := omega) only [lit, nI_ltI, if_pos]
  | succ d ih =>
    intro i N hi hN
    obtain ⟨N, rfl⟩ : ∃ M, N = M + 1 := ⟨N - 1, by omega⟩
    rw [lX9_clashes_8.eq_2]
    obtain ⟨r, e1, e2⟩ := ih (i + 1) N (by omega) (by omega)
    have back : (¬ (z 21 i = nI 1 ∧ z 7 i = nI 0 ∧ ∃ a b, z 5 i = nI a ∧ z 6 i = nI b ∧ a < T.length ∧ b < T.length ∧ on a = on b)) → ((r = 1 ∧ ∃ a b, a < T.length ∧ b < T.length ∧ U a b ∧ on a = on b) ∨ (r = 0 ∧ ∀ s a b, i ≤ s → s ≤ 100 → z 21 s = nI 1 → z 7 s = nI 0 → z 5 s = nI a → z 6 s = nI b → a < T.length → b < T.length → on a ≠ on b)) := by
      intro hne
      rcases e2 with e2 | ⟨e2, e3⟩
      · exact Or.inl e2
      · refine Or.inr ⟨e2, fun s a b h1 h2 h3 h4 h5 h6 h7 h8 => ?_⟩
        rcases Nat.eq_or_lt_of_le h1 with rfl | h1
        · exact fun e => hne ⟨h3, h4, a, b, h5, h6, h7, h8, e⟩
        · exact e3 s a b h1 h2 h3 h4 h5 h6 h7 h8
    rcases hI.1 i (by omega) with q | ⟨q, a, b, q5, q6, ha, hb, q7⟩
    · refine ⟨r, ?_, back fun h => ?_⟩
      · simp (disch := omega) only [lit, nI_ltI, if_neg, if_true, inb_t, gd_t, rd_nI, q, bnd_s, nI_add]
        exact e1
      · have := h.1
        rw [q, nI_eq (by omega) (by omega)] at this; omega
    · rcases q7 with ⟨q7, hE⟩ | ⟨q7, hU⟩
      · refine ⟨r, ?_, back fun h => ?_⟩
        · simp (disch := omega) only [lit, nI_ltI, if_neg, if_true, inb_t, gd_t, rd_nI, q, q7, nI_eq, bnd_s, nI_add]
          exact e1
        · have := h.2.1
          rw [q7, nI_eq (by omega) (by omega)] at this; omega
      · have oa := hO a ha
        have ob := hO b hb
        by_cases hab : on a = on b
        · obtain ⟨M, rfl⟩ : ∃ M, N = M + 1 := ⟨N - 1, by omega⟩
          refine ⟨1, ?_, Or.inl ⟨rfl, a, b, ha, hb, hU, hab⟩⟩
          simp (disch := omega) only [lit, nI_ltI, if_neg, if_true, inb_t, gd_t, rd_nI, q, q7, q5, q6, oa.1, ob.1, hab, nI_eq, bnd_s, nI_add]
          rw [lX9_clashes_8.eq_2]
          simp (disch := omega) only [lit, nI_eq, if_neg, ite_self]
        · refine ⟨r, ?_, back fun h => ?_⟩
          · simp (disch := omega) only [lit, nI_ltI, if_neg, if_true, inb_t, gd_t, rd_nI, q, q7, q5, q6, oa.1, ob.1, hab, nI_eq, bnd_s, nI_add]
            exact e1
          · obtain ⟨_, _, a', b', h5, h6, h7, h8, h9⟩ := h
            rw [q5, nI_eq (by omega) (by omega)] at h5
            rw [q6, nI_eq (by omega) (by omega)] at h6
            rw [← h5, ← h6] at h9
            exact hab h9
theorem cl_in (hW : WT T) (hT : MT T z) (hO : MO T.length on z) {a : Nat} (ha : a < T.length) {k145 : Int32 → Option (Int32 × fS)} : ∀ (d b N : Nat), b + d = a → d < N → ∃ r, lX9_clashes_89 k145 z (nI a) N (nI 0) (nI b) = k145 (nI r) ∧ ((r = 1 ∧ ∃ c, c < a ∧ kd T a = nI 1 ∧ kd T c = nI 1 ∧ on a = on c) ∨ (r = 0 ∧ ∀ c, b ≤ c → c < a → kd T a = nI 1 → kd T c = nI 1 → on a ≠ on c)) := by
  have hT1 := hW.1
  intro d
  induction d with
  | zero =>
    intro i N hi hN
    obtain ⟨N, rfl⟩ : ∃ M, N = M + 1 := ⟨N - 1, by omega⟩
    refine ⟨0, ?_, Or.inr ⟨rfl, fun c h1 h2 => by omega⟩⟩
    rw [lX9_clashes_89.eq_2]
    simp (disch := omega) only [nI_leI, if_pos]
  | succ d ih =>
    intro i N hi hN
    obtain ⟨N, rfl⟩ : ∃ M, N = M + 1 := ⟨N - 1, by omega⟩
    rw [lX9_clashes_89.eq_2]
    obtain ⟨r, e1, e2⟩ := ih (i + 1) N (by omega) (by omega)
    have oa := hO a ha
    have ob := hO i (by omega)
    have a1 := (hT.2 a ha).1
    have b1 := (hT.2 i (by omega)).1
    have back : ¬ (kd T a = nI 1 ∧ kd T i = nI 1 ∧ on a = on i) → ((r = 1 ∧ ∃ c, c < a ∧ kd T a = nI 1 ∧ kd T c = nI 1 ∧ on a = on c) ∨ (r = 0 ∧ ∀ c, i ≤ c → c < a → kd T a = nI 1 → kd T c = nI 1 → on a ≠ on c)) := by
      intro hne
      rcases e2 with e2 | ⟨e2, e3⟩
      · exact Or.inl e2
      · refine Or.inr ⟨e2, fun c h1 h2 h3 h4 => ?_⟩
        rcases Nat.eq_or_lt_of_le h1 with rfl | h1
        · exact fun e => hne ⟨h3, h4, e⟩
        · exact e3 c h1 h2 h3 h4
    by_cases q1 : kd T a = nI 1
    · by_cases q2 : kd T i = nI 1
      · by_cases q3 : on a = on i
        · obtain ⟨M, rfl⟩ : ∃ M, N = M + 1 := ⟨N - 1, by omega⟩
          refine ⟨1, ?_, Or.inl ⟨rfl, i, by omega, q1, q2, q3⟩⟩
          simp (disch := omega) only [lit, nI_leI, if_neg, if_true, inb_t, gd_t, rd_nI, a1, b1, q1, q2, oa.1, ob.1, q3, bnd_s, nI_add]
          rw [lX9_clashes_89.eq_2]
          simp (disch := omega) only [lit, nI_eq, if_neg, ite_self]
        · refine ⟨r, ?_, back fun h => q3 h.2.2⟩
          simp (disch := omega) only [lit, nI_leI, if_neg, if_true, inb_t, gd_t, rd_nI, a1, b1, q1, q2, oa.1, ob.1, nI_eq, q3, bnd_s, nI_add]
          exact e1
      · refine ⟨r, ?_, back fun h => q2 h.2.1⟩
        simp (disch := omega) only [lit, nI_leI, if_neg, if_true, inb_t, gd_t, rd_nI, a1, b1, q1, q2, if_false, bnd_s, nI_add]
        exact e1
    · refine ⟨r, ?_, back fun h => q1 h.1⟩
      simp (disch := omega) only [lit, nI_leI, if_neg, if_true, inb_t, gd_t, rd_nI, a1, q1, if_false, bnd_s, nI_add]
      exact e1
theorem cl_out (hW : WT T) (hT : MT T z) (hO : MO T.length on z) : ∀ (d a N : Nat), a + d = T.length → d < N → ∃ r, lX9_clashes_75 z N (nI 0) (nI a) = some (nI r, z) ∧ ((r = 1 ∧ ∃ u v, u < T.length ∧ v < u ∧ kd T u = nI 1 ∧ kd T v = nI 1 ∧ on u = on v) ∨ (r = 0 ∧ ∀ u v, a ≤ u → u < T.length → v < u → kd T u = nI 1 → kd T v = nI 1 → on u ≠ on v)) := by
  have hT1 := hW.1
  intro d
  induction d with
  | zero =>
    intro i N hi hN
    obtain ⟨N, rfl⟩ : ∃ M, N = M + 1 := ⟨N - 1, by omega⟩
    refine ⟨0, ?_, Or.inr ⟨rfl, fun u v h1 h2 => by omega⟩⟩
    rw [lX9_clashes_75.eq_2]
    simp (disch := omega) only [hT.1, nI_leI, if_pos, isb_0, gd_t]
  | succ d ih =>
    intro i N hi hN
    obtain ⟨N, rfl⟩ : ∃ M, N = M + 1 := ⟨N - 1, by omega⟩
    rw [lX9_clashes_75.eq_2]
    obtain ⟨r, e1, e2⟩ := ih (i + 1) N (by omega) (by omega)
    obtain ⟨r0, f1, f2⟩ := cl_in hW hT hO (show i < T.length by omega) (k145 := jX9_clashes_145 (lX9_clashes_75 z N) z (nI i)) i 0 FU (by omega) (by have := FU_ge; omega)
    simp (disch := omega) only [hT.1, nI_leI, if_neg, lit, if_true, f1]
    unfold jX9_clashes_145
    simp only [lit, bnd_s, nI_add]
    rcases f2 with ⟨rfl, c, g1, g2, g3, g4⟩ | ⟨rfl, g⟩
    · obtain ⟨M, rfl⟩ : ∃ M, N = M + 1 := ⟨N - 1, by omega⟩
      refine ⟨1, ?_, Or.inl ⟨rfl, i, c, by omega, g1, g2, g3, g4⟩⟩
      rw [lX9_clashes_75.eq_2]
      simp (disch := omega) only [lit, nI_eq, if_neg, isb_1, gd_t, ite_self]
    · refine ⟨r, e1, ?_⟩
      rcases e2 with e2 | ⟨e2, e3⟩
      · exact Or.inl e2
      · refine Or.inr ⟨e2, fun u v h1 h2 h3 h4 h5 => ?_⟩
        rcases Nat.eq_or_lt_of_le h1 with rfl | h1
        · exact g v (Nat.zero_le _) h3 h4 h5
        · exact e3 u v h1 h2 h3 h4 h5
theorem clashes_ok (hW : WT T) (hT : MT T z) (hI : MI T.length E U z) : ∃ r z', fX9_clashes z = some (nI r, z') ∧ ((r = 1 ∧ Cl T T.length E U) ∨ (r = 0 ∧ ¬ Cl T T.length E U)) ∧ MF T E z' ∧ (∀ j, j ≠ 20 → j ≠ 0 → z' j = z j) ∧ z' 0 = upd (z 0) 30 (nI 0) := by
  have hT1 := hW.1
  obtain ⟨z1, a1, ⟨on, hO, hon⟩, a3, a4⟩ := findOnes_ok hW hT hI
  have hTa : MT T z1 := hT.fr (by rw [a4, upd_n (by omega)]) fun j h1 h2 => a3 j (by omega) (by omega)
  have hIa : MI T.length E U z1 := hI.fr (a3 5 (by omega) (by omega)) (a3 6 (by omega) (by omega)) (a3 7 (by omega) (by omega)) (a3 21 (by omega) (by omega))
  obtain ⟨r, b1, b2⟩ := cl_say hIa hT1 hO (k73 := jX9_clashes_73 z1) 101 0 FU (by omega) (by have := FU_ge; omega)
  have pre : fX9_clashes z = jX9_clashes_73 z1 (nI r) := by
    unfold fX9_clashes
    rw [a1, bp_s]
    simp only [lit]
    exact b1
  rw [pre]
  unfold jX9_clashes_73
  rcases b2 with ⟨rfl, a, b, h1, h2, h3, h4⟩ | ⟨rfl, h⟩
  · refine ⟨1, z1, ?_, Or.inl ⟨rfl, Or.inl ⟨a, b, h3, (hon a b h1 h2).mp h4⟩⟩, ⟨on, hO, hon⟩, a3, a4⟩
    obtain ⟨M, hM⟩ : ∃ M, FU = M + 1 := ⟨FU - 1, by have := FU_ge; omega⟩
    rw [hM, lX9_clashes_75.eq_2]
    simp (disch := omega) only [lit, nI_eq, if_neg, isb_1, gd_t, ite_self]
  · obtain ⟨r, c1, c2⟩ := cl_out hW hTa hO T.length 0 FU (by omega) (by have := FU_ge; omega)
    refine ⟨r, z1, ?_, ?_, ⟨on, hO, hon⟩, a3, a4⟩
    · simp only [lit]; exact c1
    · rcases c2 with ⟨rfl, u, v, g1, g2, g3, g4, g5⟩ | ⟨rfl, g⟩
      · exact Or.inl ⟨rfl, Or.inr ⟨u, v, g1, by omega, by omega, g3, g4, (hon u v g1 (by omega)).mp g5⟩⟩
      · refine Or.inr ⟨rfl, ?_⟩
        rintro (⟨a, b, hU, ho⟩ | ⟨u, v, g1, g2, g3, g4, g5, g6⟩)
        · obtain ⟨s, s1, s2, s3, s4, s5, s6, s7⟩ := hIa.2.2 a b hU
          exact h s a b (Nat.zero_le _) s1 s2 s5 s3 s4 s6 s7 ((hon a b s6 s7).mpr ho)
        · have := (hon u v g1 g2).mpr g6
          rcases Nat.lt_trichotomy u v with l | l | l
          · exact g v u (Nat.zero_le _) g2 l g5 g4 this.symm
          · exact g3 l
          · exact g u v (Nat.zero_le _) g1 l g4 g5 this
end MC
end
section
/-! sayings, and the sets of them -/
def bI (b : Bool) : Int32 := if b = true then nI 1 else nI 0
theorem bI_t : bI true = nI 1 := id rfl
theorem bI_f : bI false = nI 0 := id rfl
abbrev Sy : Type := Bool × Nat × Nat
def sm (S : List Sy) (s : Nat) : Bool := (S.getD s (false, 0, 0)).1
def sa (S : List Sy) (s : Nat) : Nat := (S.getD s (false, 0, 0)).2.1
def sb (S : List Sy) (s : Nat) : Nat := (S.getD s (false, 0, 0)).2.2
def WS (n : Nat) (S : List Sy) : Prop := S.length ≤ 100 ∧ ∀ s, s < S.length → sa S s < n ∧ sb S s < n
def EX (S : List Sy) (I : Nat → Prop) (x : Option Sy) (a b : Nat) : Prop := (∃ s, s < S.length ∧ I s ∧ sm S s = true ∧ sa S s = a ∧ sb S s = b) ∨ x = some (true, a, b)
def UX (S : List Sy) (I : Nat → Prop) (x : Option Sy) (a b : Nat) : Prop := (∃ s, s < S.length ∧ I s ∧ sm S s = false ∧ sa S s = a ∧ sb S s = b) ∨ x = some (false, a, b)
def MSy (S : List Sy) (tk : Nat → Bool) (z : fS) : Prop := z 0 9 = nI S.length ∧ ∀ s, s < S.length → z 5 s = nI (sa S s) ∧ z 6 s = nI (sb S s) ∧ z 7 s = bI (sm S s) ∧ z 8 s = bI (tk s)
def MX (S : List Sy) (I : Nat → Prop) (x : Option Sy) (z : fS) : Prop :=
  (∀ s, s < 100 → (I s ∧ z 21 s = nI 1) ∨ (¬ I s ∧ z 21 s = nI 0)) ∧ (∀ s, I s → s < S.length) ∧ ((x = none ∧ z 21 100 = nI 0) ∨ ∃ c a b, x = some (c, a, b) ∧ z 21 100 = nI 1 ∧ z 5 100 = nI a ∧ z 6 100 = nI b ∧ z 7 100 = bI c)
section SAY
variable {T : List Tm} {S : List Sy} {tk : Nat → Bool} {I : Nat → Prop} {x : Option Sy} {z z' : fS}
theorem MSy.fr (h : MSy S tk z) (e0 : z' 0 9 = z 0 9) (e : ∀ j, 5 ≤ j → j ≤ 8 → ∀ s, s < 100 → z' j s = z j s) (hS : S.length ≤ 100) : MSy S tk z' := by
  refine ⟨e0.trans h.1, fun s hs => ?_⟩
  rw [e 5 (by omega) (by omega) s (by omega), e 6 (by omega) (by omega) s (by omega), e 7 (by omega) (by omega) s (by omega), e 8 (by omega) (by omega) s (by omega)]
  exact h.2 s hs
theorem MX.fr (h : MX S I x z) (e5 : z' 5 = z 5) (e6 : z' 6 = z 6) (e7 : z' 7 = z 7) (e21 : z' 21 = z 21) : MX S I x z' := by
  unfold MX
  rw [e5, e6, e7, e21]
  exact h
theorem MI_of (hS : WS T.length S) (hx : ∀ c a b, x = some (c, a, b) → a < T.length ∧ b < T.length) (h : MSy S tk z) (hm : MX S I x z) : MI T.length (EX S I x) (UX S I x) z := by
  obtain ⟨m1, m2, m3⟩ := hm
  have hl := hS.1
  refine ⟨fun s hs => ?_, fun a b e => ?_, fun a b e => ?_⟩
  · rcases Nat.eq_or_lt_of_le hs with rfl | hs
    · rcases m3 with ⟨_, m3⟩ | ⟨c, a, b, e, e1, e2, e3, e4⟩
      · exact Or.inl m3
      · have := hx c a b e
        refine Or.inr ⟨e1, a, b, e2, e3, this.1, this.2, ?_⟩
        cases c
        · exact Or.inr ⟨e4, Or.inr e⟩
        · exact Or.inl ⟨e4, Or.inr e⟩
    · rcases m1 s hs with ⟨i1, i2⟩ | ⟨i1, i2⟩
      · have hs' := m2 s i1
        obtain ⟨h5, h6, h7, h8⟩ := h.2 s hs'
        refine Or.inr ⟨i2, sa S s, sb S s, h5, h6, (hS.2 s hs').1, (hS.2 s hs').2, ?_⟩
        cases q : sm S s
        · rw [q] at h7; exact Or.inr ⟨h7, Or.inl ⟨s, hs', i1, q, rfl, rfl⟩⟩
        · rw [q] at h7; exact Or.inl ⟨h7, Or.inl ⟨s, hs', i1, q, rfl, rfl⟩⟩
      · exact Or.inl i2
  · rcases e with ⟨s, hs', i1, q, rfl, rfl⟩ | e
    · obtain ⟨h5, h6, h7, h8⟩ := h.2 s hs'
      rw [q] at h7
      rcases m1 s (by omega) with ⟨_, i2⟩ | ⟨i2, _⟩
      · exact ⟨s, by omega, i2, h5, h6, h7, (hS.2 s hs').1, (hS.2 s hs').2⟩
      · exact absurd i1 i2
    · rcases m3 with ⟨m3, _⟩ | ⟨c, a', b', e', e1, e2, e3, e4⟩
      · rw [e] at m3; cases m3
      · rw [e] at e'; cases e'
        have := hx _ _ _ e
        exact ⟨100, by omega, e1, e2, e3, e4, this.1, this.2⟩
  · rcases e with ⟨s, hs', i1, q, rfl, rfl⟩ | e
    · obtain ⟨h5, h6, h7, h8⟩ := h.2 s hs'
      rw [q] at h7
      rcases m1 s (by omega) with ⟨_, i2⟩ | ⟨i2, _⟩
      · exact ⟨s, by omega, i2, h5, h6, h7, (hS.2 s hs').1, (hS.2 s hs').2⟩
      · exact absurd i1 i2
    · rcases m3 with ⟨m3, _⟩ | ⟨c, a', b', e', e1, e2, e3, e4⟩
      · rw [e] at m3; cases m3
      · rw [e] at e'; cases e'
        have := hx _ _ _ e
        exact ⟨100, by omega, e1, e2, e3, e4, this.1, this.2⟩
theorem takeCourt_loop (hS : S.length ≤ 100) (ht : ∀ s, tk s = true → s < S.length) : ∀ (d i N : Nat) (z : fS), i + d = 101 → d < N → MSy S tk z → (∀ s, s < i → z 21 s = bI (tk s)) → ∃ z', lX9_takeCourt_2 N (nI i) z = some z' ∧ (∀ s, s < 101 → z' 21 s = bI (tk s)) ∧ (∀ j, j ≠ 21 → z' j = z j) := by
  intro d
  induction d with
  | zero =>
    intro i N z hi hN h hz
    obtain ⟨N, rfl⟩ : ∃ M, N = M + 1 := ⟨N - 1, by omega⟩
    refine ⟨z, ?_, fun s hs => hz s (by omega), fun _ _ => rfl⟩
    rw [lX9_takeCourt_2.eq_2]
    simp (disch := omega) only [lit, nI_ltI, if_pos]
  | succ d ih =>
    intro i N z hi hN h hz
    obtain ⟨N, rfl⟩ : ∃ M, N = M + 1 := ⟨N - 1, by omega⟩
    obtain ⟨z', e1, e2, e3⟩ := ih (i + 1) N (wrr z 21 (upd (z 21) i (bI (tk i)))) (by omega) (by omega) (h.fr (by rw [wrr_n (by omega)]) (fun j h1 h2 s hs => by rw [wrr_n (by omega)]) hS) (fun s hs => by
      rw [wrr_e]
      by_cases e : s = i
      · subst e; rw [upd_e]
      · rw [upd_n e]; exact hz s (by omega))
    refine ⟨z', ?_, e2, fun j hj => (e3 j hj).trans (wrr_n hj)⟩
    rw [lX9_takeCourt_2.eq_2]
    by_cases q : i < S.length
    · have h8 := (h.2 i q).2.2.2
      cases hk : tk i
      · rw [hk, bI_f] at h8 e1
        simp (disch := omega) only [lit, nI_ltI, if_neg, h.1, nI_leI, inb_t, gd_t, rd_nI, h8, if_true, zb_0, wr_nI, bnd_s, nI_add]
        exact e1
      · rw [hk, bI_t] at h8 e1
        simp (disch := omega) only [lit, nI_ltI, if_neg, h.1, nI_leI, inb_t, gd_t, rd_nI, h8, nI_eq, zb_1, wr_nI, bnd_s, nI_add]
        exact e1
    · have hk : tk i = false := by
        cases hk : tk i
        · rfl
        · exact absurd (ht i hk) q
      rw [hk, bI_f] at e1
      simp (disch := omega) only [lit, nI_ltI, if_neg, h.1, nI_leI, if_pos, inb_t, gd_t, zb_0, wr_nI, bnd_s, nI_add]
      exact e1
/-- what is taken is put in -/
theorem takeCourt_ok (hS : S.length ≤ 100) (ht : ∀ s, tk s = true → s < S.length) (h : MSy S tk z) : ∃ z', fX9_takeCourt z = some z' ∧ MX S (fun s => tk s = true) none z' ∧ (∀ j, j ≠ 21 → z' j = z j) := by
  obtain ⟨z', e1, e2, e3⟩ := takeCourt_loop hS ht 101 0 FU z (by omega) (by have := FU_ge; omega) h (fun s hs => by omega)
  refine ⟨z', ?_, ⟨fun s hs => ?_, ht, Or.inl ⟨rfl, ?_⟩⟩, e3⟩
  · unfold fX9_takeCourt; simp only [lit]; exact e1
  · have := e2 s (by omega)
    cases hk : tk s
    · rw [hk, bI_f] at this; exact Or.inr ⟨by simp [hk], this⟩
    · rw [hk, bI_t] at this; exact Or.inl ⟨hk, this⟩
  · have hk : tk 100 = false := by
      cases hk : tk 100
      · rfl
      · have := ht 100 hk; omega
    have := e2 100 (by omega)
    rw [hk] at this; exact this
theorem zb_bI (c : Bool) : zb (bI c) = bI c := by cases c; exact zb_0; exact zb_1
theorem add_ok (hm : MX S I none z) {c : Bool} {a b : Nat} : ∃ z', fX9_add z (nI a) (nI b) (bI c) = some z' ∧ MX S I (some (c, a, b)) z' ∧ (∀ j, j ≠ 5 → j ≠ 6 → j ≠ 7 → j ≠ 21 → z' j = z j) ∧ (∀ j s, s ≠ 100 → z' j s = z j s) := by
  refine ⟨wrr (wrr (wrr (wrr z 5 (upd (z 5) 100 (nI a))) 6 (upd (z 6) 100 (nI b))) 7 (upd (z 7) 100 (bI c))) 21 (upd (z 21) 100 (nI 1)), ?_, ⟨fun s hs => ?_, hm.2.1, Or.inr ⟨c, a, b, rfl, ?_, ?_, ?_, ?_⟩⟩, ?_, ?_⟩
  · unfold fX9_add
    simp (disch := omega) only [lit, inb_t, gd_t, wr_nI, bnd_s, wrr_n, zb_bI, zb_1]
  · simp (disch := omega) only [wrr_n, wrr_e, upd_n]; exact hm.1 s hs
  · simp (disch := omega) only [wrr_n, wrr_e, upd_e]
  · simp (disch := omega) only [wrr_n, wrr_e, upd_e]
  · simp (disch := omega) only [wrr_n, wrr_e, upd_e]
  · simp (disch := omega) only [wrr_n, wrr_e, upd_e]
  · intro j h1 h2 h3 h4
    simp (disch := omega) only [wrr_n]
  · intro j s hs
    unfold wrr upd
    by_cases q4 : j = 21
    · subst q4; simp [hs]
    · by_cases q3 : j = 7
      · subst q3; simp [hs]
      · by_cases q2 : j = 6
        · subst q2; simp [hs]
        · by_cases q1 : j = 5
          · subst q1; simp [hs]
          · simp [q1, q2, q3, q4]
end SAY
/-! thinning -/
def ThI (P : (Nat → Prop) → Prop) (A : Nat → Prop) (K : List Nat) : Prop := K.Pairwise (· < ·) ∧ (∀ s, s ∈ K → A s) ∧ ∀ s, A s → (s ∈ K ↔ ¬ P (fun t => (t ∈ K ∧ t < s) ∨ (A t ∧ s < t)))
theorem sorted_eq : ∀ {K L : List Nat}, K.Pairwise (· < ·) → L.Pairwise (· < ·) → (∀ s, s ∈ K ↔ s ∈ L) → K = L
  | [], [], _, _, _ => rfl
  | [], y :: L, _, _, h => by have := (h y).mpr List.mem_cons_self; simp at this
  | x :: K, [], _, _, h => by have := (h x).mp List.mem_cons_self; simp at this
  | x :: K, y :: L, hK, hL, h => by
    obtain ⟨k1, k2⟩ := List.pairwise_cons.mp hK
    obtain ⟨l1, l2⟩ := List.pairwise_cons.mp hL
    have e : x = y := by
      rcases List.mem_cons.mp ((h x).mp List.mem_cons_self) with e | e
      · exact e
      · rcases List.mem_cons.mp ((h y).mpr List.mem_cons_self) with f | f
        · exact f.symm
        · have := l1 x e; have := k1 y f; omega
    subst e
    rw [sorted_eq k2 l2 fun s => ?_]
    constructor
    · intro hs
      rcases List.mem_cons.mp ((h s).mp (List.mem_cons_of_mem _ hs)) with e | e
      · have := k1 s hs; omega
      · exact e
    · intro hs
      rcases List.mem_cons.mp ((h s).mpr (List.mem_cons_of_mem _ hs)) with e | e
      · have := l1 s hs; omega
      · exact e
theorem ThI.uniq {P : (Nat → Prop) → Prop} {A : Nat → Prop} {K L : List Nat} (hK : ThI P A K) (hL : ThI P A L) : K = L := by
  refine sorted_eq hK.1 hL.1 ?_
  intro s
  induction s using Nat.strongRecOn with
  | ind s ih =>
    by_cases ha : A s
    · rw [hK.2.2 s ha, hL.2.2 s ha]
      have e : (fun t => (t ∈ K ∧ t < s) ∨ (A t ∧ s < t)) = (fun t => (t ∈ L ∧ t < s) ∨ (A t ∧ s < t)) := by
        funext t
        refine propext ?_
        by_cases hts : t < s
        · simp only [ih t hts]
        · simp only [hts, and_false]
      rw [e]
    · exact ⟨fun h => absurd (hK.2.1 s h) ha, fun h => absurd (hL.2.1 s h) ha⟩
theorem ThI.len {P : (Nat → Prop) → Prop} {A : Nat → Prop} {K : List Nat} {n : Nat} (hK : ThI P A K) (hA : ∀ s, A s → s < n) : K.length ≤ n :=
  nodup_lt (hK.1.imp fun h e => by omega) fun s hs => hA s (hK.2.1 s hs)
section MTHIN
variable {T : List Tm} {S : List Sy} {tk : Nat → Bool} {x : Option Sy} {z : fS} {P : (Nat → Prop) → Prop} {v1 v2 : Int32}
def DoesOK (T : List Tm) (S : List Sy) (tk : Nat → Bool) (x : Option Sy) (P : (Nat → Prop) → Prop) (v1 v2 : Int32) : Prop := ∀ (I : Nat → Prop) (z : fS), MT T z → MSy S tk z → MX S I x z → ∃ r z', fX9_does z v1 v2 = some (nI r, z') ∧ ((r = 1 ∧ P I) ∨ (r = 0 ∧ ¬ P I)) ∧ (∀ j, j ≠ 20 → j ≠ 0 → z' j = z j) ∧ z' 0 = upd (z 0) 30 (nI 0)
theorem mthin_loop {cell : Nat} (hc : cell = 17 ∨ cell = 18) (hS : S.length ≤ 100) (hd : DoesOK T S tk x P v1 v2) : ∀ (d i N : Nat) (K : List Nat) (z : fS), i + d = S.length → d < N → MT T z → MSy S tk z → MX S (fun t => t ∈ K ∨ (tk t = true ∧ i ≤ t)) x z → (∀ s, tk s = true → s < S.length) → K.Pairwise (· < ·) → (∀ s, s ∈ K → tk s = true ∧ s < i) → (∀ s, tk s = true → s < i → (s ∈ K ↔ ¬ P (fun t => (t ∈ K ∧ t < s) ∨ (tk t = true ∧ s < t)))) → (∀ j, j < K.length → z cell j = nI (K.getD j 0)) → ∃ K' z', lX9_thin_6 cell v1 v2 N (nI K.length) (nI i) z = some (nI K'.length, z') ∧ ThI P (fun s => tk s = true) K' ∧ (∀ j, j < K'.length → z' cell j = nI (K'.getD j 0)) ∧ (∀ j, j ≠ 0 → j ≠ 20 → j ≠ 21 → j ≠ cell → z' j = z j) ∧ (∀ f, f ≠ 30 → z' 0 f = z 0 f) ∧ (z' 0 30 = nI 0 ∨ (z' 20 = z 20 ∧ z' 0 30 = z 0 30)) := by
  intro d
  induction d with
  | zero =>
    intro i N K z hi hN hT hM hX ht k1 k2 k3 k4
    obtain ⟨N, rfl⟩ : ∃ M, N = M + 1 := ⟨N - 1, by omega⟩
    refine ⟨K, z, ?_, ⟨k1, fun s hs => (k2 s hs).1, fun s hs => k3 s hs (by have := ht s hs; omega)⟩, k4, fun _ _ _ _ _ => rfl, fun _ _ => rfl, Or.inr ⟨rfl, rfl⟩⟩
    rw [lX9_thin_6.eq_2]
    simp (disch := omega) only [hM.1, nI_leI, if_pos]
  | succ d ih =>
    intro i N K z hi hN hT hM hX ht k1 k2 k3 k4
    obtain ⟨N, rfl⟩ : ∃ M, N = M + 1 := ⟨N - 1, by omega⟩
    have hKl : K.length ≤ i := nodup_lt (k1.imp fun h e => by omega) fun s hs => (k2 s hs).2
    rw [lX9_thin_6.eq_2]
    cases hk : tk i
    · have hin : ¬ (i ∈ K ∨ (tk i = true ∧ i ≤ i)) := by
        rintro (h | h)
        · have := (k2 i h).2; omega
        · rw [hk] at h; exact absurd h.1 (by simp)
      have e21 : z 21 i = nI 0 := by
        rcases hX.1 i (by omega) with ⟨h, _⟩ | ⟨_, h⟩
        · exact absurd h hin
        · exact h
      have eX : (fun t => t ∈ K ∨ (tk t = true ∧ i ≤ t)) = (fun t => t ∈ K ∨ (tk t = true ∧ i + 1 ≤ t)) := by
        funext t
        refine propext ⟨?_, ?_⟩
        · rintro (h | ⟨h1, h2⟩)
          · exact Or.inl h
          · rcases Nat.eq_or_lt_of_le h2 with rfl | h2
            · rw [hk] at h1; simp at h1
            · exact Or.inr ⟨h1, h2⟩
        · rintro (h | ⟨h1, h2⟩)
          · exact Or.inl h
          · exact Or.inr ⟨h1, by omega⟩
      rw [eX] at hX
      obtain ⟨K', z', e1, e2⟩ := ih (i + 1) N K z (by omega) (by omega) hT hM hX ht k1 (fun s hs => ⟨(k2 s hs).1, by have := (k2 s hs).2; omega⟩) (fun s h1 h2 => k3 s h1 (by
        rcases Nat.eq_or_lt_of_le (Nat.le_of_lt_succ h2) with rfl | h2
        · rw [hk] at h1; simp at h1
        · exact h2)) k4
      refine ⟨K', z', ?_, e2⟩
      simp (disch := omega) only [hM.1, nI_leI, if_neg, inb_t, gd_t, rd_nI, e21, lit, if_true, bnd_s, nI_add]
      exact e1
    · have e21 : z 21 i = nI 1 := by
        rcases hX.1 i (by omega) with ⟨_, h⟩ | ⟨h, _⟩
        · exact h
        · exact absurd (Or.inr ⟨hk, Nat.le_refl _⟩) h
      -- taken out
      obtain ⟨z1, hz1⟩ : ∃ y : fS, y = wrr z 21 (upd (z 21) i (nI 0)) := ⟨_, rfl⟩
      have f1 : ∀ j, j ≠ 21 → z1 j = z j := fun j hj => by rw [hz1]; exact wrr_n hj
      have hT1 : MT T z1 := hT.fr (by rw [f1 0 (by omega)]) fun j h1 h2 => f1 j (by omega)
      have hM1 : MSy S tk z1 := hM.fr (by rw [f1 0 (by omega)]) (fun j h1 h2 s hs => by rw [f1 j (by omega)]) hS
      have hX1 : MX S (fun t => t ∈ K ∨ (tk t = true ∧ i + 1 ≤ t)) x z1 := by
        refine ⟨fun s hs => ?_, fun s hs => ?_, ?_⟩
        · by_cases e : s = i
          · subst e
            refine Or.inr ⟨?_, by rw [hz1, wrr_e, upd_e]⟩
            rintro (h | h)
            · have := (k2 s h).2; omega
            · omega
          · have e2 : z1 21 s = z 21 s := by rw [hz1, wrr_e, upd_n e]
            rw [e2]
            rcases hX.1 s hs with ⟨h1, h2⟩ | ⟨h1, h2⟩
            · refine Or.inl ⟨?_, h2⟩
              rcases h1 with h1 | h1
              · exact Or.inl h1
              · exact Or.inr ⟨h1.1, by omega⟩
            · refine Or.inr ⟨fun h => h1 ?_, h2⟩
              rcases h with h | h
              · exact Or.inl h
              · exact Or.inr ⟨h.1, by omega⟩
        · rcases hs with hs | hs
          · exact ht s (k2 s hs).1
          · exact ht s hs.1
        · have e100 : z1 21 100 = z 21 100 := by rw [hz1, wrr_e, upd_n (by omega)]
          rw [e100, f1 5 (by omega), f1 6 (by omega), f1 7 (by omega)]
          exact hX.2.2
      obtain ⟨r, z2, g1, g2, g3, g4⟩ := hd _ z1 hT1 hM1 hX1
      have e30 : ∀ f, f ≠ 30 → z2 0 f = z 0 f := fun f hf => by rw [g4, f1 0 (by omega), upd_n hf]
      have e30' : z2 0 30 = nI 0 := by rw [g4, upd_e]
      have g0 : ∀ j, j ≠ 0 → j ≠ 20 → j ≠ 21 → z2 j = z j := fun j h0 h1 h2 => by rw [g3 j h1 h0, f1 j h2]
      have hT2 : MT T z2 := hT.fr (e30 4 (by omega)) fun j h1 h2 => g0 j (by omega) (by omega) (by omega)
      have hM2 : MSy S tk z2 := hM.fr (e30 9 (by omega)) (fun j h1 h2 s hs => by rw [g0 j (by omega) (by omega) (by omega)]) hS
      have hX2 : MX S (fun t => t ∈ K ∨ (tk t = true ∧ i + 1 ≤ t)) x z2 := hX1.fr (g3 5 (by omega) (by omega)) (g3 6 (by omega) (by omega)) (g3 7 (by omega) (by omega)) (g3 21 (by omega) (by omega))
      have eP : (fun t => t ∈ K ∨ (tk t = true ∧ i + 1 ≤ t)) = (fun t => (t ∈ K ∧ t < i) ∨ (tk t = true ∧ i < t)) := by
        funext t
        refine propext ⟨?_, ?_⟩
        · rintro (h | h)
          · exact Or.inl ⟨h, (k2 t h).2⟩
          · exact Or.inr h
        · rintro (h | h)
          · exact Or.inl h.1
          · exact Or.inr h
      rcases g2 with ⟨rfl, hp⟩ | ⟨rfl, hp⟩
      · rw [eP] at hp
        obtain ⟨K', z', e1, e2, e3, e4, e5, e6⟩ := ih (i + 1) N K z2 (by omega) (by omega) hT2 hM2 hX2 ht k1 (fun s hs => ⟨(k2 s hs).1, by have := (k2 s hs).2; omega⟩) (fun s h1 h2 => by
          rcases Nat.eq_or_lt_of_le (Nat.le_of_lt_succ h2) with rfl | h2
          · exact ⟨fun h => by have := (k2 s h).2; omega, fun h => absurd hp h⟩
          · exact k3 s h1 h2) (fun j hj => by rw [g0 cell (by omega) (by omega) (by omega)]; exact k4 j hj)
        refine ⟨K', z', ?_, e2, e3, fun j h0 h1 h2 h3 => (e4 j h0 h1 h2 h3).trans (g0 j h0 h1 h2), fun f hf => (e5 f hf).trans (e30 f hf), Or.inl (by rcases e6 with e6 | ⟨_, e6⟩; exact e6; exact e6.trans e30')⟩
        rw [hz1] at g1
        simp (disch := omega) only [hM.1, nI_leI, if_neg, inb_t, gd_t, rd_nI, e21, lit, nI_eq, zb_0, wr_nI, bnd_s, nI_add, g1, bd_s]
        exact e1
      · rw [eP] at hp
        have hni : ∀ s, s ∈ K ++ [i] ↔ s ∈ K ∨ s = i := fun s => by simp
        obtain ⟨z3, hz3⟩ : ∃ y : fS, y = wrr (wrr z2 21 (upd (z2 21) i (nI 1))) cell (upd (z2 cell) K.length (nI i)) := ⟨_, rfl⟩
        have f3 : ∀ j, j ≠ 21 → j ≠ cell → z3 j = z2 j := fun j h1 h2 => by rw [hz3, wrr_n h2, wrr_n h1]
        have f21 : z3 21 = upd (z2 21) i (nI 1) := by rw [hz3, wrr_n (by omega), wrr_e]
        have fc : z3 cell = upd (z2 cell) K.length (nI i) := by rw [hz3, wrr_e]
        have lenK : (K ++ [i]).length = K.length + 1 := by simp
        obtain ⟨K', z', e1, e2, e3, e4, e5, e6⟩ := ih (i + 1) N (K ++ [i]) z3 (by omega) (by omega) (hT2.fr (by rw [f3 0 (by omega) (by omega)]) fun j h1 h2 => f3 j (by omega) (by omega)) (hM2.fr (by rw [f3 0 (by omega) (by omega)]) (fun j h1 h2 s hs => by rw [f3 j (by omega) (by omega)]) hS) ⟨fun s hs => by
            rw [f21]
            by_cases e : s = i
            · subst e
              exact Or.inl ⟨Or.inl ((hni s).mpr (Or.inr rfl)), upd_e⟩
            · rw [upd_n e]
              rcases hX2.1 s hs with ⟨h1, h2⟩ | ⟨h1, h2⟩
              · refine Or.inl ⟨?_, h2⟩
                rcases h1 with h1 | h1
                · exact Or.inl ((hni s).mpr (Or.inl h1))
                · exact Or.inr h1
              · refine Or.inr ⟨fun h => h1 ?_, h2⟩
                rcases h with h | h
                · rcases (hni s).mp h with h | h
                  · exact Or.inl h
                  · exact absurd h e
                · exact Or.inr h, fun s hs => by
            rcases hs with hs | hs
            · rcases (hni s).mp hs with h | h
              · exact ht s (k2 s h).1
              · omega
            · exact ht s hs.1, by
            rw [f21, upd_n (by omega), f3 5 (by omega) (by omega), f3 6 (by omega) (by omega), f3 7 (by omega) (by omega)]
            exact hX2.2.2⟩ ht (List.pairwise_append.mpr ⟨k1, by simp, fun a ha b hb => by
              have := (k2 a ha).2; simp at hb; omega⟩) (fun s hs => by
            rcases (hni s).mp hs with h | h
            · exact ⟨(k2 s h).1, by have := (k2 s h).2; omega⟩
            · subst h; exact ⟨hk, by omega⟩) (fun s h1 h2 => by
            have eQ : (fun t => (t ∈ K ++ [i] ∧ t < s) ∨ (tk t = true ∧ s < t)) = (fun t => (t ∈ K ∧ t < s) ∨ (tk t = true ∧ s < t)) := by
              funext t
              refine propext ⟨?_, ?_⟩
              · rintro (⟨h, h'⟩ | h)
                · rcases (hni t).mp h with h | h
                  · exact Or.inl ⟨h, h'⟩
                  · omega
                · exact Or.inr h
              · rintro (⟨h, h'⟩ | h)
                · exact Or.inl ⟨(hni t).mpr (Or.inl h), h'⟩
                · exact Or.inr h
            rw [eQ]
            rcases Nat.eq_or_lt_of_le (Nat.le_of_lt_succ h2) with rfl | h2
            · exact ⟨fun _ => hp, fun _ => (hni s).mpr (Or.inr rfl)⟩
            · rw [← k3 s h1 h2, hni s]
              exact ⟨fun h => by
                rcases h with h | h
                · exact h
                · omega, Or.inl⟩) (fun j hj => by
            rw [fc]
            rw [lenK] at hj
            by_cases e : j = K.length
            · subst e; rw [upd_e, gD_r]
            · rw [upd_n e, gD_l (by omega), g0 cell (by omega) (by omega) (by omega)]
              exact k4 j (by omega))
        refine ⟨K', z', ?_, e2, e3, fun j h0 h1 h2 h3 => ((e4 j h0 h1 h2 h3).trans (f3 j h2 h3)).trans (g0 j h0 h1 h2), fun f hf => by rw [e5 f hf, f3 0 (by omega) (by omega)]; exact e30 f hf, Or.inl (by rcases e6 with e6 | ⟨_, e6⟩; exact e6; rw [e6, f3 0 (by omega) (by omega)]; exact e30')⟩
        rw [hz1] at g1
        rw [lenK, hz3] at e1
        simp (disch := omega) only [hM.1, nI_leI, if_neg, inb_t, gd_t, rd_nI, e21, lit, nI_eq, zb_0, zb_1, wr_nI, bnd_s, nI_add, g1, bd_s, if_true, wrr_n]
        exact e1
end MTHIN
end
section
/-! the reference's court -/
def TK (tk : Nat → Bool) : Nat → Prop := fun s => tk s = true
def RM (T : List Tm) (S : List Sy) (tk : Nat → Bool) (z : fS) : Prop := MT T z ∧ MSy S tk z ∧ (z 0 30 = nI 0 ∨ (z 0 30 = nI 1 ∧ MF T (EX S (TK tk) none) z))
def MFr (c f : Nat) (z z' : fS) : Prop := (∀ j, j ≠ 0 → ¬ (5 ≤ j ∧ j ≤ 7) → j ≠ 20 → j ≠ 21 → j ≠ c → z' j = z j) ∧ (∀ j s, (5 ≤ j ∧ j ≤ 7) → s ≠ 100 → z' j s = z j s) ∧ (∀ g, g ≠ 30 → g ≠ f → z' 0 g = z 0 g)
theorem MFr.rf {c f : Nat} {z : fS} : MFr c f z z := ⟨fun _ _ _ _ _ _ => rfl, fun _ _ _ _ => rfl, fun _ _ _ => rfl⟩
theorem MFr.tr {c f : Nat} {z z1 z2 : fS} (h : MFr c f z z1) (g : MFr c f z1 z2) : MFr c f z z2 :=
  ⟨fun j a b d e i => (g.1 j a b d e i).trans (h.1 j a b d e i), fun j s a b => (g.2.1 j s a b).trans (h.2.1 j s a b), fun k a b => (g.2.2 k a b).trans (h.2.2 k a b)⟩
theorem MFr.up {c f : Nat} {z z' : fS} (h : MFr 0 30 z z') : MFr c f z z' :=
  ⟨fun j a b d e _ => h.1 j a b d e a, h.2.1, fun g a _ => h.2.2 g a a⟩
section MCO
variable {T : List Tm} {S : List Sy} {tk : Nat → Bool} {x : Option Sy} {z z' : fS} {c f : Nat}
theorem MFr.mt (h : MT T z) (e : MFr c f z z') (hc : c = 0 ∨ 8 < c) (hf : f ≠ 4) : MT T z' := h.fr (e.2.2 4 (by omega) (by omega)) fun j h1 h2 => e.1 j (by omega) (by omega) (by omega) (by omega) (by omega)
theorem MFr.msy (hS : S.length ≤ 100) (h : MSy S tk z) (e : MFr c f z z') (hc : c = 0 ∨ 8 < c) (hf : f ≠ 9) : MSy S tk z' := h.fr (e.2.2 9 (by omega) (by omega)) (fun j h1 h2 s hs => by
    by_cases q : j = 8
    · subst q; rw [e.1 8 (by omega) (by omega) (by omega) (by omega) (by omega)]
    · exact e.2.1 j s ⟨h1, by omega⟩ (by omega)) hS
theorem court_ok (hW : WT T) (hS : WS T.length S) (ht : ∀ s, tk s = true → s < S.length) (h : RM T S tk z) : ∃ z', fX9_court z = some z' ∧ MF T (EX S (TK tk) none) z' ∧ RM T S tk z' ∧ MFr 0 30 z z' := by
  obtain ⟨h1, h2, h3⟩ := h
  unfold fX9_court
  rcases h3 with h3 | ⟨h3, h4⟩
  · obtain ⟨z1, a1, a2, a3⟩ := takeCourt_ok hS.1 ht h2
    have f1 : MFr 0 30 z z1 := ⟨fun j _ _ _ h _ => a3 j h, fun j s _ _ => by rw [a3 j (by omega)], fun g _ _ => by rw [a3 0 (by omega)]⟩
    have hT1 := f1.mt h1 (Or.inl rfl) (by omega)
    have hM1 := f1.msy hS.1 h2 (Or.inl rfl) (by omega)
    obtain ⟨z2, b1, b2, b3, b4⟩ := findOnes_ok hW hT1 (MI_of hS (fun _ _ _ e => by cases e) hM1 a2)
    refine ⟨wrr z2 0 (upd (z2 0) 30 (nI 1)), ?_, ?_, ?_, ?_⟩
    · simp (disch := omega) only [h3, lit, if_true, a1, bp_s, b1, wf_w, bnd_s]
    · obtain ⟨on, o1, o2⟩ := b2
      exact ⟨on, fun t ht => by rw [wrr_n (by omega)]; exact o1 t ht, o2⟩
    · have f2 : MFr 0 30 z1 (wrr z2 0 (upd (z2 0) 30 (nI 1))) := ⟨fun j h0 _ h _ _ => by rw [wrr_n h0]; exact b3 j h h0, fun j s h _ => by rw [wrr_n (by omega), b3 j (by omega) (by omega)], fun g h _ => by rw [wrr_e, upd_n h, b4, upd_n h]⟩
      refine ⟨f2.mt hT1 (Or.inl rfl) (by omega), f2.msy hS.1 hM1 (Or.inl rfl) (by omega), Or.inr ⟨by rw [wrr_e, upd_e], ?_⟩⟩
      obtain ⟨on, o1, o2⟩ := b2
      exact ⟨on, fun t ht => by rw [wrr_n (by omega)]; exact o1 t ht, o2⟩
    · exact f1.tr ⟨fun j h0 _ h _ _ => by rw [wrr_n h0]; exact b3 j h h0, fun j s h _ => by rw [wrr_n (by omega), b3 j (by omega) (by omega)], fun g h _ => by rw [wrr_e, upd_n h, b4, upd_n h]⟩
  · refine ⟨z, ?_, h4, ⟨h1, h2, Or.inr ⟨h3, h4⟩⟩, MFr.rf⟩
    simp (disch := omega) only [h3, lit, nI_eq, if_neg]
theorem areOne_ok (hW : WT T) (hS : WS T.length S) (ht : ∀ s, tk s = true → s < S.length) (h : RM T S tk z) {a b : Nat} (ha : a < T.length) (hb : b < T.length) : ∃ r z', fX9_areOne z (nI a) (nI b) = some (nI r, z') ∧ ((r = 1 ∧ One T T.length (EX S (TK tk) none) a b) ∨ (r = 0 ∧ ¬ One T T.length (EX S (TK tk) none) a b)) ∧ RM T S tk z' ∧ MFr 0 30 z z' := by
  obtain ⟨z1, a1, ⟨on, o1, o2⟩, a3, a4⟩ := court_ok hW hS ht h
  have hT1 := hW.1
  have oa := o1 a ha
  have ob := o1 b hb
  unfold fX9_areOne
  rw [a1, bp_s]
  simp (disch := omega) only [inb_t, gd_t, rd_nI, oa.1, ob.1, nI_eq, lit]
  by_cases q : on a = on b
  · rw [if_pos q]
    exact ⟨1, z1, rfl, Or.inl ⟨rfl, (o2 a b ha hb).mp q⟩, a3, a4⟩
  · rw [if_neg q]
    exact ⟨0, z1, rfl, Or.inr ⟨rfl, fun h => q ((o2 a b ha hb).mpr h)⟩, a3, a4⟩
theorem does_one (hW : WT T) (hS : WS T.length S) {a b : Nat} (ha : a < T.length) (hb : b < T.length) : DoesOK T S tk none (fun I => One T T.length (EX S I none) a b) (nI a) (nI b) := by
  intro I z h1 h2 h3
  have hT1 := hW.1
  obtain ⟨z2, b1, ⟨on, o1, o2⟩, b3, b4⟩ := findOnes_ok hW h1 (MI_of hS (fun _ _ _ e => by cases e) h2 h3)
  have oa := o1 a ha
  have ob := o1 b hb
  unfold fX9_does
  simp (disch := omega) only [lit, nI_leI, if_pos, b1, bp_s, inb_t, gd_t, rd_nI, oa.1, ob.1, nI_eq]
  by_cases q : on a = on b
  · rw [if_pos q]
    exact ⟨1, z2, rfl, Or.inl ⟨rfl, (o2 a b ha hb).mp q⟩, b3, b4⟩
  · rw [if_neg q]
    exact ⟨0, z2, rfl, Or.inr ⟨rfl, fun h => q ((o2 a b ha hb).mpr h)⟩, b3, b4⟩
theorem does_clash (hW : WT T) (hS : WS T.length S) (hx : ∀ c a b, x = some (c, a, b) → a < T.length ∧ b < T.length) : DoesOK T S tk x (fun I => Cl T T.length (EX S I x) (UX S I x)) (-1) (-1) := by
  intro I z h1 h2 h3
  obtain ⟨r, z2, b1, b2, b3, b4, b5⟩ := clashes_ok hW h1 (MI_of hS hx h2 h3)
  refine ⟨r, z2, ?_, b2, b4, b5⟩
  unfold fX9_does
  have hb : isb (nI r) = true := by rcases b2 with ⟨rfl, _⟩ | ⟨rfl, _⟩; exact isb_1; exact isb_0
  simp (disch := omega) only [lit, litm, m1_le0, if_false, b1, bd_s, hb, gd_t]
/-- thinning, from what is taken -/
theorem mthin_ok {P : (Nat → Prop) → Prop} {v1 v2 : Int32} {cell : Nat} (hc : cell = 17 ∨ cell = 18) (hS : S.length ≤ 100) (ht : ∀ s, tk s = true → s < S.length) (hd : DoesOK T S tk x P v1 v2) (hT : MT T z) (hM : MSy S tk z) (hX : MX S (TK tk) x z) : ∃ K z', fX9_thin z v1 v2 cell = some (nI K.length, z') ∧ ThI P (TK tk) K ∧ K.length ≤ 100 ∧ (∀ j, j < K.length → z' cell j = nI (K.getD j 0)) ∧ (∀ j, j ≠ 0 → j ≠ 20 → j ≠ 21 → j ≠ cell → z' j = z j) ∧ (∀ f, f ≠ 30 → z' 0 f = z 0 f) ∧ (z' 0 30 = nI 0 ∨ (z' 20 = z 20 ∧ z' 0 30 = z 0 30)) := by
  have eX : TK tk = (fun t => t ∈ ([] : List Nat) ∨ (tk t = true ∧ 0 ≤ t)) := by
    funext t; simp [TK]
  rw [eX] at hX
  obtain ⟨K, z', e1, e2, e3, e4⟩ := mthin_loop hc hS hd S.length 0 FU [] z (by omega) (by have := FU_ge; omega) hT hM hX ht (by simp) (by simp) (fun s _ h => by omega) (fun j h => by simp at h)
  refine ⟨K, z', ?_, e2, ?_, e3, e4⟩
  · unfold fX9_thin; simp only [lit]; exact e1
  · have := ThI.len e2 (n := S.length) ht
    omega
/-- a core, as the reference holds it -/
def MCr (cell fld : Nat) (K : List Nat) (z : fS) : Prop := z 0 fld = nI K.length ∧ K.length ≤ 100 ∧ ∀ j, j < K.length → z cell j = nI (K.getD j 0)
theorem wouldClashM_ok (hW : WT T) (hS : WS T.length S) (ht : ∀ s, tk s = true → s < S.length) (h : RM T S tk z) {a b : Nat} (ha : a < T.length) (hb : b < T.length) {c : Bool} : ∃ r z', fX9_wouldClash z (nI a) (nI b) (bI c) = some (nI r, z') ∧ RM T S tk z' ∧ MFr 17 22 z z' ∧ ((r = 0 ∧ ¬ Cl T T.length (EX S (TK tk) (some (c, a, b))) (UX S (TK tk) (some (c, a, b))) ∧ MFr 0 30 z z') ∨ (r = 1 ∧ Cl T T.length (EX S (TK tk) (some (c, a, b))) (UX S (TK tk) (some (c, a, b))) ∧ ∃ K, ThI (fun I => Cl T T.length (EX S I (some (c, a, b))) (UX S I (some (c, a, b)))) (TK tk) K ∧ MCr 17 22 K z')) := by
  obtain ⟨h1, h2, h3⟩ := h
  have hx : ∀ c' a' b', some (c, a, b) = some (c', a', b') → a' < T.length ∧ b' < T.length := fun c' a' b' e => by cases e; exact ⟨ha, hb⟩
  obtain ⟨z1, a1, a2, a3⟩ := takeCourt_ok hS.1 ht h2
  obtain ⟨z2, b1, b2, b3, b4⟩ := add_ok (c := c) (a := a) (b := b) a2
  have f2 : MFr 0 30 z z2 := ⟨fun j h0 h5 _ h21 _ => by rw [b3 j (by omega) (by omega) (by omega) h21, a3 j h21], fun j s h5 hs => by rw [b4 j s hs, a3 j (by omega)], fun g _ _ => by rw [b3 0 (by omega) (by omega) (by omega) (by omega), a3 0 (by omega)]⟩
  have hT2 := f2.mt h1 (Or.inl rfl) (by omega)
  have hM2 := f2.msy hS.1 h2 (Or.inl rfl) (by omega)
  obtain ⟨r, z3, c1, c2, c3, c4, c5⟩ := clashes_ok hW hT2 (MI_of hS hx hM2 b2)
  have f3 : MFr 0 30 z2 z3 := ⟨fun j h0 _ h20 _ _ => c4 j h20 h0, fun j s h5 _ => by rw [c4 j (by omega) (by omega)], fun g hg _ => by rw [c5, upd_n hg]⟩
  have hT3 := f3.mt hT2 (Or.inl rfl) (by omega)
  have hM3 := f3.msy hS.1 hM2 (Or.inl rfl) (by omega)
  have h30 : z3 0 30 = nI 0 := by rw [c5, upd_e]
  unfold fX9_wouldClash
  rw [a1, bp_s, b1, bp_s, c1, bd_s]
  rcases c2 with ⟨rfl, c2⟩ | ⟨rfl, c2⟩
  · obtain ⟨K, z4, d1, d2, d3, d4, d5, d6, d7⟩ := mthin_ok (cell := 17) (Or.inl rfl) hS.1 ht (does_clash hW hS hx) hT3 hM3 (b2.fr (c4 5 (by omega) (by omega)) (c4 6 (by omega) (by omega)) (c4 7 (by omega) (by omega)) (c4 21 (by omega) (by omega)))
    have f4 : MFr 17 22 z3 (wrr z4 0 (upd (z4 0) 22 (nI K.length))) := ⟨fun j h0 h5 h20 h21 hc => by rw [wrr_n h0, d5 j h0 h20 h21 hc], fun j s h5 hs => by rw [wrr_n (by omega), d5 j (by omega) (by omega) (by omega) (by omega)], fun g hg hf => by rw [wrr_e, upd_n hf, d6 g hg]⟩
    refine ⟨1, wrr z4 0 (upd (z4 0) 22 (nI K.length)), ?_, ⟨f4.mt hT3 (by omega) (by omega), f4.msy hS.1 hM3 (by omega) (by omega), Or.inl ?_⟩, (f2.tr f3).up.tr f4, Or.inr ⟨rfl, c2, K, d2, ⟨by rw [wrr_e, upd_e], d3, fun j hj => by rw [wrr_n (by omega)]; exact d4 j hj⟩⟩⟩
    · simp (disch := omega) only [lit, litm, nI_eq, if_neg] at d1 ⊢
      simp only [d1, bd_s, wf_w, bnd_s]
    · rw [wrr_e, upd_n (by omega)]
      rcases d7 with d7 | ⟨_, d7⟩
      · exact d7
      · exact d7.trans h30
  · refine ⟨0, z3, ?_, ⟨hT3, hM3, Or.inl h30⟩, (f2.tr f3).up, Or.inl ⟨rfl, c2, f2.tr f3⟩⟩
    simp (disch := omega) only [lit, if_true]
end MCO
end
section
/-! the class's court -/
theorem JI.fr2 {T : List Tm} {E : Nat → Nat → Prop} {pb k : Nat} {ro : Nat → Nat} {z z' : fS} (h : JI T E pb k ro [] [] z) (hA : HA [] [] z') (e : ∀ j, j < 11 ∨ (pb ≤ j ∧ j ≤ pb + 9) → z' j = z j) : JI T E pb k ro [] [] z' := by
  obtain ⟨⟨hT, hPl, hS, hN0, hR, hH, _⟩, s1, s2, s3, s4, s5, s6, s7, s8⟩ := h
  refine ⟨⟨hT.fr fun j hj => e j (by omega), hPl.fr fun j hj => e j (by omega), hS.fr fun j h1 h2 => e j (by omega), hN0.fr fun j h1 h2 => e j (by omega), hR.fr (e _ (by omega)), hH.fr fun j h1 h2 => e j (by omega), hA⟩, s1, s2, s3, s4, ?_, ?_, ?_, ?_⟩
  · rw [e (pb + 6) (by omega)]; exact s5
  · rw [e (pb + 9) (by omega)]; exact s6
  · rw [e (pb + 9) (by omega)]; exact s7
  · rw [e (pb + 9) (by omega)]; exact s8
theorem JI.agenda {T : List Tm} {E : Nat → Nat → Prop} {pb k : Nat} {ro : Nat → Nat} {z : fS} (h : JI T E pb k ro [] [] z) : HA [] [] z := h.1.2.2.2.2.2.2
def XSy (S : List Sy) (tk : Nat → Bool) (z : fS) : Prop := z 11 5 = nI S.length ∧ z 11 6 = nI (cnt tk S.length) ∧ (∀ s, s < S.length → z 12 s = bI (sm S s) ∧ z 13 s = nI (sa S s) ∧ z 14 s = nI (sb S s)) ∧ ∀ s, s < 100 → z 15 s = bI (tk s)
/-- which partition stands, which one is for trials -/
def Pq (ps pt : Nat) (z : fS) : Prop := pcell (z 17 3) = ps ∧ pcell (z 17 4) = pt ∧ ((ps = 38 ∧ pt = 48) ∨ (ps = 48 ∧ pt = 38))
section XCO
variable {T : List Tm} {S : List Sy} {tk : Nat → Bool} {x : Option Sy} {z z' : fS} {E : Nat → Nat → Prop} {pb k ps pt : Nat} {ro : Nat → Nat}
theorem Pq.isS (h : Pq ps pt z) : isPb ps := by rcases h.2.2 with h | h; exact Or.inr (Or.inl h.1); exact Or.inr (Or.inr h.1)
theorem Pq.isT (h : Pq ps pt z) : isPb pt := by rcases h.2.2 with h | h; exact Or.inr (Or.inr h.2); exact Or.inr (Or.inl h.2)
theorem Pq.num (h : Pq ps pt z) : (ps = 38 ∧ pt = 48) ∨ (ps = 48 ∧ pt = 38) := h.2.2
theorem Pq.fr (h : Pq ps pt z) (e : z' 17 = z 17) : Pq ps pt z' := by
  unfold Pq; rw [e]; exact h
theorem XSy.fr (h : XSy S tk z) (e : ∀ j, 11 ≤ j → j ≤ 15 → z' j = z j) : XSy S tk z' := by
  unfold XSy
  rw [e 11 (by omega) (by omega), e 12 (by omega) (by omega), e 13 (by omega) (by omega), e 14 (by omega) (by omega), e 15 (by omega) (by omega)]
  exact h
theorem scount_ok (h : XSy S tk z) : fX5_count z = some (nI S.length) := by unfold fX5_count; rw [h.1]
theorem isTaken_ok (h : XSy S tk z) {s : Nat} (hs : s < 100) : fX5_isTaken z (nI s) = some (bI (tk s)) := by
  unfold fX5_isTaken
  have := h.2.2.2 s hs
  cases q : tk s
  · rw [q, bI_f] at this
    simp (disch := omega) only [inb_t, gd_t, rd_nI, this, lit, nI_eq, if_neg, bI_f]
  · rw [q, bI_t] at this
    simp (disch := omega) only [inb_t, gd_t, rd_nI, this, lit, if_true, bI_t]
theorem isb_bI (b : Bool) : isb (bI b) = true := by cases b; exact isb_0; exact isb_1
theorem isSame_ok (h : XSy S tk z) (hS : S.length ≤ 100) {s : Nat} (hs : s < S.length) : fX5_isSame z (nI s) = some (bI (sm S s)) := by
  unfold fX5_isSame
  have := (h.2.2.1 s hs).1
  simp (disch := omega) only [inb_t, gd_t, rd_nI, this, isb_bI]
theorem left_ok (h : XSy S tk z) (hS : S.length ≤ 100) {s : Nat} (hs : s < S.length) : fX5_left z (nI s) = some (nI (sa S s)) := by
  unfold fX5_left
  have := (h.2.2.1 s hs).2.1
  simp (disch := omega) only [inb_t, gd_t, rd_nI, this]
theorem right_ok (h : XSy S tk z) (hS : S.length ≤ 100) {s : Nat} (hs : s < S.length) : fX5_right z (nI s) = some (nI (sb S s)) := by
  unfold fX5_right
  have := (h.2.2.1 s hs).2.2
  simp (disch := omega) only [inb_t, gd_t, rd_nI, this]
theorem isOne_ok (hW : WT T) (h : JI T E pb T.length ro [] [] z) {a b : Nat} (ha : a < T.length) (hb : b < T.length) : ∃ r, fX4_isOne pb z (nI a) (nI b) = some (nI r) ∧ ((r = 1 ∧ One T T.length E a b) ∨ (r = 0 ∧ ¬ One T T.length E a b)) := by
  have hT1 := hW.1
  have hc := h.closed hW (Nat.le_refl _) a b ha hb
  have ra := h.1.2.2.1.2.2.1 a ha
  have rb := h.1.2.2.1.2.2.1 b hb
  unfold fX4_isOne
  simp (disch := omega) only [inb_t, gd_t, rd_nI, ra.1, rb.1, nI_eq, lit]
  by_cases q : ro a = ro b
  · rw [if_pos q]; exact ⟨1, rfl, Or.inl ⟨rfl, hc.mp q⟩⟩
  · rw [if_neg q]; exact ⟨0, rfl, Or.inr ⟨rfl, fun h => q (hc.mpr h)⟩⟩
theorem isTorn_ok (h : JI T E pb k ro [] [] z) : fX4_isTorn pb z = some (nI 0) := by
  unfold fX4_isTorn
  rw [h.1.2.2.2.1.1, isb_0, gd_t]
theorem isTorn_1 (h : z pb 13 = nI 1) : fX4_isTorn pb z = some (nI 1) := by
  unfold fX4_isTorn
  rw [h, isb_1, gd_t]
/-- not torn: no two numbers are one -/
theorem JI.nums (hW : WT T) (h : JI T E pb T.length ro [] [] z) {u v : Nat} (hu : u < T.length) (hv : v < T.length) (ku : kd T u = nI 1) (kv : kd T v = nI 1) (ho : One T T.length E u v) : u = v := by
  have e := (h.closed hW (Nat.le_refl _) u v hu hv).mpr ho
  have ru := h.1.2.2.1.2.2.1 u hu
  rcases h.1.2.2.2.1.2 (ro u) ru.2.1 ru.2.2 with ⟨_, q⟩ | ⟨w, _, _, _, _, q⟩
  · exact absurd ku (q u hu rfl)
  · rw [q u hu rfl ku, q v hv e.symm kv]
theorem EX_some {I : Nat → Prop} {a b : Nat} : (fun x y => EX S I none x y ∨ (x = a ∧ y = b)) = EX S I (some (true, a, b)) := by
  funext x y
  refine propext ⟨?_, ?_⟩
  · rintro ((h | h) | ⟨rfl, rfl⟩)
    · exact Or.inl h
    · cases h
    · exact Or.inr rfl
  · rintro (h | h)
    · exact Or.inl (Or.inl h)
    · cases h; exact Or.inr ⟨rfl, rfl⟩
theorem UX_some {I : Nat → Prop} {a b : Nat} : UX S I (some (true, a, b)) = UX S I none := by
  funext x y
  refine propext ⟨?_, ?_⟩
  · rintro (h | h)
    · exact Or.inl h
    · cases h
  · rintro (h | h)
    · exact Or.inl h
    · cases h
theorem EX_step {J : Nat → Prop} {i : Nat} (hi : i < S.length) (hs : sm S i = true) : (fun u v => EX S J x u v ∨ (u = sa S i ∧ v = sb S i)) = EX S (fun t => J t ∨ t = i) x := by
  funext u v
  refine propext ⟨?_, ?_⟩
  · rintro ((⟨s, h1, h2, h3⟩ | h) | ⟨rfl, rfl⟩)
    · exact Or.inl ⟨s, h1, Or.inl h2, h3⟩
    · exact Or.inr h
    · exact Or.inl ⟨i, hi, Or.inr rfl, hs, rfl, rfl⟩
  · rintro (⟨s, h1, h2, h3, h4, h5⟩ | h)
    · rcases h2 with h2 | rfl
      · exact Or.inl (Or.inl ⟨s, h1, h2, h3, h4, h5⟩)
      · exact Or.inr ⟨h4.symm, h5.symm⟩
    · exact Or.inl (Or.inr h)
theorem EX_skip {J : Nat → Prop} {i : Nat} (hs : sm S i = false) : EX S (fun t => J t ∨ t = i) x = EX S J x := by
  funext u v
  refine propext ⟨?_, ?_⟩
  · rintro (⟨s, h1, h2, h3, h4⟩ | h)
    · rcases h2 with h2 | rfl
      · exact Or.inl ⟨s, h1, h2, h3, h4⟩
      · rw [hs] at h3; cases h3
    · exact Or.inr h
  · rintro (⟨s, h1, h2, h3, h4⟩ | h)
    · exact Or.inl ⟨s, h1, Or.inl h2, h3, h4⟩
    · exact Or.inr h
theorem UX_skip {J : Nat → Prop} {i : Nat} (hs : sm S i = true) : UX S (fun t => J t ∨ t = i) x = UX S J x := by
  funext u v
  refine propext ⟨?_, ?_⟩
  · rintro (⟨s, h1, h2, h3, h4⟩ | h)
    · rcases h2 with h2 | rfl
      · exact Or.inl ⟨s, h1, h2, h3, h4⟩
      · rw [hs] at h3; cases h3
    · exact Or.inr h
  · rintro (⟨s, h1, h2, h3, h4⟩ | h)
    · exact Or.inl ⟨s, h1, Or.inl h2, h3, h4⟩
    · exact Or.inr h
theorem EX_mono {J J' : Nat → Prop} (h : ∀ s, J s → J' s) {a b : Nat} (e : EX S J x a b) : EX S J' x a b := by
  rcases e with ⟨s, h1, h2, h3⟩ | e
  · exact Or.inl ⟨s, h1, h s h2, h3⟩
  · exact Or.inr e
theorem UX_mono {J J' : Nat → Prop} (h : ∀ s, J s → J' s) {a b : Nat} (e : UX S J x a b) : UX S J' x a b := by
  rcases e with ⟨s, h1, h2, h3⟩ | e
  · exact Or.inl ⟨s, h1, h s h2, h3⟩
  · exact Or.inr e
theorem Cl.mono {n : Nat} {E E' U U' : Nat → Nat → Prop} (h1 : ∀ a b, E a b → E' a b) (h2 : ∀ a b, U a b → U' a b) (h : Cl T n E U) : Cl T n E' U' := by
  rcases h with ⟨a, b, h, g⟩ | ⟨u, v, a1, a2, a3, a4, a5, a6⟩
  · exact Or.inl ⟨a, b, h2 a b h, g.mono h1⟩
  · exact Or.inr ⟨u, v, a1, a2, a3, a4, a5, a6.mono h1⟩
theorem wc_loop (hW : WT T) (hS : WS T.length S) (ht : ∀ s, tk s = true → s < S.length) (hq : Pq ps pt z) (hx : XSy S tk z) (h : JI T E pt T.length ro [] [] z) : ∀ (d i N : Nat), i + d = S.length → d < N → ∃ r, lX2_wouldClash_34 z N (nI i) = some (nI r, z) ∧ ((r = 1 ∧ ∃ s, s < S.length ∧ tk s = true ∧ sm S s = false ∧ One T T.length E (sa S s) (sb S s)) ∨ (r = 0 ∧ ∀ s, i ≤ s → s < S.length → tk s = true → sm S s = false → ¬ One T T.length E (sa S s) (sb S s))) := by
  have hl := hS.1
  have hc := scount_ok hx
  intro d
  induction d with
  | zero =>
    intro i N hi hN
    obtain ⟨N, rfl⟩ : ∃ M, N = M + 1 := ⟨N - 1, by omega⟩
    refine ⟨0, ?_, Or.inr ⟨rfl, fun s h1 h2 => by omega⟩⟩
    rw [lX2_wouldClash_34.eq_2]
    simp (disch := omega) only [hc, bp_s, nI_leI, if_pos, lit]
  | succ d ih =>
    intro i N hi hN
    obtain ⟨N, rfl⟩ : ∃ M, N = M + 1 := ⟨N - 1, by omega⟩
    rw [lX2_wouldClash_34.eq_2]
    obtain ⟨r, e1, e2⟩ := ih (i + 1) N (by omega) (by omega)
    have i1 := isTaken_ok hx (show i < 100 by omega)
    have i2 := isSame_ok hx hl (show i < S.length by omega)
    have i3 := left_ok hx hl (show i < S.length by omega)
    have i4 := right_ok hx hl (show i < S.length by omega)
    have back : (¬ (tk i = true ∧ sm S i = false ∧ One T T.length E (sa S i) (sb S i))) → ((r = 1 ∧ ∃ s, s < S.length ∧ tk s = true ∧ sm S s = false ∧ One T T.length E (sa S s) (sb S s)) ∨ (r = 0 ∧ ∀ s, i ≤ s → s < S.length → tk s = true → sm S s = false → ¬ One T T.length E (sa S s) (sb S s))) := by
      intro hne
      rcases e2 with e2 | ⟨e2, e3⟩
      · exact Or.inl e2
      · refine Or.inr ⟨e2, fun s h1 h2 h3 h4 => ?_⟩
        rcases Nat.eq_or_lt_of_le h1 with rfl | h1
        · exact fun e => hne ⟨h3, h4, e⟩
        · exact e3 s h1 h2 h3 h4
    cases q1 : tk i
    · rw [q1, bI_f] at i1
      refine ⟨r, ?_, back fun h => by rw [q1] at h; exact absurd h.1 (by simp)⟩
      simp (disch := omega) only [hc, bp_s, nI_leI, if_neg, lit, i1, if_true, bnd_s, nI_add]
      exact e1
    · rw [q1, bI_t] at i1
      cases q2 : sm S i
      · rw [q2, bI_f] at i2
        obtain ⟨r0, f1, f2⟩ := isOne_ok hW h (hS.2 i (by omega)).1 (hS.2 i (by omega)).2
        rcases f2 with ⟨rfl, f2⟩ | ⟨rfl, f2⟩
        · refine ⟨1, ?_, Or.inl ⟨rfl, i, by omega, q1, q2, f2⟩⟩
          simp (disch := omega) only [hc, bp_s, nI_leI, if_neg, lit, i1, i2, i3, i4, hq.2.1, f1, nI_eq, if_true]
        · refine ⟨r, ?_, back fun h => f2 h.2.2⟩
          simp (disch := omega) only [hc, bp_s, nI_leI, if_neg, lit, i1, i2, i3, i4, hq.2.1, f1, nI_eq, if_true, bnd_s, nI_add]
          exact e1
      · rw [q2, bI_t] at i2
        refine ⟨r, ?_, back fun h => by rw [q2] at h; exact absurd h.2.1 (by simp)⟩
        simp (disch := omega) only [hc, bp_s, nI_leI, if_neg, lit, i1, i2, nI_eq, bnd_s, nI_add]
        exact e1
theorem wouldClashX_ok (hW : WT T) (hS : WS T.length S) (ht : ∀ s, tk s = true → s < S.length) (hq : Pq ps pt z) (hx : XSy S tk z) (h : JI T (EX S (TK tk) none) ps T.length ro [] [] z) {a b : Nat} (ha : a < T.length) (hb : b < T.length) : ∃ r z', fX2_wouldClash z (nI a) (nI b) = some (nI r, z') ∧ HA [] [] z' ∧ (∀ j, ¬ (23 ≤ j ∧ j ≤ 27) → ¬ (pt ≤ j ∧ j ≤ pt + 9) → z' j = z j) ∧ ((r = 1 ∧ Cl T T.length (EX S (TK tk) (some (true, a, b))) (UX S (TK tk) (some (true, a, b)))) ∨ (r = 0 ∧ ¬ Cl T T.length (EX S (TK tk) (some (true, a, b))) (UX S (TK tk) (some (true, a, b))) ∧ ∃ ro', JI T (EX S (TK tk) (some (true, a, b))) pt T.length ro' [] [] z')) := by
  have hn := hq.num
  obtain ⟨z1, a1, a2, a3⟩ := copyFrom_ok hq.isT hq.isS (by omega) h
  have hq1 : Pq ps pt z1 := hq.fr (a3 17 (by omega))
  obtain ⟨z2, b1, b2, b3⟩ := join_ok hq.isT (Nat.le_refl _) hW a2 ha hb
  rw [EX_some] at b2
  have hq2 : Pq ps pt z2 := hq1.fr (b3 17 (by omega) (by omega))
  have hx2 : XSy S tk z2 := hx.fr fun j h1 h2 => by rw [b3 j (by omega) (by omega), a3 j (by omega)]
  have fr : ∀ j, ¬ (23 ≤ j ∧ j ≤ 27) → ¬ (pt ≤ j ∧ j ≤ pt + 9) → z2 j = z j := fun j h1 h2 => by rw [b3 j h1 h2, a3 j h2]
  unfold fX2_wouldClash
  simp only [hq.1, hq.2.1, a1, bp_s, hq1.2.1, b1, hq2.2.1]
  rcases b2 with ⟨b4, ⟨ro', b5⟩ | ⟨b5, u, v, b6⟩⟩
  · rw [isTorn_ok b5, bp_s]
    obtain ⟨r, c1, c2⟩ := wc_loop hW hS ht hq2 hx2 b5 S.length 0 FU (by omega) (by have := FU_ge; have := hS.1; omega)
    refine ⟨r, z2, ?_, b4, fr, ?_⟩
    · simp (disch := omega) only [lit, if_true]; exact c1
    · rcases c2 with ⟨rfl, s, s1, s2, s3, s4⟩ | ⟨rfl, c2⟩
      · exact Or.inl ⟨rfl, Or.inl ⟨_, _, Or.inl ⟨s, s1, s2, s3, rfl, rfl⟩, s4⟩⟩
      · refine Or.inr ⟨rfl, ?_, ro', b5⟩
        rintro (⟨c, d, (⟨s, s1, s2, s3, rfl, rfl⟩ | e), ho⟩ | ⟨u, v, u1, u2, u3, u4, u5, u6⟩)
        · exact c2 s (Nat.zero_le _) s1 s2 s3 ho
        · cases e
        · exact u3 (b5.nums hW u1 u2 u4 u5 u6)
  · rw [isTorn_1 b5, bp_s]
    refine ⟨1, z2, ?_, b4, fr, Or.inl ⟨rfl, Or.inr ⟨u, v, b6⟩⟩⟩
    simp (disch := omega) only [lit, nI_eq, if_neg]
theorem ja_loop (hW : WT T) (hS : WS T.length S) (ht : ∀ s, tk s = true → s < S.length) (hcon : ¬ Cl T T.length (EX S (TK tk) none) (UX S (TK tk) none)) : ∀ (d i N : Nat) (ro : Nat → Nat) (z : fS), i + d = S.length → d < N → Pq ps pt z → XSy S tk z → JI T (EX S (fun s => tk s = true ∧ s < i) none) ps T.length ro [] [] z → ∃ z' ro', lX2_judgeAnew_13 N (nI i) z = some z' ∧ JI T (EX S (TK tk) none) ps T.length ro' [] [] z' ∧ (∀ j, ¬ (23 ≤ j ∧ j ≤ 27) → ¬ (ps ≤ j ∧ j ≤ ps + 9) → z' j = z j) := by
  have hl := hS.1
  intro d
  induction d with
  | zero =>
    intro i N ro z hi hN hq hx h
    obtain ⟨N, rfl⟩ : ∃ M, N = M + 1 := ⟨N - 1, by omega⟩
    have e : (fun s => tk s = true ∧ s < i) = TK tk := by
      funext s
      exact propext ⟨fun h => h.1, fun h => ⟨h, by have := ht s h; omega⟩⟩
    rw [e] at h
    refine ⟨z, ro, ?_, h, fun _ _ _ => rfl⟩
    rw [lX2_judgeAnew_13.eq_2]
    simp (disch := omega) only [scount_ok hx, bp_s, nI_leI, if_pos]
  | succ d ih =>
    intro i N ro z hi hN hq hx h
    have hn := hq.num
    obtain ⟨N, rfl⟩ : ∃ M, N = M + 1 := ⟨N - 1, by omega⟩
    rw [lX2_judgeAnew_13.eq_2]
    have hc := scount_ok hx
    have i1 := isTaken_ok hx (show i < 100 by omega)
    have i2 := isSame_ok hx hl (show i < S.length by omega)
    have i3 := left_ok hx hl (show i < S.length by omega)
    have i4 := right_ok hx hl (show i < S.length by omega)
    have eqs : ∀ s, (tk s = true ∧ s < i + 1) ↔ ((tk s = true ∧ s < i) ∨ (s = i ∧ tk i = true)) := by
      intro s
      constructor
      · rintro ⟨h1, h2⟩
        rcases Nat.eq_or_lt_of_le (Nat.le_of_lt_succ h2) with rfl | h2
        · exact Or.inr ⟨rfl, h1⟩
        · exact Or.inl ⟨h1, h2⟩
      · rintro (⟨h1, h2⟩ | ⟨rfl, h1⟩)
        · exact ⟨h1, by omega⟩
        · exact ⟨h1, by omega⟩
    cases q1 : tk i
    · rw [q1, bI_f] at i1
      have e : (fun s => tk s = true ∧ s < i) = (fun s => tk s = true ∧ s < i + 1) := by
        funext s
        refine propext ?_
        rw [eqs s, q1]
        simp
      rw [e] at h
      obtain ⟨z', ro', e1, e2⟩ := ih (i + 1) N ro z (by omega) (by omega) hq hx h
      refine ⟨z', ro', ?_, e2⟩
      simp (disch := omega) only [hc, bp_s, nI_leI, if_neg, lit, i1, if_true, bnd_s, nI_add]
      exact e1
    · rw [q1, bI_t] at i1
      have e : (fun s => tk s = true ∧ s < i + 1) = (fun s => (tk s = true ∧ s < i) ∨ s = i) := by
        funext s
        refine propext ?_
        rw [eqs s, q1]
        simp
      cases q2 : sm S i
      · rw [q2, bI_f] at i2
        have e' := EX_skip (S := S) (x := none) (J := fun s => tk s = true ∧ s < i) q2
        rw [← e', ← e] at h
        obtain ⟨z', ro', e1, e2⟩ := ih (i + 1) N ro z (by omega) (by omega) hq hx h
        refine ⟨z', ro', ?_, e2⟩
        simp (disch := omega) only [hc, bp_s, nI_leI, if_neg, lit, i1, i2, nI_eq, if_true, bnd_s, nI_add]
        exact e1
      · rw [q2, bI_t] at i2
        obtain ⟨z1, b1, ⟨b4, b5⟩, b3⟩ := join_ok hq.isS (Nat.le_refl _) hW h (hS.2 i (by omega)).1 (hS.2 i (by omega)).2
        have e' := EX_step (S := S) (x := none) (J := fun s => tk s = true ∧ s < i) (show i < S.length by omega) q2
        rw [e', ← e] at b5
        rcases b5 with ⟨ro1, b5⟩ | ⟨_, u, v, u1, u2, u3, u4, u5, u6⟩
        · obtain ⟨z', ro', e1, e2, e3⟩ := ih (i + 1) N ro1 z1 (by omega) (by omega) (hq.fr (b3 17 (by omega) (by omega))) (hx.fr fun j h1 h2 => b3 j (by omega) (by omega)) b5
          refine ⟨z', ro', ?_, e2, fun j h1 h2 => (e3 j h1 h2).trans (b3 j h1 h2)⟩
          simp (disch := omega) only [hc, bp_s, nI_leI, if_neg, lit, i1, i2, i3, i4, hq.1, b1, nI_eq, bnd_s, nI_add]
          exact e1
        · exact absurd (Or.inr ⟨u, v, u1, u2, u3, u4, u5, u6.mono fun _ _ q => EX_mono (fun s hs => hs.1) q⟩) hcon
/-- what stands is found anew -/
theorem judgeAnew_ok (hW : WT T) (hS : WS T.length S) (ht : ∀ s, tk s = true → s < S.length) (hcon : ¬ Cl T T.length (EX S (TK tk) none) (UX S (TK tk) none)) (hq : Pq ps pt z) (hx : XSy S tk z) (h : JI T (fun _ _ => False) 28 T.length ro [] [] z) : ∃ z' ro', fX2_judgeAnew z = some z' ∧ JI T (EX S (TK tk) none) ps T.length ro' [] [] z' ∧ (∀ j, ¬ (23 ≤ j ∧ j ≤ 27) → ¬ (ps ≤ j ∧ j ≤ ps + 9) → z' j = z j) := by
  have hn := hq.num
  obtain ⟨z1, a1, a2, a3⟩ := copyFrom_ok hq.isS (Or.inl rfl) (by omega) h
  have e : (fun _ _ => False) = EX S (fun s => tk s = true ∧ s < 0) none := by
    funext u v
    refine propext ⟨False.elim, ?_⟩
    rintro (⟨s, _, h, _⟩ | h)
    · omega
    · cases h
  rw [e] at a2
  obtain ⟨z', ro', e1, e2, e3⟩ := ja_loop hW hS ht hcon S.length 0 FU ro z1 (by omega) (by have := FU_ge; have := hS.1; omega) (hq.fr (a3 17 (by omega))) (hx.fr fun j h1 h2 => a3 j (by omega)) a2
  refine ⟨z', ro', ?_, e2, fun j h1 h2 => (e3 j h1 h2).trans (a3 j h2)⟩
  unfold fX2_judgeAnew
  simp only [hq.1, a1, bp_s, lit]
  exact e1
theorem acceptTrial_ok (hq : Pq ps pt z) : ∃ z', fX2_acceptTrial z = some z' ∧ Pq pt ps z' ∧ (∀ j, j ≠ 17 → z' j = z j) := by
  refine ⟨wrr z 17 (upd (upd (z 17) 3 (z 17 4)) 4 (z 17 3)), ?_, ⟨?_, ?_, ?_⟩, fun j hj => wrr_n hj⟩
  · unfold fX2_acceptTrial
    simp only [wf_w, bnd_s, wrr_wrr, wrr_e]
  · rw [wrr_e, upd_n (by omega), upd_e]; exact hq.2.1
  · rw [wrr_e, upd_e]; exact hq.1
  · have := hq.num; omega
end XCO
end
section
/-! the class thins -/
def XCr (cell : Nat) (C : List Nat) (z : fS) : Prop := z cell 1 = nI C.length ∧ C.length ≤ 100 ∧ ∀ j, j < C.length → z (cell + 1) j = nI (C.getD j 0)
section COR
variable {cell : Nat} {C : List Nat} {z z' : fS}
theorem XCr.fr (h : XCr cell C z) (e1 : z' cell = z cell) (e2 : z' (cell + 1) = z (cell + 1)) : XCr cell C z' := by
  unfold XCr; rw [e1, e2]; exact h
theorem ccount_ok (h : XCr cell C z) : fX1_count cell z = some (nI C.length) := by unfold fX1_count; rw [h.1]
theorem cat_ok (h : XCr cell C z) {j : Nat} (hj : j < C.length) : fX1_at cell z (nI j) = some (nI (C.getD j 0)) := by
  have := h.2.1
  unfold fX1_at
  simp (disch := omega) only [lit, nI_ltI, if_neg, h.1, nI_leI, inb_t, gd_t, rd_nI, h.2.2 j hj]
theorem cadd_ok (h : XCr cell C z) (hl : C.length < 100) {s : Nat} : ∃ z', fX1_add cell z (nI s) = some z' ∧ XCr cell (C ++ [s]) z' ∧ (∀ j, j ≠ cell → j ≠ cell + 1 → z' j = z j) := by
  refine ⟨wrr (wrr z (cell + 1) (upd (z (cell + 1)) C.length (nI s))) cell (upd (z cell) 1 (nI (C.length + 1))), ?_, ⟨?_, ?_, ?_⟩, ?_⟩
  · unfold fX1_add
    simp (disch := omega) only [lit, h.1, nI_leI, if_neg, inb_t, gd_t, wr_nI, bnd_s, wf_w, wrr_n, nI_add]
  · rw [wrr_e, upd_e]; simp
  · simp; omega
  · intro j hj
    rw [wrr_n (by omega), wrr_e]
    by_cases e : j = C.length
    · subst e; rw [upd_e, gD_r]
    · have : j < C.length := by simp at hj; omega
      rw [upd_n e, gD_l this]; exact h.2.2 j this
  · intro j h1 h2
    rw [wrr_n h1, wrr_n h2]
theorem cclear_ok (z : fS) (cell : Nat) : ∃ z', fX1_clear cell z = some z' ∧ XCr cell [] z' ∧ (∀ j, j ≠ cell → z' j = z j) := by
  refine ⟨wrr z cell (upd (z cell) 1 (nI 0)), ?_, ⟨by rw [wrr_e, upd_e]; rfl, by simp, fun j hj => by simp at hj⟩, fun j hj => wrr_n hj⟩
  unfold fX1_clear
  simp only [lit, wf_w, bnd_s]
end COR
def Nc (T : List Tm) (E : Nat → Nat → Prop) : Prop := ∃ u v, u < T.length ∧ v < T.length ∧ u ≠ v ∧ kd T u = nI 1 ∧ kd T v = nI 1 ∧ One T T.length E u v
/-- a trial into which the sayings of J have gone -/
def TrS (T : List Tm) (S : List Sy) (x : Option Sy) (pt : Nat) (J : Nat → Prop) (z : fS) : Prop :=
  HA [] [] z ∧ (∃ L, XCr 18 L z ∧ L.Nodup ∧ ∀ s, s ∈ L ↔ (s < S.length ∧ J s ∧ sm S s = false)) ∧ ((∃ ro, JI T (EX S J x) pt T.length ro [] [] z) ∨ (z pt 13 = nI 1 ∧ Nc T (EX S J x)))
def pI (i : Nat) : Int32 := if i = 0 then -(nI 1) else nI (i - 1)
theorem pI_0 : pI 0 = -(nI 1) := id rfl
theorem pI_s {i : Nat} (h : 0 < i) : pI i = nI (i - 1) := by unfold pI; rw [if_neg (by omega)]
section XTH
variable {T : List Tm} {S : List Sy} {tk : Nat → Bool} {x : Option Sy} {z z' : fS} {E E' : Nat → Nat → Prop} {pb k ps pt : Nat} {ro : Nat → Nat} {J : Nat → Prop} {P : (Nat → Prop) → Prop} {v1 : Int32} {a b cell : Nat}
theorem JI.more (hW : WT T) (h : JI T E pb T.length ro [] [] z) (h1 : ∀ a b, E a b → E' a b) (h2 : ∀ a b, E' a b → a < T.length ∧ b < T.length ∧ One T T.length E a b) : JI T E' pb T.length ro [] [] z := by
  have hc := h.closed hW (Nat.le_refl _)
  obtain ⟨hh, s1, s2, s3, s4, s5⟩ := h
  refine ⟨hh, fun a b ha hb e => (s1 a b ha hb e).mono h1, fun q hq => by simp at hq, s3, fun a b e => ?_, s5⟩
  obtain ⟨g1, g2, g3⟩ := h2 a b e
  exact Eqv.fb ((hc a b g1 g2).mpr g3)
def XTk (T : List Tm) (S : List Sy) (tk : Nat → Bool) (ps pt : Nat) (z : fS) : Prop := Pq ps pt z ∧ XSy S tk z ∧ ∃ ro, JI T (fun _ _ => False) 28 T.length ro [] [] z
/-- cells that a trial may change -/
def XFr (pt c1 c2 : Nat) (z z' : fS) : Prop := ∀ j, j ≠ 18 → j ≠ 19 → ¬ (23 ≤ j ∧ j ≤ 27) → ¬ (pt ≤ j ∧ j ≤ pt + 9) → j ≠ c1 → j ≠ c2 → z' j = z j
theorem XFr.tr {c1 c2 : Nat} {z1 z2 : fS} (h : XFr pt c1 c2 z z1) (g : XFr pt c1 c2 z1 z2) : XFr pt c1 c2 z z2 := fun j a b c d e f => (g j a b c d e f).trans (h j a b c d e f)
theorem XFr.up {c1 c2 : Nat} (h : XFr pt 18 19 z z') : XFr pt c1 c2 z z' := fun j a b c d _ _ => h j a b c d a b
theorem XTk.fr {c1 c2 : Nat} (h : XTk T S tk ps pt z) (hA : HA [] [] z') (e : XFr pt c1 c2 z z') (h1 : c1 = 18 ∨ 58 ≤ c1) (h2 : c2 = 19 ∨ 58 ≤ c2) : XTk T S tk ps pt z' := by
  obtain ⟨a1, a2, ro, a3⟩ := h
  have hn := a1.num
  exact ⟨a1.fr (e 17 (by omega) (by omega) (by omega) (by omega) (by omega) (by omega)), a2.fr fun j h1 h2 => e j (by omega) (by omega) (by omega) (by omega) (by omega) (by omega), ro, a3.fr2 hA fun j hj => e j (by omega) (by omega) (by omega) (by omega) (by omega) (by omega)⟩
theorem addTo_ok (hW : WT T) (hS : WS T.length S) (hx : ∀ c a b, x = some (c, a, b) → a < T.length ∧ b < T.length) (hk : XTk T S tk ps pt z) (h : TrS T S x pt J z) {s : Nat} (hs : s < S.length) (hJ : ¬ J s) : ∃ r z', fX2_addToTrial z (nI s) = some (nI r, z') ∧ (r = 0 ∨ r = 1) ∧ TrS T S x pt (fun t => J t ∨ t = s) z' ∧ (r = 0 → sm S s = true ∧ (Nc T (EX S J x) ∨ One T T.length (EX S J x) (sa S s) (sb S s))) ∧ XFr pt 18 19 z z' := by
  have hl := hS.1
  obtain ⟨hq, hX, ro0, hb⟩ := hk
  have hn := hq.num
  obtain ⟨hA, ⟨L, l1, l2, l3⟩, h3⟩ := h
  have i2 := isSame_ok hX hl hs
  have i3 := left_ok hX hl hs
  have i4 := right_ok hX hl hs
  have w := hS.2 s hs
  unfold fX2_addToTrial
  cases q : sm S s
  · rw [q, bI_f] at i2
    have hsL : s ∉ L := fun h => hJ ((l3 s).mp h).2.1
    have hLl : L.length < 100 := by
      have : (s :: L).Nodup := List.nodup_cons.mpr ⟨hsL, l2⟩
      have := nodup_lt this (n := S.length) (fun y hy => by
        rcases List.mem_cons.mp hy with rfl | hy
        · exact hs
        · exact ((l3 y).mp hy).1)
      simp at this
      omega
    obtain ⟨z1, e1, e2, e3⟩ := cadd_ok (s := s) l1 hLl
    refine ⟨1, z1, ?_, Or.inr rfl, ⟨?_, ⟨L ++ [s], e2, ?_, fun t => ?_⟩, ?_⟩, fun h => by omega, fun j h1 h2 _ _ _ _ => e3 j h1 h2⟩
    · simp (disch := omega) only [i2, bp_s, lit, if_true, e1]
    · exact hA.fr fun j h1 h2 => e3 j (by omega) (by omega)
    · exact List.nodup_append.mpr ⟨l2, by simp, fun y hy t ht => by simp at ht; subst ht; exact fun e => hsL (e ▸ hy)⟩
    · rw [List.mem_append, l3 t]
      constructor
      · rintro (⟨g1, g2, g3⟩ | g)
        · exact ⟨g1, Or.inl g2, g3⟩
        · have : t = s := by simpa using g
          subst this
          exact ⟨hs, Or.inr rfl, q⟩
      · rintro ⟨g1, g2 | g2, g3⟩
        · exact Or.inl ⟨g1, g2, g3⟩
        · exact Or.inr (by simp [g2])
    · rw [EX_skip q]
      rcases h3 with ⟨ro, h3⟩ | ⟨h3, h4⟩
      · exact Or.inl ⟨ro, h3.fr2 (hA.fr fun j h1 h2 => e3 j (by omega) (by omega)) fun j hj => e3 j (by omega) (by omega)⟩
      · exact Or.inr ⟨by rw [e3 pt (by omega) (by omega)]; exact h3, h4⟩
  · rw [q, bI_t] at i2
    have lset : ∀ t, t ∈ L ↔ (t < S.length ∧ (J t ∨ t = s) ∧ sm S t = false) := fun t => by
      rw [l3 t]
      constructor
      · rintro ⟨g1, g2, g3⟩; exact ⟨g1, Or.inl g2, g3⟩
      · rintro ⟨g1, g2 | g2, g3⟩
        · exact ⟨g1, g2, g3⟩
        · subst g2; rw [q] at g3; cases g3
    rcases h3 with ⟨ro, h3⟩ | ⟨h3, h4⟩
    · have it := isTorn_ok h3
      obtain ⟨r, o1, o2⟩ := isOne_ok hW h3 w.1 w.2
      rcases o2 with ⟨rfl, o2⟩ | ⟨rfl, o2⟩
      · refine ⟨0, z, ?_, Or.inl rfl, ⟨hA, ⟨L, l1, l2, lset⟩, Or.inl ⟨ro, h3.more hW (fun u v e => EX_mono (fun _ => Or.inl) e) fun u v e => ?_⟩⟩, fun _ => ⟨rfl, Or.inr o2⟩, fun _ _ _ _ _ _ _ => rfl⟩
        · simp (disch := omega) only [i2, bp_s, lit, nI_eq, if_neg, hq.2.1, it, if_true, i3, i4, o1]
        · rcases e with ⟨t, t1, t2, t3, rfl, rfl⟩ | e
          · have wt := hS.2 t t1
            rcases t2 with t2 | rfl
            · exact ⟨wt.1, wt.2, One.of (Or.inl ⟨t, t1, t2, t3, rfl, rfl⟩)⟩
            · exact ⟨wt.1, wt.2, o2⟩
          · have := hx _ _ _ e
            exact ⟨this.1, this.2, One.of (Or.inr e)⟩
      · obtain ⟨z1, b1, ⟨b4, b5⟩, b3⟩ := join_ok hq.isT (Nat.le_refl _) hW h3 w.1 w.2
        rw [EX_step hs q] at b5
        refine ⟨1, z1, ?_, Or.inr rfl, ⟨b4, ⟨L, l1.fr (b3 18 (by omega) (by omega)) (b3 19 (by omega) (by omega)), l2, lset⟩, b5⟩, fun h => by omega, fun j _ _ h1 h2 _ _ => b3 j h1 h2⟩
        simp (disch := omega) only [i2, bp_s, lit, nI_eq, if_neg, hq.2.1, it, if_true, i3, i4, o1, b1]
    · have it := isTorn_1 h3
      have h4' := h4
      obtain ⟨u, v, u1, u2, u3, u4, u5, u6⟩ := h4'
      refine ⟨0, z, ?_, Or.inl rfl, ⟨hA, ⟨L, l1, l2, lset⟩, Or.inr ⟨h3, u, v, u1, u2, u3, u4, u5, u6.mono fun _ _ e => EX_mono (fun _ => Or.inl) e⟩⟩, fun _ => ⟨rfl, Or.inl h4⟩, fun _ _ _ _ _ _ _ => rfl⟩
      simp (disch := omega) only [i2, bp_s, lit, nI_eq, if_neg, hq.2.1, it]
/-- what thinning needs of the thing thinned for -/
def ThG (T : List Tm) (S : List Sy) (tk : Nat → Bool) (x : Option Sy) (P : (Nat → Prop) → Prop) (v1 : Int32) (a b ps pt : Nat) : Prop :=
  (∀ J z, (∀ s, J s → tk s = true) → XTk T S tk ps pt z → TrS T S x pt J z → ∃ r, fX2_isReached z v1 (nI a) (nI b) = some (nI r) ∧ ((r = 1 ∧ P J) ∨ (r = 0 ∧ ¬ P J))) ∧
  (∀ J J' : Nat → Prop, (∀ s, J s → J' s) → P J → P J') ∧
  (∀ J : Nat → Prop, (∀ s, J s → tk s = true) → Nc T (EX S J x) → P J) ∧
  (∀ (J : Nat → Prop) s, s < S.length → sm S s = true → One T T.length (EX S J x) (sa S s) (sb S s) → P (fun t => J t ∨ t = s) → P J)
theorem th_core (hW : WT T) (hS : WS T.length S) (hx : ∀ c a b, x = some (c, a, b) → a < T.length ∧ b < T.length) (hc : cell = 69 ∨ cell = 71) {k77 : fS → Option fS} {v2 v3 v5 : Int32} {C : List Nat} (hCs : ∀ s, s ∈ C → s < S.length) (hCn : C.Nodup) : ∀ (B A : List Nat) (N : Nat) (z : fS), C = A ++ B → B.length < N → XTk T S tk ps pt z → XCr cell C z → TrS T S x pt (fun t => t ∈ A) z → ∃ z', lX2_thin_49 cell k77 v1 v2 v3 v5 N (nI A.length) z = k77 z' ∧ TrS T S x pt (fun t => t ∈ C) z' ∧ XFr pt 18 19 z z' := by
  intro B
  induction B with
  | nil =>
    intro A N z hC hN hk hcr h
    obtain ⟨N, rfl⟩ : ∃ M, N = M + 1 := ⟨N - 1, by omega⟩
    rw [List.append_nil] at hC
    subst hC
    have := hcr.2.1
    refine ⟨z, ?_, h, fun _ _ _ _ _ _ _ => rfl⟩
    rw [lX2_thin_49.eq_2]
    simp (disch := omega) only [ccount_ok hcr, bp_s, nI_leI, if_pos]
  | cons s B ih =>
    intro A N z hC hN hk hcr h
    obtain ⟨N, rfl⟩ : ∃ M, N = M + 1 := ⟨N - 1, by omega⟩
    have hlen : C.length = A.length + B.length + 1 := by rw [hC]; simp; omega
    have hcl := hcr.2.1
    have hg : C.getD A.length 0 = s := by rw [hC]; simp [List.getD_eq_getElem?_getD]
    have hsC : s ∈ C := by rw [hC]; simp
    have hsA : s ∉ A := by
      rw [hC] at hCn
      have := (List.nodup_append.mp hCn).2.2
      exact fun hm => this s hm s List.mem_cons_self rfl
    have hat := cat_ok hcr (show A.length < C.length by omega)
    rw [hg] at hat
    obtain ⟨r, z1, e1, _, e2, _, e4⟩ := addTo_ok hW hS hx hk h (hCs s hsC) hsA
    have eJ : (fun t => t ∈ A ∨ t = s) = (fun t => t ∈ A ++ [s]) := by funext t; simp
    rw [eJ] at e2
    have hn := hk.1.num
    obtain ⟨z', g1, g2, g3⟩ := ih (A ++ [s]) N z1 (by rw [hC]; simp) (by simp at hN; omega) (hk.fr e2.1 e4 (Or.inl rfl) (Or.inl rfl)) (hcr.fr (e4 cell (by omega) (by omega) (by omega) (by omega) (by omega) (by omega)) (e4 (cell + 1) (by omega) (by omega) (by omega) (by omega) (by omega) (by omega))) e2
    refine ⟨z', ?_, g2, e4.tr g3⟩
    have lenA : (A ++ [s]).length = A.length + 1 := by simp
    rw [lenA] at g1
    rw [lX2_thin_49.eq_2]
    simp (disch := omega) only [ccount_ok hcr, bp_s, nI_leI, if_neg, hat, e1, bd_s, bnd_s, lit, nI_add]
    exact g1
theorem th_while (hW : WT T) (hS : WS T.length S) (ht : ∀ s, tk s = true → s < S.length) (hx : ∀ c a b, x = some (c, a, b) → a < T.length ∧ b < T.length) (hg : ThG T S tk x P v1 a b ps pt) {k157 : Int32 → fS → Option fS} {v5 : Int32} {C : List Nat} {lo : Nat} (hC : ∀ s, s ∈ C → tk s = true ∧ s < lo) (hP : P (fun t => t ∈ C ∨ (tk t = true ∧ lo ≤ t))) : ∀ (d i N : Nat) (z : fS), i = lo + d → i ≤ S.length → d < N → XTk T S tk ps pt z → TrS T S x pt (fun t => t ∈ C ∨ (tk t = true ∧ i ≤ t)) z → ¬ P (fun t => t ∈ C ∨ (tk t = true ∧ i ≤ t)) → ∃ s z', lX2_thin_113 cell k157 v1 (nI a) (nI b) v5 (pI lo) N (pI i) z = k157 (nI s) z' ∧ lo ≤ s ∧ s < i ∧ tk s = true ∧ ¬ P (fun t => t ∈ C ∨ (tk t = true ∧ s < t)) ∧ P (fun t => t ∈ C ∨ (tk t = true ∧ s ≤ t)) ∧ HA [] [] z' ∧ XFr pt 18 19 z z' := by
  have hl := hS.1
  intro d
  induction d with
  | zero =>
    intro i N z hi hiS hN hk h hnP
    rw [hi] at hnP
    exact absurd hP hnP
  | succ d ih =>
    intro i N z hi hiS hN hk h hnP
    obtain ⟨N, rfl⟩ : ∃ M, N = M + 1 := ⟨N - 1, by omega⟩
    obtain ⟨s, rfl⟩ : ∃ s, i = s + 1 := ⟨i - 1, by omega⟩
    have p1 : pI (s + 1) = nI s := by rw [pI_s (by omega)]; rfl
    have p2 : nI s + -(nI 1) = pI s := by
      by_cases q : s = 0
      · subst q; rw [z_decA, pI_0]
      · rw [nI_dec (by omega), pI_s (by omega)]
    have p3 : (nI s ≤ pI lo) ↔ False := by
      by_cases q : lo = 0
      · rw [q, pI_0]; exact m1_le (by omega)
      · rw [pI_s (by omega), nI_leI (by omega) (by omega)]
        exact ⟨fun h => by omega, False.elim⟩
    have hX := hk.2.1
    have i1 := isTaken_ok hX (show s < 100 by omega)
    have hsC : s ∉ C := fun hm => by have := (hC s hm).2; omega
    rw [lX2_thin_113.eq_2, p1]
    cases q1 : tk s
    · rw [q1, bI_f] at i1
      have e : (fun t => t ∈ C ∨ (tk t = true ∧ s + 1 ≤ t)) = (fun t => t ∈ C ∨ (tk t = true ∧ s ≤ t)) := by
        funext t
        refine propext ⟨?_, ?_⟩
        · rintro (h | h)
          · exact Or.inl h
          · exact Or.inr ⟨h.1, by omega⟩
        · rintro (h | h)
          · exact Or.inl h
          · rcases Nat.eq_or_lt_of_le h.2 with rfl | h2
            · rw [q1] at h; exact absurd h.1 (by simp)
            · exact Or.inr ⟨h.1, h2⟩
      rw [e] at h hnP
      obtain ⟨s', z', g1, g2, g3, g4⟩ := ih s N z (by omega) (by omega) (by omega) hk h hnP
      refine ⟨s', z', ?_, g2, by omega, g4⟩
      simp (disch := omega) only [p3, if_false, i1, bp_s, lit, litm, if_true, bnd_s, p2]
      exact g1
    · rw [q1, bI_t] at i1
      have hJ : ¬ (s ∈ C ∨ (tk s = true ∧ s + 1 ≤ s)) := by
        rintro (h | h)
        · exact hsC h
        · omega
      obtain ⟨r, z1, e1, e0, e2, e3, e4⟩ := addTo_ok hW hS hx hk h (ht s q1) hJ
      have e : (fun t => (t ∈ C ∨ (tk t = true ∧ s + 1 ≤ t)) ∨ t = s) = (fun t => t ∈ C ∨ (tk t = true ∧ s ≤ t)) := by
        funext t
        refine propext ⟨?_, ?_⟩
        · rintro ((h | h) | rfl)
          · exact Or.inl h
          · exact Or.inr ⟨h.1, by omega⟩
          · exact Or.inr ⟨q1, Nat.le_refl _⟩
        · rintro (h | h)
          · exact Or.inl (Or.inl h)
          · rcases Nat.eq_or_lt_of_le h.2 with rfl | h2
            · exact Or.inr rfl
            · exact Or.inl (Or.inr ⟨h.1, h2⟩)
      rw [e] at e2
      have hk1 := hk.fr e2.1 e4 (Or.inl rfl) (Or.inl rfl)
      have hsub : ∀ t, (t ∈ C ∨ (tk t = true ∧ s ≤ t)) → tk t = true := by
        rintro t (h | h)
        · exact (hC t h).1
        · exact h.1
      have hsub0 : ∀ t, (t ∈ C ∨ (tk t = true ∧ s + 1 ≤ t)) → tk t = true := by
        rintro t (h | h)
        · exact (hC t h).1
        · exact h.1
      have go : ¬ P (fun t => t ∈ C ∨ (tk t = true ∧ s ≤ t)) → ∃ s' z', lX2_thin_113 cell k157 v1 (nI a) (nI b) v5 (pI lo) N (pI s) z1 = k157 (nI s') z' ∧ lo ≤ s' ∧ s' < s + 1 ∧ tk s' = true ∧ ¬ P (fun t => t ∈ C ∨ (tk t = true ∧ s' < t)) ∧ P (fun t => t ∈ C ∨ (tk t = true ∧ s' ≤ t)) ∧ HA [] [] z' ∧ XFr pt 18 19 z z' := by
        intro hn
        obtain ⟨s', z', g1, g2, g3, g4, g5, g6, g7, g8⟩ := ih s N z1 (by omega) (by omega) (by omega) hk1 e2 hn
        exact ⟨s', z', g1, g2, by omega, g4, g5, g6, g7, e4.tr g8⟩
      rcases e0 with rfl | rfl
      · obtain ⟨f1, f2⟩ := e3 rfl
        have hn : ¬ P (fun t => t ∈ C ∨ (tk t = true ∧ s ≤ t)) := by
          rcases f2 with f2 | f2
          · exact absurd (hg.2.2.1 _ hsub0 f2) hnP
          · intro hp
            rw [← e] at hp
            exact hnP (hg.2.2.2 _ s (ht s q1) f1 f2 hp)
        obtain ⟨s', z', g1, g2⟩ := go hn
        refine ⟨s', z', ?_, g2⟩
        simp (disch := omega) only [p3, if_false, i1, bp_s, lit, litm, nI_eq, if_neg, e1, bd_s, if_true, bnd_s, p2]
        exact g1
      · obtain ⟨r2, f1, f2⟩ := hg.1 _ z1 hsub hk1 e2
        rcases f2 with ⟨rfl, f2⟩ | ⟨rfl, f2⟩
        · refine ⟨s, z1, ?_, by omega, by omega, q1, hnP, f2, e2.1, e4⟩
          simp (disch := omega) only [p3, if_false, i1, bp_s, lit, nI_eq, if_neg, e1, bd_s, f1]
        · obtain ⟨s', z', g1, g2⟩ := go f2
          refine ⟨s', z', ?_, g2⟩
          simp (disch := omega) only [p3, if_false, i1, bp_s, lit, litm, nI_eq, if_neg, e1, bd_s, f1, if_true, bnd_s, p2]
          exact g1
end XTH
end
section
section XT2
variable {T : List Tm} {S : List Sy} {tk : Nat → Bool} {x : Option Sy} {z z' : fS} {ps pt : Nat} {P : (Nat → Prop) → Prop} {v1 : Int32} {a b cell : Nat}
noncomputable def thGo (cell : Nat) (rc : Int32 → fS → Option fS) (v1 v2 v3 v5 : Int32) (z : fS) : Option fS :=
  bp (fX4_copyFrom (pcell (z 17 4)) z 28) fun z23 =>
  bp (fX1_clear 18 z23) fun z30 =>
  if v1 = 0 then
    bp (fX4_join (pcell (z30 17 4)) z30 v2 v3) fun z43 =>
    jX2_thin_46 cell rc v1 v2 v3 v5 z43
  else
    jX2_thin_46 cell rc v1 v2 v3 v5 z30
def ThS (T : List Tm) (S : List Sy) (tk : Nat → Bool) (x : Option Sy) (v1 : Int32) (a b ps pt cell : Nat) : Prop := ∀ (rc : Int32 → fS → Option fS) (v5 : Int32) (z : fS), XTk T S tk ps pt z → ∃ z', thGo cell rc v1 (nI a) (nI b) v5 z = jX2_thin_46 cell rc v1 (nI a) (nI b) v5 z' ∧ TrS T S x pt (fun _ => False) z' ∧ XFr pt 18 19 z z'
def ThV (S : List Sy) (tk : Nat → Bool) (P : (Nat → Prop) → Prop) (C : List Nat) (lo : Nat) : Prop := C.Pairwise (· < ·) ∧ (∀ s, s ∈ C → tk s = true ∧ s < lo) ∧ ((lo = 0 ∧ C = []) ∨ ∃ C0, 0 < lo ∧ C = C0 ++ [lo - 1]) ∧ (∀ s, s < lo → tk s = true → (s ∈ C ↔ ¬ P (fun t => (t ∈ C ∧ t < s) ∨ (tk t = true ∧ s < t)))) ∧ P (fun t => t ∈ C ∨ (tk t = true ∧ lo ≤ t)) ∧ lo ≤ S.length
theorem thin_loop (hW : WT T) (hS : WS T.length S) (ht : ∀ s, tk s = true → s < S.length) (hx : ∀ c a b, x = some (c, a, b) → a < T.length ∧ b < T.length) (hg : ThG T S tk x P v1 a b ps pt) (hst : ThS T S tk x v1 a b ps pt cell) (hc : cell = 69 ∨ cell = 71) : ∀ (d N lo : Nat) (C : List Nat) (z : fS), C.length + d = 100 → d < N → XTk T S tk ps pt z → XCr cell C z → HA [] [] z → ThV S tk P C lo → ∃ K z', lX2_thin_8 cell v1 (nI a) (nI b) N (nI C.length) z = some z' ∧ ThI P (TK tk) K ∧ XCr cell K z' ∧ HA [] [] z' ∧ XFr pt cell (cell + 1) z z' := by
  have hl := hS.1
  intro d
  induction d with
  | zero =>
    intro N lo C z hd hN hk hcr hA ⟨c1, c2, c3, c4, c5, c6⟩
    obtain ⟨N, rfl⟩ : ∃ M, N = M + 1 := ⟨N - 1, by omega⟩
    have hlo : C.length ≤ lo := nodup_lt (c1.imp fun h e => by omega) fun s hs => (c2 s hs).2
    refine ⟨C, z, ?_, ⟨c1, fun s hs => (c2 s hs).1, fun s hs => c4 s (by have := ht s hs; omega) hs⟩, hcr, hA, fun _ _ _ _ _ _ _ => rfl⟩
    rw [lX2_thin_8.eq_2]
    simp (disch := omega) only [lit, nI_leI, if_pos]
  | succ d ih =>
    intro N lo C z hd hN hk hcr hA ⟨c1, c2, c3, c4, c5, c6⟩
    have hn := hk.1.num
    obtain ⟨N, rfl⟩ : ∃ M, N = M + 1 := ⟨N - 1, by omega⟩
    have hCn : C.Nodup := c1.imp fun h e => by omega
    obtain ⟨z1, a1, a2, a3⟩ := hst (lX2_thin_8 cell v1 (nI a) (nI b) N) (nI C.length) z hk
    have hk1 := hk.fr a2.1 a3 (Or.inl rfl) (Or.inl rfl)
    have hcr1 : XCr cell C z1 := hcr.fr (a3 cell (by omega) (by omega) (by omega) (by omega) (by omega) (by omega)) (a3 (cell + 1) (by omega) (by omega) (by omega) (by omega) (by omega) (by omega))
    have e0 : (fun _ : Nat => False) = (fun t => t ∈ ([] : List Nat)) := by funext t; simp
    rw [e0] at a2
    obtain ⟨z2, b1, b2, b3⟩ := th_core hW hS hx hc (v1 := v1) (v2 := nI a) (v3 := nI b) (v5 := nI C.length) (C := C) (fun s hs => ht s (c2 s hs).1) hCn (k77 := jX2_thin_77 cell (lX2_thin_8 cell v1 (nI a) (nI b) N) v1 (nI a) (nI b) (nI C.length)) C [] FU z1 rfl (by have := FU_ge; omega) hk1 hcr1 a2
    have hk2 := hk1.fr b2.1 b3 (Or.inl rfl) (Or.inl rfl)
    have hcr2 : XCr cell C z2 := hcr1.fr (b3 cell (by omega) (by omega) (by omega) (by omega) (by omega) (by omega)) (b3 (cell + 1) (by omega) (by omega) (by omega) (by omega) (by omega) (by omega))
    obtain ⟨r, g1, g2⟩ := hg.1 (fun t => t ∈ C) z2 (fun s hs => (c2 s hs).1) hk2 b2
    have pre : lX2_thin_8 cell v1 (nI a) (nI b) (N + 1) (nI C.length) z = jX2_thin_77 cell (lX2_thin_8 cell v1 (nI a) (nI b) N) v1 (nI a) (nI b) (nI C.length) z2 := by
      rw [lX2_thin_8.eq_2]
      rw [if_neg (show ¬ ((100 : Int32) ≤ nI C.length) by simp (disch := omega) only [lit, nI_leI]; omega)]
      refine Eq.trans (show _ = thGo cell (lX2_thin_8 cell v1 (nI a) (nI b) N) v1 (nI a) (nI b) (nI C.length) z from id rfl) ?_
      rw [a1]
      unfold jX2_thin_46
      simp only [lit]
      exact b1
    rw [pre]
    unfold jX2_thin_77
    rw [g1, bp_s]
    rcases g2 with ⟨rfl, g2⟩ | ⟨rfl, g2⟩
    · refine ⟨C, z2, ?_, ⟨c1, fun s hs => (c2 s hs).1, fun s hs => ?_⟩, hcr2, b2.1, (a3.tr b3).up⟩
      · simp (disch := omega) only [lit, nI_eq, if_neg]
      · by_cases q : s < lo
        · exact c4 s q hs
        · refine ⟨fun h => by have := (c2 s h).2; omega, fun h => absurd (hg.2.1 _ _ (fun t ht => Or.inl ⟨ht, by have := (c2 t ht).2; omega⟩) g2) h⟩
    · have hlast : fX1_at cell z2 (nI C.length - nI 1) = some (pI lo) := by
        rcases c3 with ⟨l1, l2⟩ | ⟨C0, l1, l2⟩
        · have e : C.length = 0 := by rw [l2]; rfl
          rw [l1, pI_0, e, z_dec]
          unfold fX1_at
          simp (disch := omega) only [lit, litm, m1_lt0, if_true]
        · have e : C.length = C0.length + 1 := by rw [l2]; simp
          rw [nI_sub (by omega), cat_ok hcr2 (by omega), pI_s l1]
          congr 2
          rw [e, l2]
          exact gD_r
      have hS1 : nI S.length - nI 1 = pI S.length := by
        by_cases q : S.length = 0
        · rw [q, z_dec, pI_0]
        · rw [nI_sub (by omega), pI_s (by omega)]
      have eJ : (fun t => t ∈ C) = (fun t => t ∈ C ∨ (tk t = true ∧ S.length ≤ t)) := by
        funext t
        refine propext ⟨Or.inl, ?_⟩
        rintro (h | h)
        · exact h
        · have := ht t h.1; omega
      have g2 : ¬ P (fun t => t ∈ C) := g2
      rw [eJ] at b2 g2
      obtain ⟨s, z3, w1, w2, w3, w4, w5, w6, w7, w8⟩ := th_while (cell := cell) hW hS ht hx hg (k157 := jX2_thin_157 cell (lX2_thin_8 cell v1 (nI a) (nI b) N) v1 (nI a) (nI b) (nI C.length) (pI lo)) (v5 := nI C.length) c2 c5 (S.length - lo) S.length FU z2 (by omega) (Nat.le_refl _) (by have := FU_ge; omega) hk2 b2 g2
      have hk3 := hk2.fr w7 w8 (Or.inl rfl) (Or.inl rfl)
      have hcr3 : XCr cell C z3 := hcr2.fr (w8 cell (by omega) (by omega) (by omega) (by omega) (by omega) (by omega)) (w8 (cell + 1) (by omega) (by omega) (by omega) (by omega) (by omega) (by omega))
      obtain ⟨z4, d1, d2, d3⟩ := cadd_ok (s := s) hcr3 (by omega)
      have f4 : XFr pt cell (cell + 1) z3 z4 := fun j _ _ _ _ h1 h2 => d3 j h1 h2
      have hA4 : HA [] [] z4 := w7.fr fun j h1 h2 => d3 j (by omega) (by omega)
      have hk4 := hk3.fr hA4 f4 (by omega) (by omega)
      have hni : ∀ t, t ∈ C ++ [s] ↔ t ∈ C ∨ t = s := fun t => by simp
      obtain ⟨K, z', i1, i2, i3, i4, i5⟩ := ih N (s + 1) (C ++ [s]) z4 (by simp; omega) (by omega) hk4 d2 hA4 ⟨List.pairwise_append.mpr ⟨c1, by simp, fun p hp q hq => by
          have := (c2 p hp).2; simp at hq; omega⟩, fun t htm => by
          rcases (hni t).mp htm with h | h
          · exact ⟨(c2 t h).1, by have := (c2 t h).2; omega⟩
          · subst h; exact ⟨w4, by omega⟩, Or.inr ⟨C, by omega, rfl⟩, fun t h1 h2 => by
          have eQ : ∀ s', s' ≤ s → (fun t => (t ∈ C ++ [s] ∧ t < s') ∨ (tk t = true ∧ s' < t)) = (fun t => (t ∈ C ∧ t < s') ∨ (tk t = true ∧ s' < t)) := by
            intro s' hs'
            funext t
            refine propext ⟨?_, ?_⟩
            · rintro (⟨h, h'⟩ | h)
              · rcases (hni t).mp h with h | h
                · exact Or.inl ⟨h, h'⟩
                · omega
              · exact Or.inr h
            · rintro (⟨h, h'⟩ | h)
              · exact Or.inl ⟨(hni t).mpr (Or.inl h), h'⟩
              · exact Or.inr h
          rw [eQ t (by omega)]
          by_cases q1 : t = s
          · subst q1
            refine ⟨fun _ hp => w5 (hg.2.1 _ _ (fun u hu => ?_) hp), fun _ => (hni t).mpr (Or.inr rfl)⟩
            rcases hu with hu | hu
            · exact Or.inl hu.1
            · exact Or.inr hu
          · by_cases q2 : t < lo
            · rw [← c4 t q2 h2, hni t]
              exact ⟨fun h => by
                rcases h with h | h
                · exact h
                · exact absurd h q1, Or.inl⟩
            · refine ⟨fun h => ?_, fun h => absurd (hg.2.1 _ _ (fun u hu => ?_) w6) h⟩
              · rcases (hni t).mp h with h | h
                · have := (c2 t h).2; omega
                · exact absurd h q1
              · rcases hu with hu | hu
                · exact Or.inl ⟨hu, by have := (c2 u hu).2; omega⟩
                · exact Or.inr ⟨hu.1, by omega⟩, by
          refine hg.2.1 _ _ (fun u hu => ?_) w6
          rcases hu with hu | hu
          · exact Or.inl ((hni u).mpr (Or.inl hu))
          · rcases Nat.eq_or_lt_of_le hu.2 with rfl | h2
            · exact Or.inl ((hni _).mpr (Or.inr rfl))
            · exact Or.inr ⟨hu.1, h2⟩, by have := ht s w4; omega⟩
      refine ⟨K, z', ?_, i2, i3, i4, ((a3.tr b3).tr w8).up.tr (f4.tr i5)⟩
      have lenC : (C ++ [s]).length = C.length + 1 := by simp
      rw [lenC] at i1
      have hlt : (pI lo < nI s) ↔ True := by
        by_cases q : lo = 0
        · rw [q, pI_0]; exact m1_lt (by omega)
        · rw [pI_s (by omega), nI_ltI (by omega) (by omega)]
          exact ⟨fun _ => trivial, fun _ => by omega⟩
      simp (disch := omega) only [lit, if_true, ccount_ok hcr2, bp_s, hlast, scount_ok hk2.2.1, hS1, bnd_s]
      rw [w1]
      unfold jX2_thin_157
      simp only [hlt, if_true, d1, bp_s, bnd_s, lit, nI_add]
      exact i1
/-- the class's thinning -/
theorem thin_ok (hW : WT T) (hS : WS T.length S) (ht : ∀ s, tk s = true → s < S.length) (hx : ∀ c a b, x = some (c, a, b) → a < T.length ∧ b < T.length) (hg : ThG T S tk x P v1 a b ps pt) (hst : ThS T S tk x v1 a b ps pt cell) (hc : cell = 69 ∨ cell = 71) (hk : XTk T S tk ps pt z) (hP : P (TK tk)) : ∃ K z', fX2_thin z v1 (nI a) (nI b) cell = some z' ∧ ThI P (TK tk) K ∧ XCr cell K z' ∧ HA [] [] z' ∧ XFr pt cell (cell + 1) z z' := by
  have hn := hk.1.num
  obtain ⟨z1, a1, a2, a3⟩ := cclear_ok z cell
  obtain ⟨ro, hb⟩ := hk.2.2
  have hA1 : HA [] [] z1 := hb.agenda.fr fun j h1 h2 => a3 j (by omega)
  have f1 : XFr pt cell (cell + 1) z z1 := fun j _ _ _ _ h _ => a3 j h
  have hk1 := hk.fr hA1 f1 (by omega) (by omega)
  have e0 : (fun t => t ∈ ([] : List Nat) ∨ (tk t = true ∧ 0 ≤ t)) = TK tk := by funext t; simp [TK]
  obtain ⟨K, z', i1, i2, i3, i4, i5⟩ := thin_loop hW hS ht hx hg hst hc 100 FU 0 [] z1 (by simp) (by have := FU_ge; omega) hk1 a2 hA1 ⟨by simp, by simp, Or.inl ⟨rfl, rfl⟩, fun s h => by omega, by rw [e0]; exact hP, Nat.zero_le _⟩
  refine ⟨K, z', ?_, i2, i3, i4, f1.tr i5⟩
  unfold fX2_thin
  rw [a1, bp_s]
  simp only [lit]
  exact i1
theorem EX_no {J : Nat → Prop} (h : ∀ s, ¬ J s) : EX S J none = (fun _ _ => False) := by
  funext u v
  refine propext ⟨?_, False.elim⟩
  rintro (⟨s, _, h1, _⟩ | h)
  · exact h s h1
  · cases h
theorem thS_pre (hk : XTk T S tk ps pt z) : ∃ z1 z2, fX4_copyFrom (pcell (z 17 4)) z 28 = some z1 ∧ fX1_clear 18 z1 = some z2 ∧ Pq ps pt z2 ∧ HA [] [] z2 ∧ XCr 18 [] z2 ∧ (∃ ro, JI T (fun _ _ => False) pt T.length ro [] [] z2) ∧ XFr pt 18 19 z z2 := by
  obtain ⟨hq, hX, ro, hb⟩ := hk
  have hn := hq.num
  obtain ⟨z1, a1, a2, a3⟩ := copyFrom_ok hq.isT (Or.inl rfl) (by omega) hb
  obtain ⟨z2, b1, b2, b3⟩ := cclear_ok z1 18
  rw [← hq.2.1] at a1
  refine ⟨z1, z2, a1, b1, hq.fr (by rw [b3 17 (by omega), a3 17 (by omega)]), a2.agenda.fr fun j h1 h2 => b3 j (by omega), b2, ⟨ro, a2.fr fun j hj => b3 j (by omega)⟩, fun j h1 _ _ h2 _ _ => by rw [b3 j h1, a3 j h2]⟩
theorem thS_one : ThS T S tk none (nI 1) a b ps pt cell := by
  intro rc v5 z hk
  obtain ⟨z1, z2, a1, a2, a3, a4, a5, ⟨ro, a6⟩, a7⟩ := thS_pre hk
  refine ⟨z2, ?_, ⟨a4, ⟨[], a5, by simp, fun s => by simp⟩, Or.inl ⟨ro, ?_⟩⟩, a7⟩
  · unfold thGo
    rw [a1, bp_s, a2, bp_s]
    simp (disch := omega) only [lit, nI_eq, if_neg]
  · rw [EX_no (fun s h => h)]; exact a6
theorem thS_clash (hW : WT T) (ha : a < T.length) (hb : b < T.length) : ThS T S tk (some (true, a, b)) (nI 0) a b ps pt cell := by
  intro rc v5 z hk
  obtain ⟨z1, z2, a1, a2, a3, a4, a5, ⟨ro, a6⟩, a7⟩ := thS_pre hk
  have hn := a3.num
  obtain ⟨z3, b1, b2, b3⟩ := join_ok a3.isT (Nat.le_refl _) hW a6 ha hb
  have e : (fun u v => (fun _ _ => False) u v ∨ (u = a ∧ v = b)) = EX S (fun _ => False) (some (true, a, b)) := by
    rw [← EX_some, EX_no (fun s h => h)]
  rw [e] at b2
  refine ⟨z3, ?_, ⟨b2.1, ⟨[], a5.fr (b3 18 (by omega) (by omega)) (b3 19 (by omega) (by omega)), by simp, fun s => by simp⟩, b2.2⟩, fun j h1 h2 h3 h4 h5 h6 => (b3 j h3 h4).trans (a7 j h1 h2 h3 h4 h5 h6)⟩
  unfold thGo
  rw [a1, bp_s, a2, bp_s]
  simp (disch := omega) only [lit, if_true, a3.2.1, b1, bp_s]
theorem One.step {J : Nat → Prop} {s u v : Nat} (ho : One T T.length (EX S J x) (sa S s) (sb S s)) (h : One T T.length (EX S (fun t => J t ∨ t = s) x) u v) : One T T.length (EX S J x) u v := by
  refine h.le fun p q e => ?_
  rcases e with ⟨t, t1, t2, t3, rfl, rfl⟩ | e
  · rcases t2 with t2 | rfl
    · exact One.of (Or.inl ⟨t, t1, t2, t3, rfl, rfl⟩)
    · exact ho
  · exact One.of (Or.inr e)
theorem thG_one (hW : WT T) (hcon : ¬ Cl T T.length (EX S (TK tk) none) (UX S (TK tk) none)) (ha : a < T.length) (hb : b < T.length) : ThG T S tk none (fun J => One T T.length (EX S J none) a b) (nI 1) a b ps pt := by
  have hnc : ∀ J : Nat → Prop, (∀ s, J s → tk s = true) → ¬ Nc T (EX S J none) := by
    rintro J hJ ⟨u, v, u1, u2, u3, u4, u5, u6⟩
    exact hcon (Or.inr ⟨u, v, u1, u2, u3, u4, u5, u6.mono fun _ _ e => EX_mono hJ e⟩)
  refine ⟨fun J z hJ hk h => ?_, fun J J' h hp => hp.mono fun _ _ e => EX_mono h e, fun J hJ h => absurd h (hnc J hJ), fun J s _ _ ho hp => One.step ho hp⟩
  obtain ⟨hA, _, h3⟩ := h
  rcases h3 with ⟨ro, h3⟩ | ⟨_, h3⟩
  · obtain ⟨r, e1, e2⟩ := isOne_ok hW h3 ha hb
    refine ⟨r, ?_, e2⟩
    have hb : isb (nI r) = true := by rcases e2 with ⟨rfl, _⟩ | ⟨rfl, _⟩; exact isb_1; exact isb_0
    unfold fX2_isReached
    simp (disch := omega) only [lit, nI_eq, if_neg, hk.1.2.1, e1, bp_s, hb, gd_t]
  · exact absurd h3 (hnc J hJ)
theorem reach_loop (hW : WT T) (hS : WS T.length S) {E : Nat → Nat → Prop} {ro : Nat → Nat} (hk : XTk T S tk ps pt z) (h : JI T E pt T.length ro [] [] z) {L : List Nat} (hL : XCr 18 L z) (hLs : ∀ s, s ∈ L → s < S.length) : ∀ (d i N : Nat), i + d = L.length → d < N → ∃ r, lX2_isReached_29 z N (nI i) = some (nI r) ∧ ((r = 1 ∧ ∃ s, s ∈ L ∧ One T T.length E (sa S s) (sb S s)) ∨ (r = 0 ∧ ∀ j, i ≤ j → j < L.length → ¬ One T T.length E (sa S (L.getD j 0)) (sb S (L.getD j 0)))) := by
  have hl := hS.1
  have hLl := hL.2.1
  intro d
  induction d with
  | zero =>
    intro i N hi hN
    obtain ⟨N, rfl⟩ : ∃ M, N = M + 1 := ⟨N - 1, by omega⟩
    refine ⟨0, ?_, Or.inr ⟨rfl, fun j h1 h2 => by omega⟩⟩
    rw [lX2_isReached_29.eq_2]
    simp (disch := omega) only [ccount_ok hL, bp_s, nI_leI, if_pos, lit]
  | succ d ih =>
    intro i N hi hN
    obtain ⟨N, rfl⟩ : ∃ M, N = M + 1 := ⟨N - 1, by omega⟩
    rw [lX2_isReached_29.eq_2]
    obtain ⟨r, e1, e2⟩ := ih (i + 1) N (by omega) (by omega)
    have hm : L.getD i 0 ∈ L := gD_mem (by omega)
    have hs := hLs _ hm
    have i0 := cat_ok hL (show i < L.length by omega)
    have i3 := left_ok hk.2.1 hl hs
    have i4 := right_ok hk.2.1 hl hs
    obtain ⟨r0, f1, f2⟩ := isOne_ok hW h (hS.2 _ hs).1 (hS.2 _ hs).2
    rcases f2 with ⟨rfl, f2⟩ | ⟨rfl, f2⟩
    · refine ⟨1, ?_, Or.inl ⟨rfl, _, hm, f2⟩⟩
      simp (disch := omega) only [ccount_ok hL, bp_s, nI_leI, if_neg, i0, i3, i4, hk.1.2.1, f1, lit, nI_eq]
    · refine ⟨r, ?_, ?_⟩
      · simp (disch := omega) only [ccount_ok hL, bp_s, nI_leI, if_neg, i0, i3, i4, hk.1.2.1, f1, lit, if_true, bnd_s, nI_add]
        exact e1
      · rcases e2 with e2 | ⟨e2, e3⟩
        · exact Or.inl e2
        · refine Or.inr ⟨e2, fun j h1 h2 => ?_⟩
          rcases Nat.eq_or_lt_of_le h1 with rfl | h1
          · exact f2
          · exact e3 j h1 h2
theorem mem_gD {L : List Nat} {s : Nat} (h : s ∈ L) : ∃ j, j < L.length ∧ L.getD j 0 = s := by
  obtain ⟨j, hj, e⟩ := List.mem_iff_getElem.mp h
  exact ⟨j, hj, by rw [List.getD_eq_getElem?_getD, List.getElem?_eq_getElem hj]; exact e⟩
theorem thG_clash (hW : WT T) (hS : WS T.length S) (ht : ∀ s, tk s = true → s < S.length) : ThG T S tk (some (true, a, b)) (fun J => Cl T T.length (EX S J (some (true, a, b))) (UX S J (some (true, a, b)))) (nI 0) a b ps pt := by
  refine ⟨fun J z hJ hk h => ?_, fun J J' h hp => hp.mono (fun _ _ e => EX_mono h e) (fun _ _ e => UX_mono h e), fun J hJ h => Or.inr h, fun J s _ hs ho hp => ?_⟩
  · obtain ⟨hA, ⟨L, l1, l2, l3⟩, h3⟩ := h
    unfold fX2_isReached
    rcases h3 with ⟨ro, h3⟩ | ⟨h3, h4⟩
    · obtain ⟨r, e1, e2⟩ := reach_loop hW hS hk h3 l1 (fun s hs => ((l3 s).mp hs).1) L.length 0 FU (by omega) (by have := FU_ge; have := l1.2.1; omega)
      refine ⟨r, ?_, ?_⟩
      · simp (disch := omega) only [lit, if_true, hk.1.2.1, isTorn_ok h3, bp_s]
        exact e1
      · rcases e2 with ⟨e2, s, s1, s2⟩ | ⟨e2, e3⟩
        · have := (l3 s).mp s1
          exact Or.inl ⟨e2, Or.inl ⟨_, _, Or.inl ⟨s, this.1, this.2.1, this.2.2, rfl, rfl⟩, s2⟩⟩
        · refine Or.inr ⟨e2, ?_⟩
          rintro (⟨c, d, (⟨s, s1, s2, s3, rfl, rfl⟩ | e), ho⟩ | ⟨u, v, u1, u2, u3, u4, u5, u6⟩)
          · obtain ⟨j, j1, j2⟩ := mem_gD ((l3 s).mpr ⟨s1, s2, s3⟩)
            have := e3 j (Nat.zero_le _) j1
            rw [j2] at this
            exact this ho
          · cases e
          · exact u3 (h3.nums hW u1 u2 u4 u5 u6)
    · refine ⟨1, ?_, Or.inl ⟨rfl, Or.inr h4⟩⟩
      simp (disch := omega) only [lit, if_true, hk.1.2.1, isTorn_1 h3, bp_s, nI_eq, if_neg]
  · rcases hp with ⟨c, d, hU, ho'⟩ | ⟨u, v, u1, u2, u3, u4, u5, u6⟩
    · rw [UX_skip hs] at hU
      exact Or.inl ⟨c, d, hU, One.step ho ho'⟩
    · exact Or.inr ⟨u, v, u1, u2, u3, u4, u5, One.step ho u6⟩
end XT2
end
section
/-! the table of terms grows -/
def gT (T : List Tm) (t : Nat) : Tm := T.getD t (0, 0, [])
def AgT (T T' : List Tm) (k : Nat) : Prop := ∀ t, t < k → gT T' t = gT T t
section GROW
variable {T T' : List Tm} {k : Nat} {E : Nat → Nat → Prop} {R : Nat → Nat → Prop} {a b t : Nat}
theorem AgT.kd (h : AgT T T' k) (ht : t < k) : kd T' t = kd T t := congrArg (fun x : Tm => x.1) (h t ht)
theorem AgT.sh (h : AgT T T' k) (ht : t < k) : sh T' t = sh T t := congrArg (fun x : Tm => x.2.1) (h t ht)
theorem AgT.pts (h : AgT T T' k) (ht : t < k) : pts T' t = pts T t := congrArg (fun x : Tm => x.2.2) (h t ht)
theorem AgT.sz (h : AgT T T' k) (ht : t < k) : sz T' t = sz T t := congrArg List.length (h.pts ht)
theorem AgT.pt (h : AgT T T' k) (ht : t < k) (i : Nat) : pt T' t i = pt T t i := congrArg (fun l : List Nat => l.getD i 0) (h.pts ht)
theorem AgT.symm (h : AgT T T' k) : AgT T' T k := fun t ht => (h t ht).symm
theorem AgT.byP (h : AgT T T' k) (ha : a < k) (hb : b < k) (hp : ByP T R a b) : ByP T' R a b := by
  unfold ByP at hp ⊢
  rw [h.sz ha, h.kd ha, h.kd hb, h.sh ha, h.sh hb, h.sz hb, h.pt ha 0, h.pt ha 1, h.pt hb 0, h.pt hb 1]
  obtain ⟨h0, h1, h2, h3, h4⟩ := hp
  refine ⟨h0, h1, h2, h3, ?_⟩
  rcases h4 with h4 | h4
  · exact Or.inl fun i hi => by rw [h.pt ha i, h.pt hb i]; exact h4 i hi
  · exact Or.inr h4
theorem AgT.isC (h : AgT T T' k) (hc : IsC T k E R) : IsC T' k E R := by
  obtain ⟨c1, c2, c3, c4, c5, c6⟩ := hc
  refine ⟨c1, c2, c3, c4, fun a b ha hb hp => c5 a b ha hb (h.symm.byP ha hb hp), fun a b ha hb ka kb hr => ?_⟩
  rw [h.kd ha] at ka
  rw [h.kd hb] at kb
  rw [h.pt ha 0, h.pt ha 1, h.pt hb 0, h.pt hb 1]
  exact c6 a b ha hb ka kb hr
theorem AgT.one (h : AgT T T' k) (ho : One T k E a b) : One T' k E a b := fun R hR => ho R (h.symm.isC hR)
theorem JI.growT {pb : Nat} {ro : Nat → Nat} {z z' : fS} (hg : AgT T T' k) (h : JI T E pb k ro [] [] z) (hW : WT T) (hk : k ≤ T.length) (hT : HT T' z') (hPl : HPl T' z') (e : ∀ j, 23 ≤ j → z' j = z j) (hp : isPb pb) : JI T' E pb k ro [] [] z' := by
  have hpn := hp.ne
  obtain ⟨⟨_, _, hS, hN0, hR, hH, hA⟩, s1, s2, s3, s4, s5, s6, s7, s8⟩ := h
  have hN1 : PN T' pb k ro z := by
    refine ⟨hN0.1, fun r hr hrr => ?_⟩
    rcases hN0.2 r hr hrr with ⟨q1, q2⟩ | ⟨u, q1, q2, q3, q4, q5⟩
    · exact Or.inl ⟨q1, fun t ht h => by rw [hg.kd ht]; exact q2 t ht h⟩
    · exact Or.inr ⟨u, q1, q2, q3, by rw [hg.kd q2]; exact q4, fun t ht h k => q5 t ht h (by rw [hg.kd ht] at k; exact k)⟩
  have hR1 : RwI T' pb k ro z := by
    intro r hr hrr
    rcases hR r hr hrr with ⟨q1, q2⟩ | ⟨x, q1, q2, q3, q4⟩
    · exact Or.inl ⟨q1, fun t ht h => by rw [hg.kd ht]; exact q2 t ht h⟩
    · exact Or.inr ⟨x, q1, q2, q3, by rw [hg.kd q2]; exact q4⟩
  refine ⟨⟨hT, hPl, hS.fr fun j h1 h2 => e j (by omega), hN1.fr fun j h1 h2 => e j (by omega), hR1.fr (e _ (by omega)), hH.fr fun j h1 h2 => e j (by omega), hA.fr fun j h1 h2 => e j (by omega)⟩, fun a b ha hb h => hg.one (s1 a b ha hb h), fun q hq => by simp at hq, fun u hu => by simp at hu, s4, ?_, ?_, ?_, ?_⟩
  · rw [e (pb + 6) (by omega)]
    intro r x h1 h2 h3 h4 y h5 h6 h7
    rw [hg.kd h5] at h7
    rw [hg.pt h3 0, hg.pt h3 1, hg.pt h5 0, hg.pt h5 1]
    exact s5 r x h1 h2 h3 h4 y h5 h6 h7
  · rw [e (pb + 9) (by omega)]
    intro u v hu hv h1 h2 h3 h4 h5
    exact s6 u v hu hv h1 h2 h3 h4 (hg.symm.byP hu hv h5)
  · rw [e (pb + 9) (by omega)]
    intro t ht h0 h1 h2
    rw [hg.sz ht] at h0
    obtain ⟨u, u1, u2, u3, u4⟩ := s7 t ht h0 h1 h2
    exact ⟨u, u1, hg.byP ht u1 u2, u3, u4⟩
  · rw [e (pb + 9) (by omega)]
    intro u hu h1 h2
    rw [s8 u hu h1 h2]
    have hr : ∀ i, rp T' ro u i = rp T ro u i := fun i => by
      unfold rp
      rw [hg.sz hu, hg.pt hu i]
    unfold sg
    rw [hr 0, hr 1, hr 2, hg.kd hu, hg.sh hu]
end GROW
/-! the class's tables of terms: chains, places, holes -/
def pe (l : List Nat) (i : Nat) : Int32 := if i < l.length then nI (l.getD i 0) else -1
def hsT (tm : Tm) : Int32 := hsh tm.1 tm.2.1 (pe tm.2.2 0) (pe tm.2.2 1) (pe tm.2.2 2)
def HC (T : List Tm) (z : fS) : Prop := ∀ s, s < 128 → ∃ l, Lst (z 8) (z 7 s) l ∧ l.Pairwise (· > ·) ∧ ∀ t, t ∈ l ↔ t < T.length ∧ hsT (gT T t) = nI s
def HP (T : List Tm) (z : fS) : Prop := ∀ t, t < T.length → ∃ l, Lst (z 10) (z 9 t) l ∧ l.Pairwise (· > ·) ∧ ∀ p, p ∈ l ↔ p / 3 < T.length ∧ p % 3 < sz T (p / 3) ∧ pt T (p / 3) (p % 3) = t
def isHo (tm : Tm) (h : Nat) : Prop := tm.1 = nI 0 ∧ tm.2.1 = nI (90 + h) ∧ h < 3
/-- the bits of the holes that stand in a term -/
def hbit (tm : Tm) : Nat := if tm.1 = nI 0 ∧ tm.2.1 = nI 90 then 1 else if tm.1 = nI 0 ∧ tm.2.1 = nI 91 then 2 else if tm.1 = nI 0 ∧ tm.2.1 = nI 92 then 4 else 0
def orl (H : Nat → Nat) : List Nat → Nat → Nat
  | [], m => m
  | p :: l, m => orl H l (m ||| H p)
def IsH (T : List Tm) (H : Nat → Nat) : Prop := ∀ t, t < T.length → H t = orl H (pts T t) (hbit (gT T t)) ∧ H t < 8
def HB (T : List Tm) (H : Nat → Nat) (z : fS) : Prop := ∀ t, t < T.length → z 6 t = nI (H t)
def Uq (T : List Tm) : Prop := ∀ t u, t < T.length → u < T.length → gT T t = gT T u → t = u
def OkT (n : Nat) (tm : Tm) : Prop := tm.2.2.length ≤ 3 ∧ (∀ p, p ∈ tm.2.2 → p < n) ∧ (tm.1 = nI 3 → tm.2.2.length = 2) ∧ (tm.1 = nI 4 → tm.2.2.length = 2) ∧ (tm.1 = nI 1 → tm.2.2.length = 0) ∧ (tm.1 = nI 0 → tm.2.2.length = 0)
def HX (T : List Tm) (z : fS) : Prop := WT T ∧ Uq T ∧ HT T z ∧ HP T z ∧ HC T z ∧ ∃ H, IsH T H ∧ HB T H z
theorem HP.pl {T : List Tm} {z : fS} (hW : WT T) (h : HP T z) : HPl T z := by
  intro t ht
  obtain ⟨l, l1, l2, l3⟩ := h t ht
  refine ⟨l, l1, nodup_lt (l2.imp fun h e => by omega) fun p hp => ?_, l3⟩
  have := ((l3 p).mp hp).1
  have := hW.1
  omega
section FIND
variable {T : List Tm} {z z' : fS} {tm : Tm}
theorem HX.fr (h : HX T z) (e : ∀ j, j < 11 → z' j = z j) : HX T z' := by
  obtain ⟨h1, h2, h3, h4, h5, H, h6, h7⟩ := h
  refine ⟨h1, h2, h3.fr e, ?_, ?_, H, h6, ?_⟩
  · unfold HP; rw [e 9 (by omega), e 10 (by omega)]; exact h4
  · unfold HC; rw [e 7 (by omega), e 8 (by omega)]; exact h5
  · unfold HB; rw [e 6 (by omega)]; exact h7
theorem gT_l {T R : List Tm} {t : Nat} (h : t < T.length) : gT (T ++ R) t = gT T t := gD_l h
theorem gT_r {T : List Tm} {tm : Tm} : gT (T ++ [tm]) T.length = tm := gD_r
theorem AgT.app (T R : List Tm) {k : Nat} (h : k ≤ T.length) : AgT T (T ++ R) k := fun t ht => gT_l (by omega)
theorem WT.ok (h : WT T) {t : Nat} (ht : t < T.length) : OkT t (gT T t) := by
  obtain ⟨h1, h2, h3, h4, h5, h6⟩ := h.2 t ht
  refine ⟨h1, fun p hp => ?_, h3, h4, h5, h6⟩
  obtain ⟨j, j1, j2⟩ := mem_gD hp
  rw [← j2]
  exact h2 j j1
theorem WT.add (h : WT T) (hl : T.length < 120) (ho : OkT T.length tm) : WT (T ++ [tm]) := by
  refine ⟨by simp; omega, fun t ht => ?_⟩
  by_cases q : t < T.length
  · have hg := AgT.app T [tm] (Nat.le_refl _)
    have := h.2 t q
    rw [hg.kd q, hg.sz q]
    exact ⟨this.1, fun i hi => by rw [hg.pt q i]; exact this.2.1 i hi, this.2.2⟩
  · have e : t = T.length := by simp at ht; omega
    subst e
    have e1 : kd (T ++ [tm]) T.length = tm.1 := congrArg (fun x : Tm => x.1) (gT_r (T := T) (tm := tm))
    have e2 : pts (T ++ [tm]) T.length = tm.2.2 := congrArg (fun x : Tm => x.2.2) (gT_r (T := T) (tm := tm))
    have e3 : sz (T ++ [tm]) T.length = tm.2.2.length := congrArg List.length e2
    rw [e1, e3]
    refine ⟨ho.1, fun i hi => ?_, ho.2.2⟩
    show (pts (T ++ [tm]) T.length).getD i 0 < _
    rw [e2]
    exact ho.2.1 _ (gD_mem hi)
theorem pe_parts (hT : HT T z) {t i : Nat} (ht : t < T.length) (hi : i < 3) : z 5 (3 * t + i) = pe (pts T t) i := (hT.2 t ht).2.2.2 i hi
/-- parts told by three numbers, -1 for none -/
theorem pe_inj {l m : List Nat} (hl : l.length ≤ 3) (hm : m.length ≤ 3) (h1 : ∀ p, p ∈ l → p < 120) (h2 : ∀ p, p ∈ m → p < 120) (e : ∀ i, i < 3 → pe l i = pe m i) : l = m := by
  have step : ∀ i, i < 3 → (i < l.length ↔ i < m.length) ∧ (i < l.length → l.getD i 0 = m.getD i 0) := by
    intro i hi
    have := e i hi
    unfold pe at this
    by_cases q1 : i < l.length
    · have g1 := h1 _ (gD_mem q1)
      by_cases q2 : i < m.length
      · have g2 := h2 _ (gD_mem q2)
        rw [if_pos q1, if_pos q2, nI_eq (by omega) (by omega)] at this
        exact ⟨⟨fun _ => q2, fun _ => q1⟩, fun _ => this⟩
      · rw [if_pos q1, if_neg q2] at this
        exact absurd this (nI_m1 (by omega))
    · by_cases q2 : i < m.length
      · have g2 := h2 _ (gD_mem q2)
        rw [if_neg q1, if_pos q2] at this
        exact absurd this.symm (nI_m1 (by omega))
      · exact ⟨⟨fun h => absurd h q1, fun h => absurd h q2⟩, fun h => absurd h q1⟩
  have s0 := step 0 (by omega)
  have s1 := step 1 (by omega)
  have s2 := step 2 (by omega)
  have el : l.length = m.length := by
    have := s0.1; have := s1.1; have := s2.1
    omega
  refine List.ext_getElem el fun i g1 g2 => ?_
  have := (step i (by omega)).2 g1
  rw [List.getD_eq_getElem?_getD, List.getD_eq_getElem?_getD, List.getElem?_eq_getElem g1, List.getElem?_eq_getElem g2] at this
  exact this
theorem find_loop (hT : HT T z) (hW : WT T) (ho : OkT 120 tm) : ∀ (l : List Nat) (h : Int32) (s N : Nat), Lst (z 8) h l → (∀ t, t ∈ l → t < T.length) → s + l.length ≤ 120 → l.length < N → (∃ t, t ∈ l ∧ gT T t = tm ∧ lX7_find_20 z tm.1 tm.2.1 (pe tm.2.2 0) (pe tm.2.2 1) (pe tm.2.2 2) N h (nI s) = some (nI t)) ∨ ((∀ t, t ∈ l → gT T t ≠ tm) ∧ lX7_find_20 z tm.1 tm.2.1 (pe tm.2.2 0) (pe tm.2.2 1) (pe tm.2.2 2) N h (nI s) = some (-(nI 1))) := by
  have hT1 := hW.1
  intro l
  induction l with
  | nil =>
    intro h s N hl hlt hs hN
    obtain ⟨N, rfl⟩ : ∃ M, N = M + 1 := ⟨N - 1, by omega⟩
    have hh : h = -1 := hl
    refine Or.inr ⟨fun t ht => by simp at ht, ?_⟩
    rw [lX7_find_20.eq_2, hh]
    simp only [litm, if_true, ite_self]
  | cons t l ih =>
    intro h s N hl hlt hs hN
    obtain ⟨N, rfl⟩ : ∃ M, N = M + 1 := ⟨N - 1, by omega⟩
    obtain ⟨hh, hl2⟩ := hl
    have ht := hlt t List.mem_cons_self
    obtain ⟨t2, t3, t4, _⟩ := hT.2 t ht
    have p0 := pe_parts hT ht (i := 0) (by omega)
    have p1 := pe_parts hT ht (i := 1) (by omega)
    have p2 := pe_parts hT ht (i := 2) (by omega)
    rw [Nat.add_zero] at p0
    have wok := hW.ok ht
    have hln : (t :: l).length = l.length + 1 := rfl
    have hs : s + (l.length + 1) ≤ 120 := hs
    have key : gT T t = tm ↔ (kd T t = tm.1 ∧ sh T t = tm.2.1 ∧ pe (pts T t) 0 = pe tm.2.2 0 ∧ pe (pts T t) 1 = pe tm.2.2 1 ∧ pe (pts T t) 2 = pe tm.2.2 2) := by
      constructor
      · intro e
        have e1 : kd T t = tm.1 := congrArg (fun x : Tm => x.1) e
        have e2 : sh T t = tm.2.1 := congrArg (fun x : Tm => x.2.1) e
        have e3 : pts T t = tm.2.2 := congrArg (fun x : Tm => x.2.2) e
        rw [e1, e2, e3]
        exact ⟨rfl, rfl, rfl, rfl, rfl⟩
      · rintro ⟨e1, e2, e3, e4, e5⟩
        have : pts T t = tm.2.2 := pe_inj wok.1 ho.1 (fun p hp => by have := wok.2.1 p hp; omega) ho.2.1 fun i hi => by
          rcases (show i = 0 ∨ i = 1 ∨ i = 2 by omega) with rfl | rfl | rfl
          · exact e3
          · exact e4
          · exact e5
        exact Prod.ext e1 (Prod.ext e2 this)
    have nx : (∃ t', t' ∈ t :: l ∧ gT T t' = tm ∧ lX7_find_20 z tm.1 tm.2.1 (pe tm.2.2 0) (pe tm.2.2 1) (pe tm.2.2 2) N (z 8 t) (nI (s + 1)) = some (nI t')) ∨ ((∀ t', t' ∈ l → gT T t' ≠ tm) ∧ lX7_find_20 z tm.1 tm.2.1 (pe tm.2.2 0) (pe tm.2.2 1) (pe tm.2.2 2) N (z 8 t) (nI (s + 1)) = some (-(nI 1))) := by
      rcases ih (z 8 t) (s + 1) N hl2 (fun t ht => hlt t (List.mem_cons_of_mem _ ht)) (by omega) (by omega) with ⟨u, u1, u2, u3⟩ | h
      · exact Or.inl ⟨u, List.mem_cons_of_mem _ u1, u2, u3⟩
      · exact Or.inr h
    have no : gT T t ≠ tm → ((∃ t', t' ∈ t :: l ∧ gT T t' = tm ∧ lX7_find_20 z tm.1 tm.2.1 (pe tm.2.2 0) (pe tm.2.2 1) (pe tm.2.2 2) N (z 8 t) (nI (s + 1)) = some (nI t')) ∨ ((∀ t', t' ∈ t :: l → gT T t' ≠ tm) ∧ lX7_find_20 z tm.1 tm.2.1 (pe tm.2.2 0) (pe tm.2.2 1) (pe tm.2.2 2) N (z 8 t) (nI (s + 1)) = some (-(nI 1)))) := by
      intro hne
      rcases nx with h | ⟨h1, h2⟩
      · exact Or.inl h
      · refine Or.inr ⟨fun t' ht' => ?_, h2⟩
        rcases List.mem_cons.mp ht' with rfl | ht'
        · exact hne
        · exact h1 t' ht'
    rw [lX7_find_20.eq_2, hh]
    simp (disch := omega) only [lit, litm, nI_leI, if_neg, nI_m1n, if_false, bnd_s, inb_t, gd_t, nI_mul, nI_add, rd_nI, t2, t3, p0, p1, p2]
    by_cases q1 : kd T t = tm.1
    · rw [if_pos q1]
      by_cases q2 : sh T t = tm.2.1
      · rw [if_pos q2]
        by_cases q3 : pe (pts T t) 0 = pe tm.2.2 0
        · rw [if_pos q3]
          by_cases q4 : pe (pts T t) 1 = pe tm.2.2 1
          · rw [if_pos q4]
            by_cases q5 : pe (pts T t) 2 = pe tm.2.2 2
            · rw [if_pos q5]
              exact Or.inl ⟨t, List.mem_cons_self, key.mpr ⟨q1, q2, q3, q4, q5⟩, rfl⟩
            · rw [if_neg q5]
              exact no fun e => q5 (key.mp e).2.2.2.2
          · rw [if_neg q4]
            exact no fun e => q4 (key.mp e).2.2.2.1
        · rw [if_neg q3]
          exact no fun e => q3 (key.mp e).2.2.1
      · rw [if_neg q2]
        exact no fun e => q2 (key.mp e).2.1
    · rw [if_neg q1]
      exact no fun e => q1 (key.mp e).1
theorem find_ok (h : HX T z) (ho : OkT 120 tm) : (∃ t, t < T.length ∧ gT T t = tm ∧ fX7_find z tm.1 tm.2.1 (pe tm.2.2 0) (pe tm.2.2 1) (pe tm.2.2 2) = some (nI t)) ∨ ((∀ t, t < T.length → gT T t ≠ tm) ∧ fX7_find z tm.1 tm.2.1 (pe tm.2.2 0) (pe tm.2.2 1) (pe tm.2.2 2) = some (-(nI 1))) := by
  obtain ⟨hW, hU, hT, hP, hC, _⟩ := h
  obtain ⟨s, s1, s2⟩ := hsh_lt tm.1 tm.2.1 (pe tm.2.2 0) (pe tm.2.2 1) (pe tm.2.2 2)
  obtain ⟨l, l1, l2, l3⟩ := hC s s1
  have hT1 := hW.1
  have hlen : l.length ≤ 120 := nodup_lt (l2.imp fun h e => by omega) fun t ht => by have := ((l3 t).mp ht).1; omega
  unfold fX7_find
  rw [slotFor_ok, bp_s, s2]
  simp (disch := omega) only [inb_t, gd_t, rd_nI, bnd_s, lit]
  rcases find_loop hT hW ho l (z 7 s) 0 FU l1 (fun t ht => ((l3 t).mp ht).1) (by omega) (by have := FU_ge; omega) with ⟨t, t1, t2, t3⟩ | ⟨t1, t2⟩
  · exact Or.inl ⟨t, ((l3 t).mp t1).1, t2, t3⟩
  · refine Or.inr ⟨fun t ht e => t1 t ((l3 t).mpr ⟨ht, ?_⟩) e, t2⟩
    rw [e]; exact s2
end FIND
end
section
/-! a term is made -/
section MAKE
variable {T : List Tm} {z z' : fS} {tm : Tm} {H : Nat → Nat}
noncomputable def mkT (T : List Tm) (tm : Tm) : Option (Nat × List Tm) := @dite _ (∃ t, t < T.length ∧ gT T t = tm) (Classical.propDecidable _) (fun h => some (Classical.choose h, T)) (fun _ => if T.length < 120 then some (T.length, T ++ [tm]) else none)
theorem mkT_old (hU : Uq T) {t : Nat} (ht : t < T.length) (e : gT T t = tm) : mkT T tm = some (t, T) := by
  have h : ∃ t, t < T.length ∧ gT T t = tm := ⟨t, ht, e⟩
  unfold mkT
  rw [dif_pos h]
  have := Classical.choose_spec h
  rw [hU _ t this.1 ht (this.2.trans e.symm)]
theorem mkT_new (hn : ∀ t, t < T.length → gT T t ≠ tm) (hl : T.length < 120) : mkT T tm = some (T.length, T ++ [tm]) := by
  unfold mkT
  rw [dif_neg (fun ⟨t, h1, h2⟩ => hn t h1 h2), if_pos hl]
theorem mkT_full (hn : ∀ t, t < T.length → gT T t ≠ tm) (hl : ¬ T.length < 120) : mkT T tm = none := by
  unfold mkT
  rw [dif_neg (fun ⟨t, h1, h2⟩ => hn t h1 h2), if_neg hl]
theorem hole_cases {x : Int32} (h1 : ¬ x < nI 90) (h2 : ¬ nI 93 ≤ x) : x = nI 90 ∨ x = nI 91 ∨ x = nI 92 := by
  rw [Int32.lt_iff_toInt_lt, nI_toInt (by omega)] at h1
  rw [Int32.le_iff_toInt_le, nI_toInt (by omega)] at h2
  have h3 : x.toInt = 90 ∨ x.toInt = 91 ∨ x.toInt = 92 := by omega
  rcases h3 with h3 | h3 | h3
  · exact Or.inl (Int32.toInt_inj.mp (by rw [h3, nI_toInt (by omega)]; rfl))
  · exact Or.inr (Or.inl (Int32.toInt_inj.mp (by rw [h3, nI_toInt (by omega)]; rfl)))
  · exact Or.inr (Or.inr (Int32.toInt_inj.mp (by rw [h3, nI_toInt (by omega)]; rfl)))
def hoB (tm : Tm) : Bool := decide (hbit tm ≠ 0)
theorem hbit_cases (tm : Tm) : hbit tm = 0 ∨ (tm.1 = nI 0 ∧ ((tm.2.1 = nI 90 ∧ hbit tm = 1) ∨ (tm.2.1 = nI 91 ∧ hbit tm = 2) ∨ (tm.2.1 = nI 92 ∧ hbit tm = 4))) := by
  unfold hbit
  by_cases q1 : tm.1 = nI 0 ∧ tm.2.1 = nI 90
  · rw [if_pos q1]; exact Or.inr ⟨q1.1, Or.inl ⟨q1.2, rfl⟩⟩
  · rw [if_neg q1]
    by_cases q2 : tm.1 = nI 0 ∧ tm.2.1 = nI 91
    · rw [if_pos q2]; exact Or.inr ⟨q2.1, Or.inr (Or.inl ⟨q2.2, rfl⟩)⟩
    · rw [if_neg q2]
      by_cases q3 : tm.1 = nI 0 ∧ tm.2.1 = nI 92
      · rw [if_pos q3]; exact Or.inr ⟨q3.1, Or.inr (Or.inr ⟨q3.2, rfl⟩)⟩
      · rw [if_neg q3]; exact Or.inl rfl
theorem hbit_lt (tm : Tm) : hbit tm < 8 := by
  rcases hbit_cases tm with h | ⟨_, ⟨_, h⟩ | ⟨_, h⟩ | ⟨_, h⟩⟩ <;> omega
theorem hole_if (tm : Tm) : (if tm.1 = nI 0 then (if tm.2.1 < nI 90 then some (nI 0) else if nI 93 ≤ tm.2.1 then some (nI 0) else some (nI 1)) else some (nI 0)) = some (bI (hoB tm)) := by
  have b0 : bI (hoB tm) = if hbit tm = 0 then nI 0 else nI 1 := by
    unfold hoB
    by_cases q : hbit tm = 0
    · rw [if_pos q, q]; rfl
    · rw [if_neg q, decide_eq_true q]; rfl
  rw [b0]
  rcases hbit_cases tm with h | ⟨h0, h⟩
  · rw [if_pos h]
    by_cases q0 : tm.1 = nI 0
    · rw [if_pos q0]
      by_cases q1 : tm.2.1 < nI 90
      · rw [if_pos q1]
      · rw [if_neg q1]
        by_cases q2 : nI 93 ≤ tm.2.1
        · rw [if_pos q2]
        · exfalso
          unfold hbit at h
          rcases hole_cases q1 q2 with e | e | e
          · rw [if_pos ⟨q0, e⟩] at h; omega
          · rw [if_neg (fun c => by rw [e, nI_eq (by omega) (by omega)] at c; omega), if_pos ⟨q0, e⟩] at h; omega
          · rw [if_neg (fun c => by rw [e, nI_eq (by omega) (by omega)] at c; omega), if_neg (fun c => by rw [e, nI_eq (by omega) (by omega)] at c; omega), if_pos ⟨q0, e⟩] at h; omega
    · rw [if_neg q0]
  · rw [if_pos h0]
    rcases h with ⟨e, h⟩ | ⟨e, h⟩ | ⟨e, h⟩
    · rw [h, e]
      simp (disch := omega) only [nI_ltI, nI_leI, if_neg]
    · rw [h, e]
      simp (disch := omega) only [nI_ltI, nI_leI, if_neg]
    · rw [h, e]
      simp (disch := omega) only [nI_ltI, nI_leI, if_neg]
theorem isHole_v {t : Nat} (ht : t < 120) (h2 : z 2 t = tm.1) (h3 : z 3 t = tm.2.1) : fX7_isHole z (nI t) = some (bI (hoB tm)) := by
  unfold fX7_isHole
  simp (disch := omega) only [inb_t, gd_t, rd_nI, h2, h3, lit]
  exact hole_if tm
theorem isHoleM_v {t : Nat} (ht : t < 120) (h1 : z 1 t = tm.1) (h2 : z 2 t = tm.2.1) : fX9_isHole z (nI t) = some (bI (hoB tm)) := by
  unfold fX9_isHole
  simp (disch := omega) only [inb_t, gd_t, rd_nI, h1, h2, lit]
  exact hole_if tm
theorem or_nI {a b : Nat} (ha : a < 8) (hb : b < 8) : nI a ||| nI b = nI (a ||| b) := by
  have h : ∀ a : Fin 8, ∀ b : Fin 8, nI a.1 ||| nI b.1 = nI (a.1 ||| b.1) := by decide
  exact h ⟨a, ha⟩ ⟨b, hb⟩
theorem shl_bit {x : Int32} : (x = nI 90 → (nI 1 <<< ((x - nI 90) &&& nI 31)) = nI 1) ∧ (x = nI 91 → (nI 1 <<< ((x - nI 90) &&& nI 31)) = nI 2) ∧ (x = nI 92 → (nI 1 <<< ((x - nI 90) &&& nI 31)) = nI 4) := by
  refine ⟨?_, ?_, ?_⟩ <;> (rintro rfl; decide)
theorem orl_lt : ∀ (l : List Nat) (m : Nat), m < 8 → (∀ p, p ∈ l → H p < 8) → orl H l m < 8
  | [], m, hm, _ => hm
  | p :: l, m, hm, h => orl_lt l (m ||| H p) (Nat.or_lt_two_pow (n := 3) hm (h p List.mem_cons_self)) fun q hq => h q (List.mem_cons_of_mem _ hq)
theorem orl_cong {H' : Nat → Nat} : ∀ (l : List Nat) (m : Nat), (∀ p, p ∈ l → H' p = H p) → orl H' l m = orl H l m
  | [], m, _ => rfl
  | p :: l, m, h => by
    unfold orl
    rw [h p List.mem_cons_self]
    exact orl_cong l _ fun q hq => h q (List.mem_cons_of_mem _ hq)
theorem orl_app : ∀ (l : List Nat) (m p : Nat), orl H (l ++ [p]) m = orl H l m ||| H p
  | [], m, p => rfl
  | q :: l, m, p => orl_app l (m ||| H q) p
def nx1 (H : Nat → Nat) (n v : Nat) : Nat → Nat := fun t => if t = n then v else H t
theorem nx1_e {n v : Nat} : nx1 H n v n = v := by simp [nx1]
theorem nx1_n {n v t : Nat} (h : t ≠ n) : nx1 H n v t = H t := by simp [nx1, h]
/-- the places, while those of a new term are put in -/
def HPi (T : List Tm) (l : List Nat) (i : Nat) (z : fS) : Prop := ∀ t, t ≤ T.length → ∃ pl, Lst (z 10) (z 9 t) pl ∧ pl.Pairwise (· > ·) ∧ ∀ p, p ∈ pl ↔ ((p / 3 < T.length ∧ p % 3 < sz T (p / 3) ∧ pt T (p / 3) (p % 3) = t) ∨ (∃ j, j < i ∧ p = 3 * T.length + j ∧ l.getD j 0 = t))
theorem make_loop (hW : WT T) {l : List Nat} (hn : T.length < 120) (hl : l.length ≤ 3) (hlt : ∀ p, p ∈ l → p < T.length) {k248 : fS → Option (Int32 × fS)} {w1 w2 w3 w4 w5 : Int32} {m : Nat} (hm : m < 8) (hH : ∀ p, p < T.length → H p < 8) : ∀ (d i N : Nat) (z : fS), i + d = l.length → d < N → z 4 T.length = nI l.length → (∀ j, j < l.length → z 5 (3 * T.length + j) = nI (l.getD j 0)) → (∀ p, p < T.length → z 6 p = nI (H p)) → z 6 T.length = nI (orl H (l.take i) m) → HPi T l i z → ∃ z', lX7_findOrMake_176 k248 w1 w2 w3 w4 w5 (nI T.length) N (nI (3 * T.length + i)) z = k248 z' ∧ (∀ p, p < T.length → z' 6 p = nI (H p)) ∧ z' 6 T.length = nI (orl H l m) ∧ HPi T l l.length z' ∧ (∀ j, j ≠ 6 → j ≠ 9 → j ≠ 10 → z' j = z j) := by
  intro d
  induction d with
  | zero =>
    intro i N z hi hN h4 h5 h6 h6n hP
    obtain ⟨N, rfl⟩ : ∃ M, N = M + 1 := ⟨N - 1, by omega⟩
    have e : i = l.length := by omega
    subst e
    rw [List.take_length] at h6n
    refine ⟨z, ?_, h6, h6n, hP, fun _ _ _ _ => rfl⟩
    rw [lX7_findOrMake_176.eq_2]
    simp (disch := omega) only [inb_t, gd_t, rd_nI, h4, lit, nI_mul, nI_add, nI_leI, if_pos]
  | succ d ih =>
    intro i N z hi hN h4 h5 h6 h6n hP
    obtain ⟨N, rfl⟩ : ∃ M, N = M + 1 := ⟨N - 1, by omega⟩
    have hil : i < l.length := by omega
    obtain ⟨p, hp⟩ : ∃ p, p = l.getD i 0 := ⟨_, rfl⟩
    have hpm : p ∈ l := by rw [hp]; exact gD_mem hil
    have hpT := hlt p hpm
    have h5i := h5 i hil
    rw [← hp] at h5i
    have h6p := h6 p hpT
    have om : orl H (l.take i) m < 8 := orl_lt _ _ hm fun q hq => hH q (hlt q (List.mem_of_mem_take hq))
    have ntk : l.take (i + 1) = l.take i ++ [p] := by
      rw [List.take_succ, hp, List.getD_eq_getElem?_getD, List.getElem?_eq_getElem hil]; rfl
    obtain ⟨z1, hz1⟩ : ∃ y : fS, y = wrr (wrr (wrr z 6 (upd (z 6) T.length (nI (orl H (l.take i) m ||| H p)))) 10 (upd (z 10) (3 * T.length + i) (z 9 p))) 9 (upd (z 9) p (nI (3 * T.length + i))) := ⟨_, rfl⟩
    have f6 : z1 6 = upd (z 6) T.length (nI (orl H (l.take i) m ||| H p)) := by rw [hz1]; simp (disch := omega) only [wrr_n, wrr_e]
    have f9 : z1 9 = upd (z 9) p (nI (3 * T.length + i)) := by rw [hz1]; simp (disch := omega) only [wrr_n, wrr_e]
    have f10 : z1 10 = upd (z 10) (3 * T.length + i) (z 9 p) := by rw [hz1]; simp (disch := omega) only [wrr_n, wrr_e]
    have fo : ∀ j, j ≠ 6 → j ≠ 9 → j ≠ 10 → z1 j = z j := fun j a b c => by rw [hz1]; simp (disch := omega) only [wrr_n]
    obtain ⟨z', e1, e2, e3, e4, e5⟩ := ih (i + 1) N z1 (by omega) (by omega) (by rw [fo 4 (by omega) (by omega) (by omega)]; exact h4) (fun j hj => by rw [fo 5 (by omega) (by omega) (by omega)]; exact h5 j hj) (fun q hq => by rw [f6, upd_n (by omega)]; exact h6 q hq) (by rw [f6, upd_e, ntk, orl_app]) (fun t ht => by
      obtain ⟨pl, c1, c2, c3⟩ := hP t ht
      have lt : ∀ q, q ∈ pl → q < 3 * T.length + i := fun q hq => by
        rcases (c3 q).mp hq with ⟨g, _⟩ | ⟨j, g1, g2, _⟩ <;> omega
      have c1' : Lst (z1 10) (z 9 t) pl := c1.ext fun q hq => by rw [f10, upd_n (by have := lt q hq; omega)]
      by_cases e : t = p
      · subst e
        refine ⟨(3 * T.length + i) :: pl, ⟨by rw [f9, upd_e], ?_⟩, List.pairwise_cons.mpr ⟨fun q hq => lt q hq, c2⟩, fun q => ?_⟩
        · have : z1 10 (3 * T.length + i) = z 9 t := by rw [f10, upd_e]
          rw [this]; exact c1'
        · rw [List.mem_cons, c3 q]
          constructor
          · rintro (rfl | h | ⟨j, g1, g2, g3⟩)
            · exact Or.inr ⟨i, by omega, rfl, hp.symm⟩
            · exact Or.inl h
            · exact Or.inr ⟨j, by omega, g2, g3⟩
          · rintro (h | ⟨j, g1, g2, g3⟩)
            · exact Or.inr (Or.inl h)
            · rcases Nat.eq_or_lt_of_le (Nat.le_of_lt_succ g1) with rfl | g1
              · exact Or.inl g2
              · exact Or.inr (Or.inr ⟨j, g1, g2, g3⟩)
      · refine ⟨pl, by rw [f9, upd_n e]; exact c1', c2, fun q => ?_⟩
        rw [c3 q]
        constructor
        · rintro (h | ⟨j, g1, g2, g3⟩)
          · exact Or.inl h
          · exact Or.inr ⟨j, by omega, g2, g3⟩
        · rintro (h | ⟨j, g1, g2, g3⟩)
          · exact Or.inl h
          · rcases Nat.eq_or_lt_of_le (Nat.le_of_lt_succ g1) with rfl | g1
            · exact absurd (hp.trans g3).symm e
            · exact Or.inr ⟨j, g1, g2, g3⟩)
    refine ⟨z', ?_, e2, e3, e4, fun j a b c => (e5 j a b c).trans (fo j a b c)⟩
    rw [hz1] at e1
    rw [lX7_findOrMake_176.eq_2]
    simp (disch := omega) only [inb_t, gd_t, rd_nI, h4, lit, nI_mul, nI_add, nI_leI, if_neg, h5i, bnd_s, h6n, h6p, or_nI om (hH p hpT), wr_nI, wrr_n]
    exact e1
theorem pe_size {α : Type} (l : List Nat) (hl : l.length ≤ 3) (h : ∀ p, p ∈ l → p < 120) (F : Int32 → α) : (if pe l 0 = -(nI 1) then F (nI 0) else if pe l 1 = -(nI 1) then F (nI 1) else if pe l 2 = -(nI 1) then F (nI 2) else F (nI 3)) = F (nI l.length) := by
  have key : ∀ i, (pe l i = -(nI 1)) ↔ l.length ≤ i := by
    intro i
    unfold pe
    by_cases q : i < l.length
    · rw [if_pos q, nI_m1n (by have := h _ (gD_mem q); omega)]
      exact ⟨False.elim, fun h => by omega⟩
    · rw [if_neg q]
      exact ⟨fun _ => by omega, fun _ => rfl⟩
  simp only [key]
  rcases (show l.length = 0 ∨ l.length = 1 ∨ l.length = 2 ∨ l.length = 3 by omega) with e | e | e | e
  · rw [e, if_pos (by omega)]
  · rw [e, if_neg (by omega), if_pos (by omega)]
  · rw [e, if_neg (by omega), if_neg (by omega), if_pos (by omega)]
  · rw [e, if_neg (by omega), if_neg (by omega), if_neg (by omega)]
/-- made, or there already, or no room -/
theorem findOrMake_ok (h : HX T z) (ho : OkT T.length tm) : (∃ t, mkT T tm = some (t, T) ∧ t < T.length ∧ gT T t = tm ∧ fX7_findOrMake z tm.1 tm.2.1 (pe tm.2.2 0) (pe tm.2.2 1) (pe tm.2.2 2) = some (nI t, z)) ∨ (mkT T tm = none ∧ fX7_findOrMake z tm.1 tm.2.1 (pe tm.2.2 0) (pe tm.2.2 1) (pe tm.2.2 2) = some (-(nI 1), z)) ∨ (mkT T tm = some (T.length, T ++ [tm]) ∧ T.length < 120 ∧ ∃ z', fX7_findOrMake z tm.1 tm.2.1 (pe tm.2.2 0) (pe tm.2.2 1) (pe tm.2.2 2) = some (nI T.length, z') ∧ HX (T ++ [tm]) z' ∧ ∀ j, j = 0 ∨ 11 ≤ j → z' j = z j) := by
  have h' := h
  obtain ⟨hW, hU, hT, hP, hC, H, hI, hB⟩ := h'
  have hT1 := hW.1
  have ho' : OkT 120 tm := ⟨ho.1, fun p hp => by have := ho.2.1 p hp; omega, ho.2.2⟩
  unfold fX7_findOrMake
  rcases find_ok h ho' with ⟨t, t1, t2, t3⟩ | ⟨hn, t3⟩
  · refine Or.inl ⟨t, mkT_old hU t1 t2, t1, t2, ?_⟩
    rw [t3, bp_s]
    simp (disch := omega) only [litm, nI_m1n, if_false]
  · rw [t3, bp_s]
    by_cases hl : T.length < 120
    · refine Or.inr (Or.inr ⟨mkT_new hn hl, hl, ?_⟩)
      obtain ⟨z62, hz62⟩ : ∃ y : fS, y = wrr (wrr (wrr z 1 (upd (z 1) 9 (nI (T.length + 1)))) 2 (upd (z 2) T.length tm.1)) 3 (upd (z 3) T.length tm.2.1) := ⟨_, rfl⟩
      have size := pe_size tm.2.2 ho.1 ho'.2.1 (fun y0 => jX7_findOrMake_99 tm.1 tm.2.1 (pe tm.2.2 0) (pe tm.2.2 1) (pe tm.2.2 2) (nI T.length) y0 (nI T.length) z62)
      simp (disch := omega) only [lit, litm, if_true, hT.1, nI_ltI, if_pos, bnd_s, wf_w, nI_add, inb_t, gd_t, wr_nI, wrr_n]
      rw [← hz62]
      rw [size]
      unfold jX7_findOrMake_99
      obtain ⟨z143, hz143⟩ : ∃ y : fS, y = wrr (wrr (wrr z62 4 (upd (z 4) T.length (nI tm.2.2.length))) 5 (upd (upd (upd (z 5) (3 * T.length) (pe tm.2.2 0)) (3 * T.length + 1) (pe tm.2.2 1)) (3 * T.length + 2) (pe tm.2.2 2))) 9 (upd (z 9) T.length (-(nI 1))) := ⟨_, rfl⟩
      have hh := isHole_v (z := z143) (tm := tm) hl (by rw [hz143, hz62]; simp (disch := omega) only [wrr_n, wrr_e, upd_e]) (by rw [hz143, hz62]; simp (disch := omega) only [wrr_n, wrr_e, upd_e])
      have e4 : z62 4 = z 4 := by rw [hz62]; simp (disch := omega) only [wrr_n]
      have e5 : z62 5 = z 5 := by rw [hz62]; simp (disch := omega) only [wrr_n]
      have e9 : z62 9 = z 9 := by rw [hz62]; simp (disch := omega) only [wrr_n]
      simp (disch := omega) only [lit, bnd_s, inb_t, gd_t, wr_nI, wrr_n, wrr_e, wrr_wrr, nI_mul, nI_add, e4, e5, e9]
      rw [← hz143, hh, bp_s]
      -- the bits of its own hole
      have hb : (if bI (hoB tm) = nI 0 then jX7_findOrMake_169 tm.1 tm.2.1 (pe tm.2.2 0) (pe tm.2.2 1) (pe tm.2.2 2) (nI T.length) (nI 0) (nI T.length) z143 else jX7_findOrMake_169 tm.1 tm.2.1 (pe tm.2.2 0) (pe tm.2.2 1) (pe tm.2.2 2) (nI T.length) (nI 1 <<< ((tm.2.1 - nI 90) &&& nI 31)) (nI T.length) z143) = jX7_findOrMake_169 tm.1 tm.2.1 (pe tm.2.2 0) (pe tm.2.2 1) (pe tm.2.2 2) (nI T.length) (nI (hbit tm)) (nI T.length) z143 := by
        rcases hbit_cases tm with g | ⟨_, ⟨g1, g2⟩ | ⟨g1, g2⟩ | ⟨g1, g2⟩⟩
        · have : hoB tm = false := by unfold hoB; rw [g]; rfl
          rw [this, bI_f, if_pos rfl, g]
        · have : hoB tm = true := by unfold hoB; rw [g2]; rfl
          rw [this, bI_t, if_neg (by rw [nI_eq (by omega) (by omega)]; omega), g2, shl_bit.1 g1]
        · have : hoB tm = true := by unfold hoB; rw [g2]; rfl
          rw [this, bI_t, if_neg (by rw [nI_eq (by omega) (by omega)]; omega), g2, shl_bit.2.1 g1]
        · have : hoB tm = true := by unfold hoB; rw [g2]; rfl
          rw [this, bI_t, if_neg (by rw [nI_eq (by omega) (by omega)]; omega), g2, shl_bit.2.2 g1]
      rw [hb]
      unfold jX7_findOrMake_169
      simp (disch := omega) only [lit, bnd_s, inb_t, gd_t, wr_nI, nI_mul]
      obtain ⟨z169, hz169⟩ : ∃ y : fS, y = wrr z143 6 (upd (z143 6) T.length (nI (hbit tm))) := ⟨_, rfl⟩
      rw [← hz169]
      have q1 : z169 1 = upd (z 1) 9 (nI (T.length + 1)) := by rw [hz169, hz143, hz62]; simp (disch := omega) only [wrr_n, wrr_e]
      have q2 : z169 2 = upd (z 2) T.length tm.1 := by rw [hz169, hz143, hz62]; simp (disch := omega) only [wrr_n, wrr_e]
      have q3 : z169 3 = upd (z 3) T.length tm.2.1 := by rw [hz169, hz143, hz62]; simp (disch := omega) only [wrr_n, wrr_e]
      have q4 : z169 4 = upd (z 4) T.length (nI tm.2.2.length) := by rw [hz169, hz143, hz62]; simp (disch := omega) only [wrr_n, wrr_e]
      have q5 : z169 5 = upd (upd (upd (z 5) (3 * T.length) (pe tm.2.2 0)) (3 * T.length + 1) (pe tm.2.2 1)) (3 * T.length + 2) (pe tm.2.2 2) := by rw [hz169, hz143, hz62]; simp (disch := omega) only [wrr_n, wrr_e]
      have q6 : z169 6 = upd (z 6) T.length (nI (hbit tm)) := by rw [hz169, hz143, hz62]; simp (disch := omega) only [wrr_n, wrr_e]
      have q9 : z169 9 = upd (z 9) T.length (-(nI 1)) := by rw [hz169, hz143, hz62]; simp (disch := omega) only [wrr_n, wrr_e]
      have qo : ∀ j, j = 0 ∨ j = 7 ∨ j = 8 ∨ 10 ≤ j → z169 j = z j := fun j hj => by rw [hz169, hz143, hz62]; simp (disch := omega) only [wrr_n]
      have q5n : ∀ i, i < 3 → z169 5 (3 * T.length + i) = pe tm.2.2 i := fun i hi => by
        rw [q5]
        rcases (show i = 0 ∨ i = 1 ∨ i = 2 by omega) with rfl | rfl | rfl
        · rw [upd_n (by omega), upd_n (by omega), Nat.add_zero, upd_e]
        · rw [upd_n (by omega), upd_e]
        · rw [upd_e]
      have H8 : ∀ p, p < T.length → H p < 8 := fun p hp => (hI p hp).2
      obtain ⟨z241, m1, m2, m3, m4, m5⟩ := make_loop (H := H) hW (l := tm.2.2) hl ho.1 ho.2.1 (k248 := jX7_findOrMake_248 tm.1 tm.2.1 (pe tm.2.2 0) (pe tm.2.2 1) (pe tm.2.2 2) (nI T.length)) (w1 := tm.1) (w2 := tm.2.1) (w3 := pe tm.2.2 0) (w4 := pe tm.2.2 1) (w5 := pe tm.2.2 2) (hbit_lt tm) H8 tm.2.2.length 0 FU z169 (by omega) (by have := FU_ge; have := ho.1; omega) (by rw [q4, upd_e]) (fun j hj => by
          rw [q5n j (by have := ho.1; omega)]; unfold pe; rw [if_pos hj]) (fun p hp => by rw [q6, upd_n (by omega)]; exact hB p hp) (by rw [q6, upd_e]; rfl) (fun t ht => by
          by_cases e : t = T.length
          · refine ⟨[], ?_, by simp, fun p => ?_⟩
            · show z169 9 t = -(nI 1)
              rw [q9, e, upd_e]
            · refine ⟨fun h => by simp at h, ?_⟩
              rintro (⟨g1, g2, g3⟩ | ⟨j, g, _⟩)
              · have := (hW.2 _ g1).2.1 _ g2
                omega
              · omega
          · obtain ⟨pl, c1, c2, c3⟩ := hP t (by omega)
            refine ⟨pl, ?_, c2, fun p => ?_⟩
            · rw [q9, upd_n e, qo 10 (by omega)]; exact c1
            · rw [c3 p]
              exact ⟨Or.inl, fun h => by
                rcases h with h | ⟨j, g, _⟩
                · exact h
                · omega⟩)
      rw [Nat.add_zero] at m1
      rw [m1]
      unfold jX7_findOrMake_248
      obtain ⟨s, s1, s2⟩ := hsh_lt tm.1 tm.2.1 (pe tm.2.2 0) (pe tm.2.2 1) (pe tm.2.2 2)
      have e7 : z241 7 = z 7 := by rw [m5 7 (by omega) (by omega) (by omega), qo 7 (by omega)]
      have e8 : z241 8 = z 8 := by rw [m5 8 (by omega) (by omega) (by omega), qo 8 (by omega)]
      refine ⟨wrr (wrr z241 8 (upd (z 8) T.length (z 7 s))) 7 (upd (z 7) s (nI T.length)), ?_, ?_, ?_⟩
      · rw [slotFor_ok, bp_s, s2]
        simp (disch := omega) only [inb_t, gd_t, rd_nI, bnd_s, wr_nI, wrr_n, e7, e8]
      · have hgl : ∀ t, t < T.length → gT (T ++ [tm]) t = gT T t := fun t ht => gT_l ht
        have hag := AgT.app T [tm] (Nat.le_refl _)
        have lenT : (T ++ [tm]).length = T.length + 1 := by simp
        have ksh : kd (T ++ [tm]) T.length = tm.1 ∧ sh (T ++ [tm]) T.length = tm.2.1 ∧ pts (T ++ [tm]) T.length = tm.2.2 := by
          have := gT_r (T := T) (tm := tm)
          exact ⟨congrArg (fun x : Tm => x.1) this, congrArg (fun x : Tm => x.2.1) this, congrArg (fun x : Tm => x.2.2) this⟩
        have szn : sz (T ++ [tm]) T.length = tm.2.2.length := congrArg List.length ksh.2.2
        have ptn : ∀ i, pt (T ++ [tm]) T.length i = tm.2.2.getD i 0 := fun i => congrArg (fun l : List Nat => l.getD i 0) ksh.2.2
        refine ⟨hW.add hl ho, ?_, ⟨?_, ?_⟩, ?_, ?_, nx1 H T.length (orl H tm.2.2 (hbit tm)), ?_, ?_⟩
        · intro t u ht hu e
          rw [lenT] at ht hu
          by_cases q1 : t = T.length
          · by_cases q2 : u = T.length
            · omega
            · rw [q1, gT_r, hgl u (by omega)] at e
              exact absurd e.symm (hn u (by omega))
          · by_cases q2 : u = T.length
            · rw [q2, gT_r, hgl t (by omega)] at e
              exact absurd e (hn t (by omega))
            · rw [hgl t (by omega), hgl u (by omega)] at e
              exact hU t u (by omega) (by omega) e
        · simp (disch := omega) only [wrr_n, m5 1 (by omega) (by omega) (by omega), q1, upd_e, lenT]
        · intro t ht
          rw [lenT] at ht
          simp (disch := omega) only [wrr_n, m5 2 (by omega) (by omega) (by omega), m5 3 (by omega) (by omega) (by omega), m5 4 (by omega) (by omega) (by omega), m5 5 (by omega) (by omega) (by omega), q2, q3, q4]
          by_cases e : t = T.length
          · subst e
            rw [upd_e, upd_e, upd_e, ksh.1, ksh.2.1, szn]
            refine ⟨rfl, rfl, rfl, fun i hi => ?_⟩
            rw [q5n i hi, ptn i]; rfl
          · have ht' : t < T.length := by omega
            rw [upd_n e, upd_n e, upd_n e, hag.kd ht', hag.sh ht', hag.sz ht']
            obtain ⟨c1, c2, c3, c4⟩ := hT.2 t ht'
            refine ⟨c1, c2, c3, fun i hi => ?_⟩
            rw [q5, upd_n (by omega), upd_n (by omega), upd_n (by omega), hag.pt ht' i]
            exact c4 i hi
        · intro t ht
          rw [lenT] at ht
          obtain ⟨pl, c1, c2, c3⟩ := m4 t (by omega)
          refine ⟨pl, by simp (disch := omega) only [wrr_n]; exact c1, c2, fun p => ?_⟩
          rw [c3 p, lenT]
          constructor
          · rintro (⟨g1, g2, g3⟩ | ⟨j, g1, g2, g3⟩)
            · rw [hag.sz g1, hag.pt g1]; exact ⟨by omega, g2, g3⟩
            · have d1 : p / 3 = T.length := by have := ho.1; omega
              have d2 : p % 3 = j := by have := ho.1; omega
              rw [d1, d2, szn, ptn]; exact ⟨by omega, g1, g3⟩
          · rintro ⟨g1, g2, g3⟩
            by_cases e : p / 3 = T.length
            · rw [e, szn] at g2
              rw [e, ptn] at g3
              exact Or.inr ⟨p % 3, g2, by omega, g3⟩
            · have g1' : p / 3 < T.length := by omega
              rw [hag.sz g1'] at g2
              rw [hag.pt g1'] at g3
              exact Or.inl ⟨g1', g2, g3⟩
        · intro s' hs'
          obtain ⟨l, c1, c2, c3⟩ := hC s' hs'
          have lt : ∀ t, t ∈ l → t < T.length := fun t ht => ((c3 t).mp ht).1
          have c1' : Lst (upd (z 8) T.length (z 7 s)) (z 7 s') l := c1.ext fun t ht => upd_n (by have := lt t ht; omega)
          simp (disch := omega) only [wrr_n, wrr_e]
          by_cases e : s' = s
          · subst e
            refine ⟨T.length :: l, ⟨upd_e, by rw [upd_e]; exact c1'⟩, List.pairwise_cons.mpr ⟨fun t ht => lt t ht, c2⟩, fun t => ?_⟩
            rw [List.mem_cons, c3 t, lenT]
            constructor
            · rintro (rfl | ⟨g1, g2⟩)
              · exact ⟨by omega, by rw [gT_r]; exact s2⟩
              · exact ⟨by omega, by rw [hgl t g1]; exact g2⟩
            · rintro ⟨g1, g2⟩
              by_cases q : t = T.length
              · exact Or.inl q
              · rw [hgl t (by omega)] at g2
                exact Or.inr ⟨by omega, g2⟩
          · refine ⟨l, by rw [upd_n e]; exact c1', c2, fun t => ?_⟩
            rw [c3 t, lenT]
            constructor
            · rintro ⟨g1, g2⟩
              exact ⟨by omega, by rw [hgl t g1]; exact g2⟩
            · rintro ⟨g1, g2⟩
              by_cases q : t = T.length
              · rw [q, gT_r] at g2
                have : nI s = nI s' := s2.symm.trans g2
                rw [nI_eq (by omega) (by omega)] at this
                exact absurd this.symm e
              · rw [hgl t (by omega)] at g2
                exact ⟨by omega, g2⟩
        · intro t ht
          rw [lenT] at ht
          by_cases e : t = T.length
          · subst e
            rw [nx1_e, ksh.2.2, gT_r]
            refine ⟨(orl_cong _ _ fun p hp => nx1_n (by have := ho.2.1 p hp; omega)).symm, orl_lt _ _ (hbit_lt tm) fun p hp => H8 p (ho.2.1 p hp)⟩
          · have ht' : t < T.length := by omega
            rw [nx1_n e, hag.pts ht', hgl t ht']
            refine ⟨?_, H8 t ht'⟩
            rw [orl_cong (H := H) _ _ fun p hp => nx1_n (by have := (hW.ok ht').2.1 p hp; omega)]
            exact (hI t ht').1
        · intro t ht
          rw [lenT] at ht
          simp (disch := omega) only [wrr_n]
          by_cases e : t = T.length
          · rw [e, nx1_e]; exact m3
          · rw [nx1_n e]; exact m2 t (by omega)
      · intro j hj
        simp (disch := omega) only [wrr_n]
        rw [m5 j (by omega) (by omega) (by omega), qo j (by omega)]
    · refine Or.inr (Or.inl ⟨mkT_full hn hl, ?_⟩)
      simp (disch := omega) only [litm, lit, if_true, hT.1, nI_ltI, if_neg]
end MAKE
end
section
/-! terms are unmade, the last one first -/
section UNM
variable {T : List Tm} {z z' : fS} {tm : Tm} {H : Nat → Nat}
theorem pI_lt {i j : Nat} (hi : i < 2 ^ 31) (hj : j < 2 ^ 31) : (pI i < nI j) ↔ i ≤ j := by
  by_cases q : i = 0
  · rw [q, pI_0, m1_lt hj]; exact ⟨fun _ => Nat.zero_le _, fun _ => trivial⟩
  · rw [pI_s (by omega), nI_ltI (by omega) hj]; omega
theorem pI_sub {i : Nat} : nI i - nI 1 = pI i := by
  by_cases q : i = 0
  · rw [q, z_dec, pI_0]
  · rw [nI_sub (by omega), pI_s (by omega)]
theorem pI_dec {i : Nat} : nI i + -(nI 1) = pI i := by
  by_cases q : i = 0
  · rw [q, z_decA, pI_0]
  · rw [nI_dec (by omega), pI_s (by omega)]
theorem unmake_in {l : List Nat} (hn : T.length < 120) (hl : l.length ≤ 3) (hlt : ∀ p, p ∈ l → p < T.length) {k59 : fS → Option fS} {w1 w2 : Int32} : ∀ (i N : Nat) (z : fS), i ≤ l.length → i < N → (∀ j, j < l.length → z 5 (3 * T.length + j) = nI (l.getD j 0)) → HPi T l i z → ∃ z', lX7_unmakeFrom_28 k59 w1 w2 (nI (3 * T.length)) N (pI (3 * T.length + i)) z = k59 z' ∧ HPi T l 0 z' ∧ (∀ j, j ≠ 9 → z' j = z j) := by
  intro i
  induction i with
  | zero =>
    intro N z hi hN h5 hP
    obtain ⟨N, rfl⟩ : ∃ M, N = M + 1 := ⟨N - 1, by omega⟩
    refine ⟨z, ?_, hP, fun _ _ => rfl⟩
    rw [lX7_unmakeFrom_28.eq_2, if_pos ((pI_lt (by omega) (by omega)).mpr (by omega))]
  | succ i ih =>
    intro N z hi hN h5 hP
    obtain ⟨N, rfl⟩ : ∃ M, N = M + 1 := ⟨N - 1, by omega⟩
    have hil : i < l.length := by omega
    obtain ⟨p, hp⟩ : ∃ p, p = l.getD i 0 := ⟨_, rfl⟩
    have hpm : p ∈ l := by rw [hp]; exact gD_mem hil
    have hpT := hlt p hpm
    have h5i := h5 i hil
    rw [← hp] at h5i
    have hpI : pI (3 * T.length + (i + 1)) = nI (3 * T.length + i) := by rw [pI_s (by omega)]; rfl
    have hlt0 : ¬ (pI (3 * T.length + (i + 1)) < nI (3 * T.length)) := fun h => by
      have := (pI_lt (by omega) (by omega)).mp h; omega
    obtain ⟨z', e1, e2, e3⟩ := ih N (wrr z 9 (upd (z 9) p (z 10 (3 * T.length + i)))) (by omega) (by omega) (fun j hj => by rw [wrr_n (by omega)]; exact h5 j hj) (fun t ht => by
      obtain ⟨pl, c1, c2, c3⟩ := hP t ht
      rw [wrr_e, wrr_n (by omega)]
      by_cases e : t = p
      · have hin : (3 * T.length + i) ∈ pl := (c3 _).mpr (Or.inr ⟨i, by omega, rfl, by rw [e, hp]⟩)
        cases pl with
        | nil => simp at hin
        | cons y pl =>
          obtain ⟨d1, d2⟩ := c1
          obtain ⟨g1, g2⟩ := List.pairwise_cons.mp c2
          have hy : y ≤ 3 * T.length + i := by
            rcases (c3 y).mp List.mem_cons_self with ⟨g, _⟩ | ⟨j, k1, k2, _⟩ <;> omega
          have ey : y = 3 * T.length + i := by
            rcases List.mem_cons.mp hin with k | k
            · exact k.symm
            · have := g1 _ k; omega
          subst ey
          refine ⟨pl, by rw [e, upd_e]; exact d2, g2, fun q => ?_⟩
          constructor
          · intro hq
            have hlt := g1 q hq
            rcases (c3 q).mp (List.mem_cons_of_mem _ hq) with h | ⟨j, k1, k2, k3⟩
            · exact Or.inl h
            · exact Or.inr ⟨j, by omega, k2, k3⟩
          · intro hq
            have : q ∈ (3 * T.length + i) :: pl := (c3 q).mpr (by
              rcases hq with h | ⟨j, k1, k2, k3⟩
              · exact Or.inl h
              · exact Or.inr ⟨j, by omega, k2, k3⟩)
            rcases List.mem_cons.mp this with k | k
            · rcases hq with h | ⟨j, k1, k2, k3⟩ <;> omega
            · exact k
      · refine ⟨pl, by rw [upd_n e]; exact c1, c2, fun q => ?_⟩
        rw [c3 q]
        constructor
        · rintro (h | ⟨j, k1, k2, k3⟩)
          · exact Or.inl h
          · refine Or.inr ⟨j, ?_, k2, k3⟩
            rcases Nat.eq_or_lt_of_le (Nat.le_of_lt_succ k1) with rfl | k1
            · exact absurd (hp.trans k3).symm e
            · exact k1
        · rintro (h | ⟨j, k1, k2, k3⟩)
          · exact Or.inl h
          · exact Or.inr ⟨j, by omega, k2, k3⟩)
    refine ⟨z', ?_, e2, fun j hj => (e3 j hj).trans (wrr_n hj)⟩
    rw [lX7_unmakeFrom_28.eq_2, if_neg hlt0, hpI]
    simp (disch := omega) only [inb_t, gd_t, rd_nI, h5i, wr_nI, bnd_s, litm, pI_dec]
    exact e1
theorem unmake_one {rc : Int32 → fS → Option fS} {w1 : Int32} (h : HX (T ++ [tm]) z) : ∃ z', lX7_unmakeFrom_28 (jX7_unmakeFrom_59 rc w1 (nI T.length) (nI (3 * T.length))) w1 (nI T.length) (nI (3 * T.length)) FU (pI (3 * T.length + tm.2.2.length)) z = rc (pI T.length) z' ∧ HX T z' ∧ (∀ j, j = 0 ∨ 11 ≤ j → z' j = z j) := by
  obtain ⟨hW, hU, hT, hP, hC, H, hI, hB⟩ := h
  have lenT : (T ++ [tm]).length = T.length + 1 := by simp
  have hT1 := hW.1
  rw [lenT] at hT1
  have hag := AgT.app T [tm] (Nat.le_refl _)
  have hgl : ∀ t, t < T.length → gT (T ++ [tm]) t = gT T t := fun t ht => gT_l ht
  have hok := hW.ok (t := T.length) (by omega)
  rw [gT_r] at hok
  have ksh : kd (T ++ [tm]) T.length = tm.1 ∧ sh (T ++ [tm]) T.length = tm.2.1 ∧ pts (T ++ [tm]) T.length = tm.2.2 := by
    have := gT_r (T := T) (tm := tm)
    exact ⟨congrArg (fun x : Tm => x.1) this, congrArg (fun x : Tm => x.2.1) this, congrArg (fun x : Tm => x.2.2) this⟩
  have szn : sz (T ++ [tm]) T.length = tm.2.2.length := congrArg List.length ksh.2.2
  have ptn : ∀ i, pt (T ++ [tm]) T.length i = tm.2.2.getD i 0 := fun i => congrArg (fun l : List Nat => l.getD i 0) ksh.2.2
  have h5 : ∀ i, i < 3 → z 5 (3 * T.length + i) = pe tm.2.2 i := fun i hi => by
    rw [pe_parts hT (by omega) hi, ksh.2.2]
  have hPi : HPi T tm.2.2 tm.2.2.length z := by
    intro t ht
    obtain ⟨pl, c1, c2, c3⟩ := hP t (by omega)
    refine ⟨pl, c1, c2, fun p => ?_⟩
    rw [c3 p, lenT]
    constructor
    · rintro ⟨g1, g2, g3⟩
      by_cases e : p / 3 = T.length
      · rw [e, szn] at g2
        rw [e, ptn] at g3
        exact Or.inr ⟨p % 3, g2, by omega, g3⟩
      · have g1' : p / 3 < T.length := by omega
        rw [hag.sz g1'] at g2
        rw [hag.pt g1'] at g3
        exact Or.inl ⟨g1', g2, g3⟩
    · rintro (⟨g1, g2, g3⟩ | ⟨j, g1, g2, g3⟩)
      · rw [hag.sz g1, hag.pt g1]; exact ⟨by omega, g2, g3⟩
      · have d1 : p / 3 = T.length := by have := hok.1; omega
        have d2 : p % 3 = j := by have := hok.1; omega
        rw [d1, d2, szn, ptn]; exact ⟨by omega, g1, g3⟩
  obtain ⟨z1, e1, e2, e3⟩ := unmake_in (l := tm.2.2) (by omega) hok.1 hok.2.1 (k59 := jX7_unmakeFrom_59 rc w1 (nI T.length) (nI (3 * T.length))) (w1 := w1) (w2 := nI T.length) tm.2.2.length FU z (Nat.le_refl _) (by have := FU_ge; have := hok.1; omega) (fun j hj => by
    rw [h5 j (by have := hok.1; omega)]; unfold pe; rw [if_pos hj]) hPi
  obtain ⟨s, s1, s2⟩ := hsh_lt tm.1 tm.2.1 (pe tm.2.2 0) (pe tm.2.2 1) (pe tm.2.2 2)
  have k2 : z1 2 T.length = tm.1 := by rw [e3 2 (by omega), (hT.2 T.length (by omega)).1, ksh.1]
  have k3 : z1 3 T.length = tm.2.1 := by rw [e3 3 (by omega), (hT.2 T.length (by omega)).2.1, ksh.2.1]
  have k50 : z1 5 (3 * T.length) = pe tm.2.2 0 := by rw [e3 5 (by omega)]; exact h5 0 (by omega)
  have k51 : z1 5 (3 * T.length + 1) = pe tm.2.2 1 := by rw [e3 5 (by omega)]; exact h5 1 (by omega)
  have k52 : z1 5 (3 * T.length + 2) = pe tm.2.2 2 := by rw [e3 5 (by omega)]; exact h5 2 (by omega)
  refine ⟨wrr (wrr z1 7 (upd (z1 7) s (z1 8 T.length))) 1 (upd (z1 1) 9 (nI T.length)), ?_, ?_, ?_⟩
  · rw [e1]
    unfold jX7_unmakeFrom_59
    simp (disch := omega) only [lit, litm, inb_t, gd_t, nI_add, rd_nI, k2, k3, k50, k51, k52, slotFor_ok, bp_s]
    rw [show hsh tm.1 tm.2.1 (pe tm.2.2 0) (pe tm.2.2 1) (pe tm.2.2 2) = nI s from s2]
    simp (disch := omega) only [inb_t, gd_t, wr_nI, bnd_s, wf_w, wrr_n, pI_dec]
  · refine ⟨⟨by omega, fun t ht => ?_⟩, ?_, ⟨?_, ?_⟩, ?_, ?_, H, ?_, ?_⟩
    · have := hW.2 t (by omega)
      rw [hag.kd ht, hag.sz ht] at this
      exact ⟨this.1, fun i hi => by rw [← hag.pt ht i]; exact this.2.1 i hi, this.2.2⟩
    · intro t u ht hu e
      exact hU t u (by omega) (by omega) (by rw [hgl t ht, hgl u hu]; exact e)
    · rw [wrr_e, upd_e]
    · intro t ht
      have := hT.2 t (by omega)
      rw [hag.kd ht, hag.sh ht, hag.sz ht] at this
      simp (disch := omega) only [wrr_n]
      rw [e3 2 (by omega), e3 3 (by omega), e3 4 (by omega), e3 5 (by omega)]
      exact ⟨this.1, this.2.1, this.2.2.1, fun i hi => by rw [← hag.pt ht i]; exact this.2.2.2 i hi⟩
    · intro t ht
      obtain ⟨pl, c1, c2, c3⟩ := e2 t (by omega)
      refine ⟨pl, by simp (disch := omega) only [wrr_n]; exact c1, c2, fun p => ?_⟩
      rw [c3 p]
      exact ⟨fun h => by
        rcases h with h | ⟨j, g, _⟩
        · exact h
        · omega, Or.inl⟩
    · intro s' hs'
      obtain ⟨l, c1, c2, c3⟩ := hC s' hs'
      simp (disch := omega) only [wrr_n, wrr_e]
      rw [e3 7 (by omega), e3 8 (by omega)]
      by_cases e : s' = s
      · subst e
        have hin : T.length ∈ l := (c3 _).mpr ⟨by omega, by rw [gT_r]; exact s2⟩
        cases l with
        | nil => simp at hin
        | cons y l =>
          obtain ⟨d1, d2⟩ := c1
          obtain ⟨g1, g2⟩ := List.pairwise_cons.mp c2
          have hy := ((c3 y).mp List.mem_cons_self).1
          rw [lenT] at hy
          have ey : y = T.length := by
            rcases List.mem_cons.mp hin with k | k
            · exact k.symm
            · have := g1 _ k; omega
          subst ey
          refine ⟨l, by rw [upd_e]; exact d2, g2, fun t => ?_⟩
          constructor
          · intro ht
            have hlt := g1 t ht
            have := (c3 t).mp (List.mem_cons_of_mem _ ht)
            rw [hgl t hlt] at this
            exact ⟨hlt, this.2⟩
          · rintro ⟨g3, g4⟩
            have : t ∈ T.length :: l := (c3 t).mpr ⟨by omega, by rw [hgl t g3]; exact g4⟩
            rcases List.mem_cons.mp this with k | k
            · omega
            · exact k
      · refine ⟨l, by rw [upd_n e]; exact c1, c2, fun t => ?_⟩
        rw [c3 t, lenT]
        constructor
        · rintro ⟨g1, g2⟩
          by_cases q : t = T.length
          · rw [q, gT_r] at g2
            have : nI s = nI s' := s2.symm.trans g2
            rw [nI_eq (by omega) (by omega)] at this
            exact absurd this.symm e
          · rw [hgl t (by omega)] at g2
            exact ⟨by omega, g2⟩
        · rintro ⟨g1, g2⟩
          exact ⟨by omega, by rw [hgl t g1]; exact g2⟩
    · intro t ht
      have := hI t (by omega)
      rw [hag.pts ht, hgl t ht] at this
      exact this
    · intro t ht
      simp (disch := omega) only [wrr_n]
      rw [e3 6 (by omega)]
      exact hB t (by omega)
  · intro j hj
    simp (disch := omega) only [wrr_n]
    exact e3 j (by omega)
theorem unmake_loop : ∀ (n N : Nat) (R : List Tm) (z : fS), R.length = n → n < N → HX (T ++ R) z → ∃ z', lX7_unmakeFrom_7 (nI T.length) N (pI (T.length + n)) z = some z' ∧ HX T z' ∧ (∀ j, j = 0 ∨ 11 ≤ j → z' j = z j) := by
  intro n
  induction n with
  | zero =>
    intro N R z hR hN h
    obtain ⟨N, rfl⟩ : ∃ M, N = M + 1 := ⟨N - 1, by omega⟩
    have e : R = [] := List.length_eq_zero_iff.mp hR
    subst e
    rw [List.append_nil] at h
    have := h.1.1
    refine ⟨z, ?_, h, fun _ _ => rfl⟩
    rw [lX7_unmakeFrom_7.eq_2, if_pos ((pI_lt (by omega) (by omega)).mpr (by omega))]
  | succ n ih =>
    intro N R z hR hN h
    obtain ⟨N, rfl⟩ : ∃ M, N = M + 1 := ⟨N - 1, by omega⟩
    obtain ⟨R0, tm, rfl⟩ := lastx (l := R) (fun e => by rw [e] at hR; simp at hR)
    have hR0 : R0.length = n := by simp at hR; omega
    rw [← List.append_assoc] at h
    have hl1 : (T ++ R0).length = T.length + n := by simp; omega
    have h120 := h.1.1
    have h120' : T.length + n + 1 ≤ 120 := by simp at h120; omega
    obtain ⟨z1, e1, e2, e3⟩ := unmake_one (rc := lX7_unmakeFrom_7 (nI T.length) N) (w1 := nI T.length) h
    obtain ⟨z', g1, g2, g3⟩ := ih N R0 z1 hR0 (by omega) e2
    refine ⟨z', ?_, g2, fun j hj => (g3 j hj).trans (e3 j hj)⟩
    have e4 : z 4 (T.length + n) = nI tm.2.2.length := by
      have := (h.2.2.1.2 (T.length + n) (by simp; omega)).2.2.1
      rw [this]
      congr 1
      have e := gT_r (T := T ++ R0) (tm := tm)
      rw [hl1] at e
      exact congrArg (fun x : Tm => x.2.2.length) e
    rw [hl1] at e1
    rw [lX7_unmakeFrom_7.eq_2, if_neg (fun h => by have := (pI_lt (by omega) (by omega)).mp h; omega)]
    have hpI : pI (T.length + (n + 1)) = nI (T.length + n) := by rw [pI_s (by omega)]; rfl
    rw [hpI]
    simp (disch := omega) only [lit, nI_mul, bnd_s, inb_t, gd_t, rd_nI, e4, nI_add, pI_sub]
    exact e1.trans g1
theorem unmakeFrom_ok {R : List Tm} (h : HX (T ++ R) z) : ∃ z', fX7_unmakeFrom z (nI T.length) = some z' ∧ HX T z' ∧ (∀ j, j = 0 ∨ 11 ≤ j → z' j = z j) := by
  have h120 := h.1.1
  have h120' : T.length + R.length ≤ 120 := by simpa using h120
  obtain ⟨z', g1, g2, g3⟩ := unmake_loop R.length FU R z rfl (by have := FU_ge; omega) h
  refine ⟨z', ?_, g2, g3⟩
  unfold fX7_unmakeFrom
  have e : z 1 9 = nI (T.length + R.length) := by rw [h.2.2.1.1]; simp
  simp only [e, lit, pI_sub, bnd_s]
  exact g1
end UNM
end
section
/-! the reference finds and makes terms -/
section MM
variable {T : List Tm} {z z' : fS} {tm : Tm}
theorem mfind_in (hT : MT T z) (hW : WT T) {l : List Nat} {t : Nat} (ht : t < T.length) (hs : sz T t = l.length) (hl : ∀ p, p ∈ l → p < 120) (ha : ∀ i, i < l.length → z 19 i = nI (l.getD i 0)) {k109 : Int32 → Option Int32} {w1 w2 : Int32} : ∀ (d i N : Nat), i + d = l.length → d < N → ∃ r, lX9_findTerm_63 k109 z w1 w2 (nI l.length) (nI t) N (nI 1) (nI i) = k109 (nI r) ∧ ((r = 1 ∧ ∀ j, i ≤ j → j < l.length → pt T t j = l.getD j 0) ∨ (r = 0 ∧ ¬ ∀ j, i ≤ j → j < l.length → pt T t j = l.getD j 0)) := by
  have hT1 := hW.1
  have w := hW.2 t ht
  have hl3 : l.length ≤ 3 := by rw [← hs]; exact w.1
  intro d
  induction d with
  | zero =>
    intro i N hi hN
    obtain ⟨N, rfl⟩ : ∃ M, N = M + 1 := ⟨N - 1, by omega⟩
    refine ⟨1, ?_, Or.inl ⟨rfl, fun j h1 h2 => by omega⟩⟩
    rw [lX9_findTerm_63.eq_2]
    simp (disch := omega) only [nI_leI, if_pos]
  | succ d ih =>
    intro i N hi hN
    obtain ⟨N, rfl⟩ : ∃ M, N = M + 1 := ⟨N - 1, by omega⟩
    rw [lX9_findTerm_63.eq_2]
    have e4 := (hT.2 t ht).2.2.2 i (by omega)
    have e19 := ha i (by omega)
    have b1 := w.2.1 i (by omega)
    have b2 := hl _ (gD_mem (l := l) (show i < l.length by omega))
    by_cases q : pt T t i = l.getD i 0
    · obtain ⟨r, e1, e2⟩ := ih (i + 1) N (by omega) (by omega)
      refine ⟨r, ?_, ?_⟩
      · simp (disch := omega) only [lit, nI_leI, if_neg, nI_eq, nI_mul, nI_add, inb_t, gd_t, rd_nI, e4, e19, q, if_true, bnd_s]
        exact e1
      · rcases e2 with ⟨e2, e3⟩ | ⟨e2, e3⟩
        · refine Or.inl ⟨e2, fun j h1 h2 => ?_⟩
          rcases Nat.eq_or_lt_of_le h1 with rfl | h1
          · exact q
          · exact e3 j h1 h2
        · exact Or.inr ⟨e2, fun h => e3 fun j h1 h2 => h j (by omega) h2⟩
    · refine ⟨0, ?_, Or.inr ⟨rfl, fun h => q (h i (Nat.le_refl _) (by omega))⟩⟩
      obtain ⟨M, rfl⟩ : ∃ M, N = M + 1 := ⟨N - 1, by omega⟩
      simp (disch := omega) only [lit, nI_leI, if_neg, nI_eq, nI_mul, nI_add, inb_t, gd_t, rd_nI, e4, e19, q, if_false, bnd_s]
      rw [lX9_findTerm_63.eq_2]
      simp (disch := omega) only [lit, if_true, ite_self]
theorem mfind_loop (hT : MT T z) (hW : WT T) (ho : OkT 120 tm) (ha : ∀ i, i < tm.2.2.length → z 19 i = nI (tm.2.2.getD i 0)) : ∀ (d t N : Nat), t + d = T.length → d < N → (∃ u, t ≤ u ∧ u < T.length ∧ gT T u = tm ∧ lX9_findTerm_6 z tm.1 tm.2.1 (nI tm.2.2.length) N (-(nI 1)) (nI t) = some (nI u)) ∨ ((∀ u, t ≤ u → u < T.length → gT T u ≠ tm) ∧ lX9_findTerm_6 z tm.1 tm.2.1 (nI tm.2.2.length) N (-(nI 1)) (nI t) = some (-(nI 1))) := by
  have hT1 := hW.1
  have ho1 := ho.1
  intro d
  induction d with
  | zero =>
    intro t N hi hN
    obtain ⟨N, rfl⟩ : ∃ M, N = M + 1 := ⟨N - 1, by omega⟩
    refine Or.inr ⟨fun u h1 h2 => by omega, ?_⟩
    rw [lX9_findTerm_6.eq_2]
    simp (disch := omega) only [hT.1, nI_leI, if_pos]
  | succ d ih =>
    intro t N hi hN
    obtain ⟨N, rfl⟩ : ∃ M, N = M + 1 := ⟨N - 1, by omega⟩
    have ht : t < T.length := by omega
    obtain ⟨t1, t2, t3, t4⟩ := hT.2 t ht
    have ws := (hW.2 t ht).1
    have key : gT T t = tm ↔ (kd T t = tm.1 ∧ sh T t = tm.2.1 ∧ sz T t = tm.2.2.length ∧ ∀ j, 0 ≤ j → j < tm.2.2.length → pt T t j = tm.2.2.getD j 0) := by
      constructor
      · intro e
        have e1 : kd T t = tm.1 := congrArg (fun x : Tm => x.1) e
        have e2 : sh T t = tm.2.1 := congrArg (fun x : Tm => x.2.1) e
        have e3 : pts T t = tm.2.2 := congrArg (fun x : Tm => x.2.2) e
        exact ⟨e1, e2, congrArg List.length e3, fun j _ _ => congrArg (fun l : List Nat => l.getD j 0) e3⟩
      · rintro ⟨e1, e2, e3, e4⟩
        have : pts T t = tm.2.2 := by
          refine List.ext_getElem e3 fun i g1 g2 => ?_
          have := e4 i (Nat.zero_le _) g2
          have e5 : (pts T t).getD i 0 = tm.2.2.getD i 0 := this
          rw [List.getD_eq_getElem?_getD, List.getD_eq_getElem?_getD, List.getElem?_eq_getElem g1, List.getElem?_eq_getElem g2] at e5
          exact e5
        exact Prod.ext e1 (Prod.ext e2 this)
    have no : gT T t ≠ tm → ((∃ u, t ≤ u ∧ u < T.length ∧ gT T u = tm ∧ lX9_findTerm_6 z tm.1 tm.2.1 (nI tm.2.2.length) N (-(nI 1)) (nI (t + 1)) = some (nI u)) ∨ ((∀ u, t ≤ u → u < T.length → gT T u ≠ tm) ∧ lX9_findTerm_6 z tm.1 tm.2.1 (nI tm.2.2.length) N (-(nI 1)) (nI (t + 1)) = some (-(nI 1)))) := by
      intro hne
      rcases ih (t + 1) N (by omega) (by omega) with ⟨u, u1, u2, u3, u4⟩ | ⟨h1, h2⟩
      · exact Or.inl ⟨u, by omega, u2, u3, u4⟩
      · refine Or.inr ⟨fun u g1 g2 => ?_, h2⟩
        rcases Nat.eq_or_lt_of_le g1 with rfl | g1
        · exact hne
        · exact h1 u g1 g2
    have off : jX9_findTerm_58 (lX9_findTerm_6 z tm.1 tm.2.1 (nI tm.2.2.length) N) z tm.1 tm.2.1 (nI tm.2.2.length) (nI t) (nI 0) = lX9_findTerm_6 z tm.1 tm.2.1 (nI tm.2.2.length) N (-(nI 1)) (nI (t + 1)) := by
      unfold jX9_findTerm_58
      obtain ⟨M, hM⟩ : ∃ M, FU = M + 1 := ⟨FU - 1, by have := FU_ge; omega⟩
      rw [hM, lX9_findTerm_63.eq_2]
      simp (disch := omega) only [lit, if_true, ite_self]
      unfold jX9_findTerm_109
      simp (disch := omega) only [lit, litm, if_true, bnd_s, nI_add]
    rw [lX9_findTerm_6.eq_2]
    simp (disch := omega) only [hT.1, nI_leI, if_neg, lit, litm, m1_le0, if_false, inb_t, gd_t, rd_nI, t1, t2, t3, nI_eq]
    by_cases q1 : kd T t = tm.1
    · rw [if_pos q1]
      by_cases q2 : sh T t = tm.2.1
      · rw [if_pos q2]
        by_cases q3 : sz T t = tm.2.2.length
        · rw [if_pos q3]
          obtain ⟨r, e1, e2⟩ := mfind_in hT hW ht q3 ho.2.1 ha (k109 := jX9_findTerm_109 (lX9_findTerm_6 z tm.1 tm.2.1 (nI tm.2.2.length) N) z tm.1 tm.2.1 (nI tm.2.2.length) (nI t)) (w1 := tm.1) (w2 := tm.2.1) tm.2.2.length 0 FU (by omega) (by have := FU_ge; omega)
          unfold jX9_findTerm_58
          simp only [lit]
          rw [e1]
          unfold jX9_findTerm_109
          rcases e2 with ⟨rfl, e2⟩ | ⟨rfl, e2⟩
          · refine Or.inl ⟨t, Nat.le_refl _, ht, key.mpr ⟨q1, q2, q3, e2⟩, ?_⟩
            obtain ⟨M, rfl⟩ : ∃ M, N = M + 1 := ⟨N - 1, by omega⟩
            simp (disch := omega) only [lit, nI_eq, if_neg, bnd_s, nI_add]
            rw [lX9_findTerm_6.eq_2]
            simp (disch := omega) only [lit, nI_leI, Nat.zero_le, if_true, ite_self]
          · simp (disch := omega) only [lit, litm, if_true, bnd_s, nI_add]
            exact no fun e => e2 (key.mp e).2.2.2
        · rw [if_neg q3, off]
          exact no fun e => q3 (key.mp e).2.2.1
      · rw [if_neg q2, off]
        exact no fun e => q2 (key.mp e).2.1
    · rw [if_neg q1, off]
      exact no fun e => q1 (key.mp e).1
theorem made_loop {l : List Nat} (hn : T.length < 120) (hl : l.length ≤ 3) {k92 : fS → Option (Int32 × fS)} : ∀ (d i N : Nat) (z : fS), i + d = l.length → d < N → z 0 4 = nI T.length → (∀ j, j < l.length → z 19 j = nI (l.getD j 0)) → (∀ j, j < i → z 4 (3 * T.length + j) = nI (l.getD j 0)) → ∃ z', lX9_made_59 k92 (nI l.length) N (nI i) z = k92 z' ∧ (∀ j, j < l.length → z' 4 (3 * T.length + j) = nI (l.getD j 0)) ∧ (∀ p, p < 3 * T.length → z' 4 p = z 4 p) ∧ (∀ j, j ≠ 4 → z' j = z j) := by
  intro d
  induction d with
  | zero =>
    intro i N z hi hN h4 h19 hd
    obtain ⟨N, rfl⟩ : ∃ M, N = M + 1 := ⟨N - 1, by omega⟩
    refine ⟨z, ?_, fun j hj => hd j (by omega), fun _ _ => rfl, fun _ _ => rfl⟩
    rw [lX9_made_59.eq_2]
    simp (disch := omega) only [nI_leI, if_pos]
  | succ d ih =>
    intro i N z hi hN h4 h19 hd
    obtain ⟨N, rfl⟩ : ∃ M, N = M + 1 := ⟨N - 1, by omega⟩
    obtain ⟨z', e1, e2, e3, e4⟩ := ih (i + 1) N (wrr z 4 (upd (z 4) (3 * T.length + i) (nI (l.getD i 0)))) (by omega) (by omega) (by rw [wrr_n (by omega)]; exact h4) (fun j hj => by rw [wrr_n (by omega)]; exact h19 j hj) (fun j hj => by
      rw [wrr_e]
      by_cases e : j = i
      · subst e; rw [upd_e]
      · rw [upd_n (by omega)]; exact hd j (by omega))
    refine ⟨z', ?_, e2, fun p hp => by rw [e3 p hp, wrr_e, upd_n (by omega)], fun j hj => (e4 j hj).trans (wrr_n hj)⟩
    rw [lX9_made_59.eq_2]
    have := h19 i (by omega)
    simp (disch := omega) only [nI_leI, if_neg, inb_t, gd_t, h4, lit, nI_mul, nI_add, rd_nI, this, wr_nI, bnd_s]
    exact e1
theorem made_ok (hT : MT T z) (hW : WT T) (hU : Uq T) (ho : OkT T.length tm) (ha : ∀ i, i < tm.2.2.length → z 19 i = nI (tm.2.2.getD i 0)) : (∃ t, mkT T tm = some (t, T) ∧ t < T.length ∧ fX9_made z tm.1 tm.2.1 (nI tm.2.2.length) = some (nI t, z)) ∨ (mkT T tm = none ∧ fX9_made z tm.1 tm.2.1 (nI tm.2.2.length) = some (-(nI 1), z)) ∨ (mkT T tm = some (T.length, T ++ [tm]) ∧ T.length < 120 ∧ ∃ z', fX9_made z tm.1 tm.2.1 (nI tm.2.2.length) = some (nI T.length, z') ∧ MT (T ++ [tm]) z' ∧ (∀ j, 4 < j → z' j = z j) ∧ (∀ f, f ≠ 4 → f ≠ 30 → z' 0 f = z 0 f) ∧ z' 0 30 = nI 0) := by
  have hT1 := hW.1
  have ho' : OkT 120 tm := ⟨ho.1, fun p hp => by have := ho.2.1 p hp; omega, ho.2.2⟩
  have ho1 := ho.1
  have hf : fX9_findTerm z tm.1 tm.2.1 (nI tm.2.2.length) = lX9_findTerm_6 z tm.1 tm.2.1 (nI tm.2.2.length) FU (-(nI 1)) (nI 0) := id rfl
  unfold fX9_made
  rw [hf]
  rcases mfind_loop hT hW ho' ha T.length 0 FU (by omega) (by have := FU_ge; omega) with ⟨u, _, u2, u3, u4⟩ | ⟨hn, e⟩
  · refine Or.inl ⟨u, mkT_old hU u2 u3, u2, ?_⟩
    rw [u4, bp_s]
    simp (disch := omega) only [lit, nI_leI, if_pos]
  · rw [e, bp_s]
    have hn' : ∀ t, t < T.length → gT T t ≠ tm := fun t ht => hn t (Nat.zero_le _) ht
    by_cases hl : T.length < 120
    · refine Or.inr (Or.inr ⟨mkT_new hn' hl, hl, ?_⟩)
      obtain ⟨z1, hz1⟩ : ∃ y : fS, y = wrr (wrr (wrr z 1 (upd (z 1) T.length tm.1)) 2 (upd (z 2) T.length tm.2.1)) 3 (upd (z 3) T.length (nI tm.2.2.length)) := ⟨_, rfl⟩
      have f0 : ∀ j, j = 0 ∨ 3 < j → z1 j = z j := fun j hj => by rw [hz1]; simp (disch := omega) only [wrr_n]
      obtain ⟨z2, e1, e2, e3, e4⟩ := made_loop (T := T) hl ho1 (k92 := jX9_made_92) tm.2.2.length 0 FU z1 (by omega) (by have := FU_ge; omega) (by rw [f0 0 (by omega)]; exact hT.1) (fun j hj => by rw [f0 19 (by omega)]; exact ha j hj) (fun j hj => by omega)
      have g0 : z2 0 = z 0 := by rw [e4 0 (by omega), f0 0 (by omega)]
      refine ⟨wrr z2 0 (upd (upd (z 0) 4 (nI (T.length + 1))) 30 (nI 0)), ?_, ⟨?_, ?_⟩, ?_, ?_, ?_⟩
      · simp (disch := omega) only [lit, m1_le0, if_false, hT.1, nI_eq, if_neg, inb_t, gd_t, wr_nI, bnd_s, wrr_n]
        rw [← hz1, e1]
        unfold jX9_made_92
        have : z2 0 4 = nI T.length := by rw [g0]; exact hT.1
        simp (disch := omega) only [wf_w, bnd_s, this, lit, nI_add, wrr_e, wrr_wrr, upd_n, upd_e, nI_sub, g0]
        simp only [Nat.add_sub_cancel]
      · rw [wrr_e, upd_n (by omega), upd_e]; simp
      · intro t ht
        have lenT : (T ++ [tm]).length = T.length + 1 := by simp
        rw [lenT] at ht
        have hag := AgT.app T [tm] (Nat.le_refl _)
        have ksh : kd (T ++ [tm]) T.length = tm.1 ∧ sh (T ++ [tm]) T.length = tm.2.1 ∧ pts (T ++ [tm]) T.length = tm.2.2 := by
          have := gT_r (T := T) (tm := tm)
          exact ⟨congrArg (fun x : Tm => x.1) this, congrArg (fun x : Tm => x.2.1) this, congrArg (fun x : Tm => x.2.2) this⟩
        have szn : sz (T ++ [tm]) T.length = tm.2.2.length := congrArg List.length ksh.2.2
        have ptn : ∀ i, pt (T ++ [tm]) T.length i = tm.2.2.getD i 0 := fun i => congrArg (fun l : List Nat => l.getD i 0) ksh.2.2
        have d1 : z2 1 = upd (z 1) T.length tm.1 := by rw [e4 1 (by omega), hz1]; simp (disch := omega) only [wrr_n, wrr_e]
        have d2 : z2 2 = upd (z 2) T.length tm.2.1 := by rw [e4 2 (by omega), hz1]; simp (disch := omega) only [wrr_n, wrr_e]
        have d3 : z2 3 = upd (z 3) T.length (nI tm.2.2.length) := by rw [e4 3 (by omega), hz1]; simp (disch := omega) only [wrr_n, wrr_e]
        simp (disch := omega) only [wrr_n, d1, d2, d3]
        by_cases e : t = T.length
        · subst e
          rw [upd_e, upd_e, upd_e, ksh.1, ksh.2.1, szn]
          exact ⟨rfl, rfl, rfl, fun i hi => by rw [ptn i]; exact e2 i hi⟩
        · have ht' : t < T.length := by omega
          have ws := (hW.2 t ht').1
          rw [upd_n e, upd_n e, upd_n e, hag.kd ht', hag.sh ht', hag.sz ht']
          obtain ⟨c1, c2, c3, c4⟩ := hT.2 t ht'
          exact ⟨c1, c2, c3, fun i hi => by rw [hag.pt ht' i, e3 _ (by omega), f0 4 (by omega)]; exact c4 i hi⟩
      · intro j hj
        rw [wrr_n (by omega), e4 j (by omega), f0 j (by omega)]
      · intro f h1 h2
        rw [wrr_e, upd_n h2, upd_n h1]
      · rw [wrr_e, upd_e]
    · refine Or.inr (Or.inl ⟨mkT_full hn' hl, ?_⟩)
      have e120 : T.length = 120 := by omega
      simp (disch := omega) only [lit, m1_le0, if_false, hT.1, e120, if_true]
end MM
end
section
/-! the relation between the class and the reference -/
def RX (T : List Tm) (S : List Sy) (tk : Nat → Bool) (ps pt : Nat) (z : fS) : Prop := HX T z ∧ XSy S tk z ∧ Pq ps pt z ∧ (∃ ro, JI T (fun _ _ => False) 28 T.length ro [] [] z) ∧ (∃ ro, JI T (EX S (TK tk) none) ps T.length ro [] [] z)
def Cs (T : List Tm) (S : List Sy) (tk : Nat → Bool) : Prop := (∀ s, tk s = true → s < S.length) ∧ ¬ Cl T T.length (EX S (TK tk) none) (UX S (TK tk) none)
def RB (T : List Tm) (S : List Sy) (tk : Nat → Bool) (lv : Nat) (rm : Nat → Nat → Bool) : Prop := WS T.length S ∧ Cs T S tk ∧ lv ≤ 10 ∧ ∀ l, l < lv → Cs T S (rm l)
def RL (lv : Nat) (rm : Nat → Nat → Bool) (zX zM : fS) : Prop := zX 11 7 = nI lv ∧ zM 0 11 = nI lv ∧ ∀ l, l < lv → ∀ s, s < 100 → zX 16 (100 * l + s) = bI (rm l s) ∧ zM 9 (100 * l + s) = bI (rm l s)
def RW (n : Nat) (zX zM : fS) : Prop := ∃ k, k ≤ 10 ∧ zX 0 10 = nI k ∧ zM 0 14 = nI k ∧ ∀ i, i < k → ∃ a b, a < n ∧ b < n ∧ zX 73 i = nI a ∧ zM 10 i = nI a ∧ zX 74 i = nI b ∧ zM 11 i = nI b
def RP (n : Nat) (zX zM : fS) : Prop := ∃ k, k ≤ 100 ∧ zX 63 7 = nI k ∧ zM 0 20 = nI k ∧ ∀ i, i < k → zX 64 i = zM 12 i ∧ zX 67 i = zM 15 i ∧ zX 68 i = zM 16 i ∧ ∃ a b, a < n ∧ b < n ∧ zX 65 i = nI a ∧ zM 13 i = nI a ∧ zX 66 i = nI b ∧ zM 14 i = nI b
def RU (i : Nat) (z : fS) : Prop := ∃ m, m ≤ 3456000 * i ∧ z 58 5 = nI m ∧ ∀ t, t < 120 → ∃ m', m' ≤ m ∧ z 60 t = nI m'
def RR (i n : Nat) (lv : Nat) (rm : Nat → Nat → Bool) (zX zM : fS) : Prop := RL lv rm zX zM ∧ RW n zX zM ∧ RP n zX zM ∧ zX 0 11 = zM 0 25 ∧ RU i zX
def RK (zX zM : fS) : Prop := (∃ C, XCr 69 C zX ∧ MCr 17 22 C zM) ∧ ∃ C, XCr 71 C zX ∧ MCr 18 24 C zM
def RQ (i : Nat) (T : List Tm) (S : List Sy) (tk : Nat → Bool) (lv : Nat) (rm : Nat → Nat → Bool) (ps pt : Nat) (zX zM : fS) : Prop := RX T S tk ps pt zX ∧ RM T S tk zM ∧ RB T S tk lv rm ∧ RR i T.length lv rm zX zM ∧ RK zX zM
def Rel (i : Nat) (zX zM : fS) : Prop := zX 0 12 = zM 0 26 ∧ ∃ T S tk lv rm ps pt, RQ i T S tk lv rm ps pt zX zM
section REL
variable {T : List Tm} {S : List Sy} {tk : Nat → Bool} {lv : Nat} {rm : Nat → Nat → Bool} {ps pt i : Nat} {zX zM z z' : fS}
theorem RR.fr {n n' i' : Nat} (h : RR i n lv rm zX zM) (hn : n ≤ n') (hi : i ≤ i') (eX : ∀ j, j = 16 ∨ j = 58 ∨ j = 60 ∨ (63 ≤ j ∧ j ≤ 68) ∨ j = 73 ∨ j = 74 → z j = zX j) (e0 : z 0 10 = zX 0 10) (e1 : z 0 11 = zX 0 11) (e2 : z 11 7 = zX 11 7) (eM : ∀ j, 9 ≤ j → j ≤ 16 → z' j = zM j) (m0 : ∀ f, f = 11 ∨ f = 14 ∨ f = 20 ∨ f = 25 → z' 0 f = zM 0 f) : RR i' n' lv rm z z' := by
  obtain ⟨⟨l1, l2, l3⟩, ⟨k, w1, w2, w3, w4⟩, ⟨k', p1, p2, p3, p4⟩, h4, m, u1, u2, u3⟩ := h
  refine ⟨⟨e2.trans l1, (m0 11 (by omega)).trans l2, ?_⟩, ⟨k, w1, e0.trans w2, (m0 14 (by omega)).trans w3, ?_⟩, ⟨k', p1, ?_, (m0 20 (by omega)).trans p3, ?_⟩, ?_, m, by omega, ?_, ?_⟩
  · rw [eX 16 (by omega), eM 9 (by omega) (by omega)]; exact l3
  · rw [eX 73 (by omega), eX 74 (by omega), eM 10 (by omega) (by omega), eM 11 (by omega) (by omega)]
    intro j hj
    obtain ⟨a, b, h1, h2, h3⟩ := w4 j hj
    exact ⟨a, b, by omega, by omega, h3⟩
  · rw [eX 63 (by omega)]; exact p2
  · rw [eX 64 (by omega), eX 65 (by omega), eX 66 (by omega), eX 67 (by omega), eX 68 (by omega), eM 12 (by omega) (by omega), eM 13 (by omega) (by omega), eM 14 (by omega) (by omega), eM 15 (by omega) (by omega), eM 16 (by omega) (by omega)]
    intro j hj
    obtain ⟨q1, q2, q3, a, b, h1, h2, h3⟩ := p4 j hj
    exact ⟨q1, q2, q3, a, b, by omega, by omega, h3⟩
  · rw [e1, m0 25 (by omega)]; exact h4
  · rw [eX 58 (by omega)]; exact u2
  · rw [eX 60 (by omega)]; exact u3
theorem MCr.fr {cell fld : Nat} {K : List Nat} (h : MCr cell fld K z) (e0 : z' 0 fld = z 0 fld) (e1 : z' cell = z cell) : MCr cell fld K z' := by
  unfold MCr; rw [e0, e1]; exact h
theorem RK.fr (h : RK zX zM) (eX : ∀ j, 69 ≤ j → j ≤ 72 → z j = zX j) (eM : ∀ j, j = 17 ∨ j = 18 → z' j = zM j) (m0 : ∀ f, f = 22 ∨ f = 24 → z' 0 f = zM 0 f) : RK z z' := by
  obtain ⟨⟨C, c1, c2⟩, D, d1, d2⟩ := h
  exact ⟨⟨C, c1.fr (eX 69 (by omega) (by omega)) (eX 70 (by omega) (by omega)), c2.fr (m0 22 (by omega)) (eM 17 (by omega))⟩, D, d1.fr (eX 71 (by omega) (by omega)) (eX 72 (by omega) (by omega)), d2.fr (m0 24 (by omega)) (eM 18 (by omega))⟩
theorem RX.fr (h : RX T S tk ps pt z) (hA : HA [] [] z') (e : ∀ j, (j < 18 ∧ j ≠ 0) ∨ (28 ≤ j ∧ j ≤ 57 ∧ ¬ (pt ≤ j ∧ j ≤ pt + 9)) → (j = 11 → ∀ f, f ≠ 7 → z' 11 f = z 11 f) ∧ (j = 16 ∨ j = 11 ∨ z' j = z j)) : RX T S tk ps pt z' := by
  obtain ⟨h1, h2, h3, ⟨ro1, h4⟩, ro2, h5⟩ := h
  have hn := h3.num
  have e' : ∀ j, (j < 16 ∧ j ≠ 0 ∧ j ≠ 11) ∨ j = 17 ∨ (28 ≤ j ∧ j ≤ 57 ∧ ¬ (pt ≤ j ∧ j ≤ pt + 9)) → z' j = z j := fun j hj => by
    rcases (e j (by omega)).2 with q | q | q
    · omega
    · omega
    · exact q
  have jf : ∀ {E : Nat → Nat → Prop} {pb k : Nat} {ro : Nat → Nat}, JI T E pb k ro [] [] z → isPb pb → pb ≠ pt → JI T E pb k ro [] [] z' := by
    intro E pb k ro h hp hne
    obtain ⟨⟨hT, hPl, hS, hN0, hR, hH, _⟩, s1, s2, s3, s4, s5, s6, s7, s8⟩ := h
    have hd : 28 ≤ pb ∧ pb ≤ 48 ∧ (pb + 10 ≤ pt ∨ pt + 10 ≤ pb) := by rcases hp with rfl | rfl | rfl <;> omega
    have e2 : ∀ j, pb ≤ j → j ≤ pb + 9 → z' j = z j := fun j h1 h2 => e' j (by omega)
    have hT' : HT T z' := by
      unfold HT
      rw [e' 1 (by omega), e' 2 (by omega), e' 3 (by omega), e' 4 (by omega), e' 5 (by omega)]
      exact hT
    have hPl' : HPl T z' := by
      unfold HPl
      rw [e' 9 (by omega), e' 10 (by omega)]
      exact hPl
    refine ⟨⟨hT', hPl', hS.fr fun j h1 h2 => e2 j h1 (by omega), hN0.fr fun j h1 h2 => e2 j h1 (by omega), hR.fr (e2 _ (by omega) (by omega)), hH.fr fun j h1 h2 => e2 j (by omega) h2, hA⟩, s1, s2, s3, s4, ?_, ?_, ?_, ?_⟩
    · rw [e2 (pb + 6) (by omega) (by omega)]; exact s5
    · rw [e2 (pb + 9) (by omega) (by omega)]; exact s6
    · rw [e2 (pb + 9) (by omega) (by omega)]; exact s7
    · rw [e2 (pb + 9) (by omega) (by omega)]; exact s8
  have e11 : ∀ f, f ≠ 7 → z' 11 f = z 11 f := (e 11 (by omega)).1 rfl
  refine ⟨?_, ?_, h3.fr (e' 17 (by omega)), ⟨ro1, jf h4 (Or.inl rfl) (by omega)⟩, ro2, jf h5 h3.isS (by omega)⟩
  · obtain ⟨a1, a2, a3, a4, a5, H, a6, a7⟩ := h1
    refine ⟨a1, a2, ?_, ?_, ?_, H, a6, ?_⟩
    · unfold HT
      rw [e' 1 (by omega), e' 2 (by omega), e' 3 (by omega), e' 4 (by omega), e' 5 (by omega)]
      exact a3
    · unfold HP; rw [e' 9 (by omega), e' 10 (by omega)]; exact a4
    · unfold HC; rw [e' 7 (by omega), e' 8 (by omega)]; exact a5
    · unfold HB; rw [e' 6 (by omega)]; exact a7
  · unfold XSy
    rw [e11 5 (by omega), e11 6 (by omega), e' 12 (by omega), e' 13 (by omega), e' 14 (by omega), e' 15 (by omega)]
    exact h2
theorem RX.ag (h : RX T S tk ps pt z) : HA [] [] z := by
  obtain ⟨_, _, _, ⟨ro1, h4⟩, _⟩ := h
  exact h4.agenda
/-- the class has changed nothing but what is for a moment -/
theorem RX.sc (h : RX T S tk ps pt z) (hA : HA [] [] z') (e : ∀ j, j < 18 → j ≠ 0 → z' j = z j) (e2 : ∀ j, 28 ≤ j → j ≤ 57 → ¬ (pt ≤ j ∧ j ≤ pt + 9) → z' j = z j) : RX T S tk ps pt z' := by
  refine h.fr hA fun j hj => ⟨fun _ f _ => by rw [e 11 (by omega) (by omega)], Or.inr (Or.inr ?_)⟩
  rcases hj with ⟨h1, h2⟩ | ⟨h1, h2, h3⟩
  · exact e j h1 h2
  · exact e2 j h1 h2 h3
theorem RQ.up (h : RQ i T S tk lv rm ps pt zX zM) : RQ (i + 1) T S tk lv rm ps pt zX zM := by
  obtain ⟨h1, h2, h3, h4, h5⟩ := h
  exact ⟨h1, h2, h3, h4.fr (Nat.le_refl _) (by omega) (fun _ _ => rfl) rfl rfl rfl (fun _ _ _ => rfl) (fun _ _ => rfl), h5⟩
theorem RM.f0 {f : Nat} {v : Int32} (hS : S.length ≤ 100) (h : RM T S tk z) (h1 : f ≠ 4) (h2 : f ≠ 9) (h3 : f ≠ 30) : RM T S tk (wrr z 0 (upd (z 0) f v)) := by
  obtain ⟨a1, a2, a3⟩ := h
  refine ⟨a1.fr (by rw [wrr_e, upd_n (by omega)]) (fun j _ _ => wrr_n (by omega)), a2.fr (by rw [wrr_e, upd_n (by omega)]) (fun j _ _ s _ => by rw [wrr_n (by omega)]) hS, ?_⟩
  rw [wrr_e, upd_n (by omega)]
  rcases a3 with a3 | ⟨a3, on, a4, a5⟩
  · exact Or.inl a3
  · exact Or.inr ⟨a3, on, fun t ht => by rw [wrr_n (by omega)]; exact a4 t ht, a5⟩
/-- the finding is told -/
theorem RQ.fin (h : RQ i T S tk lv rm ps pt zX zM) (v : Int32) : Rel (i + 1) (wrr zX 0 (upd (zX 0) 12 v)) (wrr zM 0 (upd (zM 0) 26 v)) := by
  obtain ⟨h1, h2, h3, h4, h5⟩ := h
  refine ⟨by rw [wrr_e, wrr_e, upd_e, upd_e], T, S, tk, lv, rm, ps, pt, ?_, h2.f0 h3.1.1 (by omega) (by omega) (by omega), h3, ?_, ?_⟩
  · exact h1.sc (h1.ag.fr fun j _ _ => wrr_n (by omega)) (fun j _ h0 => wrr_n h0) (fun j _ _ _ => wrr_n (by omega))
  · exact h4.fr (Nat.le_refl _) (by omega) (fun j hj => wrr_n (by omega)) (by rw [wrr_e, upd_n (by omega)]) (by rw [wrr_e, upd_n (by omega)]) (by rw [wrr_n (by omega)]) (fun j _ _ => wrr_n (by omega)) (fun f hf => by rw [wrr_e, upd_n (by omega)])
  · exact h5.fr (fun j _ _ => wrr_n (by omega)) (fun j hj => wrr_n (by omega)) (fun f hf => by rw [wrr_e, upd_n (by omega)])
/-- both change what is for a moment only -/
theorem RQ.sc (h : RQ i T S tk lv rm ps pt zX zM) (hA : HA [] [] z) (eX : ∀ j, j < 18 ∨ (28 ≤ j ∧ j ≤ 57 ∧ ¬ (pt ≤ j ∧ j ≤ pt + 9)) ∨ j = 58 ∨ j = 60 ∨ (63 ≤ j ∧ j ≤ 74) → z j = zX j) (hM : RM T S tk z') (eM : ∀ j, 9 ≤ j → j ≤ 18 → z' j = zM j) (m0 : ∀ f, f ≠ 30 → f ≠ 40 → f ≠ 41 → z' 0 f = zM 0 f) : RQ i T S tk lv rm ps pt z z' := by
  obtain ⟨h1, h2, h3, h4, h5⟩ := h
  refine ⟨h1.sc hA (fun j _ _ => eX j (by omega)) (fun j _ _ _ => eX j (by omega)), hM, h3, h4.fr (Nat.le_refl _) (Nat.le_refl _) (fun j hj => eX j (by omega)) (by rw [eX 0 (by omega)]) (by rw [eX 0 (by omega)]) (by rw [eX 11 (by omega)]) (fun j _ _ => eM j (by omega) (by omega)) (fun f hf => m0 f (by omega) (by omega) (by omega)), h5.fr (fun j _ _ => eX j (by omega)) (fun j hj => eM j (by omega) (by omega)) (fun f hf => m0 f (by omega) (by omega) (by omega))⟩
theorem RQ.mf (h : RQ i T S tk lv rm ps pt zX zM) (hM : RM T S tk z') (e : MFr 0 30 zM z') : RQ i T S tk lv rm ps pt zX z' :=
  h.sc h.1.ag (fun _ _ => rfl) hM (fun j _ _ => e.1 j (by omega) (by omega) (by omega) (by omega) (by omega)) (fun f h1 _ _ => e.2.2 f h1 h1)
end REL
end
section
/-! new terms are admitted -/
section ADF
variable {T R : List Tm} {S : List Sy} {tk : Nat → Bool} {lv : Nat} {rm : Nat → Nat → Bool} {ps pt i : Nat} {zX zM z z' z1 zM1 : fS} {E U : Nat → Nat → Prop} {tm : Tm}
theorem noCl_step (hW : WT T) {k : Nat} (hk : k < T.length) (hE : ∀ a b, E a b → a < k ∧ b < k) (hU : ∀ a b, U a b → a < k ∧ b < k) (h : ¬ Cl T k E U) : ¬ Cl T (k + 1) E U := by
  have ex := One.ext hW hk hE
  rintro (⟨a, b, h1, h2⟩ | ⟨u, v, u1, u2, u3, u4, u5, u6⟩)
  · have := hU a b h1
    exact h (Or.inl ⟨a, b, h1, ex.1 a b this.1 this.2 h2⟩)
  · by_cases q1 : u = k
    · subst q1
      have := ex.2 ((hW.2 u hk).2.2.2.2.1 u4) v u2 u6
      exact u3 this.symm
    · by_cases q2 : v = k
      · subst q2
        have := ex.2 ((hW.2 v hk).2.2.2.2.1 u5) u u1 u6.sm
        exact u3 this
      · exact h (Or.inr ⟨u, v, by omega, by omega, u3, u4, u5, ex.1 u v (by omega) (by omega) u6⟩)
theorem noCl_steps (hW : WT T) : ∀ (d k : Nat), k + d = T.length → (∀ a b, E a b → a < k ∧ b < k) → (∀ a b, U a b → a < k ∧ b < k) → ¬ Cl T k E U → ¬ Cl T T.length E U := by
  intro d
  induction d with
  | zero => intro k hk _ _ h; rw [show T.length = k by omega]; exact h
  | succ d ih =>
    intro k hk hE hU h
    exact ih (k + 1) (by omega) (fun a b e => by have := hE a b e; omega) (fun a b e => by have := hU a b e; omega) (noCl_step hW (by omega) hE hU h)
theorem Cl.ag {T' : List Tm} {k : Nat} (hg : AgT T T' k) (h : Cl T' k E U) : Cl T k E U := by
  rcases h with ⟨a, b, h1, h2⟩ | ⟨u, v, u1, u2, u3, u4, u5, u6⟩
  · exact Or.inl ⟨a, b, h1, hg.symm.one h2⟩
  · rw [hg.kd u1] at u4
    rw [hg.kd u2] at u5
    exact Or.inr ⟨u, v, u1, u2, u3, u4, u5, hg.symm.one u6⟩
theorem EX_lt {I : Nat → Prop} (hS : WS T.length S) {a b : Nat} (h : EX S I none a b) : a < T.length ∧ b < T.length := by
  rcases h with ⟨s, s1, _, _, rfl, rfl⟩ | h
  · exact hS.2 s s1
  · cases h
theorem UX_lt {I : Nat → Prop} (hS : WS T.length S) {a b : Nat} (h : UX S I none a b) : a < T.length ∧ b < T.length := by
  rcases h with ⟨s, s1, _, _, rfl, rfl⟩ | h
  · exact hS.2 s s1
  · cases h
theorem Cs.grow (hW : WT (T ++ R)) (hS : WS T.length S) (h : Cs T S tk) : Cs (T ++ R) S tk := by
  refine ⟨h.1, ?_⟩
  refine noCl_steps hW R.length T.length (by simp) (fun a b e => EX_lt hS e) (fun a b e => UX_lt hS e) fun hc => h.2 ?_
  exact hc.ag (AgT.app T R (Nat.le_refl _))
theorem RB.grow (hW : WT (T ++ R)) (h : RB T S tk lv rm) : RB (T ++ R) S tk lv rm := by
  obtain ⟨h1, h2, h3, h4⟩ := h
  refine ⟨⟨h1.1, fun s hs => ?_⟩, h2.grow hW h1, h3, fun l hl => (h4 l hl).grow hW h1⟩
  have := h1.2 s hs
  simp
  omega
theorem adm_loop (hW : WT T) (hp : isPb ps) (h28 : ps ≠ 28) : ∀ (d k N : Nat) (ro1 ro2 : Nat → Nat) (z : fS), k + d = T.length → d < N → pcell (z 17 3) = ps → (∀ a b, E a b → a < k ∧ b < k) → JI T (fun _ _ => False) 28 k ro1 [] [] z → JI T E ps k ro2 [] [] z → ∃ z' ro1' ro2', lX2_admitFrom_2 N (nI k) z = some z' ∧ JI T (fun _ _ => False) 28 T.length ro1' [] [] z' ∧ JI T E ps T.length ro2' [] [] z' ∧ (∀ j, ¬ (23 ≤ j ∧ j ≤ 37) → ¬ (ps ≤ j ∧ j ≤ ps + 9) → z' j = z j) := by
  have hT1 := hW.1
  have hd : 38 ≤ ps := by rcases hp with rfl | rfl | rfl <;> omega
  intro d
  induction d with
  | zero =>
    intro k N ro1 ro2 z hk hN h17 hE j1 j2
    obtain ⟨N, rfl⟩ : ∃ M, N = M + 1 := ⟨N - 1, by omega⟩
    have e : k = T.length := by omega
    subst e
    refine ⟨z, ro1, ro2, ?_, j1, j2, fun _ _ _ => rfl⟩
    rw [lX2_admitFrom_2.eq_2]
    unfold fX7_count
    simp (disch := omega) only [j1.1.1.1, bp_s, nI_leI, Nat.le_refl, if_true]
  | succ d ih =>
    intro k N ro1 ro2 z hk hN h17 hE j1 j2
    obtain ⟨N, rfl⟩ : ∃ M, N = M + 1 := ⟨N - 1, by omega⟩
    obtain ⟨z1, r1, a1, a2, a3⟩ := admit_ok (Or.inl rfl) (show k < T.length by omega) hW (fun _ _ h => h.elim) j1
    have j2' := j2.fr2 a2.agenda fun j hj => a3 j (by omega) (by omega)
    obtain ⟨z2, r2, b1, b2, b3⟩ := admit_ok hp (show k < T.length by omega) hW hE j2'
    have j1' := a2.fr2 b2.agenda fun j hj => b3 j (by omega) (by omega)
    have e17 : pcell (z1 17 3) = ps := by rw [a3 17 (by omega) (by omega)]; exact h17
    obtain ⟨z', ro1', ro2', e1, e2, e3, e4⟩ := ih (k + 1) N r1 r2 z2 (by omega) (by omega) (by rw [b3 17 (by omega) (by omega)]; exact e17) (fun a b e => by have := hE a b e; omega) j1' b2
    refine ⟨z', ro1', ro2', ?_, e2, e3, fun j h1 h2 => by rw [e4 j h1 h2, b3 j (by omega) (by omega), a3 j (by omega) (by omega)]⟩
    rw [lX2_admitFrom_2.eq_2]
    unfold fX7_count
    simp (disch := omega) only [j1.1.1.1, bp_s, nI_leI, if_neg, a1, e17, b1, bnd_s, lit, nI_add]
    exact e1
/-- terms that were made become known to the court -/
theorem adm_ok (h1 : RX T S tk ps pt zX) (h3 : RB T S tk lv rm) (hx : HX (T ++ R) z1) (e : ∀ j, 11 ≤ j → j ≤ 57 → z1 j = zX j) (hM : RM (T ++ R) S tk zM1) (hR : RR i T.length lv rm z1 zM1) (hK : RK z1 zM1) : ∃ z2, fX2_admitFrom z1 (nI T.length) = some z2 ∧ RQ i (T ++ R) S tk lv rm ps pt z2 zM1 ∧ (∀ j, 58 ≤ j → z2 j = z1 j) := by
  obtain ⟨a1, a2, a3, ⟨ro1, a4⟩, ro2, a5⟩ := h1
  have hn := a3.num
  have hW' := hx.1
  have hg : AgT T (T ++ R) T.length := AgT.app T R (Nat.le_refl _)
  have hPl := hx.2.2.2.1.pl hW'
  -- the partitions, over the longer table
  have gr : ∀ {E : Nat → Nat → Prop} {pb : Nat} {ro : Nat → Nat}, JI T E pb T.length ro [] [] zX → isPb pb → JI (T ++ R) E pb T.length ro [] [] z1 := by
    intro E pb ro h hp
    have hpn := hp.ne
    have hpb : pb ≤ 48 := by rcases hp with rfl | rfl | rfl <;> omega
    have h' := h.growT (z' := fun j => if j < 11 then z1 j else zX j) hg a1.1 (Nat.le_refl _) (hx.2.2.1.fr fun j hj => by simp [hj]) (hPl.fr fun j hj => by simp [hj]) (fun j hj => by simp [show ¬ j < 11 by omega]) hp
    refine h'.fr2 (h.agenda.fr fun j h1 h2 => e j (by omega) (by omega)) fun j hj => ?_
    by_cases q : j < 11
    · simp [q]
    · simp [q]; exact e j (by omega) (by omega)
  have j1 := gr a4 (Or.inl rfl)
  have j2 := gr a5 a3.isS
  have len : (T ++ R).length = T.length + R.length := by simp
  have h120 := hW'.1
  obtain ⟨z2, r1, r2, c1, c2, c3, c4⟩ := adm_loop hW' a3.isS (by omega) R.length T.length FU ro1 ro2 z1 (by omega) (by have := FU_ge; omega) (by rw [e 17 (by omega) (by omega)]; exact a3.1) (fun a b q => EX_lt h3.1 q) j1 j2
  refine ⟨z2, c1, ⟨⟨hx.fr fun j hj => c4 j (by omega) (by omega), a2.fr fun j g1 g2 => by rw [c4 j (by omega) (by omega), e j (by omega) (by omega)], a3.fr (by rw [c4 17 (by omega) (by omega), e 17 (by omega) (by omega)]), ⟨r1, c2⟩, r2, c3⟩, hM, h3.grow hW', hR.fr (by omega) (Nat.le_refl _) (fun j hj => c4 j (by omega) (by omega)) (by rw [c4 0 (by omega) (by omega)]) (by rw [c4 0 (by omega) (by omega)]) (by rw [c4 11 (by omega) (by omega)]) (fun _ _ _ => rfl) (fun _ _ => rfl), hK.fr (fun j g1 g2 => c4 j (by omega) (by omega)) (fun _ _ => rfl) (fun _ _ => rfl)⟩, fun j hj => c4 j (by omega) (by omega)⟩
theorem RM.fr (hS : S.length ≤ 100) (h : RM T S tk z) (e0 : ∀ f, f = 4 ∨ f = 9 ∨ f = 30 → z' 0 f = z 0 f) (e : ∀ j, 1 ≤ j → j ≤ 8 → z' j = z j) (e20 : z' 20 = z 20) : RM T S tk z' := by
  obtain ⟨a1, a2, a3⟩ := h
  refine ⟨a1.fr (e0 4 (by omega)) (fun j h1 h2 => e j h1 (by omega)), a2.fr (e0 9 (by omega)) (fun j h1 h2 s _ => by rw [e j (by omega) (by omega)]) hS, ?_⟩
  rw [e0 30 (by omega)]
  rcases a3 with a3 | ⟨a3, on, a4, a5⟩
  · exact Or.inl a3
  · exact Or.inr ⟨a3, on, fun t ht => by rw [e20]; exact a4 t ht, a5⟩
theorem refX (z : fS) (v : Int32) : fX8_refused z v = some (-(nI 1), wrr z 0 (upd (z 0) 12 v)) := id rfl
theorem doneX (z : fS) (v : Int32) : fX8_done z v = some (v, wrr z 0 (upd (z 0) 12 (nI 0))) := id rfl
theorem refM (z : fS) (v : Int32) : fX9_refuse z v = some (-(nI 1), wrr z 0 (upd (z 0) 26 v)) := id rfl
theorem doneM (z : fS) (v : Int32) : fX9_done z v = some (v, wrr z 0 (upd (z 0) 26 (nI 0))) := id rfl
/-- a term is asked for of both -/
theorem both_make (h : RQ i T S tk lv rm ps pt zX zM) (ho : OkT T.length tm) (ha : ∀ j, j < tm.2.2.length → zM 19 j = nI (tm.2.2.getD j 0)) : ∃ r tX tM, fX8_madeTerm zX tm.1 tm.2.1 (pe tm.2.2 0) (pe tm.2.2 1) (pe tm.2.2 2) = some (r, tX) ∧ (bd (fX9_made zM tm.1 tm.2.1 (nI tm.2.2.length)) fun r4 z4 => bd (fX9_answer z4 r4) fun r8 z8 => some (r8, z8)) = some (r, tM) ∧ Rel (i + 1) tX tM := by
  have h' := h
  obtain ⟨h1, h2, h3, h4, h5⟩ := h'
  have hW := h1.1.1
  have hU := h1.1.2.1
  have hT1 := hW.1
  have hcnt : fX7_count zX = some (nI T.length) := by unfold fX7_count; rw [h1.1.2.2.1.1]
  unfold fX8_madeTerm fX9_answer
  rw [hcnt, bp_s]
  rcases findOrMake_ok h1.1 ho with ⟨t, x1, x2, _, x3⟩ | ⟨x1, x3⟩ | ⟨x1, x2, z1, x3, x4, x5⟩
  · rcases made_ok h2.1 hW hU ho ha with ⟨t', y1, y2, y3⟩ | ⟨y1, _⟩ | ⟨y1, _⟩
    · have : t' = t := by rw [x1] at y1; cases y1; rfl
      subst this
      have hid : RQ i (T ++ []) S tk lv rm ps pt zX zM := by rw [List.append_nil]; exact h
      obtain ⟨z2, c1, c2, _⟩ := adm_ok (R := []) h1 h3 (by rw [List.append_nil]; exact h1.1) (fun _ _ _ => rfl) (by rw [List.append_nil]; exact h2) h4 h5
      rw [List.append_nil] at c2
      refine ⟨nI t', wrr z2 0 (upd (z2 0) 12 (nI 0)), wrr zM 0 (upd (zM 0) 26 (nI 0)), ?_, ?_, c2.fin (nI 0)⟩
      · rw [x3, bd_s]
        simp (disch := omega) only [litm, nI_m1n, if_false, c1, bp_s, doneX, bd_s]
      · rw [y3, bd_s]
        simp (disch := omega) only [lit, nI_leI, Nat.zero_le, if_true, doneM, bd_s]
    · rw [x1] at y1; cases y1
    · rw [x1] at y1
      have := congrArg (fun o : Option (Nat × List Tm) => o.map fun p => p.2.length) y1
      simp at this
  · rcases made_ok h2.1 hW hU ho ha with ⟨t', y1, y2, y3⟩ | ⟨y1, y3⟩ | ⟨y1, _⟩
    · rw [x1] at y1; cases y1
    · refine ⟨-(nI 1), _, _, ?_, ?_, h.fin (nI 3)⟩
      · rw [x3, bd_s]
        simp (disch := omega) only [lit, litm, if_true, refX, bd_s]
      · rw [y3, bd_s]
        simp (disch := omega) only [lit, m1_le0, if_false, refM, bd_s]
    · rw [x1] at y1; cases y1
  · rcases made_ok h2.1 hW hU ho ha with ⟨t', y1, y2, y3⟩ | ⟨y1, y3⟩ | ⟨y1, y2, zM1, y3, y4, y5, y6, y7⟩
    · rw [x1] at y1
      have := congrArg (fun o : Option (Nat × List Tm) => o.map fun p => p.2.length) y1
      simp at this
    · rw [x1] at y1; cases y1
    · have hMs : MSy S tk zM1 := h2.2.1.fr (y6 9 (by omega) (by omega)) (fun j g1 g2 s _ => by rw [y5 j (by omega)]) h3.1.1
      obtain ⟨z2, c1, c2, _⟩ := adm_ok (R := [tm]) h1 h3 x4 (fun j g1 g2 => x5 j (Or.inr g1)) ⟨y4, hMs, Or.inl y7⟩ (h4.fr (Nat.le_refl _) (Nat.le_refl _) (fun j hj => x5 j (by omega)) (by rw [x5 0 (by omega)]) (by rw [x5 0 (by omega)]) (by rw [x5 11 (by omega)]) (fun j g1 g2 => y5 j (by omega)) (fun f hf => y6 f (by omega) (by omega))) (h5.fr (fun j g1 g2 => x5 j (by omega)) (fun j hj => y5 j (by omega)) (fun f hf => y6 f (by omega) (by omega)))
      refine ⟨nI T.length, wrr z2 0 (upd (z2 0) 12 (nI 0)), wrr zM1 0 (upd (zM1 0) 26 (nI 0)), ?_, ?_, c2.fin (nI 0)⟩
      · rw [x3, bd_s]
        simp (disch := omega) only [litm, nI_m1n, if_false, c1, bp_s, doneX, bd_s]
      · rw [y3, bd_s]
        simp (disch := omega) only [lit, nI_leI, Nat.zero_le, if_true, doneM, bd_s]
end ADF
end
section
/-! the face: terms -/
theorem rng {x : Int32} {a b : Nat} (ha : a < 2 ^ 31) (hb : b < 2 ^ 31) (h1 : ¬ x < nI a) (h2 : ¬ nI b < x) : ∃ k, a ≤ k ∧ k ≤ b ∧ x = nI k := by
  rw [Int32.lt_iff_toInt_lt, nI_toInt ha] at h1
  rw [Int32.lt_iff_toInt_lt, nI_toInt hb] at h2
  refine ⟨x.toInt.toNat, by omega, by omega, Int32.toInt_inj.mp ?_⟩
  rw [nI_toInt (by omega)]
  omega
theorem lt_le {x : Int32} {n : Nat} (hn : n + 1 < 2 ^ 31) : (x < nI (n + 1)) ↔ (x ≤ nI n) := by
  rw [Int32.lt_iff_toInt_lt, Int32.le_iff_toInt_le, nI_toInt hn, nI_toInt (by omega)]
  omega
theorem nle_lt {x y : Int32} : (¬ x ≤ y) ↔ y < x := by
  rw [Int32.lt_iff_toInt_lt, Int32.le_iff_toInt_le]; omega
theorem nlt_le {x y : Int32} : (¬ x < y) ↔ y ≤ x := by
  rw [Int32.lt_iff_toInt_lt, Int32.le_iff_toInt_le]; omega
theorem pe_ge {l : List Nat} {i : Nat} (h : l.length ≤ i) : pe l i = -(nI 1) := by
  unfold pe; rw [if_neg (by omega)]; rfl
theorem pe_lt {l : List Nat} {i : Nat} (h : i < l.length) : pe l i = nI (l.getD i 0) := by
  unfold pe; rw [if_pos h]
theorem nno (a b : Nat) {p : Prop} (ha : a < 2 ^ 31) (hb : b < 2 ^ 31) (hn : a ≠ b) (h : nI a = nI b) : p := absurd ((nI_eq ha hb).mp h) hn
section FACE1
variable {T : List Tm} {S : List Sy} {tk : Nat → Bool} {lv : Nat} {rm : Nat → Nat → Bool} {ps pt i : Nat} {zX zM : fS}
theorem has_ok (h : RQ i T S tk lv rm ps pt zX zM) (a : Int32) : (fX7_has zX a = some (nI 0) ∧ fX9_isTerm zM a = some (nI 0)) ∨ ∃ m, m < T.length ∧ a = nI m ∧ fX7_has zX a = some (nI 1) ∧ fX9_isTerm zM a = some (nI 1) := by
  have hT1 := h.1.1.1.1
  have e1 := h.1.1.2.2.1.1
  have e2 := h.2.1.1.1
  unfold fX7_has fX9_isTerm
  rw [e1, e2]
  by_cases q1 : a < nI 0
  · left
    simp only [lit, if_pos q1, and_self]
  · by_cases q2 : nI T.length ≤ a
    · left
      simp only [lit, if_neg q1, if_pos q2, and_self]
    · right
      obtain ⟨k, _, k2, rfl⟩ := rng (x := a) (a := 0) (b := T.length) (by omega) (by omega) q1 (by
        rw [nlt_le]
        rw [nle_lt] at q2
        rw [Int32.lt_iff_toInt_lt] at q2
        rw [Int32.le_iff_toInt_le]; omega)
      rw [nI_leI (by omega) (by omega)] at q2
      refine ⟨k, by omega, rfl, ?_⟩
      simp (disch := omega) only [lit, nI_ltI, nI_leI, if_neg, and_self]
theorem RQ.as (h : RQ i T S tk lv rm ps pt zX zM) (f : Nat → Int32) : RQ i T S tk lv rm ps pt zX (wrr zM 19 f) :=
  h.sc h.1.ag (fun _ _ => rfl) (h.2.1.fr h.2.2.1.1.1 (fun f _ => by rw [wrr_n (by omega)]) (fun j _ _ => wrr_n (by omega)) (wrr_n (by omega))) (fun j _ _ => wrr_n (by omega)) (fun f _ _ _ => by rw [wrr_n (by omega)])
theorem up_ok (h : Rel i zX zM) : Rel (i + 1) zX zM := by
  obtain ⟨h0, T, S, tk, lv, rm, ps, pt, h⟩ := h
  exact ⟨h0, T, S, tk, lv, rm, ps, pt, h.up⟩
end FACE1
theorem s_name : st_name Rel := by
  intro i zX zM a _ ⟨h0, T, S, tk, lv, rm, ps, pt, h⟩
  unfold fX8_name fX9_name
  by_cases q1 : a < nI 0
  · refine ⟨-(nI 1), _, _, ?_, ?_, h.fin (nI 1)⟩
    · simp only [lit, if_pos q1, refX, bd_s]
    · simp only [lit, if_pos q1, refM, bd_s]
  · by_cases q2 : a ≤ nI 99
    · have q3 : a < nI 100 := (lt_le (by omega)).mpr q2
      have hp : ∀ j, pe ([] : List Nat) j = -(nI 1) := fun j => pe_ge (by simp)
      obtain ⟨r, tX, tM, e1, e2, e3⟩ := both_make (tm := (nI 0, a, [])) h ⟨by simp, by simp, nno 0 3 (by omega) (by omega) (by omega), nno 0 4 (by omega) (by omega) (by omega), fun _ => rfl, fun _ => rfl⟩ (fun j hj => by simp at hj)
      refine ⟨r, tX, tM, ?_, ?_, e3⟩
      · simp only [hp] at e1
        simp only [lit, litm, if_neg q1, if_pos q3, e1, bd_s]
      · simp only [lit, if_neg q1, if_pos q2]
        exact e2
    · have q3 : ¬ a < nI 100 := fun h => q2 ((lt_le (by omega)).mp h)
      refine ⟨-(nI 1), _, _, ?_, ?_, h.fin (nI 1)⟩
      · simp only [lit, if_neg q1, if_neg q3, refX, bd_s]
      · simp only [lit, if_neg q1, if_neg q2, refM, bd_s]
theorem s_number : st_number Rel := by
  intro i zX zM a _ ⟨h0, T, S, tk, lv, rm, ps, pt, h⟩
  unfold fX8_number fX9_number
  have hp : ∀ j, pe ([] : List Nat) j = -(nI 1) := fun j => pe_ge (by simp)
  obtain ⟨r, tX, tM, e1, e2, e3⟩ := both_make (tm := (nI 1, a, [])) h ⟨by simp, by simp, nno 1 3 (by omega) (by omega) (by omega), nno 1 4 (by omega) (by omega) (by omega), fun _ => rfl, fun _ => rfl⟩ (fun j hj => by simp at hj)
  refine ⟨r, tX, tM, ?_, e2, e3⟩
  simp only [hp] at e1
  simp only [lit, litm, e1, bd_s]
theorem s_row : st_row Rel := by
  intro i zX zM a b _ ⟨h0, T, S, tk, lv, rm, ps, pt, h⟩
  unfold fX8_row fX9_row
  rcases has_ok h a with ⟨x1, x2⟩ | ⟨m, m1, rfl, x1, x2⟩
  · refine ⟨-(nI 1), _, _, ?_, ?_, h.fin (nI 1)⟩
    · simp only [x1, bp_s, lit, if_true, refX, bd_s]
    · simp only [x2, bp_s, lit, if_true, refM, bd_s]
  · rcases has_ok h b with ⟨y1, y2⟩ | ⟨n, n1, rfl, y1, y2⟩
    · refine ⟨-(nI 1), _, _, ?_, ?_, h.fin (nI 1)⟩
      · simp (disch := omega) only [x1, y1, bp_s, lit, nI_eq, if_neg, if_true, refX, bd_s]
      · simp (disch := omega) only [x2, y2, bp_s, lit, nI_eq, if_neg, if_true, refM, bd_s]
    · have h' := h.as (upd (upd (zM 19) 0 (nI m)) 1 (nI n))
      obtain ⟨r, tX, tM, e1, e2, e3⟩ := both_make (tm := (nI 3, nI 0, [m, n])) h' ⟨by simp, by simp; omega, fun _ => rfl, fun _ => rfl, nno 3 1 (by omega) (by omega) (by omega), nno 3 0 (by omega) (by omega) (by omega)⟩ (fun j hj => by
        rw [wrr_e]
        rcases (show j = 0 ∨ j = 1 by simp at hj; omega) with rfl | rfl
        · rw [upd_n (by omega), upd_e]; rfl
        · rw [upd_e]; rfl)
      rw [pe_lt (show 0 < [m, n].length by simp), pe_lt (show 1 < [m, n].length by simp), pe_ge (show [m, n].length ≤ 2 by simp)] at e1
      refine ⟨r, tX, tM, ?_, ?_, e3⟩
      · simp (disch := omega) only [x1, y1, bp_s, lit, litm, nI_eq, if_neg]
        have e1' : fX8_madeTerm zX (nI 3) (nI 0) (nI m) (nI n) (-nI 1) = some (r, tX) := e1
        rw [e1', bd_s]
      · simp (disch := omega) only [x2, y2, bp_s, lit, nI_eq, if_neg, inb_t, gd_t, wr_nI, bnd_s, wrr_wrr, wrr_e]
        exact e2
theorem s_even : st_even Rel := by
  intro i zX zM hd a b _ ⟨h0, T, S, tk, lv, rm, ps, pt, h⟩
  unfold fX8_even fX9_even
  by_cases q1 : hd < nI 0
  · refine ⟨-(nI 1), _, _, ?_, ?_, h.fin (nI 1)⟩
    · simp only [lit, if_pos q1, refX, bd_s]
    · simp only [lit, if_pos q1, refM, bd_s]
  · by_cases q2 : nI 19 < hd
    · have q3 : nI 20 ≤ hd := by
        rw [← nlt_le, lt_le (by omega), nle_lt]; exact q2
      refine ⟨-(nI 1), _, _, ?_, ?_, h.fin (nI 1)⟩
      · simp only [lit, if_neg q1, if_pos q3, refX, bd_s]
      · simp only [lit, if_neg q1, if_pos q2, refM, bd_s]
    · have q3 : ¬ nI 20 ≤ hd := by
        rw [nle_lt, lt_le (by omega), ← nlt_le]; exact q2
      rcases has_ok h a with ⟨x1, x2⟩ | ⟨m, m1, rfl, x1, x2⟩
      · refine ⟨-(nI 1), _, _, ?_, ?_, h.fin (nI 1)⟩
        · simp only [lit, if_neg q1, if_neg q3, x1, bp_s, if_true, refX, bd_s]
        · simp only [lit, if_neg q1, if_neg q2, x2, bp_s, if_true, refM, bd_s]
      · rcases has_ok h b with ⟨y1, y2⟩ | ⟨n, n1, rfl, y1, y2⟩
        · refine ⟨-(nI 1), _, _, ?_, ?_, h.fin (nI 1)⟩
          · simp (disch := first | omega | assumption) only [lit, if_neg q1, if_neg q3, x1, y1, bp_s, nI_eq, if_neg, if_true, refX, bd_s]
          · simp (disch := first | omega | assumption) only [lit, if_neg q1, if_neg q2, x2, y2, bp_s, nI_eq, if_neg, if_true, refM, bd_s]
        · have h' := h.as (upd (upd (zM 19) 0 (nI m)) 1 (nI n))
          obtain ⟨r, tX, tM, e1, e2, e3⟩ := both_make (tm := (nI 4, hd, [m, n])) h' ⟨by simp, by simp; omega, fun _ => rfl, fun _ => rfl, nno 4 1 (by omega) (by omega) (by omega), nno 4 0 (by omega) (by omega) (by omega)⟩ (fun j hj => by
            rw [wrr_e]
            rcases (show j = 0 ∨ j = 1 by simp at hj; omega) with rfl | rfl
            · rw [upd_n (by omega), upd_e]; rfl
            · rw [upd_e]; rfl)
          rw [pe_lt (show 0 < [m, n].length by simp), pe_lt (show 1 < [m, n].length by simp), pe_ge (show [m, n].length ≤ 2 by simp)] at e1
          refine ⟨r, tX, tM, ?_, ?_, e3⟩
          · simp (disch := first | omega | assumption) only [lit, litm, if_neg q1, if_neg q3, x1, y1, bp_s, nI_eq, if_neg]
            have e1' : fX8_madeTerm zX (nI 4) hd (nI m) (nI n) (-nI 1) = some (r, tX) := e1
            rw [e1', bd_s]
          · simp (disch := first | omega | assumption) only [lit, if_neg q1, if_neg q2, x2, y2, bp_s, nI_eq, if_neg, inb_t, gd_t, wr_nI, bnd_s, wrr_wrr, wrr_e]
            exact e2
theorem s_built : st_built Rel := by
  intro i zX zM hd n a b c _ ⟨h0, T, S, tk, lv, rm, ps, pt, h⟩
  have R1 : ∃ r tX tM, (bd (fX8_refused zX (nI 1)) fun r z => some (r, z)) = some (r, tX) ∧ (bd (fX9_refuse zM (nI 1)) fun r z => some (r, z)) = some (r, tM) ∧ Rel (i + 1) tX tM := ⟨-(nI 1), _, _, rfl, rfl, h.fin (nI 1)⟩
  unfold fX8_built fX9_built
  simp only [lit]
  by_cases q1 : hd < nI 0
  · simp only [if_pos q1]; exact R1
  · by_cases q2 : hd ≤ nI 19
    · have q3 : hd < nI 20 := (lt_le (by omega)).mpr q2
      simp only [if_neg q1, if_pos q2, if_pos q3]
      by_cases q4 : nI 0 ≤ n
      · simp only [if_pos q4]
        by_cases q5 : n < nI 1
        · simp only [if_pos q5]; exact R1
        · simp only [if_neg q5]
          by_cases q6 : nI 3 < n
          · simp only [if_pos q6]; exact R1
          · simp only [if_neg q6]
            obtain ⟨k, k1, k3, rfl⟩ := rng (by omega) (by omega) q5 q6
            rcases has_ok h a with ⟨x1, x2⟩ | ⟨m, m1, rfl, x1, x2⟩
            · simp only [x1, x2, bp_s, if_true]; exact R1
            · simp (disch := omega) only [x1, x2, bp_s, nI_eq, if_neg, nI_leI]
              have fin : ∀ l : List Nat, l.length = k → (∀ p, p ∈ l → p < T.length) → pe l 0 = nI m → l.getD 0 0 = m → (1 < k → b = nI (l.getD 1 0)) → (2 < k → c = nI (l.getD 2 0)) → ∃ r tX tM, jX8_built_88 hd (nI k) (nI m) b c zX = some (r, tX) ∧ jX9_built_79 hd (nI k) (nI m) b c zM = some (r, tM) ∧ Rel (i + 1) tX tM := by
                intro l hl hp p0 g0 hb hc
                have h' := h.as (upd (upd (upd (zM 19) 0 (nI m)) 1 b) 2 c)
                obtain ⟨r, tX, tM, e1, e2, e3⟩ := both_make (tm := (nI 2, hd, l)) h' ⟨by show l.length ≤ 3; omega, hp, nno 2 3 (by omega) (by omega) (by omega), nno 2 4 (by omega) (by omega) (by omega), nno 2 1 (by omega) (by omega) (by omega), nno 2 0 (by omega) (by omega) (by omega)⟩ (fun j hj => by
                  have hj' : j < l.length := hj
                  show _ = nI (l.getD j 0)
                  rw [wrr_e]
                  rcases (show j = 0 ∨ j = 1 ∨ j = 2 by omega) with rfl | rfl | rfl
                  · rw [upd_n (by omega), upd_n (by omega), upd_e, g0]
                  · rw [upd_n (by omega), upd_e]; exact hb (by omega)
                  · rw [upd_e]; exact hc (by omega))
                have e1' : fX8_madeTerm zX (nI 2) hd (pe l 0) (pe l 1) (pe l 2) = some (r, tX) := e1
                have e2' : (bd (fX9_made (wrr zM 19 (upd (upd (upd (zM 19) 0 (nI m)) 1 b) 2 c)) (nI 2) hd (nI l.length)) fun r4 z4 => bd (fX9_answer z4 r4) fun r8 z8 => some (r8, z8)) = some (r, tM) := e2
                refine ⟨r, tX, tM, ?_, ?_, e3⟩
                · unfold jX8_built_88 jX8_built_103
                  rcases (show k = 1 ∨ k = 2 ∨ k = 3 by omega) with rfl | rfl | rfl
                  · rw [p0, pe_ge (by omega), pe_ge (by omega)] at e1'
                    simp (disch := omega) only [lit, litm, nI_leI, if_pos, e1', bd_s]
                  · rw [p0, pe_lt (by omega), ← hb (by omega), pe_ge (by omega)] at e1'
                    simp (disch := omega) only [lit, litm, nI_leI, if_pos, if_neg, e1', bd_s]
                  · rw [p0, pe_lt (by omega), ← hb (by omega), pe_lt (by omega), ← hc (by omega)] at e1'
                    simp (disch := omega) only [lit, litm, nI_leI, if_pos, if_neg, e1', bd_s]
                · unfold jX9_built_79
                  rw [hl] at e2'
                  simp (disch := omega) only [lit, inb_t, gd_t, wr_nI, bnd_s, wrr_wrr, wrr_e]
                  exact e2'
              rcases (show k = 1 ∨ k = 2 ∨ k = 3 by omega) with rfl | rfl | rfl
              · obtain ⟨r, tX, tM, e1, e2, e3⟩ := fin [m] rfl (by simp; omega) rfl rfl (fun h => by omega) (fun h => by omega)
                refine ⟨r, tX, tM, ?_, ?_, e3⟩
                · simp (disch := omega) only [if_pos]
                  unfold jX8_built_65
                  simp (disch := omega) only [lit, nI_leI, if_pos]
                  exact e1
                · simp (disch := omega) only [if_pos]
                  unfold jX9_built_59
                  simp (disch := omega) only [lit, nI_leI, if_pos]
                  exact e2
              · rcases has_ok h b with ⟨y1, y2⟩ | ⟨m2, m3, rfl, y1, y2⟩
                · simp (disch := omega) only [if_neg, y1, y2, bp_s, if_true]; exact R1
                · obtain ⟨r, tX, tM, e1, e2, e3⟩ := fin [m, m2] rfl (by simp; omega) rfl rfl (fun h => rfl) (fun h => by omega)
                  refine ⟨r, tX, tM, ?_, ?_, e3⟩
                  · simp (disch := omega) only [if_neg, y1, bp_s, nI_eq]
                    unfold jX8_built_65
                    simp (disch := omega) only [lit, nI_leI, if_pos]
                    exact e1
                  · simp (disch := omega) only [if_neg, y2, bp_s, nI_eq]
                    unfold jX9_built_59
                    simp (disch := omega) only [lit, nI_leI, if_pos]
                    exact e2
              · rcases has_ok h b with ⟨y1, y2⟩ | ⟨m2, m3, rfl, y1, y2⟩
                · simp (disch := omega) only [if_neg, y1, y2, bp_s, if_true]; exact R1
                · rcases has_ok h c with ⟨w1, w2⟩ | ⟨m4, m5, rfl, w1, w2⟩
                  · simp (disch := omega) only [if_neg, y1, y2, bp_s, nI_eq]
                    unfold jX8_built_65 jX9_built_59
                    simp (disch := omega) only [lit, nI_leI, if_neg, w1, w2, bp_s, if_true]
                    exact R1
                  · obtain ⟨r, tX, tM, e1, e2, e3⟩ := fin [m, m2, m4] rfl (by simp; omega) rfl rfl (fun h => rfl) (fun h => rfl)
                    refine ⟨r, tX, tM, ?_, ?_, e3⟩
                    · simp (disch := omega) only [if_neg, y1, bp_s, nI_eq]
                      unfold jX8_built_65
                      simp (disch := omega) only [lit, nI_leI, if_neg, w1, bp_s, nI_eq]
                      exact e1
                    · simp (disch := omega) only [if_neg, y2, bp_s, nI_eq]
                      unfold jX9_built_59
                      simp (disch := omega) only [lit, nI_leI, if_neg, w2, bp_s, nI_eq]
                      exact e2
      · simp only [if_neg q4]
        exact ⟨-(nI 1), _, _, rfl, rfl, h.fin (nI 8)⟩
    · have q3 : ¬ hd < nI 20 := fun h => q2 ((lt_le (by omega)).mp h)
      simp only [if_neg q1, if_neg q2, if_neg q3]; exact R1
theorem s_kind : st_kind Rel := by
  intro i zX zM a _ hr
  obtain ⟨h0, T, S, tk, lv, rm, ps, pt, h⟩ := id hr
  have hT1 := h.1.1.1.1
  unfold fX8_kind fX9_kind
  rcases has_ok h a with ⟨x1, x2⟩ | ⟨m, m1, rfl, x1, x2⟩
  · refine ⟨-(nI 1), ?_, ?_, up_ok hr⟩
    · simp only [x1, bp_s, lit, litm, if_true]
    · simp only [x2, bp_s, lit, litm, if_true]
  · have e1 := (h.1.1.2.2.1.2 m m1).1
    have e2 := (h.2.1.1.2 m m1).1
    refine ⟨kd T m, ?_, ?_, up_ok hr⟩
    · unfold fX7_kindOf
      simp (disch := omega) only [x1, bp_s, lit, nI_eq, if_neg, inb_t, gd_t, rd_nI, e1]
    · simp (disch := omega) only [x2, bp_s, lit, nI_eq, if_neg, inb_t, gd_t, rd_nI, e2]
theorem s_part : st_part Rel := by
  intro i zX zM a b _ ⟨h0, T, S, tk, lv, rm, ps, pt, h⟩
  have hT1 := h.1.1.1.1
  unfold fX8_part fX9_part
  rcases has_ok h a with ⟨x1, x2⟩ | ⟨m, m1, rfl, x1, x2⟩
  · refine ⟨-(nI 1), _, _, ?_, ?_, h.fin (nI 1)⟩
    · simp only [x1, bp_s, lit, if_true, refX, bd_s]
    · simp only [x2, bp_s, lit, if_true, refM, bd_s]
  · have e1 := (h.1.1.2.2.1.2 m m1).2.2
    have e2 := (h.2.1.1.2 m m1).2.2
    have hs := (h.1.1.1.2 m m1).1
    unfold fX7_sizeOf fX7_partOf
    simp (disch := omega) only [x1, x2, bp_s, lit, nI_eq, if_neg, inb_t, gd_t, rd_nI, e1.1, e2.1]
    by_cases q0 : sz T m = 0
    · simp only [if_pos q0]
      exact ⟨-(nI 1), _, _, rfl, rfl, h.fin (nI 2)⟩
    · simp only [if_neg q0]
      by_cases q1 : b < nI 0
      · simp only [if_pos q1]
        exact ⟨-(nI 1), _, _, rfl, rfl, h.fin (nI 1)⟩
      · simp only [if_neg q1]
        by_cases q2 : b < nI (sz T m)
        · simp only [if_pos q2]
          obtain ⟨k, _, k2, rfl⟩ := rng (x := b) (a := 0) (b := sz T m) (by omega) (by omega) q1 (by
            rw [nlt_le, ← nlt_le]
            intro hh
            rw [Int32.lt_iff_toInt_lt] at hh q2
            omega)
          rw [nI_ltI (by omega) (by omega)] at q2
          have e3 := e1.2 k (by omega)
          rw [if_pos q2] at e3
          have e4 := e2.2 k q2
          simp (disch := omega) only [nI_mul, nI_add, inb_t, gd_t, rd_nI, e3, e4, bp_s]
          exact ⟨_, _, _, rfl, rfl, h.fin (nI 0)⟩
        · simp only [if_neg q2]
          exact ⟨-(nI 1), _, _, rfl, rfl, h.fin (nI 1)⟩
theorem s_shows : st_shows Rel := by
  intro i zX zM a _ ⟨h0, T, S, tk, lv, rm, ps, pt, h⟩
  have hT1 := h.1.1.1.1
  unfold fX8_shows fX9_shows
  rcases has_ok h a with ⟨x1, x2⟩ | ⟨m, m1, rfl, x1, x2⟩
  · refine ⟨-(nI 1), _, _, ?_, ?_, h.fin (nI 1)⟩
    · simp only [x1, bp_s, lit, if_true, refX, bd_s]
    · simp only [x2, bp_s, lit, if_true, refM, bd_s]
  · have e1 := (h.1.1.2.2.1.2 m m1)
    have e2 := (h.2.1.1.2 m m1)
    unfold fX7_kindOf fX7_shownBy
    simp (disch := omega) only [x1, x2, bp_s, lit, nI_eq, if_neg, inb_t, gd_t, rd_nI, e1.1, e2.1, e1.2.1, e2.2.1]
    by_cases q0 : kd T m = nI 3
    · simp only [if_pos q0]
      exact ⟨-(nI 1), _, _, rfl, rfl, h.fin (nI 2)⟩
    · simp only [if_neg q0]
      exact ⟨sh T m, _, _, rfl, rfl, h.fin (nI 0)⟩
end
section
/-! a saying is taken -/
def tkx (tk : Nat → Bool) (n : Nat) (b : Bool) : Nat → Bool := fun s => if s = n then b else tk s
theorem tkx_e {tk : Nat → Bool} {n : Nat} {b : Bool} : tkx tk n b n = b := by simp [tkx]
theorem tkx_n {tk : Nat → Bool} {n s : Nat} {b : Bool} (h : s ≠ n) : tkx tk n b s = tk s := by simp [tkx, h]
section TAKE
variable {T : List Tm} {S : List Sy} {tk : Nat → Bool} {lv : Nat} {rm : Nat → Nat → Bool} {ps pt i : Nat} {zX zM z z' : fS} {c : Bool} {a b : Nat}
theorem sS_l {R : List Sy} {s : Nat} (h : s < S.length) : sm (S ++ R) s = sm S s ∧ sa (S ++ R) s = sa S s ∧ sb (S ++ R) s = sb S s := by
  unfold sm sa sb; rw [gD_l h]; exact ⟨rfl, rfl, rfl⟩
theorem sS_r : sm (S ++ [(c, a, b)]) S.length = c ∧ sa (S ++ [(c, a, b)]) S.length = a ∧ sb (S ++ [(c, a, b)]) S.length = b := by
  unfold sm sa sb; rw [gD_r]; exact ⟨rfl, rfl, rfl⟩
theorem EX_app (ht : ∀ s, tk s = true → s < S.length) : EX (S ++ [(c, a, b)]) (TK (tkx tk S.length true)) none = EX S (TK tk) (some (c, a, b)) := by
  funext u v
  refine propext ⟨?_, ?_⟩
  · rintro (⟨s, s1, s2, s3, s4, s5⟩ | h)
    · by_cases e : s = S.length
      · subst e
        rw [sS_r.1] at s3; rw [sS_r.2.1] at s4; rw [sS_r.2.2] at s5
        subst s3; subst s4; subst s5
        exact Or.inr rfl
      · have hs : s < S.length := by simp at s1; omega
        have w := sS_l (R := [(c, a, b)]) hs
        rw [w.1] at s3; rw [w.2.1] at s4; rw [w.2.2] at s5
        exact Or.inl ⟨s, hs, by unfold TK at s2 ⊢; rw [tkx_n e] at s2; exact s2, s3, s4, s5⟩
    · cases h
  · rintro (⟨s, s1, s2, s3, s4, s5⟩ | h)
    · have w := sS_l (R := [(c, a, b)]) s1
      exact Or.inl ⟨s, by simp; omega, by unfold TK; rw [tkx_n (by omega)]; exact s2, by rw [w.1]; exact s3, by rw [w.2.1]; exact s4, by rw [w.2.2]; exact s5⟩
    · cases h
      exact Or.inl ⟨S.length, by simp, by unfold TK; exact tkx_e, sS_r.1, sS_r.2.1, sS_r.2.2⟩
theorem UX_app (ht : ∀ s, tk s = true → s < S.length) : UX (S ++ [(c, a, b)]) (TK (tkx tk S.length true)) none = UX S (TK tk) (some (c, a, b)) := by
  funext u v
  refine propext ⟨?_, ?_⟩
  · rintro (⟨s, s1, s2, s3, s4, s5⟩ | h)
    · by_cases e : s = S.length
      · subst e
        rw [sS_r.1] at s3; rw [sS_r.2.1] at s4; rw [sS_r.2.2] at s5
        subst s3; subst s4; subst s5
        exact Or.inr rfl
      · have hs : s < S.length := by simp at s1; omega
        have w := sS_l (R := [(c, a, b)]) hs
        rw [w.1] at s3; rw [w.2.1] at s4; rw [w.2.2] at s5
        exact Or.inl ⟨s, hs, by unfold TK at s2 ⊢; rw [tkx_n e] at s2; exact s2, s3, s4, s5⟩
    · cases h
  · rintro (⟨s, s1, s2, s3, s4, s5⟩ | h)
    · have w := sS_l (R := [(c, a, b)]) s1
      exact Or.inl ⟨s, by simp; omega, by unfold TK; rw [tkx_n (by omega)]; exact s2, by rw [w.1]; exact s3, by rw [w.2.1]; exact s4, by rw [w.2.2]; exact s5⟩
    · cases h
      exact Or.inl ⟨S.length, by simp, by unfold TK; exact tkx_e, sS_r.1, sS_r.2.1, sS_r.2.2⟩
theorem EX_more {R : List Sy} (ht : ∀ s, tk s = true → s < S.length) : EX (S ++ R) (TK tk) none = EX S (TK tk) none := by
  funext u v
  refine propext ⟨?_, ?_⟩
  · rintro (⟨s, s1, s2, s3⟩ | h)
    · have w := sS_l (R := R) (ht s s2)
      rw [w.1, w.2.1, w.2.2] at s3
      exact Or.inl ⟨s, ht s s2, s2, s3⟩
    · cases h
  · rintro (⟨s, s1, s2, s3⟩ | h)
    · have w := sS_l (R := R) s1
      exact Or.inl ⟨s, by simp; omega, s2, by rw [w.1, w.2.1, w.2.2]; exact s3⟩
    · cases h
theorem UX_more {R : List Sy} (ht : ∀ s, tk s = true → s < S.length) : UX (S ++ R) (TK tk) none = UX S (TK tk) none := by
  funext u v
  refine propext ⟨?_, ?_⟩
  · rintro (⟨s, s1, s2, s3⟩ | h)
    · have w := sS_l (R := R) (ht s s2)
      rw [w.1, w.2.1, w.2.2] at s3
      exact Or.inl ⟨s, ht s s2, s2, s3⟩
    · cases h
  · rintro (⟨s, s1, s2, s3⟩ | h)
    · have w := sS_l (R := R) s1
      exact Or.inl ⟨s, by simp; omega, s2, by rw [w.1, w.2.1, w.2.2]; exact s3⟩
    · cases h
theorem Cs.more {R : List Sy} (h : Cs T S tk) : Cs T (S ++ R) tk := by
  refine ⟨fun s hs => by have := h.1 s hs; simp; omega, ?_⟩
  rw [EX_more h.1, UX_more h.1]; exact h.2
theorem take_both (hH : HX T zX) (hS : XSy S tk zX) (hq : Pq ps pt zX) (hb : ∃ ro, JI T (fun _ _ => False) 28 T.length ro [] [] zX) (hj : ∃ ro, JI T (EX S (TK tk) (some (c, a, b))) ps T.length ro [] [] zX) (hM : MT T zM) (hMs : MSy S tk zM) (hB : RB T S tk lv rm) (hcon : ¬ Cl T T.length (EX S (TK tk) (some (c, a, b))) (UX S (TK tk) (some (c, a, b)))) (hR : RR i T.length lv rm zX zM) (hK : RK zX zM) (hl : S.length < 100) (ha : a < T.length) (hbl : b < T.length) : ∃ zX' zM', fX5_add zX (bI c) (nI a) (nI b) = some (nI S.length, zX') ∧ fX9_take zM (nI a) (nI b) (bI c) = some (nI S.length, zM') ∧ RQ i T (S ++ [(c, a, b)]) (tkx tk S.length true) lv rm ps pt zX' zM' ∧ (∀ j, ¬ (11 ≤ j ∧ j ≤ 15) → zX' j = zX j) ∧ (∀ j, j ≠ 0 → ¬ (5 ≤ j ∧ j ≤ 8) → zM' j = zM j) ∧ (∀ f, f ≠ 9 → f ≠ 30 → zM' 0 f = zM 0 f) := by
  obtain ⟨x1, x2, x3, x4⟩ := hS
  have hn := hq.num
  have ht := hB.2.1.1
  have lenS : (S ++ [(c, a, b)]).length = S.length + 1 := by simp
  have hcl := cnt_le tk S.length
  obtain ⟨zX', hX'⟩ : ∃ y : fS, y = wrr (wrr (wrr (wrr (wrr zX 12 (upd (zX 12) S.length (bI c))) 13 (upd (zX 13) S.length (nI a))) 14 (upd (zX 14) S.length (nI b))) 15 (upd (zX 15) S.length (nI 1))) 11 (upd (upd (zX 11) 5 (nI (S.length + 1))) 6 (nI (cnt tk S.length + 1))) := ⟨_, rfl⟩
  obtain ⟨zM', hM'⟩ : ∃ y : fS, y = wrr (wrr (wrr (wrr (wrr zM 5 (upd (zM 5) S.length (nI a))) 6 (upd (zM 6) S.length (nI b))) 7 (upd (zM 7) S.length (bI c))) 8 (upd (zM 8) S.length (nI 1))) 0 (upd (upd (zM 0) 9 (nI (S.length + 1))) 30 (nI 0)) := ⟨_, rfl⟩
  have fX : ∀ j, ¬ (11 ≤ j ∧ j ≤ 15) → zX' j = zX j := fun j hj => by rw [hX']; simp (disch := omega) only [wrr_n]
  have f11 : zX' 11 = upd (upd (zX 11) 5 (nI (S.length + 1))) 6 (nI (cnt tk S.length + 1)) := by rw [hX', wrr_e]
  have f12 : zX' 12 = upd (zX 12) S.length (bI c) := by rw [hX']; simp (disch := omega) only [wrr_n, wrr_e]
  have f13 : zX' 13 = upd (zX 13) S.length (nI a) := by rw [hX']; simp (disch := omega) only [wrr_n, wrr_e]
  have f14 : zX' 14 = upd (zX 14) S.length (nI b) := by rw [hX']; simp (disch := omega) only [wrr_n, wrr_e]
  have f15 : zX' 15 = upd (zX 15) S.length (nI 1) := by rw [hX']; simp (disch := omega) only [wrr_n, wrr_e]
  have gM : ∀ j, j ≠ 0 → ¬ (5 ≤ j ∧ j ≤ 8) → zM' j = zM j := fun j h0 hj => by rw [hM']; simp (disch := omega) only [wrr_n]
  have g0 : zM' 0 = upd (upd (zM 0) 9 (nI (S.length + 1))) 30 (nI 0) := by rw [hM', wrr_e]
  have g5 : zM' 5 = upd (zM 5) S.length (nI a) := by rw [hM']; simp (disch := omega) only [wrr_n, wrr_e]
  have g6 : zM' 6 = upd (zM 6) S.length (nI b) := by rw [hM']; simp (disch := omega) only [wrr_n, wrr_e]
  have g7 : zM' 7 = upd (zM 7) S.length (bI c) := by rw [hM']; simp (disch := omega) only [wrr_n, wrr_e]
  have g8 : zM' 8 = upd (zM 8) S.length (nI 1) := by rw [hM']; simp (disch := omega) only [wrr_n, wrr_e]
  refine ⟨zX', zM', ?_, ?_, ⟨⟨hH.fr fun j hj => fX j (by omega), ⟨?_, ?_, fun s hs => ?_, fun s hs => ?_⟩, hq.fr (fX 17 (by omega)), ?_, ?_⟩, ⟨?_, ⟨?_, fun s hs => ?_⟩, Or.inl (by rw [g0, upd_e])⟩, ⟨⟨by omega, fun s hs => ?_⟩, ⟨fun s hs => ?_, ?_⟩, hB.2.2.1, fun l hl => (hB.2.2.2 l hl).more⟩, ?_, ?_⟩, fX, gM, fun f h1 h2 => by rw [g0, upd_n h2, upd_n h1]⟩
  · unfold fX5_add
    rw [hX']
    simp (disch := omega) only [x1, x2, lit, nI_ltI, if_pos, inb_t, gd_t, wr_nI, bnd_s, wrr_n, wrr_e, wrr_wrr, zb_bI, wf_w, upd_n, upd_e, nI_add, nI_sub]
    simp only [Nat.add_sub_cancel]
  · unfold fX9_take
    rw [hM']
    simp (disch := omega) only [hMs.1, lit, inb_t, gd_t, wr_nI, bnd_s, wrr_n, wrr_e, wrr_wrr, zb_bI, zb_1, wf_w, upd_n, upd_e, nI_add, nI_sub]
    simp only [Nat.add_sub_cancel]
  · rw [f11, upd_n (by omega), upd_e, lenS]
  · rw [f11, upd_e, lenS, cnt_s, tkx_e, cnt_cong (p := tkx tk S.length true) (q := tk) (fun i hi => tkx_n (by omega))]
    rfl
  · rw [lenS] at hs
    rw [f12, f13, f14]
    by_cases e : s = S.length
    · subst e
      rw [upd_e, upd_e, upd_e, sS_r.1, sS_r.2.1, sS_r.2.2]
      exact ⟨rfl, rfl, rfl⟩
    · have w := sS_l (R := [(c, a, b)]) (show s < S.length by omega)
      rw [upd_n e, upd_n e, upd_n e, w.1, w.2.1, w.2.2]
      exact x3 s (by omega)
  · rw [f15]
    by_cases e : s = S.length
    · subst e; rw [upd_e, tkx_e]; rfl
    · rw [upd_n e, tkx_n e]; exact x4 s hs
  · obtain ⟨ro, h⟩ := hb
    exact ⟨ro, h.fr fun j hj => fX j (by omega)⟩
  · obtain ⟨ro, h⟩ := hj
    rw [EX_app ht]
    exact ⟨ro, h.fr fun j hj => fX j (by omega)⟩
  · exact hM.fr (by rw [g0, upd_n (by omega), upd_n (by omega)]) fun j h1 h2 => gM j (by omega) (by omega)
  · rw [g0, upd_n (by omega), upd_e, lenS]
  · rw [lenS] at hs
    rw [g5, g6, g7, g8]
    by_cases e : s = S.length
    · subst e
      rw [upd_e, upd_e, upd_e, upd_e, sS_r.1, sS_r.2.1, sS_r.2.2, tkx_e]
      exact ⟨rfl, rfl, rfl, rfl⟩
    · have w := sS_l (R := [(c, a, b)]) (show s < S.length by omega)
      rw [upd_n e, upd_n e, upd_n e, upd_n e, w.1, w.2.1, w.2.2, tkx_n e]
      exact hMs.2 s (by omega)
  · rw [lenS] at hs
    by_cases e : s = S.length
    · subst e
      rw [sS_r.2.1, sS_r.2.2]; exact ⟨ha, hbl⟩
    · have w := sS_l (R := [(c, a, b)]) (show s < S.length by omega)
      rw [w.2.1, w.2.2]; exact hB.1.2 s (by omega)
  · by_cases e : s = S.length
    · omega
    · rw [tkx_n e] at hs
      have := ht s hs
      omega
  · rw [EX_app ht, UX_app ht]; exact hcon
  · exact hR.fr (Nat.le_refl _) (Nat.le_refl _) (fun j hj => fX j (by omega)) (by rw [fX 0 (by omega)]) (by rw [fX 0 (by omega)]) (by rw [f11, upd_n (by omega), upd_n (by omega)]) (fun j h1 h2 => gM j (by omega) (by omega)) (fun f hf => by rw [g0, upd_n (by omega), upd_n (by omega)])
  · exact hK.fr (fun j h1 h2 => fX j (by omega)) (fun j hj => gM j (by omega) (by omega)) (fun f hf => by rw [g0, upd_n (by omega), upd_n (by omega)])
theorem ThI.cong {P P' : (Nat → Prop) → Prop} {A : Nat → Prop} {K : List Nat} (hP : ∀ J : Nat → Prop, (∀ s, J s → A s) → (P J ↔ P' J)) (h : ThI P A K) : ThI P' A K := by
  refine ⟨h.1, h.2.1, fun s hs => ?_⟩
  rw [h.2.2 s hs, hP _ fun t ht => ?_]
  rcases ht with ht | ht
  · exact h.2.1 t ht.1
  · exact ht.1
/-- a core is written by both -/
theorem RQ.core (h : RQ i T S tk lv rm ps pt zX zM) (hA : HA [] [] z) {cell c2 fld : Nat} (hc : (cell = 69 ∧ c2 = 17 ∧ fld = 22) ∨ (cell = 71 ∧ c2 = 18 ∧ fld = 24)) (eX : XFr pt cell (cell + 1) zX z) (hM : RM T S tk z') (eM : MFr c2 fld zM z') {K : List Nat} (x : XCr cell K z) (m : MCr c2 fld K z') : RQ i T S tk lv rm ps pt z z' := by
  obtain ⟨h1, h2, h3, h4, ⟨C, k1, k2⟩, D, k3, k4⟩ := h
  have hn := h1.2.2.1.num
  refine ⟨h1.sc hA (fun j g1 g2 => eX j (by omega) (by omega) (by omega) (by omega) (by omega) (by omega)) (fun j g1 g2 g3 => eX j (by omega) (by omega) (by omega) g3 (by omega) (by omega)), hM, h3, h4.fr (Nat.le_refl _) (Nat.le_refl _) (fun j hj => eX j (by omega) (by omega) (by omega) (by omega) (by omega) (by omega)) (by rw [eX 0 (by omega) (by omega) (by omega) (by omega) (by omega) (by omega)]) (by rw [eX 0 (by omega) (by omega) (by omega) (by omega) (by omega) (by omega)]) (by rw [eX 11 (by omega) (by omega) (by omega) (by omega) (by omega) (by omega)]) (fun j g1 g2 => eM.1 j (by omega) (by omega) (by omega) (by omega) (by omega)) (fun f hf => eM.2.2 f (by omega) (by omega)), ?_⟩
  rcases hc with ⟨rfl, rfl, rfl⟩ | ⟨rfl, rfl, rfl⟩
  · exact ⟨⟨K, x, m⟩, D, k3.fr (eX 71 (by omega) (by omega) (by omega) (by omega) (by omega) (by omega)) (eX 72 (by omega) (by omega) (by omega) (by omega) (by omega) (by omega)), k4.fr (eM.2.2 24 (by omega) (by omega)) (eM.1 18 (by omega) (by omega) (by omega) (by omega) (by omega))⟩
  · exact ⟨⟨C, k1.fr (eX 69 (by omega) (by omega) (by omega) (by omega) (by omega) (by omega)) (eX 70 (by omega) (by omega) (by omega) (by omega) (by omega) (by omega)), k2.fr (eM.2.2 22 (by omega) (by omega)) (eM.1 17 (by omega) (by omega) (by omega) (by omega) (by omega))⟩, K, x, m⟩
theorem RX.xt (h : RX T S tk ps pt z) : XTk T S tk ps pt z := ⟨h.2.2.1, h.2.1, h.2.2.2.1⟩
theorem full_ok (h : RQ i T S tk lv rm ps pt zX zM) : (S.length < 100 ∧ fX5_isFull zX = some (nI 0) ∧ ¬ zM 0 9 = nI 100) ∨ (fX5_isFull zX = some (nI 1) ∧ zM 0 9 = nI 100) := by
  have hl := h.2.2.1.1.1
  have e1 := h.1.2.1.1
  have e2 := h.2.1.2.1.1
  unfold fX5_isFull
  by_cases q : S.length < 100
  · left
    refine ⟨q, ?_, ?_⟩
    · simp (disch := omega) only [e1, lit, nI_ltI, if_pos]
    · rw [e2, nI_eq (by omega) (by omega)]; omega
  · right
    refine ⟨?_, ?_⟩
    · simp (disch := omega) only [e1, lit, nI_ltI, if_neg]
    · rw [e2]; congr 1; omega
/-- a saying that two are the same is tried by both -/
theorem try_both (h : RQ i T S tk lv rm ps pt zX zM) (ha : a < T.length) (hb : b < T.length) (hl : S.length < 100) : (∃ z1 z2 zM1, fX2_wouldClash zX (nI a) (nI b) = some (nI 1, z1) ∧ fX2_thin z1 (nI 0) (nI a) (nI b) 69 = some z2 ∧ fX9_wouldClash zM (nI a) (nI b) (nI 1) = some (nI 1, zM1) ∧ RQ i T S tk lv rm ps pt z2 zM1 ∧ (∀ j, 58 ≤ j → j ≠ 69 → j ≠ 70 → z2 j = zX j) ∧ (∀ j, 22 ≤ j → zM1 j = zM j) ∧ (∀ f, f ≠ 30 → f ≠ 22 → zM1 0 f = zM 0 f)) ∨ (∃ z1 z2 z3 zM1 zM2, fX2_wouldClash zX (nI a) (nI b) = some (nI 0, z1) ∧ fX2_acceptTrial z1 = some z2 ∧ fX5_add z2 (nI 1) (nI a) (nI b) = some (nI S.length, z3) ∧ fX9_wouldClash zM (nI a) (nI b) (nI 1) = some (nI 0, zM1) ∧ fX9_take zM1 (nI a) (nI b) (nI 1) = some (nI S.length, zM2) ∧ RQ i T (S ++ [(true, a, b)]) (tkx tk S.length true) lv rm pt ps z3 zM2 ∧ (∀ j, 58 ≤ j → z3 j = zX j) ∧ (∀ j, 22 ≤ j → zM2 j = zM j) ∧ (∀ f, f ≠ 30 → f ≠ 9 → zM2 0 f = zM 0 f)) := by
  have h' := h
  obtain ⟨h1, h2, h3, h4, h5⟩ := h'
  have hW := h1.1.1
  have ht := h3.2.1.1
  have hn := h1.2.2.1.num
  have hx : ∀ c' a' b', some (true, a, b) = some (c', a', b') → a' < T.length ∧ b' < T.length := fun c' a' b' e => by cases e; exact ⟨ha, hb⟩
  obtain ⟨ro, hj⟩ := h1.2.2.2.2
  obtain ⟨r, z1, x1, x2, x3, x4⟩ := wouldClashX_ok hW h3.1 ht h1.2.2.1 h1.2.1 hj ha hb
  obtain ⟨r', zM1, y1, y2, y3, y4⟩ := wouldClashM_ok (c := true) hW h3.1 ht h2 ha hb
  rcases x4 with ⟨rfl, x4⟩ | ⟨rfl, x4, ro', x5⟩
  · rcases y4 with ⟨rfl, y4, _⟩ | ⟨rfl, y4, K, y5, y6⟩
    · exact absurd x4 y4
    · left
      have f1 : XFr pt 69 70 zX z1 := fun j _ _ g1 g2 _ _ => x3 j g1 g2
      have hk1 := h1.xt.fr x2 f1 (by omega) (by omega)
      obtain ⟨K', z2, d1, d2, d3, d4, d5⟩ := thin_ok (cell := 69) hW h3.1 ht hx (thG_clash hW h3.1 ht) (thS_clash hW ha hb) (Or.inl rfl) hk1 x4
      have eK := ThI.uniq d2 y5
      subst eK
      exact ⟨z1, z2, zM1, x1, d1, y1, h.core d4 (Or.inl ⟨rfl, rfl, rfl⟩) (f1.tr d5) y2 y3 d3 y6, fun j g1 g2 g3 => by rw [d5 j (by omega) (by omega) (by omega) (by omega) g2 g3, x3 j (by omega) (by omega)], fun j hj => y3.1 j (by omega) (by omega) (by omega) (by omega) (by omega), fun f g1 g2 => y3.2.2 f g1 g2⟩
  · rcases y4 with ⟨rfl, y4, y5⟩ | ⟨rfl, y4, _⟩
    · right
      obtain ⟨z2, d1, d2, d3⟩ := acceptTrial_ok (h1.2.2.1.fr (x3 17 (by omega) (by omega)))
      have eX : ∀ j, ¬ (23 ≤ j ∧ j ≤ 27) → ¬ (pt ≤ j ∧ j ≤ pt + 9) → j ≠ 17 → z2 j = zX j := fun j g1 g2 g3 => by rw [d3 j g3, x3 j g1 g2]
      obtain ⟨ro0, hb0⟩ := h1.2.2.2.1
      have hb1 := (hb0.fr2 x2 fun j hj => x3 j (by omega) (by omega)).fr fun j hj => d3 j (by omega)
      have hj1 := x5.fr fun j hj => d3 j (by omega)
      have hR := h4.fr (z := z2) (z' := zM1) (Nat.le_refl _) (Nat.le_refl _) (fun j hj => eX j (by omega) (by omega) (by omega)) (by rw [eX 0 (by omega) (by omega) (by omega)]) (by rw [eX 0 (by omega) (by omega) (by omega)]) (by rw [eX 11 (by omega) (by omega) (by omega)]) (fun j g1 g2 => y5.1 j (by omega) (by omega) (by omega) (by omega) (by omega)) (fun f hf => y5.2.2 f (by omega) (by omega))
      have hK := h5.fr (z := z2) (z' := zM1) (fun j g1 g2 => eX j (by omega) (by omega) (by omega)) (fun j hj => y5.1 j (by omega) (by omega) (by omega) (by omega) (by omega)) (fun f hf => y5.2.2 f (by omega) (by omega))
      obtain ⟨z3, zM2, t1, t2, t3, t4, t5, t6⟩ := take_both (c := true) (a := a) (b := b) (h1.1.fr fun j hj => eX j (by omega) (by omega) (by omega)) (h1.2.1.fr fun j g1 g2 => eX j (by omega) (by omega) (by omega)) d2 ⟨ro0, hb1⟩ ⟨ro', hj1⟩ y2.1 y2.2.1 h3 x4 hR hK hl ha hb
      exact ⟨z1, z2, z3, zM1, zM2, x1, d1, t1, y1, t2, t3, fun j hj => by rw [t4 j (by omega), eX j (by omega) (by omega) (by omega)], fun j hj => by rw [t5 j (by omega) (by omega), y5.1 j (by omega) (by omega) (by omega) (by omega) (by omega)], fun f g1 g2 => by rw [t6 f g2 g1, y5.2.2 f g1 g1]⟩
    · exact absurd y4 x4
end TAKE
end
section
/-! the face: sayings and judgements -/
theorem bI_if (c : Bool) : (if bI c = nI 0 then some (nI 0) else some (nI 1)) = some (bI c) := by
  cases c
  · rw [bI_f, if_pos rfl]
  · rw [bI_t, if_neg (nno 1 0 (by omega) (by omega) (by omega))]
section FACE2
variable {T : List Tm} {S : List Sy} {tk : Nat → Bool} {lv : Nat} {rm : Nat → Nat → Bool} {ps pt i : Nat} {zX zM z z' : fS} {a b : Nat}
theorem stand_ok (h : RQ i T S tk lv rm ps pt zX zM) (ha : a < T.length) (hb : b < T.length) : fX2_standing zX = some (zX 17 3) ∧ pcell (zX 17 3) = ps ∧ ∃ r, fX4_isOne ps zX (nI a) (nI b) = some (nI r) ∧ ((r = 1 ∧ One T T.length (EX S (TK tk) none) a b) ∨ (r = 0 ∧ ¬ One T T.length (EX S (TK tk) none) a b)) := by
  obtain ⟨ro, hj⟩ := h.1.2.2.2.2
  exact ⟨id rfl, h.1.2.2.1.1, isOne_ok h.1.1.1 hj ha hb⟩
theorem judgeM_ok (hW : WT T) (hS : WS T.length S) (ht : ∀ s, tk s = true → s < S.length) (h : RM T S tk z) (h1 : fX9_isTerm z (nI a) = some (nI 1)) (h2 : fX9_isTerm z (nI b) = some (nI 1)) (ha : a < T.length) (hb : b < T.length) : ∃ r z', fX9_judge z (nI a) (nI b) = some (nI r, z') ∧ RM T S tk z' ∧ MFr 0 30 z z' ∧ ((r = 1 ∧ One T T.length (EX S (TK tk) none) a b) ∨ (r = 0 ∧ ¬ One T T.length (EX S (TK tk) none) a b ∧ Cl T T.length (EX S (TK tk) (some (true, a, b))) (UX S (TK tk) (some (true, a, b)))) ∨ (r = 2 ∧ ¬ One T T.length (EX S (TK tk) none) a b ∧ ¬ Cl T T.length (EX S (TK tk) (some (true, a, b))) (UX S (TK tk) (some (true, a, b))))) := by
  obtain ⟨r, z1, a1, a2, a3, a4⟩ := areOne_ok hW hS ht h ha hb
  unfold fX9_judge
  rw [h1, bp_s, h2, bp_s, a1, bd_s]
  rcases a2 with ⟨rfl, a2⟩ | ⟨rfl, a2⟩
  · refine ⟨1, z1, ?_, a3, a4, Or.inl ⟨rfl, a2⟩⟩
    simp (disch := omega) only [lit, nI_eq, if_neg]
  · obtain ⟨b1, b2, b3⟩ := a3
    have hx : ∀ c' a' b', some (true, a, b) = some (c', a', b') → a' < T.length ∧ b' < T.length := fun c' a' b' e => by cases e; exact ⟨ha, hb⟩
    obtain ⟨z2, c1, c2, c3⟩ := takeCourt_ok hS.1 ht b2
    obtain ⟨z3, d1, d2, d3, d4⟩ := add_ok (c := true) (a := a) (b := b) c2
    have f2 : MFr 0 30 z1 z3 := ⟨fun j h0 h5 _ h21 _ => by rw [d3 j (by omega) (by omega) (by omega) h21, c3 j h21], fun j s h5 hs => by rw [d4 j s hs, c3 j (by omega)], fun g _ _ => by rw [d3 0 (by omega) (by omega) (by omega) (by omega), c3 0 (by omega)]⟩
    have hT2 := f2.mt b1 (Or.inl rfl) (by omega)
    have hM2 := f2.msy hS.1 b2 (Or.inl rfl) (by omega)
    obtain ⟨r, z4, e1, e2, e3, e4, e5⟩ := clashes_ok hW hT2 (MI_of hS hx hM2 d2)
    have f3 : MFr 0 30 z3 z4 := ⟨fun j h0 _ h20 _ _ => e4 j h20 h0, fun j s h5 _ => by rw [e4 j (by omega) (by omega)], fun g hg _ => by rw [e5, upd_n hg]⟩
    have hR : RM T S tk z4 := ⟨f3.mt hT2 (Or.inl rfl) (by omega), f3.msy hS.1 hM2 (Or.inl rfl) (by omega), Or.inl (by rw [e5, upd_e])⟩
    rcases e2 with ⟨rfl, e2⟩ | ⟨rfl, e2⟩
    · refine ⟨0, z4, ?_, hR, (a4.tr f2).tr f3, Or.inr (Or.inl ⟨rfl, a2, e2⟩)⟩
      rw [bI_t] at d1
      simp (disch := omega) only [lit, nI_eq, if_neg, if_true, c1, bp_s, d1, e1, bd_s]
    · refine ⟨2, z4, ?_, hR, (a4.tr f2).tr f3, Or.inr (Or.inr ⟨rfl, a2, e2⟩)⟩
      rw [bI_t] at d1
      simp (disch := omega) only [lit, nI_eq, if_neg, if_true, c1, bp_s, d1, e1, bd_s]
/-- clashing with an unlike saying, of what does not clash itself -/
theorem cl_unlike (hcon : ¬ Cl T T.length (EX S (TK tk) none) (UX S (TK tk) none)) {J : Nat → Prop} (hJ : ∀ s, J s → TK tk s) : One T T.length (EX S J none) a b ↔ Cl T T.length (EX S J (some (false, a, b))) (UX S J (some (false, a, b))) := by
  have e : EX S J (some (false, a, b)) = EX S J none := by
    funext u v
    refine propext ⟨?_, ?_⟩
    · rintro (h | h)
      · exact Or.inl h
      · cases h
    · rintro (h | h)
      · exact Or.inl h
      · cases h
  rw [e]
  constructor
  · intro h
    exact Or.inl ⟨a, b, Or.inr rfl, h⟩
  · rintro (⟨c, d, (⟨s, s1, s2, s3⟩ | h), ho⟩ | ⟨u, v, u1, u2, u3, u4, u5, u6⟩)
    · exact absurd (Or.inl ⟨c, d, Or.inl ⟨s, s1, hJ s s2, s3⟩, ho.mono fun _ _ e => EX_mono hJ e⟩) hcon
    · cases h; exact ho
    · exact absurd (Or.inr ⟨u, v, u1, u2, u3, u4, u5, u6.mono fun _ _ e => EX_mono hJ e⟩) hcon
end FACE2
theorem s_say : st_say Rel := by
  intro i zX zM a b _ ⟨h0, T, S, tk, lv, rm, ps, pt, h⟩
  unfold fX8_say fX9_say fX9_saidNow
  rcases has_ok h a with ⟨x1, x2⟩ | ⟨m, m1, rfl, x1, x2⟩
  · refine ⟨-(nI 1), _, _, ?_, ?_, h.fin (nI 1)⟩
    · simp only [x1, bp_s, lit, if_true, refX, bd_s]
    · simp only [x2, bp_s, lit, if_true, refM, bd_s]
  · rcases has_ok h b with ⟨y1, y2⟩ | ⟨n, n1, rfl, y1, y2⟩
    · refine ⟨-(nI 1), _, _, ?_, ?_, h.fin (nI 1)⟩
      · simp (disch := omega) only [x1, y1, bp_s, lit, nI_eq, if_neg, if_true, refX, bd_s]
      · simp (disch := omega) only [x2, y2, bp_s, lit, nI_eq, if_neg, if_true, refM, bd_s]
    · simp (disch := omega) only [x1, y1, x2, y2, bp_s, lit, nI_eq, if_neg]
      rcases full_ok h with ⟨f1, f2, f3⟩ | ⟨f2, f3⟩
      · rw [f2, bp_s]
        simp only [if_true, if_neg f3]
        rcases try_both h m1 n1 f1 with ⟨z1, z2, zM1, t1, t2, t3, t4, _⟩ | ⟨z1, z2, z3, zM1, zM2, t1, t2, t3, t4, t5, t6, _⟩
        · refine ⟨-(nI 1), _, _, ?_, ?_, t4.fin (nI 4)⟩
          · rw [t1, bd_s]
            simp (disch := omega) only [nI_eq, if_neg, t2, bp_s, refX, bd_s]
          · rw [t3, bd_s]
            simp (disch := omega) only [nI_eq, if_neg, refM, bd_s]
        · refine ⟨nI S.length, _, _, ?_, ?_, t6.fin (nI 0)⟩
          · rw [t1, bd_s]
            simp (disch := omega) only [if_true, t2, bp_s, t3, doneX, bd_s]
          · rw [t4, bd_s]
            simp (disch := omega) only [if_true, t5, doneM, bd_s]
      · rw [f2, bp_s]
        refine ⟨-(nI 1), _, _, ?_, ?_, h.fin (nI 3)⟩
        · simp (disch := omega) only [nI_eq, if_neg, refX, bd_s]
        · simp (disch := omega) only [f3, if_true, refM, bd_s]
theorem s_unlike : st_unlike Rel := by
  intro i zX zM a b _ ⟨h0, T, S, tk, lv, rm, ps, pt, h⟩
  unfold fX8_unlike fX9_unlike fX9_saidNow
  rcases has_ok h a with ⟨x1, x2⟩ | ⟨m, m1, rfl, x1, x2⟩
  · refine ⟨-(nI 1), _, _, ?_, ?_, h.fin (nI 1)⟩
    · simp only [x1, bp_s, lit, if_true, refX, bd_s]
    · simp only [x2, bp_s, lit, if_true, refM, bd_s]
  · rcases has_ok h b with ⟨y1, y2⟩ | ⟨n, n1, rfl, y1, y2⟩
    · refine ⟨-(nI 1), _, _, ?_, ?_, h.fin (nI 1)⟩
      · simp (disch := omega) only [x1, y1, bp_s, lit, nI_eq, if_neg, if_true, refX, bd_s]
      · simp (disch := omega) only [x2, y2, bp_s, lit, nI_eq, if_neg, if_true, refM, bd_s]
    · simp (disch := omega) only [x1, y1, x2, y2, bp_s, lit, nI_eq, if_neg]
      rcases full_ok h with ⟨f1, f2, f3⟩ | ⟨f2, f3⟩
      · rw [f2, bp_s]
        simp only [if_true, if_neg f3]
        obtain ⟨g1, g2, r, g3, g4⟩ := stand_ok h m1 n1
        have h' := h
        obtain ⟨h1, h2, h3, h4, h5⟩ := h'
        have hW := h1.1.1
        have ht := h3.2.1.1
        have hcon := h3.2.1.2
        obtain ⟨r', zM1, w1, w2, w3, w4⟩ := wouldClashM_ok (c := false) hW h3.1 ht h2 m1 n1
        rw [bI_f] at w1
        have hc0 := cl_unlike hcon (a := m) (b := n) (J := TK tk) (fun _ h => h)
        rw [g1, bp_s, g2, g3, bp_s, w1, bd_s]
        rcases g4 with ⟨rfl, g4⟩ | ⟨rfl, g4⟩
        · rcases w4 with ⟨rfl, w4, _⟩ | ⟨rfl, w4, K, w5, w6⟩
          · exact absurd (hc0.mp g4) w4
          · obtain ⟨K', z2, d1, d2, d3, d4, d5⟩ := thin_ok (x := none) (cell := 69) hW h3.1 ht (fun _ _ _ e => by cases e) (thG_one (ps := ps) (pt := pt) hW hcon m1 n1) thS_one (Or.inl rfl) h1.xt g4
            have d2' := d2.cong fun J hJ => cl_unlike hcon (a := m) (b := n) hJ
            have eK := ThI.uniq d2' w5
            subst eK
            have hq := h.core d4 (Or.inl ⟨rfl, rfl, rfl⟩) d5 w2 w3 d3 w6
            refine ⟨-(nI 1), _, _, ?_, ?_, hq.fin (nI 4)⟩
            · simp (disch := omega) only [nI_eq, if_neg, d1, bp_s, refX, bd_s]
            · simp (disch := omega) only [nI_eq, if_neg, refM, bd_s]
        · rcases w4 with ⟨rfl, w4, w5⟩ | ⟨rfl, w4, _⟩
          · have hqM := h.mf w2 w5
            have hj : ∃ ro, JI T (EX S (TK tk) (some (false, m, n))) ps T.length ro [] [] zX := by
              obtain ⟨ro, hj⟩ := h1.2.2.2.2
              refine ⟨ro, ?_⟩
              have e : EX S (TK tk) (some (false, m, n)) = EX S (TK tk) none := by
                funext u v
                refine propext ⟨?_, ?_⟩
                · rintro (h | h)
                  · exact Or.inl h
                  · cases h
                · rintro (h | h)
                  · exact Or.inl h
                  · cases h
              rw [e]; exact hj
            obtain ⟨z3, zM2, t1, t2, t3, _⟩ := take_both (c := false) (a := m) (b := n) h1.1 h1.2.1 h1.2.2.1 h1.2.2.2.1 hj w2.1 w2.2.1 h3 w4 hqM.2.2.2.1 hqM.2.2.2.2 f1 m1 n1
            rw [bI_f] at t1 t2
            refine ⟨nI S.length, _, _, ?_, ?_, t3.fin (nI 0)⟩
            · simp (disch := omega) only [if_true, t1, doneX, bd_s]
            · simp (disch := omega) only [if_true, t2, doneM, bd_s]
          · exact absurd (hc0.mpr w4) g4
      · rw [f2, bp_s]
        refine ⟨-(nI 1), _, _, ?_, ?_, h.fin (nI 3)⟩
        · simp (disch := omega) only [nI_eq, if_neg, refX, bd_s]
        · simp (disch := omega) only [f3, if_true, refM, bd_s]
theorem hasS_ok {T : List Tm} {S : List Sy} {tk : Nat → Bool} {lv : Nat} {rm : Nat → Nat → Bool} {ps pt i : Nat} {zX zM : fS} (h : RQ i T S tk lv rm ps pt zX zM) (a : Int32) : (fX5_has zX a = some (nI 0) ∧ (a < nI 0 ∨ (¬ a < nI 0 ∧ ¬ a < zM 0 9))) ∨ ∃ m, m < S.length ∧ a = nI m ∧ fX5_has zX a = some (nI 1) ∧ ¬ a < nI 0 ∧ a < zM 0 9 := by
  have hl := h.2.2.1.1.1
  have e1 := h.1.2.1.1
  have e2 := h.2.1.2.1.1
  unfold fX5_has
  rw [e1, e2]
  by_cases q1 : a < nI 0
  · left
    simp only [lit, if_pos q1]
    exact ⟨trivial, Or.inl q1⟩
  · by_cases q2 : nI S.length ≤ a
    · left
      simp only [lit, if_neg q1, if_pos q2]
      exact ⟨trivial, Or.inr ⟨q1, nlt_le.mpr q2⟩⟩
    · right
      have q2' := nle_lt.mp q2
      obtain ⟨k, _, k2, rfl⟩ := rng (x := a) (a := 0) (b := S.length) (by omega) (by omega) q1 (by
        intro hh
        rw [Int32.lt_iff_toInt_lt] at hh q2'
        omega)
      rw [nI_leI (by omega) (by omega)] at q2
      refine ⟨k, by omega, rfl, ?_, q1, q2'⟩
      simp (disch := omega) only [lit, nI_ltI, nI_leI, if_neg]
theorem s_said : st_said Rel := by
  intro i zX zM a w _ hr
  obtain ⟨h0, T, S, tk, lv, rm, ps, pt, h⟩ := id hr
  have hl := h.2.2.1.1.1
  unfold fX8_said fX9_said
  rcases hasS_ok h a with ⟨x1, x2⟩ | ⟨m, m1, rfl, x1, x2, x3⟩
  · refine ⟨-(nI 1), ?_, ?_, up_ok hr⟩
    · simp only [x1, bp_s, lit, litm, if_true]
    · rcases x2 with x2 | ⟨x2, x3⟩
      · simp only [lit, litm, if_pos x2]
      · simp only [lit, litm, if_neg x2, if_neg x3]
  · obtain ⟨s1, s2, s3⟩ := h.1.2.1.2.2.1 m m1
    obtain ⟨t1, t2, t3, t4⟩ := h.2.1.2.1.2 m m1
    have i1 := isTaken_ok h.1.2.1 (show m < 100 by omega)
    have i2 := isSame_ok h.1.2.1 hl m1
    have i3 := left_ok h.1.2.1 hl m1
    have i4 := right_ok h.1.2.1 hl m1
    simp (disch := omega) only [x1, bp_s, lit, litm, nI_eq, if_neg, if_neg x2, if_pos x3, i1, i2, i3, i4, inb_t, gd_t, rd_nI, t1, t2, t3, t4]
    by_cases q0 : w = nI 0
    · simp only [if_pos q0, bI_if]
      exact ⟨_, rfl, rfl, up_ok hr⟩
    · simp only [if_neg q0]
      by_cases q1 : w = nI 1
      · simp only [if_pos q1]
        exact ⟨_, rfl, rfl, up_ok hr⟩
      · simp only [if_neg q1]
        by_cases q2 : w = nI 2
        · simp only [if_pos q2]
          exact ⟨_, rfl, rfl, up_ok hr⟩
        · simp only [if_neg q2]
          by_cases q3 : w = nI 3
          · simp only [if_pos q3, bI_if]
            exact ⟨_, rfl, rfl, up_ok hr⟩
          · simp only [if_neg q3]
            exact ⟨_, rfl, rfl, up_ok hr⟩
theorem core_at {cell c2 fld : Nat} {C : List Nat} {zX zM : fS} (hx : XCr cell C zX) (hm : MCr c2 fld C zM) (a : Int32) : ∃ r, fX1_at cell zX a = some r ∧ (if a < nI 0 then some (-(nI 1)) else if zM 0 fld ≤ a then some (-(nI 1)) else gd (inb a 100) (some (rd zM c2 a))) = some r := by
  unfold fX1_at
  rw [hx.1, hm.1]
  have hl := hx.2.1
  by_cases q1 : a < nI 0
  · exact ⟨-(nI 1), by simp only [lit, litm, if_pos q1], by simp only [if_pos q1]⟩
  · by_cases q2 : nI C.length ≤ a
    · exact ⟨-(nI 1), by simp only [lit, litm, if_neg q1, if_pos q2], by simp only [if_neg q1, if_pos q2]⟩
    · have q2' := nle_lt.mp q2
      obtain ⟨k, _, k2, rfl⟩ := rng (x := a) (a := 0) (b := C.length) (by omega) (by omega) q1 (by
        intro hh
        rw [Int32.lt_iff_toInt_lt] at hh q2'
        omega)
      have q3 : k < C.length := (nI_ltI (by omega) (by omega)).mp q2'
      refine ⟨nI (C.getD k 0), ?_, ?_⟩
      · simp (disch := omega) only [lit, nI_ltI, nI_leI, if_neg, inb_t, gd_t, rd_nI, hx.2.2 k q3]
      · simp (disch := omega) only [nI_ltI, nI_leI, if_neg, inb_t, gd_t, rd_nI, hm.2.2 k q3]
theorem s_clashed : st_clashed Rel := by
  intro i zX zM a _ hr
  obtain ⟨h0, T, S, tk, lv, rm, ps, pt, h⟩ := id hr
  obtain ⟨⟨C, c1, c2⟩, _⟩ := h.2.2.2.2
  obtain ⟨r, e1, e2⟩ := core_at c1 c2 a
  refine ⟨r, ?_, ?_, up_ok hr⟩
  · unfold fX8_clashed; rw [e1, bp_s]
  · unfold fX9_clashed; simp only [lit, litm]; exact e2
theorem s_because : st_because Rel := by
  intro i zX zM a _ hr
  obtain ⟨h0, T, S, tk, lv, rm, ps, pt, h⟩ := id hr
  obtain ⟨_, C, c1, c2⟩ := h.2.2.2.2
  obtain ⟨r, e1, e2⟩ := core_at c1 c2 a
  refine ⟨r, ?_, ?_, up_ok hr⟩
  · unfold fX8_because; rw [e1, bp_s]
  · unfold fX9_because; simp only [lit, litm]; exact e2
theorem s_ended : st_ended Rel := by
  intro i zX zM _ hr
  obtain ⟨h0, T, S, tk, lv, rm, ps, pt, h⟩ := id hr
  refine ⟨zX 0 11, rfl, ?_, up_ok hr⟩
  unfold fX9_ended
  rw [h.2.2.2.1.2.2.2.1]
theorem s_status : st_status Rel := by
  intro i zX zM _ hr
  refine ⟨zX 0 12, rfl, ?_, up_ok hr⟩
  unfold fX9_status
  rw [hr.1]
theorem s_judge : st_judge Rel := by
  intro i zX zM a b _ hr
  obtain ⟨h0, T, S, tk, lv, rm, ps, pt, h⟩ := id hr
  rcases has_ok h a with ⟨x1, x2⟩ | ⟨m, m1, rfl, x1, x2⟩
  · refine ⟨-(nI 1), zX, zM, ?_, ?_, up_ok hr⟩
    · unfold fX8_judge; simp only [x1, bp_s, lit, litm, if_true]
    · unfold fX9_judge; simp only [x2, bp_s, lit, litm, if_true]
  · rcases has_ok h b with ⟨y1, y2⟩ | ⟨n, n1, rfl, y1, y2⟩
    · refine ⟨-(nI 1), zX, zM, ?_, ?_, up_ok hr⟩
      · unfold fX8_judge; simp (disch := omega) only [x1, y1, bp_s, lit, litm, nI_eq, if_neg, if_true]
      · unfold fX9_judge; simp (disch := omega) only [x2, y2, bp_s, lit, litm, nI_eq, if_neg, if_true]
    · obtain ⟨g1, g2, r, g3, g4⟩ := stand_ok h m1 n1
      have h' := h
      obtain ⟨h1, h2, h3, h4, h5⟩ := h'
      have hW := h1.1.1
      have ht := h3.2.1.1
      have hn := h1.2.2.1.num
      obtain ⟨rM, zM1, w1, w2, w3, w4⟩ := judgeM_ok hW h3.1 ht h2 x2 y2 m1 n1
      unfold fX8_judge
      simp (disch := omega) only [x1, y1, bp_s, lit, litm, nI_eq, if_neg, g1, g2, g3, w1]
      have e26 : zM1 0 26 = zM 0 26 := w3.2.2 26 (by omega) (by omega)
      rcases g4 with ⟨rfl, g4⟩ | ⟨rfl, g4⟩
      · rcases w4 with ⟨rfl, _⟩ | ⟨_, w4, _⟩ | ⟨_, w4, _⟩
        · refine ⟨nI 1, zX, zM1, ?_, rfl, h0.trans e26.symm, T, S, tk, lv, rm, ps, pt, (h.mf w2 w3).up⟩
          simp (disch := omega) only [if_neg]
        · exact absurd g4 w4
        · exact absurd g4 w4
      · obtain ⟨ro, hj⟩ := h1.2.2.2.2
        obtain ⟨r, z1, c1, c2, c3, c4⟩ := wouldClashX_ok hW h3.1 ht h1.2.2.1 h1.2.1 hj m1 n1
        have hq : RQ i T S tk lv rm ps pt z1 zM1 := h.sc c2 (fun j hj => c3 j (by omega) (by omega)) w2 (fun j g1 g2 => w3.1 j (by omega) (by omega) (by omega) (by omega) (by omega)) (fun f g1 _ _ => w3.2.2 f g1 g1)
        have fin : Rel (i + 1) z1 zM1 := ⟨by rw [c3 0 (by omega) (by omega), e26]; exact h0, T, S, tk, lv, rm, ps, pt, hq.up⟩
        rcases c4 with ⟨rfl, c4⟩ | ⟨rfl, c4, _⟩
        · rcases w4 with ⟨_, w4⟩ | ⟨rfl, _, w4⟩ | ⟨_, _, w4⟩
          · exact absurd w4 g4
          · refine ⟨nI 0, z1, zM1, ?_, rfl, fin⟩
            simp (disch := omega) only [if_true, c1, bd_s, nI_eq, if_neg]
          · exact absurd c4 w4
        · rcases w4 with ⟨_, w4⟩ | ⟨_, _, w4⟩ | ⟨rfl, _, w4⟩
          · exact absurd w4 g4
          · exact absurd w4 c4
          · refine ⟨nI 2, z1, zM1, ?_, rfl, fin⟩
            simp (disch := omega) only [if_true, c1, bd_s]
end
section
/-! the face: classes -/
theorem cnt_inj {g : Nat → Nat} : ∀ (n m : Nat) (p q : Nat → Bool), (∀ i, i < n → p i = true → g i < m ∧ q (g i) = true) → (∀ i j, i < n → j < n → p i = true → p j = true → g i = g j → i = j) → cnt p n ≤ cnt q m := by
  intro n
  induction n with
  | zero => intro m p q _ _; exact Nat.zero_le _
  | succ n ih =>
    intro m p q h1 h2
    rw [cnt_s]
    cases hp : p n
    · have := ih m p q (fun i hi => h1 i (by omega)) (fun i j hi hj => h2 i j (by omega) (by omega))
      simpa using this
    · obtain ⟨g1, g2⟩ := h1 n (by omega) hp
      have c := cnt_less (p := q) (q := fun i => if i = g n then false else q i) (j := g n) g2 (by simp) (fun i hi => by simp [hi]) g1
      have := ih m p (fun i => if i = g n then false else q i) (fun i hi hpi => by
        obtain ⟨k1, k2⟩ := h1 i (by omega) hpi
        refine ⟨k1, ?_⟩
        have : g i ≠ g n := fun e => by have := h2 i n (by omega) (by omega) hpi hp e; omega
        simp [this, k2]) (fun i j hi hj => h2 i j (by omega) (by omega))
      simp only [if_true]
      omega
section FACE3
variable {T : List Tm} {S : List Sy} {tk : Nat → Bool} {lv : Nat} {rm : Nat → Nat → Bool} {ps pt i : Nat} {zX zM z z' : fS} {a b : Nat}
/-- the classes, as both know them -/
theorem cls_ok (h : RQ i T S tk lv rm ps pt zX zM) : ∃ zM1 on, fX9_court zM = some zM1 ∧ RQ i T S tk lv rm ps pt zX zM1 ∧ MFr 0 30 zM zM1 ∧ MO T.length on zM1 ∧ (∀ t, t < T.length → fX4_headOf ps zX (nI t) = some (nI (on t))) ∧ (∀ a b, a < T.length → b < T.length → fX4_isOne ps zX (nI a) (nI b) = some (if on a = on b then nI 1 else nI 0)) ∧ zX ps 12 = nI (cnt (fun r => decide (on r = r)) T.length) ∧ (∀ t, t < T.length → (fX4_numberOf ps zX (nI t) = some (-(nI 1)) ∧ ∀ u, u < T.length → on u = on t → kd T u ≠ nI 1) ∨ ∃ u, fX4_numberOf ps zX (nI t) = some (nI u) ∧ u < T.length ∧ on u = on t ∧ kd T u = nI 1 ∧ ∀ v, v < T.length → on v = on t → kd T v = nI 1 → v = u) ∧ zM1 0 30 = nI 1 := by
  have h' := h
  obtain ⟨h1, h2, h3, h4, h5⟩ := h'
  have hW := h1.1.1
  have hT1 := hW.1
  have ht := h3.2.1.1
  obtain ⟨zM1, a1, a2, a3, a4⟩ := court_ok hW h3.1 ht h2
  obtain ⟨on, o1, o2⟩ := a2
  obtain ⟨ro, hj⟩ := h1.2.2.2.2
  have hc := hj.closed hW (Nat.le_refl _)
  have hS := hj.1.2.2.1
  have key : ∀ a b, a < T.length → b < T.length → (ro a = ro b ↔ on a = on b) := fun a b ha hb => (hc a b ha hb).trans (o2 a b ha hb).symm
  have least : ∀ t, t < T.length → zX (ps + 4) (ro t) = nI (on t) := by
    intro t ht
    obtain ⟨r1, r2, r3⟩ := hS.2.2.1 t ht
    obtain ⟨_, _, _, _, _, m, m1, m2, m3, m4⟩ := hS.2.2.2.1 (ro t) r2 r3
    rw [m1]
    have ot := o1 t ht
    have om := o1 m m2
    have e1 : on m = on t := (key m t m2 ht).mp m3
    have e2 : m ≤ on t := m4 (on t) (by omega) ((key (on t) t (by omega) ht).mpr ot.2.2)
    congr 1
    omega
  refine ⟨zM1, on, a1, h.mf a3 a4, a4, o1, ?_, ?_, ?_, ?_, ?_⟩
  · intro t ht
    obtain ⟨r1, r2, r3⟩ := hS.2.2.1 t ht
    unfold fX4_headOf
    simp (disch := omega) only [inb_t, gd_t, rd_nI, r1, least t ht]
  · intro a b ha hb
    have ra := hS.2.2.1 a ha
    have rb := hS.2.2.1 b hb
    unfold fX4_isOne
    simp (disch := omega) only [inb_t, gd_t, rd_nI, ra.1, rb.1, nI_eq, lit, key a b ha hb]
    split <;> rfl
  · rw [hS.2.2.2.2]
    congr 1
    have r2 : ∀ t, t < T.length → ro t < T.length ∧ ro (ro t) = ro t := fun t ht => (hS.2.2.1 t ht).2
    refine Nat.le_antisymm (cnt_inj (g := on) _ _ _ _ ?_ ?_) (cnt_inj (g := ro) _ _ _ _ ?_ ?_)
    · intro t ht hp
      have := o1 t ht
      exact ⟨by omega, by simp [this.2.2]⟩
    · intro t u ht hu p1 p2 e
      have e1 : ro t = t := of_decide_eq_true p1
      have e2 : ro u = u := of_decide_eq_true p2
      rw [← e1, ← e2]
      exact (key t u ht hu).mpr e
    · intro t ht hp
      have := r2 t ht
      exact ⟨this.1, by simp [this.2]⟩
    · intro t u ht hu p1 p2 e
      have e1 : on t = t := of_decide_eq_true p1
      have e2 : on u = u := of_decide_eq_true p2
      rw [← e1, ← e2]
      exact (key t u ht hu).mp e
  · intro t ht
    obtain ⟨r1, r2, r3⟩ := hS.2.2.1 t ht
    have en : fX4_numberOf ps zX (nI t) = some (zX (ps + 5) (ro t)) := by
      unfold fX4_numberOf
      simp (disch := omega) only [inb_t, gd_t, rd_nI, r1]
    rw [en]
    rcases hj.1.2.2.2.1.2 (ro t) r2 r3 with ⟨q1, q2⟩ | ⟨u, q1, q2, q3, q4, q5⟩
    · left
      exact ⟨by rw [q1]; rfl, fun u hu e => q2 u hu ((key u t hu ht).mpr e)⟩
    · right
      exact ⟨u, by rw [q1], q2, (key u t q2 ht).mp q3, q4, fun v hv e kv => q5 v hv ((key v t hv ht).mpr e) kv⟩
  · have a1' := a1
    unfold fX9_court at a1'
    by_cases q : zM 0 30 = nI 0
    · obtain ⟨y1, c1, c2, c3⟩ := takeCourt_ok h3.1.1 ht h2.2.1
      have f1 : MFr 0 30 zM y1 := ⟨fun j _ _ _ h _ => c3 j h, fun j s _ _ => by rw [c3 j (by omega)], fun g _ _ => by rw [c3 0 (by omega)]⟩
      obtain ⟨y2, d1, _⟩ := findOnes_ok hW (f1.mt h2.1 (Or.inl rfl) (by omega)) (MI_of h3.1 (fun _ _ _ e => by cases e) (f1.msy h3.1.1 h2.2.1 (Or.inl rfl) (by omega)) c2)
      simp only [lit, q, if_true, c1, bp_s, d1, wf_w, bnd_s, Option.some.injEq] at a1'
      rw [← a1', wrr_e, upd_e]
    · rcases h2.2.2 with q' | ⟨q', _⟩
      · exact absurd q' q
      · simp only [lit, q, if_false, Option.some.injEq] at a1'
        rw [← a1']; exact q'
end FACE3
theorem stn (zX : fS) : fX2_standing zX = some (zX 17 3) := id rfl
theorem s_head : st_head Rel := by
  intro i zX zM a _ hr
  obtain ⟨h0, T, S, tk, lv, rm, ps, pt, h⟩ := id hr
  have hT1 := h.1.1.1.1
  unfold fX8_head fX9_head
  rcases has_ok h a with ⟨x1, x2⟩ | ⟨m, m1, rfl, x1, x2⟩
  · refine ⟨-(nI 1), zM, ?_, ?_, up_ok hr⟩
    · simp only [x1, bp_s, lit, litm, if_true]
    · simp only [x2, bp_s, lit, litm, if_true]
  · obtain ⟨zM1, on, c1, c2, c3, c4, c5, _⟩ := cls_ok h
    refine ⟨nI (on m), zM1, ?_, ?_, ?_, T, S, tk, lv, rm, ps, pt, c2.up⟩
    · simp (disch := omega) only [x1, bp_s, lit, nI_eq, if_neg, stn, h.1.2.2.1.1, c5 m m1]
    · simp (disch := omega) only [x2, bp_s, lit, nI_eq, if_neg, c1, inb_t, gd_t, rd_nI, (c4 m m1).1]
    · rw [c3.2.2 26 (by omega) (by omega)]; exact h0
theorem classes_loop {n : Nat} {on : Nat → Nat} {z : fS} (hn : n ≤ 120) (h4 : z 0 4 = nI n) (hO : MO n on z) : ∀ (d t N : Nat), t + d = n → d < N → lX9_classes_8 z N (nI (cnt (fun r => decide (on r = r)) t)) (nI t) = some (nI (cnt (fun r => decide (on r = r)) n), z) := by
  intro d
  induction d with
  | zero =>
    intro t N ht hN
    obtain ⟨N, rfl⟩ : ∃ M, N = M + 1 := ⟨N - 1, by omega⟩
    rw [lX9_classes_8.eq_2]
    simp (disch := omega) only [h4, nI_leI, if_pos]
    rw [show t = n by omega]
  | succ d ih =>
    intro t N ht hN
    obtain ⟨N, rfl⟩ : ∃ M, N = M + 1 := ⟨N - 1, by omega⟩
    have o := hO t (by omega)
    have hc := cnt_le (fun r => decide (on r = r)) t
    have := ih (t + 1) N (by omega) (by omega)
    rw [cnt_s] at this
    rw [lX9_classes_8.eq_2]
    by_cases q : on t = t
    · simp (disch := omega) only [h4, nI_leI, if_neg, inb_t, gd_t, rd_nI, o.1, nI_eq, q, if_true, bnd_s, lit, nI_add]
      simpa [q] using this
    · simp (disch := omega) only [h4, nI_leI, if_neg, inb_t, gd_t, rd_nI, o.1, nI_eq, q, if_false, bnd_s, lit, nI_add]
      simpa [q] using this
theorem taken_loop {S : List Sy} {tk : Nat → Bool} {z : fS} (hS : S.length ≤ 100) (hM : MSy S tk z) : ∀ (d t N : Nat), t + d = S.length → d < N → lX9_taken_4 z N (nI (cnt tk t)) (nI t) = some (nI (cnt tk S.length)) := by
  intro d
  induction d with
  | zero =>
    intro t N ht hN
    obtain ⟨N, rfl⟩ : ∃ M, N = M + 1 := ⟨N - 1, by omega⟩
    rw [lX9_taken_4.eq_2]
    simp (disch := omega) only [hM.1, nI_leI, if_pos]
    rw [show t = S.length by omega]
  | succ d ih =>
    intro t N ht hN
    obtain ⟨N, rfl⟩ : ∃ M, N = M + 1 := ⟨N - 1, by omega⟩
    have o := (hM.2 t (by omega)).2.2.2
    have hc := cnt_le tk t
    have := ih (t + 1) N (by omega) (by omega)
    rw [cnt_s] at this
    rw [lX9_taken_4.eq_2]
    cases q : tk t
    · rw [q, bI_f] at o
      simp (disch := omega) only [hM.1, nI_leI, if_neg, inb_t, gd_t, rd_nI, o, if_true, bnd_s, lit, nI_add]
      simpa [q] using this
    · rw [q, bI_t] at o
      simp (disch := omega) only [hM.1, nI_leI, if_neg, inb_t, gd_t, rd_nI, o, nI_eq, bnd_s, lit, nI_add]
      simpa [q] using this
theorem taken_ok {S : List Sy} {tk : Nat → Bool} {z : fS} (hS : S.length ≤ 100) (hM : MSy S tk z) : fX9_taken z = some (nI (cnt tk S.length)) := by
  unfold fX9_taken
  simp only [lit]
  exact taken_loop hS hM S.length 0 FU (by omega) (by have := FU_ge; omega)
theorem s_many : st_many Rel := by
  intro i zX zM w _ hr
  obtain ⟨h0, T, S, tk, lv, rm, ps, pt, h⟩ := id hr
  have hT1 := h.1.1.1.1
  obtain ⟨⟨l1, l2, _⟩, ⟨k, _, k1, k2, _⟩, ⟨n, _, n1, n2, _⟩, _⟩ := h.2.2.2.1
  unfold fX8_many fX9_many
  simp only [lit, litm]
  by_cases q0 : w = nI 0
  · simp only [if_pos q0]
    refine ⟨nI T.length, zM, ?_, ?_, up_ok hr⟩
    · unfold fX7_count; rw [h.1.1.2.2.1.1, bp_s]
    · rw [h.2.1.1.1]
  · simp only [if_neg q0]
    by_cases q1 : w = nI 1
    · simp only [if_pos q1]
      refine ⟨nI S.length, zM, ?_, ?_, up_ok hr⟩
      · rw [scount_ok h.1.2.1, bp_s]
      · rw [h.2.1.2.1.1]
    · simp only [if_neg q1]
      by_cases q2 : w = nI 2
      · simp only [if_pos q2]
        refine ⟨nI (cnt tk S.length), zM, ?_, ?_, up_ok hr⟩
        · unfold fX5_takenCount; rw [h.1.2.1.2.1, bp_s]
        · rw [taken_ok h.2.2.1.1.1 h.2.1.2.1, bp_s]
      · simp only [if_neg q2]
        by_cases q3 : w = nI 3
        · simp only [if_pos q3]
          exact ⟨nI k, zM, by rw [k1], by rw [k2], up_ok hr⟩
        · simp only [if_neg q3]
          by_cases q4 : w = nI 4
          · simp only [if_pos q4]
            refine ⟨nI n, zM, ?_, by rw [n2], up_ok hr⟩
            unfold fX6_count; rw [n1, bp_s]
          · simp only [if_neg q4]
            by_cases q5 : w = nI 5
            · simp only [if_pos q5]
              refine ⟨nI lv, zM, ?_, by rw [l2], up_ok hr⟩
              unfold fX5_levels; rw [l1, bp_s]
            · simp only [if_neg q5]
              by_cases q6 : w = nI 6
              · simp only [if_pos q6]
                obtain ⟨zM1, on, c1, c2, c3, c4, c5, c6, c7, _⟩ := cls_ok h
                refine ⟨nI (cnt (fun r => decide (on r = r)) T.length), zM1, ?_, ?_, ?_, T, S, tk, lv, rm, ps, pt, c2.up⟩
                · unfold fX4_classes
                  rw [stn, bp_s, h.1.2.2.1.1, bp_s, c7]
                · unfold fX9_classes
                  rw [c1, bp_s]
                  simp only [lit]
                  have := classes_loop hT1 c2.2.1.1.1 c4 T.length 0 FU (by omega) (by have := FU_ge; omega)
                  have this : lX9_classes_8 zM1 FU (nI 0) (nI 0) = some (nI (cnt (fun r => decide (on r = r)) T.length), zM1) := this
                  rw [this, bd_s]
                · rw [c3.2.2 26 (by omega) (by omega)]; exact h0
              · simp only [if_neg q6]
                exact ⟨-(nI 1), zM, rfl, rfl, up_ok hr⟩
end
section
/-! the face: why, drop, levels -/
section FACE4
variable {T : List Tm} {S : List Sy} {tk : Nat → Bool} {lv : Nat} {rm : Nat → Nat → Bool} {ps pt i : Nat} {zX zM z z' : fS} {a b : Nat}
theorem RM.keep {c f : Nat} (hS : S.length ≤ 100) (h : RM T S tk z) (e : MFr c f z z') (hc : c = 0 ∨ 8 < c) (hf : f ≠ 4 ∧ f ≠ 9) (e2 : z' 0 30 = nI 0 ∨ (z' 20 = z 20 ∧ z' 0 30 = z 0 30)) : RM T S tk z' := by
  obtain ⟨h1, h2, h3⟩ := h
  refine ⟨e.mt h1 hc hf.1, e.msy hS h2 hc hf.2, ?_⟩
  rcases e2 with e2 | ⟨e2, e3⟩
  · exact Or.inl e2
  · rw [e3]
    rcases h3 with h3 | ⟨h3, on, h4, h5⟩
    · exact Or.inl h3
    · exact Or.inr ⟨h3, on, fun t ht => by rw [e2]; exact h4 t ht, h5⟩
/-- the reference thins for why -/
theorem whyM_ok (hS : WS T.length S) (ht : ∀ s, tk s = true → s < S.length) (h : RM T S tk z) {x : Option Sy} {P : (Nat → Prop) → Prop} {v1 v2 : Int32} (hd : DoesOK T S tk x P v1 v2) {z1 : fS} (h1 : MX S (TK tk) x z1) (e : MFr 0 30 z z1) (e20 : z1 20 = z 20) (e30 : z1 0 30 = z 0 30) : ∃ K z', fX9_thin z1 v1 v2 18 = some (nI K.length, z') ∧ ThI P (TK tk) K ∧ RM T S tk (wrr z' 0 (upd (z' 0) 24 (nI K.length))) ∧ MFr 18 24 z (wrr z' 0 (upd (z' 0) 24 (nI K.length))) ∧ MCr 18 24 K (wrr z' 0 (upd (z' 0) 24 (nI K.length))) := by
  obtain ⟨K, z2, d1, d2, d3, d4, d5, d6, d7⟩ := mthin_ok (cell := 18) (Or.inr rfl) hS.1 ht hd (e.mt h.1 (Or.inl rfl) (by omega)) (e.msy hS.1 h.2.1 (Or.inl rfl) (by omega)) h1
  have f : MFr 18 24 z (wrr z2 0 (upd (z2 0) 24 (nI K.length))) := by
    refine e.up.tr ⟨fun j h0 h5 h20 h21 hc => by rw [wrr_n h0, d5 j h0 h20 h21 hc], fun j s h5 hs => by rw [wrr_n (by omega), d5 j (by omega) (by omega) (by omega) (by omega)], fun g hg hf => by rw [wrr_e, upd_n hf, d6 g hg]⟩
  refine ⟨K, z2, d1, d2, h.keep hS.1 f (Or.inr (by omega)) ⟨by omega, by omega⟩ ?_, f, ⟨by rw [wrr_e, upd_e], d3, fun j hj => by rw [wrr_n (by omega)]; exact d4 j hj⟩⟩
  rcases d7 with d7 | ⟨d7, d8⟩
  · exact Or.inl (by rw [wrr_e, upd_n (by omega)]; exact d7)
  · exact Or.inr ⟨by rw [wrr_n (by omega), d7, e20], by rw [wrr_e, upd_n (by omega), d8, e30]⟩
end FACE4
theorem s_why : st_why Rel := by
  intro i zX zM a b _ ⟨h0, T, S, tk, lv, rm, ps, pt, h⟩
  unfold fX8_why fX9_why
  rcases has_ok h a with ⟨x1, x2⟩ | ⟨m, m1, rfl, x1, x2⟩
  · refine ⟨-(nI 1), _, _, ?_, ?_, h.fin (nI 1)⟩
    · simp only [x1, bp_s, lit, if_true, refX, bd_s]
    · simp only [x2, bp_s, lit, if_true, refM, bd_s]
  · rcases has_ok h b with ⟨y1, y2⟩ | ⟨n, n1, rfl, y1, y2⟩
    · refine ⟨-(nI 1), _, _, ?_, ?_, h.fin (nI 1)⟩
      · simp (disch := omega) only [x1, y1, bp_s, lit, nI_eq, if_neg, if_true, refX, bd_s]
      · simp (disch := omega) only [x2, y2, bp_s, lit, nI_eq, if_neg, if_true, refM, bd_s]
    · obtain ⟨g1, g2, r, g3, g4⟩ := stand_ok h m1 n1
      have h' := h
      obtain ⟨h1, h2, h3, h4, h5⟩ := h'
      have hW := h1.1.1
      have ht := h3.2.1.1
      have hcon := h3.2.1.2
      have hn := h1.2.2.1.num
      obtain ⟨rM, zM1, w1, w2, w3, w4⟩ := judgeM_ok hW h3.1 ht h2 x2 y2 m1 n1
      obtain ⟨zM2, c1, c2, c3⟩ := takeCourt_ok h3.1.1 ht w2.2.1
      simp (disch := omega) only [x1, y1, x2, y2, bp_s, lit, litm, nI_eq, if_neg, g1, g2, g3, w1, bd_s, c1]
      unfold jX8_why_64
      rcases g4 with ⟨rfl, g4⟩ | ⟨rfl, g4⟩
      · rcases w4 with ⟨rfl, _⟩ | ⟨_, w4, _⟩ | ⟨_, w4, _⟩
        · obtain ⟨K, z2, d1, d2, d3, d4, d5⟩ := thin_ok (x := none) (cell := 71) hW h3.1 ht (fun _ _ _ e => by cases e) (thG_one (ps := ps) (pt := pt) hW hcon m1 n1) thS_one (Or.inr rfl) h1.xt g4
          obtain ⟨K', zM3, e1, e2, e3, e4, e5⟩ := whyM_ok h3.1 ht w2 (does_one hW h3.1 m1 n1) c2 ⟨fun j _ _ _ h _ => c3 j h, fun j s _ _ => by rw [c3 j (by omega)], fun g _ _ => by rw [c3 0 (by omega)]⟩ (c3 20 (by omega)) (by rw [c3 0 (by omega)])
          have eK := ThI.uniq d2 e2
          subst eK
          have hq := (h.mf w2 w3).core d4 (Or.inr ⟨rfl, rfl, rfl⟩) d5 e3 e4 d3 e5
          refine ⟨nI K.length, _, _, ?_, ?_, hq.fin (nI 0)⟩
          · simp (disch := omega) only [if_neg, d1, bp_s, ccount_ok d3, doneX, bd_s]
          · simp (disch := omega) only [if_neg, if_true, e1, bd_s, wf_w, bnd_s, wrr_e, upd_e, doneM]
        · exact absurd g4 w4
        · exact absurd g4 w4
      · obtain ⟨ro, hj⟩ := h1.2.2.2.2
        obtain ⟨r, z1, k1, k2, k3, k4⟩ := wouldClashX_ok hW h3.1 ht h1.2.2.1 h1.2.1 hj m1 n1
        have hx : ∀ c' a' b', some (true, m, n) = some (c', a', b') → a' < T.length ∧ b' < T.length := fun c' a' b' e => by cases e; exact ⟨m1, n1⟩
        have f1 : XFr pt 71 72 zX z1 := fun j _ _ g1 g2 _ _ => k3 j g1 g2
        rcases k4 with ⟨rfl, k4⟩ | ⟨rfl, k4, _⟩
        · rcases w4 with ⟨_, w4⟩ | ⟨rfl, _, w4⟩ | ⟨_, _, w4⟩
          · exact absurd w4 g4
          · obtain ⟨K, z2, d1, d2, d3, d4, d5⟩ := thin_ok (cell := 71) hW h3.1 ht hx (thG_clash hW h3.1 ht) (thS_clash hW m1 n1) (Or.inr rfl) (h1.xt.fr k2 f1 (by omega) (by omega)) k4
            obtain ⟨zM3, b1, b2, b3, b4⟩ := add_ok (c := true) (a := m) (b := n) c2
            rw [bI_t] at b1
            obtain ⟨K', zM4, e1, e2, e3, e4, e5⟩ := whyM_ok h3.1 ht w2 (does_clash hW h3.1 hx) b2 ⟨fun j h0 h5 _ h21 _ => by rw [b3 j (by omega) (by omega) (by omega) h21, c3 j h21], fun j s h5 hs => by rw [b4 j s hs, c3 j (by omega)], fun g _ _ => by rw [b3 0 (by omega) (by omega) (by omega) (by omega), c3 0 (by omega)]⟩ (by rw [b3 20 (by omega) (by omega) (by omega) (by omega), c3 20 (by omega)]) (by rw [b3 0 (by omega) (by omega) (by omega) (by omega), c3 0 (by omega)])
            have eK := ThI.uniq d2 e2
            subst eK
            have hq := (h.mf w2 w3).core d4 (Or.inr ⟨rfl, rfl, rfl⟩) (f1.tr d5) e3 e4 d3 e5
            refine ⟨nI K.length, _, _, ?_, ?_, hq.fin (nI 0)⟩
            · simp (disch := omega) only [if_true, k1, bd_s, nI_eq, if_neg, d1, bp_s, ccount_ok d3, doneX]
            · have e1' : fX9_thin zM3 (-(nI 1)) (-(nI 1)) 18 = some (nI K.length, zM4) := e1
              simp (disch := omega) only [if_neg, b1, bp_s, e1', bd_s, wf_w, bnd_s, wrr_e, upd_e, doneM]
          · exact absurd k4 w4
        · rcases w4 with ⟨_, w4⟩ | ⟨_, _, w4⟩ | ⟨rfl, _, w4⟩
          · exact absurd w4 g4
          · exact absurd w4 k4
          · have hq : RQ i T S tk lv rm ps pt z1 zM1 := h.sc k2 (fun j hj => k3 j (by omega) (by omega)) w2 (fun j g1 g2 => w3.1 j (by omega) (by omega) (by omega) (by omega) (by omega)) (fun f g1 _ _ => w3.2.2 f g1 g1)
            refine ⟨-(nI 1), _, _, ?_, ?_, hq.fin (nI 6)⟩
            · simp (disch := omega) only [if_true, k1, bd_s, refX]
            · simp (disch := omega) only [if_true, refM, bd_s]
theorem Cs.sub {T : List Tm} {S : List Sy} {tk tk' : Nat → Bool} (h : Cs T S tk) (hs : ∀ s, tk' s = true → tk s = true) : Cs T S tk' :=
  ⟨fun s q => h.1 s (hs s q), fun hc => h.2 (hc.mono (fun _ _ e => EX_mono hs e) (fun _ _ e => UX_mono hs e))⟩
theorem s_drop : st_drop Rel := by
  intro i zX zM a _ ⟨h0, T, S, tk, lv, rm, ps, pt, h⟩
  have h' := h
  obtain ⟨h1, h2, h3, h4, h5⟩ := h'
  have hl := h3.1.1
  have hW := h1.1.1
  have ht := h3.2.1.1
  have hn := h1.2.2.1.num
  unfold fX8_drop fX9_drop
  rcases hasS_ok h a with ⟨x1, x2⟩ | ⟨m, m1, rfl, x1, x2, x3⟩
  · refine ⟨-(nI 1), _, _, ?_, ?_, h.fin (nI 1)⟩
    · simp only [x1, bp_s, lit, if_true, refX, bd_s]
    · rcases x2 with x2 | ⟨x2, x3⟩
      · simp only [lit, if_pos x2, refM, bd_s]
      · simp only [lit, if_neg x2, if_neg x3, refM, bd_s]
  · have i1 := isTaken_ok h1.2.1 (show m < 100 by omega)
    have t4 := (h2.2.1.2 m m1).2.2.2
    cases q : tk m
    · rw [q, bI_f] at i1 t4
      refine ⟨-(nI 1), _, _, ?_, ?_, h.fin (nI 5)⟩
      · simp (disch := omega) only [x1, bp_s, lit, nI_eq, if_neg, i1, if_true, refX, bd_s]
      · simp (disch := omega) only [lit, if_neg x2, if_pos x3, inb_t, gd_t, rd_nI, t4, if_true, refM, bd_s]
    · rw [q, bI_t] at i1 t4
      have hcl := cnt_less (p := tk) (q := tkx tk m false) (j := m) q tkx_e (fun i hi => tkx_n hi) m1
      have hc1 := cnt_le tk S.length
      obtain ⟨z1, hz1⟩ : ∃ y : fS, y = wrr (wrr zX 15 (upd (zX 15) m (nI 0))) 11 (upd (zX 11) 6 (nI (cnt (tkx tk m false) S.length))) := ⟨_, rfl⟩
      have fX : ∀ j, j ≠ 15 → j ≠ 11 → z1 j = zX j := fun j g1 g2 => by rw [hz1, wrr_n g2, wrr_n g1]
      have f15 : z1 15 = upd (zX 15) m (nI 0) := by rw [hz1, wrr_n (by omega), wrr_e]
      have f11 : z1 11 = upd (zX 11) 6 (nI (cnt (tkx tk m false) S.length)) := by rw [hz1, wrr_e]
      have erm : fX5_remove zX (nI m) = some z1 := by
        unfold fX5_remove
        rw [hz1]
        simp (disch := omega) only [inb_t, gd_t, lit, wr_nI, bnd_s, wf_w, wrr_n, h1.2.1.2.1, nI_sub]
        rw [show cnt tk S.length - 1 = cnt (tkx tk m false) S.length by omega]
      have hXs : XSy S (tkx tk m false) z1 := by
        refine ⟨by rw [f11, upd_n (by omega)]; exact h1.2.1.1, by rw [f11, upd_e], fun s hs => ?_, fun s hs => ?_⟩
        · rw [fX 12 (by omega) (by omega), fX 13 (by omega) (by omega), fX 14 (by omega) (by omega)]; exact h1.2.1.2.2.1 s hs
        · rw [f15]
          by_cases e : s = m
          · subst e; rw [upd_e, tkx_e]; rfl
          · rw [upd_n e, tkx_n e]; exact h1.2.1.2.2.2 s hs
      have hCs : Cs T S (tkx tk m false) := h3.2.1.sub fun s hs => by
        by_cases e : s = m
        · subst e; rw [tkx_e] at hs; cases hs
        · rw [tkx_n e] at hs; exact hs
      have hB : RB T S (tkx tk m false) lv rm := ⟨h3.1, hCs, h3.2.2⟩
      obtain ⟨zM1, hzM⟩ : ∃ y : fS, y = wrr (wrr zM 8 (upd (zM 8) m (nI 0))) 0 (upd (zM 0) 30 (nI 0)) := ⟨_, rfl⟩
      have gM : ∀ j, j ≠ 0 → j ≠ 8 → zM1 j = zM j := fun j g1 g2 => by rw [hzM, wrr_n g1, wrr_n g2]
      have g8 : zM1 8 = upd (zM 8) m (nI 0) := by rw [hzM, wrr_n (by omega), wrr_e]
      have g0 : zM1 0 = upd (zM 0) 30 (nI 0) := by rw [hzM, wrr_e]
      have hMs : MSy S (tkx tk m false) zM1 := by
        refine ⟨by rw [g0, upd_n (by omega)]; exact h2.2.1.1, fun s hs => ?_⟩
        rw [gM 5 (by omega) (by omega), gM 6 (by omega) (by omega), gM 7 (by omega) (by omega), g8]
        obtain ⟨b1, b2, b3, b4⟩ := h2.2.1.2 s hs
        refine ⟨b1, b2, b3, ?_⟩
        by_cases e : s = m
        · subst e; rw [upd_e, tkx_e]; rfl
        · rw [upd_n e, tkx_n e]; exact b4
      have hRM : RM T S (tkx tk m false) zM1 := ⟨h2.1.fr (by rw [g0, upd_n (by omega)]) fun j g1 g2 => gM j (by omega) (by omega), hMs, Or.inl (by rw [g0, upd_e])⟩
      have eM : (if nI m < nI 0 then bd (fX9_refuse zM (nI 1)) fun r14 z14 => some (r14, z14) else if nI m < zM 0 9 then gd (inb (nI m) 101) (if rd zM 8 (nI m) = nI 0 then bd (fX9_refuse zM (nI 5)) fun r29 z29 => some (r29, z29) else gd (inb (nI m) 101) (bnd (wr zM 8 (nI m) (zb (nI 0))) fun z39 => bnd (wf z39 0 30 (nI 0)) fun z42 => bp (fX9_taken z42) fun r47 => bd (fX9_done z42 r47) fun r50 z50 => some (r50, z50))) else bd (fX9_refuse zM (nI 1)) fun r14 z14 => some (r14, z14)) = some (nI (cnt (tkx tk m false) S.length), wrr zM1 0 (upd (zM1 0) 26 (nI 0))) := by
        rw [if_neg x2, if_pos x3]
        simp (disch := omega) only [inb_t, gd_t, rd_nI, t4, nI_eq, if_neg, zb_0, wr_nI, bnd_s, wf_w, wrr_n]
        rw [← hzM, taken_ok hl hMs, bp_s, doneM, bd_s]
      have hR := h4.fr (z := z1) (z' := zM1) (Nat.le_refl _) (Nat.le_refl _) (fun j hj => fX j (by omega) (by omega)) (by rw [fX 0 (by omega) (by omega)]) (by rw [fX 0 (by omega) (by omega)]) (by rw [f11, upd_n (by omega)]) (fun j g1 g2 => gM j (by omega) (by omega)) (fun f hf => by rw [g0, upd_n (by omega)])
      have hK := h5.fr (z := z1) (z' := zM1) (fun j g1 g2 => fX j (by omega) (by omega)) (fun j hj => gM j (by omega) (by omega)) (fun f hf => by rw [g0, upd_n (by omega)])
      obtain ⟨ro0, hb0⟩ := h1.2.2.2.1
      have hb1 := hb0.fr (z' := z1) fun j hj => fX j (by omega) (by omega)
      have i2 := isSame_ok hXs hl m1
      cases q2 : sm S m
      · rw [q2, bI_f] at i2
        obtain ⟨ro, hj⟩ := h1.2.2.2.2
        have eE : EX S (TK (tkx tk m false)) none = EX S (TK tk) none := by
          funext u v
          refine propext ⟨fun e => EX_mono (fun s hs => ?_) e, ?_⟩
          · unfold TK at hs ⊢
            by_cases e : s = m
            · subst e; exact q
            · rw [tkx_n e] at hs; exact hs
          · rintro (⟨s, s1, s2, s3, s4⟩ | h)
            · refine Or.inl ⟨s, s1, ?_, s3, s4⟩
              have : s ≠ m := fun e => by subst e; rw [q2] at s3; cases s3
              unfold TK; rw [tkx_n this]; exact s2
            · cases h
        have hq : RQ i T S (tkx tk m false) lv rm ps pt z1 zM1 := ⟨⟨h1.1.fr fun j hj => fX j (by omega) (by omega), hXs, h1.2.2.1.fr (fX 17 (by omega) (by omega)), ⟨ro0, hb1⟩, ro, by rw [eE]; exact hj.fr fun j hj => fX j (by omega) (by omega)⟩, hRM, hB, hR, hK⟩
        refine ⟨nI (cnt (tkx tk m false) S.length), _, _, ?_, ?_, hq.fin (nI 0)⟩
        · unfold fX5_takenCount
          simp (disch := omega) only [x1, bp_s, lit, nI_eq, if_neg, i1, erm, i2, if_true, hXs.2.1, doneX, bd_s]
        · simp only [lit]; exact eM
      · rw [q2, bI_t] at i2
        obtain ⟨z2, ro', j1, j2, j3⟩ := judgeAnew_ok hW h3.1 hCs.1 hCs.2 (h1.2.2.1.fr (fX 17 (by omega) (by omega))) hXs hb1
        have hq : RQ i T S (tkx tk m false) lv rm ps pt z2 zM1 := ⟨⟨h1.1.fr fun j hj => by rw [j3 j (by omega) (by omega), fX j (by omega) (by omega)], hXs.fr fun j g1 g2 => j3 j (by omega) (by omega), h1.2.2.1.fr (by rw [j3 17 (by omega) (by omega), fX 17 (by omega) (by omega)]), ⟨ro0, hb1.fr2 j2.agenda fun j hj => j3 j (by omega) (by omega)⟩, ro', j2⟩, hRM, hB, hR.fr (Nat.le_refl _) (Nat.le_refl _) (fun j hj => j3 j (by omega) (by omega)) (by rw [j3 0 (by omega) (by omega)]) (by rw [j3 0 (by omega) (by omega)]) (by rw [j3 11 (by omega) (by omega)]) (fun _ _ _ => rfl) (fun _ _ => rfl), hK.fr (fun j g1 g2 => j3 j (by omega) (by omega)) (fun _ _ => rfl) (fun _ _ => rfl)⟩
        refine ⟨nI (cnt (tkx tk m false) S.length), _, _, ?_, ?_, hq.fin (nI 0)⟩
        · unfold fX5_takenCount
          have e6 : z2 11 6 = nI (cnt (tkx tk m false) S.length) := by rw [j3 11 (by omega) (by omega)]; exact hXs.2.1
          simp (disch := omega) only [x1, bp_s, lit, nI_eq, if_neg, i1, erm, i2, j1, e6, doneX, bd_s]
        · simp only [lit]; exact eM
/-! levels -/
def rmx (rm : Nat → Nat → Bool) (n : Nat) (tk : Nat → Bool) : Nat → Nat → Bool := fun l => if l = n then tk else rm l
theorem rmx_e {rm : Nat → Nat → Bool} {n : Nat} {tk : Nat → Bool} : rmx rm n tk n = tk := by simp [rmx]
theorem rmx_n {rm : Nat → Nat → Bool} {n l : Nat} {tk : Nat → Bool} (h : l ≠ n) : rmx rm n tk l = rm l := by simp [rmx, h]
theorem push_loop {S : List Sy} {tk : Nat → Bool} (hS : S.length ≤ 100) (ht : ∀ s, tk s = true → s < S.length) {lv : Nat} (hl : lv < 10) : ∀ (d t N : Nat) (z : fS), t + d = 100 → d < N → MSy S tk z → z 0 11 = nI lv → (∀ s, s < t → z 9 (100 * lv + s) = bI (tk s)) → ∃ z', lX9_push_17 N (nI t) z = some (nI (lv + 1), wrr (wrr z' 0 (upd (z' 0) 11 (nI (lv + 1)))) 0 (upd (upd (z' 0) 11 (nI (lv + 1))) 26 (nI 0))) ∧ (∀ s, s < 100 → z' 9 (100 * lv + s) = bI (tk s)) ∧ (∀ p, p < 100 * lv → z' 9 p = z 9 p) ∧ (∀ j, j ≠ 9 → z' j = z j) := by
  intro d
  induction d with
  | zero =>
    intro t N z hi hN hM h11 hd
    obtain ⟨N, rfl⟩ : ∃ M, N = M + 1 := ⟨N - 1, by omega⟩
    refine ⟨z, ?_, fun s hs => hd s (by omega), fun _ _ => rfl, fun _ _ => rfl⟩
    rw [lX9_push_17.eq_2]
    simp (disch := omega) only [lit, nI_leI, if_pos, h11, nI_add, wf_w, bnd_s, wrr_e, upd_e, doneM, bd_s]
  | succ d ih =>
    intro t N z hi hN hM h11 hd
    obtain ⟨N, rfl⟩ : ∃ M, N = M + 1 := ⟨N - 1, by omega⟩
    obtain ⟨z', e1, e2, e3, e4⟩ := ih (t + 1) N (wrr z 9 (upd (z 9) (100 * lv + t) (bI (tk t)))) (by omega) (by omega) (hM.fr (by rw [wrr_n (by omega)]) (fun j h1 h2 s hs => by rw [wrr_n (by omega)]) hS) (by rw [wrr_n (by omega)]; exact h11) (fun s hs => by
      rw [wrr_e]
      by_cases e : s = t
      · subst e; rw [upd_e]
      · rw [upd_n (by omega)]; exact hd s (by omega))
    refine ⟨z', ?_, e2, fun p hp => by rw [e3 p hp, wrr_e, upd_n (by omega)], fun j hj => (e4 j hj).trans (wrr_n hj)⟩
    rw [lX9_push_17.eq_2]
    by_cases q : t < S.length
    · have o := (hM.2 t q).2.2.2
      cases q2 : tk t
      · rw [q2, bI_f] at o e1
        simp (disch := omega) only [lit, nI_leI, if_neg, hM.1, inb_t, gd_t, rd_nI, o, if_true, h11, nI_mul, nI_add, zb_0, wr_nI, bnd_s]
        exact e1
      · rw [q2, bI_t] at o e1
        simp (disch := omega) only [lit, nI_leI, if_neg, hM.1, inb_t, gd_t, rd_nI, o, nI_eq, h11, nI_mul, nI_add, zb_1, wr_nI, bnd_s]
        exact e1
    · have q2 : tk t = false := by
        cases q2 : tk t
        · rfl
        · exact absurd (ht t q2) q
      rw [q2, bI_f] at e1
      simp (disch := omega) only [lit, nI_leI, if_neg, if_pos, hM.1, inb_t, gd_t, h11, nI_mul, nI_add, zb_0, wr_nI, bnd_s]
      exact e1
theorem cpb_g {sp dp n a b : Nat} (h1 : sp + n ≤ a) (h2 : dp + n ≤ b) (ha : a < 2 ^ 31) (hb : b < 2 ^ 31) : cpb (nI sp) (nI dp) (nI n) a b = true := by
  unfold cpb
  refine decide_eq_true ⟨nI_pos (by omega), nI_pos (by omega), nI_pos (by omega), ?_, ?_⟩ <;> rw [nI_clamp (by omega), nI_clamp (by omega)] <;> omega
theorem cpy_g {z : fS} {sp dp n k0 k1 : Nat} (h1 : sp < 2 ^ 31) (h2 : dp < 2 ^ 31) (h3 : n < 2 ^ 31) : cpy z k0 (nI sp) k1 (nI dp) (nI n) = wrr z k1 (va_cpy (z k0) (z k1) sp dp n) := by
  unfold cpy
  rw [nI_clamp h1, nI_clamp h2, nI_clamp h3]
theorem s_push : st_push Rel := by
  intro i zX zM _ ⟨h0, T, S, tk, lv, rm, ps, pt, h⟩
  have h' := h
  obtain ⟨h1, h2, h3, h4, h5⟩ := h'
  have hl := h3.1.1
  have ht := h3.2.1.1
  have hlv := h3.2.2.1
  have hn := h1.2.2.1.num
  obtain ⟨⟨l1, l2, l3⟩, r2, r3, r4, r5⟩ := id h4
  unfold fX8_push fX9_push fX5_levels
  rw [l1, bp_s, l2]
  by_cases q : lv = 10
  · subst q
    refine ⟨-(nI 1), _, _, ?_, ?_, h.fin (nI 3)⟩
    · simp (disch := omega) only [lit, nI_ltI, nI_leI, Nat.le_refl, Nat.lt_irrefl, if_true, if_false, refX, bd_s]
    · simp (disch := omega) only [lit, if_true, refM, bd_s]
  · obtain ⟨zM1, e1, e2, e3, e4⟩ := push_loop (lv := lv) hl ht (by omega) 100 0 FU zM (by omega) (by have := FU_ge; omega) h2.2.1 l2 (fun s hs => by omega)
    obtain ⟨z1, hz1⟩ : ∃ y : fS, y = wrr (wrr zX 16 (va_cpy (zX 15) (zX 16) 0 (lv * 100) 100)) 11 (upd (zX 11) 7 (nI (lv + 1))) := ⟨_, rfl⟩
    have eb : fX5_beginLevel zX = some (nI (lv + 1), z1) := by
      unfold fX5_beginLevel
      rw [hz1]
      simp (disch := omega) only [l1, lit, nI_leI, if_neg, nI_mul, cpb_g, gd_t, cpy_g, bnd_s, wrr_n, wf_w, nI_add, wrr_e, upd_e]
    have fX : ∀ j, j ≠ 16 → j ≠ 11 → z1 j = zX j := fun j g1 g2 => by rw [hz1, wrr_n g2, wrr_n g1]
    have f11 : z1 11 = upd (zX 11) 7 (nI (lv + 1)) := by rw [hz1, wrr_e]
    have f16 : z1 16 = va_cpy (zX 15) (zX 16) 0 (lv * 100) 100 := by rw [hz1, wrr_n (by omega), wrr_e]
    obtain ⟨zM2, hzM⟩ : ∃ y : fS, y = wrr zM1 0 (upd (zM 0) 11 (nI (lv + 1))) := ⟨_, rfl⟩
    have gM : ∀ j, j ≠ 9 → j ≠ 0 → zM2 j = zM j := fun j g1 g2 => by rw [hzM, wrr_n g2, e4 j g1]
    have g0 : zM2 0 = upd (zM 0) 11 (nI (lv + 1)) := by rw [hzM, wrr_e]
    have g9 : zM2 9 = zM1 9 := by rw [hzM, wrr_n (by omega)]
    have hq : RQ i T S tk (lv + 1) (rmx rm lv tk) ps pt z1 zM2 := by
      refine ⟨h1.fr (h1.ag.fr fun j g1 g2 => fX j (by omega) (by omega)) fun j hj => ⟨fun _ f hf => by rw [f11, upd_n hf], ?_⟩, h2.fr hl (fun f hf => by rw [g0, upd_n (by omega)]) (fun j g1 g2 => gM j (by omega) (by omega)) (gM 20 (by omega) (by omega)), ⟨h3.1, h3.2.1, by omega, fun l hl => ?_⟩, ⟨⟨by rw [f11, upd_e], by rw [g0, upd_e], fun l hl s hs => ?_⟩, ?_, ?_, ?_, ?_⟩, h5.fr (fun j g1 g2 => fX j (by omega) (by omega)) (fun j hj => gM j (by omega) (by omega)) (fun f hf => by rw [g0, upd_n (by omega)])⟩
      · by_cases q1 : j = 16
        · exact Or.inl q1
        · by_cases q2 : j = 11
          · exact Or.inr (Or.inl q2)
          · exact Or.inr (Or.inr (fX j q1 q2))
      · by_cases e : l = lv
        · rw [e, rmx_e]; exact h3.2.1
        · rw [rmx_n e]; exact h3.2.2.2 l (by omega)
      · rw [f16, g9]
        unfold va_cpy
        by_cases e : l = lv
        · subst e
          rw [rmx_e]
          refine ⟨?_, e2 s hs⟩
          rw [if_pos (by omega)]
          rw [show 0 + (100 * l + s - l * 100) = s by omega]
          exact h1.2.1.2.2.2 s hs
        · rw [rmx_n e, if_neg (by omega), e3 _ (by omega)]
          exact l3 l (by omega) s hs
      · obtain ⟨k, k1, k2, k3, k4⟩ := r2
        refine ⟨k, k1, by rw [fX 0 (by omega) (by omega)]; exact k2, by rw [g0, upd_n (by omega)]; exact k3, ?_⟩
        rw [fX 73 (by omega) (by omega), fX 74 (by omega) (by omega), gM 10 (by omega) (by omega), gM 11 (by omega) (by omega)]; exact k4
      · obtain ⟨k, k1, k2, k3, k4⟩ := r3
        refine ⟨k, k1, by rw [fX 63 (by omega) (by omega)]; exact k2, by rw [g0, upd_n (by omega)]; exact k3, ?_⟩
        rw [fX 64 (by omega) (by omega), fX 65 (by omega) (by omega), fX 66 (by omega) (by omega), fX 67 (by omega) (by omega), fX 68 (by omega) (by omega), gM 12 (by omega) (by omega), gM 13 (by omega) (by omega), gM 14 (by omega) (by omega), gM 15 (by omega) (by omega), gM 16 (by omega) (by omega)]; exact k4
      · rw [fX 0 (by omega) (by omega), g0, upd_n (by omega)]; exact r4
      · obtain ⟨m, k1, k2, k3⟩ := r5
        exact ⟨m, k1, by rw [fX 58 (by omega) (by omega)]; exact k2, by rw [fX 60 (by omega) (by omega)]; exact k3⟩
    refine ⟨nI (lv + 1), _, _, ?_, ?_, hq.fin (nI 0)⟩
    · simp (disch := omega) only [lit, nI_ltI, nI_leI, if_pos, eb, bd_s, doneX]
    · simp (disch := omega) only [lit, nI_eq, if_neg]
      rw [e1, hzM, e4 0 (by omega)]
      simp only [wrr_wrr, wrr_e]
end
section
/-! the face: pop, members, uses -/
theorem sub_z {v a : Int32} : (v - a = nI 0) ↔ a = v := by
  constructor
  · intro h
    have h2 : v - a + a = nI 0 + a := by rw [h]
    rw [Int32.sub_add_cancel] at h2
    rw [h2]
    exact (Int32.zero_add a).symm
  · rintro rfl
    exact Int32.sub_self a
theorem sub_s {v : Int32} {c : Nat} : v - nI c + -(nI 1) = v - nI (c + 1) := by
  rw [← nI_add c 1]
  simp only [Int32.sub_eq_add_neg, Int32.neg_add, Int32.add_assoc]
theorem sub_0 {v : Int32} : v - nI 0 = v := Int32.sub_zero v
theorem pop_loop {S : List Sy} (hS : S.length ≤ 100) {rmv : Nat → Bool} {lv : Nat} (hl : lv < 10) : ∀ (d t N : Nat) (tk : Nat → Bool) (z : fS), t + d = S.length → d < N → MSy S tk z → z 0 11 = nI lv → (∀ s, s < 100 → z 9 (100 * lv + s) = bI (rmv s)) → (∀ s, s < t → tk s = rmv s) → ∃ z', lX9_pop_26 N (nI t) z = some (nI (cnt rmv S.length), wrr (wrr z' 0 (upd (z' 0) 30 (nI 0))) 0 (upd (upd (z' 0) 30 (nI 0)) 26 (nI 0))) ∧ MSy S rmv (wrr z' 0 (upd (z' 0) 30 (nI 0))) ∧ (∀ j, j ≠ 8 → z' j = z j) := by
  intro d
  induction d with
  | zero =>
    intro t N tk z hi hN hM h11 h9 hd
    obtain ⟨N, rfl⟩ : ∃ M, N = M + 1 := ⟨N - 1, by omega⟩
    have hM' : MSy S rmv (wrr z 0 (upd (z 0) 30 (nI 0))) := by
      refine ⟨by rw [wrr_e, upd_n (by omega)]; exact hM.1, fun s hs => ?_⟩
      rw [wrr_n (by omega), wrr_n (by omega), wrr_n (by omega), wrr_n (by omega), ← hd s (by omega)]
      exact hM.2 s hs
    refine ⟨z, ?_, hM', fun _ _ => rfl⟩
    rw [lX9_pop_26.eq_2]
    simp (disch := omega) only [hM.1, nI_leI, if_pos, lit, wf_w, bnd_s, taken_ok hS hM', bp_s, doneM, bd_s, wrr_e]
  | succ d ih =>
    intro t N tk z hi hN hM h11 h9 hd
    obtain ⟨N, rfl⟩ : ∃ M, N = M + 1 := ⟨N - 1, by omega⟩
    have o := h9 t (by omega)
    obtain ⟨z', e1, e2, e3⟩ := ih (t + 1) N (tkx tk t (rmv t)) (wrr z 8 (upd (z 8) t (bI (rmv t)))) (by omega) (by omega) (by
      refine ⟨by rw [wrr_n (by omega)]; exact hM.1, fun s hs => ?_⟩
      rw [wrr_n (by omega), wrr_n (by omega), wrr_n (by omega), wrr_e]
      obtain ⟨b1, b2, b3, b4⟩ := hM.2 s hs
      refine ⟨b1, b2, b3, ?_⟩
      by_cases e : s = t
      · subst e; rw [upd_e, tkx_e]
      · rw [upd_n e, tkx_n e]; exact b4) (by rw [wrr_n (by omega)]; exact h11) (fun s hs => by rw [wrr_n (by omega)]; exact h9 s hs) (fun s hs => by
      by_cases e : s = t
      · subst e; rw [tkx_e]
      · rw [tkx_n e]; exact hd s (by omega))
    refine ⟨z', ?_, e2, fun j hj => (e3 j hj).trans (wrr_n hj)⟩
    rw [lX9_pop_26.eq_2]
    simp (disch := omega) only [hM.1, nI_leI, if_neg, lit, h11, nI_mul, nI_add, inb_t, gd_t, rd_nI, o, zb_bI, wr_nI, bnd_s]
    exact e1
theorem endLevel_loop {n : Nat} (hn : n ≤ 100) {tk : Nat → Bool} : ∀ (d t N : Nat) (z : fS), t + d = n → d < N → z 11 5 = nI n → z 11 6 = nI (cnt tk t) → (∀ s, s < 100 → z 15 s = bI (tk s)) → ∃ z', lX5_endLevel_45 N (nI t) z = some z' ∧ z' 11 = upd (z 11) 6 (nI (cnt tk n)) ∧ (∀ j, j ≠ 11 → z' j = z j) := by
  intro d
  induction d with
  | zero =>
    intro t N z hi hN h5 h6 h15
    obtain ⟨N, rfl⟩ : ∃ M, N = M + 1 := ⟨N - 1, by omega⟩
    refine ⟨z, ?_, ?_, fun _ _ => rfl⟩
    · rw [lX5_endLevel_45.eq_2]
      simp (disch := omega) only [h5, nI_leI, if_pos]
    · rw [show n = t by omega, ← h6, upd_id]
  | succ d ih =>
    intro t N z hi hN h5 h6 h15
    obtain ⟨N, rfl⟩ : ∃ M, N = M + 1 := ⟨N - 1, by omega⟩
    have o := h15 t (by omega)
    have ec : nI (cnt tk t) + bI (tk t) = nI (cnt tk (t + 1)) := by
      rw [cnt_s]
      cases tk t
      · rw [bI_f, nI_add]; rfl
      · rw [bI_t, nI_add]; rfl
    obtain ⟨z', e1, e2, e3⟩ := ih (t + 1) N (wrr z 11 (upd (z 11) 6 (nI (cnt tk (t + 1))))) (by omega) (by omega) (by rw [wrr_e, upd_n (by omega)]; exact h5) (by rw [wrr_e, upd_e]) (fun s hs => by rw [wrr_n (by omega)]; exact h15 s hs)
    refine ⟨z', ?_, ?_, fun j hj => (e3 j hj).trans (wrr_n hj)⟩
    · rw [lX5_endLevel_45.eq_2]
      simp (disch := omega) only [h5, nI_leI, if_neg, inb_t, gd_t, h6, rd_nI, o, ec, wf_w, bnd_s, lit, nI_add]
      exact e1
    · rw [e2, wrr_e]
      funext f
      by_cases q : f = 6
      · subst q; rw [upd_e, upd_e]
      · rw [upd_n q, upd_n q, upd_n q]
theorem s_pop : st_pop Rel := by
  intro i zX zM _ ⟨h0, T, S, tk, lv, rm, ps, pt, h⟩
  have h' := h
  obtain ⟨h1, h2, h3, h4, h5⟩ := h'
  have hl := h3.1.1
  have hW := h1.1.1
  have ht := h3.2.1.1
  have hlv := h3.2.2.1
  have hn := h1.2.2.1.num
  obtain ⟨⟨l1, l2, l3⟩, r2, r3, r4, r5⟩ := id h4
  unfold fX8_pop fX9_pop fX5_levels
  rw [l1, bp_s, l2]
  by_cases q : lv = 0
  · subst q
    refine ⟨-(nI 1), _, _, ?_, ?_, h.fin (nI 9)⟩
    · simp (disch := omega) only [lit, if_true, refX, bd_s]
    · simp (disch := omega) only [lit, if_true, refM, bd_s]
  · obtain ⟨l, rfl⟩ : ∃ l, lv = l + 1 := ⟨lv - 1, by omega⟩
    have hCs := h3.2.2.2 l (by omega)
    -- the class
    obtain ⟨z0, hz0⟩ : ∃ y : fS, y = wrr (wrr zX 15 (va_cpy (zX 16) (zX 15) (l * 100) 0 100)) 11 (upd (upd (zX 11) 7 (nI l)) 6 (nI 0)) := ⟨_, rfl⟩
    have a11 : z0 11 = upd (upd (zX 11) 7 (nI l)) 6 (nI 0) := by rw [hz0, wrr_e]
    have a15 : ∀ s, s < 100 → z0 15 s = bI (rm l s) := fun s hs => by
      rw [hz0, wrr_n (by omega), wrr_e]
      unfold va_cpy
      rw [if_pos (by omega)]
      have := (l3 l (by omega) s hs).1
      rw [← this]
      congr 1
      omega
    have ao : ∀ j, j ≠ 15 → j ≠ 11 → z0 j = zX j := fun j g1 g2 => by rw [hz0, wrr_n g2, wrr_n g1]
    obtain ⟨z1, b1, b2, b3⟩ := endLevel_loop (tk := rm l) hl S.length 0 FU z0 (by omega) (by have := FU_ge; omega) (by rw [a11, upd_n (by omega), upd_n (by omega)]; exact h1.2.1.1) (by rw [a11, upd_e]; rfl) a15
    have eE : fX5_endLevel zX = some z1 := by
      unfold fX5_endLevel jX5_endLevel_38
      simp (disch := omega) only [l1, lit, nI_leI, if_neg, nI_sub, Nat.add_sub_cancel, wf_w, bnd_s, wrr_e, upd_e, nI_mul, cpb_g, gd_t, cpy_g, wrr_n]
      rw [← b1, hz0]
      congr 1
      funext j
      by_cases q1 : j = 11
      · subst q1; rw [wrr_e, wrr_e]
      · rw [wrr_n q1, wrr_n q1]
        by_cases q2 : j = 15
        · subst q2; rw [wrr_e, wrr_e]
        · rw [wrr_n q2, wrr_n q2, wrr_n q1]
    have fX : ∀ j, j ≠ 15 → j ≠ 11 → z1 j = zX j := fun j g1 g2 => by rw [b3 j g2, ao j g1 g2]
    have f11 : ∀ f, f ≠ 6 → f ≠ 7 → z1 11 f = zX 11 f := fun f g1 g2 => by rw [b2, upd_n g1, a11, upd_n g1, upd_n g2]
    have hXs : XSy S (rm l) z1 := by
      refine ⟨by rw [f11 5 (by omega) (by omega)]; exact h1.2.1.1, by rw [b2, upd_e], fun s hs => ?_, fun s hs => ?_⟩
      · rw [fX 12 (by omega) (by omega), fX 13 (by omega) (by omega), fX 14 (by omega) (by omega)]; exact h1.2.1.2.2.1 s hs
      · rw [b3 15 (by omega)]; exact a15 s hs
    obtain ⟨ro0, hb0⟩ := h1.2.2.2.1
    have hb1 := hb0.fr (z' := z1) fun j hj => fX j (by omega) (by omega)
    obtain ⟨z2, ro', j1, j2, j3⟩ := judgeAnew_ok hW h3.1 hCs.1 hCs.2 (h1.2.2.1.fr (fX 17 (by omega) (by omega))) hXs hb1
    -- the reference
    obtain ⟨zM0, hzM0⟩ : ∃ y : fS, y = wrr zM 0 (upd (zM 0) 11 (nI l)) := ⟨_, rfl⟩
    have c0 : ∀ j, j ≠ 0 → zM0 j = zM j := fun j g => by rw [hzM0, wrr_n g]
    have c00 : zM0 0 = upd (zM 0) 11 (nI l) := by rw [hzM0, wrr_e]
    obtain ⟨zM1, e1, e2, e3⟩ := pop_loop (rmv := rm l) (lv := l) hl (by omega) S.length 0 FU tk zM0 (by omega) (by have := FU_ge; omega) (h2.2.1.fr (by rw [c00, upd_n (by omega)]) (fun j g1 g2 s _ => by rw [c0 j (by omega)]) hl) (by rw [c00, upd_e]) (fun s hs => by rw [c0 9 (by omega)]; exact (l3 l (by omega) s hs).2) (fun s hs => by omega)
    obtain ⟨zM2, hzM⟩ : ∃ y : fS, y = wrr zM1 0 (upd (zM1 0) 30 (nI 0)) := ⟨_, rfl⟩
    have gM : ∀ j, j ≠ 0 → j ≠ 8 → zM2 j = zM j := fun j g1 g2 => by rw [hzM, wrr_n g1, e3 j g2, c0 j g1]
    have g0 : ∀ f, f ≠ 11 → f ≠ 30 → zM2 0 f = zM 0 f := fun f g1 g2 => by rw [hzM, wrr_e, upd_n g2, e3 0 (by omega), c00, upd_n g1]
    have hRM : RM T S (rm l) zM2 := ⟨h2.1.fr (g0 4 (by omega) (by omega)) fun j g1 g2 => gM j (by omega) (by omega), by rw [hzM]; exact e2, Or.inl (by rw [hzM, wrr_e, upd_e])⟩
    have hq : RQ i T S (rm l) l rm ps pt z2 zM2 := by
      refine ⟨⟨h1.1.fr fun j hj => by rw [j3 j (by omega) (by omega), fX j (by omega) (by omega)], hXs.fr fun j g1 g2 => j3 j (by omega) (by omega), h1.2.2.1.fr (by rw [j3 17 (by omega) (by omega), fX 17 (by omega) (by omega)]), ⟨ro0, hb1.fr2 j2.agenda fun j hj => j3 j (by omega) (by omega)⟩, ro', j2⟩, hRM, ⟨h3.1, hCs, by omega, fun l' hl' => h3.2.2.2 l' (by omega)⟩, ⟨⟨?_, ?_, ?_⟩, ?_, ?_, ?_, ?_⟩, h5.fr (fun j g1 g2 => by rw [j3 j (by omega) (by omega), fX j (by omega) (by omega)]) (fun j hj => gM j (by omega) (by omega)) (fun f hf => g0 f (by omega) (by omega))⟩
      · rw [j3 11 (by omega) (by omega), b2, upd_n (by omega), a11, upd_n (by omega), upd_e]
      · rw [hzM, wrr_e, upd_n (by omega), e3 0 (by omega), c00, upd_e]
      · rw [j3 16 (by omega) (by omega), fX 16 (by omega) (by omega), gM 9 (by omega) (by omega)]
        exact fun l' hl' => l3 l' (by omega)
      · obtain ⟨k, k1, k2, k3, k4⟩ := r2
        refine ⟨k, k1, by rw [j3 0 (by omega) (by omega), fX 0 (by omega) (by omega)]; exact k2, by rw [g0 14 (by omega) (by omega)]; exact k3, ?_⟩
        rw [j3 73 (by omega) (by omega), j3 74 (by omega) (by omega), fX 73 (by omega) (by omega), fX 74 (by omega) (by omega), gM 10 (by omega) (by omega), gM 11 (by omega) (by omega)]; exact k4
      · obtain ⟨k, k1, k2, k3, k4⟩ := r3
        refine ⟨k, k1, by rw [j3 63 (by omega) (by omega), fX 63 (by omega) (by omega)]; exact k2, by rw [g0 20 (by omega) (by omega)]; exact k3, ?_⟩
        rw [j3 64 (by omega) (by omega), j3 65 (by omega) (by omega), j3 66 (by omega) (by omega), j3 67 (by omega) (by omega), j3 68 (by omega) (by omega), fX 64 (by omega) (by omega), fX 65 (by omega) (by omega), fX 66 (by omega) (by omega), fX 67 (by omega) (by omega), fX 68 (by omega) (by omega), gM 12 (by omega) (by omega), gM 13 (by omega) (by omega), gM 14 (by omega) (by omega), gM 15 (by omega) (by omega), gM 16 (by omega) (by omega)]; exact k4
      · rw [j3 0 (by omega) (by omega), fX 0 (by omega) (by omega), g0 25 (by omega) (by omega)]; exact r4
      · obtain ⟨m, k1, k2, k3⟩ := r5
        exact ⟨m, k1, by rw [j3 58 (by omega) (by omega), fX 58 (by omega) (by omega)]; exact k2, by rw [j3 60 (by omega) (by omega), fX 60 (by omega) (by omega)]; exact k3⟩
    refine ⟨nI (cnt (rm l) S.length), _, _, ?_, ?_, hq.fin (nI 0)⟩
    · unfold fX5_takenCount
      have e6 : z2 11 6 = nI (cnt (rm l) S.length) := by rw [j3 11 (by omega) (by omega)]; exact hXs.2.1
      simp (disch := omega) only [lit, nI_eq, if_neg, eE, j1, e6, bp_s, doneX, bd_s]
    · simp (disch := omega) only [lit, nI_eq, if_neg, nI_sub, Nat.add_sub_cancel, wf_w, bnd_s]
      rw [← hzM0, e1, hzM]
      simp only [wrr_wrr, wrr_e]
/-! members and uses -/
def mfn (p : Nat → Bool) (v : Int32) : Nat → Nat → Nat → Int32
  | 0, _, _ => -(nI 1)
  | d + 1, t, c => if p t = true then (if nI c = v then nI t else mfn p v d (t + 1) (c + 1)) else mfn p v d (t + 1) c
theorem mfn_neg {p : Nat → Bool} {v : Int32} (hv : v < nI 0) : ∀ (d t c : Nat), c + d < 2 ^ 31 → mfn p v d t c = -(nI 1)
  | 0, _, _, _ => rfl
  | d + 1, t, c, h => by
    unfold mfn
    rw [if_neg (show ¬ nI c = v from fun e => by rw [← e, nI_ltI (by omega) (by omega)] at hv; omega), mfn_neg hv d (t + 1) (c + 1) (by omega), mfn_neg hv d (t + 1) c (by omega)]
    split <;> rfl
section MEMB
variable {T : List Tm} {ps : Nat} {zX zM : fS} {on : Nat → Nat}
theorem memberX_loop (hn : T.length ≤ 120) {m : Nat} {v : Int32} (hm : m < T.length) (h9 : zX 1 9 = nI T.length) (h17 : pcell (zX 17 3) = ps) (ho : ∀ a b, a < T.length → b < T.length → fX4_isOne ps zX (nI a) (nI b) = some (if on a = on b then nI 1 else nI 0)) : ∀ (d t c N : Nat), t + d = T.length → d < N → lX8_member_22 zX (nI m) v N (nI c) (nI t) = some (mfn (fun u => decide (on u = on m)) v d t c) := by
  intro d
  induction d with
  | zero =>
    intro t c N ht hN
    obtain ⟨N, rfl⟩ : ∃ M, N = M + 1 := ⟨N - 1, by omega⟩
    rw [lX8_member_22.eq_2]
    unfold fX7_count mfn
    simp (disch := omega) only [h9, bp_s, nI_leI, if_pos, litm]
  | succ d ih =>
    intro t c N ht hN
    obtain ⟨N, rfl⟩ : ∃ M, N = M + 1 := ⟨N - 1, by omega⟩
    rw [lX8_member_22.eq_2]
    unfold fX7_count mfn
    rw [stn, h9]
    have o := ho t m (by omega) hm
    by_cases q : on t = on m
    · rw [if_pos q] at o
      simp (disch := omega) only [bp_s, nI_leI, if_neg, h17, o, lit, nI_eq, bnd_s, nI_add, ih (t + 1) (c + 1) N (by omega) (by omega), q, decide_true, if_true]
      split <;> rfl
    · rw [if_neg q] at o
      simp (disch := omega) only [bp_s, nI_leI, if_neg, h17, o, lit, if_true, bnd_s, nI_add, ih (t + 1) c N (by omega) (by omega), q, decide_false]
      rfl
theorem memberM_loop (hn : T.length ≤ 120) {m : Nat} {v : Int32} (hm : m < T.length) (h4 : zM 0 4 = nI T.length) (hO : MO T.length on zM) : ∀ (d t c N : Nat), t + d = T.length → d < N → lX9_member_19 zM (nI m) N (v - nI c) (nI t) = some (mfn (fun u => decide (on u = on m)) v d t c, zM) := by
  intro d
  have om := hO m hm
  induction d with
  | zero =>
    intro t c N ht hN
    obtain ⟨N, rfl⟩ : ∃ M, N = M + 1 := ⟨N - 1, by omega⟩
    rw [lX9_member_19.eq_2]
    unfold mfn
    simp (disch := omega) only [h4, nI_leI, if_pos, litm]
  | succ d ih =>
    intro t c N ht hN
    obtain ⟨N, rfl⟩ : ∃ M, N = M + 1 := ⟨N - 1, by omega⟩
    rw [lX9_member_19.eq_2]
    unfold mfn
    have ot := hO t (by omega)
    by_cases q : on t = on m
    · simp (disch := omega) only [h4, nI_leI, if_neg, inb_t, gd_t, rd_nI, ot.1, om.1, nI_eq, q, if_true, lit, litm, sub_z, bnd_s, sub_s, nI_add, ih (t + 1) (c + 1) N (by omega) (by omega), decide_true]
      split <;> rfl
    · simp (disch := omega) only [h4, nI_leI, if_neg, inb_t, gd_t, rd_nI, ot.1, om.1, nI_eq, q, if_false, lit, bnd_s, nI_add, ih (t + 1) c N (by omega) (by omega), decide_false]
      rfl
end MEMB
theorem s_member : st_member Rel := by
  intro i zX zM a v _ hr
  obtain ⟨h0, T, S, tk, lv, rm, ps, pt, h⟩ := id hr
  have hT1 := h.1.1.1.1
  unfold fX8_member fX9_member
  rcases has_ok h a with ⟨x1, x2⟩ | ⟨m, m1, rfl, x1, x2⟩
  · refine ⟨-(nI 1), zM, ?_, ?_, up_ok hr⟩
    · simp only [x1, bp_s, lit, litm, if_true]
    · simp only [x2, bp_s, lit, litm, if_true]
  · obtain ⟨zM1, on, c1, c2, c3, c4, c5, c6, _⟩ := cls_ok h
    have eM := memberM_loop (v := v) hT1 m1 c2.2.1.1.1 c4 T.length 0 0 FU (by omega) (by have := FU_ge; omega)
    rw [sub_0] at eM
    have eX := memberX_loop (v := v) hT1 m1 h.1.1.2.2.1.1 h.1.2.2.1.1 c6 T.length 0 0 FU (by omega) (by have := FU_ge; omega)
    refine ⟨mfn (fun u => decide (on u = on m)) v T.length 0 0, zM1, ?_, ?_, ?_, T, S, tk, lv, rm, ps, pt, c2.up⟩
    · simp (disch := omega) only [x1, bp_s, lit, nI_eq, if_neg]
      by_cases q : nI 0 ≤ v
      · rw [if_pos q]; exact eX
      · rw [if_neg q, mfn_neg (nle_lt.mp q) _ _ _ (by omega)]
    · simp (disch := omega) only [x2, bp_s, lit, nI_eq, if_neg, c1]
      exact eM
    · rw [c3.2.2 26 (by omega) (by omega)]; exact h0
end
section
/-! the face: uses, laws, steps -/
theorem idx {x : Int32} {n : Nat} (hn : n < 2 ^ 31) : x < nI 0 ∨ (¬ x < nI 0 ∧ nI n ≤ x) ∨ ∃ m, m < n ∧ x = nI m := by
  by_cases q1 : x < nI 0
  · exact Or.inl q1
  · by_cases q2 : nI n ≤ x
    · exact Or.inr (Or.inl ⟨q1, q2⟩)
    · have q2' := nle_lt.mp q2
      obtain ⟨k, _, k2, rfl⟩ := rng (x := x) (a := 0) (b := n) (by omega) hn q1 (by
        intro hh
        rw [Int32.lt_iff_toInt_lt] at hh q2'
        omega)
      exact Or.inr (Or.inr ⟨k, (nI_ltI (by omega) (by omega)).mp q2', rfl⟩)
section USES
variable {T : List Tm} {ps : Nat} {zX zM : fS} {on : Nat → Nat}
def UsP (T : List Tm) (on : Nat → Nat) (m u i : Nat) : Prop := ∃ j, i ≤ j ∧ j < sz T u ∧ on (pt T u j) = on m
theorem UsP.s {m u i : Nat} : UsP T on m u i ↔ ((i < sz T u ∧ on (pt T u i) = on m) ∨ UsP T on m u (i + 1)) := by
  constructor
  · rintro ⟨j, j1, j2, j3⟩
    rcases Nat.eq_or_lt_of_le j1 with rfl | j1
    · exact Or.inl ⟨j2, j3⟩
    · exact Or.inr ⟨j, j1, j2, j3⟩
  · rintro (⟨h1, h2⟩ | ⟨j, j1, j2, j3⟩)
    · exact ⟨i, Nat.le_refl _, h1, h2⟩
    · exact ⟨j, by omega, j2, j3⟩
theorem usesX_in (hT : HT T zX) (hW : WT T) {m u : Nat} (hm : m < T.length) (hu : u < T.length) (ho : ∀ a b, a < T.length → b < T.length → fX4_isOne ps zX (nI a) (nI b) = some (if on a = on b then nI 1 else nI 0)) : ∀ (d i N : Nat), i + d = sz T u → d < N → ∃ r, lX4_hasPartLike_2 ps zX (nI u) (nI m) N (nI i) = some (nI r) ∧ ((r = 1 ∧ UsP T on m u i) ∨ (r = 0 ∧ ¬ UsP T on m u i)) := by
  have hT1 := hW.1
  have w := hW.2 u hu
  have e4 := (hT.2 u hu).2.2.1
  intro d
  induction d with
  | zero =>
    intro i N hi hN
    obtain ⟨N, rfl⟩ : ∃ M, N = M + 1 := ⟨N - 1, by omega⟩
    refine ⟨0, ?_, Or.inr ⟨rfl, fun ⟨j, j1, j2, _⟩ => by omega⟩⟩
    rw [lX4_hasPartLike_2.eq_2]
    unfold fX7_sizeOf
    simp (disch := omega) only [inb_t, gd_t, rd_nI, e4, bp_s, nI_leI, if_pos, lit]
  | succ d ih =>
    intro i N hi hN
    obtain ⟨N, rfl⟩ : ∃ M, N = M + 1 := ⟨N - 1, by omega⟩
    have hi' : i < sz T u := by omega
    have ep := hT.part hu hi' (by omega)
    have pl := w.2.1 i hi'
    have o := ho (pt T u i) m (by omega) hm
    obtain ⟨r, e1, e2⟩ := ih (i + 1) N (by omega) (by omega)
    rw [lX4_hasPartLike_2.eq_2]
    unfold fX7_sizeOf fX7_partOf
    by_cases q : on (pt T u i) = on m
    · rw [if_pos q] at o
      refine ⟨1, ?_, Or.inl ⟨rfl, UsP.s.mpr (Or.inl ⟨hi', q⟩)⟩⟩
      simp (disch := omega) only [inb_t, gd_t, rd_nI, e4, bp_s, nI_leI, if_neg, lit, nI_mul, nI_add, ep, o, nI_eq]
    · rw [if_neg q] at o
      refine ⟨r, ?_, ?_⟩
      · simp (disch := omega) only [inb_t, gd_t, rd_nI, e4, bp_s, nI_leI, if_neg, lit, nI_mul, nI_add, ep, o, if_true, bnd_s]
        exact e1
      · rw [UsP.s]
        rcases e2 with ⟨e2, e3⟩ | ⟨e2, e3⟩
        · exact Or.inl ⟨e2, Or.inr e3⟩
        · refine Or.inr ⟨e2, ?_⟩
          rintro (h | h)
          · exact q h.2
          · exact e3 h
theorem usesM_in (hT : MT T zM) (hW : WT T) (hO : MO T.length on zM) {m u : Nat} (hm : m < T.length) (hu : u < T.length) : ∀ (d i N fl : Nat), i + d = sz T u → d < N → (fl = 0 ∨ fl = 1) → ∃ r, lX9_usesOne_5 zM (nI u) (nI m) N (nI fl) (nI i) = some (nI r) ∧ ((r = 1 ∧ (fl = 1 ∨ UsP T on m u i)) ∨ (r = 0 ∧ fl = 0 ∧ ¬ UsP T on m u i)) := by
  have hT1 := hW.1
  have w := hW.2 u hu
  have e3' := (hT.2 u hu).2.2.1
  have om := hO m hm
  intro d
  induction d with
  | zero =>
    intro i N fl hi hN hf
    obtain ⟨N, rfl⟩ : ∃ M, N = M + 1 := ⟨N - 1, by omega⟩
    refine ⟨fl, ?_, ?_⟩
    · rw [lX9_usesOne_5.eq_2]
      have hb : isb (nI fl) = true := by rcases hf with rfl | rfl; exact isb_0; exact isb_1
      simp (disch := omega) only [inb_t, gd_t, rd_nI, e3', nI_leI, if_pos, hb]
    · rcases hf with rfl | rfl
      · exact Or.inr ⟨rfl, rfl, fun ⟨j, j1, j2, _⟩ => by omega⟩
      · exact Or.inl ⟨rfl, Or.inl rfl⟩
  | succ d ih =>
    intro i N fl hi hN hf
    obtain ⟨N, rfl⟩ : ∃ M, N = M + 1 := ⟨N - 1, by omega⟩
    have hi' : i < sz T u := by omega
    have ep := (hT.2 u hu).2.2.2 i hi'
    have pl := w.2.1 i hi'
    have op := hO (pt T u i) (by omega)
    rw [lX9_usesOne_5.eq_2]
    rcases hf with rfl | rfl
    · by_cases q : on (pt T u i) = on m
      · obtain ⟨r, e1, e2⟩ := ih (i + 1) N 1 (by omega) (by omega) (Or.inr rfl)
        refine ⟨r, ?_, ?_⟩
        · simp (disch := omega) only [inb_t, gd_t, rd_nI, e3', nI_leI, if_neg, lit, if_true, nI_mul, nI_add, ep, op.1, om.1, q, bnd_s]
          exact e1
        · rcases e2 with ⟨e2, _⟩ | ⟨_, e2, _⟩
          · exact Or.inl ⟨e2, Or.inr (UsP.s.mpr (Or.inl ⟨hi', q⟩))⟩
          · omega
      · obtain ⟨r, e1, e2⟩ := ih (i + 1) N 0 (by omega) (by omega) (Or.inl rfl)
        refine ⟨r, ?_, ?_⟩
        · simp (disch := omega) only [inb_t, gd_t, rd_nI, e3', nI_leI, if_neg, lit, if_true, nI_mul, nI_add, ep, op.1, om.1, nI_eq, q, if_false, bnd_s]
          exact e1
        · rw [UsP.s]
          rcases e2 with ⟨e2, e3 | e3⟩ | ⟨e2, _, e3⟩
          · omega
          · exact Or.inl ⟨e2, Or.inr (Or.inr e3)⟩
          · refine Or.inr ⟨e2, rfl, ?_⟩
            rintro (h | h)
            · exact q h.2
            · exact e3 h
    · obtain ⟨r, e1, e2⟩ := ih (i + 1) N 1 (by omega) (by omega) (Or.inr rfl)
      refine ⟨r, ?_, ?_⟩
      · simp (disch := omega) only [inb_t, gd_t, rd_nI, e3', nI_leI, if_neg, lit, nI_eq, bnd_s, nI_add]
        exact e1
      · rcases e2 with ⟨e2, _⟩ | ⟨_, e2, _⟩
        · exact Or.inl ⟨e2, Or.inl rfl⟩
        · omega
noncomputable def usB (T : List Tm) (on : Nat → Nat) (m u : Nat) : Bool := @decide (UsP T on m u 0) (Classical.propDecidable _)
theorem usB_t {m u : Nat} (h : UsP T on m u 0) : usB T on m u = true := by unfold usB; exact @decide_eq_true _ (Classical.propDecidable _) h
theorem usB_f {m u : Nat} (h : ¬ UsP T on m u 0) : usB T on m u = false := by unfold usB; exact @decide_eq_false _ (Classical.propDecidable _) h
theorem usesX_loop (hn : T.length ≤ 120) {m : Nat} {v : Int32} {p : Nat → Bool} (h9 : zX 1 9 = nI T.length) (h17 : pcell (zX 17 3) = ps) (ho : ∀ u, u < T.length → fX4_hasPartLike ps zX (nI u) (nI m) = some (bI (p u))) : ∀ (d t c N : Nat), t + d = T.length → d < N → lX8_uses_22 zX (nI m) v N (nI c) (nI t) = some (mfn p v d t c) := by
  intro d
  induction d with
  | zero =>
    intro t c N ht hN
    obtain ⟨N, rfl⟩ : ∃ M, N = M + 1 := ⟨N - 1, by omega⟩
    rw [lX8_uses_22.eq_2]
    unfold fX7_count mfn
    simp (disch := omega) only [h9, bp_s, nI_leI, if_pos, litm]
  | succ d ih =>
    intro t c N ht hN
    obtain ⟨N, rfl⟩ : ∃ M, N = M + 1 := ⟨N - 1, by omega⟩
    rw [lX8_uses_22.eq_2]
    unfold fX7_count mfn
    rw [stn, h9]
    have o := ho t (by omega)
    cases q : p t
    · rw [q, bI_f] at o
      simp (disch := omega) only [bp_s, nI_leI, if_neg, h17, o, lit, if_true, bnd_s, nI_add, ih (t + 1) c N (by omega) (by omega)]
      rfl
    · rw [q, bI_t] at o
      simp (disch := omega) only [bp_s, nI_leI, if_neg, h17, o, lit, nI_eq, bnd_s, nI_add, ih (t + 1) (c + 1) N (by omega) (by omega), if_true]
      split <;> rfl
theorem usesM_loop (hn : T.length ≤ 120) {m : Nat} {v : Int32} {p : Nat → Bool} (h4 : zM 0 4 = nI T.length) (ho : ∀ u, u < T.length → fX9_usesOne zM (nI u) (nI m) = some (bI (p u))) : ∀ (d t c N : Nat), t + d = T.length → d < N → lX9_uses_19 zM (nI m) N (v - nI c) (nI t) = some (mfn p v d t c, zM) := by
  intro d
  induction d with
  | zero =>
    intro t c N ht hN
    obtain ⟨N, rfl⟩ : ∃ M, N = M + 1 := ⟨N - 1, by omega⟩
    rw [lX9_uses_19.eq_2]
    unfold mfn
    simp (disch := omega) only [h4, nI_leI, if_pos, litm]
  | succ d ih =>
    intro t c N ht hN
    obtain ⟨N, rfl⟩ : ∃ M, N = M + 1 := ⟨N - 1, by omega⟩
    rw [lX9_uses_19.eq_2]
    unfold mfn
    have o := ho t (by omega)
    cases q : p t
    · rw [q, bI_f] at o
      simp (disch := omega) only [h4, nI_leI, if_neg, o, bp_s, lit, if_true, bnd_s, nI_add, ih (t + 1) c N (by omega) (by omega)]
      rfl
    · rw [q, bI_t] at o
      simp (disch := omega) only [h4, nI_leI, if_neg, o, bp_s, lit, litm, nI_eq, sub_z, bnd_s, sub_s, nI_add, ih (t + 1) (c + 1) N (by omega) (by omega), if_true]
      split <;> rfl
end USES
theorem s_uses : st_uses Rel := by
  intro i zX zM a v _ hr
  obtain ⟨h0, T, S, tk, lv, rm, ps, pt, h⟩ := id hr
  have hW := h.1.1.1
  have hT1 := hW.1
  unfold fX8_uses fX9_uses
  rcases has_ok h a with ⟨x1, x2⟩ | ⟨m, m1, rfl, x1, x2⟩
  · refine ⟨-(nI 1), zM, ?_, ?_, up_ok hr⟩
    · simp only [x1, bp_s, lit, litm, if_true]
    · simp only [x2, bp_s, lit, litm, if_true]
  · obtain ⟨zM1, on, c1, c2, c3, c4, c5, c6, _⟩ := cls_ok h
    have hx : ∀ u, u < T.length → fX4_hasPartLike ps zX (nI u) (nI m) = some (bI (usB T on m u)) := by
      intro u hu
      obtain ⟨r, e1, e2⟩ := usesX_in h.1.1.2.2.1 hW m1 hu c6 (sz T u) 0 FU (by omega) (by have := FU_ge; have := (hW.2 u hu).1; omega)
      unfold fX4_hasPartLike
      simp only [lit]
      rw [e1]
      rcases e2 with ⟨rfl, e2⟩ | ⟨rfl, e2⟩
      · rw [usB_t e2]; rfl
      · rw [usB_f e2]; rfl
    have hm : ∀ u, u < T.length → fX9_usesOne zM1 (nI u) (nI m) = some (bI (usB T on m u)) := by
      intro u hu
      obtain ⟨r, e1, e2⟩ := usesM_in c2.2.1.1 hW c4 m1 hu (sz T u) 0 FU 0 (by omega) (by have := FU_ge; have := (hW.2 u hu).1; omega) (Or.inl rfl)
      unfold fX9_usesOne
      simp only [lit]
      rw [e1]
      rcases e2 with ⟨rfl, e2 | e2⟩ | ⟨rfl, _, e2⟩
      · omega
      · rw [usB_t e2]; rfl
      · rw [usB_f e2]; rfl
    have eM := usesM_loop (v := v) hT1 c2.2.1.1.1 hm T.length 0 0 FU (by omega) (by have := FU_ge; omega)
    rw [sub_0] at eM
    have eX := usesX_loop (v := v) hT1 h.1.1.2.2.1.1 h.1.2.2.1.1 hx T.length 0 0 FU (by omega) (by have := FU_ge; omega)
    refine ⟨mfn (usB T on m) v T.length 0 0, zM1, ?_, ?_, ?_, T, S, tk, lv, rm, ps, pt, c2.up⟩
    · simp (disch := omega) only [x1, bp_s, lit, nI_eq, if_neg]
      by_cases q : nI 0 ≤ v
      · rw [if_pos q]; exact eX
      · rw [if_neg q, mfn_neg (nle_lt.mp q) _ _ _ (by omega)]
    · simp (disch := omega) only [x2, bp_s, lit, nI_eq, if_neg, c1]
      exact eM
    · rw [c3.2.2 26 (by omega) (by omega)]; exact h0
end
section
/-! the face: laws and steps -/
section STEPS
variable {T : List Tm} {S : List Sy} {tk : Nat → Bool} {lv : Nat} {rm : Nat → Nat → Bool} {ps pt i : Nat} {zX zM : fS}
theorem RQ.laws (h : RQ i T S tk lv rm ps pt zX zM) {z z' : fS} (eX : ∀ j, j ≠ 0 → j ≠ 73 → j ≠ 74 → z j = zX j) (eX0 : ∀ f, f ≠ 10 → z 0 f = zX 0 f) (eM : ∀ j, j ≠ 0 → j ≠ 10 → j ≠ 11 → z' j = zM j) (eM0 : ∀ f, f ≠ 14 → z' 0 f = zM 0 f) (hw : RW T.length z z') : RQ i T S tk lv rm ps pt z z' := by
  obtain ⟨h1, h2, h3, ⟨⟨l1, l2, l3⟩, _, ⟨k, k1, k2, k3, k4⟩, r4, m, m1, m2, m3⟩, h5⟩ := h
  refine ⟨h1.sc (h1.ag.fr fun j _ _ => eX j (by omega) (by omega) (by omega)) (fun j g1 g2 => eX j g2 (by omega) (by omega)) (fun j g1 g2 g3 => eX j (by omega) (by omega) (by omega)), h2.fr h3.1.1 (fun f hf => eM0 f (by omega)) (fun j g1 g2 => eM j (by omega) (by omega) (by omega)) (eM 20 (by omega) (by omega) (by omega)), h3, ⟨⟨by rw [eX 11 (by omega) (by omega) (by omega)]; exact l1, by rw [eM0 11 (by omega)]; exact l2, by rw [eX 16 (by omega) (by omega) (by omega), eM 9 (by omega) (by omega) (by omega)]; exact l3⟩, hw, ⟨k, k1, by rw [eX 63 (by omega) (by omega) (by omega)]; exact k2, by rw [eM0 20 (by omega)]; exact k3, ?_⟩, by rw [eX0 11 (by omega), eM0 25 (by omega)]; exact r4, m, m1, by rw [eX 58 (by omega) (by omega) (by omega)]; exact m2, by rw [eX 60 (by omega) (by omega) (by omega)]; exact m3⟩, h5.fr (fun j g1 g2 => eX j (by omega) (by omega) (by omega)) (fun j hj => eM j (by omega) (by omega) (by omega)) (fun f hf => eM0 f (by omega))⟩
  rw [eX 64 (by omega) (by omega) (by omega), eX 65 (by omega) (by omega) (by omega), eX 66 (by omega) (by omega) (by omega), eX 67 (by omega) (by omega) (by omega), eX 68 (by omega) (by omega) (by omega), eM 12 (by omega) (by omega) (by omega), eM 13 (by omega) (by omega) (by omega), eM 14 (by omega) (by omega) (by omega), eM 15 (by omega) (by omega) (by omega), eM 16 (by omega) (by omega) (by omega)]
  exact k4
theorem RQ.steps (h : RQ i T S tk lv rm ps pt zX zM) {z z' : fS} (eX : ∀ j, ¬ (63 ≤ j ∧ j ≤ 68) → z j = zX j) (eM : ∀ j, j ≠ 0 → ¬ (12 ≤ j ∧ j ≤ 16) → z' j = zM j) (eM0 : ∀ f, f ≠ 20 → z' 0 f = zM 0 f) (hw : RP T.length z z') : RQ i T S tk lv rm ps pt z z' := by
  obtain ⟨h1, h2, h3, ⟨⟨l1, l2, l3⟩, ⟨k, k1, k2, k3, k4⟩, _, r4, m, m1, m2, m3⟩, h5⟩ := h
  refine ⟨h1.sc (h1.ag.fr fun j _ _ => eX j (by omega)) (fun j g1 g2 => eX j (by omega)) (fun j g1 g2 g3 => eX j (by omega)), h2.fr h3.1.1 (fun f hf => eM0 f (by omega)) (fun j g1 g2 => eM j (by omega) (by omega)) (eM 20 (by omega) (by omega)), h3, ⟨⟨by rw [eX 11 (by omega)]; exact l1, by rw [eM0 11 (by omega)]; exact l2, by rw [eX 16 (by omega), eM 9 (by omega) (by omega)]; exact l3⟩, ⟨k, k1, by rw [eX 0 (by omega)]; exact k2, by rw [eM0 14 (by omega)]; exact k3, ?_⟩, hw, by rw [eX 0 (by omega), eM0 25 (by omega)]; exact r4, m, m1, by rw [eX 58 (by omega)]; exact m2, by rw [eX 60 (by omega)]; exact m3⟩, h5.fr (fun j g1 g2 => eX j (by omega)) (fun j hj => eM j (by omega) (by omega)) (fun f hf => eM0 f (by omega))⟩
  rw [eX 73 (by omega), eX 74 (by omega), eM 10 (by omega) (by omega), eM 11 (by omega) (by omega)]
  exact k4
end STEPS
theorem s_law : st_law Rel := by
  intro i zX zM a b _ ⟨h0, T, S, tk, lv, rm, ps, pt, h⟩
  unfold fX8_law fX9_law
  rcases has_ok h a with ⟨x1, x2⟩ | ⟨m, m1, rfl, x1, x2⟩
  · refine ⟨-(nI 1), _, _, ?_, ?_, h.fin (nI 1)⟩
    · simp only [x1, bp_s, lit, if_true, refX, bd_s]
    · simp only [x2, bp_s, lit, if_true, refM, bd_s]
  · rcases has_ok h b with ⟨y1, y2⟩ | ⟨n, n1, rfl, y1, y2⟩
    · refine ⟨-(nI 1), _, _, ?_, ?_, h.fin (nI 1)⟩
      · simp (disch := omega) only [x1, y1, bp_s, lit, nI_eq, if_neg, if_true, refX, bd_s]
      · simp (disch := omega) only [x2, y2, bp_s, lit, nI_eq, if_neg, if_true, refM, bd_s]
    · obtain ⟨k, k1, k2, k3, k4⟩ := h.2.2.2.1.2.1
      simp (disch := omega) only [x1, y1, x2, y2, bp_s, lit, nI_eq, if_neg, k2, k3, nI_ltI]
      by_cases q : k = 10
      · subst q
        refine ⟨-(nI 1), _, _, ?_, ?_, h.fin (nI 3)⟩
        · simp (disch := omega) only [Nat.lt_irrefl, if_false, refX, bd_s]
        · simp (disch := omega) only [if_true, refM, bd_s]
      · have hq : RQ i T S tk lv rm ps pt (wrr (wrr (wrr zX 73 (upd (zX 73) k (nI m))) 74 (upd (zX 74) k (nI n))) 0 (upd (zX 0) 10 (nI (k + 1)))) (wrr (wrr (wrr zM 10 (upd (zM 10) k (nI m))) 11 (upd (zM 11) k (nI n))) 0 (upd (zM 0) 14 (nI (k + 1)))) := by
          refine h.laws (fun j g1 g2 g3 => by rw [wrr_n g1, wrr_n g3, wrr_n g2]) (fun f g => by rw [wrr_e, upd_n g]) (fun j g1 g2 g3 => by rw [wrr_n g1, wrr_n g3, wrr_n g2]) (fun f g => by rw [wrr_e, upd_n g]) ⟨k + 1, by omega, by rw [wrr_e, upd_e], by rw [wrr_e, upd_e], fun j hj => ?_⟩
          simp (disch := omega) only [wrr_n, wrr_e]
          by_cases e : j = k
          · subst e
            rw [upd_e, upd_e, upd_e, upd_e]
            exact ⟨m, n, m1, n1, rfl, rfl, rfl, rfl⟩
          · rw [upd_n e, upd_n e, upd_n e, upd_n e]
            exact k4 j (by omega)
        refine ⟨nI k, _, _, ?_, ?_, hq.fin (nI 0)⟩
        · simp (disch := omega) only [if_pos, inb_t, gd_t, wr_nI, bnd_s, wrr_n, k2, wf_w, wrr_e, upd_e, nI_add, nI_sub, doneX, bd_s]
          simp only [Nat.add_sub_cancel]
        · simp (disch := omega) only [if_neg, inb_t, gd_t, wr_nI, bnd_s, wrr_n, k3, wf_w, wrr_e, upd_e, nI_add, nI_sub, doneM, bd_s]
          simp only [Nat.add_sub_cancel]
theorem s_claim : st_claim Rel := by
  intro i zX zM w a b x y _ ⟨h0, T, S, tk, lv, rm, ps, pt, h⟩
  unfold fX8_claim fX9_claim
  rcases has_ok h a with ⟨x1, x2⟩ | ⟨m, m1, rfl, x1, x2⟩
  · refine ⟨-(nI 1), _, _, ?_, ?_, h.fin (nI 1)⟩
    · simp only [x1, bp_s, lit, if_true, refX, bd_s]
    · simp only [x2, bp_s, lit, if_true, refM, bd_s]
  · rcases has_ok h b with ⟨y1, y2⟩ | ⟨n, n1, rfl, y1, y2⟩
    · refine ⟨-(nI 1), _, _, ?_, ?_, h.fin (nI 1)⟩
      · simp (disch := omega) only [x1, y1, bp_s, lit, nI_eq, if_neg, if_true, refX, bd_s]
      · simp (disch := omega) only [x2, y2, bp_s, lit, nI_eq, if_neg, if_true, refM, bd_s]
    · obtain ⟨k, k1, k2, k3, k4⟩ := h.2.2.2.1.2.2.1
      unfold fX6_count fX6_add
      simp (disch := omega) only [x1, y1, x2, y2, bp_s, lit, nI_eq, if_neg, k2, k3, nI_ltI]
      by_cases q : k = 100
      · subst q
        refine ⟨-(nI 1), _, _, ?_, ?_, h.fin (nI 3)⟩
        · simp (disch := omega) only [Nat.lt_irrefl, if_false, refX, bd_s]
        · simp (disch := omega) only [if_true, refM, bd_s]
      · have hq : RQ i T S tk lv rm ps pt (wrr (wrr (wrr (wrr (wrr (wrr zX 64 (upd (zX 64) k w)) 65 (upd (zX 65) k (nI m))) 66 (upd (zX 66) k (nI n))) 67 (upd (zX 67) k x)) 68 (upd (zX 68) k y)) 63 (upd (zX 63) 7 (nI (k + 1)))) (wrr (wrr (wrr (wrr (wrr (wrr zM 12 (upd (zM 12) k w)) 13 (upd (zM 13) k (nI m))) 14 (upd (zM 14) k (nI n))) 15 (upd (zM 15) k x)) 16 (upd (zM 16) k y)) 0 (upd (zM 0) 20 (nI (k + 1)))) := by
          refine h.steps (fun j g => by simp (disch := omega) only [wrr_n]) (fun j g1 g2 => by simp (disch := omega) only [wrr_n]) (fun f g => by rw [wrr_e, upd_n g]) ⟨k + 1, by omega, by rw [wrr_e, upd_e], by rw [wrr_e, upd_e], fun j hj => ?_⟩
          simp (disch := omega) only [wrr_n, wrr_e]
          by_cases e : j = k
          · subst e
            simp only [upd_e]
            exact ⟨trivial, trivial, trivial, m, n, m1, n1, rfl, rfl, rfl, rfl⟩
          · simp (disch := omega) only [upd_n]
            exact k4 j (by omega)
        refine ⟨nI k, _, _, ?_, ?_, hq.fin (nI 0)⟩
        · simp (disch := omega) only [if_pos, inb_t, gd_t, wr_nI, bnd_s, wrr_n, k2, wf_w, wrr_e, upd_e, nI_add, nI_sub, doneX, bd_s]
          simp only [Nat.add_sub_cancel]
        · simp (disch := omega) only [if_neg, inb_t, gd_t, wr_nI, bnd_s, wrr_n, k3, wf_w, wrr_e, upd_e, nI_add, nI_sub, doneM, bd_s]
          simp only [Nat.add_sub_cancel]
theorem s_unclaim : st_unclaim Rel := by
  intro i zX zM _ ⟨h0, T, S, tk, lv, rm, ps, pt, h⟩
  obtain ⟨k, k1, k2, k3, k4⟩ := h.2.2.2.1.2.2.1
  unfold fX8_unclaim fX9_unclaim fX6_count fX6_forget
  have hq : RQ i T S tk lv rm ps pt (wrr zX 63 (upd (zX 63) 7 (nI 0))) (wrr zM 0 (upd (zM 0) 20 (nI 0))) :=
    h.steps (fun j g => wrr_n (by omega)) (fun j g1 g2 => wrr_n g1) (fun f g => by rw [wrr_e, upd_n g]) ⟨0, by omega, by rw [wrr_e, upd_e], by rw [wrr_e, upd_e], fun j hj => by omega⟩
  refine ⟨nI k, _, _, ?_, ?_, hq.fin (nI 0)⟩
  · simp only [k2, bp_s, lit, wf_w, bnd_s, doneX, bd_s]
  · simp only [k3, bnd_s, lit, wf_w, doneM, bd_s]
/-! the steps are checked -/
section CHK

variable {T : List Tm} {S : List Sy} {tk : Nat → Bool} {zX zM : fS}
def StA (n K : Nat) (zX zM : fS) : Prop := K ≤ 100 ∧ zX 63 7 = nI K ∧ zM 0 20 = nI K ∧ ∀ i, i < K → zX 64 i = zM 12 i ∧ zX 67 i = zM 15 i ∧ zX 68 i = zM 16 i ∧ ∃ a b, a < n ∧ b < n ∧ zX 65 i = nI a ∧ zM 13 i = nI a ∧ zX 66 i = nI b ∧ zM 14 i = nI b
theorem same_loop {n K k : Nat} (hs : StA n K zX zM) (hk : k < K) {u v : Int32} : ∀ (d j N : Nat), j + d = k → d < N → ∃ r, (r = 0 ∨ r = 1) ∧ lX6_isSameBefore_10 zX (nI k) u v N (nI j) = some (nI r) ∧ lX9_isKnown_15 zM u v (nI k) N (nI 0) (nI j) = some (nI r) := by
  obtain ⟨s1, s2, s3, s4⟩ := hs
  intro d
  induction d with
  | zero =>
    intro j N hj hN
    obtain ⟨N, rfl⟩ : ∃ M, N = M + 1 := ⟨N - 1, by omega⟩
    refine ⟨0, Or.inl rfl, ?_, ?_⟩
    · rw [lX6_isSameBefore_10.eq_2]
      simp (disch := omega) only [nI_leI, if_pos, lit]
    · rw [lX9_isKnown_15.eq_2]
      simp (disch := omega) only [nI_leI, if_pos, isb_0, gd_t]
  | succ d ih =>
    intro j N hj hN
    obtain ⟨N, rfl⟩ : ∃ M, N = M + 1 := ⟨N - 1, by omega⟩
    obtain ⟨_, _, _, a, b, _, _, a1, a2, b1, b2⟩ := s4 j (by omega)
    obtain ⟨r, r0, e1, e2⟩ := ih (j + 1) N (by omega) (by omega)
    rw [lX6_isSameBefore_10.eq_2, lX9_isKnown_15.eq_2]
    unfold fX6_says
    simp (disch := omega) only [nI_leI, if_neg, lit, nI_ltI, s2, inb_t, gd_t, rd_nI, a1, a2, b1, b2, if_true]
    by_cases q1 : nI a = u
    · simp only [if_pos q1]
      by_cases q2 : nI b = v
      · obtain ⟨M, rfl⟩ : ∃ M, N = M + 1 := ⟨N - 1, by omega⟩
        refine ⟨1, Or.inr rfl, ?_, ?_⟩
        · simp (disch := omega) only [if_pos q2, bp_s, nI_eq, if_neg]
        · simp (disch := omega) only [if_pos q2, bnd_s, nI_add]
          rw [lX9_isKnown_15.eq_2]
          simp (disch := omega) only [lit, nI_eq, if_neg, isb_1, gd_t, ite_self]
      · simp only [if_neg q2, bp_s, if_true, bnd_s, nI_add]
        exact ⟨r, r0, e1, e2⟩
    · simp only [if_neg q1, bp_s, if_true, bnd_s, nI_add]
      exact ⟨r, r0, e1, e2⟩
theorem same_ok {n K k : Nat} (hs : StA n K zX zM) (hk : k < K) {u v : Int32} : ∃ r, (r = 0 ∨ r = 1) ∧ fX6_isSameBefore zX (nI k) u v = some (nI r) ∧ fX9_isKnown zM u v (nI k) = some (nI r) := by
  have hK := hs.1
  unfold fX6_isSameBefore fX9_isKnown jX9_isKnown_10
  simp only [lit]
  by_cases q : u = v
  · simp only [if_pos q]
    refine ⟨1, Or.inr rfl, rfl, ?_⟩
    obtain ⟨M, hM⟩ : ∃ M, FU = M + 1 := ⟨FU - 1, by have := FU_ge; omega⟩
    rw [hM, lX9_isKnown_15.eq_2]
    simp (disch := omega) only [lit, nI_eq, if_neg, isb_1, gd_t, ite_self]
  · simp only [if_neg q]
    exact same_loop hs hk k 0 FU (by omega) (by have := FU_ge; omega)
theorem parts_loop {K k : Nat} (hs : StA T.length K zX zM) (hk : k < K) (hX : HT T zX) (hM : MT T zM) (hW : WT T) {a b : Nat} (ha : a < T.length) (hb : b < T.length) (hsz : sz T a = sz T b) {tu : Bool} (htu : tu = true → sz T a = 2) : ∀ (d j N : Nat), j + d = sz T a → d < N → ∃ r, (r = 0 ∨ r = 1) ∧ lX6_isByParts_93 zX (nI k) (nI a) (nI b) (nI (sz T a)) (bI tu) N (nI j) = some (nI r) ∧ lX9_isRightByParts_103 zM (nI k) (nI a) (nI b) (bI tu) N (nI 1) (nI j) = some (nI r) := by
  have hT1 := hW.1
  have wa := (hW.2 a ha).1
  have e3 := (hM.2 a ha).2.2.1
  intro d
  induction d with
  | zero =>
    intro j N hj hN
    obtain ⟨N, rfl⟩ : ∃ M, N = M + 1 := ⟨N - 1, by omega⟩
    refine ⟨1, Or.inr rfl, ?_, ?_⟩
    · rw [lX6_isByParts_93.eq_2]
      simp (disch := omega) only [nI_leI, if_pos, lit]
    · rw [lX9_isRightByParts_103.eq_2]
      simp (disch := omega) only [inb_t, gd_t, rd_nI, e3, nI_leI, if_pos, isb_1]
  | succ d ih =>
    intro j N hj hN
    obtain ⟨N, rfl⟩ : ∃ M, N = M + 1 := ⟨N - 1, by omega⟩
    obtain ⟨r, r0, e1, e2⟩ := ih (j + 1) N (by omega) (by omega)
    obtain ⟨o, ho, oX, oM⟩ : ∃ o, o < sz T b ∧ (if bI tu = nI 0 then nI j else nI 1 - nI j) = nI o ∧ o < 3 := by
      cases tu
      · exact ⟨j, by omega, by rw [bI_f, if_pos rfl], by omega⟩
      · have := htu rfl
        exact ⟨1 - j, by omega, by rw [bI_t, if_neg (nno 1 0 (by omega) (by omega) (by omega)), nI_sub (by omega)], by omega⟩
    have pa := hX.part ha (show j < sz T a by omega) (by omega)
    have pb := hX.part hb ho oM
    have qa := (hM.2 a ha).2.2.2 j (by omega)
    have qb := (hM.2 b hb).2.2.2 o ho
    obtain ⟨r1, r10, f1, f2⟩ := same_ok hs hk (u := nI (pt T a j)) (v := nI (pt T b o))
    have exX : lX6_isByParts_93 zX (nI k) (nI a) (nI b) (nI (sz T a)) (bI tu) (N + 1) (nI j) = if nI r1 = nI 0 then some (nI 0) else lX6_isByParts_93 zX (nI k) (nI a) (nI b) (nI (sz T a)) (bI tu) N (nI (j + 1)) := by
      rw [lX6_isByParts_93.eq_2]
      have hX2 : jX6_isByParts_114 (lX6_isByParts_93 zX (nI k) (nI a) (nI b) (nI (sz T a)) (bI tu) N) zX (nI k) (nI a) (nI b) (nI (sz T a)) (bI tu) (nI j) (nI o) = if nI r1 = nI 0 then some (nI 0) else lX6_isByParts_93 zX (nI k) (nI a) (nI b) (nI (sz T a)) (bI tu) N (nI (j + 1)) := by
        unfold jX6_isByParts_114 fX7_partOf
        simp (disch := omega) only [lit, nI_mul, nI_add, inb_t, gd_t, rd_nI, pa, pb, bp_s, f1, bnd_s]
      rw [← hX2, ← oX]
      cases tu
      · simp (disch := omega) only [nI_leI, if_neg, bI_f, lit, if_true]
      · simp (disch := omega) only [nI_leI, if_neg, bI_t, lit, nI_eq]
    have exM : lX9_isRightByParts_103 zM (nI k) (nI a) (nI b) (bI tu) (N + 1) (nI 1) (nI j) = lX9_isRightByParts_103 zM (nI k) (nI a) (nI b) (bI tu) N (nI r1) (nI (j + 1)) := by
      rw [lX9_isRightByParts_103.eq_2]
      cases tu
      · have : o = j := by
          rw [bI_f, if_pos rfl] at oX
          exact ((nI_eq (by omega) (by omega)).mp oX).symm
        subst this
        simp (disch := omega) only [inb_t, gd_t, rd_nI, e3, nI_leI, if_neg, bI_f, lit, nI_eq, if_true, nI_mul, nI_add, qa, qb, f2, bp_s, bnd_s]
      · rw [bI_t, if_neg (nno 1 0 (by omega) (by omega) (by omega))] at oX
        simp (disch := omega) only [inb_t, gd_t, rd_nI, e3, nI_leI, if_neg, bI_t, lit, nI_eq, nI_mul, nI_add, oX, qa, qb, f2, bp_s, bnd_s]
    rw [exX, exM]
    rcases r10 with rfl | rfl
    · refine ⟨0, Or.inl rfl, by rw [if_pos rfl], ?_⟩
      obtain ⟨M, rfl⟩ : ∃ M, N = M + 1 := ⟨N - 1, by omega⟩
      rw [lX9_isRightByParts_103.eq_2]
      simp (disch := omega) only [inb_t, gd_t, rd_nI, e3, lit, if_true, isb_0, ite_self]
    · refine ⟨r, r0, ?_, e2⟩
      rw [if_neg (nno 1 0 (by omega) (by omega) (by omega))]; exact e1
theorem rows_ok {K k m : Nat} (hs : StA T.length K zX zM) (hk : k < K) (hm : m < k) (hX : HT T zX) (hM : MT T zM) (hW : WT T) {c d w : Nat} (hw : w < 2) (c1 : zX 65 k = nI c) (d1 : zX 66 k = nI d) : ∃ r, (r = 0 ∨ r = 1) ∧ fX6_isOfRows zX (nI k) (nI m) (nI w) = some (nI r) ∧ fX9_isOfRows zM (nI m) (nI c) (nI d) (nI w) = some (nI r) := by
  have hT1 := hW.1
  obtain ⟨s1, s2, s3, s4⟩ := hs
  obtain ⟨_, _, _, a, b, ha, hb, a1, a2, b1, b2⟩ := s4 m (by omega)
  have k1 := (hX.2 a ha).1
  have k2 := (hX.2 b hb).1
  have l1 := (hM.2 a ha).1
  have l2 := (hM.2 b hb).1
  unfold fX6_isOfRows fX9_isOfRows fX7_kindOf fX7_partOf
  simp (disch := omega) only [lit, nI_ltI, nI_leI, if_neg, inb_t, gd_t, rd_nI, a1, a2, b1, b2, bnd_s, bp_s, k1, k2, l1, l2, c1, d1]
  by_cases q1 : kd T a = nI 3
  · simp only [if_pos q1]
    by_cases q2 : kd T b = nI 3
    · simp only [if_pos q2]
      have sa := (hW.2 a ha).2.2.1 q1
      have sb := (hW.2 b hb).2.2.1 q2
      have pa := hX.part ha (show w < sz T a by omega) (by omega)
      have pb := hX.part hb (show w < sz T b by omega) (by omega)
      have qa := (hM.2 a ha).2.2.2 w (by omega)
      have qb := (hM.2 b hb).2.2.2 w (by omega)
      simp (disch := omega) only [nI_mul, nI_add, inb_t, gd_t, rd_nI, pa, pb, qa, qb, bp_s]
      split
      · split
        · exact ⟨1, Or.inr rfl, rfl, rfl⟩
        · exact ⟨0, Or.inl rfl, rfl, rfl⟩
      · exact ⟨0, Or.inl rfl, rfl, rfl⟩
    · simp only [if_neg q2]
      exact ⟨0, Or.inl rfl, rfl, rfl⟩
  · simp only [if_neg q1]
    exact ⟨0, Or.inl rfl, rfl, rfl⟩
end CHK
end
section
section CHK2
variable {T : List Tm} {S : List Sy} {tk : Nat → Bool} {zX zM : fS}
theorem isRight_ok {K k : Nat} (hs : StA T.length K zX zM) (hk : k < K) (hX : HT T zX) (hM : MT T zM) (hW : WT T) (hSx : XSy S tk zX) (hSm : MSy S tk zM) (hl : S.length ≤ 100) : ∃ r, (r = 0 ∨ r = 1) ∧ fX6_isRight zX (nI k) = some (nI r) ∧ fX9_isRight zM (nI k) = some (nI r) := by
  have hT1 := hW.1
  have hs' := hs
  obtain ⟨s1, s2, s3, s4⟩ := hs'
  obtain ⟨w1, w2, w3, a, b, ha, hb, a1, a2, b1, b2⟩ := s4 k hk
  unfold fX6_isRight fX9_isRight
  simp (config := { maxSteps := 4000000 }) (disch := omega) only [lit, inb_t, gd_t, rd_nI, w1, w2, w3, a1, a2, b1, b2, bnd_s]
  have i3 := idx (x := zM 15 k) (n := k) (by omega)
  have O : ∀ x y : Option Int32, x = some (nI 0) → y = some (nI 0) → ∃ r, (r = 0 ∨ r = 1) ∧ x = some (nI r) ∧ y = some (nI r) := fun x y e1 e2 => ⟨0, Or.inl rfl, e1, e2⟩
  by_cases q0 : zM 12 k = nI 0
  · simp only [if_pos q0]
    -- by a saying
    rcases idx (x := zM 15 k) (n := S.length) (by omega) with g | ⟨g1, g2⟩ | ⟨m, m1, m2⟩
    · refine O _ _ ?_ ?_
      · unfold fX6_isSaid fX5_has
        simp only [lit, if_pos g, bp_s, if_true, isb_0, gd_t]
      · simp only [if_pos g]
    · refine O _ _ ?_ ?_
      · unfold fX6_isSaid fX5_has
        simp only [lit, if_neg g1, hSx.1, if_pos g2, bp_s, if_true, isb_0, gd_t]
      · simp only [if_neg g1, hSm.1, if_pos g2]
    · obtain ⟨t1, t2, t3, t4⟩ := hSm.2 m m1
      have i1 := isTaken_ok hSx (show m < 100 by omega)
      have i2 := isSame_ok hSx hl m1
      have i3 := left_ok hSx hl m1
      have i4 := right_ok hSx hl m1
      unfold fX6_isSaid fX5_has jX6_isSaid_67 jX9_isRight_136
      rw [m2]
      simp (disch := omega) only [lit, nI_ltI, nI_leI, if_neg, hSx.1, hSm.1, bp_s, nI_eq, i1, i2, i3, i4, inb_t, gd_t, rd_nI, t1, t2, t3, t4]
      cases h1 : tk m
      · simp only [bI_f, if_true, isb_0, gd_t, bp_s]
        exact O _ _ rfl rfl
      · cases h2 : sm S m
        · simp (disch := omega) only [bI_f, bI_t, nI_eq, if_neg, if_true, isb_0, gd_t, bp_s]
          exact O _ _ rfl rfl
        · simp (disch := omega) only [bI_t, nI_eq, if_neg]
          by_cases c1 : nI (sa S m) = nI a
          · by_cases c2 : nI (sb S m) = nI b
            · simp only [if_pos c1, if_pos c2, bp_s, isb_1, gd_t]
              exact ⟨1, Or.inr rfl, rfl, rfl⟩
            · by_cases c3 : nI (sa S m) = nI b
              · by_cases c4 : nI (sb S m) = nI a
                · simp only [if_pos c1, if_neg c2, if_pos c3, if_pos c4, bp_s, isb_1, gd_t]
                  exact ⟨1, Or.inr rfl, rfl, rfl⟩
                · simp only [if_pos c1, if_neg c2, if_pos c3, if_neg c4, bp_s, isb_0, gd_t]
                  exact O _ _ rfl rfl
              · simp only [if_pos c1, if_neg c2, if_neg c3, bp_s, isb_0, gd_t]
                exact O _ _ rfl rfl
          · by_cases c3 : nI (sa S m) = nI b
            · by_cases c4 : nI (sb S m) = nI a
              · simp only [if_neg c1, if_pos c3, if_pos c4, bp_s, isb_1, gd_t]
                exact ⟨1, Or.inr rfl, rfl, rfl⟩
              · simp only [if_neg c1, if_pos c3, if_neg c4, bp_s, isb_0, gd_t]
                exact O _ _ rfl rfl
            · simp only [if_neg c1, if_neg c3, bp_s, isb_0, gd_t]
              exact O _ _ rfl rfl
  · simp only [if_neg q0]
    by_cases q1 : zM 12 k = nI 1
    · simp only [if_pos q1]
      split
      · exact ⟨1, Or.inr rfl, rfl, rfl⟩
      · exact O _ _ rfl rfl
    · simp only [if_neg q1]
      by_cases q2 : zM 12 k = nI 2
      · simp only [if_pos q2]
        unfold fX9_isStep fX6_says
        rcases i3 with g | ⟨g1, g2⟩ | ⟨m, m1, m2⟩
        · have g' : ¬ nI k ≤ zM 15 k := by
            rw [nle_lt]
            rw [Int32.lt_iff_toInt_lt, nI_toInt (by omega)] at g ⊢
            omega
          simp only [lit, if_pos g, if_neg g', bp_s, if_true]
          exact O _ _ rfl rfl
        · simp only [lit, if_neg g1, if_pos g2, bp_s, if_true]
          exact O _ _ rfl rfl
        · obtain ⟨_, _, _, c, d, _, _, c1, c2, d1, d2⟩ := s4 m (by omega)
          rw [m2]
          simp (disch := omega) only [lit, nI_leI, nI_ltI, if_neg, s2, inb_t, gd_t, rd_nI, c1, c2, d1, d2, bp_s, nI_eq]
          split
          · split
            · refine ⟨1, Or.inr rfl, ?_, rfl⟩
              simp (disch := omega) only [bp_s, nI_eq, if_neg]
            · refine O _ _ ?_ rfl
              simp only [bp_s, if_true]
          · refine O _ _ ?_ rfl
            simp only [bp_s, if_true]
      · simp only [if_neg q2]
        by_cases q3 : zM 12 k = nI 3
        · simp only [if_pos q3]
          unfold fX9_isStep fX6_isChained
          rcases i3 with g | ⟨g1, g2⟩ | ⟨m, m1, m2⟩
          · simp only [lit, if_pos g, bp_s, if_true, isb_0, gd_t]
            exact O _ _ rfl rfl
          · simp only [lit, if_neg g1, if_pos g2, bp_s, if_true, isb_0, gd_t]
            exact O _ _ rfl rfl
          · obtain ⟨_, _, _, c, d, _, _, c1, c2, d1, d2⟩ := s4 m (by omega)
            rw [m2]
            rcases idx (x := zM 16 k) (n := k) (by omega) with g | ⟨g1, g2⟩ | ⟨n, n1, n2⟩
            · simp (disch := omega) only [lit, nI_leI, nI_ltI, if_neg, if_pos g, bp_s, nI_eq, if_true, isb_0, gd_t]
              exact O _ _ rfl rfl
            · have g3 : ¬ zM 16 k < nI k := nlt_le.mpr g2
              simp (disch := first | omega | assumption) only [lit, nI_leI, nI_ltI, if_neg, if_neg g1, if_pos g2, if_neg g3, bp_s, nI_eq, if_true, isb_0, gd_t]
              exact O _ _ rfl rfl
            · obtain ⟨_, _, _, e, f, _, _, e1, e2, f1, f2⟩ := s4 n (by omega)
              rw [n2]
              simp (disch := omega) only [lit, nI_leI, nI_ltI, if_neg, if_pos, bp_s, nI_eq, inb_t, gd_t, rd_nI, a1, b1, c1, c2, d1, d2, e1, e2, f1, f2]
              split
              · split
                · split
                  · refine ⟨1, Or.inr rfl, ?_, rfl⟩
                    simp only [bp_s, isb_1, gd_t]
                  · refine O _ _ ?_ rfl
                    simp only [bp_s, isb_0, gd_t]
                · refine O _ _ ?_ rfl
                  simp only [bp_s, isb_0, gd_t]
              · refine O _ _ ?_ rfl
                simp only [bp_s, isb_0, gd_t]
        · simp only [if_neg q3]
          by_cases q4 : zM 12 k = nI 4
          · simp only [if_pos q4]
            obtain ⟨k1, k2, k3, _⟩ := hX.2 a ha
            obtain ⟨l1, l2, l3, _⟩ := hX.2 b hb
            obtain ⟨k1', k2', k3', _⟩ := hM.2 a ha
            obtain ⟨l1', l2', l3', _⟩ := hM.2 b hb
            have wa := (hW.2 a ha).1
            have wb := (hW.2 b hb).1
            -- with the turn as it is claimed
            have main : ∀ tu : Bool, (tu = true ↔ zM 15 k = nI 1) → ∃ r, (r = 0 ∨ r = 1) ∧ fX6_isByParts zX (nI k) (nI a) (nI b) (bI tu) = some (nI r) ∧ fX9_isRightByParts zM (nI k) = some (nI r) := by
              intro tu htu
              unfold fX6_isByParts fX9_isRightByParts fX7_kindOf fX7_sizeOf fX7_shownBy jX6_isByParts_88 jX9_isRightByParts_95
              simp (disch := omega) only [lit, inb_t, gd_t, rd_nI, k1, k2, k3, l1, l2, l3, k1', k2', k3', l1', l2', l3', a2, b2, bp_s, bnd_s, nI_eq]
              by_cases c0 : sz T a = 0
              · simp only [if_pos c0]; exact O _ _ rfl rfl
              · simp only [if_neg c0]
                by_cases c1 : kd T a = kd T b
                · simp only [if_pos c1]
                  by_cases c2 : sh T a = sh T b
                  · simp only [if_pos c2]
                    by_cases c3 : sz T a = sz T b
                    · simp only [if_pos c3]
                      by_cases c4 : kd T b = nI 4
                      · have c4' : kd T a = nI 4 := c1.trans c4
                        have z2 := (hW.2 a ha).2.2.2.1 c4'
                        simp only [c1, if_pos c4]
                        obtain ⟨r, r0, e1, e2⟩ := parts_loop hs hk hX hM hW ha hb c3 (tu := tu) (fun _ => z2) (sz T a) 0 FU (by omega) (by have := FU_ge; omega)
                        cases tu
                        · have hne : ¬ zM 15 k = nI 1 := fun e => by have := htu.mpr e; cases this
                          simp only [bI_f, if_true, if_neg hne]
                          exact ⟨r, r0, e1, e2⟩
                        · have he := htu.mp rfl
                          simp (disch := omega) only [bI_t, nI_eq, if_neg, if_pos he]
                          exact ⟨r, r0, e1, e2⟩
                      · simp only [c1, if_neg c4]
                        obtain ⟨r, r0, e1, e2⟩ := parts_loop hs hk hX hM hW ha hb c3 (tu := false) (fun h => by cases h) (sz T a) 0 FU (by omega) (by have := FU_ge; omega)
                        simp only [ite_self]
                        exact ⟨r, r0, e1, e2⟩
                    · simp only [if_neg c3]; exact O _ _ rfl rfl
                  · simp only [if_neg c2, ite_self]; exact O _ _ rfl rfl
                · simp only [if_neg c1]; exact O _ _ rfl rfl
            by_cases c : zM 15 k = nI 1
            · obtain ⟨r, r0, e1, e2⟩ := main true ⟨fun _ => c, fun _ => rfl⟩
              rw [bI_t] at e1
              have hb : isb (nI r) = true := by rcases r0 with rfl | rfl; exact isb_0; exact isb_1
              simp only [if_pos c, e1, e2, bp_s, hb, gd_t]
              exact ⟨r, r0, rfl, rfl⟩
            · obtain ⟨r, r0, e1, e2⟩ := main false ⟨fun h => absurd h (by simp), fun h => absurd h c⟩
              rw [bI_f] at e1
              have hb : isb (nI r) = true := by rcases r0 with rfl | rfl; exact isb_0; exact isb_1
              simp only [if_neg c, e1, e2, bp_s, hb, gd_t]
              exact ⟨r, r0, rfl, rfl⟩
          · simp only [if_neg q4]
            -- by rows
            have rows : ∀ w, w < 2 → zM 12 k - nI 5 = nI w → ∃ r, (r = 0 ∨ r = 1) ∧ (bp (fX6_isOfRows zX (nI k) (zM 15 k) (nI w)) fun r153 => gd (isb r153) (some r153)) = some (nI r) ∧ (bp (fX9_isStep zM (zM 15 k) (nI k)) fun r288 => if r288 = nI 0 then some (nI 0) else bp (fX9_isOfRows zM (zM 15 k) (nI a) (nI b) (zM 12 k - nI 5)) fun r307 => if r307 = nI 0 then some (nI 0) else some (nI 1)) = some (nI r) := by
              intro w hw ew
              rw [ew]
              rcases i3 with g | ⟨g1, g2⟩ | ⟨m, m1, m2⟩
              · unfold fX9_isStep fX6_isOfRows
                simp only [lit, if_pos g, bp_s, if_true, isb_0, gd_t]
                exact O _ _ rfl rfl
              · unfold fX9_isStep fX6_isOfRows
                simp only [lit, if_neg g1, if_pos g2, bp_s, if_true, isb_0, gd_t]
                exact O _ _ rfl rfl
              · rw [m2]
                obtain ⟨r, r0, e1, e2⟩ := rows_ok hs hk m1 hX hM hW hw a1 b1
                have hb : isb (nI r) = true := by rcases r0 with rfl | rfl; exact isb_0; exact isb_1
                unfold fX9_isStep
                simp (disch := omega) only [lit, nI_ltI, nI_leI, if_neg, e1, e2, bp_s, nI_eq, hb, gd_t]
                refine ⟨r, r0, rfl, ?_⟩
                rcases r0 with rfl | rfl
                · simp only [if_true]
                · simp (disch := omega) only [if_neg]
            by_cases q5 : zM 12 k = nI 5
            · simp only [if_pos q5]
              exact rows 0 (by omega) (by rw [q5, nI_sub (by omega)])
            · simp only [if_neg q5]
              by_cases q6 : zM 12 k = nI 6
              · simp only [if_pos q6]
                exact rows 1 (by omega) (by rw [q6, nI_sub (by omega)])
              · simp only [if_neg q6]
                exact O _ _ rfl rfl
theorem check_loop {K : Nat} {a b : Int32} (hs : StA T.length K zX zM) (hX : HT T zX) (hM : MT T zM) (hW : WT T) (hSx : XSy S tk zX) (hSm : MSy S tk zM) (hl : S.length ≤ 100) {kX kM : Option Int32} (hk : kX = kM) : ∀ (d k N : Nat), k + d = K → d < N → lX8_check_2 kX zX a b N (nI k) = lX9_check_2 kM zM a b N (nI k) := by
  subst hk
  have h1 := hs.1
  have h2 := hs.2.1
  have h3 := hs.2.2.1
  intro d
  induction d with
  | zero =>
    intro k N hk hN
    obtain ⟨N, rfl⟩ : ∃ M, N = M + 1 := ⟨N - 1, by omega⟩
    rw [lX8_check_2.eq_2, lX9_check_2.eq_2]
    unfold fX6_count
    simp (disch := omega) only [h2, h3, bp_s, nI_leI, if_pos]
  | succ d ih =>
    intro k N hk hN
    obtain ⟨N, rfl⟩ : ∃ M, N = M + 1 := ⟨N - 1, by omega⟩
    obtain ⟨r, r0, e1, e2⟩ := isRight_ok hs (show k < K by omega) hX hM hW hSx hSm hl
    rw [lX8_check_2.eq_2, lX9_check_2.eq_2]
    unfold fX6_count
    simp (disch := omega) only [h2, h3, bp_s, nI_leI, if_neg, e1, e2, bnd_s, lit, nI_add, ih (k + 1) N (by omega) (by omega)]
end CHK2
theorem check_sim {T : List Tm} {S : List Sy} {tk : Nat → Bool} {zX zM : fS} {K : Nat} {a b : Int32} (hs : StA T.length K zX zM) (hX : HT T zX) (hM : MT T zM) (hW : WT T) (hSx : XSy S tk zX) (hSm : MSy S tk zM) (hl : S.length ≤ 100) : ∀ (d k N : Nat) {q : Option Int32}, (∃ r, q = some r) → k + d = K → d < N → ∃ r, lX8_check_2 q zX a b N (nI k) = some r := by
  have h1 := hs.1
  have h2 := hs.2.1
  intro d
  induction d with
  | zero =>
    intro k N q ⟨r, hr⟩ hk hN
    obtain ⟨N, rfl⟩ : ∃ M, N = M + 1 := ⟨N - 1, by omega⟩
    refine ⟨r, ?_⟩
    rw [lX8_check_2.eq_2]
    unfold fX6_count
    simp (disch := omega) only [h2, bp_s, nI_leI, if_pos]
    exact hr
  | succ d ih =>
    intro k N q hr hk hN
    obtain ⟨N, rfl⟩ : ∃ M, N = M + 1 := ⟨N - 1, by omega⟩
    obtain ⟨r, r0, e1, e2⟩ := isRight_ok hs (show k < K by omega) hX hM hW hSx hSm hl
    obtain ⟨r', e'⟩ := ih (k + 1) N hr (by omega) (by omega)
    rw [lX8_check_2.eq_2]
    unfold fX6_count
    simp (disch := omega) only [h2, bp_s, nI_leI, if_neg, e1, bnd_s, lit, nI_add]
    rcases r0 with rfl | rfl
    · exact ⟨nI k, by rw [if_pos rfl]⟩
    · exact ⟨r', by rw [if_neg (nno 1 0 (by omega) (by omega) (by omega))]; exact e'⟩
theorem s_check : st_check Rel := by
  intro i zX zM a b _ hr
  obtain ⟨h0, T, S, tk, lv, rm, ps, pt, h⟩ := id hr
  obtain ⟨K, hs⟩ := h.2.2.2.1.2.2.1
  have hs : StA T.length K zX zM := hs
  have h1 := hs.1
  have h2 := hs.2.1
  have h3 := hs.2.2.1
  have ek : ∃ r, jX8_check_32 zX a b = some r ∧ jX9_check_26 zM a b = some r := by
    unfold jX8_check_32 jX9_check_26 fX6_count fX6_says
    simp only [h2, h3, bp_s, lit, litm]
    by_cases q : K = 0
    · subst q
      refine ⟨nI 0, ?_, ?_⟩
      · simp (disch := omega) only [z_dec, m1_lt0, if_true, bp_s]
      · simp (disch := omega) only [nI_leI, Nat.le_refl, if_true]
    · obtain ⟨_, _, _, c, d, _, _, c1, c2, d1, d2⟩ := hs.2.2.2 (K - 1) (by omega)
      simp (disch := omega) only [nI_sub, nI_ltI, nI_leI, if_neg, inb_t, gd_t, rd_nI, c1, c2, d1, d2]
      by_cases q1 : nI c = a
      · simp only [if_pos q1]
        by_cases q2 : nI d = b
        · simp (disch := omega) only [if_pos q2, bp_s, nI_eq, if_neg]
          exact ⟨_, rfl, rfl⟩
        · simp (disch := omega) only [if_neg q2, bp_s, if_true]
          exact ⟨_, rfl, rfl⟩
      · simp (disch := omega) only [if_neg q1, bp_s, if_true]
        exact ⟨_, rfl, rfl⟩
  obtain ⟨r, k1, k2⟩ := ek
  have hl := h.2.2.1.1.1
  have e1 := check_loop (a := a) (b := b) hs h.1.1.2.2.1 h.2.1.1 h.1.1.1 h.1.2.1 h.2.1.2.1 hl (kX := jX8_check_32 zX a b) (kM := jX9_check_26 zM a b) (k1.trans k2.symm) K 0 FU (by omega) (by have := FU_ge; omega)
  obtain ⟨r', e2⟩ := check_sim (a := a) (b := b) hs h.1.1.2.2.1 h.2.1.1 h.1.1.1 h.1.2.1 h.2.1.2.1 hl K 0 FU (q := jX8_check_32 zX a b) ⟨r, k1⟩ (by omega) (by have := FU_ge; omega)
  refine ⟨r', ?_, ?_, up_ok hr⟩
  · unfold fX8_check; simp only [lit]; exact e2
  · unfold fX9_check; simp only [lit]; rw [← e1]; exact e2
end
section
/-! the face: world -/
section WORLD
variable {T : List Tm} {ps : Nat} {zX zM : fS} {on : Nat → Nat}
theorem numM_loop (hn : T.length ≤ 120) (hM : MT T zM) (hO : MO T.length on zM) {hd : Nat} (hh : hd < 120) : ∀ (d t N : Nat) (v : Int32), t + d = T.length → d < N → (lX9_numberOf_4 zM (nI hd) N v (nI t) = some v ∧ ∀ u, t ≤ u → u < T.length → on u = hd → kd T u ≠ nI 1) ∨ ∃ u, t ≤ u ∧ u < T.length ∧ on u = hd ∧ kd T u = nI 1 ∧ lX9_numberOf_4 zM (nI hd) N v (nI t) = some (nI u) := by
  intro d
  induction d with
  | zero =>
    intro t N v ht hN
    obtain ⟨N, rfl⟩ : ∃ M, N = M + 1 := ⟨N - 1, by omega⟩
    refine Or.inl ⟨?_, fun u h1 h2 => by omega⟩
    rw [lX9_numberOf_4.eq_2]
    simp (disch := omega) only [hM.1, nI_leI, if_pos]
  | succ d ih =>
    intro t N v ht hN
    obtain ⟨N, rfl⟩ : ∃ M, N = M + 1 := ⟨N - 1, by omega⟩
    have o := hO t (by omega)
    have k := (hM.2 t (by omega)).1
    rw [lX9_numberOf_4.eq_2]
    simp (disch := omega) only [hM.1, nI_leI, if_neg, inb_t, gd_t, rd_nI, o.1, k, nI_eq, bnd_s, lit, nI_add]
    have no : ¬ (on t = hd ∧ kd T t = nI 1) → ((lX9_numberOf_4 zM (nI hd) N v (nI (t + 1)) = some v ∧ ∀ u, t ≤ u → u < T.length → on u = hd → kd T u ≠ nI 1) ∨ ∃ u, t ≤ u ∧ u < T.length ∧ on u = hd ∧ kd T u = nI 1 ∧ lX9_numberOf_4 zM (nI hd) N v (nI (t + 1)) = some (nI u)) := by
      intro hne
      rcases ih (t + 1) N v (by omega) (by omega) with ⟨e1, e2⟩ | ⟨u, u1, u2, u3, u4, u5⟩
      · refine Or.inl ⟨e1, fun u h1 h2 h3 h4 => ?_⟩
        rcases Nat.eq_or_lt_of_le h1 with rfl | h1
        · exact hne ⟨h3, h4⟩
        · exact e2 u h1 h2 h3 h4
      · exact Or.inr ⟨u, by omega, u2, u3, u4, u5⟩
    by_cases q1 : on t = hd
    · simp only [if_pos q1]
      by_cases q2 : kd T t = nI 1
      · simp only [if_pos q2]
        rcases ih (t + 1) N (nI t) (by omega) (by omega) with ⟨e1, e2⟩ | ⟨u, u1, u2, u3, u4, u5⟩
        · exact Or.inr ⟨t, Nat.le_refl _, by omega, q1, q2, e1⟩
        · exact Or.inr ⟨u, by omega, u2, u3, u4, u5⟩
      · simp only [if_neg q2]
        exact no fun h => q2 h.2
    · simp only [if_neg q1]
      exact no fun h => q1 h.1
theorem numM_ok (hn : T.length ≤ 120) (hM : MT T zM) (hO : MO T.length on zM) {hd : Nat} (hh : hd < 120) : (fX9_numberOf zM (nI hd) = some (-(nI 1)) ∧ ∀ u, u < T.length → on u = hd → kd T u ≠ nI 1) ∨ ∃ u, u < T.length ∧ on u = hd ∧ kd T u = nI 1 ∧ fX9_numberOf zM (nI hd) = some (nI u) := by
  unfold fX9_numberOf
  simp only [lit, litm]
  rcases numM_loop hn hM hO hh T.length 0 FU (-(nI 1)) (by omega) (by have := FU_ge; omega) with ⟨e1, e2⟩ | ⟨u, _, u2, u3, u4, u5⟩
  · exact Or.inl ⟨e1, fun u hu => e2 u (Nat.zero_le _) hu⟩
  · exact Or.inr ⟨u, u2, u3, u4, u5⟩
def NoN (T : List Tm) (on : Nat → Nat) (h : Nat) : Prop := on h = h ∧ ∀ u, u < T.length → on u = h → kd T u ≠ nI 1
noncomputable def unB (T : List Tm) (on : Nat → Nat) (h : Nat) : Bool := @decide (NoN T on h) (Classical.propDecidable _)
theorem unB_t {h : Nat} (p : NoN T on h) : unB T on h = true := by unfold unB; exact @decide_eq_true _ (Classical.propDecidable _) p
theorem unB_f {h : Nat} (p : ¬ NoN T on h) : unB T on h = false := by unfold unB; exact @decide_eq_false _ (Classical.propDecidable _) p
theorem unX_loop (hn : T.length ≤ 120) {hd : Nat} (hh : hd ≤ T.length) (h1 : ∀ t, t < T.length → fX4_headOf ps zX (nI t) = some (nI (on t))) (hlt : ∀ t, t < T.length → on t ≤ t) (h2 : ∀ t, t < T.length → (fX4_numberOf ps zX (nI t) = some (-(nI 1)) ∧ ∀ u, u < T.length → on u = on t → kd T u ≠ nI 1) ∨ ∃ u, fX4_numberOf ps zX (nI t) = some (nI u) ∧ u < T.length ∧ on u = on t ∧ kd T u = nI 1 ∧ ∀ v, v < T.length → on v = on t → kd T v = nI 1 → v = u) : ∀ (d t N : Nat), t + d = hd → d < N → lX4_unnumberedBelow_4 ps zX (nI hd) N (nI (cnt (unB T on) t)) (nI t) = some (nI (cnt (unB T on) hd)) := by
  intro d
  induction d with
  | zero =>
    intro t N ht hN
    obtain ⟨N, rfl⟩ : ∃ M, N = M + 1 := ⟨N - 1, by omega⟩
    rw [lX4_unnumberedBelow_4.eq_2]
    simp (disch := omega) only [nI_leI, if_pos]
    rw [show t = hd by omega]
  | succ d ih =>
    intro t N ht hN
    obtain ⟨N, rfl⟩ : ∃ M, N = M + 1 := ⟨N - 1, by omega⟩
    have e1 := h1 t (by omega)
    have l1 := hlt t (by omega)
    have hih := ih (t + 1) N (by omega) (by omega)
    rw [cnt_s] at hih
    rw [lX4_unnumberedBelow_4.eq_2]
    by_cases q : on t = t
    · rcases h2 t (by omega) with ⟨n1, n2⟩ | ⟨u, n1, n2, n3, n4, n5⟩
      · have hub : unB T on t = true := unB_t ⟨q, fun u hu e => n2 u hu (e.trans q.symm)⟩
        simp (disch := omega) only [nI_leI, if_neg, e1, bp_s, q, if_true, n1, litm, bnd_s, lit, nI_add]
        rw [hub] at hih
        simpa using hih
      · have hub : unB T on t = false := unB_f fun h => h.2 u n2 (n3.trans q) n4
        simp (disch := omega) only [nI_leI, if_neg, e1, bp_s, q, if_true, n1, litm, nI_m1n, if_false, bnd_s, lit, nI_add]
        rw [hub] at hih
        simpa using hih
    · have hub : unB T on t = false := unB_f fun h => q h.1
      simp (disch := omega) only [nI_leI, if_neg, e1, bp_s, nI_eq, q, if_false, bnd_s, lit, nI_add]
      rw [hub] at hih
      simpa using hih
theorem unM_loop (hn : T.length ≤ 120) (hM : MT T zM) (hO : MO T.length on zM) {m hd : Nat} (hm : m < T.length) (hh : on m = hd) {k90 : Int32 → Option (Int64 × fS)} : ∀ (d t N : Nat), t + d = hd → d < N → lX9_world_44 k90 zM (nI m) N (nI (cnt (unB T on) t)) (nI t) = k90 (nI (cnt (unB T on) hd)) := by
  have om := hO m hm
  intro d
  induction d with
  | zero =>
    intro t N ht hN
    obtain ⟨N, rfl⟩ : ∃ M, N = M + 1 := ⟨N - 1, by omega⟩
    rw [lX9_world_44.eq_2]
    simp (disch := omega) only [inb_t, gd_t, rd_nI, om.1, nI_leI, if_pos]
    rw [show t = hd by omega]
  | succ d ih =>
    intro t N ht hN
    obtain ⟨N, rfl⟩ : ∃ M, N = M + 1 := ⟨N - 1, by omega⟩
    have ot := hO t (by omega)
    have hih := ih (t + 1) N (by omega) (by omega)
    rw [cnt_s] at hih
    rw [lX9_world_44.eq_2]
    by_cases q : on t = t
    · rcases numM_ok hn hM hO (show t < 120 by omega) with ⟨n1, n2⟩ | ⟨u, n2, n3, n4, n1⟩
      · have hub : unB T on t = true := unB_t ⟨q, n2⟩
        simp (disch := omega) only [inb_t, gd_t, rd_nI, om.1, ot.1, nI_leI, if_neg, q, if_true, n1, bp_s, lit, m1_le0, if_false, bnd_s, nI_add]
        rw [hub] at hih
        simpa using hih
      · have hub : unB T on t = false := unB_f fun h => h.2 u n2 n3 n4
        simp (disch := omega) only [inb_t, gd_t, rd_nI, om.1, ot.1, nI_leI, if_neg, q, if_true, n1, bp_s, lit, Nat.zero_le, bnd_s, nI_add]
        rw [hub] at hih
        simpa using hih
    · have hub : unB T on t = false := unB_f fun h => q h.1
      simp (disch := omega) only [inb_t, gd_t, rd_nI, om.1, ot.1, nI_leI, if_neg, nI_eq, q, if_false, bnd_s, lit, nI_add]
      rw [hub] at hih
      simpa using hih
def IsN (T : List Tm) (v : Int32) : Prop := ∃ t, t < T.length ∧ kd T t = nI 1 ∧ sh T t = v
noncomputable def nuB (T : List Tm) (v : Nat) : Bool := @decide (IsN T (nI v)) (Classical.propDecidable _)
theorem nuB_t {v : Nat} (p : IsN T (nI v)) : nuB T v = true := by unfold nuB; exact @decide_eq_true _ (Classical.propDecidable _) p
theorem nuB_f {v : Nat} (p : ¬ IsN T (nI v)) : nuB T v = false := by unfold nuB; exact @decide_eq_false _ (Classical.propDecidable _) p
theorem nuB_e {v : Nat} (h : nuB T v = true) : IsN T (nI v) := by
  apply Classical.byContradiction
  intro p
  rw [nuB_f p] at h; cases h
theorem nu_cnt {n : Nat} (hn : n < 2 ^ 31) : cnt (nuB T) n ≤ T.length := by
  have hg : ∀ w, nuB T w = true → ∃ t, t < T.length ∧ kd T t = nI 1 ∧ sh T t = nI w := fun w hw => nuB_e hw
  obtain ⟨g, hg⟩ : ∃ g : Nat → Nat, ∀ w, nuB T w = true → g w < T.length ∧ kd T (g w) = nI 1 ∧ sh T (g w) = nI w := by
    refine ⟨fun w => @dite _ (nuB T w = true) (Classical.propDecidable _) (fun h => Classical.choose (hg w h)) (fun _ => 0), fun w hw => ?_⟩
    simp only [dif_pos hw]
    exact Classical.choose_spec (hg w hw)
  refine Nat.le_trans (cnt_inj (g := g) n T.length (nuB T) (fun _ => true) (fun i hi hp => ⟨(hg i hp).1, rfl⟩) (fun i j hi hj hp hq e => ?_)) (cnt_le _ _)
  have e1 := (hg i hp).2.2
  have e2 := (hg j hq).2.2
  rw [e, e2] at e1
  exact ((nI_eq (by omega) (by omega)).mp e1).symm
theorem nuX_ok (h : HX T zX) (v : Nat) : (IsN T (nI v) ∧ ∃ t, t < T.length ∧ fX7_find zX (nI 1) (nI v) (-(nI 1)) (-(nI 1)) (-(nI 1)) = some (nI t)) ∨ (¬ IsN T (nI v) ∧ fX7_find zX (nI 1) (nI v) (-(nI 1)) (-(nI 1)) (-(nI 1)) = some (-(nI 1))) := by
  have hp : ∀ j, pe ([] : List Nat) j = -(nI 1) := fun j => pe_ge (by simp)
  have f := find_ok (tm := (nI 1, nI v, [])) h ⟨by simp, by simp, nno 1 3 (by omega) (by omega) (by omega), nno 1 4 (by omega) (by omega) (by omega), fun _ => rfl, fun _ => rfl⟩
  simp only [hp] at f
  rcases f with ⟨t, t1, t2, t3⟩ | ⟨n1, n2⟩
  · exact Or.inl ⟨⟨t, t1, congrArg (fun x : Tm => x.1) t2, congrArg (fun x : Tm => x.2.1) t2⟩, t, t1, t3⟩
  · refine Or.inr ⟨?_, n2⟩
    rintro ⟨t, t1, t2, t3⟩
    refine n1 t t1 ?_
    have s0 := (h.1.2 t t1).2.2.2.2.1 t2
    have e : pts T t = [] := List.length_eq_zero_iff.mp s0
    exact Prod.ext t2 (Prod.ext t3 e)
theorem nuM_loop (hn : T.length ≤ 120) (hM : MT T zM) {v : Int32} : ∀ (d t N fl : Nat), t + d = T.length → d < N → (fl = 0 ∨ fl = 1) → ∃ r, lX9_isNumber_4 zM v N (nI fl) (nI t) = some (nI r) ∧ ((r = 1 ∧ (fl = 1 ∨ ∃ u, t ≤ u ∧ u < T.length ∧ kd T u = nI 1 ∧ sh T u = v)) ∨ (r = 0 ∧ fl = 0 ∧ ∀ u, t ≤ u → u < T.length → kd T u = nI 1 → sh T u ≠ v)) := by
  intro d
  induction d with
  | zero =>
    intro t N fl ht hN hf
    obtain ⟨N, rfl⟩ : ∃ M, N = M + 1 := ⟨N - 1, by omega⟩
    refine ⟨fl, ?_, ?_⟩
    · rw [lX9_isNumber_4.eq_2]
      have hb : isb (nI fl) = true := by rcases hf with rfl | rfl; exact isb_0; exact isb_1
      simp (disch := omega) only [hM.1, nI_leI, if_pos, hb, gd_t]
    · rcases hf with rfl | rfl
      · exact Or.inr ⟨rfl, rfl, fun u h1 h2 => by omega⟩
      · exact Or.inl ⟨rfl, Or.inl rfl⟩
  | succ d ih =>
    intro t N fl ht hN hf
    obtain ⟨N, rfl⟩ : ∃ M, N = M + 1 := ⟨N - 1, by omega⟩
    have k := (hM.2 t (by omega)).1
    have s := (hM.2 t (by omega)).2.1
    rw [lX9_isNumber_4.eq_2]
    rcases hf with rfl | rfl
    · by_cases q : kd T t = nI 1 ∧ sh T t = v
      · obtain ⟨r, e1, e2⟩ := ih (t + 1) N 1 (by omega) (by omega) (Or.inr rfl)
        refine ⟨r, ?_, ?_⟩
        · simp (disch := omega) only [hM.1, nI_leI, if_neg, lit, if_true, inb_t, gd_t, rd_nI, k, s, q.1, q.2, bnd_s, nI_add]
          exact e1
        · rcases e2 with ⟨e2, _⟩ | ⟨_, e2, _⟩
          · exact Or.inl ⟨e2, Or.inr ⟨t, Nat.le_refl _, by omega, q.1, q.2⟩⟩
          · omega
      · obtain ⟨r, e1, e2⟩ := ih (t + 1) N 0 (by omega) (by omega) (Or.inl rfl)
        refine ⟨r, ?_, ?_⟩
        · by_cases q1 : kd T t = nI 1
          · have q2 : ¬ sh T t = v := fun e => q ⟨q1, e⟩
            simp (disch := omega) only [hM.1, nI_leI, if_neg, lit, if_true, inb_t, gd_t, rd_nI, k, s, q1, q2, if_false, bnd_s, nI_add]
            exact e1
          · simp (disch := omega) only [hM.1, nI_leI, if_neg, lit, if_true, inb_t, gd_t, rd_nI, k, q1, if_false, bnd_s, nI_add]
            exact e1
        · rcases e2 with ⟨e2, e3 | ⟨u, u1, u2⟩⟩ | ⟨e2, _, e3⟩
          · omega
          · exact Or.inl ⟨e2, Or.inr ⟨u, by omega, u2⟩⟩
          · refine Or.inr ⟨e2, rfl, fun u h1 h2 h3 h4 => ?_⟩
            rcases Nat.eq_or_lt_of_le h1 with rfl | h1
            · exact q ⟨h3, h4⟩
            · exact e3 u h1 h2 h3 h4
    · obtain ⟨r, e1, e2⟩ := ih (t + 1) N 1 (by omega) (by omega) (Or.inr rfl)
      refine ⟨r, ?_, ?_⟩
      · simp (disch := omega) only [hM.1, nI_leI, if_neg, lit, nI_eq, bnd_s, nI_add]
        exact e1
      · rcases e2 with ⟨e2, _⟩ | ⟨_, e2, _⟩
        · exact Or.inl ⟨e2, Or.inl rfl⟩
        · omega
theorem nuM_ok (hn : T.length ≤ 120) (hM : MT T zM) (v : Int32) : (IsN T v ∧ fX9_isNumber zM v = some (nI 1)) ∨ (¬ IsN T v ∧ fX9_isNumber zM v = some (nI 0)) := by
  obtain ⟨r, e1, e2⟩ := nuM_loop hn hM (v := v) T.length 0 FU 0 (by omega) (by have := FU_ge; omega) (Or.inl rfl)
  unfold fX9_isNumber
  simp only [lit]
  rcases e2 with ⟨rfl, e2 | ⟨u, _, u2, u3, u4⟩⟩ | ⟨rfl, _, e2⟩
  · omega
  · exact Or.inl ⟨⟨u, u2, u3, u4⟩, e1⟩
  · exact Or.inr ⟨fun ⟨u, u1, u2, u3⟩ => e2 u (Nat.zero_le _) u1 u2 u3, e1⟩
theorem free_loop (hn : T.length ≤ 120) (hX : HX T zX) (hM : MT T zM) {k0 : Nat} (hk0 : k0 ≤ 119) : ∀ (d v k N : Nat), v + d = 241 → d < N → v + k = k0 + cnt (nuB T) v → ∃ w, lX8_freeInt_4 zX N (nI k) (nI v) = some (nI w) ∧ lX9_world_93 zM N (nI k) (nI v) = some ((nI w).toInt64, zM) := by
  intro d
  induction d with
  | zero =>
    intro v k N hv hN hi
    have := nu_cnt (T := T) (n := v) (by omega)
    omega
  | succ d ih =>
    intro v k N hv hN hi
    obtain ⟨N, rfl⟩ : ∃ M, N = M + 1 := ⟨N - 1, by omega⟩
    rw [lX8_freeInt_4.eq_2, lX9_world_93.eq_2]
    unfold jX9_world_106
    have hc := nu_cnt (T := T) (n := v) (by omega)
    rcases nuX_ok hX v with ⟨p, t, t1, t2⟩ | ⟨p, t2⟩
    · obtain ⟨w, e1, e2⟩ := ih (v + 1) k N (by omega) (by omega) (by rw [cnt_s, nuB_t p]; simp; omega)
      rcases nuM_ok hn hM (nI v) with ⟨_, m2⟩ | ⟨m1, _⟩
      · refine ⟨w, ?_, ?_⟩
        · simp (disch := omega) only [lit, litm, nI_ltI, if_neg, t2, bp_s, nI_m1n, if_false, bnd_s, nI_add]
          exact e1
        · simp (disch := omega) only [lit, m2, bp_s, nI_eq, if_neg, nI_sub, Nat.sub_zero, bnd_s, nI_add, ite_self]
          exact e2
      · exact absurd p m1
    · rcases nuM_ok hn hM (nI v) with ⟨m1, _⟩ | ⟨_, m2⟩
      · exact absurd m1 p
      · by_cases q : k = 0
        · subst q
          refine ⟨v, ?_, ?_⟩
          · simp (disch := omega) only [lit, litm, nI_ltI, if_neg, t2, bp_s, if_true]
          · simp (disch := omega) only [lit, nI_ltI, Nat.lt_irrefl, if_false, m2, bp_s, if_true]
        · obtain ⟨w, e1, e2⟩ := ih (v + 1) (k - 1) N (by omega) (by omega) (by rw [cnt_s, nuB_f p]; simp; omega)
          refine ⟨w, ?_, ?_⟩
          · simp (disch := omega) only [lit, litm, nI_ltI, if_neg, t2, bp_s, if_true, nI_eq, nI_dec, bnd_s, nI_add]
            exact e1
          · simp (disch := omega) only [lit, nI_ltI, if_pos, m2, bp_s, if_true, nI_sub, bnd_s, nI_add]
            exact e2
end WORLD
theorem s_world : st_world Rel := by
  intro i zX zM a _ hr
  obtain ⟨h0, T, S, tk, lv, rm, ps, pt, h⟩ := id hr
  have hT1 := h.1.1.1.1
  unfold fX8_world fX9_world
  rcases has_ok h a with ⟨x1, x2⟩ | ⟨m, m1, rfl, x1, x2⟩
  · refine ⟨(1099511627776 : Int64), zM, ?_, ?_, up_ok hr⟩
    · rw [x1, bp_s]; rfl
    · rw [x2, bp_s]; rfl
  · obtain ⟨zM1, on, c1, c2, c3, c4, c5, c6, c7, c8, c9⟩ := cls_ok h
    have fin : Rel (i + 1) zX zM1 := ⟨by rw [c3.2.2 26 (by omega) (by omega)]; exact h0, T, S, tk, lv, rm, ps, pt, c2.up⟩
    have hM := c2.2.1.1
    have om := c4 m m1
    have hne : ¬ (nI 1 = (0 : Int32)) := nno 1 0 (by omega) (by omega) (by omega)
    rw [x1, x2, bp_s, bp_s, if_neg hne, if_neg hne, stn, bp_s, c1, bp_s, h.1.2.2.1.1]
    simp (disch := omega) only [inb_t, gd_t, rd_nI, om.1]
    rcases c8 m m1 with ⟨n1, n2⟩ | ⟨u, n1, n2, n3, n4, n5⟩
    · rcases numM_ok hT1 hM c4 (show on m < 120 by omega) with ⟨k1, _⟩ | ⟨u, k1, k2, k3, _⟩
      · have u1 := unX_loop hT1 (show on m ≤ T.length by omega) c5 (fun t ht => (c4 t ht).2.1) c8 (on m) 0 FU (by omega) (by have := FU_ge; omega)
        have u2 := unM_loop hT1 hM c4 m1 rfl (k90 := jX9_world_90 zM1) (on m) 0 FU (by omega) (by have := FU_ge; omega)
        have hcl := cnt_le (unB T on) (on m)
        obtain ⟨w, w1, w2⟩ := free_loop hT1 h.1.1 hM (k0 := cnt (unB T on) (on m)) (by omega) 241 0 (cnt (unB T on) (on m)) FU (by omega) (by have := FU_ge; omega) (by show 0 + _ = _ + 0; omega)
        refine ⟨(nI w).toInt64, zM1, ?_, ?_, fin⟩
        · rw [n1, bp_s]
          unfold fX4_unnumberedBelow fX8_freeInt
          simp only [litm, if_true, c5 m m1, bp_s, lit]
          have u1 : lX4_unnumberedBelow_4 ps zX (nI (on m)) FU (nI 0) (nI 0) = some (nI (cnt (unB T on) (on m))) := u1
          rw [u1, bp_s, w1, bp_s]
        · rw [k1, bp_s]
          have hlt : (-(nI 1) : Int32) < 0 := m1_lt0.mpr trivial
          rw [if_pos hlt]
          simp only [lit]
          have u2 : lX9_world_44 (jX9_world_90 zM1) zM1 (nI m) FU (nI 0) (nI 0) = jX9_world_90 zM1 (nI (cnt (unB T on) (on m))) := u2
          rw [u2]
          unfold jX9_world_90
          simp only [lit]
          exact w2
      · exact absurd k3 (n2 u k1 k2)
    · rcases numM_ok hT1 hM c4 (show on m < 120 by omega) with ⟨_, k2⟩ | ⟨u', k1, k2, k3, k4⟩
      · exact absurd n4 (k2 u n2 n3)
      · have e : u' = u := n5 u' k1 k2 k3
        subst e
        have s1 := (h.1.1.2.2.1.2 u' n2).2.1
        have s2 := (hM.2 u' n2).2.1
        refine ⟨(sh T u').toInt64, zM1, ?_, ?_, fin⟩
        · rw [n1, bp_s]
          unfold fX7_shownBy
          simp (disch := omega) only [litm, nI_m1n, if_false, inb_t, gd_t, rd_nI, s1, bp_s]
        · rw [k4, bp_s]
          have hlt : ¬ (nI u' < (0 : Int32)) := nI_pos (by omega)
          rw [if_neg hlt]
          simp (disch := omega) only [inb_t, gd_t, rd_nI, s2]
end
section
/-! least: sets of sayings, in their order -/
def pl (tk : Nat → Bool) : Nat → List Nat
  | 0 => []
  | n + 1 => if tk n = true then pl tk n ++ [n] else pl tk n
theorem pl_t {tk : Nat → Bool} {n : Nat} (h : tk n = true) : pl tk (n + 1) = pl tk n ++ [n] := if_pos h
theorem pl_f {tk : Nat → Bool} {n : Nat} (h : tk n = false) : pl tk (n + 1) = pl tk n := if_neg (by rw [h]; simp)
theorem pl_len {tk : Nat → Bool} : ∀ n, (pl tk n).length = cnt tk n
  | 0 => rfl
  | n + 1 => by
    rw [cnt_s]
    cases h : tk n
    · rw [pl_f h, pl_len n]; simp
    · rw [pl_t h, List.length_append, pl_len n]; simp
theorem pl_mem {tk : Nat → Bool} {s : Nat} : ∀ {n}, s ∈ pl tk n → s < n ∧ tk s = true
  | 0, h => by cases h
  | n + 1, h => by
    cases q : tk n
    · rw [pl_f q] at h
      have := pl_mem h
      exact ⟨by omega, this.2⟩
    · rw [pl_t q] at h
      rcases List.mem_append.mp h with h | h
      · have := pl_mem h
        exact ⟨by omega, this.2⟩
      · have e : s = n := by simpa using h
        subst e
        exact ⟨by omega, q⟩
theorem pl_get {tk : Nat → Bool} {n k : Nat} (h : k < cnt tk n) : (pl tk n).getD k 0 < n ∧ tk ((pl tk n).getD k 0) = true := pl_mem (gD_mem (by rw [pl_len]; exact h))
/-- a choice of m among n, in rising order -/
def Cb (n m : Nat) (c : Nat → Nat) : Prop := (∀ i j, i < j → j < m → c i < c j) ∧ ∀ i, i < m → c i < n
def Lx (m : Nat) (c d : Nat → Nat) : Prop := ∃ k, k < m ∧ (∀ j, j < k → c j = d j) ∧ c k < d k
def Ist (L : List Nat) (m : Nat) (c : Nat → Nat) : Nat → Prop := fun s => ∃ k, k < m ∧ s = L.getD (c k) 0
section CBN
variable {n m : Nat} {c d : Nat → Nat} {L : List Nat} {P : (Nat → Prop) → Prop}
theorem Cb.up (h : Cb n m c) {i : Nat} : ∀ (e : Nat), i + e < m → c i + e ≤ c (i + e)
  | 0, _ => Nat.le_refl _
  | e + 1, he => by
    have h1 := h.up e (i := i) (by omega)
    have h2 := h.1 (i + e) (i + (e + 1)) (by omega) he
    omega
theorem Cb.top (h : Cb n m c) {i : Nat} (hi : i < m) : c i + m ≤ n + i := by
  have h1 := h.up (i := i) (m - 1 - i) (by omega)
  have h2 := h.2 (m - 1) (by omega)
  rw [show i + (m - 1 - i) = m - 1 by omega] at h1
  omega
theorem lx_tri (c d : Nat → Nat) : ∀ m, (∀ j, j < m → c j = d j) ∨ Lx m c d ∨ Lx m d c
  | 0 => Or.inl fun j hj => by omega
  | m + 1 => by
    rcases lx_tri c d m with h | ⟨k, k1, k2, k3⟩ | ⟨k, k1, k2, k3⟩
    · rcases Nat.lt_trichotomy (c m) (d m) with q | q | q
      · exact Or.inr (Or.inl ⟨m, by omega, h, q⟩)
      · refine Or.inl fun j hj => ?_
        rcases Nat.eq_or_lt_of_le (Nat.le_of_lt_succ hj) with rfl | hj
        · exact q
        · exact h j hj
      · exact Or.inr (Or.inr ⟨m, by omega, fun j hj => (h j hj).symm, q⟩)
    · exact Or.inr (Or.inl ⟨k, by omega, k2, k3⟩)
    · exact Or.inr (Or.inr ⟨k, by omega, k2, k3⟩)
theorem Ist.cong (h : ∀ j, j < m → c j = d j) : Ist L m c = Ist L m d := by
  funext s
  refine propext ⟨?_, ?_⟩
  · rintro ⟨k, k1, k2⟩; exact ⟨k, k1, by rw [← h k k1]; exact k2⟩
  · rintro ⟨k, k1, k2⟩; exact ⟨k, k1, by rw [h k k1]; exact k2⟩
theorem Ist.s {i : Nat} : Ist L (i + 1) c = (fun t => Ist L i c t ∨ t = L.getD (c i) 0) := by
  funext t
  refine propext ⟨?_, ?_⟩
  · rintro ⟨k, k1, k2⟩
    rcases Nat.eq_or_lt_of_le (Nat.le_of_lt_succ k1) with rfl | k1
    · exact Or.inr k2
    · exact Or.inl ⟨k, k1, k2⟩
  · rintro (⟨k, k1, k2⟩ | h)
    · exact ⟨k, by omega, k2⟩
    · exact ⟨i, by omega, h⟩
def NoB (P : (Nat → Prop) → Prop) (L : List Nat) (n m : Nat) (c : Nat → Nat) : Prop := ∀ d, Cb n m d → Lx m d c → ¬ P (Ist L m d)
def NoA (P : (Nat → Prop) → Prop) (L : List Nat) (n m : Nat) : Prop := ∀ d, Cb n m d → ¬ P (Ist L m d)
theorem noB_first : NoB P L n m (fun j => j) := by
  rintro d hd ⟨k, k1, k2, k3⟩
  have h := hd.up (i := 0) k (by omega)
  rw [Nat.zero_add] at h
  have : d k < k := k3
  omega
theorem cb_first (h : m ≤ n) : Cb n m (fun j => j) := ⟨fun _ _ h _ => h, fun i hi => by show i < n; omega⟩
theorem cb_cases (h : Cb n m c) : (∀ i, i < m → c i + m = n + i) ∨ ∃ i, i < m ∧ c i + m < n + i ∧ ∀ j, i < j → j < m → c j + m = n + j := by
  have key : ∀ e, e ≤ m → (∀ i, m - e ≤ i → i < m → c i + m = n + i) ∨ ∃ i, i < m ∧ c i + m < n + i ∧ ∀ j, i < j → j < m → c j + m = n + j := by
    intro e
    induction e with
    | zero => intro _; exact Or.inl fun i h1 h2 => by omega
    | succ e ih =>
      intro he
      rcases ih (by omega) with q | q
      · have t := h.top (i := m - (e + 1)) (by omega)
        rcases Nat.eq_or_lt_of_le t with t | t
        · refine Or.inl fun i h1 h2 => ?_
          rcases Nat.eq_or_lt_of_le h1 with h1 | h1
          · rw [← h1]; exact t
          · exact q i (by omega) h2
        · exact Or.inr ⟨m - (e + 1), by omega, t, fun j h1 h2 => q j (by omega) h2⟩
      · exact Or.inr q
  rcases key m (Nat.le_refl m) with q | q
  · exact Or.inl fun i hi => q i (by omega) hi
  · exact Or.inr q
def nxc (c : Nat → Nat) (i : Nat) : Nat → Nat := fun j => if j < i then c j else c i + 1 + (j - i)
theorem nxc_l {i j : Nat} (h : j < i) : nxc c i j = c j := if_pos h
theorem nxc_r {i j : Nat} (h : i ≤ j) : nxc c i j = c i + 1 + (j - i) := if_neg (by omega)
theorem cb_next (h : Cb n m c) {i : Nat} (hi : i < m) (h1 : c i + m < n + i) : Cb n m (nxc c i) := by
  refine ⟨fun j k hj hk => ?_, fun j hj => ?_⟩
  · rcases Nat.lt_or_ge k i with q | q
    · rw [nxc_l q, nxc_l (by omega)]; exact h.1 j k hj hk
    · rw [nxc_r q]
      rcases Nat.lt_or_ge j i with q2 | q2
      · rw [nxc_l q2]
        have := h.1 j i q2 hi
        omega
      · rw [nxc_r q2]; omega
  · rcases Nat.lt_or_ge j i with q | q
    · rw [nxc_l q]; exact h.2 j hj
    · rw [nxc_r q]; omega
theorem noB_eq (hB : NoB P L n m c) (hn : ¬ P (Ist L m c)) {d : Nat → Nat} (hd : Cb n m d) (h : ¬ Lx m c d) : ¬ P (Ist L m d) := by
  rcases lx_tri d c m with q | q | q
  · rw [Ist.cong q]; exact hn
  · exact hB d hd q
  · exact absurd q h
theorem noB_next {i : Nat} (h1 : ∀ j, i < j → j < m → c j + m = n + j) (hB : NoB P L n m c) (hn : ¬ P (Ist L m c)) : NoB P L n m (nxc c i) := by
  rintro d hd ⟨k, k1, k2, k3⟩
  refine noB_eq hB hn hd ?_
  rintro ⟨l, l1, l2, l3⟩
  rcases Nat.lt_trichotomy k i with q | q | q
  · rw [nxc_l q] at k3
    rcases Nat.lt_trichotomy k l with r | r | r
    · have := l2 k r; omega
    · subst r; omega
    · have := k2 l r
      rw [nxc_l (by omega)] at this
      omega
  · subst q
    rw [nxc_r (Nat.le_refl _)] at k3
    rcases Nat.lt_trichotomy k l with r | r | r
    · have t := hd.top l1
      have := h1 l r l1
      omega
    · subst r; omega
    · have := k2 l r
      rw [nxc_l (by omega)] at this
      omega
  · have e := k2 i q
    rw [nxc_r (Nat.le_refl _)] at e
    rw [nxc_r (by omega)] at k3
    have u := hd.up (i := i) (k - i) (by omega)
    rw [show i + (k - i) = k by omega] at u
    omega
theorem noA_last (h1 : ∀ i, i < m → c i + m = n + i) (hB : NoB P L n m c) (hn : ¬ P (Ist L m c)) : NoA P L n m := by
  intro d hd
  refine noB_eq hB hn hd ?_
  rintro ⟨l, l1, l2, l3⟩
  have t := hd.top l1
  have := h1 l l1
  omega
def dlc (c : Nat → Nat) (k : Nat) : Nat → Nat := fun j => if j < k then c j else c (j + 1)
theorem cb_del (h : Cb n (m + 1) c) {k : Nat} : Cb n m (dlc c k) := by
  refine ⟨fun i j hi hj => ?_, fun i hi => ?_⟩
  · unfold dlc
    by_cases q1 : i < k
    · by_cases q2 : j < k
      · rw [if_pos q1, if_pos q2]; exact h.1 _ _ hi (by omega)
      · rw [if_pos q1, if_neg q2]; exact h.1 _ _ (by omega) (by omega)
    · rw [if_neg q1, if_neg (by omega)]; exact h.1 _ _ (by omega) (by omega)
  · unfold dlc
    by_cases q : i < k
    · rw [if_pos q]; exact h.2 _ (by omega)
    · rw [if_neg q]; exact h.2 _ (by omega)
theorem Ist.del {k : Nat} (hk : k < m + 1) : Ist L (m + 1) c = (fun t => Ist L m (dlc c k) t ∨ t = L.getD (c k) 0) := by
  funext t
  refine propext ⟨?_, ?_⟩
  · rintro ⟨j, j1, j2⟩
    rcases Nat.lt_trichotomy j k with q | q | q
    · exact Or.inl ⟨j, by omega, by unfold dlc; rw [if_pos q]; exact j2⟩
    · subst q; exact Or.inr j2
    · refine Or.inl ⟨j - 1, by omega, ?_⟩
      unfold dlc
      rw [if_neg (by omega), show j - 1 + 1 = j by omega]
      exact j2
  · rintro (⟨j, j1, j2⟩ | h)
    · unfold dlc at j2
      by_cases q : j < k
      · rw [if_pos q] at j2; exact ⟨j, by omega, j2⟩
      · rw [if_neg q] at j2; exact ⟨j + 1, by omega, j2⟩
    · exact ⟨k, hk, h⟩
end CBN
/-- a saying that can help two to be one -/
noncomputable def hpB (T : List Tm) (S : List Sy) (s : Nat) : Bool := @decide (sm S s = true ∧ ¬ One T T.length (fun _ _ => False) (sa S s) (sb S s)) (Classical.propDecidable _)
section XLE
variable {T : List Tm} {S : List Sy} {tk : Nat → Bool} {z z' : fS} {ps pt n m : Nat} {c : Nat → Nat} {L : List Nat} {a b : Nat} {ro : Nat → Nat}
theorem hpB_t {s : Nat} (h1 : sm S s = true) (h2 : ¬ One T T.length (fun _ _ => False) (sa S s) (sb S s)) : hpB T S s = true := by unfold hpB; exact @decide_eq_true _ (Classical.propDecidable _) ⟨h1, h2⟩
theorem hpB_f {s : Nat} (h : ¬ (sm S s = true ∧ ¬ One T T.length (fun _ _ => False) (sa S s) (sb S s))) : hpB T S s = false := by unfold hpB; exact @decide_eq_false _ (Classical.propDecidable _) h
theorem hpB_i {s : Nat} (h : hpB T S s = true) : sm S s = true ∧ ¬ One T T.length (fun _ _ => False) (sa S s) (sb S s) := @of_decide_eq_true _ (Classical.propDecidable _) h
theorem hpB_n {s : Nat} (h : hpB T S s = false) : ¬ (sm S s = true ∧ ¬ One T T.length (fun _ _ => False) (sa S s) (sb S s)) := @of_decide_eq_false _ (Classical.propDecidable _) h
def Pol (T : List Tm) (S : List Sy) (tk : Nat → Bool) (i : Nat) (z : fS) : Prop := ∀ k, k < cnt tk i → z 20 k = nI ((pl tk i).getD k 0) ∧ z 21 k = bI (hpB T S ((pl tk i).getD k 0))
theorem pol_step {i : Nat} (ht : tk i = true) (h : Pol T S tk i z) {v : Int32} (hv : v = bI (hpB T S i)) : Pol T S tk (i + 1) (wrr (wrr z 20 (upd (z 20) (cnt tk i) (nI i))) 21 (upd (z 21) (cnt tk i) v)) := by
  intro k hk
  rw [cnt_s, ht] at hk
  simp at hk
  rw [pl_t ht]
  rcases Nat.eq_or_lt_of_le (Nat.le_of_lt_succ hk) with rfl | hk
  · have e : (pl tk i ++ [i]).getD (cnt tk i) 0 = i := by rw [← pl_len]; exact gD_r
    rw [e, wrr_e, upd_e, wrr_n (by omega), wrr_e, upd_e]
    exact ⟨rfl, hv⟩
  · rw [gD_l (by rw [pl_len]; exact hk), wrr_e, upd_n (by omega), wrr_n (by omega), wrr_e, upd_n (by omega)]
    exact h k hk
theorem pool_loop (hW : WT T) (hS : WS T.length S) : ∀ (d i N : Nat) (z : fS), i + d = S.length → d < N → XSy S tk z → JI T (fun _ _ => False) 28 T.length ro [] [] z → Pol T S tk i z → ∃ z', lX2_fillPool_4 N (nI (cnt tk i)) (nI i) z = some (nI (cnt tk S.length), z') ∧ Pol T S tk S.length z' ∧ (∀ j, j ≠ 20 → j ≠ 21 → z' j = z j) := by
  have hl := hS.1
  intro d
  induction d with
  | zero =>
    intro i N z hi hN hx hj hp
    obtain ⟨N, rfl⟩ : ∃ M, N = M + 1 := ⟨N - 1, by omega⟩
    have e : i = S.length := by omega
    subst e
    refine ⟨z, ?_, hp, fun _ _ _ => rfl⟩
    rw [lX2_fillPool_4.eq_2]
    simp (disch := omega) only [scount_ok hx, bp_s, nI_leI, if_pos]
  | succ d ih =>
    intro i N z hi hN hx hj hp
    obtain ⟨N, rfl⟩ : ∃ M, N = M + 1 := ⟨N - 1, by omega⟩
    rw [lX2_fillPool_4.eq_2]
    have hc := scount_ok hx
    have i1 := isTaken_ok hx (show i < 100 by omega)
    have hcn := cnt_le tk i
    cases q1 : tk i
    · rw [q1, bI_f] at i1
      have hp' : Pol T S tk (i + 1) z := by
        intro k hk
        rw [cnt_s, q1] at hk
        rw [pl_f q1]
        exact hp k (by simpa using hk)
      obtain ⟨z', e1, e2⟩ := ih (i + 1) N z (by omega) (by omega) hx hj hp'
      refine ⟨z', ?_, e2⟩
      rw [cnt_s, q1] at e1
      simp (disch := omega) only [hc, bp_s, nI_leI, if_neg, lit, i1, if_true, bnd_s, nI_add]
      simpa using e1
    · rw [q1, bI_t] at i1
      have hz : XSy S tk (wrr z 20 (upd (z 20) (cnt tk i) (nI i))) := hx.fr fun j h1 h2 => wrr_n (by omega)
      have hzj : JI T (fun _ _ => False) 28 T.length ro [] [] (wrr z 20 (upd (z 20) (cnt tk i) (nI i))) := hj.fr fun j h1 => wrr_n (by omega)
      have i2 := isSame_ok hz hl (show i < S.length by omega)
      have i3 := left_ok hz hl (show i < S.length by omega)
      have i4 := right_ok hz hl (show i < S.length by omega)
      obtain ⟨r, i5, i6⟩ := isOne_ok hW hzj (hS.2 i (by omega)).1 (hS.2 i (by omega)).2
      have go : ∀ v, v = bI (hpB T S i) → ∃ z', lX2_fillPool_4 N (nI (cnt tk i + 1)) (nI (i + 1)) (wrr (wrr z 20 (upd (z 20) (cnt tk i) (nI i))) 21 (upd (z 21) (cnt tk i) v)) = some (nI (cnt tk S.length), z') ∧ Pol T S tk S.length z' ∧ (∀ j, j ≠ 20 → j ≠ 21 → z' j = z j) := by
        intro v hv
        obtain ⟨z', e1, e2, e3⟩ := ih (i + 1) N _ (by omega) (by omega) (hz.fr fun j h1 h2 => wrr_n (by omega)) (hzj.fr fun j h1 => wrr_n (by omega)) (pol_step q1 hp hv)
        refine ⟨z', ?_, e2, fun j h1 h2 => by rw [e3 j h1 h2, wrr_n h2, wrr_n h1]⟩
        rw [cnt_s, q1] at e1
        simpa using e1
      cases q2 : sm S i
      · rw [q2, bI_f] at i2
        obtain ⟨z', e1, e2⟩ := go (nI 0) (by rw [hpB_f (fun h => by rw [q2] at h; exact absurd h.1 (by simp)), bI_f])
        refine ⟨z', ?_, e2⟩
        simp (disch := omega) only [hc, bp_s, nI_leI, if_neg, lit, i1, nI_eq, inb_t, gd_t, bnd_s, wr_nI, i2, if_true, zb_0, wrr_n, nI_add]
        exact e1
      · rw [q2, bI_t] at i2
        rcases i6 with ⟨rfl, i6⟩ | ⟨rfl, i6⟩
        · obtain ⟨z', e1, e2⟩ := go (nI 0) (by rw [hpB_f (fun h => h.2 i6), bI_f])
          refine ⟨z', ?_, e2⟩
          simp (disch := omega) only [hc, bp_s, nI_leI, if_neg, lit, i1, nI_eq, inb_t, gd_t, bnd_s, wr_nI, i2, i3, i4, i5, if_true, zb_0, wrr_n, nI_add]
          exact e1
        · obtain ⟨z', e1, e2⟩ := go (nI 1) (by rw [hpB_t q2 i6, bI_t])
          refine ⟨z', ?_, e2⟩
          simp (disch := omega) only [hc, bp_s, nI_leI, if_neg, lit, i1, nI_eq, inb_t, gd_t, bnd_s, wr_nI, i2, i3, i4, i5, if_true, zb_1, wrr_n, nI_add]
          exact e1
theorem fillPool_ok (hW : WT T) (hS : WS T.length S) (hk : XTk T S tk ps pt z) : ∃ z', fX2_fillPool z = some (nI (cnt tk S.length), z') ∧ Pol T S tk S.length z' ∧ (∀ j, j ≠ 20 → j ≠ 21 → z' j = z j) := by
  obtain ⟨_, hx, ro, hj⟩ := hk
  have h := pool_loop hW hS S.length 0 FU z (by omega) (by have := FU_ge; have := hS.1; omega) hx hj (fun k hk => by simp [cnt] at hk)
  unfold fX2_fillPool
  exact h
theorem help_loop (hm : m ≤ 100) (hn : n ≤ 100) {hp : Nat → Bool} (h1 : ∀ k, k < n → z 21 k = bI (hp k)) (h2 : ∀ k, k < m → z 22 k = nI (c k)) (hc : ∀ k, k < m → c k < n) {k32 : Option (Int32 × fS)} {v2 v3 : Int32} : ∀ (d i N : Nat), i + d = m → d < N → (lX2_isOneByPicks_3 k32 z (nI m) v2 v3 N (nI i) = k32 ∧ ∀ k, i ≤ k → k < m → hp (c k) = true) ∨ ∃ k, k < m ∧ hp (c k) = false ∧ lX2_isOneByPicks_3 k32 z (nI m) v2 v3 N (nI i) = some (nI 0, z) := by
  intro d
  induction d with
  | zero =>
    intro i N hi hN
    obtain ⟨N, rfl⟩ : ∃ M, N = M + 1 := ⟨N - 1, by omega⟩
    refine Or.inl ⟨?_, fun k q1 q2 => by omega⟩
    rw [lX2_isOneByPicks_3.eq_2]
    simp (disch := omega) only [nI_leI, if_pos]
  | succ d ih =>
    intro i N hi hN
    obtain ⟨N, rfl⟩ : ∃ M, N = M + 1 := ⟨N - 1, by omega⟩
    have e2 := h2 i (by omega)
    have ec := hc i (by omega)
    have e1 := h1 (c i) ec
    rw [lX2_isOneByPicks_3.eq_2]
    cases q : hp (c i)
    · rw [q, bI_f] at e1
      refine Or.inr ⟨i, by omega, q, ?_⟩
      simp (disch := omega) only [nI_leI, if_neg, inb_t, gd_t, rd_nI, e2, e1, lit, if_true]
    · rw [q, bI_t] at e1
      simp (disch := omega) only [nI_leI, if_neg, inb_t, gd_t, rd_nI, e2, e1, lit, nI_eq, bnd_s, nI_add]
      rcases ih (i + 1) N (by omega) (by omega) with ⟨e3, e4⟩ | e3
      · refine Or.inl ⟨e3, fun k q1 q2 => ?_⟩
        rcases Nat.eq_or_lt_of_le q1 with rfl | q1
        · exact q
        · exact e4 k q1 q2
      · exact Or.inr e3
theorem pjoin_loop (hW : WT T) (hS : WS T.length S) (hcon : ¬ Cl T T.length (EX S (TK tk) none) (UX S (TK tk) none)) (ha : a < T.length) (hb : b < T.length) (hm : m ≤ 100) (hn : n ≤ 100) (hL : ∀ k, k < n → L.getD k 0 < S.length ∧ tk (L.getD k 0) = true) (hc : ∀ k, k < m → c k < n ∧ sm S (L.getD (c k) 0) = true) : ∀ (d i N : Nat) (ro : Nat → Nat) (z : fS), i + d = m → d < N → Pq ps pt z → XSy S tk z → (∀ k, k < n → z 20 k = nI (L.getD k 0)) → (∀ k, k < m → z 22 k = nI (c k)) → JI T (EX S (Ist L i c) none) pt T.length ro [] [] z → ∃ r z', lX2_isOneByPicks_46 (nI m) (nI a) (nI b) N (nI i) z = some (nI r, z') ∧ ((r = 1 ∧ One T T.length (EX S (Ist L m c) none) a b) ∨ (r = 0 ∧ ¬ One T T.length (EX S (Ist L m c) none) a b)) ∧ HA [] [] z' ∧ (∀ j, ¬ (23 ≤ j ∧ j ≤ 27) → ¬ (pt ≤ j ∧ j ≤ pt + 9) → z' j = z j) := by
  have hl := hS.1
  intro d
  induction d with
  | zero =>
    intro i N ro z hi hN hq hx h20 h22 h
    obtain ⟨N, rfl⟩ : ∃ M, N = M + 1 := ⟨N - 1, by omega⟩
    have e : i = m := by omega
    subst e
    obtain ⟨r, e1, e2⟩ := isOne_ok hW h ha hb
    refine ⟨r, z, ?_, e2, h.agenda, fun _ _ _ => rfl⟩
    rw [lX2_isOneByPicks_46.eq_2]
    have hr : isb (nI r) = true := by rcases e2 with ⟨rfl, _⟩ | ⟨rfl, _⟩; exact isb_1; exact isb_0
    simp (disch := omega) only [nI_leI, if_pos, hq.2.1, e1, bp_s, hr, gd_t]
  | succ d ih =>
    intro i N ro z hi hN hq hx h20 h22 h
    have hnu := hq.num
    obtain ⟨N, rfl⟩ : ∃ M, N = M + 1 := ⟨N - 1, by omega⟩
    have ec := hc i (by omega)
    have e22 := h22 i (by omega)
    have e20 := h20 (c i) ec.1
    have eL := hL (c i) ec.1
    have i3 := left_ok hx hl eL.1
    have i4 := right_ok hx hl eL.1
    obtain ⟨z1, b1, ⟨b4, b5⟩, b3⟩ := join_ok hq.isT (Nat.le_refl _) hW h (hS.2 _ eL.1).1 (hS.2 _ eL.1).2
    have e' := EX_step (S := S) (x := none) (J := Ist L i c) eL.1 ec.2
    rw [e', ← Ist.s] at b5
    rcases b5 with ⟨ro1, b5⟩ | ⟨_, u, v, u1, u2, u3, u4, u5, u6⟩
    · obtain ⟨r, z', e1, e2, e3, e4⟩ := ih (i + 1) N ro1 z1 (by omega) (by omega) (hq.fr (b3 17 (by omega) (by omega))) (hx.fr fun j h1 h2 => b3 j (by omega) (by omega)) (by rw [b3 20 (by omega) (by omega)]; exact h20) (by rw [b3 22 (by omega) (by omega)]; exact h22) b5
      refine ⟨r, z', ?_, e2, e3, fun j h1 h2 => (e4 j h1 h2).trans (b3 j h1 h2)⟩
      rw [lX2_isOneByPicks_46.eq_2]
      simp (disch := omega) only [nI_leI, if_neg, inb_t, gd_t, rd_nI, e22, e20, bnd_s, i3, i4, bp_s, hq.2.1, b1, lit, nI_add]
      exact e1
    · refine absurd (Or.inr ⟨u, v, u1, u2, u3, u4, u5, u6.mono fun _ _ q => EX_mono ?_ q⟩) hcon
      rintro s ⟨k, k1, rfl⟩
      exact (hL (c k) (hc k (by omega)).1).2
def XPk (m : Nat) (c : Nat → Nat) (z : fS) : Prop := ∀ k, k < m → z 22 k = nI (c k)
theorem picks_ok (hW : WT T) (hS : WS T.length S) (ht : ∀ s, tk s = true → s < S.length) (hcon : ¬ Cl T T.length (EX S (TK tk) none) (UX S (TK tk) none)) (ha : a < T.length) (hb : b < T.length) (hk : XTk T S tk ps pt z) (hp : Pol T S tk S.length z) (h2 : XPk m c z) (hc : Cb (cnt tk S.length) m c) (hm : m ≤ cnt tk S.length) : ∃ r z', fX2_isOneByPicks z (nI m) (nI a) (nI b) = some (nI r, z') ∧ ((r = 1 ∧ One T T.length (EX S (Ist (pl tk S.length) m c) none) a b) ∨ (r = 0 ∧ ((∃ k, k < m ∧ hpB T S ((pl tk S.length).getD (c k) 0) = false) ∨ ¬ One T T.length (EX S (Ist (pl tk S.length) m c) none) a b))) ∧ HA [] [] z' ∧ (∀ j, ¬ (23 ≤ j ∧ j ≤ 27) → ¬ (pt ≤ j ∧ j ≤ pt + 9) → z' j = z j) := by
  have hl := hS.1
  have hcl := cnt_le tk S.length
  obtain ⟨hq, hx, ro, hj⟩ := hk
  have hnu := hq.num
  unfold fX2_isOneByPicks
  rcases help_loop (n := cnt tk S.length) (hp := fun k => hpB T S ((pl tk S.length).getD k 0)) (by omega) (by omega) (fun k hk => (hp k hk).2) h2 hc.2 (k32 := jX2_isOneByPicks_32 z (nI m) (nI a) (nI b)) (v2 := nI a) (v3 := nI b) m 0 FU (by omega) (by have := FU_ge; omega) with ⟨e1, e2⟩ | ⟨k, k1, k2, k3⟩
  · obtain ⟨z1, a1, a2, a3⟩ := copyFrom_ok hq.isT (Or.inl rfl) (by omega) hj
    rw [show (fun _ _ => False) = EX S (Ist (pl tk S.length) 0 c) none from (EX_no (fun s h => by obtain ⟨k, k1, _⟩ := h; omega)).symm] at a2
    obtain ⟨r, z2, c1, c2, c3, c4⟩ := pjoin_loop (n := cnt tk S.length) (c := c) (m := m) hW hS hcon ha hb (by omega) (by omega) (fun k hk => pl_get hk) (fun k hk => ⟨hc.2 k hk, (hpB_i (e2 k (by omega) hk)).1⟩) m 0 FU ro z1 (by omega) (by have := FU_ge; omega) (hq.fr (a3 17 (by omega))) (hx.fr fun j h1 h2 => a3 j (by omega)) (by rw [a3 20 (by omega)]; exact fun k hk => (hp k hk).1) (by rw [a3 22 (by omega)]; exact h2) a2
    refine ⟨r, z2, ?_, ?_, c3, fun j h1 h2 => (c4 j h1 h2).trans (a3 j h2)⟩
    · simp only [lit]
      rw [e1]
      unfold jX2_isOneByPicks_32
      simp only [hq.2.1, a1, bp_s, lit]
      exact c1
    · rcases c2 with c2 | ⟨c2, c5⟩
      · exact Or.inl c2
      · exact Or.inr ⟨c2, Or.inr c5⟩
  · refine ⟨0, z, ?_, Or.inr ⟨rfl, Or.inl ⟨k, k1, k2⟩⟩, hj.agenda, fun _ _ _ => rfl⟩
    simp only [lit]
    exact k3
/-- one that cannot help may be left out -/
theorem nohelp {k : Nat} (hk : k < m + 1) (h : hpB T S (L.getD (c k) 0) = false) (hP : One T T.length (EX S (Ist L (m + 1) c) none) a b) : One T T.length (EX S (Ist L m (dlc c k)) none) a b := by
  have h := hpB_n h
  rw [Ist.del hk] at hP
  cases q : sm S (L.getD (c k) 0)
  · rw [EX_skip q] at hP
    exact hP
  · have ho : One T T.length (fun _ _ => False) (sa S (L.getD (c k) 0)) (sb S (L.getD (c k) 0)) := Classical.byContradiction fun hn => h ⟨q, hn⟩
    exact One.step (ho.mono fun _ _ e => e.elim) hP
end XLE
section NXT
variable {n m : Nat} {c : Nat → Nat} {z : fS}
theorem scanX {k28 : Int32 → Option (Int32 × fS)} (hm : m ≤ n) (hn : n ≤ 100) (h2 : ∀ k, k < m → z 22 k = nI (c k)) (hc : ∀ k, k < m → c k + m ≤ n + k) {e : Nat} (h4 : e = 0 ∨ c (e - 1) + m < n + (e - 1)) : ∀ (d i N : Nat), i = e + d → i ≤ m → d < N → (∀ j, e ≤ j → j < i → c j + m = n + j) → lX2_pickNext_4 k28 z (nI m) (nI n) N (pI i) = k28 (pI e) := by
  intro d
  induction d with
  | zero =>
    intro i N hi him hN h3
    obtain ⟨N, rfl⟩ : ∃ M, N = M + 1 := ⟨N - 1, by omega⟩
    have ei : i = e := by omega
    subst ei
    rw [lX2_pickNext_4.eq_2]
    rcases Nat.eq_zero_or_pos i with q | q
    · subst q
      simp only [pI_0, lit, m1_lt0, if_true]
    · obtain ⟨i, rfl⟩ : ∃ M, i = M + 1 := ⟨i - 1, by omega⟩
      have e2 := h2 i (by omega)
      have h4 := h4.resolve_left (by omega)
      rw [Nat.add_sub_cancel] at h4
      simp (disch := omega) only [pI_s, Nat.add_sub_cancel, lit, nI_ltI, if_neg, inb_t, gd_t, rd_nI, e2, nI_sub, nI_add, if_pos]
  | succ d ih =>
    intro i N hi him hN h3
    obtain ⟨N, rfl⟩ : ∃ M, N = M + 1 := ⟨N - 1, by omega⟩
    obtain ⟨i, rfl⟩ : ∃ M, i = M + 1 := ⟨i - 1, by omega⟩
    have e2 := h2 i (by omega)
    have e3 := h3 i (by omega) (by omega)
    have e4 := hc i (by omega)
    have hih := ih i N (by omega) (by omega) (by omega) fun j h1 h2 => h3 j h1 (by omega)
    rw [lX2_pickNext_4.eq_2]
    simp (disch := omega) only [pI_s, Nat.add_sub_cancel, lit, litm, nI_ltI, if_neg, inb_t, gd_t, rd_nI, e2, nI_sub, nI_add, pI_dec, bnd_s]
    exact hih
theorem fillX {i0 : Nat} (hm : m ≤ 100) : ∀ (d j N : Nat) (z : fS), j + d = m → d < N → i0 < j → (∀ k, k < j → z 22 k = nI (nxc c i0 k)) → ∃ z', lX2_pickNext_49 (nI m) N (nI j) z = some (nI 1, z') ∧ (∀ k, k < m → z' 22 k = nI (nxc c i0 k)) ∧ (∀ k, k ≠ 22 → z' k = z k) := by
  intro d
  induction d with
  | zero =>
    intro j N z hj hN hi h
    obtain ⟨N, rfl⟩ : ∃ M, N = M + 1 := ⟨N - 1, by omega⟩
    have e : j = m := by omega
    subst e
    refine ⟨z, ?_, h, fun _ _ => rfl⟩
    rw [lX2_pickNext_49.eq_2]
    simp (disch := omega) only [nI_leI, if_pos, lit]
  | succ d ih =>
    intro j N z hj hN hi h
    obtain ⟨N, rfl⟩ : ∃ M, N = M + 1 := ⟨N - 1, by omega⟩
    have e1 := h (j - 1) (by omega)
    have e2 : nxc c i0 (j - 1) + 1 = nxc c i0 j := by rw [nxc_r (by omega), nxc_r (by omega)]; omega
    obtain ⟨z', g1, g2, g3⟩ := ih (j + 1) N (wrr z 22 (upd (z 22) j (nI (nxc c i0 j)))) (by omega) (by omega) (by omega) (fun k hk => by
      rw [wrr_e]
      by_cases q : k = j
      · rw [q, upd_e]
      · rw [upd_n q]; exact h k (by omega))
    refine ⟨z', ?_, g2, fun k hk => (g3 k hk).trans (wrr_n hk)⟩
    rw [lX2_pickNext_49.eq_2]
    simp (disch := omega) only [nI_leI, if_neg, lit, nI_sub, inb_t, gd_t, rd_nI, e1, nI_add, e2, wr_nI, bnd_s]
    exact g1
theorem nextX_0 (hm : m ≤ n) (hn : n ≤ 100) (h2 : ∀ k, k < m → z 22 k = nI (c k)) (h : ∀ i, i < m → c i + m = n + i) : fX2_pickNext z (nI m) (nI n) = some (nI 0, z) := by
  have e := scanX (k28 := jX2_pickNext_28 z (nI m)) hm hn h2 (fun k hk => Nat.le_of_eq (h k hk)) (e := 0) (Or.inl rfl) m m FU (by omega) (Nat.le_refl _) (by have := FU_ge; omega) fun j _ hj => h j hj
  unfold fX2_pickNext
  simp only [lit, pI_sub, bnd_s]
  rw [e]
  unfold jX2_pickNext_28
  simp (disch := omega) only [pI_0, lit, m1_le0, if_false]
theorem nextX_1 (hm : m ≤ n) (hn : n ≤ 100) (h2 : ∀ k, k < m → z 22 k = nI (c k)) (hc : Cb n m c) {i0 : Nat} (hi : i0 < m) (h : c i0 + m < n + i0) (h3 : ∀ j, i0 < j → j < m → c j + m = n + j) : ∃ z', fX2_pickNext z (nI m) (nI n) = some (nI 1, z') ∧ (∀ k, k < m → z' 22 k = nI (nxc c i0 k)) ∧ (∀ k, k ≠ 22 → z' k = z k) := by
  have e := scanX (k28 := jX2_pickNext_28 z (nI m)) hm hn h2 (fun k hk => hc.top hk) (e := i0 + 1) (Or.inr (by rw [Nat.add_sub_cancel]; exact h)) (m - (i0 + 1)) m FU (by omega) (Nat.le_refl _) (by have := FU_ge; omega) fun j hj hj2 => h3 j (by omega) hj2
  have e2 := h2 i0 hi
  obtain ⟨z', g1, g2, g3⟩ := fillX (c := c) (i0 := i0) (m := m) (by omega) (m - (i0 + 1)) (i0 + 1) FU (wrr z 22 (upd (z 22) i0 (nI (c i0 + 1)))) (by omega) (by have := FU_ge; omega) (by omega) (fun k hk => by
    rw [wrr_e]
    by_cases q : k = i0
    · rw [q, upd_e, nxc_r (Nat.le_refl _)]; congr 1; omega
    · rw [upd_n q, nxc_l (by omega)]; exact h2 k (by omega))
  refine ⟨z', ?_, g2, fun k hk => (g3 k hk).trans (wrr_n hk)⟩
  unfold fX2_pickNext
  simp only [lit, pI_sub, bnd_s]
  rw [e]
  unfold jX2_pickNext_28
  simp (disch := omega) only [pI_s, Nat.add_sub_cancel, lit, nI_leI, if_pos, inb_t, gd_t, rd_nI, e2, nI_add, wr_nI, bnd_s]
  exact g1
theorem firstX {v1 v2 v3 v5 v6 : Int32} {v4 : Nat} {k50 : fS → Option (Int32 × fS)} (hm : m ≤ 100) : ∀ (d j N : Nat) (z : fS), j + d = m → d < N → (∀ k, k < j → z 22 k = nI k) → ∃ z', lX2_findFewest_28 v4 k50 v1 v2 v3 v5 v6 (nI m) N (nI j) z = k50 z' ∧ (∀ k, k < m → z' 22 k = nI k) ∧ (∀ k, k ≠ 22 → z' k = z k) := by
  intro d
  induction d with
  | zero =>
    intro j N z hj hN h
    obtain ⟨N, rfl⟩ : ∃ M, N = M + 1 := ⟨N - 1, by omega⟩
    have e : j = m := by omega
    subst e
    refine ⟨z, ?_, h, fun _ _ => rfl⟩
    rw [lX2_findFewest_28.eq_2]
    simp (disch := omega) only [nI_leI, if_pos]
  | succ d ih =>
    intro j N z hj hN h
    obtain ⟨N, rfl⟩ : ∃ M, N = M + 1 := ⟨N - 1, by omega⟩
    obtain ⟨z', g1, g2, g3⟩ := ih (j + 1) N (wrr z 22 (upd (z 22) j (nI j))) (by omega) (by omega) (fun k hk => by
      rw [wrr_e]
      by_cases q : k = j
      · rw [q, upd_e]
      · rw [upd_n q]; exact h k (by omega))
    refine ⟨z', ?_, g2, fun k hk => (g3 k hk).trans (wrr_n hk)⟩
    rw [lX2_findFewest_28.eq_2]
    simp (disch := omega) only [nI_leI, if_neg, inb_t, gd_t, wr_nI, bnd_s, lit, nI_add]
    exact g1
theorem scanM {k28 : Int32 → Option (Int32 × fS)} (hm : m ≤ n) (hn : n ≤ 100) (h2 : ∀ k, k < m → z 23 k = nI (c k)) (hc : ∀ k, k < m → c k + m ≤ n + k) {e : Nat} (h4 : e = 0 ∨ c (e - 1) + m < n + (e - 1)) : ∀ (d i N : Nat), i = e + d → i ≤ m → d < N → (∀ j, e ≤ j → j < i → c j + m = n + j) → lX9_nextSet_4 k28 z (nI n) (nI m) N (pI i) = k28 (pI e) := by
  intro d
  induction d with
  | zero =>
    intro i N hi him hN h3
    obtain ⟨N, rfl⟩ : ∃ M, N = M + 1 := ⟨N - 1, by omega⟩
    have ei : i = e := by omega
    subst ei
    rw [lX9_nextSet_4.eq_2]
    rcases Nat.eq_zero_or_pos i with q | q
    · subst q
      simp only [pI_0, lit, m1_lt0, if_true]
    · obtain ⟨i, rfl⟩ : ∃ M, i = M + 1 := ⟨i - 1, by omega⟩
      have e2 := h2 i (by omega)
      have h4 := h4.resolve_left (by omega)
      rw [Nat.add_sub_cancel] at h4
      simp (disch := omega) only [pI_s, Nat.add_sub_cancel, lit, nI_ltI, if_neg, inb_t, gd_t, rd_nI, e2, nI_sub, nI_add, nI_eq]
  | succ d ih =>
    intro i N hi him hN h3
    obtain ⟨N, rfl⟩ : ∃ M, N = M + 1 := ⟨N - 1, by omega⟩
    obtain ⟨i, rfl⟩ : ∃ M, i = M + 1 := ⟨i - 1, by omega⟩
    have e2 := h2 i (by omega)
    have e3 := h3 i (by omega) (by omega)
    have e4 := hc i (by omega)
    have hih := ih i N (by omega) (by omega) (by omega) fun j h1 h2 => h3 j h1 (by omega)
    rw [lX9_nextSet_4.eq_2]
    simp (disch := omega) only [pI_s, Nat.add_sub_cancel, lit, litm, nI_ltI, if_neg, inb_t, gd_t, rd_nI, e2, nI_sub, nI_add, nI_eq, if_pos, pI_dec, bnd_s]
    exact hih
theorem fillM {i0 : Nat} (hm : m ≤ 100) : ∀ (d j N : Nat) (z : fS), j + d = m → d < N → i0 < j → (∀ k, k < j → z 23 k = nI (nxc c i0 k)) → ∃ z', lX9_nextSet_49 (nI m) N (nI j) z = some (nI 1, z') ∧ (∀ k, k < m → z' 23 k = nI (nxc c i0 k)) ∧ (∀ k, k ≠ 23 → z' k = z k) := by
  intro d
  induction d with
  | zero =>
    intro j N z hj hN hi h
    obtain ⟨N, rfl⟩ : ∃ M, N = M + 1 := ⟨N - 1, by omega⟩
    have e : j = m := by omega
    subst e
    refine ⟨z, ?_, h, fun _ _ => rfl⟩
    rw [lX9_nextSet_49.eq_2]
    simp (disch := omega) only [nI_leI, if_pos, lit]
  | succ d ih =>
    intro j N z hj hN hi h
    obtain ⟨N, rfl⟩ : ∃ M, N = M + 1 := ⟨N - 1, by omega⟩
    have e1 := h (j - 1) (by omega)
    have e2 : nxc c i0 (j - 1) + 1 = nxc c i0 j := by rw [nxc_r (by omega), nxc_r (by omega)]; omega
    obtain ⟨z', g1, g2, g3⟩ := ih (j + 1) N (wrr z 23 (upd (z 23) j (nI (nxc c i0 j)))) (by omega) (by omega) (by omega) (fun k hk => by
      rw [wrr_e]
      by_cases q : k = j
      · rw [q, upd_e]
      · rw [upd_n q]; exact h k (by omega))
    refine ⟨z', ?_, g2, fun k hk => (g3 k hk).trans (wrr_n hk)⟩
    rw [lX9_nextSet_49.eq_2]
    simp (disch := omega) only [nI_leI, if_neg, lit, nI_sub, inb_t, gd_t, rd_nI, e1, nI_add, e2, wr_nI, bnd_s]
    exact g1
theorem nextM_0 (hm : m ≤ n) (hn : n ≤ 100) (h2 : ∀ k, k < m → z 23 k = nI (c k)) (h : ∀ i, i < m → c i + m = n + i) : fX9_nextSet z (nI n) (nI m) = some (nI 0, z) := by
  have e := scanM (k28 := jX9_nextSet_28 z (nI m)) hm hn h2 (fun k hk => Nat.le_of_eq (h k hk)) (e := 0) (Or.inl rfl) m m FU (by omega) (Nat.le_refl _) (by have := FU_ge; omega) fun j _ hj => h j hj
  unfold fX9_nextSet
  simp only [lit, pI_sub, bnd_s]
  rw [e]
  unfold jX9_nextSet_28
  simp (disch := omega) only [pI_0, lit, m1_le0, if_false]
theorem nextM_1 (hm : m ≤ n) (hn : n ≤ 100) (h2 : ∀ k, k < m → z 23 k = nI (c k)) (hc : Cb n m c) {i0 : Nat} (hi : i0 < m) (h : c i0 + m < n + i0) (h3 : ∀ j, i0 < j → j < m → c j + m = n + j) : ∃ z', fX9_nextSet z (nI n) (nI m) = some (nI 1, z') ∧ (∀ k, k < m → z' 23 k = nI (nxc c i0 k)) ∧ (∀ k, k ≠ 23 → z' k = z k) := by
  have e := scanM (k28 := jX9_nextSet_28 z (nI m)) hm hn h2 (fun k hk => hc.top hk) (e := i0 + 1) (Or.inr (by rw [Nat.add_sub_cancel]; exact h)) (m - (i0 + 1)) m FU (by omega) (Nat.le_refl _) (by have := FU_ge; omega) fun j hj hj2 => h3 j (by omega) hj2
  have e2 := h2 i0 hi
  obtain ⟨z', g1, g2, g3⟩ := fillM (c := c) (i0 := i0) (m := m) (by omega) (m - (i0 + 1)) (i0 + 1) FU (wrr z 23 (upd (z 23) i0 (nI (c i0 + 1)))) (by omega) (by have := FU_ge; omega) (by omega) (fun k hk => by
    rw [wrr_e]
    by_cases q : k = i0
    · rw [q, upd_e, nxc_r (Nat.le_refl _)]; congr 1; omega
    · rw [upd_n q, nxc_l (by omega)]; exact h2 k (by omega))
  refine ⟨z', ?_, g2, fun k hk => (g3 k hk).trans (wrr_n hk)⟩
  unfold fX9_nextSet
  simp only [lit, pI_sub, bnd_s]
  rw [e]
  unfold jX9_nextSet_28
  simp (disch := omega) only [pI_s, Nat.add_sub_cancel, lit, nI_leI, if_pos, inb_t, gd_t, rd_nI, e2, nI_add, wr_nI, bnd_s]
  exact g1
theorem firstM {v1 v2 v4 v5 : Int32} {k50 : fS → Option (Int32 × fS)} (hm : m ≤ 100) : ∀ (d j N : Nat) (z : fS), j + d = m → d < N → (∀ k, k < j → z 23 k = nI k) → ∃ z', lX9_least_109 k50 v1 v2 v4 v5 (nI m) N (nI j) z = k50 z' ∧ (∀ k, k < m → z' 23 k = nI k) ∧ (∀ k, k ≠ 23 → z' k = z k) := by
  intro d
  induction d with
  | zero =>
    intro j N z hj hN h
    obtain ⟨N, rfl⟩ : ∃ M, N = M + 1 := ⟨N - 1, by omega⟩
    have e : j = m := by omega
    subst e
    refine ⟨z, ?_, h, fun _ _ => rfl⟩
    rw [lX9_least_109.eq_2]
    simp (disch := omega) only [nI_leI, if_pos]
  | succ d ih =>
    intro j N z hj hN h
    obtain ⟨N, rfl⟩ : ∃ M, N = M + 1 := ⟨N - 1, by omega⟩
    obtain ⟨z', g1, g2, g3⟩ := ih (j + 1) N (wrr z 23 (upd (z 23) j (nI j))) (by omega) (by omega) (fun k hk => by
      rw [wrr_e]
      by_cases q : k = j
      · rw [q, upd_e]
      · rw [upd_n q]; exact h k (by omega))
    refine ⟨z', ?_, g2, fun k hk => (g3 k hk).trans (wrr_n hk)⟩
    rw [lX9_least_109.eq_2]
    simp (disch := omega) only [nI_leI, if_neg, inb_t, gd_t, wr_nI, bnd_s, lit, nI_add]
    exact g1
end NXT
section MLE
variable {T : List Tm} {S : List Sy} {tk : Nat → Bool} {z z' : fS} {n m : Nat} {c : Nat → Nat} {L : List Nat} {a b : Nat}
theorem clr_loop {k24 : fS → Option (Int32 × fS)} {v1 v2 v3 : Int32} : ∀ (d i N : Nat) (z : fS), i + d = 101 → d < N → (∀ s, s < i → z 21 s = nI 0) → ∃ z', lX9_isEnough_3 k24 v1 v2 v3 N (nI i) z = k24 z' ∧ (∀ s, s < 101 → z' 21 s = nI 0) ∧ (∀ j, j ≠ 21 → z' j = z j) := by
  intro d
  induction d with
  | zero =>
    intro i N z hi hN h
    obtain ⟨N, rfl⟩ : ∃ M, N = M + 1 := ⟨N - 1, by omega⟩
    refine ⟨z, ?_, fun s hs => h s (by omega), fun _ _ => rfl⟩
    rw [lX9_isEnough_3.eq_2]
    simp (disch := omega) only [lit, nI_ltI, if_pos]
  | succ d ih =>
    intro i N z hi hN h
    obtain ⟨N, rfl⟩ : ∃ M, N = M + 1 := ⟨N - 1, by omega⟩
    obtain ⟨z', g1, g2, g3⟩ := ih (i + 1) N (wrr z 21 (upd (z 21) i (nI 0))) (by omega) (by omega) (fun k hk => by
      rw [wrr_e]
      by_cases q : k = i
      · rw [q, upd_e]
      · rw [upd_n q]; exact h k (by omega))
    refine ⟨z', ?_, g2, fun k hk => (g3 k hk).trans (wrr_n hk)⟩
    rw [lX9_isEnough_3.eq_2]
    simp (disch := omega) only [lit, nI_ltI, if_neg, inb_t, gd_t, zb_0, wr_nI, bnd_s, nI_add]
    exact g1
theorem set_loop (hm : m ≤ 100) (hn : n ≤ 100) (hL : ∀ k, k < n → L.getD k 0 < 100) (hc : ∀ k, k < m → c k < n) {k57 : fS → Option (Int32 × fS)} {v2 v3 : Int32} : ∀ (d i N : Nat) (z : fS), i + d = m → d < N → (∀ k, k < n → z 22 k = nI (L.getD k 0)) → (∀ k, k < m → z 23 k = nI (c k)) → (∀ s, s < 100 → (Ist L i c s ∧ z 21 s = nI 1) ∨ (¬ Ist L i c s ∧ z 21 s = nI 0)) → z 21 100 = nI 0 → ∃ z', lX9_isEnough_27 k57 (nI m) v2 v3 N (nI i) z = k57 z' ∧ (∀ s, s < 100 → (Ist L m c s ∧ z' 21 s = nI 1) ∨ (¬ Ist L m c s ∧ z' 21 s = nI 0)) ∧ z' 21 100 = nI 0 ∧ (∀ j, j ≠ 21 → z' j = z j) := by
  intro d
  induction d with
  | zero =>
    intro i N z hi hN h22 h23 h h100
    obtain ⟨N, rfl⟩ : ∃ M, N = M + 1 := ⟨N - 1, by omega⟩
    have e : i = m := by omega
    subst e
    refine ⟨z, ?_, h, h100, fun _ _ => rfl⟩
    rw [lX9_isEnough_27.eq_2]
    simp (disch := omega) only [nI_leI, if_pos]
  | succ d ih =>
    intro i N z hi hN h22 h23 h h100
    obtain ⟨N, rfl⟩ : ∃ M, N = M + 1 := ⟨N - 1, by omega⟩
    have e23 := h23 i (by omega)
    have ec := hc i (by omega)
    have e22 := h22 (c i) ec
    have eL := hL (c i) ec
    obtain ⟨z', g1, g2, g3, g4⟩ := ih (i + 1) N (wrr z 21 (upd (z 21) (L.getD (c i) 0) (nI 1))) (by omega) (by omega) (by rw [wrr_n (by omega)]; exact h22) (by rw [wrr_n (by omega)]; exact h23) (fun s hs => by
      rw [wrr_e, Ist.s]
      by_cases q : s = L.getD (c i) 0
      · rw [q, upd_e]; exact Or.inl ⟨Or.inr rfl, rfl⟩
      · rw [upd_n q]
        rcases h s hs with ⟨h1, h2⟩ | ⟨h1, h2⟩
        · exact Or.inl ⟨Or.inl h1, h2⟩
        · exact Or.inr ⟨fun h => h.elim h1 q, h2⟩) (by rw [wrr_e, upd_n (by omega)]; exact h100)
    refine ⟨z', ?_, g2, g3, fun k hk => (g4 k hk).trans (wrr_n hk)⟩
    rw [lX9_isEnough_27.eq_2]
    simp (disch := omega) only [nI_leI, if_neg, inb_t, gd_t, rd_nI, e23, e22, lit, zb_1, wr_nI, bnd_s, nI_add]
    exact g1
theorem enough_ok (hW : WT T) (hS : WS T.length S) (h : RM T S tk z) (ha : a < T.length) (hb : b < T.length) (h22 : ∀ k, k < cnt tk S.length → z 22 k = nI ((pl tk S.length).getD k 0)) (h23 : ∀ k, k < m → z 23 k = nI (c k)) (hc : Cb (cnt tk S.length) m c) (hm : m ≤ cnt tk S.length) : ∃ r z', fX9_isEnough z (nI m) (nI a) (nI b) = some (nI r, z') ∧ ((r = 1 ∧ One T T.length (EX S (Ist (pl tk S.length) m c) none) a b) ∨ (r = 0 ∧ ¬ One T T.length (EX S (Ist (pl tk S.length) m c) none) a b)) ∧ RM T S tk z' ∧ (∀ j, j ≠ 0 → j ≠ 20 → j ≠ 21 → z' j = z j) ∧ (∀ f, f ≠ 30 → z' 0 f = z 0 f) := by
  have hl := hS.1
  have hn := hW.1
  have hcl := cnt_le tk S.length
  obtain ⟨h1, h2, h3⟩ := h
  obtain ⟨z1, a1, a2, a3⟩ := clr_loop (k24 := jX9_isEnough_24 (nI m) (nI a) (nI b)) (v1 := nI m) (v2 := nI a) (v3 := nI b) 101 0 FU z (by omega) (by have := FU_ge; omega) (fun s hs => by omega)
  obtain ⟨z2, b1, b2, b3, b4⟩ := set_loop (k57 := jX9_isEnough_57 (nI a) (nI b)) (v2 := nI a) (v3 := nI b) (m := m) (n := cnt tk S.length) (L := pl tk S.length) (c := c) (by omega) (by omega) (fun k hk => by have := (pl_get hk).1; omega) hc.2 m 0 FU z1 (by omega) (by have := FU_ge; omega) (by rw [a3 22 (by omega)]; exact h22) (by rw [a3 23 (by omega)]; exact h23) (fun s hs => Or.inr ⟨fun h => by obtain ⟨k, k1, _⟩ := h; omega, a2 s (by omega)⟩) (a2 100 (by omega))
  have e : ∀ j, j ≠ 21 → z2 j = z j := fun j hj => (b4 j hj).trans (a3 j hj)
  have hT2 : MT T z2 := h1.fr (by rw [e 0 (by omega)]) fun j g1 g2 => e j (by omega)
  have hS2 : MSy S tk z2 := h2.fr (by rw [e 0 (by omega)]) (fun j g1 g2 s hs => by rw [e j (by omega)]) hl
  have hX : MX S (Ist (pl tk S.length) m c) none z2 := by
    refine ⟨b2, ?_, Or.inl ⟨rfl, b3⟩⟩
    rintro s ⟨k, k1, rfl⟩
    exact (pl_get (hc.2 k k1)).1
  obtain ⟨z3, c1, ⟨on, c2, c3⟩, c4, c5⟩ := findOnes_ok hW hT2 (MI_of hS (fun _ _ _ q => by cases q) hS2 hX)
  have oa := c2 a ha
  have ob := c2 b hb
  have R : RM T S tk z3 := ⟨hT2.fr (by rw [c5, upd_n (by omega)]) fun j g1 g2 => c4 j (by omega) (by omega), hS2.fr (by rw [c5, upd_n (by omega)]) (fun j g1 g2 s hs => by rw [c4 j (by omega) (by omega)]) hl, Or.inl (by rw [c5, upd_e])⟩
  have f1 : ∀ j, j ≠ 0 → j ≠ 20 → j ≠ 21 → z3 j = z j := fun j g0 g1 g2 => (c4 j g1 g0).trans (e j g2)
  have f2 : ∀ f, f ≠ 30 → z3 0 f = z 0 f := fun f g => by rw [c5, upd_n g, e 0 (by omega)]
  have st : fX9_isEnough z (nI m) (nI a) (nI b) = if on a = on b then some (nI 1, z3) else some (nI 0, z3) := by
    unfold fX9_isEnough
    simp only [lit]
    rw [a1]
    unfold jX9_isEnough_24
    simp only [lit]
    rw [b1]
    unfold jX9_isEnough_57
    simp (disch := omega) only [c1, bp_s, inb_t, gd_t, rd_nI, oa.1, ob.1, nI_eq, lit]
  by_cases q : on a = on b
  · exact ⟨1, z3, by rw [st, if_pos q], Or.inl ⟨rfl, (c3 a b ha hb).mp q⟩, R, f1, f2⟩
  · exact ⟨0, z3, by rw [st, if_neg q], Or.inr ⟨rfl, fun h => q ((c3 a b ha hb).mpr h)⟩, R, f1, f2⟩
theorem mpool_loop (hS : WS T.length S) {k93 : Int32 → fS → Option (Int32 × fS)} {v1 v2 v3 : Int32} : ∀ (d i N : Nat) (z : fS), i + d = S.length → d < N → MSy S tk z → (∀ k, k < cnt tk i → z 22 k = nI ((pl tk i).getD k 0)) → ∃ z', lX9_least_56 k93 v1 v2 v3 N (nI (cnt tk i)) (nI i) z = k93 (nI (cnt tk S.length)) z' ∧ (∀ k, k < cnt tk S.length → z' 22 k = nI ((pl tk S.length).getD k 0)) ∧ (∀ j, j ≠ 22 → z' j = z j) := by
  have hl := hS.1
  intro d
  induction d with
  | zero =>
    intro i N z hi hN hM hp
    obtain ⟨N, rfl⟩ : ∃ M, N = M + 1 := ⟨N - 1, by omega⟩
    have e : i = S.length := by omega
    subst e
    refine ⟨z, ?_, hp, fun _ _ => rfl⟩
    rw [lX9_least_56.eq_2]
    simp (disch := omega) only [hM.1, nI_leI, if_pos]
  | succ d ih =>
    intro i N z hi hN hM hp
    obtain ⟨N, rfl⟩ : ∃ M, N = M + 1 := ⟨N - 1, by omega⟩
    rw [lX9_least_56.eq_2]
    have h0 := hM.1
    have i1 := (hM.2 i (by omega)).2.2.2
    have hcn := cnt_le tk i
    cases q1 : tk i
    · rw [q1, bI_f] at i1
      obtain ⟨z', e1, e2⟩ := ih (i + 1) N z (by omega) (by omega) hM (fun k hk => by
        rw [cnt_s, q1] at hk
        rw [pl_f q1]
        exact hp k (by simpa using hk))
      refine ⟨z', ?_, e2⟩
      rw [cnt_s, q1] at e1
      simp (disch := omega) only [h0, nI_leI, if_neg, inb_t, gd_t, rd_nI, i1, lit, if_true, bnd_s, nI_add]
      simpa using e1
    · rw [q1, bI_t] at i1
      obtain ⟨z', e1, e2, e3⟩ := ih (i + 1) N (wrr z 22 (upd (z 22) (cnt tk i) (nI i))) (by omega) (by omega) (hM.fr (by rw [wrr_n (by omega)]) (fun j g1 g2 s hs => by rw [wrr_n (by omega)]) hl) (fun k hk => by
        rw [cnt_s, q1] at hk
        simp at hk
        rw [pl_t q1, wrr_e]
        rcases Nat.eq_or_lt_of_le (Nat.le_of_lt_succ hk) with rfl | hk
        · have e : (pl tk i ++ [i]).getD (cnt tk i) 0 = i := by rw [← pl_len]; exact gD_r
          rw [e, upd_e]
        · rw [gD_l (by rw [pl_len]; exact hk), upd_n (by omega)]
          exact hp k hk)
      refine ⟨z', ?_, e2, fun j g1 => (e3 j g1).trans (wrr_n g1)⟩
      rw [cnt_s, q1] at e1
      simp (disch := omega) only [h0, nI_leI, if_neg, inb_t, gd_t, rd_nI, i1, lit, nI_eq, wr_nI, bnd_s, nI_add]
      simpa using e1
end MLE
end
section
/-! least: both try the same sets -/
def LX (T : List Tm) (S : List Sy) (tk : Nat → Bool) (pt : Nat) (zX z : fS) : Prop := HA [] [] z ∧ Pol T S tk S.length z ∧ ∀ j, ¬ (20 ≤ j ∧ j ≤ 27) → ¬ (pt ≤ j ∧ j ≤ pt + 9) → z j = zX j
def LM (T : List Tm) (S : List Sy) (tk : Nat → Bool) (zM z : fS) : Prop := RM T S tk z ∧ (∀ k, k < cnt tk S.length → z 22 k = nI ((pl tk S.length).getD k 0)) ∧ (∀ j, j ≠ 0 → ¬ (20 ≤ j ∧ j ≤ 23) → z j = zM j) ∧ ∀ f, f ≠ 30 → z 0 f = zM 0 f
def Kl (L : List Nat) (c : Nat → Nat) : Nat → List Nat
  | 0 => []
  | m + 1 => Kl L c m ++ [L.getD (c m) 0]
section LOCK
variable {T : List Tm} {S : List Sy} {tk : Nat → Bool} {zX zM z x y : fS} {ps pt n m a b tt : Nat} {c : Nat → Nat} {L : List Nat}
theorem Kl_len : ∀ m, (Kl L c m).length = m
  | 0 => rfl
  | m + 1 => by unfold Kl; rw [List.length_append, Kl_len m]; rfl
theorem Kl_get : ∀ {m k : Nat}, k < m → (Kl L c m).getD k 0 = L.getD (c k) 0
  | 0, k, h => by omega
  | m + 1, k, h => by
    unfold Kl
    rcases Nat.eq_or_lt_of_le (Nat.le_of_lt_succ h) with rfl | h
    · have := gD_r (l := Kl L c k) (x := L.getD (c k) 0) (d := 0)
      rw [Kl_len] at this
      exact this
    · rw [gD_l (by rw [Kl_len]; exact h)]; exact Kl_get h
theorem LX.xt (hk : XTk T S tk ps pt zX) (h : LX T S tk pt zX x) : XTk T S tk ps pt x := by
  obtain ⟨hq, hx, ro, hj⟩ := hk
  have hn := hq.num
  exact ⟨hq.fr (h.2.2 17 (by omega) (by omega)), hx.fr fun j h1 h2 => h.2.2 j (by omega) (by omega), ro, hj.fr2 h.1 fun j hj => h.2.2 j (by omega) (by omega)⟩
theorem LX.st (h : LX T S tk pt zX x) (hA : HA [] [] z) (e : ∀ j, ¬ (22 ≤ j ∧ j ≤ 27) → ¬ (pt ≤ j ∧ j ≤ pt + 9) → z j = x j) (hn : pt = 38 ∨ pt = 48) : LX T S tk pt zX z :=
  ⟨hA, by unfold Pol; rw [e 20 (by omega) (by omega), e 21 (by omega) (by omega)]; exact h.2.1, fun j h1 h2 => (e j (by omega) h2).trans (h.2.2 j h1 h2)⟩
theorem LM.st (h : LM T S tk zM y) (hR : RM T S tk z) (e : ∀ j, j ≠ 0 → ¬ (20 ≤ j ∧ j ≤ 23 ∧ j ≠ 22) → z j = y j) (e0 : ∀ f, f ≠ 30 → z 0 f = y 0 f) : LM T S tk zM z :=
  ⟨hR, by rw [e 22 (by omega) (by omega)]; exact h.2.1, fun j h1 h2 => (e j h1 (by omega)).trans (h.2.2.1 j h1 h2), fun f hf => (e0 f hf).trans (h.2.2.2 f hf)⟩
theorem LM.s23 (hS : S.length ≤ 100) (h : LM T S tk zM y) (e : ∀ j, j ≠ 23 → z j = y j) : LM T S tk zM z :=
  h.st (RM.fr hS h.1 (fun f _ => by rw [e 0 (by omega)]) (fun j _ _ => e j (by omega)) (e 20 (by omega))) (fun j h1 h2 => e j (by omega)) (fun f _ => by rw [e 0 (by omega)])
theorem LX.s22 (h : LX T S tk pt zX x) (e : ∀ j, j ≠ 22 → z j = x j) (hn : pt = 38 ∨ pt = 48) : LX T S tk pt zX z :=
  h.st (h.1.fr fun j _ _ => e j (by omega)) (fun j h1 _ => e j (by omega)) hn
theorem lock_in (hW : WT T) (hS : WS T.length S) (ht : ∀ s, tk s = true → s < S.length) (hcon : ¬ Cl T T.length (EX S (TK tk) none) (UX S (TK tk) none)) (ha : a < T.length) (hb : b < T.length) (hk : XTk T S tk ps pt zX) (hn : n = cnt tk S.length) (hL : L = pl tk S.length) (hm : m ≤ n) (htt : tt ≤ 500) (hpre : 0 < m → NoA (fun I => One T T.length (EX S I none) a b) L n (m - 1)) {k78 k165 : fS → Option (Int32 × fS)} {k131 k226 : Int32 → fS → Option (Int32 × fS)} : ∀ (d N tr : Nat) (c : Nat → Nat) (x y : fS), tr + d = tt → d + 1 < N → LX T S tk pt zX x → LM T S tk zM y → XPk m c x → (∀ k, k < m → y 23 k = nI (c k)) → Cb n m c → NoB (fun I => One T T.length (EX S I none) a b) L n m c →
    (∃ c' x' y', LX T S tk pt zX x' ∧ LM T S tk zM y' ∧ XPk m c' x' ∧ (∀ k, k < m → y' 23 k = nI (c' k)) ∧ Cb n m c' ∧ lX2_findFewest_53 71 k78 k131 (nI a) (nI b) (nI tt) (nI n) (nI m) N (nI tr) (nI 1) x = k78 x' ∧ lX9_least_134 k165 k226 (nI a) (nI b) (nI n) (nI m) N (nI d) (nI 1) y = k165 y') ∨
    (∃ tr' x' y', tr' ≤ tt ∧ LX T S tk pt zX x' ∧ LM T S tk zM y' ∧ NoA (fun I => One T T.length (EX S I none) a b) L n m ∧ lX2_findFewest_53 71 k78 k131 (nI a) (nI b) (nI tt) (nI n) (nI m) N (nI tr) (nI 1) x = k131 (nI tr') x' ∧ lX9_least_134 k165 k226 (nI a) (nI b) (nI n) (nI m) N (nI d) (nI 1) y = k226 (nI (tt - tr')) y') ∨
    (∃ x' y', LX T S tk pt zX x' ∧ LM T S tk zM y' ∧ lX2_findFewest_53 71 k78 k131 (nI a) (nI b) (nI tt) (nI n) (nI m) N (nI tr) (nI 1) x = k131 (nI tt) x' ∧ lX9_least_134 k165 k226 (nI a) (nI b) (nI n) (nI m) N (nI d) (nI 1) y = some (-(nI 1), wrr y' 0 (upd (y' 0) 26 (nI 7)))) := by
  subst hn
  subst hL
  have hl := hS.1
  have hcl := cnt_le tk S.length
  have hnu : pt = 38 ∨ pt = 48 := by have := hk.1.num; omega
  intro d
  induction d with
  | zero =>
    intro N tr c x y htr hN hx hy hxp hyp hc hB
    obtain ⟨N, rfl⟩ : ∃ M, N = M + 1 := ⟨N - 1, by omega⟩
    refine Or.inr (Or.inr ⟨x, y, hx, hy, ?_, ?_⟩)
    · rw [lX2_findFewest_53.eq_2]
      simp (disch := omega) only [lit, nI_eq, if_neg, nI_leI, if_pos]
      rw [show tr = tt by omega]
    · rw [lX9_least_134.eq_2]
      simp (disch := omega) only [lit, nI_eq, if_neg, if_true, refM, bd_s]
  | succ d ih =>
    intro N tr c x y htr hN hx hy hxp hyp hc hB
    obtain ⟨N, rfl⟩ : ∃ M, N = M + 1 := ⟨N - 1, by omega⟩
    obtain ⟨r, x1, a1, a2, a3, a4⟩ := picks_ok hW hS ht hcon ha hb (hx.xt hk) hx.2.1 hxp hc hm
    obtain ⟨r', y1, b1, b2, b3, b4, b5⟩ := enough_ok hW hS hy.1 ha hb hy.2.1 hyp hc hm
    have hx1 : LX T S tk pt zX x1 := hx.st a3 (fun j h1 h2 => a4 j (by omega) h2) hnu
    have hy1 : LM T S tk zM y1 := hy.st b3 (fun j h1 h2 => b4 j h1 (by omega) (by omega)) b5
    have hxp1 : XPk m c x1 := by
      clear a2 b2
      unfold XPk; rw [a4 22 (by omega) (by omega)]; exact hxp
    have hyp1 : ∀ k, k < m → y1 23 k = nI (c k) := by rw [b4 23 (by omega) (by omega) (by omega)]; exact hyp
    rw [lX2_findFewest_53.eq_2, lX9_least_134.eq_2]
    have hd : nI (d + 1) + -(nI 1) = nI d := by rw [nI_dec (by omega), Nat.add_sub_cancel]
    rcases b2 with ⟨rfl, b2⟩ | ⟨rfl, b2⟩
    · have hr : r = 1 := by
        rcases a2 with ⟨q, _⟩ | ⟨_, ⟨k, k1, k2⟩ | q⟩
        · exact q
        · exfalso
          obtain ⟨m, rfl⟩ : ∃ M, m = M + 1 := ⟨m - 1, by omega⟩
          exact hpre (by omega) (dlc c k) (cb_del hc) (nohelp k1 k2 b2)
        · exact absurd b2 q
      subst hr
      refine Or.inl ⟨c, x1, y1, hx1, hy1, hxp1, hyp1, hc, ?_, ?_⟩
      · simp (disch := omega) only [lit, nI_eq, if_neg, nI_leI, nI_add, bnd_s, a1, bd_s]
      · simp (disch := omega) only [lit, litm, nI_eq, if_neg, hd, bnd_s, b1, bd_s]
    · have hr : r = 0 := by
        rcases a2 with ⟨_, q⟩ | ⟨q, _⟩
        · exact absurd q b2
        · exact q
      subst hr
      rcases cb_cases hc with q | ⟨i0, q1, q2, q3⟩
      · have n1 := nextX_0 (z := x1) hm (by omega) hxp1 q
        have n2 := nextM_0 (z := y1) hm (by omega) hyp1 q
        obtain ⟨N, rfl⟩ : ∃ M, N = M + 1 := ⟨N - 1, by omega⟩
        refine Or.inr (Or.inl ⟨tr + 1, x1, y1, by omega, hx1, hy1, noA_last q hB b2, ?_, ?_⟩)
        · simp (disch := omega) only [lit, nI_eq, if_neg, nI_leI, nI_add, bnd_s, a1, bd_s, if_true, n1]
          rw [lX2_findFewest_53.eq_2]
          simp only [lit, if_true]
        · simp (disch := omega) only [lit, litm, nI_eq, if_neg, hd, bnd_s, b1, bd_s, if_true, n2]
          rw [lX9_least_134.eq_2, show d = tt - (tr + 1) by omega]
          simp only [lit, if_true]
      · obtain ⟨x2, n1, n2, n3⟩ := nextX_1 (z := x1) hm (by omega) hxp1 hc q1 q2 q3
        obtain ⟨y2, o1, o2, o3⟩ := nextM_1 (z := y1) hm (by omega) hyp1 hc q1 q2 q3
        have := ih N (tr + 1) (nxc c i0) x2 y2 (by omega) (by omega) (hx1.s22 n3 hnu) (hy1.s23 hl o3) n2 o2 (cb_next hc q1 q2) (noB_next q3 hB b2)
        simp (disch := omega) only [lit, litm, nI_eq, if_neg, nI_leI, nI_add, hd, bnd_s, a1, b1, bd_s, if_true, n1, o1]
        exact this
theorem lock_out (hW : WT T) (hS : WS T.length S) (ht : ∀ s, tk s = true → s < S.length) (hcon : ¬ Cl T T.length (EX S (TK tk) none) (UX S (TK tk) none)) (ha : a < T.length) (hb : b < T.length) (hk : XTk T S tk ps pt zX) (hn : n = cnt tk S.length) (hL : L = pl tk S.length) (htt : tt ≤ 500) {k78 k165 : Int32 → fS → Option (Int32 × fS)} : ∀ (e N m tr : Nat) (x y : fS), m + e = n + 1 → e < N → tr ≤ tt → (0 < m → NoA (fun I => One T T.length (EX S I none) a b) L n (m - 1)) → LX T S tk pt zX x → LM T S tk zM y →
    (∃ m' c' x' y', m' ≤ n ∧ LX T S tk pt zX x' ∧ LM T S tk zM y' ∧ XPk m' c' x' ∧ (∀ k, k < m' → y' 23 k = nI (c' k)) ∧ Cb n m' c' ∧ lX2_findFewest_12 71 k78 (nI a) (nI b) (nI tt) (nI n) N (nI tr) (nI m) x = k78 (nI m') x' ∧ lX9_least_99 k165 (nI a) (nI b) (nI n) N (nI (tt - tr)) (nI m) y = k165 (nI m') y') ∨
    (∃ x' y', LX T S tk pt zX x' ∧ LM T S tk zM y' ∧ lX2_findFewest_12 71 k78 (nI a) (nI b) (nI tt) (nI n) N (nI tr) (nI m) x = some (nI 0, x') ∧ lX9_least_99 k165 (nI a) (nI b) (nI n) N (nI (tt - tr)) (nI m) y = some (-(nI 1), wrr y' 0 (upd (y' 0) 26 (nI 7)))) := by
  have hl := hS.1
  have hcl := cnt_le tk S.length
  have hnu : pt = 38 ∨ pt = 48 := by have := hk.1.num; omega
  intro e
  induction e with
  | zero =>
    intro N m tr x y he hN htr hpre hx hy
    obtain ⟨N, rfl⟩ : ∃ M, N = M + 1 := ⟨N - 1, by omega⟩
    refine Or.inr ⟨x, y, hx, hy, ?_, ?_⟩
    · rw [lX2_findFewest_12.eq_2]
      simp (disch := omega) only [lit, nI_ltI, if_pos]
    · rw [lX9_least_99.eq_2]
      simp (disch := omega) only [lit, nI_ltI, if_pos, refM, bd_s]
  | succ e ih =>
    intro N m tr x y he hN htr hpre hx hy
    obtain ⟨N, rfl⟩ : ∃ M, N = M + 1 := ⟨N - 1, by omega⟩
    rw [lX2_findFewest_12.eq_2, lX9_least_99.eq_2]
    obtain ⟨y1, b1, b2, b3⟩ := firstM (k50 := jX9_least_131 (lX9_least_99 k165 (nI a) (nI b) (nI n) N) k165 (nI a) (nI b) (nI n) (nI (tt - tr)) (nI m)) (v1 := nI a) (v2 := nI b) (v4 := nI n) (v5 := nI (tt - tr)) (m := m) (by omega) m 0 FU y (by omega) (by have := FU_ge; omega) (fun k hk => by omega)
    have hy1 := hy.s23 hl b3
    rcases Nat.eq_or_lt_of_le htr with q | q
    · refine Or.inr ⟨x, y1, hx, hy1, ?_, ?_⟩
      · simp (disch := omega) only [lit, nI_ltI, if_neg, nI_leI, if_pos]
      · simp (disch := omega) only [lit, nI_ltI, if_neg]
        rw [b1]
        unfold jX9_least_131
        obtain ⟨F, hF⟩ : ∃ M, FU = M + 1 := ⟨FU - 1, by have := FU_ge; omega⟩
        rw [hF, lX9_least_134.eq_2, show tt - tr = 0 by omega]
        simp (disch := omega) only [lit, nI_eq, if_neg, if_true, refM, bd_s]
    · obtain ⟨x1, a1, a2, a3⟩ := firstX (k50 := jX2_findFewest_50 71 (lX2_findFewest_12 71 k78 (nI a) (nI b) (nI tt) (nI n) N) k78 (nI a) (nI b) (nI tt) (nI n) (nI tr) (nI m)) (v1 := nI a) (v2 := nI b) (v3 := nI tt) (v4 := 71) (v5 := nI n) (v6 := nI tr) (m := m) (by omega) m 0 FU x (by omega) (by have := FU_ge; omega) (fun k hk => by omega)
      have hx1 := hx.s22 a3 hnu
      simp (disch := omega) only [lit, nI_ltI, if_neg, nI_leI]
      rw [a1, b1]
      unfold jX2_findFewest_50 jX9_least_131
      simp only [lit]
      rcases lock_in hW hS ht hcon ha hb hk hn hL (show m ≤ n by omega) htt hpre (k78 := k78 (nI m)) (k165 := k165 (nI m)) (k131 := jX2_findFewest_131 71 (lX2_findFewest_12 71 k78 (nI a) (nI b) (nI tt) (nI n) N) k78 (nI a) (nI b) (nI tt) (nI n) (nI m)) (k226 := jX9_least_226 (lX9_least_99 k165 (nI a) (nI b) (nI n) N) k165 (nI a) (nI b) (nI n) (nI m)) (tt - tr) FU tr (fun j => j) x1 y1 (by omega) (by have := FU_ge; omega) hx1 hy1 a2 b2 (cb_first (by omega)) noB_first with ⟨c', x', y', g1, g2, g3, g4, g5, g6, g7⟩ | ⟨tr', x', y', g1, g2, g3, g4, g5, g6⟩ | ⟨x', y', g1, g2, g3, g4⟩
      · exact Or.inl ⟨m, c', x', y', by omega, g1, g2, g3, g4, g5, g6, g7⟩
      · rw [g5, g6]
        unfold jX2_findFewest_131 jX9_least_226
        simp only [lit, nI_add, bnd_s]
        exact ih N (m + 1) tr' x' y' (by omega) (by omega) g1 (fun _ => by rw [Nat.add_sub_cancel]; exact g4) g2 g3
      · refine Or.inr ⟨x', y', g1, g2, ?_, g4⟩
        rw [g3]
        unfold jX2_findFewest_131
        simp only [lit, nI_add, bnd_s]
        obtain ⟨N, rfl⟩ : ∃ M, N = M + 1 := ⟨N - 1, by omega⟩
        rw [lX2_findFewest_12.eq_2]
        by_cases w : n < m + 1
        · simp (disch := omega) only [lit, nI_ltI, w, if_true]
        · simp (disch := omega) only [lit, nI_ltI, w, if_false, nI_leI, if_pos]
theorem core86 (hm : m ≤ 100) (hn : n ≤ 100) (hc : ∀ k, k < m → c k < n) : ∀ (d i N : Nat) (z : fS), i + d = m → d < N → XCr 71 (Kl L c i) z → (∀ k, k < n → z 20 k = nI (L.getD k 0)) → XPk m c z → ∃ z', lX2_findFewest_86 71 (nI m) N (nI i) z = some (nI 1, z') ∧ XCr 71 (Kl L c m) z' ∧ (∀ j, j ≠ 71 → j ≠ 72 → z' j = z j) := by
  intro d
  induction d with
  | zero =>
    intro i N z hi hN h h20 h22
    obtain ⟨N, rfl⟩ : ∃ M, N = M + 1 := ⟨N - 1, by omega⟩
    have e : i = m := by omega
    subst e
    refine ⟨z, ?_, h, fun _ _ _ => rfl⟩
    rw [lX2_findFewest_86.eq_2]
    simp (disch := omega) only [nI_leI, if_pos, lit]
  | succ d ih =>
    intro i N z hi hN h h20 h22
    obtain ⟨N, rfl⟩ : ∃ M, N = M + 1 := ⟨N - 1, by omega⟩
    have e22 := h22 i (by omega)
    have ec := hc i (by omega)
    have e20 := h20 (c i) ec
    obtain ⟨z1, a1, a2, a3⟩ := cadd_ok h (by rw [Kl_len]; omega) (s := L.getD (c i) 0)
    obtain ⟨z2, b1, b2, b3⟩ := ih (i + 1) N z1 (by omega) (by omega) a2 (by rw [a3 20 (by omega) (by omega)]; exact h20) (by unfold XPk; rw [a3 22 (by omega) (by omega)]; exact h22)
    refine ⟨z2, ?_, b2, fun j h1 h2 => (b3 j h1 h2).trans (a3 j h1 h2)⟩
    rw [lX2_findFewest_86.eq_2]
    simp (disch := omega) only [nI_leI, if_neg, inb_t, gd_t, rd_nI, e22, e20, a1, bp_s, bnd_s, lit, nI_add]
    exact b1
theorem core174 (hm : m ≤ 100) (hn : n ≤ 100) (hc : ∀ k, k < m → c k < n) : ∀ (d i N : Nat) (z : fS), i + d = m → d < N → (∀ k, k < i → z 18 k = nI (L.getD (c k) 0)) → (∀ k, k < n → z 22 k = nI (L.getD k 0)) → (∀ k, k < m → z 23 k = nI (c k)) → ∃ z', lX9_least_174 (nI m) N (nI i) z = some (nI m, wrr z' 0 (upd (z' 0) 26 (nI 0))) ∧ (∀ k, k < m → z' 18 k = nI (L.getD (c k) 0)) ∧ (∀ j, j ≠ 18 → z' j = z j) := by
  intro d
  induction d with
  | zero =>
    intro i N z hi hN h h22 h23
    obtain ⟨N, rfl⟩ : ∃ M, N = M + 1 := ⟨N - 1, by omega⟩
    have e : i = m := by omega
    subst e
    refine ⟨z, ?_, h, fun _ _ => rfl⟩
    rw [lX9_least_174.eq_2]
    simp (disch := omega) only [nI_leI, if_pos, doneM, bd_s]
  | succ d ih =>
    intro i N z hi hN h h22 h23
    obtain ⟨N, rfl⟩ : ∃ M, N = M + 1 := ⟨N - 1, by omega⟩
    have e23 := h23 i (by omega)
    have ec := hc i (by omega)
    have e22 := h22 (c i) ec
    obtain ⟨z2, b1, b2, b3⟩ := ih (i + 1) N (wrr z 18 (upd (z 18) i (nI (L.getD (c i) 0)))) (by omega) (by omega) (fun k hk => by
      rw [wrr_e]
      by_cases q : k = i
      · rw [q, upd_e]
      · rw [upd_n q]; exact h k (by omega)) (by rw [wrr_n (by omega)]; exact h22) (by rw [wrr_n (by omega)]; exact h23)
    refine ⟨z2, ?_, b2, fun j h1 => (b3 j h1).trans (wrr_n h1)⟩
    rw [lX9_least_174.eq_2]
    simp (disch := omega) only [nI_leI, if_neg, inb_t, gd_t, rd_nI, e23, e22, wr_nI, bnd_s, lit, nI_add]
    exact b1
end LOCK
theorem s_least : st_least Rel := by
  intro i zX zM a b v _ ⟨h0, T, S, tk, lv, rm, ps, pt, h⟩
  unfold fX8_least fX9_least
  rcases has_ok h a with ⟨x1, x2⟩ | ⟨m, m1, rfl, x1, x2⟩
  · refine ⟨-(nI 1), _, _, ?_, ?_, h.fin (nI 1)⟩
    · simp only [x1, bp_s, lit, if_true, refX, bd_s]
    · simp only [x2, bp_s, lit, if_true, refM, bd_s]
  · rcases has_ok h b with ⟨y1, y2⟩ | ⟨n, n1, rfl, y1, y2⟩
    · refine ⟨-(nI 1), _, _, ?_, ?_, h.fin (nI 1)⟩
      · simp (disch := omega) only [x1, y1, bp_s, lit, nI_eq, if_neg, if_true, refX, bd_s]
      · simp (disch := omega) only [x2, y2, bp_s, lit, nI_eq, if_neg, if_true, refM, bd_s]
    · by_cases v1 : v < nI 1
      · refine ⟨-(nI 1), _, _, ?_, ?_, h.fin (nI 1)⟩
        · simp (disch := omega) only [x1, y1, bp_s, lit, nI_eq, if_neg, v1, if_true, refX, bd_s]
        · simp (disch := omega) only [x2, y2, bp_s, lit, nI_eq, if_neg, v1, if_true, refM, bd_s]
      · by_cases v2 : v ≤ nI 500
        · obtain ⟨tt, t1, t2⟩ : ∃ tt, tt ≤ 500 ∧ v = nI tt := nI_of2 (n := 500) (by decide) (fun q => v1 (by rw [Int32.lt_iff_toInt_lt] at q ⊢; have e1 : (nI 1).toInt = 1 := (by decide); have e2 : (0 : Int32).toInt = 0 := (by decide); omega)) v2
          subst t2
          obtain ⟨g1, g2, r, g3, g4⟩ := stand_ok h m1 n1
          have h' := h
          obtain ⟨h1, h2, h3, h4, h5⟩ := h'
          have hW := h1.1.1
          have ht := h3.2.1.1
          have hcon := h3.2.1.2
          have hl := h3.1.1
          have hcl := cnt_le tk S.length
          have hnu := h1.2.2.1.num
          obtain ⟨r', zM1, w1, w2, w3, w4⟩ := areOne_ok hW h3.1 ht h2 m1 n1
          have hb := h.mf w3 w4
          simp (disch := omega) only [x1, y1, x2, y2, bp_s, lit, nI_eq, if_neg, v1, v2, if_true, if_false, g1, g2, g3, w1, bd_s]
          rcases g4 with ⟨rfl, g4⟩ | ⟨rfl, g4⟩
          · have hr : r' = 1 := by rcases w2 with ⟨q, _⟩ | ⟨_, q⟩; exact q; exact absurd g4 q
            subst hr
            obtain ⟨xp, p1, p2, p3⟩ := fillPool_ok hW h3.1 h1.xt
            obtain ⟨yp, q1, q2, q3⟩ := mpool_loop (T := T) h3.1 (k93 := jX9_least_93 (nI m) (nI n) (nI tt)) (v1 := nI m) (v2 := nI n) (v3 := nI tt) S.length 0 FU zM1 (by omega) (by have := FU_ge; omega) w3.2.1 (fun k hk => by simp [cnt] at hk)
            have hx0 : LX T S tk pt zX xp := ⟨h1.ag.fr fun j _ _ => p3 j (by omega) (by omega), p2, fun j e1 e2 => p3 j (by omega) (by omega)⟩
            have hy0 : LM T S tk zM1 yp := ⟨RM.fr hl w3 (fun f _ => by rw [q3 0 (by omega)]) (fun j _ _ => q3 j (by omega)) (q3 20 (by omega)), q2, fun j e1 e2 => q3 j (by omega), fun f _ => by rw [q3 0 (by omega)]⟩
            have sc : ∀ {x' y' : fS}, LX T S tk pt zX x' → LM T S tk zM1 y' → RQ i T S tk lv rm ps pt x' y' := fun {x' y'} hx hy => hb.sc hx.1 (fun j hj => hx.2.2 j (by omega) (by omega)) hy.1 (fun j e1 e2 => hy.2.2.1 j (by omega) (by omega)) (fun f e1 _ _ => hy.2.2.2 f e1)
            have q1' : lX9_least_56 (jX9_least_93 (nI m) (nI n) (nI tt)) (nI m) (nI n) (nI tt) FU (nI 0) (nI 0) zM1 = jX9_least_93 (nI m) (nI n) (nI tt) (nI (cnt tk S.length)) yp := q1
            unfold fX2_findFewest
            simp (disch := omega) only [lit, if_neg, p1, bd_s, q1']
            unfold jX9_least_93
            simp only [lit]
            rcases lock_out hW h3.1 ht hcon m1 n1 h1.xt rfl rfl t1 (k78 := jX2_findFewest_78 71) (k165 := jX9_least_165) (cnt tk S.length + 1) FU 0 0 xp yp (by omega) (by have := FU_ge; omega) (by omega) (fun q => absurd q (by omega)) hx0 hy0 with ⟨u, c, x', y', e1, e2, e3, e4, e5, e6, e7, e8⟩ | ⟨x', y', e1, e2, e3, e4⟩
            · obtain ⟨xc, c1, c2, c3⟩ := cclear_ok x' 71
              obtain ⟨xd, d1, d2, d3⟩ := core86 (L := pl tk S.length) (n := cnt tk S.length) (m := u) (c := c) (by omega) (by omega) e6.2 u 0 FU xc (by omega) (by have := FU_ge; omega) c2 (by rw [c3 20 (by omega)]; exact fun k hk => (e2.2.1 k hk).1) (by unfold XPk; rw [c3 22 (by omega)]; exact e4)
              obtain ⟨yd, f1, f2, f3⟩ := core174 (L := pl tk S.length) (n := cnt tk S.length) (m := u) (c := c) (by omega) (by omega) e6.2 u 0 FU (wrr y' 0 (upd (y' 0) 24 (nI u))) (by omega) (by have := FU_ge; omega) (fun k hk => by omega) (by rw [wrr_n (by omega)]; exact e3.2.1) (by rw [wrr_n (by omega)]; exact e5)
              have hR : RM T S tk yd := RM.fr hl e3.1 (fun f hf => by rw [f3 0 (by omega), wrr_e, upd_n (by omega)]) (fun j _ _ => by rw [f3 j (by omega), wrr_n (by omega)]) (by rw [f3 20 (by omega), wrr_n (by omega)])
              have hq := (sc e2 e3).core (z := xd) (z' := yd) (cell := 71) (c2 := 18) (fld := 24) (e2.1.fr fun j _ _ => by rw [d3 j (by omega) (by omega), c3 j (by omega)]) (Or.inr ⟨rfl, rfl, rfl⟩) (fun j _ _ _ _ g1 g2 => by rw [d3 j g1 g2, c3 j g1]) hR ⟨fun j g0 _ _ _ g1 => by rw [f3 j g1, wrr_n g0], fun j s g1 _ => by rw [f3 j (by omega), wrr_n (by omega)], fun g _ g1 => by rw [f3 0 (by omega), wrr_e, upd_n g1]⟩ d2 ⟨by rw [f3 0 (by omega), wrr_e, upd_e, Kl_len], by rw [Kl_len]; omega, fun j hj => by rw [Kl_len] at hj; rw [Kl_get hj]; exact f2 j hj⟩
              refine ⟨nI u, _, _, ?_, ?_, hq.fin (nI 0)⟩
              · rw [e7]
                unfold jX2_findFewest_78
                simp (disch := omega) only [c1, bp_s, lit, d1, bd_s, nI_eq, if_neg, ccount_ok d2, Kl_len, doneX]
              · rw [Nat.sub_zero] at e8
                rw [e8]
                unfold jX9_least_165
                simp only [wf_w, bnd_s, lit, f1]
            · refine ⟨-(nI 1), _, _, ?_, ?_, (sc e1 e2).fin (nI 7)⟩
              · rw [e3]
                simp only [bd_s, lit, if_true, refX]
              · rw [Nat.sub_zero] at e4
                exact e4
          · have hr : r' = 0 := by rcases w2 with ⟨_, q⟩ | ⟨q, _⟩; exact absurd q g4; exact q
            subst hr
            refine ⟨-(nI 1), _, _, ?_, ?_, hb.fin (nI 6)⟩
            · simp only [if_true, refX, bd_s]
            · simp only [if_true, refM, bd_s]
        · refine ⟨-(nI 1), _, _, ?_, ?_, h.fin (nI 1)⟩
          · simp (disch := omega) only [x1, y1, bp_s, lit, nI_eq, if_neg, v1, v2, if_false, refX, bd_s]
          · simp (disch := omega) only [x2, y2, bp_s, lit, nI_eq, if_neg, v1, v2, if_false, refM, bd_s]
end
section
/-! what an instance is -/
def hix (tm : Tm) : Nat := hbit tm / 2
def imgs (g : Nat → List Tm → Option (Nat × List Tm)) : List Nat → List Tm → Option (List Nat × List Tm)
  | [], T => some ([], T)
  | p :: l, T => match g p T with
    | none => none
    | some (r, T1) => match imgs g l T1 with
      | none => none
      | some (rs, T2) => some (r :: rs, T2)
noncomputable def img (T0 : List Tm) (f : Nat → Nat) : Nat → Nat → List Tm → Option (Nat × List Tm)
  | 0, _, _ => none
  | n + 1, t, T => if hbit (gT T0 t) = 0 then (match imgs (img T0 f n) (pts T0 t) T with
      | none => none
      | some (l, T1) => mkT T1 (kd T0 t, sh T0 t, l)) else some (f (hix (gT T0 t)), T)
noncomputable def In (T0 : List Tm) (f : Nat → Nat) (t : Nat) (T : List Tm) : Option (Nat × List Tm) := img T0 f (t + 1) t T
def Gd (T0 T : List Tm) : Prop := (∃ R, T = T0 ++ R) ∧ WT T ∧ Uq T
theorem imgs_cong {g g' : Nat → List Tm → Option (Nat × List Tm)} : ∀ (l : List Nat) (T : List Tm), (∀ p, p ∈ l → ∀ T, g p T = g' p T) → imgs g l T = imgs g' l T
  | [], _, _ => rfl
  | p :: l, T, h => by
    unfold imgs
    rw [h p List.mem_cons_self T]
    cases g' p T with
    | none => rfl
    | some q =>
      obtain ⟨r, T1⟩ := q
      show (match imgs g l T1 with | none => none | some (rs, T2) => some (r :: rs, T2)) = (match imgs g' l T1 with | none => none | some (rs, T2) => some (r :: rs, T2))
      rw [imgs_cong l T1 fun p hp => h p (List.mem_cons_of_mem _ hp)]
section IMG
variable {T0 T T' : List Tm} {f : Nat → Nat} {t u r : Nat} {tm : Tm}
theorem pts_lt (hW : WT T0) (ht : t < T0.length) {p : Nat} (hp : p ∈ pts T0 t) : p < t := (hW.ok ht).2.1 p hp
theorem img_fuel (hW : WT T0) : ∀ (n m t : Nat) (T : List Tm), t < T0.length → t < n → t < m → img T0 f n t T = img T0 f m t T := by
  intro n
  induction n with
  | zero => intro m t T _ h; omega
  | succ n ih =>
    intro m t T ht h1 h2
    obtain ⟨m, rfl⟩ : ∃ M, m = M + 1 := ⟨m - 1, by omega⟩
    show (if hbit (gT T0 t) = 0 then _ else _) = (if hbit (gT T0 t) = 0 then _ else _)
    by_cases q : hbit (gT T0 t) = 0
    · rw [if_pos q, if_pos q, imgs_cong (g := img T0 f n) (g' := img T0 f m) (pts T0 t) T fun p hp T => ih m p T (by have := pts_lt hW ht hp; omega) (by have := pts_lt hW ht hp; omega) (by have := pts_lt hW ht hp; omega)]
    · rw [if_neg q, if_neg q]
theorem In_eq (hW : WT T0) (ht : t < T0.length) (q : hbit (gT T0 t) = 0) (T : List Tm) : In T0 f t T = match imgs (In T0 f) (pts T0 t) T with
    | none => none
    | some (l, T1) => mkT T1 (kd T0 t, sh T0 t, l) := by
  show (if hbit (gT T0 t) = 0 then _ else _) = _
  rw [if_pos q, imgs_cong (g := img T0 f t) (g' := In T0 f) (pts T0 t) T fun p hp T => by
    have := pts_lt hW ht hp
    exact img_fuel hW t (p + 1) p T (by omega) this (by omega)]
theorem In_hole (q : hbit (gT T0 t) ≠ 0) (T : List Tm) : In T0 f t T = some (f (hix (gT T0 t)), T) := by
  show (if hbit (gT T0 t) = 0 then _ else _) = _
  rw [if_neg q]
theorem hix_lt (tm : Tm) : hix tm < 3 := by
  unfold hix
  rcases hbit_cases tm with h | ⟨_, ⟨_, h⟩ | ⟨_, h⟩ | ⟨_, h⟩⟩ <;> omega
theorem hix_sub (q : hbit tm ≠ 0) : tm.2.1 - nI 90 = nI (hix tm) := by
  unfold hix
  rcases hbit_cases tm with h | ⟨_, ⟨e, h⟩ | ⟨e, h⟩ | ⟨e, h⟩⟩
  · exact absurd h q
  · rw [e, h, nI_sub (by omega)]
  · rw [e, h, nI_sub (by omega)]
  · rw [e, h, nI_sub (by omega)]
theorem mkT_good (h : Gd T0 T) (ho : OkT T.length tm) (e : mkT T tm = some (r, T')) : Gd T0 T' ∧ (∃ R, T' = T ++ R) ∧ r < T'.length ∧ gT T' r = tm := by
  obtain ⟨⟨R, hR⟩, hW, hU⟩ := h
  by_cases q : ∃ t, t < T.length ∧ gT T t = tm
  · obtain ⟨t, t1, t2⟩ := q
    rw [mkT_old hU t1 t2] at e
    cases e
    exact ⟨⟨⟨R, hR⟩, hW, hU⟩, ⟨[], by simp⟩, t1, t2⟩
  · have q' : ∀ t, t < T.length → gT T t ≠ tm := fun t h1 h2 => q ⟨t, h1, h2⟩
    by_cases w : T.length < 120
    · rw [mkT_new q' w] at e
      cases e
      refine ⟨⟨⟨R ++ [tm], by rw [hR, List.append_assoc]⟩, hW.add w ho, ?_⟩, ⟨[tm], rfl⟩, by simp, gT_r⟩
      intro a b ha hb hab
      have la : a ≤ T.length := by simp at ha; omega
      have lb : b ≤ T.length := by simp at hb; omega
      rcases Nat.eq_or_lt_of_le la with rfl | la
      · rcases Nat.eq_or_lt_of_le lb with rfl | lb
        · rfl
        · rw [gT_r, gT_l lb] at hab
          exact absurd hab.symm (q' b lb)
      · rcases Nat.eq_or_lt_of_le lb with rfl | lb
        · rw [gT_r, gT_l la] at hab
          exact absurd hab (q' a la)
        · rw [gT_l la, gT_l lb] at hab
          exact hU a b la lb hab
    · rw [mkT_full q' w] at e
      cases e
theorem Gd.le (h : Gd T0 T) : T0.length ≤ T.length := by
  obtain ⟨⟨R, rfl⟩, _⟩ := h
  simp
theorem Gd.gt (h : Gd T0 T) (ht : t < T0.length) : gT T t = gT T0 t := by
  obtain ⟨⟨R, rfl⟩, _⟩ := h
  exact gT_l ht
/-- what parts become is fit for what they are parts of -/
theorem okT_map (hW : WT T0) (ht : t < T0.length) {l : List Nat} {n : Nat} (hl : l.length = (pts T0 t).length) (hn : ∀ p, p ∈ l → p < n) : OkT n (kd T0 t, sh T0 t, l) := by
  obtain ⟨h1, h2, h3, h4, h5, h6⟩ := hW.ok ht
  refine ⟨?_, hn, ?_, ?_, ?_, ?_⟩
  · show l.length ≤ 3; rw [hl]; exact h1
  · intro e; show l.length = 2; rw [hl]; exact h3 e
  · intro e; show l.length = 2; rw [hl]; exact h4 e
  · intro e; show l.length = 0; rw [hl]; exact h5 e
  · intro e; show l.length = 0; rw [hl]; exact h6 e
theorem imgs_cons {g : Nat → List Tm → Option (Nat × List Tm)} {p : Nat} {l rs : List Nat} (h : imgs g (p :: l) T = some (rs, T')) : ∃ r rs' T1, g p T = some (r, T1) ∧ imgs g l T1 = some (rs', T') ∧ rs = r :: rs' := by
  unfold imgs at h
  cases q : g p T with
  | none => rw [q] at h; cases h
  | some w =>
    obtain ⟨r, T1⟩ := w
    rw [q] at h
    cases q2 : imgs g l T1 with
    | none => simp only [q2] at h; cases h
    | some w2 =>
      obtain ⟨rs', T2⟩ := w2
      simp only [q2] at h
      cases h
      exact ⟨r, rs', T1, rfl, q2, rfl⟩
theorem imgs_good {l : List Nat} (hg : ∀ p, p ∈ l → ∀ T r T', Gd T0 T → In T0 f p T = some (r, T') → Gd T0 T' ∧ (∃ R, T' = T ++ R) ∧ r < T'.length) : ∀ (T : List Tm) (rs : List Nat) (T' : List Tm), Gd T0 T → imgs (In T0 f) l T = some (rs, T') → Gd T0 T' ∧ (∃ R, T' = T ++ R) ∧ rs.length = l.length ∧ ∀ x, x ∈ rs → x < T'.length := by
  induction l with
  | nil =>
    intro T rs T' hT h
    unfold imgs at h
    cases h
    exact ⟨hT, ⟨[], by simp⟩, rfl, fun x hx => by cases hx⟩
  | cons p l ih =>
    intro T rs T' hT h
    obtain ⟨r, rs', T1, h1, h2, rfl⟩ := imgs_cons h
    obtain ⟨g1, ⟨R1, e1⟩, g3⟩ := hg p List.mem_cons_self T r T1 hT h1
    obtain ⟨i1, ⟨R2, e2⟩, i3, i4⟩ := ih (fun q hq => hg q (List.mem_cons_of_mem _ hq)) T1 rs' T' g1 h2
    have hl : T1.length ≤ T'.length := by rw [e2]; simp
    refine ⟨i1, ⟨R1 ++ R2, by rw [e2, e1, List.append_assoc]⟩, by simp [i3], fun x hx => ?_⟩
    rcases List.mem_cons.mp hx with rfl | hx
    · omega
    · exact i4 x hx
theorem In_good (hW : WT T0) (hf : ∀ h, h < 3 → f h < T0.length) : ∀ (n t : Nat), t < n → t < T0.length → ∀ (T : List Tm) (r : Nat) (T' : List Tm), Gd T0 T → In T0 f t T = some (r, T') → Gd T0 T' ∧ (∃ R, T' = T ++ R) ∧ r < T'.length := by
  intro n
  induction n with
  | zero => intro t h; omega
  | succ n ih =>
    intro t hn ht T r T' hT h
    by_cases q : hbit (gT T0 t) = 0
    · rw [In_eq hW ht q] at h
      cases q2 : imgs (In T0 f) (pts T0 t) T with
      | none => rw [q2] at h; cases h
      | some w =>
        obtain ⟨l, T1⟩ := w
        rw [q2] at h
        obtain ⟨g1, ⟨R1, e1⟩, g3, g4⟩ := imgs_good (fun p hp => ih p (by have := pts_lt hW ht hp; omega) (by have := pts_lt hW ht hp; omega)) T l T1 hT q2
        obtain ⟨m1, ⟨R2, e2⟩, m3, _⟩ := mkT_good g1 (okT_map hW ht g3 g4) h
        exact ⟨m1, ⟨R1 ++ R2, by rw [e2, e1, List.append_assoc]⟩, m3⟩
    · rw [In_hole q] at h
      cases h
      have := hT.le
      have := hf _ (hix_lt (gT T0 t))
      exact ⟨hT, ⟨[], by simp⟩, by omega⟩
theorem imgs_set {l : List Nat} (hg : ∀ p, p ∈ l → ∀ T r T', Gd T0 T → In T0 f p T = some (r, T') → (Gd T0 T' ∧ (∃ R, T' = T ++ R)) ∧ ∀ T2, Gd T0 T2 → (∃ R, T2 = T' ++ R) → In T0 f p T2 = some (r, T2)) : ∀ (T : List Tm) (rs : List Nat) (T' : List Tm), Gd T0 T → imgs (In T0 f) l T = some (rs, T') → (∃ R, T' = T ++ R) ∧ ∀ T2, Gd T0 T2 → (∃ R, T2 = T' ++ R) → imgs (In T0 f) l T2 = some (rs, T2) := by
  induction l with
  | nil =>
    intro T rs T' hT h
    unfold imgs at h
    cases h
    exact ⟨⟨[], by simp⟩, fun T2 _ _ => rfl⟩
  | cons p l ih =>
    intro T rs T' hT h
    obtain ⟨r, rs', T1, h1, h2, rfl⟩ := imgs_cons h
    obtain ⟨⟨g1, R1, e1⟩, g3⟩ := hg p List.mem_cons_self T r T1 hT h1
    obtain ⟨⟨R2, e2⟩, i2⟩ := ih (fun q hq => hg q (List.mem_cons_of_mem _ hq)) T1 rs' T' g1 h2
    refine ⟨⟨R1 ++ R2, by rw [e2, e1, List.append_assoc]⟩, fun T2 hT2 hR => ?_⟩
    obtain ⟨R, e⟩ := hR
    have w1 := g3 T2 hT2 ⟨R2 ++ R, by rw [e, e2, List.append_assoc]⟩
    have w2 := i2 T2 hT2 ⟨R, e⟩
    unfold imgs
    simp only [w1, w2]
/-- once made, it is there -/
theorem In_set (hW : WT T0) (hf : ∀ h, h < 3 → f h < T0.length) : ∀ (n t : Nat), t < n → t < T0.length → ∀ (T : List Tm) (r : Nat) (T' : List Tm), Gd T0 T → In T0 f t T = some (r, T') → ∀ T2, Gd T0 T2 → (∃ R, T2 = T' ++ R) → In T0 f t T2 = some (r, T2) := by
  intro n
  induction n with
  | zero => intro t h; omega
  | succ n ih =>
    intro t hn ht T r T' hT h T2 hT2 hR
    by_cases q : hbit (gT T0 t) = 0
    · rw [In_eq hW ht q] at h ⊢
      cases q2 : imgs (In T0 f) (pts T0 t) T with
      | none => rw [q2] at h; cases h
      | some w =>
        obtain ⟨l, T1⟩ := w
        rw [q2] at h
        obtain ⟨g1, ⟨R1, e1⟩, g3, g4⟩ := imgs_good (fun p hp => In_good hW hf (p + 1) p (by omega) (by have := pts_lt hW ht hp; omega)) T l T1 hT q2
        obtain ⟨m1, ⟨R2, e2⟩, m3, m4⟩ := mkT_good g1 (okT_map hW ht g3 g4) h
        obtain ⟨_, s2⟩ := imgs_set (fun p hp T r T' hT h => by
          have hp' := pts_lt hW ht hp
          obtain ⟨a1, a2, _⟩ := In_good hW hf (p + 1) p (by omega) (by omega) T r T' hT h
          exact ⟨⟨a1, a2⟩, ih p (by omega) (by omega) T r T' hT h⟩) T l T1 hT q2
        obtain ⟨R, e⟩ := hR
        rw [s2 T2 hT2 ⟨R2 ++ R, by rw [e, e2, List.append_assoc]⟩]
        show mkT T2 _ = _
        refine mkT_old hT2.2.2 (by rw [e]; simp; omega) ?_
        rw [e, gT_l m3]
        exact m4
    · rw [In_hole q] at h ⊢
      cases h
      rfl
/-- parts that are there are passed over -/
theorem imgs_skip {g : Nat → Nat} : ∀ (l : List Nat), (∀ p, p ∈ l → In T0 f p T = some (g p, T)) → imgs (In T0 f) l T = some (l.map g, T)
  | [], _ => rfl
  | p :: l, h => by
    unfold imgs
    rw [h p List.mem_cons_self]
    show (match imgs (In T0 f) l T with | none => none | some (rs, T2) => some (g p :: rs, T2)) = _
    rw [imgs_skip l fun q hq => h q (List.mem_cons_of_mem _ hq)]
    rfl
theorem In_all (hW : WT T0) (ht : t < T0.length) (q : hbit (gT T0 t) = 0) {g : Nat → Nat} (h : ∀ p, p ∈ pts T0 t → In T0 f p T = some (g p, T)) : In T0 f t T = mkT T (kd T0 t, sh T0 t, (pts T0 t).map g) := by
  rw [In_eq hW ht q, imgs_skip _ h]
theorem imgs_step {p r : Nat} {g : Nat → Nat} (h1 : In T0 f p T = some (r, T')) (h2 : In T0 f p T' = some (r, T')) : ∀ (l : List Nat) (i : Nat), i < l.length → l.getD i 0 = p → (∀ j, j < i → In T0 f (l.getD j 0) T = some (g (l.getD j 0), T) ∧ In T0 f (l.getD j 0) T' = some (g (l.getD j 0), T')) → imgs (In T0 f) l T = imgs (In T0 f) l T'
  | [], i, hi, _, _ => by simp at hi
  | q :: l, 0, _, hp, _ => by
    have e : q = p := hp
    subst e
    unfold imgs
    rw [h1, h2]
  | q :: l, i + 1, hi, hp, h => by
    have h0 := h 0 (by omega)
    have e0 : (q :: l).getD 0 0 = q := rfl
    rw [e0] at h0
    have ih := imgs_step h1 h2 l i (by simpa using hi) hp fun j hj => h (j + 1) (by omega)
    unfold imgs
    rw [h0.1, h0.2]
    show (match imgs (In T0 f) l T with | none => none | some (rs, T2) => some (g q :: rs, T2)) = (match imgs (In T0 f) l T' with | none => none | some (rs, T2) => some (g q :: rs, T2))
    rw [ih]
theorem imgs_stop {p : Nat} {g : Nat → Nat} (h1 : In T0 f p T = none) : ∀ (l : List Nat) (i : Nat), i < l.length → l.getD i 0 = p → (∀ j, j < i → In T0 f (l.getD j 0) T = some (g (l.getD j 0), T)) → imgs (In T0 f) l T = none
  | [], i, hi, _, _ => by simp at hi
  | q :: l, 0, _, hp, _ => by
    have e : q = p := hp
    subst e
    unfold imgs
    rw [h1]
  | q :: l, i + 1, hi, hp, h => by
    have h0 := h 0 (by omega)
    have e0 : (q :: l).getD 0 0 = q := rfl
    rw [e0] at h0
    have ih := imgs_stop h1 l i (by simpa using hi) hp fun j hj => h (j + 1) (by omega)
    unfold imgs
    rw [h0]
    show (match imgs (In T0 f) l T with | none => none | some (rs, T2) => some (g q :: rs, T2)) = _
    rw [ih]
/-- one part more has been seen to -/
theorem In_step (hW : WT T0) (hf : ∀ h, h < 3 → f h < T0.length) (hT : Gd T0 T) (hu : u < T0.length) (q : hbit (gT T0 u) = 0) {i : Nat} (hi : i < sz T0 u) {g : Nat → Nat} (hg : ∀ j, j < i → In T0 f (pt T0 u j) T = some (g (pt T0 u j), T)) (h : In T0 f (pt T0 u i) T = some (r, T')) : In T0 f u T = In T0 f u T' := by
  have hp : ∀ j, j < sz T0 u → pt T0 u j < u := (hW.2 u hu).2.1
  have hpi := hp i hi
  obtain ⟨g1, g2, _⟩ := In_good hW hf _ _ (Nat.lt_succ_self _) (by omega) T r T' hT h
  rw [In_eq hW hu q, In_eq hW hu q, imgs_step h (In_set hW hf _ _ (Nat.lt_succ_self _) (by omega) T r T' hT h T' g1 ⟨[], by simp⟩) (pts T0 u) i hi rfl fun j hj => ⟨hg j hj, In_set hW hf _ _ (Nat.lt_succ_self _) (by have := hp j (by omega); omega) T _ T hT (hg j hj) T' g1 g2⟩]
theorem In_stop (hW : WT T0) (hu : u < T0.length) (q : hbit (gT T0 u) = 0) {i : Nat} (hi : i < sz T0 u) {g : Nat → Nat} (hg : ∀ j, j < i → In T0 f (pt T0 u j) T = some (g (pt T0 u j), T)) (h : In T0 f (pt T0 u i) T = none) : In T0 f u T = none := by
  rw [In_eq hW hu q, imgs_stop h (pts T0 u) i hi rfl hg]
theorem orl_0 {H : Nat → Nat} : ∀ {l : List Nat} {m : Nat}, orl H l m = 0 → m = 0 ∧ ∀ p, p ∈ l → H p = 0
  | [], m, h => ⟨h, fun p hp => by cases hp⟩
  | q :: l, m, h => by
    obtain ⟨h1, h2⟩ := orl_0 (l := l) (m := m ||| H q) h
    have h3 : m = 0 ∧ H q = 0 := Nat.or_eq_zero_iff.mp h1
    refine ⟨h3.1, fun p hp => ?_⟩
    rcases List.mem_cons.mp hp with rfl | hp
    · exact h3.2
    · exact h2 p hp
/-- a term in which no hole stands is its own instance -/
theorem In_free (hW : WT T0) (hT : Gd T0 T) {H : Nat → Nat} (hH : IsH T H) : ∀ (n t : Nat), t < n → t < T0.length → H t = 0 → In T0 f t T = some (t, T) := by
  intro n
  induction n with
  | zero => intro t h; omega
  | succ n ih =>
    intro t hn ht h0
    have hl := hT.le
    have hh := (hH t (by omega)).1
    rw [h0] at hh
    obtain ⟨b1, b2⟩ := orl_0 hh.symm
    have eg := hT.gt ht
    have ep : pts T t = pts T0 t := congrArg (fun x : Tm => x.2.2) eg
    rw [ep] at b2
    rw [eg] at b1
    rw [In_all hW ht b1 (g := fun p => p) fun p hp => ih p (by have := pts_lt hW ht hp; omega) (by have := pts_lt hW ht hp; omega) (b2 p hp), List.map_id' (pts T0 t)]
    exact mkT_old hT.2.2 (by omega) eg
end IMG
end
section
/-! the class makes an instance -/
noncomputable def gI (T0 : List Tm) (f : Nat → Nat) (T : List Tm) (p : Nat) : Nat := ((In T0 f p T).getD (0, [])).1
theorem gI_of {T0 T T' : List Tm} {f : Nat → Nat} {p r : Nat} (h : In T0 f p T = some (r, T')) : gI T0 f T p = r := by unfold gI; rw [h]; rfl
def XI (T0 : List Tm) (f : Nat → Nat) (tu : Nat) (T : List Tm) (z : fS) : Prop := Gd T0 T ∧ HX T z ∧ z 58 5 = nI tu ∧ (∀ h, h < 3 → z 62 h = nI (f h)) ∧ ∀ t, t < T0.length → z 60 t = nI tu → ∃ r, z 59 t = nI r ∧ In T0 f t T = some (r, T)
def Uk (T0 : List Tm) (H0 : Nat → Nat) (tu t : Nat) (z : fS) : Prop := z 60 t ≠ nI tu ∧ hbit (gT T0 t) = 0 ∧ H0 t ≠ 0
def xU (T0 : List Tm) (tu : Nat) (z : fS) : Nat := cnt (fun t => decide (z 60 t ≠ nI tu)) T0.length
def Mf (tu : Nat) (z z' : fS) : Prop := (∀ j, j = 0 ∨ (11 ≤ j ∧ j ≠ 59 ∧ j ≠ 60 ∧ j ≠ 61) → z' j = z j) ∧ ∀ t, z' 60 t = z 60 t ∨ z' 60 t = nI tu
section XIN
variable {T0 T T' : List Tm} {f H0 : Nat → Nat} {tu t u : Nat} {z z' z1 z2 : fS}
theorem Mf.tr (h : Mf tu z z1) (g : Mf tu z1 z2) : Mf tu z z2 := by
  refine ⟨fun j hj => (g.1 j hj).trans (h.1 j hj), fun t => ?_⟩
  rcases g.2 t with q | q
  · rw [q]; exact h.2 t
  · exact Or.inr q
theorem IsH_uniq (hW : WT T0) (hT : Gd T0 T) {H : Nat → Nat} (hH0 : IsH T0 H0) (hH : IsH T H) : ∀ (n t : Nat), t < n → t < T0.length → H t = H0 t := by
  intro n
  induction n with
  | zero => intro t h; omega
  | succ n ih =>
    intro t hn ht
    have hl := hT.le
    have eg := hT.gt ht
    have ep : pts T t = pts T0 t := congrArg (fun x : Tm => x.2.2) eg
    rw [(hH t (by omega)).1, (hH0 t ht).1, ep, eg]
    exact orl_cong _ _ fun p hp => ih p (by have := pts_lt hW ht hp; omega) (by have := pts_lt hW ht hp; omega)
theorem XI.fr (h : XI T0 f tu T z) (e : ∀ j, j ≠ 61 → z' j = z j) : XI T0 f tu T z' := by
  obtain ⟨h1, h2, h3, h4, h5⟩ := h
  refine ⟨h1, h2.fr fun j hj => e j (by omega), ?_, ?_, ?_⟩
  · rw [e 58 (by omega)]; exact h3
  · rw [e 62 (by omega)]; exact h4
  · rw [e 59 (by omega), e 60 (by omega)]; exact h5
theorem XI.rd (h : XI T0 f tu T z) (hW : WT T0) (hH0 : IsH T0 H0) (ht : t < T0.length) : t < 120 ∧ z 2 t = (gT T0 t).1 ∧ z 3 t = (gT T0 t).2.1 ∧ z 6 t = nI (H0 t) ∧ H0 t < 8 ∧ z 4 t = nI (sz T0 t) ∧ ∀ i, i < 3 → z 5 (3 * t + i) = pe (pts T0 t) i := by
  obtain ⟨h1, ⟨hWT, hU, hHT, hHP, hHC, H, hIs, hHB⟩, _⟩ := h
  have hl := h1.le
  have hn := hWT.1
  have e := hHT.2 t (by omega)
  have eg := h1.gt ht
  have ep : pts T t = pts T0 t := congrArg (fun x : Tm => x.2.2) eg
  refine ⟨by omega, e.1.trans (congrArg (fun x : Tm => x.1) eg), e.2.1.trans (congrArg (fun x : Tm => x.2.1) eg), ?_, (hH0 t ht).2, ?_, ?_⟩
  · rw [hHB t (by omega), IsH_uniq hW h1 hH0 hIs (t + 1) t (by omega) ht]
  · rw [e.2.2.1]; show nI (pts T t).length = _; rw [ep]; rfl
  · intro i hi; rw [← ep]; exact pe_parts hHT (by omega) hi
def Kn (T0 : List Tm) (f : Nat → Nat) (T : List Tm) (z : fS) (t : Nat) : Prop := fX3_isKnown z (nI t) = some (nI 1) ∧ fX3_imageOf z (nI t) = some (nI (gI T0 f T t)) ∧ In T0 f t T = some (gI T0 f T t, T)
theorem uk_ok (h : XI T0 f tu T z) (hW : WT T0) (hH0 : IsH T0 H0) (ht : t < T0.length) (hu : Uk T0 H0 tu t z) : fX3_isKnown z (nI t) = some (nI 0) := by
  obtain ⟨r1, r2, r3, r4, r5, _⟩ := h.rd hW hH0 ht
  obtain ⟨u1, u2, u3⟩ := hu
  have e := isHole_v (z := z) r1 r2 r3
  have eb : hoB (gT T0 t) = false := by unfold hoB; rw [u2]; rfl
  rw [eb, bI_f] at e
  unfold fX3_isKnown fX7_holesOf
  simp (disch := omega) only [litm, lit, nI_m1n, if_false, inb_t, gd_t, rd_nI, r4, bp_s, nI_eq, u3, e, if_true, h.2.2.1, u1]
theorem kn_ok (h : XI T0 f tu T z) (hW : WT T0) (hH0 : IsH T0 H0) (ht : t < T0.length) : Kn T0 f T z t ∨ Uk T0 H0 tu t z := by
  obtain ⟨r1, r2, r3, r4, r5, _⟩ := h.rd hW hH0 ht
  have hh := isHole_v (z := z) r1 r2 r3
  obtain ⟨h1, ⟨hWT, hU, hHT, hHP, hHC, H, hIs, hHB⟩, h3, h4, h5⟩ := h
  by_cases q1 : H0 t = 0
  · have hi : In T0 f t T = some (t, T) := In_free hW h1 hIs (t + 1) t (by omega) ht (by rw [IsH_uniq hW h1 hH0 hIs (t + 1) t (by omega) ht]; exact q1)
    refine Or.inl ⟨?_, ?_, ?_⟩
    · unfold fX3_isKnown fX7_holesOf
      simp (disch := omega) only [litm, lit, nI_m1n, if_false, inb_t, gd_t, rd_nI, r4, bp_s, q1, if_true]
    · rw [gI_of hi]
      unfold fX3_imageOf fX7_holesOf
      simp (disch := omega) only [litm, lit, nI_m1n, if_false, inb_t, gd_t, rd_nI, r4, bp_s, q1, if_true]
    · rw [gI_of hi]; exact hi
  · by_cases q2 : hbit (gT T0 t) = 0
    · have eb : hoB (gT T0 t) = false := by unfold hoB; rw [q2]; rfl
      rw [eb, bI_f] at hh
      by_cases q3 : z 60 t = nI tu
      · obtain ⟨r, e1, e2⟩ := h5 t ht q3
        refine Or.inl ⟨?_, ?_, ?_⟩
        · unfold fX3_isKnown fX7_holesOf
          simp (disch := omega) only [litm, lit, nI_m1n, if_false, inb_t, gd_t, rd_nI, r4, bp_s, nI_eq, q1, hh, if_true, h3, q3]
        · rw [gI_of e2]
          unfold fX3_imageOf fX7_holesOf
          simp (disch := omega) only [litm, lit, nI_m1n, if_false, inb_t, gd_t, rd_nI, r4, bp_s, nI_eq, q1, hh, if_true, e1]
        · rw [gI_of e2]; exact e2
      · exact Or.inr ⟨q3, q2, q1⟩
    · have eb : hoB (gT T0 t) = true := by unfold hoB; simp [q2]
      rw [eb, bI_t] at hh
      have hi : In T0 f t T = some (f (hix (gT T0 t)), T) := In_hole q2 T
      have hlt := hix_lt (gT T0 t)
      refine Or.inl ⟨?_, ?_, ?_⟩
      · unfold fX3_isKnown fX7_holesOf
        simp (disch := omega) only [litm, lit, nI_m1n, if_false, inb_t, gd_t, rd_nI, r4, bp_s, nI_eq, q1, hh, if_neg]
      · rw [gI_of hi]
        unfold fX3_imageOf fX7_holesOf fX7_shownBy
        simp (disch := omega) only [litm, lit, nI_m1n, if_false, inb_t, gd_t, rd_nI, r4, bp_s, nI_eq, q1, hh, if_neg, r3, hix_sub q2]
        rw [h4 _ hlt]
      · rw [gI_of hi]; exact hi
theorem open_loop (h : XI T0 f tu T z) (hW : WT T0) (hH0 : IsH T0 H0) (hu : u < T0.length) : ∀ (d i N : Nat), i + d = sz T0 u → d < N → (lX3_openPart_2 z (nI u) N (nI i) = some (-(nI 1)) ∧ ∀ j, i ≤ j → j < sz T0 u → Kn T0 f T z (pt T0 u j)) ∨ ∃ j, i ≤ j ∧ j < sz T0 u ∧ lX3_openPart_2 z (nI u) N (nI i) = some (nI (pt T0 u j)) ∧ Uk T0 H0 tu (pt T0 u j) z ∧ ∀ l, i ≤ l → l < j → Kn T0 f T z (pt T0 u l) := by
  obtain ⟨r1, _, _, _, _, r6, r7⟩ := h.rd hW hH0 hu
  have hs := hW.2 u hu
  have hsz : fX7_sizeOf z (nI u) = some (nI (sz T0 u)) := by
    unfold fX7_sizeOf
    simp (disch := omega) only [inb_t, gd_t, rd_nI, r6]
  intro d
  induction d with
  | zero =>
    intro i N hi hN
    obtain ⟨N, rfl⟩ : ∃ M, N = M + 1 := ⟨N - 1, by omega⟩
    refine Or.inl ⟨?_, fun j h1 h2 => by omega⟩
    rw [lX3_openPart_2.eq_2]
    simp (disch := omega) only [hsz, bp_s, nI_leI, if_pos, litm]
  | succ d ih =>
    intro i N hi hN
    obtain ⟨N, rfl⟩ : ∃ M, N = M + 1 := ⟨N - 1, by omega⟩
    have hp := hs.2.1 i (by omega)
    have hpo : fX7_partOf z (nI u) (nI i) = some (nI (pt T0 u i)) := by
      unfold fX7_partOf
      simp (disch := omega) only [lit, nI_mul, nI_add, inb_t, gd_t, rd_nI]
      rw [r7 i (by omega)]
      unfold pe
      rw [if_pos (show i < (pts T0 u).length from (by show i < sz T0 u; omega))]
      rfl
    rw [lX3_openPart_2.eq_2]
    rcases kn_ok h hW hH0 (t := pt T0 u i) (by omega) with q | q
    · simp (disch := omega) only [hsz, bp_s, nI_leI, if_neg, hpo, q.1, lit, nI_eq, bnd_s, nI_add]
      rcases ih (i + 1) N (by omega) (by omega) with ⟨e1, e2⟩ | ⟨j, j1, j2, j3, j4, j5⟩
      · refine Or.inl ⟨e1, fun j h1 h2 => ?_⟩
        rcases Nat.eq_or_lt_of_le h1 with rfl | h1
        · exact q
        · exact e2 j h1 h2
      · refine Or.inr ⟨j, by omega, j2, j3, j4, fun l h1 h2 => ?_⟩
        rcases Nat.eq_or_lt_of_le h1 with rfl | h1
        · exact q
        · exact j5 l h1 h2
    · refine Or.inr ⟨i, Nat.le_refl _, by omega, ?_, q, fun l h1 h2 => by omega⟩
      have e := uk_ok h hW hH0 (t := pt T0 u i) (by omega) q
      simp (disch := omega) only [hsz, bp_s, nI_leI, if_neg, hpo, e, lit, if_true]
theorem map_gD {l : List Nat} {g : Nat → Nat} {i : Nat} (hi : i < l.length) : (l.map g).getD i 0 = g (l.getD i 0) := by
  simp [List.getD_eq_getElem?_getD, List.getElem?_eq_getElem hi]
theorem gI_lt (hW : WT T0) (hf : ∀ h, h < 3 → f h < T0.length) (hT : Gd T0 T) (ht : t < T0.length) (h : In T0 f t T = some (gI T0 f T t, T)) : gI T0 f T t < T.length := (In_good hW hf (t + 1) t (by omega) ht T _ T hT h).2.2
theorem makeImage_ok (h : XI T0 f tu T z) (hW : WT T0) (hH0 : IsH T0 H0) (hf : ∀ h, h < 3 → f h < T0.length) (hu : u < T0.length) (hb : hbit (gT T0 u) = 0) (hk : ∀ j, j < sz T0 u → Kn T0 f T z (pt T0 u j)) : (In T0 f u T = none ∧ ∃ z', fX3_makeImage z (nI u) = some (nI 0, z') ∧ HX T z' ∧ z' 60 = upd (z 60) u (nI tu) ∧ ∀ j, j = 0 ∨ (11 ≤ j ∧ j ≠ 59 ∧ j ≠ 60) → z' j = z j) ∨ ∃ r T' z', In T0 f u T = some (r, T') ∧ fX3_makeImage z (nI u) = some (nI 1, z') ∧ XI T0 f tu T' z' ∧ z' 60 = upd (z 60) u (nI tu) ∧ ∀ j, j = 0 ∨ (11 ≤ j ∧ j ≠ 59 ∧ j ≠ 60) → z' j = z j := by
  obtain ⟨r1, r2, r3, _, _, r6, r7⟩ := h.rd hW hH0 hu
  have hs := hW.2 u hu
  have h' := h
  obtain ⟨h1, h2, h3, h4, h5⟩ := h'
  have hl := h1.le
  have h120 := h2.1.1
  have hg : ∀ p, p ∈ pts T0 u → In T0 f p T = some (gI T0 f T p, T) := fun p hp => by
    obtain ⟨j, j1, j2⟩ := mem_gD hp
    rw [← j2]
    exact (hk j j1).2.2
  have hgl : ∀ p, p ∈ pts T0 u → gI T0 f T p < T.length := fun p hp => gI_lt hW hf h1 (by have := pts_lt hW hu hp; omega) (hg p hp)
  have hlen : ((pts T0 u).map (gI T0 f T)).length = (pts T0 u).length := by simp
  have hml : ∀ p, p ∈ (pts T0 u).map (gI T0 f T) → p < T.length := fun p hp => by
    obtain ⟨q, q1, q2⟩ := List.mem_map.mp hp
    rw [← q2]; exact hgl q q1
  have hpo : ∀ i, i < 3 → fX7_partOf z (nI u) (nI i) = some (pe (pts T0 u) i) := by
    intro i hi
    unfold fX7_partOf
    simp (disch := omega) only [lit, nI_mul, nI_add, inb_t, gd_t, rd_nI]
    rw [r7 i hi]
  have him : ∀ i, i < 3 → fX3_imageOf z (pe (pts T0 u) i) = some (pe ((pts T0 u).map (gI T0 f T)) i) := by
    intro i hi
    unfold pe
    rw [hlen]
    by_cases q : i < (pts T0 u).length
    · rw [if_pos q, if_pos q, map_gD q]
      exact (hk i q).2.1
    · rw [if_neg q, if_neg q]
      unfold fX3_imageOf
      rw [if_pos rfl]
  have hkd : fX7_kindOf z (nI u) = some (kd T0 u) := by
    unfold fX7_kindOf
    simp (disch := omega) only [inb_t, gd_t, rd_nI, r2]
    rfl
  have hsh : fX7_shownBy z (nI u) = some (sh T0 u) := by
    unfold fX7_shownBy
    simp (disch := omega) only [inb_t, gd_t, rd_nI, r3]
    rfl
  have hin := In_all (f := f) (T := T) hW hu hb hg
  have ho : OkT T.length (kd T0 u, sh T0 u, (pts T0 u).map (gI T0 f T)) := okT_map hW hu hlen hml
  unfold fX3_makeImage
  have e0 := hpo 0 (by omega)
  have e1 := hpo 1 (by omega)
  have e2 := hpo 2 (by omega)
  simp only [lit, e0, e1, e2, him 0 (by omega), him 1 (by omega), him 2 (by omega), bp_s, hkd, hsh]
  have fin : ∀ {r : Nat} {T' : List Tm} {zz : fS}, In T0 f u T = some (r, T') → HX T' zz → (∀ j, j = 0 ∨ 11 ≤ j → zz j = z j) → XI T0 f tu T' (wrr (wrr zz 59 (upd (zz 59) u (nI r))) 60 (upd (zz 60) u (nI tu))) ∧ (wrr (wrr zz 59 (upd (zz 59) u (nI r))) 60 (upd (zz 60) u (nI tu))) 60 = upd (z 60) u (nI tu) ∧ ∀ j, j = 0 ∨ (11 ≤ j ∧ j ≠ 59 ∧ j ≠ 60) → (wrr (wrr zz 59 (upd (zz 59) u (nI r))) 60 (upd (zz 60) u (nI tu))) j = z j := by
    intro r T' zz i1 i2 i3
    obtain ⟨g1, g2, g3⟩ := In_good hW hf (u + 1) u (by omega) hu T r T' h1 i1
    refine ⟨⟨g1, i2.fr fun j hj => by rw [wrr_n (by omega), wrr_n (by omega)], ?_, ?_, ?_⟩, ?_, ?_⟩
    · rw [wrr_n (by omega), wrr_n (by omega), i3 58 (by omega)]; exact h3
    · rw [wrr_n (by omega), wrr_n (by omega), i3 62 (by omega)]; exact h4
    · intro t ht hm
      rw [wrr_e] at hm
      rw [wrr_n (by omega), wrr_e]
      by_cases q : t = u
      · subst q
        exact ⟨r, upd_e, In_set hW hf (t + 1) t (by omega) ht T r T' h1 i1 T' g1 ⟨[], by simp⟩⟩
      · rw [upd_n q, i3 60 (by omega)] at hm
        obtain ⟨r', f1, f2⟩ := h5 t ht hm
        refine ⟨r', ?_, In_set hW hf (t + 1) t (by omega) ht T r' T h1 f2 T' g1 g2⟩
        rw [upd_n q, i3 59 (by omega)]
        exact f1
    · rw [wrr_e, i3 60 (by omega)]
    · intro j hj
      rw [wrr_n (by omega), wrr_n (by omega), i3 j (by omega)]
  rcases findOrMake_ok h2 ho with ⟨t, x1, x2, _, x3⟩ | ⟨x1, x3⟩ | ⟨x1, x2, zz, x3, x4, x5⟩
  · obtain ⟨f1, f2, f3⟩ := fin (hin.trans x1) h2 (fun _ _ => rfl)
    refine Or.inr ⟨t, T, _, hin.trans x1, ?_, f1, f2, f3⟩
    have x3' : fX7_findOrMake z (kd T0 u) (sh T0 u) (pe ((pts T0 u).map (gI T0 f T)) 0) (pe ((pts T0 u).map (gI T0 f T)) 1) (pe ((pts T0 u).map (gI T0 f T)) 2) = some (nI t, z) := x3
    simp (disch := omega) only [x3', bd_s, inb_t, gd_t, wr_nI, bnd_s, wrr_n, h3, litm, nI_m1n, if_false]
  · refine Or.inl ⟨hin.trans x1, wrr (wrr z 59 (upd (z 59) u (-(nI 1)))) 60 (upd (z 60) u (nI tu)), ?_, h2.fr fun j hj => by rw [wrr_n (by omega), wrr_n (by omega)], by rw [wrr_e], fun j hj => by rw [wrr_n (by omega), wrr_n (by omega)]⟩
    have x3' : fX7_findOrMake z (kd T0 u) (sh T0 u) (pe ((pts T0 u).map (gI T0 f T)) 0) (pe ((pts T0 u).map (gI T0 f T)) 1) (pe ((pts T0 u).map (gI T0 f T)) 2) = some (-(nI 1), z) := x3
    simp (disch := omega) only [x3', bd_s, inb_t, gd_t, wr_nI, bnd_s, wrr_n, h3, litm, if_true]
  · obtain ⟨f1, f2, f3⟩ := fin (hin.trans x1) x4 x5
    refine Or.inr ⟨T.length, _, _, hin.trans x1, ?_, f1, f2, f3⟩
    have x3' : fX7_findOrMake z (kd T0 u) (sh T0 u) (pe ((pts T0 u).map (gI T0 f T)) 0) (pe ((pts T0 u).map (gI T0 f T)) 1) (pe ((pts T0 u).map (gI T0 f T)) 2) = some (nI T.length, zz) := x3
    simp (disch := omega) only [x3', bd_s, inb_t, gd_t, wr_nI, bnd_s, wrr_n, x5, h3, litm, nI_m1n, if_false]
end XIN
end
section
/-! the class makes an instance: the path through the term -/
def fil (x y w : Nat) : Nat → Nat := fun h => if h = 0 then x else if h = 1 then y else w
section XRU
variable {T0 T T' : List Tm} {f H0 : Nat → Nat} {tu t u : Nat} {z z' z1 z2 : fS}
theorem xU_less (hu : u < T0.length) (h : z 60 u ≠ nI tu) (e : z' 60 = upd (z 60) u (nI tu)) : xU T0 tu z' + 1 = xU T0 tu z := by
  unfold xU
  refine cnt_less (j := u) (decide_eq_true h) (decide_eq_false ?_) (fun i hi => ?_) hu
  · rw [e, upd_e]; exact fun h => h rfl
  · rw [e, upd_n hi]
theorem xU_eq (e : z' 60 = z 60) : xU T0 tu z' = xU T0 tu z := by unfold xU; rw [e]
theorem inst_run (hW : WT T0) (hH0 : IsH T0 H0) (hf : ∀ h, h < 3 → f h < T0.length) {a : Int32} : ∀ (n u : Nat), u < n → u < T0.length → ∀ (m : Nat) (T : List Tm) (z : fS) (d s : Nat), xU T0 tu z ≤ m → XI T0 f tu T z → z 61 d = nI u → d + u ≤ 119 → s + 2 * xU T0 tu z ≤ 1000 + d → Uk T0 H0 tu u z →
    (In T0 f u T = none ∧ ∃ k z', k ≤ 2 * xU T0 tu z + u ∧ (∀ N, lX3_makeInstance_54 a (nI T0.length) (N + k) (nI d) (nI s) z = some (-(nI 1), z')) ∧ HX T0 z' ∧ Mf tu z z') ∨
    (∃ r T' k z', In T0 f u T = some (r, T') ∧ XI T0 f tu T' z' ∧ z' 60 u = nI tu ∧ (∀ v, u < v → z' 60 v = z 60 v) ∧ k + 1 + 2 * xU T0 tu z' ≤ 2 * xU T0 tu z ∧ (∀ j, j < d → z' 61 j = z 61 j) ∧ Mf tu z z' ∧ ∀ N, lX3_makeInstance_54 a (nI T0.length) (N + k) (nI d) (nI s) z = lX3_makeInstance_54 a (nI T0.length) N (pI d) (nI (s + k)) z') := by
  intro n
  induction n with
  | zero => intro u h; omega
  | succ n ih =>
    intro u hun hu m
    induction m with
    | zero =>
      intro T z d s hU hI h61 hd hs hk
      exfalso
      have : 0 < xU T0 tu z := cnt_pos hu (decide_eq_true hk.1)
      omega
    | succ m ihm =>
      intro T z d s hU hI h61 hd hs hk
      have hpos : 0 < xU T0 tu z := cnt_pos hu (decide_eq_true hk.1)
      have hkn := uk_ok hI hW hH0 hu hk
      have hsz := hW.2 u hu
      have one : ∀ N, lX3_makeInstance_54 a (nI T0.length) (N + 1) (nI d) (nI s) z = bp (fX3_openPart z (nI u)) fun r91 => jX3_makeInstance_94 (lX3_makeInstance_54 a (nI T0.length) N) a (nI T0.length) (nI d) (nI s) (nI u) r91 z := by
        intro N
        rw [lX3_makeInstance_54.eq_2]
        simp (disch := omega) only [lit, nI_leI, if_neg, nI_ltI, inb_t, gd_t, rd_nI, h61, bnd_s, hkn, bp_s, if_true]
      have hop := open_loop hI hW hH0 hu (sz T0 u) 0 FU (by omega) (by have := FU_ge; omega)
      have eop : fX3_openPart z (nI u) = lX3_openPart_2 z (nI u) FU (nI 0) := rfl
      rcases hop with ⟨o1, o2⟩ | ⟨j, j1, j2, j3, j4, j5⟩
      · rcases makeImage_ok hI hW hH0 hf hu hk.2.1 (fun j hj => o2 j (by omega) hj) with ⟨i1, z1, i2, i3, i4, i5⟩ | ⟨r, T1, z1, i1, i2, i3, i4, i5⟩
        · obtain ⟨R, hR⟩ := hI.1.1
          rw [hR] at i3
          obtain ⟨z2, u1, u2, u3⟩ := unmakeFrom_ok i3
          refine Or.inl ⟨i1, 1, z2, by omega, fun N => ?_, u2, fun j hj => ?_, fun t => ?_⟩
          · rw [one N, eop, o1, bp_s]
            unfold jX3_makeInstance_94 jX3_makeInstance_126
            simp only [litm, lit, if_true, hkn, bp_s, i2, bd_s, u1]
          · rw [u3 j (by omega), i5 j (by omega)]
          · rw [u3 60 (by omega), i4]
            by_cases q : t = u
            · subst q; exact Or.inr upd_e
            · exact Or.inl (upd_n q)
        · have hless := xU_less (T0 := T0) hu hk.1 i4
          refine Or.inr ⟨r, T1, 1, z1, i1, i3, by rw [i4, upd_e], fun v hv => by rw [i4, upd_n (by omega)], by omega, fun j _ => by rw [i5 61 (by omega)], ⟨fun j hj => i5 j (by omega), fun t => ?_⟩, fun N => ?_⟩
          · rw [i4]
            by_cases q : t = u
            · subst q; exact Or.inr upd_e
            · exact Or.inl (upd_n q)
          · rw [one N, eop, o1, bp_s]
            unfold jX3_makeInstance_94 jX3_makeInstance_126
            simp (disch := omega) only [litm, lit, if_true, hkn, bp_s, i2, bd_s, nI_eq, if_neg, pI_dec, bnd_s, nI_add]
      · have hp := hsz.2.1 j j2
        have hz1 : XI T0 f tu T (wrr z 61 (upd (z 61) (d + 1) (nI (pt T0 u j)))) := hI.fr fun k hk => wrr_n hk
        have hu1 : xU T0 tu (wrr z 61 (upd (z 61) (d + 1) (nI (pt T0 u j)))) = xU T0 tu z := xU_eq (wrr_n (by omega))
        have push : ∀ N, lX3_makeInstance_54 a (nI T0.length) (N + 1) (nI d) (nI s) z = lX3_makeInstance_54 a (nI T0.length) N (nI (d + 1)) (nI (s + 1)) (wrr z 61 (upd (z 61) (d + 1) (nI (pt T0 u j)))) := by
          intro N
          rw [one N, eop, j3, bp_s]
          unfold jX3_makeInstance_94
          simp (disch := omega) only [litm, lit, nI_m1n, if_false, nI_add, nI_leI, if_neg, bnd_s, inb_t, gd_t, wr_nI]
        have hg : ∀ l, l < j → In T0 f (pt T0 u l) T = some (gI T0 f T (pt T0 u l), T) := fun l hl => (j5 l (by omega) hl).2.2
        have fr1 : Mf tu z (wrr z 61 (upd (z 61) (d + 1) (nI (pt T0 u j)))) := ⟨fun k hk => wrr_n (by omega), fun t => Or.inl (by rw [wrr_n (by omega)])⟩
        rcases ih (pt T0 u j) (by omega) (by omega) _ T _ (d + 1) (s + 1) (Nat.le_refl _) hz1 (by rw [wrr_e, upd_e]) (by omega) (by rw [hu1]; omega) ⟨by rw [wrr_n (by omega)]; exact j4.1, j4.2⟩ with ⟨c1, k, z2, c2, c3, c4, c5⟩ | ⟨r, T2, k, z2, c1, c2, c3, c4, c5, c6, c7, c8⟩
        · refine Or.inl ⟨In_stop hW hu hk.2.1 j2 hg c1, k + 1, z2, ?_, fun N => ?_, c4, fr1.tr c5⟩
          · rw [hu1] at c2; omega
          · rw [show N + (k + 1) = (N + k) + 1 by omega, push, c3]
        · rw [hu1] at c5
          have hp61 : z2 61 d = nI u := by rw [c6 d (by omega), wrr_e, upd_n (by omega)]; exact h61
          have hpu : z2 60 u = z 60 u := by rw [c4 u hp, wrr_n (by omega)]
          have est := In_step hW hf hI.1 hu hk.2.1 j2 hg c1
          rcases ihm T2 z2 d (s + 1 + k) (by omega) c2 hp61 hd (by omega) ⟨by rw [hpu]; exact hk.1, hk.2⟩ with ⟨e1, k', z3, e2, e3, e4, e5⟩ | ⟨r', T3, k', z3, e1, e2, e3, e4, e5, e6, e7, e8⟩
          · refine Or.inl ⟨est.trans e1, k' + k + 1, z3, by omega, fun N => ?_, e4, (fr1.tr c7).tr e5⟩
            rw [show N + (k' + k + 1) = ((N + k') + k) + 1 by omega, push, c8, pI_s (by omega), Nat.add_sub_cancel, e3]
          · refine Or.inr ⟨r', T3, k' + k + 1, z3, est.trans e1, e2, e3, fun v hv => by rw [e4 v hv, c4 v (by omega), wrr_n (by omega)], by omega, fun i hi => by rw [e6 i hi, c6 i (by omega), wrr_e, upd_n (by omega)], (fr1.tr c7).tr e7, fun N => ?_⟩
            rw [show N + (k' + k + 1) = ((N + k') + k) + 1 by omega, push, c8, pI_s (by omega), Nat.add_sub_cancel, e8, show s + 1 + k + k' = s + (k' + k + 1) by omega]
theorem makeInstance_ok (h : HX T0 z) {m x y w : Nat} (hm : z 58 5 = nI m) (hm2 : m + 1 < 2 ^ 31) (hmt : ∀ t, t < 120 → ∃ m', m' ≤ m ∧ z 60 t = nI m') (ht : t < T0.length) (hx : x < T0.length) (hy : y < T0.length) (hw : w < T0.length) : ∃ v z', fX3_makeInstance z (nI t) (nI x) (nI y) (nI w) = some (v, z') ∧ ((In T0 (fil x y w) t T0 = none ∧ v = -(nI 1) ∧ HX T0 z') ∨ ∃ r T', In T0 (fil x y w) t T0 = some (r, T') ∧ v = nI r ∧ HX T' z' ∧ Gd T0 T' ∧ r < T'.length) ∧ z' 58 5 = nI (m + 1) ∧ (∀ t, t < 120 → ∃ m', m' ≤ m + 1 ∧ z' 60 t = nI m') ∧ (∀ j, j = 0 ∨ (11 ≤ j ∧ ¬ (58 ≤ j ∧ j ≤ 62)) → z' j = z j) := by
  have hW := h.1
  have h120 := hW.1
  have hf : ∀ k, k < 3 → fil x y w k < T0.length := fun k _ => by unfold fil; split; exact hx; split; exact hy; exact hw
  obtain ⟨H0, hH0, _⟩ := h.2.2.2.2.2
  have hcnt : fX7_count z = some (nI T0.length) := by unfold fX7_count; rw [h.2.2.1.1]
  have hG : Gd T0 T0 := ⟨⟨[], by simp⟩, hW, h.2.1⟩
  obtain ⟨z5, e5⟩ : ∃ q, q = wrr (wrr (wrr z 62 (upd (upd (upd (z 62) 0 (nI x)) 1 (nI y)) 2 (nI w))) 58 (upd (z 58) 5 (nI (m + 1)))) 61 (upd (z 61) 0 (nI t)) := ⟨_, rfl⟩
  have e5n : ∀ j, j ≠ 58 → j ≠ 61 → j ≠ 62 → z5 j = z j := fun j g1 g2 g3 => by rw [e5, wrr_n g2, wrr_n g1, wrr_n g3]
  have st : fX3_makeInstance z (nI t) (nI x) (nI y) (nI w) = lX3_makeInstance_54 (nI t) (nI T0.length) FU (nI 0) (nI 0) z5 := by
    unfold fX3_makeInstance
    simp (disch := omega) only [hcnt, bp_s, lit, inb_t, gd_t, wr_nI, bnd_s, wrr_e, wrr_wrr, wrr_n, wf_w, hm, nI_add]
    rw [e5]
  have h5 : XI T0 (fil x y w) (m + 1) T0 z5 := by
    refine ⟨hG, h.fr fun j hj => e5n j (by omega) (by omega) (by omega), ?_, ?_, ?_⟩
    · rw [e5, wrr_n (by omega), wrr_e, upd_e]
    · intro k hk
      rw [e5, wrr_n (by omega), wrr_n (by omega), wrr_e]
      have : k = 0 ∨ k = 1 ∨ k = 2 := by omega
      rcases this with rfl | rfl | rfl
      · rw [upd_n (by omega), upd_n (by omega), upd_e]; rfl
      · rw [upd_n (by omega), upd_e]; rfl
      · rw [upd_e]; rfl
    · intro u hu q
      rw [e5n 60 (by omega) (by omega) (by omega)] at q
      obtain ⟨m', g1, g2⟩ := hmt u (by omega)
      rw [g2, nI_eq (by omega) (by omega)] at q
      omega
  have h61 : z5 61 0 = nI t := by rw [e5, wrr_e, upd_e]
  have h58 : z5 58 5 = nI (m + 1) := h5.2.2.1
  have h60 : ∀ v, v < 120 → ∃ m', m' ≤ m + 1 ∧ z5 60 v = nI m' := fun v hv => by
    obtain ⟨m', g1, g2⟩ := hmt v hv
    exact ⟨m', by omega, by rw [e5n 60 (by omega) (by omega) (by omega)]; exact g2⟩
  have hUl : xU T0 (m + 1) z5 ≤ 120 := by have : xU T0 (m + 1) z5 ≤ T0.length := cnt_le _ _; omega
  have mf60 : ∀ {z' : fS}, Mf (m + 1) z5 z' → ∀ v, v < 120 → ∃ m', m' ≤ m + 1 ∧ z' 60 v = nI m' := fun {z'} q v hv => by
    rcases q.2 v with q | q
    · rw [q]; exact h60 v hv
    · exact ⟨m + 1, Nat.le_refl _, q⟩
  have last : ∀ {T' : List Tm} {z' : fS} {N s r : Nat}, XI T0 (fil x y w) (m + 1) T' z' → s ≤ 2000 → fX3_imageOf z' (nI t) = some (nI r) → lX3_makeInstance_54 (nI t) (nI T0.length) (N + 1) (pI 0) (nI s) z' = some (nI r, z') := by
    intro T' z' N s r i1 i2 i3
    rw [lX3_makeInstance_54.eq_2]
    simp (disch := omega) only [lit, nI_leI, if_neg, pI_0, m1_lt0, if_true, i3, bp_s]
  rw [st]
  rcases kn_ok h5 hW hH0 ht with q | q
  · obtain ⟨N, hN⟩ : ∃ N, FU = N + 1 + 1 := ⟨FU - 2, by have := FU_ge; omega⟩
    refine ⟨nI (gI T0 (fil x y w) T0 t), z5, ?_, Or.inr ⟨_, T0, q.2.2, rfl, h5.2.1, hG, gI_lt hW hf hG ht q.2.2⟩, h58, h60, fun j hj => e5n j (by omega) (by omega) (by omega)⟩
    rw [hN, lX3_makeInstance_54.eq_2]
    simp (disch := omega) only [lit, nI_leI, if_neg, nI_ltI, inb_t, gd_t, rd_nI, h61, bnd_s, q.1, bp_s, nI_eq]
    unfold jX3_makeInstance_94 jX3_makeInstance_126
    simp (disch := omega) only [litm, lit, if_true, q.1, bp_s, nI_eq, if_neg, pI_dec, nI_add, bnd_s]
    exact last h5 (by omega) q.2.1
  · rcases inst_run (tu := m + 1) (a := nI t) hW hH0 hf (t + 1) t (by omega) ht _ T0 z5 0 0 (Nat.le_refl _) h5 h61 (by omega) (by omega) q with ⟨c1, k, z2, c2, c3, c4, c5⟩ | ⟨r, T2, k, z2, c1, c2, c3, c4, c5, c6, c7, c8⟩
    · obtain ⟨N, hN⟩ : ∃ N, FU = N + k := ⟨FU - k, by have := FU_ge; omega⟩
      refine ⟨-(nI 1), z2, by rw [hN, c3], Or.inl ⟨c1, rfl, c4⟩, by rw [c5.1 58 (by omega)]; exact h58, mf60 c5, fun j hj => by rw [c5.1 j (by omega), e5n j (by omega) (by omega) (by omega)]⟩
    · obtain ⟨N, hN⟩ : ∃ N, FU = N + 1 + k := ⟨FU - k - 1, by have := FU_ge; omega⟩
      obtain ⟨g1, g2, g3⟩ := In_good hW hf (t + 1) t (by omega) ht T0 r T2 hG c1
      have hset := In_set hW hf (t + 1) t (by omega) ht T0 r T2 hG c1 T2 g1 ⟨[], by simp⟩
      have him : fX3_imageOf z2 (nI t) = some (nI r) := by
        rcases kn_ok c2 hW hH0 ht with q | q
        · have := q.2.1
          rw [gI_of hset] at this
          exact this
        · exact absurd c3 q.1
      refine ⟨nI r, z2, ?_, Or.inr ⟨r, T2, c1, rfl, c2.2.1, g1, g3⟩, c2.2.2.1, mf60 c7, fun j hj => by rw [c7.1 j (by omega), e5n j (by omega) (by omega) (by omega)]⟩
      rw [hN, c8]
      exact last c2 (by omega) him
end XRU
end
section
/-! the reference makes an instance -/
def MJ (T0 : List Tm) (f : Nat → Nat) (T : List Tm) (z : fS) : Prop := Gd T0 T ∧ MT T z ∧ (∀ h, h < 3 → z 24 h = nI (f h)) ∧ ∀ t, t < T0.length → z 25 t = -(nI 1) ∨ ∃ r, z 25 t = nI r ∧ In T0 f t T = some (r, T)
def mU (T0 : List Tm) (z : fS) : Nat := cnt (fun t => decide (z 25 t = -(nI 1))) T0.length
def Mg (z z' : fS) : Prop := (∀ j, 4 < j → j ≠ 19 → ¬ (25 ≤ j ∧ j ≤ 27) → z' j = z j) ∧ ∀ f, f ≠ 4 → f ≠ 30 → z' 0 f = z 0 f
def Fz (T : List Tm) (z : fS) (T' : List Tm) (z' : fS) : Prop := (T' = T ∧ z' 0 30 = z 0 30) ∨ z' 0 30 = nI 0
section MIN
variable {T0 T T' T1 : List Tm} {f : Nat → Nat} {t u : Nat} {z z' z1 z2 : fS}
theorem Mg.tr (h : Mg z z1) (g : Mg z1 z2) : Mg z z2 := ⟨fun j a b c => (g.1 j a b c).trans (h.1 j a b c), fun f a b => (g.2 f a b).trans (h.2 f a b)⟩
theorem Fz.tr (h : Fz T z T1 z1) (g : Fz T1 z1 T' z2) : Fz T z T' z2 := by
  rcases g with ⟨g1, g2⟩ | g
  · rcases h with ⟨h1, h2⟩ | h
    · exact Or.inl ⟨g1.trans h1, g2.trans h2⟩
    · exact Or.inr (g2.trans h)
  · exact Or.inr g
theorem MJ.rd (h : MJ T0 f T z) (ht : t < T0.length) : t < 120 ∧ z 1 t = kd T0 t ∧ z 2 t = sh T0 t ∧ z 3 t = nI (sz T0 t) ∧ ∀ i, i < sz T0 t → z 4 (3 * t + i) = nI (pt T0 t i) := by
  obtain ⟨h1, h2, _⟩ := h
  have hl := h1.le
  have hn := h1.2.1.1
  have e := h2.2 t (by omega)
  have eg := h1.gt ht
  have ep : pts T t = pts T0 t := congrArg (fun x : Tm => x.2.2) eg
  have es : sz T t = sz T0 t := congrArg List.length ep
  refine ⟨by omega, e.1.trans (congrArg (fun x : Tm => x.1) eg), e.2.1.trans (congrArg (fun x : Tm => x.2.1) eg), by rw [e.2.2.1, es], fun i hi => ?_⟩
  rw [e.2.2.2 i (by rw [es]; exact hi)]
  show nI ((pts T t).getD i 0) = _
  rw [ep]
  rfl
theorem MJ.fr (h : MJ T0 f T z) (e : ∀ j, j ≠ 26 → j ≠ 27 → z' j = z j) : MJ T0 f T z' := by
  obtain ⟨h1, h2, h3, h4⟩ := h
  refine ⟨h1, h2.fr (by rw [e 0 (by omega) (by omega)]) fun j g1 g2 => e j (by omega) (by omega), ?_, ?_⟩
  · rw [e 24 (by omega) (by omega)]; exact h3
  · rw [e 25 (by omega) (by omega)]; exact h4
theorem other_loop (h : MJ T0 f T z) (hW : WT T0) (hu : u < T0.length) {g : Nat → Nat} (hg : ∀ j, j < sz T0 u → z 25 (pt T0 u j) = nI (g (pt T0 u j)) ∧ g (pt T0 u j) < 120) {k81 : Int32 → Option (Int32 × fS)} : ∀ (d i N v : Nat), i + d = sz T0 u → d < N → (v = 0 ∨ v = 1) → ∃ v', lX9_rebuilt_27 k81 z (nI u) N (nI v) (nI i) = k81 (nI v') ∧ ((v' = 0 ∧ v = 0 ∧ ∀ j, i ≤ j → j < sz T0 u → g (pt T0 u j) = pt T0 u j) ∨ v' = 1) := by
  obtain ⟨r1, r2, r3, r4, r5⟩ := h.rd hu
  have hs := hW.2 u hu
  have hn := hW.1
  intro d
  induction d with
  | zero =>
    intro i N v hi hN hv
    obtain ⟨N, rfl⟩ : ∃ M, N = M + 1 := ⟨N - 1, by omega⟩
    refine ⟨v, ?_, ?_⟩
    · rw [lX9_rebuilt_27.eq_2]
      simp (disch := omega) only [inb_t, gd_t, rd_nI, r4, nI_leI, if_pos]
    · rcases hv with rfl | rfl
      · exact Or.inl ⟨rfl, rfl, fun j h1 h2 => by omega⟩
      · exact Or.inr rfl
  | succ d ih =>
    intro i N v hi hN hv
    obtain ⟨N, rfl⟩ : ∃ M, N = M + 1 := ⟨N - 1, by omega⟩
    have e4 := r5 i (by omega)
    have hp := hs.2.1 i (by omega)
    have eg := hg i (by omega)
    have eg1 := eg.1
    rw [lX9_rebuilt_27.eq_2]
    rcases hv with rfl | rfl
    · by_cases q : g (pt T0 u i) = pt T0 u i
      · obtain ⟨v', e1, e2⟩ := ih (i + 1) N 0 (by omega) (by omega) (Or.inl rfl)
        refine ⟨v', ?_, ?_⟩
        · simp (disch := omega) only [inb_t, gd_t, rd_nI, r4, nI_leI, if_neg, lit, if_true, nI_mul, nI_add, e4, eg1, q, bnd_s]
          exact e1
        · rcases e2 with ⟨e2, e3, e4⟩ | e2
          · refine Or.inl ⟨e2, rfl, fun j h1 h2 => ?_⟩
            rcases Nat.eq_or_lt_of_le h1 with rfl | h1
            · exact q
            · exact e4 j h1 h2
          · exact Or.inr e2
      · obtain ⟨v', e1, e2⟩ := ih (i + 1) N 1 (by omega) (by omega) (Or.inr rfl)
        refine ⟨v', ?_, ?_⟩
        · simp (disch := omega) only [inb_t, gd_t, rd_nI, r4, nI_leI, if_neg, lit, if_true, nI_mul, nI_add, e4, eg1, nI_eq, q, if_false, bnd_s]
          exact e1
        · rcases e2 with ⟨_, e3, _⟩ | e2
          · cases e3
          · exact Or.inr e2
    · obtain ⟨v', e1, e2⟩ := ih (i + 1) N 1 (by omega) (by omega) (Or.inr rfl)
      refine ⟨v', ?_, ?_⟩
      · simp (disch := omega) only [inb_t, gd_t, rd_nI, r4, nI_leI, if_neg, lit, nI_eq, nI_add, bnd_s]
        exact e1
      · rcases e2 with ⟨_, e3, _⟩ | e2
        · cases e3
        · exact Or.inr e2
theorem ask_loop (hW : WT T0) (hu : u < T0.length) {g : Nat → Nat} {k126 : fS → Option (Int32 × fS)} : ∀ (d i N : Nat) (z : fS), i + d = sz T0 u → d < N → z 3 u = nI (sz T0 u) → (∀ i, i < sz T0 u → z 4 (3 * u + i) = nI (pt T0 u i)) → (∀ j, j < sz T0 u → z 25 (pt T0 u j) = nI (g (pt T0 u j))) → (∀ j, j < i → z 19 j = nI (g (pt T0 u j))) → ∃ z', lX9_rebuilt_89 k126 (nI u) N (nI i) z = k126 z' ∧ (∀ j, j < sz T0 u → z' 19 j = nI (g (pt T0 u j))) ∧ (∀ j, j ≠ 19 → z' j = z j) := by
  have hs := hW.2 u hu
  have hn := hW.1
  intro d
  induction d with
  | zero =>
    intro i N z hi hN h3 h4 h25 h19
    obtain ⟨N, rfl⟩ : ∃ M, N = M + 1 := ⟨N - 1, by omega⟩
    refine ⟨z, ?_, fun j hj => h19 j (by omega), fun _ _ => rfl⟩
    rw [lX9_rebuilt_89.eq_2]
    simp (disch := omega) only [inb_t, gd_t, rd_nI, h3, nI_leI, if_pos]
  | succ d ih =>
    intro i N z hi hN h3 h4 h25 h19
    obtain ⟨N, rfl⟩ : ∃ M, N = M + 1 := ⟨N - 1, by omega⟩
    have e4 := h4 i (by omega)
    have hp := hs.2.1 i (by omega)
    have e25 := h25 i (by omega)
    obtain ⟨z', e1, e2, e3⟩ := ih (i + 1) N (wrr z 19 (upd (z 19) i (nI (g (pt T0 u i))))) (by omega) (by omega) (by rw [wrr_n (by omega)]; exact h3) (by rw [wrr_n (by omega)]; exact h4) (by rw [wrr_n (by omega)]; exact h25) (fun j hj => by
      rw [wrr_e]
      by_cases q : j = i
      · rw [q, upd_e]
      · rw [upd_n q]; exact h19 j (by omega))
    refine ⟨z', ?_, e2, fun j hj => (e3 j hj).trans (wrr_n hj)⟩
    rw [lX9_rebuilt_89.eq_2]
    simp (disch := omega) only [inb_t, gd_t, rd_nI, h3, nI_leI, if_neg, lit, nI_mul, nI_add, e4, e25, wr_nI, bnd_s]
    exact e1
theorem rebuilt_ok (h : MJ T0 f T z) (hW : WT T0) (hf : ∀ h, h < 3 → f h < T0.length) (hu : u < T0.length) (hk : ∀ j, j < sz T0 u → z 25 (pt T0 u j) ≠ -(nI 1)) : (In T0 f u T = none ∧ ∃ z', fX9_rebuilt z (nI u) = some (-(nI 1), z') ∧ MT T z' ∧ (∀ j, 4 < j → j ≠ 19 → z' j = z j) ∧ ∀ f, f ≠ 4 → f ≠ 30 → z' 0 f = z 0 f) ∨ ∃ r T' z', In T0 f u T = some (r, T') ∧ fX9_rebuilt z (nI u) = some (nI r, z') ∧ MT T' z' ∧ (∀ j, 4 < j → j ≠ 19 → z' j = z j) ∧ (∀ f, f ≠ 4 → f ≠ 30 → z' 0 f = z 0 f) ∧ Fz T z T' z' := by
  obtain ⟨r1, r2, r3, r4, r5⟩ := h.rd hu
  have hs := hW.2 u hu
  have hh := isHoleM_v (z := z) (tm := gT T0 u) r1 r2 r3
  obtain ⟨h1, h2, h3, h4⟩ := h
  have hl := h1.le
  have h120 := h1.2.1.1
  unfold fX9_rebuilt
  by_cases q : hbit (gT T0 u) = 0
  · have eb : hoB (gT T0 u) = false := by unfold hoB; rw [q]; rfl
    rw [eb, bI_f] at hh
    have hg : ∀ j, j < sz T0 u → z 25 (pt T0 u j) = nI (gI T0 f T (pt T0 u j)) ∧ In T0 f (pt T0 u j) T = some (gI T0 f T (pt T0 u j), T) := fun j hj => by
      have := hs.2.1 j hj
      rcases h4 (pt T0 u j) (by omega) with e | ⟨r, e1, e2⟩
      · exact absurd e (hk j hj)
      · rw [gI_of e2]; exact ⟨e1, e2⟩
    have hgm : ∀ p, p ∈ pts T0 u → In T0 f p T = some (gI T0 f T p, T) := fun p hp => by
      obtain ⟨j, j1, j2⟩ := mem_gD hp
      rw [← j2]
      exact (hg j j1).2
    have hgl : ∀ p, p ∈ pts T0 u → gI T0 f T p < T.length := fun p hp => gI_lt hW hf h1 (by have := pts_lt hW hu hp; omega) (hgm p hp)
    have hgj : ∀ j, j < sz T0 u → gI T0 f T (pt T0 u j) < 120 := fun j hj => by
      have := hgl (pt T0 u j) (gD_mem hj)
      omega
    have hlen : ((pts T0 u).map (gI T0 f T)).length = (pts T0 u).length := by simp
    have hml : ∀ p, p ∈ (pts T0 u).map (gI T0 f T) → p < T.length := fun p hp => by
      obtain ⟨q, q1, q2⟩ := List.mem_map.mp hp
      rw [← q2]; exact hgl q q1
    have hin := In_all (f := f) (T := T) hW hu q hgm
    have ho : OkT T.length (kd T0 u, sh T0 u, (pts T0 u).map (gI T0 f T)) := okT_map hW hu hlen hml
    obtain ⟨v', w1, w2⟩ := other_loop ⟨h1, h2, h3, h4⟩ hW hu (g := gI T0 f T) (fun j hj => ⟨(hg j hj).1, hgj j hj⟩) (k81 := jX9_rebuilt_81 z (nI u)) (sz T0 u) 0 FU 0 (by omega) (by have := FU_ge; omega) (Or.inl rfl)
    simp only [lit, hh, bp_s, if_true, w1]
    unfold jX9_rebuilt_81
    rcases w2 with ⟨rfl, _, w3⟩ | rfl
    · have em : (pts T0 u).map (gI T0 f T) = pts T0 u := by
        refine (List.map_congr_left fun p hp => ?_).trans (List.map_id' (pts T0 u))
        obtain ⟨j, j1, j2⟩ := mem_gD hp
        rw [← j2]
        exact w3 j (by omega) j1
      rw [em] at hin
      have hin2 := hin.trans (mkT_old h1.2.2 (show u < T.length by omega) (h1.gt hu))
      refine Or.inr ⟨u, T, z, hin2, ?_, h2, fun _ _ _ => rfl, fun _ _ _ => rfl, Or.inl ⟨rfl, rfl⟩⟩
      simp only [lit, if_true]
    · obtain ⟨z1, a1, a2, a3⟩ := ask_loop hW hu (g := gI T0 f T) (k126 := jX9_rebuilt_126 (nI u)) (sz T0 u) 0 FU z (by omega) (by have := FU_ge; omega) r4 r5 (fun j hj => (hg j hj).1) (fun j hj => by omega)
      have hT1 : MT T z1 := h2.fr (by rw [a3 0 (by omega)]) fun j g1 g2 => a3 j (by omega)
      have es : z1 3 u = nI ((pts T0 u).map (gI T0 f T)).length := by rw [a3 3 (by omega), r4, hlen]; rfl
      simp (disch := omega) only [lit, nI_eq, if_neg, a1]
      unfold jX9_rebuilt_126
      have e1 : z1 1 u = kd T0 u := by rw [a3 1 (by omega)]; exact r2
      have e2 : z1 2 u = sh T0 u := by rw [a3 2 (by omega)]; exact r3
      simp (disch := omega) only [inb_t, gd_t, rd_nI, e1, e2, es]
      have md := made_ok hT1 h1.2.1 h1.2.2 ho (fun j hj => by
        have hj' : j < (pts T0 u).length := by rw [← hlen]; exact hj
        rw [show ((kd T0 u, sh T0 u, (pts T0 u).map (gI T0 f T)) : Tm).2.2 = (pts T0 u).map (gI T0 f T) from rfl, map_gD hj']
        exact a2 j hj')
      rcases md with ⟨t, x1, x2, x3⟩ | ⟨x1, x3⟩ | ⟨x1, x2, zz, x3, x4, x5, x6, x7⟩
      · have x3' : fX9_made z1 (kd T0 u) (sh T0 u) (nI ((pts T0 u).map (gI T0 f T)).length) = some (nI t, z1) := x3
        refine Or.inr ⟨t, T, z1, hin.trans x1, by rw [x3', bd_s], hT1, fun j g1 g2 => a3 j g2, fun g _ _ => by rw [a3 0 (by omega)], Or.inl ⟨rfl, by rw [a3 0 (by omega)]⟩⟩
      · have x3' : fX9_made z1 (kd T0 u) (sh T0 u) (nI ((pts T0 u).map (gI T0 f T)).length) = some (-(nI 1), z1) := x3
        exact Or.inl ⟨hin.trans x1, z1, by rw [x3', bd_s], hT1, fun j g1 g2 => a3 j g2, fun g _ _ => by rw [a3 0 (by omega)]⟩
      · have x3' : fX9_made z1 (kd T0 u) (sh T0 u) (nI ((pts T0 u).map (gI T0 f T)).length) = some (nI T.length, zz) := x3
        exact Or.inr ⟨T.length, _, zz, hin.trans x1, by rw [x3', bd_s], x4, fun j g1 g2 => by rw [x5 j g1, a3 j g2], fun g g1 g2 => by rw [x6 g g1 g2, a3 0 (by omega)], Or.inr x7⟩
  · have eb : hoB (gT T0 u) = true := by unfold hoB; simp [q]
    rw [eb, bI_t] at hh
    have hlt := hix_lt (gT T0 u)
    have es : sh T0 u - nI 90 = nI (hix (gT T0 u)) := hix_sub q
    refine Or.inr ⟨f (hix (gT T0 u)), T, z, In_hole q T, ?_, h2, fun _ _ _ => rfl, fun _ _ _ => rfl, Or.inl ⟨rfl, rfl⟩⟩
    simp (disch := omega) only [lit, hh, bp_s, nI_eq, if_neg, inb_t, gd_t, rd_nI, r3, es]
    rw [h3 _ hlt]
end MIN
end
section
/-! the reference makes an instance: its pile -/
section MRU
variable {T0 T T' : List Tm} {f : Nat → Nat} {t u : Nat} {z z' z1 z2 : fS}
theorem mU_less (hu : u < T0.length) (h : z 25 u = -(nI 1)) {v : Int32} (hv : v ≠ -(nI 1)) (e : z' 25 = upd (z 25) u v) : mU T0 z' + 1 = mU T0 z := by
  unfold mU
  refine cnt_less (j := u) (decide_eq_true h) (decide_eq_false ?_) (fun i hi => ?_) hu
  · rw [e, upd_e]; exact hv
  · rw [e, upd_n hi]
theorem mU_eq (e : z' 25 = z 25) : mU T0 z' = mU T0 z := by unfold mU; rw [e]
theorem minst_run (hW : WT T0) (hf : ∀ h, h < 3 → f h < T0.length) {a : Int32} : ∀ (n u : Nat), u < n → u < T0.length → ∀ (e i : Nat) (T : List Tm) (z : fS) (d : Nat), i + e = sz T0 u → MJ T0 f T z → z 26 d = nI u → z 27 d = nI i → d + u ≤ 119 → z 25 u = -(nI 1) → (∀ j, j < i → z 25 (pt T0 u j) ≠ -(nI 1)) →
    (In T0 f u T = none ∧ ∃ k z', k + 2 * i ≤ 8 * mU T0 z + 10 * u + 10 ∧ (∀ N, lX9_instanceOf_42 a (nI T0.length) (N + k) (nI (d + 1)) z = some (-(nI 1), z')) ∧ MT T0 z' ∧ z' 0 30 = nI 0 ∧ Mg z z') ∨
    (∃ r T' k z', In T0 f u T = some (r, T') ∧ MJ T0 f T' z' ∧ z' 25 u ≠ -(nI 1) ∧ (∀ v, u < v → z' 25 v = z 25 v) ∧ (∀ v, z 25 v ≠ -(nI 1) → z' 25 v ≠ -(nI 1)) ∧ k + 2 * i + 1 + 8 * mU T0 z' ≤ 8 * mU T0 z ∧ (∀ j, j < d → z' 26 j = z 26 j ∧ z' 27 j = z 27 j) ∧ Mg z z' ∧ Fz T z T' z' ∧ ∀ N, lX9_instanceOf_42 a (nI T0.length) (N + k) (nI (d + 1)) z = lX9_instanceOf_42 a (nI T0.length) N (nI d) z') := by
  have hn0 := hW.1
  intro n
  induction n with
  | zero => intro u h; omega
  | succ n ih =>
    intro u hun hu e
    induction e with
    | zero =>
      intro i T z d hi hJ h26 h27 hd h25 hk
      obtain ⟨r1, r2, r3, r4, r5⟩ := hJ.rd hu
      have hs := hW.2 u hu
      have hpos : 0 < mU T0 z := cnt_pos hu (decide_eq_true h25)
      have one : ∀ N, lX9_instanceOf_42 a (nI T0.length) (N + 1) (nI (d + 1)) z = bd (fX9_rebuilt z (nI u)) fun r146 z146 => bnd (wr z146 25 (nI u) r146) fun z149 => if 0 ≤ (rd z149 25 (nI u)) then lX9_instanceOf_42 a (nI T0.length) N (nI d) z149 else bnd (wf z149 0 4 (nI T0.length)) fun z162 => bnd (wf z162 0 30 (0 : Int32)) fun z167 => some ((-1 : Int32), z167) := by
        intro N
        rw [lX9_instanceOf_42.eq_2]
        simp (disch := omega) only [lit, litm, nI_leI, if_neg, nI_sub, Nat.add_sub_cancel, inb_t, gd_t, rd_nI, h26, h27, bnd_s, h25, m1_lt0, if_true, r4, if_pos, nI_dec]
      rcases rebuilt_ok hJ hW hf hu (fun j hj => hk j (by omega)) with ⟨i1, z1, i2, i3, i4, i5⟩ | ⟨r, T1, z1, i1, i2, i3, i4, i5, i6⟩
      · obtain ⟨R, hR⟩ := hJ.1.1
        obtain ⟨z9, e9⟩ : ∃ q, q = wrr (wrr z1 25 (upd (z1 25) u (-(nI 1)))) 0 (upd (upd (z1 0) 4 (nI T0.length)) 30 (nI 0)) := ⟨_, rfl⟩
        refine Or.inl ⟨i1, 1, z9, by omega, fun N => ?_, ?_, ?_, fun j g1 g2 g3 => ?_, fun g g1 g2 => ?_⟩
        · rw [one N, i2, bd_s, e9]
          simp (disch := omega) only [lit, litm, wr_nI, bnd_s, rd_nI, wrr_e, upd_e, m1_le0, if_false, wf_w, wrr_n, wrr_wrr]
        · have hg : AgT T0 T T0.length := fun t ht => hJ.1.gt ht
          have hle := hJ.1.le
          refine ⟨by rw [e9, wrr_e, upd_n (by omega), upd_e], fun t ht => ?_⟩
          have q := i3.2 t (by omega)
          rw [hg.kd ht, hg.sh ht, hg.sz ht] at q
          rw [e9, wrr_n (by omega), wrr_n (by omega), wrr_n (by omega), wrr_n (by omega), wrr_n (by omega), wrr_n (by omega)]
          refine ⟨q.1, q.2.1, q.2.2.1, fun i hi => ?_⟩
          rw [wrr_n (by omega), wrr_n (by omega), q.2.2.2 i hi, hg.pt ht i]
        · rw [e9, wrr_e, upd_e]
        · rw [e9, wrr_n (by omega), wrr_n (by omega), i4 j g1 g2]
        · rw [e9, wrr_e, upd_n g2, upd_n g1, i5 g g1 g2]
      · obtain ⟨g1, g2, g3⟩ := In_good hW hf (u + 1) u (by omega) hu T r T1 hJ.1 i1
        have h120 := g1.2.1.1
        have hrn : nI r ≠ -(nI 1) := fun q => by rw [nI_m1n (by omega)] at q; exact q
        obtain ⟨z9, e9⟩ : ∃ q, q = wrr z1 25 (upd (z1 25) u (nI r)) := ⟨_, rfl⟩
        have e25 : z9 25 = upd (z 25) u (nI r) := by rw [e9, wrr_e, i4 25 (by omega) (by omega)]
        have hless := mU_less (T0 := T0) hu h25 hrn e25
        refine Or.inr ⟨r, T1, 1, z9, i1, ⟨g1, i3.fr (by rw [e9, wrr_n (by omega)]) fun j q1 q2 => by rw [e9, wrr_n (by omega)], ?_, ?_⟩, by rw [e25, upd_e]; exact hrn, fun v hv => by rw [e25, upd_n (by omega)], ?_, by omega, fun j hj => ?_, ⟨fun j q1 q2 q3 => by rw [e9, wrr_n (by omega), i4 j q1 q2], fun g q1 q2 => by rw [e9, wrr_n (by omega), i5 g q1 q2]⟩, ?_, fun N => ?_⟩
        · rw [e9, wrr_n (by omega), i4 24 (by omega) (by omega)]; exact hJ.2.2.1
        · intro t ht
          rw [e25]
          by_cases q : t = u
          · subst q
            exact Or.inr ⟨r, upd_e, In_set hW hf (t + 1) t (by omega) ht T r T1 hJ.1 i1 T1 g1 ⟨[], by simp⟩⟩
          · rw [upd_n q]
            rcases hJ.2.2.2 t ht with w | ⟨r', w1, w2⟩
            · exact Or.inl w
            · exact Or.inr ⟨r', w1, In_set hW hf (t + 1) t (by omega) ht T r' T hJ.1 w2 T1 g1 g2⟩
        · intro v hv
          rw [e25]
          by_cases q : v = u
          · rw [q, upd_e]; exact hrn
          · rw [upd_n q]; exact hv
        · rw [e9, wrr_n (by omega), wrr_n (by omega), i4 26 (by omega) (by omega), i4 27 (by omega) (by omega)]; exact ⟨rfl, rfl⟩
        · rcases i6 with ⟨q1, q2⟩ | q
          · exact Or.inl ⟨q1, by rw [e9, wrr_n (by omega)]; exact q2⟩
          · exact Or.inr (by rw [e9, wrr_n (by omega)]; exact q)
        · rw [one N, i2, bd_s]
          simp (disch := omega) only [lit, wr_nI, bnd_s, rd_nI, wrr_e, upd_e, nI_leI, if_pos]
          rw [e9]
    | succ e ihe =>
      intro i T z d hi hJ h26 h27 hd h25 hk
      obtain ⟨r1, r2, r3, r4, r5⟩ := hJ.rd hu
      have hs := hW.2 u hu
      have hp := hs.2.1 i (by omega)
      have e4 := r5 i (by omega)
      obtain ⟨z1, e1⟩ : ∃ q, q = wrr (wrr z 26 (upd (z 26) (d + 1) (nI (pt T0 u i)))) 27 (upd (upd (z 27) d (nI (i + 1))) (d + 1) (nI 0)) := ⟨_, rfl⟩
      have e1n : ∀ j, j ≠ 26 → j ≠ 27 → z1 j = z j := fun j q1 q2 => by rw [e1, wrr_n q2, wrr_n q1]
      have push : ∀ N, lX9_instanceOf_42 a (nI T0.length) (N + 1) (nI (d + 1)) z = lX9_instanceOf_42 a (nI T0.length) N (nI (d + 1 + 1)) z1 := by
        intro N
        rw [lX9_instanceOf_42.eq_2]
        simp (disch := omega) only [lit, litm, nI_leI, if_neg, nI_sub, Nat.add_sub_cancel, inb_t, gd_t, rd_nI, h26, h27, bnd_s, h25, m1_lt0, if_true, r4, nI_add, wr_nI, nI_mul, wrr_n, wrr_e, e4, wrr_wrr]
        rw [e1]
        congr 1
        funext j
        by_cases q1 : j = 27
        · subst q1; rw [wrr_e, wrr_e]
        · rw [wrr_n q1, wrr_n q1]
          by_cases q2 : j = 26
          · subst q2; rw [wrr_e, wrr_e]
          · rw [wrr_n q2, wrr_n q2, wrr_n q1]
      have hJ1 : MJ T0 f T z1 := hJ.fr e1n
      have mu1 : mU T0 z1 = mU T0 z := mU_eq (e1n 25 (by omega) (by omega))
      have g26 : z1 26 d = nI u := by rw [e1, wrr_n (by omega), wrr_e, upd_n (by omega)]; exact h26
      have g27 : z1 27 d = nI (i + 1) := by rw [e1, wrr_e, upd_n (by omega), upd_e]
      have p26 : z1 26 (d + 1) = nI (pt T0 u i) := by rw [e1, wrr_n (by omega), wrr_e, upd_e]
      have p27 : z1 27 (d + 1) = nI 0 := by rw [e1, wrr_e, upd_e]
      have below : ∀ j, j < d → z1 26 j = z 26 j ∧ z1 27 j = z 27 j := fun j hj => by
        rw [e1, wrr_n (by omega), wrr_e, wrr_e, upd_n (by omega), upd_n (by omega), upd_n (by omega)]
        exact ⟨rfl, rfl⟩
      have fr1 : Mg z z1 := ⟨fun j q1 q2 q3 => e1n j (by omega) (by omega), fun g _ _ => by rw [e1n 0 (by omega) (by omega)]⟩
      have fz1 : Fz T z T z1 := Or.inl ⟨rfl, by rw [e1n 0 (by omega) (by omega)]⟩
      have e25 : z1 25 = z 25 := e1n 25 (by omega) (by omega)
      rcases hJ.2.2.2 (pt T0 u i) (by omega) with w | ⟨r, w1, w2⟩
      · -- the part is not known yet
        rcases ih (pt T0 u i) (by omega) (by omega) (sz T0 (pt T0 u i)) 0 T z1 (d + 1) (by omega) hJ1 p26 p27 (by omega) (by rw [e25]; exact w) (fun j hj => by omega) with ⟨c1, k, z2, c2, c3, c4, c5, c6⟩ | ⟨r, T2, k, z2, c1, c2, c3, c4, c4b, c5, c6, c7, c8, c9⟩
        · by_cases hb : hbit (gT T0 u) = 0
          · have hg : ∀ j, j < i → In T0 f (pt T0 u j) T = some (gI T0 f T (pt T0 u j), T) := fun j hj => by
              have := hs.2.1 j (by omega)
              rcases hJ.2.2.2 (pt T0 u j) (by omega) with w | ⟨r, w1, w2⟩
              · exact absurd w (hk j hj)
              · rw [gI_of w2]; exact w2
            refine Or.inl ⟨In_stop hW hu hb (by omega) hg c1, k + 1, z2, by rw [mu1] at c2; omega, fun N => ?_, c4, c5, fr1.tr c6⟩
            rw [show N + (k + 1) = (N + k) + 1 by omega, push, c3]
          · exfalso
            have h0 : sz T0 u = 0 := by
              rcases hbit_cases (gT T0 u) with q | ⟨q, _⟩
              · exact absurd q hb
              · exact hs.2.2.2.2.2 q
            omega
        · have hb : hbit (gT T0 u) = 0 := by
            rcases hbit_cases (gT T0 u) with q | ⟨q, _⟩
            · exact q
            · have := hs.2.2.2.2.2 q
              omega
          have hg : ∀ j, j < i → In T0 f (pt T0 u j) T = some (gI T0 f T (pt T0 u j), T) := fun j hj => by
            have := hs.2.1 j (by omega)
            rcases hJ.2.2.2 (pt T0 u j) (by omega) with w | ⟨r, w1, w2⟩
            · exact absurd w (hk j hj)
            · rw [gI_of w2]; exact w2
          have est := In_step hW hf hJ.1 hu hb (by omega) hg c1
          rw [mu1] at c5
          have q26 := c6 d (by omega)
          rcases ihe (i + 1) T2 z2 d (by omega) c2 (by rw [q26.1]; exact g26) (by rw [q26.2]; exact g27) hd (by rw [c4 u hp, e25]; exact h25) (fun j hj => by
            rcases Nat.eq_or_lt_of_le (Nat.le_of_lt_succ hj) with rfl | hj
            · exact c3
            · exact c4b _ (by rw [e25]; exact hk j hj)) with ⟨b1, k', z3, b2, b3, b4, b5, b6⟩ | ⟨r', T3, k', z3, b1, b2, b3, b4, b4b, b5, b6, b7, b8, b9⟩
          · refine Or.inl ⟨est.trans b1, k' + k + 1, z3, by omega, fun N => ?_, b4, b5, (fr1.tr c7).tr b6⟩
            rw [show N + (k' + k + 1) = ((N + k') + k) + 1 by omega, push, c9, b3]
          · refine Or.inr ⟨r', T3, k' + k + 1, z3, est.trans b1, b2, b3, fun v hv => by rw [b4 v hv, c4 v (by omega), e25], fun v hv => b4b v (c4b v (by rw [e25]; exact hv)), by omega, fun j hj => ?_, (fr1.tr c7).tr b7, (fz1.tr c8).tr b8, fun N => ?_⟩
            · rw [(b6 j hj).1, (b6 j hj).2, (c6 j (by omega)).1, (c6 j (by omega)).2]; exact below j hj
            · rw [show N + (k' + k + 1) = ((N + k') + k) + 1 by omega, push, c9, b9]
      · -- it is known
        obtain ⟨_, _, rl⟩ := In_good hW hf (pt T0 u i + 1) (pt T0 u i) (by omega) (by omega) T r T hJ.1 w2
        have h120 := hJ.1.2.1.1
        have p25 : z1 25 (pt T0 u i) = nI r := by rw [e25]; exact w1
        have hrn : nI r ≠ -(nI 1) := fun q => by rw [nI_m1n (by omega)] at q; exact q
        have pop : ∀ N, lX9_instanceOf_42 a (nI T0.length) (N + 1) (nI (d + 1 + 1)) z1 = lX9_instanceOf_42 a (nI T0.length) N (nI (d + 1)) z1 := by
          intro N
          rw [lX9_instanceOf_42.eq_2]
          simp (disch := omega) only [lit, litm, nI_leI, if_neg, nI_sub, Nat.add_sub_cancel, inb_t, gd_t, rd_nI, p26, p27, bnd_s, p25, nI_ltI, nI_dec]
        rcases ihe (i + 1) T z1 d (by omega) hJ1 g26 g27 hd (by rw [e25]; exact h25) (fun j hj => by
            rw [e25]
            rcases Nat.eq_or_lt_of_le (Nat.le_of_lt_succ hj) with rfl | hj
            · rw [w1]; exact hrn
            · exact hk j hj) with ⟨b1, k', z3, b2, b3, b4, b5, b6⟩ | ⟨r', T3, k', z3, b1, b2, b3, b4, b4b, b5, b6, b7, b8, b9⟩
        · refine Or.inl ⟨b1, k' + 1 + 1, z3, by rw [mu1] at b2; omega, fun N => ?_, b4, b5, fr1.tr b6⟩
          rw [show N + (k' + 1 + 1) = ((N + k') + 1) + 1 by omega, push, pop, b3]
        · refine Or.inr ⟨r', T3, k' + 1 + 1, z3, b1, b2, b3, fun v hv => by rw [b4 v hv, e25], fun v hv => b4b v (by rw [e25]; exact hv), by rw [mu1] at b5; omega, fun j hj => ?_, fr1.tr b7, fz1.tr b8, fun N => ?_⟩
          · rw [(b6 j hj).1, (b6 j hj).2]; exact below j hj
          · rw [show N + (k' + 1 + 1) = ((N + k') + 1) + 1 by omega, push, pop, b9]
theorem bec_loop {k26 : fS → Option (Int32 × fS)} {v1 v2 : Int32} : ∀ (d i N : Nat) (z : fS), i + d = 120 → d < N → (∀ s, s < i → z 25 s = -(nI 1)) → ∃ z', lX9_instanceOf_7 k26 v1 v2 N (nI i) z = k26 z' ∧ (∀ s, s < 120 → z' 25 s = -(nI 1)) ∧ (∀ j, j ≠ 25 → z' j = z j) := by
  intro d
  induction d with
  | zero =>
    intro i N z hi hN h
    obtain ⟨N, rfl⟩ : ∃ M, N = M + 1 := ⟨N - 1, by omega⟩
    refine ⟨z, ?_, fun s hs => h s (by omega), fun _ _ => rfl⟩
    rw [lX9_instanceOf_7.eq_2]
    simp (disch := omega) only [lit, nI_leI, if_pos]
  | succ d ih =>
    intro i N z hi hN h
    obtain ⟨N, rfl⟩ : ∃ M, N = M + 1 := ⟨N - 1, by omega⟩
    obtain ⟨z', g1, g2, g3⟩ := ih (i + 1) N (wrr z 25 (upd (z 25) i (-(nI 1)))) (by omega) (by omega) (fun k hk => by
      rw [wrr_e]
      by_cases q : k = i
      · rw [q, upd_e]
      · rw [upd_n q]; exact h k (by omega))
    refine ⟨z', ?_, g2, fun k hk => (g3 k hk).trans (wrr_n hk)⟩
    rw [lX9_instanceOf_7.eq_2]
    simp (disch := omega) only [lit, litm, nI_leI, if_neg, inb_t, gd_t, wr_nI, bnd_s, nI_add]
    exact g1
theorem instanceOf_ok (hM : MT T0 z) (hW : WT T0) (hU : Uq T0) (hf : ∀ h, h < 3 → f h < T0.length) (h24 : ∀ h, h < 3 → z 24 h = nI (f h)) (ht : t < T0.length) : ∃ v z', fX9_instanceOf z (nI t) = some (v, z') ∧ ((In T0 f t T0 = none ∧ v = -(nI 1) ∧ MT T0 z' ∧ z' 0 30 = nI 0) ∨ ∃ r T', In T0 f t T0 = some (r, T') ∧ v = nI r ∧ MT T' z' ∧ Fz T0 z T' z') ∧ Mg z z' := by
  have hn0 := hW.1
  have hG : Gd T0 T0 := ⟨⟨[], by simp⟩, hW, hU⟩
  obtain ⟨z1, a1, a2, a3⟩ := bec_loop (k26 := jX9_instanceOf_26 (nI t) (nI T0.length)) (v1 := nI t) (v2 := nI T0.length) 120 0 FU z (by omega) (by have := FU_ge; omega) (fun s hs => by omega)
  obtain ⟨z2, e2⟩ : ∃ q, q = wrr (wrr z1 26 (upd (z1 26) 0 (nI t))) 27 (upd (z1 27) 0 (nI 0)) := ⟨_, rfl⟩
  have e2n : ∀ j, j ≠ 25 → j ≠ 26 → j ≠ 27 → z2 j = z j := fun j q1 q2 q3 => by rw [e2, wrr_n q3, wrr_n q2, a3 j q1]
  have e25 : z2 25 = z1 25 := by rw [e2, wrr_n (by omega), wrr_n (by omega)]
  have st : fX9_instanceOf z (nI t) = lX9_instanceOf_42 (nI t) (nI T0.length) FU (nI 1) z2 := by
    unfold fX9_instanceOf
    simp only [lit, bnd_s, hM.1]
    rw [a1]
    unfold jX9_instanceOf_26
    simp (disch := omega) only [lit, inb_t, gd_t, wr_nI, bnd_s, wrr_n]
    rw [e2]
  have hJ : MJ T0 f T0 z2 := by
    refine ⟨hG, hM.fr (by rw [e2n 0 (by omega) (by omega) (by omega)]) fun j q1 q2 => e2n j (by omega) (by omega) (by omega), ?_, fun u hu => Or.inl ?_⟩
    · rw [e2n 24 (by omega) (by omega) (by omega)]; exact h24
    · rw [e25]; exact a2 u (by omega)
  have hUl : mU T0 z2 ≤ 120 := by have : mU T0 z2 ≤ T0.length := cnt_le _ _; omega
  have fr : Mg z z2 := ⟨fun j q1 q2 q3 => e2n j (by omega) (by omega) (by omega), fun g _ _ => by rw [e2n 0 (by omega) (by omega) (by omega)]⟩
  have hz : Fz T0 z T0 z2 := Or.inl ⟨rfl, by rw [e2n 0 (by omega) (by omega) (by omega)]⟩
  rw [st]
  rcases minst_run (a := nI t) hW hf (t + 1) t (by omega) ht (sz T0 t) 0 T0 z2 0 (by omega) hJ (by rw [e2, wrr_n (by omega), wrr_e, upd_e]) (by rw [e2, wrr_e, upd_e]) (by omega) (by rw [e25]; exact a2 t (by omega)) (fun j hj => by omega) with ⟨c1, k, z3, c2, c3, c4, c5, c6⟩ | ⟨r, T2, k, z3, c1, c2, c3, c4, c4b, c5, c6, c7, c8, c9⟩
  · obtain ⟨N, hN⟩ : ∃ N, FU = N + k := ⟨FU - k, by have := FU_ge; omega⟩
    exact ⟨-(nI 1), z3, by rw [hN]; exact c3 N, Or.inl ⟨c1, rfl, c4, c5⟩, fr.tr c6⟩
  · obtain ⟨N, hN⟩ : ∃ N, FU = N + 1 + k := ⟨FU - k - 1, by have := FU_ge; omega⟩
    obtain ⟨g1, g2, g3⟩ := In_good hW hf (t + 1) t (by omega) ht T0 r T2 hG c1
    have hset := In_set hW hf (t + 1) t (by omega) ht T0 r T2 hG c1 T2 g1 ⟨[], by simp⟩
    have h25 : z3 25 t = nI r := by
      rcases c2.2.2.2 t ht with q | ⟨r', q1, q2⟩
      · exact absurd q c3
      · rw [hset] at q2
        cases q2
        exact q1
    refine ⟨nI r, z3, ?_, Or.inr ⟨r, T2, c1, rfl, c2.2.1, hz.tr c8⟩, fr.tr c7⟩
    rw [hN, show nI 1 = nI (0 + 1) from rfl, c9, lX9_instanceOf_42.eq_2]
    simp (disch := omega) only [lit, nI_leI, if_pos, inb_t, gd_t, rd_nI, h25]
end MRU
end
section
/-! the face: instance -/
def TU (B : Nat) (z : fS) : Prop := ∃ m, m ≤ B ∧ z 58 5 = nI m ∧ ∀ t, t < 120 → ∃ m', m' ≤ m ∧ z 60 t = nI m'
section BIN
variable {T R : List Tm} {S : List Sy} {tk : Nat → Bool} {lv : Nat} {rm : Nat → Nat → Bool} {ps pt i B t x y w : Nat} {zX zM z z' : fS}
theorem TU.fr (h : TU B z) (e58 : z' 58 = z 58) (e60 : z' 60 = z 60) : TU B z' := by unfold TU; rw [e58, e60]; exact h
theorem RQ.tu (h : RQ i T S tk lv rm ps pt zX zM) : TU (3456000 * i) zX := h.2.2.2.1.2.2.2.2
theorem RR.fu {n n' i' : Nat} (h : RR i n lv rm zX zM) (hn : n ≤ n') (eX : ∀ j, j = 16 ∨ (63 ≤ j ∧ j ≤ 68) ∨ j = 73 ∨ j = 74 → z j = zX j) (e0 : z 0 10 = zX 0 10) (e1 : z 0 11 = zX 0 11) (e2 : z 11 7 = zX 11 7) (eM : ∀ j, 9 ≤ j → j ≤ 16 → z' j = zM j) (m0 : ∀ f, f = 11 ∨ f = 14 ∨ f = 20 ∨ f = 25 → z' 0 f = zM 0 f) (hu : RU i' z) : RR i' n' lv rm z z' := by
  obtain ⟨⟨l1, l2, l3⟩, ⟨k, w1, w2, w3, w4⟩, ⟨k', p1, p2, p3, p4⟩, h4, _⟩ := h
  refine ⟨⟨e2.trans l1, (m0 11 (by omega)).trans l2, ?_⟩, ⟨k, w1, e0.trans w2, (m0 14 (by omega)).trans w3, ?_⟩, ⟨k', p1, ?_, (m0 20 (by omega)).trans p3, ?_⟩, ?_, hu⟩
  · rw [eX 16 (by omega), eM 9 (by omega) (by omega)]; exact l3
  · rw [eX 73 (by omega), eX 74 (by omega), eM 10 (by omega) (by omega), eM 11 (by omega) (by omega)]
    intro j hj
    obtain ⟨a, b, h1, h2, h3⟩ := w4 j hj
    exact ⟨a, b, by omega, by omega, h3⟩
  · rw [eX 63 (by omega)]; exact p2
  · rw [eX 64 (by omega), eX 65 (by omega), eX 66 (by omega), eX 67 (by omega), eX 68 (by omega), eM 12 (by omega) (by omega), eM 13 (by omega) (by omega), eM 14 (by omega) (by omega), eM 15 (by omega) (by omega), eM 16 (by omega) (by omega)]
    intro j hj
    obtain ⟨q1, q2, q3, a, b, h1, h2, h3⟩ := p4 j hj
    exact ⟨q1, q2, q3, a, b, by omega, by omega, h3⟩
  · rw [e1, m0 25 (by omega)]; exact h4
/-- the reference writes where nothing lasting is kept -/
theorem RQ.mfree (h : RQ i T S tk lv rm ps pt zX zM) (e : ∀ j, j < 22 → z' j = zM j) : RQ i T S tk lv rm ps pt zX z' :=
  h.sc h.1.ag (fun _ _ => rfl) (RM.fr h.2.2.1.1.1 h.2.1 (fun f _ => by rw [e 0 (by omega)]) (fun j _ _ => e j (by omega)) (e 20 (by omega))) (fun j _ _ => e j (by omega)) (fun f _ _ _ => by rw [e 0 (by omega)])
theorem RQ.fin0 (h : RQ i T S tk lv rm ps pt zX zM) (v : Int32) : Rel i (wrr zX 0 (upd (zX 0) 12 v)) (wrr zM 0 (upd (zM 0) 26 v)) := by
  obtain ⟨h1, h2, h3, h4, h5⟩ := h
  refine ⟨by rw [wrr_e, wrr_e, upd_e, upd_e], T, S, tk, lv, rm, ps, pt, ?_, h2.f0 h3.1.1 (by omega) (by omega) (by omega), h3, ?_, ?_⟩
  · exact h1.sc (h1.ag.fr fun j _ _ => wrr_n (by omega)) (fun j _ h0 => wrr_n h0) (fun j _ _ _ => wrr_n (by omega))
  · exact h4.fr (Nat.le_refl _) (Nat.le_refl _) (fun j hj => wrr_n (by omega)) (by rw [wrr_e, upd_n (by omega)]) (by rw [wrr_e, upd_n (by omega)]) (by rw [wrr_n (by omega)]) (fun j _ _ => wrr_n (by omega)) (fun f hf => by rw [wrr_e, upd_n (by omega)])
  · exact h5.fr (fun j _ _ => wrr_n (by omega)) (fun j hj => wrr_n (by omega)) (fun f hf => by rw [wrr_e, upd_n (by omega)])
/-- an instance is asked for of both -/
theorem both_inst (h : RQ i T S tk lv rm ps pt zX zM) (hT : TU B zX) (hB : B + 1 ≤ 3456000 * i) (hi : i ≤ 512) (ht : t < T.length) (hx : x < T.length) (hy : y < T.length) (hw : w < T.length) (h24 : ∀ h, h < 3 → zM 24 h = nI (fil x y w h)) : ∃ v zX' zM', fX8_madeInstance zX (nI t) (nI x) (nI y) (nI w) = some (v, zX') ∧ fX9_instanceOf zM (nI t) = some (v, zM') ∧ TU (B + 1) zX' ∧ ((v = -(nI 1) ∧ RQ i T S tk lv rm ps pt zX' zM') ∨ ∃ r R, v = nI r ∧ r < (T ++ R).length ∧ RQ i (T ++ R) S tk lv rm ps pt zX' zM') ∧ (∀ j, 63 ≤ j → zX' j = zX j) ∧ Mg zM zM' := by
  obtain ⟨h1, h2, h3, h4, h5⟩ := h
  obtain ⟨m, m1, m2, m3⟩ := hT
  have hW := h1.1.1
  have h120 := hW.1
  have hf : ∀ k, k < 3 → fil x y w k < T.length := fun k _ => by unfold fil; split; exact hx; split; exact hy; exact hw
  have hcnt : fX7_count zX = some (nI T.length) := by unfold fX7_count; rw [h1.1.2.2.1.1]
  obtain ⟨v, z1, a1, a2, a3, a4, a5⟩ := makeInstance_ok h1.1 m2 (by omega) m3 ht hx hy hw
  obtain ⟨v', zM1, b1, b2, b3⟩ := instanceOf_ok h2.1 hW h1.1.2.1 hf h24 ht
  have hTU : TU (B + 1) z1 := ⟨m + 1, by omega, a3, a4⟩
  have hRU : RU i z1 := ⟨m + 1, by omega, a3, a4⟩
  have hMs : MSy S tk zM1 := h2.2.1.fr (b3.2 9 (by omega) (by omega)) (fun j g1 g2 s _ => by rw [b3.1 j (by omega) (by omega) (by omega)]) h3.1.1
  have hRR : RR i T.length lv rm z1 zM1 := h4.fu (Nat.le_refl _) (fun j hj => a5 j (by omega)) (by rw [a5 0 (by omega)]) (by rw [a5 0 (by omega)]) (by rw [a5 11 (by omega)]) (fun j g1 g2 => b3.1 j (by omega) (by omega) (by omega)) (fun f hf => b3.2 f (by omega) (by omega)) hRU
  have hRK : RK z1 zM1 := h5.fr (fun j g1 g2 => a5 j (by omega)) (fun j hj => b3.1 j (by omega) (by omega) (by omega)) (fun f hf => b3.2 f (by omega) (by omega))
  have fin : ∀ {R : List Tm}, HX (T ++ R) z1 → RM (T ++ R) S tk zM1 → ∃ z2, fX8_madeInstance zX (nI t) (nI x) (nI y) (nI w) = some (v, z2) ∧ RQ i (T ++ R) S tk lv rm ps pt z2 zM1 ∧ TU (B + 1) z2 ∧ ∀ j, 63 ≤ j → z2 j = zX j := by
    intro R g1 g2
    obtain ⟨z2, c1, c2, c3⟩ := adm_ok h1 h3 g1 (fun j q1 q2 => a5 j (by omega)) g2 hRR hRK
    refine ⟨z2, ?_, c2, hTU.fr (c3 58 (by omega)) (c3 60 (by omega)), fun j hj => by rw [c3 j (by omega), a5 j (by omega)]⟩
    unfold fX8_madeInstance
    simp only [hcnt, bp_s, a1, bd_s, c1]
  rcases a2 with ⟨i1, rfl, i3⟩ | ⟨r, T', i1, rfl, i3, i4, i5⟩
  · rcases b2 with ⟨_, rfl, k3, k4⟩ | ⟨r, T', k1, _⟩
    · obtain ⟨z2, f1, f2, f3, f4⟩ := fin (R := []) (by rw [List.append_nil]; exact i3) (by rw [List.append_nil]; exact ⟨k3, hMs, Or.inl k4⟩)
      rw [List.append_nil] at f2
      exact ⟨_, z2, zM1, f1, b1, f3, Or.inl ⟨rfl, f2⟩, f4, b3⟩
    · rw [i1] at k1; cases k1
  · rcases b2 with ⟨k1, _⟩ | ⟨r', T2, k1, rfl, k3, k4⟩
    · rw [i1] at k1; cases k1
    · rw [i1] at k1
      cases k1
      obtain ⟨R, rfl⟩ := i4.1
      have hRM : RM (T ++ R) S tk zM1 := by
        refine ⟨k3, hMs, ?_⟩
        rcases k4 with ⟨q1, q2⟩ | q
        · rw [q1]
          rw [q2]
          rcases h2.2.2 with q | ⟨q, on, q3, q4⟩
          · exact Or.inl q
          · exact Or.inr ⟨q, on, fun t ht => by rw [b3.1 20 (by omega) (by omega) (by omega)]; exact q3 t ht, q4⟩
        · exact Or.inl q
      obtain ⟨z2, f1, f2, f3, f4⟩ := fin i3 hRM
      exact ⟨_, z2, zM1, f1, b1, f3, Or.inr ⟨r, R, rfl, i5, f2⟩, f4, b3⟩
end BIN
theorem s_instance : st_instance Rel := by
  intro i zX zM a b c e hi ⟨h0, T, S, tk, lv, rm, ps, pt, h⟩
  unfold fX8_instance fX9_instance
  rcases has_ok h a with ⟨x1, x2⟩ | ⟨m, m1, rfl, x1, x2⟩
  · refine ⟨-(nI 1), _, _, ?_, ?_, h.fin (nI 1)⟩
    · simp only [x1, bp_s, lit, if_true, refX, bd_s]
    · simp only [x2, bp_s, lit, if_true, refM, bd_s]
  · rcases has_ok h b with ⟨y1, y2⟩ | ⟨n, n1, rfl, y1, y2⟩
    · refine ⟨-(nI 1), _, _, ?_, ?_, h.fin (nI 1)⟩
      · simp (disch := omega) only [x1, y1, bp_s, lit, nI_eq, if_neg, if_true, refX, bd_s]
      · simp (disch := omega) only [x2, y2, bp_s, lit, nI_eq, if_neg, if_true, refM, bd_s]
    · rcases has_ok h c with ⟨c1, c2⟩ | ⟨o, o1, rfl, c1, c2⟩
      · refine ⟨-(nI 1), _, _, ?_, ?_, h.fin (nI 1)⟩
        · simp (disch := omega) only [x1, y1, c1, bp_s, lit, nI_eq, if_neg, if_true, refX, bd_s]
        · simp (disch := omega) only [x2, y2, c2, bp_s, lit, nI_eq, if_neg, if_true, refM, bd_s]
      · rcases has_ok h e with ⟨e1, e2⟩ | ⟨p, p1, rfl, e1, e2⟩
        · refine ⟨-(nI 1), _, _, ?_, ?_, h.fin (nI 1)⟩
          · simp (disch := omega) only [x1, y1, c1, e1, bp_s, lit, nI_eq, if_neg, if_true, refX, bd_s]
          · simp (disch := omega) only [x2, y2, c2, e2, bp_s, lit, nI_eq, if_neg, if_true, refM, bd_s]
        · obtain ⟨zM0', q0⟩ : ∃ q, q = wrr zM 24 (upd (upd (upd (zM 24) 0 (nI n)) 1 (nI o)) 2 (nI p)) := ⟨_, rfl⟩
          have hb : RQ (i + 1) T S tk lv rm ps pt zX zM0' := h.up.mfree fun j hj => by rw [q0, wrr_n (by omega)]
          have h24 : ∀ k, k < 3 → zM0' 24 k = nI (fil n o p k) := by
            intro k hk
            rw [q0, wrr_e]
            have : k = 0 ∨ k = 1 ∨ k = 2 := by omega
            rcases this with rfl | rfl | rfl
            · rw [upd_n (by omega), upd_n (by omega), upd_e]; rfl
            · rw [upd_n (by omega), upd_e]; rfl
            · rw [upd_e]; rfl
          obtain ⟨v, zX', zM', g1, g2, g3, g4, _, _⟩ := both_inst (B := 3456000 * i) hb h.tu (by omega) (by omega) m1 n1 o1 p1 h24
          simp (disch := omega) only [x1, y1, c1, e1, x2, y2, c2, e2, bp_s, lit, nI_eq, if_neg, inb_t, gd_t, wr_nI, wrr_e, wrr_wrr, bnd_s]
          rw [← q0, g1, g2]
          simp only [bd_s]
          unfold fX9_answer
          rcases g4 with ⟨rfl, g4⟩ | ⟨r, R, rfl, g5, g4⟩
          · refine ⟨-(nI 1), wrr zX' 0 (upd (zX' 0) 12 (nI 3)), wrr zM' 0 (upd (zM' 0) 26 (nI 3)), ?_, ?_, ?_⟩
            · simp only [litm, if_true, refX, bd_s]
            · simp only [lit, m1_le0, if_false, refM, bd_s]
            · exact g4.fin0 (nI 3)
          · have h120 := g4.1.1.1.1
            refine ⟨nI r, wrr zX' 0 (upd (zX' 0) 12 (nI 0)), wrr zM' 0 (upd (zM' 0) 26 (nI 0)), ?_, ?_, ?_⟩
            · simp (disch := omega) only [litm, nI_m1n, if_false, doneX, bd_s]
            · simp (disch := omega) only [lit, nI_leI, Nat.zero_le, if_true, doneM, bd_s]
            · exact g4.fin0 (nI 0)
end
section
/-! heads to go over, and the holes that stand in a law -/
def hB (T : List Tm) (on : Nat → Nat) (t : Nat) : Bool := decide (on t = t) && !hoB (gT T t)
section HDS
variable {T : List Tm} {S : List Sy} {tk : Nat → Bool} {lv : Nat} {rm : Nat → Nat → Bool} {ps pt i : Nat} {zX zM z z' : fS} {on : Nat → Nat} {H : Nat → Nat}
theorem pl_put {tk : Nat → Bool} {n c : Nat} {z : fS} (h : tk n = true) (hp : ∀ k, k < cnt tk n → z c k = nI ((pl tk n).getD k 0)) : ∀ k, k < cnt tk (n + 1) → upd (z c) (cnt tk n) (nI n) k = nI ((pl tk (n + 1)).getD k 0) := by
  intro k hk
  rw [cnt_s, h] at hk
  simp at hk
  rw [pl_t h]
  rcases Nat.eq_or_lt_of_le (Nat.le_of_lt_succ hk) with rfl | hk
  · have e : (pl tk n ++ [n]).getD (cnt tk n) 0 = n := by rw [← pl_len]; exact gD_r
    rw [e, upd_e]
  · rw [gD_l (by rw [pl_len]; exact hk), upd_n (by omega)]
    exact hp k hk
theorem pl_pass {tk : Nat → Bool} {n c : Nat} {z : fS} (h : tk n = false) (hp : ∀ k, k < cnt tk n → z c k = nI ((pl tk n).getD k 0)) : ∀ k, k < cnt tk (n + 1) → z c k = nI ((pl tk (n + 1)).getD k 0) := by
  intro k hk
  rw [cnt_s, h] at hk
  rw [pl_f h]
  exact hp k (by simpa using hk)
theorem cnt_t {p : Nat → Bool} {n : Nat} (h : p n = true) : cnt p (n + 1) = cnt p n + 1 := by rw [cnt_s, h]; rfl
theorem cnt_f {p : Nat → Bool} {n : Nat} (h : p n = false) : cnt p (n + 1) = cnt p n := by rw [cnt_s, h]; rfl
theorem gather_loop (h : RQ i T S tk lv rm ps pt zX zM) (hh : ∀ t, t < T.length → fX4_headOf ps zX (nI t) = some (nI (on t))) (ho : ∀ t, t < T.length → on t ≤ t) : ∀ (d t N : Nat) (z : fS), t + d = T.length → d < N → (∀ j, j ≠ 75 → z j = zX j) → (∀ k, k < cnt (hB T on) t → z 75 k = nI ((pl (hB T on) t).getD k 0)) → ∃ z', lX8_gatherHeads_4 N (nI (cnt (hB T on) t)) (nI t) z = some (nI (cnt (hB T on) T.length), z') ∧ (∀ j, j ≠ 75 → z' j = zX j) ∧ (∀ k, k < cnt (hB T on) T.length → z' 75 k = nI ((pl (hB T on) T.length).getD k 0)) := by
  have hn := h.1.1.1.1
  have hT := h.1.1.2.2.1
  have hps := h.1.2.2.1.1
  have hnu := h.1.2.2.1.num
  intro d
  induction d with
  | zero =>
    intro t N z ht hN he hp
    obtain ⟨N, rfl⟩ : ∃ M, N = M + 1 := ⟨N - 1, by omega⟩
    have e : t = T.length := by omega
    subst e
    refine ⟨z, ?_, he, hp⟩
    have hc : fX7_count z = some (nI T.length) := by unfold fX7_count; rw [he 1 (by omega), hT.1]
    rw [lX8_gatherHeads_4.eq_2]
    simp (disch := omega) only [hc, bp_s, nI_leI, if_pos]
  | succ d ih =>
    intro t N z ht hN he hp
    obtain ⟨N, rfl⟩ : ∃ M, N = M + 1 := ⟨N - 1, by omega⟩
    have hc : fX7_count z = some (nI T.length) := by unfold fX7_count; rw [he 1 (by omega), hT.1]
    have hst : fX2_standing z = some (zX 17 3) := by unfold fX2_standing; rw [he 17 (by omega)]
    have hhd : fX4_headOf ps z (nI t) = some (nI (on t)) := by
      rw [← hh t (by omega)]
      unfold fX4_headOf rd
      rw [he (ps + 1) (by omega), he (ps + 4) (by omega)]
    have eT := hT.2 t (by omega)
    have hho := isHole_v (z := z) (t := t) (tm := gT T t) (by omega) (by rw [he 2 (by omega)]; exact eT.1) (by rw [he 3 (by omega)]; exact eT.2.1)
    have hcl := cnt_le (hB T on) t
    have ho := ho t (by omega)
    rw [lX8_gatherHeads_4.eq_2]
    by_cases q1 : on t = t
    · cases q2 : hoB (gT T t)
      · have hb : hB T on t = true := by unfold hB; rw [q2]; simp [q1]
        rw [q2, bI_f] at hho
        obtain ⟨z', e1, e2, e3⟩ := ih (t + 1) N (wrr z 75 (upd (z 75) (cnt (hB T on) t) (nI t))) (by omega) (by omega) (fun j hj => by rw [wrr_n hj]; exact he j hj) (by rw [wrr_e]; exact pl_put hb hp)
        refine ⟨z', ?_, e2, e3⟩
        rw [cnt_t hb] at e1
        simp (disch := omega) only [hc, bp_s, nI_leI, if_neg, hst, hps, hhd, q1, if_true, hho, lit, inb_t, gd_t, wr_nI, bnd_s, nI_add]
        exact e1
      · have hb : hB T on t = false := by unfold hB; rw [q2]; simp
        rw [q2, bI_t] at hho
        obtain ⟨z', e1, e2, e3⟩ := ih (t + 1) N z (by omega) (by omega) he (pl_pass hb hp)
        refine ⟨z', ?_, e2, e3⟩
        rw [cnt_f hb] at e1
        simp (disch := omega) only [hc, bp_s, nI_leI, if_neg, hst, hps, hhd, q1, if_true, hho, lit, nI_eq, bnd_s, nI_add]
        exact e1
    · have hb : hB T on t = false := by unfold hB; simp [q1]
      obtain ⟨z', e1, e2, e3⟩ := ih (t + 1) N z (by omega) (by omega) he (pl_pass hb hp)
      refine ⟨z', ?_, e2, e3⟩
      rw [cnt_f hb] at e1
      simp (disch := omega) only [hc, bp_s, nI_leI, if_neg, hst, hps, hhd, nI_eq, q1, if_false, lit, bnd_s, nI_add]
      exact e1
theorem heads_loop (hn : T.length ≤ 120) (hM : MT T zM) (hO : MO T.length on zM) : ∀ (d t N : Nat) (z : fS), t + d = T.length → d < N → (∀ j, j ≠ 0 → j ≠ 30 → z j = zM j) → (∀ f, f ≠ 40 → z 0 f = zM 0 f) → z 0 40 = nI (cnt (hB T on) t) → (∀ k, k < cnt (hB T on) t → z 30 k = nI ((pl (hB T on) t).getD k 0)) → ∃ z', lX9_findHeads_11 N (nI t) z = some z' ∧ (∀ j, j ≠ 0 → j ≠ 30 → z' j = zM j) ∧ (∀ f, f ≠ 40 → z' 0 f = zM 0 f) ∧ z' 0 40 = nI (cnt (hB T on) T.length) ∧ (∀ k, k < cnt (hB T on) T.length → z' 30 k = nI ((pl (hB T on) T.length).getD k 0)) := by
  intro d
  induction d with
  | zero =>
    intro t N z ht hN he h0 h40 hp
    obtain ⟨N, rfl⟩ : ∃ M, N = M + 1 := ⟨N - 1, by omega⟩
    have e : t = T.length := by omega
    subst e
    refine ⟨z, ?_, he, h0, h40, hp⟩
    have hc : z 0 4 = nI T.length := by rw [h0 4 (by omega)]; exact hM.1
    rw [lX9_findHeads_11.eq_2]
    simp (disch := omega) only [hc, nI_leI, if_pos]
  | succ d ih =>
    intro t N z ht hN he h0 h40 hp
    obtain ⟨N, rfl⟩ : ∃ M, N = M + 1 := ⟨N - 1, by omega⟩
    have hc : z 0 4 = nI T.length := by rw [h0 4 (by omega)]; exact hM.1
    have o := hO t (by omega)
    have h20 : z 20 t = nI (on t) := by rw [he 20 (by omega) (by omega)]; exact o.1
    have eT := hM.2 t (by omega)
    have hho := isHoleM_v (z := z) (t := t) (tm := gT T t) (by omega) (by rw [he 1 (by omega) (by omega)]; exact eT.1) (by rw [he 2 (by omega) (by omega)]; exact eT.2.1)
    have hcl := cnt_le (hB T on) t
    rw [lX9_findHeads_11.eq_2]
    by_cases q1 : on t = t
    · cases q2 : hoB (gT T t)
      · have hb : hB T on t = true := by unfold hB; rw [q2]; simp [q1]
        rw [q2, bI_f] at hho
        obtain ⟨z', e1, e2⟩ := ih (t + 1) N (wrr (wrr z 30 (upd (z 30) (cnt (hB T on) t) (nI t))) 0 (upd (z 0) 40 (nI (cnt (hB T on) t + 1)))) (by omega) (by omega) (fun j g1 g2 => by rw [wrr_n g1, wrr_n g2]; exact he j g1 g2) (fun f hf => by rw [wrr_e, upd_n hf]; exact h0 f hf) (by rw [wrr_e, upd_e, cnt_t hb]) (by rw [wrr_n (by omega), wrr_e]; exact pl_put hb hp)
        refine ⟨z', ?_, e2⟩
        simp (disch := omega) only [hc, nI_leI, if_neg, inb_t, gd_t, rd_nI, h20, q1, if_true, hho, bp_s, lit, h40, wr_nI, bnd_s, wf_w, wrr_n, nI_add]
        exact e1
      · have hb : hB T on t = false := by unfold hB; rw [q2]; simp
        rw [q2, bI_t] at hho
        obtain ⟨z', e1, e2⟩ := ih (t + 1) N z (by omega) (by omega) he h0 (by rw [cnt_f hb]; exact h40) (pl_pass hb hp)
        refine ⟨z', ?_, e2⟩
        simp (disch := omega) only [hc, nI_leI, if_neg, inb_t, gd_t, rd_nI, h20, q1, if_true, hho, bp_s, lit, nI_eq, bnd_s, nI_add]
        exact e1
    · have hb : hB T on t = false := by unfold hB; simp [q1]
      obtain ⟨z', e1, e2⟩ := ih (t + 1) N z (by omega) (by omega) he h0 (by rw [cnt_f hb]; exact h40) (pl_pass hb hp)
      refine ⟨z', ?_, e2⟩
      simp (disch := omega) only [hc, nI_leI, if_neg, inb_t, gd_t, rd_nI, h20, nI_eq, q1, if_false, lit, bnd_s, nI_add]
      exact e1
theorem orl_bit {h : Nat} : ∀ {l : List Nat} {m : Nat}, (orl H l m).testBit h = true ↔ m.testBit h = true ∨ ∃ p, p ∈ l ∧ (H p).testBit h = true
  | [], m => ⟨fun q => Or.inl q, fun q => by rcases q with q | ⟨p, q, _⟩; exact q; cases q⟩
  | q :: l, m => by
    have e : orl H (q :: l) m = orl H l (m ||| H q) := rfl
    rw [e, orl_bit (l := l) (m := m ||| H q), Nat.testBit_or]
    constructor
    · rintro (w | ⟨p, p1, p2⟩)
      · rcases Bool.or_eq_true_iff.mp w with w | w
        · exact Or.inl w
        · exact Or.inr ⟨q, List.mem_cons_self, w⟩
      · exact Or.inr ⟨p, List.mem_cons_of_mem _ p1, p2⟩
    · rintro (w | ⟨p, p1, p2⟩)
      · exact Or.inl (Bool.or_eq_true_iff.mpr (Or.inl w))
      · rcases List.mem_cons.mp p1 with rfl | p1
        · exact Or.inl (Bool.or_eq_true_iff.mpr (Or.inr p2))
        · exact Or.inr ⟨p, p1, p2⟩
theorem hbit_bit (tm : Tm) {h : Nat} (hh : h < 3) : (hbit tm).testBit h = true ↔ hbit tm ≠ 0 ∧ hix tm = h := by
  have key : ∀ b : Nat, b = 0 ∨ b = 1 ∨ b = 2 ∨ b = 4 → ∀ h : Nat, h = 0 ∨ h = 1 ∨ h = 2 → (b.testBit h = true ↔ b ≠ 0 ∧ b / 2 = h) := by
    rintro b (rfl | rfl | rfl | rfl) h (rfl | rfl | rfl) <;> decide
  unfold hix
  refine key (hbit tm) ?_ h (by omega)
  rcases hbit_cases tm with q | ⟨_, ⟨_, q⟩ | ⟨_, q⟩ | ⟨_, q⟩⟩ <;> omega
theorem and_bits {n : Nat} (h : n < 8) : (nI n &&& nI 1 = nI 0 ↔ n.testBit 0 = false) ∧ (nI n &&& nI 2 = nI 0 ↔ n.testBit 1 = false) ∧ (nI n &&& nI 4 = nI 0 ↔ n.testBit 2 = false) := by
  have key : ∀ a : Fin 8, (nI a.1 &&& nI 1 = nI 0 ↔ a.1.testBit 0 = false) ∧ (nI a.1 &&& nI 2 = nI 0 ↔ a.1.testBit 1 = false) ∧ (nI a.1 &&& nI 4 = nI 0 ↔ a.1.testBit 2 = false) := by decide
  exact key ⟨n, h⟩
end HDS
section HDS2
variable {T : List Tm} {z z' : fS} {H : Nat → Nat}
theorem mark_loop (hW : WT T) {u : Nat} (hu : u < T.length) {k104 : fS → Option fS} : ∀ (d j N : Nat) (z : fS) (se : Nat → Bool), j + d = sz T u → d < N → MT T z → (∀ v, v < T.length → z 29 v = bI (se v)) → ∃ (z' : fS) (se' : Nat → Bool), lX9_lookForHoles_72 k104 (nI u) N (nI j) z = k104 z' ∧ (∀ v, v < T.length → z' 29 v = bI (se' v)) ∧ (∀ v, se' v = true ↔ se v = true ∨ ∃ l, j ≤ l ∧ l < sz T u ∧ v = pt T u l) ∧ (∀ c, c ≠ 29 → z' c = z c) := by
  have hn := hW.1
  have hs := hW.2 u hu
  intro d
  induction d with
  | zero =>
    intro j N z se hj hN hM h29
    obtain ⟨N, rfl⟩ : ∃ M, N = M + 1 := ⟨N - 1, by omega⟩
    have e3 := (hM.2 u hu).2.2.1
    refine ⟨z, se, ?_, h29, fun v => ⟨Or.inl, fun q => ?_⟩, fun _ _ => rfl⟩
    · rw [lX9_lookForHoles_72.eq_2]
      simp (disch := omega) only [inb_t, gd_t, rd_nI, e3, nI_leI, if_pos]
    · rcases q with q | ⟨l, l1, l2, _⟩
      · exact q
      · omega
  | succ d ih =>
    intro j N z se hj hN hM h29
    obtain ⟨N, rfl⟩ : ∃ M, N = M + 1 := ⟨N - 1, by omega⟩
    have e3 := (hM.2 u hu).2.2.1
    have e4 := (hM.2 u hu).2.2.2 j (by omega)
    have hp := hs.2.1 j (by omega)
    obtain ⟨z', se', e1, e2, e5, e6⟩ := ih (j + 1) N (wrr z 29 (upd (z 29) (pt T u j) (nI 1))) (fun v => if v = pt T u j then true else se v) (by omega) (by omega) (hM.fr (by rw [wrr_n (by omega)]) fun c g1 g2 => wrr_n (by omega)) (fun v hv => by
      rw [wrr_e]
      by_cases q : v = pt T u j
      · rw [q, upd_e, if_pos rfl, bI_t]
      · rw [upd_n q, if_neg q]; exact h29 v hv)
    refine ⟨z', se', ?_, e2, fun v => ?_, fun c hc => (e6 c hc).trans (wrr_n hc)⟩
    · rw [lX9_lookForHoles_72.eq_2]
      simp (disch := omega) only [inb_t, gd_t, rd_nI, e3, nI_leI, if_neg, lit, nI_mul, nI_add, e4, zb_1, wr_nI, bnd_s]
      exact e1
    · rw [e5 v]
      by_cases q : v = pt T u j
      · rw [if_pos q]
        exact ⟨fun _ => Or.inr ⟨j, Nat.le_refl _, by omega, q⟩, fun _ => Or.inl rfl⟩
      · rw [if_neg q]
        constructor
        · rintro (w | ⟨l, l1, l2, l3⟩)
          · exact Or.inl w
          · exact Or.inr ⟨l, by omega, l2, l3⟩
        · rintro (w | ⟨l, l1, l2, l3⟩)
          · exact Or.inl w
          · rcases Nat.eq_or_lt_of_le l1 with rfl | l1
            · exact absurd l3 q
            · exact Or.inr ⟨l, l1, l2, l3⟩
theorem holes_down (hW : WT T) (hH : IsH T H) : ∀ (i N : Nat) (z : fS) (st se : Nat → Bool), i ≤ T.length → i < N → MT T z → (∀ h, h < 3 → z 28 h = bI (st h)) → (∀ v, v < T.length → z 29 v = bI (se v)) → ∃ (z' : fS) (st' : Nat → Bool), lX9_lookForHoles_34 N (pI i) z = some z' ∧ (∀ h, h < 3 → z' 28 h = bI (st' h)) ∧ (∀ h, h < 3 → (st' h = true ↔ st h = true ∨ ∃ v, v < i ∧ se v = true ∧ (H v).testBit h = true)) ∧ (∀ c, c ≠ 28 → c ≠ 29 → z' c = z c) := by
  have hn := hW.1
  intro i
  induction i with
  | zero =>
    intro N z st se hi hN hM h28 h29
    obtain ⟨N, rfl⟩ : ∃ M, N = M + 1 := ⟨N - 1, by omega⟩
    refine ⟨z, st, ?_, h28, fun h hh => ⟨Or.inl, fun q => ?_⟩, fun _ _ _ => rfl⟩
    · rw [lX9_lookForHoles_34.eq_2]
      simp only [lit, pI_0, m1_lt0, if_true]
    · rcases q with q | ⟨v, v1, _⟩
      · exact q
      · omega
  | succ i ih =>
    intro N z st se hi hN hM h28 h29
    obtain ⟨N, rfl⟩ : ∃ M, N = M + 1 := ⟨N - 1, by omega⟩
    have hu : i < T.length := by omega
    have e29 := h29 i hu
    have eT := hM.2 i hu
    have hho := isHoleM_v (z := z) (t := i) (tm := gT T i) (by omega) eT.1 eT.2.1
    have e2 : z 2 i = (gT T i).2.1 := eT.2.1
    have hs := hW.2 i hu
    cases q : se i
    · rw [q, bI_f] at e29
      obtain ⟨z', st', e1, e2, e3, e4⟩ := ih N z st se (by omega) (by omega) hM h28 h29
      refine ⟨z', st', ?_, e2, fun h hh => ?_, e4⟩
      · rw [lX9_lookForHoles_34.eq_2]
        unfold jX9_lookForHoles_104
        simp (disch := omega) only [pI_s, Nat.add_sub_cancel, lit, litm, nI_ltI, if_neg, inb_t, gd_t, rd_nI, e29, if_true, pI_dec, bnd_s]
        exact e1
      · rw [e3 h hh]
        constructor
        · rintro (w | ⟨v, v1, v2⟩)
          · exact Or.inl w
          · exact Or.inr ⟨v, by omega, v2⟩
        · rintro (w | ⟨v, v1, v2, v3⟩)
          · exact Or.inl w
          · rcases Nat.eq_or_lt_of_le (Nat.le_of_lt_succ v1) with rfl | v1
            · rw [q] at v2; cases v2
            · exact Or.inr ⟨v, v1, v2, v3⟩
    · rw [q, bI_t] at e29
      -- the holes that stand, with this one
      have hol : ∃ (z1 : fS) (st1 : Nat → Bool), lX9_lookForHoles_34 (N + 1) (pI (i + 1)) z = jX9_lookForHoles_70 (lX9_lookForHoles_34 N) (nI i) z1 ∧ (∀ h, h < 3 → z1 28 h = bI (st1 h)) ∧ (∀ h, h < 3 → (st1 h = true ↔ st h = true ∨ (hbit (gT T i)).testBit h = true)) ∧ (∀ c, c ≠ 28 → z1 c = z c) := by
        by_cases w : hbit (gT T i) = 0
        · have eb : hoB (gT T i) = false := by unfold hoB; rw [w]; rfl
          rw [eb, bI_f] at hho
          refine ⟨z, st, ?_, h28, fun h hh => ⟨Or.inl, fun q => ?_⟩, fun _ _ => rfl⟩
          · rw [lX9_lookForHoles_34.eq_2]
            simp (disch := omega) only [pI_s, Nat.add_sub_cancel, lit, nI_ltI, if_neg, inb_t, gd_t, rd_nI, e29, nI_eq, hho, bp_s, if_true]
          · rcases q with q | q
            · exact q
            · rw [hbit_bit _ hh] at q
              exact absurd w q.1
        · have eb : hoB (gT T i) = true := by unfold hoB; simp [w]
          rw [eb, bI_t] at hho
          have hlt := hix_lt (gT T i)
          have hsb := hix_sub w
          refine ⟨wrr z 28 (upd (z 28) (hix (gT T i)) (nI 1)), tkx st (hix (gT T i)) true, ?_, fun h hh => ?_, fun h hh => ?_, fun c hc => wrr_n hc⟩
          · rw [lX9_lookForHoles_34.eq_2]
            simp (disch := omega) only [pI_s, Nat.add_sub_cancel, lit, nI_ltI, if_neg, inb_t, gd_t, rd_nI, e29, nI_eq, hho, bp_s, e2, hsb, zb_1, wr_nI, bnd_s]
          · rw [wrr_e]
            by_cases q : h = hix (gT T i)
            · rw [q, upd_e, tkx_e, bI_t]
            · rw [upd_n q, tkx_n q]; exact h28 h hh
          · rw [hbit_bit _ hh]
            by_cases q : h = hix (gT T i)
            · rw [← q, tkx_e]
              exact ⟨fun _ => Or.inr ⟨w, rfl⟩, fun _ => rfl⟩
            · rw [tkx_n q]
              exact ⟨Or.inl, fun r => r.elim id fun r => absurd r.2.symm q⟩
      obtain ⟨z1, st1, a1, a2, a3, a4⟩ := hol
      have hM1 : MT T z1 := hM.fr (by rw [a4 0 (by omega)]) fun c g1 g2 => a4 c (by omega)
      obtain ⟨z2, se2, b1, b2, b3, b4⟩ := mark_loop hW hu (k104 := jX9_lookForHoles_104 (lX9_lookForHoles_34 N) (nI i)) (sz T i) 0 FU z1 se (by omega) (by have := FU_ge; omega) hM1 (by rw [a4 29 (by omega)]; exact h29)
      obtain ⟨z3, st3, c1, c2, c3, c4⟩ := ih N z2 st1 se2 (by omega) (by omega) (hM1.fr (by rw [b4 0 (by omega)]) fun c g1 g2 => b4 c (by omega)) (by rw [b4 28 (by omega)]; exact a2) b2
      refine ⟨z3, st3, ?_, c2, fun h hh => ?_, fun c g1 g2 => by rw [c4 c g1 g2, b4 c g2, a4 c g1]⟩
      · rw [a1]
        unfold jX9_lookForHoles_70
        simp only [lit]
        rw [b1]
        unfold jX9_lookForHoles_104
        simp only [litm, pI_dec, bnd_s]
        exact c1
      · rw [c3 h hh, a3 h hh]
        have hHi : (H i).testBit h = true ↔ (hbit (gT T i)).testBit h = true ∨ ∃ p, p ∈ pts T i ∧ (H p).testBit h = true := by rw [(hH i hu).1]; exact orl_bit
        constructor
        · rintro ((w | w) | ⟨v, v1, v2, v3⟩)
          · exact Or.inl w
          · exact Or.inr ⟨i, by omega, q, hHi.mpr (Or.inl w)⟩
          · rcases (b3 v).mp v2 with v2 | ⟨l, _, l2, rfl⟩
            · exact Or.inr ⟨v, by omega, v2, v3⟩
            · exact Or.inr ⟨i, by omega, q, hHi.mpr (Or.inr ⟨_, gD_mem l2, v3⟩)⟩
        · rintro (w | ⟨v, v1, v2, v3⟩)
          · exact Or.inl (Or.inl w)
          · rcases Nat.eq_or_lt_of_le (Nat.le_of_lt_succ v1) with rfl | v1
            · rcases hHi.mp v3 with w | ⟨p, p1, p2⟩
              · exact Or.inl (Or.inr w)
              · obtain ⟨l, l1, l2⟩ := mem_gD p1
                have hlt := pts_lt hW hu p1
                exact Or.inr ⟨p, hlt, (b3 p).mpr (Or.inr ⟨l, Nat.zero_le _, l1, l2.symm⟩), p2⟩
            · exact Or.inr ⟨v, v1, (b3 v).mpr (Or.inl v2), v3⟩
theorem seen_loop (hn : T.length ≤ 120) {t : Nat} (ht : t < T.length) {k32 : fS → Option fS} : ∀ (d u N : Nat) (z : fS), u + d = T.length → d < N → z 0 4 = nI T.length → (∀ v, v < u → z 29 v = bI (decide (v = t))) → ∃ z', lX9_lookForHoles_2 k32 (nI t) N (nI u) z = k32 z' ∧ (∀ v, v < T.length → z' 29 v = bI (decide (v = t))) ∧ (∀ c, c ≠ 29 → z' c = z c) := by
  intro d
  induction d with
  | zero =>
    intro u N z hu hN h4 h29
    obtain ⟨N, rfl⟩ : ∃ M, N = M + 1 := ⟨N - 1, by omega⟩
    refine ⟨z, ?_, fun v hv => h29 v (by omega), fun _ _ => rfl⟩
    rw [lX9_lookForHoles_2.eq_2]
    simp (disch := omega) only [h4, nI_leI, if_pos]
  | succ d ih =>
    intro u N z hu hN h4 h29
    obtain ⟨N, rfl⟩ : ∃ M, N = M + 1 := ⟨N - 1, by omega⟩
    obtain ⟨z', e1, e2, e3⟩ := ih (u + 1) N (wrr z 29 (upd (z 29) u (bI (decide (u = t))))) (by omega) (by omega) (by rw [wrr_n (by omega)]; exact h4) (fun v hv => by
      rw [wrr_e]
      by_cases q : v = u
      · rw [q, upd_e]
      · rw [upd_n q]; exact h29 v (by omega))
    refine ⟨z', ?_, e2, fun c hc => (e3 c hc).trans (wrr_n hc)⟩
    rw [lX9_lookForHoles_2.eq_2]
    by_cases q : u = t
    · rw [decide_eq_true q, bI_t] at e1
      simp (disch := omega) only [h4, nI_leI, if_neg, q, if_true, inb_t, gd_t, lit, zb_1, wr_nI, bnd_s, nI_add]
      rw [q] at e1
      exact e1
    · rw [decide_eq_false q, bI_f] at e1
      simp (disch := omega) only [h4, nI_leI, if_neg, nI_eq, q, if_false, inb_t, gd_t, lit, zb_0, wr_nI, bnd_s, nI_add]
      exact e1
theorem lookHoles_ok (hW : WT T) (hH : IsH T H) (hM : MT T z) {t : Nat} (ht : t < T.length) {st : Nat → Bool} (h28 : ∀ h, h < 3 → z 28 h = bI (st h)) : ∃ (z' : fS) (st' : Nat → Bool), fX9_lookForHoles z (nI t) = some z' ∧ (∀ h, h < 3 → z' 28 h = bI (st' h)) ∧ (∀ h, h < 3 → (st' h = true ↔ st h = true ∨ (H t).testBit h = true)) ∧ (∀ c, c ≠ 28 → c ≠ 29 → z' c = z c) := by
  have hn := hW.1
  obtain ⟨z1, a1, a2, a3⟩ := seen_loop hn ht (k32 := jX9_lookForHoles_32 (nI t)) T.length 0 FU z (by omega) (by have := FU_ge; omega) hM.1 (fun v hv => by omega)
  obtain ⟨z2, st2, b1, b2, b3, b4⟩ := holes_down hW hH (t + 1) FU z1 st (fun v => decide (v = t)) (by omega) (by have := FU_ge; omega) (hM.fr (by rw [a3 0 (by omega)]) fun c g1 g2 => a3 c (by omega)) (by rw [a3 28 (by omega)]; exact h28) a2
  refine ⟨z2, st2, ?_, b2, fun h hh => ?_, fun c g1 g2 => by rw [b4 c g1 g2, a3 c g2]⟩
  · unfold fX9_lookForHoles
    simp only [lit]
    rw [a1]
    unfold jX9_lookForHoles_32
    rw [pI_s (by omega), Nat.add_sub_cancel] at b1
    exact b1
  · rw [b3 h hh]
    constructor
    · rintro (w | ⟨v, _, v2, v3⟩)
      · exact Or.inl w
      · have e : v = t := of_decide_eq_true v2
        subst e
        exact Or.inr v3
    · rintro (w | w)
      · exact Or.inl w
      · exact Or.inr ⟨t, by omega, decide_eq_true rfl, w⟩
end HDS2
end
section
/-! the face: follow -/
def FS (i lv : Nat) (rm : Nat → Nat → Bool) (n0 s0 n k hm : Nat) (hd : Nat → Nat) (bb B : Nat) (z y : fS) : Prop := TU B z ∧ (∀ q, q < hm → z 75 q = nI (hd q) ∧ y 30 q = nI (hd q)) ∧ y 0 14 = nI k ∧ ∃ T S tk ps pt c, RQ i T S tk lv rm ps pt z y ∧ n0 ≤ T.length ∧ S.length = s0 + c ∧ y 0 41 = nI c ∧ c < n + bb
section FOL
variable {T : List Tm} {S : List Sy} {tk : Nat → Bool} {lv : Nat} {rm : Nat → Nat → Bool} {ps pt i n0 s0 n k hm bb B B' l x y w : Nat} {hd : Nat → Nat} {zX zM z z' u u' : fS}
theorem TU.le (h : TU B z) (hb : B ≤ B') : TU B' z := by
  obtain ⟨m, m1, m2⟩ := h
  exact ⟨m, by omega, m2⟩
theorem FS.le (h : FS i lv rm n0 s0 n k hm hd bb B z u) (hb : B ≤ B') : FS i lv rm n0 s0 n k hm hd bb B' z u := ⟨h.1.le hb, h.2⟩
theorem FS.end (h : FS i lv rm n0 s0 n k hm hd 0 B z u) : FS i lv rm n0 s0 n k hm hd 1 B z u := by
  obtain ⟨h1, h2, h3, T, S, tk, ps, pt, c, h4, h5, h6, h7, h8⟩ := h
  exact ⟨h1, h2, h3, T, S, tk, ps, pt, c, h4, h5, h6, h7, by omega⟩
theorem FS.m24 (h : FS i lv rm n0 s0 n k hm hd bb B z u) (e : ∀ j, j ≠ 24 → u' j = u j) : FS i lv rm n0 s0 n k hm hd bb B z u' := by
  obtain ⟨h1, h2, h3, T, S, tk, ps, pt, c, h4, h5, h6, h7, h8⟩ := h
  refine ⟨h1, ?_, ?_, T, S, tk, ps, pt, c, h4.mfree fun j hj => e j (by omega), h5, h6, ?_, h8⟩
  · rw [e 30 (by omega)]; exact h2
  · rw [e 0 (by omega)]; exact h3
  · rw [e 0 (by omega)]; exact h7
theorem RQ.m4x (h : RQ i T S tk lv rm ps pt zX zM) {f : Nat} (hf : f = 40 ∨ f = 41) (v : Int32) : RQ i T S tk lv rm ps pt zX (wrr zM 0 (upd (zM 0) f v)) :=
  h.sc h.1.ag (fun _ _ => rfl) (h.2.1.f0 h.2.2.1.1.1 (by omega) (by omega) (by omega)) (fun j _ _ => wrr_n (by omega)) (fun g _ g1 g2 => by rw [wrr_e, upd_n (by omega)])
theorem RW.at {n : Nat} (h : RW n zX zM) (hk : zM 0 14 = nI k) (hk10 : k ≤ 10) (hl : l < k) : ∃ a b, a < n ∧ b < n ∧ zX 73 l = nI a ∧ zM 10 l = nI a ∧ zX 74 l = nI b ∧ zM 11 l = nI b := by
  obtain ⟨k', k1, k2, k3, k4⟩ := h
  rw [hk, nI_eq (by omega) (by omega)] at k3
  exact k4 l (by omega)
theorem law_step (hF : FS i lv rm n0 s0 n k hm hd 0 B z u) (h24 : ∀ h, h < 3 → u 24 h = nI (fil x y w h)) (hB : B + 2 ≤ 3456000 * i) (hi : i ≤ 512) (hl : l < k) (hk : k ≤ 10) (hn : n ≤ 50) (hx : x < n0) (hy : y < n0) (hw : w < n0) : ∃ e e' z' u', fX8_applyLaw z (nI l) (nI x) (nI y) (nI w) = some (nI e, z') ∧ fX9_goOn u (nI l) (nI n) = some (nI e', u') ∧ ((e = 0 ∧ e' = 0 ∧ FS i lv rm n0 s0 n k hm hd 0 (B + 2) z' u') ∨ (e = 0 ∧ e' = 1 ∧ FS i lv rm n0 s0 n k hm hd 1 (B + 2) z' u' ∧ fX5_count z' = some (nI (s0 + n))) ∨ (2 ≤ e ∧ e ≤ 4 ∧ e' = e ∧ FS i lv rm n0 s0 n k hm hd 1 (B + 2) z' u')) := by
  obtain ⟨h1, h2, h3, T, S, tk, ps, pt, c, h4, h5, h6, h7, h8⟩ := hF
  obtain ⟨la, lb, l1, l2, l3, l4, l5, l6⟩ := h4.2.2.2.1.2.1.at h3 hk hl
  obtain ⟨va, z1, u1, a1, a2, a3, a4, a5, a6⟩ := both_inst h4 h1 (by omega) hi l1 (by omega) (by omega) (by omega) h24
  unfold fX8_applyLaw fX9_goOn
  simp (disch := omega) only [inb_t, gd_t, rd_nI, l3, l4, a1, a2, bd_s]
  have e75 : z1 75 = z 75 := a5 75 (by omega)
  have m30 : u1 30 = u 30 := a6.1 30 (by omega) (by omega) (by omega)
  have m14 : u1 0 14 = u 0 14 := a6.2 14 (by omega) (by omega)
  have m41 : u1 0 41 = u 0 41 := a6.2 41 (by omega) (by omega)
  rcases a4 with ⟨rfl, a4⟩ | ⟨ra, R, rfl, ra1, a4⟩
  · unfold jX9_goOn_29
    refine ⟨2, 2, z1, u1, ?_, ?_, Or.inr (Or.inr ⟨by omega, by omega, rfl, (a3.le (by omega)), ?_, by rw [m14]; exact h3, T, S, tk, ps, pt, c, a4, h5, h6, by rw [m41]; exact h7, by omega⟩)⟩
    · simp only [litm, lit, if_true]
    · simp only [lit, litm, m1_le0, if_false, m1_lt0, if_true]
    · rw [e75, m30]; exact h2
  · have hra := a4.1.1.1.1
    have hle : T.length ≤ (T ++ R).length := by simp
    have e74 : z1 74 l = nI lb := by rw [a5 74 (by omega)]; exact l5
    have e11 : u1 11 l = nI lb := by rw [a6.1 11 (by omega) (by omega) (by omega)]; exact l6
    obtain ⟨vb, z2, u2, b1, b2, b3, b4, b5, b6⟩ := both_inst a4 a3 (by omega) hi (show lb < (T ++ R).length by omega) (show x < (T ++ R).length by omega) (show y < (T ++ R).length by omega) (show w < (T ++ R).length by omega) (by rw [a6.1 24 (by omega) (by omega) (by omega)]; exact h24)
    have f75 : z2 75 = z 75 := (b5 75 (by omega)).trans e75
    have n30 : u2 30 = u 30 := (b6.1 30 (by omega) (by omega) (by omega)).trans m30
    have n14 : u2 0 14 = u 0 14 := (b6.2 14 (by omega) (by omega)).trans m14
    have n41 : u2 0 41 = u 0 41 := (b6.2 41 (by omega) (by omega)).trans m41
    simp (disch := omega) only [litm, lit, nI_m1n, if_false, inb_t, gd_t, rd_nI, e74, e11, b1, b2, bd_s, nI_leI, Nat.zero_le, if_true]
    unfold jX9_goOn_29
    rcases b4 with ⟨rfl, b4⟩ | ⟨rb, R2, rfl, rb1, b4⟩
    · refine ⟨2, 2, z2, u2, ?_, ?_, Or.inr (Or.inr ⟨by omega, by omega, rfl, b3, ?_, by rw [n14]; exact h3, _, S, tk, ps, pt, c, b4, by omega, h6, by rw [n41]; exact h7, by omega⟩)⟩
      · simp only [if_true]
      · simp (disch := omega) only [lit, nI_ltI, if_neg, m1_le0, if_false]
      · rw [f75, n30]; exact h2
    · have hrb := b4.1.1.1.1
      have hle2 : (T ++ R).length ≤ ((T ++ R) ++ R2).length := by simp
      obtain ⟨g1, g2, r, g3, g4⟩ := stand_ok b4 (show ra < ((T ++ R) ++ R2).length by omega) rb1
      have b4' := b4
      obtain ⟨q1, q2, q3, q4, q5⟩ := b4'
      obtain ⟨r', u3, w1, w2, w3, w4⟩ := areOne_ok q1.1.1 q3.1 q3.2.1.1 q2 (show ra < ((T ++ R) ++ R2).length by omega) rb1
      have hq := b4.mf w3 w4
      have o30 : u3 30 = u 30 := (w4.1 30 (by omega) (by omega) (by omega) (by omega) (by omega)).trans n30
      have o14 : u3 0 14 = u 0 14 := (w4.2.2 14 (by omega) (by omega)).trans n14
      have o41 : u3 0 41 = nI c := ((w4.2.2 41 (by omega) (by omega)).trans n41).trans h7
      simp (disch := omega) only [lit, nI_m1n, if_false, nI_ltI, if_neg, nI_leI, Nat.zero_le, if_true, g1, g2, g3, bp_s, w1, bd_s]
      rcases g4 with ⟨rfl, g4⟩ | ⟨rfl, g4⟩
      · have hr : r' = 1 := by rcases w2 with ⟨e, _⟩ | ⟨_, e⟩; exact e; exact absurd g4 e
        subst hr
        refine ⟨0, 0, z2, u3, ?_, ?_, Or.inl ⟨rfl, rfl, b3, ?_, by rw [o14]; exact h3, _, S, tk, ps, pt, c, hq, by omega, h6, o41, h8⟩⟩
        · simp (disch := omega) only [nI_eq, if_neg]
        · simp (disch := omega) only [nI_eq, if_neg]
        · rw [f75, o30]; exact h2
      · have hr : r' = 0 := by rcases w2 with ⟨_, e⟩ | ⟨e, _⟩; exact absurd e g4; exact e
        subst hr
        rcases full_ok hq with ⟨f1, f2, f3⟩ | ⟨f2, f3⟩
        · rcases try_both hq (show ra < ((T ++ R) ++ R2).length by omega) rb1 f1 with ⟨z3, z4, u4, t1, t2, t3, t4, t5, t6, t7⟩ | ⟨z3, z4, z5, u4, u5, t1, t2, t3, t4, t5, t6, t7, t8, t9⟩
          · refine ⟨4, 4, z4, u4, ?_, ?_, Or.inr (Or.inr ⟨by omega, by omega, rfl, b3.fr (t5 58 (by omega) (by omega) (by omega)) (t5 60 (by omega) (by omega) (by omega)), ?_, by rw [t7 14 (by omega) (by omega), o14]; exact h3, _, S, tk, ps, pt, c, t4, by omega, h6, by rw [t7 41 (by omega) (by omega)]; exact o41, by omega⟩)⟩
            · simp (disch := omega) only [if_true, f2, bp_s, t1, bd_s, nI_eq, if_neg, t2]
            · simp (disch := omega) only [if_true, f3, if_false, t3, bd_s, nI_eq, if_neg]
            · rw [t5 75 (by omega) (by omega) (by omega), t6 30 (by omega), f75, o30]; exact h2
          · have hl1 : (S ++ [(true, ra, rb)]).length = s0 + (c + 1) := by simp; omega
            have e41 : u5 0 41 = nI c := by rw [t9 41 (by omega) (by omega)]; exact o41
            have hq5 := t6.m4x (Or.inr rfl) (nI (c + 1))
            have hF : ∀ q, q < hm → z5 75 q = nI (hd q) ∧ (wrr u5 0 (upd (u5 0) 41 (nI (c + 1)))) 30 q = nI (hd q) := by
              rw [wrr_n (by omega), t7 75 (by omega), t8 30 (by omega), f75, o30]; exact h2
            have h14 : (wrr u5 0 (upd (u5 0) 41 (nI (c + 1)))) 0 14 = nI k := by rw [wrr_e, upd_n (by omega), t9 14 (by omega) (by omega), o14]; exact h3
            have h41 : (wrr u5 0 (upd (u5 0) 41 (nI (c + 1)))) 0 41 = nI (c + 1) := by rw [wrr_e, upd_e]
            have hTU : TU (B + 2) z5 := b3.fr (t7 58 (by omega)) (t7 60 (by omega))
            by_cases q : c + 1 = n
            · refine ⟨0, 1, z5, wrr u5 0 (upd (u5 0) 41 (nI (c + 1))), ?_, ?_, Or.inr (Or.inl ⟨rfl, rfl, ⟨hTU, hF, h14, _, _, _, _, _, c + 1, hq5, by omega, hl1, h41, by omega⟩, by rw [scount_ok t6.1.2.1, hl1, q]⟩)⟩
              · simp (disch := omega) only [if_true, f2, bp_s, t1, bd_s, t2, t3]
              · simp (disch := omega) only [if_true, f3, if_false, t4, bd_s, t5, wf_w, bnd_s, e41, nI_add, wrr_e, upd_e, q]
            · refine ⟨0, 0, z5, wrr u5 0 (upd (u5 0) 41 (nI (c + 1))), ?_, ?_, Or.inl ⟨rfl, rfl, hTU, hF, h14, _, _, _, _, _, c + 1, hq5, by omega, hl1, h41, by omega⟩⟩
              · simp (disch := omega) only [if_true, f2, bp_s, t1, bd_s, t2, t3]
              · simp (disch := omega) only [if_true, f3, if_false, t4, bd_s, t5, wf_w, bnd_s, e41, nI_add, wrr_e, upd_e, nI_eq, q]
        · refine ⟨3, 3, z2, u3, ?_, ?_, Or.inr (Or.inr ⟨by omega, by omega, rfl, b3, ?_, by rw [o14]; exact h3, _, S, tk, ps, pt, c, hq, by omega, h6, o41, by omega⟩)⟩
          · simp (disch := omega) only [if_true, f2, bp_s, nI_eq, if_neg]
          · simp (disch := omega) only [if_true, f3]
          · rw [f75, o30]; exact h2
end FOL
end
section
/-! the face: follow, its three loops -/
def finX (s0 : Int32) (v : Int32) (z : fS) : Option (Int32 × fS) :=
  bnd (wf z 0 11 v) fun z244 =>
  bp (fX5_count z244) fun r252 =>
  bd (fX8_done z244 (r252 - s0)) fun r258 z258 =>
  some (r258, z258)
section LOO
variable {lv : Nat} {rm : Nat → Nat → Bool} {i n0 s0 n k hm l xs ys zs p1 p2 : Nat} {hd : Nat → Nat}
theorem in_loop (hi : i ≤ 512) (hl : l < k) (hk : k ≤ 10) (hn : n ≤ 50) (hs : s0 ≤ 100) (hm1 : hm ≤ 120) (hhd : ∀ q, q < hm → hd q < n0) (h1 : p1 < hm) (h2 : p2 < hm) (hz : zs ≤ hm) {k229 : Int32 → fS → Option (Int32 × fS)} {k146 : fS → Option (Int32 × fS)} {v5 v6 v3 v4 : Int32} : ∀ (d p N M B : Nat) (z u : fS), p + d = zs → d + 1 < N → d < M → B + 2 * d ≤ 3456000 * i → FS i lv rm n0 s0 n k hm hd 0 B z u →
    (∃ z' u', FS i lv rm n0 s0 n k hm hd 0 (B + 2 * d) z' u' ∧ lX8_follow_161 k229 (nI l) (nI n) v5 v6 (nI zs) (nI s0) (nI p1) (nI p2) N (nI 0) (nI p) z = k229 (nI 0) z' ∧ lX9_followAll_78 k146 (nI l) (nI n) v3 v4 (nI zs) (nI p1) (nI p2) M (nI p) u = k146 u') ∨
    (∃ e B' z' u', 1 ≤ e ∧ e ≤ 4 ∧ FS i lv rm n0 s0 n k hm hd 1 B' z' u' ∧ lX8_follow_161 k229 (nI l) (nI n) v5 v6 (nI zs) (nI s0) (nI p1) (nI p2) N (nI 0) (nI p) z = k229 (nI e) z' ∧ lX9_followAll_78 k146 (nI l) (nI n) v3 v4 (nI zs) (nI p1) (nI p2) M (nI p) u = some (nI e, u')) := by
  intro d
  induction d with
  | zero =>
    intro p N M B z u hp hN hM hB hF
    obtain ⟨N, rfl⟩ : ∃ K, N = K + 1 := ⟨N - 1, by omega⟩
    obtain ⟨M, rfl⟩ : ∃ K, M = K + 1 := ⟨M - 1, by omega⟩
    refine Or.inl ⟨z, u, hF, ?_, ?_⟩
    · rw [lX8_follow_161.eq_2]
      simp (disch := omega) only [nI_leI, if_pos]
    · rw [lX9_followAll_78.eq_2]
      simp (disch := omega) only [nI_leI, if_pos]
  | succ d ih =>
    intro p N M B z u hp hN hM hB hF
    obtain ⟨N, rfl⟩ : ∃ K, N = K + 1 := ⟨N - 1, by omega⟩
    obtain ⟨M, rfl⟩ : ∃ K, M = K + 1 := ⟨M - 1, by omega⟩
    have a1 := hF.2.1 p1 h1
    have a2 := hF.2.1 p2 h2
    have a3 := hF.2.1 p (by omega)
    obtain ⟨u1, e1⟩ : ∃ q, q = wrr u 24 (upd (upd (upd (u 24) 0 (nI (hd p1))) 1 (nI (hd p2))) 2 (nI (hd p))) := ⟨_, rfl⟩
    have hF1 := hF.m24 (u' := u1) fun j hj => by rw [e1, wrr_n hj]
    have h24 : ∀ h, h < 3 → u1 24 h = nI (fil (hd p1) (hd p2) (hd p) h) := by
      intro h hh
      rw [e1, wrr_e]
      have : h = 0 ∨ h = 1 ∨ h = 2 := by omega
      rcases this with rfl | rfl | rfl
      · rw [upd_n (by omega), upd_n (by omega), upd_e]; rfl
      · rw [upd_n (by omega), upd_e]; rfl
      · rw [upd_e]; rfl
    obtain ⟨e, e', z2, u2, b1, b2, b3⟩ := law_step hF1 h24 (by omega) hi hl hk hn (hhd p1 h1) (hhd p2 h2) (hhd p (by omega))
    have stX : lX8_follow_161 k229 (nI l) (nI n) v5 v6 (nI zs) (nI s0) (nI p1) (nI p2) (N + 1) (nI 0) (nI p) z = (if nI e = nI 0 then bp (fX5_count z2) fun r210 => if (r210 - nI s0) < nI n then lX8_follow_161 k229 (nI l) (nI n) v5 v6 (nI zs) (nI s0) (nI p1) (nI p2) N (nI e) (nI (p + 1)) z2 else lX8_follow_161 k229 (nI l) (nI n) v5 v6 (nI zs) (nI s0) (nI p1) (nI p2) N (nI 1) (nI (p + 1)) z2 else lX8_follow_161 k229 (nI l) (nI n) v5 v6 (nI zs) (nI s0) (nI p1) (nI p2) N (nI e) (nI (p + 1)) z2) := by
      rw [lX8_follow_161.eq_2]
      simp (disch := omega) only [nI_leI, if_neg, lit, if_true, inb_t, gd_t, rd_nI, a1.1, a2.1, a3.1, b1, bd_s, nI_add, bnd_s]
    have stM : lX9_followAll_78 k146 (nI l) (nI n) v3 v4 (nI zs) (nI p1) (nI p2) (M + 1) (nI p) u = (if nI e' = nI 0 then lX9_followAll_78 k146 (nI l) (nI n) v3 v4 (nI zs) (nI p1) (nI p2) M (nI (p + 1)) u2 else some (nI e', u2)) := by
      rw [lX9_followAll_78.eq_2]
      simp (disch := omega) only [nI_leI, if_neg, lit, inb_t, gd_t, rd_nI, a1.2, a2.2, a3.2, wr_nI, bnd_s, wrr_n, wrr_e, wrr_wrr]
      rw [← e1, b2, bd_s]
      simp only [nI_add]
    have outX : ∀ {e : Nat} {z2 : fS}, 1 ≤ e → e ≤ 4 → lX8_follow_161 k229 (nI l) (nI n) v5 v6 (nI zs) (nI s0) (nI p1) (nI p2) N (nI e) (nI (p + 1)) z2 = k229 (nI e) z2 := by
      intro e z2 g1 g2
      obtain ⟨N, rfl⟩ : ∃ K, N = K + 1 := ⟨N - 1, by omega⟩
      rw [lX8_follow_161.eq_2]
      by_cases q : zs ≤ p + 1
      · simp (disch := omega) only [nI_leI, q, if_true]
      · simp (disch := omega) only [nI_leI, q, if_false, lit, nI_eq, if_neg]
    rw [stX, stM]
    rcases b3 with ⟨rfl, rfl, b3⟩ | ⟨rfl, rfl, b3, b4⟩ | ⟨g1, g2, rfl, b3⟩
    · have hc : ∃ c, c < n ∧ fX5_count z2 = some (nI (s0 + c)) := by
        obtain ⟨_, _, _, T, S, tk, ps, pt, c, f4, f5, f6, f7, f8⟩ := b3
        exact ⟨c, by omega, by rw [scount_ok f4.1.2.1, f6]⟩
      obtain ⟨c, c1, c2⟩ := hc
      have := ih (p + 1) N M (B + 2) z2 u2 (by omega) (by omega) (by omega) (by omega) b3
      rw [show B + 2 + 2 * d = B + 2 * (d + 1) by omega] at this
      simp (disch := omega) only [if_true, c2, bp_s, nI_sub, Nat.add_sub_cancel_left, nI_ltI, c1]
      exact this
    · refine Or.inr ⟨1, B + 2, z2, u2, by omega, by omega, b3, ?_, ?_⟩
      · simp (disch := omega) only [if_true, b4, bp_s, nI_sub, Nat.add_sub_cancel_left, nI_ltI, Nat.lt_irrefl, if_false]
        exact outX (by omega) (by omega)
      · simp (disch := omega) only [nI_eq, if_neg]
    · refine Or.inr ⟨e', B + 2, z2, u2, by omega, by omega, b3, ?_, ?_⟩
      · rw [if_neg (by rw [nI_eq (by omega) (by omega)]; omega)]
        exact outX (by omega) g2
      · rw [if_neg (by rw [nI_eq (by omega) (by omega)]; omega)]
theorem mid_loop (hi : i ≤ 512) (hl : l < k) (hk : k ≤ 10) (hn : n ≤ 50) (hs : s0 ≤ 100) (hm1 : hm ≤ 120) (hhd : ∀ q, q < hm → hd q < n0) (h1 : p1 < hm) (hy : ys ≤ hm) (hz : zs ≤ hm) {k235 : Int32 → fS → Option (Int32 × fS)} {k152 : fS → Option (Int32 × fS)} {v5 v3 : Int32} : ∀ (d p N M B : Nat) (z u : fS), p + d = ys → d + 1 < N → d < M → B + 240 * d ≤ 3456000 * i → FS i lv rm n0 s0 n k hm hd 0 B z u →
    (∃ z' u', FS i lv rm n0 s0 n k hm hd 0 (B + 240 * d) z' u' ∧ lX8_follow_146 k235 (nI l) (nI n) v5 (nI ys) (nI zs) (nI s0) (nI p1) N (nI 0) (nI p) z = k235 (nI 0) z' ∧ lX9_followAll_68 k152 (nI l) (nI n) v3 (nI ys) (nI zs) (nI p1) M (nI p) u = k152 u') ∨
    (∃ e B' z' u', 1 ≤ e ∧ e ≤ 4 ∧ FS i lv rm n0 s0 n k hm hd 1 B' z' u' ∧ lX8_follow_146 k235 (nI l) (nI n) v5 (nI ys) (nI zs) (nI s0) (nI p1) N (nI 0) (nI p) z = k235 (nI e) z' ∧ lX9_followAll_68 k152 (nI l) (nI n) v3 (nI ys) (nI zs) (nI p1) M (nI p) u = some (nI e, u')) := by
  intro d
  induction d with
  | zero =>
    intro p N M B z u hp hN hM hB hF
    obtain ⟨N, rfl⟩ : ∃ K, N = K + 1 := ⟨N - 1, by omega⟩
    obtain ⟨M, rfl⟩ : ∃ K, M = K + 1 := ⟨M - 1, by omega⟩
    refine Or.inl ⟨z, u, hF, ?_, ?_⟩
    · rw [lX8_follow_146.eq_2]
      simp (disch := omega) only [nI_leI, if_pos]
    · rw [lX9_followAll_68.eq_2]
      simp (disch := omega) only [nI_leI, if_pos]
  | succ d ih =>
    intro p N M B z u hp hN hM hB hF
    obtain ⟨N, rfl⟩ : ∃ K, N = K + 1 := ⟨N - 1, by omega⟩
    obtain ⟨M, rfl⟩ : ∃ K, M = K + 1 := ⟨M - 1, by omega⟩
    rw [lX8_follow_146.eq_2, lX9_followAll_68.eq_2]
    simp (disch := omega) only [nI_leI, if_neg, lit, if_true]
    rcases in_loop (lv := lv) (rm := rm) (n0 := n0) (s0 := s0) (n := n) (hd := hd) hi hl hk hn hs hm1 hhd h1 (show p < hm by omega) hz (k229 := jX8_follow_229 (lX8_follow_146 k235 (nI l) (nI n) v5 (nI ys) (nI zs) (nI s0) (nI p1) N) k235 (nI l) (nI n) v5 (nI ys) (nI zs) (nI s0) (nI p1) (nI p)) (k146 := jX9_followAll_146 (lX9_followAll_68 k152 (nI l) (nI n) v3 (nI ys) (nI zs) (nI p1) M) k152 (nI l) (nI n) v3 (nI ys) (nI zs) (nI p1) (nI p)) (v5 := v5) (v6 := nI ys) (v3 := v3) (v4 := nI ys) zs 0 FU FU B z u (by omega) (by have := FU_ge; omega) (by have := FU_ge; omega) (by omega) hF with ⟨z1, u1, a1, a2, a3⟩ | ⟨e, B', z1, u1, g1, g2, a1, a2, a3⟩
    · rw [a2, a3]
      unfold jX8_follow_229 jX9_followAll_146
      simp only [lit, nI_add, bnd_s]
      have := ih (p + 1) N M (B + 240) z1 u1 (by omega) (by omega) (by omega) (by omega) (a1.le (by omega))
      rw [show B + 240 + 240 * d = B + 240 * (d + 1) by omega] at this
      exact this
    · rw [a2, a3]
      refine Or.inr ⟨e, B', z1, u1, g1, g2, a1, ?_, rfl⟩
      unfold jX8_follow_229
      simp only [lit, nI_add, bnd_s]
      obtain ⟨N, rfl⟩ : ∃ K, N = K + 1 := ⟨N - 1, by omega⟩
      rw [lX8_follow_146.eq_2]
      by_cases q : ys ≤ p + 1
      · simp (disch := omega) only [nI_leI, q, if_true]
      · simp (disch := omega) only [nI_leI, q, if_false, lit, nI_eq, if_neg]
theorem out_loop (hi : i ≤ 512) (hl : l < k) (hk : k ≤ 10) (hn : n ≤ 50) (hs : s0 ≤ 100) (hm1 : hm ≤ 120) (hhd : ∀ q, q < hm → hd q < n0) (hx : xs ≤ hm) (hy : ys ≤ hm) (hz : zs ≤ hm) : ∀ (d p N M B : Nat) (z u : fS), p + d = xs → d + 1 < N → d < M → B + 28800 * d ≤ 3456000 * i → FS i lv rm n0 s0 n k hm hd 0 B z u →
    ∃ e B' z' u', e ≤ 4 ∧ FS i lv rm n0 s0 n k hm hd 1 B' z' u' ∧ lX8_follow_131 (nI l) (nI n) (nI xs) (nI ys) (nI zs) (nI s0) N (nI 0) (nI p) z = finX (nI s0) (nI e) z' ∧ lX9_followAll_59 (nI l) (nI n) (nI xs) (nI ys) (nI zs) M (nI p) u = some (nI e, u') := by
  intro d
  induction d with
  | zero =>
    intro p N M B z u hp hN hM hB hF
    obtain ⟨N, rfl⟩ : ∃ K, N = K + 1 := ⟨N - 1, by omega⟩
    obtain ⟨M, rfl⟩ : ∃ K, M = K + 1 := ⟨M - 1, by omega⟩
    refine ⟨0, B, z, u, by omega, hF.end, ?_, ?_⟩
    · rw [lX8_follow_131.eq_2]
      unfold finX
      simp (disch := omega) only [nI_leI, if_pos]
    · rw [lX9_followAll_59.eq_2]
      simp (disch := omega) only [nI_leI, if_pos, lit]
  | succ d ih =>
    intro p N M B z u hp hN hM hB hF
    obtain ⟨N, rfl⟩ : ∃ K, N = K + 1 := ⟨N - 1, by omega⟩
    obtain ⟨M, rfl⟩ : ∃ K, M = K + 1 := ⟨M - 1, by omega⟩
    rw [lX8_follow_131.eq_2, lX9_followAll_59.eq_2]
    simp (disch := omega) only [nI_leI, if_neg, lit, if_true]
    rcases mid_loop (lv := lv) (rm := rm) (n0 := n0) (s0 := s0) (n := n) (hd := hd) hi hl hk hn hs hm1 hhd (show p < hm by omega) hy hz (k235 := jX8_follow_235 (lX8_follow_131 (nI l) (nI n) (nI xs) (nI ys) (nI zs) (nI s0) N) (nI l) (nI n) (nI xs) (nI ys) (nI zs) (nI s0) (nI p)) (k152 := jX9_followAll_152 (lX9_followAll_59 (nI l) (nI n) (nI xs) (nI ys) (nI zs) M) (nI l) (nI n) (nI xs) (nI ys) (nI zs) (nI p)) (v5 := nI xs) (v3 := nI xs) ys 0 FU FU B z u (by omega) (by have := FU_ge; omega) (by have := FU_ge; omega) (by omega) hF with ⟨z1, u1, a1, a2, a3⟩ | ⟨e, B', z1, u1, g1, g2, a1, a2, a3⟩
    · rw [a2, a3]
      unfold jX8_follow_235 jX9_followAll_152
      simp only [lit, nI_add, bnd_s]
      exact ih (p + 1) N M (B + 28800) z1 u1 (by omega) (by omega) (by omega) (by omega) (a1.le (by omega))
    · rw [a2, a3]
      refine ⟨e, B', z1, u1, g2, a1, ?_, rfl⟩
      unfold jX8_follow_235
      simp only [lit, nI_add, bnd_s]
      obtain ⟨N, rfl⟩ : ∃ K, N = K + 1 := ⟨N - 1, by omega⟩
      rw [lX8_follow_131.eq_2]
      unfold finX
      by_cases q : xs ≤ p + 1
      · simp (disch := omega) only [nI_leI, q, if_true]
      · simp (disch := omega) only [nI_leI, q, if_false, lit, nI_eq, if_neg]
end LOO
end
section
/-! the face: follow -/
section FLW
variable {T : List Tm} {S : List Sy} {tk : Nat → Bool} {lv : Nat} {rm : Nat → Nat → Bool} {ps pt i : Nat} {zX zM : fS}
theorem RQ.ended (h : RQ i T S tk lv rm ps pt zX zM) (v : Int32) : RQ i T S tk lv rm ps pt (wrr zX 0 (upd (zX 0) 11 v)) (wrr zM 0 (upd (zM 0) 25 v)) := by
  obtain ⟨h1, h2, h3, h4, h5⟩ := h
  refine ⟨?_, h2.f0 h3.1.1 (by omega) (by omega) (by omega), h3, ?_, ?_⟩
  · exact h1.sc (h1.ag.fr fun j _ _ => wrr_n (by omega)) (fun j _ h0 => wrr_n h0) (fun j _ _ _ => wrr_n (by omega))
  · obtain ⟨⟨l1, l2, l3⟩, ⟨k, w1, w2, w3, w4⟩, ⟨k', p1, p2, p3, p4⟩, _, hu⟩ := h4
    refine ⟨⟨?_, ?_, ?_⟩, ⟨k, w1, ?_, ?_, ?_⟩, ⟨k', p1, ?_, ?_, ?_⟩, ?_, ?_⟩
    · rw [wrr_n (by omega)]; exact l1
    · rw [wrr_e, upd_n (by omega)]; exact l2
    · rw [wrr_n (by omega), wrr_n (by omega)]; exact l3
    · rw [wrr_e, upd_n (by omega)]; exact w2
    · rw [wrr_e, upd_n (by omega)]; exact w3
    · rw [wrr_n (by omega), wrr_n (by omega), wrr_n (by omega), wrr_n (by omega)]; exact w4
    · rw [wrr_n (by omega)]; exact p2
    · rw [wrr_e, upd_n (by omega)]; exact p3
    · rw [wrr_n (by omega), wrr_n (by omega), wrr_n (by omega), wrr_n (by omega), wrr_n (by omega), wrr_n (by omega), wrr_n (by omega), wrr_n (by omega), wrr_n (by omega), wrr_n (by omega)]; exact p4
    · rw [wrr_e, wrr_e, upd_e, upd_e]
    · unfold RU; rw [wrr_n (by omega), wrr_n (by omega)]; exact hu
  · exact h5.fr (fun j _ _ => wrr_n (by omega)) (fun j hj => wrr_n (by omega)) (fun f hf => by rw [wrr_e, upd_n (by omega)])
theorem clr3 {k67 : fS → Option (Int32 × fS)} {v1 v2 : Int32} : ∀ (d j N : Nat) (z : fS), j + d = 3 → d < N → (∀ h, h < j → z 28 h = nI 0) → ∃ z', lX9_follow_49 k67 v1 v2 N (nI j) z = k67 z' ∧ (∀ h, h < 3 → z' 28 h = nI 0) ∧ (∀ c, c ≠ 28 → z' c = z c) := by
  intro d
  induction d with
  | zero =>
    intro j N z hj hN h
    obtain ⟨N, rfl⟩ : ∃ M, N = M + 1 := ⟨N - 1, by omega⟩
    refine ⟨z, ?_, fun s hs => h s (by omega), fun _ _ => rfl⟩
    rw [lX9_follow_49.eq_2]
    simp (disch := omega) only [lit, nI_leI, if_pos]
  | succ d ih =>
    intro j N z hj hN h
    obtain ⟨N, rfl⟩ : ∃ M, N = M + 1 := ⟨N - 1, by omega⟩
    obtain ⟨z', g1, g2, g3⟩ := ih (j + 1) N (wrr z 28 (upd (z 28) j (nI 0))) (by omega) (by omega) (fun k hk => by
      rw [wrr_e]
      by_cases q : k = j
      · rw [q, upd_e]
      · rw [upd_n q]; exact h k (by omega))
    refine ⟨z', ?_, g2, fun k hk => (g3 k hk).trans (wrr_n hk)⟩
    rw [lX9_follow_49.eq_2]
    simp (disch := omega) only [lit, nI_leI, if_neg, inb_t, gd_t, zb_0, wr_nI, bnd_s, nI_add]
    exact g1
end FLW
theorem s_follow : st_follow Rel := by
  intro i zX zM a b hi hr
  obtain ⟨h0, T, S, tk, lv, rm, ps, pt, h⟩ := id hr
  obtain ⟨k, k1, k2, k3, k4⟩ := h.2.2.2.1.2.1
  unfold fX8_follow fX9_follow
  rw [k2, k3]
  by_cases v1 : a < nI 0
  · refine ⟨-(nI 1), _, _, ?_, ?_, h.fin (nI 1)⟩
    · simp only [lit, v1, if_true, refX, bd_s]
    · simp only [lit, v1, if_true, refM, bd_s]
  by_cases v2 : nI k ≤ a
  · refine ⟨-(nI 1), _, _, ?_, ?_, h.fin (nI 1)⟩
    · simp only [lit, v1, v2, if_true, if_false, refX, bd_s]
    · simp only [lit, v1, v2, if_true, if_false, refM, bd_s]
  by_cases v3 : b < nI 1
  · refine ⟨-(nI 1), _, _, ?_, ?_, h.fin (nI 1)⟩
    · simp only [lit, v1, v2, v3, if_true, if_false, refX, bd_s]
    · simp only [lit, v1, v2, v3, if_true, if_false, refM, bd_s]
  by_cases v4 : b ≤ nI 50
  · obtain ⟨l, l0, rfl⟩ : ∃ l : Nat, l < k ∧ a = nI l := by
      obtain ⟨j, j1, j2⟩ := nI_of (x := a) v1
      subst j2
      rw [nI_leI (by omega) j1] at v2
      exact ⟨j, by omega, rfl⟩
    obtain ⟨n, n1, n2, rfl⟩ : ∃ n : Nat, n ≤ 50 ∧ 1 ≤ n ∧ b = nI n := by
      obtain ⟨j, j1, j2⟩ := nI_of2 (x := b) (M := nI 50) (n := 50) (by decide) (fun q => v3 (by rw [Int32.lt_iff_toInt_lt] at q ⊢; have e1 : (nI 1).toInt = 1 := (by decide); have e2 : (0 : Int32).toInt = 0 := (by decide); omega)) v4
      subst j2
      rw [nI_ltI (by omega) (by omega)] at v3
      exact ⟨j, j1, by omega, rfl⟩
    obtain ⟨zM1, on, c1, c2, c3, c4, c5, _⟩ := cls_ok h
    have hT := h.1.1.1.1
    have hW := h.1.1.1
    have hS := h.2.2.1.1.1
    -- the heads
    obtain ⟨x1, g1, g2, g3⟩ := gather_loop h c5 (fun t ht => (c4 t ht).2.1) T.length 0 FU zX (by omega) (by have := FU_ge; omega) (fun _ _ => rfl) (fun q hq => by simp [cnt] at hq)
    have hMT1 := c2.2.1.1
    obtain ⟨y1, d1, d2, d3, d4, d5⟩ := heads_loop hT hMT1 c4 T.length 0 FU (wrr zM1 0 (upd (zM1 0) 40 (nI 0))) (by omega) (by have := FU_ge; omega) (fun j q1 _ => wrr_n q1) (fun f hf => by rw [wrr_e, upd_n hf]) (by rw [wrr_e, upd_e]; rfl) (fun q hq => by simp [cnt] at hq)
    have hcl := cnt_le (hB T on) T.length
    have eg : fX8_gatherHeads zX = some (nI (cnt (hB T on) T.length), x1) := g1
    have ed : fX9_findHeads zM = some y1 := by
      unfold fX9_findHeads
      simp only [c1, bp_s, wf_w, bnd_s, lit]
      exact d1
    have hRM1 : RM T S tk y1 := RM.fr hS c2.2.1 (fun f hf => d3 f (by omega)) (fun j _ _ => d2 j (by omega) (by omega)) (d2 20 (by omega) (by omega))
    have hq1 : RQ i T S tk lv rm ps pt x1 y1 := c2.sc (h.1.ag.fr fun j _ _ => g2 j (by omega)) (fun j hj => g2 j (by omega)) hRM1 (fun j _ _ => d2 j (by omega) (by omega)) (fun f _ q _ => d3 f q)
    have y14 : y1 0 14 = nI k := by rw [d3 14 (by omega), c3.2.2 14 (by omega) (by omega)]; exact k3
    simp only [lit, v1, v2, v3, v4, if_true, if_false, eg, ed, bd_s, bp_s, d4]
    by_cases q0 : cnt (hB T on) T.length = 0
    · rw [q0]
      refine ⟨-(nI 1), _, _, ?_, ?_, hq1.fin (nI 6)⟩
      · simp only [if_true, refX, bd_s]
      · simp only [if_true, refM, bd_s]
    · obtain ⟨hm, ehm⟩ : ∃ q, q = cnt (hB T on) T.length := ⟨_, rfl⟩
      rw [← ehm] at q0 hcl g3 d4 d5 ⊢
      obtain ⟨la, lb, a1, a2, a3, a4, a5, a6⟩ := hq1.2.2.2.1.2.1.at y14 k1 l0
      obtain ⟨H, hH, hHB⟩ := hq1.1.1.2.2.2.2.2
      obtain ⟨y2, e1, e2, e3⟩ := clr3 (k67 := jX9_follow_67 (nI l) (nI n)) (v1 := nI l) (v2 := nI n) 3 0 FU y1 (by omega) (by have := FU_ge; omega) (fun h hh => by omega)
      have m2 : MT T y2 := hRM1.1.fr (by rw [e3 0 (by omega)]) fun j _ _ => e3 j (by omega)
      obtain ⟨y3, st3, f1, f2, f3, f4⟩ := lookHoles_ok hW hH m2 a1 (st := fun _ => false) (fun h hh => by rw [e2 h hh, bI_f])
      have m3 : MT T y3 := m2.fr (by rw [f4 0 (by omega) (by omega)]) fun j _ _ => f4 j (by omega) (by omega)
      obtain ⟨y4, st, p1, p2, p3, p4⟩ := lookHoles_ok hW hH m3 a2 (st := st3) f2
      obtain ⟨y5, e5⟩ : ∃ q, q = wrr y4 0 (upd (y4 0) 41 (nI 0)) := ⟨_, rfl⟩
      have ey4 : ∀ j, j ≠ 28 → j ≠ 29 → y4 j = y1 j := fun j w1 w2 => by rw [p4 j w1 w2, f4 j w1 w2, e3 j w1]
      have b10 : y2 10 l = nI la := by rw [e3 10 (by omega)]; exact a4
      have b11 : y3 11 l = nI lb := by rw [f4 11 (by omega) (by omega), e3 11 (by omega)]; exact a6
      have hq5 : RQ (i + 1) T S tk lv rm ps pt x1 y5 := by
        rw [e5]
        exact (hq1.up.mfree fun j hj => ey4 j (by omega) (by omega)).m4x (Or.inr rfl) (nI 0)
      have hst : ∀ h, h < 3 → (st h = true ↔ (H la ||| H lb).testBit h = true) := by
        intro h hh
        rw [p3 h hh, f3 h hh, Nat.testBit_or, Bool.or_eq_true_iff]
        constructor
        · rintro ((w | w) | w)
          · cases w
          · exact Or.inl w
          · exact Or.inr w
        · rintro (w | w)
          · exact Or.inl (Or.inr w)
          · exact Or.inr w
      have hla := (hH la a1).2
      have hlb := (hH lb a2).2
      have hor : H la ||| H lb < 8 := Nat.or_lt_two_pow (n := 3) hla hlb
      have hab := and_bits hor
      have y28 : ∀ h, h < 3 → y5 28 h = bI (st h) := fun h hh => by rw [e5, wrr_n (by omega)]; exact p2 h hh
      have y40 : y5 0 40 = nI hm := by rw [e5, wrr_e, upd_n (by omega), ey4 0 (by omega) (by omega)]; exact d4
      have hsel : ∀ h, h < 3 → ∃ s, s ≤ hm ∧ s ≤ 120 ∧ ((st h = true ∧ s = hm) ∨ (st h = false ∧ s = 1)) := fun h hh => by
        cases w : st h
        · exact ⟨1, by omega, by omega, Or.inr ⟨rfl, rfl⟩⟩
        · exact ⟨hm, by omega, by omega, Or.inl ⟨rfl, rfl⟩⟩
      have bits : ∀ h, h < 3 → ((st h = false) ↔ (H la ||| H lb).testBit h = false) := fun h hh => by
        have := hst h hh
        cases w1 : st h <;> cases w2 : (H la ||| H lb).testBit h <;> simp_all
      obtain ⟨xs, xs1, xs2, xs3⟩ := hsel 0 (by omega)
      obtain ⟨ys, ys1, ys2, ys3⟩ := hsel 1 (by omega)
      obtain ⟨zs, zs1, zs2, zs3⟩ := hsel 2 (by omega)
      have hxl : ∀ (z : fS), z = x1 → fX7_holesOf z (nI la) = some (nI (H la)) ∧ fX7_holesOf z (nI lb) = some (nI (H lb)) := by
        rintro z rfl
        unfold fX7_holesOf
        have w1 := hHB la a1
        have w2 := hHB lb a2
        simp (disch := omega) only [inb_t, gd_t, rd_nI, w1, w2, and_self]
      have hx2 := hxl x1 rfl
      have X1 : (if (nI (H la ||| H lb) &&& nI 1) = nI 0 then jX8_follow_86 (nI l) (nI n) (nI hm) (nI (H la ||| H lb)) (nI 1) x1 else jX8_follow_86 (nI l) (nI n) (nI hm) (nI (H la ||| H lb)) (nI hm) x1) = jX8_follow_86 (nI l) (nI n) (nI hm) (nI (H la ||| H lb)) (nI xs) x1 := by
        rcases xs3 with ⟨w1, w2⟩ | ⟨w1, w2⟩
        · rw [if_neg (fun w => by rw [hab.1, ← bits 0 (by omega), w1] at w; cases w), w2]
        · rw [if_pos (by rw [hab.1, ← bits 0 (by omega)]; exact w1), w2]
      have X2 : jX8_follow_86 (nI l) (nI n) (nI hm) (nI (H la ||| H lb)) (nI xs) x1 = jX8_follow_100 (nI l) (nI n) (nI hm) (nI (H la ||| H lb)) (nI xs) (nI ys) x1 := by
        unfold jX8_follow_86
        simp only [lit]
        rcases ys3 with ⟨w1, w2⟩ | ⟨w1, w2⟩
        · rw [if_neg (fun w => by rw [hab.2.1, ← bits 1 (by omega), w1] at w; cases w), w2]
        · rw [if_pos (by rw [hab.2.1, ← bits 1 (by omega)]; exact w1), w2]
      have X3 : jX8_follow_100 (nI l) (nI n) (nI hm) (nI (H la ||| H lb)) (nI xs) (nI ys) x1 = jX8_follow_114 (nI l) (nI n) (nI xs) (nI ys) (nI zs) x1 := by
        unfold jX8_follow_100
        simp only [lit]
        rcases zs3 with ⟨w1, w2⟩ | ⟨w1, w2⟩
        · rw [if_neg (fun w => by rw [hab.2.2, ← bits 2 (by omega), w1] at w; cases w), w2]
        · rw [if_pos (by rw [hab.2.2, ← bits 2 (by omega)]; exact w1), w2]
      have M1 : fX9_followAll y5 (nI l) (nI n) = jX9_followAll_17 (nI l) (nI n) (nI xs) y5 := by
        unfold fX9_followAll
        simp (disch := omega) only [lit, inb_t, gd_t, rd_nI, y28 0 (by omega), y40]
        rcases xs3 with ⟨w1, w2⟩ | ⟨w1, w2⟩
        · rw [w1, bI_t, w2]; simp (disch := omega) only [nI_eq, if_neg]
        · rw [w1, bI_f, w2]; simp only [if_true]
      have M2 : jX9_followAll_17 (nI l) (nI n) (nI xs) y5 = jX9_followAll_35 (nI l) (nI n) (nI xs) (nI ys) y5 := by
        unfold jX9_followAll_17
        simp (disch := omega) only [lit, inb_t, gd_t, rd_nI, y28 1 (by omega), y40]
        rcases ys3 with ⟨w1, w2⟩ | ⟨w1, w2⟩
        · rw [w1, bI_t, w2]; simp (disch := omega) only [nI_eq, if_neg]
        · rw [w1, bI_f, w2]; simp only [if_true]
      have M3 : jX9_followAll_35 (nI l) (nI n) (nI xs) (nI ys) y5 = jX9_followAll_54 (nI l) (nI n) (nI xs) (nI ys) (nI zs) y5 := by
        unfold jX9_followAll_35
        simp (disch := omega) only [lit, inb_t, gd_t, rd_nI, y28 2 (by omega), y40]
        rcases zs3 with ⟨w1, w2⟩ | ⟨w1, w2⟩
        · rw [w1, bI_t, w2]; simp (disch := omega) only [nI_eq, if_neg]
        · rw [w1, bI_f, w2]; simp only [if_true]
      have hFS : FS (i + 1) lv rm T.length S.length n k hm (fun q => (pl (hB T on) T.length).getD q 0) 0 (3456000 * i) x1 y5 := by
        refine ⟨hq1.tu, fun q hq => ⟨g3 q hq, ?_⟩, ?_, T, S, tk, ps, pt, 0, hq5, Nat.le_refl _, rfl, ?_, by omega⟩
        · rw [e5, wrr_n (by omega), ey4 30 (by omega) (by omega)]; exact d5 q hq
        · rw [e5, wrr_e, upd_n (by omega), ey4 0 (by omega) (by omega)]; exact y14
        · rw [e5, wrr_e, upd_e]
      obtain ⟨e, B', z', u', o1, o2, o3, o4⟩ := out_loop (i := i + 1) (by omega) l0 k1 n1 hS (by omega) (fun q hq => (pl_get (n := T.length) (by rw [← ehm]; exact hq)).1) xs1 ys1 zs1 xs 0 FU FU (3456000 * i) x1 y5 (by omega) (by have := FU_ge; omega) (by have := FU_ge; omega) (by omega) hFS
      have goX : jX8_follow_114 (nI l) (nI n) (nI xs) (nI ys) (nI zs) x1 = finX (nI S.length) (nI e) z' := by
        unfold jX8_follow_114
        simp only [scount_ok hq1.1.2.1, bp_s, lit]
        exact o3
      have goM : fX9_followAll y5 (nI l) (nI n) = some (nI e, u') := by
        rw [M1, M2, M3]
        unfold jX9_followAll_54
        simp only [lit]
        exact o4
      obtain ⟨_, _, _, T', S', tk', ps', pt', c, r1, r2, r3, r4, r5⟩ := o2
      have hq9 := r1.ended (nI e)
      refine ⟨nI c, _, _, ?_, ?_, hq9.fin0 (nI 0)⟩
      · simp (disch := omega) only [nI_eq, q0, if_false, inb_t, gd_t, rd_nI, a3, a5, hx2.1, hx2.2, bp_s, or_nI hla hlb, bnd_s]
        rw [X1, X2, X3, goX]
        unfold finX
        have hc9 := scount_ok hq9.1.2.1
        simp (disch := omega) only [wf_w, bnd_s, hc9, bp_s, r3, nI_sub, Nat.add_sub_cancel_left, doneX, bd_s]
      · simp (disch := omega) only [nI_eq, q0, if_false]
        rw [e1]
        unfold jX9_follow_67
        simp (disch := omega) only [inb_t, gd_t, rd_nI, b10, f1, bp_s, b11, p1, wf_w, bnd_s, lit]
        rw [← e5, goM]
        have e41 : (wrr u' 0 (upd (u' 0) 25 (nI e))) 0 41 = nI c := by rw [wrr_e, upd_n (by omega)]; exact r4
        simp only [bd_s, e41, doneM]
  · refine ⟨-(nI 1), _, _, ?_, ?_, h.fin (nI 1)⟩
    · simp only [lit, v1, v2, v3, v4, if_false, refX, bd_s]
    · simp only [lit, v1, v2, v3, v4, if_false, refM, bd_s]
end
section
/-! the start -/
theorem zX0_fill {k s : Nat} (hk : k = 7 ∨ k = 35 ∨ k = 45) (hs : s < 128) : zX0 k s = -1 := by
  rcases hk with rfl | rfl | rfl <;> simp [zX0, fillr, hs]
theorem zX0_n {k : Nat} (h1 : k ≠ 7) (h2 : k ≠ 35) (h3 : k ≠ 45) (h4 : k ≠ 55) (h5 : k ≠ 0) (h6 : k ≠ 17) (j : Nat) : zX0 k j = nI 0 := by
  simp only [zX0, if_neg h1, if_neg h2, if_neg h3, if_neg h4, if_neg h5, if_neg h6]; rfl
theorem zX0_0 {j : Nat} (h : j ≠ 11) : zX0 0 j = nI 0 := by
  simp [zX0, upd, h]; rfl
theorem zM0_n {k : Nat} (h : k ≠ 0) (j : Nat) : zM0 k j = nI 0 := by
  simp only [zM0, if_neg h]; rfl
theorem zM0_0 {j : Nat} (h : j ≠ 25) : zM0 0 j = nI 0 := by
  simp [zM0, upd, h]; rfl
theorem start_HA : HA [] [] zX0 := by
  refine ⟨?_, ?_, ?_, ?_, List.nodup_nil, ?_, ?_⟩
  · exact zX0_n (by omega) (by omega) (by omega) (by omega) (by omega) (by omega) _
  · intro i hi; exact absurd hi (Nat.not_lt_zero _)
  · exact zX0_n (by omega) (by omega) (by omega) (by omega) (by omega) (by omega) _
  · intro i hi; exact absurd hi (Nat.not_lt_zero _)
  · intro u hu; exact absurd hu List.not_mem_nil
  · intro u hu
    rw [if_neg List.not_mem_nil]
    exact zX0_n (by omega) (by omega) (by omega) (by omega) (by omega) (by omega) _
theorem start_HT : HT [] zX0 := ⟨zX0_n (by omega) (by omega) (by omega) (by omega) (by omega) (by omega) _, fun t ht => absurd ht (Nat.not_lt_zero _)⟩
theorem start_JI {E : Nat → Nat → Prop} (hE : ∀ a b, ¬ E a b) {pb : Nat} (hp : pb = 28 ∨ pb = 38) : JI [] E pb 0 (fun t => t) [] [] zX0 := by
  have h0 : ∀ {t : Nat} {P : Prop}, t < 0 → P := fun h => absurd h (Nat.not_lt_zero _)
  have e0 : ∀ j, zX0 pb j = nI 0 := zX0_n (by omega) (by omega) (by omega) (by omega) (by omega) (by omega)
  refine ⟨⟨start_HT, fun t ht => h0 ht, ⟨e0 _, by omega, fun t ht => h0 ht, fun r hr => h0 hr, e0 _⟩, ⟨e0 _, fun r hr => h0 hr⟩, fun r hr => h0 hr, ⟨fun u hu => h0 hu, fun s hs => ⟨[], ?_, List.nodup_nil, fun u => ⟨fun h => absurd h List.not_mem_nil, fun h => h0 h.1⟩⟩⟩, start_HA⟩, fun a b ha => h0 ha, fun q hq => absurd hq List.not_mem_nil, fun u hu => absurd hu List.not_mem_nil, fun a b h => absurd h (hE a b), fun r x hr => h0 hr, fun u v hu => h0 hu, fun t ht => h0 ht, fun u hu => h0 hu⟩
  exact zX0_fill (by omega) hs
theorem start_rel : Rel 0 zX0 zM0 := by
  have h0 : ∀ {t : Nat} {P : Prop}, t < 0 → P := fun h => absurd h (Nat.not_lt_zero _)
  have hE : ∀ a b, ¬ EX [] (TK fun _ => false) none a b := by
    rintro a b (⟨s, hs, _⟩ | h)
    · exact h0 hs
    · cases h
  have hU : ∀ a b, ¬ UX [] (TK fun _ => false) none a b := by
    rintro a b (⟨s, hs, _⟩ | h)
    · exact h0 hs
    · cases h
  have n0 : ∀ {k : Nat} (j : Nat), k ≠ 7 → k ≠ 35 → k ≠ 45 → k ≠ 55 → k ≠ 0 → k ≠ 17 → zX0 k j = nI 0 := fun j h1 h2 h3 h4 h5 h6 => zX0_n h1 h2 h3 h4 h5 h6 j
  refine ⟨(zX0_0 (by omega)).trans (zM0_0 (by omega)).symm, [], [], fun _ => false, 0, fun _ _ => false, 38, 48, ⟨⟨⟨by decide, fun t ht => h0 ht⟩, fun t u ht => h0 ht, start_HT, fun t ht => h0 ht, fun s hs => ⟨[], zX0_fill (by omega) hs, List.Pairwise.nil, fun t => ⟨fun h => absurd h List.not_mem_nil, fun h => h0 h.1⟩⟩, fun _ => 0, fun t ht => h0 ht, fun t ht => h0 ht⟩, ⟨?_, ?_, fun s hs => h0 hs, fun s hs => ?_⟩, ⟨?_, ?_, Or.inl ⟨rfl, rfl⟩⟩, ⟨_, start_JI (fun _ _ h => h) (Or.inl rfl)⟩, ⟨_, start_JI hE (Or.inr rfl)⟩⟩, ⟨⟨zM0_0 (by omega), fun t ht => h0 ht⟩, ⟨zM0_0 (by omega), fun s hs => h0 hs⟩, Or.inl (zM0_0 (by omega))⟩, ⟨⟨by decide, fun s hs => h0 hs⟩, ⟨fun s h => Bool.noConfusion h, ?_⟩, by omega, fun l hl => h0 hl⟩, ⟨⟨?_, zM0_0 (by omega), fun l hl => h0 hl⟩, ⟨0, by omega, zX0_0 (by omega), zM0_0 (by omega), fun i hi => h0 hi⟩, ⟨0, by omega, ?_, zM0_0 (by omega), fun i hi => h0 hi⟩, ?_, ⟨0, by omega, ?_, fun t ht => ⟨0, by omega, ?_⟩⟩⟩, ⟨⟨[], ⟨?_, by decide, fun j hj => h0 hj⟩, ⟨zM0_0 (by omega), by decide, fun j hj => h0 hj⟩⟩, ⟨[], ⟨?_, by decide, fun j hj => h0 hj⟩, ⟨zM0_0 (by omega), by decide, fun j hj => h0 hj⟩⟩⟩⟩
  · exact n0 _ (by omega) (by omega) (by omega) (by omega) (by omega) (by omega)
  · exact n0 _ (by omega) (by omega) (by omega) (by omega) (by omega) (by omega)
  · exact n0 _ (by omega) (by omega) (by omega) (by omega) (by omega) (by omega)
  · simp [zX0, upd, pcell]
  · simp [zX0, upd, pcell]
  · rintro (⟨a, b, h, _⟩ | ⟨u, v, hu, _⟩)
    · exact hU a b h
    · exact h0 hu
  · exact n0 _ (by omega) (by omega) (by omega) (by omega) (by omega) (by omega)
  · exact n0 _ (by omega) (by omega) (by omega) (by omega) (by omega) (by omega)
  · simp [zX0, zM0, upd]
  · exact n0 _ (by omega) (by omega) (by omega) (by omega) (by omega) (by omega)
  · exact n0 _ (by omega) (by omega) (by omega) (by omega) (by omega) (by omega)
  · exact n0 _ (by omega) (by omega) (by omega) (by omega) (by omega) (by omega)
  · exact n0 _ (by omega) (by omega) (by omega) (by omega) (by omega) (by omega)
theorem all_steps : StepOK Rel := ⟨s_name, s_number, s_built, s_row, s_even, s_kind, s_part, s_shows, s_many, s_say, s_unlike, s_drop, s_said, s_clashed, s_judge, s_why, s_least, s_because, s_head, s_member, s_uses, s_world, s_push, s_pop, s_law, s_instance, s_follow, s_ended, s_claim, s_unclaim, s_check, s_status⟩
end
