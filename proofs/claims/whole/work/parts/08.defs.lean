abbrev mi_X0_init : Mi := (RX0, cX0_init, 1, (Option.none : Option Jvm.ClassFile.FieldType), "<init>", { frames := 1, cells := 2, slots := 20, locals := 20 })
def m_X0_init (r0 : Nat) (z : Hp) : Option (Unit × Hp) :=
  nwC 1 10 z fun a1 z2 =>
  pR 0 0 z2 r0 a1 fun z3 =>
  nwC 1 10 z3 fun a4 z5 =>
  pR 0 1 z5 r0 a4 fun z6 =>
  some ((), z6)
abbrev mi_X0_copyFrom : Mi := (RX0, cX0_copyFrom, 2, (Option.none : Option Jvm.ClassFile.FieldType), "copyFrom", { frames := 1, cells := 0, slots := 0, locals := 18 })
def m_X0_copyFrom (r0 : Nat) (r1 : Nat) (z : Hp) : Option (Unit × Hp) :=
  gR 0 0 z r1 fun a1 =>
  gR 0 0 z r0 fun a2 =>
  cpI z a1 0 a2 0 10 fun z3 =>
  gR 0 1 z3 r1 fun a4 =>
  gR 0 1 z3 r0 fun a5 =>
  cpI z3 a4 0 a5 0 10 fun z6 =>
  some ((), z6)
abbrev mi_X1_init : Mi := (RX1, cX1_init, 1, (Option.none : Option Jvm.ClassFile.FieldType), "<init>", { frames := 1, cells := 3, slots := 18, locals := 20 })
def m_X1_init (r0 : Nat) (z : Hp) : Option (Unit × Hp) :=
  nwC 1 6 z fun a1 z2 =>
  pR 1 0 z2 r0 a1 fun z3 =>
  nwC 1 6 z3 fun a4 z5 =>
  pR 1 1 z5 r0 a4 fun z6 =>
  nwC 1 6 z6 fun a7 z8 =>
  pR 1 2 z8 r0 a7 fun z9 =>
  pI 1 3 z9 r0 0 fun z10 =>
  some ((), z10)
abbrev mi_X1_add : Mi := (RX1, cX1_add, 3, (Option.none : Option Jvm.ClassFile.FieldType), "add", { frames := 0, cells := 0, slots := 0, locals := 0 })
def m_X1_add (r0 : Nat) (v1 : Int32) (v2 : Int32) (z : Hp) : Option (Unit × Hp) :=
  gI 1 3 z r0 fun x1 =>
  if x1 < 6 then (
    gR 1 0 z r0 fun a2 =>
    gI 1 3 z r0 fun x3 =>
    sI 1 z a2 x3 v1 fun z4 =>
    gR 1 1 z4 r0 fun a5 =>
    gI 1 3 z4 r0 fun x6 =>
    sI 1 z4 a5 x6 v2 fun z7 =>
    gR 1 2 z7 r0 fun a8 =>
    gI 1 3 z7 r0 fun x9 =>
    sI 1 z7 a8 x9 (-1) fun z10 =>
    gI 1 3 z10 r0 fun x11 =>
    pI 1 3 z10 r0 (x11 + 1) fun z12 =>
    some ((), z12)
  ) else
  some ((), z)
abbrev mi_X1_crackedBits : Mi := (RX1, cX1_crackedBits, 3, (Option.some Jvm.ClassFile.FieldType.int), "crackedBits", { frames := 0, cells := 0, slots := 0, locals := 0 })
def m_X1_crackedBits_B28 (k4 : Nat → Int32 → Int32 → Hp → Option (Int32 × Hp)) (r0 : Nat) (v1 : Int32) (v2 : Int32) (z : Hp) : Option (Int32 × Hp) :=
  k4 r0 v1 (v2 + 1) z
def m_X1_crackedBits_L4  : Nat → Nat → Int32 → Int32 → Hp → Option (Int32 × Hp)
  | 0, _, _, _, _ => none
  | f + 1, r0, v1, v2, z =>
    gI 1 3 z r0 fun x1 =>
    if v2 < x1 then (
      gR 1 2 z r0 fun a2 =>
      aI 1 z a2 v2 fun x3 =>
      if x3 = (-1) then (
        (m_X1_crackedBits_B28 (m_X1_crackedBits_L4  f)) r0 v1 v2 z
      ) else
      (m_X1_crackedBits_B28 (m_X1_crackedBits_L4  f)) r0 (v1 ||| ((1 : Int32) <<< (v2 &&& 31))) v2 z
    ) else
    some (v1, z)
def m_X1_crackedBits (r0 : Nat) (z : Hp) : Option (Int32 × Hp) :=
  (m_X1_crackedBits_L4 FU) r0 0 0 z
abbrev mi_X1_tell : Mi := (RX1, cX1_tell, 3, (Option.some Jvm.ClassFile.FieldType.int), "tell", { frames := 0, cells := 0, slots := 0, locals := 0 })
def m_X1_tell (r0 : Nat) (v1 : Int32) (v2 : Int32) (z : Hp) : Option (Int32 × Hp) :=
  if v1 < 0 then (
    some ((-2000000000), z)
  ) else
  gI 1 3 z r0 fun x1 =>
  if v1 < x1 then (
    if v2 = 0 then (
      gR 1 0 z r0 fun a2 =>
      aI 1 z a2 v1 fun x3 =>
      some (x3, z)
    ) else
    if v2 = 1 then (
      gR 1 1 z r0 fun a5 =>
      aI 1 z a5 v1 fun x6 =>
      some (x6, z)
    ) else
    if v2 = 2 then (
      gR 1 2 z r0 fun a8 =>
      aI 1 z a8 v1 fun x9 =>
      some (x9, z)
    ) else
    some ((-2000000000), z)
  ) else
  some ((-2000000000), z)
abbrev mi_X1_copyFrom : Mi := (RX1, cX1_copyFrom, 2, (Option.none : Option Jvm.ClassFile.FieldType), "copyFrom", { frames := 1, cells := 0, slots := 0, locals := 18 })
def m_X1_copyFrom (r0 : Nat) (r1 : Nat) (z : Hp) : Option (Unit × Hp) :=
  gR 1 0 z r1 fun a1 =>
  gR 1 0 z r0 fun a2 =>
  cpI z a1 0 a2 0 6 fun z3 =>
  gR 1 1 z3 r1 fun a4 =>
  gR 1 1 z3 r0 fun a5 =>
  cpI z3 a4 0 a5 0 6 fun z6 =>
  gR 1 2 z6 r1 fun a7 =>
  gR 1 2 z6 r0 fun a8 =>
  cpI z6 a7 0 a8 0 6 fun z9 =>
  gI 1 3 z9 r1 fun x10 =>
  pI 1 3 z9 r0 x10 fun z11 =>
  some ((), z11)
abbrev mi_X2_init : Mi := (RX2, cX2_init, 3, (Option.none : Option Jvm.ClassFile.FieldType), "<init>", { frames := 1, cells := 1, slots := 4, locals := 20 })
def m_X2_init (r0 : Nat) (r1 : Nat) (r2 : Nat) (z : Hp) : Option (Unit × Hp) :=
  nwC 1 4 z fun a1 z2 =>
  pR 2 1 z2 r0 a1 fun z3 =>
  pI 2 3 z3 r0 0 fun z4 =>
  pI 2 4 z4 r0 0 fun z5 =>
  pI 2 5 z5 r0 0 fun z6 =>
  pI 2 6 z6 r0 0 fun z7 =>
  pI 2 7 z7 r0 (-1) fun z8 =>
  pR 2 0 z8 r0 r1 fun z9 =>
  pR 2 2 z9 r0 r2 fun z10 =>
  some ((), z10)
abbrev mi_J7_fill_53178 : Mi := (RJ7, cJ7_fill_53178, 4, (Option.none : Option Jvm.ClassFile.FieldType), "fill", { frames := 0, cells := 0, slots := 0, locals := 0 })
def m_J7_fill_53178_L5  : Nat → Nat → Int32 → Int32 → Int32 → Hp → Option (Unit × Hp)
  | 0, _, _, _, _, _ => none
  | f + 1, r0, v1, v2, v3, z =>
    if v2 < v3 then (
      sI 1 z r0 v2 v1 fun z1 =>
      (m_J7_fill_53178_L5  f) r0 v1 (v2 + 1) v3 z1
    ) else
    some ((), z)
def m_J7_fill_53178 (r0 : Nat) (v1 : Int32) (z : Hp) : Option (Unit × Hp) :=
  aN 1 z r0 fun x2 =>
  (m_J7_fill_53178_L5 FU) r0 v1 0 x2 z
abbrev mi_X7_forget : Mi := (RX7, cX7_forget, 1, (Option.none : Option Jvm.ClassFile.FieldType), "forget", { frames := 1, cells := 0, slots := 0, locals := 23 })
def m_X7_forget (r0 : Nat) (z : Hp) : Option (Unit × Hp) :=
  gR 7 0 z r0 fun a1 =>
  bnd (m_J7_fill_53178 a1 10 z) fun _ z2 =>
  gR 7 1 z2 r0 fun a3 =>
  bnd (m_J7_fill_53178 a3 15 z2) fun _ z4 =>
  gR 7 2 z4 r0 fun a5 =>
  bnd (m_J7_fill_53178 a5 100 z4) fun _ z6 =>
  gR 7 3 z6 r0 fun a7 =>
  bnd (m_J7_fill_53178 a7 0 z6) fun _ z8 =>
  gR 7 4 z8 r0 fun a9 =>
  bnd (m_J7_fill_53178 a9 0 z8) fun _ z10 =>
  gR 7 5 z10 r0 fun a11 =>
  bnd (m_J7_fill_53178 a11 (-1) z10) fun _ z12 =>
  pI 7 6 z12 r0 100 fun z13 =>
  some ((), z13)
abbrev mi_X8_forget : Mi := (RX8, cX8_forget, 1, (Option.none : Option Jvm.ClassFile.FieldType), "forget", { frames := 2, cells := 0, slots := 0, locals := 43 })
def m_X8_forget (r0 : Nat) (z : Hp) : Option (Unit × Hp) :=
  gR 8 0 z r0 fun a1 =>
  isC 7 z a1 <| bnd (m_X7_forget a1 z) fun _ z2 =>
  gR 8 1 z2 r0 fun a4 =>
  pI 3 6 z2 a4 0 fun z5 =>
  gR 8 2 z5 r0 fun a6 =>
  pI 1 3 z5 a6 0 fun z7 =>
  gR 8 3 z7 r0 fun a8 =>
  pI 5 4 z7 a8 0 fun z9 =>
  gR 8 8 z9 r0 fun a10 =>
  bnd (m_J7_fill_53178 a10 0 z9) fun _ z11 =>
  pI 8 10 z11 r0 0 fun z12 =>
  pI 8 12 z12 r0 99999 fun z13 =>
  pI 8 13 z13 r0 0 fun z14 =>
  some ((), z14)
abbrev mi_X4_kindOf : Mi := (RX4, cX4_kindOf, 1, (Option.some Jvm.ClassFile.FieldType.int), "kindOf", { frames := 0, cells := 0, slots := 0, locals := 0 })
def m_X4_kindOf_B66   (z : Hp) : Option (Int32 × Hp) :=
  some (3, z)
def m_X4_kindOf_B42  (v0 : Int32) (z : Hp) : Option (Int32 × Hp) :=
  if v0 = 60 then (
    m_X4_kindOf_B66 z
  ) else
  if v0 = 62 then (
    m_X4_kindOf_B66 z
  ) else
  if v0 = 45 then (
    m_X4_kindOf_B66 z
  ) else
  if v0 = 59 then (
    m_X4_kindOf_B66 z
  ) else
  some (5, z)
def m_X4_kindOf_B28  (v0 : Int32) (z : Hp) : Option (Int32 × Hp) :=
  if v0 < 48 then (
    m_X4_kindOf_B42 v0 z
  ) else
  if 57 < v0 then (
    m_X4_kindOf_B42 v0 z
  ) else
  some (2, z)
def m_X4_kindOf (v0 : Int32) (z : Hp) : Option (Int32 × Hp) :=
  if v0 = 32 then (
    some (4, z)
  ) else
  if v0 = 10 then (
    some (4, z)
  ) else
  if v0 < 97 then (
    m_X4_kindOf_B28 v0 z
  ) else
  if 122 < v0 then (
    m_X4_kindOf_B28 v0 z
  ) else
  some (1, z)
abbrev mi_J9_min_7cf53 : Mi := (RJ9, cJ9_min_7cf53, 2, (Option.some Jvm.ClassFile.FieldType.int), "min", { frames := 0, cells := 0, slots := 0, locals := 0 })
def m_J9_min_7cf53 (v0 : Int32) (v1 : Int32) (z : Hp) : Option (Int32 × Hp) :=
  if v1 < v0 then (
    some (v1, z)
  ) else
  some (v0, z)
abbrev mi_X4_advance : Mi := (RX4, cX4_advance, 1, (Option.none : Option Jvm.ClassFile.FieldType), "advance", { frames := 1, cells := 0, slots := 0, locals := 21 })
def m_X4_advance_B193 (k126 : Nat → Hp → Option (Unit × Hp)) (r0 : Nat) (z : Hp) : Option (Unit × Hp) :=
  gI 4 2 z r0 fun x1 =>
  pI 4 2 z r0 (x1 + 1) fun z2 =>
  k126 r0 z2
def m_X4_advance_L126  : Nat → Nat → Hp → Option (Unit × Hp)
  | 0, _, _ => none
  | f + 1, r0, z =>
    gI 4 2 z r0 fun x3 =>
    gI 4 1 z r0 fun x4 =>
    if x3 < x4 then (
      gR 4 0 z r0 fun a5 =>
      gI 4 2 z r0 fun x6 =>
      aI 1 z a5 x6 fun x7 =>
      bnd (m_X4_kindOf x7 z) fun x9 z8 =>
      gI 4 3 z8 r0 fun x10 =>
      if x9 = x10 then (
        gI 4 3 z8 r0 fun x11 =>
        if x11 = 2 then (
          gI 4 5 z8 r0 fun x12 =>
          gR 4 0 z8 r0 fun a13 =>
          gI 4 2 z8 r0 fun x14 =>
          aI 1 z8 a13 x14 fun x15 =>
          bnd (m_J9_min_7cf53 1000000 (((10 * x12) + x15) - 48) z8) fun x17 z16 =>
          pI 4 5 z16 r0 x17 fun z18 =>
          (m_X4_advance_B193 (m_X4_advance_L126  f)) r0 z18
        ) else
        (m_X4_advance_B193 (m_X4_advance_L126  f)) r0 z8
      ) else
      some ((), z8)
    ) else
    some ((), z)
def m_X4_advance_B40  (r0 : Nat) (z : Hp) : Option (Unit × Hp) :=
  gI 4 2 z r0 fun x19 =>
  pI 4 4 z r0 x19 fun z20 =>
  pI 4 5 z20 r0 0 fun z21 =>
  gI 4 2 z21 r0 fun x22 =>
  gI 4 1 z21 r0 fun x23 =>
  if x22 < x23 then (
    gR 4 0 z21 r0 fun a24 =>
    gI 4 2 z21 r0 fun x25 =>
    aI 1 z21 a24 x25 fun x26 =>
    bnd (m_X4_kindOf x26 z21) fun x28 z27 =>
    pI 4 3 z27 r0 x28 fun z29 =>
    gI 4 3 z29 r0 fun x30 =>
    if x30 = 1 then (
      (m_X4_advance_L126 FU) r0 z29
    ) else
    gI 4 3 z29 r0 fun x31 =>
    if x31 = 2 then (
      (m_X4_advance_L126 FU) r0 z29
    ) else
    gR 4 0 z29 r0 fun a32 =>
    gI 4 2 z29 r0 fun x33 =>
    aI 1 z29 a32 x33 fun x34 =>
    pI 4 5 z29 r0 x34 fun z35 =>
    gI 4 2 z35 r0 fun x36 =>
    pI 4 2 z35 r0 (x36 + 1) fun z37 =>
    some ((), z37)
  ) else
  pI 4 3 z21 r0 0 fun z38 =>
  some ((), z38)
def m_X4_advance_L0 (k40 : Nat → Hp → Option (Unit × Hp)) : Nat → Nat → Hp → Option (Unit × Hp)
  | 0, _, _ => none
  | f + 1, r0, z =>
    gI 4 2 z r0 fun x39 =>
    gI 4 1 z r0 fun x40 =>
    if x39 < x40 then (
      gR 4 0 z r0 fun a41 =>
      gI 4 2 z r0 fun x42 =>
      aI 1 z a41 x42 fun x43 =>
      bnd (m_X4_kindOf x43 z) fun x45 z44 =>
      if x45 = 4 then (
        gI 4 2 z44 r0 fun x46 =>
        pI 4 2 z44 r0 (x46 + 1) fun z47 =>
        (m_X4_advance_L0 k40 f) r0 z47
      ) else
      k40 r0 z44
    ) else
    k40 r0 z
def m_X4_advance (r0 : Nat) (z : Hp) : Option (Unit × Hp) :=
  (m_X4_advance_L0 m_X4_advance_B40 FU) r0 z
abbrev mi_X4_rewind : Mi := (RX4, cX4_rewind, 1, (Option.none : Option Jvm.ClassFile.FieldType), "rewind", { frames := 2, cells := 0, slots := 0, locals := 41 })
def m_X4_rewind (r0 : Nat) (z : Hp) : Option (Unit × Hp) :=
  pI 4 2 z r0 0 fun z1 =>
  isC 4 z1 r0 <| bnd (m_X4_advance r0 z1) fun _ z2 =>
  some ((), z2)
abbrev mi_X4_isWord : Mi := (RX4, cX4_isWord, 3, (Option.some Jvm.ClassFile.FieldType.boolean), "isWord", { frames := 4, cells := 0, slots := 0, locals := 110 })
def m_X4_isWord_L28  : Nat → Nat → Nat → Int32 → Hp → Option (Int32 × Hp)
  | 0, _, _, _, _ => none
  | f + 1, r0, q1, v2, z =>
    sLen q1 fun x1 =>
    if v2 < x1 then (
      gR 4 0 z r0 fun a2 =>
      gI 4 4 z r0 fun x3 =>
      aI 1 z a2 (x3 + v2) fun x4 =>
      sCh q1 v2 fun x5 =>
      if x4 = x5 then (
        (m_X4_isWord_L28  f) r0 q1 (v2 + 1) z
      ) else
      some (0, z)
    ) else
    some (1, z)
def m_X4_isWord (r0 : Nat) (q1 : Nat) (z : Hp) : Option (Int32 × Hp) :=
  gI 4 3 z r0 fun x6 =>
  if x6 = 1 then (
    gI 4 2 z r0 fun x7 =>
    gI 4 4 z r0 fun x8 =>
    sLen q1 fun x9 =>
    if (x7 - x8) = x9 then (
      (m_X4_isWord_L28 FU) r0 q1 0 z
    ) else
    some (0, z)
  ) else
  some (0, z)
abbrev mi_X2_fail : Mi := (RX2, cX2_fail, 3, (Option.none : Option Jvm.ClassFile.FieldType), "fail", { frames := 0, cells := 0, slots := 0, locals := 0 })
def m_X2_fail (r0 : Nat) (v1 : Int32) (v2 : Int32) (z : Hp) : Option (Unit × Hp) :=
  gI 2 6 z r0 fun x1 =>
  if x1 = 0 then (
    pI 2 6 z r0 v1 fun z2 =>
    pI 2 7 z2 r0 v2 fun z3 =>
    some ((), z3)
  ) else
  some ((), z)
abbrev mi_X2_openLine : Mi := (RX2, cX2_openLine, 2, (Option.none : Option Jvm.ClassFile.FieldType), "openLine", { frames := 2, cells := 0, slots := 0, locals := 41 })
def m_X2_openLine_B16  (r0 : Nat) (z : Hp) : Option (Unit × Hp) :=
  gR 2 0 z r0 fun a1 =>
  isC 4 z a1 <| bnd (m_X4_advance a1 z) fun _ z2 =>
  some ((), z2)
def m_X2_openLine (r0 : Nat) (v1 : Int32) (z : Hp) : Option (Unit × Hp) :=
  if v1 = 0 then (
    gR 2 0 z r0 fun a4 =>
    gI 4 4 z a4 fun x5 =>
    isC 2 z r0 <| bnd (m_X2_fail r0 3 x5 z) fun _ z6 =>
    m_X2_openLine_B16 r0 z6
  ) else
  m_X2_openLine_B16 r0 z
abbrev mi_X4_isSign : Mi := (RX4, cX4_isSign, 2, (Option.some Jvm.ClassFile.FieldType.boolean), "isSign", { frames := 0, cells := 0, slots := 0, locals := 0 })
def m_X4_isSign (r0 : Nat) (v1 : Int32) (z : Hp) : Option (Int32 × Hp) :=
  gI 4 3 z r0 fun x1 =>
  if x1 = 3 then (
    gI 4 5 z r0 fun x2 =>
    if x2 = v1 then (
      some (1, z)
    ) else
    some (0, z)
  ) else
  some (0, z)
abbrev mi_X2_number : Mi := (RX2, cX2_number, 5, (Option.some Jvm.ClassFile.FieldType.int), "number", { frames := 2, cells := 0, slots := 0, locals := 41 })
def m_X2_number_B109  (r0 : Nat) (v1 : Int32) (z : Hp) : Option (Int32 × Hp) :=
  gI 2 5 z r0 fun x1 =>
  isC 2 z r0 <| bnd (m_X2_fail r0 2 x1 z) fun _ z2 =>
  some (v1, z2)
def m_X2_number_B88  (r0 : Nat) (v1 : Int32) (v2 : Int32) (t0 : Int32) (z : Hp) : Option (Int32 × Hp) :=
  gR 2 0 z r0 fun a4 =>
  isC 4 z a4 <| bnd (m_X4_advance a4 z) fun _ z5 =>
  if t0 < v1 then (
    m_X2_number_B109 r0 v1 z5
  ) else
  if v2 < t0 then (
    m_X2_number_B109 r0 v1 z5
  ) else
  some (t0, z5)
def m_X2_number_B33  (r0 : Nat) (v1 : Int32) (v2 : Int32) (v3 : Int32) (z : Hp) : Option (Int32 × Hp) :=
  gR 2 0 z r0 fun a7 =>
  gI 4 4 z a7 fun x8 =>
  pI 2 5 z r0 x8 fun z9 =>
  gR 2 0 z9 r0 fun a10 =>
  gI 4 3 z9 a10 fun x11 =>
  if x11 = 2 then (
    if v3 = 0 then (
      gR 2 0 z9 r0 fun a12 =>
      gI 4 5 z9 a12 fun x13 =>
      m_X2_number_B88 r0 v1 v2 x13 z9
    ) else
    gR 2 0 z9 r0 fun a14 =>
    gI 4 5 z9 a14 fun x15 =>
    m_X2_number_B88 r0 v1 v2 (-x15) z9
  ) else
  gI 2 5 z9 r0 fun x16 =>
  isC 2 z9 r0 <| bnd (m_X2_fail r0 1 x16 z9) fun _ z17 =>
  some (v1, z17)
def m_X2_number_B21  (r0 : Nat) (v1 : Int32) (v2 : Int32) (t0 : Int32) (z : Hp) : Option (Int32 × Hp) :=
  if t0 = 0 then (
    m_X2_number_B33 r0 v1 v2 t0 z
  ) else
  gR 2 0 z r0 fun a19 =>
  isC 4 z a19 <| bnd (m_X4_advance a19 z) fun _ z20 =>
  m_X2_number_B33 r0 v1 v2 t0 z20
def m_X2_number_B20  (r0 : Nat) (v1 : Int32) (v2 : Int32) (z : Hp) : Option (Int32 × Hp) :=
  m_X2_number_B21 r0 v1 v2 0 z
def m_X2_number (r0 : Nat) (v1 : Int32) (v2 : Int32) (z : Hp) : Option (Int32 × Hp) :=
  if v1 < 0 then (
    gR 2 0 z r0 fun a22 =>
    isC 4 z a22 <| bnd (m_X4_isSign a22 45 z) fun x24 z23 =>
    if x24 = 0 then (
      m_X2_number_B20 r0 v1 v2 z23
    ) else
    m_X2_number_B21 r0 v1 v2 1 z23
  ) else
  m_X2_number_B20 r0 v1 v2 z
abbrev mi_X2_needWord : Mi := (RX2, cX2_needWord, 2, (Option.none : Option Jvm.ClassFile.FieldType), "needWord", { frames := 5, cells := 0, slots := 0, locals := 132 })
def m_X2_needWord_B23  (r0 : Nat) (z : Hp) : Option (Unit × Hp) :=
  gR 2 0 z r0 fun a1 =>
  isC 4 z a1 <| bnd (m_X4_advance a1 z) fun _ z2 =>
  some ((), z2)
def m_X2_needWord (r0 : Nat) (q1 : Nat) (z : Hp) : Option (Unit × Hp) :=
  gR 2 0 z r0 fun a4 =>
  isC 4 z a4 <| bnd (m_X4_isWord a4 q1 z) fun x6 z5 =>
  if x6 = 0 then (
    gR 2 0 z5 r0 fun a8 =>
    gI 4 4 z5 a8 fun x9 =>
    isC 2 z5 r0 <| bnd (m_X2_fail r0 1 x9 z5) fun _ z10 =>
    m_X2_needWord_B23 r0 z10
  ) else
  m_X2_needWord_B23 r0 z5
abbrev mi_X2_readGround : Mi := (RX2, cX2_readGround, 2, (Option.none : Option Jvm.ClassFile.FieldType), "readGround", { frames := 6, cells := 0, slots := 0, locals := 153 })
def m_X2_readGround_B25  (r0 : Nat) (v1 : Int32) (z : Hp) : Option (Unit × Hp) :=
  gR 2 1 z r0 fun a1 =>
  sI 1 z a1 v1 1 fun z2 =>
  isC 2 z2 r0 <| bnd (m_X2_needWord r0 1 z2) fun _ z3 =>
  gR 2 2 z3 r0 fun a5 =>
  gR 8 0 z3 a5 fun a6 =>
  gR 7 0 z3 a6 fun a7 =>
  isC 2 z3 r0 <| bnd (m_X2_number r0 0 15 z3) fun x9 z8 =>
  sI 1 z8 a7 v1 x9 fun z11 =>
  isC 2 z11 r0 <| bnd (m_X2_needWord r0 2 z11) fun _ z12 =>
  gR 2 2 z12 r0 fun a14 =>
  gR 8 0 z12 a14 fun a15 =>
  gR 7 1 z12 a15 fun a16 =>
  isC 2 z12 r0 <| bnd (m_X2_number r0 0 15 z12) fun x18 z17 =>
  sI 1 z17 a16 v1 x18 fun z20 =>
  isC 2 z20 r0 <| bnd (m_X2_needWord r0 3 z20) fun _ z21 =>
  gR 2 2 z21 r0 fun a23 =>
  gR 8 0 z21 a23 fun a24 =>
  gR 7 2 z21 a24 fun a25 =>
  isC 2 z21 r0 <| bnd (m_X2_number r0 1 999 z21) fun x27 z26 =>
  sI 1 z26 a25 v1 x27 fun z29 =>
  isC 2 z29 r0 <| bnd (m_X2_needWord r0 4 z29) fun _ z30 =>
  gR 2 2 z30 r0 fun a32 =>
  gR 8 0 z30 a32 fun a33 =>
  gR 7 3 z30 a33 fun a34 =>
  isC 2 z30 r0 <| bnd (m_X2_number r0 (-30) 0 z30) fun x36 z35 =>
  sI 1 z35 a34 v1 x36 fun z38 =>
  some ((), z38)
def m_X2_readGround (r0 : Nat) (z : Hp) : Option (Unit × Hp) :=
  isC 2 z r0 <| bnd (m_X2_number r0 0 3 z) fun x40 z39 =>
  gR 2 1 z39 r0 fun a42 =>
  aI 1 z39 a42 x40 fun x43 =>
  if x43 = 0 then (
    m_X2_readGround_B25 r0 x40 z39
  ) else
  gI 2 5 z39 r0 fun x44 =>
  isC 2 z39 r0 <| bnd (m_X2_fail r0 2 x44 z39) fun _ z45 =>
  m_X2_readGround_B25 r0 x40 z45
abbrev mi_X2_fillBlock : Mi := (RX2, cX2_fillBlock, 8, (Option.none : Option Jvm.ClassFile.FieldType), "fillBlock", { frames := 0, cells := 0, slots := 0, locals := 0 })
def m_X2_fillBlock_B37 (k3 : Nat → Int32 → Int32 → Int32 → Int32 → Int32 → Hp → Option (Unit × Hp)) (r0 : Nat) (v1 : Int32) (v3 : Int32) (v4 : Int32) (v5 : Int32) (v6 : Int32) (z : Hp) : Option (Unit × Hp) :=
  k3 r0 v1 v3 v4 v5 (v6 + 1) z
def m_X2_fillBlock_L13 (k37 : Nat → Int32 → Int32 → Int32 → Int32 → Int32 → Hp → Option (Unit × Hp)) : Nat → Nat → Int32 → Int32 → Int32 → Int32 → Int32 → Int32 → Hp → Option (Unit × Hp)
  | 0, _, _, _, _, _, _, _, _ => none
  | f + 1, r0, v1, v3, v4, v5, v6, v7, z =>
    if v3 < v7 then (
      k37 r0 v1 v3 v4 v5 v6 z
    ) else
    sI 1 z r0 ((12 * v6) + v7) v5 fun z1 =>
    (m_X2_fillBlock_L13 k37 f) r0 v1 v3 v4 v5 v6 (v7 + 1) z1
def m_X2_fillBlock_L3  : Nat → Nat → Int32 → Int32 → Int32 → Int32 → Int32 → Hp → Option (Unit × Hp)
  | 0, _, _, _, _, _, _, _ => none
  | f + 1, r0, v1, v3, v4, v5, v6, z =>
    if v4 < v6 then (
      some ((), z)
    ) else
    (m_X2_fillBlock_L13 (m_X2_fillBlock_B37 (m_X2_fillBlock_L3  f)) FU) r0 v1 v3 v4 v5 v6 v1 z
def m_X2_fillBlock (r0 : Nat) (v1 : Int32) (v2 : Int32) (v3 : Int32) (v4 : Int32) (v5 : Int32) (z : Hp) : Option (Unit × Hp) :=
  (m_X2_fillBlock_L3 FU) r0 v1 v3 v4 v5 v2 z
abbrev mi_X2_readLay : Mi := (RX2, cX2_readLay, 6, (Option.none : Option Jvm.ClassFile.FieldType), "readLay", { frames := 6, cells := 0, slots := 0, locals := 153 })
def m_X2_readLay (r0 : Nat) (z : Hp) : Option (Unit × Hp) :=
  isC 2 z r0 <| bnd (m_X2_number r0 0 11 z) fun x2 z1 =>
  isC 2 z1 r0 <| bnd (m_X2_number r0 0 11 z1) fun x5 z4 =>
  isC 2 z4 r0 <| bnd (m_X2_needWord r0 6 z4) fun _ z7 =>
  isC 2 z7 r0 <| bnd (m_X2_number r0 x2 11 z7) fun x10 z9 =>
  isC 2 z9 r0 <| bnd (m_X2_number r0 x5 11 z9) fun x13 z12 =>
  isC 2 z12 r0 <| bnd (m_X2_needWord r0 0 z12) fun _ z15 =>
  isC 2 z15 r0 <| bnd (m_X2_number r0 0 3 z15) fun x18 z17 =>
  gR 2 2 z17 r0 fun a20 =>
  gR 8 0 z17 a20 fun a21 =>
  gR 7 4 z17 a21 fun a22 =>
  bnd (m_X2_fillBlock a22 x2 x5 x10 x13 x18 z17) fun _ z23 =>
  some ((), z23)
abbrev mi_X2_readStream : Mi := (RX2, cX2_readStream, 2, (Option.none : Option Jvm.ClassFile.FieldType), "readStream", { frames := 6, cells := 0, slots := 0, locals := 153 })
def m_X2_readStream_B33  (r0 : Nat) (v1 : Int32) (z : Hp) : Option (Unit × Hp) :=
  isC 2 z r0 <| bnd (m_X2_needWord r0 8 z) fun _ z1 =>
  gR 2 2 z1 r0 fun a3 =>
  gR 8 0 z1 a3 fun a4 =>
  gR 7 5 z1 a4 fun a5 =>
  isC 2 z1 r0 <| bnd (m_X2_number r0 0 30 z1) fun x7 z6 =>
  sI 1 z6 a5 v1 x7 fun z9 =>
  some ((), z9)
def m_X2_readStream (r0 : Nat) (z : Hp) : Option (Unit × Hp) :=
  isC 2 z r0 <| bnd (m_X2_number r0 0 11 z) fun x11 z10 =>
  gR 2 2 z10 r0 fun a13 =>
  gR 8 0 z10 a13 fun a14 =>
  gR 7 5 z10 a14 fun a15 =>
  aI 1 z10 a15 x11 fun x16 =>
  if x16 = (-1) then (
    m_X2_readStream_B33 r0 x11 z10
  ) else
  gI 2 5 z10 r0 fun x17 =>
  isC 2 z10 r0 <| bnd (m_X2_fail r0 2 x17 z10) fun _ z18 =>
  m_X2_readStream_B33 r0 x11 z18
abbrev mi_X2_readFar : Mi := (RX2, cX2_readFar, 1, (Option.none : Option Jvm.ClassFile.FieldType), "readFar", { frames := 3, cells := 0, slots := 0, locals := 65 })
def m_X2_readFar (r0 : Nat) (z : Hp) : Option (Unit × Hp) :=
  pI 2 3 z r0 1 fun z1 =>
  gR 2 2 z1 r0 fun a2 =>
  gR 8 0 z1 a2 fun a3 =>
  isC 2 z1 r0 <| bnd (m_X2_number r0 1 300 z1) fun x5 z4 =>
  pI 7 6 z4 a3 x5 fun z7 =>
  some ((), z7)
abbrev mi_X2_readShaft : Mi := (RX2, cX2_readShaft, 5, (Option.none : Option Jvm.ClassFile.FieldType), "readShaft", { frames := 6, cells := 0, slots := 0, locals := 153 })
def m_X2_readShaft (r0 : Nat) (z : Hp) : Option (Unit × Hp) :=
  isC 2 z r0 <| bnd (m_X2_number r0 1 10 z) fun x2 z1 =>
  isC 2 z1 r0 <| bnd (m_X2_number r0 1 10 z1) fun x5 z4 =>
  isC 2 z4 r0 <| bnd (m_X2_needWord r0 6 z4) fun _ z7 =>
  isC 2 z7 r0 <| bnd (m_X2_number r0 x2 10 z7) fun x10 z9 =>
  isC 2 z9 r0 <| bnd (m_X2_number r0 x5 10 z9) fun x13 z12 =>
  gR 2 2 z12 r0 fun a15 =>
  gR 8 8 z12 a15 fun a16 =>
  bnd (m_X2_fillBlock a16 x2 x5 x10 x13 1 z12) fun _ z17 =>
  gR 2 2 z17 r0 fun a18 =>
  pI 8 10 z17 a18 (((x10 - x2) + 1) * ((x13 - x5) + 1)) fun z19 =>
  some ((), z19)
abbrev mi_X3_standingIn : Mi := (RX3, cX3_standingIn, 3, (Option.some Jvm.ClassFile.FieldType.int), "standingIn", { frames := 0, cells := 0, slots := 0, locals := 0 })
def m_X3_standingIn_L2  : Nat → Nat → Int32 → Int32 → Hp → Option (Int32 × Hp)
  | 0, _, _, _, _ => none
  | f + 1, r0, v1, v2, z =>
    gI 3 6 z r0 fun x1 =>
    if v2 < x1 then (
      gR 3 0 z r0 fun a2 =>
      aI 1 z a2 v2 fun x3 =>
      if x3 = v1 then (
        some (v2, z)
      ) else
      (m_X3_standingIn_L2  f) r0 v1 (v2 + 1) z
    ) else
    some ((-1), z)
def m_X3_standingIn (r0 : Nat) (v1 : Int32) (z : Hp) : Option (Int32 × Hp) :=
  (m_X3_standingIn_L2 FU) r0 v1 0 z
abbrev mi_X3_add : Mi := (RX3, cX3_add, 4, (Option.none : Option Jvm.ClassFile.FieldType), "add", { frames := 0, cells := 0, slots := 0, locals := 0 })
def m_X3_add (r0 : Nat) (v1 : Int32) (v2 : Int32) (v3 : Int32) (z : Hp) : Option (Unit × Hp) :=
  gI 3 6 z r0 fun x1 =>
  if x1 < 18 then (
    gR 3 0 z r0 fun a2 =>
    gI 3 6 z r0 fun x3 =>
    sI 1 z a2 x3 v1 fun z4 =>
    gR 3 1 z4 r0 fun a5 =>
    gI 3 6 z4 r0 fun x6 =>
    sI 1 z4 a5 x6 v2 fun z7 =>
    gR 3 2 z7 r0 fun a8 =>
    gI 3 6 z7 r0 fun x9 =>
    sI 1 z7 a8 x9 v3 fun z10 =>
    gR 3 3 z10 r0 fun a11 =>
    gI 3 6 z10 r0 fun x12 =>
    sI 1 z10 a11 x12 1 fun z13 =>
    gR 3 4 z13 r0 fun a14 =>
    gI 3 6 z13 r0 fun x15 =>
    sI 1 z13 a14 x15 0 fun z16 =>
    gR 3 5 z16 r0 fun a17 =>
    gI 3 6 z16 r0 fun x18 =>
    sI 1 z16 a17 x18 0 fun z19 =>
    gI 3 6 z19 r0 fun x20 =>
    pI 3 6 z19 r0 (x20 + 1) fun z21 =>
    some ((), z21)
  ) else
  some ((), z)
abbrev mi_X2_readPipe : Mi := (RX2, cX2_readPipe, 5, (Option.none : Option Jvm.ClassFile.FieldType), "readPipe", { frames := 6, cells := 0, slots := 0, locals := 153 })
def m_X2_readPipe_B47  (r0 : Nat) (v3 : Int32) (z : Hp) : Option (Unit × Hp) :=
  isC 2 z r0 <| bnd (m_X2_needWord r0 12 z) fun _ z1 =>
  isC 2 z1 r0 <| bnd (m_X2_number r0 (-400) 0 z1) fun x4 z3 =>
  isC 2 z3 r0 <| bnd (m_X2_needWord r0 1 z3) fun _ z6 =>
  gR 2 2 z6 r0 fun a8 =>
  gR 8 1 z6 a8 fun a9 =>
  isC 2 z6 r0 <| bnd (m_X2_number r0 0 60 z6) fun x11 z10 =>
  isC 3 z10 a9 <| bnd (m_X3_add a9 v3 x4 x11 z10) fun _ z13 =>
  some ((), z13)
def m_X2_readPipe (r0 : Nat) (z : Hp) : Option (Unit × Hp) :=
  isC 2 z r0 <| bnd (m_X2_number r0 0 11 z) fun x16 z15 =>
  isC 2 z15 r0 <| bnd (m_X2_number r0 0 11 z15) fun x19 z18 =>
  gR 2 2 z18 r0 fun a21 =>
  gR 8 1 z18 a21 fun a22 =>
  isC 3 z18 a22 <| bnd (m_X3_standingIn a22 ((12 * x19) + x16) z18) fun x24 z23 =>
  if x24 = (-1) then (
    m_X2_readPipe_B47 r0 ((12 * x19) + x16) z23
  ) else
  gI 2 5 z23 r0 fun x26 =>
  isC 2 z23 r0 <| bnd (m_X2_fail r0 2 x26 z23) fun _ z27 =>
  m_X2_readPipe_B47 r0 ((12 * x19) + x16) z27
abbrev mi_X2_readCold : Mi := (RX2, cX2_readCold, 1, (Option.none : Option Jvm.ClassFile.FieldType), "readCold", { frames := 3, cells := 0, slots := 0, locals := 65 })
def m_X2_readCold (r0 : Nat) (z : Hp) : Option (Unit × Hp) :=
  pI 2 4 z r0 1 fun z1 =>
  gR 2 2 z1 r0 fun a2 =>
  isC 2 z1 r0 <| bnd (m_X2_number r0 0 99999 z1) fun x4 z3 =>
  pI 8 12 z3 a2 x4 fun z6 =>
  some ((), z6)
abbrev mi_X2_readHouse : Mi := (RX2, cX2_readHouse, 2, (Option.none : Option Jvm.ClassFile.FieldType), "readHouse", { frames := 6, cells := 0, slots := 0, locals := 153 })
def m_X2_readHouse (r0 : Nat) (z : Hp) : Option (Unit × Hp) :=
  isC 2 z r0 <| bnd (m_X2_number r0 0 10 z) fun x2 z1 =>
  isC 2 z1 r0 <| bnd (m_X2_needWord r0 15 z1) fun _ z4 =>
  gR 2 2 z4 r0 fun a6 =>
  gR 8 2 z4 a6 fun a7 =>
  isC 2 z4 r0 <| bnd (m_X2_number r0 0 999 z4) fun x9 z8 =>
  isC 1 z8 a7 <| bnd (m_X1_add a7 x2 x9 z8) fun _ z11 =>
  some ((), z11)
abbrev mi_X5_openRule : Mi := (RX5, cX5_openRule, 1, (Option.none : Option Jvm.ClassFile.FieldType), "openRule", { frames := 0, cells := 0, slots := 0, locals := 0 })
def m_X5_openRule (r0 : Nat) (z : Hp) : Option (Unit × Hp) :=
  gI 5 4 z r0 fun x1 =>
  if x1 < 4 then (
    gR 5 0 z r0 fun a2 =>
    gI 5 4 z r0 fun x3 =>
    sI 1 z a2 x3 0 fun z4 =>
    some ((), z4)
  ) else
  some ((), z)
abbrev mi_X2_condWord : Mi := (RX2, cX2_condWord, 1, (Option.some Jvm.ClassFile.FieldType.int), "condWord", { frames := 5, cells := 0, slots := 0, locals := 132 })
def m_X2_condWord (r0 : Nat) (z : Hp) : Option (Int32 × Hp) :=
  gR 2 0 z r0 fun a1 =>
  isC 4 z a1 <| bnd (m_X4_isWord a1 18 z) fun x3 z2 =>
  if x3 = 0 then (
    gR 2 0 z2 r0 fun a5 =>
    isC 4 z2 a5 <| bnd (m_X4_isWord a5 19 z2) fun x7 z6 =>
    if x7 = 0 then (
      gR 2 0 z6 r0 fun a9 =>
      isC 4 z6 a9 <| bnd (m_X4_isWord a9 20 z6) fun x11 z10 =>
      if x11 = 0 then (
        gR 2 0 z10 r0 fun a13 =>
        isC 4 z10 a13 <| bnd (m_X4_isWord a13 21 z10) fun x15 z14 =>
        if x15 = 0 then (
          gR 2 0 z14 r0 fun a17 =>
          isC 4 z14 a17 <| bnd (m_X4_isWord a17 22 z14) fun x19 z18 =>
          if x19 = 0 then (
            some ((-1), z18)
          ) else
          some (4, z18)
        ) else
        some (3, z14)
      ) else
      some (2, z10)
    ) else
    some (1, z6)
  ) else
  some (0, z2)
abbrev mi_X2_comparison : Mi := (RX2, cX2_comparison, 2, (Option.some Jvm.ClassFile.FieldType.int), "comparison", { frames := 2, cells := 0, slots := 0, locals := 41 })
def m_X2_comparison_B44  (r0 : Nat) (v1 : Int32) (z : Hp) : Option (Int32 × Hp) :=
  gR 2 0 z r0 fun a1 =>
  isC 4 z a1 <| bnd (m_X4_advance a1 z) fun _ z2 =>
  some (v1, z2)
def m_X2_comparison (r0 : Nat) (z : Hp) : Option (Int32 × Hp) :=
  gR 2 0 z r0 fun a4 =>
  gI 4 5 z a4 fun x5 =>
  gR 2 0 z r0 fun a6 =>
  isC 4 z a6 <| bnd (m_X4_isSign a6 60 z) fun x8 z7 =>
  if x8 = 0 then (
    gR 2 0 z7 r0 fun a10 =>
    isC 4 z7 a10 <| bnd (m_X4_isSign a10 62 z7) fun x12 z11 =>
    if x12 = 0 then (
      gR 2 0 z11 r0 fun a14 =>
      gI 4 4 z11 a14 fun x15 =>
      isC 2 z11 r0 <| bnd (m_X2_fail r0 1 x15 z11) fun _ z16 =>
      m_X2_comparison_B44 r0 x5 z16
    ) else
    m_X2_comparison_B44 r0 x5 z11
  ) else
  m_X2_comparison_B44 r0 x5 z7
abbrev mi_X5_addCond : Mi := (RX5, cX5_addCond, 5, (Option.none : Option Jvm.ClassFile.FieldType), "addCond", { frames := 0, cells := 0, slots := 0, locals := 0 })
def m_X5_addCond (r0 : Nat) (v1 : Int32) (v2 : Int32) (v3 : Int32) (z : Hp) : Option (Unit × Hp) :=
  gI 5 4 z r0 fun x1 =>
  if x1 < 4 then (
    gR 5 0 z r0 fun a2 =>
    gI 5 4 z r0 fun x3 =>
    aI 1 z a2 x3 fun x4 =>
    if x4 < 3 then (
      gI 5 4 z r0 fun x5 =>
      gR 5 0 z r0 fun a6 =>
      gI 5 4 z r0 fun x7 =>
      aI 1 z a6 x7 fun x8 =>
      gR 5 1 z r0 fun a9 =>
      sI 1 z a9 ((3 * x5) + x8) v1 fun z10 =>
      gR 5 2 z10 r0 fun a11 =>
      sI 1 z10 a11 ((3 * x5) + x8) v2 fun z12 =>
      gR 5 3 z12 r0 fun a13 =>
      sI 1 z12 a13 ((3 * x5) + x8) v3 fun z14 =>
      gR 5 0 z14 r0 fun a15 =>
      gI 5 4 z14 r0 fun x16 =>
      aI 1 z14 a15 x16 fun x17 =>
      sI 1 z14 a15 x16 (x17 + 1) fun z18 =>
      some ((), z18)
    ) else
    some ((), z)
  ) else
  some ((), z)
abbrev mi_X5_closeRule : Mi := (RX5, cX5_closeRule, 1, (Option.none : Option Jvm.ClassFile.FieldType), "closeRule", { frames := 0, cells := 0, slots := 0, locals := 0 })
def m_X5_closeRule (r0 : Nat) (z : Hp) : Option (Unit × Hp) :=
  gI 5 4 z r0 fun x1 =>
  if x1 < 4 then (
    gI 5 4 z r0 fun x2 =>
    pI 5 4 z r0 (x2 + 1) fun z3 =>
    some ((), z3)
  ) else
  some ((), z)
abbrev mi_X2_readRule : Mi := (RX2, cX2_readRule, 5, (Option.none : Option Jvm.ClassFile.FieldType), "readRule", { frames := 6, cells := 0, slots := 0, locals := 153 })
def m_X2_readRule_B151  (r0 : Nat) (z : Hp) : Option (Unit × Hp) :=
  gR 2 2 z r0 fun a1 =>
  gR 8 3 z a1 fun a2 =>
  isC 5 z a2 <| bnd (m_X5_closeRule a2 z) fun _ z3 =>
  some ((), z3)
def m_X2_readRule_B135  (r0 : Nat) (z : Hp) : Option (Unit × Hp) :=
  m_X2_readRule_B151 r0 z
def m_X2_readRule_B100 (k18 : Nat → Int32 → Hp → Option (Unit × Hp)) (k135 : Nat → Hp → Option (Unit × Hp)) (k151 : Nat → Hp → Option (Unit × Hp)) (r0 : Nat) (v1 : Int32) (v2 : Int32) (v3 : Int32) (t0 : Int32) (z : Hp) : Option (Unit × Hp) :=
  gR 2 2 z r0 fun a5 =>
  gR 8 3 z a5 fun a6 =>
  isC 5 z a6 <| bnd (m_X5_addCond a6 v2 v3 t0 z) fun _ z7 =>
  gI 2 6 z7 r0 fun x9 =>
  if x9 = 0 then (
    gR 2 0 z7 r0 fun a10 =>
    isC 4 z7 a10 <| bnd (m_X4_isWord a10 23 z7) fun x12 z11 =>
    if x12 = 0 then (
      k135 r0 z11
    ) else
    gR 2 0 z11 r0 fun a14 =>
    isC 4 z11 a14 <| bnd (m_X4_advance a14 z11) fun _ z15 =>
    k18 r0 (v1 + 1) z15
  ) else
  k151 r0 z7
def m_X2_readRule_B84 (k18 : Nat → Int32 → Hp → Option (Unit × Hp)) (k135 : Nat → Hp → Option (Unit × Hp)) (k151 : Nat → Hp → Option (Unit × Hp)) (r0 : Nat) (v1 : Int32) (v2 : Int32) (t0 : Int32) (z : Hp) : Option (Unit × Hp) :=
  if v2 = 0 then (
    (m_X2_readRule_B100 k18 k135 k151) r0 v1 v2 t0 0 z
  ) else
  isC 2 z r0 <| bnd (m_X2_number r0 0 99999 z) fun x18 z17 =>
  (m_X2_readRule_B100 k18 k135 k151) r0 v1 v2 t0 x18 z17
def m_X2_readRule_B65 (k18 : Nat → Int32 → Hp → Option (Unit × Hp)) (k135 : Nat → Hp → Option (Unit × Hp)) (k151 : Nat → Hp → Option (Unit × Hp)) (r0 : Nat) (v1 : Int32) (v2 : Int32) (z : Hp) : Option (Unit × Hp) :=
  gR 2 0 z r0 fun a20 =>
  isC 4 z a20 <| bnd (m_X4_advance a20 z) fun _ z21 =>
  if v2 = 0 then (
    (m_X2_readRule_B84 k18 k135 k151) r0 v1 v2 0 z21
  ) else
  isC 2 z21 r0 <| bnd (m_X2_comparison r0 z21) fun x24 z23 =>
  (m_X2_readRule_B84 k18 k135 k151) r0 v1 v2 x24 z23
def m_X2_readRule_L18 (k135 : Nat → Hp → Option (Unit × Hp)) (k151 : Nat → Hp → Option (Unit × Hp)) : Nat → Nat → Int32 → Hp → Option (Unit × Hp)
  | 0, _, _, _ => none
  | f + 1, r0, v1, z =>
    if 3 < v1 then (
      k151 r0 z
    ) else
    isC 2 z r0 <| bnd (m_X2_condWord r0 z) fun x27 z26 =>
    if x27 = (-1) then (
      gR 2 0 z26 r0 fun a33 =>
      gI 4 4 z26 a33 fun x34 =>
      isC 2 z26 r0 <| bnd (m_X2_fail r0 1 x34 z26) fun _ z35 =>
      (m_X2_readRule_B65 (m_X2_readRule_L18 k135 k151 f) k135 k151) r0 v1 x27 z35
    ) else
    if v1 = 3 then (
      gR 2 0 z26 r0 fun a29 =>
      gI 4 4 z26 a29 fun x30 =>
      isC 2 z26 r0 <| bnd (m_X2_fail r0 3 x30 z26) fun _ z31 =>
      (m_X2_readRule_B65 (m_X2_readRule_L18 k135 k151 f) k135 k151) r0 v1 x27 z31
    ) else
    (m_X2_readRule_B65 (m_X2_readRule_L18 k135 k151 f) k135 k151) r0 v1 x27 z26
def m_X2_readRule (r0 : Nat) (z : Hp) : Option (Unit × Hp) :=
  isC 2 z r0 <| bnd (m_X2_needWord r0 17 z) fun _ z37 =>
  gR 2 2 z37 r0 fun a39 =>
  gR 8 3 z37 a39 fun a40 =>
  isC 5 z37 a40 <| bnd (m_X5_openRule a40 z37) fun _ z41 =>
  (m_X2_readRule_L18 m_X2_readRule_B135 m_X2_readRule_B151 FU) r0 0 z41
abbrev mi_X2_needSign : Mi := (RX2, cX2_needSign, 2, (Option.none : Option Jvm.ClassFile.FieldType), "needSign", { frames := 2, cells := 0, slots := 0, locals := 41 })
def m_X2_needSign_B23  (r0 : Nat) (z : Hp) : Option (Unit × Hp) :=
  gR 2 0 z r0 fun a1 =>
  isC 4 z a1 <| bnd (m_X4_advance a1 z) fun _ z2 =>
  some ((), z2)
def m_X2_needSign (r0 : Nat) (v1 : Int32) (z : Hp) : Option (Unit × Hp) :=
  gR 2 0 z r0 fun a4 =>
  isC 4 z a4 <| bnd (m_X4_isSign a4 v1 z) fun x6 z5 =>
  if x6 = 0 then (
    gR 2 0 z5 r0 fun a8 =>
    gI 4 4 z5 a8 fun x9 =>
    isC 2 z5 r0 <| bnd (m_X2_fail r0 1 x9 z5) fun _ z10 =>
    m_X2_needSign_B23 r0 z10
  ) else
  m_X2_needSign_B23 r0 z5
abbrev mi_X2_readLine : Mi := (RX2, cX2_readLine, 2, (Option.none : Option Jvm.ClassFile.FieldType), "readLine", { frames := 7, cells := 0, slots := 0, locals := 178 })
def m_X2_readLine_B362  (r0 : Nat) (z : Hp) : Option (Unit × Hp) :=
  isC 2 z r0 <| bnd (m_X2_needSign r0 59 z) fun _ z1 =>
  gR 2 2 z1 r0 fun a3 =>
  gI 8 13 z1 a3 fun x4 =>
  pI 8 13 z1 a3 (x4 + 1) fun z5 =>
  some ((), z5)
def m_X2_readLine_B340  (r0 : Nat) (t0 : Int32) (b1 : Nat) (z : Hp) : Option (Unit × Hp) :=
  isC 2 z b1 <| bnd (m_X2_openLine b1 t0 z) fun _ z6 =>
  isC 2 z6 r0 <| bnd (m_X2_readRule r0 z6) fun _ z8 =>
  m_X2_readLine_B362 r0 z8
def m_X2_readLine_B339  (r0 : Nat) (b0 : Nat) (z : Hp) : Option (Unit × Hp) :=
  m_X2_readLine_B340 r0 0 b0 z
def m_X2_readLine_B294  (r0 : Nat) (t0 : Int32) (b1 : Nat) (z : Hp) : Option (Unit × Hp) :=
  isC 2 z b1 <| bnd (m_X2_openLine b1 t0 z) fun _ z10 =>
  isC 2 z10 r0 <| bnd (m_X2_readHouse r0 z10) fun _ z12 =>
  m_X2_readLine_B362 r0 z12
def m_X2_readLine_B293  (r0 : Nat) (b0 : Nat) (z : Hp) : Option (Unit × Hp) :=
  m_X2_readLine_B294 r0 0 b0 z
def m_X2_readLine_B247  (r0 : Nat) (t0 : Int32) (b1 : Nat) (z : Hp) : Option (Unit × Hp) :=
  isC 2 z b1 <| bnd (m_X2_openLine b1 t0 z) fun _ z14 =>
  isC 2 z14 r0 <| bnd (m_X2_readCold r0 z14) fun _ z16 =>
  m_X2_readLine_B362 r0 z16
def m_X2_readLine_B246  (r0 : Nat) (b0 : Nat) (z : Hp) : Option (Unit × Hp) :=
  m_X2_readLine_B247 r0 0 b0 z
def m_X2_readLine_B208  (r0 : Nat) (t0 : Int32) (b1 : Nat) (z : Hp) : Option (Unit × Hp) :=
  isC 2 z b1 <| bnd (m_X2_openLine b1 t0 z) fun _ z18 =>
  isC 2 z18 r0 <| bnd (m_X2_readPipe r0 z18) fun _ z20 =>
  m_X2_readLine_B362 r0 z20
def m_X2_readLine_B207  (r0 : Nat) (b0 : Nat) (z : Hp) : Option (Unit × Hp) :=
  m_X2_readLine_B208 r0 0 b0 z
def m_X2_readLine_B161  (r0 : Nat) (t0 : Int32) (b1 : Nat) (z : Hp) : Option (Unit × Hp) :=
  isC 2 z b1 <| bnd (m_X2_openLine b1 t0 z) fun _ z22 =>
  isC 2 z22 r0 <| bnd (m_X2_readShaft r0 z22) fun _ z24 =>
  m_X2_readLine_B362 r0 z24
def m_X2_readLine_B160  (r0 : Nat) (b0 : Nat) (z : Hp) : Option (Unit × Hp) :=
  m_X2_readLine_B161 r0 0 b0 z
def m_X2_readLine_B119  (r0 : Nat) (t0 : Int32) (b1 : Nat) (z : Hp) : Option (Unit × Hp) :=
  isC 2 z b1 <| bnd (m_X2_openLine b1 t0 z) fun _ z26 =>
  isC 2 z26 r0 <| bnd (m_X2_readFar r0 z26) fun _ z28 =>
  m_X2_readLine_B362 r0 z28
def m_X2_readLine_B118  (r0 : Nat) (b0 : Nat) (z : Hp) : Option (Unit × Hp) :=
  m_X2_readLine_B119 r0 0 b0 z
def m_X2_readLine_B17  (r0 : Nat) (t0 : Int32) (z : Hp) : Option (Unit × Hp) :=
  gR 2 0 z r0 fun a30 =>
  isC 4 z a30 <| bnd (m_X4_isWord a30 0 z) fun x32 z31 =>
  if x32 = 0 then (
    gR 2 0 z31 r0 fun a34 =>
    isC 4 z31 a34 <| bnd (m_X4_isWord a34 5 z31) fun x36 z35 =>
    if x36 = 0 then (
      gR 2 0 z35 r0 fun a38 =>
      isC 4 z35 a38 <| bnd (m_X4_isWord a38 7 z35) fun x40 z39 =>
      if x40 = 0 then (
        gR 2 0 z39 r0 fun a42 =>
        isC 4 z39 a42 <| bnd (m_X4_isWord a42 9 z39) fun x44 z43 =>
        if x44 = 0 then (
          gR 2 0 z43 r0 fun a46 =>
          isC 4 z43 a46 <| bnd (m_X4_isWord a46 10 z43) fun x48 z47 =>
          if x48 = 0 then (
            gR 2 0 z47 r0 fun a50 =>
            isC 4 z47 a50 <| bnd (m_X4_isWord a50 11 z47) fun x52 z51 =>
            if x52 = 0 then (
              gR 2 0 z51 r0 fun a54 =>
              isC 4 z51 a54 <| bnd (m_X4_isWord a54 13 z51) fun x56 z55 =>
              if x56 = 0 then (
                gR 2 0 z55 r0 fun a58 =>
                isC 4 z55 a58 <| bnd (m_X4_isWord a58 14 z55) fun x60 z59 =>
                if x60 = 0 then (
                  gR 2 0 z59 r0 fun a62 =>
                  isC 4 z59 a62 <| bnd (m_X4_isWord a62 16 z59) fun x64 z63 =>
                  if x64 = 0 then (
                    gR 2 0 z63 r0 fun a66 =>
                    gI 4 4 z63 a66 fun x67 =>
                    isC 2 z63 r0 <| bnd (m_X2_fail r0 1 x67 z63) fun _ z68 =>
                    m_X2_readLine_B362 r0 z68
                  ) else
                  if t0 = 0 then (
                    m_X2_readLine_B339 r0 r0 z63
                  ) else
                  gR 2 2 z63 r0 fun a70 =>
                  gR 8 3 z63 a70 fun a71 =>
                  gI 5 4 z63 a71 fun x72 =>
                  if x72 < 4 then (
                    m_X2_readLine_B340 r0 1 r0 z63
                  ) else
                  m_X2_readLine_B339 r0 r0 z63
                ) else
                if t0 = 0 then (
                  m_X2_readLine_B293 r0 r0 z59
                ) else
                gR 2 2 z59 r0 fun a73 =>
                gR 8 2 z59 a73 fun a74 =>
                gI 1 3 z59 a74 fun x75 =>
                if x75 < 6 then (
                  m_X2_readLine_B294 r0 1 r0 z59
                ) else
                m_X2_readLine_B293 r0 r0 z59
              ) else
              if t0 = 0 then (
                m_X2_readLine_B246 r0 r0 z55
              ) else
              gI 2 4 z55 r0 fun x76 =>
              if x76 = 0 then (
                m_X2_readLine_B247 r0 1 r0 z55
              ) else
              m_X2_readLine_B246 r0 r0 z55
            ) else
            if t0 = 0 then (
              m_X2_readLine_B207 r0 r0 z51
            ) else
            gR 2 2 z51 r0 fun a77 =>
            gR 8 1 z51 a77 fun a78 =>
            gI 3 6 z51 a78 fun x79 =>
            if x79 < 12 then (
              m_X2_readLine_B208 r0 1 r0 z51
            ) else
            m_X2_readLine_B207 r0 r0 z51
          ) else
          if t0 = 0 then (
            m_X2_readLine_B160 r0 r0 z47
          ) else
          gR 2 2 z47 r0 fun a80 =>
          gI 8 10 z47 a80 fun x81 =>
          if x81 = 0 then (
            m_X2_readLine_B161 r0 1 r0 z47
          ) else
          m_X2_readLine_B160 r0 r0 z47
        ) else
        if t0 = 0 then (
          m_X2_readLine_B118 r0 r0 z43
        ) else
        gI 2 3 z43 r0 fun x82 =>
        if x82 = 0 then (
          m_X2_readLine_B119 r0 1 r0 z43
        ) else
        m_X2_readLine_B118 r0 r0 z43
      ) else
      isC 2 z39 r0 <| bnd (m_X2_openLine r0 t0 z39) fun _ z83 =>
      isC 2 z83 r0 <| bnd (m_X2_readStream r0 z83) fun _ z85 =>
      m_X2_readLine_B362 r0 z85
    ) else
    isC 2 z35 r0 <| bnd (m_X2_openLine r0 t0 z35) fun _ z87 =>
    isC 2 z87 r0 <| bnd (m_X2_readLay r0 z87) fun _ z89 =>
    m_X2_readLine_B362 r0 z89
  ) else
  isC 2 z31 r0 <| bnd (m_X2_openLine r0 t0 z31) fun _ z91 =>
  isC 2 z91 r0 <| bnd (m_X2_readGround r0 z91) fun _ z93 =>
  m_X2_readLine_B362 r0 z93
def m_X2_readLine (r0 : Nat) (z : Hp) : Option (Unit × Hp) :=
  gR 2 2 z r0 fun a95 =>
  gI 8 13 z a95 fun x96 =>
  if x96 < 40 then (
    m_X2_readLine_B17 r0 1 z
  ) else
  m_X2_readLine_B17 r0 0 z
abbrev mi_X2_readText : Mi := (RX2, cX2_readText, 3, (Option.none : Option Jvm.ClassFile.FieldType), "readText", { frames := 8, cells := 0, slots := 0, locals := 199 })
def m_X2_readText_L49  : Nat → Nat → Int32 → Hp → Option (Unit × Hp)
  | 0, _, _, _ => none
  | f + 1, r0, v2, z =>
    if 40 < v2 then (
      some ((), z)
    ) else
    gI 2 6 z r0 fun x1 =>
    if x1 = 0 then (
      gR 2 0 z r0 fun a2 =>
      gI 4 3 z a2 fun x3 =>
      if x3 = 0 then (
        some ((), z)
      ) else
      isC 2 z r0 <| bnd (m_X2_readLine r0 z) fun _ z4 =>
      (m_X2_readText_L49  f) r0 (v2 + 1) z4
    ) else
    some ((), z)
def m_X2_readText (r0 : Nat) (r1 : Nat) (z : Hp) : Option (Unit × Hp) :=
  pR 2 2 z r0 r1 fun z6 =>
  gR 2 2 z6 r0 fun a7 =>
  isC 8 z6 a7 <| bnd (m_X8_forget a7 z6) fun _ z8 =>
  gR 2 1 z8 r0 fun a10 =>
  bnd (m_J7_fill_53178 a10 0 z8) fun _ z11 =>
  pI 2 3 z11 r0 0 fun z12 =>
  pI 2 4 z12 r0 0 fun z13 =>
  pI 2 6 z13 r0 0 fun z14 =>
  pI 2 7 z14 r0 (-1) fun z15 =>
  gR 2 0 z15 r0 fun a16 =>
  isC 4 z15 a16 <| bnd (m_X4_rewind a16 z15) fun _ z17 =>
  (m_X2_readText_L49 FU) r0 0 z17
abbrev mi_X3_init : Mi := (RX3, cX3_init, 1, (Option.none : Option Jvm.ClassFile.FieldType), "<init>", { frames := 1, cells := 6, slots := 108, locals := 20 })
def m_X3_init (r0 : Nat) (z : Hp) : Option (Unit × Hp) :=
  nwC 1 18 z fun a1 z2 =>
  pR 3 0 z2 r0 a1 fun z3 =>
  nwC 1 18 z3 fun a4 z5 =>
  pR 3 1 z5 r0 a4 fun z6 =>
  nwC 1 18 z6 fun a7 z8 =>
  pR 3 2 z8 r0 a7 fun z9 =>
  nwC 1 18 z9 fun a10 z11 =>
  pR 3 3 z11 r0 a10 fun z12 =>
  nwC 1 18 z12 fun a13 z14 =>
  pR 3 4 z14 r0 a13 fun z15 =>
  nwC 1 18 z15 fun a16 z17 =>
  pR 3 5 z17 r0 a16 fun z18 =>
  pI 3 6 z18 r0 0 fun z19 =>
  some ((), z19)
abbrev mi_X3_stopAll : Mi := (RX3, cX3_stopAll, 1, (Option.none : Option Jvm.ClassFile.FieldType), "stopAll", { frames := 1, cells := 0, slots := 0, locals := 23 })
def m_X3_stopAll (r0 : Nat) (z : Hp) : Option (Unit × Hp) :=
  gR 3 3 z r0 fun a1 =>
  bnd (m_J7_fill_53178 a1 0 z) fun _ z2 =>
  some ((), z2)
abbrev mi_X3_tell : Mi := (RX3, cX3_tell, 3, (Option.some Jvm.ClassFile.FieldType.int), "tell", { frames := 0, cells := 0, slots := 0, locals := 0 })
def m_X3_tell (r0 : Nat) (v1 : Int32) (v2 : Int32) (z : Hp) : Option (Int32 × Hp) :=
  if v1 < 0 then (
    some ((-2000000000), z)
  ) else
  gI 3 6 z r0 fun x1 =>
  if v1 < x1 then (
    if v2 = 0 then (
      gR 3 0 z r0 fun a2 =>
      aI 1 z a2 v1 fun x3 =>
      some (x3, z)
    ) else
    if v2 = 1 then (
      gR 3 1 z r0 fun a5 =>
      aI 1 z a5 v1 fun x6 =>
      some (x6, z)
    ) else
    if v2 = 2 then (
      gR 3 2 z r0 fun a8 =>
      aI 1 z a8 v1 fun x9 =>
      some (x9, z)
    ) else
    if v2 = 3 then (
      gR 3 3 z r0 fun a11 =>
      aI 1 z a11 v1 fun x12 =>
      some (x12, z)
    ) else
    if v2 = 4 then (
      gR 3 4 z r0 fun a14 =>
      aI 1 z a14 v1 fun x15 =>
      some (x15, z)
    ) else
    if v2 = 5 then (
      gR 3 5 z r0 fun a17 =>
      aI 1 z a17 v1 fun x18 =>
      some (x18, z)
    ) else
    some ((-2000000000), z)
  ) else
  some ((-2000000000), z)
abbrev mi_X3_copyFrom : Mi := (RX3, cX3_copyFrom, 2, (Option.none : Option Jvm.ClassFile.FieldType), "copyFrom", { frames := 1, cells := 0, slots := 0, locals := 18 })
def m_X3_copyFrom (r0 : Nat) (r1 : Nat) (z : Hp) : Option (Unit × Hp) :=
  gR 3 0 z r1 fun a1 =>
  gR 3 0 z r0 fun a2 =>
  cpI z a1 0 a2 0 18 fun z3 =>
  gR 3 1 z3 r1 fun a4 =>
  gR 3 1 z3 r0 fun a5 =>
  cpI z3 a4 0 a5 0 18 fun z6 =>
  gR 3 2 z6 r1 fun a7 =>
  gR 3 2 z6 r0 fun a8 =>
  cpI z6 a7 0 a8 0 18 fun z9 =>
  gR 3 3 z9 r1 fun a10 =>
  gR 3 3 z9 r0 fun a11 =>
  cpI z9 a10 0 a11 0 18 fun z12 =>
  gR 3 4 z12 r1 fun a13 =>
  gR 3 4 z12 r0 fun a14 =>
  cpI z12 a13 0 a14 0 18 fun z15 =>
  gR 3 5 z15 r1 fun a16 =>
  gR 3 5 z15 r0 fun a17 =>
  cpI z15 a16 0 a17 0 18 fun z18 =>
  gI 3 6 z18 r1 fun x19 =>
  pI 3 6 z18 r0 x19 fun z20 =>
  some ((), z20)
abbrev mi_X4_init : Mi := (RX4, cX4_init, 1, (Option.none : Option Jvm.ClassFile.FieldType), "<init>", { frames := 1, cells := 1, slots := 700, locals := 20 })
def m_X4_init (r0 : Nat) (z : Hp) : Option (Unit × Hp) :=
  nwC 1 700 z fun a1 z2 =>
  pR 4 0 z2 r0 a1 fun z3 =>
  pI 4 1 z3 r0 0 fun z4 =>
  pI 4 2 z4 r0 0 fun z5 =>
  pI 4 3 z5 r0 0 fun z6 =>
  pI 4 4 z6 r0 0 fun z7 =>
  pI 4 5 z7 r0 0 fun z8 =>
  some ((), z8)
abbrev mi_X4_append : Mi := (RX4, cX4_append, 3, (Option.none : Option Jvm.ClassFile.FieldType), "append", { frames := 0, cells := 0, slots := 0, locals := 0 })
def m_X4_append_B43 (k3 : Nat → Int32 → Int32 → Hp → Option (Unit × Hp)) (r0 : Nat) (v1 : Int32) (v2 : Int32) (z : Hp) : Option (Unit × Hp) :=
  k3 r0 v1 (v2 + (-8)) z
def m_X4_append_L3  : Nat → Nat → Int32 → Int32 → Hp → Option (Unit × Hp)
  | 0, _, _, _, _ => none
  | f + 1, r0, v1, v2, z =>
    if v2 < 0 then (
      some ((), z)
    ) else
    gI 4 1 z r0 fun x1 =>
    if x1 < 700 then (
      gR 4 0 z r0 fun a2 =>
      gI 4 1 z r0 fun x3 =>
      sI 1 z a2 x3 (((v1.toUInt32 >>> (Int32.toUInt32 v2 &&& Int32.toUInt32 31)).toInt32) &&& 255) fun z4 =>
      gI 4 1 z4 r0 fun x5 =>
      pI 4 1 z4 r0 (x5 + 1) fun z6 =>
      (m_X4_append_B43 (m_X4_append_L3  f)) r0 v1 v2 z6
    ) else
    (m_X4_append_B43 (m_X4_append_L3  f)) r0 v1 v2 z
def m_X4_append (r0 : Nat) (v1 : Int32) (z : Hp) : Option (Unit × Hp) :=
  (m_X4_append_L3 FU) r0 v1 24 z
abbrev mi_X5_init : Mi := (RX5, cX5_init, 1, (Option.none : Option Jvm.ClassFile.FieldType), "<init>", { frames := 1, cells := 4, slots := 40, locals := 20 })
def m_X5_init (r0 : Nat) (z : Hp) : Option (Unit × Hp) :=
  nwC 1 4 z fun a1 z2 =>
  pR 5 0 z2 r0 a1 fun z3 =>
  nwC 1 12 z3 fun a4 z5 =>
  pR 5 1 z5 r0 a4 fun z6 =>
  nwC 1 12 z6 fun a7 z8 =>
  pR 5 2 z8 r0 a7 fun z9 =>
  nwC 1 12 z9 fun a10 z11 =>
  pR 5 3 z11 r0 a10 fun z12 =>
  pI 5 4 z12 r0 0 fun z13 =>
  some ((), z13)
abbrev mi_X5_compares : Mi := (RX5, cX5_compares, 3, (Option.some Jvm.ClassFile.FieldType.boolean), "compares", { frames := 0, cells := 0, slots := 0, locals := 0 })
def m_X5_compares (r0 : Nat) (v1 : Int32) (v2 : Int32) (z : Hp) : Option (Int32 × Hp) :=
  gR 5 2 z r0 fun a1 =>
  aI 1 z a1 v1 fun x2 =>
  if x2 = 60 then (
    gR 5 3 z r0 fun a5 =>
    aI 1 z a5 v1 fun x6 =>
    if v2 < x6 then (
      some (1, z)
    ) else
    some (0, z)
  ) else
  gR 5 3 z r0 fun a3 =>
  aI 1 z a3 v1 fun x4 =>
  if x4 < v2 then (
    some (1, z)
  ) else
  some (0, z)
abbrev mi_X5_copyFrom : Mi := (RX5, cX5_copyFrom, 2, (Option.none : Option Jvm.ClassFile.FieldType), "copyFrom", { frames := 1, cells := 0, slots := 0, locals := 18 })
def m_X5_copyFrom (r0 : Nat) (r1 : Nat) (z : Hp) : Option (Unit × Hp) :=
  gR 5 0 z r1 fun a1 =>
  gR 5 0 z r0 fun a2 =>
  cpI z a1 0 a2 0 4 fun z3 =>
  gR 5 1 z3 r1 fun a4 =>
  gR 5 1 z3 r0 fun a5 =>
  cpI z3 a4 0 a5 0 12 fun z6 =>
  gR 5 2 z6 r1 fun a7 =>
  gR 5 2 z6 r0 fun a8 =>
  cpI z6 a7 0 a8 0 12 fun z9 =>
  gR 5 3 z9 r1 fun a10 =>
  gR 5 3 z9 r0 fun a11 =>
  cpI z9 a10 0 a11 0 12 fun z12 =>
  gI 5 4 z12 r1 fun x13 =>
  pI 5 4 z12 r0 x13 fun z14 =>
  some ((), z14)
abbrev mi_X6_init : Mi := (RX6, cX6_init, 1, (Option.none : Option Jvm.ClassFile.FieldType), "<init>", { frames := 1, cells := 7, slots := 252, locals := 23 })
def m_X6_init (r0 : Nat) (z : Hp) : Option (Unit × Hp) :=
  nw2 4 60 z fun a1 z2 =>
  pR 6 0 z2 r0 a1 fun z3 =>
  nwC 1 4 z3 fun a4 z5 =>
  pR 6 1 z5 r0 a4 fun z6 =>
  nwC 1 4 z6 fun a7 z8 =>
  pR 6 2 z8 r0 a7 fun z9 =>
  gR 6 2 z9 r0 fun a10 =>
  bnd (m_J7_fill_53178 a10 (-1) z9) fun _ z11 =>
  some ((), z11)
abbrev mi_X6_hasRow : Mi := (RX6, cX6_hasRow, 2, (Option.some Jvm.ClassFile.FieldType.boolean), "hasRow", { frames := 0, cells := 0, slots := 0, locals := 0 })
def m_X6_hasRow (r0 : Nat) (v1 : Int32) (z : Hp) : Option (Int32 × Hp) :=
  gR 6 2 z r0 fun a1 =>
  aI 1 z a1 v1 fun x2 =>
  if x2 = (-1) then (
    some (0, z)
  ) else
  some (1, z)
abbrev mi_X6_lengthOf : Mi := (RX6, cX6_lengthOf, 2, (Option.some Jvm.ClassFile.FieldType.int), "lengthOf", { frames := 0, cells := 0, slots := 0, locals := 0 })
def m_X6_lengthOf (r0 : Nat) (v1 : Int32) (z : Hp) : Option (Int32 × Hp) :=
  gR 6 2 z r0 fun a1 =>
  aI 1 z a1 v1 fun x2 =>
  some (x2, z)
abbrev mi_X6_rows : Mi := (RX6, cX6_rows, 3, (Option.some Jvm.ClassFile.FieldType.int), "rows", { frames := 1, cells := 0, slots := 0, locals := 21 })
def m_X6_rows_B23 (k4 : Nat → Int32 → Int32 → Hp → Option (Int32 × Hp)) (r0 : Nat) (v2 : Int32) (t0 : Int32) (t1 : Int32) (z : Hp) : Option (Int32 × Hp) :=
  k4 r0 (t1 + t0) (v2 + 1) z
def m_X6_rows_L4  : Nat → Nat → Int32 → Int32 → Hp → Option (Int32 × Hp)
  | 0, _, _, _, _ => none
  | f + 1, r0, v1, v2, z =>
    if v2 < 4 then (
      isC 6 z r0 <| bnd (m_X6_hasRow r0 v2 z) fun x2 z1 =>
      if x2 = 0 then (
        (m_X6_rows_B23 (m_X6_rows_L4  f)) r0 v2 0 v1 z1
      ) else
      (m_X6_rows_B23 (m_X6_rows_L4  f)) r0 v2 1 v1 z1
    ) else
    some (v1, z)
def m_X6_rows (r0 : Nat) (z : Hp) : Option (Int32 × Hp) :=
  (m_X6_rows_L4 FU) r0 0 0 z
abbrev mi_J7_fill_d0a16 : Mi := (RJ7, cJ7_fill_d0a16, 5, (Option.none : Option Jvm.ClassFile.FieldType), "fill", { frames := 0, cells := 0, slots := 0, locals := 0 })
def m_J7_fill_d0a16_L6  : Nat → Nat → Int64 → Int32 → Int32 → Hp → Option (Unit × Hp)
  | 0, _, _, _, _, _ => none
  | f + 1, r0, w1, v3, v4, z =>
    if v3 < v4 then (
      sL z r0 v3 w1 fun z1 =>
      (m_J7_fill_d0a16_L6  f) r0 w1 (v3 + 1) v4 z1
    ) else
    some ((), z)
def m_J7_fill_d0a16 (r0 : Nat) (w1 : Int64) (z : Hp) : Option (Unit × Hp) :=
  aN 4 z r0 fun x2 =>
  (m_J7_fill_d0a16_L6 FU) r0 w1 0 x2 z
abbrev mi_X6_lay : Mi := (RX6, cX6_lay, 4, (Option.none : Option Jvm.ClassFile.FieldType), "lay", { frames := 1, cells := 0, slots := 0, locals := 24 })
def m_X6_lay (r0 : Nat) (v1 : Int32) (v2 : Int32) (v3 : Int32) (z : Hp) : Option (Unit × Hp) :=
  gR 6 1 z r0 fun a1 =>
  sI 1 z a1 v1 v2 fun z2 =>
  gR 6 2 z2 r0 fun a3 =>
  sI 1 z2 a3 v1 v3 fun z4 =>
  gR 6 0 z4 r0 fun a5 =>
  aR 6 z4 a5 v1 fun a6 =>
  bnd (m_J7_fill_d0a16 a6 0 z4) fun _ z7 =>
  some ((), z7)
abbrev mi_X6_cut : Mi := (RX6, cX6_cut, 3, (Option.some Jvm.ClassFile.FieldType.long), "cut", { frames := 0, cells := 0, slots := 0, locals := 0 })
def m_X6_cut (w0 : Int64) (v2 : Int32) (z : Hp) : Option (Int64 × Hp) :=
  if v2 = 0 then (
    some (Int32.toInt64 (Int8.toInt32 (Int32.toInt8 (Int64.toInt32 w0))), z)
  ) else
  if v2 = 1 then (
    some (Int32.toInt64 (Int16.toInt32 (Int32.toInt16 (Int64.toInt32 w0))), z)
  ) else
  if v2 = 2 then (
    some (Int32.toInt64 (Int64.toInt32 w0), z)
  ) else
  some (w0, z)
abbrev mi_X6_put : Mi := (RX6, cX6_put, 5, (Option.none : Option Jvm.ClassFile.FieldType), "put", { frames := 1, cells := 0, slots := 0, locals := 22 })
def m_X6_put (r0 : Nat) (v1 : Int32) (v2 : Int32) (w3 : Int64) (z : Hp) : Option (Unit × Hp) :=
  gR 6 0 z r0 fun a1 =>
  aR 6 z a1 v1 fun a2 =>
  gR 6 1 z r0 fun a3 =>
  aI 1 z a3 v1 fun x4 =>
  bnd (m_X6_cut w3 x4 z) fun x6 z5 =>
  sL z5 a2 v2 x6 fun z7 =>
  some ((), z7)
abbrev mi_X6_spans : Mi := (RX6, cX6_spans, 4, (Option.some Jvm.ClassFile.FieldType.boolean), "spans", { frames := 0, cells := 0, slots := 0, locals := 0 })
def m_X6_spans (r0 : Nat) (v1 : Int32) (v2 : Int32) (v3 : Int32) (z : Hp) : Option (Int32 × Hp) :=
  if v2 < 0 then (
    some (0, z)
  ) else
  if v3 < 0 then (
    some (0, z)
  ) else
  gR 6 2 z r0 fun a1 =>
  aI 1 z a1 v1 fun x2 =>
  if 0 < (lg_cmp ((Int32.toInt64 v2) + (Int32.toInt64 v3)) (Int32.toInt64 x2)) then (
    some (0, z)
  ) else
  some (1, z)
abbrev mi_X7_init : Mi := (RX7, cX7_init, 1, (Option.none : Option Jvm.ClassFile.FieldType), "<init>", { frames := 1, cells := 6, slots := 172, locals := 20 })
def m_X7_init (r0 : Nat) (z : Hp) : Option (Unit × Hp) :=
  nwC 1 4 z fun a1 z2 =>
  pR 7 0 z2 r0 a1 fun z3 =>
  nwC 1 4 z3 fun a4 z5 =>
  pR 7 1 z5 r0 a4 fun z6 =>
  nwC 1 4 z6 fun a7 z8 =>
  pR 7 2 z8 r0 a7 fun z9 =>
  nwC 1 4 z9 fun a10 z11 =>
  pR 7 3 z11 r0 a10 fun z12 =>
  nwC 1 144 z12 fun a13 z14 =>
  pR 7 4 z14 r0 a13 fun z15 =>
  nwC 1 12 z15 fun a16 z17 =>
  pR 7 5 z17 r0 a16 fun z18 =>
  pI 7 6 z18 r0 100 fun z19 =>
  some ((), z19)
abbrev mi_X7_copyFrom : Mi := (RX7, cX7_copyFrom, 2, (Option.none : Option Jvm.ClassFile.FieldType), "copyFrom", { frames := 1, cells := 0, slots := 0, locals := 18 })
def m_X7_copyFrom (r0 : Nat) (r1 : Nat) (z : Hp) : Option (Unit × Hp) :=
  gR 7 0 z r1 fun a1 =>
  gR 7 0 z r0 fun a2 =>
  cpI z a1 0 a2 0 4 fun z3 =>
  gR 7 1 z3 r1 fun a4 =>
  gR 7 1 z3 r0 fun a5 =>
  cpI z3 a4 0 a5 0 4 fun z6 =>
  gR 7 2 z6 r1 fun a7 =>
  gR 7 2 z6 r0 fun a8 =>
  cpI z6 a7 0 a8 0 4 fun z9 =>
  gR 7 3 z9 r1 fun a10 =>
  gR 7 3 z9 r0 fun a11 =>
  cpI z9 a10 0 a11 0 4 fun z12 =>
  gR 7 4 z12 r1 fun a13 =>
  gR 7 4 z12 r0 fun a14 =>
  cpI z12 a13 0 a14 0 144 fun z15 =>
  gR 7 5 z15 r1 fun a16 =>
  gR 7 5 z15 r0 fun a17 =>
  cpI z15 a16 0 a17 0 12 fun z18 =>
  gI 7 6 z18 r1 fun x19 =>
  pI 7 6 z18 r0 x19 fun z20 =>
  some ((), z20)
abbrev mi_X8_init : Mi := (RX8, cX8_init, 1, (Option.none : Option Jvm.ClassFile.FieldType), "<init>", { frames := 2, cells := 31, slots := 965, locals := 40 })
def m_X8_init (r0 : Nat) (z : Hp) : Option (Unit × Hp) :=
  nwC (7 + 7) 0 z fun a1 z2 =>
  bnd (m_X7_init a1 z2) fun _ z3 =>
  pR 8 0 z3 r0 a1 fun z4 =>
  nwC (3 + 7) 0 z4 fun a5 z6 =>
  bnd (m_X3_init a5 z6) fun _ z7 =>
  pR 8 1 z7 r0 a5 fun z8 =>
  nwC (1 + 7) 0 z8 fun a9 z10 =>
  bnd (m_X1_init a9 z10) fun _ z11 =>
  pR 8 2 z11 r0 a9 fun z12 =>
  nwC (5 + 7) 0 z12 fun a13 z14 =>
  bnd (m_X5_init a13 z14) fun _ z15 =>
  pR 8 3 z15 r0 a13 fun z16 =>
  nwC (0 + 7) 0 z16 fun a17 z18 =>
  bnd (m_X0_init a17 z18) fun _ z19 =>
  pR 8 4 z19 r0 a17 fun z20 =>
  nwC 1 144 z20 fun a21 z22 =>
  pR 8 5 z22 r0 a21 fun z23 =>
  nwC 1 144 z23 fun a24 z25 =>
  pR 8 6 z25 r0 a24 fun z26 =>
  nwC 1 144 z26 fun a27 z28 =>
  pR 8 7 z28 r0 a27 fun z29 =>
  nwC 1 144 z29 fun a30 z31 =>
  pR 8 8 z31 r0 a30 fun z32 =>
  nwC 1 6 z32 fun a33 z34 =>
  pR 8 9 z34 r0 a33 fun z35 =>
  pI 8 10 z35 r0 0 fun z36 =>
  pI 8 11 z36 r0 0 fun z37 =>
  pI 8 12 z37 r0 99999 fun z38 =>
  pI 8 13 z38 r0 0 fun z39 =>
  pI 8 14 z39 r0 0 fun z40 =>
  pI 8 15 z40 r0 0 fun z41 =>
  pI 8 16 z41 r0 0 fun z42 =>
  some ((), z42)
abbrev mi_X8_begin : Mi := (RX8, cX8_begin, 1, (Option.none : Option Jvm.ClassFile.FieldType), "begin", { frames := 1, cells := 0, slots := 0, locals := 23 })
def m_X8_begin (r0 : Nat) (z : Hp) : Option (Unit × Hp) :=
  gR 8 5 z r0 fun a1 =>
  gR 8 0 z r0 fun a2 =>
  gI 7 6 z a2 fun x3 =>
  bnd (m_J7_fill_53178 a1 x3 z) fun _ z4 =>
  gR 8 6 z4 r0 fun a5 =>
  bnd (m_J7_fill_53178 a5 0 z4) fun _ z6 =>
  gR 8 7 z6 r0 fun a7 =>
  bnd (m_J7_fill_53178 a7 0 z6) fun _ z8 =>
  gR 8 9 z8 r0 fun a9 =>
  bnd (m_J7_fill_53178 a9 0 z8) fun _ z10 =>
  gR 8 4 z10 r0 fun a11 =>
  gR 0 0 z10 a11 fun a12 =>
  bnd (m_J7_fill_53178 a12 (-1) z10) fun _ z13 =>
  gR 8 9 z13 r0 fun a14 =>
  gR 8 0 z13 r0 fun a15 =>
  gI 7 6 z13 a15 fun x16 =>
  sI 1 z13 a14 5 (144 * x16) fun z17 =>
  pI 8 11 z17 r0 0 fun z18 =>
  pI 8 14 z18 r0 0 fun z19 =>
  pI 8 15 z19 r0 0 fun z20 =>
  pI 8 16 z20 r0 0 fun z21 =>
  some ((), z21)
abbrev mi_X8_copyFrom : Mi := (RX8, cX8_copyFrom, 2, (Option.none : Option Jvm.ClassFile.FieldType), "copyFrom", { frames := 2, cells := 0, slots := 0, locals := 39 })
def m_X8_copyFrom (r0 : Nat) (r1 : Nat) (z : Hp) : Option (Unit × Hp) :=
  gR 8 0 z r0 fun a1 =>
  gR 8 0 z r1 fun a2 =>
  isC 7 z a1 <| bnd (m_X7_copyFrom a1 a2 z) fun _ z3 =>
  gR 8 1 z3 r0 fun a5 =>
  gR 8 1 z3 r1 fun a6 =>
  isC 3 z3 a5 <| bnd (m_X3_copyFrom a5 a6 z3) fun _ z7 =>
  gR 8 2 z7 r0 fun a9 =>
  gR 8 2 z7 r1 fun a10 =>
  isC 1 z7 a9 <| bnd (m_X1_copyFrom a9 a10 z7) fun _ z11 =>
  gR 8 3 z11 r0 fun a13 =>
  gR 8 3 z11 r1 fun a14 =>
  isC 5 z11 a13 <| bnd (m_X5_copyFrom a13 a14 z11) fun _ z15 =>
  gR 8 4 z15 r0 fun a17 =>
  gR 8 4 z15 r1 fun a18 =>
  isC 0 z15 a17 <| bnd (m_X0_copyFrom a17 a18 z15) fun _ z19 =>
  gR 8 5 z19 r1 fun a21 =>
  gR 8 5 z19 r0 fun a22 =>
  cpI z19 a21 0 a22 0 144 fun z23 =>
  gR 8 6 z23 r1 fun a24 =>
  gR 8 6 z23 r0 fun a25 =>
  cpI z23 a24 0 a25 0 144 fun z26 =>
  gR 8 7 z26 r1 fun a27 =>
  gR 8 7 z26 r0 fun a28 =>
  cpI z26 a27 0 a28 0 144 fun z29 =>
  gR 8 8 z29 r1 fun a30 =>
  gR 8 8 z29 r0 fun a31 =>
  cpI z29 a30 0 a31 0 144 fun z32 =>
  gR 8 9 z32 r1 fun a33 =>
  gR 8 9 z32 r0 fun a34 =>
  cpI z32 a33 0 a34 0 6 fun z35 =>
  gI 8 10 z35 r1 fun x36 =>
  pI 8 10 z35 r0 x36 fun z37 =>
  gI 8 11 z37 r1 fun x38 =>
  pI 8 11 z37 r0 x38 fun z39 =>
  gI 8 12 z39 r1 fun x40 =>
  pI 8 12 z39 r0 x40 fun z41 =>
  gI 8 13 z41 r1 fun x42 =>
  pI 8 13 z41 r0 x42 fun z43 =>
  gI 8 14 z43 r1 fun x44 =>
  pI 8 14 z43 r0 x44 fun z45 =>
  gI 8 15 z45 r1 fun x46 =>
  pI 8 15 z45 r0 x46 fun z47 =>
  gI 8 16 z47 r1 fun x48 =>
  pI 8 16 z47 r0 x48 fun z49 =>
  some ((), z49)
abbrev mi_X8_isFrozen : Mi := (RX8, cX8_isFrozen, 2, (Option.some Jvm.ClassFile.FieldType.boolean), "isFrozen", { frames := 0, cells := 0, slots := 0, locals := 0 })
def m_X8_isFrozen (r0 : Nat) (v1 : Int32) (z : Hp) : Option (Int32 × Hp) :=
  gR 8 7 z r0 fun a1 =>
  aI 1 z a1 v1 fun x2 =>
  if x2 = 0 then (
    gR 8 6 z r0 fun a3 =>
    aI 1 z a3 v1 fun x4 =>
    gR 8 0 z r0 fun a5 =>
    gR 7 2 z a5 fun a6 =>
    gR 8 0 z r0 fun a7 =>
    gR 7 4 z a7 fun a8 =>
    aI 1 z a8 v1 fun x9 =>
    aI 1 z a6 x9 fun x10 =>
    if x4 = x10 then (
      some (1, z)
    ) else
    some (0, z)
  ) else
  some (0, z)
abbrev mi_X8_condition : Mi := (RX8, cX8_condition, 2, (Option.some Jvm.ClassFile.FieldType.int), "condition", { frames := 1, cells := 0, slots := 0, locals := 21 })
def m_X8_condition (r0 : Nat) (v1 : Int32) (z : Hp) : Option (Int32 × Hp) :=
  gR 8 7 z r0 fun a1 =>
  aI 1 z a1 v1 fun x2 =>
  if x2 = 0 then (
    isC 8 z r0 <| bnd (m_X8_isFrozen r0 v1 z) fun x4 z3 =>
    if x4 = 0 then (
      some (0, z3)
    ) else
    some (1, z3)
  ) else
  some (2, z)
abbrev mi_X8_heatOfAll : Mi := (RX8, cX8_heatOfAll, 3, (Option.some Jvm.ClassFile.FieldType.int), "heatOfAll", { frames := 0, cells := 0, slots := 0, locals := 0 })
def m_X8_heatOfAll_B36 (k4 : Nat → Int32 → Int32 → Hp → Option (Int32 × Hp)) (r0 : Nat) (v1 : Int32) (v2 : Int32) (z : Hp) : Option (Int32 × Hp) :=
  k4 r0 v1 (v2 + 1) z
def m_X8_heatOfAll_L4  : Nat → Nat → Int32 → Int32 → Hp → Option (Int32 × Hp)
  | 0, _, _, _, _ => none
  | f + 1, r0, v1, v2, z =>
    if v2 < 144 then (
      gR 8 7 z r0 fun a1 =>
      aI 1 z a1 v2 fun x2 =>
      if x2 = 0 then (
        gR 8 5 z r0 fun a3 =>
        aI 1 z a3 v2 fun x4 =>
        gR 8 6 z r0 fun a5 =>
        aI 1 z a5 v2 fun x6 =>
        (m_X8_heatOfAll_B36 (m_X8_heatOfAll_L4  f)) r0 (v1 + (x4 - x6)) v2 z
      ) else
      (m_X8_heatOfAll_B36 (m_X8_heatOfAll_L4  f)) r0 v1 v2 z
    ) else
    some (v1, z)
def m_X8_heatOfAll (r0 : Nat) (z : Hp) : Option (Int32 × Hp) :=
  (m_X8_heatOfAll_L4 FU) r0 0 0 z
abbrev mi_X8_digOut : Mi := (RX8, cX8_digOut, 2, (Option.none : Option Jvm.ClassFile.FieldType), "digOut", { frames := 0, cells := 0, slots := 0, locals := 0 })
def m_X8_digOut (r0 : Nat) (v1 : Int32) (z : Hp) : Option (Unit × Hp) :=
  gR 8 7 z r0 fun a1 =>
  sI 1 z a1 v1 1 fun z2 =>
  gI 8 11 z2 r0 fun x3 =>
  pI 8 11 z2 r0 (x3 + 1) fun z4 =>
  gR 8 9 z4 r0 fun a5 =>
  aI 1 z4 a5 4 fun x6 =>
  gR 8 5 z4 r0 fun a7 =>
  aI 1 z4 a7 v1 fun x8 =>
  gR 8 6 z4 r0 fun a9 =>
  aI 1 z4 a9 v1 fun x10 =>
  sI 1 z4 a5 4 (x6 + (x8 - x10)) fun z11 =>
  some ((), z11)
abbrev mi_X8_frozenBits : Mi := (RX8, cX8_frozenBits, 4, (Option.some Jvm.ClassFile.FieldType.int), "frozenBits", { frames := 1, cells := 0, slots := 0, locals := 21 })
def m_X8_frozenBits_B29 (k4 : Nat → Int32 → Int32 → Int32 → Hp → Option (Int32 × Hp)) (r0 : Nat) (v1 : Int32) (v2 : Int32) (v3 : Int32) (z : Hp) : Option (Int32 × Hp) :=
  k4 r0 v1 v2 (v3 + 1) z
def m_X8_frozenBits_L4  : Nat → Nat → Int32 → Int32 → Int32 → Hp → Option (Int32 × Hp)
  | 0, _, _, _, _, _ => none
  | f + 1, r0, v1, v2, v3, z =>
    if v3 < 12 then (
      isC 8 z r0 <| bnd (m_X8_isFrozen r0 ((12 * v1) + v3) z) fun x2 z1 =>
      if x2 = 0 then (
        (m_X8_frozenBits_B29 (m_X8_frozenBits_L4  f)) r0 v1 v2 v3 z1
      ) else
      (m_X8_frozenBits_B29 (m_X8_frozenBits_L4  f)) r0 v1 (v2 ||| ((1 : Int32) <<< (v3 &&& 31))) v3 z1
    ) else
    some (v2, z)
def m_X8_frozenBits (r0 : Nat) (v1 : Int32) (z : Hp) : Option (Int32 × Hp) :=
  (m_X8_frozenBits_L4 FU) r0 v1 0 0 z
abbrev mi_J6_bitCount_0f7a4 : Mi := (RJ6, cJ6_bitCount_0f7a4, 1, (Option.some Jvm.ClassFile.FieldType.int), "bitCount", { frames := 0, cells := 0, slots := 0, locals := 0 })
def m_J6_bitCount_0f7a4 (v0 : Int32) (z : Hp) : Option (Int32 × Hp) :=
  some ((((((((v0 - (((v0.toUInt32 >>> (Int32.toUInt32 1 &&& Int32.toUInt32 31)).toInt32) &&& 1431655765)) &&& 858993459) + ((((v0 - (((v0.toUInt32 >>> (Int32.toUInt32 1 &&& Int32.toUInt32 31)).toInt32) &&& 1431655765)).toUInt32 >>> (Int32.toUInt32 2 &&& Int32.toUInt32 31)).toInt32) &&& 858993459)) + (((((v0 - (((v0.toUInt32 >>> (Int32.toUInt32 1 &&& Int32.toUInt32 31)).toInt32) &&& 1431655765)) &&& 858993459) + ((((v0 - (((v0.toUInt32 >>> (Int32.toUInt32 1 &&& Int32.toUInt32 31)).toInt32) &&& 1431655765)).toUInt32 >>> (Int32.toUInt32 2 &&& Int32.toUInt32 31)).toInt32) &&& 858993459)).toUInt32 >>> (Int32.toUInt32 4 &&& Int32.toUInt32 31)).toInt32)) &&& 252645135) + (((((((v0 - (((v0.toUInt32 >>> (Int32.toUInt32 1 &&& Int32.toUInt32 31)).toInt32) &&& 1431655765)) &&& 858993459) + ((((v0 - (((v0.toUInt32 >>> (Int32.toUInt32 1 &&& Int32.toUInt32 31)).toInt32) &&& 1431655765)).toUInt32 >>> (Int32.toUInt32 2 &&& Int32.toUInt32 31)).toInt32) &&& 858993459)) + (((((v0 - (((v0.toUInt32 >>> (Int32.toUInt32 1 &&& Int32.toUInt32 31)).toInt32) &&& 1431655765)) &&& 858993459) + ((((v0 - (((v0.toUInt32 >>> (Int32.toUInt32 1 &&& Int32.toUInt32 31)).toInt32) &&& 1431655765)).toUInt32 >>> (Int32.toUInt32 2 &&& Int32.toUInt32 31)).toInt32) &&& 858993459)).toUInt32 >>> (Int32.toUInt32 4 &&& Int32.toUInt32 31)).toInt32)) &&& 252645135).toUInt32 >>> (Int32.toUInt32 8 &&& Int32.toUInt32 31)).toInt32)) + ((((((((v0 - (((v0.toUInt32 >>> (Int32.toUInt32 1 &&& Int32.toUInt32 31)).toInt32) &&& 1431655765)) &&& 858993459) + ((((v0 - (((v0.toUInt32 >>> (Int32.toUInt32 1 &&& Int32.toUInt32 31)).toInt32) &&& 1431655765)).toUInt32 >>> (Int32.toUInt32 2 &&& Int32.toUInt32 31)).toInt32) &&& 858993459)) + (((((v0 - (((v0.toUInt32 >>> (Int32.toUInt32 1 &&& Int32.toUInt32 31)).toInt32) &&& 1431655765)) &&& 858993459) + ((((v0 - (((v0.toUInt32 >>> (Int32.toUInt32 1 &&& Int32.toUInt32 31)).toInt32) &&& 1431655765)).toUInt32 >>> (Int32.toUInt32 2 &&& Int32.toUInt32 31)).toInt32) &&& 858993459)).toUInt32 >>> (Int32.toUInt32 4 &&& Int32.toUInt32 31)).toInt32)) &&& 252645135) + (((((((v0 - (((v0.toUInt32 >>> (Int32.toUInt32 1 &&& Int32.toUInt32 31)).toInt32) &&& 1431655765)) &&& 858993459) + ((((v0 - (((v0.toUInt32 >>> (Int32.toUInt32 1 &&& Int32.toUInt32 31)).toInt32) &&& 1431655765)).toUInt32 >>> (Int32.toUInt32 2 &&& Int32.toUInt32 31)).toInt32) &&& 858993459)) + (((((v0 - (((v0.toUInt32 >>> (Int32.toUInt32 1 &&& Int32.toUInt32 31)).toInt32) &&& 1431655765)) &&& 858993459) + ((((v0 - (((v0.toUInt32 >>> (Int32.toUInt32 1 &&& Int32.toUInt32 31)).toInt32) &&& 1431655765)).toUInt32 >>> (Int32.toUInt32 2 &&& Int32.toUInt32 31)).toInt32) &&& 858993459)).toUInt32 >>> (Int32.toUInt32 4 &&& Int32.toUInt32 31)).toInt32)) &&& 252645135).toUInt32 >>> (Int32.toUInt32 8 &&& Int32.toUInt32 31)).toInt32)).toUInt32 >>> (Int32.toUInt32 16 &&& Int32.toUInt32 31)).toInt32)) &&& 63, z)
abbrev mi_X8_frozenCells : Mi := (RX8, cX8_frozenCells, 3, (Option.some Jvm.ClassFile.FieldType.int), "frozenCells", { frames := 2, cells := 0, slots := 0, locals := 44 })
def m_X8_frozenCells_L4  : Nat → Nat → Int32 → Int32 → Hp → Option (Int32 × Hp)
  | 0, _, _, _, _ => none
  | f + 1, r0, v1, v2, z =>
    if v2 < 12 then (
      isC 8 z r0 <| bnd (m_X8_frozenBits r0 v2 z) fun x2 z1 =>
      bnd (m_J6_bitCount_0f7a4 x2 z1) fun x5 z4 =>
      (m_X8_frozenCells_L4  f) r0 (v1 + x5) (v2 + 1) z4
    ) else
    some (v1, z)
def m_X8_frozenCells (r0 : Nat) (z : Hp) : Option (Int32 × Hp) :=
  (m_X8_frozenCells_L4 FU) r0 0 0 z
abbrev mi_X8_liftOfColumn : Mi := (RX8, cX8_liftOfColumn, 4, (Option.some Jvm.ClassFile.FieldType.int), "liftOfColumn", { frames := 0, cells := 0, slots := 0, locals := 0 })
def m_X8_liftOfColumn_B32 (k4 : Nat → Int32 → Int32 → Hp → Option (Int32 × Hp)) (r0 : Nat) (v2 : Int32) (v3 : Int32) (z : Hp) : Option (Int32 × Hp) :=
  k4 r0 v2 (v3 + 12) z
def m_X8_liftOfColumn_L4  : Nat → Nat → Int32 → Int32 → Hp → Option (Int32 × Hp)
  | 0, _, _, _, _ => none
  | f + 1, r0, v2, v3, z =>
    if v3 < 144 then (
      gR 8 7 z r0 fun a1 =>
      aI 1 z a1 v3 fun x2 =>
      if x2 = 0 then (
        gR 8 6 z r0 fun a3 =>
        aI 1 z a3 v3 fun x4 =>
        (m_X8_liftOfColumn_B32 (m_X8_liftOfColumn_L4  f)) r0 (v2 + (x4 / 10)) v3 z
      ) else
      (m_X8_liftOfColumn_B32 (m_X8_liftOfColumn_L4  f)) r0 v2 v3 z
    ) else
    some (v2, z)
def m_X8_liftOfColumn (r0 : Nat) (v1 : Int32) (z : Hp) : Option (Int32 × Hp) :=
  (m_X8_liftOfColumn_L4 FU) r0 0 v1 z
abbrev mi_J9_max_7cf53 : Mi := (RJ9, cJ9_max_7cf53, 2, (Option.some Jvm.ClassFile.FieldType.int), "max", { frames := 0, cells := 0, slots := 0, locals := 0 })
def m_J9_max_7cf53 (v0 : Int32) (v1 : Int32) (z : Hp) : Option (Int32 × Hp) :=
  if v0 < v1 then (
    some (v1, z)
  ) else
  some (v0, z)
abbrev mi_X8_greatestLift : Mi := (RX8, cX8_greatestLift, 3, (Option.some Jvm.ClassFile.FieldType.int), "greatestLift", { frames := 1, cells := 0, slots := 0, locals := 23 })
def m_X8_greatestLift_L4  : Nat → Nat → Int32 → Int32 → Hp → Option (Int32 × Hp)
  | 0, _, _, _, _ => none
  | f + 1, r0, v1, v2, z =>
    if v2 < 12 then (
      isC 8 z r0 <| bnd (m_X8_liftOfColumn r0 v2 z) fun x2 z1 =>
      bnd (m_J9_max_7cf53 v1 x2 z1) fun x5 z4 =>
      (m_X8_greatestLift_L4  f) r0 x5 (v2 + 1) z4
    ) else
    some (v1, z)
def m_X8_greatestLift (r0 : Nat) (z : Hp) : Option (Int32 × Hp) :=
  (m_X8_greatestLift_L4 FU) r0 0 0 z
abbrev mi_J9_abs_0f7a4 : Mi := (RJ9, cJ9_abs_0f7a4, 1, (Option.some Jvm.ClassFile.FieldType.int), "abs", { frames := 0, cells := 0, slots := 0, locals := 0 })
def m_J9_abs_0f7a4 (v0 : Int32) (z : Hp) : Option (Int32 × Hp) :=
  if v0 < 0 then (
    some (-v0, z)
  ) else
  some (v0, z)
abbrev mi_X8_crackHouses : Mi := (RX8, cX8_crackHouses, 4, (Option.none : Option Jvm.ClassFile.FieldType), "crackHouses", { frames := 1, cells := 0, slots := 0, locals := 23 })
def m_X8_crackHouses_B79 (k2 : Nat → Int32 → Hp → Option (Unit × Hp)) (r0 : Nat) (v1 : Int32) (z : Hp) : Option (Unit × Hp) :=
  k2 r0 (v1 + 1) z
def m_X8_crackHouses_L2  : Nat → Nat → Int32 → Hp → Option (Unit × Hp)
  | 0, _, _, _ => none
  | f + 1, r0, v1, z =>
    gR 8 2 z r0 fun a1 =>
    gI 1 3 z a1 fun x2 =>
    if v1 < x2 then (
      gR 8 2 z r0 fun a3 =>
      gR 1 0 z a3 fun a4 =>
      aI 1 z a4 v1 fun x5 =>
      isC 8 z r0 <| bnd (m_X8_liftOfColumn r0 x5 z) fun x7 z6 =>
      isC 8 z6 r0 <| bnd (m_X8_liftOfColumn r0 (x5 + 1) z6) fun x10 z9 =>
      bnd (m_J9_abs_0f7a4 (x7 - x10) z9) fun x13 z12 =>
      gR 8 2 z12 r0 fun a14 =>
      gR 1 2 z12 a14 fun a15 =>
      aI 1 z12 a15 v1 fun x16 =>
      if x16 = (-1) then (
        gR 8 2 z12 r0 fun a17 =>
        gR 1 1 z12 a17 fun a18 =>
        aI 1 z12 a18 v1 fun x19 =>
        if x19 < x13 then (
          gR 8 2 z12 r0 fun a20 =>
          gR 1 2 z12 a20 fun a21 =>
          gI 8 14 z12 r0 fun x22 =>
          sI 1 z12 a21 v1 x22 fun z23 =>
          (m_X8_crackHouses_B79 (m_X8_crackHouses_L2  f)) r0 v1 z23
        ) else
        (m_X8_crackHouses_B79 (m_X8_crackHouses_L2  f)) r0 v1 z12
      ) else
      (m_X8_crackHouses_B79 (m_X8_crackHouses_L2  f)) r0 v1 z12
    ) else
    some ((), z)
def m_X8_crackHouses (r0 : Nat) (z : Hp) : Option (Unit × Hp) :=
  (m_X8_crackHouses_L2 FU) r0 0 z
abbrev mi_X8_beliedGauges : Mi := (RX8, cX8_beliedGauges, 5, (Option.some Jvm.ClassFile.FieldType.int), "beliedGauges", { frames := 1, cells := 0, slots := 0, locals := 20 })
def m_X8_beliedGauges_B67 (k4 : Nat → Int32 → Int32 → Int32 → Hp → Option (Int32 × Hp)) (r0 : Nat) (v1 : Int32) (v2 : Int32) (v3 : Int32) (z : Hp) : Option (Int32 × Hp) :=
  k4 r0 v1 v2 (v3 + 1) z
def m_X8_beliedGauges_B61 (k4 : Nat → Int32 → Int32 → Int32 → Hp → Option (Int32 × Hp)) (r0 : Nat) (v1 : Int32) (v2 : Int32) (v3 : Int32) (z : Hp) : Option (Int32 × Hp) :=
  (m_X8_beliedGauges_B67 k4) r0 v1 (v2 ||| ((1 : Int32) <<< (v3 &&& 31))) v3 z
def m_X8_beliedGauges_L4  : Nat → Nat → Int32 → Int32 → Int32 → Hp → Option (Int32 × Hp)
  | 0, _, _, _, _, _ => none
  | f + 1, r0, v1, v2, v3, z =>
    if v3 < 10 then (
      gR 8 4 z r0 fun a1 =>
      gR 0 0 z a1 fun a2 =>
      aI 1 z a2 v3 fun x3 =>
      if x3 = (-1) then (
        (m_X8_beliedGauges_B67 (m_X8_beliedGauges_L4  f)) r0 v1 v2 v3 z
      ) else
      gR 8 7 z r0 fun a4 =>
      aI 1 z a4 x3 fun x5 =>
      if x5 = 0 then (
        gR 8 5 z r0 fun a6 =>
        aI 1 z a6 x3 fun x7 =>
        gR 8 4 z r0 fun a8 =>
        gR 0 1 z a8 fun a9 =>
        aI 1 z a9 v3 fun x10 =>
        bnd (m_J9_abs_0f7a4 (x7 - x10) z) fun x12 z11 =>
        if v1 < x12 then (
          (m_X8_beliedGauges_B61 (m_X8_beliedGauges_L4  f)) r0 v1 v2 v3 z11
        ) else
        (m_X8_beliedGauges_B67 (m_X8_beliedGauges_L4  f)) r0 v1 v2 v3 z11
      ) else
      (m_X8_beliedGauges_B61 (m_X8_beliedGauges_L4  f)) r0 v1 v2 v3 z
    ) else
    some (v2, z)
def m_X8_beliedGauges (r0 : Nat) (v1 : Int32) (z : Hp) : Option (Int32 × Hp) :=
  (m_X8_beliedGauges_L4 FU) r0 v1 0 0 z
abbrev mi_X8_outermost : Mi := (RX8, cX8_outermost, 4, (Option.some Jvm.ClassFile.FieldType.int), "outermost", { frames := 0, cells := 0, slots := 0, locals := 0 })
def m_X8_outermost_B46 (k4 : Nat → Int32 → Int32 → Int32 → Hp → Option (Int32 × Hp)) (r0 : Nat) (v1 : Int32) (v2 : Int32) (v3 : Int32) (z : Hp) : Option (Int32 × Hp) :=
  k4 r0 v1 v2 (v3 + 1) z
def m_X8_outermost_B44 (k4 : Nat → Int32 → Int32 → Int32 → Hp → Option (Int32 × Hp)) (r0 : Nat) (v1 : Int32) (v3 : Int32) (z : Hp) : Option (Int32 × Hp) :=
  (m_X8_outermost_B46 k4) r0 v1 v3 v3 z
def m_X8_outermost_L4  : Nat → Nat → Int32 → Int32 → Int32 → Hp → Option (Int32 × Hp)
  | 0, _, _, _, _, _ => none
  | f + 1, r0, v1, v2, v3, z =>
    if v3 < 144 then (
      gR 8 7 z r0 fun a1 =>
      aI 1 z a1 v3 fun x2 =>
      if x2 = 0 then (
        if v2 = (-1) then (
          (m_X8_outermost_B44 (m_X8_outermost_L4  f)) r0 v1 v3 z
        ) else
        gR 8 5 z r0 fun a3 =>
        aI 1 z a3 v3 fun x4 =>
        gR 8 5 z r0 fun a5 =>
        aI 1 z a5 v2 fun x6 =>
        if (v1 * x6) < (v1 * x4) then (
          (m_X8_outermost_B44 (m_X8_outermost_L4  f)) r0 v1 v3 z
        ) else
        (m_X8_outermost_B46 (m_X8_outermost_L4  f)) r0 v1 v2 v3 z
      ) else
      (m_X8_outermost_B46 (m_X8_outermost_L4  f)) r0 v1 v2 v3 z
    ) else
    some (v2, z)
def m_X8_outermost (r0 : Nat) (v1 : Int32) (z : Hp) : Option (Int32 × Hp) :=
  (m_X8_outermost_L4 FU) r0 v1 (-1) 0 z
abbrev mi_X9_init : Mi := (RX9, cX9_init, 1, (Option.none : Option Jvm.ClassFile.FieldType), "<init>", { frames := 1, cells := 3, slots := 306, locals := 20 })
def m_X9_init (r0 : Nat) (z : Hp) : Option (Unit × Hp) :=
  nwC 1 144 z fun a1 z2 =>
  pR 9 0 z2 r0 a1 fun z3 =>
  nwC 1 144 z3 fun a4 z5 =>
  pR 9 1 z5 r0 a4 fun z6 =>
  nwC 1 18 z6 fun a7 z8 =>
  pR 9 2 z8 r0 a7 fun z9 =>
  some ((), z9)
abbrev mi_X9_lookUpLeads : Mi := (RX9, cX9_lookUpLeads, 4, (Option.none : Option Jvm.ClassFile.FieldType), "lookUpLeads", { frames := 1, cells := 0, slots := 0, locals := 21 })
def m_X9_lookUpLeads_B73 (k2 : Nat → Nat → Int32 → Hp → Option (Unit × Hp)) (r0 : Nat) (r1 : Nat) (v2 : Int32) (z : Hp) : Option (Unit × Hp) :=
  k2 r0 r1 (v2 + 1) z
def m_X9_lookUpLeads_B72 (k2 : Nat → Nat → Int32 → Hp → Option (Unit × Hp)) (r0 : Nat) (r1 : Nat) (v2 : Int32) (t0 : Int32) (t1 : Int32) (b2 : Nat) (z : Hp) : Option (Unit × Hp) :=
  sI 1 z b2 t1 t0 fun z1 =>
  (m_X9_lookUpLeads_B73 k2) r0 r1 v2 z1
def m_X9_lookUpLeads_L2  : Nat → Nat → Nat → Int32 → Hp → Option (Unit × Hp)
  | 0, _, _, _, _ => none
  | f + 1, r0, r1, v2, z =>
    if v2 < 144 then (
      gR 8 0 z r1 fun a2 =>
      gR 7 4 z a2 fun a3 =>
      aI 1 z a3 v2 fun x4 =>
      gR 8 7 z r1 fun a5 =>
      aI 1 z a5 v2 fun x6 =>
      if x6 = 0 then (
        gR 9 0 z r0 fun a7 =>
        isC 8 z r1 <| bnd (m_X8_isFrozen r1 v2 z) fun x9 z8 =>
        if x9 = 0 then (
          gR 8 0 z8 r1 fun a11 =>
          gR 7 0 z8 a11 fun a12 =>
          aI 1 z8 a12 x4 fun x13 =>
          (m_X9_lookUpLeads_B72 (m_X9_lookUpLeads_L2  f)) r0 r1 v2 x13 v2 a7 z8
        ) else
        gR 8 0 z8 r1 fun a14 =>
        gR 7 1 z8 a14 fun a15 =>
        aI 1 z8 a15 x4 fun x16 =>
        (m_X9_lookUpLeads_B72 (m_X9_lookUpLeads_L2  f)) r0 r1 v2 x16 v2 a7 z8
      ) else
      gR 9 0 z r0 fun a17 =>
      sI 1 z a17 v2 0 fun z18 =>
      (m_X9_lookUpLeads_B73 (m_X9_lookUpLeads_L2  f)) r0 r1 v2 z18
    ) else
    some ((), z)
def m_X9_lookUpLeads (r0 : Nat) (r1 : Nat) (z : Hp) : Option (Unit × Hp) :=
  (m_X9_lookUpLeads_L2 FU) r0 r1 0 z
abbrev mi_X9_exchange : Mi := (RX9, cX9_exchange, 5, (Option.none : Option Jvm.ClassFile.FieldType), "exchange", { frames := 1, cells := 0, slots := 0, locals := 21 })
def m_X9_exchange (r0 : Nat) (r1 : Nat) (v2 : Int32) (v3 : Int32) (z : Hp) : Option (Unit × Hp) :=
  gR 8 5 z r1 fun a1 =>
  aI 1 z a1 v3 fun x2 =>
  gR 8 5 z r1 fun a3 =>
  aI 1 z a3 v2 fun x4 =>
  gR 9 0 z r0 fun a5 =>
  aI 1 z a5 v2 fun x6 =>
  gR 9 0 z r0 fun a7 =>
  aI 1 z a7 v3 fun x8 =>
  bnd (m_J9_min_7cf53 x6 x8 z) fun x10 z9 =>
  gR 9 1 z9 r0 fun a11 =>
  aI 1 z9 a11 v2 fun x12 =>
  sI 1 z9 a11 v2 (x12 + (((x2 - x4) * x10) / 100)) fun z13 =>
  gR 9 1 z13 r0 fun a14 =>
  aI 1 z13 a14 v3 fun x15 =>
  sI 1 z13 a14 v3 (x15 - (((x2 - x4) * x10) / 100)) fun z16 =>
  some ((), z16)
abbrev mi_X9_leadBetweenCells : Mi := (RX9, cX9_leadBetweenCells, 5, (Option.none : Option Jvm.ClassFile.FieldType), "leadBetweenCells", { frames := 2, cells := 0, slots := 0, locals := 45 })
def m_X9_leadBetweenCells_B65 (k2 : Nat → Nat → Int32 → Hp → Option (Unit × Hp)) (r0 : Nat) (r1 : Nat) (v2 : Int32) (z : Hp) : Option (Unit × Hp) :=
  k2 r0 r1 (v2 + 1) z
def m_X9_leadBetweenCells_B59 (k10 : Nat → Nat → Int32 → Int32 → Hp → Option (Unit × Hp)) (r0 : Nat) (r1 : Nat) (v2 : Int32) (v3 : Int32) (z : Hp) : Option (Unit × Hp) :=
  k10 r0 r1 v2 (v3 + 1) z
def m_X9_leadBetweenCells_B41 (k10 : Nat → Nat → Int32 → Int32 → Hp → Option (Unit × Hp)) (r0 : Nat) (r1 : Nat) (v2 : Int32) (v3 : Int32) (v4 : Int32) (z : Hp) : Option (Unit × Hp) :=
  if v2 < 11 then (
    isC 9 z r0 <| bnd (m_X9_exchange r0 r1 v4 (v4 + 12) z) fun _ z1 =>
    (m_X9_leadBetweenCells_B59 k10) r0 r1 v2 v3 z1
  ) else
  (m_X9_leadBetweenCells_B59 k10) r0 r1 v2 v3 z
def m_X9_leadBetweenCells_L10 (k65 : Nat → Nat → Int32 → Hp → Option (Unit × Hp)) : Nat → Nat → Nat → Int32 → Int32 → Hp → Option (Unit × Hp)
  | 0, _, _, _, _, _ => none
  | f + 1, r0, r1, v2, v3, z =>
    if v3 < 12 then (
      if v3 < 11 then (
        isC 9 z r0 <| bnd (m_X9_exchange r0 r1 ((12 * v2) + v3) (((12 * v2) + v3) + 1) z) fun _ z3 =>
        (m_X9_leadBetweenCells_B41 (m_X9_leadBetweenCells_L10 k65 f)) r0 r1 v2 v3 ((12 * v2) + v3) z3
      ) else
      (m_X9_leadBetweenCells_B41 (m_X9_leadBetweenCells_L10 k65 f)) r0 r1 v2 v3 ((12 * v2) + v3) z
    ) else
    k65 r0 r1 v2 z
def m_X9_leadBetweenCells_L2  : Nat → Nat → Nat → Int32 → Hp → Option (Unit × Hp)
  | 0, _, _, _, _ => none
  | f + 1, r0, r1, v2, z =>
    if v2 < 12 then (
      (m_X9_leadBetweenCells_L10 (m_X9_leadBetweenCells_B65 (m_X9_leadBetweenCells_L2  f)) FU) r0 r1 v2 0 z
    ) else
    some ((), z)
def m_X9_leadBetweenCells (r0 : Nat) (r1 : Nat) (z : Hp) : Option (Unit × Hp) :=
  (m_X9_leadBetweenCells_L2 FU) r0 r1 0 z
abbrev mi_X9_comeOverRim : Mi := (RX9, cX9_comeOverRim, 4, (Option.none : Option Jvm.ClassFile.FieldType), "comeOverRim", { frames := 0, cells := 0, slots := 0, locals := 0 })
def m_X9_comeOverRim (r0 : Nat) (r1 : Nat) (v2 : Int32) (z : Hp) : Option (Unit × Hp) :=
  gR 8 0 z r1 fun a1 =>
  gI 7 6 z a1 fun x2 =>
  gR 8 5 z r1 fun a3 =>
  aI 1 z a3 v2 fun x4 =>
  gR 9 0 z r0 fun a5 =>
  aI 1 z a5 v2 fun x6 =>
  gR 9 1 z r0 fun a7 =>
  aI 1 z a7 v2 fun x8 =>
  sI 1 z a7 v2 (x8 + (((x2 - x4) * x6) / 100)) fun z9 =>
  gR 8 9 z9 r1 fun a10 =>
  aI 1 z9 a10 2 fun x11 =>
  sI 1 z9 a10 2 (x11 + (((x2 - x4) * x6) / 100)) fun z12 =>
  some ((), z12)
abbrev mi_X9_leadOverRim : Mi := (RX9, cX9_leadOverRim, 3, (Option.none : Option Jvm.ClassFile.FieldType), "leadOverRim", { frames := 1, cells := 0, slots := 0, locals := 23 })
def m_X9_leadOverRim_L2  : Nat → Nat → Nat → Int32 → Hp → Option (Unit × Hp)
  | 0, _, _, _, _ => none
  | f + 1, r0, r1, v2, z =>
    if v2 < 12 then (
      isC 9 z r0 <| bnd (m_X9_comeOverRim r0 r1 v2 z) fun _ z1 =>
      isC 9 z1 r0 <| bnd (m_X9_comeOverRim r0 r1 (132 + v2) z1) fun _ z3 =>
      isC 9 z3 r0 <| bnd (m_X9_comeOverRim r0 r1 (12 * v2) z3) fun _ z5 =>
      isC 9 z5 r0 <| bnd (m_X9_comeOverRim r0 r1 (((12 * v2) + 12) - 1) z5) fun _ z7 =>
      (m_X9_leadOverRim_L2  f) r0 r1 (v2 + 1) z7
    ) else
    some ((), z)
def m_X9_leadOverRim (r0 : Nat) (r1 : Nat) (z : Hp) : Option (Unit × Hp) :=
  (m_X9_leadOverRim_L2 FU) r0 r1 0 z
abbrev mi_X9_stream : Mi := (RX9, cX9_stream, 9, (Option.none : Option Jvm.ClassFile.FieldType), "stream", { frames := 1, cells := 0, slots := 0, locals := 21 })
def m_X9_stream_B113 (k14 : Nat → Nat → Int32 → Int32 → Int32 → Int32 → Hp → Option (Unit × Hp)) (r0 : Nat) (r1 : Nat) (v2 : Int32) (v5 : Int32) (v6 : Int32) (v7 : Int32) (z : Hp) : Option (Unit × Hp) :=
  gR 8 5 z r1 fun a1 =>
  aI 1 z a1 v6 fun x2 =>
  k14 r0 r1 v2 x2 v7 (v5 + 1) z
def m_X9_stream_B54 (k14 : Nat → Nat → Int32 → Int32 → Int32 → Int32 → Hp → Option (Unit × Hp)) (r0 : Nat) (r1 : Nat) (v2 : Int32) (v3 : Int32) (v4 : Int32) (v5 : Int32) (v6 : Int32) (t0 : Int32) (z : Hp) : Option (Unit × Hp) :=
  if v4 = 0 then (
    (m_X9_stream_B113 k14) r0 r1 v2 v5 v6 t0 z
  ) else
  if t0 = 0 then (
    (m_X9_stream_B113 k14) r0 r1 v2 v5 v6 t0 z
  ) else
  gR 8 5 z r1 fun a3 =>
  aI 1 z a3 v6 fun x4 =>
  gR 8 0 z r1 fun a5 =>
  gR 7 5 z a5 fun a6 =>
  aI 1 z a6 v2 fun x7 =>
  gR 9 1 z r0 fun a8 =>
  aI 1 z a8 v6 fun x9 =>
  sI 1 z a8 v6 (x9 + (((v3 - x4) * x7) / 100)) fun z10 =>
  gR 8 9 z10 r1 fun a11 =>
  aI 1 z10 a11 3 fun x12 =>
  sI 1 z10 a11 3 (x12 + (((v3 - x4) * x7) / 100)) fun z13 =>
  (m_X9_stream_B113 k14) r0 r1 v2 v5 v6 t0 z13
def m_X9_stream_B53 (k14 : Nat → Nat → Int32 → Int32 → Int32 → Int32 → Hp → Option (Unit × Hp)) (r0 : Nat) (r1 : Nat) (v2 : Int32) (v3 : Int32) (v4 : Int32) (v5 : Int32) (v6 : Int32) (z : Hp) : Option (Unit × Hp) :=
  (m_X9_stream_B54 k14) r0 r1 v2 v3 v4 v5 v6 0 z
def m_X9_stream_L14  : Nat → Nat → Nat → Int32 → Int32 → Int32 → Int32 → Hp → Option (Unit × Hp)
  | 0, _, _, _, _, _, _, _ => none
  | f + 1, r0, r1, v2, v3, v4, v5, z =>
    if v5 < 12 then (
      gR 8 7 z r1 fun a14 =>
      aI 1 z a14 ((12 * v2) + v5) fun x15 =>
      if x15 = 0 then (
        isC 8 z r1 <| bnd (m_X8_isFrozen r1 ((12 * v2) + v5) z) fun x17 z16 =>
        if x17 = 0 then (
          (m_X9_stream_B54 (m_X9_stream_L14  f)) r0 r1 v2 v3 v4 v5 ((12 * v2) + v5) 1 z16
        ) else
        (m_X9_stream_B53 (m_X9_stream_L14  f)) r0 r1 v2 v3 v4 v5 ((12 * v2) + v5) z16
      ) else
      (m_X9_stream_B53 (m_X9_stream_L14  f)) r0 r1 v2 v3 v4 v5 ((12 * v2) + v5) z
    ) else
    some ((), z)
def m_X9_stream (r0 : Nat) (r1 : Nat) (v2 : Int32) (z : Hp) : Option (Unit × Hp) :=
  gR 8 0 z r1 fun a19 =>
  gI 7 6 z a19 fun x20 =>
  (m_X9_stream_L14 FU) r0 r1 v2 x20 1 0 z
abbrev mi_X9_wanted : Mi := (RX9, cX9_wanted, 3, (Option.some Jvm.ClassFile.FieldType.int), "wanted", { frames := 1, cells := 0, slots := 0, locals := 21 })
def m_X9_wanted (r0 : Nat) (v1 : Int32) (z : Hp) : Option (Int32 × Hp) :=
  gR 8 1 z r0 fun a1 =>
  gR 3 0 z a1 fun a2 =>
  aI 1 z a2 v1 fun x3 =>
  gR 8 1 z r0 fun a4 =>
  gR 3 3 z a4 fun a5 =>
  aI 1 z a5 v1 fun x6 =>
  if x6 = 0 then (
    some (0, z)
  ) else
  gR 8 7 z r0 fun a7 =>
  aI 1 z a7 x3 fun x8 =>
  if x8 = 0 then (
    gR 8 5 z r0 fun a9 =>
    aI 1 z a9 x3 fun x10 =>
    gR 8 1 z r0 fun a11 =>
    gR 3 1 z a11 fun a12 =>
    aI 1 z a12 v1 fun x13 =>
    bnd (m_J9_max_7cf53 0 (x10 - x13) z) fun x15 z14 =>
    gR 8 1 z14 r0 fun a16 =>
    gR 3 2 z14 a16 fun a17 =>
    aI 1 z14 a17 v1 fun x18 =>
    some ((x15 * x18) / 100, z14)
  ) else
  some (0, z)
abbrev mi_X9_takeByPipes : Mi := (RX9, cX9_takeByPipes, 5, (Option.none : Option Jvm.ClassFile.FieldType), "takeByPipes", { frames := 2, cells := 0, slots := 0, locals := 43 })
def m_X9_takeByPipes_B85 (k43 : Nat → Nat → Int32 → Int32 → Hp → Option (Unit × Hp)) (r0 : Nat) (r1 : Nat) (v2 : Int32) (v3 : Int32) (v4 : Int32) (z : Hp) : Option (Unit × Hp) :=
  gR 9 1 z r0 fun a1 =>
  gR 8 1 z r1 fun a2 =>
  gR 3 0 z a2 fun a3 =>
  aI 1 z a3 v3 fun x4 =>
  aI 1 z a1 x4 fun x5 =>
  sI 1 z a1 x4 (x5 - v4) fun z6 =>
  gR 8 1 z6 r1 fun a7 =>
  gR 3 4 z6 a7 fun a8 =>
  sI 1 z6 a8 v3 v4 fun z9 =>
  gR 8 1 z9 r1 fun a10 =>
  gR 3 5 z9 a10 fun a11 =>
  aI 1 z9 a11 v3 fun x12 =>
  sI 1 z9 a11 v3 (x12 + v4) fun z13 =>
  gR 8 9 z13 r1 fun a14 =>
  aI 1 z13 a14 1 fun x15 =>
  sI 1 z13 a14 1 (x15 + v4) fun z16 =>
  k43 r0 r1 v2 (v3 + 1) z16
def m_X9_takeByPipes_L43  : Nat → Nat → Nat → Int32 → Int32 → Hp → Option (Unit × Hp)
  | 0, _, _, _, _, _ => none
  | f + 1, r0, r1, v2, v3, z =>
    gR 8 1 z r1 fun a17 =>
    gI 3 6 z a17 fun x18 =>
    if v3 < x18 then (
      gR 9 2 z r0 fun a19 =>
      aI 1 z a19 v3 fun x20 =>
      gI 8 12 z r1 fun x21 =>
      if x21 < v2 then (
        if 0 < v2 then (
          gI 8 12 z r1 fun x22 =>
          if v2 = 0 then none else
          (m_X9_takeByPipes_B85 (m_X9_takeByPipes_L43  f)) r0 r1 v2 v3 ((x20 * x22) / v2) z
        ) else
        (m_X9_takeByPipes_B85 (m_X9_takeByPipes_L43  f)) r0 r1 v2 v3 x20 z
      ) else
      (m_X9_takeByPipes_B85 (m_X9_takeByPipes_L43  f)) r0 r1 v2 v3 x20 z
    ) else
    some ((), z)
def m_X9_takeByPipes_B41  (r0 : Nat) (r1 : Nat) (v2 : Int32) (z : Hp) : Option (Unit × Hp) :=
  (m_X9_takeByPipes_L43 FU) r0 r1 v2 0 z
def m_X9_takeByPipes_L4 (k41 : Nat → Nat → Int32 → Hp → Option (Unit × Hp)) : Nat → Nat → Nat → Int32 → Int32 → Hp → Option (Unit × Hp)
  | 0, _, _, _, _, _ => none
  | f + 1, r0, r1, v2, v3, z =>
    gR 8 1 z r1 fun a24 =>
    gI 3 6 z a24 fun x25 =>
    if v3 < x25 then (
      gR 9 2 z r0 fun a26 =>
      bnd (m_X9_wanted r1 v3 z) fun x28 z27 =>
      sI 1 z27 a26 v3 x28 fun z29 =>
      gR 9 2 z29 r0 fun a30 =>
      aI 1 z29 a30 v3 fun x31 =>
      (m_X9_takeByPipes_L4 k41 f) r0 r1 (v2 + x31) (v3 + 1) z29
    ) else
    k41 r0 r1 v2 z
def m_X9_takeByPipes (r0 : Nat) (r1 : Nat) (z : Hp) : Option (Unit × Hp) :=
  (m_X9_takeByPipes_L4 m_X9_takeByPipes_B41 FU) r0 r1 0 0 z
abbrev mi_X9_cool : Mi := (RX9, cX9_cool, 6, (Option.none : Option Jvm.ClassFile.FieldType), "cool", { frames := 1, cells := 0, slots := 0, locals := 21 })
def m_X9_cool (r0 : Nat) (v1 : Int32) (v2 : Int32) (z : Hp) : Option (Unit × Hp) :=
  gR 8 0 z r0 fun a1 =>
  gR 7 4 z a1 fun a2 =>
  aI 1 z a2 v1 fun x3 =>
  gR 8 5 z r0 fun a4 =>
  aI 1 z a4 v1 fun x5 =>
  gR 8 0 z r0 fun a6 =>
  gR 7 3 z a6 fun a7 =>
  aI 1 z a7 x3 fun x8 =>
  bnd (m_J9_max_7cf53 0 (x5 - x8) z) fun x10 z9 =>
  bnd (m_J9_min_7cf53 v2 x10 z9) fun x12 z11 =>
  gR 8 0 z11 r0 fun a13 =>
  gR 7 2 z11 a13 fun a14 =>
  aI 1 z11 a14 x3 fun x15 =>
  gR 8 6 z11 r0 fun a16 =>
  aI 1 z11 a16 v1 fun x17 =>
  bnd (m_J9_min_7cf53 (v2 - x12) (x15 - x17) z11) fun x19 z18 =>
  gR 8 6 z18 r0 fun a20 =>
  aI 1 z18 a20 v1 fun x21 =>
  sI 1 z18 a20 v1 (x21 + x19) fun z22 =>
  gR 8 5 z22 r0 fun a23 =>
  aI 1 z22 a23 v1 fun x24 =>
  sI 1 z22 a23 v1 (x24 - (v2 - x19)) fun z25 =>
  some ((), z25)
abbrev mi_X9_warmUp : Mi := (RX9, cX9_warmUp, 6, (Option.none : Option Jvm.ClassFile.FieldType), "warmUp", { frames := 1, cells := 0, slots := 0, locals := 21 })
def m_X9_warmUp (r0 : Nat) (v1 : Int32) (v2 : Int32) (z : Hp) : Option (Unit × Hp) :=
  gR 8 0 z r0 fun a1 =>
  gR 7 4 z a1 fun a2 =>
  aI 1 z a2 v1 fun x3 =>
  gR 8 0 z r0 fun a4 =>
  gR 7 3 z a4 fun a5 =>
  aI 1 z a5 x3 fun x6 =>
  gR 8 5 z r0 fun a7 =>
  aI 1 z a7 v1 fun x8 =>
  bnd (m_J9_max_7cf53 0 (x6 - x8) z) fun x10 z9 =>
  bnd (m_J9_min_7cf53 v2 x10 z9) fun x12 z11 =>
  gR 8 6 z11 r0 fun a13 =>
  aI 1 z11 a13 v1 fun x14 =>
  bnd (m_J9_min_7cf53 (v2 - x12) x14 z11) fun x16 z15 =>
  gR 8 6 z15 r0 fun a17 =>
  aI 1 z15 a17 v1 fun x18 =>
  sI 1 z15 a17 v1 (x18 - x16) fun z19 =>
  gR 8 5 z19 r0 fun a20 =>
  aI 1 z19 a20 v1 fun x21 =>
  sI 1 z19 a20 v1 (x21 + (v2 - x16)) fun z22 =>
  some ((), z22)
abbrev mi_X9_pass : Mi := (RX9, cX9_pass, 3, (Option.none : Option Jvm.ClassFile.FieldType), "pass", { frames := 3, cells := 0, slots := 0, locals := 69 })
def m_X9_pass_B119  (r1 : Nat) (z : Hp) : Option (Unit × Hp) :=
  gI 8 14 z r1 fun x1 =>
  pI 8 14 z r1 (x1 + 1) fun z2 =>
  some ((), z2)
def m_X9_pass_B113 (k62 : Nat → Nat → Int32 → Hp → Option (Unit × Hp)) (r0 : Nat) (r1 : Nat) (v2 : Int32) (z : Hp) : Option (Unit × Hp) :=
  k62 r0 r1 (v2 + 1) z
def m_X9_pass_L62 (k119 : Nat → Hp → Option (Unit × Hp)) : Nat → Nat → Nat → Int32 → Hp → Option (Unit × Hp)
  | 0, _, _, _, _ => none
  | f + 1, r0, r1, v2, z =>
    if v2 < 144 then (
      gR 9 1 z r0 fun a3 =>
      aI 1 z a3 v2 fun x4 =>
      if x4 < 0 then (
        gR 9 1 z r0 fun a10 =>
        aI 1 z a10 v2 fun x11 =>
        bnd (m_X9_cool r1 v2 (-x11) z) fun _ z12 =>
        (m_X9_pass_B113 (m_X9_pass_L62 k119 f)) r0 r1 v2 z12
      ) else
      gR 9 1 z r0 fun a5 =>
      aI 1 z a5 v2 fun x6 =>
      if 0 < x6 then (
        gR 9 1 z r0 fun a7 =>
        aI 1 z a7 v2 fun x8 =>
        bnd (m_X9_warmUp r1 v2 x8 z) fun _ z9 =>
        (m_X9_pass_B113 (m_X9_pass_L62 k119 f)) r0 r1 v2 z9
      ) else
      (m_X9_pass_B113 (m_X9_pass_L62 k119 f)) r0 r1 v2 z
    ) else
    k119 r1 z
def m_X9_pass_B55  (r0 : Nat) (r1 : Nat) (z : Hp) : Option (Unit × Hp) :=
  isC 9 z r0 <| bnd (m_X9_takeByPipes r0 r1 z) fun _ z13 =>
  (m_X9_pass_L62 m_X9_pass_B119 FU) r0 r1 0 z13
def m_X9_pass_B49 (k25 : Nat → Nat → Int32 → Hp → Option (Unit × Hp)) (r0 : Nat) (r1 : Nat) (v2 : Int32) (z : Hp) : Option (Unit × Hp) :=
  k25 r0 r1 (v2 + 1) z
def m_X9_pass_L25 (k55 : Nat → Nat → Hp → Option (Unit × Hp)) : Nat → Nat → Nat → Int32 → Hp → Option (Unit × Hp)
  | 0, _, _, _, _ => none
  | f + 1, r0, r1, v2, z =>
    if v2 < 12 then (
      gR 8 0 z r1 fun a15 =>
      gR 7 5 z a15 fun a16 =>
      aI 1 z a16 v2 fun x17 =>
      if 0 < x17 then (
        isC 9 z r0 <| bnd (m_X9_stream r0 r1 v2 z) fun _ z18 =>
        (m_X9_pass_B49 (m_X9_pass_L25 k55 f)) r0 r1 v2 z18
      ) else
      (m_X9_pass_B49 (m_X9_pass_L25 k55 f)) r0 r1 v2 z
    ) else
    k55 r0 r1 z
def m_X9_pass (r0 : Nat) (r1 : Nat) (z : Hp) : Option (Unit × Hp) :=
  isC 9 z r0 <| bnd (m_X9_lookUpLeads r0 r1 z) fun _ z20 =>
  gR 9 1 z20 r0 fun a22 =>
  bnd (m_J7_fill_53178 a22 0 z20) fun _ z23 =>
  isC 9 z23 r0 <| bnd (m_X9_leadBetweenCells r0 r1 z23) fun _ z24 =>
  isC 9 z24 r0 <| bnd (m_X9_leadOverRim r0 r1 z24) fun _ z26 =>
  (m_X9_pass_L25 m_X9_pass_B55 FU) r0 r1 0 z26
abbrev mi_X10_init : Mi := (RX10, cX10_init, 1, (Option.none : Option Jvm.ClassFile.FieldType), "<init>", { frames := 1, cells := 8, slots := 2016, locals := 20 })
def m_X10_init (r0 : Nat) (z : Hp) : Option (Unit × Hp) :=
  nwC 1 144 z fun a1 z2 =>
  pR 10 0 z2 r0 a1 fun z3 =>
  nwC 1 144 z3 fun a4 z5 =>
  pR 10 1 z5 r0 a4 fun z6 =>
  nwC 1 144 z6 fun a7 z8 =>
  pR 10 2 z8 r0 a7 fun z9 =>
  nwC 1 288 z9 fun a10 z11 =>
  pR 10 3 z11 r0 a10 fun z12 =>
  nwC 1 288 z12 fun a13 z14 =>
  pR 10 4 z14 r0 a13 fun z15 =>
  pI 10 5 z15 r0 0 fun z16 =>
  pI 10 6 z16 r0 0 fun z17 =>
  nwC 1 288 z17 fun a18 z19 =>
  pR 10 7 z19 r0 a18 fun z20 =>
  nwC 1 144 z20 fun a21 z22 =>
  pR 10 8 z22 r0 a21 fun z23 =>
  nwC 1 576 z23 fun a24 z25 =>
  pR 10 9 z25 r0 a24 fun z26 =>
  some ((), z26)
abbrev mi_X11_beside : Mi := (RX11, cX11_beside, 2, (Option.some Jvm.ClassFile.FieldType.int), "beside", { frames := 0, cells := 0, slots := 0, locals := 0 })
def m_X11_beside (v0 : Int32) (v1 : Int32) (z : Hp) : Option (Int32 × Hp) :=
  if v1 = 0 then (
    if (v0 - v0 / 12 * 12) < 11 then (
      some (v0 + 1, z)
    ) else
    some ((-1), z)
  ) else
  if v1 = 1 then (
    if 0 < (v0 - v0 / 12 * 12) then (
      some (v0 - 1, z)
    ) else
    some ((-1), z)
  ) else
  if v1 = 2 then (
    if v0 < 12 then (
      some ((-1), z)
    ) else
    some (v0 - 12, z)
  ) else
  if v0 < 132 then (
    some (v0 + 12, z)
  ) else
  some ((-1), z)
abbrev mi_X10_look : Mi := (RX10, cX10_look, 5, (Option.none : Option Jvm.ClassFile.FieldType), "look", { frames := 1, cells := 0, slots := 0, locals := 21 })
def m_X10_look_B123 (k62 : Nat → Nat → Int32 → Hp → Option (Unit × Hp)) (r0 : Nat) (r1 : Nat) (v2 : Int32) (z : Hp) : Option (Unit × Hp) :=
  k62 r0 r1 (v2 + 1) z
def m_X10_look_B117 (k71 : Nat → Nat → Int32 → Int32 → Hp → Option (Unit × Hp)) (r0 : Nat) (r1 : Nat) (v2 : Int32) (v3 : Int32) (z : Hp) : Option (Unit × Hp) :=
  k71 r0 r1 v2 (v3 + 1) z
def m_X10_look_L71 (k123 : Nat → Nat → Int32 → Hp → Option (Unit × Hp)) : Nat → Nat → Nat → Int32 → Int32 → Hp → Option (Unit × Hp)
  | 0, _, _, _, _, _ => none
  | f + 1, r0, r1, v2, v3, z =>
    if v3 < 4 then (
      gR 10 0 z r0 fun a1 =>
      aI 1 z a1 v2 fun x2 =>
      if x2 = 2 then (
        bnd (m_X11_beside v2 v3 z) fun x4 z3 =>
        if x4 = (-1) then (
          (m_X10_look_B117 (m_X10_look_L71 k123 f)) r0 r1 v2 v3 z3
        ) else
        gR 8 8 z3 r1 fun a5 =>
        aI 1 z3 a5 x4 fun x6 =>
        if x6 = 0 then (
          gR 10 1 z3 r0 fun a7 =>
          sI 1 z3 a7 x4 1 fun z8 =>
          (m_X10_look_B117 (m_X10_look_L71 k123 f)) r0 r1 v2 v3 z8
        ) else
        (m_X10_look_B117 (m_X10_look_L71 k123 f)) r0 r1 v2 v3 z3
      ) else
      k123 r0 r1 v2 z
    ) else
    k123 r0 r1 v2 z
def m_X10_look_L62  : Nat → Nat → Nat → Int32 → Hp → Option (Unit × Hp)
  | 0, _, _, _, _ => none
  | f + 1, r0, r1, v2, z =>
    if v2 < 144 then (
      (m_X10_look_L71 (m_X10_look_B123 (m_X10_look_L62  f)) FU) r0 r1 v2 0 z
    ) else
    some ((), z)
def m_X10_look_B60  (r0 : Nat) (r1 : Nat) (z : Hp) : Option (Unit × Hp) :=
  (m_X10_look_L62 FU) r0 r1 0 z
def m_X10_look_B47 (k2 : Nat → Nat → Int32 → Hp → Option (Unit × Hp)) (r0 : Nat) (r1 : Nat) (v2 : Int32) (z : Hp) : Option (Unit × Hp) :=
  gR 10 1 z r0 fun a9 =>
  sI 1 z a9 v2 0 fun z10 =>
  k2 r0 r1 (v2 + 1) z10
def m_X10_look_B46 (k2 : Nat → Nat → Int32 → Hp → Option (Unit × Hp)) (r0 : Nat) (r1 : Nat) (v2 : Int32) (t0 : Int32) (t1 : Int32) (b2 : Nat) (z : Hp) : Option (Unit × Hp) :=
  sI 1 z b2 t1 t0 fun z11 =>
  (m_X10_look_B47 k2) r0 r1 v2 z11
def m_X10_look_L2 (k60 : Nat → Nat → Hp → Option (Unit × Hp)) : Nat → Nat → Nat → Int32 → Hp → Option (Unit × Hp)
  | 0, _, _, _, _ => none
  | f + 1, r0, r1, v2, z =>
    if v2 < 144 then (
      gR 8 8 z r1 fun a12 =>
      aI 1 z a12 v2 fun x13 =>
      if x13 = 0 then (
        gR 10 0 z r0 fun a14 =>
        isC 8 z r1 <| bnd (m_X8_isFrozen r1 v2 z) fun x16 z15 =>
        if x16 = 0 then (
          (m_X10_look_B46 (m_X10_look_L2 k60 f)) r0 r1 v2 0 v2 a14 z15
        ) else
        (m_X10_look_B46 (m_X10_look_L2 k60 f)) r0 r1 v2 1 v2 a14 z15
      ) else
      gR 10 0 z r0 fun a18 =>
      sI 1 z a18 v2 2 fun z19 =>
      (m_X10_look_B47 (m_X10_look_L2 k60 f)) r0 r1 v2 z19
    ) else
    k60 r0 r1 z
def m_X10_look (r0 : Nat) (r1 : Nat) (z : Hp) : Option (Unit × Hp) :=
  (m_X10_look_L2 m_X10_look_B60 FU) r0 r1 0 z
abbrev mi_X10_step : Mi := (RX10, cX10_step, 3, (Option.none : Option Jvm.ClassFile.FieldType), "step", { frames := 0, cells := 0, slots := 0, locals := 0 })
def m_X10_step (r0 : Nat) (v1 : Int32) (v2 : Int32) (z : Hp) : Option (Unit × Hp) :=
  gI 10 5 z r0 fun x1 =>
  if x1 < 288 then (
    gR 10 2 z r0 fun a2 =>
    sI 1 z a2 v1 v2 fun z3 =>
    gR 10 3 z3 r0 fun a4 =>
    gI 10 5 z3 r0 fun x5 =>
    sI 1 z3 a4 x5 v1 fun z6 =>
    gI 10 5 z6 r0 fun x7 =>
    pI 10 5 z6 r0 (x7 + 1) fun z8 =>
    some ((), z8)
  ) else
  some ((), z)
abbrev mi_X11_isAtRim : Mi := (RX11, cX11_isAtRim, 3, (Option.some Jvm.ClassFile.FieldType.boolean), "isAtRim", { frames := 0, cells := 0, slots := 0, locals := 0 })
def m_X11_isAtRim_B30   (z : Hp) : Option (Int32 × Hp) :=
  some (1, z)
def m_X11_isAtRim (v0 : Int32) (z : Hp) : Option (Int32 × Hp) :=
  if (v0 - v0 / 12 * 12) = 0 then (
    m_X11_isAtRim_B30 z
  ) else
  if (v0 - v0 / 12 * 12) = 11 then (
    m_X11_isAtRim_B30 z
  ) else
  if (v0 / 12) = 0 then (
    m_X11_isAtRim_B30 z
  ) else
  if (v0 / 12) = 11 then (
    m_X11_isAtRim_B30 z
  ) else
  some (0, z)
abbrev mi_X10_shortestWay : Mi := (RX10, cX10_shortestWay, 6, (Option.some Jvm.ClassFile.FieldType.int), "shortestWay", { frames := 2, cells := 0, slots := 0, locals := 45 })
def m_X10_shortestWay_B88  (r0 : Nat) (v3 : Int32) (z : Hp) : Option (Int32 × Hp) :=
  gR 10 2 z r0 fun a1 =>
  aI 1 z a1 v3 fun x2 =>
  some (x2, z)
def m_X10_shortestWay_B158 (k59 : Nat → Int32 → Hp → Option (Int32 × Hp)) (r0 : Nat) (v2 : Int32) (z : Hp) : Option (Int32 × Hp) :=
  k59 r0 (v2 + 1) z
def m_X10_shortestWay_B152 (k98 : Nat → Int32 → Int32 → Int32 → Hp → Option (Int32 × Hp)) (r0 : Nat) (v2 : Int32) (v3 : Int32) (v4 : Int32) (z : Hp) : Option (Int32 × Hp) :=
  k98 r0 v2 v3 (v4 + 1) z
def m_X10_shortestWay_L98 (k158 : Nat → Int32 → Hp → Option (Int32 × Hp)) : Nat → Nat → Int32 → Int32 → Int32 → Hp → Option (Int32 × Hp)
  | 0, _, _, _, _, _ => none
  | f + 1, r0, v2, v3, v4, z =>
    if v4 < 4 then (
      bnd (m_X11_beside v3 v4 z) fun x4 z3 =>
      if x4 = (-1) then (
        (m_X10_shortestWay_B152 (m_X10_shortestWay_L98 k158 f)) r0 v2 v3 v4 z3
      ) else
      gR 10 0 z3 r0 fun a5 =>
      aI 1 z3 a5 x4 fun x6 =>
      if x6 = 0 then (
        gR 10 2 z3 r0 fun a7 =>
        aI 1 z3 a7 x4 fun x8 =>
        if x8 = 0 then (
          gR 10 2 z3 r0 fun a9 =>
          aI 1 z3 a9 v3 fun x10 =>
          isC 10 z3 r0 <| bnd (m_X10_step r0 x4 (x10 + 1) z3) fun _ z11 =>
          (m_X10_shortestWay_B152 (m_X10_shortestWay_L98 k158 f)) r0 v2 v3 v4 z11
        ) else
        (m_X10_shortestWay_B152 (m_X10_shortestWay_L98 k158 f)) r0 v2 v3 v4 z3
      ) else
      (m_X10_shortestWay_B152 (m_X10_shortestWay_L98 k158 f)) r0 v2 v3 v4 z3
    ) else
    k158 r0 v2 z
def m_X10_shortestWay_L59 (k88 : Nat → Int32 → Hp → Option (Int32 × Hp)) : Nat → Nat → Int32 → Hp → Option (Int32 × Hp)
  | 0, _, _, _ => none
  | f + 1, r0, v2, z =>
    gI 10 5 z r0 fun x13 =>
    if v2 < x13 then (
      if v2 < 288 then (
        gR 10 3 z r0 fun a14 =>
        aI 1 z a14 v2 fun x15 =>
        bnd (m_X11_isAtRim x15 z) fun x17 z16 =>
        if x17 = 0 then (
          (m_X10_shortestWay_L98 (m_X10_shortestWay_B158 (m_X10_shortestWay_L59 k88 f)) FU) r0 v2 x15 0 z16
        ) else
        k88 r0 x15 z16
      ) else
      some ((-1), z)
    ) else
    some ((-1), z)
def m_X10_shortestWay_B57  (r0 : Nat) (z : Hp) : Option (Int32 × Hp) :=
  (m_X10_shortestWay_L59 m_X10_shortestWay_B88 FU) r0 0 z
def m_X10_shortestWay_B51 (k20 : Nat → Int32 → Hp → Option (Int32 × Hp)) (r0 : Nat) (v2 : Int32) (z : Hp) : Option (Int32 × Hp) :=
  k20 r0 (v2 + 1) z
def m_X10_shortestWay_L20 (k57 : Nat → Hp → Option (Int32 × Hp)) : Nat → Nat → Int32 → Hp → Option (Int32 × Hp)
  | 0, _, _, _ => none
  | f + 1, r0, v2, z =>
    if v2 < 144 then (
      gR 10 1 z r0 fun a18 =>
      aI 1 z a18 v2 fun x19 =>
      if x19 = 0 then (
        (m_X10_shortestWay_B51 (m_X10_shortestWay_L20 k57 f)) r0 v2 z
      ) else
      gR 10 0 z r0 fun a20 =>
      aI 1 z a20 v2 fun x21 =>
      if x21 = 0 then (
        isC 10 z r0 <| bnd (m_X10_step r0 v2 1 z) fun _ z22 =>
        (m_X10_shortestWay_B51 (m_X10_shortestWay_L20 k57 f)) r0 v2 z22
      ) else
      (m_X10_shortestWay_B51 (m_X10_shortestWay_L20 k57 f)) r0 v2 z
    ) else
    k57 r0 z
def m_X10_shortestWay (r0 : Nat) (r1 : Nat) (z : Hp) : Option (Int32 × Hp) :=
  isC 10 z r0 <| bnd (m_X10_look r0 r1 z) fun _ z24 =>
  gR 10 2 z24 r0 fun a26 =>
  bnd (m_J7_fill_53178 a26 0 z24) fun _ z27 =>
  pI 10 5 z27 r0 0 fun z28 =>
  (m_X10_shortestWay_L20 m_X10_shortestWay_B57 FU) r0 0 z28
abbrev mi_X10_isShut : Mi := (RX10, cX10_isShut, 2, (Option.some Jvm.ClassFile.FieldType.boolean), "isShut", { frames := 3, cells := 0, slots := 0, locals := 70 })
def m_X10_isShut (r0 : Nat) (r1 : Nat) (z : Hp) : Option (Int32 × Hp) :=
  isC 10 z r0 <| bnd (m_X10_shortestWay r0 r1 z) fun x2 z1 =>
  if x2 = (-1) then (
    some (1, z1)
  ) else
  some (0, z1)
abbrev mi_X10_reach : Mi := (RX10, cX10_reach, 2, (Option.none : Option Jvm.ClassFile.FieldType), "reach", { frames := 0, cells := 0, slots := 0, locals := 0 })
def m_X10_reach_B69  (r0 : Nat) (v1 : Int32) (z : Hp) : Option (Unit × Hp) :=
  gI 10 6 z r0 fun x1 =>
  if x1 < 288 then (
    gR 10 4 z r0 fun a2 =>
    gI 10 6 z r0 fun x3 =>
    sI 1 z a2 x3 v1 fun z4 =>
    gI 10 6 z4 r0 fun x5 =>
    pI 10 6 z4 r0 (x5 + 1) fun z6 =>
    some ((), z6)
  ) else
  some ((), z)
def m_X10_reach (r0 : Nat) (v1 : Int32) (z : Hp) : Option (Unit × Hp) :=
  gR 10 2 z r0 fun a7 =>
  aI 1 z a7 v1 fun x8 =>
  if x8 = 0 then (
    gR 10 0 z r0 fun a9 =>
    aI 1 z a9 v1 fun x10 =>
    if x10 = 2 then (
      some ((), z)
    ) else
    gR 10 2 z r0 fun a11 =>
    sI 1 z a11 v1 1 fun z12 =>
    gR 10 0 z12 r0 fun a13 =>
    aI 1 z12 a13 v1 fun x14 =>
    if x14 = 0 then (
      gI 10 5 z12 r0 fun x15 =>
      if x15 < 288 then (
        gR 10 3 z12 r0 fun a16 =>
        gI 10 5 z12 r0 fun x17 =>
        sI 1 z12 a16 x17 v1 fun z18 =>
        gI 10 5 z18 r0 fun x19 =>
        pI 10 5 z18 r0 (x19 + 1) fun z20 =>
        some ((), z20)
      ) else
      m_X10_reach_B69 r0 v1 z12
    ) else
    m_X10_reach_B69 r0 v1 z12
  ) else
  some ((), z)
abbrev mi_X10_reachesRim : Mi := (RX10, cX10_reachesRim, 5, (Option.some Jvm.ClassFile.FieldType.boolean), "reachesRim", { frames := 1, cells := 0, slots := 0, locals := 22 })
def m_X10_reachesRim_B65 (k2 : Nat → Int32 → Hp → Option (Int32 × Hp)) (r0 : Nat) (v1 : Int32) (z : Hp) : Option (Int32 × Hp) :=
  k2 r0 (v1 + 1) z
def m_X10_reachesRim_B59 (k35 : Nat → Int32 → Int32 → Int32 → Hp → Option (Int32 × Hp)) (r0 : Nat) (v1 : Int32) (v2 : Int32) (v3 : Int32) (z : Hp) : Option (Int32 × Hp) :=
  k35 r0 v1 v2 (v3 + 1) z
def m_X10_reachesRim_L35 (k65 : Nat → Int32 → Hp → Option (Int32 × Hp)) : Nat → Nat → Int32 → Int32 → Int32 → Hp → Option (Int32 × Hp)
  | 0, _, _, _, _, _ => none
  | f + 1, r0, v1, v2, v3, z =>
    if v3 < 4 then (
      bnd (m_X11_beside v2 v3 z) fun x2 z1 =>
      if x2 = (-1) then (
        (m_X10_reachesRim_B59 (m_X10_reachesRim_L35 k65 f)) r0 v1 v2 v3 z1
      ) else
      isC 10 z1 r0 <| bnd (m_X10_reach r0 x2 z1) fun _ z3 =>
      (m_X10_reachesRim_B59 (m_X10_reachesRim_L35 k65 f)) r0 v1 v2 v3 z3
    ) else
    k65 r0 v1 z
def m_X10_reachesRim_L2  : Nat → Nat → Int32 → Hp → Option (Int32 × Hp)
  | 0, _, _, _ => none
  | f + 1, r0, v1, z =>
    gI 10 5 z r0 fun x5 =>
    if v1 < x5 then (
      if v1 < 288 then (
        gR 10 3 z r0 fun a6 =>
        aI 1 z a6 v1 fun x7 =>
        bnd (m_X11_isAtRim x7 z) fun x9 z8 =>
        if x9 = 0 then (
          (m_X10_reachesRim_L35 (m_X10_reachesRim_B65 (m_X10_reachesRim_L2  f)) FU) r0 v1 x7 0 z8
        ) else
        some (1, z8)
      ) else
      some (0, z)
    ) else
    some (0, z)
def m_X10_reachesRim (r0 : Nat) (z : Hp) : Option (Int32 × Hp) :=
  (m_X10_reachesRim_L2 FU) r0 0 z
abbrev mi_X10_thinnestFrost : Mi := (RX10, cX10_thinnestFrost, 4, (Option.some Jvm.ClassFile.FieldType.int), "thinnestFrost", { frames := 2, cells := 0, slots := 0, locals := 46 })
def m_X10_thinnestFrost_L54  : Nat → Nat → Int32 → Hp → Option (Int32 × Hp)
  | 0, _, _, _ => none
  | f + 1, r0, v2, z =>
    if 144 < v2 then (
      some (0, z)
    ) else
    isC 10 z r0 <| bnd (m_X10_reachesRim r0 z) fun x2 z1 =>
    if x2 = 0 then (
      gR 10 3 z1 r0 fun a4 =>
      gR 10 4 z1 r0 fun a5 =>
      pR 10 3 z1 r0 a5 fun z6 =>
      pR 10 4 z6 r0 a4 fun z7 =>
      gI 10 6 z7 r0 fun x8 =>
      pI 10 5 z7 r0 x8 fun z9 =>
      pI 10 6 z9 r0 0 fun z10 =>
      (m_X10_thinnestFrost_L54  f) r0 (v2 + 1) z10
    ) else
    some (v2, z1)
def m_X10_thinnestFrost_B52  (r0 : Nat) (z : Hp) : Option (Int32 × Hp) :=
  (m_X10_thinnestFrost_L54 FU) r0 0 z
def m_X10_thinnestFrost_B46 (k25 : Nat → Int32 → Hp → Option (Int32 × Hp)) (r0 : Nat) (v2 : Int32) (z : Hp) : Option (Int32 × Hp) :=
  k25 r0 (v2 + 1) z
def m_X10_thinnestFrost_L25 (k52 : Nat → Hp → Option (Int32 × Hp)) : Nat → Nat → Int32 → Hp → Option (Int32 × Hp)
  | 0, _, _, _ => none
  | f + 1, r0, v2, z =>
    if v2 < 144 then (
      gR 10 1 z r0 fun a11 =>
      aI 1 z a11 v2 fun x12 =>
      if x12 = 0 then (
        (m_X10_thinnestFrost_B46 (m_X10_thinnestFrost_L25 k52 f)) r0 v2 z
      ) else
      isC 10 z r0 <| bnd (m_X10_reach r0 v2 z) fun _ z13 =>
      (m_X10_thinnestFrost_B46 (m_X10_thinnestFrost_L25 k52 f)) r0 v2 z13
    ) else
    k52 r0 z
def m_X10_thinnestFrost (r0 : Nat) (r1 : Nat) (z : Hp) : Option (Int32 × Hp) :=
  isC 10 z r0 <| bnd (m_X10_look r0 r1 z) fun _ z15 =>
  gR 10 2 z15 r0 fun a17 =>
  bnd (m_J7_fill_53178 a17 0 z15) fun _ z18 =>
  pI 10 5 z18 r0 0 fun z19 =>
  pI 10 6 z19 r0 0 fun z20 =>
  (m_X10_thinnestFrost_L25 m_X10_thinnestFrost_B52 FU) r0 0 z20
abbrev mi_X10_come : Mi := (RX10, cX10_come, 3, (Option.none : Option Jvm.ClassFile.FieldType), "come", { frames := 0, cells := 0, slots := 0, locals := 0 })
def m_X10_come (r0 : Nat) (v1 : Int32) (v2 : Int32) (z : Hp) : Option (Unit × Hp) :=
  gR 10 7 z r0 fun a1 =>
  aI 1 z a1 v1 fun x2 =>
  if x2 = (-1) then (
    gI 10 5 z r0 fun x3 =>
    if x3 < 288 then (
      gR 10 7 z r0 fun a4 =>
      sI 1 z a4 v1 v2 fun z5 =>
      gR 10 3 z5 r0 fun a6 =>
      gI 10 5 z5 r0 fun x7 =>
      sI 1 z5 a6 x7 v1 fun z8 =>
      gI 10 5 z8 r0 fun x9 =>
      pI 10 5 z8 r0 (x9 + 1) fun z10 =>
      some ((), z10)
    ) else
    some ((), z)
  ) else
  some ((), z)
abbrev mi_X10_goOnFromInside : Mi := (RX10, cX10_goOnFromInside, 4, (Option.none : Option Jvm.ClassFile.FieldType), "goOnFromInside", { frames := 1, cells := 0, slots := 0, locals := 22 })
def m_X10_goOnFromInside_B62 (k21 : Nat → Int32 → Int32 → Hp → Option (Unit × Hp)) (r0 : Nat) (v1 : Int32) (v2 : Int32) (z : Hp) : Option (Unit × Hp) :=
  k21 r0 v1 (v2 + 1) z
def m_X10_goOnFromInside_L21  : Nat → Nat → Int32 → Int32 → Hp → Option (Unit × Hp)
  | 0, _, _, _, _ => none
  | f + 1, r0, v1, v2, z =>
    if v2 < 4 then (
      bnd (m_X11_beside v1 v2 z) fun x2 z1 =>
      if x2 = (-1) then (
        (m_X10_goOnFromInside_B62 (m_X10_goOnFromInside_L21  f)) r0 v1 v2 z1
      ) else
      gR 10 9 z1 r0 fun a3 =>
      aI 1 z1 a3 ((4 * x2) + (v2 ^^^ 1)) fun x4 =>
      if x4 = 0 then (
        (m_X10_goOnFromInside_B62 (m_X10_goOnFromInside_L21  f)) r0 v1 v2 z1
      ) else
      isC 10 z1 r0 <| bnd (m_X10_come r0 (144 + x2) v1 z1) fun _ z5 =>
      (m_X10_goOnFromInside_B62 (m_X10_goOnFromInside_L21  f)) r0 v1 v2 z5
    ) else
    some ((), z)
def m_X10_goOnFromInside_B19  (r0 : Nat) (v1 : Int32) (z : Hp) : Option (Unit × Hp) :=
  (m_X10_goOnFromInside_L21 FU) r0 v1 0 z
def m_X10_goOnFromInside (r0 : Nat) (v1 : Int32) (z : Hp) : Option (Unit × Hp) :=
  gR 10 8 z r0 fun a7 =>
  aI 1 z a7 v1 fun x8 =>
  if x8 = 0 then (
    isC 10 z r0 <| bnd (m_X10_come r0 (144 + v1) v1 z) fun _ z9 =>
    m_X10_goOnFromInside_B19 r0 v1 z9
  ) else
  m_X10_goOnFromInside_B19 r0 v1 z
abbrev mi_X10_goOnFromOutside : Mi := (RX10, cX10_goOnFromOutside, 4, (Option.none : Option Jvm.ClassFile.FieldType), "goOnFromOutside", { frames := 1, cells := 0, slots := 0, locals := 22 })
def m_X10_goOnFromOutside_B56 (k21 : Nat → Int32 → Int32 → Hp → Option (Unit × Hp)) (r0 : Nat) (v1 : Int32) (v2 : Int32) (z : Hp) : Option (Unit × Hp) :=
  k21 r0 v1 (v2 + 1) z
def m_X10_goOnFromOutside_L21  : Nat → Nat → Int32 → Int32 → Hp → Option (Unit × Hp)
  | 0, _, _, _, _ => none
  | f + 1, r0, v1, v2, z =>
    if v2 < 4 then (
      bnd (m_X11_beside v1 v2 z) fun x2 z1 =>
      if x2 = (-1) then (
        (m_X10_goOnFromOutside_B56 (m_X10_goOnFromOutside_L21  f)) r0 v1 v2 z1
      ) else
      gR 10 0 z1 r0 fun a3 =>
      aI 1 z1 a3 x2 fun x4 =>
      if x4 = 0 then (
        isC 10 z1 r0 <| bnd (m_X10_come r0 x2 (144 + v1) z1) fun _ z5 =>
        (m_X10_goOnFromOutside_B56 (m_X10_goOnFromOutside_L21  f)) r0 v1 v2 z5
      ) else
      (m_X10_goOnFromOutside_B56 (m_X10_goOnFromOutside_L21  f)) r0 v1 v2 z1
    ) else
    some ((), z)
def m_X10_goOnFromOutside_B19  (r0 : Nat) (v1 : Int32) (z : Hp) : Option (Unit × Hp) :=
  (m_X10_goOnFromOutside_L21 FU) r0 v1 0 z
def m_X10_goOnFromOutside (r0 : Nat) (v1 : Int32) (z : Hp) : Option (Unit × Hp) :=
  gR 10 8 z r0 fun a7 =>
  aI 1 z a7 v1 fun x8 =>
  if x8 = 0 then (
    m_X10_goOnFromOutside_B19 r0 v1 z
  ) else
  isC 10 z r0 <| bnd (m_X10_come r0 v1 (144 + v1) z) fun _ z9 =>
  m_X10_goOnFromOutside_B19 r0 v1 z9
abbrev mi_X10_searchPath : Mi := (RX10, cX10_searchPath, 3, (Option.some Jvm.ClassFile.FieldType.int), "searchPath", { frames := 2, cells := 0, slots := 0, locals := 45 })
def m_X10_searchPath_B114 (k55 : Nat → Int32 → Hp → Option (Int32 × Hp)) (r0 : Nat) (v1 : Int32) (z : Hp) : Option (Int32 × Hp) :=
  k55 r0 (v1 + 1) z
def m_X10_searchPath_L55  : Nat → Nat → Int32 → Hp → Option (Int32 × Hp)
  | 0, _, _, _ => none
  | f + 1, r0, v1, z =>
    gI 10 5 z r0 fun x1 =>
    if v1 < x1 then (
      if v1 < 288 then (
        gR 10 3 z r0 fun a2 =>
        aI 1 z a2 v1 fun x3 =>
        if x3 < 144 then (
          isC 10 z r0 <| bnd (m_X10_goOnFromInside r0 x3 z) fun _ z8 =>
          (m_X10_searchPath_B114 (m_X10_searchPath_L55  f)) r0 v1 z8
        ) else
        bnd (m_X11_isAtRim (x3 - 144) z) fun x5 z4 =>
        if x5 = 0 then (
          isC 10 z4 r0 <| bnd (m_X10_goOnFromOutside r0 (x3 - 144) z4) fun _ z6 =>
          (m_X10_searchPath_B114 (m_X10_searchPath_L55  f)) r0 v1 z6
        ) else
        some (x3, z4)
      ) else
      some ((-1), z)
    ) else
    some ((-1), z)
def m_X10_searchPath_B53  (r0 : Nat) (z : Hp) : Option (Int32 × Hp) :=
  (m_X10_searchPath_L55 FU) r0 0 z
def m_X10_searchPath_B47 (k15 : Nat → Int32 → Hp → Option (Int32 × Hp)) (r0 : Nat) (v1 : Int32) (z : Hp) : Option (Int32 × Hp) :=
  k15 r0 (v1 + 1) z
def m_X10_searchPath_L15 (k53 : Nat → Hp → Option (Int32 × Hp)) : Nat → Nat → Int32 → Hp → Option (Int32 × Hp)
  | 0, _, _, _ => none
  | f + 1, r0, v1, z =>
    if v1 < 144 then (
      gR 10 1 z r0 fun a10 =>
      aI 1 z a10 v1 fun x11 =>
      if x11 = 0 then (
        (m_X10_searchPath_B47 (m_X10_searchPath_L15 k53 f)) r0 v1 z
      ) else
      gR 10 0 z r0 fun a12 =>
      aI 1 z a12 v1 fun x13 =>
      if x13 = 0 then (
        isC 10 z r0 <| bnd (m_X10_come r0 v1 (-2) z) fun _ z14 =>
        (m_X10_searchPath_B47 (m_X10_searchPath_L15 k53 f)) r0 v1 z14
      ) else
      (m_X10_searchPath_B47 (m_X10_searchPath_L15 k53 f)) r0 v1 z
    ) else
    k53 r0 z
def m_X10_searchPath (r0 : Nat) (z : Hp) : Option (Int32 × Hp) :=
  gR 10 7 z r0 fun a16 =>
  bnd (m_J7_fill_53178 a16 (-1) z) fun _ z17 =>
  pI 10 5 z17 r0 0 fun z18 =>
  (m_X10_searchPath_L15 m_X10_searchPath_B53 FU) r0 0 z18
abbrev mi_X10_sideTo : Mi := (RX10, cX10_sideTo, 2, (Option.some Jvm.ClassFile.FieldType.int), "sideTo", { frames := 0, cells := 0, slots := 0, locals := 0 })
def m_X10_sideTo (v0 : Int32) (v1 : Int32) (z : Hp) : Option (Int32 × Hp) :=
  if v1 = (v0 + 1) then (
    some (0, z)
  ) else
  if v1 = (v0 - 1) then (
    some (1, z)
  ) else
  if v1 < v0 then (
    some (2, z)
  ) else
  some (3, z)
abbrev mi_X10_goBackOrThrough : Mi := (RX10, cX10_goBackOrThrough, 3, (Option.none : Option Jvm.ClassFile.FieldType), "goBackOrThrough", { frames := 1, cells := 0, slots := 0, locals := 21 })
def m_X10_goBackOrThrough (r0 : Nat) (v1 : Int32) (v2 : Int32) (z : Hp) : Option (Unit × Hp) :=
  if v1 = v2 then (
    gR 10 8 z r0 fun a5 =>
    sI 1 z a5 v1 1 fun z6 =>
    some ((), z6)
  ) else
  gR 10 9 z r0 fun a1 =>
  bnd (m_X10_sideTo v2 v1 z) fun x3 z2 =>
  sI 1 z2 a1 ((4 * v2) + x3) 0 fun z4 =>
  some ((), z4)
abbrev mi_X10_goOutOrBack : Mi := (RX10, cX10_goOutOrBack, 3, (Option.none : Option Jvm.ClassFile.FieldType), "goOutOrBack", { frames := 1, cells := 0, slots := 0, locals := 21 })
def m_X10_goOutOrBack (r0 : Nat) (v1 : Int32) (v2 : Int32) (z : Hp) : Option (Unit × Hp) :=
  if v2 = v1 then (
    gR 10 8 z r0 fun a5 =>
    sI 1 z a5 v2 0 fun z6 =>
    some ((), z6)
  ) else
  gR 10 9 z r0 fun a1 =>
  bnd (m_X10_sideTo v1 v2 z) fun x3 z2 =>
  sI 1 z2 a1 ((4 * v1) + x3) 1 fun z4 =>
  some ((), z4)
abbrev mi_X10_layPath : Mi := (RX10, cX10_layPath, 5, (Option.none : Option Jvm.ClassFile.FieldType), "layPath", { frames := 2, cells := 0, slots := 0, locals := 43 })
def m_X10_layPath_B80 (k4 : Nat → Int32 → Int32 → Hp → Option (Unit × Hp)) (r0 : Nat) (v3 : Int32) (v4 : Int32) (z : Hp) : Option (Unit × Hp) :=
  k4 r0 v4 (v3 + 1) z
def m_X10_layPath_B54 (k4 : Nat → Int32 → Int32 → Hp → Option (Unit × Hp)) (r0 : Nat) (v2 : Int32) (v3 : Int32) (v4 : Int32) (z : Hp) : Option (Unit × Hp) :=
  if v4 < 144 then (
    (m_X10_layPath_B80 k4) r0 v3 v4 z
  ) else
  if v2 < 144 then (
    isC 10 z r0 <| bnd (m_X10_goOutOrBack r0 (v4 - 144) v2 z) fun _ z1 =>
    (m_X10_layPath_B80 k4) r0 v3 v4 z1
  ) else
  (m_X10_layPath_B80 k4) r0 v3 v4 z
def m_X10_layPath_L4  : Nat → Nat → Int32 → Int32 → Hp → Option (Unit × Hp)
  | 0, _, _, _, _ => none
  | f + 1, r0, v2, v3, z =>
    if v3 < 288 then (
      gR 10 7 z r0 fun a3 =>
      aI 1 z a3 v2 fun x4 =>
      if x4 < 0 then (
        some ((), z)
      ) else
      if x4 < 144 then (
        if v2 < 144 then (
          (m_X10_layPath_B54 (m_X10_layPath_L4  f)) r0 v2 v3 x4 z
        ) else
        isC 10 z r0 <| bnd (m_X10_goBackOrThrough r0 x4 (v2 - 144) z) fun _ z5 =>
        (m_X10_layPath_B80 (m_X10_layPath_L4  f)) r0 v3 x4 z5
      ) else
      (m_X10_layPath_B54 (m_X10_layPath_L4  f)) r0 v2 v3 x4 z
    ) else
    some ((), z)
def m_X10_layPath (r0 : Nat) (v1 : Int32) (z : Hp) : Option (Unit × Hp) :=
  (m_X10_layPath_L4 FU) r0 v1 0 z
abbrev mi_X10_fewestGaps : Mi := (RX10, cX10_fewestGaps, 5, (Option.some Jvm.ClassFile.FieldType.int), "fewestGaps", { frames := 3, cells := 0, slots := 0, locals := 67 })
def m_X10_fewestGaps_B44  (v2 : Int32) (z : Hp) : Option (Int32 × Hp) :=
  some (v2, z)
def m_X10_fewestGaps_L25 (k44 : Int32 → Hp → Option (Int32 × Hp)) : Nat → Nat → Int32 → Int32 → Hp → Option (Int32 × Hp)
  | 0, _, _, _, _ => none
  | f + 1, r0, v2, v3, z =>
    if v3 < 144 then (
      isC 10 z r0 <| bnd (m_X10_searchPath r0 z) fun x2 z1 =>
      if x2 = (-1) then (
        k44 v2 z1
      ) else
      isC 10 z1 r0 <| bnd (m_X10_layPath r0 x2 z1) fun _ z4 =>
      (m_X10_fewestGaps_L25 k44 f) r0 (v2 + 1) (v3 + 1) z4
    ) else
    some (v2, z)
def m_X10_fewestGaps (r0 : Nat) (r1 : Nat) (z : Hp) : Option (Int32 × Hp) :=
  isC 10 z r0 <| bnd (m_X10_look r0 r1 z) fun _ z6 =>
  gR 10 8 z6 r0 fun a8 =>
  bnd (m_J7_fill_53178 a8 0 z6) fun _ z9 =>
  gR 10 9 z9 r0 fun a10 =>
  bnd (m_J7_fill_53178 a10 0 z9) fun _ z11 =>
  (m_X10_fewestGaps_L25 m_X10_fewestGaps_B44 FU) r0 0 0 z11
abbrev mi_X10_listGaps : Mi := (RX10, cX10_listGaps, 4, (Option.none : Option Jvm.ClassFile.FieldType), "listGaps", { frames := 0, cells := 0, slots := 0, locals := 0 })
def m_X10_listGaps_B48 (k4 : Nat → Nat → Int32 → Int32 → Hp → Option (Unit × Hp)) (r0 : Nat) (r1 : Nat) (v2 : Int32) (v3 : Int32) (z : Hp) : Option (Unit × Hp) :=
  k4 r0 r1 v2 (v3 + 1) z
def m_X10_listGaps_L4  : Nat → Nat → Nat → Int32 → Int32 → Hp → Option (Unit × Hp)
  | 0, _, _, _, _, _ => none
  | f + 1, r0, r1, v2, v3, z =>
    if v3 < 144 then (
      gR 10 7 z r0 fun a1 =>
      aI 1 z a1 v3 fun x2 =>
      if x2 = (-1) then (
        (m_X10_listGaps_B48 (m_X10_listGaps_L4  f)) r0 r1 v2 v3 z
      ) else
      gR 10 7 z r0 fun a3 =>
      aI 1 z a3 (144 + v3) fun x4 =>
      if x4 = (-1) then (
        aN 1 z r1 fun x5 =>
        if v2 < x5 then (
          sI 1 z r1 v2 v3 fun z6 =>
          (m_X10_listGaps_B48 (m_X10_listGaps_L4  f)) r0 r1 (v2 + 1) v3 z6
        ) else
        (m_X10_listGaps_B48 (m_X10_listGaps_L4  f)) r0 r1 v2 v3 z
      ) else
      (m_X10_listGaps_B48 (m_X10_listGaps_L4  f)) r0 r1 v2 v3 z
    ) else
    some ((), z)
def m_X10_listGaps (r0 : Nat) (r1 : Nat) (z : Hp) : Option (Unit × Hp) :=
  (m_X10_listGaps_L4 FU) r0 r1 0 0 z
abbrev mi_X11_init : Mi := (RX11, cX11_init, 1, (Option.none : Option Jvm.ClassFile.FieldType), "<init>", { frames := 3, cells := 91, slots := 5419, locals := 63 })
def m_X11_init (r0 : Nat) (z : Hp) : Option (Unit × Hp) :=
  nwC (8 + 7) 0 z fun a1 z2 =>
  bnd (m_X8_init a1 z2) fun _ z3 =>
  pR 11 0 z3 r0 a1 fun z4 =>
  nwC (8 + 7) 0 z4 fun a5 z6 =>
  bnd (m_X8_init a5 z6) fun _ z7 =>
  pR 11 1 z7 r0 a5 fun z8 =>
  nwC 5 3 z8 fun a9 z10 =>
  pR 11 2 z10 r0 a9 fun z11 =>
  nwC (4 + 7) 0 z11 fun a12 z13 =>
  bnd (m_X4_init a12 z13) fun _ z14 =>
  pR 11 3 z14 r0 a12 fun z15 =>
  nwC (2 + 7) 0 z15 fun a16 z17 =>
  gR 11 3 z17 r0 fun a18 =>
  gR 11 1 z17 r0 fun a19 =>
  bnd (m_X2_init a16 a18 a19 z17) fun _ z20 =>
  pR 11 4 z20 r0 a16 fun z21 =>
  nwC (9 + 7) 0 z21 fun a22 z23 =>
  bnd (m_X9_init a22 z23) fun _ z24 =>
  pR 11 5 z24 r0 a22 fun z25 =>
  nwC (10 + 7) 0 z25 fun a26 z27 =>
  bnd (m_X10_init a26 z27) fun _ z28 =>
  pR 11 6 z28 r0 a26 fun z29 =>
  nwC (6 + 7) 0 z29 fun a30 z31 =>
  bnd (m_X6_init a30 z31) fun _ z32 =>
  pR 11 7 z32 r0 a30 fun z33 =>
  nwC 1 144 z33 fun a34 z35 =>
  pR 11 8 z35 r0 a34 fun z36 =>
  pI 11 9 z36 r0 0 fun z37 =>
  pI 11 10 z37 r0 0 fun z38 =>
  pI 11 11 z38 r0 0 fun z39 =>
  pI 11 12 z39 r0 (-1) fun z40 =>
  gR 11 0 z40 r0 fun a41 =>
  isC 8 z40 a41 <| bnd (m_X8_forget a41 z40) fun _ z42 =>
  gR 11 0 z42 r0 fun a44 =>
  isC 8 z42 a44 <| bnd (m_X8_begin a44 z42) fun _ z45 =>
  some ((), z45)
abbrev mi_X11_feed : Mi := (RX11, cX11_feed, 6, (Option.some Jvm.ClassFile.FieldType.int), "feed", { frames := 1, cells := 0, slots := 0, locals := 22 })
def m_X11_feed (r0 : Nat) (v1 : Int32) (v2 : Int32) (v3 : Int32) (v4 : Int32) (v5 : Int32) (z : Hp) : Option (Int32 × Hp) :=
  gR 11 3 z r0 fun a1 =>
  gI 4 1 z a1 fun x2 =>
  if 700 < (x2 + 20) then (
    some ((-1), z)
  ) else
  gR 11 3 z r0 fun a3 =>
  isC 4 z a3 <| bnd (m_X4_append a3 v1 z) fun _ z4 =>
  gR 11 3 z4 r0 fun a6 =>
  isC 4 z4 a6 <| bnd (m_X4_append a6 v2 z4) fun _ z7 =>
  gR 11 3 z7 r0 fun a9 =>
  isC 4 z7 a9 <| bnd (m_X4_append a9 v3 z7) fun _ z10 =>
  gR 11 3 z10 r0 fun a12 =>
  isC 4 z10 a12 <| bnd (m_X4_append a12 v4 z10) fun _ z13 =>
  gR 11 3 z13 r0 fun a15 =>
  isC 4 z13 a15 <| bnd (m_X4_append a15 v5 z13) fun _ z16 =>
  gR 11 3 z16 r0 fun a18 =>
  gI 4 1 z16 a18 fun x19 =>
  some (x19, z16)
abbrev mi_X11_end : Mi := (RX11, cX11_end, 2, (Option.some Jvm.ClassFile.FieldType.int), "end", { frames := 0, cells := 0, slots := 0, locals := 0 })
def m_X11_end (r0 : Nat) (v1 : Int32) (z : Hp) : Option (Int32 × Hp) :=
  if v1 < 0 then (
    some ((-1), z)
  ) else
  gR 11 3 z r0 fun a1 =>
  gI 4 1 z a1 fun x2 =>
  if x2 < v1 then (
    some ((-1), z)
  ) else
  gR 11 3 z r0 fun a3 =>
  pI 4 1 z a3 v1 fun z4 =>
  some (v1, z4)
abbrev mi_X11_text : Mi := (RX11, cX11_text, 2, (Option.some Jvm.ClassFile.FieldType.int), "text", { frames := 9, cells := 0, slots := 0, locals := 221 })
def m_X11_text (r0 : Nat) (z : Hp) : Option (Int32 × Hp) :=
  gR 11 4 z r0 fun a1 =>
  gR 11 1 z r0 fun a2 =>
  isC 2 z a1 <| bnd (m_X2_readText a1 a2 z) fun _ z3 =>
  gR 11 3 z3 r0 fun a5 =>
  pI 4 1 z3 a5 0 fun z6 =>
  gR 11 4 z6 r0 fun a7 =>
  gI 2 6 z6 a7 fun x8 =>
  pI 11 11 z6 r0 x8 fun z9 =>
  gR 11 4 z9 r0 fun a10 =>
  gI 2 7 z9 a10 fun x11 =>
  pI 11 12 z9 r0 x11 fun z12 =>
  gI 11 11 z12 r0 fun x13 =>
  if x13 = 0 then (
    gR 11 1 z12 r0 fun a14 =>
    isC 8 z12 a14 <| bnd (m_X8_begin a14 z12) fun _ z15 =>
    gR 11 0 z15 r0 fun a17 =>
    gR 11 1 z15 r0 fun a18 =>
    pR 11 0 z15 r0 a18 fun z19 =>
    pR 11 1 z19 r0 a17 fun z20 =>
    gR 11 0 z20 r0 fun a21 =>
    gI 8 13 z20 a21 fun x22 =>
    some (x22, z20)
  ) else
  some ((-4), z12)
abbrev mi_X11_fault : Mi := (RX11, cX11_fault, 2, (Option.some Jvm.ClassFile.FieldType.int), "fault", { frames := 0, cells := 0, slots := 0, locals := 0 })
def m_X11_fault (r0 : Nat) (v1 : Int32) (z : Hp) : Option (Int32 × Hp) :=
  if v1 = 0 then (
    gI 11 11 z r0 fun x2 =>
    some (x2, z)
  ) else
  if v1 = 1 then (
    gI 11 12 z r0 fun x1 =>
    some (x1, z)
  ) else
  some ((-1), z)
abbrev mi_X11_floodIfOpen : Mi := (RX11, cX11_floodIfOpen, 1, (Option.none : Option Jvm.ClassFile.FieldType), "floodIfOpen", { frames := 4, cells := 0, slots := 0, locals := 91 })
def m_X11_floodIfOpen (r0 : Nat) (z : Hp) : Option (Unit × Hp) :=
  gR 11 0 z r0 fun a1 =>
  gI 8 15 z a1 fun x2 =>
  if x2 = 0 then (
    gR 11 0 z r0 fun a3 =>
    gI 8 11 z a3 fun x4 =>
    if 0 < x4 then (
      gR 11 6 z r0 fun a5 =>
      gR 11 0 z r0 fun a6 =>
      isC 10 z a5 <| bnd (m_X10_isShut a5 a6 z) fun x8 z7 =>
      if x8 = 0 then (
        gR 11 0 z7 r0 fun a10 =>
        pI 8 15 z7 a10 1 fun z11 =>
        gR 11 0 z11 r0 fun a12 =>
        gI 8 16 z11 a12 fun x13 =>
        pI 8 16 z11 a12 (x13 + 1) fun z14 =>
        some ((), z14)
      ) else
      some ((), z7)
    ) else
    some ((), z)
  ) else
  some ((), z)
abbrev mi_X11_tick : Mi := (RX11, cX11_tick, 3, (Option.some Jvm.ClassFile.FieldType.int), "tick", { frames := 5, cells := 0, slots := 0, locals := 111 })
def m_X11_tick_B67  (r0 : Nat) (z : Hp) : Option (Int32 × Hp) :=
  gR 11 0 z r0 fun a1 =>
  gI 8 14 z a1 fun x2 =>
  some (x2, z)
def m_X11_tick_L34 (k67 : Nat → Hp → Option (Int32 × Hp)) : Nat → Nat → Int32 → Int32 → Hp → Option (Int32 × Hp)
  | 0, _, _, _, _ => none
  | f + 1, r0, v1, v2, z =>
    if v2 < v1 then (
      gR 11 5 z r0 fun a3 =>
      gR 11 0 z r0 fun a4 =>
      isC 9 z a3 <| bnd (m_X9_pass a3 a4 z) fun _ z5 =>
      isC 11 z5 r0 <| bnd (m_X11_floodIfOpen r0 z5) fun _ z7 =>
      gR 11 0 z7 r0 fun a9 =>
      isC 8 z7 a9 <| bnd (m_X8_crackHouses a9 z7) fun _ z10 =>
      (m_X11_tick_L34 k67 f) r0 v1 (v2 + 1) z10
    ) else
    k67 r0 z
def m_X11_tick (r0 : Nat) (v1 : Int32) (z : Hp) : Option (Int32 × Hp) :=
  if v1 < 1 then (
    some ((-2), z)
  ) else
  if 40 < v1 then (
    some ((-2), z)
  ) else
  gR 11 0 z r0 fun a12 =>
  gI 8 14 z a12 fun x13 =>
  if 2000 < (x13 + v1) then (
    some ((-3), z)
  ) else
  (m_X11_tick_L34 m_X11_tick_B67 FU) r0 v1 0 z
abbrev mi_X11_isCell : Mi := (RX11, cX11_isCell, 2, (Option.some Jvm.ClassFile.FieldType.boolean), "isCell", { frames := 0, cells := 0, slots := 0, locals := 0 })
def m_X11_isCell (v0 : Int32) (v1 : Int32) (z : Hp) : Option (Int32 × Hp) :=
  if v0 < 0 then (
    some (0, z)
  ) else
  if v0 < 12 then (
    if v1 < 0 then (
      some (0, z)
    ) else
    if v1 < 12 then (
      some (1, z)
    ) else
    some (0, z)
  ) else
  some (0, z)
abbrev mi_X11_cell : Mi := (RX11, cX11_cell, 5, (Option.some Jvm.ClassFile.FieldType.int), "cell", { frames := 2, cells := 0, slots := 0, locals := 42 })
def m_X11_cell (r0 : Nat) (v1 : Int32) (v2 : Int32) (v3 : Int32) (z : Hp) : Option (Int32 × Hp) :=
  bnd (m_X11_isCell v1 v2 z) fun x2 z1 =>
  if x2 = 0 then (
    some ((-2000000000), z1)
  ) else
  if v3 = 0 then (
    gR 11 0 z1 r0 fun a3 =>
    gR 8 0 z1 a3 fun a4 =>
    gR 7 4 z1 a4 fun a5 =>
    aI 1 z1 a5 ((12 * v2) + v1) fun x6 =>
    some (x6, z1)
  ) else
  if v3 = 1 then (
    gR 11 0 z1 r0 fun a8 =>
    gR 8 5 z1 a8 fun a9 =>
    aI 1 z1 a9 ((12 * v2) + v1) fun x10 =>
    some (x10, z1)
  ) else
  if v3 = 2 then (
    gR 11 0 z1 r0 fun a12 =>
    gR 8 6 z1 a12 fun a13 =>
    aI 1 z1 a13 ((12 * v2) + v1) fun x14 =>
    some (x14, z1)
  ) else
  if v3 = 3 then (
    gR 11 0 z1 r0 fun a16 =>
    isC 8 z1 a16 <| bnd (m_X8_condition a16 ((12 * v2) + v1) z1) fun x18 z17 =>
    some (x18, z17)
  ) else
  if v3 = 4 then (
    gR 11 0 z1 r0 fun a21 =>
    gR 8 1 z1 a21 fun a22 =>
    isC 3 z1 a22 <| bnd (m_X3_standingIn a22 ((12 * v2) + v1) z1) fun x24 z23 =>
    some (x24, z23)
  ) else
  if v3 = 5 then (
    gR 11 0 z1 r0 fun a27 =>
    gR 8 8 z1 a27 fun a28 =>
    aI 1 z1 a28 ((12 * v2) + v1) fun x29 =>
    some (x29, z1)
  ) else
  some ((-2000000000), z1)
abbrev mi_X11_heat : Mi := (RX11, cX11_heat, 2, (Option.some Jvm.ClassFile.FieldType.int), "heat", { frames := 1, cells := 0, slots := 0, locals := 22 })
def m_X11_heat (r0 : Nat) (v1 : Int32) (z : Hp) : Option (Int32 × Hp) :=
  if v1 = 0 then (
    gR 11 0 z r0 fun a4 =>
    isC 8 z a4 <| bnd (m_X8_heatOfAll a4 z) fun x6 z5 =>
    some (x6, z5)
  ) else
  if 0 < v1 then (
    if v1 < 6 then (
      gR 11 0 z r0 fun a1 =>
      gR 8 9 z a1 fun a2 =>
      aI 1 z a2 v1 fun x3 =>
      some (x3, z)
    ) else
    some ((-2000000000), z)
  ) else
  some ((-2000000000), z)
abbrev mi_X11_run : Mi := (RX11, cX11_run, 5, (Option.some Jvm.ClassFile.FieldType.boolean), "run", { frames := 0, cells := 0, slots := 0, locals := 0 })
def m_X11_run_B51  (r0 : Nat) (v1 : Int32) (v3 : Int32) (t0 : Int32) (z : Hp) : Option (Int32 × Hp) :=
  gR 11 0 z r0 fun a1 =>
  gR 8 1 z a1 fun a2 =>
  gR 3 3 z a2 fun a3 =>
  sI 1 z a3 v1 v3 fun z4 =>
  some (vp_nar .boolean t0, z4)
def m_X11_run_B29  (r0 : Nat) (v1 : Int32) (t0 : Int32) (z : Hp) : Option (Int32 × Hp) :=
  gR 11 0 z r0 fun a5 =>
  gR 8 1 z a5 fun a6 =>
  gR 3 3 z a6 fun a7 =>
  aI 1 z a7 v1 fun x8 =>
  if x8 = t0 then (
    m_X11_run_B51 r0 v1 t0 0 z
  ) else
  m_X11_run_B51 r0 v1 t0 1 z
def m_X11_run (r0 : Nat) (v1 : Int32) (v2 : Int32) (z : Hp) : Option (Int32 × Hp) :=
  if v1 < 0 then (
    some (0, z)
  ) else
  gR 11 0 z r0 fun a9 =>
  gR 8 1 z a9 fun a10 =>
  gI 3 6 z a10 fun x11 =>
  if v1 < x11 then (
    if v2 = 0 then (
      m_X11_run_B29 r0 v1 0 z
    ) else
    m_X11_run_B29 r0 v1 1 z
  ) else
  some (0, z)
abbrev mi_X11_pipe : Mi := (RX11, cX11_pipe, 3, (Option.some Jvm.ClassFile.FieldType.int), "pipe", { frames := 1, cells := 0, slots := 0, locals := 22 })
def m_X11_pipe (r0 : Nat) (v1 : Int32) (v2 : Int32) (z : Hp) : Option (Int32 × Hp) :=
  gR 11 0 z r0 fun a1 =>
  gR 8 1 z a1 fun a2 =>
  isC 3 z a2 <| bnd (m_X3_tell a2 v1 v2 z) fun x4 z3 =>
  some (x4, z3)
abbrev mi_X11_cold : Mi := (RX11, cX11_cold, 3, (Option.some Jvm.ClassFile.FieldType.int), "cold", { frames := 0, cells := 0, slots := 0, locals := 0 })
def m_X11_cold (r0 : Nat) (v1 : Int32) (z : Hp) : Option (Int32 × Hp) :=
  if v1 < 0 then (
    some ((-2), z)
  ) else
  if 99999 < v1 then (
    some ((-2), z)
  ) else
  gR 11 0 z r0 fun a1 =>
  gI 8 12 z a1 fun x2 =>
  gR 11 0 z r0 fun a3 =>
  pI 8 12 z a3 v1 fun z4 =>
  some (x2, z4)
abbrev mi_X11_shut : Mi := (RX11, cX11_shut, 1, (Option.some Jvm.ClassFile.FieldType.int), "shut", { frames := 4, cells := 0, slots := 0, locals := 91 })
def m_X11_shut (r0 : Nat) (z : Hp) : Option (Int32 × Hp) :=
  gR 11 0 z r0 fun a1 =>
  gI 8 10 z a1 fun x2 =>
  if x2 = 0 then (
    some ((-6), z)
  ) else
  gR 11 6 z r0 fun a3 =>
  gR 11 0 z r0 fun a4 =>
  isC 10 z a3 <| bnd (m_X10_isShut a3 a4 z) fun x6 z5 =>
  if x6 = 0 then (
    some (0, z5)
  ) else
  some (1, z5)
abbrev mi_X11_way : Mi := (RX11, cX11_way, 1, (Option.some Jvm.ClassFile.FieldType.int), "way", { frames := 3, cells := 0, slots := 0, locals := 70 })
def m_X11_way (r0 : Nat) (z : Hp) : Option (Int32 × Hp) :=
  gR 11 0 z r0 fun a1 =>
  gI 8 10 z a1 fun x2 =>
  if x2 = 0 then (
    some ((-6), z)
  ) else
  gR 11 6 z r0 fun a3 =>
  gR 11 0 z r0 fun a4 =>
  isC 10 z a3 <| bnd (m_X10_shortestWay a3 a4 z) fun x6 z5 =>
  some (x6, z5)
abbrev mi_X11_gaps : Mi := (RX11, cX11_gaps, 1, (Option.some Jvm.ClassFile.FieldType.int), "gaps", { frames := 4, cells := 0, slots := 0, locals := 91 })
def m_X11_gaps (r0 : Nat) (z : Hp) : Option (Int32 × Hp) :=
  gR 11 0 z r0 fun a1 =>
  gI 8 10 z a1 fun x2 =>
  if x2 = 0 then (
    some ((-6), z)
  ) else
  gR 11 6 z r0 fun a3 =>
  gR 11 0 z r0 fun a4 =>
  isC 10 z a3 <| bnd (m_X10_fewestGaps a3 a4 z) fun x6 z5 =>
  pI 11 9 z5 r0 x6 fun z8 =>
  gR 11 6 z8 r0 fun a9 =>
  gR 11 8 z8 r0 fun a10 =>
  isC 10 z8 a9 <| bnd (m_X10_listGaps a9 a10 z8) fun _ z11 =>
  gI 11 9 z11 r0 fun x13 =>
  some (x13, z11)
abbrev mi_X11_gap : Mi := (RX11, cX11_gap, 2, (Option.some Jvm.ClassFile.FieldType.int), "gap", { frames := 0, cells := 0, slots := 0, locals := 0 })
def m_X11_gap (r0 : Nat) (v1 : Int32) (z : Hp) : Option (Int32 × Hp) :=
  if v1 < 0 then (
    some ((-1), z)
  ) else
  gI 11 9 z r0 fun x1 =>
  if v1 < x1 then (
    if v1 < 144 then (
      gR 11 8 z r0 fun a2 =>
      aI 1 z a2 v1 fun x3 =>
      some (x3, z)
    ) else
    some ((-1), z)
  ) else
  some ((-1), z)
abbrev mi_X11_thick : Mi := (RX11, cX11_thick, 1, (Option.some Jvm.ClassFile.FieldType.int), "thick", { frames := 3, cells := 0, slots := 0, locals := 69 })
def m_X11_thick (r0 : Nat) (z : Hp) : Option (Int32 × Hp) :=
  gR 11 0 z r0 fun a1 =>
  gI 8 10 z a1 fun x2 =>
  if x2 = 0 then (
    some ((-6), z)
  ) else
  gR 11 6 z r0 fun a3 =>
  gR 11 0 z r0 fun a4 =>
  isC 10 z a3 <| bnd (m_X10_thinnestFrost a3 a4 z) fun x6 z5 =>
  some (x6, z5)
abbrev mi_X11_measure : Mi := (RX11, cX11_measure, 3, (Option.some Jvm.ClassFile.FieldType.int), "measure", { frames := 4, cells := 0, slots := 0, locals := 91 })
def m_X11_measure_B15  (r0 : Nat) (v1 : Int32) (t0 : Int32) (z : Hp) : Option (Int32 × Hp) :=
  if v1 = 0 then (
    if t0 = 0 then (
      some (0, z)
    ) else
    gR 11 6 z r0 fun a1 =>
    gR 11 0 z r0 fun a2 =>
    isC 10 z a1 <| bnd (m_X10_isShut a1 a2 z) fun x4 z3 =>
    if x4 = 0 then (
      some (0, z3)
    ) else
    some (1, z3)
  ) else
  if v1 = 1 then (
    if t0 = 0 then (
      some (0, z)
    ) else
    gR 11 6 z r0 fun a7 =>
    gR 11 0 z r0 fun a8 =>
    isC 10 z a7 <| bnd (m_X10_thinnestFrost a7 a8 z) fun x10 z9 =>
    some (x10, z9)
  ) else
  if v1 = 2 then (
    if t0 = 0 then (
      some (0, z)
    ) else
    gR 11 6 z r0 fun a13 =>
    gR 11 0 z r0 fun a14 =>
    isC 10 z a13 <| bnd (m_X10_fewestGaps a13 a14 z) fun x16 z15 =>
    some (x16, z15)
  ) else
  if v1 = 3 then (
    gR 11 0 z r0 fun a19 =>
    gI 8 14 z a19 fun x20 =>
    some (x20, z)
  ) else
  gR 11 0 z r0 fun a22 =>
  isC 8 z a22 <| bnd (m_X8_greatestLift a22 z) fun x24 z23 =>
  some (x24, z23)
def m_X11_measure (r0 : Nat) (v1 : Int32) (z : Hp) : Option (Int32 × Hp) :=
  gR 11 0 z r0 fun a26 =>
  gI 8 10 z a26 fun x27 =>
  if 0 < x27 then (
    m_X11_measure_B15 r0 v1 1 z
  ) else
  m_X11_measure_B15 r0 v1 0 z
abbrev mi_X11_lackingConds : Mi := (RX11, cX11_lackingConds, 8, (Option.some Jvm.ClassFile.FieldType.int), "lackingConds", { frames := 5, cells := 0, slots := 0, locals := 113 })
def m_X11_lackingConds_B96 (k4 : Nat → Int32 → Int32 → Int32 → Hp → Option (Int32 × Hp)) (r0 : Nat) (v1 : Int32) (v2 : Int32) (v3 : Int32) (z : Hp) : Option (Int32 × Hp) :=
  k4 r0 v1 v2 (v3 + 1) z
def m_X11_lackingConds_B83 (k4 : Nat → Int32 → Int32 → Int32 → Hp → Option (Int32 × Hp)) (r0 : Nat) (v1 : Int32) (v2 : Int32) (v3 : Int32) (t0 : Int32) (z : Hp) : Option (Int32 × Hp) :=
  if t0 = 0 then (
    (m_X11_lackingConds_B96 k4) r0 v1 (v2 ||| ((1 : Int32) <<< (v3 &&& 31))) v3 z
  ) else
  (m_X11_lackingConds_B96 k4) r0 v1 v2 v3 z
def m_X11_lackingConds_L4  : Nat → Nat → Int32 → Int32 → Int32 → Hp → Option (Int32 × Hp)
  | 0, _, _, _, _, _ => none
  | f + 1, r0, v1, v2, v3, z =>
    gR 11 0 z r0 fun a1 =>
    gR 8 3 z a1 fun a2 =>
    gR 5 0 z a2 fun a3 =>
    aI 1 z a3 v1 fun x4 =>
    if v3 < x4 then (
      gR 11 0 z r0 fun a5 =>
      gR 8 3 z a5 fun a6 =>
      gR 5 1 z a6 fun a7 =>
      aI 1 z a7 ((3 * v1) + v3) fun x8 =>
      isC 11 z r0 <| bnd (m_X11_measure r0 x8 z) fun x10 z9 =>
      if x8 = 0 then (
        if x10 = 1 then (
          (m_X11_lackingConds_B83 (m_X11_lackingConds_L4  f)) r0 v1 v2 v3 1 z9
        ) else
        (m_X11_lackingConds_B83 (m_X11_lackingConds_L4  f)) r0 v1 v2 v3 0 z9
      ) else
      gR 11 0 z9 r0 fun a12 =>
      gR 8 3 z9 a12 fun a13 =>
      isC 5 z9 a13 <| bnd (m_X5_compares a13 ((3 * v1) + v3) x10 z9) fun x15 z14 =>
      (m_X11_lackingConds_B83 (m_X11_lackingConds_L4  f)) r0 v1 v2 v3 x15 z14
    ) else
    some (v2, z)
def m_X11_lackingConds (r0 : Nat) (v1 : Int32) (z : Hp) : Option (Int32 × Hp) :=
  (m_X11_lackingConds_L4 FU) r0 v1 0 0 z
abbrev mi_X11_dig : Mi := (RX11, cX11_dig, 6, (Option.some Jvm.ClassFile.FieldType.int), "dig", { frames := 6, cells := 0, slots := 0, locals := 140 })
def m_X11_dig_B110  (r0 : Nat) (v3 : Int32) (v4 : Int32) (z : Hp) : Option (Int32 × Hp) :=
  if v4 = 0 then (
    some ((-5), z)
  ) else
  gR 11 0 z r0 fun a1 =>
  gI 8 15 z a1 fun x2 =>
  if x2 = 0 then (
    gR 11 0 z r0 fun a3 =>
    isC 8 z a3 <| bnd (m_X8_digOut a3 v3 z) fun _ z4 =>
    gR 11 0 z4 r0 fun a6 =>
    gI 8 10 z4 a6 fun x7 =>
    gR 11 0 z4 r0 fun a8 =>
    gI 8 11 z4 a8 fun x9 =>
    some (x7 - x9, z4)
  ) else
  some ((-7), z)
def m_X11_dig_B102 (k68 : Nat → Int32 → Int32 → Int32 → Hp → Option (Int32 × Hp)) (r0 : Nat) (v3 : Int32) (v5 : Int32) (t0 : Int32) (z : Hp) : Option (Int32 × Hp) :=
  k68 r0 v3 t0 (v5 + 1) z
def m_X11_dig_L68 (k110 : Nat → Int32 → Int32 → Hp → Option (Int32 × Hp)) : Nat → Nat → Int32 → Int32 → Int32 → Hp → Option (Int32 × Hp)
  | 0, _, _, _, _, _ => none
  | f + 1, r0, v3, v4, v5, z =>
    gR 11 0 z r0 fun a10 =>
    gR 8 3 z a10 fun a11 =>
    gI 5 4 z a11 fun x12 =>
    if v5 < x12 then (
      if v4 = 0 then (
        isC 11 z r0 <| bnd (m_X11_lackingConds r0 v5 z) fun x14 z13 =>
        if x14 = 0 then (
          (m_X11_dig_B102 (m_X11_dig_L68 k110 f)) r0 v3 v5 1 z13
        ) else
        (m_X11_dig_B102 (m_X11_dig_L68 k110 f)) r0 v3 v5 0 z13
      ) else
      k110 r0 v3 v4 z
    ) else
    k110 r0 v3 v4 z
def m_X11_dig_B63  (r0 : Nat) (v3 : Int32) (t0 : Int32) (z : Hp) : Option (Int32 × Hp) :=
  (m_X11_dig_L68 m_X11_dig_B110 FU) r0 v3 t0 0 z
def m_X11_dig (r0 : Nat) (v1 : Int32) (v2 : Int32) (z : Hp) : Option (Int32 × Hp) :=
  bnd (m_X11_isCell v1 v2 z) fun x17 z16 =>
  if x17 = 0 then (
    some ((-2), z16)
  ) else
  gR 11 0 z16 r0 fun a18 =>
  gR 8 8 z16 a18 fun a19 =>
  aI 1 z16 a19 ((12 * v2) + v1) fun x20 =>
  if x20 = 0 then (
    some ((-2), z16)
  ) else
  gR 11 0 z16 r0 fun a21 =>
  gR 8 7 z16 a21 fun a22 =>
  aI 1 z16 a22 ((12 * v2) + v1) fun x23 =>
  if x23 = 0 then (
    gR 11 0 z16 r0 fun a24 =>
    gR 8 3 z16 a24 fun a25 =>
    gI 5 4 z16 a25 fun x26 =>
    if x26 = 0 then (
      m_X11_dig_B63 r0 ((12 * v2) + v1) 1 z16
    ) else
    m_X11_dig_B63 r0 ((12 * v2) + v1) 0 z16
  ) else
  some ((-2), z16)
abbrev mi_X11_lacks : Mi := (RX11, cX11_lacks, 2, (Option.some Jvm.ClassFile.FieldType.int), "lacks", { frames := 6, cells := 0, slots := 0, locals := 140 })
def m_X11_lacks (r0 : Nat) (v1 : Int32) (z : Hp) : Option (Int32 × Hp) :=
  if v1 < 0 then (
    some ((-1), z)
  ) else
  gR 11 0 z r0 fun a1 =>
  gR 8 3 z a1 fun a2 =>
  gI 5 4 z a2 fun x3 =>
  if v1 < x3 then (
    isC 11 z r0 <| bnd (m_X11_lackingConds r0 v1 z) fun x5 z4 =>
    some (x5, z4)
  ) else
  some ((-1), z)
abbrev mi_X11_pump : Mi := (RX11, cX11_pump, 1, (Option.some Jvm.ClassFile.FieldType.int), "pump", { frames := 4, cells := 0, slots := 0, locals := 91 })
def m_X11_pump (r0 : Nat) (z : Hp) : Option (Int32 × Hp) :=
  gR 11 0 z r0 fun a1 =>
  gI 8 10 z a1 fun x2 =>
  if x2 = 0 then (
    some ((-6), z)
  ) else
  gR 11 0 z r0 fun a3 =>
  gI 8 15 z a3 fun x4 =>
  if x4 = 0 then (
    some ((-5), z)
  ) else
  gR 11 6 z r0 fun a5 =>
  gR 11 0 z r0 fun a6 =>
  isC 10 z a5 <| bnd (m_X10_isShut a5 a6 z) fun x8 z7 =>
  if x8 = 0 then (
    some ((-8), z7)
  ) else
  gR 11 0 z7 r0 fun a10 =>
  pI 8 15 z7 a10 0 fun z11 =>
  some (0, z11)
abbrev mi_X11_lift : Mi := (RX11, cX11_lift, 2, (Option.some Jvm.ClassFile.FieldType.int), "lift", { frames := 1, cells := 0, slots := 0, locals := 23 })
def m_X11_lift (r0 : Nat) (v1 : Int32) (z : Hp) : Option (Int32 × Hp) :=
  if v1 < 0 then (
    some ((-2000000000), z)
  ) else
  if v1 < 12 then (
    gR 11 0 z r0 fun a1 =>
    isC 8 z a1 <| bnd (m_X8_liftOfColumn a1 v1 z) fun x3 z2 =>
    some (x3, z2)
  ) else
  some ((-2000000000), z)
abbrev mi_X11_cracks : Mi := (RX11, cX11_cracks, 1, (Option.some Jvm.ClassFile.FieldType.int), "cracks", { frames := 1, cells := 0, slots := 0, locals := 22 })
def m_X11_cracks (r0 : Nat) (z : Hp) : Option (Int32 × Hp) :=
  gR 11 0 z r0 fun a1 =>
  gR 8 2 z a1 fun a2 =>
  isC 1 z a2 <| bnd (m_X1_crackedBits a2 z) fun x4 z3 =>
  some (x4, z3)
abbrev mi_X11_house : Mi := (RX11, cX11_house, 3, (Option.some Jvm.ClassFile.FieldType.int), "house", { frames := 1, cells := 0, slots := 0, locals := 22 })
def m_X11_house (r0 : Nat) (v1 : Int32) (v2 : Int32) (z : Hp) : Option (Int32 × Hp) :=
  gR 11 0 z r0 fun a1 =>
  gR 8 2 z a1 fun a2 =>
  isC 1 z a2 <| bnd (m_X1_tell a2 v1 v2 z) fun x4 z3 =>
  some (x4, z3)
abbrev mi_X11_firstTickWith : Mi := (RX11, cX11_firstTickWith, 4, (Option.some Jvm.ClassFile.FieldType.int), "firstTickWith", { frames := 4, cells := 0, slots := 0, locals := 91 })
def m_X11_firstTickWith_B45 (k2 : Nat → Int32 → Int32 → Int32 → Hp → Option (Int32 × Hp)) (r0 : Nat) (v1 : Int32) (v2 : Int32) (v3 : Int32) (z : Hp) : Option (Int32 × Hp) :=
  k2 r0 v1 v2 (v3 + 1) z
def m_X11_firstTickWith_B23 (k2 : Nat → Int32 → Int32 → Int32 → Hp → Option (Int32 × Hp)) (r0 : Nat) (v1 : Int32) (v2 : Int32) (v3 : Int32) (z : Hp) : Option (Int32 × Hp) :=
  if v3 < v2 then (
    (m_X11_firstTickWith_B45 k2) r0 v1 v2 v3 z
  ) else
  gR 11 6 z r0 fun a1 =>
  gR 11 1 z r0 fun a2 =>
  isC 10 z a1 <| bnd (m_X10_isShut a1 a2 z) fun x4 z3 =>
  if x4 = v1 then (
    some (v3, z3)
  ) else
  (m_X11_firstTickWith_B45 k2) r0 v1 v2 v3 z3
def m_X11_firstTickWith_L2  : Nat → Nat → Int32 → Int32 → Int32 → Hp → Option (Int32 × Hp)
  | 0, _, _, _, _, _ => none
  | f + 1, r0, v1, v2, v3, z =>
    if 60 < v3 then (
      some ((-1), z)
    ) else
    if 0 < v3 then (
      gR 11 5 z r0 fun a6 =>
      gR 11 1 z r0 fun a7 =>
      isC 9 z a6 <| bnd (m_X9_pass a6 a7 z) fun _ z8 =>
      (m_X11_firstTickWith_B23 (m_X11_firstTickWith_L2  f)) r0 v1 v2 v3 z8
    ) else
    (m_X11_firstTickWith_B23 (m_X11_firstTickWith_L2  f)) r0 v1 v2 v3 z
def m_X11_firstTickWith (r0 : Nat) (v1 : Int32) (v2 : Int32) (z : Hp) : Option (Int32 × Hp) :=
  (m_X11_firstTickWith_L2 FU) r0 v1 v2 0 z
abbrev mi_X11_foretell : Mi := (RX11, cX11_foretell, 1, (Option.some Jvm.ClassFile.FieldType.int), "foretell", { frames := 5, cells := 0, slots := 0, locals := 114 })
def m_X11_foretell (r0 : Nat) (z : Hp) : Option (Int32 × Hp) :=
  gR 11 0 z r0 fun a1 =>
  gI 8 10 z a1 fun x2 =>
  if x2 = 0 then (
    some ((-6), z)
  ) else
  gR 11 1 z r0 fun a3 =>
  gR 11 0 z r0 fun a4 =>
  isC 8 z a3 <| bnd (m_X8_copyFrom a3 a4 z) fun _ z5 =>
  isC 11 z5 r0 <| bnd (m_X11_firstTickWith r0 1 0 z5) fun x8 z7 =>
  some (x8, z7)
abbrev mi_X11_off : Mi := (RX11, cX11_off, 1, (Option.some Jvm.ClassFile.FieldType.int), "off", { frames := 5, cells := 0, slots := 0, locals := 114 })
def m_X11_off (r0 : Nat) (z : Hp) : Option (Int32 × Hp) :=
  gR 11 0 z r0 fun a1 =>
  gI 8 10 z a1 fun x2 =>
  if x2 = 0 then (
    some ((-6), z)
  ) else
  gR 11 6 z r0 fun a3 =>
  gR 11 0 z r0 fun a4 =>
  isC 10 z a3 <| bnd (m_X10_isShut a3 a4 z) fun x6 z5 =>
  if x6 = 0 then (
    some ((-5), z5)
  ) else
  gR 11 1 z5 r0 fun a8 =>
  gR 11 0 z5 r0 fun a9 =>
  isC 8 z5 a8 <| bnd (m_X8_copyFrom a8 a9 z5) fun _ z10 =>
  gR 11 1 z10 r0 fun a12 =>
  gR 8 1 z10 a12 fun a13 =>
  isC 3 z10 a13 <| bnd (m_X3_stopAll a13 z10) fun _ z14 =>
  isC 11 z14 r0 <| bnd (m_X11_firstTickWith r0 0 1 z14) fun x17 z16 =>
  some (x17, z16)
abbrev mi_X11_standForMore : Mi := (RX11, cX11_standForMore, 8, (Option.some Jvm.ClassFile.FieldType.boolean), "standForMore", { frames := 1, cells := 0, slots := 0, locals := 22 })
def m_X11_standForMore_B118 (k11 : Nat → Int32 → Int32 → Int32 → Hp → Option (Int32 × Hp)) (r0 : Nat) (v1 : Int32) (v2 : Int32) (v3 : Int32) (z : Hp) : Option (Int32 × Hp) :=
  k11 r0 v1 v2 (v3 + 1) z
def m_X11_standForMore_L86 (k118 : Nat → Int32 → Int32 → Int32 → Hp → Option (Int32 × Hp)) : Nat → Nat → Int32 → Int32 → Int32 → Int64 → Int32 → Hp → Option (Int32 × Hp)
  | 0, _, _, _, _, _, _, _ => none
  | f + 1, r0, v1, v2, v3, w4, v7, z =>
    if v7 < v3 then (
      gR 11 7 z r0 fun a1 =>
      gR 6 0 z a1 fun a2 =>
      aR 6 z a2 v1 fun a3 =>
      aL z a3 v7 fun x4 =>
      if (lg_cmp x4 w4) = 0 then (
        some (0, z)
      ) else
      (m_X11_standForMore_L86 k118 f) r0 v1 v2 v3 w4 (v7 + 1) z
    ) else
    k118 r0 v1 v2 v3 z
def m_X11_standForMore_L11  : Nat → Nat → Int32 → Int32 → Int32 → Hp → Option (Int32 × Hp)
  | 0, _, _, _, _, _ => none
  | f + 1, r0, v1, v2, v3, z =>
    if v3 < v2 then (
      gR 11 7 z r0 fun a5 =>
      gR 6 0 z a5 fun a6 =>
      aR 6 z a6 v1 fun a7 =>
      aL z a7 v3 fun x8 =>
      if (lg_cmp x8 0) < 0 then (
        some (0, z)
      ) else
      if (lg_cmp x8 144) < 0 then (
        gR 11 0 z r0 fun a9 =>
        gR 8 7 z a9 fun a10 =>
        aI 1 z a10 (Int64.toInt32 x8) fun x11 =>
        if x11 = 0 then (
          gR 11 0 z r0 fun a12 =>
          gR 8 1 z a12 fun a13 =>
          isC 3 z a13 <| bnd (m_X3_standingIn a13 (Int64.toInt32 x8) z) fun x15 z14 =>
          if x15 = (-1) then (
            (m_X11_standForMore_L86 (m_X11_standForMore_B118 (m_X11_standForMore_L11  f)) FU) r0 v1 v2 v3 x8 0 z14
          ) else
          some (0, z14)
        ) else
        some (0, z)
      ) else
      some (0, z)
    ) else
    some (1, z)
def m_X11_standForMore (r0 : Nat) (v1 : Int32) (z : Hp) : Option (Int32 × Hp) :=
  gR 11 7 z r0 fun a17 =>
  isC 6 z a17 <| bnd (m_X6_lengthOf a17 v1 z) fun x19 z18 =>
  (m_X11_standForMore_L11 FU) r0 v1 x19 0 z18
abbrev mi_X11_shutsWith : Mi := (RX11, cX11_shutsWith, 6, (Option.some Jvm.ClassFile.FieldType.boolean), "shutsWith", { frames := 4, cells := 0, slots := 0, locals := 91 })
def m_X11_shutsWith_B124  (r0 : Nat) (z : Hp) : Option (Int32 × Hp) :=
  gR 11 6 z r0 fun a1 =>
  gR 11 1 z r0 fun a2 =>
  isC 10 z a1 <| bnd (m_X10_isShut a1 a2 z) fun x4 z3 =>
  some (vp_nar .boolean x4, z3)
def m_X11_shutsWith_L101 (k124 : Nat → Hp → Option (Int32 × Hp)) : Nat → Nat → Int32 → Int32 → Hp → Option (Int32 × Hp)
  | 0, _, _, _, _ => none
  | f + 1, r0, v3, v5, z =>
    if v5 < v3 then (
      gR 11 5 z r0 fun a6 =>
      gR 11 1 z r0 fun a7 =>
      isC 9 z a6 <| bnd (m_X9_pass a6 a7 z) fun _ z8 =>
      (m_X11_shutsWith_L101 k124 f) r0 v3 (v5 + 1) z8
    ) else
    k124 r0 z
def m_X11_shutsWith_B98  (r0 : Nat) (v3 : Int32) (z : Hp) : Option (Int32 × Hp) :=
  (m_X11_shutsWith_L101 m_X11_shutsWith_B124 FU) r0 v3 0 z
def m_X11_shutsWith_B92 (k24 : Nat → Int32 → Int32 → Int32 → Int32 → Int32 → Hp → Option (Int32 × Hp)) (r0 : Nat) (v1 : Int32) (v2 : Int32) (v3 : Int32) (v4 : Int32) (v5 : Int32) (z : Hp) : Option (Int32 × Hp) :=
  k24 r0 v1 v2 v3 v4 (v5 + 1) z
def m_X11_shutsWith_L24 (k98 : Nat → Int32 → Hp → Option (Int32 × Hp)) : Nat → Nat → Int32 → Int32 → Int32 → Int32 → Int32 → Hp → Option (Int32 × Hp)
  | 0, _, _, _, _, _, _, _ => none
  | f + 1, r0, v1, v2, v3, v4, v5, z =>
    if v5 < v4 then (
      if ((v2 >>> (((v4 - 1) - v5) &&& 31)) &&& 1) = 0 then (
        (m_X11_shutsWith_B92 (m_X11_shutsWith_L24 k98 f)) r0 v1 v2 v3 v4 v5 z
      ) else
      gR 11 1 z r0 fun a10 =>
      gR 8 1 z a10 fun a11 =>
      gR 11 7 z r0 fun a12 =>
      gR 6 0 z a12 fun a13 =>
      aR 6 z a13 v1 fun a14 =>
      aL z a14 v5 fun x15 =>
      gR 11 1 z r0 fun a16 =>
      gR 8 1 z a16 fun a17 =>
      gR 3 1 z a17 fun a18 =>
      aI 1 z a18 0 fun x19 =>
      gR 11 1 z r0 fun a20 =>
      gR 8 1 z a20 fun a21 =>
      gR 3 2 z a21 fun a22 =>
      aI 1 z a22 0 fun x23 =>
      isC 3 z a11 <| bnd (m_X3_add a11 (Int64.toInt32 x15) x19 x23 z) fun _ z24 =>
      (m_X11_shutsWith_B92 (m_X11_shutsWith_L24 k98 f)) r0 v1 v2 v3 v4 v5 z24
    ) else
    k98 r0 v3 z
def m_X11_shutsWith (r0 : Nat) (v1 : Int32) (v2 : Int32) (v3 : Int32) (z : Hp) : Option (Int32 × Hp) :=
  gR 11 1 z r0 fun a26 =>
  gR 11 0 z r0 fun a27 =>
  isC 8 z a26 <| bnd (m_X8_copyFrom a26 a27 z) fun _ z28 =>
  gR 11 7 z28 r0 fun a30 =>
  isC 6 z28 a30 <| bnd (m_X6_lengthOf a30 v1 z28) fun x32 z31 =>
  (m_X11_shutsWith_L24 m_X11_shutsWith_B98 FU) r0 v1 v2 v3 x32 0 z31
abbrev mi_X11_turned : Mi := (RX11, cX11_turned, 4, (Option.some Jvm.ClassFile.FieldType.int), "turned", { frames := 0, cells := 0, slots := 0, locals := 0 })
def m_X11_turned_L4  : Nat → Int32 → Int32 → Int32 → Int32 → Hp → Option (Int32 × Hp)
  | 0, _, _, _, _, _ => none
  | f + 1, v0, v1, v2, v3, z =>
    if v3 < v1 then (
      (m_X11_turned_L4  f) v0 v1 (v2 ||| (((v0 >>> (((v1 - 1) - v3) &&& 31)) &&& 1) <<< (v3 &&& 31))) (v3 + 1) z
    ) else
    some (v2, z)
def m_X11_turned (v0 : Int32) (v1 : Int32) (z : Hp) : Option (Int32 × Hp) :=
  (m_X11_turned_L4 FU) v0 v1 0 0 z
abbrev mi_X11_fewestMore : Mi := (RX11, cX11_fewestMore, 6, (Option.some Jvm.ClassFile.FieldType.int), "fewestMore", { frames := 5, cells := 0, slots := 0, locals := 116 })
def m_X11_fewestMore_B51  (r0 : Nat) (v3 : Int32) (v4 : Int32) (v5 : Int32) (z : Hp) : Option (Int32 × Hp) :=
  bnd (m_X11_turned v5 v3 z) fun x2 z1 =>
  pI 11 10 z1 r0 x2 fun z3 =>
  some (v4, z3)
def m_X11_fewestMore_B70 (k12 : Nat → Int32 → Int32 → Int32 → Int32 → Hp → Option (Int32 × Hp)) (r0 : Nat) (v1 : Int32) (v2 : Int32) (v3 : Int32) (v4 : Int32) (z : Hp) : Option (Int32 × Hp) :=
  k12 r0 v1 v2 v3 (v4 + 1) z
def m_X11_fewestMore_B64 (k25 : Nat → Int32 → Int32 → Int32 → Int32 → Int32 → Hp → Option (Int32 × Hp)) (r0 : Nat) (v1 : Int32) (v2 : Int32) (v3 : Int32) (v4 : Int32) (v5 : Int32) (z : Hp) : Option (Int32 × Hp) :=
  k25 r0 v1 v2 v3 v4 (v5 + (-1)) z
def m_X11_fewestMore_L25 (k51 : Nat → Int32 → Int32 → Int32 → Hp → Option (Int32 × Hp)) (k70 : Nat → Int32 → Int32 → Int32 → Int32 → Hp → Option (Int32 × Hp)) : Nat → Nat → Int32 → Int32 → Int32 → Int32 → Int32 → Hp → Option (Int32 × Hp)
  | 0, _, _, _, _, _, _, _ => none
  | f + 1, r0, v1, v2, v3, v4, v5, z =>
    if v5 < 0 then (
      k70 r0 v1 v2 v3 v4 z
    ) else
    bnd (m_J6_bitCount_0f7a4 v5 z) fun x5 z4 =>
    if x5 = v4 then (
      isC 11 z4 r0 <| bnd (m_X11_shutsWith r0 v1 v5 v2 z4) fun x7 z6 =>
      if x7 = 0 then (
        (m_X11_fewestMore_B64 (m_X11_fewestMore_L25 k51 k70 f)) r0 v1 v2 v3 v4 v5 z6
      ) else
      k51 r0 v3 v4 v5 z6
    ) else
    (m_X11_fewestMore_B64 (m_X11_fewestMore_L25 k51 k70 f)) r0 v1 v2 v3 v4 v5 z4
def m_X11_fewestMore_L12 (k51 : Nat → Int32 → Int32 → Int32 → Hp → Option (Int32 × Hp)) : Nat → Nat → Int32 → Int32 → Int32 → Int32 → Hp → Option (Int32 × Hp)
  | 0, _, _, _, _, _, _ => none
  | f + 1, r0, v1, v2, v3, v4, z =>
    if v3 < v4 then (
      some ((-1), z)
    ) else
    (m_X11_fewestMore_L25 k51 (m_X11_fewestMore_B70 (m_X11_fewestMore_L12 k51 f)) FU) r0 v1 v2 v3 v4 (((1 : Int32) <<< (v3 &&& 31)) - 1) z
def m_X11_fewestMore (r0 : Nat) (v1 : Int32) (v2 : Int32) (z : Hp) : Option (Int32 × Hp) :=
  gR 11 7 z r0 fun a9 =>
  isC 6 z a9 <| bnd (m_X6_lengthOf a9 v1 z) fun x11 z10 =>
  (m_X11_fewestMore_L12 m_X11_fewestMore_B51 FU) r0 v1 v2 x11 0 z10
abbrev mi_X11_more : Mi := (RX11, cX11_more, 4, (Option.some Jvm.ClassFile.FieldType.int), "more", { frames := 6, cells := 0, slots := 0, locals := 141 })
def m_X11_more_B14  (r0 : Nat) (v1 : Int32) (v2 : Int32) (t0 : Int32) (z : Hp) : Option (Int32 × Hp) :=
  if t0 = 0 then (
    some ((-2), z)
  ) else
  if v2 < 1 then (
    some ((-2), z)
  ) else
  if 30 < v2 then (
    some ((-2), z)
  ) else
  gR 11 7 z r0 fun a1 =>
  isC 6 z a1 <| bnd (m_X6_lengthOf a1 v1 z) fun x3 z2 =>
  if 6 < x3 then (
    some ((-2), z2)
  ) else
  gR 11 7 z2 r0 fun a5 =>
  isC 6 z2 a5 <| bnd (m_X6_hasRow a5 v1 z2) fun x7 z6 =>
  if x7 = 0 then (
    some ((-6), z6)
  ) else
  gR 11 0 z6 r0 fun a9 =>
  gI 8 10 z6 a9 fun x10 =>
  if x10 = 0 then (
    some ((-6), z6)
  ) else
  gR 11 0 z6 r0 fun a11 =>
  gR 8 1 z6 a11 fun a12 =>
  gI 3 6 z6 a12 fun x13 =>
  if x13 = 0 then (
    some ((-6), z6)
  ) else
  isC 11 z6 r0 <| bnd (m_X11_standForMore r0 v1 z6) fun x15 z14 =>
  if x15 = 0 then (
    some ((-7), z14)
  ) else
  isC 11 z14 r0 <| bnd (m_X11_fewestMore r0 v1 v2 z14) fun x18 z17 =>
  some (x18, z17)
def m_X11_more_B13  (r0 : Nat) (v1 : Int32) (v2 : Int32) (z : Hp) : Option (Int32 × Hp) :=
  m_X11_more_B14 r0 v1 v2 0 z
def m_X11_more (r0 : Nat) (v1 : Int32) (v2 : Int32) (z : Hp) : Option (Int32 × Hp) :=
  if v1 < 0 then (
    m_X11_more_B13 r0 v1 v2 z
  ) else
  if v1 < 4 then (
    m_X11_more_B14 r0 v1 v2 1 z
  ) else
  m_X11_more_B13 r0 v1 v2 z
abbrev mi_X11_chosen : Mi := (RX11, cX11_chosen, 1, (Option.some Jvm.ClassFile.FieldType.int), "chosen", { frames := 0, cells := 0, slots := 0, locals := 0 })
def m_X11_chosen (r0 : Nat) (z : Hp) : Option (Int32 × Hp) :=
  gI 11 10 z r0 fun x1 =>
  some (x1, z)
abbrev mi_X11_gauge : Mi := (RX11, cX11_gauge, 6, (Option.some Jvm.ClassFile.FieldType.int), "gauge", { frames := 1, cells := 0, slots := 0, locals := 21 })
def m_X11_gauge_B23  (r0 : Nat) (v1 : Int32) (v2 : Int32) (v3 : Int32) (v4 : Int32) (t0 : Int32) (z : Hp) : Option (Int32 × Hp) :=
  if t0 = 0 then (
    some ((-2), z)
  ) else
  if v4 < (-500) then (
    some ((-2), z)
  ) else
  if 500 < v4 then (
    some ((-2), z)
  ) else
  gR 11 0 z r0 fun a1 =>
  gR 8 4 z a1 fun a2 =>
  gR 0 0 z a2 fun a3 =>
  sI 1 z a3 v1 ((12 * v3) + v2) fun z4 =>
  gR 11 0 z4 r0 fun a5 =>
  gR 8 4 z4 a5 fun a6 =>
  gR 0 1 z4 a6 fun a7 =>
  sI 1 z4 a7 v1 v4 fun z8 =>
  some (0, z8)
def m_X11_gauge_B22  (r0 : Nat) (v1 : Int32) (v2 : Int32) (v3 : Int32) (v4 : Int32) (z : Hp) : Option (Int32 × Hp) :=
  m_X11_gauge_B23 r0 v1 v2 v3 v4 0 z
def m_X11_gauge (r0 : Nat) (v1 : Int32) (v2 : Int32) (v3 : Int32) (v4 : Int32) (z : Hp) : Option (Int32 × Hp) :=
  if v1 < 0 then (
    m_X11_gauge_B22 r0 v1 v2 v3 v4 z
  ) else
  if v1 < 10 then (
    bnd (m_X11_isCell v2 v3 z) fun x10 z9 =>
    if x10 = 0 then (
      m_X11_gauge_B22 r0 v1 v2 v3 v4 z9
    ) else
    m_X11_gauge_B23 r0 v1 v2 v3 v4 1 z9
  ) else
  m_X11_gauge_B22 r0 v1 v2 v3 v4 z
abbrev mi_X11_lies : Mi := (RX11, cX11_lies, 2, (Option.some Jvm.ClassFile.FieldType.int), "lies", { frames := 2, cells := 0, slots := 0, locals := 44 })
def m_X11_lies_B10   (z : Hp) : Option (Int32 × Hp) :=
  some ((-2), z)
def m_X11_lies (r0 : Nat) (v1 : Int32) (z : Hp) : Option (Int32 × Hp) :=
  if v1 < 0 then (
    m_X11_lies_B10 z
  ) else
  if 99 < v1 then (
    m_X11_lies_B10 z
  ) else
  gR 11 0 z r0 fun a1 =>
  isC 8 z a1 <| bnd (m_X8_beliedGauges a1 v1 z) fun x3 z2 =>
  some (x3, z2)
abbrev mi_X11_most : Mi := (RX11, cX11_most, 2, (Option.some Jvm.ClassFile.FieldType.int), "most", { frames := 1, cells := 0, slots := 0, locals := 23 })
def m_X11_most_B24  (t0 : Int32) (b1 : Nat) (z : Hp) : Option (Int32 × Hp) :=
  isC 8 z b1 <| bnd (m_X8_outermost b1 t0 z) fun x2 z1 =>
  some (x2, z1)
def m_X11_most_B11  (r0 : Nat) (v1 : Int32) (z : Hp) : Option (Int32 × Hp) :=
  gR 11 0 z r0 fun a4 =>
  if v1 = 0 then (
    m_X11_most_B24 (-1) a4 z
  ) else
  m_X11_most_B24 1 a4 z
def m_X11_most (r0 : Nat) (v1 : Int32) (z : Hp) : Option (Int32 × Hp) :=
  if v1 = 0 then (
    m_X11_most_B11 r0 v1 z
  ) else
  if v1 = 1 then (
    m_X11_most_B11 r0 v1 z
  ) else
  some ((-1), z)
abbrev mi_X11_frost : Mi := (RX11, cX11_frost, 2, (Option.some Jvm.ClassFile.FieldType.int), "frost", { frames := 2, cells := 0, slots := 0, locals := 44 })
def m_X11_frost (r0 : Nat) (v1 : Int32) (z : Hp) : Option (Int32 × Hp) :=
  if v1 < 0 then (
    some ((-1), z)
  ) else
  if v1 < 12 then (
    gR 11 0 z r0 fun a1 =>
    isC 8 z a1 <| bnd (m_X8_frozenBits a1 v1 z) fun x3 z2 =>
    some (x3, z2)
  ) else
  some ((-1), z)
abbrev mi_X11_count : Mi := (RX11, cX11_count, 2, (Option.some Jvm.ClassFile.FieldType.int), "count", { frames := 3, cells := 0, slots := 0, locals := 66 })
def m_X11_count (r0 : Nat) (v1 : Int32) (z : Hp) : Option (Int32 × Hp) :=
  if v1 = 0 then (
    gR 11 0 z r0 fun a1 =>
    gI 8 13 z a1 fun x2 =>
    some (x2, z)
  ) else
  if v1 = 1 then (
    gR 11 0 z r0 fun a4 =>
    gI 8 14 z a4 fun x5 =>
    some (x5, z)
  ) else
  if v1 = 2 then (
    gR 11 0 z r0 fun a7 =>
    gR 8 1 z a7 fun a8 =>
    gI 3 6 z a8 fun x9 =>
    some (x9, z)
  ) else
  if v1 = 3 then (
    gR 11 0 z r0 fun a11 =>
    isC 8 z a11 <| bnd (m_X8_frozenCells a11 z) fun x13 z12 =>
    some (x13, z12)
  ) else
  if v1 = 4 then (
    gR 11 0 z r0 fun a16 =>
    gI 8 11 z a16 fun x17 =>
    some (x17, z)
  ) else
  if v1 = 5 then (
    gR 11 0 z r0 fun a19 =>
    gR 8 3 z a19 fun a20 =>
    gI 5 4 z a20 fun x21 =>
    some (x21, z)
  ) else
  if v1 = 6 then (
    gR 11 3 z r0 fun a23 =>
    gI 4 1 z a23 fun x24 =>
    some (x24, z)
  ) else
  if v1 = 7 then (
    gR 11 0 z r0 fun a26 =>
    gR 8 2 z a26 fun a27 =>
    gI 1 3 z a27 fun x28 =>
    some (x28, z)
  ) else
  if v1 = 8 then (
    gR 11 0 z r0 fun a30 =>
    gI 8 15 z a30 fun x31 =>
    some (x31, z)
  ) else
  if v1 = 9 then (
    gR 11 0 z r0 fun a33 =>
    gI 8 12 z a33 fun x34 =>
    some (x34, z)
  ) else
  if v1 = 10 then (
    gR 11 7 z r0 fun a36 =>
    isC 6 z a36 <| bnd (m_X6_rows a36 z) fun x38 z37 =>
    some (x38, z37)
  ) else
  if v1 = 11 then (
    gR 11 0 z r0 fun a41 =>
    gR 8 0 z a41 fun a42 =>
    gI 7 6 z a42 fun x43 =>
    some (x43, z)
  ) else
  if v1 = 12 then (
    gR 11 0 z r0 fun a45 =>
    gI 8 16 z a45 fun x46 =>
    some (x46, z)
  ) else
  some ((-1), z)
abbrev mi_X11_keep : Mi := (RX11, cX11_keep, 2, (Option.some Jvm.ClassFile.FieldType.int), "keep", { frames := 3, cells := 32, slots := 982, locals := 60 })
def m_X11_keep_B34  (r0 : Nat) (v1 : Int32) (z : Hp) : Option (Int32 × Hp) :=
  gR 11 2 z r0 fun a1 =>
  aR 5 z a1 v1 fun a2 =>
  gR 11 0 z r0 fun a3 =>
  isC 8 z a2 <| bnd (m_X8_copyFrom a2 a3 z) fun _ z4 =>
  some (0, z4)
def m_X11_keep (r0 : Nat) (v1 : Int32) (z : Hp) : Option (Int32 × Hp) :=
  if v1 < 0 then (
    some ((-2), z)
  ) else
  if v1 < 3 then (
    gR 11 2 z r0 fun a6 =>
    aO 5 z a6 v1 fun o7 =>
    onul o7 (
      gR 11 2 z r0 fun a9 =>
      nwC (8 + 7) 0 z fun a10 z11 =>
      bnd (m_X8_init a10 z11) fun _ z12 =>
      sR z12 a9 v1 a10 fun z13 =>
      m_X11_keep_B34 r0 v1 z13
    ) fun _ =>
    m_X11_keep_B34 r0 v1 z
  ) else
  some ((-2), z)
abbrev mi_X11_back : Mi := (RX11, cX11_back, 2, (Option.some Jvm.ClassFile.FieldType.int), "back", { frames := 3, cells := 0, slots := 0, locals := 60 })
def m_X11_back (r0 : Nat) (v1 : Int32) (z : Hp) : Option (Int32 × Hp) :=
  if v1 < 0 then (
    some ((-2), z)
  ) else
  if v1 < 3 then (
    gR 11 2 z r0 fun a1 =>
    aO 5 z a1 v1 fun o2 =>
    onul o2 (
      some ((-6), z)
    ) fun _ =>
    gR 11 0 z r0 fun a4 =>
    gR 11 2 z r0 fun a5 =>
    aR 5 z a5 v1 fun a6 =>
    isC 8 z a4 <| bnd (m_X8_copyFrom a4 a6 z) fun _ z7 =>
    some (0, z7)
  ) else
  some ((-2), z)
abbrev mi_X11_row : Mi := (RX11, cX11_row, 4, (Option.some Jvm.ClassFile.FieldType.int), "row", { frames := 2, cells := 0, slots := 0, locals := 47 })
def m_X11_row (r0 : Nat) (v1 : Int32) (v2 : Int32) (v3 : Int32) (z : Hp) : Option (Int32 × Hp) :=
  if v1 < 0 then (
    some ((-2), z)
  ) else
  if v1 < 4 then (
    if v2 < 0 then (
      some ((-2), z)
    ) else
    if v2 < 4 then (
      if 60 < v3 then (
        some ((-2), z)
      ) else
      if v3 < 0 then (
        some ((-3), z)
      ) else
      gR 11 7 z r0 fun a1 =>
      isC 6 z a1 <| bnd (m_X6_lay a1 v1 v2 v3 z) fun _ z2 =>
      some (0, z2)
    ) else
    some ((-2), z)
  ) else
  some ((-2), z)
abbrev mi_X11_write : Mi := (RX11, cX11_write, 5, (Option.some Jvm.ClassFile.FieldType.int), "write", { frames := 2, cells := 0, slots := 0, locals := 46 })
def m_X11_write (r0 : Nat) (v1 : Int32) (v2 : Int32) (w3 : Int64) (z : Hp) : Option (Int32 × Hp) :=
  if v1 < 0 then (
    some ((-2), z)
  ) else
  if v1 < 4 then (
    gR 11 7 z r0 fun a1 =>
    isC 6 z a1 <| bnd (m_X6_hasRow a1 v1 z) fun x3 z2 =>
    if x3 = 0 then (
      some ((-6), z2)
    ) else
    if v2 < 0 then (
      some ((-7), z2)
    ) else
    gR 11 7 z2 r0 fun a5 =>
    isC 6 z2 a5 <| bnd (m_X6_lengthOf a5 v1 z2) fun x7 z6 =>
    if v2 < x7 then (
      gR 11 7 z6 r0 fun a9 =>
      isC 6 z6 a9 <| bnd (m_X6_put a9 v1 v2 w3 z6) fun _ z10 =>
      some (0, z10)
    ) else
    some ((-7), z6)
  ) else
  some ((-2), z)
abbrev mi_X11_paste : Mi := (RX11, cX11_paste, 6, (Option.some Jvm.ClassFile.FieldType.int), "paste", { frames := 1, cells := 0, slots := 0, locals := 23 })
def m_X11_paste (r0 : Nat) (v1 : Int32) (v2 : Int32) (v3 : Int32) (v4 : Int32) (v5 : Int32) (z : Hp) : Option (Int32 × Hp) :=
  if v1 < 0 then (
    some ((-2), z)
  ) else
  if v1 < 4 then (
    if v3 < 0 then (
      some ((-2), z)
    ) else
    if v3 < 4 then (
      gR 11 7 z r0 fun a1 =>
      isC 6 z a1 <| bnd (m_X6_hasRow a1 v1 z) fun x3 z2 =>
      if x3 = 0 then (
        some ((-6), z2)
      ) else
      gR 11 7 z2 r0 fun a5 =>
      isC 6 z2 a5 <| bnd (m_X6_hasRow a5 v3 z2) fun x7 z6 =>
      if x7 = 0 then (
        some ((-6), z6)
      ) else
      gR 11 7 z6 r0 fun a9 =>
      gR 6 1 z6 a9 fun a10 =>
      aI 1 z6 a10 v1 fun x11 =>
      gR 11 7 z6 r0 fun a12 =>
      gR 6 1 z6 a12 fun a13 =>
      aI 1 z6 a13 v3 fun x14 =>
      if x11 = x14 then (
        gR 11 7 z6 r0 fun a15 =>
        isC 6 z6 a15 <| bnd (m_X6_spans a15 v1 v2 v5 z6) fun x17 z16 =>
        if x17 = 0 then (
          some ((-7), z16)
        ) else
        gR 11 7 z16 r0 fun a19 =>
        isC 6 z16 a19 <| bnd (m_X6_spans a19 v3 v4 v5 z16) fun x21 z20 =>
        if x21 = 0 then (
          some ((-7), z20)
        ) else
        gR 11 7 z20 r0 fun a23 =>
        gR 6 0 z20 a23 fun a24 =>
        aR 6 z20 a24 v1 fun a25 =>
        gR 11 7 z20 r0 fun a26 =>
        gR 6 0 z20 a26 fun a27 =>
        aR 6 z20 a27 v3 fun a28 =>
        cpL z20 a25 v2 a28 v4 v5 fun z29 =>
        some (0, z29)
      ) else
      some ((-8), z6)
    ) else
    some ((-2), z)
  ) else
  some ((-2), z)
abbrev mi_X12_in : Mi := (RX12, cX12_in, 6, (Option.some Jvm.ClassFile.FieldType.boolean), "in", { frames := 0, cells := 0, slots := 0, locals := 0 })
def m_X12_in (w0 : Int64) (w2 : Int64) (w4 : Int64) (z : Hp) : Option (Int32 × Hp) :=
  if (lg_cmp w0 w2) < 0 then (
    some (0, z)
  ) else
  if 0 < (lg_cmp w0 w4) then (
    some (0, z)
  ) else
  some (1, z)
abbrev mi_X12_groundAtFirst : Mi := (RX12, cX12_groundAtFirst, 2, (Option.none : Option Jvm.ClassFile.FieldType), "groundAtFirst", { frames := 0, cells := 0, slots := 0, locals := 0 })
def m_X12_groundAtFirst (r0 : Nat) (v1 : Int32) (z : Hp) : Option (Unit × Hp) :=
  sI 1 z r0 v1 10 fun z1 =>
  sI 1 z1 r0 (v1 + 1) 15 fun z2 =>
  sI 1 z2 r0 (v1 + 2) 100 fun z3 =>
  sI 1 z3 r0 (v1 + 3) 0 fun z4 =>
  some ((), z4)
abbrev mi_X12_plain : Mi := (RX12, cX12_plain, 2, (Option.none : Option Jvm.ClassFile.FieldType), "plain", { frames := 1, cells := 0, slots := 0, locals := 21 })
def m_X12_plain_L32  : Nat → Nat → Int32 → Hp → Option (Unit × Hp)
  | 0, _, _, _ => none
  | f + 1, r0, v1, z =>
    if v1 < 4 then (
      bnd (m_X12_groundAtFirst r0 (20 + (4 * v1)) z) fun _ z1 =>
      (m_X12_plain_L32  f) r0 (v1 + 1) z1
    ) else
    some ((), z)
def m_X12_plain_B19  (r0 : Nat) (z : Hp) : Option (Unit × Hp) :=
  sI 1 z r0 5 100 fun z2 =>
  sI 1 z2 r0 6 99999 fun z3 =>
  (m_X12_plain_L32 FU) r0 0 z3
def m_X12_plain_L2 (k19 : Nat → Hp → Option (Unit × Hp)) : Nat → Nat → Int32 → Hp → Option (Unit × Hp)
  | 0, _, _, _ => none
  | f + 1, r0, v1, z =>
    if v1 < 810 then (
      sI 1 z r0 v1 0 fun z4 =>
      (m_X12_plain_L2 k19 f) r0 (v1 + 1) z4
    ) else
    k19 r0 z
def m_X12_plain (r0 : Nat) (z : Hp) : Option (Unit × Hp) :=
  (m_X12_plain_L2 m_X12_plain_B19 FU) r0 0 z
abbrev mi_X12_heatNow : Mi := (RX12, cX12_heatNow, 3, (Option.some Jvm.ClassFile.FieldType.int), "heatNow", { frames := 0, cells := 0, slots := 0, locals := 0 })
def m_X12_heatNow_B51 (k4 : Nat → Int32 → Int32 → Hp → Option (Int32 × Hp)) (r0 : Nat) (v2 : Int32) (t0 : Int32) (t1 : Int32) (z : Hp) : Option (Int32 × Hp) :=
  k4 r0 (t1 + t0) (v2 + 1) z
def m_X12_heatNow_L4  : Nat → Nat → Int32 → Int32 → Hp → Option (Int32 × Hp)
  | 0, _, _, _, _ => none
  | f + 1, r0, v1, v2, z =>
    if v2 < 144 then (
      gR 12 1 z r0 fun a1 =>
      aI 1 z a1 (480 + v2) fun x2 =>
      if x2 = 1 then (
        (m_X12_heatNow_B51 (m_X12_heatNow_L4  f)) r0 v2 0 v1 z
      ) else
      gR 12 1 z r0 fun a3 =>
      aI 1 z a3 (192 + v2) fun x4 =>
      gR 12 1 z r0 fun a5 =>
      aI 1 z a5 (336 + v2) fun x6 =>
      (m_X12_heatNow_B51 (m_X12_heatNow_L4  f)) r0 v2 (x4 - x6) v1 z
    ) else
    some (v1, z)
def m_X12_heatNow (r0 : Nat) (z : Hp) : Option (Int32 × Hp) :=
  (m_X12_heatNow_L4 FU) r0 0 0 z
abbrev mi_X12_begins : Mi := (RX12, cX12_begins, 2, (Option.none : Option Jvm.ClassFile.FieldType), "begins", { frames := 1, cells := 0, slots := 0, locals := 22 })
def m_X12_begins_B109  (r0 : Nat) (z : Hp) : Option (Unit × Hp) :=
  gR 12 1 z r0 fun a1 =>
  isC 12 z r0 <| bnd (m_X12_heatNow r0 z) fun x3 z2 =>
  sI 1 z2 a1 18 x3 fun z5 =>
  some ((), z5)
def m_X12_begins_L82 (k109 : Nat → Hp → Option (Unit × Hp)) : Nat → Nat → Int32 → Hp → Option (Unit × Hp)
  | 0, _, _, _ => none
  | f + 1, r0, v1, z =>
    if v1 < 6 then (
      gR 12 1 z r0 fun a6 =>
      sI 1 z a6 ((732 + (3 * v1)) + 2) (-1) fun z7 =>
      (m_X12_begins_L82 k109 f) r0 (v1 + 1) z7
    ) else
    k109 r0 z
def m_X12_begins_B80  (r0 : Nat) (z : Hp) : Option (Unit × Hp) :=
  (m_X12_begins_L82 m_X12_begins_B109 FU) r0 0 z
def m_X12_begins_L55 (k80 : Nat → Hp → Option (Unit × Hp)) : Nat → Nat → Int32 → Hp → Option (Unit × Hp)
  | 0, _, _, _ => none
  | f + 1, r0, v1, z =>
    if v1 < 10 then (
      gR 12 1 z r0 fun a8 =>
      sI 1 z a8 (790 + (2 * v1)) (-1) fun z9 =>
      (m_X12_begins_L55 k80 f) r0 (v1 + 1) z9
    ) else
    k80 r0 z
def m_X12_begins_B53  (r0 : Nat) (z : Hp) : Option (Unit × Hp) :=
  (m_X12_begins_L55 m_X12_begins_B80 FU) r0 0 z
def m_X12_begins_L2 (k53 : Nat → Hp → Option (Unit × Hp)) : Nat → Nat → Int32 → Hp → Option (Unit × Hp)
  | 0, _, _, _ => none
  | f + 1, r0, v1, z =>
    if v1 < 144 then (
      gR 12 1 z r0 fun a10 =>
      gR 12 1 z r0 fun a11 =>
      aI 1 z a11 5 fun x12 =>
      sI 1 z a10 (192 + v1) x12 fun z13 =>
      gR 12 1 z13 r0 fun a14 =>
      sI 1 z13 a14 (336 + v1) 0 fun z15 =>
      gR 12 1 z15 r0 fun a16 =>
      sI 1 z15 a16 (480 + v1) 0 fun z17 =>
      (m_X12_begins_L2 k53 f) r0 (v1 + 1) z17
    ) else
    k53 r0 z
def m_X12_begins (r0 : Nat) (z : Hp) : Option (Unit × Hp) :=
  (m_X12_begins_L2 m_X12_begins_B53 FU) r0 0 z
abbrev mi_X12_init : Mi := (RX12, cX12_init, 1, (Option.none : Option Jvm.ClassFile.FieldType), "<init>", { frames := 2, cells := 22, slots := 7782, locals := 43 })
def m_X12_init (r0 : Nat) (z : Hp) : Option (Unit × Hp) :=
  nwC 1 810 z fun a1 z2 =>
  pR 12 1 z2 r0 a1 fun z3 =>
  nwC 1 810 z3 fun a4 z5 =>
  pR 12 2 z5 r0 a4 fun z6 =>
  nwC 1 2430 z6 fun a7 z8 =>
  pR 12 3 z8 r0 a7 fun z9 =>
  nwC 2 3 z9 fun a10 z11 =>
  pR 12 4 z11 r0 a10 fun z12 =>
  nwC 3 700 z12 fun a13 z14 =>
  pR 12 5 z14 r0 a13 fun z15 =>
  nwC 1 5 z15 fun a16 z17 =>
  pR 12 7 z17 r0 a16 fun z18 =>
  pI 12 14 z18 r0 (-1) fun z19 =>
  nwC 1 810 z19 fun a20 z21 =>
  pR 12 15 z21 r0 a20 fun z22 =>
  nwC 2 4 z22 fun a23 z24 =>
  pR 12 16 z24 r0 a23 fun z25 =>
  nwC 2 12 z25 fun a26 z27 =>
  pR 12 17 z27 r0 a26 fun z28 =>
  nwC 1 144 z28 fun a29 z30 =>
  pR 12 24 z30 r0 a29 fun z31 =>
  nwC 1 18 z31 fun a32 z33 =>
  pR 12 25 z33 r0 a32 fun z34 =>
  nwC 1 144 z34 fun a35 z36 =>
  pR 12 26 z36 r0 a35 fun z37 =>
  nwC 2 144 z37 fun a38 z39 =>
  pR 12 27 z39 r0 a38 fun z40 =>
  nwC 2 576 z40 fun a41 z42 =>
  pR 12 28 z42 r0 a41 fun z43 =>
  nwC 1 288 z43 fun a44 z45 =>
  pR 12 29 z45 r0 a44 fun z46 =>
  nwC 1 288 z46 fun a47 z48 =>
  pR 12 30 z48 r0 a47 fun z49 =>
  nwC 2 144 z49 fun a50 z51 =>
  pR 12 32 z51 r0 a50 fun z52 =>
  nwC 1 144 z52 fun a53 z54 =>
  pR 12 33 z54 r0 a53 fun z55 =>
  nwC 1 4 z55 fun a56 z57 =>
  sI 1 z57 a56 0 (-1) fun z58 =>
  sI 1 z58 a56 1 (-1) fun z59 =>
  sI 1 z59 a56 2 (-1) fun z60 =>
  sI 1 z60 a56 3 (-1) fun z61 =>
  pR 12 36 z61 r0 a56 fun z62 =>
  nwC 1 4 z62 fun a63 z64 =>
  pR 12 37 z64 r0 a63 fun z65 =>
  nwC 4 240 z65 fun a66 z67 =>
  pR 12 38 z67 r0 a66 fun z68 =>
  nwC 4 60 z68 fun a69 z70 =>
  pR 12 39 z70 r0 a69 fun z71 =>
  gR 12 1 z71 r0 fun a72 =>
  bnd (m_X12_plain a72 z71) fun _ z73 =>
  isC 12 z73 r0 <| bnd (m_X12_begins r0 z73) fun _ z74 =>
  some ((), z74)
abbrev mi_X12_groundOf : Mi := (RX12, cX12_groundOf, 3, (Option.some Jvm.ClassFile.FieldType.int), "groundOf", { frames := 0, cells := 0, slots := 0, locals := 0 })
def m_X12_groundOf (r0 : Nat) (v1 : Int32) (v2 : Int32) (z : Hp) : Option (Int32 × Hp) :=
  gR 12 1 z r0 fun a1 =>
  gR 12 1 z r0 fun a2 =>
  aI 1 z a2 (48 + v1) fun x3 =>
  aI 1 z a1 ((20 + (4 * x3)) + v2) fun x4 =>
  some (x4, z)
abbrev mi_X12_isDug : Mi := (RX12, cX12_isDug, 2, (Option.some Jvm.ClassFile.FieldType.boolean), "isDug", { frames := 0, cells := 0, slots := 0, locals := 0 })
def m_X12_isDug (r0 : Nat) (v1 : Int32) (z : Hp) : Option (Int32 × Hp) :=
  gR 12 1 z r0 fun a1 =>
  aI 1 z a1 (480 + v1) fun x2 =>
  if x2 = 1 then (
    some (1, z)
  ) else
  some (0, z)
abbrev mi_X12_isFrozen : Mi := (RX12, cX12_isFrozen, 2, (Option.some Jvm.ClassFile.FieldType.boolean), "isFrozen", { frames := 1, cells := 0, slots := 0, locals := 22 })
def m_X12_isFrozen (r0 : Nat) (v1 : Int32) (z : Hp) : Option (Int32 × Hp) :=
  isC 12 z r0 <| bnd (m_X12_isDug r0 v1 z) fun x2 z1 =>
  if x2 = 0 then (
    gR 12 1 z1 r0 fun a4 =>
    aI 1 z1 a4 (336 + v1) fun x5 =>
    isC 12 z1 r0 <| bnd (m_X12_groundOf r0 v1 2 z1) fun x7 z6 =>
    if x5 = x7 then (
      some (1, z6)
    ) else
    some (0, z6)
  ) else
  some (0, z1)
abbrev mi_X12_isShaft : Mi := (RX12, cX12_isShaft, 2, (Option.some Jvm.ClassFile.FieldType.boolean), "isShaft", { frames := 1, cells := 0, slots := 0, locals := 25 })
def m_X12_isShaft (r0 : Nat) (v1 : Int32) (z : Hp) : Option (Int32 × Hp) :=
  gR 12 1 z r0 fun a1 =>
  aI 1 z a1 7 fun x2 =>
  if x2 = 1 then (
    gR 12 1 z r0 fun a3 =>
    aI 1 z a3 8 fun x4 =>
    gR 12 1 z r0 fun a5 =>
    aI 1 z a5 10 fun x6 =>
    bnd (m_X12_in (Int32.toInt64 (v1 - v1 / 12 * 12)) (Int32.toInt64 x4) (Int32.toInt64 x6) z) fun x8 z7 =>
    if x8 = 0 then (
      some (0, z7)
    ) else
    gR 12 1 z7 r0 fun a9 =>
    aI 1 z7 a9 9 fun x10 =>
    gR 12 1 z7 r0 fun a11 =>
    aI 1 z7 a11 11 fun x12 =>
    bnd (m_X12_in (Int32.toInt64 (v1 / 12)) (Int32.toInt64 x10) (Int32.toInt64 x12) z7) fun x14 z13 =>
    if x14 = 0 then (
      some (0, z13)
    ) else
    some (1, z13)
  ) else
  some (0, z)
abbrev mi_X12_isPlace : Mi := (RX12, cX12_isPlace, 2, (Option.some Jvm.ClassFile.FieldType.boolean), "isPlace", { frames := 1, cells := 0, slots := 0, locals := 25 })
def m_X12_isPlace (v0 : Int32) (v1 : Int32) (z : Hp) : Option (Int32 × Hp) :=
  bnd (m_X12_in (Int32.toInt64 v0) 0 11 z) fun x2 z1 =>
  if x2 = 0 then (
    some (0, z1)
  ) else
  bnd (m_X12_in (Int32.toInt64 v1) 0 11 z1) fun x4 z3 =>
  if x4 = 0 then (
    some (0, z3)
  ) else
  some (1, z3)
abbrev mi_X12_beside : Mi := (RX12, cX12_beside, 4, (Option.some Jvm.ClassFile.FieldType.int), "beside", { frames := 2, cells := 0, slots := 0, locals := 46 })
def m_X12_beside_B47  (v2 : Int32) (t0 : Int32) (t1 : Int32) (z : Hp) : Option (Int32 × Hp) :=
  bnd (m_X12_isPlace v2 (t1 + t0) z) fun x2 z1 =>
  if x2 = 0 then (
    some ((-1), z1)
  ) else
  some ((12 * (t1 + t0)) + v2, z1)
def m_X12_beside_B22  (v0 : Int32) (v1 : Int32) (t0 : Int32) (t1 : Int32) (z : Hp) : Option (Int32 × Hp) :=
  if v1 = 2 then (
    m_X12_beside_B47 (t1 + t0) 1 (v0 / 12) z
  ) else
  if v1 = 3 then (
    m_X12_beside_B47 (t1 + t0) (-1) (v0 / 12) z
  ) else
  m_X12_beside_B47 (t1 + t0) 0 (v0 / 12) z
def m_X12_beside (v0 : Int32) (v1 : Int32) (z : Hp) : Option (Int32 × Hp) :=
  if v1 = 0 then (
    m_X12_beside_B22 v0 v1 1 (v0 - v0 / 12 * 12) z
  ) else
  if v1 = 1 then (
    m_X12_beside_B22 v0 v1 (-1) (v0 - v0 / 12 * 12) z
  ) else
  m_X12_beside_B22 v0 v1 0 (v0 - v0 / 12 * 12) z
abbrev mi_X12_pipeAt : Mi := (RX12, cX12_pipeAt, 3, (Option.some Jvm.ClassFile.FieldType.int), "pipeAt", { frames := 0, cells := 0, slots := 0, locals := 0 })
def m_X12_pipeAt_L2  : Nat → Nat → Int32 → Int32 → Hp → Option (Int32 × Hp)
  | 0, _, _, _, _ => none
  | f + 1, r0, v1, v2, z =>
    gR 12 1 z r0 fun a1 =>
    aI 1 z a1 2 fun x2 =>
    if v2 < x2 then (
      gR 12 1 z r0 fun a3 =>
      aI 1 z a3 (624 + (6 * v2)) fun x4 =>
      if x4 = v1 then (
        some (v2, z)
      ) else
      (m_X12_pipeAt_L2  f) r0 v1 (v2 + 1) z
    ) else
    some ((-1), z)
def m_X12_pipeAt (r0 : Nat) (v1 : Int32) (z : Hp) : Option (Int32 × Hp) :=
  (m_X12_pipeAt_L2 FU) r0 v1 0 z
abbrev mi_X12_keep : Mi := (RX12, cX12_keep, 3, (Option.some Jvm.ClassFile.FieldType.int), "keep", { frames := 1, cells := 0, slots := 0, locals := 25 })
def m_X12_keep_B48  (r0 : Nat) (v1 : Int32) (z : Hp) : Option (Int32 × Hp) :=
  gR 12 4 z r0 fun a1 =>
  sI 2 z a1 v1 (vp_nar .boolean 1) fun z2 =>
  some (0, z2)
def m_X12_keep_L17 (k48 : Nat → Int32 → Hp → Option (Int32 × Hp)) : Nat → Nat → Int32 → Int32 → Hp → Option (Int32 × Hp)
  | 0, _, _, _, _ => none
  | f + 1, r0, v1, v2, z =>
    if v2 < 810 then (
      gR 12 3 z r0 fun a3 =>
      gR 12 1 z r0 fun a4 =>
      aI 1 z a4 v2 fun x5 =>
      sI 1 z a3 ((810 * v1) + v2) x5 fun z6 =>
      (m_X12_keep_L17 k48 f) r0 v1 (v2 + 1) z6
    ) else
    k48 r0 v1 z
def m_X12_keep (r0 : Nat) (v1 : Int32) (z : Hp) : Option (Int32 × Hp) :=
  bnd (m_X12_in (Int32.toInt64 v1) 0 2 z) fun x8 z7 =>
  if x8 = 0 then (
    some ((-2), z7)
  ) else
  (m_X12_keep_L17 m_X12_keep_B48 FU) r0 v1 0 z7
abbrev mi_X12_back : Mi := (RX12, cX12_back, 3, (Option.some Jvm.ClassFile.FieldType.int), "back", { frames := 1, cells := 0, slots := 0, locals := 25 })
def m_X12_back_L29  : Nat → Nat → Int32 → Int32 → Hp → Option (Int32 × Hp)
  | 0, _, _, _, _ => none
  | f + 1, r0, v1, v2, z =>
    if v2 < 810 then (
      gR 12 1 z r0 fun a1 =>
      gR 12 3 z r0 fun a2 =>
      aI 1 z a2 ((810 * v1) + v2) fun x3 =>
      sI 1 z a1 v2 x3 fun z4 =>
      (m_X12_back_L29  f) r0 v1 (v2 + 1) z4
    ) else
    some (0, z)
def m_X12_back (r0 : Nat) (v1 : Int32) (z : Hp) : Option (Int32 × Hp) :=
  bnd (m_X12_in (Int32.toInt64 v1) 0 2 z) fun x6 z5 =>
  if x6 = 0 then (
    some ((-2), z5)
  ) else
  gR 12 4 z5 r0 fun a7 =>
  aI 2 z5 a7 v1 fun x8 =>
  if x8 = 0 then (
    some ((-6), z5)
  ) else
  (m_X12_back_L29 FU) r0 v1 0 z5
abbrev mi_X12_saves : Mi := (RX12, cX12_saves, 2, (Option.none : Option Jvm.ClassFile.FieldType), "saves", { frames := 0, cells := 0, slots := 0, locals := 0 })
def m_X12_saves_L2  : Nat → Nat → Int32 → Hp → Option (Unit × Hp)
  | 0, _, _, _ => none
  | f + 1, r0, v1, z =>
    if v1 < 810 then (
      gR 12 2 z r0 fun a1 =>
      gR 12 1 z r0 fun a2 =>
      aI 1 z a2 v1 fun x3 =>
      sI 1 z a1 v1 x3 fun z4 =>
      (m_X12_saves_L2  f) r0 (v1 + 1) z4
    ) else
    some ((), z)
def m_X12_saves (r0 : Nat) (z : Hp) : Option (Unit × Hp) :=
  (m_X12_saves_L2 FU) r0 0 z
abbrev mi_X12_putsBack : Mi := (RX12, cX12_putsBack, 2, (Option.none : Option Jvm.ClassFile.FieldType), "putsBack", { frames := 0, cells := 0, slots := 0, locals := 0 })
def m_X12_putsBack_L2  : Nat → Nat → Int32 → Hp → Option (Unit × Hp)
  | 0, _, _, _ => none
  | f + 1, r0, v1, z =>
    if v1 < 810 then (
      gR 12 1 z r0 fun a1 =>
      gR 12 2 z r0 fun a2 =>
      aI 1 z a2 v1 fun x3 =>
      sI 1 z a1 v1 x3 fun z4 =>
      (m_X12_putsBack_L2  f) r0 (v1 + 1) z4
    ) else
    some ((), z)
def m_X12_putsBack (r0 : Nat) (z : Hp) : Option (Unit × Hp) :=
  (m_X12_putsBack_L2 FU) r0 0 z
abbrev mi_X12_feed : Mi := (RX12, cX12_feed, 7, (Option.some Jvm.ClassFile.FieldType.int), "feed", { frames := 0, cells := 0, slots := 0, locals := 0 })
def m_X12_feed_B101  (r0 : Nat) (z : Hp) : Option (Int32 × Hp) :=
  gI 12 6 z r0 fun x1 =>
  pI 12 6 z r0 (x1 + 20) fun z2 =>
  gI 12 6 z2 r0 fun x3 =>
  some (x3, z2)
def m_X12_feed_L55 (k101 : Nat → Hp → Option (Int32 × Hp)) : Nat → Nat → Int32 → Hp → Option (Int32 × Hp)
  | 0, _, _, _ => none
  | f + 1, r0, v6, z =>
    if v6 < 20 then (
      gR 12 5 z r0 fun a4 =>
      gI 12 6 z r0 fun x5 =>
      gR 12 7 z r0 fun a6 =>
      aI 1 z a6 (v6 / 4) fun x7 =>
      sI 3 z a4 (x5 + v6) (vp_nar .byte (Int8.toInt32 (Int32.toInt8 (x7 >>> ((24 - (8 * (v6 - v6 / 4 * 4))) &&& 31))))) fun z8 =>
      (m_X12_feed_L55 k101 f) r0 (v6 + 1) z8
    ) else
    k101 r0 z
def m_X12_feed (r0 : Nat) (v1 : Int32) (v2 : Int32) (v3 : Int32) (v4 : Int32) (v5 : Int32) (z : Hp) : Option (Int32 × Hp) :=
  gI 12 6 z r0 fun x9 =>
  if 700 < (x9 + 20) then (
    some ((-1), z)
  ) else
  gR 12 7 z r0 fun a10 =>
  sI 1 z a10 0 v1 fun z11 =>
  gR 12 7 z11 r0 fun a12 =>
  sI 1 z11 a12 1 v2 fun z13 =>
  gR 12 7 z13 r0 fun a14 =>
  sI 1 z13 a14 2 v3 fun z15 =>
  gR 12 7 z15 r0 fun a16 =>
  sI 1 z15 a16 3 v4 fun z17 =>
  gR 12 7 z17 r0 fun a18 =>
  sI 1 z17 a18 4 v5 fun z19 =>
  (m_X12_feed_L55 m_X12_feed_B101 FU) r0 0 z19
abbrev mi_X12_end : Mi := (RX12, cX12_end, 2, (Option.some Jvm.ClassFile.FieldType.int), "end", { frames := 1, cells := 0, slots := 0, locals := 25 })
def m_X12_end (r0 : Nat) (v1 : Int32) (z : Hp) : Option (Int32 × Hp) :=
  gI 12 6 z r0 fun x1 =>
  bnd (m_X12_in (Int32.toInt64 v1) 0 (Int32.toInt64 x1) z) fun x3 z2 =>
  if x3 = 0 then (
    some ((-1), z2)
  ) else
  pI 12 6 z2 r0 v1 fun z4 =>
  some (v1, z4)
abbrev mi_X12_see : Mi := (RX12, cX12_see, 2, (Option.some Jvm.ClassFile.FieldType.int), "see", { frames := 0, cells := 0, slots := 0, locals := 0 })
def m_X12_see (r0 : Nat) (v1 : Int32) (z : Hp) : Option (Int32 × Hp) :=
  gI 12 8 z r0 fun x1 =>
  if v1 < x1 then (
    gR 12 5 z r0 fun a2 =>
    aI 3 z a2 v1 fun x3 =>
    some (x3 &&& 255, z)
  ) else
  some ((-1), z)
abbrev mi_X12_step : Mi := (RX12, cX12_step, 2, (Option.none : Option Jvm.ClassFile.FieldType), "step", { frames := 1, cells := 0, slots := 0, locals := 25 })
def m_X12_step_B249  (r0 : Nat) (t0 : Int32) (b1 : Nat) (z : Hp) : Option (Unit × Hp) :=
  pI 12 11 z b1 t0 fun z1 =>
  gI 12 9 z1 r0 fun x2 =>
  pI 12 9 z1 r0 (x2 + 1) fun z3 =>
  some ((), z3)
def m_X12_step_B244  (r0 : Nat) (b0 : Nat) (z : Hp) : Option (Unit × Hp) :=
  m_X12_step_B249 r0 3 b0 z
def m_X12_step_B206  (r0 : Nat) (z : Hp) : Option (Unit × Hp) :=
  pI 12 11 z r0 2 fun z4 =>
  some ((), z4)
def m_X12_step_L144 (k206 : Nat → Hp → Option (Unit × Hp)) : Nat → Nat → Hp → Option (Unit × Hp)
  | 0, _, _ => none
  | f + 1, r0, z =>
    gI 12 9 z r0 fun x5 =>
    isC 12 z r0 <| bnd (m_X12_see r0 x5 z) fun x7 z6 =>
    bnd (m_X12_in (Int32.toInt64 x7) 48 57 z6) fun x10 z9 =>
    if x10 = 0 then (
      k206 r0 z9
    ) else
    gI 12 12 z9 r0 fun x11 =>
    gI 12 9 z9 r0 fun x12 =>
    isC 12 z9 r0 <| bnd (m_X12_see r0 x12 z9) fun x14 z13 =>
    bnd (m_J9_min_7cf53 999999 (((10 * x11) + x14) - 48) z13) fun x17 z16 =>
    pI 12 12 z16 r0 x17 fun z18 =>
    gI 12 9 z18 r0 fun x19 =>
    pI 12 9 z18 r0 (x19 + 1) fun z20 =>
    (m_X12_step_L144 k206 f) r0 z20
def m_X12_step_B117  (r0 : Nat) (z : Hp) : Option (Unit × Hp) :=
  pI 12 11 z r0 1 fun z21 =>
  some ((), z21)
def m_X12_step_L83 (k117 : Nat → Hp → Option (Unit × Hp)) : Nat → Nat → Hp → Option (Unit × Hp)
  | 0, _, _ => none
  | f + 1, r0, z =>
    gI 12 9 z r0 fun x22 =>
    isC 12 z r0 <| bnd (m_X12_see r0 x22 z) fun x24 z23 =>
    bnd (m_X12_in (Int32.toInt64 x24) 97 122 z23) fun x27 z26 =>
    if x27 = 0 then (
      k117 r0 z26
    ) else
    gI 12 9 z26 r0 fun x28 =>
    pI 12 9 z26 r0 (x28 + 1) fun z29 =>
    (m_X12_step_L83 k117 f) r0 z29
def m_X12_step_B39  (r0 : Nat) (z : Hp) : Option (Unit × Hp) :=
  gI 12 9 z r0 fun x30 =>
  pI 12 10 z r0 x30 fun z31 =>
  gI 12 9 z31 r0 fun x32 =>
  isC 12 z31 r0 <| bnd (m_X12_see r0 x32 z31) fun x34 z33 =>
  if x34 = (-1) then (
    pI 12 11 z33 r0 0 fun z42 =>
    some ((), z42)
  ) else
  bnd (m_X12_in (Int32.toInt64 x34) 97 122 z33) fun x37 z36 =>
  if x37 = 0 then (
    bnd (m_X12_in (Int32.toInt64 x34) 48 57 z36) fun x39 z38 =>
    if x39 = 0 then (
      pI 12 12 z38 r0 x34 fun z40 =>
      if x34 = 60 then (
        m_X12_step_B244 r0 r0 z40
      ) else
      if x34 = 62 then (
        m_X12_step_B244 r0 r0 z40
      ) else
      if x34 = 45 then (
        m_X12_step_B244 r0 r0 z40
      ) else
      if x34 = 59 then (
        m_X12_step_B244 r0 r0 z40
      ) else
      m_X12_step_B249 r0 4 r0 z40
    ) else
    pI 12 12 z38 r0 0 fun z41 =>
    (m_X12_step_L144 m_X12_step_B206 FU) r0 z41
  ) else
  (m_X12_step_L83 m_X12_step_B117 FU) r0 z36
def m_X12_step_B26 (k0 : Nat → Hp → Option (Unit × Hp)) (r0 : Nat) (z : Hp) : Option (Unit × Hp) :=
  gI 12 9 z r0 fun x43 =>
  pI 12 9 z r0 (x43 + 1) fun z44 =>
  k0 r0 z44
def m_X12_step_L0 (k39 : Nat → Hp → Option (Unit × Hp)) : Nat → Nat → Hp → Option (Unit × Hp)
  | 0, _, _ => none
  | f + 1, r0, z =>
    gI 12 9 z r0 fun x45 =>
    isC 12 z r0 <| bnd (m_X12_see r0 x45 z) fun x47 z46 =>
    if x47 = 32 then (
      (m_X12_step_B26 (m_X12_step_L0 k39 f)) r0 z46
    ) else
    gI 12 9 z46 r0 fun x49 =>
    isC 12 z46 r0 <| bnd (m_X12_see r0 x49 z46) fun x51 z50 =>
    if x51 = 10 then (
      (m_X12_step_B26 (m_X12_step_L0 k39 f)) r0 z50
    ) else
    k39 r0 z50
def m_X12_step (r0 : Nat) (z : Hp) : Option (Unit × Hp) :=
  (m_X12_step_L0 m_X12_step_B39 FU) r0 z
abbrev mi_X12_good : Mi := (RX12, cX12_good, 1, (Option.some Jvm.ClassFile.FieldType.boolean), "good", { frames := 0, cells := 0, slots := 0, locals := 0 })
def m_X12_good (r0 : Nat) (z : Hp) : Option (Int32 × Hp) :=
  gI 12 13 z r0 fun x1 =>
  if x1 = 0 then (
    some (1, z)
  ) else
  some (0, z)
abbrev mi_X12_wrong : Mi := (RX12, cX12_wrong, 2, (Option.none : Option Jvm.ClassFile.FieldType), "wrong", { frames := 1, cells := 0, slots := 0, locals := 20 })
def m_X12_wrong (r0 : Nat) (v1 : Int32) (z : Hp) : Option (Unit × Hp) :=
  isC 12 z r0 <| bnd (m_X12_good r0 z) fun x2 z1 =>
  if x2 = 0 then (
    some ((), z1)
  ) else
  pI 12 13 z1 r0 v1 fun z4 =>
  gI 12 10 z4 r0 fun x5 =>
  pI 12 14 z4 r0 x5 fun z6 =>
  some ((), z6)
abbrev mi_X12_is : Mi := (RX12, cX12_is, 4, (Option.some Jvm.ClassFile.FieldType.boolean), "is", { frames := 4, cells := 0, slots := 0, locals := 110 })
def m_X12_is_B75 (k39 : Nat → Nat → Int32 → Int32 → Hp → Option (Int32 × Hp)) (r0 : Nat) (q1 : Nat) (v3 : Int32) (t0 : Int32) (z : Hp) : Option (Int32 × Hp) :=
  k39 r0 q1 t0 (v3 + 1) z
def m_X12_is_L39  : Nat → Nat → Nat → Int32 → Int32 → Hp → Option (Int32 × Hp)
  | 0, _, _, _, _, _ => none
  | f + 1, r0, q1, v2, v3, z =>
    sLen q1 fun x1 =>
    if v3 < x1 then (
      if v2 = 0 then (
        some (vp_nar .boolean v2, z)
      ) else
      gR 12 5 z r0 fun a2 =>
      gI 12 10 z r0 fun x3 =>
      aI 3 z a2 (x3 + v3) fun x4 =>
      sCh q1 v3 fun x5 =>
      if x4 = x5 then (
        (m_X12_is_B75 (m_X12_is_L39  f)) r0 q1 v3 1 z
      ) else
      (m_X12_is_B75 (m_X12_is_L39  f)) r0 q1 v3 0 z
    ) else
    some (vp_nar .boolean v2, z)
def m_X12_is_B36  (r0 : Nat) (q1 : Nat) (t0 : Int32) (z : Hp) : Option (Int32 × Hp) :=
  (m_X12_is_L39 FU) r0 q1 t0 0 z
def m_X12_is_B35  (r0 : Nat) (q1 : Nat) (z : Hp) : Option (Int32 × Hp) :=
  m_X12_is_B36 r0 q1 0 z
def m_X12_is (r0 : Nat) (q1 : Nat) (z : Hp) : Option (Int32 × Hp) :=
  isC 12 z r0 <| bnd (m_X12_good r0 z) fun x7 z6 =>
  if x7 = 0 then (
    m_X12_is_B35 r0 q1 z6
  ) else
  gI 12 11 z6 r0 fun x9 =>
  if x9 = 1 then (
    gI 12 9 z6 r0 fun x10 =>
    gI 12 10 z6 r0 fun x11 =>
    sLen q1 fun x12 =>
    if (x10 - x11) = x12 then (
      m_X12_is_B36 r0 q1 1 z6
    ) else
    m_X12_is_B35 r0 q1 z6
  ) else
  m_X12_is_B35 r0 q1 z6
abbrev mi_X12_takes : Mi := (RX12, cX12_takes, 3, (Option.some Jvm.ClassFile.FieldType.boolean), "takes", { frames := 5, cells := 0, slots := 0, locals := 133 })
def m_X12_takes (r0 : Nat) (q1 : Nat) (z : Hp) : Option (Int32 × Hp) :=
  isC 12 z r0 <| bnd (m_X12_is r0 q1 z) fun x2 z1 =>
  if x2 = 0 then (
    some (vp_nar .boolean x2, z1)
  ) else
  isC 12 z1 r0 <| bnd (m_X12_step r0 z1) fun _ z4 =>
  some (vp_nar .boolean x2, z4)
abbrev mi_X12_needs : Mi := (RX12, cX12_needs, 2, (Option.none : Option Jvm.ClassFile.FieldType), "needs", { frames := 6, cells := 0, slots := 0, locals := 155 })
def m_X12_needs (r0 : Nat) (q1 : Nat) (z : Hp) : Option (Unit × Hp) :=
  isC 12 z r0 <| bnd (m_X12_takes r0 q1 z) fun x2 z1 =>
  if x2 = 0 then (
    isC 12 z1 r0 <| bnd (m_X12_wrong r0 1 z1) fun _ z4 =>
    some ((), z4)
  ) else
  some ((), z1)
abbrev mi_X12_isSign : Mi := (RX12, cX12_isSign, 2, (Option.some Jvm.ClassFile.FieldType.boolean), "isSign", { frames := 1, cells := 0, slots := 0, locals := 20 })
def m_X12_isSign (r0 : Nat) (v1 : Int32) (z : Hp) : Option (Int32 × Hp) :=
  isC 12 z r0 <| bnd (m_X12_good r0 z) fun x2 z1 =>
  if x2 = 0 then (
    some (0, z1)
  ) else
  gI 12 11 z1 r0 fun x4 =>
  if x4 = 3 then (
    gI 12 12 z1 r0 fun x5 =>
    if x5 = v1 then (
      some (1, z1)
    ) else
    some (0, z1)
  ) else
  some (0, z1)
abbrev mi_X12_number : Mi := (RX12, cX12_number, 4, (Option.some Jvm.ClassFile.FieldType.int), "number", { frames := 2, cells := 0, slots := 0, locals := 46 })
def m_X12_number_B47  (r0 : Nat) (z : Hp) : Option (Int32 × Hp) :=
  isC 12 z r0 <| bnd (m_X12_good r0 z) fun x2 z1 =>
  if x2 = 0 then (
    some (0, z1)
  ) else
  gI 12 12 z1 r0 fun x4 =>
  isC 12 z1 r0 <| bnd (m_X12_step r0 z1) fun _ z5 =>
  some (x4, z5)
def m_X12_number_B20  (r0 : Nat) (v1 : Int32) (v2 : Int32) (z : Hp) : Option (Int32 × Hp) :=
  isC 12 z r0 <| bnd (m_X12_good r0 z) fun x8 z7 =>
  if x8 = 0 then (
    m_X12_number_B47 r0 z7
  ) else
  gI 12 12 z7 r0 fun x10 =>
  bnd (m_X12_in (Int32.toInt64 x10) (Int32.toInt64 v1) (Int32.toInt64 v2) z7) fun x12 z11 =>
  if x12 = 0 then (
    isC 12 z11 r0 <| bnd (m_X12_wrong r0 2 z11) fun _ z13 =>
    m_X12_number_B47 r0 z13
  ) else
  m_X12_number_B47 r0 z11
def m_X12_number (r0 : Nat) (v1 : Int32) (v2 : Int32) (z : Hp) : Option (Int32 × Hp) :=
  isC 12 z r0 <| bnd (m_X12_good r0 z) fun x16 z15 =>
  if x16 = 0 then (
    m_X12_number_B20 r0 v1 v2 z15
  ) else
  gI 12 11 z15 r0 fun x18 =>
  if x18 = 2 then (
    m_X12_number_B20 r0 v1 v2 z15
  ) else
  isC 12 z15 r0 <| bnd (m_X12_wrong r0 1 z15) fun _ z19 =>
  m_X12_number_B20 r0 v1 v2 z19
abbrev mi_X12_told : Mi := (RX12, cX12_told, 4, (Option.some Jvm.ClassFile.FieldType.int), "told", { frames := 7, cells := 0, slots := 0, locals := 176 })
def m_X12_told (r0 : Nat) (q1 : Nat) (v2 : Int32) (v3 : Int32) (z : Hp) : Option (Int32 × Hp) :=
  isC 12 z r0 <| bnd (m_X12_needs r0 q1 z) fun _ z1 =>
  isC 12 z1 r0 <| bnd (m_X12_number r0 v2 v3 z1) fun x4 z3 =>
  some (x4, z3)
abbrev mi_X12_below : Mi := (RX12, cX12_below, 4, (Option.some Jvm.ClassFile.FieldType.int), "below", { frames := 7, cells := 0, slots := 0, locals := 176 })
def m_X12_below_B20  (r0 : Nat) (v2 : Int32) (v3 : Int32) (z : Hp) : Option (Int32 × Hp) :=
  if v3 = 0 then (
    isC 12 z r0 <| bnd (m_X12_number r0 0 0 z) fun x2 z1 =>
    some (x2, z1)
  ) else
  isC 12 z r0 <| bnd (m_X12_number r0 0 (-v2) z) fun x5 z4 =>
  some (-x5, z4)
def m_X12_below (r0 : Nat) (q1 : Nat) (v2 : Int32) (z : Hp) : Option (Int32 × Hp) :=
  isC 12 z r0 <| bnd (m_X12_needs r0 q1 z) fun _ z7 =>
  isC 12 z7 r0 <| bnd (m_X12_isSign r0 45 z7) fun x10 z9 =>
  if x10 = 0 then (
    m_X12_below_B20 r0 v2 x10 z9
  ) else
  isC 12 z9 r0 <| bnd (m_X12_step r0 z9) fun _ z12 =>
  m_X12_below_B20 r0 v2 x10 z12
abbrev mi_X12_readGround : Mi := (RX12, cX12_readGround, 2, (Option.none : Option Jvm.ClassFile.FieldType), "readGround", { frames := 8, cells := 0, slots := 0, locals := 199 })
def m_X12_readGround_B47  (r0 : Nat) (z : Hp) : Option (Unit × Hp) :=
  isC 12 z r0 <| bnd (m_X12_number r0 0 3 z) fun x2 z1 =>
  isC 12 z1 r0 <| bnd (m_X12_good r0 z1) fun x5 z4 =>
  if x5 = 0 then (
    some ((), z4)
  ) else
  gR 12 16 z4 r0 fun a7 =>
  sI 2 z4 a7 x2 (vp_nar .boolean 1) fun z8 =>
  gR 12 15 z8 r0 fun a9 =>
  isC 12 z8 r0 <| bnd (m_X12_told r0 33 0 15 z8) fun x11 z10 =>
  sI 1 z10 a9 (20 + (4 * x2)) x11 fun z13 =>
  gR 12 15 z13 r0 fun a14 =>
  isC 12 z13 r0 <| bnd (m_X12_told r0 34 0 15 z13) fun x16 z15 =>
  sI 1 z15 a14 ((20 + (4 * x2)) + 1) x16 fun z18 =>
  gR 12 15 z18 r0 fun a19 =>
  isC 12 z18 r0 <| bnd (m_X12_told r0 35 1 999 z18) fun x21 z20 =>
  sI 1 z20 a19 ((20 + (4 * x2)) + 2) x21 fun z23 =>
  gR 12 15 z23 r0 fun a24 =>
  isC 12 z23 r0 <| bnd (m_X12_below r0 36 (-30) z23) fun x26 z25 =>
  sI 1 z25 a24 ((20 + (4 * x2)) + 3) x26 fun z28 =>
  some ((), z28)
def m_X12_readGround (r0 : Nat) (z : Hp) : Option (Unit × Hp) :=
  isC 12 z r0 <| bnd (m_X12_good r0 z) fun x30 z29 =>
  if x30 = 0 then (
    m_X12_readGround_B47 r0 z29
  ) else
  gI 12 11 z29 r0 fun x32 =>
  if x32 = 2 then (
    gI 12 12 z29 r0 fun x33 =>
    bnd (m_X12_in (Int32.toInt64 x33) 0 3 z29) fun x35 z34 =>
    if x35 = 0 then (
      m_X12_readGround_B47 r0 z34
    ) else
    gR 12 16 z34 r0 fun a36 =>
    gI 12 12 z34 r0 fun x37 =>
    aI 2 z34 a36 x37 fun x38 =>
    if x38 = 0 then (
      m_X12_readGround_B47 r0 z34
    ) else
    isC 12 z34 r0 <| bnd (m_X12_wrong r0 2 z34) fun _ z39 =>
    m_X12_readGround_B47 r0 z39
  ) else
  m_X12_readGround_B47 r0 z29
abbrev mi_X12_readBox : Mi := (RX12, cX12_readBox, 3, (Option.none : Option Jvm.ClassFile.FieldType), "readBox", { frames := 7, cells := 0, slots := 0, locals := 176 })
def m_X12_readBox (r0 : Nat) (v1 : Int32) (v2 : Int32) (z : Hp) : Option (Unit × Hp) :=
  isC 12 z r0 <| bnd (m_X12_number r0 v1 v2 z) fun x2 z1 =>
  pI 12 20 z1 r0 x2 fun z4 =>
  isC 12 z4 r0 <| bnd (m_X12_number r0 v1 v2 z4) fun x6 z5 =>
  pI 12 21 z5 r0 x6 fun z8 =>
  isC 12 z8 r0 <| bnd (m_X12_needs r0 37 z8) fun _ z9 =>
  gI 12 20 z9 r0 fun x11 =>
  isC 12 z9 r0 <| bnd (m_X12_number r0 x11 v2 z9) fun x13 z12 =>
  pI 12 22 z12 r0 x13 fun z15 =>
  gI 12 21 z15 r0 fun x16 =>
  isC 12 z15 r0 <| bnd (m_X12_number r0 x16 v2 z15) fun x18 z17 =>
  pI 12 23 z17 r0 x18 fun z20 =>
  some ((), z20)
abbrev mi_X12_readLay : Mi := (RX12, cX12_readLay, 4, (Option.none : Option Jvm.ClassFile.FieldType), "readLay", { frames := 8, cells := 0, slots := 0, locals := 199 })
def m_X12_readLay_B71 (k29 : Nat → Int32 → Int32 → Hp → Option (Unit × Hp)) (r0 : Nat) (v1 : Int32) (v2 : Int32) (z : Hp) : Option (Unit × Hp) :=
  k29 r0 v1 (v2 + 1) z
def m_X12_readLay_L42 (k71 : Nat → Int32 → Int32 → Hp → Option (Unit × Hp)) : Nat → Nat → Int32 → Int32 → Int32 → Hp → Option (Unit × Hp)
  | 0, _, _, _, _, _ => none
  | f + 1, r0, v1, v2, v3, z =>
    gI 12 22 z r0 fun x1 =>
    if x1 < v3 then (
      k71 r0 v1 v2 z
    ) else
    gR 12 15 z r0 fun a2 =>
    sI 1 z a2 ((48 + (12 * v2)) + v3) v1 fun z3 =>
    (m_X12_readLay_L42 k71 f) r0 v1 v2 (v3 + 1) z3
def m_X12_readLay_L29  : Nat → Nat → Int32 → Int32 → Hp → Option (Unit × Hp)
  | 0, _, _, _, _ => none
  | f + 1, r0, v1, v2, z =>
    gI 12 23 z r0 fun x4 =>
    if x4 < v2 then (
      some ((), z)
    ) else
    gI 12 20 z r0 fun x5 =>
    (m_X12_readLay_L42 (m_X12_readLay_B71 (m_X12_readLay_L29  f)) FU) r0 v1 v2 x5 z
def m_X12_readLay (r0 : Nat) (z : Hp) : Option (Unit × Hp) :=
  isC 12 z r0 <| bnd (m_X12_readBox r0 0 11 z) fun _ z6 =>
  isC 12 z6 r0 <| bnd (m_X12_told r0 24 0 3 z6) fun x9 z8 =>
  isC 12 z8 r0 <| bnd (m_X12_good r0 z8) fun x12 z11 =>
  if x12 = 0 then (
    some ((), z11)
  ) else
  gI 12 21 z11 r0 fun x14 =>
  (m_X12_readLay_L29 FU) r0 x9 x14 z11
abbrev mi_X12_readStream : Mi := (RX12, cX12_readStream, 3, (Option.none : Option Jvm.ClassFile.FieldType), "readStream", { frames := 8, cells := 0, slots := 0, locals := 199 })
def m_X12_readStream_B47  (r0 : Nat) (z : Hp) : Option (Unit × Hp) :=
  isC 12 z r0 <| bnd (m_X12_number r0 0 11 z) fun x2 z1 =>
  isC 12 z1 r0 <| bnd (m_X12_told r0 38 0 30 z1) fun x5 z4 =>
  isC 12 z4 r0 <| bnd (m_X12_good r0 z4) fun x8 z7 =>
  if x8 = 0 then (
    some ((), z7)
  ) else
  gR 12 17 z7 r0 fun a10 =>
  sI 2 z7 a10 x2 (vp_nar .boolean 1) fun z11 =>
  gR 12 15 z11 r0 fun a12 =>
  sI 1 z11 a12 (36 + x2) x5 fun z13 =>
  some ((), z13)
def m_X12_readStream (r0 : Nat) (z : Hp) : Option (Unit × Hp) :=
  isC 12 z r0 <| bnd (m_X12_good r0 z) fun x15 z14 =>
  if x15 = 0 then (
    m_X12_readStream_B47 r0 z14
  ) else
  gI 12 11 z14 r0 fun x17 =>
  if x17 = 2 then (
    gI 12 12 z14 r0 fun x18 =>
    bnd (m_X12_in (Int32.toInt64 x18) 0 11 z14) fun x20 z19 =>
    if x20 = 0 then (
      m_X12_readStream_B47 r0 z19
    ) else
    gR 12 17 z19 r0 fun a21 =>
    gI 12 12 z19 r0 fun x22 =>
    aI 2 z19 a21 x22 fun x23 =>
    if x23 = 0 then (
      m_X12_readStream_B47 r0 z19
    ) else
    isC 12 z19 r0 <| bnd (m_X12_wrong r0 2 z19) fun _ z24 =>
    m_X12_readStream_B47 r0 z24
  ) else
  m_X12_readStream_B47 r0 z14
abbrev mi_X12_readPipe : Mi := (RX12, cX12_readPipe, 6, (Option.none : Option Jvm.ClassFile.FieldType), "readPipe", { frames := 8, cells := 0, slots := 0, locals := 199 })
def m_X12_readPipe_B86  (r0 : Nat) (v1 : Int32) (z : Hp) : Option (Unit × Hp) :=
  isC 12 z r0 <| bnd (m_X12_number r0 0 11 z) fun x2 z1 =>
  isC 12 z1 r0 <| bnd (m_X12_below r0 39 (-400) z1) fun x5 z4 =>
  isC 12 z4 r0 <| bnd (m_X12_told r0 33 0 60 z4) fun x8 z7 =>
  isC 12 z7 r0 <| bnd (m_X12_good r0 z7) fun x11 z10 =>
  if x11 = 0 then (
    some ((), z10)
  ) else
  gR 12 15 z10 r0 fun a13 =>
  aI 1 z10 a13 2 fun x14 =>
  gR 12 15 z10 r0 fun a15 =>
  sI 1 z10 a15 (624 + (6 * x14)) ((12 * x2) + v1) fun z16 =>
  gR 12 15 z16 r0 fun a17 =>
  sI 1 z16 a17 ((624 + (6 * x14)) + 1) x5 fun z18 =>
  gR 12 15 z18 r0 fun a19 =>
  sI 1 z18 a19 ((624 + (6 * x14)) + 2) x8 fun z20 =>
  gR 12 15 z20 r0 fun a21 =>
  sI 1 z20 a21 ((624 + (6 * x14)) + 3) 1 fun z22 =>
  gR 12 15 z22 r0 fun a23 =>
  aI 1 z22 a23 2 fun x24 =>
  sI 1 z22 a23 2 (x24 + 1) fun z25 =>
  some ((), z25)
def m_X12_readPipe_B80 (k40 : Nat → Int32 → Int32 → Hp → Option (Unit × Hp)) (r0 : Nat) (v1 : Int32) (v2 : Int32) (z : Hp) : Option (Unit × Hp) :=
  k40 r0 v1 (v2 + 1) z
def m_X12_readPipe_L40 (k86 : Nat → Int32 → Hp → Option (Unit × Hp)) : Nat → Nat → Int32 → Int32 → Hp → Option (Unit × Hp)
  | 0, _, _, _, _ => none
  | f + 1, r0, v1, v2, z =>
    gR 12 15 z r0 fun a26 =>
    aI 1 z a26 2 fun x27 =>
    if v2 < x27 then (
      gR 12 15 z r0 fun a28 =>
      aI 1 z a28 (624 + (6 * v2)) fun x29 =>
      gI 12 12 z r0 fun x30 =>
      if x29 = ((12 * x30) + v1) then (
        isC 12 z r0 <| bnd (m_X12_wrong r0 2 z) fun _ z31 =>
        (m_X12_readPipe_B80 (m_X12_readPipe_L40 k86 f)) r0 v1 v2 z31
      ) else
      (m_X12_readPipe_B80 (m_X12_readPipe_L40 k86 f)) r0 v1 v2 z
    ) else
    k86 r0 v1 z
def m_X12_readPipe (r0 : Nat) (z : Hp) : Option (Unit × Hp) :=
  isC 12 z r0 <| bnd (m_X12_number r0 0 11 z) fun x34 z33 =>
  isC 12 z33 r0 <| bnd (m_X12_good r0 z33) fun x37 z36 =>
  if x37 = 0 then (
    m_X12_readPipe_B86 r0 x34 z36
  ) else
  gI 12 11 z36 r0 fun x39 =>
  if x39 = 2 then (
    gI 12 12 z36 r0 fun x40 =>
    bnd (m_X12_in (Int32.toInt64 x40) 0 11 z36) fun x42 z41 =>
    if x42 = 0 then (
      m_X12_readPipe_B86 r0 x34 z41
    ) else
    (m_X12_readPipe_L40 m_X12_readPipe_B86 FU) r0 x34 0 z41
  ) else
  m_X12_readPipe_B86 r0 x34 z36
abbrev mi_X12_wordHere : Mi := (RX12, cX12_wordHere, 1, (Option.some Jvm.ClassFile.FieldType.int), "wordHere", { frames := 5, cells := 0, slots := 0, locals := 133 })
def m_X12_wordHere (r0 : Nat) (z : Hp) : Option (Int32 × Hp) :=
  isC 12 z r0 <| bnd (m_X12_is r0 41 z) fun x2 z1 =>
  if x2 = 0 then (
    isC 12 z1 r0 <| bnd (m_X12_is r0 42 z1) fun x5 z4 =>
    if x5 = 0 then (
      isC 12 z4 r0 <| bnd (m_X12_is r0 43 z4) fun x8 z7 =>
      if x8 = 0 then (
        isC 12 z7 r0 <| bnd (m_X12_is r0 44 z7) fun x11 z10 =>
        if x11 = 0 then (
          isC 12 z10 r0 <| bnd (m_X12_is r0 45 z10) fun x14 z13 =>
          if x14 = 0 then (
            some ((-1), z13)
          ) else
          some (4, z13)
        ) else
        some (3, z10)
      ) else
      some (2, z7)
    ) else
    some (1, z4)
  ) else
  some (0, z1)
abbrev mi_X12_readCond : Mi := (RX12, cX12_readCond, 4, (Option.none : Option Jvm.ClassFile.FieldType), "readCond", { frames := 6, cells := 0, slots := 0, locals := 153 })
def m_X12_readCond_B131  (r0 : Nat) (v1 : Int32) (z : Hp) : Option (Unit × Hp) :=
  gR 12 15 z r0 fun a1 =>
  aI 1 z a1 v1 fun x2 =>
  sI 1 z a1 v1 (x2 + 1) fun z3 =>
  some ((), z3)
def m_X12_readCond_B92  (r0 : Nat) (v1 : Int32) (v3 : Int32) (z : Hp) : Option (Unit × Hp) :=
  isC 12 z r0 <| bnd (m_X12_good r0 z) fun x5 z4 =>
  if x5 = 0 then (
    some ((), z4)
  ) else
  gR 12 15 z4 r0 fun a7 =>
  gI 12 12 z4 r0 fun x8 =>
  sI 1 z4 a7 (v3 + 1) x8 fun z9 =>
  isC 12 z9 r0 <| bnd (m_X12_step r0 z9) fun _ z10 =>
  gR 12 15 z10 r0 fun a12 =>
  isC 12 z10 r0 <| bnd (m_X12_number r0 0 99999 z10) fun x14 z13 =>
  sI 1 z13 a12 (v3 + 2) x14 fun z16 =>
  m_X12_readCond_B131 r0 v1 z16
def m_X12_readCond_B33  (r0 : Nat) (v1 : Int32) (v2 : Int32) (z : Hp) : Option (Unit × Hp) :=
  isC 12 z r0 <| bnd (m_X12_good r0 z) fun x18 z17 =>
  if x18 = 0 then (
    some ((), z17)
  ) else
  isC 12 z17 r0 <| bnd (m_X12_step r0 z17) fun _ z20 =>
  gR 12 15 z20 r0 fun a22 =>
  aI 1 z20 a22 v1 fun x23 =>
  gR 12 15 z20 r0 fun a24 =>
  sI 1 z20 a24 ((v1 + 1) + (3 * x23)) v2 fun z25 =>
  if 0 < v2 then (
    isC 12 z25 r0 <| bnd (m_X12_isSign r0 60 z25) fun x27 z26 =>
    if x27 = 0 then (
      isC 12 z26 r0 <| bnd (m_X12_isSign r0 62 z26) fun x30 z29 =>
      if x30 = 0 then (
        isC 12 z29 r0 <| bnd (m_X12_wrong r0 1 z29) fun _ z32 =>
        m_X12_readCond_B92 r0 v1 ((v1 + 1) + (3 * x23)) z32
      ) else
      m_X12_readCond_B92 r0 v1 ((v1 + 1) + (3 * x23)) z29
    ) else
    m_X12_readCond_B92 r0 v1 ((v1 + 1) + (3 * x23)) z26
  ) else
  m_X12_readCond_B131 r0 v1 z25
def m_X12_readCond (r0 : Nat) (v1 : Int32) (z : Hp) : Option (Unit × Hp) :=
  isC 12 z r0 <| bnd (m_X12_wordHere r0 z) fun x35 z34 =>
  if x35 = (-1) then (
    isC 12 z34 r0 <| bnd (m_X12_wrong r0 1 z34) fun _ z41 =>
    m_X12_readCond_B33 r0 v1 x35 z41
  ) else
  gR 12 15 z34 r0 fun a37 =>
  aI 1 z34 a37 v1 fun x38 =>
  if x38 = 3 then (
    isC 12 z34 r0 <| bnd (m_X12_wrong r0 3 z34) fun _ z39 =>
    m_X12_readCond_B33 r0 v1 x35 z39
  ) else
  m_X12_readCond_B33 r0 v1 x35 z34
abbrev mi_X12_readRule : Mi := (RX12, cX12_readRule, 3, (Option.none : Option Jvm.ClassFile.FieldType), "readRule", { frames := 7, cells := 0, slots := 0, locals := 176 })
def m_X12_readRule_B49  (r0 : Nat) (z : Hp) : Option (Unit × Hp) :=
  isC 12 z r0 <| bnd (m_X12_good r0 z) fun x2 z1 =>
  if x2 = 0 then (
    some ((), z1)
  ) else
  gR 12 15 z1 r0 fun a4 =>
  aI 1 z1 a4 4 fun x5 =>
  sI 1 z1 a4 4 (x5 + 1) fun z6 =>
  some ((), z6)
def m_X12_readRule_L22 (k49 : Nat → Hp → Option (Unit × Hp)) : Nat → Nat → Int32 → Int32 → Hp → Option (Unit × Hp)
  | 0, _, _, _, _ => none
  | f + 1, r0, v1, v2, z =>
    if v2 = 0 then (
      k49 r0 z
    ) else
    isC 12 z r0 <| bnd (m_X12_good r0 z) fun x8 z7 =>
    if x8 = 0 then (
      k49 r0 z7
    ) else
    isC 12 z7 r0 <| bnd (m_X12_readCond r0 v1 z7) fun _ z10 =>
    isC 12 z10 r0 <| bnd (m_X12_takes r0 46 z10) fun x13 z12 =>
    (m_X12_readRule_L22 k49 f) r0 v1 x13 z12
def m_X12_readRule (r0 : Nat) (z : Hp) : Option (Unit × Hp) :=
  isC 12 z r0 <| bnd (m_X12_needs r0 40 z) fun _ z15 =>
  gR 12 15 z15 r0 fun a17 =>
  aI 1 z15 a17 4 fun x18 =>
  (m_X12_readRule_L22 m_X12_readRule_B49 FU) r0 (750 + (10 * x18)) 1 z15
abbrev mi_X12_readLine : Mi := (RX12, cX12_readLine, 4, (Option.none : Option Jvm.ClassFile.FieldType), "readLine", { frames := 9, cells := 0, slots := 0, locals := 224 })
def m_X12_readLine_B561  (r0 : Nat) (z : Hp) : Option (Unit × Hp) :=
  isC 12 z r0 <| bnd (m_X12_good r0 z) fun x2 z1 =>
  if x2 = 0 then (
    some ((), z1)
  ) else
  isC 12 z1 r0 <| bnd (m_X12_step r0 z1) fun _ z4 =>
  some ((), z4)
def m_X12_readLine_B547  (r0 : Nat) (z : Hp) : Option (Unit × Hp) :=
  isC 12 z r0 <| bnd (m_X12_isSign r0 59 z) fun x7 z6 =>
  if x7 = 0 then (
    isC 12 z6 r0 <| bnd (m_X12_wrong r0 1 z6) fun _ z9 =>
    m_X12_readLine_B561 r0 z9
  ) else
  m_X12_readLine_B561 r0 z6
def m_X12_readLine_B250  (r0 : Nat) (z : Hp) : Option (Unit × Hp) :=
  isC 12 z r0 <| bnd (m_X12_good r0 z) fun x12 z11 =>
  if x12 = 0 then (
    some ((), z11)
  ) else
  gR 12 15 z11 r0 fun a14 =>
  aI 1 z11 a14 0 fun x15 =>
  sI 1 z11 a14 0 (x15 + 1) fun z16 =>
  isC 12 z16 r0 <| bnd (m_X12_takes r0 24 z16) fun x18 z17 =>
  if x18 = 0 then (
    isC 12 z17 r0 <| bnd (m_X12_takes r0 25 z17) fun x21 z20 =>
    if x21 = 0 then (
      isC 12 z20 r0 <| bnd (m_X12_takes r0 26 z20) fun x24 z23 =>
      if x24 = 0 then (
        isC 12 z23 r0 <| bnd (m_X12_takes r0 29 z23) fun x27 z26 =>
        if x27 = 0 then (
          isC 12 z26 r0 <| bnd (m_X12_takes r0 32 z26) fun x30 z29 =>
          if x30 = 0 then (
            isC 12 z29 r0 <| bnd (m_X12_takes r0 27 z29) fun x33 z32 =>
            if x33 = 0 then (
              isC 12 z32 r0 <| bnd (m_X12_takes r0 30 z32) fun x36 z35 =>
              if x36 = 0 then (
                isC 12 z35 r0 <| bnd (m_X12_takes r0 28 z35) fun x39 z38 =>
                if x39 = 0 then (
                  isC 12 z38 r0 <| bnd (m_X12_step r0 z38) fun _ z41 =>
                  gR 12 15 z41 r0 fun a43 =>
                  aI 1 z41 a43 3 fun x44 =>
                  gR 12 15 z41 r0 fun a45 =>
                  isC 12 z41 r0 <| bnd (m_X12_number r0 0 10 z41) fun x47 z46 =>
                  sI 1 z46 a45 (732 + (3 * x44)) x47 fun z49 =>
                  gR 12 15 z49 r0 fun a50 =>
                  isC 12 z49 r0 <| bnd (m_X12_told r0 47 0 999 z49) fun x52 z51 =>
                  sI 1 z51 a50 ((732 + (3 * x44)) + 1) x52 fun z54 =>
                  gR 12 15 z54 r0 fun a55 =>
                  aI 1 z54 a55 3 fun x56 =>
                  sI 1 z54 a55 3 (x56 + 1) fun z57 =>
                  m_X12_readLine_B547 r0 z57
                ) else
                isC 12 z38 r0 <| bnd (m_X12_readBox r0 1 10 z38) fun _ z58 =>
                gR 12 15 z58 r0 fun a60 =>
                sI 1 z58 a60 7 1 fun z61 =>
                gR 12 15 z61 r0 fun a62 =>
                gI 12 20 z61 r0 fun x63 =>
                sI 1 z61 a62 8 x63 fun z64 =>
                gR 12 15 z64 r0 fun a65 =>
                gI 12 21 z64 r0 fun x66 =>
                sI 1 z64 a65 9 x66 fun z67 =>
                gR 12 15 z67 r0 fun a68 =>
                gI 12 22 z67 r0 fun x69 =>
                sI 1 z67 a68 10 x69 fun z70 =>
                gR 12 15 z70 r0 fun a71 =>
                gI 12 23 z70 r0 fun x72 =>
                sI 1 z70 a71 11 x72 fun z73 =>
                m_X12_readLine_B547 r0 z73
              ) else
              pI 12 19 z35 r0 1 fun z74 =>
              gR 12 15 z74 r0 fun a75 =>
              isC 12 z74 r0 <| bnd (m_X12_number r0 0 99999 z74) fun x77 z76 =>
              sI 1 z76 a75 6 x77 fun z79 =>
              m_X12_readLine_B547 r0 z79
            ) else
            pI 12 18 z32 r0 1 fun z80 =>
            gR 12 15 z80 r0 fun a81 =>
            isC 12 z80 r0 <| bnd (m_X12_number r0 1 300 z80) fun x83 z82 =>
            sI 1 z82 a81 5 x83 fun z85 =>
            m_X12_readLine_B547 r0 z85
          ) else
          isC 12 z29 r0 <| bnd (m_X12_readRule r0 z29) fun _ z86 =>
          m_X12_readLine_B547 r0 z86
        ) else
        isC 12 z26 r0 <| bnd (m_X12_readPipe r0 z26) fun _ z88 =>
        m_X12_readLine_B547 r0 z88
      ) else
      isC 12 z23 r0 <| bnd (m_X12_readStream r0 z23) fun _ z90 =>
      m_X12_readLine_B547 r0 z90
    ) else
    isC 12 z20 r0 <| bnd (m_X12_readLay r0 z20) fun _ z92 =>
    m_X12_readLine_B547 r0 z92
  ) else
  isC 12 z17 r0 <| bnd (m_X12_readGround r0 z17) fun _ z94 =>
  m_X12_readLine_B547 r0 z94
def m_X12_readLine_B228  (r0 : Nat) (v1 : Int32) (t0 : Int32) (z : Hp) : Option (Unit × Hp) :=
  if v1 = 0 then (
    isC 12 z r0 <| bnd (m_X12_wrong r0 1 z) fun _ z98 =>
    m_X12_readLine_B250 r0 z98
  ) else
  if t0 = 0 then (
    m_X12_readLine_B250 r0 z
  ) else
  isC 12 z r0 <| bnd (m_X12_wrong r0 3 z) fun _ z96 =>
  m_X12_readLine_B250 r0 z96
def m_X12_readLine_B227  (r0 : Nat) (v1 : Int32) (z : Hp) : Option (Unit × Hp) :=
  m_X12_readLine_B228 r0 v1 0 z
def m_X12_readLine_B223  (r0 : Nat) (v1 : Int32) (z : Hp) : Option (Unit × Hp) :=
  m_X12_readLine_B228 r0 v1 1 z
def m_X12_readLine_B206  (r0 : Nat) (v1 : Int32) (z : Hp) : Option (Unit × Hp) :=
  isC 12 z r0 <| bnd (m_X12_is r0 30 z) fun x101 z100 =>
  if x101 = 0 then (
    m_X12_readLine_B227 r0 v1 z100
  ) else
  gI 12 19 z100 r0 fun x103 =>
  if x103 = 0 then (
    m_X12_readLine_B227 r0 v1 z100
  ) else
  m_X12_readLine_B223 r0 v1 z100
def m_X12_readLine_B185  (r0 : Nat) (v1 : Int32) (z : Hp) : Option (Unit × Hp) :=
  isC 12 z r0 <| bnd (m_X12_is r0 28 z) fun x105 z104 =>
  if x105 = 0 then (
    m_X12_readLine_B206 r0 v1 z104
  ) else
  gR 12 15 z104 r0 fun a107 =>
  aI 1 z104 a107 7 fun x108 =>
  if x108 = 1 then (
    m_X12_readLine_B223 r0 v1 z104
  ) else
  m_X12_readLine_B206 r0 v1 z104
def m_X12_readLine_B168  (r0 : Nat) (v1 : Int32) (z : Hp) : Option (Unit × Hp) :=
  isC 12 z r0 <| bnd (m_X12_is r0 27 z) fun x110 z109 =>
  if x110 = 0 then (
    m_X12_readLine_B185 r0 v1 z109
  ) else
  gI 12 18 z109 r0 fun x112 =>
  if x112 = 0 then (
    m_X12_readLine_B185 r0 v1 z109
  ) else
  m_X12_readLine_B223 r0 v1 z109
def m_X12_readLine_B148  (r0 : Nat) (v1 : Int32) (z : Hp) : Option (Unit × Hp) :=
  isC 12 z r0 <| bnd (m_X12_is r0 32 z) fun x114 z113 =>
  if x114 = 0 then (
    m_X12_readLine_B168 r0 v1 z113
  ) else
  gR 12 15 z113 r0 fun a116 =>
  aI 1 z113 a116 4 fun x117 =>
  if x117 = 4 then (
    m_X12_readLine_B223 r0 v1 z113
  ) else
  m_X12_readLine_B168 r0 v1 z113
def m_X12_readLine_B127  (r0 : Nat) (v1 : Int32) (z : Hp) : Option (Unit × Hp) :=
  isC 12 z r0 <| bnd (m_X12_is r0 31 z) fun x119 z118 =>
  if x119 = 0 then (
    m_X12_readLine_B148 r0 v1 z118
  ) else
  gR 12 15 z118 r0 fun a121 =>
  aI 1 z118 a121 3 fun x122 =>
  if x122 = 6 then (
    m_X12_readLine_B223 r0 v1 z118
  ) else
  m_X12_readLine_B148 r0 v1 z118
def m_X12_readLine_B94  (r0 : Nat) (t0 : Int32) (z : Hp) : Option (Unit × Hp) :=
  gR 12 15 z r0 fun a123 =>
  aI 1 z a123 0 fun x124 =>
  if x124 = 40 then (
    m_X12_readLine_B223 r0 t0 z
  ) else
  isC 12 z r0 <| bnd (m_X12_is r0 29 z) fun x126 z125 =>
  if x126 = 0 then (
    m_X12_readLine_B127 r0 t0 z125
  ) else
  gR 12 15 z125 r0 fun a128 =>
  aI 1 z125 a128 2 fun x129 =>
  if x129 = 12 then (
    m_X12_readLine_B223 r0 t0 z125
  ) else
  m_X12_readLine_B127 r0 t0 z125
def m_X12_readLine_B89  (r0 : Nat) (z : Hp) : Option (Unit × Hp) :=
  m_X12_readLine_B94 r0 1 z
def m_X12_readLine (r0 : Nat) (z : Hp) : Option (Unit × Hp) :=
  isC 12 z r0 <| bnd (m_X12_is r0 24 z) fun x131 z130 =>
  if x131 = 0 then (
    isC 12 z130 r0 <| bnd (m_X12_is r0 25 z130) fun x134 z133 =>
    if x134 = 0 then (
      isC 12 z133 r0 <| bnd (m_X12_is r0 26 z133) fun x137 z136 =>
      if x137 = 0 then (
        isC 12 z136 r0 <| bnd (m_X12_is r0 27 z136) fun x140 z139 =>
        if x140 = 0 then (
          isC 12 z139 r0 <| bnd (m_X12_is r0 28 z139) fun x143 z142 =>
          if x143 = 0 then (
            isC 12 z142 r0 <| bnd (m_X12_is r0 29 z142) fun x146 z145 =>
            if x146 = 0 then (
              isC 12 z145 r0 <| bnd (m_X12_is r0 30 z145) fun x149 z148 =>
              if x149 = 0 then (
                isC 12 z148 r0 <| bnd (m_X12_is r0 31 z148) fun x152 z151 =>
                if x152 = 0 then (
                  isC 12 z151 r0 <| bnd (m_X12_is r0 32 z151) fun x155 z154 =>
                  if x155 = 0 then (
                    m_X12_readLine_B94 r0 0 z154
                  ) else
                  m_X12_readLine_B89 r0 z154
                ) else
                m_X12_readLine_B89 r0 z151
              ) else
              m_X12_readLine_B89 r0 z148
            ) else
            m_X12_readLine_B89 r0 z145
          ) else
          m_X12_readLine_B89 r0 z142
        ) else
        m_X12_readLine_B89 r0 z139
      ) else
      m_X12_readLine_B89 r0 z136
    ) else
    m_X12_readLine_B89 r0 z133
  ) else
  m_X12_readLine_B89 r0 z130
abbrev mi_X12_text : Mi := (RX12, cX12_text, 2, (Option.some Jvm.ClassFile.FieldType.int), "text", { frames := 10, cells := 0, slots := 0, locals := 247 })
def m_X12_text_B148  (r0 : Nat) (z : Hp) : Option (Int32 × Hp) :=
  isC 12 z r0 <| bnd (m_X12_begins r0 z) fun _ z1 =>
  gR 12 1 z1 r0 fun a3 =>
  aI 1 z1 a3 0 fun x4 =>
  some (x4, z1)
def m_X12_text_L123 (k148 : Nat → Hp → Option (Int32 × Hp)) : Nat → Nat → Int32 → Hp → Option (Int32 × Hp)
  | 0, _, _, _ => none
  | f + 1, r0, v1, z =>
    if v1 < 810 then (
      gR 12 1 z r0 fun a5 =>
      gR 12 15 z r0 fun a6 =>
      aI 1 z a6 v1 fun x7 =>
      sI 1 z a5 v1 x7 fun z8 =>
      (m_X12_text_L123 k148 f) r0 (v1 + 1) z8
    ) else
    k148 r0 z
def m_X12_text_B111  (r0 : Nat) (z : Hp) : Option (Int32 × Hp) :=
  isC 12 z r0 <| bnd (m_X12_good r0 z) fun x10 z9 =>
  if x10 = 0 then (
    some ((-4), z9)
  ) else
  (m_X12_text_L123 m_X12_text_B148 FU) r0 0 z9
def m_X12_text_L90 (k111 : Nat → Hp → Option (Int32 × Hp)) : Nat → Nat → Hp → Option (Int32 × Hp)
  | 0, _, _ => none
  | f + 1, r0, z =>
    isC 12 z r0 <| bnd (m_X12_good r0 z) fun x13 z12 =>
    if x13 = 0 then (
      k111 r0 z12
    ) else
    gI 12 11 z12 r0 fun x15 =>
    if x15 = 0 then (
      k111 r0 z12
    ) else
    isC 12 z12 r0 <| bnd (m_X12_readLine r0 z12) fun _ z16 =>
    (m_X12_text_L90 k111 f) r0 z16
def m_X12_text_B86  (r0 : Nat) (z : Hp) : Option (Int32 × Hp) :=
  isC 12 z r0 <| bnd (m_X12_step r0 z) fun _ z18 =>
  (m_X12_text_L90 m_X12_text_B111 FU) r0 z18
def m_X12_text_L67 (k86 : Nat → Hp → Option (Int32 × Hp)) : Nat → Nat → Int32 → Hp → Option (Int32 × Hp)
  | 0, _, _, _ => none
  | f + 1, r0, v1, z =>
    if v1 < 12 then (
      gR 12 17 z r0 fun a20 =>
      sI 2 z a20 v1 (vp_nar .boolean 0) fun z21 =>
      (m_X12_text_L67 k86 f) r0 (v1 + 1) z21
    ) else
    k86 r0 z
def m_X12_text_B65  (r0 : Nat) (z : Hp) : Option (Int32 × Hp) :=
  (m_X12_text_L67 m_X12_text_B86 FU) r0 0 z
def m_X12_text_L47 (k65 : Nat → Hp → Option (Int32 × Hp)) : Nat → Nat → Int32 → Hp → Option (Int32 × Hp)
  | 0, _, _, _ => none
  | f + 1, r0, v1, z =>
    if v1 < 4 then (
      gR 12 16 z r0 fun a22 =>
      sI 2 z a22 v1 (vp_nar .boolean 0) fun z23 =>
      (m_X12_text_L47 k65 f) r0 (v1 + 1) z23
    ) else
    k65 r0 z
def m_X12_text (r0 : Nat) (z : Hp) : Option (Int32 × Hp) :=
  gI 12 6 z r0 fun x24 =>
  pI 12 8 z r0 x24 fun z25 =>
  pI 12 6 z25 r0 0 fun z26 =>
  pI 12 9 z26 r0 0 fun z27 =>
  pI 12 13 z27 r0 0 fun z28 =>
  pI 12 14 z28 r0 (-1) fun z29 =>
  gR 12 15 z29 r0 fun a30 =>
  bnd (m_X12_plain a30 z29) fun _ z31 =>
  pI 12 18 z31 r0 0 fun z32 =>
  pI 12 19 z32 r0 0 fun z33 =>
  (m_X12_text_L47 m_X12_text_B65 FU) r0 0 z33
abbrev mi_X12_fault : Mi := (RX12, cX12_fault, 2, (Option.some Jvm.ClassFile.FieldType.int), "fault", { frames := 0, cells := 0, slots := 0, locals := 0 })
def m_X12_fault (r0 : Nat) (v1 : Int32) (z : Hp) : Option (Int32 × Hp) :=
  if v1 = 0 then (
    gI 12 13 z r0 fun x2 =>
    some (x2, z)
  ) else
  if v1 = 1 then (
    gI 12 14 z r0 fun x1 =>
    some (x1, z)
  ) else
  some ((-1), z)
abbrev mi_X12_leadOf : Mi := (RX12, cX12_leadOf, 2, (Option.some Jvm.ClassFile.FieldType.int), "leadOf", { frames := 2, cells := 0, slots := 0, locals := 43 })
def m_X12_leadOf_B15  (t0 : Int32) (t1 : Int32) (b2 : Nat) (z : Hp) : Option (Int32 × Hp) :=
  isC 12 z b2 <| bnd (m_X12_groundOf b2 t1 t0 z) fun x2 z1 =>
  some (x2, z1)
def m_X12_leadOf (r0 : Nat) (v1 : Int32) (z : Hp) : Option (Int32 × Hp) :=
  isC 12 z r0 <| bnd (m_X12_isFrozen r0 v1 z) fun x5 z4 =>
  if x5 = 0 then (
    m_X12_leadOf_B15 0 v1 r0 z4
  ) else
  m_X12_leadOf_B15 1 v1 r0 z4
abbrev mi_X12_comesBeside : Mi := (RX12, cX12_comesBeside, 5, (Option.none : Option Jvm.ClassFile.FieldType), "comesBeside", { frames := 3, cells := 0, slots := 0, locals := 69 })
def m_X12_comesBeside_B127 (k2 : Nat → Int32 → Int32 → Hp → Option (Unit × Hp)) (r0 : Nat) (v1 : Int32) (v2 : Int32) (z : Hp) : Option (Unit × Hp) :=
  k2 r0 v1 (v2 + 1) z
def m_X12_comesBeside_L2  : Nat → Nat → Int32 → Int32 → Hp → Option (Unit × Hp)
  | 0, _, _, _, _ => none
  | f + 1, r0, v1, v2, z =>
    if v2 < 4 then (
      bnd (m_X12_beside v1 v2 z) fun x2 z1 =>
      if x2 = (-1) then (
        gR 12 1 z1 r0 fun a21 =>
        aI 1 z1 a21 5 fun x22 =>
        gR 12 1 z1 r0 fun a23 =>
        aI 1 z1 a23 (192 + v1) fun x24 =>
        isC 12 z1 r0 <| bnd (m_X12_leadOf r0 v1 z1) fun x26 z25 =>
        gR 12 24 z25 r0 fun a28 =>
        aI 1 z25 a28 v1 fun x29 =>
        sI 1 z25 a28 v1 (x29 + (((x22 - x24) * x26) / 100)) fun z30 =>
        gR 12 1 z30 r0 fun a31 =>
        aI 1 z30 a31 15 fun x32 =>
        sI 1 z30 a31 15 (x32 + (((x22 - x24) * x26) / 100)) fun z33 =>
        (m_X12_comesBeside_B127 (m_X12_comesBeside_L2  f)) r0 v1 v2 z33
      ) else
      isC 12 z1 r0 <| bnd (m_X12_isDug r0 x2 z1) fun x4 z3 =>
      if x4 = 0 then (
        gR 12 24 z3 r0 fun a6 =>
        aI 1 z3 a6 v1 fun x7 =>
        gR 12 1 z3 r0 fun a8 =>
        aI 1 z3 a8 (192 + x2) fun x9 =>
        gR 12 1 z3 r0 fun a10 =>
        aI 1 z3 a10 (192 + v1) fun x11 =>
        isC 12 z3 r0 <| bnd (m_X12_leadOf r0 v1 z3) fun x13 z12 =>
        isC 12 z12 r0 <| bnd (m_X12_leadOf r0 x2 z12) fun x16 z15 =>
        bnd (m_J9_min_7cf53 x13 x16 z15) fun x19 z18 =>
        sI 1 z18 a6 v1 (x7 + (((x9 - x11) * x19) / 100)) fun z20 =>
        (m_X12_comesBeside_B127 (m_X12_comesBeside_L2  f)) r0 v1 v2 z20
      ) else
      (m_X12_comesBeside_B127 (m_X12_comesBeside_L2  f)) r0 v1 v2 z3
    ) else
    some ((), z)
def m_X12_comesBeside (r0 : Nat) (v1 : Int32) (z : Hp) : Option (Unit × Hp) :=
  (m_X12_comesBeside_L2 FU) r0 v1 0 z
abbrev mi_X12_streams : Mi := (RX12, cX12_streams, 5, (Option.none : Option Jvm.ClassFile.FieldType), "streams", { frames := 3, cells := 0, slots := 0, locals := 69 })
def m_X12_streams_B78  (r0 : Nat) (v1 : Int32) (v2 : Int32) (t0 : Int32) (z : Hp) : Option (Unit × Hp) :=
  gR 12 1 z r0 fun a1 =>
  aI 1 z a1 (192 + v1) fun x2 =>
  gR 12 24 z r0 fun a3 =>
  aI 1 z a3 v1 fun x4 =>
  sI 1 z a3 v1 (x4 + (((t0 - x2) * v2) / 100)) fun z5 =>
  gR 12 1 z5 r0 fun a6 =>
  aI 1 z5 a6 16 fun x7 =>
  sI 1 z5 a6 16 (x7 + (((t0 - x2) * v2) / 100)) fun z8 =>
  some ((), z8)
def m_X12_streams_B54  (r0 : Nat) (v1 : Int32) (v2 : Int32) (v3 : Int32) (z : Hp) : Option (Unit × Hp) :=
  if v3 = (-1) then (
    gR 12 1 z r0 fun a11 =>
    aI 1 z a11 5 fun x12 =>
    m_X12_streams_B78 r0 v1 v2 x12 z
  ) else
  gR 12 1 z r0 fun a9 =>
  aI 1 z a9 (192 + v3) fun x10 =>
  m_X12_streams_B78 r0 v1 v2 x10 z
def m_X12_streams (r0 : Nat) (v1 : Int32) (z : Hp) : Option (Unit × Hp) :=
  gR 12 1 z r0 fun a13 =>
  aI 1 z a13 (36 + (v1 / 12)) fun x14 =>
  if x14 = 0 then (
    some ((), z)
  ) else
  isC 12 z r0 <| bnd (m_X12_isFrozen r0 v1 z) fun x16 z15 =>
  if x16 = 0 then (
    bnd (m_X12_beside v1 1 z15) fun x19 z18 =>
    if x19 = (-1) then (
      m_X12_streams_B54 r0 v1 x14 x19 z18
    ) else
    isC 12 z18 r0 <| bnd (m_X12_isFrozen r0 x19 z18) fun x21 z20 =>
    if x21 = 0 then (
      isC 12 z20 r0 <| bnd (m_X12_isDug r0 x19 z20) fun x24 z23 =>
      if x24 = 0 then (
        m_X12_streams_B54 r0 v1 x14 x19 z23
      ) else
      some ((), z23)
    ) else
    some ((), z20)
  ) else
  some ((), z15)
abbrev mi_X12_pipes : Mi := (RX12, cX12_pipes, 7, (Option.none : Option Jvm.ClassFile.FieldType), "pipes", { frames := 1, cells := 0, slots := 0, locals := 21 })
def m_X12_pipes_B213 (k152 : Nat → Int64 → Int32 → Hp → Option (Unit × Hp)) (r0 : Nat) (w1 : Int64) (v3 : Int32) (v4 : Int32) (t0 : Int32) (z : Hp) : Option (Unit × Hp) :=
  gR 12 24 z r0 fun a1 =>
  gR 12 1 z r0 fun a2 =>
  aI 1 z a2 v4 fun x3 =>
  aI 1 z a1 x3 fun x4 =>
  sI 1 z a1 x3 (x4 - t0) fun z5 =>
  gR 12 1 z5 r0 fun a6 =>
  sI 1 z5 a6 (v4 + 4) t0 fun z7 =>
  gR 12 1 z7 r0 fun a8 =>
  aI 1 z7 a8 (v4 + 5) fun x9 =>
  sI 1 z7 a8 (v4 + 5) (x9 + t0) fun z10 =>
  gR 12 1 z10 r0 fun a11 =>
  aI 1 z10 a11 14 fun x12 =>
  sI 1 z10 a11 14 (x12 + t0) fun z13 =>
  k152 r0 w1 (v3 + 1) z13
def m_X12_pipes_L152  : Nat → Nat → Int64 → Int32 → Hp → Option (Unit × Hp)
  | 0, _, _, _, _ => none
  | f + 1, r0, w1, v3, z =>
    gR 12 1 z r0 fun a14 =>
    aI 1 z a14 2 fun x15 =>
    if v3 < x15 then (
      gR 12 1 z r0 fun a16 =>
      aI 1 z a16 6 fun x17 =>
      if 0 < (lg_cmp w1 (Int32.toInt64 x17)) then (
        gR 12 25 z r0 fun a20 =>
        aI 1 z a20 v3 fun x21 =>
        gR 12 1 z r0 fun a22 =>
        aI 1 z a22 6 fun x23 =>
        if w1 = 0 then none else
        (m_X12_pipes_B213 (m_X12_pipes_L152  f)) r0 w1 v3 (624 + (6 * v3)) (Int64.toInt32 (((Int32.toInt64 x21) * (Int32.toInt64 x23)) / w1)) z
      ) else
      gR 12 25 z r0 fun a18 =>
      aI 1 z a18 v3 fun x19 =>
      (m_X12_pipes_B213 (m_X12_pipes_L152  f)) r0 w1 v3 (624 + (6 * v3)) x19 z
    ) else
    some ((), z)
def m_X12_pipes_B150  (r0 : Nat) (w1 : Int64) (z : Hp) : Option (Unit × Hp) :=
  (m_X12_pipes_L152 FU) r0 w1 0 z
def m_X12_pipes_B133 (k4 : Nat → Int64 → Int32 → Hp → Option (Unit × Hp)) (r0 : Nat) (w1 : Int64) (v3 : Int32) (t0 : Int32) (t1 : Int32) (b2 : Nat) (z : Hp) : Option (Unit × Hp) :=
  sI 1 z b2 t1 t0 fun z25 =>
  gR 12 25 z25 r0 fun a26 =>
  aI 1 z25 a26 v3 fun x27 =>
  k4 r0 (w1 + (Int32.toInt64 x27)) (v3 + 1) z25
def m_X12_pipes_B83 (k4 : Nat → Int64 → Int32 → Hp → Option (Unit × Hp)) (r0 : Nat) (w1 : Int64) (v3 : Int32) (v4 : Int32) (v5 : Int32) (t0 : Int32) (z : Hp) : Option (Unit × Hp) :=
  gR 12 25 z r0 fun a28 =>
  if t0 = 0 then (
    (m_X12_pipes_B133 k4) r0 w1 v3 0 v3 a28 z
  ) else
  gR 12 1 z r0 fun a29 =>
  aI 1 z a29 (192 + v5) fun x30 =>
  gR 12 1 z r0 fun a31 =>
  aI 1 z a31 (v4 + 1) fun x32 =>
  gR 12 1 z r0 fun a33 =>
  aI 1 z a33 (v4 + 2) fun x34 =>
  (m_X12_pipes_B133 k4) r0 w1 v3 (((x30 - x32) * x34) / 100) v3 a28 z
def m_X12_pipes_B82 (k4 : Nat → Int64 → Int32 → Hp → Option (Unit × Hp)) (r0 : Nat) (w1 : Int64) (v3 : Int32) (v4 : Int32) (v5 : Int32) (z : Hp) : Option (Unit × Hp) :=
  (m_X12_pipes_B83 k4) r0 w1 v3 v4 v5 0 z
def m_X12_pipes_L4 (k150 : Nat → Int64 → Hp → Option (Unit × Hp)) : Nat → Nat → Int64 → Int32 → Hp → Option (Unit × Hp)
  | 0, _, _, _, _ => none
  | f + 1, r0, w1, v3, z =>
    gR 12 1 z r0 fun a35 =>
    aI 1 z a35 2 fun x36 =>
    if v3 < x36 then (
      gR 12 1 z r0 fun a37 =>
      aI 1 z a37 (624 + (6 * v3)) fun x38 =>
      gR 12 1 z r0 fun a39 =>
      aI 1 z a39 ((624 + (6 * v3)) + 3) fun x40 =>
      if x40 = 1 then (
        isC 12 z r0 <| bnd (m_X12_isDug r0 x38 z) fun x42 z41 =>
        if x42 = 0 then (
          gR 12 1 z41 r0 fun a44 =>
          aI 1 z41 a44 (192 + x38) fun x45 =>
          gR 12 1 z41 r0 fun a46 =>
          aI 1 z41 a46 ((624 + (6 * v3)) + 1) fun x47 =>
          if x47 < x45 then (
            (m_X12_pipes_B83 (m_X12_pipes_L4 k150 f)) r0 w1 v3 (624 + (6 * v3)) x38 1 z41
          ) else
          (m_X12_pipes_B82 (m_X12_pipes_L4 k150 f)) r0 w1 v3 (624 + (6 * v3)) x38 z41
        ) else
        (m_X12_pipes_B82 (m_X12_pipes_L4 k150 f)) r0 w1 v3 (624 + (6 * v3)) x38 z41
      ) else
      (m_X12_pipes_B82 (m_X12_pipes_L4 k150 f)) r0 w1 v3 (624 + (6 * v3)) x38 z
    ) else
    k150 r0 w1 z
def m_X12_pipes (r0 : Nat) (z : Hp) : Option (Unit × Hp) :=
  (m_X12_pipes_L4 m_X12_pipes_B150 FU) r0 0 0 z
abbrev mi_X12_does : Mi := (RX12, cX12_does, 6, (Option.none : Option Jvm.ClassFile.FieldType), "does", { frames := 1, cells := 0, slots := 0, locals := 22 })
def m_X12_does (r0 : Nat) (v1 : Int32) (z : Hp) : Option (Unit × Hp) :=
  isC 12 z r0 <| bnd (m_X12_groundOf r0 v1 3 z) fun x2 z1 =>
  gR 12 24 z1 r0 fun a4 =>
  aI 1 z1 a4 v1 fun x5 =>
  if x5 < 0 then (
    gR 12 1 z1 r0 fun a22 =>
    aI 1 z1 a22 (192 + v1) fun x23 =>
    bnd (m_J9_max_7cf53 0 (x23 - x2) z1) fun x25 z24 =>
    bnd (m_J9_min_7cf53 (-x5) x25 z24) fun x27 z26 =>
    isC 12 z26 r0 <| bnd (m_X12_groundOf r0 v1 2 z26) fun x29 z28 =>
    gR 12 1 z28 r0 fun a31 =>
    aI 1 z28 a31 (336 + v1) fun x32 =>
    bnd (m_J9_min_7cf53 ((-x5) - x27) (x29 - x32) z28) fun x34 z33 =>
    gR 12 1 z33 r0 fun a35 =>
    aI 1 z33 a35 (336 + v1) fun x36 =>
    sI 1 z33 a35 (336 + v1) (x36 + x34) fun z37 =>
    gR 12 1 z37 r0 fun a38 =>
    aI 1 z37 a38 (192 + v1) fun x39 =>
    sI 1 z37 a38 (192 + v1) (x39 + (x5 + x34)) fun z40 =>
    some ((), z40)
  ) else
  gR 12 1 z1 r0 fun a6 =>
  aI 1 z1 a6 (192 + v1) fun x7 =>
  bnd (m_J9_max_7cf53 0 (x2 - x7) z1) fun x9 z8 =>
  bnd (m_J9_min_7cf53 x5 x9 z8) fun x11 z10 =>
  gR 12 1 z10 r0 fun a12 =>
  aI 1 z10 a12 (336 + v1) fun x13 =>
  bnd (m_J9_min_7cf53 (x5 - x11) x13 z10) fun x15 z14 =>
  gR 12 1 z14 r0 fun a16 =>
  aI 1 z14 a16 (336 + v1) fun x17 =>
  sI 1 z14 a16 (336 + v1) (x17 - x15) fun z18 =>
  gR 12 1 z18 r0 fun a19 =>
  aI 1 z18 a19 (192 + v1) fun x20 =>
  sI 1 z18 a19 (192 + v1) (x20 + (x5 - x15)) fun z21 =>
  some ((), z21)
abbrev mi_X12_liftOf : Mi := (RX12, cX12_liftOf, 4, (Option.some Jvm.ClassFile.FieldType.int), "liftOf", { frames := 1, cells := 0, slots := 0, locals := 21 })
def m_X12_liftOf_B46 (k4 : Nat → Int32 → Int32 → Int32 → Hp → Option (Int32 × Hp)) (r0 : Nat) (v1 : Int32) (v3 : Int32) (t0 : Int32) (t1 : Int32) (z : Hp) : Option (Int32 × Hp) :=
  k4 r0 v1 (t1 + t0) (v3 + 1) z
def m_X12_liftOf_L4  : Nat → Nat → Int32 → Int32 → Int32 → Hp → Option (Int32 × Hp)
  | 0, _, _, _, _, _ => none
  | f + 1, r0, v1, v2, v3, z =>
    if v3 < 12 then (
      isC 12 z r0 <| bnd (m_X12_isDug r0 ((12 * v3) + v1) z) fun x2 z1 =>
      if x2 = 0 then (
        gR 12 1 z1 r0 fun a4 =>
        aI 1 z1 a4 ((336 + (12 * v3)) + v1) fun x5 =>
        (m_X12_liftOf_B46 (m_X12_liftOf_L4  f)) r0 v1 v3 (x5 / 10) v2 z1
      ) else
      (m_X12_liftOf_B46 (m_X12_liftOf_L4  f)) r0 v1 v3 0 v2 z1
    ) else
    some (v2, z)
def m_X12_liftOf (r0 : Nat) (v1 : Int32) (z : Hp) : Option (Int32 × Hp) :=
  (m_X12_liftOf_L4 FU) r0 v1 0 0 z
abbrev mi_X12_anyDug : Mi := (RX12, cX12_anyDug, 3, (Option.some Jvm.ClassFile.FieldType.boolean), "anyDug", { frames := 1, cells := 0, slots := 0, locals := 21 })
def m_X12_anyDug_B28 (k4 : Nat → Int32 → Int32 → Hp → Option (Int32 × Hp)) (r0 : Nat) (v2 : Int32) (t0 : Int32) (z : Hp) : Option (Int32 × Hp) :=
  k4 r0 t0 (v2 + 1) z
def m_X12_anyDug_B23 (k4 : Nat → Int32 → Int32 → Hp → Option (Int32 × Hp)) (r0 : Nat) (v2 : Int32) (z : Hp) : Option (Int32 × Hp) :=
  (m_X12_anyDug_B28 k4) r0 v2 1 z
def m_X12_anyDug_L4  : Nat → Nat → Int32 → Int32 → Hp → Option (Int32 × Hp)
  | 0, _, _, _, _ => none
  | f + 1, r0, v1, v2, z =>
    if v2 < 144 then (
      if v1 = 0 then (
        isC 12 z r0 <| bnd (m_X12_isDug r0 v2 z) fun x2 z1 =>
        if x2 = 0 then (
          (m_X12_anyDug_B28 (m_X12_anyDug_L4  f)) r0 v2 0 z1
        ) else
        (m_X12_anyDug_B23 (m_X12_anyDug_L4  f)) r0 v2 z1
      ) else
      (m_X12_anyDug_B23 (m_X12_anyDug_L4  f)) r0 v2 z
    ) else
    some (vp_nar .boolean v1, z)
def m_X12_anyDug (r0 : Nat) (z : Hp) : Option (Int32 × Hp) :=
  (m_X12_anyDug_L4 FU) r0 0 0 z
abbrev mi_X12_isBesideShaft : Mi := (RX12, cX12_isBesideShaft, 4, (Option.some Jvm.ClassFile.FieldType.boolean), "isBesideShaft", { frames := 3, cells := 0, slots := 0, locals := 69 })
def m_X12_isBesideShaft_B46  (r0 : Nat) (v1 : Int32) (v2 : Int32) (z : Hp) : Option (Int32 × Hp) :=
  if v2 = 0 then (
    some (0, z)
  ) else
  isC 12 z r0 <| bnd (m_X12_isShaft r0 v1 z) fun x2 z1 =>
  if x2 = 0 then (
    some (1, z1)
  ) else
  some (0, z1)
def m_X12_isBesideShaft_B39 (k4 : Nat → Int32 → Int32 → Int32 → Hp → Option (Int32 × Hp)) (r0 : Nat) (v1 : Int32) (v3 : Int32) (t0 : Int32) (z : Hp) : Option (Int32 × Hp) :=
  k4 r0 v1 t0 (v3 + 1) z
def m_X12_isBesideShaft_B38 (k4 : Nat → Int32 → Int32 → Int32 → Hp → Option (Int32 × Hp)) (r0 : Nat) (v1 : Int32) (v3 : Int32) (z : Hp) : Option (Int32 × Hp) :=
  (m_X12_isBesideShaft_B39 k4) r0 v1 v3 0 z
def m_X12_isBesideShaft_B34 (k4 : Nat → Int32 → Int32 → Int32 → Hp → Option (Int32 × Hp)) (r0 : Nat) (v1 : Int32) (v3 : Int32) (z : Hp) : Option (Int32 × Hp) :=
  (m_X12_isBesideShaft_B39 k4) r0 v1 v3 1 z
def m_X12_isBesideShaft_L4 (k46 : Nat → Int32 → Int32 → Hp → Option (Int32 × Hp)) : Nat → Nat → Int32 → Int32 → Int32 → Hp → Option (Int32 × Hp)
  | 0, _, _, _, _, _ => none
  | f + 1, r0, v1, v2, v3, z =>
    if v3 < 4 then (
      if v2 = 0 then (
        bnd (m_X12_beside v1 v3 z) fun x5 z4 =>
        if x5 = (-1) then (
          (m_X12_isBesideShaft_B38 (m_X12_isBesideShaft_L4 k46 f)) r0 v1 v3 z4
        ) else
        bnd (m_X12_beside v1 v3 z4) fun x7 z6 =>
        isC 12 z6 r0 <| bnd (m_X12_isShaft r0 x7 z6) fun x9 z8 =>
        if x9 = 0 then (
          (m_X12_isBesideShaft_B38 (m_X12_isBesideShaft_L4 k46 f)) r0 v1 v3 z8
        ) else
        (m_X12_isBesideShaft_B34 (m_X12_isBesideShaft_L4 k46 f)) r0 v1 v3 z8
      ) else
      (m_X12_isBesideShaft_B34 (m_X12_isBesideShaft_L4 k46 f)) r0 v1 v3 z
    ) else
    k46 r0 v1 v2 z
def m_X12_isBesideShaft (r0 : Nat) (v1 : Int32) (z : Hp) : Option (Int32 × Hp) :=
  (m_X12_isBesideShaft_L4 m_X12_isBesideShaft_B46 FU) r0 v1 0 0 z
abbrev mi_X12_isRim : Mi := (RX12, cX12_isRim, 1, (Option.some Jvm.ClassFile.FieldType.boolean), "isRim", { frames := 0, cells := 0, slots := 0, locals := 0 })
def m_X12_isRim_B32   (z : Hp) : Option (Int32 × Hp) :=
  some (1, z)
def m_X12_isRim (v0 : Int32) (z : Hp) : Option (Int32 × Hp) :=
  if (v0 - v0 / 12 * 12) = 0 then (
    m_X12_isRim_B32 z
  ) else
  if (v0 - v0 / 12 * 12) = 11 then (
    m_X12_isRim_B32 z
  ) else
  if (v0 / 12) = 0 then (
    m_X12_isRim_B32 z
  ) else
  if (v0 / 12) = 11 then (
    m_X12_isRim_B32 z
  ) else
  some (0, z)
abbrev mi_X12_leastOut : Mi := (RX12, cX12_leastOut, 9, (Option.some Jvm.ClassFile.FieldType.int), "leastOut", { frames := 4, cells := 0, slots := 0, locals := 92 })
def m_X12_leastOut_B278 (k224 : Nat → Int32 → Int32 → Hp → Option (Int32 × Hp)) (r0 : Nat) (v4 : Int32) (v5 : Int32) (z : Hp) : Option (Int32 × Hp) :=
  k224 r0 v4 (v5 + 1) z
def m_X12_leastOut_B269 (k224 : Nat → Int32 → Int32 → Hp → Option (Int32 × Hp)) (r0 : Nat) (v5 : Int32) (z : Hp) : Option (Int32 × Hp) :=
  gR 12 26 z r0 fun a1 =>
  aI 1 z a1 v5 fun x2 =>
  (m_X12_leastOut_B278 k224) r0 x2 v5 z
def m_X12_leastOut_L224  : Nat → Nat → Int32 → Int32 → Hp → Option (Int32 × Hp)
  | 0, _, _, _, _ => none
  | f + 1, r0, v4, v5, z =>
    if v5 < 144 then (
      bnd (m_X12_isRim v5 z) fun x4 z3 =>
      if x4 = 0 then (
        (m_X12_leastOut_B278 (m_X12_leastOut_L224  f)) r0 v4 v5 z3
      ) else
      gR 12 26 z3 r0 fun a5 =>
      aI 1 z3 a5 v5 fun x6 =>
      if x6 = (-1) then (
        (m_X12_leastOut_B278 (m_X12_leastOut_L224  f)) r0 v4 v5 z3
      ) else
      if v4 = (-1) then (
        (m_X12_leastOut_B269 (m_X12_leastOut_L224  f)) r0 v5 z3
      ) else
      gR 12 26 z3 r0 fun a7 =>
      aI 1 z3 a7 v5 fun x8 =>
      if x8 < v4 then (
        (m_X12_leastOut_B269 (m_X12_leastOut_L224  f)) r0 v5 z3
      ) else
      (m_X12_leastOut_B278 (m_X12_leastOut_L224  f)) r0 v4 v5 z3
    ) else
    some (v4, z)
def m_X12_leastOut_B218  (r0 : Nat) (z : Hp) : Option (Int32 × Hp) :=
  (m_X12_leastOut_L224 FU) r0 (-1) 0 z
def m_X12_leastOut_B215 (k24 : Nat → Int32 → Int32 → Int32 → Hp → Option (Int32 × Hp)) (r0 : Nat) (v1 : Int32) (v2 : Int32) (v3 : Int32) (z : Hp) : Option (Int32 × Hp) :=
  k24 r0 v1 v2 v3 z
def m_X12_leastOut_B209 (k33 : Nat → Int32 → Int32 → Int32 → Int32 → Hp → Option (Int32 × Hp)) (r0 : Nat) (v1 : Int32) (v2 : Int32) (v3 : Int32) (v4 : Int32) (z : Hp) : Option (Int32 × Hp) :=
  k33 r0 v1 v2 v3 (v4 + 1) z
def m_X12_leastOut_B198 (k33 : Nat → Int32 → Int32 → Int32 → Int32 → Hp → Option (Int32 × Hp)) (r0 : Nat) (v1 : Int32) (v2 : Int32) (v4 : Int32) (v6 : Int32) (z : Hp) : Option (Int32 × Hp) :=
  gR 12 26 z r0 fun a9 =>
  sI 1 z a9 v4 v6 fun z10 =>
  (m_X12_leastOut_B209 k33) r0 v1 v2 1 v4 z10
def m_X12_leastOut_B166 (k33 : Nat → Int32 → Int32 → Int32 → Int32 → Hp → Option (Int32 × Hp)) (r0 : Nat) (v1 : Int32) (v2 : Int32) (v3 : Int32) (v4 : Int32) (v6 : Int32) (z : Hp) : Option (Int32 × Hp) :=
  if v6 = (-1) then (
    (m_X12_leastOut_B209 k33) r0 v1 v2 v3 v4 z
  ) else
  gR 12 26 z r0 fun a11 =>
  aI 1 z a11 v4 fun x12 =>
  if x12 = (-1) then (
    (m_X12_leastOut_B198 k33) r0 v1 v2 v4 v6 z
  ) else
  gR 12 26 z r0 fun a13 =>
  aI 1 z a13 v4 fun x14 =>
  if v6 < x14 then (
    (m_X12_leastOut_B198 k33) r0 v1 v2 v4 v6 z
  ) else
  (m_X12_leastOut_B209 k33) r0 v1 v2 v3 v4 z
def m_X12_leastOut_B160 (k95 : Nat → Int32 → Int32 → Int32 → Int32 → Int32 → Int32 → Int32 → Hp → Option (Int32 × Hp)) (r0 : Nat) (v1 : Int32) (v2 : Int32) (v3 : Int32) (v4 : Int32) (v5 : Int32) (v6 : Int32) (v7 : Int32) (z : Hp) : Option (Int32 × Hp) :=
  k95 r0 v1 v2 v3 v4 v5 v6 (v7 + 1) z
def m_X12_leastOut_B148 (k95 : Nat → Int32 → Int32 → Int32 → Int32 → Int32 → Int32 → Int32 → Hp → Option (Int32 × Hp)) (r0 : Nat) (v1 : Int32) (v2 : Int32) (v3 : Int32) (v4 : Int32) (v5 : Int32) (v7 : Int32) (v8 : Int32) (z : Hp) : Option (Int32 × Hp) :=
  gR 12 26 z r0 fun a15 =>
  aI 1 z a15 v8 fun x16 =>
  (m_X12_leastOut_B160 k95) r0 v1 v2 v3 v4 v5 (x16 + v5) v7 z
def m_X12_leastOut_L95 (k166 : Nat → Int32 → Int32 → Int32 → Int32 → Int32 → Hp → Option (Int32 × Hp)) : Nat → Nat → Int32 → Int32 → Int32 → Int32 → Int32 → Int32 → Int32 → Hp → Option (Int32 × Hp)
  | 0, _, _, _, _, _, _, _, _, _ => none
  | f + 1, r0, v1, v2, v3, v4, v5, v6, v7, z =>
    if v7 < 4 then (
      bnd (m_X12_beside v4 v7 z) fun x18 z17 =>
      if x18 = (-1) then (
        (m_X12_leastOut_B160 (m_X12_leastOut_L95 k166 f)) r0 v1 v2 v3 v4 v5 v6 v7 z17
      ) else
      gR 12 26 z17 r0 fun a19 =>
      aI 1 z17 a19 x18 fun x20 =>
      if x20 = (-1) then (
        (m_X12_leastOut_B160 (m_X12_leastOut_L95 k166 f)) r0 v1 v2 v3 v4 v5 v6 v7 z17
      ) else
      if v6 = (-1) then (
        (m_X12_leastOut_B148 (m_X12_leastOut_L95 k166 f)) r0 v1 v2 v3 v4 v5 v7 x18 z17
      ) else
      gR 12 26 z17 r0 fun a21 =>
      aI 1 z17 a21 x18 fun x22 =>
      if (x22 + v5) < v6 then (
        (m_X12_leastOut_B148 (m_X12_leastOut_L95 k166 f)) r0 v1 v2 v3 v4 v5 v7 x18 z17
      ) else
      (m_X12_leastOut_B160 (m_X12_leastOut_L95 k166 f)) r0 v1 v2 v3 v4 v5 v6 v7 z17
    ) else
    k166 r0 v1 v2 v3 v4 v6 z
def m_X12_leastOut_B90 (k33 : Nat → Int32 → Int32 → Int32 → Int32 → Hp → Option (Int32 × Hp)) (r0 : Nat) (v1 : Int32) (v2 : Int32) (v3 : Int32) (v4 : Int32) (v5 : Int32) (t0 : Int32) (z : Hp) : Option (Int32 × Hp) :=
  (m_X12_leastOut_L95 (m_X12_leastOut_B166 k33) FU) r0 v1 v2 v3 v4 v5 t0 0 z
def m_X12_leastOut_B55 (k33 : Nat → Int32 → Int32 → Int32 → Int32 → Hp → Option (Int32 × Hp)) (r0 : Nat) (v1 : Int32) (v2 : Int32) (v3 : Int32) (v4 : Int32) (t0 : Int32) (z : Hp) : Option (Int32 × Hp) :=
  isC 12 z r0 <| bnd (m_X12_isShaft r0 v4 z) fun x24 z23 =>
  if x24 = 0 then (
    if t0 = (-1) then (
      (m_X12_leastOut_B209 k33) r0 v1 v2 v3 v4 z23
    ) else
    isC 12 z23 r0 <| bnd (m_X12_isBesideShaft r0 v4 z23) fun x27 z26 =>
    if x27 = 0 then (
      (m_X12_leastOut_B90 k33) r0 v1 v2 v3 v4 t0 (-1) z26
    ) else
    (m_X12_leastOut_B90 k33) r0 v1 v2 v3 v4 t0 t0 z26
  ) else
  (m_X12_leastOut_B209 k33) r0 v1 v2 v3 v4 z23
def m_X12_leastOut_L33 (k215 : Nat → Int32 → Int32 → Int32 → Hp → Option (Int32 × Hp)) : Nat → Nat → Int32 → Int32 → Int32 → Int32 → Hp → Option (Int32 × Hp)
  | 0, _, _, _, _, _, _ => none
  | f + 1, r0, v1, v2, v3, v4, z =>
    if v4 < 144 then (
      isC 12 z r0 <| bnd (m_X12_isFrozen r0 v4 z) fun x30 z29 =>
      if x30 = 0 then (
        (m_X12_leastOut_B55 (m_X12_leastOut_L33 k215 f)) r0 v1 v2 v3 v4 v2 z29
      ) else
      (m_X12_leastOut_B55 (m_X12_leastOut_L33 k215 f)) r0 v1 v2 v3 v4 v1 z29
    ) else
    k215 r0 v1 v2 v3 z
def m_X12_leastOut_L24 (k218 : Nat → Hp → Option (Int32 × Hp)) : Nat → Nat → Int32 → Int32 → Int32 → Hp → Option (Int32 × Hp)
  | 0, _, _, _, _, _ => none
  | f + 1, r0, v1, v2, v3, z =>
    if v3 = 0 then (
      k218 r0 z
    ) else
    (m_X12_leastOut_L33 (m_X12_leastOut_B215 (m_X12_leastOut_L24 k218 f)) FU) r0 v1 v2 0 0 z
def m_X12_leastOut_B22  (r0 : Nat) (v1 : Int32) (v2 : Int32) (z : Hp) : Option (Int32 × Hp) :=
  (m_X12_leastOut_L24 m_X12_leastOut_B218 FU) r0 v1 v2 1 z
def m_X12_leastOut_L2 (k22 : Nat → Int32 → Int32 → Hp → Option (Int32 × Hp)) : Nat → Nat → Int32 → Int32 → Int32 → Hp → Option (Int32 × Hp)
  | 0, _, _, _, _, _ => none
  | f + 1, r0, v1, v2, v3, z =>
    if v3 < 144 then (
      gR 12 26 z r0 fun a32 =>
      sI 1 z a32 v3 (-1) fun z33 =>
      (m_X12_leastOut_L2 k22 f) r0 v1 v2 (v3 + 1) z33
    ) else
    k22 r0 v1 v2 z
def m_X12_leastOut (r0 : Nat) (v1 : Int32) (v2 : Int32) (z : Hp) : Option (Int32 × Hp) :=
  (m_X12_leastOut_L2 m_X12_leastOut_B22 FU) r0 v1 v2 0 z
abbrev mi_X12_isShut : Mi := (RX12, cX12_isShut, 1, (Option.some Jvm.ClassFile.FieldType.boolean), "isShut", { frames := 5, cells := 0, slots := 0, locals := 120 })
def m_X12_isShut (r0 : Nat) (z : Hp) : Option (Int32 × Hp) :=
  isC 12 z r0 <| bnd (m_X12_leastOut r0 (-1) 1 z) fun x2 z1 =>
  if x2 = (-1) then (
    some (1, z1)
  ) else
  some (0, z1)
abbrev mi_X12_ticks : Mi := (RX12, cX12_ticks, 3, (Option.none : Option Jvm.ClassFile.FieldType), "ticks", { frames := 6, cells := 0, slots := 0, locals := 140 })
def m_X12_ticks_B189  (r0 : Nat) (z : Hp) : Option (Unit × Hp) :=
  gR 12 1 z r0 fun a1 =>
  aI 1 z a1 12 fun x2 =>
  if x2 = 0 then (
    isC 12 z r0 <| bnd (m_X12_anyDug r0 z) fun x4 z3 =>
    if x4 = 0 then (
      some ((), z3)
    ) else
    isC 12 z3 r0 <| bnd (m_X12_isShut r0 z3) fun x7 z6 =>
    if x7 = 0 then (
      gR 12 1 z6 r0 fun a9 =>
      sI 1 z6 a9 12 1 fun z10 =>
      gR 12 1 z10 r0 fun a11 =>
      aI 1 z10 a11 13 fun x12 =>
      sI 1 z10 a11 13 (x12 + 1) fun z13 =>
      some ((), z13)
    ) else
    some ((), z6)
  ) else
  some ((), z)
def m_X12_ticks_B183 (k102 : Nat → Int32 → Hp → Option (Unit × Hp)) (r0 : Nat) (v1 : Int32) (z : Hp) : Option (Unit × Hp) :=
  k102 r0 (v1 + 1) z
def m_X12_ticks_L102 (k189 : Nat → Hp → Option (Unit × Hp)) : Nat → Nat → Int32 → Hp → Option (Unit × Hp)
  | 0, _, _, _ => none
  | f + 1, r0, v1, z =>
    gR 12 1 z r0 fun a14 =>
    aI 1 z a14 3 fun x15 =>
    if v1 < x15 then (
      gR 12 1 z r0 fun a16 =>
      aI 1 z a16 ((732 + (3 * v1)) + 2) fun x17 =>
      if x17 = (-1) then (
        gR 12 1 z r0 fun a18 =>
        aI 1 z a18 (732 + (3 * v1)) fun x19 =>
        isC 12 z r0 <| bnd (m_X12_liftOf r0 x19 z) fun x21 z20 =>
        gR 12 1 z20 r0 fun a23 =>
        aI 1 z20 a23 (732 + (3 * v1)) fun x24 =>
        isC 12 z20 r0 <| bnd (m_X12_liftOf r0 (x24 + 1) z20) fun x26 z25 =>
        bnd (m_J9_abs_0f7a4 (x21 - x26) z25) fun x29 z28 =>
        gR 12 1 z28 r0 fun a30 =>
        aI 1 z28 a30 ((732 + (3 * v1)) + 1) fun x31 =>
        if x31 < x29 then (
          gR 12 1 z28 r0 fun a32 =>
          gR 12 1 z28 r0 fun a33 =>
          aI 1 z28 a33 1 fun x34 =>
          sI 1 z28 a32 ((732 + (3 * v1)) + 2) x34 fun z35 =>
          (m_X12_ticks_B183 (m_X12_ticks_L102 k189 f)) r0 v1 z35
        ) else
        (m_X12_ticks_B183 (m_X12_ticks_L102 k189 f)) r0 v1 z28
      ) else
      (m_X12_ticks_B183 (m_X12_ticks_L102 k189 f)) r0 v1 z
    ) else
    k189 r0 z
def m_X12_ticks_B90  (r0 : Nat) (z : Hp) : Option (Unit × Hp) :=
  gR 12 1 z r0 fun a36 =>
  aI 1 z a36 1 fun x37 =>
  sI 1 z a36 1 (x37 + 1) fun z38 =>
  (m_X12_ticks_L102 m_X12_ticks_B189 FU) r0 0 z38
def m_X12_ticks_B84 (k64 : Nat → Int32 → Hp → Option (Unit × Hp)) (r0 : Nat) (v1 : Int32) (z : Hp) : Option (Unit × Hp) :=
  k64 r0 (v1 + 1) z
def m_X12_ticks_L64 (k90 : Nat → Hp → Option (Unit × Hp)) : Nat → Nat → Int32 → Hp → Option (Unit × Hp)
  | 0, _, _, _ => none
  | f + 1, r0, v1, z =>
    if v1 < 144 then (
      isC 12 z r0 <| bnd (m_X12_isDug r0 v1 z) fun x40 z39 =>
      if x40 = 0 then (
        isC 12 z39 r0 <| bnd (m_X12_does r0 v1 z39) fun _ z42 =>
        (m_X12_ticks_B84 (m_X12_ticks_L64 k90 f)) r0 v1 z42
      ) else
      (m_X12_ticks_B84 (m_X12_ticks_L64 k90 f)) r0 v1 z39
    ) else
    k90 r0 z
def m_X12_ticks_B58  (r0 : Nat) (z : Hp) : Option (Unit × Hp) :=
  isC 12 z r0 <| bnd (m_X12_pipes r0 z) fun _ z44 =>
  (m_X12_ticks_L64 m_X12_ticks_B90 FU) r0 0 z44
def m_X12_ticks_B52 (k24 : Nat → Int32 → Hp → Option (Unit × Hp)) (r0 : Nat) (v1 : Int32) (z : Hp) : Option (Unit × Hp) :=
  k24 r0 (v1 + 1) z
def m_X12_ticks_L24 (k58 : Nat → Hp → Option (Unit × Hp)) : Nat → Nat → Int32 → Hp → Option (Unit × Hp)
  | 0, _, _, _ => none
  | f + 1, r0, v1, z =>
    if v1 < 144 then (
      isC 12 z r0 <| bnd (m_X12_isDug r0 v1 z) fun x47 z46 =>
      if x47 = 0 then (
        isC 12 z46 r0 <| bnd (m_X12_comesBeside r0 v1 z46) fun _ z49 =>
        isC 12 z49 r0 <| bnd (m_X12_streams r0 v1 z49) fun _ z51 =>
        (m_X12_ticks_B52 (m_X12_ticks_L24 k58 f)) r0 v1 z51
      ) else
      (m_X12_ticks_B52 (m_X12_ticks_L24 k58 f)) r0 v1 z46
    ) else
    k58 r0 z
def m_X12_ticks_B22  (r0 : Nat) (z : Hp) : Option (Unit × Hp) :=
  (m_X12_ticks_L24 m_X12_ticks_B58 FU) r0 0 z
def m_X12_ticks_L2 (k22 : Nat → Hp → Option (Unit × Hp)) : Nat → Nat → Int32 → Hp → Option (Unit × Hp)
  | 0, _, _, _ => none
  | f + 1, r0, v1, z =>
    if v1 < 144 then (
      gR 12 24 z r0 fun a53 =>
      sI 1 z a53 v1 0 fun z54 =>
      (m_X12_ticks_L2 k22 f) r0 (v1 + 1) z54
    ) else
    k22 r0 z
def m_X12_ticks (r0 : Nat) (z : Hp) : Option (Unit × Hp) :=
  (m_X12_ticks_L2 m_X12_ticks_B22 FU) r0 0 z
abbrev mi_X12_tick : Mi := (RX12, cX12_tick, 3, (Option.some Jvm.ClassFile.FieldType.int), "tick", { frames := 7, cells := 0, slots := 0, locals := 162 })
def m_X12_tick_B49  (r0 : Nat) (z : Hp) : Option (Int32 × Hp) :=
  gR 12 1 z r0 fun a1 =>
  aI 1 z a1 1 fun x2 =>
  some (x2, z)
def m_X12_tick_L34 (k49 : Nat → Hp → Option (Int32 × Hp)) : Nat → Nat → Int32 → Int32 → Hp → Option (Int32 × Hp)
  | 0, _, _, _, _ => none
  | f + 1, r0, v1, v2, z =>
    if v2 < v1 then (
      isC 12 z r0 <| bnd (m_X12_ticks r0 z) fun _ z3 =>
      (m_X12_tick_L34 k49 f) r0 v1 (v2 + 1) z3
    ) else
    k49 r0 z
def m_X12_tick (r0 : Nat) (v1 : Int32) (z : Hp) : Option (Int32 × Hp) :=
  bnd (m_X12_in (Int32.toInt64 v1) 1 40 z) fun x6 z5 =>
  if x6 = 0 then (
    some ((-2), z5)
  ) else
  gR 12 1 z5 r0 fun a7 =>
  aI 1 z5 a7 1 fun x8 =>
  if 2000 < (x8 + v1) then (
    some ((-3), z5)
  ) else
  (m_X12_tick_L34 m_X12_tick_B49 FU) r0 v1 0 z5
abbrev mi_X12_cell : Mi := (RX12, cX12_cell, 5, (Option.some Jvm.ClassFile.FieldType.int), "cell", { frames := 2, cells := 0, slots := 0, locals := 46 })
def m_X12_cell (r0 : Nat) (v1 : Int32) (v2 : Int32) (v3 : Int32) (z : Hp) : Option (Int32 × Hp) :=
  bnd (m_X12_isPlace v1 v2 z) fun x2 z1 =>
  if x2 = 0 then (
    some ((-2000000000), z1)
  ) else
  if v3 = 0 then (
    gR 12 1 z1 r0 fun a3 =>
    aI 1 z1 a3 (48 + ((12 * v2) + v1)) fun x4 =>
    some (x4, z1)
  ) else
  if v3 = 1 then (
    gR 12 1 z1 r0 fun a6 =>
    aI 1 z1 a6 (192 + ((12 * v2) + v1)) fun x7 =>
    some (x7, z1)
  ) else
  if v3 = 2 then (
    gR 12 1 z1 r0 fun a9 =>
    aI 1 z1 a9 (336 + ((12 * v2) + v1)) fun x10 =>
    some (x10, z1)
  ) else
  if v3 = 3 then (
    isC 12 z1 r0 <| bnd (m_X12_isDug r0 ((12 * v2) + v1) z1) fun x13 z12 =>
    if x13 = 0 then (
      isC 12 z12 r0 <| bnd (m_X12_isFrozen r0 ((12 * v2) + v1) z12) fun x16 z15 =>
      if x16 = 0 then (
        some (0, z15)
      ) else
      some (1, z15)
    ) else
    some (2, z12)
  ) else
  if v3 = 4 then (
    isC 12 z1 r0 <| bnd (m_X12_pipeAt r0 ((12 * v2) + v1) z1) fun x20 z19 =>
    some (x20, z19)
  ) else
  if v3 = 5 then (
    isC 12 z1 r0 <| bnd (m_X12_isShaft r0 ((12 * v2) + v1) z1) fun x24 z23 =>
    if x24 = 0 then (
      some (0, z23)
    ) else
    some (1, z23)
  ) else
  some ((-2000000000), z1)
abbrev mi_X12_heat : Mi := (RX12, cX12_heat, 2, (Option.some Jvm.ClassFile.FieldType.int), "heat", { frames := 1, cells := 0, slots := 0, locals := 25 })
def m_X12_heat (r0 : Nat) (v1 : Int32) (z : Hp) : Option (Int32 × Hp) :=
  if v1 = 0 then (
    isC 12 z r0 <| bnd (m_X12_heatNow r0 z) fun x6 z5 =>
    some (x6, z5)
  ) else
  bnd (m_X12_in (Int32.toInt64 v1) 1 5 z) fun x2 z1 =>
  if x2 = 0 then (
    some ((-2000000000), z1)
  ) else
  gR 12 1 z1 r0 fun a3 =>
  aI 1 z1 a3 ((14 + v1) - 1) fun x4 =>
  some (x4, z1)
abbrev mi_X12_isPipe : Mi := (RX12, cX12_isPipe, 2, (Option.some Jvm.ClassFile.FieldType.boolean), "isPipe", { frames := 1, cells := 0, slots := 0, locals := 25 })
def m_X12_isPipe (r0 : Nat) (v1 : Int32) (z : Hp) : Option (Int32 × Hp) :=
  gR 12 1 z r0 fun a1 =>
  aI 1 z a1 2 fun x2 =>
  bnd (m_X12_in (Int32.toInt64 v1) 0 (Int32.toInt64 (x2 - 1)) z) fun x4 z3 =>
  some (vp_nar .boolean x4, z3)
abbrev mi_X12_run : Mi := (RX12, cX12_run, 5, (Option.some Jvm.ClassFile.FieldType.boolean), "run", { frames := 2, cells := 0, slots := 0, locals := 46 })
def m_X12_run_B52  (v2 : Int32) (v4 : Int32) (t0 : Int32) (t1 : Int32) (b2 : Nat) (z : Hp) : Option (Int32 × Hp) :=
  sI 1 z b2 t1 t0 fun z1 =>
  if v4 = v2 then (
    some (0, z1)
  ) else
  some (1, z1)
def m_X12_run_B36  (r0 : Nat) (v2 : Int32) (v3 : Int32) (t0 : Int32) (z : Hp) : Option (Int32 × Hp) :=
  gR 12 1 z r0 fun a2 =>
  if v2 = 0 then (
    m_X12_run_B52 v2 t0 0 v3 a2 z
  ) else
  m_X12_run_B52 v2 t0 1 v3 a2 z
def m_X12_run (r0 : Nat) (v1 : Int32) (v2 : Int32) (z : Hp) : Option (Int32 × Hp) :=
  isC 12 z r0 <| bnd (m_X12_isPipe r0 v1 z) fun x4 z3 =>
  if x4 = 0 then (
    some (0, z3)
  ) else
  gR 12 1 z3 r0 fun a6 =>
  aI 1 z3 a6 ((624 + (6 * v1)) + 3) fun x7 =>
  if x7 = 1 then (
    m_X12_run_B36 r0 v2 ((624 + (6 * v1)) + 3) 1 z3
  ) else
  m_X12_run_B36 r0 v2 ((624 + (6 * v1)) + 3) 0 z3
abbrev mi_X12_pipe : Mi := (RX12, cX12_pipe, 3, (Option.some Jvm.ClassFile.FieldType.int), "pipe", { frames := 2, cells := 0, slots := 0, locals := 46 })
def m_X12_pipe_B38   (z : Hp) : Option (Int32 × Hp) :=
  some ((-2000000000), z)
def m_X12_pipe (r0 : Nat) (v1 : Int32) (v2 : Int32) (z : Hp) : Option (Int32 × Hp) :=
  isC 12 z r0 <| bnd (m_X12_isPipe r0 v1 z) fun x2 z1 =>
  if x2 = 0 then (
    m_X12_pipe_B38 z1
  ) else
  bnd (m_X12_in (Int32.toInt64 v2) 0 5 z1) fun x5 z4 =>
  if x5 = 0 then (
    m_X12_pipe_B38 z4
  ) else
  gR 12 1 z4 r0 fun a6 =>
  aI 1 z4 a6 ((624 + (6 * v1)) + v2) fun x7 =>
  some (x7, z4)
abbrev mi_X12_cold : Mi := (RX12, cX12_cold, 3, (Option.some Jvm.ClassFile.FieldType.int), "cold", { frames := 1, cells := 0, slots := 0, locals := 25 })
def m_X12_cold (r0 : Nat) (v1 : Int32) (z : Hp) : Option (Int32 × Hp) :=
  bnd (m_X12_in (Int32.toInt64 v1) 0 99999 z) fun x2 z1 =>
  if x2 = 0 then (
    some ((-2), z1)
  ) else
  gR 12 1 z1 r0 fun a3 =>
  aI 1 z1 a3 6 fun x4 =>
  gR 12 1 z1 r0 fun a5 =>
  sI 1 z1 a5 6 v1 fun z6 =>
  some (x4, z6)
abbrev mi_X12_isOpen : Mi := (RX12, cX12_isOpen, 2, (Option.some Jvm.ClassFile.FieldType.boolean), "isOpen", { frames := 2, cells := 0, slots := 0, locals := 46 })
def m_X12_isOpen (r0 : Nat) (v1 : Int32) (z : Hp) : Option (Int32 × Hp) :=
  isC 12 z r0 <| bnd (m_X12_isShaft r0 v1 z) fun x2 z1 =>
  if x2 = 0 then (
    isC 12 z1 r0 <| bnd (m_X12_isFrozen r0 v1 z1) fun x5 z4 =>
    if x5 = 0 then (
      some (1, z4)
    ) else
    some (0, z4)
  ) else
  some (0, z1)
abbrev mi_X12_hasShaft : Mi := (RX12, cX12_hasShaft, 1, (Option.some Jvm.ClassFile.FieldType.boolean), "hasShaft", { frames := 0, cells := 0, slots := 0, locals := 0 })
def m_X12_hasShaft (r0 : Nat) (z : Hp) : Option (Int32 × Hp) :=
  gR 12 1 z r0 fun a1 =>
  aI 1 z a1 7 fun x2 =>
  if x2 = 1 then (
    some (1, z)
  ) else
  some (0, z)
abbrev mi_X12_shut : Mi := (RX12, cX12_shut, 1, (Option.some Jvm.ClassFile.FieldType.int), "shut", { frames := 6, cells := 0, slots := 0, locals := 140 })
def m_X12_shut (r0 : Nat) (z : Hp) : Option (Int32 × Hp) :=
  isC 12 z r0 <| bnd (m_X12_hasShaft r0 z) fun x2 z1 =>
  if x2 = 0 then (
    some ((-6), z1)
  ) else
  isC 12 z1 r0 <| bnd (m_X12_isShut r0 z1) fun x5 z4 =>
  if x5 = 0 then (
    some (0, z4)
  ) else
  some (1, z4)
abbrev mi_X12_way : Mi := (RX12, cX12_way, 1, (Option.some Jvm.ClassFile.FieldType.int), "way", { frames := 5, cells := 0, slots := 0, locals := 120 })
def m_X12_way (r0 : Nat) (z : Hp) : Option (Int32 × Hp) :=
  isC 12 z r0 <| bnd (m_X12_hasShaft r0 z) fun x2 z1 =>
  if x2 = 0 then (
    some ((-6), z1)
  ) else
  isC 12 z1 r0 <| bnd (m_X12_leastOut r0 (-1) 1 z1) fun x5 z4 =>
  some (x5, z4)
abbrev mi_X12_thick : Mi := (RX12, cX12_thick, 1, (Option.some Jvm.ClassFile.FieldType.int), "thick", { frames := 5, cells := 0, slots := 0, locals := 120 })
def m_X12_thick (r0 : Nat) (z : Hp) : Option (Int32 × Hp) :=
  isC 12 z r0 <| bnd (m_X12_hasShaft r0 z) fun x2 z1 =>
  if x2 = 0 then (
    some ((-6), z1)
  ) else
  isC 12 z1 r0 <| bnd (m_X12_leastOut r0 1 0 z1) fun x5 z4 =>
  some (x5, z4)
abbrev mi_X12_reach : Mi := (RX12, cX12_reach, 3, (Option.none : Option Jvm.ClassFile.FieldType), "reach", { frames := 0, cells := 0, slots := 0, locals := 0 })
def m_X12_reach (r0 : Nat) (v1 : Int32) (v2 : Int32) (z : Hp) : Option (Unit × Hp) :=
  gR 12 29 z r0 fun a1 =>
  aI 1 z a1 v1 fun x2 =>
  if x2 = (-1) then (
    gR 12 29 z r0 fun a3 =>
    sI 1 z a3 v1 v2 fun z4 =>
    gR 12 30 z4 r0 fun a5 =>
    gI 12 31 z4 r0 fun x6 =>
    sI 1 z4 a5 x6 v1 fun z7 =>
    gI 12 31 z7 r0 fun x8 =>
    pI 12 31 z7 r0 (x8 + 1) fun z9 =>
    some ((), z9)
  ) else
  some ((), z)
abbrev mi_X12_search : Mi := (RX12, cX12_search, 6, (Option.some Jvm.ClassFile.FieldType.int), "search", { frames := 4, cells := 0, slots := 0, locals := 92 })
def m_X12_search_B267 (k70 : Nat → Int32 → Hp → Option (Int32 × Hp)) (r0 : Nat) (v1 : Int32) (z : Hp) : Option (Int32 × Hp) :=
  k70 r0 v1 z
def m_X12_search_B261 (k204 : Nat → Int32 → Int32 → Int32 → Int32 → Hp → Option (Int32 × Hp)) (r0 : Nat) (v1 : Int32) (v2 : Int32) (v3 : Int32) (v4 : Int32) (z : Hp) : Option (Int32 × Hp) :=
  k204 r0 v1 v2 v3 (v4 + 1) z
def m_X12_search_L204 (k267 : Nat → Int32 → Hp → Option (Int32 × Hp)) : Nat → Nat → Int32 → Int32 → Int32 → Int32 → Hp → Option (Int32 × Hp)
  | 0, _, _, _, _, _, _ => none
  | f + 1, r0, v1, v2, v3, v4, z =>
    if v4 < 4 then (
      bnd (m_X12_beside v3 v4 z) fun x2 z1 =>
      if x2 = (-1) then (
        (m_X12_search_B261 (m_X12_search_L204 k267 f)) r0 v1 v2 v3 v4 z1
      ) else
      isC 12 z1 r0 <| bnd (m_X12_isOpen r0 x2 z1) fun x4 z3 =>
      if x4 = 0 then (
        (m_X12_search_B261 (m_X12_search_L204 k267 f)) r0 v1 v2 v3 v4 z3
      ) else
      gR 12 28 z3 r0 fun a6 =>
      aI 2 z3 a6 ((4 * x2) + (v4 ^^^ 1)) fun x7 =>
      if x7 = 0 then (
        (m_X12_search_B261 (m_X12_search_L204 k267 f)) r0 v1 v2 v3 v4 z3
      ) else
      isC 12 z3 r0 <| bnd (m_X12_reach r0 ((2 * x2) + 1) v2 z3) fun _ z8 =>
      (m_X12_search_B261 (m_X12_search_L204 k267 f)) r0 v1 v2 v3 v4 z8
    ) else
    k267 r0 v1 z
def m_X12_search_B201 (k70 : Nat → Int32 → Hp → Option (Int32 × Hp)) (r0 : Nat) (v1 : Int32) (v2 : Int32) (v3 : Int32) (z : Hp) : Option (Int32 × Hp) :=
  (m_X12_search_L204 (m_X12_search_B267 k70) FU) r0 v1 v2 v3 0 z
def m_X12_search_B179 (k70 : Nat → Int32 → Hp → Option (Int32 × Hp)) (r0 : Nat) (v1 : Int32) (z : Hp) : Option (Int32 × Hp) :=
  (m_X12_search_B267 k70) r0 v1 z
def m_X12_search_B173 (k135 : Nat → Int32 → Int32 → Int32 → Int32 → Hp → Option (Int32 × Hp)) (r0 : Nat) (v1 : Int32) (v2 : Int32) (v3 : Int32) (v4 : Int32) (z : Hp) : Option (Int32 × Hp) :=
  k135 r0 v1 v2 v3 (v4 + 1) z
def m_X12_search_L135 (k179 : Nat → Int32 → Hp → Option (Int32 × Hp)) : Nat → Nat → Int32 → Int32 → Int32 → Int32 → Hp → Option (Int32 × Hp)
  | 0, _, _, _, _, _, _ => none
  | f + 1, r0, v1, v2, v3, v4, z =>
    if v4 < 4 then (
      bnd (m_X12_beside v3 v4 z) fun x11 z10 =>
      if x11 = (-1) then (
        (m_X12_search_B173 (m_X12_search_L135 k179 f)) r0 v1 v2 v3 v4 z10
      ) else
      isC 12 z10 r0 <| bnd (m_X12_isOpen r0 x11 z10) fun x13 z12 =>
      if x13 = 0 then (
        (m_X12_search_B173 (m_X12_search_L135 k179 f)) r0 v1 v2 v3 v4 z12
      ) else
      isC 12 z12 r0 <| bnd (m_X12_reach r0 (2 * x11) v2 z12) fun _ z15 =>
      (m_X12_search_B173 (m_X12_search_L135 k179 f)) r0 v1 v2 v3 v4 z15
    ) else
    k179 r0 v1 z
def m_X12_search_B132 (k70 : Nat → Int32 → Hp → Option (Int32 × Hp)) (r0 : Nat) (v1 : Int32) (v2 : Int32) (v3 : Int32) (z : Hp) : Option (Int32 × Hp) :=
  (m_X12_search_L135 (m_X12_search_B179 k70) FU) r0 v1 v2 v3 0 z
def m_X12_search_B108 (k70 : Nat → Int32 → Hp → Option (Int32 × Hp)) (r0 : Nat) (v1 : Int32) (v2 : Int32) (v3 : Int32) (z : Hp) : Option (Int32 × Hp) :=
  if (v2 - v2 / 2 * 2) = 1 then (
    gR 12 27 z r0 fun a21 =>
    aI 2 z a21 v3 fun x22 =>
    if x22 = 0 then (
      (m_X12_search_B132 k70) r0 v1 v2 v3 z
    ) else
    isC 12 z r0 <| bnd (m_X12_reach r0 (2 * v3) v2 z) fun _ z23 =>
    (m_X12_search_B132 k70) r0 v1 v2 v3 z23
  ) else
  gR 12 27 z r0 fun a17 =>
  aI 2 z a17 v3 fun x18 =>
  if x18 = 0 then (
    isC 12 z r0 <| bnd (m_X12_reach r0 ((2 * v3) + 1) v2 z) fun _ z19 =>
    (m_X12_search_B201 k70) r0 v1 v2 v3 z19
  ) else
  (m_X12_search_B201 k70) r0 v1 v2 v3 z
def m_X12_search_L70  : Nat → Nat → Int32 → Hp → Option (Int32 × Hp)
  | 0, _, _, _ => none
  | f + 1, r0, v1, z =>
    gI 12 31 z r0 fun x25 =>
    if v1 < x25 then (
      gR 12 30 z r0 fun a26 =>
      aI 1 z a26 v1 fun x27 =>
      if (x27 - x27 / 2 * 2) = 1 then (
        bnd (m_X12_isRim (x27 / 2) z) fun x29 z28 =>
        if x29 = 0 then (
          (m_X12_search_B108 (m_X12_search_L70  f)) r0 (v1 + 1) x27 (x27 / 2) z28
        ) else
        some (x27, z28)
      ) else
      (m_X12_search_B108 (m_X12_search_L70  f)) r0 (v1 + 1) x27 (x27 / 2) z
    ) else
    some ((-1), z)
def m_X12_search_B68  (r0 : Nat) (z : Hp) : Option (Int32 × Hp) :=
  (m_X12_search_L70 FU) r0 0 z
def m_X12_search_B62 (k29 : Nat → Int32 → Hp → Option (Int32 × Hp)) (r0 : Nat) (v1 : Int32) (z : Hp) : Option (Int32 × Hp) :=
  k29 r0 (v1 + 1) z
def m_X12_search_L29 (k68 : Nat → Hp → Option (Int32 × Hp)) : Nat → Nat → Int32 → Hp → Option (Int32 × Hp)
  | 0, _, _, _ => none
  | f + 1, r0, v1, z =>
    if v1 < 144 then (
      isC 12 z r0 <| bnd (m_X12_isOpen r0 v1 z) fun x31 z30 =>
      if x31 = 0 then (
        (m_X12_search_B62 (m_X12_search_L29 k68 f)) r0 v1 z30
      ) else
      isC 12 z30 r0 <| bnd (m_X12_isBesideShaft r0 v1 z30) fun x34 z33 =>
      if x34 = 0 then (
        (m_X12_search_B62 (m_X12_search_L29 k68 f)) r0 v1 z33
      ) else
      isC 12 z33 r0 <| bnd (m_X12_reach r0 (2 * v1) 1000 z33) fun _ z36 =>
      (m_X12_search_B62 (m_X12_search_L29 k68 f)) r0 v1 z36
    ) else
    k68 r0 z
def m_X12_search_B22  (r0 : Nat) (z : Hp) : Option (Int32 × Hp) :=
  pI 12 31 z r0 0 fun z38 =>
  (m_X12_search_L29 m_X12_search_B68 FU) r0 0 z38
def m_X12_search_L2 (k22 : Nat → Hp → Option (Int32 × Hp)) : Nat → Nat → Int32 → Hp → Option (Int32 × Hp)
  | 0, _, _, _ => none
  | f + 1, r0, v1, z =>
    if v1 < 288 then (
      gR 12 29 z r0 fun a39 =>
      sI 1 z a39 v1 (-1) fun z40 =>
      (m_X12_search_L2 k22 f) r0 (v1 + 1) z40
    ) else
    k22 r0 z
def m_X12_search (r0 : Nat) (z : Hp) : Option (Int32 × Hp) :=
  (m_X12_search_L2 m_X12_search_B22 FU) r0 0 z
abbrev mi_X12_wayTo : Mi := (RX12, cX12_wayTo, 3, (Option.some Jvm.ClassFile.FieldType.int), "wayTo", { frames := 3, cells := 0, slots := 0, locals := 69 })
def m_X12_wayTo_L2  : Nat → Int32 → Int32 → Int32 → Hp → Option (Int32 × Hp)
  | 0, _, _, _, _ => none
  | f + 1, v0, v1, v2, z =>
    bnd (m_X12_beside v0 v2 z) fun x2 z1 =>
    if x2 = v1 then (
      some (v2, z1)
    ) else
    (m_X12_wayTo_L2  f) v0 v1 (v2 + 1) z1
def m_X12_wayTo (v0 : Int32) (v1 : Int32) (z : Hp) : Option (Int32 × Hp) :=
  (m_X12_wayTo_L2 FU) v0 v1 0 z
abbrev mi_X12_goes : Mi := (RX12, cX12_goes, 6, (Option.none : Option Jvm.ClassFile.FieldType), "goes", { frames := 4, cells := 0, slots := 0, locals := 91 })
def m_X12_goes_B105 (k2 : Nat → Int32 → Hp → Option (Unit × Hp)) (r0 : Nat) (v3 : Int32) (z : Hp) : Option (Unit × Hp) :=
  k2 r0 v3 z
def m_X12_goes_B56 (k2 : Nat → Int32 → Hp → Option (Unit × Hp)) (r0 : Nat) (v3 : Int32) (t0 : Int32) (t1 : Int32) (b2 : Nat) (z : Hp) : Option (Unit × Hp) :=
  sI 2 z b2 t1 (vp_nar .boolean t0) fun z1 =>
  (m_X12_goes_B105 k2) r0 v3 z1
def m_X12_goes_L2  : Nat → Nat → Int32 → Hp → Option (Unit × Hp)
  | 0, _, _, _ => none
  | f + 1, r0, v2, z =>
    gR 12 29 z r0 fun a2 =>
    aI 1 z a2 v2 fun x3 =>
    if x3 = 1000 then (
      some ((), z)
    ) else
    gR 12 29 z r0 fun a4 =>
    aI 1 z a4 v2 fun x5 =>
    if (x5 / 2) = (v2 / 2) then (
      gR 12 27 z r0 fun a14 =>
      if (v2 - v2 / 2 * 2) = 1 then (
        (m_X12_goes_B56 (m_X12_goes_L2  f)) r0 x5 1 (x5 / 2) a14 z
      ) else
      (m_X12_goes_B56 (m_X12_goes_L2  f)) r0 x5 0 (x5 / 2) a14 z
    ) else
    if (v2 - v2 / 2 * 2) = 0 then (
      gR 12 28 z r0 fun a10 =>
      bnd (m_X12_wayTo (x5 / 2) (v2 / 2) z) fun x12 z11 =>
      sI 2 z11 a10 ((4 * (x5 / 2)) + x12) (vp_nar .boolean 1) fun z13 =>
      (m_X12_goes_B105 (m_X12_goes_L2  f)) r0 x5 z13
    ) else
    gR 12 28 z r0 fun a6 =>
    bnd (m_X12_wayTo (v2 / 2) (x5 / 2) z) fun x8 z7 =>
    sI 2 z7 a6 ((4 * (v2 / 2)) + x8) (vp_nar .boolean 0) fun z9 =>
    (m_X12_goes_B105 (m_X12_goes_L2  f)) r0 x5 z9
def m_X12_goes (r0 : Nat) (v1 : Int32) (z : Hp) : Option (Unit × Hp) :=
  (m_X12_goes_L2 FU) r0 v1 z
abbrev mi_X12_findGaps : Mi := (RX12, cX12_findGaps, 4, (Option.some Jvm.ClassFile.FieldType.int), "findGaps", { frames := 5, cells := 0, slots := 0, locals := 117 })
def m_X12_findGaps_B119 (k76 : Nat → Int32 → Int32 → Hp → Option (Int32 × Hp)) (r0 : Nat) (v1 : Int32) (v3 : Int32) (t0 : Int32) (t1 : Int32) (b2 : Nat) (z : Hp) : Option (Int32 × Hp) :=
  sI 2 z b2 t1 (vp_nar .boolean t0) fun z1 =>
  k76 r0 v1 (v3 + 1) z1
def m_X12_findGaps_B118 (k76 : Nat → Int32 → Int32 → Hp → Option (Int32 × Hp)) (r0 : Nat) (v1 : Int32) (v3 : Int32) (t0 : Int32) (b1 : Nat) (z : Hp) : Option (Int32 × Hp) :=
  (m_X12_findGaps_B119 k76) r0 v1 v3 0 t0 b1 z
def m_X12_findGaps_L76  : Nat → Nat → Int32 → Int32 → Hp → Option (Int32 × Hp)
  | 0, _, _, _, _ => none
  | f + 1, r0, v1, v3, z =>
    if v3 < 144 then (
      gR 12 32 z r0 fun a2 =>
      gR 12 29 z r0 fun a3 =>
      aI 1 z a3 (2 * v3) fun x4 =>
      if x4 = (-1) then (
        (m_X12_findGaps_B118 (m_X12_findGaps_L76  f)) r0 v1 v3 v3 a2 z
      ) else
      gR 12 29 z r0 fun a5 =>
      aI 1 z a5 ((2 * v3) + 1) fun x6 =>
      if x6 = (-1) then (
        (m_X12_findGaps_B119 (m_X12_findGaps_L76  f)) r0 v1 v3 1 v3 a2 z
      ) else
      (m_X12_findGaps_B118 (m_X12_findGaps_L76  f)) r0 v1 v3 v3 a2 z
    ) else
    some (v1, z)
def m_X12_findGaps_B74  (r0 : Nat) (v1 : Int32) (z : Hp) : Option (Int32 × Hp) :=
  (m_X12_findGaps_L76 FU) r0 v1 0 z
def m_X12_findGaps_L53 (k74 : Nat → Int32 → Hp → Option (Int32 × Hp)) : Nat → Nat → Int32 → Int32 → Hp → Option (Int32 × Hp)
  | 0, _, _, _, _ => none
  | f + 1, r0, v1, v2, z =>
    if v2 = (-1) then (
      k74 r0 v1 z
    ) else
    isC 12 z r0 <| bnd (m_X12_goes r0 v2 z) fun _ z7 =>
    isC 12 z7 r0 <| bnd (m_X12_search r0 z7) fun x10 z9 =>
    (m_X12_findGaps_L53 k74 f) r0 (v1 + 1) x10 z9
def m_X12_findGaps_B46  (r0 : Nat) (z : Hp) : Option (Int32 × Hp) :=
  isC 12 z r0 <| bnd (m_X12_search r0 z) fun x13 z12 =>
  (m_X12_findGaps_L53 m_X12_findGaps_B74 FU) r0 0 x13 z12
def m_X12_findGaps_B40 (k2 : Nat → Int32 → Hp → Option (Int32 × Hp)) (r0 : Nat) (v1 : Int32) (z : Hp) : Option (Int32 × Hp) :=
  k2 r0 (v1 + 1) z
def m_X12_findGaps_L18 (k40 : Nat → Int32 → Hp → Option (Int32 × Hp)) : Nat → Nat → Int32 → Int32 → Hp → Option (Int32 × Hp)
  | 0, _, _, _, _ => none
  | f + 1, r0, v1, v2, z =>
    if v2 < 4 then (
      gR 12 28 z r0 fun a15 =>
      sI 2 z a15 ((4 * v1) + v2) (vp_nar .boolean 0) fun z16 =>
      (m_X12_findGaps_L18 k40 f) r0 v1 (v2 + 1) z16
    ) else
    k40 r0 v1 z
def m_X12_findGaps_L2 (k46 : Nat → Hp → Option (Int32 × Hp)) : Nat → Nat → Int32 → Hp → Option (Int32 × Hp)
  | 0, _, _, _ => none
  | f + 1, r0, v1, z =>
    if v1 < 144 then (
      gR 12 27 z r0 fun a17 =>
      sI 2 z a17 v1 (vp_nar .boolean 0) fun z18 =>
      (m_X12_findGaps_L18 (m_X12_findGaps_B40 (m_X12_findGaps_L2 k46 f)) FU) r0 v1 0 z18
    ) else
    k46 r0 z
def m_X12_findGaps (r0 : Nat) (z : Hp) : Option (Int32 × Hp) :=
  (m_X12_findGaps_L2 m_X12_findGaps_B46 FU) r0 0 z
abbrev mi_X12_gaps : Mi := (RX12, cX12_gaps, 3, (Option.some Jvm.ClassFile.FieldType.int), "gaps", { frames := 6, cells := 0, slots := 0, locals := 140 })
def m_X12_gaps_B61 (k22 : Nat → Int32 → Int32 → Hp → Option (Int32 × Hp)) (r0 : Nat) (v1 : Int32) (v2 : Int32) (z : Hp) : Option (Int32 × Hp) :=
  k22 r0 v1 (v2 + 1) z
def m_X12_gaps_L22  : Nat → Nat → Int32 → Int32 → Hp → Option (Int32 × Hp)
  | 0, _, _, _, _ => none
  | f + 1, r0, v1, v2, z =>
    if v2 < 144 then (
      gR 12 32 z r0 fun a1 =>
      aI 2 z a1 v2 fun x2 =>
      if x2 = 0 then (
        (m_X12_gaps_B61 (m_X12_gaps_L22  f)) r0 v1 v2 z
      ) else
      gR 12 33 z r0 fun a3 =>
      gI 12 34 z r0 fun x4 =>
      sI 1 z a3 x4 v2 fun z5 =>
      gI 12 34 z5 r0 fun x6 =>
      pI 12 34 z5 r0 (x6 + 1) fun z7 =>
      (m_X12_gaps_B61 (m_X12_gaps_L22  f)) r0 v1 v2 z7
    ) else
    some (v1, z)
def m_X12_gaps (r0 : Nat) (z : Hp) : Option (Int32 × Hp) :=
  isC 12 z r0 <| bnd (m_X12_hasShaft r0 z) fun x9 z8 =>
  if x9 = 0 then (
    some ((-6), z8)
  ) else
  isC 12 z8 r0 <| bnd (m_X12_findGaps r0 z8) fun x12 z11 =>
  pI 12 34 z11 r0 0 fun z14 =>
  (m_X12_gaps_L22 FU) r0 x12 0 z14
abbrev mi_X12_gap : Mi := (RX12, cX12_gap, 2, (Option.some Jvm.ClassFile.FieldType.int), "gap", { frames := 1, cells := 0, slots := 0, locals := 25 })
def m_X12_gap (r0 : Nat) (v1 : Int32) (z : Hp) : Option (Int32 × Hp) :=
  gI 12 34 z r0 fun x1 =>
  bnd (m_X12_in (Int32.toInt64 v1) 0 (Int32.toInt64 (x1 - 1)) z) fun x3 z2 =>
  if x3 = 0 then (
    some ((-1), z2)
  ) else
  gR 12 33 z2 r0 fun a4 =>
  aI 1 z2 a4 v1 fun x5 =>
  some (x5, z2)
abbrev mi_X12_wordOf : Mi := (RX12, cX12_wordOf, 4, (Option.some Jvm.ClassFile.FieldType.int), "wordOf", { frames := 6, cells := 0, slots := 0, locals := 140 })
def m_X12_wordOf_L21  : Nat → Nat → Int32 → Int32 → Hp → Option (Int32 × Hp)
  | 0, _, _, _, _ => none
  | f + 1, r0, v2, v3, z =>
    if v3 < 12 then (
      isC 12 z r0 <| bnd (m_X12_liftOf r0 v3 z) fun x2 z1 =>
      bnd (m_J9_max_7cf53 v2 x2 z1) fun x5 z4 =>
      (m_X12_wordOf_L21  f) r0 x5 (v3 + 1) z4
    ) else
    some (v2, z)
def m_X12_wordOf (r0 : Nat) (v1 : Int32) (z : Hp) : Option (Int32 × Hp) :=
  if v1 = 3 then (
    gR 12 1 z r0 fun a15 =>
    aI 1 z a15 1 fun x16 =>
    some (x16, z)
  ) else
  if v1 = 4 then (
    (m_X12_wordOf_L21 FU) r0 0 0 z
  ) else
  isC 12 z r0 <| bnd (m_X12_hasShaft r0 z) fun x7 z6 =>
  if x7 = 0 then (
    some (0, z6)
  ) else
  if v1 = 1 then (
    isC 12 z6 r0 <| bnd (m_X12_leastOut r0 1 0 z6) fun x13 z12 =>
    some (x13, z12)
  ) else
  isC 12 z6 r0 <| bnd (m_X12_findGaps r0 z6) fun x10 z9 =>
  some (x10, z9)
abbrev mi_X12_condHolds : Mi := (RX12, cX12_condHolds, 3, (Option.some Jvm.ClassFile.FieldType.boolean), "condHolds", { frames := 7, cells := 0, slots := 0, locals := 163 })
def m_X12_condHolds (r0 : Nat) (v1 : Int32) (z : Hp) : Option (Int32 × Hp) :=
  gR 12 1 z r0 fun a1 =>
  aI 1 z a1 v1 fun x2 =>
  if x2 = 0 then (
    isC 12 z r0 <| bnd (m_X12_hasShaft r0 z) fun x15 z14 =>
    if x15 = 0 then (
      some (0, z14)
    ) else
    isC 12 z14 r0 <| bnd (m_X12_isShut r0 z14) fun x18 z17 =>
    if x18 = 0 then (
      some (0, z17)
    ) else
    some (1, z17)
  ) else
  gR 12 1 z r0 fun a3 =>
  aI 1 z a3 v1 fun x4 =>
  isC 12 z r0 <| bnd (m_X12_wordOf r0 x4 z) fun x6 z5 =>
  gR 12 1 z5 r0 fun a8 =>
  aI 1 z5 a8 (v1 + 1) fun x9 =>
  if x9 = 60 then (
    gR 12 1 z5 r0 fun a12 =>
    aI 1 z5 a12 (v1 + 2) fun x13 =>
    if x6 < x13 then (
      some (1, z5)
    ) else
    some (0, z5)
  ) else
  gR 12 1 z5 r0 fun a10 =>
  aI 1 z5 a10 (v1 + 2) fun x11 =>
  if x11 < x6 then (
    some (1, z5)
  ) else
  some (0, z5)
abbrev mi_X12_lacks : Mi := (RX12, cX12_lacks, 5, (Option.some Jvm.ClassFile.FieldType.int), "lacks", { frames := 8, cells := 0, slots := 0, locals := 185 })
def m_X12_lacks_B69 (k34 : Nat → Int32 → Int32 → Int32 → Hp → Option (Int32 × Hp)) (r0 : Nat) (v2 : Int32) (v4 : Int32) (t0 : Int32) (t1 : Int32) (z : Hp) : Option (Int32 × Hp) :=
  k34 r0 v2 (t1 ||| t0) (v4 + 1) z
def m_X12_lacks_L34  : Nat → Nat → Int32 → Int32 → Int32 → Hp → Option (Int32 × Hp)
  | 0, _, _, _, _, _ => none
  | f + 1, r0, v2, v3, v4, z =>
    gR 12 1 z r0 fun a1 =>
    aI 1 z a1 v2 fun x2 =>
    if v4 < x2 then (
      isC 12 z r0 <| bnd (m_X12_condHolds r0 ((v2 + 1) + (3 * v4)) z) fun x4 z3 =>
      if x4 = 0 then (
        (m_X12_lacks_B69 (m_X12_lacks_L34  f)) r0 v2 v4 ((1 : Int32) <<< (v4 &&& 31)) v3 z3
      ) else
      (m_X12_lacks_B69 (m_X12_lacks_L34  f)) r0 v2 v4 0 v3 z3
    ) else
    some (v3, z)
def m_X12_lacks (r0 : Nat) (v1 : Int32) (z : Hp) : Option (Int32 × Hp) :=
  gR 12 1 z r0 fun a6 =>
  aI 1 z a6 4 fun x7 =>
  bnd (m_X12_in (Int32.toInt64 v1) 0 (Int32.toInt64 (x7 - 1)) z) fun x9 z8 =>
  if x9 = 0 then (
    some ((-1), z8)
  ) else
  (m_X12_lacks_L34 FU) r0 (750 + (10 * v1)) 0 0 z8
abbrev mi_X12_mayDig : Mi := (RX12, cX12_mayDig, 3, (Option.some Jvm.ClassFile.FieldType.boolean), "mayDig", { frames := 9, cells := 0, slots := 0, locals := 209 })
def m_X12_mayDig_B44 (k17 : Nat → Int32 → Int32 → Hp → Option (Int32 × Hp)) (r0 : Nat) (v2 : Int32) (t0 : Int32) (z : Hp) : Option (Int32 × Hp) :=
  k17 r0 t0 (v2 + 1) z
def m_X12_mayDig_B39 (k17 : Nat → Int32 → Int32 → Hp → Option (Int32 × Hp)) (r0 : Nat) (v2 : Int32) (z : Hp) : Option (Int32 × Hp) :=
  (m_X12_mayDig_B44 k17) r0 v2 1 z
def m_X12_mayDig_L17  : Nat → Nat → Int32 → Int32 → Hp → Option (Int32 × Hp)
  | 0, _, _, _, _ => none
  | f + 1, r0, v1, v2, z =>
    gR 12 1 z r0 fun a1 =>
    aI 1 z a1 4 fun x2 =>
    if v2 < x2 then (
      if v1 = 0 then (
        isC 12 z r0 <| bnd (m_X12_lacks r0 v2 z) fun x4 z3 =>
        if x4 = 0 then (
          (m_X12_mayDig_B39 (m_X12_mayDig_L17  f)) r0 v2 z3
        ) else
        (m_X12_mayDig_B44 (m_X12_mayDig_L17  f)) r0 v2 0 z3
      ) else
      (m_X12_mayDig_B39 (m_X12_mayDig_L17  f)) r0 v2 z
    ) else
    some (vp_nar .boolean v1, z)
def m_X12_mayDig_B14  (r0 : Nat) (t0 : Int32) (z : Hp) : Option (Int32 × Hp) :=
  (m_X12_mayDig_L17 FU) r0 t0 0 z
def m_X12_mayDig (r0 : Nat) (z : Hp) : Option (Int32 × Hp) :=
  gR 12 1 z r0 fun a6 =>
  aI 1 z a6 4 fun x7 =>
  if x7 = 0 then (
    m_X12_mayDig_B14 r0 1 z
  ) else
  m_X12_mayDig_B14 r0 0 z
abbrev mi_X12_dig : Mi := (RX12, cX12_dig, 6, (Option.some Jvm.ClassFile.FieldType.int), "dig", { frames := 10, cells := 0, slots := 0, locals := 231 })
def m_X12_dig_B149 (k116 : Nat → Int32 → Int32 → Hp → Option (Int32 × Hp)) (r0 : Nat) (v5 : Int32) (t0 : Int32) (t1 : Int32) (z : Hp) : Option (Int32 × Hp) :=
  k116 r0 (t1 + t0) (v5 + 1) z
def m_X12_dig_B148 (k116 : Nat → Int32 → Int32 → Hp → Option (Int32 × Hp)) (r0 : Nat) (v5 : Int32) (t0 : Int32) (z : Hp) : Option (Int32 × Hp) :=
  (m_X12_dig_B149 k116) r0 v5 0 t0 z
def m_X12_dig_L116  : Nat → Nat → Int32 → Int32 → Hp → Option (Int32 × Hp)
  | 0, _, _, _, _ => none
  | f + 1, r0, v4, v5, z =>
    if v5 < 144 then (
      isC 12 z r0 <| bnd (m_X12_isShaft r0 v5 z) fun x2 z1 =>
      if x2 = 0 then (
        (m_X12_dig_B148 (m_X12_dig_L116  f)) r0 v5 v4 z1
      ) else
      isC 12 z1 r0 <| bnd (m_X12_isDug r0 v5 z1) fun x5 z4 =>
      if x5 = 0 then (
        (m_X12_dig_B149 (m_X12_dig_L116  f)) r0 v5 1 v4 z4
      ) else
      (m_X12_dig_B148 (m_X12_dig_L116  f)) r0 v5 v4 z4
    ) else
    some (v4, z)
def m_X12_dig (r0 : Nat) (v1 : Int32) (v2 : Int32) (z : Hp) : Option (Int32 × Hp) :=
  bnd (m_X12_isPlace v1 v2 z) fun x8 z7 =>
  if x8 = 0 then (
    some ((-2), z7)
  ) else
  isC 12 z7 r0 <| bnd (m_X12_isShaft r0 ((12 * v2) + v1) z7) fun x10 z9 =>
  if x10 = 0 then (
    some ((-2), z9)
  ) else
  isC 12 z9 r0 <| bnd (m_X12_isDug r0 ((12 * v2) + v1) z9) fun x13 z12 =>
  if x13 = 0 then (
    isC 12 z12 r0 <| bnd (m_X12_mayDig r0 z12) fun x16 z15 =>
    if x16 = 0 then (
      some ((-5), z15)
    ) else
    gR 12 1 z15 r0 fun a18 =>
    aI 1 z15 a18 12 fun x19 =>
    if x19 = 1 then (
      some ((-7), z15)
    ) else
    gR 12 1 z15 r0 fun a20 =>
    aI 1 z15 a20 17 fun x21 =>
    gR 12 1 z15 r0 fun a22 =>
    aI 1 z15 a22 (192 + ((12 * v2) + v1)) fun x23 =>
    gR 12 1 z15 r0 fun a24 =>
    aI 1 z15 a24 (336 + ((12 * v2) + v1)) fun x25 =>
    sI 1 z15 a20 17 (x21 + (x23 - x25)) fun z26 =>
    gR 12 1 z26 r0 fun a27 =>
    sI 1 z26 a27 (480 + ((12 * v2) + v1)) 1 fun z28 =>
    (m_X12_dig_L116 FU) r0 0 0 z28
  ) else
  some ((-2), z12)
abbrev mi_X12_pump : Mi := (RX12, cX12_pump, 1, (Option.some Jvm.ClassFile.FieldType.int), "pump", { frames := 6, cells := 0, slots := 0, locals := 140 })
def m_X12_pump (r0 : Nat) (z : Hp) : Option (Int32 × Hp) :=
  isC 12 z r0 <| bnd (m_X12_hasShaft r0 z) fun x2 z1 =>
  if x2 = 0 then (
    some ((-6), z1)
  ) else
  gR 12 1 z1 r0 fun a4 =>
  aI 1 z1 a4 12 fun x5 =>
  if x5 = 0 then (
    some ((-5), z1)
  ) else
  isC 12 z1 r0 <| bnd (m_X12_isShut r0 z1) fun x7 z6 =>
  if x7 = 0 then (
    some ((-8), z6)
  ) else
  gR 12 1 z6 r0 fun a9 =>
  sI 1 z6 a9 12 0 fun z10 =>
  some (0, z10)
abbrev mi_X12_lift : Mi := (RX12, cX12_lift, 2, (Option.some Jvm.ClassFile.FieldType.int), "lift", { frames := 2, cells := 0, slots := 0, locals := 44 })
def m_X12_lift (r0 : Nat) (v1 : Int32) (z : Hp) : Option (Int32 × Hp) :=
  bnd (m_X12_in (Int32.toInt64 v1) 0 11 z) fun x2 z1 =>
  if x2 = 0 then (
    some ((-2000000000), z1)
  ) else
  isC 12 z1 r0 <| bnd (m_X12_liftOf r0 v1 z1) fun x4 z3 =>
  some (x4, z3)
abbrev mi_X12_cracks : Mi := (RX12, cX12_cracks, 3, (Option.some Jvm.ClassFile.FieldType.int), "cracks", { frames := 0, cells := 0, slots := 0, locals := 0 })
def m_X12_cracks_B40 (k4 : Nat → Int32 → Int32 → Hp → Option (Int32 × Hp)) (r0 : Nat) (v2 : Int32) (t0 : Int32) (t1 : Int32) (z : Hp) : Option (Int32 × Hp) :=
  k4 r0 (t1 ||| t0) (v2 + 1) z
def m_X12_cracks_L4  : Nat → Nat → Int32 → Int32 → Hp → Option (Int32 × Hp)
  | 0, _, _, _, _ => none
  | f + 1, r0, v1, v2, z =>
    gR 12 1 z r0 fun a1 =>
    aI 1 z a1 3 fun x2 =>
    if v2 < x2 then (
      gR 12 1 z r0 fun a3 =>
      aI 1 z a3 ((732 + (3 * v2)) + 2) fun x4 =>
      if x4 = (-1) then (
        (m_X12_cracks_B40 (m_X12_cracks_L4  f)) r0 v2 0 v1 z
      ) else
      (m_X12_cracks_B40 (m_X12_cracks_L4  f)) r0 v2 ((1 : Int32) <<< (v2 &&& 31)) v1 z
    ) else
    some (v1, z)
def m_X12_cracks (r0 : Nat) (z : Hp) : Option (Int32 × Hp) :=
  (m_X12_cracks_L4 FU) r0 0 0 z
abbrev mi_X12_house : Mi := (RX12, cX12_house, 3, (Option.some Jvm.ClassFile.FieldType.int), "house", { frames := 1, cells := 0, slots := 0, locals := 25 })
def m_X12_house_B47   (z : Hp) : Option (Int32 × Hp) :=
  some ((-2000000000), z)
def m_X12_house (r0 : Nat) (v1 : Int32) (v2 : Int32) (z : Hp) : Option (Int32 × Hp) :=
  gR 12 1 z r0 fun a1 =>
  aI 1 z a1 3 fun x2 =>
  bnd (m_X12_in (Int32.toInt64 v1) 0 (Int32.toInt64 (x2 - 1)) z) fun x4 z3 =>
  if x4 = 0 then (
    m_X12_house_B47 z3
  ) else
  bnd (m_X12_in (Int32.toInt64 v2) 0 2 z3) fun x6 z5 =>
  if x6 = 0 then (
    m_X12_house_B47 z5
  ) else
  gR 12 1 z5 r0 fun a7 =>
  aI 1 z5 a7 ((732 + (3 * v1)) + v2) fun x8 =>
  some (x8, z5)
abbrev mi_X12_foretell : Mi := (RX12, cX12_foretell, 3, (Option.some Jvm.ClassFile.FieldType.int), "foretell", { frames := 7, cells := 0, slots := 0, locals := 162 })
def m_X12_foretell_B52  (r0 : Nat) (v1 : Int32) (z : Hp) : Option (Int32 × Hp) :=
  isC 12 z r0 <| bnd (m_X12_putsBack r0 z) fun _ z1 =>
  some (v1, z1)
def m_X12_foretell_B46 (k18 : Nat → Int32 → Int32 → Hp → Option (Int32 × Hp)) (r0 : Nat) (v1 : Int32) (v2 : Int32) (z : Hp) : Option (Int32 × Hp) :=
  k18 r0 v1 (v2 + 1) z
def m_X12_foretell_B37 (k18 : Nat → Int32 → Int32 → Hp → Option (Int32 × Hp)) (r0 : Nat) (v1 : Int32) (v2 : Int32) (z : Hp) : Option (Int32 × Hp) :=
  isC 12 z r0 <| bnd (m_X12_isShut r0 z) fun x4 z3 =>
  if x4 = 0 then (
    (m_X12_foretell_B46 k18) r0 v1 v2 z3
  ) else
  (m_X12_foretell_B46 k18) r0 v2 v2 z3
def m_X12_foretell_L18 (k52 : Nat → Int32 → Hp → Option (Int32 × Hp)) : Nat → Nat → Int32 → Int32 → Hp → Option (Int32 × Hp)
  | 0, _, _, _, _ => none
  | f + 1, r0, v1, v2, z =>
    if 60 < v2 then (
      k52 r0 v1 z
    ) else
    if v1 = (-1) then (
      if 0 < v2 then (
        isC 12 z r0 <| bnd (m_X12_ticks r0 z) fun _ z6 =>
        (m_X12_foretell_B37 (m_X12_foretell_L18 k52 f)) r0 v1 v2 z6
      ) else
      (m_X12_foretell_B37 (m_X12_foretell_L18 k52 f)) r0 v1 v2 z
    ) else
    k52 r0 v1 z
def m_X12_foretell (r0 : Nat) (z : Hp) : Option (Int32 × Hp) :=
  isC 12 z r0 <| bnd (m_X12_hasShaft r0 z) fun x9 z8 =>
  if x9 = 0 then (
    some ((-6), z8)
  ) else
  isC 12 z8 r0 <| bnd (m_X12_saves r0 z8) fun _ z11 =>
  (m_X12_foretell_L18 m_X12_foretell_B52 FU) r0 (-1) 0 z11
abbrev mi_X12_off : Mi := (RX12, cX12_off, 3, (Option.some Jvm.ClassFile.FieldType.int), "off", { frames := 7, cells := 0, slots := 0, locals := 162 })
def m_X12_off_B92  (r0 : Nat) (v1 : Int32) (z : Hp) : Option (Int32 × Hp) :=
  isC 12 z r0 <| bnd (m_X12_putsBack r0 z) fun _ z1 =>
  some (v1, z1)
def m_X12_off_B86 (k62 : Nat → Int32 → Int32 → Hp → Option (Int32 × Hp)) (r0 : Nat) (v1 : Int32) (v2 : Int32) (z : Hp) : Option (Int32 × Hp) :=
  k62 r0 v1 (v2 + 1) z
def m_X12_off_L62 (k92 : Nat → Int32 → Hp → Option (Int32 × Hp)) : Nat → Nat → Int32 → Int32 → Hp → Option (Int32 × Hp)
  | 0, _, _, _, _ => none
  | f + 1, r0, v1, v2, z =>
    if 60 < v2 then (
      k92 r0 v1 z
    ) else
    if v1 = (-1) then (
      isC 12 z r0 <| bnd (m_X12_ticks r0 z) fun _ z3 =>
      isC 12 z3 r0 <| bnd (m_X12_isShut r0 z3) fun x6 z5 =>
      if x6 = 0 then (
        (m_X12_off_B86 (m_X12_off_L62 k92 f)) r0 v2 v2 z5
      ) else
      (m_X12_off_B86 (m_X12_off_L62 k92 f)) r0 v1 v2 z5
    ) else
    k92 r0 v1 z
def m_X12_off_B58  (r0 : Nat) (z : Hp) : Option (Int32 × Hp) :=
  (m_X12_off_L62 m_X12_off_B92 FU) r0 (-1) 1 z
def m_X12_off_L26 (k58 : Nat → Hp → Option (Int32 × Hp)) : Nat → Nat → Int32 → Hp → Option (Int32 × Hp)
  | 0, _, _, _ => none
  | f + 1, r0, v1, z =>
    gR 12 1 z r0 fun a8 =>
    aI 1 z a8 2 fun x9 =>
    if v1 < x9 then (
      gR 12 1 z r0 fun a10 =>
      sI 1 z a10 ((624 + (6 * v1)) + 3) 0 fun z11 =>
      (m_X12_off_L26 k58 f) r0 (v1 + 1) z11
    ) else
    k58 r0 z
def m_X12_off (r0 : Nat) (z : Hp) : Option (Int32 × Hp) :=
  isC 12 z r0 <| bnd (m_X12_hasShaft r0 z) fun x13 z12 =>
  if x13 = 0 then (
    some ((-6), z12)
  ) else
  isC 12 z12 r0 <| bnd (m_X12_isShut r0 z12) fun x16 z15 =>
  if x16 = 0 then (
    some ((-5), z15)
  ) else
  isC 12 z15 r0 <| bnd (m_X12_saves r0 z15) fun _ z18 =>
  (m_X12_off_L26 m_X12_off_B58 FU) r0 0 z18
abbrev mi_X12_shutsBy : Mi := (RX12, cX12_shutsBy, 7, (Option.some Jvm.ClassFile.FieldType.boolean), "shutsBy", { frames := 7, cells := 0, slots := 0, locals := 162 })
def m_X12_shutsBy_B171  (r0 : Nat) (z : Hp) : Option (Int32 × Hp) :=
  isC 12 z r0 <| bnd (m_X12_isShut r0 z) fun x2 z1 =>
  isC 12 z1 r0 <| bnd (m_X12_putsBack r0 z1) fun _ z4 =>
  some (vp_nar .boolean x2, z4)
def m_X12_shutsBy_L155 (k171 : Nat → Hp → Option (Int32 × Hp)) : Nat → Nat → Int32 → Int32 → Hp → Option (Int32 × Hp)
  | 0, _, _, _, _ => none
  | f + 1, r0, v3, v4, z =>
    if v4 < v3 then (
      isC 12 z r0 <| bnd (m_X12_ticks r0 z) fun _ z6 =>
      (m_X12_shutsBy_L155 k171 f) r0 v3 (v4 + 1) z6
    ) else
    k171 r0 z
def m_X12_shutsBy_B152  (r0 : Nat) (v3 : Int32) (z : Hp) : Option (Int32 × Hp) :=
  (m_X12_shutsBy_L155 m_X12_shutsBy_B171 FU) r0 v3 0 z
def m_X12_shutsBy_B146 (k7 : Nat → Int32 → Int32 → Int32 → Int32 → Hp → Option (Int32 × Hp)) (r0 : Nat) (v1 : Int32) (v2 : Int32) (v3 : Int32) (v4 : Int32) (z : Hp) : Option (Int32 × Hp) :=
  k7 r0 v1 v2 v3 (v4 + 1) z
def m_X12_shutsBy_B72 (k7 : Nat → Int32 → Int32 → Int32 → Int32 → Hp → Option (Int32 × Hp)) (r0 : Nat) (v1 : Int32) (v2 : Int32) (v3 : Int32) (v4 : Int32) (v5 : Int32) (z : Hp) : Option (Int32 × Hp) :=
  gR 12 1 z r0 fun a8 =>
  gR 12 38 z r0 fun a9 =>
  aL z a9 ((60 * v1) + v4) fun x10 =>
  sI 1 z a8 v5 (Int64.toInt32 x10) fun z11 =>
  gR 12 1 z11 r0 fun a12 =>
  gR 12 1 z11 r0 fun a13 =>
  aI 1 z11 a13 625 fun x14 =>
  sI 1 z11 a12 (v5 + 1) x14 fun z15 =>
  gR 12 1 z15 r0 fun a16 =>
  gR 12 1 z15 r0 fun a17 =>
  aI 1 z15 a17 626 fun x18 =>
  sI 1 z15 a16 (v5 + 2) x18 fun z19 =>
  gR 12 1 z19 r0 fun a20 =>
  sI 1 z19 a20 (v5 + 3) 1 fun z21 =>
  gR 12 1 z21 r0 fun a22 =>
  aI 1 z21 a22 2 fun x23 =>
  sI 1 z21 a22 2 (x23 + 1) fun z24 =>
  (m_X12_shutsBy_B146 k7) r0 v1 v2 v3 v4 z24
def m_X12_shutsBy_L48 (k72 : Nat → Int32 → Int32 → Int32 → Int32 → Int32 → Hp → Option (Int32 × Hp)) : Nat → Nat → Int32 → Int32 → Int32 → Int32 → Int32 → Int32 → Hp → Option (Int32 × Hp)
  | 0, _, _, _, _, _, _, _, _ => none
  | f + 1, r0, v1, v2, v3, v4, v5, v6, z =>
    if v6 < 6 then (
      gR 12 1 z r0 fun a25 =>
      sI 1 z a25 (v5 + v6) 0 fun z26 =>
      (m_X12_shutsBy_L48 k72 f) r0 v1 v2 v3 v4 v5 (v6 + 1) z26
    ) else
    k72 r0 v1 v2 v3 v4 v5 z
def m_X12_shutsBy_L7 (k152 : Nat → Int32 → Hp → Option (Int32 × Hp)) : Nat → Nat → Int32 → Int32 → Int32 → Int32 → Hp → Option (Int32 × Hp)
  | 0, _, _, _, _, _, _ => none
  | f + 1, r0, v1, v2, v3, v4, z =>
    gR 12 36 z r0 fun a27 =>
    aI 1 z a27 v1 fun x28 =>
    if v4 < x28 then (
      if ((v2 >>> (v4 &&& 31)) &&& 1) = 0 then (
        (m_X12_shutsBy_B146 (m_X12_shutsBy_L7 k152 f)) r0 v1 v2 v3 v4 z
      ) else
      gR 12 1 z r0 fun a29 =>
      aI 1 z a29 2 fun x30 =>
      (m_X12_shutsBy_L48 (m_X12_shutsBy_B72 (m_X12_shutsBy_L7 k152 f)) FU) r0 v1 v2 v3 v4 (624 + (6 * x30)) 0 z
    ) else
    k152 r0 v3 z
def m_X12_shutsBy (r0 : Nat) (v1 : Int32) (v2 : Int32) (v3 : Int32) (z : Hp) : Option (Int32 × Hp) :=
  isC 12 z r0 <| bnd (m_X12_saves r0 z) fun _ z31 =>
  (m_X12_shutsBy_L7 m_X12_shutsBy_B152 FU) r0 v1 v2 v3 0 z31
abbrev mi_X12_ones : Mi := (RX12, cX12_ones, 3, (Option.some Jvm.ClassFile.FieldType.int), "ones", { frames := 0, cells := 0, slots := 0, locals := 0 })
def m_X12_ones_L4  : Nat → Int32 → Int32 → Int32 → Hp → Option (Int32 × Hp)
  | 0, _, _, _, _ => none
  | f + 1, v0, v1, v2, z =>
    if v2 < 6 then (
      (m_X12_ones_L4  f) v0 (v1 + ((v0 >>> (v2 &&& 31)) &&& 1)) (v2 + 1) z
    ) else
    some (v1, z)
def m_X12_ones (v0 : Int32) (z : Hp) : Option (Int32 × Hp) :=
  (m_X12_ones_L4 FU) v0 0 0 z
abbrev mi_X12_isAhead : Mi := (RX12, cX12_isAhead, 3, (Option.some Jvm.ClassFile.FieldType.boolean), "isAhead", { frames := 0, cells := 0, slots := 0, locals := 0 })
def m_X12_isAhead (v0 : Int32) (v1 : Int32) (z : Hp) : Option (Int32 × Hp) :=
  if ((v0 &&& (v0 ^^^ v1)) &&& (-(v0 ^^^ v1))) = 0 then (
    some (0, z)
  ) else
  some (1, z)
abbrev mi_X12_mayTell : Mi := (RX12, cX12_mayTell, 6, (Option.some Jvm.ClassFile.FieldType.boolean), "mayTell", { frames := 1, cells := 0, slots := 0, locals := 25 })
def m_X12_mayTell_B90 (k2 : Nat → Int32 → Int32 → Hp → Option (Int32 × Hp)) (r0 : Nat) (v1 : Int32) (v2 : Int32) (z : Hp) : Option (Int32 × Hp) :=
  k2 r0 v1 (v2 + 1) z
def m_X12_mayTell_L59 (k90 : Nat → Int32 → Int32 → Hp → Option (Int32 × Hp)) : Nat → Nat → Int32 → Int32 → Int64 → Int32 → Hp → Option (Int32 × Hp)
  | 0, _, _, _, _, _, _ => none
  | f + 1, r0, v1, v2, w3, v5, z =>
    if v5 < v2 then (
      gR 12 38 z r0 fun a1 =>
      aL z a1 ((60 * v1) + v5) fun x2 =>
      if (lg_cmp x2 w3) = 0 then (
        some (0, z)
      ) else
      (m_X12_mayTell_L59 k90 f) r0 v1 v2 w3 (v5 + 1) z
    ) else
    k90 r0 v1 v2 z
def m_X12_mayTell_L2  : Nat → Nat → Int32 → Int32 → Hp → Option (Int32 × Hp)
  | 0, _, _, _, _ => none
  | f + 1, r0, v1, v2, z =>
    gR 12 36 z r0 fun a3 =>
    aI 1 z a3 v1 fun x4 =>
    if v2 < x4 then (
      gR 12 38 z r0 fun a5 =>
      aL z a5 ((60 * v1) + v2) fun x6 =>
      bnd (m_X12_in x6 0 143 z) fun x8 z7 =>
      if x8 = 0 then (
        some (0, z7)
      ) else
      isC 12 z7 r0 <| bnd (m_X12_pipeAt r0 (Int64.toInt32 x6) z7) fun x10 z9 =>
      if x10 = (-1) then (
        isC 12 z9 r0 <| bnd (m_X12_isDug r0 (Int64.toInt32 x6) z9) fun x13 z12 =>
        if x13 = 0 then (
          (m_X12_mayTell_L59 (m_X12_mayTell_B90 (m_X12_mayTell_L2  f)) FU) r0 v1 v2 x6 0 z12
        ) else
        some (0, z12)
      ) else
      some (0, z9)
    ) else
    some (1, z)
def m_X12_mayTell (r0 : Nat) (v1 : Int32) (z : Hp) : Option (Int32 × Hp) :=
  (m_X12_mayTell_L2 FU) r0 v1 0 z
abbrev mi_X12_isSlot : Mi := (RX12, cX12_isSlot, 1, (Option.some Jvm.ClassFile.FieldType.boolean), "isSlot", { frames := 1, cells := 0, slots := 0, locals := 25 })
def m_X12_isSlot (v0 : Int32) (z : Hp) : Option (Int32 × Hp) :=
  bnd (m_X12_in (Int32.toInt64 v0) 0 3 z) fun x2 z1 =>
  some (vp_nar .boolean x2, z1)
abbrev mi_X12_more : Mi := (RX12, cX12_more, 6, (Option.some Jvm.ClassFile.FieldType.int), "more", { frames := 8, cells := 0, slots := 0, locals := 188 })
def m_X12_more_B161  (r0 : Nat) (v3 : Int32) (z : Hp) : Option (Int32 × Hp) :=
  if v3 = (-1) then (
    some ((-1), z)
  ) else
  pI 12 35 z r0 v3 fun z1 =>
  bnd (m_X12_ones v3 z1) fun x3 z2 =>
  some (x3, z2)
def m_X12_more_B155 (k78 : Nat → Int32 → Int32 → Int32 → Int32 → Hp → Option (Int32 × Hp)) (r0 : Nat) (v1 : Int32) (v2 : Int32) (v3 : Int32) (v4 : Int32) (z : Hp) : Option (Int32 × Hp) :=
  k78 r0 v1 v2 v3 (v4 + 1) z
def m_X12_more_B134 (k78 : Nat → Int32 → Int32 → Int32 → Int32 → Hp → Option (Int32 × Hp)) (r0 : Nat) (v1 : Int32) (v2 : Int32) (v3 : Int32) (v4 : Int32) (t0 : Int32) (z : Hp) : Option (Int32 × Hp) :=
  if t0 = 0 then (
    (m_X12_more_B155 k78) r0 v1 v2 v3 v4 z
  ) else
  isC 12 z r0 <| bnd (m_X12_shutsBy r0 v1 v4 v2 z) fun x5 z4 =>
  if x5 = 0 then (
    (m_X12_more_B155 k78) r0 v1 v2 v3 v4 z4
  ) else
  (m_X12_more_B155 k78) r0 v1 v2 v4 v4 z4
def m_X12_more_B133 (k78 : Nat → Int32 → Int32 → Int32 → Int32 → Hp → Option (Int32 × Hp)) (r0 : Nat) (v1 : Int32) (v2 : Int32) (v3 : Int32) (v4 : Int32) (z : Hp) : Option (Int32 × Hp) :=
  (m_X12_more_B134 k78) r0 v1 v2 v3 v4 0 z
def m_X12_more_B129 (k78 : Nat → Int32 → Int32 → Int32 → Int32 → Hp → Option (Int32 × Hp)) (r0 : Nat) (v1 : Int32) (v2 : Int32) (v3 : Int32) (v4 : Int32) (z : Hp) : Option (Int32 × Hp) :=
  (m_X12_more_B134 k78) r0 v1 v2 v3 v4 1 z
def m_X12_more_L78 (k161 : Nat → Int32 → Hp → Option (Int32 × Hp)) : Nat → Nat → Int32 → Int32 → Int32 → Int32 → Hp → Option (Int32 × Hp)
  | 0, _, _, _, _, _, _ => none
  | f + 1, r0, v1, v2, v3, v4, z =>
    gR 12 36 z r0 fun a7 =>
    aI 1 z a7 v1 fun x8 =>
    if v4 < ((1 : Int32) <<< (x8 &&& 31)) then (
      if v3 = (-1) then (
        (m_X12_more_B129 (m_X12_more_L78 k161 f)) r0 v1 v2 v3 v4 z
      ) else
      bnd (m_X12_ones v4 z) fun x10 z9 =>
      bnd (m_X12_ones v3 z9) fun x12 z11 =>
      if x10 < x12 then (
        (m_X12_more_B129 (m_X12_more_L78 k161 f)) r0 v1 v2 v3 v4 z11
      ) else
      bnd (m_X12_ones v4 z11) fun x14 z13 =>
      bnd (m_X12_ones v3 z13) fun x16 z15 =>
      if x14 = x16 then (
        bnd (m_X12_isAhead v4 v3 z15) fun x18 z17 =>
        if x18 = 0 then (
          (m_X12_more_B133 (m_X12_more_L78 k161 f)) r0 v1 v2 v3 v4 z17
        ) else
        (m_X12_more_B129 (m_X12_more_L78 k161 f)) r0 v1 v2 v3 v4 z17
      ) else
      (m_X12_more_B133 (m_X12_more_L78 k161 f)) r0 v1 v2 v3 v4 z15
    ) else
    k161 r0 v3 z
def m_X12_more (r0 : Nat) (v1 : Int32) (v2 : Int32) (z : Hp) : Option (Int32 × Hp) :=
  bnd (m_X12_isSlot v1 z) fun x20 z19 =>
  if x20 = 0 then (
    some ((-2), z19)
  ) else
  bnd (m_X12_in (Int32.toInt64 v2) 1 30 z19) fun x22 z21 =>
  if x22 = 0 then (
    some ((-2), z21)
  ) else
  gR 12 36 z21 r0 fun a23 =>
  aI 1 z21 a23 v1 fun x24 =>
  if 6 < x24 then (
    some ((-2), z21)
  ) else
  gR 12 36 z21 r0 fun a25 =>
  aI 1 z21 a25 v1 fun x26 =>
  if x26 = (-1) then (
    some ((-6), z21)
  ) else
  isC 12 z21 r0 <| bnd (m_X12_hasShaft r0 z21) fun x28 z27 =>
  if x28 = 0 then (
    some ((-6), z27)
  ) else
  gR 12 1 z27 r0 fun a30 =>
  aI 1 z27 a30 2 fun x31 =>
  if x31 = 0 then (
    some ((-6), z27)
  ) else
  isC 12 z27 r0 <| bnd (m_X12_mayTell r0 v1 z27) fun x33 z32 =>
  if x33 = 0 then (
    some ((-7), z32)
  ) else
  (m_X12_more_L78 m_X12_more_B161 FU) r0 v1 v2 (-1) 0 z32
abbrev mi_X12_chosen : Mi := (RX12, cX12_chosen, 1, (Option.some Jvm.ClassFile.FieldType.int), "chosen", { frames := 0, cells := 0, slots := 0, locals := 0 })
def m_X12_chosen (r0 : Nat) (z : Hp) : Option (Int32 × Hp) :=
  gI 12 35 z r0 fun x1 =>
  some (x1, z)
abbrev mi_X12_gauge : Mi := (RX12, cX12_gauge, 5, (Option.some Jvm.ClassFile.FieldType.int), "gauge", { frames := 2, cells := 0, slots := 0, locals := 46 })
def m_X12_gauge (r0 : Nat) (v1 : Int32) (v2 : Int32) (v3 : Int32) (v4 : Int32) (z : Hp) : Option (Int32 × Hp) :=
  bnd (m_X12_in (Int32.toInt64 v1) 0 9 z) fun x2 z1 =>
  if x2 = 0 then (
    some ((-2), z1)
  ) else
  bnd (m_X12_isPlace v2 v3 z1) fun x4 z3 =>
  if x4 = 0 then (
    some ((-2), z3)
  ) else
  bnd (m_X12_in (Int32.toInt64 v4) (-500) 500 z3) fun x6 z5 =>
  if x6 = 0 then (
    some ((-2), z5)
  ) else
  gR 12 1 z5 r0 fun a7 =>
  sI 1 z5 a7 (790 + (2 * v1)) ((12 * v3) + v2) fun z8 =>
  gR 12 1 z8 r0 fun a9 =>
  sI 1 z8 a9 ((790 + (2 * v1)) + 1) v4 fun z10 =>
  some (0, z10)
abbrev mi_X12_lies : Mi := (RX12, cX12_lies, 5, (Option.some Jvm.ClassFile.FieldType.int), "lies", { frames := 1, cells := 0, slots := 0, locals := 25 })
def m_X12_lies_B93 (k19 : Nat → Int32 → Int32 → Int32 → Hp → Option (Int32 × Hp)) (r0 : Nat) (v1 : Int32) (v2 : Int32) (v3 : Int32) (z : Hp) : Option (Int32 × Hp) :=
  k19 r0 v1 v2 (v3 + 1) z
def m_X12_lies_B87 (k19 : Nat → Int32 → Int32 → Int32 → Hp → Option (Int32 × Hp)) (r0 : Nat) (v1 : Int32) (v2 : Int32) (v3 : Int32) (z : Hp) : Option (Int32 × Hp) :=
  (m_X12_lies_B93 k19) r0 v1 (v2 ||| ((1 : Int32) <<< (v3 &&& 31))) v3 z
def m_X12_lies_L19  : Nat → Nat → Int32 → Int32 → Int32 → Hp → Option (Int32 × Hp)
  | 0, _, _, _, _, _ => none
  | f + 1, r0, v1, v2, v3, z =>
    if v3 < 10 then (
      gR 12 1 z r0 fun a1 =>
      aI 1 z a1 (790 + (2 * v3)) fun x2 =>
      if x2 = (-1) then (
        (m_X12_lies_B93 (m_X12_lies_L19  f)) r0 v1 v2 v3 z
      ) else
      isC 12 z r0 <| bnd (m_X12_isDug r0 x2 z) fun x4 z3 =>
      if x4 = 0 then (
        gR 12 1 z3 r0 fun a6 =>
        aI 1 z3 a6 (192 + x2) fun x7 =>
        gR 12 1 z3 r0 fun a8 =>
        aI 1 z3 a8 ((790 + (2 * v3)) + 1) fun x9 =>
        bnd (m_J9_abs_0f7a4 (x7 - x9) z3) fun x11 z10 =>
        if v1 < x11 then (
          (m_X12_lies_B87 (m_X12_lies_L19  f)) r0 v1 v2 v3 z10
        ) else
        (m_X12_lies_B93 (m_X12_lies_L19  f)) r0 v1 v2 v3 z10
      ) else
      (m_X12_lies_B87 (m_X12_lies_L19  f)) r0 v1 v2 v3 z3
    ) else
    some (v2, z)
def m_X12_lies (r0 : Nat) (v1 : Int32) (z : Hp) : Option (Int32 × Hp) :=
  bnd (m_X12_in (Int32.toInt64 v1) 0 99 z) fun x13 z12 =>
  if x13 = 0 then (
    some ((-2), z12)
  ) else
  (m_X12_lies_L19 FU) r0 v1 0 0 z12
abbrev mi_X12_most : Mi := (RX12, cX12_most, 4, (Option.some Jvm.ClassFile.FieldType.int), "most", { frames := 1, cells := 0, slots := 0, locals := 25 })
def m_X12_most_B94 (k16 : Nat → Int32 → Int32 → Int32 → Hp → Option (Int32 × Hp)) (r0 : Nat) (v1 : Int32) (v2 : Int32) (v3 : Int32) (z : Hp) : Option (Int32 × Hp) :=
  k16 r0 v1 v2 (v3 + 1) z
def m_X12_most_B92 (k16 : Nat → Int32 → Int32 → Int32 → Hp → Option (Int32 × Hp)) (r0 : Nat) (v1 : Int32) (v3 : Int32) (z : Hp) : Option (Int32 × Hp) :=
  (m_X12_most_B94 k16) r0 v1 v3 v3 z
def m_X12_most_L16  : Nat → Nat → Int32 → Int32 → Int32 → Hp → Option (Int32 × Hp)
  | 0, _, _, _, _, _ => none
  | f + 1, r0, v1, v2, v3, z =>
    if v3 < 144 then (
      isC 12 z r0 <| bnd (m_X12_isDug r0 v3 z) fun x2 z1 =>
      if x2 = 0 then (
        if v2 = (-1) then (
          (m_X12_most_B92 (m_X12_most_L16  f)) r0 v1 v3 z1
        ) else
        if v1 = 0 then (
          gR 12 1 z1 r0 fun a8 =>
          aI 1 z1 a8 (192 + v3) fun x9 =>
          gR 12 1 z1 r0 fun a10 =>
          aI 1 z1 a10 (192 + v2) fun x11 =>
          if x9 < x11 then (
            (m_X12_most_B92 (m_X12_most_L16  f)) r0 v1 v3 z1
          ) else
          (m_X12_most_B94 (m_X12_most_L16  f)) r0 v1 v2 v3 z1
        ) else
        gR 12 1 z1 r0 fun a4 =>
        aI 1 z1 a4 (192 + v3) fun x5 =>
        gR 12 1 z1 r0 fun a6 =>
        aI 1 z1 a6 (192 + v2) fun x7 =>
        if x7 < x5 then (
          (m_X12_most_B92 (m_X12_most_L16  f)) r0 v1 v3 z1
        ) else
        (m_X12_most_B94 (m_X12_most_L16  f)) r0 v1 v2 v3 z1
      ) else
      (m_X12_most_B94 (m_X12_most_L16  f)) r0 v1 v2 v3 z1
    ) else
    some (v2, z)
def m_X12_most (r0 : Nat) (v1 : Int32) (z : Hp) : Option (Int32 × Hp) :=
  bnd (m_X12_in (Int32.toInt64 v1) 0 1 z) fun x13 z12 =>
  if x13 = 0 then (
    some ((-1), z12)
  ) else
  (m_X12_most_L16 FU) r0 v1 (-1) 0 z12
abbrev mi_X12_frost : Mi := (RX12, cX12_frost, 4, (Option.some Jvm.ClassFile.FieldType.int), "frost", { frames := 2, cells := 0, slots := 0, locals := 43 })
def m_X12_frost_B45 (k18 : Nat → Int32 → Int32 → Int32 → Hp → Option (Int32 × Hp)) (r0 : Nat) (v1 : Int32) (v3 : Int32) (t0 : Int32) (t1 : Int32) (z : Hp) : Option (Int32 × Hp) :=
  k18 r0 v1 (t1 ||| t0) (v3 + 1) z
def m_X12_frost_L18  : Nat → Nat → Int32 → Int32 → Int32 → Hp → Option (Int32 × Hp)
  | 0, _, _, _, _, _ => none
  | f + 1, r0, v1, v2, v3, z =>
    if v3 < 12 then (
      isC 12 z r0 <| bnd (m_X12_isFrozen r0 ((12 * v1) + v3) z) fun x2 z1 =>
      if x2 = 0 then (
        (m_X12_frost_B45 (m_X12_frost_L18  f)) r0 v1 v3 0 v2 z1
      ) else
      (m_X12_frost_B45 (m_X12_frost_L18  f)) r0 v1 v3 ((1 : Int32) <<< (v3 &&& 31)) v2 z1
    ) else
    some (v2, z)
def m_X12_frost (r0 : Nat) (v1 : Int32) (z : Hp) : Option (Int32 × Hp) :=
  bnd (m_X12_in (Int32.toInt64 v1) 0 11 z) fun x5 z4 =>
  if x5 = 0 then (
    some ((-1), z4)
  ) else
  (m_X12_frost_L18 FU) r0 v1 0 0 z4
abbrev mi_X12_count : Mi := (RX12, cX12_count, 4, (Option.some Jvm.ClassFile.FieldType.int), "count", { frames := 2, cells := 0, slots := 0, locals := 43 })
def m_X12_count_B196 (k175 : Nat → Int32 → Int32 → Hp → Option (Int32 × Hp)) (r0 : Nat) (v3 : Int32) (t0 : Int32) (t1 : Int32) (z : Hp) : Option (Int32 × Hp) :=
  k175 r0 (t1 + t0) (v3 + 1) z
def m_X12_count_L175  : Nat → Nat → Int32 → Int32 → Hp → Option (Int32 × Hp)
  | 0, _, _, _, _ => none
  | f + 1, r0, v2, v3, z =>
    if v3 < 4 then (
      gR 12 36 z r0 fun a1 =>
      aI 1 z a1 v3 fun x2 =>
      if x2 = (-1) then (
        (m_X12_count_B196 (m_X12_count_L175  f)) r0 v3 0 v2 z
      ) else
      (m_X12_count_B196 (m_X12_count_L175  f)) r0 v3 1 v2 z
    ) else
    some (v2, z)
def m_X12_count_B128 (k91 : Nat → Int32 → Int32 → Int32 → Hp → Option (Int32 × Hp)) (r0 : Nat) (v1 : Int32) (v3 : Int32) (t0 : Int32) (t1 : Int32) (z : Hp) : Option (Int32 × Hp) :=
  k91 r0 v1 (t1 + t0) (v3 + 1) z
def m_X12_count_B127 (k91 : Nat → Int32 → Int32 → Int32 → Hp → Option (Int32 × Hp)) (r0 : Nat) (v1 : Int32) (v3 : Int32) (t0 : Int32) (z : Hp) : Option (Int32 × Hp) :=
  (m_X12_count_B128 k91) r0 v1 v3 0 t0 z
def m_X12_count_B123 (k91 : Nat → Int32 → Int32 → Int32 → Hp → Option (Int32 × Hp)) (r0 : Nat) (v1 : Int32) (v3 : Int32) (t0 : Int32) (z : Hp) : Option (Int32 × Hp) :=
  (m_X12_count_B128 k91) r0 v1 v3 1 t0 z
def m_X12_count_L91  : Nat → Nat → Int32 → Int32 → Int32 → Hp → Option (Int32 × Hp)
  | 0, _, _, _, _, _ => none
  | f + 1, r0, v1, v2, v3, z =>
    if v3 < 144 then (
      if v1 = 3 then (
        isC 12 z r0 <| bnd (m_X12_isFrozen r0 v3 z) fun x7 z6 =>
        if x7 = 0 then (
          (m_X12_count_B127 (m_X12_count_L91  f)) r0 v1 v3 v2 z6
        ) else
        (m_X12_count_B123 (m_X12_count_L91  f)) r0 v1 v3 v2 z6
      ) else
      isC 12 z r0 <| bnd (m_X12_isDug r0 v3 z) fun x4 z3 =>
      if x4 = 0 then (
        (m_X12_count_B127 (m_X12_count_L91  f)) r0 v1 v3 v2 z3
      ) else
      (m_X12_count_B123 (m_X12_count_L91  f)) r0 v1 v3 v2 z3
    ) else
    some (v2, z)
def m_X12_count (r0 : Nat) (v1 : Int32) (z : Hp) : Option (Int32 × Hp) :=
  if v1 = 0 then (
    gR 12 1 z r0 fun a9 =>
    aI 1 z a9 0 fun x10 =>
    some (x10, z)
  ) else
  if v1 = 1 then (
    gR 12 1 z r0 fun a12 =>
    aI 1 z a12 1 fun x13 =>
    some (x13, z)
  ) else
  if v1 = 2 then (
    gR 12 1 z r0 fun a15 =>
    aI 1 z a15 2 fun x16 =>
    some (x16, z)
  ) else
  if v1 = 3 then (
    (m_X12_count_L91 FU) r0 v1 0 0 z
  ) else
  if v1 = 4 then (
    (m_X12_count_L91 FU) r0 v1 0 0 z
  ) else
  if v1 = 5 then (
    gR 12 1 z r0 fun a20 =>
    aI 1 z a20 4 fun x21 =>
    some (x21, z)
  ) else
  if v1 = 6 then (
    gI 12 6 z r0 fun x23 =>
    some (x23, z)
  ) else
  if v1 = 7 then (
    gR 12 1 z r0 fun a25 =>
    aI 1 z a25 3 fun x26 =>
    some (x26, z)
  ) else
  if v1 = 8 then (
    gR 12 1 z r0 fun a28 =>
    aI 1 z a28 12 fun x29 =>
    some (x29, z)
  ) else
  if v1 = 9 then (
    gR 12 1 z r0 fun a31 =>
    aI 1 z a31 6 fun x32 =>
    some (x32, z)
  ) else
  if v1 = 10 then (
    (m_X12_count_L175 FU) r0 0 0 z
  ) else
  if v1 = 11 then (
    gR 12 1 z r0 fun a35 =>
    aI 1 z a35 5 fun x36 =>
    some (x36, z)
  ) else
  if v1 = 12 then (
    gR 12 1 z r0 fun a38 =>
    aI 1 z a38 13 fun x39 =>
    some (x39, z)
  ) else
  some ((-1), z)
abbrev mi_X12_cut : Mi := (RX12, cX12_cut, 4, (Option.some Jvm.ClassFile.FieldType.long), "cut", { frames := 0, cells := 0, slots := 0, locals := 0 })
def m_X12_cut (w0 : Int64) (v2 : Int32) (z : Hp) : Option (Int64 × Hp) :=
  some ((w0 <<< (Int32.toInt64 (64 - ((8 : Int32) <<< (v2 &&& 31))) &&& 63)) >>> (Int32.toInt64 (64 - ((8 : Int32) <<< (v2 &&& 31))) &&& 63), z)
abbrev mi_X12_row : Mi := (RX12, cX12_row, 5, (Option.some Jvm.ClassFile.FieldType.int), "row", { frames := 2, cells := 0, slots := 0, locals := 45 })
def m_X12_row_L52  : Nat → Nat → Int32 → Int32 → Hp → Option (Int32 × Hp)
  | 0, _, _, _, _ => none
  | f + 1, r0, v1, v4, z =>
    if v4 < 60 then (
      gR 12 38 z r0 fun a1 =>
      sL z a1 ((60 * v1) + v4) 0 fun z2 =>
      (m_X12_row_L52  f) r0 v1 (v4 + 1) z2
    ) else
    some (0, z)
def m_X12_row (r0 : Nat) (v1 : Int32) (v2 : Int32) (v3 : Int32) (z : Hp) : Option (Int32 × Hp) :=
  bnd (m_X12_isSlot v1 z) fun x4 z3 =>
  if x4 = 0 then (
    some ((-2), z3)
  ) else
  bnd (m_X12_in (Int32.toInt64 v2) 0 3 z3) fun x6 z5 =>
  if x6 = 0 then (
    some ((-2), z5)
  ) else
  if 60 < v3 then (
    some ((-2), z5)
  ) else
  if v3 < 0 then (
    some ((-3), z5)
  ) else
  gR 12 36 z5 r0 fun a7 =>
  sI 1 z5 a7 v1 v3 fun z8 =>
  gR 12 37 z8 r0 fun a9 =>
  sI 1 z8 a9 v1 v2 fun z10 =>
  (m_X12_row_L52 FU) r0 v1 0 z10
abbrev mi_X12_write : Mi := (RX12, cX12_write, 5, (Option.some Jvm.ClassFile.FieldType.int), "write", { frames := 2, cells := 0, slots := 0, locals := 45 })
def m_X12_write (r0 : Nat) (v1 : Int32) (v2 : Int32) (w3 : Int64) (z : Hp) : Option (Int32 × Hp) :=
  bnd (m_X12_isSlot v1 z) fun x2 z1 =>
  if x2 = 0 then (
    some ((-2), z1)
  ) else
  gR 12 36 z1 r0 fun a3 =>
  aI 1 z1 a3 v1 fun x4 =>
  if x4 = (-1) then (
    some ((-6), z1)
  ) else
  gR 12 36 z1 r0 fun a5 =>
  aI 1 z1 a5 v1 fun x6 =>
  bnd (m_X12_in (Int32.toInt64 v2) 0 (Int32.toInt64 (x6 - 1)) z1) fun x8 z7 =>
  if x8 = 0 then (
    some ((-7), z7)
  ) else
  gR 12 38 z7 r0 fun a9 =>
  gR 12 37 z7 r0 fun a10 =>
  aI 1 z7 a10 v1 fun x11 =>
  bnd (m_X12_cut w3 x11 z7) fun x13 z12 =>
  sL z12 a9 ((60 * v1) + v2) x13 fun z14 =>
  some (0, z14)
abbrev mi_X12_paste : Mi := (RX12, cX12_paste, 7, (Option.some Jvm.ClassFile.FieldType.int), "paste", { frames := 2, cells := 0, slots := 0, locals := 45 })
def m_X12_paste_L150  : Nat → Nat → Int32 → Int32 → Int32 → Int32 → Hp → Option (Int32 × Hp)
  | 0, _, _, _, _, _, _ => none
  | f + 1, r0, v3, v4, v5, v6, z =>
    if v6 < v5 then (
      gR 12 38 z r0 fun a1 =>
      gR 12 39 z r0 fun a2 =>
      aL z a2 v6 fun x3 =>
      sL z a1 (((60 * v3) + v4) + v6) x3 fun z4 =>
      (m_X12_paste_L150  f) r0 v3 v4 v5 (v6 + 1) z4
    ) else
    some (0, z)
def m_X12_paste_B147  (r0 : Nat) (v3 : Int32) (v4 : Int32) (v5 : Int32) (z : Hp) : Option (Int32 × Hp) :=
  (m_X12_paste_L150 FU) r0 v3 v4 v5 0 z
def m_X12_paste_L113 (k147 : Nat → Int32 → Int32 → Int32 → Hp → Option (Int32 × Hp)) : Nat → Nat → Int32 → Int32 → Int32 → Int32 → Int32 → Int32 → Hp → Option (Int32 × Hp)
  | 0, _, _, _, _, _, _, _, _ => none
  | f + 1, r0, v1, v2, v3, v4, v5, v6, z =>
    if v6 < v5 then (
      gR 12 39 z r0 fun a5 =>
      gR 12 38 z r0 fun a6 =>
      aL z a6 (((60 * v1) + v2) + v6) fun x7 =>
      sL z a5 v6 x7 fun z8 =>
      (m_X12_paste_L113 k147 f) r0 v1 v2 v3 v4 v5 (v6 + 1) z8
    ) else
    k147 r0 v3 v4 v5 z
def m_X12_paste (r0 : Nat) (v1 : Int32) (v2 : Int32) (v3 : Int32) (v4 : Int32) (v5 : Int32) (z : Hp) : Option (Int32 × Hp) :=
  bnd (m_X12_isSlot v1 z) fun x10 z9 =>
  if x10 = 0 then (
    some ((-2), z9)
  ) else
  bnd (m_X12_isSlot v3 z9) fun x12 z11 =>
  if x12 = 0 then (
    some ((-2), z11)
  ) else
  gR 12 36 z11 r0 fun a13 =>
  aI 1 z11 a13 v1 fun x14 =>
  if x14 = (-1) then (
    some ((-6), z11)
  ) else
  gR 12 36 z11 r0 fun a15 =>
  aI 1 z11 a15 v3 fun x16 =>
  if x16 = (-1) then (
    some ((-6), z11)
  ) else
  gR 12 37 z11 r0 fun a17 =>
  aI 1 z11 a17 v1 fun x18 =>
  gR 12 37 z11 r0 fun a19 =>
  aI 1 z11 a19 v3 fun x20 =>
  if x18 = x20 then (
    if v2 < 0 then (
      some ((-7), z11)
    ) else
    if v4 < 0 then (
      some ((-7), z11)
    ) else
    if v5 < 0 then (
      some ((-7), z11)
    ) else
    gR 12 36 z11 r0 fun a21 =>
    aI 1 z11 a21 v1 fun x22 =>
    if 0 < (lg_cmp ((Int32.toInt64 v2) + (Int32.toInt64 v5)) (Int32.toInt64 x22)) then (
      some ((-7), z11)
    ) else
    gR 12 36 z11 r0 fun a23 =>
    aI 1 z11 a23 v3 fun x24 =>
    if 0 < (lg_cmp ((Int32.toInt64 v4) + (Int32.toInt64 v5)) (Int32.toInt64 x24)) then (
      some ((-7), z11)
    ) else
    (m_X12_paste_L113 m_X12_paste_B147 FU) r0 v1 v2 v3 v4 v5 0 z11
  ) else
  some ((-8), z11)
def aX {α : Type} (X : Nat × (Nat → Int32)) (i : Int32) (f : Int32 → Option α) : Option α := if inb i X.1 = true then f (X.2 i.toNatClampNeg) else none
def xN {α : Type} (X : Nat × (Nat → Int32)) (f : Int32 → Option α) : Option α := f (nI X.1)
abbrev mi_L_law : Mi := (RL, cL_law, 4, (Option.some Jvm.ClassFile.FieldType.boolean), "law", room_1)
def m_L_law_B1159 (X : Nat × (Nat → Int32)) (k18 : Nat → Nat → Int32 → Hp → Option (Int32 × Hp)) (r1 : Nat) (r2 : Nat) (v3 : Int32) (z : Hp) : Option (Int32 × Hp) :=
  k18 r1 r2 (v3 + 6) z
def m_L_law_B440 (X : Nat × (Nat → Int32)) (k18 : Nat → Nat → Int32 → Hp → Option (Int32 × Hp)) (r1 : Nat) (r2 : Nat) (v3 : Int32) (t0 : Int32) (t1 : Int32) (b2 : Nat) (t3 : Int32) (z : Hp) : Option (Int32 × Hp) :=
  isC 12 z b2 <| bnd (m_X12_run b2 t1 t0 z) fun x2 z1 =>
  if t3 = x2 then (
    (m_L_law_B1159 X k18) r1 r2 v3 z1
  ) else
  some (0, z1)
def m_L_law_B418 (X : Nat × (Nat → Int32)) (k18 : Nat → Nat → Int32 → Hp → Option (Int32 × Hp)) (r1 : Nat) (r2 : Nat) (v3 : Int32) (t0 : Int32) (t1 : Int32) (b2 : Nat) (z : Hp) : Option (Int32 × Hp) :=
  isC 11 z b2 <| bnd (m_X11_run b2 t1 t0 z) fun x5 z4 =>
  aX X (v3 + 1) fun x7 =>
  aX X (v3 + 2) fun x8 =>
  if x8 = 0 then (
    (m_L_law_B440 X k18) r1 r2 v3 0 x7 r2 x5 z4
  ) else
  (m_L_law_B440 X k18) r1 r2 v3 1 x7 r2 x5 z4
def m_L_law_L18 (X : Nat × (Nat → Int32)) : Nat → Nat → Nat → Int32 → Hp → Option (Int32 × Hp)
  | 0, _, _, _, _ => none
  | f + 1, r1, r2, v3, z =>
    xN X fun x9 =>
    if (x9 - 6) < v3 then (
      some (1, z)
    ) else
    aX X v3 fun x10 =>
    if (x10 &&& 63) = 0 then (
      aX X (v3 + 1) fun x11 =>
      aX X (v3 + 2) fun x12 =>
      aX X (v3 + 3) fun x13 =>
      aX X (v3 + 4) fun x14 =>
      aX X (v3 + 5) fun x15 =>
      isC 11 z r1 <| bnd (m_X11_feed r1 x11 x12 x13 x14 x15 z) fun x17 z16 =>
      aX X (v3 + 1) fun x19 =>
      aX X (v3 + 2) fun x20 =>
      aX X (v3 + 3) fun x21 =>
      aX X (v3 + 4) fun x22 =>
      aX X (v3 + 5) fun x23 =>
      isC 12 z16 r2 <| bnd (m_X12_feed r2 x19 x20 x21 x22 x23 z16) fun x25 z24 =>
      if x17 = x25 then (
        (m_L_law_B1159 X (m_L_law_L18 X f)) r1 r2 v3 z24
      ) else
      some (0, z24)
    ) else
    if (x10 &&& 63) = 1 then (
      aX X (v3 + 1) fun x28 =>
      isC 11 z r1 <| bnd (m_X11_end r1 x28 z) fun x30 z29 =>
      aX X (v3 + 1) fun x32 =>
      isC 12 z29 r2 <| bnd (m_X12_end r2 x32 z29) fun x34 z33 =>
      if x30 = x34 then (
        (m_L_law_B1159 X (m_L_law_L18 X f)) r1 r2 v3 z33
      ) else
      some (0, z33)
    ) else
    if (x10 &&& 63) = 2 then (
      isC 11 z r1 <| bnd (m_X11_text r1 z) fun x38 z37 =>
      isC 12 z37 r2 <| bnd (m_X12_text r2 z37) fun x41 z40 =>
      if x38 = x41 then (
        (m_L_law_B1159 X (m_L_law_L18 X f)) r1 r2 v3 z40
      ) else
      some (0, z40)
    ) else
    if (x10 &&& 63) = 3 then (
      aX X (v3 + 1) fun x44 =>
      isC 11 z r1 <| bnd (m_X11_fault r1 x44 z) fun x46 z45 =>
      aX X (v3 + 1) fun x48 =>
      isC 12 z45 r2 <| bnd (m_X12_fault r2 x48 z45) fun x50 z49 =>
      if x46 = x50 then (
        (m_L_law_B1159 X (m_L_law_L18 X f)) r1 r2 v3 z49
      ) else
      some (0, z49)
    ) else
    if (x10 &&& 63) = 4 then (
      aX X (v3 + 1) fun x53 =>
      isC 11 z r1 <| bnd (m_X11_tick r1 x53 z) fun x55 z54 =>
      aX X (v3 + 1) fun x57 =>
      isC 12 z54 r2 <| bnd (m_X12_tick r2 x57 z54) fun x59 z58 =>
      if x55 = x59 then (
        (m_L_law_B1159 X (m_L_law_L18 X f)) r1 r2 v3 z58
      ) else
      some (0, z58)
    ) else
    if (x10 &&& 63) = 5 then (
      aX X (v3 + 1) fun x62 =>
      aX X (v3 + 2) fun x63 =>
      aX X (v3 + 3) fun x64 =>
      isC 11 z r1 <| bnd (m_X11_cell r1 x62 x63 x64 z) fun x66 z65 =>
      aX X (v3 + 1) fun x68 =>
      aX X (v3 + 2) fun x69 =>
      aX X (v3 + 3) fun x70 =>
      isC 12 z65 r2 <| bnd (m_X12_cell r2 x68 x69 x70 z65) fun x72 z71 =>
      if x66 = x72 then (
        (m_L_law_B1159 X (m_L_law_L18 X f)) r1 r2 v3 z71
      ) else
      some (0, z71)
    ) else
    if (x10 &&& 63) = 6 then (
      aX X (v3 + 1) fun x75 =>
      isC 11 z r1 <| bnd (m_X11_heat r1 x75 z) fun x77 z76 =>
      aX X (v3 + 1) fun x79 =>
      isC 12 z76 r2 <| bnd (m_X12_heat r2 x79 z76) fun x81 z80 =>
      if x77 = x81 then (
        (m_L_law_B1159 X (m_L_law_L18 X f)) r1 r2 v3 z80
      ) else
      some (0, z80)
    ) else
    if (x10 &&& 63) = 7 then (
      aX X (v3 + 1) fun x84 =>
      aX X (v3 + 2) fun x85 =>
      if x85 = 0 then (
        (m_L_law_B418 X (m_L_law_L18 X f)) r1 r2 v3 0 x84 r1 z
      ) else
      (m_L_law_B418 X (m_L_law_L18 X f)) r1 r2 v3 1 x84 r1 z
    ) else
    if (x10 &&& 63) = 8 then (
      aX X (v3 + 1) fun x87 =>
      aX X (v3 + 2) fun x88 =>
      isC 11 z r1 <| bnd (m_X11_pipe r1 x87 x88 z) fun x90 z89 =>
      aX X (v3 + 1) fun x92 =>
      aX X (v3 + 2) fun x93 =>
      isC 12 z89 r2 <| bnd (m_X12_pipe r2 x92 x93 z89) fun x95 z94 =>
      if x90 = x95 then (
        (m_L_law_B1159 X (m_L_law_L18 X f)) r1 r2 v3 z94
      ) else
      some (0, z94)
    ) else
    if (x10 &&& 63) = 9 then (
      aX X (v3 + 1) fun x98 =>
      isC 11 z r1 <| bnd (m_X11_cold r1 x98 z) fun x100 z99 =>
      aX X (v3 + 1) fun x102 =>
      isC 12 z99 r2 <| bnd (m_X12_cold r2 x102 z99) fun x104 z103 =>
      if x100 = x104 then (
        (m_L_law_B1159 X (m_L_law_L18 X f)) r1 r2 v3 z103
      ) else
      some (0, z103)
    ) else
    if (x10 &&& 63) = 10 then (
      isC 11 z r1 <| bnd (m_X11_shut r1 z) fun x108 z107 =>
      isC 12 z107 r2 <| bnd (m_X12_shut r2 z107) fun x111 z110 =>
      if x108 = x111 then (
        (m_L_law_B1159 X (m_L_law_L18 X f)) r1 r2 v3 z110
      ) else
      some (0, z110)
    ) else
    if (x10 &&& 63) = 11 then (
      isC 11 z r1 <| bnd (m_X11_way r1 z) fun x115 z114 =>
      isC 12 z114 r2 <| bnd (m_X12_way r2 z114) fun x118 z117 =>
      if x115 = x118 then (
        (m_L_law_B1159 X (m_L_law_L18 X f)) r1 r2 v3 z117
      ) else
      some (0, z117)
    ) else
    if (x10 &&& 63) = 12 then (
      isC 11 z r1 <| bnd (m_X11_gaps r1 z) fun x122 z121 =>
      isC 12 z121 r2 <| bnd (m_X12_gaps r2 z121) fun x125 z124 =>
      if x122 = x125 then (
        (m_L_law_B1159 X (m_L_law_L18 X f)) r1 r2 v3 z124
      ) else
      some (0, z124)
    ) else
    if (x10 &&& 63) = 13 then (
      aX X (v3 + 1) fun x128 =>
      isC 11 z r1 <| bnd (m_X11_gap r1 x128 z) fun x130 z129 =>
      aX X (v3 + 1) fun x132 =>
      isC 12 z129 r2 <| bnd (m_X12_gap r2 x132 z129) fun x134 z133 =>
      if x130 = x134 then (
        (m_L_law_B1159 X (m_L_law_L18 X f)) r1 r2 v3 z133
      ) else
      some (0, z133)
    ) else
    if (x10 &&& 63) = 14 then (
      isC 11 z r1 <| bnd (m_X11_thick r1 z) fun x138 z137 =>
      isC 12 z137 r2 <| bnd (m_X12_thick r2 z137) fun x141 z140 =>
      if x138 = x141 then (
        (m_L_law_B1159 X (m_L_law_L18 X f)) r1 r2 v3 z140
      ) else
      some (0, z140)
    ) else
    if (x10 &&& 63) = 15 then (
      aX X (v3 + 1) fun x144 =>
      aX X (v3 + 2) fun x145 =>
      isC 11 z r1 <| bnd (m_X11_dig r1 x144 x145 z) fun x147 z146 =>
      aX X (v3 + 1) fun x149 =>
      aX X (v3 + 2) fun x150 =>
      isC 12 z146 r2 <| bnd (m_X12_dig r2 x149 x150 z146) fun x152 z151 =>
      if x147 = x152 then (
        (m_L_law_B1159 X (m_L_law_L18 X f)) r1 r2 v3 z151
      ) else
      some (0, z151)
    ) else
    if (x10 &&& 63) = 16 then (
      aX X (v3 + 1) fun x155 =>
      isC 11 z r1 <| bnd (m_X11_lacks r1 x155 z) fun x157 z156 =>
      aX X (v3 + 1) fun x159 =>
      isC 12 z156 r2 <| bnd (m_X12_lacks r2 x159 z156) fun x161 z160 =>
      if x157 = x161 then (
        (m_L_law_B1159 X (m_L_law_L18 X f)) r1 r2 v3 z160
      ) else
      some (0, z160)
    ) else
    if (x10 &&& 63) = 17 then (
      isC 11 z r1 <| bnd (m_X11_pump r1 z) fun x165 z164 =>
      isC 12 z164 r2 <| bnd (m_X12_pump r2 z164) fun x168 z167 =>
      if x165 = x168 then (
        (m_L_law_B1159 X (m_L_law_L18 X f)) r1 r2 v3 z167
      ) else
      some (0, z167)
    ) else
    if (x10 &&& 63) = 18 then (
      aX X (v3 + 1) fun x171 =>
      isC 11 z r1 <| bnd (m_X11_lift r1 x171 z) fun x173 z172 =>
      aX X (v3 + 1) fun x175 =>
      isC 12 z172 r2 <| bnd (m_X12_lift r2 x175 z172) fun x177 z176 =>
      if x173 = x177 then (
        (m_L_law_B1159 X (m_L_law_L18 X f)) r1 r2 v3 z176
      ) else
      some (0, z176)
    ) else
    if (x10 &&& 63) = 19 then (
      isC 11 z r1 <| bnd (m_X11_cracks r1 z) fun x181 z180 =>
      isC 12 z180 r2 <| bnd (m_X12_cracks r2 z180) fun x184 z183 =>
      if x181 = x184 then (
        (m_L_law_B1159 X (m_L_law_L18 X f)) r1 r2 v3 z183
      ) else
      some (0, z183)
    ) else
    if (x10 &&& 63) = 20 then (
      aX X (v3 + 1) fun x187 =>
      aX X (v3 + 2) fun x188 =>
      isC 11 z r1 <| bnd (m_X11_house r1 x187 x188 z) fun x190 z189 =>
      aX X (v3 + 1) fun x192 =>
      aX X (v3 + 2) fun x193 =>
      isC 12 z189 r2 <| bnd (m_X12_house r2 x192 x193 z189) fun x195 z194 =>
      if x190 = x195 then (
        (m_L_law_B1159 X (m_L_law_L18 X f)) r1 r2 v3 z194
      ) else
      some (0, z194)
    ) else
    if (x10 &&& 63) = 21 then (
      isC 11 z r1 <| bnd (m_X11_foretell r1 z) fun x199 z198 =>
      isC 12 z198 r2 <| bnd (m_X12_foretell r2 z198) fun x202 z201 =>
      if x199 = x202 then (
        (m_L_law_B1159 X (m_L_law_L18 X f)) r1 r2 v3 z201
      ) else
      some (0, z201)
    ) else
    if (x10 &&& 63) = 22 then (
      isC 11 z r1 <| bnd (m_X11_off r1 z) fun x206 z205 =>
      isC 12 z205 r2 <| bnd (m_X12_off r2 z205) fun x209 z208 =>
      if x206 = x209 then (
        (m_L_law_B1159 X (m_L_law_L18 X f)) r1 r2 v3 z208
      ) else
      some (0, z208)
    ) else
    if (x10 &&& 63) = 23 then (
      aX X (v3 + 1) fun x212 =>
      aX X (v3 + 2) fun x213 =>
      isC 11 z r1 <| bnd (m_X11_more r1 x212 x213 z) fun x215 z214 =>
      aX X (v3 + 1) fun x217 =>
      aX X (v3 + 2) fun x218 =>
      isC 12 z214 r2 <| bnd (m_X12_more r2 x217 x218 z214) fun x220 z219 =>
      if x215 = x220 then (
        (m_L_law_B1159 X (m_L_law_L18 X f)) r1 r2 v3 z219
      ) else
      some (0, z219)
    ) else
    if (x10 &&& 63) = 24 then (
      isC 11 z r1 <| bnd (m_X11_chosen r1 z) fun x224 z223 =>
      isC 12 z223 r2 <| bnd (m_X12_chosen r2 z223) fun x227 z226 =>
      if x224 = x227 then (
        (m_L_law_B1159 X (m_L_law_L18 X f)) r1 r2 v3 z226
      ) else
      some (0, z226)
    ) else
    if (x10 &&& 63) = 25 then (
      aX X (v3 + 1) fun x230 =>
      aX X (v3 + 2) fun x231 =>
      aX X (v3 + 3) fun x232 =>
      aX X (v3 + 4) fun x233 =>
      isC 11 z r1 <| bnd (m_X11_gauge r1 x230 x231 x232 x233 z) fun x235 z234 =>
      aX X (v3 + 1) fun x237 =>
      aX X (v3 + 2) fun x238 =>
      aX X (v3 + 3) fun x239 =>
      aX X (v3 + 4) fun x240 =>
      isC 12 z234 r2 <| bnd (m_X12_gauge r2 x237 x238 x239 x240 z234) fun x242 z241 =>
      if x235 = x242 then (
        (m_L_law_B1159 X (m_L_law_L18 X f)) r1 r2 v3 z241
      ) else
      some (0, z241)
    ) else
    if (x10 &&& 63) = 26 then (
      aX X (v3 + 1) fun x245 =>
      isC 11 z r1 <| bnd (m_X11_lies r1 x245 z) fun x247 z246 =>
      aX X (v3 + 1) fun x249 =>
      isC 12 z246 r2 <| bnd (m_X12_lies r2 x249 z246) fun x251 z250 =>
      if x247 = x251 then (
        (m_L_law_B1159 X (m_L_law_L18 X f)) r1 r2 v3 z250
      ) else
      some (0, z250)
    ) else
    if (x10 &&& 63) = 27 then (
      aX X (v3 + 1) fun x254 =>
      isC 11 z r1 <| bnd (m_X11_most r1 x254 z) fun x256 z255 =>
      aX X (v3 + 1) fun x258 =>
      isC 12 z255 r2 <| bnd (m_X12_most r2 x258 z255) fun x260 z259 =>
      if x256 = x260 then (
        (m_L_law_B1159 X (m_L_law_L18 X f)) r1 r2 v3 z259
      ) else
      some (0, z259)
    ) else
    if (x10 &&& 63) = 28 then (
      aX X (v3 + 1) fun x263 =>
      isC 11 z r1 <| bnd (m_X11_frost r1 x263 z) fun x265 z264 =>
      aX X (v3 + 1) fun x267 =>
      isC 12 z264 r2 <| bnd (m_X12_frost r2 x267 z264) fun x269 z268 =>
      if x265 = x269 then (
        (m_L_law_B1159 X (m_L_law_L18 X f)) r1 r2 v3 z268
      ) else
      some (0, z268)
    ) else
    if (x10 &&& 63) = 29 then (
      aX X (v3 + 1) fun x272 =>
      isC 11 z r1 <| bnd (m_X11_count r1 x272 z) fun x274 z273 =>
      aX X (v3 + 1) fun x276 =>
      isC 12 z273 r2 <| bnd (m_X12_count r2 x276 z273) fun x278 z277 =>
      if x274 = x278 then (
        (m_L_law_B1159 X (m_L_law_L18 X f)) r1 r2 v3 z277
      ) else
      some (0, z277)
    ) else
    if (x10 &&& 63) = 30 then (
      aX X (v3 + 1) fun x281 =>
      isC 11 z r1 <| bnd (m_X11_keep r1 x281 z) fun x283 z282 =>
      aX X (v3 + 1) fun x285 =>
      isC 12 z282 r2 <| bnd (m_X12_keep r2 x285 z282) fun x287 z286 =>
      if x283 = x287 then (
        (m_L_law_B1159 X (m_L_law_L18 X f)) r1 r2 v3 z286
      ) else
      some (0, z286)
    ) else
    if (x10 &&& 63) = 31 then (
      aX X (v3 + 1) fun x290 =>
      isC 11 z r1 <| bnd (m_X11_back r1 x290 z) fun x292 z291 =>
      aX X (v3 + 1) fun x294 =>
      isC 12 z291 r2 <| bnd (m_X12_back r2 x294 z291) fun x296 z295 =>
      if x292 = x296 then (
        (m_L_law_B1159 X (m_L_law_L18 X f)) r1 r2 v3 z295
      ) else
      some (0, z295)
    ) else
    if (x10 &&& 63) = 32 then (
      aX X (v3 + 1) fun x299 =>
      aX X (v3 + 2) fun x300 =>
      aX X (v3 + 3) fun x301 =>
      isC 11 z r1 <| bnd (m_X11_row r1 x299 x300 x301 z) fun x303 z302 =>
      aX X (v3 + 1) fun x305 =>
      aX X (v3 + 2) fun x306 =>
      aX X (v3 + 3) fun x307 =>
      isC 12 z302 r2 <| bnd (m_X12_row r2 x305 x306 x307 z302) fun x309 z308 =>
      if x303 = x309 then (
        (m_L_law_B1159 X (m_L_law_L18 X f)) r1 r2 v3 z308
      ) else
      some (0, z308)
    ) else
    if (x10 &&& 63) = 33 then (
      aX X (v3 + 1) fun x312 =>
      aX X (v3 + 2) fun x313 =>
      aX X (v3 + 3) fun x314 =>
      aX X (v3 + 4) fun x315 =>
      isC 11 z r1 <| bnd (m_X11_write r1 x312 x313 (((Int32.toInt64 x314) <<< (Int32.toInt64 32 &&& 63)) ||| ((Int32.toInt64 x315) &&& 4294967295)) z) fun x317 z316 =>
      aX X (v3 + 1) fun x319 =>
      aX X (v3 + 2) fun x320 =>
      aX X (v3 + 3) fun x321 =>
      aX X (v3 + 4) fun x322 =>
      isC 12 z316 r2 <| bnd (m_X12_write r2 x319 x320 (((Int32.toInt64 x321) <<< (Int32.toInt64 32 &&& 63)) ||| ((Int32.toInt64 x322) &&& 4294967295)) z316) fun x324 z323 =>
      if x317 = x324 then (
        (m_L_law_B1159 X (m_L_law_L18 X f)) r1 r2 v3 z323
      ) else
      some (0, z323)
    ) else
    if (x10 &&& 63) = 34 then (
      aX X (v3 + 1) fun x327 =>
      aX X (v3 + 2) fun x328 =>
      aX X (v3 + 3) fun x329 =>
      aX X (v3 + 4) fun x330 =>
      aX X (v3 + 5) fun x331 =>
      isC 11 z r1 <| bnd (m_X11_paste r1 x327 x328 x329 x330 x331 z) fun x333 z332 =>
      aX X (v3 + 1) fun x335 =>
      aX X (v3 + 2) fun x336 =>
      aX X (v3 + 3) fun x337 =>
      aX X (v3 + 4) fun x338 =>
      aX X (v3 + 5) fun x339 =>
      isC 12 z332 r2 <| bnd (m_X12_paste r2 x335 x336 x337 x338 x339 z332) fun x341 z340 =>
      if x333 = x341 then (
        (m_L_law_B1159 X (m_L_law_L18 X f)) r1 r2 v3 z340
      ) else
      some (0, z340)
    ) else
    (m_L_law_B1159 X (m_L_law_L18 X f)) r1 r2 v3 z
def m_L_law (X : Nat × (Nat → Int32)) (z : Hp) : Option (Int32 × Hp) :=
  nwC (11 + 7) 0 z fun a344 z345 =>
  bnd (m_X11_init a344 z345) fun _ z346 =>
  nwC (12 + 7) 0 z346 fun a347 z348 =>
  bnd (m_X12_init a347 z348) fun _ z349 =>
  (m_L_law_L18 X 513) a344 a347 0 z349
