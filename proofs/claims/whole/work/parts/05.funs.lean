/-! helpers of the functions -/
def opt {β : Type} (r : Option Nat) (a : Option β) (k : Nat → Option β) : Option β := match r with
  | none => a
  | some j => k j
theorem opt_n {β : Type} {a : Option β} {k : Nat → Option β} {r : β} (h : opt none a k = some r) : a = some r := h
theorem opt_s {β : Type} {a : Option β} {k : Nat → Option β} {j : Nat} {r : β} (h : opt (some j) a k = some r) : k j = some r := h
def nb (v : Int32) : Bool := decide (v = 0 ∨ v = 1)

def f_J7_fill_53178_5 (N : Nat) : Nat → St → Nat → Nat → Int32 → Int32 → Int32 → Option (Unit × St)
  | 0, _, _, _, _, _, _ => none
  | n + 1, S, q0, n0, x1, x2, x3 =>
    if x3 ≤ x2 then
      some ((), S)
    else
      if inb x2 n0 = true then
        bnd (st S q0 x2.toNatClampNeg x1) (fun S1 =>
          bnd (x2 + (nI 1)) (fun y2 =>
            f_J7_fill_53178_5 N n S1 q0 n0 x1 y2 x3)) else none
def f_J7_fill_53178 (N : Nat) (S : St) (q0 n0 : Nat) (x1 : Int32) : Option (Unit × St) :=
  bnd ((nI 0)) (fun y1 =>
    bnd (Int32.ofNat n0) (fun y2 =>
      f_J7_fill_53178_5 N N S q0 n0 x1 y1 y2))
def f_J7_rangeCheck_23922 (N : Nat) (S : St) (x0 : Int32) (x1 : Int32) (x2 : Int32) : Option (Unit × St) :=
  if x1 ≤ x2 then
    if (0 : Int32) ≤ x1 then
      if x2 ≤ x0 then
        some ((), S)
      else
        none
    else
      none
  else
    none
def f_J7_fill_fda19_10 (N : Nat) : Nat → St → Nat → Nat → Int32 → Int32 → Int32 → Option (Unit × St)
  | 0, _, _, _, _, _, _ => none
  | n + 1, S, q0, n0, x2, x3, x4 =>
    if x2 ≤ x4 then
      some ((), S)
    else
      if inb x4 n0 = true then
        bnd (st S q0 x4.toNatClampNeg x3) (fun S1 =>
          bnd (x4 + (nI 1)) (fun y2 =>
            f_J7_fill_fda19_10 N n S1 q0 n0 x2 x3 y2)) else none
def f_J7_fill_fda19 (N : Nat) (S : St) (q0 n0 : Nat) (x1 : Int32) (x2 : Int32) (x3 : Int32) : Option (Unit × St) :=
  cal (f_J7_rangeCheck_23922 N S (Int32.ofNat n0) x1 x2) (fun _ S1 =>
    f_J7_fill_fda19_10 N N S1 q0 n0 x2 x3 x1)
def f_X0_forget (N : Nat) (S : St) (x1 : Int32) : Option (Unit × St) :=
  if x1 < (0 : Int32) then
    some ((), S)
  else
    if (nI 3) ≤ x1 then
      some ((), S)
    else
      cal (f_J7_fill_fda19 N S 3 23211 (x1 * (nI 7737)) (nI 23211) (nI 0)) (fun _ S1 =>
        some ((), S1))
def f_X2_become (N : Nat) (S : St) (j0 : Nat) (j1 : Nat) : Option (Unit × St) :=
  bnd (st S (20 + j0) 0 (S (20 + j1) 0)) (fun S1 =>
    bnd (st S1 (20 + j0) 1 (S1 (20 + j1) 1)) (fun S2 =>
      bnd (st S2 (20 + j0) 2 (S2 (20 + j1) 2)) (fun S3 =>
        if cpyok (nI 0) (nI 0) (nI 4) 4 4 = true then
          bnd (sr S3 (26 + j0) (va_cpy (S3 (26 + j1)) (S3 (26 + j0)) (nI 0).toNatClampNeg (nI 0).toNatClampNeg (nI 4).toNatClampNeg)) (fun S4 =>
            some ((), S4)) else none)))
def f_X0_become_10 (N : Nat) : Nat → St → Int32 → Option (Unit × St)
  | 0, _, _ => none
  | n + 1, S, x2 =>
    if (nI 3) ≤ x2 then
      cal (f_X0_forget N S (nI 0)) (fun _ S1 =>
        some ((), S1))
    else
      if inb x2 3 = true then
        if inb x2 3 = true then
          cal (f_X2_become N S x2.toNatClampNeg (3 + x2.toNatClampNeg)) (fun _ S6 =>
            bnd (x2 + (nI 1)) (fun y9 =>
              f_X0_become_10 N n S6 y9)) else none else none
def f_X0_become (N : Nat) (S : St) : Option (Unit × St) :=
  bnd (st S 1 0 (S 4 1)) (fun S1 =>
    bnd ((nI 0)) (fun y2 =>
      f_X0_become_10 N N S1 y2))
def f_X0_bumpsOf (N : Nat) (S : St) (x0 : Int32) : Option (Int32 × St) :=
  some (x0 >>> ((nI 13) &&& (31 : Int32)), S)
def f_X0_macroOf (N : Nat) (S : St) (x1 : Int32) : Option (Option Nat × St) :=
  if x1 < (0 : Int32) then
    some (none, S)
  else
    if (S 1 0) ≤ x1 then
      some (none, S)
    else
      if x1 < (nI 3) then
        if inb x1 3 = true then
          some (some x1.toNatClampNeg, S) else none
      else
        some (none, S)
def f_X0_change_31 (N : Nat) (S : St) (x1 : Int32) (x2 : Int32) (x3 : Int32) (j4 : Nat) : Option (Unit × St) :=
  bnd (st S (20 + j4) 0 x2) (fun S1 =>
    bnd (st S1 (20 + j4) 1 x3) (fun S2 =>
      cal (f_X0_forget N S2 x1) (fun _ S3 =>
        some ((), S3))))
def f_X0_change (N : Nat) (S : St) (x1 : Int32) (x2 : Int32) (x3 : Int32) : Option (Unit × St) :=
  cal (f_X0_macroOf N S x1) (fun r3 S1 => opt r3 (
    some ((), S1)
  ) (fun j4 => if j4 < 6 then
    if (S1 (20 + j4) 0) = x2 then
      if (S1 (20 + j4) 1) = x3 then
        some ((), S1)
      else
        f_X0_change_31 N S1 x1 x2 x3 j4
    else
      f_X0_change_31 N S1 x1 x2 x3 j4 else none))
def f_X0_lineOf (N : Nat) (S : St) (x0 : Int32) : Option (Int32 × St) :=
  some (x0 &&& (nI 8191), S)
def f_X2_keyAt (N : Nat) (S : St) (j0 : Nat) (x1 : Int32) : Option (Int32 × St) :=
  if x1 < (0 : Int32) then
    some ((-9 : Int32), S)
  else
    if (S (20 + j0) 2) ≤ x1 then
      some ((-9 : Int32), S)
    else
      if x1 < (nI 4) then
        if inb x1 4 = true then
          some (S (26 + j0) x1.toNatClampNeg, S) else none
      else
        some ((-9 : Int32), S)
def f_X2_often (N : Nat) (S : St) (j0 : Nat) : Option (Int32 × St) :=
  bnd (S (20 + j0) 0) (fun y1 =>
    if y1 = (nI 1) then
      some ((S (20 + j0) 1) + (nI 1), S)
    else
      if y1 = (nI 2) then
        some ((nI 2) * (S (20 + j0) 1), S)
      else
        some (S (20 + j0) 1, S))
def f_X0_played_25 (N : Nat) (fe : St → Int32 → Int32 → Option (Int32 × St)) (k15 : St → Nat → Int32 → Int32 → Int32 → Int32 → Int32 → Option (Int32 × St)) : Nat → St → Nat → Int32 → Int32 → Int32 → Int32 → Int32 → Int32 → Option (Int32 × St)
  | 0, _, _, _, _, _, _, _, _ => none
  | n + 1, S, j2, x3, x4, x5, x6, x7, x8 =>
    if (S (20 + j2) 2) ≤ x8 then
      bnd (x7 + (nI 1)) (fun y1 =>
        k15 S j2 x3 x4 x5 x6 y1)
    else
      cal (f_X2_keyAt N S j2 x8) (fun r4 S2 =>
        if ((nI 8) + x3) ≤ r4 then
          bnd (x8 + (nI 1)) (fun y5 =>
            f_X0_played_25 N fe k15 n S2 j2 x3 x4 x5 x6 x7 y5)
        else
          cal (fe S2 x4 r4) (fun r8 S6 =>
            cal (f_X0_bumpsOf N S6 r8) (fun r11 S9 =>
              bnd (x5 + r11) (fun y12 =>
                cal (f_X0_lineOf N S9 r8) (fun r15 S13 =>
                  bnd (x8 + (nI 1)) (fun y16 =>
                    f_X0_played_25 N fe k15 n S13 j2 x3 r15 y12 x6 x7 y16))))))
def f_X0_played_15 (N : Nat) (fe : St → Int32 → Int32 → Option (Int32 × St)) : Nat → St → Nat → Int32 → Int32 → Int32 → Int32 → Int32 → Option (Int32 × St)
  | 0, _, _, _, _, _, _, _ => none
  | n + 1, S, j2, x3, x4, x5, x6, x7 =>
    if x6 ≤ x7 then
      some ((x5 <<< ((nI 13) &&& (31 : Int32))) ||| x4, S)
    else
      bnd ((nI 0)) (fun y1 =>
        f_X0_played_25 N fe (f_X0_played_15 N fe n) N S j2 x3 x4 x5 x6 x7 y1)
def f_X0_played (N : Nat) (fe : St → Int32 → Int32 → Option (Int32 × St)) (S : St) (x1 : Int32) (j2 : Nat) (x3 : Int32) : Option (Int32 × St) :=
  bnd ((nI 0)) (fun y1 =>
    cal (f_X2_often N S j2) (fun r4 S2 =>
      bnd ((nI 0)) (fun y5 =>
        f_X0_played_15 N fe N S2 j2 x3 x1 y1 r4 y5)))
def f_X1_countOf_2 (N : Nat) : Nat → St → Int32 → Int32 → Option (Int32 × St)
  | 0, _, _, _ => none
  | n + 1, S, x0, x1 =>
    if x1 ≤ (0 : Int32) then
      some (x1, S)
    else
      if inb x1 6 = true then
        if (frs x1.toNatClampNeg) ≤ x0 then
          some (x1, S)
        else
          bnd (x1 + (-1 : Int32)) (fun y2 =>
            f_X1_countOf_2 N n S x0 y2) else none
def f_X1_countOf (N : Nat) (S : St) (x0 : Int32) : Option (Int32 × St) :=
  bnd ((nI 5)) (fun y1 =>
    f_X1_countOf_2 N N S x0 y1)
def f_X1_of (N : Nat) (S : St) (x0 : Int32) (x1 : Int32) (x2 : Int32) : Option (Int32 × St) :=
  if x0 < (0 : Int32) then
    some ((nI 0), S)
  else
    if x0 ≤ (nI 5) then
      if inb x0 6 = true then
        some (((frs x0.toNatClampNeg) + (x1 <<< (((nI 2) * x0) &&& (31 : Int32)))) + x2, S) else none
    else
      some ((nI 0), S)
def f_X1_with (N : Nat) (S : St) (x0 : Int32) (x1 : Int32) (x2 : Int32) : Option (Int32 × St) :=
  bnd (x0 >>> (((nI 2) * x1) &&& (31 : Int32))) (fun y1 =>
    some ((((y1 <<< ((nI 2) &&& (31 : Int32))) ||| x2) <<< (((nI 2) * x1) &&& (31 : Int32))) ||| (x0 &&& (((nI 1) <<< (((nI 2) * x1) &&& (31 : Int32))) - (nI 1))), S))
def f_X1_without (N : Nat) (S : St) (x0 : Int32) (x1 : Int32) : Option (Int32 × St) :=
  bnd (x0 >>> (((nI 2) * x1) &&& (31 : Int32))) (fun y1 =>
    some (((y1 >>> ((nI 2) &&& (31 : Int32))) <<< (((nI 2) * x1) &&& (31 : Int32))) ||| (x0 &&& (((nI 1) <<< (((nI 2) * x1) &&& (31 : Int32))) - (nI 1))), S))
def f_X1_after_79 (N : Nat) (S : St) (x0 : Int32) (x1 : Int32) (x2 : Int32) (x3 : Int32) (x4 : Int32) (xs0 : Int32) : Option (Int32 × St) :=
  if xs0 = (0 : Int32) then
    bnd (x1) (fun y1 =>
      if y1 = (nI 4) then
        cal (f_X1_of N S x2 (x3 - (nI 1)) x4) (fun r4 S2 =>
          some (r4, S2))
      else
        if y1 = (nI 5) then
          cal (f_X1_of N S x2 (x3 + (nI 1)) x4) (fun r7 S5 =>
            some (r7, S5))
        else
          if y1 = (nI 6) then
            cal (f_X1_without N S x4 (x2 - x3)) (fun r10 S8 =>
              cal (f_X1_of N S8 (x2 - (nI 1)) (x3 - (nI 1)) r10) (fun r13 S11 =>
                some (r13, S11)))
          else
            if y1 = (nI 7) then
              cal (f_X1_of N S x2 (nI 0) x4) (fun r16 S14 =>
                some (r16, S14))
            else
              cal (f_X1_with N S x4 (x2 - x3) x1) (fun r19 S17 =>
                cal (f_X1_of N S17 (x2 + (nI 1)) (x3 + (nI 1)) r19) (fun r22 S20 =>
                  some (r22, S20))))
  else
    some (x0, S)
def f_X1_after (N : Nat) (S : St) (x0 : Int32) (x1 : Int32) : Option (Int32 × St) :=
  cal (f_X1_countOf N S x0) (fun r3 S1 =>
    if inb r3 6 = true then
      bnd ((x0 - (frs r3.toNatClampNeg)) >>> (((nI 2) * r3) &&& (31 : Int32))) (fun y5 =>
        if inb r3 6 = true then
          bnd ((x0 - (frs r3.toNatClampNeg)) &&& (((nI 1) <<< (((nI 2) * r3) &&& (31 : Int32))) - (nI 1))) (fun y7 =>
            if (nI 4) ≤ x1 then
              if x1 = (nI 5) then
                if y5 = r3 then
                  f_X1_after_79 N S1 x0 x1 r3 y5 y7 (nI 1)
                else
                  f_X1_after_79 N S1 x0 x1 r3 y5 y7 (nI 0)
              else
                if y5 = (0 : Int32) then
                  f_X1_after_79 N S1 x0 x1 r3 y5 y7 (nI 1)
                else
                  f_X1_after_79 N S1 x0 x1 r3 y5 y7 (nI 0)
            else
              if r3 = (nI 5) then
                f_X1_after_79 N S1 x0 x1 r3 y5 y7 (nI 1)
              else
                f_X1_after_79 N S1 x0 x1 r3 y5 y7 (nI 0)) else none) else none)
def f_X1_isLine (N : Nat) (S : St) (x0 : Int32) : Option (Int32 × St) :=
  if x0 < (0 : Int32) then
    some ((nI 0), S)
  else
    if (nI 7737) ≤ x0 then
      some ((nI 0), S)
    else
      some ((nI 1), S)
def f_X0_effectOf_89 (N : Nat) (fe : St → Int32 → Int32 → Option (Int32 × St)) (S : St) (x5 : Int32) : Option (Int32 × St) :=
  if inb x5 23211 = true then
    some ((S 3 x5.toNatClampNeg) - (nI 1), S) else none
def f_X0_effectOf (N : Nat) (fe : St → Int32 → Int32 → Option (Int32 × St)) (S : St) (x1 : Int32) (x2 : Int32) : Option (Int32 × St) :=
  if (nI 8) ≤ x2 then
    bnd (x2 - (nI 8)) (fun y1 =>
      cal (f_X0_macroOf N S y1) (fun r4 S2 => opt r4 (
        some (x1, S2)
      ) (fun j5 => if j5 < 6 then
        cal (f_X1_isLine N S2 x1) (fun r8 S6 =>
          if r8 = (0 : Int32) then
            some (x1, S6)
          else
            bnd ((y1 * (nI 7737)) + x1) (fun y9 =>
              if inb y9 23211 = true then
                if (S6 3 y9.toNatClampNeg) = (0 : Int32) then
                  cal (f_X0_played N fe S6 x1 j5 y1) (fun r12 S10 =>
                    if inb y9 23211 = true then
                      bnd (st S10 3 y9.toNatClampNeg ((nI 1) + r12)) (fun S13 =>
                        f_X0_effectOf_89 N fe S13 y9) else none)
                else
                  f_X0_effectOf_89 N fe S6 y9 else none)) else none)))
  else
    cal (f_X1_after N S x1 x2) (fun r16 S14 =>
      if r16 = x1 then
        some ((nI 8192) ||| x1, S14)
      else
        some (r16, S14))
def g_X0_effectOf (N : Nat) : Nat → St → Int32 → Int32 → Option (Int32 × St)
  | 0, _, _, _ => none
  | d + 1, S, x1, x2 => f_X0_effectOf N (g_X0_effectOf N d) S x1 x2
def f_X0_keysThereAre (N : Nat) (S : St) : Option (Int32 × St) :=
  some ((nI 8) + (S 1 0), S)
def f_X0_isKey (N : Nat) (S : St) (x1 : Int32) : Option (Int32 × St) :=
  if x1 < (0 : Int32) then
    some ((nI 0), S)
  else
    cal (f_X0_keysThereAre N S) (fun r3 S1 =>
      if r3 ≤ x1 then
        some ((nI 0), S1)
      else
        some ((nI 1), S1))
def f_X0_lineAfter (N : Nat) (S : St) (x1 : Int32) (x2 : Int32) : Option (Int32 × St) :=
  cal (g_X0_effectOf N 5 S x1 x2) (fun r3 S1 =>
    cal (f_X0_lineOf N S1 r3) (fun r6 S4 =>
      some (r6, S4)))
def f_X0_pressesOf_17 (N : Nat) (fe : St → Int32 → Option (Int32 × St)) : Nat → St → Int32 → Nat → Int32 → Int32 → Option (Int32 × St)
  | 0, _, _, _, _, _ => none
  | n + 1, S, x1, j2, x3, x4 =>
    if (S (20 + j2) 2) ≤ x4 then
      cal (f_X2_often N S j2) (fun r3 S1 =>
        some (x3 * r3, S1))
    else
      cal (f_X2_keyAt N S j2 x4) (fun r6 S4 =>
        if (nI 8) ≤ r6 then
          if x1 ≤ (r6 - (nI 8)) then
            bnd (x4 + (nI 1)) (fun y7 =>
              f_X0_pressesOf_17 N fe n S4 x1 j2 x3 y7)
          else
            cal (fe S4 (r6 - (nI 8))) (fun r10 S8 =>
              bnd (x3 + r10) (fun y11 =>
                bnd (x4 + (nI 1)) (fun y12 =>
                  f_X0_pressesOf_17 N fe n S8 x1 j2 y11 y12)))
        else
          bnd (x3 + (nI 1)) (fun y13 =>
            bnd (x4 + (nI 1)) (fun y14 =>
              f_X0_pressesOf_17 N fe n S4 x1 j2 y13 y14)))
def f_X0_pressesOf (N : Nat) (fe : St → Int32 → Option (Int32 × St)) (S : St) (x1 : Int32) : Option (Int32 × St) :=
  cal (f_X0_macroOf N S x1) (fun r3 S1 => opt r3 (
    some ((nI 0), S1)
  ) (fun j4 => if j4 < 6 then
    bnd ((nI 0)) (fun y5 =>
      bnd ((nI 0)) (fun y6 =>
        f_X0_pressesOf_17 N fe N S1 x1 j4 y5 y6)) else none))
def g_X0_pressesOf (N : Nat) : Nat → St → Int32 → Option (Int32 × St)
  | 0, _, _ => none
  | d + 1, S, x1 => f_X0_pressesOf N (g_X0_pressesOf N d) S x1
def f_X1_cursorOf (N : Nat) (S : St) (x0 : Int32) : Option (Int32 × St) :=
  cal (f_X1_countOf N S x0) (fun r3 S1 =>
    if inb r3 6 = true then
      some ((x0 - (frs r3.toNatClampNeg)) >>> (((nI 2) * r3) &&& (31 : Int32)), S1) else none)
def f_X1_letterAt (N : Nat) (S : St) (x0 : Int32) (x1 : Int32) : Option (Int32 × St) :=
  cal (f_X1_countOf N S x0) (fun r3 S1 =>
    if inb r3 6 = true then
      some (((x0 - (frs r3.toNatClampNeg)) >>> (((nI 2) * ((r3 - (nI 1)) - x1)) &&& (31 : Int32))) &&& (nI 3), S1) else none)
def f_X1_digitsOf_9 (N : Nat) : Nat → St → Int32 → Int32 → Int32 → Int32 → Option (Int32 × St)
  | 0, _, _, _, _, _ => none
  | n + 1, S, x0, x1, x2, x3 =>
    if x1 ≤ x3 then
      some (x2, S)
    else
      cal (f_X1_letterAt N S x0 x3) (fun r3 S1 =>
        bnd (((x2 * (nI 10)) + r3) + (nI 1)) (fun y4 =>
          bnd (x3 + (nI 1)) (fun y5 =>
            f_X1_digitsOf_9 N n S1 x0 x1 y4 y5)))
def f_X1_digitsOf (N : Nat) (S : St) (x0 : Int32) : Option (Int32 × St) :=
  cal (f_X1_countOf N S x0) (fun r3 S1 =>
    bnd ((nI 0)) (fun y4 =>
      bnd ((nI 0)) (fun y5 =>
        f_X1_digitsOf_9 N N S1 x0 r3 y4 y5)))
def f_X3_keyOf_95 (N : Nat) (S : St) (x1 : Int32) (xs0 : Int32) : Option (Int32 × St) :=
  if xs0 = (0 : Int32) then
    some ((-9 : Int32), S)
  else
    some (((nI 8) + x1) - (nI 48), S)
def f_X3_keyOf_71 (N : Nat) (S : St) (x1 : Int32) : Option (Int32 × St) :=
  if x1 < (nI 48) then
    f_X3_keyOf_95 N S x1 (nI 0)
  else
    if (((nI 48) + (S 4 1)) - (nI 1)) ≤ x1 then
      f_X3_keyOf_95 N S x1 (nI 0)
    else
      f_X3_keyOf_95 N S x1 (nI 1)
def f_X3_keyOf (N : Nat) (S : St) (x1 : Int32) : Option (Int32 × St) :=
  bnd (x1) (fun y1 =>
    if y1 = (nI 60) then
      some ((nI 4), S)
    else
      if y1 = (nI 62) then
        some ((nI 5), S)
      else
        if y1 = (nI 104) then
          some ((nI 7), S)
        else
          if y1 = (nI 120) then
            some ((nI 6), S)
          else
            if x1 < (nI 97) then
              f_X3_keyOf_71 N S x1
            else
              if (nI 101) ≤ x1 then
                f_X3_keyOf_71 N S x1
              else
                some (x1 - (nI 97), S))
def f_X3_addsKey (N : Nat) (S : St) (x1 : Int32) : Option (Int32 × St) :=
  cal (f_X3_keyOf N S x1) (fun r3 S1 =>
    if r3 = (-9 : Int32) then
      some ((nI 0), S1)
    else
      if (S1 4 2).toNatClampNeg < 3 then
        if (S1 (20 + (3 + (S1 4 2).toNatClampNeg)) 2) < (nI 4) then
          if (S1 4 2).toNatClampNeg < 3 then
            if (S1 4 2).toNatClampNeg < 3 then
              if inb (S1 (20 + (3 + (S1 4 2).toNatClampNeg)) 2) 4 = true then
                bnd (st S1 (26 + (3 + (S1 4 2).toNatClampNeg)) (S1 (20 + (3 + (S1 4 2).toNatClampNeg)) 2).toNatClampNeg r3) (fun S7 =>
                  if (S7 4 2).toNatClampNeg < 3 then
                    bnd (st S7 (20 + (3 + (S7 4 2).toNatClampNeg)) 2 ((S7 (20 + (3 + (S7 4 2).toNatClampNeg)) 2) + (nI 1))) (fun S9 =>
                      some ((nI 1), S9)) else none) else none else none else none
        else
          some ((nI 0), S1) else none)
def f_X3_begins (N : Nat) (S : St) (x1 : Int32) : Option (Int32 × St) :=
  bnd (st S 4 3 (nI 1)) (fun S1 =>
    if x1 = (nI 107) then
      some ((nI 1), S1)
    else
      some ((nI 0), S1))
def f_X3_hasKeys (N : Nat) (S : St) : Option (Int32 × St) :=
  if (S 4 3) = (nI 4) then
    if (S 4 2).toNatClampNeg < 3 then
      if (S (20 + (3 + (S 4 2).toNatClampNeg)) 2) ≤ (0 : Int32) then
        some ((nI 0), S)
      else
        some ((nI 1), S) else none
  else
    some ((nI 0), S)
def f_X3_marks (N : Nat) (S : St) (x1 : Int32) : Option (Int32 × St) :=
  if x1 = (nI 59) then
    if (S 4 1) < (nI 3) then
      if inb (S 4 1) 3 = true then
        bnd (st S 4 2 (S 4 1)) (fun S2 =>
          if (S2 4 2).toNatClampNeg < 3 then
            bnd (st S2 (20 + (3 + (S2 4 2).toNatClampNeg)) 2 (nI 0)) (fun S4 =>
              bnd (st S4 4 1 ((S4 4 1) + (nI 1))) (fun S5 =>
                bnd (st S5 4 3 (nI 2)) (fun S6 =>
                  some ((nI 1), S6)))) else none) else none
    else
      some ((nI 0), S)
  else
    some ((nI 0), S)
def f_X3_tellsKind_25 (N : Nat) (S : St) (x1 : Int32) (xs0 : Int32) (js1 : Nat) : Option (Int32 × St) :=
  bnd (st S (20 + js1) 0 xs0) (fun S1 =>
    bnd (st S1 4 3 (nI 3)) (fun S2 =>
      if x1 = (nI 112) then
        some ((nI 1), S2)
      else
        if x1 = (nI 98) then
          some ((nI 1), S2)
        else
          if x1 = (nI 101) then
            some ((nI 1), S2)
          else
            some ((nI 0), S2)))
def f_X3_tellsKind (N : Nat) (S : St) (x1 : Int32) : Option (Int32 × St) :=
  if (S 4 2).toNatClampNeg < 3 then
    if x1 = (nI 112) then
      f_X3_tellsKind_25 N S x1 (nI 0) (3 + (S 4 2).toNatClampNeg)
    else
      if x1 = (nI 98) then
        f_X3_tellsKind_25 N S x1 (nI 1) (3 + (S 4 2).toNatClampNeg)
      else
        f_X3_tellsKind_25 N S x1 (nI 2) (3 + (S 4 2).toNatClampNeg) else none
def f_X3_tellsTimes (N : Nat) (S : St) (x1 : Int32) : Option (Int32 × St) :=
  if (S 4 2).toNatClampNeg < 3 then
    bnd (st S (20 + (3 + (S 4 2).toNatClampNeg)) 1 (x1 - (nI 48))) (fun S2 =>
      bnd (st S2 4 3 (nI 4)) (fun S3 =>
        if x1 < (nI 49) then
          some ((nI 0), S3)
        else
          if (nI 51) < x1 then
            some ((nI 0), S3)
          else
            some ((nI 1), S3))) else none
def f_X3_goesOn (N : Nat) (S : St) (x1 : Int32) : Option (Int32 × St) :=
  bnd (S 4 3) (fun y1 =>
    if y1 = (nI 0) then
      cal (f_X3_begins N S x1) (fun r4 S2 =>
        if nb r4 = true then
          some (r4, S2) else none)
    else
      if y1 = (nI 1) then
        cal (f_X3_marks N S x1) (fun r7 S5 =>
          if nb r7 = true then
            some (r7, S5) else none)
      else
        if y1 = (nI 2) then
          cal (f_X3_tellsKind N S x1) (fun r10 S8 =>
            if nb r10 = true then
              some (r10, S8) else none)
        else
          if y1 = (nI 3) then
            cal (f_X3_tellsTimes N S x1) (fun r13 S11 =>
              if nb r13 = true then
                some (r13, S11) else none)
          else
            cal (f_X3_addsKey N S x1) (fun r16 S14 =>
              if r16 = (0 : Int32) then
                cal (f_X3_hasKeys N S14) (fun r19 S17 =>
                  if r19 = (0 : Int32) then
                    some ((nI 0), S17)
                  else
                    cal (f_X3_marks N S17 x1) (fun r22 S20 =>
                      if r22 = (0 : Int32) then
                        some ((nI 0), S20)
                      else
                        some ((nI 1), S20)))
              else
                some ((nI 1), S14)))
def f_X3_firstFault_13 (N : Nat) : Nat → St → Nat → Int32 → Int32 → Int32 → Option (Int32 × St)
  | 0, _, _, _, _, _ => none
  | n + 1, S, j1, x2, x3, x4 =>
    if x3 ≤ x4 then
      cal (f_X3_hasKeys N S) (fun r3 S1 =>
        if r3 = (0 : Int32) then
          some (x3, S1)
        else
          some ((-9 : Int32), S1))
    else
      if inb (x2 + x4) 60 = true then
        cal (f_X3_goesOn N S (S (16 + j1) (x2 + x4).toNatClampNeg)) (fun r6 S4 =>
          if r6 = (0 : Int32) then
            some (x4, S4)
          else
            bnd (x4 + (nI 1)) (fun y7 =>
              f_X3_firstFault_13 N n S4 j1 x2 x3 y7)) else none
def f_X3_firstFault (N : Nat) (S : St) (j1 : Nat) (x2 : Int32) (x3 : Int32) : Option (Int32 × St) :=
  bnd (st S 4 3 (nI 0)) (fun S1 =>
    bnd (st S1 4 1 (nI 0)) (fun S2 =>
      bnd ((nI 0)) (fun y3 =>
        f_X3_firstFault_13 N N S2 j1 x2 x3 y3)))
def f_X4_playOn_16 (N : Nat) : Nat → St → Int32 → Int32 → Option (Int32 × St)
  | 0, _, _, _ => none
  | n + 1, S, x3, x4 =>
    cal (f_X1_isLine N S x4) (fun r3 S1 =>
      if r3 = (0 : Int32) then
        some (x4, S1)
      else
        if inb x4 7737 = true then
          if (S1 8 x4.toNatClampNeg) = (0 : Int32) then
            if (nI 7737) ≤ (S1 6 2) then
              some (x4, S1)
            else
              bnd (st S1 6 2 ((S1 6 2) + (nI 1))) (fun S4 =>
                if inb x4 7737 = true then
                  bnd (st S4 8 x4.toNatClampNeg (S4 6 2)) (fun S5 =>
                    cal (f_X0_lineAfter N S5 x4 ((nI 8) + x3)) (fun r8 S6 =>
                      f_X4_playOn_16 N n S6 x3 r8)) else none)
          else
            some (x4, S1) else none)
def f_X4_playOn (N : Nat) (S : St) (x2 : Int32) (x3 : Int32) : Option (Int32 × St) :=
  cal (f_J7_fill_53178 N S 8 7737 (nI 0)) (fun _ S1 =>
    bnd (st S1 6 2 (nI 0)) (fun S4 =>
      f_X4_playOn_16 N N S4 x3 x2))
def f_X4_playsTo (N : Nat) (S : St) (x1 : Int32) : Option (Int32 × St) :=
  cal (f_X1_isLine N S x1) (fun r3 S1 =>
    if r3 = (0 : Int32) then
      some ((nI 0), S1)
    else
      if inb x1 7737 = true then
        some ((S1 8 x1.toNatClampNeg) - (nI 1), S1) else none)
def f_X4_aheadOfRound (N : Nat) (S : St) (x2 : Int32) (x3 : Int32) : Option (Int32 × St) :=
  cal (f_X4_playOn N S x2 x3) (fun r3 S1 =>
    cal (f_X4_playsTo N S1 r3) (fun r6 S4 =>
      some (r6, S4)))
def f_X4_hasLetters (N : Nat) (S : St) (x0 : Int32) (x1 : Int32) : Option (Int32 × St) :=
  cal (f_X1_after N S x0 (nI 7)) (fun r3 S1 =>
    if r3 = x1 then
      some ((nI 1), S1)
    else
      some ((nI 0), S1))
def f_X4_queueUp (N : Nat) (S : St) (x1 : Int32) (x2 : Int32) : Option (Unit × St) :=
  if (nI 7737) ≤ (S 6 2) then
    some ((), S)
  else
    cal (f_X1_isLine N S x1) (fun r3 S1 =>
      if r3 = (0 : Int32) then
        some ((), S1)
      else
        if inb x1 7737 = true then
          bnd (st S1 8 x1.toNatClampNeg x2) (fun S4 =>
            if inb (S4 6 2) 7737 = true then
              bnd (st S4 7 (S4 6 2).toNatClampNeg x1) (fun S5 =>
                bnd (st S5 6 2 ((S5 6 2) + (nI 1))) (fun S6 =>
                  some ((), S6))) else none) else none)
def f_X4_find_62 (N : Nat) (k33 : St → Int32 → Int32 → Int32 → Option (Int32 × St)) : Nat → St → Int32 → Int32 → Int32 → Int32 → Int32 → Option (Int32 × St)
  | 0, _, _, _, _, _, _ => none
  | n + 1, S, x3, x4, x5, x6, x7 =>
    cal (f_X0_keysThereAre N S) (fun r3 S1 =>
      if r3 ≤ x7 then
        bnd (x5 + (nI 1)) (fun y4 =>
          k33 S1 x3 x4 y4)
      else
        cal (f_X0_lineAfter N S1 x6 x7) (fun r7 S5 =>
          cal (f_X1_isLine N S5 r7) (fun r10 S8 =>
            if r10 = (0 : Int32) then
              bnd (x7 + (nI 1)) (fun y11 =>
                f_X4_find_62 N k33 n S8 x3 x4 x5 x6 y11)
            else
              if inb r7 7737 = true then
                if (S8 8 r7.toNatClampNeg) = (0 : Int32) then
                  cal (f_X4_queueUp N S8 r7 ((nI 1) + ((x6 <<< ((nI 4) &&& (31 : Int32))) ||| x7))) (fun _ S12 =>
                    cal (f_X4_hasLetters N S12 r7 x4) (fun r17 S15 =>
                      if r17 = (0 : Int32) then
                        bnd (x7 + (nI 1)) (fun y18 =>
                          f_X4_find_62 N k33 n S15 x3 x4 x5 x6 y18)
                      else
                        some (r7, S15)))
                else
                  bnd (x7 + (nI 1)) (fun y19 =>
                    f_X4_find_62 N k33 n S8 x3 x4 x5 x6 y19) else none)))
def f_X4_find_33 (N : Nat) : Nat → St → Int32 → Int32 → Int32 → Option (Int32 × St)
  | 0, _, _, _, _ => none
  | n + 1, S, x3, x4, x5 =>
    if (S 6 2) ≤ x5 then
      some ((-9 : Int32), S)
    else
      if (nI 7737) ≤ x5 then
        some ((-9 : Int32), S)
      else
        if inb x5 7737 = true then
          bnd (S 7 x5.toNatClampNeg) (fun y1 =>
            f_X4_find_62 N (f_X4_find_33 N n) N S x3 x4 x5 y1 x3) else none
def f_X4_find (N : Nat) (S : St) (x2 : Int32) (x3 : Int32) (x4 : Int32) : Option (Int32 × St) :=
  cal (f_J7_fill_53178 N S 8 7737 (nI 0)) (fun _ S1 =>
    bnd (st S1 6 2 (nI 0)) (fun S4 =>
      cal (f_X4_queueUp N S4 x2 (-1 : Int32)) (fun _ S5 =>
        cal (f_X4_hasLetters N S5 x2 x4) (fun r10 S8 =>
          if r10 = (0 : Int32) then
            bnd ((nI 0)) (fun y11 =>
              f_X4_find_33 N N S8 x3 x4 y11)
          else
            some (x2, S8)))))
def f_X4_stepsTo_4 (N : Nat) : Nat → St → Int32 → Int32 → Option (Int32 × St)
  | 0, _, _, _ => none
  | n + 1, S, x2, x3 =>
    cal (f_X1_isLine N S x3) (fun r3 S1 =>
      if r3 = (0 : Int32) then
        some (x2, S1)
      else
        if inb x3 7737 = true then
          if (S1 8 x3.toNatClampNeg) ≤ (0 : Int32) then
            some (x2, S1)
          else
            if (nI 7737) ≤ x2 then
              some (x2, S1)
            else
              if inb x3 7737 = true then
                bnd (((S1 8 x3.toNatClampNeg) - (nI 1)) >>> ((nI 4) &&& (31 : Int32))) (fun y4 =>
                  bnd (x2 + (nI 1)) (fun y5 =>
                    f_X4_stepsTo_4 N n S1 y5 y4)) else none else none)
def f_X4_stepsTo (N : Nat) (S : St) (x1 : Int32) : Option (Int32 × St) :=
  bnd ((nI 0)) (fun y1 =>
    f_X4_stepsTo_4 N N S y1 x1)
def f_X4_keyTo_11 (N : Nat) : Nat → St → Int32 → Int32 → Int32 → Option (Int32 × St)
  | 0, _, _, _, _ => none
  | n + 1, S, x2, x3, x4 =>
    if x4 < (0 : Int32) then
      some ((-9 : Int32), S)
    else
      cal (f_X1_isLine N S x3) (fun r3 S1 =>
        if r3 = (0 : Int32) then
          some ((-9 : Int32), S1)
        else
          if inb x3 7737 = true then
            bnd ((S1 8 x3.toNatClampNeg) - (nI 1)) (fun y4 =>
              if x4 = x2 then
                some (y4 &&& (nI 15), S1)
              else
                bnd (y4 >>> ((nI 4) &&& (31 : Int32))) (fun y5 =>
                  bnd (x4 + (-1 : Int32)) (fun y6 =>
                    f_X4_keyTo_11 N n S1 x2 y5 y6))) else none)
def f_X4_keyTo (N : Nat) (S : St) (x1 : Int32) (x2 : Int32) : Option (Int32 × St) :=
  cal (f_X4_stepsTo N S x1) (fun r3 S1 =>
    bnd (r3 - (nI 1)) (fun y4 =>
      f_X4_keyTo_11 N N S1 x2 x1 y4))
def f_X4_reachable (N : Nat) (S : St) (x2 : Int32) (x3 : Int32) : Option (Int32 × St) :=
  cal (f_X4_find N S x2 x3 (-9 : Int32)) (fun r3 S1 =>
    some (S1 6 2, S1))
def f_X4_round (N : Nat) (S : St) (x2 : Int32) (x3 : Int32) : Option (Int32 × St) :=
  cal (f_X4_playOn N S x2 x3) (fun r3 S1 =>
    cal (f_X4_playsTo N S1 r3) (fun r6 S4 =>
      some ((S1 6 2) - r6, S4)))
def f_X5_allWithin_3 (N : Nat) : Nat → St → Nat → Int32 → Int32 → Int32 → Int32 → Option (Int32 × St)
  | 0, _, _, _, _, _, _ => none
  | n + 1, S, j0, x1, x2, x3, x4 =>
    if x2 ≤ x4 then
      some ((nI 1), S)
    else
      if inb (x1 + x4) 60 = true then
        bnd (S (16 + j0) (x1 + x4).toNatClampNeg) (fun y1 =>
          if y1 < (0 : Int32) then
            some ((nI 0), S)
          else
            if y1 ≤ x3 then
              bnd (x4 + (nI 1)) (fun y2 =>
                f_X5_allWithin_3 N n S j0 x1 x2 x3 y2)
            else
              some ((nI 0), S)) else none
def f_X5_allWithin (N : Nat) (S : St) (j0 : Nat) (x1 : Int32) (x2 : Int32) (x3 : Int32) : Option (Int32 × St) :=
  bnd ((nI 0)) (fun y1 =>
    f_X5_allWithin_3 N N S j0 x1 x2 x3 y1)
def f_X5_cut (N : Nat) (S : St) (j0 : Nat) (x1 : Int32) : Option (Int32 × St) :=
  bnd (S (12 + j0) 0) (fun y1 =>
    if y1 = (nI 0) then
      some (x1.toInt8.toInt32, S)
    else
      if y1 = (nI 1) then
        some (x1.toInt16.toInt32, S)
      else
        some (x1, S))
def f_X5_hasAll (N : Nat) (S : St) (j0 : Nat) (x1 : Int32) (x2 : Int32) : Option (Int32 × St) :=
  if x2 < (0 : Int32) then
    some ((nI 0), S)
  else
    if x1 < (0 : Int32) then
      some ((nI 0), S)
    else
      if (S (12 + j0) 1) < x2 then
        some ((nI 0), S)
      else
        if ((S (12 + j0) 1) - x2) < x1 then
          some ((nI 0), S)
        else
          some ((nI 1), S)
def f_X5_faultOf (N : Nat) (S : St) (j0 : Nat) (x1 : Int32) (x2 : Int32) (x3 : Int32) : Option (Int32 × St) :=
  if (S (12 + j0) 0) = (-1 : Int32) then
    some ((nI 1), S)
  else
    if (S (12 + j0) 0) = x1 then
      if (0 : Int32) ≤ x3 then
        cal (f_X5_hasAll N S j0 x2 x3) (fun r3 S1 =>
          if r3 = (0 : Int32) then
            some ((nI 3), S1)
          else
            some ((nI 0), S1))
      else
        some ((nI 4), S)
    else
      some ((nI 2), S)
def f_X5_renew (N : Nat) (S : St) (j0 : Nat) (x1 : Int32) (x2 : Int32) : Option (Unit × St) :=
  bnd (st S (12 + j0) 0 x1) (fun S1 =>
    bnd (st S1 (12 + j0) 1 x2) (fun S2 =>
      cal (f_J7_fill_53178 N S2 (16 + j0) 60 (nI 0)) (fun _ S3 =>
        some ((), S3))))
def f_X6_again_25 (N : Nat) (S : St) (x1 : Int32) (x2 : Int32) : Option (Int32 × St) :=
  if x2 = (0 : Int32) then
    cal (f_X4_aheadOfRound N S (S 0 7) x1) (fun r6 S4 =>
      some (r6, S4))
  else
    cal (f_X4_round N S (S 0 7) x1) (fun r3 S1 =>
      some (r3, S1))
def f_X6_again (N : Nat) (S : St) (x1 : Int32) (x2 : Int32) : Option (Int32 × St) :=
  cal (f_X0_macroOf N S x1) (fun r3 S1 => opt r3 (
    some ((-1 : Int32), S1)
  ) (fun j4 => if j4 < 6 then
    if x2 = (0 : Int32) then
      f_X6_again_25 N S1 x1 x2
    else
      if x2 = (nI 1) then
        f_X6_again_25 N S1 x1 x2
      else
        some ((-2 : Int32), S1) else none))
def f_X6_meet (N : Nat) (S : St) (x1 : Int32) : Option (Int32 × St) :=
  bnd (st S 0 10 x1) (fun S1 =>
    some ((-10 : Int32) - x1, S1))
def f_X6_as (N : Nat) (S : St) (x1 : Int32) (x2 : Int32) : Option (Int32 × St) :=
  bnd (st S 0 10 (nI 0)) (fun S1 =>
    cal (f_X0_macroOf N S1 x1) (fun r4 S2 => opt r4 (
      some ((-1 : Int32), S2)
    ) (fun j5 => if j5 < 6 then
      if x2 < (0 : Int32) then
        some ((-2 : Int32), S2)
      else
        if x2 ≤ (nI 2) then
          if (S2 (20 + j5) 0) < x2 then
            cal (f_X6_meet N S2 (nI 2)) (fun r8 S6 =>
              some (r8, S6))
          else
            some ((nI 1), S2)
        else
          some ((-2 : Int32), S2) else none)))
def f_X6_back (N : Nat) (S : St) (x1 : Int32) : Option (Int32 × St) :=
  if x1 < (0 : Int32) then
    some ((-2 : Int32), S)
  else
    if x1 ≤ (S 0 6) then
      bnd (st S 0 6 ((S 0 6) - x1)) (fun S1 =>
        some (S1 0 6, S1))
    else
      some ((-2 : Int32), S)
def f_X6_leave (N : Nat) (S : St) (x1 : Int32) : Option (Unit × St) :=
  bnd (st S 0 9 (((nI 31) * (S 0 9)) + x1)) (fun S1 =>
    some ((), S1))
def f_X6_plainTells (N : Nat) (S : St) (j1 : Nat) : Option (Int32 × St) :=
  cal (f_X6_leave N S (nI 1)) (fun _ S1 =>
    some (S1 (20 + j1) 1, S1))
def f_X6_broadTells (N : Nat) (S : St) (j1 : Nat) : Option (Int32 × St) :=
  cal (f_X6_leave N S (nI 2)) (fun _ S1 =>
    cal (f_X6_plainTells N S1 j1) (fun r6 S4 =>
      some (r6 + (nI 100), S4)))
def f_X6_isLane (N : Nat) (S : St) (x0 : Int32) : Option (Int32 × St) :=
  if x0 < (0 : Int32) then
    some ((nI 0), S)
  else
    if (nI 2) < x0 then
      some ((nI 0), S)
    else
      some ((nI 1), S)
def f_X6_sheetOf (N : Nat) (S : St) (x1 : Int32) : Option (Option Nat × St) :=
  if x1 < (0 : Int32) then
    some (none, S)
  else
    if x1 < (nI 4) then
      if inb x1 4 = true then
        some (some x1.toNatClampNeg, S) else none
    else
      some (none, S)
def f_X6_cell (N : Nat) (S : St) (x1 : Int32) (x2 : Int32) (x3 : Int32) : Option (Int64 × St) :=
  bnd (st S 0 10 (nI 0)) (fun S1 =>
    cal (f_X6_sheetOf N S1 x1) (fun r4 S2 => opt r4 (
      some ((-9223372036854775808 : Int64), S2)
    ) (fun j5 => if j5 < 4 then
      cal (f_X6_isLane N S2 x3) (fun r8 S6 =>
        if r8 = (0 : Int32) then
          some ((-9223372036854775808 : Int64), S6)
        else
          cal (f_X5_faultOf N S6 j5 x3 x2 (nI 1)) (fun r11 S9 =>
            bnd (st S9 0 10 r11) (fun S12 =>
              if (S12 0 10) = (0 : Int32) then
                if inb x2 60 = true then
                  some ((S12 (16 + j5) x2.toNatClampNeg).toInt64, S12) else none
              else
                some ((-9223372036854775808 : Int64), S12)))) else none)))
def f_X6_clear (N : Nat) (S : St) : Option (Int32 × St) :=
  cal (f_X1_countOf N S (S 0 7)) (fun r3 S1 =>
    bnd (st S1 0 7 (nI 0)) (fun S4 =>
      some (r3, S4)))
def f_X6_click (N : Nat) (S : St) (x1 : Int32) : Option (Int32 × St) :=
  cal (f_X0_macroOf N S x1) (fun r3 S1 => opt r3 (
    some ((-1 : Int32), S1)
  ) (fun j4 => if j4 < 6 then
    if (S1 (20 + j4) 0) = (nI 2) then
      cal (f_X6_leave N S1 (nI 5)) (fun _ S8 =>
        some ((nI 90), S8))
    else
      cal (f_X6_leave N S1 (nI 4)) (fun _ S5 =>
        some (S5 (20 + j4) 2, S5)) else none))
def f_X6_come (N : Nat) (S : St) : Option (Int32 × St) :=
  cal (f_X4_reachable N S (S 0 7) (nI 8)) (fun r3 S1 =>
    some (r3, S1))
def f_X6_copy (N : Nat) (S : St) (x1 : Int32) (x2 : Int32) (x3 : Int32) (x4 : Int32) (x5 : Int32) : Option (Int32 × St) :=
  bnd (st S 0 10 (nI 0)) (fun S1 =>
    cal (f_X6_sheetOf N S1 x1) (fun r4 S2 => opt r4 (
      cal (f_X6_sheetOf N S2 x3) (fun r8 S6 => opt r8 (
        some ((-1 : Int32), S6)
      ) (fun j9 => if j9 < 4 then
        some ((-1 : Int32), S6) else none))
    ) (fun j5 => if j5 < 4 then
      cal (f_X6_sheetOf N S2 x3) (fun r12 S10 => opt r12 (
        some ((-1 : Int32), S10)
      ) (fun j13 => if j13 < 4 then
        if (S10 (12 + j5) 0) = (-1 : Int32) then
          cal (f_X6_meet N S10 (nI 1)) (fun r16 S14 =>
            some (r16, S14))
        else
          if (S10 (12 + j13) 0) = (-1 : Int32) then
            cal (f_X6_meet N S10 (nI 1)) (fun r35 S33 =>
              some (r35, S33))
          else
            if (S10 (12 + j5) 0) = (S10 (12 + j13) 0) then
              cal (f_X5_hasAll N S10 j5 x2 x5) (fun r19 S17 =>
                if r19 = (0 : Int32) then
                  cal (f_X6_meet N S17 (nI 3)) (fun r22 S20 =>
                    some (r22, S20))
                else
                  cal (f_X5_hasAll N S17 j13 x4 x5) (fun r25 S23 =>
                    if r25 = (0 : Int32) then
                      cal (f_X6_meet N S23 (nI 3)) (fun r29 S27 =>
                        some (r29, S27))
                    else
                      if cpyok x2 x4 x5 60 60 = true then
                        bnd (sr S23 (16 + j13) (va_cpy (S23 (16 + j5)) (S23 (16 + j13)) x2.toNatClampNeg x4.toNatClampNeg x5.toNatClampNeg)) (fun S26 =>
                          some (x5, S26)) else none))
            else
              cal (f_X6_meet N S10 (nI 2)) (fun r32 S30 =>
                some (r32, S30)) else none)) else none)))
def f_X6_evenTells (N : Nat) (S : St) (j1 : Nat) : Option (Int32 × St) :=
  cal (f_X6_leave N S (nI 3)) (fun _ S1 =>
    cal (f_X6_broadTells N S1 j1) (fun r6 S4 =>
      cal (f_X6_plainTells N S4 j1) (fun r9 S7 =>
        some (r6 + r9, S7))))
def f_X6_fault (N : Nat) (S : St) : Option (Int32 × St) :=
  some (S 0 10, S)
def f_X6_lineTold_5 (N : Nat) : Nat → St → Nat → Int32 → Int32 → Int32 → Int32 → Option (Int32 × St)
  | 0, _, _, _, _, _, _ => none
  | n + 1, S, j0, x1, x2, x3, x4 =>
    if x2 ≤ x4 then
      cal (f_X1_of N S x2 (nI 0) x3) (fun r3 S1 =>
        some (r3, S1))
    else
      if inb (x1 + x4) 60 = true then
        bnd ((x3 * (nI 4)) + (S (16 + j0) (x1 + x4).toNatClampNeg)) (fun y4 =>
          bnd (x4 + (nI 1)) (fun y5 =>
            f_X6_lineTold_5 N n S j0 x1 x2 y4 y5)) else none
def f_X6_lineTold (N : Nat) (S : St) (j0 : Nat) (x1 : Int32) (x2 : Int32) : Option (Int32 × St) :=
  bnd ((nI 0)) (fun y1 =>
    bnd ((nI 0)) (fun y2 =>
      f_X6_lineTold_5 N N S j0 x1 x2 y1 y2))
def f_X6_fewest (N : Nat) (S : St) (x1 : Int32) (x2 : Int32) (x3 : Int32) (x4 : Int32) (x5 : Int32) : Option (Int32 × St) :=
  bnd (st S 0 10 (nI 0)) (fun S1 =>
    cal (f_X6_sheetOf N S1 x1) (fun r4 S2 => opt r4 (
      some ((-1 : Int32), S2)
    ) (fun j5 => if j5 < 4 then
      cal (f_X6_isLane N S2 x2) (fun r8 S6 =>
        if r8 = (0 : Int32) then
          some ((-2 : Int32), S6)
        else
          if x4 < (0 : Int32) then
            some ((-2 : Int32), S6)
          else
            if (nI 5) < x4 then
              some ((-2 : Int32), S6)
            else
              if x5 < (-1 : Int32) then
                some ((-2 : Int32), S6)
              else
                if x5 ≤ (nI 20) then
                  cal (f_X5_faultOf N S6 j5 x2 x3 x4) (fun r11 S9 =>
                    if r11 = (0 : Int32) then
                      cal (f_X5_allWithin N S9 j5 x3 x4 (nI 3)) (fun r14 S12 =>
                        if r14 = (0 : Int32) then
                          some ((-2 : Int32), S12)
                        else
                          cal (f_X6_lineTold N S12 j5 x3 x4) (fun r17 S15 =>
                            cal (f_X4_find N S15 (S12 0 7) (nI 0) r17) (fun r20 S18 =>
                              if r20 = (-9 : Int32) then
                                some ((-9 : Int32), S18)
                              else
                                if x5 = (-1 : Int32) then
                                  cal (f_X4_stepsTo N S18 r20) (fun r26 S24 =>
                                    some (r26, S24))
                                else
                                  cal (f_X4_keyTo N S18 r20 x5) (fun r23 S21 =>
                                    some (r23, S21)))))
                    else
                      cal (f_X6_meet N S9 r11) (fun r29 S27 =>
                        some (r29, S27)))
                else
                  some ((-2 : Int32), S6)) else none)))
def f_X6_isOfRow_9 (N : Nat) (S : St) (x0 : Int32) : Option (Int32 × St) :=
  if x0 < (nI 10) then
    some ((nI 0), S)
  else
    if (nI 15) ≤ x0 then
      some ((nI 0), S)
    else
      some ((nI 1), S)
def f_X6_isOfRow (N : Nat) (S : St) (x0 : Int32) : Option (Int32 × St) :=
  if x0 < (0 : Int32) then
    f_X6_isOfRow_9 N S x0
  else
    if x0 ≤ (nI 4) then
      some ((nI 1), S)
    else
      f_X6_isOfRow_9 N S x0
def f_X6_key (N : Nat) (S : St) (x1 : Int32) (x2 : Int32) : Option (Int32 × St) :=
  cal (f_X0_macroOf N S x1) (fun r3 S1 => opt r3 (
    some ((-1 : Int32), S1)
  ) (fun j4 => if j4 < 6 then
    cal (f_X2_keyAt N S1 j4 x2) (fun r7 S5 =>
      if r7 = (-9 : Int32) then
        some ((-1 : Int32), S5)
      else
        some (r7, S5)) else none))
def f_X6_readingsAreSo_2 (N : Nat) : Nat → St → Int32 → Option (Int32 × St)
  | 0, _, _ => none
  | n + 1, S, x1 =>
    if (S 0 6) ≤ x1 then
      some ((nI 1), S)
    else
      if (nI 8) ≤ x1 then
        some ((nI 1), S)
      else
        if inb x1 8 = true then
          cal (f_X0_lineAfter N S (nI 0) ((nI 8) + (S 10 x1.toNatClampNeg))) (fun r3 S1 =>
            cal (f_X1_countOf N S1 r3) (fun r6 S4 =>
              if inb x1 8 = true then
                if r6 = (S4 11 x1.toNatClampNeg) then
                  bnd (x1 + (nI 1)) (fun y7 =>
                    f_X6_readingsAreSo_2 N n S4 y7)
                else
                  some ((nI 0), S4) else none)) else none
def f_X6_readingsAreSo (N : Nat) (S : St) : Option (Int32 × St) :=
  bnd ((nI 0)) (fun y1 =>
    f_X6_readingsAreSo_2 N N S y1)
def f_X6_kinds_26 (N : Nat) : Nat → St → Int32 → Nat → Int32 → Int32 → Int32 → Option (Int32 × St)
  | 0, _, _, _, _, _, _ => none
  | n + 1, S, x1, j2, x3, x4, x5 =>
    if (nI 2) < x5 then
      cal (f_X0_change N S x1 x3 (S (20 + j2) 1)) (fun _ S1 =>
        some (x4, S1))
    else
      cal (f_X0_change N S x1 x5 (S (20 + j2) 1)) (fun _ S4 =>
        cal (f_X6_readingsAreSo N S4) (fun r9 S7 =>
          if r9 = (0 : Int32) then
            bnd (x4 ||| (nI 0)) (fun y10 =>
              bnd (x5 + (nI 1)) (fun y11 =>
                f_X6_kinds_26 N n S7 x1 j2 x3 y10 y11))
          else
            bnd (x4 ||| ((nI 1) <<< (x5 &&& (31 : Int32)))) (fun y12 =>
              bnd (x5 + (nI 1)) (fun y13 =>
                f_X6_kinds_26 N n S7 x1 j2 x3 y12 y13))))
def f_X6_kinds (N : Nat) (S : St) (x1 : Int32) : Option (Int32 × St) :=
  cal (f_X0_macroOf N S x1) (fun r3 S1 => opt r3 (
    some ((-1 : Int32), S1)
  ) (fun j4 => if j4 < 6 then
    bnd (S1 (20 + j4) 0) (fun y5 =>
      bnd ((nI 0)) (fun y6 =>
        bnd ((nI 0)) (fun y7 =>
          f_X6_kinds_26 N N S1 x1 j4 y5 y6 y7))) else none))
def f_X6_letter (N : Nat) (S : St) (x1 : Int32) : Option (Int32 × St) :=
  if x1 < (0 : Int32) then
    some ((-1 : Int32), S)
  else
    cal (f_X1_countOf N S (S 0 7)) (fun r3 S1 =>
      if x1 < r3 then
        cal (f_X1_letterAt N S1 (S1 0 7) x1) (fun r6 S4 =>
          some (r6, S4))
      else
        some ((-1 : Int32), S1))
def f_X6_like_29 (N : Nat) : Nat → St → Int32 → Int32 → Int32 → Int32 → Option (Int32 × St)
  | 0, _, _, _, _, _ => none
  | n + 1, S, x1, x2, x3, x4 =>
    if (nI 7737) ≤ x4 then
      some (x3, S)
    else
      cal (f_X0_lineAfter N S x4 x1) (fun r3 S1 =>
        cal (f_X0_lineAfter N S1 x4 x2) (fun r6 S4 =>
          if r3 = r6 then
            bnd (x3 + (nI 1)) (fun y8 =>
              bnd (x4 + (nI 1)) (fun y9 =>
                f_X6_like_29 N n S4 x1 x2 y8 y9))
          else
            bnd (x4 + (nI 1)) (fun y7 =>
              f_X6_like_29 N n S4 x1 x2 x3 y7)))
def f_X6_like (N : Nat) (S : St) (x1 : Int32) (x2 : Int32) : Option (Int32 × St) :=
  cal (f_X0_isKey N S x1) (fun r3 S1 =>
    if r3 = (0 : Int32) then
      some ((-1 : Int32), S1)
    else
      cal (f_X0_isKey N S1 x2) (fun r6 S4 =>
        if r6 = (0 : Int32) then
          some ((-1 : Int32), S4)
        else
          bnd ((nI 0)) (fun y7 =>
            bnd ((nI 0)) (fun y8 =>
              f_X6_like_29 N N S4 x1 x2 y7 y8))))
def f_X6_lose_25 (N : Nat) (S : St) (j2 : Nat) (xs0 : Int32) : Option (Int32 × St) :=
  cal (f_X5_renew N S j2 (-1 : Int32) (nI 0)) (fun _ S1 =>
    some (xs0, S1))
def f_X6_lose (N : Nat) (S : St) (x1 : Int32) : Option (Int32 × St) :=
  cal (f_X6_sheetOf N S x1) (fun r3 S1 => opt r3 (
    some ((-1 : Int32), S1)
  ) (fun j4 => if j4 < 4 then
    if (S1 (12 + j4) 0) = (-1 : Int32) then
      f_X6_lose_25 N S1 j4 (nI 0)
    else
      f_X6_lose_25 N S1 j4 (nI 1) else none))
def f_X6_macros (N : Nat) (S : St) (x1 : Int32) (x2 : Int32) (x3 : Int32) (x4 : Int32) : Option (Int32 × St) :=
  bnd (st S 0 10 (nI 0)) (fun S1 =>
    cal (f_X6_sheetOf N S1 x1) (fun r4 S2 => opt r4 (
      some ((-1 : Int32), S2)
    ) (fun j5 => if j5 < 4 then
      cal (f_X6_isLane N S2 x2) (fun r8 S6 =>
        if r8 = (0 : Int32) then
          some ((-2 : Int32), S6)
        else
          cal (f_X5_faultOf N S6 j5 x2 x3 x4) (fun r11 S9 =>
            if r11 = (0 : Int32) then
              cal (f_X3_firstFault N S9 j5 x3 x4) (fun r14 S12 =>
                if r14 = (-9 : Int32) then
                  cal (f_X0_become N S12) (fun _ S15 =>
                    bnd (st S15 0 7 (nI 0)) (fun S18 =>
                      bnd (st S18 0 8 (nI 0)) (fun S19 =>
                        bnd (st S19 0 6 (nI 0)) (fun S20 =>
                          some (S20 1 0, S20)))))
                else
                  some ((-100 : Int32) - r14, S12))
            else
              cal (f_X6_meet N S9 r11) (fun r23 S21 =>
                some (r23, S21)))) else none)))
def f_X6_many (N : Nat) (S : St) (x1 : Int32) : Option (Int32 × St) :=
  bnd (x1) (fun y1 =>
    if y1 = (nI 0) then
      some (S 1 0, S)
    else
      if y1 = (nI 1) then
        cal (f_X1_countOf N S (S 0 7)) (fun r4 S2 =>
          some (r4, S2))
      else
        if y1 = (nI 2) then
          cal (f_X1_cursorOf N S (S 0 7)) (fun r7 S5 =>
            some (r7, S5))
        else
          if y1 = (nI 3) then
            some (S 0 8, S)
          else
            if y1 = (nI 4) then
              some (S 0 6, S)
            else
              some ((-2 : Int32), S))
def f_X6_rowsToEmpty_21 (N : Nat) (fe : St → Int32 → Int32 → Option (Int32 × St)) : Nat → St → Int32 → Int32 → Int32 → Int32 → Option (Int32 × St)
  | 0, _, _, _, _, _ => none
  | n + 1, S, x0, x1, x2, x3 =>
    if (nI 8) ≤ x3 then
      some (x2, S)
    else
      cal (f_X1_after N S x0 x3) (fun r3 S1 =>
        cal (fe S1 r3 (x1 - (nI 1))) (fun r6 S4 =>
          bnd (x2 + r6) (fun y7 =>
            bnd (x3 + (nI 1)) (fun y8 =>
              f_X6_rowsToEmpty_21 N fe n S4 x0 x1 y7 y8))))
def f_X6_rowsToEmpty (N : Nat) (fe : St → Int32 → Int32 → Option (Int32 × St)) (S : St) (x0 : Int32) (x1 : Int32) : Option (Int32 × St) :=
  if (0 : Int32) < x1 then
    bnd ((nI 0)) (fun y1 =>
      bnd ((nI 0)) (fun y2 =>
        f_X6_rowsToEmpty_21 N fe N S x0 x1 y1 y2))
  else
    cal (f_X1_countOf N S x0) (fun r5 S3 =>
      if r5 = (0 : Int32) then
        some ((nI 1), S3)
      else
        some ((nI 0), S3))
def g_X6_rowsToEmpty (N : Nat) : Nat → St → Int32 → Int32 → Option (Int32 × St)
  | 0, _, _, _ => none
  | d + 1, S, x0, x1 => f_X6_rowsToEmpty N (g_X6_rowsToEmpty N d) S x0 x1
def f_X6_odds_63 (N : Nat) (S : St) (x2 : Int32) (x3 : Int32) (x4 : Int32) : Option (Int64 × St) :=
  if x2 = (0 : Int32) then
    some (x3.toInt64, S)
  else
    some (x4.toInt64, S)
def f_X6_odds_38 (N : Nat) : Nat → St → Int32 → Int32 → Int32 → Option (Int64 × St)
  | 0, _, _, _, _ => none
  | n + 1, S, x2, x3, x4 =>
    if x4 ≤ (nI 1) then
      f_X6_odds_63 N S x2 x3 x4
    else
      if (x3 - x3 / (nI 2) * (nI 2)) = (0 : Int32) then
        bnd (x3 / (nI 2)) (fun y1 =>
          bnd (x4 / (nI 2)) (fun y2 =>
            f_X6_odds_38 N n S x2 y1 y2))
      else
        f_X6_odds_63 N S x2 x3 x4
def f_X6_odds_22 (N : Nat) (S : St) (x1 : Int32) (x2 : Int32) : Option (Int64 × St) :=
  cal (g_X6_rowsToEmpty N 5 S (S 0 7) x1) (fun r3 S1 =>
    bnd ((nI 1) <<< (((nI 3) * x1) &&& (31 : Int32))) (fun y4 =>
      f_X6_odds_38 N N S1 x2 r3 y4))
def f_X6_odds (N : Nat) (S : St) (x1 : Int32) (x2 : Int32) : Option (Int64 × St) :=
  if x1 < (0 : Int32) then
    some ((-9223372036854775808 : Int64), S)
  else
    if (nI 4) < x1 then
      some ((-9223372036854775808 : Int64), S)
    else
      if x2 = (0 : Int32) then
        f_X6_odds_22 N S x1 x2
      else
        if x2 = (nI 1) then
          f_X6_odds_22 N S x1 x2
        else
          some ((-9223372036854775808 : Int64), S)
def f_X6_ofMacro (N : Nat) (S : St) (x1 : Int32) (x2 : Int32) : Option (Int32 × St) :=
  cal (f_X0_macroOf N S x1) (fun r3 S1 => opt r3 (
    some ((-1 : Int32), S1)
  ) (fun j4 => if j4 < 6 then
    bnd (x2) (fun y5 =>
      if y5 = (nI 0) then
        some (S1 (20 + j4) 0, S1)
      else
        if y5 = (nI 1) then
          some (S1 (20 + j4) 1, S1)
        else
          if y5 = (nI 2) then
            cal (f_X2_often N S1 j4) (fun r8 S6 =>
              some (r8, S6))
          else
            if y5 = (nI 3) then
              some (S1 (20 + j4) 2, S1)
            else
              if y5 = (nI 4) then
                cal (g_X0_pressesOf N 4 S1 x1) (fun r11 S9 =>
                  some (r11, S9))
              else
                some ((-2 : Int32), S1)) else none))
def f_X6_ofRow_76 (N : Nat) (k16 : St → Nat → Int32 → Int32 → Int32 → Int32 → Int32 → Int32 → Int32 → Option (Int32 × St)) (S : St) (j1 : Nat) (x2 : Int32) (x3 : Int32) (x4 : Int32) (x6 : Int32) (x7 : Int32) (x8 : Int32) (x10 : Int32) (x11 : Int32) : Option (Int32 × St) :=
  bnd (x6 + x11) (fun y1 =>
    cal (f_X0_lineOf N S x10) (fun r4 S2 =>
      bnd (x8 + (nI 1)) (fun y5 =>
        k16 S2 j1 x2 x3 x4 r4 y1 x7 y5)))
def f_X6_ofRow_16 (N : Nat) : Nat → St → Nat → Int32 → Int32 → Int32 → Int32 → Int32 → Int32 → Int32 → Option (Int32 × St)
  | 0, _, _, _, _, _, _, _, _, _ => none
  | n + 1, S, j1, x2, x3, x4, x5, x6, x7, x8 =>
    if x3 ≤ x8 then
      bnd (x4) (fun y1 =>
        if y1 = (nI 0) then
          cal (f_X1_countOf N S x5) (fun r4 S2 =>
            some (r4, S2))
        else
          if y1 = (nI 1) then
            cal (f_X1_cursorOf N S x5) (fun r7 S5 =>
              some (r7, S5))
          else
            if y1 = (nI 2) then
              some (x7, S)
            else
              if y1 = (nI 3) then
                some (x6, S)
              else
                if y1 = (nI 4) then
                  cal (f_X1_digitsOf N S x5) (fun r10 S8 =>
                    some (r10, S8))
                else
                  cal (f_X1_countOf N S x5) (fun r13 S11 =>
                    if r13 ≤ (x4 - (nI 10)) then
                      some ((-9 : Int32), S11)
                    else
                      cal (f_X1_letterAt N S11 x5 (x4 - (nI 10))) (fun r16 S14 =>
                        some (r16, S14))))
    else
      if inb (x2 + x8) 60 = true then
        bnd (S (16 + j1) (x2 + x8).toNatClampNeg) (fun y17 =>
          cal (g_X0_effectOf N 5 S x5 y17) (fun r20 S18 =>
            cal (f_X0_bumpsOf N S18 r20) (fun r23 S21 =>
              if x7 = (-9 : Int32) then
                if (nI 8) ≤ y17 then
                  f_X6_ofRow_76 N (f_X6_ofRow_16 N n) S21 j1 x2 x3 x4 x6 x7 x8 r20 r23
                else
                  if r23 ≤ (0 : Int32) then
                    f_X6_ofRow_76 N (f_X6_ofRow_16 N n) S21 j1 x2 x3 x4 x6 x7 x8 r20 r23
                  else
                    f_X6_ofRow_76 N (f_X6_ofRow_16 N n) S21 j1 x2 x3 x4 x6 x8 x8 r20 r23
              else
                f_X6_ofRow_76 N (f_X6_ofRow_16 N n) S21 j1 x2 x3 x4 x6 x7 x8 r20 r23))) else none
def f_X6_ofRow (N : Nat) (S : St) (j1 : Nat) (x2 : Int32) (x3 : Int32) (x4 : Int32) : Option (Int32 × St) :=
  bnd (S 0 7) (fun y1 =>
    bnd ((nI 0)) (fun y2 =>
      bnd ((-9 : Int32)) (fun y3 =>
        bnd ((nI 0)) (fun y4 =>
          f_X6_ofRow_16 N N S j1 x2 x3 x4 y1 y2 y3 y4))))
def f_X6_play (N : Nat) (S : St) (x1 : Int32) : Option (Int32 × St) :=
  cal (f_X0_macroOf N S x1) (fun r3 S1 => opt r3 (
    some ((-1 : Int32), S1)
  ) (fun j4 => if j4 < 6 then
    cal (g_X0_effectOf N 5 S1 (S1 0 7) ((nI 8) + x1)) (fun r7 S5 =>
      cal (f_X0_lineOf N S5 r7) (fun r10 S8 =>
        bnd (st S8 0 7 r10) (fun S11 =>
          bnd (st S11 0 8 ((S11 0 8) + (nI 1))) (fun S12 =>
            cal (f_X0_bumpsOf N S12 r7) (fun r15 S13 =>
              some (r15, S13)))))) else none))
def f_X6_press (N : Nat) (S : St) (x1 : Int32) : Option (Int32 × St) :=
  if x1 < (0 : Int32) then
    some ((-2 : Int32), S)
  else
    if x1 < (nI 8) then
      bnd (S 0 7) (fun y1 =>
        cal (f_X1_after N S y1 x1) (fun r4 S2 =>
          bnd (st S2 0 7 r4) (fun S5 =>
            bnd (st S5 0 8 ((S5 0 8) + (nI 1))) (fun S6 =>
              if (S6 0 7) = y1 then
                some ((nI 0), S6)
              else
                some ((nI 1), S6)))))
    else
      some ((-2 : Int32), S)
def f_X6_put (N : Nat) (S : St) (x1 : Int32) (x2 : Int32) (x3 : Int32) : Option (Int32 × St) :=
  bnd (st S 0 10 (nI 0)) (fun S1 =>
    cal (f_X6_sheetOf N S1 x1) (fun r4 S2 => opt r4 (
      some ((-1 : Int32), S2)
    ) (fun j5 => if j5 < 4 then
      cal (f_X5_faultOf N S2 j5 (S2 (12 + j5) 0) x2 (nI 1)) (fun r8 S6 =>
        if r8 = (0 : Int32) then
          cal (f_X5_cut N S6 j5 x3) (fun r11 S9 =>
            if inb x2 60 = true then
              bnd (st S9 (16 + j5) x2.toNatClampNeg r11) (fun S12 =>
                some ((nI 1), S12)) else none)
        else
          cal (f_X6_meet N S6 r8) (fun r15 S13 =>
            some (r15, S13))) else none)))
def f_X6_reading (N : Nat) (S : St) (x1 : Int32) (x2 : Int32) : Option (Int32 × St) :=
  cal (f_X0_macroOf N S x1) (fun r3 S1 => opt r3 (
    some ((-1 : Int32), S1)
  ) (fun j4 => if j4 < 6 then
    if x2 < (0 : Int32) then
      some ((-2 : Int32), S1)
    else
      if x2 ≤ (nI 5) then
        if (S1 0 6) < (nI 8) then
          if inb (S1 0 6) 8 = true then
            bnd (st S1 10 (S1 0 6).toNatClampNeg x1) (fun S5 =>
              if inb (S5 0 6) 8 = true then
                bnd (st S5 11 (S5 0 6).toNatClampNeg x2) (fun S6 =>
                  bnd (st S6 0 6 ((S6 0 6) + (nI 1))) (fun S7 =>
                    some (S6 0 6, S7))) else none) else none
        else
          some ((-4 : Int32), S1)
      else
        some ((-2 : Int32), S1) else none))
def f_X6_row (N : Nat) (S : St) (x1 : Int32) (x2 : Int32) (x3 : Int32) (x4 : Int32) (x5 : Int32) : Option (Int32 × St) :=
  bnd (st S 0 10 (nI 0)) (fun S1 =>
    cal (f_X6_sheetOf N S1 x1) (fun r4 S2 => opt r4 (
      some ((-1 : Int32), S2)
    ) (fun j5 => if j5 < 4 then
      cal (f_X6_isLane N S2 x2) (fun r8 S6 =>
        if r8 = (0 : Int32) then
          some ((-2 : Int32), S6)
        else
          if x4 < (0 : Int32) then
            some ((-2 : Int32), S6)
          else
            if (nI 20) < x4 then
              some ((-2 : Int32), S6)
            else
              cal (f_X6_isOfRow N S6 x5) (fun r11 S9 =>
                if r11 = (0 : Int32) then
                  some ((-2 : Int32), S9)
                else
                  cal (f_X5_faultOf N S9 j5 x2 x3 x4) (fun r14 S12 =>
                    if r14 = (0 : Int32) then
                      cal (f_X5_allWithin N S12 j5 x3 x4 (nI 10)) (fun r17 S15 =>
                        if r17 = (0 : Int32) then
                          some ((-2 : Int32), S15)
                        else
                          cal (f_X0_keysThereAre N S15) (fun r20 S18 =>
                            cal (f_X5_allWithin N S18 j5 x3 x4 (r20 - (nI 1))) (fun r23 S21 =>
                              if r23 = (0 : Int32) then
                                some ((-1 : Int32), S21)
                              else
                                cal (f_X6_ofRow N S21 j5 x3 x4 x5) (fun r26 S24 =>
                                  some (r26, S24)))))
                    else
                      cal (f_X6_meet N S12 r14) (fun r29 S27 =>
                        some (r29, S27))))) else none)))
def f_X6_sheet (N : Nat) (S : St) (x1 : Int32) (x2 : Int32) (x3 : Int32) : Option (Int32 × St) :=
  bnd (st S 0 10 (nI 0)) (fun S1 =>
    cal (f_X6_sheetOf N S1 x1) (fun r4 S2 => opt r4 (
      some ((-1 : Int32), S2)
    ) (fun j5 => if j5 < 4 then
      cal (f_X6_isLane N S2 x2) (fun r8 S6 =>
        if r8 = (0 : Int32) then
          some ((-2 : Int32), S6)
        else
          if x3 ≤ (nI 60) then
            if (0 : Int32) ≤ x3 then
              cal (f_X5_renew N S6 j5 x2 x3) (fun _ S9 =>
                some ((nI 1), S9))
            else
              cal (f_X6_meet N S6 (nI 4)) (fun r14 S12 =>
                some (r14, S12))
          else
            some ((-2 : Int32), S6)) else none)))
def f_X6_still_17 (N : Nat) : Nat → St → Int32 → Int32 → Int32 → Option (Int32 × St)
  | 0, _, _, _, _ => none
  | n + 1, S, x1, x2, x3 =>
    if (nI 7737) ≤ x3 then
      some (x2, S)
    else
      cal (f_X0_lineAfter N S x3 x1) (fun r3 S1 =>
        if r3 = x3 then
          bnd (x2 + (nI 1)) (fun y5 =>
            bnd (x3 + (nI 1)) (fun y6 =>
              f_X6_still_17 N n S1 x1 y5 y6))
        else
          bnd (x3 + (nI 1)) (fun y4 =>
            f_X6_still_17 N n S1 x1 x2 y4))
def f_X6_still (N : Nat) (S : St) (x1 : Int32) : Option (Int32 × St) :=
  cal (f_X0_isKey N S x1) (fun r3 S1 =>
    if r3 = (0 : Int32) then
      some ((-1 : Int32), S1)
    else
      bnd ((nI 0)) (fun y4 =>
        bnd ((nI 0)) (fun y5 =>
          f_X6_still_17 N N S1 x1 y4 y5)))
def f_X6_tell (N : Nat) (S : St) (x1 : Int32) : Option (Int32 × St) :=
  cal (f_X0_macroOf N S x1) (fun r3 S1 => opt r3 (
    some ((-1 : Int32), S1)
  ) (fun j4 => if j4 < 6 then
    bnd (S1 (20 + j4) 0) (fun y5 =>
      if y5 = (nI 1) then
        cal (f_X6_broadTells N S1 j4) (fun r8 S6 =>
          some (r8, S6))
      else
        if y5 = (nI 2) then
          cal (f_X6_evenTells N S1 j4) (fun r11 S9 =>
            some (r11, S9))
        else
          cal (f_X6_plainTells N S1 j4) (fun r14 S12 =>
            some (r14, S12))) else none))
def f_X6_times (N : Nat) (S : St) (x1 : Int32) (x2 : Int32) : Option (Int32 × St) :=
  cal (f_X0_macroOf N S x1) (fun r3 S1 => opt r3 (
    some ((-1 : Int32), S1)
  ) (fun j4 => if j4 < 6 then
    if x2 < (nI 1) then
      some ((-2 : Int32), S1)
    else
      if x2 ≤ (nI 3) then
        bnd (S1 (20 + j4) 1) (fun y5 =>
          cal (f_X0_change N S1 x1 (S1 (20 + j4) 0) x2) (fun _ S6 =>
            some (y5, S6)))
      else
        some ((-2 : Int32), S1) else none))
def f_X6_timings_26 (N : Nat) : Nat → St → Int32 → Nat → Int32 → Int32 → Int32 → Option (Int32 × St)
  | 0, _, _, _, _, _, _ => none
  | n + 1, S, x1, j2, x3, x4, x5 =>
    if (nI 3) < x5 then
      cal (f_X0_change N S x1 (S (20 + j2) 0) x3) (fun _ S1 =>
        some (x4, S1))
    else
      cal (f_X0_change N S x1 (S (20 + j2) 0) x5) (fun _ S4 =>
        cal (f_X6_readingsAreSo N S4) (fun r9 S7 =>
          if r9 = (0 : Int32) then
            bnd (x4 ||| (nI 0)) (fun y10 =>
              bnd (x5 + (nI 1)) (fun y11 =>
                f_X6_timings_26 N n S7 x1 j2 x3 y10 y11))
          else
            bnd (x4 ||| ((nI 1) <<< (x5 &&& (31 : Int32)))) (fun y12 =>
              bnd (x5 + (nI 1)) (fun y13 =>
                f_X6_timings_26 N n S7 x1 j2 x3 y12 y13))))
def f_X6_timings (N : Nat) (S : St) (x1 : Int32) : Option (Int32 × St) :=
  cal (f_X0_macroOf N S x1) (fun r3 S1 => opt r3 (
    some ((-1 : Int32), S1)
  ) (fun j4 => if j4 < 6 then
    bnd (S1 (20 + j4) 1) (fun y5 =>
      bnd ((nI 0)) (fun y6 =>
        bnd ((nI 1)) (fun y7 =>
          f_X6_timings_26 N N S1 x1 j4 y5 y6 y7))) else none))
def f_X6_trace (N : Nat) (S : St) : Option (Int32 × St) :=
  some (S 0 9, S)
def f_X7_linesBelow_6 (N : Nat) : Nat → St → Int32 → Int32 → Int32 → Int32 → Option (Int32 × St)
  | 0, _, _, _, _, _ => none
  | n + 1, S, x0, x1, x2, x3 =>
    if x0 ≤ x3 then
      some (x1, S)
    else
      bnd (x1 + (x2 * (x3 + (nI 1)))) (fun y1 =>
        bnd (x2 * (nI 4)) (fun y2 =>
          bnd (x3 + (nI 1)) (fun y3 =>
            f_X7_linesBelow_6 N n S x0 y1 y2 y3)))
def f_X7_linesBelow (N : Nat) (S : St) (x0 : Int32) : Option (Int32 × St) :=
  bnd ((nI 0)) (fun y1 =>
    bnd ((nI 1)) (fun y2 =>
      bnd ((nI 0)) (fun y3 =>
        f_X7_linesBelow_6 N N S x0 y1 y2 y3)))
def f_X7_lineNumber_4 (N : Nat) : Nat → St → Int32 → Int32 → Option (Int32 × St)
  | 0, _, _, _ => none
  | n + 1, S, x1, x2 =>
    if (S 32 20) ≤ x2 then
      cal (f_X7_linesBelow N S (S 32 20)) (fun r3 S1 =>
        some ((r3 + (x1 * ((S1 32 20) + (nI 1)))) + (S1 32 21), S1))
    else
      if inb x2 5 = true then
        bnd (((nI 4) * x1) + (S 45 x2.toNatClampNeg)) (fun y4 =>
          bnd (x2 + (nI 1)) (fun y5 =>
            f_X7_lineNumber_4 N n S y4 y5)) else none
def f_X7_lineNumber (N : Nat) (S : St) : Option (Int32 × St) :=
  bnd ((nI 0)) (fun y1 =>
    bnd ((nI 0)) (fun y2 =>
      f_X7_lineNumber_4 N N S y1 y2))
def f_X7_oftenOf (N : Nat) (S : St) (x1 : Int32) : Option (Int32 × St) :=
  if inb x1 3 = true then
    if (S 36 x1.toNatClampNeg) = (0 : Int32) then
      if inb x1 3 = true then
        some (S 37 x1.toNatClampNeg, S) else none
    else
      if inb x1 3 = true then
        if (S 36 x1.toNatClampNeg) = (nI 1) then
          if inb x1 3 = true then
            some ((S 37 x1.toNatClampNeg) + (nI 1), S) else none
        else
          if inb x1 3 = true then
            some ((nI 2) * (S 37 x1.toNatClampNeg), S) else none else none else none
def f_X7_madeBy_22 (N : Nat) (k12 : St → Int32 → Int32 → Int32 → Int32 → Option (Int32 × St)) : Nat → St → Int32 → Int32 → Int32 → Int32 → Int32 → Option (Int32 × St)
  | 0, _, _, _, _, _, _ => none
  | n + 1, S, x1, x3, x4, x5, x6 =>
    if inb x1 3 = true then
      if (S 38 x1.toNatClampNeg) ≤ x6 then
        bnd (x5 + (nI 1)) (fun y1 =>
          k12 S x1 x3 x4 y1)
      else
        if inb (((nI 4) * x1) + x6) 12 = true then
          if inb (((nI 7737) * (S 39 (((nI 4) * x1) + x6).toNatClampNeg)) + x3) 85107 = true then
            bnd (S 49 (((nI 7737) * (S 39 (((nI 4) * x1) + x6).toNatClampNeg)) + x3).toNatClampNeg) (fun y2 =>
              bnd (x6 + (nI 1)) (fun y3 =>
                f_X7_madeBy_22 N k12 n S x1 y2 x4 x5 y3)) else none else none else none
def f_X7_madeBy_12 (N : Nat) : Nat → St → Int32 → Int32 → Int32 → Int32 → Option (Int32 × St)
  | 0, _, _, _, _, _ => none
  | n + 1, S, x1, x3, x4, x5 =>
    if x4 ≤ x5 then
      some (x3, S)
    else
      bnd ((nI 0)) (fun y1 =>
        f_X7_madeBy_22 N (f_X7_madeBy_12 N n) N S x1 x3 x4 x5 y1)
def f_X7_madeBy (N : Nat) (S : St) (x1 : Int32) (x2 : Int32) : Option (Int32 × St) :=
  cal (f_X7_oftenOf N S x1) (fun r3 S1 =>
    bnd ((nI 0)) (fun y4 =>
      f_X7_madeBy_12 N N S1 x1 x2 r3 y4))
def f_X7_takes_14 (N : Nat) : Nat → St → Int32 → Option (Int32 × St)
  | 0, _, _ => none
  | n + 1, S, x1 =>
    if (S 32 20) ≤ x1 then
      bnd (st S 32 20 ((S 32 20) - (nI 1))) (fun S1 =>
        bnd (st S1 32 21 ((S1 32 21) - (nI 1))) (fun S2 =>
          some ((nI 1), S2)))
    else
      if inb x1 5 = true then
        if inb (x1 - (nI 1)) 5 = true then
          bnd (st S 45 (x1 - (nI 1)).toNatClampNeg (S 45 x1.toNatClampNeg)) (fun S3 =>
            bnd (x1 + (nI 1)) (fun y4 =>
              f_X7_takes_14 N n S3 y4)) else none else none
def f_X7_takes (N : Nat) (S : St) : Option (Int32 × St) :=
  if (S 32 21) = (0 : Int32) then
    some ((nI 0), S)
  else
    bnd (S 32 21) (fun y1 =>
      f_X7_takes_14 N N S y1)
def f_X7_types_15 (N : Nat) : Nat → St → Int32 → Int32 → Option (Int32 × St)
  | 0, _, _, _ => none
  | n + 1, S, x1, x2 =>
    if x2 ≤ (S 32 21) then
      if inb (S 32 21) 5 = true then
        bnd (st S 45 (S 32 21).toNatClampNeg x1) (fun S1 =>
          bnd (st S1 32 20 ((S1 32 20) + (nI 1))) (fun S2 =>
            bnd (st S2 32 21 ((S2 32 21) + (nI 1))) (fun S3 =>
              some ((nI 1), S3)))) else none
    else
      if inb (x2 - (nI 1)) 5 = true then
        if inb x2 5 = true then
          bnd (st S 45 x2.toNatClampNeg (S 45 (x2 - (nI 1)).toNatClampNeg)) (fun S4 =>
            bnd (x2 + (-1 : Int32)) (fun y5 =>
              f_X7_types_15 N n S4 x1 y5)) else none else none
def f_X7_types (N : Nat) (S : St) (x1 : Int32) : Option (Int32 × St) :=
  if (S 32 20) = (nI 5) then
    some ((nI 0), S)
  else
    bnd (S 32 20) (fun y1 =>
      f_X7_types_15 N N S x1 y1)
def f_X7_does_76 (N : Nat) (S : St) (x1 : Int32) (xs0 : Int32) : Option (Int32 × St) :=
  if x1 = (nI 7) then
    bnd (st S 32 21 (nI 0)) (fun S1 =>
      if nb xs0 = true then
        some (xs0, S1) else none)
  else
    if xs0 = (0 : Int32) then
      bnd (st S 32 21 (nI 0)) (fun S3 =>
        if nb xs0 = true then
          some (xs0, S3) else none)
    else
      bnd (st S 32 21 ((S 32 21) - (nI 1))) (fun S2 =>
        if nb xs0 = true then
          some (xs0, S2) else none)
def f_X7_does_43 (N : Nat) (S : St) (xs0 : Int32) : Option (Int32 × St) :=
  if xs0 = (0 : Int32) then
    bnd (st S 32 21 ((S 32 21) + (nI 0))) (fun S1 =>
      if nb xs0 = true then
        some (xs0, S1) else none)
  else
    bnd (st S 32 21 ((S 32 21) + (nI 1))) (fun S2 =>
      if nb xs0 = true then
        some (xs0, S2) else none)
def f_X7_does (N : Nat) (S : St) (x1 : Int32) : Option (Int32 × St) :=
  if (nI 4) ≤ x1 then
    if x1 = (nI 6) then
      cal (f_X7_takes N S) (fun r3 S1 =>
        if nb r3 = true then
          some (r3, S1) else none)
    else
      if x1 = (nI 5) then
        if (S 32 20) ≤ (S 32 21) then
          f_X7_does_43 N S (nI 0)
        else
          f_X7_does_43 N S (nI 1)
      else
        if (S 32 21) ≤ (0 : Int32) then
          f_X7_does_76 N S x1 (nI 0)
        else
          f_X7_does_76 N S x1 (nI 1)
  else
    cal (f_X7_types N S x1) (fun r6 S4 =>
      if nb r6 = true then
        some (r6, S4) else none)
def f_X7_presses (N : Nat) (S : St) (x1 : Int32) : Option (Int32 × St) :=
  cal (f_X7_does N S x1) (fun r3 S1 =>
    if r3 = (0 : Int32) then
      bnd (st S1 32 22 ((S1 32 22) + (nI 1))) (fun S4 =>
        if nb r3 = true then
          some (r3, S4) else none)
    else
      bnd (st S1 32 22 ((S1 32 22) + (nI 0))) (fun S5 =>
        if nb r3 = true then
          some (r3, S5) else none))
def f_X7_workOn_77 (N : Nat) : Nat → St → Int32 → Int32 → Option (Unit × St)
  | 0, _, _, _ => none
  | n + 1, S, x2, x3 =>
    if x3 < (0 : Int32) then
      some ((), S)
    else
      if inb x3 5 = true then
        bnd (st S 45 x3.toNatClampNeg (x2 - x2 / (nI 4) * (nI 4))) (fun S1 =>
          bnd (x2 / (nI 4)) (fun y2 =>
            bnd (x3 + (-1 : Int32)) (fun y3 =>
              f_X7_workOn_77 N n S1 y2 y3))) else none
def f_X7_workOn_39 (N : Nat) (S : St) (x1 : Int32) : Option (Unit × St) :=
  cal (f_X7_linesBelow N S (S 32 20)) (fun r3 S1 =>
    bnd (x1 - r3) (fun y4 =>
      if ¬ ((S1 32 20) + (nI 1)) = (0 : Int32) then
        bnd (st S1 32 21 (y4 - y4 / ((S1 32 20) + (nI 1)) * ((S1 32 20) + (nI 1)))) (fun S5 =>
          if ¬ ((S5 32 20) + (nI 1)) = (0 : Int32) then
            bnd (y4 / ((S5 32 20) + (nI 1))) (fun y6 =>
              bnd ((S5 32 20) - (nI 1)) (fun y7 =>
                f_X7_workOn_77 N N S5 y6 y7)) else none) else none))
def f_X7_workOn_5 (N : Nat) : Nat → St → Int32 → Option (Unit × St)
  | 0, _, _ => none
  | n + 1, S, x1 =>
    if (nI 5) ≤ (S 32 20) then
      f_X7_workOn_39 N S x1
    else
      cal (f_X7_linesBelow N S ((S 32 20) + (nI 1))) (fun r3 S1 =>
        if x1 < r3 then
          f_X7_workOn_39 N S1 x1
        else
          bnd (st S1 32 20 ((S1 32 20) + (nI 1))) (fun S4 =>
            f_X7_workOn_5 N n S4 x1))
def f_X7_workOn (N : Nat) (S : St) (x1 : Int32) : Option (Unit × St) :=
  bnd (st S 32 20 (nI 0)) (fun S1 =>
    f_X7_workOn_5 N N S1 x1)
def f_X7_findMakes_87 (N : Nat) (k70 : St → Int32 → Option (Unit × St)) : Nat → St → Int32 → Int32 → Option (Unit × St)
  | 0, _, _, _ => none
  | n + 1, S, x1, x2 =>
    if (nI 7737) ≤ x2 then
      bnd (x1 + (nI 1)) (fun y1 =>
        k70 S y1)
    else
      cal (f_X7_madeBy N S x1 x2) (fun r4 S2 =>
        if inb (((nI 7737) * ((nI 8) + x1)) + x2) 85107 = true then
          bnd (st S2 49 (((nI 7737) * ((nI 8) + x1)) + x2).toNatClampNeg r4) (fun S5 =>
            bnd (x2 + (nI 1)) (fun y6 =>
              f_X7_findMakes_87 N k70 n S5 x1 y6)) else none)
def f_X7_findMakes_70 (N : Nat) : Nat → St → Int32 → Option (Unit × St)
  | 0, _, _ => none
  | n + 1, S, x1 =>
    if (S 32 5) ≤ x1 then
      bnd (st S 32 27 (nI 1)) (fun S1 =>
        some ((), S1))
    else
      if (S 32 27) = (0 : Int32) then
        bnd ((nI 0)) (fun y3 =>
          f_X7_findMakes_87 N (f_X7_findMakes_70 N n) N S x1 y3)
      else
        bnd (st S 32 27 (nI 1)) (fun S2 =>
          some ((), S2))
def f_X7_findMakes_17 (N : Nat) (k2 : St → Int32 → Option (Unit × St)) : Nat → St → Int32 → Int32 → Option (Unit × St)
  | 0, _, _, _ => none
  | n + 1, S, x1, x2 =>
    if (nI 7737) ≤ x2 then
      bnd (x1 + (nI 1)) (fun y1 =>
        k2 S y1)
    else
      cal (f_X7_workOn N S x2) (fun _ S2 =>
        cal (f_X7_presses N S2 x1) (fun r7 S5 =>
          cal (f_X7_lineNumber N S5) (fun r10 S8 =>
            if inb (((nI 7737) * x1) + x2) 85107 = true then
              bnd (st S8 49 (((nI 7737) * x1) + x2).toNatClampNeg r10) (fun S11 =>
                bnd (x2 + (nI 1)) (fun y12 =>
                  f_X7_findMakes_17 N k2 n S11 x1 y12)) else none)))
def f_X7_findMakes_2 (N : Nat) : Nat → St → Int32 → Option (Unit × St)
  | 0, _, _ => none
  | n + 1, S, x1 =>
    if (nI 8) ≤ x1 then
      bnd (st S 32 28 (nI 1)) (fun S1 =>
        bnd ((nI 0)) (fun y2 =>
          f_X7_findMakes_70 N N S1 y2))
    else
      if (S 32 28) = (0 : Int32) then
        bnd ((nI 0)) (fun y5 =>
          f_X7_findMakes_17 N (f_X7_findMakes_2 N n) N S x1 y5)
      else
        bnd (st S 32 28 (nI 1)) (fun S3 =>
          bnd ((nI 0)) (fun y4 =>
            f_X7_findMakes_70 N N S3 y4))
def f_X7_findMakes (N : Nat) (S : St) : Option (Unit × St) :=
  bnd ((nI 0)) (fun y1 =>
    f_X7_findMakes_2 N N S y1)
def f_X7_isMacro (N : Nat) (S : St) (x1 : Int32) : Option (Int32 × St) :=
  if x1 < (0 : Int32) then
    some ((nI 0), S)
  else
    if (S 32 5) ≤ x1 then
      some ((nI 0), S)
    else
      some ((nI 1), S)
def f_X7_within (N : Nat) (S : St) (x0 : Int32) (x1 : Int32) (x2 : Int32) : Option (Int32 × St) :=
  if x0 < x1 then
    some ((nI 0), S)
  else
    if x2 < x0 then
      some ((nI 0), S)
    else
      some ((nI 1), S)
def f_X7_again_57 (N : Nat) : Nat → St → Int32 → Int32 → Int32 → Int32 → Option (Int32 × St)
  | 0, _, _, _, _, _ => none
  | n + 1, S, x1, x2, x3, x4 =>
    if inb x3 7737 = true then
      if (S 51 x3.toNatClampNeg) = (-9 : Int32) then
        if inb x3 7737 = true then
          bnd (st S 51 x3.toNatClampNeg x4) (fun S1 =>
            bnd (x4 + (nI 1)) (fun y2 =>
              if inb (((nI 7737) * ((nI 8) + x1)) + x3) 85107 = true then
                bnd (S1 49 (((nI 7737) * ((nI 8) + x1)) + x3).toNatClampNeg) (fun y3 =>
                  f_X7_again_57 N n S1 x1 x2 y3 y2) else none)) else none
      else
        if x2 = (0 : Int32) then
          if inb x3 7737 = true then
            some (S 51 x3.toNatClampNeg, S) else none
        else
          if inb x3 7737 = true then
            some (x4 - (S 51 x3.toNatClampNeg), S) else none else none
def f_X7_again_28 (N : Nat) : Nat → St → Int32 → Int32 → Int32 → Option (Int32 × St)
  | 0, _, _, _, _ => none
  | n + 1, S, x1, x2, x3 =>
    if (nI 7737) ≤ x3 then
      bnd (S 32 7) (fun y1 =>
        bnd ((nI 0)) (fun y2 =>
          f_X7_again_57 N N S x1 x2 y1 y2))
    else
      if inb x3 7737 = true then
        bnd (st S 51 x3.toNatClampNeg (-9 : Int32)) (fun S3 =>
          bnd (x3 + (nI 1)) (fun y4 =>
            f_X7_again_28 N n S3 x1 x2 y4)) else none
def f_X7_again (N : Nat) (S : St) (x1 : Int32) (x2 : Int32) : Option (Int32 × St) :=
  cal (f_X7_isMacro N S x1) (fun r3 S1 =>
    if r3 = (0 : Int32) then
      some ((-1 : Int32), S1)
    else
      cal (f_X7_within N S1 x2 (nI 0) (nI 1)) (fun r6 S4 =>
        if r6 = (0 : Int32) then
          some ((-2 : Int32), S4)
        else
          cal (f_X7_findMakes N S4) (fun _ S7 =>
            bnd ((nI 0)) (fun y10 =>
              f_X7_again_28 N N S7 x1 x2 y10))))
def f_X7_against_23 (N : Nat) (S : St) (x1 : Int32) (x3 : Int32) (x4 : Int32) : Option (Int32 × St) :=
  if inb x1 4 = true then
    if (S 33 x1.toNatClampNeg) = (-9 : Int32) then
      some ((nI 1), S)
    else
      if (0 : Int32) ≤ x4 then
        if x3 < (0 : Int32) then
          some ((nI 3), S)
        else
          if inb x1 4 = true then
            if (S 34 x1.toNatClampNeg) < x3 then
              some ((nI 3), S)
            else
              if inb x1 4 = true then
                if x4 ≤ ((S 34 x1.toNatClampNeg) - x3) then
                  some ((nI 0), S)
                else
                  some ((nI 3), S) else none else none
      else
        some ((nI 4), S) else none
def f_X7_against (N : Nat) (S : St) (x1 : Int32) (x2 : Int32) (x3 : Int32) (x4 : Int32) : Option (Int32 × St) :=
  if inb x1 4 = true then
    if (S 33 x1.toNatClampNeg) = (-9 : Int32) then
      f_X7_against_23 N S x1 x3 x4
    else
      if inb x1 4 = true then
        if (S 33 x1.toNatClampNeg) = x2 then
          f_X7_against_23 N S x1 x3 x4
        else
          some ((nI 2), S) else none else none
def f_X7_plays_70 (N : Nat) (k27 : St → Int32 → Option (Unit × St)) (S : St) (x2 : Int32) (x3 : Int32) : Option (Unit × St) :=
  if inb x2 3 = true then
    if (S 47 x2.toNatClampNeg) = (0 : Int32) then
      bnd (x2 + (-1 : Int32)) (fun y13 =>
        k27 S y13)
    else
      if inb x2 3 = true then
        if inb (((nI 4) * x3) + (S 48 x2.toNatClampNeg)) 12 = true then
          bnd (S 39 (((nI 4) * x3) + (S 48 x2.toNatClampNeg)).toNatClampNeg) (fun y1 =>
            if inb x2 3 = true then
              if inb x2 3 = true then
                bnd (st S 48 x2.toNatClampNeg ((S 48 x2.toNatClampNeg) + (nI 1))) (fun S2 =>
                  if (nI 8) ≤ y1 then
                    bnd (x2 + (nI 1)) (fun y3 =>
                      if inb y3 3 = true then
                        bnd (st S2 46 y3.toNatClampNeg (y1 - (nI 8))) (fun S4 =>
                          if inb y3 3 = true then
                            cal (f_X7_oftenOf N S4 (S4 46 y3.toNatClampNeg)) (fun r7 S5 =>
                              if inb y3 3 = true then
                                bnd (st S5 47 y3.toNatClampNeg r7) (fun S8 =>
                                  if inb y3 3 = true then
                                    bnd (st S8 48 y3.toNatClampNeg (nI 0)) (fun S9 =>
                                      k27 S9 y3) else none) else none) else none) else none)
                  else
                    cal (f_X7_presses N S2 y1) (fun r12 S10 =>
                      k27 S10 x2)) else none else none) else none else none else none
def f_X7_plays_27 (N : Nat) : Nat → St → Int32 → Option (Unit × St)
  | 0, _, _ => none
  | n + 1, S, x2 =>
    if x2 < (0 : Int32) then
      some ((), S)
    else
      if inb x2 3 = true then
        bnd (S 46 x2.toNatClampNeg) (fun y1 =>
          if inb x2 3 = true then
            if inb y1 3 = true then
              if (S 48 x2.toNatClampNeg) = (S 38 y1.toNatClampNeg) then
                if inb x2 3 = true then
                  bnd (st S 48 x2.toNatClampNeg (nI 0)) (fun S2 =>
                    if inb x2 3 = true then
                      if inb x2 3 = true then
                        bnd (st S2 47 x2.toNatClampNeg ((S2 47 x2.toNatClampNeg) - (nI 1))) (fun S3 =>
                          f_X7_plays_70 N (f_X7_plays_27 N n) S3 x2 y1) else none else none) else none
              else
                f_X7_plays_70 N (f_X7_plays_27 N n) S x2 y1 else none else none) else none
def f_X7_plays (N : Nat) (S : St) (x1 : Int32) : Option (Unit × St) :=
  bnd ((nI 0)) (fun y1 =>
    if inb (nI 0) 3 = true then
      bnd (st S 46 (nI 0).toNatClampNeg x1) (fun S2 =>
        cal (f_X7_oftenOf N S2 x1) (fun r5 S3 =>
          if inb (nI 0) 3 = true then
            bnd (st S3 47 (nI 0).toNatClampNeg r5) (fun S6 =>
              if inb (nI 0) 3 = true then
                bnd (st S6 48 (nI 0).toNatClampNeg (nI 0)) (fun S7 =>
                  f_X7_plays_27 N N S7 y1) else none) else none)) else none)
def f_X7_areSo_2 (N : Nat) : Nat → St → Int32 → Option (Int32 × St)
  | 0, _, _ => none
  | n + 1, S, x1 =>
    if (S 32 32) ≤ x1 then
      some ((nI 1), S)
    else
      cal (f_X7_workOn N S (nI 0)) (fun _ S1 =>
        if inb x1 8 = true then
          cal (f_X7_plays N S1 (S1 52 x1.toNatClampNeg)) (fun _ S4 =>
            if inb x1 8 = true then
              if (S4 32 20) = (S4 53 x1.toNatClampNeg) then
                bnd (x1 + (nI 1)) (fun y7 =>
                  f_X7_areSo_2 N n S4 y7)
              else
                some ((nI 0), S4) else none) else none)
def f_X7_areSo (N : Nat) (S : St) : Option (Int32 × St) :=
  bnd ((nI 0)) (fun y1 =>
    f_X7_areSo_2 N N S y1)
def f_X7_fails (N : Nat) (S : St) (x1 : Int32) : Option (Int32 × St) :=
  bnd (st S 32 0 x1) (fun S1 =>
    some ((-10 : Int32) - x1, S1))
def f_X7_as (N : Nat) (S : St) (x1 : Int32) (x2 : Int32) : Option (Int32 × St) :=
  bnd (st S 32 0 (nI 0)) (fun S1 =>
    cal (f_X7_isMacro N S1 x1) (fun r4 S2 =>
      if r4 = (0 : Int32) then
        some ((-1 : Int32), S2)
      else
        cal (f_X7_within N S2 x2 (nI 0) (nI 2)) (fun r7 S5 =>
          if r7 = (0 : Int32) then
            some ((-2 : Int32), S5)
          else
            if inb x1 3 = true then
              if (S5 36 x1.toNatClampNeg) < x2 then
                cal (f_X7_fails N S5 (nI 2)) (fun r10 S8 =>
                  some (r10, S8))
              else
                some ((nI 1), S5) else none)))
def f_X7_back (N : Nat) (S : St) (x1 : Int32) : Option (Int32 × St) :=
  cal (f_X7_within N S x1 (nI 0) (S 32 32)) (fun r3 S1 =>
    if r3 = (0 : Int32) then
      some ((-2 : Int32), S1)
    else
      bnd (st S1 32 32 ((S1 32 32) - x1)) (fun S4 =>
        some (S4 32 32, S4)))
def f_X7_begins (N : Nat) (S : St) (x1 : Int32) : Option (Unit × St) :=
  bnd (st S 32 1 (((nI 31) * (S 32 1)) + x1)) (fun S1 =>
    some ((), S1))
def f_X7_isSheet (N : Nat) (S : St) (x0 : Int32) : Option (Int32 × St) :=
  cal (f_X7_within N S x0 (nI 0) (nI 3)) (fun r3 S1 =>
    if nb r3 = true then
      some (r3, S1) else none)
def f_X7_isSort (N : Nat) (S : St) (x0 : Int32) : Option (Int32 × St) :=
  cal (f_X7_within N S x0 (nI 0) (nI 2)) (fun r3 S1 =>
    if nb r3 = true then
      some (r3, S1) else none)
def f_X7_lost (N : Nat) (S : St) (x1 : Int32) : Option (Int64 × St) :=
  bnd (st S 32 0 x1) (fun S1 =>
    some ((-9223372036854775808 : Int64), S1))
def f_X7_cell_50 (N : Nat) (S : St) (x1 : Int32) (x2 : Int32) : Option (Int64 × St) :=
  if inb x1 4 = true then
    if (S 33 x1.toNatClampNeg) = (-9 : Int32) then
      cal (f_X7_lost N S (nI 1)) (fun r9 S7 =>
        some (r9, S7))
    else
      if inb x1 4 = true then
        cal (f_X7_within N S x2 (nI 0) ((S 34 x1.toNatClampNeg) - (nI 1))) (fun r3 S1 =>
          if r3 = (0 : Int32) then
            cal (f_X7_lost N S1 (nI 3)) (fun r6 S4 =>
              some (r6, S4))
          else
            if inb (((nI 60) * x1) + x2) 240 = true then
              some ((S1 35 (((nI 60) * x1) + x2).toNatClampNeg).toInt64, S1) else none) else none else none
def f_X7_cell (N : Nat) (S : St) (x1 : Int32) (x2 : Int32) (x3 : Int32) : Option (Int64 × St) :=
  bnd (st S 32 0 (nI 0)) (fun S1 =>
    cal (f_X7_isSheet N S1 x1) (fun r4 S2 =>
      if r4 = (0 : Int32) then
        some ((-9223372036854775808 : Int64), S2)
      else
        cal (f_X7_isSort N S2 x3) (fun r7 S5 =>
          if r7 = (0 : Int32) then
            some ((-9223372036854775808 : Int64), S5)
          else
            if inb x1 4 = true then
              if (S5 33 x1.toNatClampNeg) = (-9 : Int32) then
                f_X7_cell_50 N S5 x1 x2
              else
                if inb x1 4 = true then
                  if (S5 33 x1.toNatClampNeg) = x3 then
                    f_X7_cell_50 N S5 x1 x2
                  else
                    cal (f_X7_lost N S5 (nI 2)) (fun r10 S8 =>
                      some (r10, S8)) else none else none)))
def f_X7_clear (N : Nat) (S : St) : Option (Int32 × St) :=
  cal (f_X7_workOn N S (S 32 7)) (fun _ S1 =>
    bnd (st S1 32 7 (nI 0)) (fun S4 =>
      some (S4 32 20, S4)))
def f_X7_click_26 (N : Nat) (S : St) (x1 : Int32) (xs0 : Int32) : Option (Int32 × St) :=
  cal (f_X7_begins N S xs0) (fun _ S1 =>
    if inb x1 3 = true then
      if (S1 36 x1.toNatClampNeg) = (nI 2) then
        some ((nI 90), S1)
      else
        if inb x1 3 = true then
          some (S1 38 x1.toNatClampNeg, S1) else none else none)
def f_X7_click (N : Nat) (S : St) (x1 : Int32) : Option (Int32 × St) :=
  cal (f_X7_isMacro N S x1) (fun r3 S1 =>
    if r3 = (0 : Int32) then
      some ((-1 : Int32), S1)
    else
      if inb x1 3 = true then
        if (S1 36 x1.toNatClampNeg) = (nI 2) then
          f_X7_click_26 N S1 x1 (nI 5)
        else
          f_X7_click_26 N S1 x1 (nI 4) else none)
def f_X7_keysThere (N : Nat) (S : St) : Option (Int32 × St) :=
  some ((nI 8) + (S 32 5), S)
def f_X7_come_58 (N : Nat) (k50 : St → Int32 → Int32 → Option (Int32 × St)) : Nat → St → Int32 → Int32 → Int32 → Option (Int32 × St)
  | 0, _, _, _, _ => none
  | n + 1, S, x1, x2, x3 =>
    cal (f_X7_keysThere N S) (fun r3 S1 =>
      if r3 ≤ x3 then
        bnd (x2 + (nI 1)) (fun y4 =>
          k50 S1 x1 y4)
      else
        if inb x2 7737 = true then
          if inb (((nI 7737) * x3) + (S1 50 x2.toNatClampNeg)) 85107 = true then
            bnd (S1 49 (((nI 7737) * x3) + (S1 50 x2.toNatClampNeg)).toNatClampNeg) (fun y5 =>
              if inb y5 7737 = true then
                if (S1 51 y5.toNatClampNeg) = (0 : Int32) then
                  if inb y5 7737 = true then
                    bnd (st S1 51 y5.toNatClampNeg (nI 1)) (fun S7 =>
                      if inb x1 7737 = true then
                        bnd (st S7 50 x1.toNatClampNeg y5) (fun S8 =>
                          bnd (x1 + (nI 1)) (fun y9 =>
                            bnd (x3 + (nI 1)) (fun y10 =>
                              f_X7_come_58 N k50 n S8 y9 x2 y10))) else none) else none
                else
                  bnd (x3 + (nI 1)) (fun y6 =>
                    f_X7_come_58 N k50 n S1 x1 x2 y6) else none) else none else none)
def f_X7_come_50 (N : Nat) : Nat → St → Int32 → Int32 → Option (Int32 × St)
  | 0, _, _, _ => none
  | n + 1, S, x1, x2 =>
    if x1 ≤ x2 then
      some (x1, S)
    else
      bnd ((nI 8)) (fun y1 =>
        f_X7_come_58 N (f_X7_come_50 N n) N S x1 x2 y1)
def f_X7_come_6 (N : Nat) : Nat → St → Int32 → Option (Int32 × St)
  | 0, _, _ => none
  | n + 1, S, x1 =>
    if (nI 7737) ≤ x1 then
      if inb (S 32 7) 7737 = true then
        bnd (st S 51 (S 32 7).toNatClampNeg (nI 1)) (fun S1 =>
          if inb (nI 0) 7737 = true then
            bnd (st S1 50 (nI 0).toNatClampNeg (S1 32 7)) (fun S2 =>
              bnd ((nI 1)) (fun y3 =>
                bnd ((nI 0)) (fun y4 =>
                  f_X7_come_50 N N S2 y3 y4))) else none) else none
    else
      if inb x1 7737 = true then
        bnd (st S 51 x1.toNatClampNeg (nI 0)) (fun S5 =>
          bnd (x1 + (nI 1)) (fun y6 =>
            f_X7_come_6 N n S5 y6)) else none
def f_X7_come (N : Nat) (S : St) : Option (Int32 × St) :=
  cal (f_X7_findMakes N S) (fun _ S1 =>
    bnd ((nI 0)) (fun y4 =>
      f_X7_come_6 N N S1 y4))
def f_X7_copy_190 (N : Nat) (k166 : St → Int32 → Int32 → Int32 → Int32 → Int32 → Int32 → Int32 → Option (Int32 × St)) (S : St) (x1 : Int32) (x2 : Int32) (x3 : Int32) (x4 : Int32) (x5 : Int32) (x7 : Int32) (x8 : Int32) (xs0 : Int32) : Option (Int32 × St) :=
  if inb ((((nI 60) * x1) + x2) + xs0) 240 = true then
    if inb ((((nI 60) * x3) + x4) + xs0) 240 = true then
      bnd (st S 35 ((((nI 60) * x3) + x4) + xs0).toNatClampNeg (S 35 ((((nI 60) * x1) + x2) + xs0).toNatClampNeg)) (fun S1 =>
        bnd (x8 + (nI 1)) (fun y2 =>
          k166 S1 x1 x2 x3 x4 x5 x7 y2)) else none else none
def f_X7_copy_166 (N : Nat) : Nat → St → Int32 → Int32 → Int32 → Int32 → Int32 → Int32 → Int32 → Option (Int32 × St)
  | 0, _, _, _, _, _, _, _, _ => none
  | n + 1, S, x1, x2, x3, x4, x5, x7, x8 =>
    if x5 ≤ x8 then
      some (x5, S)
    else
      if x7 = (0 : Int32) then
        f_X7_copy_190 N (f_X7_copy_166 N n) S x1 x2 x3 x4 x5 x7 x8 x8
      else
        f_X7_copy_190 N (f_X7_copy_166 N n) S x1 x2 x3 x4 x5 x7 x8 ((x5 - (nI 1)) - x8)
def f_X7_copy_110 (N : Nat) (S : St) (x1 : Int32) (x2 : Int32) (x3 : Int32) (x4 : Int32) (x5 : Int32) (xs0 : Int32) : Option (Int32 × St) :=
  if xs0 = (0 : Int32) then
    cal (f_X7_fails N S (nI 3)) (fun r3 S1 =>
      some (r3, S1))
  else
    if inb x1 4 = true then
      if ((S 34 x1.toNatClampNeg) - x2) < x5 then
        cal (f_X7_fails N S (nI 3)) (fun r6 S4 =>
          some (r6, S4))
      else
        if inb x3 4 = true then
          if x5 ≤ ((S 34 x3.toNatClampNeg) - x4) then
            if x4 ≤ x2 then
              bnd ((nI 0)) (fun y7 =>
                bnd ((nI 0)) (fun y8 =>
                  f_X7_copy_166 N N S x1 x2 x3 x4 x5 y7 y8))
            else
              bnd ((nI 1)) (fun y9 =>
                bnd ((nI 0)) (fun y10 =>
                  f_X7_copy_166 N N S x1 x2 x3 x4 x5 y9 y10))
          else
            cal (f_X7_fails N S (nI 3)) (fun r13 S11 =>
              some (r13, S11)) else none else none
def f_X7_copy (N : Nat) (S : St) (x1 : Int32) (x2 : Int32) (x3 : Int32) (x4 : Int32) (x5 : Int32) : Option (Int32 × St) :=
  bnd (st S 32 0 (nI 0)) (fun S1 =>
    cal (f_X7_isSheet N S1 x1) (fun r4 S2 =>
      if r4 = (0 : Int32) then
        some ((-1 : Int32), S2)
      else
        cal (f_X7_isSheet N S2 x3) (fun r7 S5 =>
          if r7 = (0 : Int32) then
            some ((-1 : Int32), S5)
          else
            if inb x1 4 = true then
              if (S5 33 x1.toNatClampNeg) = (-9 : Int32) then
                cal (f_X7_fails N S5 (nI 1)) (fun r10 S8 =>
                  some (r10, S8))
              else
                if inb x3 4 = true then
                  if (S5 33 x3.toNatClampNeg) = (-9 : Int32) then
                    cal (f_X7_fails N S5 (nI 1)) (fun r16 S14 =>
                      some (r16, S14))
                  else
                    if inb x1 4 = true then
                      if inb x3 4 = true then
                        if (S5 33 x1.toNatClampNeg) = (S5 33 x3.toNatClampNeg) then
                          if x2 < (0 : Int32) then
                            f_X7_copy_110 N S5 x1 x2 x3 x4 x5 (nI 0)
                          else
                            if x4 < (0 : Int32) then
                              f_X7_copy_110 N S5 x1 x2 x3 x4 x5 (nI 0)
                            else
                              if x5 < (0 : Int32) then
                                f_X7_copy_110 N S5 x1 x2 x3 x4 x5 (nI 0)
                              else
                                if inb x1 4 = true then
                                  if (S5 34 x1.toNatClampNeg) < x2 then
                                    f_X7_copy_110 N S5 x1 x2 x3 x4 x5 (nI 0)
                                  else
                                    if inb x3 4 = true then
                                      if (S5 34 x3.toNatClampNeg) < x4 then
                                        f_X7_copy_110 N S5 x1 x2 x3 x4 x5 (nI 0)
                                      else
                                        f_X7_copy_110 N S5 x1 x2 x3 x4 x5 (nI 1) else none else none
                        else
                          cal (f_X7_fails N S5 (nI 2)) (fun r13 S11 =>
                            some (r13, S11)) else none else none else none else none)))
def f_X7_fault (N : Nat) (S : St) : Option (Int32 × St) :=
  some (S 32 0, S)
def f_X7_hasTold_17 (N : Nat) : Nat → St → Int32 → Int32 → Int32 → Int32 → Option (Int32 × St)
  | 0, _, _, _, _, _ => none
  | n + 1, S, x1, x2, x3, x4 =>
    if x2 ≤ x4 then
      if nb x3 = true then
        some (x3, S) else none
    else
      if x3 = (0 : Int32) then
        if nb x3 = true then
          some (x3, S) else none
      else
        if inb x4 5 = true then
          if inb (x1 + x4) 240 = true then
            if (S 45 x4.toNatClampNeg) = (S 35 (x1 + x4).toNatClampNeg) then
              bnd ((nI 1)) (fun y3 =>
                bnd (x4 + (nI 1)) (fun y4 =>
                  f_X7_hasTold_17 N n S x1 x2 y3 y4))
            else
              bnd ((nI 0)) (fun y1 =>
                bnd (x4 + (nI 1)) (fun y2 =>
                  f_X7_hasTold_17 N n S x1 x2 y1 y2)) else none else none
def f_X7_hasTold (N : Nat) (S : St) (x1 : Int32) (x2 : Int32) : Option (Int32 × St) :=
  if (S 32 20) = x2 then
    bnd ((nI 1)) (fun y3 =>
      bnd ((nI 0)) (fun y4 =>
        f_X7_hasTold_17 N N S x1 x2 y3 y4))
  else
    bnd ((nI 0)) (fun y1 =>
      bnd ((nI 0)) (fun y2 =>
        f_X7_hasTold_17 N N S x1 x2 y1 y2))
def f_X7_findFar_66 (N : Nat) (k46 : St → Int32 → Int32 → Option (Unit × St)) (k55 : St → Int32 → Int32 → Int32 → Option (Unit × St)) : Nat → St → Int32 → Int32 → Int32 → Int32 → Option (Unit × St)
  | 0, _, _, _, _, _ => none
  | n + 1, S, x3, x4, x5, x6 =>
    cal (f_X7_keysThere N S) (fun r3 S1 =>
      if r3 ≤ x6 then
        bnd (x5 + (nI 1)) (fun y4 =>
          k55 S1 x3 x4 y4)
      else
        if inb x5 7737 = true then
          if (S1 50 x5.toNatClampNeg) = (-9 : Int32) then
            if inb (((nI 7737) * x6) + x5) 85107 = true then
              if inb (S1 49 (((nI 7737) * x6) + x5).toNatClampNeg) 7737 = true then
                bnd (S1 50 (S1 49 (((nI 7737) * x6) + x5).toNatClampNeg).toNatClampNeg) (fun y6 =>
                  if y6 = (x4 - (nI 1)) then
                    if inb x5 7737 = true then
                      bnd (st S1 50 x5.toNatClampNeg x4) (fun S8 =>
                        bnd ((nI 1)) (fun y9 =>
                          bnd (x6 + (nI 1)) (fun y10 =>
                            f_X7_findFar_66 N k46 k55 n S8 y9 x4 x5 y10))) else none
                  else
                    bnd (x6 + (nI 1)) (fun y7 =>
                      f_X7_findFar_66 N k46 k55 n S1 x3 x4 x5 y7)) else none else none
          else
            bnd (x5 + (nI 1)) (fun y5 =>
              k55 S1 x3 x4 y5) else none)
def f_X7_findFar_55 (N : Nat) (k46 : St → Int32 → Int32 → Option (Unit × St)) : Nat → St → Int32 → Int32 → Int32 → Option (Unit × St)
  | 0, _, _, _, _ => none
  | n + 1, S, x3, x4, x5 =>
    if (nI 7737) ≤ x5 then
      bnd (x4 + (nI 1)) (fun y1 =>
        k46 S x3 y1)
    else
      bnd ((nI 0)) (fun y2 =>
        f_X7_findFar_66 N k46 (f_X7_findFar_55 N k46 n) N S x3 x4 x5 y2)
def f_X7_findFar_46 (N : Nat) : Nat → St → Int32 → Int32 → Option (Unit × St)
  | 0, _, _, _ => none
  | n + 1, S, x3, x4 =>
    if x3 = (0 : Int32) then
      some ((), S)
    else
      bnd ((nI 0)) (fun y1 =>
        bnd ((nI 0)) (fun y2 =>
          f_X7_findFar_55 N (f_X7_findFar_46 N n) N S y1 x4 y2))
def f_X7_findFar_2 (N : Nat) : Nat → St → Int32 → Int32 → Int32 → Option (Unit × St)
  | 0, _, _, _, _ => none
  | n + 1, S, x1, x2, x3 =>
    if (nI 7737) ≤ x3 then
      bnd ((nI 1)) (fun y1 =>
        bnd ((nI 1)) (fun y2 =>
          f_X7_findFar_46 N N S y1 y2))
    else
      cal (f_X7_workOn N S x3) (fun _ S3 =>
        cal (f_X7_hasTold N S3 x1 x2) (fun r8 S6 =>
          if r8 = (0 : Int32) then
            if inb x3 7737 = true then
              bnd (st S6 50 x3.toNatClampNeg (-9 : Int32)) (fun S9 =>
                bnd (x3 + (nI 1)) (fun y10 =>
                  f_X7_findFar_2 N n S9 x1 x2 y10)) else none
          else
            if inb x3 7737 = true then
              bnd (st S6 50 x3.toNatClampNeg (nI 0)) (fun S11 =>
                bnd (x3 + (nI 1)) (fun y12 =>
                  f_X7_findFar_2 N n S11 x1 x2 y12)) else none))
def f_X7_findFar (N : Nat) (S : St) (x1 : Int32) (x2 : Int32) : Option (Unit × St) :=
  bnd ((nI 0)) (fun y1 =>
    f_X7_findFar_2 N N S x1 x2 y1)
def f_X7_fewest_180 (N : Nat) (k170 : St → Int32 → Int32 → Int32 → Int32 → Option (Int32 × St)) : Nat → St → Int32 → Int32 → Int32 → Int32 → Option (Int32 × St)
  | 0, _, _, _, _, _ => none
  | n + 1, S, x5, x8, x9, x10 =>
    if inb (((nI 7737) * x9) + x8) 85107 = true then
      if inb (S 49 (((nI 7737) * x9) + x8).toNatClampNeg) 7737 = true then
        if inb x8 7737 = true then
          if (S 50 (S 49 (((nI 7737) * x9) + x8).toNatClampNeg).toNatClampNeg) = ((S 50 x8.toNatClampNeg) - (nI 1)) then
            if inb (((nI 7737) * x9) + x8) 85107 = true then
              bnd (S 49 (((nI 7737) * x9) + x8).toNatClampNeg) (fun y1 =>
                bnd (x10 + (nI 1)) (fun y2 =>
                  k170 S x5 y1 x9 y2)) else none
          else
            bnd (x9 + (nI 1)) (fun y3 =>
              f_X7_fewest_180 N k170 n S x5 x8 y3 x10) else none else none else none
def f_X7_fewest_170 (N : Nat) : Nat → St → Int32 → Int32 → Int32 → Int32 → Option (Int32 × St)
  | 0, _, _, _, _, _ => none
  | n + 1, S, x5, x8, x9, x10 =>
    if x5 < x10 then
      some (x9, S)
    else
      bnd ((nI 0)) (fun y1 =>
        f_X7_fewest_180 N (f_X7_fewest_170 N n) N S x5 x8 y1 x10)
def f_X7_fewest_79 (N : Nat) : Nat → St → Int32 → Int32 → Int32 → Int32 → Option (Int32 × St)
  | 0, _, _, _, _, _ => none
  | n + 1, S, x4, x5, x7, x8 =>
    if x4 ≤ x8 then
      cal (f_X7_findMakes N S) (fun _ S1 =>
        cal (f_X7_findFar N S1 x7 x4) (fun _ S4 =>
          if x5 = (-1 : Int32) then
            if inb (S4 32 7) 7737 = true then
              some (S4 50 (S4 32 7).toNatClampNeg, S4) else none
          else
            if inb (S4 32 7) 7737 = true then
              if x5 < (S4 50 (S4 32 7).toNatClampNeg) then
                bnd (S4 32 7) (fun y7 =>
                  bnd ((nI 0)) (fun y8 =>
                    bnd ((nI 0)) (fun y9 =>
                      f_X7_fewest_170 N N S4 x5 y7 y8 y9)))
              else
                some ((-9 : Int32), S4) else none))
    else
      if inb (x7 + x8) 240 = true then
        cal (f_X7_within N S (S 35 (x7 + x8).toNatClampNeg) (nI 0) (nI 3)) (fun r12 S10 =>
          if r12 = (0 : Int32) then
            some ((-2 : Int32), S10)
          else
            bnd (x8 + (nI 1)) (fun y13 =>
              f_X7_fewest_79 N n S10 x4 x5 x7 y13)) else none
def f_X7_fewest (N : Nat) (S : St) (x1 : Int32) (x2 : Int32) (x3 : Int32) (x4 : Int32) (x5 : Int32) : Option (Int32 × St) :=
  bnd (st S 32 0 (nI 0)) (fun S1 =>
    cal (f_X7_isSheet N S1 x1) (fun r4 S2 =>
      if r4 = (0 : Int32) then
        some ((-1 : Int32), S2)
      else
        cal (f_X7_isSort N S2 x2) (fun r7 S5 =>
          if r7 = (0 : Int32) then
            some ((-2 : Int32), S5)
          else
            cal (f_X7_within N S5 x4 (nI 0) (nI 5)) (fun r10 S8 =>
              if r10 = (0 : Int32) then
                some ((-2 : Int32), S8)
              else
                cal (f_X7_within N S8 x5 (-1 : Int32) (nI 20)) (fun r13 S11 =>
                  if r13 = (0 : Int32) then
                    some ((-2 : Int32), S11)
                  else
                    cal (f_X7_against N S11 x1 x2 x3 x4) (fun r16 S14 =>
                      if r16 = (0 : Int32) then
                        bnd (((nI 60) * x1) + x3) (fun y17 =>
                          bnd ((nI 0)) (fun y18 =>
                            f_X7_fewest_79 N N S14 x4 x5 y17 y18))
                      else
                        cal (f_X7_fails N S14 r16) (fun r21 S19 =>
                          some (r21, S19))))))))
def f_X7_findPresses_14 (N : Nat) (k2 : St → Int32 → Option (Unit × St)) : Nat → St → Int32 → Int32 → Int32 → Option (Unit × St)
  | 0, _, _, _, _ => none
  | n + 1, S, x1, x2, x3 =>
    if inb x1 3 = true then
      if (S 38 x1.toNatClampNeg) ≤ x3 then
        cal (f_X7_oftenOf N S x1) (fun r3 S1 =>
          if inb x1 3 = true then
            bnd (st S1 44 x1.toNatClampNeg (r3 * x2)) (fun S4 =>
              bnd (x1 + (nI 1)) (fun y5 =>
                k2 S4 y5)) else none)
      else
        if inb (((nI 4) * x1) + x3) 12 = true then
          bnd (S 39 (((nI 4) * x1) + x3).toNatClampNeg) (fun y6 =>
            if (nI 8) ≤ y6 then
              if inb (y6 - (nI 8)) 3 = true then
                bnd (x2 + (S 44 (y6 - (nI 8)).toNatClampNeg)) (fun y7 =>
                  bnd (x3 + (nI 1)) (fun y8 =>
                    f_X7_findPresses_14 N k2 n S x1 y7 y8)) else none
            else
              bnd (x2 + (nI 1)) (fun y9 =>
                bnd (x3 + (nI 1)) (fun y10 =>
                  f_X7_findPresses_14 N k2 n S x1 y9 y10))) else none else none
def f_X7_findPresses_2 (N : Nat) : Nat → St → Int32 → Option (Unit × St)
  | 0, _, _ => none
  | n + 1, S, x1 =>
    if (S 32 5) ≤ x1 then
      some ((), S)
    else
      bnd ((nI 0)) (fun y1 =>
        bnd ((nI 0)) (fun y2 =>
          f_X7_findPresses_14 N (f_X7_findPresses_2 N n) N S x1 y1 y2))
def f_X7_findPresses (N : Nat) (S : St) : Option (Unit × St) :=
  bnd ((nI 0)) (fun y1 =>
    f_X7_findPresses_2 N N S y1)
def f_X7_goRow_21 (N : Nat) : Nat → St → Int32 → Int32 → Int32 → Option (Unit × St)
  | 0, _, _, _, _ => none
  | n + 1, S, x1, x2, x3 =>
    if x2 ≤ x3 then
      some ((), S)
    else
      if inb (x1 + x3) 240 = true then
        bnd (S 35 (x1 + x3).toNatClampNeg) (fun y1 =>
          if y1 < (nI 8) then
            cal (f_X7_presses N S y1) (fun r4 S2 =>
              if r4 = (0 : Int32) then
                if (S2 32 26) = (-9 : Int32) then
                  bnd (st S2 32 26 x3) (fun S7 =>
                    bnd (x3 + (nI 1)) (fun y8 =>
                      f_X7_goRow_21 N n S7 x1 x2 y8))
                else
                  bnd (x3 + (nI 1)) (fun y6 =>
                    f_X7_goRow_21 N n S2 x1 x2 y6)
              else
                bnd (x3 + (nI 1)) (fun y5 =>
                  f_X7_goRow_21 N n S2 x1 x2 y5))
          else
            cal (f_X7_plays N S (y1 - (nI 8))) (fun _ S9 =>
              bnd (x3 + (nI 1)) (fun y12 =>
                f_X7_goRow_21 N n S9 x1 x2 y12))) else none
def f_X7_goRow (N : Nat) (S : St) (x1 : Int32) (x2 : Int32) : Option (Unit × St) :=
  cal (f_X7_workOn N S (S 32 7)) (fun _ S1 =>
    bnd (st S1 32 22 (nI 0)) (fun S4 =>
      bnd (st S4 32 26 (-9 : Int32)) (fun S5 =>
        bnd ((nI 0)) (fun y6 =>
          f_X7_goRow_21 N N S5 x1 x2 y6))))
def f_X7_inLeastTerms_6 (N : Nat) : Nat → St → Int64 → Int64 → Int32 → Int64 → Int64 → Option (Int64 × St)
  | 0, _, _, _, _, _, _ => none
  | n + 1, S, x0, x2, x4, x5, x7 =>
    if (lg_cmp x7 (0 : Int64)) = (0 : Int32) then
      if x4 = (0 : Int32) then
        if ¬ x5 = (0 : Int64) then
          some (x0 / x5, S) else none
      else
        if ¬ x5 = (0 : Int64) then
          some (x2 / x5, S) else none
    else
      if ¬ x7 = (0 : Int64) then
        bnd (x5 - x5 / x7 * x7) (fun y1 =>
          f_X7_inLeastTerms_6 N n S x0 x2 x4 x7 y1) else none
def f_X7_inLeastTerms (N : Nat) (S : St) (x0 : Int64) (x2 : Int64) (x4 : Int32) : Option (Int64 × St) :=
  f_X7_inLeastTerms_6 N N S x0 x2 x4 x0 x2
def f_X7_isKey (N : Nat) (S : St) (x1 : Int32) : Option (Int32 × St) :=
  if x1 < (0 : Int32) then
    some ((nI 0), S)
  else
    cal (f_X7_keysThere N S) (fun r3 S1 =>
      if r3 ≤ x1 then
        some ((nI 0), S1)
      else
        some ((nI 1), S1))
def f_X7_key (N : Nat) (S : St) (x1 : Int32) (x2 : Int32) : Option (Int32 × St) :=
  cal (f_X7_isMacro N S x1) (fun r3 S1 =>
    if r3 = (0 : Int32) then
      some ((-1 : Int32), S1)
    else
      if x2 < (0 : Int32) then
        some ((-1 : Int32), S1)
      else
        if inb x1 3 = true then
          if (S1 38 x1.toNatClampNeg) ≤ x2 then
            some ((-1 : Int32), S1)
          else
            if inb (((nI 4) * x1) + x2) 12 = true then
              some (S1 39 (((nI 4) * x1) + x2).toNatClampNeg, S1) else none else none)
def f_X7_keyBy (N : Nat) (S : St) (x0 : Int32) (x1 : Int32) : Option (Int32 × St) :=
  cal (f_X7_within N S x0 (nI 97) (nI 100)) (fun r3 S1 =>
    if r3 = (0 : Int32) then
      cal (f_X7_within N S1 x0 (nI 48) ((nI 47) + x1)) (fun r6 S4 =>
        if r6 = (0 : Int32) then
          if x0 = (nI 60) then
            some ((nI 4), S4)
          else
            if x0 = (nI 62) then
              some ((nI 5), S4)
            else
              if x0 = (nI 120) then
                some ((nI 6), S4)
              else
                if x0 = (nI 104) then
                  some ((nI 7), S4)
                else
                  some ((-9 : Int32), S4)
        else
          some ((x0 - (nI 48)) + (nI 8), S4))
    else
      some (x0 - (nI 97), S1))
def f_X7_kinds_22 (N : Nat) : Nat → St → Int32 → Int32 → Int32 → Int32 → Option (Int32 × St)
  | 0, _, _, _, _, _ => none
  | n + 1, S, x1, x2, x3, x4 =>
    if (nI 3) ≤ x4 then
      if inb x1 3 = true then
        bnd (st S 36 x1.toNatClampNeg x2) (fun S1 =>
          some (x3, S1)) else none
    else
      if inb x1 3 = true then
        bnd (st S 36 x1.toNatClampNeg x4) (fun S2 =>
          cal (f_X7_areSo N S2) (fun r5 S3 =>
            if r5 = (0 : Int32) then
              bnd (x3 ||| (nI 0)) (fun y6 =>
                bnd (x4 + (nI 1)) (fun y7 =>
                  f_X7_kinds_22 N n S3 x1 x2 y6 y7))
            else
              bnd (x3 ||| ((nI 1) <<< (x4 &&& (31 : Int32)))) (fun y8 =>
                bnd (x4 + (nI 1)) (fun y9 =>
                  f_X7_kinds_22 N n S3 x1 x2 y8 y9)))) else none
def f_X7_kinds (N : Nat) (S : St) (x1 : Int32) : Option (Int32 × St) :=
  cal (f_X7_isMacro N S x1) (fun r3 S1 =>
    if r3 = (0 : Int32) then
      some ((-1 : Int32), S1)
    else
      if inb x1 3 = true then
        bnd (S1 36 x1.toNatClampNeg) (fun y4 =>
          bnd ((nI 0)) (fun y5 =>
            bnd ((nI 0)) (fun y6 =>
              f_X7_kinds_22 N N S1 x1 y4 y5 y6))) else none)
def f_X7_letter (N : Nat) (S : St) (x1 : Int32) : Option (Int32 × St) :=
  cal (f_X7_workOn N S (S 32 7)) (fun _ S1 =>
    if x1 < (0 : Int32) then
      some ((-1 : Int32), S1)
    else
      if (S1 32 20) ≤ x1 then
        some ((-1 : Int32), S1)
      else
        if inb x1 5 = true then
          some (S1 45 x1.toNatClampNeg, S1) else none)
def f_X7_like_27 (N : Nat) : Nat → St → Int32 → Int32 → Int32 → Int32 → Option (Int32 × St)
  | 0, _, _, _, _, _ => none
  | n + 1, S, x1, x2, x3, x4 =>
    if (nI 7737) ≤ x4 then
      some (x3, S)
    else
      if inb (((nI 7737) * x1) + x4) 85107 = true then
        if inb (((nI 7737) * x2) + x4) 85107 = true then
          if (S 49 (((nI 7737) * x1) + x4).toNatClampNeg) = (S 49 (((nI 7737) * x2) + x4).toNatClampNeg) then
            bnd (x3 + (nI 1)) (fun y3 =>
              bnd (x4 + (nI 1)) (fun y4 =>
                f_X7_like_27 N n S x1 x2 y3 y4))
          else
            bnd (x3 + (nI 0)) (fun y1 =>
              bnd (x4 + (nI 1)) (fun y2 =>
                f_X7_like_27 N n S x1 x2 y1 y2)) else none else none
def f_X7_like (N : Nat) (S : St) (x1 : Int32) (x2 : Int32) : Option (Int32 × St) :=
  cal (f_X7_isKey N S x1) (fun r3 S1 =>
    if r3 = (0 : Int32) then
      some ((-1 : Int32), S1)
    else
      cal (f_X7_isKey N S1 x2) (fun r6 S4 =>
        if r6 = (0 : Int32) then
          some ((-1 : Int32), S4)
        else
          cal (f_X7_findMakes N S4) (fun _ S7 =>
            bnd ((nI 0)) (fun y10 =>
              bnd ((nI 0)) (fun y11 =>
                f_X7_like_27 N N S7 x1 x2 y10 y11)))))
def f_X7_lose_25 (N : Nat) (S : St) (x1 : Int32) (xs0 : Int32) : Option (Int32 × St) :=
  if inb x1 4 = true then
    bnd (st S 33 x1.toNatClampNeg (-9 : Int32)) (fun S1 =>
      some (xs0, S1)) else none
def f_X7_lose (N : Nat) (S : St) (x1 : Int32) : Option (Int32 × St) :=
  cal (f_X7_isSheet N S x1) (fun r3 S1 =>
    if r3 = (0 : Int32) then
      some ((-1 : Int32), S1)
    else
      if inb x1 4 = true then
        if (S1 33 x1.toNatClampNeg) = (-9 : Int32) then
          f_X7_lose_25 N S1 x1 (nI 0)
        else
          f_X7_lose_25 N S1 x1 (nI 1) else none)
def f_X7_readMacro_234 (N : Nat) (S : St) (x2 : Int32) : Option (Int32 × St) :=
  if inb x2 3 = true then
    if (S 42 x2.toNatClampNeg) ≤ (0 : Int32) then
      some ((nI 0), S)
    else
      some ((nI 1), S) else none
def f_X7_readMacro_147 (N : Nat) : Nat → St → Int32 → Int32 → Option (Int32 × St)
  | 0, _, _, _ => none
  | n + 1, S, x1, x2 =>
    if inb x2 3 = true then
      if (nI 4) ≤ (S 42 x2.toNatClampNeg) then
        f_X7_readMacro_234 N S x2
      else
        if x1 ≤ (S 32 12) then
          f_X7_readMacro_234 N S x2
        else
          if inb (S 32 12) 240 = true then
            cal (f_X7_keyBy N S (S 35 (S 32 12).toNatClampNeg) x2) (fun r3 S1 =>
              if r3 = (-9 : Int32) then
                f_X7_readMacro_234 N S1 x2
              else
                if inb x2 3 = true then
                  if inb (S1 32 12) 240 = true then
                    cal (f_X7_keyBy N S1 (S1 35 (S1 32 12).toNatClampNeg) x2) (fun r6 S4 =>
                      if inb (((nI 4) * x2) + (S1 42 x2.toNatClampNeg)) 12 = true then
                        bnd (st S4 43 (((nI 4) * x2) + (S1 42 x2.toNatClampNeg)).toNatClampNeg r6) (fun S7 =>
                          if inb x2 3 = true then
                            if inb x2 3 = true then
                              bnd (st S7 42 x2.toNatClampNeg ((S7 42 x2.toNatClampNeg) + (nI 1))) (fun S8 =>
                                bnd (st S8 32 12 ((S8 32 12) + (nI 1))) (fun S9 =>
                                  f_X7_readMacro_147 N n S9 x1 x2)) else none else none) else none) else none else none) else none else none
def f_X7_readMacro_59 (N : Nat) (S : St) (x1 : Int32) (x2 : Int32) (xs0 : Int32) (xs1 : Int32) : Option (Int32 × St) :=
  if inb xs1 3 = true then
    bnd (st S 40 xs1.toNatClampNeg xs0) (fun S1 =>
      if inb x2 3 = true then
        if (S1 40 x2.toNatClampNeg) = (-9 : Int32) then
          some ((nI 0), S1)
        else
          bnd (st S1 32 12 ((S1 32 12) + (nI 1))) (fun S2 =>
            if x1 ≤ (S2 32 12) then
              some ((nI 0), S2)
            else
              if inb (S2 32 12) 240 = true then
                cal (f_X7_within N S2 (S2 35 (S2 32 12).toNatClampNeg) (nI 49) (nI 51)) (fun r5 S3 =>
                  if r5 = (0 : Int32) then
                    some ((nI 0), S3)
                  else
                    if inb (S3 32 12) 240 = true then
                      if inb x2 3 = true then
                        bnd (st S3 41 x2.toNatClampNeg ((S3 35 (S3 32 12).toNatClampNeg) - (nI 48))) (fun S6 =>
                          bnd (st S6 32 12 ((S6 32 12) + (nI 1))) (fun S7 =>
                            if inb x2 3 = true then
                              bnd (st S7 42 x2.toNatClampNeg (nI 0)) (fun S8 =>
                                f_X7_readMacro_147 N N S8 x1 x2) else none)) else none else none) else none) else none) else none
def f_X7_readMacro_21 (N : Nat) (S : St) (x1 : Int32) (x2 : Int32) (xs0 : Int32) : Option (Int32 × St) :=
  if xs0 = (nI 112) then
    f_X7_readMacro_59 N S x1 x2 (nI 0) x2
  else
    if xs0 = (nI 98) then
      f_X7_readMacro_59 N S x1 x2 (nI 1) x2
    else
      if xs0 = (nI 101) then
        f_X7_readMacro_59 N S x1 x2 (nI 2) x2
      else
        f_X7_readMacro_59 N S x1 x2 (-9 : Int32) x2
def f_X7_readMacro (N : Nat) (S : St) (x1 : Int32) (x2 : Int32) : Option (Int32 × St) :=
  if x1 ≤ (S 32 12) then
    f_X7_readMacro_21 N S x1 x2 (nI 0)
  else
    if inb (S 32 12) 240 = true then
      f_X7_readMacro_21 N S x1 x2 (S 35 (S 32 12).toNatClampNeg) else none
def f_X7_readMacrosAll_123 (N : Nat) (S : St) (x1 : Int32) : Option (Int32 × St) :=
  if (S 32 12) = x1 then
    some ((nI 1), S)
  else
    some ((nI 0), S)
def f_X7_readMacrosAll_62 (N : Nat) (k39 : St → Int32 → Option (Int32 × St)) (S : St) (x1 : Int32) : Option (Int32 × St) :=
  if x1 ≤ (S 32 12) then
    some ((nI 0), S)
  else
    if inb (S 32 12) 240 = true then
      if (S 35 (S 32 12).toNatClampNeg) = (nI 59) then
        bnd (st S 32 12 ((S 32 12) + (nI 1))) (fun S1 =>
          cal (f_X7_readMacro N S1 x1 (S1 32 13)) (fun r4 S2 =>
            if r4 = (0 : Int32) then
              some ((nI 0), S2)
            else
              bnd (st S2 32 13 ((S2 32 13) + (nI 1))) (fun S5 =>
                k39 S5 x1)))
      else
        some ((nI 0), S) else none
def f_X7_readMacrosAll_39 (N : Nat) : Nat → St → Int32 → Option (Int32 × St)
  | 0, _, _ => none
  | n + 1, S, x1 =>
    if (S 32 13) = (0 : Int32) then
      f_X7_readMacrosAll_62 N (f_X7_readMacrosAll_39 N n) S x1
    else
      if (nI 3) ≤ (S 32 13) then
        f_X7_readMacrosAll_123 N S x1
      else
        if x1 ≤ (S 32 12) then
          f_X7_readMacrosAll_123 N S x1
        else
          f_X7_readMacrosAll_62 N (f_X7_readMacrosAll_39 N n) S x1
def f_X7_readMacrosAll (N : Nat) (S : St) (x1 : Int32) : Option (Int32 × St) :=
  bnd (st S 32 13 (nI 0)) (fun S1 =>
    if x1 ≤ (S1 32 12) then
      some ((nI 0), S1)
    else
      if inb (S1 32 12) 240 = true then
        if (S1 35 (S1 32 12).toNatClampNeg) = (nI 107) then
          bnd (st S1 32 12 ((S1 32 12) + (nI 1))) (fun S2 =>
            f_X7_readMacrosAll_39 N N S2 x1)
        else
          some ((nI 0), S1) else none)
def f_X7_macros_149 (N : Nat) (k95 : St → Int32 → Option (Int32 × St)) : Nat → St → Int32 → Int32 → Option (Int32 × St)
  | 0, _, _, _ => none
  | n + 1, S, x7, x8 =>
    if (nI 4) ≤ x8 then
      bnd (x7 + (nI 1)) (fun y1 =>
        k95 S y1)
    else
      if inb (((nI 4) * x7) + x8) 12 = true then
        if inb (((nI 4) * x7) + x8) 12 = true then
          bnd (st S 39 (((nI 4) * x7) + x8).toNatClampNeg (S 43 (((nI 4) * x7) + x8).toNatClampNeg)) (fun S2 =>
            bnd (x8 + (nI 1)) (fun y3 =>
              f_X7_macros_149 N k95 n S2 x7 y3)) else none else none
def f_X7_macros_95 (N : Nat) : Nat → St → Int32 → Option (Int32 × St)
  | 0, _, _ => none
  | n + 1, S, x7 =>
    if (S 32 5) ≤ x7 then
      bnd (st S 32 7 (nI 0)) (fun S1 =>
        bnd (st S1 32 6 (nI 0)) (fun S2 =>
          bnd (st S2 32 32 (nI 0)) (fun S3 =>
            bnd (st S3 32 27 (nI 0)) (fun S4 =>
              some (S4 32 5, S4)))))
    else
      if inb x7 3 = true then
        if inb x7 3 = true then
          bnd (st S 36 x7.toNatClampNeg (S 40 x7.toNatClampNeg)) (fun S5 =>
            if inb x7 3 = true then
              if inb x7 3 = true then
                bnd (st S5 37 x7.toNatClampNeg (S5 41 x7.toNatClampNeg)) (fun S6 =>
                  if inb x7 3 = true then
                    if inb x7 3 = true then
                      bnd (st S6 38 x7.toNatClampNeg (S6 42 x7.toNatClampNeg)) (fun S7 =>
                        bnd ((nI 0)) (fun y8 =>
                          f_X7_macros_149 N (f_X7_macros_95 N n) N S7 x7 y8)) else none else none) else none else none) else none else none
def f_X7_macros (N : Nat) (S : St) (x1 : Int32) (x2 : Int32) (x3 : Int32) (x4 : Int32) : Option (Int32 × St) :=
  bnd (st S 32 0 (nI 0)) (fun S1 =>
    cal (f_X7_isSheet N S1 x1) (fun r4 S2 =>
      if r4 = (0 : Int32) then
        some ((-1 : Int32), S2)
      else
        cal (f_X7_isSort N S2 x2) (fun r7 S5 =>
          if r7 = (0 : Int32) then
            some ((-2 : Int32), S5)
          else
            cal (f_X7_against N S5 x1 x2 x3 x4) (fun r10 S8 =>
              if r10 = (0 : Int32) then
                bnd (((nI 60) * x1) + x3) (fun y11 =>
                  bnd (st S8 32 12 y11) (fun S12 =>
                    cal (f_X7_readMacrosAll N S12 (y11 + x4)) (fun r15 S13 =>
                      if r15 = (0 : Int32) then
                        some ((-100 : Int32) - ((S13 32 12) - y11), S13)
                      else
                        bnd (st S13 32 5 (S13 32 13)) (fun S16 =>
                          bnd ((nI 0)) (fun y17 =>
                            f_X7_macros_95 N N S16 y17)))))
              else
                cal (f_X7_fails N S8 r10) (fun r20 S18 =>
                  some (r20, S18))))))
def f_X7_many (N : Nat) (S : St) (x1 : Int32) : Option (Int32 × St) :=
  cal (f_X7_workOn N S (S 32 7)) (fun _ S1 =>
    bnd (x1) (fun y4 =>
      if y4 = (nI 0) then
        some (S1 32 5, S1)
      else
        if y4 = (nI 1) then
          some (S1 32 20, S1)
        else
          if y4 = (nI 2) then
            some (S1 32 21, S1)
          else
            if y4 = (nI 3) then
              some (S1 32 6, S1)
            else
              if y4 = (nI 4) then
                some (S1 32 32, S1)
              else
                some ((-2 : Int32), S1)))
def f_X7_odds_51 (N : Nat) (k34 : St → Int32 → Int32 → Int32 → Int32 → Int32 → Option (Int64 × St)) : Nat → St → Int32 → Int32 → Int32 → Int32 → Int32 → Int32 → Option (Int64 × St)
  | 0, _, _, _, _, _, _, _ => none
  | n + 1, S, x1, x2, x3, x4, x5, x6 =>
    if x1 ≤ x6 then
      if (S 32 20) = (0 : Int32) then
        bnd (x4 + (nI 1)) (fun y3 =>
          bnd (x5 + (nI 1)) (fun y4 =>
            k34 S x1 x2 x3 y3 y4))
      else
        bnd (x4 + (nI 0)) (fun y1 =>
          bnd (x5 + (nI 1)) (fun y2 =>
            k34 S x1 x2 x3 y1 y2))
    else
      cal (f_X7_presses N S ((x5 >>> (((nI 3) * x6) &&& (31 : Int32))) &&& (nI 7))) (fun r7 S5 =>
        bnd (x6 + (nI 1)) (fun y8 =>
          f_X7_odds_51 N k34 n S5 x1 x2 x3 x4 x5 y8))
def f_X7_odds_34 (N : Nat) : Nat → St → Int32 → Int32 → Int32 → Int32 → Int32 → Option (Int64 × St)
  | 0, _, _, _, _, _, _ => none
  | n + 1, S, x1, x2, x3, x4, x5 =>
    if x3 ≤ x5 then
      cal (f_X7_inLeastTerms N S x4.toInt64 x3.toInt64 x2) (fun r3 S1 =>
        some (r3, S1))
    else
      cal (f_X7_workOn N S (S 32 7)) (fun _ S4 =>
        bnd ((nI 0)) (fun y7 =>
          f_X7_odds_51 N (f_X7_odds_34 N n) N S4 x1 x2 x3 x4 x5 y7))
def f_X7_odds (N : Nat) (S : St) (x1 : Int32) (x2 : Int32) : Option (Int64 × St) :=
  cal (f_X7_within N S x1 (nI 0) (nI 4)) (fun r3 S1 =>
    if r3 = (0 : Int32) then
      some ((-9223372036854775808 : Int64), S1)
    else
      cal (f_X7_within N S1 x2 (nI 0) (nI 1)) (fun r6 S4 =>
        if r6 = (0 : Int32) then
          some ((-9223372036854775808 : Int64), S4)
        else
          bnd ((nI 1) <<< (((nI 3) * x1) &&& (31 : Int32))) (fun y7 =>
            bnd ((nI 0)) (fun y8 =>
              bnd ((nI 0)) (fun y9 =>
                f_X7_odds_34 N N S4 x1 x2 y7 y8 y9)))))
def f_X7_ofMacro (N : Nat) (S : St) (x1 : Int32) (x2 : Int32) : Option (Int32 × St) :=
  cal (f_X7_isMacro N S x1) (fun r3 S1 =>
    if r3 = (0 : Int32) then
      some ((-1 : Int32), S1)
    else
      bnd (x2) (fun y4 =>
        if y4 = (nI 0) then
          if inb x1 3 = true then
            some (S1 36 x1.toNatClampNeg, S1) else none
        else
          if y4 = (nI 1) then
            if inb x1 3 = true then
              some (S1 37 x1.toNatClampNeg, S1) else none
          else
            if y4 = (nI 2) then
              cal (f_X7_oftenOf N S1 x1) (fun r7 S5 =>
                some (r7, S5))
            else
              if y4 = (nI 3) then
                if inb x1 3 = true then
                  some (S1 38 x1.toNatClampNeg, S1) else none
              else
                if y4 = (nI 4) then
                  cal (f_X7_findPresses N S1) (fun _ S8 =>
                    if inb x1 3 = true then
                      some (S8 44 x1.toNatClampNeg, S8) else none)
                else
                  some ((-2 : Int32), S1)))
def f_X7_play (N : Nat) (S : St) (x1 : Int32) : Option (Int32 × St) :=
  cal (f_X7_isMacro N S x1) (fun r3 S1 =>
    if r3 = (0 : Int32) then
      some ((-1 : Int32), S1)
    else
      cal (f_X7_workOn N S1 (S1 32 7)) (fun _ S4 =>
        bnd (st S4 32 22 (nI 0)) (fun S7 =>
          cal (f_X7_plays N S7 x1) (fun _ S8 =>
            cal (f_X7_lineNumber N S8) (fun r13 S11 =>
              bnd (st S11 32 7 r13) (fun S14 =>
                bnd (st S14 32 6 ((S14 32 6) + (nI 1))) (fun S15 =>
                  some (S15 32 22, S15))))))))
def f_X7_press (N : Nat) (S : St) (x1 : Int32) : Option (Int32 × St) :=
  cal (f_X7_within N S x1 (nI 0) (nI 7)) (fun r3 S1 =>
    if r3 = (0 : Int32) then
      some ((-2 : Int32), S1)
    else
      cal (f_X7_workOn N S1 (S1 32 7)) (fun _ S4 =>
        cal (f_X7_presses N S4 x1) (fun r9 S7 =>
          cal (f_X7_lineNumber N S7) (fun r12 S10 =>
            bnd (st S10 32 7 r12) (fun S13 =>
              bnd (st S13 32 6 ((S13 32 6) + (nI 1))) (fun S14 =>
                if r9 = (0 : Int32) then
                  some ((nI 0), S14)
                else
                  some ((nI 1), S14)))))))
def f_X7_put (N : Nat) (S : St) (x1 : Int32) (x2 : Int32) (x3 : Int32) : Option (Int32 × St) :=
  bnd (st S 32 0 (nI 0)) (fun S1 =>
    cal (f_X7_isSheet N S1 x1) (fun r4 S2 =>
      if r4 = (0 : Int32) then
        some ((-1 : Int32), S2)
      else
        if inb x1 4 = true then
          if (S2 33 x1.toNatClampNeg) = (-9 : Int32) then
            cal (f_X7_fails N S2 (nI 1)) (fun r16 S14 =>
              some (r16, S14))
          else
            if inb x1 4 = true then
              cal (f_X7_within N S2 x2 (nI 0) ((S2 34 x1.toNatClampNeg) - (nI 1))) (fun r7 S5 =>
                if r7 = (0 : Int32) then
                  cal (f_X7_fails N S5 (nI 3)) (fun r13 S11 =>
                    some (r13, S11))
                else
                  if inb x1 4 = true then
                    if (S5 33 x1.toNatClampNeg) = (0 : Int32) then
                      if inb (((nI 60) * x1) + x2) 240 = true then
                        bnd (st S5 35 (((nI 60) * x1) + x2).toNatClampNeg x3.toInt8.toInt32) (fun S10 =>
                          some ((nI 1), S10)) else none
                    else
                      if inb x1 4 = true then
                        if (S5 33 x1.toNatClampNeg) = (nI 1) then
                          if inb (((nI 60) * x1) + x2) 240 = true then
                            bnd (st S5 35 (((nI 60) * x1) + x2).toNatClampNeg x3.toInt16.toInt32) (fun S9 =>
                              some ((nI 1), S9)) else none
                        else
                          if inb (((nI 60) * x1) + x2) 240 = true then
                            bnd (st S5 35 (((nI 60) * x1) + x2).toNatClampNeg x3) (fun S8 =>
                              some ((nI 1), S8)) else none else none else none) else none else none))
def f_X7_reading (N : Nat) (S : St) (x1 : Int32) (x2 : Int32) : Option (Int32 × St) :=
  cal (f_X7_isMacro N S x1) (fun r3 S1 =>
    if r3 = (0 : Int32) then
      some ((-1 : Int32), S1)
    else
      cal (f_X7_within N S1 x2 (nI 0) (nI 5)) (fun r6 S4 =>
        if r6 = (0 : Int32) then
          some ((-2 : Int32), S4)
        else
          if (S4 32 32) = (nI 8) then
            some ((-4 : Int32), S4)
          else
            if inb (S4 32 32) 8 = true then
              bnd (st S4 52 (S4 32 32).toNatClampNeg x1) (fun S7 =>
                if inb (S7 32 32) 8 = true then
                  bnd (st S7 53 (S7 32 32).toNatClampNeg x2) (fun S8 =>
                    bnd (st S8 32 32 ((S8 32 32) + (nI 1))) (fun S9 =>
                      some ((S9 32 32) - (nI 1), S9))) else none) else none))
def f_X7_tellRow_88 (N : Nat) : Nat → St → Int32 → Int32 → Option (Int32 × St)
  | 0, _, _, _ => none
  | n + 1, S, x2, x3 =>
    if (S 32 20) ≤ x3 then
      some (x2, S)
    else
      if inb x3 5 = true then
        bnd ((((nI 10) * x2) + (S 45 x3.toNatClampNeg)) + (nI 1)) (fun y1 =>
          bnd (x3 + (nI 1)) (fun y2 =>
            f_X7_tellRow_88 N n S y1 y2)) else none
def f_X7_tellRow (N : Nat) (S : St) (x1 : Int32) : Option (Int32 × St) :=
  if x1 < (nI 10) then
    bnd (x1) (fun y1 =>
      if y1 = (nI 0) then
        some (S 32 20, S)
      else
        if y1 = (nI 1) then
          some (S 32 21, S)
        else
          if y1 = (nI 2) then
            some (S 32 26, S)
          else
            if y1 = (nI 3) then
              some (S 32 22, S)
            else
              bnd ((nI 0)) (fun y2 =>
                bnd ((nI 0)) (fun y3 =>
                  f_X7_tellRow_88 N N S y2 y3)))
  else
    if (S 32 20) ≤ (x1 - (nI 10)) then
      some ((-9 : Int32), S)
    else
      if inb (x1 - (nI 10)) 5 = true then
        some (S 45 (x1 - (nI 10)).toNatClampNeg, S) else none
def f_X7_row_94 (N : Nat) : Nat → St → Int32 → Int32 → Int32 → Int32 → Int32 → Option (Int32 × St)
  | 0, _, _, _, _, _, _ => none
  | n + 1, S, x4, x5, x7, x8, x9 =>
    if x4 ≤ x9 then
      if x8 = (0 : Int32) then
        some ((-1 : Int32), S)
      else
        cal (f_X7_goRow N S x7 x4) (fun _ S1 =>
          cal (f_X7_tellRow N S1 x5) (fun r6 S4 =>
            some (r6, S4)))
    else
      if inb (x7 + x9) 240 = true then
        cal (f_X7_within N S (S 35 (x7 + x9).toNatClampNeg) (nI 0) (nI 10)) (fun r9 S7 =>
          if r9 = (0 : Int32) then
            some ((-2 : Int32), S7)
          else
            if x8 = (0 : Int32) then
              bnd ((nI 0)) (fun y10 =>
                bnd (x9 + (nI 1)) (fun y11 =>
                  f_X7_row_94 N n S7 x4 x5 x7 y10 y11))
            else
              if inb (x7 + x9) 240 = true then
                if (S7 35 (x7 + x9).toNatClampNeg) < (nI 8) then
                  bnd ((nI 1)) (fun y12 =>
                    bnd (x9 + (nI 1)) (fun y13 =>
                      f_X7_row_94 N n S7 x4 x5 x7 y12 y13))
                else
                  if inb (x7 + x9) 240 = true then
                    cal (f_X7_isMacro N S7 ((S7 35 (x7 + x9).toNatClampNeg) - (nI 8))) (fun r16 S14 =>
                      if r16 = (0 : Int32) then
                        bnd ((nI 0)) (fun y17 =>
                          bnd (x9 + (nI 1)) (fun y18 =>
                            f_X7_row_94 N n S14 x4 x5 x7 y17 y18))
                      else
                        bnd ((nI 1)) (fun y19 =>
                          bnd (x9 + (nI 1)) (fun y20 =>
                            f_X7_row_94 N n S14 x4 x5 x7 y19 y20))) else none else none) else none
def f_X7_row_57 (N : Nat) (S : St) (x1 : Int32) (x2 : Int32) (x3 : Int32) (x4 : Int32) (x5 : Int32) : Option (Int32 × St) :=
  cal (f_X7_against N S x1 x2 x3 x4) (fun r3 S1 =>
    if r3 = (0 : Int32) then
      bnd (((nI 60) * x1) + x3) (fun y4 =>
        bnd ((nI 1)) (fun y5 =>
          bnd ((nI 0)) (fun y6 =>
            f_X7_row_94 N N S1 x4 x5 y4 y5 y6)))
    else
      cal (f_X7_fails N S1 r3) (fun r9 S7 =>
        some (r9, S7)))
def f_X7_row (N : Nat) (S : St) (x1 : Int32) (x2 : Int32) (x3 : Int32) (x4 : Int32) (x5 : Int32) : Option (Int32 × St) :=
  bnd (st S 32 0 (nI 0)) (fun S1 =>
    cal (f_X7_isSheet N S1 x1) (fun r4 S2 =>
      if r4 = (0 : Int32) then
        some ((-1 : Int32), S2)
      else
        cal (f_X7_isSort N S2 x2) (fun r7 S5 =>
          if r7 = (0 : Int32) then
            some ((-2 : Int32), S5)
          else
            cal (f_X7_within N S5 x4 (nI 0) (nI 20)) (fun r10 S8 =>
              if r10 = (0 : Int32) then
                some ((-2 : Int32), S8)
              else
                cal (f_X7_within N S8 x5 (nI 0) (nI 4)) (fun r13 S11 =>
                  if r13 = (0 : Int32) then
                    cal (f_X7_within N S11 x5 (nI 10) (nI 14)) (fun r16 S14 =>
                      if r16 = (0 : Int32) then
                        some ((-2 : Int32), S14)
                      else
                        f_X7_row_57 N S14 x1 x2 x3 x4 x5)
                  else
                    f_X7_row_57 N S11 x1 x2 x3 x4 x5)))))
def f_X7_sheet_57 (N : Nat) : Nat → St → Int32 → Int32 → Option (Int32 × St)
  | 0, _, _, _ => none
  | n + 1, S, x1, x4 =>
    if (nI 60) ≤ x4 then
      some ((nI 1), S)
    else
      if inb (((nI 60) * x1) + x4) 240 = true then
        bnd (st S 35 (((nI 60) * x1) + x4).toNatClampNeg (nI 0)) (fun S1 =>
          bnd (x4 + (nI 1)) (fun y2 =>
            f_X7_sheet_57 N n S1 x1 y2)) else none
def f_X7_sheet (N : Nat) (S : St) (x1 : Int32) (x2 : Int32) (x3 : Int32) : Option (Int32 × St) :=
  bnd (st S 32 0 (nI 0)) (fun S1 =>
    cal (f_X7_isSheet N S1 x1) (fun r4 S2 =>
      if r4 = (0 : Int32) then
        some ((-1 : Int32), S2)
      else
        cal (f_X7_isSort N S2 x2) (fun r7 S5 =>
          if r7 = (0 : Int32) then
            some ((-2 : Int32), S5)
          else
            if x3 ≤ (nI 60) then
              if (0 : Int32) ≤ x3 then
                if inb x1 4 = true then
                  bnd (st S5 33 x1.toNatClampNeg x2) (fun S8 =>
                    if inb x1 4 = true then
                      bnd (st S8 34 x1.toNatClampNeg x3) (fun S9 =>
                        bnd ((nI 0)) (fun y10 =>
                          f_X7_sheet_57 N N S9 x1 y10)) else none) else none
              else
                cal (f_X7_fails N S5 (nI 4)) (fun r13 S11 =>
                  some (r13, S11))
            else
              some ((-2 : Int32), S5))))
def f_X7_still_18 (N : Nat) : Nat → St → Int32 → Int32 → Int32 → Option (Int32 × St)
  | 0, _, _, _, _ => none
  | n + 1, S, x1, x2, x3 =>
    if (nI 7737) ≤ x3 then
      some (x2, S)
    else
      if inb (((nI 7737) * x1) + x3) 85107 = true then
        if (S 49 (((nI 7737) * x1) + x3).toNatClampNeg) = x3 then
          bnd (x2 + (nI 1)) (fun y3 =>
            bnd (x3 + (nI 1)) (fun y4 =>
              f_X7_still_18 N n S x1 y3 y4))
        else
          bnd (x2 + (nI 0)) (fun y1 =>
            bnd (x3 + (nI 1)) (fun y2 =>
              f_X7_still_18 N n S x1 y1 y2)) else none
def f_X7_still (N : Nat) (S : St) (x1 : Int32) : Option (Int32 × St) :=
  cal (f_X7_isKey N S x1) (fun r3 S1 =>
    if r3 = (0 : Int32) then
      some ((-1 : Int32), S1)
    else
      cal (f_X7_findMakes N S1) (fun _ S4 =>
        bnd ((nI 0)) (fun y7 =>
          bnd ((nI 0)) (fun y8 =>
            f_X7_still_18 N N S4 x1 y7 y8))))
def f_X7_tell (N : Nat) (S : St) (x1 : Int32) : Option (Int32 × St) :=
  cal (f_X7_isMacro N S x1) (fun r3 S1 =>
    if r3 = (0 : Int32) then
      some ((-1 : Int32), S1)
    else
      if inb x1 3 = true then
        bnd (S1 37 x1.toNatClampNeg) (fun y4 =>
          if inb x1 3 = true then
            bnd (S1 36 x1.toNatClampNeg) (fun y5 =>
              if y5 = (nI 1) then
                cal (f_X7_begins N S1 (nI 2)) (fun _ S6 =>
                  cal (f_X7_begins N S6 (nI 1)) (fun _ S9 =>
                    some (y4 + (nI 100), S9)))
              else
                if y5 = (nI 2) then
                  cal (f_X7_begins N S1 (nI 3)) (fun _ S12 =>
                    cal (f_X7_begins N S12 (nI 2)) (fun _ S15 =>
                      cal (f_X7_begins N S15 (nI 1)) (fun _ S18 =>
                        cal (f_X7_begins N S18 (nI 1)) (fun _ S21 =>
                          some (((nI 2) * y4) + (nI 100), S21)))))
                else
                  cal (f_X7_begins N S1 (nI 1)) (fun _ S24 =>
                    some (y4, S24))) else none) else none)
def f_X7_times (N : Nat) (S : St) (x1 : Int32) (x2 : Int32) : Option (Int32 × St) :=
  cal (f_X7_isMacro N S x1) (fun r3 S1 =>
    if r3 = (0 : Int32) then
      some ((-1 : Int32), S1)
    else
      cal (f_X7_within N S1 x2 (nI 1) (nI 3)) (fun r6 S4 =>
        if r6 = (0 : Int32) then
          some ((-2 : Int32), S4)
        else
          if inb x1 3 = true then
            bnd (S4 37 x1.toNatClampNeg) (fun y7 =>
              if inb x1 3 = true then
                bnd (st S4 37 x1.toNatClampNeg x2) (fun S8 =>
                  bnd (st S8 32 27 (nI 0)) (fun S9 =>
                    some (y7, S9))) else none) else none))
def f_X7_timings_22 (N : Nat) : Nat → St → Int32 → Int32 → Int32 → Int32 → Option (Int32 × St)
  | 0, _, _, _, _, _ => none
  | n + 1, S, x1, x2, x3, x4 =>
    if (nI 3) < x4 then
      if inb x1 3 = true then
        bnd (st S 37 x1.toNatClampNeg x2) (fun S1 =>
          some (x3, S1)) else none
    else
      if inb x1 3 = true then
        bnd (st S 37 x1.toNatClampNeg x4) (fun S2 =>
          cal (f_X7_areSo N S2) (fun r5 S3 =>
            if r5 = (0 : Int32) then
              bnd (x3 ||| (nI 0)) (fun y6 =>
                bnd (x4 + (nI 1)) (fun y7 =>
                  f_X7_timings_22 N n S3 x1 x2 y6 y7))
            else
              bnd (x3 ||| ((nI 1) <<< (x4 &&& (31 : Int32)))) (fun y8 =>
                bnd (x4 + (nI 1)) (fun y9 =>
                  f_X7_timings_22 N n S3 x1 x2 y8 y9)))) else none
def f_X7_timings (N : Nat) (S : St) (x1 : Int32) : Option (Int32 × St) :=
  cal (f_X7_isMacro N S x1) (fun r3 S1 =>
    if r3 = (0 : Int32) then
      some ((-1 : Int32), S1)
    else
      if inb x1 3 = true then
        bnd (S1 37 x1.toNatClampNeg) (fun y4 =>
          bnd ((nI 0)) (fun y5 =>
            bnd ((nI 1)) (fun y6 =>
              f_X7_timings_22 N N S1 x1 y4 y5 y6))) else none)
def f_X7_trace (N : Nat) (S : St) : Option (Int32 × St) :=
  some (S 32 1, S)
def f_L_law_1087 (N : Nat) (xs : Nat → Int32) (L : Nat) (k18 : St → Int32 → Option (Int32 × St)) (S : St) (x3 : Int32) : Option (Int32 × St) :=
  if inb (x3 + (nI 1)) L = true then
    cal (f_X6_many N S (xs (x3 + (nI 1)).toNatClampNeg)) (fun r3 S1 =>
      if inb (x3 + (nI 1)) L = true then
        cal (f_X7_many N S1 (xs (x3 + (nI 1)).toNatClampNeg)) (fun r6 S4 =>
          if r3 = r6 then
            bnd (x3 + (nI 6)) (fun y7 =>
              k18 S4 y7)
          else
            some ((nI 0), S4)) else none) else none
def f_L_law_1074 (N : Nat) (xs : Nat → Int32) (L : Nat) (k18 : St → Int32 → Option (Int32 × St)) (S : St) (x3 : Int32) : Option (Int32 × St) :=
  cal (f_X6_fault N S) (fun r3 S1 =>
    cal (f_X7_fault N S1) (fun r6 S4 =>
      if r3 = r6 then
        bnd (x3 + (nI 6)) (fun y7 =>
          k18 S4 y7)
      else
        some ((nI 0), S4)))
def f_L_law_1061 (N : Nat) (xs : Nat → Int32) (L : Nat) (k18 : St → Int32 → Option (Int32 × St)) (S : St) (x3 : Int32) : Option (Int32 × St) :=
  cal (f_X6_trace N S) (fun r3 S1 =>
    cal (f_X7_trace N S1) (fun r6 S4 =>
      if r3 = r6 then
        bnd (x3 + (nI 6)) (fun y7 =>
          k18 S4 y7)
      else
        some ((nI 0), S4)))
def f_L_law_1028 (N : Nat) (xs : Nat → Int32) (L : Nat) (k18 : St → Int32 → Option (Int32 × St)) (S : St) (x3 : Int32) : Option (Int32 × St) :=
  if inb (x3 + (nI 1)) L = true then
    if inb (x3 + (nI 2)) L = true then
      cal (f_X6_as N S (xs (x3 + (nI 1)).toNatClampNeg) (xs (x3 + (nI 2)).toNatClampNeg)) (fun r3 S1 =>
        if inb (x3 + (nI 1)) L = true then
          if inb (x3 + (nI 2)) L = true then
            cal (f_X7_as N S1 (xs (x3 + (nI 1)).toNatClampNeg) (xs (x3 + (nI 2)).toNatClampNeg)) (fun r6 S4 =>
              if r3 = r6 then
                bnd (x3 + (nI 6)) (fun y7 =>
                  k18 S4 y7)
              else
                some ((nI 0), S4)) else none else none) else none else none
def f_L_law_1005 (N : Nat) (xs : Nat → Int32) (L : Nat) (k18 : St → Int32 → Option (Int32 × St)) (S : St) (x3 : Int32) : Option (Int32 × St) :=
  if inb (x3 + (nI 1)) L = true then
    cal (f_X6_click N S (xs (x3 + (nI 1)).toNatClampNeg)) (fun r3 S1 =>
      if inb (x3 + (nI 1)) L = true then
        cal (f_X7_click N S1 (xs (x3 + (nI 1)).toNatClampNeg)) (fun r6 S4 =>
          if r3 = r6 then
            bnd (x3 + (nI 6)) (fun y7 =>
              k18 S4 y7)
          else
            some ((nI 0), S4)) else none) else none
def f_L_law_982 (N : Nat) (xs : Nat → Int32) (L : Nat) (k18 : St → Int32 → Option (Int32 × St)) (S : St) (x3 : Int32) : Option (Int32 × St) :=
  if inb (x3 + (nI 1)) L = true then
    cal (f_X6_tell N S (xs (x3 + (nI 1)).toNatClampNeg)) (fun r3 S1 =>
      if inb (x3 + (nI 1)) L = true then
        cal (f_X7_tell N S1 (xs (x3 + (nI 1)).toNatClampNeg)) (fun r6 S4 =>
          if r3 = r6 then
            bnd (x3 + (nI 6)) (fun y7 =>
              k18 S4 y7)
          else
            some ((nI 0), S4)) else none) else none
def f_L_law_919 (N : Nat) (xs : Nat → Int32) (L : Nat) (k18 : St → Int32 → Option (Int32 × St)) (S : St) (x3 : Int32) : Option (Int32 × St) :=
  if inb (x3 + (nI 1)) L = true then
    if inb (x3 + (nI 2)) L = true then
      if inb (x3 + (nI 3)) L = true then
        if inb (x3 + (nI 4)) L = true then
          if inb (x3 + (nI 5)) L = true then
            cal (f_X6_copy N S (xs (x3 + (nI 1)).toNatClampNeg) (xs (x3 + (nI 2)).toNatClampNeg) (xs (x3 + (nI 3)).toNatClampNeg) (xs (x3 + (nI 4)).toNatClampNeg) (xs (x3 + (nI 5)).toNatClampNeg)) (fun r3 S1 =>
              if inb (x3 + (nI 1)) L = true then
                if inb (x3 + (nI 2)) L = true then
                  if inb (x3 + (nI 3)) L = true then
                    if inb (x3 + (nI 4)) L = true then
                      if inb (x3 + (nI 5)) L = true then
                        cal (f_X7_copy N S1 (xs (x3 + (nI 1)).toNatClampNeg) (xs (x3 + (nI 2)).toNatClampNeg) (xs (x3 + (nI 3)).toNatClampNeg) (xs (x3 + (nI 4)).toNatClampNeg) (xs (x3 + (nI 5)).toNatClampNeg)) (fun r6 S4 =>
                          if r3 = r6 then
                            bnd (x3 + (nI 6)) (fun y7 =>
                              k18 S4 y7)
                          else
                            some ((nI 0), S4)) else none else none else none else none else none) else none else none else none else none else none
def f_L_law_875 (N : Nat) (xs : Nat → Int32) (L : Nat) (k18 : St → Int32 → Option (Int32 × St)) (S : St) (x3 : Int32) : Option (Int32 × St) :=
  if inb (x3 + (nI 1)) L = true then
    if inb (x3 + (nI 2)) L = true then
      if inb (x3 + (nI 3)) L = true then
        cal (f_X6_cell N S (xs (x3 + (nI 1)).toNatClampNeg) (xs (x3 + (nI 2)).toNatClampNeg) (xs (x3 + (nI 3)).toNatClampNeg)) (fun r3 S1 =>
          if inb (x3 + (nI 1)) L = true then
            if inb (x3 + (nI 2)) L = true then
              if inb (x3 + (nI 3)) L = true then
                cal (f_X7_cell N S1 (xs (x3 + (nI 1)).toNatClampNeg) (xs (x3 + (nI 2)).toNatClampNeg) (xs (x3 + (nI 3)).toNatClampNeg)) (fun r6 S4 =>
                  if (lg_cmp r3 r6) = (0 : Int32) then
                    bnd (x3 + (nI 6)) (fun y7 =>
                      k18 S4 y7)
                  else
                    some ((nI 0), S4)) else none else none else none) else none else none else none
def f_L_law_832 (N : Nat) (xs : Nat → Int32) (L : Nat) (k18 : St → Int32 → Option (Int32 × St)) (S : St) (x3 : Int32) : Option (Int32 × St) :=
  if inb (x3 + (nI 1)) L = true then
    if inb (x3 + (nI 2)) L = true then
      if inb (x3 + (nI 3)) L = true then
        cal (f_X6_put N S (xs (x3 + (nI 1)).toNatClampNeg) (xs (x3 + (nI 2)).toNatClampNeg) (xs (x3 + (nI 3)).toNatClampNeg)) (fun r3 S1 =>
          if inb (x3 + (nI 1)) L = true then
            if inb (x3 + (nI 2)) L = true then
              if inb (x3 + (nI 3)) L = true then
                cal (f_X7_put N S1 (xs (x3 + (nI 1)).toNatClampNeg) (xs (x3 + (nI 2)).toNatClampNeg) (xs (x3 + (nI 3)).toNatClampNeg)) (fun r6 S4 =>
                  if r3 = r6 then
                    bnd (x3 + (nI 6)) (fun y7 =>
                      k18 S4 y7)
                  else
                    some ((nI 0), S4)) else none else none else none) else none else none else none
def f_L_law_809 (N : Nat) (xs : Nat → Int32) (L : Nat) (k18 : St → Int32 → Option (Int32 × St)) (S : St) (x3 : Int32) : Option (Int32 × St) :=
  if inb (x3 + (nI 1)) L = true then
    cal (f_X6_lose N S (xs (x3 + (nI 1)).toNatClampNeg)) (fun r3 S1 =>
      if inb (x3 + (nI 1)) L = true then
        cal (f_X7_lose N S1 (xs (x3 + (nI 1)).toNatClampNeg)) (fun r6 S4 =>
          if r3 = r6 then
            bnd (x3 + (nI 6)) (fun y7 =>
              k18 S4 y7)
          else
            some ((nI 0), S4)) else none) else none
def f_L_law_766 (N : Nat) (xs : Nat → Int32) (L : Nat) (k18 : St → Int32 → Option (Int32 × St)) (S : St) (x3 : Int32) : Option (Int32 × St) :=
  if inb (x3 + (nI 1)) L = true then
    if inb (x3 + (nI 2)) L = true then
      if inb (x3 + (nI 3)) L = true then
        cal (f_X6_sheet N S (xs (x3 + (nI 1)).toNatClampNeg) (xs (x3 + (nI 2)).toNatClampNeg) (xs (x3 + (nI 3)).toNatClampNeg)) (fun r3 S1 =>
          if inb (x3 + (nI 1)) L = true then
            if inb (x3 + (nI 2)) L = true then
              if inb (x3 + (nI 3)) L = true then
                cal (f_X7_sheet N S1 (xs (x3 + (nI 1)).toNatClampNeg) (xs (x3 + (nI 2)).toNatClampNeg) (xs (x3 + (nI 3)).toNatClampNeg)) (fun r6 S4 =>
                  if r3 = r6 then
                    bnd (x3 + (nI 6)) (fun y7 =>
                      k18 S4 y7)
                  else
                    some ((nI 0), S4)) else none else none else none) else none else none else none
def f_L_law_732 (N : Nat) (xs : Nat → Int32) (L : Nat) (k18 : St → Int32 → Option (Int32 × St)) (S : St) (x3 : Int32) : Option (Int32 × St) :=
  if inb (x3 + (nI 1)) L = true then
    if inb (x3 + (nI 2)) L = true then
      cal (f_X6_odds N S (xs (x3 + (nI 1)).toNatClampNeg) (xs (x3 + (nI 2)).toNatClampNeg)) (fun r3 S1 =>
        if inb (x3 + (nI 1)) L = true then
          if inb (x3 + (nI 2)) L = true then
            cal (f_X7_odds N S1 (xs (x3 + (nI 1)).toNatClampNeg) (xs (x3 + (nI 2)).toNatClampNeg)) (fun r6 S4 =>
              if (lg_cmp r3 r6) = (0 : Int32) then
                bnd (x3 + (nI 6)) (fun y7 =>
                  k18 S4 y7)
              else
                some ((nI 0), S4)) else none else none) else none else none
def f_L_law_709 (N : Nat) (xs : Nat → Int32) (L : Nat) (k18 : St → Int32 → Option (Int32 × St)) (S : St) (x3 : Int32) : Option (Int32 × St) :=
  if inb (x3 + (nI 1)) L = true then
    cal (f_X6_kinds N S (xs (x3 + (nI 1)).toNatClampNeg)) (fun r3 S1 =>
      if inb (x3 + (nI 1)) L = true then
        cal (f_X7_kinds N S1 (xs (x3 + (nI 1)).toNatClampNeg)) (fun r6 S4 =>
          if r3 = r6 then
            bnd (x3 + (nI 6)) (fun y7 =>
              k18 S4 y7)
          else
            some ((nI 0), S4)) else none) else none
def f_L_law_686 (N : Nat) (xs : Nat → Int32) (L : Nat) (k18 : St → Int32 → Option (Int32 × St)) (S : St) (x3 : Int32) : Option (Int32 × St) :=
  if inb (x3 + (nI 1)) L = true then
    cal (f_X6_timings N S (xs (x3 + (nI 1)).toNatClampNeg)) (fun r3 S1 =>
      if inb (x3 + (nI 1)) L = true then
        cal (f_X7_timings N S1 (xs (x3 + (nI 1)).toNatClampNeg)) (fun r6 S4 =>
          if r3 = r6 then
            bnd (x3 + (nI 6)) (fun y7 =>
              k18 S4 y7)
          else
            some ((nI 0), S4)) else none) else none
def f_L_law_663 (N : Nat) (xs : Nat → Int32) (L : Nat) (k18 : St → Int32 → Option (Int32 × St)) (S : St) (x3 : Int32) : Option (Int32 × St) :=
  if inb (x3 + (nI 1)) L = true then
    cal (f_X6_back N S (xs (x3 + (nI 1)).toNatClampNeg)) (fun r3 S1 =>
      if inb (x3 + (nI 1)) L = true then
        cal (f_X7_back N S1 (xs (x3 + (nI 1)).toNatClampNeg)) (fun r6 S4 =>
          if r3 = r6 then
            bnd (x3 + (nI 6)) (fun y7 =>
              k18 S4 y7)
          else
            some ((nI 0), S4)) else none) else none
def f_L_law_630 (N : Nat) (xs : Nat → Int32) (L : Nat) (k18 : St → Int32 → Option (Int32 × St)) (S : St) (x3 : Int32) : Option (Int32 × St) :=
  if inb (x3 + (nI 1)) L = true then
    if inb (x3 + (nI 2)) L = true then
      cal (f_X6_reading N S (xs (x3 + (nI 1)).toNatClampNeg) (xs (x3 + (nI 2)).toNatClampNeg)) (fun r3 S1 =>
        if inb (x3 + (nI 1)) L = true then
          if inb (x3 + (nI 2)) L = true then
            cal (f_X7_reading N S1 (xs (x3 + (nI 1)).toNatClampNeg) (xs (x3 + (nI 2)).toNatClampNeg)) (fun r6 S4 =>
              if r3 = r6 then
                bnd (x3 + (nI 6)) (fun y7 =>
                  k18 S4 y7)
              else
                some ((nI 0), S4)) else none else none) else none else none
def f_L_law_617 (N : Nat) (xs : Nat → Int32) (L : Nat) (k18 : St → Int32 → Option (Int32 × St)) (S : St) (x3 : Int32) : Option (Int32 × St) :=
  cal (f_X6_come N S) (fun r3 S1 =>
    cal (f_X7_come N S1) (fun r6 S4 =>
      if r3 = r6 then
        bnd (x3 + (nI 6)) (fun y7 =>
          k18 S4 y7)
      else
        some ((nI 0), S4)))
def f_L_law_594 (N : Nat) (xs : Nat → Int32) (L : Nat) (k18 : St → Int32 → Option (Int32 × St)) (S : St) (x3 : Int32) : Option (Int32 × St) :=
  if inb (x3 + (nI 1)) L = true then
    cal (f_X6_still N S (xs (x3 + (nI 1)).toNatClampNeg)) (fun r3 S1 =>
      if inb (x3 + (nI 1)) L = true then
        cal (f_X7_still N S1 (xs (x3 + (nI 1)).toNatClampNeg)) (fun r6 S4 =>
          if r3 = r6 then
            bnd (x3 + (nI 6)) (fun y7 =>
              k18 S4 y7)
          else
            some ((nI 0), S4)) else none) else none
def f_L_law_561 (N : Nat) (xs : Nat → Int32) (L : Nat) (k18 : St → Int32 → Option (Int32 × St)) (S : St) (x3 : Int32) : Option (Int32 × St) :=
  if inb (x3 + (nI 1)) L = true then
    if inb (x3 + (nI 2)) L = true then
      cal (f_X6_like N S (xs (x3 + (nI 1)).toNatClampNeg) (xs (x3 + (nI 2)).toNatClampNeg)) (fun r3 S1 =>
        if inb (x3 + (nI 1)) L = true then
          if inb (x3 + (nI 2)) L = true then
            cal (f_X7_like N S1 (xs (x3 + (nI 1)).toNatClampNeg) (xs (x3 + (nI 2)).toNatClampNeg)) (fun r6 S4 =>
              if r3 = r6 then
                bnd (x3 + (nI 6)) (fun y7 =>
                  k18 S4 y7)
              else
                some ((nI 0), S4)) else none else none) else none else none
def f_L_law_528 (N : Nat) (xs : Nat → Int32) (L : Nat) (k18 : St → Int32 → Option (Int32 × St)) (S : St) (x3 : Int32) : Option (Int32 × St) :=
  if inb (x3 + (nI 1)) L = true then
    if inb (x3 + (nI 2)) L = true then
      cal (f_X6_again N S (xs (x3 + (nI 1)).toNatClampNeg) (xs (x3 + (nI 2)).toNatClampNeg)) (fun r3 S1 =>
        if inb (x3 + (nI 1)) L = true then
          if inb (x3 + (nI 2)) L = true then
            cal (f_X7_again N S1 (xs (x3 + (nI 1)).toNatClampNeg) (xs (x3 + (nI 2)).toNatClampNeg)) (fun r6 S4 =>
              if r3 = r6 then
                bnd (x3 + (nI 6)) (fun y7 =>
                  k18 S4 y7)
              else
                some ((nI 0), S4)) else none else none) else none else none
def f_L_law_465 (N : Nat) (xs : Nat → Int32) (L : Nat) (k18 : St → Int32 → Option (Int32 × St)) (S : St) (x3 : Int32) : Option (Int32 × St) :=
  if inb (x3 + (nI 1)) L = true then
    if inb (x3 + (nI 2)) L = true then
      if inb (x3 + (nI 3)) L = true then
        if inb (x3 + (nI 4)) L = true then
          if inb (x3 + (nI 5)) L = true then
            cal (f_X6_fewest N S (xs (x3 + (nI 1)).toNatClampNeg) (xs (x3 + (nI 2)).toNatClampNeg) (xs (x3 + (nI 3)).toNatClampNeg) (xs (x3 + (nI 4)).toNatClampNeg) (xs (x3 + (nI 5)).toNatClampNeg)) (fun r3 S1 =>
              if inb (x3 + (nI 1)) L = true then
                if inb (x3 + (nI 2)) L = true then
                  if inb (x3 + (nI 3)) L = true then
                    if inb (x3 + (nI 4)) L = true then
                      if inb (x3 + (nI 5)) L = true then
                        cal (f_X7_fewest N S1 (xs (x3 + (nI 1)).toNatClampNeg) (xs (x3 + (nI 2)).toNatClampNeg) (xs (x3 + (nI 3)).toNatClampNeg) (xs (x3 + (nI 4)).toNatClampNeg) (xs (x3 + (nI 5)).toNatClampNeg)) (fun r6 S4 =>
                          if r3 = r6 then
                            bnd (x3 + (nI 6)) (fun y7 =>
                              k18 S4 y7)
                          else
                            some ((nI 0), S4)) else none else none else none else none else none) else none else none else none else none else none
def f_L_law_402 (N : Nat) (xs : Nat → Int32) (L : Nat) (k18 : St → Int32 → Option (Int32 × St)) (S : St) (x3 : Int32) : Option (Int32 × St) :=
  if inb (x3 + (nI 1)) L = true then
    if inb (x3 + (nI 2)) L = true then
      if inb (x3 + (nI 3)) L = true then
        if inb (x3 + (nI 4)) L = true then
          if inb (x3 + (nI 5)) L = true then
            cal (f_X6_row N S (xs (x3 + (nI 1)).toNatClampNeg) (xs (x3 + (nI 2)).toNatClampNeg) (xs (x3 + (nI 3)).toNatClampNeg) (xs (x3 + (nI 4)).toNatClampNeg) (xs (x3 + (nI 5)).toNatClampNeg)) (fun r3 S1 =>
              if inb (x3 + (nI 1)) L = true then
                if inb (x3 + (nI 2)) L = true then
                  if inb (x3 + (nI 3)) L = true then
                    if inb (x3 + (nI 4)) L = true then
                      if inb (x3 + (nI 5)) L = true then
                        cal (f_X7_row N S1 (xs (x3 + (nI 1)).toNatClampNeg) (xs (x3 + (nI 2)).toNatClampNeg) (xs (x3 + (nI 3)).toNatClampNeg) (xs (x3 + (nI 4)).toNatClampNeg) (xs (x3 + (nI 5)).toNatClampNeg)) (fun r6 S4 =>
                          if r3 = r6 then
                            bnd (x3 + (nI 6)) (fun y7 =>
                              k18 S4 y7)
                          else
                            some ((nI 0), S4)) else none else none else none else none else none) else none else none else none else none else none
def f_L_law_389 (N : Nat) (xs : Nat → Int32) (L : Nat) (k18 : St → Int32 → Option (Int32 × St)) (S : St) (x3 : Int32) : Option (Int32 × St) :=
  cal (f_X6_clear N S) (fun r3 S1 =>
    cal (f_X7_clear N S1) (fun r6 S4 =>
      if r3 = r6 then
        bnd (x3 + (nI 6)) (fun y7 =>
          k18 S4 y7)
      else
        some ((nI 0), S4)))
def f_L_law_366 (N : Nat) (xs : Nat → Int32) (L : Nat) (k18 : St → Int32 → Option (Int32 × St)) (S : St) (x3 : Int32) : Option (Int32 × St) :=
  if inb (x3 + (nI 1)) L = true then
    cal (f_X6_letter N S (xs (x3 + (nI 1)).toNatClampNeg)) (fun r3 S1 =>
      if inb (x3 + (nI 1)) L = true then
        cal (f_X7_letter N S1 (xs (x3 + (nI 1)).toNatClampNeg)) (fun r6 S4 =>
          if r3 = r6 then
            bnd (x3 + (nI 6)) (fun y7 =>
              k18 S4 y7)
          else
            some ((nI 0), S4)) else none) else none
def f_L_law_343 (N : Nat) (xs : Nat → Int32) (L : Nat) (k18 : St → Int32 → Option (Int32 × St)) (S : St) (x3 : Int32) : Option (Int32 × St) :=
  if inb (x3 + (nI 1)) L = true then
    cal (f_X6_play N S (xs (x3 + (nI 1)).toNatClampNeg)) (fun r3 S1 =>
      if inb (x3 + (nI 1)) L = true then
        cal (f_X7_play N S1 (xs (x3 + (nI 1)).toNatClampNeg)) (fun r6 S4 =>
          if r3 = r6 then
            bnd (x3 + (nI 6)) (fun y7 =>
              k18 S4 y7)
          else
            some ((nI 0), S4)) else none) else none
def f_L_law_320 (N : Nat) (xs : Nat → Int32) (L : Nat) (k18 : St → Int32 → Option (Int32 × St)) (S : St) (x3 : Int32) : Option (Int32 × St) :=
  if inb (x3 + (nI 1)) L = true then
    cal (f_X6_press N S (xs (x3 + (nI 1)).toNatClampNeg)) (fun r3 S1 =>
      if inb (x3 + (nI 1)) L = true then
        cal (f_X7_press N S1 (xs (x3 + (nI 1)).toNatClampNeg)) (fun r6 S4 =>
          if r3 = r6 then
            bnd (x3 + (nI 6)) (fun y7 =>
              k18 S4 y7)
          else
            some ((nI 0), S4)) else none) else none
def f_L_law_287 (N : Nat) (xs : Nat → Int32) (L : Nat) (k18 : St → Int32 → Option (Int32 × St)) (S : St) (x3 : Int32) : Option (Int32 × St) :=
  if inb (x3 + (nI 1)) L = true then
    if inb (x3 + (nI 2)) L = true then
      cal (f_X6_times N S (xs (x3 + (nI 1)).toNatClampNeg) (xs (x3 + (nI 2)).toNatClampNeg)) (fun r3 S1 =>
        if inb (x3 + (nI 1)) L = true then
          if inb (x3 + (nI 2)) L = true then
            cal (f_X7_times N S1 (xs (x3 + (nI 1)).toNatClampNeg) (xs (x3 + (nI 2)).toNatClampNeg)) (fun r6 S4 =>
              if r3 = r6 then
                bnd (x3 + (nI 6)) (fun y7 =>
                  k18 S4 y7)
              else
                some ((nI 0), S4)) else none else none) else none else none
def f_L_law_254 (N : Nat) (xs : Nat → Int32) (L : Nat) (k18 : St → Int32 → Option (Int32 × St)) (S : St) (x3 : Int32) : Option (Int32 × St) :=
  if inb (x3 + (nI 1)) L = true then
    if inb (x3 + (nI 2)) L = true then
      cal (f_X6_key N S (xs (x3 + (nI 1)).toNatClampNeg) (xs (x3 + (nI 2)).toNatClampNeg)) (fun r3 S1 =>
        if inb (x3 + (nI 1)) L = true then
          if inb (x3 + (nI 2)) L = true then
            cal (f_X7_key N S1 (xs (x3 + (nI 1)).toNatClampNeg) (xs (x3 + (nI 2)).toNatClampNeg)) (fun r6 S4 =>
              if r3 = r6 then
                bnd (x3 + (nI 6)) (fun y7 =>
                  k18 S4 y7)
              else
                some ((nI 0), S4)) else none else none) else none else none
def f_L_law_221 (N : Nat) (xs : Nat → Int32) (L : Nat) (k18 : St → Int32 → Option (Int32 × St)) (S : St) (x3 : Int32) : Option (Int32 × St) :=
  if inb (x3 + (nI 1)) L = true then
    if inb (x3 + (nI 2)) L = true then
      cal (f_X6_ofMacro N S (xs (x3 + (nI 1)).toNatClampNeg) (xs (x3 + (nI 2)).toNatClampNeg)) (fun r3 S1 =>
        if inb (x3 + (nI 1)) L = true then
          if inb (x3 + (nI 2)) L = true then
            cal (f_X7_ofMacro N S1 (xs (x3 + (nI 1)).toNatClampNeg) (xs (x3 + (nI 2)).toNatClampNeg)) (fun r6 S4 =>
              if r3 = r6 then
                bnd (x3 + (nI 6)) (fun y7 =>
                  k18 S4 y7)
              else
                some ((nI 0), S4)) else none else none) else none else none
def f_L_law_168 (N : Nat) (xs : Nat → Int32) (L : Nat) (k18 : St → Int32 → Option (Int32 × St)) (S : St) (x3 : Int32) : Option (Int32 × St) :=
  if inb (x3 + (nI 1)) L = true then
    if inb (x3 + (nI 2)) L = true then
      if inb (x3 + (nI 3)) L = true then
        if inb (x3 + (nI 4)) L = true then
          cal (f_X6_macros N S (xs (x3 + (nI 1)).toNatClampNeg) (xs (x3 + (nI 2)).toNatClampNeg) (xs (x3 + (nI 3)).toNatClampNeg) (xs (x3 + (nI 4)).toNatClampNeg)) (fun r3 S1 =>
            if inb (x3 + (nI 1)) L = true then
              if inb (x3 + (nI 2)) L = true then
                if inb (x3 + (nI 3)) L = true then
                  if inb (x3 + (nI 4)) L = true then
                    cal (f_X7_macros N S1 (xs (x3 + (nI 1)).toNatClampNeg) (xs (x3 + (nI 2)).toNatClampNeg) (xs (x3 + (nI 3)).toNatClampNeg) (xs (x3 + (nI 4)).toNatClampNeg)) (fun r6 S4 =>
                      if r3 = r6 then
                        bnd (x3 + (nI 6)) (fun y7 =>
                          k18 S4 y7)
                      else
                        some ((nI 0), S4)) else none else none else none else none) else none else none else none else none
def f_L_law_18 (N : Nat) (xs : Nat → Int32) (L : Nat) : Nat → St → Int32 → Option (Int32 × St)
  | 0, _, _ => none
  | n + 1, S, x3 =>
    if ((Int32.ofNat L) - (nI 6)) < x3 then
      some ((nI 1), S)
    else
      if inb x3 L = true then
        bnd ((xs x3.toNatClampNeg) &&& (nI 31)) (fun y1 =>
          if y1 = (nI 0) then
            f_L_law_168 N xs L (f_L_law_18 N xs L n) S x3
          else
            if y1 = (nI 1) then
              f_L_law_221 N xs L (f_L_law_18 N xs L n) S x3
            else
              if y1 = (nI 2) then
                f_L_law_254 N xs L (f_L_law_18 N xs L n) S x3
              else
                if y1 = (nI 3) then
                  f_L_law_287 N xs L (f_L_law_18 N xs L n) S x3
                else
                  if y1 = (nI 4) then
                    f_L_law_320 N xs L (f_L_law_18 N xs L n) S x3
                  else
                    if y1 = (nI 5) then
                      f_L_law_343 N xs L (f_L_law_18 N xs L n) S x3
                    else
                      if y1 = (nI 6) then
                        f_L_law_366 N xs L (f_L_law_18 N xs L n) S x3
                      else
                        if y1 = (nI 7) then
                          f_L_law_389 N xs L (f_L_law_18 N xs L n) S x3
                        else
                          if y1 = (nI 8) then
                            f_L_law_402 N xs L (f_L_law_18 N xs L n) S x3
                          else
                            if y1 = (nI 9) then
                              f_L_law_465 N xs L (f_L_law_18 N xs L n) S x3
                            else
                              if y1 = (nI 10) then
                                f_L_law_528 N xs L (f_L_law_18 N xs L n) S x3
                              else
                                if y1 = (nI 11) then
                                  f_L_law_561 N xs L (f_L_law_18 N xs L n) S x3
                                else
                                  if y1 = (nI 12) then
                                    f_L_law_594 N xs L (f_L_law_18 N xs L n) S x3
                                  else
                                    if y1 = (nI 13) then
                                      f_L_law_617 N xs L (f_L_law_18 N xs L n) S x3
                                    else
                                      if y1 = (nI 14) then
                                        f_L_law_630 N xs L (f_L_law_18 N xs L n) S x3
                                      else
                                        if y1 = (nI 15) then
                                          f_L_law_663 N xs L (f_L_law_18 N xs L n) S x3
                                        else
                                          if y1 = (nI 16) then
                                            f_L_law_686 N xs L (f_L_law_18 N xs L n) S x3
                                          else
                                            if y1 = (nI 17) then
                                              f_L_law_709 N xs L (f_L_law_18 N xs L n) S x3
                                            else
                                              if y1 = (nI 18) then
                                                f_L_law_732 N xs L (f_L_law_18 N xs L n) S x3
                                              else
                                                if y1 = (nI 19) then
                                                  f_L_law_766 N xs L (f_L_law_18 N xs L n) S x3
                                                else
                                                  if y1 = (nI 20) then
                                                    f_L_law_809 N xs L (f_L_law_18 N xs L n) S x3
                                                  else
                                                    if y1 = (nI 21) then
                                                      f_L_law_832 N xs L (f_L_law_18 N xs L n) S x3
                                                    else
                                                      if y1 = (nI 22) then
                                                        f_L_law_875 N xs L (f_L_law_18 N xs L n) S x3
                                                      else
                                                        if y1 = (nI 23) then
                                                          f_L_law_919 N xs L (f_L_law_18 N xs L n) S x3
                                                        else
                                                          if y1 = (nI 24) then
                                                            f_L_law_982 N xs L (f_L_law_18 N xs L n) S x3
                                                          else
                                                            if y1 = (nI 25) then
                                                              f_L_law_1005 N xs L (f_L_law_18 N xs L n) S x3
                                                            else
                                                              if y1 = (nI 26) then
                                                                f_L_law_1028 N xs L (f_L_law_18 N xs L n) S x3
                                                              else
                                                                if y1 = (nI 27) then
                                                                  f_L_law_1061 N xs L (f_L_law_18 N xs L n) S x3
                                                                else
                                                                  if y1 = (nI 28) then
                                                                    f_L_law_1074 N xs L (f_L_law_18 N xs L n) S x3
                                                                  else
                                                                    if y1 = (nI 29) then
                                                                      f_L_law_1087 N xs L (f_L_law_18 N xs L n) S x3
                                                                    else
                                                                      bnd (x3 + (nI 6)) (fun y2 =>
                                                                        f_L_law_18 N xs L n S y2)) else none
def f_L_law_16 (N : Nat) (xs : Nat → Int32) (L : Nat) (S : St) : Option (Int32 × St) :=
  bnd ((nI 0)) (fun y1 =>
    f_L_law_18 N xs L N S y1)
