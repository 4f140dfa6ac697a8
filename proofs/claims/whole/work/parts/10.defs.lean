def F_X0_refuse (t : Nat) (p0 : Int32) (M : Mem) : Int32 × Mem :=
  ((-1), (F_X11_put (t + 11) 3 p0 ((F_X11_at (t + 11) 3 p0 M) + 1) M))
def L_X1_copy_10 (t : Nat) (w0 : Nat) : Nat → Int32 → Mem → Option (Mem)
  | 0, _, _ => none
  | m9 + 1, x2, M =>
    if ((M t 1) * 25) ≤ x2 then
      some M
    else
      L_X1_copy_10 t w0 m9 (x2 + 1) (F_X11_put (t + 1) 1000 x2 (F_X11_at (w0 + 1) 1000 x2 M) M)
def F_X1_copy (t : Nat) (w0 : Nat) (M : Mem) : Option (Mem) :=
  (L_X1_copy_10 t w0 FU 0 (up M t 1 (M w0 1))).bind fun s3 =>
  some s3
def L_X1_dropOldest_2 (t : Nat) : Nat → Int32 → Mem → Option (Mem)
  | 0, _, _ => none
  | m9 + 1, x1, M =>
    if 1000 ≤ (x1 + 25) then
      some M
    else
      (ald M (t + 1) 1000 (x1 + 25)).bind fun v2 =>
      (ast M (t + 1) 1000 x1 v2).bind fun M3 =>
      L_X1_dropOldest_2 t m9 (x1 + 1) M3
def F_X1_dropOldest (t : Nat) (M : Mem) : Option (Mem) :=
  (L_X1_dropOldest_2 t FU 0 M).bind fun s5 =>
  some (up s5 t 1 ((s5 t 1) - 1))
def F_X2_start (t : Nat) (p0 : Int32) (M : Mem) : Mem :=
  (up M t 0 p0)
def F_X2_draw (t : Nat) (p0 : Int32) (M : Mem) : Option (Int32 × Mem) :=
  if p0 ≤ 0 then
    some (0, (up M t 0 (((M t 0) * 1103515245) + 12345)))
  else
    (irm ((iushr ((up M t 0 (((M t 0) * 1103515245) + 12345)) t 0) 16) &&& 32767) p0).bind fun v2 =>
    some (v2, (up M t 0 (((M t 0) * 1103515245) + 12345)))
def F_X3_allTogether (t : Nat) (M : Mem) : Int32 :=
  (F_X11_at (t + 2) 1024 0 M)
def F_X3_sumWith (t : Nat) (p0 : Int32) (p1 : Int32) (p2 : Int32) (M : Mem) : Int32 :=
  if (F_X11_at (t + 1) 49 ((p0 * 7) + p1) M) ≤ 0 then
    (-1)
  else
    if ((p2 >>> (p1 &&& 31)) &&& 1) = 0 then
      ((F_X11_at (t + 1) 49 ((p0 * 7) + p1) M) + (F_X11_at (t + 2) 1024 (((p0 + 1) * 128) + (p2 ||| ((1 : Int32) <<< (p1 &&& 31)))) M))
    else
      (-1)
def L_X3_bestFrom_20 (t : Nat) (x1 : Int32) (x2 : Int32) (M : Mem) : Nat → Int32 → Int32 → Option (Int32)
  | 0, _, _ => none
  | m9 + 1, x3, x4 =>
    if 7 ≤ x4 then
      some x3
    else
      L_X3_bestFrom_20 t x1 x2 M m9 (imax x3 (F_X3_sumWith t x1 x4 x2 M)) (x4 + 1)
def F_X3_bestFrom (t : Nat) (p0 : Int32) (p1 : Int32) (M : Mem) : Option (Int32) :=
  (L_X3_bestFrom_20 t p0 p1 M FU (F_X11_at (t + 2) 1024 (((p0 + 1) * 128) + p1) M) 0).bind fun s3 =>
  some s3
def L_X3_takerOf_18 (t : Nat) (x1 : Int32) (x2 : Int32) (x3 : Int32) (M : Mem) : Nat → Int32 → Option (Sum (Int32) (Unit))
  | 0, _ => none
  | m9 + 1, x4 =>
    if 7 ≤ x4 then
      some (Sum.inr ())
    else
      if (F_X3_sumWith t x1 x4 x2 M) = x3 then
        some (Sum.inl x4)
      else
        L_X3_takerOf_18 t x1 x2 x3 M m9 (x4 + 1)
def F_X3_takerOf (t : Nat) (p0 : Int32) (p1 : Int32) (M : Mem) : Option (Int32) :=
  (L_X3_takerOf_18 t p0 p1 (F_X11_at (t + 2) 1024 ((p0 * 128) + p1) M) M FU 0).bind fun q3 => Sum.elim (fun v => some v) (fun s4 =>
  some (-1)) q3
def L_X4_note_43 (t : Nat) (x2 : Int32) (x3 : Int32) (M : Mem) : Nat → Int32 → Int32 → Option (Int32)
  | 0, _, _ => none
  | m9 + 1, x4, x5 =>
    if x2 ≤ x5 then
      some x4
    else
      L_X4_note_43 t x2 x3 M m9 (x4 ||| ((((F_X11_at (t + 1) 7 x5 M) >>> (x3 &&& 31)) &&& 1) <<< (x5 &&& 31))) (x5 + 1)
def L_X4_note_31 (t : Nat) (x2 : Int32) : Nat → Int32 → Mem → Option (Mem)
  | 0, _, _ => none
  | m9 + 1, x3, M =>
    if 12 ≤ x3 then
      some M
    else
      (L_X4_note_43 t x2 x3 M FU 0 0).bind fun s6 =>
      L_X4_note_31 t x2 m9 (x3 + 1) (F_X11_put (t + 2) 48 (((x3 * 128) + s6) / 32) ((F_X11_at (t + 2) 48 (((x3 * 128) + s6) / 32) M) ||| ((1 : Int32) <<< ((irem ((x3 * 128) + s6) 32) &&& 31))) M)
def F_X4_note (t : Nat) (p0 : Int32) (p1 : Int32) (M : Mem) : Option (Mem) :=
  (L_X4_note_31 t p1 FU 0 (up (up M t 3 (if (M t 2) = 0 then p0 else (M t 3))) t 2 (((up M t 3 (if (M t 2) = 0 then p0 else (M t 3))) t 2) + 1))).bind fun s8 =>
  some s8
def L_X5_append_3 (t : Nat) (x1 : Int32) : Nat → Int32 → Mem → Option (Mem)
  | 0, _, _ => none
  | m9 + 1, x2, M =>
    if x2 < 0 then
      some M
    else
      L_X5_append_3 t x1 m9 (x2 + (-8)) (up (F_X11_put (t + 1) 700 (M t 1) ((x1 >>> (x2 &&& 31)) &&& 255) M) t 1 (((F_X11_put (t + 1) 700 (M t 1) ((x1 >>> (x2 &&& 31)) &&& 255) M) t 1) + 1))
def F_X5_append (t : Nat) (p0 : Int32) (M : Mem) : Option (Mem) :=
  (L_X5_append_3 t p0 FU 24 M).bind fun s3 =>
  some s3
def F_X5_exchange (t : Nat) (w0 : Nat) (M : Mem) : Option (Nat × Mem) :=
  (grd (M t 2)).bind fun w1 =>
  some (w1, (up M t 2 (nI w0)))
def F_X5_isBlank (p0 : Int32) : Bool :=
  if p0 = 32 then
    true
  else
    if p0 = 10 then
      true
    else
      false
def F_X5_isLetter (p0 : Int32) : Bool :=
  if p0 < 97 then
    false
  else
    if 122 < p0 then
      false
    else
      true
def F_X5_isDigit (p0 : Int32) : Bool :=
  if p0 < 48 then
    false
  else
    if 57 < p0 then
      false
    else
      true
def J_X5_isSign_j12 (x0 : Int32) (M : Mem) : Bool :=
  if x0 = 45 then
    true
  else
    if x0 = 47 then
      true
    else
      if x0 < 59 then
        false
      else
        if 61 < x0 then
          false
        else
          true
def F_X5_isSign (p0 : Int32) (M : Mem) : Bool :=
  if p0 < 40 then
    J_X5_isSign_j12 p0 M
  else
    if p0 ≤ 43 then
      true
    else
      J_X5_isSign_j12 p0 M
def L_X5_isWord_28 (t : Nat) (u0 : Nat) (M : Mem) : Nat → Int32 → Option (Sum (Bool) (Unit))
  | 0, _ => none
  | m9 + 1, x2 =>
    if (F_slen u0) ≤ x2 then
      some (Sum.inr ())
    else
      (F_schar u0 x2).bind fun v4 =>
      if (F_X11_at (t + 1) 700 ((M t 4) + x2) M) = v4 then
        L_X5_isWord_28 t u0 M m9 (x2 + 1)
      else
        some (Sum.inl false)
def F_X5_isWord (t : Nat) (u0 : Nat) (M : Mem) : Option (Bool) :=
  if (M t 6) = 1 then
    if ((M t 5) - (M t 4)) = (F_slen u0) then
      (L_X5_isWord_28 t u0 M FU 0).bind fun q6 => Sum.elim (fun v => some v) (fun s7 =>
      some true) q6
    else
      some false
  else
    some false
def F_X5_refuse (t : Nat) (p0 : Int32) (M : Mem) : Bool × Mem :=
  (false, (up M t 8 p0))
def J_X5_number_j43 (t : Nat) (M : Mem) : Bool × Mem :=
  ((F_X5_refuse t 2 M).1, (F_X5_refuse t 2 M).2)
def F_X5_number (t : Nat) (p0 : Int32) (p1 : Int32) (M : Mem) : Bool × Mem :=
  if (M t 6) = 2 then
    if 4 < ((M t 5) - (M t 4)) then
      J_X5_number_j43 t M
    else
      if (M t 7) < p0 then
        J_X5_number_j43 t M
      else
        if (M t 7) ≤ p1 then
          (true, M)
        else
          J_X5_number_j43 t M
  else
    ((F_X5_refuse t 1 M).1, (F_X5_refuse t 1 M).2)
def F_X5_street (t : Nat) (M : Mem) : Option (Bool × Mem) :=
  if (bi ((F_X5_number t 0 9999 M).1)) = 0 then
    some (false, (F_X5_number t 0 9999 M).2)
  else
    (grd ((up (F_X5_number t 0 9999 M).2 t 10 (bi true)) t 2)).bind fun w2 =>
    if ((up (F_X5_number t 0 9999 M).2 t 10 (bi true)) t 7) < ((up (F_X5_number t 0 9999 M).2 t 10 (bi true)) w2 0) then
      some (true, (up (F_X5_number t 0 9999 M).2 t 10 (bi true)))
    else
      if (bi ((F_X5_refuse t 3 (up (F_X5_number t 0 9999 M).2 t 10 (bi true))).1)) = 0 then
        some (false, (F_X5_refuse t 3 (up (F_X5_number t 0 9999 M).2 t 10 (bi true))).2)
      else
        some (true, (F_X5_refuse t 3 (up (F_X5_number t 0 9999 M).2 t 10 (bi true))).2)
def F_X5_valueHere (t : Nat) (M : Mem) : Option (Int32) :=
  (F_X5_isWord t 9 M).bind fun q1 =>
  if (bi q1) = 0 then
    (F_X5_isWord t 10 M).bind fun q3 =>
    if (bi q3) = 0 then
      (F_X5_isWord t 11 M).bind fun q5 =>
      if (bi q5) = 0 then
        (F_X5_isWord t 12 M).bind fun q7 =>
        if (bi q7) = 0 then
          (F_X5_isWord t 13 M).bind fun q9 =>
          if (bi q9) = 0 then
            (F_X5_isWord t 14 M).bind fun q11 =>
            if (bi q11) = 0 then
              (F_X5_isWord t 15 M).bind fun q13 =>
              if (bi q13) = 0 then
                (F_X5_isWord t 16 M).bind fun q15 =>
                some (if (bi q15) = 0 then (-1 : Int32) else (7 : Int32))
              else
                some 6
            else
              some 5
          else
            some 4
        else
          some 3
      else
        some 2
    else
      some 1
  else
    some 0
def F_X6_hasLot (t : Nat) (p0 : Int32) (M : Mem) : Bool :=
  if (F_X11_at (t + 1) 7 p0 M) = 0 then
    false
  else
    true
def F_X6_handOver (t : Nat) (w0 : Nat) (p1 : Int32) (p2 : Int32) (p3 : Int32) (M : Mem) : Mem :=
  if p2 = p1 then
    (F_X11_put (w0 + 1) 7 p2 ((F_X11_at (w0 + 1) 7 p2 (up (F_X11_put (t + 4) 7 p1 p3 (F_X11_put (t + 3) 7 p1 p2 M)) t 5 (((F_X11_put (t + 4) 7 p1 p3 (F_X11_put (t + 3) 7 p1 p2 M)) t 5) + 1))) - p3) (up (F_X11_put (t + 4) 7 p1 p3 (F_X11_put (t + 3) 7 p1 p2 M)) t 5 (((F_X11_put (t + 4) 7 p1 p3 (F_X11_put (t + 3) 7 p1 p2 M)) t 5) + 1)))
  else
    (F_X11_put (w0 + 2) 7 p2 ((F_X11_at (w0 + 2) 7 p2 (F_X11_put (w0 + 1) 7 p2 ((F_X11_at (w0 + 1) 7 p2 (up (F_X11_put (t + 4) 7 p1 p3 (F_X11_put (t + 3) 7 p1 p2 M)) t 5 (((F_X11_put (t + 4) 7 p1 p3 (F_X11_put (t + 3) 7 p1 p2 M)) t 5) + 1))) - p3) (up (F_X11_put (t + 4) 7 p1 p3 (F_X11_put (t + 3) 7 p1 p2 M)) t 5 (((F_X11_put (t + 4) 7 p1 p3 (F_X11_put (t + 3) 7 p1 p2 M)) t 5) + 1)))) ||| ((1 : Int32) <<< (p1 &&& 31))) (F_X11_put (w0 + 1) 7 p2 ((F_X11_at (w0 + 1) 7 p2 (up (F_X11_put (t + 4) 7 p1 p3 (F_X11_put (t + 3) 7 p1 p2 M)) t 5 (((F_X11_put (t + 4) 7 p1 p3 (F_X11_put (t + 3) 7 p1 p2 M)) t 5) + 1))) - p3) (up (F_X11_put (t + 4) 7 p1 p3 (F_X11_put (t + 3) 7 p1 p2 M)) t 5 (((F_X11_put (t + 4) 7 p1 p3 (F_X11_put (t + 3) 7 p1 p2 M)) t 5) + 1))))
def L_X6_paidBy_4 (t : Nat) (x1 : Int32) (M : Mem) : Nat → Int32 → Int32 → Option (Int32)
  | 0, _, _ => none
  | m9 + 1, x2, x3 =>
    if 7 ≤ x3 then
      some x2
    else
      if (F_X11_at (t + 3) 7 x3 M) = x1 then
        L_X6_paidBy_4 t x1 M m9 (x2 + (F_X11_at (t + 4) 7 x3 M)) (x3 + 1)
      else
        L_X6_paidBy_4 t x1 M m9 x2 (x3 + 1)
def F_X6_paidBy (t : Nat) (p0 : Int32) (M : Mem) : Option (Int32) :=
  (L_X6_paidBy_4 t p0 M FU 0 0).bind fun s4 =>
  some s4
def F_X7_hasRoom (t : Nat) (M : Mem) : Bool :=
  if 8 ≤ (M t 3) then
    false
  else
    true
def F_X7_add (t : Nat) (p0 : Int32) (p1 : Int32) (p2 : Int32) (M : Mem) : Mem :=
  (up (F_X11_put (t + 3) 8 ((F_X11_put (t + 2) 8 ((F_X11_put (t + 1) 8 (M t 3) p0 M) t 3) p1 (F_X11_put (t + 1) 8 (M t 3) p0 M)) t 3) (if p2 = 0 then (0 : Int32) else (1 : Int32)) (F_X11_put (t + 2) 8 ((F_X11_put (t + 1) 8 (M t 3) p0 M) t 3) p1 (F_X11_put (t + 1) 8 (M t 3) p0 M))) t 3 (((F_X11_put (t + 3) 8 ((F_X11_put (t + 2) 8 ((F_X11_put (t + 1) 8 (M t 3) p0 M) t 3) p1 (F_X11_put (t + 1) 8 (M t 3) p0 M)) t 3) (if p2 = 0 then (0 : Int32) else (1 : Int32)) (F_X11_put (t + 2) 8 ((F_X11_put (t + 1) 8 (M t 3) p0 M) t 3) p1 (F_X11_put (t + 1) 8 (M t 3) p0 M))) t 3) + 1))
def L_X7_holds_2 (t : Nat) (a0 : Nat) (n0 : Nat) (M : Mem) : Nat → Int32 → Option (Sum (Bool) (Unit))
  | 0, _ => none
  | m9 + 1, x2 =>
    if (M t 3) ≤ x2 then
      some (Sum.inr ())
    else
      if (((F_X11_at a0 n0 (F_X11_at (t + 1) 8 x2 M) M) >>> (((F_X11_at (t + 2) 8 x2 M) - 1) &&& 31)) &&& 1) = (F_X11_at (t + 3) 8 x2 M) then
        L_X7_holds_2 t a0 n0 M m9 (x2 + 1)
      else
        some (Sum.inl false)
def F_X7_holds (t : Nat) (a0 : Nat) (n0 : Nat) (M : Mem) : Option (Bool) :=
  (L_X7_holds_2 t a0 n0 M FU 0).bind fun q3 => Sum.elim (fun v => some v) (fun s4 =>
  some true) q3
def J_X8_begin_j99 (t : Nat) (w0 : Nat) (rec : Int32 → Mem → Option (Mem)) (x2 : Int32) (y1 : Int32) (y2 : Int32) (M : Mem) : Option (Mem) :=
  rec (x2 + 1) (F_X11_put (t + 3) 7 y1 y2 M)
def J_X8_begin_j66 (t : Nat) (w0 : Nat) (rec : Int32 → Mem → Option (Mem)) (x2 : Int32) (x3 : Int32) (y1 : Int32) (y2 : Int32) (M : Mem) : Option (Mem) :=
  if x3 = 0 then
    J_X8_begin_j99 t w0 (rec) x2 x2 0 (F_X11_put (t + 2) 7 x2 0 (F_X11_put (t + 1) 7 y1 y2 M))
  else
    J_X8_begin_j99 t w0 (rec) x2 x2 (F_X11_at (w0 + 5) 7 x2 (F_X11_put (t + 2) 7 x2 0 (F_X11_put (t + 1) 7 y1 y2 M))) (F_X11_put (t + 2) 7 x2 0 (F_X11_put (t + 1) 7 y1 y2 M))
def L_X8_begin_25 (t : Nat) (w0 : Nat) : Nat → Int32 → Mem → Option (Mem)
  | 0, _, _ => none
  | m9 + 1, x2, M =>
    if 7 ≤ x2 then
      some M
    else
      if (if (M w0 3) ≤ x2 then (0 : Int32) else (1 : Int32)) = 0 then
        J_X8_begin_j66 t w0 (L_X8_begin_25 t w0 m9) x2 (if (M w0 3) ≤ x2 then (0 : Int32) else (1 : Int32)) x2 0 M
      else
        J_X8_begin_j66 t w0 (L_X8_begin_25 t w0 m9) x2 (if (M w0 3) ≤ x2 then (0 : Int32) else (1 : Int32)) x2 (F_X11_at (w0 + 3) 7 x2 M) M
def F_X8_begin (t : Nat) (w0 : Nat) (M : Mem) : Option (Mem) :=
  (L_X8_begin_25 t w0 FU 0 (up (up (up (up M t 0 0) t 1 0) t 2 0) t 3 ((up (up (up M t 0 0) t 1 0) t 2 0) w0 6))).bind fun s7 =>
  some s7
def L_X8_writeTo_44 (t : Nat) (a0 : Nat) (n0 : Nat) (x2 : Int32) : Nat → Int32 → Mem → Option (Mem)
  | 0, _, _ => none
  | m9 + 1, x3, M =>
    if 7 ≤ x3 then
      some M
    else
      L_X8_writeTo_44 t a0 n0 x2 m9 (x3 + 1) (F_X11_put a0 n0 (((x2 + 4) + 14) + x3) (F_X11_at (t + 3) 7 x3 (F_X11_put a0 n0 (((x2 + 4) + 7) + x3) (F_X11_at (t + 2) 7 x3 (F_X11_put a0 n0 ((x2 + 4) + x3) (F_X11_at (t + 1) 7 x3 M) M)) (F_X11_put a0 n0 ((x2 + 4) + x3) (F_X11_at (t + 1) 7 x3 M) M))) (F_X11_put a0 n0 (((x2 + 4) + 7) + x3) (F_X11_at (t + 2) 7 x3 (F_X11_put a0 n0 ((x2 + 4) + x3) (F_X11_at (t + 1) 7 x3 M) M)) (F_X11_put a0 n0 ((x2 + 4) + x3) (F_X11_at (t + 1) 7 x3 M) M)))
def F_X8_writeTo (t : Nat) (a0 : Nat) (n0 : Nat) (p1 : Int32) (M : Mem) : Option (Mem) :=
  (L_X8_writeTo_44 t a0 n0 p1 FU 0 (F_X11_put a0 n0 (p1 + 3) ((F_X11_put a0 n0 (p1 + 2) ((F_X11_put a0 n0 (p1 + 1) ((F_X11_put a0 n0 p1 (M t 0) M) t 1) (F_X11_put a0 n0 p1 (M t 0) M)) t 2) (F_X11_put a0 n0 (p1 + 1) ((F_X11_put a0 n0 p1 (M t 0) M) t 1) (F_X11_put a0 n0 p1 (M t 0) M))) t 3) (F_X11_put a0 n0 (p1 + 2) ((F_X11_put a0 n0 (p1 + 1) ((F_X11_put a0 n0 p1 (M t 0) M) t 1) (F_X11_put a0 n0 p1 (M t 0) M)) t 2) (F_X11_put a0 n0 (p1 + 1) ((F_X11_put a0 n0 p1 (M t 0) M) t 1) (F_X11_put a0 n0 p1 (M t 0) M))))).bind fun s3 =>
  some s3
def L_X8_readFrom_44 (t : Nat) (a0 : Nat) (n0 : Nat) (x2 : Int32) : Nat → Int32 → Mem → Option (Mem)
  | 0, _, _ => none
  | m9 + 1, x3, M =>
    if 7 ≤ x3 then
      some M
    else
      L_X8_readFrom_44 t a0 n0 x2 m9 (x3 + 1) (F_X11_put (t + 3) 7 x3 (F_X11_at a0 n0 (((x2 + 4) + 14) + x3) (F_X11_put (t + 2) 7 x3 (F_X11_at a0 n0 (((x2 + 4) + 7) + x3) (F_X11_put (t + 1) 7 x3 (F_X11_at a0 n0 ((x2 + 4) + x3) M) M)) (F_X11_put (t + 1) 7 x3 (F_X11_at a0 n0 ((x2 + 4) + x3) M) M))) (F_X11_put (t + 2) 7 x3 (F_X11_at a0 n0 (((x2 + 4) + 7) + x3) (F_X11_put (t + 1) 7 x3 (F_X11_at a0 n0 ((x2 + 4) + x3) M) M)) (F_X11_put (t + 1) 7 x3 (F_X11_at a0 n0 ((x2 + 4) + x3) M) M)))
def F_X8_readFrom (t : Nat) (a0 : Nat) (n0 : Nat) (p1 : Int32) (M : Mem) : Option (Mem) :=
  (L_X8_readFrom_44 t a0 n0 p1 FU 0 (up (up (up (up M t 0 (F_X11_at a0 n0 p1 M)) t 1 (F_X11_at a0 n0 (p1 + 1) (up M t 0 (F_X11_at a0 n0 p1 M)))) t 2 (F_X11_at a0 n0 (p1 + 2) (up (up M t 0 (F_X11_at a0 n0 p1 M)) t 1 (F_X11_at a0 n0 (p1 + 1) (up M t 0 (F_X11_at a0 n0 p1 M)))))) t 3 (F_X11_at a0 n0 (p1 + 3) (up (up (up M t 0 (F_X11_at a0 n0 p1 M)) t 1 (F_X11_at a0 n0 (p1 + 1) (up M t 0 (F_X11_at a0 n0 p1 M)))) t 2 (F_X11_at a0 n0 (p1 + 2) (up (up M t 0 (F_X11_at a0 n0 p1 M)) t 1 (F_X11_at a0 n0 (p1 + 1) (up M t 0 (F_X11_at a0 n0 p1 M))))))))).bind fun s3 =>
  some s3
def F_X8_isBribing (t : Nat) (p0 : Int32) (M : Mem) : Bool :=
  if (((M t 2) >>> (p0 &&& 31)) &&& 1) = 0 then
    false
  else
    true
def F_X8_canBribe (t : Nat) (p0 : Int32) (M : Mem) : Bool :=
  if (bi (F_X8_isBribing t p0 M)) = 0 then
    if (F_X11_at (t + 1) 7 p0 M) < 5 then
      false
    else
      true
  else
    false
def F_X8_startBribing (t : Nat) (p0 : Int32) (M : Mem) : Mem :=
  (up (F_X11_put (t + 1) 7 p0 ((F_X11_at (t + 1) 7 p0 M) - 5) M) t 2 (((F_X11_put (t + 1) 7 p0 ((F_X11_at (t + 1) 7 p0 M) - 5) M) t 2) ||| ((1 : Int32) <<< (p0 &&& 31))))
def F_X8_addCoins (t : Nat) (p0 : Int32) (p1 : Int32) (M : Mem) : Mem :=
  (F_X11_put (t + 1) 7 p0 (imin 999 ((F_X11_at (t + 1) 7 p0 M) + p1)) M)
def F_X8_doesKnow (t : Nat) (p0 : Int32) (p1 : Int32) (M : Mem) : Bool :=
  if (((F_X11_at (t + 2) 7 p0 M) >>> (p1 &&& 31)) &&& 1) = 0 then
    false
  else
    true
def L_X8_coinsOfAll_4 (t : Nat) (M : Mem) : Nat → Int32 → Int32 → Option (Int32)
  | 0, _, _ => none
  | m9 + 1, x1, x2 =>
    if 7 ≤ x2 then
      some x1
    else
      (ald M (t + 1) 7 x2).bind fun v2 =>
      L_X8_coinsOfAll_4 t M m9 (x1 + v2) (x2 + 1)
def F_X8_coinsOfAll (t : Nat) (M : Mem) : Option (Int32) :=
  (L_X8_coinsOfAll_4 t M FU 0 0).bind fun s4 =>
  some s4
def L_X8_knownBy_4 (t : Nat) (x1 : Int32) (M : Mem) : Nat → Int32 → Int32 → Option (Int32)
  | 0, _, _ => none
  | m9 + 1, x2, x3 =>
    if 7 ≤ x3 then
      some x2
    else
      if ((x1 >>> (x3 &&& 31)) &&& 1) = 0 then
        L_X8_knownBy_4 t x1 M m9 x2 (x3 + 1)
      else
        (ald M (t + 2) 7 x3).bind fun v3 =>
        L_X8_knownBy_4 t x1 M m9 (x2 ||| v3) (x3 + 1)
def F_X8_knownBy (t : Nat) (p0 : Int32) (M : Mem) : Option (Int32) :=
  (L_X8_knownBy_4 t p0 M FU 0 0).bind fun s5 =>
  some s5
def L_X8_knowers_4 (t : Nat) (x1 : Int32) (M : Mem) : Nat → Int32 → Int32 → Option (Int32)
  | 0, _, _ => none
  | m9 + 1, x2, x3 =>
    if 7 ≤ x3 then
      some x2
    else
      (ald M (t + 2) 7 x3).bind fun v2 =>
      L_X8_knowers_4 t x1 M m9 (x2 ||| (((v2 >>> (x1 &&& 31)) &&& 1) <<< (x3 &&& 31))) (x3 + 1)
def F_X8_knowers (t : Nat) (p0 : Int32) (M : Mem) : Option (Int32) :=
  (L_X8_knowers_4 t p0 M FU 0 0).bind fun s4 =>
  some s4
def F_X9_join (t : Nat) (p0 : Int32) (p1 : Int32) (M : Mem) : Mem :=
  (up (F_X11_put (t + 1) 8 p1 ((F_X11_at (t + 1) 8 p1 (F_X11_put (t + 1) 8 p0 ((F_X11_at (t + 1) 8 p0 M) ||| ((1 : Int32) <<< (p1 &&& 31))) M)) ||| ((1 : Int32) <<< (p0 &&& 31))) (F_X11_put (t + 1) 8 p0 ((F_X11_at (t + 1) 8 p0 M) ||| ((1 : Int32) <<< (p1 &&& 31))) M)) t 1 (((F_X11_put (t + 1) 8 p1 ((F_X11_at (t + 1) 8 p1 (F_X11_put (t + 1) 8 p0 ((F_X11_at (t + 1) 8 p0 M) ||| ((1 : Int32) <<< (p1 &&& 31))) M)) ||| ((1 : Int32) <<< (p0 &&& 31))) (F_X11_put (t + 1) 8 p0 ((F_X11_at (t + 1) 8 p0 M) ||| ((1 : Int32) <<< (p1 &&& 31))) M)) t 1) + 1))
def F_X9_watchAt (t : Nat) (p0 : Int32) (p1 : Int32) (M : Mem) : Option (Int32) :=
  if (M t 2) ≤ 0 then
    some 0
  else
    (irm ((6 * p0) + p1) (M t 2)).bind fun v2 =>
    some (F_X11_at (t + 2) 8 v2 M)
def F_X9_fogOf (t : Nat) (p0 : Int32) (M : Mem) : Option (Int32) :=
  if (M t 5) ≤ 0 then
    some 0
  else
    (irm p0 (M t 5)).bind fun v2 =>
    some (F_X11_at (t + 6) 8 v2 M)
def F_X9_placeAt (t : Nat) (p0 : Int32) (p1 : Int32) (M : Mem) : Option (Int32) :=
  if (F_X11_at (t + 4) 7 p0 M) ≤ 0 then
    some 0
  else
    (irm p1 (F_X11_at (t + 4) 7 p0 M)).bind fun v2 =>
    some v2
def L_X9_spread_4 (t : Nat) (x1 : Int32) (M : Mem) : Nat → Int32 → Int32 → Option (Int32)
  | 0, _, _ => none
  | m9 + 1, x2, x3 =>
    if (M t 0) ≤ x3 then
      some x2
    else
      if ((x1 >>> (x3 &&& 31)) &&& 1) = 0 then
        L_X9_spread_4 t x1 M m9 x2 (x3 + 1)
      else
        L_X9_spread_4 t x1 M m9 (x2 ||| (F_X11_at (t + 1) 8 x3 M)) (x3 + 1)
def F_X9_spread (t : Nat) (p0 : Int32) (M : Mem) : Option (Int32) :=
  (L_X9_spread_4 t p0 M FU p0 0).bind fun s4 =>
  some s4
def F_X10_clear (t : Nat) (M : Mem) : Mem :=
  (up M t 1 0)
def F_X10_isTold (t : Nat) (M : Mem) : Bool :=
  if (M t 1) ≤ 0 then
    false
  else
    true
def F_X10_add (t : Nat) (p0 : Int32) (M : Mem) : Mem :=
  (up (F_X11_put (t + 1) 700 (M t 1) p0 M) t 1 (((F_X11_put (t + 1) 700 (M t 1) p0 M) t 1) + 1))
def F_X10_addValue (t : Nat) (p0 : Int32) (M : Mem) : Mem :=
  (F_X10_add t ((-1) - p0) M)
def F_X10_push (t : Nat) (p0 : Int32) (M : Mem) : Mem :=
  (up (F_X11_put (t + 2) 40 (M t 3) p0 M) t 3 (((F_X11_put (t + 2) 40 (M t 3) p0 M) t 3) + 1))
def F_X10_pop (t : Nat) (M : Mem) : Int32 × Mem :=
  ((F_X11_at (t + 2) 40 ((up M t 3 ((M t 3) - 1)) t 3) (up M t 3 ((M t 3) - 1))), (up M t 3 ((M t 3) - 1)))
def F_X10_joined (p0 : Int32) (p1 : Int32) (p2 : Int32) : Option (Int32) :=
  if p0 = (-18) then
    some (p1 * p2)
  else if p0 = (-17) then
    some (p1 - p2)
  else if p0 = (-16) then
    some (p1 + p2)
  else if p0 = (-15) then
    some (if p1 = p2 then (1 : Int32) else (0 : Int32))
  else if p0 = (-14) then
    some (if p2 ≤ p1 then (0 : Int32) else (1 : Int32))
  else if p0 = (-13) then
    if p1 = 0 then
      some 0
    else
      if p2 = 0 then
        some 0
      else
        some 1
  else if p0 = (-12) then
    if p1 = 0 then
      if p2 = 0 then
        some 0
      else
        some 1
    else
      some 1
  else if p2 = 0 then
    some 0
  else
    (idv p1 p2).bind fun v18 =>
    some v18
def F_X11_feed (t : Nat) (p0 : Int32) (p1 : Int32) (p2 : Int32) (p3 : Int32) (p4 : Int32) (M : Mem) : Option (Int32 × Mem) :=
  if (M (t + 1) 1) ≤ 680 then
    (F_X5_append (t + 1) p0 M).bind fun q2 =>
    (F_X5_append (t + 1) p1 q2).bind fun q3 =>
    (F_X5_append (t + 1) p2 q3).bind fun q4 =>
    (F_X5_append (t + 1) p3 q4).bind fun q5 =>
    (F_X5_append (t + 1) p4 q5).bind fun q6 =>
    some ((q6 (t + 1) 1), q6)
  else
    some ((-1), M)
def F_X11_fault (t : Nat) (M : Mem) : Int32 :=
  (M t 2)
def F_X11_forget (t : Nat) (M : Mem) : Mem :=
  (up M ((t + 24) + 7) 3 0)
def L_X11_copyRow_2 (a0 : Nat) (n0 : Nat) (a1 : Nat) (n1 : Nat) : Nat → Int32 → Mem → Option (Mem)
  | 0, _, _ => none
  | m9 + 1, x2, M =>
    if (nI n0) ≤ x2 then
      some M
    else
      if (nI n1) ≤ x2 then
        some M
      else
        (ald M a0 n0 x2).bind fun v3 =>
        (ast M a1 n1 x2 v3).bind fun M4 =>
        L_X11_copyRow_2 a0 n0 a1 n1 m9 (x2 + 1) M4
def F_X11_copyRow (a0 : Nat) (n0 : Nat) (a1 : Nat) (n1 : Nat) (M : Mem) : Option (Mem) :=
  (L_X11_copyRow_2 a0 n0 a1 n1 FU 0 M).bind fun s6 =>
  some s6
def F_X11_streetIn (p0 : Int32) (p1 : Int32) : Int32 :=
  ((p0 >>> ((3 * p1) &&& 31)) &&& 7)
def F_X11_walkWith (p0 : Int32) (p1 : Int32) (p2 : Int32) : Int32 :=
  ((p0 &&& (((7 : Int32) <<< ((3 * p1) &&& 31)) ^^^ (-1))) ||| (p2 <<< ((3 * p1) &&& 31)))
def F_X11_streetNow (t : Nat) (p0 : Int32) (p1 : Int32) (M : Mem) : Option (Int32) :=
  (grd (M t 1)).bind fun w1 =>
  (F_X9_placeAt w1 p0 p1 M).bind fun q2 =>
  some (F_X11_streetIn (F_X11_at (((t + 24) + 1) + 3) 7 p0 M) q2)
def L_X11_isSafe_3 (t : Nat) (x1 : Int32) (x2 : Int32) (x3 : Int32) (M : Mem) : Nat → Int32 → Option (Sum (Bool) (Unit))
  | 0, _ => none
  | m9 + 1, x4 =>
    if 6 ≤ x4 then
      some (Sum.inr ())
    else
      (grd (M t 1)).bind fun w2 =>
      (F_X9_placeAt w2 x1 x4 M).bind fun q3 =>
      if q3 = x2 then
        (grd (M t 1)).bind fun w5 =>
        (F_X9_watchAt w5 (M ((t + 24) + 1) 0) x4 M).bind fun q6 =>
        if q6 = x3 then
          some (Sum.inl false)
        else
          L_X11_isSafe_3 t x1 x2 x3 M m9 (x4 + 1)
      else
        L_X11_isSafe_3 t x1 x2 x3 M m9 (x4 + 1)
def F_X11_isSafe (t : Nat) (p0 : Int32) (p1 : Int32) (p2 : Int32) (M : Mem) : Option (Bool) :=
  (L_X11_isSafe_3 t p0 p1 p2 M FU 0).bind fun q8 => Sum.elim (fun v => some v) (fun s9 =>
  some true) q8
def L_X11_canHide_2 (t : Nat) (x1 : Int32) (x2 : Int32) (M : Mem) : Nat → Int32 → Option (Sum (Bool) (Unit))
  | 0, _ => none
  | m9 + 1, x3 =>
    (grd (M t 1)).bind fun w1 =>
    if (M w1 0) ≤ x3 then
      some (Sum.inr ())
    else
      (F_X11_isSafe t x1 x2 x3 M).bind fun q3 =>
      if (bi q3) = 0 then
        L_X11_canHide_2 t x1 x2 M m9 (x3 + 1)
      else
        some (Sum.inl true)
def F_X11_canHide (t : Nat) (p0 : Int32) (p1 : Int32) (M : Mem) : Option (Bool) :=
  (L_X11_canHide_2 t p0 p1 M FU 0).bind fun q5 => Sum.elim (fun v => some v) (fun s6 =>
  some false) q5
def F_X11_lossOf (t : Nat) (p0 : Int32) (M : Mem) : Int32 :=
  if (F_X11_at ((t + 52) + 3) 7 p0 M) = (-1) then
    0
  else
    if (F_X11_at ((t + 52) + 3) 7 p0 M) = p0 then
      0
    else
      10
def J_X11_rests_j40 (t : Nat) (x1 : Int32) (x2 : Int32) (x4 : Int32) (x5 : Int32) (M : Mem) : Bool :=
  if x4 < 2 then
    true
  else
    if (F_X11_at (t + 66) 4 (((2 * x1) + 1) - x2) M) < (F_X11_at (t + 66) 4 x5 M) then
      false
    else
      true
def F_X11_rests (t : Nat) (p0 : Int32) (p1 : Int32) (p2 : Int32) (p3 : Int32) (M : Mem) : Bool :=
  if p2 = 2 then
    if (F_X11_at (t + 65) 4 ((2 * p0) + p1) M) ≤ (F_X11_at (t + 65) 4 ((2 * (1 - p0)) + p1) M) then
      J_X11_rests_j40 t p0 p1 p3 ((2 * p0) + p1) M
    else
      false
  else
    J_X11_rests_j40 t p0 p1 p3 ((2 * p0) + p1) M
def F_X12_thrown (t : Nat) (M : Mem) : Int32 :=
  (M t 2)
def F_X12_fail (t : Nat) (p0 : Int32) (M : Mem) : Int32 × Mem :=
  (0, (up M t 2 p0))
def F_X12_isIn (p0 : Int64) (p1 : Int64) (p2 : Int64) : Bool :=
  if (lg_cmp p0 p1) < 0 then
    false
  else
    if 0 < (lg_cmp p0 p2) then
      false
    else
      true
def F_X12_isOf (p0 : Int32) (p1 : Int32) : Bool :=
  if ((p0 >>> (p1 &&& 31)) &&& 1) = 1 then
    true
  else
    false
def L_X12_bitsOf_4 (M : Mem) : Nat → Int32 → Int32 → Option (Int32)
  | 0, _, _ => none
  | m9 + 1, x1, x2 =>
    if x2 = 0 then
      some x1
    else
      L_X12_bitsOf_4 M m9 (x1 + 1) (x2 &&& (x2 - 1))
def F_X12_bitsOf (p0 : Int32) (M : Mem) : Option (Int32) :=
  (L_X12_bitsOf_4 M FU 0 p0).bind fun s3 =>
  some s3
def F_X12_isStreet (t : Nat) (p0 : Int32) (M : Mem) : Bool :=
  (F_X12_isIn p0.toInt64 0 (((M (t + 3) 0) - 1).toInt64))
def F_X12_isPerson (t : Nat) (p0 : Int32) (M : Mem) : Bool :=
  (F_X12_isIn p0.toInt64 0 (((M (t + 3) 3) - 1).toInt64))
def J_X12_feed_j76 (t : Nat) (rec : Int32 → Mem → Option (Mem)) (x1 : Int32) (x2 : Int32) (x3 : Int32) (x4 : Int32) (x5 : Int32) (x6 : Int32) (y0 : Int32) (M : Mem) : Option (Mem) :=
  (ast M (t + 13) 700 (M t 14) ((y0 >>> ((24 - (8 * (irem x6 4))) &&& 31)) &&& 255)).bind fun M7 =>
  rec (x6 + 1) (up M7 t 14 ((M7 t 14) + 1))
def L_X12_feed_23 (t : Nat) (x1 : Int32) (x2 : Int32) (x3 : Int32) (x4 : Int32) (x5 : Int32) : Nat → Int32 → Mem → Option (Mem)
  | 0, _, _ => none
  | m9 + 1, x6, M =>
    if 20 ≤ x6 then
      some M
    else
      if 4 ≤ x6 then
        if 8 ≤ x6 then
          if 12 ≤ x6 then
            if 16 ≤ x6 then
              J_X12_feed_j76 t (L_X12_feed_23 t x1 x2 x3 x4 x5 m9) x1 x2 x3 x4 x5 x6 x5 M
            else
              J_X12_feed_j76 t (L_X12_feed_23 t x1 x2 x3 x4 x5 m9) x1 x2 x3 x4 x5 x6 x4 M
          else
            J_X12_feed_j76 t (L_X12_feed_23 t x1 x2 x3 x4 x5 m9) x1 x2 x3 x4 x5 x6 x3 M
        else
          J_X12_feed_j76 t (L_X12_feed_23 t x1 x2 x3 x4 x5 m9) x1 x2 x3 x4 x5 x6 x2 M
      else
        J_X12_feed_j76 t (L_X12_feed_23 t x1 x2 x3 x4 x5 m9) x1 x2 x3 x4 x5 x6 x1 M
def F_X12_feed (t : Nat) (p0 : Int32) (p1 : Int32) (p2 : Int32) (p3 : Int32) (p4 : Int32) (M : Mem) : Option (Int32 × Mem) :=
  if (((up M t 2 0) t 14) + 20) ≤ 700 then
    (L_X12_feed_23 t p0 p1 p2 p3 p4 FU 0 (up M t 2 0)).bind fun s9 =>
    some ((s9 t 14), s9)
  else
    some ((-1), (up M t 2 0))
def F_X12_byteAt (t : Nat) (p0 : Int32) (M : Mem) : Option (Int32) :=
  if (M t 16) ≤ p0 then
    some (-1)
  else
    (ald M (t + 13) 700 p0).bind fun v2 =>
    some v2
def F_X12_isLetter (p0 : Int32) : Bool :=
  if p0 < 97 then
    false
  else
    if 122 < p0 then
      false
    else
      true
def F_X12_isDigit (p0 : Int32) : Bool :=
  if p0 < 48 then
    false
  else
    if 57 < p0 then
      false
    else
      true
def F_X12_isMark (p0 : Int32) : Bool :=
  if p0 = 59 then
    true
  else
    if p0 = 40 then
      true
    else
      if p0 = 41 then
        true
      else
        if p0 = 43 then
          true
        else
          if p0 = 45 then
            true
          else
            if p0 = 42 then
              true
            else
              if p0 = 47 then
                true
              else
                if p0 = 60 then
                  true
                else
                  if p0 = 61 then
                    true
                  else
                    false
def J_X12_stepOn_j26 (t : Nat) (rec : Mem → Option (Mem)) (M : Mem) : Option (Mem) :=
  rec (up M t 15 ((M t 15) + 1))
def L_X12_stepOn_0 (t : Nat) : Nat → Mem → Option (Mem)
  | 0, _ => none
  | m9 + 1, M =>
    (F_X12_byteAt t (M t 15) M).bind fun q1 =>
    if q1 = 32 then
      J_X12_stepOn_j26 t (L_X12_stepOn_0 t m9) M
    else
      (F_X12_byteAt t (M t 15) M).bind fun q3 =>
      if q3 = 10 then
        J_X12_stepOn_j26 t (L_X12_stepOn_0 t m9) M
      else
        some M
def J_X12_stepOn_j212 (t : Nat) (M : Mem) : Option (Mem) :=
  some (up M t 20 (M t 15))
def L_X12_stepOn_123 (t : Nat) : Nat → Mem → Option (Mem)
  | 0, _ => none
  | m9 + 1, M =>
    (F_X12_byteAt t (M t 15) M).bind fun q13 =>
    if (bi (F_X12_isDigit q13)) = 0 then
      some M
    else
      (F_X12_byteAt t (M t 15) M).bind fun q15 =>
      L_X12_stepOn_123 t m9 (up (up M t 18 (imin 100000 (((10 * (M t 18)) + q15) - 48))) t 15 (((up M t 18 (imin 100000 (((10 * (M t 18)) + q15) - 48))) t 15) + 1))
def L_X12_stepOn_76 (t : Nat) : Nat → Mem → Option (Mem)
  | 0, _ => none
  | m9 + 1, M =>
    (F_X12_byteAt t (M t 15) M).bind fun q18 =>
    if (bi (F_X12_isLetter q18)) = 0 then
      some M
    else
      L_X12_stepOn_76 t m9 (up M t 15 ((M t 15) + 1))
def F_X12_stepOn (t : Nat) (M : Mem) : Option (Mem) :=
  (L_X12_stepOn_0 t FU M).bind fun s6 =>
  (F_X12_byteAt t ((up s6 t 19 (s6 t 15)) t 15) (up s6 t 19 (s6 t 15))).bind fun q7 =>
  if q7 = (-1) then
    J_X12_stepOn_j212 t (up (up s6 t 19 (s6 t 15)) t 17 0)
  else
    if (bi (F_X12_isLetter q7)) = 0 then
      if (bi (F_X12_isDigit q7)) = 0 then
        J_X12_stepOn_j212 t (up (up (up s6 t 19 (s6 t 15)) t 15 (((up s6 t 19 (s6 t 15)) t 15) + 1)) t 17 (if (bi (F_X12_isMark q7)) = 0 then (4 : Int32) else (3 : Int32)))
      else
        (L_X12_stepOn_123 t FU (up (up s6 t 19 (s6 t 15)) t 18 0)).bind fun s17 =>
        J_X12_stepOn_j212 t (up s17 t 17 2)
    else
      (L_X12_stepOn_76 t FU (up s6 t 19 (s6 t 15))).bind fun s21 =>
      J_X12_stepOn_j212 t (up s21 t 17 1)
def F_X12_wrong (t : Nat) (p0 : Int32) (M : Mem) : Mem :=
  if (M t 21) = 0 then
    (up (up M t 21 p0) t 22 ((up M t 21 p0) t 19))
  else
    M
def L_X12_is_39 (t : Nat) (u0 : Nat) (M : Mem) : Nat → Int32 → Int32 → Option (Int32)
  | 0, _, _ => none
  | m9 + 1, x2, x3 =>
    if x2 = 0 then
      some x2
    else
      if (F_slen u0) ≤ x3 then
        some x2
      else
        (F_schar u0 x3).bind fun v4 =>
        (ald M (t + 13) 700 ((M t 19) + x3)).bind fun v5 =>
        L_X12_is_39 t u0 M m9 (if v4 = v5 then (1 : Int32) else (0 : Int32)) (x3 + 1)
def J_X12_is_j36 (t : Nat) (u0 : Nat) (y0 : Int32) (M : Mem) : Option (Bool) :=
  (L_X12_is_39 t u0 M FU y0 0).bind fun s9 =>
  (bgd s9).bind fun b10 => some b10
def J_X12_is_j35 (t : Nat) (u0 : Nat) (M : Mem) : Option (Bool) :=
  J_X12_is_j36 t u0 0 M
def F_X12_is (t : Nat) (u0 : Nat) (M : Mem) : Option (Bool) :=
  if (M t 21) = 0 then
    if (M t 17) = 1 then
      if (F_slen u0) = ((M t 20) - (M t 19)) then
        J_X12_is_j36 t u0 1 M
      else
        J_X12_is_j35 t u0 M
    else
      J_X12_is_j35 t u0 M
  else
    J_X12_is_j35 t u0 M
def L_X12_which_2 (t : Nat) (a0 : Nat) (n0 : Nat) (M : Mem) : Nat → Int32 → Option (Sum (Int32) (Unit))
  | 0, _ => none
  | m9 + 1, x2 =>
    if (nI (txl n0)) ≤ x2 then
      some (Sum.inr ())
    else
      (sld n0 x2).bind fun u2 =>
      (F_X12_is t u2 M).bind fun q3 =>
      if (bi q3) = 0 then
        L_X12_which_2 t a0 n0 M m9 (x2 + 1)
      else
        some (Sum.inl x2)
def F_X12_which (t : Nat) (a0 : Nat) (n0 : Nat) (M : Mem) : Option (Int32) :=
  (L_X12_which_2 t a0 n0 M FU 0).bind fun q5 => Sum.elim (fun v => some v) (fun s6 =>
  some (-1)) q5
def F_X12_isMarked (t : Nat) (p0 : Int32) (M : Mem) : Option (Bool) :=
  if (M t 21) = 0 then
    if (M t 17) = 3 then
      (ald M (t + 13) 700 (M t 19)).bind fun v3 =>
      if v3 = p0 then
        some true
      else
        some false
    else
      some false
  else
    some false
def J_X12_mark_j20 (t : Nat) (M : Mem) : Option (Mem) :=
  if (M t 21) = 0 then
    (F_X12_stepOn t M).bind fun q3 =>
    some q3
  else
    some M
def F_X12_mark (t : Nat) (p0 : Int32) (M : Mem) : Option (Mem) :=
  if (M t 21) = 0 then
    (F_X12_isMarked t p0 M).bind fun q4 =>
    if (bi q4) = 0 then
      J_X12_mark_j20 t (F_X12_wrong t 1 M)
    else
      J_X12_mark_j20 t M
  else
    J_X12_mark_j20 t M
def J_X12_numberNow_j59 (t : Nat) (M : Mem) : Int32 × Mem :=
  ((if (M t 21) = 0 then (M t 18) else (0 : Int32)), M)
def J_X12_numberNow_j54 (t : Nat) (M : Mem) : Int32 × Mem :=
  J_X12_numberNow_j59 t (F_X12_wrong t 2 M)
def F_X12_numberNow (t : Nat) (p0 : Int32) (p1 : Int32) (M : Mem) : Int32 × Mem :=
  if (M t 21) = 0 then
    if (M t 17) = 2 then
      if 4 < ((M t 20) - (M t 19)) then
        J_X12_numberNow_j54 t M
      else
        if (M t 18) < p0 then
          J_X12_numberNow_j54 t M
        else
          if (M t 18) ≤ p1 then
            J_X12_numberNow_j59 t M
          else
            J_X12_numberNow_j54 t M
    else
      J_X12_numberNow_j59 t (F_X12_wrong t 1 M)
  else
    (0, M)
def F_X12_readNumber (t : Nat) (p0 : Int32) (p1 : Int32) (M : Mem) : Option (Int32 × Mem) :=
  if ((F_X12_numberNow t p0 p1 M).2 t 21) = 0 then
    (F_X12_stepOn t (F_X12_numberNow t p0 p1 M).2).bind fun q2 =>
    some ((F_X12_numberNow t p0 p1 M).1, q2)
  else
    some ((F_X12_numberNow t p0 p1 M).1, (F_X12_numberNow t p0 p1 M).2)
def J_X12_streetNow_j32 (t : Nat) (x1 : Int32) (M : Mem) : Int32 × Mem :=
  ((if ((up M t 24 (bi true)) t 21) = 0 then x1 else (0 : Int32)), (up M t 24 (bi true)))
def F_X12_streetNow (t : Nat) (M : Mem) : Int32 × Mem :=
  if ((F_X12_numberNow t 0 9999 M).2 t 21) = 0 then
    if ((F_X12_numberNow t 0 9999 M).1) < ((F_X12_numberNow t 0 9999 M).2 (t + 3) 7) then
      J_X12_streetNow_j32 t ((F_X12_numberNow t 0 9999 M).1) ((F_X12_numberNow t 0 9999 M).2)
    else
      J_X12_streetNow_j32 t ((F_X12_numberNow t 0 9999 M).1) (F_X12_wrong t 3 (F_X12_numberNow t 0 9999 M).2)
  else
    J_X12_streetNow_j32 t ((F_X12_numberNow t 0 9999 M).1) ((F_X12_numberNow t 0 9999 M).2)
def F_X12_readStreet (t : Nat) (M : Mem) : Option (Int32 × Mem) :=
  if ((F_X12_streetNow t M).2 t 21) = 0 then
    (F_X12_stepOn t (F_X12_streetNow t M).2).bind fun q2 =>
    some ((F_X12_streetNow t M).1, q2)
  else
    some ((F_X12_streetNow t M).1, (F_X12_streetNow t M).2)
def F_X12_lay (t : Nat) (p0 : Int32) (M : Mem) : Option (Mem) :=
  if (M t 21) = 0 then
    (ast M (t + 11) 1400 (700 + (M (t + 3) 13)) p0).bind fun M2 =>
    (ald M2 (t + 3) 14 13).bind fun v3 =>
    (ast M2 (t + 3) 14 13 (v3 + 1)).bind fun M4 =>
    some M4
  else
    some M
def J_X12_readStreets_j49 (t : Nat) (a0 : Nat) (n0 : Nat) (rec : Int32 → Mem → Option (Sum (Int32 × Mem) (Int32 × Mem))) (x2 : Int32) (x3 : Int32) (x4 : Int32) (M : Mem) : Option (Sum (Int32 × Mem) (Int32 × Mem)) :=
  (F_X12_readStreet t M).bind fun q5 =>
  if (q5.2 t 21) = 0 then
    (ast q5.2 a0 n0 (x2 + x4) q5.1).bind fun M7 =>
    rec (x4 + 1) M7
  else
    some (Sum.inl (x4, q5.2))
def L_X12_readStreets_23 (t : Nat) (a0 : Nat) (n0 : Nat) (x2 : Int32) (x3 : Int32) : Nat → Int32 → Mem → Option (Sum (Int32 × Mem) (Int32 × Mem))
  | 0, _, _ => none
  | m9 + 1, x4, M =>
    if (M t 21) = 0 then
      if (M t 17) = 2 then
        if x4 = x3 then
          J_X12_readStreets_j49 t a0 n0 (L_X12_readStreets_23 t a0 n0 x2 x3 m9) x2 x3 x4 (F_X12_wrong t 2 M)
        else
          J_X12_readStreets_j49 t a0 n0 (L_X12_readStreets_23 t a0 n0 x2 x3 m9) x2 x3 x4 M
      else
        some (Sum.inr (x4, M))
    else
      some (Sum.inr (x4, M))
def F_X12_readStreets (t : Nat) (a0 : Nat) (n0 : Nat) (p1 : Int32) (p2 : Int32) (M : Mem) : Option (Int32 × Mem) :=
  if (M t 21) = 0 then
    if (M t 17) = 2 then
      (L_X12_readStreets_23 t a0 n0 p1 p2 FU 0 M).bind fun q11 => Sum.elim (fun v => some v) (fun s12 =>
      some (s12.1, s12.2)) q11
    else
      (L_X12_readStreets_23 t a0 n0 p1 p2 FU 0 (F_X12_wrong t 1 M)).bind fun q13 => Sum.elim (fun v => some v) (fun s14 =>
      some (s14.1, s14.2)) q13
  else
    (L_X12_readStreets_23 t a0 n0 p1 p2 FU 0 M).bind fun q8 => Sum.elim (fun v => some v) (fun s9 =>
    some (s9.1, s9.2)) q8
def J_X12_another_j18 (t : Nat) (M : Mem) : Option (Bool × Mem) :=
  if (M t 21) = 0 then
    (F_X12_stepOn t M).bind fun q4 =>
    some (true, q4)
  else
    some (false, M)
def F_X12_another (t : Nat) (p0 : Int32) (p1 : Int32) (M : Mem) : Option (Bool × Mem) :=
  (ald M (t + 3) 14 (7 + p0)).bind fun v1 =>
  if v1 = p1 then
    J_X12_another_j18 t (F_X12_wrong t 2 M)
  else
    J_X12_another_j18 t M
def J_X12_sayPath_j54 (t : Nat) (x1 : Int32) (x2 : Int32) (M : Mem) : Option (Mem) :=
  if (M t 21) = 0 then
    (F_X12_stepOn t M).bind fun q6 =>
    (ald q6 (t + 4) 16 (8 + x1)).bind fun v7 =>
    (ast q6 (t + 4) 16 (8 + x1) (v7 ||| ((1 : Int32) <<< (x2 &&& 31)))).bind fun M8 =>
    (ald M8 (t + 4) 16 (8 + x2)).bind fun v9 =>
    (ast M8 (t + 4) 16 (8 + x2) (v9 ||| ((1 : Int32) <<< (x1 &&& 31)))).bind fun M10 =>
    (ald M10 (t + 3) 14 8).bind fun v11 =>
    (ast M10 (t + 3) 14 8 (v11 + 1)).bind fun M12 =>
    some M12
  else
    some M
def J_X12_sayPath_j49 (t : Nat) (x1 : Int32) (x2 : Int32) (M : Mem) : Option (Mem) :=
  J_X12_sayPath_j54 t x1 x2 (F_X12_wrong t 4 M)
def F_X12_sayPath (t : Nat) (M : Mem) : Option (Mem) :=
  (F_X12_another t 1 14 M).bind fun q1 =>
  if (bi q1.1) = 0 then
    some q1.2
  else
    (F_X12_readStreet t q1.2).bind fun q3 =>
    if ((F_X12_streetNow t q3.2).2 t 21) = 0 then
      if q3.1 = ((F_X12_streetNow t q3.2).1) then
        J_X12_sayPath_j49 t q3.1 ((F_X12_streetNow t q3.2).1) ((F_X12_streetNow t q3.2).2)
      else
        (ald (F_X12_streetNow t q3.2).2 (t + 4) 16 (8 + q3.1)).bind fun v14 =>
        if (bi (F_X12_isOf v14 ((F_X12_streetNow t q3.2).1))) = 0 then
          J_X12_sayPath_j54 t q3.1 ((F_X12_streetNow t q3.2).1) ((F_X12_streetNow t q3.2).2)
        else
          J_X12_sayPath_j49 t q3.1 ((F_X12_streetNow t q3.2).1) ((F_X12_streetNow t q3.2).2)
    else
      J_X12_sayPath_j54 t q3.1 ((F_X12_streetNow t q3.2).1) ((F_X12_streetNow t q3.2).2)
def F_X12_sayPerson (t : Nat) (p0 : Int32) (M : Mem) : Option (Mem) :=
  (F_X12_another t 3 7 M).bind fun q1 =>
  if (bi q1.1) = 0 then
    some q1.2
  else
    (ast q1.2 (t + 6) 14 (7 + (q1.2 (t + 3) 10)) p0).bind fun M3 =>
    (F_X12_readNumber t 0 999 M3).bind fun q4 =>
    (ast q4.2 (t + 7) 14 (7 + (q1.2 (t + 3) 10)) q4.1).bind fun M5 =>
    (F_X12_readStreets t (t + 9) 84 (6 * (7 + (q1.2 (t + 3) 10))) 6 M5).bind fun q6 =>
    (ast q6.2 (t + 8) 14 (7 + (q1.2 (t + 3) 10)) q6.1).bind fun M7 =>
    (ald M7 (t + 3) 14 10).bind fun v8 =>
    (ast M7 (t + 3) 14 10 (v8 + 1)).bind fun M9 =>
    some M9
def J_X12_sayFogs_j48 (t : Nat) (rec : Int32 → Mem → Option (Sum (Mem) (Int32 × Mem))) (x1 : Int32) (M : Mem) : Option (Sum (Mem) (Int32 × Mem)) :=
  (F_X12_readNumber t 0 9 M).bind fun q5 =>
  if (q5.2 t 21) = 0 then
    (ast q5.2 (t + 10) 16 (8 + x1) q5.1).bind fun M7 =>
    rec (x1 + 1) M7
  else
    some (Sum.inl q5.2)
def L_X12_sayFogs_22 (t : Nat) : Nat → Int32 → Mem → Option (Sum (Mem) (Int32 × Mem))
  | 0, _, _ => none
  | m9 + 1, x1, M =>
    if (M t 21) = 0 then
      if (M t 17) = 2 then
        if x1 = 8 then
          J_X12_sayFogs_j48 t (L_X12_sayFogs_22 t m9) x1 (F_X12_wrong t 2 M)
        else
          J_X12_sayFogs_j48 t (L_X12_sayFogs_22 t m9) x1 M
      else
        some (Sum.inr (x1, M))
    else
      some (Sum.inr (x1, M))
def J_X12_sayFogs_j80 (t : Nat) (x1 : Int32) (M : Mem) : Option (Mem) :=
  (ast M (t + 3) 14 11 x1).bind fun M10 =>
  some M10
def F_X12_sayFogs (t : Nat) (M : Mem) : Option (Mem) :=
  if (M t 21) = 0 then
    if (M t 17) = 2 then
      (L_X12_sayFogs_22 t FU 0 M).bind fun q12 => Sum.elim (fun v => some v) (fun s13 =>
      J_X12_sayFogs_j80 t s13.1 s13.2) q12
    else
      (L_X12_sayFogs_22 t FU 0 (F_X12_wrong t 1 M)).bind fun q14 => Sum.elim (fun v => some v) (fun s15 =>
      J_X12_sayFogs_j80 t s15.1 s15.2) q14
  else
    (L_X12_sayFogs_22 t FU 0 M).bind fun q8 => Sum.elim (fun v => some v) (fun s9 =>
    J_X12_sayFogs_j80 t s9.1 s9.2) q8
def L_X12_takeHalf_2 (a0 : Nat) (n0 : Nat) : Nat → Int32 → Mem → Option (Mem)
  | 0, _, _ => none
  | m9 + 1, x1, M =>
    if ((nI n0) / 2) ≤ x1 then
      some M
    else
      (ald M a0 n0 (((nI n0) / 2) + x1)).bind fun v2 =>
      (ast M a0 n0 x1 v2).bind fun M3 =>
      L_X12_takeHalf_2 a0 n0 m9 (x1 + 1) M3
def F_X12_takeHalf (a0 : Nat) (n0 : Nat) (M : Mem) : Option (Mem) :=
  (L_X12_takeHalf_2 a0 n0 FU 0 M).bind fun s5 =>
  some s5
def J_X12_takeOver_j186 (t : Nat) (rec : Int32 → Mem → Option (Mem)) (x1 : Int32) (x2 : Int32) (x3 : Int32) (y1 : Int32) (y2 : Int32) (M : Mem) : Option (Mem) :=
  (ast M (t + 16) 42 y1 y2).bind fun M18 =>
  rec (x3 + 1) M18
def J_X12_takeOver_j185 (t : Nat) (rec : Int32 → Mem → Option (Mem)) (x1 : Int32) (x2 : Int32) (x3 : Int32) (y1 : Int32) (M : Mem) : Option (Mem) :=
  J_X12_takeOver_j186 t (rec) x1 x2 x3 y1 0 M
def L_X12_takeOver_141 (t : Nat) (x1 : Int32) (x2 : Int32) : Nat → Int32 → Mem → Option (Mem)
  | 0, _, _ => none
  | m9 + 1, x3, M =>
    if 6 ≤ x3 then
      some M
    else
      if x2 = 0 then
        J_X12_takeOver_j185 t (L_X12_takeOver_141 t x1 x2 m9) x1 x2 x3 ((6 * x1) + x3) M
      else
        (ald M (t + 8) 14 x1).bind fun v19 =>
        if v19 ≤ x3 then
          J_X12_takeOver_j185 t (L_X12_takeOver_141 t x1 x2 m9) x1 x2 x3 ((6 * x1) + x3) M
        else
          (ald M (t + 9) 84 ((6 * x1) + x3)).bind fun v21 =>
          J_X12_takeOver_j186 t (L_X12_takeOver_141 t x1 x2 m9) x1 x2 x3 ((6 * x1) + x3) v21 M
def J_X12_takeOver_j131 (t : Nat) (rec : Int32 → Mem → Option (Mem)) (x1 : Int32) (x2 : Int32) (y1 : Int32) (y2 : Int32) (M : Mem) : Option (Mem) :=
  (ast M (t + 14) 7 y1 y2).bind fun M14 =>
  (ast M14 (t + 15) 7 x1 0).bind fun M15 =>
  (L_X12_takeOver_141 t x1 x2 FU 0 M15).bind fun s23 =>
  rec (x1 + 1) s23
def L_X12_takeOver_90 (t : Nat) : Nat → Int32 → Mem → Option (Mem)
  | 0, _, _ => none
  | m9 + 1, x1, M =>
    if 7 ≤ x1 then
      some M
    else
      if (if (M (t + 3) 3) ≤ x1 then (0 : Int32) else (1 : Int32)) = 0 then
        J_X12_takeOver_j131 t (L_X12_takeOver_90 t m9) x1 (if (M (t + 3) 3) ≤ x1 then (0 : Int32) else (1 : Int32)) x1 0 M
      else
        (ald M (t + 7) 14 x1).bind fun v24 =>
        J_X12_takeOver_j131 t (L_X12_takeOver_90 t m9) x1 (if (M (t + 3) 3) ≤ x1 then (0 : Int32) else (1 : Int32)) x1 v24 M
def F_X12_takeOver (t : Nat) (M : Mem) : Option (Mem) :=
  (F_X12_takeHalf (t + 3) 14 M).bind fun q1 =>
  (F_X12_takeHalf (t + 4) 16 q1).bind fun q2 =>
  (F_X12_takeHalf (t + 5) 16 q2).bind fun q3 =>
  (F_X12_takeHalf (t + 6) 14 q3).bind fun q4 =>
  (F_X12_takeHalf (t + 7) 14 q4).bind fun q5 =>
  (F_X12_takeHalf (t + 8) 14 q5).bind fun q6 =>
  (F_X12_takeHalf (t + 9) 84 q6).bind fun q7 =>
  (F_X12_takeHalf (t + 10) 16 q7).bind fun q8 =>
  (F_X12_takeHalf (t + 11) 1400 q8).bind fun q9 =>
  (L_X12_takeOver_90 t FU 0 (up (up (up (up q9 t 29 0) t 30 0) t 31 ((up (up q9 t 29 0) t 30 0) (t + 3) 5)) t 32 0)).bind fun s26 =>
  some (up (up (up s26 t 33 0) t 34 0) t 55 (bi false))
def F_X12_fault (t : Nat) (M : Mem) : Int32 × Mem :=
  (((up M t 2 0) t 23), (up M t 2 0))
def L_X12_pack_36 (t : Nat) (a0 : Nat) (n0 : Nat) (x2 : Int32) : Nat → Int32 → Mem → Option (Mem)
  | 0, _, _ => none
  | m9 + 1, x3, M =>
    if 7 ≤ x3 then
      some M
    else
      (ald M (t + 14) 7 x3).bind fun v6 =>
      (ast M a0 n0 ((x2 + 4) + x3) v6).bind fun M7 =>
      (ald M7 (t + 15) 7 x3).bind fun v8 =>
      (ast M7 a0 n0 (((x2 + 4) + 7) + x3) v8).bind fun M9 =>
      L_X12_pack_36 t a0 n0 x2 m9 (x3 + 1) M9
def L_X12_pack_87 (t : Nat) (a0 : Nat) (n0 : Nat) (x3 : Int32) : Nat → Int32 → Mem → Option (Mem)
  | 0, _, _ => none
  | m9 + 1, x4, M =>
    if 42 ≤ x4 then
      some M
    else
      (ald M (t + 16) 42 x4).bind fun v13 =>
      (ast M a0 n0 (x3 + x4) v13).bind fun M14 =>
      L_X12_pack_87 t a0 n0 x3 m9 (x4 + 1) M14
def F_X12_pack (t : Nat) (a0 : Nat) (n0 : Nat) (p1 : Int32) (M : Mem) : Option (Mem) :=
  (ast M a0 n0 p1 (M t 29)).bind fun M1 =>
  (ast M1 a0 n0 (p1 + 1) (M1 t 30)).bind fun M2 =>
  (ast M2 a0 n0 (p1 + 2) (M2 t 31)).bind fun M3 =>
  (ast M3 a0 n0 (p1 + 3) (M3 t 32)).bind fun M4 =>
  (L_X12_pack_36 t a0 n0 p1 FU 0 M4).bind fun s11 =>
  (L_X12_pack_87 t a0 n0 ((p1 + 4) + 14) FU 0 s11).bind fun s16 =>
  some s16
def L_X12_unpack_36 (t : Nat) (a0 : Nat) (n0 : Nat) (x2 : Int32) : Nat → Int32 → Mem → Option (Mem)
  | 0, _, _ => none
  | m9 + 1, x3, M =>
    if 7 ≤ x3 then
      some M
    else
      (ald M a0 n0 ((x2 + 4) + x3)).bind fun v6 =>
      (ast M (t + 14) 7 x3 v6).bind fun M7 =>
      (ald M7 a0 n0 (((x2 + 4) + 7) + x3)).bind fun v8 =>
      (ast M7 (t + 15) 7 x3 v8).bind fun M9 =>
      L_X12_unpack_36 t a0 n0 x2 m9 (x3 + 1) M9
def L_X12_unpack_87 (t : Nat) (a0 : Nat) (n0 : Nat) (x3 : Int32) : Nat → Int32 → Mem → Option (Mem)
  | 0, _, _ => none
  | m9 + 1, x4, M =>
    if 42 ≤ x4 then
      some M
    else
      (ald M a0 n0 (x3 + x4)).bind fun v13 =>
      (ast M (t + 16) 42 x4 v13).bind fun M14 =>
      L_X12_unpack_87 t a0 n0 x3 m9 (x4 + 1) M14
def F_X12_unpack (t : Nat) (a0 : Nat) (n0 : Nat) (p1 : Int32) (M : Mem) : Option (Mem) :=
  (ald M a0 n0 p1).bind fun v1 =>
  (ald (up M t 29 v1) a0 n0 (p1 + 1)).bind fun v2 =>
  (ald (up (up M t 29 v1) t 30 v2) a0 n0 (p1 + 2)).bind fun v3 =>
  (ald (up (up (up M t 29 v1) t 30 v2) t 31 v3) a0 n0 (p1 + 3)).bind fun v4 =>
  (L_X12_unpack_36 t a0 n0 p1 FU 0 (up (up (up (up M t 29 v1) t 30 v2) t 31 v3) t 32 v4)).bind fun s11 =>
  (L_X12_unpack_87 t a0 n0 ((p1 + 4) + 14) FU 0 s11).bind fun s16 =>
  some s16
def F_X12_fogOf (t : Nat) (M : Mem) : Option (Int32) :=
  if (M t 35) = (-1) then
    if (M (t + 3) 4) = 0 then
      some 0
    else
      (irm (M t 29) (M (t + 3) 4)).bind fun v3 =>
      (ald M (t + 10) 16 v3).bind fun v4 =>
      some v4
  else
    some (M t 35)
def F_X12_watchAt (t : Nat) (p0 : Int32) (p1 : Int32) (M : Mem) : Option (Int32) :=
  (irm ((6 * p0) + p1) (M (t + 3) 2)).bind fun v1 =>
  (ald M (t + 5) 16 v1).bind fun v2 =>
  some v2
def F_X12_streetOf (t : Nat) (p0 : Int32) (p1 : Int32) (M : Mem) : Option (Int32) :=
  (ald M (t + 8) 14 p0).bind fun v1 =>
  (irm p1 v1).bind fun v2 =>
  (ald M (t + 16) 42 ((6 * p0) + v2)).bind fun v3 =>
  some v3
def L_X12_seenHours_31 (t : Nat) (x1 : Int32) (x3 : Int32) (M : Mem) : Nat → Int32 → Int32 → Option (Int32)
  | 0, _, _ => none
  | m9 + 1, x2, x4 =>
    if 6 ≤ x4 then
      some x2
    else
      if x3 = 0 then
        some x2
      else
        (F_X12_watchAt t (M t 29) x4 M).bind fun q5 =>
        (F_X12_streetOf t x1 x4 M).bind fun q6 =>
        L_X12_seenHours_31 t x1 x3 M m9 (x2 ||| (if q5 = q6 then ((1 : Int32) <<< (x4 &&& 31)) else (0 : Int32))) (x4 + 1)
def J_X12_seenHours_j27 (t : Nat) (x1 : Int32) (x2 : Int32) (y0 : Int32) (M : Mem) : Option (Int32) :=
  (L_X12_seenHours_31 t x1 y0 M FU x2 0).bind fun s10 =>
  some s10
def J_X12_seenHours_j26 (t : Nat) (x1 : Int32) (x2 : Int32) (M : Mem) : Option (Int32) :=
  J_X12_seenHours_j27 t x1 x2 0 M
def F_X12_seenHours (t : Nat) (p0 : Int32) (M : Mem) : Option (Int32) :=
  (F_X12_fogOf t M).bind fun q1 =>
  if 7 ≤ q1 then
    J_X12_seenHours_j26 t p0 0 M
  else
    if (bi (F_X12_isOf (M t 32) p0)) = 0 then
      J_X12_seenHours_j27 t p0 0 1 M
    else
      J_X12_seenHours_j26 t p0 0 M
def L_X12_lotsNow_4 (t : Nat) (M : Mem) : Nat → Int32 → Int32 → Option (Int32)
  | 0, _, _ => none
  | m9 + 1, x1, x2 =>
    if (M (t + 3) 3) ≤ x2 then
      some x1
    else
      (F_X12_seenHours t x2 M).bind fun q2 =>
      L_X12_lotsNow_4 t M m9 (x1 ||| (if q2 = 0 then (0 : Int32) else ((1 : Int32) <<< (x2 &&& 31)))) (x2 + 1)
def F_X12_lotsNow (t : Nat) (M : Mem) : Option (Int32) :=
  (L_X12_lotsNow_4 t M FU 0 0).bind fun s6 =>
  some s6
def F_X12_reckon (p0 : Int32) (p1 : Int32) (p2 : Int32) : Option (Int32) :=
  if p0 = (-26) then
    if p1 = 0 then
      some 0
    else
      if p2 = 0 then
        some 0
      else
        some 1
  else if p0 = (-25) then
    some (if p1 = p2 then (1 : Int32) else (0 : Int32))
  else if p0 = (-24) then
    some (if p2 ≤ p1 then (0 : Int32) else (1 : Int32))
  else if p0 = (-23) then
    if p2 = 0 then
      some 0
    else
      (idv p1 p2).bind fun v12 =>
      some v12
  else if p0 = (-22) then
    some (p1 * p2)
  else if p0 = (-21) then
    some (p1 - p2)
  else if p0 = (-20) then
    some (p1 + p2)
  else if p1 = 0 then
    if p2 = 0 then
      some 0
    else
      some 1
  else
    some 1
def J_X12_valueNow_j49 (t : Nat) (rec : Int32 → Int32 → Mem → Option (Mem)) (x1 : Int32) (x2 : Int32) (y1 : Int32) (y2 : Int32) (M : Mem) : Option (Mem) :=
  (ast M (t + 19) 64 y1 y2).bind fun M15 =>
  rec (x1 + 1) (x2 + 1) M15
def L_X12_valueNow_4 (t : Nat) : Nat → Int32 → Int32 → Mem → Option (Mem)
  | 0, _, _, _ => none
  | m9 + 1, x1, x2, M =>
    if (M (t + 3) 6) ≤ x2 then
      some M
    else
      (ald M (t + 11) 1400 x2).bind fun v2 =>
      if v2 ≤ (-20) then
        if v2 = (-28) then
          (ald M (t + 19) 64 (x1 - 1)).bind fun v9 =>
          (ast M (t + 19) 64 (x1 - 1) (if v9 = 0 then (1 : Int32) else (0 : Int32))).bind fun M12 =>
          L_X12_valueNow_4 t m9 x1 (x2 + 1) M12
        else
          (ald M (t + 19) 64 ((x1 + (-1)) - 1)).bind fun v5 =>
          (ald M (t + 19) 64 (x1 + (-1))).bind fun v6 =>
          (F_X12_reckon v2 v5 v6).bind fun q7 =>
          (ast M (t + 19) 64 ((x1 + (-1)) - 1) q7).bind fun M8 =>
          L_X12_valueNow_4 t m9 (x1 + (-1)) (x2 + 1) M8
      else
        if v2 < 0 then
          (ald M (t + 18) 8 ((-1) - v2)).bind fun v14 =>
          J_X12_valueNow_j49 t (L_X12_valueNow_4 t m9) x1 x2 x1 v14 M
        else
          J_X12_valueNow_j49 t (L_X12_valueNow_4 t m9) x1 x2 x1 v2 M
def F_X12_valueNow (t : Nat) (M : Mem) : Option (Int32 × Mem) :=
  (L_X12_valueNow_4 t FU 0 0 M).bind fun s17 =>
  some ((s17 (t + 19) 0), s17)
def L_X12_tellLots_7 (t : Nat) : Nat → Int32 → Mem → Option (Mem)
  | 0, _, _ => none
  | m9 + 1, x1, M =>
    if (M (t + 3) 3) ≤ x1 then
      some M
    else
      (F_X12_seenHours t x1 M).bind fun q2 =>
      (ast M (t + 20) 7 x1 q2).bind fun M3 =>
      (ald M3 (t + 20) 7 x1).bind fun v4 =>
      L_X12_tellLots_7 t m9 (x1 + 1) (up M3 t 39 ((M3 t 39) ||| (if v4 = 0 then (0 : Int32) else ((1 : Int32) <<< (x1 &&& 31)))))
def F_X12_tellLots (t : Nat) (M : Mem) : Option (Mem) :=
  (L_X12_tellLots_7 t FU 0 (up M t 39 0)).bind fun s8 =>
  some s8
def L_X12_firstStreet_2 (t : Nat) (x1 : Int32) (M : Mem) : Nat → Int32 → Option (Sum (Int32) (Int32))
  | 0, _ => none
  | m9 + 1, x2 =>
    if 6 ≤ x2 then
      some (Sum.inl 0)
    else
      (ald M (t + 20) 7 x1).bind fun v2 =>
      if (bi (F_X12_isOf v2 x2)) = 0 then
        L_X12_firstStreet_2 t x1 M m9 (x2 + 1)
      else
        some (Sum.inr x2)
def F_X12_firstStreet (t : Nat) (p0 : Int32) (M : Mem) : Option (Int32) :=
  (L_X12_firstStreet_2 t p0 M FU 0).bind fun q4 => Sum.elim (fun v => some v) (fun s5 =>
  (F_X12_streetOf t p0 s5 M).bind fun q6 =>
  some q6) q4
def J_X12_bidOf_j177 (t : Nat) (x1 : Int32) (x4 : Int32) (M : Mem) : Option (Int32 × Mem) :=
  (ald M (t + 14) 7 x1).bind fun v8 =>
  some ((imax 0 (imin v8 x4)), M)
def J_X12_bidOf_j22 (t : Nat) (x1 : Int32) (x2 : Int32) (M : Mem) : Option (Int32 × Mem) :=
  (ald M (t + 15) 7 x1).bind fun v2 =>
  (ald M (t + 20) 7 x2).bind fun v5 =>
  (F_X12_bitsOf v5 M).bind fun q6 =>
  if (M (t + 3) 6) ≤ 0 then
    J_X12_bidOf_j177 t x1 (((if x1 = x2 then (20 : Int32) else (3 : Int32)) + (5 * q6)) - (9 * ((v2 >>> (x2 &&& 31)) &&& 1))) M
  else
    (ast M (t + 18) 8 0 (if x1 = x2 then (1 : Int32) else (0 : Int32))).bind fun M11 =>
    (ald M11 (t + 14) 7 x1).bind fun v12 =>
    (ast M11 (t + 18) 8 1 v12).bind fun M13 =>
    (ald M13 (t + 14) 7 x2).bind fun v14 =>
    (ast M13 (t + 18) 8 2 v14).bind fun M15 =>
    (ast M15 (t + 18) 8 3 ((v2 >>> (x2 &&& 31)) &&& 1)).bind fun M16 =>
    (ald M16 (t + 20) 7 x2).bind fun v17 =>
    (F_X12_bitsOf v17 M16).bind fun q18 =>
    (ast M16 (t + 18) 8 4 q18).bind fun M19 =>
    (F_X12_firstStreet t x2 M19).bind fun q20 =>
    (ast M19 (t + 18) 8 5 q20).bind fun M21 =>
    (F_X12_bitsOf (M21 t 39) M21).bind fun q22 =>
    (ast M21 (t + 18) 8 6 q22).bind fun M23 =>
    (ast M23 (t + 18) 8 7 (M23 t 29)).bind fun M24 =>
    (F_X12_valueNow t M24).bind fun q25 =>
    J_X12_bidOf_j177 t x1 q25.1 q25.2
def F_X12_bidOf (t : Nat) (p0 : Int32) (p1 : Int32) (M : Mem) : Option (Int32 × Mem) :=
  if p0 = p1 then
    (ald M (t + 6) 14 p0).bind fun v26 =>
    if v26 = 1 then
      (ald M (t + 14) 7 p0).bind fun v28 =>
      some (v28, M)
    else
      J_X12_bidOf_j22 t p0 p1 M
  else
    J_X12_bidOf_j22 t p0 p1 M
def L_X12_sell_10 (t : Nat) (x1 : Int32) : Nat → Int32 → Int32 → Int32 → Int32 → Mem → Option (Int32 × Int32 × Int32 × Mem)
  | 0, _, _, _, _, _ => none
  | m9 + 1, x2, x3, x4, x5, M =>
    if (M (t + 3) 3) ≤ x5 then
      some (x2, x3, x4, M)
    else
      (F_X12_bidOf t x5 x1 M).bind fun q2 =>
      if q2.1 ≤ x3 then
        L_X12_sell_10 t x1 m9 x2 x3 (imax x4 q2.1) (x5 + 1) q2.2
      else
        L_X12_sell_10 t x1 m9 x5 q2.1 x3 (x5 + 1) q2.2
def J_X12_sell_j76 (t : Nat) (M : Mem) : Option (Mem) :=
  some (up M t 30 ((M t 30) + 1))
def F_X12_sell (t : Nat) (p0 : Int32) (M : Mem) : Option (Mem) :=
  (L_X12_sell_10 t p0 FU (-1) 0 0 0 M).bind fun s5 =>
  if s5.1 = (-1) then
    J_X12_sell_j76 t s5.2.2.2
  else
    if (s5.2.2.2 t 31) ≤ s5.2.1 then
      (ast s5.2.2.2 (t + 21) 7 p0 s5.1).bind fun M8 =>
      (ast M8 (t + 22) 7 p0 (imax s5.2.2.1 (M8 t 31))).bind fun M9 =>
      (ald M9 (t + 14) 7 s5.1).bind fun v10 =>
      (ald M9 (t + 22) 7 p0).bind fun v11 =>
      (ast M9 (t + 14) 7 s5.1 (v10 - v11)).bind fun M12 =>
      if s5.1 = p0 then
        some (up M12 t 42 ((M12 t 42) + 1))
      else
        (ald (up M12 t 42 ((M12 t 42) + 1)) (t + 15) 7 s5.1).bind fun v14 =>
        (ast (up M12 t 42 ((M12 t 42) + 1)) (t + 15) 7 s5.1 (v14 ||| ((1 : Int32) <<< (p0 &&& 31)))).bind fun M15 =>
        some M15
    else
      J_X12_sell_j76 t s5.2.2.2
def L_X12_aNight_11 (t : Nat) : Nat → Int32 → Mem → Option (Mem)
  | 0, _, _ => none
  | m9 + 1, x1, M =>
    if 7 ≤ x1 then
      some M
    else
      (ast M (t + 21) 7 x1 (-1)).bind fun M3 =>
      (ast M3 (t + 22) 7 x1 (-1)).bind fun M4 =>
      L_X12_aNight_11 t m9 (x1 + 1) M4
def L_X12_aNight_39 (t : Nat) : Nat → Int32 → Mem → Option (Mem)
  | 0, _, _ => none
  | m9 + 1, x1, M =>
    if (M (t + 3) 3) ≤ x1 then
      some M
    else
      if (bi (F_X12_isOf (M t 39) x1)) = 0 then
        L_X12_aNight_39 t m9 (x1 + 1) M
      else
        (F_X12_sell t x1 M).bind fun q9 =>
        L_X12_aNight_39 t m9 (x1 + 1) q9
def F_X12_aNight (t : Nat) (M : Mem) : Option (Mem) :=
  (F_X12_tellLots t M).bind fun q1 =>
  (L_X12_aNight_11 t FU 0 (up q1 t 42 0)).bind fun s6 =>
  (L_X12_aNight_39 t FU 0 s6).bind fun s11 =>
  some (up (up s11 t 32 0) t 29 (((up s11 t 32 0) t 29) + 1))
def L_X12_goOn_2 (t : Nat) (x1 : Int32) : Nat → Int32 → Mem → Option (Mem)
  | 0, _, _ => none
  | m9 + 1, x2, M =>
    if x1 ≤ x2 then
      some M
    else
      (F_X12_aNight t M).bind fun q2 =>
      L_X12_goOn_2 t x1 m9 (x2 + 1) q2
def F_X12_goOn (t : Nat) (p0 : Int32) (M : Mem) : Option (Mem) :=
  (L_X12_goOn_2 t p0 FU 0 M).bind fun s4 =>
  some s4
def L_X12_allCoins_4 (t : Nat) (M : Mem) : Nat → Int32 → Int32 → Option (Int32)
  | 0, _, _ => none
  | m9 + 1, x1, x2 =>
    if (M (t + 3) 3) ≤ x2 then
      some x1
    else
      (ald M (t + 14) 7 x2).bind fun v2 =>
      L_X12_allCoins_4 t M m9 (x1 + v2) (x2 + 1)
def F_X12_allCoins (t : Nat) (M : Mem) : Option (Int32) :=
  (L_X12_allCoins_4 t M FU 0 0).bind fun s4 =>
  some s4
def J_X12_count_j84 (t : Nat) (x1 : Int32) (M : Mem) : Option (Int32 × Mem) :=
  (ald M (t + 3) 14 x1).bind fun v2 =>
  some (v2, M)
def J_X12_count_j150 (t : Nat) (x1 : Int32) (M : Mem) : Option (Int32 × Mem) :=
  (ald M (t + 12) 3 (x1 - 13)).bind fun v18 =>
  some (v18, M)
def F_X12_count (t : Nat) (p0 : Int32) (M : Mem) : Option (Int32 × Mem) :=
  if p0 = 0 then
    J_X12_count_j84 t p0 (up M t 2 0)
  else if p0 = 1 then
    J_X12_count_j84 t p0 (up M t 2 0)
  else if p0 = 2 then
    some (((up M t 2 0) (t + 3) 3), (up M t 2 0))
  else if p0 = 3 then
    some (((up M t 2 0) (t + 3) 2), (up M t 2 0))
  else if p0 = 4 then
    some (((up M t 2 0) t 29), (up M t 2 0))
  else if p0 = 5 then
    (F_X12_fogOf t (up M t 2 0)).bind fun q8 =>
    some (q8, (up M t 2 0))
  else if p0 = 6 then
    some (((up M t 2 0) t 31), (up M t 2 0))
  else if p0 = 7 then
    some (((up M t 2 0) t 30), (up M t 2 0))
  else if p0 = 8 then
    some (((up M t 2 0) t 32), (up M t 2 0))
  else if p0 = 9 then
    (F_X12_allCoins t (up M t 2 0)).bind fun q13 =>
    some (q13, (up M t 2 0))
  else if p0 = 10 then
    some (((up M t 2 0) t 33), (up M t 2 0))
  else if p0 = 11 then
    some (((up M t 2 0) t 34), (up M t 2 0))
  else if p0 = 12 then
    some (((up M t 2 0) t 14), (up M t 2 0))
  else if p0 = 13 then
    J_X12_count_j150 t p0 (up M t 2 0)
  else if p0 = 14 then
    J_X12_count_j150 t p0 (up M t 2 0)
  else if p0 = 15 then
    J_X12_count_j150 t p0 (up M t 2 0)
  else some ((F_X12_fail t 1 (up M t 2 0)).1, (F_X12_fail t 1 (up M t 2 0)).2)
def F_X12_paths (t : Nat) (p0 : Int32) (M : Mem) : Option (Int32 × Mem) :=
  if (bi (F_X12_isStreet t p0 (up M t 2 0))) = 0 then
    some ((F_X12_fail t 1 (up M t 2 0)).1, (F_X12_fail t 1 (up M t 2 0)).2)
  else
    (ald (up M t 2 0) (t + 4) 16 p0).bind fun v2 =>
    some (v2, (up M t 2 0))
def F_X12_person (t : Nat) (p0 : Int32) (p1 : Int32) (M : Mem) : Option (Int32 × Mem) :=
  if (bi (F_X12_isPerson t p0 (up M t 2 0))) = 0 then
    some ((F_X12_fail t 1 (up M t 2 0)).1, (F_X12_fail t 1 (up M t 2 0)).2)
  else
    if p1 = 0 then
      (ald (up M t 2 0) (t + 14) 7 p0).bind fun v3 =>
      some (v3, (up M t 2 0))
    else if p1 = 1 then
      (ald (up M t 2 0) (t + 8) 14 p0).bind fun v5 =>
      some (v5, (up M t 2 0))
    else if p1 = 2 then
      (ald (up M t 2 0) (t + 15) 7 p0).bind fun v7 =>
      some (v7, (up M t 2 0))
    else if p1 = 3 then
      (ald (up M t 2 0) (t + 6) 14 p0).bind fun v9 =>
      some (v9, (up M t 2 0))
    else if p1 = 4 then
      (F_X12_seenHours t p0 (up M t 2 0)).bind fun q11 =>
      some (q11, (up M t 2 0))
    else some ((F_X12_fail t 1 (up M t 2 0)).1, (F_X12_fail t 1 (up M t 2 0)).2)
def J_X12_walk_j45 (t : Nat) (M : Mem) : Option (Int32 × Mem) :=
  some ((F_X12_fail t 1 M).1, (F_X12_fail t 1 M).2)
def F_X12_walk (t : Nat) (p0 : Int32) (p1 : Int32) (M : Mem) : Option (Int32 × Mem) :=
  if (bi (F_X12_isPerson t p0 (up M t 2 0))) = 0 then
    J_X12_walk_j45 t (up M t 2 0)
  else
    (ald (up M t 2 0) (t + 8) 14 p0).bind fun v2 =>
    if (bi (F_X12_isIn p1.toInt64 0 ((v2 - 1).toInt64))) = 0 then
      J_X12_walk_j45 t (up M t 2 0)
    else
      (ald (up M t 2 0) (t + 16) 42 ((6 * p0) + p1)).bind fun v4 =>
      some (v4, (up M t 2 0))
def F_X12_refuse (t : Nat) (p0 : Int32) (M : Mem) : Option (Int32 × Mem) :=
  (ald M (t + 12) 3 p0).bind fun v1 =>
  (ast M (t + 12) 3 p0 (v1 + 1)).bind fun M2 =>
  some ((-1), M2)
def J_X12_keep_j52 (t : Nat) (M : Mem) : Option (Mem) :=
  (F_X12_pack t (t + 17) 2400 (60 * (M t 33)) M).bind fun q2 =>
  some (up q2 t 33 ((q2 t 33) + 1))
def L_X12_keep_12 (t : Nat) : Nat → Int32 → Mem → Option (Mem)
  | 0, _, _ => none
  | m9 + 1, x1, M =>
    if 2400 ≤ x1 then
      some M
    else
      (ald M (t + 17) 2400 x1).bind fun v4 =>
      (ast M (t + 17) 2400 (x1 - 60) v4).bind fun M5 =>
      L_X12_keep_12 t m9 (x1 + 1) M5
def F_X12_keep (t : Nat) (M : Mem) : Option (Mem) :=
  if (M t 33) = 40 then
    (L_X12_keep_12 t FU 60 M).bind fun s7 =>
    J_X12_keep_j52 t (up s7 t 33 ((s7 t 33) - 1))
  else
    J_X12_keep_j52 t M
def J_X12_nights_j29 (t : Nat) (M : Mem) : Option (Int32 × Mem) :=
  (F_X12_refuse t 1 M).bind fun q2 =>
  some (q2.1, q2.2)
def F_X12_nights (t : Nat) (p0 : Int32) (M : Mem) : Option (Int32 × Mem) :=
  if (bi (F_X12_isIn p0.toInt64 1 20)) = 0 then
    J_X12_nights_j29 t (up M t 2 0)
  else
    if (((up M t 2 0) t 29) + p0) ≤ 999 then
      (F_X12_keep t (up M t 2 0)).bind fun q4 =>
      (F_X12_goOn t p0 q4).bind fun q5 =>
      some ((q5 t 29), q5)
    else
      J_X12_nights_j29 t (up M t 2 0)
def F_X12_canBribe (t : Nat) (p0 : Int32) (M : Mem) : Option (Bool) :=
  if (bi (F_X12_isOf (M t 32) p0)) = 0 then
    (ald M (t + 14) 7 p0).bind fun v2 =>
    if v2 < 5 then
      some false
    else
      some true
  else
    some false
def F_X12_doBribe (t : Nat) (p0 : Int32) (M : Mem) : Option (Mem) :=
  (ald M (t + 14) 7 p0).bind fun v1 =>
  (ast M (t + 14) 7 p0 (v1 - 5)).bind fun M2 =>
  some (up M2 t 32 ((M2 t 32) ||| ((1 : Int32) <<< (p0 &&& 31))))
def F_X12_bribe (t : Nat) (p0 : Int32) (M : Mem) : Option (Int32 × Mem) :=
  if (bi (F_X12_isPerson t p0 (up M t 2 0))) = 0 then
    some ((F_X12_fail t 1 (up M t 2 0)).1, (F_X12_fail t 1 (up M t 2 0)).2)
  else
    (F_X12_canBribe t p0 (up M t 2 0)).bind fun q2 =>
    if (bi q2) = 0 then
      (F_X12_refuse t 1 (up M t 2 0)).bind fun q7 =>
      some (q7.1, q7.2)
    else
      (F_X12_keep t (up M t 2 0)).bind fun q4 =>
      (F_X12_doBribe t p0 q4).bind fun q5 =>
      (ald q5 (t + 14) 7 p0).bind fun v6 =>
      some (v6, q5)
def J_X12_wander_j39 (t : Nat) (M : Mem) : Option (Int32 × Mem) :=
  some ((F_X12_fail t 1 M).1, (F_X12_fail t 1 M).2)
def F_X12_wander (t : Nat) (p0 : Int32) (p1 : Int32) (p2 : Int32) (M : Mem) : Option (Int32 × Mem) :=
  if (bi (F_X12_isPerson t p0 (up M t 2 0))) = 0 then
    J_X12_wander_j39 t (up M t 2 0)
  else
    (ald (up M t 2 0) (t + 8) 14 p0).bind fun v2 =>
    if (bi (F_X12_isIn p1.toInt64 0 ((v2 - 1).toInt64))) = 0 then
      J_X12_wander_j39 t (up M t 2 0)
    else
      if (bi (F_X12_isStreet t p2 (up M t 2 0))) = 0 then
        J_X12_wander_j39 t (up M t 2 0)
      else
        (ald (up M t 2 0) (t + 16) 42 ((6 * p0) + p1)).bind fun v5 =>
        if v5 = p2 then
          (F_X12_refuse t 1 (up M t 2 0)).bind fun q9 =>
          some (q9.1, q9.2)
        else
          (F_X12_keep t (up M t 2 0)).bind fun q7 =>
          (ast q7 (t + 16) 42 ((6 * p0) + p1) p2).bind fun M8 =>
          some (v5, M8)
def F_X12_earn (t : Nat) (p0 : Int32) (p1 : Int32) (M : Mem) : Option (Int32 × Mem) :=
  if (bi (F_X12_isPerson t p0 (up M t 2 0))) = 0 then
    some ((F_X12_fail t 1 (up M t 2 0)).1, (F_X12_fail t 1 (up M t 2 0)).2)
  else
    if (bi (F_X12_isIn p1.toInt64 1 99)) = 0 then
      (F_X12_refuse t 1 (up M t 2 0)).bind fun q7 =>
      some (q7.1, q7.2)
    else
      (F_X12_keep t (up M t 2 0)).bind fun q3 =>
      (ald q3 (t + 14) 7 p0).bind fun v4 =>
      (ast q3 (t + 14) 7 p0 (imin 999 (v4 + p1))).bind fun M5 =>
      (ald M5 (t + 14) 7 p0).bind fun v6 =>
      some (v6, M5)
def F_X12_reserve (t : Nat) (p0 : Int32) (M : Mem) : Option (Int32 × Mem) :=
  if (bi (F_X12_isIn p0.toInt64 0 99)) = 0 then
    (F_X12_refuse t 1 (up M t 2 0)).bind fun q3 =>
    some (q3.1, q3.2)
  else
    (F_X12_keep t (up M t 2 0)).bind fun q2 =>
    some ((q2 t 31), (up q2 t 31 p0))
def F_X12_undo (t : Nat) (M : Mem) : Option (Int32 × Mem) :=
  if ((up M t 2 0) t 33) = 0 then
    some ((-1), (up M t 2 0))
  else
    (F_X12_unpack t (t + 17) 2400 (60 * ((up (up M t 2 0) t 33 (((up M t 2 0) t 33) - 1)) t 33)) (up (up M t 2 0) t 33 (((up M t 2 0) t 33) - 1))).bind fun q2 =>
    some ((q2 t 33), q2)
def F_X12_lots (t : Nat) (p0 : Int32) (M : Mem) : Option (Int32 × Mem) :=
  if (bi (F_X12_isIn p0.toInt64 1 40)) = 0 then
    some ((F_X12_fail t 1 (up M t 2 0)).1, (F_X12_fail t 1 (up M t 2 0)).2)
  else
    (F_X12_pack t (t + 23) 60 0 (up M t 2 0)).bind fun q2 =>
    (F_X12_goOn t p0 q2).bind fun q3 =>
    (F_X12_unpack t (t + 23) 60 0 q3).bind fun q4 =>
    some ((q4 t 39), q4)
def J_X12_sold_j22 (t : Nat) (M : Mem) : Option (Int32 × Mem) :=
  some ((F_X12_fail t 1 M).1, (F_X12_fail t 1 M).2)
def F_X12_sold (t : Nat) (p0 : Int32) (p1 : Int32) (p2 : Int32) (M : Mem) : Option (Int32 × Mem) :=
  if (bi (F_X12_isPerson t p0 (up M t 2 0))) = 0 then
    J_X12_sold_j22 t (up M t 2 0)
  else
    if p2 < 0 then
      J_X12_sold_j22 t (up M t 2 0)
    else
      if p2 ≤ 1 then
        if (bi (F_X12_isIn p1.toInt64 1 40)) = 0 then
          some ((F_X12_fail t 2 (up M t 2 0)).1, (F_X12_fail t 2 (up M t 2 0)).2)
        else
          (F_X12_pack t (t + 23) 60 0 (up M t 2 0)).bind fun q5 =>
          (F_X12_goOn t p1 q5).bind fun q6 =>
          (F_X12_unpack t (t + 23) 60 0 q6).bind fun q7 =>
          if p2 = 0 then
            (ald q7 (t + 21) 7 p0).bind fun v10 =>
            some (v10, q7)
          else
            (ald q7 (t + 22) 7 p0).bind fun v9 =>
            some (v9, q7)
      else
        J_X12_sold_j22 t (up M t 2 0)
def J_X12_then_j22 (t : Nat) (M : Mem) : Option (Int32 × Mem) :=
  some ((F_X12_fail t 1 M).1, (F_X12_fail t 1 M).2)
def J_X12_then_j79 (t : Nat) (y0 : Int32) (M : Mem) : Option (Int32 × Mem) :=
  (F_X12_unpack t (t + 23) 60 0 M).bind fun q9 =>
  some (y0, q9)
def F_X12_then (t : Nat) (p0 : Int32) (p1 : Int32) (p2 : Int32) (M : Mem) : Option (Int32 × Mem) :=
  if (bi (F_X12_isPerson t p0 (up M t 2 0))) = 0 then
    J_X12_then_j22 t (up M t 2 0)
  else
    if p2 < 0 then
      J_X12_then_j22 t (up M t 2 0)
    else
      if p2 ≤ 1 then
        if (bi (F_X12_isIn p1.toInt64 0 40)) = 0 then
          some ((F_X12_fail t 2 (up M t 2 0)).1, (F_X12_fail t 2 (up M t 2 0)).2)
        else
          (F_X12_pack t (t + 23) 60 0 (up M t 2 0)).bind fun q5 =>
          (F_X12_goOn t p1 q5).bind fun q6 =>
          if p2 = 0 then
            (ald q6 (t + 14) 7 p0).bind fun v10 =>
            J_X12_then_j79 t v10 q6
          else
            (ald q6 (t + 15) 7 p0).bind fun v8 =>
            J_X12_then_j79 t v8 q6
      else
        J_X12_then_j22 t (up M t 2 0)
def F_X12_dark (t : Nat) (p0 : Int32) (M : Mem) : Option (Int32 × Mem) :=
  if (bi (F_X12_isIn p0.toInt64 0 40)) = 0 then
    some ((F_X12_fail t 1 (up M t 2 0)).1, (F_X12_fail t 1 (up M t 2 0)).2)
  else
    (F_X12_pack t (t + 23) 60 0 (up M t 2 0)).bind fun q2 =>
    (F_X12_goOn t p0 q2).bind fun q3 =>
    (F_X12_unpack t (t + 23) 60 0 q3).bind fun q4 =>
    some ((q3 t 30), q4)
def J_X12_spends_j98 (t : Nat) (rec : Int32 → Int32 → Option (Int32)) (x1 : Int32) (x2 : Int32) (x4 : Int32) (x5 : Int32) (y0 : Int32) (y1 : Int32) (M : Mem) : Option (Int32) :=
  rec (y0 + y1) (x5 + 1)
def L_X12_spends_64 (t : Nat) (x1 : Int32) (x2 : Int32) (x4 : Int32) (M : Mem) : Nat → Int32 → Int32 → Option (Int32)
  | 0, _, _ => none
  | m9 + 1, x3, x5 =>
    if (M (t + 3) 3) ≤ x5 then
      some x3
    else
      (ald M (t + 21) 7 x5).bind fun v7 =>
      if v7 = x1 then
        (ald M (t + 22) 7 x5).bind fun v9 =>
        J_X12_spends_j98 t (L_X12_spends_64 t x1 x2 x4 M m9) x1 x2 x4 x5 x3 v9 M
      else
        J_X12_spends_j98 t (L_X12_spends_64 t x1 x2 x4 M m9) x1 x2 x4 x5 x3 0 M
def L_X12_spends_51 (t : Nat) (x1 : Int32) (x2 : Int32) : Nat → Int32 → Int32 → Mem → Option (Int32 × Mem)
  | 0, _, _, _ => none
  | m9 + 1, x3, x4, M =>
    if x2 ≤ x4 then
      some (x3, M)
    else
      (F_X12_aNight t M).bind fun q5 =>
      (L_X12_spends_64 t x1 x2 x4 q5 FU x3 0).bind fun s11 =>
      L_X12_spends_51 t x1 x2 m9 s11 (x4 + 1) q5
def F_X12_spends (t : Nat) (p0 : Int32) (p1 : Int32) (M : Mem) : Option (Int32 × Mem) :=
  if (bi (F_X12_isPerson t p0 (up M t 2 0))) = 0 then
    some ((F_X12_fail t 1 (up M t 2 0)).1, (F_X12_fail t 1 (up M t 2 0)).2)
  else
    if (bi (F_X12_isIn p1.toInt64 0 40)) = 0 then
      some ((F_X12_fail t 2 (up M t 2 0)).1, (F_X12_fail t 2 (up M t 2 0)).2)
    else
      (F_X12_pack t (t + 23) 60 0 (up M t 2 0)).bind fun q3 =>
      (L_X12_spends_51 t p0 p1 FU 0 0 q3).bind fun s13 =>
      (F_X12_unpack t (t + 23) 60 0 s13.2).bind fun q14 =>
      some (s13.1, q14)
def L_X12_firstOf_13 (t : Nat) (x1 : Int32) : Nat → Int32 → Int32 → Mem → Option (Int32 × Mem)
  | 0, _, _, _ => none
  | m9 + 1, x2, x3, M =>
    if 40 < x3 then
      some (x2, M)
    else
      if x2 = (-1) then
        (F_X12_aNight t M).bind fun q4 =>
        if (bi (F_X12_isOf (q4 t 39) x1)) = 0 then
          L_X12_firstOf_13 t x1 m9 x2 (x3 + 1) q4
        else
          L_X12_firstOf_13 t x1 m9 x3 (x3 + 1) q4
      else
        some (x2, M)
def J_X12_firstOf_j47 (t : Nat) (x2 : Int32) (M : Mem) : Option (Int32 × Mem) :=
  (F_X12_unpack t (t + 23) 60 0 M).bind fun q8 =>
  some (x2, q8)
def F_X12_firstOf (t : Nat) (p0 : Int32) (M : Mem) : Option (Int32 × Mem) :=
  (F_X12_pack t (t + 23) 60 0 M).bind fun q1 =>
  (L_X12_firstOf_13 t p0 FU (-1) 1 q1).bind fun s7 =>
  J_X12_firstOf_j47 t s7.1 s7.2
def F_X12_first (t : Nat) (p0 : Int32) (M : Mem) : Option (Int32 × Mem) :=
  if (bi (F_X12_isPerson t p0 (up M t 2 0))) = 0 then
    some ((F_X12_fail t 1 (up M t 2 0)).1, (F_X12_fail t 1 (up M t 2 0)).2)
  else
    (F_X12_firstOf t p0 (up M t 2 0)).bind fun q2 =>
    some (q2.1, q2.2)
def L_X12_secret_9 (t : Nat) : Nat → Int32 → Int32 → Mem → Option (Int32 × Mem)
  | 0, _, _, _ => none
  | m9 + 1, x1, x2, M =>
    if (M (t + 3) 3) ≤ x2 then
      some (x1, M)
    else
      (F_X12_firstOf t x2 M).bind fun q2 =>
      L_X12_secret_9 t m9 (x1 ||| (if q2.1 = (-1) then ((1 : Int32) <<< (x2 &&& 31)) else (0 : Int32))) (x2 + 1) q2.2
def F_X12_secret (t : Nat) (M : Mem) : Option (Int32 × Mem) :=
  (L_X12_secret_9 t FU 0 0 (up M t 2 0)).bind fun s6 =>
  some (s6.1, s6.2)
def L_X12_haunt_25 (t : Nat) (x1 : Int32) : Nat → Int32 → Mem → Option (Mem)
  | 0, _, _ => none
  | m9 + 1, x2, M =>
    if 8 ≤ x2 then
      some M
    else
      (ast M (t + 24) 8 x2 0).bind fun M3 =>
      L_X12_haunt_25 t x1 m9 (x2 + 1) M3
def L_X12_haunt_79 (t : Nat) (x1 : Int32) (x2 : Int32) (x3 : Int32) : Nat → Int32 → Mem → Option (Mem)
  | 0, _, _ => none
  | m9 + 1, x4, M =>
    if 6 ≤ x4 then
      some M
    else
      (ald M (t + 20) 7 x3).bind fun v11 =>
      if (bi (F_X12_isOf v11 x4)) = 0 then
        L_X12_haunt_79 t x1 x2 x3 m9 (x4 + 1) M
      else
        (F_X12_streetOf t x3 x4 M).bind fun q13 =>
        (ald M (t + 24) 8 q13).bind fun v14 =>
        (ast M (t + 24) 8 q13 (v14 + 1)).bind fun M15 =>
        L_X12_haunt_79 t x1 x2 x3 m9 (x4 + 1) M15
def L_X12_haunt_66 (t : Nat) (x1 : Int32) (x2 : Int32) : Nat → Int32 → Mem → Option (Mem)
  | 0, _, _ => none
  | m9 + 1, x3, M =>
    if (M (t + 3) 3) ≤ x3 then
      some M
    else
      (L_X12_haunt_79 t x1 x2 x3 FU 0 M).bind fun s17 =>
      L_X12_haunt_66 t x1 x2 m9 (x3 + 1) s17
def L_X12_haunt_55 (t : Nat) (x1 : Int32) : Nat → Int32 → Mem → Option (Mem)
  | 0, _, _ => none
  | m9 + 1, x2, M =>
    if x1 ≤ x2 then
      some M
    else
      (F_X12_tellLots t M).bind fun q8 =>
      (L_X12_haunt_66 t x1 x2 FU 0 q8).bind fun s19 =>
      (F_X12_aNight t s19).bind fun q20 =>
      L_X12_haunt_55 t x1 m9 (x2 + 1) q20
def L_X12_haunt_151 (t : Nat) (M : Mem) : Nat → Int32 → Int32 → Option (Int32)
  | 0, _, _ => none
  | m9 + 1, x2, x3 =>
    if (M (t + 3) 0) ≤ x3 then
      some x2
    else
      (ald M (t + 24) 8 x3).bind fun v25 =>
      if v25 ≤ 0 then
        L_X12_haunt_151 t M m9 x2 (x3 + 1)
      else
        if x2 = (-1) then
          L_X12_haunt_151 t M m9 x3 (x3 + 1)
        else
          (ald M (t + 24) 8 x3).bind fun v28 =>
          (ald M (t + 24) 8 x2).bind fun v29 =>
          if v28 ≤ v29 then
            L_X12_haunt_151 t M m9 x2 (x3 + 1)
          else
            L_X12_haunt_151 t M m9 x3 (x3 + 1)
def F_X12_haunt (t : Nat) (p0 : Int32) (M : Mem) : Option (Int32 × Mem) :=
  if (bi (F_X12_isIn p0.toInt64 1 40)) = 0 then
    some ((F_X12_fail t 1 (up M t 2 0)).1, (F_X12_fail t 1 (up M t 2 0)).2)
  else
    (L_X12_haunt_25 t p0 FU 0 (up M t 2 0)).bind fun s5 =>
    (F_X12_pack t (t + 23) 60 0 s5).bind fun q6 =>
    (L_X12_haunt_55 t p0 FU 0 q6).bind fun s22 =>
    (F_X12_unpack t (t + 23) 60 0 s22).bind fun q23 =>
    (L_X12_haunt_151 t q23 FU (-1) 0).bind fun s32 =>
    some (s32, q23)
def J_X12_watch_j45 (t : Nat) (M : Mem) : Option (Int32 × Mem) :=
  some ((F_X12_fail t 1 M).1, (F_X12_fail t 1 M).2)
def F_X12_watch (t : Nat) (p0 : Int32) (p1 : Int32) (M : Mem) : Option (Int32 × Mem) :=
  if (bi (F_X12_isIn p0.toInt64 1 40)) = 0 then
    J_X12_watch_j45 t (up M t 2 0)
  else
    if (bi (F_X12_isIn p1.toInt64 0 5)) = 0 then
      J_X12_watch_j45 t (up M t 2 0)
    else
      (F_X12_watchAt t ((((up M t 2 0) t 29) + p0) - 1) p1 (up M t 2 0)).bind fun q3 =>
      some (q3, (up M t 2 0))
def L_X12_lantern_23 (t : Nat) (x1 : Int32) (M : Mem) : Nat → Int32 → Int32 → Option (Int32)
  | 0, _, _ => none
  | m9 + 1, x2, x3 =>
    if 6 ≤ x3 then
      some x2
    else
      (F_X12_watchAt t (M t 29) x3 M).bind fun q3 =>
      L_X12_lantern_23 t x1 M m9 (x2 ||| (if q3 = x1 then ((1 : Int32) <<< (x3 &&& 31)) else (0 : Int32))) (x3 + 1)
def F_X12_lantern (t : Nat) (p0 : Int32) (M : Mem) : Option (Int32 × Mem) :=
  if (bi (F_X12_isStreet t p0 (up M t 2 0))) = 0 then
    some ((F_X12_fail t 1 (up M t 2 0)).1, (F_X12_fail t 1 (up M t 2 0)).2)
  else
    (L_X12_lantern_23 t p0 (up M t 2 0) FU 0 0).bind fun s7 =>
    some (s7, (up M t 2 0))
def J_X12_stepped_j33 (t : Nat) (rec : Int32 → Int32 → Option (Int32)) (x1 : Int32) (x3 : Int32) (y0 : Int32) (y1 : Int32) (M : Mem) : Option (Int32) :=
  rec (y0 ||| y1) (x3 + 1)
def L_X12_stepped_4 (t : Nat) (x1 : Int32) (M : Mem) : Nat → Int32 → Int32 → Option (Int32)
  | 0, _, _ => none
  | m9 + 1, x2, x3 =>
    if (M (t + 3) 0) ≤ x3 then
      some x2
    else
      if (bi (F_X12_isOf x1 x3)) = 0 then
        J_X12_stepped_j33 t (L_X12_stepped_4 t x1 M m9) x1 x3 x2 0 M
      else
        (ald M (t + 4) 16 x3).bind fun v3 =>
        J_X12_stepped_j33 t (L_X12_stepped_4 t x1 M m9) x1 x3 x2 v3 M
def F_X12_stepped (t : Nat) (p0 : Int32) (M : Mem) : Option (Int32) :=
  (L_X12_stepped_4 t p0 M FU p0 0).bind fun s5 =>
  some s5
def J_X12_way_j21 (t : Nat) (M : Mem) : Option (Int32 × Mem) :=
  some ((F_X12_fail t 1 M).1, (F_X12_fail t 1 M).2)
def L_X12_way_34 (t : Nat) (x2 : Int32) (M : Mem) : Nat → Int32 → Int32 → Option (Sum (Int32 × Mem) (Unit))
  | 0, _, _ => none
  | m9 + 1, x3, x4 =>
    if 8 ≤ x4 then
      some (Sum.inr ())
    else
      if (bi (F_X12_isOf x3 x2)) = 0 then
        (F_X12_stepped t x3 M).bind fun q5 =>
        L_X12_way_34 t x2 M m9 q5 (x4 + 1)
      else
        some (Sum.inl (x4, M))
def F_X12_way (t : Nat) (p0 : Int32) (p1 : Int32) (M : Mem) : Option (Int32 × Mem) :=
  if (bi (F_X12_isStreet t p0 (up M t 2 0))) = 0 then
    J_X12_way_j21 t (up M t 2 0)
  else
    if (bi (F_X12_isStreet t p1 (up M t 2 0))) = 0 then
      J_X12_way_j21 t (up M t 2 0)
    else
      (L_X12_way_34 t p1 (up M t 2 0) FU ((1 : Int32) <<< (p0 &&& 31)) 0).bind fun q6 => Sum.elim (fun v => some v) (fun s7 =>
      some ((-1), (up M t 2 0))) q6
def J_X12_sneak_j21 (t : Nat) (M : Mem) : Option (Int32 × Mem) :=
  some ((F_X12_fail t 1 M).1, (F_X12_fail t 1 M).2)
def L_X12_sneak_34 (t : Nat) (x2 : Int32) (M : Mem) : Nat → Int32 → Int32 → Option (Sum (Int32 × Mem) (Unit))
  | 0, _, _ => none
  | m9 + 1, x3, x4 =>
    if 6 ≤ x4 then
      some (Sum.inr ())
    else
      (F_X12_watchAt t (M t 29) x4 M).bind fun q4 =>
      if (bi (F_X12_isOf (x3 &&& (((1 : Int32) <<< (q4 &&& 31)) ^^^ (-1))) x2)) = 0 then
        (F_X12_stepped t (x3 &&& (((1 : Int32) <<< (q4 &&& 31)) ^^^ (-1))) M).bind fun q6 =>
        L_X12_sneak_34 t x2 M m9 q6 (x4 + 1)
      else
        some (Sum.inl (x4, M))
def F_X12_sneak (t : Nat) (p0 : Int32) (p1 : Int32) (M : Mem) : Option (Int32 × Mem) :=
  if (bi (F_X12_isStreet t p0 (up M t 2 0))) = 0 then
    J_X12_sneak_j21 t (up M t 2 0)
  else
    if (bi (F_X12_isStreet t p1 (up M t 2 0))) = 0 then
      J_X12_sneak_j21 t (up M t 2 0)
    else
      (L_X12_sneak_34 t p1 (up M t 2 0) FU ((1 : Int32) <<< (p0 &&& 31)) 0).bind fun q7 => Sum.elim (fun v => some v) (fun s8 =>
      some ((-1), (up M t 2 0))) q7
def J_X12_lit_j42 (t : Nat) (rec : Int32 → Int32 → Option (Int32)) (x1 : Int32) (x2 : Int32) (x4 : Int32) (y0 : Int32) (y1 : Int32) (M : Mem) : Option (Int32) :=
  rec (y0 ||| y1) (x4 + 1)
def L_X12_lit_5 (t : Nat) (x1 : Int32) (x2 : Int32) (M : Mem) : Nat → Int32 → Int32 → Option (Int32)
  | 0, _, _ => none
  | m9 + 1, x3, x4 =>
    if 6 ≤ x4 then
      some x3
    else
      (ald M (t + 8) 14 x1).bind fun v2 =>
      (irm x4 v2).bind fun v3 =>
      if v3 = x2 then
        (F_X12_watchAt t (M t 29) x4 M).bind fun q5 =>
        J_X12_lit_j42 t (L_X12_lit_5 t x1 x2 M m9) x1 x2 x4 x3 ((1 : Int32) <<< (q5 &&& 31)) M
      else
        J_X12_lit_j42 t (L_X12_lit_5 t x1 x2 M m9) x1 x2 x4 x3 0 M
def F_X12_lit (t : Nat) (p0 : Int32) (p1 : Int32) (M : Mem) : Option (Int32) :=
  (L_X12_lit_5 t p0 p1 M FU 0 0).bind fun s7 =>
  some s7
def L_X12_safe_23 (t : Nat) (x1 : Int32) (M : Mem) : Nat → Int32 → Int32 → Option (Int32)
  | 0, _, _ => none
  | m9 + 1, x2, x3 =>
    (ald M (t + 8) 14 x1).bind fun v2 =>
    if v2 ≤ x3 then
      some x2
    else
      (F_X12_lit t x1 x3 M).bind fun q4 =>
      (ald M (t + 16) 42 ((6 * x1) + x3)).bind fun v5 =>
      L_X12_safe_23 t x1 M m9 (x2 ||| (if (bi (F_X12_isOf q4 v5)) = 0 then ((1 : Int32) <<< (x3 &&& 31)) else (0 : Int32))) (x3 + 1)
def F_X12_safe (t : Nat) (p0 : Int32) (M : Mem) : Option (Int32 × Mem) :=
  if (bi (F_X12_isPerson t p0 (up M t 2 0))) = 0 then
    some ((F_X12_fail t 1 (up M t 2 0)).1, (F_X12_fail t 1 (up M t 2 0)).2)
  else
    (L_X12_safe_23 t p0 (up M t 2 0) FU 0 0).bind fun s9 =>
    some (s9, (up M t 2 0))
def L_X12_toHide_23 (t : Nat) (x1 : Int32) (M : Mem) : Nat → Int32 → Int32 → Option (Sum (Int32 × Mem) (Int32))
  | 0, _, _ => none
  | m9 + 1, x2, x3 =>
    (ald M (t + 8) 14 x1).bind fun v2 =>
    if v2 ≤ x3 then
      some (Sum.inr x2)
    else
      (F_X12_lit t x1 x3 M).bind fun q4 =>
      (F_X12_bitsOf q4 M).bind fun q5 =>
      if q5 = (M (t + 3) 0) then
        some (Sum.inl ((-1), M))
      else
        (ald M (t + 16) 42 ((6 * x1) + x3)).bind fun v7 =>
        L_X12_toHide_23 t x1 M m9 (x2 + (if (bi (F_X12_isOf q4 v7)) = 0 then (0 : Int32) else (1 : Int32))) (x3 + 1)
def F_X12_toHide (t : Nat) (p0 : Int32) (M : Mem) : Option (Int32 × Mem) :=
  if (bi (F_X12_isPerson t p0 (up M t 2 0))) = 0 then
    some ((F_X12_fail t 1 (up M t 2 0)).1, (F_X12_fail t 1 (up M t 2 0)).2)
  else
    (L_X12_toHide_23 t p0 (up M t 2 0) FU 0 0).bind fun q10 => Sum.elim (fun v => some v) (fun s11 =>
    some (s11, (up M t 2 0))) q10
def J_X12_meet_j21 (t : Nat) (M : Mem) : Option (Int32 × Mem) :=
  some ((F_X12_fail t 1 M).1, (F_X12_fail t 1 M).2)
def L_X12_meet_32 (t : Nat) (x1 : Int32) (x2 : Int32) (M : Mem) : Nat → Int32 → Int32 → Option (Int32)
  | 0, _, _ => none
  | m9 + 1, x3, x4 =>
    if 6 ≤ x4 then
      some x3
    else
      (F_X12_streetOf t x1 x4 M).bind fun q4 =>
      (F_X12_streetOf t x2 x4 M).bind fun q5 =>
      L_X12_meet_32 t x1 x2 M m9 (x3 ||| (if q4 = q5 then ((1 : Int32) <<< (x4 &&& 31)) else (0 : Int32))) (x4 + 1)
def F_X12_meet (t : Nat) (p0 : Int32) (p1 : Int32) (M : Mem) : Option (Int32 × Mem) :=
  if (bi (F_X12_isPerson t p0 (up M t 2 0))) = 0 then
    J_X12_meet_j21 t (up M t 2 0)
  else
    if (bi (F_X12_isPerson t p1 (up M t 2 0))) = 0 then
      J_X12_meet_j21 t (up M t 2 0)
    else
      (L_X12_meet_32 t p0 p1 (up M t 2 0) FU 0 0).bind fun s9 =>
      some (s9, (up M t 2 0))
def J_X12_toWin_j21 (t : Nat) (M : Mem) : Option (Int32 × Mem) :=
  some ((F_X12_fail t 1 M).1, (F_X12_fail t 1 M).2)
def J_X12_toWin_j90 (t : Nat) (rec : Int32 → Int32 → Mem → Option (Int32 × Mem)) (x1 : Int32) (x2 : Int32) (x3 : Int32) (x4 : Int32) (M : Mem) : Option (Int32 × Mem) :=
  (F_X12_unpack t (t + 23) 60 0 M).bind fun q12 =>
  rec x3 (x4 + 1) q12
def L_X12_toWin_41 (t : Nat) (x1 : Int32) (x2 : Int32) : Nat → Int32 → Int32 → Mem → Option (Int32 × Mem)
  | 0, _, _, _ => none
  | m9 + 1, x3, x4, M =>
    if 999 < x4 then
      some (x3, M)
    else
      if x3 = (-1) then
        (F_X12_lotsNow t M).bind fun q6 =>
        if (bi (F_X12_isOf q6 x2)) = 0 then
          some (x3, M)
        else
          (ast M (t + 14) 7 x1 x4).bind fun M8 =>
          (F_X12_aNight t M8).bind fun q9 =>
          (ald q9 (t + 21) 7 x2).bind fun v10 =>
          if v10 = x1 then
            J_X12_toWin_j90 t (L_X12_toWin_41 t x1 x2 m9) x1 x2 x4 x4 q9
          else
            J_X12_toWin_j90 t (L_X12_toWin_41 t x1 x2 m9) x1 x2 x3 x4 q9
      else
        some (x3, M)
def F_X12_toWin (t : Nat) (p0 : Int32) (p1 : Int32) (M : Mem) : Option (Int32 × Mem) :=
  if (bi (F_X12_isPerson t p0 (up M t 2 0))) = 0 then
    J_X12_toWin_j21 t (up M t 2 0)
  else
    if (bi (F_X12_isPerson t p1 (up M t 2 0))) = 0 then
      J_X12_toWin_j21 t (up M t 2 0)
    else
      (F_X12_pack t (t + 23) 60 0 (up M t 2 0)).bind fun q3 =>
      (L_X12_toWin_41 t p0 p1 FU (-1) 0 q3).bind fun s14 =>
      some (s14.1, s14.2)
def F_X12_with (t : Nat) (p0 : Int32) (p1 : Int32) (p2 : Int32) (M : Mem) : Option (Int32 × Mem) :=
  if p2 = (-1) then
    (ald M (t + 25) 1024 (((p0 + 1) <<< (7 &&& 31)) + p1)).bind fun v4 =>
    some (v4, M)
  else
    (F_X12_bidOf t p2 p0 M).bind fun q2 =>
    (ald q2.2 (t + 25) 1024 (((p0 + 1) <<< (7 &&& 31)) + (p1 ||| ((1 : Int32) <<< (p2 &&& 31))))).bind fun v3 =>
    some ((q2.1 + v3), q2.2)
def F_X12_mayHave (t : Nat) (p0 : Int32) (p1 : Int32) (p2 : Int32) (M : Mem) : Option (Bool × Mem) :=
  if (bi (F_X12_isOf (M t 39) p1)) = 0 then
    some (false, M)
  else
    if (bi (F_X12_isOf p2 p0)) = 0 then
      (F_X12_bidOf t p0 p1 M).bind fun q3 =>
      if q3.1 ≤ 0 then
        some (false, q3.2)
      else
        some (true, q3.2)
    else
      some (false, M)
def L_X12_tellMost_11 (t : Nat) (x1 : Int32) : Nat → Int32 → Mem → Option (Mem)
  | 0, _, _ => none
  | m9 + 1, x2, M =>
    if x1 ≤ x2 then
      some M
    else
      (ast M (t + 25) 1024 (((M (t + 3) 3) <<< (7 &&& 31)) + x2) 0).bind fun M2 =>
      L_X12_tellMost_11 t x1 m9 (x2 + 1) M2
def L_X12_tellMost_71 (t : Nat) (x1 : Int32) (x2 : Int32) (x3 : Int32) : Nat → Int32 → Int32 → Mem → Option (Int32 × Mem)
  | 0, _, _, _ => none
  | m9 + 1, x4, x5, M =>
    if (M (t + 3) 3) ≤ x5 then
      some (x4, M)
    else
      (F_X12_mayHave t x5 x2 x3 M).bind fun q9 =>
      if (bi q9.1) = 0 then
        L_X12_tellMost_71 t x1 x2 x3 m9 x4 (x5 + 1) q9.2
      else
        (F_X12_with t x2 x3 x5 q9.2).bind fun q11 =>
        L_X12_tellMost_71 t x1 x2 x3 m9 (imax x4 q11.1) (x5 + 1) q11.2
def L_X12_tellMost_54 (t : Nat) (x1 : Int32) (x2 : Int32) : Nat → Int32 → Mem → Option (Mem)
  | 0, _, _ => none
  | m9 + 1, x3, M =>
    if x1 ≤ x3 then
      some M
    else
      (F_X12_with t x2 x3 (-1) M).bind fun q7 =>
      (L_X12_tellMost_71 t x1 x2 x3 FU q7.1 0 q7.2).bind fun s13 =>
      (ast s13.2 (t + 25) 1024 ((x2 <<< (7 &&& 31)) + x3) s13.1).bind fun M14 =>
      L_X12_tellMost_54 t x1 x2 m9 (x3 + 1) M14
def L_X12_tellMost_48 (t : Nat) (x1 : Int32) : Nat → Int32 → Mem → Option (Mem)
  | 0, _, _ => none
  | m9 + 1, x2, M =>
    if x2 < 0 then
      some M
    else
      (L_X12_tellMost_54 t x1 x2 FU 0 M).bind fun s16 =>
      L_X12_tellMost_48 t x1 m9 (x2 + (-1)) s16
def F_X12_tellMost (t : Nat) (M : Mem) : Option (Mem) :=
  (L_X12_tellMost_11 t ((1 : Int32) <<< ((M (t + 3) 3) &&& 31)) FU 0 M).bind fun s4 =>
  (L_X12_tellMost_48 t ((1 : Int32) <<< ((M (t + 3) 3) &&& 31)) FU ((s4 (t + 3) 3) - 1) s4).bind fun s18 =>
  some s18
def L_X12_given_76 (t : Nat) (x1 : Int32) (x2 : Int32) (x4 : Int32) : Nat → Int32 → Int32 → Mem → Option (Int32 × Mem)
  | 0, _, _, _ => none
  | m9 + 1, x3, x5, M =>
    if x5 < 0 then
      some (x3, M)
    else
      (F_X12_mayHave t x5 x4 x2 M).bind fun q7 =>
      if (bi q7.1) = 0 then
        L_X12_given_76 t x1 x2 x4 m9 x3 (x5 + (-1)) q7.2
      else
        (F_X12_with t x4 x2 x5 q7.2).bind fun q9 =>
        (ald q9.2 (t + 25) 1024 ((x4 <<< (7 &&& 31)) + x2)).bind fun v10 =>
        if q9.1 = v10 then
          L_X12_given_76 t x1 x2 x4 m9 x5 (x5 + (-1)) q9.2
        else
          L_X12_given_76 t x1 x2 x4 m9 x3 (x5 + (-1)) q9.2
def L_X12_given_58 (t : Nat) (x1 : Int32) : Nat → Int32 → Int32 → Int32 → Mem → Option (Int32 × Mem)
  | 0, _, _, _, _ => none
  | m9 + 1, x2, x3, x4, M =>
    if x1 < x4 then
      some (x3, M)
    else
      (L_X12_given_76 t x1 x2 x4 FU (-1) ((M (t + 3) 3) - 1) M).bind fun s13 =>
      L_X12_given_58 t x1 m9 (x2 ||| (if s13.1 = (-1) then (0 : Int32) else ((1 : Int32) <<< (s13.1 &&& 31)))) s13.1 (x4 + 1) s13.2
def F_X12_given (t : Nat) (p0 : Int32) (M : Mem) : Option (Int32 × Mem) :=
  if (bi (F_X12_isIn p0.toInt64 (-1) ((((up M t 2 0) (t + 3) 3) - 1).toInt64))) = 0 then
    some ((F_X12_fail t 1 (up M t 2 0)).1, (F_X12_fail t 1 (up M t 2 0)).2)
  else
    (F_X12_tellLots t (up M t 2 0)).bind fun q2 =>
    (F_X12_tellMost t q2).bind fun q3 =>
    if p0 = (-1) then
      some ((q3 (t + 25) 0), q3)
    else
      (L_X12_given_58 t p0 FU 0 (-1) 0 q3).bind fun s17 =>
      some (s17.1, s17.2)
def J_X12_gossip_j69 (t : Nat) (rec : Int32 → Int32 → Option (Int32)) (x1 : Int32) (x3 : Int32) (x4 : Int32) (y0 : Int32) (y1 : Int32) (M : Mem) : Option (Int32) :=
  rec (y0 ||| y1) (x4 + 1)
def L_X12_gossip_37 (t : Nat) (x1 : Int32) (x3 : Int32) (M : Mem) : Nat → Int32 → Int32 → Option (Int32)
  | 0, _, _ => none
  | m9 + 1, x2, x4 =>
    if (M (t + 3) 3) ≤ x4 then
      some x2
    else
      if (bi (F_X12_isOf x2 x4)) = 0 then
        J_X12_gossip_j69 t (L_X12_gossip_37 t x1 x3 M m9) x1 x3 x4 x2 0 M
      else
        (ald M (t + 15) 7 x4).bind fun v6 =>
        J_X12_gossip_j69 t (L_X12_gossip_37 t x1 x3 M m9) x1 x3 x4 x2 v6 M
def L_X12_gossip_28 (t : Nat) (x1 : Int32) (M : Mem) : Nat → Int32 → Int32 → Option (Int32)
  | 0, _, _ => none
  | m9 + 1, x2, x3 =>
    if 7 ≤ x3 then
      some x2
    else
      (L_X12_gossip_37 t x1 x3 M FU x2 0).bind fun s8 =>
      L_X12_gossip_28 t x1 M m9 s8 (x3 + 1)
def F_X12_gossip (t : Nat) (p0 : Int32) (M : Mem) : Option (Int32 × Mem) :=
  if (bi (F_X12_isPerson t p0 (up M t 2 0))) = 0 then
    some ((F_X12_fail t 1 (up M t 2 0)).1, (F_X12_fail t 1 (up M t 2 0)).2)
  else
    (ald (up M t 2 0) (t + 15) 7 p0).bind fun v2 =>
    (L_X12_gossip_28 t p0 (up M t 2 0) FU v2 0).bind fun s10 =>
    some ((s10 &&& (((1 : Int32) <<< (p0 &&& 31)) ^^^ (-1))), (up M t 2 0))
def L_X12_knowers_4 (t : Nat) (x1 : Int32) (M : Mem) : Nat → Int32 → Int32 → Option (Int32)
  | 0, _, _ => none
  | m9 + 1, x2, x3 =>
    if (M (t + 3) 3) ≤ x3 then
      some x2
    else
      (ald M (t + 15) 7 x3).bind fun v2 =>
      L_X12_knowers_4 t x1 M m9 (x2 ||| (if (bi (F_X12_isOf v2 x1)) = 0 then (0 : Int32) else ((1 : Int32) <<< (x3 &&& 31)))) (x3 + 1)
def F_X12_knowers (t : Nat) (p0 : Int32) (M : Mem) : Option (Int32) :=
  (L_X12_knowers_4 t p0 M FU 0 0).bind fun s6 =>
  some s6
def J_X12_most_j14 (t : Nat) (M : Mem) : Option (Int32 × Mem) :=
  some ((F_X12_fail t 1 M).1, (F_X12_fail t 1 M).2)
def J_X12_most_j61 (t : Nat) (rec : Int32 → Int32 → Int32 → Option (Int32)) (x1 : Int32) (x2 : Int32) (x3 : Int32) (x4 : Int32) (y0 : Int32) (M : Mem) : Option (Int32) :=
  if x3 < y0 then
    rec x4 y0 (x4 + 1)
  else
    rec x2 x3 (x4 + 1)
def L_X12_most_27 (t : Nat) (x1 : Int32) (M : Mem) : Nat → Int32 → Int32 → Int32 → Option (Int32)
  | 0, _, _, _ => none
  | m9 + 1, x2, x3, x4 =>
    if (M (t + 3) 3) ≤ x4 then
      some x2
    else
      if x1 = 0 then
        (F_X12_knowers t x4 M).bind fun q7 =>
        (F_X12_bitsOf q7 M).bind fun q8 =>
        J_X12_most_j61 t (L_X12_most_27 t x1 M m9) x1 x2 x3 x4 q8 M
      else
        (ald M (t + 14) 7 x4).bind fun v5 =>
        J_X12_most_j61 t (L_X12_most_27 t x1 M m9) x1 x2 x3 x4 v5 M
def F_X12_most (t : Nat) (p0 : Int32) (M : Mem) : Option (Int32 × Mem) :=
  if p0 < 0 then
    J_X12_most_j14 t (up M t 2 0)
  else
    if p0 ≤ 1 then
      (L_X12_most_27 t p0 (up M t 2 0) FU (-1) (-1) 0).bind fun s10 =>
      some (s10, (up M t 2 0))
    else
      J_X12_most_j14 t (up M t 2 0)
def F_X12_unknown (t : Nat) (p0 : Int32) (M : Mem) : Option (Int32 × Mem) :=
  if (bi (F_X12_isPerson t p0 (up M t 2 0))) = 0 then
    some ((F_X12_fail t 1 (up M t 2 0)).1, (F_X12_fail t 1 (up M t 2 0)).2)
  else
    (F_X12_knowers t p0 (up M t 2 0)).bind fun q2 =>
    some ((((((1 : Int32) <<< (((up M t 2 0) (t + 3) 3) &&& 31)) - 1) &&& (q2 ^^^ (-1))) &&& (((1 : Int32) <<< (p0 &&& 31)) ^^^ (-1))), (up M t 2 0))
def J_X12_tell_j40 (t : Nat) (M : Mem) : Option (Int32 × Mem) :=
  (F_X12_refuse t 2 M).bind fun q3 =>
  some (q3.1, q3.2)
def F_X12_tell (t : Nat) (p0 : Int32) (p1 : Int32) (p2 : Int32) (M : Mem) : Option (Int32 × Mem) :=
  if (bi (F_X12_isPerson t p0 (up M t 2 0))) = 0 then
    some ((F_X12_fail t 1 (up M t 2 0)).1, (F_X12_fail t 1 (up M t 2 0)).2)
  else
    if ((up M t 2 0) t 34) = 8 then
      J_X12_tell_j40 t (up M t 2 0)
    else
      if (bi (F_X12_isIn p1.toInt64 1 12)) = 0 then
        J_X12_tell_j40 t (up M t 2 0)
      else
        (ast (up M t 2 0) (t + 26) 8 ((up M t 2 0) t 34) p0).bind fun M5 =>
        (ast M5 (t + 27) 8 (M5 t 34) p1).bind fun M6 =>
        (zst M6 (t + 29) 8 (M6 t 34) p2).bind fun M7 =>
        some (((up M7 t 34 ((M7 t 34) + 1)) t 34), (up M7 t 34 ((M7 t 34) + 1)))
def L_X12_isAsTold_29 (t : Nat) (x2 : Int32) (M : Mem) : Nat → Int32 → Int32 → Option (Int32)
  | 0, _, _ => none
  | m9 + 1, x1, x3 =>
    if (M t 34) ≤ x3 then
      some x1
    else
      if x1 = 0 then
        L_X12_isAsTold_29 t x2 M m9 0 (x3 + 1)
      else
        (ald M (t + 27) 8 x3).bind fun v7 =>
        if v7 = x2 then
          (ald M (t + 26) 8 x3).bind fun v9 =>
          (ald M (t + 29) 8 x3).bind fun v10 =>
          if (bi (F_X12_isOf (M t 39) v9)) = v10 then
            L_X12_isAsTold_29 t x2 M m9 1 (x3 + 1)
          else
            L_X12_isAsTold_29 t x2 M m9 0 (x3 + 1)
        else
          L_X12_isAsTold_29 t x2 M m9 1 (x3 + 1)
def L_X12_isAsTold_13 (t : Nat) : Nat → Int32 → Int32 → Mem → Option (Int32 × Mem)
  | 0, _, _, _ => none
  | m9 + 1, x1, x2, M =>
    if 12 < x2 then
      some (x1, M)
    else
      if x1 = 0 then
        some (x1, M)
      else
        (F_X12_aNight t M).bind fun q4 =>
        (L_X12_isAsTold_29 t x2 q4 FU x1 0).bind fun s13 =>
        L_X12_isAsTold_13 t m9 s13 (x2 + 1) q4
def J_X12_isAsTold_j91 (t : Nat) (x1 : Int32) (M : Mem) : Option (Bool × Mem) :=
  (F_X12_unpack t (t + 28) 60 0 M).bind fun q16 =>
  (bgd x1).bind fun b17 => some (b17, q16)
def F_X12_isAsTold (t : Nat) (M : Mem) : Option (Bool × Mem) :=
  (F_X12_pack t (t + 28) 60 0 M).bind fun q1 =>
  (L_X12_isAsTold_13 t FU 1 1 q1).bind fun s15 =>
  J_X12_isAsTold_j91 t s15.1 s15.2
def L_X12_tellFits_44 (t : Nat) (x1 : Int32) (x2 : Int32) (x3 : Int32) : Nat → Int32 → Mem → Option (Mem)
  | 0, _, _ => none
  | m9 + 1, x4, M =>
    if (M (t + 3) 0) ≤ x4 then
      some M
    else
      (ast M (t + 16) 42 ((6 * x1) + x2) x4).bind fun M6 =>
      if x4 = x3 then
        L_X12_tellFits_44 t x1 x2 x3 m9 (x4 + 1) M6
      else
        (F_X12_isAsTold t M6).bind fun q8 =>
        if (bi q8.1) = 0 then
          L_X12_tellFits_44 t x1 x2 x3 m9 (x4 + 1) q8.2
        else
          (ast q8.2 (t + 30) 336 (q8.2 t 52) (((100 * x1) + (10 * x2)) + x4)).bind fun M10 =>
          L_X12_tellFits_44 t x1 x2 x3 m9 (x4 + 1) (up M10 t 52 ((M10 t 52) + 1))
def L_X12_tellFits_19 (t : Nat) (x1 : Int32) : Nat → Int32 → Mem → Option (Mem)
  | 0, _, _ => none
  | m9 + 1, x2, M =>
    (ald M (t + 8) 14 x1).bind fun v2 =>
    if v2 ≤ x2 then
      some M
    else
      (ald M (t + 16) 42 ((6 * x1) + x2)).bind fun v4 =>
      (L_X12_tellFits_44 t x1 x2 v4 FU 0 M).bind fun s12 =>
      (ast s12 (t + 16) 42 ((6 * x1) + x2) v4).bind fun M13 =>
      L_X12_tellFits_19 t x1 m9 (x2 + 1) M13
def L_X12_tellFits_7 (t : Nat) : Nat → Int32 → Mem → Option (Mem)
  | 0, _, _ => none
  | m9 + 1, x1, M =>
    if (M (t + 3) 3) ≤ x1 then
      some M
    else
      (L_X12_tellFits_19 t x1 FU 0 M).bind fun s15 =>
      L_X12_tellFits_7 t m9 (x1 + 1) s15
def F_X12_tellFits (t : Nat) (M : Mem) : Option (Mem) :=
  (L_X12_tellFits_7 t FU 0 (up M t 52 0)).bind fun s17 =>
  some s17
def F_X12_otherwise (t : Nat) (p0 : Int32) (M : Mem) : Option (Int32 × Mem) :=
  if (bi (F_X12_isIn p0.toInt64 0 2)) = 0 then
    some ((F_X12_fail t 1 (up M t 2 0)).1, (F_X12_fail t 1 (up M t 2 0)).2)
  else
    if p0 = 2 then
      (F_X12_isAsTold t (up M t 2 0)).bind fun q6 =>
      some ((if (bi q6.1) = 0 then (0 : Int32) else (1 : Int32)), q6.2)
    else
      (F_X12_tellFits t (up M t 2 0)).bind fun q3 =>
      if p0 = 0 then
        some ((q3 t 52), q3)
      else
        if (q3 t 52) = 0 then
          some ((-1), q3)
        else
          some ((q3 (t + 30) 0), q3)
def L_X12_unlike_18 (t : Nat) (x1 : Int32) (x2 : Int32) (x3 : Int32) (M : Mem) : Nat → Int32 → Int32 → Option (Int32)
  | 0, _, _ => none
  | m9 + 1, x4, x5 =>
    if x3 ≤ x5 then
      some x4
    else
      if x4 = 0 then
        some x4
      else
        (ald M (t + 31) 4032 ((12 * x5) + x1)).bind fun v4 =>
        (ald M (t + 31) 4032 ((12 * x3) + x1)).bind fun v5 =>
        L_X12_unlike_18 t x1 x2 x3 M m9 (if v4 = v5 then (0 : Int32) else (1 : Int32)) (x5 + 1)
def J_X12_unlike_j68 (t : Nat) (rec : Int32 → Int32 → Option (Int32)) (x1 : Int32) (x2 : Int32) (x3 : Int32) (x4 : Int32) (M : Mem) : Option (Int32) :=
  rec (x2 + (if x4 = 0 then (0 : Int32) else (1 : Int32))) (x3 + 1)
def L_X12_unlike_4 (t : Nat) (x1 : Int32) (M : Mem) : Nat → Int32 → Int32 → Option (Int32)
  | 0, _, _ => none
  | m9 + 1, x2, x3 =>
    if (M t 52) ≤ x3 then
      some x2
    else
      (L_X12_unlike_18 t x1 x2 x3 M FU 1 0).bind fun s9 =>
      J_X12_unlike_j68 t (L_X12_unlike_4 t x1 M m9) x1 x2 x3 s9 M
def F_X12_unlike (t : Nat) (p0 : Int32) (M : Mem) : Option (Int32) :=
  (L_X12_unlike_4 t p0 M FU 0 0).bind fun s13 =>
  some s13
def J_X12_look_j14 (t : Nat) (M : Mem) : Option (Int32 × Mem) :=
  some ((F_X12_fail t 1 M).1, (F_X12_fail t 1 M).2)
def L_X12_look_84 (t : Nat) (x1 : Int32) (x2 : Int32) : Nat → Int32 → Mem → Option (Mem)
  | 0, _, _ => none
  | m9 + 1, x3, M =>
    if 12 ≤ x3 then
      some M
    else
      (F_X12_aNight t M).bind fun q11 =>
      (ast q11 (t + 31) 4032 ((12 * x2) + x3) (q11 t 39)).bind fun M12 =>
      L_X12_look_84 t x1 x2 m9 (x3 + 1) M12
def L_X12_look_35 (t : Nat) (x1 : Int32) : Nat → Int32 → Mem → Option (Mem)
  | 0, _, _ => none
  | m9 + 1, x2, M =>
    if (M t 52) ≤ x2 then
      some M
    else
      (ald M (t + 30) 336 x2).bind fun v6 =>
      (ald M (t + 30) 336 x2).bind fun v7 =>
      (ald M (t + 30) 336 x2).bind fun v8 =>
      (ast M (t + 16) 42 ((6 * (v6 / 100)) + (irem (v7 / 10) 10)) (irem v8 10)).bind fun M9 =>
      (L_X12_look_84 t x1 x2 FU 0 M9).bind fun s14 =>
      (F_X12_unpack t (t + 23) 60 0 s14).bind fun q15 =>
      L_X12_look_35 t x1 m9 (x2 + 1) q15
def L_X12_look_137 (t : Nat) (x1 : Int32) (M : Mem) : Nat → Int32 → Int32 → Int32 → Option (Int32 × Int32)
  | 0, _, _, _ => none
  | m9 + 1, x2, x3, x4 =>
    if 12 ≤ x4 then
      some (x2, x3)
    else
      (F_X12_unlike t x4 M).bind fun q19 =>
      if x3 < q19 then
        L_X12_look_137 t x1 M m9 (x4 + 1) q19 (x4 + 1)
      else
        L_X12_look_137 t x1 M m9 x2 x3 (x4 + 1)
def F_X12_look (t : Nat) (p0 : Int32) (M : Mem) : Option (Int32 × Mem) :=
  if p0 < 0 then
    J_X12_look_j14 t (up M t 2 0)
  else
    if p0 ≤ 1 then
      (F_X12_tellFits t (up M t 2 0)).bind fun q3 =>
      (F_X12_pack t (t + 23) 60 0 q3).bind fun q4 =>
      (L_X12_look_35 t p0 FU 0 q4).bind fun s17 =>
      (L_X12_look_137 t p0 s17 FU (-1) 0 0).bind fun s22 =>
      some ((if p0 = 0 then s22.1 else s22.2), s17)
    else
      J_X12_look_j14 t (up M t 2 0)
def F_X12_forget (t : Nat) (M : Mem) : Mem :=
  (up (up M t 2 0) t 34 0)
def J_X12_loss_j37 (t : Nat) (y0 : Int32) (y1 : Int32) (M : Mem) : Option (Int32) :=
  some (y0 - y1)
def J_X12_loss_j36 (t : Nat) (y0 : Int32) (M : Mem) : Option (Int32) :=
  J_X12_loss_j37 t y0 0 M
def F_X12_loss (t : Nat) (p0 : Int32) (p1 : Int32) (M : Mem) : Option (Int32) :=
  (ald M (t + 21) 7 p0).bind fun v3 =>
  if v3 = (-1) then
    J_X12_loss_j36 t (if p1 = 1 then (-5 : Int32) else (0 : Int32)) M
  else
    (ald M (t + 21) 7 p0).bind fun v5 =>
    if v5 = p0 then
      J_X12_loss_j36 t (if p1 = 1 then (-5 : Int32) else (0 : Int32)) M
    else
      J_X12_loss_j37 t (if p1 = 1 then (-5 : Int32) else (0 : Int32)) 10 M
def J_X12_tellGains_j40 (t : Nat) (rec : Int32 → Mem → Option (Mem)) (x1 : Int32) (x2 : Int32) (x3 : Int32) (M : Mem) : Option (Mem) :=
  (F_X12_aNight t M).bind fun q5 =>
  (F_X12_loss t x1 (x3 / 2) q5).bind fun q6 =>
  (ast q5 (t + 32) 8 (2 * x3) q6).bind fun M7 =>
  (F_X12_loss t x2 (irem x3 2) M7).bind fun q8 =>
  (ast M7 (t + 32) 8 ((2 * x3) + 1) q8).bind fun M9 =>
  (F_X12_unpack t (t + 23) 60 0 M9).bind fun q10 =>
  rec (x3 + 1) q10
def J_X12_tellGains_j28 (t : Nat) (rec : Int32 → Mem → Option (Mem)) (x1 : Int32) (x2 : Int32) (x3 : Int32) (M : Mem) : Option (Mem) :=
  if (irem x3 2) = 1 then
    (F_X12_doBribe t x2 M).bind fun q11 =>
    J_X12_tellGains_j40 t (rec) x1 x2 x3 q11
  else
    J_X12_tellGains_j40 t (rec) x1 x2 x3 M
def L_X12_tellGains_11 (t : Nat) (x1 : Int32) (x2 : Int32) : Nat → Int32 → Mem → Option (Mem)
  | 0, _, _ => none
  | m9 + 1, x3, M =>
    if 4 ≤ x3 then
      some M
    else
      if (x3 / 2) = 1 then
        (F_X12_doBribe t x1 M).bind fun q12 =>
        J_X12_tellGains_j28 t (L_X12_tellGains_11 t x1 x2 m9) x1 x2 x3 q12
      else
        J_X12_tellGains_j28 t (L_X12_tellGains_11 t x1 x2 m9) x1 x2 x3 M
def F_X12_tellGains (t : Nat) (p0 : Int32) (p1 : Int32) (M : Mem) : Option (Mem) :=
  (F_X12_pack t (t + 23) 60 0 M).bind fun q1 =>
  (L_X12_tellGains_11 t p0 p1 FU 0 q1).bind fun s14 =>
  some s14
def J_X12_game_j30 (t : Nat) (M : Mem) : Option (Int32 × Mem) :=
  some ((F_X12_fail t 1 M).1, (F_X12_fail t 1 M).2)
def J_X12_game_j174 (t : Nat) (rec : Int32 → Int32 → Int32 → Option (Int32 × Int32)) (x3 : Int32) (x4 : Int32) (x5 : Int32) (x6 : Int32) (x7 : Int32) (x8 : Int32) (M : Mem) : Option (Int32 × Int32) :=
  if x7 = (-1) then
    rec (x6 + 1) ((10 * (x8 / 2)) + (irem x8 2)) (x8 + 1)
  else
    rec (x6 + 1) x7 (x8 + 1)
def J_X12_game_j139 (t : Nat) (rec : Int32 → Int32 → Int32 → Option (Int32 × Int32)) (x3 : Int32) (x4 : Int32) (x5 : Int32) (x6 : Int32) (x7 : Int32) (x8 : Int32) (M : Mem) : Option (Int32 × Int32) :=
  if x5 = 0 then
    J_X12_game_j174 t (rec) x3 x4 x5 x6 x7 x8 M
  else
    (ald M (t + 32) 8 ((2 * (x8 ^^^ 1)) + 1)).bind fun v15 =>
    (ald M (t + 32) 8 ((2 * x8) + 1)).bind fun v16 =>
    if v15 ≤ v16 then
      J_X12_game_j174 t (rec) x3 x4 x5 x6 x7 x8 M
    else
      rec x6 x7 (x8 + 1)
def J_X12_game_j111 (t : Nat) (rec : Int32 → Int32 → Int32 → Option (Int32 × Int32)) (x3 : Int32) (x4 : Int32) (x5 : Int32) (x6 : Int32) (x7 : Int32) (x8 : Int32) (M : Mem) : Option (Int32 × Int32) :=
  if x4 = 0 then
    J_X12_game_j139 t (rec) x3 x4 x5 x6 x7 x8 M
  else
    (ald M (t + 32) 8 (2 * (x8 ^^^ 2))).bind fun v18 =>
    (ald M (t + 32) 8 (2 * x8)).bind fun v19 =>
    if v19 < v18 then
      rec x6 x7 (x8 + 1)
    else
      J_X12_game_j139 t (rec) x3 x4 x5 x6 x7 x8 M
def J_X12_game_j95 (t : Nat) (rec : Int32 → Int32 → Int32 → Option (Int32 × Int32)) (x3 : Int32) (x4 : Int32) (x5 : Int32) (x6 : Int32) (x7 : Int32) (x8 : Int32) (M : Mem) : Option (Int32 × Int32) :=
  if (irem x8 2) = 1 then
    if x5 = 0 then
      rec x6 x7 (x8 + 1)
    else
      J_X12_game_j111 t (rec) x3 x4 x5 x6 x7 x8 M
  else
    J_X12_game_j111 t (rec) x3 x4 x5 x6 x7 x8 M
def L_X12_game_76 (t : Nat) (x3 : Int32) (x4 : Int32) (x5 : Int32) (M : Mem) : Nat → Int32 → Int32 → Int32 → Option (Int32 × Int32)
  | 0, _, _, _ => none
  | m9 + 1, x6, x7, x8 =>
    if 4 ≤ x8 then
      some (x6, x7)
    else
      if (x8 / 2) = 1 then
        if x4 = 0 then
          L_X12_game_76 t x3 x4 x5 M m9 x6 x7 (x8 + 1)
        else
          J_X12_game_j95 t (L_X12_game_76 t x3 x4 x5 M m9) x3 x4 x5 x6 x7 x8 M
      else
        J_X12_game_j95 t (L_X12_game_76 t x3 x4 x5 M m9) x3 x4 x5 x6 x7 x8 M
def F_X12_game (t : Nat) (p0 : Int32) (p1 : Int32) (p2 : Int32) (M : Mem) : Option (Int32 × Mem) :=
  if (bi (F_X12_isPerson t p0 (up M t 2 0))) = 0 then
    J_X12_game_j30 t (up M t 2 0)
  else
    if (bi (F_X12_isPerson t p1 (up M t 2 0))) = 0 then
      J_X12_game_j30 t (up M t 2 0)
    else
      if p2 < 0 then
        J_X12_game_j30 t (up M t 2 0)
      else
        if p2 ≤ 1 then
          if p0 = p1 then
            some ((F_X12_fail t 2 (up M t 2 0)).1, (F_X12_fail t 2 (up M t 2 0)).2)
          else
            (F_X12_canBribe t p0 (up M t 2 0)).bind fun q6 =>
            (F_X12_canBribe t p1 (up M t 2 0)).bind fun q7 =>
            (F_X12_tellGains t p0 p1 (up M t 2 0)).bind fun q8 =>
            (L_X12_game_76 t p2 (bi q6) (bi q7) q8 FU 0 (-1) 0).bind fun s24 =>
            some ((if p2 = 0 then s24.1 else s24.2), q8)
        else
          J_X12_game_j30 t (up M t 2 0)
def F_X12_drawOf (t : Nat) (p0 : Int32) (M : Mem) : Option (Int32 × Mem) :=
  (irm ((((up M t 54 (((M t 54) * 1103515245) + 12345)) t 54) >>> (16 &&& 31)) &&& 32767) p0).bind fun v1 =>
  some (v1, (up M t 54 (((M t 54) * 1103515245) + 12345)))
def J_X12_something_j93 (t : Nat) (M : Mem) : Option (Mem) :=
  (F_X12_drawOf t 10 M).bind fun q3 =>
  some (up q3.2 t 35 q3.1)
def J_X12_something_j56 (t : Nat) (x1 : Int32) (x2 : Int32) (M : Mem) : Option (Mem) :=
  if x1 = 1 then
    (ald M (t + 8) 14 x2).bind fun v8 =>
    (F_X12_drawOf t v8 M).bind fun q9 =>
    (F_X12_drawOf t (q9.2 (t + 3) 0) q9.2).bind fun q10 =>
    (ast q10.2 (t + 16) 42 ((6 * x2) + q9.1) q10.1).bind fun M11 =>
    J_X12_something_j93 t M11
  else
    J_X12_something_j93 t M
def F_X12_something (t : Nat) (M : Mem) : Option (Mem) :=
  (F_X12_drawOf t 4 M).bind fun q1 =>
  if 2 ≤ q1.1 then
    J_X12_something_j93 t q1.2
  else
    if (q1.2 (t + 3) 3) ≤ 0 then
      J_X12_something_j93 t q1.2
    else
      (F_X12_drawOf t (q1.2 (t + 3) 3) q1.2).bind fun q5 =>
      if q1.1 = 0 then
        (ald q5.2 (t + 14) 7 q5.1).bind fun v12 =>
        (ast q5.2 (t + 14) 7 q5.1 (imin 999 (v12 + 20))).bind fun M13 =>
        J_X12_something_j56 t q1.1 q5.1 M13
      else
        J_X12_something_j56 t q1.1 q5.1 q5.2
def L_X12_years_61 (t : Nat) (x2 : Int32) (x3 : Int32) : Nat → Int32 → Int32 → Mem → Option (Int32 × Mem)
  | 0, _, _, _ => none
  | m9 + 1, x4, x5, M =>
    if x2 ≤ x5 then
      some (x4, M)
    else
      (F_X12_something t M).bind fun q5 =>
      (F_X12_aNight t q5).bind fun q6 =>
      L_X12_years_61 t x2 x3 m9 (x4 + (q6 t 42)) (x5 + 1) q6
def J_X12_years_j120 (t : Nat) (y0 : Int32) (M : Mem) : Option (Int32 × Mem) :=
  (F_X12_unpack t (t + 23) 60 0 M).bind fun q12 =>
  some (y0, q12)
def F_X12_years (t : Nat) (p0 : Int32) (p1 : Int32) (p2 : Int32) (M : Mem) : Option (Int32 × Mem) :=
  if (bi (F_X12_isIn p2.toInt64 0 2)) = 0 then
    some ((F_X12_fail t 1 (up M t 2 0)).1, (F_X12_fail t 1 (up M t 2 0)).2)
  else
    if (bi (F_X12_isIn p1.toInt64 0 40)) = 0 then
      some ((F_X12_fail t 2 (up M t 2 0)).1, (F_X12_fail t 2 (up M t 2 0)).2)
    else
      (F_X12_pack t (t + 23) 60 0 (up M t 2 0)).bind fun q3 =>
      (L_X12_years_61 t p1 p2 FU 0 0 (up q3 t 54 p0)).bind fun s8 =>
      if p2 = 0 then
        J_X12_years_j120 t s8.1 (up s8.2 t 35 (-1))
      else
        if p2 = 1 then
          J_X12_years_j120 t ((up s8.2 t 35 (-1)) t 30) (up s8.2 t 35 (-1))
        else
          (F_X12_allCoins t (up s8.2 t 35 (-1))).bind fun q11 =>
          J_X12_years_j120 t q11 (up s8.2 t 35 (-1))
def L_X12_copyTo_2 (a0 : Nat) (n0 : Nat) (a1 : Nat) (n1 : Nat) : Nat → Int32 → Mem → Option (Mem)
  | 0, _, _ => none
  | m9 + 1, x2, M =>
    if (nI n0) ≤ x2 then
      some M
    else
      (ald M a1 n1 x2).bind fun v2 =>
      (ast M a0 n0 x2 v2).bind fun M3 =>
      L_X12_copyTo_2 a0 n0 a1 n1 m9 (x2 + 1) M3
def F_X12_copyTo (a0 : Nat) (n0 : Nat) (a1 : Nat) (n1 : Nat) (M : Mem) : Option (Mem) :=
  (L_X12_copyTo_2 a0 n0 a1 n1 FU 0 M).bind fun s5 =>
  some s5
def L_X12_image_70 (t : Nat) : Nat → Int32 → Mem → Option (Mem)
  | 0, _, _ => none
  | m9 + 1, x1, M =>
    if 8 ≤ x1 then
      some M
    else
      (ald M (t + 29) 8 x1).bind fun v6 =>
      (zst M (t + 38) 8 x1 v6).bind fun M7 =>
      L_X12_image_70 t m9 (x1 + 1) M7
def F_X12_image (t : Nat) (M : Mem) : Option (Mem) :=
  (F_X12_pack t (t + 33) 60 0 (up (up (up (up M t 2 0) t 55 (bi true)) t 56 ((up (up M t 2 0) t 55 (bi true)) t 33)) t 57 ((up (up (up M t 2 0) t 55 (bi true)) t 56 ((up (up M t 2 0) t 55 (bi true)) t 33)) t 34))).bind fun q1 =>
  (F_X12_copyTo (t + 34) 2400 (t + 17) 2400 q1).bind fun q2 =>
  (F_X12_copyTo (t + 35) 8 (t + 26) 8 q2).bind fun q3 =>
  (F_X12_copyTo (t + 36) 8 (t + 27) 8 q3).bind fun q4 =>
  (L_X12_image_70 t FU 0 q4).bind fun s9 =>
  (F_X12_copyTo (t + 37) 3 (t + 12) 3 s9).bind fun q10 =>
  some q10
def L_X12_restore_74 (t : Nat) : Nat → Int32 → Mem → Option (Mem)
  | 0, _, _ => none
  | m9 + 1, x1, M =>
    if 8 ≤ x1 then
      some M
    else
      (ald M (t + 38) 8 x1).bind fun v7 =>
      (zst M (t + 29) 8 x1 v7).bind fun M8 =>
      L_X12_restore_74 t m9 (x1 + 1) M8
def F_X12_restore (t : Nat) (M : Mem) : Option (Bool × Mem) :=
  if ((up M t 2 0) t 55) = 0 then
    some (false, (up M t 2 0))
  else
    (F_X12_unpack t (t + 33) 60 0 (up (up (up M t 2 0) t 33 ((up M t 2 0) t 56)) t 34 ((up (up M t 2 0) t 33 ((up M t 2 0) t 56)) t 57))).bind fun q2 =>
    (F_X12_copyTo (t + 17) 2400 (t + 34) 2400 q2).bind fun q3 =>
    (F_X12_copyTo (t + 26) 8 (t + 35) 8 q3).bind fun q4 =>
    (F_X12_copyTo (t + 27) 8 (t + 36) 8 q4).bind fun q5 =>
    (L_X12_restore_74 t FU 0 q5).bind fun s10 =>
    (F_X12_copyTo (t + 12) 3 (t + 37) 3 s10).bind fun q11 =>
    some (true, q11)
def J_J6_numberOfTrailingZeros_0f7a4_j74 (x0 : Int32) (x1 : Int32) (M : Mem) : Int32 :=
  (x1 + (iushr x0 1))
def J_J6_numberOfTrailingZeros_0f7a4_j62 (x0 : Int32) (x1 : Int32) (M : Mem) : Int32 :=
  if x0 ≤ 4 then
    J_J6_numberOfTrailingZeros_0f7a4_j74 x0 x1 M
  else
    J_J6_numberOfTrailingZeros_0f7a4_j74 (iushr x0 2) (x1 + 2) M
def J_J6_numberOfTrailingZeros_0f7a4_j49 (x0 : Int32) (x1 : Int32) (M : Mem) : Int32 :=
  if x0 ≤ 16 then
    J_J6_numberOfTrailingZeros_0f7a4_j62 x0 x1 M
  else
    J_J6_numberOfTrailingZeros_0f7a4_j62 (iushr x0 4) (x1 + 4) M
def J_J6_numberOfTrailingZeros_0f7a4_j34 (x0 : Int32) (x1 : Int32) (M : Mem) : Int32 :=
  if x0 ≤ 256 then
    J_J6_numberOfTrailingZeros_0f7a4_j49 x0 x1 M
  else
    J_J6_numberOfTrailingZeros_0f7a4_j49 (iushr x0 8) (x1 + 8) M
def F_J6_numberOfTrailingZeros_0f7a4 (p0 : Int32) (M : Mem) : Int32 :=
  if 0 < ((p0 ^^^ (-1)) &&& (p0 - 1)) then
    if ((p0 ^^^ (-1)) &&& (p0 - 1)) ≤ 65536 then
      J_J6_numberOfTrailingZeros_0f7a4_j34 ((p0 ^^^ (-1)) &&& (p0 - 1)) 1 M
    else
      J_J6_numberOfTrailingZeros_0f7a4_j34 (iushr ((p0 ^^^ (-1)) &&& (p0 - 1)) 16) (1 + 16) M
  else
    (((p0 ^^^ (-1)) &&& (p0 - 1)) &&& 32)
def F_J6_bitCount_0f7a4 (p0 : Int32) : Int32 :=
  ((((((((p0 - ((iushr p0 1) &&& 1431655765)) &&& 858993459) + ((iushr (p0 - ((iushr p0 1) &&& 1431655765)) 2) &&& 858993459)) + (iushr (((p0 - ((iushr p0 1) &&& 1431655765)) &&& 858993459) + ((iushr (p0 - ((iushr p0 1) &&& 1431655765)) 2) &&& 858993459)) 4)) &&& 252645135) + (iushr (((((p0 - ((iushr p0 1) &&& 1431655765)) &&& 858993459) + ((iushr (p0 - ((iushr p0 1) &&& 1431655765)) 2) &&& 858993459)) + (iushr (((p0 - ((iushr p0 1) &&& 1431655765)) &&& 858993459) + ((iushr (p0 - ((iushr p0 1) &&& 1431655765)) 2) &&& 858993459)) 4)) &&& 252645135) 8)) + (iushr ((((((p0 - ((iushr p0 1) &&& 1431655765)) &&& 858993459) + ((iushr (p0 - ((iushr p0 1) &&& 1431655765)) 2) &&& 858993459)) + (iushr (((p0 - ((iushr p0 1) &&& 1431655765)) &&& 858993459) + ((iushr (p0 - ((iushr p0 1) &&& 1431655765)) 2) &&& 858993459)) 4)) &&& 252645135) + (iushr (((((p0 - ((iushr p0 1) &&& 1431655765)) &&& 858993459) + ((iushr (p0 - ((iushr p0 1) &&& 1431655765)) 2) &&& 858993459)) + (iushr (((p0 - ((iushr p0 1) &&& 1431655765)) &&& 858993459) + ((iushr (p0 - ((iushr p0 1) &&& 1431655765)) 2) &&& 858993459)) 4)) &&& 252645135) 8)) 16)) &&& 63)
def F_X0_begin (t : Nat) (w0 : Nat) (M : Mem) : Option (Mem) :=
  (F_X8_begin (t + 1) w0 M).bind fun q1 =>
  some (up (up q1 (t + 5) 1 0) (t + 7) 3 0)
def J_X1_add_j13 (t : Nat) (w0 : Nat) (M : Mem) : Option (Mem) :=
  (F_X8_writeTo w0 (t + 1) 1000 ((M t 1) * 25) M).bind fun q2 =>
  some (up q2 t 1 ((q2 t 1) + 1))
def F_X1_add (t : Nat) (w0 : Nat) (M : Mem) : Option (Mem) :=
  if (M t 1) < 40 then
    J_X1_add_j13 t w0 M
  else
    (F_X1_dropOldest t M).bind fun q3 =>
    J_X1_add_j13 t w0 q3
def F_X1_takeBack (t : Nat) (w0 : Nat) (M : Mem) : Option (Bool × Mem) :=
  if (M t 1) = 0 then
    some (false, M)
  else
    (F_X8_readFrom w0 (t + 1) 1000 (((up M t 1 ((M t 1) - 1)) t 1) * 25) (up M t 1 ((M t 1) - 1))).bind fun q2 =>
    some (true, q2)
def L_X3_chooseFirstRow_4 (t : Nat) : Nat → Int32 → Int32 → Mem → Option (Mem)
  | 0, _, _, _ => none
  | m9 + 1, x1, x2, M =>
    if 7 ≤ x2 then
      some M
    else
      (F_X3_takerOf t x2 x1 M).bind fun q2 =>
      L_X3_chooseFirstRow_4 t m9 (x1 ||| (if q2 = (-1) then (0 : Int32) else ((1 : Int32) <<< (q2 &&& 31)))) (x2 + 1) (F_X11_put (t + 3) 7 x2 q2 M)
def F_X3_chooseFirstRow (t : Nat) (M : Mem) : Option (Mem) :=
  (L_X3_chooseFirstRow_4 t FU 0 0 M).bind fun s6 =>
  some s6
def L_X4_unlike_4 (t : Nat) (x1 : Int32) (M : Mem) : Nat → Int32 → Int32 → Option (Int32)
  | 0, _, _ => none
  | m9 + 1, x2, x3 =>
    if 4 ≤ x3 then
      some x2
    else
      L_X4_unlike_4 t x1 M m9 (x2 + (F_J6_bitCount_0f7a4 (F_X11_at (t + 2) 48 ((x1 * 4) + x3) M))) (x3 + 1)
def F_X4_unlike (t : Nat) (p0 : Int32) (M : Mem) : Option (Int32) :=
  (L_X4_unlike_4 t p0 M FU 0 0).bind fun s3 =>
  some s3
def L_X4_mostUnlike_4 (t : Nat) (M : Mem) : Nat → Int32 → Int32 → Option (Int32)
  | 0, _, _ => none
  | m9 + 1, x1, x2 =>
    if 12 ≤ x2 then
      some x1
    else
      (F_X4_unlike t x2 M).bind fun q2 =>
      L_X4_mostUnlike_4 t M m9 (imax x1 q2) (x2 + 1)
def F_X4_mostUnlike (t : Nat) (M : Mem) : Option (Int32) :=
  (L_X4_mostUnlike_4 t M FU 0 0).bind fun s4 =>
  some s4
def L_X4_nightToLook_7 (t : Nat) (x1 : Int32) (M : Mem) : Nat → Int32 → Option (Sum (Int32) (Int32))
  | 0, _ => none
  | m9 + 1, x2 =>
    if 12 ≤ x2 then
      some (Sum.inl (-1))
    else
      if x1 ≤ 0 then
        some (Sum.inl (-1))
      else
        (F_X4_unlike t x2 M).bind fun q4 =>
        if q4 = x1 then
          some (Sum.inr x2)
        else
          L_X4_nightToLook_7 t x1 M m9 (x2 + 1)
def F_X4_nightToLook (t : Nat) (M : Mem) : Option (Int32) :=
  (F_X4_mostUnlike t M).bind fun q1 =>
  (L_X4_nightToLook_7 t q1 M FU 0).bind fun q6 => Sum.elim (fun v => some v) (fun s7 =>
  some (s7 + 1)) q6
def J_X5_readDigits_j72 (t : Nat) (rec : Mem → Option (Mem)) (M : Mem) : Option (Mem) :=
  rec (up M t 5 ((M t 5) + 1))
def L_X5_readDigits_5 (t : Nat) : Nat → Mem → Option (Mem)
  | 0, _ => none
  | m9 + 1, M =>
    if (M t 3) ≤ (M t 5) then
      some M
    else
      if (bi (F_X5_isDigit (F_X11_at (t + 1) 700 (M t 5) M))) = 0 then
        some M
      else
        if 4 ≤ ((M t 5) - (M t 4)) then
          J_X5_readDigits_j72 t (L_X5_readDigits_5 t m9) M
        else
          J_X5_readDigits_j72 t (L_X5_readDigits_5 t m9) (up M t 7 (((10 * (M t 7)) + (F_X11_at (t + 1) 700 (M t 5) M)) - 48))
def F_X5_readDigits (t : Nat) (M : Mem) : Option (Mem) :=
  (L_X5_readDigits_5 t FU (up M t 7 0)).bind fun s5 =>
  some s5
def F_X6_plainWorth (t : Nat) (w0 : Nat) (p1 : Int32) (p2 : Int32) (M : Mem) : Int32 :=
  (((if p1 = p2 then (20 : Int32) else (3 : Int32)) + (5 * (F_J6_bitCount_0f7a4 (F_X11_at (t + 1) 7 p2 M)))) - (if (bi (F_X8_doesKnow w0 p1 p2 M)) = 0 then (0 : Int32) else (9 : Int32)))
def F_X6_putValues (t : Nat) (w0 : Nat) (w1 : Nat) (p2 : Int32) (p3 : Int32) (M : Mem) : Option (Mem) :=
  (F_X9_placeAt w0 p3 (F_J6_numberOfTrailingZeros_0f7a4 (F_X11_at (t + 1) 7 p3 M) M) M).bind fun q1 =>
  some (F_X11_put (t + 2) 8 7 ((F_X11_put (t + 2) 8 6 ((F_X11_put (t + 2) 8 5 (F_X11_streetIn (F_X11_at (w1 + 3) 7 p3 (F_X11_put (t + 2) 8 4 (F_J6_bitCount_0f7a4 (F_X11_at (t + 1) 7 p3 M)) (F_X11_put (t + 2) 8 3 (if (bi (F_X8_doesKnow w1 p2 p3 (F_X11_put (t + 2) 8 2 (F_X11_at (w1 + 1) 7 p3 (F_X11_put (t + 2) 8 1 (F_X11_at (w1 + 1) 7 p2 (F_X11_put (t + 2) 8 0 (if p2 = p3 then (1 : Int32) else (0 : Int32)) M)) (F_X11_put (t + 2) 8 0 (if p2 = p3 then (1 : Int32) else (0 : Int32)) M))) (F_X11_put (t + 2) 8 1 (F_X11_at (w1 + 1) 7 p2 (F_X11_put (t + 2) 8 0 (if p2 = p3 then (1 : Int32) else (0 : Int32)) M)) (F_X11_put (t + 2) 8 0 (if p2 = p3 then (1 : Int32) else (0 : Int32)) M))))) = 0 then (0 : Int32) else (1 : Int32)) (F_X11_put (t + 2) 8 2 (F_X11_at (w1 + 1) 7 p3 (F_X11_put (t + 2) 8 1 (F_X11_at (w1 + 1) 7 p2 (F_X11_put (t + 2) 8 0 (if p2 = p3 then (1 : Int32) else (0 : Int32)) M)) (F_X11_put (t + 2) 8 0 (if p2 = p3 then (1 : Int32) else (0 : Int32)) M))) (F_X11_put (t + 2) 8 1 (F_X11_at (w1 + 1) 7 p2 (F_X11_put (t + 2) 8 0 (if p2 = p3 then (1 : Int32) else (0 : Int32)) M)) (F_X11_put (t + 2) 8 0 (if p2 = p3 then (1 : Int32) else (0 : Int32)) M)))))) q1) (F_X11_put (t + 2) 8 4 (F_J6_bitCount_0f7a4 (F_X11_at (t + 1) 7 p3 M)) (F_X11_put (t + 2) 8 3 (if (bi (F_X8_doesKnow w1 p2 p3 (F_X11_put (t + 2) 8 2 (F_X11_at (w1 + 1) 7 p3 (F_X11_put (t + 2) 8 1 (F_X11_at (w1 + 1) 7 p2 (F_X11_put (t + 2) 8 0 (if p2 = p3 then (1 : Int32) else (0 : Int32)) M)) (F_X11_put (t + 2) 8 0 (if p2 = p3 then (1 : Int32) else (0 : Int32)) M))) (F_X11_put (t + 2) 8 1 (F_X11_at (w1 + 1) 7 p2 (F_X11_put (t + 2) 8 0 (if p2 = p3 then (1 : Int32) else (0 : Int32)) M)) (F_X11_put (t + 2) 8 0 (if p2 = p3 then (1 : Int32) else (0 : Int32)) M))))) = 0 then (0 : Int32) else (1 : Int32)) (F_X11_put (t + 2) 8 2 (F_X11_at (w1 + 1) 7 p3 (F_X11_put (t + 2) 8 1 (F_X11_at (w1 + 1) 7 p2 (F_X11_put (t + 2) 8 0 (if p2 = p3 then (1 : Int32) else (0 : Int32)) M)) (F_X11_put (t + 2) 8 0 (if p2 = p3 then (1 : Int32) else (0 : Int32)) M))) (F_X11_put (t + 2) 8 1 (F_X11_at (w1 + 1) 7 p2 (F_X11_put (t + 2) 8 0 (if p2 = p3 then (1 : Int32) else (0 : Int32)) M)) (F_X11_put (t + 2) 8 0 (if p2 = p3 then (1 : Int32) else (0 : Int32)) M)))))) t 4) (F_X11_put (t + 2) 8 5 (F_X11_streetIn (F_X11_at (w1 + 3) 7 p3 (F_X11_put (t + 2) 8 4 (F_J6_bitCount_0f7a4 (F_X11_at (t + 1) 7 p3 M)) (F_X11_put (t + 2) 8 3 (if (bi (F_X8_doesKnow w1 p2 p3 (F_X11_put (t + 2) 8 2 (F_X11_at (w1 + 1) 7 p3 (F_X11_put (t + 2) 8 1 (F_X11_at (w1 + 1) 7 p2 (F_X11_put (t + 2) 8 0 (if p2 = p3 then (1 : Int32) else (0 : Int32)) M)) (F_X11_put (t + 2) 8 0 (if p2 = p3 then (1 : Int32) else (0 : Int32)) M))) (F_X11_put (t + 2) 8 1 (F_X11_at (w1 + 1) 7 p2 (F_X11_put (t + 2) 8 0 (if p2 = p3 then (1 : Int32) else (0 : Int32)) M)) (F_X11_put (t + 2) 8 0 (if p2 = p3 then (1 : Int32) else (0 : Int32)) M))))) = 0 then (0 : Int32) else (1 : Int32)) (F_X11_put (t + 2) 8 2 (F_X11_at (w1 + 1) 7 p3 (F_X11_put (t + 2) 8 1 (F_X11_at (w1 + 1) 7 p2 (F_X11_put (t + 2) 8 0 (if p2 = p3 then (1 : Int32) else (0 : Int32)) M)) (F_X11_put (t + 2) 8 0 (if p2 = p3 then (1 : Int32) else (0 : Int32)) M))) (F_X11_put (t + 2) 8 1 (F_X11_at (w1 + 1) 7 p2 (F_X11_put (t + 2) 8 0 (if p2 = p3 then (1 : Int32) else (0 : Int32)) M)) (F_X11_put (t + 2) 8 0 (if p2 = p3 then (1 : Int32) else (0 : Int32)) M)))))) q1) (F_X11_put (t + 2) 8 4 (F_J6_bitCount_0f7a4 (F_X11_at (t + 1) 7 p3 M)) (F_X11_put (t + 2) 8 3 (if (bi (F_X8_doesKnow w1 p2 p3 (F_X11_put (t + 2) 8 2 (F_X11_at (w1 + 1) 7 p3 (F_X11_put (t + 2) 8 1 (F_X11_at (w1 + 1) 7 p2 (F_X11_put (t + 2) 8 0 (if p2 = p3 then (1 : Int32) else (0 : Int32)) M)) (F_X11_put (t + 2) 8 0 (if p2 = p3 then (1 : Int32) else (0 : Int32)) M))) (F_X11_put (t + 2) 8 1 (F_X11_at (w1 + 1) 7 p2 (F_X11_put (t + 2) 8 0 (if p2 = p3 then (1 : Int32) else (0 : Int32)) M)) (F_X11_put (t + 2) 8 0 (if p2 = p3 then (1 : Int32) else (0 : Int32)) M))))) = 0 then (0 : Int32) else (1 : Int32)) (F_X11_put (t + 2) 8 2 (F_X11_at (w1 + 1) 7 p3 (F_X11_put (t + 2) 8 1 (F_X11_at (w1 + 1) 7 p2 (F_X11_put (t + 2) 8 0 (if p2 = p3 then (1 : Int32) else (0 : Int32)) M)) (F_X11_put (t + 2) 8 0 (if p2 = p3 then (1 : Int32) else (0 : Int32)) M))) (F_X11_put (t + 2) 8 1 (F_X11_at (w1 + 1) 7 p2 (F_X11_put (t + 2) 8 0 (if p2 = p3 then (1 : Int32) else (0 : Int32)) M)) (F_X11_put (t + 2) 8 0 (if p2 = p3 then (1 : Int32) else (0 : Int32)) M))))))) w1 0) (F_X11_put (t + 2) 8 6 ((F_X11_put (t + 2) 8 5 (F_X11_streetIn (F_X11_at (w1 + 3) 7 p3 (F_X11_put (t + 2) 8 4 (F_J6_bitCount_0f7a4 (F_X11_at (t + 1) 7 p3 M)) (F_X11_put (t + 2) 8 3 (if (bi (F_X8_doesKnow w1 p2 p3 (F_X11_put (t + 2) 8 2 (F_X11_at (w1 + 1) 7 p3 (F_X11_put (t + 2) 8 1 (F_X11_at (w1 + 1) 7 p2 (F_X11_put (t + 2) 8 0 (if p2 = p3 then (1 : Int32) else (0 : Int32)) M)) (F_X11_put (t + 2) 8 0 (if p2 = p3 then (1 : Int32) else (0 : Int32)) M))) (F_X11_put (t + 2) 8 1 (F_X11_at (w1 + 1) 7 p2 (F_X11_put (t + 2) 8 0 (if p2 = p3 then (1 : Int32) else (0 : Int32)) M)) (F_X11_put (t + 2) 8 0 (if p2 = p3 then (1 : Int32) else (0 : Int32)) M))))) = 0 then (0 : Int32) else (1 : Int32)) (F_X11_put (t + 2) 8 2 (F_X11_at (w1 + 1) 7 p3 (F_X11_put (t + 2) 8 1 (F_X11_at (w1 + 1) 7 p2 (F_X11_put (t + 2) 8 0 (if p2 = p3 then (1 : Int32) else (0 : Int32)) M)) (F_X11_put (t + 2) 8 0 (if p2 = p3 then (1 : Int32) else (0 : Int32)) M))) (F_X11_put (t + 2) 8 1 (F_X11_at (w1 + 1) 7 p2 (F_X11_put (t + 2) 8 0 (if p2 = p3 then (1 : Int32) else (0 : Int32)) M)) (F_X11_put (t + 2) 8 0 (if p2 = p3 then (1 : Int32) else (0 : Int32)) M)))))) q1) (F_X11_put (t + 2) 8 4 (F_J6_bitCount_0f7a4 (F_X11_at (t + 1) 7 p3 M)) (F_X11_put (t + 2) 8 3 (if (bi (F_X8_doesKnow w1 p2 p3 (F_X11_put (t + 2) 8 2 (F_X11_at (w1 + 1) 7 p3 (F_X11_put (t + 2) 8 1 (F_X11_at (w1 + 1) 7 p2 (F_X11_put (t + 2) 8 0 (if p2 = p3 then (1 : Int32) else (0 : Int32)) M)) (F_X11_put (t + 2) 8 0 (if p2 = p3 then (1 : Int32) else (0 : Int32)) M))) (F_X11_put (t + 2) 8 1 (F_X11_at (w1 + 1) 7 p2 (F_X11_put (t + 2) 8 0 (if p2 = p3 then (1 : Int32) else (0 : Int32)) M)) (F_X11_put (t + 2) 8 0 (if p2 = p3 then (1 : Int32) else (0 : Int32)) M))))) = 0 then (0 : Int32) else (1 : Int32)) (F_X11_put (t + 2) 8 2 (F_X11_at (w1 + 1) 7 p3 (F_X11_put (t + 2) 8 1 (F_X11_at (w1 + 1) 7 p2 (F_X11_put (t + 2) 8 0 (if p2 = p3 then (1 : Int32) else (0 : Int32)) M)) (F_X11_put (t + 2) 8 0 (if p2 = p3 then (1 : Int32) else (0 : Int32)) M))) (F_X11_put (t + 2) 8 1 (F_X11_at (w1 + 1) 7 p2 (F_X11_put (t + 2) 8 0 (if p2 = p3 then (1 : Int32) else (0 : Int32)) M)) (F_X11_put (t + 2) 8 0 (if p2 = p3 then (1 : Int32) else (0 : Int32)) M)))))) t 4) (F_X11_put (t + 2) 8 5 (F_X11_streetIn (F_X11_at (w1 + 3) 7 p3 (F_X11_put (t + 2) 8 4 (F_J6_bitCount_0f7a4 (F_X11_at (t + 1) 7 p3 M)) (F_X11_put (t + 2) 8 3 (if (bi (F_X8_doesKnow w1 p2 p3 (F_X11_put (t + 2) 8 2 (F_X11_at (w1 + 1) 7 p3 (F_X11_put (t + 2) 8 1 (F_X11_at (w1 + 1) 7 p2 (F_X11_put (t + 2) 8 0 (if p2 = p3 then (1 : Int32) else (0 : Int32)) M)) (F_X11_put (t + 2) 8 0 (if p2 = p3 then (1 : Int32) else (0 : Int32)) M))) (F_X11_put (t + 2) 8 1 (F_X11_at (w1 + 1) 7 p2 (F_X11_put (t + 2) 8 0 (if p2 = p3 then (1 : Int32) else (0 : Int32)) M)) (F_X11_put (t + 2) 8 0 (if p2 = p3 then (1 : Int32) else (0 : Int32)) M))))) = 0 then (0 : Int32) else (1 : Int32)) (F_X11_put (t + 2) 8 2 (F_X11_at (w1 + 1) 7 p3 (F_X11_put (t + 2) 8 1 (F_X11_at (w1 + 1) 7 p2 (F_X11_put (t + 2) 8 0 (if p2 = p3 then (1 : Int32) else (0 : Int32)) M)) (F_X11_put (t + 2) 8 0 (if p2 = p3 then (1 : Int32) else (0 : Int32)) M))) (F_X11_put (t + 2) 8 1 (F_X11_at (w1 + 1) 7 p2 (F_X11_put (t + 2) 8 0 (if p2 = p3 then (1 : Int32) else (0 : Int32)) M)) (F_X11_put (t + 2) 8 0 (if p2 = p3 then (1 : Int32) else (0 : Int32)) M)))))) q1) (F_X11_put (t + 2) 8 4 (F_J6_bitCount_0f7a4 (F_X11_at (t + 1) 7 p3 M)) (F_X11_put (t + 2) 8 3 (if (bi (F_X8_doesKnow w1 p2 p3 (F_X11_put (t + 2) 8 2 (F_X11_at (w1 + 1) 7 p3 (F_X11_put (t + 2) 8 1 (F_X11_at (w1 + 1) 7 p2 (F_X11_put (t + 2) 8 0 (if p2 = p3 then (1 : Int32) else (0 : Int32)) M)) (F_X11_put (t + 2) 8 0 (if p2 = p3 then (1 : Int32) else (0 : Int32)) M))) (F_X11_put (t + 2) 8 1 (F_X11_at (w1 + 1) 7 p2 (F_X11_put (t + 2) 8 0 (if p2 = p3 then (1 : Int32) else (0 : Int32)) M)) (F_X11_put (t + 2) 8 0 (if p2 = p3 then (1 : Int32) else (0 : Int32)) M))))) = 0 then (0 : Int32) else (1 : Int32)) (F_X11_put (t + 2) 8 2 (F_X11_at (w1 + 1) 7 p3 (F_X11_put (t + 2) 8 1 (F_X11_at (w1 + 1) 7 p2 (F_X11_put (t + 2) 8 0 (if p2 = p3 then (1 : Int32) else (0 : Int32)) M)) (F_X11_put (t + 2) 8 0 (if p2 = p3 then (1 : Int32) else (0 : Int32)) M))) (F_X11_put (t + 2) 8 1 (F_X11_at (w1 + 1) 7 p2 (F_X11_put (t + 2) 8 0 (if p2 = p3 then (1 : Int32) else (0 : Int32)) M)) (F_X11_put (t + 2) 8 0 (if p2 = p3 then (1 : Int32) else (0 : Int32)) M))))))))
def F_X7_copy (t : Nat) (w0 : Nat) (M : Mem) : Option (Mem) :=
  (F_X11_copyRow (w0 + 1) 8 (t + 1) 8 (up M t 3 (M w0 3))).bind fun q1 =>
  (F_X11_copyRow (w0 + 2) 8 (t + 2) 8 q1).bind fun q2 =>
  (F_X11_copyRow (w0 + 3) 8 (t + 3) 8 q2).bind fun q3 =>
  some q3
def F_X8_copy (t : Nat) (w0 : Nat) (M : Mem) : Option (Mem) :=
  (F_X11_copyRow (w0 + 1) 7 (t + 1) 7 (up (up (up (up M t 0 (M w0 0)) t 1 ((up M t 0 (M w0 0)) w0 1)) t 2 ((up (up M t 0 (M w0 0)) t 1 ((up M t 0 (M w0 0)) w0 1)) w0 2)) t 3 ((up (up (up M t 0 (M w0 0)) t 1 ((up M t 0 (M w0 0)) w0 1)) t 2 ((up (up M t 0 (M w0 0)) t 1 ((up M t 0 (M w0 0)) w0 1)) w0 2)) w0 3))).bind fun q1 =>
  (F_X11_copyRow (w0 + 2) 7 (t + 2) 7 q1).bind fun q2 =>
  (F_X11_copyRow (w0 + 3) 7 (t + 3) 7 q2).bind fun q3 =>
  some q3
def F_X8_move (t : Nat) (p0 : Int32) (p1 : Int32) (p2 : Int32) (M : Mem) : Mem :=
  (F_X11_put (t + 3) 7 p0 (F_X11_walkWith (F_X11_at (t + 3) 7 p0 M) p1 p2) M)
def L_X9_clear_37 (t : Nat) : Nat → Int32 → Mem → Option (Mem)
  | 0, _, _ => none
  | m9 + 1, x1, M =>
    if 8 ≤ x1 then
      some M
    else
      (ast M (t + 1) 8 x1 0).bind fun M2 =>
      L_X9_clear_37 t m9 (x1 + 1) M2
def F_X9_clear (t : Nat) (M : Mem) : Option (Mem) :=
  (L_X9_clear_37 t FU 0 (up (up (up (up (up (up (up M t 0 4) t 1 0) t 2 1) t 3 0) t 4 0) t 5 1) t 6 5)).bind fun s4 =>
  some (F_X10_clear (t + 7) (F_X11_put (t + 6) 8 0 0 (F_X11_put (t + 2) 8 0 0 s4)))
def L_X9_addPerson_6 (t : Nat) (a2 : Nat) (n2 : Nat) (x1 : Int32) (x2 : Int32) (x4 : Int32) (M : Mem) : Nat → Int32 → Int32 → Option (Int32)
  | 0, _, _ => none
  | m9 + 1, x5, x6 =>
    if x4 ≤ x6 then
      some x5
    else
      L_X9_addPerson_6 t a2 n2 x1 x2 x4 M m9 (F_X11_walkWith x5 x6 (F_X11_at a2 n2 x6 M)) (x6 + 1)
def F_X9_addPerson (t : Nat) (p0 : Int32) (p1 : Int32) (a2 : Nat) (n2 : Nat) (p3 : Int32) (M : Mem) : Option (Mem) :=
  (L_X9_addPerson_6 t a2 n2 p0 p1 p3 M FU 0 0).bind fun s3 =>
  some (up (up (F_X11_put (t + 5) 7 ((F_X11_put (t + 4) 7 ((F_X11_put (t + 3) 7 (M t 3) p0 M) t 3) p3 (F_X11_put (t + 3) 7 (M t 3) p0 M)) t 3) s3 (F_X11_put (t + 4) 7 ((F_X11_put (t + 3) 7 (M t 3) p0 M) t 3) p3 (F_X11_put (t + 3) 7 (M t 3) p0 M))) t 4 (((F_X11_put (t + 5) 7 ((F_X11_put (t + 4) 7 ((F_X11_put (t + 3) 7 (M t 3) p0 M) t 3) p3 (F_X11_put (t + 3) 7 (M t 3) p0 M)) t 3) s3 (F_X11_put (t + 4) 7 ((F_X11_put (t + 3) 7 (M t 3) p0 M) t 3) p3 (F_X11_put (t + 3) 7 (M t 3) p0 M))) t 4) ||| (if p1 = 0 then (0 : Int32) else ((1 : Int32) <<< (((F_X11_put (t + 5) 7 ((F_X11_put (t + 4) 7 ((F_X11_put (t + 3) 7 (M t 3) p0 M) t 3) p3 (F_X11_put (t + 3) 7 (M t 3) p0 M)) t 3) s3 (F_X11_put (t + 4) 7 ((F_X11_put (t + 3) 7 (M t 3) p0 M) t 3) p3 (F_X11_put (t + 3) 7 (M t 3) p0 M))) t 3) &&& 31))))) t 3 (((up (F_X11_put (t + 5) 7 ((F_X11_put (t + 4) 7 ((F_X11_put (t + 3) 7 (M t 3) p0 M) t 3) p3 (F_X11_put (t + 3) 7 (M t 3) p0 M)) t 3) s3 (F_X11_put (t + 4) 7 ((F_X11_put (t + 3) 7 (M t 3) p0 M) t 3) p3 (F_X11_put (t + 3) 7 (M t 3) p0 M))) t 4 (((F_X11_put (t + 5) 7 ((F_X11_put (t + 4) 7 ((F_X11_put (t + 3) 7 (M t 3) p0 M) t 3) p3 (F_X11_put (t + 3) 7 (M t 3) p0 M)) t 3) s3 (F_X11_put (t + 4) 7 ((F_X11_put (t + 3) 7 (M t 3) p0 M) t 3) p3 (F_X11_put (t + 3) 7 (M t 3) p0 M))) t 4) ||| (if p1 = 0 then (0 : Int32) else ((1 : Int32) <<< (((F_X11_put (t + 5) 7 ((F_X11_put (t + 4) 7 ((F_X11_put (t + 3) 7 (M t 3) p0 M) t 3) p3 (F_X11_put (t + 3) 7 (M t 3) p0 M)) t 3) s3 (F_X11_put (t + 4) 7 ((F_X11_put (t + 3) 7 (M t 3) p0 M) t 3) p3 (F_X11_put (t + 3) 7 (M t 3) p0 M))) t 3) &&& 31))))) t 3) + 1))
def L_X9_hoursMet_6 (t : Nat) (x1 : Int32) (x2 : Int32) (x3 : Int32) (M : Mem) : Nat → Int32 → Int32 → Option (Int32)
  | 0, _, _ => none
  | m9 + 1, x4, x5 =>
    if 6 ≤ x5 then
      some x4
    else
      (F_X9_watchAt t x3 x5 M).bind fun q2 =>
      (F_X9_placeAt t x1 x5 M).bind fun q3 =>
      if q2 = (F_X11_streetIn x2 q3) then
        L_X9_hoursMet_6 t x1 x2 x3 M m9 (x4 ||| ((1 : Int32) <<< (x5 &&& 31))) (x5 + 1)
      else
        L_X9_hoursMet_6 t x1 x2 x3 M m9 x4 (x5 + 1)
def F_X9_hoursMet (t : Nat) (p0 : Int32) (p1 : Int32) (p2 : Int32) (M : Mem) : Option (Int32) :=
  (L_X9_hoursMet_6 t p0 p1 p2 M FU 0 0).bind fun s6 =>
  some s6
def J_X9_seenIn_j38 (t : Nat) (w0 : Nat) (x2 : Int32) (x3 : Int32) (x5 : Int32) (M : Mem) : Option (Int32) :=
  (F_X9_hoursMet t x2 x3 x5 M).bind fun q4 =>
  some q4
def F_X9_seenIn (t : Nat) (w0 : Nat) (p1 : Int32) (p2 : Int32) (p3 : Int32) (M : Mem) : Option (Int32) :=
  (F_X9_fogOf t (((M w0 0) + p3) - 1) M).bind fun q1 =>
  if 7 ≤ q1 then
    some 0
  else
    if p3 = 1 then
      if (bi (F_X8_isBribing w0 p1 M)) = 0 then
        J_X9_seenIn_j38 t w0 p1 p2 (((M w0 0) + p3) - 1) M
      else
        some 0
    else
      J_X9_seenIn_j38 t w0 p1 p2 (((M w0 0) + p3) - 1) M
def L_X9_lotsIn_5 (t : Nat) (w0 : Nat) (x2 : Int32) (M : Mem) : Nat → Int32 → Int32 → Option (Int32)
  | 0, _, _ => none
  | m9 + 1, x3, x4 =>
    if (M t 3) ≤ x4 then
      some x3
    else
      (F_X9_seenIn t w0 x4 (F_X11_at (w0 + 3) 7 x4 M) x2 M).bind fun q2 =>
      if q2 = 0 then
        L_X9_lotsIn_5 t w0 x2 M m9 x3 (x4 + 1)
      else
        L_X9_lotsIn_5 t w0 x2 M m9 (x3 ||| ((1 : Int32) <<< (x4 &&& 31))) (x4 + 1)
def F_X9_lotsIn (t : Nat) (w0 : Nat) (p1 : Int32) (M : Mem) : Option (Int32) :=
  (L_X9_lotsIn_5 t w0 p1 M FU 0 0).bind fun s5 =>
  some s5
def L_X9_seenAt_18 (t : Nat) (w0 : Nat) (x2 : Int32) (x3 : Int32) (x4 : Int32) (x5 : Int32) (M : Mem) : Nat → Int32 → Int32 → Option (Int32)
  | 0, _, _ => none
  | m9 + 1, x6, x7 =>
    if 6 ≤ x7 then
      some x6
    else
      (F_X9_watchAt t (((M w0 0) + x5) - 1) x7 M).bind fun q3 =>
      if q3 = x2 then
        L_X9_seenAt_18 t w0 x2 x3 x4 x5 M m9 (x6 ||| ((1 : Int32) <<< (x7 &&& 31))) (x7 + 1)
      else
        L_X9_seenAt_18 t w0 x2 x3 x4 x5 M m9 x6 (x7 + 1)
def L_X9_seenAt_62 (t : Nat) (w0 : Nat) (x2 : Int32) (x3 : Int32) (x5 : Int32) (x6 : Int32) (M : Mem) : Nat → Int32 → Int32 → Option (Int32)
  | 0, _, _ => none
  | m9 + 1, x4, x7 =>
    if (M t 3) ≤ x7 then
      some x4
    else
      (F_X9_seenIn t w0 x7 (F_X11_at (w0 + 3) 7 x7 M) x5 M).bind fun q8 =>
      L_X9_seenAt_62 t w0 x2 x3 x5 x6 M m9 (x4 + (F_J6_bitCount_0f7a4 (x6 &&& q8))) (x7 + 1)
def L_X9_seenAt_6 (t : Nat) (w0 : Nat) (x2 : Int32) (x3 : Int32) (M : Mem) : Nat → Int32 → Int32 → Option (Int32)
  | 0, _, _ => none
  | m9 + 1, x4, x5 =>
    if x3 < x5 then
      some x4
    else
      (L_X9_seenAt_18 t w0 x2 x3 x4 x5 M FU 0 0).bind fun s6 =>
      (L_X9_seenAt_62 t w0 x2 x3 x5 s6 M FU x4 0).bind fun s10 =>
      L_X9_seenAt_6 t w0 x2 x3 M m9 s10 (x5 + 1)
def F_X9_seenAt (t : Nat) (w0 : Nat) (p1 : Int32) (p2 : Int32) (M : Mem) : Option (Int32) :=
  (L_X9_seenAt_6 t w0 p1 p2 M FU 0 1).bind fun s12 =>
  some s12
def L_X10_of_7 (t : Nat) (a0 : Nat) (n0 : Nat) : Nat → Int32 → Mem → Option (Mem)
  | 0, _, _ => none
  | m9 + 1, x2, M =>
    if (M t 1) ≤ x2 then
      some M
    else
      if 700 ≤ x2 then
        some M
      else
        (ald M (t + 1) 700 x2).bind fun v3 =>
        if v3 < 0 then
          if v3 < (-8) then
            if v3 = (-11) then
              L_X10_of_7 t a0 n0 m9 (x2 + 1) (F_X10_push t (if ((F_X10_pop t M).1) = 0 then (1 : Int32) else (0 : Int32)) (F_X10_pop t M).2)
            else
              (F_X10_joined v3 ((F_X10_pop t (F_X10_pop t M).2).1) ((F_X10_pop t M).1)).bind fun q7 =>
              L_X10_of_7 t a0 n0 m9 (x2 + 1) (F_X10_push t q7 (F_X10_pop t (F_X10_pop t M).2).2)
          else
            L_X10_of_7 t a0 n0 m9 (x2 + 1) (F_X10_push t (F_X11_at a0 n0 ((-1) - v3) M) M)
        else
          L_X10_of_7 t a0 n0 m9 (x2 + 1) (F_X10_push t v3 M)
def J_X10_of_j114 (t : Nat) (a0 : Nat) (n0 : Nat) (M : Mem) : Option (Int32 × Mem) :=
  some ((F_X10_pop t M).1, (F_X10_pop t M).2)
def F_X10_of (t : Nat) (a0 : Nat) (n0 : Nat) (M : Mem) : Option (Int32 × Mem) :=
  (L_X10_of_7 t a0 n0 FU 0 (up M t 3 0)).bind fun s11 =>
  J_X10_of_j114 t a0 n0 s11
def L_X11_firstSeen_17 (t : Nat) (x1 : Int32) (x2 : Int32) (M : Mem) : Nat → Int32 → Option (Sum (Int32) (Unit))
  | 0, _ => none
  | m9 + 1, x3 =>
    if 40 < x3 then
      some (Sum.inr ())
    else
      (grd (M t 1)).bind fun w2 =>
      (F_X9_seenIn w2 ((t + 24) + 1) x1 x2 x3 M).bind fun q3 =>
      if q3 = 0 then
        L_X11_firstSeen_17 t x1 x2 M m9 (x3 + 1)
      else
        some (Sum.inl x3)
def F_X11_firstSeen (t : Nat) (p0 : Int32) (M : Mem) : Option (Int32) :=
  (L_X11_firstSeen_17 t p0 (F_X11_at (((t + 24) + 1) + 3) 7 p0 M) M FU 1).bind fun q5 => Sum.elim (fun v => some v) (fun s6 =>
  some (-1)) q5
def F_X11_drawEvent (t : Nat) (M : Mem) : Option (Mem) :=
  (F_X2_draw (t + 64) 4 M).bind fun q1 =>
  (grd (q1.2 t 1)).bind fun w2 =>
  if (q1.2 w2 3) = 0 then
    some q1.2
  else
    if q1.1 = 0 then
      (grd (q1.2 t 1)).bind fun w12 =>
      (F_X2_draw (t + 64) (q1.2 w12 3) q1.2).bind fun q13 =>
      some (F_X8_addCoins (t + 48) q13.1 20 q13.2)
    else
      if q1.1 = 1 then
        (grd (q1.2 t 1)).bind fun w6 =>
        (F_X2_draw (t + 64) (q1.2 w6 3) q1.2).bind fun q7 =>
        (grd (q7.2 t 1)).bind fun w8 =>
        (F_X2_draw (t + 64) (F_X11_at (w8 + 4) 7 q7.1 q7.2) q7.2).bind fun q9 =>
        (grd (q9.2 t 1)).bind fun w10 =>
        (F_X2_draw (t + 64) (q9.2 w10 0) q9.2).bind fun q11 =>
        some (F_X8_move (t + 48) q7.1 q9.1 q11.1 q11.2)
      else
        some q1.2
def F_X0_keepAct (t : Nat) (M : Mem) : Option (Mem) :=
  (F_X1_add (t + 5) (t + 1) M).bind fun q1 =>
  some q1
def F_X0_undoAct (t : Nat) (M : Mem) : Option (Bool × Mem) :=
  (F_X1_takeBack (t + 5) (t + 1) M).bind fun q1 =>
  some (q1.1, q1.2)
def F_X0_copy (t : Nat) (w0 : Nat) (M : Mem) : Option (Mem) :=
  (F_X8_copy (t + 1) (w0 + 1) M).bind fun q1 =>
  (F_X1_copy (t + 5) (w0 + 5) q1).bind fun q2 =>
  (F_X7_copy (t + 7) (w0 + 7) q2).bind fun q3 =>
  (F_X11_copyRow (w0 + 11) 3 (t + 11) 3 q3).bind fun q4 =>
  some q4
def L_X4_nightsOf_6 (w0 : Nat) (w1 : Nat) (x2 : Int32) (x3 : Int32) (M : Mem) : Nat → Int32 → Int32 → Option (Int32)
  | 0, _, _ => none
  | m9 + 1, x4, x5 =>
    if 12 < x5 then
      some x4
    else
      (F_X9_seenIn w0 w1 x2 x3 x5 M).bind fun q2 =>
      if q2 = 0 then
        L_X4_nightsOf_6 w0 w1 x2 x3 M m9 x4 (x5 + 1)
      else
        L_X4_nightsOf_6 w0 w1 x2 x3 M m9 (x4 ||| ((1 : Int32) <<< ((x5 - 1) &&& 31))) (x5 + 1)
def F_X4_nightsOf (w0 : Nat) (w1 : Nat) (p2 : Int32) (p3 : Int32) (M : Mem) : Option (Int32) :=
  (L_X4_nightsOf_6 w0 w1 p2 p3 M FU 0 1).bind fun s5 =>
  some s5
def L_X5_advance_8 (t : Nat) : Nat → Mem → Option (Mem)
  | 0, _ => none
  | m9 + 1, M =>
    if (M t 3) ≤ (M t 4) then
      some M
    else
      if (bi (F_X5_isBlank (F_X11_at (t + 1) 700 (M t 4) M))) = 0 then
        some M
      else
        L_X5_advance_8 t m9 (up M t 4 ((M t 4) + 1))
def L_X5_advance_98 (t : Nat) : Nat → Mem → Option (Mem)
  | 0, _ => none
  | m9 + 1, M =>
    if (M t 3) ≤ (M t 5) then
      some M
    else
      if (bi (F_X5_isLetter (F_X11_at (t + 1) 700 (M t 5) M))) = 0 then
        some M
      else
        L_X5_advance_98 t m9 (up M t 5 ((M t 5) + 1))
def J_X5_advance_j49 (t : Nat) (M : Mem) : Option (Mem) :=
  if ((up M t 5 (M t 4)) t 4) < ((up M t 5 (M t 4)) t 3) then
    if (bi (F_X5_isLetter (F_X11_at (t + 1) 700 ((up M t 5 (M t 4)) t 4) (up M t 5 (M t 4))))) = 0 then
      if (bi (F_X5_isDigit (F_X11_at (t + 1) 700 ((up M t 5 (M t 4)) t 4) (up M t 5 (M t 4))))) = 0 then
        some (up (up (up M t 5 (M t 4)) t 6 (if (bi (F_X5_isSign (F_X11_at (t + 1) 700 ((up M t 5 (M t 4)) t 4) (up M t 5 (M t 4))) (up M t 5 (M t 4)))) = 0 then (3 : Int32) else (F_X11_at (t + 1) 700 ((up M t 5 (M t 4)) t 4) (up M t 5 (M t 4))))) t 5 (((up (up M t 5 (M t 4)) t 6 (if (bi (F_X5_isSign (F_X11_at (t + 1) 700 ((up M t 5 (M t 4)) t 4) (up M t 5 (M t 4))) (up M t 5 (M t 4)))) = 0 then (3 : Int32) else (F_X11_at (t + 1) 700 ((up M t 5 (M t 4)) t 4) (up M t 5 (M t 4))))) t 5) + 1))
      else
        (F_X5_readDigits t (up (up M t 5 (M t 4)) t 6 2)).bind fun q10 =>
        some q10
    else
      (L_X5_advance_98 t FU (up (up M t 5 (M t 4)) t 6 1)).bind fun s14 =>
      some s14
  else
    some (up (up M t 5 (M t 4)) t 6 0)
def F_X5_advance (t : Nat) (M : Mem) : Option (Mem) :=
  (L_X5_advance_8 t FU (up M t 4 (M t 5))).bind fun s4 =>
  J_X5_advance_j49 t s4
def F_X5_once (t : Nat) (p0 : Int32) (M : Mem) : Option (Bool × Mem) :=
  if ((M t 9) &&& p0) = 0 then
    (F_X5_advance t (up M t 9 ((M t 9) ||| p0))).bind fun q2 =>
    some (true, q2)
  else
    some ((F_X5_refuse t 5 M).1, (F_X5_refuse t 5 M).2)
def F_X5_sign (t : Nat) (p0 : Int32) (M : Mem) : Option (Bool × Mem) :=
  if (M t 6) = p0 then
    (F_X5_advance t M).bind fun q2 =>
    some (true, q2)
  else
    some ((F_X5_refuse t 1 M).1, (F_X5_refuse t 1 M).2)
def J_X5_readRow_j48 (t : Nat) (rec : Int32 → Mem → Option (Sum (Int32 × Mem) (Mem))) (x1 : Int32) (x2 : Int32) (x3 : Int32) (M : Mem) : Option (Sum (Int32 × Mem) (Mem)) :=
  (F_X5_advance t (F_X11_put (t + 12) 8 x3 (M t 7) M)).bind fun q4 =>
  if (q4 t 6) = 2 then
    if (x3 + 1) ≤ x1 then
      rec (x3 + 1) q4
    else
      some (Sum.inl (x3 + 1, q4))
  else
    some (Sum.inl (x3 + 1, q4))
def J_X5_readRow_j22 (t : Nat) (rec : Int32 → Mem → Option (Sum (Int32 × Mem) (Mem))) (x1 : Int32) (x2 : Int32) (x3 : Int32) (M : Mem) : Option (Sum (Int32 × Mem) (Mem)) :=
  if x2 = 0 then
    if (bi ((F_X5_number t 0 9 M).1)) = 0 then
      some (Sum.inl ((-1), (F_X5_number t 0 9 M).2))
    else
      J_X5_readRow_j48 t (rec) x1 x2 x3 ((F_X5_number t 0 9 M).2)
  else
    (F_X5_street t M).bind fun q7 =>
    if (bi q7.1) = 0 then
      some (Sum.inl ((-1), q7.2))
    else
      J_X5_readRow_j48 t (rec) x1 x2 x3 q7.2
def L_X5_readRow_2 (t : Nat) (x1 : Int32) (x2 : Int32) : Nat → Int32 → Mem → Option (Sum (Int32 × Mem) (Mem))
  | 0, _, _ => none
  | m9 + 1, x3, M =>
    if x3 < x1 then
      J_X5_readRow_j22 t (L_X5_readRow_2 t x1 x2 m9) x1 x2 x3 M
    else
      if (M t 6) = 2 then
        some (Sum.inr M)
      else
        J_X5_readRow_j22 t (L_X5_readRow_2 t x1 x2 m9) x1 x2 x3 M
def F_X5_readRow (t : Nat) (p0 : Int32) (p1 : Int32) (M : Mem) : Option (Int32 × Mem) :=
  (L_X5_readRow_2 t p0 p1 FU 0 M).bind fun q10 => Sum.elim (fun v => some v) (fun s11 =>
  some ((-1), (up s11 t 8 2))) q10
def F_X5_streetsLine (t : Nat) (M : Mem) : Option (Bool × Mem) :=
  if (M t 10) = 0 then
    (F_X5_once t 1 M).bind fun q2 =>
    if (bi q2.1) = 0 then
      some (false, q2.2)
    else
      if (bi ((F_X5_number t 2 8 q2.2).1)) = 0 then
        some (false, (F_X5_number t 2 8 q2.2).2)
      else
        (grd ((F_X5_number t 2 8 q2.2).2 t 2)).bind fun w5 =>
        (F_X5_advance t (up (F_X5_number t 2 8 q2.2).2 w5 0 ((F_X5_number t 2 8 q2.2).2 t 7))).bind fun q6 =>
        (F_X5_sign t 59 q6).bind fun q7 =>
        some (q7.1, q7.2)
  else
    some ((F_X5_refuse t 4 M).1, (F_X5_refuse t 4 M).2)
def J_X5_pathLine_j78 (t : Nat) (M : Mem) : Option (Bool × Mem) :=
  some ((F_X5_refuse t 4 M).1, (F_X5_refuse t 4 M).2)
def F_X5_pathLine (t : Nat) (M : Mem) : Option (Bool × Mem) :=
  (grd (M t 2)).bind fun w1 =>
  if (M w1 1) < 14 then
    (F_X5_advance t M).bind fun q3 =>
    (F_X5_street t q3).bind fun q4 =>
    if (bi q4.1) = 0 then
      some (false, q4.2)
    else
      (F_X5_advance t q4.2).bind fun q6 =>
      (F_X5_street t q6).bind fun q7 =>
      if (bi q7.1) = 0 then
        some (false, q7.2)
      else
        if (q7.2 t 7) = (q4.2 t 7) then
          J_X5_pathLine_j78 t q7.2
        else
          (grd (q7.2 t 2)).bind fun w10 =>
          if (((F_X11_at (w10 + 1) 8 (q4.2 t 7) q7.2) >>> ((q7.2 t 7) &&& 31)) &&& 1) = 0 then
            (grd (q7.2 t 2)).bind fun w12 =>
            (F_X5_advance t (F_X9_join w12 (q4.2 t 7) (q7.2 t 7) q7.2)).bind fun q13 =>
            (F_X5_sign t 59 q13).bind fun q14 =>
            some (q14.1, q14.2)
          else
            J_X5_pathLine_j78 t q7.2
  else
    some ((F_X5_refuse t 2 M).1, (F_X5_refuse t 2 M).2)
def F_X5_roundLine (t : Nat) (M : Mem) : Option (Bool × Mem) :=
  (F_X5_once t 2 M).bind fun q1 =>
  if (bi q1.1) = 0 then
    some (false, q1.2)
  else
    (F_X5_readRow t 8 1 q1.2).bind fun q3 =>
    if q3.1 = (-1) then
      some (false, q3.2)
    else
      (grd (q3.2 t 2)).bind fun w5 =>
      (grd ((up q3.2 w5 2 q3.1) t 2)).bind fun w6 =>
      (F_X11_copyRow (t + 12) 8 (w6 + 2) 8 (up q3.2 w5 2 q3.1)).bind fun q7 =>
      (F_X5_sign t 59 q7).bind fun q8 =>
      some (q8.1, q8.2)
def F_X5_personLine (t : Nat) (p0 : Int32) (M : Mem) : Option (Bool × Mem) :=
  (grd (M t 2)).bind fun w1 =>
  if (M w1 3) < 7 then
    (F_X5_advance t M).bind fun q3 =>
    if (bi ((F_X5_number t 0 999 q3).1)) = 0 then
      some (false, (F_X5_number t 0 999 q3).2)
    else
      (F_X5_advance t (F_X5_number t 0 999 q3).2).bind fun q5 =>
      (F_X5_readRow t 6 1 q5).bind fun q6 =>
      if q6.1 = (-1) then
        some (false, q6.2)
      else
        (grd (q6.2 t 2)).bind fun w8 =>
        (F_X9_addPerson w8 ((F_X5_number t 0 999 q3).2 t 7) p0 (t + 12) 8 q6.1 q6.2).bind fun q9 =>
        (F_X5_sign t 59 q9).bind fun q10 =>
        some (q10.1, q10.2)
  else
    some ((F_X5_refuse t 2 M).1, (F_X5_refuse t 2 M).2)
def F_X5_fogLine (t : Nat) (M : Mem) : Option (Bool × Mem) :=
  (F_X5_once t 4 M).bind fun q1 =>
  if (bi q1.1) = 0 then
    some (false, q1.2)
  else
    (F_X5_readRow t 8 0 q1.2).bind fun q3 =>
    if q3.1 = (-1) then
      some (false, q3.2)
    else
      (grd (q3.2 t 2)).bind fun w5 =>
      (grd ((up q3.2 w5 5 q3.1) t 2)).bind fun w6 =>
      (F_X11_copyRow (t + 12) 8 (w6 + 6) 8 (up q3.2 w5 5 q3.1)).bind fun q7 =>
      (F_X5_sign t 59 q7).bind fun q8 =>
      some (q8.1, q8.2)
def F_X5_reserveLine (t : Nat) (M : Mem) : Option (Bool × Mem) :=
  (F_X5_once t 8 M).bind fun q1 =>
  if (bi q1.1) = 0 then
    some (false, q1.2)
  else
    if (bi ((F_X5_number t 0 99 q1.2).1)) = 0 then
      some (false, (F_X5_number t 0 99 q1.2).2)
    else
      (grd ((F_X5_number t 0 99 q1.2).2 t 2)).bind fun w4 =>
      (F_X5_advance t (up (F_X5_number t 0 99 q1.2).2 w4 6 ((F_X5_number t 0 99 q1.2).2 t 7))).bind fun q5 =>
      (F_X5_sign t 59 q5).bind fun q6 =>
      some (q6.1, q6.2)
def J_X6_open_j79 (t : Nat) (w0 : Nat) (w1 : Nat) (rec : Int32 → Mem → Option (Mem)) (x3 : Int32) (x4 : Int32) (y0 : Int32) (M : Mem) : Option (Mem) :=
  rec (x4 + 1) (up (F_X11_put (t + 4) 7 x4 (-1) (F_X11_put (t + 3) 7 x4 (-1) (F_X11_put (t + 1) 7 x4 y0 M))) t 4 (((F_X11_put (t + 4) 7 x4 (-1) (F_X11_put (t + 3) 7 x4 (-1) (F_X11_put (t + 1) 7 x4 y0 M))) t 4) + (if y0 = 0 then (0 : Int32) else (1 : Int32))))
def J_X6_open_j49 (t : Nat) (w0 : Nat) (w1 : Nat) (rec : Int32 → Mem → Option (Mem)) (x3 : Int32) (x4 : Int32) (y0 : Int32) (M : Mem) : Option (Mem) :=
  if y0 = 0 then
    (F_X9_hoursMet w0 x4 (F_X11_at (w1 + 3) 7 x4 M) (M w1 0) M).bind fun q4 =>
    J_X6_open_j79 t w0 w1 (rec) x3 x4 q4 M
  else
    J_X6_open_j79 t w0 w1 (rec) x3 x4 0 M
def J_X6_open_j44 (t : Nat) (w0 : Nat) (w1 : Nat) (rec : Int32 → Mem → Option (Mem)) (x3 : Int32) (x4 : Int32) (M : Mem) : Option (Mem) :=
  J_X6_open_j49 t w0 w1 (rec) x3 x4 1 M
def L_X6_open_13 (t : Nat) (w0 : Nat) (w1 : Nat) (x3 : Int32) : Nat → Int32 → Mem → Option (Mem)
  | 0, _, _ => none
  | m9 + 1, x4, M =>
    if 7 ≤ x4 then
      some M
    else
      if (M w0 3) ≤ x4 then
        J_X6_open_j44 t w0 w1 (L_X6_open_13 t w0 w1 x3 m9) x3 x4 M
      else
        if 7 ≤ x3 then
          J_X6_open_j44 t w0 w1 (L_X6_open_13 t w0 w1 x3 m9) x3 x4 M
        else
          if (bi (F_X8_isBribing w1 x4 M)) = 0 then
            J_X6_open_j49 t w0 w1 (L_X6_open_13 t w0 w1 x3 m9) x3 x4 0 M
          else
            J_X6_open_j44 t w0 w1 (L_X6_open_13 t w0 w1 x3 m9) x3 x4 M
def F_X6_open (t : Nat) (w0 : Nat) (w1 : Nat) (p2 : Int32) (M : Mem) : Option (Mem) :=
  (L_X6_open_13 t w0 w1 p2 FU 0 (up (up M t 4 0) t 5 0)).bind fun s10 =>
  some s10
def J_X6_bid_j30 (t : Nat) (w0 : Nat) (w1 : Nat) (x3 : Int32) (x4 : Int32) (x5 : Int32) (M : Mem) : Option (Int32 × Mem) :=
  if (bi (F_X10_isTold (w0 + 7) M)) = 0 then
    some ((imax 0 (imin (F_X6_plainWorth t w1 x3 x4 M) x5)), M)
  else
    (F_X6_putValues t w0 w1 x3 x4 M).bind fun q3 =>
    (F_X10_of (w0 + 7) (t + 2) 8 q3).bind fun q4 =>
    some ((imax 0 (imin q4.1 x5)), q4.2)
def F_X6_bid (t : Nat) (w0 : Nat) (w1 : Nat) (p2 : Int32) (p3 : Int32) (M : Mem) : Option (Int32 × Mem) :=
  if p2 = p3 then
    if (((M w0 4) >>> (p2 &&& 31)) &&& 1) = 0 then
      J_X6_bid_j30 t w0 w1 p2 p3 (F_X11_at (w1 + 1) 7 p2 M) M
    else
      some ((F_X11_at (w1 + 1) 7 p2 M), M)
  else
    J_X6_bid_j30 t w0 w1 p2 p3 (F_X11_at (w1 + 1) 7 p2 M) M
def L_X6_sell_21 (t : Nat) (w0 : Nat) (w1 : Nat) (x3 : Int32) : Nat → Int32 → Int32 → Int32 → Int32 → Mem → Option (Int32 × Int32 × Int32 × Mem)
  | 0, _, _, _, _, _ => none
  | m9 + 1, x4, x5, x6, x7, M =>
    if (M w0 3) ≤ x7 then
      some (x4, x5, x6, M)
    else
      (F_X6_bid t w0 w1 x7 x3 M).bind fun q3 =>
      if q3.1 ≤ x5 then
        if q3.1 ≤ x6 then
          L_X6_sell_21 t w0 w1 x3 m9 x4 x5 x6 (x7 + 1) q3.2
        else
          L_X6_sell_21 t w0 w1 x3 m9 x4 x5 q3.1 (x7 + 1) q3.2
      else
        L_X6_sell_21 t w0 w1 x3 m9 x7 q3.1 x5 (x7 + 1) q3.2
def J_X6_sell_j95 (t : Nat) (w0 : Nat) (w1 : Nat) (M : Mem) : Option (Mem) :=
  some (up M w1 1 ((M w1 1) + 1))
def F_X6_sell (t : Nat) (w0 : Nat) (w1 : Nat) (p2 : Int32) (M : Mem) : Option (Mem) :=
  if (bi (F_X6_hasLot t p2 M)) = 0 then
    some M
  else
    (L_X6_sell_21 t w0 w1 p2 FU (-1) 0 0 0 M).bind fun s7 =>
    if s7.1 = (-1) then
      J_X6_sell_j95 t w0 w1 s7.2.2.2
    else
      if (s7.2.2.2 w1 3) ≤ s7.2.1 then
        some (F_X6_handOver t w1 p2 s7.1 (imax s7.2.2.1 (s7.2.2.2 w1 3)) s7.2.2.2)
      else
        J_X6_sell_j95 t w0 w1 s7.2.2.2
def L_X6_pass_10 (t : Nat) (w0 : Nat) (w1 : Nat) : Nat → Int32 → Mem → Option (Mem)
  | 0, _, _ => none
  | m9 + 1, x4, M =>
    if (M w0 3) ≤ x4 then
      some M
    else
      (F_X6_sell t w0 w1 x4 M).bind fun q3 =>
      L_X6_pass_10 t w0 w1 m9 (x4 + 1) q3
def F_X6_pass (t : Nat) (w0 : Nat) (w1 : Nat) (p2 : Int32) (M : Mem) : Option (Mem) :=
  (F_X6_open t w0 w1 p2 M).bind fun q1 =>
  (L_X6_pass_10 t w0 w1 FU 0 q1).bind fun s5 =>
  some (up (up s5 w1 2 0) w1 0 (((up s5 w1 2 0) w1 0) + 1))
def J_X11_nights_j29 (t : Nat) (M : Mem) : Option (Int32 × Mem) :=
  some ((F_X0_refuse (t + 24) 1 M).1, (F_X0_refuse (t + 24) 1 M).2)
def L_X11_nights_47 (t : Nat) (x1 : Int32) : Nat → Int32 → Mem → Option (Mem)
  | 0, _, _ => none
  | m9 + 1, x2, M =>
    if x1 ≤ x2 then
      some M
    else
      (grd (M t 1)).bind fun w6 =>
      (grd (M t 1)).bind fun w7 =>
      (F_X9_fogOf w7 (M ((t + 24) + 1) 0) M).bind fun q8 =>
      (F_X6_pass (t + 52) w6 ((t + 24) + 1) q8 M).bind fun q9 =>
      L_X11_nights_47 t x1 m9 (x2 + 1) q9
def F_X11_nights (t : Nat) (p0 : Int32) (M : Mem) : Option (Int32 × Mem) :=
  if p0 < 1 then
    J_X11_nights_j29 t M
  else
    if 20 < p0 then
      J_X11_nights_j29 t M
    else
      if ((M ((t + 24) + 1) 0) + p0) ≤ 999 then
        (F_X0_keepAct (t + 24) M).bind fun q4 =>
        (L_X11_nights_47 t p0 FU 0 q4).bind fun s11 =>
        some ((s11 ((t + 24) + 1) 0), s11)
      else
        J_X11_nights_j29 t M
def J_X11_reserve_j10 (t : Nat) (M : Mem) : Option (Int32 × Mem) :=
  some ((F_X0_refuse (t + 24) 1 M).1, (F_X0_refuse (t + 24) 1 M).2)
def F_X11_reserve (t : Nat) (p0 : Int32) (M : Mem) : Option (Int32 × Mem) :=
  if p0 < 0 then
    J_X11_reserve_j10 t M
  else
    if p0 ≤ 99 then
      (F_X0_keepAct (t + 24) M).bind fun q3 =>
      some ((q3 ((t + 24) + 1) 3), (up q3 ((t + 24) + 1) 3 p0))
    else
      J_X11_reserve_j10 t M
def F_X11_undo (t : Nat) (M : Mem) : Option (Int32 × Mem) :=
  (F_X0_undoAct (t + 24) M).bind fun q1 =>
  some ((if (bi q1.1) = 0 then (-1 : Int32) else (q1.2 ((t + 24) + 5) 1)), q1.2)
def L_X11_secret_4 (t : Nat) (M : Mem) : Nat → Int32 → Int32 → Option (Int32)
  | 0, _, _ => none
  | m9 + 1, x1, x2 =>
    (grd (M t 1)).bind fun w1 =>
    if (M w1 3) ≤ x2 then
      some x1
    else
      (F_X11_firstSeen t x2 M).bind fun q3 =>
      if q3 = (-1) then
        L_X11_secret_4 t M m9 (x1 ||| ((1 : Int32) <<< (x2 &&& 31))) (x2 + 1)
      else
        L_X11_secret_4 t M m9 x1 (x2 + 1)
def F_X11_secret (t : Nat) (M : Mem) : Option (Int32) :=
  (L_X11_secret_4 t M FU 0 0).bind fun s6 =>
  some s6
def F_X11_image (t : Nat) (M : Mem) : Option (Mem) :=
  (F_X0_copy (t + 36) (t + 24) M).bind fun q1 =>
  some (up q1 t 5 (bi true))
def F_X11_restore (t : Nat) (M : Mem) : Option (Bool × Mem) :=
  if (M t 5) = 0 then
    (bgd (M t 5)).bind fun b2 => some (b2, M)
  else
    (F_X0_copy (t + 24) (t + 36) M).bind fun q3 =>
    (bgd (q3 t 5)).bind fun b4 => some (b4, q3)
def L_X11_goAhead_16 (t : Nat) (x1 : Int32) : Nat → Int32 → Mem → Option (Mem)
  | 0, _, _ => none
  | m9 + 1, x2, M =>
    if x1 ≤ x2 then
      some M
    else
      (grd (M t 1)).bind fun w3 =>
      (grd (M t 1)).bind fun w4 =>
      (F_X9_fogOf w4 (M (t + 48) 0) M).bind fun q5 =>
      (F_X6_pass (t + 52) w3 (t + 48) q5 M).bind fun q6 =>
      L_X11_goAhead_16 t x1 m9 (x2 + 1) q6
def F_X11_goAhead (t : Nat) (p0 : Int32) (M : Mem) : Option (Mem) :=
  (F_X8_copy (t + 48) ((t + 24) + 1) M).bind fun q1 =>
  (L_X11_goAhead_16 t p0 FU 0 q1).bind fun s8 =>
  some s8
def L_X11_wouldBuy_58 (t : Nat) (x1 : Int32) (x2 : Int32) : Nat → Int32 → Mem → Option (Mem)
  | 0, _, _ => none
  | m9 + 1, x4, M =>
    if x2 < x4 then
      some M
    else
      (grd (M t 1)).bind fun w7 =>
      (F_X6_sell (t + 52) w7 (t + 48) x4 M).bind fun q8 =>
      L_X11_wouldBuy_58 t x1 x2 m9 (x4 + 1) q8
def F_X11_wouldBuy (t : Nat) (p0 : Int32) (p1 : Int32) (p2 : Int32) (M : Mem) : Option (Bool × Mem) :=
  (F_X8_copy (t + 48) ((t + 24) + 1) M).bind fun q1 =>
  (grd ((F_X11_put ((t + 48) + 1) 7 p0 p2 q1) t 1)).bind fun w2 =>
  (grd ((F_X11_put ((t + 48) + 1) 7 p0 p2 q1) t 1)).bind fun w3 =>
  (F_X9_fogOf w3 ((F_X11_put ((t + 48) + 1) 7 p0 p2 q1) (t + 48) 0) (F_X11_put ((t + 48) + 1) 7 p0 p2 q1)).bind fun q4 =>
  (F_X6_open (t + 52) w2 (t + 48) q4 (F_X11_put ((t + 48) + 1) 7 p0 p2 q1)).bind fun q5 =>
  (L_X11_wouldBuy_58 t p0 p1 FU 0 q5).bind fun s10 =>
  if (F_X11_at ((t + 52) + 3) 7 p1 s10) = p0 then
    some (true, s10)
  else
    some (false, s10)
def J_X11_playCouples_j61 (t : Nat) (rec : Int32 → Mem → Option (Mem)) (x1 : Int32) (x2 : Int32) (x3 : Int32) (x4 : Int32) (x5 : Int32) (x6 : Int32) (M : Mem) : Option (Mem) :=
  (grd (M t 1)).bind fun w6 =>
  (grd (M t 1)).bind fun w7 =>
  (F_X9_fogOf w7 (M (t + 48) 0) M).bind fun q8 =>
  (F_X6_pass (t + 52) w6 (t + 48) q8 M).bind fun q9 =>
  rec (x6 + 1) (F_X11_put (t + 66) 4 ((2 * x5) + x6) ((5 * x6) + (F_X11_lossOf t x2 (F_X11_put (t + 65) 4 ((2 * x5) + x6) ((5 * x5) + (F_X11_lossOf t x1 q9)) q9))) (F_X11_put (t + 65) 4 ((2 * x5) + x6) ((5 * x5) + (F_X11_lossOf t x1 q9)) q9))
def J_X11_playCouples_j47 (t : Nat) (rec : Int32 → Mem → Option (Mem)) (x1 : Int32) (x2 : Int32) (x3 : Int32) (x4 : Int32) (x5 : Int32) (x6 : Int32) (M : Mem) : Option (Mem) :=
  if x6 = 1 then
    J_X11_playCouples_j61 t (rec) x1 x2 x3 x4 x5 x6 (F_X8_startBribing (t + 48) x2 M)
  else
    J_X11_playCouples_j61 t (rec) x1 x2 x3 x4 x5 x6 M
def L_X11_playCouples_12 (t : Nat) (x1 : Int32) (x2 : Int32) (x3 : Int32) (x4 : Int32) (x5 : Int32) : Nat → Int32 → Mem → Option (Mem)
  | 0, _, _ => none
  | m9 + 1, x6, M =>
    if x4 ≤ x6 then
      some M
    else
      (F_X8_copy (t + 48) ((t + 24) + 1) M).bind fun q3 =>
      if x5 = 1 then
        J_X11_playCouples_j47 t (L_X11_playCouples_12 t x1 x2 x3 x4 x5 m9) x1 x2 x3 x4 x5 x6 (F_X8_startBribing (t + 48) x1 q3)
      else
        J_X11_playCouples_j47 t (L_X11_playCouples_12 t x1 x2 x3 x4 x5 m9) x1 x2 x3 x4 x5 x6 q3
def L_X11_playCouples_3 (t : Nat) (x1 : Int32) (x2 : Int32) (x3 : Int32) (x4 : Int32) : Nat → Int32 → Mem → Option (Mem)
  | 0, _, _ => none
  | m9 + 1, x5, M =>
    if x3 ≤ x5 then
      some M
    else
      (L_X11_playCouples_12 t x1 x2 x3 x4 x5 FU 0 M).bind fun s11 =>
      L_X11_playCouples_3 t x1 x2 x3 x4 m9 (x5 + 1) s11
def F_X11_playCouples (t : Nat) (p0 : Int32) (p1 : Int32) (p2 : Int32) (p3 : Int32) (M : Mem) : Option (Mem) :=
  (L_X11_playCouples_3 t p0 p1 p2 p3 FU 0 M).bind fun s13 =>
  some s13
def J_X3_giveOut_j76 (t : Nat) (w0 : Nat) (w1 : Nat) (w2 : Nat) (rec : Int32 → Mem → Option (Mem)) (x4 : Int32) (x5 : Int32) (y1 : Int32) (y2 : Int32) (M : Mem) : Option (Mem) :=
  rec (x5 + 1) (F_X11_put (t + 1) 49 y1 y2 M)
def J_X3_giveOut_j43 (t : Nat) (w0 : Nat) (w1 : Nat) (w2 : Nat) (rec : Int32 → Mem → Option (Mem)) (x4 : Int32) (x5 : Int32) (y0 : Int32) (M : Mem) : Option (Mem) :=
  if y0 = 0 then
    J_X3_giveOut_j76 t w0 w1 w2 (rec) x4 x5 ((x4 * 7) + x5) 0 M
  else
    (F_X6_bid w2 w0 w1 x5 x4 M).bind fun q5 =>
    J_X3_giveOut_j76 t w0 w1 w2 (rec) x4 x5 ((x4 * 7) + x5) q5.1 q5.2
def J_X3_giveOut_j42 (t : Nat) (w0 : Nat) (w1 : Nat) (w2 : Nat) (rec : Int32 → Mem → Option (Mem)) (x4 : Int32) (x5 : Int32) (M : Mem) : Option (Mem) :=
  J_X3_giveOut_j43 t w0 w1 w2 (rec) x4 x5 0 M
def L_X3_giveOut_13 (t : Nat) (w0 : Nat) (w1 : Nat) (w2 : Nat) (x4 : Int32) : Nat → Int32 → Mem → Option (Mem)
  | 0, _, _ => none
  | m9 + 1, x5, M =>
    if 7 ≤ x5 then
      some M
    else
      if (M w0 3) ≤ x5 then
        J_X3_giveOut_j42 t w0 w1 w2 (L_X3_giveOut_13 t w0 w1 w2 x4 m9) x4 x5 M
      else
        if (bi (F_X6_hasLot w2 x4 M)) = 0 then
          J_X3_giveOut_j42 t w0 w1 w2 (L_X3_giveOut_13 t w0 w1 w2 x4 m9) x4 x5 M
        else
          J_X3_giveOut_j43 t w0 w1 w2 (L_X3_giveOut_13 t w0 w1 w2 x4 m9) x4 x5 1 M
def L_X3_giveOut_3 (t : Nat) (w0 : Nat) (w1 : Nat) (w2 : Nat) : Nat → Int32 → Mem → Option (Mem)
  | 0, _, _ => none
  | m9 + 1, x4, M =>
    if 7 ≤ x4 then
      some M
    else
      (L_X3_giveOut_13 t w0 w1 w2 x4 FU 0 M).bind fun s8 =>
      L_X3_giveOut_3 t w0 w1 w2 m9 (x4 + 1) s8
def L_X3_giveOut_103 (t : Nat) (w0 : Nat) (w1 : Nat) (w2 : Nat) (x4 : Int32) : Nat → Int32 → Mem → Option (Mem)
  | 0, _, _ => none
  | m9 + 1, x5, M =>
    if 128 ≤ x5 then
      some M
    else
      (F_X3_bestFrom t x4 x5 M).bind fun q13 =>
      L_X3_giveOut_103 t w0 w1 w2 x4 m9 (x5 + 1) (F_X11_put (t + 2) 1024 ((x4 * 128) + x5) q13 M)
def L_X3_giveOut_95 (t : Nat) (w0 : Nat) (w1 : Nat) (w2 : Nat) : Nat → Int32 → Mem → Option (Mem)
  | 0, _, _ => none
  | m9 + 1, x4, M =>
    if x4 < 0 then
      some M
    else
      (L_X3_giveOut_103 t w0 w1 w2 x4 FU 0 M).bind fun s15 =>
      L_X3_giveOut_95 t w0 w1 w2 m9 (x4 + (-1)) s15
def F_X3_giveOut (t : Nat) (w0 : Nat) (w1 : Nat) (w2 : Nat) (M : Mem) : Option (Mem) :=
  (L_X3_giveOut_3 t w0 w1 w2 FU 0 M).bind fun s10 =>
  (L_X3_giveOut_95 t w0 w1 w2 FU 6 s10).bind fun s17 =>
  (F_X3_chooseFirstRow t s17).bind fun q18 =>
  some q18
def L_X4_tryWalksOf_43 (t : Nat) (w1 : Nat) (w2 : Nat) (w3 : Nat) (x1 : Int32) (x5 : Int32) (x6 : Int32) (x7 : Int32) (x8 : Int32) : Nat → Int32 → Mem → Option (Mem)
  | 0, _, _ => none
  | m9 + 1, x9, M =>
    if (M w1 0) ≤ x9 then
      some M
    else
      if x9 = (F_X11_streetIn x5 x8) then
        L_X4_tryWalksOf_43 t w1 w2 w3 x1 x5 x6 x7 x8 m9 (x9 + 1) M
      else
        (F_X4_nightsOf w1 w2 x1 (F_X11_walkWith x5 x8 x9) M).bind fun q4 =>
        (F_X7_holds w3 (t + 1) 7 (F_X11_put (t + 1) 7 x1 q4 M)).bind fun q5 =>
        if (bi q5) = 0 then
          L_X4_tryWalksOf_43 t w1 w2 w3 x1 x5 x6 x7 x8 m9 (x9 + 1) (F_X11_put (t + 1) 7 x1 q4 M)
        else
          (F_X4_note t (((100 * x1) + (10 * x8)) + x9) ((F_X11_put (t + 1) 7 x1 q4 M) w1 3) (F_X11_put (t + 1) 7 x1 q4 M)).bind fun q7 =>
          L_X4_tryWalksOf_43 t w1 w2 w3 x1 x5 x6 x7 x8 m9 (x9 + 1) q7
def L_X4_tryWalksOf_33 (t : Nat) (w1 : Nat) (w2 : Nat) (w3 : Nat) (x1 : Int32) (x5 : Int32) (x6 : Int32) (x7 : Int32) : Nat → Int32 → Mem → Option (Mem)
  | 0, _, _ => none
  | m9 + 1, x8, M =>
    if x7 ≤ x8 then
      some M
    else
      (L_X4_tryWalksOf_43 t w1 w2 w3 x1 x5 x6 x7 x8 FU 0 M).bind fun s9 =>
      L_X4_tryWalksOf_33 t w1 w2 w3 x1 x5 x6 x7 m9 (x8 + 1) s9
def F_X4_tryWalksOf (t : Nat) (p0 : Int32) (w1 : Nat) (w2 : Nat) (w3 : Nat) (M : Mem) : Option (Mem) :=
  (L_X4_tryWalksOf_33 t w1 w2 w3 p0 (F_X11_at (w2 + 3) 7 p0 M) (F_X11_at (t + 1) 7 p0 M) (F_X11_at (w1 + 4) 7 p0 M) FU 0 M).bind fun s11 =>
  some (F_X11_put (t + 1) 7 p0 (F_X11_at (t + 1) 7 p0 M) s11)
def L_X4_scan_13 (t : Nat) (w0 : Nat) (w1 : Nat) (w2 : Nat) : Nat → Int32 → Mem → Option (Mem)
  | 0, _, _ => none
  | m9 + 1, x4, M =>
    if 48 ≤ x4 then
      some M
    else
      (ast M (t + 2) 48 x4 0).bind fun M2 =>
      L_X4_scan_13 t w0 w1 w2 m9 (x4 + 1) M2
def L_X4_scan_40 (t : Nat) (w0 : Nat) (w1 : Nat) (w2 : Nat) : Nat → Int32 → Mem → Option (Mem)
  | 0, _, _ => none
  | m9 + 1, x4, M =>
    if (M w0 3) ≤ x4 then
      some M
    else
      (F_X4_nightsOf w0 w1 x4 (F_X11_at (w1 + 3) 7 x4 M) M).bind fun q6 =>
      L_X4_scan_40 t w0 w1 w2 m9 (x4 + 1) (F_X11_put (t + 1) 7 x4 q6 M)
def L_X4_scan_95 (t : Nat) (w0 : Nat) (w1 : Nat) (w2 : Nat) : Nat → Int32 → Mem → Option (Mem)
  | 0, _, _ => none
  | m9 + 1, x4, M =>
    if (M w0 3) ≤ x4 then
      some M
    else
      (F_X4_tryWalksOf t x4 w0 w1 w2 M).bind fun q11 =>
      L_X4_scan_95 t w0 w1 w2 m9 (x4 + 1) q11
def F_X4_scan (t : Nat) (w0 : Nat) (w1 : Nat) (w2 : Nat) (M : Mem) : Option (Mem) :=
  (L_X4_scan_13 t w0 w1 w2 FU 0 (up (up M t 2 0) t 3 (-1))).bind fun s4 =>
  (L_X4_scan_40 t w0 w1 w2 FU 0 s4).bind fun s8 =>
  (F_X7_holds w2 (t + 1) 7 s8).bind fun q9 =>
  (L_X4_scan_95 t w0 w1 w2 FU 0 (up s8 t 4 (bi q9))).bind fun s13 =>
  some s13
def J_X5_part_j103 (ex : (Nat → Int32 → Mem → Option (Bool × Mem))) (t : Nat) (M : Mem) : Option (Bool × Mem) :=
  (F_X5_advance t M).bind fun q5 =>
  some (true, q5)
def F_X5_part (ex : (Nat → Int32 → Mem → Option (Bool × Mem))) (t : Nat) (p0 : Int32) (M : Mem) : Option (Bool × Mem) :=
  if (M t 6) = 40 then
    (F_X5_advance t M).bind fun q9 =>
    (ex t (p0 + 1) q9).bind fun q10 =>
    if (bi q10.1) = 0 then
      some (false, q10.2)
    else
      (F_X5_sign t 41 q10.2).bind fun q12 =>
      if (bi q12.1) = 0 then
        some (false, q12.2)
      else
        some (true, q12.2)
  else
    if (M t 6) = 1 then
      (F_X5_valueHere t M).bind fun q6 =>
      if q6 = (-1) then
        some ((F_X5_refuse t 3 M).1, (F_X5_refuse t 3 M).2)
      else
        (grd (M t 2)).bind fun w8 =>
        J_X5_part_j103 ex t (F_X10_addValue (w8 + 7) q6 M)
    else
      if (bi ((F_X5_number t 0 9999 M).1)) = 0 then
        some (false, (F_X5_number t 0 9999 M).2)
      else
        (grd ((F_X5_number t 0 9999 M).2 t 2)).bind fun w4 =>
        J_X5_part_j103 ex t (F_X10_add (w4 + 7) ((F_X5_number t 0 9999 M).2 t 7) (F_X5_number t 0 9999 M).2)
def J_X5_product_j37 (ex : (Nat → Int32 → Mem → Option (Bool × Mem))) (t : Nat) (rec : Int32 → Mem → Option (Sum (Bool × Mem) (Mem))) (x1 : Int32) (x2 : Int32) (M : Mem) : Option (Sum (Bool × Mem) (Mem)) :=
  (F_X5_advance t M).bind fun q7 =>
  (F_X5_part ex t x1 q7).bind fun q8 =>
  if (bi q8.1) = 0 then
    some (Sum.inl (false, q8.2))
  else
    (grd (q8.2 t 2)).bind fun w10 =>
    rec (x2 + 1) (F_X10_add (w10 + 7) (if (M t 6) = 42 then (-18 : Int32) else (-19 : Int32)) q8.2)
def L_X5_product_12 (ex : (Nat → Int32 → Mem → Option (Bool × Mem))) (t : Nat) (x1 : Int32) : Nat → Int32 → Mem → Option (Sum (Bool × Mem) (Mem))
  | 0, _, _ => none
  | m9 + 1, x2, M =>
    if 700 ≤ x2 then
      some (Sum.inr M)
    else
      if (M t 6) = 42 then
        J_X5_product_j37 ex t (L_X5_product_12 ex t x1 m9) x1 x2 M
      else
        if (M t 6) = 47 then
          J_X5_product_j37 ex t (L_X5_product_12 ex t x1 m9) x1 x2 M
        else
          some (Sum.inr M)
def F_X5_product (ex : (Nat → Int32 → Mem → Option (Bool × Mem))) (t : Nat) (p0 : Int32) (M : Mem) : Option (Bool × Mem) :=
  (F_X5_part ex t p0 M).bind fun q1 =>
  if (bi q1.1) = 0 then
    some (false, q1.2)
  else
    (L_X5_product_12 ex t p0 FU 0 q1.2).bind fun q12 => Sum.elim (fun v => some v) (fun s13 =>
    some (true, s13)) q12
def J_X5_sum_j37 (ex : (Nat → Int32 → Mem → Option (Bool × Mem))) (t : Nat) (rec : Int32 → Mem → Option (Sum (Bool × Mem) (Mem))) (x1 : Int32) (x2 : Int32) (M : Mem) : Option (Sum (Bool × Mem) (Mem)) :=
  (F_X5_advance t M).bind fun q7 =>
  (F_X5_product ex t x1 q7).bind fun q8 =>
  if (bi q8.1) = 0 then
    some (Sum.inl (false, q8.2))
  else
    (grd (q8.2 t 2)).bind fun w10 =>
    rec (x2 + 1) (F_X10_add (w10 + 7) (if (M t 6) = 43 then (-16 : Int32) else (-17 : Int32)) q8.2)
def L_X5_sum_12 (ex : (Nat → Int32 → Mem → Option (Bool × Mem))) (t : Nat) (x1 : Int32) : Nat → Int32 → Mem → Option (Sum (Bool × Mem) (Mem))
  | 0, _, _ => none
  | m9 + 1, x2, M =>
    if 700 ≤ x2 then
      some (Sum.inr M)
    else
      if (M t 6) = 43 then
        J_X5_sum_j37 ex t (L_X5_sum_12 ex t x1 m9) x1 x2 M
      else
        if (M t 6) = 45 then
          J_X5_sum_j37 ex t (L_X5_sum_12 ex t x1 m9) x1 x2 M
        else
          some (Sum.inr M)
def F_X5_sum (ex : (Nat → Int32 → Mem → Option (Bool × Mem))) (t : Nat) (p0 : Int32) (M : Mem) : Option (Bool × Mem) :=
  (F_X5_product ex t p0 M).bind fun q1 =>
  if (bi q1.1) = 0 then
    some (false, q1.2)
  else
    (L_X5_sum_12 ex t p0 FU 0 q1.2).bind fun q12 => Sum.elim (fun v => some v) (fun s13 =>
    some (true, s13)) q12
def J_X5_test_j30 (ex : (Nat → Int32 → Mem → Option (Bool × Mem))) (t : Nat) (x1 : Int32) (M : Mem) : Option (Bool × Mem) :=
  (F_X5_advance t M).bind fun q6 =>
  (F_X5_sum ex t x1 q6).bind fun q7 =>
  if (bi q7.1) = 0 then
    some (false, q7.2)
  else
    (grd (q7.2 t 2)).bind fun w9 =>
    some (true, (F_X10_add (w9 + 7) (if (M t 6) = 60 then (-14 : Int32) else (-15 : Int32)) q7.2))
def F_X5_test (ex : (Nat → Int32 → Mem → Option (Bool × Mem))) (t : Nat) (p0 : Int32) (M : Mem) : Option (Bool × Mem) :=
  (F_X5_sum ex t p0 M).bind fun q1 =>
  if (bi q1.1) = 0 then
    some (false, q1.2)
  else
    if (q1.2 t 6) = 60 then
      J_X5_test_j30 ex t p0 q1.2
    else
      if (q1.2 t 6) = 61 then
        J_X5_test_j30 ex t p0 q1.2
      else
        some (true, q1.2)
def L_X5_denied_2 (ex : (Nat → Int32 → Mem → Option (Bool × Mem))) (t : Nat) (x1 : Int32) : Nat → Int32 → Mem → Option (Int32 × Mem)
  | 0, _, _ => none
  | m9 + 1, x2, M =>
    if 6 ≤ x2 then
      some (x2, M)
    else
      (F_X5_isWord t 8 M).bind fun q2 =>
      if (bi q2) = 0 then
        some (x2, M)
      else
        (F_X5_advance t M).bind fun q4 =>
        L_X5_denied_2 ex t x1 m9 (x2 + 1) q4
def L_X5_denied_60 (ex : (Nat → Int32 → Mem → Option (Bool × Mem))) (t : Nat) (x2 : Int32) : Nat → Int32 → Mem → Option (Mem)
  | 0, _, _ => none
  | m9 + 1, x3, M =>
    if x2 ≤ x3 then
      some M
    else
      (grd (M t 2)).bind fun w12 =>
      L_X5_denied_60 ex t x2 m9 (x3 + 1) (F_X10_add (w12 + 7) (-11) M)
def J_X5_denied_j48 (ex : (Nat → Int32 → Mem → Option (Bool × Mem))) (t : Nat) (x1 : Int32) (x2 : Int32) (M : Mem) : Option (Bool × Mem) :=
  (F_X5_test ex t x1 M).bind fun q9 =>
  if (bi q9.1) = 0 then
    some (false, q9.2)
  else
    (L_X5_denied_60 ex t x2 FU 0 q9.2).bind fun s14 =>
    some (true, s14)
def J_X5_denied_j27 (ex : (Nat → Int32 → Mem → Option (Bool × Mem))) (t : Nat) (x1 : Int32) (x2 : Int32) (M : Mem) : Option (Bool × Mem) :=
  (F_X5_isWord t 8 M).bind fun q7 =>
  if (bi q7) = 0 then
    J_X5_denied_j48 ex t x1 x2 M
  else
    if x2 = 6 then
      some ((F_X5_refuse t 2 M).1, (F_X5_refuse t 2 M).2)
    else
      J_X5_denied_j48 ex t x1 x2 M
def F_X5_denied (ex : (Nat → Int32 → Mem → Option (Bool × Mem))) (t : Nat) (p0 : Int32) (M : Mem) : Option (Bool × Mem) :=
  (L_X5_denied_2 ex t p0 FU 0 M).bind fun s6 =>
  J_X5_denied_j27 ex t p0 s6.1 s6.2
def L_X5_both_12 (ex : (Nat → Int32 → Mem → Option (Bool × Mem))) (t : Nat) (x1 : Int32) : Nat → Int32 → Mem → Option (Sum (Bool × Mem) (Mem))
  | 0, _, _ => none
  | m9 + 1, x2, M =>
    if 700 ≤ x2 then
      some (Sum.inr M)
    else
      (F_X5_isWord t 17 M).bind fun q4 =>
      if (bi q4) = 0 then
        some (Sum.inr M)
      else
        (F_X5_advance t M).bind fun q6 =>
        (F_X5_denied ex t x1 q6).bind fun q7 =>
        if (bi q7.1) = 0 then
          some (Sum.inl (false, q7.2))
        else
          (grd (q7.2 t 2)).bind fun w9 =>
          L_X5_both_12 ex t x1 m9 (x2 + 1) (F_X10_add (w9 + 7) (-13) q7.2)
def F_X5_both (ex : (Nat → Int32 → Mem → Option (Bool × Mem))) (t : Nat) (p0 : Int32) (M : Mem) : Option (Bool × Mem) :=
  (F_X5_denied ex t p0 M).bind fun q1 =>
  if (bi q1.1) = 0 then
    some (false, q1.2)
  else
    (L_X5_both_12 ex t p0 FU 0 q1.2).bind fun q10 => Sum.elim (fun v => some v) (fun s11 =>
    some (true, s11)) q10
def L_X5_expr_53 (ex : (Nat → Int32 → Mem → Option (Bool × Mem))) (t : Nat) (x1 : Int32) : Nat → Int32 → Mem → Option (Sum (Bool × Mem) (Mem))
  | 0, _, _ => none
  | m9 + 1, x2, M =>
    if 700 ≤ x2 then
      some (Sum.inr M)
    else
      (F_X5_isWord t 18 M).bind fun q5 =>
      if (bi q5) = 0 then
        some (Sum.inr M)
      else
        (F_X5_advance t M).bind fun q7 =>
        (F_X5_both ex t x1 q7).bind fun q8 =>
        if (bi q8.1) = 0 then
          some (Sum.inl (false, q8.2))
        else
          (grd (q8.2 t 2)).bind fun w10 =>
          L_X5_expr_53 ex t x1 m9 (x2 + 1) (F_X10_add (w10 + 7) (-12) q8.2)
def J_X5_expr_j37 (ex : (Nat → Int32 → Mem → Option (Bool × Mem))) (t : Nat) (y1 : Int32) (M : Mem) : Option (Bool × Mem) :=
  some ((F_X5_refuse t y1 M).1, (F_X5_refuse t y1 M).2)
def J_X5_expr_j32 (ex : (Nat → Int32 → Mem → Option (Bool × Mem))) (t : Nat) (M : Mem) : Option (Bool × Mem) :=
  J_X5_expr_j37 ex t 2 M
def F_X5_exprB (ex : (Nat → Int32 → Mem → Option (Bool × Mem))) (t : Nat) (p0 : Int32) (M : Mem) : Option (Bool × Mem) :=
  if p0 ≤ 6 then
    (F_X5_both ex t p0 M).bind fun q2 =>
    if (bi q2.1) = 0 then
      some (false, q2.2)
    else
      (L_X5_expr_53 ex t p0 FU 0 q2.2).bind fun q11 => Sum.elim (fun v => some v) (fun s12 =>
      some (true, s12)) q11
  else
    if (M t 6) = 2 then
      J_X5_expr_j32 ex t M
    else
      if (M t 6) = 1 then
        J_X5_expr_j32 ex t M
      else
        if (M t 6) = 40 then
          J_X5_expr_j32 ex t M
        else
          J_X5_expr_j37 ex t 1 M
def F_X5_expr : Nat → (Nat → Int32 → Mem → Option (Bool × Mem))
  | 0 => fun _ _ _ => none
  | D9 + 1 => F_X5_exprB (F_X5_expr D9)
def J_X12_readPart_j56 (ex : (Nat → Int32 → Mem → Option Mem)) (t : Nat) (x2 : Int32) (M : Mem) : Option (Mem) :=
  (F_X12_lay t ((-1) - x2) M).bind fun q9 =>
  if (q9 t 21) = 0 then
    (F_X12_stepOn t q9).bind fun q11 =>
    some q11
  else
    some q9
def F_X12_readPart (ex : (Nat → Int32 → Mem → Option Mem)) (t : Nat) (p0 : Int32) (M : Mem) : Option (Mem) :=
  if (M t 21) = 0 then
    if (M t 17) = 2 then
      (F_X12_readNumber t 0 9999 M).bind fun q12 =>
      (F_X12_lay t q12.1 q12.2).bind fun q13 =>
      some q13
    else
      if (M t 17) = 1 then
        (F_X12_which t (t + 2) 1 M).bind fun q7 =>
        if q7 = (-1) then
          J_X12_readPart_j56 ex t q7 (F_X12_wrong t 3 M)
        else
          J_X12_readPart_j56 ex t q7 M
      else
        (F_X12_mark t 40 M).bind fun q4 =>
        (ex t (p0 + 1) q4).bind fun q5 =>
        (F_X12_mark t 41 q5).bind fun q6 =>
        some q6
  else
    some M
def J_X12_readProduct_j23 (ex : (Nat → Int32 → Mem → Option Mem)) (t : Nat) (rec : Mem → Option (Mem)) (x1 : Int32) (M : Mem) : Option (Mem) :=
  (F_X12_isMarked t 42 M).bind fun q4 =>
  (F_X12_stepOn t M).bind fun q7 =>
  (F_X12_readPart ex t x1 q7).bind fun q8 =>
  (F_X12_lay t (if (bi q4) = 0 then (-23 : Int32) else (-22 : Int32)) q8).bind fun q9 =>
  rec q9
def L_X12_readProduct_5 (ex : (Nat → Int32 → Mem → Option Mem)) (t : Nat) (x1 : Int32) : Nat → Mem → Option (Mem)
  | 0, _ => none
  | m9 + 1, M =>
    (F_X12_isMarked t 42 M).bind fun q2 =>
    if (bi q2) = 0 then
      (F_X12_isMarked t 47 M).bind fun q10 =>
      if (bi q10) = 0 then
        some M
      else
        J_X12_readProduct_j23 ex t (L_X12_readProduct_5 ex t x1 m9) x1 M
    else
      J_X12_readProduct_j23 ex t (L_X12_readProduct_5 ex t x1 m9) x1 M
def F_X12_readProduct (ex : (Nat → Int32 → Mem → Option Mem)) (t : Nat) (p0 : Int32) (M : Mem) : Option (Mem) :=
  (F_X12_readPart ex t p0 M).bind fun q1 =>
  (L_X12_readProduct_5 ex t p0 FU q1).bind fun s13 =>
  some s13
def J_X12_readSum_j23 (ex : (Nat → Int32 → Mem → Option Mem)) (t : Nat) (rec : Mem → Option (Mem)) (x1 : Int32) (M : Mem) : Option (Mem) :=
  (F_X12_isMarked t 43 M).bind fun q4 =>
  (F_X12_stepOn t M).bind fun q7 =>
  (F_X12_readProduct ex t x1 q7).bind fun q8 =>
  (F_X12_lay t (if (bi q4) = 0 then (-21 : Int32) else (-20 : Int32)) q8).bind fun q9 =>
  rec q9
def L_X12_readSum_5 (ex : (Nat → Int32 → Mem → Option Mem)) (t : Nat) (x1 : Int32) : Nat → Mem → Option (Mem)
  | 0, _ => none
  | m9 + 1, M =>
    (F_X12_isMarked t 43 M).bind fun q2 =>
    if (bi q2) = 0 then
      (F_X12_isMarked t 45 M).bind fun q10 =>
      if (bi q10) = 0 then
        some M
      else
        J_X12_readSum_j23 ex t (L_X12_readSum_5 ex t x1 m9) x1 M
    else
      J_X12_readSum_j23 ex t (L_X12_readSum_5 ex t x1 m9) x1 M
def F_X12_readSum (ex : (Nat → Int32 → Mem → Option Mem)) (t : Nat) (p0 : Int32) (M : Mem) : Option (Mem) :=
  (F_X12_readProduct ex t p0 M).bind fun q1 =>
  (L_X12_readSum_5 ex t p0 FU q1).bind fun s13 =>
  some s13
def J_X12_readNot_j23 (ex : (Nat → Int32 → Mem → Option Mem)) (t : Nat) (rec : Int32 → Mem → Option (Int32 × Mem)) (x1 : Int32) (x2 : Int32) (M : Mem) : Option (Int32 × Mem) :=
  if (M t 21) = 0 then
    (F_X12_stepOn t M).bind fun q5 =>
    rec (x2 + 1) q5
  else
    rec (x2 + 1) M
def L_X12_readNot_2 (ex : (Nat → Int32 → Mem → Option Mem)) (t : Nat) (x1 : Int32) : Nat → Int32 → Mem → Option (Int32 × Mem)
  | 0, _, _ => none
  | m9 + 1, x2, M =>
    (F_X12_is t 34 M).bind fun q1 =>
    if (bi q1) = 0 then
      some (x2, M)
    else
      if x2 = 6 then
        J_X12_readNot_j23 ex t (L_X12_readNot_2 ex t x1 m9) x1 x2 (F_X12_wrong t 2 M)
      else
        J_X12_readNot_j23 ex t (L_X12_readNot_2 ex t x1 m9) x1 x2 M
def L_X12_readNot_96 (ex : (Nat → Int32 → Mem → Option Mem)) (t : Nat) (x2 : Int32) : Nat → Int32 → Mem → Option (Mem)
  | 0, _, _ => none
  | m9 + 1, x3, M =>
    if x2 ≤ x3 then
      some M
    else
      (F_X12_lay t (-28) M).bind fun q18 =>
      L_X12_readNot_96 ex t x2 m9 (x3 + 1) q18
def J_X12_readNot_j94 (ex : (Nat → Int32 → Mem → Option Mem)) (t : Nat) (x2 : Int32) (M : Mem) : Option (Mem) :=
  (L_X12_readNot_96 ex t x2 FU 0 M).bind fun s20 =>
  some s20
def J_X12_readNot_j63 (ex : (Nat → Int32 → Mem → Option Mem)) (t : Nat) (x1 : Int32) (x2 : Int32) (M : Mem) : Option (Mem) :=
  (F_X12_isMarked t 60 M).bind fun q11 =>
  (F_X12_stepOn t M).bind fun q14 =>
  (F_X12_readSum ex t x1 q14).bind fun q15 =>
  (F_X12_lay t (if (bi q11) = 0 then (-25 : Int32) else (-24 : Int32)) q15).bind fun q16 =>
  J_X12_readNot_j94 ex t x2 q16
def F_X12_readNot (ex : (Nat → Int32 → Mem → Option Mem)) (t : Nat) (p0 : Int32) (M : Mem) : Option (Mem) :=
  (L_X12_readNot_2 ex t p0 FU 0 M).bind fun s7 =>
  (F_X12_readSum ex t p0 s7.2).bind fun q8 =>
  (F_X12_isMarked t 60 q8).bind fun q9 =>
  if (bi q9) = 0 then
    (F_X12_isMarked t 61 q8).bind fun q21 =>
    if (bi q21) = 0 then
      J_X12_readNot_j94 ex t s7.1 q8
    else
      J_X12_readNot_j63 ex t p0 s7.1 q8
  else
    J_X12_readNot_j63 ex t p0 s7.1 q8
def L_X12_readAnd_5 (ex : (Nat → Int32 → Mem → Option Mem)) (t : Nat) (x1 : Int32) : Nat → Mem → Option (Mem)
  | 0, _ => none
  | m9 + 1, M =>
    (F_X12_is t 35 M).bind fun q2 =>
    if (bi q2) = 0 then
      some M
    else
      (F_X12_stepOn t M).bind fun q4 =>
      (F_X12_readNot ex t x1 q4).bind fun q5 =>
      (F_X12_lay t (-26) q5).bind fun q6 =>
      L_X12_readAnd_5 ex t x1 m9 q6
def F_X12_readAnd (ex : (Nat → Int32 → Mem → Option Mem)) (t : Nat) (p0 : Int32) (M : Mem) : Option (Mem) :=
  (F_X12_readNot ex t p0 M).bind fun q1 =>
  (L_X12_readAnd_5 ex t p0 FU q1).bind fun s8 =>
  some s8
def L_X12_readExpression_67 (ex : (Nat → Int32 → Mem → Option Mem)) (t : Nat) (x1 : Int32) : Nat → Mem → Option (Mem)
  | 0, _ => none
  | m9 + 1, M =>
    (F_X12_is t 36 M).bind fun q6 =>
    if (bi q6) = 0 then
      some M
    else
      (F_X12_stepOn t M).bind fun q8 =>
      (F_X12_readAnd ex t x1 q8).bind fun q9 =>
      (F_X12_lay t (-27) q9).bind fun q10 =>
      L_X12_readExpression_67 ex t x1 m9 q10
def J_X12_readExpression_j62 (ex : (Nat → Int32 → Mem → Option Mem)) (t : Nat) (x1 : Int32) (M : Mem) : Option (Mem) :=
  (F_X12_readAnd ex t x1 M).bind fun q5 =>
  (L_X12_readExpression_67 ex t x1 FU q5).bind fun s12 =>
  some s12
def J_X12_readExpression_j38 (ex : (Nat → Int32 → Mem → Option Mem)) (t : Nat) (x1 : Int32) (y0 : Int32) (M : Mem) : Option (Mem) :=
  if y0 = 0 then
    J_X12_readExpression_j62 ex t x1 (F_X12_wrong t 1 M)
  else
    if x1 = 6 then
      J_X12_readExpression_j62 ex t x1 (F_X12_wrong t 2 M)
    else
      J_X12_readExpression_j62 ex t x1 M
def J_X12_readExpression_j33 (ex : (Nat → Int32 → Mem → Option Mem)) (t : Nat) (x1 : Int32) (M : Mem) : Option (Mem) :=
  J_X12_readExpression_j38 ex t x1 1 M
def F_X12_readExpressionB (ex : (Nat → Int32 → Mem → Option Mem)) (t : Nat) (p0 : Int32) (M : Mem) : Option (Mem) :=
  if (M t 21) = 0 then
    if (M t 17) = 2 then
      J_X12_readExpression_j33 ex t p0 M
    else
      if (M t 17) = 1 then
        J_X12_readExpression_j33 ex t p0 M
      else
        (F_X12_isMarked t 40 M).bind fun q14 =>
        if (bi q14) = 0 then
          J_X12_readExpression_j38 ex t p0 0 M
        else
          J_X12_readExpression_j33 ex t p0 M
  else
    some M
def F_X12_readExpression : Nat → (Nat → Int32 → Mem → Option Mem)
  | 0 => fun _ _ _ => none
  | D9 + 1 => F_X12_readExpressionB (F_X12_readExpression D9)
def F_X5_line (t : Nat) (M : Mem) : Option (Bool × Mem) :=
  (F_X5_isWord t 0 M).bind fun q1 =>
  if (bi q1) = 0 then
    (F_X5_isWord t 1 M).bind fun q3 =>
    if (bi q3) = 0 then
      (F_X5_isWord t 2 M).bind fun q5 =>
      if (bi q5) = 0 then
        (F_X5_isWord t 3 M).bind fun q7 =>
        if (bi q7) = 0 then
          (F_X5_isWord t 4 M).bind fun q9 =>
          if (bi q9) = 0 then
            (F_X5_isWord t 5 M).bind fun q11 =>
            if (bi q11) = 0 then
              (F_X5_isWord t 6 M).bind fun q13 =>
              if (bi q13) = 0 then
                (F_X5_isWord t 7 M).bind fun q15 =>
                if (bi q15) = 0 then
                  some ((F_X5_refuse t 1 M).1, (F_X5_refuse t 1 M).2)
                else
                  (F_X5_once t 16 M).bind fun q17 =>
                  if (bi q17.1) = 0 then
                    some (false, q17.2)
                  else
                    (F_X5_expr 8 t 1 q17.2).bind fun q19 =>
                    if (bi q19.1) = 0 then
                      some (false, q19.2)
                    else
                      (F_X5_sign t 59 q19.2).bind fun q21 =>
                      if (bi q21.1) = 0 then
                        some (false, q21.2)
                      else
                        some (true, q21.2)
              else
                (F_X5_reserveLine t M).bind fun q23 =>
                some (q23.1, q23.2)
            else
              (F_X5_fogLine t M).bind fun q24 =>
              some (q24.1, q24.2)
          else
            (F_X5_personLine t 1 M).bind fun q25 =>
            some (q25.1, q25.2)
        else
          (F_X5_personLine t 0 M).bind fun q26 =>
          some (q26.1, q26.2)
      else
        (F_X5_roundLine t M).bind fun q27 =>
        some (q27.1, q27.2)
    else
      (F_X5_pathLine t M).bind fun q28 =>
      some (q28.1, q28.2)
  else
    (F_X5_streetsLine t M).bind fun q29 =>
    some (q29.1, q29.2)
def J_X12_sayOnce_j76 (t : Nat) (x1 : Int32) (M : Mem) : Option (Mem) :=
  if x1 = 16 then
    (F_X12_readExpression 10 t 0 M).bind fun q7 =>
    some q7
  else
    some M
def J_X12_sayOnce_j56 (t : Nat) (x1 : Int32) (M : Mem) : Option (Mem) :=
  if x1 = 8 then
    (F_X12_readNumber t 0 99 M).bind fun q8 =>
    (ast q8.2 (t + 3) 14 12 q8.1).bind fun M9 =>
    J_X12_sayOnce_j76 t x1 M9
  else
    J_X12_sayOnce_j76 t x1 M
def J_X12_sayOnce_j47 (t : Nat) (x1 : Int32) (M : Mem) : Option (Mem) :=
  if x1 = 4 then
    (F_X12_sayFogs t M).bind fun q10 =>
    J_X12_sayOnce_j56 t x1 q10
  else
    J_X12_sayOnce_j56 t x1 M
def J_X12_sayOnce_j23 (t : Nat) (x1 : Int32) (M : Mem) : Option (Mem) :=
  if x1 = 2 then
    (F_X12_readStreets t (t + 5) 16 8 8 M).bind fun q11 =>
    (ast q11.2 (t + 3) 14 9 q11.1).bind fun M12 =>
    J_X12_sayOnce_j47 t x1 M12
  else
    J_X12_sayOnce_j47 t x1 M
def F_X12_sayOnce (t : Nat) (p0 : Int32) (M : Mem) : Option (Mem) :=
  (F_X12_stepOn t M).bind fun q1 =>
  if p0 = 1 then
    (F_X12_readNumber t 2 8 q1).bind fun q13 =>
    (ast q13.2 (t + 3) 14 7 q13.1).bind fun M14 =>
    J_X12_sayOnce_j23 t p0 M14
  else
    J_X12_sayOnce_j23 t p0 q1
def J_X12_readLine_j165 (t : Nat) (x1 : Int32) (x3 : Int32) (M : Mem) : Option (Int32 × Mem) :=
  (F_X12_mark t 59 M).bind fun q18 =>
  some ((x1 ||| x3), q18)
def J_X12_readLine_j130 (t : Nat) (x1 : Int32) (x2 : Int32) (x3 : Int32) (M : Mem) : Option (Int32 × Mem) :=
  if x2 = (-1) then
    (F_X12_is t 37 M).bind fun q16 =>
    if (bi q16) = 0 then
      J_X12_readLine_j165 t x1 x3 (F_X12_wrong t 1 M)
    else
      (F_X12_sayPath t M).bind fun q19 =>
      J_X12_readLine_j165 t x1 x3 q19
  else
    (F_X12_sayPerson t x2 M).bind fun q20 =>
    J_X12_readLine_j165 t x1 x3 q20
def J_X12_readLine_j111 (t : Nat) (x1 : Int32) (x2 : Int32) (x3 : Int32) (M : Mem) : Option (Int32 × Mem) :=
  if x3 ≤ 0 then
    J_X12_readLine_j130 t x1 x2 x3 M
  else
    if (M t 21) = 0 then
      (F_X12_sayOnce t x3 M).bind fun q22 =>
      J_X12_readLine_j165 t x1 x3 q22
    else
      J_X12_readLine_j130 t x1 x2 x3 M
def J_X12_readLine_j100 (t : Nat) (x1 : Int32) (x2 : Int32) (x3 : Int32) (M : Mem) : Option (Int32 × Mem) :=
  if (x3 &&& x1) = 0 then
    J_X12_readLine_j111 t x1 x2 x3 M
  else
    J_X12_readLine_j111 t x1 x2 x3 (F_X12_wrong t 5 M)
def J_X12_readLine_j82 (t : Nat) (x1 : Int32) (x2 : Int32) (y0 : Int32) (M : Mem) : Option (Int32 × Mem) :=
  if y0 = 1 then
    if (M t 24) = 0 then
      J_X12_readLine_j100 t x1 x2 y0 M
    else
      J_X12_readLine_j100 t x1 x2 y0 (F_X12_wrong t 4 M)
  else
    J_X12_readLine_j100 t x1 x2 y0 M
def F_X12_readLine (t : Nat) (p0 : Int32) (M : Mem) : Option (Int32 × Mem) :=
  (F_X12_which t (t + 1) 0 M).bind fun q1 =>
  (F_X12_is t 29 M).bind fun q2 =>
  if (bi q2) = 0 then
    (F_X12_is t 30 M).bind fun q4 =>
    if (bi q4) = 0 then
      (F_X12_is t 31 M).bind fun q6 =>
      if (bi q6) = 0 then
        (F_X12_is t 32 M).bind fun q8 =>
        if (bi q8) = 0 then
          (F_X12_is t 33 M).bind fun q10 =>
          if (bi q10) = 0 then
            J_X12_readLine_j82 t p0 q1 0 M
          else
            J_X12_readLine_j82 t p0 q1 16 M
        else
          J_X12_readLine_j82 t p0 q1 8 M
      else
        J_X12_readLine_j82 t p0 q1 4 M
    else
      J_X12_readLine_j82 t p0 q1 2 M
  else
    J_X12_readLine_j82 t p0 q1 1 M
def J_X12_ward_j17 (t : Nat) (M : Mem) : Option (Int32 × Mem) :=
  some ((F_X12_fail t 1 M).1, (F_X12_fail t 1 M).2)
def J_X12_ward_j96 (t : Nat) (rec : Int32 → Mem → Option (Mem)) (x2 : Int32) (y1 : Int32) (y2 : Int32) (M : Mem) : Option (Mem) :=
  (ast M (t + 3) 14 y1 y2).bind fun M7 =>
  rec (x2 + 1) M7
def L_X12_ward_55 (t : Nat) : Nat → Int32 → Mem → Option (Mem)
  | 0, _, _ => none
  | m9 + 1, x2, M =>
    if 7 ≤ x2 then
      some M
    else
      if x2 = 0 then
        J_X12_ward_j96 t (L_X12_ward_55 t m9) x2 (7 + x2) 4 M
      else
        if x2 = 2 then
          J_X12_ward_j96 t (L_X12_ward_55 t m9) x2 (7 + x2) 1 M
        else
          if x2 = 5 then
            J_X12_ward_j96 t (L_X12_ward_55 t m9) x2 (7 + x2) 5 M
          else
            J_X12_ward_j96 t (L_X12_ward_55 t m9) x2 (7 + x2) 0 M
def L_X12_ward_105 (t : Nat) : Nat → Int32 → Mem → Option (Mem)
  | 0, _, _ => none
  | m9 + 1, x2, M =>
    if 8 ≤ x2 then
      some M
    else
      (ast M (t + 4) 16 (8 + x2) 0).bind fun M11 =>
      L_X12_ward_105 t m9 (x2 + 1) M11
def L_X12_ward_141 (t : Nat) : Nat → Int32 → Mem → Option (Mem)
  | 0, _, _ => none
  | m9 + 1, x2, M =>
    if (M t 21) = 0 then
      if (M t 17) = 0 then
        some M
      else
        (F_X12_readLine t x2 M).bind fun q18 =>
        L_X12_ward_141 t m9 q18.1 q18.2
    else
      some M
def J_X12_ward_j164 (t : Nat) (M : Mem) : Option (Int32 × Mem) :=
  if (M t 21) = 0 then
    (F_X12_takeOver t M).bind fun q22 =>
    some (0, q22)
  else
    (ald (up M t 23 (M t 22)) (t + 12) 3 0).bind fun v23 =>
    (ast (up M t 23 (M t 22)) (t + 12) 3 0 (v23 + 1)).bind fun M24 =>
    some ((M24 t 21), M24)
def F_X12_ward (t : Nat) (p0 : Int32) (M : Mem) : Option (Int32 × Mem) :=
  if p0 < 0 then
    J_X12_ward_j17 t (up M t 2 0)
  else
    if p0 ≤ ((up M t 2 0) t 14) then
      (L_X12_ward_55 t FU 0 (up (up (up (up (up (up (up M t 2 0) t 14 0) t 16 p0) t 15 0) t 21 0) t 23 (-1)) t 24 (bi false))).bind fun s9 =>
      (L_X12_ward_105 t FU 0 s9).bind fun s13 =>
      (ast s13 (t + 5) 16 8 0).bind fun M14 =>
      (F_X12_stepOn t M14).bind fun q15 =>
      (L_X12_ward_141 t FU 0 q15).bind fun s20 =>
      J_X12_ward_j164 t s20
    else
      J_X12_ward_j17 t (up M t 2 0)
def L_X5_read_43 (t : Nat) : Nat → Int32 → Mem → Option (Sum (Int32 × Mem) (Mem))
  | 0, _, _ => none
  | m9 + 1, x2, M =>
    if 700 < x2 then
      some (Sum.inr M)
    else
      if (M t 6) = 0 then
        some (Sum.inr M)
      else
        (F_X5_line t M).bind fun q6 =>
        if (bi q6.1) = 0 then
          some (Sum.inl ((q6.2 t 8), q6.2))
        else
          L_X5_read_43 t m9 (x2 + 1) q6.2
def F_X5_read (t : Nat) (p0 : Int32) (M : Mem) : Option (Int32 × Mem) :=
  (grd ((up (up (up (up (up (up M t 1 0) t 3 p0) t 5 0) t 8 0) t 9 0) t 10 (bi false)) t 2)).bind fun w1 =>
  (F_X9_clear w1 (up (up (up (up (up (up M t 1 0) t 3 p0) t 5 0) t 8 0) t 9 0) t 10 (bi false))).bind fun q2 =>
  (F_X5_advance t q2).bind fun q3 =>
  (L_X5_read_43 t FU 0 q3).bind fun q8 => Sum.elim (fun v => some v) (fun s9 =>
  some (0, s9)) q8
