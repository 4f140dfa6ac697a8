def J_X11_ward_j15 (t : Nat) (M : Mem) : Option (Sum Nat (Int32 × Mem)) :=
  some (Sum.inl 2)
def F_X11_ward (t : Nat) (p0 : Int32) (M : Mem) : Option (Sum Nat (Int32 × Mem)) :=
  if p0 < 0 then
    J_X11_ward_j15 t M
  else
    if p0 ≤ (M (t + 1) 1) then
      (F_X5_read (t + 1) p0 M).bind fun q3 =>
      if q3.1 = 0 then
        (grd ((up q3.2 t 2 (-1)) t 1)).bind fun w5 =>
        (F_X5_exchange (t + 1) w5 (up q3.2 t 2 (-1))).bind fun q6 =>
        (grd ((up q6.2 t 1 (nI q6.1)) t 1)).bind fun w7 =>
        (F_X0_begin (t + 24) w7 (up q6.2 t 1 (nI q6.1))).bind fun q8 =>
        some (Sum.inr (0, (up q8 t 5 (bi false))))
      else
        some (Sum.inr (q3.1, (F_X0_refuse (t + 24) 0 (up q3.2 t 2 (q3.2 (t + 1) 4))).2))
    else
      J_X11_ward_j15 t M
def J_X11_needWhat_j9 (M : Mem) : Sum Nat (Unit) :=
  Sum.inl 1
def F_X11_needWhat (p0 : Int32) (p1 : Int32) (M : Mem) : Sum Nat (Unit) :=
  if p0 < 0 then
    J_X11_needWhat_j9 M
  else
    if p0 < p1 then
      Sum.inr ()
    else
      J_X11_needWhat_j9 M
def J_X11_needWithin_j10 (M : Mem) : Sum Nat (Unit) :=
  Sum.inl 2
def F_X11_needWithin (p0 : Int32) (p1 : Int32) (p2 : Int32) (M : Mem) : Sum Nat (Unit) :=
  if p0 < p1 then
    J_X11_needWithin_j10 M
  else
    if p0 ≤ p2 then
      Sum.inr ()
    else
      J_X11_needWithin_j10 M
def J_X11_needStreet_j15 (t : Nat) (M : Mem) : Option (Sum Nat (Unit)) :=
  some (Sum.inl 1)
def F_X11_needStreet (t : Nat) (p0 : Int32) (M : Mem) : Option (Sum Nat (Unit)) :=
  if p0 < 0 then
    J_X11_needStreet_j15 t M
  else
    (grd (M t 1)).bind fun w2 =>
    if p0 < (M w2 0) then
      some (Sum.inr ())
    else
      J_X11_needStreet_j15 t M
def J_X11_needPerson_j15 (t : Nat) (M : Mem) : Option (Sum Nat (Unit)) :=
  some (Sum.inl 1)
def F_X11_needPerson (t : Nat) (p0 : Int32) (M : Mem) : Option (Sum Nat (Unit)) :=
  if p0 < 0 then
    J_X11_needPerson_j15 t M
  else
    (grd (M t 1)).bind fun w2 =>
    if p0 < (M w2 3) then
      some (Sum.inr ())
    else
      J_X11_needPerson_j15 t M
def J_X11_needPlace_j24 (t : Nat) (M : Mem) : Option (Sum Nat (Unit)) :=
  some (Sum.inl 1)
def F_X11_needPlace (t : Nat) (p0 : Int32) (p1 : Int32) (M : Mem) : Option (Sum Nat (Unit)) :=
  (F_X11_needPerson t p0 M).bind fun q1 => Sum.elim (fun k9 => some (Sum.inl k9)) (fun _ =>
  if p1 < 0 then
    J_X11_needPlace_j24 t M
  else
    (grd (M t 1)).bind fun w3 =>
    if p1 < (F_X11_at (w3 + 4) 7 p0 M) then
      some (Sum.inr ())
    else
      J_X11_needPlace_j24 t M) q1
def F_X11_count (t : Nat) (p0 : Int32) (M : Mem) : Option (Sum Nat (Int32)) :=
  Sum.elim (fun k9 => some (Sum.inl k9)) (fun _ =>
  if p0 = 0 then
    (grd (M t 1)).bind fun w3 =>
    some (Sum.inr (M w3 0))
  else if p0 = 1 then
    (grd (M t 1)).bind fun w5 =>
    some (Sum.inr (M w5 1))
  else if p0 = 2 then
    (grd (M t 1)).bind fun w7 =>
    some (Sum.inr (M w7 3))
  else if p0 = 3 then
    (grd (M t 1)).bind fun w9 =>
    some (Sum.inr (M w9 2))
  else if p0 = 4 then
    some (Sum.inr (M ((t + 24) + 1) 0))
  else if p0 = 5 then
    (grd (M t 1)).bind fun w12 =>
    (F_X9_fogOf w12 (M ((t + 24) + 1) 0) M).bind fun q13 =>
    some (Sum.inr q13)
  else if p0 = 6 then
    some (Sum.inr (M ((t + 24) + 1) 3))
  else if p0 = 7 then
    some (Sum.inr (M ((t + 24) + 1) 1))
  else if p0 = 8 then
    some (Sum.inr (M ((t + 24) + 1) 2))
  else if p0 = 9 then
    (F_X8_coinsOfAll ((t + 24) + 1) M).bind fun q18 =>
    some (Sum.inr q18)
  else if p0 = 10 then
    some (Sum.inr (M ((t + 24) + 5) 1))
  else if p0 = 11 then
    some (Sum.inr (M ((t + 24) + 7) 3))
  else if p0 = 12 then
    some (Sum.inr (M (t + 1) 1))
  else some (Sum.inr (F_X11_at ((t + 24) + 11) 3 (p0 - 13) M))) (F_X11_needWhat p0 16 M)
def F_X11_paths (t : Nat) (p0 : Int32) (M : Mem) : Option (Sum Nat (Int32)) :=
  (F_X11_needStreet t p0 M).bind fun q1 => Sum.elim (fun k9 => some (Sum.inl k9)) (fun _ =>
  (grd (M t 1)).bind fun w2 =>
  some (Sum.inr (F_X11_at (w2 + 1) 8 p0 M))) q1
def F_X11_person (t : Nat) (p0 : Int32) (p1 : Int32) (M : Mem) : Option (Sum Nat (Int32)) :=
  (F_X11_needPerson t p0 M).bind fun q1 => Sum.elim (fun k9 => some (Sum.inl k9)) (fun _ =>
  Sum.elim (fun k9 => some (Sum.inl k9)) (fun _ =>
  if p1 = 0 then
    some (Sum.inr (F_X11_at (((t + 24) + 1) + 1) 7 p0 M))
  else if p1 = 1 then
    (grd (M t 1)).bind fun w5 =>
    some (Sum.inr (F_X11_at (w5 + 4) 7 p0 M))
  else if p1 = 2 then
    some (Sum.inr (F_X11_at (((t + 24) + 1) + 2) 7 p0 M))
  else if p1 = 3 then
    (grd (M t 1)).bind fun w8 =>
    some (Sum.inr (((M w8 4) >>> (p0 &&& 31)) &&& 1))
  else (grd (M t 1)).bind fun w10 =>
  (F_X9_seenIn w10 ((t + 24) + 1) p0 (F_X11_at (((t + 24) + 1) + 3) 7 p0 M) 1 M).bind fun q11 =>
  some (Sum.inr q11)) (F_X11_needWhat p1 5 M)) q1
def F_X11_walk (t : Nat) (p0 : Int32) (p1 : Int32) (M : Mem) : Option (Sum Nat (Int32)) :=
  (F_X11_needPlace t p0 p1 M).bind fun q1 => Sum.elim (fun k9 => some (Sum.inl k9)) (fun _ =>
  some (Sum.inr (F_X11_streetIn (F_X11_at (((t + 24) + 1) + 3) 7 p0 M) p1))) q1
def F_X11_bribe (t : Nat) (p0 : Int32) (M : Mem) : Option (Sum Nat (Int32 × Mem)) :=
  (F_X11_needPerson t p0 M).bind fun q1 => Sum.elim (fun k9 => some (Sum.inl k9)) (fun _ =>
  if (bi (F_X8_canBribe ((t + 24) + 1) p0 M)) = 0 then
    some (Sum.inr ((F_X0_refuse (t + 24) 1 M).1, (F_X0_refuse (t + 24) 1 M).2))
  else
    (F_X0_keepAct (t + 24) M).bind fun q3 =>
    some (Sum.inr ((F_X11_at (((t + 24) + 1) + 1) 7 p0 (F_X8_startBribing ((t + 24) + 1) p0 q3)), (F_X8_startBribing ((t + 24) + 1) p0 q3)))) q1
def F_X11_wander (t : Nat) (p0 : Int32) (p1 : Int32) (p2 : Int32) (M : Mem) : Option (Sum Nat (Int32 × Mem)) :=
  (F_X11_needPlace t p0 p1 M).bind fun q1 => Sum.elim (fun k9 => some (Sum.inl k9)) (fun _ =>
  (F_X11_needStreet t p2 M).bind fun q2 => Sum.elim (fun k9 => some (Sum.inl k9)) (fun _ =>
  if (F_X11_streetIn (F_X11_at (((t + 24) + 1) + 3) 7 p0 M) p1) = p2 then
    some (Sum.inr ((F_X0_refuse (t + 24) 1 M).1, (F_X0_refuse (t + 24) 1 M).2))
  else
    (F_X0_keepAct (t + 24) M).bind fun q4 =>
    some (Sum.inr ((F_X11_streetIn (F_X11_at (((t + 24) + 1) + 3) 7 p0 M) p1), (F_X8_move ((t + 24) + 1) p0 p1 p2 q4)))) q2) q1
def J_X11_earn_j16 (t : Nat) (M : Mem) : Option (Sum Nat (Int32 × Mem)) :=
  some (Sum.inr ((F_X0_refuse (t + 24) 1 M).1, (F_X0_refuse (t + 24) 1 M).2))
def F_X11_earn (t : Nat) (p0 : Int32) (p1 : Int32) (M : Mem) : Option (Sum Nat (Int32 × Mem)) :=
  (F_X11_needPerson t p0 M).bind fun q1 => Sum.elim (fun k9 => some (Sum.inl k9)) (fun _ =>
  if p1 < 1 then
    J_X11_earn_j16 t M
  else
    if p1 ≤ 99 then
      (F_X0_keepAct (t + 24) M).bind fun q4 =>
      some (Sum.inr ((F_X11_at (((t + 24) + 1) + 1) 7 p0 (F_X8_addCoins ((t + 24) + 1) p0 p1 q4)), (F_X8_addCoins ((t + 24) + 1) p0 p1 q4)))
    else
      J_X11_earn_j16 t M) q1
def F_X11_lots (t : Nat) (p0 : Int32) (M : Mem) : Option (Sum Nat (Int32)) :=
  Sum.elim (fun k9 => some (Sum.inl k9)) (fun _ =>
  (grd (M t 1)).bind fun w2 =>
  (F_X9_lotsIn w2 ((t + 24) + 1) p0 M).bind fun q3 =>
  some (Sum.inr q3)) (F_X11_needWithin p0 1 40 M)
def F_X11_sold (t : Nat) (p0 : Int32) (p1 : Int32) (p2 : Int32) (M : Mem) : Option (Sum Nat (Int32 × Mem)) :=
  (F_X11_needPerson t p0 M).bind fun q1 => Sum.elim (fun k9 => some (Sum.inl k9)) (fun _ =>
  Sum.elim (fun k9 => some (Sum.inl k9)) (fun _ =>
  Sum.elim (fun k9 => some (Sum.inl k9)) (fun _ =>
  (F_X11_goAhead t p1 M).bind fun q4 =>
  if p2 = 0 then
    some (Sum.inr ((F_X11_at ((t + 52) + 3) 7 p0 q4), q4))
  else
    some (Sum.inr ((F_X11_at ((t + 52) + 4) 7 p0 q4), q4))) (F_X11_needWithin p1 1 40 M)) (F_X11_needWhat p2 2 M)) q1
def F_X11_then (t : Nat) (p0 : Int32) (p1 : Int32) (p2 : Int32) (M : Mem) : Option (Sum Nat (Int32 × Mem)) :=
  (F_X11_needPerson t p0 M).bind fun q1 => Sum.elim (fun k9 => some (Sum.inl k9)) (fun _ =>
  Sum.elim (fun k9 => some (Sum.inl k9)) (fun _ =>
  Sum.elim (fun k9 => some (Sum.inl k9)) (fun _ =>
  (F_X11_goAhead t p1 M).bind fun q4 =>
  if p2 = 0 then
    some (Sum.inr ((F_X11_at ((t + 48) + 1) 7 p0 q4), q4))
  else
    some (Sum.inr ((F_X11_at ((t + 48) + 2) 7 p0 q4), q4))) (F_X11_needWithin p1 0 40 M)) (F_X11_needWhat p2 2 M)) q1
def F_X11_dark (t : Nat) (p0 : Int32) (M : Mem) : Option (Sum Nat (Int32 × Mem)) :=
  Sum.elim (fun k9 => some (Sum.inl k9)) (fun _ =>
  (F_X11_goAhead t p0 M).bind fun q2 =>
  some (Sum.inr ((q2 (t + 48) 1), q2))) (F_X11_needWithin p0 0 40 M)
def F_X11_first (t : Nat) (p0 : Int32) (M : Mem) : Option (Sum Nat (Int32)) :=
  (F_X11_needPerson t p0 M).bind fun q1 => Sum.elim (fun k9 => some (Sum.inl k9)) (fun _ =>
  (F_X11_firstSeen t p0 M).bind fun q2 =>
  some (Sum.inr q2)) q1
def L_X11_haunt_14 (t : Nat) (x1 : Int32) (M : Mem) : Nat → Int32 → Int32 → Int32 → Option (Int32)
  | 0, _, _, _ => none
  | m9 + 1, x2, x3, x4 =>
    (grd (M t 1)).bind fun w2 =>
    if (M w2 0) ≤ x4 then
      some x2
    else
      (grd (M t 1)).bind fun w4 =>
      (F_X9_seenAt w4 ((t + 24) + 1) x4 x1 M).bind fun q5 =>
      if q5 ≤ x3 then
        L_X11_haunt_14 t x1 M m9 x2 x3 (x4 + 1)
      else
        L_X11_haunt_14 t x1 M m9 x4 q5 (x4 + 1)
def F_X11_haunt (t : Nat) (p0 : Int32) (M : Mem) : Option (Sum Nat (Int32)) :=
  Sum.elim (fun k9 => some (Sum.inl k9)) (fun _ =>
  (L_X11_haunt_14 t p0 M FU (-1) 0 0).bind fun s8 =>
  some (Sum.inr s8)) (F_X11_needWithin p0 1 40 M)
def F_X11_watch (t : Nat) (p0 : Int32) (p1 : Int32) (M : Mem) : Option (Sum Nat (Int32)) :=
  Sum.elim (fun k9 => some (Sum.inl k9)) (fun _ =>
  Sum.elim (fun k9 => some (Sum.inl k9)) (fun _ =>
  (grd (M t 1)).bind fun w3 =>
  (F_X9_watchAt w3 (((M ((t + 24) + 1) 0) + p0) - 1) p1 M).bind fun q4 =>
  some (Sum.inr q4)) (F_X11_needWithin p1 0 5 M)) (F_X11_needWithin p0 1 40 M)
def L_X11_way_17 (t : Nat) (x2 : Int32) (M : Mem) : Nat → Int32 → Int32 → Option (Sum (Int32) (Unit))
  | 0, _, _ => none
  | m9 + 1, x3, x4 =>
    if 8 ≤ x4 then
      some (Sum.inr ())
    else
      if ((x3 >>> (x2 &&& 31)) &&& 1) = 0 then
        (grd (M t 1)).bind fun w5 =>
        (F_X9_spread w5 x3 M).bind fun q6 =>
        L_X11_way_17 t x2 M m9 q6 (x4 + 1)
      else
        some (Sum.inl x4)
def F_X11_way (t : Nat) (p0 : Int32) (p1 : Int32) (M : Mem) : Option (Sum Nat (Int32)) :=
  (F_X11_needStreet t p0 M).bind fun q1 => Sum.elim (fun k9 => some (Sum.inl k9)) (fun _ =>
  (F_X11_needStreet t p1 M).bind fun q2 => Sum.elim (fun k9 => some (Sum.inl k9)) (fun _ =>
  (L_X11_way_17 t p1 M FU ((1 : Int32) <<< (p0 &&& 31)) 0).bind fun q7 => Sum.elim (fun v => some (Sum.inr v)) (fun s8 =>
  some (Sum.inr (-1))) q7) q2) q1
def J_X11_sneak_j38 (t : Nat) (rec : Int32 → Int32 → Option (Sum (Int32) (Unit))) (x2 : Int32) (x3 : Int32) (x4 : Int32) (M : Mem) : Option (Sum (Int32) (Unit)) :=
  (grd (M t 1)).bind fun w5 =>
  (F_X9_watchAt w5 (M ((t + 24) + 1) 0) x4 M).bind fun q6 =>
  if (((x3 &&& (((1 : Int32) <<< (q6 &&& 31)) ^^^ (-1))) >>> (x2 &&& 31)) &&& 1) = 0 then
    rec (x3 &&& (((1 : Int32) <<< (q6 &&& 31)) ^^^ (-1))) (x4 + 1)
  else
    some (Sum.inl x4)
def L_X11_sneak_17 (t : Nat) (x2 : Int32) (M : Mem) : Nat → Int32 → Int32 → Option (Sum (Int32) (Unit))
  | 0, _, _ => none
  | m9 + 1, x3, x4 =>
    if 6 ≤ x4 then
      some (Sum.inr ())
    else
      if x4 ≤ 0 then
        J_X11_sneak_j38 t (L_X11_sneak_17 t x2 M m9) x2 x3 x4 M
      else
        (grd (M t 1)).bind fun w8 =>
        (F_X9_spread w8 x3 M).bind fun q9 =>
        J_X11_sneak_j38 t (L_X11_sneak_17 t x2 M m9) x2 q9 x4 M
def F_X11_sneak (t : Nat) (p0 : Int32) (p1 : Int32) (M : Mem) : Option (Sum Nat (Int32)) :=
  (F_X11_needStreet t p0 M).bind fun q1 => Sum.elim (fun k9 => some (Sum.inl k9)) (fun _ =>
  (F_X11_needStreet t p1 M).bind fun q2 => Sum.elim (fun k9 => some (Sum.inl k9)) (fun _ =>
  (L_X11_sneak_17 t p1 M FU ((1 : Int32) <<< (p0 &&& 31)) 0).bind fun q10 => Sum.elim (fun v => some (Sum.inr v)) (fun s11 =>
  some (Sum.inr (-1))) q10) q2) q1
def L_X11_safe_22 (t : Nat) (x1 : Int32) (x2 : Int32) (M : Mem) : Nat → Int32 → Int32 → Option (Int32)
  | 0, _, _ => none
  | m9 + 1, x3, x4 =>
    if x2 ≤ x4 then
      some x3
    else
      (F_X11_isSafe t x1 x4 (F_X11_streetIn (F_X11_at (((t + 24) + 1) + 3) 7 x1 M) x4) M).bind fun q4 =>
      if (bi q4) = 0 then
        L_X11_safe_22 t x1 x2 M m9 x3 (x4 + 1)
      else
        L_X11_safe_22 t x1 x2 M m9 (x3 ||| ((1 : Int32) <<< (x4 &&& 31))) (x4 + 1)
def F_X11_safe (t : Nat) (p0 : Int32) (M : Mem) : Option (Sum Nat (Int32)) :=
  (F_X11_needPerson t p0 M).bind fun q1 => Sum.elim (fun k9 => some (Sum.inl k9)) (fun _ =>
  (grd (M t 1)).bind fun w2 =>
  (L_X11_safe_22 t p0 (F_X11_at (w2 + 4) 7 p0 M) M FU 0 0).bind fun s7 =>
  some (Sum.inr s7)) q1
def L_X11_toHide_22 (t : Nat) (x1 : Int32) (x2 : Int32) (M : Mem) : Nat → Int32 → Int32 → Option (Sum (Int32) (Int32))
  | 0, _, _ => none
  | m9 + 1, x3, x4 =>
    if x2 ≤ x4 then
      some (Sum.inr x3)
    else
      (F_X11_isSafe t x1 x4 (F_X11_streetIn (F_X11_at (((t + 24) + 1) + 3) 7 x1 M) x4) M).bind fun q4 =>
      if (bi q4) = 0 then
        (F_X11_canHide t x1 x4 M).bind fun q6 =>
        if (bi q6) = 0 then
          some (Sum.inl (-1))
        else
          L_X11_toHide_22 t x1 x2 M m9 (x3 + 1) (x4 + 1)
      else
        L_X11_toHide_22 t x1 x2 M m9 x3 (x4 + 1)
def F_X11_toHide (t : Nat) (p0 : Int32) (M : Mem) : Option (Sum Nat (Int32)) :=
  (F_X11_needPerson t p0 M).bind fun q1 => Sum.elim (fun k9 => some (Sum.inl k9)) (fun _ =>
  (grd (M t 1)).bind fun w2 =>
  (L_X11_toHide_22 t p0 (F_X11_at (w2 + 4) 7 p0 M) M FU 0 0).bind fun q8 => Sum.elim (fun v => some (Sum.inr v)) (fun s9 =>
  some (Sum.inr s9)) q8) q1
def L_X11_toWin_47 (t : Nat) (x1 : Int32) (x2 : Int32) : Nat → Int32 → Mem → Option (Sum (Int32 × Mem) (Mem))
  | 0, _, _ => none
  | m9 + 1, x3, M =>
    if 999 < x3 then
      some (Sum.inr M)
    else
      (F_X11_wouldBuy t x1 x2 x3 M).bind fun q7 =>
      if (bi q7.1) = 0 then
        L_X11_toWin_47 t x1 x2 m9 (x3 + 1) q7.2
      else
        some (Sum.inl (x3, q7.2))
def F_X11_toWin (t : Nat) (p0 : Int32) (p1 : Int32) (M : Mem) : Option (Sum Nat (Int32 × Mem)) :=
  (F_X11_needPerson t p0 M).bind fun q1 => Sum.elim (fun k9 => some (Sum.inl k9)) (fun _ =>
  (F_X11_needPerson t p1 M).bind fun q2 => Sum.elim (fun k9 => some (Sum.inl k9)) (fun _ =>
  (grd (M t 1)).bind fun w3 =>
  (F_X9_seenIn w3 ((t + 24) + 1) p1 (F_X11_at (((t + 24) + 1) + 3) 7 p1 M) 1 M).bind fun q4 =>
  if q4 = 0 then
    some (Sum.inr ((-1), M))
  else
    (L_X11_toWin_47 t p0 p1 FU 0 M).bind fun q9 => Sum.elim (fun v => some (Sum.inr v)) (fun s10 =>
    some (Sum.inr ((-1), s10))) q9) q2) q1
def J_X11_given_j10 (t : Nat) (x1 : Int32) (M : Mem) : Option (Sum Nat (Int32 × Mem)) :=
  (F_X8_copy (t + 48) ((t + 24) + 1) M).bind fun q2 =>
  (grd (q2 t 1)).bind fun w3 =>
  (grd (q2 t 1)).bind fun w4 =>
  (F_X9_fogOf w4 (q2 (t + 48) 0) q2).bind fun q5 =>
  (F_X6_open (t + 52) w3 (t + 48) q5 q2).bind fun q6 =>
  (grd (q6 t 1)).bind fun w7 =>
  (F_X3_giveOut (t + 57) w7 (t + 48) (t + 52) q6).bind fun q8 =>
  if x1 = (-1) then
    some (Sum.inr ((F_X3_allTogether (t + 57) q8), q8))
  else
    some (Sum.inr ((F_X11_at ((t + 57) + 3) 7 x1 q8), q8))
def F_X11_given (t : Nat) (p0 : Int32) (M : Mem) : Option (Sum Nat (Int32 × Mem)) :=
  if p0 = (-1) then
    J_X11_given_j10 t p0 M
  else
    (F_X11_needPerson t p0 M).bind fun q10 => Sum.elim (fun k9 => some (Sum.inl k9)) (fun _ =>
    J_X11_given_j10 t p0 M) q10
def L_X11_gossip_11 (t : Nat) (x1 : Int32) (M : Mem) : Nat → Int32 → Int32 → Option (Int32)
  | 0, _, _ => none
  | m9 + 1, x2, x3 =>
    if 7 ≤ x3 then
      some x2
    else
      (F_X8_knownBy ((t + 24) + 1) x2 M).bind fun q3 =>
      L_X11_gossip_11 t x1 M m9 (x2 ||| q3) (x3 + 1)
def F_X11_gossip (t : Nat) (p0 : Int32) (M : Mem) : Option (Sum Nat (Int32)) :=
  (F_X11_needPerson t p0 M).bind fun q1 => Sum.elim (fun k9 => some (Sum.inl k9)) (fun _ =>
  (L_X11_gossip_11 t p0 M FU ((1 : Int32) <<< (p0 &&& 31)) 0).bind fun s5 =>
  some (Sum.inr (s5 &&& (((1 : Int32) <<< (p0 &&& 31)) ^^^ (-1))))) q1
def J_X11_most_j61 (t : Nat) (rec : Int32 → Int32 → Int32 → Option (Int32)) (x1 : Int32) (x2 : Int32) (x3 : Int32) (x4 : Int32) (y0 : Int32) (M : Mem) : Option (Int32) :=
  if y0 ≤ x3 then
    rec x2 x3 (x4 + 1)
  else
    rec x4 y0 (x4 + 1)
def L_X11_most_12 (t : Nat) (x1 : Int32) (M : Mem) : Nat → Int32 → Int32 → Int32 → Option (Int32)
  | 0, _, _, _ => none
  | m9 + 1, x2, x3, x4 =>
    (grd (M t 1)).bind fun w2 =>
    if (M w2 3) ≤ x4 then
      some x2
    else
      if x1 = 0 then
        (F_X8_knowers ((t + 24) + 1) x4 M).bind fun q6 =>
        J_X11_most_j61 t (L_X11_most_12 t x1 M m9) x1 x2 x3 x4 (F_J6_bitCount_0f7a4 q6) M
      else
        J_X11_most_j61 t (L_X11_most_12 t x1 M m9) x1 x2 x3 x4 (F_X11_at (((t + 24) + 1) + 1) 7 x4 M) M
def F_X11_most (t : Nat) (p0 : Int32) (M : Mem) : Option (Sum Nat (Int32)) :=
  Sum.elim (fun k9 => some (Sum.inl k9)) (fun _ =>
  (L_X11_most_12 t p0 M FU (-1) (-1) 0).bind fun s8 =>
  some (Sum.inr s8)) (F_X11_needWhat p0 2 M)
def L_X11_lantern_9 (t : Nat) (x1 : Int32) (M : Mem) : Nat → Int32 → Int32 → Option (Int32)
  | 0, _, _ => none
  | m9 + 1, x2, x3 =>
    if 6 ≤ x3 then
      some x2
    else
      (grd (M t 1)).bind fun w3 =>
      (F_X9_watchAt w3 (M ((t + 24) + 1) 0) x3 M).bind fun q4 =>
      if q4 = x1 then
        L_X11_lantern_9 t x1 M m9 (x2 ||| ((1 : Int32) <<< (x3 &&& 31))) (x3 + 1)
      else
        L_X11_lantern_9 t x1 M m9 x2 (x3 + 1)
def F_X11_lantern (t : Nat) (p0 : Int32) (M : Mem) : Option (Sum Nat (Int32)) :=
  (F_X11_needStreet t p0 M).bind fun q1 => Sum.elim (fun k9 => some (Sum.inl k9)) (fun _ =>
  (L_X11_lantern_9 t p0 M FU 0 0).bind fun s7 =>
  some (Sum.inr s7)) q1
def L_X11_meet_15 (t : Nat) (x1 : Int32) (x2 : Int32) (M : Mem) : Nat → Int32 → Int32 → Option (Int32)
  | 0, _, _ => none
  | m9 + 1, x3, x4 =>
    if 6 ≤ x4 then
      some x3
    else
      (F_X11_streetNow t x1 x4 M).bind fun q4 =>
      (F_X11_streetNow t x2 x4 M).bind fun q5 =>
      if q4 = q5 then
        L_X11_meet_15 t x1 x2 M m9 (x3 ||| ((1 : Int32) <<< (x4 &&& 31))) (x4 + 1)
      else
        L_X11_meet_15 t x1 x2 M m9 x3 (x4 + 1)
def F_X11_meet (t : Nat) (p0 : Int32) (p1 : Int32) (M : Mem) : Option (Sum Nat (Int32)) :=
  (F_X11_needPerson t p0 M).bind fun q1 => Sum.elim (fun k9 => some (Sum.inl k9)) (fun _ =>
  (F_X11_needPerson t p1 M).bind fun q2 => Sum.elim (fun k9 => some (Sum.inl k9)) (fun _ =>
  (L_X11_meet_15 t p0 p1 M FU 0 0).bind fun s8 =>
  some (Sum.inr s8)) q2) q1
def L_X11_spends_31 (t : Nat) (x1 : Int32) (x2 : Int32) : Nat → Int32 → Int32 → Mem → Option (Int32 × Mem)
  | 0, _, _, _ => none
  | m9 + 1, x3, x4, M =>
    if x2 ≤ x4 then
      some (x3, M)
    else
      (grd (M t 1)).bind fun w5 =>
      (grd (M t 1)).bind fun w6 =>
      (F_X9_fogOf w6 (M (t + 48) 0) M).bind fun q7 =>
      (F_X6_pass (t + 52) w5 (t + 48) q7 M).bind fun q8 =>
      (F_X6_paidBy (t + 52) x1 q8).bind fun q9 =>
      L_X11_spends_31 t x1 x2 m9 (x3 + q9) (x4 + 1) q8
def F_X11_spends (t : Nat) (p0 : Int32) (p1 : Int32) (M : Mem) : Option (Sum Nat (Int32 × Mem)) :=
  (F_X11_needPerson t p0 M).bind fun q1 => Sum.elim (fun k9 => some (Sum.inl k9)) (fun _ =>
  Sum.elim (fun k9 => some (Sum.inl k9)) (fun _ =>
  (F_X8_copy (t + 48) ((t + 24) + 1) M).bind fun q3 =>
  (L_X11_spends_31 t p0 p1 FU 0 0 q3).bind fun s11 =>
  some (Sum.inr (s11.1, s11.2))) (F_X11_needWithin p1 0 40 M)) q1
def F_X11_unknown (t : Nat) (p0 : Int32) (M : Mem) : Option (Sum Nat (Int32)) :=
  (F_X11_needPerson t p0 M).bind fun q1 => Sum.elim (fun k9 => some (Sum.inl k9)) (fun _ =>
  (grd (M t 1)).bind fun w2 =>
  (F_X8_knowers ((t + 24) + 1) p0 M).bind fun q3 =>
  some (Sum.inr (((((1 : Int32) <<< ((M w2 3) &&& 31)) - 1) &&& (((1 : Int32) <<< (p0 &&& 31)) ^^^ (-1))) &&& (q3 ^^^ (-1))))) q1
def J_X11_tell_j29 (t : Nat) (M : Mem) : Option (Sum Nat (Int32 × Mem)) :=
  some (Sum.inr ((F_X0_refuse (t + 24) 2 M).1, (F_X0_refuse (t + 24) 2 M).2))
def F_X11_tell (t : Nat) (p0 : Int32) (p1 : Int32) (p2 : Int32) (M : Mem) : Option (Sum Nat (Int32 × Mem)) :=
  (F_X11_needPerson t p0 M).bind fun q1 => Sum.elim (fun k9 => some (Sum.inl k9)) (fun _ =>
  if p1 < 1 then
    J_X11_tell_j29 t M
  else
    if 12 < p1 then
      J_X11_tell_j29 t M
    else
      if (bi (F_X7_hasRoom ((t + 24) + 7) M)) = 0 then
        J_X11_tell_j29 t M
      else
        some (Sum.inr (((F_X7_add ((t + 24) + 7) p0 p1 p2 M) ((t + 24) + 7) 3), (F_X7_add ((t + 24) + 7) p0 p1 p2 M)))) q1
def F_X11_otherwise (t : Nat) (p0 : Int32) (M : Mem) : Option (Sum Nat (Int32 × Mem)) :=
  Sum.elim (fun k9 => some (Sum.inl k9)) (fun _ =>
  (grd (M t 1)).bind fun w2 =>
  (F_X4_scan (t + 61) w2 ((t + 24) + 1) ((t + 24) + 7) M).bind fun q3 =>
  if p0 = 2 then
    some (Sum.inr ((if (q3 (t + 61) 4) = 0 then (0 : Int32) else (1 : Int32)), q3))
  else
    some (Sum.inr ((if p0 = 0 then (q3 (t + 61) 2) else (q3 (t + 61) 3)), q3))) (F_X11_needWhat p0 3 M)
def F_X11_look (t : Nat) (p0 : Int32) (M : Mem) : Option (Sum Nat (Int32 × Mem)) :=
  Sum.elim (fun k9 => some (Sum.inl k9)) (fun _ =>
  (grd (M t 1)).bind fun w2 =>
  (F_X4_scan (t + 61) w2 ((t + 24) + 1) ((t + 24) + 7) M).bind fun q3 =>
  if p0 = 0 then
    (F_X4_nightToLook (t + 61) q3).bind fun q6 =>
    some (Sum.inr (q6, q3))
  else
    (F_X4_mostUnlike (t + 61) q3).bind fun q5 =>
    some (Sum.inr (q5, q3))) (F_X11_needWhat p0 2 M)
def L_X11_game_102 (t : Nat) (x3 : Int32) (x4 : Int32) (x5 : Int32) (x8 : Int32) (M : Mem) : Nat → Int32 → Int32 → Int32 → Option (Int32 × Int32)
  | 0, _, _, _ => none
  | m9 + 1, x6, x7, x9 =>
    if x5 ≤ x9 then
      some (x6, x7)
    else
      if (bi (F_X11_rests t x8 x9 x4 x5 M)) = 0 then
        L_X11_game_102 t x3 x4 x5 x8 M m9 x6 x7 (x9 + 1)
      else
        L_X11_game_102 t x3 x4 x5 x8 M m9 (x6 + 1) (if x6 = 0 then ((10 * x8) + x9) else x7) (x9 + 1)
def L_X11_game_92 (t : Nat) (x3 : Int32) (x4 : Int32) (x5 : Int32) (M : Mem) : Nat → Int32 → Int32 → Int32 → Option (Int32 × Int32)
  | 0, _, _, _ => none
  | m9 + 1, x6, x7, x8 =>
    if x4 ≤ x8 then
      some (x6, x7)
    else
      (L_X11_game_102 t x3 x4 x5 x8 M FU x6 x7 0).bind fun s16 =>
      L_X11_game_92 t x3 x4 x5 M m9 s16.1 s16.2 (x8 + 1)
def F_X11_game (t : Nat) (p0 : Int32) (p1 : Int32) (p2 : Int32) (M : Mem) : Option (Sum Nat (Int32 × Mem)) :=
  (F_X11_needPerson t p0 M).bind fun q1 => Sum.elim (fun k9 => some (Sum.inl k9)) (fun _ =>
  (F_X11_needPerson t p1 M).bind fun q2 => Sum.elim (fun k9 => some (Sum.inl k9)) (fun _ =>
  Sum.elim (fun k9 => some (Sum.inl k9)) (fun _ =>
  if p0 = p1 then
    some (Sum.inl 2)
  else
    (F_X11_playCouples t p0 p1 (if (bi (F_X8_canBribe ((t + 24) + 1) p0 M)) = 0 then (1 : Int32) else (2 : Int32)) (if (bi (F_X8_canBribe ((t + 24) + 1) p1 M)) = 0 then (1 : Int32) else (2 : Int32)) M).bind fun q9 =>
    (L_X11_game_92 t p2 (if (bi (F_X8_canBribe ((t + 24) + 1) p0 M)) = 0 then (1 : Int32) else (2 : Int32)) (if (bi (F_X8_canBribe ((t + 24) + 1) p1 M)) = 0 then (1 : Int32) else (2 : Int32)) q9 FU 0 (-1) 0).bind fun s18 =>
    some (Sum.inr ((if p2 = 0 then s18.1 else s18.2), q9))) (F_X11_needWhat p2 2 M)) q2) q1
def L_X11_years_40 (t : Nat) (x2 : Int32) (x3 : Int32) : Nat → Int32 → Int32 → Mem → Option (Int32 × Mem)
  | 0, _, _, _ => none
  | m9 + 1, x4, x5, M =>
    if x2 ≤ x5 then
      some (x4, M)
    else
      (F_X11_drawEvent t M).bind fun q5 =>
      (grd (q5 t 1)).bind fun w6 =>
      (F_X2_draw (t + 64) 10 q5).bind fun q7 =>
      (F_X6_pass (t + 52) w6 (t + 48) q7.1 q7.2).bind fun q8 =>
      L_X11_years_40 t x2 x3 m9 (x4 + (q8 (t + 52) 5)) (x5 + 1) q8
def F_X11_years (t : Nat) (p0 : Int32) (p1 : Int32) (p2 : Int32) (M : Mem) : Option (Sum Nat (Int32 × Mem)) :=
  Sum.elim (fun k9 => some (Sum.inl k9)) (fun _ =>
  Sum.elim (fun k9 => some (Sum.inl k9)) (fun _ =>
  (F_X8_copy (t + 48) ((t + 24) + 1) M).bind fun q3 =>
  (L_X11_years_40 t p1 p2 FU 0 0 (F_X2_start (t + 64) p0 q3)).bind fun s10 =>
  if p2 = 0 then
    some (Sum.inr (s10.1, s10.2))
  else
    if p2 = 1 then
      some (Sum.inr ((s10.2 (t + 48) 1), s10.2))
    else
      (F_X8_coinsOfAll (t + 48) s10.2).bind fun q13 =>
      some (Sum.inr (q13, s10.2))) (F_X11_needWithin p1 0 40 M)) (F_X11_needWhat p2 3 M)
