/-! ===== the law, as a function ===== -/
def rd (L : Nat) (xs : Nat → Int32) (i : Int32) : Option Int32 := if ¬ (i < 0 ∨ L ≤ i.toNatClampNeg) then some (xs i.toNatClampNeg) else none
def J_law_0 (L : Nat) (xs : Nat → Int32) (rec : Int32 → Mem → Option Mem) (x4 : Int32) (M : Mem) : Option Mem :=
  (rd L xs (x4 + 1)).bind fun v1 =>
  (rd L xs (x4 + 2)).bind fun v2 =>
  (rd L xs (x4 + 3)).bind fun v3 =>
  (rd L xs (x4 + 4)).bind fun v4 =>
  (rd L xs (x4 + 5)).bind fun v5 =>
  (F_X11_feed 0 v1 v2 v3 v4 v5 M).bind fun q6 =>
  (rd L xs (x4 + 1)).bind fun v7 =>
  (rd L xs (x4 + 2)).bind fun v8 =>
  (rd L xs (x4 + 3)).bind fun v9 =>
  (rd L xs (x4 + 4)).bind fun v10 =>
  (rd L xs (x4 + 5)).bind fun v11 =>
  (F_X12_feed 67 v7 v8 v9 v10 v11 q6.2).bind fun q12 =>
  if q6.1 = q12.1 then
  rec (x4 + 6) q12.2
  else
  none
def J_law_1 (L : Nat) (xs : Nat → Int32) (rec : Int32 → Mem → Option Mem) (x4 : Int32) (M : Mem) : Option Mem :=
  (rd L xs (x4 + 1)).bind fun v1 =>
  (F_L_ward 0 106 v1 M).bind fun q2 =>
  (rd L xs (x4 + 1)).bind fun v3 =>
  (F_X12_ward 67 v3 q2.2).bind fun q4 =>
  if (F_X12_thrown 67 q4.2) = q2.1 then
  if q2.1 = 0 then
  if (lg_cmp ((q4.2 106 0).toInt64) q4.1.toInt64) = 0 then
  rec (x4 + 6) q4.2
  else
  none
  else
  rec (x4 + 6) q4.2
  else
  none
def J_law_2 (L : Nat) (xs : Nat → Int32) (rec : Int32 → Mem → Option Mem) (x4 : Int32) (M : Mem) : Option Mem :=
  if (F_X11_fault 0 M) = ((F_X12_fault 67 M).1) then
  rec (x4 + 6) ((F_X12_fault 67 M).2)
  else
  none
def J_law_3 (L : Nat) (xs : Nat → Int32) (rec : Int32 → Mem → Option Mem) (x4 : Int32) (M : Mem) : Option Mem :=
  (rd L xs (x4 + 1)).bind fun v1 =>
  (F_L_count 0 106 v1 M).bind fun q2 =>
  (rd L xs (x4 + 1)).bind fun v3 =>
  (F_X12_count 67 v3 q2.2).bind fun q4 =>
  if (F_X12_thrown 67 q4.2) = q2.1 then
  if q2.1 = 0 then
  if (lg_cmp ((q4.2 106 0).toInt64) q4.1.toInt64) = 0 then
  rec (x4 + 6) q4.2
  else
  none
  else
  rec (x4 + 6) q4.2
  else
  none
def J_law_4 (L : Nat) (xs : Nat → Int32) (rec : Int32 → Mem → Option Mem) (x4 : Int32) (M : Mem) : Option Mem :=
  (rd L xs (x4 + 1)).bind fun v1 =>
  (F_L_paths 0 106 v1 M).bind fun q2 =>
  (rd L xs (x4 + 1)).bind fun v3 =>
  (F_X12_paths 67 v3 q2.2).bind fun q4 =>
  if (F_X12_thrown 67 q4.2) = q2.1 then
  if q2.1 = 0 then
  if (lg_cmp ((q4.2 106 0).toInt64) q4.1.toInt64) = 0 then
  rec (x4 + 6) q4.2
  else
  none
  else
  rec (x4 + 6) q4.2
  else
  none
def J_law_5 (L : Nat) (xs : Nat → Int32) (rec : Int32 → Mem → Option Mem) (x4 : Int32) (M : Mem) : Option Mem :=
  (rd L xs (x4 + 1)).bind fun v1 =>
  (rd L xs (x4 + 2)).bind fun v2 =>
  (F_L_person 0 106 v1 v2 M).bind fun q3 =>
  (rd L xs (x4 + 1)).bind fun v4 =>
  (rd L xs (x4 + 2)).bind fun v5 =>
  (F_X12_person 67 v4 v5 q3.2).bind fun q6 =>
  if (F_X12_thrown 67 q6.2) = q3.1 then
  if q3.1 = 0 then
  if (lg_cmp ((q6.2 106 0).toInt64) q6.1.toInt64) = 0 then
  rec (x4 + 6) q6.2
  else
  none
  else
  rec (x4 + 6) q6.2
  else
  none
def J_law_6 (L : Nat) (xs : Nat → Int32) (rec : Int32 → Mem → Option Mem) (x4 : Int32) (M : Mem) : Option Mem :=
  (rd L xs (x4 + 1)).bind fun v1 =>
  (rd L xs (x4 + 2)).bind fun v2 =>
  (F_L_walk 0 106 v1 v2 M).bind fun q3 =>
  (rd L xs (x4 + 1)).bind fun v4 =>
  (rd L xs (x4 + 2)).bind fun v5 =>
  (F_X12_walk 67 v4 v5 q3.2).bind fun q6 =>
  if (F_X12_thrown 67 q6.2) = q3.1 then
  if q3.1 = 0 then
  if (lg_cmp ((q6.2 106 0).toInt64) q6.1.toInt64) = 0 then
  rec (x4 + 6) q6.2
  else
  none
  else
  rec (x4 + 6) q6.2
  else
  none
def J_law_7 (L : Nat) (xs : Nat → Int32) (rec : Int32 → Mem → Option Mem) (x4 : Int32) (M : Mem) : Option Mem :=
  (rd L xs (x4 + 1)).bind fun v1 =>
  (F_X11_nights 0 v1 M).bind fun q2 =>
  (rd L xs (x4 + 1)).bind fun v3 =>
  (F_X12_nights 67 v3 q2.2).bind fun q4 =>
  if q2.1 = q4.1 then
  rec (x4 + 6) q4.2
  else
  none
def J_law_8 (L : Nat) (xs : Nat → Int32) (rec : Int32 → Mem → Option Mem) (x4 : Int32) (M : Mem) : Option Mem :=
  (rd L xs (x4 + 1)).bind fun v1 =>
  (F_L_bribe 0 106 v1 M).bind fun q2 =>
  (rd L xs (x4 + 1)).bind fun v3 =>
  (F_X12_bribe 67 v3 q2.2).bind fun q4 =>
  if (F_X12_thrown 67 q4.2) = q2.1 then
  if q2.1 = 0 then
  if (lg_cmp ((q4.2 106 0).toInt64) q4.1.toInt64) = 0 then
  rec (x4 + 6) q4.2
  else
  none
  else
  rec (x4 + 6) q4.2
  else
  none
def J_law_9 (L : Nat) (xs : Nat → Int32) (rec : Int32 → Mem → Option Mem) (x4 : Int32) (M : Mem) : Option Mem :=
  (rd L xs (x4 + 1)).bind fun v1 =>
  (rd L xs (x4 + 2)).bind fun v2 =>
  (rd L xs (x4 + 3)).bind fun v3 =>
  (F_L_wander 0 106 v1 v2 v3 M).bind fun q4 =>
  (rd L xs (x4 + 1)).bind fun v5 =>
  (rd L xs (x4 + 2)).bind fun v6 =>
  (rd L xs (x4 + 3)).bind fun v7 =>
  (F_X12_wander 67 v5 v6 v7 q4.2).bind fun q8 =>
  if (F_X12_thrown 67 q8.2) = q4.1 then
  if q4.1 = 0 then
  if (lg_cmp ((q8.2 106 0).toInt64) q8.1.toInt64) = 0 then
  rec (x4 + 6) q8.2
  else
  none
  else
  rec (x4 + 6) q8.2
  else
  none
def J_law_10 (L : Nat) (xs : Nat → Int32) (rec : Int32 → Mem → Option Mem) (x4 : Int32) (M : Mem) : Option Mem :=
  (rd L xs (x4 + 1)).bind fun v1 =>
  (rd L xs (x4 + 2)).bind fun v2 =>
  (F_L_earn 0 106 v1 v2 M).bind fun q3 =>
  (rd L xs (x4 + 1)).bind fun v4 =>
  (rd L xs (x4 + 2)).bind fun v5 =>
  (F_X12_earn 67 v4 v5 q3.2).bind fun q6 =>
  if (F_X12_thrown 67 q6.2) = q3.1 then
  if q3.1 = 0 then
  if (lg_cmp ((q6.2 106 0).toInt64) q6.1.toInt64) = 0 then
  rec (x4 + 6) q6.2
  else
  none
  else
  rec (x4 + 6) q6.2
  else
  none
def J_law_11 (L : Nat) (xs : Nat → Int32) (rec : Int32 → Mem → Option Mem) (x4 : Int32) (M : Mem) : Option Mem :=
  (rd L xs (x4 + 1)).bind fun v1 =>
  (F_X11_reserve 0 v1 M).bind fun q2 =>
  (rd L xs (x4 + 1)).bind fun v3 =>
  (F_X12_reserve 67 v3 q2.2).bind fun q4 =>
  if q2.1 = q4.1 then
  rec (x4 + 6) q4.2
  else
  none
def J_law_12 (L : Nat) (xs : Nat → Int32) (rec : Int32 → Mem → Option Mem) (x4 : Int32) (M : Mem) : Option Mem :=
  (F_X11_undo 0 M).bind fun q1 =>
  (F_X12_undo 67 q1.2).bind fun q2 =>
  if q1.1 = q2.1 then
  rec (x4 + 6) q2.2
  else
  none
def J_law_13 (L : Nat) (xs : Nat → Int32) (rec : Int32 → Mem → Option Mem) (x4 : Int32) (M : Mem) : Option Mem :=
  (rd L xs (x4 + 1)).bind fun v1 =>
  (F_L_lots 0 106 v1 M).bind fun q2 =>
  (rd L xs (x4 + 1)).bind fun v3 =>
  (F_X12_lots 67 v3 q2.2).bind fun q4 =>
  if (F_X12_thrown 67 q4.2) = q2.1 then
  if q2.1 = 0 then
  if (lg_cmp ((q4.2 106 0).toInt64) q4.1.toInt64) = 0 then
  rec (x4 + 6) q4.2
  else
  none
  else
  rec (x4 + 6) q4.2
  else
  none
def J_law_14 (L : Nat) (xs : Nat → Int32) (rec : Int32 → Mem → Option Mem) (x4 : Int32) (M : Mem) : Option Mem :=
  (rd L xs (x4 + 1)).bind fun v1 =>
  (rd L xs (x4 + 2)).bind fun v2 =>
  (rd L xs (x4 + 3)).bind fun v3 =>
  (F_L_sold 0 106 v1 v2 v3 M).bind fun q4 =>
  (rd L xs (x4 + 1)).bind fun v5 =>
  (rd L xs (x4 + 2)).bind fun v6 =>
  (rd L xs (x4 + 3)).bind fun v7 =>
  (F_X12_sold 67 v5 v6 v7 q4.2).bind fun q8 =>
  if (F_X12_thrown 67 q8.2) = q4.1 then
  if q4.1 = 0 then
  if (lg_cmp ((q8.2 106 0).toInt64) q8.1.toInt64) = 0 then
  rec (x4 + 6) q8.2
  else
  none
  else
  rec (x4 + 6) q8.2
  else
  none
def J_law_15 (L : Nat) (xs : Nat → Int32) (rec : Int32 → Mem → Option Mem) (x4 : Int32) (M : Mem) : Option Mem :=
  (rd L xs (x4 + 1)).bind fun v1 =>
  (rd L xs (x4 + 2)).bind fun v2 =>
  (rd L xs (x4 + 3)).bind fun v3 =>
  (F_L_then 0 106 v1 v2 v3 M).bind fun q4 =>
  (rd L xs (x4 + 1)).bind fun v5 =>
  (rd L xs (x4 + 2)).bind fun v6 =>
  (rd L xs (x4 + 3)).bind fun v7 =>
  (F_X12_then 67 v5 v6 v7 q4.2).bind fun q8 =>
  if (F_X12_thrown 67 q8.2) = q4.1 then
  if q4.1 = 0 then
  if (lg_cmp ((q8.2 106 0).toInt64) q8.1.toInt64) = 0 then
  rec (x4 + 6) q8.2
  else
  none
  else
  rec (x4 + 6) q8.2
  else
  none
def J_law_16 (L : Nat) (xs : Nat → Int32) (rec : Int32 → Mem → Option Mem) (x4 : Int32) (M : Mem) : Option Mem :=
  (rd L xs (x4 + 1)).bind fun v1 =>
  (F_L_dark 0 106 v1 M).bind fun q2 =>
  (rd L xs (x4 + 1)).bind fun v3 =>
  (F_X12_dark 67 v3 q2.2).bind fun q4 =>
  if (F_X12_thrown 67 q4.2) = q2.1 then
  if q2.1 = 0 then
  if (lg_cmp ((q4.2 106 0).toInt64) q4.1.toInt64) = 0 then
  rec (x4 + 6) q4.2
  else
  none
  else
  rec (x4 + 6) q4.2
  else
  none
def J_law_17 (L : Nat) (xs : Nat → Int32) (rec : Int32 → Mem → Option Mem) (x4 : Int32) (M : Mem) : Option Mem :=
  (rd L xs (x4 + 1)).bind fun v1 =>
  (F_L_first 0 106 v1 M).bind fun q2 =>
  (rd L xs (x4 + 1)).bind fun v3 =>
  (F_X12_first 67 v3 q2.2).bind fun q4 =>
  if (F_X12_thrown 67 q4.2) = q2.1 then
  if q2.1 = 0 then
  if (lg_cmp ((q4.2 106 0).toInt64) q4.1.toInt64) = 0 then
  rec (x4 + 6) q4.2
  else
  none
  else
  rec (x4 + 6) q4.2
  else
  none
def J_law_18 (L : Nat) (xs : Nat → Int32) (rec : Int32 → Mem → Option Mem) (x4 : Int32) (M : Mem) : Option Mem :=
  (F_X11_secret 0 M).bind fun q1 =>
  (F_X12_secret 67 M).bind fun q2 =>
  if q1 = q2.1 then
  rec (x4 + 6) q2.2
  else
  none
def J_law_19 (L : Nat) (xs : Nat → Int32) (rec : Int32 → Mem → Option Mem) (x4 : Int32) (M : Mem) : Option Mem :=
  (rd L xs (x4 + 1)).bind fun v1 =>
  (F_L_haunt 0 106 v1 M).bind fun q2 =>
  (rd L xs (x4 + 1)).bind fun v3 =>
  (F_X12_haunt 67 v3 q2.2).bind fun q4 =>
  if (F_X12_thrown 67 q4.2) = q2.1 then
  if q2.1 = 0 then
  if (lg_cmp ((q4.2 106 0).toInt64) q4.1.toInt64) = 0 then
  rec (x4 + 6) q4.2
  else
  none
  else
  rec (x4 + 6) q4.2
  else
  none
def J_law_20 (L : Nat) (xs : Nat → Int32) (rec : Int32 → Mem → Option Mem) (x4 : Int32) (M : Mem) : Option Mem :=
  (rd L xs (x4 + 1)).bind fun v1 =>
  (rd L xs (x4 + 2)).bind fun v2 =>
  (F_L_watch 0 106 v1 v2 M).bind fun q3 =>
  (rd L xs (x4 + 1)).bind fun v4 =>
  (rd L xs (x4 + 2)).bind fun v5 =>
  (F_X12_watch 67 v4 v5 q3.2).bind fun q6 =>
  if (F_X12_thrown 67 q6.2) = q3.1 then
  if q3.1 = 0 then
  if (lg_cmp ((q6.2 106 0).toInt64) q6.1.toInt64) = 0 then
  rec (x4 + 6) q6.2
  else
  none
  else
  rec (x4 + 6) q6.2
  else
  none
def J_law_21 (L : Nat) (xs : Nat → Int32) (rec : Int32 → Mem → Option Mem) (x4 : Int32) (M : Mem) : Option Mem :=
  (rd L xs (x4 + 1)).bind fun v1 =>
  (rd L xs (x4 + 2)).bind fun v2 =>
  (F_L_way 0 106 v1 v2 M).bind fun q3 =>
  (rd L xs (x4 + 1)).bind fun v4 =>
  (rd L xs (x4 + 2)).bind fun v5 =>
  (F_X12_way 67 v4 v5 q3.2).bind fun q6 =>
  if (F_X12_thrown 67 q6.2) = q3.1 then
  if q3.1 = 0 then
  if (lg_cmp ((q6.2 106 0).toInt64) q6.1.toInt64) = 0 then
  rec (x4 + 6) q6.2
  else
  none
  else
  rec (x4 + 6) q6.2
  else
  none
def J_law_22 (L : Nat) (xs : Nat → Int32) (rec : Int32 → Mem → Option Mem) (x4 : Int32) (M : Mem) : Option Mem :=
  (rd L xs (x4 + 1)).bind fun v1 =>
  (rd L xs (x4 + 2)).bind fun v2 =>
  (F_L_sneak 0 106 v1 v2 M).bind fun q3 =>
  (rd L xs (x4 + 1)).bind fun v4 =>
  (rd L xs (x4 + 2)).bind fun v5 =>
  (F_X12_sneak 67 v4 v5 q3.2).bind fun q6 =>
  if (F_X12_thrown 67 q6.2) = q3.1 then
  if q3.1 = 0 then
  if (lg_cmp ((q6.2 106 0).toInt64) q6.1.toInt64) = 0 then
  rec (x4 + 6) q6.2
  else
  none
  else
  rec (x4 + 6) q6.2
  else
  none
def J_law_23 (L : Nat) (xs : Nat → Int32) (rec : Int32 → Mem → Option Mem) (x4 : Int32) (M : Mem) : Option Mem :=
  (rd L xs (x4 + 1)).bind fun v1 =>
  (F_L_safe 0 106 v1 M).bind fun q2 =>
  (rd L xs (x4 + 1)).bind fun v3 =>
  (F_X12_safe 67 v3 q2.2).bind fun q4 =>
  if (F_X12_thrown 67 q4.2) = q2.1 then
  if q2.1 = 0 then
  if (lg_cmp ((q4.2 106 0).toInt64) q4.1.toInt64) = 0 then
  rec (x4 + 6) q4.2
  else
  none
  else
  rec (x4 + 6) q4.2
  else
  none
def J_law_24 (L : Nat) (xs : Nat → Int32) (rec : Int32 → Mem → Option Mem) (x4 : Int32) (M : Mem) : Option Mem :=
  (rd L xs (x4 + 1)).bind fun v1 =>
  (F_L_toHide 0 106 v1 M).bind fun q2 =>
  (rd L xs (x4 + 1)).bind fun v3 =>
  (F_X12_toHide 67 v3 q2.2).bind fun q4 =>
  if (F_X12_thrown 67 q4.2) = q2.1 then
  if q2.1 = 0 then
  if (lg_cmp ((q4.2 106 0).toInt64) q4.1.toInt64) = 0 then
  rec (x4 + 6) q4.2
  else
  none
  else
  rec (x4 + 6) q4.2
  else
  none
def J_law_25 (L : Nat) (xs : Nat → Int32) (rec : Int32 → Mem → Option Mem) (x4 : Int32) (M : Mem) : Option Mem :=
  (rd L xs (x4 + 1)).bind fun v1 =>
  (rd L xs (x4 + 2)).bind fun v2 =>
  (F_L_toWin 0 106 v1 v2 M).bind fun q3 =>
  (rd L xs (x4 + 1)).bind fun v4 =>
  (rd L xs (x4 + 2)).bind fun v5 =>
  (F_X12_toWin 67 v4 v5 q3.2).bind fun q6 =>
  if (F_X12_thrown 67 q6.2) = q3.1 then
  if q3.1 = 0 then
  if (lg_cmp ((q6.2 106 0).toInt64) q6.1.toInt64) = 0 then
  rec (x4 + 6) q6.2
  else
  none
  else
  rec (x4 + 6) q6.2
  else
  none
def J_law_26 (L : Nat) (xs : Nat → Int32) (rec : Int32 → Mem → Option Mem) (x4 : Int32) (M : Mem) : Option Mem :=
  (rd L xs (x4 + 1)).bind fun v1 =>
  (F_L_given 0 106 v1 M).bind fun q2 =>
  (rd L xs (x4 + 1)).bind fun v3 =>
  (F_X12_given 67 v3 q2.2).bind fun q4 =>
  if (F_X12_thrown 67 q4.2) = q2.1 then
  if q2.1 = 0 then
  if (lg_cmp ((q4.2 106 0).toInt64) q4.1.toInt64) = 0 then
  rec (x4 + 6) q4.2
  else
  none
  else
  rec (x4 + 6) q4.2
  else
  none
def J_law_27 (L : Nat) (xs : Nat → Int32) (rec : Int32 → Mem → Option Mem) (x4 : Int32) (M : Mem) : Option Mem :=
  (rd L xs (x4 + 1)).bind fun v1 =>
  (F_L_gossip 0 106 v1 M).bind fun q2 =>
  (rd L xs (x4 + 1)).bind fun v3 =>
  (F_X12_gossip 67 v3 q2.2).bind fun q4 =>
  if (F_X12_thrown 67 q4.2) = q2.1 then
  if q2.1 = 0 then
  if (lg_cmp ((q4.2 106 0).toInt64) q4.1.toInt64) = 0 then
  rec (x4 + 6) q4.2
  else
  none
  else
  rec (x4 + 6) q4.2
  else
  none
def J_law_28 (L : Nat) (xs : Nat → Int32) (rec : Int32 → Mem → Option Mem) (x4 : Int32) (M : Mem) : Option Mem :=
  (rd L xs (x4 + 1)).bind fun v1 =>
  (F_L_most 0 106 v1 M).bind fun q2 =>
  (rd L xs (x4 + 1)).bind fun v3 =>
  (F_X12_most 67 v3 q2.2).bind fun q4 =>
  if (F_X12_thrown 67 q4.2) = q2.1 then
  if q2.1 = 0 then
  if (lg_cmp ((q4.2 106 0).toInt64) q4.1.toInt64) = 0 then
  rec (x4 + 6) q4.2
  else
  none
  else
  rec (x4 + 6) q4.2
  else
  none
def J_law_29 (L : Nat) (xs : Nat → Int32) (rec : Int32 → Mem → Option Mem) (x4 : Int32) (M : Mem) : Option Mem :=
  (rd L xs (x4 + 1)).bind fun v1 =>
  (F_L_lantern 0 106 v1 M).bind fun q2 =>
  (rd L xs (x4 + 1)).bind fun v3 =>
  (F_X12_lantern 67 v3 q2.2).bind fun q4 =>
  if (F_X12_thrown 67 q4.2) = q2.1 then
  if q2.1 = 0 then
  if (lg_cmp ((q4.2 106 0).toInt64) q4.1.toInt64) = 0 then
  rec (x4 + 6) q4.2
  else
  none
  else
  rec (x4 + 6) q4.2
  else
  none
def J_law_30 (L : Nat) (xs : Nat → Int32) (rec : Int32 → Mem → Option Mem) (x4 : Int32) (M : Mem) : Option Mem :=
  (rd L xs (x4 + 1)).bind fun v1 =>
  (rd L xs (x4 + 2)).bind fun v2 =>
  (F_L_meet 0 106 v1 v2 M).bind fun q3 =>
  (rd L xs (x4 + 1)).bind fun v4 =>
  (rd L xs (x4 + 2)).bind fun v5 =>
  (F_X12_meet 67 v4 v5 q3.2).bind fun q6 =>
  if (F_X12_thrown 67 q6.2) = q3.1 then
  if q3.1 = 0 then
  if (lg_cmp ((q6.2 106 0).toInt64) q6.1.toInt64) = 0 then
  rec (x4 + 6) q6.2
  else
  none
  else
  rec (x4 + 6) q6.2
  else
  none
def J_law_31 (L : Nat) (xs : Nat → Int32) (rec : Int32 → Mem → Option Mem) (x4 : Int32) (M : Mem) : Option Mem :=
  (rd L xs (x4 + 1)).bind fun v1 =>
  (rd L xs (x4 + 2)).bind fun v2 =>
  (F_L_spends 0 106 v1 v2 M).bind fun q3 =>
  (rd L xs (x4 + 1)).bind fun v4 =>
  (rd L xs (x4 + 2)).bind fun v5 =>
  (F_X12_spends 67 v4 v5 q3.2).bind fun q6 =>
  if (F_X12_thrown 67 q6.2) = q3.1 then
  if q3.1 = 0 then
  if (lg_cmp ((q6.2 106 0).toInt64) q6.1.toInt64) = 0 then
  rec (x4 + 6) q6.2
  else
  none
  else
  rec (x4 + 6) q6.2
  else
  none
def J_law_32 (L : Nat) (xs : Nat → Int32) (rec : Int32 → Mem → Option Mem) (x4 : Int32) (M : Mem) : Option Mem :=
  (rd L xs (x4 + 1)).bind fun v1 =>
  (F_L_unknown 0 106 v1 M).bind fun q2 =>
  (rd L xs (x4 + 1)).bind fun v3 =>
  (F_X12_unknown 67 v3 q2.2).bind fun q4 =>
  if (F_X12_thrown 67 q4.2) = q2.1 then
  if q2.1 = 0 then
  if (lg_cmp ((q4.2 106 0).toInt64) q4.1.toInt64) = 0 then
  rec (x4 + 6) q4.2
  else
  none
  else
  rec (x4 + 6) q4.2
  else
  none
def J_law_33 (L : Nat) (xs : Nat → Int32) (rec : Int32 → Mem → Option Mem) (x4 : Int32) (M : Mem) : Option Mem :=
  (rd L xs (x4 + 1)).bind fun v1 =>
  (rd L xs (x4 + 2)).bind fun v2 =>
  (rd L xs (x4 + 3)).bind fun v3 =>
  (F_L_tell 0 106 v1 v2 (if v3 = 0 then (0 : Int32) else (1 : Int32)) M).bind fun q6 =>
  (rd L xs (x4 + 1)).bind fun v7 =>
  (rd L xs (x4 + 2)).bind fun v8 =>
  (rd L xs (x4 + 3)).bind fun v9 =>
  (F_X12_tell 67 v7 v8 (if v9 = 0 then (0 : Int32) else (1 : Int32)) q6.2).bind fun q12 =>
  if (F_X12_thrown 67 q12.2) = q6.1 then
  if q6.1 = 0 then
  if (lg_cmp ((q12.2 106 0).toInt64) q12.1.toInt64) = 0 then
  rec (x4 + 6) q12.2
  else
  none
  else
  rec (x4 + 6) q12.2
  else
  none
def J_law_34 (L : Nat) (xs : Nat → Int32) (rec : Int32 → Mem → Option Mem) (x4 : Int32) (M : Mem) : Option Mem :=
  (rd L xs (x4 + 1)).bind fun v1 =>
  (F_L_otherwise 0 106 v1 M).bind fun q2 =>
  (rd L xs (x4 + 1)).bind fun v3 =>
  (F_X12_otherwise 67 v3 q2.2).bind fun q4 =>
  if (F_X12_thrown 67 q4.2) = q2.1 then
  if q2.1 = 0 then
  if (lg_cmp ((q4.2 106 0).toInt64) q4.1.toInt64) = 0 then
  rec (x4 + 6) q4.2
  else
  none
  else
  rec (x4 + 6) q4.2
  else
  none
def J_law_35 (L : Nat) (xs : Nat → Int32) (rec : Int32 → Mem → Option Mem) (x4 : Int32) (M : Mem) : Option Mem :=
  (rd L xs (x4 + 1)).bind fun v1 =>
  (F_L_look 0 106 v1 M).bind fun q2 =>
  (rd L xs (x4 + 1)).bind fun v3 =>
  (F_X12_look 67 v3 q2.2).bind fun q4 =>
  if (F_X12_thrown 67 q4.2) = q2.1 then
  if q2.1 = 0 then
  if (lg_cmp ((q4.2 106 0).toInt64) q4.1.toInt64) = 0 then
  rec (x4 + 6) q4.2
  else
  none
  else
  rec (x4 + 6) q4.2
  else
  none
def J_law_36 (L : Nat) (xs : Nat → Int32) (rec : Int32 → Mem → Option Mem) (x4 : Int32) (M : Mem) : Option Mem :=
  rec (x4 + 6) (F_X12_forget 67 (F_X11_forget 0 M))
def J_law_37 (L : Nat) (xs : Nat → Int32) (rec : Int32 → Mem → Option Mem) (x4 : Int32) (M : Mem) : Option Mem :=
  (rd L xs (x4 + 1)).bind fun v1 =>
  (rd L xs (x4 + 2)).bind fun v2 =>
  (rd L xs (x4 + 3)).bind fun v3 =>
  (F_L_game 0 106 v1 v2 v3 M).bind fun q4 =>
  (rd L xs (x4 + 1)).bind fun v5 =>
  (rd L xs (x4 + 2)).bind fun v6 =>
  (rd L xs (x4 + 3)).bind fun v7 =>
  (F_X12_game 67 v5 v6 v7 q4.2).bind fun q8 =>
  if (F_X12_thrown 67 q8.2) = q4.1 then
  if q4.1 = 0 then
  if (lg_cmp ((q8.2 106 0).toInt64) q8.1.toInt64) = 0 then
  rec (x4 + 6) q8.2
  else
  none
  else
  rec (x4 + 6) q8.2
  else
  none
def J_law_38 (L : Nat) (xs : Nat → Int32) (rec : Int32 → Mem → Option Mem) (x4 : Int32) (M : Mem) : Option Mem :=
  (rd L xs (x4 + 1)).bind fun v1 =>
  (rd L xs (x4 + 2)).bind fun v2 =>
  (rd L xs (x4 + 3)).bind fun v3 =>
  (F_L_years 0 106 v1 v2 v3 M).bind fun q4 =>
  (rd L xs (x4 + 1)).bind fun v5 =>
  (rd L xs (x4 + 2)).bind fun v6 =>
  (rd L xs (x4 + 3)).bind fun v7 =>
  (F_X12_years 67 v5 v6 v7 q4.2).bind fun q8 =>
  if (F_X12_thrown 67 q8.2) = q4.1 then
  if q4.1 = 0 then
  if (lg_cmp ((q8.2 106 0).toInt64) q8.1.toInt64) = 0 then
  rec (x4 + 6) q8.2
  else
  none
  else
  rec (x4 + 6) q8.2
  else
  none
def J_law_39 (L : Nat) (xs : Nat → Int32) (rec : Int32 → Mem → Option Mem) (x4 : Int32) (M : Mem) : Option Mem :=
  (F_X11_image 0 M).bind fun q1 =>
  (F_X12_image 67 q1).bind fun q2 =>
  rec (x4 + 6) q2
def J_law_40 (L : Nat) (xs : Nat → Int32) (rec : Int32 → Mem → Option Mem) (x4 : Int32) (M : Mem) : Option Mem :=
  (F_X11_restore 0 M).bind fun q1 =>
  (F_X12_restore 67 q1.2).bind fun q2 =>
  if (bi q1.1) = (bi q2.1) then
  rec (x4 + 6) q2.2
  else
  none
def ST_law (L : Nat) (xs : Nat → Int32) (rec : Int32 → Mem → Option Mem) (x4 : Int32) (M : Mem) : Option Mem :=
  (rd L xs x4).bind fun v =>
  if v &&& 63 = 0 then J_law_0 L xs rec x4 M else
  if v &&& 63 = 1 then J_law_1 L xs rec x4 M else
  if v &&& 63 = 2 then J_law_2 L xs rec x4 M else
  if v &&& 63 = 3 then J_law_3 L xs rec x4 M else
  if v &&& 63 = 4 then J_law_4 L xs rec x4 M else
  if v &&& 63 = 5 then J_law_5 L xs rec x4 M else
  if v &&& 63 = 6 then J_law_6 L xs rec x4 M else
  if v &&& 63 = 7 then J_law_7 L xs rec x4 M else
  if v &&& 63 = 8 then J_law_8 L xs rec x4 M else
  if v &&& 63 = 9 then J_law_9 L xs rec x4 M else
  if v &&& 63 = 10 then J_law_10 L xs rec x4 M else
  if v &&& 63 = 11 then J_law_11 L xs rec x4 M else
  if v &&& 63 = 12 then J_law_12 L xs rec x4 M else
  if v &&& 63 = 13 then J_law_13 L xs rec x4 M else
  if v &&& 63 = 14 then J_law_14 L xs rec x4 M else
  if v &&& 63 = 15 then J_law_15 L xs rec x4 M else
  if v &&& 63 = 16 then J_law_16 L xs rec x4 M else
  if v &&& 63 = 17 then J_law_17 L xs rec x4 M else
  if v &&& 63 = 18 then J_law_18 L xs rec x4 M else
  if v &&& 63 = 19 then J_law_19 L xs rec x4 M else
  if v &&& 63 = 20 then J_law_20 L xs rec x4 M else
  if v &&& 63 = 21 then J_law_21 L xs rec x4 M else
  if v &&& 63 = 22 then J_law_22 L xs rec x4 M else
  if v &&& 63 = 23 then J_law_23 L xs rec x4 M else
  if v &&& 63 = 24 then J_law_24 L xs rec x4 M else
  if v &&& 63 = 25 then J_law_25 L xs rec x4 M else
  if v &&& 63 = 26 then J_law_26 L xs rec x4 M else
  if v &&& 63 = 27 then J_law_27 L xs rec x4 M else
  if v &&& 63 = 28 then J_law_28 L xs rec x4 M else
  if v &&& 63 = 29 then J_law_29 L xs rec x4 M else
  if v &&& 63 = 30 then J_law_30 L xs rec x4 M else
  if v &&& 63 = 31 then J_law_31 L xs rec x4 M else
  if v &&& 63 = 32 then J_law_32 L xs rec x4 M else
  if v &&& 63 = 33 then J_law_33 L xs rec x4 M else
  if v &&& 63 = 34 then J_law_34 L xs rec x4 M else
  if v &&& 63 = 35 then J_law_35 L xs rec x4 M else
  if v &&& 63 = 36 then J_law_36 L xs rec x4 M else
  if v &&& 63 = 37 then J_law_37 L xs rec x4 M else
  if v &&& 63 = 38 then J_law_38 L xs rec x4 M else
  if v &&& 63 = 39 then J_law_39 L xs rec x4 M else
  if v &&& 63 = 40 then J_law_40 L xs rec x4 M else
  rec (x4 + 6) M
def L_law (L : Nat) (xs : Nat → Int32) : Nat → Int32 → Mem → Option Mem
  | 0, _, _ => none
  | m9 + 1, x4, M => if nI L - 6 < x4 then some M else ST_law L xs (L_law L xs m9) x4 M
/-- what the cells hold when all is made -/
def M0 : Mem := fun j => match j with
  | 0 => fun k => [0, 14, (-1)].getD k 0
  | 1 => fun k => [0, 0, 3].getD k 0
  | 3 => fun k => [4, 0, 1, 0, 0, 1, 5].getD k 0
  | 14 => fun k => [4, 0, 1, 0, 0, 1, 5].getD k 0
  | 25 => fun k => [0, 0, 0, 5].getD k 0
  | 37 => fun k => [0, 0, 0, 5].getD k 0
  | 48 => fun k => [0, 0, 0, 5].getD k 0
  | 61 => fun k => [0, 0, 0, (-1)].getD k 0
  | 67 => fun k => [0, 0, 0, 0, 0, 0, 0, 0, 0, 0, 0, 0, 0, 0, 0, 0, 0, 0, 0, 0, 0, 0, 0, (-1), 0, 0, 0, 0, 0, 0, 0, 5, 0, 0, 0, (-1)].getD k 0
  | 70 => (upd (upd (upd (fun _ => 0) 0 4) 2 1) 5 5)
  | _ => fun _ => 0
