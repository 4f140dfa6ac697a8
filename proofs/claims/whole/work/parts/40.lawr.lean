/-! ===== the law's world, whole ===== -/
def KL : List Nat := [12, 6, 1700, 10, 1008, 1008, 1007, 1007, 1007, 1008, 11, 1700, 1040, 1008, 10, 1008, 1008, 1007, 1007, 1007, 1008, 11, 1700, 1040, 1, 9, 1007, 1007, 1007, 2, 2000, 8, 1008, 1008, 1008, 1003, 1, 9, 1007, 1007, 1007, 2, 2000, 8, 1008, 1008, 1008, 1003, 9, 1007, 1007, 1007, 7, 1007, 1008, 1007, 1007, 4, 1049, 2024, 1007, 5, 1007, 1048, 3, 1004, 1004, 13, 40000, 40001, 1014, 1016, 1016, 1014, 1014, 1014, 1084, 1016, 2400, 1003, 1700, 1007, 1007, 1042, 3400, 1008, 1064, 1007, 1007, 1007, 1060, 1008, 2024, 1008, 1008, 1060, 20008, 1336, 5032, 1008, 1060, 3400, 1008, 1008, 1003, 20008, 30001]
def KDf : Nat → Nat := fun j => KL.getD j 0
theorem KDf_lt {j v : Nat} (h : KDf j = v) (hv : v ≠ 0) : j < 107 := by
  by_cases h2 : j < 107
  · exact h2
  · unfold KDf at h
    rw [List.getD_eq_getElem?_getD, List.getElem?_eq_none (by show 107 ≤ j; omega)] at h
    exact absurd h.symm hv
theorem KDf_1 : ∀ t, t < 107 → KDf t = 1 → t = 24 ∨ t = 36 := by decide +kernel
theorem KDf_2 : ∀ t, t < 107 → KDf t = 2 → t = 29 ∨ t = 41 := by decide +kernel
theorem KDf_4 : ∀ t, t < 107 → KDf t = 4 → t = 57 := by decide +kernel
theorem KDf_5 : ∀ t, t < 107 → KDf t = 5 → t = 61 := by decide +kernel
theorem KDf_6 : ∀ t, t < 107 → KDf t = 6 → t = 1 := by decide +kernel
theorem KDf_7 : ∀ t, t < 107 → KDf t = 7 → t = 52 := by decide +kernel
theorem KDf_8 : ∀ t, t < 107 → KDf t = 8 → t = 31 ∨ t = 43 := by decide +kernel
theorem KDf_9 : ∀ t, t < 107 → KDf t = 9 → t = 25 ∨ t = 37 ∨ t = 48 := by decide +kernel
theorem KDf_10 : ∀ t, t < 107 → KDf t = 10 → t = 3 ∨ t = 14 := by decide +kernel
theorem KDf_11 : ∀ t, t < 107 → KDf t = 11 → t = 10 ∨ t = 21 := by decide +kernel
theorem KDf_12 : ∀ t, t < 107 → KDf t = 12 → t = 0 := by decide +kernel
theorem KDf_13 : ∀ t, t < 107 → KDf t = 13 → t = 67 := by decide +kernel
theorem KDf_KD : KD 107 KDf := ⟨fun j hj => KDf_lt rfl hj, by decide, (fun _ _ => ⟨rfl, rfl⟩), (fun j h => by
    rcases KDf_1 j (KDf_lt h (by decide)) h with rfl | rfl <;> exact ⟨rfl, rfl, rfl, ⟨rfl, by decide⟩⟩), (fun j h => by
    rcases KDf_2 j (KDf_lt h (by decide)) h with rfl | rfl <;> exact ⟨rfl, by decide⟩), (fun j h => by
    obtain rfl := KDf_4 j (KDf_lt h (by decide)) h
    exact ⟨⟨rfl, by decide⟩, ⟨rfl, by decide⟩, ⟨rfl, by decide⟩⟩), (fun j h => by
    obtain rfl := KDf_5 j (KDf_lt h (by decide)) h
    exact ⟨⟨rfl, by decide⟩, ⟨rfl, by decide⟩⟩), (fun j h => by
    obtain rfl := KDf_6 j (KDf_lt h (by decide)) h
    exact ⟨⟨rfl, by decide⟩, ⟨rfl, by decide⟩⟩), (fun j h => by
    obtain rfl := KDf_7 j (KDf_lt h (by decide)) h
    exact ⟨⟨rfl, by decide⟩, ⟨rfl, by decide⟩, ⟨rfl, by decide⟩, ⟨rfl, by decide⟩⟩), (fun j h => by
    rcases KDf_8 j (KDf_lt h (by decide)) h with rfl | rfl <;> exact ⟨⟨rfl, by decide⟩, ⟨rfl, by decide⟩, ⟨rfl, by decide⟩⟩), (fun j h => by
    rcases KDf_9 j (KDf_lt h (by decide)) h with rfl | rfl | rfl <;> exact ⟨⟨rfl, by decide⟩, ⟨rfl, by decide⟩, ⟨rfl, by decide⟩⟩), (fun j h => by
    rcases KDf_10 j (KDf_lt h (by decide)) h with rfl | rfl <;> exact ⟨⟨rfl, by decide⟩, ⟨rfl, by decide⟩, ⟨rfl, by decide⟩, ⟨rfl, by decide⟩, ⟨rfl, by decide⟩, ⟨rfl, by decide⟩, rfl⟩), (fun j h => by
    rcases KDf_11 j (KDf_lt h (by decide)) h with rfl | rfl <;> exact ⟨⟨rfl, by decide⟩, ⟨rfl, by decide⟩⟩), (fun j h => by
    obtain rfl := KDf_12 j (KDf_lt h (by decide)) h
    exact ⟨rfl, rfl, rfl, rfl, rfl, rfl, rfl, rfl, ⟨rfl, by decide⟩, ⟨rfl, by decide⟩⟩), (fun j h => by
    obtain rfl := KDf_13 j (KDf_lt h (by decide)) h
    exact ⟨rfl, rfl, ⟨rfl, by decide⟩, ⟨rfl, by decide⟩, ⟨rfl, by decide⟩, ⟨rfl, by decide⟩, ⟨rfl, by decide⟩, ⟨rfl, by decide⟩, ⟨rfl, by decide⟩, ⟨rfl, by decide⟩, ⟨rfl, by decide⟩, ⟨rfl, by decide⟩, ⟨rfl, by decide⟩, ⟨rfl, by decide⟩, ⟨rfl, by decide⟩, ⟨rfl, by decide⟩, ⟨rfl, by decide⟩, ⟨rfl, by decide⟩, ⟨rfl, by decide⟩, ⟨rfl, by decide⟩, ⟨rfl, by decide⟩, ⟨rfl, by decide⟩, ⟨rfl, by decide⟩, ⟨rfl, by decide⟩, ⟨rfl, by decide⟩, ⟨rfl, by decide⟩, ⟨rfl, by decide⟩, ⟨rfl, by decide⟩, ⟨rfl, by decide⟩, ⟨rfl, by decide⟩, ⟨rfl, by decide⟩, ⟨rfl, by decide⟩, ⟨rfl, by decide⟩, ⟨rfl, by decide⟩, ⟨rfl, by decide⟩, ⟨rfl, by decide⟩, ⟨rfl, by decide⟩, ⟨rfl, by decide⟩⟩)⟩
theorem LA106 : LA KDf 106 1 := ⟨rfl, by decide⟩
def rd (L : Nat) (xs : Nat → Int32) (i : Int32) : Option Int32 := if ¬ (i < 0 ∨ L ≤ i.toNatClampNeg) then some (xs i.toNatClampNeg) else none
def SC (X : FX) (g : WC) (b L : Nat) (xs : Nat → Int32) : Prop := x_R X = room_1 ∧ va_X b L xs (x_s X) (x_s X).heap ∧ b < (x_s X).heap.size ∧ ¬ g_N g ≤ b
section LAWB
variable {X : FX} {g : WC} {z n nL b L d2 mc2 ms2 maxL : Nat} {xs : Nat → Int32} {E : Nat → va_E} {Xo : Nat → va_E} {M : Mem} {k sl pc : Nat} {lv : List (Nat × Value)} {st : List Value} {own : String} {cc : ByteArray}
theorem e_scl (C : Cx X g own cc nL) (S : SC X g b L xs) {i v : Int32} (hd : decode cc pc = .ok (.iaload, 1)) (h : rd L xs i = some v) (kk : EW X g z n nL E k sl (pc + 1) lv (.int v :: st)) : EW X g z n nL E k sl pc lv (.int i :: .ref b :: st) := fun H locs ls hP hz hS hl => by
  unfold rd at h
  split at h
  · rename_i h1
    obtain rfl := Option.some.inj h
    exact va_sld (A := fun q => g_N g ≤ q) C.1 C.2.1 S.2.1 S.2.2.1 S.2.2.2 hS h1 hd (kk H locs ls hP hz hS hl)
  · cases h
theorem e_sclen (C : Cx X g own cc nL) (S : SC X g b L xs) (hd : decode cc pc = .ok (.arraylength, 1)) (kk : EW X g z n nL E k sl (pc + 1) lv (.int (nI L) :: st)) : EW X g z n nL E k sl pc lv (.ref b :: st) := fun H locs ls hP hz hS hl =>
  va_slen (A := fun q => g_N g ≤ q) C.1 C.2.1 S.2.1 S.2.2.1 S.2.2.2 hS hd (kk H locs ls hP hz hS hl)
theorem lroom (S : SC X g b L xs) (h1 : d2 ≤ 200) (h2 : maxL ≤ 45) : (rm d2).frames + 1 ≤ (x_R X).frames ∧ 8 + (maxL + 11) + (rm d2).locals ≤ (x_R X).locals := by
  rw [S.1]
  simp only [rm, room_1]
  omega
theorem lroomX (S : SC X g b L xs) (h1 : d2 ≤ 200) (h2 : maxL ≤ 45) : (rmx d2 mc2 ms2).frames + 1 ≤ (x_R X).frames ∧ 8 + (maxL + 11) + (rmx d2 mc2 ms2).locals ≤ (x_R X).locals := by
  rw [S.1]
  simp only [rmx, room_1]
  omega
theorem lroomN (S : SC X g b L xs) (h1 : d2 ≤ 200) (h2 : maxL ≤ 45) : (rmn d2 mc2 ms2).frames + 1 ≤ (x_R X).frames ∧ 8 + (maxL + 11) + (rmn d2 mc2 ms2).locals ≤ (x_R X).locals := by
  rw [S.1]
  simp only [rmn, room_1]
  omega
theorem lcap (S : SC X g b L xs) (h1 : k ≤ 601024) (h2 : sl ≤ 7293033) : k ≤ (x_R X).cells ∧ sl ≤ (x_R X).slots := by
  rw [S.1]
  exact ⟨h1, h2⟩
theorem e_lald1 (C : Cx X g own cc nL) (hd : decode cc pc = .ok (.laload, 1)) (kk : EW X g z 107 nL (ent g Xo KDf M) k sl (pc + 1) lv (.long (M 106 0).toInt64 :: st)) : EW X g z 107 nL (ent g Xo KDf M) k sl pc lv (.int 0 :: .ref (g_N g + 106) :: st) :=
  e_lald C hd (by decide) (ent_la LA106) vin01 kk
end LAWB
def J_law_0 (L : Nat) (xs : Nat → Int32) (rec : Int32 → Mem → Option Mem) (x4 : Int32) (M : Mem) : Option Mem :=
  (rd L xs (x4 + 1)).bind fun v1 =>
  (rd L xs (x4 + 2)).bind fun v2 =>
  (rd L xs (x4 + 3)).bind fun v3 =>
  (rd L xs (x4 + 4)).bind fun v4 =>
  (rd L xs (x4 + 5)).bind fun v5 =>
  (F_X11_feed 0 v1 v2 v3 v4 v5 M).bind fun q6 =>
  (rd L xs (x4 + 1)).bind fun v7 =>
  (rd L xs (x4 + 2)).bind fun v8 =>
  (rd L xs (x4 + 3)).bind fun v9 =>
  (rd L xs (x4 + 4)).bind fun v10 =>
  (rd L xs (x4 + 5)).bind fun v11 =>
  (F_X12_feed 67 v7 v8 v9 v10 v11 q6.2).bind fun q12 =>
  if q6.1 = q12.1 then
  rec (x4 + 6) q12.2
  else
  none
def J_law_1 (L : Nat) (xs : Nat → Int32) (rec : Int32 → Mem → Option Mem) (x4 : Int32) (M : Mem) : Option Mem :=
  (rd L xs (x4 + 1)).bind fun v1 =>
  (F_L_ward 0 106 v1 M).bind fun q2 =>
  (rd L xs (x4 + 1)).bind fun v3 =>
  (F_X12_ward 67 v3 q2.2).bind fun q4 =>
  if (F_X12_thrown 67 q4.2) = q2.1 then
  if q2.1 = 0 then
  if (lg_cmp ((q4.2 106 0).toInt64) q4.1.toInt64) = 0 then
  rec (x4 + 6) q4.2
  else
  none
  else
  rec (x4 + 6) q4.2
  else
  none
def J_law_2 (L : Nat) (xs : Nat → Int32) (rec : Int32 → Mem → Option Mem) (x4 : Int32) (M : Mem) : Option Mem :=
  if (F_X11_fault 0 M) = ((F_X12_fault 67 M).1) then
  rec (x4 + 6) ((F_X12_fault 67 M).2)
  else
  none
def J_law_3 (L : Nat) (xs : Nat → Int32) (rec : Int32 → Mem → Option Mem) (x4 : Int32) (M : Mem) : Option Mem :=
  (rd L xs (x4 + 1)).bind fun v1 =>
  (F_L_count 0 106 v1 M).bind fun q2 =>
  (rd L xs (x4 + 1)).bind fun v3 =>
  (F_X12_count 67 v3 q2.2).bind fun q4 =>
  if (F_X12_thrown 67 q4.2) = q2.1 then
  if q2.1 = 0 then
  if (lg_cmp ((q4.2 106 0).toInt64) q4.1.toInt64) = 0 then
  rec (x4 + 6) q4.2
  else
  none
  else
  rec (x4 + 6) q4.2
  else
  none
def J_law_4 (L : Nat) (xs : Nat → Int32) (rec : Int32 → Mem → Option Mem) (x4 : Int32) (M : Mem) : Option Mem :=
  (rd L xs (x4 + 1)).bind fun v1 =>
  (F_L_paths 0 106 v1 M).bind fun q2 =>
  (rd L xs (x4 + 1)).bind fun v3 =>
  (F_X12_paths 67 v3 q2.2).bind fun q4 =>
  if (F_X12_thrown 67 q4.2) = q2.1 then
  if q2.1 = 0 then
  if (lg_cmp ((q4.2 106 0).toInt64) q4.1.toInt64) = 0 then
  rec (x4 + 6) q4.2
  else
  none
  else
  rec (x4 + 6) q4.2
  else
  none
def J_law_5 (L : Nat) (xs : Nat → Int32) (rec : Int32 → Mem → Option Mem) (x4 : Int32) (M : Mem) : Option Mem :=
  (rd L xs (x4 + 1)).bind fun v1 =>
  (rd L xs (x4 + 2)).bind fun v2 =>
  (F_L_person 0 106 v1 v2 M).bind fun q3 =>
  (rd L xs (x4 + 1)).bind fun v4 =>
  (rd L xs (x4 + 2)).bind fun v5 =>
  (F_X12_person 67 v4 v5 q3.2).bind fun q6 =>
  if (F_X12_thrown 67 q6.2) = q3.1 then
  if q3.1 = 0 then
  if (lg_cmp ((q6.2 106 0).toInt64) q6.1.toInt64) = 0 then
  rec (x4 + 6) q6.2
  else
  none
  else
  rec (x4 + 6) q6.2
  else
  none
def J_law_6 (L : Nat) (xs : Nat → Int32) (rec : Int32 → Mem → Option Mem) (x4 : Int32) (M : Mem) : Option Mem :=
  (rd L xs (x4 + 1)).bind fun v1 =>
  (rd L xs (x4 + 2)).bind fun v2 =>
  (F_L_walk 0 106 v1 v2 M).bind fun q3 =>
  (rd L xs (x4 + 1)).bind fun v4 =>
  (rd L xs (x4 + 2)).bind fun v5 =>
  (F_X12_walk 67 v4 v5 q3.2).bind fun q6 =>
  if (F_X12_thrown 67 q6.2) = q3.1 then
  if q3.1 = 0 then
  if (lg_cmp ((q6.2 106 0).toInt64) q6.1.toInt64) = 0 then
  rec (x4 + 6) q6.2
  else
  none
  else
  rec (x4 + 6) q6.2
  else
  none
def J_law_7 (L : Nat) (xs : Nat → Int32) (rec : Int32 → Mem → Option Mem) (x4 : Int32) (M : Mem) : Option Mem :=
  (rd L xs (x4 + 1)).bind fun v1 =>
  (F_X11_nights 0 v1 M).bind fun q2 =>
  (rd L xs (x4 + 1)).bind fun v3 =>
  (F_X12_nights 67 v3 q2.2).bind fun q4 =>
  if q2.1 = q4.1 then
  rec (x4 + 6) q4.2
  else
  none
def J_law_8 (L : Nat) (xs : Nat → Int32) (rec : Int32 → Mem → Option Mem) (x4 : Int32) (M : Mem) : Option Mem :=
  (rd L xs (x4 + 1)).bind fun v1 =>
  (F_L_bribe 0 106 v1 M).bind fun q2 =>
  (rd L xs (x4 + 1)).bind fun v3 =>
  (F_X12_bribe 67 v3 q2.2).bind fun q4 =>
  if (F_X12_thrown 67 q4.2) = q2.1 then
  if q2.1 = 0 then
  if (lg_cmp ((q4.2 106 0).toInt64) q4.1.toInt64) = 0 then
  rec (x4 + 6) q4.2
  else
  none
  else
  rec (x4 + 6) q4.2
  else
  none
def J_law_9 (L : Nat) (xs : Nat → Int32) (rec : Int32 → Mem → Option Mem) (x4 : Int32) (M : Mem) : Option Mem :=
  (rd L xs (x4 + 1)).bind fun v1 =>
  (rd L xs (x4 + 2)).bind fun v2 =>
  (rd L xs (x4 + 3)).bind fun v3 =>
  (F_L_wander 0 106 v1 v2 v3 M).bind fun q4 =>
  (rd L xs (x4 + 1)).bind fun v5 =>
  (rd L xs (x4 + 2)).bind fun v6 =>
  (rd L xs (x4 + 3)).bind fun v7 =>
  (F_X12_wander 67 v5 v6 v7 q4.2).bind fun q8 =>
  if (F_X12_thrown 67 q8.2) = q4.1 then
  if q4.1 = 0 then
  if (lg_cmp ((q8.2 106 0).toInt64) q8.1.toInt64) = 0 then
  rec (x4 + 6) q8.2
  else
  none
  else
  rec (x4 + 6) q8.2
  else
  none
def J_law_10 (L : Nat) (xs : Nat → Int32) (rec : Int32 → Mem → Option Mem) (x4 : Int32) (M : Mem) : Option Mem :=
  (rd L xs (x4 + 1)).bind fun v1 =>
  (rd L xs (x4 + 2)).bind fun v2 =>
  (F_L_earn 0 106 v1 v2 M).bind fun q3 =>
  (rd L xs (x4 + 1)).bind fun v4 =>
  (rd L xs (x4 + 2)).bind fun v5 =>
  (F_X12_earn 67 v4 v5 q3.2).bind fun q6 =>
  if (F_X12_thrown 67 q6.2) = q3.1 then
  if q3.1 = 0 then
  if (lg_cmp ((q6.2 106 0).toInt64) q6.1.toInt64) = 0 then
  rec (x4 + 6) q6.2
  else
  none
  else
  rec (x4 + 6) q6.2
  else
  none
def J_law_11 (L : Nat) (xs : Nat → Int32) (rec : Int32 → Mem → Option Mem) (x4 : Int32) (M : Mem) : Option Mem :=
  (rd L xs (x4 + 1)).bind fun v1 =>
  (F_X11_reserve 0 v1 M).bind fun q2 =>
  (rd L xs (x4 + 1)).bind fun v3 =>
  (F_X12_reserve 67 v3 q2.2).bind fun q4 =>
  if q2.1 = q4.1 then
  rec (x4 + 6) q4.2
  else
  none
def J_law_12 (L : Nat) (xs : Nat → Int32) (rec : Int32 → Mem → Option Mem) (x4 : Int32) (M : Mem) : Option Mem :=
  (F_X11_undo 0 M).bind fun q1 =>
  (F_X12_undo 67 q1.2).bind fun q2 =>
  if q1.1 = q2.1 then
  rec (x4 + 6) q2.2
  else
  none
def J_law_13 (L : Nat) (xs : Nat → Int32) (rec : Int32 → Mem → Option Mem) (x4 : Int32) (M : Mem) : Option Mem :=
  (rd L xs (x4 + 1)).bind fun v1 =>
  (F_L_lots 0 106 v1 M).bind fun q2 =>
  (rd L xs (x4 + 1)).bind fun v3 =>
  (F_X12_lots 67 v3 q2.2).bind fun q4 =>
  if (F_X12_thrown 67 q4.2) = q2.1 then
  if q2.1 = 0 then
  if (lg_cmp ((q4.2 106 0).toInt64) q4.1.toInt64) = 0 then
  rec (x4 + 6) q4.2
  else
  none
  else
  rec (x4 + 6) q4.2
  else
  none
def J_law_14 (L : Nat) (xs : Nat → Int32) (rec : Int32 → Mem → Option Mem) (x4 : Int32) (M : Mem) : Option Mem :=
  (rd L xs (x4 + 1)).bind fun v1 =>
  (rd L xs (x4 + 2)).bind fun v2 =>
  (rd L xs (x4 + 3)).bind fun v3 =>
  (F_L_sold 0 106 v1 v2 v3 M).bind fun q4 =>
  (rd L xs (x4 + 1)).bind fun v5 =>
  (rd L xs (x4 + 2)).bind fun v6 =>
  (rd L xs (x4 + 3)).bind fun v7 =>
  (F_X12_sold 67 v5 v6 v7 q4.2).bind fun q8 =>
  if (F_X12_thrown 67 q8.2) = q4.1 then
  if q4.1 = 0 then
  if (lg_cmp ((q8.2 106 0).toInt64) q8.1.toInt64) = 0 then
  rec (x4 + 6) q8.2
  else
  none
  else
  rec (x4 + 6) q8.2
  else
  none
def J_law_15 (L : Nat) (xs : Nat → Int32) (rec : Int32 → Mem → Option Mem) (x4 : Int32) (M : Mem) : Option Mem :=
  (rd L xs (x4 + 1)).bind fun v1 =>
  (rd L xs (x4 + 2)).bind fun v2 =>
  (rd L xs (x4 + 3)).bind fun v3 =>
  (F_L_then 0 106 v1 v2 v3 M).bind fun q4 =>
  (rd L xs (x4 + 1)).bind fun v5 =>
  (rd L xs (x4 + 2)).bind fun v6 =>
  (rd L xs (x4 + 3)).bind fun v7 =>
  (F_X12_then 67 v5 v6 v7 q4.2).bind fun q8 =>
  if (F_X12_thrown 67 q8.2) = q4.1 then
  if q4.1 = 0 then
  if (lg_cmp ((q8.2 106 0).toInt64) q8.1.toInt64) = 0 then
  rec (x4 + 6) q8.2
  else
  none
  else
  rec (x4 + 6) q8.2
  else
  none
def J_law_16 (L : Nat) (xs : Nat → Int32) (rec : Int32 → Mem → Option Mem) (x4 : Int32) (M : Mem) : Option Mem :=
  (rd L xs (x4 + 1)).bind fun v1 =>
  (F_L_dark 0 106 v1 M).bind fun q2 =>
  (rd L xs (x4 + 1)).bind fun v3 =>
  (F_X12_dark 67 v3 q2.2).bind fun q4 =>
  if (F_X12_thrown 67 q4.2) = q2.1 then
  if q2.1 = 0 then
  if (lg_cmp ((q4.2 106 0).toInt64) q4.1.toInt64) = 0 then
  rec (x4 + 6) q4.2
  else
  none
  else
  rec (x4 + 6) q4.2
  else
  none
def J_law_17 (L : Nat) (xs : Nat → Int32) (rec : Int32 → Mem → Option Mem) (x4 : Int32) (M : Mem) : Option Mem :=
  (rd L xs (x4 + 1)).bind fun v1 =>
  (F_L_first 0 106 v1 M).bind fun q2 =>
  (rd L xs (x4 + 1)).bind fun v3 =>
  (F_X12_first 67 v3 q2.2).bind fun q4 =>
  if (F_X12_thrown 67 q4.2) = q2.1 then
  if q2.1 = 0 then
  if (lg_cmp ((q4.2 106 0).toInt64) q4.1.toInt64) = 0 then
  rec (x4 + 6) q4.2
  else
  none
  else
  rec (x4 + 6) q4.2
  else
  none
def J_law_18 (L : Nat) (xs : Nat → Int32) (rec : Int32 → Mem → Option Mem) (x4 : Int32) (M : Mem) : Option Mem :=
  (F_X11_secret 0 M).bind fun q1 =>
  (F_X12_secret 67 M).bind fun q2 =>
  if q1 = q2.1 then
  rec (x4 + 6) q2.2
  else
  none
def J_law_19 (L : Nat) (xs : Nat → Int32) (rec : Int32 → Mem → Option Mem) (x4 : Int32) (M : Mem) : Option Mem :=
  (rd L xs (x4 + 1)).bind fun v1 =>
  (F_L_haunt 0 106 v1 M).bind fun q2 =>
  (rd L xs (x4 + 1)).bind fun v3 =>
  (F_X12_haunt 67 v3 q2.2).bind fun q4 =>
  if (F_X12_thrown 67 q4.2) = q2.1 then
  if q2.1 = 0 then
  if (lg_cmp ((q4.2 106 0).toInt64) q4.1.toInt64) = 0 then
  rec (x4 + 6) q4.2
  else
  none
  else
  rec (x4 + 6) q4.2
  else
  none
def J_law_20 (L : Nat) (xs : Nat → Int32) (rec : Int32 → Mem → Option Mem) (x4 : Int32) (M : Mem) : Option Mem :=
  (rd L xs (x4 + 1)).bind fun v1 =>
  (rd L xs (x4 + 2)).bind fun v2 =>
  (F_L_watch 0 106 v1 v2 M).bind fun q3 =>
  (rd L xs (x4 + 1)).bind fun v4 =>
  (rd L xs (x4 + 2)).bind fun v5 =>
  (F_X12_watch 67 v4 v5 q3.2).bind fun q6 =>
  if (F_X12_thrown 67 q6.2) = q3.1 then
  if q3.1 = 0 then
  if (lg_cmp ((q6.2 106 0).toInt64) q6.1.toInt64) = 0 then
  rec (x4 + 6) q6.2
  else
  none
  else
  rec (x4 + 6) q6.2
  else
  none
def J_law_21 (L : Nat) (xs : Nat → Int32) (rec : Int32 → Mem → Option Mem) (x4 : Int32) (M : Mem) : Option Mem :=
  (rd L xs (x4 + 1)).bind fun v1 =>
  (rd L xs (x4 + 2)).bind fun v2 =>
  (F_L_way 0 106 v1 v2 M).bind fun q3 =>
  (rd L xs (x4 + 1)).bind fun v4 =>
  (rd L xs (x4 + 2)).bind fun v5 =>
  (F_X12_way 67 v4 v5 q3.2).bind fun q6 =>
  if (F_X12_thrown 67 q6.2) = q3.1 then
  if q3.1 = 0 then
  if (lg_cmp ((q6.2 106 0).toInt64) q6.1.toInt64) = 0 then
  rec (x4 + 6) q6.2
  else
  none
  else
  rec (x4 + 6) q6.2
  else
  none
def J_law_22 (L : Nat) (xs : Nat → Int32) (rec : Int32 → Mem → Option Mem) (x4 : Int32) (M : Mem) : Option Mem :=
  (rd L xs (x4 + 1)).bind fun v1 =>
  (rd L xs (x4 + 2)).bind fun v2 =>
  (F_L_sneak 0 106 v1 v2 M).bind fun q3 =>
  (rd L xs (x4 + 1)).bind fun v4 =>
  (rd L xs (x4 + 2)).bind fun v5 =>
  (F_X12_sneak 67 v4 v5 q3.2).bind fun q6 =>
  if (F_X12_thrown 67 q6.2) = q3.1 then
  if q3.1 = 0 then
  if (lg_cmp ((q6.2 106 0).toInt64) q6.1.toInt64) = 0 then
  rec (x4 + 6) q6.2
  else
  none
  else
  rec (x4 + 6) q6.2
  else
  none
def J_law_23 (L : Nat) (xs : Nat → Int32) (rec : Int32 → Mem → Option Mem) (x4 : Int32) (M : Mem) : Option Mem :=
  (rd L xs (x4 + 1)).bind fun v1 =>
  (F_L_safe 0 106 v1 M).bind fun q2 =>
  (rd L xs (x4 + 1)).bind fun v3 =>
  (F_X12_safe 67 v3 q2.2).bind fun q4 =>
  if (F_X12_thrown 67 q4.2) = q2.1 then
  if q2.1 = 0 then
  if (lg_cmp ((q4.2 106 0).toInt64) q4.1.toInt64) = 0 then
  rec (x4 + 6) q4.2
  else
  none
  else
  rec (x4 + 6) q4.2
  else
  none
def J_law_24 (L : Nat) (xs : Nat → Int32) (rec : Int32 → Mem → Option Mem) (x4 : Int32) (M : Mem) : Option Mem :=
  (rd L xs (x4 + 1)).bind fun v1 =>
  (F_L_toHide 0 106 v1 M).bind fun q2 =>
  (rd L xs (x4 + 1)).bind fun v3 =>
  (F_X12_toHide 67 v3 q2.2).bind fun q4 =>
  if (F_X12_thrown 67 q4.2) = q2.1 then
  if q2.1 = 0 then
  if (lg_cmp ((q4.2 106 0).toInt64) q4.1.toInt64) = 0 then
  rec (x4 + 6) q4.2
  else
  none
  else
  rec (x4 + 6) q4.2
  else
  none
def J_law_25 (L : Nat) (xs : Nat → Int32) (rec : Int32 → Mem → Option Mem) (x4 : Int32) (M : Mem) : Option Mem :=
  (rd L xs (x4 + 1)).bind fun v1 =>
  (rd L xs (x4 + 2)).bind fun v2 =>
  (F_L_toWin 0 106 v1 v2 M).bind fun q3 =>
  (rd L xs (x4 + 1)).bind fun v4 =>
  (rd L xs (x4 + 2)).bind fun v5 =>
  (F_X12_toWin 67 v4 v5 q3.2).bind fun q6 =>
  if (F_X12_thrown 67 q6.2) = q3.1 then
  if q3.1 = 0 then
  if (lg_cmp ((q6.2 106 0).toInt64) q6.1.toInt64) = 0 then
  rec (x4 + 6) q6.2
  else
  none
  else
  rec (x4 + 6) q6.2
  else
  none
def J_law_26 (L : Nat) (xs : Nat → Int32) (rec : Int32 → Mem → Option Mem) (x4 : Int32) (M : Mem) : Option Mem :=
  (rd L xs (x4 + 1)).bind fun v1 =>
  (F_L_given 0 106 v1 M).bind fun q2 =>
  (rd L xs (x4 + 1)).bind fun v3 =>
  (F_X12_given 67 v3 q2.2).bind fun q4 =>
  if (F_X12_thrown 67 q4.2) = q2.1 then
  if q2.1 = 0 then
  if (lg_cmp ((q4.2 106 0).toInt64) q4.1.toInt64) = 0 then
  rec (x4 + 6) q4.2
  else
  none
  else
  rec (x4 + 6) q4.2
  else
  none
def J_law_27 (L : Nat) (xs : Nat → Int32) (rec : Int32 → Mem → Option Mem) (x4 : Int32) (M : Mem) : Option Mem :=
  (rd L xs (x4 + 1)).bind fun v1 =>
  (F_L_gossip 0 106 v1 M).bind fun q2 =>
  (rd L xs (x4 + 1)).bind fun v3 =>
  (F_X12_gossip 67 v3 q2.2).bind fun q4 =>
  if (F_X12_thrown 67 q4.2) = q2.1 then
  if q2.1 = 0 then
  if (lg_cmp ((q4.2 106 0).toInt64) q4.1.toInt64) = 0 then
  rec (x4 + 6) q4.2
  else
  none
  else
  rec (x4 + 6) q4.2
  else
  none
def J_law_28 (L : Nat) (xs : Nat → Int32) (rec : Int32 → Mem → Option Mem) (x4 : Int32) (M : Mem) : Option Mem :=
  (rd L xs (x4 + 1)).bind fun v1 =>
  (F_L_most 0 106 v1 M).bind fun q2 =>
  (rd L xs (x4 + 1)).bind fun v3 =>
  (F_X12_most 67 v3 q2.2).bind fun q4 =>
  if (F_X12_thrown 67 q4.2) = q2.1 then
  if q2.1 = 0 then
  if (lg_cmp ((q4.2 106 0).toInt64) q4.1.toInt64) = 0 then
  rec (x4 + 6) q4.2
  else
  none
  else
  rec (x4 + 6) q4.2
  else
  none
def J_law_29 (L : Nat) (xs : Nat → Int32) (rec : Int32 → Mem → Option Mem) (x4 : Int32) (M : Mem) : Option Mem :=
  (rd L xs (x4 + 1)).bind fun v1 =>
  (F_L_lantern 0 106 v1 M).bind fun q2 =>
  (rd L xs (x4 + 1)).bind fun v3 =>
  (F_X12_lantern 67 v3 q2.2).bind fun q4 =>
  if (F_X12_thrown 67 q4.2) = q2.1 then
  if q2.1 = 0 then
  if (lg_cmp ((q4.2 106 0).toInt64) q4.1.toInt64) = 0 then
  rec (x4 + 6) q4.2
  else
  none
  else
  rec (x4 + 6) q4.2
  else
  none
def J_law_30 (L : Nat) (xs : Nat → Int32) (rec : Int32 → Mem → Option Mem) (x4 : Int32) (M : Mem) : Option Mem :=
  (rd L xs (x4 + 1)).bind fun v1 =>
  (rd L xs (x4 + 2)).bind fun v2 =>
  (F_L_meet 0 106 v1 v2 M).bind fun q3 =>
  (rd L xs (x4 + 1)).bind fun v4 =>
  (rd L xs (x4 + 2)).bind fun v5 =>
  (F_X12_meet 67 v4 v5 q3.2).bind fun q6 =>
  if (F_X12_thrown 67 q6.2) = q3.1 then
  if q3.1 = 0 then
  if (lg_cmp ((q6.2 106 0).toInt64) q6.1.toInt64) = 0 then
  rec (x4 + 6) q6.2
  else
  none
  else
  rec (x4 + 6) q6.2
  else
  none
def J_law_31 (L : Nat) (xs : Nat → Int32) (rec : Int32 → Mem → Option Mem) (x4 : Int32) (M : Mem) : Option Mem :=
  (rd L xs (x4 + 1)).bind fun v1 =>
  (rd L xs (x4 + 2)).bind fun v2 =>
  (F_L_spends 0 106 v1 v2 M).bind fun q3 =>
  (rd L xs (x4 + 1)).bind fun v4 =>
  (rd L xs (x4 + 2)).bind fun v5 =>
  (F_X12_spends 67 v4 v5 q3.2).bind fun q6 =>
  if (F_X12_thrown 67 q6.2) = q3.1 then
  if q3.1 = 0 then
  if (lg_cmp ((q6.2 106 0).toInt64) q6.1.toInt64) = 0 then
  rec (x4 + 6) q6.2
  else
  none
  else
  rec (x4 + 6) q6.2
  else
  none
def J_law_32 (L : Nat) (xs : Nat → Int32) (rec : Int32 → Mem → Option Mem) (x4 : Int32) (M : Mem) : Option Mem :=
  (rd L xs (x4 + 1)).bind fun v1 =>
  (F_L_unknown 0 106 v1 M).bind fun q2 =>
  (rd L xs (x4 + 1)).bind fun v3 =>
  (F_X12_unknown 67 v3 q2.2).bind fun q4 =>
  if (F_X12_thrown 67 q4.2) = q2.1 then
  if q2.1 = 0 then
  if (lg_cmp ((q4.2 106 0).toInt64) q4.1.toInt64) = 0 then
  rec (x4 + 6) q4.2
  else
  none
  else
  rec (x4 + 6) q4.2
  else
  none
def J_law_33 (L : Nat) (xs : Nat → Int32) (rec : Int32 → Mem → Option Mem) (x4 : Int32) (M : Mem) : Option Mem :=
  (rd L xs (x4 + 1)).bind fun v1 =>
  (rd L xs (x4 + 2)).bind fun v2 =>
  (rd L xs (x4 + 3)).bind fun v3 =>
  (F_L_tell 0 106 v1 v2 (if v3 = 0 then (0 : Int32) else (1 : Int32)) M).bind fun q6 =>
  (rd L xs (x4 + 1)).bind fun v7 =>
  (rd L xs (x4 + 2)).bind fun v8 =>
  (rd L xs (x4 + 3)).bind fun v9 =>
  (F_X12_tell 67 v7 v8 (if v9 = 0 then (0 : Int32) else (1 : Int32)) q6.2).bind fun q12 =>
  if (F_X12_thrown 67 q12.2) = q6.1 then
  if q6.1 = 0 then
  if (lg_cmp ((q12.2 106 0).toInt64) q12.1.toInt64) = 0 then
  rec (x4 + 6) q12.2
  else
  none
  else
  rec (x4 + 6) q12.2
  else
  none
def J_law_34 (L : Nat) (xs : Nat → Int32) (rec : Int32 → Mem → Option Mem) (x4 : Int32) (M : Mem) : Option Mem :=
  (rd L xs (x4 + 1)).bind fun v1 =>
  (F_L_otherwise 0 106 v1 M).bind fun q2 =>
  (rd L xs (x4 + 1)).bind fun v3 =>
  (F_X12_otherwise 67 v3 q2.2).bind fun q4 =>
  if (F_X12_thrown 67 q4.2) = q2.1 then
  if q2.1 = 0 then
  if (lg_cmp ((q4.2 106 0).toInt64) q4.1.toInt64) = 0 then
  rec (x4 + 6) q4.2
  else
  none
  else
  rec (x4 + 6) q4.2
  else
  none
def J_law_35 (L : Nat) (xs : Nat → Int32) (rec : Int32 → Mem → Option Mem) (x4 : Int32) (M : Mem) : Option Mem :=
  (rd L xs (x4 + 1)).bind fun v1 =>
  (F_L_look 0 106 v1 M).bind fun q2 =>
  (rd L xs (x4 + 1)).bind fun v3 =>
  (F_X12_look 67 v3 q2.2).bind fun q4 =>
  if (F_X12_thrown 67 q4.2) = q2.1 then
  if q2.1 = 0 then
  if (lg_cmp ((q4.2 106 0).toInt64) q4.1.toInt64) = 0 then
  rec (x4 + 6) q4.2
  else
  none
  else
  rec (x4 + 6) q4.2
  else
  none
def J_law_36 (L : Nat) (xs : Nat → Int32) (rec : Int32 → Mem → Option Mem) (x4 : Int32) (M : Mem) : Option Mem :=
  rec (x4 + 6) (F_X12_forget 67 (F_X11_forget 0 M))
def J_law_37 (L : Nat) (xs : Nat → Int32) (rec : Int32 → Mem → Option Mem) (x4 : Int32) (M : Mem) : Option Mem :=
  (rd L xs (x4 + 1)).bind fun v1 =>
  (rd L xs (x4 + 2)).bind fun v2 =>
  (rd L xs (x4 + 3)).bind fun v3 =>
  (F_L_game 0 106 v1 v2 v3 M).bind fun q4 =>
  (rd L xs (x4 + 1)).bind fun v5 =>
  (rd L xs (x4 + 2)).bind fun v6 =>
  (rd L xs (x4 + 3)).bind fun v7 =>
  (F_X12_game 67 v5 v6 v7 q4.2).bind fun q8 =>
  if (F_X12_thrown 67 q8.2) = q4.1 then
  if q4.1 = 0 then
  if (lg_cmp ((q8.2 106 0).toInt64) q8.1.toInt64) = 0 then
  rec (x4 + 6) q8.2
  else
  none
  else
  rec (x4 + 6) q8.2
  else
  none
def J_law_38 (L : Nat) (xs : Nat → Int32) (rec : Int32 → Mem → Option Mem) (x4 : Int32) (M : Mem) : Option Mem :=
  (rd L xs (x4 + 1)).bind fun v1 =>
  (rd L xs (x4 + 2)).bind fun v2 =>
  (rd L xs (x4 + 3)).bind fun v3 =>
  (F_L_years 0 106 v1 v2 v3 M).bind fun q4 =>
  (rd L xs (x4 + 1)).bind fun v5 =>
  (rd L xs (x4 + 2)).bind fun v6 =>
  (rd L xs (x4 + 3)).bind fun v7 =>
  (F_X12_years 67 v5 v6 v7 q4.2).bind fun q8 =>
  if (F_X12_thrown 67 q8.2) = q4.1 then
  if q4.1 = 0 then
  if (lg_cmp ((q8.2 106 0).toInt64) q8.1.toInt64) = 0 then
  rec (x4 + 6) q8.2
  else
  none
  else
  rec (x4 + 6) q8.2
  else
  none
def J_law_39 (L : Nat) (xs : Nat → Int32) (rec : Int32 → Mem → Option Mem) (x4 : Int32) (M : Mem) : Option Mem :=
  (F_X11_image 0 M).bind fun q1 =>
  (F_X12_image 67 q1).bind fun q2 =>
  rec (x4 + 6) q2
def J_law_40 (L : Nat) (xs : Nat → Int32) (rec : Int32 → Mem → Option Mem) (x4 : Int32) (M : Mem) : Option Mem :=
  (F_X11_restore 0 M).bind fun q1 =>
  (F_X12_restore 67 q1.2).bind fun q2 =>
  if (bi q1.1) = (bi q2.1) then
  rec (x4 + 6) q2.2
  else
  none
