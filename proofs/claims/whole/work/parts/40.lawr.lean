/-! ===== the law's world, whole ===== -/
def KL : List Nat := [12, 6, 1700, 10, 1008, 1008, 1007, 1007, 1007, 1008, 11, 1700, 1040, 1008, 10, 1008, 1008, 1007, 1007, 1007, 1008, 11, 1700, 1040, 1, 9, 1007, 1007, 1007, 2, 2000, 8, 1008, 1008, 1008, 1003, 1, 9, 1007, 1007, 1007, 2, 2000, 8, 1008, 1008, 1008, 1003, 9, 1007, 1007, 1007, 7, 1007, 1008, 1007, 1007, 4, 1049, 2024, 1007, 5, 1007, 1048, 3, 1004, 1004, 13, 40000, 40001, 1014, 1016, 1016, 1014, 1014, 1014, 1084, 1016, 2400, 1003, 1700, 1007, 1007, 1042, 3400, 1008, 1064, 1007, 1007, 1007, 1060, 1008, 2024, 1008, 1008, 1060, 20008, 1336, 5032, 1008, 1060, 3400, 1008, 1008, 1003, 20008, 30001]
def KDf : Nat → Nat := fun j => KL.getD j 0
theorem KDf_lt {j v : Nat} (h : KDf j = v) (hv : v ≠ 0) : j < 107 := by
  by_cases h2 : j < 107
  · exact h2
  · unfold KDf at h
    rw [List.getD_eq_getElem?_getD, List.getElem?_eq_none (by show 107 ≤ j; omega)] at h
    exact absurd h.symm hv
theorem KDf_1 : ∀ t, t < 107 → KDf t = 1 → t = 24 ∨ t = 36 := by decide +kernel
theorem KDf_2 : ∀ t, t < 107 → KDf t = 2 → t = 29 ∨ t = 41 := by decide +kernel
theorem KDf_4 : ∀ t, t < 107 → KDf t = 4 → t = 57 := by decide +kernel
theorem KDf_5 : ∀ t, t < 107 → KDf t = 5 → t = 61 := by decide +kernel
theorem KDf_6 : ∀ t, t < 107 → KDf t = 6 → t = 1 := by decide +kernel
theorem KDf_7 : ∀ t, t < 107 → KDf t = 7 → t = 52 := by decide +kernel
theorem KDf_8 : ∀ t, t < 107 → KDf t = 8 → t = 31 ∨ t = 43 := by decide +kernel
theorem KDf_9 : ∀ t, t < 107 → KDf t = 9 → t = 25 ∨ t = 37 ∨ t = 48 := by decide +kernel
theorem KDf_10 : ∀ t, t < 107 → KDf t = 10 → t = 3 ∨ t = 14 := by decide +kernel
theorem KDf_11 : ∀ t, t < 107 → KDf t = 11 → t = 10 ∨ t = 21 := by decide +kernel
theorem KDf_12 : ∀ t, t < 107 → KDf t = 12 → t = 0 := by decide +kernel
theorem KDf_13 : ∀ t, t < 107 → KDf t = 13 → t = 67 := by decide +kernel
theorem KDf_KD : KD 107 KDf := ⟨fun j hj => KDf_lt rfl hj, by decide, (fun _ _ => ⟨rfl, rfl⟩), (fun j h => by
    rcases KDf_1 j (KDf_lt h (by decide)) h with rfl | rfl <;> exact ⟨rfl, rfl, rfl, ⟨rfl, by decide⟩⟩), (fun j h => by
    rcases KDf_2 j (KDf_lt h (by decide)) h with rfl | rfl <;> exact ⟨rfl, by decide⟩), (fun j h => by
    obtain rfl := KDf_4 j (KDf_lt h (by decide)) h
    exact ⟨⟨rfl, by decide⟩, ⟨rfl, by decide⟩, ⟨rfl, by decide⟩⟩), (fun j h => by
    obtain rfl := KDf_5 j (KDf_lt h (by decide)) h
    exact ⟨⟨rfl, by decide⟩, ⟨rfl, by decide⟩⟩), (fun j h => by
    obtain rfl := KDf_6 j (KDf_lt h (by decide)) h
    exact ⟨⟨rfl, by decide⟩, ⟨rfl, by decide⟩⟩), (fun j h => by
    obtain rfl := KDf_7 j (KDf_lt h (by decide)) h
    exact ⟨⟨rfl, by decide⟩, ⟨rfl, by decide⟩, ⟨rfl, by decide⟩, ⟨rfl, by decide⟩⟩), (fun j h => by
    rcases KDf_8 j (KDf_lt h (by decide)) h with rfl | rfl <;> exact ⟨⟨rfl, by decide⟩, ⟨rfl, by decide⟩, ⟨rfl, by decide⟩⟩), (fun j h => by
    rcases KDf_9 j (KDf_lt h (by decide)) h with rfl | rfl | rfl <;> exact ⟨⟨rfl, by decide⟩, ⟨rfl, by decide⟩, ⟨rfl, by decide⟩⟩), (fun j h => by
    rcases KDf_10 j (KDf_lt h (by decide)) h with rfl | rfl <;> exact ⟨⟨rfl, by decide⟩, ⟨rfl, by decide⟩, ⟨rfl, by decide⟩, ⟨rfl, by decide⟩, ⟨rfl, by decide⟩, ⟨rfl, by decide⟩, rfl⟩), (fun j h => by
    rcases KDf_11 j (KDf_lt h (by decide)) h with rfl | rfl <;> exact ⟨⟨rfl, by decide⟩, ⟨rfl, by decide⟩⟩), (fun j h => by
    obtain rfl := KDf_12 j (KDf_lt h (by decide)) h
    exact ⟨rfl, rfl, rfl, rfl, rfl, rfl, rfl, rfl, ⟨rfl, by decide⟩, ⟨rfl, by decide⟩⟩), (fun j h => by
    obtain rfl := KDf_13 j (KDf_lt h (by decide)) h
    exact ⟨rfl, rfl, ⟨rfl, by decide⟩, ⟨rfl, by decide⟩, ⟨rfl, by decide⟩, ⟨rfl, by decide⟩, ⟨rfl, by decide⟩, ⟨rfl, by decide⟩, ⟨rfl, by decide⟩, ⟨rfl, by decide⟩, ⟨rfl, by decide⟩, ⟨rfl, by decide⟩, ⟨rfl, by decide⟩, ⟨rfl, by decide⟩, ⟨rfl, by decide⟩, ⟨rfl, by decide⟩, ⟨rfl, by decide⟩, ⟨rfl, by decide⟩, ⟨rfl, by decide⟩, ⟨rfl, by decide⟩, ⟨rfl, by decide⟩, ⟨rfl, by decide⟩, ⟨rfl, by decide⟩, ⟨rfl, by decide⟩, ⟨rfl, by decide⟩, ⟨rfl, by decide⟩, ⟨rfl, by decide⟩, ⟨rfl, by decide⟩, ⟨rfl, by decide⟩, ⟨rfl, by decide⟩, ⟨rfl, by decide⟩, ⟨rfl, by decide⟩, ⟨rfl, by decide⟩, ⟨rfl, by decide⟩, ⟨rfl, by decide⟩, ⟨rfl, by decide⟩, ⟨rfl, by decide⟩, ⟨rfl, by decide⟩⟩)⟩
theorem LA106 : LA KDf 106 1 := ⟨rfl, by decide⟩
def SC (X : FX) (g : WC) (b L : Nat) (xs : Nat → Int32) : Prop := x_R X = room_1 ∧ va_X b L xs (x_s X) (x_s X).heap ∧ b < (x_s X).heap.size ∧ ¬ g_N g ≤ b
section LAWB
variable {X : FX} {g : WC} {z n nL b L d2 mc2 ms2 maxL : Nat} {xs : Nat → Int32} {E : Nat → va_E} {Xo : Nat → va_E} {M : Mem} {k sl pc : Nat} {lv : List (Nat × Value)} {st : List Value} {own : String} {cc : ByteArray}
theorem e_scl (C : Cx X g own cc nL) (S : SC X g b L xs) {i v : Int32} (hd : decode cc pc = .ok (.iaload, 1)) (h : rd L xs i = some v) (kk : EW X g z n nL E k sl (pc + 1) lv (.int v :: st)) : EW X g z n nL E k sl pc lv (.int i :: .ref b :: st) := fun H locs ls hP hz hS hl => by
  unfold rd at h
  split at h
  · rename_i h1
    obtain rfl := Option.some.inj h
    exact va_sld (A := fun q => g_N g ≤ q) C.1 C.2.1 S.2.1 S.2.2.1 S.2.2.2 hS h1 hd (kk H locs ls hP hz hS hl)
  · cases h
theorem e_sclen (C : Cx X g own cc nL) (S : SC X g b L xs) (hd : decode cc pc = .ok (.arraylength, 1)) (kk : EW X g z n nL E k sl (pc + 1) lv (.int (nI L) :: st)) : EW X g z n nL E k sl pc lv (.ref b :: st) := fun H locs ls hP hz hS hl =>
  va_slen (A := fun q => g_N g ≤ q) C.1 C.2.1 S.2.1 S.2.2.1 S.2.2.2 hS hd (kk H locs ls hP hz hS hl)
theorem lroom (S : SC X g b L xs) (h1 : d2 ≤ 200) (h2 : maxL ≤ 45) : (rm d2).frames + 1 ≤ (x_R X).frames ∧ 8 + (maxL + 11) + (rm d2).locals ≤ (x_R X).locals := by
  rw [S.1]
  simp only [rm, room_1]
  omega
theorem lroomX (S : SC X g b L xs) (h1 : d2 ≤ 200) (h2 : maxL ≤ 45) : (rmx d2 mc2 ms2).frames + 1 ≤ (x_R X).frames ∧ 8 + (maxL + 11) + (rmx d2 mc2 ms2).locals ≤ (x_R X).locals := by
  rw [S.1]
  simp only [rmx, room_1]
  omega
theorem lroomN (S : SC X g b L xs) (h1 : d2 ≤ 200) (h2 : maxL ≤ 45) : (rmn d2 mc2 ms2).frames + 1 ≤ (x_R X).frames ∧ 8 + (maxL + 11) + (rmn d2 mc2 ms2).locals ≤ (x_R X).locals := by
  rw [S.1]
  simp only [rmn, room_1]
  omega
theorem lcap (S : SC X g b L xs) (h1 : k ≤ 601024) (h2 : sl ≤ 7293033) : k ≤ (x_R X).cells ∧ sl ≤ (x_R X).slots := by
  rw [S.1]
  exact ⟨h1, h2⟩
theorem e_lald1 (C : Cx X g own cc nL) (hd : decode cc pc = .ok (.laload, 1)) (kk : EW X g z 107 nL (ent g Xo KDf M) k sl (pc + 1) lv (.long (M 106 0).toInt64 :: st)) : EW X g z 107 nL (ent g Xo KDf M) k sl pc lv (.int 0 :: .ref (g_N g + 106) :: st) :=
  e_lald C hd (by decide) (ent_la LA106) vin01 kk
end LAWB