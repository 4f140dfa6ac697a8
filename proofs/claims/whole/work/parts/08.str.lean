theorem pn_J0 : plainName RJ0 = true := by decide +kernel
theorem pn_J1 : plainName RJ1 = true := by decide +kernel
theorem pn_J3 : plainName RJ3 = true := by decide +kernel
theorem cal_J1_charAt_3b067 : CalP yJ1_charAt_3b067 cJ1_charAt_3b067 2 (some .char) 2 := ⟨co_J1_charAt_3b067, ini_J1, by decide, by decide +kernel, by decide +kernel, by decide +kernel⟩
theorem cal_J3_checkIndex_8e157 : CalP yJ3_checkIndex_8e157 cJ3_checkIndex_8e157 3 (some .int) 3 := ⟨co_J3_checkIndex_8e157, ini_J3, by decide, by decide +kernel, by decide +kernel, by decide +kernel⟩
theorem sx_92 : (RX11, 92, "the tape has not so many bytes") ∈ SRX := List.mem_of_getElem? (i := 0) rfl
theorem sx_360 : (RX11, 360, "no such what") ∈ SRX := List.mem_of_getElem? (i := 1) rfl
theorem sx_365 : (RX11, 365, "no such street") ∈ SRX := List.mem_of_getElem? (i := 2) rfl
theorem sx_367 : (RX11, 367, "no such person") ∈ SRX := List.mem_of_getElem? (i := 3) rfl
theorem sx_369 : (RX11, 369, "no such place") ∈ SRX := List.mem_of_getElem? (i := 4) rfl
theorem sx_363 : (RX11, 363, "not as many as that") ∈ SRX := List.mem_of_getElem? (i := 5) rfl
theorem sx_334 : (RX11, 334, "both are one") ∈ SRX := List.mem_of_getElem? (i := 6) rfl
theorem ts_recv {g : WC} {A : Nat → Prop} {s : State} {H : Heap} {locs : List Loc} {i : Nat} (hE : TS g A s s.heap) (hi : i < 38) (hS : va_S A s.heap H locs) : ∃ cell : Cell, H[g_sa g i]? = some cell ∧ cell.vm.isStatics = false ∧ s.vm.findClass "java/lang/String" = some cell.cls := by
  obtain ⟨cell, h1, h2, h3, -⟩ := (hE.1 i hi).1.kept hS.2.1
  exact ⟨cell, h1, h2, h3⟩
section STRS
variable {X : FX} {g : WC} {z n nL : Nat} {E : Nat → va_E} {k sl pc : Nat} {lv : List (Nat × Value)} {st : List Value} {own : String} {cc : ByteArray}
theorem e_compact (C : Cx X g RJ0 cc nL) (hd : decode cc pc = .ok (.getstatic 38, 3)) (kk : EW X g z n nL E k sl (pc + 3) lv (.int 1 :: st)) : EW X g z n nL E k sl pc lv st := fun H locs ls hP hz hS hl =>
  va_gets (C := "java/lang/String") (n := "COMPACT_STRINGS") (d := "Z") (ref := "java/lang/String") C.1 C.2.1 C.2.2.2.2.2.2.2.2.2.2.2.2.1.2.2.2.1 hS C.2.2.2.1 (C.2.2.2.2.1 _ fl_J0_38) (fun _ h => h) hd (kk H locs ls hP hz hS hl)
theorem e_sioobe (C : Cx X g RJ0 cc nL) (hd : decode cc pc = .ok (.getstatic 1053, 3)) (kk : ∀ v : Value, (v = .null ∨ ∃ t, v = .ref t) → EW X g z n nL E k sl (pc + 3) lv (v :: st)) : EW X g z n nL E k sl pc lv st := fun H locs ls hP hz hS hl => by
  rcases C.2.2.2.2.2.2.2.2.2.2.2.2.1.2.2.2.2 with h | ⟨t, h⟩
  · exact va_gets (C := "jdk/internal/util/Preconditions") (n := "SIOOBE_FORMATTER") (d := "Ljava/util/function/BiFunction;") (ref := "jdk/internal/util/Preconditions") C.1 C.2.1 h hS C.2.2.2.1 (C.2.2.2.2.1 _ fl_J0_1053) (fun _ h => h) hd (kk _ (Or.inl rfl) H locs ls hP hz hS hl)
  · exact va_gets (C := "jdk/internal/util/Preconditions") (n := "SIOOBE_FORMATTER") (d := "Ljava/util/function/BiFunction;") (ref := "jdk/internal/util/Preconditions") C.1 C.2.1 h hS C.2.2.2.1 (C.2.2.2.2.1 _ fl_J0_1053) (fun _ h => h) hd (kk _ (Or.inr ⟨t, rfl⟩) H locs ls hP hz hS hl)
theorem e_scoder {u : Nat} (hu : u < 38) (C : Cx X g RJ0 cc nL) (hd : decode cc pc = .ok (.getfield 15, 3)) (kk : EW X g z n nL E k sl (pc + 3) lv (.int 0 :: st)) : EW X g z n nL E k sl pc lv (.ref (g_sa g u) :: st) := fun H locs ls hP hz hS hl =>
  vk_getf (o := "java/lang/String") (n := "coder") (d := "B") (ref := "java/lang/String") C.1 C.2.1 (C.2.2.2.2.2.2.2.2.2.2.1.1 u hu).2.1 hS C.2.2.2.1 (C.2.2.2.2.1 _ fl_J0_15) (fun _ h => h) hd (kk H locs ls hP hz hS hl)
theorem e_svalue {u : Nat} (hu : u < 38) (C : Cx X g RJ0 cc nL) (hd : decode cc pc = .ok (.getfield 9, 3)) (kk : EW X g z n nL E k sl (pc + 3) lv (.ref (g_sv g u) :: st)) : EW X g z n nL E k sl pc lv (.ref (g_sa g u) :: st) := fun H locs ls hP hz hS hl =>
  vk_getf (o := "java/lang/String") (n := "value") (d := "[B") (ref := "java/lang/String") C.1 C.2.1 (C.2.2.2.2.2.2.2.2.2.2.1.1 u hu).2.2.1 hS C.2.2.2.1 (C.2.2.2.2.1 _ fl_J0_9) (fun _ h => h) hd (kk H locs ls hP hz hS hl)
theorem e_svlen {u : Nat} (hu : u < 38) (C : Cx X g own cc nL) (hd : decode cc pc = .ok (.arraylength, 1)) (kk : EW X g z n nL E k sl (pc + 1) lv (.int (nI (TXL.getD u 0)) :: st)) : EW X g z n nL E k sl pc lv (.ref (g_sv g u) :: st) := fun H locs ls hP hz hS hl =>
  va_tlen C.1 C.2.1 (C.2.2.2.2.2.2.2.2.2.2.1.1 u hu).2.2.2 hS rfl hd (kk H locs ls hP hz hS hl)
theorem e_svld {u : Nat} {i : Int32} (hu : u < 38) (C : Cx X g own cc nL) (hi : vp_in i (TXL.getD u 0)) (hd : decode cc pc = .ok (.baload, 1)) (kk : EW X g z n nL E k sl (pc + 1) lv (.int ((TXB.getD u []).getD i.toNatClampNeg 0) :: st)) : EW X g z n nL E k sl pc lv (.int i :: .ref (g_sv g u) :: st) := fun H locs ls hP hz hS hl =>
  va_tb C.1 C.2.1 (C.2.2.2.2.2.2.2.2.2.2.1.1 u hu).2.2.2 hS hi rfl hd (kk H locs ls hP hz hS hl)
theorem e_i2c (C : Cx X g own cc nL) {x : Int32} (hd : decode cc pc = .ok (.i2c, 1)) (kk : EW X g z n nL E k sl (pc + 1) lv (.int (x.toUInt32 % 65536).toInt32 :: st)) : EW X g z n nL E k sl pc lv (.int x :: st) := fun H locs ls hP hz hS hl =>
  lv_i2c C.1 C.2.1 hd rfl (kk H locs ls hP hz hS hl)
theorem e_aload_any (C : Cx X g own cc nL) (j : Nat) {i : Nat} {kf : Fin 4} {v : Value} (hv : v = .null ∨ ∃ t, v = .ref t) (hd : decode cc pc = .ok (.aload_n kf, 1)) (hi : (kf : Nat) = i) (hj : lv[j]? = some (i, v)) (kk : EW X g z n nL E k sl (pc + 1) lv (v :: st)) : EW X g z n nL E k sl pc lv st := fun H locs ls hP hz hS hl => by
  rcases hv with rfl | ⟨t, rfl⟩
  · exact lv_aload_nN C.1 C.2.1 hd hi (lv_at hl j hj) (kk H locs ls hP hz hS hl)
  · exact lv_aload_n C.1 C.2.1 hd hi (lv_at hl j hj) (kk H locs ls hP hz hS hl)
theorem e_ldcSW (C : Cx X g own cc nL) {i u : Nat} {tx : String} (hq : (own, i, tx, u) ∈ SRL) (hd : decode cc pc = .ok (.ldc_w i, 3)) (kk : EW X g z n nL E k sl (pc + 3) lv (.ref (g_sa g u) :: st)) : EW X g z n nL E k sl pc lv st := fun H locs ls hP hz hS hl => by
  have hZ := C.2.2.2.2.2.2.2.2.2.1 _ hq
  intro T hT X1
  obtain ⟨t, a1, b1⟩ := kk H locs ls hP hz hS hl T hT X1
  exact ⟨t, X1.ldcStringW C.1 C.2.2.2.1 (text := tx) (a := g_sa g u) hZ.1 hZ.2 (g := F0 (x_m X) pc ls st) rfl (by rw [C.2.1]; exact hd) t a1, b1⟩
/-- a call of a text's method -/
theorem e_callT {u d d2 idx maxL : Nat} {E2 : Nat → va_E} {st0 as : List Value} {y : MethodName} {bytes : ByteArray} {ret : Option FieldType} {r : Option Value} (hu : u < 38) (C : Cx X g own cc nL) (P : CalP y bytes maxL ret as.length) (him : Cond.instanceMethod y ∈ TW) (hse : Cond.selects "java/lang/String" y y ∈ TW) (hl : Cond.methodLink own idx y ∈ TW) (hR : x_R X = rm d) (hdd : d2 < d) (hd : decode cc pc = .ok (.invokevirtual idx, 3)) (hM : MC g y bytes maxL ret d2 n (.ref (g_sa g u) :: as) E r E2) (hk : k ≤ (x_R X).cells ∧ sl ≤ (x_R X).slots) (hs : (st.map fun v => v.category).sum ≤ 8)
    (hst : st0 = as.reverse ++ .ref (g_sa g u) :: st) (kk : EW X g z n nL E2 k sl (pc + 3) lv (r.toList ++ st)) : EW X g z n nL E k sl pc lv st0 :=
  e_run (fun H locs ls hP hS hlv => ⟨_, va_runV (As := as) (rest := st) (C := "java/lang/String") (fix C) (C.2.2.2.2.2.2.2.1 ▸ hM) ⟨callB_tw C P hl (rm_room hR hdd P.2.2.1), C.2.2.2.2.1 _ him, C.2.2.2.2.1 _ hse⟩ ⟨PM_blind, ts_recv C.2.2.2.2.2.2.2.2.2.2.1 hu hS, fun U hU hW => pm_at C hP hS U hU hW⟩ rfl rfl hlv.1 hst (lv_room hs) hd hk⟩) kk
end STRS
section STRC
variable {g : WC} {n : Nat} {E : Nat → va_E} {u : Nat}
set_option maxRecDepth 20000 in
theorem c_J0_coder (hu : u < 38) : MC g yJ0_coder_7d493 cJ0_coder_7d493 1 (some .byte) 0 n [.ref (g_sa g u)] E (some (.int 0)) E := by
  refine MC_of pn_J0 (Nat.le_of_ble_eq_true rfl) (fun X C B => ?_)
  refine e_compact C (dk dJ0_coder_7d493 0 rfl) ?_
  refine e_if_eq C 13 (dk dJ0_coder_7d493 1 rfl) (by decide) (fun c1 => absurd c1 (by decide)) (fun c1 => ?_)
  refine e_aload_n C 0 (dk dJ0_coder_7d493 2 rfl) rfl rfl ?_
  refine e_scoder hu C (dk dJ0_coder_7d493 3 rfl) ?_
  refine e_goto C 14 (dk dJ0_coder_7d493 4 rfl) (by decide) ?_
  exact e_iret C B rfl (dk dJ0_coder_7d493 6 rfl)
set_option maxRecDepth 20000 in
theorem c_J0_isLatin1 (hu : u < 38) : MC g yJ0_isLatin1_aae02 cJ0_isLatin1_aae02 1 (some .boolean) 0 n [.ref (g_sa g u)] E (some (.int 1)) E := by
  refine MC_of pn_J0 (Nat.le_of_ble_eq_true rfl) (fun X C B => ?_)
  refine e_compact C (dk dJ0_isLatin1_aae02 0 rfl) ?_
  refine e_if_eq C 17 (dk dJ0_isLatin1_aae02 1 rfl) (by decide) (fun c1 => absurd c1 (by decide)) (fun c1 => ?_)
  refine e_aload_n C 0 (dk dJ0_isLatin1_aae02 2 rfl) rfl rfl ?_
  refine e_scoder hu C (dk dJ0_isLatin1_aae02 3 rfl) ?_
  refine e_if_ne C 17 (dk dJ0_isLatin1_aae02 4 rfl) (by decide) (fun c1 => absurd rfl c1) (fun c1 => ?_)
  refine e_iconst C 1 (dk dJ0_isLatin1_aae02 5 rfl) (by decide) ?_
  refine e_goto C 18 (dk dJ0_isLatin1_aae02 6 rfl) (by decide) ?_
  exact e_iret C B rfl (dk dJ0_isLatin1_aae02 8 rfl)
set_option maxRecDepth 20000 in
theorem c_J0_length (hu : u < 38) : MC g yJ0_length_8abf5 cJ0_length_8abf5 1 (some .int) 1 n [.ref (g_sa g u)] E (some (.int (nI (TXL.getD u 0)))) E := by
  refine MC_of pn_J0 (Nat.le_of_ble_eq_true rfl) (fun X C B => ?_)
  have hR := B.1
  refine e_aload_n C 0 (dk dJ0_length_8abf5 0 rfl) rfl rfl ?_
  refine e_svalue hu C (dk dJ0_length_8abf5 1 rfl) ?_
  refine e_svlen hu C (dk dJ0_length_8abf5 2 rfl) ?_
  refine e_aload_n C 0 (dk dJ0_length_8abf5 3 rfl) rfl rfl ?_
  refine e_callT hu C cal_J0_coder_7d493 im_J0_coder_7d493 se_J0_coder_7d493 ml_J0_335 hR (by decide) (dk dJ0_length_8abf5 4 rfl) (c_J0_coder hu) ⟨Nat.zero_le _, Nat.zero_le _⟩ (Nat.le_of_ble_eq_true rfl) rfl ?_
  refine e_ishr C (dk dJ0_length_8abf5 5 rfl) ?_
  rw [sb_shr0]
  exact e_iret C B (nar1 _) (dk dJ0_length_8abf5 6 rfl)
set_option maxRecDepth 20000 in
theorem c_J3_checkIndex {i m : Int32} {v : Value} (hv : v = .null ∨ ∃ t, v = .ref t) (h1 : ¬ i < 0) (h2 : i < m) : MC g yJ3_checkIndex_8e157 cJ3_checkIndex_8e157 3 (some .int) 0 n [.int i, .int m, v] E (some (.int i)) E := by
  refine MC_of pn_J3 (by rcases hv with rfl | ⟨t, rfl⟩ <;> exact Nat.le_of_ble_eq_true rfl) (fun X C B => ?_)
  refine e_iload_n C 0 (dk dJ3_checkIndex_8e157 0 rfl) rfl rfl ?_
  refine e_if_lt C 9 (dk dJ3_checkIndex_8e157 1 rfl) (by decide) (fun c1 => absurd c1 h1) (fun c1 => ?_)
  refine e_iload_n C 0 (dk dJ3_checkIndex_8e157 2 rfl) rfl rfl ?_
  refine e_iload_n C 1 (dk dJ3_checkIndex_8e157 3 rfl) rfl rfl ?_
  refine e_icmp_lt C 16 (dk dJ3_checkIndex_8e157 4 rfl) (by decide) (fun c1 => ?_) (fun c1 => absurd h2 c1)
  refine e_iload_n C 0 (dk dJ3_checkIndex_8e157 10 rfl) rfl rfl ?_
  exact e_iret C B (nar1 _) (dk dJ3_checkIndex_8e157 11 rfl)
set_option maxRecDepth 20000 in
theorem c_J0_checkIndex {i m : Int32} (h1 : ¬ i < 0) (h2 : i < m) : MC g yJ0_checkIndex_df160 cJ0_checkIndex_df160 2 none 1 n [.int i, .int m] E none E := by
  refine MC_of pn_J0 (Nat.le_of_ble_eq_true rfl) (fun X C B => ?_)
  have hR := B.1
  refine e_iload_n C 0 (dk dJ0_checkIndex_df160 0 rfl) rfl rfl ?_
  refine e_iload_n C 1 (dk dJ0_checkIndex_df160 1 rfl) rfl rfl ?_
  refine e_sioobe C (dk dJ0_checkIndex_df160 2 rfl) (fun v hv => ?_)
  refine e_callS C cal_J3_checkIndex_8e157 sm_J3_checkIndex_8e157 ml_J0_1059 hR (by decide) (dk dJ0_checkIndex_df160 3 rfl) (c_J3_checkIndex hv h1 h2) ⟨Nat.zero_le _, Nat.zero_le _⟩ (Nat.le_of_ble_eq_true rfl) rfl ?_
  refine e_pop C (dk dJ0_checkIndex_df160 4 rfl) rfl ?_
  exact e_vret C B (dk dJ0_checkIndex_df160 5 rfl)
/-- the character at i -/
def txc (u : Nat) (i : Int32) : Int32 := ((((TXB.getD u []).getD i.toNatClampNeg 0) &&& 255).toUInt32 % 65536).toInt32
set_option maxRecDepth 20000 in
theorem c_J1_charAt {i : Int32} (hu : u < 38) (h1 : ¬ i < 0) (h2 : i < nI (TXL.getD u 0)) : MC g yJ1_charAt_3b067 cJ1_charAt_3b067 2 (some .char) 2 n [.ref (g_sv g u), .int i] E (some (.int (txc u i))) E := by
  have hL : TXL.getD u 0 < 100 := by
    have : ∀ u, u < 38 → TXL.getD u 0 < 100 := by decide
    exact this u hu
  have hin : vp_in i (TXL.getD u 0) := by
    obtain ⟨j, hj, rfl⟩ := nI_of h1
    exact vp_in_nI ((nI_ltI hj (by omega)).mp h2) (by omega)
  refine MC_of pn_J1 (Nat.le_of_ble_eq_true rfl) (fun X C B => ?_)
  have hR := B.1
  refine e_iload_n C 1 (dk dJ1_charAt_3b067 0 rfl) rfl rfl ?_
  refine e_aload_n C 0 (dk dJ1_charAt_3b067 1 rfl) rfl rfl ?_
  refine e_svlen hu C (dk dJ1_charAt_3b067 2 rfl) ?_
  refine e_callS C cal_J0_checkIndex_df160 sm_J0_checkIndex_df160 ml_J1_9 hR (by decide) (dk dJ1_charAt_3b067 3 rfl) (c_J0_checkIndex h1 h2) ⟨Nat.zero_le _, Nat.zero_le _⟩ (Nat.le_of_ble_eq_true rfl) rfl ?_
  refine e_aload_n C 0 (dk dJ1_charAt_3b067 4 rfl) rfl rfl ?_
  refine e_iload_n C 1 (dk dJ1_charAt_3b067 5 rfl) rfl rfl ?_
  refine e_svld hu C hin (dk dJ1_charAt_3b067 6 rfl) ?_
  refine e_sipush C 255 (dk dJ1_charAt_3b067 7 rfl) (by decide) ?_
  refine e_iand C (dk dJ1_charAt_3b067 8 rfl) ?_
  refine e_i2c C (dk dJ1_charAt_3b067 9 rfl) ?_
  exact e_iret C B (pk_nc _) (dk dJ1_charAt_3b067 10 rfl)
set_option maxRecDepth 20000 in
theorem c_J0_charAt {i : Int32} (hu : u < 38) (h1 : ¬ i < 0) (h2 : i < nI (TXL.getD u 0)) : MC g yJ0_charAt_5068e cJ0_charAt_5068e 2 (some .char) 3 n [.ref (g_sa g u), .int i] E (some (.int (txc u i))) E := by
  refine MC_of pn_J0 (Nat.le_of_ble_eq_true rfl) (fun X C B => ?_)
  have hR := B.1
  refine e_aload_n C 0 (dk dJ0_charAt_5068e 0 rfl) rfl rfl ?_
  refine e_callT hu C cal_J0_isLatin1_aae02 im_J0_isLatin1_aae02 se_J0_isLatin1_aae02 ml_J0_492 hR (by decide) (dk dJ0_charAt_5068e 1 rfl) (c_J0_isLatin1 hu) ⟨Nat.zero_le _, Nat.zero_le _⟩ (Nat.le_of_ble_eq_true rfl) rfl ?_
  refine e_if_eq C 16 (dk dJ0_charAt_5068e 2 rfl) (by decide) (fun c1 => absurd c1 (by decide)) (fun c1 => ?_)
  refine e_aload_n C 0 (dk dJ0_charAt_5068e 3 rfl) rfl rfl ?_
  refine e_svalue hu C (dk dJ0_charAt_5068e 4 rfl) ?_
  refine e_iload_n C 1 (dk dJ0_charAt_5068e 5 rfl) rfl rfl ?_
  refine e_callS C cal_J1_charAt_3b067 sm_J1_charAt_3b067 ml_J0_495 hR (by decide) (dk dJ0_charAt_5068e 6 rfl) (c_J1_charAt hu h1 h2) ⟨Nat.zero_le _, Nat.zero_le _⟩ (Nat.le_of_ble_eq_true rfl) rfl ?_
  exact e_iret C B (pk_nc _) (dk dJ0_charAt_5068e 7 rfl)
end STRC
/-- what the walks take of it: length, and the character at a place within -/
def F_slen (u : Nat) : Int32 := nI (TXL.getD u 0)
def F_schar (u : Nat) (i : Int32) : Option Int32 := if i < 0 then none else if i < nI (TXL.getD u 0) then some (txc u i) else none
theorem c_slen {g : WC} {n : Nat} {E : Nat → va_E} {kd : Nat → Nat} (_ : KD n kd) {u : Nat} (hu : u < 38) {res : Int32} (h : F_slen u = res) : MC g yJ0_length_8abf5 cJ0_length_8abf5 1 (some .int) 1 n [.ref (g_sa g u)] E (some (.int res)) E := by
  subst h
  exact c_J0_length hu
theorem c_schar {g : WC} {n : Nat} {E : Nat → va_E} {kd : Nat → Nat} (_ : KD n kd) {u : Nat} {i : Int32} (hu : u < 38) {res : Int32} (h : F_schar u i = some res) : MC g yJ0_charAt_5068e cJ0_charAt_5068e 2 (some .char) 3 n [.ref (g_sa g u), .int i] E (some (.int res)) E := by
  unfold F_schar at h
  split at h
  · cases h
  · rename_i h1
    split at h
    · rename_i h2
      obtain rfl := Option.some.inj h
      exact c_J0_charAt hu h1 h2
    · cases h
