def B_law (g : WC) : List va_E := (B_X11 g 0 ++ B_X12 g 67) ++ [lar g 1]
theorem M0_ent {g : WC} {Xo E0 : Nat → va_E} : ∀ j, j < 107 → ap E0 0 (B_law g) j = ent g Xo KDf M0 j := by
  intro j hj
  have h : j = 0 ∨ j = 1 ∨ j = 2 ∨ j = 3 ∨ j = 4 ∨ j = 5 ∨ j = 6 ∨ j = 7 ∨ j = 8 ∨ j = 9 ∨ j = 10 ∨ j = 11 ∨ j = 12 ∨ j = 13 ∨ j = 14 ∨ j = 15 ∨ j = 16 ∨ j = 17 ∨ j = 18 ∨ j = 19 ∨ j = 20 ∨ j = 21 ∨ j = 22 ∨ j = 23 ∨ j = 24 ∨ j = 25 ∨ j = 26 ∨ j = 27 ∨ j = 28 ∨ j = 29 ∨ j = 30 ∨ j = 31 ∨ j = 32 ∨ j = 33 ∨ j = 34 ∨ j = 35 ∨ j = 36 ∨ j = 37 ∨ j = 38 ∨ j = 39 ∨ j = 40 ∨ j = 41 ∨ j = 42 ∨ j = 43 ∨ j = 44 ∨ j = 45 ∨ j = 46 ∨ j = 47 ∨ j = 48 ∨ j = 49 ∨ j = 50 ∨ j = 51 ∨ j = 52 ∨ j = 53 ∨ j = 54 ∨ j = 55 ∨ j = 56 ∨ j = 57 ∨ j = 58 ∨ j = 59 ∨ j = 60 ∨ j = 61 ∨ j = 62 ∨ j = 63 ∨ j = 64 ∨ j = 65 ∨ j = 66 ∨ j = 67 ∨ j = 68 ∨ j = 69 ∨ j = 70 ∨ j = 71 ∨ j = 72 ∨ j = 73 ∨ j = 74 ∨ j = 75 ∨ j = 76 ∨ j = 77 ∨ j = 78 ∨ j = 79 ∨ j = 80 ∨ j = 81 ∨ j = 82 ∨ j = 83 ∨ j = 84 ∨ j = 85 ∨ j = 86 ∨ j = 87 ∨ j = 88 ∨ j = 89 ∨ j = 90 ∨ j = 91 ∨ j = 92 ∨ j = 93 ∨ j = 94 ∨ j = 95 ∨ j = 96 ∨ j = 97 ∨ j = 98 ∨ j = 99 ∨ j = 100 ∨ j = 101 ∨ j = 102 ∨ j = 103 ∨ j = 104 ∨ j = 105 ∨ j = 106 := by omega
  rcases h with rfl | rfl | rfl | rfl | rfl | rfl | rfl | rfl | rfl | rfl | rfl | rfl | rfl | rfl | rfl | rfl | rfl | rfl | rfl | rfl | rfl | rfl | rfl | rfl | rfl | rfl | rfl | rfl | rfl | rfl | rfl | rfl | rfl | rfl | rfl | rfl | rfl | rfl | rfl | rfl | rfl | rfl | rfl | rfl | rfl | rfl | rfl | rfl | rfl | rfl | rfl | rfl | rfl | rfl | rfl | rfl | rfl | rfl | rfl | rfl | rfl | rfl | rfl | rfl | rfl | rfl | rfl | rfl | rfl | rfl | rfl | rfl | rfl | rfl | rfl | rfl | rfl | rfl | rfl | rfl | rfl | rfl | rfl | rfl | rfl | rfl | rfl | rfl | rfl | rfl | rfl | rfl | rfl | rfl | rfl | rfl | rfl | rfl | rfl | rfl | rfl | rfl | rfl | rfl | rfl | rfl | rfl
  · exact ap_at (n0 := 0) (a := 0) (x := ent g Xo KDf M0 0) rfl
  · exact ap_at (n0 := 0) (a := 1) (x := ent g Xo KDf M0 1) rfl
  · exact ap_at (n0 := 0) (a := 2) (x := ent g Xo KDf M0 2) rfl
  · exact ap_at (n0 := 0) (a := 3) (x := ent g Xo KDf M0 3) rfl
  · exact ap_at (n0 := 0) (a := 4) (x := ent g Xo KDf M0 4) rfl
  · exact ap_at (n0 := 0) (a := 5) (x := ent g Xo KDf M0 5) rfl
  · exact ap_at (n0 := 0) (a := 6) (x := ent g Xo KDf M0 6) rfl
  · exact ap_at (n0 := 0) (a := 7) (x := ent g Xo KDf M0 7) rfl
  · exact ap_at (n0 := 0) (a := 8) (x := ent g Xo KDf M0 8) rfl
  · exact ap_at (n0 := 0) (a := 9) (x := ent g Xo KDf M0 9) rfl
  · exact ap_at (n0 := 0) (a := 10) (x := ent g Xo KDf M0 10) rfl
  · exact ap_at (n0 := 0) (a := 11) (x := ent g Xo KDf M0 11) rfl
  · exact ap_at (n0 := 0) (a := 12) (x := ent g Xo KDf M0 12) rfl
  · exact ap_at (n0 := 0) (a := 13) (x := ent g Xo KDf M0 13) rfl
  · exact ap_at (n0 := 0) (a := 14) (x := ent g Xo KDf M0 14) rfl
  · exact ap_at (n0 := 0) (a := 15) (x := ent g Xo KDf M0 15) rfl
  · exact ap_at (n0 := 0) (a := 16) (x := ent g Xo KDf M0 16) rfl
  · exact ap_at (n0 := 0) (a := 17) (x := ent g Xo KDf M0 17) rfl
  · exact ap_at (n0 := 0) (a := 18) (x := ent g Xo KDf M0 18) rfl
  · exact ap_at (n0 := 0) (a := 19) (x := ent g Xo KDf M0 19) rfl
  · exact ap_at (n0 := 0) (a := 20) (x := ent g Xo KDf M0 20) rfl
  · exact ap_at (n0 := 0) (a := 21) (x := ent g Xo KDf M0 21) rfl
  · exact ap_at (n0 := 0) (a := 22) (x := ent g Xo KDf M0 22) rfl
  · exact ap_at (n0 := 0) (a := 23) (x := ent g Xo KDf M0 23) rfl
  · exact ap_at (n0 := 0) (a := 24) (x := ent g Xo KDf M0 24) rfl
  · exact ap_at (n0 := 0) (a := 25) (x := ent g Xo KDf M0 25) rfl
  · exact ap_at (n0 := 0) (a := 26) (x := ent g Xo KDf M0 26) rfl
  · exact ap_at (n0 := 0) (a := 27) (x := ent g Xo KDf M0 27) rfl
  · exact ap_at (n0 := 0) (a := 28) (x := ent g Xo KDf M0 28) rfl
  · exact ap_at (n0 := 0) (a := 29) (x := ent g Xo KDf M0 29) rfl
  · exact ap_at (n0 := 0) (a := 30) (x := ent g Xo KDf M0 30) rfl
  · exact ap_at (n0 := 0) (a := 31) (x := ent g Xo KDf M0 31) rfl
  · exact ap_at (n0 := 0) (a := 32) (x := ent g Xo KDf M0 32) rfl
  · exact ap_at (n0 := 0) (a := 33) (x := ent g Xo KDf M0 33) rfl
  · exact ap_at (n0 := 0) (a := 34) (x := ent g Xo KDf M0 34) rfl
  · exact ap_at (n0 := 0) (a := 35) (x := ent g Xo KDf M0 35) rfl
  · exact ap_at (n0 := 0) (a := 36) (x := ent g Xo KDf M0 36) rfl
  · exact ap_at (n0 := 0) (a := 37) (x := ent g Xo KDf M0 37) rfl
  · exact ap_at (n0 := 0) (a := 38) (x := ent g Xo KDf M0 38) rfl
  · exact ap_at (n0 := 0) (a := 39) (x := ent g Xo KDf M0 39) rfl
  · exact ap_at (n0 := 0) (a := 40) (x := ent g Xo KDf M0 40) rfl
  · exact ap_at (n0 := 0) (a := 41) (x := ent g Xo KDf M0 41) rfl
  · exact ap_at (n0 := 0) (a := 42) (x := ent g Xo KDf M0 42) rfl
  · exact ap_at (n0 := 0) (a := 43) (x := ent g Xo KDf M0 43) rfl
  · exact ap_at (n0 := 0) (a := 44) (x := ent g Xo KDf M0 44) rfl
  · exact ap_at (n0 := 0) (a := 45) (x := ent g Xo KDf M0 45) rfl
  · exact ap_at (n0 := 0) (a := 46) (x := ent g Xo KDf M0 46) rfl
  · exact ap_at (n0 := 0) (a := 47) (x := ent g Xo KDf M0 47) rfl
  · exact ap_at (n0 := 0) (a := 48) (x := ent g Xo KDf M0 48) rfl
  · exact ap_at (n0 := 0) (a := 49) (x := ent g Xo KDf M0 49) rfl
  · exact ap_at (n0 := 0) (a := 50) (x := ent g Xo KDf M0 50) rfl
  · exact ap_at (n0 := 0) (a := 51) (x := ent g Xo KDf M0 51) rfl
  · exact ap_at (n0 := 0) (a := 52) (x := ent g Xo KDf M0 52) rfl
  · exact ap_at (n0 := 0) (a := 53) (x := ent g Xo KDf M0 53) rfl
  · exact ap_at (n0 := 0) (a := 54) (x := ent g Xo KDf M0 54) rfl
  · exact ap_at (n0 := 0) (a := 55) (x := ent g Xo KDf M0 55) rfl
  · exact ap_at (n0 := 0) (a := 56) (x := ent g Xo KDf M0 56) rfl
  · exact ap_at (n0 := 0) (a := 57) (x := ent g Xo KDf M0 57) rfl
  · exact ap_at (n0 := 0) (a := 58) (x := ent g Xo KDf M0 58) rfl
  · exact ap_at (n0 := 0) (a := 59) (x := ent g Xo KDf M0 59) rfl
  · exact ap_at (n0 := 0) (a := 60) (x := ent g Xo KDf M0 60) rfl
  · exact ap_at (n0 := 0) (a := 61) (x := ent g Xo KDf M0 61) rfl
  · exact ap_at (n0 := 0) (a := 62) (x := ent g Xo KDf M0 62) rfl
  · exact ap_at (n0 := 0) (a := 63) (x := ent g Xo KDf M0 63) rfl
  · exact ap_at (n0 := 0) (a := 64) (x := ent g Xo KDf M0 64) rfl
  · exact ap_at (n0 := 0) (a := 65) (x := ent g Xo KDf M0 65) rfl
  · exact ap_at (n0 := 0) (a := 66) (x := ent g Xo KDf M0 66) rfl
  · exact ap_at (n0 := 0) (a := 67) (x := ent g Xo KDf M0 67) rfl
  · exact ap_at (n0 := 0) (a := 68) (x := ent g Xo KDf M0 68) rfl
  · exact ap_at (n0 := 0) (a := 69) (x := ent g Xo KDf M0 69) rfl
  · exact ap_at (n0 := 0) (a := 70) (x := ent g Xo KDf M0 70) rfl
  · exact ap_at (n0 := 0) (a := 71) (x := ent g Xo KDf M0 71) rfl
  · exact ap_at (n0 := 0) (a := 72) (x := ent g Xo KDf M0 72) rfl
  · exact ap_at (n0 := 0) (a := 73) (x := ent g Xo KDf M0 73) rfl
  · exact ap_at (n0 := 0) (a := 74) (x := ent g Xo KDf M0 74) rfl
  · exact ap_at (n0 := 0) (a := 75) (x := ent g Xo KDf M0 75) rfl
  · exact ap_at (n0 := 0) (a := 76) (x := ent g Xo KDf M0 76) rfl
  · exact ap_at (n0 := 0) (a := 77) (x := ent g Xo KDf M0 77) rfl
  · exact ap_at (n0 := 0) (a := 78) (x := ent g Xo KDf M0 78) rfl
  · exact ap_at (n0 := 0) (a := 79) (x := ent g Xo KDf M0 79) rfl
  · exact ap_at (n0 := 0) (a := 80) (x := ent g Xo KDf M0 80) rfl
  · exact ap_at (n0 := 0) (a := 81) (x := ent g Xo KDf M0 81) rfl
  · exact ap_at (n0 := 0) (a := 82) (x := ent g Xo KDf M0 82) rfl
  · exact ap_at (n0 := 0) (a := 83) (x := ent g Xo KDf M0 83) rfl
  · exact ap_at (n0 := 0) (a := 84) (x := ent g Xo KDf M0 84) rfl
  · exact ap_at (n0 := 0) (a := 85) (x := ent g Xo KDf M0 85) rfl
  · exact ap_at (n0 := 0) (a := 86) (x := ent g Xo KDf M0 86) rfl
  · exact ap_at (n0 := 0) (a := 87) (x := ent g Xo KDf M0 87) rfl
  · exact ap_at (n0 := 0) (a := 88) (x := ent g Xo KDf M0 88) rfl
  · exact ap_at (n0 := 0) (a := 89) (x := ent g Xo KDf M0 89) rfl
  · exact ap_at (n0 := 0) (a := 90) (x := ent g Xo KDf M0 90) rfl
  · exact ap_at (n0 := 0) (a := 91) (x := ent g Xo KDf M0 91) rfl
  · exact ap_at (n0 := 0) (a := 92) (x := ent g Xo KDf M0 92) rfl
  · exact ap_at (n0 := 0) (a := 93) (x := ent g Xo KDf M0 93) rfl
  · exact ap_at (n0 := 0) (a := 94) (x := ent g Xo KDf M0 94) rfl
  · exact ap_at (n0 := 0) (a := 95) (x := ent g Xo KDf M0 95) rfl
  · exact ap_at (n0 := 0) (a := 96) (x := ent g Xo KDf M0 96) rfl
  · exact ap_at (n0 := 0) (a := 97) (x := ent g Xo KDf M0 97) rfl
  · exact ap_at (n0 := 0) (a := 98) (x := ent g Xo KDf M0 98) rfl
  · exact ap_at (n0 := 0) (a := 99) (x := ent g Xo KDf M0 99) rfl
  · exact ap_at (n0 := 0) (a := 100) (x := ent g Xo KDf M0 100) rfl
  · exact ap_at (n0 := 0) (a := 101) (x := ent g Xo KDf M0 101) rfl
  · exact ap_at (n0 := 0) (a := 102) (x := ent g Xo KDf M0 102) rfl
  · exact ap_at (n0 := 0) (a := 103) (x := ent g Xo KDf M0 103) rfl
  · exact ap_at (n0 := 0) (a := 104) (x := ent g Xo KDf M0 104) rfl
  · exact ap_at (n0 := 0) (a := 105) (x := ent g Xo KDf M0 105) rfl
  · exact ap_at (n0 := 0) (a := 106) (x := ent g Xo KDf M0 106) rfl
set_option maxRecDepth 20000 in
theorem law_start {X : FX} {g : WC} {b L : Nat} {xs : Nat → Int32} {E0 : Nat → va_E} (C : Cx X g RL cL_law 7) (S : SC X g b L xs) {q : Mem} (hend : ∀ (z k sl : Nat) (x4 : Int32), k ≤ 601024 → sl ≤ 7293033 → EW X g z 107 7 (ent g E0 KDf q) k sl 2483 [(0, .ref b), (1, .ref (g_N g + 0)), (2, .ref (g_N g + 67)), (3, .ref (g_N g + 106)), (4, .int x4)] []) (h : L_law L xs 600 0 M0 = some q) : EW X g (g_N g + 0) 0 7 (ap E0 0 []) 0 0 0 [(0, .ref b)] [] := by
  refine e_newO (n0 := 0) (L2 := [.inr (11, [.null, .null, .int 0, .null, .null, .int 0, .null, .null, .null, .null, .null, .null, .null])]) C rfl tw_X11 tyX11 tyX11_ok cl_L_8 it_X11 ini_X11 rfl dfl_X11 (by rw [S.1]; exact Nat.le_of_ble_eq_true rfl) (by rw [S.1]; exact Nat.le_of_ble_eq_true rfl) rfl (dk dL_law_0 0 rfl) ?_
  refine e_dup C (dk dL_law_0 1 rfl) rfl ?_
  refine e_ncall (n0 := 0) (t := 0) (n2 := 67) (L := []) (L2 := B_X11 g 0) C cal_X11_init rfl im_X11_init ml_L_113 (lroomN S (by decide) (by decide)) (dk dL_law_0 2 rfl) (nc_X11 (by decide)) rfl ⟨(by rw [S.1]; exact Nat.le_of_ble_eq_true rfl), (by rw [S.1]; exact Nat.le_of_ble_eq_true rfl)⟩ (Nat.le_of_ble_eq_true rfl) rfl rfl rfl (Nat.le_of_ble_eq_true rfl) ?_
  refine e_astore_n C [(1, .ref (g_N g + 0)), (0, .ref b)] (dk dL_law_0 3 rfl) rfl (by decide) rfl ?_
  refine e_newO (n0 := 0) (L2 := B_X11 g 0 ++ [.inr (12, [.null, .null, .int 0, .null, .null, .null, .null, .null, .null, .null, .null, .null, .null, .null, .int 0, .int 0, .int 0, .int 0, .int 0, .int 0, .int 0, .int 0, .int 0, .int 0, .int 0, .null, .null, .null, .null, .int 0, .int 0, .int 0, .int 0, .int 0, .int 0, .int 0, .null, .null, .null, .int 0, .null, .null, .int 0, .null, .null, .null, .null, .null, .null, .null, .null, .null, .int 0, .null, .int 0, .int 0, .int 0, .int 0, .null, .null, .null, .null, .null, .null])]) C rfl tw_X12 tyX12 tyX12_ok cl_L_114 it_X12 ini_X12 rfl dfl_X12 (by rw [S.1]; exact Nat.le_of_ble_eq_true rfl) (by rw [S.1]; exact Nat.le_of_ble_eq_true rfl) rfl (dk dL_law_0 4 rfl) ?_
  refine e_dup C (dk dL_law_0 5 rfl) rfl ?_
  refine e_ncall (n0 := 0) (t := 67) (n2 := 106) (L := B_X11 g 0) (L2 := B_X11 g 0 ++ B_X12 g 67) C cal_X12_init rfl im_X12_init ml_L_116 (lroomN S (by decide) (by decide)) (dk dL_law_0 6 rfl) nc_X12 rfl ⟨(by rw [S.1]; exact Nat.le_of_ble_eq_true rfl), (by rw [S.1]; exact Nat.le_of_ble_eq_true rfl)⟩ (Nat.le_of_ble_eq_true rfl) rfl rfl rfl (Nat.le_of_ble_eq_true rfl) ?_
  refine e_astore_n C [(2, .ref (g_N g + 67)), (1, .ref (g_N g + 0)), (0, .ref b)] (dk dL_law_0 7 rfl) rfl (by decide) rfl ?_
  refine e_iconst C 1 (dk dL_law_0 8 rfl) (by decide) ?_
  refine e_newL (n0 := 0) (N := 1) (L2 := B_law g) C rfl (by decide) (by decide) (Nat.le_of_ble_eq_true rfl) (by rw [S.1]; exact Nat.le_of_ble_eq_true rfl) (by rw [S.1]; exact Nat.le_of_ble_eq_true rfl) rfl (dk dL_law_0 9 rfl) ?_
  refine e_E (E2 := ent g E0 KDf M0) (fun j hj => M0_ent j hj) ?_
  refine e_astore_n C [(3, .ref (g_N g + 106)), (2, .ref (g_N g + 67)), (1, .ref (g_N g + 0)), (0, .ref b)] (dk dL_law_0 10 rfl) rfl (by decide) rfl ?_
  refine e_iconst C 0 (dk dL_law_0 11 rfl) (by decide) ?_
  refine e_istore C [(4, .int 0), (3, .ref (g_N g + 106)), (2, .ref (g_N g + 67)), (1, .ref (g_N g + 0)), (0, .ref b)] (dk dL_law_0 12 rfl) (by decide) rfl ?_
  refine e_lv [4, 3, 2, 1, 0] rfl ?_
  exact l_law C S hend 600 _ _ _ _ _ (Nat.le_of_ble_eq_true rfl) (Nat.le_of_ble_eq_true rfl) h
