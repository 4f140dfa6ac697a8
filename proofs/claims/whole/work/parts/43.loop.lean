set_option maxRecDepth 20000 in
theorem st_law {X : FX} {g : WC} {Xo : Nat → va_E} {b L : Nat} {xs : Nat → Int32} (C : Cx X g RL cL_law 7) (S : SC X g b L xs) {rec : Int32 → Mem → Option Mem} {q : Mem} {z0 k0 sl0 : Nat} (hk : k0 + 4 ≤ 601024) (hs : sl0 + 24 ≤ 7293033) (hrec : ∀ (z k sl : Nat) (x4 : Int32) (M : Mem), k ≤ k0 + 4 → sl ≤ sl0 + 24 → rec x4 M = some q → EW X g z 107 7 (ent g Xo KDf M) k sl 23 [(0, .ref b), (1, .ref (g_N g + 0)), (2, .ref (g_N g + 67)), (3, .ref (g_N g + 106)), (4, .int x4)] []) {x4 : Int32} {M : Mem} (h : ST_law L xs rec x4 M = some q) : EW X g z0 107 7 (ent g Xo KDf M) k0 sl0 33 [(0, .ref b), (1, .ref (g_N g + 0)), (2, .ref (g_N g + 67)), (3, .ref (g_N g + 106)), (4, .int x4)] [] := by
  rw [ST_law] at h
  obtain ⟨v, hv, h⟩ := ob h
  refine e_aload_n C 0 (dk dL_law_0 19 rfl) rfl rfl ?_
  refine e_iload C 4 (dk dL_law_0 20 rfl) rfl ?_
  refine e_scl C S (dk dL_law_0 21 rfl) hv ?_
  refine e_bipush C 63 (dk dL_law_0 22 rfl) (by decide) ?_
  refine e_iand C (dk dL_law_0 23 rfl) ?_
  by_cases c0 : v &&& 63 = 0
  · rw [if_pos c0] at h
    refine e_tsIn C 220 (dk dL_law_0 24 rfl) (by rw [c0]; decide) (by rw [c0]; decide) (by rw [c0]; rfl) (by decide) ?_
    exact j_law_0 C S hk hs hrec h
  rw [if_neg c0] at h
  by_cases c1 : v &&& 63 = 1
  · rw [if_pos c1] at h
    refine e_tsIn C 293 (dk dL_law_0 24 rfl) (by rw [c1]; decide) (by rw [c1]; decide) (by rw [c1]; rfl) (by decide) ?_
    exact j_law_1 C S hk hs hrec h
  rw [if_neg c1] at h
  by_cases c2 : v &&& 63 = 2
  · rw [if_pos c2] at h
    refine e_tsIn C 349 (dk dL_law_0 24 rfl) (by rw [c2]; decide) (by rw [c2]; decide) (by rw [c2]; rfl) (by decide) ?_
    exact j_law_2 C S hk hs hrec h
  rw [if_neg c2] at h
  by_cases c3 : v &&& 63 = 3
  · rw [if_pos c3] at h
    refine e_tsIn C 362 (dk dL_law_0 24 rfl) (by rw [c3]; decide) (by rw [c3]; decide) (by rw [c3]; rfl) (by decide) ?_
    exact j_law_3 C S hk hs hrec h
  rw [if_neg c3] at h
  by_cases c4 : v &&& 63 = 4
  · rw [if_pos c4] at h
    refine e_tsIn C 418 (dk dL_law_0 24 rfl) (by rw [c4]; decide) (by rw [c4]; decide) (by rw [c4]; rfl) (by decide) ?_
    exact j_law_4 C S hk hs hrec h
  rw [if_neg c4] at h
  by_cases c5 : v &&& 63 = 5
  · rw [if_pos c5] at h
    refine e_tsIn C 474 (dk dL_law_0 24 rfl) (by rw [c5]; decide) (by rw [c5]; decide) (by rw [c5]; rfl) (by decide) ?_
    exact j_law_5 C S hk hs hrec h
  rw [if_neg c5] at h
  by_cases c6 : v &&& 63 = 6
  · rw [if_pos c6] at h
    refine e_tsIn C 542 (dk dL_law_0 24 rfl) (by rw [c6]; decide) (by rw [c6]; decide) (by rw [c6]; rfl) (by decide) ?_
    exact j_law_6 C S hk hs hrec h
  rw [if_neg c6] at h
  by_cases c7 : v &&& 63 = 7
  · rw [if_pos c7] at h
    refine e_tsIn C 610 (dk dL_law_0 24 rfl) (by rw [c7]; decide) (by rw [c7]; decide) (by rw [c7]; rfl) (by decide) ?_
    exact j_law_7 C S hk hs hrec h
  rw [if_neg c7] at h
  by_cases c8 : v &&& 63 = 8
  · rw [if_pos c8] at h
    refine e_tsIn C 635 (dk dL_law_0 24 rfl) (by rw [c8]; decide) (by rw [c8]; decide) (by rw [c8]; rfl) (by decide) ?_
    exact j_law_8 C S hk hs hrec h
  rw [if_neg c8] at h
  by_cases c9 : v &&& 63 = 9
  · rw [if_pos c9] at h
    refine e_tsIn C 691 (dk dL_law_0 24 rfl) (by rw [c9]; decide) (by rw [c9]; decide) (by rw [c9]; rfl) (by decide) ?_
    exact j_law_9 C S hk hs hrec h
  rw [if_neg c9] at h
  by_cases c10 : v &&& 63 = 10
  · rw [if_pos c10] at h
    refine e_tsIn C 771 (dk dL_law_0 24 rfl) (by rw [c10]; decide) (by rw [c10]; decide) (by rw [c10]; rfl) (by decide) ?_
    exact j_law_10 C S hk hs hrec h
  rw [if_neg c10] at h
  by_cases c11 : v &&& 63 = 11
  · rw [if_pos c11] at h
    refine e_tsIn C 839 (dk dL_law_0 24 rfl) (by rw [c11]; decide) (by rw [c11]; decide) (by rw [c11]; rfl) (by decide) ?_
    exact j_law_11 C S hk hs hrec h
  rw [if_neg c11] at h
  by_cases c12 : v &&& 63 = 12
  · rw [if_pos c12] at h
    refine e_tsIn C 864 (dk dL_law_0 24 rfl) (by rw [c12]; decide) (by rw [c12]; decide) (by rw [c12]; rfl) (by decide) ?_
    exact j_law_12 C S hk hs hrec h
  rw [if_neg c12] at h
  by_cases c13 : v &&& 63 = 13
  · rw [if_pos c13] at h
    refine e_tsIn C 877 (dk dL_law_0 24 rfl) (by rw [c13]; decide) (by rw [c13]; decide) (by rw [c13]; rfl) (by decide) ?_
    exact j_law_13 C S hk hs hrec h
  rw [if_neg c13] at h
  by_cases c14 : v &&& 63 = 14
  · rw [if_pos c14] at h
    refine e_tsIn C 933 (dk dL_law_0 24 rfl) (by rw [c14]; decide) (by rw [c14]; decide) (by rw [c14]; rfl) (by decide) ?_
    exact j_law_14 C S hk hs hrec h
  rw [if_neg c14] at h
  by_cases c15 : v &&& 63 = 15
  · rw [if_pos c15] at h
    refine e_tsIn C 1013 (dk dL_law_0 24 rfl) (by rw [c15]; decide) (by rw [c15]; decide) (by rw [c15]; rfl) (by decide) ?_
    exact j_law_15 C S hk hs hrec h
  rw [if_neg c15] at h
  by_cases c16 : v &&& 63 = 16
  · rw [if_pos c16] at h
    refine e_tsIn C 1093 (dk dL_law_0 24 rfl) (by rw [c16]; decide) (by rw [c16]; decide) (by rw [c16]; rfl) (by decide) ?_
    exact j_law_16 C S hk hs hrec h
  rw [if_neg c16] at h
  by_cases c17 : v &&& 63 = 17
  · rw [if_pos c17] at h
    refine e_tsIn C 1149 (dk dL_law_0 24 rfl) (by rw [c17]; decide) (by rw [c17]; decide) (by rw [c17]; rfl) (by decide) ?_
    exact j_law_17 C S hk hs hrec h
  rw [if_neg c17] at h
  by_cases c18 : v &&& 63 = 18
  · rw [if_pos c18] at h
    refine e_tsIn C 1205 (dk dL_law_0 24 rfl) (by rw [c18]; decide) (by rw [c18]; decide) (by rw [c18]; rfl) (by decide) ?_
    exact j_law_18 C S hk hs hrec h
  rw [if_neg c18] at h
  by_cases c19 : v &&& 63 = 19
  · rw [if_pos c19] at h
    refine e_tsIn C 1218 (dk dL_law_0 24 rfl) (by rw [c19]; decide) (by rw [c19]; decide) (by rw [c19]; rfl) (by decide) ?_
    exact j_law_19 C S hk hs hrec h
  rw [if_neg c19] at h
  by_cases c20 : v &&& 63 = 20
  · rw [if_pos c20] at h
    refine e_tsIn C 1274 (dk dL_law_0 24 rfl) (by rw [c20]; decide) (by rw [c20]; decide) (by rw [c20]; rfl) (by decide) ?_
    exact j_law_20 C S hk hs hrec h
  rw [if_neg c20] at h
  by_cases c21 : v &&& 63 = 21
  · rw [if_pos c21] at h
    refine e_tsIn C 1342 (dk dL_law_0 24 rfl) (by rw [c21]; decide) (by rw [c21]; decide) (by rw [c21]; rfl) (by decide) ?_
    exact j_law_21 C S hk hs hrec h
  rw [if_neg c21] at h
  by_cases c22 : v &&& 63 = 22
  · rw [if_pos c22] at h
    refine e_tsIn C 1410 (dk dL_law_0 24 rfl) (by rw [c22]; decide) (by rw [c22]; decide) (by rw [c22]; rfl) (by decide) ?_
    exact j_law_22 C S hk hs hrec h
  rw [if_neg c22] at h
  by_cases c23 : v &&& 63 = 23
  · rw [if_pos c23] at h
    refine e_tsIn C 1478 (dk dL_law_0 24 rfl) (by rw [c23]; decide) (by rw [c23]; decide) (by rw [c23]; rfl) (by decide) ?_
    exact j_law_23 C S hk hs hrec h
  rw [if_neg c23] at h
  by_cases c24 : v &&& 63 = 24
  · rw [if_pos c24] at h
    refine e_tsIn C 1534 (dk dL_law_0 24 rfl) (by rw [c24]; decide) (by rw [c24]; decide) (by rw [c24]; rfl) (by decide) ?_
    exact j_law_24 C S hk hs hrec h
  rw [if_neg c24] at h
  by_cases c25 : v &&& 63 = 25
  · rw [if_pos c25] at h
    refine e_tsIn C 1590 (dk dL_law_0 24 rfl) (by rw [c25]; decide) (by rw [c25]; decide) (by rw [c25]; rfl) (by decide) ?_
    exact j_law_25 C S hk hs hrec h
  rw [if_neg c25] at h
  by_cases c26 : v &&& 63 = 26
  · rw [if_pos c26] at h
    refine e_tsIn C 1658 (dk dL_law_0 24 rfl) (by rw [c26]; decide) (by rw [c26]; decide) (by rw [c26]; rfl) (by decide) ?_
    exact j_law_26 C S hk hs hrec h
  rw [if_neg c26] at h
  by_cases c27 : v &&& 63 = 27
  · rw [if_pos c27] at h
    refine e_tsIn C 1714 (dk dL_law_0 24 rfl) (by rw [c27]; decide) (by rw [c27]; decide) (by rw [c27]; rfl) (by decide) ?_
    exact j_law_27 C S hk hs hrec h
  rw [if_neg c27] at h
  by_cases c28 : v &&& 63 = 28
  · rw [if_pos c28] at h
    refine e_tsIn C 1770 (dk dL_law_0 24 rfl) (by rw [c28]; decide) (by rw [c28]; decide) (by rw [c28]; rfl) (by decide) ?_
    exact j_law_28 C S hk hs hrec h
  rw [if_neg c28] at h
  by_cases c29 : v &&& 63 = 29
  · rw [if_pos c29] at h
    refine e_tsIn C 1826 (dk dL_law_0 24 rfl) (by rw [c29]; decide) (by rw [c29]; decide) (by rw [c29]; rfl) (by decide) ?_
    exact j_law_29 C S hk hs hrec h
  rw [if_neg c29] at h
  by_cases c30 : v &&& 63 = 30
  · rw [if_pos c30] at h
    refine e_tsIn C 1882 (dk dL_law_0 24 rfl) (by rw [c30]; decide) (by rw [c30]; decide) (by rw [c30]; rfl) (by decide) ?_
    exact j_law_30 C S hk hs hrec h
  rw [if_neg c30] at h
  by_cases c31 : v &&& 63 = 31
  · rw [if_pos c31] at h
    refine e_tsIn C 1950 (dk dL_law_0 24 rfl) (by rw [c31]; decide) (by rw [c31]; decide) (by rw [c31]; rfl) (by decide) ?_
    exact j_law_31 C S hk hs hrec h
  rw [if_neg c31] at h
  by_cases c32 : v &&& 63 = 32
  · rw [if_pos c32] at h
    refine e_tsIn C 2018 (dk dL_law_0 24 rfl) (by rw [c32]; decide) (by rw [c32]; decide) (by rw [c32]; rfl) (by decide) ?_
    exact j_law_32 C S hk hs hrec h
  rw [if_neg c32] at h
  by_cases c33 : v &&& 63 = 33
  · rw [if_pos c33] at h
    refine e_tsIn C 2074 (dk dL_law_0 24 rfl) (by rw [c33]; decide) (by rw [c33]; decide) (by rw [c33]; rfl) (by decide) ?_
    exact j_law_33 C S hk hs hrec h
  rw [if_neg c33] at h
  by_cases c34 : v &&& 63 = 34
  · rw [if_pos c34] at h
    refine e_tsIn C 2170 (dk dL_law_0 24 rfl) (by rw [c34]; decide) (by rw [c34]; decide) (by rw [c34]; rfl) (by decide) ?_
    exact j_law_34 C S hk hs hrec h
  rw [if_neg c34] at h
  by_cases c35 : v &&& 63 = 35
  · rw [if_pos c35] at h
    refine e_tsIn C 2226 (dk dL_law_0 24 rfl) (by rw [c35]; decide) (by rw [c35]; decide) (by rw [c35]; rfl) (by decide) ?_
    exact j_law_35 C S hk hs hrec h
  rw [if_neg c35] at h
  by_cases c36 : v &&& 63 = 36
  · rw [if_pos c36] at h
    refine e_tsIn C 2282 (dk dL_law_0 24 rfl) (by rw [c36]; decide) (by rw [c36]; decide) (by rw [c36]; rfl) (by decide) ?_
    exact j_law_36 C S hk hs hrec h
  rw [if_neg c36] at h
  by_cases c37 : v &&& 63 = 37
  · rw [if_pos c37] at h
    refine e_tsIn C 2293 (dk dL_law_0 24 rfl) (by rw [c37]; decide) (by rw [c37]; decide) (by rw [c37]; rfl) (by decide) ?_
    exact j_law_37 C S hk hs hrec h
  rw [if_neg c37] at h
  by_cases c38 : v &&& 63 = 38
  · rw [if_pos c38] at h
    refine e_tsIn C 2373 (dk dL_law_0 24 rfl) (by rw [c38]; decide) (by rw [c38]; decide) (by rw [c38]; rfl) (by decide) ?_
    exact j_law_38 C S hk hs hrec h
  rw [if_neg c38] at h
  by_cases c39 : v &&& 63 = 39
  · rw [if_pos c39] at h
    refine e_tsIn C 2453 (dk dL_law_0 24 rfl) (by rw [c39]; decide) (by rw [c39]; decide) (by rw [c39]; rfl) (by decide) ?_
    exact j_law_39 C S hk hs hrec h
  rw [if_neg c39] at h
  by_cases c40 : v &&& 63 = 40
  · rw [if_pos c40] at h
    refine e_tsIn C 2464 (dk dL_law_0 24 rfl) (by rw [c40]; decide) (by rw [c40]; decide) (by rw [c40]; rfl) (by decide) ?_
    exact j_law_40 C S hk hs hrec h
  rw [if_neg c40] at h
  refine e_tsOut C 2477 (dk dL_law_0 24 rfl) (ts_out 0 40 (by decide) (fun w h1 h2 => ?_)) (by decide) ?_
  · intro hs9
    have h9 : w = (0 : Int) ∨ w = (1 : Int) ∨ w = (2 : Int) ∨ w = (3 : Int) ∨ w = (4 : Int) ∨ w = (5 : Int) ∨ w = (6 : Int) ∨ w = (7 : Int) ∨ w = (8 : Int) ∨ w = (9 : Int) ∨ w = (10 : Int) ∨ w = (11 : Int) ∨ w = (12 : Int) ∨ w = (13 : Int) ∨ w = (14 : Int) ∨ w = (15 : Int) ∨ w = (16 : Int) ∨ w = (17 : Int) ∨ w = (18 : Int) ∨ w = (19 : Int) ∨ w = (20 : Int) ∨ w = (21 : Int) ∨ w = (22 : Int) ∨ w = (23 : Int) ∨ w = (24 : Int) ∨ w = (25 : Int) ∨ w = (26 : Int) ∨ w = (27 : Int) ∨ w = (28 : Int) ∨ w = (29 : Int) ∨ w = (30 : Int) ∨ w = (31 : Int) ∨ w = (32 : Int) ∨ w = (33 : Int) ∨ w = (34 : Int) ∨ w = (35 : Int) ∨ w = (36 : Int) ∨ w = (37 : Int) ∨ w = (38 : Int) ∨ w = (39 : Int) ∨ w = (40 : Int) := by omega
    rcases h9 with rfl | rfl | rfl | rfl | rfl | rfl | rfl | rfl | rfl | rfl | rfl | rfl | rfl | rfl | rfl | rfl | rfl | rfl | rfl | rfl | rfl | rfl | rfl | rfl | rfl | rfl | rfl | rfl | rfl | rfl | rfl | rfl | rfl | rfl | rfl | rfl | rfl | rfl | rfl | rfl | rfl
    · exact c0 (Int32.toInt_inj.mp (by rw [hs9]; rfl))
    · exact c1 (Int32.toInt_inj.mp (by rw [hs9]; rfl))
    · exact c2 (Int32.toInt_inj.mp (by rw [hs9]; rfl))
    · exact c3 (Int32.toInt_inj.mp (by rw [hs9]; rfl))
    · exact c4 (Int32.toInt_inj.mp (by rw [hs9]; rfl))
    · exact c5 (Int32.toInt_inj.mp (by rw [hs9]; rfl))
    · exact c6 (Int32.toInt_inj.mp (by rw [hs9]; rfl))
    · exact c7 (Int32.toInt_inj.mp (by rw [hs9]; rfl))
    · exact c8 (Int32.toInt_inj.mp (by rw [hs9]; rfl))
    · exact c9 (Int32.toInt_inj.mp (by rw [hs9]; rfl))
    · exact c10 (Int32.toInt_inj.mp (by rw [hs9]; rfl))
    · exact c11 (Int32.toInt_inj.mp (by rw [hs9]; rfl))
    · exact c12 (Int32.toInt_inj.mp (by rw [hs9]; rfl))
    · exact c13 (Int32.toInt_inj.mp (by rw [hs9]; rfl))
    · exact c14 (Int32.toInt_inj.mp (by rw [hs9]; rfl))
    · exact c15 (Int32.toInt_inj.mp (by rw [hs9]; rfl))
    · exact c16 (Int32.toInt_inj.mp (by rw [hs9]; rfl))
    · exact c17 (Int32.toInt_inj.mp (by rw [hs9]; rfl))
    · exact c18 (Int32.toInt_inj.mp (by rw [hs9]; rfl))
    · exact c19 (Int32.toInt_inj.mp (by rw [hs9]; rfl))
    · exact c20 (Int32.toInt_inj.mp (by rw [hs9]; rfl))
    · exact c21 (Int32.toInt_inj.mp (by rw [hs9]; rfl))
    · exact c22 (Int32.toInt_inj.mp (by rw [hs9]; rfl))
    · exact c23 (Int32.toInt_inj.mp (by rw [hs9]; rfl))
    · exact c24 (Int32.toInt_inj.mp (by rw [hs9]; rfl))
    · exact c25 (Int32.toInt_inj.mp (by rw [hs9]; rfl))
    · exact c26 (Int32.toInt_inj.mp (by rw [hs9]; rfl))
    · exact c27 (Int32.toInt_inj.mp (by rw [hs9]; rfl))
    · exact c28 (Int32.toInt_inj.mp (by rw [hs9]; rfl))
    · exact c29 (Int32.toInt_inj.mp (by rw [hs9]; rfl))
    · exact c30 (Int32.toInt_inj.mp (by rw [hs9]; rfl))
    · exact c31 (Int32.toInt_inj.mp (by rw [hs9]; rfl))
    · exact c32 (Int32.toInt_inj.mp (by rw [hs9]; rfl))
    · exact c33 (Int32.toInt_inj.mp (by rw [hs9]; rfl))
    · exact c34 (Int32.toInt_inj.mp (by rw [hs9]; rfl))
    · exact c35 (Int32.toInt_inj.mp (by rw [hs9]; rfl))
    · exact c36 (Int32.toInt_inj.mp (by rw [hs9]; rfl))
    · exact c37 (Int32.toInt_inj.mp (by rw [hs9]; rfl))
    · exact c38 (Int32.toInt_inj.mp (by rw [hs9]; rfl))
    · exact c39 (Int32.toInt_inj.mp (by rw [hs9]; rfl))
    · exact c40 (Int32.toInt_inj.mp (by rw [hs9]; rfl))
  refine e_iinc C [(4, .int (x4 + 6)), (0, .ref b), (1, .ref (g_N g + 0)), (2, .ref (g_N g + 67)), (3, .ref (g_N g + 106))] 4 6 (dk dL_law_24 52 rfl) rfl (by decide) (by decide) rfl ?_
  refine e_goto C 23 (dk dL_law_24 53 rfl) (by decide) ?_
  refine e_lv [1, 2, 3, 4, 0] rfl ?_
  exact hrec _ _ _ _ _ (by omega) (by omega) h
theorem l_law {X : FX} {g : WC} {Xo : Nat → va_E} {b L : Nat} {xs : Nat → Int32} (C : Cx X g RL cL_law 7) (S : SC X g b L xs) {q : Mem} (hend : ∀ (z k sl : Nat) (x4 : Int32), k ≤ 601024 → sl ≤ 7293033 → EW X g z 107 7 (ent g Xo KDf q) k sl 2483 [(0, .ref b), (1, .ref (g_N g + 0)), (2, .ref (g_N g + 67)), (3, .ref (g_N g + 106)), (4, .int x4)] []) : ∀ (N9 : Nat) (z k sl : Nat) (x4 : Int32) (M : Mem), k + 4 * N9 ≤ 601024 → sl + 24 * N9 ≤ 7293033 → L_law L xs N9 x4 M = some q → EW X g z 107 7 (ent g Xo KDf M) k sl 23 [(0, .ref b), (1, .ref (g_N g + 0)), (2, .ref (g_N g + 67)), (3, .ref (g_N g + 106)), (4, .int x4)] [] := by
  intro N9
  induction N9 with
  | zero =>
    intro z k sl x4 M h1 h2 h
    cases h
  | succ m9 ih =>
    intro z k sl x4 M h1 h2 h
    rw [L_law.eq_2] at h
    refine e_iload C 4 (dk dL_law_0 13 rfl) rfl ?_
    refine e_aload_n C 0 (dk dL_law_0 14 rfl) rfl rfl ?_
    refine e_sclen C S (dk dL_law_0 15 rfl) ?_
    refine e_bipush C 6 (dk dL_law_0 16 rfl) (by decide) ?_
    refine e_isub C (dk dL_law_0 17 rfl) ?_
    refine e_icmp_gt C 2483 (dk dL_law_0 18 rfl) (by decide) (fun c => ?_) (fun c => ?_)
    · rw [if_pos c] at h
      obtain rfl := Option.some.inj h
      exact hend _ _ _ _ (by omega) (by omega)
    · rw [if_neg c] at h
      exact st_law C S (by omega) (by omega) (fun z k2 sl2 x M h3 h4 h5 => ih z k2 sl2 x M (by omega) (by omega) h5) h
