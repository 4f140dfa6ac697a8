set_option maxRecDepth 20000 in
theorem j_law_0 {X : FX} {g : WC} {Xo : Nat → va_E} {b L : Nat} {xs : Nat → Int32} (C : Cx X g RL cL_law 7) (S : SC X g b L xs) {rec : Int32 → Mem → Option Mem} {q : Mem} {z0 k0 sl0 : Nat} (hk : k0 + 4 ≤ 601024) (hs : sl0 + 24 ≤ 7293033) (hrec : ∀ (z k sl : Nat) (x4 : Int32) (M : Mem), k ≤ k0 + 4 → sl ≤ sl0 + 24 → rec x4 M = some q → EW X g z 107 7 (ent g Xo KDf M) k sl 23 [(0, .ref b), (1, .ref (g_N g + 0)), (2, .ref (g_N g + 67)), (3, .ref (g_N g + 106)), (4, .int x4)] []) {x4 : Int32} {M : Mem} (h : J_law_0 L xs rec x4 M = some q) : EW X g z0 107 7 (ent g Xo KDf M) k0 sl0 220 [(0, .ref b), (1, .ref (g_N g + 0)), (2, .ref (g_N g + 67)), (3, .ref (g_N g + 106)), (4, .int x4)] [] := by
  rw [J_law_0] at h
  refine e_aload_n C 1 (dk dL_law_0 25 rfl) rfl rfl ?_
  refine e_aload_n C 0 (dk dL_law_0 26 rfl) rfl rfl ?_
  refine e_iload C 4 (dk dL_law_0 27 rfl) rfl ?_
  refine e_iconst C 1 (dk dL_law_0 28 rfl) (by decide) ?_
  refine e_iadd C (dk dL_law_0 29 rfl) ?_
  obtain ⟨v1, hv1, h⟩ := ob h
  refine e_scl C S (dk dL_law_0 30 rfl) hv1 ?_
  refine e_aload_n C 0 (dk dL_law_0 31 rfl) rfl rfl ?_
  refine e_iload C 4 (dk dL_law_0 32 rfl) rfl ?_
  refine e_iconst C 2 (dk dL_law_0 33 rfl) (by decide) ?_
  refine e_iadd C (dk dL_law_0 34 rfl) ?_
  obtain ⟨v2, hv2, h⟩ := ob h
  refine e_scl C S (dk dL_law_0 35 rfl) hv2 ?_
  refine e_aload_n C 0 (dk dL_law_0 36 rfl) rfl rfl ?_
  refine e_iload C 4 (dk dL_law_0 37 rfl) rfl ?_
  refine e_iconst C 3 (dk dL_law_0 38 rfl) (by decide) ?_
  refine e_iadd C (dk dL_law_0 39 rfl) ?_
  obtain ⟨v3, hv3, h⟩ := ob h
  refine e_scl C S (dk dL_law_0 40 rfl) hv3 ?_
  refine e_aload_n C 0 (dk dL_law_0 41 rfl) rfl rfl ?_
  refine e_iload C 4 (dk dL_law_0 42 rfl) rfl ?_
  refine e_iconst C 4 (dk dL_law_0 43 rfl) (by decide) ?_
  refine e_iadd C (dk dL_law_0 44 rfl) ?_
  obtain ⟨v4, hv4, h⟩ := ob h
  refine e_scl C S (dk dL_law_0 45 rfl) hv4 ?_
  refine e_aload_n C 0 (dk dL_law_0 46 rfl) rfl rfl ?_
  refine e_iload C 4 (dk dL_law_0 47 rfl) rfl ?_
  refine e_iconst C 5 (dk dL_law_0 48 rfl) (by decide) ?_
  refine e_iadd C (dk dL_law_0 49 rfl) ?_
  obtain ⟨v5, hv5, h⟩ := ob h
  refine e_scl C S (dk dL_law_0 50 rfl) hv5 ?_
  obtain ⟨q6, hq6, h⟩ := ob h
  refine e_callV2 (ci := 11) C cal_X11_feed im_X11_feed se_X11_feed ml_L_117 rfl (lroom S (by decide) (by decide)) (dk dL_law_0 51 rfl) (by decide) (ent_o11 rfl) (c_X11_feed KDf_KD rfl hq6) (lcap S (by omega) (by omega)) (Nat.le_of_ble_eq_true rfl) rfl ?_
  refine e_aload_n C 2 (dk dL_law_0 52 rfl) rfl rfl ?_
  refine e_aload_n C 0 (dk dL_law_0 53 rfl) rfl rfl ?_
  refine e_iload C 4 (dk dL_law_0 54 rfl) rfl ?_
  refine e_iconst C 1 (dk dL_law_0 55 rfl) (by decide) ?_
  refine e_iadd C (dk dL_law_0 56 rfl) ?_
  obtain ⟨v7, hv7, h⟩ := ob h
  refine e_scl C S (dk dL_law_0 57 rfl) hv7 ?_
  refine e_aload_n C 0 (dk dL_law_0 58 rfl) rfl rfl ?_
  refine e_iload C 4 (dk dL_law_0 59 rfl) rfl ?_
  refine e_iconst C 2 (dk dL_law_1 0 rfl) (by decide) ?_
  refine e_iadd C (dk dL_law_1 1 rfl) ?_
  obtain ⟨v8, hv8, h⟩ := ob h
  refine e_scl C S (dk dL_law_1 2 rfl) hv8 ?_
  refine e_aload_n C 0 (dk dL_law_1 3 rfl) rfl rfl ?_
  refine e_iload C 4 (dk dL_law_1 4 rfl) rfl ?_
  refine e_iconst C 3 (dk dL_law_1 5 rfl) (by decide) ?_
  refine e_iadd C (dk dL_law_1 6 rfl) ?_
  obtain ⟨v9, hv9, h⟩ := ob h
  refine e_scl C S (dk dL_law_1 7 rfl) hv9 ?_
  refine e_aload_n C 0 (dk dL_law_1 8 rfl) rfl rfl ?_
  refine e_iload C 4 (dk dL_law_1 9 rfl) rfl ?_
  refine e_iconst C 4 (dk dL_law_1 10 rfl) (by decide) ?_
  refine e_iadd C (dk dL_law_1 11 rfl) ?_
  obtain ⟨v10, hv10, h⟩ := ob h
  refine e_scl C S (dk dL_law_1 12 rfl) hv10 ?_
  refine e_aload_n C 0 (dk dL_law_1 13 rfl) rfl rfl ?_
  refine e_iload C 4 (dk dL_law_1 14 rfl) rfl ?_
  refine e_iconst C 5 (dk dL_law_1 15 rfl) (by decide) ?_
  refine e_iadd C (dk dL_law_1 16 rfl) ?_
  obtain ⟨v11, hv11, h⟩ := ob h
  refine e_scl C S (dk dL_law_1 17 rfl) hv11 ?_
  obtain ⟨q12, hq12, h⟩ := ob h
  refine e_callV2 (ci := 12) C cal_X12_feed im_X12_feed se_X12_feed ml_L_121 rfl (lroom S (by decide) (by decide)) (dk dL_law_1 18 rfl) (by decide) (ent_o12 rfl) (c_X12_feed KDf_KD rfl hq12) (lcap S (by omega) (by omega)) (Nat.le_of_ble_eq_true rfl) rfl ?_
  refine e_icmp_eq C 2477 (dk dL_law_1 19 rfl) (by decide) (fun c13 => ?_) (fun c13 => ?_)
  · rw [if_pos c13] at h
    refine e_iinc C [(4, .int (x4 + 6)), (0, .ref b), (1, .ref (g_N g + 0)), (2, .ref (g_N g + 67)), (3, .ref (g_N g + 106))] 4 6 (dk dL_law_24 52 rfl) rfl (by decide) (by decide) rfl ?_
    refine e_goto C 23 (dk dL_law_24 53 rfl) (by decide) ?_
    refine e_lv [1, 2, 3, 4, 0] rfl ?_
    exact hrec _ _ _ _ _ (by omega) (by omega) h
  · rw [if_neg c13] at h
    cases h
set_option maxRecDepth 20000 in
theorem j_law_1 {X : FX} {g : WC} {Xo : Nat → va_E} {b L : Nat} {xs : Nat → Int32} (C : Cx X g RL cL_law 7) (S : SC X g b L xs) {rec : Int32 → Mem → Option Mem} {q : Mem} {z0 k0 sl0 : Nat} (hk : k0 + 4 ≤ 601024) (hs : sl0 + 24 ≤ 7293033) (hrec : ∀ (z k sl : Nat) (x4 : Int32) (M : Mem), k ≤ k0 + 4 → sl ≤ sl0 + 24 → rec x4 M = some q → EW X g z 107 7 (ent g Xo KDf M) k sl 23 [(0, .ref b), (1, .ref (g_N g + 0)), (2, .ref (g_N g + 67)), (3, .ref (g_N g + 106)), (4, .int x4)] []) {x4 : Int32} {M : Mem} (h : J_law_1 L xs rec x4 M = some q) : EW X g z0 107 7 (ent g Xo KDf M) k0 sl0 293 [(0, .ref b), (1, .ref (g_N g + 0)), (2, .ref (g_N g + 67)), (3, .ref (g_N g + 106)), (4, .int x4)] [] := by
  rw [J_law_1] at h
  refine e_aload_n C 1 (dk dL_law_1 22 rfl) rfl rfl ?_
  refine e_aload_n C 0 (dk dL_law_1 23 rfl) rfl rfl ?_
  refine e_iload C 4 (dk dL_law_1 24 rfl) rfl ?_
  refine e_iconst C 1 (dk dL_law_1 25 rfl) (by decide) ?_
  refine e_iadd C (dk dL_law_1 26 rfl) ?_
  obtain ⟨v1, hv1, h⟩ := ob h
  refine e_scl C S (dk dL_law_1 27 rfl) hv1 ?_
  refine e_aload_n C 3 (dk dL_law_1 28 rfl) rfl rfl ?_
  obtain ⟨q2, hq2, h⟩ := ob h
  refine e_lcall C cw_L_ward sm_L_ward ml_L_122 (lroomX S (by decide) (by decide)) (dk dL_law_1 29 rfl) (c_L_ward KDf_KD (t := 0) (o := 106) rfl LA106 hq2) (lcap S (by omega) (by omega)) (Nat.le_of_ble_eq_true rfl) rfl (fun z2 hz2 => ?_)
  refine e_istore C [(5, .int q2.1), (0, .ref b), (1, .ref (g_N g + 0)), (2, .ref (g_N g + 67)), (3, .ref (g_N g + 106)), (4, .int x4)] (dk dL_law_1 30 rfl) (by decide) rfl ?_
  refine e_aload_n C 3 (dk dL_law_1 31 rfl) rfl rfl ?_
  refine e_aload_n C 1 (dk dL_law_1 32 rfl) rfl rfl ?_
  refine e_iload C 5 (dk dL_law_1 33 rfl) rfl ?_
  refine e_iconst C 1 (dk dL_law_1 34 rfl) (by decide) ?_
  refine e_iadd C (dk dL_law_1 35 rfl) ?_
  obtain ⟨v3, hv3, h⟩ := ob h
  refine e_scl C S (dk dL_law_1 36 rfl) hv3 ?_
  obtain ⟨q4, hq4, h⟩ := ob h
  refine e_callV2 (ci := 12) C cal_X12_ward im_X12_ward se_X12_ward ml_L_127 rfl (lroom S (by decide) (by decide)) (dk dL_law_1 37 rfl) (by decide) (ent_o12 rfl) (c_X12_ward KDf_KD rfl hq4) (lcap S (by omega) (by omega)) (Nat.le_of_ble_eq_true rfl) rfl ?_
  refine e_istore C [(6, .int q4.1), (5, .int q2.1), (0, .ref b), (1, .ref (g_N g + 0)), (2, .ref (g_N g + 67)), (3, .ref (g_N g + 106)), (4, .int x4)] (dk dL_law_1 38 rfl) (by decide) rfl ?_
  refine e_aload_n C 4 (dk dL_law_1 39 rfl) rfl rfl ?_
  refine e_callV2 (ci := 12) C cal_X12_thrown im_X12_thrown se_X12_thrown ml_L_128 rfl (lroom S (by decide) (by decide)) (dk dL_law_1 40 rfl) (by decide) (ent_o12 rfl) (c_X12_thrown KDf_KD rfl (rfl : F_X12_thrown 67 q4.2 = _)) (lcap S (by omega) (by omega)) (Nat.le_of_ble_eq_true rfl) rfl ?_
  refine e_iload C 1 (dk dL_law_1 41 rfl) rfl ?_
  refine e_icmp_eq C 329 (dk dL_law_1 42 rfl) (by decide) (fun c5 => ?_) (fun c5 => ?_)
  · rw [if_pos c5] at h
    refine e_iload C 1 (dk dL_law_1 45 rfl) rfl ?_
    refine e_if_ne C 346 (dk dL_law_1 46 rfl) (by decide) (fun c6 => ?_) (fun c6 => ?_)
    · rw [if_neg c6] at h
      refine e_goto C 2477 (dk dL_law_1 56 rfl) (by decide) ?_
      refine e_iinc C [(4, .int (x4 + 6)), (6, .int q4.1), (5, .int q2.1), (0, .ref b), (1, .ref (g_N g + 0)), (2, .ref (g_N g + 67)), (3, .ref (g_N g + 106))] 6 6 (dk dL_law_24 52 rfl) rfl (by decide) (by decide) rfl ?_
      refine e_goto C 23 (dk dL_law_24 53 rfl) (by decide) ?_
      refine e_lv [3, 4, 5, 6, 0] rfl ?_
      exact hrec _ _ _ _ _ (by omega) (by omega) h
    · rw [if_pos c6] at h
      refine e_aload_n C 5 (dk dL_law_1 47 rfl) rfl rfl ?_
      refine e_iconst C 0 (dk dL_law_1 48 rfl) (by decide) ?_
      refine e_lald1 C (dk dL_law_1 49 rfl) ?_
      refine e_iload C 0 (dk dL_law_1 50 rfl) rfl ?_
      refine e_i2l C (dk dL_law_1 51 rfl) ?_
      refine e_lcmp C (dk dL_law_1 52 rfl) ?_
      refine e_if_eq C 346 (dk dL_law_1 53 rfl) (by decide) (fun c7 => ?_) (fun c7 => ?_)
      · rw [if_pos c7] at h
        refine e_goto C 2477 (dk dL_law_1 56 rfl) (by decide) ?_
        refine e_iinc C [(4, .int (x4 + 6)), (6, .int q4.1), (5, .int q2.1), (0, .ref b), (1, .ref (g_N g + 0)), (2, .ref (g_N g + 67)), (3, .ref (g_N g + 106))] 6 6 (dk dL_law_24 52 rfl) rfl (by decide) (by decide) rfl ?_
        refine e_goto C 23 (dk dL_law_24 53 rfl) (by decide) ?_
        refine e_lv [3, 4, 5, 6, 0] rfl ?_
        exact hrec _ _ _ _ _ (by omega) (by omega) h
      · rw [if_neg c7] at h
        cases h
  · rw [if_neg c5] at h
    cases h
set_option maxRecDepth 20000 in
theorem j_law_2 {X : FX} {g : WC} {Xo : Nat → va_E} {b L : Nat} {xs : Nat → Int32} (C : Cx X g RL cL_law 7) (S : SC X g b L xs) {rec : Int32 → Mem → Option Mem} {q : Mem} {z0 k0 sl0 : Nat} (hk : k0 + 4 ≤ 601024) (hs : sl0 + 24 ≤ 7293033) (hrec : ∀ (z k sl : Nat) (x4 : Int32) (M : Mem), k ≤ k0 + 4 → sl ≤ sl0 + 24 → rec x4 M = some q → EW X g z 107 7 (ent g Xo KDf M) k sl 23 [(0, .ref b), (1, .ref (g_N g + 0)), (2, .ref (g_N g + 67)), (3, .ref (g_N g + 106)), (4, .int x4)] []) {x4 : Int32} {M : Mem} (h : J_law_2 L xs rec x4 M = some q) : EW X g z0 107 7 (ent g Xo KDf M) k0 sl0 349 [(0, .ref b), (1, .ref (g_N g + 0)), (2, .ref (g_N g + 67)), (3, .ref (g_N g + 106)), (4, .int x4)] [] := by
  rw [J_law_2] at h
  refine e_aload_n C 1 (dk dL_law_1 57 rfl) rfl rfl ?_
  refine e_callV2 (ci := 11) C cal_X11_fault im_X11_fault se_X11_fault ml_L_132 rfl (lroom S (by decide) (by decide)) (dk dL_law_1 58 rfl) (by decide) (ent_o11 rfl) (c_X11_fault KDf_KD rfl (rfl : F_X11_fault 0 M = _)) (lcap S (by omega) (by omega)) (Nat.le_of_ble_eq_true rfl) rfl ?_
  refine e_aload_n C 2 (dk dL_law_1 59 rfl) rfl rfl ?_
  refine e_callV2 (ci := 12) C cal_X12_fault im_X12_fault se_X12_fault ml_L_135 rfl (lroom S (by decide) (by decide)) (dk dL_law_2 0 rfl) (by decide) (ent_o12 rfl) (c_X12_fault KDf_KD rfl (rfl : F_X12_fault 67 M = _)) (lcap S (by omega) (by omega)) (Nat.le_of_ble_eq_true rfl) rfl ?_
  refine e_icmp_eq C 2477 (dk dL_law_2 1 rfl) (by decide) (fun c1 => ?_) (fun c1 => ?_)
  · rw [if_pos c1] at h
    refine e_iinc C [(4, .int (x4 + 6)), (0, .ref b), (1, .ref (g_N g + 0)), (2, .ref (g_N g + 67)), (3, .ref (g_N g + 106))] 4 6 (dk dL_law_24 52 rfl) rfl (by decide) (by decide) rfl ?_
    refine e_goto C 23 (dk dL_law_24 53 rfl) (by decide) ?_
    refine e_lv [1, 2, 3, 4, 0] rfl ?_
    exact hrec _ _ _ _ _ (by omega) (by omega) h
  · rw [if_neg c1] at h
    cases h
set_option maxRecDepth 20000 in
theorem j_law_3 {X : FX} {g : WC} {Xo : Nat → va_E} {b L : Nat} {xs : Nat → Int32} (C : Cx X g RL cL_law 7) (S : SC X g b L xs) {rec : Int32 → Mem → Option Mem} {q : Mem} {z0 k0 sl0 : Nat} (hk : k0 + 4 ≤ 601024) (hs : sl0 + 24 ≤ 7293033) (hrec : ∀ (z k sl : Nat) (x4 : Int32) (M : Mem), k ≤ k0 + 4 → sl ≤ sl0 + 24 → rec x4 M = some q → EW X g z 107 7 (ent g Xo KDf M) k sl 23 [(0, .ref b), (1, .ref (g_N g + 0)), (2, .ref (g_N g + 67)), (3, .ref (g_N g + 106)), (4, .int x4)] []) {x4 : Int32} {M : Mem} (h : J_law_3 L xs rec x4 M = some q) : EW X g z0 107 7 (ent g Xo KDf M) k0 sl0 362 [(0, .ref b), (1, .ref (g_N g + 0)), (2, .ref (g_N g + 67)), (3, .ref (g_N g + 106)), (4, .int x4)] [] := by
  rw [J_law_3] at h
  refine e_aload_n C 1 (dk dL_law_2 4 rfl) rfl rfl ?_
  refine e_aload_n C 0 (dk dL_law_2 5 rfl) rfl rfl ?_
  refine e_iload C 4 (dk dL_law_2 6 rfl) rfl ?_
  refine e_iconst C 1 (dk dL_law_2 7 rfl) (by decide) ?_
  refine e_iadd C (dk dL_law_2 8 rfl) ?_
  obtain ⟨v1, hv1, h⟩ := ob h
  refine e_scl C S (dk dL_law_2 9 rfl) hv1 ?_
  refine e_aload_n C 3 (dk dL_law_2 10 rfl) rfl rfl ?_
  obtain ⟨q2, hq2, h⟩ := ob h
  refine e_lcall C cw_L_count sm_L_count ml_L_136 (lroomX S (by decide) (by decide)) (dk dL_law_2 11 rfl) (c_L_count KDf_KD (t := 0) (o := 106) rfl LA106 hq2) (lcap S (by omega) (by omega)) (Nat.le_of_ble_eq_true rfl) rfl (fun z2 hz2 => ?_)
  refine e_istore C [(5, .int q2.1), (0, .ref b), (1, .ref (g_N g + 0)), (2, .ref (g_N g + 67)), (3, .ref (g_N g + 106)), (4, .int x4)] (dk dL_law_2 12 rfl) (by decide) rfl ?_
  refine e_aload_n C 3 (dk dL_law_2 13 rfl) rfl rfl ?_
  refine e_aload_n C 1 (dk dL_law_2 14 rfl) rfl rfl ?_
  refine e_iload C 5 (dk dL_law_2 15 rfl) rfl ?_
  refine e_iconst C 1 (dk dL_law_2 16 rfl) (by decide) ?_
  refine e_iadd C (dk dL_law_2 17 rfl) ?_
  obtain ⟨v3, hv3, h⟩ := ob h
  refine e_scl C S (dk dL_law_2 18 rfl) hv3 ?_
  obtain ⟨q4, hq4, h⟩ := ob h
  refine e_callV2 (ci := 12) C cal_X12_count im_X12_count se_X12_count ml_L_138 rfl (lroom S (by decide) (by decide)) (dk dL_law_2 19 rfl) (by decide) (ent_o12 rfl) (c_X12_count KDf_KD rfl hq4) (lcap S (by omega) (by omega)) (Nat.le_of_ble_eq_true rfl) rfl ?_
  refine e_istore C [(6, .int q4.1), (5, .int q2.1), (0, .ref b), (1, .ref (g_N g + 0)), (2, .ref (g_N g + 67)), (3, .ref (g_N g + 106)), (4, .int x4)] (dk dL_law_2 20 rfl) (by decide) rfl ?_
  refine e_aload_n C 4 (dk dL_law_2 21 rfl) rfl rfl ?_
  refine e_callV2 (ci := 12) C cal_X12_thrown im_X12_thrown se_X12_thrown ml_L_128 rfl (lroom S (by decide) (by decide)) (dk dL_law_2 22 rfl) (by decide) (ent_o12 rfl) (c_X12_thrown KDf_KD rfl (rfl : F_X12_thrown 67 q4.2 = _)) (lcap S (by omega) (by omega)) (Nat.le_of_ble_eq_true rfl) rfl ?_
  refine e_iload C 1 (dk dL_law_2 23 rfl) rfl ?_
  refine e_icmp_eq C 398 (dk dL_law_2 24 rfl) (by decide) (fun c5 => ?_) (fun c5 => ?_)
  · rw [if_pos c5] at h
    refine e_iload C 1 (dk dL_law_2 27 rfl) rfl ?_
    refine e_if_ne C 415 (dk dL_law_2 28 rfl) (by decide) (fun c6 => ?_) (fun c6 => ?_)
    · rw [if_neg c6] at h
      refine e_goto C 2477 (dk dL_law_2 38 rfl) (by decide) ?_
      refine e_iinc C [(4, .int (x4 + 6)), (6, .int q4.1), (5, .int q2.1), (0, .ref b), (1, .ref (g_N g + 0)), (2, .ref (g_N g + 67)), (3, .ref (g_N g + 106))] 6 6 (dk dL_law_24 52 rfl) rfl (by decide) (by decide) rfl ?_
      refine e_goto C 23 (dk dL_law_24 53 rfl) (by decide) ?_
      refine e_lv [3, 4, 5, 6, 0] rfl ?_
      exact hrec _ _ _ _ _ (by omega) (by omega) h
    · rw [if_pos c6] at h
      refine e_aload_n C 5 (dk dL_law_2 29 rfl) rfl rfl ?_
      refine e_iconst C 0 (dk dL_law_2 30 rfl) (by decide) ?_
      refine e_lald1 C (dk dL_law_2 31 rfl) ?_
      refine e_iload C 0 (dk dL_law_2 32 rfl) rfl ?_
      refine e_i2l C (dk dL_law_2 33 rfl) ?_
      refine e_lcmp C (dk dL_law_2 34 rfl) ?_
      refine e_if_eq C 415 (dk dL_law_2 35 rfl) (by decide) (fun c7 => ?_) (fun c7 => ?_)
      · rw [if_pos c7] at h
        refine e_goto C 2477 (dk dL_law_2 38 rfl) (by decide) ?_
        refine e_iinc C [(4, .int (x4 + 6)), (6, .int q4.1), (5, .int q2.1), (0, .ref b), (1, .ref (g_N g + 0)), (2, .ref (g_N g + 67)), (3, .ref (g_N g + 106))] 6 6 (dk dL_law_24 52 rfl) rfl (by decide) (by decide) rfl ?_
        refine e_goto C 23 (dk dL_law_24 53 rfl) (by decide) ?_
        refine e_lv [3, 4, 5, 6, 0] rfl ?_
        exact hrec _ _ _ _ _ (by omega) (by omega) h
      · rw [if_neg c7] at h
        cases h
  · rw [if_neg c5] at h
    cases h
set_option maxRecDepth 20000 in
theorem j_law_4 {X : FX} {g : WC} {Xo : Nat → va_E} {b L : Nat} {xs : Nat → Int32} (C : Cx X g RL cL_law 7) (S : SC X g b L xs) {rec : Int32 → Mem → Option Mem} {q : Mem} {z0 k0 sl0 : Nat} (hk : k0 + 4 ≤ 601024) (hs : sl0 + 24 ≤ 7293033) (hrec : ∀ (z k sl : Nat) (x4 : Int32) (M : Mem), k ≤ k0 + 4 → sl ≤ sl0 + 24 → rec x4 M = some q → EW X g z 107 7 (ent g Xo KDf M) k sl 23 [(0, .ref b), (1, .ref (g_N g + 0)), (2, .ref (g_N g + 67)), (3, .ref (g_N g + 106)), (4, .int x4)] []) {x4 : Int32} {M : Mem} (h : J_law_4 L xs rec x4 M = some q) : EW X g z0 107 7 (ent g Xo KDf M) k0 sl0 418 [(0, .ref b), (1, .ref (g_N g + 0)), (2, .ref (g_N g + 67)), (3, .ref (g_N g + 106)), (4, .int x4)] [] := by
  rw [J_law_4] at h
  refine e_aload_n C 1 (dk dL_law_2 39 rfl) rfl rfl ?_
  refine e_aload_n C 0 (dk dL_law_2 40 rfl) rfl rfl ?_
  refine e_iload C 4 (dk dL_law_2 41 rfl) rfl ?_
  refine e_iconst C 1 (dk dL_law_2 42 rfl) (by decide) ?_
  refine e_iadd C (dk dL_law_2 43 rfl) ?_
  obtain ⟨v1, hv1, h⟩ := ob h
  refine e_scl C S (dk dL_law_2 44 rfl) hv1 ?_
  refine e_aload_n C 3 (dk dL_law_2 45 rfl) rfl rfl ?_
  obtain ⟨q2, hq2, h⟩ := ob h
  refine e_lcall C cw_L_paths sm_L_paths ml_L_139 (lroomX S (by decide) (by decide)) (dk dL_law_2 46 rfl) (c_L_paths KDf_KD (t := 0) (o := 106) rfl LA106 hq2) (lcap S (by omega) (by omega)) (Nat.le_of_ble_eq_true rfl) rfl (fun z2 hz2 => ?_)
  refine e_istore C [(5, .int q2.1), (0, .ref b), (1, .ref (g_N g + 0)), (2, .ref (g_N g + 67)), (3, .ref (g_N g + 106)), (4, .int x4)] (dk dL_law_2 47 rfl) (by decide) rfl ?_
  refine e_aload_n C 3 (dk dL_law_2 48 rfl) rfl rfl ?_
  refine e_aload_n C 1 (dk dL_law_2 49 rfl) rfl rfl ?_
  refine e_iload C 5 (dk dL_law_2 50 rfl) rfl ?_
  refine e_iconst C 1 (dk dL_law_2 51 rfl) (by decide) ?_
  refine e_iadd C (dk dL_law_2 52 rfl) ?_
  obtain ⟨v3, hv3, h⟩ := ob h
  refine e_scl C S (dk dL_law_2 53 rfl) hv3 ?_
  obtain ⟨q4, hq4, h⟩ := ob h
  refine e_callV2 (ci := 12) C cal_X12_paths im_X12_paths se_X12_paths ml_L_141 rfl (lroom S (by decide) (by decide)) (dk dL_law_2 54 rfl) (by decide) (ent_o12 rfl) (c_X12_paths KDf_KD rfl hq4) (lcap S (by omega) (by omega)) (Nat.le_of_ble_eq_true rfl) rfl ?_
  refine e_istore C [(6, .int q4.1), (5, .int q2.1), (0, .ref b), (1, .ref (g_N g + 0)), (2, .ref (g_N g + 67)), (3, .ref (g_N g + 106)), (4, .int x4)] (dk dL_law_2 55 rfl) (by decide) rfl ?_
  refine e_aload_n C 4 (dk dL_law_2 56 rfl) rfl rfl ?_
  refine e_callV2 (ci := 12) C cal_X12_thrown im_X12_thrown se_X12_thrown ml_L_128 rfl (lroom S (by decide) (by decide)) (dk dL_law_2 57 rfl) (by decide) (ent_o12 rfl) (c_X12_thrown KDf_KD rfl (rfl : F_X12_thrown 67 q4.2 = _)) (lcap S (by omega) (by omega)) (Nat.le_of_ble_eq_true rfl) rfl ?_
  refine e_iload C 1 (dk dL_law_2 58 rfl) rfl ?_
  refine e_icmp_eq C 454 (dk dL_law_2 59 rfl) (by decide) (fun c5 => ?_) (fun c5 => ?_)
  · rw [if_pos c5] at h
    refine e_iload C 1 (dk dL_law_3 2 rfl) rfl ?_
    refine e_if_ne C 471 (dk dL_law_3 3 rfl) (by decide) (fun c6 => ?_) (fun c6 => ?_)
    · rw [if_neg c6] at h
      refine e_goto C 2477 (dk dL_law_3 13 rfl) (by decide) ?_
      refine e_iinc C [(4, .int (x4 + 6)), (6, .int q4.1), (5, .int q2.1), (0, .ref b), (1, .ref (g_N g + 0)), (2, .ref (g_N g + 67)), (3, .ref (g_N g + 106))] 6 6 (dk dL_law_24 52 rfl) rfl (by decide) (by decide) rfl ?_
      refine e_goto C 23 (dk dL_law_24 53 rfl) (by decide) ?_
      refine e_lv [3, 4, 5, 6, 0] rfl ?_
      exact hrec _ _ _ _ _ (by omega) (by omega) h
    · rw [if_pos c6] at h
      refine e_aload_n C 5 (dk dL_law_3 4 rfl) rfl rfl ?_
      refine e_iconst C 0 (dk dL_law_3 5 rfl) (by decide) ?_
      refine e_lald1 C (dk dL_law_3 6 rfl) ?_
      refine e_iload C 0 (dk dL_law_3 7 rfl) rfl ?_
      refine e_i2l C (dk dL_law_3 8 rfl) ?_
      refine e_lcmp C (dk dL_law_3 9 rfl) ?_
      refine e_if_eq C 471 (dk dL_law_3 10 rfl) (by decide) (fun c7 => ?_) (fun c7 => ?_)
      · rw [if_pos c7] at h
        refine e_goto C 2477 (dk dL_law_3 13 rfl) (by decide) ?_
        refine e_iinc C [(4, .int (x4 + 6)), (6, .int q4.1), (5, .int q2.1), (0, .ref b), (1, .ref (g_N g + 0)), (2, .ref (g_N g + 67)), (3, .ref (g_N g + 106))] 6 6 (dk dL_law_24 52 rfl) rfl (by decide) (by decide) rfl ?_
        refine e_goto C 23 (dk dL_law_24 53 rfl) (by decide) ?_
        refine e_lv [3, 4, 5, 6, 0] rfl ?_
        exact hrec _ _ _ _ _ (by omega) (by omega) h
      · rw [if_neg c7] at h
        cases h
  · rw [if_neg c5] at h
    cases h
set_option maxRecDepth 20000 in
theorem j_law_5 {X : FX} {g : WC} {Xo : Nat → va_E} {b L : Nat} {xs : Nat → Int32} (C : Cx X g RL cL_law 7) (S : SC X g b L xs) {rec : Int32 → Mem → Option Mem} {q : Mem} {z0 k0 sl0 : Nat} (hk : k0 + 4 ≤ 601024) (hs : sl0 + 24 ≤ 7293033) (hrec : ∀ (z k sl : Nat) (x4 : Int32) (M : Mem), k ≤ k0 + 4 → sl ≤ sl0 + 24 → rec x4 M = some q → EW X g z 107 7 (ent g Xo KDf M) k sl 23 [(0, .ref b), (1, .ref (g_N g + 0)), (2, .ref (g_N g + 67)), (3, .ref (g_N g + 106)), (4, .int x4)] []) {x4 : Int32} {M : Mem} (h : J_law_5 L xs rec x4 M = some q) : EW X g z0 107 7 (ent g Xo KDf M) k0 sl0 474 [(0, .ref b), (1, .ref (g_N g + 0)), (2, .ref (g_N g + 67)), (3, .ref (g_N g + 106)), (4, .int x4)] [] := by
  rw [J_law_5] at h
  refine e_aload_n C 1 (dk dL_law_3 14 rfl) rfl rfl ?_
  refine e_aload_n C 0 (dk dL_law_3 15 rfl) rfl rfl ?_
  refine e_iload C 4 (dk dL_law_3 16 rfl) rfl ?_
  refine e_iconst C 1 (dk dL_law_3 17 rfl) (by decide) ?_
  refine e_iadd C (dk dL_law_3 18 rfl) ?_
  obtain ⟨v1, hv1, h⟩ := ob h
  refine e_scl C S (dk dL_law_3 19 rfl) hv1 ?_
  refine e_aload_n C 0 (dk dL_law_3 20 rfl) rfl rfl ?_
  refine e_iload C 4 (dk dL_law_3 21 rfl) rfl ?_
  refine e_iconst C 2 (dk dL_law_3 22 rfl) (by decide) ?_
  refine e_iadd C (dk dL_law_3 23 rfl) ?_
  obtain ⟨v2, hv2, h⟩ := ob h
  refine e_scl C S (dk dL_law_3 24 rfl) hv2 ?_
  refine e_aload_n C 3 (dk dL_law_3 25 rfl) rfl rfl ?_
  obtain ⟨q3, hq3, h⟩ := ob h
  refine e_lcall C cw_L_person sm_L_person ml_L_142 (lroomX S (by decide) (by decide)) (dk dL_law_3 26 rfl) (c_L_person KDf_KD (t := 0) (o := 106) rfl LA106 hq3) (lcap S (by omega) (by omega)) (Nat.le_of_ble_eq_true rfl) rfl (fun z2 hz2 => ?_)
  refine e_istore C [(5, .int q3.1), (0, .ref b), (1, .ref (g_N g + 0)), (2, .ref (g_N g + 67)), (3, .ref (g_N g + 106)), (4, .int x4)] (dk dL_law_3 27 rfl) (by decide) rfl ?_
  refine e_aload_n C 3 (dk dL_law_3 28 rfl) rfl rfl ?_
  refine e_aload_n C 1 (dk dL_law_3 29 rfl) rfl rfl ?_
  refine e_iload C 5 (dk dL_law_3 30 rfl) rfl ?_
  refine e_iconst C 1 (dk dL_law_3 31 rfl) (by decide) ?_
  refine e_iadd C (dk dL_law_3 32 rfl) ?_
  obtain ⟨v4, hv4, h⟩ := ob h
  refine e_scl C S (dk dL_law_3 33 rfl) hv4 ?_
  refine e_aload_n C 1 (dk dL_law_3 34 rfl) rfl rfl ?_
  refine e_iload C 5 (dk dL_law_3 35 rfl) rfl ?_
  refine e_iconst C 2 (dk dL_law_3 36 rfl) (by decide) ?_
  refine e_iadd C (dk dL_law_3 37 rfl) ?_
  obtain ⟨v5, hv5, h⟩ := ob h
  refine e_scl C S (dk dL_law_3 38 rfl) hv5 ?_
  obtain ⟨q6, hq6, h⟩ := ob h
  refine e_callV2 (ci := 12) C cal_X12_person im_X12_person se_X12_person ml_L_145 rfl (lroom S (by decide) (by decide)) (dk dL_law_3 39 rfl) (by decide) (ent_o12 rfl) (c_X12_person KDf_KD rfl hq6) (lcap S (by omega) (by omega)) (Nat.le_of_ble_eq_true rfl) rfl ?_
  refine e_istore C [(6, .int q6.1), (5, .int q3.1), (0, .ref b), (1, .ref (g_N g + 0)), (2, .ref (g_N g + 67)), (3, .ref (g_N g + 106)), (4, .int x4)] (dk dL_law_3 40 rfl) (by decide) rfl ?_
  refine e_aload_n C 4 (dk dL_law_3 41 rfl) rfl rfl ?_
  refine e_callV2 (ci := 12) C cal_X12_thrown im_X12_thrown se_X12_thrown ml_L_128 rfl (lroom S (by decide) (by decide)) (dk dL_law_3 42 rfl) (by decide) (ent_o12 rfl) (c_X12_thrown KDf_KD rfl (rfl : F_X12_thrown 67 q6.2 = _)) (lcap S (by omega) (by omega)) (Nat.le_of_ble_eq_true rfl) rfl ?_
  refine e_iload C 1 (dk dL_law_3 43 rfl) rfl ?_
  refine e_icmp_eq C 522 (dk dL_law_3 44 rfl) (by decide) (fun c7 => ?_) (fun c7 => ?_)
  · rw [if_pos c7] at h
    refine e_iload C 1 (dk dL_law_3 47 rfl) rfl ?_
    refine e_if_ne C 539 (dk dL_law_3 48 rfl) (by decide) (fun c8 => ?_) (fun c8 => ?_)
    · rw [if_neg c8] at h
      refine e_goto C 2477 (dk dL_law_3 58 rfl) (by decide) ?_
      refine e_iinc C [(4, .int (x4 + 6)), (6, .int q6.1), (5, .int q3.1), (0, .ref b), (1, .ref (g_N g + 0)), (2, .ref (g_N g + 67)), (3, .ref (g_N g + 106))] 6 6 (dk dL_law_24 52 rfl) rfl (by decide) (by decide) rfl ?_
      refine e_goto C 23 (dk dL_law_24 53 rfl) (by decide) ?_
      refine e_lv [3, 4, 5, 6, 0] rfl ?_
      exact hrec _ _ _ _ _ (by omega) (by omega) h
    · rw [if_pos c8] at h
      refine e_aload_n C 5 (dk dL_law_3 49 rfl) rfl rfl ?_
      refine e_iconst C 0 (dk dL_law_3 50 rfl) (by decide) ?_
      refine e_lald1 C (dk dL_law_3 51 rfl) ?_
      refine e_iload C 0 (dk dL_law_3 52 rfl) rfl ?_
      refine e_i2l C (dk dL_law_3 53 rfl) ?_
      refine e_lcmp C (dk dL_law_3 54 rfl) ?_
      refine e_if_eq C 539 (dk dL_law_3 55 rfl) (by decide) (fun c9 => ?_) (fun c9 => ?_)
      · rw [if_pos c9] at h
        refine e_goto C 2477 (dk dL_law_3 58 rfl) (by decide) ?_
        refine e_iinc C [(4, .int (x4 + 6)), (6, .int q6.1), (5, .int q3.1), (0, .ref b), (1, .ref (g_N g + 0)), (2, .ref (g_N g + 67)), (3, .ref (g_N g + 106))] 6 6 (dk dL_law_24 52 rfl) rfl (by decide) (by decide) rfl ?_
        refine e_goto C 23 (dk dL_law_24 53 rfl) (by decide) ?_
        refine e_lv [3, 4, 5, 6, 0] rfl ?_
        exact hrec _ _ _ _ _ (by omega) (by omega) h
      · rw [if_neg c9] at h
        cases h
  · rw [if_neg c7] at h
    cases h
set_option maxRecDepth 20000 in
theorem j_law_6 {X : FX} {g : WC} {Xo : Nat → va_E} {b L : Nat} {xs : Nat → Int32} (C : Cx X g RL cL_law 7) (S : SC X g b L xs) {rec : Int32 → Mem → Option Mem} {q : Mem} {z0 k0 sl0 : Nat} (hk : k0 + 4 ≤ 601024) (hs : sl0 + 24 ≤ 7293033) (hrec : ∀ (z k sl : Nat) (x4 : Int32) (M : Mem), k ≤ k0 + 4 → sl ≤ sl0 + 24 → rec x4 M = some q → EW X g z 107 7 (ent g Xo KDf M) k sl 23 [(0, .ref b), (1, .ref (g_N g + 0)), (2, .ref (g_N g + 67)), (3, .ref (g_N g + 106)), (4, .int x4)] []) {x4 : Int32} {M : Mem} (h : J_law_6 L xs rec x4 M = some q) : EW X g z0 107 7 (ent g Xo KDf M) k0 sl0 542 [(0, .ref b), (1, .ref (g_N g + 0)), (2, .ref (g_N g + 67)), (3, .ref (g_N g + 106)), (4, .int x4)] [] := by
  rw [J_law_6] at h
  refine e_aload_n C 1 (dk dL_law_3 59 rfl) rfl rfl ?_
  refine e_aload_n C 0 (dk dL_law_4 0 rfl) rfl rfl ?_
  refine e_iload C 4 (dk dL_law_4 1 rfl) rfl ?_
  refine e_iconst C 1 (dk dL_law_4 2 rfl) (by decide) ?_
  refine e_iadd C (dk dL_law_4 3 rfl) ?_
  obtain ⟨v1, hv1, h⟩ := ob h
  refine e_scl C S (dk dL_law_4 4 rfl) hv1 ?_
  refine e_aload_n C 0 (dk dL_law_4 5 rfl) rfl rfl ?_
  refine e_iload C 4 (dk dL_law_4 6 rfl) rfl ?_
  refine e_iconst C 2 (dk dL_law_4 7 rfl) (by decide) ?_
  refine e_iadd C (dk dL_law_4 8 rfl) ?_
  obtain ⟨v2, hv2, h⟩ := ob h
  refine e_scl C S (dk dL_law_4 9 rfl) hv2 ?_
  refine e_aload_n C 3 (dk dL_law_4 10 rfl) rfl rfl ?_
  obtain ⟨q3, hq3, h⟩ := ob h
  refine e_lcall C cw_L_walk sm_L_walk ml_L_146 (lroomX S (by decide) (by decide)) (dk dL_law_4 11 rfl) (c_L_walk KDf_KD (t := 0) (o := 106) rfl LA106 hq3) (lcap S (by omega) (by omega)) (Nat.le_of_ble_eq_true rfl) rfl (fun z2 hz2 => ?_)
  refine e_istore C [(5, .int q3.1), (0, .ref b), (1, .ref (g_N g + 0)), (2, .ref (g_N g + 67)), (3, .ref (g_N g + 106)), (4, .int x4)] (dk dL_law_4 12 rfl) (by decide) rfl ?_
  refine e_aload_n C 3 (dk dL_law_4 13 rfl) rfl rfl ?_
  refine e_aload_n C 1 (dk dL_law_4 14 rfl) rfl rfl ?_
  refine e_iload C 5 (dk dL_law_4 15 rfl) rfl ?_
  refine e_iconst C 1 (dk dL_law_4 16 rfl) (by decide) ?_
  refine e_iadd C (dk dL_law_4 17 rfl) ?_
  obtain ⟨v4, hv4, h⟩ := ob h
  refine e_scl C S (dk dL_law_4 18 rfl) hv4 ?_
  refine e_aload_n C 1 (dk dL_law_4 19 rfl) rfl rfl ?_
  refine e_iload C 5 (dk dL_law_4 20 rfl) rfl ?_
  refine e_iconst C 2 (dk dL_law_4 21 rfl) (by decide) ?_
  refine e_iadd C (dk dL_law_4 22 rfl) ?_
  obtain ⟨v5, hv5, h⟩ := ob h
  refine e_scl C S (dk dL_law_4 23 rfl) hv5 ?_
  obtain ⟨q6, hq6, h⟩ := ob h
  refine e_callV2 (ci := 12) C cal_X12_walk im_X12_walk se_X12_walk ml_L_148 rfl (lroom S (by decide) (by decide)) (dk dL_law_4 24 rfl) (by decide) (ent_o12 rfl) (c_X12_walk KDf_KD rfl hq6) (lcap S (by omega) (by omega)) (Nat.le_of_ble_eq_true rfl) rfl ?_
  refine e_istore C [(6, .int q6.1), (5, .int q3.1), (0, .ref b), (1, .ref (g_N g + 0)), (2, .ref (g_N g + 67)), (3, .ref (g_N g + 106)), (4, .int x4)] (dk dL_law_4 25 rfl) (by decide) rfl ?_
  refine e_aload_n C 4 (dk dL_law_4 26 rfl) rfl rfl ?_
  refine e_callV2 (ci := 12) C cal_X12_thrown im_X12_thrown se_X12_thrown ml_L_128 rfl (lroom S (by decide) (by decide)) (dk dL_law_4 27 rfl) (by decide) (ent_o12 rfl) (c_X12_thrown KDf_KD rfl (rfl : F_X12_thrown 67 q6.2 = _)) (lcap S (by omega) (by omega)) (Nat.le_of_ble_eq_true rfl) rfl ?_
  refine e_iload C 1 (dk dL_law_4 28 rfl) rfl ?_
  refine e_icmp_eq C 590 (dk dL_law_4 29 rfl) (by decide) (fun c7 => ?_) (fun c7 => ?_)
  · rw [if_pos c7] at h
    refine e_iload C 1 (dk dL_law_4 32 rfl) rfl ?_
    refine e_if_ne C 607 (dk dL_law_4 33 rfl) (by decide) (fun c8 => ?_) (fun c8 => ?_)
    · rw [if_neg c8] at h
      refine e_goto C 2477 (dk dL_law_4 43 rfl) (by decide) ?_
      refine e_iinc C [(4, .int (x4 + 6)), (6, .int q6.1), (5, .int q3.1), (0, .ref b), (1, .ref (g_N g + 0)), (2, .ref (g_N g + 67)), (3, .ref (g_N g + 106))] 6 6 (dk dL_law_24 52 rfl) rfl (by decide) (by decide) rfl ?_
      refine e_goto C 23 (dk dL_law_24 53 rfl) (by decide) ?_
      refine e_lv [3, 4, 5, 6, 0] rfl ?_
      exact hrec _ _ _ _ _ (by omega) (by omega) h
    · rw [if_pos c8] at h
      refine e_aload_n C 5 (dk dL_law_4 34 rfl) rfl rfl ?_
      refine e_iconst C 0 (dk dL_law_4 35 rfl) (by decide) ?_
      refine e_lald1 C (dk dL_law_4 36 rfl) ?_
      refine e_iload C 0 (dk dL_law_4 37 rfl) rfl ?_
      refine e_i2l C (dk dL_law_4 38 rfl) ?_
      refine e_lcmp C (dk dL_law_4 39 rfl) ?_
      refine e_if_eq C 607 (dk dL_law_4 40 rfl) (by decide) (fun c9 => ?_) (fun c9 => ?_)
      · rw [if_pos c9] at h
        refine e_goto C 2477 (dk dL_law_4 43 rfl) (by decide) ?_
        refine e_iinc C [(4, .int (x4 + 6)), (6, .int q6.1), (5, .int q3.1), (0, .ref b), (1, .ref (g_N g + 0)), (2, .ref (g_N g + 67)), (3, .ref (g_N g + 106))] 6 6 (dk dL_law_24 52 rfl) rfl (by decide) (by decide) rfl ?_
        refine e_goto C 23 (dk dL_law_24 53 rfl) (by decide) ?_
        refine e_lv [3, 4, 5, 6, 0] rfl ?_
        exact hrec _ _ _ _ _ (by omega) (by omega) h
      · rw [if_neg c9] at h
        cases h
  · rw [if_neg c7] at h
    cases h
set_option maxRecDepth 20000 in
theorem j_law_7 {X : FX} {g : WC} {Xo : Nat → va_E} {b L : Nat} {xs : Nat → Int32} (C : Cx X g RL cL_law 7) (S : SC X g b L xs) {rec : Int32 → Mem → Option Mem} {q : Mem} {z0 k0 sl0 : Nat} (hk : k0 + 4 ≤ 601024) (hs : sl0 + 24 ≤ 7293033) (hrec : ∀ (z k sl : Nat) (x4 : Int32) (M : Mem), k ≤ k0 + 4 → sl ≤ sl0 + 24 → rec x4 M = some q → EW X g z 107 7 (ent g Xo KDf M) k sl 23 [(0, .ref b), (1, .ref (g_N g + 0)), (2, .ref (g_N g + 67)), (3, .ref (g_N g + 106)), (4, .int x4)] []) {x4 : Int32} {M : Mem} (h : J_law_7 L xs rec x4 M = some q) : EW X g z0 107 7 (ent g Xo KDf M) k0 sl0 610 [(0, .ref b), (1, .ref (g_N g + 0)), (2, .ref (g_N g + 67)), (3, .ref (g_N g + 106)), (4, .int x4)] [] := by
  rw [J_law_7] at h
  refine e_aload_n C 1 (dk dL_law_4 44 rfl) rfl rfl ?_
  refine e_aload_n C 0 (dk dL_law_4 45 rfl) rfl rfl ?_
  refine e_iload C 4 (dk dL_law_4 46 rfl) rfl ?_
  refine e_iconst C 1 (dk dL_law_4 47 rfl) (by decide) ?_
  refine e_iadd C (dk dL_law_4 48 rfl) ?_
  obtain ⟨v1, hv1, h⟩ := ob h
  refine e_scl C S (dk dL_law_4 49 rfl) hv1 ?_
  obtain ⟨q2, hq2, h⟩ := ob h
  refine e_callV2 (ci := 11) C cal_X11_nights im_X11_nights se_X11_nights ml_L_149 rfl (lroom S (by decide) (by decide)) (dk dL_law_4 50 rfl) (by decide) (ent_o11 rfl) (c_X11_nights KDf_KD rfl hq2) (lcap S (by omega) (by omega)) (Nat.le_of_ble_eq_true rfl) rfl ?_
  refine e_aload_n C 2 (dk dL_law_4 51 rfl) rfl rfl ?_
  refine e_aload_n C 0 (dk dL_law_4 52 rfl) rfl rfl ?_
  refine e_iload C 4 (dk dL_law_4 53 rfl) rfl ?_
  refine e_iconst C 1 (dk dL_law_4 54 rfl) (by decide) ?_
  refine e_iadd C (dk dL_law_4 55 rfl) ?_
  obtain ⟨v3, hv3, h⟩ := ob h
  refine e_scl C S (dk dL_law_4 56 rfl) hv3 ?_
  obtain ⟨q4, hq4, h⟩ := ob h
  refine e_callV2 (ci := 12) C cal_X12_nights im_X12_nights se_X12_nights ml_L_152 rfl (lroom S (by decide) (by decide)) (dk dL_law_4 57 rfl) (by decide) (ent_o12 rfl) (c_X12_nights KDf_KD rfl hq4) (lcap S (by omega) (by omega)) (Nat.le_of_ble_eq_true rfl) rfl ?_
  refine e_icmp_eq C 2477 (dk dL_law_4 58 rfl) (by decide) (fun c5 => ?_) (fun c5 => ?_)
  · rw [if_pos c5] at h
    refine e_iinc C [(4, .int (x4 + 6)), (0, .ref b), (1, .ref (g_N g + 0)), (2, .ref (g_N g + 67)), (3, .ref (g_N g + 106))] 4 6 (dk dL_law_24 52 rfl) rfl (by decide) (by decide) rfl ?_
    refine e_goto C 23 (dk dL_law_24 53 rfl) (by decide) ?_
    refine e_lv [1, 2, 3, 4, 0] rfl ?_
    exact hrec _ _ _ _ _ (by omega) (by omega) h
  · rw [if_neg c5] at h
    cases h
set_option maxRecDepth 20000 in
theorem j_law_8 {X : FX} {g : WC} {Xo : Nat → va_E} {b L : Nat} {xs : Nat → Int32} (C : Cx X g RL cL_law 7) (S : SC X g b L xs) {rec : Int32 → Mem → Option Mem} {q : Mem} {z0 k0 sl0 : Nat} (hk : k0 + 4 ≤ 601024) (hs : sl0 + 24 ≤ 7293033) (hrec : ∀ (z k sl : Nat) (x4 : Int32) (M : Mem), k ≤ k0 + 4 → sl ≤ sl0 + 24 → rec x4 M = some q → EW X g z 107 7 (ent g Xo KDf M) k sl 23 [(0, .ref b), (1, .ref (g_N g + 0)), (2, .ref (g_N g + 67)), (3, .ref (g_N g + 106)), (4, .int x4)] []) {x4 : Int32} {M : Mem} (h : J_law_8 L xs rec x4 M = some q) : EW X g z0 107 7 (ent g Xo KDf M) k0 sl0 635 [(0, .ref b), (1, .ref (g_N g + 0)), (2, .ref (g_N g + 67)), (3, .ref (g_N g + 106)), (4, .int x4)] [] := by
  rw [J_law_8] at h
  refine e_aload_n C 1 (dk dL_law_5 1 rfl) rfl rfl ?_
  refine e_aload_n C 0 (dk dL_law_5 2 rfl) rfl rfl ?_
  refine e_iload C 4 (dk dL_law_5 3 rfl) rfl ?_
  refine e_iconst C 1 (dk dL_law_5 4 rfl) (by decide) ?_
  refine e_iadd C (dk dL_law_5 5 rfl) ?_
  obtain ⟨v1, hv1, h⟩ := ob h
  refine e_scl C S (dk dL_law_5 6 rfl) hv1 ?_
  refine e_aload_n C 3 (dk dL_law_5 7 rfl) rfl rfl ?_
  obtain ⟨q2, hq2, h⟩ := ob h
  refine e_lcall C cw_L_bribe sm_L_bribe ml_L_153 (lroomX S (by decide) (by decide)) (dk dL_law_5 8 rfl) (c_L_bribe KDf_KD (t := 0) (o := 106) rfl LA106 hq2) (lcap S (by omega) (by omega)) (Nat.le_of_ble_eq_true rfl) rfl (fun z2 hz2 => ?_)
  refine e_istore C [(5, .int q2.1), (0, .ref b), (1, .ref (g_N g + 0)), (2, .ref (g_N g + 67)), (3, .ref (g_N g + 106)), (4, .int x4)] (dk dL_law_5 9 rfl) (by decide) rfl ?_
  refine e_aload_n C 3 (dk dL_law_5 10 rfl) rfl rfl ?_
  refine e_aload_n C 1 (dk dL_law_5 11 rfl) rfl rfl ?_
  refine e_iload C 5 (dk dL_law_5 12 rfl) rfl ?_
  refine e_iconst C 1 (dk dL_law_5 13 rfl) (by decide) ?_
  refine e_iadd C (dk dL_law_5 14 rfl) ?_
  obtain ⟨v3, hv3, h⟩ := ob h
  refine e_scl C S (dk dL_law_5 15 rfl) hv3 ?_
  obtain ⟨q4, hq4, h⟩ := ob h
  refine e_callV2 (ci := 12) C cal_X12_bribe im_X12_bribe se_X12_bribe ml_L_155 rfl (lroom S (by decide) (by decide)) (dk dL_law_5 16 rfl) (by decide) (ent_o12 rfl) (c_X12_bribe KDf_KD rfl hq4) (lcap S (by omega) (by omega)) (Nat.le_of_ble_eq_true rfl) rfl ?_
  refine e_istore C [(6, .int q4.1), (5, .int q2.1), (0, .ref b), (1, .ref (g_N g + 0)), (2, .ref (g_N g + 67)), (3, .ref (g_N g + 106)), (4, .int x4)] (dk dL_law_5 17 rfl) (by decide) rfl ?_
  refine e_aload_n C 4 (dk dL_law_5 18 rfl) rfl rfl ?_
  refine e_callV2 (ci := 12) C cal_X12_thrown im_X12_thrown se_X12_thrown ml_L_128 rfl (lroom S (by decide) (by decide)) (dk dL_law_5 19 rfl) (by decide) (ent_o12 rfl) (c_X12_thrown KDf_KD rfl (rfl : F_X12_thrown 67 q4.2 = _)) (lcap S (by omega) (by omega)) (Nat.le_of_ble_eq_true rfl) rfl ?_
  refine e_iload C 1 (dk dL_law_5 20 rfl) rfl ?_
  refine e_icmp_eq C 671 (dk dL_law_5 21 rfl) (by decide) (fun c5 => ?_) (fun c5 => ?_)
  · rw [if_pos c5] at h
    refine e_iload C 1 (dk dL_law_5 24 rfl) rfl ?_
    refine e_if_ne C 688 (dk dL_law_5 25 rfl) (by decide) (fun c6 => ?_) (fun c6 => ?_)
    · rw [if_neg c6] at h
      refine e_goto C 2477 (dk dL_law_5 35 rfl) (by decide) ?_
      refine e_iinc C [(4, .int (x4 + 6)), (6, .int q4.1), (5, .int q2.1), (0, .ref b), (1, .ref (g_N g + 0)), (2, .ref (g_N g + 67)), (3, .ref (g_N g + 106))] 6 6 (dk dL_law_24 52 rfl) rfl (by decide) (by decide) rfl ?_
      refine e_goto C 23 (dk dL_law_24 53 rfl) (by decide) ?_
      refine e_lv [3, 4, 5, 6, 0] rfl ?_
      exact hrec _ _ _ _ _ (by omega) (by omega) h
    · rw [if_pos c6] at h
      refine e_aload_n C 5 (dk dL_law_5 26 rfl) rfl rfl ?_
      refine e_iconst C 0 (dk dL_law_5 27 rfl) (by decide) ?_
      refine e_lald1 C (dk dL_law_5 28 rfl) ?_
      refine e_iload C 0 (dk dL_law_5 29 rfl) rfl ?_
      refine e_i2l C (dk dL_law_5 30 rfl) ?_
      refine e_lcmp C (dk dL_law_5 31 rfl) ?_
      refine e_if_eq C 688 (dk dL_law_5 32 rfl) (by decide) (fun c7 => ?_) (fun c7 => ?_)
      · rw [if_pos c7] at h
        refine e_goto C 2477 (dk dL_law_5 35 rfl) (by decide) ?_
        refine e_iinc C [(4, .int (x4 + 6)), (6, .int q4.1), (5, .int q2.1), (0, .ref b), (1, .ref (g_N g + 0)), (2, .ref (g_N g + 67)), (3, .ref (g_N g + 106))] 6 6 (dk dL_law_24 52 rfl) rfl (by decide) (by decide) rfl ?_
        refine e_goto C 23 (dk dL_law_24 53 rfl) (by decide) ?_
        refine e_lv [3, 4, 5, 6, 0] rfl ?_
        exact hrec _ _ _ _ _ (by omega) (by omega) h
      · rw [if_neg c7] at h
        cases h
  · rw [if_neg c5] at h
    cases h
set_option maxRecDepth 20000 in
theorem j_law_9 {X : FX} {g : WC} {Xo : Nat → va_E} {b L : Nat} {xs : Nat → Int32} (C : Cx X g RL cL_law 7) (S : SC X g b L xs) {rec : Int32 → Mem → Option Mem} {q : Mem} {z0 k0 sl0 : Nat} (hk : k0 + 4 ≤ 601024) (hs : sl0 + 24 ≤ 7293033) (hrec : ∀ (z k sl : Nat) (x4 : Int32) (M : Mem), k ≤ k0 + 4 → sl ≤ sl0 + 24 → rec x4 M = some q → EW X g z 107 7 (ent g Xo KDf M) k sl 23 [(0, .ref b), (1, .ref (g_N g + 0)), (2, .ref (g_N g + 67)), (3, .ref (g_N g + 106)), (4, .int x4)] []) {x4 : Int32} {M : Mem} (h : J_law_9 L xs rec x4 M = some q) : EW X g z0 107 7 (ent g Xo KDf M) k0 sl0 691 [(0, .ref b), (1, .ref (g_N g + 0)), (2, .ref (g_N g + 67)), (3, .ref (g_N g + 106)), (4, .int x4)] [] := by
  rw [J_law_9] at h
  refine e_aload_n C 1 (dk dL_law_5 36 rfl) rfl rfl ?_
  refine e_aload_n C 0 (dk dL_law_5 37 rfl) rfl rfl ?_
  refine e_iload C 4 (dk dL_law_5 38 rfl) rfl ?_
  refine e_iconst C 1 (dk dL_law_5 39 rfl) (by decide) ?_
  refine e_iadd C (dk dL_law_5 40 rfl) ?_
  obtain ⟨v1, hv1, h⟩ := ob h
  refine e_scl C S (dk dL_law_5 41 rfl) hv1 ?_
  refine e_aload_n C 0 (dk dL_law_5 42 rfl) rfl rfl ?_
  refine e_iload C 4 (dk dL_law_5 43 rfl) rfl ?_
  refine e_iconst C 2 (dk dL_law_5 44 rfl) (by decide) ?_
  refine e_iadd C (dk dL_law_5 45 rfl) ?_
  obtain ⟨v2, hv2, h⟩ := ob h
  refine e_scl C S (dk dL_law_5 46 rfl) hv2 ?_
  refine e_aload_n C 0 (dk dL_law_5 47 rfl) rfl rfl ?_
  refine e_iload C 4 (dk dL_law_5 48 rfl) rfl ?_
  refine e_iconst C 3 (dk dL_law_5 49 rfl) (by decide) ?_
  refine e_iadd C (dk dL_law_5 50 rfl) ?_
  obtain ⟨v3, hv3, h⟩ := ob h
  refine e_scl C S (dk dL_law_5 51 rfl) hv3 ?_
  refine e_aload_n C 3 (dk dL_law_5 52 rfl) rfl rfl ?_
  obtain ⟨q4, hq4, h⟩ := ob h
  refine e_lcall C cw_L_wander sm_L_wander ml_L_156 (lroomX S (by decide) (by decide)) (dk dL_law_5 53 rfl) (c_L_wander KDf_KD (t := 0) (o := 106) rfl LA106 hq4) (lcap S (by omega) (by omega)) (Nat.le_of_ble_eq_true rfl) rfl (fun z2 hz2 => ?_)
  refine e_istore C [(5, .int q4.1), (0, .ref b), (1, .ref (g_N g + 0)), (2, .ref (g_N g + 67)), (3, .ref (g_N g + 106)), (4, .int x4)] (dk dL_law_5 54 rfl) (by decide) rfl ?_
  refine e_aload_n C 3 (dk dL_law_5 55 rfl) rfl rfl ?_
  refine e_aload_n C 1 (dk dL_law_5 56 rfl) rfl rfl ?_
  refine e_iload C 5 (dk dL_law_5 57 rfl) rfl ?_
  refine e_iconst C 1 (dk dL_law_5 58 rfl) (by decide) ?_
  refine e_iadd C (dk dL_law_5 59 rfl) ?_
  obtain ⟨v5, hv5, h⟩ := ob h
  refine e_scl C S (dk dL_law_6 0 rfl) hv5 ?_
  refine e_aload_n C 1 (dk dL_law_6 1 rfl) rfl rfl ?_
  refine e_iload C 5 (dk dL_law_6 2 rfl) rfl ?_
  refine e_iconst C 2 (dk dL_law_6 3 rfl) (by decide) ?_
  refine e_iadd C (dk dL_law_6 4 rfl) ?_
  obtain ⟨v6, hv6, h⟩ := ob h
  refine e_scl C S (dk dL_law_6 5 rfl) hv6 ?_
  refine e_aload_n C 1 (dk dL_law_6 6 rfl) rfl rfl ?_
  refine e_iload C 5 (dk dL_law_6 7 rfl) rfl ?_
  refine e_iconst C 3 (dk dL_law_6 8 rfl) (by decide) ?_
  refine e_iadd C (dk dL_law_6 9 rfl) ?_
  obtain ⟨v7, hv7, h⟩ := ob h
  refine e_scl C S (dk dL_law_6 10 rfl) hv7 ?_
  obtain ⟨q8, hq8, h⟩ := ob h
  refine e_callV2 (ci := 12) C cal_X12_wander im_X12_wander se_X12_wander ml_L_159 rfl (lroom S (by decide) (by decide)) (dk dL_law_6 11 rfl) (by decide) (ent_o12 rfl) (c_X12_wander KDf_KD rfl hq8) (lcap S (by omega) (by omega)) (Nat.le_of_ble_eq_true rfl) rfl ?_
  refine e_istore C [(6, .int q8.1), (5, .int q4.1), (0, .ref b), (1, .ref (g_N g + 0)), (2, .ref (g_N g + 67)), (3, .ref (g_N g + 106)), (4, .int x4)] (dk dL_law_6 12 rfl) (by decide) rfl ?_
  refine e_aload_n C 4 (dk dL_law_6 13 rfl) rfl rfl ?_
  refine e_callV2 (ci := 12) C cal_X12_thrown im_X12_thrown se_X12_thrown ml_L_128 rfl (lroom S (by decide) (by decide)) (dk dL_law_6 14 rfl) (by decide) (ent_o12 rfl) (c_X12_thrown KDf_KD rfl (rfl : F_X12_thrown 67 q8.2 = _)) (lcap S (by omega) (by omega)) (Nat.le_of_ble_eq_true rfl) rfl ?_
  refine e_iload C 1 (dk dL_law_6 15 rfl) rfl ?_
  refine e_icmp_eq C 751 (dk dL_law_6 16 rfl) (by decide) (fun c9 => ?_) (fun c9 => ?_)
  · rw [if_pos c9] at h
    refine e_iload C 1 (dk dL_law_6 19 rfl) rfl ?_
    refine e_if_ne C 768 (dk dL_law_6 20 rfl) (by decide) (fun c10 => ?_) (fun c10 => ?_)
    · rw [if_neg c10] at h
      refine e_goto C 2477 (dk dL_law_6 30 rfl) (by decide) ?_
      refine e_iinc C [(4, .int (x4 + 6)), (6, .int q8.1), (5, .int q4.1), (0, .ref b), (1, .ref (g_N g + 0)), (2, .ref (g_N g + 67)), (3, .ref (g_N g + 106))] 6 6 (dk dL_law_24 52 rfl) rfl (by decide) (by decide) rfl ?_
      refine e_goto C 23 (dk dL_law_24 53 rfl) (by decide) ?_
      refine e_lv [3, 4, 5, 6, 0] rfl ?_
      exact hrec _ _ _ _ _ (by omega) (by omega) h
    · rw [if_pos c10] at h
      refine e_aload_n C 5 (dk dL_law_6 21 rfl) rfl rfl ?_
      refine e_iconst C 0 (dk dL_law_6 22 rfl) (by decide) ?_
      refine e_lald1 C (dk dL_law_6 23 rfl) ?_
      refine e_iload C 0 (dk dL_law_6 24 rfl) rfl ?_
      refine e_i2l C (dk dL_law_6 25 rfl) ?_
      refine e_lcmp C (dk dL_law_6 26 rfl) ?_
      refine e_if_eq C 768 (dk dL_law_6 27 rfl) (by decide) (fun c11 => ?_) (fun c11 => ?_)
      · rw [if_pos c11] at h
        refine e_goto C 2477 (dk dL_law_6 30 rfl) (by decide) ?_
        refine e_iinc C [(4, .int (x4 + 6)), (6, .int q8.1), (5, .int q4.1), (0, .ref b), (1, .ref (g_N g + 0)), (2, .ref (g_N g + 67)), (3, .ref (g_N g + 106))] 6 6 (dk dL_law_24 52 rfl) rfl (by decide) (by decide) rfl ?_
        refine e_goto C 23 (dk dL_law_24 53 rfl) (by decide) ?_
        refine e_lv [3, 4, 5, 6, 0] rfl ?_
        exact hrec _ _ _ _ _ (by omega) (by omega) h
      · rw [if_neg c11] at h
        cases h
  · rw [if_neg c9] at h
    cases h
set_option maxRecDepth 20000 in
theorem j_law_10 {X : FX} {g : WC} {Xo : Nat → va_E} {b L : Nat} {xs : Nat → Int32} (C : Cx X g RL cL_law 7) (S : SC X g b L xs) {rec : Int32 → Mem → Option Mem} {q : Mem} {z0 k0 sl0 : Nat} (hk : k0 + 4 ≤ 601024) (hs : sl0 + 24 ≤ 7293033) (hrec : ∀ (z k sl : Nat) (x4 : Int32) (M : Mem), k ≤ k0 + 4 → sl ≤ sl0 + 24 → rec x4 M = some q → EW X g z 107 7 (ent g Xo KDf M) k sl 23 [(0, .ref b), (1, .ref (g_N g + 0)), (2, .ref (g_N g + 67)), (3, .ref (g_N g + 106)), (4, .int x4)] []) {x4 : Int32} {M : Mem} (h : J_law_10 L xs rec x4 M = some q) : EW X g z0 107 7 (ent g Xo KDf M) k0 sl0 771 [(0, .ref b), (1, .ref (g_N g + 0)), (2, .ref (g_N g + 67)), (3, .ref (g_N g + 106)), (4, .int x4)] [] := by
  rw [J_law_10] at h
  refine e_aload_n C 1 (dk dL_law_6 31 rfl) rfl rfl ?_
  refine e_aload_n C 0 (dk dL_law_6 32 rfl) rfl rfl ?_
  refine e_iload C 4 (dk dL_law_6 33 rfl) rfl ?_
  refine e_iconst C 1 (dk dL_law_6 34 rfl) (by decide) ?_
  refine e_iadd C (dk dL_law_6 35 rfl) ?_
  obtain ⟨v1, hv1, h⟩ := ob h
  refine e_scl C S (dk dL_law_6 36 rfl) hv1 ?_
  refine e_aload_n C 0 (dk dL_law_6 37 rfl) rfl rfl ?_
  refine e_iload C 4 (dk dL_law_6 38 rfl) rfl ?_
  refine e_iconst C 2 (dk dL_law_6 39 rfl) (by decide) ?_
  refine e_iadd C (dk dL_law_6 40 rfl) ?_
  obtain ⟨v2, hv2, h⟩ := ob h
  refine e_scl C S (dk dL_law_6 41 rfl) hv2 ?_
  refine e_aload_n C 3 (dk dL_law_6 42 rfl) rfl rfl ?_
  obtain ⟨q3, hq3, h⟩ := ob h
  refine e_lcall C cw_L_earn sm_L_earn ml_L_160 (lroomX S (by decide) (by decide)) (dk dL_law_6 43 rfl) (c_L_earn KDf_KD (t := 0) (o := 106) rfl LA106 hq3) (lcap S (by omega) (by omega)) (Nat.le_of_ble_eq_true rfl) rfl (fun z2 hz2 => ?_)
  refine e_istore C [(5, .int q3.1), (0, .ref b), (1, .ref (g_N g + 0)), (2, .ref (g_N g + 67)), (3, .ref (g_N g + 106)), (4, .int x4)] (dk dL_law_6 44 rfl) (by decide) rfl ?_
  refine e_aload_n C 3 (dk dL_law_6 45 rfl) rfl rfl ?_
  refine e_aload_n C 1 (dk dL_law_6 46 rfl) rfl rfl ?_
  refine e_iload C 5 (dk dL_law_6 47 rfl) rfl ?_
  refine e_iconst C 1 (dk dL_law_6 48 rfl) (by decide) ?_
  refine e_iadd C (dk dL_law_6 49 rfl) ?_
  obtain ⟨v4, hv4, h⟩ := ob h
  refine e_scl C S (dk dL_law_6 50 rfl) hv4 ?_
  refine e_aload_n C 1 (dk dL_law_6 51 rfl) rfl rfl ?_
  refine e_iload C 5 (dk dL_law_6 52 rfl) rfl ?_
  refine e_iconst C 2 (dk dL_law_6 53 rfl) (by decide) ?_
  refine e_iadd C (dk dL_law_6 54 rfl) ?_
  obtain ⟨v5, hv5, h⟩ := ob h
  refine e_scl C S (dk dL_law_6 55 rfl) hv5 ?_
  obtain ⟨q6, hq6, h⟩ := ob h
  refine e_callV2 (ci := 12) C cal_X12_earn im_X12_earn se_X12_earn ml_L_162 rfl (lroom S (by decide) (by decide)) (dk dL_law_6 56 rfl) (by decide) (ent_o12 rfl) (c_X12_earn KDf_KD rfl hq6) (lcap S (by omega) (by omega)) (Nat.le_of_ble_eq_true rfl) rfl ?_
  refine e_istore C [(6, .int q6.1), (5, .int q3.1), (0, .ref b), (1, .ref (g_N g + 0)), (2, .ref (g_N g + 67)), (3, .ref (g_N g + 106)), (4, .int x4)] (dk dL_law_6 57 rfl) (by decide) rfl ?_
  refine e_aload_n C 4 (dk dL_law_6 58 rfl) rfl rfl ?_
  refine e_callV2 (ci := 12) C cal_X12_thrown im_X12_thrown se_X12_thrown ml_L_128 rfl (lroom S (by decide) (by decide)) (dk dL_law_6 59 rfl) (by decide) (ent_o12 rfl) (c_X12_thrown KDf_KD rfl (rfl : F_X12_thrown 67 q6.2 = _)) (lcap S (by omega) (by omega)) (Nat.le_of_ble_eq_true rfl) rfl ?_
  refine e_iload C 1 (dk dL_law_7 0 rfl) rfl ?_
  refine e_icmp_eq C 819 (dk dL_law_7 1 rfl) (by decide) (fun c7 => ?_) (fun c7 => ?_)
  · rw [if_pos c7] at h
    refine e_iload C 1 (dk dL_law_7 4 rfl) rfl ?_
    refine e_if_ne C 836 (dk dL_law_7 5 rfl) (by decide) (fun c8 => ?_) (fun c8 => ?_)
    · rw [if_neg c8] at h
      refine e_goto C 2477 (dk dL_law_7 15 rfl) (by decide) ?_
      refine e_iinc C [(4, .int (x4 + 6)), (6, .int q6.1), (5, .int q3.1), (0, .ref b), (1, .ref (g_N g + 0)), (2, .ref (g_N g + 67)), (3, .ref (g_N g + 106))] 6 6 (dk dL_law_24 52 rfl) rfl (by decide) (by decide) rfl ?_
      refine e_goto C 23 (dk dL_law_24 53 rfl) (by decide) ?_
      refine e_lv [3, 4, 5, 6, 0] rfl ?_
      exact hrec _ _ _ _ _ (by omega) (by omega) h
    · rw [if_pos c8] at h
      refine e_aload_n C 5 (dk dL_law_7 6 rfl) rfl rfl ?_
      refine e_iconst C 0 (dk dL_law_7 7 rfl) (by decide) ?_
      refine e_lald1 C (dk dL_law_7 8 rfl) ?_
      refine e_iload C 0 (dk dL_law_7 9 rfl) rfl ?_
      refine e_i2l C (dk dL_law_7 10 rfl) ?_
      refine e_lcmp C (dk dL_law_7 11 rfl) ?_
      refine e_if_eq C 836 (dk dL_law_7 12 rfl) (by decide) (fun c9 => ?_) (fun c9 => ?_)
      · rw [if_pos c9] at h
        refine e_goto C 2477 (dk dL_law_7 15 rfl) (by decide) ?_
        refine e_iinc C [(4, .int (x4 + 6)), (6, .int q6.1), (5, .int q3.1), (0, .ref b), (1, .ref (g_N g + 0)), (2, .ref (g_N g + 67)), (3, .ref (g_N g + 106))] 6 6 (dk dL_law_24 52 rfl) rfl (by decide) (by decide) rfl ?_
        refine e_goto C 23 (dk dL_law_24 53 rfl) (by decide) ?_
        refine e_lv [3, 4, 5, 6, 0] rfl ?_
        exact hrec _ _ _ _ _ (by omega) (by omega) h
      · rw [if_neg c9] at h
        cases h
  · rw [if_neg c7] at h
    cases h
set_option maxRecDepth 20000 in
theorem j_law_11 {X : FX} {g : WC} {Xo : Nat → va_E} {b L : Nat} {xs : Nat → Int32} (C : Cx X g RL cL_law 7) (S : SC X g b L xs) {rec : Int32 → Mem → Option Mem} {q : Mem} {z0 k0 sl0 : Nat} (hk : k0 + 4 ≤ 601024) (hs : sl0 + 24 ≤ 7293033) (hrec : ∀ (z k sl : Nat) (x4 : Int32) (M : Mem), k ≤ k0 + 4 → sl ≤ sl0 + 24 → rec x4 M = some q → EW X g z 107 7 (ent g Xo KDf M) k sl 23 [(0, .ref b), (1, .ref (g_N g + 0)), (2, .ref (g_N g + 67)), (3, .ref (g_N g + 106)), (4, .int x4)] []) {x4 : Int32} {M : Mem} (h : J_law_11 L xs rec x4 M = some q) : EW X g z0 107 7 (ent g Xo KDf M) k0 sl0 839 [(0, .ref b), (1, .ref (g_N g + 0)), (2, .ref (g_N g + 67)), (3, .ref (g_N g + 106)), (4, .int x4)] [] := by
  rw [J_law_11] at h
  refine e_aload_n C 1 (dk dL_law_7 16 rfl) rfl rfl ?_
  refine e_aload_n C 0 (dk dL_law_7 17 rfl) rfl rfl ?_
  refine e_iload C 4 (dk dL_law_7 18 rfl) rfl ?_
  refine e_iconst C 1 (dk dL_law_7 19 rfl) (by decide) ?_
  refine e_iadd C (dk dL_law_7 20 rfl) ?_
  obtain ⟨v1, hv1, h⟩ := ob h
  refine e_scl C S (dk dL_law_7 21 rfl) hv1 ?_
  obtain ⟨q2, hq2, h⟩ := ob h
  refine e_callV2 (ci := 11) C cal_X11_reserve im_X11_reserve se_X11_reserve ml_L_163 rfl (lroom S (by decide) (by decide)) (dk dL_law_7 22 rfl) (by decide) (ent_o11 rfl) (c_X11_reserve KDf_KD rfl hq2) (lcap S (by omega) (by omega)) (Nat.le_of_ble_eq_true rfl) rfl ?_
  refine e_aload_n C 2 (dk dL_law_7 23 rfl) rfl rfl ?_
  refine e_aload_n C 0 (dk dL_law_7 24 rfl) rfl rfl ?_
  refine e_iload C 4 (dk dL_law_7 25 rfl) rfl ?_
  refine e_iconst C 1 (dk dL_law_7 26 rfl) (by decide) ?_
  refine e_iadd C (dk dL_law_7 27 rfl) ?_
  obtain ⟨v3, hv3, h⟩ := ob h
  refine e_scl C S (dk dL_law_7 28 rfl) hv3 ?_
  obtain ⟨q4, hq4, h⟩ := ob h
  refine e_callV2 (ci := 12) C cal_X12_reserve im_X12_reserve se_X12_reserve ml_L_166 rfl (lroom S (by decide) (by decide)) (dk dL_law_7 29 rfl) (by decide) (ent_o12 rfl) (c_X12_reserve KDf_KD rfl hq4) (lcap S (by omega) (by omega)) (Nat.le_of_ble_eq_true rfl) rfl ?_
  refine e_icmp_eq C 2477 (dk dL_law_7 30 rfl) (by decide) (fun c5 => ?_) (fun c5 => ?_)
  · rw [if_pos c5] at h
    refine e_iinc C [(4, .int (x4 + 6)), (0, .ref b), (1, .ref (g_N g + 0)), (2, .ref (g_N g + 67)), (3, .ref (g_N g + 106))] 4 6 (dk dL_law_24 52 rfl) rfl (by decide) (by decide) rfl ?_
    refine e_goto C 23 (dk dL_law_24 53 rfl) (by decide) ?_
    refine e_lv [1, 2, 3, 4, 0] rfl ?_
    exact hrec _ _ _ _ _ (by omega) (by omega) h
  · rw [if_neg c5] at h
    cases h
set_option maxRecDepth 20000 in
theorem j_law_12 {X : FX} {g : WC} {Xo : Nat → va_E} {b L : Nat} {xs : Nat → Int32} (C : Cx X g RL cL_law 7) (S : SC X g b L xs) {rec : Int32 → Mem → Option Mem} {q : Mem} {z0 k0 sl0 : Nat} (hk : k0 + 4 ≤ 601024) (hs : sl0 + 24 ≤ 7293033) (hrec : ∀ (z k sl : Nat) (x4 : Int32) (M : Mem), k ≤ k0 + 4 → sl ≤ sl0 + 24 → rec x4 M = some q → EW X g z 107 7 (ent g Xo KDf M) k sl 23 [(0, .ref b), (1, .ref (g_N g + 0)), (2, .ref (g_N g + 67)), (3, .ref (g_N g + 106)), (4, .int x4)] []) {x4 : Int32} {M : Mem} (h : J_law_12 L xs rec x4 M = some q) : EW X g z0 107 7 (ent g Xo KDf M) k0 sl0 864 [(0, .ref b), (1, .ref (g_N g + 0)), (2, .ref (g_N g + 67)), (3, .ref (g_N g + 106)), (4, .int x4)] [] := by
  rw [J_law_12] at h
  refine e_aload_n C 1 (dk dL_law_7 33 rfl) rfl rfl ?_
  obtain ⟨q1, hq1, h⟩ := ob h
  refine e_callV2 (ci := 11) C cal_X11_undo im_X11_undo se_X11_undo ml_L_167 rfl (lroom S (by decide) (by decide)) (dk dL_law_7 34 rfl) (by decide) (ent_o11 rfl) (c_X11_undo KDf_KD rfl hq1) (lcap S (by omega) (by omega)) (Nat.le_of_ble_eq_true rfl) rfl ?_
  refine e_aload_n C 2 (dk dL_law_7 35 rfl) rfl rfl ?_
  obtain ⟨q2, hq2, h⟩ := ob h
  refine e_callV2 (ci := 12) C cal_X12_undo im_X12_undo se_X12_undo ml_L_170 rfl (lroom S (by decide) (by decide)) (dk dL_law_7 36 rfl) (by decide) (ent_o12 rfl) (c_X12_undo KDf_KD rfl hq2) (lcap S (by omega) (by omega)) (Nat.le_of_ble_eq_true rfl) rfl ?_
  refine e_icmp_eq C 2477 (dk dL_law_7 37 rfl) (by decide) (fun c3 => ?_) (fun c3 => ?_)
  · rw [if_pos c3] at h
    refine e_iinc C [(4, .int (x4 + 6)), (0, .ref b), (1, .ref (g_N g + 0)), (2, .ref (g_N g + 67)), (3, .ref (g_N g + 106))] 4 6 (dk dL_law_24 52 rfl) rfl (by decide) (by decide) rfl ?_
    refine e_goto C 23 (dk dL_law_24 53 rfl) (by decide) ?_
    refine e_lv [1, 2, 3, 4, 0] rfl ?_
    exact hrec _ _ _ _ _ (by omega) (by omega) h
  · rw [if_neg c3] at h
    cases h
set_option maxRecDepth 20000 in
theorem j_law_13 {X : FX} {g : WC} {Xo : Nat → va_E} {b L : Nat} {xs : Nat → Int32} (C : Cx X g RL cL_law 7) (S : SC X g b L xs) {rec : Int32 → Mem → Option Mem} {q : Mem} {z0 k0 sl0 : Nat} (hk : k0 + 4 ≤ 601024) (hs : sl0 + 24 ≤ 7293033) (hrec : ∀ (z k sl : Nat) (x4 : Int32) (M : Mem), k ≤ k0 + 4 → sl ≤ sl0 + 24 → rec x4 M = some q → EW X g z 107 7 (ent g Xo KDf M) k sl 23 [(0, .ref b), (1, .ref (g_N g + 0)), (2, .ref (g_N g + 67)), (3, .ref (g_N g + 106)), (4, .int x4)] []) {x4 : Int32} {M : Mem} (h : J_law_13 L xs rec x4 M = some q) : EW X g z0 107 7 (ent g Xo KDf M) k0 sl0 877 [(0, .ref b), (1, .ref (g_N g + 0)), (2, .ref (g_N g + 67)), (3, .ref (g_N g + 106)), (4, .int x4)] [] := by
  rw [J_law_13] at h
  refine e_aload_n C 1 (dk dL_law_7 40 rfl) rfl rfl ?_
  refine e_aload_n C 0 (dk dL_law_7 41 rfl) rfl rfl ?_
  refine e_iload C 4 (dk dL_law_7 42 rfl) rfl ?_
  refine e_iconst C 1 (dk dL_law_7 43 rfl) (by decide) ?_
  refine e_iadd C (dk dL_law_7 44 rfl) ?_
  obtain ⟨v1, hv1, h⟩ := ob h
  refine e_scl C S (dk dL_law_7 45 rfl) hv1 ?_
  refine e_aload_n C 3 (dk dL_law_7 46 rfl) rfl rfl ?_
  obtain ⟨q2, hq2, h⟩ := ob h
  refine e_lcall C cw_L_lots sm_L_lots ml_L_171 (lroomX S (by decide) (by decide)) (dk dL_law_7 47 rfl) (c_L_lots KDf_KD (t := 0) (o := 106) rfl LA106 hq2) (lcap S (by omega) (by omega)) (Nat.le_of_ble_eq_true rfl) rfl (fun z2 hz2 => ?_)
  refine e_istore C [(5, .int q2.1), (0, .ref b), (1, .ref (g_N g + 0)), (2, .ref (g_N g + 67)), (3, .ref (g_N g + 106)), (4, .int x4)] (dk dL_law_7 48 rfl) (by decide) rfl ?_
  refine e_aload_n C 3 (dk dL_law_7 49 rfl) rfl rfl ?_
  refine e_aload_n C 1 (dk dL_law_7 50 rfl) rfl rfl ?_
  refine e_iload C 5 (dk dL_law_7 51 rfl) rfl ?_
  refine e_iconst C 1 (dk dL_law_7 52 rfl) (by decide) ?_
  refine e_iadd C (dk dL_law_7 53 rfl) ?_
  obtain ⟨v3, hv3, h⟩ := ob h
  refine e_scl C S (dk dL_law_7 54 rfl) hv3 ?_
  obtain ⟨q4, hq4, h⟩ := ob h
  refine e_callV2 (ci := 12) C cal_X12_lots im_X12_lots se_X12_lots ml_L_173 rfl (lroom S (by decide) (by decide)) (dk dL_law_7 55 rfl) (by decide) (ent_o12 rfl) (c_X12_lots KDf_KD rfl hq4) (lcap S (by omega) (by omega)) (Nat.le_of_ble_eq_true rfl) rfl ?_
  refine e_istore C [(6, .int q4.1), (5, .int q2.1), (0, .ref b), (1, .ref (g_N g + 0)), (2, .ref (g_N g + 67)), (3, .ref (g_N g + 106)), (4, .int x4)] (dk dL_law_7 56 rfl) (by decide) rfl ?_
  refine e_aload_n C 4 (dk dL_law_7 57 rfl) rfl rfl ?_
  refine e_callV2 (ci := 12) C cal_X12_thrown im_X12_thrown se_X12_thrown ml_L_128 rfl (lroom S (by decide) (by decide)) (dk dL_law_7 58 rfl) (by decide) (ent_o12 rfl) (c_X12_thrown KDf_KD rfl (rfl : F_X12_thrown 67 q4.2 = _)) (lcap S (by omega) (by omega)) (Nat.le_of_ble_eq_true rfl) rfl ?_
  refine e_iload C 1 (dk dL_law_7 59 rfl) rfl ?_
  refine e_icmp_eq C 913 (dk dL_law_8 0 rfl) (by decide) (fun c5 => ?_) (fun c5 => ?_)
  · rw [if_pos c5] at h
    refine e_iload C 1 (dk dL_law_8 3 rfl) rfl ?_
    refine e_if_ne C 930 (dk dL_law_8 4 rfl) (by decide) (fun c6 => ?_) (fun c6 => ?_)
    · rw [if_neg c6] at h
      refine e_goto C 2477 (dk dL_law_8 14 rfl) (by decide) ?_
      refine e_iinc C [(4, .int (x4 + 6)), (6, .int q4.1), (5, .int q2.1), (0, .ref b), (1, .ref (g_N g + 0)), (2, .ref (g_N g + 67)), (3, .ref (g_N g + 106))] 6 6 (dk dL_law_24 52 rfl) rfl (by decide) (by decide) rfl ?_
      refine e_goto C 23 (dk dL_law_24 53 rfl) (by decide) ?_
      refine e_lv [3, 4, 5, 6, 0] rfl ?_
      exact hrec _ _ _ _ _ (by omega) (by omega) h
    · rw [if_pos c6] at h
      refine e_aload_n C 5 (dk dL_law_8 5 rfl) rfl rfl ?_
      refine e_iconst C 0 (dk dL_law_8 6 rfl) (by decide) ?_
      refine e_lald1 C (dk dL_law_8 7 rfl) ?_
      refine e_iload C 0 (dk dL_law_8 8 rfl) rfl ?_
      refine e_i2l C (dk dL_law_8 9 rfl) ?_
      refine e_lcmp C (dk dL_law_8 10 rfl) ?_
      refine e_if_eq C 930 (dk dL_law_8 11 rfl) (by decide) (fun c7 => ?_) (fun c7 => ?_)
      · rw [if_pos c7] at h
        refine e_goto C 2477 (dk dL_law_8 14 rfl) (by decide) ?_
        refine e_iinc C [(4, .int (x4 + 6)), (6, .int q4.1), (5, .int q2.1), (0, .ref b), (1, .ref (g_N g + 0)), (2, .ref (g_N g + 67)), (3, .ref (g_N g + 106))] 6 6 (dk dL_law_24 52 rfl) rfl (by decide) (by decide) rfl ?_
        refine e_goto C 23 (dk dL_law_24 53 rfl) (by decide) ?_
        refine e_lv [3, 4, 5, 6, 0] rfl ?_
        exact hrec _ _ _ _ _ (by omega) (by omega) h
      · rw [if_neg c7] at h
        cases h
  · rw [if_neg c5] at h
    cases h
set_option maxRecDepth 20000 in
theorem j_law_14 {X : FX} {g : WC} {Xo : Nat → va_E} {b L : Nat} {xs : Nat → Int32} (C : Cx X g RL cL_law 7) (S : SC X g b L xs) {rec : Int32 → Mem → Option Mem} {q : Mem} {z0 k0 sl0 : Nat} (hk : k0 + 4 ≤ 601024) (hs : sl0 + 24 ≤ 7293033) (hrec : ∀ (z k sl : Nat) (x4 : Int32) (M : Mem), k ≤ k0 + 4 → sl ≤ sl0 + 24 → rec x4 M = some q → EW X g z 107 7 (ent g Xo KDf M) k sl 23 [(0, .ref b), (1, .ref (g_N g + 0)), (2, .ref (g_N g + 67)), (3, .ref (g_N g + 106)), (4, .int x4)] []) {x4 : Int32} {M : Mem} (h : J_law_14 L xs rec x4 M = some q) : EW X g z0 107 7 (ent g Xo KDf M) k0 sl0 933 [(0, .ref b), (1, .ref (g_N g + 0)), (2, .ref (g_N g + 67)), (3, .ref (g_N g + 106)), (4, .int x4)] [] := by
  rw [J_law_14] at h
  refine e_aload_n C 1 (dk dL_law_8 15 rfl) rfl rfl ?_
  refine e_aload_n C 0 (dk dL_law_8 16 rfl) rfl rfl ?_
  refine e_iload C 4 (dk dL_law_8 17 rfl) rfl ?_
  refine e_iconst C 1 (dk dL_law_8 18 rfl) (by decide) ?_
  refine e_iadd C (dk dL_law_8 19 rfl) ?_
  obtain ⟨v1, hv1, h⟩ := ob h
  refine e_scl C S (dk dL_law_8 20 rfl) hv1 ?_
  refine e_aload_n C 0 (dk dL_law_8 21 rfl) rfl rfl ?_
  refine e_iload C 4 (dk dL_law_8 22 rfl) rfl ?_
  refine e_iconst C 2 (dk dL_law_8 23 rfl) (by decide) ?_
  refine e_iadd C (dk dL_law_8 24 rfl) ?_
  obtain ⟨v2, hv2, h⟩ := ob h
  refine e_scl C S (dk dL_law_8 25 rfl) hv2 ?_
  refine e_aload_n C 0 (dk dL_law_8 26 rfl) rfl rfl ?_
  refine e_iload C 4 (dk dL_law_8 27 rfl) rfl ?_
  refine e_iconst C 3 (dk dL_law_8 28 rfl) (by decide) ?_
  refine e_iadd C (dk dL_law_8 29 rfl) ?_
  obtain ⟨v3, hv3, h⟩ := ob h
  refine e_scl C S (dk dL_law_8 30 rfl) hv3 ?_
  refine e_aload_n C 3 (dk dL_law_8 31 rfl) rfl rfl ?_
  obtain ⟨q4, hq4, h⟩ := ob h
  refine e_lcall C cw_L_sold sm_L_sold ml_L_174 (lroomX S (by decide) (by decide)) (dk dL_law_8 32 rfl) (c_L_sold KDf_KD (t := 0) (o := 106) rfl LA106 hq4) (lcap S (by omega) (by omega)) (Nat.le_of_ble_eq_true rfl) rfl (fun z2 hz2 => ?_)
  refine e_istore C [(5, .int q4.1), (0, .ref b), (1, .ref (g_N g + 0)), (2, .ref (g_N g + 67)), (3, .ref (g_N g + 106)), (4, .int x4)] (dk dL_law_8 33 rfl) (by decide) rfl ?_
  refine e_aload_n C 3 (dk dL_law_8 34 rfl) rfl rfl ?_
  refine e_aload_n C 1 (dk dL_law_8 35 rfl) rfl rfl ?_
  refine e_iload C 5 (dk dL_law_8 36 rfl) rfl ?_
  refine e_iconst C 1 (dk dL_law_8 37 rfl) (by decide) ?_
  refine e_iadd C (dk dL_law_8 38 rfl) ?_
  obtain ⟨v5, hv5, h⟩ := ob h
  refine e_scl C S (dk dL_law_8 39 rfl) hv5 ?_
  refine e_aload_n C 1 (dk dL_law_8 40 rfl) rfl rfl ?_
  refine e_iload C 5 (dk dL_law_8 41 rfl) rfl ?_
  refine e_iconst C 2 (dk dL_law_8 42 rfl) (by decide) ?_
  refine e_iadd C (dk dL_law_8 43 rfl) ?_
  obtain ⟨v6, hv6, h⟩ := ob h
  refine e_scl C S (dk dL_law_8 44 rfl) hv6 ?_
  refine e_aload_n C 1 (dk dL_law_8 45 rfl) rfl rfl ?_
  refine e_iload C 5 (dk dL_law_8 46 rfl) rfl ?_
  refine e_iconst C 3 (dk dL_law_8 47 rfl) (by decide) ?_
  refine e_iadd C (dk dL_law_8 48 rfl) ?_
  obtain ⟨v7, hv7, h⟩ := ob h
  refine e_scl C S (dk dL_law_8 49 rfl) hv7 ?_
  obtain ⟨q8, hq8, h⟩ := ob h
  refine e_callV2 (ci := 12) C cal_X12_sold im_X12_sold se_X12_sold ml_L_176 rfl (lroom S (by decide) (by decide)) (dk dL_law_8 50 rfl) (by decide) (ent_o12 rfl) (c_X12_sold KDf_KD rfl hq8) (lcap S (by omega) (by omega)) (Nat.le_of_ble_eq_true rfl) rfl ?_
  refine e_istore C [(6, .int q8.1), (5, .int q4.1), (0, .ref b), (1, .ref (g_N g + 0)), (2, .ref (g_N g + 67)), (3, .ref (g_N g + 106)), (4, .int x4)] (dk dL_law_8 51 rfl) (by decide) rfl ?_
  refine e_aload_n C 4 (dk dL_law_8 52 rfl) rfl rfl ?_
  refine e_callV2 (ci := 12) C cal_X12_thrown im_X12_thrown se_X12_thrown ml_L_128 rfl (lroom S (by decide) (by decide)) (dk dL_law_8 53 rfl) (by decide) (ent_o12 rfl) (c_X12_thrown KDf_KD rfl (rfl : F_X12_thrown 67 q8.2 = _)) (lcap S (by omega) (by omega)) (Nat.le_of_ble_eq_true rfl) rfl ?_
  refine e_iload C 1 (dk dL_law_8 54 rfl) rfl ?_
  refine e_icmp_eq C 993 (dk dL_law_8 55 rfl) (by decide) (fun c9 => ?_) (fun c9 => ?_)
  · rw [if_pos c9] at h
    refine e_iload C 1 (dk dL_law_8 58 rfl) rfl ?_
    refine e_if_ne C 1010 (dk dL_law_8 59 rfl) (by decide) (fun c10 => ?_) (fun c10 => ?_)
    · rw [if_neg c10] at h
      refine e_goto C 2477 (dk dL_law_9 9 rfl) (by decide) ?_
      refine e_iinc C [(4, .int (x4 + 6)), (6, .int q8.1), (5, .int q4.1), (0, .ref b), (1, .ref (g_N g + 0)), (2, .ref (g_N g + 67)), (3, .ref (g_N g + 106))] 6 6 (dk dL_law_24 52 rfl) rfl (by decide) (by decide) rfl ?_
      refine e_goto C 23 (dk dL_law_24 53 rfl) (by decide) ?_
      refine e_lv [3, 4, 5, 6, 0] rfl ?_
      exact hrec _ _ _ _ _ (by omega) (by omega) h
    · rw [if_pos c10] at h
      refine e_aload_n C 5 (dk dL_law_9 0 rfl) rfl rfl ?_
      refine e_iconst C 0 (dk dL_law_9 1 rfl) (by decide) ?_
      refine e_lald1 C (dk dL_law_9 2 rfl) ?_
      refine e_iload C 0 (dk dL_law_9 3 rfl) rfl ?_
      refine e_i2l C (dk dL_law_9 4 rfl) ?_
      refine e_lcmp C (dk dL_law_9 5 rfl) ?_
      refine e_if_eq C 1010 (dk dL_law_9 6 rfl) (by decide) (fun c11 => ?_) (fun c11 => ?_)
      · rw [if_pos c11] at h
        refine e_goto C 2477 (dk dL_law_9 9 rfl) (by decide) ?_
        refine e_iinc C [(4, .int (x4 + 6)), (6, .int q8.1), (5, .int q4.1), (0, .ref b), (1, .ref (g_N g + 0)), (2, .ref (g_N g + 67)), (3, .ref (g_N g + 106))] 6 6 (dk dL_law_24 52 rfl) rfl (by decide) (by decide) rfl ?_
        refine e_goto C 23 (dk dL_law_24 53 rfl) (by decide) ?_
        refine e_lv [3, 4, 5, 6, 0] rfl ?_
        exact hrec _ _ _ _ _ (by omega) (by omega) h
      · rw [if_neg c11] at h
        cases h
  · rw [if_neg c9] at h
    cases h
set_option maxRecDepth 20000 in
theorem j_law_15 {X : FX} {g : WC} {Xo : Nat → va_E} {b L : Nat} {xs : Nat → Int32} (C : Cx X g RL cL_law 7) (S : SC X g b L xs) {rec : Int32 → Mem → Option Mem} {q : Mem} {z0 k0 sl0 : Nat} (hk : k0 + 4 ≤ 601024) (hs : sl0 + 24 ≤ 7293033) (hrec : ∀ (z k sl : Nat) (x4 : Int32) (M : Mem), k ≤ k0 + 4 → sl ≤ sl0 + 24 → rec x4 M = some q → EW X g z 107 7 (ent g Xo KDf M) k sl 23 [(0, .ref b), (1, .ref (g_N g + 0)), (2, .ref (g_N g + 67)), (3, .ref (g_N g + 106)), (4, .int x4)] []) {x4 : Int32} {M : Mem} (h : J_law_15 L xs rec x4 M = some q) : EW X g z0 107 7 (ent g Xo KDf M) k0 sl0 1013 [(0, .ref b), (1, .ref (g_N g + 0)), (2, .ref (g_N g + 67)), (3, .ref (g_N g + 106)), (4, .int x4)] [] := by
  rw [J_law_15] at h
  refine e_aload_n C 1 (dk dL_law_9 10 rfl) rfl rfl ?_
  refine e_aload_n C 0 (dk dL_law_9 11 rfl) rfl rfl ?_
  refine e_iload C 4 (dk dL_law_9 12 rfl) rfl ?_
  refine e_iconst C 1 (dk dL_law_9 13 rfl) (by decide) ?_
  refine e_iadd C (dk dL_law_9 14 rfl) ?_
  obtain ⟨v1, hv1, h⟩ := ob h
  refine e_scl C S (dk dL_law_9 15 rfl) hv1 ?_
  refine e_aload_n C 0 (dk dL_law_9 16 rfl) rfl rfl ?_
  refine e_iload C 4 (dk dL_law_9 17 rfl) rfl ?_
  refine e_iconst C 2 (dk dL_law_9 18 rfl) (by decide) ?_
  refine e_iadd C (dk dL_law_9 19 rfl) ?_
  obtain ⟨v2, hv2, h⟩ := ob h
  refine e_scl C S (dk dL_law_9 20 rfl) hv2 ?_
  refine e_aload_n C 0 (dk dL_law_9 21 rfl) rfl rfl ?_
  refine e_iload C 4 (dk dL_law_9 22 rfl) rfl ?_
  refine e_iconst C 3 (dk dL_law_9 23 rfl) (by decide) ?_
  refine e_iadd C (dk dL_law_9 24 rfl) ?_
  obtain ⟨v3, hv3, h⟩ := ob h
  refine e_scl C S (dk dL_law_9 25 rfl) hv3 ?_
  refine e_aload_n C 3 (dk dL_law_9 26 rfl) rfl rfl ?_
  obtain ⟨q4, hq4, h⟩ := ob h
  refine e_lcall C cw_L_then sm_L_then ml_L_177 (lroomX S (by decide) (by decide)) (dk dL_law_9 27 rfl) (c_L_then KDf_KD (t := 0) (o := 106) rfl LA106 hq4) (lcap S (by omega) (by omega)) (Nat.le_of_ble_eq_true rfl) rfl (fun z2 hz2 => ?_)
  refine e_istore C [(5, .int q4.1), (0, .ref b), (1, .ref (g_N g + 0)), (2, .ref (g_N g + 67)), (3, .ref (g_N g + 106)), (4, .int x4)] (dk dL_law_9 28 rfl) (by decide) rfl ?_
  refine e_aload_n C 3 (dk dL_law_9 29 rfl) rfl rfl ?_
  refine e_aload_n C 1 (dk dL_law_9 30 rfl) rfl rfl ?_
  refine e_iload C 5 (dk dL_law_9 31 rfl) rfl ?_
  refine e_iconst C 1 (dk dL_law_9 32 rfl) (by decide) ?_
  refine e_iadd C (dk dL_law_9 33 rfl) ?_
  obtain ⟨v5, hv5, h⟩ := ob h
  refine e_scl C S (dk dL_law_9 34 rfl) hv5 ?_
  refine e_aload_n C 1 (dk dL_law_9 35 rfl) rfl rfl ?_
  refine e_iload C 5 (dk dL_law_9 36 rfl) rfl ?_
  refine e_iconst C 2 (dk dL_law_9 37 rfl) (by decide) ?_
  refine e_iadd C (dk dL_law_9 38 rfl) ?_
  obtain ⟨v6, hv6, h⟩ := ob h
  refine e_scl C S (dk dL_law_9 39 rfl) hv6 ?_
  refine e_aload_n C 1 (dk dL_law_9 40 rfl) rfl rfl ?_
  refine e_iload C 5 (dk dL_law_9 41 rfl) rfl ?_
  refine e_iconst C 3 (dk dL_law_9 42 rfl) (by decide) ?_
  refine e_iadd C (dk dL_law_9 43 rfl) ?_
  obtain ⟨v7, hv7, h⟩ := ob h
  refine e_scl C S (dk dL_law_9 44 rfl) hv7 ?_
  obtain ⟨q8, hq8, h⟩ := ob h
  refine e_callV2 (ci := 12) C cal_X12_then im_X12_then se_X12_then ml_L_179 rfl (lroom S (by decide) (by decide)) (dk dL_law_9 45 rfl) (by decide) (ent_o12 rfl) (c_X12_then KDf_KD rfl hq8) (lcap S (by omega) (by omega)) (Nat.le_of_ble_eq_true rfl) rfl ?_
  refine e_istore C [(6, .int q8.1), (5, .int q4.1), (0, .ref b), (1, .ref (g_N g + 0)), (2, .ref (g_N g + 67)), (3, .ref (g_N g + 106)), (4, .int x4)] (dk dL_law_9 46 rfl) (by decide) rfl ?_
  refine e_aload_n C 4 (dk dL_law_9 47 rfl) rfl rfl ?_
  refine e_callV2 (ci := 12) C cal_X12_thrown im_X12_thrown se_X12_thrown ml_L_128 rfl (lroom S (by decide) (by decide)) (dk dL_law_9 48 rfl) (by decide) (ent_o12 rfl) (c_X12_thrown KDf_KD rfl (rfl : F_X12_thrown 67 q8.2 = _)) (lcap S (by omega) (by omega)) (Nat.le_of_ble_eq_true rfl) rfl ?_
  refine e_iload C 1 (dk dL_law_9 49 rfl) rfl ?_
  refine e_icmp_eq C 1073 (dk dL_law_9 50 rfl) (by decide) (fun c9 => ?_) (fun c9 => ?_)
  · rw [if_pos c9] at h
    refine e_iload C 1 (dk dL_law_9 53 rfl) rfl ?_
    refine e_if_ne C 1090 (dk dL_law_9 54 rfl) (by decide) (fun c10 => ?_) (fun c10 => ?_)
    · rw [if_neg c10] at h
      refine e_goto C 2477 (dk dL_law_10 4 rfl) (by decide) ?_
      refine e_iinc C [(4, .int (x4 + 6)), (6, .int q8.1), (5, .int q4.1), (0, .ref b), (1, .ref (g_N g + 0)), (2, .ref (g_N g + 67)), (3, .ref (g_N g + 106))] 6 6 (dk dL_law_24 52 rfl) rfl (by decide) (by decide) rfl ?_
      refine e_goto C 23 (dk dL_law_24 53 rfl) (by decide) ?_
      refine e_lv [3, 4, 5, 6, 0] rfl ?_
      exact hrec _ _ _ _ _ (by omega) (by omega) h
    · rw [if_pos c10] at h
      refine e_aload_n C 5 (dk dL_law_9 55 rfl) rfl rfl ?_
      refine e_iconst C 0 (dk dL_law_9 56 rfl) (by decide) ?_
      refine e_lald1 C (dk dL_law_9 57 rfl) ?_
      refine e_iload C 0 (dk dL_law_9 58 rfl) rfl ?_
      refine e_i2l C (dk dL_law_9 59 rfl) ?_
      refine e_lcmp C (dk dL_law_10 0 rfl) ?_
      refine e_if_eq C 1090 (dk dL_law_10 1 rfl) (by decide) (fun c11 => ?_) (fun c11 => ?_)
      · rw [if_pos c11] at h
        refine e_goto C 2477 (dk dL_law_10 4 rfl) (by decide) ?_
        refine e_iinc C [(4, .int (x4 + 6)), (6, .int q8.1), (5, .int q4.1), (0, .ref b), (1, .ref (g_N g + 0)), (2, .ref (g_N g + 67)), (3, .ref (g_N g + 106))] 6 6 (dk dL_law_24 52 rfl) rfl (by decide) (by decide) rfl ?_
        refine e_goto C 23 (dk dL_law_24 53 rfl) (by decide) ?_
        refine e_lv [3, 4, 5, 6, 0] rfl ?_
        exact hrec _ _ _ _ _ (by omega) (by omega) h
      · rw [if_neg c11] at h
        cases h
  · rw [if_neg c9] at h
    cases h
set_option maxRecDepth 20000 in
theorem j_law_16 {X : FX} {g : WC} {Xo : Nat → va_E} {b L : Nat} {xs : Nat → Int32} (C : Cx X g RL cL_law 7) (S : SC X g b L xs) {rec : Int32 → Mem → Option Mem} {q : Mem} {z0 k0 sl0 : Nat} (hk : k0 + 4 ≤ 601024) (hs : sl0 + 24 ≤ 7293033) (hrec : ∀ (z k sl : Nat) (x4 : Int32) (M : Mem), k ≤ k0 + 4 → sl ≤ sl0 + 24 → rec x4 M = some q → EW X g z 107 7 (ent g Xo KDf M) k sl 23 [(0, .ref b), (1, .ref (g_N g + 0)), (2, .ref (g_N g + 67)), (3, .ref (g_N g + 106)), (4, .int x4)] []) {x4 : Int32} {M : Mem} (h : J_law_16 L xs rec x4 M = some q) : EW X g z0 107 7 (ent g Xo KDf M) k0 sl0 1093 [(0, .ref b), (1, .ref (g_N g + 0)), (2, .ref (g_N g + 67)), (3, .ref (g_N g + 106)), (4, .int x4)] [] := by
  rw [J_law_16] at h
  refine e_aload_n C 1 (dk dL_law_10 5 rfl) rfl rfl ?_
  refine e_aload_n C 0 (dk dL_law_10 6 rfl) rfl rfl ?_
  refine e_iload C 4 (dk dL_law_10 7 rfl) rfl ?_
  refine e_iconst C 1 (dk dL_law_10 8 rfl) (by decide) ?_
  refine e_iadd C (dk dL_law_10 9 rfl) ?_
  obtain ⟨v1, hv1, h⟩ := ob h
  refine e_scl C S (dk dL_law_10 10 rfl) hv1 ?_
  refine e_aload_n C 3 (dk dL_law_10 11 rfl) rfl rfl ?_
  obtain ⟨q2, hq2, h⟩ := ob h
  refine e_lcall C cw_L_dark sm_L_dark ml_L_180 (lroomX S (by decide) (by decide)) (dk dL_law_10 12 rfl) (c_L_dark KDf_KD (t := 0) (o := 106) rfl LA106 hq2) (lcap S (by omega) (by omega)) (Nat.le_of_ble_eq_true rfl) rfl (fun z2 hz2 => ?_)
  refine e_istore C [(5, .int q2.1), (0, .ref b), (1, .ref (g_N g + 0)), (2, .ref (g_N g + 67)), (3, .ref (g_N g + 106)), (4, .int x4)] (dk dL_law_10 13 rfl) (by decide) rfl ?_
  refine e_aload_n C 3 (dk dL_law_10 14 rfl) rfl rfl ?_
  refine e_aload_n C 1 (dk dL_law_10 15 rfl) rfl rfl ?_
  refine e_iload C 5 (dk dL_law_10 16 rfl) rfl ?_
  refine e_iconst C 1 (dk dL_law_10 17 rfl) (by decide) ?_
  refine e_iadd C (dk dL_law_10 18 rfl) ?_
  obtain ⟨v3, hv3, h⟩ := ob h
  refine e_scl C S (dk dL_law_10 19 rfl) hv3 ?_
  obtain ⟨q4, hq4, h⟩ := ob h
  refine e_callV2 (ci := 12) C cal_X12_dark im_X12_dark se_X12_dark ml_L_182 rfl (lroom S (by decide) (by decide)) (dk dL_law_10 20 rfl) (by decide) (ent_o12 rfl) (c_X12_dark KDf_KD rfl hq4) (lcap S (by omega) (by omega)) (Nat.le_of_ble_eq_true rfl) rfl ?_
  refine e_istore C [(6, .int q4.1), (5, .int q2.1), (0, .ref b), (1, .ref (g_N g + 0)), (2, .ref (g_N g + 67)), (3, .ref (g_N g + 106)), (4, .int x4)] (dk dL_law_10 21 rfl) (by decide) rfl ?_
  refine e_aload_n C 4 (dk dL_law_10 22 rfl) rfl rfl ?_
  refine e_callV2 (ci := 12) C cal_X12_thrown im_X12_thrown se_X12_thrown ml_L_128 rfl (lroom S (by decide) (by decide)) (dk dL_law_10 23 rfl) (by decide) (ent_o12 rfl) (c_X12_thrown KDf_KD rfl (rfl : F_X12_thrown 67 q4.2 = _)) (lcap S (by omega) (by omega)) (Nat.le_of_ble_eq_true rfl) rfl ?_
  refine e_iload C 1 (dk dL_law_10 24 rfl) rfl ?_
  refine e_icmp_eq C 1129 (dk dL_law_10 25 rfl) (by decide) (fun c5 => ?_) (fun c5 => ?_)
  · rw [if_pos c5] at h
    refine e_iload C 1 (dk dL_law_10 28 rfl) rfl ?_
    refine e_if_ne C 1146 (dk dL_law_10 29 rfl) (by decide) (fun c6 => ?_) (fun c6 => ?_)
    · rw [if_neg c6] at h
      refine e_goto C 2477 (dk dL_law_10 39 rfl) (by decide) ?_
      refine e_iinc C [(4, .int (x4 + 6)), (6, .int q4.1), (5, .int q2.1), (0, .ref b), (1, .ref (g_N g + 0)), (2, .ref (g_N g + 67)), (3, .ref (g_N g + 106))] 6 6 (dk dL_law_24 52 rfl) rfl (by decide) (by decide) rfl ?_
      refine e_goto C 23 (dk dL_law_24 53 rfl) (by decide) ?_
      refine e_lv [3, 4, 5, 6, 0] rfl ?_
      exact hrec _ _ _ _ _ (by omega) (by omega) h
    · rw [if_pos c6] at h
      refine e_aload_n C 5 (dk dL_law_10 30 rfl) rfl rfl ?_
      refine e_iconst C 0 (dk dL_law_10 31 rfl) (by decide) ?_
      refine e_lald1 C (dk dL_law_10 32 rfl) ?_
      refine e_iload C 0 (dk dL_law_10 33 rfl) rfl ?_
      refine e_i2l C (dk dL_law_10 34 rfl) ?_
      refine e_lcmp C (dk dL_law_10 35 rfl) ?_
      refine e_if_eq C 1146 (dk dL_law_10 36 rfl) (by decide) (fun c7 => ?_) (fun c7 => ?_)
      · rw [if_pos c7] at h
        refine e_goto C 2477 (dk dL_law_10 39 rfl) (by decide) ?_
        refine e_iinc C [(4, .int (x4 + 6)), (6, .int q4.1), (5, .int q2.1), (0, .ref b), (1, .ref (g_N g + 0)), (2, .ref (g_N g + 67)), (3, .ref (g_N g + 106))] 6 6 (dk dL_law_24 52 rfl) rfl (by decide) (by decide) rfl ?_
        refine e_goto C 23 (dk dL_law_24 53 rfl) (by decide) ?_
        refine e_lv [3, 4, 5, 6, 0] rfl ?_
        exact hrec _ _ _ _ _ (by omega) (by omega) h
      · rw [if_neg c7] at h
        cases h
  · rw [if_neg c5] at h
    cases h
set_option maxRecDepth 20000 in
theorem j_law_17 {X : FX} {g : WC} {Xo : Nat → va_E} {b L : Nat} {xs : Nat → Int32} (C : Cx X g RL cL_law 7) (S : SC X g b L xs) {rec : Int32 → Mem → Option Mem} {q : Mem} {z0 k0 sl0 : Nat} (hk : k0 + 4 ≤ 601024) (hs : sl0 + 24 ≤ 7293033) (hrec : ∀ (z k sl : Nat) (x4 : Int32) (M : Mem), k ≤ k0 + 4 → sl ≤ sl0 + 24 → rec x4 M = some q → EW X g z 107 7 (ent g Xo KDf M) k sl 23 [(0, .ref b), (1, .ref (g_N g + 0)), (2, .ref (g_N g + 67)), (3, .ref (g_N g + 106)), (4, .int x4)] []) {x4 : Int32} {M : Mem} (h : J_law_17 L xs rec x4 M = some q) : EW X g z0 107 7 (ent g Xo KDf M) k0 sl0 1149 [(0, .ref b), (1, .ref (g_N g + 0)), (2, .ref (g_N g + 67)), (3, .ref (g_N g + 106)), (4, .int x4)] [] := by
  rw [J_law_17] at h
  refine e_aload_n C 1 (dk dL_law_10 40 rfl) rfl rfl ?_
  refine e_aload_n C 0 (dk dL_law_10 41 rfl) rfl rfl ?_
  refine e_iload C 4 (dk dL_law_10 42 rfl) rfl ?_
  refine e_iconst C 1 (dk dL_law_10 43 rfl) (by decide) ?_
  refine e_iadd C (dk dL_law_10 44 rfl) ?_
  obtain ⟨v1, hv1, h⟩ := ob h
  refine e_scl C S (dk dL_law_10 45 rfl) hv1 ?_
  refine e_aload_n C 3 (dk dL_law_10 46 rfl) rfl rfl ?_
  obtain ⟨q2, hq2, h⟩ := ob h
  refine e_lcall C cw_L_first sm_L_first ml_L_183 (lroomX S (by decide) (by decide)) (dk dL_law_10 47 rfl) (c_L_first KDf_KD (t := 0) (o := 106) rfl LA106 hq2) (lcap S (by omega) (by omega)) (Nat.le_of_ble_eq_true rfl) rfl (fun z2 hz2 => ?_)
  refine e_istore C [(5, .int q2.1), (0, .ref b), (1, .ref (g_N g + 0)), (2, .ref (g_N g + 67)), (3, .ref (g_N g + 106)), (4, .int x4)] (dk dL_law_10 48 rfl) (by decide) rfl ?_
  refine e_aload_n C 3 (dk dL_law_10 49 rfl) rfl rfl ?_
  refine e_aload_n C 1 (dk dL_law_10 50 rfl) rfl rfl ?_
  refine e_iload C 5 (dk dL_law_10 51 rfl) rfl ?_
  refine e_iconst C 1 (dk dL_law_10 52 rfl) (by decide) ?_
  refine e_iadd C (dk dL_law_10 53 rfl) ?_
  obtain ⟨v3, hv3, h⟩ := ob h
  refine e_scl C S (dk dL_law_10 54 rfl) hv3 ?_
  obtain ⟨q4, hq4, h⟩ := ob h
  refine e_callV2 (ci := 12) C cal_X12_first im_X12_first se_X12_first ml_L_185 rfl (lroom S (by decide) (by decide)) (dk dL_law_10 55 rfl) (by decide) (ent_o12 rfl) (c_X12_first KDf_KD rfl hq4) (lcap S (by omega) (by omega)) (Nat.le_of_ble_eq_true rfl) rfl ?_
  refine e_istore C [(6, .int q4.1), (5, .int q2.1), (0, .ref b), (1, .ref (g_N g + 0)), (2, .ref (g_N g + 67)), (3, .ref (g_N g + 106)), (4, .int x4)] (dk dL_law_10 56 rfl) (by decide) rfl ?_
  refine e_aload_n C 4 (dk dL_law_10 57 rfl) rfl rfl ?_
  refine e_callV2 (ci := 12) C cal_X12_thrown im_X12_thrown se_X12_thrown ml_L_128 rfl (lroom S (by decide) (by decide)) (dk dL_law_10 58 rfl) (by decide) (ent_o12 rfl) (c_X12_thrown KDf_KD rfl (rfl : F_X12_thrown 67 q4.2 = _)) (lcap S (by omega) (by omega)) (Nat.le_of_ble_eq_true rfl) rfl ?_
  refine e_iload C 1 (dk dL_law_10 59 rfl) rfl ?_
  refine e_icmp_eq C 1185 (dk dL_law_11 0 rfl) (by decide) (fun c5 => ?_) (fun c5 => ?_)
  · rw [if_pos c5] at h
    refine e_iload C 1 (dk dL_law_11 3 rfl) rfl ?_
    refine e_if_ne C 1202 (dk dL_law_11 4 rfl) (by decide) (fun c6 => ?_) (fun c6 => ?_)
    · rw [if_neg c6] at h
      refine e_goto C 2477 (dk dL_law_11 14 rfl) (by decide) ?_
      refine e_iinc C [(4, .int (x4 + 6)), (6, .int q4.1), (5, .int q2.1), (0, .ref b), (1, .ref (g_N g + 0)), (2, .ref (g_N g + 67)), (3, .ref (g_N g + 106))] 6 6 (dk dL_law_24 52 rfl) rfl (by decide) (by decide) rfl ?_
      refine e_goto C 23 (dk dL_law_24 53 rfl) (by decide) ?_
      refine e_lv [3, 4, 5, 6, 0] rfl ?_
      exact hrec _ _ _ _ _ (by omega) (by omega) h
    · rw [if_pos c6] at h
      refine e_aload_n C 5 (dk dL_law_11 5 rfl) rfl rfl ?_
      refine e_iconst C 0 (dk dL_law_11 6 rfl) (by decide) ?_
      refine e_lald1 C (dk dL_law_11 7 rfl) ?_
      refine e_iload C 0 (dk dL_law_11 8 rfl) rfl ?_
      refine e_i2l C (dk dL_law_11 9 rfl) ?_
      refine e_lcmp C (dk dL_law_11 10 rfl) ?_
      refine e_if_eq C 1202 (dk dL_law_11 11 rfl) (by decide) (fun c7 => ?_) (fun c7 => ?_)
      · rw [if_pos c7] at h
        refine e_goto C 2477 (dk dL_law_11 14 rfl) (by decide) ?_
        refine e_iinc C [(4, .int (x4 + 6)), (6, .int q4.1), (5, .int q2.1), (0, .ref b), (1, .ref (g_N g + 0)), (2, .ref (g_N g + 67)), (3, .ref (g_N g + 106))] 6 6 (dk dL_law_24 52 rfl) rfl (by decide) (by decide) rfl ?_
        refine e_goto C 23 (dk dL_law_24 53 rfl) (by decide) ?_
        refine e_lv [3, 4, 5, 6, 0] rfl ?_
        exact hrec _ _ _ _ _ (by omega) (by omega) h
      · rw [if_neg c7] at h
        cases h
  · rw [if_neg c5] at h
    cases h
set_option maxRecDepth 20000 in
theorem j_law_18 {X : FX} {g : WC} {Xo : Nat → va_E} {b L : Nat} {xs : Nat → Int32} (C : Cx X g RL cL_law 7) (S : SC X g b L xs) {rec : Int32 → Mem → Option Mem} {q : Mem} {z0 k0 sl0 : Nat} (hk : k0 + 4 ≤ 601024) (hs : sl0 + 24 ≤ 7293033) (hrec : ∀ (z k sl : Nat) (x4 : Int32) (M : Mem), k ≤ k0 + 4 → sl ≤ sl0 + 24 → rec x4 M = some q → EW X g z 107 7 (ent g Xo KDf M) k sl 23 [(0, .ref b), (1, .ref (g_N g + 0)), (2, .ref (g_N g + 67)), (3, .ref (g_N g + 106)), (4, .int x4)] []) {x4 : Int32} {M : Mem} (h : J_law_18 L xs rec x4 M = some q) : EW X g z0 107 7 (ent g Xo KDf M) k0 sl0 1205 [(0, .ref b), (1, .ref (g_N g + 0)), (2, .ref (g_N g + 67)), (3, .ref (g_N g + 106)), (4, .int x4)] [] := by
  rw [J_law_18] at h
  refine e_aload_n C 1 (dk dL_law_11 15 rfl) rfl rfl ?_
  obtain ⟨q1, hq1, h⟩ := ob h
  refine e_callV2 (ci := 11) C cal_X11_secret im_X11_secret se_X11_secret ml_L_186 rfl (lroom S (by decide) (by decide)) (dk dL_law_11 16 rfl) (by decide) (ent_o11 rfl) (c_X11_secret KDf_KD rfl hq1) (lcap S (by omega) (by omega)) (Nat.le_of_ble_eq_true rfl) rfl ?_
  refine e_aload_n C 2 (dk dL_law_11 17 rfl) rfl rfl ?_
  obtain ⟨q2, hq2, h⟩ := ob h
  refine e_callV2 (ci := 12) C cal_X12_secret im_X12_secret se_X12_secret ml_L_189 rfl (lroom S (by decide) (by decide)) (dk dL_law_11 18 rfl) (by decide) (ent_o12 rfl) (c_X12_secret KDf_KD rfl hq2) (lcap S (by omega) (by omega)) (Nat.le_of_ble_eq_true rfl) rfl ?_
  refine e_icmp_eq C 2477 (dk dL_law_11 19 rfl) (by decide) (fun c3 => ?_) (fun c3 => ?_)
  · rw [if_pos c3] at h
    refine e_iinc C [(4, .int (x4 + 6)), (0, .ref b), (1, .ref (g_N g + 0)), (2, .ref (g_N g + 67)), (3, .ref (g_N g + 106))] 4 6 (dk dL_law_24 52 rfl) rfl (by decide) (by decide) rfl ?_
    refine e_goto C 23 (dk dL_law_24 53 rfl) (by decide) ?_
    refine e_lv [1, 2, 3, 4, 0] rfl ?_
    exact hrec _ _ _ _ _ (by omega) (by omega) h
  · rw [if_neg c3] at h
    cases h
set_option maxRecDepth 20000 in
theorem j_law_19 {X : FX} {g : WC} {Xo : Nat → va_E} {b L : Nat} {xs : Nat → Int32} (C : Cx X g RL cL_law 7) (S : SC X g b L xs) {rec : Int32 → Mem → Option Mem} {q : Mem} {z0 k0 sl0 : Nat} (hk : k0 + 4 ≤ 601024) (hs : sl0 + 24 ≤ 7293033) (hrec : ∀ (z k sl : Nat) (x4 : Int32) (M : Mem), k ≤ k0 + 4 → sl ≤ sl0 + 24 → rec x4 M = some q → EW X g z 107 7 (ent g Xo KDf M) k sl 23 [(0, .ref b), (1, .ref (g_N g + 0)), (2, .ref (g_N g + 67)), (3, .ref (g_N g + 106)), (4, .int x4)] []) {x4 : Int32} {M : Mem} (h : J_law_19 L xs rec x4 M = some q) : EW X g z0 107 7 (ent g Xo KDf M) k0 sl0 1218 [(0, .ref b), (1, .ref (g_N g + 0)), (2, .ref (g_N g + 67)), (3, .ref (g_N g + 106)), (4, .int x4)] [] := by
  rw [J_law_19] at h
  refine e_aload_n C 1 (dk dL_law_11 22 rfl) rfl rfl ?_
  refine e_aload_n C 0 (dk dL_law_11 23 rfl) rfl rfl ?_
  refine e_iload C 4 (dk dL_law_11 24 rfl) rfl ?_
  refine e_iconst C 1 (dk dL_law_11 25 rfl) (by decide) ?_
  refine e_iadd C (dk dL_law_11 26 rfl) ?_
  obtain ⟨v1, hv1, h⟩ := ob h
  refine e_scl C S (dk dL_law_11 27 rfl) hv1 ?_
  refine e_aload_n C 3 (dk dL_law_11 28 rfl) rfl rfl ?_
  obtain ⟨q2, hq2, h⟩ := ob h
  refine e_lcall C cw_L_haunt sm_L_haunt ml_L_190 (lroomX S (by decide) (by decide)) (dk dL_law_11 29 rfl) (c_L_haunt KDf_KD (t := 0) (o := 106) rfl LA106 hq2) (lcap S (by omega) (by omega)) (Nat.le_of_ble_eq_true rfl) rfl (fun z2 hz2 => ?_)
  refine e_istore C [(5, .int q2.1), (0, .ref b), (1, .ref (g_N g + 0)), (2, .ref (g_N g + 67)), (3, .ref (g_N g + 106)), (4, .int x4)] (dk dL_law_11 30 rfl) (by decide) rfl ?_
  refine e_aload_n C 3 (dk dL_law_11 31 rfl) rfl rfl ?_
  refine e_aload_n C 1 (dk dL_law_11 32 rfl) rfl rfl ?_
  refine e_iload C 5 (dk dL_law_11 33 rfl) rfl ?_
  refine e_iconst C 1 (dk dL_law_11 34 rfl) (by decide) ?_
  refine e_iadd C (dk dL_law_11 35 rfl) ?_
  obtain ⟨v3, hv3, h⟩ := ob h
  refine e_scl C S (dk dL_law_11 36 rfl) hv3 ?_
  obtain ⟨q4, hq4, h⟩ := ob h
  refine e_callV2 (ci := 12) C cal_X12_haunt im_X12_haunt se_X12_haunt ml_L_192 rfl (lroom S (by decide) (by decide)) (dk dL_law_11 37 rfl) (by decide) (ent_o12 rfl) (c_X12_haunt KDf_KD rfl hq4) (lcap S (by omega) (by omega)) (Nat.le_of_ble_eq_true rfl) rfl ?_
  refine e_istore C [(6, .int q4.1), (5, .int q2.1), (0, .ref b), (1, .ref (g_N g + 0)), (2, .ref (g_N g + 67)), (3, .ref (g_N g + 106)), (4, .int x4)] (dk dL_law_11 38 rfl) (by decide) rfl ?_
  refine e_aload_n C 4 (dk dL_law_11 39 rfl) rfl rfl ?_
  refine e_callV2 (ci := 12) C cal_X12_thrown im_X12_thrown se_X12_thrown ml_L_128 rfl (lroom S (by decide) (by decide)) (dk dL_law_11 40 rfl) (by decide) (ent_o12 rfl) (c_X12_thrown KDf_KD rfl (rfl : F_X12_thrown 67 q4.2 = _)) (lcap S (by omega) (by omega)) (Nat.le_of_ble_eq_true rfl) rfl ?_
  refine e_iload C 1 (dk dL_law_11 41 rfl) rfl ?_
  refine e_icmp_eq C 1254 (dk dL_law_11 42 rfl) (by decide) (fun c5 => ?_) (fun c5 => ?_)
  · rw [if_pos c5] at h
    refine e_iload C 1 (dk dL_law_11 45 rfl) rfl ?_
    refine e_if_ne C 1271 (dk dL_law_11 46 rfl) (by decide) (fun c6 => ?_) (fun c6 => ?_)
    · rw [if_neg c6] at h
      refine e_goto C 2477 (dk dL_law_11 56 rfl) (by decide) ?_
      refine e_iinc C [(4, .int (x4 + 6)), (6, .int q4.1), (5, .int q2.1), (0, .ref b), (1, .ref (g_N g + 0)), (2, .ref (g_N g + 67)), (3, .ref (g_N g + 106))] 6 6 (dk dL_law_24 52 rfl) rfl (by decide) (by decide) rfl ?_
      refine e_goto C 23 (dk dL_law_24 53 rfl) (by decide) ?_
      refine e_lv [3, 4, 5, 6, 0] rfl ?_
      exact hrec _ _ _ _ _ (by omega) (by omega) h
    · rw [if_pos c6] at h
      refine e_aload_n C 5 (dk dL_law_11 47 rfl) rfl rfl ?_
      refine e_iconst C 0 (dk dL_law_11 48 rfl) (by decide) ?_
      refine e_lald1 C (dk dL_law_11 49 rfl) ?_
      refine e_iload C 0 (dk dL_law_11 50 rfl) rfl ?_
      refine e_i2l C (dk dL_law_11 51 rfl) ?_
      refine e_lcmp C (dk dL_law_11 52 rfl) ?_
      refine e_if_eq C 1271 (dk dL_law_11 53 rfl) (by decide) (fun c7 => ?_) (fun c7 => ?_)
      · rw [if_pos c7] at h
        refine e_goto C 2477 (dk dL_law_11 56 rfl) (by decide) ?_
        refine e_iinc C [(4, .int (x4 + 6)), (6, .int q4.1), (5, .int q2.1), (0, .ref b), (1, .ref (g_N g + 0)), (2, .ref (g_N g + 67)), (3, .ref (g_N g + 106))] 6 6 (dk dL_law_24 52 rfl) rfl (by decide) (by decide) rfl ?_
        refine e_goto C 23 (dk dL_law_24 53 rfl) (by decide) ?_
        refine e_lv [3, 4, 5, 6, 0] rfl ?_
        exact hrec _ _ _ _ _ (by omega) (by omega) h
      · rw [if_neg c7] at h
        cases h
  · rw [if_neg c5] at h
    cases h
set_option maxRecDepth 20000 in
theorem j_law_20 {X : FX} {g : WC} {Xo : Nat → va_E} {b L : Nat} {xs : Nat → Int32} (C : Cx X g RL cL_law 7) (S : SC X g b L xs) {rec : Int32 → Mem → Option Mem} {q : Mem} {z0 k0 sl0 : Nat} (hk : k0 + 4 ≤ 601024) (hs : sl0 + 24 ≤ 7293033) (hrec : ∀ (z k sl : Nat) (x4 : Int32) (M : Mem), k ≤ k0 + 4 → sl ≤ sl0 + 24 → rec x4 M = some q → EW X g z 107 7 (ent g Xo KDf M) k sl 23 [(0, .ref b), (1, .ref (g_N g + 0)), (2, .ref (g_N g + 67)), (3, .ref (g_N g + 106)), (4, .int x4)] []) {x4 : Int32} {M : Mem} (h : J_law_20 L xs rec x4 M = some q) : EW X g z0 107 7 (ent g Xo KDf M) k0 sl0 1274 [(0, .ref b), (1, .ref (g_N g + 0)), (2, .ref (g_N g + 67)), (3, .ref (g_N g + 106)), (4, .int x4)] [] := by
  rw [J_law_20] at h
  refine e_aload_n C 1 (dk dL_law_11 57 rfl) rfl rfl ?_
  refine e_aload_n C 0 (dk dL_law_11 58 rfl) rfl rfl ?_
  refine e_iload C 4 (dk dL_law_11 59 rfl) rfl ?_
  refine e_iconst C 1 (dk dL_law_12 0 rfl) (by decide) ?_
  refine e_iadd C (dk dL_law_12 1 rfl) ?_
  obtain ⟨v1, hv1, h⟩ := ob h
  refine e_scl C S (dk dL_law_12 2 rfl) hv1 ?_
  refine e_aload_n C 0 (dk dL_law_12 3 rfl) rfl rfl ?_
  refine e_iload C 4 (dk dL_law_12 4 rfl) rfl ?_
  refine e_iconst C 2 (dk dL_law_12 5 rfl) (by decide) ?_
  refine e_iadd C (dk dL_law_12 6 rfl) ?_
  obtain ⟨v2, hv2, h⟩ := ob h
  refine e_scl C S (dk dL_law_12 7 rfl) hv2 ?_
  refine e_aload_n C 3 (dk dL_law_12 8 rfl) rfl rfl ?_
  obtain ⟨q3, hq3, h⟩ := ob h
  refine e_lcall C cw_L_watch sm_L_watch ml_L_193 (lroomX S (by decide) (by decide)) (dk dL_law_12 9 rfl) (c_L_watch KDf_KD (t := 0) (o := 106) rfl LA106 hq3) (lcap S (by omega) (by omega)) (Nat.le_of_ble_eq_true rfl) rfl (fun z2 hz2 => ?_)
  refine e_istore C [(5, .int q3.1), (0, .ref b), (1, .ref (g_N g + 0)), (2, .ref (g_N g + 67)), (3, .ref (g_N g + 106)), (4, .int x4)] (dk dL_law_12 10 rfl) (by decide) rfl ?_
  refine e_aload_n C 3 (dk dL_law_12 11 rfl) rfl rfl ?_
  refine e_aload_n C 1 (dk dL_law_12 12 rfl) rfl rfl ?_
  refine e_iload C 5 (dk dL_law_12 13 rfl) rfl ?_
  refine e_iconst C 1 (dk dL_law_12 14 rfl) (by decide) ?_
  refine e_iadd C (dk dL_law_12 15 rfl) ?_
  obtain ⟨v4, hv4, h⟩ := ob h
  refine e_scl C S (dk dL_law_12 16 rfl) hv4 ?_
  refine e_aload_n C 1 (dk dL_law_12 17 rfl) rfl rfl ?_
  refine e_iload C 5 (dk dL_law_12 18 rfl) rfl ?_
  refine e_iconst C 2 (dk dL_law_12 19 rfl) (by decide) ?_
  refine e_iadd C (dk dL_law_12 20 rfl) ?_
  obtain ⟨v5, hv5, h⟩ := ob h
  refine e_scl C S (dk dL_law_12 21 rfl) hv5 ?_
  obtain ⟨q6, hq6, h⟩ := ob h
  refine e_callV2 (ci := 12) C cal_X12_watch im_X12_watch se_X12_watch ml_L_195 rfl (lroom S (by decide) (by decide)) (dk dL_law_12 22 rfl) (by decide) (ent_o12 rfl) (c_X12_watch KDf_KD rfl hq6) (lcap S (by omega) (by omega)) (Nat.le_of_ble_eq_true rfl) rfl ?_
  refine e_istore C [(6, .int q6.1), (5, .int q3.1), (0, .ref b), (1, .ref (g_N g + 0)), (2, .ref (g_N g + 67)), (3, .ref (g_N g + 106)), (4, .int x4)] (dk dL_law_12 23 rfl) (by decide) rfl ?_
  refine e_aload_n C 4 (dk dL_law_12 24 rfl) rfl rfl ?_
  refine e_callV2 (ci := 12) C cal_X12_thrown im_X12_thrown se_X12_thrown ml_L_128 rfl (lroom S (by decide) (by decide)) (dk dL_law_12 25 rfl) (by decide) (ent_o12 rfl) (c_X12_thrown KDf_KD rfl (rfl : F_X12_thrown 67 q6.2 = _)) (lcap S (by omega) (by omega)) (Nat.le_of_ble_eq_true rfl) rfl ?_
  refine e_iload C 1 (dk dL_law_12 26 rfl) rfl ?_
  refine e_icmp_eq C 1322 (dk dL_law_12 27 rfl) (by decide) (fun c7 => ?_) (fun c7 => ?_)
  · rw [if_pos c7] at h
    refine e_iload C 1 (dk dL_law_12 30 rfl) rfl ?_
    refine e_if_ne C 1339 (dk dL_law_12 31 rfl) (by decide) (fun c8 => ?_) (fun c8 => ?_)
    · rw [if_neg c8] at h
      refine e_goto C 2477 (dk dL_law_12 41 rfl) (by decide) ?_
      refine e_iinc C [(4, .int (x4 + 6)), (6, .int q6.1), (5, .int q3.1), (0, .ref b), (1, .ref (g_N g + 0)), (2, .ref (g_N g + 67)), (3, .ref (g_N g + 106))] 6 6 (dk dL_law_24 52 rfl) rfl (by decide) (by decide) rfl ?_
      refine e_goto C 23 (dk dL_law_24 53 rfl) (by decide) ?_
      refine e_lv [3, 4, 5, 6, 0] rfl ?_
      exact hrec _ _ _ _ _ (by omega) (by omega) h
    · rw [if_pos c8] at h
      refine e_aload_n C 5 (dk dL_law_12 32 rfl) rfl rfl ?_
      refine e_iconst C 0 (dk dL_law_12 33 rfl) (by decide) ?_
      refine e_lald1 C (dk dL_law_12 34 rfl) ?_
      refine e_iload C 0 (dk dL_law_12 35 rfl) rfl ?_
      refine e_i2l C (dk dL_law_12 36 rfl) ?_
      refine e_lcmp C (dk dL_law_12 37 rfl) ?_
      refine e_if_eq C 1339 (dk dL_law_12 38 rfl) (by decide) (fun c9 => ?_) (fun c9 => ?_)
      · rw [if_pos c9] at h
        refine e_goto C 2477 (dk dL_law_12 41 rfl) (by decide) ?_
        refine e_iinc C [(4, .int (x4 + 6)), (6, .int q6.1), (5, .int q3.1), (0, .ref b), (1, .ref (g_N g + 0)), (2, .ref (g_N g + 67)), (3, .ref (g_N g + 106))] 6 6 (dk dL_law_24 52 rfl) rfl (by decide) (by decide) rfl ?_
        refine e_goto C 23 (dk dL_law_24 53 rfl) (by decide) ?_
        refine e_lv [3, 4, 5, 6, 0] rfl ?_
        exact hrec _ _ _ _ _ (by omega) (by omega) h
      · rw [if_neg c9] at h
        cases h
  · rw [if_neg c7] at h
    cases h
set_option maxRecDepth 20000 in
theorem j_law_21 {X : FX} {g : WC} {Xo : Nat → va_E} {b L : Nat} {xs : Nat → Int32} (C : Cx X g RL cL_law 7) (S : SC X g b L xs) {rec : Int32 → Mem → Option Mem} {q : Mem} {z0 k0 sl0 : Nat} (hk : k0 + 4 ≤ 601024) (hs : sl0 + 24 ≤ 7293033) (hrec : ∀ (z k sl : Nat) (x4 : Int32) (M : Mem), k ≤ k0 + 4 → sl ≤ sl0 + 24 → rec x4 M = some q → EW X g z 107 7 (ent g Xo KDf M) k sl 23 [(0, .ref b), (1, .ref (g_N g + 0)), (2, .ref (g_N g + 67)), (3, .ref (g_N g + 106)), (4, .int x4)] []) {x4 : Int32} {M : Mem} (h : J_law_21 L xs rec x4 M = some q) : EW X g z0 107 7 (ent g Xo KDf M) k0 sl0 1342 [(0, .ref b), (1, .ref (g_N g + 0)), (2, .ref (g_N g + 67)), (3, .ref (g_N g + 106)), (4, .int x4)] [] := by
  rw [J_law_21] at h
  refine e_aload_n C 1 (dk dL_law_12 42 rfl) rfl rfl ?_
  refine e_aload_n C 0 (dk dL_law_12 43 rfl) rfl rfl ?_
  refine e_iload C 4 (dk dL_law_12 44 rfl) rfl ?_
  refine e_iconst C 1 (dk dL_law_12 45 rfl) (by decide) ?_
  refine e_iadd C (dk dL_law_12 46 rfl) ?_
  obtain ⟨v1, hv1, h⟩ := ob h
  refine e_scl C S (dk dL_law_12 47 rfl) hv1 ?_
  refine e_aload_n C 0 (dk dL_law_12 48 rfl) rfl rfl ?_
  refine e_iload C 4 (dk dL_law_12 49 rfl) rfl ?_
  refine e_iconst C 2 (dk dL_law_12 50 rfl) (by decide) ?_
  refine e_iadd C (dk dL_law_12 51 rfl) ?_
  obtain ⟨v2, hv2, h⟩ := ob h
  refine e_scl C S (dk dL_law_12 52 rfl) hv2 ?_
  refine e_aload_n C 3 (dk dL_law_12 53 rfl) rfl rfl ?_
  obtain ⟨q3, hq3, h⟩ := ob h
  refine e_lcall C cw_L_way sm_L_way ml_L_196 (lroomX S (by decide) (by decide)) (dk dL_law_12 54 rfl) (c_L_way KDf_KD (t := 0) (o := 106) rfl LA106 hq3) (lcap S (by omega) (by omega)) (Nat.le_of_ble_eq_true rfl) rfl (fun z2 hz2 => ?_)
  refine e_istore C [(5, .int q3.1), (0, .ref b), (1, .ref (g_N g + 0)), (2, .ref (g_N g + 67)), (3, .ref (g_N g + 106)), (4, .int x4)] (dk dL_law_12 55 rfl) (by decide) rfl ?_
  refine e_aload_n C 3 (dk dL_law_12 56 rfl) rfl rfl ?_
  refine e_aload_n C 1 (dk dL_law_12 57 rfl) rfl rfl ?_
  refine e_iload C 5 (dk dL_law_12 58 rfl) rfl ?_
  refine e_iconst C 1 (dk dL_law_12 59 rfl) (by decide) ?_
  refine e_iadd C (dk dL_law_13 0 rfl) ?_
  obtain ⟨v4, hv4, h⟩ := ob h
  refine e_scl C S (dk dL_law_13 1 rfl) hv4 ?_
  refine e_aload_n C 1 (dk dL_law_13 2 rfl) rfl rfl ?_
  refine e_iload C 5 (dk dL_law_13 3 rfl) rfl ?_
  refine e_iconst C 2 (dk dL_law_13 4 rfl) (by decide) ?_
  refine e_iadd C (dk dL_law_13 5 rfl) ?_
  obtain ⟨v5, hv5, h⟩ := ob h
  refine e_scl C S (dk dL_law_13 6 rfl) hv5 ?_
  obtain ⟨q6, hq6, h⟩ := ob h
  refine e_callV2 (ci := 12) C cal_X12_way im_X12_way se_X12_way ml_L_198 rfl (lroom S (by decide) (by decide)) (dk dL_law_13 7 rfl) (by decide) (ent_o12 rfl) (c_X12_way KDf_KD rfl hq6) (lcap S (by omega) (by omega)) (Nat.le_of_ble_eq_true rfl) rfl ?_
  refine e_istore C [(6, .int q6.1), (5, .int q3.1), (0, .ref b), (1, .ref (g_N g + 0)), (2, .ref (g_N g + 67)), (3, .ref (g_N g + 106)), (4, .int x4)] (dk dL_law_13 8 rfl) (by decide) rfl ?_
  refine e_aload_n C 4 (dk dL_law_13 9 rfl) rfl rfl ?_
  refine e_callV2 (ci := 12) C cal_X12_thrown im_X12_thrown se_X12_thrown ml_L_128 rfl (lroom S (by decide) (by decide)) (dk dL_law_13 10 rfl) (by decide) (ent_o12 rfl) (c_X12_thrown KDf_KD rfl (rfl : F_X12_thrown 67 q6.2 = _)) (lcap S (by omega) (by omega)) (Nat.le_of_ble_eq_true rfl) rfl ?_
  refine e_iload C 1 (dk dL_law_13 11 rfl) rfl ?_
  refine e_icmp_eq C 1390 (dk dL_law_13 12 rfl) (by decide) (fun c7 => ?_) (fun c7 => ?_)
  · rw [if_pos c7] at h
    refine e_iload C 1 (dk dL_law_13 15 rfl) rfl ?_
    refine e_if_ne C 1407 (dk dL_law_13 16 rfl) (by decide) (fun c8 => ?_) (fun c8 => ?_)
    · rw [if_neg c8] at h
      refine e_goto C 2477 (dk dL_law_13 26 rfl) (by decide) ?_
      refine e_iinc C [(4, .int (x4 + 6)), (6, .int q6.1), (5, .int q3.1), (0, .ref b), (1, .ref (g_N g + 0)), (2, .ref (g_N g + 67)), (3, .ref (g_N g + 106))] 6 6 (dk dL_law_24 52 rfl) rfl (by decide) (by decide) rfl ?_
      refine e_goto C 23 (dk dL_law_24 53 rfl) (by decide) ?_
      refine e_lv [3, 4, 5, 6, 0] rfl ?_
      exact hrec _ _ _ _ _ (by omega) (by omega) h
    · rw [if_pos c8] at h
      refine e_aload_n C 5 (dk dL_law_13 17 rfl) rfl rfl ?_
      refine e_iconst C 0 (dk dL_law_13 18 rfl) (by decide) ?_
      refine e_lald1 C (dk dL_law_13 19 rfl) ?_
      refine e_iload C 0 (dk dL_law_13 20 rfl) rfl ?_
      refine e_i2l C (dk dL_law_13 21 rfl) ?_
      refine e_lcmp C (dk dL_law_13 22 rfl) ?_
      refine e_if_eq C 1407 (dk dL_law_13 23 rfl) (by decide) (fun c9 => ?_) (fun c9 => ?_)
      · rw [if_pos c9] at h
        refine e_goto C 2477 (dk dL_law_13 26 rfl) (by decide) ?_
        refine e_iinc C [(4, .int (x4 + 6)), (6, .int q6.1), (5, .int q3.1), (0, .ref b), (1, .ref (g_N g + 0)), (2, .ref (g_N g + 67)), (3, .ref (g_N g + 106))] 6 6 (dk dL_law_24 52 rfl) rfl (by decide) (by decide) rfl ?_
        refine e_goto C 23 (dk dL_law_24 53 rfl) (by decide) ?_
        refine e_lv [3, 4, 5, 6, 0] rfl ?_
        exact hrec _ _ _ _ _ (by omega) (by omega) h
      · rw [if_neg c9] at h
        cases h
  · rw [if_neg c7] at h
    cases h
set_option maxRecDepth 20000 in
theorem j_law_22 {X : FX} {g : WC} {Xo : Nat → va_E} {b L : Nat} {xs : Nat → Int32} (C : Cx X g RL cL_law 7) (S : SC X g b L xs) {rec : Int32 → Mem → Option Mem} {q : Mem} {z0 k0 sl0 : Nat} (hk : k0 + 4 ≤ 601024) (hs : sl0 + 24 ≤ 7293033) (hrec : ∀ (z k sl : Nat) (x4 : Int32) (M : Mem), k ≤ k0 + 4 → sl ≤ sl0 + 24 → rec x4 M = some q → EW X g z 107 7 (ent g Xo KDf M) k sl 23 [(0, .ref b), (1, .ref (g_N g + 0)), (2, .ref (g_N g + 67)), (3, .ref (g_N g + 106)), (4, .int x4)] []) {x4 : Int32} {M : Mem} (h : J_law_22 L xs rec x4 M = some q) : EW X g z0 107 7 (ent g Xo KDf M) k0 sl0 1410 [(0, .ref b), (1, .ref (g_N g + 0)), (2, .ref (g_N g + 67)), (3, .ref (g_N g + 106)), (4, .int x4)] [] := by
  rw [J_law_22] at h
  refine e_aload_n C 1 (dk dL_law_13 27 rfl) rfl rfl ?_
  refine e_aload_n C 0 (dk dL_law_13 28 rfl) rfl rfl ?_
  refine e_iload C 4 (dk dL_law_13 29 rfl) rfl ?_
  refine e_iconst C 1 (dk dL_law_13 30 rfl) (by decide) ?_
  refine e_iadd C (dk dL_law_13 31 rfl) ?_
  obtain ⟨v1, hv1, h⟩ := ob h
  refine e_scl C S (dk dL_law_13 32 rfl) hv1 ?_
  refine e_aload_n C 0 (dk dL_law_13 33 rfl) rfl rfl ?_
  refine e_iload C 4 (dk dL_law_13 34 rfl) rfl ?_
  refine e_iconst C 2 (dk dL_law_13 35 rfl) (by decide) ?_
  refine e_iadd C (dk dL_law_13 36 rfl) ?_
  obtain ⟨v2, hv2, h⟩ := ob h
  refine e_scl C S (dk dL_law_13 37 rfl) hv2 ?_
  refine e_aload_n C 3 (dk dL_law_13 38 rfl) rfl rfl ?_
  obtain ⟨q3, hq3, h⟩ := ob h
  refine e_lcall C cw_L_sneak sm_L_sneak ml_L_199 (lroomX S (by decide) (by decide)) (dk dL_law_13 39 rfl) (c_L_sneak KDf_KD (t := 0) (o := 106) rfl LA106 hq3) (lcap S (by omega) (by omega)) (Nat.le_of_ble_eq_true rfl) rfl (fun z2 hz2 => ?_)
  refine e_istore C [(5, .int q3.1), (0, .ref b), (1, .ref (g_N g + 0)), (2, .ref (g_N g + 67)), (3, .ref (g_N g + 106)), (4, .int x4)] (dk dL_law_13 40 rfl) (by decide) rfl ?_
  refine e_aload_n C 3 (dk dL_law_13 41 rfl) rfl rfl ?_
  refine e_aload_n C 1 (dk dL_law_13 42 rfl) rfl rfl ?_
  refine e_iload C 5 (dk dL_law_13 43 rfl) rfl ?_
  refine e_iconst C 1 (dk dL_law_13 44 rfl) (by decide) ?_
  refine e_iadd C (dk dL_law_13 45 rfl) ?_
  obtain ⟨v4, hv4, h⟩ := ob h
  refine e_scl C S (dk dL_law_13 46 rfl) hv4 ?_
  refine e_aload_n C 1 (dk dL_law_13 47 rfl) rfl rfl ?_
  refine e_iload C 5 (dk dL_law_13 48 rfl) rfl ?_
  refine e_iconst C 2 (dk dL_law_13 49 rfl) (by decide) ?_
  refine e_iadd C (dk dL_law_13 50 rfl) ?_
  obtain ⟨v5, hv5, h⟩ := ob h
  refine e_scl C S (dk dL_law_13 51 rfl) hv5 ?_
  obtain ⟨q6, hq6, h⟩ := ob h
  refine e_callV2 (ci := 12) C cal_X12_sneak im_X12_sneak se_X12_sneak ml_L_201 rfl (lroom S (by decide) (by decide)) (dk dL_law_13 52 rfl) (by decide) (ent_o12 rfl) (c_X12_sneak KDf_KD rfl hq6) (lcap S (by omega) (by omega)) (Nat.le_of_ble_eq_true rfl) rfl ?_
  refine e_istore C [(6, .int q6.1), (5, .int q3.1), (0, .ref b), (1, .ref (g_N g + 0)), (2, .ref (g_N g + 67)), (3, .ref (g_N g + 106)), (4, .int x4)] (dk dL_law_13 53 rfl) (by decide) rfl ?_
  refine e_aload_n C 4 (dk dL_law_13 54 rfl) rfl rfl ?_
  refine e_callV2 (ci := 12) C cal_X12_thrown im_X12_thrown se_X12_thrown ml_L_128 rfl (lroom S (by decide) (by decide)) (dk dL_law_13 55 rfl) (by decide) (ent_o12 rfl) (c_X12_thrown KDf_KD rfl (rfl : F_X12_thrown 67 q6.2 = _)) (lcap S (by omega) (by omega)) (Nat.le_of_ble_eq_true rfl) rfl ?_
  refine e_iload C 1 (dk dL_law_13 56 rfl) rfl ?_
  refine e_icmp_eq C 1458 (dk dL_law_13 57 rfl) (by decide) (fun c7 => ?_) (fun c7 => ?_)
  · rw [if_pos c7] at h
    refine e_iload C 1 (dk dL_law_14 0 rfl) rfl ?_
    refine e_if_ne C 1475 (dk dL_law_14 1 rfl) (by decide) (fun c8 => ?_) (fun c8 => ?_)
    · rw [if_neg c8] at h
      refine e_goto C 2477 (dk dL_law_14 11 rfl) (by decide) ?_
      refine e_iinc C [(4, .int (x4 + 6)), (6, .int q6.1), (5, .int q3.1), (0, .ref b), (1, .ref (g_N g + 0)), (2, .ref (g_N g + 67)), (3, .ref (g_N g + 106))] 6 6 (dk dL_law_24 52 rfl) rfl (by decide) (by decide) rfl ?_
      refine e_goto C 23 (dk dL_law_24 53 rfl) (by decide) ?_
      refine e_lv [3, 4, 5, 6, 0] rfl ?_
      exact hrec _ _ _ _ _ (by omega) (by omega) h
    · rw [if_pos c8] at h
      refine e_aload_n C 5 (dk dL_law_14 2 rfl) rfl rfl ?_
      refine e_iconst C 0 (dk dL_law_14 3 rfl) (by decide) ?_
      refine e_lald1 C (dk dL_law_14 4 rfl) ?_
      refine e_iload C 0 (dk dL_law_14 5 rfl) rfl ?_
      refine e_i2l C (dk dL_law_14 6 rfl) ?_
      refine e_lcmp C (dk dL_law_14 7 rfl) ?_
      refine e_if_eq C 1475 (dk dL_law_14 8 rfl) (by decide) (fun c9 => ?_) (fun c9 => ?_)
      · rw [if_pos c9] at h
        refine e_goto C 2477 (dk dL_law_14 11 rfl) (by decide) ?_
        refine e_iinc C [(4, .int (x4 + 6)), (6, .int q6.1), (5, .int q3.1), (0, .ref b), (1, .ref (g_N g + 0)), (2, .ref (g_N g + 67)), (3, .ref (g_N g + 106))] 6 6 (dk dL_law_24 52 rfl) rfl (by decide) (by decide) rfl ?_
        refine e_goto C 23 (dk dL_law_24 53 rfl) (by decide) ?_
        refine e_lv [3, 4, 5, 6, 0] rfl ?_
        exact hrec _ _ _ _ _ (by omega) (by omega) h
      · rw [if_neg c9] at h
        cases h
  · rw [if_neg c7] at h
    cases h
set_option maxRecDepth 20000 in
theorem j_law_23 {X : FX} {g : WC} {Xo : Nat → va_E} {b L : Nat} {xs : Nat → Int32} (C : Cx X g RL cL_law 7) (S : SC X g b L xs) {rec : Int32 → Mem → Option Mem} {q : Mem} {z0 k0 sl0 : Nat} (hk : k0 + 4 ≤ 601024) (hs : sl0 + 24 ≤ 7293033) (hrec : ∀ (z k sl : Nat) (x4 : Int32) (M : Mem), k ≤ k0 + 4 → sl ≤ sl0 + 24 → rec x4 M = some q → EW X g z 107 7 (ent g Xo KDf M) k sl 23 [(0, .ref b), (1, .ref (g_N g + 0)), (2, .ref (g_N g + 67)), (3, .ref (g_N g + 106)), (4, .int x4)] []) {x4 : Int32} {M : Mem} (h : J_law_23 L xs rec x4 M = some q) : EW X g z0 107 7 (ent g Xo KDf M) k0 sl0 1478 [(0, .ref b), (1, .ref (g_N g + 0)), (2, .ref (g_N g + 67)), (3, .ref (g_N g + 106)), (4, .int x4)] [] := by
  rw [J_law_23] at h
  refine e_aload_n C 1 (dk dL_law_14 12 rfl) rfl rfl ?_
  refine e_aload_n C 0 (dk dL_law_14 13 rfl) rfl rfl ?_
  refine e_iload C 4 (dk dL_law_14 14 rfl) rfl ?_
  refine e_iconst C 1 (dk dL_law_14 15 rfl) (by decide) ?_
  refine e_iadd C (dk dL_law_14 16 rfl) ?_
  obtain ⟨v1, hv1, h⟩ := ob h
  refine e_scl C S (dk dL_law_14 17 rfl) hv1 ?_
  refine e_aload_n C 3 (dk dL_law_14 18 rfl) rfl rfl ?_
  obtain ⟨q2, hq2, h⟩ := ob h
  refine e_lcall C cw_L_safe sm_L_safe ml_L_202 (lroomX S (by decide) (by decide)) (dk dL_law_14 19 rfl) (c_L_safe KDf_KD (t := 0) (o := 106) rfl LA106 hq2) (lcap S (by omega) (by omega)) (Nat.le_of_ble_eq_true rfl) rfl (fun z2 hz2 => ?_)
  refine e_istore C [(5, .int q2.1), (0, .ref b), (1, .ref (g_N g + 0)), (2, .ref (g_N g + 67)), (3, .ref (g_N g + 106)), (4, .int x4)] (dk dL_law_14 20 rfl) (by decide) rfl ?_
  refine e_aload_n C 3 (dk dL_law_14 21 rfl) rfl rfl ?_
  refine e_aload_n C 1 (dk dL_law_14 22 rfl) rfl rfl ?_
  refine e_iload C 5 (dk dL_law_14 23 rfl) rfl ?_
  refine e_iconst C 1 (dk dL_law_14 24 rfl) (by decide) ?_
  refine e_iadd C (dk dL_law_14 25 rfl) ?_
  obtain ⟨v3, hv3, h⟩ := ob h
  refine e_scl C S (dk dL_law_14 26 rfl) hv3 ?_
  obtain ⟨q4, hq4, h⟩ := ob h
  refine e_callV2 (ci := 12) C cal_X12_safe im_X12_safe se_X12_safe ml_L_204 rfl (lroom S (by decide) (by decide)) (dk dL_law_14 27 rfl) (by decide) (ent_o12 rfl) (c_X12_safe KDf_KD rfl hq4) (lcap S (by omega) (by omega)) (Nat.le_of_ble_eq_true rfl) rfl ?_
  refine e_istore C [(6, .int q4.1), (5, .int q2.1), (0, .ref b), (1, .ref (g_N g + 0)), (2, .ref (g_N g + 67)), (3, .ref (g_N g + 106)), (4, .int x4)] (dk dL_law_14 28 rfl) (by decide) rfl ?_
  refine e_aload_n C 4 (dk dL_law_14 29 rfl) rfl rfl ?_
  refine e_callV2 (ci := 12) C cal_X12_thrown im_X12_thrown se_X12_thrown ml_L_128 rfl (lroom S (by decide) (by decide)) (dk dL_law_14 30 rfl) (by decide) (ent_o12 rfl) (c_X12_thrown KDf_KD rfl (rfl : F_X12_thrown 67 q4.2 = _)) (lcap S (by omega) (by omega)) (Nat.le_of_ble_eq_true rfl) rfl ?_
  refine e_iload C 1 (dk dL_law_14 31 rfl) rfl ?_
  refine e_icmp_eq C 1514 (dk dL_law_14 32 rfl) (by decide) (fun c5 => ?_) (fun c5 => ?_)
  · rw [if_pos c5] at h
    refine e_iload C 1 (dk dL_law_14 35 rfl) rfl ?_
    refine e_if_ne C 1531 (dk dL_law_14 36 rfl) (by decide) (fun c6 => ?_) (fun c6 => ?_)
    · rw [if_neg c6] at h
      refine e_goto C 2477 (dk dL_law_14 46 rfl) (by decide) ?_
      refine e_iinc C [(4, .int (x4 + 6)), (6, .int q4.1), (5, .int q2.1), (0, .ref b), (1, .ref (g_N g + 0)), (2, .ref (g_N g + 67)), (3, .ref (g_N g + 106))] 6 6 (dk dL_law_24 52 rfl) rfl (by decide) (by decide) rfl ?_
      refine e_goto C 23 (dk dL_law_24 53 rfl) (by decide) ?_
      refine e_lv [3, 4, 5, 6, 0] rfl ?_
      exact hrec _ _ _ _ _ (by omega) (by omega) h
    · rw [if_pos c6] at h
      refine e_aload_n C 5 (dk dL_law_14 37 rfl) rfl rfl ?_
      refine e_iconst C 0 (dk dL_law_14 38 rfl) (by decide) ?_
      refine e_lald1 C (dk dL_law_14 39 rfl) ?_
      refine e_iload C 0 (dk dL_law_14 40 rfl) rfl ?_
      refine e_i2l C (dk dL_law_14 41 rfl) ?_
      refine e_lcmp C (dk dL_law_14 42 rfl) ?_
      refine e_if_eq C 1531 (dk dL_law_14 43 rfl) (by decide) (fun c7 => ?_) (fun c7 => ?_)
      · rw [if_pos c7] at h
        refine e_goto C 2477 (dk dL_law_14 46 rfl) (by decide) ?_
        refine e_iinc C [(4, .int (x4 + 6)), (6, .int q4.1), (5, .int q2.1), (0, .ref b), (1, .ref (g_N g + 0)), (2, .ref (g_N g + 67)), (3, .ref (g_N g + 106))] 6 6 (dk dL_law_24 52 rfl) rfl (by decide) (by decide) rfl ?_
        refine e_goto C 23 (dk dL_law_24 53 rfl) (by decide) ?_
        refine e_lv [3, 4, 5, 6, 0] rfl ?_
        exact hrec _ _ _ _ _ (by omega) (by omega) h
      · rw [if_neg c7] at h
        cases h
  · rw [if_neg c5] at h
    cases h
set_option maxRecDepth 20000 in
theorem j_law_24 {X : FX} {g : WC} {Xo : Nat → va_E} {b L : Nat} {xs : Nat → Int32} (C : Cx X g RL cL_law 7) (S : SC X g b L xs) {rec : Int32 → Mem → Option Mem} {q : Mem} {z0 k0 sl0 : Nat} (hk : k0 + 4 ≤ 601024) (hs : sl0 + 24 ≤ 7293033) (hrec : ∀ (z k sl : Nat) (x4 : Int32) (M : Mem), k ≤ k0 + 4 → sl ≤ sl0 + 24 → rec x4 M = some q → EW X g z 107 7 (ent g Xo KDf M) k sl 23 [(0, .ref b), (1, .ref (g_N g + 0)), (2, .ref (g_N g + 67)), (3, .ref (g_N g + 106)), (4, .int x4)] []) {x4 : Int32} {M : Mem} (h : J_law_24 L xs rec x4 M = some q) : EW X g z0 107 7 (ent g Xo KDf M) k0 sl0 1534 [(0, .ref b), (1, .ref (g_N g + 0)), (2, .ref (g_N g + 67)), (3, .ref (g_N g + 106)), (4, .int x4)] [] := by
  rw [J_law_24] at h
  refine e_aload_n C 1 (dk dL_law_14 47 rfl) rfl rfl ?_
  refine e_aload_n C 0 (dk dL_law_14 48 rfl) rfl rfl ?_
  refine e_iload C 4 (dk dL_law_14 49 rfl) rfl ?_
  refine e_iconst C 1 (dk dL_law_14 50 rfl) (by decide) ?_
  refine e_iadd C (dk dL_law_14 51 rfl) ?_
  obtain ⟨v1, hv1, h⟩ := ob h
  refine e_scl C S (dk dL_law_14 52 rfl) hv1 ?_
  refine e_aload_n C 3 (dk dL_law_14 53 rfl) rfl rfl ?_
  obtain ⟨q2, hq2, h⟩ := ob h
  refine e_lcall C cw_L_toHide sm_L_toHide ml_L_205 (lroomX S (by decide) (by decide)) (dk dL_law_14 54 rfl) (c_L_toHide KDf_KD (t := 0) (o := 106) rfl LA106 hq2) (lcap S (by omega) (by omega)) (Nat.le_of_ble_eq_true rfl) rfl (fun z2 hz2 => ?_)
  refine e_istore C [(5, .int q2.1), (0, .ref b), (1, .ref (g_N g + 0)), (2, .ref (g_N g + 67)), (3, .ref (g_N g + 106)), (4, .int x4)] (dk dL_law_14 55 rfl) (by decide) rfl ?_
  refine e_aload_n C 3 (dk dL_law_14 56 rfl) rfl rfl ?_
  refine e_aload_n C 1 (dk dL_law_14 57 rfl) rfl rfl ?_
  refine e_iload C 5 (dk dL_law_14 58 rfl) rfl ?_
  refine e_iconst C 1 (dk dL_law_14 59 rfl) (by decide) ?_
  refine e_iadd C (dk dL_law_15 0 rfl) ?_
  obtain ⟨v3, hv3, h⟩ := ob h
  refine e_scl C S (dk dL_law_15 1 rfl) hv3 ?_
  obtain ⟨q4, hq4, h⟩ := ob h
  refine e_callV2 (ci := 12) C cal_X12_toHide im_X12_toHide se_X12_toHide ml_L_207 rfl (lroom S (by decide) (by decide)) (dk dL_law_15 2 rfl) (by decide) (ent_o12 rfl) (c_X12_toHide KDf_KD rfl hq4) (lcap S (by omega) (by omega)) (Nat.le_of_ble_eq_true rfl) rfl ?_
  refine e_istore C [(6, .int q4.1), (5, .int q2.1), (0, .ref b), (1, .ref (g_N g + 0)), (2, .ref (g_N g + 67)), (3, .ref (g_N g + 106)), (4, .int x4)] (dk dL_law_15 3 rfl) (by decide) rfl ?_
  refine e_aload_n C 4 (dk dL_law_15 4 rfl) rfl rfl ?_
  refine e_callV2 (ci := 12) C cal_X12_thrown im_X12_thrown se_X12_thrown ml_L_128 rfl (lroom S (by decide) (by decide)) (dk dL_law_15 5 rfl) (by decide) (ent_o12 rfl) (c_X12_thrown KDf_KD rfl (rfl : F_X12_thrown 67 q4.2 = _)) (lcap S (by omega) (by omega)) (Nat.le_of_ble_eq_true rfl) rfl ?_
  refine e_iload C 1 (dk dL_law_15 6 rfl) rfl ?_
  refine e_icmp_eq C 1570 (dk dL_law_15 7 rfl) (by decide) (fun c5 => ?_) (fun c5 => ?_)
  · rw [if_pos c5] at h
    refine e_iload C 1 (dk dL_law_15 10 rfl) rfl ?_
    refine e_if_ne C 1587 (dk dL_law_15 11 rfl) (by decide) (fun c6 => ?_) (fun c6 => ?_)
    · rw [if_neg c6] at h
      refine e_goto C 2477 (dk dL_law_15 21 rfl) (by decide) ?_
      refine e_iinc C [(4, .int (x4 + 6)), (6, .int q4.1), (5, .int q2.1), (0, .ref b), (1, .ref (g_N g + 0)), (2, .ref (g_N g + 67)), (3, .ref (g_N g + 106))] 6 6 (dk dL_law_24 52 rfl) rfl (by decide) (by decide) rfl ?_
      refine e_goto C 23 (dk dL_law_24 53 rfl) (by decide) ?_
      refine e_lv [3, 4, 5, 6, 0] rfl ?_
      exact hrec _ _ _ _ _ (by omega) (by omega) h
    · rw [if_pos c6] at h
      refine e_aload_n C 5 (dk dL_law_15 12 rfl) rfl rfl ?_
      refine e_iconst C 0 (dk dL_law_15 13 rfl) (by decide) ?_
      refine e_lald1 C (dk dL_law_15 14 rfl) ?_
      refine e_iload C 0 (dk dL_law_15 15 rfl) rfl ?_
      refine e_i2l C (dk dL_law_15 16 rfl) ?_
      refine e_lcmp C (dk dL_law_15 17 rfl) ?_
      refine e_if_eq C 1587 (dk dL_law_15 18 rfl) (by decide) (fun c7 => ?_) (fun c7 => ?_)
      · rw [if_pos c7] at h
        refine e_goto C 2477 (dk dL_law_15 21 rfl) (by decide) ?_
        refine e_iinc C [(4, .int (x4 + 6)), (6, .int q4.1), (5, .int q2.1), (0, .ref b), (1, .ref (g_N g + 0)), (2, .ref (g_N g + 67)), (3, .ref (g_N g + 106))] 6 6 (dk dL_law_24 52 rfl) rfl (by decide) (by decide) rfl ?_
        refine e_goto C 23 (dk dL_law_24 53 rfl) (by decide) ?_
        refine e_lv [3, 4, 5, 6, 0] rfl ?_
        exact hrec _ _ _ _ _ (by omega) (by omega) h
      · rw [if_neg c7] at h
        cases h
  · rw [if_neg c5] at h
    cases h
set_option maxRecDepth 20000 in
theorem j_law_25 {X : FX} {g : WC} {Xo : Nat → va_E} {b L : Nat} {xs : Nat → Int32} (C : Cx X g RL cL_law 7) (S : SC X g b L xs) {rec : Int32 → Mem → Option Mem} {q : Mem} {z0 k0 sl0 : Nat} (hk : k0 + 4 ≤ 601024) (hs : sl0 + 24 ≤ 7293033) (hrec : ∀ (z k sl : Nat) (x4 : Int32) (M : Mem), k ≤ k0 + 4 → sl ≤ sl0 + 24 → rec x4 M = some q → EW X g z 107 7 (ent g Xo KDf M) k sl 23 [(0, .ref b), (1, .ref (g_N g + 0)), (2, .ref (g_N g + 67)), (3, .ref (g_N g + 106)), (4, .int x4)] []) {x4 : Int32} {M : Mem} (h : J_law_25 L xs rec x4 M = some q) : EW X g z0 107 7 (ent g Xo KDf M) k0 sl0 1590 [(0, .ref b), (1, .ref (g_N g + 0)), (2, .ref (g_N g + 67)), (3, .ref (g_N g + 106)), (4, .int x4)] [] := by
  rw [J_law_25] at h
  refine e_aload_n C 1 (dk dL_law_15 22 rfl) rfl rfl ?_
  refine e_aload_n C 0 (dk dL_law_15 23 rfl) rfl rfl ?_
  refine e_iload C 4 (dk dL_law_15 24 rfl) rfl ?_
  refine e_iconst C 1 (dk dL_law_15 25 rfl) (by decide) ?_
  refine e_iadd C (dk dL_law_15 26 rfl) ?_
  obtain ⟨v1, hv1, h⟩ := ob h
  refine e_scl C S (dk dL_law_15 27 rfl) hv1 ?_
  refine e_aload_n C 0 (dk dL_law_15 28 rfl) rfl rfl ?_
  refine e_iload C 4 (dk dL_law_15 29 rfl) rfl ?_
  refine e_iconst C 2 (dk dL_law_15 30 rfl) (by decide) ?_
  refine e_iadd C (dk dL_law_15 31 rfl) ?_
  obtain ⟨v2, hv2, h⟩ := ob h
  refine e_scl C S (dk dL_law_15 32 rfl) hv2 ?_
  refine e_aload_n C 3 (dk dL_law_15 33 rfl) rfl rfl ?_
  obtain ⟨q3, hq3, h⟩ := ob h
  refine e_lcall C cw_L_toWin sm_L_toWin ml_L_208 (lroomX S (by decide) (by decide)) (dk dL_law_15 34 rfl) (c_L_toWin KDf_KD (t := 0) (o := 106) rfl LA106 hq3) (lcap S (by omega) (by omega)) (Nat.le_of_ble_eq_true rfl) rfl (fun z2 hz2 => ?_)
  refine e_istore C [(5, .int q3.1), (0, .ref b), (1, .ref (g_N g + 0)), (2, .ref (g_N g + 67)), (3, .ref (g_N g + 106)), (4, .int x4)] (dk dL_law_15 35 rfl) (by decide) rfl ?_
  refine e_aload_n C 3 (dk dL_law_15 36 rfl) rfl rfl ?_
  refine e_aload_n C 1 (dk dL_law_15 37 rfl) rfl rfl ?_
  refine e_iload C 5 (dk dL_law_15 38 rfl) rfl ?_
  refine e_iconst C 1 (dk dL_law_15 39 rfl) (by decide) ?_
  refine e_iadd C (dk dL_law_15 40 rfl) ?_
  obtain ⟨v4, hv4, h⟩ := ob h
  refine e_scl C S (dk dL_law_15 41 rfl) hv4 ?_
  refine e_aload_n C 1 (dk dL_law_15 42 rfl) rfl rfl ?_
  refine e_iload C 5 (dk dL_law_15 43 rfl) rfl ?_
  refine e_iconst C 2 (dk dL_law_15 44 rfl) (by decide) ?_
  refine e_iadd C (dk dL_law_15 45 rfl) ?_
  obtain ⟨v5, hv5, h⟩ := ob h
  refine e_scl C S (dk dL_law_15 46 rfl) hv5 ?_
  obtain ⟨q6, hq6, h⟩ := ob h
  refine e_callV2 (ci := 12) C cal_X12_toWin im_X12_toWin se_X12_toWin ml_L_210 rfl (lroom S (by decide) (by decide)) (dk dL_law_15 47 rfl) (by decide) (ent_o12 rfl) (c_X12_toWin KDf_KD rfl hq6) (lcap S (by omega) (by omega)) (Nat.le_of_ble_eq_true rfl) rfl ?_
  refine e_istore C [(6, .int q6.1), (5, .int q3.1), (0, .ref b), (1, .ref (g_N g + 0)), (2, .ref (g_N g + 67)), (3, .ref (g_N g + 106)), (4, .int x4)] (dk dL_law_15 48 rfl) (by decide) rfl ?_
  refine e_aload_n C 4 (dk dL_law_15 49 rfl) rfl rfl ?_
  refine e_callV2 (ci := 12) C cal_X12_thrown im_X12_thrown se_X12_thrown ml_L_128 rfl (lroom S (by decide) (by decide)) (dk dL_law_15 50 rfl) (by decide) (ent_o12 rfl) (c_X12_thrown KDf_KD rfl (rfl : F_X12_thrown 67 q6.2 = _)) (lcap S (by omega) (by omega)) (Nat.le_of_ble_eq_true rfl) rfl ?_
  refine e_iload C 1 (dk dL_law_15 51 rfl) rfl ?_
  refine e_icmp_eq C 1638 (dk dL_law_15 52 rfl) (by decide) (fun c7 => ?_) (fun c7 => ?_)
  · rw [if_pos c7] at h
    refine e_iload C 1 (dk dL_law_15 55 rfl) rfl ?_
    refine e_if_ne C 1655 (dk dL_law_15 56 rfl) (by decide) (fun c8 => ?_) (fun c8 => ?_)
    · rw [if_neg c8] at h
      refine e_goto C 2477 (dk dL_law_16 6 rfl) (by decide) ?_
      refine e_iinc C [(4, .int (x4 + 6)), (6, .int q6.1), (5, .int q3.1), (0, .ref b), (1, .ref (g_N g + 0)), (2, .ref (g_N g + 67)), (3, .ref (g_N g + 106))] 6 6 (dk dL_law_24 52 rfl) rfl (by decide) (by decide) rfl ?_
      refine e_goto C 23 (dk dL_law_24 53 rfl) (by decide) ?_
      refine e_lv [3, 4, 5, 6, 0] rfl ?_
      exact hrec _ _ _ _ _ (by omega) (by omega) h
    · rw [if_pos c8] at h
      refine e_aload_n C 5 (dk dL_law_15 57 rfl) rfl rfl ?_
      refine e_iconst C 0 (dk dL_law_15 58 rfl) (by decide) ?_
      refine e_lald1 C (dk dL_law_15 59 rfl) ?_
      refine e_iload C 0 (dk dL_law_16 0 rfl) rfl ?_
      refine e_i2l C (dk dL_law_16 1 rfl) ?_
      refine e_lcmp C (dk dL_law_16 2 rfl) ?_
      refine e_if_eq C 1655 (dk dL_law_16 3 rfl) (by decide) (fun c9 => ?_) (fun c9 => ?_)
      · rw [if_pos c9] at h
        refine e_goto C 2477 (dk dL_law_16 6 rfl) (by decide) ?_
        refine e_iinc C [(4, .int (x4 + 6)), (6, .int q6.1), (5, .int q3.1), (0, .ref b), (1, .ref (g_N g + 0)), (2, .ref (g_N g + 67)), (3, .ref (g_N g + 106))] 6 6 (dk dL_law_24 52 rfl) rfl (by decide) (by decide) rfl ?_
        refine e_goto C 23 (dk dL_law_24 53 rfl) (by decide) ?_
        refine e_lv [3, 4, 5, 6, 0] rfl ?_
        exact hrec _ _ _ _ _ (by omega) (by omega) h
      · rw [if_neg c9] at h
        cases h
  · rw [if_neg c7] at h
    cases h
set_option maxRecDepth 20000 in
theorem j_law_26 {X : FX} {g : WC} {Xo : Nat → va_E} {b L : Nat} {xs : Nat → Int32} (C : Cx X g RL cL_law 7) (S : SC X g b L xs) {rec : Int32 → Mem → Option Mem} {q : Mem} {z0 k0 sl0 : Nat} (hk : k0 + 4 ≤ 601024) (hs : sl0 + 24 ≤ 7293033) (hrec : ∀ (z k sl : Nat) (x4 : Int32) (M : Mem), k ≤ k0 + 4 → sl ≤ sl0 + 24 → rec x4 M = some q → EW X g z 107 7 (ent g Xo KDf M) k sl 23 [(0, .ref b), (1, .ref (g_N g + 0)), (2, .ref (g_N g + 67)), (3, .ref (g_N g + 106)), (4, .int x4)] []) {x4 : Int32} {M : Mem} (h : J_law_26 L xs rec x4 M = some q) : EW X g z0 107 7 (ent g Xo KDf M) k0 sl0 1658 [(0, .ref b), (1, .ref (g_N g + 0)), (2, .ref (g_N g + 67)), (3, .ref (g_N g + 106)), (4, .int x4)] [] := by
  rw [J_law_26] at h
  refine e_aload_n C 1 (dk dL_law_16 7 rfl) rfl rfl ?_
  refine e_aload_n C 0 (dk dL_law_16 8 rfl) rfl rfl ?_
  refine e_iload C 4 (dk dL_law_16 9 rfl) rfl ?_
  refine e_iconst C 1 (dk dL_law_16 10 rfl) (by decide) ?_
  refine e_iadd C (dk dL_law_16 11 rfl) ?_
  obtain ⟨v1, hv1, h⟩ := ob h
  refine e_scl C S (dk dL_law_16 12 rfl) hv1 ?_
  refine e_aload_n C 3 (dk dL_law_16 13 rfl) rfl rfl ?_
  obtain ⟨q2, hq2, h⟩ := ob h
  refine e_lcall C cw_L_given sm_L_given ml_L_211 (lroomX S (by decide) (by decide)) (dk dL_law_16 14 rfl) (c_L_given KDf_KD (t := 0) (o := 106) rfl LA106 hq2) (lcap S (by omega) (by omega)) (Nat.le_of_ble_eq_true rfl) rfl (fun z2 hz2 => ?_)
  refine e_istore C [(5, .int q2.1), (0, .ref b), (1, .ref (g_N g + 0)), (2, .ref (g_N g + 67)), (3, .ref (g_N g + 106)), (4, .int x4)] (dk dL_law_16 15 rfl) (by decide) rfl ?_
  refine e_aload_n C 3 (dk dL_law_16 16 rfl) rfl rfl ?_
  refine e_aload_n C 1 (dk dL_law_16 17 rfl) rfl rfl ?_
  refine e_iload C 5 (dk dL_law_16 18 rfl) rfl ?_
  refine e_iconst C 1 (dk dL_law_16 19 rfl) (by decide) ?_
  refine e_iadd C (dk dL_law_16 20 rfl) ?_
  obtain ⟨v3, hv3, h⟩ := ob h
  refine e_scl C S (dk dL_law_16 21 rfl) hv3 ?_
  obtain ⟨q4, hq4, h⟩ := ob h
  refine e_callV2 (ci := 12) C cal_X12_given im_X12_given se_X12_given ml_L_213 rfl (lroom S (by decide) (by decide)) (dk dL_law_16 22 rfl) (by decide) (ent_o12 rfl) (c_X12_given KDf_KD rfl hq4) (lcap S (by omega) (by omega)) (Nat.le_of_ble_eq_true rfl) rfl ?_
  refine e_istore C [(6, .int q4.1), (5, .int q2.1), (0, .ref b), (1, .ref (g_N g + 0)), (2, .ref (g_N g + 67)), (3, .ref (g_N g + 106)), (4, .int x4)] (dk dL_law_16 23 rfl) (by decide) rfl ?_
  refine e_aload_n C 4 (dk dL_law_16 24 rfl) rfl rfl ?_
  refine e_callV2 (ci := 12) C cal_X12_thrown im_X12_thrown se_X12_thrown ml_L_128 rfl (lroom S (by decide) (by decide)) (dk dL_law_16 25 rfl) (by decide) (ent_o12 rfl) (c_X12_thrown KDf_KD rfl (rfl : F_X12_thrown 67 q4.2 = _)) (lcap S (by omega) (by omega)) (Nat.le_of_ble_eq_true rfl) rfl ?_
  refine e_iload C 1 (dk dL_law_16 26 rfl) rfl ?_
  refine e_icmp_eq C 1694 (dk dL_law_16 27 rfl) (by decide) (fun c5 => ?_) (fun c5 => ?_)
  · rw [if_pos c5] at h
    refine e_iload C 1 (dk dL_law_16 30 rfl) rfl ?_
    refine e_if_ne C 1711 (dk dL_law_16 31 rfl) (by decide) (fun c6 => ?_) (fun c6 => ?_)
    · rw [if_neg c6] at h
      refine e_goto C 2477 (dk dL_law_16 41 rfl) (by decide) ?_
      refine e_iinc C [(4, .int (x4 + 6)), (6, .int q4.1), (5, .int q2.1), (0, .ref b), (1, .ref (g_N g + 0)), (2, .ref (g_N g + 67)), (3, .ref (g_N g + 106))] 6 6 (dk dL_law_24 52 rfl) rfl (by decide) (by decide) rfl ?_
      refine e_goto C 23 (dk dL_law_24 53 rfl) (by decide) ?_
      refine e_lv [3, 4, 5, 6, 0] rfl ?_
      exact hrec _ _ _ _ _ (by omega) (by omega) h
    · rw [if_pos c6] at h
      refine e_aload_n C 5 (dk dL_law_16 32 rfl) rfl rfl ?_
      refine e_iconst C 0 (dk dL_law_16 33 rfl) (by decide) ?_
      refine e_lald1 C (dk dL_law_16 34 rfl) ?_
      refine e_iload C 0 (dk dL_law_16 35 rfl) rfl ?_
      refine e_i2l C (dk dL_law_16 36 rfl) ?_
      refine e_lcmp C (dk dL_law_16 37 rfl) ?_
      refine e_if_eq C 1711 (dk dL_law_16 38 rfl) (by decide) (fun c7 => ?_) (fun c7 => ?_)
      · rw [if_pos c7] at h
        refine e_goto C 2477 (dk dL_law_16 41 rfl) (by decide) ?_
        refine e_iinc C [(4, .int (x4 + 6)), (6, .int q4.1), (5, .int q2.1), (0, .ref b), (1, .ref (g_N g + 0)), (2, .ref (g_N g + 67)), (3, .ref (g_N g + 106))] 6 6 (dk dL_law_24 52 rfl) rfl (by decide) (by decide) rfl ?_
        refine e_goto C 23 (dk dL_law_24 53 rfl) (by decide) ?_
        refine e_lv [3, 4, 5, 6, 0] rfl ?_
        exact hrec _ _ _ _ _ (by omega) (by omega) h
      · rw [if_neg c7] at h
        cases h
  · rw [if_neg c5] at h
    cases h
set_option maxRecDepth 20000 in
theorem j_law_27 {X : FX} {g : WC} {Xo : Nat → va_E} {b L : Nat} {xs : Nat → Int32} (C : Cx X g RL cL_law 7) (S : SC X g b L xs) {rec : Int32 → Mem → Option Mem} {q : Mem} {z0 k0 sl0 : Nat} (hk : k0 + 4 ≤ 601024) (hs : sl0 + 24 ≤ 7293033) (hrec : ∀ (z k sl : Nat) (x4 : Int32) (M : Mem), k ≤ k0 + 4 → sl ≤ sl0 + 24 → rec x4 M = some q → EW X g z 107 7 (ent g Xo KDf M) k sl 23 [(0, .ref b), (1, .ref (g_N g + 0)), (2, .ref (g_N g + 67)), (3, .ref (g_N g + 106)), (4, .int x4)] []) {x4 : Int32} {M : Mem} (h : J_law_27 L xs rec x4 M = some q) : EW X g z0 107 7 (ent g Xo KDf M) k0 sl0 1714 [(0, .ref b), (1, .ref (g_N g + 0)), (2, .ref (g_N g + 67)), (3, .ref (g_N g + 106)), (4, .int x4)] [] := by
  rw [J_law_27] at h
  refine e_aload_n C 1 (dk dL_law_16 42 rfl) rfl rfl ?_
  refine e_aload_n C 0 (dk dL_law_16 43 rfl) rfl rfl ?_
  refine e_iload C 4 (dk dL_law_16 44 rfl) rfl ?_
  refine e_iconst C 1 (dk dL_law_16 45 rfl) (by decide) ?_
  refine e_iadd C (dk dL_law_16 46 rfl) ?_
  obtain ⟨v1, hv1, h⟩ := ob h
  refine e_scl C S (dk dL_law_16 47 rfl) hv1 ?_
  refine e_aload_n C 3 (dk dL_law_16 48 rfl) rfl rfl ?_
  obtain ⟨q2, hq2, h⟩ := ob h
  refine e_lcall C cw_L_gossip sm_L_gossip ml_L_214 (lroomX S (by decide) (by decide)) (dk dL_law_16 49 rfl) (c_L_gossip KDf_KD (t := 0) (o := 106) rfl LA106 hq2) (lcap S (by omega) (by omega)) (Nat.le_of_ble_eq_true rfl) rfl (fun z2 hz2 => ?_)
  refine e_istore C [(5, .int q2.1), (0, .ref b), (1, .ref (g_N g + 0)), (2, .ref (g_N g + 67)), (3, .ref (g_N g + 106)), (4, .int x4)] (dk dL_law_16 50 rfl) (by decide) rfl ?_
  refine e_aload_n C 3 (dk dL_law_16 51 rfl) rfl rfl ?_
  refine e_aload_n C 1 (dk dL_law_16 52 rfl) rfl rfl ?_
  refine e_iload C 5 (dk dL_law_16 53 rfl) rfl ?_
  refine e_iconst C 1 (dk dL_law_16 54 rfl) (by decide) ?_
  refine e_iadd C (dk dL_law_16 55 rfl) ?_
  obtain ⟨v3, hv3, h⟩ := ob h
  refine e_scl C S (dk dL_law_16 56 rfl) hv3 ?_
  obtain ⟨q4, hq4, h⟩ := ob h
  refine e_callV2 (ci := 12) C cal_X12_gossip im_X12_gossip se_X12_gossip ml_L_216 rfl (lroom S (by decide) (by decide)) (dk dL_law_16 57 rfl) (by decide) (ent_o12 rfl) (c_X12_gossip KDf_KD rfl hq4) (lcap S (by omega) (by omega)) (Nat.le_of_ble_eq_true rfl) rfl ?_
  refine e_istore C [(6, .int q4.1), (5, .int q2.1), (0, .ref b), (1, .ref (g_N g + 0)), (2, .ref (g_N g + 67)), (3, .ref (g_N g + 106)), (4, .int x4)] (dk dL_law_16 58 rfl) (by decide) rfl ?_
  refine e_aload_n C 4 (dk dL_law_16 59 rfl) rfl rfl ?_
  refine e_callV2 (ci := 12) C cal_X12_thrown im_X12_thrown se_X12_thrown ml_L_128 rfl (lroom S (by decide) (by decide)) (dk dL_law_17 0 rfl) (by decide) (ent_o12 rfl) (c_X12_thrown KDf_KD rfl (rfl : F_X12_thrown 67 q4.2 = _)) (lcap S (by omega) (by omega)) (Nat.le_of_ble_eq_true rfl) rfl ?_
  refine e_iload C 1 (dk dL_law_17 1 rfl) rfl ?_
  refine e_icmp_eq C 1750 (dk dL_law_17 2 rfl) (by decide) (fun c5 => ?_) (fun c5 => ?_)
  · rw [if_pos c5] at h
    refine e_iload C 1 (dk dL_law_17 5 rfl) rfl ?_
    refine e_if_ne C 1767 (dk dL_law_17 6 rfl) (by decide) (fun c6 => ?_) (fun c6 => ?_)
    · rw [if_neg c6] at h
      refine e_goto C 2477 (dk dL_law_17 16 rfl) (by decide) ?_
      refine e_iinc C [(4, .int (x4 + 6)), (6, .int q4.1), (5, .int q2.1), (0, .ref b), (1, .ref (g_N g + 0)), (2, .ref (g_N g + 67)), (3, .ref (g_N g + 106))] 6 6 (dk dL_law_24 52 rfl) rfl (by decide) (by decide) rfl ?_
      refine e_goto C 23 (dk dL_law_24 53 rfl) (by decide) ?_
      refine e_lv [3, 4, 5, 6, 0] rfl ?_
      exact hrec _ _ _ _ _ (by omega) (by omega) h
    · rw [if_pos c6] at h
      refine e_aload_n C 5 (dk dL_law_17 7 rfl) rfl rfl ?_
      refine e_iconst C 0 (dk dL_law_17 8 rfl) (by decide) ?_
      refine e_lald1 C (dk dL_law_17 9 rfl) ?_
      refine e_iload C 0 (dk dL_law_17 10 rfl) rfl ?_
      refine e_i2l C (dk dL_law_17 11 rfl) ?_
      refine e_lcmp C (dk dL_law_17 12 rfl) ?_
      refine e_if_eq C 1767 (dk dL_law_17 13 rfl) (by decide) (fun c7 => ?_) (fun c7 => ?_)
      · rw [if_pos c7] at h
        refine e_goto C 2477 (dk dL_law_17 16 rfl) (by decide) ?_
        refine e_iinc C [(4, .int (x4 + 6)), (6, .int q4.1), (5, .int q2.1), (0, .ref b), (1, .ref (g_N g + 0)), (2, .ref (g_N g + 67)), (3, .ref (g_N g + 106))] 6 6 (dk dL_law_24 52 rfl) rfl (by decide) (by decide) rfl ?_
        refine e_goto C 23 (dk dL_law_24 53 rfl) (by decide) ?_
        refine e_lv [3, 4, 5, 6, 0] rfl ?_
        exact hrec _ _ _ _ _ (by omega) (by omega) h
      · rw [if_neg c7] at h
        cases h
  · rw [if_neg c5] at h
    cases h
set_option maxRecDepth 20000 in
theorem j_law_28 {X : FX} {g : WC} {Xo : Nat → va_E} {b L : Nat} {xs : Nat → Int32} (C : Cx X g RL cL_law 7) (S : SC X g b L xs) {rec : Int32 → Mem → Option Mem} {q : Mem} {z0 k0 sl0 : Nat} (hk : k0 + 4 ≤ 601024) (hs : sl0 + 24 ≤ 7293033) (hrec : ∀ (z k sl : Nat) (x4 : Int32) (M : Mem), k ≤ k0 + 4 → sl ≤ sl0 + 24 → rec x4 M = some q → EW X g z 107 7 (ent g Xo KDf M) k sl 23 [(0, .ref b), (1, .ref (g_N g + 0)), (2, .ref (g_N g + 67)), (3, .ref (g_N g + 106)), (4, .int x4)] []) {x4 : Int32} {M : Mem} (h : J_law_28 L xs rec x4 M = some q) : EW X g z0 107 7 (ent g Xo KDf M) k0 sl0 1770 [(0, .ref b), (1, .ref (g_N g + 0)), (2, .ref (g_N g + 67)), (3, .ref (g_N g + 106)), (4, .int x4)] [] := by
  rw [J_law_28] at h
  refine e_aload_n C 1 (dk dL_law_17 17 rfl) rfl rfl ?_
  refine e_aload_n C 0 (dk dL_law_17 18 rfl) rfl rfl ?_
  refine e_iload C 4 (dk dL_law_17 19 rfl) rfl ?_
  refine e_iconst C 1 (dk dL_law_17 20 rfl) (by decide) ?_
  refine e_iadd C (dk dL_law_17 21 rfl) ?_
  obtain ⟨v1, hv1, h⟩ := ob h
  refine e_scl C S (dk dL_law_17 22 rfl) hv1 ?_
  refine e_aload_n C 3 (dk dL_law_17 23 rfl) rfl rfl ?_
  obtain ⟨q2, hq2, h⟩ := ob h
  refine e_lcall C cw_L_most sm_L_most ml_L_217 (lroomX S (by decide) (by decide)) (dk dL_law_17 24 rfl) (c_L_most KDf_KD (t := 0) (o := 106) rfl LA106 hq2) (lcap S (by omega) (by omega)) (Nat.le_of_ble_eq_true rfl) rfl (fun z2 hz2 => ?_)
  refine e_istore C [(5, .int q2.1), (0, .ref b), (1, .ref (g_N g + 0)), (2, .ref (g_N g + 67)), (3, .ref (g_N g + 106)), (4, .int x4)] (dk dL_law_17 25 rfl) (by decide) rfl ?_
  refine e_aload_n C 3 (dk dL_law_17 26 rfl) rfl rfl ?_
  refine e_aload_n C 1 (dk dL_law_17 27 rfl) rfl rfl ?_
  refine e_iload C 5 (dk dL_law_17 28 rfl) rfl ?_
  refine e_iconst C 1 (dk dL_law_17 29 rfl) (by decide) ?_
  refine e_iadd C (dk dL_law_17 30 rfl) ?_
  obtain ⟨v3, hv3, h⟩ := ob h
  refine e_scl C S (dk dL_law_17 31 rfl) hv3 ?_
  obtain ⟨q4, hq4, h⟩ := ob h
  refine e_callV2 (ci := 12) C cal_X12_most im_X12_most se_X12_most ml_L_219 rfl (lroom S (by decide) (by decide)) (dk dL_law_17 32 rfl) (by decide) (ent_o12 rfl) (c_X12_most KDf_KD rfl hq4) (lcap S (by omega) (by omega)) (Nat.le_of_ble_eq_true rfl) rfl ?_
  refine e_istore C [(6, .int q4.1), (5, .int q2.1), (0, .ref b), (1, .ref (g_N g + 0)), (2, .ref (g_N g + 67)), (3, .ref (g_N g + 106)), (4, .int x4)] (dk dL_law_17 33 rfl) (by decide) rfl ?_
  refine e_aload_n C 4 (dk dL_law_17 34 rfl) rfl rfl ?_
  refine e_callV2 (ci := 12) C cal_X12_thrown im_X12_thrown se_X12_thrown ml_L_128 rfl (lroom S (by decide) (by decide)) (dk dL_law_17 35 rfl) (by decide) (ent_o12 rfl) (c_X12_thrown KDf_KD rfl (rfl : F_X12_thrown 67 q4.2 = _)) (lcap S (by omega) (by omega)) (Nat.le_of_ble_eq_true rfl) rfl ?_
  refine e_iload C 1 (dk dL_law_17 36 rfl) rfl ?_
  refine e_icmp_eq C 1806 (dk dL_law_17 37 rfl) (by decide) (fun c5 => ?_) (fun c5 => ?_)
  · rw [if_pos c5] at h
    refine e_iload C 1 (dk dL_law_17 40 rfl) rfl ?_
    refine e_if_ne C 1823 (dk dL_law_17 41 rfl) (by decide) (fun c6 => ?_) (fun c6 => ?_)
    · rw [if_neg c6] at h
      refine e_goto C 2477 (dk dL_law_17 51 rfl) (by decide) ?_
      refine e_iinc C [(4, .int (x4 + 6)), (6, .int q4.1), (5, .int q2.1), (0, .ref b), (1, .ref (g_N g + 0)), (2, .ref (g_N g + 67)), (3, .ref (g_N g + 106))] 6 6 (dk dL_law_24 52 rfl) rfl (by decide) (by decide) rfl ?_
      refine e_goto C 23 (dk dL_law_24 53 rfl) (by decide) ?_
      refine e_lv [3, 4, 5, 6, 0] rfl ?_
      exact hrec _ _ _ _ _ (by omega) (by omega) h
    · rw [if_pos c6] at h
      refine e_aload_n C 5 (dk dL_law_17 42 rfl) rfl rfl ?_
      refine e_iconst C 0 (dk dL_law_17 43 rfl) (by decide) ?_
      refine e_lald1 C (dk dL_law_17 44 rfl) ?_
      refine e_iload C 0 (dk dL_law_17 45 rfl) rfl ?_
      refine e_i2l C (dk dL_law_17 46 rfl) ?_
      refine e_lcmp C (dk dL_law_17 47 rfl) ?_
      refine e_if_eq C 1823 (dk dL_law_17 48 rfl) (by decide) (fun c7 => ?_) (fun c7 => ?_)
      · rw [if_pos c7] at h
        refine e_goto C 2477 (dk dL_law_17 51 rfl) (by decide) ?_
        refine e_iinc C [(4, .int (x4 + 6)), (6, .int q4.1), (5, .int q2.1), (0, .ref b), (1, .ref (g_N g + 0)), (2, .ref (g_N g + 67)), (3, .ref (g_N g + 106))] 6 6 (dk dL_law_24 52 rfl) rfl (by decide) (by decide) rfl ?_
        refine e_goto C 23 (dk dL_law_24 53 rfl) (by decide) ?_
        refine e_lv [3, 4, 5, 6, 0] rfl ?_
        exact hrec _ _ _ _ _ (by omega) (by omega) h
      · rw [if_neg c7] at h
        cases h
  · rw [if_neg c5] at h
    cases h
set_option maxRecDepth 20000 in
theorem j_law_29 {X : FX} {g : WC} {Xo : Nat → va_E} {b L : Nat} {xs : Nat → Int32} (C : Cx X g RL cL_law 7) (S : SC X g b L xs) {rec : Int32 → Mem → Option Mem} {q : Mem} {z0 k0 sl0 : Nat} (hk : k0 + 4 ≤ 601024) (hs : sl0 + 24 ≤ 7293033) (hrec : ∀ (z k sl : Nat) (x4 : Int32) (M : Mem), k ≤ k0 + 4 → sl ≤ sl0 + 24 → rec x4 M = some q → EW X g z 107 7 (ent g Xo KDf M) k sl 23 [(0, .ref b), (1, .ref (g_N g + 0)), (2, .ref (g_N g + 67)), (3, .ref (g_N g + 106)), (4, .int x4)] []) {x4 : Int32} {M : Mem} (h : J_law_29 L xs rec x4 M = some q) : EW X g z0 107 7 (ent g Xo KDf M) k0 sl0 1826 [(0, .ref b), (1, .ref (g_N g + 0)), (2, .ref (g_N g + 67)), (3, .ref (g_N g + 106)), (4, .int x4)] [] := by
  rw [J_law_29] at h
  refine e_aload_n C 1 (dk dL_law_17 52 rfl) rfl rfl ?_
  refine e_aload_n C 0 (dk dL_law_17 53 rfl) rfl rfl ?_
  refine e_iload C 4 (dk dL_law_17 54 rfl) rfl ?_
  refine e_iconst C 1 (dk dL_law_17 55 rfl) (by decide) ?_
  refine e_iadd C (dk dL_law_17 56 rfl) ?_
  obtain ⟨v1, hv1, h⟩ := ob h
  refine e_scl C S (dk dL_law_17 57 rfl) hv1 ?_
  refine e_aload_n C 3 (dk dL_law_17 58 rfl) rfl rfl ?_
  obtain ⟨q2, hq2, h⟩ := ob h
  refine e_lcall C cw_L_lantern sm_L_lantern ml_L_220 (lroomX S (by decide) (by decide)) (dk dL_law_17 59 rfl) (c_L_lantern KDf_KD (t := 0) (o := 106) rfl LA106 hq2) (lcap S (by omega) (by omega)) (Nat.le_of_ble_eq_true rfl) rfl (fun z2 hz2 => ?_)
  refine e_istore C [(5, .int q2.1), (0, .ref b), (1, .ref (g_N g + 0)), (2, .ref (g_N g + 67)), (3, .ref (g_N g + 106)), (4, .int x4)] (dk dL_law_18 0 rfl) (by decide) rfl ?_
  refine e_aload_n C 3 (dk dL_law_18 1 rfl) rfl rfl ?_
  refine e_aload_n C 1 (dk dL_law_18 2 rfl) rfl rfl ?_
  refine e_iload C 5 (dk dL_law_18 3 rfl) rfl ?_
  refine e_iconst C 1 (dk dL_law_18 4 rfl) (by decide) ?_
  refine e_iadd C (dk dL_law_18 5 rfl) ?_
  obtain ⟨v3, hv3, h⟩ := ob h
  refine e_scl C S (dk dL_law_18 6 rfl) hv3 ?_
  obtain ⟨q4, hq4, h⟩ := ob h
  refine e_callV2 (ci := 12) C cal_X12_lantern im_X12_lantern se_X12_lantern ml_L_222 rfl (lroom S (by decide) (by decide)) (dk dL_law_18 7 rfl) (by decide) (ent_o12 rfl) (c_X12_lantern KDf_KD rfl hq4) (lcap S (by omega) (by omega)) (Nat.le_of_ble_eq_true rfl) rfl ?_
  refine e_istore C [(6, .int q4.1), (5, .int q2.1), (0, .ref b), (1, .ref (g_N g + 0)), (2, .ref (g_N g + 67)), (3, .ref (g_N g + 106)), (4, .int x4)] (dk dL_law_18 8 rfl) (by decide) rfl ?_
  refine e_aload_n C 4 (dk dL_law_18 9 rfl) rfl rfl ?_
  refine e_callV2 (ci := 12) C cal_X12_thrown im_X12_thrown se_X12_thrown ml_L_128 rfl (lroom S (by decide) (by decide)) (dk dL_law_18 10 rfl) (by decide) (ent_o12 rfl) (c_X12_thrown KDf_KD rfl (rfl : F_X12_thrown 67 q4.2 = _)) (lcap S (by omega) (by omega)) (Nat.le_of_ble_eq_true rfl) rfl ?_
  refine e_iload C 1 (dk dL_law_18 11 rfl) rfl ?_
  refine e_icmp_eq C 1862 (dk dL_law_18 12 rfl) (by decide) (fun c5 => ?_) (fun c5 => ?_)
  · rw [if_pos c5] at h
    refine e_iload C 1 (dk dL_law_18 15 rfl) rfl ?_
    refine e_if_ne C 1879 (dk dL_law_18 16 rfl) (by decide) (fun c6 => ?_) (fun c6 => ?_)
    · rw [if_neg c6] at h
      refine e_goto C 2477 (dk dL_law_18 26 rfl) (by decide) ?_
      refine e_iinc C [(4, .int (x4 + 6)), (6, .int q4.1), (5, .int q2.1), (0, .ref b), (1, .ref (g_N g + 0)), (2, .ref (g_N g + 67)), (3, .ref (g_N g + 106))] 6 6 (dk dL_law_24 52 rfl) rfl (by decide) (by decide) rfl ?_
      refine e_goto C 23 (dk dL_law_24 53 rfl) (by decide) ?_
      refine e_lv [3, 4, 5, 6, 0] rfl ?_
      exact hrec _ _ _ _ _ (by omega) (by omega) h
    · rw [if_pos c6] at h
      refine e_aload_n C 5 (dk dL_law_18 17 rfl) rfl rfl ?_
      refine e_iconst C 0 (dk dL_law_18 18 rfl) (by decide) ?_
      refine e_lald1 C (dk dL_law_18 19 rfl) ?_
      refine e_iload C 0 (dk dL_law_18 20 rfl) rfl ?_
      refine e_i2l C (dk dL_law_18 21 rfl) ?_
      refine e_lcmp C (dk dL_law_18 22 rfl) ?_
      refine e_if_eq C 1879 (dk dL_law_18 23 rfl) (by decide) (fun c7 => ?_) (fun c7 => ?_)
      · rw [if_pos c7] at h
        refine e_goto C 2477 (dk dL_law_18 26 rfl) (by decide) ?_
        refine e_iinc C [(4, .int (x4 + 6)), (6, .int q4.1), (5, .int q2.1), (0, .ref b), (1, .ref (g_N g + 0)), (2, .ref (g_N g + 67)), (3, .ref (g_N g + 106))] 6 6 (dk dL_law_24 52 rfl) rfl (by decide) (by decide) rfl ?_
        refine e_goto C 23 (dk dL_law_24 53 rfl) (by decide) ?_
        refine e_lv [3, 4, 5, 6, 0] rfl ?_
        exact hrec _ _ _ _ _ (by omega) (by omega) h
      · rw [if_neg c7] at h
        cases h
  · rw [if_neg c5] at h
    cases h
set_option maxRecDepth 20000 in
theorem j_law_30 {X : FX} {g : WC} {Xo : Nat → va_E} {b L : Nat} {xs : Nat → Int32} (C : Cx X g RL cL_law 7) (S : SC X g b L xs) {rec : Int32 → Mem → Option Mem} {q : Mem} {z0 k0 sl0 : Nat} (hk : k0 + 4 ≤ 601024) (hs : sl0 + 24 ≤ 7293033) (hrec : ∀ (z k sl : Nat) (x4 : Int32) (M : Mem), k ≤ k0 + 4 → sl ≤ sl0 + 24 → rec x4 M = some q → EW X g z 107 7 (ent g Xo KDf M) k sl 23 [(0, .ref b), (1, .ref (g_N g + 0)), (2, .ref (g_N g + 67)), (3, .ref (g_N g + 106)), (4, .int x4)] []) {x4 : Int32} {M : Mem} (h : J_law_30 L xs rec x4 M = some q) : EW X g z0 107 7 (ent g Xo KDf M) k0 sl0 1882 [(0, .ref b), (1, .ref (g_N g + 0)), (2, .ref (g_N g + 67)), (3, .ref (g_N g + 106)), (4, .int x4)] [] := by
  rw [J_law_30] at h
  refine e_aload_n C 1 (dk dL_law_18 27 rfl) rfl rfl ?_
  refine e_aload_n C 0 (dk dL_law_18 28 rfl) rfl rfl ?_
  refine e_iload C 4 (dk dL_law_18 29 rfl) rfl ?_
  refine e_iconst C 1 (dk dL_law_18 30 rfl) (by decide) ?_
  refine e_iadd C (dk dL_law_18 31 rfl) ?_
  obtain ⟨v1, hv1, h⟩ := ob h
  refine e_scl C S (dk dL_law_18 32 rfl) hv1 ?_
  refine e_aload_n C 0 (dk dL_law_18 33 rfl) rfl rfl ?_
  refine e_iload C 4 (dk dL_law_18 34 rfl) rfl ?_
  refine e_iconst C 2 (dk dL_law_18 35 rfl) (by decide) ?_
  refine e_iadd C (dk dL_law_18 36 rfl) ?_
  obtain ⟨v2, hv2, h⟩ := ob h
  refine e_scl C S (dk dL_law_18 37 rfl) hv2 ?_
  refine e_aload_n C 3 (dk dL_law_18 38 rfl) rfl rfl ?_
  obtain ⟨q3, hq3, h⟩ := ob h
  refine e_lcall C cw_L_meet sm_L_meet ml_L_223 (lroomX S (by decide) (by decide)) (dk dL_law_18 39 rfl) (c_L_meet KDf_KD (t := 0) (o := 106) rfl LA106 hq3) (lcap S (by omega) (by omega)) (Nat.le_of_ble_eq_true rfl) rfl (fun z2 hz2 => ?_)
  refine e_istore C [(5, .int q3.1), (0, .ref b), (1, .ref (g_N g + 0)), (2, .ref (g_N g + 67)), (3, .ref (g_N g + 106)), (4, .int x4)] (dk dL_law_18 40 rfl) (by decide) rfl ?_
  refine e_aload_n C 3 (dk dL_law_18 41 rfl) rfl rfl ?_
  refine e_aload_n C 1 (dk dL_law_18 42 rfl) rfl rfl ?_
  refine e_iload C 5 (dk dL_law_18 43 rfl) rfl ?_
  refine e_iconst C 1 (dk dL_law_18 44 rfl) (by decide) ?_
  refine e_iadd C (dk dL_law_18 45 rfl) ?_
  obtain ⟨v4, hv4, h⟩ := ob h
  refine e_scl C S (dk dL_law_18 46 rfl) hv4 ?_
  refine e_aload_n C 1 (dk dL_law_18 47 rfl) rfl rfl ?_
  refine e_iload C 5 (dk dL_law_18 48 rfl) rfl ?_
  refine e_iconst C 2 (dk dL_law_18 49 rfl) (by decide) ?_
  refine e_iadd C (dk dL_law_18 50 rfl) ?_
  obtain ⟨v5, hv5, h⟩ := ob h
  refine e_scl C S (dk dL_law_18 51 rfl) hv5 ?_
  obtain ⟨q6, hq6, h⟩ := ob h
  refine e_callV2 (ci := 12) C cal_X12_meet im_X12_meet se_X12_meet ml_L_225 rfl (lroom S (by decide) (by decide)) (dk dL_law_18 52 rfl) (by decide) (ent_o12 rfl) (c_X12_meet KDf_KD rfl hq6) (lcap S (by omega) (by omega)) (Nat.le_of_ble_eq_true rfl) rfl ?_
  refine e_istore C [(6, .int q6.1), (5, .int q3.1), (0, .ref b), (1, .ref (g_N g + 0)), (2, .ref (g_N g + 67)), (3, .ref (g_N g + 106)), (4, .int x4)] (dk dL_law_18 53 rfl) (by decide) rfl ?_
  refine e_aload_n C 4 (dk dL_law_18 54 rfl) rfl rfl ?_
  refine e_callV2 (ci := 12) C cal_X12_thrown im_X12_thrown se_X12_thrown ml_L_128 rfl (lroom S (by decide) (by decide)) (dk dL_law_18 55 rfl) (by decide) (ent_o12 rfl) (c_X12_thrown KDf_KD rfl (rfl : F_X12_thrown 67 q6.2 = _)) (lcap S (by omega) (by omega)) (Nat.le_of_ble_eq_true rfl) rfl ?_
  refine e_iload C 1 (dk dL_law_18 56 rfl) rfl ?_
  refine e_icmp_eq C 1930 (dk dL_law_18 57 rfl) (by decide) (fun c7 => ?_) (fun c7 => ?_)
  · rw [if_pos c7] at h
    refine e_iload C 1 (dk dL_law_19 0 rfl) rfl ?_
    refine e_if_ne C 1947 (dk dL_law_19 1 rfl) (by decide) (fun c8 => ?_) (fun c8 => ?_)
    · rw [if_neg c8] at h
      refine e_goto C 2477 (dk dL_law_19 11 rfl) (by decide) ?_
      refine e_iinc C [(4, .int (x4 + 6)), (6, .int q6.1), (5, .int q3.1), (0, .ref b), (1, .ref (g_N g + 0)), (2, .ref (g_N g + 67)), (3, .ref (g_N g + 106))] 6 6 (dk dL_law_24 52 rfl) rfl (by decide) (by decide) rfl ?_
      refine e_goto C 23 (dk dL_law_24 53 rfl) (by decide) ?_
      refine e_lv [3, 4, 5, 6, 0] rfl ?_
      exact hrec _ _ _ _ _ (by omega) (by omega) h
    · rw [if_pos c8] at h
      refine e_aload_n C 5 (dk dL_law_19 2 rfl) rfl rfl ?_
      refine e_iconst C 0 (dk dL_law_19 3 rfl) (by decide) ?_
      refine e_lald1 C (dk dL_law_19 4 rfl) ?_
      refine e_iload C 0 (dk dL_law_19 5 rfl) rfl ?_
      refine e_i2l C (dk dL_law_19 6 rfl) ?_
      refine e_lcmp C (dk dL_law_19 7 rfl) ?_
      refine e_if_eq C 1947 (dk dL_law_19 8 rfl) (by decide) (fun c9 => ?_) (fun c9 => ?_)
      · rw [if_pos c9] at h
        refine e_goto C 2477 (dk dL_law_19 11 rfl) (by decide) ?_
        refine e_iinc C [(4, .int (x4 + 6)), (6, .int q6.1), (5, .int q3.1), (0, .ref b), (1, .ref (g_N g + 0)), (2, .ref (g_N g + 67)), (3, .ref (g_N g + 106))] 6 6 (dk dL_law_24 52 rfl) rfl (by decide) (by decide) rfl ?_
        refine e_goto C 23 (dk dL_law_24 53 rfl) (by decide) ?_
        refine e_lv [3, 4, 5, 6, 0] rfl ?_
        exact hrec _ _ _ _ _ (by omega) (by omega) h
      · rw [if_neg c9] at h
        cases h
  · rw [if_neg c7] at h
    cases h
set_option maxRecDepth 20000 in
theorem j_law_31 {X : FX} {g : WC} {Xo : Nat → va_E} {b L : Nat} {xs : Nat → Int32} (C : Cx X g RL cL_law 7) (S : SC X g b L xs) {rec : Int32 → Mem → Option Mem} {q : Mem} {z0 k0 sl0 : Nat} (hk : k0 + 4 ≤ 601024) (hs : sl0 + 24 ≤ 7293033) (hrec : ∀ (z k sl : Nat) (x4 : Int32) (M : Mem), k ≤ k0 + 4 → sl ≤ sl0 + 24 → rec x4 M = some q → EW X g z 107 7 (ent g Xo KDf M) k sl 23 [(0, .ref b), (1, .ref (g_N g + 0)), (2, .ref (g_N g + 67)), (3, .ref (g_N g + 106)), (4, .int x4)] []) {x4 : Int32} {M : Mem} (h : J_law_31 L xs rec x4 M = some q) : EW X g z0 107 7 (ent g Xo KDf M) k0 sl0 1950 [(0, .ref b), (1, .ref (g_N g + 0)), (2, .ref (g_N g + 67)), (3, .ref (g_N g + 106)), (4, .int x4)] [] := by
  rw [J_law_31] at h
  refine e_aload_n C 1 (dk dL_law_19 12 rfl) rfl rfl ?_
  refine e_aload_n C 0 (dk dL_law_19 13 rfl) rfl rfl ?_
  refine e_iload C 4 (dk dL_law_19 14 rfl) rfl ?_
  refine e_iconst C 1 (dk dL_law_19 15 rfl) (by decide) ?_
  refine e_iadd C (dk dL_law_19 16 rfl) ?_
  obtain ⟨v1, hv1, h⟩ := ob h
  refine e_scl C S (dk dL_law_19 17 rfl) hv1 ?_
  refine e_aload_n C 0 (dk dL_law_19 18 rfl) rfl rfl ?_
  refine e_iload C 4 (dk dL_law_19 19 rfl) rfl ?_
  refine e_iconst C 2 (dk dL_law_19 20 rfl) (by decide) ?_
  refine e_iadd C (dk dL_law_19 21 rfl) ?_
  obtain ⟨v2, hv2, h⟩ := ob h
  refine e_scl C S (dk dL_law_19 22 rfl) hv2 ?_
  refine e_aload_n C 3 (dk dL_law_19 23 rfl) rfl rfl ?_
  obtain ⟨q3, hq3, h⟩ := ob h
  refine e_lcall C cw_L_spends sm_L_spends ml_L_226 (lroomX S (by decide) (by decide)) (dk dL_law_19 24 rfl) (c_L_spends KDf_KD (t := 0) (o := 106) rfl LA106 hq3) (lcap S (by omega) (by omega)) (Nat.le_of_ble_eq_true rfl) rfl (fun z2 hz2 => ?_)
  refine e_istore C [(5, .int q3.1), (0, .ref b), (1, .ref (g_N g + 0)), (2, .ref (g_N g + 67)), (3, .ref (g_N g + 106)), (4, .int x4)] (dk dL_law_19 25 rfl) (by decide) rfl ?_
  refine e_aload_n C 3 (dk dL_law_19 26 rfl) rfl rfl ?_
  refine e_aload_n C 1 (dk dL_law_19 27 rfl) rfl rfl ?_
  refine e_iload C 5 (dk dL_law_19 28 rfl) rfl ?_
  refine e_iconst C 1 (dk dL_law_19 29 rfl) (by decide) ?_
  refine e_iadd C (dk dL_law_19 30 rfl) ?_
  obtain ⟨v4, hv4, h⟩ := ob h
  refine e_scl C S (dk dL_law_19 31 rfl) hv4 ?_
  refine e_aload_n C 1 (dk dL_law_19 32 rfl) rfl rfl ?_
  refine e_iload C 5 (dk dL_law_19 33 rfl) rfl ?_
  refine e_iconst C 2 (dk dL_law_19 34 rfl) (by decide) ?_
  refine e_iadd C (dk dL_law_19 35 rfl) ?_
  obtain ⟨v5, hv5, h⟩ := ob h
  refine e_scl C S (dk dL_law_19 36 rfl) hv5 ?_
  obtain ⟨q6, hq6, h⟩ := ob h
  refine e_callV2 (ci := 12) C cal_X12_spends im_X12_spends se_X12_spends ml_L_228 rfl (lroom S (by decide) (by decide)) (dk dL_law_19 37 rfl) (by decide) (ent_o12 rfl) (c_X12_spends KDf_KD rfl hq6) (lcap S (by omega) (by omega)) (Nat.le_of_ble_eq_true rfl) rfl ?_
  refine e_istore C [(6, .int q6.1), (5, .int q3.1), (0, .ref b), (1, .ref (g_N g + 0)), (2, .ref (g_N g + 67)), (3, .ref (g_N g + 106)), (4, .int x4)] (dk dL_law_19 38 rfl) (by decide) rfl ?_
  refine e_aload_n C 4 (dk dL_law_19 39 rfl) rfl rfl ?_
  refine e_callV2 (ci := 12) C cal_X12_thrown im_X12_thrown se_X12_thrown ml_L_128 rfl (lroom S (by decide) (by decide)) (dk dL_law_19 40 rfl) (by decide) (ent_o12 rfl) (c_X12_thrown KDf_KD rfl (rfl : F_X12_thrown 67 q6.2 = _)) (lcap S (by omega) (by omega)) (Nat.le_of_ble_eq_true rfl) rfl ?_
  refine e_iload C 1 (dk dL_law_19 41 rfl) rfl ?_
  refine e_icmp_eq C 1998 (dk dL_law_19 42 rfl) (by decide) (fun c7 => ?_) (fun c7 => ?_)
  · rw [if_pos c7] at h
    refine e_iload C 1 (dk dL_law_19 45 rfl) rfl ?_
    refine e_if_ne C 2015 (dk dL_law_19 46 rfl) (by decide) (fun c8 => ?_) (fun c8 => ?_)
    · rw [if_neg c8] at h
      refine e_goto C 2477 (dk dL_law_19 56 rfl) (by decide) ?_
      refine e_iinc C [(4, .int (x4 + 6)), (6, .int q6.1), (5, .int q3.1), (0, .ref b), (1, .ref (g_N g + 0)), (2, .ref (g_N g + 67)), (3, .ref (g_N g + 106))] 6 6 (dk dL_law_24 52 rfl) rfl (by decide) (by decide) rfl ?_
      refine e_goto C 23 (dk dL_law_24 53 rfl) (by decide) ?_
      refine e_lv [3, 4, 5, 6, 0] rfl ?_
      exact hrec _ _ _ _ _ (by omega) (by omega) h
    · rw [if_pos c8] at h
      refine e_aload_n C 5 (dk dL_law_19 47 rfl) rfl rfl ?_
      refine e_iconst C 0 (dk dL_law_19 48 rfl) (by decide) ?_
      refine e_lald1 C (dk dL_law_19 49 rfl) ?_
      refine e_iload C 0 (dk dL_law_19 50 rfl) rfl ?_
      refine e_i2l C (dk dL_law_19 51 rfl) ?_
      refine e_lcmp C (dk dL_law_19 52 rfl) ?_
      refine e_if_eq C 2015 (dk dL_law_19 53 rfl) (by decide) (fun c9 => ?_) (fun c9 => ?_)
      · rw [if_pos c9] at h
        refine e_goto C 2477 (dk dL_law_19 56 rfl) (by decide) ?_
        refine e_iinc C [(4, .int (x4 + 6)), (6, .int q6.1), (5, .int q3.1), (0, .ref b), (1, .ref (g_N g + 0)), (2, .ref (g_N g + 67)), (3, .ref (g_N g + 106))] 6 6 (dk dL_law_24 52 rfl) rfl (by decide) (by decide) rfl ?_
        refine e_goto C 23 (dk dL_law_24 53 rfl) (by decide) ?_
        refine e_lv [3, 4, 5, 6, 0] rfl ?_
        exact hrec _ _ _ _ _ (by omega) (by omega) h
      · rw [if_neg c9] at h
        cases h
  · rw [if_neg c7] at h
    cases h
set_option maxRecDepth 20000 in
theorem j_law_32 {X : FX} {g : WC} {Xo : Nat → va_E} {b L : Nat} {xs : Nat → Int32} (C : Cx X g RL cL_law 7) (S : SC X g b L xs) {rec : Int32 → Mem → Option Mem} {q : Mem} {z0 k0 sl0 : Nat} (hk : k0 + 4 ≤ 601024) (hs : sl0 + 24 ≤ 7293033) (hrec : ∀ (z k sl : Nat) (x4 : Int32) (M : Mem), k ≤ k0 + 4 → sl ≤ sl0 + 24 → rec x4 M = some q → EW X g z 107 7 (ent g Xo KDf M) k sl 23 [(0, .ref b), (1, .ref (g_N g + 0)), (2, .ref (g_N g + 67)), (3, .ref (g_N g + 106)), (4, .int x4)] []) {x4 : Int32} {M : Mem} (h : J_law_32 L xs rec x4 M = some q) : EW X g z0 107 7 (ent g Xo KDf M) k0 sl0 2018 [(0, .ref b), (1, .ref (g_N g + 0)), (2, .ref (g_N g + 67)), (3, .ref (g_N g + 106)), (4, .int x4)] [] := by
  rw [J_law_32] at h
  refine e_aload_n C 1 (dk dL_law_19 57 rfl) rfl rfl ?_
  refine e_aload_n C 0 (dk dL_law_19 58 rfl) rfl rfl ?_
  refine e_iload C 4 (dk dL_law_19 59 rfl) rfl ?_
  refine e_iconst C 1 (dk dL_law_20 0 rfl) (by decide) ?_
  refine e_iadd C (dk dL_law_20 1 rfl) ?_
  obtain ⟨v1, hv1, h⟩ := ob h
  refine e_scl C S (dk dL_law_20 2 rfl) hv1 ?_
  refine e_aload_n C 3 (dk dL_law_20 3 rfl) rfl rfl ?_
  obtain ⟨q2, hq2, h⟩ := ob h
  refine e_lcall C cw_L_unknown sm_L_unknown ml_L_229 (lroomX S (by decide) (by decide)) (dk dL_law_20 4 rfl) (c_L_unknown KDf_KD (t := 0) (o := 106) rfl LA106 hq2) (lcap S (by omega) (by omega)) (Nat.le_of_ble_eq_true rfl) rfl (fun z2 hz2 => ?_)
  refine e_istore C [(5, .int q2.1), (0, .ref b), (1, .ref (g_N g + 0)), (2, .ref (g_N g + 67)), (3, .ref (g_N g + 106)), (4, .int x4)] (dk dL_law_20 5 rfl) (by decide) rfl ?_
  refine e_aload_n C 3 (dk dL_law_20 6 rfl) rfl rfl ?_
  refine e_aload_n C 1 (dk dL_law_20 7 rfl) rfl rfl ?_
  refine e_iload C 5 (dk dL_law_20 8 rfl) rfl ?_
  refine e_iconst C 1 (dk dL_law_20 9 rfl) (by decide) ?_
  refine e_iadd C (dk dL_law_20 10 rfl) ?_
  obtain ⟨v3, hv3, h⟩ := ob h
  refine e_scl C S (dk dL_law_20 11 rfl) hv3 ?_
  obtain ⟨q4, hq4, h⟩ := ob h
  refine e_callV2 (ci := 12) C cal_X12_unknown im_X12_unknown se_X12_unknown ml_L_231 rfl (lroom S (by decide) (by decide)) (dk dL_law_20 12 rfl) (by decide) (ent_o12 rfl) (c_X12_unknown KDf_KD rfl hq4) (lcap S (by omega) (by omega)) (Nat.le_of_ble_eq_true rfl) rfl ?_
  refine e_istore C [(6, .int q4.1), (5, .int q2.1), (0, .ref b), (1, .ref (g_N g + 0)), (2, .ref (g_N g + 67)), (3, .ref (g_N g + 106)), (4, .int x4)] (dk dL_law_20 13 rfl) (by decide) rfl ?_
  refine e_aload_n C 4 (dk dL_law_20 14 rfl) rfl rfl ?_
  refine e_callV2 (ci := 12) C cal_X12_thrown im_X12_thrown se_X12_thrown ml_L_128 rfl (lroom S (by decide) (by decide)) (dk dL_law_20 15 rfl) (by decide) (ent_o12 rfl) (c_X12_thrown KDf_KD rfl (rfl : F_X12_thrown 67 q4.2 = _)) (lcap S (by omega) (by omega)) (Nat.le_of_ble_eq_true rfl) rfl ?_
  refine e_iload C 1 (dk dL_law_20 16 rfl) rfl ?_
  refine e_icmp_eq C 2054 (dk dL_law_20 17 rfl) (by decide) (fun c5 => ?_) (fun c5 => ?_)
  · rw [if_pos c5] at h
    refine e_iload C 1 (dk dL_law_20 20 rfl) rfl ?_
    refine e_if_ne C 2071 (dk dL_law_20 21 rfl) (by decide) (fun c6 => ?_) (fun c6 => ?_)
    · rw [if_neg c6] at h
      refine e_goto C 2477 (dk dL_law_20 31 rfl) (by decide) ?_
      refine e_iinc C [(4, .int (x4 + 6)), (6, .int q4.1), (5, .int q2.1), (0, .ref b), (1, .ref (g_N g + 0)), (2, .ref (g_N g + 67)), (3, .ref (g_N g + 106))] 6 6 (dk dL_law_24 52 rfl) rfl (by decide) (by decide) rfl ?_
      refine e_goto C 23 (dk dL_law_24 53 rfl) (by decide) ?_
      refine e_lv [3, 4, 5, 6, 0] rfl ?_
      exact hrec _ _ _ _ _ (by omega) (by omega) h
    · rw [if_pos c6] at h
      refine e_aload_n C 5 (dk dL_law_20 22 rfl) rfl rfl ?_
      refine e_iconst C 0 (dk dL_law_20 23 rfl) (by decide) ?_
      refine e_lald1 C (dk dL_law_20 24 rfl) ?_
      refine e_iload C 0 (dk dL_law_20 25 rfl) rfl ?_
      refine e_i2l C (dk dL_law_20 26 rfl) ?_
      refine e_lcmp C (dk dL_law_20 27 rfl) ?_
      refine e_if_eq C 2071 (dk dL_law_20 28 rfl) (by decide) (fun c7 => ?_) (fun c7 => ?_)
      · rw [if_pos c7] at h
        refine e_goto C 2477 (dk dL_law_20 31 rfl) (by decide) ?_
        refine e_iinc C [(4, .int (x4 + 6)), (6, .int q4.1), (5, .int q2.1), (0, .ref b), (1, .ref (g_N g + 0)), (2, .ref (g_N g + 67)), (3, .ref (g_N g + 106))] 6 6 (dk dL_law_24 52 rfl) rfl (by decide) (by decide) rfl ?_
        refine e_goto C 23 (dk dL_law_24 53 rfl) (by decide) ?_
        refine e_lv [3, 4, 5, 6, 0] rfl ?_
        exact hrec _ _ _ _ _ (by omega) (by omega) h
      · rw [if_neg c7] at h
        cases h
  · rw [if_neg c5] at h
    cases h
set_option maxRecDepth 20000 in
theorem j_law_33 {X : FX} {g : WC} {Xo : Nat → va_E} {b L : Nat} {xs : Nat → Int32} (C : Cx X g RL cL_law 7) (S : SC X g b L xs) {rec : Int32 → Mem → Option Mem} {q : Mem} {z0 k0 sl0 : Nat} (hk : k0 + 4 ≤ 601024) (hs : sl0 + 24 ≤ 7293033) (hrec : ∀ (z k sl : Nat) (x4 : Int32) (M : Mem), k ≤ k0 + 4 → sl ≤ sl0 + 24 → rec x4 M = some q → EW X g z 107 7 (ent g Xo KDf M) k sl 23 [(0, .ref b), (1, .ref (g_N g + 0)), (2, .ref (g_N g + 67)), (3, .ref (g_N g + 106)), (4, .int x4)] []) {x4 : Int32} {M : Mem} (h : J_law_33 L xs rec x4 M = some q) : EW X g z0 107 7 (ent g Xo KDf M) k0 sl0 2074 [(0, .ref b), (1, .ref (g_N g + 0)), (2, .ref (g_N g + 67)), (3, .ref (g_N g + 106)), (4, .int x4)] [] := by
  rw [J_law_33] at h
  refine e_aload_n C 1 (dk dL_law_20 32 rfl) rfl rfl ?_
  refine e_aload_n C 0 (dk dL_law_20 33 rfl) rfl rfl ?_
  refine e_iload C 4 (dk dL_law_20 34 rfl) rfl ?_
  refine e_iconst C 1 (dk dL_law_20 35 rfl) (by decide) ?_
  refine e_iadd C (dk dL_law_20 36 rfl) ?_
  obtain ⟨v1, hv1, h⟩ := ob h
  refine e_scl C S (dk dL_law_20 37 rfl) hv1 ?_
  refine e_aload_n C 0 (dk dL_law_20 38 rfl) rfl rfl ?_
  refine e_iload C 4 (dk dL_law_20 39 rfl) rfl ?_
  refine e_iconst C 2 (dk dL_law_20 40 rfl) (by decide) ?_
  refine e_iadd C (dk dL_law_20 41 rfl) ?_
  obtain ⟨v2, hv2, h⟩ := ob h
  refine e_scl C S (dk dL_law_20 42 rfl) hv2 ?_
  refine e_aload_n C 0 (dk dL_law_20 43 rfl) rfl rfl ?_
  refine e_iload C 4 (dk dL_law_20 44 rfl) rfl ?_
  refine e_iconst C 3 (dk dL_law_20 45 rfl) (by decide) ?_
  refine e_iadd C (dk dL_law_20 46 rfl) ?_
  obtain ⟨v3, hv3, h⟩ := ob h
  refine e_scl C S (dk dL_law_20 47 rfl) hv3 ?_
  suffices hm5 : EW X g z0 107 7 (ent g Xo KDf M) k0 sl0 2101 [(0, .ref b), (1, .ref (g_N g + 0)), (2, .ref (g_N g + 67)), (3, .ref (g_N g + 106)), (4, .int x4)] [.int (if v3 = 0 then (0 : Int32) else (1 : Int32)), .int v2, .int v1, .ref (g_N g + 0)] from (by
    refine e_if_eq C 2100 (dk dL_law_20 48 rfl) (by decide) (fun c4 => ?_) (fun c4 => ?_)
    · rw [show (if v3 = 0 then (0 : Int32) else (1 : Int32)) = 0 from if_pos c4] at hm5
      refine e_iconst C 0 (dk dL_law_20 51 rfl) (by decide) ?_
      exact hm5
    · rw [show (if v3 = 0 then (0 : Int32) else (1 : Int32)) = 1 from if_neg c4] at hm5
      refine e_iconst C 1 (dk dL_law_20 49 rfl) (by decide) ?_
      refine e_goto C 2101 (dk dL_law_20 50 rfl) (by decide) ?_
      exact hm5)
  refine e_aload_n C 3 (dk dL_law_20 52 rfl) rfl rfl ?_
  obtain ⟨q6, hq6, h⟩ := ob h
  refine e_lcall C cw_L_tell sm_L_tell ml_L_232 (lroomX S (by decide) (by decide)) (dk dL_law_20 53 rfl) (c_L_tell KDf_KD (t := 0) (o := 106) rfl LA106 hq6) (lcap S (by omega) (by omega)) (Nat.le_of_ble_eq_true rfl) rfl (fun z2 hz2 => ?_)
  refine e_istore C [(5, .int q6.1), (0, .ref b), (1, .ref (g_N g + 0)), (2, .ref (g_N g + 67)), (3, .ref (g_N g + 106)), (4, .int x4)] (dk dL_law_20 54 rfl) (by decide) rfl ?_
  refine e_aload_n C 3 (dk dL_law_20 55 rfl) rfl rfl ?_
  refine e_aload_n C 1 (dk dL_law_20 56 rfl) rfl rfl ?_
  refine e_iload C 5 (dk dL_law_20 57 rfl) rfl ?_
  refine e_iconst C 1 (dk dL_law_20 58 rfl) (by decide) ?_
  refine e_iadd C (dk dL_law_20 59 rfl) ?_
  obtain ⟨v7, hv7, h⟩ := ob h
  refine e_scl C S (dk dL_law_21 0 rfl) hv7 ?_
  refine e_aload_n C 1 (dk dL_law_21 1 rfl) rfl rfl ?_
  refine e_iload C 5 (dk dL_law_21 2 rfl) rfl ?_
  refine e_iconst C 2 (dk dL_law_21 3 rfl) (by decide) ?_
  refine e_iadd C (dk dL_law_21 4 rfl) ?_
  obtain ⟨v8, hv8, h⟩ := ob h
  refine e_scl C S (dk dL_law_21 5 rfl) hv8 ?_
  refine e_aload_n C 1 (dk dL_law_21 6 rfl) rfl rfl ?_
  refine e_iload C 5 (dk dL_law_21 7 rfl) rfl ?_
  refine e_iconst C 3 (dk dL_law_21 8 rfl) (by decide) ?_
  refine e_iadd C (dk dL_law_21 9 rfl) ?_
  obtain ⟨v9, hv9, h⟩ := ob h
  refine e_scl C S (dk dL_law_21 10 rfl) hv9 ?_
  suffices hm11 : EW X g z2 107 7 (ent g Xo KDf q6.2) (k0 + 1) (sl0 + 6) 2134 [(5, .int q6.1), (0, .ref b), (1, .ref (g_N g + 0)), (2, .ref (g_N g + 67)), (3, .ref (g_N g + 106)), (4, .int x4)] [.int (if v9 = 0 then (0 : Int32) else (1 : Int32)), .int v8, .int v7, .ref (g_N g + 67)] from (by
    refine e_if_eq C 2133 (dk dL_law_21 11 rfl) (by decide) (fun c10 => ?_) (fun c10 => ?_)
    · rw [show (if v9 = 0 then (0 : Int32) else (1 : Int32)) = 0 from if_pos c10] at hm11
      refine e_iconst C 0 (dk dL_law_21 14 rfl) (by decide) ?_
      exact hm11
    · rw [show (if v9 = 0 then (0 : Int32) else (1 : Int32)) = 1 from if_neg c10] at hm11
      refine e_iconst C 1 (dk dL_law_21 12 rfl) (by decide) ?_
      refine e_goto C 2134 (dk dL_law_21 13 rfl) (by decide) ?_
      exact hm11)
  obtain ⟨q12, hq12, h⟩ := ob h
  refine e_callV2 (ci := 12) C cal_X12_tell im_X12_tell se_X12_tell ml_L_235 rfl (lroom S (by decide) (by decide)) (dk dL_law_21 15 rfl) (by decide) (ent_o12 rfl) (c_X12_tell KDf_KD rfl hq12) (lcap S (by omega) (by omega)) (Nat.le_of_ble_eq_true rfl) rfl ?_
  refine e_istore C [(6, .int q12.1), (5, .int q6.1), (0, .ref b), (1, .ref (g_N g + 0)), (2, .ref (g_N g + 67)), (3, .ref (g_N g + 106)), (4, .int x4)] (dk dL_law_21 16 rfl) (by decide) rfl ?_
  refine e_aload_n C 4 (dk dL_law_21 17 rfl) rfl rfl ?_
  refine e_callV2 (ci := 12) C cal_X12_thrown im_X12_thrown se_X12_thrown ml_L_128 rfl (lroom S (by decide) (by decide)) (dk dL_law_21 18 rfl) (by decide) (ent_o12 rfl) (c_X12_thrown KDf_KD rfl (rfl : F_X12_thrown 67 q12.2 = _)) (lcap S (by omega) (by omega)) (Nat.le_of_ble_eq_true rfl) rfl ?_
  refine e_iload C 1 (dk dL_law_21 19 rfl) rfl ?_
  refine e_icmp_eq C 2150 (dk dL_law_21 20 rfl) (by decide) (fun c13 => ?_) (fun c13 => ?_)
  · rw [if_pos c13] at h
    refine e_iload C 1 (dk dL_law_21 23 rfl) rfl ?_
    refine e_if_ne C 2167 (dk dL_law_21 24 rfl) (by decide) (fun c14 => ?_) (fun c14 => ?_)
    · rw [if_neg c14] at h
      refine e_goto C 2477 (dk dL_law_21 34 rfl) (by decide) ?_
      refine e_iinc C [(4, .int (x4 + 6)), (6, .int q12.1), (5, .int q6.1), (0, .ref b), (1, .ref (g_N g + 0)), (2, .ref (g_N g + 67)), (3, .ref (g_N g + 106))] 6 6 (dk dL_law_24 52 rfl) rfl (by decide) (by decide) rfl ?_
      refine e_goto C 23 (dk dL_law_24 53 rfl) (by decide) ?_
      refine e_lv [3, 4, 5, 6, 0] rfl ?_
      exact hrec _ _ _ _ _ (by omega) (by omega) h
    · rw [if_pos c14] at h
      refine e_aload_n C 5 (dk dL_law_21 25 rfl) rfl rfl ?_
      refine e_iconst C 0 (dk dL_law_21 26 rfl) (by decide) ?_
      refine e_lald1 C (dk dL_law_21 27 rfl) ?_
      refine e_iload C 0 (dk dL_law_21 28 rfl) rfl ?_
      refine e_i2l C (dk dL_law_21 29 rfl) ?_
      refine e_lcmp C (dk dL_law_21 30 rfl) ?_
      refine e_if_eq C 2167 (dk dL_law_21 31 rfl) (by decide) (fun c15 => ?_) (fun c15 => ?_)
      · rw [if_pos c15] at h
        refine e_goto C 2477 (dk dL_law_21 34 rfl) (by decide) ?_
        refine e_iinc C [(4, .int (x4 + 6)), (6, .int q12.1), (5, .int q6.1), (0, .ref b), (1, .ref (g_N g + 0)), (2, .ref (g_N g + 67)), (3, .ref (g_N g + 106))] 6 6 (dk dL_law_24 52 rfl) rfl (by decide) (by decide) rfl ?_
        refine e_goto C 23 (dk dL_law_24 53 rfl) (by decide) ?_
        refine e_lv [3, 4, 5, 6, 0] rfl ?_
        exact hrec _ _ _ _ _ (by omega) (by omega) h
      · rw [if_neg c15] at h
        cases h
  · rw [if_neg c13] at h
    cases h
set_option maxRecDepth 20000 in
theorem j_law_34 {X : FX} {g : WC} {Xo : Nat → va_E} {b L : Nat} {xs : Nat → Int32} (C : Cx X g RL cL_law 7) (S : SC X g b L xs) {rec : Int32 → Mem → Option Mem} {q : Mem} {z0 k0 sl0 : Nat} (hk : k0 + 4 ≤ 601024) (hs : sl0 + 24 ≤ 7293033) (hrec : ∀ (z k sl : Nat) (x4 : Int32) (M : Mem), k ≤ k0 + 4 → sl ≤ sl0 + 24 → rec x4 M = some q → EW X g z 107 7 (ent g Xo KDf M) k sl 23 [(0, .ref b), (1, .ref (g_N g + 0)), (2, .ref (g_N g + 67)), (3, .ref (g_N g + 106)), (4, .int x4)] []) {x4 : Int32} {M : Mem} (h : J_law_34 L xs rec x4 M = some q) : EW X g z0 107 7 (ent g Xo KDf M) k0 sl0 2170 [(0, .ref b), (1, .ref (g_N g + 0)), (2, .ref (g_N g + 67)), (3, .ref (g_N g + 106)), (4, .int x4)] [] := by
  rw [J_law_34] at h
  refine e_aload_n C 1 (dk dL_law_21 35 rfl) rfl rfl ?_
  refine e_aload_n C 0 (dk dL_law_21 36 rfl) rfl rfl ?_
  refine e_iload C 4 (dk dL_law_21 37 rfl) rfl ?_
  refine e_iconst C 1 (dk dL_law_21 38 rfl) (by decide) ?_
  refine e_iadd C (dk dL_law_21 39 rfl) ?_
  obtain ⟨v1, hv1, h⟩ := ob h
  refine e_scl C S (dk dL_law_21 40 rfl) hv1 ?_
  refine e_aload_n C 3 (dk dL_law_21 41 rfl) rfl rfl ?_
  obtain ⟨q2, hq2, h⟩ := ob h
  refine e_lcall C cw_L_otherwise sm_L_otherwise ml_L_236 (lroomX S (by decide) (by decide)) (dk dL_law_21 42 rfl) (c_L_otherwise KDf_KD (t := 0) (o := 106) rfl LA106 hq2) (lcap S (by omega) (by omega)) (Nat.le_of_ble_eq_true rfl) rfl (fun z2 hz2 => ?_)
  refine e_istore C [(5, .int q2.1), (0, .ref b), (1, .ref (g_N g + 0)), (2, .ref (g_N g + 67)), (3, .ref (g_N g + 106)), (4, .int x4)] (dk dL_law_21 43 rfl) (by decide) rfl ?_
  refine e_aload_n C 3 (dk dL_law_21 44 rfl) rfl rfl ?_
  refine e_aload_n C 1 (dk dL_law_21 45 rfl) rfl rfl ?_
  refine e_iload C 5 (dk dL_law_21 46 rfl) rfl ?_
  refine e_iconst C 1 (dk dL_law_21 47 rfl) (by decide) ?_
  refine e_iadd C (dk dL_law_21 48 rfl) ?_
  obtain ⟨v3, hv3, h⟩ := ob h
  refine e_scl C S (dk dL_law_21 49 rfl) hv3 ?_
  obtain ⟨q4, hq4, h⟩ := ob h
  refine e_callV2 (ci := 12) C cal_X12_otherwise im_X12_otherwise se_X12_otherwise ml_L_238 rfl (lroom S (by decide) (by decide)) (dk dL_law_21 50 rfl) (by decide) (ent_o12 rfl) (c_X12_otherwise KDf_KD rfl hq4) (lcap S (by omega) (by omega)) (Nat.le_of_ble_eq_true rfl) rfl ?_
  refine e_istore C [(6, .int q4.1), (5, .int q2.1), (0, .ref b), (1, .ref (g_N g + 0)), (2, .ref (g_N g + 67)), (3, .ref (g_N g + 106)), (4, .int x4)] (dk dL_law_21 51 rfl) (by decide) rfl ?_
  refine e_aload_n C 4 (dk dL_law_21 52 rfl) rfl rfl ?_
  refine e_callV2 (ci := 12) C cal_X12_thrown im_X12_thrown se_X12_thrown ml_L_128 rfl (lroom S (by decide) (by decide)) (dk dL_law_21 53 rfl) (by decide) (ent_o12 rfl) (c_X12_thrown KDf_KD rfl (rfl : F_X12_thrown 67 q4.2 = _)) (lcap S (by omega) (by omega)) (Nat.le_of_ble_eq_true rfl) rfl ?_
  refine e_iload C 1 (dk dL_law_21 54 rfl) rfl ?_
  refine e_icmp_eq C 2206 (dk dL_law_21 55 rfl) (by decide) (fun c5 => ?_) (fun c5 => ?_)
  · rw [if_pos c5] at h
    refine e_iload C 1 (dk dL_law_21 58 rfl) rfl ?_
    refine e_if_ne C 2223 (dk dL_law_21 59 rfl) (by decide) (fun c6 => ?_) (fun c6 => ?_)
    · rw [if_neg c6] at h
      refine e_goto C 2477 (dk dL_law_22 9 rfl) (by decide) ?_
      refine e_iinc C [(4, .int (x4 + 6)), (6, .int q4.1), (5, .int q2.1), (0, .ref b), (1, .ref (g_N g + 0)), (2, .ref (g_N g + 67)), (3, .ref (g_N g + 106))] 6 6 (dk dL_law_24 52 rfl) rfl (by decide) (by decide) rfl ?_
      refine e_goto C 23 (dk dL_law_24 53 rfl) (by decide) ?_
      refine e_lv [3, 4, 5, 6, 0] rfl ?_
      exact hrec _ _ _ _ _ (by omega) (by omega) h
    · rw [if_pos c6] at h
      refine e_aload_n C 5 (dk dL_law_22 0 rfl) rfl rfl ?_
      refine e_iconst C 0 (dk dL_law_22 1 rfl) (by decide) ?_
      refine e_lald1 C (dk dL_law_22 2 rfl) ?_
      refine e_iload C 0 (dk dL_law_22 3 rfl) rfl ?_
      refine e_i2l C (dk dL_law_22 4 rfl) ?_
      refine e_lcmp C (dk dL_law_22 5 rfl) ?_
      refine e_if_eq C 2223 (dk dL_law_22 6 rfl) (by decide) (fun c7 => ?_) (fun c7 => ?_)
      · rw [if_pos c7] at h
        refine e_goto C 2477 (dk dL_law_22 9 rfl) (by decide) ?_
        refine e_iinc C [(4, .int (x4 + 6)), (6, .int q4.1), (5, .int q2.1), (0, .ref b), (1, .ref (g_N g + 0)), (2, .ref (g_N g + 67)), (3, .ref (g_N g + 106))] 6 6 (dk dL_law_24 52 rfl) rfl (by decide) (by decide) rfl ?_
        refine e_goto C 23 (dk dL_law_24 53 rfl) (by decide) ?_
        refine e_lv [3, 4, 5, 6, 0] rfl ?_
        exact hrec _ _ _ _ _ (by omega) (by omega) h
      · rw [if_neg c7] at h
        cases h
  · rw [if_neg c5] at h
    cases h
set_option maxRecDepth 20000 in
theorem j_law_35 {X : FX} {g : WC} {Xo : Nat → va_E} {b L : Nat} {xs : Nat → Int32} (C : Cx X g RL cL_law 7) (S : SC X g b L xs) {rec : Int32 → Mem → Option Mem} {q : Mem} {z0 k0 sl0 : Nat} (hk : k0 + 4 ≤ 601024) (hs : sl0 + 24 ≤ 7293033) (hrec : ∀ (z k sl : Nat) (x4 : Int32) (M : Mem), k ≤ k0 + 4 → sl ≤ sl0 + 24 → rec x4 M = some q → EW X g z 107 7 (ent g Xo KDf M) k sl 23 [(0, .ref b), (1, .ref (g_N g + 0)), (2, .ref (g_N g + 67)), (3, .ref (g_N g + 106)), (4, .int x4)] []) {x4 : Int32} {M : Mem} (h : J_law_35 L xs rec x4 M = some q) : EW X g z0 107 7 (ent g Xo KDf M) k0 sl0 2226 [(0, .ref b), (1, .ref (g_N g + 0)), (2, .ref (g_N g + 67)), (3, .ref (g_N g + 106)), (4, .int x4)] [] := by
  rw [J_law_35] at h
  refine e_aload_n C 1 (dk dL_law_22 10 rfl) rfl rfl ?_
  refine e_aload_n C 0 (dk dL_law_22 11 rfl) rfl rfl ?_
  refine e_iload C 4 (dk dL_law_22 12 rfl) rfl ?_
  refine e_iconst C 1 (dk dL_law_22 13 rfl) (by decide) ?_
  refine e_iadd C (dk dL_law_22 14 rfl) ?_
  obtain ⟨v1, hv1, h⟩ := ob h
  refine e_scl C S (dk dL_law_22 15 rfl) hv1 ?_
  refine e_aload_n C 3 (dk dL_law_22 16 rfl) rfl rfl ?_
  obtain ⟨q2, hq2, h⟩ := ob h
  refine e_lcall C cw_L_look sm_L_look ml_L_239 (lroomX S (by decide) (by decide)) (dk dL_law_22 17 rfl) (c_L_look KDf_KD (t := 0) (o := 106) rfl LA106 hq2) (lcap S (by omega) (by omega)) (Nat.le_of_ble_eq_true rfl) rfl (fun z2 hz2 => ?_)
  refine e_istore C [(5, .int q2.1), (0, .ref b), (1, .ref (g_N g + 0)), (2, .ref (g_N g + 67)), (3, .ref (g_N g + 106)), (4, .int x4)] (dk dL_law_22 18 rfl) (by decide) rfl ?_
  refine e_aload_n C 3 (dk dL_law_22 19 rfl) rfl rfl ?_
  refine e_aload_n C 1 (dk dL_law_22 20 rfl) rfl rfl ?_
  refine e_iload C 5 (dk dL_law_22 21 rfl) rfl ?_
  refine e_iconst C 1 (dk dL_law_22 22 rfl) (by decide) ?_
  refine e_iadd C (dk dL_law_22 23 rfl) ?_
  obtain ⟨v3, hv3, h⟩ := ob h
  refine e_scl C S (dk dL_law_22 24 rfl) hv3 ?_
  obtain ⟨q4, hq4, h⟩ := ob h
  refine e_callV2 (ci := 12) C cal_X12_look im_X12_look se_X12_look ml_L_241 rfl (lroom S (by decide) (by decide)) (dk dL_law_22 25 rfl) (by decide) (ent_o12 rfl) (c_X12_look KDf_KD rfl hq4) (lcap S (by omega) (by omega)) (Nat.le_of_ble_eq_true rfl) rfl ?_
  refine e_istore C [(6, .int q4.1), (5, .int q2.1), (0, .ref b), (1, .ref (g_N g + 0)), (2, .ref (g_N g + 67)), (3, .ref (g_N g + 106)), (4, .int x4)] (dk dL_law_22 26 rfl) (by decide) rfl ?_
  refine e_aload_n C 4 (dk dL_law_22 27 rfl) rfl rfl ?_
  refine e_callV2 (ci := 12) C cal_X12_thrown im_X12_thrown se_X12_thrown ml_L_128 rfl (lroom S (by decide) (by decide)) (dk dL_law_22 28 rfl) (by decide) (ent_o12 rfl) (c_X12_thrown KDf_KD rfl (rfl : F_X12_thrown 67 q4.2 = _)) (lcap S (by omega) (by omega)) (Nat.le_of_ble_eq_true rfl) rfl ?_
  refine e_iload C 1 (dk dL_law_22 29 rfl) rfl ?_
  refine e_icmp_eq C 2262 (dk dL_law_22 30 rfl) (by decide) (fun c5 => ?_) (fun c5 => ?_)
  · rw [if_pos c5] at h
    refine e_iload C 1 (dk dL_law_22 33 rfl) rfl ?_
    refine e_if_ne C 2279 (dk dL_law_22 34 rfl) (by decide) (fun c6 => ?_) (fun c6 => ?_)
    · rw [if_neg c6] at h
      refine e_goto C 2477 (dk dL_law_22 44 rfl) (by decide) ?_
      refine e_iinc C [(4, .int (x4 + 6)), (6, .int q4.1), (5, .int q2.1), (0, .ref b), (1, .ref (g_N g + 0)), (2, .ref (g_N g + 67)), (3, .ref (g_N g + 106))] 6 6 (dk dL_law_24 52 rfl) rfl (by decide) (by decide) rfl ?_
      refine e_goto C 23 (dk dL_law_24 53 rfl) (by decide) ?_
      refine e_lv [3, 4, 5, 6, 0] rfl ?_
      exact hrec _ _ _ _ _ (by omega) (by omega) h
    · rw [if_pos c6] at h
      refine e_aload_n C 5 (dk dL_law_22 35 rfl) rfl rfl ?_
      refine e_iconst C 0 (dk dL_law_22 36 rfl) (by decide) ?_
      refine e_lald1 C (dk dL_law_22 37 rfl) ?_
      refine e_iload C 0 (dk dL_law_22 38 rfl) rfl ?_
      refine e_i2l C (dk dL_law_22 39 rfl) ?_
      refine e_lcmp C (dk dL_law_22 40 rfl) ?_
      refine e_if_eq C 2279 (dk dL_law_22 41 rfl) (by decide) (fun c7 => ?_) (fun c7 => ?_)
      · rw [if_pos c7] at h
        refine e_goto C 2477 (dk dL_law_22 44 rfl) (by decide) ?_
        refine e_iinc C [(4, .int (x4 + 6)), (6, .int q4.1), (5, .int q2.1), (0, .ref b), (1, .ref (g_N g + 0)), (2, .ref (g_N g + 67)), (3, .ref (g_N g + 106))] 6 6 (dk dL_law_24 52 rfl) rfl (by decide) (by decide) rfl ?_
        refine e_goto C 23 (dk dL_law_24 53 rfl) (by decide) ?_
        refine e_lv [3, 4, 5, 6, 0] rfl ?_
        exact hrec _ _ _ _ _ (by omega) (by omega) h
      · rw [if_neg c7] at h
        cases h
  · rw [if_neg c5] at h
    cases h
set_option maxRecDepth 20000 in
theorem j_law_36 {X : FX} {g : WC} {Xo : Nat → va_E} {b L : Nat} {xs : Nat → Int32} (C : Cx X g RL cL_law 7) (S : SC X g b L xs) {rec : Int32 → Mem → Option Mem} {q : Mem} {z0 k0 sl0 : Nat} (hk : k0 + 4 ≤ 601024) (hs : sl0 + 24 ≤ 7293033) (hrec : ∀ (z k sl : Nat) (x4 : Int32) (M : Mem), k ≤ k0 + 4 → sl ≤ sl0 + 24 → rec x4 M = some q → EW X g z 107 7 (ent g Xo KDf M) k sl 23 [(0, .ref b), (1, .ref (g_N g + 0)), (2, .ref (g_N g + 67)), (3, .ref (g_N g + 106)), (4, .int x4)] []) {x4 : Int32} {M : Mem} (h : J_law_36 L xs rec x4 M = some q) : EW X g z0 107 7 (ent g Xo KDf M) k0 sl0 2282 [(0, .ref b), (1, .ref (g_N g + 0)), (2, .ref (g_N g + 67)), (3, .ref (g_N g + 106)), (4, .int x4)] [] := by
  rw [J_law_36] at h
  refine e_aload_n C 1 (dk dL_law_22 45 rfl) rfl rfl ?_
  refine e_callV2 (ci := 11) C cal_X11_forget im_X11_forget se_X11_forget ml_L_242 rfl (lroom S (by decide) (by decide)) (dk dL_law_22 46 rfl) (by decide) (ent_o11 rfl) (c_X11_forget KDf_KD rfl (rfl : F_X11_forget 0 M = _)) (lcap S (by omega) (by omega)) (Nat.le_of_ble_eq_true rfl) rfl ?_
  refine e_aload_n C 2 (dk dL_law_22 47 rfl) rfl rfl ?_
  refine e_callV2 (ci := 12) C cal_X12_forget im_X12_forget se_X12_forget ml_L_245 rfl (lroom S (by decide) (by decide)) (dk dL_law_22 48 rfl) (by decide) (ent_o12 rfl) (c_X12_forget KDf_KD rfl (rfl : F_X12_forget 67 (F_X11_forget 0 M) = _)) (lcap S (by omega) (by omega)) (Nat.le_of_ble_eq_true rfl) rfl ?_
  refine e_goto C 2477 (dk dL_law_22 49 rfl) (by decide) ?_
  refine e_iinc C [(4, .int (x4 + 6)), (0, .ref b), (1, .ref (g_N g + 0)), (2, .ref (g_N g + 67)), (3, .ref (g_N g + 106))] 4 6 (dk dL_law_24 52 rfl) rfl (by decide) (by decide) rfl ?_
  refine e_goto C 23 (dk dL_law_24 53 rfl) (by decide) ?_
  refine e_lv [1, 2, 3, 4, 0] rfl ?_
  exact hrec _ _ _ _ _ (by omega) (by omega) h
set_option maxRecDepth 20000 in
theorem j_law_37 {X : FX} {g : WC} {Xo : Nat → va_E} {b L : Nat} {xs : Nat → Int32} (C : Cx X g RL cL_law 7) (S : SC X g b L xs) {rec : Int32 → Mem → Option Mem} {q : Mem} {z0 k0 sl0 : Nat} (hk : k0 + 4 ≤ 601024) (hs : sl0 + 24 ≤ 7293033) (hrec : ∀ (z k sl : Nat) (x4 : Int32) (M : Mem), k ≤ k0 + 4 → sl ≤ sl0 + 24 → rec x4 M = some q → EW X g z 107 7 (ent g Xo KDf M) k sl 23 [(0, .ref b), (1, .ref (g_N g + 0)), (2, .ref (g_N g + 67)), (3, .ref (g_N g + 106)), (4, .int x4)] []) {x4 : Int32} {M : Mem} (h : J_law_37 L xs rec x4 M = some q) : EW X g z0 107 7 (ent g Xo KDf M) k0 sl0 2293 [(0, .ref b), (1, .ref (g_N g + 0)), (2, .ref (g_N g + 67)), (3, .ref (g_N g + 106)), (4, .int x4)] [] := by
  rw [J_law_37] at h
  refine e_aload_n C 1 (dk dL_law_22 50 rfl) rfl rfl ?_
  refine e_aload_n C 0 (dk dL_law_22 51 rfl) rfl rfl ?_
  refine e_iload C 4 (dk dL_law_22 52 rfl) rfl ?_
  refine e_iconst C 1 (dk dL_law_22 53 rfl) (by decide) ?_
  refine e_iadd C (dk dL_law_22 54 rfl) ?_
  obtain ⟨v1, hv1, h⟩ := ob h
  refine e_scl C S (dk dL_law_22 55 rfl) hv1 ?_
  refine e_aload_n C 0 (dk dL_law_22 56 rfl) rfl rfl ?_
  refine e_iload C 4 (dk dL_law_22 57 rfl) rfl ?_
  refine e_iconst C 2 (dk dL_law_22 58 rfl) (by decide) ?_
  refine e_iadd C (dk dL_law_22 59 rfl) ?_
  obtain ⟨v2, hv2, h⟩ := ob h
  refine e_scl C S (dk dL_law_23 0 rfl) hv2 ?_
  refine e_aload_n C 0 (dk dL_law_23 1 rfl) rfl rfl ?_
  refine e_iload C 4 (dk dL_law_23 2 rfl) rfl ?_
  refine e_iconst C 3 (dk dL_law_23 3 rfl) (by decide) ?_
  refine e_iadd C (dk dL_law_23 4 rfl) ?_
  obtain ⟨v3, hv3, h⟩ := ob h
  refine e_scl C S (dk dL_law_23 5 rfl) hv3 ?_
  refine e_aload_n C 3 (dk dL_law_23 6 rfl) rfl rfl ?_
  obtain ⟨q4, hq4, h⟩ := ob h
  refine e_lcall C cw_L_game sm_L_game ml_L_246 (lroomX S (by decide) (by decide)) (dk dL_law_23 7 rfl) (c_L_game KDf_KD (t := 0) (o := 106) rfl LA106 hq4) (lcap S (by omega) (by omega)) (Nat.le_of_ble_eq_true rfl) rfl (fun z2 hz2 => ?_)
  refine e_istore C [(5, .int q4.1), (0, .ref b), (1, .ref (g_N g + 0)), (2, .ref (g_N g + 67)), (3, .ref (g_N g + 106)), (4, .int x4)] (dk dL_law_23 8 rfl) (by decide) rfl ?_
  refine e_aload_n C 3 (dk dL_law_23 9 rfl) rfl rfl ?_
  refine e_aload_n C 1 (dk dL_law_23 10 rfl) rfl rfl ?_
  refine e_iload C 5 (dk dL_law_23 11 rfl) rfl ?_
  refine e_iconst C 1 (dk dL_law_23 12 rfl) (by decide) ?_
  refine e_iadd C (dk dL_law_23 13 rfl) ?_
  obtain ⟨v5, hv5, h⟩ := ob h
  refine e_scl C S (dk dL_law_23 14 rfl) hv5 ?_
  refine e_aload_n C 1 (dk dL_law_23 15 rfl) rfl rfl ?_
  refine e_iload C 5 (dk dL_law_23 16 rfl) rfl ?_
  refine e_iconst C 2 (dk dL_law_23 17 rfl) (by decide) ?_
  refine e_iadd C (dk dL_law_23 18 rfl) ?_
  obtain ⟨v6, hv6, h⟩ := ob h
  refine e_scl C S (dk dL_law_23 19 rfl) hv6 ?_
  refine e_aload_n C 1 (dk dL_law_23 20 rfl) rfl rfl ?_
  refine e_iload C 5 (dk dL_law_23 21 rfl) rfl ?_
  refine e_iconst C 3 (dk dL_law_23 22 rfl) (by decide) ?_
  refine e_iadd C (dk dL_law_23 23 rfl) ?_
  obtain ⟨v7, hv7, h⟩ := ob h
  refine e_scl C S (dk dL_law_23 24 rfl) hv7 ?_
  obtain ⟨q8, hq8, h⟩ := ob h
  refine e_callV2 (ci := 12) C cal_X12_game im_X12_game se_X12_game ml_L_248 rfl (lroom S (by decide) (by decide)) (dk dL_law_23 25 rfl) (by decide) (ent_o12 rfl) (c_X12_game KDf_KD rfl hq8) (lcap S (by omega) (by omega)) (Nat.le_of_ble_eq_true rfl) rfl ?_
  refine e_istore C [(6, .int q8.1), (5, .int q4.1), (0, .ref b), (1, .ref (g_N g + 0)), (2, .ref (g_N g + 67)), (3, .ref (g_N g + 106)), (4, .int x4)] (dk dL_law_23 26 rfl) (by decide) rfl ?_
  refine e_aload_n C 4 (dk dL_law_23 27 rfl) rfl rfl ?_
  refine e_callV2 (ci := 12) C cal_X12_thrown im_X12_thrown se_X12_thrown ml_L_128 rfl (lroom S (by decide) (by decide)) (dk dL_law_23 28 rfl) (by decide) (ent_o12 rfl) (c_X12_thrown KDf_KD rfl (rfl : F_X12_thrown 67 q8.2 = _)) (lcap S (by omega) (by omega)) (Nat.le_of_ble_eq_true rfl) rfl ?_
  refine e_iload C 1 (dk dL_law_23 29 rfl) rfl ?_
  refine e_icmp_eq C 2353 (dk dL_law_23 30 rfl) (by decide) (fun c9 => ?_) (fun c9 => ?_)
  · rw [if_pos c9] at h
    refine e_iload C 1 (dk dL_law_23 33 rfl) rfl ?_
    refine e_if_ne C 2370 (dk dL_law_23 34 rfl) (by decide) (fun c10 => ?_) (fun c10 => ?_)
    · rw [if_neg c10] at h
      refine e_goto C 2477 (dk dL_law_23 44 rfl) (by decide) ?_
      refine e_iinc C [(4, .int (x4 + 6)), (6, .int q8.1), (5, .int q4.1), (0, .ref b), (1, .ref (g_N g + 0)), (2, .ref (g_N g + 67)), (3, .ref (g_N g + 106))] 6 6 (dk dL_law_24 52 rfl) rfl (by decide) (by decide) rfl ?_
      refine e_goto C 23 (dk dL_law_24 53 rfl) (by decide) ?_
      refine e_lv [3, 4, 5, 6, 0] rfl ?_
      exact hrec _ _ _ _ _ (by omega) (by omega) h
    · rw [if_pos c10] at h
      refine e_aload_n C 5 (dk dL_law_23 35 rfl) rfl rfl ?_
      refine e_iconst C 0 (dk dL_law_23 36 rfl) (by decide) ?_
      refine e_lald1 C (dk dL_law_23 37 rfl) ?_
      refine e_iload C 0 (dk dL_law_23 38 rfl) rfl ?_
      refine e_i2l C (dk dL_law_23 39 rfl) ?_
      refine e_lcmp C (dk dL_law_23 40 rfl) ?_
      refine e_if_eq C 2370 (dk dL_law_23 41 rfl) (by decide) (fun c11 => ?_) (fun c11 => ?_)
      · rw [if_pos c11] at h
        refine e_goto C 2477 (dk dL_law_23 44 rfl) (by decide) ?_
        refine e_iinc C [(4, .int (x4 + 6)), (6, .int q8.1), (5, .int q4.1), (0, .ref b), (1, .ref (g_N g + 0)), (2, .ref (g_N g + 67)), (3, .ref (g_N g + 106))] 6 6 (dk dL_law_24 52 rfl) rfl (by decide) (by decide) rfl ?_
        refine e_goto C 23 (dk dL_law_24 53 rfl) (by decide) ?_
        refine e_lv [3, 4, 5, 6, 0] rfl ?_
        exact hrec _ _ _ _ _ (by omega) (by omega) h
      · rw [if_neg c11] at h
        cases h
  · rw [if_neg c9] at h
    cases h
set_option maxRecDepth 20000 in
theorem j_law_38 {X : FX} {g : WC} {Xo : Nat → va_E} {b L : Nat} {xs : Nat → Int32} (C : Cx X g RL cL_law 7) (S : SC X g b L xs) {rec : Int32 → Mem → Option Mem} {q : Mem} {z0 k0 sl0 : Nat} (hk : k0 + 4 ≤ 601024) (hs : sl0 + 24 ≤ 7293033) (hrec : ∀ (z k sl : Nat) (x4 : Int32) (M : Mem), k ≤ k0 + 4 → sl ≤ sl0 + 24 → rec x4 M = some q → EW X g z 107 7 (ent g Xo KDf M) k sl 23 [(0, .ref b), (1, .ref (g_N g + 0)), (2, .ref (g_N g + 67)), (3, .ref (g_N g + 106)), (4, .int x4)] []) {x4 : Int32} {M : Mem} (h : J_law_38 L xs rec x4 M = some q) : EW X g z0 107 7 (ent g Xo KDf M) k0 sl0 2373 [(0, .ref b), (1, .ref (g_N g + 0)), (2, .ref (g_N g + 67)), (3, .ref (g_N g + 106)), (4, .int x4)] [] := by
  rw [J_law_38] at h
  refine e_aload_n C 1 (dk dL_law_23 45 rfl) rfl rfl ?_
  refine e_aload_n C 0 (dk dL_law_23 46 rfl) rfl rfl ?_
  refine e_iload C 4 (dk dL_law_23 47 rfl) rfl ?_
  refine e_iconst C 1 (dk dL_law_23 48 rfl) (by decide) ?_
  refine e_iadd C (dk dL_law_23 49 rfl) ?_
  obtain ⟨v1, hv1, h⟩ := ob h
  refine e_scl C S (dk dL_law_23 50 rfl) hv1 ?_
  refine e_aload_n C 0 (dk dL_law_23 51 rfl) rfl rfl ?_
  refine e_iload C 4 (dk dL_law_23 52 rfl) rfl ?_
  refine e_iconst C 2 (dk dL_law_23 53 rfl) (by decide) ?_
  refine e_iadd C (dk dL_law_23 54 rfl) ?_
  obtain ⟨v2, hv2, h⟩ := ob h
  refine e_scl C S (dk dL_law_23 55 rfl) hv2 ?_
  refine e_aload_n C 0 (dk dL_law_23 56 rfl) rfl rfl ?_
  refine e_iload C 4 (dk dL_law_23 57 rfl) rfl ?_
  refine e_iconst C 3 (dk dL_law_23 58 rfl) (by decide) ?_
  refine e_iadd C (dk dL_law_23 59 rfl) ?_
  obtain ⟨v3, hv3, h⟩ := ob h
  refine e_scl C S (dk dL_law_24 0 rfl) hv3 ?_
  refine e_aload_n C 3 (dk dL_law_24 1 rfl) rfl rfl ?_
  obtain ⟨q4, hq4, h⟩ := ob h
  refine e_lcall C cw_L_years sm_L_years ml_L_249 (lroomX S (by decide) (by decide)) (dk dL_law_24 2 rfl) (c_L_years KDf_KD (t := 0) (o := 106) rfl LA106 hq4) (lcap S (by omega) (by omega)) (Nat.le_of_ble_eq_true rfl) rfl (fun z2 hz2 => ?_)
  refine e_istore C [(5, .int q4.1), (0, .ref b), (1, .ref (g_N g + 0)), (2, .ref (g_N g + 67)), (3, .ref (g_N g + 106)), (4, .int x4)] (dk dL_law_24 3 rfl) (by decide) rfl ?_
  refine e_aload_n C 3 (dk dL_law_24 4 rfl) rfl rfl ?_
  refine e_aload_n C 1 (dk dL_law_24 5 rfl) rfl rfl ?_
  refine e_iload C 5 (dk dL_law_24 6 rfl) rfl ?_
  refine e_iconst C 1 (dk dL_law_24 7 rfl) (by decide) ?_
  refine e_iadd C (dk dL_law_24 8 rfl) ?_
  obtain ⟨v5, hv5, h⟩ := ob h
  refine e_scl C S (dk dL_law_24 9 rfl) hv5 ?_
  refine e_aload_n C 1 (dk dL_law_24 10 rfl) rfl rfl ?_
  refine e_iload C 5 (dk dL_law_24 11 rfl) rfl ?_
  refine e_iconst C 2 (dk dL_law_24 12 rfl) (by decide) ?_
  refine e_iadd C (dk dL_law_24 13 rfl) ?_
  obtain ⟨v6, hv6, h⟩ := ob h
  refine e_scl C S (dk dL_law_24 14 rfl) hv6 ?_
  refine e_aload_n C 1 (dk dL_law_24 15 rfl) rfl rfl ?_
  refine e_iload C 5 (dk dL_law_24 16 rfl) rfl ?_
  refine e_iconst C 3 (dk dL_law_24 17 rfl) (by decide) ?_
  refine e_iadd C (dk dL_law_24 18 rfl) ?_
  obtain ⟨v7, hv7, h⟩ := ob h
  refine e_scl C S (dk dL_law_24 19 rfl) hv7 ?_
  obtain ⟨q8, hq8, h⟩ := ob h
  refine e_callV2 (ci := 12) C cal_X12_years im_X12_years se_X12_years ml_L_251 rfl (lroom S (by decide) (by decide)) (dk dL_law_24 20 rfl) (by decide) (ent_o12 rfl) (c_X12_years KDf_KD rfl hq8) (lcap S (by omega) (by omega)) (Nat.le_of_ble_eq_true rfl) rfl ?_
  refine e_istore C [(6, .int q8.1), (5, .int q4.1), (0, .ref b), (1, .ref (g_N g + 0)), (2, .ref (g_N g + 67)), (3, .ref (g_N g + 106)), (4, .int x4)] (dk dL_law_24 21 rfl) (by decide) rfl ?_
  refine e_aload_n C 4 (dk dL_law_24 22 rfl) rfl rfl ?_
  refine e_callV2 (ci := 12) C cal_X12_thrown im_X12_thrown se_X12_thrown ml_L_128 rfl (lroom S (by decide) (by decide)) (dk dL_law_24 23 rfl) (by decide) (ent_o12 rfl) (c_X12_thrown KDf_KD rfl (rfl : F_X12_thrown 67 q8.2 = _)) (lcap S (by omega) (by omega)) (Nat.le_of_ble_eq_true rfl) rfl ?_
  refine e_iload C 1 (dk dL_law_24 24 rfl) rfl ?_
  refine e_icmp_eq C 2433 (dk dL_law_24 25 rfl) (by decide) (fun c9 => ?_) (fun c9 => ?_)
  · rw [if_pos c9] at h
    refine e_iload C 1 (dk dL_law_24 28 rfl) rfl ?_
    refine e_if_ne C 2450 (dk dL_law_24 29 rfl) (by decide) (fun c10 => ?_) (fun c10 => ?_)
    · rw [if_neg c10] at h
      refine e_goto C 2477 (dk dL_law_24 39 rfl) (by decide) ?_
      refine e_iinc C [(4, .int (x4 + 6)), (6, .int q8.1), (5, .int q4.1), (0, .ref b), (1, .ref (g_N g + 0)), (2, .ref (g_N g + 67)), (3, .ref (g_N g + 106))] 6 6 (dk dL_law_24 52 rfl) rfl (by decide) (by decide) rfl ?_
      refine e_goto C 23 (dk dL_law_24 53 rfl) (by decide) ?_
      refine e_lv [3, 4, 5, 6, 0] rfl ?_
      exact hrec _ _ _ _ _ (by omega) (by omega) h
    · rw [if_pos c10] at h
      refine e_aload_n C 5 (dk dL_law_24 30 rfl) rfl rfl ?_
      refine e_iconst C 0 (dk dL_law_24 31 rfl) (by decide) ?_
      refine e_lald1 C (dk dL_law_24 32 rfl) ?_
      refine e_iload C 0 (dk dL_law_24 33 rfl) rfl ?_
      refine e_i2l C (dk dL_law_24 34 rfl) ?_
      refine e_lcmp C (dk dL_law_24 35 rfl) ?_
      refine e_if_eq C 2450 (dk dL_law_24 36 rfl) (by decide) (fun c11 => ?_) (fun c11 => ?_)
      · rw [if_pos c11] at h
        refine e_goto C 2477 (dk dL_law_24 39 rfl) (by decide) ?_
        refine e_iinc C [(4, .int (x4 + 6)), (6, .int q8.1), (5, .int q4.1), (0, .ref b), (1, .ref (g_N g + 0)), (2, .ref (g_N g + 67)), (3, .ref (g_N g + 106))] 6 6 (dk dL_law_24 52 rfl) rfl (by decide) (by decide) rfl ?_
        refine e_goto C 23 (dk dL_law_24 53 rfl) (by decide) ?_
        refine e_lv [3, 4, 5, 6, 0] rfl ?_
        exact hrec _ _ _ _ _ (by omega) (by omega) h
      · rw [if_neg c11] at h
        cases h
  · rw [if_neg c9] at h
    cases h
set_option maxRecDepth 20000 in
theorem j_law_39 {X : FX} {g : WC} {Xo : Nat → va_E} {b L : Nat} {xs : Nat → Int32} (C : Cx X g RL cL_law 7) (S : SC X g b L xs) {rec : Int32 → Mem → Option Mem} {q : Mem} {z0 k0 sl0 : Nat} (hk : k0 + 4 ≤ 601024) (hs : sl0 + 24 ≤ 7293033) (hrec : ∀ (z k sl : Nat) (x4 : Int32) (M : Mem), k ≤ k0 + 4 → sl ≤ sl0 + 24 → rec x4 M = some q → EW X g z 107 7 (ent g Xo KDf M) k sl 23 [(0, .ref b), (1, .ref (g_N g + 0)), (2, .ref (g_N g + 67)), (3, .ref (g_N g + 106)), (4, .int x4)] []) {x4 : Int32} {M : Mem} (h : J_law_39 L xs rec x4 M = some q) : EW X g z0 107 7 (ent g Xo KDf M) k0 sl0 2453 [(0, .ref b), (1, .ref (g_N g + 0)), (2, .ref (g_N g + 67)), (3, .ref (g_N g + 106)), (4, .int x4)] [] := by
  rw [J_law_39] at h
  refine e_aload_n C 1 (dk dL_law_24 40 rfl) rfl rfl ?_
  obtain ⟨q1, hq1, h⟩ := ob h
  refine e_callV2 (ci := 11) C cal_X11_image im_X11_image se_X11_image ml_L_252 rfl (lroom S (by decide) (by decide)) (dk dL_law_24 41 rfl) (by decide) (ent_o11 rfl) (c_X11_image KDf_KD rfl hq1) (lcap S (by omega) (by omega)) (Nat.le_of_ble_eq_true rfl) rfl ?_
  refine e_aload_n C 2 (dk dL_law_24 42 rfl) rfl rfl ?_
  obtain ⟨q2, hq2, h⟩ := ob h
  refine e_callV2 (ci := 12) C cal_X12_image im_X12_image se_X12_image ml_L_255 rfl (lroom S (by decide) (by decide)) (dk dL_law_24 43 rfl) (by decide) (ent_o12 rfl) (c_X12_image KDf_KD rfl hq2) (lcap S (by omega) (by omega)) (Nat.le_of_ble_eq_true rfl) rfl ?_
  refine e_goto C 2477 (dk dL_law_24 44 rfl) (by decide) ?_
  refine e_iinc C [(4, .int (x4 + 6)), (0, .ref b), (1, .ref (g_N g + 0)), (2, .ref (g_N g + 67)), (3, .ref (g_N g + 106))] 4 6 (dk dL_law_24 52 rfl) rfl (by decide) (by decide) rfl ?_
  refine e_goto C 23 (dk dL_law_24 53 rfl) (by decide) ?_
  refine e_lv [1, 2, 3, 4, 0] rfl ?_
  exact hrec _ _ _ _ _ (by omega) (by omega) h
set_option maxRecDepth 20000 in
theorem j_law_40 {X : FX} {g : WC} {Xo : Nat → va_E} {b L : Nat} {xs : Nat → Int32} (C : Cx X g RL cL_law 7) (S : SC X g b L xs) {rec : Int32 → Mem → Option Mem} {q : Mem} {z0 k0 sl0 : Nat} (hk : k0 + 4 ≤ 601024) (hs : sl0 + 24 ≤ 7293033) (hrec : ∀ (z k sl : Nat) (x4 : Int32) (M : Mem), k ≤ k0 + 4 → sl ≤ sl0 + 24 → rec x4 M = some q → EW X g z 107 7 (ent g Xo KDf M) k sl 23 [(0, .ref b), (1, .ref (g_N g + 0)), (2, .ref (g_N g + 67)), (3, .ref (g_N g + 106)), (4, .int x4)] []) {x4 : Int32} {M : Mem} (h : J_law_40 L xs rec x4 M = some q) : EW X g z0 107 7 (ent g Xo KDf M) k0 sl0 2464 [(0, .ref b), (1, .ref (g_N g + 0)), (2, .ref (g_N g + 67)), (3, .ref (g_N g + 106)), (4, .int x4)] [] := by
  rw [J_law_40] at h
  refine e_aload_n C 1 (dk dL_law_24 45 rfl) rfl rfl ?_
  obtain ⟨q1, hq1, h⟩ := ob h
  refine e_callV2 (ci := 11) C cal_X11_restore im_X11_restore se_X11_restore ml_L_256 rfl (lroom S (by decide) (by decide)) (dk dL_law_24 46 rfl) (by decide) (ent_o11 rfl) (c_X11_restore KDf_KD rfl hq1) (lcap S (by omega) (by omega)) (Nat.le_of_ble_eq_true rfl) rfl ?_
  refine e_aload_n C 2 (dk dL_law_24 47 rfl) rfl rfl ?_
  obtain ⟨q2, hq2, h⟩ := ob h
  refine e_callV2 (ci := 12) C cal_X12_restore im_X12_restore se_X12_restore ml_L_260 rfl (lroom S (by decide) (by decide)) (dk dL_law_24 48 rfl) (by decide) (ent_o12 rfl) (c_X12_restore KDf_KD rfl hq2) (lcap S (by omega) (by omega)) (Nat.le_of_ble_eq_true rfl) rfl ?_
  refine e_icmp_eq C 2477 (dk dL_law_24 49 rfl) (by decide) (fun c3 => ?_) (fun c3 => ?_)
  · rw [if_pos c3] at h
    refine e_iinc C [(4, .int (x4 + 6)), (0, .ref b), (1, .ref (g_N g + 0)), (2, .ref (g_N g + 67)), (3, .ref (g_N g + 106))] 4 6 (dk dL_law_24 52 rfl) rfl (by decide) (by decide) rfl ?_
    refine e_goto C 23 (dk dL_law_24 53 rfl) (by decide) ?_
    refine e_lv [1, 2, 3, 4, 0] rfl ?_
    exact hrec _ _ _ _ _ (by omega) (by omega) h
  · rw [if_neg c3] at h
    cases h
